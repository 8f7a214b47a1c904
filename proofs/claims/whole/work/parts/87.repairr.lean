/-! The reference: repair -/
theorem gE_sar (v : BitVec 16) : px_sar (gE v) 8 = px_ushr (gE v) 8 &&& 255 := by
  have hv := v.isLt
  unfold gE
  have h1 : px_sar (nI v.toNat) 8 = nI (v.toNat / 2 ^ 8) := px_sarN (k := 8) (by omega) (by decide)
  have h2 : px_ushr (nI v.toNat) 8 = nI (v.toNat / 2 ^ 8) := px_ushrN (k := 8) (by omega) (by decide)
  rw [h1, h2, nI_and255 (by omega), Nat.mod_eq_of_lt (by omega)]
def rc_at (S : px_S) (C : List Int32) : Prop := ∀ i, i < C.length → S 15 i = C.getD i 0
theorem rc_set {S : px_S} {C : List Int32} (h : rc_at S C) {k : Nat} (v : Int32) : rc_at (px_u S 15 k v) (C.set k v) := by
  intro i hi
  rw [List.length_set] at hi
  rw [px_ua, List.getD_eq_getElem?_getD, List.getElem?_set]
  by_cases hik : k = i
  · subst hik
    rw [if_pos ⟨rfl, rfl⟩, if_pos rfl, if_pos hi]
    rfl
  · rw [if_neg (fun z => hik z.2.symm), if_neg hik, h i hi, List.getD_eq_getElem?_getD]
def rq_fr (S S' : px_S) : Prop := S' 0 2 = S 0 2 ∧ S' 0 6 = S 0 6 ∧ S' 1 = S 1 ∧ S' 2 = S 2 ∧ S' 3 = S 3 ∧ S' 6 = S 6
theorem rq_R {S S' : px_S} {T V : List Int32} {F F' : Nat → List Int32} (hR : sv_R S T F V) (h : rq_fr S S') (hF : rs_F S' F') : sv_R S' T F' V := by
  obtain ⟨a, b, c, e, f, g⟩ := h
  refine ⟨⟨by rw [c]; exact hR.1.1, by rw [e]; exact hR.1.2⟩, ⟨by rw [a]; exact hR.2.1.1, by rw [f]; exact hR.2.1.2⟩, hF, by rw [b]; exact hR.2.2.2.1, by rw [g]; exact hR.2.2.2.2⟩
section
variable {G : px_G} {d : Nat} {S : px_S} {V T C : List Int32} {F : Nat → List Int32} {N : Nat → Option Nat} {l : List Nat} {n m : Nat} {t : Nat → Nat}
theorem k_Mo_putSlices {Q : px_S → Prop} {p : Nat → Nat} {R : Nat → Nat → BitVec 16} (hc : rc_at S C) (hC : C.length = 8 * n) (hn : n ≤ 12) (hD : l.length ≤ 12) (hln : ∀ j ∈ l, j < n) (h18 : ∀ u, u < l.length → S 18 u = nI (l.getD u 0)) (hrow : ∀ q, q < l.length → re_row S l.length q (R q)) (hp : ∀ q, q < l.length → fp l.length (R q) = p q ∧ p q < l.length)
    (hQ : ∀ S', rc_at S' (sl_pa C l p R l.length) → (∀ i, i ≠ 15 → S' i = S i) → Q S') : px_V G px_Zr (d + 1) m_Mo_putSlices [.ref 0, .int (nI l.length)] S Q := by
  have t2 : ∀ (r q : Nat) (S1 : px_S), r + q = l.length → rc_at S1 (sl_pa C l p R q) → (∀ i, i ≠ 15 → S1 i = S i) → px_w G px_Zr (d + 1) m_Mo_putSlices 2 [.ref 0, .int (nI l.length), .int (nI q), .null, .null] [] S1 (px_vq Q) := by
    intro r
    induction r with
    | zero =>
      intro q S1 hq hc1 f1
      have : q = l.length := by omega
      subst this
      exact e_Mo_putSlices_2 ⟨fun _ => px_vq_i (hQ S1 hc1 f1), fun z => absurd (Int32.le_refl _) z⟩
    | succ r ih =>
      intro q S1 hq hc1 f1
      obtain ⟨hf, hpl⟩ := hp q (by omega)
      have hjn := hln _ (nl_mem hpl)
      refine e_Mo_putSlices_2 ⟨fun z => absurd z (nI_ge (by omega) (by omega)), fun _ => ?_⟩
      refine k_Mo_lead (u := R q) (by omega) hD (by rw [f1 16 (by decide)]; exact (hrow q (by omega)).1) ?_
      rw [hf, nI_clamp (by omega), f1 18 (by decide), h18 _ hpl]
      refine ⟨vp_in_nI (by omega) (by decide), ?_⟩
      have t22 : ∀ (r2 i : Nat) (S1 : px_S), r2 + i = 4 → rc_at S1 (sl_p4 (sl_pa C l p R q) (l.getD (p q) 0) (R q) i) → (∀ i, i ≠ 15 → S1 i = S i) → px_w G px_Zr (d + 1) m_Mo_putSlices 22 [.ref 0, .int (nI l.length), .int (nI q), .int (nI (l.getD (p q) 0)), .int (nI i)] [] S1 (px_vq Q) := by
        intro r2
        induction r2 with
        | zero =>
          intro i S1 hi hc1 f1
          have : i = 4 := by omega
          subst this
          refine e_Mo_putSlices_22 ⟨fun _ => ?_, fun z => absurd (Int32.le_refl _) z⟩
          rw [nI_1]
          exact ih (q + 1) S1 (by omega) hc1 f1
        | succ r2 ih2 =>
          intro i S1 hi hc1 f1
          refine e_Mo_putSlices_22 ⟨fun z => absurd z (nI_ge (b := 4) (by omega) (by decide)), fun _ => ?_⟩
          have e17 : S1 17 (4 * q + i) = gE (R q (12 + i)) := by rw [f1 17 (by decide)]; exact (hrow q (by omega)).2 i (by omega)
          rw [show (4 : Int32) * nI q = nI (4 * q) from pk_mul 4 q, show (8 : Int32) * nI (l.getD (p q) 0) = nI (8 * l.getD (p q) 0) from pk_mul 8 _, show (2 : Int32) * nI i = nI (2 * i) from pk_mul 2 i, nI_add, nI_add, nI_1, nI_1, nI_clamp (by omega), nI_clamp (by omega), nI_clamp (by omega), e17]
          refine ⟨vp_in_nI (by omega) (by decide), vp_in_nI (by omega) (by decide), fun S3 hS3 => ⟨vp_in_nI (by omega) (by decide), vp_in_nI (by omega) (by decide), fun S4 hS4 => ?_⟩⟩
          have e17' : S3 17 (4 * q + i) = gE (R q (12 + i)) := by rw [hS3, px_u_ne _ _ _ (by decide)]; exact e17
          rw [e17', gE_sar] at hS4
          refine ih2 (i + 1) S4 (by omega) ?_ (fun i hi => by rw [hS4, px_u_ne _ _ _ hi, hS3, px_u_ne _ _ _ hi]; exact f1 i hi)
          rw [hS4, hS3]
          exact rc_set (rc_set hc1 _) _
      exact t22 4 0 S1 (by omega) hc1 f1
  exact f_Mo_putSlices (t2 l.length 0 S (by omega) hc (fun _ _ => rfl))
theorem k_Mo_isRight {Q : Int32 → px_S → Prop} {M f : Nat} (hok : rf_ok S) (hw : rv_at S V) (hl : V.length ≤ 694) (hMn : mn_ok V M) (hf : f < mn_m V M) (hrm : rm_at S V M) (hN : nr_at S N) (hg : nt_g V M N) (hc : rc_at S C) (hC : C.length = 8 * sp_n (mn_t V M) (mn_m V M)) (hCb : ls_by C)
    (h1 : rp_rt V N C (mn_t V M) f → ∀ S', rf_fr S S' → Q 1 S') (h0 : ¬ rp_rt V N C (mn_t V M) f → ∀ S', rf_fr S S' → Q 0 S') : px_I G px_Zr (d + 2) m_Mo_isRight [.ref 0, .int (nI f)] S Q := by
  have hm3 := hMn.2.1.2
  have h12 := hMn.2.2.2.2.2.1
  have h40 := hMn.2.2.2.2.1 f hf
  have hnf : sp_n (mn_t V M) (f + 1) ≤ sp_n (mn_t V M) (mn_m V M) := sp_n_le (by omega)
  have hnf1 : sp_n (mn_t V M) (f + 1) = sp_n (mn_t V M) f + (mn_t V M f + 7) / 8 := rfl
  have hgb : ∀ k b, N k = some b → b + 0 < 2 ^ 31 := fun k b h => by have := pk_ok_lt (hg k b h).1 hl; omega
  have t7 : ∀ (r i : Nat) (S1 : px_S), r + i = mn_t V M f → rf_at S1 (ls_sl C (8 * sp_n (mn_t V M) f) i) → rf_fr S S1 → px_w G px_Zr (d + 2) m_Mo_isRight 7 [.ref 0, .int (nI f), .int (nI i), .null] [] S1 (px_iq Q) := by
    intro r
    induction r with
    | zero =>
      intro i S1 hi ha f1
      have : i = mn_t V M f := by omega
      subst this
      refine e_Mo_isRight_7 ⟨vp_in_nI (by omega) (by decide), fun _ => ?_, fun z => absurd ?_ z⟩
      · refine k_Mo_makeSum (f1.rg.ok hok) ha (by rw [ls_sl_len]; omega) (fun S2 w2 f2 => ?_)
        have f12 := f1.tr f2
        have hw2 := f12.rv hw
        have e12 : S2 12 f = nt_v (N f) 0 := by rw [f12.2 12 (by decide) (by decide) (by decide) (by decide)]; exact hN.1 f (by omega)
        cases hn : N f with
        | none =>
          refine e_Mo_isRight_51 ⟨fun z => absurd z (nI_ge (a := 0) (b := 16) (by decide) (by decide)), fun _ => ⟨vp_in_nI (by omega) (by decide), fun _ => ⟨Or.inr rfl, px_iq_i (h1 (fun a h => by rw [hn] at h; cases h) S2 f12)⟩, fun z => absurd ?_ z⟩⟩
          rw [nI_clamp (by omega), e12, hn]
          decide
        | some a =>
          obtain ⟨hpa, hka⟩ := hg _ _ hn
          obtain ⟨hka, hfx⟩ := nt_key_f hMn (by omega) hka
          have hbl := hka.2.1
          have hfit := hpa.2.2.2.1
          have ea : S2 12 (nI f).toNatClampNeg = nI a := by rw [nI_clamp (by omega), e12, hn]; rfl
          have rt1 : rp_rt V N C (mn_t V M) f → ∀ i, i < 16 → V.getD (a + 28 + i) 0 = md_b (md_sum (ls_sl C (8 * sp_n (mn_t V M) f) (mn_t V M f))) i := fun z => z a hn
          have bad : ∀ (m i : Nat), m + i = 16 → (¬ rp_rt V N C (mn_t V M) f) → px_w G px_Zr (d + 2) m_Mo_isRight 51 [.ref 0, .int (nI f), .int 0, .int (nI i)] [] S2 (px_iq Q) := by
            intro m
            induction m with
            | zero =>
              intro i hi hn
              have : i = 16 := by omega
              subst this
              exact e_Mo_isRight_51 ⟨fun _ => ⟨Or.inl rfl, px_iq_i (h0 hn S2 f12)⟩, fun z => absurd (Int32.le_refl _) z⟩
            | succ m ih =>
              intro i hi hn
              refine e_Mo_isRight_51 ⟨fun z => absurd z (nI_ge (b := 16) (by omega) (by decide)), fun _ => ⟨vp_in_nI (by omega) (by decide), fun z => ?_, fun _ => ⟨fun _ => ?_, fun z => absurd rfl z⟩⟩⟩
              · rw [ea] at z
                exact absurd z (nI_pos (by omega))
              · rw [nI_1]
                exact ih (i + 1) (by omega) hn
          have good : ∀ (m i : Nat), m + i = 16 → (∀ u, u < i → V.getD (a + 28 + u) 0 = md_b (md_sum (ls_sl C (8 * sp_n (mn_t V M) f) (mn_t V M f))) u) → px_w G px_Zr (d + 2) m_Mo_isRight 51 [.ref 0, .int (nI f), .int 1, .int (nI i)] [] S2 (px_iq Q) := by
            intro m
            induction m with
            | zero =>
              intro i hi hu
              have : i = 16 := by omega
              subst this
              refine e_Mo_isRight_51 ⟨fun _ => ⟨Or.inr rfl, px_iq_i (h1 (fun b h => ?_) S2 f12)⟩, fun z => absurd (Int32.le_refl _) z⟩
              rw [hn] at h
              cases h
              exact hu
            | succ m ih =>
              intro i hi hu
              refine e_Mo_isRight_51 ⟨fun z => absurd z (nI_ge (b := 16) (by omega) (by decide)), fun _ => ⟨vp_in_nI (by omega) (by decide), fun z => ?_, fun _ => ⟨fun z => absurd z (by decide), fun _ => ?_⟩⟩⟩
              · rw [ea] at z
                exact absurd z (nI_pos (by omega))
              rw [ea, show nI a + 28 = nI (a + 28) from nI_add a 28, nI_add, nI_1, nI_clamp (by omega), nI_clamp (by omega), w2 i (by omega), hw2.2 _ (by omega)]
              refine ⟨vp_in_nI (by omega) (by decide), vp_in_nI (by omega) (by decide), vp_in_nI (by omega) (by decide), fun z => bad m (i + 1) (by omega) (fun zz => z (rt1 zz i (by omega))), fun z => ih (i + 1) (by omega) (fun u huu => ?_)⟩
              by_cases hui : u = i
              · subst hui; exact z
              · exact hu u (by omega)
          exact good 16 0 (by omega) (fun u hu => by omega)
      · rw [nI_clamp (by omega), f1.2 10 (by decide) (by decide) (by decide) (by decide), hrm.2.2.1 f hf]
        exact Int32.le_refl _
    | succ r ih =>
      intro i S1 hi ha f1
      refine e_Mo_isRight_7 ?_
      rw [nI_clamp (n := f) (by omega), f1.2 10 (by decide) (by decide) (by decide) (by decide), hrm.2.2.1 f hf, f1.2 11 (by decide) (by decide) (by decide) (by decide), hrm.2.2.2 f (by omega), show (8 : Int32) * nI (sp_n (mn_t V M) f) = nI (8 * sp_n (mn_t V M) f) from pk_mul 8 _, nI_add, nI_clamp (by omega), f1.2 15 (by decide) (by decide) (by decide) (by decide), hc _ (by omega), nI_1]
      refine ⟨vp_in_nI (by omega) (by decide), fun z => absurd z (nI_ge (by omega) (by omega)), fun _ => ⟨vp_in_nI (by omega) (by decide), vp_in_nI (by omega) (by decide), ?_⟩⟩
      refine k_Mo_put ha (by rw [ls_sl_len]; omega) (fun S2 w2 f2 _ _ => ?_)
      rw [ls_by_getD hCb, ← ls_sl_succ] at w2
      exact ih (i + 1) S2 (by omega) w2 (f1.tr f2)
  exact f_Mo_isRight (t7 (mn_t V M f) 0 _ (by omega) rf_0.1 rf_0.2)
end
