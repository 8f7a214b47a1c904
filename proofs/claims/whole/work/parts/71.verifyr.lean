/-! The reference: verify -/
section
variable {G : px_G} {d : Nat} {S : px_S} {V T : List Int32} {F : Nat → List Int32} {N : Nat → Option Nat}
theorem k_Mo_isWhole {Q : Int32 → px_S → Prop} {M f k : Nat} (hok : rf_ok S) (hw : rv_at S V) (hl : V.length ≤ 694) (hMn : mn_ok V M) (hsl : rs_sl S F (mn_t V M) (mn_m V M)) (hF : ∀ f, f < 3 → ls_by (F f)) (hN : nr_at S N) (hg : nt_g V M N) (hf : f < mn_m V M) (hk : k < (mn_t V M f + 7) / 8)
    (h1 : wh V N (sp_c F (mn_t V M) (mn_m V M)) (mn_t V M) f k → ∀ S', rf_fr S S' → Q 1 S') (h0 : ¬ wh V N (sp_c F (mn_t V M) (mn_m V M)) (mn_t V M) f k → ∀ S', rf_fr S S' → Q 0 S') : px_I G px_Zr (d + 3) m_Mo_isWhole [.ref 0, .int (nI f), .int (nI (sp_n (mn_t V M) f + k))] S Q := by
  have hm3 := hMn.2.1.2
  have h12 := hMn.2.2.2.2.2.1
  have hgb : ∀ k b, N k = some b → b + 26 ≤ 694 := fun k b h => pk_ok_lt (hg k b h).1 hl
  have hnf : sp_n (mn_t V M) (f + 1) ≤ sp_n (mn_t V M) (mn_m V M) := sp_n_le (by omega)
  have hnf1 : sp_n (mn_t V M) (f + 1) = sp_n (mn_t V M) f + (mn_t V M f + 7) / 8 := rfl
  have hCl : (sp_c F (mn_t V M) (mn_m V M)).length = 8 * sp_n (mn_t V M) (mn_m V M) := sp_c_len _ _ _
  have hCb : ls_by (sp_c F (mn_t V M) (mn_m V M)) := ls_by_c (fun f hf => hF f (by omega))
  have hS15 : ∀ i, i < (sp_c F (mn_t V M) (mn_m V M)).length → S 15 i = (sp_c F (mn_t V M) (mn_m V M)).getD i 0 := fun i hi => hsl.1 i (by omega)
  generalize hCC : sp_c F (mn_t V M) (mn_m V M) = C at *
  refine f_Mo_isWhole ⟨vp_in_nI (by omega) (by decide), ?_⟩
  rw [nI_clamp (by omega), hN.2.1 f (by omega), nt_v_neg (fun a h => by have := hgb _ a h; omega)]
  cases hn : N (3 + f) with
  | none => exact ⟨fun z => absurd rfl z, fun _ => px_iq_i (h0 (fun z => by obtain ⟨a, ha, _⟩ := z; rw [hn] at ha; cases ha) S (rf_fr.rf S))⟩
  | some a =>
    refine ⟨fun _ => ⟨vp_in_nI (by omega) (by decide), vp_in_nI (by omega) (by decide), fun y hy => ?_⟩, fun z => absurd (fun z => by cases z) z⟩
    obtain ⟨hpa, hka⟩ := hg _ _ hn
    obtain ⟨hka, hfx⟩ := nt_key_k hMn (by omega) hka
    have hbl := hka.2.2
    rw [hfx] at hbl
    have hfit := hpa.2.2.2.1
    have hy' : y = nI (a + 27 + 20 * k) := by
      rw [hy, hsl.2 f (by omega), pk_sub (by omega), Nat.add_sub_cancel_left, show (20 : Int32) * nI k = nI (20 * k) from pk_mul 20 k]
      show nI (a + 0) + 27 + _ = _
      rw [show nI (a + 0) + 27 = nI (a + 0 + 27) from nI_add _ 27, nI_add]
    rw [hy']
    refine k_Mo_sliceCheck (by omega) hS15 (by omega) (k_Mo_sumSlice hok hS15 (by omega) (by omega) hCb (fun S1 w1 f1 => ?_))
    have hw1 := f1.rv hw
    have bad : ∀ (m i : Nat), m + i = 20 → (¬ wh V N C (mn_t V M) f k) → px_w G px_Zr (d + 3) m_Mo_isWhole 51 [.ref 0, .int (nI f), .int (nI (sp_n (mn_t V M) f + k)), .int (nI (a + 27 + 20 * k)), .int (cr (ls_sl C (8 * (sp_n (mn_t V M) f + k)) 8)), .int 0, .int (nI i)] [] S1 (px_iq Q) := by
      intro m
      induction m with
      | zero =>
        intro i hi hn
        have : i = 20 := by omega
        subst this
        exact e_Mo_isWhole_51 ⟨fun _ => ⟨Or.inl rfl, px_iq_i (h0 hn S1 f1)⟩, fun z => absurd (Int32.le_refl _) z⟩
      | succ m ih =>
        intro i hi hn
        refine e_Mo_isWhole_51 ⟨fun z => absurd z (nI_ge (b := 20) (by omega) (by decide)), fun _ => ⟨fun _ => ?_, fun z => absurd rfl z⟩⟩
        rw [nI_1]
        exact ih (i + 1) (by omega) hn
    have wh1 : wh V N C (mn_t V M) f k → wh_at V C (a + 27 + 20 * k) (sp_n (mn_t V M) f + k) := by
      intro z
      obtain ⟨b, hb, z⟩ := z
      rw [hn] at hb
      cases hb
      exact z
    have good : ∀ (m i : Nat), m + i = 20 → (∀ u, u < i → u < 4 → V.getD (a + 27 + 20 * k + u) 0 = px_ushr (cr (ls_sl C (8 * (sp_n (mn_t V M) f + k)) 8)) (nI (8 * u)) &&& 255) → (∀ u, u + 4 < i → V.getD (a + 27 + 20 * k + 4 + u) 0 = md_b (md_sum (ls_sl C (8 * (sp_n (mn_t V M) f + k)) 8)) u) → px_w G px_Zr (d + 3) m_Mo_isWhole 51 [.ref 0, .int (nI f), .int (nI (sp_n (mn_t V M) f + k)), .int (nI (a + 27 + 20 * k)), .int (cr (ls_sl C (8 * (sp_n (mn_t V M) f + k)) 8)), .int 1, .int (nI i)] [] S1 (px_iq Q) := by
      intro m
      induction m with
      | zero =>
        intro i hi ha hb
        have : i = 20 := by omega
        subst this
        exact e_Mo_isWhole_51 ⟨fun _ => ⟨Or.inr rfl, px_iq_i (h1 ⟨a, hn, fun u hu => ha u (by omega) hu, fun u hu => hb u (by omega)⟩ S1 f1)⟩, fun z => absurd (Int32.le_refl _) z⟩
      | succ m ih =>
        intro i hi ha hb
        refine e_Mo_isWhole_51 ⟨fun z => absurd z (nI_ge (b := 20) (by omega) (by decide)), fun _ => ⟨fun z => absurd z (by decide), fun _ => ?_⟩⟩
        rw [nI_add, nI_1, nI_clamp (by omega), hw1.2 _ (by omega), show (8 : Int32) * nI i = nI (8 * i) from pk_mul 8 i]
        have e4 : (4 : Int32) ≤ nI i ↔ 4 ≤ i := nI_leI (a := 4) (by decide) (by omega)
        rw [e4]
        refine ⟨vp_in_nI (by omega) (by decide), fun c => ?_, fun c => ?_⟩
        · have e5 : nI i - 4 = nI (i - 4) := pk_sub (a := i) (b := 4) c
          rw [e5, nI_clamp (by omega), w1 _ (by omega)]
          refine ⟨vp_in_nI (by omega) (by decide), fun z => bad m (i + 1) (by omega) (fun zz => z ?_), fun z => ih (i + 1) (by omega) (fun u hu hu4 => ha u (by omega) hu4) (fun u hu => ?_)⟩
          · have := (wh1 zz).2 (i - 4) (by omega)
            rw [show a + 27 + 20 * k + 4 + (i - 4) = a + 27 + 20 * k + i by omega] at this
            exact this
          · by_cases hui : u + 4 = i
            · have : u = i - 4 := by omega
              subst this
              rw [show a + 27 + 20 * k + 4 + (i - 4) = a + 27 + 20 * k + i by omega]
              exact z
            · exact hb u (by omega)
        · refine ⟨fun z => bad m (i + 1) (by omega) (fun zz => z ((wh1 zz).1 i (by omega))), fun z => ih (i + 1) (by omega) (fun u hu hu4 => ?_) (fun u hu => hb u (by omega))⟩
          by_cases hui : u = i
          · subst hui; exact z
          · exact ha u (by omega) hu4
    exact good 20 0 (by omega) (fun u hu => by omega) (fun u hu => by omega)
theorem k_Mo_damagedSet {Q : Int32 → px_S → Prop} {M : Nat} (hok : rf_ok S) (hw : rv_at S V) (hl : V.length ≤ 694) (hMn : mn_ok V M) (hrm : rm_at S V M) (hsl : rs_sl S F (mn_t V M) (mn_m V M)) (hF : ∀ f, f < 3 → ls_by (F f)) (hN : nr_at S N) (hg : nt_g V M N)
    (hQ : ∀ S', rf_fr S S' → Q (dm_i (dm_l V N (sp_c F (mn_t V M) (mn_m V M)) (mn_t V M) (mn_m V M))) S') : px_I G px_Zr (d + 4) m_Mo_damagedSet [.ref 0] S Q := by
  have hm3 := hMn.2.1.2
  have h12 := hMn.2.2.2.2.2.1
  generalize hCC : sp_c F (mn_t V M) (mn_m V M) = C at *
  have t19 : ∀ (f : Nat), f < mn_m V M → (∀ S1 : px_S, rf_fr S S1 → px_w G px_Zr (d + 4) m_Mo_damagedSet 4 [.ref 0, .int (dm_i (dm_l V N C (mn_t V M) (f + 1))), .int (nI (f + 1)), .null] [] S1 (px_iq Q)) →
      ∀ (r k : Nat) (S1 : px_S), r + k = (mn_t V M f + 7) / 8 → rf_fr S S1 → px_w G px_Zr (d + 4) m_Mo_damagedSet 19 [.ref 0, .int (dm_i (dm_l V N C (mn_t V M) f ++ dm_f V N C (mn_t V M) f k)), .int (nI f), .int (nI (sp_n (mn_t V M) f + k))] [] S1 (px_iq Q) := by
    intro f hf nxt r
    have hnf : sp_n (mn_t V M) (f + 1) ≤ sp_n (mn_t V M) (mn_m V M) := sp_n_le (by omega)
    have hnf1 : sp_n (mn_t V M) (f + 1) = sp_n (mn_t V M) f + (mn_t V M f + 7) / 8 := rfl
    induction r with
    | zero =>
      intro k S1 hk f1
      have : k = (mn_t V M f + 7) / 8 := by omega
      subst this
      refine e_Mo_damagedSet_19 ?_
      rw [nI_1, nI_clamp (by omega), f1.2 11 (by decide) (by decide) (by decide) (by decide), hsl.2 (f + 1) (by omega)]
      exact ⟨vp_in_nI (by omega) (by decide), fun _ => nxt S1 f1, fun z => absurd (nI_le (by omega) (by omega)) z⟩
    | succ r ih =>
      intro k S1 hk f1
      refine e_Mo_damagedSet_19 ?_
      rw [nI_1, nI_clamp (by omega), f1.2 11 (by decide) (by decide) (by decide) (by decide), hsl.2 (f + 1) (by omega), nI_1]
      refine ⟨vp_in_nI (by omega) (by decide), fun z => absurd z (nI_ge (by omega) (by omega)), fun _ => ?_⟩
      have hsl1 : rs_sl S1 F (mn_t V M) (mn_m V M) := f1.rg.sl hsl
      have hN1 : nr_at S1 N := hN.of (f1.1 19 (by decide)) (f1.2 12 (by decide) (by decide) (by decide) (by decide)) (f1.2 13 (by decide) (by decide) (by decide) (by decide)) (f1.2 14 (by decide) (by decide) (by decide) (by decide))
      refine k_Mo_isWhole (f1.rg.ok hok) (f1.rv hw) hl hMn hsl1 hF hN1 hg hf (by omega) (fun c S2 f2 => ⟨fun z => absurd z (by decide), fun _ => ?_⟩) (fun c S2 f2 => ⟨fun _ => ?_, fun z => absurd rfl z⟩)
      · have := ih (k + 1) S2 (by omega) (f1.tr f2)
        rw [hCC] at c
        rw [dm_f, sq_lt c, List.append_nil] at this
        exact this
      · have := ih (k + 1) S2 (by omega) (f1.tr f2)
        rw [hCC] at c
        rw [dm_f, sq_lf c, ← List.append_assoc, dm_i_app] at this
        exact this
  have t4 : ∀ (r f : Nat) (S1 : px_S), r + f = mn_m V M → rf_fr S S1 → px_w G px_Zr (d + 4) m_Mo_damagedSet 4 [.ref 0, .int (dm_i (dm_l V N C (mn_t V M) f)), .int (nI f), .null] [] S1 (px_iq Q) := by
    intro r
    induction r with
    | zero =>
      intro f S1 hf f1
      have : f = mn_m V M := by omega
      subst this
      refine e_Mo_damagedSet_4 ⟨fun _ => px_iq_i (hQ S1 f1), fun z => absurd ?_ z⟩
      rw [f1.1 13 (by decide), hrm.2.1]
      exact Int32.le_refl _
    | succ r ih =>
      intro f S1 hf f1
      refine e_Mo_damagedSet_4 ?_
      rw [f1.1 13 (by decide), hrm.2.1, nI_clamp (by omega), f1.2 11 (by decide) (by decide) (by decide) (by decide), hsl.2 f (by omega)]
      refine ⟨fun z => absurd z (nI_ge (by omega) (by omega)), fun _ => ⟨vp_in_nI (by omega) (by decide), ?_⟩⟩
      have := t19 f (by omega) (fun S2 f2 => ih (f + 1) S2 (by omega) f2) _ 0 S1 (Nat.add_zero _) f1
      rw [dm_f, List.append_nil] at this
      exact this
  exact f_Mo_damagedSet (t4 (mn_m V M) 0 S (by omega) (rf_fr.rf S))
theorem k_Mo_verify {Q : Int32 → px_S → Prop} (hR : sv_R S T F V) (ok : sv_ok T F V) (hQ : ∀ S', sv_R S' T F V → Q (sq_verify F V) S') : px_I G px_Zr (d + 6) m_Mo_verify [.ref 0] S Q := by
  refine f_Mo_verify (k_Mo_scanned hR.1 hR.2.2.1 (fun f hf => (ok.2.1 f hf).1) hR.2.2.2 ok.2.2.1 ok.2.2.2 (fun M hM S1 hrm hsl hr f1 => ⟨fun z => absurd z (by decide), fun _ => ?_⟩) (fun hM S1 f1 => ⟨fun _ => ?_, fun z => absurd rfl z⟩))
  · obtain ⟨hMk, hMn⟩ := sc_mn_ok hM
    refine k_Mo_damagedSet (f1.ok hR.1) (f1.rv hR.2.2.2) ok.2.2.1 hMn hrm hsl (fun f hf => (ok.2.1 f hf).2) hr (sc_g V M) (fun S2 f2 => px_iq_i ?_)
    have := hQ S2 ((f1.tr f2.sr).R hR)
    unfold sq_verify at this
    rw [hM] at this
    exact this
  · have := hQ S1 (f1.R hR)
    unfold sq_verify at this
    rw [hM] at this
    exact px_iq_i this
end
