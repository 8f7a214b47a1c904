/-! The reference: files and slices -/
def rs_F (S : px_S) (F : Nat → List Int32) : Prop := ∀ f, f < 3 → S 5 f = nI (F f).length ∧ ∀ j, j < (F f).length → S 4 (40 * f + j) = (F f).getD j 0
def rs_sl (S : px_S) (F : Nat → List Int32) (t : Nat → Nat) (m : Nat) : Prop := (∀ i, i < 8 * sp_n t m → S 15 i = (sp_c F t m).getD i 0) ∧ ∀ f, f ≤ m → S 11 f = nI (sp_n t f)
theorem rs_F.of {S S' : px_S} {F : Nat → List Int32} (h : rs_F S F) (h4 : S' 4 = S 4) (h5 : S' 5 = S 5) : rs_F S' F := fun f hf => by rw [h4, h5]; exact h f hf
theorem rs_sl.of {S S' : px_S} {F : Nat → List Int32} {t : Nat → Nat} {m : Nat} (h : rs_sl S F t m) (h15 : S' 15 = S 15) (h11 : S' 11 = S 11) : rs_sl S' F t m := ⟨by rw [h15]; exact h.1, by rw [h11]; exact h.2⟩
theorem rg_fr.F {S S' : px_S} {F : Nat → List Int32} (h : rg_fr S S') (hF : rs_F S F) : rs_F S' F := hF.of (h.2 4 (by decide) (by decide) (by decide) (by decide) (by decide)) (h.2 5 (by decide) (by decide) (by decide) (by decide) (by decide))
theorem rg_fr.sl {S S' : px_S} {F : Nat → List Int32} {t : Nat → Nat} {m : Nat} (h : rg_fr S S') (hF : rs_sl S F t m) : rs_sl S' F t m := hF.of (h.2 15 (by decide) (by decide) (by decide) (by decide) (by decide)) (h.2 11 (by decide) (by decide) (by decide) (by decide) (by decide))
theorem sp_c_next (F : Nat → List Int32) (t : Nat → Nat) {f i : Nat} (hi : i < 8 * ((t f + 7) / 8)) : (sp_c F t (f + 1)).getD (8 * sp_n t f + i) 0 = if i < t f then (F f).getD i 0 else 0 := by
  show (sp_c F t f ++ sp_pf (F f) (t f)).getD (8 * sp_n t f + i) 0 = _
  rw [ls_getD_append, if_neg (by rw [sp_c_len]; omega), sp_c_len, Nat.add_sub_cancel_left]
  unfold sp_pf
  rw [List.getD_eq_getElem?_getD, List.getElem?_map, List.getElem?_range hi]
  rfl
theorem sp_c_prev (F : Nat → List Int32) (t : Nat → Nat) {f i : Nat} (hi : i < 8 * sp_n t f) : (sp_c F t (f + 1)).getD i 0 = (sp_c F t f).getD i 0 := by
  show (sp_c F t f ++ sp_pf (F f) (t f)).getD i 0 = _
  rw [ls_getD_append, if_pos (by rw [sp_c_len]; exact hi)]
section
variable {G : px_G} {d : Nat} {S : px_S} {V : List Int32} {F : Nat → List Int32} {t : Nat → Nat}
theorem k_Mo_layOut {Q : Int32 → px_S → Prop} {m : Nat} (hm : m ≤ 3) (hF : rs_F S F) (h40 : ∀ f, f < 3 → (F f).length ≤ 40) (ht : ∀ f, f < m → S 10 f = nI (t f) ∧ t f ≤ 40) (hn : sp_n t m ≤ 12) (hQ : ∀ S', rs_sl S' F t m → (∀ i, i ≠ 11 → i ≠ 15 → S' i = S i) → Q (nI (sp_n t m)) S') : px_I G px_Zr d m_Mo_layOut [.ref 0, .int (nI m)] S Q := by
  have outer : ∀ (c f : Nat) (S' : px_S), c + f = m → (∀ i, i < 8 * sp_n t f → S' 15 i = (sp_c F t f).getD i 0) → (∀ g, g < f → S' 11 g = nI (sp_n t g)) → (∀ i, i ≠ 11 → i ≠ 15 → S' i = S i) →
      px_w G px_Zr d m_Mo_layOut 4 [.ref 0, .int (nI m), .int (nI (sp_n t f)), .int (nI f), .null, .null] [] S' (px_iq Q) := by
    intro c
    induction c with
    | zero =>
      intro f S' hf h15 h11 fr
      have : f = m := by omega
      subst this
      refine e_Mo_layOut_4 ⟨fun h => ⟨vp_in_nI (by omega) (by decide), px_iq_i (hQ _ ⟨fun i hi => ?_, fun g hg => ?_⟩ (fun i h1 h2 => ?_))⟩, fun h => absurd (Int32.le_refl _) h⟩
      · rw [px_u_ne _ _ _ (by decide)]; exact h15 i hi
      · rw [px_ua, nI_clamp (by omega)]
        by_cases hgf : g = f
        · rw [if_pos ⟨rfl, hgf⟩, hgf]
        · rw [if_neg (fun z => hgf z.2)]; exact h11 g (by omega)
      · rw [px_u_ne _ _ _ h1]; exact fr i h1 h2
    | succ c ih =>
      intro f S' hf h15 h11 fr
      have hnf : sp_n t f + (t f + 7) / 8 ≤ sp_n t m := sp_n_le (f := f + 1) (by omega)
      have htf := (ht f (by omega)).2
      refine e_Mo_layOut_4 ⟨fun h => absurd h (nI_ge (by omega) (by omega)), fun h => ⟨vp_in_nI (by omega) (by decide), ?_⟩⟩
      rw [nI_clamp (by omega)]
      have mid : ∀ (c2 k : Nat) (S2 : px_S), c2 + k = (t f + 7) / 8 → (∀ i, i < 8 * sp_n t f + 8 * k → S2 15 i = (sp_c F t (f + 1)).getD i 0) → (∀ g, g < f + 1 → S2 11 g = nI (sp_n t g)) → (∀ i, i ≠ 11 → i ≠ 15 → S2 i = S i) →
          px_w G px_Zr d m_Mo_layOut 19 [.ref 0, .int (nI m), .int (nI (sp_n t f + k)), .int (nI f), .int (nI (8 * k)), .null] [] S2 (px_iq Q) := by
        intro c2
        induction c2 with
        | zero =>
          intro k S2 hk g15 g11 fr2
          have h10 : S2 10 f = nI (t f) := by rw [fr2 10 (by decide) (by decide)]; exact (ht f (by omega)).1
          refine e_Mo_layOut_19 ⟨vp_in_nI (by omega) (by decide), ?_⟩
          rw [nI_clamp (by omega), h10]
          refine ⟨fun h2 => ?_, fun h2 => absurd (nI_le (by omega) (by omega)) h2⟩
          rw [nI_1]
          have e : sp_n t f + k = sp_n t (f + 1) := by show _ = sp_n t f + (t f + 7) / 8; omega
          rw [e]
          refine ih (f + 1) S2 (by omega) (fun i hi => g15 i ?_) g11 fr2
          have e2 : sp_n t (f + 1) = sp_n t f + (t f + 7) / 8 := rfl
          omega
        | succ c2 ih2 =>
          intro k S2 hk g15 g11 fr2
          have h10 : S2 10 f = nI (t f) := by rw [fr2 10 (by decide) (by decide)]; exact (ht f (by omega)).1
          refine e_Mo_layOut_19 ⟨vp_in_nI (by omega) (by decide), ?_⟩
          rw [nI_clamp (by omega), h10]
          refine ⟨fun h2 => absurd h2 (nI_ge (by omega) (by omega)), fun h2 => ?_⟩
          have inner : ∀ (c3 u : Nat) (S3 : px_S), c3 + u = 8 → (∀ i, i < 8 * sp_n t f + 8 * k + u → S3 15 i = (sp_c F t (f + 1)).getD i 0) → (∀ g, g < f + 1 → S3 11 g = nI (sp_n t g)) → (∀ i, i ≠ 11 → i ≠ 15 → S3 i = S i) →
              px_w G px_Zr d m_Mo_layOut 34 [.ref 0, .int (nI m), .int (nI (sp_n t f + k)), .int (nI f), .int (nI (8 * k)), .int (nI (8 * k + u))] [] S3 (px_iq Q) := by
            intro c3
            induction c3 with
            | zero =>
              intro u S3 hu k15 k11 fr3
              have : u = 8 := by omega
              subst this
              refine e_Mo_layOut_34 ⟨fun h3 => ?_, fun h3 => absurd (by rw [show nI (8 * k) + 8 = nI (8 * k + 8) from nI_add _ 8]; exact Int32.le_refl _) h3⟩
              rw [show nI (8 * k) + 8 = nI (8 * (k + 1)) from nI_add _ 8, nI_1]
              exact ih2 (k + 1) S3 (by omega) (fun i hi => k15 i (by omega)) k11 fr3
            | succ c3 ih3 =>
              intro u S3 hu k15 k11 fr3
              have j10 : S3 10 f = nI (t f) := by rw [fr3 10 (by decide) (by decide)]; exact (ht f (by omega)).1
              have j5 : S3 5 f = nI (F f).length := by rw [fr3 5 (by decide) (by decide)]; exact (hF f (by omega)).1
              have hFl := h40 f (by omega)
              have next : ∀ v : Int32, v = (sp_c F t (f + 1)).getD (8 * sp_n t f + (8 * k + u)) 0 → px_w G px_Zr d m_Mo_layOut 34 [.ref 0, .int (nI m), .int (nI (sp_n t f + k)), .int (nI f), .int (nI (8 * k)), .int (nI (8 * k + (u + 1)))] [] (px_u S3 15 (8 * sp_n t f + (8 * k + u)) v) (px_iq Q) := by
                rintro v rfl
                refine ih3 (u + 1) _ (by omega) (fun i hi => ?_) (fun g hg => ?_) (fun i h1 h2 => (px_u_ne _ _ _ h2).trans (fr3 i h1 h2))
                · rw [px_ua]
                  by_cases hiu : i = 8 * sp_n t f + (8 * k + u)
                  · rw [if_pos ⟨rfl, hiu⟩, hiu]
                  · rw [if_neg (fun z => hiu z.2)]; exact k15 i (by omega)
                · rw [px_u_ne _ _ _ (by decide)]; exact k11 g hg
              have hc := sp_c_next F t (f := f) (i := 8 * k + u) (by omega)
              have e0 : (8 : Int32) * nI (sp_n t f + k) + nI (8 * k + u) - nI (8 * k) = nI (8 * sp_n t f + (8 * k + u)) := by
                rw [show (8 : Int32) * nI (sp_n t f + k) = nI (8 * (sp_n t f + k)) from pk_mul 8 _, nI_add, pk_sub (by omega)]
                congr 1
                omega
              have e1 : (40 : Int32) * nI f + nI (8 * k + u) = nI (40 * f + (8 * k + u)) := by
                rw [show (40 : Int32) * nI f = nI (40 * f) from pk_mul 40 f, nI_add]
              refine e_Mo_layOut_34 ⟨fun h3 => ?_, fun h3 => ⟨vp_in_nI (by omega) (by decide), ?_⟩⟩
              · rw [show nI (8 * k) + 8 = nI (8 * k + 8) from nI_add _ 8] at h3
                exact absurd h3 (nI_ge (by omega) (by omega))
              · rw [e0, e1, nI_clamp (n := f) (by omega), j10, j5, nI_clamp (by omega), nI_clamp (by omega), show nI (8 * k + u) + 1 = nI (8 * k + (u + 1)) from nI_add _ 1]
                refine ⟨fun h4 => ⟨vp_in_nI (by omega) (by decide), next 0 ?_⟩, fun h4 => ⟨vp_in_nI (by omega) (by decide), fun h5 => ⟨vp_in_nI (by omega) (by decide), next 0 ?_⟩, fun h5 => ⟨vp_in_nI (by omega) (by decide), vp_in_nI (by omega) (by decide), next _ ?_⟩⟩⟩
                · have c4 := (nI_leI (by omega) (by omega)).mp h4
                  rw [hc, if_neg (by omega)]
                · have c5 := (nI_leI (by omega) (by omega)).mp h5
                  rw [hc, List.getD_eq_getElem?_getD, List.getElem?_eq_none c5]
                  split <;> rfl
                · have c4 : ¬ t f ≤ 8 * k + u := fun z => h4 (nI_le z (by omega))
                  have c5 : ¬ (F f).length ≤ 8 * k + u := fun z => h5 (nI_le z (by omega))
                  rw [hc, if_pos (by omega), fr3 4 (by decide) (by decide)]
                  exact (hF f (by omega)).2 _ (by omega)
          exact inner 8 0 S2 (by omega) g15 g11 fr2
      refine mid ((t f + 7) / 8) 0 _ (by omega) (fun i hi => ?_) (fun g hg => ?_) (fun i h1 h2 => (px_u_ne _ _ _ h1).trans (fr i h1 h2))
      · rw [px_u_ne _ _ _ (by decide), sp_c_prev F t (by omega)]
        exact h15 i (by omega)
      · rw [px_ua]
        by_cases hgf : g = f
        · rw [if_pos ⟨rfl, hgf⟩, hgf]
        · rw [if_neg (fun z => hgf z.2)]; exact h11 g (by omega)
  exact f_Mo_layOut (outer m 0 S (by omega) (fun i hi => by simp [sp_n] at hi) (fun g hg => by omega) (fun _ _ _ => rfl))
theorem k_Mo_word {Q : Int32 → px_S → Prop} {j q : Nat} {C : List Int32} (hS : ∀ i, i < C.length → S 15 i = C.getD i 0) (hl : 8 * j + 8 ≤ C.length) (h96 : C.length ≤ 96) (hb : ls_by C) (hq : q < 4) (hQ : Q (gE (sp_num C j q)) S) : px_I G px_Zr d m_Mo_word [.ref 0, .int (nI j), .int (nI q)] S Q := by
  have e0 : (8 : Int32) * nI j + 2 * nI q = nI (8 * j + 2 * q) := by
    rw [show (8 : Int32) * nI j = nI (8 * j) from pk_mul 8 j, show (2 : Int32) * nI q = nI (2 * q) from pk_mul 2 q, nI_add]
  refine f_Mo_word ?_
  rw [e0, nI_1, nI_clamp (by omega), nI_clamp (by omega), hS _ (by omega), hS _ (by omega), sp_num_eq hb]
  exact ⟨vp_in_nI (by omega) (by decide), vp_in_nI (by omega) (by decide), px_iq_i hQ⟩
theorem k_Mo_sumSlice {Q : px_S → Prop} {j : Nat} {C : List Int32} (hok : rf_ok S) (hS : ∀ i, i < C.length → S 15 i = C.getD i 0) (hl : 8 * j + 8 ≤ C.length) (h96 : C.length ≤ 96) (hb : ls_by C) (hQ : ∀ S', (∀ i, i < 16 → S' 9 i = md_b (md_sum (ls_sl C (8 * j) 8)) i) → rf_fr S S' → Q S') : px_V G px_Zr (d + 2) m_Mo_sumSlice [.ref 0, .int (nI j)] S Q := by
  have key : ∀ (m i : Nat) (S' : px_S), m + i = 8 → rf_at S' (ls_sl C (8 * j) i) → rf_fr S S' → px_w G px_Zr (d + 2) m_Mo_sumSlice 7 [.ref 0, .int (nI j), .int (nI i)] [] S' (px_vq Q) := by
    intro m
    induction m with
    | zero =>
      intro i S' hi w fr
      have : i = 8 := by omega
      subst this
      refine e_Mo_sumSlice_7 ⟨fun h => ?_, fun h => absurd (Int32.le_refl _) h⟩
      exact k_Mo_makeSum (fr.rg.ok hok) w (by simp [ls_sl_len]) (fun S2 h9 f2 => px_vq_i (hQ S2 h9 (fr.tr f2)))
    | succ m ih =>
      intro i S' hi w fr
      refine e_Mo_sumSlice_7 ⟨fun h => absurd h (nI_ge (b := 8) (by omega) (by decide)), fun h => ?_⟩
      rw [show (8 : Int32) * nI j + nI i = nI (8 * j + i) by rw [show (8 : Int32) * nI j = nI (8 * j) from pk_mul 8 j, nI_add], nI_1, nI_clamp (by omega), fr.2 15 (by decide) (by decide) (by decide) (by decide), hS _ (by omega)]
      refine ⟨vp_in_nI (by omega) (by decide), k_Mo_put w (by simp [ls_sl_len] <;> omega) (fun S2 w2 f2 _ _ => ?_)⟩
      refine ih (i + 1) S2 (by omega) ?_ (fr.tr f2)
      rw [ls_by_getD hb, ← ls_sl_succ] at w2
      exact w2
  exact f_Mo_sumSlice (key 8 0 _ (by omega) (rf_0 (S := S)).1 (rf_0 (S := S)).2)
theorem k_Mo_sumFile {Q : px_S → Prop} {f : Nat} (hf : f < 3) (hok : rf_ok S) (hF : rs_F S F) (h40 : (F f).length ≤ 40) (hb : ls_by (F f)) (hQ : ∀ S', (∀ i, i < 16 → S' 9 i = md_b (md_sum (F f)) i) → rf_fr S S' → Q S') : px_V G px_Zr (d + 2) m_Mo_sumFile [.ref 0, .int (nI f), .int (nI (F f).length)] S Q := by
  have key : ∀ (m i : Nat) (S' : px_S), m + i = (F f).length → rf_at S' (ls_sl (F f) 0 i) → rf_fr S S' → px_w G px_Zr (d + 2) m_Mo_sumFile 7 [.ref 0, .int (nI f), .int (nI (F f).length), .int (nI i)] [] S' (px_vq Q) := by
    intro m
    induction m with
    | zero =>
      intro i S' hi w fr
      have : i = (F f).length := by omega
      subst this
      refine e_Mo_sumFile_7 ⟨fun h => ?_, fun h => absurd (Int32.le_refl _) h⟩
      have e : ls_sl (F f) 0 (F f).length = F f := by
        have := ls_mid [] (F f) []
        rw [List.append_nil] at this
        exact this
      rw [e] at w
      exact k_Mo_makeSum (fr.rg.ok hok) w (by omega) (fun S2 h9 f2 => px_vq_i (hQ S2 h9 (fr.tr f2)))
    | succ m ih =>
      intro i S' hi w fr
      refine e_Mo_sumFile_7 ⟨fun h => absurd h (nI_ge (by omega) (by omega)), fun h => ⟨vp_in_nI (by omega) (by decide), ?_⟩⟩
      have j5 : S' 5 f = nI (F f).length := by rw [fr.2 5 (by decide) (by decide) (by decide) (by decide)]; exact (hF f hf).1
      have j4 : S' 4 (40 * f + i) = (F f).getD i 0 := by rw [fr.2 4 (by decide) (by decide) (by decide) (by decide)]; exact (hF f hf).2 i (by omega)
      rw [nI_clamp (by omega), j5, show (40 : Int32) * nI f + nI i = nI (40 * f + i) by rw [show (40 : Int32) * nI f = nI (40 * f) from pk_mul 40 f, nI_add], nI_clamp (by omega), j4, nI_1]
      refine ⟨fun h2 => absurd h2 (nI_ge (by omega) (by omega)), fun h2 => ⟨vp_in_nI (by omega) (by decide), k_Mo_put w (by simp [ls_sl_len] <;> omega) (fun S2 w2 f2 _ _ => ?_)⟩⟩
      refine ih (i + 1) S2 (by omega) ?_ (fr.tr f2)
      have e := ls_sl_succ (F f) 0 i
      rw [Nat.zero_add] at e
      rw [ls_by_getD hb, ← e] at w2
      exact w2
  exact f_Mo_sumFile (key (F f).length 0 _ (by omega) (rf_0 (S := S)).1 (rf_0 (S := S)).2)
end
