/-! Packets: what is read -/
section
variable {G : px_G} {d : Nat} {S : px_S} {V : List Int32}
theorem k_Packets_row {Q : px_S → Prop} (hQ : Q S) : px_R G px_Zc d m_Packets_row [.ref 22] S 10 Q := f_Packets_row (px_rq_i hQ)
theorem k_Packets_kind {Q : Int32 → px_S → Prop} {a : Nat} (hw : rw_at S 10 V) (hl : V.length ≤ 694) (ha : a < 2 ^ 30) (hQ : Q (V.getD (a + 3) 0) S) : px_I G px_Zc (d + 1) m_Packets_kind [.ref 22, .int (nI a)] S Q := by
  refine f_Packets_kind ?_
  rw [show nI a + 3 = nI (a + 3) from nI_add a 3]
  exact k_Row_get rw_10 hw hl (by omega) (px_iq_i hQ)
theorem k_Packets_body {Q : Int32 → px_S → Prop} {a : Nat} (hQ : Q (nI (a + 26)) S) : px_I G px_Zc d m_Packets_body [.ref 22, .int (nI a)] S Q := by
  refine f_Packets_body (px_iq_i ?_)
  rw [show nI a + 26 = nI (a + 26) from nI_add a 26]
  exact hQ
theorem k_Packets_bodySize {Q : Int32 → px_S → Prop} {a : Nat} (hw : rw_at S 10 V) (hl : V.length ≤ 694) (hb : ls_by V) (ha : a < 2 ^ 30) (hQ : Q (nI (pk_bl V a)) S) : px_I G px_Zc (d + 1) m_Packets_bodySize [.ref 22, .int (nI a)] S Q := by
  refine f_Packets_bodySize ?_
  rw [show nI a + 4 = nI (a + 4) from nI_add a 4, nI_1]
  refine k_Row_get rw_10 hw hl (by omega) (k_Row_get rw_10 hw hl (by omega) (px_iq_i ?_))
  rw [sp_bt_eq hb (a + 4), sp_bt_eq hb (a + 4 + 1), sp_or (sp_bt_lt _ _) (sp_bt_lt _ _)]
  exact hQ
theorem k_Packets_sumUp {Q : px_S → Prop} {a : Nat} (hw : rw_at S 10 V) (hl : V.length ≤ 694) (hb : ls_by V) (ha : a < 2 ^ 29) (hfit : pk_bl V a ≤ 680) (hQ : ∀ S', (∀ t, t < 4 → S' 21 t = md_wd (md_sum (pk_ms V a)) t) → (∀ i, i < 18 ∨ 21 < i → S' i = S i) → Q S') : px_V G px_Zc (d + 2) m_Packets_sumUp [.ref 22, .int (nI a)] S Q := by
  refine f_Packets_sumUp ?_
  rw [show nI a + 3 = nI (a + 3) from nI_add a 3, show nI a + 22 = nI (a + 22) from nI_add a 22]
  refine k_Sum_begin (fun S1 w1 f1 => ?_)
  have hw1 : rw_at S1 10 V := hw.of (f1 10 (by decide)) (f1 11 (by decide))
  refine k_Sum_addAll (c := 3) rw_10 hw1 hl hb (by decide) (by decide) (by decide) w1 (by omega) (by simp) (fun S2 w2 f2 => ?_)
  have hw2 : rw_at S2 10 V := hw1.of (f2 10 (by decide) (by decide)) (f2 11 (by decide) (by decide))
  refine k_Packets_bodySize hw2 hl hb (by omega) ?_
  rw [show (4 : Int32) + nI (pk_bl V a) = nI (4 + pk_bl V a) from nI_add 4 _]
  refine k_Sum_addAll rw_10 hw2 hl hb (by decide) (by decide) (by decide) w2 (by omega) (by simp [ls_sl_len]; omega) (fun S3 w3 f3 => ?_)
  refine k_Sum_end w3 (by simp [ls_sl_len]; omega) (fun S4 w4 f4 => px_vq_i (hQ S4 ?_ (fun i hi => ?_)))
  · rw [List.nil_append] at w4
    exact w4
  · rw [f4 i hi, f3 i (by omega) (by omega), f2 i (by omega) (by omega), f1 i (by omega)]
theorem k_Sum_standsIn {Q : Int32 → px_S → Prop} {o no a c : Nat} {Lo : List Int32} {s : md_S} (hRo : rw_is o no) (ho : rw_at S o Lo) (hlo : Lo.length ≤ no) (hs : ∀ j, j < 4 → S 21 j = md_wd s j) (hc : c ≤ 16) (ha : a < 2 ^ 30) (h1 : (∀ i, i < c → Lo.getD (a + i) 0 = md_b s i) → Q 1 S) (h0 : ¬ (∀ i, i < c → Lo.getD (a + i) 0 = md_b s i) → Q 0 S) : px_I G px_Zc (d + 1) m_Sum_standsIn [.ref 18, .ref o, .int (nI a), .int (nI c)] S Q := by
  refine f_Sum_standsIn ?_
  have key : ∀ (m i : Nat), m + i = c → (∀ u, u < i → Lo.getD (a + u) 0 = md_b s u) → px_w G px_Zc (d + 1) m_Sum_standsIn 3 [.ref 18, .ref o, .int (nI a), .int (nI c), .int (nI i)] [] S (px_iq Q) := by
    intro m
    induction m with
    | zero =>
      intro i hi hu
      have : i = c := by omega
      subst this
      exact e_Sum_standsIn_3 ⟨fun h => px_iq_i (h1 hu), fun h => absurd (Int32.le_refl _) h⟩
    | succ m ih =>
      intro i hi hu
      refine e_Sum_standsIn_3 ⟨fun h => absurd h (nI_ge (by omega) (by omega)), fun h => ?_⟩
      rw [nI_add, nI_1]
      refine k_Row_get hRo ho hlo (by omega) (k_Sum_get hs (by omega) ⟨fun h2 => ?_, fun h2 => px_iq_i (h0 (fun z => h2 (z i (by omega))))⟩)
      refine ih (i + 1) (by omega) (fun u huu => ?_)
      by_cases hui : u = i
      · subst hui; exact h2
      · exact hu u (by omega)
  exact key c 0 (by omega) (fun u hu => by omega)
theorem k_Packets_standsWhole {Q : Int32 → px_S → Prop} {a : Nat} (hw : rw_at S 10 V) (hl : V.length ≤ 694) (hb : ls_by V) (ha : a < 2 ^ 29) (h1 : pk_ok V a → ∀ S', (∀ i, i < 18 ∨ 21 < i → S' i = S i) → Q 1 S') (h0 : ¬ pk_ok V a → ∀ S', (∀ i, i < 18 ∨ 21 < i → S' i = S i) → Q 0 S') : px_I G px_Zc (d + 3) m_Packets_standsWhole [.ref 22, .int (nI a)] S Q := by
  have hbl := pk_bl_lt V a
  have rf : ∀ i, i < 18 ∨ 21 < i → S i = S i := fun _ _ => rfl
  refine f_Packets_standsWhole ?_
  rw [show nI a + 1 = nI (a + 1) from nI_add a 1, show nI a + 2 = nI (a + 2) from nI_add a 2, show nI a + 6 = nI (a + 6) from nI_add a 6]
  refine k_Row_get rw_10 hw hl (by omega) ⟨fun c1 => px_iq_i (h0 (fun z => c1 z.1) S rf), fun c1 => ?_⟩
  refine k_Row_get rw_10 hw hl (by omega) ⟨fun c2 => px_iq_i (h0 (fun z => c2 z.2.1) S rf), fun c2 => ?_⟩
  refine k_Row_get rw_10 hw hl (by omega) ⟨fun c3 => ?_, fun c3 => px_iq_i (h0 (fun z => c3 z.2.2.1) S rf)⟩
  refine k_Packets_body (k_Packets_bodySize hw hl hb (by omega) (k_Row_size rw_10 ?_))
  rw [nI_add, hw.1, nI_leI (by omega) (by omega)]
  refine ⟨fun c4 => ?_, fun c4 => px_iq_i (h0 (fun z => c4 z.2.2.2.1) S rf)⟩
  refine k_Packets_sumUp hw hl hb ha (by omega) (fun S1 w1 f1 => ?_)
  refine k_Sum_standsIn (c := 16) rw_10 (hw.of (f1 10 (by omega)) (f1 11 (by omega))) hl w1 (by omega) (by omega) (fun c5 => ⟨Or.inr rfl, px_iq_i (h1 ⟨c1, c2, c3, c4, c5⟩ S1 f1)⟩) (fun c5 => ⟨Or.inl rfl, px_iq_i (h0 (fun z => c5 z.2.2.2.2) S1 f1)⟩)
end
