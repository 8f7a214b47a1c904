/-! Slices -/
def sl_at (S : px_S) (F : Nat → List Int32) (t : Nat → Nat) (m : Nat) : Prop := rw_at S 13 (sp_c F t m) ∧ S 12 4 = nI m ∧ ∀ f, f < m → S 15 f = nI (8 * sp_n t f) ∧ S 16 f = nI (t f)
theorem rw_13 : rw_is 13 96 := ⟨rfl, rfl, by decide⟩
theorem rw_10 : rw_is 10 694 := ⟨rfl, rfl, by decide⟩
theorem rw_1 : rw_is 1 40 := ⟨rfl, rfl, by decide⟩
section
variable {G : px_G} {d : Nat} {S : px_S}
theorem k_slicesOf {Q : Int32 → px_S → Prop} {n : Nat} (hn : n < 2 ^ 30) (hQ : Q (nI ((n + 7) / 8)) S) : px_I G px_Zc d m_PV_slicesOf [.int (nI n)] S Q := by
  refine f_PV_slicesOf (px_iq_i ?_)
  rw [show nI n + 8 = nI (n + 8) from nI_add n 8, show nI (n + 8) - 1 = nI (n + 7) from pk_sub (a := n + 8) (b := 1) (by omega), show nI (n + 7) / 8 = nI ((n + 7) / 8) from pk_div (by omega) (by decide) (by decide)]
  exact hQ
theorem k_isFile {Q : Int32 → px_S → Prop} {f : Int32} (hQ : Q (if 0 ≤ f ∧ f < 3 then 1 else 0) S) : px_I G px_Zc d m_PV_isFile [.int f] S Q := by
  refine f_PV_isFile ⟨fun h => px_iq_i ?_, fun h => ⟨fun h1 => px_iq_i ?_, fun h1 => px_iq_i ?_⟩⟩
  · rw [if_neg (fun z => absurd h (Int32.not_lt.mpr z.1))] at hQ; exact hQ
  · rw [if_neg (fun z => absurd z.2 (Int32.not_lt.mpr h1))] at hQ; exact hQ
  · rw [if_pos ⟨Int32.not_lt.mp h, Int32.not_le.mp h1⟩] at hQ; exact hQ
theorem k_isFileN {Q : Int32 → px_S → Prop} {f : Nat} (hf : f < 3) (hQ : Q 1 S) : px_I G px_Zc d m_PV_isFile [.int (nI f)] S Q := by
  refine k_isFile ?_
  rw [if_pos ⟨nI_pos' (by omega), nI_lt hf (by decide)⟩]
  exact hQ
theorem k_Slices_clear {Q : px_S → Prop} (F : Nat → List Int32) (t : Nat → Nat) (hQ : ∀ S', sl_at S' F t 0 → (∀ i, i ≠ 12 → i ≠ 13 → S' i = S i) → Q S') : px_V G px_Zc (d + 1) m_Slices_clear [.ref 12] S Q := by
  refine f_Slices_clear (k_Row_clear rw_13 (fun S1 h1 f1 => px_vq_i (hQ _ ⟨?_, ?_, fun f hf => by omega⟩ (fun i h2 h3 => ?_))))
  · exact h1.of (px_u_ne _ _ _ (by decide)) (px_u_ne _ _ _ (by decide))
  · rw [px_us]; rfl
  · rw [px_u_ne _ _ _ h2, f1 i h3]
theorem k_Slices_addFile {Q : px_S → Prop} {o no m : Nat} {F : Nat → List Int32} {t : Nat → Nat} (hs : sl_at S F t m) (hm : m < 3) (hRo : rw_is o no) (ho : rw_at S o (F m)) (hlo : (F m).length ≤ no) (hb : ls_by (F m)) (hoo : o + 1 < 12) (ht : t m ≤ 96) (hc : sp_n t (m + 1) ≤ 12) (hQ : ∀ S', sl_at S' F t (m + 1) → (∀ i, i < 12 ∨ 16 < i → S' i = S i) → Q S') : px_V G px_Zc (d + 1) m_Slices_addFile [.ref 12, .ref o, .int (nI (t m))] S Q := by
  obtain ⟨h1, h2, h3⟩ := hs
  have hn : sp_n t (m + 1) = sp_n t m + (t m + 7) / 8 := rfl
  have e : S 12 4 = nI m := h2
  refine f_Slices_addFile ⟨fun _ => k_Row_size rw_13 ?_, fun h => absurd (by rw [e]; exact nI_lt hm (by decide)) h⟩
  rw [px_ua, if_neg (by omega), e, nI_clamp (by omega), h1.1, sp_c_len]
  refine ⟨vp_in_nI hm (by decide), vp_in_nI hm (by decide), ?_⟩
  rintro S3 rfl
  refine k_slicesOf (by omega) ?_
  rw [show (8 : Int32) * nI ((t m + 7) / 8) = nI (8 * ((t m + 7) / 8)) from pk_mul 8 _]
  have key : ∀ (c i : Nat) (S' : px_S), c + i = 8 * ((t m + 7) / 8) → rw_at S' 13 (sp_c F t m ++ (List.range i).map (fun i => if i < t m then (F m).getD i 0 else 0)) → S' 12 4 = nI (m + 1) → (∀ f, f < m + 1 → S' 15 f = nI (8 * sp_n t f) ∧ S' 16 f = nI (t f)) → (∀ i, i < 12 ∨ 16 < i → S' i = S i) →
      px_w G px_Zc (d + 1) m_Slices_addFile 56 [.ref 12, .ref o, .int (nI (t m)), .int (nI (8 * ((t m + 7) / 8))), .int (nI i)] [] S' (px_vq Q) := by
    intro c
    induction c with
    | zero =>
      intro i S' hi hw h12 h15 hf
      have : i = 8 * ((t m + 7) / 8) := by omega
      subst this
      exact e_Slices_addFile_56 ⟨fun h => px_vq_i (hQ S' ⟨hw, h12, h15⟩ hf), fun h => absurd (Int32.le_refl _) h⟩
    | succ c ih =>
      intro i S' hi hw h12 h15 hf
      have hlen : (sp_c F t m ++ (List.range i).map (fun i => if i < t m then (F m).getD i 0 else 0)).length < 96 := by
        rw [List.length_append, sp_c_len, List.length_map, List.length_range]
        omega
      refine e_Slices_addFile_56 ⟨fun h => absurd h (nI_ge (by omega) (by omega)), fun h => ⟨fun h4 => ?_, fun h4 => ?_⟩⟩
      · have c4 := (nI_leI (by omega) (by omega)).mp h4
        refine k_Row_append rw_13 hw hlen (fun S2 w2 f2 => ?_)
        rw [nI_1]
        refine ih (i + 1) S2 (by omega) ?_ ?_ ?_ (fun j hj => (f2 j (by omega) (by omega)).trans (hf j hj))
        · rw [List.append_assoc] at w2
          rw [List.range_succ, List.map_append, List.map_cons, List.map_nil, if_neg (by omega)]
          exact w2
        · rw [f2 12 (by decide) (by decide)]; exact h12
        · rw [f2 15 (by decide) (by decide), f2 16 (by decide) (by decide)]; exact h15
      · have c4 : ¬ t m ≤ i := fun z => h4 ((nI_leI (by omega) (by omega)).mpr z)
        refine k_Row_get hRo (ho.of (hf o (by omega)) (hf (o + 1) (by omega))) hlo (by omega) ?_
        refine k_Row_append rw_13 hw hlen (fun S2 w2 f2 => ?_)
        rw [nI_1]
        refine ih (i + 1) S2 (by omega) ?_ ?_ ?_ (fun j hj => (f2 j (by omega) (by omega)).trans (hf j hj))
        · rw [List.append_assoc, ls_by_getD hb] at w2
          rw [List.range_succ, List.map_append, List.map_cons, List.map_nil, if_pos (by omega)]
          exact w2
        · rw [f2 12 (by decide) (by decide)]; exact h12
        · rw [f2 15 (by decide) (by decide), f2 16 (by decide) (by decide)]; exact h15
  refine key (8 * ((t m + 7) / 8)) 0 _ (by omega) ?_ ?_ (fun f hf => ?_) (fun i hi => ?_)
  · rw [List.range_zero, List.map_nil, List.append_nil]
    exact h1.of (by rw [px_u_ne _ _ _ (by decide), px_u_ne _ _ _ (by decide), px_u_ne _ _ _ (by decide)]) (by rw [px_u_ne _ _ _ (by decide), px_u_ne _ _ _ (by decide), px_u_ne _ _ _ (by decide)])
  · rw [px_us, px_ua, if_neg (by omega), px_ua, if_neg (by omega), e, nI_1]
  · rw [px_u_ne _ _ _ (by decide), px_u_ne (k := 12) _ _ _ (by decide), px_ua, if_neg (by omega), px_ua, px_ua]
    by_cases hfm : f = m
    · subst hfm
      rw [if_pos ⟨rfl, rfl⟩, if_pos ⟨rfl, rfl⟩]
      exact ⟨rfl, rfl⟩
    · rw [if_neg (by omega), if_neg (by omega), px_ua, if_neg (by omega)]
      exact h3 f (by omega)
  · rw [px_u_ne _ _ _ (by omega), px_u_ne _ _ _ (by omega), px_u_ne _ _ _ (by omega)]
end
section
variable {G : px_G} {d : Nat} {S : px_S} {F : Nat → List Int32} {t : Nat → Nat} {m : Nat}
theorem k_Slices_row {Q : px_S → Prop} (hQ : Q S) : px_R G px_Zc d m_Slices_row [.ref 12] S 13 Q := f_Slices_row (px_rq_i hQ)
theorem k_Slices_fileCount {Q : Int32 → px_S → Prop} (hQ : Q (S 12 4) S) : px_I G px_Zc d m_Slices_fileCount [.ref 12] S Q := f_Slices_fileCount (px_iq_i hQ)
theorem k_Slices_start {Q : Int32 → px_S → Prop} {f : Nat} (hf : f < 3) (hQ : Q (S 15 f) S) : px_I G px_Zc (d + 1) m_Slices_start [.ref 12, .int (nI f)] S Q := by
  refine f_Slices_start (k_isFileN hf ⟨fun h => absurd h (by decide), fun h => ⟨vp_in_nI hf (by decide), px_iq_i ?_⟩⟩)
  rw [nI_clamp (by omega)]; exact hQ
theorem k_Slices_size {Q : Int32 → px_S → Prop} {f : Nat} (hf : f < 3) (hQ : Q (S 16 f) S) : px_I G px_Zc (d + 1) m_Slices_size [.ref 12, .int (nI f)] S Q := by
  refine f_Slices_size (k_isFileN hf ⟨fun h => absurd h (by decide), fun h => ⟨vp_in_nI hf (by decide), px_iq_i ?_⟩⟩)
  rw [nI_clamp (by omega)]; exact hQ
theorem k_Slices_number {Q : Int32 → px_S → Prop} {j q : Nat} {C : List Int32} (hw : rw_at S 13 C) (hl : C.length ≤ 96) (hb : ls_by C) (hj : j < 12) (hq : q < 4) (hQ : Q (gE (sp_num C j q)) S) : px_I G px_Zc (d + 1) m_Slices_number [.ref 12, .int (nI j), .int (nI q)] S Q := by
  have e0 : (8 : Int32) * nI j + 2 * nI q = nI (8 * j + 2 * q) := by
    rw [show (8 : Int32) * nI j = nI (8 * j) from pk_mul 8 j, show (2 : Int32) * nI q = nI (2 * q) from pk_mul 2 q, nI_add]
  refine f_Slices_number ?_
  rw [e0, nI_1]
  refine k_Row_get rw_13 hw hl (by omega) (k_Row_get rw_13 hw hl (by omega) (px_iq_i ?_))
  rw [sp_num_eq hb]
  exact hQ
theorem k_Slices_weighed {Q : Int32 → px_S → Prop} {q : Nat} (hq : q < 4) (hQ : Q (S 17 q) S) : px_I G px_Zc d m_Slices_weighed [.ref 12, .int (nI q)] S Q := by
  refine f_Slices_weighed ⟨fun h => absurd h (nI_pos (by omega)), fun h => ⟨fun h1 => absurd h1 (nI_ge hq (by decide)), fun h1 => ⟨vp_in_nI hq (by decide), px_iq_i ?_⟩⟩⟩
  rw [nI_clamp (by omega)]; exact hQ
theorem k_Slices_weigh {Q : px_S → Prop} {e out n : Nat} {C : List Int32} (hw : rw_at S 13 C) (hl : C.length = 8 * n) (hn : n ≤ 12) (hb : ls_by C) (he : e < 256) (ho : out < 2 ^ 31) (hQ : ∀ S', (∀ q, q < 4 → S' 17 q = gE (sp_wg C out e q n)) → (∀ i, i ≠ 17 → S' i = S i) → Q S') : px_V G px_Zc (d + 3) m_Slices_weigh [.ref 12, .int (nI e), .int (nI out)] S Q := by
  have outer : ∀ (c j : Nat) (S' : px_S), c + j = n → (∀ q, q < 4 → S' 17 q = gE (sp_wg C out e q j)) → (∀ i, i ≠ 17 → S' i = S i) → px_w G px_Zc (d + 3) m_Slices_weigh 34 [.ref 12, .int (nI e), .int (nI out), .int (nI n), .int (nI j), .null, .null] [] S' (px_vq Q) := by
    intro c
    induction c with
    | zero =>
      intro j S' hj hw2 hf
      have : j = n := by omega
      subst this
      exact e_Slices_weigh_34 ⟨fun h => px_vq_i (hQ S' hw2 hf), fun h => absurd (Int32.le_refl _) h⟩
    | succ c ih =>
      intro j S' hj hw2 hf
      have e1 : px_ushr (nI out) (nI j) = nI (out / 2 ^ j) := px_ushrN (by omega) (by omega)
      have hle : out / 2 ^ j ≤ out := Nat.div_le_self _ _
      have e4 : nI (out / 2 ^ j) &&& 1 = nI (out / 2 ^ j % 2) := nI_and1 (by omega)
      have hC : rw_at S' 13 C := hw.of (hf 13 (by decide)) (hf 14 (by decide))
      refine e_Slices_weigh_34 ?_
      rw [e1, e4, nI_1]
      refine ⟨fun h => absurd h (nI_ge (by omega) (by omega)), fun h => ⟨fun h2 => ?_, fun h2 => ?_⟩⟩
      · have c2 : ¬ out / 2 ^ j % 2 = 0 := fun z => h2 (by rw [z]; rfl)
        refine ih (j + 1) S' (by omega) (fun q hq => ?_) hf
        show S' 17 q = gE (sp_wg C out e q j ^^^ _)
        rw [if_neg c2, BitVec.xor_zero]
        exact hw2 q hq
      · have c2 : out / 2 ^ j % 2 = 0 := (nI_eq (b := 0) (by omega) (by decide)).mp h2
        refine k_Field_basePower (by omega) he ?_
        have inner : ∀ (c2 q : Nat) (S2 : px_S), c2 + q = 4 → (∀ u, u < 4 → S2 17 u = if u < q then gE (sp_wg C out e u (j + 1)) else gE (sp_wg C out e u j)) → (∀ i, i ≠ 17 → S2 i = S i) → px_w G px_Zc (d + 3) m_Slices_weigh 60 [.ref 12, .int (nI e), .int (nI out), .int (nI n), .int (nI j), .int (gE (gf_b j e)), .int (nI q)] [] S2 (px_vq Q) := by
          intro c2'
          induction c2' with
          | zero =>
            intro q S2 hq hw3 hf3
            have : q = 4 := by omega
            subst this
            refine e_Slices_weigh_60 ⟨fun h => ?_, fun h => absurd (Int32.le_refl _) h⟩
            rw [nI_1]
            exact ih (j + 1) S2 (by omega) (fun u hu => by rw [hw3 u hu, if_pos hu]) hf3
          | succ c2' ih2 =>
            intro q S2 hq hw3 hf3
            refine e_Slices_weigh_60 ⟨fun h => absurd h (nI_ge (b := 4) (by omega) (by decide)), fun h => ⟨vp_in_nI (by omega) (by decide), ?_⟩⟩
            refine k_Slices_number (hw.of (hf3 13 (by decide)) (hf3 14 (by decide))) (by omega) hb (by omega) (by omega) (k_Field_times ⟨vp_in_nI (by omega) (by decide), ?_⟩)
            rw [nI_1, nI_clamp (by omega)]
            refine ih2 (q + 1) _ (by omega) (fun u hu => ?_) (fun i hi => (px_u_ne _ _ _ hi).trans (hf3 i hi))
            rw [px_ua]
            by_cases huq : u = q
            · subst huq
              rw [if_pos ⟨rfl, rfl⟩, if_pos (by omega), hw3 u hu, if_neg (by omega), gE_xor]
              show _ = gE (sp_wg C out e u j ^^^ _)
              rw [if_pos c2]
            · rw [if_neg (fun z => huq z.2), hw3 u hu]
              by_cases c3 : u < q
              · rw [if_pos c3, if_pos (by omega)]
              · rw [if_neg c3, if_neg (by omega)]
        exact inner 4 0 S' (by omega) (fun u hu => by rw [if_neg (by omega)]; exact hw2 u hu) hf
  have zero : ∀ (c q : Nat) (S' : px_S), c + q = 4 → (∀ u, u < q → S' 17 u = 0) → (∀ i, i ≠ 17 → S' i = S i) → px_w G px_Zc (d + 3) m_Slices_weigh 2 [.ref 12, .int (nI e), .int (nI out), .int (nI q), .null, .null, .null] [] S' (px_vq Q) := by
    intro c
    induction c with
    | zero =>
      intro q S' hq h0 hf
      have : q = 4 := by omega
      subst this
      refine e_Slices_weigh_2 ⟨fun h => k_Row_size rw_13 ?_, fun h => absurd (Int32.le_refl _) h⟩
      have hC : rw_at S' 13 C := hw.of (hf 13 (by decide)) (hf 14 (by decide))
      rw [hC.1, hl, show nI (8 * n) / 8 = nI (8 * n / 8) from pk_div (by omega) (by decide) (by decide), show 8 * n / 8 = n by omega]
      exact outer n 0 S' (by omega) (fun u hu => by rw [h0 u hu]; exact gE_0.symm) hf
    | succ c ih =>
      intro q S' hq h0 hf
      refine e_Slices_weigh_2 ⟨fun h => absurd h (nI_ge (b := 4) (by omega) (by decide)), fun h => ⟨vp_in_nI (by omega) (by decide), ?_⟩⟩
      rw [nI_1, nI_clamp (by omega)]
      refine ih (q + 1) _ (by omega) (fun u hu => ?_) (fun i hi => (px_u_ne _ _ _ hi).trans (hf i hi))
      rw [px_ua]
      by_cases huq : u = q
      · rw [if_pos ⟨rfl, huq⟩]
      · rw [if_neg (fun z => huq z.2)]
        exact h0 u (by omega)
  exact f_Slices_weigh (zero 4 0 S (by omega) (fun u hu => by omega) (fun _ _ => rfl))
end
