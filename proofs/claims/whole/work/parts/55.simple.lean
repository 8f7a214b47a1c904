/-! The simple calls: their values -/
def sq_ix (i : Int32) (n : Nat) : Prop := 0 ≤ i ∧ i < nI n
theorem sq_ix_of {i : Int32} {n : Nat} (h : sq_ix i n) (hn : n < 2 ^ 31) : ∃ j : Nat, j < n ∧ i = nI j := by
  obtain ⟨j, hj, rfl⟩ := nI_of (Int32.not_lt.mpr h.1)
  exact ⟨j, (nI_ltI hj hn).mp h.2, rfl⟩
theorem sq_ix_nI {j n : Nat} (h : j < n) (hn : n < 2 ^ 31) : sq_ix (nI j) n := ⟨nI_pos' (by omega), nI_lt h hn⟩
theorem sq_ix_n1 {i : Int32} {n : Nat} (h : i < 0) : ¬ sq_ix i n := fun z => absurd h (Int32.not_lt.mpr z.1)
theorem sq_ix_n2 {i : Int32} {n : Nat} (h : nI n ≤ i) : ¬ sq_ix i n := fun z => absurd h (Int32.not_le.mpr z.2)
theorem sq_ix_p {i : Int32} {n : Nat} (h : ¬ i < 0) (h2 : ¬ nI n ≤ i) : sq_ix i n := ⟨Int32.not_lt.mp h, Int32.not_le.mp h2⟩
noncomputable def sq_b (p : Prop) (a b : Int32) : Int32 := @ite _ p (Classical.propDecidable p) a b
theorem sq_bt {p : Prop} (h : p) (a b : Int32) : sq_b p a b = a := by unfold sq_b; rw [if_pos h]
theorem sq_bf {p : Prop} (h : ¬ p) (a b : Int32) : sq_b p a b = b := by unfold sq_b; rw [if_neg h]
noncomputable def sq_l {α : Type} (p : Prop) (a b : α) : α := @ite _ p (Classical.propDecidable p) a b
theorem sq_lt {α : Type} {p : Prop} (h : p) (a b : α) : sq_l p a b = a := by unfold sq_l; rw [if_pos h]
theorem sq_lf {α : Type} {p : Prop} (h : ¬ p) (a b : α) : sq_l p a b = b := by unfold sq_l; rw [if_neg h]
def sq_up (F : Nat → List Int32) (j : Nat) (L : List Int32) : Nat → List Int32 := fun g => if g = j then L else F g
/-- byte k of a long -/
def sq_by (x : Int64) (k : Nat) : Int32 := (px_lushr x (nI (8 * k))).toInt32 &&& 255
noncomputable def sq_type (x : Int64) (n : Int32) (T : List Int32) : Int32 × List Int32 :=
  sq_l (n < 1 ∨ 8 < n) (-1, T) (sq_l (40 < T.length + n.toNatClampNeg) (-2, T) (nI (T.length + n.toNatClampNeg), T ++ (List.range n.toNatClampNeg).map (fun i => sq_by x (n.toNatClampNeg - 1 - i))))
noncomputable def sq_file (f : Int32) (T : List Int32) (F : Nat → List Int32) : Int32 × List Int32 × (Nat → List Int32) := sq_l (sq_ix f 3) (nI T.length, [], sq_up F f.toNatClampNeg T) (-1, T, F)
noncomputable def sq_damage (f i v : Int32) (F : Nat → List Int32) : Int32 × (Nat → List Int32) := sq_l (sq_ix f 3 ∧ sq_ix i (F f.toNatClampNeg).length ∧ 0 ≤ v ∧ v ≤ 255) (1, sq_up F f.toNatClampNeg ((F f.toNatClampNeg).set i.toNatClampNeg v)) (0, F)
noncomputable def sq_shorten (f n : Int32) (F : Nat → List Int32) : Int32 × (Nat → List Int32) := sq_l (sq_ix f 3 ∧ 0 ≤ n ∧ n ≤ nI (F f.toNatClampNeg).length) (1, sq_up F f.toNatClampNeg ((F f.toNatClampNeg).take ((F f.toNatClampNeg).length - n.toNatClampNeg))) (0, F)
noncomputable def sq_byteAt (i : Int32) (V : List Int32) : Int32 := sq_b (sq_ix i V.length) (V.getD i.toNatClampNeg 0) (-1)
noncomputable def sq_alter (i v : Int32) (V : List Int32) : Int32 × List Int32 := sq_l (sq_ix i V.length ∧ 0 ≤ v ∧ v ≤ 255) (1, V.set i.toNatClampNeg v) (0, V)
noncomputable def sq_cut (i n : Int32) (V : List Int32) : Int32 × List Int32 := sq_l (sq_ix i V.length ∧ 1 ≤ n ∧ n ≤ nI (V.length - i.toNatClampNeg)) (1, V.take i.toNatClampNeg ++ V.drop (i.toNatClampNeg + n.toNatClampNeg)) (0, V)
noncomputable def sq_length (f : Int32) (F : Nat → List Int32) : Int32 := sq_b (sq_ix f 3) (nI (F f.toNatClampNeg).length) (-1)
noncomputable def sq_at (f i : Int32) (F : Nat → List Int32) : Int32 := sq_b (sq_ix f 3 ∧ sq_ix i (F f.toNatClampNeg).length) ((F f.toNatClampNeg).getD i.toNatClampNeg 0) (-1)
section
variable {G : px_G} {d k n : Nat} {S : px_S} {L : List Int32}
theorem k_Row_dropLast {Q : Int32 → px_S → Prop} {x : Int32} (hR : rw_is k n) (hw : rw_at S k L) (hl : L.length ≤ n) (h1 : ∀ j, j ≤ L.length → x = nI j → ∀ S', rw_at S' k (L.take (L.length - j)) → (∀ i, i ≠ k → S' i = S i) → Q 1 S') (h0 : ¬ (0 ≤ x ∧ x ≤ nI L.length) → Q 0 S) : px_I G px_Zc d m_Row_dropLast [.ref k, .int x] S Q := by
  have hn := hR.2.2
  refine f_Row_dropLast hR.1 hR.2.1 ⟨fun h => px_iq_i (h0 (fun z => absurd h (Int32.not_lt.mpr z.1))), fun h => ⟨fun h2 => px_iq_i ?_, fun h2 => px_iq_i (h0 (fun z => h2 (by rw [hw.1]; exact z.2)))⟩⟩
  obtain ⟨j, hj, rfl⟩ := nI_of h
  rw [hw.1, nI_leI hj (by omega)] at h2
  refine h1 j h2 rfl _ ⟨?_, fun i hi => ?_⟩ (fun i hi => px_u_ne _ _ _ hi)
  · rw [px_us, hw.1, pk_sub h2, List.length_take]
    congr 1
    omega
  · rw [List.length_take] at hi
    rw [px_ua, if_neg (by omega), hw.2 i (by omega), List.getD_eq_getElem?_getD, List.getD_eq_getElem?_getD, List.getElem?_take_of_lt (by omega)]
theorem k_Row_remove {Q : Int32 → px_S → Prop} {i x : Int32} (hR : rw_is k n) (hw : rw_at S k L) (hl : L.length ≤ n) (h1 : ∀ a j, a < L.length → 1 ≤ j → j ≤ L.length - a → i = nI a → x = nI j → ∀ S', rw_at S' k (L.take a ++ L.drop (a + j)) → (∀ i, i ≠ k → i ≠ k + 1 → S' i = S i) → Q 1 S') (h0 : ¬ (sq_ix i L.length ∧ 1 ≤ x ∧ x ≤ nI (L.length - i.toNatClampNeg)) → Q 0 S) : px_I G px_Zc (d + 1) m_Row_remove [.ref k, .int i, .int x] S Q := by
  have hn := hR.2.2
  refine f_Row_remove hR.1 hR.2.1 (k_Row_has hR ?_)
  rw [hw.1]
  by_cases hix : sq_ix i L.length
  · obtain ⟨a, ha, rfl⟩ := sq_ix_of hix (by omega)
    rw [if_neg (nI_pos (by omega)), if_neg (nI_ge ha (by omega)), pk_sub (by omega)]
    refine ⟨fun h => absurd h (by decide), fun h => ⟨fun h2 => px_iq_i (h0 (fun z => absurd h2 (Int32.not_lt.mpr z.2.1))), fun h2 => ⟨fun h3 => ?_, fun h3 => px_iq_i (h0 (fun z => h3 (by have := z.2.2; rw [nI_clamp (by omega)] at this; exact this)))⟩⟩⟩
    have h2' : 1 ≤ x := Int32.not_lt.mp h2
    obtain ⟨j, hj, rfl⟩ := nI_of (x := x) (fun z => h2 (Int32.lt_trans z (by decide)))
    rw [nI_leI hj (by omega)] at h3
    have h1' : 1 ≤ j := (nI_leI (a := 1) (by decide) hj).mp h2'
    rw [nI_add, pk_sub h3]
    refine ⟨⟨nI_pos (by omega), nI_pos (by omega), nI_pos (by omega), ?_, ?_⟩, ?_⟩
    · rw [nI_clamp (by omega), nI_clamp (by omega)]; omega
    · rw [nI_clamp (by omega), nI_clamp (by omega)]; omega
    · rintro S3 rfl
      rw [nI_clamp (by omega), nI_clamp (by omega), nI_clamp (by omega)]
      refine px_iq_i (h1 a j ha h1' h3 rfl rfl _ ⟨?_, fun q hq => ?_⟩ (fun q h4 h5 => ?_))
      · rw [px_us]
        unfold px_c
        rw [if_neg (by omega), hw.1, pk_sub (by omega), List.length_append, List.length_take, List.length_drop]
        congr 1
        omega
      · rw [List.length_append, List.length_take, List.length_drop] at hq
        rw [px_ua, if_neg (by omega)]
        unfold px_c
        rw [if_pos rfl, ls_getD_append, List.length_take]
        by_cases hqa : q < a
        · rw [pk_cpy_out (Or.inl hqa), if_pos (by omega), hw.2 q (by omega), List.getD_eq_getElem?_getD, List.getD_eq_getElem?_getD, List.getElem?_take_of_lt hqa]
        · rw [pk_cpy_in (by omega) (by omega), if_neg (by omega), hw.2 _ (by omega), List.getD_eq_getElem?_getD, List.getD_eq_getElem?_getD, List.getElem?_drop]
          congr 2
          omega
      · rw [px_u_ne _ _ _ h4]
        unfold px_c
        rw [if_neg h5]
  · have e : (if i < 0 then (0 : Int32) else if nI L.length ≤ i then 0 else 1) = 0 := by
      by_cases c1 : i < 0
      · rw [if_pos c1]
      · rw [if_neg c1]
        by_cases c2 : nI L.length ≤ i
        · rw [if_pos c2]
        · exact absurd (sq_ix_p c1 c2) hix
    rw [e]
    exact ⟨fun h => px_iq_i (h0 (fun z => hix z.1)), fun h => absurd rfl h⟩
end
