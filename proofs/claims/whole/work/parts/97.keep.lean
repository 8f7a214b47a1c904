/-! What the calls keep -/
theorem by_of {v : Int32} (h : 0 ≤ v) (h2 : v ≤ 255) : v &&& 255 = v := by
  obtain ⟨j, hj, rfl⟩ := nI_of2 (M := 255) (n := 255) (by decide) (Int32.not_lt.mpr h) h2
  exact by_nI (by omega)
theorem ok_up {T : List Int32} {F : Nat → List Int32} {V : List Int32} (ok : sv_ok T F V) {j : Nat} {X : List Int32} (h : X.length ≤ 40) (hb : ls_by X) {T' V' : List Int32} (hT : T'.length ≤ 40 ∧ ls_by T') (hV : V'.length ≤ 694 ∧ ls_by V') : sv_ok T' (sq_up F j X) V' := by
  refine ⟨hT, fun f hf => ?_, hV⟩
  unfold sq_up
  by_cases hfj : f = j
  · rw [if_pos hfj]; exact ⟨h, hb⟩
  · rw [if_neg hfj]; exact ok.2.1 f hf
section
variable {T : List Int32} {F : Nat → List Int32} {V : List Int32}
theorem ok_type (ok : sv_ok T F V) (x : Int64) (n : Int32) : sv_ok (sq_type x n T).2 F V := by
  unfold sq_type
  by_cases h1 : n < 1 ∨ 8 < n
  · rw [sq_lt h1]; exact ok
  · rw [sq_lf h1]
    by_cases h2 : 40 < T.length + n.toNatClampNeg
    · rw [sq_lt h2]; exact ok
    · rw [sq_lf h2]
      refine ⟨⟨?_, ls_by_app ok.1.2 (fun y hy => ?_)⟩, ok.2⟩
      · show (T ++ _).length ≤ 40
        rw [List.length_append, List.length_map, List.length_range]
        omega
      · obtain ⟨i, _, rfl⟩ := List.mem_map.mp hy
        exact by_and _
theorem ok_file (ok : sv_ok T F V) (f : Int32) : sv_ok (sq_file f T F).2.1 (sq_file f T F).2.2 V := by
  unfold sq_file
  by_cases h : sq_ix f 3
  · rw [sq_lt h]
    exact ok_up ok ok.1.1 ok.1.2 ⟨Nat.zero_le _, ls_by_nil⟩ ok.2.2
  · rw [sq_lf h]; exact ok
theorem ok_damage (ok : sv_ok T F V) (f i v : Int32) : sv_ok T (sq_damage f i v F).2 V := by
  unfold sq_damage
  by_cases h : sq_ix f 3 ∧ sq_ix i (F f.toNatClampNeg).length ∧ 0 ≤ v ∧ v ≤ 255
  · rw [sq_lt h]
    obtain ⟨j, hj, rfl⟩ := sq_ix_of h.1 (by decide)
    have ho := ok.2.1 j hj
    rw [nI_clamp (by omega)]
    exact ok_up ok (by rw [List.length_set]; exact ho.1) (ls_by_set' ho.2 _ (by_of h.2.2.1 h.2.2.2)) ok.1 ok.2.2
  · rw [sq_lf h]; exact ok
theorem ls_by_take {L : List Int32} (h : ls_by L) (n : Nat) : ls_by (L.take n) := fun x hx => h x (List.mem_of_mem_take hx)
theorem ls_by_drop {L : List Int32} (h : ls_by L) (n : Nat) : ls_by (L.drop n) := fun x hx => h x (List.mem_of_mem_drop hx)
theorem ok_shorten (ok : sv_ok T F V) (f n : Int32) : sv_ok T (sq_shorten f n F).2 V := by
  unfold sq_shorten
  by_cases h : sq_ix f 3 ∧ 0 ≤ n ∧ n ≤ nI (F f.toNatClampNeg).length
  · rw [sq_lt h]
    obtain ⟨j, hj, rfl⟩ := sq_ix_of h.1 (by decide)
    have ho := ok.2.1 j hj
    rw [nI_clamp (by omega)]
    refine ok_up ok ?_ (ls_by_take ho.2 _) ok.1 ok.2.2
    rw [List.length_take]
    omega
  · rw [sq_lf h]; exact ok
theorem ok_alter (ok : sv_ok T F V) (i v : Int32) : sv_ok T F (sq_alter i v V).2 := by
  unfold sq_alter
  by_cases h : sq_ix i V.length ∧ 0 ≤ v ∧ v ≤ 255
  · rw [sq_lt h]
    exact ⟨ok.1, ok.2.1, by rw [List.length_set]; exact ok.2.2.1, ls_by_set' ok.2.2.2 _ (by_of h.2.1 h.2.2)⟩
  · rw [sq_lf h]; exact ok
theorem ok_cut (ok : sv_ok T F V) (i n : Int32) : sv_ok T F (sq_cut i n V).2 := by
  unfold sq_cut
  by_cases h : sq_ix i V.length ∧ 1 ≤ n ∧ n ≤ nI (V.length - i.toNatClampNeg)
  · rw [sq_lt h]
    refine ⟨ok.1, ok.2.1, ?_, ls_by_app (ls_by_take ok.2.2.2 _) (ls_by_drop ok.2.2.2 _)⟩
    have := ok.2.2.1
    have h1 : 1 ≤ n := h.2.1
    obtain ⟨j, hj, rfl⟩ := sq_ix_of h.1 (by omega)
    show (List.take _ _ ++ List.drop _ _).length ≤ 694
    rw [List.length_append, List.length_take, List.length_drop]
    omega
  · rw [sq_lf h]; exact ok
theorem ok_repair (ok : sv_ok T F V) : sv_ok T (sq_repair F V).2 V := by
  unfold sq_repair
  cases hM : sc_mn V with
  | none => exact ok
  | some M =>
    obtain ⟨hMk, hMn⟩ := sc_mn_ok hM
    have hm3 := hMn.2.1.2
    dsimp only
    unfold sq_rep
    by_cases h1 : (rp_el V (sp_c F (mn_t V M) (mn_m V M)) (sc_N V M) (sq_dm F V M) (sp_n (mn_t V M) (mn_m V M)) 256).1 < (sq_dm F V M).length
    · rw [sq_lt h1]; exact ok
    · rw [sq_lf h1]
      by_cases h2 : ∀ f, f < mn_m V M → rp_rt V (sc_N V M) (rp_C V (sp_c F (mn_t V M) (mn_m V M)) (sc_N V M) (sq_dm F V M) (sp_n (mn_t V M) (mn_m V M))) (mn_t V M) f
      · rw [sq_lt h2]
        refine ⟨ok.1, fun f hf => ?_, ok.2.2⟩
        show (rp_F F _ _ _ f).length ≤ 40 ∧ ls_by (rp_F F _ _ _ f)
        unfold rp_F
        by_cases hfm : f < mn_m V M
        · rw [if_pos hfm, ls_sl_len]
          exact ⟨hMn.2.2.2.2.1 f hfm, ls_by_sl (ls_by_pa (ls_by_c (fun g hg => (ok.2.1 g (by omega)).2)) _ _ _ _) _ _⟩
        · rw [if_neg hfm]; exact ok.2.1 f hf
      · rw [sq_lf h2]; exact ok
end
theorem ok_protect {T : List Int32} {F : Nat → List Int32} {V : List Int32} (ok : sv_ok T F V) (r : Int32) : sv_ok T F (sq_protect r F V).2 := by
  unfold sq_protect
  by_cases h1 : r < 0 ∨ 6 < r
  · rw [if_pos h1]; exact ok
  · rw [if_neg h1]
    by_cases h2 : 12 < sp_n (fun f => (F f).length) 3
    · rw [if_pos h2]; exact ok
    · rw [if_neg h2]
      obtain ⟨j, hj, rfl⟩ := nI_of2 (M := 6) (n := 6) (by decide) (fun z => h1 (Or.inl z)) (Int32.not_lt.mp (fun z => h1 (Or.inr z)))
      rw [nI_clamp (by omega)]
      refine ⟨ok.1, ok.2.1, ?_, ls_by_all F _ _ (fun f hf => by have := (ok.2.1 f hf).1; omega) (by omega) j hj⟩
      rw [vw_all_len]
      omega
