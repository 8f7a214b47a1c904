/-! The law's start: classes, array classes, tables -/
theorem st_K {b : Nat} {s : State} (hts : ∀ w ∈ px_WA, w.before #[Value.ref b] s = true) (hr : (Cond.arrayOver (.object "ParityVolume$Row")).before #[Value.ref b] s = true) (hi : (Cond.arrayOver (.array .int)).before #[Value.ref b] s = true) : ∃ (D : va_G) (aC : Nat → ClassId), va_K D px_cl (px_ty aC) s := by
  obtain ⟨c0, i0, k0⟩ := u_known (n := 7) hts pW_PV (hts _ (px_m1 16 (by decide +kernel)))
  obtain ⟨c1, i1, k1⟩ := u_known (n := 2) hts pW_Row (hts _ (px_m1 24 (by decide +kernel)))
  obtain ⟨c2, i2, k2⟩ := u_known (n := 5) hts pW_Slices (hts _ (px_m1 39 (by decide +kernel)))
  obtain ⟨c3, i3, k3⟩ := u_known (n := 4) hts pW_Sum (hts _ (px_m1 63 (by decide +kernel)))
  obtain ⟨c4, i4, k4⟩ := u_known (n := 3) hts pW_Packets (hts _ (px_m1 82 (by decide +kernel)))
  obtain ⟨c5, i5, k5⟩ := u_known (n := 4) hts pW_Writer (hts _ (px_m1 98 (by decide +kernel)))
  obtain ⟨c6, i6, k6⟩ := u_known (n := 11) hts pW_Catalog (hts _ (px_m1 121 (by decide +kernel)))
  obtain ⟨c7, i7, k7⟩ := u_known (n := 7) hts pW_Mender (hts _ (px_m1 162 (by decide +kernel)))
  obtain ⟨c8, i8, k8⟩ := u_known (n := 4) hts pW_Equations (hts _ (px_m1 168 (by decide +kernel)))
  obtain ⟨c9, i9, k9⟩ := u_known (n := 24) hts pW_Mo (hts _ (px_m3 209 (by decide +kernel)))
  obtain ⟨a0, q0, m0, u1, u2, u3⟩ := Cond.arrayClass_spec (hts _ px_arrI)
  obtain ⟨m1, a1, q1, v1, v2, v3, v4, v5⟩ := Cond.arrayOver_spec hr
  obtain ⟨m2, a2, q2, w1, w2, w3, w4⟩ := cx_AA.of hi
  refine ⟨(fun c => [c0, c1, c2, c3, c4, c5, c6, c7, c8, c9].getD c 0, fun c => [i0, i1, i2, i3, i4, i5, i6, i7, i8, i9].getD c (fun _ => 0)), fun t => [a0, a1, a2].getD t 0, fun c q hq => ?_, fun k q hq => ?_⟩
  · match c, hq with
    | 0, hq => cases hq; exact k0
    | 1, hq => cases hq; exact k1
    | 2, hq => cases hq; exact k2
    | 3, hq => cases hq; exact k3
    | 4, hq => cases hq; exact k4
    | 5, hq => cases hq; exact k5
    | 6, hq => cases hq; exact k6
    | 7, hq => cases hq; exact k7
    | 8, hq => cases hq; exact k8
    | 9, hq => cases hq; exact k9
    | n + 10, hq => cases hq
  · match k, hq with
    | 0, hq => cases hq; exact ⟨fun n z => ⟨fun k h => (by cases h), q0, u2, m0, u3⟩, u1⟩
    | 1, hq => cases hq; exact ⟨fun n z => ⟨fun k h => (by cases h), q1, v3, m1, v4⟩, q1, m1, v3, v4, v1, v5⟩
    | 2, hq => cases hq; exact ⟨fun n z => ⟨fun k h => (by cases h), q2, w2, m2, w3⟩, w4⟩
    | n + 3, hq => cases hq
def st_c (C n : String) (T : List Int32) : Prop := Cond.arrayOf (.static C n "[I") .int ∈ flatC (Jvm.Cond.and given_1 narrow_1) ∧ Cond.eq (.length (.static C n "[I")) (.int (Int32.ofNat T.length)) ∈ flatC (Jvm.Cond.and given_1 narrow_1) ∧ (∀ j, j < T.length → Cond.eq (.elem (.static C n "[I") (.int (Int32.ofNat j))) (.int (T.getD j 0)) ∈ flatC (Jvm.Cond.and given_1 narrow_1)) ∧ Cond.laysStatic C n "[I" ∈ lw_tbl ∧ Cond.initialized C ∈ lw_tbl ∧ T.length < 2 ^ 31
theorem st_c0 : st_c "ParityVolume$Sum" "K" px_t0 := ⟨by decide +kernel, by decide +kernel, by decide +kernel, List.mem_append_right _ (by decide +kernel), List.mem_append_right _ (by decide +kernel), by decide⟩
theorem st_c1 : st_c "ParityVolume$Sum" "TURNS" px_t1 := ⟨by decide +kernel, by decide +kernel, by decide +kernel, List.mem_append_right _ (by decide +kernel), List.mem_append_right _ (by decide +kernel), by decide⟩
theorem st_c2 : st_c "ParityVolume$Field" "BASE_LOGS" px_t2 := ⟨by decide +kernel, by decide +kernel, by decide +kernel, List.mem_append_right _ (by decide +kernel), List.mem_append_right _ (by decide +kernel), by decide⟩
theorem st_t {C n : String} {T : List Int32} (h : st_c C n T) {b : Nat} {s : State} (hts : ∀ w ∈ lw_tbl, w.before #[Value.ref b] s = true) (hg : (Jvm.Cond.and given_1 narrow_1).before #[Value.ref b] s = true) : ∃ t : Nat, va_T .int t T.length (fun j => .int (T.getD j 0)) (fun q => s.heap.size ≤ q) s s.heap ∧ va_Z C n "[I" (.ref t) (fun q => s.heap.size ≤ q) s s.heap := by
  obtain ⟨h1, h2, h3, h4, h5, h6⟩ := h
  have hs := flat_of_before _ hg
  have hA : ∀ a : Nat, a < s.heap.size → ¬ s.heap.size ≤ a := fun a h => Nat.not_le.mpr h
  obtain ⟨t, ht, hT⟩ := va_Tof (A := fun q => s.heap.size ≤ q) (f := fun j => .int (T.getD j 0)) h6 (hs _ h1) (va_eqt (hs _ h2)) (fun j hj => va_eqt (hs _ (h3 j hj))) hA
  exact ⟨t, hT, va_Zof (hts _ h4) (hts _ h5) ht hA⟩
