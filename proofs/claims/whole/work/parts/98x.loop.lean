/-! The law: its loop -/
section
variable {l : Launch} {D : va_G} {aC : Nat → ClassId} {ad ad2 : Nat → Nat} {b L : Nat} {xs : Nat → Int32} {K N i : Nat} {S S2 : px_S}
theorem lx_cl : Cond.constantLong "ParityVolumeLaw" 13 4294967295 ∈ px_WA := List.mem_filter.mpr ⟨List.mem_append_right _ (by decide +kernel), rfl⟩
theorem lx_next (kk : lx_w l D aC ad ad2 b L xs K N 18 (i + 4) [] S S2) : lx_w l D aC ad ad2 b L xs K N 486 i [] S S2 := by
  intro p e s m below meth c X H locs ls hl hP hP2 hS
  obtain ⟨j, hj⟩ := List.getElem?_of_mem (px_k_mem (ad := cx_id) (q := (3, .int (nI i))).mpr ⟨.int (nI i), (rfl : [Value.ref b, .ref (ad 0), .ref (ad2 0), .int (nI i)][3]? = some (.int (nI i))), (fun z => by cases z), rfl⟩)
  refine lv_iinc (n := 4) X.1 X.2.1 (show decode code 486 = .ok (.iinc 3 4, 3) by decide +kernel) (px_L_has hl) hj rfl (by decide) rfl (fun ls' h' => ?_)
  have hl' := px_L_set (ad := cx_id) (v := .int (nI i + Int32.ofInt 4)) (L := [Value.ref b, .ref (ad 0), .ref (ad2 0), .int (nI i)]) (i := 3) rfl h'
  have e4 : nI i + Int32.ofInt 4 = nI (i + 4) := nI_add i 4
  have hl2 : px_L cx_id ls' 4 [.ref b, .ref (ad 0), .ref (ad2 0), .int (nI (i + 4))] := by rw [← e4]; exact hl'
  exact lv_goto (tgt := 18) X.1 X.2.1 (show decode code 489 = .ok (.goto (-471), 3) by decide +kernel) (by decide) (kk p e s m below meth c X H locs ls' hl2 hP hP2 hS)
theorem lx_loop (hL : L ≤ 2048) (hKN : K ≤ 600000 ∧ N ≤ 7302250) : ∀ (r i : Nat) (T : List Int32) (F : Nat → List Int32) (V : List Int32) (S S2 : px_S), L ≤ i + r → i ≤ 2052 → sv_C S T F V → sv_R S2 T F V → sv_ok T F V → lx_w l D aC ad ad2 b L xs K N 18 i [] S S2 := by
  have start : ∀ (i : Nat) (S S2 : px_S), i ≤ 2052 → (i + 3 < L → (∀ j, j < 16 → ∀ tg, [104, 167, 190, 233, 266, 289, 302, 325, 358, 391, 404, 417, 430, 453, 486, 486][j]? = some tg → lx_w l D aC ad ad2 b L xs K N tg i [] S S2)) → lx_w l D aC ad ad2 b L xs K N 18 i [] S S2 := by
    intro i S S2 hi6 go
    intro p e s m below meth c X H locs ls hl hP hP2 hS
    have hbA : ¬ s.heap.size ≤ b := Nat.not_le.mpr X.2.2.2.2.2.2.2.1
    refine lv_iload_n (k := 3) X.1 X.2.1 (show decode code 18 = .ok (.iload_n 3, 1) by decide +kernel) rfl (hl.2.2 3 (.int (nI i)) rfl (fun z => by cases z)) ?_
    refine lv_aload_n (k := 0) X.1 X.2.1 (show decode code 19 = .ok (.aload_n 0, 1) by decide +kernel) rfl (hl.2.2 0 (.ref b) rfl (fun z => by cases z)) ?_
    refine va_slen (A := fun q => s.heap.size ≤ q) X.1 X.2.1 X.2.2.2.2.2.2.1 X.2.2.2.2.2.2.2.1 hbA hS (show decode code 20 = .ok (.arraylength, 1) by decide +kernel) ?_
    refine lv_iconst (n := 4) (v := 4) X.1 X.2.1 (show decode code 21 = .ok (.iconst 4, 1) by decide +kernel) (by decide) ?_
    refine lv_isub X.1 X.2.1 (show decode code 22 = .ok (.isub, 1) by decide +kernel) ?_
    have hcmp : (nI L - 4 < nI i) ↔ L < i + 4 := by
      rw [Int32.lt_iff_toInt_lt, show nI L - 4 = nI L - nI 4 from rfl, pk_sub_toInt (by omega) (by omega), nI_toInt (by omega)]
      omega
    refine lv_icmp_gt (tgt := 492) X.1 X.2.1 (show decode code 23 = .ok (.if_icmp .gt 469, 3) by decide +kernel) (by decide) (fun h => ?_) (fun h => ?_)
    · refine lv_iconst (n := 1) (v := 1) X.1 X.2.1 (show decode code 492 = .ok (.iconst 1, 1) by decide +kernel) (by decide) ?_
      refine va_forget hS.2.2 (W.widen (k := 600000) (n := 7302250) hKN.1 hKN.2 ?_)
      exact lw_ret X.1 X.2.1 X.2.2.1 X.2.2.2.2.2.2.2.2.1 (show decode code 493 = .ok (.ireturn, 1) by decide +kernel)
    · have h' : ¬ (nI L - 4 < nI i) := h
      rw [hcmp] at h'
      refine lv_aload_n (k := 0) X.1 X.2.1 (show decode code 26 = .ok (.aload_n 0, 1) by decide +kernel) rfl (hl.2.2 0 (.ref b) rfl (fun z => by cases z)) ?_
      refine lv_iload_n (k := 3) X.1 X.2.1 (show decode code 27 = .ok (.iload_n 3, 1) by decide +kernel) rfl (hl.2.2 3 (.int (nI i)) rfl (fun z => by cases z)) ?_
      refine va_sld (A := fun q => s.heap.size ≤ q) X.1 X.2.1 X.2.2.2.2.2.2.1 X.2.2.2.2.2.2.2.1 hbA hS (vp_in_nI (by omega) (by omega)) (show decode code 28 = .ok (.iaload, 1) by decide +kernel) ?_
      refine lv_bipush (n := 15) (v := 15) X.1 X.2.1 (show decode code 29 = .ok (.bipush 15, 2) by decide +kernel) (by decide) ?_
      refine lv_iand X.1 X.2.1 (show decode code 31 = .ok (.iand, 1) by decide +kernel) ?_
      obtain ⟨j, hj, ej⟩ := pk_andE (xs (nI i).toNatClampNeg) (m := 15) 4 (by decide)
      rw [ej]
      have tb : decode code 32 = .ok (.tableswitch 454 0 13 #[72, 135, 158, 201, 234, 257, 270, 293, 326, 359, 372, 385, 398, 421], 72) := by decide +kernel
      have sw : ∀ j, j < 16 → (∀ tg, [104, 167, 190, 233, 266, 289, 302, 325, 358, 391, 404, 417, 430, 453, 486, 486][j]? = some tg → lx_w l D aC ad ad2 b L xs K N tg i [] S S2) → W p l e room_1 s m #[Value.ref b] below meth c H locs K N (lw_Z below #[Value.ref b] s) (F0 m 32 ls [.int (nI j)]) := by
        intro j hj g
        match j, hj, g with
        | 0, _, g => exact lv_tableIn (off := 72) (tgt := 104) X.1 X.2.1 tb (by decide) (by decide) (by decide) (by decide) (g _ rfl p e s m below meth c X H locs ls hl hP hP2 hS)
        | 1, _, g => exact lv_tableIn (off := 135) (tgt := 167) X.1 X.2.1 tb (by decide) (by decide) (by decide) (by decide) (g _ rfl p e s m below meth c X H locs ls hl hP hP2 hS)
        | 2, _, g => exact lv_tableIn (off := 158) (tgt := 190) X.1 X.2.1 tb (by decide) (by decide) (by decide) (by decide) (g _ rfl p e s m below meth c X H locs ls hl hP hP2 hS)
        | 3, _, g => exact lv_tableIn (off := 201) (tgt := 233) X.1 X.2.1 tb (by decide) (by decide) (by decide) (by decide) (g _ rfl p e s m below meth c X H locs ls hl hP hP2 hS)
        | 4, _, g => exact lv_tableIn (off := 234) (tgt := 266) X.1 X.2.1 tb (by decide) (by decide) (by decide) (by decide) (g _ rfl p e s m below meth c X H locs ls hl hP hP2 hS)
        | 5, _, g => exact lv_tableIn (off := 257) (tgt := 289) X.1 X.2.1 tb (by decide) (by decide) (by decide) (by decide) (g _ rfl p e s m below meth c X H locs ls hl hP hP2 hS)
        | 6, _, g => exact lv_tableIn (off := 270) (tgt := 302) X.1 X.2.1 tb (by decide) (by decide) (by decide) (by decide) (g _ rfl p e s m below meth c X H locs ls hl hP hP2 hS)
        | 7, _, g => exact lv_tableIn (off := 293) (tgt := 325) X.1 X.2.1 tb (by decide) (by decide) (by decide) (by decide) (g _ rfl p e s m below meth c X H locs ls hl hP hP2 hS)
        | 8, _, g => exact lv_tableIn (off := 326) (tgt := 358) X.1 X.2.1 tb (by decide) (by decide) (by decide) (by decide) (g _ rfl p e s m below meth c X H locs ls hl hP hP2 hS)
        | 9, _, g => exact lv_tableIn (off := 359) (tgt := 391) X.1 X.2.1 tb (by decide) (by decide) (by decide) (by decide) (g _ rfl p e s m below meth c X H locs ls hl hP hP2 hS)
        | 10, _, g => exact lv_tableIn (off := 372) (tgt := 404) X.1 X.2.1 tb (by decide) (by decide) (by decide) (by decide) (g _ rfl p e s m below meth c X H locs ls hl hP hP2 hS)
        | 11, _, g => exact lv_tableIn (off := 385) (tgt := 417) X.1 X.2.1 tb (by decide) (by decide) (by decide) (by decide) (g _ rfl p e s m below meth c X H locs ls hl hP hP2 hS)
        | 12, _, g => exact lv_tableIn (off := 398) (tgt := 430) X.1 X.2.1 tb (by decide) (by decide) (by decide) (by decide) (g _ rfl p e s m below meth c X H locs ls hl hP hP2 hS)
        | 13, _, g => exact lv_tableIn (off := 421) (tgt := 453) X.1 X.2.1 tb (by decide) (by decide) (by decide) (by decide) (g _ rfl p e s m below meth c X H locs ls hl hP hP2 hS)
        | 14, _, g => exact lv_tableOut (tgt := 486) X.1 X.2.1 tb (by decide) (by decide) (g _ rfl p e s m below meth c X H locs ls hl hP hP2 hS)
        | 15, _, g => exact lv_tableOut (tgt := 486) X.1 X.2.1 tb (by decide) (by decide) (g _ rfl p e s m below meth c X H locs ls hl hP hP2 hS)
        | n + 16, hj, _ => exact absurd hj (by omega)
      exact sw j hj (go (by omega) j hj)
  intro r
  induction r with
  | zero =>
    intro i T F V S S2 hi hi2 hC hR ok
    exact start i S S2 hi2 (fun h => by omega)
  | succ r ih =>
    intro i T F V S S2 hi hi2 hC hR ok
    refine start i S S2 hi2 (fun hlt => ?_)
    have nxt : ∀ {T' : List Int32} {F' : Nat → List Int32} {V' : List Int32} {S1 S3 : px_S}, sv_C S1 T' F' V' → sv_R S3 T' F' V' → sv_ok T' F' V' → lx_w l D aC ad ad2 b L xs K N 486 i [] S1 S3 := fun {T' F' V' S1 S3} a b c => lx_next (ih (i + 4) T' F' V' S1 S3 (by omega) (by omega) a b c)
    have c104 : lx_w l D aC ad ad2 b L xs K N 104 i [] S S2 := by
      have hd : lx_dT 104 15 19 324 := by refine ⟨?_, ⟨⟨?_, ?_, ?_, ?_, ?_⟩, ?_, ?_, ?_, ⟨?_, ?_, ?_, ?_, ?_⟩, ?_, ?_, ?_, ?_⟩, ⟨?_, ?_, ?_, ?_, ?_⟩, ?_, ?_, ⟨⟨?_, ?_, ?_, ?_, ?_⟩, ?_, ?_, ?_, ⟨?_, ?_, ?_, ?_, ?_⟩, ?_, ?_, ?_, ?_⟩, ⟨?_, ?_, ?_, ?_, ?_⟩, ?_, ?_⟩ <;> decide +kernel
      exact lx_cT hd (by decide) lm_PV_type lm_Mo_type hlt hL hKN lx_cl (k_PV_type hC ok (fun S1 a => k_Mo_type hR ok (fun S3 b => ⟨rfl, nxt a b (ok_type ok _ _)⟩)))
    have c167 : lx_w l D aC ad ad2 b L xs K N 167 i [] S S2 := by
      have hd : lx_d1 167 20 24 301 := by refine ⟨?_, ⟨?_, ?_, ?_, ?_, ?_⟩, ?_, ?_, ⟨?_, ?_, ?_, ?_, ?_⟩, ?_, ?_⟩ <;> decide +kernel
      exact lx_c1 hd (by decide) lm_PV_file lm_Mo_file hlt hL hKN (k_PV_file hC ok (fun S1 a => k_Mo_file hR ok (fun S3 b => ⟨rfl, nxt a b (ok_file ok _)⟩)))
    have c190 : lx_w l D aC ad ad2 b L xs K N 190 i [] S S2 := by
      have hd : lx_d3 190 25 29 258 := by refine ⟨?_, ⟨?_, ?_, ?_, ?_, ?_⟩, ⟨?_, ?_, ?_, ?_, ?_⟩, ⟨?_, ?_, ?_, ?_, ?_⟩, ?_, ?_, ⟨?_, ?_, ?_, ?_, ?_⟩, ⟨?_, ?_, ?_, ?_, ?_⟩, ⟨?_, ?_, ?_, ?_, ?_⟩, ?_, ?_⟩ <;> decide +kernel
      exact lx_c3 hd (by decide) lm_PV_damage lm_Mo_damage hlt hL hKN (k_PV_damage hC ok (fun S1 a => k_Mo_damage hR ok (fun S3 b => ⟨rfl, nxt a b (ok_damage ok _ _ _)⟩)))
    have c233 : lx_w l D aC ad ad2 b L xs K N 233 i [] S S2 := by
      have hd : lx_d2 233 30 34 225 := by refine ⟨?_, ⟨?_, ?_, ?_, ?_, ?_⟩, ⟨?_, ?_, ?_, ?_, ?_⟩, ?_, ?_, ⟨?_, ?_, ?_, ?_, ?_⟩, ⟨?_, ?_, ?_, ?_, ?_⟩, ?_, ?_⟩ <;> decide +kernel
      exact lx_c2 hd (by decide) lm_PV_shorten lm_Mo_shorten hlt hL hKN (k_PV_shorten hC ok (fun S1 a => k_Mo_shorten hR ok (fun S3 b => ⟨rfl, nxt a b (ok_shorten ok _ _)⟩)))
    have c266 : lx_w l D aC ad ad2 b L xs K N 266 i [] S S2 := by
      have hd : lx_d1 266 35 38 202 := by refine ⟨?_, ⟨?_, ?_, ?_, ?_, ?_⟩, ?_, ?_, ⟨?_, ?_, ?_, ?_, ?_⟩, ?_, ?_⟩ <;> decide +kernel
      exact lx_c1 hd (by decide) lm_PV_protect lm_Mo_protect hlt hL hKN (k_PV_protect hC ok (fun S1 a => k_Mo_protect hR ok (fun S3 b => ⟨rfl, nxt a b (ok_protect ok _)⟩)))
    have c289 : lx_w l D aC ad ad2 b L xs K N 289 i [] S S2 := by
      have hd : lx_d0 289 39 43 189 := by refine ⟨?_, ?_, ?_, ?_, ?_⟩ <;> decide +kernel
      exact lx_c0 hd (by decide) lm_PV_volume lm_Mo_volume hKN (k_PV_volume hC (k_Mo_volume hR ⟨rfl, nxt hC hR ok⟩))
    have c302 : lx_w l D aC ad ad2 b L xs K N 302 i [] S S2 := by
      have hd : lx_d1 302 44 47 166 := by refine ⟨?_, ⟨?_, ?_, ?_, ?_, ?_⟩, ?_, ?_, ⟨?_, ?_, ?_, ?_, ?_⟩, ?_, ?_⟩ <;> decide +kernel
      exact lx_c1 hd (by decide) lm_PV_byteAt lm_Mo_byteAt hlt hL hKN (k_PV_byteAt hC ok (k_Mo_byteAt hR ok ⟨rfl, nxt hC hR ok⟩))
    have c325 : lx_w l D aC ad ad2 b L xs K N 325 i [] S S2 := by
      have hd : lx_d2 325 48 51 133 := by refine ⟨?_, ⟨?_, ?_, ?_, ?_, ?_⟩, ⟨?_, ?_, ?_, ?_, ?_⟩, ?_, ?_, ⟨?_, ?_, ?_, ?_, ?_⟩, ⟨?_, ?_, ?_, ?_, ?_⟩, ?_, ?_⟩ <;> decide +kernel
      exact lx_c2 hd (by decide) lm_PV_alter lm_Mo_alter hlt hL hKN (k_PV_alter hC ok (fun S1 a => k_Mo_alter hR ok (fun S3 b => ⟨rfl, nxt a b (ok_alter ok _ _)⟩)))
    have c358 : lx_w l D aC ad ad2 b L xs K N 358 i [] S S2 := by
      have hd : lx_d2 358 52 55 100 := by refine ⟨?_, ⟨?_, ?_, ?_, ?_, ?_⟩, ⟨?_, ?_, ?_, ?_, ?_⟩, ?_, ?_, ⟨?_, ?_, ?_, ?_, ?_⟩, ⟨?_, ?_, ?_, ?_, ?_⟩, ?_, ?_⟩ <;> decide +kernel
      exact lx_c2 hd (by decide) lm_PV_cut lm_Mo_cut hlt hL hKN (k_PV_cut hC ok (fun S1 a => k_Mo_cut hR ok (fun S3 b => ⟨rfl, nxt a b (ok_cut ok _ _)⟩)))
    have c391 : lx_w l D aC ad ad2 b L xs K N 391 i [] S S2 := by
      have hd : lx_d0 391 56 59 87 := by refine ⟨?_, ?_, ?_, ?_, ?_⟩ <;> decide +kernel
      exact lx_c0 hd (by decide) lm_PV_scan lm_Mo_scan hKN (k_PV_scan hC ok (fun S1 a => k_Mo_scan hR ok (fun S3 b => ⟨rfl, nxt a b ok⟩)))
    have c404 : lx_w l D aC ad ad2 b L xs K N 404 i [] S S2 := by
      have hd : lx_d0 404 60 63 74 := by refine ⟨?_, ?_, ?_, ?_, ?_⟩ <;> decide +kernel
      exact lx_c0 hd (by decide) lm_PV_verify lm_Mo_verify hKN (k_PV_verify hC ok (fun S1 a => k_Mo_verify hR ok (fun S3 b => ⟨rfl, nxt a b ok⟩)))
    have c417 : lx_w l D aC ad ad2 b L xs K N 417 i [] S S2 := by
      have hd : lx_d0 417 64 67 61 := by refine ⟨?_, ?_, ?_, ?_, ?_⟩ <;> decide +kernel
      exact lx_c0 hd (by decide) lm_PV_repair lm_Mo_repair hKN (k_PV_repair hC ok (fun S1 a => k_Mo_repair hR ok (fun S3 b => ⟨rfl, nxt a b (ok_repair ok)⟩)))
    have c430 : lx_w l D aC ad ad2 b L xs K N 430 i [] S S2 := by
      have hd : lx_d1 430 68 71 38 := by refine ⟨?_, ⟨?_, ?_, ?_, ?_, ?_⟩, ?_, ?_, ⟨?_, ?_, ?_, ?_, ?_⟩, ?_, ?_⟩ <;> decide +kernel
      exact lx_c1 hd (by decide) lm_PV_length lm_Mo_length hlt hL hKN (k_PV_length hC (k_Mo_length hR ⟨rfl, nxt hC hR ok⟩))
    have c453 : lx_w l D aC ad ad2 b L xs K N 453 i [] S S2 := by
      have hd : lx_d2 453 72 76 5 := by refine ⟨?_, ⟨?_, ?_, ?_, ?_, ?_⟩, ⟨?_, ?_, ?_, ?_, ?_⟩, ?_, ?_, ⟨?_, ?_, ?_, ?_, ?_⟩, ⟨?_, ?_, ?_, ?_, ?_⟩, ?_, ?_⟩ <;> decide +kernel
      exact lx_c2 hd (by decide) lm_PV_at lm_Mo_at hlt hL hKN (k_PV_at hC ok (k_Mo_at hR ok ⟨rfl, nxt hC hR ok⟩))
    have c486 : lx_w l D aC ad ad2 b L xs K N 486 i [] S S2 := nxt hC hR ok
    intro j hj tg htg
    match j, hj, htg with
    | 0, _, htg => cases htg; exact c104
    | 1, _, htg => cases htg; exact c167
    | 2, _, htg => cases htg; exact c190
    | 3, _, htg => cases htg; exact c233
    | 4, _, htg => cases htg; exact c266
    | 5, _, htg => cases htg; exact c289
    | 6, _, htg => cases htg; exact c302
    | 7, _, htg => cases htg; exact c325
    | 8, _, htg => cases htg; exact c358
    | 9, _, htg => cases htg; exact c391
    | 10, _, htg => cases htg; exact c404
    | 11, _, htg => cases htg; exact c417
    | 12, _, htg => cases htg; exact c430
    | 13, _, htg => cases htg; exact c453
    | 14, _, htg => cases htg; exact c486
    | 15, _, htg => cases htg; exact c486
end
