theorem st_cT {ad : Nat → Nat} {s : State} {t0 t1 t2 : Nat} (had : ∀ t, ad (1000 + t) = [t0, t1, t2].getD t 0) (h0 : va_T .int t0 px_t0.length (fun j => .int (px_t0.getD j 0)) (fun q => s.heap.size ≤ q) s s.heap ∧ va_Z "ParityVolume$Sum" "K" "[I" (.ref t0) (fun q => s.heap.size ≤ q) s s.heap) (h1 : va_T .int t1 px_t1.length (fun j => .int (px_t1.getD j 0)) (fun q => s.heap.size ≤ q) s s.heap ∧ va_Z "ParityVolume$Sum" "TURNS" "[I" (.ref t1) (fun q => s.heap.size ≤ q) s s.heap) (h2 : va_T .int t2 px_t2.length (fun j => .int (px_t2.getD j 0)) (fun q => s.heap.size ≤ q) s s.heap ∧ va_Z "ParityVolume$Field" "BASE_LOGS" "[I" (.ref t2) (fun q => s.heap.size ≤ q) s s.heap) : px_T ad (fun q => s.heap.size ≤ q) s s.heap := by
  intro t e he
  rw [had t]
  match t, he with
  | 0, he => cases he; exact h0
  | 1, he => cases he; exact h1
  | 2, he => cases he; exact h2
  | n + 3, he => cases he
set_option maxHeartbeats 4000000 in
set_option maxRecDepth 100000 in
/-- YOUR PART: from the entry, for every script of at most 2048 ints, the law comes to its end with true -/
theorem whole_start {p : Program} {e : Env} {s : State} {m : MethodId} {below : List Frame} {meth : Method} {c : Code} (l : Launch) {b L : Nat} {xs : Nat → Int32} (hL : L ≤ 2048) (C0 : lw_At p s m meth c b L xs) : W p l e room_1 s m #[Value.ref b] below meth c s.heap [] 0 0 (lw_Z below #[Value.ref b] s) (entryFrame m ([Value.ref b] : List Value).toArray 4) := by
  obtain ⟨hx, hb, hr, hml, hown, hts0, hX, hbl, hlk, hg⟩ := C0
  have hts := px_hts hts0
  have hov1 : (Cond.arrayOver (.object "ParityVolume$Row")).before #[Value.ref b] s = true := hts0 _ (List.mem_append_right _ (by decide +kernel))
  have hov2 : (Cond.arrayOver (.array .int)).before #[Value.ref b] s = true := hts0 _ (List.mem_append_right _ (by decide +kernel))
  obtain ⟨D, aC, hK⟩ := st_K hts hov1 hov2
  have hO : cx_O s := ⟨va_AO.of hov1, cx_AA.of hov2⟩
  have hN : px_N s := fun q hq => va_Nw.of rfl (hts0 _ (px_NWt q hq))
  obtain ⟨t0, h0⟩ := st_t st_c0 hts0 hg
  obtain ⟨t1, h1⟩ := st_t st_c1 hts0 hg
  obtain ⟨t2, h2⟩ := st_t st_c2 hts0 hg
  have hA : ∀ q, s.heap.size ≤ q → (fun q => s.heap.size ≤ q) q := fun _ h => h
  rw [lg_entry_eq]
  have hl := px_L_entry cx_id [Value.ref b] (n := 4) (L := [.ref b, .null, .null, .null]) (Nat.le_of_ble_eq_true rfl) (px_en 3 rfl)
  rw [cx_vs] at hl
  generalize ((lg_sl [Value.ref b] ++ List.replicate (4 - (lg_sl [Value.ref b]).length) Slot.unset).toArray) = ls at hl ⊢
  have hP : va_P D px_cl [] s.heap := fun k q h => by cases h
  have hD : va_D (fun q => s.heap.size ≤ q) [] := ⟨fun i j p q h => (by cases h), fun k q h => (by cases h)⟩
  have hS : va_S (fun q => s.heap.size ≤ q) s.heap s.heap [] := va_S.rf
  refine va_new (ci := 0) (fs := [.null, .null, .null, .null, .null, .null, .null]) (C := "ParityVolume") (T := pT_PV) (N := 7) hx hb hts pW_PV pY_PV pY_PV_ok hown (hts _ (px_m1 15 (by decide +kernel))) (hts _ (px_m1 16 (by decide +kernel))) (hts _ (px_m1 1 (by decide +kernel))) hK hP hD hS hA rfl (fun j hj => by match j, hj with | 0, _ => rfl | 1, _ => rfl | 2, _ => rfl | 3, _ => rfl | 4, _ => rfl | 5, _ => rfl | 6, _ => rfl | n + 7, hj => exact absurd hj (by omega)) (Nat.le_of_ble_eq_true rfl) (Nat.le_of_ble_eq_true rfl) (show decode code 0 = .ok (.new 7, 3) by decide +kernel) (fun q1 H1 hP hD hS => ?_)
  have hP : va_P D px_cl [(q1, .inr (0, [.null, .null, .null, .null, .null, .null, .null]))] H1 := hP
  have hD : va_D (fun q => s.heap.size ≤ q) [(q1, .inr (0, [.null, .null, .null, .null, .null, .null, .null]))] := hD
  refine lv_dup hx hb (show decode code 3 = .ok (.dup, 1) by decide +kernel) rfl ?_
  obtain ⟨w1, w2, w3, w4, w5, w6, w7, w8⟩ : cx_c "ParityVolumeLaw" 9 ⟨"ParityVolume", "<init>", "()V"⟩ prog_1_method_1_code 3 0 := ⟨(px_m1 19 rfl), (px_m1 1 (by decide +kernel)), (px_m1 17 (by decide +kernel)), (px_m1 18 (by decide +kernel)), rfl, by decide, by decide, by decide +kernel⟩
  have hFc := va_free (wc := [(q1, .inr (0, [.null, .null, .null, .null, .null, .null, .null]))]) hD hS hA [0] rfl
  refine va_callv (va_runI (As := []) (rest := [.ref q1]) ⟨hx, hb, hml, hown, hts⟩ (k_PV_init (G := (l, D, aC)) (h := q1) H1.size) (cwI 0 hts (cx_good w1) rfl rfl rfl (hts _ w2) (hts _ w3) (hts _ w4) w5 ⟨w6, w7, w8⟩ ⟨Nat.le_of_ble_eq_true rfl, Nat.le_of_ble_eq_true rfl⟩) (cx_pre (G := (l, D, aC)) (as := [.ref q1]) hP (hD.weaken (fun _ _ _ _ => trivial)) hK hO) rfl rfl hl.1 rfl (lv_room (Nat.le_of_ble_eq_true rfl)) (show decode code 4 = .ok (.invokespecial 9, 3) by decide +kernel) ⟨Nat.le_of_ble_eq_true rfl, Nat.le_of_ble_eq_true rfl⟩) hS (fun q _ h => hFc q h) hFc (fun w t H2 locs2 ht hvm hw hB hz1 hk1 hS => ?_)
  obtain ⟨a1, a2, a3, a4, a5, a6, a7, a8, a9, a10, a11, a12, a13, a14, a15, a16, a17, a18, a19, a20, a21, a22, a23, a24, a25, a26, a27, a28, a29, a30, a31, a32, a33, rfl⟩ := hw
  obtain ⟨hP1, hD1⟩ := hB
  rw [ht] at hP1
  have hD := hD1.weaken (B := fun q => s.heap.size ≤ q) (fun _ q _ h => hFc q.1 h)
  have hP : va_P D px_cl (st_LC aC q1 a1 a2 a3 a4 a5 a6 a7 a8 a9 a10 a11 a12 a13 a14 a15 a16 a17 a18 a19 a20 a21 a22 a23 a24 a25 a26 a27 a28 a29 a30 a31 a32 a33 (va_up (va_up (va_up (fun _ => none) (Int32.toNatClampNeg 0) (some a4)) (Int32.toNatClampNeg 1) (some a6)) (Int32.toNatClampNeg 2) (some a8)) (fun i => if i < 12 then some (a31 + 1 + i) else none)) H2 := hP1
  have hD : va_D (fun q => s.heap.size ≤ q) (st_LC aC q1 a1 a2 a3 a4 a5 a6 a7 a8 a9 a10 a11 a12 a13 a14 a15 a16 a17 a18 a19 a20 a21 a22 a23 a24 a25 a26 a27 a28 a29 a30 a31 a32 a33 (va_up (va_up (va_up (fun _ => none) (Int32.toNatClampNeg 0) (some a4)) (Int32.toNatClampNeg 1) (some a6)) (Int32.toNatClampNeg 2) (some a8)) (fun i => if i < 12 then some (a31 + 1 + i) else none)) := hD
  have e3 : ∀ j, (va_up (va_up (va_up (fun _ => none) (Int32.toNatClampNeg 0) (some a4)) (Int32.toNatClampNeg 1) (some a6)) (Int32.toNatClampNeg 2) (some a8)) j = [some a4, some a6, some a8].getD j none := fun j => by
    match j with
    | 0 => rfl
    | 1 => rfl
    | 2 => rfl
    | n + 3 => rfl
  generalize hg3 : (va_up (va_up (va_up (fun _ => none) (Int32.toNatClampNeg 0) (some a4)) (Int32.toNatClampNeg 1) (some a6)) (Int32.toNatClampNeg 2) (some a8)) = g3 at hP hD e3
  have e31 : ∀ j, (fun i => if i < 12 then some (a31 + 1 + i) else none) j = if j < 12 then some (a31 + 1 + j) else none := fun _ => rfl
  generalize hg31 : (fun i => if i < 12 then some (a31 + 1 + i) else none) = g31 at hP hD e31
  refine lv_astore_n (k := 1) hx hb (show decode code 7 = .ok (.astore_n 1, 1) by decide +kernel) rfl (px_L_has hl) (by decide) rfl (fun ls1 h1l => ?_)
  have hl := px_L_set (ad := cx_id) (v := .ref q1) (L := [.ref b, .null, .null, .null]) (i := 1) rfl h1l
  refine va_new (ci := 9) (fs := [.null, .null, .int 0, .null, .null, .null, .int 0, .null, .int 0, .null, .null, .null, .int 0, .int 0, .null, .null, .null, .null, .null, .int 0, .null, .null, .null, .null]) (C := "ParityVolumeModel") (T := pT_Mo) (N := 24) hx hb hts pW_Mo pY_Mo pY_Mo_ok hown (hts _ (px_m3 208 (by decide +kernel))) (hts _ (px_m3 209 (by decide +kernel))) (hts _ (px_m1 10 (by decide +kernel))) hK hP hD hS hA rfl (fun j hj => by match j, hj with | 0, _ => rfl | 1, _ => rfl | 2, _ => rfl | 3, _ => rfl | 4, _ => rfl | 5, _ => rfl | 6, _ => rfl | 7, _ => rfl | 8, _ => rfl | 9, _ => rfl | 10, _ => rfl | 11, _ => rfl | 12, _ => rfl | 13, _ => rfl | 14, _ => rfl | 15, _ => rfl | 16, _ => rfl | 17, _ => rfl | 18, _ => rfl | 19, _ => rfl | 20, _ => rfl | 21, _ => rfl | 22, _ => rfl | 23, _ => rfl | n + 24, hj => exact absurd hj (by omega)) (Nat.le_of_ble_eq_true rfl) (Nat.le_of_ble_eq_true rfl) (show decode code 8 = .ok (.new 10, 3) by decide +kernel) (fun q2 H3 hP hD hS => ?_)
  refine lv_dup hx hb (show decode code 11 = .ok (.dup, 1) by decide +kernel) rfl ?_
  obtain ⟨w1, w2, w3, w4, w5, w6, w7, w8⟩ : cx_c "ParityVolumeLaw" 12 ⟨"ParityVolumeModel", "<init>", "()V"⟩ prog_13_method_1_code 1 0 := ⟨(px_m3 212 rfl), (px_m1 10 (by decide +kernel)), (px_m3 210 (by decide +kernel)), (px_m3 211 (by decide +kernel)), rfl, by decide, by decide, by decide +kernel⟩
  have hC46 : [46].map (fun i => (st_LC aC q1 a1 a2 a3 a4 a5 a6 a7 a8 a9 a10 a11 a12 a13 a14 a15 a16 a17 a18 a19 a20 a21 a22 a23 a24 a25 a26 a27 a28 a29 a30 a31 a32 a33 g3 g31 ++ [((q2, .inr (9, [.null, .null, .int 0, .null, .null, .null, .int 0, .null, .int 0, .null, .null, .null, .int 0, .int 0, .null, .null, .null, .null, .null, .int 0, .null, .null, .null, .null])) : Nat × va_E)])[i]?) = [((q2, .inr (9, [.null, .null, .int 0, .null, .null, .null, .int 0, .null, .int 0, .null, .null, .null, .int 0, .int 0, .null, .null, .null, .null, .null, .int 0, .null, .null, .null, .null])) : Nat × va_E)].map some := rfl
  have hR46 : (List.range 46).map (fun i => (st_LC aC q1 a1 a2 a3 a4 a5 a6 a7 a8 a9 a10 a11 a12 a13 a14 a15 a16 a17 a18 a19 a20 a21 a22 a23 a24 a25 a26 a27 a28 a29 a30 a31 a32 a33 g3 g31 ++ [((q2, .inr (9, [.null, .null, .int 0, .null, .null, .null, .int 0, .null, .int 0, .null, .null, .null, .int 0, .int 0, .null, .null, .null, .null, .null, .int 0, .null, .null, .null, .null])) : Nat × va_E)])[i]?) = (st_LC aC q1 a1 a2 a3 a4 a5 a6 a7 a8 a9 a10 a11 a12 a13 a14 a15 a16 a17 a18 a19 a20 a21 a22 a23 a24 a25 a26 a27 a28 a29 a30 a31 a32 a33 g3 g31).map some := rfl
  have hFc := va_free hD hS hA [46] hC46
  refine va_callv (va_runI (As := []) (rest := [.ref q2]) ⟨hx, hb, hml, hown, hts⟩ (k_Mo_init (G := (l, D, aC)) (h := q2) H3.size) (cwI 0 hts (cx_good w1) rfl rfl rfl (hts _ w2) (hts _ w3) (hts _ w4) w5 ⟨w6, w7, w8⟩ ⟨Nat.le_of_ble_eq_true rfl, Nat.le_of_ble_eq_true rfl⟩) (cx_pre (G := (l, D, aC)) (as := [.ref q2]) (hP.sub [46] (cx_fm hC46)) ((hD.sub [46] rfl hC46).weaken (fun _ _ _ _ => trivial)) hK hO) rfl rfl hl.1 rfl (lv_room (Nat.le_of_ble_eq_true rfl)) (show decode code 12 = .ok (.invokespecial 12, 3) by decide +kernel) ⟨Nat.le_of_ble_eq_true rfl, Nat.le_of_ble_eq_true rfl⟩) hS (fun q _ h => hFc q h) hFc (fun w t H4 locs4 ht hvm hw hB hz1 hk1 hS => ?_)
  obtain ⟨c1, c2, c3, c4, c5, c6, c7, c8, c9, c10, c11, c12, c13, c14, c15, c16, c17, c18, f1, f2, hf1, hf2, rfl⟩ := hw
  obtain ⟨hP1, hD1⟩ := hB
  rw [ht] at hP1
  obtain ⟨hP, hD⟩ := va_join (wr := st_LC aC q1 a1 a2 a3 a4 a5 a6 a7 a8 a9 a10 a11 a12 a13 a14 a15 a16 a17 a18 a19 a20 a21 a22 a23 a24 a25 a26 a27 a28 a29 a30 a31 a32 a33 g3 g31) (w1 := st_LR aC q2 c1 c2 c3 c4 c5 c6 c7 c8 c9 c10 c11 c12 c13 c14 c15 c16 c17 c18 f1 f2) hP hD [46] (List.range 46) hC46 hR46 (by decide) (by decide) hk1 hFc hP1 hD1
  obtain ⟨ad, ad2, r1, r2, r3, r4, r5, r6, r7, r8, r9, r10, r11⟩ := st_worlds e3 e31 hP hD t0 t1 t2
  subst r1
  subst r2
  refine lv_astore_n (k := 2) hx hb (show decode code 15 = .ok (.astore_n 2, 1) by decide +kernel) rfl (px_L_has hl) (by decide) rfl (fun ls2 h2l => ?_)
  have hl := px_L_set (ad := cx_id) (v := .ref (ad2 0)) (L := [.ref b, .ref (ad 0), .null, .null]) (i := 2) rfl h2l
  refine lv_iconst (n := 0) (v := 0) hx hb (show decode code 16 = .ok (.iconst 0, 1) by decide +kernel) (by decide) ?_
  refine lv_istore_n (k := 3) hx hb (show decode code 17 = .ok (.istore_n 3, 1) by decide +kernel) rfl (px_L_has hl) (by decide) rfl (fun ls3 h3l => ?_)
  have hl := px_L_set (ad := cx_id) (v := .int 0) (L := [.ref b, .ref (ad 0), .ref (ad2 0), .null]) (i := 3) rfl h3l
  exact lx_loop hL ⟨Nat.le_of_ble_eq_true rfl, Nat.le_of_ble_eq_true rfl⟩ L 0 [] (fun _ => []) [] st_S (st_R f1 f2) (by omega) (by omega) st_svC (st_svR hf1 hf2) st_ok p e s m below meth c ⟨hx, hb, hr, hml, hown, hts, hX, hbl, hlk, hK, hN, ⟨r7, r9, st_cT r3 h0 h1 h2⟩, ⟨r8, r10, st_cT r4 h0 h1 h2⟩, r11⟩ H4 locs4 ls3 hl r5 r6 hS
