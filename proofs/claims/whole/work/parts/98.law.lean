/-! The law: two worlds side by side -/
def lx_E (s : State) (ad : Nat → Nat) (Z : List px_C) : Prop := px_J ad Z ∧ (∀ i, i < Z.length → s.heap.size ≤ ad i) ∧ px_T ad (fun q => s.heap.size ≤ q) s s.heap
def lx_m (x M n : Nat) : Prop := px_mf M n ∧ px_ms M = false ∧ Cond.methodLink "ParityVolumeLaw" x (px_my M) ∈ px_WA ∧ Cond.instanceMethod (px_my M) ∈ px_WA ∧ Cond.selects (px_my M).cls (px_my M) (px_my M) ∈ px_WA
theorem lx_run {p : Program} {e : Env} {s : State} {m : MethodId} {below : List Frame} {meth : Method} {c : Code} {H : Heap} {locs : List Loc} {l : Launch} {D : va_G} {aC : Nat → ClassId} {ad ad2 : Nat → Nat} {Z Z2 : List px_C} {S S2 : px_S} {b K N : Nat} {Qf : State → Prop} {ls : Array Slot} {pc x M n : Nat} {as rest : List Value} {Q' : Int32 → px_S → Prop}
    (hx : p.tables.exec = Jvm.exec) (hb : c.code = code) (hml : c.maxLocals = 4) (hown : s.vm.findClass "ParityVolumeLaw" = some m.cls) (hts : ∀ w ∈ px_WA, w.before #[Value.ref b] s = true) (hK : va_K D px_cl (px_ty aC) s) (hN : px_N s) (hE : lx_E s ad Z) (hdis : ∀ i j, i < Z.length → j < Z2.length → ad i ≠ ad2 j)
    (hP : va_P D px_cl (px_W ad aC Z S) H) (hP2 : va_P D px_cl (px_W ad2 aC Z2 S2) H) (hS : va_S (fun q => s.heap.size ≤ q) s.heap H locs) (hk : px_I (l, D, aC, ad) Z 7 M (.ref 0 :: as) S Q') (hm : lx_m x M n) (hd : decode code pc = .ok (.invokevirtual x, 3)) (hn : as.length = n) (hav : as.map (px_v ad) = as) (hls : ls.size = 4) (hr : (rest.map fun v => v.category).sum ≤ 8) (hKN : K ≤ 600000 ∧ N ≤ 7302250)
    (kk : ∀ (r : Int32) (S1 : px_S) (H1 : Heap) (locs1 : List Loc), Q' r S1 → va_P D px_cl (px_W ad aC Z S1) H1 → va_P D px_cl (px_W ad2 aC Z2 S2) H1 → va_S (fun q => s.heap.size ≤ q) s.heap H1 locs1 → W p l e room_1 s m #[Value.ref b] below meth c H1 locs1 K N Qf (F0 m (pc + 3) ls (.int r :: rest))) :
    W p l e room_1 s m #[Value.ref b] below meth c H locs K N Qf (F0 m pc ls (as.reverse ++ .ref (ad 0) :: rest)) := by
  obtain ⟨hmf, hms, g1, g2, g3⟩ := hm
  obtain ⟨hcode, hini, ⟨hy1, hy2, hy3⟩, hmx⟩ := hmf
  obtain ⟨hrc, hM⟩ := hk
  obtain ⟨hJ, hge, hT⟩ := hE
  have hgood : GoodIn px_WA (px_ws M) := by
    intro w hw
    rcases List.mem_cons.mp hw with rfl | hw
    · exact px_gd _ hcode
    · exact px_gd w hw
  have hAs : (Value.ref 0 :: as).map (px_v ad) = .ref (ad 0) :: as := by rw [List.map_cons, hav]; rfl
  have hsub : ∀ q, px_A ad Z H.size q → s.heap.size ≤ q := fun q h => by
    rcases h with ⟨k, hk, rfl⟩ | h
    · exact hge k hk
    · exact Nat.le_trans hS.1 h
  have hpre : PreS s H (va_Pc ((Value.ref 0 :: as).map (px_v ad)) (px_B (l, D, aC, ad) Z S H.size)) (.ref (ad 0) :: as) := by
    rw [hAs]
    refine ⟨fun a U g mk z => ?_, fun U hU hW => ?_⟩
    · obtain ⟨z0, z1, z2, z3, z4, z5, z6⟩ := z
      exact ⟨z0, z1, z2, va_K.moved (u := U) (U := U.calling g mk a) (Vm.Alike.refl U.vm) z3, z4, px_T.moved (u := U) (U := U.calling g mk a) (Vm.Alike.refl U.vm) z5, px_N.same (u := U) (U := U.calling g mk a) rfl z6⟩
    · refine ⟨rfl, by rw [hU], by rw [hU]; exact hP, va_K.moved hW.alike hK, hJ, ?_, px_N.warm hW hN⟩
      rw [hU]
      exact ((hT.kept (fun q h1 h2 => hS.2.1 q h1 h2)).narrow hsub).moved hW.alike
  rcases hrc with h | ⟨k, as', ci, fs, qq, has, hZ, hcl, hqc⟩
  · rw [hms] at h; cases h
  · injection has with h0 h1
    injection h0 with h0
    subst h0
    have hrv : ∃ cell : Cell, H[ad 0]? = some cell ∧ cell.vm.isStatics = false ∧ s.vm.findClass (px_my M).cls = some cell.cls := by
      rw [← hqc]
      exact va_recv hK hP hcl (px_get hZ)
    have run := va_runV (l := l) (e := e) (R := room_1) (below := below) (meth := meth) (locs := locs) (cells := K) (slots := N) (rest := rest) (C := (px_my M).cls) (b := ad 0) (As := as) (n := n) (g := F0 m pc ls (as.reverse ++ .ref (ad 0) :: rest)) ⟨hx, hb, hml, hown, hts⟩ (hM H.size) ⟨callB_of n hts hgood rfl rfl rfl (hts _ hini) (hts _ g1) ⟨hy1, hy2, hy3⟩ ⟨by show 7 + 1 ≤ 9; decide, by show 8 + (px_ml M + 11) + 38 * 7 ≤ 334; omega⟩, hts _ g2, hts _ g3⟩ ⟨hpre.1, hrv, hpre.2⟩ rfl hn hls rfl (lv_room hr) hd ⟨hKN.1, hKN.2⟩
    intro T hTT X
    obtain ⟨v, st₀, t, T', Lc, h0, X', hL, e1, e2, ⟨⟨r, S', hv, hq, hp⟩, hz, hkeep⟩, st⟩ := run T hTT X
    obtain ⟨r0, rfl, hq⟩ := hq
    have hv' : v = some (.int r0) := by injection hv
    subst hv'
    rw [h0] at hz hkeep
    have hP2' : va_P D px_cl (px_W ad2 aC Z2 S2) T'.heap := hP2.kept (fun k9 y hy => by
      rw [e1]
      have hlt := (hP2 k9 y hy).lt
      obtain ⟨hk9, hy1⟩ := px_at hy
      refine hkeep y.1 hlt (fun z => ?_)
      rcases z with ⟨i, hi, hz⟩ | hz
      · exact hdis i k9 hi hk9 (hz.symm.trans hy1)
      · omega)
    obtain ⟨t2, a1, b1⟩ := kk r0 S' T'.heap (locs ++ Lc) hq (by rw [e1]; exact hp) hP2'
      ⟨Nat.le_trans hS.1 (by rw [e1]; exact hz), fun q h1 h2 => by rw [e1, hkeep q (Nat.lt_of_lt_of_le h1 hS.1) (fun z => h2 (hsub q z))]; exact hS.2.1 q h1 h2, fun q hq => by
        rcases List.mem_append.mp hq with h | h
        · exact hS.2.2 q h
        · exact hsub _ (hL q h)⟩ T' rfl X'
    exact ⟨t2, st t2 a1, b1⟩
def lx_X (D : va_G) (aC : Nat → ClassId) (ad ad2 : Nat → Nat) (b L : Nat) (xs : Nat → Int32) (p : Program) (s : State) (m : MethodId) (meth : Method) (c : Code) : Prop :=
  p.tables.exec = Jvm.exec ∧ c.code = code ∧ meth.sig.returnType = ret ∧ c.maxLocals = 4 ∧ s.vm.findClass "ParityVolumeLaw" = some m.cls ∧ (∀ w ∈ px_WA, w.before #[Value.ref b] s = true) ∧ va_X b L xs s s.heap ∧ b < s.heap.size ∧ meth.locks = false ∧ va_K D px_cl (px_ty aC) s ∧ px_N s ∧ lx_E s ad px_Zc ∧ lx_E s ad2 px_Zr ∧ ∀ i j, i < px_Zc.length → j < px_Zr.length → ad i ≠ ad2 j
def lx_w (l : Launch) (D : va_G) (aC : Nat → ClassId) (ad ad2 : Nat → Nat) (b L : Nat) (xs : Nat → Int32) (K N pc i : Nat) (st : List Value) (S S2 : px_S) : Prop :=
  ∀ (p : Program) (e : Env) (s : State) (m : MethodId) (below : List Frame) (meth : Method) (c : Code), lx_X D aC ad ad2 b L xs p s m meth c →
    ∀ (H : Heap) (locs : List Loc) (ls : Array Slot), px_L cx_id ls 4 [.ref b, .ref (ad 0), .ref (ad2 0), .int (nI i)] → va_P D px_cl (px_W ad aC px_Zc S) H → va_P D px_cl (px_W ad2 aC px_Zr S2) H → va_S (fun q => s.heap.size ≤ q) s.heap H locs →
      W p l e room_1 s m #[Value.ref b] below meth c H locs K N (lw_Z below #[Value.ref b] s) (F0 m pc ls st)
/-- the places where an argument is read -/
def lx_da (pc : Nat) (k : Int) : Prop := decode code pc = .ok (.aload_n 0, 1) ∧ decode code (pc + 1) = .ok (.iload_n 3, 1) ∧ decode code (pc + 2) = .ok (.iconst k, 1) ∧ decode code (pc + 3) = .ok (.iadd, 1) ∧ decode code (pc + 4) = .ok (.iaload, 1)
def lx_v (a b : Int32) : Int64 := (a.toInt64 <<< ((32 : Int32).toInt64 &&& 63)) ||| (b.toInt64 &&& 4294967295)
section
variable {l : Launch} {D : va_G} {aC : Nat → ClassId} {ad ad2 : Nat → Nat} {b L : Nat} {xs : Nat → Int32} {K N pc q i : Nat} {st : List Value} {S S2 : px_S}
theorem lx_arg (k : Nat) {kI : Int} (hd : lx_da pc kI) (hq : q = pc + 5) (hk : Int32.ofInt kI = nI k) (hi : i + k < L) (hL : L ≤ 2048) (kk : lx_w l D aC ad ad2 b L xs K N q i (.int (xs (i + k)) :: st) S S2) : lx_w l D aC ad ad2 b L xs K N pc i st S S2 := by
  subst hq
  obtain ⟨h0, h1, h2, h3, h4⟩ := hd
  intro p e s m below meth c X H locs ls hl hP hP2 hS
  refine lv_aload_n X.1 X.2.1 h0 rfl (hl.2.2 0 (.ref b) rfl (fun z => by cases z)) ?_
  refine lv_iload_n X.1 X.2.1 h1 rfl (hl.2.2 3 (.int (nI i)) rfl (fun z => by cases z)) ?_
  refine lv_iconst X.1 X.2.1 h2 hk ?_
  refine lv_iadd X.1 X.2.1 h3 ?_
  rw [nI_add]
  have hbA : ¬ s.heap.size ≤ b := Nat.not_le.mpr X.2.2.2.2.2.2.2.1
  refine va_sld (A := fun q => s.heap.size ≤ q) X.1 X.2.1 X.2.2.2.2.2.2.1 X.2.2.2.2.2.2.2.1 hbA hS (vp_in_nI hi (by omega)) h4 ?_
  rw [nI_clamp (by omega)]
  exact kk p e s m below meth c X H locs ls hl hP hP2 hS
theorem lx_al1 (hd : decode code pc = .ok (.aload_n 1, 1)) (hq : q = pc + 1) (kk : lx_w l D aC ad ad2 b L xs K N q i (.ref (ad 0) :: st) S S2) : lx_w l D aC ad ad2 b L xs K N pc i st S S2 := by
  subst hq
  intro p e s m below meth c X H locs ls hl hP hP2 hS
  exact lv_aload_n X.1 X.2.1 hd rfl (hl.2.2 1 (.ref (ad 0)) rfl (fun z => by cases z)) (kk p e s m below meth c X H locs ls hl hP hP2 hS)
theorem lx_al2 (hd : decode code pc = .ok (.aload_n 2, 1)) (hq : q = pc + 1) (kk : lx_w l D aC ad ad2 b L xs K N q i (.ref (ad2 0) :: st) S S2) : lx_w l D aC ad ad2 b L xs K N pc i st S S2 := by
  subst hq
  intro p e s m below meth c X H locs ls hl hP hP2 hS
  exact lv_aload_n X.1 X.2.1 hd rfl (hl.2.2 2 (.ref (ad2 0)) rfl (fun z => by cases z)) (kk p e s m below meth c X H locs ls hl hP hP2 hS)
theorem lx_cC {x M n : Nat} {as rest stk : List Value} {Q' : Int32 → px_S → Prop} (hk : px_I (l, D, aC, ad) px_Zc 7 M (.ref 0 :: as) S Q') (hm : lx_m x M n) (hd : decode code pc = .ok (.invokevirtual x, 3)) (hq : q = pc + 3) (hst : stk = as.reverse ++ .ref (ad 0) :: rest) (hn : as.length = n) (hav : as.map (px_v ad) = as) (hr : (rest.map fun v => v.category).sum ≤ 8) (hKN : K ≤ 600000 ∧ N ≤ 7302250)
    (kk : ∀ r S1, Q' r S1 → lx_w l D aC ad ad2 b L xs K N q i (.int r :: rest) S1 S2) : lx_w l D aC ad ad2 b L xs K N pc i stk S S2 := by
  subst hq
  subst hst
  intro p e s m below meth c X H locs ls hl hP hP2 hS
  obtain ⟨x1, x2, x3, x4, x5, x6, x7, x8, x9, x10, x11, x12, x13, x14⟩ := X
  exact lx_run x1 x2 x4 x5 x6 x10 x11 x12 x14 hP hP2 hS hk hm hd hn hav hl.1 hr hKN (fun r S1 H1 locs1 hq' hP' hP2' hS' => kk r S1 hq' p e s m below meth c ⟨x1, x2, x3, x4, x5, x6, x7, x8, x9, x10, x11, x12, x13, x14⟩ H1 locs1 ls hl hP' hP2' hS')
theorem lx_cR {x M n : Nat} {as rest stk : List Value} {Q' : Int32 → px_S → Prop} (hk : px_I (l, D, aC, ad2) px_Zr 7 M (.ref 0 :: as) S2 Q') (hm : lx_m x M n) (hd : decode code pc = .ok (.invokevirtual x, 3)) (hq : q = pc + 3) (hst : stk = as.reverse ++ .ref (ad2 0) :: rest) (hn : as.length = n) (hav : as.map (px_v ad2) = as) (hr : (rest.map fun v => v.category).sum ≤ 8) (hKN : K ≤ 600000 ∧ N ≤ 7302250)
    (kk : ∀ r S1, Q' r S1 → lx_w l D aC ad ad2 b L xs K N q i (.int r :: rest) S S1) : lx_w l D aC ad ad2 b L xs K N pc i stk S S2 := by
  subst hq
  subst hst
  intro p e s m below meth c X H locs ls hl hP hP2 hS
  obtain ⟨x1, x2, x3, x4, x5, x6, x7, x8, x9, x10, x11, x12, x13, x14⟩ := X
  exact lx_run x1 x2 x4 x5 x6 x10 x11 x13 (fun i j hi hj z => x14 j i hj hi z.symm) hP2 hP hS hk hm hd hn hav hl.1 hr hKN (fun r S1 H1 locs1 hq' hP' hP2' hS' => kk r S1 hq' p e s m below meth c ⟨x1, x2, x3, x4, x5, x6, x7, x8, x9, x10, x11, x12, x13, x14⟩ H1 locs1 ls hl hP2' hP' hS')
theorem lx_eq {x y : Int32} {off : Int} (hd : decode code pc = .ok (.if_icmp .eq off, 3)) (ht : (pc : Int) + off = ((486 : Nat) : Int)) (he : x = y) (kk : lx_w l D aC ad ad2 b L xs K N 486 i st S S2) : lx_w l D aC ad ad2 b L xs K N pc i (.int y :: .int x :: st) S S2 := by
  intro p e s m below meth c X H locs ls hl hP hP2 hS
  exact lv_icmp_eq X.1 X.2.1 hd ht (fun _ => kk p e s m below meth c X H locs ls hl hP hP2 hS) (fun z => absurd he z)
/-- the two numbers as a long -/
def lx_db (pc : Nat) : Prop := lx_da pc 1 ∧ decode code (pc + 5) = .ok (.i2l, 1) ∧ decode code (pc + 6) = .ok (.bipush 32, 2) ∧ decode code (pc + 8) = .ok (.lshl, 1) ∧ lx_da (pc + 9) 2 ∧ decode code (pc + 14) = .ok (.i2l, 1) ∧ decode code (pc + 15) = .ok (.ldc2_w 13, 3) ∧ decode code (pc + 18) = .ok (.land, 1) ∧ decode code (pc + 19) = .ok (.lor, 1)
theorem lx_bits (hd : lx_db pc) (hq : q = pc + 20) (hi : i + 2 < L) (hL : L ≤ 2048) (hc : Cond.constantLong "ParityVolumeLaw" 13 4294967295 ∈ px_WA) (kk : lx_w l D aC ad ad2 b L xs K N q i (.long (lx_v (xs (i + 1)) (xs (i + 2))) :: st) S S2) : lx_w l D aC ad ad2 b L xs K N pc i st S S2 := by
  subst hq
  obtain ⟨h1, h2, h3, h4, h5, h6, h7, h8, h9⟩ := hd
  refine lx_arg 1 h1 rfl (by decide) (by omega) hL ?_
  intro p e s m below meth c X H locs ls hl hP hP2 hS
  refine lv_i2l X.1 X.2.1 h2 rfl ?_
  refine lv_bipush (v := 32) X.1 X.2.1 h3 (by decide) ?_
  refine lv_lshl X.1 X.2.1 h4 rfl ?_
  refine (lx_arg (q := pc + 14) (S := S) (S2 := S2) 2 h5 rfl (by decide) (by omega) hL ?_) p e s m below meth c X H locs ls hl hP hP2 hS
  intro p e s m below meth c X H locs ls hl hP hP2 hS
  refine lv_i2l X.1 X.2.1 h6 rfl ?_
  refine lv_ldc2 X.1 X.2.1 X.2.2.2.2.1 (X.2.2.2.2.2.1 _ hc) h7 ?_
  refine lv_land X.1 X.2.1 h8 ?_
  refine lv_lor X.1 X.2.1 h9 ?_
  exact kk p e s m below meth c X H locs ls hl hP hP2 hS
def lx_d0 (pc x x2 : Nat) (off : Int) : Prop := decode code pc = .ok (.aload_n 1, 1) ∧ decode code (pc + 1) = .ok (.invokevirtual x, 3) ∧ decode code (pc + 4) = .ok (.aload_n 2, 1) ∧ decode code (pc + 5) = .ok (.invokevirtual x2, 3) ∧ decode code (pc + 8) = .ok (.if_icmp .eq off, 3)
theorem lx_c0 {x x2 M M2 : Nat} {off : Int} (hd : lx_d0 pc x x2 off) (ht : ((pc + 8 : Nat) : Int) + off = ((486 : Nat) : Int)) (hm : lx_m x M 0) (hm2 : lx_m x2 M2 0) (hKN : K ≤ 600000 ∧ N ≤ 7302250) (hk : px_I (l, D, aC, ad) px_Zc 7 M [.ref 0] S (fun r S1 => px_I (l, D, aC, ad2) px_Zr 7 M2 [.ref 0] S2 (fun r2 S3 => r = r2 ∧ lx_w l D aC ad ad2 b L xs K N 486 i [] S1 S3))) : lx_w l D aC ad ad2 b L xs K N pc i [] S S2 := by
  obtain ⟨h1, h2, h3, h4, h5⟩ := hd
  refine lx_al1 h1 rfl (lx_cC (as := []) hk hm h2 rfl rfl rfl rfl (by decide) hKN (fun r S1 hk2 => ?_))
  refine lx_al2 h3 rfl (lx_cR (as := []) hk2 hm2 h4 rfl rfl rfl rfl (Nat.le_of_ble_eq_true rfl) hKN (fun r2 S3 h => ?_))
  exact lx_eq h5 ht h.1 h.2
def lx_d1 (pc x x2 : Nat) (off : Int) : Prop := decode code pc = .ok (.aload_n 1, 1) ∧ lx_da (pc + 1) 1 ∧ decode code (pc + 6) = .ok (.invokevirtual x, 3) ∧ decode code (pc + 9) = .ok (.aload_n 2, 1) ∧ lx_da (pc + 10) 1 ∧ decode code (pc + 15) = .ok (.invokevirtual x2, 3) ∧ decode code (pc + 18) = .ok (.if_icmp .eq off, 3)
theorem lx_c1 {x x2 M M2 : Nat} {off : Int} (hd : lx_d1 pc x x2 off) (ht : ((pc + 18 : Nat) : Int) + off = ((486 : Nat) : Int)) (hm : lx_m x M 1) (hm2 : lx_m x2 M2 1) (hi : i + 3 < L) (hL : L ≤ 2048) (hKN : K ≤ 600000 ∧ N ≤ 7302250) (hk : px_I (l, D, aC, ad) px_Zc 7 M [.ref 0, .int (xs (i + 1))] S (fun r S1 => px_I (l, D, aC, ad2) px_Zr 7 M2 [.ref 0, .int (xs (i + 1))] S2 (fun r2 S3 => r = r2 ∧ lx_w l D aC ad ad2 b L xs K N 486 i [] S1 S3))) : lx_w l D aC ad ad2 b L xs K N pc i [] S S2 := by
  obtain ⟨h1, h2, h3, h4, h5, h6, h7⟩ := hd
  refine lx_al1 h1 rfl (lx_arg 1 h2 rfl (by decide) (by omega) hL (lx_cC (as := [.int (xs (i + 1))]) hk hm h3 rfl rfl rfl rfl (by decide) hKN (fun r S1 hk2 => ?_)))
  refine lx_al2 h4 rfl (lx_arg 1 h5 rfl (by decide) (by omega) hL (lx_cR (as := [.int (xs (i + 1))]) hk2 hm2 h6 rfl rfl rfl rfl (Nat.le_of_ble_eq_true rfl) hKN (fun r2 S3 h => ?_)))
  exact lx_eq h7 ht h.1 h.2
def lx_d2 (pc x x2 : Nat) (off : Int) : Prop := decode code pc = .ok (.aload_n 1, 1) ∧ lx_da (pc + 1) 1 ∧ lx_da (pc + 6) 2 ∧ decode code (pc + 11) = .ok (.invokevirtual x, 3) ∧ decode code (pc + 14) = .ok (.aload_n 2, 1) ∧ lx_da (pc + 15) 1 ∧ lx_da (pc + 20) 2 ∧ decode code (pc + 25) = .ok (.invokevirtual x2, 3) ∧ decode code (pc + 28) = .ok (.if_icmp .eq off, 3)
theorem lx_c2 {x x2 M M2 : Nat} {off : Int} (hd : lx_d2 pc x x2 off) (ht : ((pc + 28 : Nat) : Int) + off = ((486 : Nat) : Int)) (hm : lx_m x M 2) (hm2 : lx_m x2 M2 2) (hi : i + 3 < L) (hL : L ≤ 2048) (hKN : K ≤ 600000 ∧ N ≤ 7302250) (hk : px_I (l, D, aC, ad) px_Zc 7 M [.ref 0, .int (xs (i + 1)), .int (xs (i + 2))] S (fun r S1 => px_I (l, D, aC, ad2) px_Zr 7 M2 [.ref 0, .int (xs (i + 1)), .int (xs (i + 2))] S2 (fun r2 S3 => r = r2 ∧ lx_w l D aC ad ad2 b L xs K N 486 i [] S1 S3))) : lx_w l D aC ad ad2 b L xs K N pc i [] S S2 := by
  obtain ⟨h1, h2, h2', h3, h4, h5, h5', h6, h7⟩ := hd
  refine lx_al1 h1 rfl (lx_arg 1 h2 rfl (by decide) (by omega) hL (lx_arg 2 h2' rfl (by decide) (by omega) hL (lx_cC (as := [.int (xs (i + 1)), .int (xs (i + 2))]) hk hm h3 rfl rfl rfl rfl (by decide) hKN (fun r S1 hk2 => ?_))))
  refine lx_al2 h4 rfl (lx_arg 1 h5 rfl (by decide) (by omega) hL (lx_arg 2 h5' rfl (by decide) (by omega) hL (lx_cR (as := [.int (xs (i + 1)), .int (xs (i + 2))]) hk2 hm2 h6 rfl rfl rfl rfl (Nat.le_of_ble_eq_true rfl) hKN (fun r2 S3 h => ?_))))
  exact lx_eq h7 ht h.1 h.2
def lx_d3 (pc x x2 : Nat) (off : Int) : Prop := decode code pc = .ok (.aload_n 1, 1) ∧ lx_da (pc + 1) 1 ∧ lx_da (pc + 6) 2 ∧ lx_da (pc + 11) 3 ∧ decode code (pc + 16) = .ok (.invokevirtual x, 3) ∧ decode code (pc + 19) = .ok (.aload_n 2, 1) ∧ lx_da (pc + 20) 1 ∧ lx_da (pc + 25) 2 ∧ lx_da (pc + 30) 3 ∧ decode code (pc + 35) = .ok (.invokevirtual x2, 3) ∧ decode code (pc + 38) = .ok (.if_icmp .eq off, 3)
theorem lx_c3 {x x2 M M2 : Nat} {off : Int} (hd : lx_d3 pc x x2 off) (ht : ((pc + 38 : Nat) : Int) + off = ((486 : Nat) : Int)) (hm : lx_m x M 3) (hm2 : lx_m x2 M2 3) (hi : i + 3 < L) (hL : L ≤ 2048) (hKN : K ≤ 600000 ∧ N ≤ 7302250) (hk : px_I (l, D, aC, ad) px_Zc 7 M [.ref 0, .int (xs (i + 1)), .int (xs (i + 2)), .int (xs (i + 3))] S (fun r S1 => px_I (l, D, aC, ad2) px_Zr 7 M2 [.ref 0, .int (xs (i + 1)), .int (xs (i + 2)), .int (xs (i + 3))] S2 (fun r2 S3 => r = r2 ∧ lx_w l D aC ad ad2 b L xs K N 486 i [] S1 S3))) : lx_w l D aC ad ad2 b L xs K N pc i [] S S2 := by
  obtain ⟨h1, h2, h2', h2'', h3, h4, h5, h5', h5'', h6, h7⟩ := hd
  refine lx_al1 h1 rfl (lx_arg 1 h2 rfl (by decide) (by omega) hL (lx_arg 2 h2' rfl (by decide) (by omega) hL (lx_arg 3 h2'' rfl (by decide) (by omega) hL (lx_cC (as := [.int (xs (i + 1)), .int (xs (i + 2)), .int (xs (i + 3))]) hk hm h3 rfl rfl rfl rfl (by decide) hKN (fun r S1 hk2 => ?_)))))
  refine lx_al2 h4 rfl (lx_arg 1 h5 rfl (by decide) (by omega) hL (lx_arg 2 h5' rfl (by decide) (by omega) hL (lx_arg 3 h5'' rfl (by decide) (by omega) hL (lx_cR (as := [.int (xs (i + 1)), .int (xs (i + 2)), .int (xs (i + 3))]) hk2 hm2 h6 rfl rfl rfl rfl (Nat.le_of_ble_eq_true rfl) hKN (fun r2 S3 h => ?_)))))
  exact lx_eq h7 ht h.1 h.2
def lx_dT (pc x x2 : Nat) (off : Int) : Prop := decode code pc = .ok (.aload_n 1, 1) ∧ lx_db (pc + 1) ∧ lx_da (pc + 21) 3 ∧ decode code (pc + 26) = .ok (.invokevirtual x, 3) ∧ decode code (pc + 29) = .ok (.aload_n 2, 1) ∧ lx_db (pc + 30) ∧ lx_da (pc + 50) 3 ∧ decode code (pc + 55) = .ok (.invokevirtual x2, 3) ∧ decode code (pc + 58) = .ok (.if_icmp .eq off, 3)
theorem lx_cT {x x2 M M2 : Nat} {off : Int} (hd : lx_dT pc x x2 off) (ht : ((pc + 58 : Nat) : Int) + off = ((486 : Nat) : Int)) (hm : lx_m x M 2) (hm2 : lx_m x2 M2 2) (hi : i + 3 < L) (hL : L ≤ 2048) (hKN : K ≤ 600000 ∧ N ≤ 7302250) (hc : Cond.constantLong "ParityVolumeLaw" 13 4294967295 ∈ px_WA) (hk : px_I (l, D, aC, ad) px_Zc 7 M [.ref 0, .long (lx_v (xs (i + 1)) (xs (i + 2))), .int (xs (i + 3))] S (fun r S1 => px_I (l, D, aC, ad2) px_Zr 7 M2 [.ref 0, .long (lx_v (xs (i + 1)) (xs (i + 2))), .int (xs (i + 3))] S2 (fun r2 S3 => r = r2 ∧ lx_w l D aC ad ad2 b L xs K N 486 i [] S1 S3))) : lx_w l D aC ad ad2 b L xs K N pc i [] S S2 := by
  obtain ⟨h1, h2, h2', h3, h4, h5, h5', h6, h7⟩ := hd
  refine lx_al1 h1 rfl (lx_bits h2 rfl (by omega) hL hc (lx_arg 3 h2' rfl (by decide) (by omega) hL (lx_cC (as := [.long (lx_v (xs (i + 1)) (xs (i + 2))), .int (xs (i + 3))]) hk hm h3 rfl rfl rfl rfl (by decide) hKN (fun r S1 hk2 => ?_))))
  refine lx_al2 h4 rfl (lx_bits h5 rfl (by omega) hL hc (lx_arg 3 h5' rfl (by decide) (by omega) hL (lx_cR (as := [.long (lx_v (xs (i + 1)) (xs (i + 2))), .int (xs (i + 3))]) hk2 hm2 h6 rfl rfl rfl rfl (Nat.le_of_ble_eq_true rfl) hKN (fun r2 S3 h => ?_))))
  exact lx_eq h7 ht h.1 h.2
end
theorem lm_PV_type : lx_m 15 m_PV_type 2 := ⟨mf_PV_type, rfl, (px_m1 232 (by decide +kernel)), (px_m1 233 (by decide +kernel)), (px_m1 234 (by decide +kernel))⟩
theorem lm_Mo_type : lx_m 19 m_Mo_type 2 := ⟨mf_Mo_type, rfl, (px_m4 111 (by decide +kernel)), (px_m4 112 (by decide +kernel)), (px_m4 113 (by decide +kernel))⟩
theorem lm_PV_file : lx_m 20 m_PV_file 1 := ⟨mf_PV_file, rfl, (px_m2 4 (by decide +kernel)), (px_m2 5 (by decide +kernel)), (px_m2 6 (by decide +kernel))⟩
theorem lm_Mo_file : lx_m 24 m_Mo_file 1 := ⟨mf_Mo_file, rfl, (px_m4 116 (by decide +kernel)), (px_m4 117 (by decide +kernel)), (px_m4 118 (by decide +kernel))⟩
theorem lm_PV_damage : lx_m 25 m_PV_damage 3 := ⟨mf_PV_damage, rfl, (px_m2 24 (by decide +kernel)), (px_m2 25 (by decide +kernel)), (px_m2 26 (by decide +kernel))⟩
theorem lm_Mo_damage : lx_m 29 m_Mo_damage 3 := ⟨mf_Mo_damage, rfl, (px_m4 123 (by decide +kernel)), (px_m4 124 (by decide +kernel)), (px_m4 125 (by decide +kernel))⟩
theorem lm_PV_shorten : lx_m 30 m_PV_shorten 2 := ⟨mf_PV_shorten, rfl, (px_m2 36 (by decide +kernel)), (px_m2 37 (by decide +kernel)), (px_m2 38 (by decide +kernel))⟩
theorem lm_Mo_shorten : lx_m 34 m_Mo_shorten 2 := ⟨mf_Mo_shorten, rfl, (px_m4 127 (by decide +kernel)), (px_m4 128 (by decide +kernel)), (px_m4 129 (by decide +kernel))⟩
theorem lm_PV_protect : lx_m 35 m_PV_protect 1 := ⟨mf_PV_protect, rfl, (px_m2 44 (by decide +kernel)), (px_m2 45 (by decide +kernel)), (px_m2 46 (by decide +kernel))⟩
theorem lm_Mo_protect : lx_m 38 m_Mo_protect 1 := ⟨mf_Mo_protect, rfl, (px_m4 139 (by decide +kernel)), (px_m4 140 (by decide +kernel)), (px_m4 141 (by decide +kernel))⟩
theorem lm_PV_volume : lx_m 39 m_PV_volume 0 := ⟨mf_PV_volume, rfl, (px_m2 205 (by decide +kernel)), (px_m2 206 (by decide +kernel)), (px_m2 207 (by decide +kernel))⟩
theorem lm_Mo_volume : lx_m 43 m_Mo_volume 0 := ⟨mf_Mo_volume, rfl, (px_m4 233 (by decide +kernel)), (px_m4 234 (by decide +kernel)), (px_m4 235 (by decide +kernel))⟩
theorem lm_PV_byteAt : lx_m 44 m_PV_byteAt 1 := ⟨mf_PV_byteAt, rfl, (px_m2 209 (by decide +kernel)), (px_m2 210 (by decide +kernel)), (px_m2 211 (by decide +kernel))⟩
theorem lm_Mo_byteAt : lx_m 47 m_Mo_byteAt 1 := ⟨mf_Mo_byteAt, rfl, (px_m4 237 (by decide +kernel)), (px_m4 238 (by decide +kernel)), (px_m4 239 (by decide +kernel))⟩
theorem lm_PV_alter : lx_m 48 m_PV_alter 2 := ⟨mf_PV_alter, rfl, (px_m2 215 (by decide +kernel)), (px_m2 216 (by decide +kernel)), (px_m2 217 (by decide +kernel))⟩
theorem lm_Mo_alter : lx_m 51 m_Mo_alter 2 := ⟨mf_Mo_alter, rfl, (px_m5 1 (by decide +kernel)), (px_m5 2 (by decide +kernel)), (px_m5 3 (by decide +kernel))⟩
theorem lm_PV_cut : lx_m 52 m_PV_cut 2 := ⟨mf_PV_cut, rfl, (px_m2 219 (by decide +kernel)), (px_m2 220 (by decide +kernel)), (px_m2 221 (by decide +kernel))⟩
theorem lm_Mo_cut : lx_m 55 m_Mo_cut 2 := ⟨mf_Mo_cut, rfl, (px_m5 5 (by decide +kernel)), (px_m5 6 (by decide +kernel)), (px_m5 7 (by decide +kernel))⟩
theorem lm_PV_scan : lx_m 56 m_PV_scan 0 := ⟨mf_PV_scan, rfl, (px_m2 230 (by decide +kernel)), (px_m2 231 (by decide +kernel)), (px_m2 232 (by decide +kernel))⟩
theorem lm_Mo_scan : lx_m 59 m_Mo_scan 0 := ⟨mf_Mo_scan, rfl, (px_m5 9 (by decide +kernel)), (px_m5 10 (by decide +kernel)), (px_m5 11 (by decide +kernel))⟩
theorem lm_PV_verify : lx_m 60 m_PV_verify 0 := ⟨mf_PV_verify, rfl, (px_m3 58 (by decide +kernel)), (px_m3 59 (by decide +kernel)), (px_m3 60 (by decide +kernel))⟩
theorem lm_Mo_verify : lx_m 63 m_Mo_verify 0 := ⟨mf_Mo_verify, rfl, (px_m5 41 (by decide +kernel)), (px_m5 42 (by decide +kernel)), (px_m5 43 (by decide +kernel))⟩
theorem lm_PV_repair : lx_m 64 m_PV_repair 0 := ⟨mf_PV_repair, rfl, (px_m3 102 (by decide +kernel)), (px_m3 103 (by decide +kernel)), (px_m3 104 (by decide +kernel))⟩
theorem lm_Mo_repair : lx_m 67 m_Mo_repair 0 := ⟨mf_Mo_repair, rfl, (px_m5 53 (by decide +kernel)), (px_m5 54 (by decide +kernel)), (px_m5 55 (by decide +kernel))⟩
theorem lm_PV_length : lx_m 68 m_PV_length 1 := ⟨mf_PV_length, rfl, (px_m3 200 (by decide +kernel)), (px_m3 201 (by decide +kernel)), (px_m3 202 (by decide +kernel))⟩
theorem lm_Mo_length : lx_m 71 m_Mo_length 1 := ⟨mf_Mo_length, rfl, (px_m4 131 (by decide +kernel)), (px_m4 132 (by decide +kernel)), (px_m4 133 (by decide +kernel))⟩
theorem lm_PV_at : lx_m 72 m_PV_at 2 := ⟨mf_PV_at, rfl, (px_m3 204 (by decide +kernel)), (px_m3 205 (by decide +kernel)), (px_m3 206 (by decide +kernel))⟩
theorem lm_Mo_at : lx_m 76 m_Mo_at 2 := ⟨mf_Mo_at, rfl, (px_m4 135 (by decide +kernel)), (px_m4 136 (by decide +kernel)), (px_m4 137 (by decide +kernel))⟩
