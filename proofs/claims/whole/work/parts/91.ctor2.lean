theorem mi_Packets_row : Cond.instanceMethod (px_my m_Packets_row) ∈ px_WA ∧ Cond.selects (px_my m_Packets_row).cls (px_my m_Packets_row) (px_my m_Packets_row) ∈ px_WA := ⟨(px_m1 104 (by decide +kernel)), (px_m1 105 (by decide +kernel))⟩
theorem cx_fm {α β : Type} {f : α → Option β} : ∀ {is : List α} {w : List β}, is.map f = w.map some → is.filterMap f = w
  | [], [], _ => rfl
  | [], _ :: _, h => by cases h
  | _ :: _, [], h => by cases h
  | i :: is, b :: w, h => by
    rw [List.map_cons, List.map_cons] at h
    injection h with h1 h2
    rw [List.filterMap_cons, h1, cx_fm h2]
/-- what the tables say of a constructor's call -/
def cx_c (own : String) (x : Nat) (y : MethodName) (cc : ByteArray) (nL na : Nat) : Prop := Cond.code y cc nL none ∈ px_WA ∧ Cond.initialized y.cls ∈ px_WA ∧ Cond.methodLink own x y ∈ px_WA ∧ Cond.instanceMethod y ∈ px_WA ∧ y.name = "<init>" ∧ y.cls ≠ "java/lang/invoke/MethodHandle" ∧ y.cls ≠ "java/lang/invoke/VarHandle" ∧ (parseMethodDescriptor y.desc).map (fun d => d.parameters.length) = some na
theorem cx_pre {G : cx_G} {w1 : va_W} {as : List Value} {s : State} {H : Heap} (hP : va_P G.2.1 px_cl w1 H) (hD : va_D (fun _ => True) w1) (hK : va_K G.2.1 px_cl (px_ty G.2.2) s) (hO : cx_O s) : PreS s H (va_Pc as (cx_B G w1 H.size)) as := by
  refine ⟨fun a U g mk z => ?_, fun U hU hW => ?_⟩
  · obtain ⟨z0, z1, z2, z3, z4, z5⟩ := z
    exact ⟨z0, z1, z2, va_K.moved (u := U) (U := U.calling g mk a) (Vm.Alike.refl U.vm) z3, z4, cx_O.moved (u := U) (U := U.calling g mk a) (Vm.Alike.refl U.vm) z5⟩
  · exact ⟨rfl, by rw [hU], by rw [hU]; exact hP, va_K.moved hW.alike hK, hD, hO.moved hW.alike⟩
theorem cx_good {y : MethodName} {cc : ByteArray} {nL : Nat} (h : Cond.code y cc nL none ∈ px_WA) : GoodIn px_WA (.code y cc nL none :: px_WA) := by
  intro w hw
  rcases List.mem_cons.mp hw with rfl | hw
  · exact px_gd _ h
  · exact px_gd w hw
section
variable {G : cx_G} {R : Room} {y : MethodName} {cc : ByteArray} {nL : Nat} {w0 : va_W} {mc ms : Nat} {Q : va_W → Prop} {pc q : Nat} {L st : List Value} {ws : va_W} {k n : Nat}
theorem c_init {y' : MethodName} {cc' : ByteArray} {nL' mc' ms' x b na : Nat} {R' : Room} {w1 : va_W} {as rest stk : List Value} {Q' : va_W → Prop} (isC isR : List Nat) (wr : va_W) (hM : cx_M G R' y' cc' nL' w1 (.ref b :: as) mc' ms' Q') (hd : decode cc pc = .ok (.invokespecial x, 3)) (hq : q = pc + 3) (hst : stk = as.reverse ++ .ref b :: rest) (hr : (rest.map fun v => v.category).sum ≤ 8) (hna : as.length = na) (hw : cx_c y.cls x y' cc' nL' na)
    (hR1 : R'.cells = mc' ∧ R'.slots = ms') (hR2 : R'.frames + 1 ≤ R.frames ∧ 8 + (nL' + 11) + R'.locals ≤ R.locals) (hcs : k + mc' ≤ R.cells ∧ n + ms' ≤ R.slots) (hC : isC.map (fun i => ws[i]?) = w1.map some) (hRr : isR.map (fun i => ws[i]?) = wr.map some) (hn1 : va_nd isC = true) (hn2 : va_nd isR = true) (hdis : ∀ i ∈ isR, i ∉ isC)
    (kk : ∀ w', Q' w' → cx_w G R y cc nL w0 mc ms Q q L rest (wr ++ w') (k + mc') (n + ms')) : cx_w G R y cc nL w0 mc ms Q pc L stk ws k n := by
  subst hq
  subst hst
  obtain ⟨g1, g2, g3, g4, g5, g6, g7, g8⟩ := hw
  intro p e s m args below meth c X H locs ls hl hP hD hS
  have hK := X.2.2.2.2.2.2.2.2.1
  have hO := X.2.2.2.2.2.2.2.2.2
  have hts := X.2.2.2.2.1
  have hPc := hP.sub isC (cx_fm hC)
  have hDc := hD.sub isC hn1 hC
  have hFc := va_free (wc := w1) hD hS cx_A_new isC hC
  have hpre := cx_pre (as := .ref b :: as) hPc (hDc.weaken (fun _ _ _ _ => trivial)) hK hO
  refine va_callv (va_runI (As := as) (rest := rest) ⟨X.1, X.2.1, X.2.2.1, X.2.2.2.1, hts⟩ (hM H.size) (cwI na hts (cx_good g1) rfl hR1.1 hR1.2 (hts _ g2) (hts _ g3) (hts _ g4) g5 ⟨g6, g7, g8⟩ hR2) hpre rfl hna hl.1 rfl (lv_room hr) hd hcs) hS (fun q _ h => hFc q h) hFc (fun w' t H1 locs1 ht hvm hw' hB hz1 hk1 hS1 => ?_)
  obtain ⟨hP1, hD1⟩ := hB
  rw [ht] at hP1
  obtain ⟨hP2, hD2⟩ := va_join (wr := wr) (w1 := w') hP hD isC isR hC hRr hn2 hdis hk1 hFc hP1 hD1
  exact kk w' hw' p e s m args below meth c X H1 locs1 ls hl hP2 hD2 hS1
/-- Packets.row, in a constructor -/
theorem c_prow {x b r i0 : Nat} {fs : List Value} (hd : decode cc pc = .ok (.invokevirtual x, 3)) (hq : q = pc + 3) (hr : (st.map fun v => v.category).sum ≤ 8) (h1 : Cond.methodLink y.cls x (px_my m_Packets_row) ∈ px_WA) (hR2 : 1 ≤ R.frames ∧ 20 ≤ R.locals) (hcs : k ≤ R.cells ∧ n ≤ R.slots) (he : ws[i0]? = some (b, .inr (4, fs))) (hv : fs[0]? = some (.ref r))
    (kk : cx_w G R y cc nL w0 mc ms Q q L (.ref r :: st) ws k n) : cx_w G R y cc nL w0 mc ms Q pc L (.ref b :: st) ws k n := by
  subst hq
  intro p e s m args below meth c X H locs ls hl hP hD hS
  have hK := X.2.2.2.2.2.2.2.2.1
  have hO := X.2.2.2.2.2.2.2.2.2
  have hts := X.2.2.2.2.1
  have hC : [i0].map (fun i => ws[i]?) = [((b, .inr (4, fs)) : Nat × va_E)].map some := by rw [List.map_cons, he]; rfl
  have hPc := hP.sub [i0] (cx_fm hC)
  have hDc := hD.sub [i0] rfl hC
  have hFc := va_free (wc := [(b, .inr (4, fs))]) hD hS cx_A_new [i0] hC
  have hM : Met G.1 (px_my m_Packets_row) (px_ws m_Packets_row) ({ frames := 0, cells := 0, slots := 0, locals := 0 } : Room) (va_Pc [.ref b] (cx_B G [(b, .inr (4, fs))] H.size)) (va_Qr (S := Unit) (fun _ => True) (fun _ a t => a = r ∧ t.heap = H ∨ a = r ∧ va_P G.2.1 px_cl [(b, .inr (4, fs))] t.heap) (fun _ => False)) 0 0 (fun _ => False) := by
    refine Met.ofW (cc := px_mb m_Packets_row) (maxL := px_ml m_Packets_row) (ret := px_mr m_Packets_row) (by decide) rfl ?_
    intro p e s m args below meth c s₁ B hml hv'
    obtain ⟨rfl, hsz, hP, hK, hD, hO⟩ := hv'
    have hts := atoms_spec (ws := px_ws m_Packets_row) B.pre
    have hown : s.vm.findClass (px_my m_Packets_row).cls = some m.cls := findClass_of_methodNamed B.named
    rw [lg_entry_eq]
    have hl := lv_entry ([.ref b]) (n := px_ml m_Packets_row) (Nat.le_of_ble_eq_true rfl)
    generalize (lg_sl ([.ref b]) ++ List.replicate (px_ml m_Packets_row - (lg_sl ([.ref b])).length) Slot.unset).toArray = ls at hl ⊢
    have hl : lv_has ls (px_ml m_Packets_row) [(0, .ref b)] := hl
    refine lv_aload_n (k := 0) B.exec B.bytes (px_d (M := m_Packets_row) (pc := 0) (q := 1) rfl rfl) rfl (lv_at hl 0 rfl) ?_
    obtain ⟨C, T, N, ty0, f1, f2, f3, f4, -, -⟩ := fl_Packets_9
    refine va_get (D := G.2.1) (ci := 4) (C := C) (T := T) (N := N) B.exec B.bytes (fun w hw => hts w (List.mem_cons_of_mem _ hw)) f4 hown hK hP 0 rfl f1 0 f2 (hts _ (List.mem_cons_of_mem _ f3)) (fun _ h9 => h9) hv (px_d (M := m_Packets_row) (pc := 1) (q := 4) rfl rfl) ?_
    have hlk := B.notSynchronized
    exact W.aret B.exec B.bytes (B.returns.trans rfl) (Or.inl ⟨"ParityVolume$Row", rfl⟩) (Or.inr ⟨_, rfl⟩) (fun t ht hW => ⟨⟨(), r, rfl, trivial, Or.inr ⟨rfl, by rw [ht]; exact hP⟩⟩, by rw [ht]; exact Nat.le_refl _, fun q h1 h2 => by rw [ht]⟩) (fun q h => by cases h) (px_d (M := m_Packets_row) (pc := 4) (q := 5) rfl rfl) hlk
  have hpre := cx_pre (as := [.ref b]) hPc (hDc.weaken (fun _ _ _ _ => trivial)) hK hO
  have hmf : px_mf m_Packets_row 0 := mf_Packets_row
  obtain ⟨hcode, hini, ⟨hy1, hy2, hy3⟩, hml⟩ := hmf
  have hgood : GoodIn px_WA (px_ws m_Packets_row) := by
    intro w hw
    rcases List.mem_cons.mp hw with rfl | hw
    · exact px_gd _ hcode
    · exact px_gd w hw
  refine va_callr (va_runV (C := (px_my m_Packets_row).cls) (As := []) (n := 0) (rest := st) ⟨X.1, X.2.1, X.2.2.1, X.2.2.2.1, hts⟩ hM ⟨callB_of 0 hts hgood rfl rfl rfl (hts _ hini) (hts _ h1) ⟨hy1, hy2, hy3⟩ ⟨by show 0 + 1 ≤ _; omega, by show 8 + (px_ml m_Packets_row + 11) + 0 ≤ _; have : px_ml m_Packets_row = 1 := rfl; omega⟩, hts _ mi_Packets_row.1, hts _ mi_Packets_row.2⟩ ⟨hpre.1, va_recv hK hPc (ci := 4) rfl (q0 := 0) rfl, hpre.2⟩ rfl rfl hl.1 rfl (lv_room hr) hd ⟨hcs.1, hcs.2⟩) hS (fun q _ h => absurd h id) (fun q h => absurd h id) (fun u ra t H1 locs1 ht hvm _ hB hz1 hk1 hS1 => ?_)
  have hP2 : va_P G.2.1 px_cl ws H1 := hP.kept (fun k x hx => hk1 x.1 ((hP k x hx).lt) id)
  have er : ra = r := by rcases hB with h | h <;> exact h.1
  subst er
  exact kk p e s m args below meth c X H1 locs1 ls hl hP2 hD hS1
end
