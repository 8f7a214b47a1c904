/-! Constructors: a judgement over worlds that grow -/
abbrev cx_G : Type := Launch × va_G × (Nat → ClassId)
/-- the classes of int[] and int[][] are there -/
def cx_AA (U : State) : Prop := ∃ (cR cA : ClassId) (k : Class), U.vm.findClass "[I" = some cR ∧ U.vm.classes[cA]? = some k ∧ k.kind = .array cR (.array .int) ∧ U.vm.findClass "[[I" = some cA
theorem cx_AA.of {A : Array Value} {U : State} (h : (Cond.arrayOver (.array .int)).before A U = true) : cx_AA U := by
  obtain ⟨cR, cA, k, h1, -, h2, h3, h4⟩ := arrayOverA_spec h
  exact ⟨cR, cA, k, h1, h2, h3, h4⟩
theorem cx_AA.moved {u U : State} (hvm : u.vm.Alike U.vm) (h : cx_AA u) : cx_AA U := by
  obtain ⟨cR, cA, k, h1, h2, h3, h4⟩ := h
  obtain ⟨k', g1, g2⟩ := hvm.2.2 _ _ h2
  exact ⟨cR, cA, k', by rw [hvm.findClass]; exact h1, g1, by rw [g2]; exact h3, by rw [hvm.findClass]; exact h4⟩
def cx_O (U : State) : Prop := va_AO "ParityVolume$Row" U ∧ cx_AA U
theorem cx_O.moved {u U : State} (hvm : u.vm.Alike U.vm) (h : cx_O u) : cx_O U := ⟨h.1.moved hvm, h.2.moved hvm⟩
abbrev cx_id : Nat → Nat := fun x => x
def cx_X (G : cx_G) (y : MethodName) (cc : ByteArray) (nL : Nat) (p : Program) (s : State) (m : MethodId) (args : Array Value) (meth : Method) (c : Code) : Prop :=
  p.tables.exec = Jvm.exec ∧ c.code = cc ∧ c.maxLocals = nL ∧ s.vm.findClass y.cls = some m.cls ∧ (∀ w ∈ px_WA, w.before args s = true) ∧ meth.sig.returnType = none ∧ meth.locks = false ∧ meth.name = "<init>" ∧ va_K G.2.1 px_cl (px_ty G.2.2) s ∧ cx_O s
def cx_Q (G : cx_G) (w0 : va_W) (sz : Nat) (Q : va_W → Prop) : Array Value → State → Outcome → State → Prop := va_Qv Q (fun ws t => va_P G.2.1 px_cl ws t.heap ∧ va_D (va_A w0 sz) ws) (va_A w0 sz)
def cx_w (G : cx_G) (R : Room) (y : MethodName) (cc : ByteArray) (nL : Nat) (w0 : va_W) (mc ms : Nat) (Q : va_W → Prop) (pc : Nat) (L st : List Value) (ws : va_W) (k n : Nat) : Prop :=
  ∀ (p : Program) (e : Env) (s : State) (m : MethodId) (args : Array Value) (below : List Frame) (meth : Method) (c : Code), cx_X G y cc nL p s m args meth c →
    ∀ (H : Heap) (locs : List Loc) (ls : Array Slot), px_L cx_id ls nL L → va_P G.2.1 px_cl ws H → va_D (va_A w0 s.heap.size) ws → va_S (va_A w0 s.heap.size) s.heap H locs →
      W p G.1 e R s m args below meth c H locs k n (MQ below (cx_Q G w0 s.heap.size Q) args s mc ms (va_A w0 s.heap.size)) (F0 m pc ls st)
def cx_B (G : cx_G) (w0 : va_W) (sz : Nat) (U : State) : Prop := U.heap.size = sz ∧ va_P G.2.1 px_cl w0 U.heap ∧ va_K G.2.1 px_cl (px_ty G.2.2) U ∧ va_D (fun _ => True) w0 ∧ cx_O U
def cx_M (G : cx_G) (R : Room) (y : MethodName) (cc : ByteArray) (nL : Nat) (w0 : va_W) (as : List Value) (mc ms : Nat) (Q : va_W → Prop) : Prop :=
  ∀ sz, Met G.1 y (.code y cc nL none :: px_WA) R (va_Pc as (cx_B G w0 sz)) (cx_Q G w0 sz Q) mc ms (va_A w0 sz)
theorem cx_A_new {w0 : va_W} {sz : Nat} : ∀ q, sz ≤ q → va_A w0 sz q := fun _ h => Or.inr h
theorem cx_v (v : Value) : px_v cx_id v = v := by cases v <;> rfl
theorem cx_vs (st : List Value) : st.map (px_v cx_id) = st := by
  have : px_v cx_id = id := funext cx_v
  rw [this, List.map_id]
section
variable {G : cx_G} {R : Room} {y : MethodName} {cc : ByteArray} {nL : Nat} {w0 : va_W} {mc ms : Nat} {Q : va_W → Prop} {pc q : Nat} {L st : List Value} {ws : va_W} {k n : Nat}
theorem cx_in {as : List Value} (hy : plainName y.cls = true) (hyn : y.name = "<init>") (hn : (lg_sl as).length ≤ nL) (hL : ∀ (i : Nat) (v : Value), L[i]? = some v → v ≠ .null → (i, v) ∈ lv_args 0 as) (h : cx_w G R y cc nL w0 mc ms Q 0 L [] w0 0 0) : cx_M G R y cc nL w0 as mc ms Q := by
  intro sz
  refine Met.ofW (cc := cc) (maxL := nL) (ret := none) hy rfl ?_
  intro p e s m args below meth c s₁ B hml hv
  obtain ⟨rfl, hsz, hP, hK, hD, hO⟩ := hv
  have hts := atoms_spec (ws := .code y cc nL none :: px_WA) B.pre
  have hown : s.vm.findClass y.cls = some m.cls := findClass_of_methodNamed B.named
  have hin : meth.name = "<init>" := ((name_of_methodNamed B.named B.method).1).trans hyn
  subst hsz
  rw [lg_entry_eq]
  have e1 := cx_vs as
  have hl := px_L_entry cx_id as (n := nL) (L := L) (by rw [e1]; exact hn) (fun i v hi hv => by rw [e1, cx_v]; exact hL i v hi hv)
  rw [e1] at hl
  exact h p e s m _ below meth c ⟨B.exec, B.bytes, hml, hown, fun w hw => hts w (List.mem_cons_of_mem _ hw), B.returns, B.notSynchronized, hin, hK, hO⟩ s.heap [] _ hl hP hD.self va_S.rf
theorem c_aload {i : Fin 4} {x : Nat} (hd : decode cc pc = .ok (.aload_n i, 1)) (hq : q = pc + 1) (hx : L[(i : Nat)]? = some (.ref x)) (kk : cx_w G R y cc nL w0 mc ms Q q L (.ref x :: st) ws k n) : cx_w G R y cc nL w0 mc ms Q pc L st ws k n := by
  subst hq
  intro p e s m args below meth c X H locs ls hl hP hD hS
  exact lv_aload_n X.1 X.2.1 hd rfl (hl.2.2 _ _ hx (fun z => by cases z)) (kk p e s m args below meth c X H locs ls hl hP hD hS)
theorem c_iload {i : Fin 4} {x : Int32} (hd : decode cc pc = .ok (.iload_n i, 1)) (hq : q = pc + 1) (hx : L[(i : Nat)]? = some (.int x)) (kk : cx_w G R y cc nL w0 mc ms Q q L (.int x :: st) ws k n) : cx_w G R y cc nL w0 mc ms Q pc L st ws k n := by
  subst hq
  intro p e s m args below meth c X H locs ls hl hP hD hS
  exact lv_iload_n X.1 X.2.1 hd rfl (hl.2.2 _ _ hx (fun z => by cases z)) (kk p e s m args below meth c X H locs ls hl hP hD hS)
theorem c_iconst {a : Int} {v : Int32} (hd : decode cc pc = .ok (.iconst a, 1)) (hq : q = pc + 1) (hv : Int32.ofInt a = v) (kk : cx_w G R y cc nL w0 mc ms Q q L (.int v :: st) ws k n) : cx_w G R y cc nL w0 mc ms Q pc L st ws k n := by
  subst hq
  intro p e s m args below meth c X H locs ls hl hP hD hS
  exact lv_iconst X.1 X.2.1 hd hv (kk p e s m args below meth c X H locs ls hl hP hD hS)
theorem c_bipush {a : Int} {v : Int32} (hd : decode cc pc = .ok (.bipush a, 2)) (hq : q = pc + 2) (hv : (Int8.ofInt a).toInt32 = v) (kk : cx_w G R y cc nL w0 mc ms Q q L (.int v :: st) ws k n) : cx_w G R y cc nL w0 mc ms Q pc L st ws k n := by
  subst hq
  intro p e s m args below meth c X H locs ls hl hP hD hS
  exact lv_bipush X.1 X.2.1 hd hv (kk p e s m args below meth c X H locs ls hl hP hD hS)
theorem c_sipush {a : Int} {v : Int32} (hd : decode cc pc = .ok (.sipush a, 3)) (hq : q = pc + 3) (hv : (Int16.ofInt a).toInt32 = v) (kk : cx_w G R y cc nL w0 mc ms Q q L (.int v :: st) ws k n) : cx_w G R y cc nL w0 mc ms Q pc L st ws k n := by
  subst hq
  intro p e s m args below meth c X H locs ls hl hP hD hS
  exact lv_sipush X.1 X.2.1 hd hv (kk p e s m args below meth c X H locs ls hl hP hD hS)
theorem c_ldc {x : Nat} {v : Int32} (hd : decode cc pc = .ok (.ldc x, 2)) (hq : q = pc + 2) (hv : Cond.constant y.cls x v ∈ px_WA) (kk : cx_w G R y cc nL w0 mc ms Q q L (.int v :: st) ws k n) : cx_w G R y cc nL w0 mc ms Q pc L st ws k n := by
  subst hq
  intro p e s m args below meth c X H locs ls hl hP hD hS
  exact lv_ldc X.1 X.2.1 X.2.2.2.1 (X.2.2.2.2.1 _ hv) hd (kk p e s m args below meth c X H locs ls hl hP hD hS)
theorem c_dup {v : Value} (hd : decode cc pc = .ok (.dup, 1)) (hq : q = pc + 1) (hv : v.category = 1) (kk : cx_w G R y cc nL w0 mc ms Q q L (v :: v :: st) ws k n) : cx_w G R y cc nL w0 mc ms Q pc L (v :: st) ws k n := by
  subst hq
  intro p e s m args below meth c X H locs ls hl hP hD hS
  exact lv_dup X.1 X.2.1 hd hv (kk p e s m args below meth c X H locs ls hl hP hD hS)
theorem c_istore {i : Fin 4} {x : Int32} (L' : List Value) (hd : decode cc pc = .ok (.istore_n i, 1)) (hq : q = pc + 1) (hi : (i : Nat) < nL) (hn : px_nl L i = true) (hL : L.set i (.int x) = L') (kk : cx_w G R y cc nL w0 mc ms Q q L' st ws k n) : cx_w G R y cc nL w0 mc ms Q pc L (.int x :: st) ws k n := by
  subst hq
  subst hL
  intro p e s m args below meth c X H locs ls hl hP hD hS
  exact lv_istore_n X.1 X.2.1 hd rfl (px_L_has hl) hi rfl (fun ls' h' => kk p e s m args below meth c X H locs ls' (px_L_set (ad := cx_id) (v := .int x) hn h') hP hD hS)
theorem c_astore {i : Fin 4} {x : Nat} (L' : List Value) (hd : decode cc pc = .ok (.astore_n i, 1)) (hq : q = pc + 1) (hi : (i : Nat) < nL) (hn : px_nl L i = true) (hL : L.set i (.ref x) = L') (kk : cx_w G R y cc nL w0 mc ms Q q L' st ws k n) : cx_w G R y cc nL w0 mc ms Q pc L (.ref x :: st) ws k n := by
  subst hq
  subst hL
  intro p e s m args below meth c X H locs ls hl hP hD hS
  exact lv_astore_n X.1 X.2.1 hd rfl (px_L_has hl) hi rfl (fun ls' h' => kk p e s m args below meth c X H locs ls' (px_L_set (ad := cx_id) (v := .ref x) hn h') hP hD hS)
theorem c_iinc {i : Nat} {a : Int} {x v : Int32} (L' : List Value) (hd : decode cc pc = .ok (.iinc i a, 3)) (hq : q = pc + 3) (hi : i < nL) (hn : px_nl L i = true) (hx : L[i]? = some (.int x)) (hv : x + Int32.ofInt a = v) (hL : L.set i (.int v) = L') (kk : cx_w G R y cc nL w0 mc ms Q q L' st ws k n) : cx_w G R y cc nL w0 mc ms Q pc L st ws k n := by
  subst hq
  subst hL
  subst hv
  intro p e s m args below meth c X H locs ls hl hP hD hS
  obtain ⟨j, hj⟩ := List.getElem?_of_mem (px_k_mem (ad := cx_id) (q := (i, .int x)).mpr ⟨.int x, hx, (fun z => by cases z), rfl⟩)
  exact lv_iinc X.1 X.2.1 hd (px_L_has hl) hj rfl hi rfl (fun ls' h' => kk p e s m args below meth c X H locs ls' (px_L_set (ad := cx_id) (v := .int (x + Int32.ofInt a)) hn h') hP hD hS)
theorem c_icmpge {a b : Int32} {off : Int} (t : Nat) (hd : decode cc pc = .ok (.if_icmp .ge off, 3)) (hq : q = pc + 3) (ht : (pc : Int) + off = (t : Int)) (kt : b ≤ a → cx_w G R y cc nL w0 mc ms Q t L st ws k n) (kf : ¬ (b ≤ a) → cx_w G R y cc nL w0 mc ms Q q L st ws k n) : cx_w G R y cc nL w0 mc ms Q pc L (.int b :: .int a :: st) ws k n := by
  subst hq
  intro p e s m args below meth c X H locs ls hl hP hD hS
  exact lv_icmp_ge X.1 X.2.1 hd ht (fun h => kt h p e s m args below meth c X H locs ls hl hP hD hS) (fun h => kf h p e s m args below meth c X H locs ls hl hP hD hS)
theorem c_goto {off : Int} (t : Nat) (hd : decode cc pc = .ok (.goto off, 3)) (ht : (pc : Int) + off = (t : Int)) (kk : cx_w G R y cc nL w0 mc ms Q t L st ws k n) : cx_w G R y cc nL w0 mc ms Q pc L st ws k n := by
  intro p e s m args below meth c X H locs ls hl hP hD hS
  exact lv_goto X.1 X.2.1 hd ht (kk p e s m args below meth c X H locs ls hl hP hD hS)
theorem c_get {x ci j a i0 : Nat} {v : Value} {fs : List Value} (hd : decode cc pc = .ok (.getfield x, 3)) (hq : q = pc + 3) (hx : px_fp y.cls x ci j) (he : ws[i0]? = some (a, .inr (ci, fs))) (hv : fs[j]? = some v) (kk : cx_w G R y cc nL w0 mc ms Q q L (v :: st) ws k n) : cx_w G R y cc nL w0 mc ms Q pc L (.ref a :: st) ws k n := by
  subst hq
  obtain ⟨C, T, N, ty0, h1, h2, h3, h4, -, -⟩ := hx
  intro p e s m args below meth c X H locs ls hl hP hD hS
  exact va_get (D := G.2.1) (ci := ci) (C := C) (T := T) (N := N) X.1 X.2.1 X.2.2.2.2.1 h4 X.2.2.2.1 X.2.2.2.2.2.2.2.2.1 hP i0 he h1 j h2 (X.2.2.2.2.1 _ h3) (fun _ h9 => h9) hv hd (kk p e s m args below meth c X H locs ls hl hP hD hS)
/-- a field's kind: final or not, and a value that it takes -/
def cx_f (own : String) (ci j : Nat) (fin : Bool) (v : Value) : Prop := ∀ C T N, px_cl[ci]? = some (C, T, N) → (T j).2.2.2 = fin ∧ (T j).1 = own ∧ ∃ ty, parseFieldDescriptor (T j).2.2.1 = some ty ∧ narrow ty v = v ∧ fits ty v = true
theorem c_put {x ci j a i0 : Nat} {v : Value} {fs : List Value} (ws' : va_W) (fin : Bool) (hd : decode cc pc = .ok (.putfield x, 3)) (hq : q = pc + 3) (hx : px_fp y.cls x ci j) (hf : cx_f y.cls ci j fin v) (he : ws[i0]? = some (a, .inr (ci, fs))) (hl0 : j < fs.length) (hw : ws.set i0 (a, .inr (ci, fs.set j v)) = ws') (kk : cx_w G R y cc nL w0 mc ms Q q L st ws' k n) : cx_w G R y cc nL w0 mc ms Q pc L (v :: .ref a :: st) ws k n := by
  subst hq
  subst hw
  obtain ⟨C, T, N, ty0, h1, h2, h3, h4, h5, h6⟩ := hx
  obtain ⟨f1, f2, ty, f3, f4, f5⟩ := hf C T N h1
  intro p e s m args below meth c X H locs ls hl hP hD hS
  cases fin with
  | false => exact va_put (D := G.2.1) (ci := ci) (v := v) (ty := ty) (C := C) (T := T) (N := N) X.1 X.2.1 X.2.2.2.2.1 h4 ty0 h5 h6 X.2.2.2.1 X.2.2.2.2.2.2.2.2.1 hP hD hS i0 he h1 j h2 (X.2.2.2.2.1 _ h3) (fun _ h9 => h9) f1 f3 f4 f5 hl0 hd (fun H1 locs1 hP1 hD1 hS1 => kk p e s m args below meth c X H1 locs1 ls hl hP1 hD1 hS1)
  | true => exact va_putF (D := G.2.1) (ci := ci) (v := v) (ty := ty) (C := C) (T := T) (N := N) X.1 X.2.1 X.2.2.2.2.1 h4 ty0 h5 h6 X.2.2.2.1 X.2.2.2.2.2.2.2.2.1 hP hD hS i0 he h1 j h2 (X.2.2.2.2.1 _ h3) (fun _ h9 => h9) f1 X.2.2.2.2.2.2.2.1 f2 f3 f4 f5 hl0 hd (fun H1 locs1 hP1 hD1 hS1 => kk p e s m args below meth c X H1 locs1 ls hl hP1 hD1 hS1)
theorem c_new {x ci N : Nat} {C : String} {T : u_T} {fs : List Value} (ty0 : Nat → FieldType) (ws' : Nat → va_W) (hd : decode cc pc = .ok (.new x, 3)) (hq : q = pc + 3) (hc : px_cl[ci]? = some (C, T, N)) (hin : ∀ w ∈ u_ws C T N, w ∈ px_WA) (hty : ∀ k, k < N → parseFieldDescriptor (T k).2.2.1 = some (ty0 k)) (h1 : Cond.classLink y.cls x C ∈ px_WA) (h2 : Cond.instantiable C N ∈ px_WA) (h3 : Cond.initialized C ∈ px_WA) (hfs : ∀ j, j < N → defaultValue (ty0 j) = vp_V fs j) (hk : k + 1 ≤ R.cells) (hn : n + N ≤ R.slots) (hw : ∀ a, ws ++ [(a, .inr (ci, fs))] = ws' a)
    (kk : ∀ a, cx_w G R y cc nL w0 mc ms Q q L (.ref a :: st) (ws' a) (k + 1) (n + N)) : cx_w G R y cc nL w0 mc ms Q pc L st ws k n := by
  subst hq
  intro p e s m args below meth c X H locs ls hl hP hD hS
  refine va_new (ci := ci) (fs := fs) (C := C) (T := T) (N := N) X.1 X.2.1 X.2.2.2.2.1 hin ty0 hty X.2.2.2.1 (X.2.2.2.2.1 _ h1) (X.2.2.2.2.1 _ h2) (X.2.2.2.2.1 _ h3) X.2.2.2.2.2.2.2.2.1 hP hD hS cx_A_new hc hfs hk hn hd (fun a H1 hP1 hD1 hS1 => ?_)
  rw [hw a] at hP1 hD1
  exact kk a p e s m args below meth c X H1 locs ls hl hP1 hD1 hS1
theorem cx_arr {s : State} {cA : ClassId} {D : va_G} {aC : Nat → ClassId} (hK : va_K D px_cl (px_ty aC) s) (hK2 : va_K D px_cl (px_ty aC ++ [(cA, .int)]) s) : cA = aC 0 := by
  have h1 : s.vm.findClass ("[" ++ FieldType.int.toString) = some (aC 0) := (hK.2 0 (aC 0, .int) rfl).2
  have h2 : s.vm.findClass ("[" ++ FieldType.int.toString) = some cA := (hK2.2 3 (cA, .int) rfl).2
  exact Option.some.inj (h2.symm.trans h1)
theorem cx_arrR {s : State} {cA : ClassId} {D : va_G} {aC : Nat → ClassId} (hK : va_K D px_cl (px_ty aC) s) (hK2 : va_K D px_cl (px_ty aC ++ [(cA, .object "ParityVolume$Row")]) s) : cA = aC 1 := by
  obtain ⟨_, _, _, _, _, h1⟩ := (hK.2 1 (aC 1, .object "ParityVolume$Row") rfl).2
  obtain ⟨_, _, _, _, _, h2⟩ := (hK2.2 3 (cA, .object "ParityVolume$Row") rfl).2
  exact Option.some.inj (h2.symm.trans h1)
theorem px_arrI : Cond.arrayClass .int ∈ px_WA := List.mem_filter.mpr ⟨List.mem_append_right _ (by decide +kernel), rfl⟩
theorem c_newI {v : Int32} {N : Nat} (ws' : Nat → va_W) (hd : decode cc pc = .ok (.newarray .int, 2)) (hq : q = pc + 2) (hv : ¬ v < 0) (hN : v.toNatClampNeg = N) (hb : N * 4 ≤ 536870912) (hk : k + 1 ≤ R.cells) (hn : n + N ≤ R.slots) (hw : ∀ a, ws ++ [(a, .inl (G.2.2 0, N, .inl (fun _ => 0)))] = ws' a)
    (kk : ∀ a, cx_w G R y cc nL w0 mc ms Q q L (.ref a :: st) (ws' a) (k + 1) (n + N)) : cx_w G R y cc nL w0 mc ms Q pc L (.int v :: st) ws k n := by
  subst hq
  intro p e s m args below meth c X H locs ls hl hP hD hS
  refine va_newa (atype := .int) (ty := .int) (a0 := (N, .inl (fun _ => 0))) X.1 X.2.1 (X.2.2.2.2.1 _ px_arrI) rfl X.2.2.2.2.2.2.2.2.1 hP hD hS cx_A_new (fun _ => rfl) hv hN hb hk hn hd (fun a cA H1 hK1 hP1 hD1 hS1 => ?_)
  have e0 := cx_arr X.2.2.2.2.2.2.2.2.1 hK1
  subst e0
  rw [hw a] at hP1 hD1
  exact kk a p e s m args below meth c X H1 locs ls hl hP1 hD1 hS1
theorem c_newR {x N : Nat} {v : Int32} (ws' : Nat → va_W) (hd : decode cc pc = .ok (.anewarray x, 3)) (hq : q = pc + 3) (h1 : Cond.classLink y.cls x "ParityVolume$Row" ∈ px_WA) (hv : ¬ v < 0) (hN : v.toNatClampNeg = N) (hb : N * 4 ≤ 536870912) (hk : k + 1 ≤ R.cells) (hn : n + N ≤ R.slots) (hw : ∀ a, ws ++ [(a, .inl (G.2.2 1, N, .inr (.inr (.inr (.inr (fun _ => none))))))] = ws' a)
    (kk : ∀ a, cx_w G R y cc nL w0 mc ms Q q L (.ref a :: st) (ws' a) (k + 1) (n + N)) : cx_w G R y cc nL w0 mc ms Q pc L (.int v :: st) ws k n := by
  subst hq
  intro p e s m args below meth c X H locs ls hl hP hD hS
  refine va_newq X.1 X.2.1 X.2.2.2.1 (X.2.2.2.2.1 _ h1) X.2.2.2.2.2.2.2.2.2.1 X.2.2.2.2.2.2.2.2.1 hP hD hS cx_A_new hv hN hb hk hn hd (fun a cA H1 hK1 hP1 hD1 hS1 => ?_)
  have e0 := cx_arrR X.2.2.2.2.2.2.2.2.1 hK1
  subst e0
  rw [hw a] at hP1 hD1
  exact kk a p e s m args below meth c X H1 locs ls hl hP1 hD1 hS1
theorem c_iastore {a i0 N : Nat} {i v : Int32} {f : Nat → Int32} (ws' : va_W) (hd : decode cc pc = .ok (.iastore, 1)) (hq : q = pc + 1) (he : ws[i0]? = some (a, .inl (G.2.2 0, N, .inl f))) (hi : vp_in i N) (hw : ws.set i0 (a, .inl (G.2.2 0, N, .inl (upd f i.toNatClampNeg v))) = ws') (kk : cx_w G R y cc nL w0 mc ms Q q L st ws' k n) : cx_w G R y cc nL w0 mc ms Q pc L (.int v :: .int i :: .ref a :: st) ws k n := by
  subst hq
  subst hw
  intro p e s m args below meth c X H locs ls hl hP hD hS
  exact va_iast X.1 X.2.1 X.2.2.2.2.2.2.2.2.1 hP hD hS i0 0 he rfl hi hd (fun H1 locs1 hP1 hD1 hS1 => kk p e s m args below meth c X H1 locs1 ls hl hP1 hD1 hS1)
theorem c_aastore {a v i0 i1 N : Nat} {i : Int32} {vs : List Value} {f : Nat → Option Nat} (ws' : va_W) (hd : decode cc pc = .ok (.aastore, 1)) (hq : q = pc + 1) (he : ws[i0]? = some (a, .inl (G.2.2 1, N, .inr (.inr (.inr (.inr f)))))) (hv : ws[i1]? = some (v, .inr (1, vs))) (hi : vp_in i N) (hw : ws.set i0 (a, .inl (G.2.2 1, N, .inr (.inr (.inr (.inr (va_up f i.toNatClampNeg (some v))))))) = ws') (kk : cx_w G R y cc nL w0 mc ms Q q L st ws' k n) : cx_w G R y cc nL w0 mc ms Q pc L (.ref v :: .int i :: .ref a :: st) ws k n := by
  subst hq
  subst hw
  intro p e s m args below meth c X H locs ls hl hP hD hS
  exact va_astq (r := ("ParityVolume$Row", pT_Row, 2)) X.1 X.2.1 X.2.2.2.2.2.2.2.2.1 hP hD hS i0 1 i1 1 he rfl hv rfl hi hd (fun H1 locs1 hP1 hD1 hS1 => kk p e s m args below meth c X H1 locs1 ls hl hP1 hD1 hS1)
theorem px_oi1 : Cond.instanceMethod Lib.objectInit ∈ px_WA := List.mem_filter.mpr ⟨List.mem_append_right _ (by decide +kernel), rfl⟩
theorem px_oi2 : Cond.code Lib.objectInit ⟨#[0xb1]⟩ 1 none ∈ px_WA := List.mem_filter.mpr ⟨List.mem_append_right _ (by decide +kernel), rfl⟩
theorem c_obj {x a : Nat} (hd : decode cc pc = .ok (.invokespecial x, 3)) (hq : q = pc + 3) (h1 : Cond.methodLink y.cls x Lib.objectInit ∈ px_WA) (hf : 1 ≤ R.frames) (hlo : (st.map fun v => v.category).sum + 12 ≤ R.locals) (kk : cx_w G R y cc nL w0 mc ms Q q L st ws k n) : cx_w G R y cc nL w0 mc ms Q pc L (.ref a :: st) ws k n := by
  subst hq
  intro p e s m args below meth c X H locs ls hl hP hD hS
  refine W.objInit X.1 X.2.1 X.2.2.2.1 (X.2.2.2.2.1 _ h1) (X.2.2.2.2.1 _ px_oi1) (X.2.2.2.2.1 _ px_oi2) rfl (by rw [X.2.2.1]; exact hl.1) rfl hd hf (by show 2 * 0 + _ + 12 ≤ _; omega) ?_
  exact W.eq (g2 := F0 m (pc + 3) ls st) rfl (kk p e s m args below meth c X H locs ls hl hP hD hS)
theorem c_return (hd : decode cc pc = .ok (.return_, 1)) (hk : k ≤ mc) (hn : n ≤ ms) (h : Q ws) : cx_w G R y cc nL w0 mc ms Q pc L [] ws k n := by
  intro p e s m args below meth c X H locs ls hl hP hD hS
  have hlk := X.2.2.2.2.2.2.1
  refine W.widen (k := mc) (n := ms) hk hn ?_
  exact W.vret X.1 X.2.1 X.2.2.2.2.2.1 (fun t ht hW => ⟨⟨ws, rfl, h, by rw [ht]; exact hP, hD⟩, hS.F ht⟩) hS.2.2 hd hlk
end
