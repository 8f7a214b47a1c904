/-! The judgement px_w: method M at pc, locals L, stack st, state S, comes to an end with Q. A row an instruction. -/
def px_rm (d : Nat) : Room := { frames := d, cells := 0, slots := 0, locals := 38 * d }
def px_ty (aC : Nat → ClassId) : List (ClassId × FieldType) := [(aC 0, .int), (aC 1, .object "ParityVolume$Row"), (aC 2, .array .int)]
def px_T (ad : Nat → Nat) (A : Nat → Prop) (U : State) (H : Heap) : Prop := ∀ (t : Nat) (e : List Int32 × String × String), px_tb[t]? = some e → va_T .int (ad (1000 + t)) e.1.length (fun j => .int (e.1.getD j 0)) A U H ∧ va_Z e.2.1 e.2.2 "[I" (.ref (ad (1000 + t))) A U H
theorem px_T.moved {ad : Nat → Nat} {A : Nat → Prop} {u U : State} {H : Heap} (hvm : u.vm.Alike U.vm) (h : px_T ad A u H) : px_T ad A U H := fun t e he => ⟨(h t e he).1.moved hvm, (h t e he).2.moved hvm⟩
theorem px_T.kept {ad : Nat → Nat} {A : Nat → Prop} {U : State} {H H1 : Heap} (h : px_T ad A U H) (hq : ∀ a : Nat, a < H.size → ¬ A a → H1[a]? = H[a]?) : px_T ad A U H1 := fun t e he => ⟨(h t e he).1.kept hq, (h t e he).2.kept hq⟩
theorem px_T.narrow {ad : Nat → Nat} {A B : Nat → Prop} {U : State} {H : Heap} (h : px_T ad A U H) (hAB : ∀ q, B q → A q) : px_T ad B U H := fun t e he => ⟨(h t e he).1.narrow hAB, (h t e he).2.narrow hAB⟩
def px_N (U : State) : Prop := ∀ q ∈ px_NW, va_Nw (.methodLinkNest q.1 q.2.1 q.2.2.1 q.2.2.2) U
theorem px_N.warm {s U : State} (hW : s.WarmedH U.vm) (h : px_N s) : px_N U := fun q hq => va_Nw.warmM hW (h q hq)
theorem px_N.same {u U : State} (he : u.vm = U.vm) (h : px_N u) : px_N U := fun q hq => va_Nw.same rfl he (h q hq)
def px_X (G : px_G) (Z : List px_C) (M : Nat) (p : Program) (s : State) (m : MethodId) (args : Array Value) (meth : Method) (c : Code) : Prop :=
  p.tables.exec = Jvm.exec ∧ c.code = px_mb M ∧ c.maxLocals = px_ml M ∧ s.vm.findClass (px_my M).cls = some m.cls ∧ (∀ w ∈ px_WA, w.before args s = true) ∧ meth.sig.returnType = px_mr M ∧ meth.locks = false ∧ va_K G.2.1 px_cl (px_ty G.2.2.1) s ∧ px_J G.2.2.2 Z ∧ px_T G.2.2.2 (px_A G.2.2.2 Z s.heap.size) s s.heap ∧ px_N s
def px_Q (G : px_G) (Z : List px_C) (Q : Option Value → px_S → Prop) : Array Value → State → Outcome → State → Prop := fun _ st oc t => (∃ (r : Option Value) (S' : px_S), oc = .returned (r.map (px_v G.2.2.2)) ∧ Q r S' ∧ va_P G.2.1 px_cl (px_W G.2.2.2 G.2.2.1 Z S') t.heap) ∧ va_F (px_A G.2.2.2 Z st.heap.size) st t
def px_w (G : px_G) (Z : List px_C) (d M pc : Nat) (L st : List Value) (S : px_S) (Q : Option Value → px_S → Prop) : Prop :=
  ∀ (p : Program) (e : Env) (s : State) (m : MethodId) (args : Array Value) (below : List Frame) (meth : Method) (c : Code), px_X G Z M p s m args meth c →
    ∀ (H : Heap) (locs : List Loc) (ls : Array Slot), px_L G.2.2.2 ls (px_ml M) L → va_P G.2.1 px_cl (px_W G.2.2.2 G.2.2.1 Z S) H → va_S (px_A G.2.2.2 Z s.heap.size) s.heap H locs →
      W p G.1 e (px_rm d) s m args below meth c H locs 0 0 (MQ below (px_Q G Z Q) args s 0 0 (px_A G.2.2.2 Z s.heap.size)) (F0 m pc ls (st.map (px_v G.2.2.2)))
def px_B (G : px_G) (Z : List px_C) (S : px_S) (sz : Nat) (U : State) : Prop := U.heap.size = sz ∧ va_P G.2.1 px_cl (px_W G.2.2.2 G.2.2.1 Z S) U.heap ∧ va_K G.2.1 px_cl (px_ty G.2.2.1) U ∧ px_J G.2.2.2 Z ∧ px_T G.2.2.2 (px_A G.2.2.2 Z sz) U U.heap ∧ px_N U
def px_ws (M : Nat) : List Cond := .code (px_my M) (px_mb M) (px_ml M) (px_mr M) :: px_WA
/-- a static method, or the receiver is an object of the method's class -/
def px_rc (Z : List px_C) (M : Nat) (as : List Value) : Prop := px_ms M = true ∨ ∃ (k : Nat) (as' : List Value) (ci : Nat) (fs : List (Option Nat)) (q : vw_C), as = .ref k :: as' ∧ Z[k]? = some (.inr (.inr (ci, fs))) ∧ px_cl[ci]? = some q ∧ q.1 = (px_my M).cls
def px_M (G : px_G) (Z : List px_C) (d M : Nat) (as : List Value) (S : px_S) (Q : Option Value → px_S → Prop) : Prop :=
  px_rc Z M as ∧ ∀ sz, Met G.1 (px_my M) (px_ws M) (px_rm d) (va_Pc (as.map (px_v G.2.2.2)) (px_B G Z S sz)) (px_Q G Z Q) 0 0 (px_A G.2.2.2 Z sz)
theorem px_A_mono {ad : Nat → Nat} {Z : List px_C} {a b : Nat} (h : a ≤ b) : ∀ q, px_A ad Z b q → px_A ad Z a q := fun q hq => hq.elim Or.inl (fun z => Or.inr (Nat.le_trans h z))
section
variable {G : px_G} {Z : List px_C} {d M pc q : Nat} {L st : List Value} {S : px_S} {Q : Option Value → px_S → Prop}
theorem w_iconst {n : Int} {v : Int32} (hf : px_fe M pc = some (.iconst n, q)) (hq : q = pc + 1) (hv : Int32.ofInt n = v) (k : px_w G Z d M q L (.int v :: st) S Q) : px_w G Z d M pc L st S Q := by
  have hd := px_d hf hq
  subst hq
  intro p e s m args below meth c X H locs ls hl hP hS
  exact lv_iconst X.1 X.2.1 hd hv (k p e s m args below meth c X H locs ls hl hP hS)
theorem w_bipush {n : Int} {v : Int32} (hf : px_fe M pc = some (.bipush n, q)) (hq : q = pc + 2) (hv : (Int8.ofInt n).toInt32 = v) (k : px_w G Z d M q L (.int v :: st) S Q) : px_w G Z d M pc L st S Q := by
  have hd := px_d hf hq
  subst hq
  intro p e s m args below meth c X H locs ls hl hP hS
  exact lv_bipush X.1 X.2.1 hd hv (k p e s m args below meth c X H locs ls hl hP hS)
theorem w_sipush {n : Int} {v : Int32} (hf : px_fe M pc = some (.sipush n, q)) (hq : q = pc + 3) (hv : (Int16.ofInt n).toInt32 = v) (k : px_w G Z d M q L (.int v :: st) S Q) : px_w G Z d M pc L st S Q := by
  have hd := px_d hf hq
  subst hq
  intro p e s m args below meth c X H locs ls hl hP hS
  exact lv_sipush X.1 X.2.1 hd hv (k p e s m args below meth c X H locs ls hl hP hS)
theorem w_ldc {x : Nat} {v : Int32} (hf : px_fe M pc = some (.ldc x, q)) (hq : q = pc + 2) (hv : Cond.constant (px_my M).cls x v ∈ px_WA) (k : px_w G Z d M q L (.int v :: st) S Q) : px_w G Z d M pc L st S Q := by
  have hd := px_d hf hq
  subst hq
  intro p e s m args below meth c X H locs ls hl hP hS
  exact lv_ldc X.1 X.2.1 X.2.2.2.1 (X.2.2.2.2.1 _ hv) hd (k p e s m args below meth c X H locs ls hl hP hS)
theorem w_ldc2 {x : Nat} {v : Int64} (hf : px_fe M pc = some (.ldc2_w x, q)) (hq : q = pc + 3) (hv : Cond.constantLong (px_my M).cls x v ∈ px_WA) (k : px_w G Z d M q L (.long v :: st) S Q) : px_w G Z d M pc L st S Q := by
  have hd := px_d hf hq
  subst hq
  intro p e s m args below meth c X H locs ls hl hP hS
  exact lv_ldc2 X.1 X.2.1 X.2.2.2.1 (X.2.2.2.2.1 _ hv) hd (k p e s m args below meth c X H locs ls hl hP hS)
theorem w_iload_n {i : Fin 4} {x : Int32} (hf : px_fe M pc = some (.iload_n i, q)) (hq : q = pc + 1) (hx : L[(i : Nat)]? = some (.int x)) (k : px_w G Z d M q L (.int x :: st) S Q) : px_w G Z d M pc L st S Q := by
  have hd := px_d hf hq
  subst hq
  intro p e s m args below meth c X H locs ls hl hP hS
  exact lv_iload_n X.1 X.2.1 hd rfl (hl.2.2 _ _ hx (fun z => by cases z)) (k p e s m args below meth c X H locs ls hl hP hS)
theorem w_iload {i : Nat} {x : Int32} (hf : px_fe M pc = some (.iload i, q)) (hq : q = pc + 2) (hx : L[i]? = some (.int x)) (k : px_w G Z d M q L (.int x :: st) S Q) : px_w G Z d M pc L st S Q := by
  have hd := px_d hf hq
  subst hq
  intro p e s m args below meth c X H locs ls hl hP hS
  exact lv_iload X.1 X.2.1 hd (hl.2.2 _ _ hx (fun z => by cases z)) (k p e s m args below meth c X H locs ls hl hP hS)
theorem w_lload_n {i : Fin 4} {x : Int64} (hf : px_fe M pc = some (.lload_n i, q)) (hq : q = pc + 1) (hx : L[(i : Nat)]? = some (.long x)) (k : px_w G Z d M q L (.long x :: st) S Q) : px_w G Z d M pc L st S Q := by
  have hd := px_d hf hq
  subst hq
  intro p e s m args below meth c X H locs ls hl hP hS
  exact lv_lload_n X.1 X.2.1 hd rfl (hl.2.2 _ _ hx (fun z => by cases z)) (k p e s m args below meth c X H locs ls hl hP hS)
theorem w_aload_n {i : Fin 4} {x : Nat} (hf : px_fe M pc = some (.aload_n i, q)) (hq : q = pc + 1) (hx : L[(i : Nat)]? = some (.ref x)) (k : px_w G Z d M q L (.ref x :: st) S Q) : px_w G Z d M pc L st S Q := by
  have hd := px_d hf hq
  subst hq
  intro p e s m args below meth c X H locs ls hl hP hS
  exact lv_aload_n X.1 X.2.1 hd rfl (hl.2.2 _ _ hx (fun z => by cases z)) (k p e s m args below meth c X H locs ls hl hP hS)
theorem w_aload {i x : Nat} (hf : px_fe M pc = some (.aload i, q)) (hq : q = pc + 2) (hx : L[i]? = some (.ref x)) (k : px_w G Z d M q L (.ref x :: st) S Q) : px_w G Z d M pc L st S Q := by
  have hd := px_d hf hq
  subst hq
  intro p e s m args below meth c X H locs ls hl hP hS
  exact lv_aload X.1 X.2.1 hd (hl.2.2 _ _ hx (fun z => by cases z)) (k p e s m args below meth c X H locs ls hl hP hS)
theorem w_istore_n {i : Fin 4} {x : Int32} (L' : List Value) (hf : px_fe M pc = some (.istore_n i, q)) (hq : q = pc + 1) (hi : (i : Nat) < px_ml M) (hn : px_nl L i = true) (hL : L.set i (.int x) = L') (k : px_w G Z d M q L' st S Q) : px_w G Z d M pc L (.int x :: st) S Q := by
  have hd := px_d hf hq
  subst hq
  subst hL
  intro p e s m args below meth c X H locs ls hl hP hS
  exact lv_istore_n X.1 X.2.1 hd rfl (px_L_has hl) hi rfl (fun ls' h' => k p e s m args below meth c X H locs ls' (px_L_set (v := .int x) hn h') hP hS)
theorem w_istore {i : Nat} {x : Int32} (L' : List Value) (hf : px_fe M pc = some (.istore i, q)) (hq : q = pc + 2) (hi : i < px_ml M) (hn : px_nl L i = true) (hL : L.set i (.int x) = L') (k : px_w G Z d M q L' st S Q) : px_w G Z d M pc L (.int x :: st) S Q := by
  have hd := px_d hf hq
  subst hq
  subst hL
  intro p e s m args below meth c X H locs ls hl hP hS
  exact lv_istore X.1 X.2.1 hd (px_L_has hl) hi rfl (fun ls' h' => k p e s m args below meth c X H locs ls' (px_L_set (v := .int x) hn h') hP hS)
theorem w_iinc {i : Nat} {n : Int} {x v : Int32} (L' : List Value) (hf : px_fe M pc = some (.iinc i n, q)) (hq : q = pc + 3) (hi : i < px_ml M) (hn : px_nl L i = true) (hx : L[i]? = some (.int x)) (hv : Int32.ofInt n = v) (hL : L.set i (.int (x + v)) = L') (k : px_w G Z d M q L' st S Q) : px_w G Z d M pc L st S Q := by
  have hd := px_d hf hq
  subst hq
  subst hL
  subst hv
  intro p e s m args below meth c X H locs ls hl hP hS
  obtain ⟨j, hj⟩ := List.getElem?_of_mem (px_k_mem (ad := G.2.2.2) (q := (i, .int x)).mpr ⟨.int x, hx, (fun z => by cases z), rfl⟩)
  exact lv_iinc X.1 X.2.1 hd (px_L_has hl) hj rfl hi rfl (fun ls' h' => k p e s m args below meth c X H locs ls' (px_L_set (v := .int (x + Int32.ofInt n)) hn h') hP hS)
/-- fewer locals are known -/
theorem w_sub (L' : List Value) (hs : ∀ (i : Nat) (v : Value), L'[i]? = some v → v ≠ .null → L[i]? = some v) (k : px_w G Z d M pc L' st S Q) : px_w G Z d M pc L st S Q := by
  intro p e s m args below meth c X H locs ls hl hP hS
  exact k p e s m args below meth c X H locs ls (px_L_sub hl hs) hP hS
theorem w_null (i : Nat) (L' : List Value) (hL : L.set i .null = L') (k : px_w G Z d M pc L' st S Q) : px_w G Z d M pc L st S Q := by
  refine w_sub L' (fun j v hj hv => ?_) k
  subst hL
  by_cases h : j = i
  · subst h
    by_cases hl : j < L.length
    · rw [List.getElem?_set_self hl] at hj
      cases hj
      exact absurd rfl hv
    · rw [List.getElem?_eq_none (by rw [List.length_set]; omega)] at hj
      cases hj
  · rw [List.getElem?_set_ne (Ne.symm h)] at hj
    exact hj
theorem w_iadd {x y : Int32} (hf : px_fe M pc = some (.iadd, q)) (hq : q = pc + 1) (k : px_w G Z d M q L (.int (x + y) :: st) S Q) : px_w G Z d M pc L (.int y :: .int x :: st) S Q := by
  have hd := px_d hf hq
  subst hq
  intro p e s m args below meth c X H locs ls hl hP hS
  exact lv_iadd X.1 X.2.1 hd (k p e s m args below meth c X H locs ls hl hP hS)
theorem w_isub {x y : Int32} (hf : px_fe M pc = some (.isub, q)) (hq : q = pc + 1) (k : px_w G Z d M q L (.int (x - y) :: st) S Q) : px_w G Z d M pc L (.int y :: .int x :: st) S Q := by
  have hd := px_d hf hq
  subst hq
  intro p e s m args below meth c X H locs ls hl hP hS
  exact lv_isub X.1 X.2.1 hd (k p e s m args below meth c X H locs ls hl hP hS)
theorem w_imul {x y : Int32} (hf : px_fe M pc = some (.imul, q)) (hq : q = pc + 1) (k : px_w G Z d M q L (.int (x * y) :: st) S Q) : px_w G Z d M pc L (.int y :: .int x :: st) S Q := by
  have hd := px_d hf hq
  subst hq
  intro p e s m args below meth c X H locs ls hl hP hS
  exact lv_imul X.1 X.2.1 hd (k p e s m args below meth c X H locs ls hl hP hS)
theorem w_iand {x y : Int32} (hf : px_fe M pc = some (.iand, q)) (hq : q = pc + 1) (k : px_w G Z d M q L (.int (x &&& y) :: st) S Q) : px_w G Z d M pc L (.int y :: .int x :: st) S Q := by
  have hd := px_d hf hq
  subst hq
  intro p e s m args below meth c X H locs ls hl hP hS
  exact lv_iand X.1 X.2.1 hd (k p e s m args below meth c X H locs ls hl hP hS)
theorem w_ior {x y : Int32} (hf : px_fe M pc = some (.ior, q)) (hq : q = pc + 1) (k : px_w G Z d M q L (.int (x ||| y) :: st) S Q) : px_w G Z d M pc L (.int y :: .int x :: st) S Q := by
  have hd := px_d hf hq
  subst hq
  intro p e s m args below meth c X H locs ls hl hP hS
  exact lv_ior X.1 X.2.1 hd (k p e s m args below meth c X H locs ls hl hP hS)
theorem w_ixor {x y : Int32} (hf : px_fe M pc = some (.ixor, q)) (hq : q = pc + 1) (k : px_w G Z d M q L (.int (x ^^^ y) :: st) S Q) : px_w G Z d M pc L (.int y :: .int x :: st) S Q := by
  have hd := px_d hf hq
  subst hq
  intro p e s m args below meth c X H locs ls hl hP hS
  exact lv_ixor X.1 X.2.1 hd (k p e s m args below meth c X H locs ls hl hP hS)
theorem w_ishl {x y : Int32} (hf : px_fe M pc = some (.ishl, q)) (hq : q = pc + 1) (k : px_w G Z d M q L (.int (px_shl x y) :: st) S Q) : px_w G Z d M pc L (.int y :: .int x :: st) S Q := by
  have hd := px_d hf hq
  subst hq
  intro p e s m args below meth c X H locs ls hl hP hS
  exact lv_ishl X.1 X.2.1 hd (k p e s m args below meth c X H locs ls hl hP hS)
theorem w_ishr {x y : Int32} (hf : px_fe M pc = some (.ishr, q)) (hq : q = pc + 1) (k : px_w G Z d M q L (.int (px_sar x y) :: st) S Q) : px_w G Z d M pc L (.int y :: .int x :: st) S Q := by
  have hd := px_d hf hq
  subst hq
  intro p e s m args below meth c X H locs ls hl hP hS
  exact lv_ishr X.1 X.2.1 hd (k p e s m args below meth c X H locs ls hl hP hS)
theorem w_iushr {x y : Int32} (hf : px_fe M pc = some (.iushr, q)) (hq : q = pc + 1) (k : px_w G Z d M q L (.int (px_ushr x y) :: st) S Q) : px_w G Z d M pc L (.int y :: .int x :: st) S Q := by
  have hd := px_d hf hq
  subst hq
  intro p e s m args below meth c X H locs ls hl hP hS
  exact lv_iushr X.1 X.2.1 hd rfl (k p e s m args below meth c X H locs ls hl hP hS)
theorem w_idiv {x y : Int32} (hf : px_fe M pc = some (.idiv, q)) (hq : q = pc + 1) (hy : ¬ y = 0) (k : px_w G Z d M q L (.int (x / y) :: st) S Q) : px_w G Z d M pc L (.int y :: .int x :: st) S Q := by
  have hd := px_d hf hq
  subst hq
  intro p e s m args below meth c X H locs ls hl hP hS
  exact lv_idiv X.1 X.2.1 hd hy (k p e s m args below meth c X H locs ls hl hP hS)
theorem w_irem {x y : Int32} (hf : px_fe M pc = some (.irem, q)) (hq : q = pc + 1) (hy : ¬ y = 0) (k : px_w G Z d M q L (.int (px_rem x y) :: st) S Q) : px_w G Z d M pc L (.int y :: .int x :: st) S Q := by
  have hd := px_d hf hq
  subst hq
  intro p e s m args below meth c X H locs ls hl hP hS
  exact lv_irem X.1 X.2.1 hd hy (k p e s m args below meth c X H locs ls hl hP hS)
theorem w_l2i {x : Int64} (hf : px_fe M pc = some (.l2i, q)) (hq : q = pc + 1) (k : px_w G Z d M q L (.int x.toInt32 :: st) S Q) : px_w G Z d M pc L (.long x :: st) S Q := by
  have hd := px_d hf hq
  subst hq
  intro p e s m args below meth c X H locs ls hl hP hS
  exact lv_l2i X.1 X.2.1 hd rfl (k p e s m args below meth c X H locs ls hl hP hS)
theorem w_lushr {x : Int64} {y : Int32} (hf : px_fe M pc = some (.lushr, q)) (hq : q = pc + 1) (k : px_w G Z d M q L (.long (px_lushr x y) :: st) S Q) : px_w G Z d M pc L (.int y :: .long x :: st) S Q := by
  have hd := px_d hf hq
  subst hq
  intro p e s m args below meth c X H locs ls hl hP hS
  exact lv_lushr X.1 X.2.1 hd rfl (k p e s m args below meth c X H locs ls hl hP hS)
theorem w_lshr {x : Int64} {y : Int32} (hf : px_fe M pc = some (.lshr, q)) (hq : q = pc + 1) (k : px_w G Z d M q L (.long (px_lsar x y) :: st) S Q) : px_w G Z d M pc L (.int y :: .long x :: st) S Q := by
  have hd := px_d hf hq
  subst hq
  intro p e s m args below meth c X H locs ls hl hP hS
  exact lv_lshr X.1 X.2.1 hd rfl (k p e s m args below meth c X H locs ls hl hP hS)
theorem w_land {x y : Int64} (hf : px_fe M pc = some (.land, q)) (hq : q = pc + 1) (k : px_w G Z d M q L (.long (x &&& y) :: st) S Q) : px_w G Z d M pc L (.long y :: .long x :: st) S Q := by
  have hd := px_d hf hq
  subst hq
  intro p e s m args below meth c X H locs ls hl hP hS
  exact lv_land X.1 X.2.1 hd (k p e s m args below meth c X H locs ls hl hP hS)
theorem w_dup {v : Value} (hf : px_fe M pc = some (.dup, q)) (hq : q = pc + 1) (hv : v.category = 1) (k : px_w G Z d M q L (v :: v :: st) S Q) : px_w G Z d M pc L (v :: st) S Q := by
  have hd := px_d hf hq
  subst hq
  intro p e s m args below meth c X H locs ls hl hP hS
  exact lv_dup X.1 X.2.1 hd ((px_v_cat _ _).trans hv) (k p e s m args below meth c X H locs ls hl hP hS)
theorem w_pop {v : Value} (hf : px_fe M pc = some (.pop, q)) (hq : q = pc + 1) (hv : v.category = 1) (k : px_w G Z d M q L (st) S Q) : px_w G Z d M pc L (v :: st) S Q := by
  have hd := px_d hf hq
  subst hq
  intro p e s m args below meth c X H locs ls hl hP hS
  exact lv_pop X.1 X.2.1 hd ((px_v_cat _ _).trans hv) (k p e s m args below meth c X H locs ls hl hP hS)
theorem w_dup2 {v u : Value} (hf : px_fe M pc = some (.dup2, q)) (hq : q = pc + 1) (hv : v.category = 1) (hu : u.category = 1) (k : px_w G Z d M q L (v :: u :: v :: u :: st) S Q) : px_w G Z d M pc L (v :: u :: st) S Q := by
  have hd := px_d hf hq
  subst hq
  intro p e s m args below meth c X H locs ls hl hP hS
  exact lv_dup2_11 X.1 X.2.1 hd ((px_v_cat _ _).trans hv) ((px_v_cat _ _).trans hu) (k p e s m args below meth c X H locs ls hl hP hS)
theorem w_ifeq {x : Int32} {off : Int} (t : Nat) (hf : px_fe M pc = some (.ifCond .eq off, q)) (hq : q = pc + 3) (ht : (pc : Int) + off = (t : Int)) (kt : x = 0 → px_w G Z d M t L st S Q) (kf : ¬ (x = 0) → px_w G Z d M q L st S Q) : px_w G Z d M pc L (.int x :: st) S Q := by
  have hd := px_d hf hq
  subst hq
  intro p e s m args below meth c X H locs ls hl hP hS
  exact lv_if_eq X.1 X.2.1 hd ht (fun h => kt h p e s m args below meth c X H locs ls hl hP hS) (fun h => kf h p e s m args below meth c X H locs ls hl hP hS)
theorem w_if_icmpeq {x y : Int32} {off : Int} (t : Nat) (hf : px_fe M pc = some (.if_icmp .eq off, q)) (hq : q = pc + 3) (ht : (pc : Int) + off = (t : Int)) (kt : x = y → px_w G Z d M t L st S Q) (kf : ¬ (x = y) → px_w G Z d M q L st S Q) : px_w G Z d M pc L (.int y :: .int x :: st) S Q := by
  have hd := px_d hf hq
  subst hq
  intro p e s m args below meth c X H locs ls hl hP hS
  exact lv_icmp_eq X.1 X.2.1 hd ht (fun h => kt h p e s m args below meth c X H locs ls hl hP hS) (fun h => kf h p e s m args below meth c X H locs ls hl hP hS)
theorem w_ifne {x : Int32} {off : Int} (t : Nat) (hf : px_fe M pc = some (.ifCond .ne off, q)) (hq : q = pc + 3) (ht : (pc : Int) + off = (t : Int)) (kt : ¬ x = 0 → px_w G Z d M t L st S Q) (kf : x = 0 → px_w G Z d M q L st S Q) : px_w G Z d M pc L (.int x :: st) S Q := by
  have hd := px_d hf hq
  subst hq
  intro p e s m args below meth c X H locs ls hl hP hS
  exact lv_if_ne X.1 X.2.1 hd ht (fun h => kt h p e s m args below meth c X H locs ls hl hP hS) (fun h => kf h p e s m args below meth c X H locs ls hl hP hS)
theorem w_if_icmpne {x y : Int32} {off : Int} (t : Nat) (hf : px_fe M pc = some (.if_icmp .ne off, q)) (hq : q = pc + 3) (ht : (pc : Int) + off = (t : Int)) (kt : ¬ x = y → px_w G Z d M t L st S Q) (kf : x = y → px_w G Z d M q L st S Q) : px_w G Z d M pc L (.int y :: .int x :: st) S Q := by
  have hd := px_d hf hq
  subst hq
  intro p e s m args below meth c X H locs ls hl hP hS
  exact lv_icmp_ne X.1 X.2.1 hd ht (fun h => kt h p e s m args below meth c X H locs ls hl hP hS) (fun h => kf h p e s m args below meth c X H locs ls hl hP hS)
theorem w_iflt {x : Int32} {off : Int} (t : Nat) (hf : px_fe M pc = some (.ifCond .lt off, q)) (hq : q = pc + 3) (ht : (pc : Int) + off = (t : Int)) (kt : x < 0 → px_w G Z d M t L st S Q) (kf : ¬ (x < 0) → px_w G Z d M q L st S Q) : px_w G Z d M pc L (.int x :: st) S Q := by
  have hd := px_d hf hq
  subst hq
  intro p e s m args below meth c X H locs ls hl hP hS
  exact lv_if_lt X.1 X.2.1 hd ht (fun h => kt h p e s m args below meth c X H locs ls hl hP hS) (fun h => kf h p e s m args below meth c X H locs ls hl hP hS)
theorem w_if_icmplt {x y : Int32} {off : Int} (t : Nat) (hf : px_fe M pc = some (.if_icmp .lt off, q)) (hq : q = pc + 3) (ht : (pc : Int) + off = (t : Int)) (kt : x < y → px_w G Z d M t L st S Q) (kf : ¬ (x < y) → px_w G Z d M q L st S Q) : px_w G Z d M pc L (.int y :: .int x :: st) S Q := by
  have hd := px_d hf hq
  subst hq
  intro p e s m args below meth c X H locs ls hl hP hS
  exact lv_icmp_lt X.1 X.2.1 hd ht (fun h => kt h p e s m args below meth c X H locs ls hl hP hS) (fun h => kf h p e s m args below meth c X H locs ls hl hP hS)
theorem w_ifge {x : Int32} {off : Int} (t : Nat) (hf : px_fe M pc = some (.ifCond .ge off, q)) (hq : q = pc + 3) (ht : (pc : Int) + off = (t : Int)) (kt : 0 ≤ x → px_w G Z d M t L st S Q) (kf : ¬ (0 ≤ x) → px_w G Z d M q L st S Q) : px_w G Z d M pc L (.int x :: st) S Q := by
  have hd := px_d hf hq
  subst hq
  intro p e s m args below meth c X H locs ls hl hP hS
  exact lv_if_ge X.1 X.2.1 hd ht (fun h => kt h p e s m args below meth c X H locs ls hl hP hS) (fun h => kf h p e s m args below meth c X H locs ls hl hP hS)
theorem w_if_icmpge {x y : Int32} {off : Int} (t : Nat) (hf : px_fe M pc = some (.if_icmp .ge off, q)) (hq : q = pc + 3) (ht : (pc : Int) + off = (t : Int)) (kt : y ≤ x → px_w G Z d M t L st S Q) (kf : ¬ (y ≤ x) → px_w G Z d M q L st S Q) : px_w G Z d M pc L (.int y :: .int x :: st) S Q := by
  have hd := px_d hf hq
  subst hq
  intro p e s m args below meth c X H locs ls hl hP hS
  exact lv_icmp_ge X.1 X.2.1 hd ht (fun h => kt h p e s m args below meth c X H locs ls hl hP hS) (fun h => kf h p e s m args below meth c X H locs ls hl hP hS)
theorem w_ifgt {x : Int32} {off : Int} (t : Nat) (hf : px_fe M pc = some (.ifCond .gt off, q)) (hq : q = pc + 3) (ht : (pc : Int) + off = (t : Int)) (kt : 0 < x → px_w G Z d M t L st S Q) (kf : ¬ (0 < x) → px_w G Z d M q L st S Q) : px_w G Z d M pc L (.int x :: st) S Q := by
  have hd := px_d hf hq
  subst hq
  intro p e s m args below meth c X H locs ls hl hP hS
  exact lv_if_gt X.1 X.2.1 hd ht (fun h => kt h p e s m args below meth c X H locs ls hl hP hS) (fun h => kf h p e s m args below meth c X H locs ls hl hP hS)
theorem w_if_icmpgt {x y : Int32} {off : Int} (t : Nat) (hf : px_fe M pc = some (.if_icmp .gt off, q)) (hq : q = pc + 3) (ht : (pc : Int) + off = (t : Int)) (kt : y < x → px_w G Z d M t L st S Q) (kf : ¬ (y < x) → px_w G Z d M q L st S Q) : px_w G Z d M pc L (.int y :: .int x :: st) S Q := by
  have hd := px_d hf hq
  subst hq
  intro p e s m args below meth c X H locs ls hl hP hS
  exact lv_icmp_gt X.1 X.2.1 hd ht (fun h => kt h p e s m args below meth c X H locs ls hl hP hS) (fun h => kf h p e s m args below meth c X H locs ls hl hP hS)
theorem w_ifle {x : Int32} {off : Int} (t : Nat) (hf : px_fe M pc = some (.ifCond .le off, q)) (hq : q = pc + 3) (ht : (pc : Int) + off = (t : Int)) (kt : x ≤ 0 → px_w G Z d M t L st S Q) (kf : ¬ (x ≤ 0) → px_w G Z d M q L st S Q) : px_w G Z d M pc L (.int x :: st) S Q := by
  have hd := px_d hf hq
  subst hq
  intro p e s m args below meth c X H locs ls hl hP hS
  exact lv_if_le X.1 X.2.1 hd ht (fun h => kt h p e s m args below meth c X H locs ls hl hP hS) (fun h => kf h p e s m args below meth c X H locs ls hl hP hS)
theorem w_if_icmple {x y : Int32} {off : Int} (t : Nat) (hf : px_fe M pc = some (.if_icmp .le off, q)) (hq : q = pc + 3) (ht : (pc : Int) + off = (t : Int)) (kt : x ≤ y → px_w G Z d M t L st S Q) (kf : ¬ (x ≤ y) → px_w G Z d M q L st S Q) : px_w G Z d M pc L (.int y :: .int x :: st) S Q := by
  have hd := px_d hf hq
  subst hq
  intro p e s m args below meth c X H locs ls hl hP hS
  exact lv_icmp_le X.1 X.2.1 hd ht (fun h => kt h p e s m args below meth c X H locs ls hl hP hS) (fun h => kf h p e s m args below meth c X H locs ls hl hP hS)
theorem w_goto {off : Int} (t : Nat) (hf : px_fe M pc = some (.goto off, q)) (hq : q = pc + 3) (ht : (pc : Int) + off = (t : Int)) (k : px_w G Z d M t L st S Q) : px_w G Z d M pc L st S Q := by
  have hd := px_d hf hq
  subst hq
  intro p e s m args below meth c X H locs ls hl hP hS
  exact lv_goto X.1 X.2.1 hd ht (k p e s m args below meth c X H locs ls hl hP hS)
theorem w_getI {x ci j a : Nat} {fs : List (Option Nat)} (hf : px_fe M pc = some (.getfield x, q)) (hq : q = pc + 3) (hx : px_fp (px_my M).cls x ci j) (hZ : Z[a]? = some (.inr (.inr (ci, fs)))) (hj : fs[j]? = some none) (k : px_w G Z d M q L (.int (S a j) :: st) S Q) : px_w G Z d M pc L (.ref a :: st) S Q := by
  have hd := px_d hf hq
  subst hq
  obtain ⟨C, T, N, ty0, h1, h2, h3, h4, -, -⟩ := hx
  intro p e s m args below meth c X H locs ls hl hP hS
  refine va_get (D := G.2.1) (ci := ci) (v := .int (S a j)) (C := C) (T := T) (N := N) X.1 X.2.1 X.2.2.2.2.1 h4 X.2.2.2.1 X.2.2.2.2.2.2.2.1 hP a (px_get hZ) h1 j h2 (X.2.2.2.2.1 _ h3) (fun _ h9 => h9) ?_ hd (k p e s m args below meth c X H locs ls hl hP hS)
  rw [List.getElem?_mapIdx, hj]
  rfl
theorem w_getR {x ci j a b : Nat} {fs : List (Option Nat)} (hf : px_fe M pc = some (.getfield x, q)) (hq : q = pc + 3) (hx : px_fp (px_my M).cls x ci j) (hZ : Z[a]? = some (.inr (.inr (ci, fs)))) (hj : fs[j]? = some (some b)) (k : px_w G Z d M q L (.ref b :: st) S Q) : px_w G Z d M pc L (.ref a :: st) S Q := by
  have hd := px_d hf hq
  subst hq
  obtain ⟨C, T, N, ty0, h1, h2, h3, h4, -, -⟩ := hx
  intro p e s m args below meth c X H locs ls hl hP hS
  refine va_get (D := G.2.1) (ci := ci) (v := .ref (G.2.2.2 b)) (C := C) (T := T) (N := N) X.1 X.2.1 X.2.2.2.2.1 h4 X.2.2.2.1 X.2.2.2.2.2.2.2.1 hP a (px_get hZ) h1 j h2 (X.2.2.2.2.1 _ h3) (fun _ h9 => h9) ?_ hd (k p e s m args below meth c X H locs ls hl hP hS)
  rw [List.getElem?_mapIdx, hj]
  rfl
theorem w_put {x ci j a : Nat} {v : Int32} {fs : List (Option Nat)} (hf : px_fe M pc = some (.putfield x, q)) (hq : q = pc + 3) (hx : px_fp (px_my M).cls x ci j) (hw : px_fw ci j) (hZ : Z[a]? = some (.inr (.inr (ci, fs)))) (hj : fs[j]? = some none) (k : px_w G Z d M q L st (px_u S a j v) Q) : px_w G Z d M pc L (.int v :: .ref a :: st) S Q := by
  have hd := px_d hf hq
  subst hq
  obtain ⟨C, T, N, ty0, h1, h2, h3, h4, h5, h6⟩ := hx
  obtain ⟨h7, h8⟩ := hw C T N h1
  intro p e s m args below meth c X H locs ls hl hP hS
  refine va_put (D := G.2.1) (ci := ci) (v := .int v) (ty := .int) (C := C) (T := T) (N := N) X.1 X.2.1 X.2.2.2.2.1 h4 ty0 h5 h6 X.2.2.2.1 X.2.2.2.2.2.2.2.1 hP (px_D X.2.2.2.2.2.2.2.2.1 S s.heap.size) hS a (px_get hZ) h1 j h2 (X.2.2.2.2.1 _ h3) (fun _ h9 => h9) h7 h8 rfl rfl ?_ hd (fun H1 locs1 hP1 _ hS1 => k p e s m args below meth c X H1 locs1 ls hl ?_ hS1)
  · rw [List.length_mapIdx]
    exact (List.getElem?_eq_some_iff.mp hj).1
  · rw [px_obj hj, px_set hZ (S' := px_u S a j v) (by rw [px_u_self]; rfl) (fun i hi => px_u_ne S j v hi)] at hP1
    exact hP1
theorem w_iaload {a n : Nat} {i : Int32} (hf : px_fe M pc = some (.iaload, q)) (hq : q = pc + 1) (hZ : Z[a]? = some (.inl n)) (hi : vp_in i n) (k : px_w G Z d M q L (.int (S a i.toNatClampNeg) :: st) S Q) : px_w G Z d M pc L (.int i :: .ref a :: st) S Q := by
  have hd := px_d hf hq
  subst hq
  intro p e s m args below meth c X H locs ls hl hP hS
  exact va_iald X.1 X.2.1 X.2.2.2.2.2.2.2.1 hP a 0 (px_get hZ) rfl hi hd (k p e s m args below meth c X H locs ls hl hP hS)
theorem w_iastore {a n : Nat} {i v : Int32} (hf : px_fe M pc = some (.iastore, q)) (hq : q = pc + 1) (hZ : Z[a]? = some (.inl n)) (hi : vp_in i n) (k : px_w G Z d M q L st (px_u S a i.toNatClampNeg v) Q) : px_w G Z d M pc L (.int v :: .int i :: .ref a :: st) S Q := by
  have hd := px_d hf hq
  subst hq
  intro p e s m args below meth c X H locs ls hl hP hS
  refine va_iast X.1 X.2.1 X.2.2.2.2.2.2.2.1 hP (px_D X.2.2.2.2.2.2.2.2.1 S s.heap.size) hS a 0 (px_get hZ) rfl hi hd (fun H1 locs1 hP1 _ hS1 => k p e s m args below meth c X H1 locs1 ls hl ?_ hS1)
  rw [px_set hZ (S' := px_u S a i.toNatClampNeg v) (by rw [px_u_self]; rfl) (fun j hj => px_u_ne S _ v hj)] at hP1
  exact hP1
theorem w_ialoadK {a n j : Nat} {i : Int32} (hf : px_fe M pc = some (.iaload, q)) (hq : q = pc + 1) (hZ : Z[a]? = some (.inl n)) (hi : nI j = i) (h1 : j < n) (h2 : n < 2 ^ 31) (k : px_w G Z d M q L (.int (S a j) :: st) S Q) : px_w G Z d M pc L (.int i :: .ref a :: st) S Q := by
  subst hi
  refine w_iaload hf hq hZ (vp_in_nI h1 h2) ?_
  rw [nI_clamp (Nat.lt_trans h1 h2)]
  exact k
theorem w_iastoreK {a n j : Nat} {i v : Int32} (hf : px_fe M pc = some (.iastore, q)) (hq : q = pc + 1) (hZ : Z[a]? = some (.inl n)) (hi : nI j = i) (h1 : j < n) (h2 : n < 2 ^ 31) (k : px_w G Z d M q L st (px_u S a j v) Q) : px_w G Z d M pc L (.int v :: .int i :: .ref a :: st) S Q := by
  subst hi
  refine w_iastore hf hq hZ (vp_in_nI h1 h2) ?_
  rw [nI_clamp (Nat.lt_trans h1 h2)]
  exact k
theorem w_alen {a n : Nat} {v : Int32} (hf : px_fe M pc = some (.arraylength, q)) (hq : q = pc + 1) (hZ : Z[a]? = some (.inl n)) (hv : Int32.ofNat n = v) (k : px_w G Z d M q L (.int v :: st) S Q) : px_w G Z d M pc L (.ref a :: st) S Q := by
  have hd := px_d hf hq
  subst hq
  intro p e s m args below meth c X H locs ls hl hP hS
  exact va_alen X.1 X.2.1 X.2.2.2.2.2.2.2.1 hP a 0 (px_get hZ) (ty := .int) rfl hv hd (k p e s m args below meth c X H locs ls hl hP hS)
theorem w_alenR {a t : Nat} {rs : List Nat} {ty : FieldType} {v : Int32} (hf : px_fe M pc = some (.arraylength, q)) (hq : q = pc + 1) (hZ : Z[a]? = some (.inr (.inl (t, rs)))) (ht : ∀ aC, (px_ty aC)[t]? = some (aC t, ty)) (hv : Int32.ofNat rs.length = v) (k : px_w G Z d M q L (.int v :: st) S Q) : px_w G Z d M pc L (.ref a :: st) S Q := by
  have hd := px_d hf hq
  subst hq
  intro p e s m args below meth c X H locs ls hl hP hS
  exact va_alen X.1 X.2.1 X.2.2.2.2.2.2.2.1 hP a t (px_get hZ) (ty := ty) (ht _) hv hd (k p e s m args below meth c X H locs ls hl hP hS)
theorem w_aaload {a t : Nat} {rs : List Nat} {ty : FieldType} {i : Int32} (hf : px_fe M pc = some (.aaload, q)) (hq : q = pc + 1) (hZ : Z[a]? = some (.inr (.inl (t, rs)))) (ht : ∀ aC, (px_ty aC)[t]? = some (aC t, ty)) (hr : ty.isReference = true) (hi : vp_in i rs.length) (k : px_w G Z d M q L (.ref (rs.getD i.toNatClampNeg 0) :: st) S Q) : px_w G Z d M pc L (.int i :: .ref a :: st) S Q := by
  have hd := px_d hf hq
  subst hq
  intro p e s m args below meth c X H locs ls hl hP hS
  have hlt : i.toNatClampNeg < rs.length := Nat.not_le.mp fun z => hi (Or.inr z)
  have hv : va_rf ((rs[i.toNatClampNeg]?).map G.2.2.2) = .ref (G.2.2.2 (rs.getD i.toNatClampNeg 0)) := by
    rw [List.getD_eq_getElem?_getD, List.getElem?_eq_getElem hlt]
    rfl
  have hK := X.2.2.2.2.2.2.2.1
  refine W.aald (v := .ref (G.2.2.2 (rs.getD i.toNatClampNeg 0))) (ty := ty) X.1 X.2.1 (hP a _ (px_get hZ)) ((hK.2 t _ (ht _)).1 rs.length (fun j => va_rf ((rs[j]?).map G.2.2.2))) hr (fun z => by cases z) (by show ¬ (i < 0 ∨ (arrV _ _ _).slots.size ≤ _); rw [arrV_size]; exact hi) (by show (arrV _ _ _).slots[_]? = _; rw [arrV_read _ _ hlt, hv]) rfl rfl hd (k p e s m args below meth c X H locs ls hl hP hS)
theorem w_getstatic {x t : Nat} (hf : px_fe M pc = some (.getstatic x, q)) (hq : q = pc + 3) (hx : px_sp (px_my M).cls x t) (k : px_w G Z d M q L (.ref (1000 + t) :: st) S Q) : px_w G Z d M pc L st S Q := by
  have hd := px_d hf hq
  subst hq
  obtain ⟨e0, h1, h2⟩ := hx
  intro p e s m args below meth c X H locs ls hl hP hS
  exact va_gets X.1 X.2.1 (X.2.2.2.2.2.2.2.2.2.1 t e0 h1).2 hS X.2.2.2.1 (X.2.2.2.2.1 _ h2) (fun _ h9 => h9) hd (k p e s m args below meth c X H locs ls hl hP hS)
theorem w_tload {t : Nat} {i : Int32} {e0 : List Int32 × String × String} (hf : px_fe M pc = some (.iaload, q)) (hq : q = pc + 1) (ht : px_tb[t]? = some e0) (hi : vp_in i e0.1.length) (k : px_w G Z d M q L (.int (e0.1.getD i.toNatClampNeg 0) :: st) S Q) : px_w G Z d M pc L (.int i :: .ref (1000 + t) :: st) S Q := by
  have hd := px_d hf hq
  subst hq
  intro p e s m args below meth c X H locs ls hl hP hS
  exact va_ti X.1 X.2.1 (X.2.2.2.2.2.2.2.2.2.1 t e0 ht).1 hS hi rfl hd (k p e s m args below meth c X H locs ls hl hP hS)
theorem w_ireturn {v : Int32} (hf : px_fe M pc = some (.ireturn, q)) (hq : q = pc + 1) (hr : px_mr M = some .int) (h : Q (some (.int v)) S) : px_w G Z d M pc L [.int v] S Q := by
  have hd := px_d hf hq
  intro p e s m args below meth c X H locs ls hl hP hS
  have hlk := X.2.2.2.2.2.2.1
  exact W.iret X.1 X.2.1 (X.2.2.2.2.2.1.trans hr) (fun t ht hW => ⟨⟨some (.int v), S, rfl, h, by rw [ht]; exact hP⟩, hS.F ht⟩) hS.2.2 hd hlk
theorem w_zreturn {v : Int32} (hf : px_fe M pc = some (.ireturn, q)) (hq : q = pc + 1) (hr : px_mr M = some .boolean) (hv : v = 0 ∨ v = 1) (h : Q (some (.int v)) S) : px_w G Z d M pc L [.int v] S Q := by
  have hd := px_d hf hq
  intro p e s m args below meth c X H locs ls hl hP hS
  have hlk := X.2.2.2.2.2.2.1
  exact W.zret X.1 X.2.1 (X.2.2.2.2.2.1.trans hr) (by rcases hv with rfl | rfl <;> decide) (fun t ht hW => ⟨⟨some (.int v), S, rfl, h, by rw [ht]; exact hP⟩, hS.F ht⟩) hS.2.2 hd hlk
theorem w_return (hf : px_fe M pc = some (.return_, q)) (hq : q = pc + 1) (hr : px_mr M = none) (h : Q none S) : px_w G Z d M pc L [] S Q := by
  have hd := px_d hf hq
  intro p e s m args below meth c X H locs ls hl hP hS
  have hlk := X.2.2.2.2.2.2.1
  exact W.vret X.1 X.2.1 (X.2.2.2.2.2.1.trans hr) (fun t ht hW => ⟨⟨none, S, rfl, h, by rw [ht]; exact hP⟩, hS.F ht⟩) hS.2.2 hd hlk
theorem w_areturn {a : Nat} {C : String} (hf : px_fe M pc = some (.areturn, q)) (hq : q = pc + 1) (hr : px_mr M = some (.object C)) (h : Q (some (.ref a)) S) : px_w G Z d M pc L [.ref a] S Q := by
  have hd := px_d hf hq
  intro p e s m args below meth c X H locs ls hl hP hS
  have hlk := X.2.2.2.2.2.2.1
  exact W.aret X.1 X.2.1 (X.2.2.2.2.2.1.trans hr) (Or.inl ⟨C, rfl⟩) (Or.inr ⟨_, rfl⟩) (fun t ht hW => ⟨⟨some (.ref a), S, rfl, h, by rw [ht]; exact hP⟩, hS.F ht⟩) hS.2.2 hd hlk
theorem px_in {as : List Value} (hr : px_rc Z M as) (hy : plainName (px_my M).cls = true) (hn : (lg_sl (as.map (px_v G.2.2.2))).length ≤ px_ml M) (hL : ∀ (i : Nat) (v : Value), L[i]? = some v → v ≠ .null → (i, px_v G.2.2.2 v) ∈ lv_args 0 (as.map (px_v G.2.2.2))) (h : px_w G Z d M 0 L [] S Q) : px_M G Z d M as S Q := by
  refine ⟨hr, fun sz => ?_⟩
  refine Met.ofW (cc := px_mb M) (maxL := px_ml M) (ret := px_mr M) hy rfl ?_
  intro p e s m args below meth c s₁ B hml hv
  obtain ⟨rfl, hsz, hP, hK, hJ, hT, hN⟩ := hv
  have hts := atoms_spec (ws := px_ws M) B.pre
  have hown : s.vm.findClass (px_my M).cls = some m.cls := findClass_of_methodNamed B.named
  subst hsz
  rw [lg_entry_eq]
  exact h p e s m _ below meth c ⟨B.exec, B.bytes, hml, hown, fun w hw => hts w (List.mem_cons_of_mem _ hw), B.returns, B.notSynchronized, hK, hJ, hT, hN⟩ s.heap [] _ (px_L_entry G.2.2.2 as hn hL) hP va_S.rf
end
section
variable {p : Program} {G : px_G} {e : Env} {R : Room} {s : State} {m : MethodId} {args : Array Value} {below : List Frame} {meth : Method} {c : Code} {H : Heap} {locs : List Loc} {Z : List px_C} {Q' : Option Value → px_S → Prop} {Qf : State → Prop} {pc : Nat} {ls : Array Slot} {rest st0 : List Value} {a : Array Value} {S : px_S}
theorem px_go (hr : va_Run p G.1 e R s m args below meth c H locs 0 0 0 0 (F0 m pc ls st0) rest (px_Q G Z Q' a) (px_A G.2.2.2 Z H.size)) (hS : va_S (px_A G.2.2.2 Z s.heap.size) s.heap H locs)
    (kk : ∀ (r : Option Value) (S' : px_S) (H1 : Heap) (locs1 : List Loc), Q' r S' → va_P G.2.1 px_cl (px_W G.2.2.2 G.2.2.1 Z S') H1 → va_S (px_A G.2.2.2 Z s.heap.size) s.heap H1 locs1 → W p G.1 e R s m args below meth c H1 locs1 0 0 Qf (F0 m (pc + 3) ls ((r.map (px_v G.2.2.2)).toList ++ rest))) : W p G.1 e R s m args below meth c H locs 0 0 Qf (F0 m pc ls st0) := by
  intro T hT X
  obtain ⟨v, st₀, t, T', L, h0, X', hL, e1, e2, ⟨⟨r, S', hv, hq, hp⟩, hz, hk⟩, st⟩ := hr T hT X
  have hv' : v = r.map (px_v G.2.2.2) := by injection hv
  subst hv'
  rw [h0] at hz hk
  have hA := px_A_mono (ad := G.2.2.2) (Z := Z) hS.1
  obtain ⟨t2, a1, b1⟩ := kk r S' T'.heap (locs ++ L) hq (by rw [e1]; exact hp)
    ⟨Nat.le_trans hS.1 (by rw [e1]; exact hz), fun q h1 h2 => by rw [e1, hk q (Nat.lt_of_lt_of_le h1 hS.1) (fun z => h2 (hA q z))]; exact hS.2.1 q h1 h2, fun q hq => by
      rcases List.mem_append.mp hq with h | h
      · exact hS.2.2 q h
      · exact hA _ (hL q h)⟩ T' rfl X'
  exact ⟨t2, st t2 a1, b1⟩
theorem px_pre {M : Nat} {as : List Value} (X : px_X G Z M p s m args meth c) (hP : va_P G.2.1 px_cl (px_W G.2.2.2 G.2.2.1 Z S) H) (hS : va_S (px_A G.2.2.2 Z s.heap.size) s.heap H locs) :
    PreS s H (va_Pc (as.map (px_v G.2.2.2)) (px_B G Z S H.size)) (as.map (px_v G.2.2.2)) := by
  refine ⟨fun a U g mk z => ?_, fun U hU hW => ?_⟩
  · obtain ⟨z0, z1, z2, z3, z4, z5, z6⟩ := z
    exact ⟨z0, z1, z2, va_K.moved (u := U) (U := U.calling g mk a) (Vm.Alike.refl U.vm) z3, z4, px_T.moved (u := U) (U := U.calling g mk a) (Vm.Alike.refl U.vm) z5, px_N.same (u := U) (U := U.calling g mk a) rfl z6⟩
  · refine ⟨rfl, by rw [hU], by rw [hU]; exact hP, va_K.moved hW.alike X.2.2.2.2.2.2.2.1, X.2.2.2.2.2.2.2.2.1, ?_, px_N.warm hW X.2.2.2.2.2.2.2.2.2.2⟩
    rw [hU]
    exact ((X.2.2.2.2.2.2.2.2.2.1.kept (fun q h1 h2 => hS.2.1 q h1 h2)).narrow (px_A_mono hS.1)).moved hW.alike
end
section
variable {G : px_G} {Z : List px_C} {d M pc q : Nat} {L : List Value} {S : px_S} {Q : Option Value → px_S → Prop}
theorem px_rmok (d : Nat) {n : Nat} (h : n ≤ 19) : (px_rm d).frames + 1 ≤ (px_rm (d + 1)).frames ∧ 8 + (n + 11) + (px_rm d).locals ≤ (px_rm (d + 1)).locals := by
  unfold px_rm
  dsimp only
  omega
theorem w_call {stk : List Value} (kd M' n : Nat) (as rest : List Value) {Q' : Option Value → px_S → Prop} (hc : px_ck kd M pc M' n) (hs : stk = as.reverse ++ rest) (hn : as.length = n + (if px_ms M' then 0 else 1)) (hr : (rest.map fun v => v.category).sum ≤ 8) (hq : q = pc + 3) (hk : px_M G Z d M' as S Q')
    (kk : ∀ r S', Q' r S' → px_w G Z (d + 1) M q L (r.toList ++ rest) S' Q) : px_w G Z (d + 1) M pc L stk S Q := by
  subst hq
  subst hs
  obtain ⟨⟨hcode, hini, ⟨hy1, hy2, hy3⟩, hml⟩, x, hcase⟩ := hc
  obtain ⟨hrc, hM⟩ := hk
  intro p e s m args below meth c X H locs ls hl hP hS
  have hts := X.2.2.2.2.1
  have hgood : GoodIn px_WA (px_ws M') := by
    intro w hw
    rcases List.mem_cons.mp hw with rfl | hw
    · exact px_gd _ hcode
    · exact px_gd w hw
  have hfix : CallFix p m c (px_mb M) (px_ml M) s args px_WA (px_my M).cls := ⟨X.1, X.2.1, X.2.2.1, X.2.2.2.1, hts⟩
  have hroom : 2 * (F0 m pc ls ((as.reverse ++ rest).map (px_v G.2.2.2))).monitorRoom + ((rest.map (px_v G.2.2.2)).map fun v => v.category).sum ≤ 8 := lv_room (by rw [px_v_sum]; exact hr)
  have hpre := px_pre (as := as) X hP hS
  have fin : ∀ (run : va_Run p G.1 e (px_rm (d + 1)) s m args below meth c H locs 0 0 0 0 (F0 m pc ls ((as.reverse ++ rest).map (px_v G.2.2.2))) (rest.map (px_v G.2.2.2)) (px_Q G Z Q' (as.map (px_v G.2.2.2)).toArray) (px_A G.2.2.2 Z H.size)), W p G.1 e (px_rm (d + 1)) s m args below meth c H locs 0 0 (MQ below (px_Q G Z Q) args s 0 0 (px_A G.2.2.2 Z s.heap.size)) (F0 m pc ls ((as.reverse ++ rest).map (px_v G.2.2.2))) := by
    intro run
    refine px_go run hS (fun r S' H1 locs1 hq1 hP1 hS1 => ?_)
    have := kk r S' hq1 p e s m args below meth c X H1 locs1 ls hl hP1 hS1
    rw [List.map_append] at this
    cases r with
    | none => exact this
    | some v => exact this
  rcases hcase with ⟨-, hdec, hst, hl1, hl2, hl3⟩ | ⟨-, hdec, hst, hl1, hl2⟩ | ⟨-, hdec, hst, ⟨host, hl1⟩, hl2⟩
  · rcases hrc with h | ⟨k, as', ci, fs, qq, rfl, hZ, hcl, hqc⟩
    · rw [hst] at h; cases h
    · have hst2 : ((Value.ref k :: as').reverse ++ rest).map (px_v G.2.2.2) = (as'.map (px_v G.2.2.2)).reverse ++ .ref (G.2.2.2 k) :: rest.map (px_v G.2.2.2) := by simp [px_v]
      rw [hst] at hn
      refine fin (va_runV (C := (px_my M').cls) (As := as'.map (px_v G.2.2.2)) (n := n) hfix (hM H.size) ⟨callB_of n hts hgood rfl rfl rfl (hts _ hini) (hts _ hl1) ⟨hy1, hy2, hy3⟩ (px_rmok d hml), hts _ hl2, hts _ hl3⟩ ⟨hpre.1, ?_, hpre.2⟩ rfl (by simpa using hn) hl.1 hst2 hroom hdec ⟨Nat.le_refl _, Nat.le_refl _⟩)
      rw [← hqc]
      exact va_recv X.2.2.2.2.2.2.2.1 hP hcl (px_get hZ)
  · rw [hst] at hn
    exact fin (va_runS (As := as.map (px_v G.2.2.2)) (n := n) hfix (hM H.size) ⟨callB_of n hts hgood rfl rfl rfl (hts _ hini) (hts _ hl1) ⟨hy1, hy2, hy3⟩ (px_rmok d hml), hts _ hl2⟩ hpre rfl (by simpa using hn) hl.1 (by simp) hroom hdec ⟨Nat.le_refl _, Nat.le_refl _⟩)
  · rw [hst] at hn
    exact fin (va_runSN (host := host) (As := as.map (px_v G.2.2.2)) (n := n) hfix (hM H.size) ⟨va_cnB n hts hgood rfl rfl rfl (X.2.2.2.2.2.2.2.2.2.2 _ hl1) (hts _ hini) ⟨hy1, hy2, hy3⟩ (px_rmok d hml), hts _ hl2, trivial⟩ hpre rfl (by simpa using hn) hl.1 (by simp) hroom hdec ⟨Nat.le_refl _, Nat.le_refl _⟩)
end
/-- calls by what they answer -/
def px_iq (Q : Int32 → px_S → Prop) : Option Value → px_S → Prop := fun r S' => ∃ x : Int32, r = some (.int x) ∧ Q x S'
def px_vq (Q : px_S → Prop) : Option Value → px_S → Prop := fun r S' => r = none ∧ Q S'
def px_rq (a : Nat) (Q : px_S → Prop) : Option Value → px_S → Prop := fun r S' => r = some (.ref a) ∧ Q S'
def px_I (G : px_G) (Z : List px_C) (d M : Nat) (as : List Value) (S : px_S) (Q : Int32 → px_S → Prop) : Prop := px_M G Z d M as S (px_iq Q)
def px_V (G : px_G) (Z : List px_C) (d M : Nat) (as : List Value) (S : px_S) (Q : px_S → Prop) : Prop := px_M G Z d M as S (px_vq Q)
def px_R (G : px_G) (Z : List px_C) (d M : Nat) (as : List Value) (S : px_S) (a : Nat) (Q : px_S → Prop) : Prop := px_M G Z d M as S (px_rq a Q)
section
variable {G : px_G} {Z : List px_C} {d M pc q : Nat} {L : List Value} {S : px_S} {Q : Option Value → px_S → Prop}
theorem w_callI {stk : List Value} {kd M' n : Nat} {as rest : List Value} {Q' : Int32 → px_S → Prop} (hk : px_I G Z d M' as S Q') (hc : px_ck kd M pc M' n) (hs : stk = as.reverse ++ rest) (hn : as.length = n + (if px_ms M' then 0 else 1)) (hr : (rest.map fun v => v.category).sum ≤ 8) (hq : q = pc + 3)
    (kk : ∀ x S', Q' x S' → px_w G Z (d + 1) M q L (.int x :: rest) S' Q) : px_w G Z (d + 1) M pc L stk S Q := by
  refine w_call kd M' n as rest hc hs hn hr hq hk (fun r S' h => ?_)
  obtain ⟨x, rfl, h⟩ := h
  exact kk x S' h
theorem w_callV {stk : List Value} {kd M' n : Nat} {as rest : List Value} {Q' : px_S → Prop} (hk : px_V G Z d M' as S Q') (hc : px_ck kd M pc M' n) (hs : stk = as.reverse ++ rest) (hn : as.length = n + (if px_ms M' then 0 else 1)) (hr : (rest.map fun v => v.category).sum ≤ 8) (hq : q = pc + 3)
    (kk : ∀ S', Q' S' → px_w G Z (d + 1) M q L rest S' Q) : px_w G Z (d + 1) M pc L stk S Q := by
  refine w_call kd M' n as rest hc hs hn hr hq hk (fun r S' h => ?_)
  obtain ⟨rfl, h⟩ := h
  exact kk S' h
theorem w_callR {stk : List Value} {kd M' n : Nat} {as rest : List Value} {a : Nat} {Q' : px_S → Prop} (hk : px_R G Z d M' as S a Q') (hc : px_ck kd M pc M' n) (hs : stk = as.reverse ++ rest) (hn : as.length = n + (if px_ms M' then 0 else 1)) (hr : (rest.map fun v => v.category).sum ≤ 8) (hq : q = pc + 3)
    (kk : ∀ S', Q' S' → px_w G Z (d + 1) M q L (.ref a :: rest) S' Q) : px_w G Z (d + 1) M pc L stk S Q := by
  refine w_call kd M' n as rest hc hs hn hr hq hk (fun r S' h => ?_)
  obtain ⟨rfl, h⟩ := h
  exact kk S' h
end
theorem px_iq_i {Q : Int32 → px_S → Prop} {x : Int32} {S : px_S} (h : Q x S) : px_iq Q (some (.int x)) S := ⟨x, rfl, h⟩
theorem px_vq_i {Q : px_S → Prop} {S : px_S} (h : Q S) : px_vq Q none S := ⟨rfl, h⟩
theorem px_rq_i {a : Nat} {Q : px_S → Prop} {S : px_S} (h : Q S) : px_rq a Q (some (.ref a)) S := ⟨rfl, h⟩
/-- the locals at a method's start -/
def px_ent : List Value → List Value
  | [] => []
  | v :: vs => if v.category = 2 then v :: .null :: px_ent vs else v :: px_ent vs
theorem px_ent_mem (ad : Nat → Nat) : ∀ (as : List Value) (b i : Nat) (v : Value), (px_ent as)[i]? = some v → v ≠ .null → (b + i, px_v ad v) ∈ lv_args b (as.map (px_v ad))
  | [], b, i, v, h, _ => by simp [px_ent] at h
  | w :: as, b, i, v, h, hv => by
    rw [List.map_cons]
    unfold lv_args
    rw [px_v_cat]
    unfold px_ent at h
    by_cases hc : w.category = 2
    · rw [if_pos hc] at h
      rw [if_pos hc]
      cases i with
      | zero =>
        cases h
        exact List.mem_cons_self
      | succ i =>
        cases i with
        | zero =>
          cases h
          exact absurd rfl hv
        | succ i =>
          have := px_ent_mem ad as (b + 2) i v h hv
          rw [show b + 2 + i = b + (i + 1 + 1) by omega] at this
          exact List.mem_cons_of_mem _ this
    · rw [if_neg hc] at h
      rw [if_neg hc]
      cases i with
      | zero =>
        cases h
        exact List.mem_cons_self
      | succ i =>
        have := px_ent_mem ad as (b + 1) i v h hv
        rw [show b + 1 + i = b + (i + 1) by omega] at this
        exact List.mem_cons_of_mem _ this
theorem px_en {ad : Nat → Nat} {as L : List Value} (n : Nat) (h : px_ent as ++ List.replicate n .null = L) : ∀ (i : Nat) (v : Value), L[i]? = some v → v ≠ .null → (i, px_v ad v) ∈ lv_args 0 (as.map (px_v ad)) := by
  intro i v hi hv
  subst h
  by_cases hl : i < (px_ent as).length
  · rw [List.getElem?_append_left hl] at hi
    have := px_ent_mem ad as 0 i v hi hv
    rw [Nat.zero_add] at this
    exact this
  · rw [List.getElem?_append_right (by omega)] at hi
    have := List.eq_of_mem_replicate (List.mem_of_getElem? hi)
    exact absurd this hv
section
variable {G : px_G} {Z : List px_C} {d M pc q : Nat} {L st : List Value} {S : px_S} {Q : Option Value → px_S → Prop}
def px_cp (sp dp ln : Int32) (n : Nat) : Prop := ¬ sp < 0 ∧ ¬ dp < 0 ∧ ¬ ln < 0 ∧ sp.toNatClampNeg + ln.toNatClampNeg ≤ n ∧ dp.toNatClampNeg + ln.toNatClampNeg ≤ n
theorem w_copy {x b n : Nat} {sp dp ln : Int32} (hf : px_fe M pc = some (.invokestatic x, q)) (hq : q = pc + 3) (hl : Cond.methodLink (px_my M).cls x arraycopyName ∈ px_WA) (hr : (st.map fun v => v.category).sum ≤ 8) (hZ : Z[b]? = some (.inl n)) (hc : px_cp sp dp ln n)
    (k : px_w G Z (d + 1) M q L st (px_c S b (va_cpy (S b) (S b) sp.toNatClampNeg dp.toNatClampNeg ln.toNatClampNeg)) Q) : px_w G Z (d + 1) M pc L (.int ln :: .int dp :: .ref b :: .int sp :: .ref b :: st) S Q := by
  have hd := px_d hf hq
  subst hq
  obtain ⟨c1, c2, c3, c4, c5⟩ := hc
  intro p e s m args below meth c X H locs ls hl' hP hS
  refine va_copyi (ty := .int) X.1 X.2.1 (X.2.2.1.trans hl'.1.symm) X.2.2.2.1 (X.2.2.2.2.1 _ hl) (X.2.2.2.2.1 _ px_ac1) (X.2.2.2.2.1 _ px_ac2) (X.2.2.2.2.1 _ px_ac3) X.2.2.2.2.2.2.2.1 hP (px_D X.2.2.2.2.2.2.2.2.1 S s.heap.size) hS b b 0 0 (px_get hZ) (px_get hZ) rfl rfl rfl c1 c2 c3 c4 c5 (fun i hi => rfl) (by unfold px_rm; dsimp only; omega) ?_ hd (fun H1 locs1 hP1 _ hS1 => k p e s m args below meth c X H1 locs1 ls hl' ?_ hS1)
  · rw [px_v_sum]
    have : nativeFrameWords "java/lang/System" "arraycopy" 5 = 7 := by decide
    rw [this]
    unfold px_rm
    dsimp only
    omega
  · rw [px_set hZ (S' := px_c S b (va_cpy (S b) (S b) sp.toNatClampNeg dp.toNatClampNeg ln.toNatClampNeg)) (by unfold px_c; rw [if_pos rfl]; rfl) (fun i hi => by unfold px_c; rw [if_neg hi])] at hP1
    exact hP1
theorem w_min {x : Nat} {y z : Int32} (hf : px_fe M pc = some (.invokestatic x, q)) (hq : q = pc + 3) (hl : Cond.methodLink (px_my M).cls x Lib.Math.min.name ∈ px_WA) (hr : (st.map fun v => v.category).sum ≤ 8)
    (k : px_w G Z (d + 1) M q L (.int (px_min y z) :: st) S Q) : px_w G Z (d + 1) M pc L (.int z :: .int y :: st) S Q := by
  have hd := px_d hf hq
  subst hq
  intro p e s m args below meth c X H locs ls hl' hP hS
  refine va_mmin X.1 X.2.1 (X.2.2.1.trans hl'.1.symm) X.2.2.2.1 (X.2.2.2.2.1 _ hl) (X.2.2.2.2.1 _ px_mn1) (X.2.2.2.2.1 _ px_mn2) (X.2.2.2.2.1 _ px_mn3) (by unfold px_rm; dsimp only; omega) (by rw [px_v_sum]; unfold px_rm; dsimp only; omega) (Nat.zero_le _) (Nat.zero_le _) hd (k p e s m args below meth c X H locs ls hl' hP hS)
theorem w_switch3 {x k1 k2 k3 : Int32} {a1 a2 a3 o1 o2 o3 df : Int} (t1 t2 t3 t4 : Nat) (hf : px_fe M pc = some (.lookupswitch df #[(a1, o1), (a2, o2), (a3, o3)], q)) (hpq : pc < q) (hs : decide (a1 < a2) && decide (a2 < a3) = true) (e1 : k1.toInt = a1) (e2 : k2.toInt = a2) (e3 : k3.toInt = a3)
    (h1 : (pc : Int) + o1 = (t1 : Int)) (h2 : (pc : Int) + o2 = (t2 : Int)) (h3 : (pc : Int) + o3 = (t3 : Int)) (h4 : (pc : Int) + df = (t4 : Int))
    (g1 : x = k1 → px_w G Z d M t1 L st S Q) (g2 : x = k2 → px_w G Z d M t2 L st S Q) (g3 : x = k3 → px_w G Z d M t3 L st S Q) (g4 : ¬ x = k1 ∧ ¬ x = k2 ∧ ¬ x = k3 → px_w G Z d M t4 L st S Q) : px_w G Z d M pc L (.int x :: st) S Q := by
  have hd := px_d hf (n := q - pc) (by omega)
  have hp : ((#[(a1, o1), (a2, o2), (a3, o3)] : Array (Int × Int)).toList.zip ((#[(a1, o1), (a2, o2), (a3, o3)] : Array (Int × Int)).toList.drop 1)).all (fun (a, next) => a.1 < next.1) = true := by
    simpa using hs
  intro p e s m args below meth c X H locs ls hl hP hS
  by_cases c1 : x = k1
  · refine lv_lookup X.1 X.2.1 hd hp ?_ h1 (g1 c1 p e s m args below meth c X H locs ls hl hP hS)
    rw [show (#[(a1, o1), (a2, o2), (a3, o3)] : Array (Int × Int)).toList = [(a1, o1), (a2, o2), (a3, o3)] from rfl, Op.lookupswitch.offset_cons, if_pos (by rw [c1, e1])]
  · by_cases c2 : x = k2
    · refine lv_lookup X.1 X.2.1 hd hp ?_ h2 (g2 c2 p e s m args below meth c X H locs ls hl hP hS)
      rw [show (#[(a1, o1), (a2, o2), (a3, o3)] : Array (Int × Int)).toList = [(a1, o1), (a2, o2), (a3, o3)] from rfl, lv_osw c1 e1, Op.lookupswitch.offset_cons, if_pos (by rw [c2, e2])]
    · by_cases c3 : x = k3
      · refine lv_lookup X.1 X.2.1 hd hp ?_ h3 (g3 c3 p e s m args below meth c X H locs ls hl hP hS)
        rw [show (#[(a1, o1), (a2, o2), (a3, o3)] : Array (Int × Int)).toList = [(a1, o1), (a2, o2), (a3, o3)] from rfl, lv_osw c1 e1, lv_osw c2 e2, Op.lookupswitch.offset_cons, if_pos (by rw [c3, e3])]
      · refine lv_lookup X.1 X.2.1 hd hp ?_ h4 (g4 ⟨c1, c2, c3⟩ p e s m args below meth c X H locs ls hl hP hS)
        rw [show (#[(a1, o1), (a2, o2), (a3, o3)] : Array (Int × Int)).toList = [(a1, o1), (a2, o2), (a3, o3)] from rfl, lv_osw c1 e1, lv_osw c2 e2, lv_osw c3 e3, Op.lookupswitch.offset_nil]
end
