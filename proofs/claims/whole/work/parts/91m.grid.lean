/-! An array of arrays of ints, made by one step of the machine: the states of its loop, one behind the other, each in closed form -/
/-- the outer array when i rows are there -/
def gr_o (cA : ClassId) (N h i : Nat) : Cell := arrV cA N (fun j => va_rf (if j < i then some (h + 1 + j) else none))
/-- a row -/
def gr_r (cR : ClassId) (K : Nat) : Cell := arrV cR K (fun _ => .int 0)
/-- the state when i rows are there -/
def gr_s (cA cR : ClassId) (N K : Nat) (U : State) : Nat → State
  | 0 => U.pushCell (gr_o cA N U.heap.size 0)
  | i + 1 => ((gr_s cA cR N K U i).pushCell (gr_r cR K)).setCell U.heap.size (gr_o cA N U.heap.size (i + 1))
theorem gr_o_next (cA : ClassId) (N h i : Nat) : (gr_o cA N h i).setSlot i (.ref (h + 1 + i)) = gr_o cA N h (i + 1) := by
  unfold gr_o
  rw [arrV_store]
  congr 1
  funext j
  unfold updV
  by_cases e : j = i
  · rw [if_pos e, e, if_pos (Nat.lt_succ_self i)]
    rfl
  · by_cases h2 : j < i
    · rw [if_neg e]
      dsimp only
      rw [if_pos h2, if_pos (by omega)]
    · rw [if_neg e]
      dsimp only
      rw [if_neg h2, if_neg (by omega)]
theorem gr_top (cA cR : ClassId) (N K : Nat) (U : State) (f : JFrame) (i : Nat) : gr_s cA cR N K (U.setTop f) i = (gr_s cA cR N K U i).setTop f := by
  induction i with
  | zero => rfl
  | succ i ih =>
    show ((gr_s cA cR N K (U.setTop f) i).pushCell (gr_r cR K)).setCell U.heap.size (gr_o cA N U.heap.size (i + 1)) = _
    rw [ih]
    rfl
theorem gr_vm (cA cR : ClassId) (N K : Nat) (U : State) (i : Nat) : (gr_s cA cR N K U i).vm = U.vm := by
  induction i with
  | zero => rfl
  | succ i ih => exact ih
/-- what lies in the heap when i rows are there -/
theorem gr_heap (cA cR : ClassId) (N K : Nat) (U : State) (i : Nat) : (gr_s cA cR N K U i).heap.size = U.heap.size + 1 + i ∧ (gr_s cA cR N K U i).heap[U.heap.size]? = some (gr_o cA N U.heap.size i) ∧
    (∀ x : Nat, x < U.heap.size → (gr_s cA cR N K U i).heap[x]? = U.heap[x]?) ∧ ∀ j : Nat, j < i → (gr_s cA cR N K U i).heap[U.heap.size + 1 + j]? = some (gr_r cR K) := by
  induction i with
  | zero => exact ⟨State.heap_size_pushCell _ _, State.heap_pushCell_size _ _, fun x hx => State.heap_pushCell_of_lt _ _ hx, fun j hj => absurd hj (Nat.not_lt_zero j)⟩
  | succ i ih =>
    obtain ⟨h1, h2, h3, h4⟩ := ih
    generalize hS : gr_s cA cR N K U i = S at h1 h2 h3 h4
    have e : gr_s cA cR N K U (i + 1) = (S.pushCell (gr_r cR K)).setCell U.heap.size (gr_o cA N U.heap.size (i + 1)) := by rw [← hS]; rfl
    rw [e]
    refine ⟨?_, State.heap_setCell_self (c := gr_o cA N U.heap.size i) ?_, fun x hx => ?_, fun j hj => ?_⟩
    · rw [size_setCell, State.heap_size_pushCell, h1]
      omega
    · rw [State.heap_pushCell_of_lt _ _ (show U.heap.size < S.heap.size by omega)]
      exact h2
    · rw [State.heap_setCell_other (show U.heap.size ≠ x by omega), State.heap_pushCell_of_lt _ _ (show x < S.heap.size by omega)]
      exact h3 x hx
    · rw [State.heap_setCell_other (show U.heap.size ≠ U.heap.size + 1 + j by omega)]
      by_cases hji : j < i
      · rw [State.heap_pushCell_of_lt _ _ (show U.heap.size + 1 + j < S.heap.size by omega)]
        exact h4 j hji
      · have e2 : U.heap.size + 1 + j = S.heap.size := by omega
        rw [e2]
        exact State.heap_pushCell_size _ _
section
variable {p : Program} {l : Launch} {e : Env} {R : Room} {s : State} {m : MethodId} {args : Array Value} {below : List Frame} {meth : Method} {c : Code} {T : State} {locs : List Loc} {cells slots : Nat}
/-- the walk stands at each of them -/
theorem gr_stand (X : Stand p l e R s m args below meth c T locs cells slots) (cA cR : ClassId) (N K i : Nat) :
    ∃ L : List Loc, (∀ q ∈ L, q.base = T.heap.size) ∧ Stand p l e R s m args below meth c (gr_s cA cR N K T i) (locs ++ L) (cells + 1 + i) (slots + N + i * K) := by
  induction i with
  | zero =>
    refine ⟨[], fun q hq => (by cases hq), ?_⟩
    have h := X.pushed (gr_o cA N T.heap.size 0)
    have e1 : (gr_o cA N T.heap.size 0).slots.size = N := arrV_size _ _ _
    rw [e1] at h
    rw [List.append_nil, Nat.zero_mul, Nat.add_zero, Nat.add_zero]
    exact h
  | succ i ih =>
    obtain ⟨L, hL, hX⟩ := ih
    obtain ⟨h1, h2, -, -⟩ := gr_heap cA cR N K T i
    have h := (hX.pushed (gr_r cR K)).stored (a := T.heap.size) (cell := gr_o cA N T.heap.size i) (by rw [State.heap_pushCell_of_lt _ _ (show T.heap.size < (gr_s cA cR N K T i).heap.size by omega)]; exact h2) i (.ref (T.heap.size + 1 + i))
    have e1 : (gr_r cR K).slots.size = K := arrV_size _ _ _
    rw [gr_o_next, e1, List.append_assoc] at h
    refine ⟨L ++ [⟨T.heap.size, i⟩], fun q hq => ?_, ?_⟩
    · rcases List.mem_append.mp hq with h | h
      · exact hL q h
      · rw [List.mem_singleton.mp h]
    · have e3 : slots + N + (i + 1) * K = slots + N + i * K + K := by rw [Nat.succ_mul]; omega
      rw [e3]
      exact h
variable {E : CtlPost} {d : Bool} {acts : List Action}
/-- a row is made -/
theorem gr_row {cR cI : ClassId} {kR : Class} {b : Int32} {K : Nat} (h1 : s.vm.classes[cR]? = some kR) (h2 : kR.kind = .array cI .int) (hb : ¬ b < 0) (hK : b.toNatClampNeg = K) (g1 : ¬ K > e.platform.arrayLengthLimit) (g2 : ¬ K * 4 > e.platform.maxHeapBytes)
    (g3 : s.heap.size < e.platform.maxCells) (g4 : s.slotsUsed + K ≤ e.platform.maxSlots) {Q : Addr → Pre} (kk : ∀ acts', Q s.heap.size d acts' (s.pushCell (gr_r cR K))) : wp (multianewarray.make cR [b]) Q E e d acts s := by
  subst hK
  unfold multianewarray.make
  simp only [wp_bind', hb, if_false, W.theClass, h1, h2, Option.some.injEq, exists_eq_left']
  refine W.newArray_of (type := .int) h1 h2 g1 g2 g3 g4 rfl (fun acts' => ?_)
  have h := kk acts'
  unfold gr_r at h
  rw [← arrV_new] at h
  exact h
/-- the whole is made: T a state at which the walk stands, f the frame on top -/
theorem gr_make (X : Stand p l e R s m args below meth c T locs cells slots) {f : JFrame} {cA cR cI : ClassId} {kA kR : Class} {a b : Int32} {N K : Nat} (h1 : T.vm.classes[cA]? = some kA) (h2 : kA.kind = .array cR (.array .int)) (h3 : T.vm.classes[cR]? = some kR) (h4 : kR.kind = .array cI .int)
    (ha : ¬ a < 0) (hb : ¬ b < 0) (hN : a.toNatClampNeg = N) (hK : b.toNatClampNeg = K) (g1 : N * 4 ≤ 536870912) (g2 : K * 4 ≤ 536870912) (hcells : cells + (1 + N) ≤ R.cells) (hslots : slots + (N + N * K) ≤ R.slots)
    {Q : Addr → Pre} (kk : ∀ d' acts', Q T.heap.size d' acts' ((gr_s cA cR N K T N).setTop f)) : wp (multianewarray.make cA [a, b]) Q E e d acts (T.setTop f) := by
  have l1 : ∀ n : Nat, n * 4 ≤ 536870912 → ¬ n > e.platform.arrayLengthLimit := fun n hn => by rw [Launch.admits_arrayLengthLimit X.admits]; omega
  have l2 : ∀ n : Nat, n * 4 ≤ 536870912 → ¬ n * 4 > e.platform.maxHeapBytes := fun n hn => by rw [Launch.admits_maxHeapBytes X.admits]; omega
  have room : ∀ i : Nat, i < N → (gr_s cA cR N K T i).heap.size + 1 ≤ e.platform.maxCells ∧ (gr_s cA cR N K T i).slotsUsed + K ≤ e.platform.maxSlots := fun i hi => by
    obtain ⟨L, -, hX⟩ := gr_stand X cA cR N K i
    have hm : i * K + K ≤ N * K := by
      have := Nat.mul_le_mul_right K (show i + 1 ≤ N from hi)
      rw [Nat.succ_mul] at this
      exact this
    exact hX.roomAbove (by omega) (by omega)
  obtain ⟨r1, r2⟩ := X.roomAbove (a := 1) (b := N) (by omega) (by have := Nat.zero_le (N * K); omega)
  have hf : ([b].find? (· < 0)) = none := by simp [hb]
  unfold multianewarray.make
  simp only [wp_bind', ha, if_false, W.theClass, State.vm_setTop, h1, h2, Option.some.injEq, exists_eq_left', hN]
  refine W.newArray_of (s := T.setTop f) (type := .array .int) h1 h2 (l1 N g1) (l2 N g1) r1 r2 rfl (fun acts1 => ?_)
  have e0 : (T.setTop f).pushCell { cls := cA, slots := Array.replicate N .null } = (gr_s cA cR N K T 0).setTop f := by
    show _ = (T.pushCell (gr_o cA N T.heap.size 0)).setTop f
    have : gr_o cA N T.heap.size 0 = ({ cls := cA, slots := Array.replicate N .null, vm := .none } : Cell) := by
      rw [arrV_new]
      rfl
    rw [this]
    rfl
  rw [e0]
  simp only [hf]
  rw [ite_self, wp_bind', Std.Legacy.Range.forIn_eq_forIn_range']
  have hz : ([:N] : Std.Legacy.Range).size = N := by simp [Std.Legacy.Range.size]
  rw [hz]
  show wp (forIn (List.range' 0 N 1) PUnit.unit _) _ E e d acts1 _
  refine wp_forIn_inv (fun rest U => ∃ i, i + rest.length = N ∧ rest = List.range' i rest.length ∧ U = (gr_s cA cR N K T i).setTop f) _ _ ⟨0, by rw [List.length_range', Nat.zero_add], by rw [List.length_range'], rfl⟩ ?_ ?_
  · rintro x rest U d2 acts2 Q2 ⟨i, hi, hr, rfl⟩ next
    rw [List.length_cons] at hi hr
    rw [List.range'_succ] at hr
    obtain ⟨rfl, hr2⟩ := List.cons.inj hr
    obtain ⟨q1, q2⟩ := room x (by omega)
    obtain ⟨v1, v2, -, -⟩ := gr_heap cA cR N K T x
    have hvm : ((gr_s cA cR N K T x).setTop f).vm = T.vm := gr_vm cA cR N K T x
    simp only [wp_bind']
    refine gr_row (s := (gr_s cA cR N K T x).setTop f) (kR := kR) (cI := cI) (K := K) (by rw [hvm]; exact h3) h4 hb hK (l1 K g2) (l2 K g2) q1 q2 (fun acts3 => ?_)
    simp only [wp_bind', W.writeLoc, wp_pure']
    refine ⟨gr_o cA N T.heap.size x, ?_, (by intro h; cases h), ?_, ?_, next _ _ _ ⟨x + 1, by omega, hr2, ?_⟩⟩
    · show ((gr_s cA cR N K T x).pushCell (gr_r cR K)).heap[T.heap.size]? = _
      rw [State.heap_pushCell_of_lt _ _ (show T.heap.size < (gr_s cA cR N K T x).heap.size by omega)]
      exact v2
    · show x < (arrV _ _ _).slots.size
      rw [arrV_size]
      omega
    · show State.fitsSlot (((gr_s cA cR N K T x).setTop f).pushCell (gr_r cR K)) cA .none x _ = true
      simp [State.fitsSlot, State.slotType?, gr_vm, h1, h2]
      rfl
    · show (((gr_s cA cR N K T x).pushCell (gr_r cR K)).setTop f).setCell T.heap.size ((gr_o cA N T.heap.size x).setSlot x (.ref (gr_s cA cR N K T x).heap.size)) = _
      rw [v1, gr_o_next]
      rfl
  · rintro U d2 acts2 ⟨i, hi, -, rfl⟩
    have hiN : i = N := hi
    rw [hiN]
    simp only [wp_pure']
    exact kk _ _
/-- the step -/
theorem gr_step (X : Stand p l e R s m args below meth c T locs cells slots) (hx : p.tables.exec = Jvm.exec) {own : String} {x : Nat} (hown : s.vm.findClass own = some m.cls) (hcl : (Cond.classLink own x "[[I").before args s = true) (hA : cx_AA s) (hI : (Cond.arrayClass .int).before args s = true)
    {g : JFrame} (hg : g.method = m) (hd : decode c.code g.pc = .ok (.multianewarray x 2, 4)) {a b : Int32} {st : List Value} (hst : g.stack = .int b :: .int a :: st) {N K : Nat} (ha : ¬ a < 0) (hb : ¬ b < 0) (hN : a.toNatClampNeg = N) (hK : b.toNatClampNeg = K) (g1 : N * 4 ≤ 536870912) (g2 : K * 4 ≤ 536870912)
    (hcells : cells + (1 + N) ≤ R.cells) (hslots : slots + (N + N * K) ≤ R.slots) :
    ∃ (v : Vm) (cA cR : ClassId), s.vm.findClass "[[I" = some cA ∧ s.vm.findClass "[I" = some cR ∧ Stand p l e R s m args below meth c (T.setVm v) locs cells slots ∧
      ∀ t, Steps p.tables e below ((gr_s cA cR N K (T.setVm v) N).setTop { g with pc := g.pc + 4, stack := .ref T.heap.size :: st }) t → Steps p.tables e below (T.setTop g) t := by
  subst hg
  have hpl : e.platform.magicAccessors = ({} : Platform).magicAccessors := by rw [X.admits.platform]
  obtain ⟨cR, cA, kA, w1, w2, w3, w4⟩ := hA
  obtain ⟨cR', kR, cI, u1, u2, u3⟩ := Cond.arrayClass_spec hI
  have eR : cR' = cR := Option.some.inj (u1.symm.trans w1)
  subst eR
  obtain ⟨c0, y1, y2⟩ := Cond.classLink_spec hown hcl e.platform hpl
  have eA : c0 = cA := Option.some.inj (y1.symm.trans w4)
  subst eA
  obtain ⟨z1, z2, -⟩ := State.classEntry (e := e) X.warmed y2
  generalize T.vm.noted g.method.cls x (.cls c0) = v at z1 z2
  obtain ⟨kA1, n1, n2⟩ := z2.alike.2.2 _ _ w2
  obtain ⟨kR1, n3, n4⟩ := z2.alike.2.2 _ _ u2
  have XV := X.noted z2
  refine ⟨v, c0, cR', w4, w1, XV, fun t ht => ?_⟩
  obtain ⟨L, -, XF⟩ := gr_stand XV c0 cR' N K N
  jvm_step X.here [hx, hd]
  simp only [multianewarray.sem, wp_bind', W.resolveClassAt_links (State.method?_setTop g X.here.top) z1]
  rw [W.popN, if_neg (by decide)]
  refine ⟨g, State.topJava?_setTop' (s := T.setVm v) g X.here.top, [.int a, .int b], st, rfl, hst, ?_⟩
  simp only [List.mapM_cons, List.mapM_nil, wp_bind', wp_pure']
  have e1 : ((T.setTop g).setVm v).setTop { g with stack := st } = (T.setVm v).setTop { g with stack := st } := by
    show ((T.setVm v).setTop g).setTop _ = _
    rw [State.setTop_setTop]
  rw [e1]
  refine gr_make XV (kA := kA1) (kR := kR1) (cI := cI) n1 (by rw [n2]; exact w3) n3 (by rw [n4]; exact u3) ha hb hN hK g1 g2 hcells hslots (fun d' acts' => ?_)
  simp only [wp_bind', W.mark, W.pushRef, State.topJava?_setTop' _ XF.here.top, Option.some.injEq, exists_eq_left', State.setTop_setTop]
  intro acts2
  simp [jvm]
  exact ht
end
