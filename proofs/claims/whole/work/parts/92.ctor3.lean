def cx_rm (d mc ms : Nat) : Room := { frames := d, cells := mc, slots := ms, locals := 38 * d }
theorem cx_outer (c : ClassId) (N h0 : Nat) : ∀ i : Nat, Jvm.Free.Multi.outerC c N h0 i = arrV c N (fun j => va_rf (if j < i then some (h0 + 1 + j) else none))
  | 0 => by
    have h : Jvm.Free.Multi.outerC c N h0 0 = ({ cls := c, slots := Array.replicate N .null, vm := .none } : Cell) := rfl
    rw [h, arrV_new]
    congr 1
  | i + 1 => by
    have h : Jvm.Free.Multi.outerC c N h0 (i + 1) = (Jvm.Free.Multi.outerC c N h0 i).setSlot i (.ref (h0 + 1 + i)) := rfl
    rw [h, cx_outer c N h0 i, arrV_store]
    congr 1
    funext j
    unfold updV
    by_cases e : j = i
    · rw [if_pos e, e, if_pos (Nat.lt_succ_self i)]
      rfl
    · by_cases h2 : j < i
      · rw [if_neg e]
        dsimp only
        rw [if_pos h2, if_pos (by omega)]
      · rw [if_neg e]
        dsimp only
        rw [if_neg h2, if_neg (by omega)]
def cx_oe (G : cx_G) (N c : Nat) : Nat × va_E := (c, .inl (G.2.2 2, N, .inr (.inr (.inr (.inr (fun i => if i < N then some (c + 1 + i) else none))))))
def cx_ie (G : cx_G) (K c : Nat) : Nat × va_E := (c, .inl (G.2.2 0, K, .inl (fun _ => 0)))
section
variable {G : cx_G} {R : Room} {y : MethodName} {cc : ByteArray} {nL : Nat} {w0 : va_W} {mc ms : Nat} {Q : va_W → Prop} {pc q : Nat} {L st : List Value} {ws : va_W} {k n : Nat}
theorem c_mna {x N K : Nat} {a b : Int32} (ws' : Nat → va_W) (hd : decode cc pc = .ok (.multianewarray x 2, 4)) (hq : q = pc + 4) (h1 : Cond.classLink y.cls x "[[I" ∈ px_WA) (ha : ¬ a < 0) (hb : ¬ b < 0) (hN : a.toNatClampNeg = N) (hK0 : b.toNatClampNeg = K) (hb1 : N * 4 ≤ 536870912) (hb2 : K * 4 ≤ 536870912) (hk : k + (1 + N) ≤ R.cells) (hn : n + (N + N * K) ≤ R.slots)
    (hw : ∀ c : Nat, (ws ++ [cx_oe G N c]) ++ (List.range N).map (fun i => cx_ie G K (c + 1 + i)) = ws' c)
    (kk : ∀ c, cx_w G R y cc nL w0 mc ms Q q L (.ref c :: st) (ws' c) (k + 1 + N) (n + N + N * K)) : cx_w G R y cc nL w0 mc ms Q pc L (.int b :: .int a :: st) ws k n := by
  subst hq
  subst hN
  subst hK0
  intro p e s m args below meth c X H locs ls hl hP hD hS
  have hKK := X.2.2.2.2.2.2.2.2.1
  intro T hT Xs
  have hov : (Cond.arrayOver (.array .int)).before args s = true := arrayOver_alikeB (Vm.Alike.refl s.vm) X.2.2.2.2.2.2.2.2.2.2
  obtain ⟨vm₁, cA, comp, -, fA, fC, -, -, X', step⟩ := Xs.multianewarray2F (ty := .int) X.1 X.2.2.2.1 (X.2.2.2.2.1 _ h1) hov (X.2.2.2.2.1 _ px_arrI) (g := F0 m pc ls (.int b :: .int a :: st)) rfl (by rw [X.2.1]; exact hd) rfl ha hb hb1 hb2 (by omega) rfl rfl hk hn
  have e0 : comp = G.2.2 0 := by
    have h : s.vm.findClass ("[" ++ FieldType.int.toString) = some (G.2.2 0) := (hKK.2 0 (G.2.2 0, .int) rfl).2
    exact Option.some.inj (fC.symm.trans h)
  have e2 : cA = G.2.2 2 := by
    have h : s.vm.findClass ("[" ++ (FieldType.array .int).toString) = some (G.2.2 2) := (hKK.2 2 (G.2.2 2, .array .int) rfl).2
    exact Option.some.inj (fA.symm.trans h)
  subst e0
  subst e2
  generalize hF : Jvm.Free.Multi.fill (T.setVm vm₁) (G.2.2 2) (G.2.2 0) a.toNatClampNeg b.toNatClampNeg (defaultValue .int) a.toNatClampNeg = F at X' step
  have hTh : (T.setVm vm₁).heap = H := hT
  obtain ⟨f1, f2, -, -⟩ := Jvm.Free.Multi.fill_facts (T.setVm vm₁) (G.2.2 2) (G.2.2 0) a.toNatClampNeg b.toNatClampNeg (defaultValue .int) a.toNatClampNeg
  rw [hF, hTh] at f1 f2
  have hold : ∀ x : Nat, x < H.size → F.heap[x]? = H[x]? := fun x hx => by
    have := Jvm.Free.Multi.fill_old (T.setVm vm₁) (G.2.2 2) (G.2.2 0) a.toNatClampNeg b.toNatClampNeg (defaultValue .int) (a := x) (by rw [hTh]; exact hx) a.toNatClampNeg
    rw [hF, hTh] at this
    exact this
  have hrow : ∀ j : Nat, j < a.toNatClampNeg → F.heap[H.size + 1 + j]? = some (vp_cell (G.2.2 0) (b.toNatClampNeg, .inl (fun _ => 0))) := fun j hj => by
    have := Jvm.Free.Multi.fill_inner (T.setVm vm₁) (G.2.2 2) (G.2.2 0) a.toNatClampNeg b.toNatClampNeg (defaultValue .int) a.toNatClampNeg j hj
    rw [hF, hTh] at this
    rw [this]
    exact congrArg some (arrV_new _ _ _)
  rw [cx_outer] at f2
  have hlt : ∀ (i : Nat) (x : Nat × va_E), ws[i]? = some x → x.1 < H.size := fun i x hx => (hP i x hx).lt
  have mid : ∀ (i : Nat) (x : Nat × va_E), ((List.range a.toNatClampNeg).map (fun i => cx_ie G b.toNatClampNeg (H.size + 1 + i)))[i]? = some x → i < a.toNatClampNeg ∧ x = cx_ie G b.toNatClampNeg (H.size + 1 + i) := fun i x hx => by
    rw [List.getElem?_map] at hx
    by_cases h : i < a.toNatClampNeg
    · rw [List.getElem?_range h] at hx
      exact ⟨h, (Option.some.inj hx).symm⟩
    · rw [List.getElem?_eq_none (by rw [List.length_range]; omega)] at hx
      cases hx
  -- a cell of the new world
  have cell : ∀ (i : Nat) (x : Nat × va_E), (ws' H.size)[i]? = some x → (ws[i]? = some x ∧ i < ws.length) ∨ (i = ws.length ∧ x = cx_oe G a.toNatClampNeg H.size) ∨ (ws.length + 1 ≤ i ∧ i - (ws.length + 1) < a.toNatClampNeg ∧ x = cx_ie G b.toNatClampNeg (H.size + 1 + (i - (ws.length + 1)))) := fun i x hx => by
    rw [← hw] at hx
    by_cases h1 : i < (ws ++ [cx_oe G a.toNatClampNeg H.size]).length
    · rw [List.getElem?_append_left h1] at hx
      by_cases h2 : i < ws.length
      · rw [List.getElem?_append_left h2] at hx
        exact Or.inl ⟨hx, h2⟩
      · rw [List.getElem?_append_right (by omega)] at hx
        rw [List.length_append] at h1
        have h3 : i - ws.length = 0 := by have : [cx_oe G a.toNatClampNeg H.size].length = 1 := rfl; omega
        rw [h3] at hx
        exact Or.inr (Or.inl ⟨by omega, (Option.some.inj hx).symm⟩)
    · rw [List.getElem?_append_right (by omega)] at hx
      rw [List.length_append] at hx h1
      have h3 : [cx_oe G a.toNatClampNeg H.size].length = 1 := rfl
      rw [h3] at hx h1
      obtain ⟨m1, m2⟩ := mid _ x hx
      exact Or.inr (Or.inr ⟨by omega, m1, m2⟩)
  have hP1 : va_P G.2.1 px_cl (ws' H.size) F.heap := fun i x hx => by
    rcases cell i x hx with ⟨h, -⟩ | ⟨-, rfl⟩ | ⟨-, h, rfl⟩
    · exact (hP.kept (fun k9 x hx => hold x.1 (hlt k9 x hx))) i x h
    · exact f2
    · exact hrow _ h
  have hD1 : va_D (va_A w0 s.heap.size) (ws' H.size) := by
    have hsz := hS.1
    refine ⟨fun i j x z hi hj hxz => ?_, fun i x hx => ?_⟩
    · rcases cell i x hi with ⟨h, hil⟩ | ⟨hil, rfl⟩ | ⟨hil, h, rfl⟩ <;> rcases cell j z hj with ⟨h', hjl⟩ | ⟨hjl, rfl⟩ | ⟨hjl, h', rfl⟩
      · exact hD.1 i j x z h h' hxz
      · have := hlt i x h
        unfold cx_oe cx_ie at *
        dsimp only at hxz
        omega
      · have := hlt i x h
        unfold cx_oe cx_ie at *
        dsimp only at hxz
        omega
      · have := hlt j z h'
        unfold cx_oe cx_ie at *
        dsimp only at hxz
        omega
      · omega
      · unfold cx_oe cx_ie at *
        dsimp only at hxz
        omega
      · have := hlt j z h'
        unfold cx_oe cx_ie at *
        dsimp only at hxz
        omega
      · unfold cx_oe cx_ie at *
        dsimp only at hxz
        omega
      · unfold cx_oe cx_ie at *
        dsimp only at hxz
        omega
    · rcases cell i x hx with ⟨h, -⟩ | ⟨-, rfl⟩ | ⟨-, h, rfl⟩
      · exact hD.2 i x h
      · exact cx_A_new _ hsz
      · exact cx_A_new _ (by show s.heap.size ≤ H.size + 1 + _; omega)
  have hS1 : va_S (va_A w0 s.heap.size) s.heap F.heap locs := ⟨by rw [f1]; have := hS.1; omega, fun x h1 h2 => (hold x (Nat.lt_of_lt_of_le h1 hS.1)).trans (hS.2.1 x h1 h2), hS.2.2⟩
  obtain ⟨t, a1, b1⟩ := kk H.size p e s m args below meth c X F.heap locs ls hl hP1 hD1 hS1 F rfl X'
  refine ⟨t, step t ?_, b1⟩
  have e : T.heap.size = H.size := by rw [hT]
  rw [e]
  exact a1
/-- a table's entry is written -/
theorem c_tab {a i0 i N : Nat} {iv v : Int32} {f : Nat → Int32} {T : List Int32} (ws' : (Nat → Int32) → va_W) (hd : decode cc pc = .ok (.iastore, 1)) (hq : q = pc + 1) (he : ws[i0]? = some (a, .inl (G.2.2 0, N, .inl f))) (hi : nI i = iv) (hN : i < N) (hN2 : N < 2 ^ 31) (hT : T.getD i 0 = v) (hf : ∀ j, j < i → f j = T.getD j 0) (hw : ∀ f', ws.set i0 (a, .inl (G.2.2 0, N, .inl f')) = ws' f')
    (kk : ∀ f', (∀ j, j < i + 1 → f' j = T.getD j 0) → cx_w G R y cc nL w0 mc ms Q q L st (ws' f') k n) : cx_w G R y cc nL w0 mc ms Q pc L (.int v :: .int iv :: .ref a :: st) ws k n := by
  subst hi
  refine c_iastore _ hd hq he (vp_in_nI hN hN2) (hw _) (kk _ (fun j hj => ?_))
  rw [nI_clamp (by omega)]
  unfold upd
  by_cases h : j = i
  · rw [if_pos h, h, hT]
  · rw [if_neg h]
    exact hf j (by omega)
end
