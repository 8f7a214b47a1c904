def cx_rm (d mc ms : Nat) : Room := { frames := d, cells := mc, slots := ms, locals := 38 * d }
def cx_oe (G : cx_G) (N c : Nat) : Nat × va_E := (c, .inl (G.2.2 2, N, .inr (.inr (.inr (.inr (fun i => if i < N then some (c + 1 + i) else none))))))
def cx_ie (G : cx_G) (K c : Nat) : Nat × va_E := (c, .inl (G.2.2 0, K, .inl (fun _ => 0)))
section
variable {G : cx_G} {R : Room} {y : MethodName} {cc : ByteArray} {nL : Nat} {w0 : va_W} {mc ms : Nat} {Q : va_W → Prop} {pc q : Nat} {L st : List Value} {ws : va_W} {k n : Nat}
theorem c_mna {x N K : Nat} {a b : Int32} (ws' : Nat → va_W) (hd : decode cc pc = .ok (.multianewarray x 2, 4)) (hq : q = pc + 4) (h1 : Cond.classLink y.cls x "[[I" ∈ px_WA) (ha : ¬ a < 0) (hb : ¬ b < 0) (hN : a.toNatClampNeg = N) (hK0 : b.toNatClampNeg = K) (hb1 : N * 4 ≤ 536870912) (hb2 : K * 4 ≤ 536870912) (hk : k + (1 + N) ≤ R.cells) (hn : n + (N + N * K) ≤ R.slots)
    (hw : ∀ c : Nat, (ws ++ [cx_oe G N c]) ++ (List.range N).map (fun i => cx_ie G K (c + 1 + i)) = ws' c)
    (kk : ∀ c, cx_w G R y cc nL w0 mc ms Q q L (.ref c :: st) (ws' c) (k + 1 + N) (n + N + N * K)) : cx_w G R y cc nL w0 mc ms Q pc L (.int b :: .int a :: st) ws k n := by
  subst hq
  subst hN
  subst hK0
  intro p e s m args below meth c X H locs ls hl hP hD hS
  have hKK := X.2.2.2.2.2.2.2.2.1
  intro T hT Xs
  obtain ⟨vm₁, cA, comp, fA, fC, XV, step⟩ := gr_step Xs X.1 X.2.2.2.1 (X.2.2.2.2.1 _ h1) X.2.2.2.2.2.2.2.2.2.2 (X.2.2.2.2.1 _ px_arrI) (g := F0 m pc ls (.int b :: .int a :: st)) rfl (by rw [X.2.1]; exact hd) rfl ha hb rfl rfl hb1 hb2 hk hn
  have e0 : comp = G.2.2 0 := by
    have h : s.vm.findClass ("[" ++ FieldType.int.toString) = some (G.2.2 0) := (hKK.2 0 (G.2.2 0, .int) rfl).2
    exact Option.some.inj (fC.symm.trans h)
  have e2 : cA = G.2.2 2 := by
    have h : s.vm.findClass ("[" ++ (FieldType.array .int).toString) = some (G.2.2 2) := (hKK.2 2 (G.2.2 2, .array .int) rfl).2
    exact Option.some.inj (fA.symm.trans h)
  subst e0
  subst e2
  obtain ⟨L, hL, X'⟩ := gr_stand XV (G.2.2 2) (G.2.2 0) a.toNatClampNeg b.toNatClampNeg a.toNatClampNeg
  obtain ⟨f1, f2, hold, hrow⟩ := gr_heap (G.2.2 2) (G.2.2 0) a.toNatClampNeg b.toNatClampNeg (T.setVm vm₁) a.toNatClampNeg
  have hTh : (T.setVm vm₁).heap = H := hT
  generalize gr_s (G.2.2 2) (G.2.2 0) a.toNatClampNeg b.toNatClampNeg (T.setVm vm₁) a.toNatClampNeg = F at X' step f1 f2 hold hrow
  rw [hTh] at f1 f2 hold hrow hL
  have hlt : ∀ (i : Nat) (x : Nat × va_E), ws[i]? = some x → x.1 < H.size := fun i x hx => (hP i x hx).lt
  have mid : ∀ (i : Nat) (x : Nat × va_E), ((List.range a.toNatClampNeg).map (fun i => cx_ie G b.toNatClampNeg (H.size + 1 + i)))[i]? = some x → i < a.toNatClampNeg ∧ x = cx_ie G b.toNatClampNeg (H.size + 1 + i) := fun i x hx => by
    rw [List.getElem?_map] at hx
    by_cases h : i < a.toNatClampNeg
    · rw [List.getElem?_range h] at hx
      exact ⟨h, (Option.some.inj hx).symm⟩
    · rw [List.getElem?_eq_none (by rw [List.length_range]; omega)] at hx
      cases hx
  -- a cell of the new world
  have cell : ∀ (i : Nat) (x : Nat × va_E), (ws' H.size)[i]? = some x → (ws[i]? = some x ∧ i < ws.length) ∨ (i = ws.length ∧ x = cx_oe G a.toNatClampNeg H.size) ∨ (ws.length + 1 ≤ i ∧ i - (ws.length + 1) < a.toNatClampNeg ∧ x = cx_ie G b.toNatClampNeg (H.size + 1 + (i - (ws.length + 1)))) := fun i x hx => by
    rw [← hw] at hx
    by_cases h1 : i < (ws ++ [cx_oe G a.toNatClampNeg H.size]).length
    · rw [List.getElem?_append_left h1] at hx
      by_cases h2 : i < ws.length
      · rw [List.getElem?_append_left h2] at hx
        exact Or.inl ⟨hx, h2⟩
      · rw [List.getElem?_append_right (by omega)] at hx
        rw [List.length_append] at h1
        have h3 : i - ws.length = 0 := by have : [cx_oe G a.toNatClampNeg H.size].length = 1 := rfl; omega
        rw [h3] at hx
        exact Or.inr (Or.inl ⟨by omega, (Option.some.inj hx).symm⟩)
    · rw [List.getElem?_append_right (by omega)] at hx
      rw [List.length_append] at hx h1
      have h3 : [cx_oe G a.toNatClampNeg H.size].length = 1 := rfl
      rw [h3] at hx h1
      obtain ⟨m1, m2⟩ := mid _ x hx
      exact Or.inr (Or.inr ⟨by omega, m1, m2⟩)
  have hP1 : va_P G.2.1 px_cl (ws' H.size) F.heap := fun i x hx => by
    rcases cell i x hx with ⟨h, -⟩ | ⟨-, rfl⟩ | ⟨-, h, rfl⟩
    · exact (hP.kept (fun k9 x hx => hold x.1 (hlt k9 x hx))) i x h
    · exact f2
    · exact hrow _ h
  have hD1 : va_D (va_A w0 s.heap.size) (ws' H.size) := by
    have hsz := hS.1
    refine ⟨fun i j x z hi hj hxz => ?_, fun i x hx => ?_⟩
    · rcases cell i x hi with ⟨h, hil⟩ | ⟨hil, rfl⟩ | ⟨hil, h, rfl⟩ <;> rcases cell j z hj with ⟨h', hjl⟩ | ⟨hjl, rfl⟩ | ⟨hjl, h', rfl⟩
      · exact hD.1 i j x z h h' hxz
      · have := hlt i x h
        unfold cx_oe cx_ie at *
        dsimp only at hxz
        omega
      · have := hlt i x h
        unfold cx_oe cx_ie at *
        dsimp only at hxz
        omega
      · have := hlt j z h'
        unfold cx_oe cx_ie at *
        dsimp only at hxz
        omega
      · omega
      · unfold cx_oe cx_ie at *
        dsimp only at hxz
        omega
      · have := hlt j z h'
        unfold cx_oe cx_ie at *
        dsimp only at hxz
        omega
      · unfold cx_oe cx_ie at *
        dsimp only at hxz
        omega
      · unfold cx_oe cx_ie at *
        dsimp only at hxz
        omega
    · rcases cell i x hx with ⟨h, -⟩ | ⟨-, rfl⟩ | ⟨-, h, rfl⟩
      · exact hD.2 i x h
      · exact cx_A_new _ hsz
      · exact cx_A_new _ (by show s.heap.size ≤ H.size + 1 + _; omega)
  have hS1 : va_S (va_A w0 s.heap.size) s.heap F.heap (locs ++ L) := ⟨by rw [f1]; have := hS.1; omega, fun x h1 h2 => (hold x (Nat.lt_of_lt_of_le h1 hS.1)).trans (hS.2.1 x h1 h2), fun q hq => by
    rcases List.mem_append.mp hq with h | h
    · exact hS.2.2 q h
    · rw [hL q h]
      exact cx_A_new _ hS.1⟩
  obtain ⟨t, a1, b1⟩ := kk H.size p e s m args below meth c X F.heap (locs ++ L) ls hl hP1 hD1 hS1 F rfl X'
  refine ⟨t, step t ?_, b1⟩
  have e : T.heap.size = H.size := by rw [hT]
  rw [e]
  exact a1
/-- a table's entry is written -/
theorem c_tab {a i0 i N : Nat} {iv v : Int32} {f : Nat → Int32} {T : List Int32} (ws' : (Nat → Int32) → va_W) (hd : decode cc pc = .ok (.iastore, 1)) (hq : q = pc + 1) (he : ws[i0]? = some (a, .inl (G.2.2 0, N, .inl f))) (hi : nI i = iv) (hN : i < N) (hN2 : N < 2 ^ 31) (hT : T.getD i 0 = v) (hf : ∀ j, j < i → f j = T.getD j 0) (hw : ∀ f', ws.set i0 (a, .inl (G.2.2 0, N, .inl f')) = ws' f')
    (kk : ∀ f', (∀ j, j < i + 1 → f' j = T.getD j 0) → cx_w G R y cc nL w0 mc ms Q q L st (ws' f') k n) : cx_w G R y cc nL w0 mc ms Q pc L (.int v :: .int iv :: .ref a :: st) ws k n := by
  subst hi
  refine c_iastore _ hd hq he (vp_in_nI hN hN2) (hw _) (kk _ (fun j hj => ?_))
  rw [nI_clamp (by omega)]
  unfold upd
  by_cases h : j = i
  · rw [if_pos h, h, hT]
  · rw [if_neg h]
    exact hf j (by omega)
end
