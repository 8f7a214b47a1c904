section
variable {aC : Nat → ClassId} {q1 a1 a2 a3 a4 a5 a6 a7 a8 a9 a10 a11 a12 a13 a14 a15 a16 a17 a18 a19 a20 a21 a22 a23 a24 a25 a26 a27 a28 a29 a30 a31 a32 a33 q2 c1 c2 c3 c4 c5 c6 c7 c8 c9 c10 c11 c12 c13 c14 c15 c16 c17 c18 t0 t1 t2 : Nat}
theorem st_mi {ad : Nat → Nat} {g : Nat → Int32} {fs : List (Option Nat)} {vs : List Value} (hl : vs.length = fs.length) (h : ∀ j, j < fs.length → vs[j]? = (fs[j]?).map (px_f ad g j)) : vs = fs.mapIdx (px_f ad g) := by
  apply List.ext_getElem?
  intro j
  rw [List.getElem?_mapIdx]
  by_cases hj : j < fs.length
  · exact h j hj
  · rw [List.getElem?_eq_none (by omega), List.getElem?_eq_none (by omega)]
    rfl
theorem st_k0 {f1 f2 : Nat → Int32} : (st_LR aC q2 c1 c2 c3 c4 c5 c6 c7 c8 c9 c10 c11 c12 c13 c14 c15 c16 c17 c18 f1 f2)[0]? = some (st_ad t0 t1 t2 (st_lR q2 c1 c2 c3 c4 c5 c6 c7 c8 c9 c10 c11 c12 c13 c14 c15 c16 c17 c18) 0, px_e (st_ad t0 t1 t2 (st_lR q2 c1 c2 c3 c4 c5 c6 c7 c8 c9 c10 c11 c12 c13 c14 c15 c16 c17 c18)) aC (st_R f1 f2 0) (px_Zr.getD 0 (.inl 0))) := by
  have e : px_Zr.getD 0 (.inl 0) = .inr (.inr (9, [some 1, some 2, none, some 3, some 4, some 5, none, some 6, none, some 7, some 8, some 9, none, none, some 10, some 11, some 12, some 13, some 14, none, some 15, some 16, some 17, some 18])) := rfl
  rw [e]
  show some ((q2, .inr (9, [.ref c1, .ref c2, .int 0, .ref c3, .ref c4, .ref c5, .int 0, .ref c6, .int 0, .ref c7, .ref c8, .ref c9, .int 0, .int 0, .ref c10, .ref c11, .ref c12, .ref c13, .ref c14, .int 0, .ref c15, .ref c16, .ref c17, .ref c18])) : Nat × va_E) = some (q2, .inr (9, [some 1, some 2, (none : Option Nat), some 3, some 4, some 5, (none : Option Nat), some 6, (none : Option Nat), some 7, some 8, some 9, (none : Option Nat), (none : Option Nat), some 10, some 11, some 12, some 13, some 14, (none : Option Nat), some 15, some 16, some 17, some 18].mapIdx (px_f (st_ad t0 t1 t2 (st_lR q2 c1 c2 c3 c4 c5 c6 c7 c8 c9 c10 c11 c12 c13 c14 c15 c16 c17 c18)) (st_R f1 f2 0))))
  rw [← st_mi (vs := [.ref c1, .ref c2, .int 0, .ref c3, .ref c4, .ref c5, .int 0, .ref c6, .int 0, .ref c7, .ref c8, .ref c9, .int 0, .int 0, .ref c10, .ref c11, .ref c12, .ref c13, .ref c14, .int 0, .ref c15, .ref c16, .ref c17, .ref c18]) rfl ?_]
  intro j hj
  have hj : j < 24 := hj
  match j, hj with
  | 0, _ => rfl
  | 1, _ => rfl
  | 2, _ => rfl
  | 3, _ => rfl
  | 4, _ => rfl
  | 5, _ => rfl
  | 6, _ => rfl
  | 7, _ => rfl
  | 8, _ => rfl
  | 9, _ => rfl
  | 10, _ => rfl
  | 11, _ => rfl
  | 12, _ => rfl
  | 13, _ => rfl
  | 14, _ => rfl
  | 15, _ => rfl
  | 16, _ => rfl
  | 17, _ => rfl
  | 18, _ => rfl
  | 19, _ => rfl
  | 20, _ => rfl
  | 21, _ => rfl
  | 22, _ => rfl
  | 23, _ => rfl
  | n + 24, hj => exact absurd hj (by omega)
set_option maxHeartbeats 4000000 in
theorem st_kR {f1 f2 : Nat → Int32} : ∀ i, i < px_Zr.length → (st_LR aC q2 c1 c2 c3 c4 c5 c6 c7 c8 c9 c10 c11 c12 c13 c14 c15 c16 c17 c18 f1 f2)[st_pR.getD i 0 - 46]? = some (st_ad t0 t1 t2 (st_lR q2 c1 c2 c3 c4 c5 c6 c7 c8 c9 c10 c11 c12 c13 c14 c15 c16 c17 c18) i, px_e (st_ad t0 t1 t2 (st_lR q2 c1 c2 c3 c4 c5 c6 c7 c8 c9 c10 c11 c12 c13 c14 c15 c16 c17 c18)) aC (st_R f1 f2 i) (px_Zr.getD i (.inl 0))) := by
  intro i hi
  have hi : i < 19 := hi
  match i, hi with
  | 0, _ => exact st_k0
  | 1, _ => rfl
  | 2, _ => rfl
  | 3, _ => rfl
  | 4, _ => rfl
  | 5, _ => rfl
  | 6, _ => rfl
  | 7, _ => rfl
  | 8, _ => rfl
  | 9, _ => rfl
  | 10, _ => rfl
  | 11, _ => rfl
  | 12, _ => rfl
  | 13, _ => rfl
  | 14, _ => rfl
  | 15, _ => rfl
  | 16, _ => rfl
  | 17, _ => rfl
  | 18, _ => rfl
  | n + 19, hi => exact absurd hi (by omega)
theorem st_pR46 : ∀ i, i < px_Zr.length → 46 ≤ st_pR.getD i 0 := by decide +kernel
theorem st_pC46 : ∀ i, i < px_Zc.length → st_pC.getD i 0 < 46 := by decide +kernel
theorem st_worlds {D : va_G} {H : Heap} {A : Nat → Prop} {f1 f2 : Nat → Int32} {g3 g31 : Nat → Option Nat} (h3 : ∀ j, g3 j = [some a4, some a6, some a8].getD j none) (h31 : ∀ j, g31 j = if j < 12 then some (a31 + 1 + j) else none)
    (hP : va_P D px_cl (st_LC aC q1 a1 a2 a3 a4 a5 a6 a7 a8 a9 a10 a11 a12 a13 a14 a15 a16 a17 a18 a19 a20 a21 a22 a23 a24 a25 a26 a27 a28 a29 a30 a31 a32 a33 g3 g31 ++ st_LR aC q2 c1 c2 c3 c4 c5 c6 c7 c8 c9 c10 c11 c12 c13 c14 c15 c16 c17 c18 f1 f2) H) (hD : va_D A (st_LC aC q1 a1 a2 a3 a4 a5 a6 a7 a8 a9 a10 a11 a12 a13 a14 a15 a16 a17 a18 a19 a20 a21 a22 a23 a24 a25 a26 a27 a28 a29 a30 a31 a32 a33 g3 g31 ++ st_LR aC q2 c1 c2 c3 c4 c5 c6 c7 c8 c9 c10 c11 c12 c13 c14 c15 c16 c17 c18 f1 f2)) (t0 t1 t2 : Nat) :
    ∃ ad ad2 : Nat → Nat, ad 0 = q1 ∧ ad2 0 = q2 ∧ (∀ t, ad (1000 + t) = [t0, t1, t2].getD t 0) ∧ (∀ t, ad2 (1000 + t) = [t0, t1, t2].getD t 0) ∧ va_P D px_cl (px_W ad aC px_Zc st_S) H ∧ va_P D px_cl (px_W ad2 aC px_Zr (st_R f1 f2)) H ∧ px_J ad px_Zc ∧ px_J ad2 px_Zr ∧ (∀ i, i < px_Zc.length → A (ad i)) ∧ (∀ i, i < px_Zr.length → A (ad2 i)) ∧ ∀ i j, i < px_Zc.length → j < px_Zr.length → ad i ≠ ad2 j := by
  have e3 : g3 = st_g3 (st_ad t0 t1 t2 (st_lC q1 a1 a2 a3 a4 a5 a6 a7 a8 a9 a10 a11 a12 a13 a14 a15 a16 a17 a18 a19 a20 a21 a22 a23 a24 a25 a26 a27 a28 a29 a30 a31 a32 a33)) := funext (fun j => by rw [h3]; match j with | 0 => rfl | 1 => rfl | 2 => rfl | n + 3 => rfl)
  have e31 : g31 = st_g31 (st_ad t0 t1 t2 (st_lC q1 a1 a2 a3 a4 a5 a6 a7 a8 a9 a10 a11 a12 a13 a14 a15 a16 a17 a18 a19 a20 a21 a22 a23 a24 a25 a26 a27 a28 a29 a30 a31 a32 a33)) := funext (fun j => by
    rw [h31]
    match j with
    | 0 => rfl
    | 1 => rfl
    | 2 => rfl
    | 3 => rfl
    | 4 => rfl
    | 5 => rfl
    | 6 => rfl
    | 7 => rfl
    | 8 => rfl
    | 9 => rfl
    | 10 => rfl
    | 11 => rfl
    | n + 12 => rw [if_neg (by omega)]; rfl)
  subst e3
  subst e31
  have lC : (st_LC aC q1 a1 a2 a3 a4 a5 a6 a7 a8 a9 a10 a11 a12 a13 a14 a15 a16 a17 a18 a19 a20 a21 a22 a23 a24 a25 a26 a27 a28 a29 a30 a31 a32 a33 (st_g3 (st_ad t0 t1 t2 (st_lC q1 a1 a2 a3 a4 a5 a6 a7 a8 a9 a10 a11 a12 a13 a14 a15 a16 a17 a18 a19 a20 a21 a22 a23 a24 a25 a26 a27 a28 a29 a30 a31 a32 a33))) (st_g31 (st_ad t0 t1 t2 (st_lC q1 a1 a2 a3 a4 a5 a6 a7 a8 a9 a10 a11 a12 a13 a14 a15 a16 a17 a18 a19 a20 a21 a22 a23 a24 a25 a26 a27 a28 a29 a30 a31 a32 a33)))).length = 46 := rfl
  have kC := fun i hi => (List.getElem?_append_left (l₂ := st_LR aC q2 c1 c2 c3 c4 c5 c6 c7 c8 c9 c10 c11 c12 c13 c14 c15 c16 c17 c18 f1 f2) (by rw [lC]; exact st_pC46 i hi)).trans (st_kC (aC := aC) (t0 := t0) (t1 := t1) (t2 := t2) (q1 := q1) (a1 := a1) (a2 := a2) (a3 := a3) (a4 := a4) (a5 := a5) (a6 := a6) (a7 := a7) (a8 := a8) (a9 := a9) (a10 := a10) (a11 := a11) (a12 := a12) (a13 := a13) (a14 := a14) (a15 := a15) (a16 := a16) (a17 := a17) (a18 := a18) (a19 := a19) (a20 := a20) (a21 := a21) (a22 := a22) (a23 := a23) (a24 := a24) (a25 := a25) (a26 := a26) (a27 := a27) (a28 := a28) (a29 := a29) (a30 := a30) (a31 := a31) (a32 := a32) (a33 := a33) i hi)
  have kR := fun i hi => (List.getElem?_append_right (l₂ := st_LR aC q2 c1 c2 c3 c4 c5 c6 c7 c8 c9 c10 c11 c12 c13 c14 c15 c16 c17 c18 f1 f2) (by rw [lC]; exact st_pR46 i hi)).trans (st_kR (aC := aC) (t0 := t0) (t1 := t1) (t2 := t2) (q2 := q2) (c1 := c1) (c2 := c2) (c3 := c3) (c4 := c4) (c5 := c5) (c6 := c6) (c7 := c7) (c8 := c8) (c9 := c9) (c10 := c10) (c11 := c11) (c12 := c12) (c13 := c13) (c14 := c14) (c15 := c15) (c16 := c16) (c17 := c17) (c18 := c18) (f1 := f1) (f2 := f2) i hi)
  obtain ⟨p1, p2, p3⟩ := st_w hP hD kC st_iC
  obtain ⟨r1, r2, r3⟩ := st_w hP hD kR st_iR
  exact ⟨_, _, rfl, rfl, st_adt _ _ _ _, st_adt _ _ _ _, p1, r1, p2, r2, p3, r3, fun i j hi hj h => st_dis i hi j hj (hD.1 _ _ _ _ (kC i hi) (kR j hj) h)⟩
end
theorem st_svC : sv_C st_S [] (fun _ => []) [] := ⟨⟨rfl, fun j hj => absurd hj (Nat.not_lt_zero _)⟩, fun f hf => ⟨by match f, hf with | 0, _ => rfl | 1, _ => rfl | 2, _ => rfl, fun j hj => absurd hj (Nat.not_lt_zero _)⟩, rfl, fun j hj => absurd hj (Nat.not_lt_zero _)⟩
theorem st_svR {f1 f2 : Nat → Int32} (hf1 : ∀ j, j < 64 → f1 j = px_t0.getD j 0) (hf2 : ∀ j, j < 12 → f2 j = px_t2.getD j 0) : sv_R (st_R f1 f2) [] (fun _ => []) [] := ⟨⟨hf1, hf2⟩, ⟨rfl, fun j hj => absurd hj (Nat.not_lt_zero _)⟩, fun f hf => ⟨rfl, fun j hj => absurd hj (Nat.not_lt_zero _)⟩, rfl, fun j hj => absurd hj (Nat.not_lt_zero _)⟩
theorem st_ok : sv_ok [] (fun _ => []) [] := ⟨⟨Nat.zero_le _, ls_by_nil⟩, fun f _ => ⟨Nat.zero_le _, ls_by_nil⟩, Nat.zero_le _, ls_by_nil⟩
