/-! The law's start: the two worlds -/
theorem st_w {ws : va_W} {pos : List Nat} {ad : Nat → Nat} {aC : Nat → ClassId} {Z : List px_C} {S : px_S} {D : va_G} {H : Heap} {A : Nat → Prop} (hP : va_P D px_cl ws H) (hD : va_D A ws) (key : ∀ i, i < Z.length → ws[pos.getD i 0]? = some (ad i, px_e ad aC (S i) (Z.getD i (.inl 0)))) (hinj : ∀ i, i < Z.length → ∀ j, j < Z.length → pos.getD i 0 = pos.getD j 0 → i = j) : va_P D px_cl (px_W ad aC Z S) H ∧ px_J ad Z ∧ ∀ i, i < Z.length → A (ad i) := by
  refine ⟨fun k q hk => ?_, fun i j hi hj h => ?_, fun i hi => hD.2 _ _ (key i hi)⟩
  · obtain ⟨hk', -⟩ := px_at hk
    have hz : Z[k]? = some (Z.getD k (.inl 0)) := by rw [List.getD_eq_getElem?_getD, List.getElem?_eq_getElem hk']; rfl
    rw [px_get hz] at hk
    have h2 := Option.some.inj hk
    subst h2
    exact hP _ _ (key k hk')
  · exact hinj i hi j hj (hD.1 _ _ _ _ (key i hi) (key j hj) h)
def st_S : px_S := fun k => cond (Nat.beq k 24) (fun j => cond (Nat.beq j 8) (-1) 0) (fun _ => 0)
def st_R (f1 f2 : Nat → Int32) : px_S := fun k => cond (Nat.beq k 1) f1 (cond (Nat.beq k 2) f2 (fun _ => 0))
def st_pC : List Nat := [0, 1, 2, 3, 4, 5, 6, 7, 8, 9, 10, 11, 12, 14, 15, 16, 17, 13, 18, 19, 20, 21, 24, 22, 23, 25, 26, 27, 28, 29, 30, 31, 32, 33, 34, 35, 36, 37, 38, 39, 40, 41, 42, 43, 44, 45]
def st_pR : List Nat := [46, 47, 48, 49, 50, 51, 52, 53, 54, 55, 56, 57, 58, 59, 60, 61, 62, 63, 64]
theorem st_iC : ∀ i, i < px_Zc.length → ∀ j, j < px_Zc.length → st_pC.getD i 0 = st_pC.getD j 0 → i = j := by decide +kernel
theorem st_iR : ∀ i, i < px_Zr.length → ∀ j, j < px_Zr.length → st_pR.getD i 0 = st_pR.getD j 0 → i = j := by decide +kernel
theorem st_dis : ∀ i, i < px_Zc.length → ∀ j, j < px_Zr.length → st_pC.getD i 0 ≠ st_pR.getD j 0 := by decide +kernel
def st_ad (t0 t1 t2 : Nat) (l : List Nat) : Nat → Nat := fun k => cond (Nat.ble 1000 k) ([t0, t1, t2].getD (k - 1000) 0) (l.getD k 0)
theorem st_adt (t0 t1 t2 : Nat) (l : List Nat) (t : Nat) : st_ad t0 t1 t2 l (1000 + t) = [t0, t1, t2].getD t 0 := by
  have e : Nat.ble 1000 (1000 + t) = true := Nat.ble_eq_true_of_le (Nat.le_add_right _ _)
  show cond (Nat.ble 1000 (1000 + t)) _ _ = _
  rw [e, Nat.add_sub_cancel_left]; rfl
def st_LC (aC : Nat → ClassId) (q1 a1 a2 a3 a4 a5 a6 a7 a8 a9 a10 a11 a12 a13 a14 a15 a16 a17 a18 a19 a20 a21 a22 a23 a24 a25 a26 a27 a28 a29 a30 a31 a32 a33 : Nat) (g3 g31 : Nat → Option Nat) : va_W := [(q1, .inr (0, [.ref a1, .ref a3, .ref a10, .ref a12, .ref a23, .ref a24, .ref a29])), (a1, .inr (1, [.ref a2, .int 0])), (a2, .inl (aC 0, 40, .inl (fun _ => 0))), (a3, .inl (aC 1, 3, .inr (.inr (.inr (.inr g3))))), (a4, .inr (1, [.ref a5, .int 0])), (a5, .inl (aC 0, 40, .inl (fun _ => 0))), (a6, .inr (1, [.ref a7, .int 0])), (a7, .inl (aC 0, 40, .inl (fun _ => 0))), (a8, .inr (1, [.ref a9, .int 0])), (a9, .inl (aC 0, 40, .inl (fun _ => 0))), (a10, .inr (1, [.ref a11, .int 0])), (a11, .inl (aC 0, 694, .inl (fun _ => 0))), (a12, .inr (2, [.ref a14, .ref a16, .ref a17, .ref a13, .int 0])), (a13, .inl (aC 0, 4, .inl (fun _ => 0))), (a14, .inr (1, [.ref a15, .int 0])), (a15, .inl (aC 0, 96, .inl (fun _ => 0))), (a16, .inl (aC 0, 3, .inl (fun _ => 0))), (a17, .inl (aC 0, 3, .inl (fun _ => 0))), (a18, .inr (3, [.ref a19, .ref a20, .ref a21, .int 0])), (a19, .inl (aC 0, 768, .inl (fun _ => 0))), (a20, .inl (aC 0, 16, .inl (fun _ => 0))), (a21, .inl (aC 0, 4, .inl (fun _ => 0))), (a23, .inr (5, [.ref a22, .ref a10, .ref a12, .ref a18])), (a24, .inr (6, [.ref a22, .ref a10, .ref a18, .ref a25, .ref a26, .ref a27, .ref a28, .int 0, .int (-1), .int 0, .int 0])), (a22, .inr (4, [.ref a10, .ref a18, .int 0])), (a25, .inl (aC 0, 26, .inl (fun _ => 0))), (a26, .inl (aC 0, 3, .inl (fun _ => 0))), (a27, .inl (aC 0, 3, .inl (fun _ => 0))), (a28, .inl (aC 0, 256, .inl (fun _ => 0))), (a29, .inr (7, [.ref a24, .ref a12, .ref a18, .ref a30, .ref a33, .int 0, .int 0])), (a30, .inr (8, [.ref a31, .ref a32, .int 0, .int 0])), (a31, .inl (aC 2, 12, .inr (.inr (.inr (.inr g31))))), (a31 + 1 + 0, .inl (aC 0, 16, .inl (fun _ => 0))), (a31 + 1 + 1, .inl (aC 0, 16, .inl (fun _ => 0))), (a31 + 1 + 2, .inl (aC 0, 16, .inl (fun _ => 0))), (a31 + 1 + 3, .inl (aC 0, 16, .inl (fun _ => 0))), (a31 + 1 + 4, .inl (aC 0, 16, .inl (fun _ => 0))), (a31 + 1 + 5, .inl (aC 0, 16, .inl (fun _ => 0))), (a31 + 1 + 6, .inl (aC 0, 16, .inl (fun _ => 0))), (a31 + 1 + 7, .inl (aC 0, 16, .inl (fun _ => 0))), (a31 + 1 + 8, .inl (aC 0, 16, .inl (fun _ => 0))), (a31 + 1 + 9, .inl (aC 0, 16, .inl (fun _ => 0))), (a31 + 1 + 10, .inl (aC 0, 16, .inl (fun _ => 0))), (a31 + 1 + 11, .inl (aC 0, 16, .inl (fun _ => 0))), (a32, .inl (aC 0, 12, .inl (fun _ => 0))), (a33, .inl (aC 0, 12, .inl (fun _ => 0)))]
def st_LR (aC : Nat → ClassId) (q2 c1 c2 c3 c4 c5 c6 c7 c8 c9 c10 c11 c12 c13 c14 c15 c16 c17 c18 : Nat) (f1 f2 : Nat → Int32) : va_W := [(q2, .inr (9, [.ref c1, .ref c2, .int 0, .ref c3, .ref c4, .ref c5, .int 0, .ref c6, .int 0, .ref c7, .ref c8, .ref c9, .int 0, .int 0, .ref c10, .ref c11, .ref c12, .ref c13, .ref c14, .int 0, .ref c15, .ref c16, .ref c17, .ref c18])), (c1, .inl (aC 0, 64, .inl f1)), (c2, .inl (aC 0, 12, .inl f2)), (c3, .inl (aC 0, 40, .inl (fun _ => 0))), (c4, .inl (aC 0, 120, .inl (fun _ => 0))), (c5, .inl (aC 0, 3, .inl (fun _ => 0))), (c6, .inl (aC 0, 800, .inl (fun _ => 0))), (c7, .inl (aC 0, 900, .inl (fun _ => 0))), (c8, .inl (aC 0, 16, .inl (fun _ => 0))), (c9, .inl (aC 0, 16, .inl (fun _ => 0))), (c10, .inl (aC 0, 3, .inl (fun _ => 0))), (c11, .inl (aC 0, 4, .inl (fun _ => 0))), (c12, .inl (aC 0, 3, .inl (fun _ => 0))), (c13, .inl (aC 0, 3, .inl (fun _ => 0))), (c14, .inl (aC 0, 256, .inl (fun _ => 0))), (c15, .inl (aC 0, 96, .inl (fun _ => 0))), (c16, .inl (aC 0, 144, .inl (fun _ => 0))), (c17, .inl (aC 0, 48, .inl (fun _ => 0))), (c18, .inl (aC 0, 12, .inl (fun _ => 0)))]
def st_lC (q1 a1 a2 a3 a4 a5 a6 a7 a8 a9 a10 a11 a12 a13 a14 a15 a16 a17 a18 a19 a20 a21 a22 a23 a24 a25 a26 a27 a28 a29 a30 a31 a32 a33 : Nat) : List Nat := [q1, a1, a2, a3, a4, a5, a6, a7, a8, a9, a10, a11, a12, a14, a15, a16, a17, a13, a18, a19, a20, a21, a22, a23, a24, a25, a26, a27, a28, a29, a30, a31, a31 + 1 + 0, a31 + 1 + 1, a31 + 1 + 2, a31 + 1 + 3, a31 + 1 + 4, a31 + 1 + 5, a31 + 1 + 6, a31 + 1 + 7, a31 + 1 + 8, a31 + 1 + 9, a31 + 1 + 10, a31 + 1 + 11, a32, a33]
def st_lR (q2 c1 c2 c3 c4 c5 c6 c7 c8 c9 c10 c11 c12 c13 c14 c15 c16 c17 c18 : Nat) : List Nat := [q2, c1, c2, c3, c4, c5, c6, c7, c8, c9, c10, c11, c12, c13, c14, c15, c16, c17, c18]
def st_g3 (ad : Nat → Nat) : Nat → Option Nat := fun j => (([4, 6, 8] : List Nat)[j]?).map ad
def st_g31 (ad : Nat → Nat) : Nat → Option Nat := fun j => (([32, 33, 34, 35, 36, 37, 38, 39, 40, 41, 42, 43] : List Nat)[j]?).map ad
section
variable {aC : Nat → ClassId} {q1 a1 a2 a3 a4 a5 a6 a7 a8 a9 a10 a11 a12 a13 a14 a15 a16 a17 a18 a19 a20 a21 a22 a23 a24 a25 a26 a27 a28 a29 a30 a31 a32 a33 q2 c1 c2 c3 c4 c5 c6 c7 c8 c9 c10 c11 c12 c13 c14 c15 c16 c17 c18 t0 t1 t2 : Nat}
set_option maxHeartbeats 4000000 in
theorem st_kC : ∀ i, i < px_Zc.length → (st_LC aC q1 a1 a2 a3 a4 a5 a6 a7 a8 a9 a10 a11 a12 a13 a14 a15 a16 a17 a18 a19 a20 a21 a22 a23 a24 a25 a26 a27 a28 a29 a30 a31 a32 a33 (st_g3 (st_ad t0 t1 t2 (st_lC q1 a1 a2 a3 a4 a5 a6 a7 a8 a9 a10 a11 a12 a13 a14 a15 a16 a17 a18 a19 a20 a21 a22 a23 a24 a25 a26 a27 a28 a29 a30 a31 a32 a33))) (st_g31 (st_ad t0 t1 t2 (st_lC q1 a1 a2 a3 a4 a5 a6 a7 a8 a9 a10 a11 a12 a13 a14 a15 a16 a17 a18 a19 a20 a21 a22 a23 a24 a25 a26 a27 a28 a29 a30 a31 a32 a33))))[st_pC.getD i 0]? = some (st_ad t0 t1 t2 (st_lC q1 a1 a2 a3 a4 a5 a6 a7 a8 a9 a10 a11 a12 a13 a14 a15 a16 a17 a18 a19 a20 a21 a22 a23 a24 a25 a26 a27 a28 a29 a30 a31 a32 a33) i, px_e (st_ad t0 t1 t2 (st_lC q1 a1 a2 a3 a4 a5 a6 a7 a8 a9 a10 a11 a12 a13 a14 a15 a16 a17 a18 a19 a20 a21 a22 a23 a24 a25 a26 a27 a28 a29 a30 a31 a32 a33)) aC (st_S i) (px_Zc.getD i (.inl 0))) := by
  intro i hi
  have hi : i < 46 := hi
  match i, hi with
  | 0, _ => rfl
  | 1, _ => rfl
  | 2, _ => rfl
  | 3, _ => rfl
  | 4, _ => rfl
  | 5, _ => rfl
  | 6, _ => rfl
  | 7, _ => rfl
  | 8, _ => rfl
  | 9, _ => rfl
  | 10, _ => rfl
  | 11, _ => rfl
  | 12, _ => rfl
  | 13, _ => rfl
  | 14, _ => rfl
  | 15, _ => rfl
  | 16, _ => rfl
  | 17, _ => rfl
  | 18, _ => rfl
  | 19, _ => rfl
  | 20, _ => rfl
  | 21, _ => rfl
  | 22, _ => rfl
  | 23, _ => rfl
  | 24, _ => rfl
  | 25, _ => rfl
  | 26, _ => rfl
  | 27, _ => rfl
  | 28, _ => rfl
  | 29, _ => rfl
  | 30, _ => rfl
  | 31, _ => rfl
  | 32, _ => rfl
  | 33, _ => rfl
  | 34, _ => rfl
  | 35, _ => rfl
  | 36, _ => rfl
  | 37, _ => rfl
  | 38, _ => rfl
  | 39, _ => rfl
  | 40, _ => rfl
  | 41, _ => rfl
  | 42, _ => rfl
  | 43, _ => rfl
  | 44, _ => rfl
  | 45, _ => rfl
  | n + 46, hi => exact absurd hi (by omega)
end
