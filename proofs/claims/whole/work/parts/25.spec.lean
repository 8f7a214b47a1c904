/-! What slices are -/
def sp_pf (F : List Int32) (n : Nat) : List Int32 := (List.range (8 * ((n + 7) / 8))).map (fun i => if i < n then F.getD i 0 else 0)
theorem sp_pf_len (F : List Int32) (n : Nat) : (sp_pf F n).length = 8 * ((n + 7) / 8) := by simp [sp_pf]
/-- the slices of the files below f, of the lengths t, one file behind the other -/
def sp_c (F : Nat → List Int32) (t : Nat → Nat) : Nat → List Int32
  | 0 => []
  | f + 1 => sp_c F t f ++ sp_pf (F f) (t f)
def sp_n (t : Nat → Nat) : Nat → Nat
  | 0 => 0
  | f + 1 => sp_n t f + (t f + 7) / 8
theorem sp_c_len (F : Nat → List Int32) (t : Nat → Nat) (f : Nat) : (sp_c F t f).length = 8 * sp_n t f := by
  induction f with
  | zero => rfl
  | succ f ih =>
    show (sp_c F t f ++ sp_pf (F f) (t f)).length = 8 * (sp_n t f + (t f + 7) / 8)
    rw [List.length_append, ih, sp_pf_len]
    omega
/-- byte i of a row, as a number -/
def sp_bt (L : List Int32) (i : Nat) : Nat := (L.getD i 0).toBitVec.toNat % 256
theorem sp_bt_lt (L : List Int32) (i : Nat) : sp_bt L i < 256 := Nat.mod_lt _ (by decide)
theorem sp_bt_eq {L : List Int32} (h : ls_by L) (i : Nat) : L.getD i 0 = nI (sp_bt L i) := by
  have h1 := ls_by_getD h i
  rw [pk_and (L.getD i 0) (m := 255) 8 (by decide)] at h1
  exact h1.symm
theorem sp_or {x y : Nat} (hx : x < 256) (hy : y < 256) : nI x ||| px_shl (nI y) 8 = nI (x + 256 * y) := by
  have e1 : px_shl (nI y) 8 = nI (y * 2 ^ 8) := px_shlN (k := 8) (by decide) (by omega)
  rw [e1, nI_or (by omega) (by omega), Nat.or_comm, Nat.mul_comm y, ← Nat.two_pow_add_eq_or_of_lt (i := 8) hx y]
  congr 1
  omega
/-- number q of slice j -/
def sp_num (C : List Int32) (j q : Nat) : BitVec 16 := BitVec.ofNat 16 (sp_bt C (8 * j + 2 * q) + 256 * sp_bt C (8 * j + 2 * q + 1))
theorem sp_num_eq {C : List Int32} (h : ls_by C) (j q : Nat) : C.getD (8 * j + 2 * q) 0 ||| px_shl (C.getD (8 * j + 2 * q + 1) 0) 8 = gE (sp_num C j q) := by
  rw [sp_bt_eq h, sp_bt_eq h, sp_or (sp_bt_lt _ _) (sp_bt_lt _ _)]
  unfold gE sp_num
  rw [BitVec.toNat_ofNat]
  have h1 := sp_bt_lt C (8 * j + 2 * q)
  have h2 := sp_bt_lt C (8 * j + 2 * q + 1)
  rw [Nat.mod_eq_of_lt (by omega)]
/-- number q of the recovery slice with the exponent e, of the slices below n that aren't left out -/
def sp_wg (C : List Int32) (out e q : Nat) : Nat → BitVec 16
  | 0 => 0#16
  | j + 1 => sp_wg C out e q j ^^^ (if out / 2 ^ j % 2 = 0 then gf_m (sp_num C j q) (gf_b j e) else 0#16)
/-! Packets -/
/-- the length that a packet at a tells of its body -/
def pk_bl (V : List Int32) (a : Nat) : Nat := sp_bt V (a + 4) + 256 * sp_bt V (a + 5)
theorem pk_bl_lt (V : List Int32) (a : Nat) : pk_bl V a < 65536 := by
  have h1 := sp_bt_lt V (a + 4)
  have h2 := sp_bt_lt V (a + 5)
  unfold pk_bl
  omega
/-- the bytes of which a packet's sum is made -/
def pk_ms (V : List Int32) (a : Nat) : List Int32 := ls_sl V (a + 3) 3 ++ ls_sl V (a + 22) (4 + pk_bl V a)
/-- a packet stands at a as a whole -/
def pk_ok (V : List Int32) (a : Nat) : Prop := V.getD a 0 = 80 ∧ V.getD (a + 1) 0 = 75 ∧ V.getD (a + 2) 0 = 84 ∧ a + 26 + pk_bl V a ≤ V.length ∧ ∀ i, i < 16 → V.getD (a + 6 + i) 0 = md_b (md_sum (pk_ms V a)) i
/-- a packet -/
def pk_of (k : Int32) (set body : List Int32) : List Int32 := [80, 75, 84, k, nI (body.length % 256), nI (body.length / 256)] ++ md5 ([k, nI (body.length % 256), nI (body.length / 256)] ++ set ++ body) ++ set ++ body
theorem pk_of_len (k : Int32) {set : List Int32} (body : List Int32) (h : set.length = 4) : (pk_of k set body).length = 26 + body.length := by
  simp [pk_of, md5_len, h]
  omega
