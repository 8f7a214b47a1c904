/-! Numbers of the field as ints -/
def gE (v : BitVec 16) : Int32 := nI v.toNat
theorem nI_xor {a b : Nat} (ha : a < 2 ^ 32) (hb : b < 2 ^ 32) : nI a ^^^ nI b = nI (a ^^^ b) := by
  apply Int32.toBitVec_inj.mp
  apply BitVec.eq_of_toNat_eq
  rw [Int32.toBitVec_xor, BitVec.toNat_xor, pk_tn ha, pk_tn hb, pk_tn (Nat.xor_lt_two_pow ha hb)]
theorem nI_or {a b : Nat} (ha : a < 2 ^ 32) (hb : b < 2 ^ 32) : nI a ||| nI b = nI (a ||| b) := by
  apply Int32.toBitVec_inj.mp
  apply BitVec.eq_of_toNat_eq
  rw [Int32.toBitVec_or, BitVec.toNat_or, pk_tn ha, pk_tn hb, pk_tn (Nat.or_lt_two_pow ha hb)]
theorem px_ushrN {n k : Nat} (hn : n < 2 ^ 32) (hk : k < 32) : px_ushr (nI n) (nI k) = nI (n / 2 ^ k) := by
  have h : ∀ k, k < 32 → (((nI k).toUInt32 &&& Int32.toUInt32 31).toBitVec % 32).toNat = k := by decide +kernel
  exact pk_ushrN hn (nI k) k (h k hk)
theorem px_shlN {n k : Nat} (hk : k < 32) (hn : n * 2 ^ k < 2 ^ 32) : px_shl (nI n) (nI k) = nI (n * 2 ^ k) := by
  have h : ∀ k, k < 32 → ((nI k &&& 31).toBitVec.smod 32).toNat = k := by decide +kernel
  exact pk_shlN (nI k &&& 31) k (h k hk) hn
theorem px_sarN {n k : Nat} (hn : n < 2 ^ 31) (hk : k < 32) : px_sar (nI n) (nI k) = nI (n / 2 ^ k) := by
  have h : ∀ k, k < 32 → ((nI k &&& 31).toBitVec.smod 32).toNat = k := by decide +kernel
  exact pk_shrN hn (nI k &&& 31) k (h k hk)
theorem nI_and1 {n : Nat} (h : n < 2 ^ 32) : nI n &&& 1 = nI (n % 2) := pk_andN h 1 (by decide)
theorem nI_and255 {n : Nat} (h : n < 2 ^ 32) : nI n &&& 255 = nI (n % 256) := pk_andN h 8 (by decide)
theorem gE_xor (a b : BitVec 16) : gE a ^^^ gE b = gE (a ^^^ b) := by
  unfold gE
  rw [nI_xor (Nat.lt_trans a.isLt (by decide)) (Nat.lt_trans b.isLt (by decide)), BitVec.toNat_xor]
theorem gE_0 : gE 0#16 = 0 := by decide
theorem gE_1 : gE 1#16 = 1 := by decide
theorem gE_inj {a b : BitVec 16} (h : gE a = gE b) : a = b := by
  have h1 := (nI_eq (Nat.lt_trans a.isLt (by decide)) (Nat.lt_trans b.isLt (by decide))).mp h
  exact BitVec.eq_of_toNat_eq h1
theorem gE_eq0 (a : BitVec 16) : gE a = 0 ↔ a = 0#16 := ⟨fun h => gE_inj (h.trans gE_0.symm), fun h => by rw [h]; exact gE_0⟩
theorem gf_x_lo {a : BitVec 16} (h : a.toNat < 32768) : (gf_x a).toNat = 2 * a.toNat := by
  unfold gf_x
  have hm : a.msb = false := by
    rw [BitVec.msb_eq_decide]
    simp
    omega
  rw [hm, if_neg (by decide), BitVec.xor_zero, BitVec.toNat_shiftLeft, Nat.shiftLeft_eq]
  omega
theorem gf_x_hi {a : BitVec 16} (h : 32768 ≤ a.toNat) : (gf_x a).toNat = (2 * a.toNat) ^^^ 69643 := by
  have key : ∀ u, u < 128 → ∀ v, v < 256 → (2 * (32768 + (256 * u + v))) ^^^ 69643 = ((2 * (32768 + (256 * u + v))) % 65536) ^^^ 4107 := by decide +kernel
  unfold gf_x
  have hm : a.msb = true := by
    rw [BitVec.msb_eq_decide]
    simp
    omega
  have hlt := a.isLt
  have k1 := key ((a.toNat - 32768) / 256) (by omega) ((a.toNat - 32768) % 256) (by omega)
  rw [show 32768 + (256 * ((a.toNat - 32768) / 256) + (a.toNat - 32768) % 256) = a.toNat by omega] at k1
  rw [hm, if_pos rfl, BitVec.toNat_xor, BitVec.toNat_shiftLeft, Nat.shiftLeft_eq, k1, Nat.mul_comm]
  rfl
theorem gf_s_stop {a b : BitVec 16} {k : Nat} (h : b.toNat / 2 ^ k = 0) : ∀ n, k ≤ n → gf_s n a b = gf_s k a b := by
  intro n hn
  induction n with
  | zero => rw [show k = 0 by omega]
  | succ n ih =>
    by_cases hk : k = n + 1
    · rw [hk]
    · show gf_s n a b ^^^ (if b.getLsbD n then gf_p n a else 0#16) = gf_s k a b
      rw [ih (by omega)]
      have hb : b.getLsbD n = false := by
        unfold BitVec.getLsbD
        apply Nat.testBit_lt_two_pow
        have h1 : b.toNat < 2 ^ k := by
          rcases Nat.div_eq_zero_iff.mp h with h2 | h2
          · exact absurd h2 (Nat.ne_of_gt (Nat.two_pow_pos k))
          · exact h2
        exact Nat.lt_of_lt_of_le h1 (Nat.pow_le_pow_right (by decide) (by omega))
      rw [hb, if_neg (by decide), BitVec.xor_zero]
theorem gf_bit (b : BitVec 16) (k : Nat) : b.getLsbD k = decide (b.toNat / 2 ^ k % 2 = 1) := by
  unfold BitVec.getLsbD
  exact Nat.testBit_eq_decide_div_mod_eq
theorem gf_q_w (k : Nat) (a : BitVec 16) : gf_q k a = gf_w a (2 ^ k) := by
  induction k with
  | zero => exact (gf_1_m a).symm
  | succ k ih =>
    show gf_m (gf_q k a) (gf_q k a) = gf_w a (2 ^ (k + 1))
    rw [ih, ← gf_w_add, show 2 ^ k + 2 ^ k = 2 ^ (k + 1) by rw [Nat.pow_succ]; omega]
theorem gf_i_w (n : Nat) (a : BitVec 16) : gf_i n a = gf_w a (2 ^ (n + 1) - 2) := by
  induction n with
  | zero => rfl
  | succ n ih =>
    show gf_m (gf_i n a) (gf_q (n + 1) a) = gf_w a (2 ^ (n + 1 + 1) - 2)
    have h2 : 2 ≤ 2 ^ (n + 1) := by rw [Nat.pow_succ]; have := Nat.two_pow_pos n; omega
    rw [ih, gf_q_w, ← gf_w_add, show 2 ^ (n + 1) - 2 + 2 ^ (n + 1) = 2 ^ (n + 1 + 1) - 2 by rw [Nat.pow_succ 2 (n + 1)]; omega]
def px_lg (j : Nat) : Nat := [1, 2, 4, 7, 8, 11, 13, 14, 16, 19, 22, 23].getD j 0
theorem px_lg_t : ∀ j, j < 12 → px_t2.getD j 0 = nI (px_lg j) := by decide +kernel
theorem px_lg_le : ∀ j, j < 12 → px_lg j ≤ 23 := by decide +kernel
/-- the e-th power of slice j's base -/
def gf_b (j e : Nat) : BitVec 16 := gf_w 2#16 (px_lg j * e)
/-- THE CHECK -/
def cr_1 (c : Int32) : Int32 := if c &&& 1 = 1 then px_ushr c 1 ^^^ (-306674912) else px_ushr c 1
def cr_n : Nat → Int32 → Int32
  | 0, c => c
  | n + 1, c => cr_1 (cr_n n c)
def cr_f (c : Int32) (L : List Int32) : Int32 := L.foldl (fun c b => cr_n 8 (c ^^^ b)) c
def cr (L : List Int32) : Int32 := cr_f (-1) L ^^^ (-1)
theorem cr_f_app (c b : Int32) (L : List Int32) : cr_f c (L ++ [b]) = cr_n 8 (cr_f c L ^^^ b) := by simp [cr_f]
