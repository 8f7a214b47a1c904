/-! The field of 2^16: gf_m is the product modulo 69643; it is a field. -/
def gf_x (a : BitVec 16) : BitVec 16 := (a <<< 1) ^^^ (if a.msb then 0x100B#16 else 0#16)
def gf_p : Nat → BitVec 16 → BitVec 16
  | 0, a => a
  | i + 1, a => gf_x (gf_p i a)
def gf_s : Nat → BitVec 16 → BitVec 16 → BitVec 16
  | 0, _, _ => 0#16
  | n + 1, a, b => gf_s n a b ^^^ (if b.getLsbD n then gf_p n a else 0#16)
def gf_m (a b : BitVec 16) : BitVec 16 := gf_s 16 a b
theorem gf_sw (x y c : BitVec 16) : (x ^^^ c) ^^^ (y ^^^ c) = x ^^^ y := by
  rw [BitVec.xor_assoc, ← BitVec.xor_assoc c y c, BitVec.xor_comm c y, BitVec.xor_assoc y c c, BitVec.xor_self, BitVec.xor_zero]
theorem gf_4 (x y z w : BitVec 16) : (x ^^^ y) ^^^ (z ^^^ w) = (x ^^^ z) ^^^ (y ^^^ w) := by
  rw [BitVec.xor_assoc, BitVec.xor_assoc, ← BitVec.xor_assoc y z w, BitVec.xor_comm y z, BitVec.xor_assoc z y w]
theorem gf_x_add (a b : BitVec 16) : gf_x (a ^^^ b) = gf_x a ^^^ gf_x b := by
  unfold gf_x
  rw [BitVec.msb_xor, BitVec.shiftLeft_xor_distrib]
  cases a.msb <;> cases b.msb <;> simp
  · rw [BitVec.xor_assoc]
  · rw [BitVec.xor_assoc, BitVec.xor_assoc, BitVec.xor_comm (b <<< 1)]
  · rw [gf_sw]
theorem gf_x_0 : gf_x 0#16 = 0#16 := by decide
theorem gf_p_add (i : Nat) (a b : BitVec 16) : gf_p i (a ^^^ b) = gf_p i a ^^^ gf_p i b := by
  induction i with
  | zero => rfl
  | succ i ih =>
    show gf_x (gf_p i (a ^^^ b)) = gf_x (gf_p i a) ^^^ gf_x (gf_p i b)
    rw [ih, gf_x_add]
theorem gf_p_0 (i : Nat) : gf_p i 0#16 = 0#16 := by
  induction i with
  | zero => rfl
  | succ i ih =>
    show gf_x (gf_p i 0#16) = 0#16
    rw [ih, gf_x_0]
theorem gf_p_x (i : Nat) (a : BitVec 16) : gf_p i (gf_x a) = gf_x (gf_p i a) := by
  induction i with
  | zero => rfl
  | succ i ih =>
    show gf_x (gf_p i (gf_x a)) = gf_x (gf_x (gf_p i a))
    rw [ih]
theorem gf_s_add (n : Nat) (a a' b : BitVec 16) : gf_s n (a ^^^ a') b = gf_s n a b ^^^ gf_s n a' b := by
  induction n with
  | zero => show (0#16) = 0#16 ^^^ 0#16; rw [BitVec.xor_self]
  | succ n ih =>
    show gf_s n (a ^^^ a') b ^^^ (if b.getLsbD n then gf_p n (a ^^^ a') else 0#16) = (gf_s n a b ^^^ (if b.getLsbD n then gf_p n a else 0#16)) ^^^ (gf_s n a' b ^^^ (if b.getLsbD n then gf_p n a' else 0#16))
    rw [ih, gf_p_add, gf_4]
    cases b.getLsbD n <;> simp
theorem gf_s_0 (n : Nat) (b : BitVec 16) : gf_s n 0#16 b = 0#16 := by
  induction n with
  | zero => rfl
  | succ n ih =>
    show gf_s n 0#16 b ^^^ (if b.getLsbD n then gf_p n 0#16 else 0#16) = 0#16
    rw [ih, gf_p_0]
    cases b.getLsbD n <;> rfl
theorem gf_s_r0 (n : Nat) (a : BitVec 16) : gf_s n a 0#16 = 0#16 := by
  induction n with
  | zero => rfl
  | succ n ih =>
    show gf_s n a 0#16 ^^^ (if (0#16).getLsbD n then gf_p n a else 0#16) = 0#16
    rw [ih]
    simp
theorem gf_s_x (n : Nat) (a b : BitVec 16) : gf_x (gf_s n a b) = gf_s n (gf_x a) b := by
  induction n with
  | zero => exact gf_x_0
  | succ n ih =>
    show gf_x (gf_s n a b ^^^ (if b.getLsbD n then gf_p n a else 0#16)) = gf_s n (gf_x a) b ^^^ (if b.getLsbD n then gf_p n (gf_x a) else 0#16)
    rw [gf_x_add, ih, gf_p_x]
    cases b.getLsbD n
    · rw [if_neg (by decide), if_neg (by decide), gf_x_0]
    · rw [if_pos rfl, if_pos rfl]
theorem gf_s_p (j n : Nat) (a b : BitVec 16) : gf_p j (gf_s n a b) = gf_s n (gf_p j a) b := by
  induction j with
  | zero => rfl
  | succ j ih =>
    show gf_x (gf_p j (gf_s n a b)) = gf_s n (gf_x (gf_p j a)) b
    rw [ih, gf_s_x]
theorem gf_s_s (n k : Nat) (a b c : BitVec 16) : gf_s n (gf_s k a c) b = gf_s k (gf_s n a b) c := by
  induction n with
  | zero => exact (gf_s_0 k c).symm
  | succ n ih =>
    show gf_s n (gf_s k a c) b ^^^ (if b.getLsbD n then gf_p n (gf_s k a c) else 0#16) = gf_s k (gf_s n a b ^^^ (if b.getLsbD n then gf_p n a else 0#16)) c
    rw [gf_s_add, ih, gf_s_p]
    cases b.getLsbD n
    · rw [if_neg (by decide), if_neg (by decide), gf_s_0]
    · rw [if_pos rfl, if_pos rfl]
theorem gf_p_1 : ∀ n, n < 16 → gf_p n 1#16 = 1#16 <<< n := by decide +kernel
theorem gf_s_1 (b : BitVec 16) : ∀ n, n ≤ 16 → ∀ j, (gf_s n 1#16 b).getLsbD j = (decide (j < n) && b.getLsbD j) := by
  intro n
  induction n with
  | zero => intro _ j; simp [gf_s]
  | succ n ih =>
    intro hn j
    show (gf_s n 1#16 b ^^^ (if b.getLsbD n then gf_p n 1#16 else 0#16)).getLsbD j = _
    rw [BitVec.getLsbD_xor, ih (by omega) j, gf_p_1 n (by omega)]
    by_cases hj : j = n
    · subst hj
      have h1 : (1#16 <<< j).getLsbD j = true := by
        rw [BitVec.getLsbD_shiftLeft]
        simp
        omega
      cases hb : b.getLsbD j <;> simp [h1]
    · have h1 : (1#16 <<< n).getLsbD j = false := by
        rw [BitVec.getLsbD_shiftLeft]
        by_cases h2 : j < n
        · simp [h2]
        · have h3 : (1#16).getLsbD (j - n) = false := by
            rw [BitVec.getLsbD_one]
            simp
            omega
          simp [h3]
      have h2 : decide (j < n + 1) = decide (j < n) := by
        apply decide_eq_decide.mpr
        omega
      rw [h2]
      cases hb : b.getLsbD n <;> simp [h1]
theorem gf_1_m (b : BitVec 16) : gf_m 1#16 b = b := by
  apply BitVec.eq_of_getLsbD_eq
  intro i hi
  unfold gf_m
  rw [gf_s_1 b 16 (Nat.le_refl _) i]
  simp [hi]
theorem gf_comm (a b : BitVec 16) : gf_m a b = gf_m b a := by
  have h := gf_s_s 16 16 1#16 b a
  have h1 : gf_s 16 1#16 a = a := gf_1_m a
  have h2 : gf_s 16 1#16 b = b := gf_1_m b
  rw [h1, h2] at h
  exact h
theorem gf_m_1 (a : BitVec 16) : gf_m a 1#16 = a := by rw [gf_comm, gf_1_m]
theorem gf_assoc (a b c : BitVec 16) : gf_m (gf_m a b) c = gf_m a (gf_m b c) := by
  rw [gf_comm a (gf_m b c)]
  show gf_s 16 (gf_s 16 a b) c = gf_s 16 (gf_s 16 b c) a
  rw [gf_s_s 16 16 b a c]
  show gf_s 16 (gf_m a b) c = gf_s 16 (gf_m b a) c
  rw [gf_comm]
theorem gf_add (a a' b : BitVec 16) : gf_m (a ^^^ a') b = gf_m a b ^^^ gf_m a' b := gf_s_add 16 a a' b
theorem gf_addr (a b b' : BitVec 16) : gf_m a (b ^^^ b') = gf_m a b ^^^ gf_m a b' := by rw [gf_comm, gf_add, gf_comm b, gf_comm b']
theorem gf_0_m (b : BitVec 16) : gf_m 0#16 b = 0#16 := gf_s_0 16 b
theorem gf_m_0 (a : BitVec 16) : gf_m a 0#16 = 0#16 := gf_s_r0 16 a
/-- two additive functions that agree on the powers of x below 16 agree -/
theorem gf_ext {f g : BitVec 16 → BitVec 16} (hf : ∀ a b, f (a ^^^ b) = f a ^^^ f b) (hg : ∀ a b, g (a ^^^ b) = g a ^^^ g b) (h : ∀ n, n < 16 → f (gf_p n 1#16) = g (gf_p n 1#16)) (a : BitVec 16) : f a = g a := by
  have f0 : f 0#16 = 0#16 := by
    have := hf 0#16 0#16
    rw [BitVec.xor_self, BitVec.xor_self] at this
    exact this
  have g0 : g 0#16 = 0#16 := by
    have := hg 0#16 0#16
    rw [BitVec.xor_self, BitVec.xor_self] at this
    exact this
  have key : ∀ n, n ≤ 16 → f (gf_s n 1#16 a) = g (gf_s n 1#16 a) := by
    intro n
    induction n with
    | zero => intro _; show f 0#16 = g 0#16; rw [f0, g0]
    | succ n ih =>
      intro hn
      show f (gf_s n 1#16 a ^^^ (if a.getLsbD n then gf_p n 1#16 else 0#16)) = g (gf_s n 1#16 a ^^^ (if a.getLsbD n then gf_p n 1#16 else 0#16))
      rw [hf, hg, ih (by omega)]
      cases a.getLsbD n
      · rw [if_neg (by decide), f0, g0]
      · rw [if_pos rfl, h n (by omega)]
  have h2 : gf_s 16 1#16 a = a := gf_1_m a
  have h1 := key 16 (Nat.le_refl _)
  rw [h2] at h1
  exact h1
/-- a^(2^i) -/
def gf_q : Nat → BitVec 16 → BitVec 16
  | 0, a => a
  | i + 1, a => gf_m (gf_q i a) (gf_q i a)
theorem gf_q_add (i : Nat) (a b : BitVec 16) : gf_q i (a ^^^ b) = gf_q i a ^^^ gf_q i b := by
  induction i with
  | zero => rfl
  | succ i ih =>
    show gf_m (gf_q i (a ^^^ b)) (gf_q i (a ^^^ b)) = gf_m (gf_q i a) (gf_q i a) ^^^ gf_m (gf_q i b) (gf_q i b)
    rw [ih, gf_add, gf_addr, gf_addr, gf_comm (gf_q i b) (gf_q i a), gf_4, BitVec.xor_comm (gf_m (gf_q i a) (gf_q i b)) (gf_m (gf_q i b) (gf_q i b))]
    rw [← gf_4, BitVec.xor_self, BitVec.xor_zero]
theorem gf_q16 (a : BitVec 16) : gf_q 16 a = a := gf_ext (f := gf_q 16) (g := fun a => a) (gf_q_add 16) (fun _ _ => rfl) (by decide +kernel) a
/-- a^2 a^4 .. a^(2^n) -/
def gf_i : Nat → BitVec 16 → BitVec 16
  | 0, _ => 1#16
  | n + 1, a => gf_m (gf_i n a) (gf_q (n + 1) a)
def gf_inv (a : BitVec 16) : BitVec 16 := gf_i 15 a
theorem gf_i_q (n : Nat) (a : BitVec 16) : gf_m (gf_i n a) (gf_m a a) = gf_q (n + 1) a := by
  induction n with
  | zero => exact gf_1_m _
  | succ n ih =>
    show gf_m (gf_m (gf_i n a) (gf_q (n + 1) a)) (gf_m a a) = gf_m (gf_q (n + 1) a) (gf_q (n + 1) a)
    rw [gf_comm (gf_i n a), gf_assoc, ih]
def gf_lt : List (BitVec 16) := [350#16, 42420#16, 42422#16, 7412#16, 42418#16, 10272#16, 7420#16, 1328#16, 42402#16, 38610#16, 10240#16, 5068#16, 7356#16, 0#16, 1456#16, 21936#16]
def gf_l : Nat → BitVec 16 → BitVec 16
  | 0, _ => 0#16
  | n + 1, y => gf_l n y ^^^ (if y.getLsbD n then gf_lt.getD n 0#16 else 0#16)
theorem gf_l_add (n : Nat) (a b : BitVec 16) : gf_l n (a ^^^ b) = gf_l n a ^^^ gf_l n b := by
  induction n with
  | zero => show (0#16) = 0#16 ^^^ 0#16; rw [BitVec.xor_self]
  | succ n ih =>
    show gf_l n (a ^^^ b) ^^^ (if (a ^^^ b).getLsbD n then gf_lt.getD n 0#16 else 0#16) = (gf_l n a ^^^ (if a.getLsbD n then gf_lt.getD n 0#16 else 0#16)) ^^^ (gf_l n b ^^^ (if b.getLsbD n then gf_lt.getD n 0#16 else 0#16))
    rw [ih, gf_4, BitVec.getLsbD_xor]
    cases a.getLsbD n <;> cases b.getLsbD n <;> simp
theorem gf_l_h (a : BitVec 16) : gf_l 16 (gf_m a a ^^^ a) = a &&& 0xFFFE#16 := by
  refine gf_ext (f := fun a => gf_l 16 (gf_m a a ^^^ a)) (g := fun a => a &&& 0xFFFE#16) (fun a b => ?_) (fun a b => ?_) (by decide +kernel) a
  · show gf_l 16 (gf_q 1 (a ^^^ b) ^^^ (a ^^^ b)) = gf_l 16 (gf_q 1 a ^^^ a) ^^^ gf_l 16 (gf_q 1 b ^^^ b)
    rw [gf_q_add, gf_4, gf_l_add]
  · apply BitVec.eq_of_getLsbD_eq
    intro i hi
    simp [Bool.and_xor_distrib_right]
theorem gf_idem {e : BitVec 16} (h : gf_m e e = e) : e = 0#16 ∨ e = 1#16 := by
  have h1 := gf_l_h e
  rw [h, BitVec.xor_self] at h1
  have h2 : gf_l 16 0#16 = 0#16 := by decide +kernel
  rw [h2] at h1
  have h3 : ∀ i, 0 < i → i < 16 → e.getLsbD i = false := by
    intro i h0 hi
    have h4 := congrArg (fun z : BitVec 16 => z.getLsbD i) h1
    simp only [BitVec.getLsbD_and, BitVec.getLsbD_zero] at h4
    have h5 : ∀ i, i < 16 → 0 < i → (0xFFFE#16).getLsbD i = true := by decide +kernel
    rw [h5 i hi h0, Bool.and_true] at h4
    exact h4.symm
  cases hb : e.getLsbD 0 with
  | false =>
    left
    apply BitVec.eq_of_getLsbD_eq
    intro i hi
    by_cases h0 : i = 0
    · subst h0; rw [hb]; rfl
    · rw [h3 i (by omega) hi]; simp
  | true =>
    right
    apply BitVec.eq_of_getLsbD_eq
    intro i hi
    by_cases h0 : i = 0
    · subst h0; rw [hb]; rfl
    · rw [h3 i (by omega) hi, BitVec.getLsbD_one]
      simp
      omega
theorem gf_inv_m {a : BitVec 16} (ha : a ≠ 0#16) : gf_m (gf_inv a) a = 1#16 := by
  have h1 : gf_m (gf_m (gf_inv a) a) a = a := by
    rw [gf_assoc]
    exact (gf_i_q 15 a).trans (gf_q16 a)
  have h2 : gf_m (gf_m (gf_inv a) a) (gf_m (gf_inv a) a) = gf_m (gf_inv a) a := by
    rw [gf_comm (gf_inv a) a, ← gf_assoc, gf_comm a (gf_inv a), h1, gf_comm]
  rcases gf_idem h2 with h | h
  · rw [h, gf_0_m] at h1
    exact absurd h1.symm ha
  · exact h
/-- a^n -/
def gf_w (a : BitVec 16) : Nat → BitVec 16
  | 0 => 1#16
  | n + 1 => gf_m (gf_w a n) a
theorem gf_w_add (a : BitVec 16) (m n : Nat) : gf_w a (m + n) = gf_m (gf_w a m) (gf_w a n) := by
  induction n with
  | zero => exact (gf_m_1 _).symm
  | succ n ih =>
    show gf_m (gf_w a (m + n)) a = gf_m (gf_w a m) (gf_m (gf_w a n) a)
    rw [ih, gf_assoc]
theorem gf_w_mul (a : BitVec 16) (m n : Nat) : gf_w (gf_w a m) n = gf_w a (m * n) := by
  induction n with
  | zero => rfl
  | succ n ih =>
    show gf_m (gf_w (gf_w a m) n) (gf_w a m) = gf_w a (m * n + m)
    rw [ih, gf_w_add]
