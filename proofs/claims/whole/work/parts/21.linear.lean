/-! Elimination, two ways, comes to the same. Rows are functions from columns to the field. -/
def la_sum : Nat → (Nat → BitVec 16) → BitVec 16
  | 0, _ => 0#16
  | n + 1, f => la_sum n f ^^^ f n
theorem la_sum_0 {n : Nat} {f : Nat → BitVec 16} (h : ∀ s, s < n → f s = 0#16) : la_sum n f = 0#16 := by
  induction n with
  | zero => rfl
  | succ n ih =>
    show la_sum n f ^^^ f n = 0#16
    rw [ih (fun s hs => h s (by omega)), h n (by omega)]
    rfl
theorem la_sum_add (n : Nat) (f g : Nat → BitVec 16) : la_sum n (fun s => f s ^^^ g s) = la_sum n f ^^^ la_sum n g := by
  induction n with
  | zero => show (0#16) = 0#16 ^^^ 0#16; rw [BitVec.xor_self]
  | succ n ih =>
    show la_sum n (fun s => f s ^^^ g s) ^^^ (f n ^^^ g n) = (la_sum n f ^^^ f n) ^^^ (la_sum n g ^^^ g n)
    rw [ih, gf_4]
theorem la_sum_mul (c : BitVec 16) (n : Nat) (f : Nat → BitVec 16) : gf_m c (la_sum n f) = la_sum n (fun s => gf_m c (f s)) := by
  induction n with
  | zero => exact gf_m_0 c
  | succ n ih =>
    show gf_m c (la_sum n f ^^^ f n) = la_sum n (fun s => gf_m c (f s)) ^^^ gf_m c (f n)
    rw [gf_addr, ih]
theorem la_sum_congr {n : Nat} {f g : Nat → BitVec 16} (h : ∀ s, s < n → f s = g s) : la_sum n f = la_sum n g := by
  induction n with
  | zero => rfl
  | succ n ih =>
    show la_sum n f ^^^ f n = la_sum n g ^^^ g n
    rw [ih (fun s hs => h s (by omega)), h n (by omega)]
theorem la_sum_one {n i : Nat} {f : Nat → BitVec 16} (hi : i < n) (h : ∀ s, s < n → s ≠ i → f s = 0#16) : la_sum n f = f i := by
  induction n with
  | zero => omega
  | succ n ih =>
    show la_sum n f ^^^ f n = f i
    by_cases hin : i = n
    · subst hin
      rw [la_sum_0 (fun s hs => h s (by omega) (by omega)), BitVec.zero_xor]
    · rw [ih (by omega) (fun s hs hne => h s (by omega) hne), h n (by omega) (by omega), BitVec.xor_zero]
/-- u is a sum of multiples of the rows below t -/
def la_sp (t : Nat) (R : Nat → Nat → BitVec 16) (u : Nat → BitVec 16) : Prop := ∃ a : Nat → BitVec 16, ∀ c, u c = la_sum t (fun s => gf_m (a s) (R s c))
theorem la_sp_add {t : Nat} {R : Nat → Nat → BitVec 16} {u v : Nat → BitVec 16} (hu : la_sp t R u) (hv : la_sp t R v) : la_sp t R (fun c => u c ^^^ v c) := by
  obtain ⟨a, ha⟩ := hu
  obtain ⟨b, hb⟩ := hv
  refine ⟨fun s => a s ^^^ b s, fun c => ?_⟩
  show u c ^^^ v c = la_sum t (fun s => gf_m (a s ^^^ b s) (R s c))
  rw [ha c, hb c, ← la_sum_add]
  exact la_sum_congr (fun s _ => (gf_add _ _ _).symm)
theorem la_sp_mul {t : Nat} {R : Nat → Nat → BitVec 16} {u : Nat → BitVec 16} (f : BitVec 16) (hu : la_sp t R u) : la_sp t R (fun c => gf_m f (u c)) := by
  obtain ⟨a, ha⟩ := hu
  refine ⟨fun s => gf_m f (a s), fun c => ?_⟩
  show gf_m f (u c) = _
  rw [ha c, la_sum_mul]
  exact la_sum_congr (fun s _ => (gf_assoc _ _ _).symm)
theorem la_sp_row {t : Nat} (R : Nat → Nat → BitVec 16) {i : Nat} (hi : i < t) : la_sp t R (R i) := by
  refine ⟨fun s => if s = i then 1#16 else 0#16, fun c => ?_⟩
  show R i c = la_sum t (fun s => gf_m (if s = i then 1#16 else 0#16) (R s c))
  rw [la_sum_one (i := i) hi (fun s _ hne => by show gf_m (if s = i then 1#16 else 0#16) (R s c) = 0#16; rw [if_neg hne, gf_0_m])]
  show R i c = gf_m (if i = i then 1#16 else 0#16) (R i c)
  rw [if_pos rfl, gf_1_m]
theorem la_sp_0 {t : Nat} {R : Nat → Nat → BitVec 16} : la_sp t R (fun _ => 0#16) := ⟨fun _ => 0#16, fun c => (la_sum_0 (fun s _ => gf_0_m _)).symm⟩
theorem la_sp_congr {t : Nat} {R : Nat → Nat → BitVec 16} {u v : Nat → BitVec 16} (hu : la_sp t R u) (h : ∀ c, v c = u c) : la_sp t R v := by
  obtain ⟨a, ha⟩ := hu
  exact ⟨a, fun c => (h c).trans (ha c)⟩
/-- sums of rows that lie in a span lie in it -/
theorem la_sp_sum {t n : Nat} {R C : Nat → Nat → BitVec 16} (hC : ∀ q, q < n → la_sp t R (C q)) {u : Nat → BitVec 16} (hu : la_sp n C u) : la_sp t R u := by
  obtain ⟨a, ha⟩ := hu
  have key : ∀ k, k ≤ n → la_sp t R (fun c => la_sum k (fun s => gf_m (a s) (C s c))) := by
    intro k
    induction k with
    | zero => intro _; exact la_sp_0
    | succ k ih =>
      intro hk
      exact la_sp_add (ih (by omega)) (la_sp_mul (a k) (hC k (by omega)))
  exact la_sp_congr (key n (Nat.le_refl _)) ha
/-- a vector of the span that is 0 at the pivots is 0 -/
theorem la_uniq {t : Nat} {R : Nat → Nat → BitVec 16} {p : Nat → Nat} (hp : ∀ q s, q < t → s < t → R q (p s) = if q = s then 1#16 else 0#16) {u : Nat → BitVec 16} (hu : la_sp t R u) (h0 : ∀ s, s < t → u (p s) = 0#16) (c : Nat) : u c = 0#16 := by
  obtain ⟨a, ha⟩ := hu
  have key : ∀ j, j < t → a j = 0#16 := by
    intro j hj
    have h1 := h0 j hj
    rw [ha (p j), la_sum_one (i := j) hj (fun s hs hne => by rw [hp s j hs hj, if_neg hne, gf_m_0]), hp j j hj hj, if_pos rfl, gf_m_1] at h1
    exact h1
  rw [ha c]
  exact la_sum_0 (fun s hs => by rw [key s hs, gf_0_m])
/-- v, made 0 at the pivots of the rows 0 .. n - 1, one after the other -/
def la_red (C : Nat → Nat → BitVec 16) (p : Nat → Nat) (v : Nat → BitVec 16) : Nat → Nat → BitVec 16
  | 0 => v
  | n + 1 => fun c => la_red C p v n c ^^^ gf_m (la_red C p v n (p n)) (C n c)
theorem la_red_sp (C : Nat → Nat → BitVec 16) (p : Nat → Nat) (v : Nat → BitVec 16) {t : Nat} : ∀ n, n ≤ t → la_sp t C (fun c => la_red C p v n c ^^^ v c) := by
  intro n
  induction n with
  | zero => intro _; exact la_sp_congr la_sp_0 (fun c => BitVec.xor_self)
  | succ n ih =>
    intro hn
    refine la_sp_congr (la_sp_add (ih (by omega)) (la_sp_mul (la_red C p v n (p n)) (la_sp_row C (i := n) (by omega)))) (fun c => ?_)
    show (la_red C p v n c ^^^ gf_m (la_red C p v n (p n)) (C n c)) ^^^ v c = (la_red C p v n c ^^^ v c) ^^^ gf_m (la_red C p v n (p n)) (C n c)
    rw [BitVec.xor_assoc, BitVec.xor_comm (gf_m _ _) (v c), ← BitVec.xor_assoc]
theorem la_red_0 {C : Nat → Nat → BitVec 16} {p : Nat → Nat} (v : Nat → BitVec 16) {t : Nat} (h1 : ∀ q, q < t → C q (p q) = 1#16) (h2 : ∀ q s, q < t → s < q → C q (p s) = 0#16) : ∀ n, n ≤ t → ∀ s, s < n → la_red C p v n (p s) = 0#16 := by
  intro n
  induction n with
  | zero => intro _ s hs; omega
  | succ n ih =>
    intro hn s hs
    show la_red C p v n (p s) ^^^ gf_m (la_red C p v n (p n)) (C n (p s)) = 0#16
    by_cases hsn : s = n
    · subst hsn
      rw [h1 s (by omega), gf_m_1, BitVec.xor_self]
    · rw [ih (by omega) s (by omega), h2 n s (by omega) (by omega), gf_m_0]
      rfl
/-- the rows of the two ways, behind t rows that were taken -/
def la_inv (t d : Nat) (C R : Nat → Nat → BitVec 16) (p : Nat → Nat) : Prop :=
  (∀ q s, q < t → s < t → R q (p s) = if q = s then 1#16 else 0#16) ∧ (∀ q, q < t → la_sp t R (C q)) ∧ (∀ q, q < t → C q (p q) = 1#16) ∧ (∀ q s, q < t → s < q → C q (p s) = 0#16) ∧ (∀ q, q < t → p q < d) ∧ ∀ q c, q < t → c < p q → R q c = 0#16
theorem la_same {t d : Nat} {C R : Nat → Nat → BitVec 16} {p : Nat → Nat} (h : la_inv t d C R p) (v : Nat → BitVec 16) (c : Nat) : la_red C p v t c = la_red R p v t c := by
  obtain ⟨h1, h2, h3, h4, -, -⟩ := h
  have hR1 : ∀ q, q < t → R q (p q) = 1#16 := fun q hq => by rw [h1 q q hq hq, if_pos rfl]
  have hR2 : ∀ q s, q < t → s < q → R q (p s) = 0#16 := fun q s hq hs => by rw [h1 q s hq (by omega), if_neg (by omega)]
  have e1 : la_sp t R (fun c => la_red C p v t c ^^^ v c) := la_sp_sum h2 (la_red_sp C p v t (Nat.le_refl _))
  have e2 : la_sp t R (fun c => la_red R p v t c ^^^ v c) := la_red_sp R p v t (Nat.le_refl _)
  have e3 := la_uniq h1 (la_sp_add e1 e2) (fun s hs => by
    show (la_red C p v t (p s) ^^^ v (p s)) ^^^ (la_red R p v t (p s) ^^^ v (p s)) = 0#16
    rw [gf_sw, la_red_0 v h3 h4 t (Nat.le_refl _) s hs, la_red_0 v hR1 hR2 t (Nat.le_refl _) s hs]
    rfl) c
  have e4 : (la_red C p v t c ^^^ v c) ^^^ (la_red R p v t c ^^^ v c) = 0#16 := e3
  rw [gf_sw] at e4
  exact BitVec.xor_eq_zero_iff.mp e4
/-- a row is taken: n, whose first number that isn't 0 stands at c and is 1 -/
theorem la_step {t d c : Nat} {C R C' R' : Nat → Nat → BitVec 16} {p p' : Nat → Nat} {n : Nat → BitVec 16} (h : la_inv t d C R p) (hc : c < d) (hn : n c = 1#16) (hz : ∀ b, b < c → n b = 0#16) (hp : ∀ s, s < t → n (p s) = 0#16)
    (hR : ∀ q, q < t → ∀ b, R' q b = R q b ^^^ gf_m (R q c) (n b)) (hRt : R' t = n) (hC : ∀ q, q < t → C' q = C q) (hCt : C' t = n) (hpq : ∀ q, q < t → p' q = p q) (hpt : p' t = c) : la_inv (t + 1) d C' R' p' := by
  obtain ⟨h1, h2, h3, h4, h5, h6⟩ := h
  have hold : ∀ q, q < t → la_sp (t + 1) R' (R q) := by
    intro q hq
    refine la_sp_congr (la_sp_add (la_sp_row R' (i := q) (by omega)) (la_sp_mul (R q c) (la_sp_row R' (i := t) (by omega)))) (fun b => ?_)
    show R q b = R' q b ^^^ gf_m (R q c) (R' t b)
    rw [hR q hq b, hRt, BitVec.xor_assoc, BitVec.xor_self, BitVec.xor_zero]
  refine ⟨fun q s hq hs => ?_, fun q hq => ?_, fun q hq => ?_, fun q s hq hs => ?_, fun q hq => ?_, fun q b hq hb => ?_⟩
  · by_cases hqt : q = t
    · subst hqt
      rw [hRt]
      by_cases hsq : s = q
      · subst hsq
        rw [hpt, hn, if_pos rfl]
      · rw [hpq s (by omega), hp s (by omega), if_neg (by omega)]
    · rw [hR q (by omega)]
      by_cases hst : s = t
      · subst hst
        rw [hpt, hn, gf_m_1, BitVec.xor_self, if_neg hqt]
      · rw [hpq s (by omega), hp s (by omega), gf_m_0, BitVec.xor_zero, h1 q s (by omega) (by omega)]
  · by_cases hqt : q = t
    · subst hqt
      rw [hCt, ← hRt]
      exact la_sp_row R' (by omega)
    · rw [hC q (by omega)]
      exact la_sp_sum hold (h2 q (by omega))
  · by_cases hqt : q = t
    · subst hqt
      rw [hCt, hpt, hn]
    · rw [hC q (by omega), hpq q (by omega), h3 q (by omega)]
  · by_cases hqt : q = t
    · subst hqt
      rw [hCt, hpq s hs, hp s hs]
    · rw [hC q (by omega), hpq s (by omega), h4 q s (by omega) hs]
  · by_cases hqt : q = t
    · subst hqt
      rw [hpt]; exact hc
    · rw [hpq q (by omega)]; exact h5 q (by omega)
  · by_cases hqt : q = t
    · subst hqt
      rw [hpt] at hb
      rw [hRt, hz b hb]
    · rw [hpq q (by omega)] at hb
      rw [hR q (by omega), h6 q b (by omega) hb]
      by_cases hcp : c < p q
      · rw [h6 q c (by omega) hcp, gf_0_m]
        rfl
      · rw [hz b (by omega), gf_m_0]
        rfl
/-- rows that lie in the span and are reduced are the reduced ones -/
theorem la_end {t d : Nat} {C R C' : Nat → Nat → BitVec 16} {p : Nat → Nat} (h : la_inv t d C R p) (h1 : ∀ q, q < t → la_sp t R (C' q)) (h2 : ∀ q s, q < t → s < t → C' q (p s) = if q = s then 1#16 else 0#16) (q : Nat) (hq : q < t) (c : Nat) : C' q c = R q c := by
  have e3 := la_uniq h.1 (la_sp_add (h1 q hq) (la_sp_row R hq)) (fun s hs => by
    show C' q (p s) ^^^ R q (p s) = 0#16
    rw [h2 q s hq hs, h.1 q s hq hs, BitVec.xor_self]) c
  exact BitVec.xor_eq_zero_iff.mp e3
