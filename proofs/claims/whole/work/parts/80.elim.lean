/-! The elimination: what is taken, and what comes of it -/
def fp_from (w : Nat → BitVec 16) : Nat → Nat → Nat
  | 0, c => c
  | r + 1, c => if w c = 0#16 then fp_from w r (c + 1) else c
def fp (D : Nat) (w : Nat → BitVec 16) : Nat := fp_from w D 0
theorem fp_from_le (w : Nat → BitVec 16) (r : Nat) : ∀ c, fp_from w r c ≤ c + r := by
  induction r with
  | zero => intro c; exact Nat.le_refl _
  | succ r ih =>
    intro c
    unfold fp_from
    split
    · have := ih (c + 1); omega
    · omega
theorem fp_from_ne (w : Nat → BitVec 16) (r : Nat) : ∀ c, fp_from w r c < c + r → w (fp_from w r c) ≠ 0#16 := by
  induction r with
  | zero => intro c h; unfold fp_from at h; omega
  | succ r ih =>
    intro c h
    unfold fp_from at h ⊢
    by_cases hc : w c = 0#16
    · rw [if_pos hc] at h ⊢
      exact ih (c + 1) (by omega)
    · rw [if_neg hc]
      exact hc
theorem fp_from_0 (w : Nat → BitVec 16) (r : Nat) : ∀ c b, c ≤ b → b < fp_from w r c → w b = 0#16 := by
  induction r with
  | zero => intro c b h1 h2; unfold fp_from at h2; omega
  | succ r ih =>
    intro c b h1 h2
    unfold fp_from at h2
    by_cases hc : w c = 0#16
    · rw [if_pos hc] at h2
      by_cases hb : b = c
      · rw [hb]; exact hc
      · exact ih (c + 1) b (by omega) h2
    · rw [if_neg hc] at h2
      omega
theorem fp_le (D : Nat) (w : Nat → BitVec 16) : fp D w ≤ D := by have := fp_from_le w D 0; unfold fp; omega
theorem fp_ne {D : Nat} {w : Nat → BitVec 16} (h : fp D w < D) : w (fp D w) ≠ 0#16 := fp_from_ne w D 0 (by unfold fp at h; omega)
theorem fp_0 {D b : Nat} {w : Nat → BitVec 16} (h : b < fp D w) : w b = 0#16 := fp_from_0 w D 0 b (by omega) h
theorem fp_is {D c : Nat} {w : Nat → BitVec 16} (hc : c < D) (h1 : w c ≠ 0#16) (h0 : ∀ b, b < c → w b = 0#16) : fp D w = c := by
  apply Nat.le_antisymm
  · apply Nat.le_of_not_lt
    intro z
    exact h1 (fp_0 z)
  · apply Nat.le_of_not_lt
    intro z
    exact fp_ne (by omega) (h0 _ z)
abbrev el_S : Type := Nat × (Nat → Nat → BitVec 16) × (Nat → Nat → BitVec 16) × (Nat → Nat)
def el_w (v : Nat → BitVec 16) (s : el_S) : Nat → BitVec 16 := la_red s.2.1 s.2.2.2 v s.1
def el_n (D : Nat) (w : Nat → BitVec 16) : Nat → BitVec 16 := fun b => gf_m (gf_inv (w (fp D w))) (w b)
def el_put (D : Nat) (w : Nat → BitVec 16) (s : el_S) : el_S :=
  (s.1 + 1, (fun q => if q = s.1 then el_n D w else s.2.1 q), (fun q => if q = s.1 then el_n D w else fun b => s.2.2.1 q b ^^^ gf_m (s.2.2.1 q (fp D w)) (el_n D w b)), fun q => if q = s.1 then fp D w else s.2.2.2 q)
def el_step (D : Nat) (v : Nat → BitVec 16) (s : el_S) : el_S := if fp D (el_w v s) < D then el_put D (el_w v s) s else s
def el_ok (D : Nat) (s : el_S) : Prop := la_inv s.1 D s.2.1 s.2.2.1 s.2.2.2 ∧ s.1 ≤ D
theorem el_ok_step {D : Nat} {v : Nat → BitVec 16} {s : el_S} (h : el_ok D s) (ht : s.1 < D) : el_ok D (el_step D v s) := by
  unfold el_step
  by_cases hc : fp D (el_w v s) < D
  · rw [if_pos hc]
    obtain ⟨h1, h2⟩ := h
    refine ⟨?_, by show s.1 + 1 ≤ D; omega⟩
    refine la_step (c := fp D (el_w v s)) (n := el_n D (el_w v s)) h1 hc (gf_inv_m (fp_ne hc)) (fun b hb => ?_) (fun q hq => ?_) (fun q hq b => ?_) ?_ (fun q hq => ?_) ?_ (fun q hq => ?_) ?_
    · show gf_m _ (el_w v s b) = 0#16
      rw [fp_0 hb, gf_m_0]
    · show gf_m _ (el_w v s (s.2.2.2 q)) = 0#16
      have : el_w v s (s.2.2.2 q) = 0#16 := la_red_0 v h1.2.2.1 h1.2.2.2.1 s.1 (Nat.le_refl _) q hq
      rw [this, gf_m_0]
    · show (if q = s.1 then el_n D (el_w v s) else fun b => _) b = _
      rw [if_neg (by omega)]
    · show (if s.1 = s.1 then _ else _) = _
      rw [if_pos rfl]
    · show (if q = s.1 then _ else _) = _
      rw [if_neg (by omega)]
    · show (if s.1 = s.1 then _ else _) = _
      rw [if_pos rfl]
    · show (if q = s.1 then _ else _) = _
      rw [if_neg (by omega)]
    · show (if s.1 = s.1 then _ else _) = _
      rw [if_pos rfl]
  · rw [if_neg hc]
    exact h
/-- the rows that are offered, one behind the other, until there are enough -/
noncomputable def el (D : Nat) (row : Nat → Nat → BitVec 16) (av : Nat → Prop) : Nat → el_S
  | 0 => (0, (fun _ _ => 0#16), (fun _ _ => 0#16), fun _ => 0)
  | e + 1 => sq_l ((el D row av e).1 < D ∧ av e) (el_step D (row e) (el D row av e)) (el D row av e)
theorem el_all_ok (D : Nat) (row : Nat → Nat → BitVec 16) (av : Nat → Prop) (e : Nat) : el_ok D (el D row av e) := by
  induction e with
  | zero => exact ⟨⟨fun q s hq => absurd hq (Nat.not_lt_zero _), fun q hq => absurd hq (Nat.not_lt_zero _), fun q hq => absurd hq (Nat.not_lt_zero _), fun q s hq => absurd hq (Nat.not_lt_zero _), fun q hq => absurd hq (Nat.not_lt_zero _), fun q c hq => absurd hq (Nat.not_lt_zero _)⟩, Nat.zero_le _⟩
  | succ e ih =>
    unfold el
    by_cases h : (el D row av e).1 < D ∧ av e
    · rw [sq_lt h]; exact el_ok_step ih h.1
    · rw [sq_lf h]; exact ih
theorem el_stop {D : Nat} {row : Nat → Nat → BitVec 16} {av : Nat → Prop} {e : Nat} (h : ¬ (el D row av e).1 < D) : ∀ k, el D row av (e + k) = el D row av e := by
  intro k
  induction k with
  | zero => rfl
  | succ k ih =>
    show sq_l ((el D row av (e + k)).1 < D ∧ av (e + k)) _ _ = _
    rw [ih, sq_lf (fun z => h z.1)]
    exact ih
/-! the bits of the damaged slices -/
def dm_n (l : List Nat) : Nat := l.foldl (fun x j => x ||| 2 ^ j) 0
theorem dm_n_app (l : List Nat) (j : Nat) : dm_n (l ++ [j]) = dm_n l ||| 2 ^ j := by simp [dm_n]
theorem dm_fold_bit (l : List Nat) (i : Nat) : ∀ x : Nat, (l.foldl (fun x j => x ||| 2 ^ j) x).testBit i = (x.testBit i || decide (i ∈ l)) := by
  induction l with
  | nil => intro x; simp
  | cons a l ih =>
    intro x
    rw [List.foldl_cons, ih, Nat.testBit_or, Nat.testBit_two_pow]
    by_cases h : a = i
    · subst h; simp
    · have h' : ¬ i = a := fun z => h z.symm
      simp [h, h']
theorem dm_n_bit (l : List Nat) (i : Nat) : dm_n l / 2 ^ i % 2 = if i ∈ l then 1 else 0 := by
  have h := dm_fold_bit l i 0
  rw [Nat.zero_testBit, Bool.false_or] at h
  have h2 : (dm_n l).testBit i = decide (dm_n l / 2 ^ i % 2 = 1) := by rw [Nat.testBit_eq_decide_div_mod_eq]
  have h3 : (dm_n l).testBit i = decide (i ∈ l) := h
  rw [h2] at h3
  by_cases hi : i ∈ l
  · rw [if_pos hi]
    simpa [hi] using h3
  · rw [if_neg hi]
    have : ¬ dm_n l / 2 ^ i % 2 = 1 := by simpa [hi] using h3
    omega
theorem dm_fold_lt (l : List Nat) (h : ∀ j ∈ l, j < 12) : ∀ x : Nat, x < 2 ^ 12 → l.foldl (fun x j => x ||| 2 ^ j) x < 2 ^ 12 ∧ l.foldl (fun x j => x ||| px_shl 1 (nI j)) (nI x) = nI (l.foldl (fun x j => x ||| 2 ^ j) x) := by
  induction l with
  | nil => intro x hx; exact ⟨hx, rfl⟩
  | cons a l ih =>
    intro x hx
    have ha := h a List.mem_cons_self
    have hp : 2 ^ a < 2 ^ 12 := Nat.pow_lt_pow_right (by decide) ha
    have e1 : px_shl 1 (nI a) = nI (2 ^ a) := by
      have := px_shlN (n := 1) (k := a) (by omega) (by rw [Nat.one_mul]; omega)
      rw [Nat.one_mul] at this
      exact this
    rw [List.foldl_cons, List.foldl_cons, e1, nI_or (by omega) (by omega)]
    exact ih (fun j hj => h j (List.mem_cons_of_mem _ hj)) _ (Nat.or_lt_two_pow hx hp)
theorem dm_n_lt {l : List Nat} (h : ∀ j ∈ l, j < 12) : dm_n l < 2 ^ 12 := (dm_fold_lt l h 0 (by decide)).1
theorem dm_i_n {l : List Nat} (h : ∀ j ∈ l, j < 12) : dm_i l = nI (dm_n l) := (dm_fold_lt l h 0 (by decide)).2
/-- a sorted list, up to j -/
theorem fl_big {l : List Nat} {j : Nat} (h : ∀ a ∈ l, j ≤ a) : l.filter (fun a => decide (a < j)) = [] := by
  rw [List.filter_eq_nil_iff]
  intro a ha
  have := h a ha
  simp
  omega
theorem fl_step {l : List Nat} (h : l.Pairwise (· < ·)) (j : Nat) : l.filter (fun a => decide (a < j + 1)) = l.filter (fun a => decide (a < j)) ++ (if j ∈ l then [j] else []) := by
  induction l with
  | nil => simp
  | cons a l ih =>
    rw [List.pairwise_cons] at h
    have ih := ih h.2
    by_cases h1 : a < j
    · have h2 : a < j + 1 := by omega
      have h3 : ¬ j = a := by omega
      rw [List.filter_cons_of_pos (by simpa using h2), List.filter_cons_of_pos (by simpa using h1), ih, List.cons_append]
      simp [h3]
    · by_cases h2 : a = j
      · subst h2
        have e1 : l.filter (fun b => decide (b < a + 1)) = [] := fl_big (fun b hb => by have := h.1 b hb; omega)
        have e2 : l.filter (fun b => decide (b < a)) = [] := fl_big (fun b hb => by have := h.1 b hb; omega)
        rw [List.filter_cons_of_pos (by simp), List.filter_cons_of_neg (by simp), e1, e2]
        simp
      · have h3 : ¬ a < j + 1 := by omega
        have h4 : ¬ j = a := by omega
        rw [List.filter_cons_of_neg (by simpa using h3), List.filter_cons_of_neg (by simpa using h1), ih]
        simp [h4]
theorem fl_all {l : List Nat} {j : Nat} (h : ∀ a ∈ l, a < j) : l.filter (fun a => decide (a < j)) = l := by
  rw [List.filter_eq_self]
  intro a ha
  simpa using h a ha
/-! the slices that are made again -/
def sl_pn (C : List Int32) (j q : Nat) (v : BitVec 16) : List Int32 := (C.set (8 * j + 2 * q) (gE v &&& 255)).set (8 * j + 2 * q + 1) (px_ushr (gE v) 8 &&& 255)
def sl_p4 (C : List Int32) (j : Nat) (r : Nat → BitVec 16) : Nat → List Int32
  | 0 => C
  | q + 1 => sl_pn (sl_p4 C j r q) j q (r (12 + q))
def sl_pa (C : List Int32) (l : List Nat) (p : Nat → Nat) (R : Nat → Nat → BitVec 16) : Nat → List Int32
  | 0 => C
  | t + 1 => sl_p4 (sl_pa C l p R t) (l.getD (p t) 0) (R t) 4
theorem sl_pn_len (C : List Int32) (j q : Nat) (v : BitVec 16) : (sl_pn C j q v).length = C.length := by simp [sl_pn]
theorem sl_p4_len (C : List Int32) (j : Nat) (r : Nat → BitVec 16) (q : Nat) : (sl_p4 C j r q).length = C.length := by
  induction q with
  | zero => rfl
  | succ q ih => rw [sl_p4, sl_pn_len, ih]
theorem sl_pa_len (C : List Int32) (l : List Nat) (p : Nat → Nat) (R : Nat → Nat → BitVec 16) (t : Nat) : (sl_pa C l p R t).length = C.length := by
  induction t with
  | zero => rfl
  | succ t ih => rw [sl_pa, sl_p4_len, ih]
theorem ls_by_set' {L : List Int32} (h : ls_by L) (i : Nat) {v : Int32} (hv : v &&& 255 = v) : ls_by (L.set i v) := by
  intro x hx
  rcases List.mem_or_eq_of_mem_set hx with h1 | h1
  · exact h x h1
  · rw [h1]; exact hv
theorem ls_by_pn {C : List Int32} (h : ls_by C) (j q : Nat) (v : BitVec 16) : ls_by (sl_pn C j q v) := ls_by_set' (ls_by_set' h _ (by_and _)) _ (by_and _)
theorem ls_by_p4 {C : List Int32} (h : ls_by C) (j : Nat) (r : Nat → BitVec 16) (q : Nat) : ls_by (sl_p4 C j r q) := by
  induction q with
  | zero => exact h
  | succ q ih => exact ls_by_pn ih _ _ _
theorem ls_by_pa {C : List Int32} (h : ls_by C) (l : List Nat) (p : Nat → Nat) (R : Nat → Nat → BitVec 16) (t : Nat) : ls_by (sl_pa C l p R t) := by
  induction t with
  | zero => exact h
  | succ t ih => exact ls_by_p4 ih _ _ _
/-! repair -/
/-- number q of the recovery slice that stands at a, less the slices that are whole -/
def rp_v (V : List Int32) (a : Nat) (q : Nat) : BitVec 16 := BitVec.ofNat 16 (sp_bt V (a + 27 + 2 * q) + 256 * sp_bt V (a + 27 + 2 * q + 1))
theorem rp_v_eq {V : List Int32} (h : ls_by V) (a q : Nat) : V.getD (a + 27 + 2 * q) 0 ||| px_shl (V.getD (a + 27 + 2 * q + 1) 0) 8 = gE (rp_v V a q) := by
  rw [sp_bt_eq h, sp_bt_eq h, sp_or (sp_bt_lt _ _) (sp_bt_lt _ _)]
  unfold gE rp_v
  rw [BitVec.toNat_ofNat]
  have h1 := sp_bt_lt V (a + 27 + 2 * q)
  have h2 := sp_bt_lt V (a + 27 + 2 * q + 1)
  rw [Nat.mod_eq_of_lt (by omega)]
def rp_row (V C : List Int32) (N : Nat → Option Nat) (l : List Nat) (n : Nat) (e : Nat) : Nat → BitVec 16 := fun c =>
  if c < l.length then gf_b (l.getD c 0) e else if 12 ≤ c ∧ c < 16 then rp_v V ((N (6 + e)).getD 0) (c - 12) ^^^ sp_wg C (dm_n l) e (c - 12) n else 0#16
noncomputable def rp_el (V C : List Int32) (N : Nat → Option Nat) (l : List Nat) (n : Nat) : Nat → el_S := el l.length (rp_row V C N l n) (fun e => N (6 + e) ≠ none)
noncomputable def rp_C (V C : List Int32) (N : Nat → Option Nat) (l : List Nat) (n : Nat) : List Int32 := sl_pa C l (rp_el V C N l n 256).2.2.2 (rp_el V C N l n 256).2.2.1 l.length
def rp_rt (V : List Int32) (N : Nat → Option Nat) (C : List Int32) (t : Nat → Nat) (f : Nat) : Prop := ∀ a, N f = some a → ∀ i, i < 16 → V.getD (a + 28 + i) 0 = md_b (md_sum (ls_sl C (8 * sp_n t f) (t f))) i
def rp_F (F : Nat → List Int32) (C : List Int32) (t : Nat → Nat) (m : Nat) : Nat → List Int32 := fun f => if f < m then ls_sl C (8 * sp_n t f) (t f) else F f
noncomputable def sq_rep (F : Nat → List Int32) (V : List Int32) (N : Nat → Option Nat) (t : Nat → Nat) (m : Nat) (l : List Nat) (C : List Int32) : Int32 × (Nat → List Int32) :=
  sq_l ((rp_el V C N l (sp_n t m) 256).1 < l.length) (-4, F) (sq_l (∀ f, f < m → rp_rt V N (rp_C V C N l (sp_n t m)) t f) (nI l.length, rp_F F (rp_C V C N l (sp_n t m)) t m) (-5, F))
noncomputable def sq_repair (F : Nat → List Int32) (V : List Int32) : Int32 × (Nat → List Int32) := match sc_mn V with
  | none => (-3, F)
  | some M => sq_rep F V (sc_N V M) (mn_t V M) (mn_m V M) (sq_dm F V M) (sp_c F (mn_t V M) (mn_m V M))
