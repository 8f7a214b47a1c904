/-! What a scan finds -/
noncomputable def pk_ls (V : List Int32) : Nat → Nat → List Nat
  | 0, _ => []
  | n + 1, a => sq_l (a < V.length) (sq_l (pk_ok V a) (a :: pk_ls V n (a + 26 + pk_bl V a)) (pk_ls V n (a + 1))) []
theorem pk_ls_end {V : List Int32} {a : Nat} (h : V.length ≤ a) (n : Nat) : pk_ls V n a = [] := by
  cases n with
  | zero => rfl
  | succ n => unfold pk_ls; rw [sq_lf (by omega)]
theorem pk_ls_ok {V : List Int32} {a : Nat} (h : pk_ok V a) (n : Nat) : pk_ls V (n + 1) a = a :: pk_ls V n (a + 26 + pk_bl V a) := by
  have := h.2.2.2.1
  rw [pk_ls, sq_lt (by omega), sq_lt h]
theorem pk_ls_no {V : List Int32} {a : Nat} (h : ¬ pk_ok V a) (ha : a < V.length) (n : Nat) : pk_ls V (n + 1) a = pk_ls V n (a + 1) := by
  rw [pk_ls, sq_lt ha, sq_lf h]
theorem pk_ls_big {V : List Int32} (n : Nat) : ∀ a, V.length < a + 26 → pk_ls V n a = [] := by
  induction n with
  | zero => intro a _; rfl
  | succ n ih =>
    intro a h
    by_cases ha : a < V.length
    · rw [pk_ls_no (fun z => by have := z.2.2.2.1; omega) ha]
      exact ih _ (by omega)
    · exact pk_ls_end (by omega) _
theorem pk_ls_mem {V : List Int32} (n : Nat) : ∀ a b, b ∈ pk_ls V n a → pk_ok V b := by
  induction n with
  | zero => intro a b h; cases h
  | succ n ih =>
    intro a b h
    by_cases ha : a < V.length
    · by_cases hp : pk_ok V a
      · rw [pk_ls_ok hp] at h
        rcases List.mem_cons.mp h with rfl | h
        · exact hp
        · exact ih _ _ h
      · rw [pk_ls_no hp ha] at h
        exact ih _ _ h
    · rw [pk_ls_end (by omega)] at h
      cases h
/-- how many files a main packet tells of, and their lengths -/
def mn_m (V : List Int32) (a : Nat) : Nat := sp_bt V (a + 27)
def mn_t (V : List Int32) (a f : Nat) : Nat := sp_bt V (a + 28 + f)
def mn_ok (V : List Int32) (a : Nat) : Prop := V.getD (a + 3) 0 = 77 ∧ (1 ≤ mn_m V a ∧ mn_m V a ≤ 3) ∧ pk_bl V a = 2 + mn_m V a ∧ V.getD (a + 26) 0 = 8 ∧ (∀ f, f < mn_m V a → mn_t V a f ≤ 40) ∧ sp_n (mn_t V a) (mn_m V a) ≤ 12 ∧ ∀ i, i < 4 → V.getD (a + 22 + i) 0 = md_b (md_sum (ls_sl V (a + 26) (pk_bl V a))) i
noncomputable def pk_mn (V : List Int32) : List Nat → Option Nat
  | [] => none
  | a :: l => sq_l (mn_ok V a) (some a) (pk_mn V l)
theorem pk_mn_mem {V : List Int32} {M : Nat} : ∀ {l : List Nat}, pk_mn V l = some M → M ∈ l ∧ mn_ok V M
  | [], h => by cases h
  | a :: l, h => by
    by_cases hm : mn_ok V a
    · rw [pk_mn, sq_lt hm] at h
      cases h
      exact ⟨List.mem_cons_self, hm⟩
    · rw [pk_mn, sq_lf hm] at h
      obtain ⟨h1, h2⟩ := pk_mn_mem h
      exact ⟨List.mem_cons_of_mem _ h1, h2⟩
/-- for what a packet is counted: 0 to 2 a file's, 3 to 5 a file's checks, from 6 on a recovery slice -/
def nt_ss (V : List Int32) (M a : Nat) : Prop := ∀ i, i < 4 → V.getD (a + 22 + i) 0 = V.getD (M + 22 + i) 0
def nt_f (V : List Int32) (M a : Nat) : Prop := V.getD (a + 3) 0 = 70 ∧ pk_bl V a = 18 ∧ sp_bt V (a + 26) < mn_m V M ∧ sp_bt V (a + 27) = mn_t V M (sp_bt V (a + 26))
def nt_k (V : List Int32) (M a : Nat) : Prop := V.getD (a + 3) 0 = 73 ∧ sp_bt V (a + 26) < mn_m V M ∧ pk_bl V a = 1 + 20 * ((mn_t V M (sp_bt V (a + 26)) + 7) / 8)
def nt_r (V : List Int32) (a : Nat) : Prop := V.getD (a + 3) 0 = 82 ∧ pk_bl V a = 9
noncomputable def nt_key (V : List Int32) (M a : Nat) : Option Nat := sq_l (nt_ss V M a) (sq_l (nt_f V M a) (some (sp_bt V (a + 26))) (sq_l (nt_k V M a) (some (3 + sp_bt V (a + 26))) (sq_l (nt_r V a) (some (6 + sp_bt V (a + 26))) none))) none
def nt_up (N : Nat → Option Nat) (k a : Nat) : Nat → Option Nat := fun i => if i = k then some a else N i
def nt_add (N : Nat → Option Nat) (o : Option Nat) (a : Nat) : Nat → Option Nat := match o with
  | none => N
  | some k => if N k = none then nt_up N k a else N
noncomputable def nt_all (V : List Int32) (M : Nat) (N : Nat → Option Nat) (l : List Nat) : Nat → Option Nat := l.foldl (fun N a => nt_add N (nt_key V M a) a) N
def nt_g (V : List Int32) (M : Nat) (N : Nat → Option Nat) : Prop := ∀ k a, N k = some a → pk_ok V a ∧ nt_key V M a = some k
theorem nt_g_add {V : List Int32} {M a : Nat} {N : Nat → Option Nat} (h : nt_g V M N) (ha : pk_ok V a) : nt_g V M (nt_add N (nt_key V M a) a) := by
  cases hk : nt_key V M a with
  | none => exact h
  | some k =>
    show nt_g V M (if N k = none then nt_up N k a else N)
    by_cases hn : N k = none
    · rw [if_pos hn]
      intro i b hb
      unfold nt_up at hb
      by_cases hi : i = k
      · rw [if_pos hi] at hb
        cases hb
        subst hi
        exact ⟨ha, hk⟩
      · rw [if_neg hi] at hb
        exact h i b hb
    · rw [if_neg hn]; exact h
theorem nt_g_all {V : List Int32} {M : Nat} : ∀ {l : List Nat} {N : Nat → Option Nat}, nt_g V M N → (∀ a ∈ l, pk_ok V a) → nt_g V M (nt_all V M N l)
  | [], N, h, _ => h
  | a :: l, N, h, hl => nt_g_all (l := l) (nt_g_add h (hl a List.mem_cons_self)) (fun b hb => hl b (List.mem_cons_of_mem _ hb))
def nt_c (N : Nat → Option Nat) (lo : Nat) : Nat → Nat
  | 0 => 0
  | n + 1 => nt_c N lo n + (if (N (lo + n)).isSome then 1 else 0)
theorem nt_c_le (N : Nat → Option Nat) (lo n : Nat) : nt_c N lo n ≤ n := by
  induction n with
  | zero => exact Nat.le_refl _
  | succ n ih => unfold nt_c; split <;> omega
theorem nt_c_out {N : Nat → Option Nat} {k a lo : Nat} (n : Nat) (h : k < lo ∨ lo + n ≤ k) : nt_c (nt_up N k a) lo n = nt_c N lo n := by
  induction n with
  | zero => rfl
  | succ n ih =>
    unfold nt_c
    rw [ih (by omega)]
    have : nt_up N k a (lo + n) = N (lo + n) := if_neg (by omega)
    rw [this]
theorem nt_c_in {N : Nat → Option Nat} {k a lo : Nat} (n : Nat) (hN : N k = none) (h1 : lo ≤ k) (h2 : k < lo + n) : nt_c (nt_up N k a) lo n = nt_c N lo n + 1 := by
  induction n with
  | zero => omega
  | succ n ih =>
    unfold nt_c
    by_cases hk : k = lo + n
    · subst hk
      rw [nt_c_out n (Or.inr (Nat.le_refl _)), hN]
      have : nt_up N (lo + n) a (lo + n) = some a := if_pos rfl
      rw [this]
      simp
    · have : nt_up N k a (lo + n) = N (lo + n) := if_neg (by omega)
      rw [this, ih (by omega)]
      omega
/-- a place as it is kept -/
def nt_v (o : Option Nat) (c : Nat) : Int32 := match o with
  | none => -1
  | some a => nI (a + c)
theorem nt_v_iff {o : Option Nat} {c : Nat} (h : ∀ a, o = some a → a + c < 2 ^ 31) : nt_v o c = -1 ↔ o = none := by
  cases o with
  | none => exact ⟨fun _ => rfl, fun _ => rfl⟩
  | some a =>
    refine ⟨fun z => ?_, fun z => by cases z⟩
    exfalso
    have h1 : ¬ nI (a + c) < 0 := nI_pos (h a rfl)
    have z' : nI (a + c) = -1 := z
    rw [z'] at h1
    exact h1 (by decide)
theorem nt_v_neg {o : Option Nat} {c : Nat} (h : ∀ a, o = some a → a + c < 2 ^ 31) : 0 ≤ nt_v o c ↔ ¬ o = none := by
  cases o with
  | none =>
    have h0 : ¬ (0 : Int32) ≤ -1 := by decide
    exact ⟨fun z => absurd z h0, fun z => absurd rfl z⟩
  | some a => exact ⟨fun _ z => (nomatch z), fun _ => nI_pos' (h a rfl)⟩
noncomputable def sc_ls (V : List Int32) : List Nat := pk_ls V V.length 0
noncomputable def sc_mn (V : List Int32) : Option Nat := pk_mn V (sc_ls V)
noncomputable def sc_N (V : List Int32) (M : Nat) : Nat → Option Nat := nt_all V M (fun _ => none) (sc_ls V)
theorem sc_g (V : List Int32) (M : Nat) : nt_g V M (sc_N V M) := nt_g_all (fun k a h => by cases h) (fun a ha => pk_ls_mem _ _ _ ha)
theorem sc_mn_ok {V : List Int32} {M : Nat} (h : sc_mn V = some M) : pk_ok V M ∧ mn_ok V M := ⟨pk_ls_mem _ _ _ (pk_mn_mem h).1, (pk_mn_mem h).2⟩
noncomputable def sq_scan (V : List Int32) : Int32 := match sc_mn V with
  | none => -3
  | some M => nI (1 + nt_c (sc_N V M) 0 262 + 100 * nt_c (sc_N V M) 6 256)
