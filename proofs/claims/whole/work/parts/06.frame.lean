/-! The states of the system as one function, and a judgement over the kit's W that speaks of it alone. -/
abbrev px_S : Type := Nat → Nat → Int32
abbrev px_C : Type := Nat ⊕ ((Nat × List Nat) ⊕ (Nat × List (Option Nat)))
abbrev px_G : Type := Launch × va_G × (Nat → ClassId) × (Nat → Nat)
def px_u (S : px_S) (k j : Nat) (x : Int32) : px_S := fun k' => if k' = k then upd (S k) j x else S k'
theorem px_u_self (S : px_S) (k j : Nat) (x : Int32) : px_u S k j x k = upd (S k) j x := if_pos rfl
theorem px_u_ne (S : px_S) {k i : Nat} (j : Nat) (x : Int32) (h : i ≠ k) : px_u S k j x i = S i := if_neg h
def px_c (S : px_S) (k : Nat) (f : Nat → Int32) : px_S := fun k' => if k' = k then f else S k'
def px_v (ad : Nat → Nat) : Value → Value
  | .ref k => .ref (ad k)
  | .int x => .int x
  | .long x => .long x
  | v => v
theorem px_v_cat (ad : Nat → Nat) (v : Value) : (px_v ad v).category = v.category := by cases v <;> rfl
theorem px_v_sum (ad : Nat → Nat) (st : List Value) : ((st.map (px_v ad)).map fun v => v.category).sum = (st.map fun v => v.category).sum := by
  rw [List.map_map]
  congr 1
  apply List.map_congr_left
  intro v _
  exact px_v_cat ad v
def px_f (ad : Nat → Nat) (g : Nat → Int32) (j : Nat) : Option Nat → Value
  | none => .int (g j)
  | some r => .ref (ad r)
def px_e (ad : Nat → Nat) (aC : Nat → ClassId) (g : Nat → Int32) : px_C → va_E
  | .inl n => .inl (aC 0, n, .inl g)
  | .inr (.inl (t, rs)) => .inl (aC t, rs.length, .inr (.inr (.inr (.inr (fun j => (rs[j]?).map ad)))))
  | .inr (.inr (ci, fs)) => .inr (ci, fs.mapIdx (px_f ad g))
def px_W (ad : Nat → Nat) (aC : Nat → ClassId) (Z : List px_C) (S : px_S) : va_W := Z.mapIdx (fun k c => (ad k, px_e ad aC (S k) c))
theorem px_get {ad : Nat → Nat} {aC : Nat → ClassId} {Z : List px_C} {S : px_S} {k : Nat} {c : px_C} (h : Z[k]? = some c) : (px_W ad aC Z S)[k]? = some (ad k, px_e ad aC (S k) c) := by
  unfold px_W
  rw [List.getElem?_mapIdx, h]
  rfl
theorem px_at {ad : Nat → Nat} {aC : Nat → ClassId} {Z : List px_C} {S : px_S} {k : Nat} {q : Nat × va_E} (h : (px_W ad aC Z S)[k]? = some q) : k < Z.length ∧ q.1 = ad k := by
  unfold px_W at h
  rw [List.getElem?_mapIdx] at h
  cases hz : Z[k]? with
  | none => rw [hz] at h; cases h
  | some c =>
    rw [hz] at h
    have h2 := Option.some.inj h
    subst h2
    exact ⟨(List.getElem?_eq_some_iff.mp hz).1, rfl⟩
theorem px_set {ad : Nat → Nat} {aC : Nat → ClassId} {Z : List px_C} {S S' : px_S} {k : Nat} {c : px_C} {e : va_E} (h : Z[k]? = some c) (he : px_e ad aC (S' k) c = e) (ho : ∀ i, i ≠ k → S' i = S i) : (px_W ad aC Z S).set k (ad k, e) = px_W ad aC Z S' := by
  apply List.ext_getElem?
  intro i
  by_cases hi : i = k
  · subst hi
    have hl : i < (px_W ad aC Z S).length := by
      unfold px_W
      rw [List.length_mapIdx]
      exact (List.getElem?_eq_some_iff.mp h).1
    rw [List.getElem?_set_self hl, px_get h, he]
  · rw [List.getElem?_set_ne (Ne.symm hi)]
    unfold px_W
    rw [List.getElem?_mapIdx, List.getElem?_mapIdx, ho i hi]
theorem px_obj {ad : Nat → Nat} {g : Nat → Int32} {fs : List (Option Nat)} {j : Nat} (h : fs[j]? = some none) (x : Int32) : (fs.mapIdx (px_f ad g)).set j (.int x) = fs.mapIdx (px_f ad (upd g j x)) := by
  apply List.ext_getElem?
  intro i
  by_cases hi : i = j
  · subst hi
    have hl : i < (fs.mapIdx (px_f ad g)).length := by
      rw [List.length_mapIdx]
      exact (List.getElem?_eq_some_iff.mp h).1
    rw [List.getElem?_set_self hl, List.getElem?_mapIdx, h]
    simp [px_f, upd]
  · rw [List.getElem?_set_ne (Ne.symm hi), List.getElem?_mapIdx, List.getElem?_mapIdx]
    cases fs[i]? with
    | none => rfl
    | some o => cases o <;> simp [px_f, upd, hi]
/-- the cells lie apart -/
def px_J (ad : Nat → Nat) (Z : List px_C) : Prop := ∀ i j, i < Z.length → j < Z.length → ad i = ad j → i = j
/-- the cells' addresses, and what is new -/
def px_A (ad : Nat → Nat) (Z : List px_C) (sz : Nat) : Nat → Prop := fun q => (∃ k, k < Z.length ∧ q = ad k) ∨ sz ≤ q
theorem px_D {ad : Nat → Nat} {aC : Nat → ClassId} {Z : List px_C} (hJ : px_J ad Z) (S : px_S) (sz : Nat) : va_D (px_A ad Z sz) (px_W ad aC Z S) := by
  refine ⟨fun i j p q hp hq hpq => ?_, fun k q hk => ?_⟩
  · obtain ⟨h1, h2⟩ := px_at hp
    obtain ⟨h3, h4⟩ := px_at hq
    exact hJ i j h1 h3 (by rw [← h2, ← h4]; exact hpq)
  · obtain ⟨h1, h2⟩ := px_at hk
    exact Or.inl ⟨k, h1, h2⟩
/-- the locals: what stands in the list and isn't null -/
def px_L (ad : Nat → Nat) (ls : Array Slot) (n : Nat) (L : List Value) : Prop := ls.size = n ∧ lv_wf ls ∧ ∀ (i : Nat) (v : Value), L[i]? = some v → v ≠ .null → ls[i]? = some (.val (px_v ad v))
def px_k (ad : Nat → Nat) (L : List Value) : List (Nat × Value) := (List.range L.length).filterMap (fun i => match (L[i]? : Option Value) with
  | some Value.null => none
  | some v => some (i, px_v ad v)
  | none => none)
theorem px_k_mem {ad : Nat → Nat} {L : List Value} {q : Nat × Value} : q ∈ px_k ad L ↔ ∃ v, L[q.1]? = some v ∧ v ≠ .null ∧ q.2 = px_v ad v := by
  unfold px_k
  rw [List.mem_filterMap]
  constructor
  · rintro ⟨i, hi, h⟩
    cases hv : L[i]? with
    | none => rw [hv] at h; cases h
    | some v =>
      rw [hv] at h
      cases v <;> first | (cases h; done) | (cases h; exact ⟨_, hv, (fun z => by cases z), rfl⟩)
  · rintro ⟨v, h1, h2, h3⟩
    refine ⟨q.1, List.mem_range.mpr (List.getElem?_eq_some_iff.mp h1).1, ?_⟩
    obtain ⟨i, w⟩ := q
    dsimp only at h1 h3 ⊢
    subst h3
    rw [h1]
    cases v <;> first | exact absurd rfl h2 | rfl
theorem px_L_has {ad : Nat → Nat} {ls : Array Slot} {n : Nat} {L : List Value} (h : px_L ad ls n L) : lv_has ls n (px_k ad L) := by
  refine ⟨h.1, h.2.1, fun q hq => ?_⟩
  obtain ⟨v, h1, h2, h3⟩ := px_k_mem.mp hq
  rw [h3]
  exact h.2.2 q.1 v h1 h2
/-- no long stands just before place i -/
def px_nl (L : List Value) (i : Nat) : Bool := match L[i - 1]? with
  | some (.long _) => false
  | some (.double _) => false
  | _ => true
theorem px_L_set {ad : Nat → Nat} {ls' : Array Slot} {n i : Nat} {L : List Value} {v : Value} (hc : px_nl L i = true)
    (h : lv_has ls' n ((i, px_v ad v) :: (px_k ad L).filter (fun q => !(q.1 == i) && !(q.1 + 1 == i && q.2.category == 2)))) : px_L ad ls' n (L.set i v) := by
  refine ⟨h.1, h.2.1, fun j w hj hw => ?_⟩
  by_cases hji : j = i
  · subst hji
    by_cases hl : j < L.length
    · rw [List.getElem?_set_self hl] at hj
      cases hj
      exact h.2.2 _ List.mem_cons_self
    · rw [List.getElem?_eq_none (by rw [List.length_set]; omega)] at hj
      cases hj
  · rw [List.getElem?_set_ne (Ne.symm hji)] at hj
    refine h.2.2 (j, px_v ad w) (List.mem_cons_of_mem _ (List.mem_filter.mpr ⟨px_k_mem.mpr ⟨w, hj, hw, rfl⟩, ?_⟩))
    have h2 : ¬ (j + 1 = i ∧ w.category = 2) := by
      rintro ⟨e1, e2⟩
      have e3 : i - 1 = j := by omega
      unfold px_nl at hc
      rw [e3, hj] at hc
      cases w <;> first | (simp at hc; done) | (simp [Value.category] at e2)
    simp only [px_v_cat]
    by_cases e1 : j + 1 = i
    · have e2 : ¬ w.category = 2 := fun e => h2 ⟨e1, e⟩
      simp [hji, e2]
    · simp [hji, e1]
theorem px_L_sub {ad : Nat → Nat} {ls : Array Slot} {n : Nat} {L L' : List Value} (h : px_L ad ls n L) (hs : ∀ (i : Nat) (v : Value), L'[i]? = some v → v ≠ .null → L[i]? = some v) : px_L ad ls n L' :=
  ⟨h.1, h.2.1, fun i v hi hv => h.2.2 i v (hs i v hi hv) hv⟩
theorem px_L_entry (ad : Nat → Nat) (as : List Value) {n : Nat} (hn : (lg_sl (as.map (px_v ad))).length ≤ n) {L : List Value} (hL : ∀ (i : Nat) (v : Value), L[i]? = some v → v ≠ .null → (i, px_v ad v) ∈ lv_args 0 (as.map (px_v ad))) :
    px_L ad ((lg_sl (as.map (px_v ad)) ++ List.replicate (n - (lg_sl (as.map (px_v ad))).length) Slot.unset).toArray) n L := by
  have h := lv_entry (as.map (px_v ad)) (n := n) hn
  exact ⟨h.1, h.2.1, fun i v hi hv => h.2.2 _ (hL i v hi hv)⟩
def px_ushr (x y : Int32) : Int32 := (x.toUInt32 >>> (y.toUInt32 &&& Int32.toUInt32 31)).toInt32
def px_shl (x y : Int32) : Int32 := x <<< (y &&& 31)
def px_sar (x y : Int32) : Int32 := x >>> (y &&& 31)
def px_rem (x y : Int32) : Int32 := x - x / y * y
def px_not (x : Int32) : Int32 := x ^^^ (-1)
def px_lushr (x : Int64) (y : Int32) : Int64 := (x.toUInt64 >>> (y.toInt64.toUInt64 &&& Int64.toUInt64 63)).toInt64
def px_lsar (x : Int64) (y : Int32) : Int64 := x >>> (y.toInt64 &&& 63)
def px_lshl (x : Int64) (y : Int32) : Int64 := x <<< (y.toInt64 &&& 63)
def px_min (x y : Int32) : Int32 := if y < x then y else x
