/-! Row: a row of bytes in cell k, its ints in cell k + 1 -/
theorem px_ua (S : px_S) (k j : Nat) (x : Int32) (k' j' : Nat) : px_u S k j x k' j' = if k' = k ∧ j' = j then x else S k' j' := by
  unfold px_u upd
  by_cases h : k' = k
  · subst h
    by_cases h2 : j' = j
    · subst h2; simp
    · simp [h2]
  · simp [h]
theorem px_us (S : px_S) (k j : Nat) (x : Int32) : px_u S k j x k j = x := by rw [px_ua, if_pos ⟨rfl, rfl⟩]
def rw_is (k n : Nat) : Prop := px_Zc[k]? = some (.inr (.inr (1, [some (k + 1), none]))) ∧ px_Zc[k + 1]? = some (.inl n) ∧ n < 2 ^ 31
def rw_at (S : px_S) (k : Nat) (L : List Int32) : Prop := S k 1 = nI L.length ∧ ∀ j, j < L.length → S (k + 1) j = L.getD j 0
theorem rw_at.of {S S' : px_S} {k : Nat} {L : List Int32} (h : rw_at S k L) (h1 : S' k = S k) (h2 : S' (k + 1) = S (k + 1)) : rw_at S' k L := ⟨by rw [h1]; exact h.1, fun j hj => by rw [h2]; exact h.2 j hj⟩
/-- n numbers of a row from a place on, 0 where it has none -/
def ls_sl (L : List Int32) (a n : Nat) : List Int32 := (List.range n).map (fun i => L.getD (a + i) 0)
theorem ls_sl_len (L : List Int32) (a n : Nat) : (ls_sl L a n).length = n := by simp [ls_sl]
theorem ls_sl_succ (L : List Int32) (a n : Nat) : ls_sl L a (n + 1) = ls_sl L a n ++ [L.getD (a + n) 0] := by simp [ls_sl, List.range_succ]
theorem ls_getD_app (L : List Int32) (x : Int32) {j : Nat} (h : j < L.length + 1) : (L ++ [x]).getD j 0 = if j = L.length then x else L.getD j 0 := by
  by_cases hj : j = L.length
  · subst hj; simp [List.getD_eq_getElem?_getD]
  · rw [if_neg hj, List.getD_eq_getElem?_getD, List.getD_eq_getElem?_getD, List.getElem?_append_left (by omega)]
/-- all numbers are bytes -/
def ls_by (L : List Int32) : Prop := ∀ x ∈ L, x &&& 255 = x
theorem ls_by_getD {L : List Int32} (h : ls_by L) (i : Nat) : L.getD i 0 &&& 255 = L.getD i 0 := by
  by_cases hi : i < L.length
  · rw [List.getD_eq_getElem?_getD, List.getElem?_eq_getElem hi]
    exact h _ (List.getElem_mem hi)
  · rw [List.getD_eq_getElem?_getD, List.getElem?_eq_none (by omega)]
    decide
section
variable {G : px_G} {d k n : Nat} {S : px_S} {L : List Int32}
theorem k_Row_size {Q : Int32 → px_S → Prop} (hR : rw_is k n) (hQ : Q (S k 1) S) : px_I G px_Zc d m_Row_size [.ref k] S Q := f_Row_size hR.1 hR.2.1 (px_iq_i hQ)
theorem k_Row_has {Q : Int32 → px_S → Prop} {i : Int32} (hR : rw_is k n) (hQ : Q (if i < 0 then 0 else if S k 1 ≤ i then 0 else 1) S) : px_I G px_Zc d m_Row_has [.ref k, .int i] S Q := by
  refine f_Row_has hR.1 hR.2.1 ⟨fun h => px_iq_i ?_, fun h => ⟨fun h2 => px_iq_i ?_, fun h2 => px_iq_i ?_⟩⟩
  · rw [if_pos h] at hQ; exact hQ
  · rw [if_neg h, if_pos h2] at hQ; exact hQ
  · rw [if_neg h, if_neg h2] at hQ; exact hQ
theorem k_Row_get {Q : Int32 → px_S → Prop} {i : Nat} (hR : rw_is k n) (hw : rw_at S k L) (hl : L.length ≤ n) (hi : i < 2 ^ 31) (hQ : Q (L.getD i 0) S) : px_I G px_Zc d m_Row_get [.ref k, .int (nI i)] S Q := by
  have hn := hR.2.2
  refine f_Row_get hR.1 hR.2.1 ⟨fun h => absurd h (nI_pos hi), fun h => ⟨fun h2 => px_iq_i ?_, fun h2 => ⟨?_, px_iq_i ?_⟩⟩⟩
  · rw [hw.1, nI_leI (by omega) hi] at h2
    rw [List.getD_eq_getElem?_getD, List.getElem?_eq_none h2] at hQ
    exact hQ
  · rw [hw.1, nI_leI (by omega) hi] at h2
    exact vp_in_nI (by omega) hn
  · rw [hw.1, nI_leI (by omega) hi] at h2
    rw [nI_clamp hi, hw.2 i (by omega)]
    exact hQ
theorem k_Row_clear {Q : px_S → Prop} (hR : rw_is k n) (hQ : ∀ S', rw_at S' k [] → (∀ i, i ≠ k → S' i = S i) → Q S') : px_V G px_Zc d m_Row_clear [.ref k] S Q := by
  refine f_Row_clear hR.1 hR.2.1 (px_vq_i (hQ _ ⟨?_, fun j hj => ?_⟩ (fun i hi => px_u_ne S 1 0 hi)))
  · rw [px_us]; rfl
  · simp at hj
theorem k_Row_append {Q : px_S → Prop} {v : Int32} (hR : rw_is k n) (hw : rw_at S k L) (hl : L.length < n) (hQ : ∀ S', rw_at S' k (L ++ [v &&& 255]) → (∀ i, i ≠ k → i ≠ k + 1 → S' i = S i) → Q S') : px_V G px_Zc d m_Row_append [.ref k, .int v] S Q := by
  have hn := hR.2.2
  refine f_Row_append hR.1 hR.2.1 ⟨fun h => ?_, fun h => ⟨?_, ?_⟩⟩
  · rw [hw.1] at h
    exact absurd h (nI_ge hl hn)
  · rw [hw.1]; exact vp_in_nI hl hn
  · rintro S1 rfl
    rw [hw.1, nI_clamp (by omega)]
    refine px_vq_i (hQ _ ⟨?_, fun j hj => ?_⟩ (fun i h1 h2 => ?_))
    · rw [px_us, px_ua, if_neg (by omega), hw.1, nI_1, List.length_append]
      rfl
    · rw [List.length_append] at hj
      rw [px_ua, if_neg (by omega), px_ua, ls_getD_app L _ hj]
      by_cases hjl : j = L.length
      · rw [if_pos ⟨rfl, hjl⟩, if_pos hjl]
      · rw [if_neg (fun z => hjl z.2), if_neg hjl]
        have : [v &&& 255].length = 1 := rfl
        exact hw.2 j (by omega)
    · rw [px_u_ne _ _ _ h1, px_u_ne _ _ _ h2]
theorem k_Row_set {Q : Int32 → px_S → Prop} {i v : Int32} (hR : rw_is k n) (hw : rw_at S k L) (hl : L.length ≤ n) (h0 : ∀ j : Nat, j < L.length → i = nI j → 0 ≤ v → v ≤ 255 → ∀ S', rw_at S' k (L.set j v) → (∀ a, a ≠ k + 1 → S' a = S a) → Q 1 S')
    (h1 : ¬ ((∃ j : Nat, j < L.length ∧ i = nI j) ∧ 0 ≤ v ∧ v ≤ 255) → Q 0 S) : px_I G px_Zc (d + 1) m_Row_set [.ref k, .int i, .int v] S Q := by
  have hn := hR.2.2
  refine f_Row_set hR.1 hR.2.1 (k_Row_has hR ⟨fun h => px_iq_i (h1 ?_), fun h => ⟨fun h2 => px_iq_i (h1 ?_), fun h2 => ⟨fun h3 => ?_, fun h3 => px_iq_i (h1 ?_)⟩⟩⟩)
  · rintro ⟨⟨j, hj, rfl⟩, -⟩
    rw [hw.1, if_neg (nI_pos (by omega)), if_neg (nI_ge hj (by omega))] at h
    exact absurd h (by decide)
  · rintro ⟨-, hv, -⟩
    exact absurd h2 (Int32.not_lt.mpr hv)
  · have hex : ∃ j : Nat, j < L.length ∧ i = nI j := by
      by_cases c1 : i < 0
      · rw [if_pos c1] at h; exact absurd rfl h
      · by_cases c2 : S k 1 ≤ i
        · rw [if_neg c1, if_pos c2] at h; exact absurd rfl h
        · obtain ⟨j, hj, rfl⟩ := nI_of c1
          rw [hw.1, nI_leI (by omega) hj] at c2
          exact ⟨j, by omega, rfl⟩
    obtain ⟨j, hj, rfl⟩ := hex
    refine ⟨vp_in_nI (by omega) hn, px_iq_i (h0 j hj rfl (Int32.not_lt.mp h2) h3 _ ⟨?_, fun a ha => ?_⟩ (fun a ha => px_u_ne _ _ _ ha))⟩
    · rw [px_ua, if_neg (by omega), hw.1, List.length_set]
    · rw [List.length_set] at ha
      rw [px_ua, nI_clamp (by omega), List.getD_eq_getElem?_getD, List.getElem?_set]
      by_cases haj : a = j
      · subst haj
        simp [hj]
      · rw [if_neg (fun z => haj z.2), if_neg (fun z => haj z.symm), ← List.getD_eq_getElem?_getD]
        exact hw.2 a ha
  · rintro ⟨-, -, hv⟩
    exact absurd hv h3
theorem k_Row_become {Q : px_S → Prop} {o no a c : Nat} {Lo : List Int32} (hR : rw_is k n) (hRo : rw_is o no) (ho : rw_at S o Lo) (hlo : Lo.length ≤ no) (hb : ls_by Lo) (hok : o ≠ k) (hok1 : o ≠ k + 1) (hok2 : o + 1 ≠ k) (hc : c ≤ n) (hac : a + c < 2 ^ 31) (hQ : ∀ S', rw_at S' k (ls_sl Lo a c) → (∀ i, i ≠ k → i ≠ k + 1 → S' i = S i) → Q S') : px_V G px_Zc (d + 1) m_Row_become [.ref k, .ref o, .int (nI a), .int (nI c)] S Q := by
  have hn := hR.2.2
  refine f_Row_become hR.1 hR.2.1 ?_
  have key : ∀ (m i : Nat) (S' : px_S), m + i = c → rw_at S' k (ls_sl Lo a i) → (∀ j, j ≠ k → j ≠ k + 1 → S' j = S j) → px_w G px_Zc (d + 1) m_Row_become 8 [.ref k, .ref o, .int (nI a), .int (nI c), .int (nI i)] [] S' (px_vq Q) := by
    intro m
    induction m with
    | zero =>
      intro i S' hi hw hf
      refine e_Row_become_8 hR.1 hR.2.1 ⟨fun h => px_vq_i ?_, fun h => ?_⟩
      · have : i = c := by omega
        subst this
        exact hQ S' hw hf
      · rw [nI_leI (by omega) (by omega)] at h
        omega
    | succ m ih =>
      intro i S' hi hw hf
      refine e_Row_become_8 hR.1 hR.2.1 ⟨fun h => ?_, fun h => ?_⟩
      · rw [nI_leI (by omega) (by omega)] at h
        omega
      · rw [nI_add]
        refine k_Row_get hRo (ho.of (hf o hok hok1) (hf (o + 1) hok2 (by omega))) hlo (by omega) ?_
        refine k_Row_append hR hw (by rw [ls_sl_len]; omega) (fun S2 hw2 hf2 => ?_)
        rw [ls_by_getD hb, ← ls_sl_succ] at hw2
        rw [nI_1]
        exact ih (i + 1) S2 (by omega) hw2 (fun j h1 h2 => (hf2 j h1 h2).trans (hf j h1 h2))
  exact key c 0 _ (by omega) ⟨by rw [px_us]; rfl, fun j hj => by simp [ls_sl] at hj⟩ (fun j h1 h2 => px_u_ne S 1 0 h1)
end
