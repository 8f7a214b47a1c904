/-! Equations: solving; Mender: making the damaged slices again -/
/-- rows that are half reduced: behind u nothing is left above the pivots -/
def sv_in (T : Nat) (R : Nat → Nat → BitVec 16) (p : Nat → Nat) (C : Nat → Nat → BitVec 16) (u : Nat) : Prop :=
  (∀ q, q < T → la_sp T R (C q)) ∧ (∀ q, q < T → C q (p q) = 1#16) ∧ (∀ q s, q < T → s < q → C q (p s) = 0#16) ∧ ∀ r q, u < r → r < T → q < r → C q (p r) = 0#16
section
variable {G : px_G} {d : Nat} {S : px_S} {D : Nat}
theorem k_Equations_solve {Q : px_S → Prop} {s : el_S} (hs : eq_at S D s) (hD : D ≤ 12) (hok : el_ok D s) (hQ : ∀ S', eq_at S' D (s.1, s.2.2.1, s.2.2.1, s.2.2.2) → eq_fr S S' → Q S') : px_V G px_Zc (d + 2) m_Equations_solve [.ref 30] S Q := by
  obtain ⟨h2, h3, hr, hp⟩ := hs
  obtain ⟨hinv, hle⟩ := hok
  have hpd := hinv.2.2.2.2.1
  have fin : ∀ (C : Nat → Nat → BitVec 16) (S1 : px_S) (u : Nat), u = 0 → sv_in s.1 s.2.2.1 s.2.2.2 C u → (∀ q, q < s.1 → eq_row S1 D q (C q)) → (∀ i, i < 32 ∨ 43 < i → S1 i = S i) → Q S1 := by
    intro C S1 u hu hC hC1 f1
    subst hu
    obtain ⟨c1, c2, c3, c4⟩ := hC
    have e := la_end (C' := C) hinv c1 (fun q r hq hr => by
      by_cases h : q = r
      · subst h; rw [if_pos rfl]; exact c2 q hq
      · rw [if_neg h]
        by_cases h' : r < q
        · exact c3 q r hq h'
        · exact c4 r q (by omega) hr (by omega))
    refine hQ S1 ⟨by rw [f1 30 (by omega)]; exact h2, by rw [f1 30 (by omega)]; exact h3, fun q hq c hc => ?_, fun q hq => by rw [f1 44 (by omega)]; exact hp q hq⟩ (fun i hi => f1 i (by omega))
    rw [hC1 q hq c hc, e q hq c]
  have t7 : ∀ (u : Nat) (C : Nat → Nat → BitVec 16) (S1 : px_S), u < s.1 → sv_in s.1 s.2.2.1 s.2.2.2 C u → (∀ q, q < s.1 → eq_row S1 D q (C q)) → (∀ i, i < 32 ∨ 43 < i → S1 i = S i) → px_w G px_Zc (d + 2) m_Equations_solve 7 [.ref 30, .int (nI u), .null] [] S1 (px_vq Q) := by
    intro u
    induction u with
    | zero =>
      intro C S1 hu hC hC1 f1
      exact e_Equations_solve_7 ⟨fun _ => px_vq_i (fin C S1 0 rfl hC hC1 f1), fun z => absurd (Int32.le_refl _) z⟩
    | succ u ih =>
      intro C S1 hu hC hC1 f1
      refine e_Equations_solve_7 ⟨fun z => absurd z (nI_nle (by omega) (by omega)), fun _ => ?_⟩
      have t13 : ∀ (r n : Nat) (C : Nat → Nat → BitVec 16) (S1 : px_S), r + n = u + 1 → sv_in s.1 s.2.2.1 s.2.2.2 C (u + 1) → (∀ q, q < n → C q (s.2.2.2 (u + 1)) = 0#16) → (∀ q, q < s.1 → eq_row S1 D q (C q)) → (∀ i, i < 32 ∨ 43 < i → S1 i = S i) → px_w G px_Zc (d + 2) m_Equations_solve 13 [.ref 30, .int (nI (u + 1)), .int (nI n)] [] S1 (px_vq Q) := by
        intro r
        induction r with
        | zero =>
          intro n C S1 hn hC hz hC1 f1
          have : n = u + 1 := by omega
          subst this
          refine e_Equations_solve_13 ⟨fun _ => ?_, fun z => absurd (Int32.le_refl _) z⟩
          have e1 : nI (u + 1) + (-1) = nI u := by rw [← Int32.sub_eq_add_neg]; exact nI_pred u
          rw [e1]
          refine ih C S1 (by omega) ⟨hC.1, hC.2.1, hC.2.2.1, fun r q h1 h2 h3 => ?_⟩ hC1 f1
          by_cases hr : r = u + 1
          · subst hr; exact hz q h3
          · exact hC.2.2.2 r q (by omega) h2 h3
        | succ r ihr =>
          intro n C S1 hn hC hz hC1 f1
          obtain ⟨c1, c2, c3, c4⟩ := hC
          have hpu := hpd (u + 1) hu
          refine e_Equations_solve_13 ?_
          rw [px_re_get (by omega), nI_clamp (n := u + 1) (by omega), f1 44 (by omega), hp (u + 1) hu, nI_clamp (n := s.2.2.2 (u + 1)) (by omega), hC1 n (by omega) _ (Or.inl hpu), nI_1]
          refine ⟨fun z => absurd z (nI_ge (by omega) (by omega)), fun _ => ⟨vp_in_nI (by omega) (by decide), vp_in_nI (by omega) (by decide), px_Zc_re (by omega), vp_in_nI (by omega) (by decide), ?_⟩⟩
          refine k_Equations_addMultiple (D := D) (by rw [f1 30 (by omega)]; exact h2) hD (by omega) (by omega) (by omega) (hC1 n (by omega)) (hC1 (u + 1) hu) (fun S2 w2 f2 => ?_)
          have e1 : C (u + 1) (s.2.2.2 (u + 1)) = 1#16 := c2 (u + 1) hu
          refine ihr (n + 1) (fun q => if q = n then (fun c => C n c ^^^ gf_m (C n (s.2.2.2 (u + 1))) (C (u + 1) c)) else C q) S2 (by omega) ⟨fun q hq => ?_, fun q hq => ?_, fun q t hq ht => ?_, fun r q h1 h2 h3 => ?_⟩ (fun q hq => ?_) (fun q hq => ?_) (fun i hi => ?_)
          · show la_sp s.1 s.2.2.1 (if q = n then _ else C q)
            by_cases hqn : q = n
            · rw [if_pos hqn]; exact la_sp_add (c1 n (by omega)) (la_sp_mul _ (c1 (u + 1) hu))
            · rw [if_neg hqn]; exact c1 q hq
          · show (if q = n then _ else C q) (s.2.2.2 q) = _
            by_cases hqn : q = n
            · rw [if_pos hqn, hqn]
              show C n (s.2.2.2 n) ^^^ gf_m _ (C (u + 1) (s.2.2.2 n)) = 1#16
              rw [c2 n (by omega), c3 (u + 1) n hu (by omega), gf_m_0, BitVec.xor_zero]
            · rw [if_neg hqn]; exact c2 q hq
          · show (if q = n then _ else C q) (s.2.2.2 t) = _
            by_cases hqn : q = n
            · rw [if_pos hqn]
              show C n (s.2.2.2 t) ^^^ gf_m _ (C (u + 1) (s.2.2.2 t)) = 0#16
              rw [c3 n t (by omega) (by omega), c3 (u + 1) t hu (by omega), gf_m_0, BitVec.xor_zero]
            · rw [if_neg hqn]; exact c3 q t hq ht
          · show (if q = n then _ else C q) (s.2.2.2 r) = _
            by_cases hqn : q = n
            · rw [if_pos hqn]
              show C n (s.2.2.2 r) ^^^ gf_m _ (C (u + 1) (s.2.2.2 r)) = 0#16
              rw [c4 r n h1 h2 (by omega), c4 r (u + 1) h1 h2 (by omega), gf_m_0, BitVec.xor_zero]
            · rw [if_neg hqn]; exact c4 r q h1 h2 h3
          · show (if q = n then _ else C q) (s.2.2.2 (u + 1)) = _
            by_cases hqn : q = n
            · rw [if_pos hqn]
              show C n (s.2.2.2 (u + 1)) ^^^ gf_m _ (C (u + 1) (s.2.2.2 (u + 1))) = 0#16
              rw [e1, gf_m_1, BitVec.xor_self]
            · rw [if_neg hqn]; exact hz q (by omega)
          · show eq_row S2 D q (if q = n then _ else C q)
            by_cases hqn : q = n
            · rw [if_pos hqn, hqn]; exact w2
            · rw [if_neg hqn]; exact (hC1 q hq).of (f2 _ (by omega))
          · rw [f2 i (by omega)]; exact f1 i hi
      exact t13 (u + 1) 0 C S1 (by omega) hC (fun q hq => by omega) hC1 f1
  refine f_Equations_solve ?_
  rw [h3]
  have c0 : sv_in s.1 s.2.2.1 s.2.2.2 s.2.1 (s.1 - 1) := ⟨hinv.2.1, hinv.2.2.1, hinv.2.2.2.1, fun r q h1 h2 h3 => by omega⟩
  by_cases hz : s.1 = 0
  · rw [hz]
    refine e_Equations_solve_7 ⟨fun _ => px_vq_i (fin s.2.1 S (s.1 - 1) (by omega) c0 hr (fun _ _ => rfl)), fun z => absurd ?_ z⟩
    decide
  · rw [show nI s.1 - 1 = nI (s.1 - 1) from pk_sub (a := s.1) (b := 1) (by omega)]
    exact t7 (s.1 - 1) s.2.1 S (by omega) c0 hr (fun _ _ => rfl)
theorem k_Equations_unknownOf {Q : Int32 → px_S → Prop} {s : el_S} {q : Nat} (hs : eq_at S D s) (h12 : s.1 ≤ 12) (hq : q < s.1) (hQ : Q (nI (s.2.2.2 q)) S) : px_I G px_Zc d m_Equations_unknownOf [.ref 30, .int (nI q)] S Q := by
  refine f_Equations_unknownOf ?_
  rw [hs.2.1, nI_clamp (by omega), hs.2.2.2 q hq]
  exact ⟨fun z => absurd z (nI_pos (by omega)), fun _ => ⟨fun z => absurd z (nI_ge hq (by omega)), fun _ => ⟨vp_in_nI (by omega) (by decide), px_iq_i hQ⟩⟩⟩
theorem k_Equations_resultOf {Q : Int32 → px_S → Prop} {s : el_S} {q i : Nat} (hs : eq_at S D s) (h12 : s.1 ≤ 12) (hq : q < s.1) (hi : i < 4) (hQ : Q (gE (s.2.1 q (12 + i))) S) : px_I G px_Zc d m_Equations_resultOf [.ref 30, .int (nI q), .int (nI i)] S Q := by
  refine f_Equations_resultOf ?_
  rw [hs.2.1, px_re_get (by omega), show (12 : Int32) + nI i = nI (12 + i) from nI_add 12 i, nI_clamp (by omega), hs.2.2.1 q hq (12 + i) (Or.inr ⟨by omega, by omega⟩)]
  exact ⟨fun z => absurd z (nI_pos (by omega)), fun _ => ⟨fun z => absurd z (nI_ge hq (by omega)), fun _ => ⟨fun z => absurd z (nI_pos (by omega)), fun _ => ⟨fun z => absurd z (nI_ge (b := 4) hi (by decide)), fun _ => ⟨vp_in_nI (by omega) (by decide), px_Zc_re (by omega), vp_in_nI (by omega) (by decide), px_iq_i hQ⟩⟩⟩⟩⟩
theorem k_Slices_setNumber {Q : px_S → Prop} {C : List Int32} {j q : Nat} {v : BitVec 16} (hw : rw_at S 13 C) (hl : C.length ≤ 96) (hj : 8 * j + 8 ≤ C.length) (hq : q < 4) (hQ : ∀ S', rw_at S' 13 (sl_pn C j q v) → (∀ i, i ≠ 14 → S' i = S i) → Q S') : px_V G px_Zc (d + 2) m_Slices_setNumber [.ref 12, .int (nI j), .int (nI q), .int (gE v)] S Q := by
  refine f_Slices_setNumber ?_
  rw [show (8 : Int32) * nI j = nI (8 * j) from pk_mul 8 j, show (2 : Int32) * nI q = nI (2 * q) from pk_mul 2 q, nI_add, nI_1]
  refine k_Row_setN rw_13 hw hl (by omega) (by_and _) (fun S1 w1 f1 => k_Row_setN rw_13 w1 (by rw [List.length_set]; exact hl) (by rw [List.length_set]; omega) (by_and _) (fun S2 w2 f2 => px_vq_i (hQ S2 w2 (fun i hi => ?_))))
  rw [f2 i hi, f1 i hi]
end
