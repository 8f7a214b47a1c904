/-! The reference: take -/
section
variable {G : px_G} {d : Nat} {S : px_S} {V C : List Int32} {N : Nat → Option Nat} {l : List Nat} {n : Nat}
theorem k_Mo_take {Q : Int32 → px_S → Prop} (hr : rt_at S V C N l n) (hl : V.length ≤ 694) (hVb : ls_by V) (hC : C.length = 8 * n) (hn : n ≤ 12) (hCb : ls_by C) (hD : l.length ≤ 12) (hl12 : ∀ j ∈ l, j < 12) (hb : ∀ e a, N (6 + e) = some a → a + 35 ≤ V.length)
    (h1 : ¬ (rp_el V C N l n 256).1 < l.length → ∀ S', (∀ q, q < l.length → re_row S' l.length q ((rp_el V C N l n 256).2.2.1 q)) → (∀ i, i ≠ 16 → i ≠ 17 → S' i = S i) → Q 1 S')
    (h0 : (rp_el V C N l n 256).1 < l.length → ∀ S', (∀ i, i ≠ 16 → i ≠ 17 → S' i = S i) → Q 0 S') : px_I G px_Zr (d + 4) m_Mo_take [.ref 0, .int (nI l.length), .int (nI (dm_n l))] S Q := by
  have hokf := el_all_ok l.length (rp_row V C N l n) (fun e => N (6 + e) ≠ none) 256
  have fin : ∀ (e : Nat) (S1 : px_S), rp_el V C N l n 256 = rp_el V C N l n e → (∀ q, q < (rp_el V C N l n e).1 → re_row S1 l.length q ((rp_el V C N l n e).2.2.1 q)) → (∀ i, i ≠ 16 → i ≠ 17 → S1 i = S i) → ((¬ nI (rp_el V C N l n e).1 = nI l.length → px_iq Q (some (.int 0)) S1) ∧ (nI (rp_el V C N l n e).1 = nI l.length → px_iq Q (some (.int 1)) S1)) := by
    intro e S1 hee hs f1
    rw [← hee] at hs ⊢
    have hle : (rp_el V C N l n 256).1 ≤ l.length := hokf.2
    rw [nI_eq (by omega) (by omega)]
    exact ⟨fun c => px_iq_i (h0 (by omega) S1 f1), fun c => px_iq_i (h1 (by omega) S1 (fun q hq => hs q (by omega)) f1)⟩
  have t5 : ∀ (r e : Nat) (S1 : px_S), r + e = 256 → (∀ q, q < (rp_el V C N l n e).1 → re_row S1 l.length q ((rp_el V C N l n e).2.2.1 q)) → (∀ i, i ≠ 16 → i ≠ 17 → S1 i = S i) → px_w G px_Zr (d + 4) m_Mo_take 5 [.ref 0, .int (nI l.length), .int (nI (dm_n l)), .int (nI (rp_el V C N l n e).1), .int (nI e), .null, .null] [] S1 (px_iq Q) := by
    intro r
    induction r with
    | zero =>
      intro e S1 he hs f1
      have : e = 256 := by omega
      subst this
      exact e_Mo_take_5 ⟨fun _ => fin 256 S1 rfl hs f1, fun z => absurd (Int32.le_refl _) z⟩
    | succ r ih =>
      intro e S1 he hs f1
      have hok := el_all_ok l.length (rp_row V C N l n) (fun e => N (6 + e) ≠ none) e
      have hle : (rp_el V C N l n e).1 ≤ l.length := hok.2
      refine e_Mo_take_5 ⟨fun z => absurd z (nI_ge (b := 256) (by omega) (by decide)), fun _ => ⟨fun c => ?_, fun c => ⟨vp_in_nI (by omega) (by decide), ?_⟩⟩⟩
      · have c' := (nI_leI (by omega) (by omega)).mp c
        have := el_stop (D := l.length) (row := rp_row V C N l n) (av := fun e => N (6 + e) ≠ none) (e := e) (show ¬ (rp_el V C N l n e).1 < l.length by omega) (256 - e)
        rw [show e + (256 - e) = 256 by omega] at this
        exact fin e S1 this hs f1
      have c' : (rp_el V C N l n e).1 < l.length := by
        apply Nat.lt_of_not_le
        intro z
        exact c ((nI_leI (by omega) (by omega)).mpr z)
      have hr1 := hr.of f1
      have hbb : ∀ a, N (6 + e) = some a → a + 0 < 2 ^ 31 := fun a h => by have := hb e a h; omega
      rw [nI_clamp (by omega), hr1.2.2.2.2.1 e (by omega), nI_1]
      refine ⟨fun cn => ?_, fun cn => ?_⟩
      · have hno : N (6 + e) = none := Classical.byContradiction (fun z => absurd cn (Int32.not_lt.mpr ((nt_v_neg hbb).mpr z)))
        have e1 : rp_el V C N l n (e + 1) = rp_el V C N l n e := sq_lf (fun z => z.2 hno) _ _
        have := ih (e + 1) S1 (by omega) (by rw [e1]; exact hs) f1
        rw [e1] at this
        exact this
      have hne : N (6 + e) ≠ none := (nt_v_neg hbb).mp (Int32.not_lt.mp cn)
      obtain ⟨a, ha⟩ : ∃ a, N (6 + e) = some a := by
        cases h : N (6 + e) with
        | none => exact absurd h hne
        | some a => exact ⟨a, rfl⟩
      have e1 : rp_el V C N l n (e + 1) = el_step l.length (rp_row V C N l n e) (rp_el V C N l n e) := sq_lt ⟨c', hne⟩ _ _
      generalize hsE : rp_el V C N l n e = s at *
      generalize hvE : rp_row V C N l n e = v at *
      have hinv := hok.1
      have hpd : ∀ q, q < s.1 → s.2.2.2 q < l.length := by
        have := hinv.2.2.2.2.1
        intro q hq
        have h := this q (by rw [show (el l.length (rp_row V C N l n) (fun e => N (6 + e) ≠ none) e) = s from hsE]; exact hq)
        rw [show (el l.length (rp_row V C N l n) (fun e => N (6 + e) ≠ none) e) = s from hsE] at h
        exact h
      rw [show (el l.length (rp_row V C N l n) (fun e => N (6 + e) ≠ none) e) = s from hsE] at hinv
      have hw0 : el_w v s = la_red s.2.2.1 s.2.2.2 v s.1 := funext (fun c => la_same hinv v c)
      have hlead : ∀ q, q < s.1 → fp l.length (s.2.2.1 q) = s.2.2.2 q := fun q hq => fp_is (hpd q hq) (by rw [hinv.1 q q hq hq, if_pos rfl]; decide) (fun b hb => hinv.2.2.2.2.2 q b hq hb)
      refine k_Mo_putRow (t := s.1) (by omega) (by omega) hr1 hl hVb hC hn hCb hD hl12 ha (hb e a ha) (fun S2 w2 f2 => ?_)
      rw [hvE] at w2
      -- behind the new row's reduction
      have t40 : ∀ (r2 k : Nat) (S3 : px_S), r2 + k = s.1 → re_row S3 l.length s.1 (la_red s.2.2.1 s.2.2.2 v k) → (∀ q, q < s.1 → re_row S3 l.length q (s.2.2.1 q)) → (∀ i, i ≠ 16 → i ≠ 17 → S3 i = S i) → px_w G px_Zr (d + 4) m_Mo_take 40 [.ref 0, .int (nI l.length), .int (nI (dm_n l)), .int (nI s.1), .int (nI e), .int (nI k), .null] [] S3 (px_iq Q) := by
        intro r2
        induction r2 with
        | zero =>
          intro k S3 hk hw hs3 f3
          have : k = s.1 := by omega
          rw [this, ← hw0] at hw
          rw [this]
          refine e_Mo_take_40 ⟨fun _ => ?_, fun z => absurd (Int32.le_refl _) z⟩
          refine k_Mo_lead (u := el_w v s) (by omega) hD hw.1 ?_
          have hfl := fp_le l.length (el_w v s)
          rw [nI_leI (by omega) (by omega), nI_1]
          refine ⟨fun cc => ?_, fun cc => ?_⟩
          · have e2 : el_step l.length v s = s := if_neg (by omega)
            have := ih (e + 1) S3 (by omega) (by rw [e1, e2]; exact hs3) f3
            rw [e1, e2] at this
            exact this
          · have e2 : el_step l.length v s = el_put l.length (el_w v s) s := if_pos (by omega)
            rw [show (12 : Int32) * nI s.1 = nI (12 * s.1) from pk_mul 12 _, nI_add, nI_clamp (by omega), hw.1 _ (by omega)]
            refine ⟨vp_in_nI (by omega) (by decide), k_Mo_inverse (k_Mo_scale (by omega) hD hw (fun S4 w4 f4 => ?_))⟩
            have t115 : ∀ (r3 k : Nat) (S5 : px_S), r3 + k = s.1 → re_row S5 l.length s.1 (el_n l.length (el_w v s)) → (∀ q, q < k → re_row S5 l.length q (fun b => s.2.2.1 q b ^^^ gf_m (s.2.2.1 q (fp l.length (el_w v s))) (el_n l.length (el_w v s) b))) → (∀ q, k ≤ q → q < s.1 → re_row S5 l.length q (s.2.2.1 q)) → (∀ i, i ≠ 16 → i ≠ 17 → S5 i = S i) → px_w G px_Zr (d + 4) m_Mo_take 115 [.ref 0, .int (nI l.length), .int (nI (dm_n l)), .int (nI s.1), .int (nI e), .int (nI (fp l.length (el_w v s))), .int (nI k)] [] S5 (px_iq Q) := by
              intro r3
              induction r3 with
              | zero =>
                intro k S5 hk hn5 hd5 _ f5
                have : k = s.1 := by omega
                rw [this] at hd5 ⊢
                refine e_Mo_take_115 ⟨fun _ => ?_, fun z => absurd (Int32.le_refl _) z⟩
                rw [nI_1, nI_1]
                have := ih (e + 1) S5 (by omega) (fun q hq => ?_) f5
                · rw [e1, e2] at this
                  exact this
                · rw [e1, e2] at hq ⊢
                  have hq' : q < s.1 + 1 := hq
                  show re_row S5 l.length q (if q = s.1 then el_n l.length (el_w v s) else fun b => s.2.2.1 q b ^^^ gf_m (s.2.2.1 q (fp l.length (el_w v s))) (el_n l.length (el_w v s) b))
                  by_cases hqs : q = s.1
                  · rw [if_pos hqs, hqs]; exact hn5
                  · rw [if_neg hqs]; exact hd5 q (by omega)
              | succ r3 ih3 =>
                intro k S5 hk hn5 hd5 hr5 f5
                refine e_Mo_take_115 ⟨fun z => absurd z (nI_ge (by omega) (by omega)), fun _ => ?_⟩
                have hk5 := hr5 k (Nat.le_refl _) (by omega)
                rw [show (12 : Int32) * nI k = nI (12 * k) from pk_mul 12 _, nI_add, nI_clamp (by omega), hk5.1 _ (by omega), nI_1]
                refine ⟨vp_in_nI (by omega) (by decide), k_Mo_addRow (by omega) (by omega) (by omega) hD hk5 hn5 (fun S6 w6 f6 => ?_)⟩
                refine ih3 (k + 1) S6 (by omega) (hn5.of hD f6 (by omega)) (fun q hq => ?_) (fun q hq hq2 => (hr5 q (by omega) hq2).of hD f6 (by omega)) (fun i a b => by rw [f6.2 i a b]; exact f5 i a b)
                by_cases hqk : q = k
                · rw [hqk]; exact w6
                · exact (hd5 q (by omega)).of hD f6 hqk
            exact t115 s.1 0 S4 (by omega) w4 (fun q hq => by omega) (fun q _ hq => (hs3 q hq).of hD f4 (by omega)) (fun i a b => by rw [f4.2 i a b]; exact f3 i a b)
        | succ r2 ih2 =>
          intro k S3 hk hw hs3 f3
          have hk3 := hs3 k (by omega)
          have hpk := hpd k (by omega)
          refine e_Mo_take_40 ⟨fun z => absurd z (nI_ge (by omega) (by omega)), fun _ => ?_⟩
          refine k_Mo_lead (u := s.2.2.1 k) (by omega) hD hk3.1 ?_
          rw [hlead k (by omega), show (12 : Int32) * nI s.1 = nI (12 * s.1) from pk_mul 12 _, nI_add, nI_clamp (by omega), hw.1 _ hpk, nI_1]
          refine ⟨vp_in_nI (by omega) (by decide), k_Mo_addRow (by omega) (by omega) (by omega) hD hw hk3 (fun S4 w4 f4 => ?_)⟩
          exact ih2 (k + 1) S4 (by omega) w4 (fun q hq => (hs3 q hq).of hD f4 (by omega)) (fun i a b => by rw [f4.2 i a b]; exact f3 i a b)
      exact t40 s.1 0 S2 (by omega) w2 (fun q hq => (hs q hq).of hD f2 (by omega)) (fun i a b => by rw [f2.2 i a b]; exact f1 i a b)
  exact f_Mo_take (t5 256 0 S (by omega) (fun q hq => absurd hq (Nat.not_lt_zero _)) (fun _ _ _ => rfl))
end
