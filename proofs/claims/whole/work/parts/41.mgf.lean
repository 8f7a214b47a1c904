/-! The reference: its check and its field -/
section
variable {G : px_G} {d : Nat} {S : px_S}
theorem k_Mo_sliceCheck {Q : Int32 → px_S → Prop} {j : Nat} {Sl : List Int32} (hj : 8 * j + 8 ≤ 96) (hS : ∀ i, i < Sl.length → S 15 i = Sl.getD i 0) (hl : 8 * j + 8 ≤ Sl.length) (hQ : Q (cr (ls_sl Sl (8 * j) 8)) S) : px_I G px_Zr d m_Mo_sliceCheck [.ref 0, .int (nI j)] S Q := by
  refine f_Mo_sliceCheck ?_
  have outer : ∀ (m i : Nat), m + i = 8 → px_w G px_Zr d m_Mo_sliceCheck 4 [.ref 0, .int (nI j), .int (cr_f (-1) (ls_sl Sl (8 * j) i)), .int (nI i), .null] [] S (px_iq Q) := by
    intro m
    induction m with
    | zero =>
      intro i hi
      have : i = 8 := by omega
      subst this
      refine e_Mo_sliceCheck_4 ⟨fun h => px_iq_i hQ, fun h => absurd (Int32.le_refl _) h⟩
    | succ m ih =>
      intro i hi
      refine e_Mo_sliceCheck_4 ⟨fun h => absurd h (nI_ge (b := 8) (by omega) (by decide)), fun h => ?_⟩
      have e0 : (8 : Int32) * nI j + nI i = nI (8 * j + i) := by
        have : (8 : Int32) * nI j = nI (8 * j) := pk_mul 8 j
        rw [this, nI_add]
      rw [e0, nI_clamp (by omega), hS _ (by omega)]
      refine ⟨vp_in_nI (by omega) (by decide), ?_⟩
      rintro y rfl
      have inner : ∀ (m2 k : Nat) (v : Int32), m2 + k = 8 → v = cr_n k (cr_f (-1) (ls_sl Sl (8 * j) i) ^^^ Sl.getD (8 * j + i) 0) → px_w G px_Zr d m_Mo_sliceCheck 27 [.ref 0, .int (nI j), .int v, .int (nI i), .int (nI k)] [] S (px_iq Q) := by
        intro m2
        induction m2 with
        | zero =>
          intro k v hk hv
          have : k = 8 := by omega
          subst this
          refine e_Mo_sliceCheck_27 ⟨fun h => ?_, fun h => absurd (Int32.le_refl _) h⟩
          rw [nI_1, hv, ← cr_f_app, ← ls_sl_succ]
          exact ih (i + 1) (by omega)
        | succ m2 ih2 =>
          intro k v hk hv
          refine e_Mo_sliceCheck_27 ⟨fun h => absurd h (nI_ge (b := 8) (by omega) (by decide)), fun h => ⟨fun h2 => ?_, fun h2 => ?_⟩⟩
          · rw [nI_1]
            refine ih2 (k + 1) _ (by omega) ?_
            show _ = cr_1 (cr_n k _)
            rw [← hv]
            unfold cr_1
            rw [if_neg h2]
          · rw [nI_1]
            refine ih2 (k + 1) _ (by omega) ?_
            show _ = cr_1 (cr_n k _)
            rw [← hv]
            unfold cr_1
            rw [if_pos h2]
      exact inner 8 0 _ (by omega) rfl
  exact outer 8 0 (by omega)
theorem k_Mo_times {Q : Int32 → px_S → Prop} {a b : BitVec 16} (hQ : Q (gE (gf_m a b)) S) : px_I G px_Zr d m_Mo_times [.int (gE a), .int (gE b)] S Q := by
  refine f_Mo_times ?_
  have key : ∀ (m k : Nat), m + k = 16 → px_w G px_Zr d m_Mo_times 7 [.int (gE a), .int (gE b), .int (gE (gf_s k a b)), .int (gE (gf_p k a)), .int (nI k)] [] S (px_iq Q) := by
    intro m
    induction m with
    | zero =>
      intro k hk
      have : k = 16 := by omega
      subst this
      exact e_Mo_times_7 ⟨fun h => px_iq_i hQ, fun h => absurd (Int32.le_refl _) h⟩
    | succ m ih =>
      intro k hk
      have hb := b.isLt
      have hp := (gf_p k a).isLt
      have e1 : px_sar (gE b) (nI k) = nI (b.toNat / 2 ^ k) := px_sarN (by omega) (by omega)
      have hle : b.toNat / 2 ^ k ≤ b.toNat := Nat.div_le_self _ _
      have e2 : (2 : Int32) * gE (gf_p k a) = nI (2 * (gf_p k a).toNat) := pk_mul 2 _
      have e4 : nI (b.toNat / 2 ^ k) &&& 1 = nI (b.toNat / 2 ^ k % 2) := nI_and1 (by omega)
      have e5 : gE (gf_p k a) ≤ 32767 ↔ (gf_p k a).toNat ≤ 32767 := nI_leI (b := 32767) (by omega) (by decide)
      have next : px_w G px_Zr d m_Mo_times 7 [.int (gE a), .int (gE b), .int (gE (gf_s k a b) ^^^ (if b.getLsbD k then gE (gf_p k a) else 0)), .int (gE (gf_x (gf_p k a))), .int (nI (k + 1))] [] S (px_iq Q) := by
        have := ih (k + 1) (by omega)
        have e : gE (gf_s k a b) ^^^ (if b.getLsbD k then gE (gf_p k a) else 0) = gE (gf_s (k + 1) a b) := by
          show _ = gE (gf_s k a b ^^^ (if b.getLsbD k then gf_p k a else 0#16))
          rw [← gE_xor]
          cases b.getLsbD k
          · rw [if_neg (by decide), if_neg (by decide), gE_0]
          · rw [if_pos rfl, if_pos rfl]
        rw [e]
        exact this
      have lo : (gf_p k a).toNat < 32768 → gE (gf_x (gf_p k a)) = nI (2 * (gf_p k a).toNat) := fun h => by unfold gE; rw [gf_x_lo h]
      have hi : 32768 ≤ (gf_p k a).toNat → gE (gf_x (gf_p k a)) = nI (2 * (gf_p k a).toNat) ^^^ 69643 := fun h => by
        unfold gE
        rw [gf_x_hi h]
        exact (nI_xor (b := 69643) (by omega) (by decide)).symm
      refine e_Mo_times_7 ?_
      rw [e1, e2, e4, nI_1, e5]
      refine ⟨fun h => absurd h (nI_ge (b := 16) (by omega) (by decide)), fun h => ⟨fun h2 => ⟨fun h3 => ?_, fun h3 => ?_⟩, fun h2 => ⟨fun h3 => ?_, fun h3 => ?_⟩⟩⟩
      all_goals
        rw [gf_bit] at next
      · have c2 : ¬ b.toNat / 2 ^ k % 2 = 1 := fun z => h2 (by rw [z]; rfl)
        rw [if_neg (by simpa using c2), Int32.xor_zero, lo (by omega)] at next
        exact next
      · have c2 : ¬ b.toNat / 2 ^ k % 2 = 1 := fun z => h2 (by rw [z]; rfl)
        rw [if_neg (by simpa using c2), Int32.xor_zero, hi (by omega)] at next
        exact next
      · have c2 := (nI_eq (b := 1) (by omega) (by decide)).mp h2
        rw [if_pos (by simpa using c2), lo (by omega)] at next
        exact next
      · have c2 := (nI_eq (b := 1) (by omega) (by decide)).mp h2
        rw [if_pos (by simpa using c2), hi (by omega)] at next
        exact next
  have h0 := key 16 0 (by omega)
  rw [show gf_s 0 a b = 0#16 from rfl, gE_0, show gf_p 0 a = a from rfl] at h0
  exact h0
theorem k_Mo_power {Q : Int32 → px_S → Prop} {a : BitVec 16} {n : Nat} (hn : n < 2 ^ 31) (hQ : Q (gE (gf_w a n)) S) : px_I G px_Zr (d + 1) m_Mo_power [.int (gE a), .int (nI n)] S Q := by
  refine f_Mo_power ?_
  have key : ∀ (m k : Nat), m + k = n → px_w G px_Zr (d + 1) m_Mo_power 4 [.int (gE a), .int (nI n), .int (gE (gf_w a k)), .int (nI k)] [] S (px_iq Q) := by
    intro m
    induction m with
    | zero =>
      intro k hk
      have : k = n := by omega
      subst this
      exact e_Mo_power_4 ⟨fun h => px_iq_i hQ, fun h => absurd (Int32.le_refl _) h⟩
    | succ m ih =>
      intro k hk
      refine e_Mo_power_4 ⟨fun h => absurd h (nI_ge (by omega) hn), fun h => k_Mo_times ?_⟩
      rw [nI_1]
      exact ih (k + 1) (by omega)
  have h0 := key n 0 (by omega)
  rw [show gf_w a 0 = 1#16 from rfl, gE_1] at h0
  exact h0
theorem k_Mo_inverse {Q : Int32 → px_S → Prop} {a : BitVec 16} (hQ : Q (gE (gf_inv a)) S) : px_I G px_Zr (d + 1) m_Mo_inverse [.int (gE a)] S Q := by
  refine f_Mo_inverse ?_
  have key : ∀ (m k : Nat), m + k = 15 → px_w G px_Zr (d + 1) m_Mo_inverse 6 [.int (gE a), .int (gE (gf_i k a)), .int (gE (gf_q k a)), .int (nI (k + 1))] [] S (px_iq Q) := by
    intro m
    induction m with
    | zero =>
      intro k hk
      have : k = 15 := by omega
      subst this
      exact e_Mo_inverse_6 ⟨fun h => px_iq_i hQ, fun h => absurd (Int32.le_refl _) h⟩
    | succ m ih =>
      intro k hk
      refine e_Mo_inverse_6 ⟨fun h => absurd h (nI_ge (b := 16) (by omega) (by decide)), fun h => k_Mo_times (k_Mo_times ?_)⟩
      rw [nI_1]
      exact ih (k + 1) (by omega)
  have h0 := key 15 0 (by omega)
  rw [show gf_i 0 a = 1#16 from rfl, gE_1] at h0
  exact h0
theorem k_Mo_base {Q : Int32 → px_S → Prop} {j : Nat} (hok : rf_ok S) (hj : j < 12) (hQ : Q (gE (gf_w 2#16 (px_lg j))) S) : px_I G px_Zr (d + 2) m_Mo_base [.ref 0, .int (nI j)] S Q := by
  refine f_Mo_base ⟨vp_in_nI hj (by decide), ?_⟩
  have hle := px_lg_le j hj
  rw [nI_clamp (by omega), hok.2 j hj, px_lg_t j hj]
  exact k_Mo_power (a := 2#16) (by omega) (px_iq_i hQ)
theorem k_Mo_isFile {Q : Int32 → px_S → Prop} {f : Int32} (hQ : Q (if 0 ≤ f ∧ f < 3 then 1 else 0) S) : px_I G px_Zr d m_Mo_isFile [.int f] S Q := by
  refine f_Mo_isFile ⟨fun h => px_iq_i ?_, fun h => ⟨fun h1 => px_iq_i ?_, fun h1 => px_iq_i ?_⟩⟩
  · rw [if_neg (fun z => absurd h (Int32.not_lt.mpr z.1))] at hQ; exact hQ
  · rw [if_neg (fun z => absurd z.2 (Int32.not_lt.mpr h1))] at hQ; exact hQ
  · rw [if_pos ⟨Int32.not_lt.mp h, Int32.not_le.mp h1⟩] at hQ; exact hQ
end
