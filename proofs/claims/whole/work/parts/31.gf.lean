/-! Check and Field -/
section
variable {G : px_G} {d : Nat} {S : px_S}
theorem k_Check_of {Q : Int32 → px_S → Prop} {o no a c : Nat} {Lo : List Int32} (hRo : rw_is o no) (ho : rw_at S o Lo) (hlo : Lo.length ≤ no) (hac : a + c < 2 ^ 31) (hQ : Q (cr (ls_sl Lo a c)) S) : px_I G px_Zc (d + 1) m_Check_of [.ref o, .int (nI a), .int (nI c)] S Q := by
  refine f_Check_of ?_
  have outer : ∀ (m i : Nat), m + i = c → px_w G px_Zc (d + 1) m_Check_of 5 [.ref o, .int (nI a), .int (nI c), .int (cr_f (-1) (ls_sl Lo a i)), .int (nI i), .null, .null] [] S (px_iq Q) := by
    intro m
    induction m with
    | zero =>
      intro i hi
      have : i = c := by omega
      subst this
      refine e_Check_of_5 ⟨fun h => px_iq_i hQ, fun h => absurd (Int32.le_refl _) h⟩
    | succ m ih =>
      intro i hi
      refine e_Check_of_5 ⟨fun h => absurd h (nI_ge (by omega) (by omega)), fun h => ?_⟩
      rw [nI_add]
      refine k_Row_get hRo ho hlo (by omega) ?_
      have inner : ∀ (m2 k : Nat) (v : Int32), m2 + k = 8 → v = cr_n k (cr_f (-1) (ls_sl Lo a i) ^^^ Lo.getD (a + i) 0) → px_w G px_Zc (d + 1) m_Check_of 25 [.ref o, .int (nI a), .int (nI c), .int v, .int (nI i), .int (nI k), .null] [] S (px_iq Q) := by
        intro m2
        induction m2 with
        | zero =>
          intro k v hk hv
          have : k = 8 := by omega
          subst this
          refine e_Check_of_25 ⟨fun h => ?_, fun h => absurd (Int32.le_refl _) h⟩
          rw [nI_1, hv, ← cr_f_app, ← ls_sl_succ]
          exact ih (i + 1) (by omega)
        | succ m2 ih2 =>
          intro k v hk hv
          refine e_Check_of_25 ⟨fun h => absurd h (nI_ge (b := 8) (by omega) (by decide)), fun h => ⟨fun h2 => ?_, fun h2 => ?_⟩⟩
          · rw [nI_1]
            refine ih2 (k + 1) _ (by omega) ?_
            show _ = cr_1 (cr_n k _)
            rw [← hv]
            unfold cr_1
            rw [if_neg h2]
          · rw [nI_1]
            refine ih2 (k + 1) _ (by omega) ?_
            show _ = cr_1 (cr_n k _)
            rw [← hv]
            unfold cr_1
            rw [if_pos h2]
      exact inner 8 0 _ (by omega) rfl
  exact outer c 0 (by omega)
theorem k_Field_times {Q : Int32 → px_S → Prop} {a b : BitVec 16} (hQ : Q (gE (gf_m a b)) S) : px_I G px_Zc d m_Field_times [.int (gE a), .int (gE b)] S Q := by
  refine f_Field_times ?_
  have key : ∀ (m k : Nat), m + k = 16 → px_w G px_Zc d m_Field_times 7 [.int (gE a), .int (gE b), .int (gE (gf_s k a b)), .int (gE (gf_p k a)), .int (nI k)] [] S (px_iq Q) := by
    intro m
    induction m with
    | zero =>
      intro k hk
      have : k = 16 := by omega
      subst this
      exact e_Field_times_7 ⟨fun h => px_iq_i hQ, fun h => absurd (Int32.le_refl _) h⟩
    | succ m ih =>
      intro k hk
      have hb := b.isLt
      have hp := (gf_p k a).isLt
      have e1 : px_ushr (gE b) (nI k) = nI (b.toNat / 2 ^ k) := px_ushrN (by omega) (by omega)
      have hle : b.toNat / 2 ^ k ≤ b.toNat := Nat.div_le_self _ _
      have e2 : px_shl (gE (gf_p k a)) 1 = nI (2 * (gf_p k a).toNat) := by
        rw [Nat.mul_comm]
        exact px_shlN (k := 1) (by decide) (by omega)
      have e3 : px_ushr (nI (2 * (gf_p k a).toNat)) 16 = nI (2 * (gf_p k a).toNat / 65536) := px_ushrN (k := 16) (by omega) (by decide)
      have e4 : nI (b.toNat / 2 ^ k) &&& 1 = nI (b.toNat / 2 ^ k % 2) := nI_and1 (by omega)
      have next : px_w G px_Zc d m_Field_times 7 [.int (gE a), .int (gE b), .int (gE (gf_s k a b) ^^^ (if b.getLsbD k then gE (gf_p k a) else 0)), .int (gE (gf_x (gf_p k a))), .int (nI (k + 1))] [] S (px_iq Q) := by
        have := ih (k + 1) (by omega)
        have e : gE (gf_s k a b) ^^^ (if b.getLsbD k then gE (gf_p k a) else 0) = gE (gf_s (k + 1) a b) := by
          show _ = gE (gf_s k a b ^^^ (if b.getLsbD k then gf_p k a else 0#16))
          rw [← gE_xor]
          cases b.getLsbD k
          · rw [if_neg (by decide), if_neg (by decide), gE_0]
          · rw [if_pos rfl, if_pos rfl]
        rw [e]
        exact this
      have lo : (gf_p k a).toNat < 32768 → gE (gf_x (gf_p k a)) = nI (2 * (gf_p k a).toNat) := fun h => by unfold gE; rw [gf_x_lo h]
      have hi : 32768 ≤ (gf_p k a).toNat → gE (gf_x (gf_p k a)) = nI (2 * (gf_p k a).toNat) ^^^ 69643 := fun h => by
        unfold gE
        rw [gf_x_hi h]
        exact (nI_xor (b := 69643) (by omega) (by decide)).symm
      refine e_Field_times_7 ?_
      rw [e1, e2, e3, e4, nI_1]
      refine ⟨fun h => absurd h (nI_ge (b := 16) (by omega) (by decide)), fun h => ⟨fun h1 => px_iq_i ?_, fun h1 => ⟨fun h2 => ⟨fun h3 => ?_, fun h3 => ?_⟩, fun h2 => ⟨fun h3 => ?_, fun h3 => ?_⟩⟩⟩⟩
      · have c1 := (nI_eq (b := 0) (by omega) (by decide)).mp h1
        unfold gf_m at hQ
        rw [gf_s_stop c1 16 (by omega)] at hQ
        exact hQ
      all_goals
        rw [gf_bit] at next
      · have c2 : ¬ b.toNat / 2 ^ k % 2 = 1 := fun z => h2 (by rw [z]; rfl)
        have c3 := (nI_eq (b := 0) (by omega) (by decide)).mp h3
        rw [if_neg (by simpa using c2), Int32.xor_zero, lo (by omega)] at next
        exact next
      · have c2 : ¬ b.toNat / 2 ^ k % 2 = 1 := fun z => h2 (by rw [z]; rfl)
        have c3 : ¬ 2 * (gf_p k a).toNat / 65536 = 0 := fun z => h3 (by rw [z]; rfl)
        rw [if_neg (by simpa using c2), Int32.xor_zero, hi (by omega)] at next
        exact next
      · have c2 := (nI_eq (b := 1) (by omega) (by decide)).mp h2
        have c3 := (nI_eq (b := 0) (by omega) (by decide)).mp h3
        rw [if_pos (by simpa using c2), lo (by omega)] at next
        exact next
      · have c2 := (nI_eq (b := 1) (by omega) (by decide)).mp h2
        have c3 : ¬ 2 * (gf_p k a).toNat / 65536 = 0 := fun z => h3 (by rw [z]; rfl)
        rw [if_pos (by simpa using c2), hi (by omega)] at next
        exact next
  have h0 := key 16 0 (by omega)
  rw [show gf_s 0 a b = 0#16 from rfl, gE_0, show gf_p 0 a = a from rfl] at h0
  exact h0
theorem k_Field_power {Q : Int32 → px_S → Prop} {a : BitVec 16} {n : Nat} (hn : n < 65536) (hQ : Q (gE (gf_w a n)) S) : px_I G px_Zc (d + 1) m_Field_power [.int (gE a), .int (nI n)] S Q := by
  refine f_Field_power ?_
  have key : ∀ (m k : Nat), m + k = 16 → px_w G px_Zc (d + 1) m_Field_power 7 [.int (gE a), .int (nI n), .int (gE (gf_w a (n % 2 ^ k))), .int (gE (gf_q k a)), .int (nI k)] [] S (px_iq Q) := by
    intro m
    induction m with
    | zero =>
      intro k hk
      have : k = 16 := by omega
      subst this
      rw [Nat.mod_eq_of_lt (show n < 2 ^ 16 from hn)]
      exact e_Field_power_7 ⟨fun h => px_iq_i hQ, fun h => absurd (Int32.le_refl _) h⟩
    | succ m ih =>
      intro k hk
      have e1 : px_ushr (nI n) (nI k) = nI (n / 2 ^ k) := px_ushrN (by omega) (by omega)
      have hle : n / 2 ^ k ≤ n := Nat.div_le_self _ _
      have e4 : nI (n / 2 ^ k) &&& 1 = nI (n / 2 ^ k % 2) := nI_and1 (by omega)
      have hmod : n % 2 ^ (k + 1) = n % 2 ^ k + 2 ^ k * (n / 2 ^ k % 2) := by
        rw [Nat.pow_succ, Nat.mod_mul]
      refine e_Field_power_7 ?_
      rw [e1, e4, nI_1]
      refine ⟨fun h => absurd h (nI_ge (b := 16) (by omega) (by decide)), fun h => ⟨fun h1 => px_iq_i ?_, fun h1 => ⟨fun h2 => ?_, fun h2 => ?_⟩⟩⟩
      · have c1 := (nI_eq (b := 0) (by omega) (by decide)).mp h1
        have c2 : n < 2 ^ k := by
          rcases Nat.div_eq_zero_iff.mp c1 with h2 | h2
          · exact absurd h2 (Nat.ne_of_gt (Nat.two_pow_pos k))
          · exact h2
        rw [Nat.mod_eq_of_lt c2]
        exact hQ
      · have c2 : n / 2 ^ k % 2 = 0 := by
          have : ¬ n / 2 ^ k % 2 = 1 := fun z => h2 (by rw [z]; rfl)
          omega
        refine k_Field_times ?_
        have := ih (k + 1) (by omega)
        rw [hmod, c2, Nat.mul_zero, Nat.add_zero] at this
        exact this
      · have c2 := (nI_eq (b := 1) (by omega) (by decide)).mp h2
        refine k_Field_times (k_Field_times ?_)
        have := ih (k + 1) (by omega)
        rw [hmod, c2, Nat.mul_one, gf_w_add, ← gf_q_w k a] at this
        exact this
  have h0 := key 16 0 (by omega)
  rw [show n % 2 ^ 0 = 0 by rw [Nat.pow_zero]; exact Nat.mod_one n, show gf_w a 0 = 1#16 from rfl, gE_1] at h0
  exact h0
theorem k_Field_inverse {Q : Int32 → px_S → Prop} {a : BitVec 16} (hQ : Q (gE (gf_inv a)) S) : px_I G px_Zc (d + 2) m_Field_inverse [.int (gE a)] S Q := by
  have e : gf_inv a = gf_w a 65534 := (gf_i_w 15 a).trans (congrArg (gf_w a) (by decide))
  rw [e] at hQ
  exact f_Field_inverse (k_Field_power (n := 65534) (by decide) (px_iq_i hQ))
theorem k_Field_basePower {Q : Int32 → px_S → Prop} {j e : Nat} (hj : j < 12) (he : e < 256) (hQ : Q (gE (gf_b j e)) S) : px_I G px_Zc (d + 2) m_Field_basePower [.int (nI j), .int (nI e)] S Q := by
  have hle := px_lg_le j hj
  have hm : px_lg j * e ≤ 23 * 255 := Nat.mul_le_mul hle (by omega)
  refine f_Field_basePower ⟨fun h => absurd h (nI_pos (by omega)), fun h => ⟨fun h1 => absurd h1 (nI_ge hj (by decide)), fun h1 => ⟨vp_in_nI hj (by decide), ?_⟩⟩⟩
  rw [nI_clamp (by omega), px_lg_t j hj, pk_mul]
  exact k_Field_power (a := 2#16) (n := px_lg j * e) (by omega) (px_iq_i hQ)
end
