set_option maxRecDepth 100000 in
theorem e_Row_size_0 {G : px_G} {d : Nat} {k0 b n : Nat} {S : px_S} {Q : Option Value → px_S → Prop} (hh : px_Zc[k0]? = some (.inr (.inr (1, [some b, none])))) (hb : px_Zc[b]? = some (.inl n))
    (h : Q (some (.int (S k0 1))) S) :
    px_w G px_Zc d m_Row_size 0 [.ref k0] [] S Q := by
  refine w_aload_n rfl rfl rfl ?_
  refine w_getI rfl rfl fl_Row_13 hh rfl ?_
  exact w_ireturn rfl rfl rfl h

theorem f_Row_size {G : px_G} {d : Nat} {k0 b n : Nat} {S : px_S} {Q : Option Value → px_S → Prop} (hh : px_Zc[k0]? = some (.inr (.inr (1, [some b, none])))) (hb : px_Zc[b]? = some (.inl n))
    (h : Q (some (.int (S k0 1))) S) :
    px_M G px_Zc d m_Row_size [.ref k0] S Q :=
  px_in (Or.inr ⟨_, _, _, _, _, rfl, hh, rfl, rfl⟩) (by decide) (Nat.le_of_ble_eq_true rfl) (px_en 0 rfl) (e_Row_size_0 hh hb h)

set_option maxRecDepth 100000 in
theorem e_Row_has_0 {G : px_G} {d : Nat} {k0 b n : Nat} {x1 : Int32} {S : px_S} {Q : Option Value → px_S → Prop} (hh : px_Zc[k0]? = some (.inr (.inr (1, [some b, none])))) (hb : px_Zc[b]? = some (.inl n))
    (h : ((x1 < 0 → Q (some (.int 0)) S) ∧ (¬ (x1 < 0) → (((S k0 1) ≤ x1 → Q (some (.int 0)) S) ∧ (¬ ((S k0 1) ≤ x1) → Q (some (.int 1)) S))))) :
    px_w G px_Zc d m_Row_has 0 [.ref k0, .int x1] [] S Q := by
  refine w_iload_n rfl rfl rfl ?_
  refine w_iflt 16 rfl rfl rfl (fun hc => ?_) (fun hc => ?_)
  · have h := h.1 hc
    refine w_iconst (v := 0) rfl rfl (by decide) ?_
    exact w_zreturn rfl rfl rfl (Or.inl rfl) h
  · have h := h.2 hc
    refine w_iload_n rfl rfl rfl ?_
    refine w_aload_n rfl rfl rfl ?_
    refine w_getI rfl rfl fl_Row_13 hh rfl ?_
    refine w_if_icmpge 16 rfl rfl rfl (fun hc => ?_) (fun hc => ?_)
    · have h := h.1 hc
      refine w_iconst (v := 0) rfl rfl (by decide) ?_
      exact w_zreturn rfl rfl rfl (Or.inl rfl) h
    · have h := h.2 hc
      refine w_iconst (v := 1) rfl rfl (by decide) ?_
      refine w_goto 17 rfl rfl rfl ?_
      exact w_zreturn rfl rfl rfl (Or.inr rfl) h

theorem f_Row_has {G : px_G} {d : Nat} {k0 b n : Nat} {x1 : Int32} {S : px_S} {Q : Option Value → px_S → Prop} (hh : px_Zc[k0]? = some (.inr (.inr (1, [some b, none])))) (hb : px_Zc[b]? = some (.inl n))
    (h : ((x1 < 0 → Q (some (.int 0)) S) ∧ (¬ (x1 < 0) → (((S k0 1) ≤ x1 → Q (some (.int 0)) S) ∧ (¬ ((S k0 1) ≤ x1) → Q (some (.int 1)) S))))) :
    px_M G px_Zc d m_Row_has [.ref k0, .int x1] S Q :=
  px_in (Or.inr ⟨_, _, _, _, _, rfl, hh, rfl, rfl⟩) (by decide) (Nat.le_of_ble_eq_true rfl) (px_en 0 rfl) (e_Row_has_0 hh hb h)

set_option maxRecDepth 100000 in
theorem e_Row_get_0 {G : px_G} {d : Nat} {k0 b n : Nat} {x1 : Int32} {S : px_S} {Q : Option Value → px_S → Prop} (hh : px_Zc[k0]? = some (.inr (.inr (1, [some b, none])))) (hb : px_Zc[b]? = some (.inl n))
    (h : ((x1 < 0 → Q (some (.int 0)) S) ∧ (¬ (x1 < 0) → (((S k0 1) ≤ x1 → Q (some (.int 0)) S) ∧ (¬ ((S k0 1) ≤ x1) → (vp_in x1 n ∧ Q (some (.int (S b x1.toNatClampNeg))) S)))))) :
    px_w G px_Zc d m_Row_get 0 [.ref k0, .int x1] [] S Q := by
  refine w_iload_n rfl rfl rfl ?_
  refine w_iflt 21 rfl rfl rfl (fun hc => ?_) (fun hc => ?_)
  · have h := h.1 hc
    refine w_iconst (v := 0) rfl rfl (by decide) ?_
    exact w_ireturn rfl rfl rfl h
  · have h := h.2 hc
    refine w_iload_n rfl rfl rfl ?_
    refine w_aload_n rfl rfl rfl ?_
    refine w_getI rfl rfl fl_Row_13 hh rfl ?_
    refine w_if_icmpge 21 rfl rfl rfl (fun hc => ?_) (fun hc => ?_)
    · have h := h.1 hc
      refine w_iconst (v := 0) rfl rfl (by decide) ?_
      exact w_ireturn rfl rfl rfl h
    · have h := h.2 hc
      refine w_aload_n rfl rfl rfl ?_
      refine w_getR rfl rfl fl_Row_7 hh rfl ?_
      refine w_iload_n rfl rfl rfl ?_
      refine w_iaload rfl rfl hb h.1 ?_
      have h := h.2
      refine w_goto 22 rfl rfl rfl ?_
      exact w_ireturn rfl rfl rfl h

theorem f_Row_get {G : px_G} {d : Nat} {k0 b n : Nat} {x1 : Int32} {S : px_S} {Q : Option Value → px_S → Prop} (hh : px_Zc[k0]? = some (.inr (.inr (1, [some b, none])))) (hb : px_Zc[b]? = some (.inl n))
    (h : ((x1 < 0 → Q (some (.int 0)) S) ∧ (¬ (x1 < 0) → (((S k0 1) ≤ x1 → Q (some (.int 0)) S) ∧ (¬ ((S k0 1) ≤ x1) → (vp_in x1 n ∧ Q (some (.int (S b x1.toNatClampNeg))) S)))))) :
    px_M G px_Zc d m_Row_get [.ref k0, .int x1] S Q :=
  px_in (Or.inr ⟨_, _, _, _, _, rfl, hh, rfl, rfl⟩) (by decide) (Nat.le_of_ble_eq_true rfl) (px_en 0 rfl) (e_Row_get_0 hh hb h)

set_option maxRecDepth 100000 in
theorem e_Row_set_0 {G : px_G} {d : Nat} {k0 b n : Nat} {x1 x2 : Int32} {S : px_S} {Q : Option Value → px_S → Prop} (hh : px_Zc[k0]? = some (.inr (.inr (1, [some b, none])))) (hb : px_Zc[b]? = some (.inl n))
    (h : px_I G px_Zc d m_Row_has [.ref k0, .int x1] S (fun r2 S1 => ((r2 = 0 → Q (some (.int 0)) S1) ∧ (¬ r2 = 0 → ((x2 < 0 → Q (some (.int 0)) S1) ∧ (¬ (x2 < 0) → ((x2 ≤ 255 → (vp_in x1 n ∧ Q (some (.int 1)) (px_u S1 b x1.toNatClampNeg x2))) ∧ (¬ (x2 ≤ 255) → Q (some (.int 0)) S1)))))))) :
    px_w G px_Zc (d + 1) m_Row_set 0 [.ref k0, .int x1, .int x2] [] S Q := by
  refine w_aload_n rfl rfl rfl ?_
  refine w_iload_n rfl rfl rfl ?_
  refine w_callI h cs_Row_set_2 rfl rfl (Nat.le_of_ble_eq_true rfl) rfl (fun r2 S1 h => ?_)
  refine w_ifeq 19 rfl rfl rfl (fun hc => ?_) (fun hc => ?_)
  · have h := h.1 hc
    refine w_iconst (v := 0) rfl rfl (by decide) ?_
    exact w_zreturn rfl rfl rfl (Or.inl rfl) h
  · have h := h.2 hc
    refine w_iload_n rfl rfl rfl ?_
    refine w_iflt 19 rfl rfl rfl (fun hc => ?_) (fun hc => ?_)
    · have h := h.1 hc
      refine w_iconst (v := 0) rfl rfl (by decide) ?_
      exact w_zreturn rfl rfl rfl (Or.inl rfl) h
    · have h := h.2 hc
      refine w_iload_n rfl rfl rfl ?_
      refine w_sipush (v := 255) rfl rfl (by decide) ?_
      refine w_if_icmple 21 rfl rfl rfl (fun hc => ?_) (fun hc => ?_)
      · have h := h.1 hc
        refine w_aload_n rfl rfl rfl ?_
        refine w_getR rfl rfl fl_Row_7 hh rfl ?_
        refine w_iload_n rfl rfl rfl ?_
        refine w_iload_n rfl rfl rfl ?_
        refine w_iastore rfl rfl hb h.1 ?_
        have h := h.2
        refine w_iconst (v := 1) rfl rfl (by decide) ?_
        exact w_zreturn rfl rfl rfl (Or.inr rfl) h
      · have h := h.2 hc
        refine w_iconst (v := 0) rfl rfl (by decide) ?_
        exact w_zreturn rfl rfl rfl (Or.inl rfl) h

theorem f_Row_set {G : px_G} {d : Nat} {k0 b n : Nat} {x1 x2 : Int32} {S : px_S} {Q : Option Value → px_S → Prop} (hh : px_Zc[k0]? = some (.inr (.inr (1, [some b, none])))) (hb : px_Zc[b]? = some (.inl n))
    (h : px_I G px_Zc d m_Row_has [.ref k0, .int x1] S (fun r2 S1 => ((r2 = 0 → Q (some (.int 0)) S1) ∧ (¬ r2 = 0 → ((x2 < 0 → Q (some (.int 0)) S1) ∧ (¬ (x2 < 0) → ((x2 ≤ 255 → (vp_in x1 n ∧ Q (some (.int 1)) (px_u S1 b x1.toNatClampNeg x2))) ∧ (¬ (x2 ≤ 255) → Q (some (.int 0)) S1)))))))) :
    px_M G px_Zc (d + 1) m_Row_set [.ref k0, .int x1, .int x2] S Q :=
  px_in (Or.inr ⟨_, _, _, _, _, rfl, hh, rfl, rfl⟩) (by decide) (Nat.le_of_ble_eq_true rfl) (px_en 0 rfl) (e_Row_set_0 hh hb h)

set_option maxRecDepth 100000 in
theorem e_Row_clear_0 {G : px_G} {d : Nat} {k0 b n : Nat} {S : px_S} {Q : Option Value → px_S → Prop} (hh : px_Zc[k0]? = some (.inr (.inr (1, [some b, none])))) (hb : px_Zc[b]? = some (.inl n))
    (h : Q none (px_u S k0 1 0)) :
    px_w G px_Zc d m_Row_clear 0 [.ref k0] [] S Q := by
  refine w_aload_n rfl rfl rfl ?_
  refine w_iconst (v := 0) rfl rfl (by decide) ?_
  refine w_put rfl rfl fl_Row_13 fw_Row_1 hh rfl ?_
  exact w_return rfl rfl rfl h

theorem f_Row_clear {G : px_G} {d : Nat} {k0 b n : Nat} {S : px_S} {Q : Option Value → px_S → Prop} (hh : px_Zc[k0]? = some (.inr (.inr (1, [some b, none])))) (hb : px_Zc[b]? = some (.inl n))
    (h : Q none (px_u S k0 1 0)) :
    px_M G px_Zc d m_Row_clear [.ref k0] S Q :=
  px_in (Or.inr ⟨_, _, _, _, _, rfl, hh, rfl, rfl⟩) (by decide) (Nat.le_of_ble_eq_true rfl) (px_en 0 rfl) (e_Row_clear_0 hh hb h)

set_option maxRecDepth 100000 in
theorem e_Row_append_0 {G : px_G} {d : Nat} {k0 b n : Nat} {x1 : Int32} {S : px_S} {Q : Option Value → px_S → Prop} (hh : px_Zc[k0]? = some (.inr (.inr (1, [some b, none])))) (hb : px_Zc[b]? = some (.inl n))
    (h : (((Int32.ofNat n) ≤ (S k0 1) → Q none S) ∧ (¬ ((Int32.ofNat n) ≤ (S k0 1)) → (vp_in (S k0 1) n ∧ (∀ S1 : px_S, S1 = (px_u (px_u S b (S k0 1).toNatClampNeg (x1 &&& 255)) k0 1 (((px_u S b (S k0 1).toNatClampNeg (x1 &&& 255)) k0 1) + 1)) → Q none S1))))) :
    px_w G px_Zc d m_Row_append 0 [.ref k0, .int x1] [] S Q := by
  refine w_aload_n rfl rfl rfl ?_
  refine w_getI rfl rfl fl_Row_13 hh rfl ?_
  refine w_aload_n rfl rfl rfl ?_
  refine w_getR rfl rfl fl_Row_7 hh rfl ?_
  refine w_alen rfl rfl hb rfl ?_
  refine w_if_icmpge 36 rfl rfl rfl (fun hc => ?_) (fun hc => ?_)
  · have h := h.1 hc
    exact w_return rfl rfl rfl h
  · have h := h.2 hc
    refine w_aload_n rfl rfl rfl ?_
    refine w_getR rfl rfl fl_Row_7 hh rfl ?_
    refine w_aload_n rfl rfl rfl ?_
    refine w_getI rfl rfl fl_Row_13 hh rfl ?_
    refine w_iload_n rfl rfl rfl ?_
    refine w_sipush (v := 255) rfl rfl (by decide) ?_
    refine w_iand rfl rfl ?_
    refine w_iastore rfl rfl hb h.1 ?_
    have h := h.2
    refine w_aload_n rfl rfl rfl ?_
    refine w_dup rfl rfl rfl ?_
    refine w_getI rfl rfl fl_Row_13 hh rfl ?_
    refine w_iconst (v := 1) rfl rfl (by decide) ?_
    refine w_iadd rfl rfl ?_
    refine w_put rfl rfl fl_Row_13 fw_Row_1 hh rfl ?_
    have h := h _ rfl
    exact w_return rfl rfl rfl h

theorem f_Row_append {G : px_G} {d : Nat} {k0 b n : Nat} {x1 : Int32} {S : px_S} {Q : Option Value → px_S → Prop} (hh : px_Zc[k0]? = some (.inr (.inr (1, [some b, none])))) (hb : px_Zc[b]? = some (.inl n))
    (h : (((Int32.ofNat n) ≤ (S k0 1) → Q none S) ∧ (¬ ((Int32.ofNat n) ≤ (S k0 1)) → (vp_in (S k0 1) n ∧ (∀ S1 : px_S, S1 = (px_u (px_u S b (S k0 1).toNatClampNeg (x1 &&& 255)) k0 1 (((px_u S b (S k0 1).toNatClampNeg (x1 &&& 255)) k0 1) + 1)) → Q none S1))))) :
    px_M G px_Zc d m_Row_append [.ref k0, .int x1] S Q :=
  px_in (Or.inr ⟨_, _, _, _, _, rfl, hh, rfl, rfl⟩) (by decide) (Nat.le_of_ble_eq_true rfl) (px_en 0 rfl) (e_Row_append_0 hh hb h)

set_option maxRecDepth 100000 in
theorem e_Row_become_0 {G : px_G} {d : Nat} {k0 b n o : Nat} {x2 x3 : Int32} {S : px_S} {Q : Option Value → px_S → Prop} (hh : px_Zc[k0]? = some (.inr (.inr (1, [some b, none])))) (hb : px_Zc[b]? = some (.inl n))
    (h : px_w G px_Zc (d + 1) m_Row_become 8 [.ref k0, .ref o, .int x2, .int x3, .int 0] [] (px_u S k0 1 0) Q) :
    px_w G px_Zc (d + 1) m_Row_become 0 [.ref k0, .ref o, .int x2, .int x3, .null] [] S Q := by
  refine w_aload_n rfl rfl rfl ?_
  refine w_iconst (v := 0) rfl rfl (by decide) ?_
  refine w_put rfl rfl fl_Row_13 fw_Row_1 hh rfl ?_
  refine w_iconst (v := 0) rfl rfl (by decide) ?_
  refine w_istore _ rfl rfl (by decide) rfl rfl ?_
  exact h

set_option maxRecDepth 100000 in
theorem e_Row_become_8 {G : px_G} {d : Nat} {k0 b n o : Nat} {x2 x3 x4 : Int32} {S : px_S} {Q : Option Value → px_S → Prop} (hh : px_Zc[k0]? = some (.inr (.inr (1, [some b, none])))) (hb : px_Zc[b]? = some (.inl n))
    (h : ((x3 ≤ x4 → Q none S) ∧ (¬ (x3 ≤ x4) → px_I G px_Zc d m_Row_get [.ref o, .int (x2 + x4)] S (fun r2 S1 => px_V G px_Zc d m_Row_append [.ref k0, .int r2] S1 (fun S3 => px_w G px_Zc (d + 1) m_Row_become 8 [.ref k0, .ref o, .int x2, .int x3, .int (x4 + 1)] [] S3 Q))))) :
    px_w G px_Zc (d + 1) m_Row_become 8 [.ref k0, .ref o, .int x2, .int x3, .int x4] [] S Q := by
  refine w_iload rfl rfl rfl ?_
  refine w_iload_n rfl rfl rfl ?_
  refine w_if_icmpge 32 rfl rfl rfl (fun hc => ?_) (fun hc => ?_)
  · have h := h.1 hc
    exact w_return rfl rfl rfl h
  · have h := h.2 hc
    refine w_aload_n rfl rfl rfl ?_
    refine w_aload_n rfl rfl rfl ?_
    refine w_iload_n rfl rfl rfl ?_
    refine w_iload rfl rfl rfl ?_
    refine w_iadd rfl rfl ?_
    refine w_callI h cs_Row_become_20 rfl rfl (Nat.le_of_ble_eq_true rfl) rfl (fun r2 S1 h => ?_)
    refine w_callV h cs_Row_become_23 rfl rfl (Nat.le_of_ble_eq_true rfl) rfl (fun S3 h => ?_)
    refine w_iinc (v := 1) _ rfl rfl (by decide) rfl rfl (by decide) rfl ?_
    refine w_goto 8 rfl rfl rfl ?_
    exact h

theorem f_Row_become {G : px_G} {d : Nat} {k0 b n o : Nat} {x2 x3 : Int32} {S : px_S} {Q : Option Value → px_S → Prop} (hh : px_Zc[k0]? = some (.inr (.inr (1, [some b, none])))) (hb : px_Zc[b]? = some (.inl n))
    (h : px_w G px_Zc (d + 1) m_Row_become 8 [.ref k0, .ref o, .int x2, .int x3, .int 0] [] (px_u S k0 1 0) Q) :
    px_M G px_Zc (d + 1) m_Row_become [.ref k0, .ref o, .int x2, .int x3] S Q :=
  px_in (Or.inr ⟨_, _, _, _, _, rfl, hh, rfl, rfl⟩) (by decide) (Nat.le_of_ble_eq_true rfl) (px_en 1 rfl) (e_Row_become_0 hh hb h)

set_option maxRecDepth 100000 in
theorem e_Row_dropLast_0 {G : px_G} {d : Nat} {k0 b n : Nat} {x1 : Int32} {S : px_S} {Q : Option Value → px_S → Prop} (hh : px_Zc[k0]? = some (.inr (.inr (1, [some b, none])))) (hb : px_Zc[b]? = some (.inl n))
    (h : ((x1 < 0 → Q (some (.int 0)) S) ∧ (¬ (x1 < 0) → ((x1 ≤ (S k0 1) → Q (some (.int 1)) (px_u S k0 1 ((S k0 1) - x1))) ∧ (¬ (x1 ≤ (S k0 1)) → Q (some (.int 0)) S))))) :
    px_w G px_Zc d m_Row_dropLast 0 [.ref k0, .int x1] [] S Q := by
  refine w_iload_n rfl rfl rfl ?_
  refine w_iflt 12 rfl rfl rfl (fun hc => ?_) (fun hc => ?_)
  · have h := h.1 hc
    refine w_iconst (v := 0) rfl rfl (by decide) ?_
    exact w_zreturn rfl rfl rfl (Or.inl rfl) h
  · have h := h.2 hc
    refine w_iload_n rfl rfl rfl ?_
    refine w_aload_n rfl rfl rfl ?_
    refine w_getI rfl rfl fl_Row_13 hh rfl ?_
    refine w_if_icmple 14 rfl rfl rfl (fun hc => ?_) (fun hc => ?_)
    · have h := h.1 hc
      refine w_aload_n rfl rfl rfl ?_
      refine w_dup rfl rfl rfl ?_
      refine w_getI rfl rfl fl_Row_13 hh rfl ?_
      refine w_iload_n rfl rfl rfl ?_
      refine w_isub rfl rfl ?_
      refine w_put rfl rfl fl_Row_13 fw_Row_1 hh rfl ?_
      refine w_iconst (v := 1) rfl rfl (by decide) ?_
      exact w_zreturn rfl rfl rfl (Or.inr rfl) h
    · have h := h.2 hc
      refine w_iconst (v := 0) rfl rfl (by decide) ?_
      exact w_zreturn rfl rfl rfl (Or.inl rfl) h

theorem f_Row_dropLast {G : px_G} {d : Nat} {k0 b n : Nat} {x1 : Int32} {S : px_S} {Q : Option Value → px_S → Prop} (hh : px_Zc[k0]? = some (.inr (.inr (1, [some b, none])))) (hb : px_Zc[b]? = some (.inl n))
    (h : ((x1 < 0 → Q (some (.int 0)) S) ∧ (¬ (x1 < 0) → ((x1 ≤ (S k0 1) → Q (some (.int 1)) (px_u S k0 1 ((S k0 1) - x1))) ∧ (¬ (x1 ≤ (S k0 1)) → Q (some (.int 0)) S))))) :
    px_M G px_Zc d m_Row_dropLast [.ref k0, .int x1] S Q :=
  px_in (Or.inr ⟨_, _, _, _, _, rfl, hh, rfl, rfl⟩) (by decide) (Nat.le_of_ble_eq_true rfl) (px_en 0 rfl) (e_Row_dropLast_0 hh hb h)

set_option maxRecDepth 100000 in
theorem e_Row_remove_0 {G : px_G} {d : Nat} {k0 b n : Nat} {x1 x2 : Int32} {S : px_S} {Q : Option Value → px_S → Prop} (hh : px_Zc[k0]? = some (.inr (.inr (1, [some b, none])))) (hb : px_Zc[b]? = some (.inl n))
    (h : px_I G px_Zc d m_Row_has [.ref k0, .int x1] S (fun r2 S1 => ((r2 = 0 → Q (some (.int 0)) S1) ∧ (¬ r2 = 0 → ((x2 < 1 → Q (some (.int 0)) S1) ∧ (¬ (x2 < 1) → ((x2 ≤ ((S1 k0 1) - x1) → (px_cp (x1 + x2) x1 (((S1 k0 1) - x1) - x2) n ∧ (∀ S3 : px_S, S3 = (px_c S1 b (va_cpy (S1 b) (S1 b) ((x1 + x2)).toNatClampNeg (x1 : Int32).toNatClampNeg ((((S1 k0 1) - x1) - x2)).toNatClampNeg)) → Q (some (.int 1)) (px_u S3 k0 1 ((S3 k0 1) - x2))))) ∧ (¬ (x2 ≤ ((S1 k0 1) - x1)) → Q (some (.int 0)) S1)))))))) :
    px_w G px_Zc (d + 1) m_Row_remove 0 [.ref k0, .int x1, .int x2] [] S Q := by
  refine w_aload_n rfl rfl rfl ?_
  refine w_iload_n rfl rfl rfl ?_
  refine w_callI h cs_Row_remove_2 rfl rfl (Nat.le_of_ble_eq_true rfl) rfl (fun r2 S1 h => ?_)
  refine w_ifeq 23 rfl rfl rfl (fun hc => ?_) (fun hc => ?_)
  · have h := h.1 hc
    refine w_iconst (v := 0) rfl rfl (by decide) ?_
    exact w_zreturn rfl rfl rfl (Or.inl rfl) h
  · have h := h.2 hc
    refine w_iload_n rfl rfl rfl ?_
    refine w_iconst (v := 1) rfl rfl (by decide) ?_
    refine w_if_icmplt 23 rfl rfl rfl (fun hc => ?_) (fun hc => ?_)
    · have h := h.1 hc
      refine w_iconst (v := 0) rfl rfl (by decide) ?_
      exact w_zreturn rfl rfl rfl (Or.inl rfl) h
    · have h := h.2 hc
      refine w_iload_n rfl rfl rfl ?_
      refine w_aload_n rfl rfl rfl ?_
      refine w_getI rfl rfl fl_Row_13 hh rfl ?_
      refine w_iload_n rfl rfl rfl ?_
      refine w_isub rfl rfl ?_
      refine w_if_icmple 25 rfl rfl rfl (fun hc => ?_) (fun hc => ?_)
      · have h := h.1 hc
        refine w_aload_n rfl rfl rfl ?_
        refine w_getR rfl rfl fl_Row_7 hh rfl ?_
        refine w_iload_n rfl rfl rfl ?_
        refine w_iload_n rfl rfl rfl ?_
        refine w_iadd rfl rfl ?_
        refine w_aload_n rfl rfl rfl ?_
        refine w_getR rfl rfl fl_Row_7 hh rfl ?_
        refine w_iload_n rfl rfl rfl ?_
        refine w_aload_n rfl rfl rfl ?_
        refine w_getI rfl rfl fl_Row_13 hh rfl ?_
        refine w_iload_n rfl rfl rfl ?_
        refine w_isub rfl rfl ?_
        refine w_iload_n rfl rfl rfl ?_
        refine w_isub rfl rfl ?_
        refine w_copy rfl rfl px_ac0 (Nat.le_of_ble_eq_true rfl) hb h.1 ?_
        have h := h.2
        have h := h _ rfl
        refine w_aload_n rfl rfl rfl ?_
        refine w_dup rfl rfl rfl ?_
        refine w_getI rfl rfl fl_Row_13 hh rfl ?_
        refine w_iload_n rfl rfl rfl ?_
        refine w_isub rfl rfl ?_
        refine w_put rfl rfl fl_Row_13 fw_Row_1 hh rfl ?_
        refine w_iconst (v := 1) rfl rfl (by decide) ?_
        exact w_zreturn rfl rfl rfl (Or.inr rfl) h
      · have h := h.2 hc
        refine w_iconst (v := 0) rfl rfl (by decide) ?_
        exact w_zreturn rfl rfl rfl (Or.inl rfl) h

theorem f_Row_remove {G : px_G} {d : Nat} {k0 b n : Nat} {x1 x2 : Int32} {S : px_S} {Q : Option Value → px_S → Prop} (hh : px_Zc[k0]? = some (.inr (.inr (1, [some b, none])))) (hb : px_Zc[b]? = some (.inl n))
    (h : px_I G px_Zc d m_Row_has [.ref k0, .int x1] S (fun r2 S1 => ((r2 = 0 → Q (some (.int 0)) S1) ∧ (¬ r2 = 0 → ((x2 < 1 → Q (some (.int 0)) S1) ∧ (¬ (x2 < 1) → ((x2 ≤ ((S1 k0 1) - x1) → (px_cp (x1 + x2) x1 (((S1 k0 1) - x1) - x2) n ∧ (∀ S3 : px_S, S3 = (px_c S1 b (va_cpy (S1 b) (S1 b) ((x1 + x2)).toNatClampNeg (x1 : Int32).toNatClampNeg ((((S1 k0 1) - x1) - x2)).toNatClampNeg)) → Q (some (.int 1)) (px_u S3 k0 1 ((S3 k0 1) - x2))))) ∧ (¬ (x2 ≤ ((S1 k0 1) - x1)) → Q (some (.int 0)) S1)))))))) :
    px_M G px_Zc (d + 1) m_Row_remove [.ref k0, .int x1, .int x2] S Q :=
  px_in (Or.inr ⟨_, _, _, _, _, rfl, hh, rfl, rfl⟩) (by decide) (Nat.le_of_ble_eq_true rfl) (px_en 0 rfl) (e_Row_remove_0 hh hb h)

