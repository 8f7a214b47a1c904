set_option maxRecDepth 100000 in
theorem e_Equations_begin_0 {G : px_G} {d : Nat} {x1 : Int32} {S : px_S} {Q : Option Value → px_S → Prop}
    (h : Q none (px_u (px_u S 30 2 (px_min x1 12)) 30 3 0)) :
    px_w G px_Zc (d + 1) m_Equations_begin 0 [.ref 30, .int x1] [] S Q := by
  refine w_aload_n rfl rfl rfl ?_
  refine w_iload_n rfl rfl rfl ?_
  refine w_bipush (v := 12) rfl rfl (by decide) ?_
  refine w_min rfl rfl px_mnE (Nat.le_of_ble_eq_true rfl) ?_
  refine w_put rfl rfl fl_Equations_20 fw_Equations_2 rfl rfl ?_
  refine w_aload_n rfl rfl rfl ?_
  refine w_iconst (v := 0) rfl rfl (by decide) ?_
  refine w_put rfl rfl fl_Equations_24 fw_Equations_3 rfl rfl ?_
  exact w_return rfl rfl rfl h

theorem f_Equations_begin {G : px_G} {d : Nat} {x1 : Int32} {S : px_S} {Q : Option Value → px_S → Prop}
    (h : Q none (px_u (px_u S 30 2 (px_min x1 12)) 30 3 0)) :
    px_M G px_Zc (d + 1) m_Equations_begin [.ref 30, .int x1] S Q :=
  px_in (Or.inr ⟨_, _, _, _, _, rfl, rfl, rfl, rfl⟩) (by decide) (Nat.le_of_ble_eq_true rfl) (px_en 0 rfl) (e_Equations_begin_0 h)

set_option maxRecDepth 100000 in
theorem e_Equations_enough_0 {G : px_G} {d : Nat} {S : px_S} {Q : Option Value → px_S → Prop}
    (h : (((S 30 3) < (S 30 2) → Q (some (.int 0)) S) ∧ (¬ ((S 30 3) < (S 30 2)) → Q (some (.int 1)) S))) :
    px_w G px_Zc d m_Equations_enough 0 [.ref 30] [] S Q := by
  refine w_aload_n rfl rfl rfl ?_
  refine w_getI rfl rfl fl_Equations_24 rfl rfl ?_
  refine w_aload_n rfl rfl rfl ?_
  refine w_getI rfl rfl fl_Equations_20 rfl rfl ?_
  refine w_if_icmplt 15 rfl rfl rfl (fun hc => ?_) (fun hc => ?_)
  · have h := h.1 hc
    refine w_iconst (v := 0) rfl rfl (by decide) ?_
    exact w_zreturn rfl rfl rfl (Or.inl rfl) h
  · have h := h.2 hc
    refine w_iconst (v := 1) rfl rfl (by decide) ?_
    refine w_goto 16 rfl rfl rfl ?_
    exact w_zreturn rfl rfl rfl (Or.inr rfl) h

theorem f_Equations_enough {G : px_G} {d : Nat} {S : px_S} {Q : Option Value → px_S → Prop}
    (h : (((S 30 3) < (S 30 2) → Q (some (.int 0)) S) ∧ (¬ ((S 30 3) < (S 30 2)) → Q (some (.int 1)) S))) :
    px_M G px_Zc d m_Equations_enough [.ref 30] S Q :=
  px_in (Or.inr ⟨_, _, _, _, _, rfl, rfl, rfl, rfl⟩) (by decide) (Nat.le_of_ble_eq_true rfl) (px_en 0 rfl) (e_Equations_enough_0 h)

set_option maxRecDepth 100000 in
theorem e_Equations_offerFactor_0 {G : px_G} {d : Nat} {x1 x2 : Int32} {S : px_S} {Q : Option Value → px_S → Prop}
    (h : px_I G px_Zc d m_Equations_enough [.ref 30] S (fun r2 S1 => ((¬ r2 = 0 → Q none S1) ∧ (r2 = 0 → ((x1 < 0 → Q none S1) ∧ (¬ (x1 < 0) → (((S1 30 2) ≤ x1 → Q none S1) ∧ (¬ ((S1 30 2) ≤ x1) → (vp_in (S1 30 3) 12 ∧ (px_Zc[(px_re.getD (S1 30 3).toNatClampNeg 0)]? = some (.inl 16) ∧ (vp_in x1 16 ∧ Q none (px_u S1 (px_re.getD (S1 30 3).toNatClampNeg 0) x1.toNatClampNeg x2)))))))))))) :
    px_w G px_Zc (d + 1) m_Equations_offerFactor 0 [.ref 30, .int x1, .int x2] [] S Q := by
  refine w_aload_n rfl rfl rfl ?_
  refine w_callI h cs_Equations_offerFactor_1 rfl rfl (Nat.le_of_ble_eq_true rfl) rfl (fun r2 S1 h => ?_)
  refine w_ifne 31 rfl rfl rfl (fun hc => ?_) (fun hc => ?_)
  · have h := h.1 hc
    exact w_return rfl rfl rfl h
  · have h := h.2 hc
    refine w_iload_n rfl rfl rfl ?_
    refine w_iflt 31 rfl rfl rfl (fun hc => ?_) (fun hc => ?_)
    · have h := h.1 hc
      exact w_return rfl rfl rfl h
    · have h := h.2 hc
      refine w_iload_n rfl rfl rfl ?_
      refine w_aload_n rfl rfl rfl ?_
      refine w_getI rfl rfl fl_Equations_20 rfl rfl ?_
      refine w_if_icmpge 31 rfl rfl rfl (fun hc => ?_) (fun hc => ?_)
      · have h := h.1 hc
        exact w_return rfl rfl rfl h
      · have h := h.2 hc
        refine w_aload_n rfl rfl rfl ?_
        refine w_getR rfl rfl fl_Equations_11 rfl rfl ?_
        refine w_aload_n rfl rfl rfl ?_
        refine w_getI rfl rfl fl_Equations_24 rfl rfl ?_
        refine w_aaload (ty := .array .int) rfl rfl rfl (fun _ => rfl) rfl h.1 ?_
        have h := h.2
        refine w_iload_n rfl rfl rfl ?_
        refine w_iload_n rfl rfl rfl ?_
        have hz := h.1
        have h := h.2
        refine w_iastore rfl rfl hz h.1 ?_
        have h := h.2
        exact w_return rfl rfl rfl h

theorem f_Equations_offerFactor {G : px_G} {d : Nat} {x1 x2 : Int32} {S : px_S} {Q : Option Value → px_S → Prop}
    (h : px_I G px_Zc d m_Equations_enough [.ref 30] S (fun r2 S1 => ((¬ r2 = 0 → Q none S1) ∧ (r2 = 0 → ((x1 < 0 → Q none S1) ∧ (¬ (x1 < 0) → (((S1 30 2) ≤ x1 → Q none S1) ∧ (¬ ((S1 30 2) ≤ x1) → (vp_in (S1 30 3) 12 ∧ (px_Zc[(px_re.getD (S1 30 3).toNatClampNeg 0)]? = some (.inl 16) ∧ (vp_in x1 16 ∧ Q none (px_u S1 (px_re.getD (S1 30 3).toNatClampNeg 0) x1.toNatClampNeg x2)))))))))))) :
    px_M G px_Zc (d + 1) m_Equations_offerFactor [.ref 30, .int x1, .int x2] S Q :=
  px_in (Or.inr ⟨_, _, _, _, _, rfl, rfl, rfl, rfl⟩) (by decide) (Nat.le_of_ble_eq_true rfl) (px_en 0 rfl) (e_Equations_offerFactor_0 h)

set_option maxRecDepth 100000 in
theorem e_Equations_offerResult_0 {G : px_G} {d : Nat} {x1 x2 : Int32} {S : px_S} {Q : Option Value → px_S → Prop}
    (h : px_I G px_Zc d m_Equations_enough [.ref 30] S (fun r2 S1 => ((¬ r2 = 0 → Q none S1) ∧ (r2 = 0 → ((x1 < 0 → Q none S1) ∧ (¬ (x1 < 0) → ((4 ≤ x1 → Q none S1) ∧ (¬ (4 ≤ x1) → (vp_in (S1 30 3) 12 ∧ (px_Zc[(px_re.getD (S1 30 3).toNatClampNeg 0)]? = some (.inl 16) ∧ (vp_in (12 + x1) 16 ∧ Q none (px_u S1 (px_re.getD (S1 30 3).toNatClampNeg 0) (12 + x1).toNatClampNeg x2)))))))))))) :
    px_w G px_Zc (d + 1) m_Equations_offerResult 0 [.ref 30, .int x1, .int x2] [] S Q := by
  refine w_aload_n rfl rfl rfl ?_
  refine w_callI h cs_Equations_offerResult_1 rfl rfl (Nat.le_of_ble_eq_true rfl) rfl (fun r2 S1 h => ?_)
  refine w_ifne 31 rfl rfl rfl (fun hc => ?_) (fun hc => ?_)
  · have h := h.1 hc
    exact w_return rfl rfl rfl h
  · have h := h.2 hc
    refine w_iload_n rfl rfl rfl ?_
    refine w_iflt 31 rfl rfl rfl (fun hc => ?_) (fun hc => ?_)
    · have h := h.1 hc
      exact w_return rfl rfl rfl h
    · have h := h.2 hc
      refine w_iload_n rfl rfl rfl ?_
      refine w_iconst (v := 4) rfl rfl (by decide) ?_
      refine w_if_icmpge 31 rfl rfl rfl (fun hc => ?_) (fun hc => ?_)
      · have h := h.1 hc
        exact w_return rfl rfl rfl h
      · have h := h.2 hc
        refine w_aload_n rfl rfl rfl ?_
        refine w_getR rfl rfl fl_Equations_11 rfl rfl ?_
        refine w_aload_n rfl rfl rfl ?_
        refine w_getI rfl rfl fl_Equations_24 rfl rfl ?_
        refine w_aaload (ty := .array .int) rfl rfl rfl (fun _ => rfl) rfl h.1 ?_
        have h := h.2
        refine w_bipush (v := 12) rfl rfl (by decide) ?_
        refine w_iload_n rfl rfl rfl ?_
        refine w_iadd rfl rfl ?_
        refine w_iload_n rfl rfl rfl ?_
        have hz := h.1
        have h := h.2
        refine w_iastore rfl rfl hz h.1 ?_
        have h := h.2
        exact w_return rfl rfl rfl h

theorem f_Equations_offerResult {G : px_G} {d : Nat} {x1 x2 : Int32} {S : px_S} {Q : Option Value → px_S → Prop}
    (h : px_I G px_Zc d m_Equations_enough [.ref 30] S (fun r2 S1 => ((¬ r2 = 0 → Q none S1) ∧ (r2 = 0 → ((x1 < 0 → Q none S1) ∧ (¬ (x1 < 0) → ((4 ≤ x1 → Q none S1) ∧ (¬ (4 ≤ x1) → (vp_in (S1 30 3) 12 ∧ (px_Zc[(px_re.getD (S1 30 3).toNatClampNeg 0)]? = some (.inl 16) ∧ (vp_in (12 + x1) 16 ∧ Q none (px_u S1 (px_re.getD (S1 30 3).toNatClampNeg 0) (12 + x1).toNatClampNeg x2)))))))))))) :
    px_M G px_Zc (d + 1) m_Equations_offerResult [.ref 30, .int x1, .int x2] S Q :=
  px_in (Or.inr ⟨_, _, _, _, _, rfl, rfl, rfl, rfl⟩) (by decide) (Nat.le_of_ble_eq_true rfl) (px_en 0 rfl) (e_Equations_offerResult_0 h)

set_option maxRecDepth 100000 in
theorem e_Equations_takeOffered_0 {G : px_G} {d : Nat} {S : px_S} {Q : Option Value → px_S → Prop}
    (h : px_I G px_Zc d m_Equations_enough [.ref 30] S (fun r2 S1 => ((r2 = 0 → px_w G px_Zc (d + 1) m_Equations_takeOffered 10 [.ref 30, .int 0] [] S1 Q) ∧ (¬ r2 = 0 → Q none S1)))) :
    px_w G px_Zc (d + 1) m_Equations_takeOffered 0 [.ref 30, .null] [] S Q := by
  refine w_aload_n rfl rfl rfl ?_
  refine w_callI h cs_Equations_takeOffered_1 rfl rfl (Nat.le_of_ble_eq_true rfl) rfl (fun r2 S1 h => ?_)
  refine w_ifeq 8 rfl rfl rfl (fun hc => ?_) (fun hc => ?_)
  · have h := h.1 hc
    refine w_iconst (v := 0) rfl rfl (by decide) ?_
    refine w_istore_n _ rfl rfl (by decide) rfl rfl ?_
    exact h
  · have h := h.2 hc
    exact w_return rfl rfl rfl h

set_option maxRecDepth 100000 in
theorem e_Equations_takeOffered_10 {G : px_G} {d : Nat} {x1 : Int32} {S : px_S} {Q : Option Value → px_S → Prop}
    (h : (((S 30 3) ≤ x1 → px_w G px_Zc (d + 1) m_Equations_takeOffered 51 [.ref 30, .int 0] [] S Q) ∧ (¬ ((S 30 3) ≤ x1) → (vp_in (S 30 3) 12 ∧ (vp_in x1 12 ∧ (px_Zc[(px_re.getD (S 30 3).toNatClampNeg 0)]? = some (.inl 16) ∧ (vp_in (S 44 x1.toNatClampNeg) 16 ∧ px_V G px_Zc d m_Equations_addMultiple [.ref 30, .int (S 30 3), .int x1, .int (S (px_re.getD (S 30 3).toNatClampNeg 0) (S 44 x1.toNatClampNeg).toNatClampNeg)] S (fun S3 => px_w G px_Zc (d + 1) m_Equations_takeOffered 10 [.ref 30, .int (x1 + 1)] [] S3 Q)))))))) :
    px_w G px_Zc (d + 1) m_Equations_takeOffered 10 [.ref 30, .int x1] [] S Q := by
  refine w_iload_n rfl rfl rfl ?_
  refine w_aload_n rfl rfl rfl ?_
  refine w_getI rfl rfl fl_Equations_24 rfl rfl ?_
  refine w_if_icmpge 49 rfl rfl rfl (fun hc => ?_) (fun hc => ?_)
  · have h := h.1 hc
    refine w_iconst (v := 0) rfl rfl (by decide) ?_
    refine w_istore_n _ rfl rfl (by decide) rfl rfl ?_
    exact h
  · have h := h.2 hc
    refine w_aload_n rfl rfl rfl ?_
    refine w_aload_n rfl rfl rfl ?_
    refine w_getI rfl rfl fl_Equations_24 rfl rfl ?_
    refine w_iload_n rfl rfl rfl ?_
    refine w_aload_n rfl rfl rfl ?_
    refine w_getR rfl rfl fl_Equations_11 rfl rfl ?_
    refine w_aload_n rfl rfl rfl ?_
    refine w_getI rfl rfl fl_Equations_24 rfl rfl ?_
    refine w_aaload (ty := .array .int) rfl rfl rfl (fun _ => rfl) rfl h.1 ?_
    have h := h.2
    refine w_aload_n rfl rfl rfl ?_
    refine w_getR rfl rfl fl_Equations_16 rfl rfl ?_
    refine w_iload_n rfl rfl rfl ?_
    refine w_iaload rfl rfl rfl h.1 ?_
    have h := h.2
    have hz := h.1
    have h := h.2
    refine w_iaload rfl rfl hz h.1 ?_
    have h := h.2
    refine w_callV h cs_Equations_takeOffered_40 rfl rfl (Nat.le_of_ble_eq_true rfl) rfl (fun S3 h => ?_)
    refine w_iinc (v := 1) _ rfl rfl (by decide) rfl rfl (by decide) rfl ?_
    refine w_goto 10 rfl rfl rfl ?_
    exact h

set_option maxRecDepth 100000 in
theorem e_Equations_takeOffered_51 {G : px_G} {d : Nat} {x1 : Int32} {S : px_S} {Q : Option Value → px_S → Prop}
    (h : (((S 30 2) ≤ x1 → Q none S) ∧ (¬ ((S 30 2) ≤ x1) → (vp_in (S 30 3) 12 ∧ (px_Zc[(px_re.getD (S 30 3).toNatClampNeg 0)]? = some (.inl 16) ∧ (vp_in x1 16 ∧ (((S (px_re.getD (S 30 3).toNatClampNeg 0) x1.toNatClampNeg) = 0 → px_w G px_Zc (d + 1) m_Equations_takeOffered 51 [.ref 30, .int (x1 + 1)] [] S Q) ∧ (¬ (S (px_re.getD (S 30 3).toNatClampNeg 0) x1.toNatClampNeg) = 0 → (vp_in (S 30 3) 12 ∧ (vp_in ((px_u S 44 (S 30 3).toNatClampNeg x1) 30 3) 12 ∧ (px_Zc[(px_re.getD ((px_u S 44 (S 30 3).toNatClampNeg x1) 30 3).toNatClampNeg 0)]? = some (.inl 16) ∧ (vp_in x1 16 ∧ px_I G px_Zc d m_Field_inverse [.int ((px_u S 44 (S 30 3).toNatClampNeg x1) (px_re.getD ((px_u S 44 (S 30 3).toNatClampNeg x1) 30 3).toNatClampNeg 0) x1.toNatClampNeg)] (px_u S 44 (S 30 3).toNatClampNeg x1) (fun r5 S4 => px_V G px_Zc d m_Equations_scale [.ref 30, .int ((px_u S 44 (S 30 3).toNatClampNeg x1) 30 3), .int r5] S4 (fun S6 => Q none (px_u S6 30 3 ((S6 30 3) + 1)))))))))))))))) :
    px_w G px_Zc (d + 1) m_Equations_takeOffered 51 [.ref 30, .int x1] [] S Q := by
  refine w_iload_n rfl rfl rfl ?_
  refine w_aload_n rfl rfl rfl ?_
  refine w_getI rfl rfl fl_Equations_20 rfl rfl ?_
  refine w_if_icmpge 122 rfl rfl rfl (fun hc => ?_) (fun hc => ?_)
  · have h := h.1 hc
    exact w_return rfl rfl rfl h
  · have h := h.2 hc
    refine w_aload_n rfl rfl rfl ?_
    refine w_getR rfl rfl fl_Equations_11 rfl rfl ?_
    refine w_aload_n rfl rfl rfl ?_
    refine w_getI rfl rfl fl_Equations_24 rfl rfl ?_
    refine w_aaload (ty := .array .int) rfl rfl rfl (fun _ => rfl) rfl h.1 ?_
    have h := h.2
    refine w_iload_n rfl rfl rfl ?_
    have hz := h.1
    have h := h.2
    refine w_iaload rfl rfl hz h.1 ?_
    have h := h.2
    refine w_ifeq 116 rfl rfl rfl (fun hc => ?_) (fun hc => ?_)
    · have h := h.1 hc
      refine w_iinc (v := 1) _ rfl rfl (by decide) rfl rfl (by decide) rfl ?_
      refine w_goto 51 rfl rfl rfl ?_
      exact h
    · have h := h.2 hc
      refine w_aload_n rfl rfl rfl ?_
      refine w_getR rfl rfl fl_Equations_16 rfl rfl ?_
      refine w_aload_n rfl rfl rfl ?_
      refine w_getI rfl rfl fl_Equations_24 rfl rfl ?_
      refine w_iload_n rfl rfl rfl ?_
      refine w_iastore rfl rfl rfl h.1 ?_
      have h := h.2
      refine w_aload_n rfl rfl rfl ?_
      refine w_aload_n rfl rfl rfl ?_
      refine w_getI rfl rfl fl_Equations_24 rfl rfl ?_
      refine w_aload_n rfl rfl rfl ?_
      refine w_getR rfl rfl fl_Equations_11 rfl rfl ?_
      refine w_aload_n rfl rfl rfl ?_
      refine w_getI rfl rfl fl_Equations_24 rfl rfl ?_
      refine w_aaload (ty := .array .int) rfl rfl rfl (fun _ => rfl) rfl h.1 ?_
      have h := h.2
      refine w_iload_n rfl rfl rfl ?_
      have hz := h.1
      have h := h.2
      refine w_iaload rfl rfl hz h.1 ?_
      have h := h.2
      refine w_callI h cs_Equations_takeOffered_99 rfl rfl (Nat.le_of_ble_eq_true rfl) rfl (fun r5 S4 h => ?_)
      refine w_callV h cs_Equations_takeOffered_102 rfl rfl (Nat.le_of_ble_eq_true rfl) rfl (fun S6 h => ?_)
      refine w_aload_n rfl rfl rfl ?_
      refine w_dup rfl rfl rfl ?_
      refine w_getI rfl rfl fl_Equations_24 rfl rfl ?_
      refine w_iconst (v := 1) rfl rfl (by decide) ?_
      refine w_iadd rfl rfl ?_
      refine w_put rfl rfl fl_Equations_24 fw_Equations_3 rfl rfl ?_
      exact w_return rfl rfl rfl h

theorem f_Equations_takeOffered {G : px_G} {d : Nat} {S : px_S} {Q : Option Value → px_S → Prop}
    (h : px_I G px_Zc d m_Equations_enough [.ref 30] S (fun r2 S1 => ((r2 = 0 → px_w G px_Zc (d + 1) m_Equations_takeOffered 10 [.ref 30, .int 0] [] S1 Q) ∧ (¬ r2 = 0 → Q none S1)))) :
    px_M G px_Zc (d + 1) m_Equations_takeOffered [.ref 30] S Q :=
  px_in (Or.inr ⟨_, _, _, _, _, rfl, rfl, rfl, rfl⟩) (by decide) (Nat.le_of_ble_eq_true rfl) (px_en 1 rfl) (e_Equations_takeOffered_0 h)

set_option maxRecDepth 100000 in
theorem e_Equations_solve_0 {G : px_G} {d : Nat} {S : px_S} {Q : Option Value → px_S → Prop}
    (h : px_w G px_Zc (d + 1) m_Equations_solve 7 [.ref 30, .int ((S 30 3) - 1), .null] [] S Q) :
    px_w G px_Zc (d + 1) m_Equations_solve 0 [.ref 30, .null, .null] [] S Q := by
  refine w_aload_n rfl rfl rfl ?_
  refine w_getI rfl rfl fl_Equations_24 rfl rfl ?_
  refine w_iconst (v := 1) rfl rfl (by decide) ?_
  refine w_isub rfl rfl ?_
  refine w_istore_n _ rfl rfl (by decide) rfl rfl ?_
  exact h

set_option maxRecDepth 100000 in
theorem e_Equations_solve_7 {G : px_G} {d : Nat} {x1 : Int32} {S : px_S} {Q : Option Value → px_S → Prop}
    (h : ((x1 ≤ 0 → Q none S) ∧ (¬ (x1 ≤ 0) → px_w G px_Zc (d + 1) m_Equations_solve 13 [.ref 30, .int x1, .int 0] [] S Q))) :
    px_w G px_Zc (d + 1) m_Equations_solve 7 [.ref 30, .int x1, .null] [] S Q := by
  refine w_iload_n rfl rfl rfl ?_
  refine w_ifle 49 rfl rfl rfl (fun hc => ?_) (fun hc => ?_)
  · have h := h.1 hc
    exact w_return rfl rfl rfl h
  · have h := h.2 hc
    refine w_iconst (v := 0) rfl rfl (by decide) ?_
    refine w_istore_n _ rfl rfl (by decide) rfl rfl ?_
    exact h

set_option maxRecDepth 100000 in
theorem e_Equations_solve_13 {G : px_G} {d : Nat} {x1 x2 : Int32} {S : px_S} {Q : Option Value → px_S → Prop}
    (h : ((x1 ≤ x2 → px_w G px_Zc (d + 1) m_Equations_solve 7 [.ref 30, .int (x1 + (-1)), .null] [] S Q) ∧ (¬ (x1 ≤ x2) → (vp_in x2 12 ∧ (vp_in x1 12 ∧ (px_Zc[(px_re.getD x2.toNatClampNeg 0)]? = some (.inl 16) ∧ (vp_in (S 44 x1.toNatClampNeg) 16 ∧ px_V G px_Zc d m_Equations_addMultiple [.ref 30, .int x2, .int x1, .int (S (px_re.getD x2.toNatClampNeg 0) (S 44 x1.toNatClampNeg).toNatClampNeg)] S (fun S1 => px_w G px_Zc (d + 1) m_Equations_solve 13 [.ref 30, .int x1, .int (x2 + 1)] [] S1 Q)))))))) :
    px_w G px_Zc (d + 1) m_Equations_solve 13 [.ref 30, .int x1, .int x2] [] S Q := by
  refine w_iload_n rfl rfl rfl ?_
  refine w_iload_n rfl rfl rfl ?_
  refine w_if_icmpge 43 rfl rfl rfl (fun hc => ?_) (fun hc => ?_)
  · have h := h.1 hc
    refine w_iinc (v := -1) _ rfl rfl (by decide) rfl rfl (by decide) rfl ?_
    refine w_goto 7 rfl rfl rfl ?_
    refine w_null 2 _ rfl ?_
    exact h
  · have h := h.2 hc
    refine w_aload_n rfl rfl rfl ?_
    refine w_iload_n rfl rfl rfl ?_
    refine w_iload_n rfl rfl rfl ?_
    refine w_aload_n rfl rfl rfl ?_
    refine w_getR rfl rfl fl_Equations_11 rfl rfl ?_
    refine w_iload_n rfl rfl rfl ?_
    refine w_aaload (ty := .array .int) rfl rfl rfl (fun _ => rfl) rfl h.1 ?_
    have h := h.2
    refine w_aload_n rfl rfl rfl ?_
    refine w_getR rfl rfl fl_Equations_16 rfl rfl ?_
    refine w_iload_n rfl rfl rfl ?_
    refine w_iaload rfl rfl rfl h.1 ?_
    have h := h.2
    have hz := h.1
    have h := h.2
    refine w_iaload rfl rfl hz h.1 ?_
    have h := h.2
    refine w_callV h cs_Equations_solve_34 rfl rfl (Nat.le_of_ble_eq_true rfl) rfl (fun S1 h => ?_)
    refine w_iinc (v := 1) _ rfl rfl (by decide) rfl rfl (by decide) rfl ?_
    refine w_goto 13 rfl rfl rfl ?_
    exact h

theorem f_Equations_solve {G : px_G} {d : Nat} {S : px_S} {Q : Option Value → px_S → Prop}
    (h : px_w G px_Zc (d + 1) m_Equations_solve 7 [.ref 30, .int ((S 30 3) - 1), .null] [] S Q) :
    px_M G px_Zc (d + 1) m_Equations_solve [.ref 30] S Q :=
  px_in (Or.inr ⟨_, _, _, _, _, rfl, rfl, rfl, rfl⟩) (by decide) (Nat.le_of_ble_eq_true rfl) (px_en 2 rfl) (e_Equations_solve_0 h)

set_option maxRecDepth 100000 in
theorem e_Equations_takenCount_0 {G : px_G} {d : Nat} {S : px_S} {Q : Option Value → px_S → Prop}
    (h : Q (some (.int (S 30 3))) S) :
    px_w G px_Zc d m_Equations_takenCount 0 [.ref 30] [] S Q := by
  refine w_aload_n rfl rfl rfl ?_
  refine w_getI rfl rfl fl_Equations_24 rfl rfl ?_
  exact w_ireturn rfl rfl rfl h

theorem f_Equations_takenCount {G : px_G} {d : Nat} {S : px_S} {Q : Option Value → px_S → Prop}
    (h : Q (some (.int (S 30 3))) S) :
    px_M G px_Zc d m_Equations_takenCount [.ref 30] S Q :=
  px_in (Or.inr ⟨_, _, _, _, _, rfl, rfl, rfl, rfl⟩) (by decide) (Nat.le_of_ble_eq_true rfl) (px_en 0 rfl) (e_Equations_takenCount_0 h)

set_option maxRecDepth 100000 in
theorem e_Equations_unknownOf_0 {G : px_G} {d : Nat} {x1 : Int32} {S : px_S} {Q : Option Value → px_S → Prop}
    (h : ((x1 < 0 → Q (some (.int 0)) S) ∧ (¬ (x1 < 0) → (((S 30 3) ≤ x1 → Q (some (.int 0)) S) ∧ (¬ ((S 30 3) ≤ x1) → (vp_in x1 12 ∧ Q (some (.int (S 44 x1.toNatClampNeg))) S)))))) :
    px_w G px_Zc d m_Equations_unknownOf 0 [.ref 30, .int x1] [] S Q := by
  refine w_iload_n rfl rfl rfl ?_
  refine w_iflt 21 rfl rfl rfl (fun hc => ?_) (fun hc => ?_)
  · have h := h.1 hc
    refine w_iconst (v := 0) rfl rfl (by decide) ?_
    exact w_ireturn rfl rfl rfl h
  · have h := h.2 hc
    refine w_iload_n rfl rfl rfl ?_
    refine w_aload_n rfl rfl rfl ?_
    refine w_getI rfl rfl fl_Equations_24 rfl rfl ?_
    refine w_if_icmpge 21 rfl rfl rfl (fun hc => ?_) (fun hc => ?_)
    · have h := h.1 hc
      refine w_iconst (v := 0) rfl rfl (by decide) ?_
      exact w_ireturn rfl rfl rfl h
    · have h := h.2 hc
      refine w_aload_n rfl rfl rfl ?_
      refine w_getR rfl rfl fl_Equations_16 rfl rfl ?_
      refine w_iload_n rfl rfl rfl ?_
      refine w_iaload rfl rfl rfl h.1 ?_
      have h := h.2
      refine w_goto 22 rfl rfl rfl ?_
      exact w_ireturn rfl rfl rfl h

theorem f_Equations_unknownOf {G : px_G} {d : Nat} {x1 : Int32} {S : px_S} {Q : Option Value → px_S → Prop}
    (h : ((x1 < 0 → Q (some (.int 0)) S) ∧ (¬ (x1 < 0) → (((S 30 3) ≤ x1 → Q (some (.int 0)) S) ∧ (¬ ((S 30 3) ≤ x1) → (vp_in x1 12 ∧ Q (some (.int (S 44 x1.toNatClampNeg))) S)))))) :
    px_M G px_Zc d m_Equations_unknownOf [.ref 30, .int x1] S Q :=
  px_in (Or.inr ⟨_, _, _, _, _, rfl, rfl, rfl, rfl⟩) (by decide) (Nat.le_of_ble_eq_true rfl) (px_en 0 rfl) (e_Equations_unknownOf_0 h)

set_option maxRecDepth 100000 in
theorem e_Equations_resultOf_0 {G : px_G} {d : Nat} {x1 x2 : Int32} {S : px_S} {Q : Option Value → px_S → Prop}
    (h : ((x1 < 0 → Q (some (.int 0)) S) ∧ (¬ (x1 < 0) → (((S 30 3) ≤ x1 → Q (some (.int 0)) S) ∧ (¬ ((S 30 3) ≤ x1) → ((x2 < 0 → Q (some (.int 0)) S) ∧ (¬ (x2 < 0) → ((4 ≤ x2 → Q (some (.int 0)) S) ∧ (¬ (4 ≤ x2) → (vp_in x1 12 ∧ (px_Zc[(px_re.getD x1.toNatClampNeg 0)]? = some (.inl 16) ∧ (vp_in (12 + x2) 16 ∧ Q (some (.int (S (px_re.getD x1.toNatClampNeg 0) (12 + x2).toNatClampNeg))) S)))))))))))) :
    px_w G px_Zc d m_Equations_resultOf 0 [.ref 30, .int x1, .int x2] [] S Q := by
  refine w_iload_n rfl rfl rfl ?_
  refine w_iflt 35 rfl rfl rfl (fun hc => ?_) (fun hc => ?_)
  · have h := h.1 hc
    refine w_iconst (v := 0) rfl rfl (by decide) ?_
    exact w_ireturn rfl rfl rfl h
  · have h := h.2 hc
    refine w_iload_n rfl rfl rfl ?_
    refine w_aload_n rfl rfl rfl ?_
    refine w_getI rfl rfl fl_Equations_24 rfl rfl ?_
    refine w_if_icmpge 35 rfl rfl rfl (fun hc => ?_) (fun hc => ?_)
    · have h := h.1 hc
      refine w_iconst (v := 0) rfl rfl (by decide) ?_
      exact w_ireturn rfl rfl rfl h
    · have h := h.2 hc
      refine w_iload_n rfl rfl rfl ?_
      refine w_iflt 35 rfl rfl rfl (fun hc => ?_) (fun hc => ?_)
      · have h := h.1 hc
        refine w_iconst (v := 0) rfl rfl (by decide) ?_
        exact w_ireturn rfl rfl rfl h
      · have h := h.2 hc
        refine w_iload_n rfl rfl rfl ?_
        refine w_iconst (v := 4) rfl rfl (by decide) ?_
        refine w_if_icmpge 35 rfl rfl rfl (fun hc => ?_) (fun hc => ?_)
        · have h := h.1 hc
          refine w_iconst (v := 0) rfl rfl (by decide) ?_
          exact w_ireturn rfl rfl rfl h
        · have h := h.2 hc
          refine w_aload_n rfl rfl rfl ?_
          refine w_getR rfl rfl fl_Equations_11 rfl rfl ?_
          refine w_iload_n rfl rfl rfl ?_
          refine w_aaload (ty := .array .int) rfl rfl rfl (fun _ => rfl) rfl h.1 ?_
          have h := h.2
          refine w_bipush (v := 12) rfl rfl (by decide) ?_
          refine w_iload_n rfl rfl rfl ?_
          refine w_iadd rfl rfl ?_
          have hz := h.1
          have h := h.2
          refine w_iaload rfl rfl hz h.1 ?_
          have h := h.2
          refine w_goto 36 rfl rfl rfl ?_
          exact w_ireturn rfl rfl rfl h

theorem f_Equations_resultOf {G : px_G} {d : Nat} {x1 x2 : Int32} {S : px_S} {Q : Option Value → px_S → Prop}
    (h : ((x1 < 0 → Q (some (.int 0)) S) ∧ (¬ (x1 < 0) → (((S 30 3) ≤ x1 → Q (some (.int 0)) S) ∧ (¬ ((S 30 3) ≤ x1) → ((x2 < 0 → Q (some (.int 0)) S) ∧ (¬ (x2 < 0) → ((4 ≤ x2 → Q (some (.int 0)) S) ∧ (¬ (4 ≤ x2) → (vp_in x1 12 ∧ (px_Zc[(px_re.getD x1.toNatClampNeg 0)]? = some (.inl 16) ∧ (vp_in (12 + x2) 16 ∧ Q (some (.int (S (px_re.getD x1.toNatClampNeg 0) (12 + x2).toNatClampNeg))) S)))))))))))) :
    px_M G px_Zc d m_Equations_resultOf [.ref 30, .int x1, .int x2] S Q :=
  px_in (Or.inr ⟨_, _, _, _, _, rfl, rfl, rfl, rfl⟩) (by decide) (Nat.le_of_ble_eq_true rfl) (px_en 0 rfl) (e_Equations_resultOf_0 h)

set_option maxRecDepth 100000 in
theorem e_Equations_addMultiple_0 {G : px_G} {d : Nat} {x1 x2 x3 : Int32} {S : px_S} {Q : Option Value → px_S → Prop}
    (h : ((¬ x3 = 0 → px_w G px_Zc (d + 1) m_Equations_addMultiple 8 [.ref 30, .int x1, .int x2, .int x3, .int 0] [] S Q) ∧ (x3 = 0 → Q none S))) :
    px_w G px_Zc (d + 1) m_Equations_addMultiple 0 [.ref 30, .int x1, .int x2, .int x3, .null] [] S Q := by
  refine w_iload_n rfl rfl rfl ?_
  refine w_ifne 5 rfl rfl rfl (fun hc => ?_) (fun hc => ?_)
  · have h := h.1 hc
    refine w_iconst (v := 0) rfl rfl (by decide) ?_
    refine w_istore _ rfl rfl (by decide) rfl rfl ?_
    exact h
  · have h := h.2 hc
    exact w_return rfl rfl rfl h

set_option maxRecDepth 100000 in
theorem e_Equations_addMultiple_8 {G : px_G} {d : Nat} {x1 x2 x3 x4 : Int32} {S : px_S} {Q : Option Value → px_S → Prop}
    (h : ((16 ≤ x4 → Q none S) ∧ (¬ (16 ≤ x4) → ((x4 < (S 30 2) → px_w G px_Zc (d + 1) m_Equations_addMultiple 31 [.ref 30, .int x1, .int x2, .int x3, .int x4] [] S Q) ∧ (¬ (x4 < (S 30 2)) → ((x4 < 12 → px_w G px_Zc (d + 1) m_Equations_addMultiple 8 [.ref 30, .int x1, .int x2, .int x3, .int (x4 + 1)] [] S Q) ∧ (¬ (x4 < 12) → px_w G px_Zc (d + 1) m_Equations_addMultiple 31 [.ref 30, .int x1, .int x2, .int x3, .int x4] [] S Q))))))) :
    px_w G px_Zc (d + 1) m_Equations_addMultiple 8 [.ref 30, .int x1, .int x2, .int x3, .int x4] [] S Q := by
  refine w_iload rfl rfl rfl ?_
  refine w_bipush (v := 16) rfl rfl (by decide) ?_
  refine w_if_icmpge 62 rfl rfl rfl (fun hc => ?_) (fun hc => ?_)
  · have h := h.1 hc
    exact w_return rfl rfl rfl h
  · have h := h.2 hc
    refine w_iload rfl rfl rfl ?_
    refine w_aload_n rfl rfl rfl ?_
    refine w_getI rfl rfl fl_Equations_20 rfl rfl ?_
    refine w_if_icmplt 31 rfl rfl rfl (fun hc => ?_) (fun hc => ?_)
    · have h := h.1 hc
      exact h
    · have h := h.2 hc
      refine w_iload rfl rfl rfl ?_
      refine w_bipush (v := 12) rfl rfl (by decide) ?_
      refine w_if_icmplt 56 rfl rfl rfl (fun hc => ?_) (fun hc => ?_)
      · have h := h.1 hc
        refine w_iinc (v := 1) _ rfl rfl (by decide) rfl rfl (by decide) rfl ?_
        refine w_goto 8 rfl rfl rfl ?_
        exact h
      · have h := h.2 hc
        exact h

set_option maxRecDepth 100000 in
theorem e_Equations_addMultiple_31 {G : px_G} {d : Nat} {x1 x2 x3 x4 : Int32} {S : px_S} {Q : Option Value → px_S → Prop}
    (h : (vp_in x1 12 ∧ (px_Zc[(px_re.getD x1.toNatClampNeg 0)]? = some (.inl 16) ∧ (vp_in x4 16 ∧ (vp_in x2 12 ∧ (px_Zc[(px_re.getD x2.toNatClampNeg 0)]? = some (.inl 16) ∧ (vp_in x4 16 ∧ px_I G px_Zc d m_Field_times [.int x3, .int (S (px_re.getD x2.toNatClampNeg 0) x4.toNatClampNeg)] S (fun r2 S1 => (px_Zc[(px_re.getD x1.toNatClampNeg 0)]? = some (.inl 16) ∧ (vp_in x4 16 ∧ (∀ S3 : px_S, S3 = (px_u S1 (px_re.getD x1.toNatClampNeg 0) x4.toNatClampNeg ((S (px_re.getD x1.toNatClampNeg 0) x4.toNatClampNeg) ^^^ r2)) → px_w G px_Zc (d + 1) m_Equations_addMultiple 8 [.ref 30, .int x1, .int x2, .int x3, .int (x4 + 1)] [] S3 Q))))))))))) :
    px_w G px_Zc (d + 1) m_Equations_addMultiple 31 [.ref 30, .int x1, .int x2, .int x3, .int x4] [] S Q := by
  refine w_aload_n rfl rfl rfl ?_
  refine w_getR rfl rfl fl_Equations_11 rfl rfl ?_
  refine w_iload_n rfl rfl rfl ?_
  refine w_aaload (ty := .array .int) rfl rfl rfl (fun _ => rfl) rfl h.1 ?_
  have h := h.2
  refine w_iload rfl rfl rfl ?_
  refine w_dup2 rfl rfl rfl rfl ?_
  have hz := h.1
  have h := h.2
  refine w_iaload rfl rfl hz h.1 ?_
  have h := h.2
  refine w_iload_n rfl rfl rfl ?_
  refine w_aload_n rfl rfl rfl ?_
  refine w_getR rfl rfl fl_Equations_11 rfl rfl ?_
  refine w_iload_n rfl rfl rfl ?_
  refine w_aaload (ty := .array .int) rfl rfl rfl (fun _ => rfl) rfl h.1 ?_
  have h := h.2
  refine w_iload rfl rfl rfl ?_
  have hz := h.1
  have h := h.2
  refine w_iaload rfl rfl hz h.1 ?_
  have h := h.2
  refine w_callI h cs_Equations_addMultiple_51 rfl rfl (Nat.le_of_ble_eq_true rfl) rfl (fun r2 S1 h => ?_)
  refine w_ixor rfl rfl ?_
  have hz := h.1
  have h := h.2
  refine w_iastore rfl rfl hz h.1 ?_
  have h := h.2
  have h := h _ rfl
  refine w_iinc (v := 1) _ rfl rfl (by decide) rfl rfl (by decide) rfl ?_
  refine w_goto 8 rfl rfl rfl ?_
  exact h

theorem f_Equations_addMultiple {G : px_G} {d : Nat} {x1 x2 x3 : Int32} {S : px_S} {Q : Option Value → px_S → Prop}
    (h : ((¬ x3 = 0 → px_w G px_Zc (d + 1) m_Equations_addMultiple 8 [.ref 30, .int x1, .int x2, .int x3, .int 0] [] S Q) ∧ (x3 = 0 → Q none S))) :
    px_M G px_Zc (d + 1) m_Equations_addMultiple [.ref 30, .int x1, .int x2, .int x3] S Q :=
  px_in (Or.inr ⟨_, _, _, _, _, rfl, rfl, rfl, rfl⟩) (by decide) (Nat.le_of_ble_eq_true rfl) (px_en 1 rfl) (e_Equations_addMultiple_0 h)

set_option maxRecDepth 100000 in
theorem e_Equations_scale_0 {G : px_G} {d : Nat} {x1 x2 : Int32} {S : px_S} {Q : Option Value → px_S → Prop}
    (h : px_w G px_Zc (d + 1) m_Equations_scale 2 [.ref 30, .int x1, .int x2, .int 0] [] S Q) :
    px_w G px_Zc (d + 1) m_Equations_scale 0 [.ref 30, .int x1, .int x2, .null] [] S Q := by
  refine w_iconst (v := 0) rfl rfl (by decide) ?_
  refine w_istore_n _ rfl rfl (by decide) rfl rfl ?_
  exact h

set_option maxRecDepth 100000 in
theorem e_Equations_scale_2 {G : px_G} {d : Nat} {x1 x2 x3 : Int32} {S : px_S} {Q : Option Value → px_S → Prop}
    (h : ((16 ≤ x3 → Q none S) ∧ (¬ (16 ≤ x3) → ((x3 < (S 30 2) → (vp_in x1 12 ∧ (vp_in x1 12 ∧ (px_Zc[(px_re.getD x1.toNatClampNeg 0)]? = some (.inl 16) ∧ (vp_in x3 16 ∧ px_I G px_Zc d m_Field_times [.int x2, .int (S (px_re.getD x1.toNatClampNeg 0) x3.toNatClampNeg)] S (fun r2 S1 => (px_Zc[(px_re.getD x1.toNatClampNeg 0)]? = some (.inl 16) ∧ (vp_in x3 16 ∧ px_w G px_Zc (d + 1) m_Equations_scale 2 [.ref 30, .int x1, .int x2, .int (x3 + 1)] [] (px_u S1 (px_re.getD x1.toNatClampNeg 0) x3.toNatClampNeg r2) Q)))))))) ∧ (¬ (x3 < (S 30 2)) → ((x3 < 12 → px_w G px_Zc (d + 1) m_Equations_scale 2 [.ref 30, .int x1, .int x2, .int (x3 + 1)] [] S Q) ∧ (¬ (x3 < 12) → (vp_in x1 12 ∧ (vp_in x1 12 ∧ (px_Zc[(px_re.getD x1.toNatClampNeg 0)]? = some (.inl 16) ∧ (vp_in x3 16 ∧ px_I G px_Zc d m_Field_times [.int x2, .int (S (px_re.getD x1.toNatClampNeg 0) x3.toNatClampNeg)] S (fun r4 S3 => (px_Zc[(px_re.getD x1.toNatClampNeg 0)]? = some (.inl 16) ∧ (vp_in x3 16 ∧ px_w G px_Zc (d + 1) m_Equations_scale 2 [.ref 30, .int x1, .int x2, .int (x3 + 1)] [] (px_u S3 (px_re.getD x1.toNatClampNeg 0) x3.toNatClampNeg r4) Q)))))))))))))) :
    px_w G px_Zc (d + 1) m_Equations_scale 2 [.ref 30, .int x1, .int x2, .int x3] [] S Q := by
  refine w_iload_n rfl rfl rfl ?_
  refine w_bipush (v := 16) rfl rfl (by decide) ?_
  refine w_if_icmpge 48 rfl rfl rfl (fun hc => ?_) (fun hc => ?_)
  · have h := h.1 hc
    exact w_return rfl rfl rfl h
  · have h := h.2 hc
    refine w_iload_n rfl rfl rfl ?_
    refine w_aload_n rfl rfl rfl ?_
    refine w_getI rfl rfl fl_Equations_20 rfl rfl ?_
    refine w_if_icmplt 22 rfl rfl rfl (fun hc => ?_) (fun hc => ?_)
    · have h := h.1 hc
      refine w_aload_n rfl rfl rfl ?_
      refine w_getR rfl rfl fl_Equations_11 rfl rfl ?_
      refine w_iload_n rfl rfl rfl ?_
      refine w_aaload (ty := .array .int) rfl rfl rfl (fun _ => rfl) rfl h.1 ?_
      have h := h.2
      refine w_iload_n rfl rfl rfl ?_
      refine w_iload_n rfl rfl rfl ?_
      refine w_aload_n rfl rfl rfl ?_
      refine w_getR rfl rfl fl_Equations_11 rfl rfl ?_
      refine w_iload_n rfl rfl rfl ?_
      refine w_aaload (ty := .array .int) rfl rfl rfl (fun _ => rfl) rfl h.1 ?_
      have h := h.2
      refine w_iload_n rfl rfl rfl ?_
      have hz := h.1
      have h := h.2
      refine w_iaload rfl rfl hz h.1 ?_
      have h := h.2
      refine w_callI h cs_Equations_scale_38 rfl rfl (Nat.le_of_ble_eq_true rfl) rfl (fun r2 S1 h => ?_)
      have hz := h.1
      have h := h.2
      refine w_iastore rfl rfl hz h.1 ?_
      have h := h.2
      refine w_iinc (v := 1) _ rfl rfl (by decide) rfl rfl (by decide) rfl ?_
      refine w_goto 2 rfl rfl rfl ?_
      exact h
    · have h := h.2 hc
      refine w_iload_n rfl rfl rfl ?_
      refine w_bipush (v := 12) rfl rfl (by decide) ?_
      refine w_if_icmplt 42 rfl rfl rfl (fun hc => ?_) (fun hc => ?_)
      · have h := h.1 hc
        refine w_iinc (v := 1) _ rfl rfl (by decide) rfl rfl (by decide) rfl ?_
        refine w_goto 2 rfl rfl rfl ?_
        exact h
      · have h := h.2 hc
        refine w_aload_n rfl rfl rfl ?_
        refine w_getR rfl rfl fl_Equations_11 rfl rfl ?_
        refine w_iload_n rfl rfl rfl ?_
        refine w_aaload (ty := .array .int) rfl rfl rfl (fun _ => rfl) rfl h.1 ?_
        have h := h.2
        refine w_iload_n rfl rfl rfl ?_
        refine w_iload_n rfl rfl rfl ?_
        refine w_aload_n rfl rfl rfl ?_
        refine w_getR rfl rfl fl_Equations_11 rfl rfl ?_
        refine w_iload_n rfl rfl rfl ?_
        refine w_aaload (ty := .array .int) rfl rfl rfl (fun _ => rfl) rfl h.1 ?_
        have h := h.2
        refine w_iload_n rfl rfl rfl ?_
        have hz := h.1
        have h := h.2
        refine w_iaload rfl rfl hz h.1 ?_
        have h := h.2
        refine w_callI h cs_Equations_scale_38 rfl rfl (Nat.le_of_ble_eq_true rfl) rfl (fun r4 S3 h => ?_)
        have hz := h.1
        have h := h.2
        refine w_iastore rfl rfl hz h.1 ?_
        have h := h.2
        refine w_iinc (v := 1) _ rfl rfl (by decide) rfl rfl (by decide) rfl ?_
        refine w_goto 2 rfl rfl rfl ?_
        exact h

theorem f_Equations_scale {G : px_G} {d : Nat} {x1 x2 : Int32} {S : px_S} {Q : Option Value → px_S → Prop}
    (h : px_w G px_Zc (d + 1) m_Equations_scale 2 [.ref 30, .int x1, .int x2, .int 0] [] S Q) :
    px_M G px_Zc (d + 1) m_Equations_scale [.ref 30, .int x1, .int x2] S Q :=
  px_in (Or.inr ⟨_, _, _, _, _, rfl, rfl, rfl, rfl⟩) (by decide) (Nat.le_of_ble_eq_true rfl) (px_en 1 rfl) (e_Equations_scale_0 h)

set_option maxRecDepth 100000 in
theorem e_Mender_damagedCount_0 {G : px_G} {d : Nat} {S : px_S} {Q : Option Value → px_S → Prop}
    (h : Q (some (.int (S 29 5))) S) :
    px_w G px_Zc d m_Mender_damagedCount 0 [.ref 29] [] S Q := by
  refine w_aload_n rfl rfl rfl ?_
  refine w_getI rfl rfl fl_Mender_34 rfl rfl ?_
  exact w_ireturn rfl rfl rfl h

theorem f_Mender_damagedCount {G : px_G} {d : Nat} {S : px_S} {Q : Option Value → px_S → Prop}
    (h : Q (some (.int (S 29 5))) S) :
    px_M G px_Zc d m_Mender_damagedCount [.ref 29] S Q :=
  px_in (Or.inr ⟨_, _, _, _, _, rfl, rfl, rfl, rfl⟩) (by decide) (Nat.le_of_ble_eq_true rfl) (px_en 0 rfl) (e_Mender_damagedCount_0 h)

set_option maxRecDepth 100000 in
theorem e_Mender_damagedBits_0 {G : px_G} {d : Nat} {S : px_S} {Q : Option Value → px_S → Prop}
    (h : Q (some (.int (S 29 6))) S) :
    px_w G px_Zc d m_Mender_damagedBits 0 [.ref 29] [] S Q := by
  refine w_aload_n rfl rfl rfl ?_
  refine w_getI rfl rfl fl_Mender_38 rfl rfl ?_
  exact w_ireturn rfl rfl rfl h

theorem f_Mender_damagedBits {G : px_G} {d : Nat} {S : px_S} {Q : Option Value → px_S → Prop}
    (h : Q (some (.int (S 29 6))) S) :
    px_M G px_Zc d m_Mender_damagedBits [.ref 29] S Q :=
  px_in (Or.inr ⟨_, _, _, _, _, rfl, rfl, rfl, rfl⟩) (by decide) (Nat.le_of_ble_eq_true rfl) (px_en 0 rfl) (e_Mender_damagedBits_0 h)

set_option maxRecDepth 100000 in
theorem e_Mender_examine_0 {G : px_G} {d : Nat} {S : px_S} {Q : Option Value → px_S → Prop}
    (h : px_V G px_Zc d m_Slices_clear [.ref 12] (px_u (px_u S 29 5 0) 29 6 0) (fun S1 => px_I G px_Zc d m_Catalog_fileCount [.ref 24] S1 (fun r3 S2 => px_w G px_Zc (d + 1) m_Mender_examine 32 [.ref 29, .ref 3, .int (px_min r3 3), .int 0, .null, .null, .null] [] S2 Q))) :
    px_w G px_Zc (d + 1) m_Mender_examine 0 [.ref 29, .ref 3, .null, .null, .null, .null, .null] [] S Q := by
  refine w_aload_n rfl rfl rfl ?_
  refine w_iconst (v := 0) rfl rfl (by decide) ?_
  refine w_put rfl rfl fl_Mender_34 fw_Mender_5 rfl rfl ?_
  refine w_aload_n rfl rfl rfl ?_
  refine w_iconst (v := 0) rfl rfl (by decide) ?_
  refine w_put rfl rfl fl_Mender_38 fw_Mender_6 rfl rfl ?_
  refine w_aload_n rfl rfl rfl ?_
  refine w_getR rfl rfl fl_Mender_15 rfl rfl ?_
  refine w_callV h cs_Mender_examine_14 rfl rfl (Nat.le_of_ble_eq_true rfl) rfl (fun S1 h => ?_)
  refine w_aload_n rfl rfl rfl ?_
  refine w_getR rfl rfl fl_Mender_9 rfl rfl ?_
  refine w_callI h cs_Mender_examine_21 rfl rfl (Nat.le_of_ble_eq_true rfl) rfl (fun r3 S2 h => ?_)
  refine w_aload_n rfl rfl rfl ?_
  refine w_alenR (v := 3) (ty := .object "ParityVolume$Row") rfl rfl rfl (fun _ => rfl) (by decide) ?_
  refine w_min rfl rfl px_mnM (Nat.le_of_ble_eq_true rfl) ?_
  refine w_istore_n _ rfl rfl (by decide) rfl rfl ?_
  refine w_iconst (v := 0) rfl rfl (by decide) ?_
  refine w_istore_n _ rfl rfl (by decide) rfl rfl ?_
  exact h

set_option maxRecDepth 100000 in
theorem e_Mender_examine_32 {G : px_G} {d : Nat} {x2 x3 : Int32} {S : px_S} {Q : Option Value → px_S → Prop}
    (h : ((x2 ≤ x3 → px_w G px_Zc (d + 1) m_Mender_examine 63 [.ref 29, .ref 3, .int x2, .int 0, .null, .null, .null] [] S Q) ∧ (¬ (x2 ≤ x3) → (vp_in x3 3 ∧ px_I G px_Zc d m_Catalog_toldSize [.ref 24, .int x3] S (fun r5 S4 => px_V G px_Zc d m_Slices_addFile [.ref 12, .ref (px_rf.getD x3.toNatClampNeg 0), .int r5] S4 (fun S6 => px_w G px_Zc (d + 1) m_Mender_examine 32 [.ref 29, .ref 3, .int x2, .int (x3 + 1), .null, .null, .null] [] S6 Q)))))) :
    px_w G px_Zc (d + 1) m_Mender_examine 32 [.ref 29, .ref 3, .int x2, .int x3, .null, .null, .null] [] S Q := by
  refine w_iload_n rfl rfl rfl ?_
  refine w_iload_n rfl rfl rfl ?_
  refine w_if_icmpge 61 rfl rfl rfl (fun hc => ?_) (fun hc => ?_)
  · have h := h.1 hc
    refine w_iconst (v := 0) rfl rfl (by decide) ?_
    refine w_istore_n _ rfl rfl (by decide) rfl rfl ?_
    exact h
  · have h := h.2 hc
    refine w_aload_n rfl rfl rfl ?_
    refine w_getR rfl rfl fl_Mender_15 rfl rfl ?_
    refine w_aload_n rfl rfl rfl ?_
    refine w_iload_n rfl rfl rfl ?_
    refine w_aaload (ty := .object "ParityVolume$Row") rfl rfl rfl (fun _ => rfl) rfl h.1 ?_
    have h := h.2
    refine w_aload_n rfl rfl rfl ?_
    refine w_getR rfl rfl fl_Mender_9 rfl rfl ?_
    refine w_iload_n rfl rfl rfl ?_
    refine w_callI h cs_Mender_examine_49 rfl rfl (Nat.le_of_ble_eq_true rfl) rfl (fun r5 S4 h => ?_)
    refine w_callV h cs_Mender_examine_52 rfl rfl (Nat.le_of_ble_eq_true rfl) rfl (fun S6 h => ?_)
    refine w_iinc (v := 1) _ rfl rfl (by decide) rfl rfl (by decide) rfl ?_
    refine w_goto 32 rfl rfl rfl ?_
    exact h

set_option maxRecDepth 100000 in
theorem e_Mender_examine_63 {G : px_G} {d : Nat} {x2 x3 : Int32} {S : px_S} {Q : Option Value → px_S → Prop}
    (h : ((x2 ≤ x3 → Q none S) ∧ (¬ (x2 ≤ x3) → px_I G px_Zc d m_Slices_size [.ref 12, .int x3] S (fun r8 S7 => px_I G px_Zc d m_PV_slicesOf [.int r8] S7 (fun r10 S9 => px_w G px_Zc (d + 1) m_Mender_examine 84 [.ref 29, .ref 3, .int x2, .int x3, .int r10, .int 0, .null] [] S9 Q))))) :
    px_w G px_Zc (d + 1) m_Mender_examine 63 [.ref 29, .ref 3, .int x2, .int x3, .null, .null, .null] [] S Q := by
  refine w_iload_n rfl rfl rfl ?_
  refine w_iload_n rfl rfl rfl ?_
  refine w_if_icmpge 147 rfl rfl rfl (fun hc => ?_) (fun hc => ?_)
  · have h := h.1 hc
    exact w_return rfl rfl rfl h
  · have h := h.2 hc
    refine w_aload_n rfl rfl rfl ?_
    refine w_getR rfl rfl fl_Mender_15 rfl rfl ?_
    refine w_iload_n rfl rfl rfl ?_
    refine w_callI h cs_Mender_examine_73 rfl rfl (Nat.le_of_ble_eq_true rfl) rfl (fun r8 S7 h => ?_)
    refine w_callI h cs_Mender_examine_76 rfl rfl (Nat.le_of_ble_eq_true rfl) rfl (fun r10 S9 h => ?_)
    refine w_istore _ rfl rfl (by decide) rfl rfl ?_
    refine w_iconst (v := 0) rfl rfl (by decide) ?_
    refine w_istore _ rfl rfl (by decide) rfl rfl ?_
    exact h

set_option maxRecDepth 100000 in
theorem e_Mender_examine_84 {G : px_G} {d : Nat} {x2 x3 x4 x5 : Int32} {S : px_S} {Q : Option Value → px_S → Prop}
    (h : ((x4 ≤ x5 → px_w G px_Zc (d + 1) m_Mender_examine 63 [.ref 29, .ref 3, .int x2, .int (x3 + 1), .null, .null, .null] [] S Q) ∧ (¬ (x4 ≤ x5) → px_I G px_Zc d m_Slices_start [.ref 12, .int x3] S (fun r12 S11 => px_I G px_Zc d m_Catalog_toldSlice [.ref 24, .int x3, .int x5] S11 (fun r14 S13 => px_I G px_Zc d m_Mender_isWhole [.ref 29, .int (r12 + (8 * x5)), .int r14] S13 (fun r16 S15 => ((¬ r16 = 0 → px_w G px_Zc (d + 1) m_Mender_examine 84 [.ref 29, .ref 3, .int x2, .int x3, .int x4, .int (x5 + 1), .null] [] S15 Q) ∧ (r16 = 0 → px_V G px_Zc d m_Mender_noteDamaged [.ref 29, .int ((r12 + (8 * x5)) / 8)] S15 (fun S17 => px_w G px_Zc (d + 1) m_Mender_examine 84 [.ref 29, .ref 3, .int x2, .int x3, .int x4, .int (x5 + 1), .null] [] S17 Q))))))))) :
    px_w G px_Zc (d + 1) m_Mender_examine 84 [.ref 29, .ref 3, .int x2, .int x3, .int x4, .int x5, .null] [] S Q := by
  refine w_iload rfl rfl rfl ?_
  refine w_iload rfl rfl rfl ?_
  refine w_if_icmpge 141 rfl rfl rfl (fun hc => ?_) (fun hc => ?_)
  · have h := h.1 hc
    refine w_iinc (v := 1) _ rfl rfl (by decide) rfl rfl (by decide) rfl ?_
    refine w_goto 63 rfl rfl rfl ?_
    refine w_null 4 _ rfl ?_
    refine w_null 5 _ rfl ?_
    exact h
  · have h := h.2 hc
    refine w_aload_n rfl rfl rfl ?_
    refine w_getR rfl rfl fl_Mender_15 rfl rfl ?_
    refine w_iload_n rfl rfl rfl ?_
    refine w_callI h cs_Mender_examine_96 rfl rfl (Nat.le_of_ble_eq_true rfl) rfl (fun r12 S11 h => ?_)
    refine w_bipush (v := 8) rfl rfl (by decide) ?_
    refine w_iload rfl rfl rfl ?_
    refine w_imul rfl rfl ?_
    refine w_iadd rfl rfl ?_
    refine w_istore _ rfl rfl (by decide) rfl rfl ?_
    refine w_aload_n rfl rfl rfl ?_
    refine w_iload rfl rfl rfl ?_
    refine w_aload_n rfl rfl rfl ?_
    refine w_getR rfl rfl fl_Mender_9 rfl rfl ?_
    refine w_iload_n rfl rfl rfl ?_
    refine w_iload rfl rfl rfl ?_
    refine w_callI h cs_Mender_examine_117 rfl rfl (Nat.le_of_ble_eq_true rfl) rfl (fun r14 S13 h => ?_)
    refine w_callI h cs_Mender_examine_120 rfl rfl (Nat.le_of_ble_eq_true rfl) rfl (fun r16 S15 h => ?_)
    refine w_ifne 135 rfl rfl rfl (fun hc => ?_) (fun hc => ?_)
    · have h := h.1 hc
      refine w_iinc (v := 1) _ rfl rfl (by decide) rfl rfl (by decide) rfl ?_
      refine w_goto 84 rfl rfl rfl ?_
      refine w_null 6 _ rfl ?_
      exact h
    · have h := h.2 hc
      refine w_aload_n rfl rfl rfl ?_
      refine w_iload rfl rfl rfl ?_
      refine w_bipush (v := 8) rfl rfl (by decide) ?_
      refine w_idiv rfl rfl (by decide) ?_
      refine w_callV h cs_Mender_examine_132 rfl rfl (Nat.le_of_ble_eq_true rfl) rfl (fun S17 h => ?_)
      refine w_iinc (v := 1) _ rfl rfl (by decide) rfl rfl (by decide) rfl ?_
      refine w_goto 84 rfl rfl rfl ?_
      refine w_null 6 _ rfl ?_
      exact h

theorem f_Mender_examine {G : px_G} {d : Nat} {S : px_S} {Q : Option Value → px_S → Prop}
    (h : px_V G px_Zc d m_Slices_clear [.ref 12] (px_u (px_u S 29 5 0) 29 6 0) (fun S1 => px_I G px_Zc d m_Catalog_fileCount [.ref 24] S1 (fun r3 S2 => px_w G px_Zc (d + 1) m_Mender_examine 32 [.ref 29, .ref 3, .int (px_min r3 3), .int 0, .null, .null, .null] [] S2 Q))) :
    px_M G px_Zc (d + 1) m_Mender_examine [.ref 29, .ref 3] S Q :=
  px_in (Or.inr ⟨_, _, _, _, _, rfl, rfl, rfl, rfl⟩) (by decide) (Nat.le_of_ble_eq_true rfl) (px_en 5 rfl) (e_Mender_examine_0 h)

set_option maxRecDepth 100000 in
theorem e_Mender_makeDamaged_0 {G : px_G} {d : Nat} {S : px_S} {Q : Option Value → px_S → Prop}
    (h : px_V G px_Zc d m_Equations_begin [.ref 30, .int (S 29 5)] S (fun S1 => px_w G px_Zc (d + 1) m_Mender_makeDamaged 13 [.ref 29, .int 0, .null] [] S1 Q)) :
    px_w G px_Zc (d + 1) m_Mender_makeDamaged 0 [.ref 29, .null, .null] [] S Q := by
  refine w_aload_n rfl rfl rfl ?_
  refine w_getR rfl rfl fl_Mender_26 rfl rfl ?_
  refine w_aload_n rfl rfl rfl ?_
  refine w_getI rfl rfl fl_Mender_34 rfl rfl ?_
  refine w_callV h cs_Mender_makeDamaged_8 rfl rfl (Nat.le_of_ble_eq_true rfl) rfl (fun S1 h => ?_)
  refine w_iconst (v := 0) rfl rfl (by decide) ?_
  refine w_istore_n _ rfl rfl (by decide) rfl rfl ?_
  exact h

set_option maxRecDepth 100000 in
theorem e_Mender_makeDamaged_13 {G : px_G} {d : Nat} {x1 : Int32} {S : px_S} {Q : Option Value → px_S → Prop}
    (h : ((256 ≤ x1 → px_I G px_Zc d m_Equations_enough [.ref 30] S (fun r3 S2 => ((¬ r3 = 0 → px_V G px_Zc d m_Equations_solve [.ref 30] S2 (fun S4 => px_w G px_Zc (d + 1) m_Mender_makeDamaged 73 [.ref 29, .int 0, .null] [] S4 Q)) ∧ (r3 = 0 → Q (some (.int 0)) S2)))) ∧ (¬ (256 ≤ x1) → px_I G px_Zc d m_Equations_enough [.ref 30] S (fun r6 S5 => ((¬ r6 = 0 → px_I G px_Zc d m_Equations_enough [.ref 30] S5 (fun r8 S7 => ((¬ r8 = 0 → px_V G px_Zc d m_Equations_solve [.ref 30] S7 (fun S9 => px_w G px_Zc (d + 1) m_Mender_makeDamaged 73 [.ref 29, .int 0, .null] [] S9 Q)) ∧ (r8 = 0 → Q (some (.int 0)) S7)))) ∧ (r6 = 0 → px_I G px_Zc d m_Catalog_hasRecovery [.ref 24, .int x1] S5 (fun r11 S10 => ((r11 = 0 → px_w G px_Zc (d + 1) m_Mender_makeDamaged 13 [.ref 29, .int (x1 + 1), .null] [] S10 Q) ∧ (¬ r11 = 0 → px_V G px_Zc d m_Mender_offerRecovery [.ref 29, .int x1] S10 (fun S12 => px_w G px_Zc (d + 1) m_Mender_makeDamaged 13 [.ref 29, .int (x1 + 1), .null] [] S12 Q)))))))))) :
    px_w G px_Zc (d + 1) m_Mender_makeDamaged 13 [.ref 29, .int x1, .null] [] S Q := by
  refine w_iload_n rfl rfl rfl ?_
  refine w_sipush (v := 256) rfl rfl (by decide) ?_
  refine w_if_icmpge 52 rfl rfl rfl (fun hc => ?_) (fun hc => ?_)
  · have h := h.1 hc
    refine w_aload_n rfl rfl rfl ?_
    refine w_getR rfl rfl fl_Mender_26 rfl rfl ?_
    refine w_callI h cs_Mender_makeDamaged_56 rfl rfl (Nat.le_of_ble_eq_true rfl) rfl (fun r3 S2 h => ?_)
    refine w_ifne 64 rfl rfl rfl (fun hc => ?_) (fun hc => ?_)
    · have h := h.1 hc
      refine w_aload_n rfl rfl rfl ?_
      refine w_getR rfl rfl fl_Mender_26 rfl rfl ?_
      refine w_callV h cs_Mender_makeDamaged_68 rfl rfl (Nat.le_of_ble_eq_true rfl) rfl (fun S4 h => ?_)
      refine w_iconst (v := 0) rfl rfl (by decide) ?_
      refine w_istore_n _ rfl rfl (by decide) rfl rfl ?_
      exact h
    · have h := h.2 hc
      refine w_iconst (v := 0) rfl rfl (by decide) ?_
      exact w_zreturn rfl rfl rfl (Or.inl rfl) h
  · have h := h.2 hc
    refine w_aload_n rfl rfl rfl ?_
    refine w_getR rfl rfl fl_Mender_26 rfl rfl ?_
    refine w_callI h cs_Mender_makeDamaged_24 rfl rfl (Nat.le_of_ble_eq_true rfl) rfl (fun r6 S5 h => ?_)
    refine w_ifne 52 rfl rfl rfl (fun hc => ?_) (fun hc => ?_)
    · have h := h.1 hc
      refine w_aload_n rfl rfl rfl ?_
      refine w_getR rfl rfl fl_Mender_26 rfl rfl ?_
      refine w_callI h cs_Mender_makeDamaged_56 rfl rfl (Nat.le_of_ble_eq_true rfl) rfl (fun r8 S7 h => ?_)
      refine w_ifne 64 rfl rfl rfl (fun hc => ?_) (fun hc => ?_)
      · have h := h.1 hc
        refine w_aload_n rfl rfl rfl ?_
        refine w_getR rfl rfl fl_Mender_26 rfl rfl ?_
        refine w_callV h cs_Mender_makeDamaged_68 rfl rfl (Nat.le_of_ble_eq_true rfl) rfl (fun S9 h => ?_)
        refine w_iconst (v := 0) rfl rfl (by decide) ?_
        refine w_istore_n _ rfl rfl (by decide) rfl rfl ?_
        exact h
      · have h := h.2 hc
        refine w_iconst (v := 0) rfl rfl (by decide) ?_
        exact w_zreturn rfl rfl rfl (Or.inl rfl) h
    · have h := h.2 hc
      refine w_aload_n rfl rfl rfl ?_
      refine w_getR rfl rfl fl_Mender_9 rfl rfl ?_
      refine w_iload_n rfl rfl rfl ?_
      refine w_callI h cs_Mender_makeDamaged_35 rfl rfl (Nat.le_of_ble_eq_true rfl) rfl (fun r11 S10 h => ?_)
      refine w_ifeq 46 rfl rfl rfl (fun hc => ?_) (fun hc => ?_)
      · have h := h.1 hc
        refine w_iinc (v := 1) _ rfl rfl (by decide) rfl rfl (by decide) rfl ?_
        refine w_goto 13 rfl rfl rfl ?_
        exact h
      · have h := h.2 hc
        refine w_aload_n rfl rfl rfl ?_
        refine w_iload_n rfl rfl rfl ?_
        refine w_callV h cs_Mender_makeDamaged_43 rfl rfl (Nat.le_of_ble_eq_true rfl) rfl (fun S12 h => ?_)
        refine w_iinc (v := 1) _ rfl rfl (by decide) rfl rfl (by decide) rfl ?_
        refine w_goto 13 rfl rfl rfl ?_
        exact h

set_option maxRecDepth 100000 in
theorem e_Mender_makeDamaged_73 {G : px_G} {d : Nat} {x1 : Int32} {S : px_S} {Q : Option Value → px_S → Prop}
    (h : px_I G px_Zc d m_Equations_takenCount [.ref 30] S (fun r14 S13 => ((r14 ≤ x1 → Q (some (.int 1)) S13) ∧ (¬ (r14 ≤ x1) → px_w G px_Zc (d + 1) m_Mender_makeDamaged 86 [.ref 29, .int x1, .int 0] [] S13 Q)))) :
    px_w G px_Zc (d + 1) m_Mender_makeDamaged 73 [.ref 29, .int x1, .null] [] S Q := by
  refine w_iload_n rfl rfl rfl ?_
  refine w_aload_n rfl rfl rfl ?_
  refine w_getR rfl rfl fl_Mender_26 rfl rfl ?_
  refine w_callI h cs_Mender_makeDamaged_78 rfl rfl (Nat.le_of_ble_eq_true rfl) rfl (fun r14 S13 h => ?_)
  refine w_if_icmpge 133 rfl rfl rfl (fun hc => ?_) (fun hc => ?_)
  · have h := h.1 hc
    refine w_iconst (v := 1) rfl rfl (by decide) ?_
    exact w_zreturn rfl rfl rfl (Or.inr rfl) h
  · have h := h.2 hc
    refine w_iconst (v := 0) rfl rfl (by decide) ?_
    refine w_istore_n _ rfl rfl (by decide) rfl rfl ?_
    exact h

set_option maxRecDepth 100000 in
theorem e_Mender_makeDamaged_86 {G : px_G} {d : Nat} {x1 x2 : Int32} {S : px_S} {Q : Option Value → px_S → Prop}
    (h : ((4 ≤ x2 → px_w G px_Zc (d + 1) m_Mender_makeDamaged 73 [.ref 29, .int (x1 + 1), .null] [] S Q) ∧ (¬ (4 ≤ x2) → px_I G px_Zc d m_Equations_unknownOf [.ref 30, .int x1] S (fun r16 S15 => (vp_in r16 12 ∧ px_I G px_Zc d m_Equations_resultOf [.ref 30, .int x1, .int x2] S15 (fun r18 S17 => px_V G px_Zc d m_Slices_setNumber [.ref 12, .int (S15 45 r16.toNatClampNeg), .int x2, .int r18] S17 (fun S19 => px_w G px_Zc (d + 1) m_Mender_makeDamaged 86 [.ref 29, .int x1, .int (x2 + 1)] [] S19 Q))))))) :
    px_w G px_Zc (d + 1) m_Mender_makeDamaged 86 [.ref 29, .int x1, .int x2] [] S Q := by
  refine w_iload_n rfl rfl rfl ?_
  refine w_iconst (v := 4) rfl rfl (by decide) ?_
  refine w_if_icmpge 127 rfl rfl rfl (fun hc => ?_) (fun hc => ?_)
  · have h := h.1 hc
    refine w_iinc (v := 1) _ rfl rfl (by decide) rfl rfl (by decide) rfl ?_
    refine w_goto 73 rfl rfl rfl ?_
    refine w_null 2 _ rfl ?_
    exact h
  · have h := h.2 hc
    refine w_aload_n rfl rfl rfl ?_
    refine w_getR rfl rfl fl_Mender_15 rfl rfl ?_
    refine w_aload_n rfl rfl rfl ?_
    refine w_getR rfl rfl fl_Mender_30 rfl rfl ?_
    refine w_aload_n rfl rfl rfl ?_
    refine w_getR rfl rfl fl_Mender_26 rfl rfl ?_
    refine w_iload_n rfl rfl rfl ?_
    refine w_callI h cs_Mender_makeDamaged_104 rfl rfl (Nat.le_of_ble_eq_true rfl) rfl (fun r16 S15 h => ?_)
    refine w_iaload rfl rfl rfl h.1 ?_
    have h := h.2
    refine w_iload_n rfl rfl rfl ?_
    refine w_aload_n rfl rfl rfl ?_
    refine w_getR rfl rfl fl_Mender_26 rfl rfl ?_
    refine w_iload_n rfl rfl rfl ?_
    refine w_iload_n rfl rfl rfl ?_
    refine w_callI h cs_Mender_makeDamaged_115 rfl rfl (Nat.le_of_ble_eq_true rfl) rfl (fun r18 S17 h => ?_)
    refine w_callV h cs_Mender_makeDamaged_118 rfl rfl (Nat.le_of_ble_eq_true rfl) rfl (fun S19 h => ?_)
    refine w_iinc (v := 1) _ rfl rfl (by decide) rfl rfl (by decide) rfl ?_
    refine w_goto 86 rfl rfl rfl ?_
    exact h

theorem f_Mender_makeDamaged {G : px_G} {d : Nat} {S : px_S} {Q : Option Value → px_S → Prop}
    (h : px_V G px_Zc d m_Equations_begin [.ref 30, .int (S 29 5)] S (fun S1 => px_w G px_Zc (d + 1) m_Mender_makeDamaged 13 [.ref 29, .int 0, .null] [] S1 Q)) :
    px_M G px_Zc (d + 1) m_Mender_makeDamaged [.ref 29] S Q :=
  px_in (Or.inr ⟨_, _, _, _, _, rfl, rfl, rfl, rfl⟩) (by decide) (Nat.le_of_ble_eq_true rfl) (px_en 2 rfl) (e_Mender_makeDamaged_0 h)

set_option maxRecDepth 100000 in
theorem e_Mender_filesAreAsTold_0 {G : px_G} {d : Nat} {S : px_S} {Q : Option Value → px_S → Prop}
    (h : px_w G px_Zc (d + 1) m_Mender_filesAreAsTold 2 [.ref 29, .int 0] [] S Q) :
    px_w G px_Zc (d + 1) m_Mender_filesAreAsTold 0 [.ref 29, .null] [] S Q := by
  refine w_iconst (v := 0) rfl rfl (by decide) ?_
  refine w_istore_n _ rfl rfl (by decide) rfl rfl ?_
  exact h

set_option maxRecDepth 100000 in
theorem e_Mender_filesAreAsTold_2 {G : px_G} {d : Nat} {x1 : Int32} {S : px_S} {Q : Option Value → px_S → Prop}
    (h : px_I G px_Zc d m_Slices_fileCount [.ref 12] S (fun r2 S1 => ((r2 ≤ x1 → Q (some (.int 1)) S1) ∧ (¬ (r2 ≤ x1) → px_R G px_Zc d m_Slices_row [.ref 12] S1 13 (fun S3 => px_I G px_Zc d m_Slices_start [.ref 12, .int x1] S3 (fun r5 S4 => px_I G px_Zc d m_Slices_size [.ref 12, .int x1] S4 (fun r7 S6 => px_V G px_Zc d m_Sum_of [.ref 18, .ref 13, .int r5, .int r7] S6 (fun S8 => px_I G px_Zc d m_Catalog_agreesWithSum [.ref 24, .int x1] S8 (fun r10 S9 => ((¬ r10 = 0 → px_w G px_Zc (d + 1) m_Mender_filesAreAsTold 2 [.ref 29, .int (x1 + 1)] [] S9 Q) ∧ (r10 = 0 → Q (some (.int 0)) S9))))))))))) :
    px_w G px_Zc (d + 1) m_Mender_filesAreAsTold 2 [.ref 29, .int x1] [] S Q := by
  refine w_iload_n rfl rfl rfl ?_
  refine w_aload_n rfl rfl rfl ?_
  refine w_getR rfl rfl fl_Mender_15 rfl rfl ?_
  refine w_callI h cs_Mender_filesAreAsTold_7 rfl rfl (Nat.le_of_ble_eq_true rfl) rfl (fun r2 S1 h => ?_)
  refine w_if_icmpge 62 rfl rfl rfl (fun hc => ?_) (fun hc => ?_)
  · have h := h.1 hc
    refine w_iconst (v := 1) rfl rfl (by decide) ?_
    exact w_zreturn rfl rfl rfl (Or.inr rfl) h
  · have h := h.2 hc
    refine w_aload_n rfl rfl rfl ?_
    refine w_getR rfl rfl fl_Mender_19 rfl rfl ?_
    refine w_aload_n rfl rfl rfl ?_
    refine w_getR rfl rfl fl_Mender_15 rfl rfl ?_
    refine w_callR h cs_Mender_filesAreAsTold_21 rfl rfl (Nat.le_of_ble_eq_true rfl) rfl (fun S3 h => ?_)
    refine w_aload_n rfl rfl rfl ?_
    refine w_getR rfl rfl fl_Mender_15 rfl rfl ?_
    refine w_iload_n rfl rfl rfl ?_
    refine w_callI h cs_Mender_filesAreAsTold_29 rfl rfl (Nat.le_of_ble_eq_true rfl) rfl (fun r5 S4 h => ?_)
    refine w_aload_n rfl rfl rfl ?_
    refine w_getR rfl rfl fl_Mender_15 rfl rfl ?_
    refine w_iload_n rfl rfl rfl ?_
    refine w_callI h cs_Mender_filesAreAsTold_37 rfl rfl (Nat.le_of_ble_eq_true rfl) rfl (fun r7 S6 h => ?_)
    refine w_callV h cs_Mender_filesAreAsTold_40 rfl rfl (Nat.le_of_ble_eq_true rfl) rfl (fun S8 h => ?_)
    refine w_aload_n rfl rfl rfl ?_
    refine w_getR rfl rfl fl_Mender_9 rfl rfl ?_
    refine w_iload_n rfl rfl rfl ?_
    refine w_callI h cs_Mender_filesAreAsTold_48 rfl rfl (Nat.le_of_ble_eq_true rfl) rfl (fun r10 S9 h => ?_)
    refine w_ifne 56 rfl rfl rfl (fun hc => ?_) (fun hc => ?_)
    · have h := h.1 hc
      refine w_iinc (v := 1) _ rfl rfl (by decide) rfl rfl (by decide) rfl ?_
      refine w_goto 2 rfl rfl rfl ?_
      exact h
    · have h := h.2 hc
      refine w_iconst (v := 0) rfl rfl (by decide) ?_
      exact w_zreturn rfl rfl rfl (Or.inl rfl) h

theorem f_Mender_filesAreAsTold {G : px_G} {d : Nat} {S : px_S} {Q : Option Value → px_S → Prop}
    (h : px_w G px_Zc (d + 1) m_Mender_filesAreAsTold 2 [.ref 29, .int 0] [] S Q) :
    px_M G px_Zc (d + 1) m_Mender_filesAreAsTold [.ref 29] S Q :=
  px_in (Or.inr ⟨_, _, _, _, _, rfl, rfl, rfl, rfl⟩) (by decide) (Nat.le_of_ble_eq_true rfl) (px_en 1 rfl) (e_Mender_filesAreAsTold_0 h)

set_option maxRecDepth 100000 in
theorem e_Mender_isWhole_0 {G : px_G} {d : Nat} {x1 x2 : Int32} {S : px_S} {Q : Option Value → px_S → Prop}
    (h : ((¬ x2 = (-1) → px_R G px_Zc d m_Slices_row [.ref 12] S 13 (fun S1 => px_I G px_Zc d m_Check_of [.ref 13, .int x1, .int 8] S1 (fun r3 S2 => px_w G px_Zc (d + 1) m_Mender_isWhole 24 [.ref 29, .int x1, .int x2, .int r3, .int 0] [] S2 Q))) ∧ (x2 = (-1) → Q (some (.int 0)) S))) :
    px_w G px_Zc (d + 1) m_Mender_isWhole 0 [.ref 29, .int x1, .int x2, .null, .null] [] S Q := by
  refine w_iload_n rfl rfl rfl ?_
  refine w_iconst (v := -1) rfl rfl (by decide) ?_
  refine w_if_icmpne 7 rfl rfl rfl (fun hc => ?_) (fun hc => ?_)
  · have h := h.1 hc
    refine w_aload_n rfl rfl rfl ?_
    refine w_getR rfl rfl fl_Mender_15 rfl rfl ?_
    refine w_callR h cs_Mender_isWhole_11 rfl rfl (Nat.le_of_ble_eq_true rfl) rfl (fun S1 h => ?_)
    refine w_iload_n rfl rfl rfl ?_
    refine w_bipush (v := 8) rfl rfl (by decide) ?_
    refine w_callI h cs_Mender_isWhole_17 rfl rfl (Nat.le_of_ble_eq_true rfl) rfl (fun r3 S2 h => ?_)
    refine w_istore_n _ rfl rfl (by decide) rfl rfl ?_
    refine w_iconst (v := 0) rfl rfl (by decide) ?_
    refine w_istore _ rfl rfl (by decide) rfl rfl ?_
    exact h
  · have h := h.2 hc
    refine w_iconst (v := 0) rfl rfl (by decide) ?_
    exact w_zreturn rfl rfl rfl (Or.inl rfl) h

set_option maxRecDepth 100000 in
theorem e_Mender_isWhole_24 {G : px_G} {d : Nat} {x1 x2 x3 x4 : Int32} {S : px_S} {Q : Option Value → px_S → Prop}
    (h : ((4 ≤ x4 → px_R G px_Zc d m_Slices_row [.ref 12] S 13 (fun S4 => px_V G px_Zc d m_Sum_of [.ref 18, .ref 13, .int x1, .int 8] S4 (fun S5 => px_R G px_Zc d m_Catalog_row [.ref 24] S5 10 (fun S6 => px_I G px_Zc d m_Sum_standsIn [.ref 18, .ref 10, .int (x2 + 4), .int 16] S6 (fun r8 S7 => ((r8 = 0 ∨ r8 = 1) ∧ Q (some (.int r8)) S7)))))) ∧ (¬ (4 ≤ x4) → px_R G px_Zc d m_Catalog_row [.ref 24] S 10 (fun S9 => px_I G px_Zc d m_Row_get [.ref 10, .int (x2 + x4)] S9 (fun r11 S10 => ((r11 = ((px_ushr x3 (8 * x4)) &&& 255) → px_w G px_Zc (d + 1) m_Mender_isWhole 24 [.ref 29, .int x1, .int x2, .int x3, .int (x4 + 1)] [] S10 Q) ∧ (¬ r11 = ((px_ushr x3 (8 * x4)) &&& 255) → Q (some (.int 0)) S10))))))) :
    px_w G px_Zc (d + 1) m_Mender_isWhole 24 [.ref 29, .int x1, .int x2, .int x3, .int x4] [] S Q := by
  refine w_iload rfl rfl rfl ?_
  refine w_iconst (v := 4) rfl rfl (by decide) ?_
  refine w_if_icmpge 66 rfl rfl rfl (fun hc => ?_) (fun hc => ?_)
  · have h := h.1 hc
    refine w_aload_n rfl rfl rfl ?_
    refine w_getR rfl rfl fl_Mender_19 rfl rfl ?_
    refine w_aload_n rfl rfl rfl ?_
    refine w_getR rfl rfl fl_Mender_15 rfl rfl ?_
    refine w_callR h cs_Mender_isWhole_74 rfl rfl (Nat.le_of_ble_eq_true rfl) rfl (fun S4 h => ?_)
    refine w_iload_n rfl rfl rfl ?_
    refine w_bipush (v := 8) rfl rfl (by decide) ?_
    refine w_callV h cs_Mender_isWhole_80 rfl rfl (Nat.le_of_ble_eq_true rfl) rfl (fun S5 h => ?_)
    refine w_aload_n rfl rfl rfl ?_
    refine w_getR rfl rfl fl_Mender_19 rfl rfl ?_
    refine w_aload_n rfl rfl rfl ?_
    refine w_getR rfl rfl fl_Mender_9 rfl rfl ?_
    refine w_callR h cs_Mender_isWhole_91 rfl rfl (Nat.le_of_ble_eq_true rfl) rfl (fun S6 h => ?_)
    refine w_iload_n rfl rfl rfl ?_
    refine w_iconst (v := 4) rfl rfl (by decide) ?_
    refine w_iadd rfl rfl ?_
    refine w_bipush (v := 16) rfl rfl (by decide) ?_
    refine w_callI h cs_Mender_isWhole_99 rfl rfl (Nat.le_of_ble_eq_true rfl) rfl (fun r8 S7 h => ?_)
    exact w_zreturn rfl rfl rfl h.1 h.2
  · have h := h.2 hc
    refine w_aload_n rfl rfl rfl ?_
    refine w_getR rfl rfl fl_Mender_9 rfl rfl ?_
    refine w_callR h cs_Mender_isWhole_34 rfl rfl (Nat.le_of_ble_eq_true rfl) rfl (fun S9 h => ?_)
    refine w_iload_n rfl rfl rfl ?_
    refine w_iload rfl rfl rfl ?_
    refine w_iadd rfl rfl ?_
    refine w_callI h cs_Mender_isWhole_41 rfl rfl (Nat.le_of_ble_eq_true rfl) rfl (fun r11 S10 h => ?_)
    refine w_iload_n rfl rfl rfl ?_
    refine w_bipush (v := 8) rfl rfl (by decide) ?_
    refine w_iload rfl rfl rfl ?_
    refine w_imul rfl rfl ?_
    refine w_iushr rfl rfl ?_
    refine w_sipush (v := 255) rfl rfl (by decide) ?_
    refine w_iand rfl rfl ?_
    refine w_if_icmpeq 60 rfl rfl rfl (fun hc => ?_) (fun hc => ?_)
    · have h := h.1 hc
      refine w_iinc (v := 1) _ rfl rfl (by decide) rfl rfl (by decide) rfl ?_
      refine w_goto 24 rfl rfl rfl ?_
      exact h
    · have h := h.2 hc
      refine w_iconst (v := 0) rfl rfl (by decide) ?_
      exact w_zreturn rfl rfl rfl (Or.inl rfl) h

theorem f_Mender_isWhole {G : px_G} {d : Nat} {x1 x2 : Int32} {S : px_S} {Q : Option Value → px_S → Prop}
    (h : ((¬ x2 = (-1) → px_R G px_Zc d m_Slices_row [.ref 12] S 13 (fun S1 => px_I G px_Zc d m_Check_of [.ref 13, .int x1, .int 8] S1 (fun r3 S2 => px_w G px_Zc (d + 1) m_Mender_isWhole 24 [.ref 29, .int x1, .int x2, .int r3, .int 0] [] S2 Q))) ∧ (x2 = (-1) → Q (some (.int 0)) S))) :
    px_M G px_Zc (d + 1) m_Mender_isWhole [.ref 29, .int x1, .int x2] S Q :=
  px_in (Or.inr ⟨_, _, _, _, _, rfl, rfl, rfl, rfl⟩) (by decide) (Nat.le_of_ble_eq_true rfl) (px_en 2 rfl) (e_Mender_isWhole_0 h)

set_option maxRecDepth 100000 in
theorem e_Mender_noteDamaged_0 {G : px_G} {d : Nat} {x1 : Int32} {S : px_S} {Q : Option Value → px_S → Prop}
    (h : ((12 ≤ (S 29 5) → Q none S) ∧ (¬ (12 ≤ (S 29 5)) → (vp_in (S 29 5) 12 ∧ (∀ S1 : px_S, S1 = (px_u (px_u S 45 (S 29 5).toNatClampNeg x1) 29 5 (((px_u S 45 (S 29 5).toNatClampNeg x1) 29 5) + 1)) → Q none (px_u S1 29 6 ((S1 29 6) ||| (px_shl 1 x1)))))))) :
    px_w G px_Zc d m_Mender_noteDamaged 0 [.ref 29, .int x1] [] S Q := by
  refine w_aload_n rfl rfl rfl ?_
  refine w_getI rfl rfl fl_Mender_34 rfl rfl ?_
  refine w_bipush (v := 12) rfl rfl (by decide) ?_
  refine w_if_icmpge 41 rfl rfl rfl (fun hc => ?_) (fun hc => ?_)
  · have h := h.1 hc
    exact w_return rfl rfl rfl h
  · have h := h.2 hc
    refine w_aload_n rfl rfl rfl ?_
    refine w_getR rfl rfl fl_Mender_30 rfl rfl ?_
    refine w_aload_n rfl rfl rfl ?_
    refine w_getI rfl rfl fl_Mender_34 rfl rfl ?_
    refine w_iload_n rfl rfl rfl ?_
    refine w_iastore rfl rfl rfl h.1 ?_
    have h := h.2
    refine w_aload_n rfl rfl rfl ?_
    refine w_dup rfl rfl rfl ?_
    refine w_getI rfl rfl fl_Mender_34 rfl rfl ?_
    refine w_iconst (v := 1) rfl rfl (by decide) ?_
    refine w_iadd rfl rfl ?_
    refine w_put rfl rfl fl_Mender_34 fw_Mender_5 rfl rfl ?_
    have h := h _ rfl
    refine w_aload_n rfl rfl rfl ?_
    refine w_dup rfl rfl rfl ?_
    refine w_getI rfl rfl fl_Mender_38 rfl rfl ?_
    refine w_iconst (v := 1) rfl rfl (by decide) ?_
    refine w_iload_n rfl rfl rfl ?_
    refine w_ishl rfl rfl ?_
    refine w_ior rfl rfl ?_
    refine w_put rfl rfl fl_Mender_38 fw_Mender_6 rfl rfl ?_
    exact w_return rfl rfl rfl h

theorem f_Mender_noteDamaged {G : px_G} {d : Nat} {x1 : Int32} {S : px_S} {Q : Option Value → px_S → Prop}
    (h : ((12 ≤ (S 29 5) → Q none S) ∧ (¬ (12 ≤ (S 29 5)) → (vp_in (S 29 5) 12 ∧ (∀ S1 : px_S, S1 = (px_u (px_u S 45 (S 29 5).toNatClampNeg x1) 29 5 (((px_u S 45 (S 29 5).toNatClampNeg x1) 29 5) + 1)) → Q none (px_u S1 29 6 ((S1 29 6) ||| (px_shl 1 x1)))))))) :
    px_M G px_Zc d m_Mender_noteDamaged [.ref 29, .int x1] S Q :=
  px_in (Or.inr ⟨_, _, _, _, _, rfl, rfl, rfl, rfl⟩) (by decide) (Nat.le_of_ble_eq_true rfl) (px_en 0 rfl) (e_Mender_noteDamaged_0 h)

set_option maxRecDepth 100000 in
theorem e_Mender_offerRecovery_0 {G : px_G} {d : Nat} {x1 : Int32} {S : px_S} {Q : Option Value → px_S → Prop}
    (h : px_w G px_Zc (d + 1) m_Mender_offerRecovery 2 [.ref 29, .int x1, .int 0] [] S Q) :
    px_w G px_Zc (d + 1) m_Mender_offerRecovery 0 [.ref 29, .int x1, .null] [] S Q := by
  refine w_iconst (v := 0) rfl rfl (by decide) ?_
  refine w_istore_n _ rfl rfl (by decide) rfl rfl ?_
  exact h

set_option maxRecDepth 100000 in
theorem e_Mender_offerRecovery_2 {G : px_G} {d : Nat} {x1 x2 : Int32} {S : px_S} {Q : Option Value → px_S → Prop}
    (h : (((S 29 5) ≤ x2 → px_V G px_Zc d m_Slices_weigh [.ref 12, .int x1, .int (S 29 6)] S (fun S1 => px_w G px_Zc (d + 1) m_Mender_offerRecovery 48 [.ref 29, .int x1, .int 0] [] S1 Q)) ∧ (¬ ((S 29 5) ≤ x2) → (vp_in x2 12 ∧ px_I G px_Zc d m_Field_basePower [.int (S 45 x2.toNatClampNeg), .int x1] S (fun r3 S2 => px_V G px_Zc d m_Equations_offerFactor [.ref 30, .int x2, .int r3] S2 (fun S4 => px_w G px_Zc (d + 1) m_Mender_offerRecovery 2 [.ref 29, .int x1, .int (x2 + 1)] [] S4 Q)))))) :
    px_w G px_Zc (d + 1) m_Mender_offerRecovery 2 [.ref 29, .int x1, .int x2] [] S Q := by
  refine w_iload_n rfl rfl rfl ?_
  refine w_aload_n rfl rfl rfl ?_
  refine w_getI rfl rfl fl_Mender_34 rfl rfl ?_
  refine w_if_icmpge 34 rfl rfl rfl (fun hc => ?_) (fun hc => ?_)
  · have h := h.1 hc
    refine w_aload_n rfl rfl rfl ?_
    refine w_getR rfl rfl fl_Mender_15 rfl rfl ?_
    refine w_iload_n rfl rfl rfl ?_
    refine w_aload_n rfl rfl rfl ?_
    refine w_getI rfl rfl fl_Mender_38 rfl rfl ?_
    refine w_callV h cs_Mender_offerRecovery_43 rfl rfl (Nat.le_of_ble_eq_true rfl) rfl (fun S1 h => ?_)
    refine w_iconst (v := 0) rfl rfl (by decide) ?_
    refine w_istore_n _ rfl rfl (by decide) rfl rfl ?_
    exact h
  · have h := h.2 hc
    refine w_aload_n rfl rfl rfl ?_
    refine w_getR rfl rfl fl_Mender_26 rfl rfl ?_
    refine w_iload_n rfl rfl rfl ?_
    refine w_aload_n rfl rfl rfl ?_
    refine w_getR rfl rfl fl_Mender_30 rfl rfl ?_
    refine w_iload_n rfl rfl rfl ?_
    refine w_iaload rfl rfl rfl h.1 ?_
    have h := h.2
    refine w_iload_n rfl rfl rfl ?_
    refine w_callI h cs_Mender_offerRecovery_22 rfl rfl (Nat.le_of_ble_eq_true rfl) rfl (fun r3 S2 h => ?_)
    refine w_callV h cs_Mender_offerRecovery_25 rfl rfl (Nat.le_of_ble_eq_true rfl) rfl (fun S4 h => ?_)
    refine w_iinc (v := 1) _ rfl rfl (by decide) rfl rfl (by decide) rfl ?_
    refine w_goto 2 rfl rfl rfl ?_
    exact h

set_option maxRecDepth 100000 in
theorem e_Mender_offerRecovery_48 {G : px_G} {d : Nat} {x1 x2 : Int32} {S : px_S} {Q : Option Value → px_S → Prop}
    (h : ((4 ≤ x2 → px_V G px_Zc d m_Equations_takeOffered [.ref 30] S (fun S5 => Q none S5)) ∧ (¬ (4 ≤ x2) → px_I G px_Zc d m_Catalog_recoveryNumber [.ref 24, .int x1, .int x2] S (fun r7 S6 => px_I G px_Zc d m_Slices_weighed [.ref 12, .int x2] S6 (fun r9 S8 => px_V G px_Zc d m_Equations_offerResult [.ref 30, .int x2, .int (r7 ^^^ r9)] S8 (fun S10 => px_w G px_Zc (d + 1) m_Mender_offerRecovery 48 [.ref 29, .int x1, .int (x2 + 1)] [] S10 Q)))))) :
    px_w G px_Zc (d + 1) m_Mender_offerRecovery 48 [.ref 29, .int x1, .int x2] [] S Q := by
  refine w_iload_n rfl rfl rfl ?_
  refine w_iconst (v := 4) rfl rfl (by decide) ?_
  refine w_if_icmpge 85 rfl rfl rfl (fun hc => ?_) (fun hc => ?_)
  · have h := h.1 hc
    refine w_aload_n rfl rfl rfl ?_
    refine w_getR rfl rfl fl_Mender_26 rfl rfl ?_
    refine w_callV h cs_Mender_offerRecovery_89 rfl rfl (Nat.le_of_ble_eq_true rfl) rfl (fun S5 h => ?_)
    exact w_return rfl rfl rfl h
  · have h := h.2 hc
    refine w_aload_n rfl rfl rfl ?_
    refine w_getR rfl rfl fl_Mender_26 rfl rfl ?_
    refine w_iload_n rfl rfl rfl ?_
    refine w_aload_n rfl rfl rfl ?_
    refine w_getR rfl rfl fl_Mender_9 rfl rfl ?_
    refine w_iload_n rfl rfl rfl ?_
    refine w_iload_n rfl rfl rfl ?_
    refine w_callI h cs_Mender_offerRecovery_64 rfl rfl (Nat.le_of_ble_eq_true rfl) rfl (fun r7 S6 h => ?_)
    refine w_aload_n rfl rfl rfl ?_
    refine w_getR rfl rfl fl_Mender_15 rfl rfl ?_
    refine w_iload_n rfl rfl rfl ?_
    refine w_callI h cs_Mender_offerRecovery_72 rfl rfl (Nat.le_of_ble_eq_true rfl) rfl (fun r9 S8 h => ?_)
    refine w_ixor rfl rfl ?_
    refine w_callV h cs_Mender_offerRecovery_76 rfl rfl (Nat.le_of_ble_eq_true rfl) rfl (fun S10 h => ?_)
    refine w_iinc (v := 1) _ rfl rfl (by decide) rfl rfl (by decide) rfl ?_
    refine w_goto 48 rfl rfl rfl ?_
    exact h

theorem f_Mender_offerRecovery {G : px_G} {d : Nat} {x1 : Int32} {S : px_S} {Q : Option Value → px_S → Prop}
    (h : px_w G px_Zc (d + 1) m_Mender_offerRecovery 2 [.ref 29, .int x1, .int 0] [] S Q) :
    px_M G px_Zc (d + 1) m_Mender_offerRecovery [.ref 29, .int x1] S Q :=
  px_in (Or.inr ⟨_, _, _, _, _, rfl, rfl, rfl, rfl⟩) (by decide) (Nat.le_of_ble_eq_true rfl) (px_en 1 rfl) (e_Mender_offerRecovery_0 h)

set_option maxRecDepth 100000 in
theorem e_PV_type_0 {G : px_G} {d : Nat} {x3 : Int32} {x1 : Int64} {S : px_S} {Q : Option Value → px_S → Prop}
    (h : ((x3 < 1 → Q (some (.int (-1))) S) ∧ (¬ (x3 < 1) → ((x3 ≤ 8 → px_I G px_Zc d m_Row_size [.ref 1] S (fun r2 S1 => (((r2 + x3) ≤ 40 → px_w G px_Zc (d + 1) m_PV_type 35 [.ref 0, .long x1, .null, .int x3, .int (x3 - 1)] [] S1 Q) ∧ (¬ ((r2 + x3) ≤ 40) → Q (some (.int (-2))) S1)))) ∧ (¬ (x3 ≤ 8) → Q (some (.int (-1))) S))))) :
    px_w G px_Zc (d + 1) m_PV_type 0 [.ref 0, .long x1, .null, .int x3, .null] [] S Q := by
  refine w_iload_n rfl rfl rfl ?_
  refine w_iconst (v := 1) rfl rfl (by decide) ?_
  refine w_if_icmplt 11 rfl rfl rfl (fun hc => ?_) (fun hc => ?_)
  · have h := h.1 hc
    refine w_iconst (v := -1) rfl rfl (by decide) ?_
    exact w_ireturn rfl rfl rfl h
  · have h := h.2 hc
    refine w_iload_n rfl rfl rfl ?_
    refine w_bipush (v := 8) rfl rfl (by decide) ?_
    refine w_if_icmple 13 rfl rfl rfl (fun hc => ?_) (fun hc => ?_)
    · have h := h.1 hc
      refine w_aload_n rfl rfl rfl ?_
      refine w_getR rfl rfl fl_PV_14 rfl rfl ?_
      refine w_callI h cs_PV_type_17 rfl rfl (Nat.le_of_ble_eq_true rfl) rfl (fun r2 S1 h => ?_)
      refine w_iload_n rfl rfl rfl ?_
      refine w_iadd rfl rfl ?_
      refine w_bipush (v := 40) rfl rfl (by decide) ?_
      refine w_if_icmple 30 rfl rfl rfl (fun hc => ?_) (fun hc => ?_)
      · have h := h.1 hc
        refine w_iload_n rfl rfl rfl ?_
        refine w_iconst (v := 1) rfl rfl (by decide) ?_
        refine w_isub rfl rfl ?_
        refine w_istore _ rfl rfl (by decide) rfl rfl ?_
        exact h
      · have h := h.2 hc
        refine w_bipush (v := -2) rfl rfl (by decide) ?_
        exact w_ireturn rfl rfl rfl h
    · have h := h.2 hc
      refine w_iconst (v := -1) rfl rfl (by decide) ?_
      exact w_ireturn rfl rfl rfl h

set_option maxRecDepth 100000 in
theorem e_PV_type_35 {G : px_G} {d : Nat} {x3 x4 : Int32} {x1 : Int64} {S : px_S} {Q : Option Value → px_S → Prop}
    (h : ((x4 < 0 → px_I G px_Zc d m_Row_size [.ref 1] S (fun r4 S3 => Q (some (.int r4)) S3)) ∧ (¬ (x4 < 0) → px_V G px_Zc d m_Row_append [.ref 1, .int (((px_lushr x1 (8 * x4))).toInt32 &&& 255)] S (fun S5 => px_w G px_Zc (d + 1) m_PV_type 35 [.ref 0, .long x1, .null, .int x3, .int (x4 + (-1))] [] S5 Q)))) :
    px_w G px_Zc (d + 1) m_PV_type 35 [.ref 0, .long x1, .null, .int x3, .int x4] [] S Q := by
  refine w_iload rfl rfl rfl ?_
  refine w_iflt 65 rfl rfl rfl (fun hc => ?_) (fun hc => ?_)
  · have h := h.1 hc
    refine w_aload_n rfl rfl rfl ?_
    refine w_getR rfl rfl fl_PV_14 rfl rfl ?_
    refine w_callI h cs_PV_type_69 rfl rfl (Nat.le_of_ble_eq_true rfl) rfl (fun r4 S3 h => ?_)
    exact w_ireturn rfl rfl rfl h
  · have h := h.2 hc
    refine w_aload_n rfl rfl rfl ?_
    refine w_getR rfl rfl fl_PV_14 rfl rfl ?_
    refine w_lload_n rfl rfl rfl ?_
    refine w_bipush (v := 8) rfl rfl (by decide) ?_
    refine w_iload rfl rfl rfl ?_
    refine w_imul rfl rfl ?_
    refine w_lushr rfl rfl ?_
    refine w_l2i rfl rfl ?_
    refine w_sipush (v := 255) rfl rfl (by decide) ?_
    refine w_iand rfl rfl ?_
    refine w_callV h cs_PV_type_56 rfl rfl (Nat.le_of_ble_eq_true rfl) rfl (fun S5 h => ?_)
    refine w_iinc (v := -1) _ rfl rfl (by decide) rfl rfl (by decide) rfl ?_
    refine w_goto 35 rfl rfl rfl ?_
    exact h

theorem f_PV_type {G : px_G} {d : Nat} {x3 : Int32} {x1 : Int64} {S : px_S} {Q : Option Value → px_S → Prop}
    (h : ((x3 < 1 → Q (some (.int (-1))) S) ∧ (¬ (x3 < 1) → ((x3 ≤ 8 → px_I G px_Zc d m_Row_size [.ref 1] S (fun r2 S1 => (((r2 + x3) ≤ 40 → px_w G px_Zc (d + 1) m_PV_type 35 [.ref 0, .long x1, .null, .int x3, .int (x3 - 1)] [] S1 Q) ∧ (¬ ((r2 + x3) ≤ 40) → Q (some (.int (-2))) S1)))) ∧ (¬ (x3 ≤ 8) → Q (some (.int (-1))) S))))) :
    px_M G px_Zc (d + 1) m_PV_type [.ref 0, .long x1, .int x3] S Q :=
  px_in (Or.inr ⟨_, _, _, _, _, rfl, rfl, rfl, rfl⟩) (by decide) (Nat.le_of_ble_eq_true rfl) (px_en 1 rfl) (e_PV_type_0 h)

set_option maxRecDepth 100000 in
theorem e_PV_file_0 {G : px_G} {d : Nat} {x1 : Int32} {S : px_S} {Q : Option Value → px_S → Prop}
    (h : px_I G px_Zc d m_PV_isFile [.int x1] S (fun r2 S1 => ((¬ r2 = 0 → (vp_in x1 3 ∧ px_I G px_Zc d m_Row_size [.ref 1] S1 (fun r4 S3 => px_V G px_Zc d m_Row_become [.ref (px_rf.getD x1.toNatClampNeg 0), .ref 1, .int 0, .int r4] S3 (fun S5 => px_V G px_Zc d m_Row_clear [.ref 1] S5 (fun S6 => (vp_in x1 3 ∧ px_I G px_Zc d m_Row_size [.ref (px_rf.getD x1.toNatClampNeg 0)] S6 (fun r8 S7 => Q (some (.int r8)) S7))))))) ∧ (r2 = 0 → Q (some (.int (-1))) S1)))) :
    px_w G px_Zc (d + 1) m_PV_file 0 [.ref 0, .int x1] [] S Q := by
  refine w_iload_n rfl rfl rfl ?_
  refine w_callI h cs_PV_file_1 rfl rfl (Nat.le_of_ble_eq_true rfl) rfl (fun r2 S1 h => ?_)
  refine w_ifne 9 rfl rfl rfl (fun hc => ?_) (fun hc => ?_)
  · have h := h.1 hc
    refine w_aload_n rfl rfl rfl ?_
    refine w_getR rfl rfl fl_PV_18 rfl rfl ?_
    refine w_iload_n rfl rfl rfl ?_
    refine w_aaload (ty := .object "ParityVolume$Row") rfl rfl rfl (fun _ => rfl) rfl h.1 ?_
    have h := h.2
    refine w_aload_n rfl rfl rfl ?_
    refine w_getR rfl rfl fl_PV_14 rfl rfl ?_
    refine w_iconst (v := 0) rfl rfl (by decide) ?_
    refine w_aload_n rfl rfl rfl ?_
    refine w_getR rfl rfl fl_PV_14 rfl rfl ?_
    refine w_callI h cs_PV_file_24 rfl rfl (Nat.le_of_ble_eq_true rfl) rfl (fun r4 S3 h => ?_)
    refine w_callV h cs_PV_file_27 rfl rfl (Nat.le_of_ble_eq_true rfl) rfl (fun S5 h => ?_)
    refine w_aload_n rfl rfl rfl ?_
    refine w_getR rfl rfl fl_PV_14 rfl rfl ?_
    refine w_callV h cs_PV_file_34 rfl rfl (Nat.le_of_ble_eq_true rfl) rfl (fun S6 h => ?_)
    refine w_aload_n rfl rfl rfl ?_
    refine w_getR rfl rfl fl_PV_18 rfl rfl ?_
    refine w_iload_n rfl rfl rfl ?_
    refine w_aaload (ty := .object "ParityVolume$Row") rfl rfl rfl (fun _ => rfl) rfl h.1 ?_
    have h := h.2
    refine w_callI h cs_PV_file_43 rfl rfl (Nat.le_of_ble_eq_true rfl) rfl (fun r8 S7 h => ?_)
    exact w_ireturn rfl rfl rfl h
  · have h := h.2 hc
    refine w_iconst (v := -1) rfl rfl (by decide) ?_
    exact w_ireturn rfl rfl rfl h

theorem f_PV_file {G : px_G} {d : Nat} {x1 : Int32} {S : px_S} {Q : Option Value → px_S → Prop}
    (h : px_I G px_Zc d m_PV_isFile [.int x1] S (fun r2 S1 => ((¬ r2 = 0 → (vp_in x1 3 ∧ px_I G px_Zc d m_Row_size [.ref 1] S1 (fun r4 S3 => px_V G px_Zc d m_Row_become [.ref (px_rf.getD x1.toNatClampNeg 0), .ref 1, .int 0, .int r4] S3 (fun S5 => px_V G px_Zc d m_Row_clear [.ref 1] S5 (fun S6 => (vp_in x1 3 ∧ px_I G px_Zc d m_Row_size [.ref (px_rf.getD x1.toNatClampNeg 0)] S6 (fun r8 S7 => Q (some (.int r8)) S7))))))) ∧ (r2 = 0 → Q (some (.int (-1))) S1)))) :
    px_M G px_Zc (d + 1) m_PV_file [.ref 0, .int x1] S Q :=
  px_in (Or.inr ⟨_, _, _, _, _, rfl, rfl, rfl, rfl⟩) (by decide) (Nat.le_of_ble_eq_true rfl) (px_en 0 rfl) (e_PV_file_0 h)

set_option maxRecDepth 100000 in
theorem e_PV_damage_0 {G : px_G} {d : Nat} {x1 x2 x3 : Int32} {S : px_S} {Q : Option Value → px_S → Prop}
    (h : px_I G px_Zc d m_PV_isFile [.int x1] S (fun r2 S1 => ((r2 = 0 → Q (some (.int 0)) S1) ∧ (¬ r2 = 0 → (vp_in x1 3 ∧ px_I G px_Zc d m_Row_set [.ref (px_rf.getD x1.toNatClampNeg 0), .int x2, .int x3] S1 (fun r4 S3 => ((r4 = 0 → Q (some (.int 0)) S3) ∧ (¬ r4 = 0 → Q (some (.int 1)) S3)))))))) :
    px_w G px_Zc (d + 1) m_PV_damage 0 [.ref 0, .int x1, .int x2, .int x3] [] S Q := by
  refine w_iload_n rfl rfl rfl ?_
  refine w_callI h cs_PV_damage_1 rfl rfl (Nat.le_of_ble_eq_true rfl) rfl (fun r2 S1 h => ?_)
  refine w_ifeq 25 rfl rfl rfl (fun hc => ?_) (fun hc => ?_)
  · have h := h.1 hc
    refine w_iconst (v := 0) rfl rfl (by decide) ?_
    exact w_zreturn rfl rfl rfl (Or.inl rfl) h
  · have h := h.2 hc
    refine w_aload_n rfl rfl rfl ?_
    refine w_getR rfl rfl fl_PV_18 rfl rfl ?_
    refine w_iload_n rfl rfl rfl ?_
    refine w_aaload (ty := .object "ParityVolume$Row") rfl rfl rfl (fun _ => rfl) rfl h.1 ?_
    have h := h.2
    refine w_iload_n rfl rfl rfl ?_
    refine w_iload_n rfl rfl rfl ?_
    refine w_callI h cs_PV_damage_15 rfl rfl (Nat.le_of_ble_eq_true rfl) rfl (fun r4 S3 h => ?_)
    refine w_ifeq 25 rfl rfl rfl (fun hc => ?_) (fun hc => ?_)
    · have h := h.1 hc
      refine w_iconst (v := 0) rfl rfl (by decide) ?_
      exact w_zreturn rfl rfl rfl (Or.inl rfl) h
    · have h := h.2 hc
      refine w_iconst (v := 1) rfl rfl (by decide) ?_
      refine w_goto 26 rfl rfl rfl ?_
      exact w_zreturn rfl rfl rfl (Or.inr rfl) h

theorem f_PV_damage {G : px_G} {d : Nat} {x1 x2 x3 : Int32} {S : px_S} {Q : Option Value → px_S → Prop}
    (h : px_I G px_Zc d m_PV_isFile [.int x1] S (fun r2 S1 => ((r2 = 0 → Q (some (.int 0)) S1) ∧ (¬ r2 = 0 → (vp_in x1 3 ∧ px_I G px_Zc d m_Row_set [.ref (px_rf.getD x1.toNatClampNeg 0), .int x2, .int x3] S1 (fun r4 S3 => ((r4 = 0 → Q (some (.int 0)) S3) ∧ (¬ r4 = 0 → Q (some (.int 1)) S3)))))))) :
    px_M G px_Zc (d + 1) m_PV_damage [.ref 0, .int x1, .int x2, .int x3] S Q :=
  px_in (Or.inr ⟨_, _, _, _, _, rfl, rfl, rfl, rfl⟩) (by decide) (Nat.le_of_ble_eq_true rfl) (px_en 0 rfl) (e_PV_damage_0 h)

set_option maxRecDepth 100000 in
theorem e_PV_shorten_0 {G : px_G} {d : Nat} {x1 x2 : Int32} {S : px_S} {Q : Option Value → px_S → Prop}
    (h : px_I G px_Zc d m_PV_isFile [.int x1] S (fun r2 S1 => ((r2 = 0 → Q (some (.int 0)) S1) ∧ (¬ r2 = 0 → (vp_in x1 3 ∧ px_I G px_Zc d m_Row_dropLast [.ref (px_rf.getD x1.toNatClampNeg 0), .int x2] S1 (fun r4 S3 => ((r4 = 0 → Q (some (.int 0)) S3) ∧ (¬ r4 = 0 → Q (some (.int 1)) S3)))))))) :
    px_w G px_Zc (d + 1) m_PV_shorten 0 [.ref 0, .int x1, .int x2] [] S Q := by
  refine w_iload_n rfl rfl rfl ?_
  refine w_callI h cs_PV_shorten_1 rfl rfl (Nat.le_of_ble_eq_true rfl) rfl (fun r2 S1 h => ?_)
  refine w_ifeq 24 rfl rfl rfl (fun hc => ?_) (fun hc => ?_)
  · have h := h.1 hc
    refine w_iconst (v := 0) rfl rfl (by decide) ?_
    exact w_zreturn rfl rfl rfl (Or.inl rfl) h
  · have h := h.2 hc
    refine w_aload_n rfl rfl rfl ?_
    refine w_getR rfl rfl fl_PV_18 rfl rfl ?_
    refine w_iload_n rfl rfl rfl ?_
    refine w_aaload (ty := .object "ParityVolume$Row") rfl rfl rfl (fun _ => rfl) rfl h.1 ?_
    have h := h.2
    refine w_iload_n rfl rfl rfl ?_
    refine w_callI h cs_PV_shorten_14 rfl rfl (Nat.le_of_ble_eq_true rfl) rfl (fun r4 S3 h => ?_)
    refine w_ifeq 24 rfl rfl rfl (fun hc => ?_) (fun hc => ?_)
    · have h := h.1 hc
      refine w_iconst (v := 0) rfl rfl (by decide) ?_
      exact w_zreturn rfl rfl rfl (Or.inl rfl) h
    · have h := h.2 hc
      refine w_iconst (v := 1) rfl rfl (by decide) ?_
      refine w_goto 25 rfl rfl rfl ?_
      exact w_zreturn rfl rfl rfl (Or.inr rfl) h

theorem f_PV_shorten {G : px_G} {d : Nat} {x1 x2 : Int32} {S : px_S} {Q : Option Value → px_S → Prop}
    (h : px_I G px_Zc d m_PV_isFile [.int x1] S (fun r2 S1 => ((r2 = 0 → Q (some (.int 0)) S1) ∧ (¬ r2 = 0 → (vp_in x1 3 ∧ px_I G px_Zc d m_Row_dropLast [.ref (px_rf.getD x1.toNatClampNeg 0), .int x2] S1 (fun r4 S3 => ((r4 = 0 → Q (some (.int 0)) S3) ∧ (¬ r4 = 0 → Q (some (.int 1)) S3)))))))) :
    px_M G px_Zc (d + 1) m_PV_shorten [.ref 0, .int x1, .int x2] S Q :=
  px_in (Or.inr ⟨_, _, _, _, _, rfl, rfl, rfl, rfl⟩) (by decide) (Nat.le_of_ble_eq_true rfl) (px_en 0 rfl) (e_PV_shorten_0 h)

set_option maxRecDepth 100000 in
theorem e_PV_protect_0 {G : px_G} {d : Nat} {x1 : Int32} {S : px_S} {Q : Option Value → px_S → Prop}
    (h : ((x1 < 0 → Q (some (.int (-1))) S) ∧ (¬ (x1 < 0) → ((x1 ≤ 6 → px_w G px_Zc (d + 1) m_PV_protect 16 [.ref 0, .int x1, .int 0, .int 0] [] S Q) ∧ (¬ (x1 ≤ 6) → Q (some (.int (-1))) S))))) :
    px_w G px_Zc (d + 1) m_PV_protect 0 [.ref 0, .int x1, .null, .null] [] S Q := by
  refine w_iload_n rfl rfl rfl ?_
  refine w_iflt 10 rfl rfl rfl (fun hc => ?_) (fun hc => ?_)
  · have h := h.1 hc
    refine w_iconst (v := -1) rfl rfl (by decide) ?_
    exact w_ireturn rfl rfl rfl h
  · have h := h.2 hc
    refine w_iload_n rfl rfl rfl ?_
    refine w_bipush (v := 6) rfl rfl (by decide) ?_
    refine w_if_icmple 12 rfl rfl rfl (fun hc => ?_) (fun hc => ?_)
    · have h := h.1 hc
      refine w_iconst (v := 0) rfl rfl (by decide) ?_
      refine w_istore_n _ rfl rfl (by decide) rfl rfl ?_
      refine w_iconst (v := 0) rfl rfl (by decide) ?_
      refine w_istore_n _ rfl rfl (by decide) rfl rfl ?_
      exact h
    · have h := h.2 hc
      refine w_iconst (v := -1) rfl rfl (by decide) ?_
      exact w_ireturn rfl rfl rfl h

set_option maxRecDepth 100000 in
theorem e_PV_protect_16 {G : px_G} {d : Nat} {x1 x2 x3 : Int32} {S : px_S} {Q : Option Value → px_S → Prop}
    (h : ((3 ≤ x3 → ((x2 ≤ 12 → px_V G px_Zc d m_Slices_clear [.ref 12] S (fun S1 => px_w G px_Zc (d + 1) m_PV_protect 60 [.ref 0, .int x1, .int x2, .int 0] [] S1 Q)) ∧ (¬ (x2 ≤ 12) → Q (some (.int (-2))) S))) ∧ (¬ (3 ≤ x3) → (vp_in x3 3 ∧ px_I G px_Zc d m_Row_size [.ref (px_rf.getD x3.toNatClampNeg 0)] S (fun r3 S2 => px_I G px_Zc d m_PV_slicesOf [.int r3] S2 (fun r5 S4 => px_w G px_Zc (d + 1) m_PV_protect 16 [.ref 0, .int x1, .int (x2 + r5), .int (x3 + 1)] [] S4 Q)))))) :
    px_w G px_Zc (d + 1) m_PV_protect 16 [.ref 0, .int x1, .int x2, .int x3] [] S Q := by
  refine w_iload_n rfl rfl rfl ?_
  refine w_iconst (v := 3) rfl rfl (by decide) ?_
  refine w_if_icmpge 42 rfl rfl rfl (fun hc => ?_) (fun hc => ?_)
  · have h := h.1 hc
    refine w_iload_n rfl rfl rfl ?_
    refine w_bipush (v := 12) rfl rfl (by decide) ?_
    refine w_if_icmple 51 rfl rfl rfl (fun hc => ?_) (fun hc => ?_)
    · have h := h.1 hc
      refine w_aload_n rfl rfl rfl ?_
      refine w_getR rfl rfl fl_PV_28 rfl rfl ?_
      refine w_callV h cs_PV_protect_55 rfl rfl (Nat.le_of_ble_eq_true rfl) rfl (fun S1 h => ?_)
      refine w_iconst (v := 0) rfl rfl (by decide) ?_
      refine w_istore_n _ rfl rfl (by decide) rfl rfl ?_
      exact h
    · have h := h.2 hc
      refine w_bipush (v := -2) rfl rfl (by decide) ?_
      exact w_ireturn rfl rfl rfl h
  · have h := h.2 hc
    refine w_iload_n rfl rfl rfl ?_
    refine w_aload_n rfl rfl rfl ?_
    refine w_getR rfl rfl fl_PV_18 rfl rfl ?_
    refine w_iload_n rfl rfl rfl ?_
    refine w_aaload (ty := .object "ParityVolume$Row") rfl rfl rfl (fun _ => rfl) rfl h.1 ?_
    have h := h.2
    refine w_callI h cs_PV_protect_28 rfl rfl (Nat.le_of_ble_eq_true rfl) rfl (fun r3 S2 h => ?_)
    refine w_callI h cs_PV_protect_31 rfl rfl (Nat.le_of_ble_eq_true rfl) rfl (fun r5 S4 h => ?_)
    refine w_iadd rfl rfl ?_
    refine w_istore_n _ rfl rfl (by decide) rfl rfl ?_
    refine w_iinc (v := 1) _ rfl rfl (by decide) rfl rfl (by decide) rfl ?_
    refine w_goto 16 rfl rfl rfl ?_
    exact h

set_option maxRecDepth 100000 in
theorem e_PV_protect_60 {G : px_G} {d : Nat} {x1 x2 x3 : Int32} {S : px_S} {Q : Option Value → px_S → Prop}
    (h : ((3 ≤ x3 → px_V G px_Zc d m_Writer_writeAll [.ref 23, .int x1] S (fun S6 => px_I G px_Zc d m_Row_size [.ref 10] S6 (fun r8 S7 => Q (some (.int r8)) S7))) ∧ (¬ (3 ≤ x3) → (vp_in x3 3 ∧ (vp_in x3 3 ∧ px_I G px_Zc d m_Row_size [.ref (px_rf.getD x3.toNatClampNeg 0)] S (fun r10 S9 => px_V G px_Zc d m_Slices_addFile [.ref 12, .ref (px_rf.getD x3.toNatClampNeg 0), .int r10] S9 (fun S11 => px_w G px_Zc (d + 1) m_PV_protect 60 [.ref 0, .int x1, .int x2, .int (x3 + 1)] [] S11 Q))))))) :
    px_w G px_Zc (d + 1) m_PV_protect 60 [.ref 0, .int x1, .int x2, .int x3] [] S Q := by
  refine w_iload_n rfl rfl rfl ?_
  refine w_iconst (v := 3) rfl rfl (by decide) ?_
  refine w_if_icmpge 93 rfl rfl rfl (fun hc => ?_) (fun hc => ?_)
  · have h := h.1 hc
    refine w_aload_n rfl rfl rfl ?_
    refine w_getR rfl rfl fl_PV_45 rfl rfl ?_
    refine w_iload_n rfl rfl rfl ?_
    refine w_callV h cs_PV_protect_98 rfl rfl (Nat.le_of_ble_eq_true rfl) rfl (fun S6 h => ?_)
    refine w_aload_n rfl rfl rfl ?_
    refine w_getR rfl rfl fl_PV_22 rfl rfl ?_
    refine w_callI h cs_PV_protect_105 rfl rfl (Nat.le_of_ble_eq_true rfl) rfl (fun r8 S7 h => ?_)
    exact w_ireturn rfl rfl rfl h
  · have h := h.2 hc
    refine w_aload_n rfl rfl rfl ?_
    refine w_getR rfl rfl fl_PV_28 rfl rfl ?_
    refine w_aload_n rfl rfl rfl ?_
    refine w_getR rfl rfl fl_PV_18 rfl rfl ?_
    refine w_iload_n rfl rfl rfl ?_
    refine w_aaload (ty := .object "ParityVolume$Row") rfl rfl rfl (fun _ => rfl) rfl h.1 ?_
    have h := h.2
    refine w_aload_n rfl rfl rfl ?_
    refine w_getR rfl rfl fl_PV_18 rfl rfl ?_
    refine w_iload_n rfl rfl rfl ?_
    refine w_aaload (ty := .object "ParityVolume$Row") rfl rfl rfl (fun _ => rfl) rfl h.1 ?_
    have h := h.2
    refine w_callI h cs_PV_protect_81 rfl rfl (Nat.le_of_ble_eq_true rfl) rfl (fun r10 S9 h => ?_)
    refine w_callV h cs_PV_protect_84 rfl rfl (Nat.le_of_ble_eq_true rfl) rfl (fun S11 h => ?_)
    refine w_iinc (v := 1) _ rfl rfl (by decide) rfl rfl (by decide) rfl ?_
    refine w_goto 60 rfl rfl rfl ?_
    exact h

theorem f_PV_protect {G : px_G} {d : Nat} {x1 : Int32} {S : px_S} {Q : Option Value → px_S → Prop}
    (h : ((x1 < 0 → Q (some (.int (-1))) S) ∧ (¬ (x1 < 0) → ((x1 ≤ 6 → px_w G px_Zc (d + 1) m_PV_protect 16 [.ref 0, .int x1, .int 0, .int 0] [] S Q) ∧ (¬ (x1 ≤ 6) → Q (some (.int (-1))) S))))) :
    px_M G px_Zc (d + 1) m_PV_protect [.ref 0, .int x1] S Q :=
  px_in (Or.inr ⟨_, _, _, _, _, rfl, rfl, rfl, rfl⟩) (by decide) (Nat.le_of_ble_eq_true rfl) (px_en 2 rfl) (e_PV_protect_0 h)

set_option maxRecDepth 100000 in
theorem e_PV_volume_0 {G : px_G} {d : Nat} {S : px_S} {Q : Option Value → px_S → Prop}
    (h : px_I G px_Zc d m_Row_size [.ref 10] S (fun r2 S1 => Q (some (.int r2)) S1)) :
    px_w G px_Zc (d + 1) m_PV_volume 0 [.ref 0] [] S Q := by
  refine w_aload_n rfl rfl rfl ?_
  refine w_getR rfl rfl fl_PV_22 rfl rfl ?_
  refine w_callI h cs_PV_volume_4 rfl rfl (Nat.le_of_ble_eq_true rfl) rfl (fun r2 S1 h => ?_)
  exact w_ireturn rfl rfl rfl h

theorem f_PV_volume {G : px_G} {d : Nat} {S : px_S} {Q : Option Value → px_S → Prop}
    (h : px_I G px_Zc d m_Row_size [.ref 10] S (fun r2 S1 => Q (some (.int r2)) S1)) :
    px_M G px_Zc (d + 1) m_PV_volume [.ref 0] S Q :=
  px_in (Or.inr ⟨_, _, _, _, _, rfl, rfl, rfl, rfl⟩) (by decide) (Nat.le_of_ble_eq_true rfl) (px_en 0 rfl) (e_PV_volume_0 h)

set_option maxRecDepth 100000 in
theorem e_PV_byteAt_0 {G : px_G} {d : Nat} {x1 : Int32} {S : px_S} {Q : Option Value → px_S → Prop}
    (h : px_I G px_Zc d m_Row_has [.ref 10, .int x1] S (fun r2 S1 => ((r2 = 0 → Q (some (.int (-1))) S1) ∧ (¬ r2 = 0 → px_I G px_Zc d m_Row_get [.ref 10, .int x1] S1 (fun r4 S3 => Q (some (.int r4)) S3))))) :
    px_w G px_Zc (d + 1) m_PV_byteAt 0 [.ref 0, .int x1] [] S Q := by
  refine w_aload_n rfl rfl rfl ?_
  refine w_getR rfl rfl fl_PV_22 rfl rfl ?_
  refine w_iload_n rfl rfl rfl ?_
  refine w_callI h cs_PV_byteAt_5 rfl rfl (Nat.le_of_ble_eq_true rfl) rfl (fun r2 S1 h => ?_)
  refine w_ifeq 22 rfl rfl rfl (fun hc => ?_) (fun hc => ?_)
  · have h := h.1 hc
    refine w_iconst (v := -1) rfl rfl (by decide) ?_
    exact w_ireturn rfl rfl rfl h
  · have h := h.2 hc
    refine w_aload_n rfl rfl rfl ?_
    refine w_getR rfl rfl fl_PV_22 rfl rfl ?_
    refine w_iload_n rfl rfl rfl ?_
    refine w_callI h cs_PV_byteAt_16 rfl rfl (Nat.le_of_ble_eq_true rfl) rfl (fun r4 S3 h => ?_)
    refine w_goto 23 rfl rfl rfl ?_
    exact w_ireturn rfl rfl rfl h

theorem f_PV_byteAt {G : px_G} {d : Nat} {x1 : Int32} {S : px_S} {Q : Option Value → px_S → Prop}
    (h : px_I G px_Zc d m_Row_has [.ref 10, .int x1] S (fun r2 S1 => ((r2 = 0 → Q (some (.int (-1))) S1) ∧ (¬ r2 = 0 → px_I G px_Zc d m_Row_get [.ref 10, .int x1] S1 (fun r4 S3 => Q (some (.int r4)) S3))))) :
    px_M G px_Zc (d + 1) m_PV_byteAt [.ref 0, .int x1] S Q :=
  px_in (Or.inr ⟨_, _, _, _, _, rfl, rfl, rfl, rfl⟩) (by decide) (Nat.le_of_ble_eq_true rfl) (px_en 0 rfl) (e_PV_byteAt_0 h)

set_option maxRecDepth 100000 in
theorem e_PV_alter_0 {G : px_G} {d : Nat} {x1 x2 : Int32} {S : px_S} {Q : Option Value → px_S → Prop}
    (h : px_I G px_Zc d m_Row_set [.ref 10, .int x1, .int x2] S (fun r2 S1 => ((r2 = 0 ∨ r2 = 1) ∧ Q (some (.int r2)) S1))) :
    px_w G px_Zc (d + 1) m_PV_alter 0 [.ref 0, .int x1, .int x2] [] S Q := by
  refine w_aload_n rfl rfl rfl ?_
  refine w_getR rfl rfl fl_PV_22 rfl rfl ?_
  refine w_iload_n rfl rfl rfl ?_
  refine w_iload_n rfl rfl rfl ?_
  refine w_callI h cs_PV_alter_6 rfl rfl (Nat.le_of_ble_eq_true rfl) rfl (fun r2 S1 h => ?_)
  exact w_zreturn rfl rfl rfl h.1 h.2

theorem f_PV_alter {G : px_G} {d : Nat} {x1 x2 : Int32} {S : px_S} {Q : Option Value → px_S → Prop}
    (h : px_I G px_Zc d m_Row_set [.ref 10, .int x1, .int x2] S (fun r2 S1 => ((r2 = 0 ∨ r2 = 1) ∧ Q (some (.int r2)) S1))) :
    px_M G px_Zc (d + 1) m_PV_alter [.ref 0, .int x1, .int x2] S Q :=
  px_in (Or.inr ⟨_, _, _, _, _, rfl, rfl, rfl, rfl⟩) (by decide) (Nat.le_of_ble_eq_true rfl) (px_en 0 rfl) (e_PV_alter_0 h)

set_option maxRecDepth 100000 in
theorem e_PV_cut_0 {G : px_G} {d : Nat} {x1 x2 : Int32} {S : px_S} {Q : Option Value → px_S → Prop}
    (h : px_I G px_Zc d m_Row_remove [.ref 10, .int x1, .int x2] S (fun r2 S1 => ((r2 = 0 ∨ r2 = 1) ∧ Q (some (.int r2)) S1))) :
    px_w G px_Zc (d + 1) m_PV_cut 0 [.ref 0, .int x1, .int x2] [] S Q := by
  refine w_aload_n rfl rfl rfl ?_
  refine w_getR rfl rfl fl_PV_22 rfl rfl ?_
  refine w_iload_n rfl rfl rfl ?_
  refine w_iload_n rfl rfl rfl ?_
  refine w_callI h cs_PV_cut_6 rfl rfl (Nat.le_of_ble_eq_true rfl) rfl (fun r2 S1 h => ?_)
  exact w_zreturn rfl rfl rfl h.1 h.2

theorem f_PV_cut {G : px_G} {d : Nat} {x1 x2 : Int32} {S : px_S} {Q : Option Value → px_S → Prop}
    (h : px_I G px_Zc d m_Row_remove [.ref 10, .int x1, .int x2] S (fun r2 S1 => ((r2 = 0 ∨ r2 = 1) ∧ Q (some (.int r2)) S1))) :
    px_M G px_Zc (d + 1) m_PV_cut [.ref 0, .int x1, .int x2] S Q :=
  px_in (Or.inr ⟨_, _, _, _, _, rfl, rfl, rfl, rfl⟩) (by decide) (Nat.le_of_ble_eq_true rfl) (px_en 0 rfl) (e_PV_cut_0 h)

set_option maxRecDepth 100000 in
theorem e_PV_scan_0 {G : px_G} {d : Nat} {S : px_S} {Q : Option Value → px_S → Prop}
    (h : px_I G px_Zc d m_Catalog_read [.ref 24] S (fun r2 S1 => ((¬ r2 = 0 → px_I G px_Zc d m_Catalog_counted [.ref 24] S1 (fun r4 S3 => px_I G px_Zc d m_Catalog_recoveries [.ref 24] S3 (fun r6 S5 => Q (some (.int (r4 + (100 * r6)))) S5))) ∧ (r2 = 0 → Q (some (.int (-3))) S1)))) :
    px_w G px_Zc (d + 1) m_PV_scan 0 [.ref 0] [] S Q := by
  refine w_aload_n rfl rfl rfl ?_
  refine w_getR rfl rfl fl_PV_54 rfl rfl ?_
  refine w_callI h cs_PV_scan_4 rfl rfl (Nat.le_of_ble_eq_true rfl) rfl (fun r2 S1 h => ?_)
  refine w_ifne 13 rfl rfl rfl (fun hc => ?_) (fun hc => ?_)
  · have h := h.1 hc
    refine w_aload_n rfl rfl rfl ?_
    refine w_getR rfl rfl fl_PV_54 rfl rfl ?_
    refine w_callI h cs_PV_scan_17 rfl rfl (Nat.le_of_ble_eq_true rfl) rfl (fun r4 S3 h => ?_)
    refine w_bipush (v := 100) rfl rfl (by decide) ?_
    refine w_aload_n rfl rfl rfl ?_
    refine w_getR rfl rfl fl_PV_54 rfl rfl ?_
    refine w_callI h cs_PV_scan_26 rfl rfl (Nat.le_of_ble_eq_true rfl) rfl (fun r6 S5 h => ?_)
    refine w_imul rfl rfl ?_
    refine w_iadd rfl rfl ?_
    exact w_ireturn rfl rfl rfl h
  · have h := h.2 hc
    refine w_bipush (v := -3) rfl rfl (by decide) ?_
    exact w_ireturn rfl rfl rfl h

theorem f_PV_scan {G : px_G} {d : Nat} {S : px_S} {Q : Option Value → px_S → Prop}
    (h : px_I G px_Zc d m_Catalog_read [.ref 24] S (fun r2 S1 => ((¬ r2 = 0 → px_I G px_Zc d m_Catalog_counted [.ref 24] S1 (fun r4 S3 => px_I G px_Zc d m_Catalog_recoveries [.ref 24] S3 (fun r6 S5 => Q (some (.int (r4 + (100 * r6)))) S5))) ∧ (r2 = 0 → Q (some (.int (-3))) S1)))) :
    px_M G px_Zc (d + 1) m_PV_scan [.ref 0] S Q :=
  px_in (Or.inr ⟨_, _, _, _, _, rfl, rfl, rfl, rfl⟩) (by decide) (Nat.le_of_ble_eq_true rfl) (px_en 0 rfl) (e_PV_scan_0 h)

set_option maxRecDepth 100000 in
theorem e_PV_verify_0 {G : px_G} {d : Nat} {S : px_S} {Q : Option Value → px_S → Prop}
    (h : px_I G px_Zc d m_Catalog_read [.ref 24] S (fun r2 S1 => ((¬ r2 = 0 → px_V G px_Zc d m_Mender_examine [.ref 29, .ref 3] S1 (fun S3 => px_I G px_Zc d m_Mender_damagedBits [.ref 29] S3 (fun r5 S4 => Q (some (.int r5)) S4))) ∧ (r2 = 0 → Q (some (.int (-3))) S1)))) :
    px_w G px_Zc (d + 1) m_PV_verify 0 [.ref 0] [] S Q := by
  refine w_aload_n rfl rfl rfl ?_
  refine w_getR rfl rfl fl_PV_54 rfl rfl ?_
  refine w_callI h cs_PV_verify_4 rfl rfl (Nat.le_of_ble_eq_true rfl) rfl (fun r2 S1 h => ?_)
  refine w_ifne 13 rfl rfl rfl (fun hc => ?_) (fun hc => ?_)
  · have h := h.1 hc
    refine w_aload_n rfl rfl rfl ?_
    refine w_getR rfl rfl fl_PV_63 rfl rfl ?_
    refine w_aload_n rfl rfl rfl ?_
    refine w_getR rfl rfl fl_PV_18 rfl rfl ?_
    refine w_callV h cs_PV_verify_21 rfl rfl (Nat.le_of_ble_eq_true rfl) rfl (fun S3 h => ?_)
    refine w_aload_n rfl rfl rfl ?_
    refine w_getR rfl rfl fl_PV_63 rfl rfl ?_
    refine w_callI h cs_PV_verify_28 rfl rfl (Nat.le_of_ble_eq_true rfl) rfl (fun r5 S4 h => ?_)
    exact w_ireturn rfl rfl rfl h
  · have h := h.2 hc
    refine w_bipush (v := -3) rfl rfl (by decide) ?_
    exact w_ireturn rfl rfl rfl h

theorem f_PV_verify {G : px_G} {d : Nat} {S : px_S} {Q : Option Value → px_S → Prop}
    (h : px_I G px_Zc d m_Catalog_read [.ref 24] S (fun r2 S1 => ((¬ r2 = 0 → px_V G px_Zc d m_Mender_examine [.ref 29, .ref 3] S1 (fun S3 => px_I G px_Zc d m_Mender_damagedBits [.ref 29] S3 (fun r5 S4 => Q (some (.int r5)) S4))) ∧ (r2 = 0 → Q (some (.int (-3))) S1)))) :
    px_M G px_Zc (d + 1) m_PV_verify [.ref 0] S Q :=
  px_in (Or.inr ⟨_, _, _, _, _, rfl, rfl, rfl, rfl⟩) (by decide) (Nat.le_of_ble_eq_true rfl) (px_en 0 rfl) (e_PV_verify_0 h)

set_option maxRecDepth 100000 in
theorem e_PV_repair_0 {G : px_G} {d : Nat} {S : px_S} {Q : Option Value → px_S → Prop}
    (h : px_I G px_Zc d m_Catalog_read [.ref 24] S (fun r2 S1 => ((¬ r2 = 0 → px_V G px_Zc d m_Mender_examine [.ref 29, .ref 3] S1 (fun S3 => px_I G px_Zc d m_Mender_makeDamaged [.ref 29] S3 (fun r5 S4 => ((¬ r5 = 0 → px_I G px_Zc d m_Mender_filesAreAsTold [.ref 29] S4 (fun r7 S6 => ((¬ r7 = 0 → px_V G px_Zc d m_Slices_storeInto [.ref 12, .ref 3] S6 (fun S8 => px_I G px_Zc d m_Mender_damagedCount [.ref 29] S8 (fun r10 S9 => Q (some (.int r10)) S9))) ∧ (r7 = 0 → Q (some (.int (-5))) S6)))) ∧ (r5 = 0 → Q (some (.int (-4))) S4))))) ∧ (r2 = 0 → Q (some (.int (-3))) S1)))) :
    px_w G px_Zc (d + 1) m_PV_repair 0 [.ref 0] [] S Q := by
  refine w_aload_n rfl rfl rfl ?_
  refine w_getR rfl rfl fl_PV_54 rfl rfl ?_
  refine w_callI h cs_PV_repair_4 rfl rfl (Nat.le_of_ble_eq_true rfl) rfl (fun r2 S1 h => ?_)
  refine w_ifne 13 rfl rfl rfl (fun hc => ?_) (fun hc => ?_)
  · have h := h.1 hc
    refine w_aload_n rfl rfl rfl ?_
    refine w_getR rfl rfl fl_PV_63 rfl rfl ?_
    refine w_aload_n rfl rfl rfl ?_
    refine w_getR rfl rfl fl_PV_18 rfl rfl ?_
    refine w_callV h cs_PV_repair_21 rfl rfl (Nat.le_of_ble_eq_true rfl) rfl (fun S3 h => ?_)
    refine w_aload_n rfl rfl rfl ?_
    refine w_getR rfl rfl fl_PV_63 rfl rfl ?_
    refine w_callI h cs_PV_repair_28 rfl rfl (Nat.le_of_ble_eq_true rfl) rfl (fun r5 S4 h => ?_)
    refine w_ifne 37 rfl rfl rfl (fun hc => ?_) (fun hc => ?_)
    · have h := h.1 hc
      refine w_aload_n rfl rfl rfl ?_
      refine w_getR rfl rfl fl_PV_63 rfl rfl ?_
      refine w_callI h cs_PV_repair_41 rfl rfl (Nat.le_of_ble_eq_true rfl) rfl (fun r7 S6 h => ?_)
      refine w_ifne 50 rfl rfl rfl (fun hc => ?_) (fun hc => ?_)
      · have h := h.1 hc
        refine w_aload_n rfl rfl rfl ?_
        refine w_getR rfl rfl fl_PV_28 rfl rfl ?_
        refine w_aload_n rfl rfl rfl ?_
        refine w_getR rfl rfl fl_PV_18 rfl rfl ?_
        refine w_callV h cs_PV_repair_58 rfl rfl (Nat.le_of_ble_eq_true rfl) rfl (fun S8 h => ?_)
        refine w_aload_n rfl rfl rfl ?_
        refine w_getR rfl rfl fl_PV_63 rfl rfl ?_
        refine w_callI h cs_PV_repair_65 rfl rfl (Nat.le_of_ble_eq_true rfl) rfl (fun r10 S9 h => ?_)
        exact w_ireturn rfl rfl rfl h
      · have h := h.2 hc
        refine w_bipush (v := -5) rfl rfl (by decide) ?_
        exact w_ireturn rfl rfl rfl h
    · have h := h.2 hc
      refine w_bipush (v := -4) rfl rfl (by decide) ?_
      exact w_ireturn rfl rfl rfl h
  · have h := h.2 hc
    refine w_bipush (v := -3) rfl rfl (by decide) ?_
    exact w_ireturn rfl rfl rfl h

theorem f_PV_repair {G : px_G} {d : Nat} {S : px_S} {Q : Option Value → px_S → Prop}
    (h : px_I G px_Zc d m_Catalog_read [.ref 24] S (fun r2 S1 => ((¬ r2 = 0 → px_V G px_Zc d m_Mender_examine [.ref 29, .ref 3] S1 (fun S3 => px_I G px_Zc d m_Mender_makeDamaged [.ref 29] S3 (fun r5 S4 => ((¬ r5 = 0 → px_I G px_Zc d m_Mender_filesAreAsTold [.ref 29] S4 (fun r7 S6 => ((¬ r7 = 0 → px_V G px_Zc d m_Slices_storeInto [.ref 12, .ref 3] S6 (fun S8 => px_I G px_Zc d m_Mender_damagedCount [.ref 29] S8 (fun r10 S9 => Q (some (.int r10)) S9))) ∧ (r7 = 0 → Q (some (.int (-5))) S6)))) ∧ (r5 = 0 → Q (some (.int (-4))) S4))))) ∧ (r2 = 0 → Q (some (.int (-3))) S1)))) :
    px_M G px_Zc (d + 1) m_PV_repair [.ref 0] S Q :=
  px_in (Or.inr ⟨_, _, _, _, _, rfl, rfl, rfl, rfl⟩) (by decide) (Nat.le_of_ble_eq_true rfl) (px_en 0 rfl) (e_PV_repair_0 h)

set_option maxRecDepth 100000 in
theorem e_PV_length_0 {G : px_G} {d : Nat} {x1 : Int32} {S : px_S} {Q : Option Value → px_S → Prop}
    (h : px_I G px_Zc d m_PV_isFile [.int x1] S (fun r2 S1 => ((r2 = 0 → Q (some (.int (-1))) S1) ∧ (¬ r2 = 0 → (vp_in x1 3 ∧ px_I G px_Zc d m_Row_size [.ref (px_rf.getD x1.toNatClampNeg 0)] S1 (fun r4 S3 => Q (some (.int r4)) S3)))))) :
    px_w G px_Zc (d + 1) m_PV_length 0 [.ref 0, .int x1] [] S Q := by
  refine w_iload_n rfl rfl rfl ?_
  refine w_callI h cs_PV_length_1 rfl rfl (Nat.le_of_ble_eq_true rfl) rfl (fun r2 S1 h => ?_)
  refine w_ifeq 19 rfl rfl rfl (fun hc => ?_) (fun hc => ?_)
  · have h := h.1 hc
    refine w_iconst (v := -1) rfl rfl (by decide) ?_
    exact w_ireturn rfl rfl rfl h
  · have h := h.2 hc
    refine w_aload_n rfl rfl rfl ?_
    refine w_getR rfl rfl fl_PV_18 rfl rfl ?_
    refine w_iload_n rfl rfl rfl ?_
    refine w_aaload (ty := .object "ParityVolume$Row") rfl rfl rfl (fun _ => rfl) rfl h.1 ?_
    have h := h.2
    refine w_callI h cs_PV_length_13 rfl rfl (Nat.le_of_ble_eq_true rfl) rfl (fun r4 S3 h => ?_)
    refine w_goto 20 rfl rfl rfl ?_
    exact w_ireturn rfl rfl rfl h

theorem f_PV_length {G : px_G} {d : Nat} {x1 : Int32} {S : px_S} {Q : Option Value → px_S → Prop}
    (h : px_I G px_Zc d m_PV_isFile [.int x1] S (fun r2 S1 => ((r2 = 0 → Q (some (.int (-1))) S1) ∧ (¬ r2 = 0 → (vp_in x1 3 ∧ px_I G px_Zc d m_Row_size [.ref (px_rf.getD x1.toNatClampNeg 0)] S1 (fun r4 S3 => Q (some (.int r4)) S3)))))) :
    px_M G px_Zc (d + 1) m_PV_length [.ref 0, .int x1] S Q :=
  px_in (Or.inr ⟨_, _, _, _, _, rfl, rfl, rfl, rfl⟩) (by decide) (Nat.le_of_ble_eq_true rfl) (px_en 0 rfl) (e_PV_length_0 h)

set_option maxRecDepth 100000 in
theorem e_PV_at_0 {G : px_G} {d : Nat} {x1 x2 : Int32} {S : px_S} {Q : Option Value → px_S → Prop}
    (h : px_I G px_Zc d m_PV_isFile [.int x1] S (fun r2 S1 => ((r2 = 0 → Q (some (.int (-1))) S1) ∧ (¬ r2 = 0 → (vp_in x1 3 ∧ px_I G px_Zc d m_Row_has [.ref (px_rf.getD x1.toNatClampNeg 0), .int x2] S1 (fun r4 S3 => ((r4 = 0 → Q (some (.int (-1))) S3) ∧ (¬ r4 = 0 → (vp_in x1 3 ∧ px_I G px_Zc d m_Row_get [.ref (px_rf.getD x1.toNatClampNeg 0), .int x2] S3 (fun r6 S5 => Q (some (.int r6)) S5)))))))))) :
    px_w G px_Zc (d + 1) m_PV_at 0 [.ref 0, .int x1, .int x2] [] S Q := by
  refine w_iload_n rfl rfl rfl ?_
  refine w_callI h cs_PV_at_1 rfl rfl (Nat.le_of_ble_eq_true rfl) rfl (fun r2 S1 h => ?_)
  refine w_ifeq 33 rfl rfl rfl (fun hc => ?_) (fun hc => ?_)
  · have h := h.1 hc
    refine w_iconst (v := -1) rfl rfl (by decide) ?_
    exact w_ireturn rfl rfl rfl h
  · have h := h.2 hc
    refine w_aload_n rfl rfl rfl ?_
    refine w_getR rfl rfl fl_PV_18 rfl rfl ?_
    refine w_iload_n rfl rfl rfl ?_
    refine w_aaload (ty := .object "ParityVolume$Row") rfl rfl rfl (fun _ => rfl) rfl h.1 ?_
    have h := h.2
    refine w_iload_n rfl rfl rfl ?_
    refine w_callI h cs_PV_at_14 rfl rfl (Nat.le_of_ble_eq_true rfl) rfl (fun r4 S3 h => ?_)
    refine w_ifeq 33 rfl rfl rfl (fun hc => ?_) (fun hc => ?_)
    · have h := h.1 hc
      refine w_iconst (v := -1) rfl rfl (by decide) ?_
      exact w_ireturn rfl rfl rfl h
    · have h := h.2 hc
      refine w_aload_n rfl rfl rfl ?_
      refine w_getR rfl rfl fl_PV_18 rfl rfl ?_
      refine w_iload_n rfl rfl rfl ?_
      refine w_aaload (ty := .object "ParityVolume$Row") rfl rfl rfl (fun _ => rfl) rfl h.1 ?_
      have h := h.2
      refine w_iload_n rfl rfl rfl ?_
      refine w_callI h cs_PV_at_27 rfl rfl (Nat.le_of_ble_eq_true rfl) rfl (fun r6 S5 h => ?_)
      refine w_goto 34 rfl rfl rfl ?_
      exact w_ireturn rfl rfl rfl h

theorem f_PV_at {G : px_G} {d : Nat} {x1 x2 : Int32} {S : px_S} {Q : Option Value → px_S → Prop}
    (h : px_I G px_Zc d m_PV_isFile [.int x1] S (fun r2 S1 => ((r2 = 0 → Q (some (.int (-1))) S1) ∧ (¬ r2 = 0 → (vp_in x1 3 ∧ px_I G px_Zc d m_Row_has [.ref (px_rf.getD x1.toNatClampNeg 0), .int x2] S1 (fun r4 S3 => ((r4 = 0 → Q (some (.int (-1))) S3) ∧ (¬ r4 = 0 → (vp_in x1 3 ∧ px_I G px_Zc d m_Row_get [.ref (px_rf.getD x1.toNatClampNeg 0), .int x2] S3 (fun r6 S5 => Q (some (.int r6)) S5)))))))))) :
    px_M G px_Zc (d + 1) m_PV_at [.ref 0, .int x1, .int x2] S Q :=
  px_in (Or.inr ⟨_, _, _, _, _, rfl, rfl, rfl, rfl⟩) (by decide) (Nat.le_of_ble_eq_true rfl) (px_en 0 rfl) (e_PV_at_0 h)

set_option maxRecDepth 100000 in
theorem e_PV_isFile_0 {G : px_G} {d : Nat} {x0 : Int32} {S : px_S} {Q : Option Value → px_S → Prop}
    (h : ((x0 < 0 → Q (some (.int 0)) S) ∧ (¬ (x0 < 0) → ((3 ≤ x0 → Q (some (.int 0)) S) ∧ (¬ (3 ≤ x0) → Q (some (.int 1)) S))))) :
    px_w G px_Zc d m_PV_isFile 0 [.int x0] [] S Q := by
  refine w_iload_n rfl rfl rfl ?_
  refine w_iflt 13 rfl rfl rfl (fun hc => ?_) (fun hc => ?_)
  · have h := h.1 hc
    refine w_iconst (v := 0) rfl rfl (by decide) ?_
    exact w_zreturn rfl rfl rfl (Or.inl rfl) h
  · have h := h.2 hc
    refine w_iload_n rfl rfl rfl ?_
    refine w_iconst (v := 3) rfl rfl (by decide) ?_
    refine w_if_icmpge 13 rfl rfl rfl (fun hc => ?_) (fun hc => ?_)
    · have h := h.1 hc
      refine w_iconst (v := 0) rfl rfl (by decide) ?_
      exact w_zreturn rfl rfl rfl (Or.inl rfl) h
    · have h := h.2 hc
      refine w_iconst (v := 1) rfl rfl (by decide) ?_
      refine w_goto 14 rfl rfl rfl ?_
      exact w_zreturn rfl rfl rfl (Or.inr rfl) h

theorem f_PV_isFile {G : px_G} {d : Nat} {x0 : Int32} {S : px_S} {Q : Option Value → px_S → Prop}
    (h : ((x0 < 0 → Q (some (.int 0)) S) ∧ (¬ (x0 < 0) → ((3 ≤ x0 → Q (some (.int 0)) S) ∧ (¬ (3 ≤ x0) → Q (some (.int 1)) S))))) :
    px_M G px_Zc d m_PV_isFile [.int x0] S Q :=
  px_in (Or.inl rfl) (by decide) (Nat.le_of_ble_eq_true rfl) (px_en 0 rfl) (e_PV_isFile_0 h)

set_option maxRecDepth 100000 in
theorem e_PV_slicesOf_0 {G : px_G} {d : Nat} {x0 : Int32} {S : px_S} {Q : Option Value → px_S → Prop}
    (h : Q (some (.int (((x0 + 8) - 1) / 8))) S) :
    px_w G px_Zc d m_PV_slicesOf 0 [.int x0] [] S Q := by
  refine w_iload_n rfl rfl rfl ?_
  refine w_bipush (v := 8) rfl rfl (by decide) ?_
  refine w_iadd rfl rfl ?_
  refine w_iconst (v := 1) rfl rfl (by decide) ?_
  refine w_isub rfl rfl ?_
  refine w_bipush (v := 8) rfl rfl (by decide) ?_
  refine w_idiv rfl rfl (by decide) ?_
  exact w_ireturn rfl rfl rfl h

theorem f_PV_slicesOf {G : px_G} {d : Nat} {x0 : Int32} {S : px_S} {Q : Option Value → px_S → Prop}
    (h : Q (some (.int (((x0 + 8) - 1) / 8))) S) :
    px_M G px_Zc d m_PV_slicesOf [.int x0] S Q :=
  px_in (Or.inl rfl) (by decide) (Nat.le_of_ble_eq_true rfl) (px_en 0 rfl) (e_PV_slicesOf_0 h)

