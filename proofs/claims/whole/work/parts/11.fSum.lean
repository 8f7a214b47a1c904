set_option maxRecDepth 100000 in
theorem e_Sum_begin_0 {G : px_G} {d : Nat} {S : px_S} {Q : Option Value → px_S → Prop}
    (h : Q none (px_u S 18 3 0)) :
    px_w G px_Zc d m_Sum_begin 0 [.ref 18] [] S Q := by
  refine w_aload_n rfl rfl rfl ?_
  refine w_iconst (v := 0) rfl rfl (by decide) ?_
  refine w_put rfl rfl fl_Sum_21 fw_Sum_3 rfl rfl ?_
  exact w_return rfl rfl rfl h

theorem f_Sum_begin {G : px_G} {d : Nat} {S : px_S} {Q : Option Value → px_S → Prop}
    (h : Q none (px_u S 18 3 0)) :
    px_M G px_Zc d m_Sum_begin [.ref 18] S Q :=
  px_in (Or.inr ⟨_, _, _, _, _, rfl, rfl, rfl, rfl⟩) (by decide) (Nat.le_of_ble_eq_true rfl) (px_en 0 rfl) (e_Sum_begin_0 h)

set_option maxRecDepth 100000 in
theorem e_Sum_add_0 {G : px_G} {d : Nat} {x1 : Int32} {S : px_S} {Q : Option Value → px_S → Prop}
    (h : ((768 ≤ (S 18 3) → Q none S) ∧ (¬ (768 ≤ (S 18 3)) → (vp_in (S 18 3) 768 ∧ (∀ S1 : px_S, S1 = (px_u (px_u S 19 (S 18 3).toNatClampNeg (x1 &&& 255)) 18 3 (((px_u S 19 (S 18 3).toNatClampNeg (x1 &&& 255)) 18 3) + 1)) → Q none S1))))) :
    px_w G px_Zc d m_Sum_add 0 [.ref 18, .int x1] [] S Q := by
  refine w_aload_n rfl rfl rfl ?_
  refine w_getI rfl rfl fl_Sum_21 rfl rfl ?_
  refine w_sipush (v := 768) rfl rfl (by decide) ?_
  refine w_if_icmpge 34 rfl rfl rfl (fun hc => ?_) (fun hc => ?_)
  · have h := h.1 hc
    exact w_return rfl rfl rfl h
  · have h := h.2 hc
    refine w_aload_n rfl rfl rfl ?_
    refine w_getR rfl rfl fl_Sum_11 rfl rfl ?_
    refine w_aload_n rfl rfl rfl ?_
    refine w_getI rfl rfl fl_Sum_21 rfl rfl ?_
    refine w_iload_n rfl rfl rfl ?_
    refine w_sipush (v := 255) rfl rfl (by decide) ?_
    refine w_iand rfl rfl ?_
    refine w_iastore rfl rfl rfl h.1 ?_
    have h := h.2
    refine w_aload_n rfl rfl rfl ?_
    refine w_dup rfl rfl rfl ?_
    refine w_getI rfl rfl fl_Sum_21 rfl rfl ?_
    refine w_iconst (v := 1) rfl rfl (by decide) ?_
    refine w_iadd rfl rfl ?_
    refine w_put rfl rfl fl_Sum_21 fw_Sum_3 rfl rfl ?_
    have h := h _ rfl
    exact w_return rfl rfl rfl h

theorem f_Sum_add {G : px_G} {d : Nat} {x1 : Int32} {S : px_S} {Q : Option Value → px_S → Prop}
    (h : ((768 ≤ (S 18 3) → Q none S) ∧ (¬ (768 ≤ (S 18 3)) → (vp_in (S 18 3) 768 ∧ (∀ S1 : px_S, S1 = (px_u (px_u S 19 (S 18 3).toNatClampNeg (x1 &&& 255)) 18 3 (((px_u S 19 (S 18 3).toNatClampNeg (x1 &&& 255)) 18 3) + 1)) → Q none S1))))) :
    px_M G px_Zc d m_Sum_add [.ref 18, .int x1] S Q :=
  px_in (Or.inr ⟨_, _, _, _, _, rfl, rfl, rfl, rfl⟩) (by decide) (Nat.le_of_ble_eq_true rfl) (px_en 0 rfl) (e_Sum_add_0 h)

set_option maxRecDepth 100000 in
theorem e_Sum_addAll_0 {G : px_G} {d : Nat} {o : Nat} {x2 x3 : Int32} {S : px_S} {Q : Option Value → px_S → Prop}
    (h : px_w G px_Zc (d + 1) m_Sum_addAll 3 [.ref 18, .ref o, .int x2, .int x3, .int 0] [] S Q) :
    px_w G px_Zc (d + 1) m_Sum_addAll 0 [.ref 18, .ref o, .int x2, .int x3, .null] [] S Q := by
  refine w_iconst (v := 0) rfl rfl (by decide) ?_
  refine w_istore _ rfl rfl (by decide) rfl rfl ?_
  exact h

set_option maxRecDepth 100000 in
theorem e_Sum_addAll_3 {G : px_G} {d : Nat} {o : Nat} {x2 x3 x4 : Int32} {S : px_S} {Q : Option Value → px_S → Prop}
    (h : ((x3 ≤ x4 → Q none S) ∧ (¬ (x3 ≤ x4) → px_I G px_Zc d m_Row_get [.ref o, .int (x2 + x4)] S (fun r2 S1 => px_V G px_Zc d m_Sum_add [.ref 18, .int r2] S1 (fun S3 => px_w G px_Zc (d + 1) m_Sum_addAll 3 [.ref 18, .ref o, .int x2, .int x3, .int (x4 + 1)] [] S3 Q))))) :
    px_w G px_Zc (d + 1) m_Sum_addAll 3 [.ref 18, .ref o, .int x2, .int x3, .int x4] [] S Q := by
  refine w_iload rfl rfl rfl ?_
  refine w_iload_n rfl rfl rfl ?_
  refine w_if_icmpge 27 rfl rfl rfl (fun hc => ?_) (fun hc => ?_)
  · have h := h.1 hc
    exact w_return rfl rfl rfl h
  · have h := h.2 hc
    refine w_aload_n rfl rfl rfl ?_
    refine w_aload_n rfl rfl rfl ?_
    refine w_iload_n rfl rfl rfl ?_
    refine w_iload rfl rfl rfl ?_
    refine w_iadd rfl rfl ?_
    refine w_callI h cs_Sum_addAll_15 rfl rfl (Nat.le_of_ble_eq_true rfl) rfl (fun r2 S1 h => ?_)
    refine w_callV h cs_Sum_addAll_18 rfl rfl (Nat.le_of_ble_eq_true rfl) rfl (fun S3 h => ?_)
    refine w_iinc (v := 1) _ rfl rfl (by decide) rfl rfl (by decide) rfl ?_
    refine w_goto 3 rfl rfl rfl ?_
    exact h

theorem f_Sum_addAll {G : px_G} {d : Nat} {o : Nat} {x2 x3 : Int32} {S : px_S} {Q : Option Value → px_S → Prop}
    (h : px_w G px_Zc (d + 1) m_Sum_addAll 3 [.ref 18, .ref o, .int x2, .int x3, .int 0] [] S Q) :
    px_M G px_Zc (d + 1) m_Sum_addAll [.ref 18, .ref o, .int x2, .int x3] S Q :=
  px_in (Or.inr ⟨_, _, _, _, _, rfl, rfl, rfl, rfl⟩) (by decide) (Nat.le_of_ble_eq_true rfl) (px_en 1 rfl) (e_Sum_addAll_0 h)

set_option maxRecDepth 100000 in
theorem e_Sum_end_0 {G : px_G} {d : Nat} {S : px_S} {Q : Option Value → px_S → Prop}
    (h : px_V G px_Zc d m_Sum_add [.ref 18, .int 128] S (fun S1 => px_w G px_Zc (d + 1) m_Sum_end 17 [.ref 18, .int (8 * (S 18 3)), .int 0] [] S1 Q)) :
    px_w G px_Zc (d + 1) m_Sum_end 0 [.ref 18, .null, .null] [] S Q := by
  refine w_bipush (v := 8) rfl rfl (by decide) ?_
  refine w_aload_n rfl rfl rfl ?_
  refine w_getI rfl rfl fl_Sum_21 rfl rfl ?_
  refine w_imul rfl rfl ?_
  refine w_istore_n _ rfl rfl (by decide) rfl rfl ?_
  refine w_aload_n rfl rfl rfl ?_
  refine w_sipush (v := 128) rfl rfl (by decide) ?_
  refine w_callV h cs_Sum_end_12 rfl rfl (Nat.le_of_ble_eq_true rfl) rfl (fun S1 h => ?_)
  refine w_iconst (v := 0) rfl rfl (by decide) ?_
  refine w_istore_n _ rfl rfl (by decide) rfl rfl ?_
  exact h

set_option maxRecDepth 100000 in
theorem e_Sum_end_17 {G : px_G} {d : Nat} {x1 x2 : Int32} {S : px_S} {Q : Option Value → px_S → Prop}
    (h : ((64 ≤ x2 → px_w G px_Zc (d + 1) m_Sum_end 48 [.ref 18, .int x1, .int 0] [] S Q) ∧ (¬ (64 ≤ x2) → (((px_rem (S 18 3) 64) = 56 → px_w G px_Zc (d + 1) m_Sum_end 48 [.ref 18, .int x1, .int 0] [] S Q) ∧ (¬ (px_rem (S 18 3) 64) = 56 → px_V G px_Zc d m_Sum_add [.ref 18, .int 0] S (fun S2 => px_w G px_Zc (d + 1) m_Sum_end 17 [.ref 18, .int x1, .int (x2 + 1)] [] S2 Q)))))) :
    px_w G px_Zc (d + 1) m_Sum_end 17 [.ref 18, .int x1, .int x2] [] S Q := by
  refine w_iload_n rfl rfl rfl ?_
  refine w_bipush (v := 64) rfl rfl (by decide) ?_
  refine w_if_icmpge 46 rfl rfl rfl (fun hc => ?_) (fun hc => ?_)
  · have h := h.1 hc
    refine w_iconst (v := 0) rfl rfl (by decide) ?_
    refine w_istore_n _ rfl rfl (by decide) rfl rfl ?_
    exact h
  · have h := h.2 hc
    refine w_aload_n rfl rfl rfl ?_
    refine w_getI rfl rfl fl_Sum_21 rfl rfl ?_
    refine w_bipush (v := 64) rfl rfl (by decide) ?_
    refine w_irem rfl rfl (by decide) ?_
    refine w_bipush (v := 56) rfl rfl (by decide) ?_
    refine w_if_icmpeq 46 rfl rfl rfl (fun hc => ?_) (fun hc => ?_)
    · have h := h.1 hc
      refine w_iconst (v := 0) rfl rfl (by decide) ?_
      refine w_istore_n _ rfl rfl (by decide) rfl rfl ?_
      exact h
    · have h := h.2 hc
      refine w_aload_n rfl rfl rfl ?_
      refine w_iconst (v := 0) rfl rfl (by decide) ?_
      refine w_callV h cs_Sum_end_37 rfl rfl (Nat.le_of_ble_eq_true rfl) rfl (fun S2 h => ?_)
      refine w_iinc (v := 1) _ rfl rfl (by decide) rfl rfl (by decide) rfl ?_
      refine w_goto 17 rfl rfl rfl ?_
      exact h

set_option maxRecDepth 100000 in
theorem e_Sum_end_48 {G : px_G} {d : Nat} {x1 x2 : Int32} {S : px_S} {Q : Option Value → px_S → Prop}
    (h : ((8 ≤ x2 → (∀ S3 : px_S, S3 = (px_u (px_u (px_u (px_u S 21 0 1732584193) 21 1 (-271733879)) 21 2 (-1732584194)) 21 3 271733878) → px_w G px_Zc (d + 1) m_Sum_end 113 [.ref 18, .int x1, .int 0] [] S3 Q)) ∧ (¬ (8 ≤ x2) → ((4 ≤ x2 → px_V G px_Zc d m_Sum_add [.ref 18, .int 0] S (fun S4 => px_w G px_Zc (d + 1) m_Sum_end 48 [.ref 18, .int x1, .int (x2 + 1)] [] S4 Q)) ∧ (¬ (4 ≤ x2) → px_V G px_Zc d m_Sum_add [.ref 18, .int (px_ushr x1 (8 * x2))] S (fun S5 => px_w G px_Zc (d + 1) m_Sum_end 48 [.ref 18, .int x1, .int (x2 + 1)] [] S5 Q)))))) :
    px_w G px_Zc (d + 1) m_Sum_end 48 [.ref 18, .int x1, .int x2] [] S Q := by
  refine w_iload_n rfl rfl rfl ?_
  refine w_bipush (v := 8) rfl rfl (by decide) ?_
  refine w_if_icmpge 79 rfl rfl rfl (fun hc => ?_) (fun hc => ?_)
  · have h := h.1 hc
    refine w_aload_n rfl rfl rfl ?_
    refine w_getR rfl rfl fl_Sum_18 rfl rfl ?_
    refine w_iconst (v := 0) rfl rfl (by decide) ?_
    refine w_ldc rfl rfl lc_Sum_35 ?_
    refine w_iastoreK (j := 0) rfl rfl rfl (by decide) (by decide) (by decide) ?_
    refine w_aload_n rfl rfl rfl ?_
    refine w_getR rfl rfl fl_Sum_18 rfl rfl ?_
    refine w_iconst (v := 1) rfl rfl (by decide) ?_
    refine w_ldc rfl rfl lc_Sum_36 ?_
    refine w_iastoreK (j := 1) rfl rfl rfl (by decide) (by decide) (by decide) ?_
    refine w_aload_n rfl rfl rfl ?_
    refine w_getR rfl rfl fl_Sum_18 rfl rfl ?_
    refine w_iconst (v := 2) rfl rfl (by decide) ?_
    refine w_ldc rfl rfl lc_Sum_37 ?_
    refine w_iastoreK (j := 2) rfl rfl rfl (by decide) (by decide) (by decide) ?_
    refine w_aload_n rfl rfl rfl ?_
    refine w_getR rfl rfl fl_Sum_18 rfl rfl ?_
    refine w_iconst (v := 3) rfl rfl (by decide) ?_
    refine w_ldc rfl rfl lc_Sum_38 ?_
    refine w_iastoreK (j := 3) rfl rfl rfl (by decide) (by decide) (by decide) ?_
    have h := h _ rfl
    refine w_iconst (v := 0) rfl rfl (by decide) ?_
    refine w_istore_n _ rfl rfl (by decide) rfl rfl ?_
    exact h
  · have h := h.2 hc
    refine w_aload_n rfl rfl rfl ?_
    refine w_iload_n rfl rfl rfl ?_
    refine w_iconst (v := 4) rfl rfl (by decide) ?_
    refine w_if_icmpge 69 rfl rfl rfl (fun hc => ?_) (fun hc => ?_)
    · have h := h.1 hc
      refine w_iconst (v := 0) rfl rfl (by decide) ?_
      refine w_callV h cs_Sum_end_70 rfl rfl (Nat.le_of_ble_eq_true rfl) rfl (fun S4 h => ?_)
      refine w_iinc (v := 1) _ rfl rfl (by decide) rfl rfl (by decide) rfl ?_
      refine w_goto 48 rfl rfl rfl ?_
      exact h
    · have h := h.2 hc
      refine w_iload_n rfl rfl rfl ?_
      refine w_bipush (v := 8) rfl rfl (by decide) ?_
      refine w_iload_n rfl rfl rfl ?_
      refine w_imul rfl rfl ?_
      refine w_iushr rfl rfl ?_
      refine w_goto 70 rfl rfl rfl ?_
      refine w_callV h cs_Sum_end_70 rfl rfl (Nat.le_of_ble_eq_true rfl) rfl (fun S5 h => ?_)
      refine w_iinc (v := 1) _ rfl rfl (by decide) rfl rfl (by decide) rfl ?_
      refine w_goto 48 rfl rfl rfl ?_
      exact h

set_option maxRecDepth 100000 in
theorem e_Sum_end_113 {G : px_G} {d : Nat} {x1 x2 : Int32} {S : px_S} {Q : Option Value → px_S → Prop}
    (h : (((S 18 3) < (x2 + 64) → Q none S) ∧ (¬ ((S 18 3) < (x2 + 64)) → px_V G px_Zc d m_Sum_mix [.ref 18, .int x2] S (fun S6 => px_w G px_Zc (d + 1) m_Sum_end 113 [.ref 18, .int x1, .int (x2 + 64)] [] S6 Q)))) :
    px_w G px_Zc (d + 1) m_Sum_end 113 [.ref 18, .int x1, .int x2] [] S Q := by
  refine w_iload_n rfl rfl rfl ?_
  refine w_bipush (v := 64) rfl rfl (by decide) ?_
  refine w_iadd rfl rfl ?_
  refine w_aload_n rfl rfl rfl ?_
  refine w_getI rfl rfl fl_Sum_21 rfl rfl ?_
  refine w_if_icmpgt 135 rfl rfl rfl (fun hc => ?_) (fun hc => ?_)
  · have h := h.1 hc
    exact w_return rfl rfl rfl h
  · have h := h.2 hc
    refine w_aload_n rfl rfl rfl ?_
    refine w_iload_n rfl rfl rfl ?_
    refine w_callV h cs_Sum_end_126 rfl rfl (Nat.le_of_ble_eq_true rfl) rfl (fun S6 h => ?_)
    refine w_iinc (v := 64) _ rfl rfl (by decide) rfl rfl (by decide) rfl ?_
    refine w_goto 113 rfl rfl rfl ?_
    exact h

theorem f_Sum_end {G : px_G} {d : Nat} {S : px_S} {Q : Option Value → px_S → Prop}
    (h : px_V G px_Zc d m_Sum_add [.ref 18, .int 128] S (fun S1 => px_w G px_Zc (d + 1) m_Sum_end 17 [.ref 18, .int (8 * (S 18 3)), .int 0] [] S1 Q)) :
    px_M G px_Zc (d + 1) m_Sum_end [.ref 18] S Q :=
  px_in (Or.inr ⟨_, _, _, _, _, rfl, rfl, rfl, rfl⟩) (by decide) (Nat.le_of_ble_eq_true rfl) (px_en 2 rfl) (e_Sum_end_0 h)

set_option maxRecDepth 100000 in
theorem e_Sum_of_0 {G : px_G} {d : Nat} {o : Nat} {x2 x3 : Int32} {S : px_S} {Q : Option Value → px_S → Prop}
    (h : px_V G px_Zc d m_Sum_begin [.ref 18] S (fun S1 => px_V G px_Zc d m_Sum_addAll [.ref 18, .ref o, .int x2, .int x3] S1 (fun S2 => px_V G px_Zc d m_Sum_end [.ref 18] S2 (fun S3 => Q none S3)))) :
    px_w G px_Zc (d + 1) m_Sum_of 0 [.ref 18, .ref o, .int x2, .int x3] [] S Q := by
  refine w_aload_n rfl rfl rfl ?_
  refine w_callV h cs_Sum_of_1 rfl rfl (Nat.le_of_ble_eq_true rfl) rfl (fun S1 h => ?_)
  refine w_aload_n rfl rfl rfl ?_
  refine w_aload_n rfl rfl rfl ?_
  refine w_iload_n rfl rfl rfl ?_
  refine w_iload_n rfl rfl rfl ?_
  refine w_callV h cs_Sum_of_8 rfl rfl (Nat.le_of_ble_eq_true rfl) rfl (fun S2 h => ?_)
  refine w_aload_n rfl rfl rfl ?_
  refine w_callV h cs_Sum_of_12 rfl rfl (Nat.le_of_ble_eq_true rfl) rfl (fun S3 h => ?_)
  exact w_return rfl rfl rfl h

theorem f_Sum_of {G : px_G} {d : Nat} {o : Nat} {x2 x3 : Int32} {S : px_S} {Q : Option Value → px_S → Prop}
    (h : px_V G px_Zc d m_Sum_begin [.ref 18] S (fun S1 => px_V G px_Zc d m_Sum_addAll [.ref 18, .ref o, .int x2, .int x3] S1 (fun S2 => px_V G px_Zc d m_Sum_end [.ref 18] S2 (fun S3 => Q none S3)))) :
    px_M G px_Zc (d + 1) m_Sum_of [.ref 18, .ref o, .int x2, .int x3] S Q :=
  px_in (Or.inr ⟨_, _, _, _, _, rfl, rfl, rfl, rfl⟩) (by decide) (Nat.le_of_ble_eq_true rfl) (px_en 0 rfl) (e_Sum_of_0 h)

set_option maxRecDepth 100000 in
theorem e_Sum_get_0 {G : px_G} {d : Nat} {x1 : Int32} {S : px_S} {Q : Option Value → px_S → Prop}
    (h : ((x1 < 0 → Q (some (.int 0)) S) ∧ (¬ (x1 < 0) → ((16 ≤ x1 → Q (some (.int 0)) S) ∧ (¬ (16 ≤ x1) → (vp_in (x1 / 4) 4 ∧ Q (some (.int ((px_ushr (S 21 (x1 / 4).toNatClampNeg) (8 * (px_rem x1 4))) &&& 255))) S)))))) :
    px_w G px_Zc d m_Sum_get 0 [.ref 18, .int x1] [] S Q := by
  refine w_iload_n rfl rfl rfl ?_
  refine w_iflt 32 rfl rfl rfl (fun hc => ?_) (fun hc => ?_)
  · have h := h.1 hc
    refine w_iconst (v := 0) rfl rfl (by decide) ?_
    exact w_ireturn rfl rfl rfl h
  · have h := h.2 hc
    refine w_iload_n rfl rfl rfl ?_
    refine w_bipush (v := 16) rfl rfl (by decide) ?_
    refine w_if_icmpge 32 rfl rfl rfl (fun hc => ?_) (fun hc => ?_)
    · have h := h.1 hc
      refine w_iconst (v := 0) rfl rfl (by decide) ?_
      exact w_ireturn rfl rfl rfl h
    · have h := h.2 hc
      refine w_aload_n rfl rfl rfl ?_
      refine w_getR rfl rfl fl_Sum_18 rfl rfl ?_
      refine w_iload_n rfl rfl rfl ?_
      refine w_iconst (v := 4) rfl rfl (by decide) ?_
      refine w_idiv rfl rfl (by decide) ?_
      refine w_iaload rfl rfl rfl h.1 ?_
      have h := h.2
      refine w_bipush (v := 8) rfl rfl (by decide) ?_
      refine w_iload_n rfl rfl rfl ?_
      refine w_iconst (v := 4) rfl rfl (by decide) ?_
      refine w_irem rfl rfl (by decide) ?_
      refine w_imul rfl rfl ?_
      refine w_iushr rfl rfl ?_
      refine w_sipush (v := 255) rfl rfl (by decide) ?_
      refine w_iand rfl rfl ?_
      refine w_goto 33 rfl rfl rfl ?_
      exact w_ireturn rfl rfl rfl h

theorem f_Sum_get {G : px_G} {d : Nat} {x1 : Int32} {S : px_S} {Q : Option Value → px_S → Prop}
    (h : ((x1 < 0 → Q (some (.int 0)) S) ∧ (¬ (x1 < 0) → ((16 ≤ x1 → Q (some (.int 0)) S) ∧ (¬ (16 ≤ x1) → (vp_in (x1 / 4) 4 ∧ Q (some (.int ((px_ushr (S 21 (x1 / 4).toNatClampNeg) (8 * (px_rem x1 4))) &&& 255))) S)))))) :
    px_M G px_Zc d m_Sum_get [.ref 18, .int x1] S Q :=
  px_in (Or.inr ⟨_, _, _, _, _, rfl, rfl, rfl, rfl⟩) (by decide) (Nat.le_of_ble_eq_true rfl) (px_en 0 rfl) (e_Sum_get_0 h)

set_option maxRecDepth 100000 in
theorem e_Sum_standsIn_0 {G : px_G} {d : Nat} {o : Nat} {x2 x3 : Int32} {S : px_S} {Q : Option Value → px_S → Prop}
    (h : px_w G px_Zc (d + 1) m_Sum_standsIn 3 [.ref 18, .ref o, .int x2, .int x3, .int 0] [] S Q) :
    px_w G px_Zc (d + 1) m_Sum_standsIn 0 [.ref 18, .ref o, .int x2, .int x3, .null] [] S Q := by
  refine w_iconst (v := 0) rfl rfl (by decide) ?_
  refine w_istore _ rfl rfl (by decide) rfl rfl ?_
  exact h

set_option maxRecDepth 100000 in
theorem e_Sum_standsIn_3 {G : px_G} {d : Nat} {o : Nat} {x2 x3 x4 : Int32} {S : px_S} {Q : Option Value → px_S → Prop}
    (h : ((x3 ≤ x4 → Q (some (.int 1)) S) ∧ (¬ (x3 ≤ x4) → px_I G px_Zc d m_Row_get [.ref o, .int (x2 + x4)] S (fun r2 S1 => px_I G px_Zc d m_Sum_get [.ref 18, .int x4] S1 (fun r4 S3 => ((r2 = r4 → px_w G px_Zc (d + 1) m_Sum_standsIn 3 [.ref 18, .ref o, .int x2, .int x3, .int (x4 + 1)] [] S3 Q) ∧ (¬ r2 = r4 → Q (some (.int 0)) S3))))))) :
    px_w G px_Zc (d + 1) m_Sum_standsIn 3 [.ref 18, .ref o, .int x2, .int x3, .int x4] [] S Q := by
  refine w_iload rfl rfl rfl ?_
  refine w_iload_n rfl rfl rfl ?_
  refine w_if_icmpge 34 rfl rfl rfl (fun hc => ?_) (fun hc => ?_)
  · have h := h.1 hc
    refine w_iconst (v := 1) rfl rfl (by decide) ?_
    exact w_zreturn rfl rfl rfl (Or.inr rfl) h
  · have h := h.2 hc
    refine w_aload_n rfl rfl rfl ?_
    refine w_iload_n rfl rfl rfl ?_
    refine w_iload rfl rfl rfl ?_
    refine w_iadd rfl rfl ?_
    refine w_callI h cs_Sum_standsIn_14 rfl rfl (Nat.le_of_ble_eq_true rfl) rfl (fun r2 S1 h => ?_)
    refine w_aload_n rfl rfl rfl ?_
    refine w_iload rfl rfl rfl ?_
    refine w_callI h cs_Sum_standsIn_20 rfl rfl (Nat.le_of_ble_eq_true rfl) rfl (fun r4 S3 h => ?_)
    refine w_if_icmpeq 28 rfl rfl rfl (fun hc => ?_) (fun hc => ?_)
    · have h := h.1 hc
      refine w_iinc (v := 1) _ rfl rfl (by decide) rfl rfl (by decide) rfl ?_
      refine w_goto 3 rfl rfl rfl ?_
      exact h
    · have h := h.2 hc
      refine w_iconst (v := 0) rfl rfl (by decide) ?_
      exact w_zreturn rfl rfl rfl (Or.inl rfl) h

theorem f_Sum_standsIn {G : px_G} {d : Nat} {o : Nat} {x2 x3 : Int32} {S : px_S} {Q : Option Value → px_S → Prop}
    (h : px_w G px_Zc (d + 1) m_Sum_standsIn 3 [.ref 18, .ref o, .int x2, .int x3, .int 0] [] S Q) :
    px_M G px_Zc (d + 1) m_Sum_standsIn [.ref 18, .ref o, .int x2, .int x3] S Q :=
  px_in (Or.inr ⟨_, _, _, _, _, rfl, rfl, rfl, rfl⟩) (by decide) (Nat.le_of_ble_eq_true rfl) (px_en 1 rfl) (e_Sum_standsIn_0 h)

set_option maxRecDepth 100000 in
theorem e_Sum_mix_0 {G : px_G} {d : Nat} {x1 : Int32} {S : px_S} {Q : Option Value → px_S → Prop}
    (h : px_w G px_Zc d m_Sum_mix 2 [.ref 18, .int x1, .int 0, .null, .null, .null, .null, .null, .null, .null, .null] [] S Q) :
    px_w G px_Zc d m_Sum_mix 0 [.ref 18, .int x1, .null, .null, .null, .null, .null, .null, .null, .null, .null] [] S Q := by
  refine w_iconst (v := 0) rfl rfl (by decide) ?_
  refine w_istore_n _ rfl rfl (by decide) rfl rfl ?_
  exact h

set_option maxRecDepth 100000 in
theorem e_Sum_mix_2 {G : px_G} {d : Nat} {x1 x2 : Int32} {S : px_S} {Q : Option Value → px_S → Prop}
    (h : ((16 ≤ x2 → px_w G px_Zc d m_Sum_mix 101 [.ref 18, .int x1, .int (S 21 0), .int (S 21 1), .int (S 21 2), .int (S 21 3), .int 0, .null, .null, .null, .null] [] S Q) ∧ (¬ (16 ≤ x2) → (vp_in (x1 + (4 * x2)) 768 ∧ (vp_in ((x1 + (4 * x2)) + 1) 768 ∧ (vp_in ((x1 + (4 * x2)) + 2) 768 ∧ (vp_in ((x1 + (4 * x2)) + 3) 768 ∧ (vp_in x2 16 ∧ (∀ S1 : px_S, S1 = (px_u S 20 x2.toNatClampNeg ((((S 19 (x1 + (4 * x2)).toNatClampNeg) ||| (px_shl (S 19 ((x1 + (4 * x2)) + 1).toNatClampNeg) 8)) ||| (px_shl (S 19 ((x1 + (4 * x2)) + 2).toNatClampNeg) 16)) ||| (px_shl (S 19 ((x1 + (4 * x2)) + 3).toNatClampNeg) 24))) → px_w G px_Zc d m_Sum_mix 2 [.ref 18, .int x1, .int (x2 + 1), .null, .null, .null, .null, .null, .null, .null, .null] [] S1 Q))))))))) :
    px_w G px_Zc d m_Sum_mix 2 [.ref 18, .int x1, .int x2, .null, .null, .null, .null, .null, .null, .null, .null] [] S Q := by
  refine w_iload_n rfl rfl rfl ?_
  refine w_bipush (v := 16) rfl rfl (by decide) ?_
  refine w_if_icmpge 68 rfl rfl rfl (fun hc => ?_) (fun hc => ?_)
  · have h := h.1 hc
    refine w_aload_n rfl rfl rfl ?_
    refine w_getR rfl rfl fl_Sum_18 rfl rfl ?_
    refine w_iconst (v := 0) rfl rfl (by decide) ?_
    refine w_ialoadK (j := 0) rfl rfl rfl (by decide) (by decide) (by decide) ?_
    refine w_istore_n _ rfl rfl (by decide) rfl rfl ?_
    refine w_aload_n rfl rfl rfl ?_
    refine w_getR rfl rfl fl_Sum_18 rfl rfl ?_
    refine w_iconst (v := 1) rfl rfl (by decide) ?_
    refine w_ialoadK (j := 1) rfl rfl rfl (by decide) (by decide) (by decide) ?_
    refine w_istore_n _ rfl rfl (by decide) rfl rfl ?_
    refine w_aload_n rfl rfl rfl ?_
    refine w_getR rfl rfl fl_Sum_18 rfl rfl ?_
    refine w_iconst (v := 2) rfl rfl (by decide) ?_
    refine w_ialoadK (j := 2) rfl rfl rfl (by decide) (by decide) (by decide) ?_
    refine w_istore _ rfl rfl (by decide) rfl rfl ?_
    refine w_aload_n rfl rfl rfl ?_
    refine w_getR rfl rfl fl_Sum_18 rfl rfl ?_
    refine w_iconst (v := 3) rfl rfl (by decide) ?_
    refine w_ialoadK (j := 3) rfl rfl rfl (by decide) (by decide) (by decide) ?_
    refine w_istore _ rfl rfl (by decide) rfl rfl ?_
    refine w_iconst (v := 0) rfl rfl (by decide) ?_
    refine w_istore _ rfl rfl (by decide) rfl rfl ?_
    exact h
  · have h := h.2 hc
    refine w_iload_n rfl rfl rfl ?_
    refine w_iconst (v := 4) rfl rfl (by decide) ?_
    refine w_iload_n rfl rfl rfl ?_
    refine w_imul rfl rfl ?_
    refine w_iadd rfl rfl ?_
    refine w_istore_n _ rfl rfl (by decide) rfl rfl ?_
    refine w_aload_n rfl rfl rfl ?_
    refine w_getR rfl rfl fl_Sum_15 rfl rfl ?_
    refine w_iload_n rfl rfl rfl ?_
    refine w_aload_n rfl rfl rfl ?_
    refine w_getR rfl rfl fl_Sum_11 rfl rfl ?_
    refine w_iload_n rfl rfl rfl ?_
    refine w_iaload rfl rfl rfl h.1 ?_
    have h := h.2
    refine w_aload_n rfl rfl rfl ?_
    refine w_getR rfl rfl fl_Sum_11 rfl rfl ?_
    refine w_iload_n rfl rfl rfl ?_
    refine w_iconst (v := 1) rfl rfl (by decide) ?_
    refine w_iadd rfl rfl ?_
    refine w_iaload rfl rfl rfl h.1 ?_
    have h := h.2
    refine w_bipush (v := 8) rfl rfl (by decide) ?_
    refine w_ishl rfl rfl ?_
    refine w_ior rfl rfl ?_
    refine w_aload_n rfl rfl rfl ?_
    refine w_getR rfl rfl fl_Sum_11 rfl rfl ?_
    refine w_iload_n rfl rfl rfl ?_
    refine w_iconst (v := 2) rfl rfl (by decide) ?_
    refine w_iadd rfl rfl ?_
    refine w_iaload rfl rfl rfl h.1 ?_
    have h := h.2
    refine w_bipush (v := 16) rfl rfl (by decide) ?_
    refine w_ishl rfl rfl ?_
    refine w_ior rfl rfl ?_
    refine w_aload_n rfl rfl rfl ?_
    refine w_getR rfl rfl fl_Sum_11 rfl rfl ?_
    refine w_iload_n rfl rfl rfl ?_
    refine w_iconst (v := 3) rfl rfl (by decide) ?_
    refine w_iadd rfl rfl ?_
    refine w_iaload rfl rfl rfl h.1 ?_
    have h := h.2
    refine w_bipush (v := 24) rfl rfl (by decide) ?_
    refine w_ishl rfl rfl ?_
    refine w_ior rfl rfl ?_
    refine w_iastore rfl rfl rfl h.1 ?_
    have h := h.2
    have h := h _ rfl
    refine w_iinc (v := 1) _ rfl rfl (by decide) rfl rfl (by decide) rfl ?_
    refine w_goto 2 rfl rfl rfl ?_
    refine w_null 3 _ rfl ?_
    exact h

set_option maxRecDepth 100000 in
theorem e_Sum_mix_101 {G : px_G} {d : Nat} {x1 x2 x3 x4 x5 x6 : Int32} {S : px_S} {Q : Option Value → px_S → Prop}
    (h : ((64 ≤ x6 → (∀ S2 : px_S, S2 = (px_u (px_u (px_u S 21 0 ((S 21 0) + x2)) 21 1 (((px_u S 21 0 ((S 21 0) + x2)) 21 1) + x3)) 21 2 (((px_u (px_u S 21 0 ((S 21 0) + x2)) 21 1 (((px_u S 21 0 ((S 21 0) + x2)) 21 1) + x3)) 21 2) + x4)) → Q none (px_u S2 21 3 ((S2 21 3) + x5)))) ∧ (¬ (64 ≤ x6) → ((16 ≤ x6 → ((32 ≤ x6 → ((48 ≤ x6 → px_w G px_Zc d m_Sum_mix 212 [.ref 18, .int x1, .int x2, .int x3, .int x4, .int x5, .int x6, .int (x4 ^^^ (x3 ||| (x5 ^^^ (-1)))), .int (7 * x6), .null, .null] [] S Q) ∧ (¬ (48 ≤ x6) → px_w G px_Zc d m_Sum_mix 212 [.ref 18, .int x1, .int x2, .int x3, .int x4, .int x5, .int x6, .int ((x3 ^^^ x4) ^^^ x5), .int ((3 * x6) + 5), .null, .null] [] S Q))) ∧ (¬ (32 ≤ x6) → px_w G px_Zc d m_Sum_mix 212 [.ref 18, .int x1, .int x2, .int x3, .int x4, .int x5, .int x6, .int ((x5 &&& x3) ||| ((x5 ^^^ (-1)) &&& x4)), .int ((5 * x6) + 1), .null, .null] [] S Q))) ∧ (¬ (16 ≤ x6) → px_w G px_Zc d m_Sum_mix 212 [.ref 18, .int x1, .int x2, .int x3, .int x4, .int x5, .int x6, .int ((x3 &&& x4) ||| ((x3 ^^^ (-1)) &&& x5)), .int x6, .null, .null] [] S Q))))) :
    px_w G px_Zc d m_Sum_mix 101 [.ref 18, .int x1, .int x2, .int x3, .int x4, .int x5, .int x6, .null, .null, .null, .null] [] S Q := by
  refine w_iload rfl rfl rfl ?_
  refine w_bipush (v := 64) rfl rfl (by decide) ?_
  refine w_if_icmpge 287 rfl rfl rfl (fun hc => ?_) (fun hc => ?_)
  · have h := h.1 hc
    refine w_aload_n rfl rfl rfl ?_
    refine w_getR rfl rfl fl_Sum_18 rfl rfl ?_
    refine w_iconst (v := 0) rfl rfl (by decide) ?_
    refine w_dup2 rfl rfl rfl rfl ?_
    refine w_ialoadK (j := 0) rfl rfl rfl (by decide) (by decide) (by decide) ?_
    refine w_iload_n rfl rfl rfl ?_
    refine w_iadd rfl rfl ?_
    refine w_iastoreK (j := 0) rfl rfl rfl (by decide) (by decide) (by decide) ?_
    refine w_aload_n rfl rfl rfl ?_
    refine w_getR rfl rfl fl_Sum_18 rfl rfl ?_
    refine w_iconst (v := 1) rfl rfl (by decide) ?_
    refine w_dup2 rfl rfl rfl rfl ?_
    refine w_ialoadK (j := 1) rfl rfl rfl (by decide) (by decide) (by decide) ?_
    refine w_iload_n rfl rfl rfl ?_
    refine w_iadd rfl rfl ?_
    refine w_iastoreK (j := 1) rfl rfl rfl (by decide) (by decide) (by decide) ?_
    refine w_aload_n rfl rfl rfl ?_
    refine w_getR rfl rfl fl_Sum_18 rfl rfl ?_
    refine w_iconst (v := 2) rfl rfl (by decide) ?_
    refine w_dup2 rfl rfl rfl rfl ?_
    refine w_ialoadK (j := 2) rfl rfl rfl (by decide) (by decide) (by decide) ?_
    refine w_iload rfl rfl rfl ?_
    refine w_iadd rfl rfl ?_
    refine w_iastoreK (j := 2) rfl rfl rfl (by decide) (by decide) (by decide) ?_
    have h := h _ rfl
    refine w_aload_n rfl rfl rfl ?_
    refine w_getR rfl rfl fl_Sum_18 rfl rfl ?_
    refine w_iconst (v := 3) rfl rfl (by decide) ?_
    refine w_dup2 rfl rfl rfl rfl ?_
    refine w_ialoadK (j := 3) rfl rfl rfl (by decide) (by decide) (by decide) ?_
    refine w_iload rfl rfl rfl ?_
    refine w_iadd rfl rfl ?_
    refine w_iastoreK (j := 3) rfl rfl rfl (by decide) (by decide) (by decide) ?_
    exact w_return rfl rfl rfl h
  · have h := h.2 hc
    refine w_iload rfl rfl rfl ?_
    refine w_bipush (v := 16) rfl rfl (by decide) ?_
    refine w_if_icmpge 135 rfl rfl rfl (fun hc => ?_) (fun hc => ?_)
    · have h := h.1 hc
      refine w_iload rfl rfl rfl ?_
      refine w_bipush (v := 32) rfl rfl (by decide) ?_
      refine w_if_icmpge 167 rfl rfl rfl (fun hc => ?_) (fun hc => ?_)
      · have h := h.1 hc
        refine w_iload rfl rfl rfl ?_
        refine w_bipush (v := 48) rfl rfl (by decide) ?_
        refine w_if_icmpge 194 rfl rfl rfl (fun hc => ?_) (fun hc => ?_)
        · have h := h.1 hc
          refine w_iload rfl rfl rfl ?_
          refine w_iload_n rfl rfl rfl ?_
          refine w_iload rfl rfl rfl ?_
          refine w_iconst (v := -1) rfl rfl (by decide) ?_
          refine w_ixor rfl rfl ?_
          refine w_ior rfl rfl ?_
          refine w_ixor rfl rfl ?_
          refine w_istore _ rfl rfl (by decide) rfl rfl ?_
          refine w_bipush (v := 7) rfl rfl (by decide) ?_
          refine w_iload rfl rfl rfl ?_
          refine w_imul rfl rfl ?_
          refine w_istore _ rfl rfl (by decide) rfl rfl ?_
          exact h
        · have h := h.2 hc
          refine w_iload_n rfl rfl rfl ?_
          refine w_iload rfl rfl rfl ?_
          refine w_ixor rfl rfl ?_
          refine w_iload rfl rfl rfl ?_
          refine w_ixor rfl rfl ?_
          refine w_istore _ rfl rfl (by decide) rfl rfl ?_
          refine w_iconst (v := 3) rfl rfl (by decide) ?_
          refine w_iload rfl rfl rfl ?_
          refine w_imul rfl rfl ?_
          refine w_iconst (v := 5) rfl rfl (by decide) ?_
          refine w_iadd rfl rfl ?_
          refine w_istore _ rfl rfl (by decide) rfl rfl ?_
          refine w_goto 212 rfl rfl rfl ?_
          exact h
      · have h := h.2 hc
        refine w_iload rfl rfl rfl ?_
        refine w_iload_n rfl rfl rfl ?_
        refine w_iand rfl rfl ?_
        refine w_iload rfl rfl rfl ?_
        refine w_iconst (v := -1) rfl rfl (by decide) ?_
        refine w_ixor rfl rfl ?_
        refine w_iload rfl rfl rfl ?_
        refine w_iand rfl rfl ?_
        refine w_ior rfl rfl ?_
        refine w_istore _ rfl rfl (by decide) rfl rfl ?_
        refine w_iconst (v := 5) rfl rfl (by decide) ?_
        refine w_iload rfl rfl rfl ?_
        refine w_imul rfl rfl ?_
        refine w_iconst (v := 1) rfl rfl (by decide) ?_
        refine w_iadd rfl rfl ?_
        refine w_istore _ rfl rfl (by decide) rfl rfl ?_
        refine w_goto 212 rfl rfl rfl ?_
        exact h
    · have h := h.2 hc
      refine w_iload_n rfl rfl rfl ?_
      refine w_iload rfl rfl rfl ?_
      refine w_iand rfl rfl ?_
      refine w_iload_n rfl rfl rfl ?_
      refine w_iconst (v := -1) rfl rfl (by decide) ?_
      refine w_ixor rfl rfl ?_
      refine w_iload rfl rfl rfl ?_
      refine w_iand rfl rfl ?_
      refine w_ior rfl rfl ?_
      refine w_istore _ rfl rfl (by decide) rfl rfl ?_
      refine w_iload rfl rfl rfl ?_
      refine w_istore _ rfl rfl (by decide) rfl rfl ?_
      refine w_goto 212 rfl rfl rfl ?_
      exact h

set_option maxRecDepth 100000 in
theorem e_Sum_mix_212 {G : px_G} {d : Nat} {x1 x2 x3 x4 x5 x6 x7 x8 : Int32} {S : px_S} {Q : Option Value → px_S → Prop}
    (h : (vp_in x6 64 ∧ (vp_in (px_rem x8 16) 16 ∧ (∀ y3 : Int32, y3 = (((x7 + x2) + (px_t0.getD x6.toNatClampNeg 0)) + (S 20 (px_rem x8 16).toNatClampNeg)) → (vp_in (((x6 / 16) * 4) + (px_rem x6 4)) 16 ∧ (∀ y4 : Int32, y4 = (px_t1.getD (((x6 / 16) * 4) + (px_rem x6 4)).toNatClampNeg 0) → (∀ y5 : Int32, y5 = (x3 + ((px_shl y3 y4) ||| (px_ushr y3 (32 - y4)))) → px_w G px_Zc d m_Sum_mix 101 [.ref 18, .int x1, .int x5, .int y5, .int x3, .int x4, .int (x6 + 1), .null, .null, .null, .null] [] S Q))))))) :
    px_w G px_Zc d m_Sum_mix 212 [.ref 18, .int x1, .int x2, .int x3, .int x4, .int x5, .int x6, .int x7, .int x8, .null, .null] [] S Q := by
  refine w_iload rfl rfl rfl ?_
  refine w_iload_n rfl rfl rfl ?_
  refine w_iadd rfl rfl ?_
  refine w_getstatic rfl rfl sl_Sum_53 ?_
  refine w_iload rfl rfl rfl ?_
  refine w_tload rfl rfl rfl h.1 ?_
  have h := h.2
  refine w_iadd rfl rfl ?_
  refine w_aload_n rfl rfl rfl ?_
  refine w_getR rfl rfl fl_Sum_15 rfl rfl ?_
  refine w_iload rfl rfl rfl ?_
  refine w_bipush (v := 16) rfl rfl (by decide) ?_
  refine w_irem rfl rfl (by decide) ?_
  refine w_iaload rfl rfl rfl h.1 ?_
  have h := h.2
  refine w_iadd rfl rfl ?_
  have h := h _ rfl
  refine w_istore _ rfl rfl (by decide) rfl rfl ?_
  refine w_getstatic rfl rfl sl_Sum_56 ?_
  refine w_iload rfl rfl rfl ?_
  refine w_bipush (v := 16) rfl rfl (by decide) ?_
  refine w_idiv rfl rfl (by decide) ?_
  refine w_iconst (v := 4) rfl rfl (by decide) ?_
  refine w_imul rfl rfl ?_
  refine w_iload rfl rfl rfl ?_
  refine w_iconst (v := 4) rfl rfl (by decide) ?_
  refine w_irem rfl rfl (by decide) ?_
  refine w_iadd rfl rfl ?_
  refine w_tload rfl rfl rfl h.1 ?_
  have h := h.2
  have h := h _ rfl
  refine w_istore _ rfl rfl (by decide) rfl rfl ?_
  refine w_iload rfl rfl rfl ?_
  refine w_istore_n _ rfl rfl (by decide) rfl rfl ?_
  refine w_iload rfl rfl rfl ?_
  refine w_istore _ rfl rfl (by decide) rfl rfl ?_
  refine w_iload_n rfl rfl rfl ?_
  refine w_istore _ rfl rfl (by decide) rfl rfl ?_
  refine w_iload_n rfl rfl rfl ?_
  refine w_iload rfl rfl rfl ?_
  refine w_iload rfl rfl rfl ?_
  refine w_ishl rfl rfl ?_
  refine w_iload rfl rfl rfl ?_
  refine w_bipush (v := 32) rfl rfl (by decide) ?_
  refine w_iload rfl rfl rfl ?_
  refine w_isub rfl rfl ?_
  refine w_iushr rfl rfl ?_
  refine w_ior rfl rfl ?_
  refine w_iadd rfl rfl ?_
  have h := h _ rfl
  refine w_istore_n _ rfl rfl (by decide) rfl rfl ?_
  refine w_iinc (v := 1) _ rfl rfl (by decide) rfl rfl (by decide) rfl ?_
  refine w_goto 101 rfl rfl rfl ?_
  refine w_null 7 _ rfl ?_
  refine w_null 8 _ rfl ?_
  refine w_null 9 _ rfl ?_
  refine w_null 10 _ rfl ?_
  exact h

theorem f_Sum_mix {G : px_G} {d : Nat} {x1 : Int32} {S : px_S} {Q : Option Value → px_S → Prop}
    (h : px_w G px_Zc d m_Sum_mix 2 [.ref 18, .int x1, .int 0, .null, .null, .null, .null, .null, .null, .null, .null] [] S Q) :
    px_M G px_Zc d m_Sum_mix [.ref 18, .int x1] S Q :=
  px_in (Or.inr ⟨_, _, _, _, _, rfl, rfl, rfl, rfl⟩) (by decide) (Nat.le_of_ble_eq_true rfl) (px_en 9 rfl) (e_Sum_mix_0 h)

set_option maxRecDepth 100000 in
theorem e_Check_of_0 {G : px_G} {d : Nat} {o : Nat} {x1 x2 : Int32} {S : px_S} {Q : Option Value → px_S → Prop}
    (h : px_w G px_Zc (d + 1) m_Check_of 5 [.ref o, .int x1, .int x2, .int (-1), .int 0, .null, .null] [] S Q) :
    px_w G px_Zc (d + 1) m_Check_of 0 [.ref o, .int x1, .int x2, .null, .null, .null, .null] [] S Q := by
  refine w_iconst (v := -1) rfl rfl (by decide) ?_
  refine w_istore_n _ rfl rfl (by decide) rfl rfl ?_
  refine w_iconst (v := 0) rfl rfl (by decide) ?_
  refine w_istore _ rfl rfl (by decide) rfl rfl ?_
  exact h

set_option maxRecDepth 100000 in
theorem e_Check_of_5 {G : px_G} {d : Nat} {o : Nat} {x1 x2 x3 x4 : Int32} {S : px_S} {Q : Option Value → px_S → Prop}
    (h : ((x2 ≤ x4 → Q (some (.int (x3 ^^^ (-1)))) S) ∧ (¬ (x2 ≤ x4) → px_I G px_Zc d m_Row_get [.ref o, .int (x1 + x4)] S (fun r2 S1 => px_w G px_Zc (d + 1) m_Check_of 25 [.ref o, .int x1, .int x2, .int (x3 ^^^ r2), .int x4, .int 0, .null] [] S1 Q)))) :
    px_w G px_Zc (d + 1) m_Check_of 5 [.ref o, .int x1, .int x2, .int x3, .int x4, .null, .null] [] S Q := by
  refine w_iload rfl rfl rfl ?_
  refine w_iload_n rfl rfl rfl ?_
  refine w_if_icmpge 64 rfl rfl rfl (fun hc => ?_) (fun hc => ?_)
  · have h := h.1 hc
    refine w_iload_n rfl rfl rfl ?_
    refine w_iconst (v := -1) rfl rfl (by decide) ?_
    refine w_ixor rfl rfl ?_
    exact w_ireturn rfl rfl rfl h
  · have h := h.2 hc
    refine w_iload_n rfl rfl rfl ?_
    refine w_aload_n rfl rfl rfl ?_
    refine w_iload_n rfl rfl rfl ?_
    refine w_iload rfl rfl rfl ?_
    refine w_iadd rfl rfl ?_
    refine w_callI h cs_Check_of_17 rfl rfl (Nat.le_of_ble_eq_true rfl) rfl (fun r2 S1 h => ?_)
    refine w_ixor rfl rfl ?_
    refine w_istore_n _ rfl rfl (by decide) rfl rfl ?_
    refine w_iconst (v := 0) rfl rfl (by decide) ?_
    refine w_istore _ rfl rfl (by decide) rfl rfl ?_
    exact h

set_option maxRecDepth 100000 in
theorem e_Check_of_25 {G : px_G} {d : Nat} {o : Nat} {x1 x2 x3 x4 x5 : Int32} {S : px_S} {Q : Option Value → px_S → Prop}
    (h : ((8 ≤ x5 → px_w G px_Zc (d + 1) m_Check_of 5 [.ref o, .int x1, .int x2, .int x3, .int (x4 + 1), .null, .null] [] S Q) ∧ (¬ (8 ≤ x5) → ((¬ (x3 &&& 1) = 1 → px_w G px_Zc (d + 1) m_Check_of 25 [.ref o, .int x1, .int x2, .int (px_ushr x3 1), .int x4, .int (x5 + 1), .null] [] S Q) ∧ ((x3 &&& 1) = 1 → px_w G px_Zc (d + 1) m_Check_of 25 [.ref o, .int x1, .int x2, .int ((px_ushr x3 1) ^^^ (-306674912)), .int x4, .int (x5 + 1), .null] [] S Q))))) :
    px_w G px_Zc (d + 1) m_Check_of 25 [.ref o, .int x1, .int x2, .int x3, .int x4, .int x5, .null] [] S Q := by
  refine w_iload rfl rfl rfl ?_
  refine w_bipush (v := 8) rfl rfl (by decide) ?_
  refine w_if_icmpge 58 rfl rfl rfl (fun hc => ?_) (fun hc => ?_)
  · have h := h.1 hc
    refine w_iinc (v := 1) _ rfl rfl (by decide) rfl rfl (by decide) rfl ?_
    refine w_goto 5 rfl rfl rfl ?_
    refine w_null 5 _ rfl ?_
    exact h
  · have h := h.2 hc
    refine w_iload_n rfl rfl rfl ?_
    refine w_iconst (v := 1) rfl rfl (by decide) ?_
    refine w_iand rfl rfl ?_
    refine w_istore _ rfl rfl (by decide) rfl rfl ?_
    refine w_iload_n rfl rfl rfl ?_
    refine w_iconst (v := 1) rfl rfl (by decide) ?_
    refine w_iushr rfl rfl ?_
    refine w_istore_n _ rfl rfl (by decide) rfl rfl ?_
    refine w_iload rfl rfl rfl ?_
    refine w_iconst (v := 1) rfl rfl (by decide) ?_
    refine w_if_icmpne 52 rfl rfl rfl (fun hc => ?_) (fun hc => ?_)
    · have h := h.1 hc
      refine w_iinc (v := 1) _ rfl rfl (by decide) rfl rfl (by decide) rfl ?_
      refine w_goto 25 rfl rfl rfl ?_
      refine w_null 6 _ rfl ?_
      exact h
    · have h := h.2 hc
      refine w_iload_n rfl rfl rfl ?_
      refine w_ldc rfl rfl lc_Check_13 ?_
      refine w_ixor rfl rfl ?_
      refine w_istore_n _ rfl rfl (by decide) rfl rfl ?_
      refine w_iinc (v := 1) _ rfl rfl (by decide) rfl rfl (by decide) rfl ?_
      refine w_goto 25 rfl rfl rfl ?_
      refine w_null 6 _ rfl ?_
      exact h

theorem f_Check_of {G : px_G} {d : Nat} {o : Nat} {x1 x2 : Int32} {S : px_S} {Q : Option Value → px_S → Prop}
    (h : px_w G px_Zc (d + 1) m_Check_of 5 [.ref o, .int x1, .int x2, .int (-1), .int 0, .null, .null] [] S Q) :
    px_M G px_Zc (d + 1) m_Check_of [.ref o, .int x1, .int x2] S Q :=
  px_in (Or.inl rfl) (by decide) (Nat.le_of_ble_eq_true rfl) (px_en 4 rfl) (e_Check_of_0 h)

set_option maxRecDepth 100000 in
theorem e_Field_times_0 {G : px_G} {d : Nat} {x0 x1 : Int32} {S : px_S} {Q : Option Value → px_S → Prop}
    (h : px_w G px_Zc d m_Field_times 7 [.int x0, .int x1, .int 0, .int x0, .int 0] [] S Q) :
    px_w G px_Zc d m_Field_times 0 [.int x0, .int x1, .null, .null, .null] [] S Q := by
  refine w_iconst (v := 0) rfl rfl (by decide) ?_
  refine w_istore_n _ rfl rfl (by decide) rfl rfl ?_
  refine w_iload_n rfl rfl rfl ?_
  refine w_istore_n _ rfl rfl (by decide) rfl rfl ?_
  refine w_iconst (v := 0) rfl rfl (by decide) ?_
  refine w_istore _ rfl rfl (by decide) rfl rfl ?_
  exact h

set_option maxRecDepth 100000 in
theorem e_Field_times_7 {G : px_G} {d : Nat} {x0 x1 x2 x3 x4 : Int32} {S : px_S} {Q : Option Value → px_S → Prop}
    (h : ((16 ≤ x4 → Q (some (.int x2)) S) ∧ (¬ (16 ≤ x4) → (((px_ushr x1 x4) = 0 → Q (some (.int x2)) S) ∧ (¬ (px_ushr x1 x4) = 0 → ((¬ ((px_ushr x1 x4) &&& 1) = 1 → (((px_ushr (px_shl x3 1) 16) = 0 → px_w G px_Zc d m_Field_times 7 [.int x0, .int x1, .int x2, .int (px_shl x3 1), .int (x4 + 1)] [] S Q) ∧ (¬ (px_ushr (px_shl x3 1) 16) = 0 → px_w G px_Zc d m_Field_times 7 [.int x0, .int x1, .int x2, .int ((px_shl x3 1) ^^^ 69643), .int (x4 + 1)] [] S Q))) ∧ (((px_ushr x1 x4) &&& 1) = 1 → (((px_ushr (px_shl x3 1) 16) = 0 → px_w G px_Zc d m_Field_times 7 [.int x0, .int x1, .int (x2 ^^^ x3), .int (px_shl x3 1), .int (x4 + 1)] [] S Q) ∧ (¬ (px_ushr (px_shl x3 1) 16) = 0 → px_w G px_Zc d m_Field_times 7 [.int x0, .int x1, .int (x2 ^^^ x3), .int ((px_shl x3 1) ^^^ 69643), .int (x4 + 1)] [] S Q))))))))) :
    px_w G px_Zc d m_Field_times 7 [.int x0, .int x1, .int x2, .int x3, .int x4] [] S Q := by
  refine w_iload rfl rfl rfl ?_
  refine w_bipush (v := 16) rfl rfl (by decide) ?_
  refine w_if_icmpge 57 rfl rfl rfl (fun hc => ?_) (fun hc => ?_)
  · have h := h.1 hc
    refine w_iload_n rfl rfl rfl ?_
    exact w_ireturn rfl rfl rfl h
  · have h := h.2 hc
    refine w_iload_n rfl rfl rfl ?_
    refine w_iload rfl rfl rfl ?_
    refine w_iushr rfl rfl ?_
    refine w_ifeq 57 rfl rfl rfl (fun hc => ?_) (fun hc => ?_)
    · have h := h.1 hc
      refine w_iload_n rfl rfl rfl ?_
      exact w_ireturn rfl rfl rfl h
    · have h := h.2 hc
      refine w_iload_n rfl rfl rfl ?_
      refine w_iload rfl rfl rfl ?_
      refine w_iushr rfl rfl ?_
      refine w_iconst (v := 1) rfl rfl (by decide) ?_
      refine w_iand rfl rfl ?_
      refine w_iconst (v := 1) rfl rfl (by decide) ?_
      refine w_if_icmpne 35 rfl rfl rfl (fun hc => ?_) (fun hc => ?_)
      · have h := h.1 hc
        refine w_iload_n rfl rfl rfl ?_
        refine w_iconst (v := 1) rfl rfl (by decide) ?_
        refine w_ishl rfl rfl ?_
        refine w_istore_n _ rfl rfl (by decide) rfl rfl ?_
        refine w_iload_n rfl rfl rfl ?_
        refine w_bipush (v := 16) rfl rfl (by decide) ?_
        refine w_iushr rfl rfl ?_
        refine w_ifeq 51 rfl rfl rfl (fun hc => ?_) (fun hc => ?_)
        · have h := h.1 hc
          refine w_iinc (v := 1) _ rfl rfl (by decide) rfl rfl (by decide) rfl ?_
          refine w_goto 7 rfl rfl rfl ?_
          exact h
        · have h := h.2 hc
          refine w_iload_n rfl rfl rfl ?_
          refine w_ldc rfl rfl lc_Field_11 ?_
          refine w_ixor rfl rfl ?_
          refine w_istore_n _ rfl rfl (by decide) rfl rfl ?_
          refine w_iinc (v := 1) _ rfl rfl (by decide) rfl rfl (by decide) rfl ?_
          refine w_goto 7 rfl rfl rfl ?_
          exact h
      · have h := h.2 hc
        refine w_iload_n rfl rfl rfl ?_
        refine w_iload_n rfl rfl rfl ?_
        refine w_ixor rfl rfl ?_
        refine w_istore_n _ rfl rfl (by decide) rfl rfl ?_
        refine w_iload_n rfl rfl rfl ?_
        refine w_iconst (v := 1) rfl rfl (by decide) ?_
        refine w_ishl rfl rfl ?_
        refine w_istore_n _ rfl rfl (by decide) rfl rfl ?_
        refine w_iload_n rfl rfl rfl ?_
        refine w_bipush (v := 16) rfl rfl (by decide) ?_
        refine w_iushr rfl rfl ?_
        refine w_ifeq 51 rfl rfl rfl (fun hc => ?_) (fun hc => ?_)
        · have h := h.1 hc
          refine w_iinc (v := 1) _ rfl rfl (by decide) rfl rfl (by decide) rfl ?_
          refine w_goto 7 rfl rfl rfl ?_
          exact h
        · have h := h.2 hc
          refine w_iload_n rfl rfl rfl ?_
          refine w_ldc rfl rfl lc_Field_11 ?_
          refine w_ixor rfl rfl ?_
          refine w_istore_n _ rfl rfl (by decide) rfl rfl ?_
          refine w_iinc (v := 1) _ rfl rfl (by decide) rfl rfl (by decide) rfl ?_
          refine w_goto 7 rfl rfl rfl ?_
          exact h

theorem f_Field_times {G : px_G} {d : Nat} {x0 x1 : Int32} {S : px_S} {Q : Option Value → px_S → Prop}
    (h : px_w G px_Zc d m_Field_times 7 [.int x0, .int x1, .int 0, .int x0, .int 0] [] S Q) :
    px_M G px_Zc d m_Field_times [.int x0, .int x1] S Q :=
  px_in (Or.inl rfl) (by decide) (Nat.le_of_ble_eq_true rfl) (px_en 3 rfl) (e_Field_times_0 h)

set_option maxRecDepth 100000 in
theorem e_Field_power_0 {G : px_G} {d : Nat} {x0 x1 : Int32} {S : px_S} {Q : Option Value → px_S → Prop}
    (h : px_w G px_Zc (d + 1) m_Field_power 7 [.int x0, .int x1, .int 1, .int x0, .int 0] [] S Q) :
    px_w G px_Zc (d + 1) m_Field_power 0 [.int x0, .int x1, .null, .null, .null] [] S Q := by
  refine w_iconst (v := 1) rfl rfl (by decide) ?_
  refine w_istore_n _ rfl rfl (by decide) rfl rfl ?_
  refine w_iload_n rfl rfl rfl ?_
  refine w_istore_n _ rfl rfl (by decide) rfl rfl ?_
  refine w_iconst (v := 0) rfl rfl (by decide) ?_
  refine w_istore _ rfl rfl (by decide) rfl rfl ?_
  exact h

set_option maxRecDepth 100000 in
theorem e_Field_power_7 {G : px_G} {d : Nat} {x0 x1 x2 x3 x4 : Int32} {S : px_S} {Q : Option Value → px_S → Prop}
    (h : ((16 ≤ x4 → Q (some (.int x2)) S) ∧ (¬ (16 ≤ x4) → (((px_ushr x1 x4) = 0 → Q (some (.int x2)) S) ∧ (¬ (px_ushr x1 x4) = 0 → ((¬ ((px_ushr x1 x4) &&& 1) = 1 → px_I G px_Zc d m_Field_times [.int x3, .int x3] S (fun r2 S1 => px_w G px_Zc (d + 1) m_Field_power 7 [.int x0, .int x1, .int x2, .int r2, .int (x4 + 1)] [] S1 Q)) ∧ (((px_ushr x1 x4) &&& 1) = 1 → px_I G px_Zc d m_Field_times [.int x2, .int x3] S (fun r4 S3 => px_I G px_Zc d m_Field_times [.int x3, .int x3] S3 (fun r6 S5 => px_w G px_Zc (d + 1) m_Field_power 7 [.int x0, .int x1, .int r4, .int r6, .int (x4 + 1)] [] S5 Q))))))))) :
    px_w G px_Zc (d + 1) m_Field_power 7 [.int x0, .int x1, .int x2, .int x3, .int x4] [] S Q := by
  refine w_iload rfl rfl rfl ?_
  refine w_bipush (v := 16) rfl rfl (by decide) ?_
  refine w_if_icmpge 49 rfl rfl rfl (fun hc => ?_) (fun hc => ?_)
  · have h := h.1 hc
    refine w_iload_n rfl rfl rfl ?_
    exact w_ireturn rfl rfl rfl h
  · have h := h.2 hc
    refine w_iload_n rfl rfl rfl ?_
    refine w_iload rfl rfl rfl ?_
    refine w_iushr rfl rfl ?_
    refine w_ifeq 49 rfl rfl rfl (fun hc => ?_) (fun hc => ?_)
    · have h := h.1 hc
      refine w_iload_n rfl rfl rfl ?_
      exact w_ireturn rfl rfl rfl h
    · have h := h.2 hc
      refine w_iload_n rfl rfl rfl ?_
      refine w_iload rfl rfl rfl ?_
      refine w_iushr rfl rfl ?_
      refine w_iconst (v := 1) rfl rfl (by decide) ?_
      refine w_iand rfl rfl ?_
      refine w_iconst (v := 1) rfl rfl (by decide) ?_
      refine w_if_icmpne 37 rfl rfl rfl (fun hc => ?_) (fun hc => ?_)
      · have h := h.1 hc
        refine w_iload_n rfl rfl rfl ?_
        refine w_iload_n rfl rfl rfl ?_
        refine w_callI h cs_Field_power_39 rfl rfl (Nat.le_of_ble_eq_true rfl) rfl (fun r2 S1 h => ?_)
        refine w_istore_n _ rfl rfl (by decide) rfl rfl ?_
        refine w_iinc (v := 1) _ rfl rfl (by decide) rfl rfl (by decide) rfl ?_
        refine w_goto 7 rfl rfl rfl ?_
        exact h
      · have h := h.2 hc
        refine w_iload_n rfl rfl rfl ?_
        refine w_iload_n rfl rfl rfl ?_
        refine w_callI h cs_Field_power_33 rfl rfl (Nat.le_of_ble_eq_true rfl) rfl (fun r4 S3 h => ?_)
        refine w_istore_n _ rfl rfl (by decide) rfl rfl ?_
        refine w_iload_n rfl rfl rfl ?_
        refine w_iload_n rfl rfl rfl ?_
        refine w_callI h cs_Field_power_39 rfl rfl (Nat.le_of_ble_eq_true rfl) rfl (fun r6 S5 h => ?_)
        refine w_istore_n _ rfl rfl (by decide) rfl rfl ?_
        refine w_iinc (v := 1) _ rfl rfl (by decide) rfl rfl (by decide) rfl ?_
        refine w_goto 7 rfl rfl rfl ?_
        exact h

theorem f_Field_power {G : px_G} {d : Nat} {x0 x1 : Int32} {S : px_S} {Q : Option Value → px_S → Prop}
    (h : px_w G px_Zc (d + 1) m_Field_power 7 [.int x0, .int x1, .int 1, .int x0, .int 0] [] S Q) :
    px_M G px_Zc (d + 1) m_Field_power [.int x0, .int x1] S Q :=
  px_in (Or.inl rfl) (by decide) (Nat.le_of_ble_eq_true rfl) (px_en 3 rfl) (e_Field_power_0 h)

set_option maxRecDepth 100000 in
theorem e_Field_inverse_0 {G : px_G} {d : Nat} {x0 : Int32} {S : px_S} {Q : Option Value → px_S → Prop}
    (h : px_I G px_Zc d m_Field_power [.int x0, .int 65534] S (fun r2 S1 => Q (some (.int r2)) S1)) :
    px_w G px_Zc (d + 1) m_Field_inverse 0 [.int x0] [] S Q := by
  refine w_iload_n rfl rfl rfl ?_
  refine w_ldc rfl rfl lc_Field_16 ?_
  refine w_callI h cs_Field_inverse_3 rfl rfl (Nat.le_of_ble_eq_true rfl) rfl (fun r2 S1 h => ?_)
  exact w_ireturn rfl rfl rfl h

theorem f_Field_inverse {G : px_G} {d : Nat} {x0 : Int32} {S : px_S} {Q : Option Value → px_S → Prop}
    (h : px_I G px_Zc d m_Field_power [.int x0, .int 65534] S (fun r2 S1 => Q (some (.int r2)) S1)) :
    px_M G px_Zc (d + 1) m_Field_inverse [.int x0] S Q :=
  px_in (Or.inl rfl) (by decide) (Nat.le_of_ble_eq_true rfl) (px_en 0 rfl) (e_Field_inverse_0 h)

set_option maxRecDepth 100000 in
theorem e_Field_basePower_0 {G : px_G} {d : Nat} {x0 x1 : Int32} {S : px_S} {Q : Option Value → px_S → Prop}
    (h : ((x0 < 0 → Q (some (.int 0)) S) ∧ (¬ (x0 < 0) → ((12 ≤ x0 → Q (some (.int 0)) S) ∧ (¬ (12 ≤ x0) → (vp_in x0 12 ∧ px_I G px_Zc d m_Field_power [.int 2, .int ((px_t2.getD x0.toNatClampNeg 0) * x1)] S (fun r2 S1 => Q (some (.int r2)) S1))))))) :
    px_w G px_Zc (d + 1) m_Field_basePower 0 [.int x0, .int x1] [] S Q := by
  refine w_iload_n rfl rfl rfl ?_
  refine w_iflt 24 rfl rfl rfl (fun hc => ?_) (fun hc => ?_)
  · have h := h.1 hc
    refine w_iconst (v := 0) rfl rfl (by decide) ?_
    exact w_ireturn rfl rfl rfl h
  · have h := h.2 hc
    refine w_iload_n rfl rfl rfl ?_
    refine w_bipush (v := 12) rfl rfl (by decide) ?_
    refine w_if_icmpge 24 rfl rfl rfl (fun hc => ?_) (fun hc => ?_)
    · have h := h.1 hc
      refine w_iconst (v := 0) rfl rfl (by decide) ?_
      exact w_ireturn rfl rfl rfl h
    · have h := h.2 hc
      refine w_iconst (v := 2) rfl rfl (by decide) ?_
      refine w_getstatic rfl rfl sl_Field_20 ?_
      refine w_iload_n rfl rfl rfl ?_
      refine w_tload rfl rfl rfl h.1 ?_
      have h := h.2
      refine w_iload_n rfl rfl rfl ?_
      refine w_imul rfl rfl ?_
      refine w_callI h cs_Field_basePower_18 rfl rfl (Nat.le_of_ble_eq_true rfl) rfl (fun r2 S1 h => ?_)
      refine w_goto 25 rfl rfl rfl ?_
      exact w_ireturn rfl rfl rfl h

theorem f_Field_basePower {G : px_G} {d : Nat} {x0 x1 : Int32} {S : px_S} {Q : Option Value → px_S → Prop}
    (h : ((x0 < 0 → Q (some (.int 0)) S) ∧ (¬ (x0 < 0) → ((12 ≤ x0 → Q (some (.int 0)) S) ∧ (¬ (12 ≤ x0) → (vp_in x0 12 ∧ px_I G px_Zc d m_Field_power [.int 2, .int ((px_t2.getD x0.toNatClampNeg 0) * x1)] S (fun r2 S1 => Q (some (.int r2)) S1))))))) :
    px_M G px_Zc (d + 1) m_Field_basePower [.int x0, .int x1] S Q :=
  px_in (Or.inl rfl) (by decide) (Nat.le_of_ble_eq_true rfl) (px_en 0 rfl) (e_Field_basePower_0 h)

