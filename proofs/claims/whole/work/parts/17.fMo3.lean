set_option maxRecDepth 100000 in
theorem e_Mo_scanned_178 {G : px_G} {d : Nat} {x1 : Int32} {S : px_S} {Q : Option Value → px_S → Prop}
    (h : (((S 0 6) ≤ x1 → Q (some (.int 1)) S) ∧ (¬ ((S 0 6) ≤ x1) → px_I G px_Zr d m_Mo_isPacket [.ref 0, .int x1] S (fun r16 S15 => ((r16 = 0 → px_I G px_Zr d m_Mo_next [.ref 0, .int x1] S15 (fun r18 S17 => px_w G px_Zr (d + 1) m_Mo_scanned 178 [.ref 0, .int r18] [] S17 Q)) ∧ (¬ r16 = 0 → px_I G px_Zr d m_Mo_setOf [.ref 0, .int x1] S15 (fun r20 S19 => px_I G px_Zr d m_Mo_setOf [.ref 0, .int (S19 0 12)] S19 (fun r22 S21 => ((¬ r20 = r22 → px_I G px_Zr d m_Mo_next [.ref 0, .int x1] S21 (fun r24 S23 => px_w G px_Zr (d + 1) m_Mo_scanned 178 [.ref 0, .int r24] [] S23 Q)) ∧ (r20 = r22 → px_V G px_Zr d m_Mo_note [.ref 0, .int x1] S21 (fun S25 => px_I G px_Zr d m_Mo_next [.ref 0, .int x1] S25 (fun r27 S26 => px_w G px_Zr (d + 1) m_Mo_scanned 178 [.ref 0, .int r27] [] S26 Q)))))))))))) :
    px_w G px_Zr (d + 1) m_Mo_scanned 178 [.ref 0, .int x1] [] S Q := by
  refine w_iload_n rfl rfl rfl ?_
  refine w_aload_n rfl rfl rfl ?_
  refine w_getI rfl rfl fl_Mo_168 rfl rfl ?_
  refine w_if_icmpge 224 rfl rfl rfl (fun hc => ?_) (fun hc => ?_)
  · have h := h.1 hc
    refine w_iconst (v := 1) rfl rfl (by decide) ?_
    exact w_zreturn rfl rfl rfl (Or.inr rfl) h
  · have h := h.2 hc
    refine w_aload_n rfl rfl rfl ?_
    refine w_iload_n rfl rfl rfl ?_
    refine w_callI h cs_Mo_scanned_188 rfl rfl (Nat.le_of_ble_eq_true rfl) rfl (fun r16 S15 h => ?_)
    refine w_ifeq 215 rfl rfl rfl (fun hc => ?_) (fun hc => ?_)
    · have h := h.1 hc
      refine w_aload_n rfl rfl rfl ?_
      refine w_iload_n rfl rfl rfl ?_
      refine w_callI h cs_Mo_scanned_217 rfl rfl (Nat.le_of_ble_eq_true rfl) rfl (fun r18 S17 h => ?_)
      refine w_istore_n _ rfl rfl (by decide) rfl rfl ?_
      refine w_goto 178 rfl rfl rfl ?_
      exact h
    · have h := h.2 hc
      refine w_aload_n rfl rfl rfl ?_
      refine w_iload_n rfl rfl rfl ?_
      refine w_callI h cs_Mo_scanned_196 rfl rfl (Nat.le_of_ble_eq_true rfl) rfl (fun r20 S19 h => ?_)
      refine w_aload_n rfl rfl rfl ?_
      refine w_aload_n rfl rfl rfl ?_
      refine w_getI rfl rfl fl_Mo_228 rfl rfl ?_
      refine w_callI h cs_Mo_scanned_204 rfl rfl (Nat.le_of_ble_eq_true rfl) rfl (fun r22 S21 h => ?_)
      refine w_if_icmpne 215 rfl rfl rfl (fun hc => ?_) (fun hc => ?_)
      · have h := h.1 hc
        refine w_aload_n rfl rfl rfl ?_
        refine w_iload_n rfl rfl rfl ?_
        refine w_callI h cs_Mo_scanned_217 rfl rfl (Nat.le_of_ble_eq_true rfl) rfl (fun r24 S23 h => ?_)
        refine w_istore_n _ rfl rfl (by decide) rfl rfl ?_
        refine w_goto 178 rfl rfl rfl ?_
        exact h
      · have h := h.2 hc
        refine w_aload_n rfl rfl rfl ?_
        refine w_iload_n rfl rfl rfl ?_
        refine w_callV h cs_Mo_scanned_212 rfl rfl (Nat.le_of_ble_eq_true rfl) rfl (fun S25 h => ?_)
        refine w_aload_n rfl rfl rfl ?_
        refine w_iload_n rfl rfl rfl ?_
        refine w_callI h cs_Mo_scanned_217 rfl rfl (Nat.le_of_ble_eq_true rfl) rfl (fun r27 S26 h => ?_)
        refine w_istore_n _ rfl rfl (by decide) rfl rfl ?_
        refine w_goto 178 rfl rfl rfl ?_
        exact h

theorem f_Mo_scanned {G : px_G} {d : Nat} {S : px_S} {Q : Option Value → px_S → Prop}
    (h : px_w G px_Zr (d + 1) m_Mo_scanned 7 [.ref 0, .int 0] [] (px_u S 0 12 (-1)) Q) :
    px_M G px_Zr (d + 1) m_Mo_scanned [.ref 0] S Q :=
  px_in (Or.inr ⟨_, _, _, _, _, rfl, rfl, rfl, rfl⟩) (by decide) (Nat.le_of_ble_eq_true rfl) (px_en 1 rfl) (e_Mo_scanned_0 h)

set_option maxRecDepth 100000 in
theorem e_Mo_note_0 {G : px_G} {d : Nat} {x1 : Int32} {S : px_S} {Q : Option Value → px_S → Prop}
    (h : (vp_in (x1 + 3) 800 ∧ px_I G px_Zr d m_Mo_bodyLength [.ref 0, .int x1] S (fun r2 S1 => ((r2 ≤ 0 → px_w G px_Zr (d + 1) m_Mo_note 36 [.ref 0, .int x1, .int (S 6 (x1 + 3).toNatClampNeg), .int r2, .int 999] [] S1 Q) ∧ (¬ (r2 ≤ 0) → (vp_in (x1 + 26) 800 ∧ px_w G px_Zr (d + 1) m_Mo_note 36 [.ref 0, .int x1, .int (S 6 (x1 + 3).toNatClampNeg), .int r2, .int (S1 6 (x1 + 26).toNatClampNeg)] [] S1 Q)))))) :
    px_w G px_Zr (d + 1) m_Mo_note 0 [.ref 0, .int x1, .null, .null, .null] [] S Q := by
  refine w_aload_n rfl rfl rfl ?_
  refine w_getR rfl rfl fl_Mo_89 rfl rfl ?_
  refine w_iload_n rfl rfl rfl ?_
  refine w_iconst (v := 3) rfl rfl (by decide) ?_
  refine w_iadd rfl rfl ?_
  refine w_iaload rfl rfl rfl h.1 ?_
  have h := h.2
  refine w_istore_n _ rfl rfl (by decide) rfl rfl ?_
  refine w_aload_n rfl rfl rfl ?_
  refine w_iload_n rfl rfl rfl ?_
  refine w_callI h cs_Mo_note_11 rfl rfl (Nat.le_of_ble_eq_true rfl) rfl (fun r2 S1 h => ?_)
  refine w_istore_n _ rfl rfl (by decide) rfl rfl ?_
  refine w_iload_n rfl rfl rfl ?_
  refine w_ifle 31 rfl rfl rfl (fun hc => ?_) (fun hc => ?_)
  · have h := h.1 hc
    refine w_sipush (v := 999) rfl rfl (by decide) ?_
    refine w_istore _ rfl rfl (by decide) rfl rfl ?_
    exact h
  · have h := h.2 hc
    refine w_aload_n rfl rfl rfl ?_
    refine w_getR rfl rfl fl_Mo_89 rfl rfl ?_
    refine w_iload_n rfl rfl rfl ?_
    refine w_bipush (v := 26) rfl rfl (by decide) ?_
    refine w_iadd rfl rfl ?_
    refine w_iaload rfl rfl rfl h.1 ?_
    have h := h.2
    refine w_goto 34 rfl rfl rfl ?_
    refine w_istore _ rfl rfl (by decide) rfl rfl ?_
    exact h

set_option maxRecDepth 100000 in
theorem e_Mo_note_36 {G : px_G} {d : Nat} {x1 x2 x3 x4 : Int32} {S : px_S} {Q : Option Value → px_S → Prop}
    (h : ((¬ x2 = 70 → px_w G px_Zr (d + 1) m_Mo_note 104 [.ref 0, .int x1, .int x2, .int x3, .int x4] [] S Q) ∧ (x2 = 70 → ((¬ x3 = 18 → px_w G px_Zr (d + 1) m_Mo_note 104 [.ref 0, .int x1, .int x2, .int x3, .int x4] [] S Q) ∧ (x3 = 18 → (((S 0 13) ≤ x4 → px_w G px_Zr (d + 1) m_Mo_note 104 [.ref 0, .int x1, .int x2, .int x3, .int x4] [] S Q) ∧ (¬ ((S 0 13) ≤ x4) → (vp_in (x1 + 27) 800 ∧ (vp_in x4 3 ∧ ((¬ (S 6 (x1 + 27).toNatClampNeg) = (S 10 x4.toNatClampNeg) → px_w G px_Zr (d + 1) m_Mo_note 104 [.ref 0, .int x1, .int x2, .int x3, .int x4] [] S Q) ∧ ((S 6 (x1 + 27).toNatClampNeg) = (S 10 x4.toNatClampNeg) → (vp_in x4 3 ∧ ((0 ≤ (S 12 x4.toNatClampNeg) → px_w G px_Zr (d + 1) m_Mo_note 104 [.ref 0, .int x1, .int x2, .int x3, .int x4] [] S Q) ∧ (¬ (0 ≤ (S 12 x4.toNatClampNeg)) → (vp_in x4 3 ∧ px_w G px_Zr (d + 1) m_Mo_note 104 [.ref 0, .int x1, .int x2, .int x3, .int x4] [] (px_u (px_u S 12 x4.toNatClampNeg x1) 0 19 (((px_u S 12 x4.toNatClampNeg x1) 0 19) + 1)) Q))))))))))))))) :
    px_w G px_Zr (d + 1) m_Mo_note 36 [.ref 0, .int x1, .int x2, .int x3, .int x4] [] S Q := by
  refine w_iload_n rfl rfl rfl ?_
  refine w_bipush (v := 70) rfl rfl (by decide) ?_
  refine w_if_icmpne 104 rfl rfl rfl (fun hc => ?_) (fun hc => ?_)
  · have h := h.1 hc
    exact h
  · have h := h.2 hc
    refine w_iload_n rfl rfl rfl ?_
    refine w_bipush (v := 18) rfl rfl (by decide) ?_
    refine w_if_icmpne 104 rfl rfl rfl (fun hc => ?_) (fun hc => ?_)
    · have h := h.1 hc
      exact h
    · have h := h.2 hc
      refine w_iload rfl rfl rfl ?_
      refine w_aload_n rfl rfl rfl ?_
      refine w_getI rfl rfl fl_Mo_237 rfl rfl ?_
      refine w_if_icmpge 104 rfl rfl rfl (fun hc => ?_) (fun hc => ?_)
      · have h := h.1 hc
        exact h
      · have h := h.2 hc
        refine w_aload_n rfl rfl rfl ?_
        refine w_getR rfl rfl fl_Mo_89 rfl rfl ?_
        refine w_iload_n rfl rfl rfl ?_
        refine w_bipush (v := 27) rfl rfl (by decide) ?_
        refine w_iadd rfl rfl ?_
        refine w_iaload rfl rfl rfl h.1 ?_
        have h := h.2
        refine w_aload_n rfl rfl rfl ?_
        refine w_getR rfl rfl fl_Mo_101 rfl rfl ?_
        refine w_iload rfl rfl rfl ?_
        refine w_iaload rfl rfl rfl h.1 ?_
        have h := h.2
        refine w_if_icmpne 104 rfl rfl rfl (fun hc => ?_) (fun hc => ?_)
        · have h := h.1 hc
          exact h
        · have h := h.2 hc
          refine w_aload_n rfl rfl rfl ?_
          refine w_getR rfl rfl fl_Mo_107 rfl rfl ?_
          refine w_iload rfl rfl rfl ?_
          refine w_iaload rfl rfl rfl h.1 ?_
          have h := h.2
          refine w_ifge 104 rfl rfl rfl (fun hc => ?_) (fun hc => ?_)
          · have h := h.1 hc
            exact h
          · have h := h.2 hc
            refine w_aload_n rfl rfl rfl ?_
            refine w_getR rfl rfl fl_Mo_107 rfl rfl ?_
            refine w_iload rfl rfl rfl ?_
            refine w_iload_n rfl rfl rfl ?_
            refine w_iastore rfl rfl rfl h.1 ?_
            have h := h.2
            refine w_aload_n rfl rfl rfl ?_
            refine w_dup rfl rfl rfl ?_
            refine w_getI rfl rfl fl_Mo_240 rfl rfl ?_
            refine w_iconst (v := 1) rfl rfl (by decide) ?_
            refine w_iadd rfl rfl ?_
            refine w_put rfl rfl fl_Mo_240 fw_Mo_19 rfl rfl ?_
            exact h

set_option maxRecDepth 100000 in
theorem e_Mo_note_104 {G : px_G} {d : Nat} {x1 x2 x3 x4 : Int32} {S : px_S} {Q : Option Value → px_S → Prop}
    (h : ((¬ x2 = 73 → px_w G px_Zr (d + 1) m_Mo_note 173 [.ref 0, .int x1, .int x2, .int x3, .int x4] [] S Q) ∧ (x2 = 73 → (((S 0 13) ≤ x4 → px_w G px_Zr (d + 1) m_Mo_note 173 [.ref 0, .int x1, .int x2, .int x3, .int x4] [] S Q) ∧ (¬ ((S 0 13) ≤ x4) → (vp_in (x4 + 1) 4 ∧ (vp_in x4 4 ∧ ((¬ x3 = (1 + (20 * ((S 11 (x4 + 1).toNatClampNeg) - (S 11 x4.toNatClampNeg)))) → px_w G px_Zr (d + 1) m_Mo_note 173 [.ref 0, .int x1, .int x2, .int x3, .int x4] [] S Q) ∧ (x3 = (1 + (20 * ((S 11 (x4 + 1).toNatClampNeg) - (S 11 x4.toNatClampNeg)))) → (vp_in x4 3 ∧ ((0 ≤ (S 13 x4.toNatClampNeg) → px_w G px_Zr (d + 1) m_Mo_note 173 [.ref 0, .int x1, .int x2, .int x3, .int x4] [] S Q) ∧ (¬ (0 ≤ (S 13 x4.toNatClampNeg)) → (vp_in x4 3 ∧ px_w G px_Zr (d + 1) m_Mo_note 173 [.ref 0, .int x1, .int x2, .int x3, .int x4] [] (px_u (px_u S 13 x4.toNatClampNeg x1) 0 19 (((px_u S 13 x4.toNatClampNeg x1) 0 19) + 1)) Q))))))))))))) :
    px_w G px_Zr (d + 1) m_Mo_note 104 [.ref 0, .int x1, .int x2, .int x3, .int x4] [] S Q := by
  refine w_iload_n rfl rfl rfl ?_
  refine w_bipush (v := 73) rfl rfl (by decide) ?_
  refine w_if_icmpne 173 rfl rfl rfl (fun hc => ?_) (fun hc => ?_)
  · have h := h.1 hc
    exact h
  · have h := h.2 hc
    refine w_iload rfl rfl rfl ?_
    refine w_aload_n rfl rfl rfl ?_
    refine w_getI rfl rfl fl_Mo_237 rfl rfl ?_
    refine w_if_icmpge 173 rfl rfl rfl (fun hc => ?_) (fun hc => ?_)
    · have h := h.1 hc
      exact h
    · have h := h.2 hc
      refine w_iload_n rfl rfl rfl ?_
      refine w_iconst (v := 1) rfl rfl (by decide) ?_
      refine w_bipush (v := 20) rfl rfl (by decide) ?_
      refine w_aload_n rfl rfl rfl ?_
      refine w_getR rfl rfl fl_Mo_104 rfl rfl ?_
      refine w_iload rfl rfl rfl ?_
      refine w_iconst (v := 1) rfl rfl (by decide) ?_
      refine w_iadd rfl rfl ?_
      refine w_iaload rfl rfl rfl h.1 ?_
      have h := h.2
      refine w_aload_n rfl rfl rfl ?_
      refine w_getR rfl rfl fl_Mo_104 rfl rfl ?_
      refine w_iload rfl rfl rfl ?_
      refine w_iaload rfl rfl rfl h.1 ?_
      have h := h.2
      refine w_isub rfl rfl ?_
      refine w_imul rfl rfl ?_
      refine w_iadd rfl rfl ?_
      refine w_if_icmpne 173 rfl rfl rfl (fun hc => ?_) (fun hc => ?_)
      · have h := h.1 hc
        exact h
      · have h := h.2 hc
        refine w_aload_n rfl rfl rfl ?_
        refine w_getR rfl rfl fl_Mo_110 rfl rfl ?_
        refine w_iload rfl rfl rfl ?_
        refine w_iaload rfl rfl rfl h.1 ?_
        have h := h.2
        refine w_ifge 173 rfl rfl rfl (fun hc => ?_) (fun hc => ?_)
        · have h := h.1 hc
          exact h
        · have h := h.2 hc
          refine w_aload_n rfl rfl rfl ?_
          refine w_getR rfl rfl fl_Mo_110 rfl rfl ?_
          refine w_iload rfl rfl rfl ?_
          refine w_iload_n rfl rfl rfl ?_
          refine w_iastore rfl rfl rfl h.1 ?_
          have h := h.2
          refine w_aload_n rfl rfl rfl ?_
          refine w_dup rfl rfl rfl ?_
          refine w_getI rfl rfl fl_Mo_240 rfl rfl ?_
          refine w_iconst (v := 1) rfl rfl (by decide) ?_
          refine w_iadd rfl rfl ?_
          refine w_put rfl rfl fl_Mo_240 fw_Mo_19 rfl rfl ?_
          exact h

set_option maxRecDepth 100000 in
theorem e_Mo_note_173 {G : px_G} {d : Nat} {x1 x2 x3 x4 : Int32} {S : px_S} {Q : Option Value → px_S → Prop}
    (h : ((¬ x2 = 82 → Q none S) ∧ (x2 = 82 → ((¬ x3 = 9 → Q none S) ∧ (x3 = 9 → (vp_in x4 256 ∧ ((0 ≤ (S 14 x4.toNatClampNeg) → Q none S) ∧ (¬ (0 ≤ (S 14 x4.toNatClampNeg)) → (vp_in x4 256 ∧ Q none (px_u (px_u S 14 x4.toNatClampNeg x1) 0 19 (((px_u S 14 x4.toNatClampNeg x1) 0 19) + 1))))))))))) :
    px_w G px_Zr (d + 1) m_Mo_note 173 [.ref 0, .int x1, .int x2, .int x3, .int x4] [] S Q := by
  refine w_iload_n rfl rfl rfl ?_
  refine w_bipush (v := 82) rfl rfl (by decide) ?_
  refine w_if_icmpne 213 rfl rfl rfl (fun hc => ?_) (fun hc => ?_)
  · have h := h.1 hc
    exact w_return rfl rfl rfl h
  · have h := h.2 hc
    refine w_iload_n rfl rfl rfl ?_
    refine w_bipush (v := 9) rfl rfl (by decide) ?_
    refine w_if_icmpne 213 rfl rfl rfl (fun hc => ?_) (fun hc => ?_)
    · have h := h.1 hc
      exact w_return rfl rfl rfl h
    · have h := h.2 hc
      refine w_aload_n rfl rfl rfl ?_
      refine w_getR rfl rfl fl_Mo_113 rfl rfl ?_
      refine w_iload rfl rfl rfl ?_
      refine w_iaload rfl rfl rfl h.1 ?_
      have h := h.2
      refine w_ifge 213 rfl rfl rfl (fun hc => ?_) (fun hc => ?_)
      · have h := h.1 hc
        exact w_return rfl rfl rfl h
      · have h := h.2 hc
        refine w_aload_n rfl rfl rfl ?_
        refine w_getR rfl rfl fl_Mo_113 rfl rfl ?_
        refine w_iload rfl rfl rfl ?_
        refine w_iload_n rfl rfl rfl ?_
        refine w_iastore rfl rfl rfl h.1 ?_
        have h := h.2
        refine w_aload_n rfl rfl rfl ?_
        refine w_dup rfl rfl rfl ?_
        refine w_getI rfl rfl fl_Mo_240 rfl rfl ?_
        refine w_iconst (v := 1) rfl rfl (by decide) ?_
        refine w_iadd rfl rfl ?_
        refine w_put rfl rfl fl_Mo_240 fw_Mo_19 rfl rfl ?_
        exact w_return rfl rfl rfl h

theorem f_Mo_note {G : px_G} {d : Nat} {x1 : Int32} {S : px_S} {Q : Option Value → px_S → Prop}
    (h : (vp_in (x1 + 3) 800 ∧ px_I G px_Zr d m_Mo_bodyLength [.ref 0, .int x1] S (fun r2 S1 => ((r2 ≤ 0 → px_w G px_Zr (d + 1) m_Mo_note 36 [.ref 0, .int x1, .int (S 6 (x1 + 3).toNatClampNeg), .int r2, .int 999] [] S1 Q) ∧ (¬ (r2 ≤ 0) → (vp_in (x1 + 26) 800 ∧ px_w G px_Zr (d + 1) m_Mo_note 36 [.ref 0, .int x1, .int (S 6 (x1 + 3).toNatClampNeg), .int r2, .int (S1 6 (x1 + 26).toNatClampNeg)] [] S1 Q)))))) :
    px_M G px_Zr (d + 1) m_Mo_note [.ref 0, .int x1] S Q :=
  px_in (Or.inr ⟨_, _, _, _, _, rfl, rfl, rfl, rfl⟩) (by decide) (Nat.le_of_ble_eq_true rfl) (px_en 3 rfl) (e_Mo_note_0 h)

set_option maxRecDepth 100000 in
theorem e_Mo_recoveries_0 {G : px_G} {d : Nat} {S : px_S} {Q : Option Value → px_S → Prop}
    (h : px_w G px_Zr d m_Mo_recoveries 4 [.ref 0, .int 0, .int 0] [] S Q) :
    px_w G px_Zr d m_Mo_recoveries 0 [.ref 0, .null, .null] [] S Q := by
  refine w_iconst (v := 0) rfl rfl (by decide) ?_
  refine w_istore_n _ rfl rfl (by decide) rfl rfl ?_
  refine w_iconst (v := 0) rfl rfl (by decide) ?_
  refine w_istore_n _ rfl rfl (by decide) rfl rfl ?_
  exact h

set_option maxRecDepth 100000 in
theorem e_Mo_recoveries_4 {G : px_G} {d : Nat} {x1 x2 : Int32} {S : px_S} {Q : Option Value → px_S → Prop}
    (h : ((256 ≤ x2 → Q (some (.int x1)) S) ∧ (¬ (256 ≤ x2) → (vp_in x2 256 ∧ (((S 14 x2.toNatClampNeg) < 0 → px_w G px_Zr d m_Mo_recoveries 4 [.ref 0, .int (x1 + 0), .int (x2 + 1)] [] S Q) ∧ (¬ ((S 14 x2.toNatClampNeg) < 0) → px_w G px_Zr d m_Mo_recoveries 4 [.ref 0, .int (x1 + 1), .int (x2 + 1)] [] S Q)))))) :
    px_w G px_Zr d m_Mo_recoveries 4 [.ref 0, .int x1, .int x2] [] S Q := by
  refine w_iload_n rfl rfl rfl ?_
  refine w_sipush (v := 256) rfl rfl (by decide) ?_
  refine w_if_icmpge 34 rfl rfl rfl (fun hc => ?_) (fun hc => ?_)
  · have h := h.1 hc
    refine w_iload_n rfl rfl rfl ?_
    exact w_ireturn rfl rfl rfl h
  · have h := h.2 hc
    refine w_iload_n rfl rfl rfl ?_
    refine w_aload_n rfl rfl rfl ?_
    refine w_getR rfl rfl fl_Mo_113 rfl rfl ?_
    refine w_iload_n rfl rfl rfl ?_
    refine w_iaload rfl rfl rfl h.1 ?_
    have h := h.2
    refine w_iflt 25 rfl rfl rfl (fun hc => ?_) (fun hc => ?_)
    · have h := h.1 hc
      refine w_iconst (v := 0) rfl rfl (by decide) ?_
      refine w_iadd rfl rfl ?_
      refine w_istore_n _ rfl rfl (by decide) rfl rfl ?_
      refine w_iinc (v := 1) _ rfl rfl (by decide) rfl rfl (by decide) rfl ?_
      refine w_goto 4 rfl rfl rfl ?_
      exact h
    · have h := h.2 hc
      refine w_iconst (v := 1) rfl rfl (by decide) ?_
      refine w_goto 26 rfl rfl rfl ?_
      refine w_iadd rfl rfl ?_
      refine w_istore_n _ rfl rfl (by decide) rfl rfl ?_
      refine w_iinc (v := 1) _ rfl rfl (by decide) rfl rfl (by decide) rfl ?_
      refine w_goto 4 rfl rfl rfl ?_
      exact h

theorem f_Mo_recoveries {G : px_G} {d : Nat} {S : px_S} {Q : Option Value → px_S → Prop}
    (h : px_w G px_Zr d m_Mo_recoveries 4 [.ref 0, .int 0, .int 0] [] S Q) :
    px_M G px_Zr d m_Mo_recoveries [.ref 0] S Q :=
  px_in (Or.inr ⟨_, _, _, _, _, rfl, rfl, rfl, rfl⟩) (by decide) (Nat.le_of_ble_eq_true rfl) (px_en 2 rfl) (e_Mo_recoveries_0 h)

set_option maxRecDepth 100000 in
theorem e_Mo_scan_0 {G : px_G} {d : Nat} {S : px_S} {Q : Option Value → px_S → Prop}
    (h : px_I G px_Zr d m_Mo_scanned [.ref 0] S (fun r2 S1 => ((r2 = 0 → Q (some (.int (-3))) S1) ∧ (¬ r2 = 0 → px_I G px_Zr d m_Mo_recoveries [.ref 0] S1 (fun r4 S3 => Q (some (.int ((S1 0 19) + (100 * r4)))) S3))))) :
    px_w G px_Zr (d + 1) m_Mo_scan 0 [.ref 0] [] S Q := by
  refine w_aload_n rfl rfl rfl ?_
  refine w_callI h cs_Mo_scan_1 rfl rfl (Nat.le_of_ble_eq_true rfl) rfl (fun r2 S1 h => ?_)
  refine w_ifeq 22 rfl rfl rfl (fun hc => ?_) (fun hc => ?_)
  · have h := h.1 hc
    refine w_bipush (v := -3) rfl rfl (by decide) ?_
    exact w_ireturn rfl rfl rfl h
  · have h := h.2 hc
    refine w_aload_n rfl rfl rfl ?_
    refine w_getI rfl rfl fl_Mo_240 rfl rfl ?_
    refine w_bipush (v := 100) rfl rfl (by decide) ?_
    refine w_aload_n rfl rfl rfl ?_
    refine w_callI h cs_Mo_scan_14 rfl rfl (Nat.le_of_ble_eq_true rfl) rfl (fun r4 S3 h => ?_)
    refine w_imul rfl rfl ?_
    refine w_iadd rfl rfl ?_
    refine w_goto 24 rfl rfl rfl ?_
    exact w_ireturn rfl rfl rfl h

theorem f_Mo_scan {G : px_G} {d : Nat} {S : px_S} {Q : Option Value → px_S → Prop}
    (h : px_I G px_Zr d m_Mo_scanned [.ref 0] S (fun r2 S1 => ((r2 = 0 → Q (some (.int (-3))) S1) ∧ (¬ r2 = 0 → px_I G px_Zr d m_Mo_recoveries [.ref 0] S1 (fun r4 S3 => Q (some (.int ((S1 0 19) + (100 * r4)))) S3))))) :
    px_M G px_Zr (d + 1) m_Mo_scan [.ref 0] S Q :=
  px_in (Or.inr ⟨_, _, _, _, _, rfl, rfl, rfl, rfl⟩) (by decide) (Nat.le_of_ble_eq_true rfl) (px_en 0 rfl) (e_Mo_scan_0 h)

set_option maxRecDepth 100000 in
theorem e_Mo_isWhole_0 {G : px_G} {d : Nat} {x1 x2 : Int32} {S : px_S} {Q : Option Value → px_S → Prop}
    (h : (vp_in x1 3 ∧ ((0 ≤ (S 13 x1.toNatClampNeg) → (vp_in x1 3 ∧ (vp_in x1 4 ∧ (∀ y1 : Int32, y1 = (((S 13 x1.toNatClampNeg) + 27) + (20 * (x2 - (S 11 x1.toNatClampNeg)))) → px_I G px_Zr d m_Mo_sliceCheck [.ref 0, .int x2] S (fun r3 S2 => px_V G px_Zr d m_Mo_sumSlice [.ref 0, .int x2] S2 (fun S4 => px_w G px_Zr (d + 1) m_Mo_isWhole 51 [.ref 0, .int x1, .int x2, .int y1, .int r3, .int 1, .int 0] [] S4 Q)))))) ∧ (¬ (0 ≤ (S 13 x1.toNatClampNeg)) → Q (some (.int 0)) S)))) :
    px_w G px_Zr (d + 1) m_Mo_isWhole 0 [.ref 0, .int x1, .int x2, .null, .null, .null, .null] [] S Q := by
  refine w_aload_n rfl rfl rfl ?_
  refine w_getR rfl rfl fl_Mo_110 rfl rfl ?_
  refine w_iload_n rfl rfl rfl ?_
  refine w_iaload rfl rfl rfl h.1 ?_
  have h := h.2
  refine w_ifge 11 rfl rfl rfl (fun hc => ?_) (fun hc => ?_)
  · have h := h.1 hc
    refine w_aload_n rfl rfl rfl ?_
    refine w_getR rfl rfl fl_Mo_110 rfl rfl ?_
    refine w_iload_n rfl rfl rfl ?_
    refine w_iaload rfl rfl rfl h.1 ?_
    have h := h.2
    refine w_bipush (v := 27) rfl rfl (by decide) ?_
    refine w_iadd rfl rfl ?_
    refine w_bipush (v := 20) rfl rfl (by decide) ?_
    refine w_iload_n rfl rfl rfl ?_
    refine w_aload_n rfl rfl rfl ?_
    refine w_getR rfl rfl fl_Mo_104 rfl rfl ?_
    refine w_iload_n rfl rfl rfl ?_
    refine w_iaload rfl rfl rfl h.1 ?_
    have h := h.2
    refine w_isub rfl rfl ?_
    refine w_imul rfl rfl ?_
    refine w_iadd rfl rfl ?_
    have h := h _ rfl
    refine w_istore_n _ rfl rfl (by decide) rfl rfl ?_
    refine w_aload_n rfl rfl rfl ?_
    refine w_iload_n rfl rfl rfl ?_
    refine w_callI h cs_Mo_isWhole_35 rfl rfl (Nat.le_of_ble_eq_true rfl) rfl (fun r3 S2 h => ?_)
    refine w_istore _ rfl rfl (by decide) rfl rfl ?_
    refine w_aload_n rfl rfl rfl ?_
    refine w_iload_n rfl rfl rfl ?_
    refine w_callV h cs_Mo_isWhole_42 rfl rfl (Nat.le_of_ble_eq_true rfl) rfl (fun S4 h => ?_)
    refine w_iconst (v := 1) rfl rfl (by decide) ?_
    refine w_istore _ rfl rfl (by decide) rfl rfl ?_
    refine w_iconst (v := 0) rfl rfl (by decide) ?_
    refine w_istore _ rfl rfl (by decide) rfl rfl ?_
    exact h
  · have h := h.2 hc
    refine w_iconst (v := 0) rfl rfl (by decide) ?_
    exact w_zreturn rfl rfl rfl (Or.inl rfl) h

set_option maxRecDepth 100000 in
theorem e_Mo_isWhole_51 {G : px_G} {d : Nat} {x1 x2 x3 x4 x5 x6 : Int32} {S : px_S} {Q : Option Value → px_S → Prop}
    (h : ((20 ≤ x6 → ((x5 = 0 ∨ x5 = 1) ∧ Q (some (.int x5)) S)) ∧ (¬ (20 ≤ x6) → ((x5 = 0 → px_w G px_Zr (d + 1) m_Mo_isWhole 51 [.ref 0, .int x1, .int x2, .int x3, .int x4, .int 0, .int (x6 + 1)] [] S Q) ∧ (¬ x5 = 0 → (vp_in (x3 + x6) 800 ∧ ((4 ≤ x6 → (vp_in (x6 - 4) 16 ∧ ((¬ (S 6 (x3 + x6).toNatClampNeg) = (S 9 (x6 - 4).toNatClampNeg) → px_w G px_Zr (d + 1) m_Mo_isWhole 51 [.ref 0, .int x1, .int x2, .int x3, .int x4, .int 0, .int (x6 + 1)] [] S Q) ∧ ((S 6 (x3 + x6).toNatClampNeg) = (S 9 (x6 - 4).toNatClampNeg) → px_w G px_Zr (d + 1) m_Mo_isWhole 51 [.ref 0, .int x1, .int x2, .int x3, .int x4, .int 1, .int (x6 + 1)] [] S Q)))) ∧ (¬ (4 ≤ x6) → ((¬ (S 6 (x3 + x6).toNatClampNeg) = ((px_ushr x4 (8 * x6)) &&& 255) → px_w G px_Zr (d + 1) m_Mo_isWhole 51 [.ref 0, .int x1, .int x2, .int x3, .int x4, .int 0, .int (x6 + 1)] [] S Q) ∧ ((S 6 (x3 + x6).toNatClampNeg) = ((px_ushr x4 (8 * x6)) &&& 255) → px_w G px_Zr (d + 1) m_Mo_isWhole 51 [.ref 0, .int x1, .int x2, .int x3, .int x4, .int 1, .int (x6 + 1)] [] S Q)))))))))) :
    px_w G px_Zr (d + 1) m_Mo_isWhole 51 [.ref 0, .int x1, .int x2, .int x3, .int x4, .int x5, .int x6] [] S Q := by
  refine w_iload rfl rfl rfl ?_
  refine w_bipush (v := 20) rfl rfl (by decide) ?_
  refine w_if_icmpge 118 rfl rfl rfl (fun hc => ?_) (fun hc => ?_)
  · have h := h.1 hc
    refine w_iload rfl rfl rfl ?_
    exact w_zreturn rfl rfl rfl h.1 h.2
  · have h := h.2 hc
    refine w_iload rfl rfl rfl ?_
    refine w_ifeq 109 rfl rfl rfl (fun hc => ?_) (fun hc => ?_)
    · have h := h.1 hc
      refine w_iconst (v := 0) rfl rfl (by decide) ?_
      refine w_istore _ rfl rfl (by decide) rfl rfl ?_
      refine w_iinc (v := 1) _ rfl rfl (by decide) rfl rfl (by decide) rfl ?_
      refine w_goto 51 rfl rfl rfl ?_
      exact h
    · have h := h.2 hc
      refine w_aload_n rfl rfl rfl ?_
      refine w_getR rfl rfl fl_Mo_89 rfl rfl ?_
      refine w_iload_n rfl rfl rfl ?_
      refine w_iload rfl rfl rfl ?_
      refine w_iadd rfl rfl ?_
      refine w_iaload rfl rfl rfl h.1 ?_
      have h := h.2
      refine w_iload rfl rfl rfl ?_
      refine w_iconst (v := 4) rfl rfl (by decide) ?_
      refine w_if_icmpge 93 rfl rfl rfl (fun hc => ?_) (fun hc => ?_)
      · have h := h.1 hc
        refine w_aload_n rfl rfl rfl ?_
        refine w_getR rfl rfl fl_Mo_98 rfl rfl ?_
        refine w_iload rfl rfl rfl ?_
        refine w_iconst (v := 4) rfl rfl (by decide) ?_
        refine w_isub rfl rfl ?_
        refine w_iaload rfl rfl rfl h.1 ?_
        have h := h.2
        refine w_if_icmpne 109 rfl rfl rfl (fun hc => ?_) (fun hc => ?_)
        · have h := h.1 hc
          refine w_iconst (v := 0) rfl rfl (by decide) ?_
          refine w_istore _ rfl rfl (by decide) rfl rfl ?_
          refine w_iinc (v := 1) _ rfl rfl (by decide) rfl rfl (by decide) rfl ?_
          refine w_goto 51 rfl rfl rfl ?_
          exact h
        · have h := h.2 hc
          refine w_iconst (v := 1) rfl rfl (by decide) ?_
          refine w_goto 110 rfl rfl rfl ?_
          refine w_istore _ rfl rfl (by decide) rfl rfl ?_
          refine w_iinc (v := 1) _ rfl rfl (by decide) rfl rfl (by decide) rfl ?_
          refine w_goto 51 rfl rfl rfl ?_
          exact h
      · have h := h.2 hc
        refine w_iload rfl rfl rfl ?_
        refine w_bipush (v := 8) rfl rfl (by decide) ?_
        refine w_iload rfl rfl rfl ?_
        refine w_imul rfl rfl ?_
        refine w_iushr rfl rfl ?_
        refine w_sipush (v := 255) rfl rfl (by decide) ?_
        refine w_iand rfl rfl ?_
        refine w_goto 102 rfl rfl rfl ?_
        refine w_if_icmpne 109 rfl rfl rfl (fun hc => ?_) (fun hc => ?_)
        · have h := h.1 hc
          refine w_iconst (v := 0) rfl rfl (by decide) ?_
          refine w_istore _ rfl rfl (by decide) rfl rfl ?_
          refine w_iinc (v := 1) _ rfl rfl (by decide) rfl rfl (by decide) rfl ?_
          refine w_goto 51 rfl rfl rfl ?_
          exact h
        · have h := h.2 hc
          refine w_iconst (v := 1) rfl rfl (by decide) ?_
          refine w_goto 110 rfl rfl rfl ?_
          refine w_istore _ rfl rfl (by decide) rfl rfl ?_
          refine w_iinc (v := 1) _ rfl rfl (by decide) rfl rfl (by decide) rfl ?_
          refine w_goto 51 rfl rfl rfl ?_
          exact h

theorem f_Mo_isWhole {G : px_G} {d : Nat} {x1 x2 : Int32} {S : px_S} {Q : Option Value → px_S → Prop}
    (h : (vp_in x1 3 ∧ ((0 ≤ (S 13 x1.toNatClampNeg) → (vp_in x1 3 ∧ (vp_in x1 4 ∧ (∀ y1 : Int32, y1 = (((S 13 x1.toNatClampNeg) + 27) + (20 * (x2 - (S 11 x1.toNatClampNeg)))) → px_I G px_Zr d m_Mo_sliceCheck [.ref 0, .int x2] S (fun r3 S2 => px_V G px_Zr d m_Mo_sumSlice [.ref 0, .int x2] S2 (fun S4 => px_w G px_Zr (d + 1) m_Mo_isWhole 51 [.ref 0, .int x1, .int x2, .int y1, .int r3, .int 1, .int 0] [] S4 Q)))))) ∧ (¬ (0 ≤ (S 13 x1.toNatClampNeg)) → Q (some (.int 0)) S)))) :
    px_M G px_Zr (d + 1) m_Mo_isWhole [.ref 0, .int x1, .int x2] S Q :=
  px_in (Or.inr ⟨_, _, _, _, _, rfl, rfl, rfl, rfl⟩) (by decide) (Nat.le_of_ble_eq_true rfl) (px_en 4 rfl) (e_Mo_isWhole_0 h)

set_option maxRecDepth 100000 in
theorem e_Mo_damagedSet_0 {G : px_G} {d : Nat} {S : px_S} {Q : Option Value → px_S → Prop}
    (h : px_w G px_Zr (d + 1) m_Mo_damagedSet 4 [.ref 0, .int 0, .int 0, .null] [] S Q) :
    px_w G px_Zr (d + 1) m_Mo_damagedSet 0 [.ref 0, .null, .null, .null] [] S Q := by
  refine w_iconst (v := 0) rfl rfl (by decide) ?_
  refine w_istore_n _ rfl rfl (by decide) rfl rfl ?_
  refine w_iconst (v := 0) rfl rfl (by decide) ?_
  refine w_istore_n _ rfl rfl (by decide) rfl rfl ?_
  exact h

set_option maxRecDepth 100000 in
theorem e_Mo_damagedSet_4 {G : px_G} {d : Nat} {x1 x2 : Int32} {S : px_S} {Q : Option Value → px_S → Prop}
    (h : (((S 0 13) ≤ x2 → Q (some (.int x1)) S) ∧ (¬ ((S 0 13) ≤ x2) → (vp_in x2 4 ∧ px_w G px_Zr (d + 1) m_Mo_damagedSet 19 [.ref 0, .int x1, .int x2, .int (S 11 x2.toNatClampNeg)] [] S Q)))) :
    px_w G px_Zr (d + 1) m_Mo_damagedSet 4 [.ref 0, .int x1, .int x2, .null] [] S Q := by
  refine w_iload_n rfl rfl rfl ?_
  refine w_aload_n rfl rfl rfl ?_
  refine w_getI rfl rfl fl_Mo_237 rfl rfl ?_
  refine w_if_icmpge 62 rfl rfl rfl (fun hc => ?_) (fun hc => ?_)
  · have h := h.1 hc
    refine w_iload_n rfl rfl rfl ?_
    exact w_ireturn rfl rfl rfl h
  · have h := h.2 hc
    refine w_aload_n rfl rfl rfl ?_
    refine w_getR rfl rfl fl_Mo_104 rfl rfl ?_
    refine w_iload_n rfl rfl rfl ?_
    refine w_iaload rfl rfl rfl h.1 ?_
    have h := h.2
    refine w_istore_n _ rfl rfl (by decide) rfl rfl ?_
    exact h

set_option maxRecDepth 100000 in
theorem e_Mo_damagedSet_19 {G : px_G} {d : Nat} {x1 x2 x3 : Int32} {S : px_S} {Q : Option Value → px_S → Prop}
    (h : (vp_in (x2 + 1) 4 ∧ (((S 11 (x2 + 1).toNatClampNeg) ≤ x3 → px_w G px_Zr (d + 1) m_Mo_damagedSet 4 [.ref 0, .int x1, .int (x2 + 1), .null] [] S Q) ∧ (¬ ((S 11 (x2 + 1).toNatClampNeg) ≤ x3) → px_I G px_Zr d m_Mo_isWhole [.ref 0, .int x2, .int x3] S (fun r2 S1 => ((r2 = 0 → px_w G px_Zr (d + 1) m_Mo_damagedSet 19 [.ref 0, .int (x1 ||| (px_shl 1 x3)), .int x2, .int (x3 + 1)] [] S1 Q) ∧ (¬ r2 = 0 → px_w G px_Zr (d + 1) m_Mo_damagedSet 19 [.ref 0, .int x1, .int x2, .int (x3 + 1)] [] S1 Q))))))) :
    px_w G px_Zr (d + 1) m_Mo_damagedSet 19 [.ref 0, .int x1, .int x2, .int x3] [] S Q := by
  refine w_iload_n rfl rfl rfl ?_
  refine w_aload_n rfl rfl rfl ?_
  refine w_getR rfl rfl fl_Mo_104 rfl rfl ?_
  refine w_iload_n rfl rfl rfl ?_
  refine w_iconst (v := 1) rfl rfl (by decide) ?_
  refine w_iadd rfl rfl ?_
  refine w_iaload rfl rfl rfl h.1 ?_
  have h := h.2
  refine w_if_icmpge 56 rfl rfl rfl (fun hc => ?_) (fun hc => ?_)
  · have h := h.1 hc
    refine w_iinc (v := 1) _ rfl rfl (by decide) rfl rfl (by decide) rfl ?_
    refine w_goto 4 rfl rfl rfl ?_
    refine w_null 3 _ rfl ?_
    exact h
  · have h := h.2 hc
    refine w_aload_n rfl rfl rfl ?_
    refine w_iload_n rfl rfl rfl ?_
    refine w_iload_n rfl rfl rfl ?_
    refine w_callI h cs_Mo_damagedSet_34 rfl rfl (Nat.le_of_ble_eq_true rfl) rfl (fun r2 S1 h => ?_)
    refine w_ifeq 44 rfl rfl rfl (fun hc => ?_) (fun hc => ?_)
    · have h := h.1 hc
      refine w_iload_n rfl rfl rfl ?_
      refine w_iconst (v := 1) rfl rfl (by decide) ?_
      refine w_iload_n rfl rfl rfl ?_
      refine w_ishl rfl rfl ?_
      refine w_ior rfl rfl ?_
      refine w_istore_n _ rfl rfl (by decide) rfl rfl ?_
      refine w_iinc (v := 1) _ rfl rfl (by decide) rfl rfl (by decide) rfl ?_
      refine w_goto 19 rfl rfl rfl ?_
      exact h
    · have h := h.2 hc
      refine w_iload_n rfl rfl rfl ?_
      refine w_goto 49 rfl rfl rfl ?_
      refine w_istore_n _ rfl rfl (by decide) rfl rfl ?_
      refine w_iinc (v := 1) _ rfl rfl (by decide) rfl rfl (by decide) rfl ?_
      refine w_goto 19 rfl rfl rfl ?_
      exact h

theorem f_Mo_damagedSet {G : px_G} {d : Nat} {S : px_S} {Q : Option Value → px_S → Prop}
    (h : px_w G px_Zr (d + 1) m_Mo_damagedSet 4 [.ref 0, .int 0, .int 0, .null] [] S Q) :
    px_M G px_Zr (d + 1) m_Mo_damagedSet [.ref 0] S Q :=
  px_in (Or.inr ⟨_, _, _, _, _, rfl, rfl, rfl, rfl⟩) (by decide) (Nat.le_of_ble_eq_true rfl) (px_en 3 rfl) (e_Mo_damagedSet_0 h)

set_option maxRecDepth 100000 in
theorem e_Mo_verify_0 {G : px_G} {d : Nat} {S : px_S} {Q : Option Value → px_S → Prop}
    (h : px_I G px_Zr d m_Mo_scanned [.ref 0] S (fun r2 S1 => ((r2 = 0 → Q (some (.int (-3))) S1) ∧ (¬ r2 = 0 → px_I G px_Zr d m_Mo_damagedSet [.ref 0] S1 (fun r4 S3 => Q (some (.int r4)) S3))))) :
    px_w G px_Zr (d + 1) m_Mo_verify 0 [.ref 0] [] S Q := by
  refine w_aload_n rfl rfl rfl ?_
  refine w_callI h cs_Mo_verify_1 rfl rfl (Nat.le_of_ble_eq_true rfl) rfl (fun r2 S1 h => ?_)
  refine w_ifeq 14 rfl rfl rfl (fun hc => ?_) (fun hc => ?_)
  · have h := h.1 hc
    refine w_bipush (v := -3) rfl rfl (by decide) ?_
    exact w_ireturn rfl rfl rfl h
  · have h := h.2 hc
    refine w_aload_n rfl rfl rfl ?_
    refine w_callI h cs_Mo_verify_8 rfl rfl (Nat.le_of_ble_eq_true rfl) rfl (fun r4 S3 h => ?_)
    refine w_goto 16 rfl rfl rfl ?_
    exact w_ireturn rfl rfl rfl h

theorem f_Mo_verify {G : px_G} {d : Nat} {S : px_S} {Q : Option Value → px_S → Prop}
    (h : px_I G px_Zr d m_Mo_scanned [.ref 0] S (fun r2 S1 => ((r2 = 0 → Q (some (.int (-3))) S1) ∧ (¬ r2 = 0 → px_I G px_Zr d m_Mo_damagedSet [.ref 0] S1 (fun r4 S3 => Q (some (.int r4)) S3))))) :
    px_M G px_Zr (d + 1) m_Mo_verify [.ref 0] S Q :=
  px_in (Or.inr ⟨_, _, _, _, _, rfl, rfl, rfl, rfl⟩) (by decide) (Nat.le_of_ble_eq_true rfl) (px_en 0 rfl) (e_Mo_verify_0 h)

set_option maxRecDepth 100000 in
theorem e_Mo_putRow_0 {G : px_G} {d : Nat} {x1 x2 x3 x4 : Int32} {S : px_S} {Q : Option Value → px_S → Prop}
    (h : px_w G px_Zr (d + 1) m_Mo_putRow 3 [.ref 0, .int x1, .int x2, .int x3, .int x4, .int 0, .null, .null, .null] [] S Q) :
    px_w G px_Zr (d + 1) m_Mo_putRow 0 [.ref 0, .int x1, .int x2, .int x3, .int x4, .null, .null, .null, .null] [] S Q := by
  refine w_iconst (v := 0) rfl rfl (by decide) ?_
  refine w_istore _ rfl rfl (by decide) rfl rfl ?_
  exact h

set_option maxRecDepth 100000 in
theorem e_Mo_putRow_3 {G : px_G} {d : Nat} {x1 x2 x3 x4 x5 : Int32} {S : px_S} {Q : Option Value → px_S → Prop}
    (h : ((x3 ≤ x5 → px_w G px_Zr (d + 1) m_Mo_putRow 45 [.ref 0, .int x1, .int x2, .int x3, .int x4, .int 0, .null, .null, .null] [] S Q) ∧ (¬ (x3 ≤ x5) → (vp_in x5 12 ∧ px_I G px_Zr d m_Mo_base [.ref 0, .int (S 18 x5.toNatClampNeg)] S (fun r2 S1 => px_I G px_Zr d m_Mo_power [.int r2, .int x2] S1 (fun r4 S3 => (vp_in ((12 * x1) + x5) 144 ∧ px_w G px_Zr (d + 1) m_Mo_putRow 3 [.ref 0, .int x1, .int x2, .int x3, .int x4, .int (x5 + 1), .null, .null, .null] [] (px_u S3 16 ((12 * x1) + x5).toNatClampNeg r4) Q))))))) :
    px_w G px_Zr (d + 1) m_Mo_putRow 3 [.ref 0, .int x1, .int x2, .int x3, .int x4, .int x5, .null, .null, .null] [] S Q := by
  refine w_iload rfl rfl rfl ?_
  refine w_iload_n rfl rfl rfl ?_
  refine w_if_icmpge 42 rfl rfl rfl (fun hc => ?_) (fun hc => ?_)
  · have h := h.1 hc
    refine w_iconst (v := 0) rfl rfl (by decide) ?_
    refine w_istore _ rfl rfl (by decide) rfl rfl ?_
    exact h
  · have h := h.2 hc
    refine w_aload_n rfl rfl rfl ?_
    refine w_getR rfl rfl fl_Mo_119 rfl rfl ?_
    refine w_bipush (v := 12) rfl rfl (by decide) ?_
    refine w_iload_n rfl rfl rfl ?_
    refine w_imul rfl rfl ?_
    refine w_iload rfl rfl rfl ?_
    refine w_iadd rfl rfl ?_
    refine w_aload_n rfl rfl rfl ?_
    refine w_aload_n rfl rfl rfl ?_
    refine w_getR rfl rfl fl_Mo_125 rfl rfl ?_
    refine w_iload rfl rfl rfl ?_
    refine w_iaload rfl rfl rfl h.1 ?_
    have h := h.2
    refine w_callI h cs_Mo_putRow_28 rfl rfl (Nat.le_of_ble_eq_true rfl) rfl (fun r2 S1 h => ?_)
    refine w_iload_n rfl rfl rfl ?_
    refine w_callI h cs_Mo_putRow_32 rfl rfl (Nat.le_of_ble_eq_true rfl) rfl (fun r4 S3 h => ?_)
    refine w_iastore rfl rfl rfl h.1 ?_
    have h := h.2
    refine w_iinc (v := 1) _ rfl rfl (by decide) rfl rfl (by decide) rfl ?_
    refine w_goto 3 rfl rfl rfl ?_
    exact h

set_option maxRecDepth 100000 in
theorem e_Mo_putRow_45 {G : px_G} {d : Nat} {x1 x2 x3 x4 x5 : Int32} {S : px_S} {Q : Option Value → px_S → Prop}
    (h : ((4 ≤ x5 → Q none S) ∧ (¬ (4 ≤ x5) → (vp_in x2 256 ∧ (∀ y5 : Int32, y5 = (((S 14 x2.toNatClampNeg) + 27) + (2 * x5)) → (vp_in y5 800 ∧ (vp_in (y5 + 1) 800 ∧ (∀ y6 : Int32, y6 = ((S 6 y5.toNatClampNeg) ||| (px_shl (S 6 (y5 + 1).toNatClampNeg) 8)) → px_w G px_Zr (d + 1) m_Mo_putRow 92 [.ref 0, .int x1, .int x2, .int x3, .int x4, .int x5, .int y5, .int y6, .int 0] [] S Q)))))))) :
    px_w G px_Zr (d + 1) m_Mo_putRow 45 [.ref 0, .int x1, .int x2, .int x3, .int x4, .int x5, .null, .null, .null] [] S Q := by
  refine w_iload rfl rfl rfl ?_
  refine w_iconst (v := 4) rfl rfl (by decide) ?_
  refine w_if_icmpge 173 rfl rfl rfl (fun hc => ?_) (fun hc => ?_)
  · have h := h.1 hc
    exact w_return rfl rfl rfl h
  · have h := h.2 hc
    refine w_aload_n rfl rfl rfl ?_
    refine w_getR rfl rfl fl_Mo_113 rfl rfl ?_
    refine w_iload_n rfl rfl rfl ?_
    refine w_iaload rfl rfl rfl h.1 ?_
    have h := h.2
    refine w_bipush (v := 27) rfl rfl (by decide) ?_
    refine w_iadd rfl rfl ?_
    refine w_iconst (v := 2) rfl rfl (by decide) ?_
    refine w_iload rfl rfl rfl ?_
    refine w_imul rfl rfl ?_
    refine w_iadd rfl rfl ?_
    have h := h _ rfl
    refine w_istore _ rfl rfl (by decide) rfl rfl ?_
    refine w_aload_n rfl rfl rfl ?_
    refine w_getR rfl rfl fl_Mo_89 rfl rfl ?_
    refine w_iload rfl rfl rfl ?_
    refine w_iaload rfl rfl rfl h.1 ?_
    have h := h.2
    refine w_aload_n rfl rfl rfl ?_
    refine w_getR rfl rfl fl_Mo_89 rfl rfl ?_
    refine w_iload rfl rfl rfl ?_
    refine w_iconst (v := 1) rfl rfl (by decide) ?_
    refine w_iadd rfl rfl ?_
    refine w_iaload rfl rfl rfl h.1 ?_
    have h := h.2
    refine w_bipush (v := 8) rfl rfl (by decide) ?_
    refine w_ishl rfl rfl ?_
    refine w_ior rfl rfl ?_
    have h := h _ rfl
    refine w_istore _ rfl rfl (by decide) rfl rfl ?_
    refine w_iconst (v := 0) rfl rfl (by decide) ?_
    refine w_istore _ rfl rfl (by decide) rfl rfl ?_
    exact h

set_option maxRecDepth 100000 in
theorem e_Mo_putRow_92 {G : px_G} {d : Nat} {x1 x2 x3 x4 x5 x6 x7 x8 : Int32} {S : px_S} {Q : Option Value → px_S → Prop}
    (h : (vp_in (S 0 13) 4 ∧ (((S 11 (S 0 13).toNatClampNeg) ≤ x8 → (vp_in ((4 * x1) + x5) 48 ∧ px_w G px_Zr (d + 1) m_Mo_putRow 45 [.ref 0, .int x1, .int x2, .int x3, .int x4, .int (x5 + 1), .null, .null, .null] [] (px_u S 17 ((4 * x1) + x5).toNatClampNeg x7) Q)) ∧ (¬ ((S 11 (S 0 13).toNatClampNeg) ≤ x8) → ((¬ ((px_sar x4 x8) &&& 1) = 1 → px_I G px_Zr d m_Mo_word [.ref 0, .int x8, .int x5] S (fun r8 S7 => px_I G px_Zr d m_Mo_base [.ref 0, .int x8] S7 (fun r10 S9 => px_I G px_Zr d m_Mo_power [.int r10, .int x2] S9 (fun r12 S11 => px_I G px_Zr d m_Mo_times [.int r8, .int r12] S11 (fun r14 S13 => px_w G px_Zr (d + 1) m_Mo_putRow 92 [.ref 0, .int x1, .int x2, .int x3, .int x4, .int x5, .int x6, .int (x7 ^^^ r14), .int (x8 + 1)] [] S13 Q))))) ∧ (((px_sar x4 x8) &&& 1) = 1 → px_w G px_Zr (d + 1) m_Mo_putRow 92 [.ref 0, .int x1, .int x2, .int x3, .int x4, .int x5, .int x6, .int x7, .int (x8 + 1)] [] S Q)))))) :
    px_w G px_Zr (d + 1) m_Mo_putRow 92 [.ref 0, .int x1, .int x2, .int x3, .int x4, .int x5, .int x6, .int x7, .int x8] [] S Q := by
  refine w_iload rfl rfl rfl ?_
  refine w_aload_n rfl rfl rfl ?_
  refine w_getR rfl rfl fl_Mo_104 rfl rfl ?_
  refine w_aload_n rfl rfl rfl ?_
  refine w_getI rfl rfl fl_Mo_237 rfl rfl ?_
  refine w_iaload rfl rfl rfl h.1 ?_
  have h := h.2
  refine w_if_icmpge 154 rfl rfl rfl (fun hc => ?_) (fun hc => ?_)
  · have h := h.1 hc
    refine w_aload_n rfl rfl rfl ?_
    refine w_getR rfl rfl fl_Mo_122 rfl rfl ?_
    refine w_iconst (v := 4) rfl rfl (by decide) ?_
    refine w_iload_n rfl rfl rfl ?_
    refine w_imul rfl rfl ?_
    refine w_iload rfl rfl rfl ?_
    refine w_iadd rfl rfl ?_
    refine w_iload rfl rfl rfl ?_
    refine w_iastore rfl rfl rfl h.1 ?_
    have h := h.2
    refine w_iinc (v := 1) _ rfl rfl (by decide) rfl rfl (by decide) rfl ?_
    refine w_goto 45 rfl rfl rfl ?_
    refine w_null 6 _ rfl ?_
    refine w_null 7 _ rfl ?_
    refine w_null 8 _ rfl ?_
    exact h
  · have h := h.2 hc
    refine w_iload rfl rfl rfl ?_
    refine w_iload rfl rfl rfl ?_
    refine w_ishr rfl rfl ?_
    refine w_iconst (v := 1) rfl rfl (by decide) ?_
    refine w_iand rfl rfl ?_
    refine w_iconst (v := 1) rfl rfl (by decide) ?_
    refine w_if_icmpne 122 rfl rfl rfl (fun hc => ?_) (fun hc => ?_)
    · have h := h.1 hc
      refine w_iload rfl rfl rfl ?_
      refine w_aload_n rfl rfl rfl ?_
      refine w_iload rfl rfl rfl ?_
      refine w_iload rfl rfl rfl ?_
      refine w_callI h cs_Mo_putRow_129 rfl rfl (Nat.le_of_ble_eq_true rfl) rfl (fun r8 S7 h => ?_)
      refine w_aload_n rfl rfl rfl ?_
      refine w_iload rfl rfl rfl ?_
      refine w_callI h cs_Mo_putRow_135 rfl rfl (Nat.le_of_ble_eq_true rfl) rfl (fun r10 S9 h => ?_)
      refine w_iload_n rfl rfl rfl ?_
      refine w_callI h cs_Mo_putRow_139 rfl rfl (Nat.le_of_ble_eq_true rfl) rfl (fun r12 S11 h => ?_)
      refine w_callI h cs_Mo_putRow_142 rfl rfl (Nat.le_of_ble_eq_true rfl) rfl (fun r14 S13 h => ?_)
      refine w_ixor rfl rfl ?_
      refine w_istore _ rfl rfl (by decide) rfl rfl ?_
      refine w_iinc (v := 1) _ rfl rfl (by decide) rfl rfl (by decide) rfl ?_
      refine w_goto 92 rfl rfl rfl ?_
      exact h
    · have h := h.2 hc
      refine w_iload rfl rfl rfl ?_
      refine w_goto 146 rfl rfl rfl ?_
      refine w_istore _ rfl rfl (by decide) rfl rfl ?_
      refine w_iinc (v := 1) _ rfl rfl (by decide) rfl rfl (by decide) rfl ?_
      refine w_goto 92 rfl rfl rfl ?_
      exact h

theorem f_Mo_putRow {G : px_G} {d : Nat} {x1 x2 x3 x4 : Int32} {S : px_S} {Q : Option Value → px_S → Prop}
    (h : px_w G px_Zr (d + 1) m_Mo_putRow 3 [.ref 0, .int x1, .int x2, .int x3, .int x4, .int 0, .null, .null, .null] [] S Q) :
    px_M G px_Zr (d + 1) m_Mo_putRow [.ref 0, .int x1, .int x2, .int x3, .int x4] S Q :=
  px_in (Or.inr ⟨_, _, _, _, _, rfl, rfl, rfl, rfl⟩) (by decide) (Nat.le_of_ble_eq_true rfl) (px_en 4 rfl) (e_Mo_putRow_0 h)

set_option maxRecDepth 100000 in
theorem e_Mo_addRow_0 {G : px_G} {d : Nat} {x1 x2 x3 x4 : Int32} {S : px_S} {Q : Option Value → px_S → Prop}
    (h : px_w G px_Zr (d + 1) m_Mo_addRow 3 [.ref 0, .int x1, .int x2, .int x3, .int x4, .int 0] [] S Q) :
    px_w G px_Zr (d + 1) m_Mo_addRow 0 [.ref 0, .int x1, .int x2, .int x3, .int x4, .null] [] S Q := by
  refine w_iconst (v := 0) rfl rfl (by decide) ?_
  refine w_istore _ rfl rfl (by decide) rfl rfl ?_
  exact h

set_option maxRecDepth 100000 in
theorem e_Mo_addRow_3 {G : px_G} {d : Nat} {x1 x2 x3 x4 x5 : Int32} {S : px_S} {Q : Option Value → px_S → Prop}
    (h : ((x4 ≤ x5 → px_w G px_Zr (d + 1) m_Mo_addRow 60 [.ref 0, .int x1, .int x2, .int x3, .int x4, .int 0] [] S Q) ∧ (¬ (x4 ≤ x5) → (vp_in ((12 * x1) + x5) 144 ∧ (vp_in ((12 * x2) + x5) 144 ∧ px_I G px_Zr d m_Mo_times [.int x3, .int (S 16 ((12 * x2) + x5).toNatClampNeg)] S (fun r2 S1 => (vp_in ((12 * x1) + x5) 144 ∧ px_w G px_Zr (d + 1) m_Mo_addRow 3 [.ref 0, .int x1, .int x2, .int x3, .int x4, .int (x5 + 1)] [] (px_u S1 16 ((12 * x1) + x5).toNatClampNeg ((S 16 ((12 * x1) + x5).toNatClampNeg) ^^^ r2)) Q))))))) :
    px_w G px_Zr (d + 1) m_Mo_addRow 3 [.ref 0, .int x1, .int x2, .int x3, .int x4, .int x5] [] S Q := by
  refine w_iload rfl rfl rfl ?_
  refine w_iload rfl rfl rfl ?_
  refine w_if_icmpge 57 rfl rfl rfl (fun hc => ?_) (fun hc => ?_)
  · have h := h.1 hc
    refine w_iconst (v := 0) rfl rfl (by decide) ?_
    refine w_istore _ rfl rfl (by decide) rfl rfl ?_
    exact h
  · have h := h.2 hc
    refine w_aload_n rfl rfl rfl ?_
    refine w_getR rfl rfl fl_Mo_119 rfl rfl ?_
    refine w_bipush (v := 12) rfl rfl (by decide) ?_
    refine w_iload_n rfl rfl rfl ?_
    refine w_imul rfl rfl ?_
    refine w_iload rfl rfl rfl ?_
    refine w_iadd rfl rfl ?_
    refine w_aload_n rfl rfl rfl ?_
    refine w_getR rfl rfl fl_Mo_119 rfl rfl ?_
    refine w_bipush (v := 12) rfl rfl (by decide) ?_
    refine w_iload_n rfl rfl rfl ?_
    refine w_imul rfl rfl ?_
    refine w_iload rfl rfl rfl ?_
    refine w_iadd rfl rfl ?_
    refine w_iaload rfl rfl rfl h.1 ?_
    have h := h.2
    refine w_iload_n rfl rfl rfl ?_
    refine w_aload_n rfl rfl rfl ?_
    refine w_getR rfl rfl fl_Mo_119 rfl rfl ?_
    refine w_bipush (v := 12) rfl rfl (by decide) ?_
    refine w_iload_n rfl rfl rfl ?_
    refine w_imul rfl rfl ?_
    refine w_iload rfl rfl rfl ?_
    refine w_iadd rfl rfl ?_
    refine w_iaload rfl rfl rfl h.1 ?_
    have h := h.2
    refine w_callI h cs_Mo_addRow_46 rfl rfl (Nat.le_of_ble_eq_true rfl) rfl (fun r2 S1 h => ?_)
    refine w_ixor rfl rfl ?_
    refine w_iastore rfl rfl rfl h.1 ?_
    have h := h.2
    refine w_iinc (v := 1) _ rfl rfl (by decide) rfl rfl (by decide) rfl ?_
    refine w_goto 3 rfl rfl rfl ?_
    exact h

set_option maxRecDepth 100000 in
theorem e_Mo_addRow_60 {G : px_G} {d : Nat} {x1 x2 x3 x4 x5 : Int32} {S : px_S} {Q : Option Value → px_S → Prop}
    (h : ((4 ≤ x5 → Q none S) ∧ (¬ (4 ≤ x5) → (vp_in ((4 * x1) + x5) 48 ∧ (vp_in ((4 * x2) + x5) 48 ∧ px_I G px_Zr d m_Mo_times [.int x3, .int (S 17 ((4 * x2) + x5).toNatClampNeg)] S (fun r4 S3 => (vp_in ((4 * x1) + x5) 48 ∧ px_w G px_Zr (d + 1) m_Mo_addRow 60 [.ref 0, .int x1, .int x2, .int x3, .int x4, .int (x5 + 1)] [] (px_u S3 17 ((4 * x1) + x5).toNatClampNeg ((S 17 ((4 * x1) + x5).toNatClampNeg) ^^^ r4)) Q))))))) :
    px_w G px_Zr (d + 1) m_Mo_addRow 60 [.ref 0, .int x1, .int x2, .int x3, .int x4, .int x5] [] S Q := by
  refine w_iload rfl rfl rfl ?_
  refine w_iconst (v := 4) rfl rfl (by decide) ?_
  refine w_if_icmpge 110 rfl rfl rfl (fun hc => ?_) (fun hc => ?_)
  · have h := h.1 hc
    exact w_return rfl rfl rfl h
  · have h := h.2 hc
    refine w_aload_n rfl rfl rfl ?_
    refine w_getR rfl rfl fl_Mo_122 rfl rfl ?_
    refine w_iconst (v := 4) rfl rfl (by decide) ?_
    refine w_iload_n rfl rfl rfl ?_
    refine w_imul rfl rfl ?_
    refine w_iload rfl rfl rfl ?_
    refine w_iadd rfl rfl ?_
    refine w_aload_n rfl rfl rfl ?_
    refine w_getR rfl rfl fl_Mo_122 rfl rfl ?_
    refine w_iconst (v := 4) rfl rfl (by decide) ?_
    refine w_iload_n rfl rfl rfl ?_
    refine w_imul rfl rfl ?_
    refine w_iload rfl rfl rfl ?_
    refine w_iadd rfl rfl ?_
    refine w_iaload rfl rfl rfl h.1 ?_
    have h := h.2
    refine w_iload_n rfl rfl rfl ?_
    refine w_aload_n rfl rfl rfl ?_
    refine w_getR rfl rfl fl_Mo_122 rfl rfl ?_
    refine w_iconst (v := 4) rfl rfl (by decide) ?_
    refine w_iload_n rfl rfl rfl ?_
    refine w_imul rfl rfl ?_
    refine w_iload rfl rfl rfl ?_
    refine w_iadd rfl rfl ?_
    refine w_iaload rfl rfl rfl h.1 ?_
    have h := h.2
    refine w_callI h cs_Mo_addRow_99 rfl rfl (Nat.le_of_ble_eq_true rfl) rfl (fun r4 S3 h => ?_)
    refine w_ixor rfl rfl ?_
    refine w_iastore rfl rfl rfl h.1 ?_
    have h := h.2
    refine w_iinc (v := 1) _ rfl rfl (by decide) rfl rfl (by decide) rfl ?_
    refine w_goto 60 rfl rfl rfl ?_
    exact h

theorem f_Mo_addRow {G : px_G} {d : Nat} {x1 x2 x3 x4 : Int32} {S : px_S} {Q : Option Value → px_S → Prop}
    (h : px_w G px_Zr (d + 1) m_Mo_addRow 3 [.ref 0, .int x1, .int x2, .int x3, .int x4, .int 0] [] S Q) :
    px_M G px_Zr (d + 1) m_Mo_addRow [.ref 0, .int x1, .int x2, .int x3, .int x4] S Q :=
  px_in (Or.inr ⟨_, _, _, _, _, rfl, rfl, rfl, rfl⟩) (by decide) (Nat.le_of_ble_eq_true rfl) (px_en 1 rfl) (e_Mo_addRow_0 h)

set_option maxRecDepth 100000 in
theorem e_Mo_scale_0 {G : px_G} {d : Nat} {x1 x2 x3 : Int32} {S : px_S} {Q : Option Value → px_S → Prop}
    (h : px_w G px_Zr (d + 1) m_Mo_scale 3 [.ref 0, .int x1, .int x2, .int x3, .int 0] [] S Q) :
    px_w G px_Zr (d + 1) m_Mo_scale 0 [.ref 0, .int x1, .int x2, .int x3, .null] [] S Q := by
  refine w_iconst (v := 0) rfl rfl (by decide) ?_
  refine w_istore _ rfl rfl (by decide) rfl rfl ?_
  exact h

set_option maxRecDepth 100000 in
theorem e_Mo_scale_3 {G : px_G} {d : Nat} {x1 x2 x3 x4 : Int32} {S : px_S} {Q : Option Value → px_S → Prop}
    (h : ((x3 ≤ x4 → px_w G px_Zr (d + 1) m_Mo_scale 46 [.ref 0, .int x1, .int x2, .int x3, .int 0] [] S Q) ∧ (¬ (x3 ≤ x4) → (vp_in ((12 * x1) + x4) 144 ∧ px_I G px_Zr d m_Mo_times [.int x2, .int (S 16 ((12 * x1) + x4).toNatClampNeg)] S (fun r2 S1 => (vp_in ((12 * x1) + x4) 144 ∧ px_w G px_Zr (d + 1) m_Mo_scale 3 [.ref 0, .int x1, .int x2, .int x3, .int (x4 + 1)] [] (px_u S1 16 ((12 * x1) + x4).toNatClampNeg r2) Q)))))) :
    px_w G px_Zr (d + 1) m_Mo_scale 3 [.ref 0, .int x1, .int x2, .int x3, .int x4] [] S Q := by
  refine w_iload rfl rfl rfl ?_
  refine w_iload_n rfl rfl rfl ?_
  refine w_if_icmpge 43 rfl rfl rfl (fun hc => ?_) (fun hc => ?_)
  · have h := h.1 hc
    refine w_iconst (v := 0) rfl rfl (by decide) ?_
    refine w_istore _ rfl rfl (by decide) rfl rfl ?_
    exact h
  · have h := h.2 hc
    refine w_aload_n rfl rfl rfl ?_
    refine w_getR rfl rfl fl_Mo_119 rfl rfl ?_
    refine w_bipush (v := 12) rfl rfl (by decide) ?_
    refine w_iload_n rfl rfl rfl ?_
    refine w_imul rfl rfl ?_
    refine w_iload rfl rfl rfl ?_
    refine w_iadd rfl rfl ?_
    refine w_iload_n rfl rfl rfl ?_
    refine w_aload_n rfl rfl rfl ?_
    refine w_getR rfl rfl fl_Mo_119 rfl rfl ?_
    refine w_bipush (v := 12) rfl rfl (by decide) ?_
    refine w_iload_n rfl rfl rfl ?_
    refine w_imul rfl rfl ?_
    refine w_iload rfl rfl rfl ?_
    refine w_iadd rfl rfl ?_
    refine w_iaload rfl rfl rfl h.1 ?_
    have h := h.2
    refine w_callI h cs_Mo_scale_33 rfl rfl (Nat.le_of_ble_eq_true rfl) rfl (fun r2 S1 h => ?_)
    refine w_iastore rfl rfl rfl h.1 ?_
    have h := h.2
    refine w_iinc (v := 1) _ rfl rfl (by decide) rfl rfl (by decide) rfl ?_
    refine w_goto 3 rfl rfl rfl ?_
    exact h

set_option maxRecDepth 100000 in
theorem e_Mo_scale_46 {G : px_G} {d : Nat} {x1 x2 x3 x4 : Int32} {S : px_S} {Q : Option Value → px_S → Prop}
    (h : ((4 ≤ x4 → Q none S) ∧ (¬ (4 ≤ x4) → (vp_in ((4 * x1) + x4) 48 ∧ px_I G px_Zr d m_Mo_times [.int x2, .int (S 17 ((4 * x1) + x4).toNatClampNeg)] S (fun r4 S3 => (vp_in ((4 * x1) + x4) 48 ∧ px_w G px_Zr (d + 1) m_Mo_scale 46 [.ref 0, .int x1, .int x2, .int x3, .int (x4 + 1)] [] (px_u S3 17 ((4 * x1) + x4).toNatClampNeg r4) Q)))))) :
    px_w G px_Zr (d + 1) m_Mo_scale 46 [.ref 0, .int x1, .int x2, .int x3, .int x4] [] S Q := by
  refine w_iload rfl rfl rfl ?_
  refine w_iconst (v := 4) rfl rfl (by decide) ?_
  refine w_if_icmpge 84 rfl rfl rfl (fun hc => ?_) (fun hc => ?_)
  · have h := h.1 hc
    exact w_return rfl rfl rfl h
  · have h := h.2 hc
    refine w_aload_n rfl rfl rfl ?_
    refine w_getR rfl rfl fl_Mo_122 rfl rfl ?_
    refine w_iconst (v := 4) rfl rfl (by decide) ?_
    refine w_iload_n rfl rfl rfl ?_
    refine w_imul rfl rfl ?_
    refine w_iload rfl rfl rfl ?_
    refine w_iadd rfl rfl ?_
    refine w_iload_n rfl rfl rfl ?_
    refine w_aload_n rfl rfl rfl ?_
    refine w_getR rfl rfl fl_Mo_122 rfl rfl ?_
    refine w_iconst (v := 4) rfl rfl (by decide) ?_
    refine w_iload_n rfl rfl rfl ?_
    refine w_imul rfl rfl ?_
    refine w_iload rfl rfl rfl ?_
    refine w_iadd rfl rfl ?_
    refine w_iaload rfl rfl rfl h.1 ?_
    have h := h.2
    refine w_callI h cs_Mo_scale_74 rfl rfl (Nat.le_of_ble_eq_true rfl) rfl (fun r4 S3 h => ?_)
    refine w_iastore rfl rfl rfl h.1 ?_
    have h := h.2
    refine w_iinc (v := 1) _ rfl rfl (by decide) rfl rfl (by decide) rfl ?_
    refine w_goto 46 rfl rfl rfl ?_
    exact h

theorem f_Mo_scale {G : px_G} {d : Nat} {x1 x2 x3 : Int32} {S : px_S} {Q : Option Value → px_S → Prop}
    (h : px_w G px_Zr (d + 1) m_Mo_scale 3 [.ref 0, .int x1, .int x2, .int x3, .int 0] [] S Q) :
    px_M G px_Zr (d + 1) m_Mo_scale [.ref 0, .int x1, .int x2, .int x3] S Q :=
  px_in (Or.inr ⟨_, _, _, _, _, rfl, rfl, rfl, rfl⟩) (by decide) (Nat.le_of_ble_eq_true rfl) (px_en 1 rfl) (e_Mo_scale_0 h)

set_option maxRecDepth 100000 in
theorem e_Mo_lead_0 {G : px_G} {d : Nat} {x1 x2 : Int32} {S : px_S} {Q : Option Value → px_S → Prop}
    (h : px_w G px_Zr d m_Mo_lead 2 [.ref 0, .int x1, .int x2, .int 0] [] S Q) :
    px_w G px_Zr d m_Mo_lead 0 [.ref 0, .int x1, .int x2, .null] [] S Q := by
  refine w_iconst (v := 0) rfl rfl (by decide) ?_
  refine w_istore_n _ rfl rfl (by decide) rfl rfl ?_
  exact h

set_option maxRecDepth 100000 in
theorem e_Mo_lead_2 {G : px_G} {d : Nat} {x1 x2 x3 : Int32} {S : px_S} {Q : Option Value → px_S → Prop}
    (h : ((x2 ≤ x3 → Q (some (.int x3)) S) ∧ (¬ (x2 ≤ x3) → (vp_in ((12 * x1) + x3) 144 ∧ ((¬ (S 16 ((12 * x1) + x3).toNatClampNeg) = 0 → Q (some (.int x3)) S) ∧ ((S 16 ((12 * x1) + x3).toNatClampNeg) = 0 → px_w G px_Zr d m_Mo_lead 2 [.ref 0, .int x1, .int x2, .int (x3 + 1)] [] S Q)))))) :
    px_w G px_Zr d m_Mo_lead 2 [.ref 0, .int x1, .int x2, .int x3] [] S Q := by
  refine w_iload_n rfl rfl rfl ?_
  refine w_iload_n rfl rfl rfl ?_
  refine w_if_icmpge 27 rfl rfl rfl (fun hc => ?_) (fun hc => ?_)
  · have h := h.1 hc
    refine w_iload_n rfl rfl rfl ?_
    exact w_ireturn rfl rfl rfl h
  · have h := h.2 hc
    refine w_aload_n rfl rfl rfl ?_
    refine w_getR rfl rfl fl_Mo_119 rfl rfl ?_
    refine w_bipush (v := 12) rfl rfl (by decide) ?_
    refine w_iload_n rfl rfl rfl ?_
    refine w_imul rfl rfl ?_
    refine w_iload_n rfl rfl rfl ?_
    refine w_iadd rfl rfl ?_
    refine w_iaload rfl rfl rfl h.1 ?_
    have h := h.2
    refine w_ifne 27 rfl rfl rfl (fun hc => ?_) (fun hc => ?_)
    · have h := h.1 hc
      refine w_iload_n rfl rfl rfl ?_
      exact w_ireturn rfl rfl rfl h
    · have h := h.2 hc
      refine w_iinc (v := 1) _ rfl rfl (by decide) rfl rfl (by decide) rfl ?_
      refine w_goto 2 rfl rfl rfl ?_
      exact h

theorem f_Mo_lead {G : px_G} {d : Nat} {x1 x2 : Int32} {S : px_S} {Q : Option Value → px_S → Prop}
    (h : px_w G px_Zr d m_Mo_lead 2 [.ref 0, .int x1, .int x2, .int 0] [] S Q) :
    px_M G px_Zr d m_Mo_lead [.ref 0, .int x1, .int x2] S Q :=
  px_in (Or.inr ⟨_, _, _, _, _, rfl, rfl, rfl, rfl⟩) (by decide) (Nat.le_of_ble_eq_true rfl) (px_en 1 rfl) (e_Mo_lead_0 h)

set_option maxRecDepth 100000 in
theorem e_Mo_take_0 {G : px_G} {d : Nat} {x1 x2 : Int32} {S : px_S} {Q : Option Value → px_S → Prop}
    (h : px_w G px_Zr (d + 1) m_Mo_take 5 [.ref 0, .int x1, .int x2, .int 0, .int 0, .null, .null] [] S Q) :
    px_w G px_Zr (d + 1) m_Mo_take 0 [.ref 0, .int x1, .int x2, .null, .null, .null, .null] [] S Q := by
  refine w_iconst (v := 0) rfl rfl (by decide) ?_
  refine w_istore_n _ rfl rfl (by decide) rfl rfl ?_
  refine w_iconst (v := 0) rfl rfl (by decide) ?_
  refine w_istore _ rfl rfl (by decide) rfl rfl ?_
  exact h

set_option maxRecDepth 100000 in
theorem e_Mo_take_5 {G : px_G} {d : Nat} {x1 x2 x3 x4 : Int32} {S : px_S} {Q : Option Value → px_S → Prop}
    (h : ((256 ≤ x4 → ((¬ x3 = x1 → Q (some (.int 0)) S) ∧ (x3 = x1 → Q (some (.int 1)) S))) ∧ (¬ (256 ≤ x4) → ((x1 ≤ x3 → ((¬ x3 = x1 → Q (some (.int 0)) S) ∧ (x3 = x1 → Q (some (.int 1)) S))) ∧ (¬ (x1 ≤ x3) → (vp_in x4 256 ∧ (((S 14 x4.toNatClampNeg) < 0 → px_w G px_Zr (d + 1) m_Mo_take 5 [.ref 0, .int x1, .int x2, .int x3, .int (x4 + 1), .null, .null] [] S Q) ∧ (¬ ((S 14 x4.toNatClampNeg) < 0) → px_V G px_Zr d m_Mo_putRow [.ref 0, .int x3, .int x4, .int x1, .int x2] S (fun S1 => px_w G px_Zr (d + 1) m_Mo_take 40 [.ref 0, .int x1, .int x2, .int x3, .int x4, .int 0, .null] [] S1 Q))))))))) :
    px_w G px_Zr (d + 1) m_Mo_take 5 [.ref 0, .int x1, .int x2, .int x3, .int x4, .null, .null] [] S Q := by
  refine w_iload rfl rfl rfl ?_
  refine w_sipush (v := 256) rfl rfl (by decide) ?_
  refine w_if_icmpge 157 rfl rfl rfl (fun hc => ?_) (fun hc => ?_)
  · have h := h.1 hc
    refine w_iload_n rfl rfl rfl ?_
    refine w_iload_n rfl rfl rfl ?_
    refine w_if_icmpne 166 rfl rfl rfl (fun hc => ?_) (fun hc => ?_)
    · have h := h.1 hc
      refine w_iconst (v := 0) rfl rfl (by decide) ?_
      exact w_zreturn rfl rfl rfl (Or.inl rfl) h
    · have h := h.2 hc
      refine w_iconst (v := 1) rfl rfl (by decide) ?_
      refine w_goto 167 rfl rfl rfl ?_
      exact w_zreturn rfl rfl rfl (Or.inr rfl) h
  · have h := h.2 hc
    refine w_iload_n rfl rfl rfl ?_
    refine w_iload_n rfl rfl rfl ?_
    refine w_if_icmpge 157 rfl rfl rfl (fun hc => ?_) (fun hc => ?_)
    · have h := h.1 hc
      refine w_iload_n rfl rfl rfl ?_
      refine w_iload_n rfl rfl rfl ?_
      refine w_if_icmpne 166 rfl rfl rfl (fun hc => ?_) (fun hc => ?_)
      · have h := h.1 hc
        refine w_iconst (v := 0) rfl rfl (by decide) ?_
        exact w_zreturn rfl rfl rfl (Or.inl rfl) h
      · have h := h.2 hc
        refine w_iconst (v := 1) rfl rfl (by decide) ?_
        refine w_goto 167 rfl rfl rfl ?_
        exact w_zreturn rfl rfl rfl (Or.inr rfl) h
    · have h := h.2 hc
      refine w_aload_n rfl rfl rfl ?_
      refine w_getR rfl rfl fl_Mo_113 rfl rfl ?_
      refine w_iload rfl rfl rfl ?_
      refine w_iaload rfl rfl rfl h.1 ?_
      have h := h.2
      refine w_iflt 151 rfl rfl rfl (fun hc => ?_) (fun hc => ?_)
      · have h := h.1 hc
        refine w_iinc (v := 1) _ rfl rfl (by decide) rfl rfl (by decide) rfl ?_
        refine w_goto 5 rfl rfl rfl ?_
        exact h
      · have h := h.2 hc
        refine w_aload_n rfl rfl rfl ?_
        refine w_iload_n rfl rfl rfl ?_
        refine w_iload rfl rfl rfl ?_
        refine w_iload_n rfl rfl rfl ?_
        refine w_iload_n rfl rfl rfl ?_
        refine w_callV h cs_Mo_take_34 rfl rfl (Nat.le_of_ble_eq_true rfl) rfl (fun S1 h => ?_)
        refine w_iconst (v := 0) rfl rfl (by decide) ?_
        refine w_istore _ rfl rfl (by decide) rfl rfl ?_
        exact h

set_option maxRecDepth 100000 in
theorem e_Mo_take_40 {G : px_G} {d : Nat} {x1 x2 x3 x4 x5 : Int32} {S : px_S} {Q : Option Value → px_S → Prop}
    (h : ((x3 ≤ x5 → px_I G px_Zr d m_Mo_lead [.ref 0, .int x3, .int x1] S (fun r3 S2 => ((x1 ≤ r3 → px_w G px_Zr (d + 1) m_Mo_take 5 [.ref 0, .int x1, .int x2, .int x3, .int (x4 + 1), .null, .null] [] S2 Q) ∧ (¬ (x1 ≤ r3) → (vp_in ((12 * x3) + r3) 144 ∧ px_I G px_Zr d m_Mo_inverse [.int (S2 16 ((12 * x3) + r3).toNatClampNeg)] S2 (fun r5 S4 => px_V G px_Zr d m_Mo_scale [.ref 0, .int x3, .int r5, .int x1] S4 (fun S6 => px_w G px_Zr (d + 1) m_Mo_take 115 [.ref 0, .int x1, .int x2, .int x3, .int x4, .int r3, .int 0] [] S6 Q))))))) ∧ (¬ (x3 ≤ x5) → px_I G px_Zr d m_Mo_lead [.ref 0, .int x5, .int x1] S (fun r8 S7 => (vp_in ((12 * x3) + r8) 144 ∧ px_V G px_Zr d m_Mo_addRow [.ref 0, .int x3, .int x5, .int (S7 16 ((12 * x3) + r8).toNatClampNeg), .int x1] S7 (fun S9 => px_w G px_Zr (d + 1) m_Mo_take 40 [.ref 0, .int x1, .int x2, .int x3, .int x4, .int (x5 + 1), .null] [] S9 Q)))))) :
    px_w G px_Zr (d + 1) m_Mo_take 40 [.ref 0, .int x1, .int x2, .int x3, .int x4, .int x5, .null] [] S Q := by
  refine w_iload rfl rfl rfl ?_
  refine w_iload_n rfl rfl rfl ?_
  refine w_if_icmpge 77 rfl rfl rfl (fun hc => ?_) (fun hc => ?_)
  · have h := h.1 hc
    refine w_aload_n rfl rfl rfl ?_
    refine w_iload_n rfl rfl rfl ?_
    refine w_iload_n rfl rfl rfl ?_
    refine w_callI h cs_Mo_take_80 rfl rfl (Nat.le_of_ble_eq_true rfl) rfl (fun r3 S2 h => ?_)
    refine w_istore _ rfl rfl (by decide) rfl rfl ?_
    refine w_iload rfl rfl rfl ?_
    refine w_iload_n rfl rfl rfl ?_
    refine w_if_icmpge 151 rfl rfl rfl (fun hc => ?_) (fun hc => ?_)
    · have h := h.1 hc
      refine w_iinc (v := 1) _ rfl rfl (by decide) rfl rfl (by decide) rfl ?_
      refine w_goto 5 rfl rfl rfl ?_
      refine w_null 5 _ rfl ?_
      exact h
    · have h := h.2 hc
      refine w_aload_n rfl rfl rfl ?_
      refine w_iload_n rfl rfl rfl ?_
      refine w_aload_n rfl rfl rfl ?_
      refine w_getR rfl rfl fl_Mo_119 rfl rfl ?_
      refine w_bipush (v := 12) rfl rfl (by decide) ?_
      refine w_iload_n rfl rfl rfl ?_
      refine w_imul rfl rfl ?_
      refine w_iload rfl rfl rfl ?_
      refine w_iadd rfl rfl ?_
      refine w_iaload rfl rfl rfl h.1 ?_
      have h := h.2
      refine w_callI h cs_Mo_take_105 rfl rfl (Nat.le_of_ble_eq_true rfl) rfl (fun r5 S4 h => ?_)
      refine w_iload_n rfl rfl rfl ?_
      refine w_callV h cs_Mo_take_109 rfl rfl (Nat.le_of_ble_eq_true rfl) rfl (fun S6 h => ?_)
      refine w_iconst (v := 0) rfl rfl (by decide) ?_
      refine w_istore _ rfl rfl (by decide) rfl rfl ?_
      exact h
  · have h := h.2 hc
    refine w_aload_n rfl rfl rfl ?_
    refine w_iload_n rfl rfl rfl ?_
    refine w_iload rfl rfl rfl ?_
    refine w_aload_n rfl rfl rfl ?_
    refine w_getR rfl rfl fl_Mo_119 rfl rfl ?_
    refine w_bipush (v := 12) rfl rfl (by decide) ?_
    refine w_iload_n rfl rfl rfl ?_
    refine w_imul rfl rfl ?_
    refine w_aload_n rfl rfl rfl ?_
    refine w_iload rfl rfl rfl ?_
    refine w_iload_n rfl rfl rfl ?_
    refine w_callI h cs_Mo_take_62 rfl rfl (Nat.le_of_ble_eq_true rfl) rfl (fun r8 S7 h => ?_)
    refine w_iadd rfl rfl ?_
    refine w_iaload rfl rfl rfl h.1 ?_
    have h := h.2
    refine w_iload_n rfl rfl rfl ?_
    refine w_callV h cs_Mo_take_68 rfl rfl (Nat.le_of_ble_eq_true rfl) rfl (fun S9 h => ?_)
    refine w_iinc (v := 1) _ rfl rfl (by decide) rfl rfl (by decide) rfl ?_
    refine w_goto 40 rfl rfl rfl ?_
    exact h

set_option maxRecDepth 100000 in
theorem e_Mo_take_115 {G : px_G} {d : Nat} {x1 x2 x3 x4 x5 x6 : Int32} {S : px_S} {Q : Option Value → px_S → Prop}
    (h : ((x3 ≤ x6 → px_w G px_Zr (d + 1) m_Mo_take 5 [.ref 0, .int x1, .int x2, .int (x3 + 1), .int (x4 + 1), .null, .null] [] S Q) ∧ (¬ (x3 ≤ x6) → (vp_in ((12 * x6) + x5) 144 ∧ px_V G px_Zr d m_Mo_addRow [.ref 0, .int x6, .int x3, .int (S 16 ((12 * x6) + x5).toNatClampNeg), .int x1] S (fun S10 => px_w G px_Zr (d + 1) m_Mo_take 115 [.ref 0, .int x1, .int x2, .int x3, .int x4, .int x5, .int (x6 + 1)] [] S10 Q))))) :
    px_w G px_Zr (d + 1) m_Mo_take 115 [.ref 0, .int x1, .int x2, .int x3, .int x4, .int x5, .int x6] [] S Q := by
  refine w_iload rfl rfl rfl ?_
  refine w_iload_n rfl rfl rfl ?_
  refine w_if_icmpge 148 rfl rfl rfl (fun hc => ?_) (fun hc => ?_)
  · have h := h.1 hc
    refine w_iinc (v := 1) _ rfl rfl (by decide) rfl rfl (by decide) rfl ?_
    refine w_iinc (v := 1) _ rfl rfl (by decide) rfl rfl (by decide) rfl ?_
    refine w_goto 5 rfl rfl rfl ?_
    refine w_null 5 _ rfl ?_
    refine w_null 6 _ rfl ?_
    exact h
  · have h := h.2 hc
    refine w_aload_n rfl rfl rfl ?_
    refine w_iload rfl rfl rfl ?_
    refine w_iload_n rfl rfl rfl ?_
    refine w_aload_n rfl rfl rfl ?_
    refine w_getR rfl rfl fl_Mo_119 rfl rfl ?_
    refine w_bipush (v := 12) rfl rfl (by decide) ?_
    refine w_iload rfl rfl rfl ?_
    refine w_imul rfl rfl ?_
    refine w_iload rfl rfl rfl ?_
    refine w_iadd rfl rfl ?_
    refine w_iaload rfl rfl rfl h.1 ?_
    have h := h.2
    refine w_iload_n rfl rfl rfl ?_
    refine w_callV h cs_Mo_take_139 rfl rfl (Nat.le_of_ble_eq_true rfl) rfl (fun S10 h => ?_)
    refine w_iinc (v := 1) _ rfl rfl (by decide) rfl rfl (by decide) rfl ?_
    refine w_goto 115 rfl rfl rfl ?_
    exact h

theorem f_Mo_take {G : px_G} {d : Nat} {x1 x2 : Int32} {S : px_S} {Q : Option Value → px_S → Prop}
    (h : px_w G px_Zr (d + 1) m_Mo_take 5 [.ref 0, .int x1, .int x2, .int 0, .int 0, .null, .null] [] S Q) :
    px_M G px_Zr (d + 1) m_Mo_take [.ref 0, .int x1, .int x2] S Q :=
  px_in (Or.inr ⟨_, _, _, _, _, rfl, rfl, rfl, rfl⟩) (by decide) (Nat.le_of_ble_eq_true rfl) (px_en 4 rfl) (e_Mo_take_0 h)

set_option maxRecDepth 100000 in
theorem e_Mo_putSlices_0 {G : px_G} {d : Nat} {x1 : Int32} {S : px_S} {Q : Option Value → px_S → Prop}
    (h : px_w G px_Zr (d + 1) m_Mo_putSlices 2 [.ref 0, .int x1, .int 0, .null, .null] [] S Q) :
    px_w G px_Zr (d + 1) m_Mo_putSlices 0 [.ref 0, .int x1, .null, .null, .null] [] S Q := by
  refine w_iconst (v := 0) rfl rfl (by decide) ?_
  refine w_istore_n _ rfl rfl (by decide) rfl rfl ?_
  exact h

set_option maxRecDepth 100000 in
theorem e_Mo_putSlices_2 {G : px_G} {d : Nat} {x1 x2 : Int32} {S : px_S} {Q : Option Value → px_S → Prop}
    (h : ((x1 ≤ x2 → Q none S) ∧ (¬ (x1 ≤ x2) → px_I G px_Zr d m_Mo_lead [.ref 0, .int x2, .int x1] S (fun r2 S1 => (vp_in r2 12 ∧ px_w G px_Zr (d + 1) m_Mo_putSlices 22 [.ref 0, .int x1, .int x2, .int (S1 18 r2.toNatClampNeg), .int 0] [] S1 Q))))) :
    px_w G px_Zr (d + 1) m_Mo_putSlices 2 [.ref 0, .int x1, .int x2, .null, .null] [] S Q := by
  refine w_iload_n rfl rfl rfl ?_
  refine w_iload_n rfl rfl rfl ?_
  refine w_if_icmpge 99 rfl rfl rfl (fun hc => ?_) (fun hc => ?_)
  · have h := h.1 hc
    exact w_return rfl rfl rfl h
  · have h := h.2 hc
    refine w_aload_n rfl rfl rfl ?_
    refine w_getR rfl rfl fl_Mo_125 rfl rfl ?_
    refine w_aload_n rfl rfl rfl ?_
    refine w_iload_n rfl rfl rfl ?_
    refine w_iload_n rfl rfl rfl ?_
    refine w_callI h cs_Mo_putSlices_14 rfl rfl (Nat.le_of_ble_eq_true rfl) rfl (fun r2 S1 h => ?_)
    refine w_iaload rfl rfl rfl h.1 ?_
    have h := h.2
    refine w_istore_n _ rfl rfl (by decide) rfl rfl ?_
    refine w_iconst (v := 0) rfl rfl (by decide) ?_
    refine w_istore _ rfl rfl (by decide) rfl rfl ?_
    exact h

set_option maxRecDepth 100000 in
theorem e_Mo_putSlices_22 {G : px_G} {d : Nat} {x1 x2 x3 x4 : Int32} {S : px_S} {Q : Option Value → px_S → Prop}
    (h : ((4 ≤ x4 → px_w G px_Zr (d + 1) m_Mo_putSlices 2 [.ref 0, .int x1, .int (x2 + 1), .null, .null] [] S Q) ∧ (¬ (4 ≤ x4) → (vp_in ((4 * x2) + x4) 48 ∧ (vp_in ((8 * x3) + (2 * x4)) 96 ∧ (∀ S3 : px_S, S3 = (px_u S 15 ((8 * x3) + (2 * x4)).toNatClampNeg ((S 17 ((4 * x2) + x4).toNatClampNeg) &&& 255)) → (vp_in ((4 * x2) + x4) 48 ∧ (vp_in (((8 * x3) + (2 * x4)) + 1) 96 ∧ (∀ S4 : px_S, S4 = (px_u S3 15 (((8 * x3) + (2 * x4)) + 1).toNatClampNeg (px_sar (S3 17 ((4 * x2) + x4).toNatClampNeg) 8)) → px_w G px_Zr (d + 1) m_Mo_putSlices 22 [.ref 0, .int x1, .int x2, .int x3, .int (x4 + 1)] [] S4 Q))))))))) :
    px_w G px_Zr (d + 1) m_Mo_putSlices 22 [.ref 0, .int x1, .int x2, .int x3, .int x4] [] S Q := by
  refine w_iload rfl rfl rfl ?_
  refine w_iconst (v := 4) rfl rfl (by decide) ?_
  refine w_if_icmpge 93 rfl rfl rfl (fun hc => ?_) (fun hc => ?_)
  · have h := h.1 hc
    refine w_iinc (v := 1) _ rfl rfl (by decide) rfl rfl (by decide) rfl ?_
    refine w_goto 2 rfl rfl rfl ?_
    refine w_null 3 _ rfl ?_
    refine w_null 4 _ rfl ?_
    exact h
  · have h := h.2 hc
    refine w_aload_n rfl rfl rfl ?_
    refine w_getR rfl rfl fl_Mo_116 rfl rfl ?_
    refine w_bipush (v := 8) rfl rfl (by decide) ?_
    refine w_iload_n rfl rfl rfl ?_
    refine w_imul rfl rfl ?_
    refine w_iconst (v := 2) rfl rfl (by decide) ?_
    refine w_iload rfl rfl rfl ?_
    refine w_imul rfl rfl ?_
    refine w_iadd rfl rfl ?_
    refine w_aload_n rfl rfl rfl ?_
    refine w_getR rfl rfl fl_Mo_122 rfl rfl ?_
    refine w_iconst (v := 4) rfl rfl (by decide) ?_
    refine w_iload_n rfl rfl rfl ?_
    refine w_imul rfl rfl ?_
    refine w_iload rfl rfl rfl ?_
    refine w_iadd rfl rfl ?_
    refine w_iaload rfl rfl rfl h.1 ?_
    have h := h.2
    refine w_sipush (v := 255) rfl rfl (by decide) ?_
    refine w_iand rfl rfl ?_
    refine w_iastore rfl rfl rfl h.1 ?_
    have h := h.2
    have h := h _ rfl
    refine w_aload_n rfl rfl rfl ?_
    refine w_getR rfl rfl fl_Mo_116 rfl rfl ?_
    refine w_bipush (v := 8) rfl rfl (by decide) ?_
    refine w_iload_n rfl rfl rfl ?_
    refine w_imul rfl rfl ?_
    refine w_iconst (v := 2) rfl rfl (by decide) ?_
    refine w_iload rfl rfl rfl ?_
    refine w_imul rfl rfl ?_
    refine w_iadd rfl rfl ?_
    refine w_iconst (v := 1) rfl rfl (by decide) ?_
    refine w_iadd rfl rfl ?_
    refine w_aload_n rfl rfl rfl ?_
    refine w_getR rfl rfl fl_Mo_122 rfl rfl ?_
    refine w_iconst (v := 4) rfl rfl (by decide) ?_
    refine w_iload_n rfl rfl rfl ?_
    refine w_imul rfl rfl ?_
    refine w_iload rfl rfl rfl ?_
    refine w_iadd rfl rfl ?_
    refine w_iaload rfl rfl rfl h.1 ?_
    have h := h.2
    refine w_bipush (v := 8) rfl rfl (by decide) ?_
    refine w_ishr rfl rfl ?_
    refine w_iastore rfl rfl rfl h.1 ?_
    have h := h.2
    have h := h _ rfl
    refine w_iinc (v := 1) _ rfl rfl (by decide) rfl rfl (by decide) rfl ?_
    refine w_goto 22 rfl rfl rfl ?_
    exact h

theorem f_Mo_putSlices {G : px_G} {d : Nat} {x1 : Int32} {S : px_S} {Q : Option Value → px_S → Prop}
    (h : px_w G px_Zr (d + 1) m_Mo_putSlices 2 [.ref 0, .int x1, .int 0, .null, .null] [] S Q) :
    px_M G px_Zr (d + 1) m_Mo_putSlices [.ref 0, .int x1] S Q :=
  px_in (Or.inr ⟨_, _, _, _, _, rfl, rfl, rfl, rfl⟩) (by decide) (Nat.le_of_ble_eq_true rfl) (px_en 3 rfl) (e_Mo_putSlices_0 h)

set_option maxRecDepth 100000 in
theorem e_Mo_isRight_0 {G : px_G} {d : Nat} {x1 : Int32} {S : px_S} {Q : Option Value → px_S → Prop}
    (h : px_w G px_Zr (d + 1) m_Mo_isRight 7 [.ref 0, .int x1, .int 0, .null] [] (px_u S 0 8 0) Q) :
    px_w G px_Zr (d + 1) m_Mo_isRight 0 [.ref 0, .int x1, .null, .null] [] S Q := by
  refine w_aload_n rfl rfl rfl ?_
  refine w_iconst (v := 0) rfl rfl (by decide) ?_
  refine w_put rfl rfl fl_Mo_128 fw_Mo_8 rfl rfl ?_
  refine w_iconst (v := 0) rfl rfl (by decide) ?_
  refine w_istore_n _ rfl rfl (by decide) rfl rfl ?_
  exact h

set_option maxRecDepth 100000 in
theorem e_Mo_isRight_7 {G : px_G} {d : Nat} {x1 x2 : Int32} {S : px_S} {Q : Option Value → px_S → Prop}
    (h : (vp_in x1 3 ∧ (((S 10 x1.toNatClampNeg) ≤ x2 → px_V G px_Zr d m_Mo_makeSum [.ref 0] S (fun S1 => px_w G px_Zr (d + 1) m_Mo_isRight 51 [.ref 0, .int x1, .int 1, .int 0] [] S1 Q)) ∧ (¬ ((S 10 x1.toNatClampNeg) ≤ x2) → (vp_in x1 4 ∧ (vp_in ((8 * (S 11 x1.toNatClampNeg)) + x2) 96 ∧ px_V G px_Zr d m_Mo_put [.ref 0, .int (S 15 ((8 * (S 11 x1.toNatClampNeg)) + x2).toNatClampNeg)] S (fun S2 => px_w G px_Zr (d + 1) m_Mo_isRight 7 [.ref 0, .int x1, .int (x2 + 1), .null] [] S2 Q))))))) :
    px_w G px_Zr (d + 1) m_Mo_isRight 7 [.ref 0, .int x1, .int x2, .null] [] S Q := by
  refine w_iload_n rfl rfl rfl ?_
  refine w_aload_n rfl rfl rfl ?_
  refine w_getR rfl rfl fl_Mo_101 rfl rfl ?_
  refine w_iload_n rfl rfl rfl ?_
  refine w_iaload rfl rfl rfl h.1 ?_
  have h := h.2
  refine w_if_icmpge 43 rfl rfl rfl (fun hc => ?_) (fun hc => ?_)
  · have h := h.1 hc
    refine w_aload_n rfl rfl rfl ?_
    refine w_callV h cs_Mo_isRight_44 rfl rfl (Nat.le_of_ble_eq_true rfl) rfl (fun S1 h => ?_)
    refine w_iconst (v := 1) rfl rfl (by decide) ?_
    refine w_istore_n _ rfl rfl (by decide) rfl rfl ?_
    refine w_iconst (v := 0) rfl rfl (by decide) ?_
    refine w_istore_n _ rfl rfl (by decide) rfl rfl ?_
    exact h
  · have h := h.2 hc
    refine w_aload_n rfl rfl rfl ?_
    refine w_aload_n rfl rfl rfl ?_
    refine w_getR rfl rfl fl_Mo_116 rfl rfl ?_
    refine w_bipush (v := 8) rfl rfl (by decide) ?_
    refine w_aload_n rfl rfl rfl ?_
    refine w_getR rfl rfl fl_Mo_104 rfl rfl ?_
    refine w_iload_n rfl rfl rfl ?_
    refine w_iaload rfl rfl rfl h.1 ?_
    have h := h.2
    refine w_imul rfl rfl ?_
    refine w_iload_n rfl rfl rfl ?_
    refine w_iadd rfl rfl ?_
    refine w_iaload rfl rfl rfl h.1 ?_
    have h := h.2
    refine w_callV h cs_Mo_isRight_34 rfl rfl (Nat.le_of_ble_eq_true rfl) rfl (fun S2 h => ?_)
    refine w_iinc (v := 1) _ rfl rfl (by decide) rfl rfl (by decide) rfl ?_
    refine w_goto 7 rfl rfl rfl ?_
    exact h

set_option maxRecDepth 100000 in
theorem e_Mo_isRight_51 {G : px_G} {d : Nat} {x1 x2 x3 : Int32} {S : px_S} {Q : Option Value → px_S → Prop}
    (h : ((16 ≤ x3 → ((x2 = 0 ∨ x2 = 1) ∧ Q (some (.int x2)) S)) ∧ (¬ (16 ≤ x3) → (vp_in x1 3 ∧ (((S 12 x1.toNatClampNeg) < 0 → ((x2 = 0 ∨ x2 = 1) ∧ Q (some (.int x2)) S)) ∧ (¬ ((S 12 x1.toNatClampNeg) < 0) → ((x2 = 0 → px_w G px_Zr (d + 1) m_Mo_isRight 51 [.ref 0, .int x1, .int 0, .int (x3 + 1)] [] S Q) ∧ (¬ x2 = 0 → (vp_in x1 3 ∧ (vp_in (((S 12 x1.toNatClampNeg) + 28) + x3) 800 ∧ (vp_in x3 16 ∧ ((¬ (S 6 (((S 12 x1.toNatClampNeg) + 28) + x3).toNatClampNeg) = (S 9 x3.toNatClampNeg) → px_w G px_Zr (d + 1) m_Mo_isRight 51 [.ref 0, .int x1, .int 0, .int (x3 + 1)] [] S Q) ∧ ((S 6 (((S 12 x1.toNatClampNeg) + 28) + x3).toNatClampNeg) = (S 9 x3.toNatClampNeg) → px_w G px_Zr (d + 1) m_Mo_isRight 51 [.ref 0, .int x1, .int 1, .int (x3 + 1)] [] S Q))))))))))))) :
    px_w G px_Zr (d + 1) m_Mo_isRight 51 [.ref 0, .int x1, .int x2, .int x3] [] S Q := by
  refine w_iload_n rfl rfl rfl ?_
  refine w_bipush (v := 16) rfl rfl (by decide) ?_
  refine w_if_icmpge 107 rfl rfl rfl (fun hc => ?_) (fun hc => ?_)
  · have h := h.1 hc
    refine w_iload_n rfl rfl rfl ?_
    exact w_zreturn rfl rfl rfl h.1 h.2
  · have h := h.2 hc
    refine w_aload_n rfl rfl rfl ?_
    refine w_getR rfl rfl fl_Mo_107 rfl rfl ?_
    refine w_iload_n rfl rfl rfl ?_
    refine w_iaload rfl rfl rfl h.1 ?_
    have h := h.2
    refine w_iflt 107 rfl rfl rfl (fun hc => ?_) (fun hc => ?_)
    · have h := h.1 hc
      refine w_iload_n rfl rfl rfl ?_
      exact w_zreturn rfl rfl rfl h.1 h.2
    · have h := h.2 hc
      refine w_iload_n rfl rfl rfl ?_
      refine w_ifeq 99 rfl rfl rfl (fun hc => ?_) (fun hc => ?_)
      · have h := h.1 hc
        refine w_iconst (v := 0) rfl rfl (by decide) ?_
        refine w_istore_n _ rfl rfl (by decide) rfl rfl ?_
        refine w_iinc (v := 1) _ rfl rfl (by decide) rfl rfl (by decide) rfl ?_
        refine w_goto 51 rfl rfl rfl ?_
        exact h
      · have h := h.2 hc
        refine w_aload_n rfl rfl rfl ?_
        refine w_getR rfl rfl fl_Mo_89 rfl rfl ?_
        refine w_aload_n rfl rfl rfl ?_
        refine w_getR rfl rfl fl_Mo_107 rfl rfl ?_
        refine w_iload_n rfl rfl rfl ?_
        refine w_iaload rfl rfl rfl h.1 ?_
        have h := h.2
        refine w_bipush (v := 28) rfl rfl (by decide) ?_
        refine w_iadd rfl rfl ?_
        refine w_iload_n rfl rfl rfl ?_
        refine w_iadd rfl rfl ?_
        refine w_iaload rfl rfl rfl h.1 ?_
        have h := h.2
        refine w_aload_n rfl rfl rfl ?_
        refine w_getR rfl rfl fl_Mo_98 rfl rfl ?_
        refine w_iload_n rfl rfl rfl ?_
        refine w_iaload rfl rfl rfl h.1 ?_
        have h := h.2
        refine w_if_icmpne 99 rfl rfl rfl (fun hc => ?_) (fun hc => ?_)
        · have h := h.1 hc
          refine w_iconst (v := 0) rfl rfl (by decide) ?_
          refine w_istore_n _ rfl rfl (by decide) rfl rfl ?_
          refine w_iinc (v := 1) _ rfl rfl (by decide) rfl rfl (by decide) rfl ?_
          refine w_goto 51 rfl rfl rfl ?_
          exact h
        · have h := h.2 hc
          refine w_iconst (v := 1) rfl rfl (by decide) ?_
          refine w_goto 100 rfl rfl rfl ?_
          refine w_istore_n _ rfl rfl (by decide) rfl rfl ?_
          refine w_iinc (v := 1) _ rfl rfl (by decide) rfl rfl (by decide) rfl ?_
          refine w_goto 51 rfl rfl rfl ?_
          exact h

theorem f_Mo_isRight {G : px_G} {d : Nat} {x1 : Int32} {S : px_S} {Q : Option Value → px_S → Prop}
    (h : px_w G px_Zr (d + 1) m_Mo_isRight 7 [.ref 0, .int x1, .int 0, .null] [] (px_u S 0 8 0) Q) :
    px_M G px_Zr (d + 1) m_Mo_isRight [.ref 0, .int x1] S Q :=
  px_in (Or.inr ⟨_, _, _, _, _, rfl, rfl, rfl, rfl⟩) (by decide) (Nat.le_of_ble_eq_true rfl) (px_en 2 rfl) (e_Mo_isRight_0 h)

set_option maxRecDepth 100000 in
theorem e_Mo_repair_0 {G : px_G} {d : Nat} {S : px_S} {Q : Option Value → px_S → Prop}
    (h : px_I G px_Zr d m_Mo_scanned [.ref 0] S (fun r2 S1 => ((¬ r2 = 0 → px_I G px_Zr d m_Mo_damagedSet [.ref 0] S1 (fun r4 S3 => px_w G px_Zr (d + 1) m_Mo_repair 19 [.ref 0, .int r4, .int 0, .int 0, .null, .null] [] S3 Q)) ∧ (r2 = 0 → Q (some (.int (-3))) S1)))) :
    px_w G px_Zr (d + 1) m_Mo_repair 0 [.ref 0, .null, .null, .null, .null, .null] [] S Q := by
  refine w_aload_n rfl rfl rfl ?_
  refine w_callI h cs_Mo_repair_1 rfl rfl (Nat.le_of_ble_eq_true rfl) rfl (fun r2 S1 h => ?_)
  refine w_ifne 10 rfl rfl rfl (fun hc => ?_) (fun hc => ?_)
  · have h := h.1 hc
    refine w_aload_n rfl rfl rfl ?_
    refine w_callI h cs_Mo_repair_11 rfl rfl (Nat.le_of_ble_eq_true rfl) rfl (fun r4 S3 h => ?_)
    refine w_istore_n _ rfl rfl (by decide) rfl rfl ?_
    refine w_iconst (v := 0) rfl rfl (by decide) ?_
    refine w_istore_n _ rfl rfl (by decide) rfl rfl ?_
    refine w_iconst (v := 0) rfl rfl (by decide) ?_
    refine w_istore_n _ rfl rfl (by decide) rfl rfl ?_
    exact h
  · have h := h.2 hc
    refine w_bipush (v := -3) rfl rfl (by decide) ?_
    exact w_ireturn rfl rfl rfl h

set_option maxRecDepth 100000 in
theorem e_Mo_repair_19 {G : px_G} {d : Nat} {x1 x2 x3 : Int32} {S : px_S} {Q : Option Value → px_S → Prop}
    (h : ((12 ≤ x3 → px_I G px_Zr d m_Mo_take [.ref 0, .int x2, .int x1] S (fun r6 S5 => ((¬ r6 = 0 → px_V G px_Zr d m_Mo_putSlices [.ref 0, .int x2] S5 (fun S7 => px_w G px_Zr (d + 1) m_Mo_repair 72 [.ref 0, .int x1, .int x2, .int 1, .int 0, .null] [] S7 Q)) ∧ (r6 = 0 → Q (some (.int (-4))) S5)))) ∧ (¬ (12 ≤ x3) → ((¬ ((px_sar x1 x3) &&& 1) = 1 → px_w G px_Zr (d + 1) m_Mo_repair 19 [.ref 0, .int x1, .int x2, .int (x3 + 1), .null, .null] [] S Q) ∧ (((px_sar x1 x3) &&& 1) = 1 → (vp_in x2 12 ∧ px_w G px_Zr (d + 1) m_Mo_repair 19 [.ref 0, .int x1, .int (x2 + 1), .int (x3 + 1), .null, .null] [] (px_u S 18 x2.toNatClampNeg x3) Q)))))) :
    px_w G px_Zr (d + 1) m_Mo_repair 19 [.ref 0, .int x1, .int x2, .int x3, .null, .null] [] S Q := by
  refine w_iload_n rfl rfl rfl ?_
  refine w_bipush (v := 12) rfl rfl (by decide) ?_
  refine w_if_icmpge 50 rfl rfl rfl (fun hc => ?_) (fun hc => ?_)
  · have h := h.1 hc
    refine w_aload_n rfl rfl rfl ?_
    refine w_iload_n rfl rfl rfl ?_
    refine w_iload_n rfl rfl rfl ?_
    refine w_callI h cs_Mo_repair_53 rfl rfl (Nat.le_of_ble_eq_true rfl) rfl (fun r6 S5 h => ?_)
    refine w_ifne 62 rfl rfl rfl (fun hc => ?_) (fun hc => ?_)
    · have h := h.1 hc
      refine w_aload_n rfl rfl rfl ?_
      refine w_iload_n rfl rfl rfl ?_
      refine w_callV h cs_Mo_repair_64 rfl rfl (Nat.le_of_ble_eq_true rfl) rfl (fun S7 h => ?_)
      refine w_iconst (v := 1) rfl rfl (by decide) ?_
      refine w_istore_n _ rfl rfl (by decide) rfl rfl ?_
      refine w_iconst (v := 0) rfl rfl (by decide) ?_
      refine w_istore _ rfl rfl (by decide) rfl rfl ?_
      exact h
    · have h := h.2 hc
      refine w_bipush (v := -4) rfl rfl (by decide) ?_
      exact w_ireturn rfl rfl rfl h
  · have h := h.2 hc
    refine w_iload_n rfl rfl rfl ?_
    refine w_iload_n rfl rfl rfl ?_
    refine w_ishr rfl rfl ?_
    refine w_iconst (v := 1) rfl rfl (by decide) ?_
    refine w_iand rfl rfl ?_
    refine w_iconst (v := 1) rfl rfl (by decide) ?_
    refine w_if_icmpne 44 rfl rfl rfl (fun hc => ?_) (fun hc => ?_)
    · have h := h.1 hc
      refine w_iinc (v := 1) _ rfl rfl (by decide) rfl rfl (by decide) rfl ?_
      refine w_goto 19 rfl rfl rfl ?_
      exact h
    · have h := h.2 hc
      refine w_aload_n rfl rfl rfl ?_
      refine w_getR rfl rfl fl_Mo_125 rfl rfl ?_
      refine w_iload_n rfl rfl rfl ?_
      refine w_iload_n rfl rfl rfl ?_
      refine w_iastore rfl rfl rfl h.1 ?_
      have h := h.2
      refine w_iinc (v := 1) _ rfl rfl (by decide) rfl rfl (by decide) rfl ?_
      refine w_iinc (v := 1) _ rfl rfl (by decide) rfl rfl (by decide) rfl ?_
      refine w_goto 19 rfl rfl rfl ?_
      exact h

set_option maxRecDepth 100000 in
theorem e_Mo_repair_72 {G : px_G} {d : Nat} {x1 x2 x3 x4 : Int32} {S : px_S} {Q : Option Value → px_S → Prop}
    (h : (((S 0 13) ≤ x4 → ((¬ x3 = 0 → px_w G px_Zr (d + 1) m_Mo_repair 116 [.ref 0, .int x1, .int x2, .int x3, .int 0, .null] [] S Q) ∧ (x3 = 0 → Q (some (.int (-5))) S))) ∧ (¬ ((S 0 13) ≤ x4) → px_I G px_Zr d m_Mo_isRight [.ref 0, .int x4] S (fun r9 S8 => ((r9 = 0 → px_w G px_Zr (d + 1) m_Mo_repair 72 [.ref 0, .int x1, .int x2, .int 0, .int (x4 + 1), .null] [] S8 Q) ∧ (¬ r9 = 0 → ((x3 = 0 → px_w G px_Zr (d + 1) m_Mo_repair 72 [.ref 0, .int x1, .int x2, .int 0, .int (x4 + 1), .null] [] S8 Q) ∧ (¬ x3 = 0 → px_w G px_Zr (d + 1) m_Mo_repair 72 [.ref 0, .int x1, .int x2, .int 1, .int (x4 + 1), .null] [] S8 Q)))))))) :
    px_w G px_Zr (d + 1) m_Mo_repair 72 [.ref 0, .int x1, .int x2, .int x3, .int x4, .null] [] S Q := by
  refine w_iload rfl rfl rfl ?_
  refine w_aload_n rfl rfl rfl ?_
  refine w_getI rfl rfl fl_Mo_237 rfl rfl ?_
  refine w_if_icmpge 106 rfl rfl rfl (fun hc => ?_) (fun hc => ?_)
  · have h := h.1 hc
    refine w_iload_n rfl rfl rfl ?_
    refine w_ifne 113 rfl rfl rfl (fun hc => ?_) (fun hc => ?_)
    · have h := h.1 hc
      refine w_iconst (v := 0) rfl rfl (by decide) ?_
      refine w_istore _ rfl rfl (by decide) rfl rfl ?_
      exact h
    · have h := h.2 hc
      refine w_bipush (v := -5) rfl rfl (by decide) ?_
      exact w_ireturn rfl rfl rfl h
  · have h := h.2 hc
    refine w_aload_n rfl rfl rfl ?_
    refine w_iload rfl rfl rfl ?_
    refine w_callI h cs_Mo_repair_84 rfl rfl (Nat.le_of_ble_eq_true rfl) rfl (fun r9 S8 h => ?_)
    refine w_ifeq 98 rfl rfl rfl (fun hc => ?_) (fun hc => ?_)
    · have h := h.1 hc
      refine w_iconst (v := 0) rfl rfl (by decide) ?_
      refine w_istore_n _ rfl rfl (by decide) rfl rfl ?_
      refine w_iinc (v := 1) _ rfl rfl (by decide) rfl rfl (by decide) rfl ?_
      refine w_goto 72 rfl rfl rfl ?_
      exact h
    · have h := h.2 hc
      refine w_iload_n rfl rfl rfl ?_
      refine w_ifeq 98 rfl rfl rfl (fun hc => ?_) (fun hc => ?_)
      · have h := h.1 hc
        refine w_iconst (v := 0) rfl rfl (by decide) ?_
        refine w_istore_n _ rfl rfl (by decide) rfl rfl ?_
        refine w_iinc (v := 1) _ rfl rfl (by decide) rfl rfl (by decide) rfl ?_
        refine w_goto 72 rfl rfl rfl ?_
        exact h
      · have h := h.2 hc
        refine w_iconst (v := 1) rfl rfl (by decide) ?_
        refine w_goto 99 rfl rfl rfl ?_
        refine w_istore_n _ rfl rfl (by decide) rfl rfl ?_
        refine w_iinc (v := 1) _ rfl rfl (by decide) rfl rfl (by decide) rfl ?_
        refine w_goto 72 rfl rfl rfl ?_
        exact h

set_option maxRecDepth 100000 in
theorem e_Mo_repair_116 {G : px_G} {d : Nat} {x1 x2 x3 x4 : Int32} {S : px_S} {Q : Option Value → px_S → Prop}
    (h : (((S 0 13) ≤ x4 → Q (some (.int x2)) S) ∧ (¬ ((S 0 13) ≤ x4) → px_w G px_Zr (d + 1) m_Mo_repair 128 [.ref 0, .int x1, .int x2, .int x3, .int x4, .int 0] [] S Q))) :
    px_w G px_Zr (d + 1) m_Mo_repair 116 [.ref 0, .int x1, .int x2, .int x3, .int x4, .null] [] S Q := by
  refine w_iload rfl rfl rfl ?_
  refine w_aload_n rfl rfl rfl ?_
  refine w_getI rfl rfl fl_Mo_237 rfl rfl ?_
  refine w_if_icmpge 197 rfl rfl rfl (fun hc => ?_) (fun hc => ?_)
  · have h := h.1 hc
    refine w_iload_n rfl rfl rfl ?_
    exact w_ireturn rfl rfl rfl h
  · have h := h.2 hc
    refine w_iconst (v := 0) rfl rfl (by decide) ?_
    refine w_istore _ rfl rfl (by decide) rfl rfl ?_
    exact h

set_option maxRecDepth 100000 in
theorem e_Mo_repair_128 {G : px_G} {d : Nat} {x1 x2 x3 x4 x5 : Int32} {S : px_S} {Q : Option Value → px_S → Prop}
    (h : (vp_in x4 3 ∧ (((S 10 x4.toNatClampNeg) ≤ x5 → (vp_in x4 3 ∧ (vp_in x4 3 ∧ px_w G px_Zr (d + 1) m_Mo_repair 116 [.ref 0, .int x1, .int x2, .int x3, .int (x4 + 1), .null] [] (px_u S 5 x4.toNatClampNeg (S 10 x4.toNatClampNeg)) Q))) ∧ (¬ ((S 10 x4.toNatClampNeg) ≤ x5) → (vp_in x4 4 ∧ (vp_in ((8 * (S 11 x4.toNatClampNeg)) + x5) 96 ∧ (vp_in ((40 * x4) + x5) 120 ∧ (∀ S10 : px_S, S10 = (px_u S 4 ((40 * x4) + x5).toNatClampNeg (S 15 ((8 * (S 11 x4.toNatClampNeg)) + x5).toNatClampNeg)) → px_w G px_Zr (d + 1) m_Mo_repair 128 [.ref 0, .int x1, .int x2, .int x3, .int x4, .int (x5 + 1)] [] S10 Q)))))))) :
    px_w G px_Zr (d + 1) m_Mo_repair 128 [.ref 0, .int x1, .int x2, .int x3, .int x4, .int x5] [] S Q := by
  refine w_iload rfl rfl rfl ?_
  refine w_aload_n rfl rfl rfl ?_
  refine w_getR rfl rfl fl_Mo_101 rfl rfl ?_
  refine w_iload rfl rfl rfl ?_
  refine w_iaload rfl rfl rfl h.1 ?_
  have h := h.2
  refine w_if_icmpge 177 rfl rfl rfl (fun hc => ?_) (fun hc => ?_)
  · have h := h.1 hc
    refine w_aload_n rfl rfl rfl ?_
    refine w_getR rfl rfl fl_Mo_86 rfl rfl ?_
    refine w_iload rfl rfl rfl ?_
    refine w_aload_n rfl rfl rfl ?_
    refine w_getR rfl rfl fl_Mo_101 rfl rfl ?_
    refine w_iload rfl rfl rfl ?_
    refine w_iaload rfl rfl rfl h.1 ?_
    have h := h.2
    refine w_iastore rfl rfl rfl h.1 ?_
    have h := h.2
    refine w_iinc (v := 1) _ rfl rfl (by decide) rfl rfl (by decide) rfl ?_
    refine w_goto 116 rfl rfl rfl ?_
    refine w_null 5 _ rfl ?_
    exact h
  · have h := h.2 hc
    refine w_aload_n rfl rfl rfl ?_
    refine w_getR rfl rfl fl_Mo_83 rfl rfl ?_
    refine w_bipush (v := 40) rfl rfl (by decide) ?_
    refine w_iload rfl rfl rfl ?_
    refine w_imul rfl rfl ?_
    refine w_iload rfl rfl rfl ?_
    refine w_iadd rfl rfl ?_
    refine w_aload_n rfl rfl rfl ?_
    refine w_getR rfl rfl fl_Mo_116 rfl rfl ?_
    refine w_bipush (v := 8) rfl rfl (by decide) ?_
    refine w_aload_n rfl rfl rfl ?_
    refine w_getR rfl rfl fl_Mo_104 rfl rfl ?_
    refine w_iload rfl rfl rfl ?_
    refine w_iaload rfl rfl rfl h.1 ?_
    have h := h.2
    refine w_imul rfl rfl ?_
    refine w_iload rfl rfl rfl ?_
    refine w_iadd rfl rfl ?_
    refine w_iaload rfl rfl rfl h.1 ?_
    have h := h.2
    refine w_iastore rfl rfl rfl h.1 ?_
    have h := h.2
    have h := h _ rfl
    refine w_iinc (v := 1) _ rfl rfl (by decide) rfl rfl (by decide) rfl ?_
    refine w_goto 128 rfl rfl rfl ?_
    exact h

theorem f_Mo_repair {G : px_G} {d : Nat} {S : px_S} {Q : Option Value → px_S → Prop}
    (h : px_I G px_Zr d m_Mo_scanned [.ref 0] S (fun r2 S1 => ((¬ r2 = 0 → px_I G px_Zr d m_Mo_damagedSet [.ref 0] S1 (fun r4 S3 => px_w G px_Zr (d + 1) m_Mo_repair 19 [.ref 0, .int r4, .int 0, .int 0, .null, .null] [] S3 Q)) ∧ (r2 = 0 → Q (some (.int (-3))) S1)))) :
    px_M G px_Zr (d + 1) m_Mo_repair [.ref 0] S Q :=
  px_in (Or.inr ⟨_, _, _, _, _, rfl, rfl, rfl, rfl⟩) (by decide) (Nat.le_of_ble_eq_true rfl) (px_en 5 rfl) (e_Mo_repair_0 h)


