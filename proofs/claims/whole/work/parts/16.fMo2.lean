set_option maxRecDepth 100000 in
theorem e_Mo_begin_0 {G : px_G} {d : Nat} {x1 : Int32} {S : px_S} {Q : Option Value → px_S → Prop}
    (h : px_V G px_Zr d m_Mo_write [.ref 0, .int 80] S (fun S1 => px_V G px_Zr d m_Mo_write [.ref 0, .int 75] S1 (fun S2 => px_V G px_Zr d m_Mo_write [.ref 0, .int 84] S2 (fun S3 => px_V G px_Zr d m_Mo_write [.ref 0, .int x1] S3 (fun S4 => Q (some (.int (S 0 6))) (px_u S4 0 6 ((S4 0 6) + 22))))))) :
    px_w G px_Zr (d + 1) m_Mo_begin 0 [.ref 0, .int x1, .null] [] S Q := by
  refine w_aload_n rfl rfl rfl ?_
  refine w_getI rfl rfl fl_Mo_168 rfl rfl ?_
  refine w_istore_n _ rfl rfl (by decide) rfl rfl ?_
  refine w_aload_n rfl rfl rfl ?_
  refine w_bipush (v := 80) rfl rfl (by decide) ?_
  refine w_callV h cs_Mo_begin_8 rfl rfl (Nat.le_of_ble_eq_true rfl) rfl (fun S1 h => ?_)
  refine w_aload_n rfl rfl rfl ?_
  refine w_bipush (v := 75) rfl rfl (by decide) ?_
  refine w_callV h cs_Mo_begin_14 rfl rfl (Nat.le_of_ble_eq_true rfl) rfl (fun S2 h => ?_)
  refine w_aload_n rfl rfl rfl ?_
  refine w_bipush (v := 84) rfl rfl (by decide) ?_
  refine w_callV h cs_Mo_begin_20 rfl rfl (Nat.le_of_ble_eq_true rfl) rfl (fun S3 h => ?_)
  refine w_aload_n rfl rfl rfl ?_
  refine w_iload_n rfl rfl rfl ?_
  refine w_callV h cs_Mo_begin_25 rfl rfl (Nat.le_of_ble_eq_true rfl) rfl (fun S4 h => ?_)
  refine w_aload_n rfl rfl rfl ?_
  refine w_dup rfl rfl rfl ?_
  refine w_getI rfl rfl fl_Mo_168 rfl rfl ?_
  refine w_bipush (v := 22) rfl rfl (by decide) ?_
  refine w_iadd rfl rfl ?_
  refine w_put rfl rfl fl_Mo_168 fw_Mo_6 rfl rfl ?_
  refine w_iload_n rfl rfl rfl ?_
  exact w_ireturn rfl rfl rfl h

theorem f_Mo_begin {G : px_G} {d : Nat} {x1 : Int32} {S : px_S} {Q : Option Value → px_S → Prop}
    (h : px_V G px_Zr d m_Mo_write [.ref 0, .int 80] S (fun S1 => px_V G px_Zr d m_Mo_write [.ref 0, .int 75] S1 (fun S2 => px_V G px_Zr d m_Mo_write [.ref 0, .int 84] S2 (fun S3 => px_V G px_Zr d m_Mo_write [.ref 0, .int x1] S3 (fun S4 => Q (some (.int (S 0 6))) (px_u S4 0 6 ((S4 0 6) + 22))))))) :
    px_M G px_Zr (d + 1) m_Mo_begin [.ref 0, .int x1] S Q :=
  px_in (Or.inr ⟨_, _, _, _, _, rfl, rfl, rfl, rfl⟩) (by decide) (Nat.le_of_ble_eq_true rfl) (px_en 1 rfl) (e_Mo_begin_0 h)

set_option maxRecDepth 100000 in
theorem e_Mo_end_0 {G : px_G} {d : Nat} {x1 x2 : Int32} {S : px_S} {Q : Option Value → px_S → Prop}
    (h : (vp_in (x1 + 4) 800 ∧ (vp_in (x1 + 5) 800 ∧ (∀ S1 : px_S, S1 = (px_u (px_u S 6 (x1 + 4).toNatClampNeg ((((S 0 6) - x1) - 26) &&& 255)) 6 (x1 + 5).toNatClampNeg (px_sar (((S 0 6) - x1) - 26) 8)) → px_w G px_Zr (d + 1) m_Mo_end 38 [.ref 0, .int x1, .int x2, .int (((S 0 6) - x1) - 26), .int 0] [] S1 Q)))) :
    px_w G px_Zr (d + 1) m_Mo_end 0 [.ref 0, .int x1, .int x2, .null, .null] [] S Q := by
  refine w_aload_n rfl rfl rfl ?_
  refine w_getI rfl rfl fl_Mo_168 rfl rfl ?_
  refine w_iload_n rfl rfl rfl ?_
  refine w_isub rfl rfl ?_
  refine w_bipush (v := 26) rfl rfl (by decide) ?_
  refine w_isub rfl rfl ?_
  refine w_istore_n _ rfl rfl (by decide) rfl rfl ?_
  refine w_aload_n rfl rfl rfl ?_
  refine w_getR rfl rfl fl_Mo_89 rfl rfl ?_
  refine w_iload_n rfl rfl rfl ?_
  refine w_iconst (v := 4) rfl rfl (by decide) ?_
  refine w_iadd rfl rfl ?_
  refine w_iload_n rfl rfl rfl ?_
  refine w_sipush (v := 255) rfl rfl (by decide) ?_
  refine w_iand rfl rfl ?_
  refine w_iastore rfl rfl rfl h.1 ?_
  have h := h.2
  refine w_aload_n rfl rfl rfl ?_
  refine w_getR rfl rfl fl_Mo_89 rfl rfl ?_
  refine w_iload_n rfl rfl rfl ?_
  refine w_iconst (v := 5) rfl rfl (by decide) ?_
  refine w_iadd rfl rfl ?_
  refine w_iload_n rfl rfl rfl ?_
  refine w_bipush (v := 8) rfl rfl (by decide) ?_
  refine w_ishr rfl rfl ?_
  refine w_iastore rfl rfl rfl h.1 ?_
  have h := h.2
  have h := h _ rfl
  refine w_iconst (v := 0) rfl rfl (by decide) ?_
  refine w_istore _ rfl rfl (by decide) rfl rfl ?_
  exact h

set_option maxRecDepth 100000 in
theorem e_Mo_end_38 {G : px_G} {d : Nat} {x1 x2 x3 x4 : Int32} {S : px_S} {Q : Option Value → px_S → Prop}
    (h : ((4 ≤ x4 → px_V G px_Zr d m_Mo_sumPacket [.ref 0, .int x1] S (fun S2 => px_w G px_Zr (d + 1) m_Mo_end 81 [.ref 0, .int x1, .int x2, .int x3, .int 0] [] S2 Q)) ∧ (¬ (4 ≤ x4) → (vp_in ((x1 + 22) + x4) 800 ∧ px_w G px_Zr (d + 1) m_Mo_end 38 [.ref 0, .int x1, .int x2, .int x3, .int (x4 + 1)] [] (px_u S 6 ((x1 + 22) + x4).toNatClampNeg ((px_ushr x2 (8 * x4)) &&& 255)) Q)))) :
    px_w G px_Zr (d + 1) m_Mo_end 38 [.ref 0, .int x1, .int x2, .int x3, .int x4] [] S Q := by
  refine w_iload rfl rfl rfl ?_
  refine w_iconst (v := 4) rfl rfl (by decide) ?_
  refine w_if_icmpge 73 rfl rfl rfl (fun hc => ?_) (fun hc => ?_)
  · have h := h.1 hc
    refine w_aload_n rfl rfl rfl ?_
    refine w_iload_n rfl rfl rfl ?_
    refine w_callV h cs_Mo_end_75 rfl rfl (Nat.le_of_ble_eq_true rfl) rfl (fun S2 h => ?_)
    refine w_iconst (v := 0) rfl rfl (by decide) ?_
    refine w_istore _ rfl rfl (by decide) rfl rfl ?_
    exact h
  · have h := h.2 hc
    refine w_aload_n rfl rfl rfl ?_
    refine w_getR rfl rfl fl_Mo_89 rfl rfl ?_
    refine w_iload_n rfl rfl rfl ?_
    refine w_bipush (v := 22) rfl rfl (by decide) ?_
    refine w_iadd rfl rfl ?_
    refine w_iload rfl rfl rfl ?_
    refine w_iadd rfl rfl ?_
    refine w_iload_n rfl rfl rfl ?_
    refine w_bipush (v := 8) rfl rfl (by decide) ?_
    refine w_iload rfl rfl rfl ?_
    refine w_imul rfl rfl ?_
    refine w_iushr rfl rfl ?_
    refine w_sipush (v := 255) rfl rfl (by decide) ?_
    refine w_iand rfl rfl ?_
    refine w_iastore rfl rfl rfl h.1 ?_
    have h := h.2
    refine w_iinc (v := 1) _ rfl rfl (by decide) rfl rfl (by decide) rfl ?_
    refine w_goto 38 rfl rfl rfl ?_
    exact h

set_option maxRecDepth 100000 in
theorem e_Mo_end_81 {G : px_G} {d : Nat} {x1 x2 x3 x4 : Int32} {S : px_S} {Q : Option Value → px_S → Prop}
    (h : ((16 ≤ x4 → Q none S) ∧ (¬ (16 ≤ x4) → (vp_in x4 16 ∧ (vp_in ((x1 + 6) + x4) 800 ∧ px_w G px_Zr (d + 1) m_Mo_end 81 [.ref 0, .int x1, .int x2, .int x3, .int (x4 + 1)] [] (px_u S 6 ((x1 + 6) + x4).toNatClampNeg (S 9 x4.toNatClampNeg)) Q))))) :
    px_w G px_Zr (d + 1) m_Mo_end 81 [.ref 0, .int x1, .int x2, .int x3, .int x4] [] S Q := by
  refine w_iload rfl rfl rfl ?_
  refine w_bipush (v := 16) rfl rfl (by decide) ?_
  refine w_if_icmpge 113 rfl rfl rfl (fun hc => ?_) (fun hc => ?_)
  · have h := h.1 hc
    exact w_return rfl rfl rfl h
  · have h := h.2 hc
    refine w_aload_n rfl rfl rfl ?_
    refine w_getR rfl rfl fl_Mo_89 rfl rfl ?_
    refine w_iload_n rfl rfl rfl ?_
    refine w_bipush (v := 6) rfl rfl (by decide) ?_
    refine w_iadd rfl rfl ?_
    refine w_iload rfl rfl rfl ?_
    refine w_iadd rfl rfl ?_
    refine w_aload_n rfl rfl rfl ?_
    refine w_getR rfl rfl fl_Mo_98 rfl rfl ?_
    refine w_iload rfl rfl rfl ?_
    refine w_iaload rfl rfl rfl h.1 ?_
    have h := h.2
    refine w_iastore rfl rfl rfl h.1 ?_
    have h := h.2
    refine w_iinc (v := 1) _ rfl rfl (by decide) rfl rfl (by decide) rfl ?_
    refine w_goto 81 rfl rfl rfl ?_
    exact h

theorem f_Mo_end {G : px_G} {d : Nat} {x1 x2 : Int32} {S : px_S} {Q : Option Value → px_S → Prop}
    (h : (vp_in (x1 + 4) 800 ∧ (vp_in (x1 + 5) 800 ∧ (∀ S1 : px_S, S1 = (px_u (px_u S 6 (x1 + 4).toNatClampNeg ((((S 0 6) - x1) - 26) &&& 255)) 6 (x1 + 5).toNatClampNeg (px_sar (((S 0 6) - x1) - 26) 8)) → px_w G px_Zr (d + 1) m_Mo_end 38 [.ref 0, .int x1, .int x2, .int (((S 0 6) - x1) - 26), .int 0] [] S1 Q)))) :
    px_M G px_Zr (d + 1) m_Mo_end [.ref 0, .int x1, .int x2] S Q :=
  px_in (Or.inr ⟨_, _, _, _, _, rfl, rfl, rfl, rfl⟩) (by decide) (Nat.le_of_ble_eq_true rfl) (px_en 2 rfl) (e_Mo_end_0 h)

set_option maxRecDepth 100000 in
theorem e_Mo_bodyLength_0 {G : px_G} {d : Nat} {x1 : Int32} {S : px_S} {Q : Option Value → px_S → Prop}
    (h : (vp_in (x1 + 4) 800 ∧ (vp_in (x1 + 5) 800 ∧ Q (some (.int ((S 6 (x1 + 4).toNatClampNeg) ||| (px_shl (S 6 (x1 + 5).toNatClampNeg) 8)))) S))) :
    px_w G px_Zr d m_Mo_bodyLength 0 [.ref 0, .int x1] [] S Q := by
  refine w_aload_n rfl rfl rfl ?_
  refine w_getR rfl rfl fl_Mo_89 rfl rfl ?_
  refine w_iload_n rfl rfl rfl ?_
  refine w_iconst (v := 4) rfl rfl (by decide) ?_
  refine w_iadd rfl rfl ?_
  refine w_iaload rfl rfl rfl h.1 ?_
  have h := h.2
  refine w_aload_n rfl rfl rfl ?_
  refine w_getR rfl rfl fl_Mo_89 rfl rfl ?_
  refine w_iload_n rfl rfl rfl ?_
  refine w_iconst (v := 5) rfl rfl (by decide) ?_
  refine w_iadd rfl rfl ?_
  refine w_iaload rfl rfl rfl h.1 ?_
  have h := h.2
  refine w_bipush (v := 8) rfl rfl (by decide) ?_
  refine w_ishl rfl rfl ?_
  refine w_ior rfl rfl ?_
  exact w_ireturn rfl rfl rfl h

theorem f_Mo_bodyLength {G : px_G} {d : Nat} {x1 : Int32} {S : px_S} {Q : Option Value → px_S → Prop}
    (h : (vp_in (x1 + 4) 800 ∧ (vp_in (x1 + 5) 800 ∧ Q (some (.int ((S 6 (x1 + 4).toNatClampNeg) ||| (px_shl (S 6 (x1 + 5).toNatClampNeg) 8)))) S))) :
    px_M G px_Zr d m_Mo_bodyLength [.ref 0, .int x1] S Q :=
  px_in (Or.inr ⟨_, _, _, _, _, rfl, rfl, rfl, rfl⟩) (by decide) (Nat.le_of_ble_eq_true rfl) (px_en 0 rfl) (e_Mo_bodyLength_0 h)

set_option maxRecDepth 100000 in
theorem e_Mo_sumPacket_0 {G : px_G} {d : Nat} {x1 : Int32} {S : px_S} {Q : Option Value → px_S → Prop}
    (h : px_w G px_Zr (d + 1) m_Mo_sumPacket 7 [.ref 0, .int x1, .int 3] [] (px_u S 0 8 0) Q) :
    px_w G px_Zr (d + 1) m_Mo_sumPacket 0 [.ref 0, .int x1, .null] [] S Q := by
  refine w_aload_n rfl rfl rfl ?_
  refine w_iconst (v := 0) rfl rfl (by decide) ?_
  refine w_put rfl rfl fl_Mo_128 fw_Mo_8 rfl rfl ?_
  refine w_iconst (v := 3) rfl rfl (by decide) ?_
  refine w_istore_n _ rfl rfl (by decide) rfl rfl ?_
  exact h

set_option maxRecDepth 100000 in
theorem e_Mo_sumPacket_7 {G : px_G} {d : Nat} {x1 x2 : Int32} {S : px_S} {Q : Option Value → px_S → Prop}
    (h : ((6 ≤ x2 → px_w G px_Zr (d + 1) m_Mo_sumPacket 34 [.ref 0, .int x1, .int 22] [] S Q) ∧ (¬ (6 ≤ x2) → (vp_in (x1 + x2) 800 ∧ px_V G px_Zr d m_Mo_put [.ref 0, .int (S 6 (x1 + x2).toNatClampNeg)] S (fun S1 => px_w G px_Zr (d + 1) m_Mo_sumPacket 7 [.ref 0, .int x1, .int (x2 + 1)] [] S1 Q))))) :
    px_w G px_Zr (d + 1) m_Mo_sumPacket 7 [.ref 0, .int x1, .int x2] [] S Q := by
  refine w_iload_n rfl rfl rfl ?_
  refine w_bipush (v := 6) rfl rfl (by decide) ?_
  refine w_if_icmpge 31 rfl rfl rfl (fun hc => ?_) (fun hc => ?_)
  · have h := h.1 hc
    refine w_bipush (v := 22) rfl rfl (by decide) ?_
    refine w_istore_n _ rfl rfl (by decide) rfl rfl ?_
    exact h
  · have h := h.2 hc
    refine w_aload_n rfl rfl rfl ?_
    refine w_aload_n rfl rfl rfl ?_
    refine w_getR rfl rfl fl_Mo_89 rfl rfl ?_
    refine w_iload_n rfl rfl rfl ?_
    refine w_iload_n rfl rfl rfl ?_
    refine w_iadd rfl rfl ?_
    refine w_iaload rfl rfl rfl h.1 ?_
    have h := h.2
    refine w_callV h cs_Mo_sumPacket_22 rfl rfl (Nat.le_of_ble_eq_true rfl) rfl (fun S1 h => ?_)
    refine w_iinc (v := 1) _ rfl rfl (by decide) rfl rfl (by decide) rfl ?_
    refine w_goto 7 rfl rfl rfl ?_
    exact h

set_option maxRecDepth 100000 in
theorem e_Mo_sumPacket_34 {G : px_G} {d : Nat} {x1 x2 : Int32} {S : px_S} {Q : Option Value → px_S → Prop}
    (h : px_I G px_Zr d m_Mo_bodyLength [.ref 0, .int x1] S (fun r3 S2 => (((26 + r3) ≤ x2 → px_V G px_Zr d m_Mo_makeSum [.ref 0] S2 (fun S4 => Q none S4)) ∧ (¬ ((26 + r3) ≤ x2) → (vp_in (x1 + x2) 800 ∧ px_V G px_Zr d m_Mo_put [.ref 0, .int (S2 6 (x1 + x2).toNatClampNeg)] S2 (fun S5 => px_w G px_Zr (d + 1) m_Mo_sumPacket 34 [.ref 0, .int x1, .int (x2 + 1)] [] S5 Q)))))) :
    px_w G px_Zr (d + 1) m_Mo_sumPacket 34 [.ref 0, .int x1, .int x2] [] S Q := by
  refine w_iload_n rfl rfl rfl ?_
  refine w_bipush (v := 26) rfl rfl (by decide) ?_
  refine w_aload_n rfl rfl rfl ?_
  refine w_iload_n rfl rfl rfl ?_
  refine w_callI h cs_Mo_sumPacket_39 rfl rfl (Nat.le_of_ble_eq_true rfl) rfl (fun r3 S2 h => ?_)
  refine w_iadd rfl rfl ?_
  refine w_if_icmpge 64 rfl rfl rfl (fun hc => ?_) (fun hc => ?_)
  · have h := h.1 hc
    refine w_aload_n rfl rfl rfl ?_
    refine w_callV h cs_Mo_sumPacket_65 rfl rfl (Nat.le_of_ble_eq_true rfl) rfl (fun S4 h => ?_)
    exact w_return rfl rfl rfl h
  · have h := h.2 hc
    refine w_aload_n rfl rfl rfl ?_
    refine w_aload_n rfl rfl rfl ?_
    refine w_getR rfl rfl fl_Mo_89 rfl rfl ?_
    refine w_iload_n rfl rfl rfl ?_
    refine w_iload_n rfl rfl rfl ?_
    refine w_iadd rfl rfl ?_
    refine w_iaload rfl rfl rfl h.1 ?_
    have h := h.2
    refine w_callV h cs_Mo_sumPacket_55 rfl rfl (Nat.le_of_ble_eq_true rfl) rfl (fun S5 h => ?_)
    refine w_iinc (v := 1) _ rfl rfl (by decide) rfl rfl (by decide) rfl ?_
    refine w_goto 34 rfl rfl rfl ?_
    exact h

theorem f_Mo_sumPacket {G : px_G} {d : Nat} {x1 : Int32} {S : px_S} {Q : Option Value → px_S → Prop}
    (h : px_w G px_Zr (d + 1) m_Mo_sumPacket 7 [.ref 0, .int x1, .int 3] [] (px_u S 0 8 0) Q) :
    px_M G px_Zr (d + 1) m_Mo_sumPacket [.ref 0, .int x1] S Q :=
  px_in (Or.inr ⟨_, _, _, _, _, rfl, rfl, rfl, rfl⟩) (by decide) (Nat.le_of_ble_eq_true rfl) (px_en 1 rfl) (e_Mo_sumPacket_0 h)

set_option maxRecDepth 100000 in
theorem e_Mo_sumBody_0 {G : px_G} {d : Nat} {x1 : Int32} {S : px_S} {Q : Option Value → px_S → Prop}
    (h : px_w G px_Zr (d + 1) m_Mo_sumBody 8 [.ref 0, .int x1, .int 26] [] (px_u S 0 8 0) Q) :
    px_w G px_Zr (d + 1) m_Mo_sumBody 0 [.ref 0, .int x1, .null] [] S Q := by
  refine w_aload_n rfl rfl rfl ?_
  refine w_iconst (v := 0) rfl rfl (by decide) ?_
  refine w_put rfl rfl fl_Mo_128 fw_Mo_8 rfl rfl ?_
  refine w_bipush (v := 26) rfl rfl (by decide) ?_
  refine w_istore_n _ rfl rfl (by decide) rfl rfl ?_
  exact h

set_option maxRecDepth 100000 in
theorem e_Mo_sumBody_8 {G : px_G} {d : Nat} {x1 x2 : Int32} {S : px_S} {Q : Option Value → px_S → Prop}
    (h : px_I G px_Zr d m_Mo_bodyLength [.ref 0, .int x1] S (fun r2 S1 => (((26 + r2) ≤ x2 → px_V G px_Zr d m_Mo_makeSum [.ref 0] S1 (fun S3 => Q none S3)) ∧ (¬ ((26 + r2) ≤ x2) → (vp_in (x1 + x2) 800 ∧ px_V G px_Zr d m_Mo_put [.ref 0, .int (S1 6 (x1 + x2).toNatClampNeg)] S1 (fun S4 => px_w G px_Zr (d + 1) m_Mo_sumBody 8 [.ref 0, .int x1, .int (x2 + 1)] [] S4 Q)))))) :
    px_w G px_Zr (d + 1) m_Mo_sumBody 8 [.ref 0, .int x1, .int x2] [] S Q := by
  refine w_iload_n rfl rfl rfl ?_
  refine w_bipush (v := 26) rfl rfl (by decide) ?_
  refine w_aload_n rfl rfl rfl ?_
  refine w_iload_n rfl rfl rfl ?_
  refine w_callI h cs_Mo_sumBody_13 rfl rfl (Nat.le_of_ble_eq_true rfl) rfl (fun r2 S1 h => ?_)
  refine w_iadd rfl rfl ?_
  refine w_if_icmpge 38 rfl rfl rfl (fun hc => ?_) (fun hc => ?_)
  · have h := h.1 hc
    refine w_aload_n rfl rfl rfl ?_
    refine w_callV h cs_Mo_sumBody_39 rfl rfl (Nat.le_of_ble_eq_true rfl) rfl (fun S3 h => ?_)
    exact w_return rfl rfl rfl h
  · have h := h.2 hc
    refine w_aload_n rfl rfl rfl ?_
    refine w_aload_n rfl rfl rfl ?_
    refine w_getR rfl rfl fl_Mo_89 rfl rfl ?_
    refine w_iload_n rfl rfl rfl ?_
    refine w_iload_n rfl rfl rfl ?_
    refine w_iadd rfl rfl ?_
    refine w_iaload rfl rfl rfl h.1 ?_
    have h := h.2
    refine w_callV h cs_Mo_sumBody_29 rfl rfl (Nat.le_of_ble_eq_true rfl) rfl (fun S4 h => ?_)
    refine w_iinc (v := 1) _ rfl rfl (by decide) rfl rfl (by decide) rfl ?_
    refine w_goto 8 rfl rfl rfl ?_
    exact h

theorem f_Mo_sumBody {G : px_G} {d : Nat} {x1 : Int32} {S : px_S} {Q : Option Value → px_S → Prop}
    (h : px_w G px_Zr (d + 1) m_Mo_sumBody 8 [.ref 0, .int x1, .int 26] [] (px_u S 0 8 0) Q) :
    px_M G px_Zr (d + 1) m_Mo_sumBody [.ref 0, .int x1] S Q :=
  px_in (Or.inr ⟨_, _, _, _, _, rfl, rfl, rfl, rfl⟩) (by decide) (Nat.le_of_ble_eq_true rfl) (px_en 1 rfl) (e_Mo_sumBody_0 h)

set_option maxRecDepth 100000 in
theorem e_Mo_firstFour_0 {G : px_G} {d : Nat} {S : px_S} {Q : Option Value → px_S → Prop}
    (h : Q (some (.int ((((S 9 0) ||| (px_shl (S 9 1) 8)) ||| (px_shl (S 9 2) 16)) ||| (px_shl (S 9 3) 24)))) S) :
    px_w G px_Zr d m_Mo_firstFour 0 [.ref 0] [] S Q := by
  refine w_aload_n rfl rfl rfl ?_
  refine w_getR rfl rfl fl_Mo_98 rfl rfl ?_
  refine w_iconst (v := 0) rfl rfl (by decide) ?_
  refine w_ialoadK (j := 0) rfl rfl rfl (by decide) (by decide) (by decide) ?_
  refine w_aload_n rfl rfl rfl ?_
  refine w_getR rfl rfl fl_Mo_98 rfl rfl ?_
  refine w_iconst (v := 1) rfl rfl (by decide) ?_
  refine w_ialoadK (j := 1) rfl rfl rfl (by decide) (by decide) (by decide) ?_
  refine w_bipush (v := 8) rfl rfl (by decide) ?_
  refine w_ishl rfl rfl ?_
  refine w_ior rfl rfl ?_
  refine w_aload_n rfl rfl rfl ?_
  refine w_getR rfl rfl fl_Mo_98 rfl rfl ?_
  refine w_iconst (v := 2) rfl rfl (by decide) ?_
  refine w_ialoadK (j := 2) rfl rfl rfl (by decide) (by decide) (by decide) ?_
  refine w_bipush (v := 16) rfl rfl (by decide) ?_
  refine w_ishl rfl rfl ?_
  refine w_ior rfl rfl ?_
  refine w_aload_n rfl rfl rfl ?_
  refine w_getR rfl rfl fl_Mo_98 rfl rfl ?_
  refine w_iconst (v := 3) rfl rfl (by decide) ?_
  refine w_ialoadK (j := 3) rfl rfl rfl (by decide) (by decide) (by decide) ?_
  refine w_bipush (v := 24) rfl rfl (by decide) ?_
  refine w_ishl rfl rfl ?_
  refine w_ior rfl rfl ?_
  exact w_ireturn rfl rfl rfl h

theorem f_Mo_firstFour {G : px_G} {d : Nat} {S : px_S} {Q : Option Value → px_S → Prop}
    (h : Q (some (.int ((((S 9 0) ||| (px_shl (S 9 1) 8)) ||| (px_shl (S 9 2) 16)) ||| (px_shl (S 9 3) 24)))) S) :
    px_M G px_Zr d m_Mo_firstFour [.ref 0] S Q :=
  px_in (Or.inr ⟨_, _, _, _, _, rfl, rfl, rfl, rfl⟩) (by decide) (Nat.le_of_ble_eq_true rfl) (px_en 0 rfl) (e_Mo_firstFour_0 h)

set_option maxRecDepth 100000 in
theorem e_Mo_sumFile_0 {G : px_G} {d : Nat} {x1 x2 : Int32} {S : px_S} {Q : Option Value → px_S → Prop}
    (h : px_w G px_Zr (d + 1) m_Mo_sumFile 7 [.ref 0, .int x1, .int x2, .int 0] [] (px_u S 0 8 0) Q) :
    px_w G px_Zr (d + 1) m_Mo_sumFile 0 [.ref 0, .int x1, .int x2, .null] [] S Q := by
  refine w_aload_n rfl rfl rfl ?_
  refine w_iconst (v := 0) rfl rfl (by decide) ?_
  refine w_put rfl rfl fl_Mo_128 fw_Mo_8 rfl rfl ?_
  refine w_iconst (v := 0) rfl rfl (by decide) ?_
  refine w_istore_n _ rfl rfl (by decide) rfl rfl ?_
  exact h

set_option maxRecDepth 100000 in
theorem e_Mo_sumFile_7 {G : px_G} {d : Nat} {x1 x2 x3 : Int32} {S : px_S} {Q : Option Value → px_S → Prop}
    (h : ((x2 ≤ x3 → px_V G px_Zr d m_Mo_makeSum [.ref 0] S (fun S1 => Q none S1)) ∧ (¬ (x2 ≤ x3) → (vp_in x1 3 ∧ (((S 5 x1.toNatClampNeg) ≤ x3 → px_V G px_Zr d m_Mo_put [.ref 0, .int 0] S (fun S2 => px_w G px_Zr (d + 1) m_Mo_sumFile 7 [.ref 0, .int x1, .int x2, .int (x3 + 1)] [] S2 Q)) ∧ (¬ ((S 5 x1.toNatClampNeg) ≤ x3) → (vp_in ((40 * x1) + x3) 120 ∧ px_V G px_Zr d m_Mo_put [.ref 0, .int (S 4 ((40 * x1) + x3).toNatClampNeg)] S (fun S3 => px_w G px_Zr (d + 1) m_Mo_sumFile 7 [.ref 0, .int x1, .int x2, .int (x3 + 1)] [] S3 Q)))))))) :
    px_w G px_Zr (d + 1) m_Mo_sumFile 7 [.ref 0, .int x1, .int x2, .int x3] [] S Q := by
  refine w_iload_n rfl rfl rfl ?_
  refine w_iload_n rfl rfl rfl ?_
  refine w_if_icmpge 47 rfl rfl rfl (fun hc => ?_) (fun hc => ?_)
  · have h := h.1 hc
    refine w_aload_n rfl rfl rfl ?_
    refine w_callV h cs_Mo_sumFile_48 rfl rfl (Nat.le_of_ble_eq_true rfl) rfl (fun S1 h => ?_)
    exact w_return rfl rfl rfl h
  · have h := h.2 hc
    refine w_aload_n rfl rfl rfl ?_
    refine w_iload_n rfl rfl rfl ?_
    refine w_aload_n rfl rfl rfl ?_
    refine w_getR rfl rfl fl_Mo_86 rfl rfl ?_
    refine w_iload_n rfl rfl rfl ?_
    refine w_iaload rfl rfl rfl h.1 ?_
    have h := h.2
    refine w_if_icmpge 37 rfl rfl rfl (fun hc => ?_) (fun hc => ?_)
    · have h := h.1 hc
      refine w_iconst (v := 0) rfl rfl (by decide) ?_
      refine w_callV h cs_Mo_sumFile_38 rfl rfl (Nat.le_of_ble_eq_true rfl) rfl (fun S2 h => ?_)
      refine w_iinc (v := 1) _ rfl rfl (by decide) rfl rfl (by decide) rfl ?_
      refine w_goto 7 rfl rfl rfl ?_
      exact h
    · have h := h.2 hc
      refine w_aload_n rfl rfl rfl ?_
      refine w_getR rfl rfl fl_Mo_83 rfl rfl ?_
      refine w_bipush (v := 40) rfl rfl (by decide) ?_
      refine w_iload_n rfl rfl rfl ?_
      refine w_imul rfl rfl ?_
      refine w_iload_n rfl rfl rfl ?_
      refine w_iadd rfl rfl ?_
      refine w_iaload rfl rfl rfl h.1 ?_
      have h := h.2
      refine w_goto 38 rfl rfl rfl ?_
      refine w_callV h cs_Mo_sumFile_38 rfl rfl (Nat.le_of_ble_eq_true rfl) rfl (fun S3 h => ?_)
      refine w_iinc (v := 1) _ rfl rfl (by decide) rfl rfl (by decide) rfl ?_
      refine w_goto 7 rfl rfl rfl ?_
      exact h

theorem f_Mo_sumFile {G : px_G} {d : Nat} {x1 x2 : Int32} {S : px_S} {Q : Option Value → px_S → Prop}
    (h : px_w G px_Zr (d + 1) m_Mo_sumFile 7 [.ref 0, .int x1, .int x2, .int 0] [] (px_u S 0 8 0) Q) :
    px_M G px_Zr (d + 1) m_Mo_sumFile [.ref 0, .int x1, .int x2] S Q :=
  px_in (Or.inr ⟨_, _, _, _, _, rfl, rfl, rfl, rfl⟩) (by decide) (Nat.le_of_ble_eq_true rfl) (px_en 1 rfl) (e_Mo_sumFile_0 h)

set_option maxRecDepth 100000 in
theorem e_Mo_writeChecks_0 {G : px_G} {d : Nat} {x1 x2 : Int32} {S : px_S} {Q : Option Value → px_S → Prop}
    (h : px_I G px_Zr d m_Mo_begin [.ref 0, .int 73] S (fun r2 S1 => px_V G px_Zr d m_Mo_write [.ref 0, .int x1] S1 (fun S3 => (vp_in x1 4 ∧ px_w G px_Zr (d + 1) m_Mo_writeChecks 20 [.ref 0, .int x1, .int x2, .int r2, .int (S3 11 x1.toNatClampNeg), .null, .null] [] S3 Q)))) :
    px_w G px_Zr (d + 1) m_Mo_writeChecks 0 [.ref 0, .int x1, .int x2, .null, .null, .null, .null] [] S Q := by
  refine w_aload_n rfl rfl rfl ?_
  refine w_bipush (v := 73) rfl rfl (by decide) ?_
  refine w_callI h cs_Mo_writeChecks_3 rfl rfl (Nat.le_of_ble_eq_true rfl) rfl (fun r2 S1 h => ?_)
  refine w_istore_n _ rfl rfl (by decide) rfl rfl ?_
  refine w_aload_n rfl rfl rfl ?_
  refine w_iload_n rfl rfl rfl ?_
  refine w_callV h cs_Mo_writeChecks_9 rfl rfl (Nat.le_of_ble_eq_true rfl) rfl (fun S3 h => ?_)
  refine w_aload_n rfl rfl rfl ?_
  refine w_getR rfl rfl fl_Mo_104 rfl rfl ?_
  refine w_iload_n rfl rfl rfl ?_
  refine w_iaload rfl rfl rfl h.1 ?_
  have h := h.2
  refine w_istore _ rfl rfl (by decide) rfl rfl ?_
  exact h

set_option maxRecDepth 100000 in
theorem e_Mo_writeChecks_20 {G : px_G} {d : Nat} {x1 x2 x3 x4 : Int32} {S : px_S} {Q : Option Value → px_S → Prop}
    (h : (vp_in (x1 + 1) 4 ∧ (((S 11 (x1 + 1).toNatClampNeg) ≤ x4 → px_V G px_Zr d m_Mo_end [.ref 0, .int x3, .int x2] S (fun S4 => Q none S4)) ∧ (¬ ((S 11 (x1 + 1).toNatClampNeg) ≤ x4) → px_I G px_Zr d m_Mo_sliceCheck [.ref 0, .int x4] S (fun r6 S5 => px_w G px_Zr (d + 1) m_Mo_writeChecks 44 [.ref 0, .int x1, .int x2, .int x3, .int x4, .int r6, .int 0] [] S5 Q))))) :
    px_w G px_Zr (d + 1) m_Mo_writeChecks 20 [.ref 0, .int x1, .int x2, .int x3, .int x4, .null, .null] [] S Q := by
  refine w_iload rfl rfl rfl ?_
  refine w_aload_n rfl rfl rfl ?_
  refine w_getR rfl rfl fl_Mo_104 rfl rfl ?_
  refine w_iload_n rfl rfl rfl ?_
  refine w_iconst (v := 1) rfl rfl (by decide) ?_
  refine w_iadd rfl rfl ?_
  refine w_iaload rfl rfl rfl h.1 ?_
  have h := h.2
  refine w_if_icmpge 84 rfl rfl rfl (fun hc => ?_) (fun hc => ?_)
  · have h := h.1 hc
    refine w_aload_n rfl rfl rfl ?_
    refine w_iload_n rfl rfl rfl ?_
    refine w_iload_n rfl rfl rfl ?_
    refine w_callV h cs_Mo_writeChecks_87 rfl rfl (Nat.le_of_ble_eq_true rfl) rfl (fun S4 h => ?_)
    exact w_return rfl rfl rfl h
  · have h := h.2 hc
    refine w_aload_n rfl rfl rfl ?_
    refine w_iload rfl rfl rfl ?_
    refine w_callI h cs_Mo_writeChecks_36 rfl rfl (Nat.le_of_ble_eq_true rfl) rfl (fun r6 S5 h => ?_)
    refine w_istore _ rfl rfl (by decide) rfl rfl ?_
    refine w_iconst (v := 0) rfl rfl (by decide) ?_
    refine w_istore _ rfl rfl (by decide) rfl rfl ?_
    exact h

set_option maxRecDepth 100000 in
theorem e_Mo_writeChecks_44 {G : px_G} {d : Nat} {x1 x2 x3 x4 x5 x6 : Int32} {S : px_S} {Q : Option Value → px_S → Prop}
    (h : ((4 ≤ x6 → px_V G px_Zr d m_Mo_sumSlice [.ref 0, .int x4] S (fun S7 => px_V G px_Zr d m_Mo_writeSum [.ref 0] S7 (fun S8 => px_w G px_Zr (d + 1) m_Mo_writeChecks 20 [.ref 0, .int x1, .int x2, .int x3, .int (x4 + 1), .null, .null] [] S8 Q))) ∧ (¬ (4 ≤ x6) → px_V G px_Zr d m_Mo_write [.ref 0, .int (px_ushr x5 (8 * x6))] S (fun S9 => px_w G px_Zr (d + 1) m_Mo_writeChecks 44 [.ref 0, .int x1, .int x2, .int x3, .int x4, .int x5, .int (x6 + 1)] [] S9 Q)))) :
    px_w G px_Zr (d + 1) m_Mo_writeChecks 44 [.ref 0, .int x1, .int x2, .int x3, .int x4, .int x5, .int x6] [] S Q := by
  refine w_iload rfl rfl rfl ?_
  refine w_iconst (v := 4) rfl rfl (by decide) ?_
  refine w_if_icmpge 68 rfl rfl rfl (fun hc => ?_) (fun hc => ?_)
  · have h := h.1 hc
    refine w_aload_n rfl rfl rfl ?_
    refine w_iload rfl rfl rfl ?_
    refine w_callV h cs_Mo_writeChecks_71 rfl rfl (Nat.le_of_ble_eq_true rfl) rfl (fun S7 h => ?_)
    refine w_aload_n rfl rfl rfl ?_
    refine w_callV h cs_Mo_writeChecks_75 rfl rfl (Nat.le_of_ble_eq_true rfl) rfl (fun S8 h => ?_)
    refine w_iinc (v := 1) _ rfl rfl (by decide) rfl rfl (by decide) rfl ?_
    refine w_goto 20 rfl rfl rfl ?_
    refine w_null 5 _ rfl ?_
    refine w_null 6 _ rfl ?_
    exact h
  · have h := h.2 hc
    refine w_aload_n rfl rfl rfl ?_
    refine w_iload rfl rfl rfl ?_
    refine w_bipush (v := 8) rfl rfl (by decide) ?_
    refine w_iload rfl rfl rfl ?_
    refine w_imul rfl rfl ?_
    refine w_iushr rfl rfl ?_
    refine w_callV h cs_Mo_writeChecks_59 rfl rfl (Nat.le_of_ble_eq_true rfl) rfl (fun S9 h => ?_)
    refine w_iinc (v := 1) _ rfl rfl (by decide) rfl rfl (by decide) rfl ?_
    refine w_goto 44 rfl rfl rfl ?_
    exact h

theorem f_Mo_writeChecks {G : px_G} {d : Nat} {x1 x2 : Int32} {S : px_S} {Q : Option Value → px_S → Prop}
    (h : px_I G px_Zr d m_Mo_begin [.ref 0, .int 73] S (fun r2 S1 => px_V G px_Zr d m_Mo_write [.ref 0, .int x1] S1 (fun S3 => (vp_in x1 4 ∧ px_w G px_Zr (d + 1) m_Mo_writeChecks 20 [.ref 0, .int x1, .int x2, .int r2, .int (S3 11 x1.toNatClampNeg), .null, .null] [] S3 Q)))) :
    px_M G px_Zr (d + 1) m_Mo_writeChecks [.ref 0, .int x1, .int x2] S Q :=
  px_in (Or.inr ⟨_, _, _, _, _, rfl, rfl, rfl, rfl⟩) (by decide) (Nat.le_of_ble_eq_true rfl) (px_en 4 rfl) (e_Mo_writeChecks_0 h)

set_option maxRecDepth 100000 in
theorem e_Mo_writeRecovery_0 {G : px_G} {d : Nat} {x1 x2 x3 : Int32} {S : px_S} {Q : Option Value → px_S → Prop}
    (h : px_I G px_Zr d m_Mo_begin [.ref 0, .int 82] S (fun r2 S1 => px_V G px_Zr d m_Mo_write [.ref 0, .int x1] S1 (fun S3 => px_w G px_Zr (d + 1) m_Mo_writeRecovery 16 [.ref 0, .int x1, .int x2, .int x3, .int r2, .int 0, .null, .null] [] S3 Q))) :
    px_w G px_Zr (d + 1) m_Mo_writeRecovery 0 [.ref 0, .int x1, .int x2, .int x3, .null, .null, .null, .null] [] S Q := by
  refine w_aload_n rfl rfl rfl ?_
  refine w_bipush (v := 82) rfl rfl (by decide) ?_
  refine w_callI h cs_Mo_writeRecovery_3 rfl rfl (Nat.le_of_ble_eq_true rfl) rfl (fun r2 S1 h => ?_)
  refine w_istore _ rfl rfl (by decide) rfl rfl ?_
  refine w_aload_n rfl rfl rfl ?_
  refine w_iload_n rfl rfl rfl ?_
  refine w_callV h cs_Mo_writeRecovery_10 rfl rfl (Nat.le_of_ble_eq_true rfl) rfl (fun S3 h => ?_)
  refine w_iconst (v := 0) rfl rfl (by decide) ?_
  refine w_istore _ rfl rfl (by decide) rfl rfl ?_
  exact h

set_option maxRecDepth 100000 in
theorem e_Mo_writeRecovery_16 {G : px_G} {d : Nat} {x1 x2 x3 x4 x5 : Int32} {S : px_S} {Q : Option Value → px_S → Prop}
    (h : ((4 ≤ x5 → px_V G px_Zr d m_Mo_end [.ref 0, .int x4, .int x3] S (fun S4 => Q none S4)) ∧ (¬ (4 ≤ x5) → px_w G px_Zr (d + 1) m_Mo_writeRecovery 28 [.ref 0, .int x1, .int x2, .int x3, .int x4, .int x5, .int 0, .int 0] [] S Q))) :
    px_w G px_Zr (d + 1) m_Mo_writeRecovery 16 [.ref 0, .int x1, .int x2, .int x3, .int x4, .int x5, .null, .null] [] S Q := by
  refine w_iload rfl rfl rfl ?_
  refine w_iconst (v := 4) rfl rfl (by decide) ?_
  refine w_if_icmpge 87 rfl rfl rfl (fun hc => ?_) (fun hc => ?_)
  · have h := h.1 hc
    refine w_aload_n rfl rfl rfl ?_
    refine w_iload rfl rfl rfl ?_
    refine w_iload_n rfl rfl rfl ?_
    refine w_callV h cs_Mo_writeRecovery_91 rfl rfl (Nat.le_of_ble_eq_true rfl) rfl (fun S4 h => ?_)
    exact w_return rfl rfl rfl h
  · have h := h.2 hc
    refine w_iconst (v := 0) rfl rfl (by decide) ?_
    refine w_istore _ rfl rfl (by decide) rfl rfl ?_
    refine w_iconst (v := 0) rfl rfl (by decide) ?_
    refine w_istore _ rfl rfl (by decide) rfl rfl ?_
    exact h

set_option maxRecDepth 100000 in
theorem e_Mo_writeRecovery_28 {G : px_G} {d : Nat} {x1 x2 x3 x4 x5 x6 x7 : Int32} {S : px_S} {Q : Option Value → px_S → Prop}
    (h : ((x2 ≤ x7 → px_V G px_Zr d m_Mo_write [.ref 0, .int x6] S (fun S5 => px_V G px_Zr d m_Mo_write [.ref 0, .int (px_sar x6 8)] S5 (fun S6 => px_w G px_Zr (d + 1) m_Mo_writeRecovery 16 [.ref 0, .int x1, .int x2, .int x3, .int x4, .int (x5 + 1), .null, .null] [] S6 Q))) ∧ (¬ (x2 ≤ x7) → px_I G px_Zr d m_Mo_word [.ref 0, .int x7, .int x5] S (fun r8 S7 => px_I G px_Zr d m_Mo_base [.ref 0, .int x7] S7 (fun r10 S9 => px_I G px_Zr d m_Mo_power [.int r10, .int x1] S9 (fun r12 S11 => px_I G px_Zr d m_Mo_times [.int r8, .int r12] S11 (fun r14 S13 => px_w G px_Zr (d + 1) m_Mo_writeRecovery 28 [.ref 0, .int x1, .int x2, .int x3, .int x4, .int x5, .int (x6 ^^^ r14), .int (x7 + 1)] [] S13 Q))))))) :
    px_w G px_Zr (d + 1) m_Mo_writeRecovery 28 [.ref 0, .int x1, .int x2, .int x3, .int x4, .int x5, .int x6, .int x7] [] S Q := by
  refine w_iload rfl rfl rfl ?_
  refine w_iload_n rfl rfl rfl ?_
  refine w_if_icmpge 66 rfl rfl rfl (fun hc => ?_) (fun hc => ?_)
  · have h := h.1 hc
    refine w_aload_n rfl rfl rfl ?_
    refine w_iload rfl rfl rfl ?_
    refine w_callV h cs_Mo_writeRecovery_69 rfl rfl (Nat.le_of_ble_eq_true rfl) rfl (fun S5 h => ?_)
    refine w_aload_n rfl rfl rfl ?_
    refine w_iload rfl rfl rfl ?_
    refine w_bipush (v := 8) rfl rfl (by decide) ?_
    refine w_ishr rfl rfl ?_
    refine w_callV h cs_Mo_writeRecovery_78 rfl rfl (Nat.le_of_ble_eq_true rfl) rfl (fun S6 h => ?_)
    refine w_iinc (v := 1) _ rfl rfl (by decide) rfl rfl (by decide) rfl ?_
    refine w_goto 16 rfl rfl rfl ?_
    refine w_null 6 _ rfl ?_
    refine w_null 7 _ rfl ?_
    exact h
  · have h := h.2 hc
    refine w_iload rfl rfl rfl ?_
    refine w_aload_n rfl rfl rfl ?_
    refine w_iload rfl rfl rfl ?_
    refine w_iload rfl rfl rfl ?_
    refine w_callI h cs_Mo_writeRecovery_41 rfl rfl (Nat.le_of_ble_eq_true rfl) rfl (fun r8 S7 h => ?_)
    refine w_aload_n rfl rfl rfl ?_
    refine w_iload rfl rfl rfl ?_
    refine w_callI h cs_Mo_writeRecovery_47 rfl rfl (Nat.le_of_ble_eq_true rfl) rfl (fun r10 S9 h => ?_)
    refine w_iload_n rfl rfl rfl ?_
    refine w_callI h cs_Mo_writeRecovery_51 rfl rfl (Nat.le_of_ble_eq_true rfl) rfl (fun r12 S11 h => ?_)
    refine w_callI h cs_Mo_writeRecovery_54 rfl rfl (Nat.le_of_ble_eq_true rfl) rfl (fun r14 S13 h => ?_)
    refine w_ixor rfl rfl ?_
    refine w_istore _ rfl rfl (by decide) rfl rfl ?_
    refine w_iinc (v := 1) _ rfl rfl (by decide) rfl rfl (by decide) rfl ?_
    refine w_goto 28 rfl rfl rfl ?_
    exact h

theorem f_Mo_writeRecovery {G : px_G} {d : Nat} {x1 x2 x3 : Int32} {S : px_S} {Q : Option Value → px_S → Prop}
    (h : px_I G px_Zr d m_Mo_begin [.ref 0, .int 82] S (fun r2 S1 => px_V G px_Zr d m_Mo_write [.ref 0, .int x1] S1 (fun S3 => px_w G px_Zr (d + 1) m_Mo_writeRecovery 16 [.ref 0, .int x1, .int x2, .int x3, .int r2, .int 0, .null, .null] [] S3 Q))) :
    px_M G px_Zr (d + 1) m_Mo_writeRecovery [.ref 0, .int x1, .int x2, .int x3] S Q :=
  px_in (Or.inr ⟨_, _, _, _, _, rfl, rfl, rfl, rfl⟩) (by decide) (Nat.le_of_ble_eq_true rfl) (px_en 4 rfl) (e_Mo_writeRecovery_0 h)

set_option maxRecDepth 100000 in
theorem e_Mo_protect_0 {G : px_G} {d : Nat} {x1 : Int32} {S : px_S} {Q : Option Value → px_S → Prop}
    (h : ((x1 < 0 → Q (some (.int (-1))) S) ∧ (¬ (x1 < 0) → ((x1 ≤ 6 → px_w G px_Zr (d + 1) m_Mo_protect 16 [.ref 0, .int x1, .int 0, .int 0, .null, .null] [] S Q) ∧ (¬ (x1 ≤ 6) → Q (some (.int (-1))) S))))) :
    px_w G px_Zr (d + 1) m_Mo_protect 0 [.ref 0, .int x1, .null, .null, .null, .null] [] S Q := by
  refine w_iload_n rfl rfl rfl ?_
  refine w_iflt 10 rfl rfl rfl (fun hc => ?_) (fun hc => ?_)
  · have h := h.1 hc
    refine w_iconst (v := -1) rfl rfl (by decide) ?_
    exact w_ireturn rfl rfl rfl h
  · have h := h.2 hc
    refine w_iload_n rfl rfl rfl ?_
    refine w_bipush (v := 6) rfl rfl (by decide) ?_
    refine w_if_icmple 12 rfl rfl rfl (fun hc => ?_) (fun hc => ?_)
    · have h := h.1 hc
      refine w_iconst (v := 0) rfl rfl (by decide) ?_
      refine w_istore_n _ rfl rfl (by decide) rfl rfl ?_
      refine w_iconst (v := 0) rfl rfl (by decide) ?_
      refine w_istore_n _ rfl rfl (by decide) rfl rfl ?_
      exact h
    · have h := h.2 hc
      refine w_iconst (v := -1) rfl rfl (by decide) ?_
      exact w_ireturn rfl rfl rfl h

set_option maxRecDepth 100000 in
theorem e_Mo_protect_16 {G : px_G} {d : Nat} {x1 x2 x3 : Int32} {S : px_S} {Q : Option Value → px_S → Prop}
    (h : ((3 ≤ x3 → ((x2 ≤ 12 → px_w G px_Zr (d + 1) m_Mo_protect 53 [.ref 0, .int x1, .int x2, .int 0, .null, .null] [] S Q) ∧ (¬ (x2 ≤ 12) → Q (some (.int (-2))) S))) ∧ (¬ (3 ≤ x3) → (vp_in x3 3 ∧ (∀ y1 : Int32, y1 = (x2 + (((S 5 x3.toNatClampNeg) + 7) / 8)) → px_w G px_Zr (d + 1) m_Mo_protect 16 [.ref 0, .int x1, .int y1, .int (x3 + 1), .null, .null] [] S Q))))) :
    px_w G px_Zr (d + 1) m_Mo_protect 16 [.ref 0, .int x1, .int x2, .int x3, .null, .null] [] S Q := by
  refine w_iload_n rfl rfl rfl ?_
  refine w_iconst (v := 3) rfl rfl (by decide) ?_
  refine w_if_icmpge 42 rfl rfl rfl (fun hc => ?_) (fun hc => ?_)
  · have h := h.1 hc
    refine w_iload_n rfl rfl rfl ?_
    refine w_bipush (v := 12) rfl rfl (by decide) ?_
    refine w_if_icmple 51 rfl rfl rfl (fun hc => ?_) (fun hc => ?_)
    · have h := h.1 hc
      refine w_iconst (v := 0) rfl rfl (by decide) ?_
      refine w_istore_n _ rfl rfl (by decide) rfl rfl ?_
      exact h
    · have h := h.2 hc
      refine w_bipush (v := -2) rfl rfl (by decide) ?_
      exact w_ireturn rfl rfl rfl h
  · have h := h.2 hc
    refine w_iload_n rfl rfl rfl ?_
    refine w_aload_n rfl rfl rfl ?_
    refine w_getR rfl rfl fl_Mo_86 rfl rfl ?_
    refine w_iload_n rfl rfl rfl ?_
    refine w_iaload rfl rfl rfl h.1 ?_
    have h := h.2
    refine w_bipush (v := 7) rfl rfl (by decide) ?_
    refine w_iadd rfl rfl ?_
    refine w_bipush (v := 8) rfl rfl (by decide) ?_
    refine w_idiv rfl rfl (by decide) ?_
    refine w_iadd rfl rfl ?_
    have h := h _ rfl
    refine w_istore_n _ rfl rfl (by decide) rfl rfl ?_
    refine w_iinc (v := 1) _ rfl rfl (by decide) rfl rfl (by decide) rfl ?_
    refine w_goto 16 rfl rfl rfl ?_
    exact h

set_option maxRecDepth 100000 in
theorem e_Mo_protect_53 {G : px_G} {d : Nat} {x1 x2 x3 : Int32} {S : px_S} {Q : Option Value → px_S → Prop}
    (h : ((3 ≤ x3 → px_I G px_Zr d m_Mo_layOut [.ref 0, .int 3] S (fun r3 S2 => px_I G px_Zr d m_Mo_begin [.ref 0, .int 77] (px_u S2 0 6 0) (fun r5 S4 => px_V G px_Zr d m_Mo_write [.ref 0, .int 8] S4 (fun S6 => px_V G px_Zr d m_Mo_write [.ref 0, .int 3] S6 (fun S7 => px_w G px_Zr (d + 1) m_Mo_protect 108 [.ref 0, .int x1, .int x2, .int r5, .int 0, .null] [] S7 Q))))) ∧ (¬ (3 ≤ x3) → (vp_in x3 3 ∧ (vp_in x3 3 ∧ px_w G px_Zr (d + 1) m_Mo_protect 53 [.ref 0, .int x1, .int x2, .int (x3 + 1), .null, .null] [] (px_u S 10 x3.toNatClampNeg (S 5 x3.toNatClampNeg)) Q))))) :
    px_w G px_Zr (d + 1) m_Mo_protect 53 [.ref 0, .int x1, .int x2, .int x3, .null, .null] [] S Q := by
  refine w_iload_n rfl rfl rfl ?_
  refine w_iconst (v := 3) rfl rfl (by decide) ?_
  refine w_if_icmpge 76 rfl rfl rfl (fun hc => ?_) (fun hc => ?_)
  · have h := h.1 hc
    refine w_aload_n rfl rfl rfl ?_
    refine w_iconst (v := 3) rfl rfl (by decide) ?_
    refine w_callI h cs_Mo_protect_78 rfl rfl (Nat.le_of_ble_eq_true rfl) rfl (fun r3 S2 h => ?_)
    refine w_pop rfl rfl rfl ?_
    refine w_aload_n rfl rfl rfl ?_
    refine w_iconst (v := 0) rfl rfl (by decide) ?_
    refine w_put rfl rfl fl_Mo_168 fw_Mo_6 rfl rfl ?_
    refine w_aload_n rfl rfl rfl ?_
    refine w_bipush (v := 77) rfl rfl (by decide) ?_
    refine w_callI h cs_Mo_protect_90 rfl rfl (Nat.le_of_ble_eq_true rfl) rfl (fun r5 S4 h => ?_)
    refine w_istore_n _ rfl rfl (by decide) rfl rfl ?_
    refine w_aload_n rfl rfl rfl ?_
    refine w_bipush (v := 8) rfl rfl (by decide) ?_
    refine w_callV h cs_Mo_protect_97 rfl rfl (Nat.le_of_ble_eq_true rfl) rfl (fun S6 h => ?_)
    refine w_aload_n rfl rfl rfl ?_
    refine w_iconst (v := 3) rfl rfl (by decide) ?_
    refine w_callV h cs_Mo_protect_102 rfl rfl (Nat.le_of_ble_eq_true rfl) rfl (fun S7 h => ?_)
    refine w_iconst (v := 0) rfl rfl (by decide) ?_
    refine w_istore _ rfl rfl (by decide) rfl rfl ?_
    exact h
  · have h := h.2 hc
    refine w_aload_n rfl rfl rfl ?_
    refine w_getR rfl rfl fl_Mo_101 rfl rfl ?_
    refine w_iload_n rfl rfl rfl ?_
    refine w_aload_n rfl rfl rfl ?_
    refine w_getR rfl rfl fl_Mo_86 rfl rfl ?_
    refine w_iload_n rfl rfl rfl ?_
    refine w_iaload rfl rfl rfl h.1 ?_
    have h := h.2
    refine w_iastore rfl rfl rfl h.1 ?_
    have h := h.2
    refine w_iinc (v := 1) _ rfl rfl (by decide) rfl rfl (by decide) rfl ?_
    refine w_goto 53 rfl rfl rfl ?_
    exact h

set_option maxRecDepth 100000 in
theorem e_Mo_protect_108 {G : px_G} {d : Nat} {x1 x2 x3 x4 : Int32} {S : px_S} {Q : Option Value → px_S → Prop}
    (h : ((3 ≤ x4 → px_V G px_Zr d m_Mo_end [.ref 0, .int x3, .int 0] S (fun S8 => px_V G px_Zr d m_Mo_sumBody [.ref 0, .int x3] S8 (fun S9 => px_I G px_Zr d m_Mo_firstFour [.ref 0] S9 (fun r11 S10 => px_V G px_Zr d m_Mo_end [.ref 0, .int x3, .int r11] S10 (fun S12 => px_w G px_Zr (d + 1) m_Mo_protect 158 [.ref 0, .int x1, .int x2, .int x3, .int r11, .int 0] [] S12 Q))))) ∧ (¬ (3 ≤ x4) → (vp_in x4 3 ∧ px_V G px_Zr d m_Mo_write [.ref 0, .int (S 5 x4.toNatClampNeg)] S (fun S13 => px_w G px_Zr (d + 1) m_Mo_protect 108 [.ref 0, .int x1, .int x2, .int x3, .int (x4 + 1), .null] [] S13 Q))))) :
    px_w G px_Zr (d + 1) m_Mo_protect 108 [.ref 0, .int x1, .int x2, .int x3, .int x4, .null] [] S Q := by
  refine w_iload rfl rfl rfl ?_
  refine w_iconst (v := 3) rfl rfl (by decide) ?_
  refine w_if_icmpge 131 rfl rfl rfl (fun hc => ?_) (fun hc => ?_)
  · have h := h.1 hc
    refine w_aload_n rfl rfl rfl ?_
    refine w_iload_n rfl rfl rfl ?_
    refine w_iconst (v := 0) rfl rfl (by decide) ?_
    refine w_callV h cs_Mo_protect_134 rfl rfl (Nat.le_of_ble_eq_true rfl) rfl (fun S8 h => ?_)
    refine w_aload_n rfl rfl rfl ?_
    refine w_iload_n rfl rfl rfl ?_
    refine w_callV h cs_Mo_protect_139 rfl rfl (Nat.le_of_ble_eq_true rfl) rfl (fun S9 h => ?_)
    refine w_aload_n rfl rfl rfl ?_
    refine w_callI h cs_Mo_protect_143 rfl rfl (Nat.le_of_ble_eq_true rfl) rfl (fun r11 S10 h => ?_)
    refine w_istore _ rfl rfl (by decide) rfl rfl ?_
    refine w_aload_n rfl rfl rfl ?_
    refine w_iload_n rfl rfl rfl ?_
    refine w_iload rfl rfl rfl ?_
    refine w_callV h cs_Mo_protect_152 rfl rfl (Nat.le_of_ble_eq_true rfl) rfl (fun S12 h => ?_)
    refine w_iconst (v := 0) rfl rfl (by decide) ?_
    refine w_istore _ rfl rfl (by decide) rfl rfl ?_
    exact h
  · have h := h.2 hc
    refine w_aload_n rfl rfl rfl ?_
    refine w_aload_n rfl rfl rfl ?_
    refine w_getR rfl rfl fl_Mo_86 rfl rfl ?_
    refine w_iload rfl rfl rfl ?_
    refine w_iaload rfl rfl rfl h.1 ?_
    have h := h.2
    refine w_callV h cs_Mo_protect_122 rfl rfl (Nat.le_of_ble_eq_true rfl) rfl (fun S13 h => ?_)
    refine w_iinc (v := 1) _ rfl rfl (by decide) rfl rfl (by decide) rfl ?_
    refine w_goto 108 rfl rfl rfl ?_
    exact h

set_option maxRecDepth 100000 in
theorem e_Mo_protect_158 {G : px_G} {d : Nat} {x1 x2 x3 x4 x5 : Int32} {S : px_S} {Q : Option Value → px_S → Prop}
    (h : ((3 ≤ x5 → px_w G px_Zr (d + 1) m_Mo_protect 229 [.ref 0, .int x1, .int x2, .int x3, .int x4, .int 0] [] S Q) ∧ (¬ (3 ≤ x5) → px_I G px_Zr d m_Mo_begin [.ref 0, .int 70] S (fun r15 S14 => px_V G px_Zr d m_Mo_write [.ref 0, .int x5] S14 (fun S16 => (vp_in x5 3 ∧ px_V G px_Zr d m_Mo_write [.ref 0, .int (S16 5 x5.toNatClampNeg)] S16 (fun S17 => (vp_in x5 3 ∧ px_V G px_Zr d m_Mo_sumFile [.ref 0, .int x5, .int (S17 5 x5.toNatClampNeg)] S17 (fun S18 => px_V G px_Zr d m_Mo_writeSum [.ref 0] S18 (fun S19 => px_V G px_Zr d m_Mo_end [.ref 0, .int r15, .int x4] S19 (fun S20 => px_V G px_Zr d m_Mo_writeChecks [.ref 0, .int x5, .int x4] S20 (fun S21 => px_w G px_Zr (d + 1) m_Mo_protect 158 [.ref 0, .int x1, .int x2, .int r15, .int x4, .int (x5 + 1)] [] S21 Q)))))))))))) :
    px_w G px_Zr (d + 1) m_Mo_protect 158 [.ref 0, .int x1, .int x2, .int x3, .int x4, .int x5] [] S Q := by
  refine w_iload rfl rfl rfl ?_
  refine w_iconst (v := 3) rfl rfl (by decide) ?_
  refine w_if_icmpge 226 rfl rfl rfl (fun hc => ?_) (fun hc => ?_)
  · have h := h.1 hc
    refine w_iconst (v := 0) rfl rfl (by decide) ?_
    refine w_istore _ rfl rfl (by decide) rfl rfl ?_
    exact h
  · have h := h.2 hc
    refine w_aload_n rfl rfl rfl ?_
    refine w_bipush (v := 70) rfl rfl (by decide) ?_
    refine w_callI h cs_Mo_protect_167 rfl rfl (Nat.le_of_ble_eq_true rfl) rfl (fun r15 S14 h => ?_)
    refine w_istore_n _ rfl rfl (by decide) rfl rfl ?_
    refine w_aload_n rfl rfl rfl ?_
    refine w_iload rfl rfl rfl ?_
    refine w_callV h cs_Mo_protect_174 rfl rfl (Nat.le_of_ble_eq_true rfl) rfl (fun S16 h => ?_)
    refine w_aload_n rfl rfl rfl ?_
    refine w_aload_n rfl rfl rfl ?_
    refine w_getR rfl rfl fl_Mo_86 rfl rfl ?_
    refine w_iload rfl rfl rfl ?_
    refine w_iaload rfl rfl rfl h.1 ?_
    have h := h.2
    refine w_callV h cs_Mo_protect_185 rfl rfl (Nat.le_of_ble_eq_true rfl) rfl (fun S17 h => ?_)
    refine w_aload_n rfl rfl rfl ?_
    refine w_iload rfl rfl rfl ?_
    refine w_aload_n rfl rfl rfl ?_
    refine w_getR rfl rfl fl_Mo_86 rfl rfl ?_
    refine w_iload rfl rfl rfl ?_
    refine w_iaload rfl rfl rfl h.1 ?_
    have h := h.2
    refine w_callV h cs_Mo_protect_198 rfl rfl (Nat.le_of_ble_eq_true rfl) rfl (fun S18 h => ?_)
    refine w_aload_n rfl rfl rfl ?_
    refine w_callV h cs_Mo_protect_202 rfl rfl (Nat.le_of_ble_eq_true rfl) rfl (fun S19 h => ?_)
    refine w_aload_n rfl rfl rfl ?_
    refine w_iload_n rfl rfl rfl ?_
    refine w_iload rfl rfl rfl ?_
    refine w_callV h cs_Mo_protect_209 rfl rfl (Nat.le_of_ble_eq_true rfl) rfl (fun S20 h => ?_)
    refine w_aload_n rfl rfl rfl ?_
    refine w_iload rfl rfl rfl ?_
    refine w_iload rfl rfl rfl ?_
    refine w_callV h cs_Mo_protect_217 rfl rfl (Nat.le_of_ble_eq_true rfl) rfl (fun S21 h => ?_)
    refine w_iinc (v := 1) _ rfl rfl (by decide) rfl rfl (by decide) rfl ?_
    refine w_goto 158 rfl rfl rfl ?_
    exact h

set_option maxRecDepth 100000 in
theorem e_Mo_protect_229 {G : px_G} {d : Nat} {x1 x2 x3 x4 x5 : Int32} {S : px_S} {Q : Option Value → px_S → Prop}
    (h : ((x1 ≤ x5 → Q (some (.int (S 0 6))) S) ∧ (¬ (x1 ≤ x5) → px_V G px_Zr d m_Mo_writeRecovery [.ref 0, .int x5, .int x2, .int x4] S (fun S22 => px_w G px_Zr (d + 1) m_Mo_protect 229 [.ref 0, .int x1, .int x2, .int x3, .int x4, .int (x5 + 1)] [] S22 Q)))) :
    px_w G px_Zr (d + 1) m_Mo_protect 229 [.ref 0, .int x1, .int x2, .int x3, .int x4, .int x5] [] S Q := by
  refine w_iload rfl rfl rfl ?_
  refine w_iload_n rfl rfl rfl ?_
  refine w_if_icmpge 250 rfl rfl rfl (fun hc => ?_) (fun hc => ?_)
  · have h := h.1 hc
    refine w_aload_n rfl rfl rfl ?_
    refine w_getI rfl rfl fl_Mo_168 rfl rfl ?_
    exact w_ireturn rfl rfl rfl h
  · have h := h.2 hc
    refine w_aload_n rfl rfl rfl ?_
    refine w_iload rfl rfl rfl ?_
    refine w_iload_n rfl rfl rfl ?_
    refine w_iload rfl rfl rfl ?_
    refine w_callV h cs_Mo_protect_241 rfl rfl (Nat.le_of_ble_eq_true rfl) rfl (fun S22 h => ?_)
    refine w_iinc (v := 1) _ rfl rfl (by decide) rfl rfl (by decide) rfl ?_
    refine w_goto 229 rfl rfl rfl ?_
    exact h

theorem f_Mo_protect {G : px_G} {d : Nat} {x1 : Int32} {S : px_S} {Q : Option Value → px_S → Prop}
    (h : ((x1 < 0 → Q (some (.int (-1))) S) ∧ (¬ (x1 < 0) → ((x1 ≤ 6 → px_w G px_Zr (d + 1) m_Mo_protect 16 [.ref 0, .int x1, .int 0, .int 0, .null, .null] [] S Q) ∧ (¬ (x1 ≤ 6) → Q (some (.int (-1))) S))))) :
    px_M G px_Zr (d + 1) m_Mo_protect [.ref 0, .int x1] S Q :=
  px_in (Or.inr ⟨_, _, _, _, _, rfl, rfl, rfl, rfl⟩) (by decide) (Nat.le_of_ble_eq_true rfl) (px_en 4 rfl) (e_Mo_protect_0 h)

set_option maxRecDepth 100000 in
theorem e_Mo_volume_0 {G : px_G} {d : Nat} {S : px_S} {Q : Option Value → px_S → Prop}
    (h : Q (some (.int (S 0 6))) S) :
    px_w G px_Zr d m_Mo_volume 0 [.ref 0] [] S Q := by
  refine w_aload_n rfl rfl rfl ?_
  refine w_getI rfl rfl fl_Mo_168 rfl rfl ?_
  exact w_ireturn rfl rfl rfl h

theorem f_Mo_volume {G : px_G} {d : Nat} {S : px_S} {Q : Option Value → px_S → Prop}
    (h : Q (some (.int (S 0 6))) S) :
    px_M G px_Zr d m_Mo_volume [.ref 0] S Q :=
  px_in (Or.inr ⟨_, _, _, _, _, rfl, rfl, rfl, rfl⟩) (by decide) (Nat.le_of_ble_eq_true rfl) (px_en 0 rfl) (e_Mo_volume_0 h)

set_option maxRecDepth 100000 in
theorem e_Mo_byteAt_0 {G : px_G} {d : Nat} {x1 : Int32} {S : px_S} {Q : Option Value → px_S → Prop}
    (h : ((x1 < 0 → Q (some (.int (-1))) S) ∧ (¬ (x1 < 0) → (((S 0 6) ≤ x1 → Q (some (.int (-1))) S) ∧ (¬ ((S 0 6) ≤ x1) → (vp_in x1 800 ∧ Q (some (.int (S 6 x1.toNatClampNeg))) S)))))) :
    px_w G px_Zr d m_Mo_byteAt 0 [.ref 0, .int x1] [] S Q := by
  refine w_iload_n rfl rfl rfl ?_
  refine w_iflt 21 rfl rfl rfl (fun hc => ?_) (fun hc => ?_)
  · have h := h.1 hc
    refine w_iconst (v := -1) rfl rfl (by decide) ?_
    exact w_ireturn rfl rfl rfl h
  · have h := h.2 hc
    refine w_iload_n rfl rfl rfl ?_
    refine w_aload_n rfl rfl rfl ?_
    refine w_getI rfl rfl fl_Mo_168 rfl rfl ?_
    refine w_if_icmpge 21 rfl rfl rfl (fun hc => ?_) (fun hc => ?_)
    · have h := h.1 hc
      refine w_iconst (v := -1) rfl rfl (by decide) ?_
      exact w_ireturn rfl rfl rfl h
    · have h := h.2 hc
      refine w_aload_n rfl rfl rfl ?_
      refine w_getR rfl rfl fl_Mo_89 rfl rfl ?_
      refine w_iload_n rfl rfl rfl ?_
      refine w_iaload rfl rfl rfl h.1 ?_
      have h := h.2
      refine w_goto 22 rfl rfl rfl ?_
      exact w_ireturn rfl rfl rfl h

theorem f_Mo_byteAt {G : px_G} {d : Nat} {x1 : Int32} {S : px_S} {Q : Option Value → px_S → Prop}
    (h : ((x1 < 0 → Q (some (.int (-1))) S) ∧ (¬ (x1 < 0) → (((S 0 6) ≤ x1 → Q (some (.int (-1))) S) ∧ (¬ ((S 0 6) ≤ x1) → (vp_in x1 800 ∧ Q (some (.int (S 6 x1.toNatClampNeg))) S)))))) :
    px_M G px_Zr d m_Mo_byteAt [.ref 0, .int x1] S Q :=
  px_in (Or.inr ⟨_, _, _, _, _, rfl, rfl, rfl, rfl⟩) (by decide) (Nat.le_of_ble_eq_true rfl) (px_en 0 rfl) (e_Mo_byteAt_0 h)

set_option maxRecDepth 100000 in
theorem e_Mo_alter_0 {G : px_G} {d : Nat} {x1 x2 : Int32} {S : px_S} {Q : Option Value → px_S → Prop}
    (h : ((x1 < 0 → Q (some (.int 0)) S) ∧ (¬ (x1 < 0) → (((S 0 6) ≤ x1 → Q (some (.int 0)) S) ∧ (¬ ((S 0 6) ≤ x1) → ((x2 < 0 → Q (some (.int 0)) S) ∧ (¬ (x2 < 0) → ((x2 ≤ 255 → (vp_in x1 800 ∧ Q (some (.int 1)) (px_u S 6 x1.toNatClampNeg x2))) ∧ (¬ (x2 ≤ 255) → Q (some (.int 0)) S))))))))) :
    px_w G px_Zr d m_Mo_alter 0 [.ref 0, .int x1, .int x2] [] S Q := by
  refine w_iload_n rfl rfl rfl ?_
  refine w_iflt 23 rfl rfl rfl (fun hc => ?_) (fun hc => ?_)
  · have h := h.1 hc
    refine w_iconst (v := 0) rfl rfl (by decide) ?_
    exact w_zreturn rfl rfl rfl (Or.inl rfl) h
  · have h := h.2 hc
    refine w_iload_n rfl rfl rfl ?_
    refine w_aload_n rfl rfl rfl ?_
    refine w_getI rfl rfl fl_Mo_168 rfl rfl ?_
    refine w_if_icmpge 23 rfl rfl rfl (fun hc => ?_) (fun hc => ?_)
    · have h := h.1 hc
      refine w_iconst (v := 0) rfl rfl (by decide) ?_
      exact w_zreturn rfl rfl rfl (Or.inl rfl) h
    · have h := h.2 hc
      refine w_iload_n rfl rfl rfl ?_
      refine w_iflt 23 rfl rfl rfl (fun hc => ?_) (fun hc => ?_)
      · have h := h.1 hc
        refine w_iconst (v := 0) rfl rfl (by decide) ?_
        exact w_zreturn rfl rfl rfl (Or.inl rfl) h
      · have h := h.2 hc
        refine w_iload_n rfl rfl rfl ?_
        refine w_sipush (v := 255) rfl rfl (by decide) ?_
        refine w_if_icmple 25 rfl rfl rfl (fun hc => ?_) (fun hc => ?_)
        · have h := h.1 hc
          refine w_aload_n rfl rfl rfl ?_
          refine w_getR rfl rfl fl_Mo_89 rfl rfl ?_
          refine w_iload_n rfl rfl rfl ?_
          refine w_iload_n rfl rfl rfl ?_
          refine w_iastore rfl rfl rfl h.1 ?_
          have h := h.2
          refine w_iconst (v := 1) rfl rfl (by decide) ?_
          exact w_zreturn rfl rfl rfl (Or.inr rfl) h
        · have h := h.2 hc
          refine w_iconst (v := 0) rfl rfl (by decide) ?_
          exact w_zreturn rfl rfl rfl (Or.inl rfl) h

theorem f_Mo_alter {G : px_G} {d : Nat} {x1 x2 : Int32} {S : px_S} {Q : Option Value → px_S → Prop}
    (h : ((x1 < 0 → Q (some (.int 0)) S) ∧ (¬ (x1 < 0) → (((S 0 6) ≤ x1 → Q (some (.int 0)) S) ∧ (¬ ((S 0 6) ≤ x1) → ((x2 < 0 → Q (some (.int 0)) S) ∧ (¬ (x2 < 0) → ((x2 ≤ 255 → (vp_in x1 800 ∧ Q (some (.int 1)) (px_u S 6 x1.toNatClampNeg x2))) ∧ (¬ (x2 ≤ 255) → Q (some (.int 0)) S))))))))) :
    px_M G px_Zr d m_Mo_alter [.ref 0, .int x1, .int x2] S Q :=
  px_in (Or.inr ⟨_, _, _, _, _, rfl, rfl, rfl, rfl⟩) (by decide) (Nat.le_of_ble_eq_true rfl) (px_en 0 rfl) (e_Mo_alter_0 h)

set_option maxRecDepth 100000 in
theorem e_Mo_cut_0 {G : px_G} {d : Nat} {x1 x2 : Int32} {S : px_S} {Q : Option Value → px_S → Prop}
    (h : ((x1 < 0 → Q (some (.int 0)) S) ∧ (¬ (x1 < 0) → ((x2 < 1 → Q (some (.int 0)) S) ∧ (¬ (x2 < 1) → (((S 0 6) < x1 → Q (some (.int 0)) S) ∧ (¬ ((S 0 6) < x1) → ((x2 ≤ ((S 0 6) - x1) → px_w G px_Zr d m_Mo_cut 31 [.ref 0, .int x1, .int x2, .int x1] [] S Q) ∧ (¬ (x2 ≤ ((S 0 6) - x1)) → Q (some (.int 0)) S))))))))) :
    px_w G px_Zr d m_Mo_cut 0 [.ref 0, .int x1, .int x2, .null] [] S Q := by
  refine w_iload_n rfl rfl rfl ?_
  refine w_iflt 27 rfl rfl rfl (fun hc => ?_) (fun hc => ?_)
  · have h := h.1 hc
    refine w_iconst (v := 0) rfl rfl (by decide) ?_
    exact w_zreturn rfl rfl rfl (Or.inl rfl) h
  · have h := h.2 hc
    refine w_iload_n rfl rfl rfl ?_
    refine w_iconst (v := 1) rfl rfl (by decide) ?_
    refine w_if_icmplt 27 rfl rfl rfl (fun hc => ?_) (fun hc => ?_)
    · have h := h.1 hc
      refine w_iconst (v := 0) rfl rfl (by decide) ?_
      exact w_zreturn rfl rfl rfl (Or.inl rfl) h
    · have h := h.2 hc
      refine w_iload_n rfl rfl rfl ?_
      refine w_aload_n rfl rfl rfl ?_
      refine w_getI rfl rfl fl_Mo_168 rfl rfl ?_
      refine w_if_icmpgt 27 rfl rfl rfl (fun hc => ?_) (fun hc => ?_)
      · have h := h.1 hc
        refine w_iconst (v := 0) rfl rfl (by decide) ?_
        exact w_zreturn rfl rfl rfl (Or.inl rfl) h
      · have h := h.2 hc
        refine w_iload_n rfl rfl rfl ?_
        refine w_aload_n rfl rfl rfl ?_
        refine w_getI rfl rfl fl_Mo_168 rfl rfl ?_
        refine w_iload_n rfl rfl rfl ?_
        refine w_isub rfl rfl ?_
        refine w_if_icmple 29 rfl rfl rfl (fun hc => ?_) (fun hc => ?_)
        · have h := h.1 hc
          refine w_iload_n rfl rfl rfl ?_
          refine w_istore_n _ rfl rfl (by decide) rfl rfl ?_
          exact h
        · have h := h.2 hc
          refine w_iconst (v := 0) rfl rfl (by decide) ?_
          exact w_zreturn rfl rfl rfl (Or.inl rfl) h

set_option maxRecDepth 100000 in
theorem e_Mo_cut_31 {G : px_G} {d : Nat} {x1 x2 x3 : Int32} {S : px_S} {Q : Option Value → px_S → Prop}
    (h : (((S 0 6) ≤ (x3 + x2) → Q (some (.int 1)) (px_u S 0 6 ((S 0 6) - x2))) ∧ (¬ ((S 0 6) ≤ (x3 + x2)) → (vp_in (x3 + x2) 800 ∧ (vp_in x3 800 ∧ px_w G px_Zr d m_Mo_cut 31 [.ref 0, .int x1, .int x2, .int (x3 + 1)] [] (px_u S 6 x3.toNatClampNeg (S 6 (x3 + x2).toNatClampNeg)) Q))))) :
    px_w G px_Zr d m_Mo_cut 31 [.ref 0, .int x1, .int x2, .int x3] [] S Q := by
  refine w_iload_n rfl rfl rfl ?_
  refine w_iload_n rfl rfl rfl ?_
  refine w_iadd rfl rfl ?_
  refine w_aload_n rfl rfl rfl ?_
  refine w_getI rfl rfl fl_Mo_168 rfl rfl ?_
  refine w_if_icmpge 61 rfl rfl rfl (fun hc => ?_) (fun hc => ?_)
  · have h := h.1 hc
    refine w_aload_n rfl rfl rfl ?_
    refine w_dup rfl rfl rfl ?_
    refine w_getI rfl rfl fl_Mo_168 rfl rfl ?_
    refine w_iload_n rfl rfl rfl ?_
    refine w_isub rfl rfl ?_
    refine w_put rfl rfl fl_Mo_168 fw_Mo_6 rfl rfl ?_
    refine w_iconst (v := 1) rfl rfl (by decide) ?_
    exact w_zreturn rfl rfl rfl (Or.inr rfl) h
  · have h := h.2 hc
    refine w_aload_n rfl rfl rfl ?_
    refine w_getR rfl rfl fl_Mo_89 rfl rfl ?_
    refine w_iload_n rfl rfl rfl ?_
    refine w_aload_n rfl rfl rfl ?_
    refine w_getR rfl rfl fl_Mo_89 rfl rfl ?_
    refine w_iload_n rfl rfl rfl ?_
    refine w_iload_n rfl rfl rfl ?_
    refine w_iadd rfl rfl ?_
    refine w_iaload rfl rfl rfl h.1 ?_
    have h := h.2
    refine w_iastore rfl rfl rfl h.1 ?_
    have h := h.2
    refine w_iinc (v := 1) _ rfl rfl (by decide) rfl rfl (by decide) rfl ?_
    refine w_goto 31 rfl rfl rfl ?_
    exact h

theorem f_Mo_cut {G : px_G} {d : Nat} {x1 x2 : Int32} {S : px_S} {Q : Option Value → px_S → Prop}
    (h : ((x1 < 0 → Q (some (.int 0)) S) ∧ (¬ (x1 < 0) → ((x2 < 1 → Q (some (.int 0)) S) ∧ (¬ (x2 < 1) → (((S 0 6) < x1 → Q (some (.int 0)) S) ∧ (¬ ((S 0 6) < x1) → ((x2 ≤ ((S 0 6) - x1) → px_w G px_Zr d m_Mo_cut 31 [.ref 0, .int x1, .int x2, .int x1] [] S Q) ∧ (¬ (x2 ≤ ((S 0 6) - x1)) → Q (some (.int 0)) S))))))))) :
    px_M G px_Zr d m_Mo_cut [.ref 0, .int x1, .int x2] S Q :=
  px_in (Or.inr ⟨_, _, _, _, _, rfl, rfl, rfl, rfl⟩) (by decide) (Nat.le_of_ble_eq_true rfl) (px_en 1 rfl) (e_Mo_cut_0 h)

set_option maxRecDepth 100000 in
theorem e_Mo_isPacket_0 {G : px_G} {d : Nat} {x1 : Int32} {S : px_S} {Q : Option Value → px_S → Prop}
    (h : (((S 0 6) < (x1 + 26) → Q (some (.int 0)) S) ∧ (¬ ((S 0 6) < (x1 + 26)) → (vp_in x1 800 ∧ ((¬ (S 6 x1.toNatClampNeg) = 80 → Q (some (.int 0)) S) ∧ ((S 6 x1.toNatClampNeg) = 80 → (vp_in (x1 + 1) 800 ∧ ((¬ (S 6 (x1 + 1).toNatClampNeg) = 75 → Q (some (.int 0)) S) ∧ ((S 6 (x1 + 1).toNatClampNeg) = 75 → (vp_in (x1 + 2) 800 ∧ ((¬ (S 6 (x1 + 2).toNatClampNeg) = 84 → Q (some (.int 0)) S) ∧ ((S 6 (x1 + 2).toNatClampNeg) = 84 → px_I G px_Zr d m_Mo_bodyLength [.ref 0, .int x1] S (fun r2 S1 => ((((x1 + 26) + r2) ≤ (S1 0 6) → px_V G px_Zr d m_Mo_sumPacket [.ref 0, .int x1] S1 (fun S3 => px_w G px_Zr (d + 1) m_Mo_isPacket 76 [.ref 0, .int x1, .int 1, .int 0] [] S3 Q)) ∧ (¬ (((x1 + 26) + r2) ≤ (S1 0 6)) → Q (some (.int 0)) S1))))))))))))))) :
    px_w G px_Zr (d + 1) m_Mo_isPacket 0 [.ref 0, .int x1, .null, .null] [] S Q := by
  refine w_iload_n rfl rfl rfl ?_
  refine w_bipush (v := 26) rfl rfl (by decide) ?_
  refine w_iadd rfl rfl ?_
  refine w_aload_n rfl rfl rfl ?_
  refine w_getI rfl rfl fl_Mo_168 rfl rfl ?_
  refine w_if_icmpgt 65 rfl rfl rfl (fun hc => ?_) (fun hc => ?_)
  · have h := h.1 hc
    refine w_iconst (v := 0) rfl rfl (by decide) ?_
    exact w_zreturn rfl rfl rfl (Or.inl rfl) h
  · have h := h.2 hc
    refine w_aload_n rfl rfl rfl ?_
    refine w_getR rfl rfl fl_Mo_89 rfl rfl ?_
    refine w_iload_n rfl rfl rfl ?_
    refine w_iaload rfl rfl rfl h.1 ?_
    have h := h.2
    refine w_bipush (v := 80) rfl rfl (by decide) ?_
    refine w_if_icmpne 65 rfl rfl rfl (fun hc => ?_) (fun hc => ?_)
    · have h := h.1 hc
      refine w_iconst (v := 0) rfl rfl (by decide) ?_
      exact w_zreturn rfl rfl rfl (Or.inl rfl) h
    · have h := h.2 hc
      refine w_aload_n rfl rfl rfl ?_
      refine w_getR rfl rfl fl_Mo_89 rfl rfl ?_
      refine w_iload_n rfl rfl rfl ?_
      refine w_iconst (v := 1) rfl rfl (by decide) ?_
      refine w_iadd rfl rfl ?_
      refine w_iaload rfl rfl rfl h.1 ?_
      have h := h.2
      refine w_bipush (v := 75) rfl rfl (by decide) ?_
      refine w_if_icmpne 65 rfl rfl rfl (fun hc => ?_) (fun hc => ?_)
      · have h := h.1 hc
        refine w_iconst (v := 0) rfl rfl (by decide) ?_
        exact w_zreturn rfl rfl rfl (Or.inl rfl) h
      · have h := h.2 hc
        refine w_aload_n rfl rfl rfl ?_
        refine w_getR rfl rfl fl_Mo_89 rfl rfl ?_
        refine w_iload_n rfl rfl rfl ?_
        refine w_iconst (v := 2) rfl rfl (by decide) ?_
        refine w_iadd rfl rfl ?_
        refine w_iaload rfl rfl rfl h.1 ?_
        have h := h.2
        refine w_bipush (v := 84) rfl rfl (by decide) ?_
        refine w_if_icmpne 65 rfl rfl rfl (fun hc => ?_) (fun hc => ?_)
        · have h := h.1 hc
          refine w_iconst (v := 0) rfl rfl (by decide) ?_
          exact w_zreturn rfl rfl rfl (Or.inl rfl) h
        · have h := h.2 hc
          refine w_iload_n rfl rfl rfl ?_
          refine w_bipush (v := 26) rfl rfl (by decide) ?_
          refine w_iadd rfl rfl ?_
          refine w_aload_n rfl rfl rfl ?_
          refine w_iload_n rfl rfl rfl ?_
          refine w_callI h cs_Mo_isPacket_54 rfl rfl (Nat.le_of_ble_eq_true rfl) rfl (fun r2 S1 h => ?_)
          refine w_iadd rfl rfl ?_
          refine w_aload_n rfl rfl rfl ?_
          refine w_getI rfl rfl fl_Mo_168 rfl rfl ?_
          refine w_if_icmple 67 rfl rfl rfl (fun hc => ?_) (fun hc => ?_)
          · have h := h.1 hc
            refine w_aload_n rfl rfl rfl ?_
            refine w_iload_n rfl rfl rfl ?_
            refine w_callV h cs_Mo_isPacket_69 rfl rfl (Nat.le_of_ble_eq_true rfl) rfl (fun S3 h => ?_)
            refine w_iconst (v := 1) rfl rfl (by decide) ?_
            refine w_istore_n _ rfl rfl (by decide) rfl rfl ?_
            refine w_iconst (v := 0) rfl rfl (by decide) ?_
            refine w_istore_n _ rfl rfl (by decide) rfl rfl ?_
            exact h
          · have h := h.2 hc
            refine w_iconst (v := 0) rfl rfl (by decide) ?_
            exact w_zreturn rfl rfl rfl (Or.inl rfl) h

set_option maxRecDepth 100000 in
theorem e_Mo_isPacket_76 {G : px_G} {d : Nat} {x1 x2 x3 : Int32} {S : px_S} {Q : Option Value → px_S → Prop}
    (h : ((16 ≤ x3 → ((x2 = 0 ∨ x2 = 1) ∧ Q (some (.int x2)) S)) ∧ (¬ (16 ≤ x3) → ((x2 = 0 → px_w G px_Zr (d + 1) m_Mo_isPacket 76 [.ref 0, .int x1, .int 0, .int (x3 + 1)] [] S Q) ∧ (¬ x2 = 0 → (vp_in x3 16 ∧ (vp_in ((x1 + 6) + x3) 800 ∧ ((¬ (S 9 x3.toNatClampNeg) = (S 6 ((x1 + 6) + x3).toNatClampNeg) → px_w G px_Zr (d + 1) m_Mo_isPacket 76 [.ref 0, .int x1, .int 0, .int (x3 + 1)] [] S Q) ∧ ((S 9 x3.toNatClampNeg) = (S 6 ((x1 + 6) + x3).toNatClampNeg) → px_w G px_Zr (d + 1) m_Mo_isPacket 76 [.ref 0, .int x1, .int 1, .int (x3 + 1)] [] S Q))))))))) :
    px_w G px_Zr (d + 1) m_Mo_isPacket 76 [.ref 0, .int x1, .int x2, .int x3] [] S Q := by
  refine w_iload_n rfl rfl rfl ?_
  refine w_bipush (v := 16) rfl rfl (by decide) ?_
  refine w_if_icmpge 118 rfl rfl rfl (fun hc => ?_) (fun hc => ?_)
  · have h := h.1 hc
    refine w_iload_n rfl rfl rfl ?_
    exact w_zreturn rfl rfl rfl h.1 h.2
  · have h := h.2 hc
    refine w_iload_n rfl rfl rfl ?_
    refine w_ifeq 110 rfl rfl rfl (fun hc => ?_) (fun hc => ?_)
    · have h := h.1 hc
      refine w_iconst (v := 0) rfl rfl (by decide) ?_
      refine w_istore_n _ rfl rfl (by decide) rfl rfl ?_
      refine w_iinc (v := 1) _ rfl rfl (by decide) rfl rfl (by decide) rfl ?_
      refine w_goto 76 rfl rfl rfl ?_
      exact h
    · have h := h.2 hc
      refine w_aload_n rfl rfl rfl ?_
      refine w_getR rfl rfl fl_Mo_98 rfl rfl ?_
      refine w_iload_n rfl rfl rfl ?_
      refine w_iaload rfl rfl rfl h.1 ?_
      have h := h.2
      refine w_aload_n rfl rfl rfl ?_
      refine w_getR rfl rfl fl_Mo_89 rfl rfl ?_
      refine w_iload_n rfl rfl rfl ?_
      refine w_bipush (v := 6) rfl rfl (by decide) ?_
      refine w_iadd rfl rfl ?_
      refine w_iload_n rfl rfl rfl ?_
      refine w_iadd rfl rfl ?_
      refine w_iaload rfl rfl rfl h.1 ?_
      have h := h.2
      refine w_if_icmpne 110 rfl rfl rfl (fun hc => ?_) (fun hc => ?_)
      · have h := h.1 hc
        refine w_iconst (v := 0) rfl rfl (by decide) ?_
        refine w_istore_n _ rfl rfl (by decide) rfl rfl ?_
        refine w_iinc (v := 1) _ rfl rfl (by decide) rfl rfl (by decide) rfl ?_
        refine w_goto 76 rfl rfl rfl ?_
        exact h
      · have h := h.2 hc
        refine w_iconst (v := 1) rfl rfl (by decide) ?_
        refine w_goto 111 rfl rfl rfl ?_
        refine w_istore_n _ rfl rfl (by decide) rfl rfl ?_
        refine w_iinc (v := 1) _ rfl rfl (by decide) rfl rfl (by decide) rfl ?_
        refine w_goto 76 rfl rfl rfl ?_
        exact h

theorem f_Mo_isPacket {G : px_G} {d : Nat} {x1 : Int32} {S : px_S} {Q : Option Value → px_S → Prop}
    (h : (((S 0 6) < (x1 + 26) → Q (some (.int 0)) S) ∧ (¬ ((S 0 6) < (x1 + 26)) → (vp_in x1 800 ∧ ((¬ (S 6 x1.toNatClampNeg) = 80 → Q (some (.int 0)) S) ∧ ((S 6 x1.toNatClampNeg) = 80 → (vp_in (x1 + 1) 800 ∧ ((¬ (S 6 (x1 + 1).toNatClampNeg) = 75 → Q (some (.int 0)) S) ∧ ((S 6 (x1 + 1).toNatClampNeg) = 75 → (vp_in (x1 + 2) 800 ∧ ((¬ (S 6 (x1 + 2).toNatClampNeg) = 84 → Q (some (.int 0)) S) ∧ ((S 6 (x1 + 2).toNatClampNeg) = 84 → px_I G px_Zr d m_Mo_bodyLength [.ref 0, .int x1] S (fun r2 S1 => ((((x1 + 26) + r2) ≤ (S1 0 6) → px_V G px_Zr d m_Mo_sumPacket [.ref 0, .int x1] S1 (fun S3 => px_w G px_Zr (d + 1) m_Mo_isPacket 76 [.ref 0, .int x1, .int 1, .int 0] [] S3 Q)) ∧ (¬ (((x1 + 26) + r2) ≤ (S1 0 6)) → Q (some (.int 0)) S1))))))))))))))) :
    px_M G px_Zr (d + 1) m_Mo_isPacket [.ref 0, .int x1] S Q :=
  px_in (Or.inr ⟨_, _, _, _, _, rfl, rfl, rfl, rfl⟩) (by decide) (Nat.le_of_ble_eq_true rfl) (px_en 2 rfl) (e_Mo_isPacket_0 h)

set_option maxRecDepth 100000 in
theorem e_Mo_setOf_0 {G : px_G} {d : Nat} {x1 : Int32} {S : px_S} {Q : Option Value → px_S → Prop}
    (h : (vp_in (x1 + 22) 800 ∧ (vp_in (x1 + 23) 800 ∧ (vp_in (x1 + 24) 800 ∧ (vp_in (x1 + 25) 800 ∧ Q (some (.int ((((S 6 (x1 + 22).toNatClampNeg) ||| (px_shl (S 6 (x1 + 23).toNatClampNeg) 8)) ||| (px_shl (S 6 (x1 + 24).toNatClampNeg) 16)) ||| (px_shl (S 6 (x1 + 25).toNatClampNeg) 24)))) S))))) :
    px_w G px_Zr d m_Mo_setOf 0 [.ref 0, .int x1] [] S Q := by
  refine w_aload_n rfl rfl rfl ?_
  refine w_getR rfl rfl fl_Mo_89 rfl rfl ?_
  refine w_iload_n rfl rfl rfl ?_
  refine w_bipush (v := 22) rfl rfl (by decide) ?_
  refine w_iadd rfl rfl ?_
  refine w_iaload rfl rfl rfl h.1 ?_
  have h := h.2
  refine w_aload_n rfl rfl rfl ?_
  refine w_getR rfl rfl fl_Mo_89 rfl rfl ?_
  refine w_iload_n rfl rfl rfl ?_
  refine w_bipush (v := 23) rfl rfl (by decide) ?_
  refine w_iadd rfl rfl ?_
  refine w_iaload rfl rfl rfl h.1 ?_
  have h := h.2
  refine w_bipush (v := 8) rfl rfl (by decide) ?_
  refine w_ishl rfl rfl ?_
  refine w_ior rfl rfl ?_
  refine w_aload_n rfl rfl rfl ?_
  refine w_getR rfl rfl fl_Mo_89 rfl rfl ?_
  refine w_iload_n rfl rfl rfl ?_
  refine w_bipush (v := 24) rfl rfl (by decide) ?_
  refine w_iadd rfl rfl ?_
  refine w_iaload rfl rfl rfl h.1 ?_
  have h := h.2
  refine w_bipush (v := 16) rfl rfl (by decide) ?_
  refine w_ishl rfl rfl ?_
  refine w_ior rfl rfl ?_
  refine w_aload_n rfl rfl rfl ?_
  refine w_getR rfl rfl fl_Mo_89 rfl rfl ?_
  refine w_iload_n rfl rfl rfl ?_
  refine w_bipush (v := 25) rfl rfl (by decide) ?_
  refine w_iadd rfl rfl ?_
  refine w_iaload rfl rfl rfl h.1 ?_
  have h := h.2
  refine w_bipush (v := 24) rfl rfl (by decide) ?_
  refine w_ishl rfl rfl ?_
  refine w_ior rfl rfl ?_
  exact w_ireturn rfl rfl rfl h

theorem f_Mo_setOf {G : px_G} {d : Nat} {x1 : Int32} {S : px_S} {Q : Option Value → px_S → Prop}
    (h : (vp_in (x1 + 22) 800 ∧ (vp_in (x1 + 23) 800 ∧ (vp_in (x1 + 24) 800 ∧ (vp_in (x1 + 25) 800 ∧ Q (some (.int ((((S 6 (x1 + 22).toNatClampNeg) ||| (px_shl (S 6 (x1 + 23).toNatClampNeg) 8)) ||| (px_shl (S 6 (x1 + 24).toNatClampNeg) 16)) ||| (px_shl (S 6 (x1 + 25).toNatClampNeg) 24)))) S))))) :
    px_M G px_Zr d m_Mo_setOf [.ref 0, .int x1] S Q :=
  px_in (Or.inr ⟨_, _, _, _, _, rfl, rfl, rfl, rfl⟩) (by decide) (Nat.le_of_ble_eq_true rfl) (px_en 0 rfl) (e_Mo_setOf_0 h)

set_option maxRecDepth 100000 in
theorem e_Mo_isMain_0 {G : px_G} {d : Nat} {x1 : Int32} {S : px_S} {Q : Option Value → px_S → Prop}
    (h : px_I G px_Zr d m_Mo_bodyLength [.ref 0, .int x1] S (fun r2 S1 => (vp_in (x1 + 3) 800 ∧ ((¬ (S1 6 (x1 + 3).toNatClampNeg) = 77 → Q (some (.int 0)) S1) ∧ ((S1 6 (x1 + 3).toNatClampNeg) = 77 → ((r2 < 3 → Q (some (.int 0)) S1) ∧ (¬ (r2 < 3) → ((5 < r2 → Q (some (.int 0)) S1) ∧ (¬ (5 < r2) → (vp_in (x1 + 26) 800 ∧ ((¬ (S1 6 (x1 + 26).toNatClampNeg) = 8 → Q (some (.int 0)) S1) ∧ ((S1 6 (x1 + 26).toNatClampNeg) = 8 → (vp_in (x1 + 27) 800 ∧ (((S1 6 (x1 + 27).toNatClampNeg) = (r2 - 2) → px_w G px_Zr (d + 1) m_Mo_isMain 68 [.ref 0, .int x1, .int r2, .int 0, .int 1, .int 0, .null] [] S1 Q) ∧ (¬ (S1 6 (x1 + 27).toNatClampNeg) = (r2 - 2) → Q (some (.int 0)) S1))))))))))))))) :
    px_w G px_Zr (d + 1) m_Mo_isMain 0 [.ref 0, .int x1, .null, .null, .null, .null, .null] [] S Q := by
  refine w_aload_n rfl rfl rfl ?_
  refine w_iload_n rfl rfl rfl ?_
  refine w_callI h cs_Mo_isMain_2 rfl rfl (Nat.le_of_ble_eq_true rfl) rfl (fun r2 S1 h => ?_)
  refine w_istore_n _ rfl rfl (by decide) rfl rfl ?_
  refine w_aload_n rfl rfl rfl ?_
  refine w_getR rfl rfl fl_Mo_89 rfl rfl ?_
  refine w_iload_n rfl rfl rfl ?_
  refine w_iconst (v := 3) rfl rfl (by decide) ?_
  refine w_iadd rfl rfl ?_
  refine w_iaload rfl rfl rfl h.1 ?_
  have h := h.2
  refine w_bipush (v := 77) rfl rfl (by decide) ?_
  refine w_if_icmpne 58 rfl rfl rfl (fun hc => ?_) (fun hc => ?_)
  · have h := h.1 hc
    refine w_iconst (v := 0) rfl rfl (by decide) ?_
    exact w_zreturn rfl rfl rfl (Or.inl rfl) h
  · have h := h.2 hc
    refine w_iload_n rfl rfl rfl ?_
    refine w_iconst (v := 3) rfl rfl (by decide) ?_
    refine w_if_icmplt 58 rfl rfl rfl (fun hc => ?_) (fun hc => ?_)
    · have h := h.1 hc
      refine w_iconst (v := 0) rfl rfl (by decide) ?_
      exact w_zreturn rfl rfl rfl (Or.inl rfl) h
    · have h := h.2 hc
      refine w_iload_n rfl rfl rfl ?_
      refine w_iconst (v := 5) rfl rfl (by decide) ?_
      refine w_if_icmpgt 58 rfl rfl rfl (fun hc => ?_) (fun hc => ?_)
      · have h := h.1 hc
        refine w_iconst (v := 0) rfl rfl (by decide) ?_
        exact w_zreturn rfl rfl rfl (Or.inl rfl) h
      · have h := h.2 hc
        refine w_aload_n rfl rfl rfl ?_
        refine w_getR rfl rfl fl_Mo_89 rfl rfl ?_
        refine w_iload_n rfl rfl rfl ?_
        refine w_bipush (v := 26) rfl rfl (by decide) ?_
        refine w_iadd rfl rfl ?_
        refine w_iaload rfl rfl rfl h.1 ?_
        have h := h.2
        refine w_bipush (v := 8) rfl rfl (by decide) ?_
        refine w_if_icmpne 58 rfl rfl rfl (fun hc => ?_) (fun hc => ?_)
        · have h := h.1 hc
          refine w_iconst (v := 0) rfl rfl (by decide) ?_
          exact w_zreturn rfl rfl rfl (Or.inl rfl) h
        · have h := h.2 hc
          refine w_aload_n rfl rfl rfl ?_
          refine w_getR rfl rfl fl_Mo_89 rfl rfl ?_
          refine w_iload_n rfl rfl rfl ?_
          refine w_bipush (v := 27) rfl rfl (by decide) ?_
          refine w_iadd rfl rfl ?_
          refine w_iaload rfl rfl rfl h.1 ?_
          have h := h.2
          refine w_iload_n rfl rfl rfl ?_
          refine w_iconst (v := 2) rfl rfl (by decide) ?_
          refine w_isub rfl rfl ?_
          refine w_if_icmpeq 60 rfl rfl rfl (fun hc => ?_) (fun hc => ?_)
          · have h := h.1 hc
            refine w_iconst (v := 0) rfl rfl (by decide) ?_
            refine w_istore_n _ rfl rfl (by decide) rfl rfl ?_
            refine w_iconst (v := 1) rfl rfl (by decide) ?_
            refine w_istore _ rfl rfl (by decide) rfl rfl ?_
            refine w_iconst (v := 0) rfl rfl (by decide) ?_
            refine w_istore _ rfl rfl (by decide) rfl rfl ?_
            exact h
          · have h := h.2 hc
            refine w_iconst (v := 0) rfl rfl (by decide) ?_
            exact w_zreturn rfl rfl rfl (Or.inl rfl) h

set_option maxRecDepth 100000 in
theorem e_Mo_isMain_68 {G : px_G} {d : Nat} {x1 x2 x3 x4 x5 : Int32} {S : px_S} {Q : Option Value → px_S → Prop}
    (h : (((x2 - 2) ≤ x5 → px_V G px_Zr d m_Mo_sumBody [.ref 0, .int x1] S (fun S3 => ((x4 = 0 → Q (some (.int 0)) S3) ∧ (¬ x4 = 0 → ((12 < x3 → Q (some (.int 0)) S3) ∧ (¬ (12 < x3) → px_I G px_Zr d m_Mo_setOf [.ref 0, .int x1] S3 (fun r5 S4 => px_I G px_Zr d m_Mo_firstFour [.ref 0] S4 (fun r7 S6 => ((¬ r5 = r7 → Q (some (.int 0)) S6) ∧ (r5 = r7 → Q (some (.int 1)) S6)))))))))) ∧ (¬ ((x2 - 2) ≤ x5) → (vp_in ((x1 + 28) + x5) 800 ∧ ((x4 = 0 → (∀ y8 : Int32, y8 = (x3 + (((S 6 ((x1 + 28) + x5).toNatClampNeg) + 7) / 8)) → px_w G px_Zr (d + 1) m_Mo_isMain 68 [.ref 0, .int x1, .int x2, .int y8, .int 0, .int (x5 + 1), .null] [] S Q)) ∧ (¬ x4 = 0 → ((40 < (S 6 ((x1 + 28) + x5).toNatClampNeg) → (∀ y9 : Int32, y9 = (x3 + (((S 6 ((x1 + 28) + x5).toNatClampNeg) + 7) / 8)) → px_w G px_Zr (d + 1) m_Mo_isMain 68 [.ref 0, .int x1, .int x2, .int y9, .int 0, .int (x5 + 1), .null] [] S Q)) ∧ (¬ (40 < (S 6 ((x1 + 28) + x5).toNatClampNeg)) → (∀ y10 : Int32, y10 = (x3 + (((S 6 ((x1 + 28) + x5).toNatClampNeg) + 7) / 8)) → px_w G px_Zr (d + 1) m_Mo_isMain 68 [.ref 0, .int x1, .int x2, .int y10, .int 1, .int (x5 + 1), .null] [] S Q))))))))) :
    px_w G px_Zr (d + 1) m_Mo_isMain 68 [.ref 0, .int x1, .int x2, .int x3, .int x4, .int x5, .null] [] S Q := by
  refine w_iload rfl rfl rfl ?_
  refine w_iload_n rfl rfl rfl ?_
  refine w_iconst (v := 2) rfl rfl (by decide) ?_
  refine w_isub rfl rfl ?_
  refine w_if_icmpge 126 rfl rfl rfl (fun hc => ?_) (fun hc => ?_)
  · have h := h.1 hc
    refine w_aload_n rfl rfl rfl ?_
    refine w_iload_n rfl rfl rfl ?_
    refine w_callV h cs_Mo_isMain_128 rfl rfl (Nat.le_of_ble_eq_true rfl) rfl (fun S3 h => ?_)
    refine w_iload rfl rfl rfl ?_
    refine w_ifeq 158 rfl rfl rfl (fun hc => ?_) (fun hc => ?_)
    · have h := h.1 hc
      refine w_iconst (v := 0) rfl rfl (by decide) ?_
      exact w_zreturn rfl rfl rfl (Or.inl rfl) h
    · have h := h.2 hc
      refine w_iload_n rfl rfl rfl ?_
      refine w_bipush (v := 12) rfl rfl (by decide) ?_
      refine w_if_icmpgt 158 rfl rfl rfl (fun hc => ?_) (fun hc => ?_)
      · have h := h.1 hc
        refine w_iconst (v := 0) rfl rfl (by decide) ?_
        exact w_zreturn rfl rfl rfl (Or.inl rfl) h
      · have h := h.2 hc
        refine w_aload_n rfl rfl rfl ?_
        refine w_iload_n rfl rfl rfl ?_
        refine w_callI h cs_Mo_isMain_144 rfl rfl (Nat.le_of_ble_eq_true rfl) rfl (fun r5 S4 h => ?_)
        refine w_aload_n rfl rfl rfl ?_
        refine w_callI h cs_Mo_isMain_148 rfl rfl (Nat.le_of_ble_eq_true rfl) rfl (fun r7 S6 h => ?_)
        refine w_if_icmpne 158 rfl rfl rfl (fun hc => ?_) (fun hc => ?_)
        · have h := h.1 hc
          refine w_iconst (v := 0) rfl rfl (by decide) ?_
          exact w_zreturn rfl rfl rfl (Or.inl rfl) h
        · have h := h.2 hc
          refine w_iconst (v := 1) rfl rfl (by decide) ?_
          refine w_goto 159 rfl rfl rfl ?_
          exact w_zreturn rfl rfl rfl (Or.inr rfl) h
  · have h := h.2 hc
    refine w_aload_n rfl rfl rfl ?_
    refine w_getR rfl rfl fl_Mo_89 rfl rfl ?_
    refine w_iload_n rfl rfl rfl ?_
    refine w_bipush (v := 28) rfl rfl (by decide) ?_
    refine w_iadd rfl rfl ?_
    refine w_iload rfl rfl rfl ?_
    refine w_iadd rfl rfl ?_
    refine w_iaload rfl rfl rfl h.1 ?_
    have h := h.2
    refine w_istore _ rfl rfl (by decide) rfl rfl ?_
    refine w_iload rfl rfl rfl ?_
    refine w_ifeq 106 rfl rfl rfl (fun hc => ?_) (fun hc => ?_)
    · have h := h.1 hc
      refine w_iconst (v := 0) rfl rfl (by decide) ?_
      refine w_istore _ rfl rfl (by decide) rfl rfl ?_
      refine w_iload_n rfl rfl rfl ?_
      refine w_iload rfl rfl rfl ?_
      refine w_bipush (v := 7) rfl rfl (by decide) ?_
      refine w_iadd rfl rfl ?_
      refine w_bipush (v := 8) rfl rfl (by decide) ?_
      refine w_idiv rfl rfl (by decide) ?_
      refine w_iadd rfl rfl ?_
      have h := h _ rfl
      refine w_istore_n _ rfl rfl (by decide) rfl rfl ?_
      refine w_iinc (v := 1) _ rfl rfl (by decide) rfl rfl (by decide) rfl ?_
      refine w_goto 68 rfl rfl rfl ?_
      refine w_null 6 _ rfl ?_
      exact h
    · have h := h.2 hc
      refine w_iload rfl rfl rfl ?_
      refine w_bipush (v := 40) rfl rfl (by decide) ?_
      refine w_if_icmpgt 106 rfl rfl rfl (fun hc => ?_) (fun hc => ?_)
      · have h := h.1 hc
        refine w_iconst (v := 0) rfl rfl (by decide) ?_
        refine w_istore _ rfl rfl (by decide) rfl rfl ?_
        refine w_iload_n rfl rfl rfl ?_
        refine w_iload rfl rfl rfl ?_
        refine w_bipush (v := 7) rfl rfl (by decide) ?_
        refine w_iadd rfl rfl ?_
        refine w_bipush (v := 8) rfl rfl (by decide) ?_
        refine w_idiv rfl rfl (by decide) ?_
        refine w_iadd rfl rfl ?_
        have h := h _ rfl
        refine w_istore_n _ rfl rfl (by decide) rfl rfl ?_
        refine w_iinc (v := 1) _ rfl rfl (by decide) rfl rfl (by decide) rfl ?_
        refine w_goto 68 rfl rfl rfl ?_
        refine w_null 6 _ rfl ?_
        exact h
      · have h := h.2 hc
        refine w_iconst (v := 1) rfl rfl (by decide) ?_
        refine w_goto 107 rfl rfl rfl ?_
        refine w_istore _ rfl rfl (by decide) rfl rfl ?_
        refine w_iload_n rfl rfl rfl ?_
        refine w_iload rfl rfl rfl ?_
        refine w_bipush (v := 7) rfl rfl (by decide) ?_
        refine w_iadd rfl rfl ?_
        refine w_bipush (v := 8) rfl rfl (by decide) ?_
        refine w_idiv rfl rfl (by decide) ?_
        refine w_iadd rfl rfl ?_
        have h := h _ rfl
        refine w_istore_n _ rfl rfl (by decide) rfl rfl ?_
        refine w_iinc (v := 1) _ rfl rfl (by decide) rfl rfl (by decide) rfl ?_
        refine w_goto 68 rfl rfl rfl ?_
        refine w_null 6 _ rfl ?_
        exact h

theorem f_Mo_isMain {G : px_G} {d : Nat} {x1 : Int32} {S : px_S} {Q : Option Value → px_S → Prop}
    (h : px_I G px_Zr d m_Mo_bodyLength [.ref 0, .int x1] S (fun r2 S1 => (vp_in (x1 + 3) 800 ∧ ((¬ (S1 6 (x1 + 3).toNatClampNeg) = 77 → Q (some (.int 0)) S1) ∧ ((S1 6 (x1 + 3).toNatClampNeg) = 77 → ((r2 < 3 → Q (some (.int 0)) S1) ∧ (¬ (r2 < 3) → ((5 < r2 → Q (some (.int 0)) S1) ∧ (¬ (5 < r2) → (vp_in (x1 + 26) 800 ∧ ((¬ (S1 6 (x1 + 26).toNatClampNeg) = 8 → Q (some (.int 0)) S1) ∧ ((S1 6 (x1 + 26).toNatClampNeg) = 8 → (vp_in (x1 + 27) 800 ∧ (((S1 6 (x1 + 27).toNatClampNeg) = (r2 - 2) → px_w G px_Zr (d + 1) m_Mo_isMain 68 [.ref 0, .int x1, .int r2, .int 0, .int 1, .int 0, .null] [] S1 Q) ∧ (¬ (S1 6 (x1 + 27).toNatClampNeg) = (r2 - 2) → Q (some (.int 0)) S1))))))))))))))) :
    px_M G px_Zr (d + 1) m_Mo_isMain [.ref 0, .int x1] S Q :=
  px_in (Or.inr ⟨_, _, _, _, _, rfl, rfl, rfl, rfl⟩) (by decide) (Nat.le_of_ble_eq_true rfl) (px_en 5 rfl) (e_Mo_isMain_0 h)

set_option maxRecDepth 100000 in
theorem e_Mo_next_0 {G : px_G} {d : Nat} {x1 : Int32} {S : px_S} {Q : Option Value → px_S → Prop}
    (h : px_I G px_Zr d m_Mo_isPacket [.ref 0, .int x1] S (fun r2 S1 => ((r2 = 0 → Q (some (.int (x1 + 1))) S1) ∧ (¬ r2 = 0 → px_I G px_Zr d m_Mo_bodyLength [.ref 0, .int x1] S1 (fun r4 S3 => Q (some (.int ((x1 + 26) + r4))) S3))))) :
    px_w G px_Zr (d + 1) m_Mo_next 0 [.ref 0, .int x1] [] S Q := by
  refine w_aload_n rfl rfl rfl ?_
  refine w_iload_n rfl rfl rfl ?_
  refine w_callI h cs_Mo_next_2 rfl rfl (Nat.le_of_ble_eq_true rfl) rfl (fun r2 S1 h => ?_)
  refine w_ifeq 21 rfl rfl rfl (fun hc => ?_) (fun hc => ?_)
  · have h := h.1 hc
    refine w_iload_n rfl rfl rfl ?_
    refine w_iconst (v := 1) rfl rfl (by decide) ?_
    refine w_iadd rfl rfl ?_
    exact w_ireturn rfl rfl rfl h
  · have h := h.2 hc
    refine w_iload_n rfl rfl rfl ?_
    refine w_bipush (v := 26) rfl rfl (by decide) ?_
    refine w_iadd rfl rfl ?_
    refine w_aload_n rfl rfl rfl ?_
    refine w_iload_n rfl rfl rfl ?_
    refine w_callI h cs_Mo_next_14 rfl rfl (Nat.le_of_ble_eq_true rfl) rfl (fun r4 S3 h => ?_)
    refine w_iadd rfl rfl ?_
    refine w_goto 24 rfl rfl rfl ?_
    exact w_ireturn rfl rfl rfl h

theorem f_Mo_next {G : px_G} {d : Nat} {x1 : Int32} {S : px_S} {Q : Option Value → px_S → Prop}
    (h : px_I G px_Zr d m_Mo_isPacket [.ref 0, .int x1] S (fun r2 S1 => ((r2 = 0 → Q (some (.int (x1 + 1))) S1) ∧ (¬ r2 = 0 → px_I G px_Zr d m_Mo_bodyLength [.ref 0, .int x1] S1 (fun r4 S3 => Q (some (.int ((x1 + 26) + r4))) S3))))) :
    px_M G px_Zr (d + 1) m_Mo_next [.ref 0, .int x1] S Q :=
  px_in (Or.inr ⟨_, _, _, _, _, rfl, rfl, rfl, rfl⟩) (by decide) (Nat.le_of_ble_eq_true rfl) (px_en 0 rfl) (e_Mo_next_0 h)

set_option maxRecDepth 100000 in
theorem e_Mo_scanned_0 {G : px_G} {d : Nat} {S : px_S} {Q : Option Value → px_S → Prop}
    (h : px_w G px_Zr (d + 1) m_Mo_scanned 7 [.ref 0, .int 0] [] (px_u S 0 12 (-1)) Q) :
    px_w G px_Zr (d + 1) m_Mo_scanned 0 [.ref 0, .null] [] S Q := by
  refine w_aload_n rfl rfl rfl ?_
  refine w_iconst (v := -1) rfl rfl (by decide) ?_
  refine w_put rfl rfl fl_Mo_228 fw_Mo_12 rfl rfl ?_
  refine w_iconst (v := 0) rfl rfl (by decide) ?_
  refine w_istore_n _ rfl rfl (by decide) rfl rfl ?_
  exact h

set_option maxRecDepth 100000 in
theorem e_Mo_scanned_7 {G : px_G} {d : Nat} {x1 : Int32} {S : px_S} {Q : Option Value → px_S → Prop}
    (h : (((S 0 6) ≤ x1 → ((0 ≤ (S 0 12) → (vp_in ((S 0 12) + 27) 800 ∧ px_w G px_Zr (d + 1) m_Mo_scanned 79 [.ref 0, .int 0] [] (px_u S 0 13 (S 6 ((S 0 12) + 27).toNatClampNeg)) Q)) ∧ (¬ (0 ≤ (S 0 12)) → Q (some (.int 0)) S))) ∧ (¬ ((S 0 6) ≤ x1) → ((0 ≤ (S 0 12) → px_I G px_Zr d m_Mo_next [.ref 0, .int x1] S (fun r2 S1 => px_w G px_Zr (d + 1) m_Mo_scanned 7 [.ref 0, .int r2] [] S1 Q)) ∧ (¬ (0 ≤ (S 0 12)) → px_I G px_Zr d m_Mo_isPacket [.ref 0, .int x1] S (fun r4 S3 => ((r4 = 0 → px_I G px_Zr d m_Mo_next [.ref 0, .int x1] S3 (fun r6 S5 => px_w G px_Zr (d + 1) m_Mo_scanned 7 [.ref 0, .int r6] [] S5 Q)) ∧ (¬ r4 = 0 → px_I G px_Zr d m_Mo_isMain [.ref 0, .int x1] S3 (fun r8 S7 => ((r8 = 0 → px_I G px_Zr d m_Mo_next [.ref 0, .int x1] S7 (fun r10 S9 => px_w G px_Zr (d + 1) m_Mo_scanned 7 [.ref 0, .int r10] [] S9 Q)) ∧ (¬ r8 = 0 → px_I G px_Zr d m_Mo_next [.ref 0, .int x1] (px_u S7 0 12 x1) (fun r12 S11 => px_w G px_Zr (d + 1) m_Mo_scanned 7 [.ref 0, .int r12] [] S11 Q)))))))))))) :
    px_w G px_Zr (d + 1) m_Mo_scanned 7 [.ref 0, .int x1] [] S Q := by
  refine w_iload_n rfl rfl rfl ?_
  refine w_aload_n rfl rfl rfl ?_
  refine w_getI rfl rfl fl_Mo_168 rfl rfl ?_
  refine w_if_icmpge 52 rfl rfl rfl (fun hc => ?_) (fun hc => ?_)
  · have h := h.1 hc
    refine w_aload_n rfl rfl rfl ?_
    refine w_getI rfl rfl fl_Mo_228 rfl rfl ?_
    refine w_ifge 61 rfl rfl rfl (fun hc => ?_) (fun hc => ?_)
    · have h := h.1 hc
      refine w_aload_n rfl rfl rfl ?_
      refine w_aload_n rfl rfl rfl ?_
      refine w_getR rfl rfl fl_Mo_89 rfl rfl ?_
      refine w_aload_n rfl rfl rfl ?_
      refine w_getI rfl rfl fl_Mo_228 rfl rfl ?_
      refine w_bipush (v := 27) rfl rfl (by decide) ?_
      refine w_iadd rfl rfl ?_
      refine w_iaload rfl rfl rfl h.1 ?_
      have h := h.2
      refine w_put rfl rfl fl_Mo_237 fw_Mo_13 rfl rfl ?_
      refine w_iconst (v := 0) rfl rfl (by decide) ?_
      refine w_istore_n _ rfl rfl (by decide) rfl rfl ?_
      exact h
    · have h := h.2 hc
      refine w_iconst (v := 0) rfl rfl (by decide) ?_
      exact w_zreturn rfl rfl rfl (Or.inl rfl) h
  · have h := h.2 hc
    refine w_aload_n rfl rfl rfl ?_
    refine w_getI rfl rfl fl_Mo_228 rfl rfl ?_
    refine w_ifge 43 rfl rfl rfl (fun hc => ?_) (fun hc => ?_)
    · have h := h.1 hc
      refine w_aload_n rfl rfl rfl ?_
      refine w_iload_n rfl rfl rfl ?_
      refine w_callI h cs_Mo_scanned_45 rfl rfl (Nat.le_of_ble_eq_true rfl) rfl (fun r2 S1 h => ?_)
      refine w_istore_n _ rfl rfl (by decide) rfl rfl ?_
      refine w_goto 7 rfl rfl rfl ?_
      exact h
    · have h := h.2 hc
      refine w_aload_n rfl rfl rfl ?_
      refine w_iload_n rfl rfl rfl ?_
      refine w_callI h cs_Mo_scanned_24 rfl rfl (Nat.le_of_ble_eq_true rfl) rfl (fun r4 S3 h => ?_)
      refine w_ifeq 43 rfl rfl rfl (fun hc => ?_) (fun hc => ?_)
      · have h := h.1 hc
        refine w_aload_n rfl rfl rfl ?_
        refine w_iload_n rfl rfl rfl ?_
        refine w_callI h cs_Mo_scanned_45 rfl rfl (Nat.le_of_ble_eq_true rfl) rfl (fun r6 S5 h => ?_)
        refine w_istore_n _ rfl rfl (by decide) rfl rfl ?_
        refine w_goto 7 rfl rfl rfl ?_
        exact h
      · have h := h.2 hc
        refine w_aload_n rfl rfl rfl ?_
        refine w_iload_n rfl rfl rfl ?_
        refine w_callI h cs_Mo_scanned_32 rfl rfl (Nat.le_of_ble_eq_true rfl) rfl (fun r8 S7 h => ?_)
        refine w_ifeq 43 rfl rfl rfl (fun hc => ?_) (fun hc => ?_)
        · have h := h.1 hc
          refine w_aload_n rfl rfl rfl ?_
          refine w_iload_n rfl rfl rfl ?_
          refine w_callI h cs_Mo_scanned_45 rfl rfl (Nat.le_of_ble_eq_true rfl) rfl (fun r10 S9 h => ?_)
          refine w_istore_n _ rfl rfl (by decide) rfl rfl ?_
          refine w_goto 7 rfl rfl rfl ?_
          exact h
        · have h := h.2 hc
          refine w_aload_n rfl rfl rfl ?_
          refine w_iload_n rfl rfl rfl ?_
          refine w_put rfl rfl fl_Mo_228 fw_Mo_12 rfl rfl ?_
          refine w_aload_n rfl rfl rfl ?_
          refine w_iload_n rfl rfl rfl ?_
          refine w_callI h cs_Mo_scanned_45 rfl rfl (Nat.le_of_ble_eq_true rfl) rfl (fun r12 S11 h => ?_)
          refine w_istore_n _ rfl rfl (by decide) rfl rfl ?_
          refine w_goto 7 rfl rfl rfl ?_
          exact h

set_option maxRecDepth 100000 in
theorem e_Mo_scanned_79 {G : px_G} {d : Nat} {x1 : Int32} {S : px_S} {Q : Option Value → px_S → Prop}
    (h : (((S 0 13) ≤ x1 → px_I G px_Zr d m_Mo_layOut [.ref 0, .int (S 0 13)] S (fun r14 S13 => px_w G px_Zr (d + 1) m_Mo_scanned 124 [.ref 0, .int 0] [] S13 Q)) ∧ (¬ ((S 0 13) ≤ x1) → (vp_in (((S 0 12) + 28) + x1) 800 ∧ (vp_in x1 3 ∧ px_w G px_Zr (d + 1) m_Mo_scanned 79 [.ref 0, .int (x1 + 1)] [] (px_u S 10 x1.toNatClampNeg (S 6 (((S 0 12) + 28) + x1).toNatClampNeg)) Q))))) :
    px_w G px_Zr (d + 1) m_Mo_scanned 79 [.ref 0, .int x1] [] S Q := by
  refine w_iload_n rfl rfl rfl ?_
  refine w_aload_n rfl rfl rfl ?_
  refine w_getI rfl rfl fl_Mo_237 rfl rfl ?_
  refine w_if_icmpge 113 rfl rfl rfl (fun hc => ?_) (fun hc => ?_)
  · have h := h.1 hc
    refine w_aload_n rfl rfl rfl ?_
    refine w_aload_n rfl rfl rfl ?_
    refine w_getI rfl rfl fl_Mo_237 rfl rfl ?_
    refine w_callI h cs_Mo_scanned_118 rfl rfl (Nat.le_of_ble_eq_true rfl) rfl (fun r14 S13 h => ?_)
    refine w_pop rfl rfl rfl ?_
    refine w_iconst (v := 0) rfl rfl (by decide) ?_
    refine w_istore_n _ rfl rfl (by decide) rfl rfl ?_
    exact h
  · have h := h.2 hc
    refine w_aload_n rfl rfl rfl ?_
    refine w_getR rfl rfl fl_Mo_101 rfl rfl ?_
    refine w_iload_n rfl rfl rfl ?_
    refine w_aload_n rfl rfl rfl ?_
    refine w_getR rfl rfl fl_Mo_89 rfl rfl ?_
    refine w_aload_n rfl rfl rfl ?_
    refine w_getI rfl rfl fl_Mo_228 rfl rfl ?_
    refine w_bipush (v := 28) rfl rfl (by decide) ?_
    refine w_iadd rfl rfl ?_
    refine w_iload_n rfl rfl rfl ?_
    refine w_iadd rfl rfl ?_
    refine w_iaload rfl rfl rfl h.1 ?_
    have h := h.2
    refine w_iastore rfl rfl rfl h.1 ?_
    have h := h.2
    refine w_iinc (v := 1) _ rfl rfl (by decide) rfl rfl (by decide) rfl ?_
    refine w_goto 79 rfl rfl rfl ?_
    exact h

set_option maxRecDepth 100000 in
theorem e_Mo_scanned_124 {G : px_G} {d : Nat} {x1 : Int32} {S : px_S} {Q : Option Value → px_S → Prop}
    (h : ((3 ≤ x1 → px_w G px_Zr (d + 1) m_Mo_scanned 151 [.ref 0, .int 0] [] S Q) ∧ (¬ (3 ≤ x1) → (vp_in x1 3 ∧ (vp_in x1 3 ∧ px_w G px_Zr (d + 1) m_Mo_scanned 124 [.ref 0, .int (x1 + 1)] [] (px_u (px_u S 12 x1.toNatClampNeg (-1)) 13 x1.toNatClampNeg (-1)) Q))))) :
    px_w G px_Zr (d + 1) m_Mo_scanned 124 [.ref 0, .int x1] [] S Q := by
  refine w_iload_n rfl rfl rfl ?_
  refine w_iconst (v := 3) rfl rfl (by decide) ?_
  refine w_if_icmpge 149 rfl rfl rfl (fun hc => ?_) (fun hc => ?_)
  · have h := h.1 hc
    refine w_iconst (v := 0) rfl rfl (by decide) ?_
    refine w_istore_n _ rfl rfl (by decide) rfl rfl ?_
    exact h
  · have h := h.2 hc
    refine w_aload_n rfl rfl rfl ?_
    refine w_getR rfl rfl fl_Mo_107 rfl rfl ?_
    refine w_iload_n rfl rfl rfl ?_
    refine w_iconst (v := -1) rfl rfl (by decide) ?_
    refine w_iastore rfl rfl rfl h.1 ?_
    have h := h.2
    refine w_aload_n rfl rfl rfl ?_
    refine w_getR rfl rfl fl_Mo_110 rfl rfl ?_
    refine w_iload_n rfl rfl rfl ?_
    refine w_iconst (v := -1) rfl rfl (by decide) ?_
    refine w_iastore rfl rfl rfl h.1 ?_
    have h := h.2
    refine w_iinc (v := 1) _ rfl rfl (by decide) rfl rfl (by decide) rfl ?_
    refine w_goto 124 rfl rfl rfl ?_
    exact h

set_option maxRecDepth 100000 in
theorem e_Mo_scanned_151 {G : px_G} {d : Nat} {x1 : Int32} {S : px_S} {Q : Option Value → px_S → Prop}
    (h : ((256 ≤ x1 → px_w G px_Zr (d + 1) m_Mo_scanned 178 [.ref 0, .int 0] [] (px_u S 0 19 1) Q) ∧ (¬ (256 ≤ x1) → (vp_in x1 256 ∧ px_w G px_Zr (d + 1) m_Mo_scanned 151 [.ref 0, .int (x1 + 1)] [] (px_u S 14 x1.toNatClampNeg (-1)) Q)))) :
    px_w G px_Zr (d + 1) m_Mo_scanned 151 [.ref 0, .int x1] [] S Q := by
  refine w_iload_n rfl rfl rfl ?_
  refine w_sipush (v := 256) rfl rfl (by decide) ?_
  refine w_if_icmpge 171 rfl rfl rfl (fun hc => ?_) (fun hc => ?_)
  · have h := h.1 hc
    refine w_aload_n rfl rfl rfl ?_
    refine w_iconst (v := 1) rfl rfl (by decide) ?_
    refine w_put rfl rfl fl_Mo_240 fw_Mo_19 rfl rfl ?_
    refine w_iconst (v := 0) rfl rfl (by decide) ?_
    refine w_istore_n _ rfl rfl (by decide) rfl rfl ?_
    exact h
  · have h := h.2 hc
    refine w_aload_n rfl rfl rfl ?_
    refine w_getR rfl rfl fl_Mo_113 rfl rfl ?_
    refine w_iload_n rfl rfl rfl ?_
    refine w_iconst (v := -1) rfl rfl (by decide) ?_
    refine w_iastore rfl rfl rfl h.1 ?_
    have h := h.2
    refine w_iinc (v := 1) _ rfl rfl (by decide) rfl rfl (by decide) rfl ?_
    refine w_goto 151 rfl rfl rfl ?_
    exact h

