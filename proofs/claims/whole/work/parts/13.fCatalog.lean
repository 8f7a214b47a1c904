set_option maxRecDepth 100000 in
theorem e_Catalog_read_0 {G : px_G} {d : Nat} {S : px_S} {Q : Option Value → px_S → Prop}
    (h : px_V G px_Zc d m_Catalog_forget [.ref 24] S (fun S1 => px_w G px_Zc (d + 1) m_Catalog_read 6 [.ref 24, .int 0] [] S1 Q)) :
    px_w G px_Zc (d + 1) m_Catalog_read 0 [.ref 24, .null] [] S Q := by
  refine w_aload_n rfl rfl rfl ?_
  refine w_callV h cs_Catalog_read_1 rfl rfl (Nat.le_of_ble_eq_true rfl) rfl (fun S1 h => ?_)
  refine w_iconst (v := 0) rfl rfl (by decide) ?_
  refine w_istore_n _ rfl rfl (by decide) rfl rfl ?_
  exact h

set_option maxRecDepth 100000 in
theorem e_Catalog_read_6 {G : px_G} {d : Nat} {x1 : Int32} {S : px_S} {Q : Option Value → px_S → Prop}
    (h : px_I G px_Zc d m_Row_size [.ref 10] S (fun r3 S2 => ((r3 ≤ x1 → px_V G px_Zc d m_Catalog_findMain [.ref 24] S2 (fun S4 => ((¬ (S4 24 8) = (-1) → px_w G px_Zc (d + 1) m_Catalog_read 103 [.ref 24, .int 0] [] (px_u S4 24 9 1) Q) ∧ ((S4 24 8) = (-1) → Q (some (.int 0)) S4)))) ∧ (¬ (r3 ≤ x1) → ((26 ≤ (S2 24 7) → px_V G px_Zc d m_Catalog_findMain [.ref 24] S2 (fun S5 => ((¬ (S5 24 8) = (-1) → px_w G px_Zc (d + 1) m_Catalog_read 103 [.ref 24, .int 0] [] (px_u S5 24 9 1) Q) ∧ ((S5 24 8) = (-1) → Q (some (.int 0)) S5)))) ∧ (¬ (26 ≤ (S2 24 7)) → px_I G px_Zc d m_Packets_standsWhole [.ref 22, .int x1] S2 (fun r7 S6 => ((r7 = 0 → px_w G px_Zc (d + 1) m_Catalog_read 6 [.ref 24, .int (x1 + 1)] [] S6 Q) ∧ (¬ r7 = 0 → (vp_in (S6 24 7) 26 ∧ (∀ S8 : px_S, S8 = (px_u (px_u S6 25 (S6 24 7).toNatClampNeg x1) 24 7 (((px_u S6 25 (S6 24 7).toNatClampNeg x1) 24 7) + 1)) → px_I G px_Zc d m_Packets_bodySize [.ref 22, .int x1] S8 (fun r10 S9 => px_w G px_Zc (d + 1) m_Catalog_read 6 [.ref 24, .int ((x1 + ((26 + r10) - 1)) + 1)] [] S9 Q)))))))))))) :
    px_w G px_Zc (d + 1) m_Catalog_read 6 [.ref 24, .int x1] [] S Q := by
  refine w_iload_n rfl rfl rfl ?_
  refine w_aload_n rfl rfl rfl ?_
  refine w_getR rfl rfl fl_Catalog_21 rfl rfl ?_
  refine w_callI h cs_Catalog_read_11 rfl rfl (Nat.le_of_ble_eq_true rfl) rfl (fun r3 S2 h => ?_)
  refine w_if_icmpge 82 rfl rfl rfl (fun hc => ?_) (fun hc => ?_)
  · have h := h.1 hc
    refine w_aload_n rfl rfl rfl ?_
    refine w_callV h cs_Catalog_read_83 rfl rfl (Nat.le_of_ble_eq_true rfl) rfl (fun S4 h => ?_)
    refine w_aload_n rfl rfl rfl ?_
    refine w_getI rfl rfl fl_Catalog_45 rfl rfl ?_
    refine w_iconst (v := -1) rfl rfl (by decide) ?_
    refine w_if_icmpne 96 rfl rfl rfl (fun hc => ?_) (fun hc => ?_)
    · have h := h.1 hc
      refine w_aload_n rfl rfl rfl ?_
      refine w_iconst (v := 1) rfl rfl (by decide) ?_
      refine w_put rfl rfl fl_Catalog_48 fw_Catalog_9 rfl rfl ?_
      refine w_iconst (v := 0) rfl rfl (by decide) ?_
      refine w_istore_n _ rfl rfl (by decide) rfl rfl ?_
      exact h
    · have h := h.2 hc
      refine w_iconst (v := 0) rfl rfl (by decide) ?_
      exact w_zreturn rfl rfl rfl (Or.inl rfl) h
  · have h := h.2 hc
    refine w_aload_n rfl rfl rfl ?_
    refine w_getI rfl rfl fl_Catalog_41 rfl rfl ?_
    refine w_aload_n rfl rfl rfl ?_
    refine w_getR rfl rfl fl_Catalog_28 rfl rfl ?_
    refine w_alen (v := 26) rfl rfl rfl (by decide) ?_
    refine w_if_icmpge 82 rfl rfl rfl (fun hc => ?_) (fun hc => ?_)
    · have h := h.1 hc
      refine w_aload_n rfl rfl rfl ?_
      refine w_callV h cs_Catalog_read_83 rfl rfl (Nat.le_of_ble_eq_true rfl) rfl (fun S5 h => ?_)
      refine w_aload_n rfl rfl rfl ?_
      refine w_getI rfl rfl fl_Catalog_45 rfl rfl ?_
      refine w_iconst (v := -1) rfl rfl (by decide) ?_
      refine w_if_icmpne 96 rfl rfl rfl (fun hc => ?_) (fun hc => ?_)
      · have h := h.1 hc
        refine w_aload_n rfl rfl rfl ?_
        refine w_iconst (v := 1) rfl rfl (by decide) ?_
        refine w_put rfl rfl fl_Catalog_48 fw_Catalog_9 rfl rfl ?_
        refine w_iconst (v := 0) rfl rfl (by decide) ?_
        refine w_istore_n _ rfl rfl (by decide) rfl rfl ?_
        exact h
      · have h := h.2 hc
        refine w_iconst (v := 0) rfl rfl (by decide) ?_
        exact w_zreturn rfl rfl rfl (Or.inl rfl) h
    · have h := h.2 hc
      refine w_aload_n rfl rfl rfl ?_
      refine w_getR rfl rfl fl_Catalog_9 rfl rfl ?_
      refine w_iload_n rfl rfl rfl ?_
      refine w_callI h cs_Catalog_read_34 rfl rfl (Nat.le_of_ble_eq_true rfl) rfl (fun r7 S6 h => ?_)
      refine w_ifeq 76 rfl rfl rfl (fun hc => ?_) (fun hc => ?_)
      · have h := h.1 hc
        refine w_iinc (v := 1) _ rfl rfl (by decide) rfl rfl (by decide) rfl ?_
        refine w_goto 6 rfl rfl rfl ?_
        exact h
      · have h := h.2 hc
        refine w_aload_n rfl rfl rfl ?_
        refine w_getR rfl rfl fl_Catalog_28 rfl rfl ?_
        refine w_aload_n rfl rfl rfl ?_
        refine w_getI rfl rfl fl_Catalog_41 rfl rfl ?_
        refine w_iload_n rfl rfl rfl ?_
        refine w_iastore rfl rfl rfl h.1 ?_
        have h := h.2
        refine w_aload_n rfl rfl rfl ?_
        refine w_dup rfl rfl rfl ?_
        refine w_getI rfl rfl fl_Catalog_41 rfl rfl ?_
        refine w_iconst (v := 1) rfl rfl (by decide) ?_
        refine w_iadd rfl rfl ?_
        refine w_put rfl rfl fl_Catalog_41 fw_Catalog_7 rfl rfl ?_
        have h := h _ rfl
        refine w_iload_n rfl rfl rfl ?_
        refine w_bipush (v := 26) rfl rfl (by decide) ?_
        refine w_aload_n rfl rfl rfl ?_
        refine w_getR rfl rfl fl_Catalog_9 rfl rfl ?_
        refine w_iload_n rfl rfl rfl ?_
        refine w_callI h cs_Catalog_read_68 rfl rfl (Nat.le_of_ble_eq_true rfl) rfl (fun r10 S9 h => ?_)
        refine w_iadd rfl rfl ?_
        refine w_iconst (v := 1) rfl rfl (by decide) ?_
        refine w_isub rfl rfl ?_
        refine w_iadd rfl rfl ?_
        refine w_istore_n _ rfl rfl (by decide) rfl rfl ?_
        refine w_iinc (v := 1) _ rfl rfl (by decide) rfl rfl (by decide) rfl ?_
        refine w_goto 6 rfl rfl rfl ?_
        exact h

set_option maxRecDepth 100000 in
theorem e_Catalog_read_103 {G : px_G} {d : Nat} {x1 : Int32} {S : px_S} {Q : Option Value → px_S → Prop}
    (h : (((S 24 7) ≤ x1 → Q (some (.int 1)) S) ∧ (¬ ((S 24 7) ≤ x1) → (vp_in x1 26 ∧ px_V G px_Zc d m_Catalog_countPacket [.ref 24, .int (S 25 x1.toNatClampNeg)] S (fun S11 => px_w G px_Zc (d + 1) m_Catalog_read 103 [.ref 24, .int (x1 + 1)] [] S11 Q))))) :
    px_w G px_Zc (d + 1) m_Catalog_read 103 [.ref 24, .int x1] [] S Q := by
  refine w_iload_n rfl rfl rfl ?_
  refine w_aload_n rfl rfl rfl ?_
  refine w_getI rfl rfl fl_Catalog_41 rfl rfl ?_
  refine w_if_icmpge 127 rfl rfl rfl (fun hc => ?_) (fun hc => ?_)
  · have h := h.1 hc
    refine w_iconst (v := 1) rfl rfl (by decide) ?_
    exact w_zreturn rfl rfl rfl (Or.inr rfl) h
  · have h := h.2 hc
    refine w_aload_n rfl rfl rfl ?_
    refine w_aload_n rfl rfl rfl ?_
    refine w_getR rfl rfl fl_Catalog_28 rfl rfl ?_
    refine w_iload_n rfl rfl rfl ?_
    refine w_iaload rfl rfl rfl h.1 ?_
    have h := h.2
    refine w_callV h cs_Catalog_read_118 rfl rfl (Nat.le_of_ble_eq_true rfl) rfl (fun S11 h => ?_)
    refine w_iinc (v := 1) _ rfl rfl (by decide) rfl rfl (by decide) rfl ?_
    refine w_goto 103 rfl rfl rfl ?_
    exact h

theorem f_Catalog_read {G : px_G} {d : Nat} {S : px_S} {Q : Option Value → px_S → Prop}
    (h : px_V G px_Zc d m_Catalog_forget [.ref 24] S (fun S1 => px_w G px_Zc (d + 1) m_Catalog_read 6 [.ref 24, .int 0] [] S1 Q)) :
    px_M G px_Zc (d + 1) m_Catalog_read [.ref 24] S Q :=
  px_in (Or.inr ⟨_, _, _, _, _, rfl, rfl, rfl, rfl⟩) (by decide) (Nat.le_of_ble_eq_true rfl) (px_en 1 rfl) (e_Catalog_read_0 h)

set_option maxRecDepth 100000 in
theorem e_Catalog_counted_0 {G : px_G} {d : Nat} {S : px_S} {Q : Option Value → px_S → Prop}
    (h : Q (some (.int (S 24 9))) S) :
    px_w G px_Zc d m_Catalog_counted 0 [.ref 24] [] S Q := by
  refine w_aload_n rfl rfl rfl ?_
  refine w_getI rfl rfl fl_Catalog_48 rfl rfl ?_
  exact w_ireturn rfl rfl rfl h

theorem f_Catalog_counted {G : px_G} {d : Nat} {S : px_S} {Q : Option Value → px_S → Prop}
    (h : Q (some (.int (S 24 9))) S) :
    px_M G px_Zc d m_Catalog_counted [.ref 24] S Q :=
  px_in (Or.inr ⟨_, _, _, _, _, rfl, rfl, rfl, rfl⟩) (by decide) (Nat.le_of_ble_eq_true rfl) (px_en 0 rfl) (e_Catalog_counted_0 h)

set_option maxRecDepth 100000 in
theorem e_Catalog_recoveries_0 {G : px_G} {d : Nat} {S : px_S} {Q : Option Value → px_S → Prop}
    (h : Q (some (.int (S 24 10))) S) :
    px_w G px_Zc d m_Catalog_recoveries 0 [.ref 24] [] S Q := by
  refine w_aload_n rfl rfl rfl ?_
  refine w_getI rfl rfl fl_Catalog_51 rfl rfl ?_
  exact w_ireturn rfl rfl rfl h

theorem f_Catalog_recoveries {G : px_G} {d : Nat} {S : px_S} {Q : Option Value → px_S → Prop}
    (h : Q (some (.int (S 24 10))) S) :
    px_M G px_Zc d m_Catalog_recoveries [.ref 24] S Q :=
  px_in (Or.inr ⟨_, _, _, _, _, rfl, rfl, rfl, rfl⟩) (by decide) (Nat.le_of_ble_eq_true rfl) (px_en 0 rfl) (e_Catalog_recoveries_0 h)

set_option maxRecDepth 100000 in
theorem e_Catalog_fileCount_0 {G : px_G} {d : Nat} {S : px_S} {Q : Option Value → px_S → Prop}
    (h : ((¬ (S 24 8) = (-1) → px_I G px_Zc d m_Packets_body [.ref 22, .int (S 24 8)] S (fun r2 S1 => px_I G px_Zc d m_Row_get [.ref 10, .int (r2 + 1)] S1 (fun r4 S3 => Q (some (.int r4)) S3))) ∧ ((S 24 8) = (-1) → Q (some (.int 0)) S))) :
    px_w G px_Zc (d + 1) m_Catalog_fileCount 0 [.ref 24] [] S Q := by
  refine w_aload_n rfl rfl rfl ?_
  refine w_getI rfl rfl fl_Catalog_45 rfl rfl ?_
  refine w_iconst (v := -1) rfl rfl (by decide) ?_
  refine w_if_icmpne 12 rfl rfl rfl (fun hc => ?_) (fun hc => ?_)
  · have h := h.1 hc
    refine w_aload_n rfl rfl rfl ?_
    refine w_getR rfl rfl fl_Catalog_21 rfl rfl ?_
    refine w_aload_n rfl rfl rfl ?_
    refine w_getR rfl rfl fl_Catalog_9 rfl rfl ?_
    refine w_aload_n rfl rfl rfl ?_
    refine w_getI rfl rfl fl_Catalog_45 rfl rfl ?_
    refine w_callI h cs_Catalog_fileCount_24 rfl rfl (Nat.le_of_ble_eq_true rfl) rfl (fun r2 S1 h => ?_)
    refine w_iconst (v := 1) rfl rfl (by decide) ?_
    refine w_iadd rfl rfl ?_
    refine w_callI h cs_Catalog_fileCount_29 rfl rfl (Nat.le_of_ble_eq_true rfl) rfl (fun r4 S3 h => ?_)
    exact w_ireturn rfl rfl rfl h
  · have h := h.2 hc
    refine w_iconst (v := 0) rfl rfl (by decide) ?_
    refine w_goto 32 rfl rfl rfl ?_
    exact w_ireturn rfl rfl rfl h

theorem f_Catalog_fileCount {G : px_G} {d : Nat} {S : px_S} {Q : Option Value → px_S → Prop}
    (h : ((¬ (S 24 8) = (-1) → px_I G px_Zc d m_Packets_body [.ref 22, .int (S 24 8)] S (fun r2 S1 => px_I G px_Zc d m_Row_get [.ref 10, .int (r2 + 1)] S1 (fun r4 S3 => Q (some (.int r4)) S3))) ∧ ((S 24 8) = (-1) → Q (some (.int 0)) S))) :
    px_M G px_Zc (d + 1) m_Catalog_fileCount [.ref 24] S Q :=
  px_in (Or.inr ⟨_, _, _, _, _, rfl, rfl, rfl, rfl⟩) (by decide) (Nat.le_of_ble_eq_true rfl) (px_en 0 rfl) (e_Catalog_fileCount_0 h)

set_option maxRecDepth 100000 in
theorem e_Catalog_toldSize_0 {G : px_G} {d : Nat} {x1 : Int32} {S : px_S} {Q : Option Value → px_S → Prop}
    (h : px_I G px_Zc d m_Packets_body [.ref 22, .int (S 24 8)] S (fun r2 S1 => px_I G px_Zc d m_Row_get [.ref 10, .int ((r2 + 2) + x1)] S1 (fun r4 S3 => Q (some (.int r4)) S3))) :
    px_w G px_Zc (d + 1) m_Catalog_toldSize 0 [.ref 24, .int x1] [] S Q := by
  refine w_aload_n rfl rfl rfl ?_
  refine w_getR rfl rfl fl_Catalog_21 rfl rfl ?_
  refine w_aload_n rfl rfl rfl ?_
  refine w_getR rfl rfl fl_Catalog_9 rfl rfl ?_
  refine w_aload_n rfl rfl rfl ?_
  refine w_getI rfl rfl fl_Catalog_45 rfl rfl ?_
  refine w_callI h cs_Catalog_toldSize_12 rfl rfl (Nat.le_of_ble_eq_true rfl) rfl (fun r2 S1 h => ?_)
  refine w_iconst (v := 2) rfl rfl (by decide) ?_
  refine w_iadd rfl rfl ?_
  refine w_iload_n rfl rfl rfl ?_
  refine w_iadd rfl rfl ?_
  refine w_callI h cs_Catalog_toldSize_19 rfl rfl (Nat.le_of_ble_eq_true rfl) rfl (fun r4 S3 h => ?_)
  exact w_ireturn rfl rfl rfl h

theorem f_Catalog_toldSize {G : px_G} {d : Nat} {x1 : Int32} {S : px_S} {Q : Option Value → px_S → Prop}
    (h : px_I G px_Zc d m_Packets_body [.ref 22, .int (S 24 8)] S (fun r2 S1 => px_I G px_Zc d m_Row_get [.ref 10, .int ((r2 + 2) + x1)] S1 (fun r4 S3 => Q (some (.int r4)) S3))) :
    px_M G px_Zc (d + 1) m_Catalog_toldSize [.ref 24, .int x1] S Q :=
  px_in (Or.inr ⟨_, _, _, _, _, rfl, rfl, rfl, rfl⟩) (by decide) (Nat.le_of_ble_eq_true rfl) (px_en 0 rfl) (e_Catalog_toldSize_0 h)

set_option maxRecDepth 100000 in
theorem e_Catalog_agreesWithSum_0 {G : px_G} {d : Nat} {x1 : Int32} {S : px_S} {Q : Option Value → px_S → Prop}
    (h : px_I G px_Zc d m_PV_isFile [.int x1] S (fun r2 S1 => ((r2 = 0 → Q (some (.int 1)) S1) ∧ (¬ r2 = 0 → (vp_in x1 3 ∧ (((S1 26 x1.toNatClampNeg) = (-1) → Q (some (.int 1)) S1) ∧ (¬ (S1 26 x1.toNatClampNeg) = (-1) → (vp_in x1 3 ∧ px_I G px_Zc d m_Sum_standsIn [.ref 18, .ref 10, .int ((S1 26 x1.toNatClampNeg) + 2), .int 16] S1 (fun r4 S3 => ((r4 = 0 → Q (some (.int 0)) S3) ∧ (¬ r4 = 0 → Q (some (.int 1)) S3))))))))))) :
    px_w G px_Zc (d + 1) m_Catalog_agreesWithSum 0 [.ref 24, .int x1] [] S Q := by
  refine w_iload_n rfl rfl rfl ?_
  refine w_callI h cs_Catalog_agreesWithSum_1 rfl rfl (Nat.le_of_ble_eq_true rfl) rfl (fun r2 S1 h => ?_)
  refine w_ifeq 41 rfl rfl rfl (fun hc => ?_) (fun hc => ?_)
  · have h := h.1 hc
    refine w_iconst (v := 1) rfl rfl (by decide) ?_
    refine w_goto 46 rfl rfl rfl ?_
    exact w_zreturn rfl rfl rfl (Or.inr rfl) h
  · have h := h.2 hc
    refine w_aload_n rfl rfl rfl ?_
    refine w_getR rfl rfl fl_Catalog_32 rfl rfl ?_
    refine w_iload_n rfl rfl rfl ?_
    refine w_iaload rfl rfl rfl h.1 ?_
    have h := h.2
    refine w_iconst (v := -1) rfl rfl (by decide) ?_
    refine w_if_icmpeq 41 rfl rfl rfl (fun hc => ?_) (fun hc => ?_)
    · have h := h.1 hc
      refine w_iconst (v := 1) rfl rfl (by decide) ?_
      refine w_goto 46 rfl rfl rfl ?_
      exact w_zreturn rfl rfl rfl (Or.inr rfl) h
    · have h := h.2 hc
      refine w_aload_n rfl rfl rfl ?_
      refine w_getR rfl rfl fl_Catalog_24 rfl rfl ?_
      refine w_aload_n rfl rfl rfl ?_
      refine w_getR rfl rfl fl_Catalog_21 rfl rfl ?_
      refine w_aload_n rfl rfl rfl ?_
      refine w_getR rfl rfl fl_Catalog_32 rfl rfl ?_
      refine w_iload_n rfl rfl rfl ?_
      refine w_iaload rfl rfl rfl h.1 ?_
      have h := h.2
      refine w_iconst (v := 2) rfl rfl (by decide) ?_
      refine w_iadd rfl rfl ?_
      refine w_bipush (v := 16) rfl rfl (by decide) ?_
      refine w_callI h cs_Catalog_agreesWithSum_35 rfl rfl (Nat.le_of_ble_eq_true rfl) rfl (fun r4 S3 h => ?_)
      refine w_ifeq 45 rfl rfl rfl (fun hc => ?_) (fun hc => ?_)
      · have h := h.1 hc
        refine w_iconst (v := 0) rfl rfl (by decide) ?_
        exact w_zreturn rfl rfl rfl (Or.inl rfl) h
      · have h := h.2 hc
        refine w_iconst (v := 1) rfl rfl (by decide) ?_
        refine w_goto 46 rfl rfl rfl ?_
        exact w_zreturn rfl rfl rfl (Or.inr rfl) h

theorem f_Catalog_agreesWithSum {G : px_G} {d : Nat} {x1 : Int32} {S : px_S} {Q : Option Value → px_S → Prop}
    (h : px_I G px_Zc d m_PV_isFile [.int x1] S (fun r2 S1 => ((r2 = 0 → Q (some (.int 1)) S1) ∧ (¬ r2 = 0 → (vp_in x1 3 ∧ (((S1 26 x1.toNatClampNeg) = (-1) → Q (some (.int 1)) S1) ∧ (¬ (S1 26 x1.toNatClampNeg) = (-1) → (vp_in x1 3 ∧ px_I G px_Zc d m_Sum_standsIn [.ref 18, .ref 10, .int ((S1 26 x1.toNatClampNeg) + 2), .int 16] S1 (fun r4 S3 => ((r4 = 0 → Q (some (.int 0)) S3) ∧ (¬ r4 = 0 → Q (some (.int 1)) S3))))))))))) :
    px_M G px_Zc (d + 1) m_Catalog_agreesWithSum [.ref 24, .int x1] S Q :=
  px_in (Or.inr ⟨_, _, _, _, _, rfl, rfl, rfl, rfl⟩) (by decide) (Nat.le_of_ble_eq_true rfl) (px_en 0 rfl) (e_Catalog_agreesWithSum_0 h)

set_option maxRecDepth 100000 in
theorem e_Catalog_toldSlice_0 {G : px_G} {d : Nat} {x1 x2 : Int32} {S : px_S} {Q : Option Value → px_S → Prop}
    (h : px_I G px_Zc d m_PV_isFile [.int x1] S (fun r2 S1 => ((r2 = 0 → Q (some (.int (-1))) S1) ∧ (¬ r2 = 0 → (vp_in x1 3 ∧ ((¬ (S1 27 x1.toNatClampNeg) = (-1) → (vp_in x1 3 ∧ Q (some (.int (((S1 27 x1.toNatClampNeg) + 1) + (20 * x2)))) S1)) ∧ ((S1 27 x1.toNatClampNeg) = (-1) → Q (some (.int (-1))) S1))))))) :
    px_w G px_Zc (d + 1) m_Catalog_toldSlice 0 [.ref 24, .int x1, .int x2] [] S Q := by
  refine w_iload_n rfl rfl rfl ?_
  refine w_callI h cs_Catalog_toldSlice_1 rfl rfl (Nat.le_of_ble_eq_true rfl) rfl (fun r2 S1 h => ?_)
  refine w_ifeq 17 rfl rfl rfl (fun hc => ?_) (fun hc => ?_)
  · have h := h.1 hc
    refine w_iconst (v := -1) rfl rfl (by decide) ?_
    refine w_goto 34 rfl rfl rfl ?_
    exact w_ireturn rfl rfl rfl h
  · have h := h.2 hc
    refine w_aload_n rfl rfl rfl ?_
    refine w_getR rfl rfl fl_Catalog_35 rfl rfl ?_
    refine w_iload_n rfl rfl rfl ?_
    refine w_iaload rfl rfl rfl h.1 ?_
    have h := h.2
    refine w_iconst (v := -1) rfl rfl (by decide) ?_
    refine w_if_icmpne 21 rfl rfl rfl (fun hc => ?_) (fun hc => ?_)
    · have h := h.1 hc
      refine w_aload_n rfl rfl rfl ?_
      refine w_getR rfl rfl fl_Catalog_35 rfl rfl ?_
      refine w_iload_n rfl rfl rfl ?_
      refine w_iaload rfl rfl rfl h.1 ?_
      have h := h.2
      refine w_iconst (v := 1) rfl rfl (by decide) ?_
      refine w_iadd rfl rfl ?_
      refine w_bipush (v := 20) rfl rfl (by decide) ?_
      refine w_iload_n rfl rfl rfl ?_
      refine w_imul rfl rfl ?_
      refine w_iadd rfl rfl ?_
      exact w_ireturn rfl rfl rfl h
    · have h := h.2 hc
      refine w_iconst (v := -1) rfl rfl (by decide) ?_
      refine w_goto 34 rfl rfl rfl ?_
      exact w_ireturn rfl rfl rfl h

theorem f_Catalog_toldSlice {G : px_G} {d : Nat} {x1 x2 : Int32} {S : px_S} {Q : Option Value → px_S → Prop}
    (h : px_I G px_Zc d m_PV_isFile [.int x1] S (fun r2 S1 => ((r2 = 0 → Q (some (.int (-1))) S1) ∧ (¬ r2 = 0 → (vp_in x1 3 ∧ ((¬ (S1 27 x1.toNatClampNeg) = (-1) → (vp_in x1 3 ∧ Q (some (.int (((S1 27 x1.toNatClampNeg) + 1) + (20 * x2)))) S1)) ∧ ((S1 27 x1.toNatClampNeg) = (-1) → Q (some (.int (-1))) S1))))))) :
    px_M G px_Zc (d + 1) m_Catalog_toldSlice [.ref 24, .int x1, .int x2] S Q :=
  px_in (Or.inr ⟨_, _, _, _, _, rfl, rfl, rfl, rfl⟩) (by decide) (Nat.le_of_ble_eq_true rfl) (px_en 0 rfl) (e_Catalog_toldSlice_0 h)

set_option maxRecDepth 100000 in
theorem e_Catalog_hasRecovery_0 {G : px_G} {d : Nat} {x1 : Int32} {S : px_S} {Q : Option Value → px_S → Prop}
    (h : ((x1 < 0 → Q (some (.int 0)) S) ∧ (¬ (x1 < 0) → ((256 ≤ x1 → Q (some (.int 0)) S) ∧ (¬ (256 ≤ x1) → (vp_in x1 256 ∧ (((S 28 x1.toNatClampNeg) = (-1) → Q (some (.int 0)) S) ∧ (¬ (S 28 x1.toNatClampNeg) = (-1) → Q (some (.int 1)) S)))))))) :
    px_w G px_Zc d m_Catalog_hasRecovery 0 [.ref 24, .int x1] [] S Q := by
  refine w_iload_n rfl rfl rfl ?_
  refine w_iflt 25 rfl rfl rfl (fun hc => ?_) (fun hc => ?_)
  · have h := h.1 hc
    refine w_iconst (v := 0) rfl rfl (by decide) ?_
    exact w_zreturn rfl rfl rfl (Or.inl rfl) h
  · have h := h.2 hc
    refine w_iload_n rfl rfl rfl ?_
    refine w_sipush (v := 256) rfl rfl (by decide) ?_
    refine w_if_icmpge 25 rfl rfl rfl (fun hc => ?_) (fun hc => ?_)
    · have h := h.1 hc
      refine w_iconst (v := 0) rfl rfl (by decide) ?_
      exact w_zreturn rfl rfl rfl (Or.inl rfl) h
    · have h := h.2 hc
      refine w_aload_n rfl rfl rfl ?_
      refine w_getR rfl rfl fl_Catalog_38 rfl rfl ?_
      refine w_iload_n rfl rfl rfl ?_
      refine w_iaload rfl rfl rfl h.1 ?_
      have h := h.2
      refine w_iconst (v := -1) rfl rfl (by decide) ?_
      refine w_if_icmpeq 25 rfl rfl rfl (fun hc => ?_) (fun hc => ?_)
      · have h := h.1 hc
        refine w_iconst (v := 0) rfl rfl (by decide) ?_
        exact w_zreturn rfl rfl rfl (Or.inl rfl) h
      · have h := h.2 hc
        refine w_iconst (v := 1) rfl rfl (by decide) ?_
        refine w_goto 26 rfl rfl rfl ?_
        exact w_zreturn rfl rfl rfl (Or.inr rfl) h

theorem f_Catalog_hasRecovery {G : px_G} {d : Nat} {x1 : Int32} {S : px_S} {Q : Option Value → px_S → Prop}
    (h : ((x1 < 0 → Q (some (.int 0)) S) ∧ (¬ (x1 < 0) → ((256 ≤ x1 → Q (some (.int 0)) S) ∧ (¬ (256 ≤ x1) → (vp_in x1 256 ∧ (((S 28 x1.toNatClampNeg) = (-1) → Q (some (.int 0)) S) ∧ (¬ (S 28 x1.toNatClampNeg) = (-1) → Q (some (.int 1)) S)))))))) :
    px_M G px_Zc d m_Catalog_hasRecovery [.ref 24, .int x1] S Q :=
  px_in (Or.inr ⟨_, _, _, _, _, rfl, rfl, rfl, rfl⟩) (by decide) (Nat.le_of_ble_eq_true rfl) (px_en 0 rfl) (e_Catalog_hasRecovery_0 h)

set_option maxRecDepth 100000 in
theorem e_Catalog_recoveryNumber_0 {G : px_G} {d : Nat} {x1 x2 : Int32} {S : px_S} {Q : Option Value → px_S → Prop}
    (h : px_I G px_Zc d m_Catalog_hasRecovery [.ref 24, .int x1] S (fun r2 S1 => ((¬ r2 = 0 → (vp_in x1 256 ∧ (∀ y3 : Int32, y3 = (((S1 28 x1.toNatClampNeg) + 1) + (2 * x2)) → px_I G px_Zc d m_Row_get [.ref 10, .int y3] S1 (fun r5 S4 => px_I G px_Zc d m_Row_get [.ref 10, .int (y3 + 1)] S4 (fun r7 S6 => Q (some (.int (r5 ||| (px_shl r7 8)))) S6))))) ∧ (r2 = 0 → Q (some (.int 0)) S1)))) :
    px_w G px_Zc (d + 1) m_Catalog_recoveryNumber 0 [.ref 24, .int x1, .int x2, .null] [] S Q := by
  refine w_aload_n rfl rfl rfl ?_
  refine w_iload_n rfl rfl rfl ?_
  refine w_callI h cs_Catalog_recoveryNumber_2 rfl rfl (Nat.le_of_ble_eq_true rfl) rfl (fun r2 S1 h => ?_)
  refine w_ifne 10 rfl rfl rfl (fun hc => ?_) (fun hc => ?_)
  · have h := h.1 hc
    refine w_aload_n rfl rfl rfl ?_
    refine w_getR rfl rfl fl_Catalog_38 rfl rfl ?_
    refine w_iload_n rfl rfl rfl ?_
    refine w_iaload rfl rfl rfl h.1 ?_
    have h := h.2
    refine w_iconst (v := 1) rfl rfl (by decide) ?_
    refine w_iadd rfl rfl ?_
    refine w_iconst (v := 2) rfl rfl (by decide) ?_
    refine w_iload_n rfl rfl rfl ?_
    refine w_imul rfl rfl ?_
    refine w_iadd rfl rfl ?_
    have h := h _ rfl
    refine w_istore_n _ rfl rfl (by decide) rfl rfl ?_
    refine w_aload_n rfl rfl rfl ?_
    refine w_getR rfl rfl fl_Catalog_21 rfl rfl ?_
    refine w_iload_n rfl rfl rfl ?_
    refine w_callI h cs_Catalog_recoveryNumber_28 rfl rfl (Nat.le_of_ble_eq_true rfl) rfl (fun r5 S4 h => ?_)
    refine w_aload_n rfl rfl rfl ?_
    refine w_getR rfl rfl fl_Catalog_21 rfl rfl ?_
    refine w_iload_n rfl rfl rfl ?_
    refine w_iconst (v := 1) rfl rfl (by decide) ?_
    refine w_iadd rfl rfl ?_
    refine w_callI h cs_Catalog_recoveryNumber_38 rfl rfl (Nat.le_of_ble_eq_true rfl) rfl (fun r7 S6 h => ?_)
    refine w_bipush (v := 8) rfl rfl (by decide) ?_
    refine w_ishl rfl rfl ?_
    refine w_ior rfl rfl ?_
    exact w_ireturn rfl rfl rfl h
  · have h := h.2 hc
    refine w_iconst (v := 0) rfl rfl (by decide) ?_
    exact w_ireturn rfl rfl rfl h

theorem f_Catalog_recoveryNumber {G : px_G} {d : Nat} {x1 x2 : Int32} {S : px_S} {Q : Option Value → px_S → Prop}
    (h : px_I G px_Zc d m_Catalog_hasRecovery [.ref 24, .int x1] S (fun r2 S1 => ((¬ r2 = 0 → (vp_in x1 256 ∧ (∀ y3 : Int32, y3 = (((S1 28 x1.toNatClampNeg) + 1) + (2 * x2)) → px_I G px_Zc d m_Row_get [.ref 10, .int y3] S1 (fun r5 S4 => px_I G px_Zc d m_Row_get [.ref 10, .int (y3 + 1)] S4 (fun r7 S6 => Q (some (.int (r5 ||| (px_shl r7 8)))) S6))))) ∧ (r2 = 0 → Q (some (.int 0)) S1)))) :
    px_M G px_Zc (d + 1) m_Catalog_recoveryNumber [.ref 24, .int x1, .int x2] S Q :=
  px_in (Or.inr ⟨_, _, _, _, _, rfl, rfl, rfl, rfl⟩) (by decide) (Nat.le_of_ble_eq_true rfl) (px_en 1 rfl) (e_Catalog_recoveryNumber_0 h)

set_option maxRecDepth 100000 in
theorem e_Catalog_row_0 {G : px_G} {d : Nat} {S : px_S} {Q : Option Value → px_S → Prop}
    (h : Q (some (.ref 10)) S) :
    px_w G px_Zc d m_Catalog_row 0 [.ref 24] [] S Q := by
  refine w_aload_n rfl rfl rfl ?_
  refine w_getR rfl rfl fl_Catalog_21 rfl rfl ?_
  exact w_areturn rfl rfl rfl h

theorem f_Catalog_row {G : px_G} {d : Nat} {S : px_S} {Q : Option Value → px_S → Prop}
    (h : Q (some (.ref 10)) S) :
    px_M G px_Zc d m_Catalog_row [.ref 24] S Q :=
  px_in (Or.inr ⟨_, _, _, _, _, rfl, rfl, rfl, rfl⟩) (by decide) (Nat.le_of_ble_eq_true rfl) (px_en 0 rfl) (e_Catalog_row_0 h)

set_option maxRecDepth 100000 in
theorem e_Catalog_forget_0 {G : px_G} {d : Nat} {S : px_S} {Q : Option Value → px_S → Prop}
    (h : px_w G px_Zc d m_Catalog_forget 22 [.ref 24, .int 0] [] (px_u (px_u (px_u (px_u S 24 7 0) 24 8 (-1)) 24 9 0) 24 10 0) Q) :
    px_w G px_Zc d m_Catalog_forget 0 [.ref 24, .null] [] S Q := by
  refine w_aload_n rfl rfl rfl ?_
  refine w_iconst (v := 0) rfl rfl (by decide) ?_
  refine w_put rfl rfl fl_Catalog_41 fw_Catalog_7 rfl rfl ?_
  refine w_aload_n rfl rfl rfl ?_
  refine w_iconst (v := -1) rfl rfl (by decide) ?_
  refine w_put rfl rfl fl_Catalog_45 fw_Catalog_8 rfl rfl ?_
  refine w_aload_n rfl rfl rfl ?_
  refine w_iconst (v := 0) rfl rfl (by decide) ?_
  refine w_put rfl rfl fl_Catalog_48 fw_Catalog_9 rfl rfl ?_
  refine w_aload_n rfl rfl rfl ?_
  refine w_iconst (v := 0) rfl rfl (by decide) ?_
  refine w_put rfl rfl fl_Catalog_51 fw_Catalog_10 rfl rfl ?_
  refine w_iconst (v := 0) rfl rfl (by decide) ?_
  refine w_istore_n _ rfl rfl (by decide) rfl rfl ?_
  exact h

set_option maxRecDepth 100000 in
theorem e_Catalog_forget_22 {G : px_G} {d : Nat} {x1 : Int32} {S : px_S} {Q : Option Value → px_S → Prop}
    (h : ((3 ≤ x1 → px_w G px_Zc d m_Catalog_forget 49 [.ref 24, .int 0] [] S Q) ∧ (¬ (3 ≤ x1) → (vp_in x1 3 ∧ (vp_in x1 3 ∧ px_w G px_Zc d m_Catalog_forget 22 [.ref 24, .int (x1 + 1)] [] (px_u (px_u S 26 x1.toNatClampNeg (-1)) 27 x1.toNatClampNeg (-1)) Q))))) :
    px_w G px_Zc d m_Catalog_forget 22 [.ref 24, .int x1] [] S Q := by
  refine w_iload_n rfl rfl rfl ?_
  refine w_iconst (v := 3) rfl rfl (by decide) ?_
  refine w_if_icmpge 47 rfl rfl rfl (fun hc => ?_) (fun hc => ?_)
  · have h := h.1 hc
    refine w_iconst (v := 0) rfl rfl (by decide) ?_
    refine w_istore_n _ rfl rfl (by decide) rfl rfl ?_
    exact h
  · have h := h.2 hc
    refine w_aload_n rfl rfl rfl ?_
    refine w_getR rfl rfl fl_Catalog_32 rfl rfl ?_
    refine w_iload_n rfl rfl rfl ?_
    refine w_iconst (v := -1) rfl rfl (by decide) ?_
    refine w_iastore rfl rfl rfl h.1 ?_
    have h := h.2
    refine w_aload_n rfl rfl rfl ?_
    refine w_getR rfl rfl fl_Catalog_35 rfl rfl ?_
    refine w_iload_n rfl rfl rfl ?_
    refine w_iconst (v := -1) rfl rfl (by decide) ?_
    refine w_iastore rfl rfl rfl h.1 ?_
    have h := h.2
    refine w_iinc (v := 1) _ rfl rfl (by decide) rfl rfl (by decide) rfl ?_
    refine w_goto 22 rfl rfl rfl ?_
    exact h

set_option maxRecDepth 100000 in
theorem e_Catalog_forget_49 {G : px_G} {d : Nat} {x1 : Int32} {S : px_S} {Q : Option Value → px_S → Prop}
    (h : ((256 ≤ x1 → Q none S) ∧ (¬ (256 ≤ x1) → (vp_in x1 256 ∧ px_w G px_Zc d m_Catalog_forget 49 [.ref 24, .int (x1 + 1)] [] (px_u S 28 x1.toNatClampNeg (-1)) Q)))) :
    px_w G px_Zc d m_Catalog_forget 49 [.ref 24, .int x1] [] S Q := by
  refine w_iload_n rfl rfl rfl ?_
  refine w_sipush (v := 256) rfl rfl (by decide) ?_
  refine w_if_icmpge 69 rfl rfl rfl (fun hc => ?_) (fun hc => ?_)
  · have h := h.1 hc
    exact w_return rfl rfl rfl h
  · have h := h.2 hc
    refine w_aload_n rfl rfl rfl ?_
    refine w_getR rfl rfl fl_Catalog_38 rfl rfl ?_
    refine w_iload_n rfl rfl rfl ?_
    refine w_iconst (v := -1) rfl rfl (by decide) ?_
    refine w_iastore rfl rfl rfl h.1 ?_
    have h := h.2
    refine w_iinc (v := 1) _ rfl rfl (by decide) rfl rfl (by decide) rfl ?_
    refine w_goto 49 rfl rfl rfl ?_
    exact h

theorem f_Catalog_forget {G : px_G} {d : Nat} {S : px_S} {Q : Option Value → px_S → Prop}
    (h : px_w G px_Zc d m_Catalog_forget 22 [.ref 24, .int 0] [] (px_u (px_u (px_u (px_u S 24 7 0) 24 8 (-1)) 24 9 0) 24 10 0) Q) :
    px_M G px_Zc d m_Catalog_forget [.ref 24] S Q :=
  px_in (Or.inr ⟨_, _, _, _, _, rfl, rfl, rfl, rfl⟩) (by decide) (Nat.le_of_ble_eq_true rfl) (px_en 1 rfl) (e_Catalog_forget_0 h)

set_option maxRecDepth 100000 in
theorem e_Catalog_findMain_0 {G : px_G} {d : Nat} {S : px_S} {Q : Option Value → px_S → Prop}
    (h : px_w G px_Zc (d + 1) m_Catalog_findMain 2 [.ref 24, .int 0] [] S Q) :
    px_w G px_Zc (d + 1) m_Catalog_findMain 0 [.ref 24, .null] [] S Q := by
  refine w_iconst (v := 0) rfl rfl (by decide) ?_
  refine w_istore_n _ rfl rfl (by decide) rfl rfl ?_
  exact h

set_option maxRecDepth 100000 in
theorem e_Catalog_findMain_2 {G : px_G} {d : Nat} {x1 : Int32} {S : px_S} {Q : Option Value → px_S → Prop}
    (h : (((S 24 7) ≤ x1 → Q none S) ∧ (¬ ((S 24 7) ≤ x1) → ((¬ (S 24 8) = (-1) → Q none S) ∧ ((S 24 8) = (-1) → (vp_in x1 26 ∧ px_I G px_Zc d m_Packets_kind [.ref 22, .int (S 25 x1.toNatClampNeg)] S (fun r2 S1 => ((¬ r2 = 77 → px_w G px_Zc (d + 1) m_Catalog_findMain 2 [.ref 24, .int (x1 + 1)] [] S1 Q) ∧ (r2 = 77 → (vp_in x1 26 ∧ px_I G px_Zc d m_Catalog_isMain [.ref 24, .int (S1 25 x1.toNatClampNeg)] S1 (fun r4 S3 => ((r4 = 0 → px_w G px_Zc (d + 1) m_Catalog_findMain 2 [.ref 24, .int (x1 + 1)] [] S3 Q) ∧ (¬ r4 = 0 → (vp_in x1 26 ∧ px_w G px_Zc (d + 1) m_Catalog_findMain 2 [.ref 24, .int (x1 + 1)] [] (px_u S3 24 8 (S3 25 x1.toNatClampNeg)) Q)))))))))))))) :
    px_w G px_Zc (d + 1) m_Catalog_findMain 2 [.ref 24, .int x1] [] S Q := by
  refine w_iload_n rfl rfl rfl ?_
  refine w_aload_n rfl rfl rfl ?_
  refine w_getI rfl rfl fl_Catalog_41 rfl rfl ?_
  refine w_if_icmpge 65 rfl rfl rfl (fun hc => ?_) (fun hc => ?_)
  · have h := h.1 hc
    exact w_return rfl rfl rfl h
  · have h := h.2 hc
    refine w_aload_n rfl rfl rfl ?_
    refine w_getI rfl rfl fl_Catalog_45 rfl rfl ?_
    refine w_iconst (v := -1) rfl rfl (by decide) ?_
    refine w_if_icmpne 65 rfl rfl rfl (fun hc => ?_) (fun hc => ?_)
    · have h := h.1 hc
      exact w_return rfl rfl rfl h
    · have h := h.2 hc
      refine w_aload_n rfl rfl rfl ?_
      refine w_getR rfl rfl fl_Catalog_9 rfl rfl ?_
      refine w_aload_n rfl rfl rfl ?_
      refine w_getR rfl rfl fl_Catalog_28 rfl rfl ?_
      refine w_iload_n rfl rfl rfl ?_
      refine w_iaload rfl rfl rfl h.1 ?_
      have h := h.2
      refine w_callI h cs_Catalog_findMain_28 rfl rfl (Nat.le_of_ble_eq_true rfl) rfl (fun r2 S1 h => ?_)
      refine w_bipush (v := 77) rfl rfl (by decide) ?_
      refine w_if_icmpne 59 rfl rfl rfl (fun hc => ?_) (fun hc => ?_)
      · have h := h.1 hc
        refine w_iinc (v := 1) _ rfl rfl (by decide) rfl rfl (by decide) rfl ?_
        refine w_goto 2 rfl rfl rfl ?_
        exact h
      · have h := h.2 hc
        refine w_aload_n rfl rfl rfl ?_
        refine w_aload_n rfl rfl rfl ?_
        refine w_getR rfl rfl fl_Catalog_28 rfl rfl ?_
        refine w_iload_n rfl rfl rfl ?_
        refine w_iaload rfl rfl rfl h.1 ?_
        have h := h.2
        refine w_callI h cs_Catalog_findMain_43 rfl rfl (Nat.le_of_ble_eq_true rfl) rfl (fun r4 S3 h => ?_)
        refine w_ifeq 59 rfl rfl rfl (fun hc => ?_) (fun hc => ?_)
        · have h := h.1 hc
          refine w_iinc (v := 1) _ rfl rfl (by decide) rfl rfl (by decide) rfl ?_
          refine w_goto 2 rfl rfl rfl ?_
          exact h
        · have h := h.2 hc
          refine w_aload_n rfl rfl rfl ?_
          refine w_aload_n rfl rfl rfl ?_
          refine w_getR rfl rfl fl_Catalog_28 rfl rfl ?_
          refine w_iload_n rfl rfl rfl ?_
          refine w_iaload rfl rfl rfl h.1 ?_
          have h := h.2
          refine w_put rfl rfl fl_Catalog_45 fw_Catalog_8 rfl rfl ?_
          refine w_iinc (v := 1) _ rfl rfl (by decide) rfl rfl (by decide) rfl ?_
          refine w_goto 2 rfl rfl rfl ?_
          exact h

theorem f_Catalog_findMain {G : px_G} {d : Nat} {S : px_S} {Q : Option Value → px_S → Prop}
    (h : px_w G px_Zc (d + 1) m_Catalog_findMain 2 [.ref 24, .int 0] [] S Q) :
    px_M G px_Zc (d + 1) m_Catalog_findMain [.ref 24] S Q :=
  px_in (Or.inr ⟨_, _, _, _, _, rfl, rfl, rfl, rfl⟩) (by decide) (Nat.le_of_ble_eq_true rfl) (px_en 1 rfl) (e_Catalog_findMain_0 h)

set_option maxRecDepth 100000 in
theorem e_Catalog_isMain_0 {G : px_G} {d : Nat} {x1 : Int32} {S : px_S} {Q : Option Value → px_S → Prop}
    (h : px_I G px_Zc d m_Packets_body [.ref 22, .int x1] S (fun r2 S1 => px_I G px_Zc d m_Packets_bodySize [.ref 22, .int x1] S1 (fun r4 S3 => px_I G px_Zc d m_Row_get [.ref 10, .int (r2 + 1)] S3 (fun r6 S5 => ((r6 < 1 → Q (some (.int 0)) S5) ∧ (¬ (r6 < 1) → ((3 < r6 → Q (some (.int 0)) S5) ∧ (¬ (3 < r6) → ((¬ r4 = (2 + r6) → Q (some (.int 0)) S5) ∧ (r4 = (2 + r6) → px_I G px_Zc d m_Row_get [.ref 10, .int r2] S5 (fun r8 S7 => ((r8 = 8 → px_w G px_Zc (d + 1) m_Catalog_isMain 71 [.ref 24, .int x1, .int r2, .int r4, .int r6, .int 0, .int 0, .null] [] S7 Q) ∧ (¬ r8 = 8 → Q (some (.int 0)) S7))))))))))))) :
    px_w G px_Zc (d + 1) m_Catalog_isMain 0 [.ref 24, .int x1, .null, .null, .null, .null, .null, .null] [] S Q := by
  refine w_aload_n rfl rfl rfl ?_
  refine w_getR rfl rfl fl_Catalog_9 rfl rfl ?_
  refine w_iload_n rfl rfl rfl ?_
  refine w_callI h cs_Catalog_isMain_5 rfl rfl (Nat.le_of_ble_eq_true rfl) rfl (fun r2 S1 h => ?_)
  refine w_istore_n _ rfl rfl (by decide) rfl rfl ?_
  refine w_aload_n rfl rfl rfl ?_
  refine w_getR rfl rfl fl_Catalog_9 rfl rfl ?_
  refine w_iload_n rfl rfl rfl ?_
  refine w_callI h cs_Catalog_isMain_14 rfl rfl (Nat.le_of_ble_eq_true rfl) rfl (fun r4 S3 h => ?_)
  refine w_istore_n _ rfl rfl (by decide) rfl rfl ?_
  refine w_aload_n rfl rfl rfl ?_
  refine w_getR rfl rfl fl_Catalog_21 rfl rfl ?_
  refine w_iload_n rfl rfl rfl ?_
  refine w_iconst (v := 1) rfl rfl (by decide) ?_
  refine w_iadd rfl rfl ?_
  refine w_callI h cs_Catalog_isMain_25 rfl rfl (Nat.le_of_ble_eq_true rfl) rfl (fun r6 S5 h => ?_)
  refine w_istore _ rfl rfl (by decide) rfl rfl ?_
  refine w_iload rfl rfl rfl ?_
  refine w_iconst (v := 1) rfl rfl (by decide) ?_
  refine w_if_icmplt 63 rfl rfl rfl (fun hc => ?_) (fun hc => ?_)
  · have h := h.1 hc
    refine w_iconst (v := 0) rfl rfl (by decide) ?_
    exact w_zreturn rfl rfl rfl (Or.inl rfl) h
  · have h := h.2 hc
    refine w_iload rfl rfl rfl ?_
    refine w_iconst (v := 3) rfl rfl (by decide) ?_
    refine w_if_icmpgt 63 rfl rfl rfl (fun hc => ?_) (fun hc => ?_)
    · have h := h.1 hc
      refine w_iconst (v := 0) rfl rfl (by decide) ?_
      exact w_zreturn rfl rfl rfl (Or.inl rfl) h
    · have h := h.2 hc
      refine w_iload_n rfl rfl rfl ?_
      refine w_iconst (v := 2) rfl rfl (by decide) ?_
      refine w_iload rfl rfl rfl ?_
      refine w_iadd rfl rfl ?_
      refine w_if_icmpne 63 rfl rfl rfl (fun hc => ?_) (fun hc => ?_)
      · have h := h.1 hc
        refine w_iconst (v := 0) rfl rfl (by decide) ?_
        exact w_zreturn rfl rfl rfl (Or.inl rfl) h
      · have h := h.2 hc
        refine w_aload_n rfl rfl rfl ?_
        refine w_getR rfl rfl fl_Catalog_21 rfl rfl ?_
        refine w_iload_n rfl rfl rfl ?_
        refine w_callI h cs_Catalog_isMain_55 rfl rfl (Nat.le_of_ble_eq_true rfl) rfl (fun r8 S7 h => ?_)
        refine w_bipush (v := 8) rfl rfl (by decide) ?_
        refine w_if_icmpeq 65 rfl rfl rfl (fun hc => ?_) (fun hc => ?_)
        · have h := h.1 hc
          refine w_iconst (v := 0) rfl rfl (by decide) ?_
          refine w_istore _ rfl rfl (by decide) rfl rfl ?_
          refine w_iconst (v := 0) rfl rfl (by decide) ?_
          refine w_istore _ rfl rfl (by decide) rfl rfl ?_
          exact h
        · have h := h.2 hc
          refine w_iconst (v := 0) rfl rfl (by decide) ?_
          exact w_zreturn rfl rfl rfl (Or.inl rfl) h

set_option maxRecDepth 100000 in
theorem e_Catalog_isMain_71 {G : px_G} {d : Nat} {x1 x2 x3 x4 x5 x6 : Int32} {S : px_S} {Q : Option Value → px_S → Prop}
    (h : ((x4 ≤ x6 → ((x5 ≤ 12 → px_V G px_Zc d m_Sum_of [.ref 18, .ref 10, .int x2, .int x3] S (fun S9 => px_I G px_Zc d m_Sum_standsIn [.ref 18, .ref 10, .int (x1 + 22), .int 4] S9 (fun r11 S10 => ((r11 = 0 ∨ r11 = 1) ∧ Q (some (.int r11)) S10)))) ∧ (¬ (x5 ≤ 12) → Q (some (.int 0)) S))) ∧ (¬ (x4 ≤ x6) → px_I G px_Zc d m_Row_get [.ref 10, .int ((x2 + 2) + x6)] S (fun r13 S12 => ((r13 ≤ 40 → px_I G px_Zc d m_PV_slicesOf [.int r13] S12 (fun r15 S14 => px_w G px_Zc (d + 1) m_Catalog_isMain 71 [.ref 24, .int x1, .int x2, .int x3, .int x4, .int (x5 + r15), .int (x6 + 1), .null] [] S14 Q)) ∧ (¬ (r13 ≤ 40) → Q (some (.int 0)) S12)))))) :
    px_w G px_Zc (d + 1) m_Catalog_isMain 71 [.ref 24, .int x1, .int x2, .int x3, .int x4, .int x5, .int x6, .null] [] S Q := by
  refine w_iload rfl rfl rfl ?_
  refine w_iload rfl rfl rfl ?_
  refine w_if_icmpge 118 rfl rfl rfl (fun hc => ?_) (fun hc => ?_)
  · have h := h.1 hc
    refine w_iload rfl rfl rfl ?_
    refine w_bipush (v := 12) rfl rfl (by decide) ?_
    refine w_if_icmple 127 rfl rfl rfl (fun hc => ?_) (fun hc => ?_)
    · have h := h.1 hc
      refine w_aload_n rfl rfl rfl ?_
      refine w_getR rfl rfl fl_Catalog_24 rfl rfl ?_
      refine w_aload_n rfl rfl rfl ?_
      refine w_getR rfl rfl fl_Catalog_21 rfl rfl ?_
      refine w_iload_n rfl rfl rfl ?_
      refine w_iload_n rfl rfl rfl ?_
      refine w_callV h cs_Catalog_isMain_137 rfl rfl (Nat.le_of_ble_eq_true rfl) rfl (fun S9 h => ?_)
      refine w_aload_n rfl rfl rfl ?_
      refine w_getR rfl rfl fl_Catalog_24 rfl rfl ?_
      refine w_aload_n rfl rfl rfl ?_
      refine w_getR rfl rfl fl_Catalog_21 rfl rfl ?_
      refine w_iload_n rfl rfl rfl ?_
      refine w_bipush (v := 22) rfl rfl (by decide) ?_
      refine w_iadd rfl rfl ?_
      refine w_iconst (v := 4) rfl rfl (by decide) ?_
      refine w_callI h cs_Catalog_isMain_153 rfl rfl (Nat.le_of_ble_eq_true rfl) rfl (fun r11 S10 h => ?_)
      exact w_zreturn rfl rfl rfl h.1 h.2
    · have h := h.2 hc
      refine w_iconst (v := 0) rfl rfl (by decide) ?_
      exact w_zreturn rfl rfl rfl (Or.inl rfl) h
  · have h := h.2 hc
    refine w_aload_n rfl rfl rfl ?_
    refine w_getR rfl rfl fl_Catalog_21 rfl rfl ?_
    refine w_iload_n rfl rfl rfl ?_
    refine w_iconst (v := 2) rfl rfl (by decide) ?_
    refine w_iadd rfl rfl ?_
    refine w_iload rfl rfl rfl ?_
    refine w_iadd rfl rfl ?_
    refine w_callI h cs_Catalog_isMain_88 rfl rfl (Nat.le_of_ble_eq_true rfl) rfl (fun r13 S12 h => ?_)
    refine w_istore _ rfl rfl (by decide) rfl rfl ?_
    refine w_iload rfl rfl rfl ?_
    refine w_bipush (v := 40) rfl rfl (by decide) ?_
    refine w_if_icmple 102 rfl rfl rfl (fun hc => ?_) (fun hc => ?_)
    · have h := h.1 hc
      refine w_iload rfl rfl rfl ?_
      refine w_iload rfl rfl rfl ?_
      refine w_callI h cs_Catalog_isMain_106 rfl rfl (Nat.le_of_ble_eq_true rfl) rfl (fun r15 S14 h => ?_)
      refine w_iadd rfl rfl ?_
      refine w_istore _ rfl rfl (by decide) rfl rfl ?_
      refine w_iinc (v := 1) _ rfl rfl (by decide) rfl rfl (by decide) rfl ?_
      refine w_goto 71 rfl rfl rfl ?_
      refine w_null 7 _ rfl ?_
      exact h
    · have h := h.2 hc
      refine w_iconst (v := 0) rfl rfl (by decide) ?_
      exact w_zreturn rfl rfl rfl (Or.inl rfl) h

theorem f_Catalog_isMain {G : px_G} {d : Nat} {x1 : Int32} {S : px_S} {Q : Option Value → px_S → Prop}
    (h : px_I G px_Zc d m_Packets_body [.ref 22, .int x1] S (fun r2 S1 => px_I G px_Zc d m_Packets_bodySize [.ref 22, .int x1] S1 (fun r4 S3 => px_I G px_Zc d m_Row_get [.ref 10, .int (r2 + 1)] S3 (fun r6 S5 => ((r6 < 1 → Q (some (.int 0)) S5) ∧ (¬ (r6 < 1) → ((3 < r6 → Q (some (.int 0)) S5) ∧ (¬ (3 < r6) → ((¬ r4 = (2 + r6) → Q (some (.int 0)) S5) ∧ (r4 = (2 + r6) → px_I G px_Zc d m_Row_get [.ref 10, .int r2] S5 (fun r8 S7 => ((r8 = 8 → px_w G px_Zc (d + 1) m_Catalog_isMain 71 [.ref 24, .int x1, .int r2, .int r4, .int r6, .int 0, .int 0, .null] [] S7 Q) ∧ (¬ r8 = 8 → Q (some (.int 0)) S7))))))))))))) :
    px_M G px_Zc (d + 1) m_Catalog_isMain [.ref 24, .int x1] S Q :=
  px_in (Or.inr ⟨_, _, _, _, _, rfl, rfl, rfl, rfl⟩) (by decide) (Nat.le_of_ble_eq_true rfl) (px_en 6 rfl) (e_Catalog_isMain_0 h)

set_option maxRecDepth 100000 in
theorem e_Catalog_countPacket_0 {G : px_G} {d : Nat} {x1 : Int32} {S : px_S} {Q : Option Value → px_S → Prop}
    (h : px_I G px_Zc d m_Packets_bodySize [.ref 22, .int x1] S (fun r2 S1 => ((r2 < 1 → Q none S1) ∧ (¬ (r2 < 1) → px_I G px_Zc d m_Packets_haveSameSet [.ref 22, .int x1, .int (S1 24 8)] S1 (fun r4 S3 => ((¬ r4 = 0 → px_I G px_Zc d m_Packets_body [.ref 22, .int x1] S3 (fun r6 S5 => px_I G px_Zc d m_Row_get [.ref 10, .int r6] S5 (fun r8 S7 => px_I G px_Zc d m_Catalog_fileCount [.ref 24] S7 (fun r10 S9 => ((r10 ≤ r8 → px_w G px_Zc (d + 1) m_Catalog_countPacket 65 [.ref 24, .int x1, .int r2, .int r6, .int r8, .int 0] [] S9 Q) ∧ (¬ (r10 ≤ r8) → px_w G px_Zc (d + 1) m_Catalog_countPacket 65 [.ref 24, .int x1, .int r2, .int r6, .int r8, .int 1] [] S9 Q)))))) ∧ (r4 = 0 → Q none S3))))))) :
    px_w G px_Zc (d + 1) m_Catalog_countPacket 0 [.ref 24, .int x1, .null, .null, .null, .null] [] S Q := by
  refine w_aload_n rfl rfl rfl ?_
  refine w_getR rfl rfl fl_Catalog_9 rfl rfl ?_
  refine w_iload_n rfl rfl rfl ?_
  refine w_callI h cs_Catalog_countPacket_5 rfl rfl (Nat.le_of_ble_eq_true rfl) rfl (fun r2 S1 h => ?_)
  refine w_istore_n _ rfl rfl (by decide) rfl rfl ?_
  refine w_iload_n rfl rfl rfl ?_
  refine w_iconst (v := 1) rfl rfl (by decide) ?_
  refine w_if_icmplt 29 rfl rfl rfl (fun hc => ?_) (fun hc => ?_)
  · have h := h.1 hc
    exact w_return rfl rfl rfl h
  · have h := h.2 hc
    refine w_aload_n rfl rfl rfl ?_
    refine w_getR rfl rfl fl_Catalog_9 rfl rfl ?_
    refine w_iload_n rfl rfl rfl ?_
    refine w_aload_n rfl rfl rfl ?_
    refine w_getI rfl rfl fl_Catalog_45 rfl rfl ?_
    refine w_callI h cs_Catalog_countPacket_23 rfl rfl (Nat.le_of_ble_eq_true rfl) rfl (fun r4 S3 h => ?_)
    refine w_ifne 30 rfl rfl rfl (fun hc => ?_) (fun hc => ?_)
    · have h := h.1 hc
      refine w_aload_n rfl rfl rfl ?_
      refine w_getR rfl rfl fl_Catalog_9 rfl rfl ?_
      refine w_iload_n rfl rfl rfl ?_
      refine w_callI h cs_Catalog_countPacket_35 rfl rfl (Nat.le_of_ble_eq_true rfl) rfl (fun r6 S5 h => ?_)
      refine w_istore_n _ rfl rfl (by decide) rfl rfl ?_
      refine w_aload_n rfl rfl rfl ?_
      refine w_getR rfl rfl fl_Catalog_21 rfl rfl ?_
      refine w_iload_n rfl rfl rfl ?_
      refine w_callI h cs_Catalog_countPacket_44 rfl rfl (Nat.le_of_ble_eq_true rfl) rfl (fun r8 S7 h => ?_)
      refine w_istore _ rfl rfl (by decide) rfl rfl ?_
      refine w_iload rfl rfl rfl ?_
      refine w_aload_n rfl rfl rfl ?_
      refine w_callI h cs_Catalog_countPacket_52 rfl rfl (Nat.le_of_ble_eq_true rfl) rfl (fun r10 S9 h => ?_)
      refine w_if_icmpge 62 rfl rfl rfl (fun hc => ?_) (fun hc => ?_)
      · have h := h.1 hc
        refine w_iconst (v := 0) rfl rfl (by decide) ?_
        refine w_istore _ rfl rfl (by decide) rfl rfl ?_
        exact h
      · have h := h.2 hc
        refine w_iconst (v := 1) rfl rfl (by decide) ?_
        refine w_goto 63 rfl rfl rfl ?_
        refine w_istore _ rfl rfl (by decide) rfl rfl ?_
        exact h
    · have h := h.2 hc
      exact w_return rfl rfl rfl h

set_option maxRecDepth 100000 in
theorem e_Catalog_countPacket_65 {G : px_G} {d : Nat} {x1 x2 x3 x4 x5 : Int32} {S : px_S} {Q : Option Value → px_S → Prop}
    (h : px_I G px_Zc d m_Packets_kind [.ref 22, .int x1] S (fun r12 S11 => ((r12 = 70 → ((x5 = 0 → Q none S11) ∧ (¬ x5 = 0 → ((¬ x2 = 18 → Q none S11) ∧ (x2 = 18 → px_I G px_Zc d m_Row_get [.ref 10, .int (x3 + 1)] S11 (fun r14 S13 => px_I G px_Zc d m_Catalog_toldSize [.ref 24, .int x4] S13 (fun r16 S15 => ((¬ r14 = r16 → Q none S15) ∧ (r14 = r16 → px_I G px_Zc d m_Catalog_keepFirst [.ref 24, .ref 26, .int x4, .int x3] S15 (fun r18 S17 => Q none S17)))))))))) ∧ (r12 = 73 → ((x5 = 0 → Q none S11) ∧ (¬ x5 = 0 → px_I G px_Zc d m_Catalog_toldSize [.ref 24, .int x4] S11 (fun r20 S19 => px_I G px_Zc d m_PV_slicesOf [.int r20] S19 (fun r22 S21 => ((¬ x2 = (1 + (20 * r22)) → Q none S21) ∧ (x2 = (1 + (20 * r22)) → px_I G px_Zc d m_Catalog_keepFirst [.ref 24, .ref 27, .int x4, .int x3] S21 (fun r24 S23 => Q none S23)))))))) ∧ (r12 = 82 → ((¬ x2 = 9 → Q none S11) ∧ (x2 = 9 → px_I G px_Zc d m_Catalog_keepFirst [.ref 24, .ref 28, .int x4, .int x3] S11 (fun r26 S25 => ((r26 = 0 → Q none S25) ∧ (¬ r26 = 0 → Q none (px_u S25 24 10 ((S25 24 10) + 1)))))))) ∧ ((¬ r12 = 70 ∧ ¬ r12 = 73 ∧ ¬ r12 = 82) → Q none S11)))) :
    px_w G px_Zc (d + 1) m_Catalog_countPacket 65 [.ref 24, .int x1, .int x2, .int x3, .int x4, .int x5] [] S Q := by
  refine w_aload_n rfl rfl rfl ?_
  refine w_getR rfl rfl fl_Catalog_9 rfl rfl ?_
  refine w_iload_n rfl rfl rfl ?_
  refine w_callI h cs_Catalog_countPacket_70 rfl rfl (Nat.le_of_ble_eq_true rfl) rfl (fun r12 S11 h => ?_)
  refine w_switch3 (k1 := 70) (k2 := 73) (k3 := 82) 108 153 191 224 rfl (by decide) (by decide) (by decide) (by decide) (by decide) rfl rfl rfl rfl (fun hc => ?_) (fun hc => ?_) (fun hc => ?_) (fun hc => ?_)
  · have h := h.1 hc
    refine w_iload rfl rfl rfl ?_
    refine w_ifeq 224 rfl rfl rfl (fun hc => ?_) (fun hc => ?_)
    · have h := h.1 hc
      exact w_return rfl rfl rfl h
    · have h := h.2 hc
      refine w_iload_n rfl rfl rfl ?_
      refine w_bipush (v := 18) rfl rfl (by decide) ?_
      refine w_if_icmpne 224 rfl rfl rfl (fun hc => ?_) (fun hc => ?_)
      · have h := h.1 hc
        exact w_return rfl rfl rfl h
      · have h := h.2 hc
        refine w_aload_n rfl rfl rfl ?_
        refine w_getR rfl rfl fl_Catalog_21 rfl rfl ?_
        refine w_iload_n rfl rfl rfl ?_
        refine w_iconst (v := 1) rfl rfl (by decide) ?_
        refine w_iadd rfl rfl ?_
        refine w_callI h cs_Catalog_countPacket_126 rfl rfl (Nat.le_of_ble_eq_true rfl) rfl (fun r14 S13 h => ?_)
        refine w_aload_n rfl rfl rfl ?_
        refine w_iload rfl rfl rfl ?_
        refine w_callI h cs_Catalog_countPacket_132 rfl rfl (Nat.le_of_ble_eq_true rfl) rfl (fun r16 S15 h => ?_)
        refine w_if_icmpne 224 rfl rfl rfl (fun hc => ?_) (fun hc => ?_)
        · have h := h.1 hc
          exact w_return rfl rfl rfl h
        · have h := h.2 hc
          refine w_aload_n rfl rfl rfl ?_
          refine w_aload_n rfl rfl rfl ?_
          refine w_getR rfl rfl fl_Catalog_32 rfl rfl ?_
          refine w_iload rfl rfl rfl ?_
          refine w_iload_n rfl rfl rfl ?_
          refine w_callI h cs_Catalog_countPacket_146 rfl rfl (Nat.le_of_ble_eq_true rfl) rfl (fun r18 S17 h => ?_)
          refine w_pop rfl rfl rfl ?_
          refine w_goto 224 rfl rfl rfl ?_
          exact w_return rfl rfl rfl h
  · have h := h.2.1 hc
    refine w_iload rfl rfl rfl ?_
    refine w_ifeq 224 rfl rfl rfl (fun hc => ?_) (fun hc => ?_)
    · have h := h.1 hc
      exact w_return rfl rfl rfl h
    · have h := h.2 hc
      refine w_iload_n rfl rfl rfl ?_
      refine w_iconst (v := 1) rfl rfl (by decide) ?_
      refine w_bipush (v := 20) rfl rfl (by decide) ?_
      refine w_aload_n rfl rfl rfl ?_
      refine w_iload rfl rfl rfl ?_
      refine w_callI h cs_Catalog_countPacket_165 rfl rfl (Nat.le_of_ble_eq_true rfl) rfl (fun r20 S19 h => ?_)
      refine w_callI h cs_Catalog_countPacket_168 rfl rfl (Nat.le_of_ble_eq_true rfl) rfl (fun r22 S21 h => ?_)
      refine w_imul rfl rfl ?_
      refine w_iadd rfl rfl ?_
      refine w_if_icmpne 224 rfl rfl rfl (fun hc => ?_) (fun hc => ?_)
      · have h := h.1 hc
        exact w_return rfl rfl rfl h
      · have h := h.2 hc
        refine w_aload_n rfl rfl rfl ?_
        refine w_aload_n rfl rfl rfl ?_
        refine w_getR rfl rfl fl_Catalog_35 rfl rfl ?_
        refine w_iload rfl rfl rfl ?_
        refine w_iload_n rfl rfl rfl ?_
        refine w_callI h cs_Catalog_countPacket_184 rfl rfl (Nat.le_of_ble_eq_true rfl) rfl (fun r24 S23 h => ?_)
        refine w_pop rfl rfl rfl ?_
        refine w_goto 224 rfl rfl rfl ?_
        exact w_return rfl rfl rfl h
  · have h := h.2.2.1 hc
    refine w_iload_n rfl rfl rfl ?_
    refine w_bipush (v := 9) rfl rfl (by decide) ?_
    refine w_if_icmpne 224 rfl rfl rfl (fun hc => ?_) (fun hc => ?_)
    · have h := h.1 hc
      exact w_return rfl rfl rfl h
    · have h := h.2 hc
      refine w_aload_n rfl rfl rfl ?_
      refine w_aload_n rfl rfl rfl ?_
      refine w_getR rfl rfl fl_Catalog_38 rfl rfl ?_
      refine w_iload rfl rfl rfl ?_
      refine w_iload_n rfl rfl rfl ?_
      refine w_callI h cs_Catalog_countPacket_205 rfl rfl (Nat.le_of_ble_eq_true rfl) rfl (fun r26 S25 h => ?_)
      refine w_ifeq 224 rfl rfl rfl (fun hc => ?_) (fun hc => ?_)
      · have h := h.1 hc
        exact w_return rfl rfl rfl h
      · have h := h.2 hc
        refine w_aload_n rfl rfl rfl ?_
        refine w_dup rfl rfl rfl ?_
        refine w_getI rfl rfl fl_Catalog_51 rfl rfl ?_
        refine w_iconst (v := 1) rfl rfl (by decide) ?_
        refine w_iadd rfl rfl ?_
        refine w_put rfl rfl fl_Catalog_51 fw_Catalog_10 rfl rfl ?_
        refine w_goto 224 rfl rfl rfl ?_
        exact w_return rfl rfl rfl h
  · have h := h.2.2.2 hc
    exact w_return rfl rfl rfl h

theorem f_Catalog_countPacket {G : px_G} {d : Nat} {x1 : Int32} {S : px_S} {Q : Option Value → px_S → Prop}
    (h : px_I G px_Zc d m_Packets_bodySize [.ref 22, .int x1] S (fun r2 S1 => ((r2 < 1 → Q none S1) ∧ (¬ (r2 < 1) → px_I G px_Zc d m_Packets_haveSameSet [.ref 22, .int x1, .int (S1 24 8)] S1 (fun r4 S3 => ((¬ r4 = 0 → px_I G px_Zc d m_Packets_body [.ref 22, .int x1] S3 (fun r6 S5 => px_I G px_Zc d m_Row_get [.ref 10, .int r6] S5 (fun r8 S7 => px_I G px_Zc d m_Catalog_fileCount [.ref 24] S7 (fun r10 S9 => ((r10 ≤ r8 → px_w G px_Zc (d + 1) m_Catalog_countPacket 65 [.ref 24, .int x1, .int r2, .int r6, .int r8, .int 0] [] S9 Q) ∧ (¬ (r10 ≤ r8) → px_w G px_Zc (d + 1) m_Catalog_countPacket 65 [.ref 24, .int x1, .int r2, .int r6, .int r8, .int 1] [] S9 Q)))))) ∧ (r4 = 0 → Q none S3))))))) :
    px_M G px_Zc (d + 1) m_Catalog_countPacket [.ref 24, .int x1] S Q :=
  px_in (Or.inr ⟨_, _, _, _, _, rfl, rfl, rfl, rfl⟩) (by decide) (Nat.le_of_ble_eq_true rfl) (px_en 4 rfl) (e_Catalog_countPacket_0 h)

set_option maxRecDepth 100000 in
theorem e_Catalog_keepFirst_0 {G : px_G} {d : Nat} {a n : Nat} {x2 x3 : Int32} {S : px_S} {Q : Option Value → px_S → Prop} (hZ : px_Zc[a]? = some (.inl n))
    (h : ((x2 < 0 → Q (some (.int 0)) S) ∧ (¬ (x2 < 0) → (((Int32.ofNat n) ≤ x2 → Q (some (.int 0)) S) ∧ (¬ ((Int32.ofNat n) ≤ x2) → (vp_in x2 n ∧ (((S a x2.toNatClampNeg) = (-1) → (vp_in x2 n ∧ Q (some (.int 1)) (px_u (px_u S a x2.toNatClampNeg x3) 24 9 (((px_u S a x2.toNatClampNeg x3) 24 9) + 1)))) ∧ (¬ (S a x2.toNatClampNeg) = (-1) → Q (some (.int 0)) S)))))))) :
    px_w G px_Zc d m_Catalog_keepFirst 0 [.ref 24, .ref a, .int x2, .int x3] [] S Q := by
  refine w_iload_n rfl rfl rfl ?_
  refine w_iflt 17 rfl rfl rfl (fun hc => ?_) (fun hc => ?_)
  · have h := h.1 hc
    refine w_iconst (v := 0) rfl rfl (by decide) ?_
    exact w_zreturn rfl rfl rfl (Or.inl rfl) h
  · have h := h.2 hc
    refine w_iload_n rfl rfl rfl ?_
    refine w_aload_n rfl rfl rfl ?_
    refine w_alen rfl rfl hZ rfl ?_
    refine w_if_icmpge 17 rfl rfl rfl (fun hc => ?_) (fun hc => ?_)
    · have h := h.1 hc
      refine w_iconst (v := 0) rfl rfl (by decide) ?_
      exact w_zreturn rfl rfl rfl (Or.inl rfl) h
    · have h := h.2 hc
      refine w_aload_n rfl rfl rfl ?_
      refine w_iload_n rfl rfl rfl ?_
      refine w_iaload rfl rfl hZ h.1 ?_
      have h := h.2
      refine w_iconst (v := -1) rfl rfl (by decide) ?_
      refine w_if_icmpeq 19 rfl rfl rfl (fun hc => ?_) (fun hc => ?_)
      · have h := h.1 hc
        refine w_aload_n rfl rfl rfl ?_
        refine w_iload_n rfl rfl rfl ?_
        refine w_iload_n rfl rfl rfl ?_
        refine w_iastore rfl rfl hZ h.1 ?_
        have h := h.2
        refine w_aload_n rfl rfl rfl ?_
        refine w_dup rfl rfl rfl ?_
        refine w_getI rfl rfl fl_Catalog_48 rfl rfl ?_
        refine w_iconst (v := 1) rfl rfl (by decide) ?_
        refine w_iadd rfl rfl ?_
        refine w_put rfl rfl fl_Catalog_48 fw_Catalog_9 rfl rfl ?_
        refine w_iconst (v := 1) rfl rfl (by decide) ?_
        exact w_zreturn rfl rfl rfl (Or.inr rfl) h
      · have h := h.2 hc
        refine w_iconst (v := 0) rfl rfl (by decide) ?_
        exact w_zreturn rfl rfl rfl (Or.inl rfl) h

theorem f_Catalog_keepFirst {G : px_G} {d : Nat} {a n : Nat} {x2 x3 : Int32} {S : px_S} {Q : Option Value → px_S → Prop} (hZ : px_Zc[a]? = some (.inl n))
    (h : ((x2 < 0 → Q (some (.int 0)) S) ∧ (¬ (x2 < 0) → (((Int32.ofNat n) ≤ x2 → Q (some (.int 0)) S) ∧ (¬ ((Int32.ofNat n) ≤ x2) → (vp_in x2 n ∧ (((S a x2.toNatClampNeg) = (-1) → (vp_in x2 n ∧ Q (some (.int 1)) (px_u (px_u S a x2.toNatClampNeg x3) 24 9 (((px_u S a x2.toNatClampNeg x3) 24 9) + 1)))) ∧ (¬ (S a x2.toNatClampNeg) = (-1) → Q (some (.int 0)) S)))))))) :
    px_M G px_Zc d m_Catalog_keepFirst [.ref 24, .ref a, .int x2, .int x3] S Q :=
  px_in (Or.inr ⟨_, _, _, _, _, rfl, rfl, rfl, rfl⟩) (by decide) (Nat.le_of_ble_eq_true rfl) (px_en 0 rfl) (e_Catalog_keepFirst_0 hZ h)

