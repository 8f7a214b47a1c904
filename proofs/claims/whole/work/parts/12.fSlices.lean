set_option maxRecDepth 100000 in
theorem e_Slices_clear_0 {G : px_G} {d : Nat} {S : px_S} {Q : Option Value → px_S → Prop}
    (h : px_V G px_Zc d m_Row_clear [.ref 13] S (fun S1 => Q none (px_u S1 12 4 0))) :
    px_w G px_Zc (d + 1) m_Slices_clear 0 [.ref 12] [] S Q := by
  refine w_aload_n rfl rfl rfl ?_
  refine w_getR rfl rfl fl_Slices_20 rfl rfl ?_
  refine w_callV h cs_Slices_clear_4 rfl rfl (Nat.le_of_ble_eq_true rfl) rfl (fun S1 h => ?_)
  refine w_aload_n rfl rfl rfl ?_
  refine w_iconst (v := 0) rfl rfl (by decide) ?_
  refine w_put rfl rfl fl_Slices_30 fw_Slices_4 rfl rfl ?_
  exact w_return rfl rfl rfl h

theorem f_Slices_clear {G : px_G} {d : Nat} {S : px_S} {Q : Option Value → px_S → Prop}
    (h : px_V G px_Zc d m_Row_clear [.ref 13] S (fun S1 => Q none (px_u S1 12 4 0))) :
    px_M G px_Zc (d + 1) m_Slices_clear [.ref 12] S Q :=
  px_in (Or.inr ⟨_, _, _, _, _, rfl, rfl, rfl, rfl⟩) (by decide) (Nat.le_of_ble_eq_true rfl) (px_en 0 rfl) (e_Slices_clear_0 h)

set_option maxRecDepth 100000 in
theorem e_Slices_addFile_0 {G : px_G} {d : Nat} {o : Nat} {x2 : Int32} {S : px_S} {Q : Option Value → px_S → Prop}
    (h : (((S 12 4) < 3 → px_I G px_Zc d m_Row_size [.ref 13] S (fun r2 S1 => (vp_in (S 12 4) 3 ∧ (vp_in ((px_u S1 15 (S 12 4).toNatClampNeg r2) 12 4) 3 ∧ (∀ S3 : px_S, S3 = (px_u (px_u S1 15 (S 12 4).toNatClampNeg r2) 16 ((px_u S1 15 (S 12 4).toNatClampNeg r2) 12 4).toNatClampNeg x2) → px_I G px_Zc d m_PV_slicesOf [.int x2] (px_u S3 12 4 ((S3 12 4) + 1)) (fun r5 S4 => px_w G px_Zc (d + 1) m_Slices_addFile 56 [.ref 12, .ref o, .int x2, .int (8 * r5), .int 0] [] S4 Q)))))) ∧ (¬ ((S 12 4) < 3) → Q none S))) :
    px_w G px_Zc (d + 1) m_Slices_addFile 0 [.ref 12, .ref o, .int x2, .null, .null] [] S Q := by
  refine w_aload_n rfl rfl rfl ?_
  refine w_getI rfl rfl fl_Slices_30 rfl rfl ?_
  refine w_iconst (v := 3) rfl rfl (by decide) ?_
  refine w_if_icmplt 9 rfl rfl rfl (fun hc => ?_) (fun hc => ?_)
  · have h := h.1 hc
    refine w_aload_n rfl rfl rfl ?_
    refine w_getR rfl rfl fl_Slices_24 rfl rfl ?_
    refine w_aload_n rfl rfl rfl ?_
    refine w_getI rfl rfl fl_Slices_30 rfl rfl ?_
    refine w_aload_n rfl rfl rfl ?_
    refine w_getR rfl rfl fl_Slices_20 rfl rfl ?_
    refine w_callI h cs_Slices_addFile_21 rfl rfl (Nat.le_of_ble_eq_true rfl) rfl (fun r2 S1 h => ?_)
    refine w_iastore rfl rfl rfl h.1 ?_
    have h := h.2
    refine w_aload_n rfl rfl rfl ?_
    refine w_getR rfl rfl fl_Slices_27 rfl rfl ?_
    refine w_aload_n rfl rfl rfl ?_
    refine w_getI rfl rfl fl_Slices_30 rfl rfl ?_
    refine w_iload_n rfl rfl rfl ?_
    refine w_iastore rfl rfl rfl h.1 ?_
    have h := h.2
    have h := h _ rfl
    refine w_aload_n rfl rfl rfl ?_
    refine w_dup rfl rfl rfl ?_
    refine w_getI rfl rfl fl_Slices_30 rfl rfl ?_
    refine w_iconst (v := 1) rfl rfl (by decide) ?_
    refine w_iadd rfl rfl ?_
    refine w_put rfl rfl fl_Slices_30 fw_Slices_4 rfl rfl ?_
    refine w_bipush (v := 8) rfl rfl (by decide) ?_
    refine w_iload_n rfl rfl rfl ?_
    refine w_callI h cs_Slices_addFile_48 rfl rfl (Nat.le_of_ble_eq_true rfl) rfl (fun r5 S4 h => ?_)
    refine w_imul rfl rfl ?_
    refine w_istore_n _ rfl rfl (by decide) rfl rfl ?_
    refine w_iconst (v := 0) rfl rfl (by decide) ?_
    refine w_istore _ rfl rfl (by decide) rfl rfl ?_
    exact h
  · have h := h.2 hc
    exact w_return rfl rfl rfl h

set_option maxRecDepth 100000 in
theorem e_Slices_addFile_56 {G : px_G} {d : Nat} {o : Nat} {x2 x3 x4 : Int32} {S : px_S} {Q : Option Value → px_S → Prop}
    (h : ((x3 ≤ x4 → Q none S) ∧ (¬ (x3 ≤ x4) → ((x2 ≤ x4 → px_V G px_Zc d m_Row_append [.ref 13, .int 0] S (fun S6 => px_w G px_Zc (d + 1) m_Slices_addFile 56 [.ref 12, .ref o, .int x2, .int x3, .int (x4 + 1)] [] S6 Q)) ∧ (¬ (x2 ≤ x4) → px_I G px_Zc d m_Row_get [.ref o, .int x4] S (fun r8 S7 => px_V G px_Zc d m_Row_append [.ref 13, .int r8] S7 (fun S9 => px_w G px_Zc (d + 1) m_Slices_addFile 56 [.ref 12, .ref o, .int x2, .int x3, .int (x4 + 1)] [] S9 Q))))))) :
    px_w G px_Zc (d + 1) m_Slices_addFile 56 [.ref 12, .ref o, .int x2, .int x3, .int x4] [] S Q := by
  refine w_iload rfl rfl rfl ?_
  refine w_iload_n rfl rfl rfl ?_
  refine w_if_icmpge 91 rfl rfl rfl (fun hc => ?_) (fun hc => ?_)
  · have h := h.1 hc
    exact w_return rfl rfl rfl h
  · have h := h.2 hc
    refine w_aload_n rfl rfl rfl ?_
    refine w_getR rfl rfl fl_Slices_20 rfl rfl ?_
    refine w_iload rfl rfl rfl ?_
    refine w_iload_n rfl rfl rfl ?_
    refine w_if_icmpge 81 rfl rfl rfl (fun hc => ?_) (fun hc => ?_)
    · have h := h.1 hc
      refine w_iconst (v := 0) rfl rfl (by decide) ?_
      refine w_callV h cs_Slices_addFile_82 rfl rfl (Nat.le_of_ble_eq_true rfl) rfl (fun S6 h => ?_)
      refine w_iinc (v := 1) _ rfl rfl (by decide) rfl rfl (by decide) rfl ?_
      refine w_goto 56 rfl rfl rfl ?_
      exact h
    · have h := h.2 hc
      refine w_aload_n rfl rfl rfl ?_
      refine w_iload rfl rfl rfl ?_
      refine w_callI h cs_Slices_addFile_75 rfl rfl (Nat.le_of_ble_eq_true rfl) rfl (fun r8 S7 h => ?_)
      refine w_goto 82 rfl rfl rfl ?_
      refine w_callV h cs_Slices_addFile_82 rfl rfl (Nat.le_of_ble_eq_true rfl) rfl (fun S9 h => ?_)
      refine w_iinc (v := 1) _ rfl rfl (by decide) rfl rfl (by decide) rfl ?_
      refine w_goto 56 rfl rfl rfl ?_
      exact h

theorem f_Slices_addFile {G : px_G} {d : Nat} {o : Nat} {x2 : Int32} {S : px_S} {Q : Option Value → px_S → Prop}
    (h : (((S 12 4) < 3 → px_I G px_Zc d m_Row_size [.ref 13] S (fun r2 S1 => (vp_in (S 12 4) 3 ∧ (vp_in ((px_u S1 15 (S 12 4).toNatClampNeg r2) 12 4) 3 ∧ (∀ S3 : px_S, S3 = (px_u (px_u S1 15 (S 12 4).toNatClampNeg r2) 16 ((px_u S1 15 (S 12 4).toNatClampNeg r2) 12 4).toNatClampNeg x2) → px_I G px_Zc d m_PV_slicesOf [.int x2] (px_u S3 12 4 ((S3 12 4) + 1)) (fun r5 S4 => px_w G px_Zc (d + 1) m_Slices_addFile 56 [.ref 12, .ref o, .int x2, .int (8 * r5), .int 0] [] S4 Q)))))) ∧ (¬ ((S 12 4) < 3) → Q none S))) :
    px_M G px_Zc (d + 1) m_Slices_addFile [.ref 12, .ref o, .int x2] S Q :=
  px_in (Or.inr ⟨_, _, _, _, _, rfl, rfl, rfl, rfl⟩) (by decide) (Nat.le_of_ble_eq_true rfl) (px_en 2 rfl) (e_Slices_addFile_0 h)

set_option maxRecDepth 100000 in
theorem e_Slices_storeInto_0 {G : px_G} {d : Nat} {S : px_S} {Q : Option Value → px_S → Prop}
    (h : px_w G px_Zc (d + 1) m_Slices_storeInto 2 [.ref 12, .ref 3, .int 0] [] S Q) :
    px_w G px_Zc (d + 1) m_Slices_storeInto 0 [.ref 12, .ref 3, .null] [] S Q := by
  refine w_iconst (v := 0) rfl rfl (by decide) ?_
  refine w_istore_n _ rfl rfl (by decide) rfl rfl ?_
  exact h

set_option maxRecDepth 100000 in
theorem e_Slices_storeInto_2 {G : px_G} {d : Nat} {x2 : Int32} {S : px_S} {Q : Option Value → px_S → Prop}
    (h : (((S 12 4) ≤ x2 → Q none S) ∧ (¬ ((S 12 4) ≤ x2) → ((3 ≤ x2 → Q none S) ∧ (¬ (3 ≤ x2) → (vp_in x2 3 ∧ (vp_in x2 3 ∧ (vp_in x2 3 ∧ px_V G px_Zc d m_Row_become [.ref (px_rf.getD x2.toNatClampNeg 0), .ref 13, .int (S 15 x2.toNatClampNeg), .int (S 16 x2.toNatClampNeg)] S (fun S1 => px_w G px_Zc (d + 1) m_Slices_storeInto 2 [.ref 12, .ref 3, .int (x2 + 1)] [] S1 Q))))))))) :
    px_w G px_Zc (d + 1) m_Slices_storeInto 2 [.ref 12, .ref 3, .int x2] [] S Q := by
  refine w_iload_n rfl rfl rfl ?_
  refine w_aload_n rfl rfl rfl ?_
  refine w_getI rfl rfl fl_Slices_30 rfl rfl ?_
  refine w_if_icmpge 44 rfl rfl rfl (fun hc => ?_) (fun hc => ?_)
  · have h := h.1 hc
    exact w_return rfl rfl rfl h
  · have h := h.2 hc
    refine w_iload_n rfl rfl rfl ?_
    refine w_aload_n rfl rfl rfl ?_
    refine w_alenR (v := 3) (ty := .object "ParityVolume$Row") rfl rfl rfl (fun _ => rfl) (by decide) ?_
    refine w_if_icmpge 44 rfl rfl rfl (fun hc => ?_) (fun hc => ?_)
    · have h := h.1 hc
      exact w_return rfl rfl rfl h
    · have h := h.2 hc
      refine w_aload_n rfl rfl rfl ?_
      refine w_iload_n rfl rfl rfl ?_
      refine w_aaload (ty := .object "ParityVolume$Row") rfl rfl rfl (fun _ => rfl) rfl h.1 ?_
      have h := h.2
      refine w_aload_n rfl rfl rfl ?_
      refine w_getR rfl rfl fl_Slices_20 rfl rfl ?_
      refine w_aload_n rfl rfl rfl ?_
      refine w_getR rfl rfl fl_Slices_24 rfl rfl ?_
      refine w_iload_n rfl rfl rfl ?_
      refine w_iaload rfl rfl rfl h.1 ?_
      have h := h.2
      refine w_aload_n rfl rfl rfl ?_
      refine w_getR rfl rfl fl_Slices_27 rfl rfl ?_
      refine w_iload_n rfl rfl rfl ?_
      refine w_iaload rfl rfl rfl h.1 ?_
      have h := h.2
      refine w_callV h cs_Slices_storeInto_35 rfl rfl (Nat.le_of_ble_eq_true rfl) rfl (fun S1 h => ?_)
      refine w_iinc (v := 1) _ rfl rfl (by decide) rfl rfl (by decide) rfl ?_
      refine w_goto 2 rfl rfl rfl ?_
      exact h

theorem f_Slices_storeInto {G : px_G} {d : Nat} {S : px_S} {Q : Option Value → px_S → Prop}
    (h : px_w G px_Zc (d + 1) m_Slices_storeInto 2 [.ref 12, .ref 3, .int 0] [] S Q) :
    px_M G px_Zc (d + 1) m_Slices_storeInto [.ref 12, .ref 3] S Q :=
  px_in (Or.inr ⟨_, _, _, _, _, rfl, rfl, rfl, rfl⟩) (by decide) (Nat.le_of_ble_eq_true rfl) (px_en 1 rfl) (e_Slices_storeInto_0 h)

set_option maxRecDepth 100000 in
theorem e_Slices_row_0 {G : px_G} {d : Nat} {S : px_S} {Q : Option Value → px_S → Prop}
    (h : Q (some (.ref 13)) S) :
    px_w G px_Zc d m_Slices_row 0 [.ref 12] [] S Q := by
  refine w_aload_n rfl rfl rfl ?_
  refine w_getR rfl rfl fl_Slices_20 rfl rfl ?_
  exact w_areturn rfl rfl rfl h

theorem f_Slices_row {G : px_G} {d : Nat} {S : px_S} {Q : Option Value → px_S → Prop}
    (h : Q (some (.ref 13)) S) :
    px_M G px_Zc d m_Slices_row [.ref 12] S Q :=
  px_in (Or.inr ⟨_, _, _, _, _, rfl, rfl, rfl, rfl⟩) (by decide) (Nat.le_of_ble_eq_true rfl) (px_en 0 rfl) (e_Slices_row_0 h)

set_option maxRecDepth 100000 in
theorem e_Slices_fileCount_0 {G : px_G} {d : Nat} {S : px_S} {Q : Option Value → px_S → Prop}
    (h : Q (some (.int (S 12 4))) S) :
    px_w G px_Zc d m_Slices_fileCount 0 [.ref 12] [] S Q := by
  refine w_aload_n rfl rfl rfl ?_
  refine w_getI rfl rfl fl_Slices_30 rfl rfl ?_
  exact w_ireturn rfl rfl rfl h

theorem f_Slices_fileCount {G : px_G} {d : Nat} {S : px_S} {Q : Option Value → px_S → Prop}
    (h : Q (some (.int (S 12 4))) S) :
    px_M G px_Zc d m_Slices_fileCount [.ref 12] S Q :=
  px_in (Or.inr ⟨_, _, _, _, _, rfl, rfl, rfl, rfl⟩) (by decide) (Nat.le_of_ble_eq_true rfl) (px_en 0 rfl) (e_Slices_fileCount_0 h)

set_option maxRecDepth 100000 in
theorem e_Slices_start_0 {G : px_G} {d : Nat} {x1 : Int32} {S : px_S} {Q : Option Value → px_S → Prop}
    (h : px_I G px_Zc d m_PV_isFile [.int x1] S (fun r2 S1 => ((r2 = 0 → Q (some (.int 0)) S1) ∧ (¬ r2 = 0 → (vp_in x1 3 ∧ Q (some (.int (S1 15 x1.toNatClampNeg))) S1))))) :
    px_w G px_Zc (d + 1) m_Slices_start 0 [.ref 12, .int x1] [] S Q := by
  refine w_iload_n rfl rfl rfl ?_
  refine w_callI h cs_Slices_start_1 rfl rfl (Nat.le_of_ble_eq_true rfl) rfl (fun r2 S1 h => ?_)
  refine w_ifeq 16 rfl rfl rfl (fun hc => ?_) (fun hc => ?_)
  · have h := h.1 hc
    refine w_iconst (v := 0) rfl rfl (by decide) ?_
    exact w_ireturn rfl rfl rfl h
  · have h := h.2 hc
    refine w_aload_n rfl rfl rfl ?_
    refine w_getR rfl rfl fl_Slices_24 rfl rfl ?_
    refine w_iload_n rfl rfl rfl ?_
    refine w_iaload rfl rfl rfl h.1 ?_
    have h := h.2
    refine w_goto 17 rfl rfl rfl ?_
    exact w_ireturn rfl rfl rfl h

theorem f_Slices_start {G : px_G} {d : Nat} {x1 : Int32} {S : px_S} {Q : Option Value → px_S → Prop}
    (h : px_I G px_Zc d m_PV_isFile [.int x1] S (fun r2 S1 => ((r2 = 0 → Q (some (.int 0)) S1) ∧ (¬ r2 = 0 → (vp_in x1 3 ∧ Q (some (.int (S1 15 x1.toNatClampNeg))) S1))))) :
    px_M G px_Zc (d + 1) m_Slices_start [.ref 12, .int x1] S Q :=
  px_in (Or.inr ⟨_, _, _, _, _, rfl, rfl, rfl, rfl⟩) (by decide) (Nat.le_of_ble_eq_true rfl) (px_en 0 rfl) (e_Slices_start_0 h)

set_option maxRecDepth 100000 in
theorem e_Slices_size_0 {G : px_G} {d : Nat} {x1 : Int32} {S : px_S} {Q : Option Value → px_S → Prop}
    (h : px_I G px_Zc d m_PV_isFile [.int x1] S (fun r2 S1 => ((r2 = 0 → Q (some (.int 0)) S1) ∧ (¬ r2 = 0 → (vp_in x1 3 ∧ Q (some (.int (S1 16 x1.toNatClampNeg))) S1))))) :
    px_w G px_Zc (d + 1) m_Slices_size 0 [.ref 12, .int x1] [] S Q := by
  refine w_iload_n rfl rfl rfl ?_
  refine w_callI h cs_Slices_size_1 rfl rfl (Nat.le_of_ble_eq_true rfl) rfl (fun r2 S1 h => ?_)
  refine w_ifeq 16 rfl rfl rfl (fun hc => ?_) (fun hc => ?_)
  · have h := h.1 hc
    refine w_iconst (v := 0) rfl rfl (by decide) ?_
    exact w_ireturn rfl rfl rfl h
  · have h := h.2 hc
    refine w_aload_n rfl rfl rfl ?_
    refine w_getR rfl rfl fl_Slices_27 rfl rfl ?_
    refine w_iload_n rfl rfl rfl ?_
    refine w_iaload rfl rfl rfl h.1 ?_
    have h := h.2
    refine w_goto 17 rfl rfl rfl ?_
    exact w_ireturn rfl rfl rfl h

theorem f_Slices_size {G : px_G} {d : Nat} {x1 : Int32} {S : px_S} {Q : Option Value → px_S → Prop}
    (h : px_I G px_Zc d m_PV_isFile [.int x1] S (fun r2 S1 => ((r2 = 0 → Q (some (.int 0)) S1) ∧ (¬ r2 = 0 → (vp_in x1 3 ∧ Q (some (.int (S1 16 x1.toNatClampNeg))) S1))))) :
    px_M G px_Zc (d + 1) m_Slices_size [.ref 12, .int x1] S Q :=
  px_in (Or.inr ⟨_, _, _, _, _, rfl, rfl, rfl, rfl⟩) (by decide) (Nat.le_of_ble_eq_true rfl) (px_en 0 rfl) (e_Slices_size_0 h)

set_option maxRecDepth 100000 in
theorem e_Slices_weigh_0 {G : px_G} {d : Nat} {x1 x2 : Int32} {S : px_S} {Q : Option Value → px_S → Prop}
    (h : px_w G px_Zc (d + 1) m_Slices_weigh 2 [.ref 12, .int x1, .int x2, .int 0, .null, .null, .null] [] S Q) :
    px_w G px_Zc (d + 1) m_Slices_weigh 0 [.ref 12, .int x1, .int x2, .null, .null, .null, .null] [] S Q := by
  refine w_iconst (v := 0) rfl rfl (by decide) ?_
  refine w_istore_n _ rfl rfl (by decide) rfl rfl ?_
  exact h

set_option maxRecDepth 100000 in
theorem e_Slices_weigh_2 {G : px_G} {d : Nat} {x1 x2 x3 : Int32} {S : px_S} {Q : Option Value → px_S → Prop}
    (h : ((4 ≤ x3 → px_I G px_Zc d m_Row_size [.ref 13] S (fun r2 S1 => px_w G px_Zc (d + 1) m_Slices_weigh 34 [.ref 12, .int x1, .int x2, .int (r2 / 8), .int 0, .null, .null] [] S1 Q)) ∧ (¬ (4 ≤ x3) → (vp_in x3 4 ∧ px_w G px_Zc (d + 1) m_Slices_weigh 2 [.ref 12, .int x1, .int x2, .int (x3 + 1), .null, .null, .null] [] (px_u S 17 x3.toNatClampNeg 0) Q)))) :
    px_w G px_Zc (d + 1) m_Slices_weigh 2 [.ref 12, .int x1, .int x2, .int x3, .null, .null, .null] [] S Q := by
  refine w_iload_n rfl rfl rfl ?_
  refine w_iconst (v := 4) rfl rfl (by decide) ?_
  refine w_if_icmpge 20 rfl rfl rfl (fun hc => ?_) (fun hc => ?_)
  · have h := h.1 hc
    refine w_aload_n rfl rfl rfl ?_
    refine w_getR rfl rfl fl_Slices_20 rfl rfl ?_
    refine w_callI h cs_Slices_weigh_24 rfl rfl (Nat.le_of_ble_eq_true rfl) rfl (fun r2 S1 h => ?_)
    refine w_bipush (v := 8) rfl rfl (by decide) ?_
    refine w_idiv rfl rfl (by decide) ?_
    refine w_istore_n _ rfl rfl (by decide) rfl rfl ?_
    refine w_iconst (v := 0) rfl rfl (by decide) ?_
    refine w_istore _ rfl rfl (by decide) rfl rfl ?_
    exact h
  · have h := h.2 hc
    refine w_aload_n rfl rfl rfl ?_
    refine w_getR rfl rfl fl_Slices_9 rfl rfl ?_
    refine w_iload_n rfl rfl rfl ?_
    refine w_iconst (v := 0) rfl rfl (by decide) ?_
    refine w_iastore rfl rfl rfl h.1 ?_
    have h := h.2
    refine w_iinc (v := 1) _ rfl rfl (by decide) rfl rfl (by decide) rfl ?_
    refine w_goto 2 rfl rfl rfl ?_
    exact h

set_option maxRecDepth 100000 in
theorem e_Slices_weigh_34 {G : px_G} {d : Nat} {x1 x2 x3 x4 : Int32} {S : px_S} {Q : Option Value → px_S → Prop}
    (h : ((x3 ≤ x4 → Q none S) ∧ (¬ (x3 ≤ x4) → ((¬ ((px_ushr x2 x4) &&& 1) = 0 → px_w G px_Zc (d + 1) m_Slices_weigh 34 [.ref 12, .int x1, .int x2, .int x3, .int (x4 + 1), .null, .null] [] S Q) ∧ (((px_ushr x2 x4) &&& 1) = 0 → px_I G px_Zc d m_Field_basePower [.int x4, .int x1] S (fun r4 S3 => px_w G px_Zc (d + 1) m_Slices_weigh 60 [.ref 12, .int x1, .int x2, .int x3, .int x4, .int r4, .int 0] [] S3 Q)))))) :
    px_w G px_Zc (d + 1) m_Slices_weigh 34 [.ref 12, .int x1, .int x2, .int x3, .int x4, .null, .null] [] S Q := by
  refine w_iload rfl rfl rfl ?_
  refine w_iload_n rfl rfl rfl ?_
  refine w_if_icmpge 101 rfl rfl rfl (fun hc => ?_) (fun hc => ?_)
  · have h := h.1 hc
    exact w_return rfl rfl rfl h
  · have h := h.2 hc
    refine w_iload_n rfl rfl rfl ?_
    refine w_iload rfl rfl rfl ?_
    refine w_iushr rfl rfl ?_
    refine w_iconst (v := 1) rfl rfl (by decide) ?_
    refine w_iand rfl rfl ?_
    refine w_ifne 95 rfl rfl rfl (fun hc => ?_) (fun hc => ?_)
    · have h := h.1 hc
      refine w_iinc (v := 1) _ rfl rfl (by decide) rfl rfl (by decide) rfl ?_
      refine w_goto 34 rfl rfl rfl ?_
      exact h
    · have h := h.2 hc
      refine w_iload rfl rfl rfl ?_
      refine w_iload_n rfl rfl rfl ?_
      refine w_callI h cs_Slices_weigh_52 rfl rfl (Nat.le_of_ble_eq_true rfl) rfl (fun r4 S3 h => ?_)
      refine w_istore _ rfl rfl (by decide) rfl rfl ?_
      refine w_iconst (v := 0) rfl rfl (by decide) ?_
      refine w_istore _ rfl rfl (by decide) rfl rfl ?_
      exact h

set_option maxRecDepth 100000 in
theorem e_Slices_weigh_60 {G : px_G} {d : Nat} {x1 x2 x3 x4 x5 x6 : Int32} {S : px_S} {Q : Option Value → px_S → Prop}
    (h : ((4 ≤ x6 → px_w G px_Zc (d + 1) m_Slices_weigh 34 [.ref 12, .int x1, .int x2, .int x3, .int (x4 + 1), .null, .null] [] S Q) ∧ (¬ (4 ≤ x6) → (vp_in x6 4 ∧ px_I G px_Zc d m_Slices_number [.ref 12, .int x4, .int x6] S (fun r6 S5 => px_I G px_Zc d m_Field_times [.int r6, .int x5] S5 (fun r8 S7 => (vp_in x6 4 ∧ px_w G px_Zc (d + 1) m_Slices_weigh 60 [.ref 12, .int x1, .int x2, .int x3, .int x4, .int x5, .int (x6 + 1)] [] (px_u S7 17 x6.toNatClampNeg ((S 17 x6.toNatClampNeg) ^^^ r8)) Q))))))) :
    px_w G px_Zc (d + 1) m_Slices_weigh 60 [.ref 12, .int x1, .int x2, .int x3, .int x4, .int x5, .int x6] [] S Q := by
  refine w_iload rfl rfl rfl ?_
  refine w_iconst (v := 4) rfl rfl (by decide) ?_
  refine w_if_icmpge 95 rfl rfl rfl (fun hc => ?_) (fun hc => ?_)
  · have h := h.1 hc
    refine w_iinc (v := 1) _ rfl rfl (by decide) rfl rfl (by decide) rfl ?_
    refine w_goto 34 rfl rfl rfl ?_
    refine w_null 5 _ rfl ?_
    refine w_null 6 _ rfl ?_
    exact h
  · have h := h.2 hc
    refine w_aload_n rfl rfl rfl ?_
    refine w_getR rfl rfl fl_Slices_9 rfl rfl ?_
    refine w_iload rfl rfl rfl ?_
    refine w_dup2 rfl rfl rfl rfl ?_
    refine w_iaload rfl rfl rfl h.1 ?_
    have h := h.2
    refine w_aload_n rfl rfl rfl ?_
    refine w_iload rfl rfl rfl ?_
    refine w_iload rfl rfl rfl ?_
    refine w_callI h cs_Slices_weigh_79 rfl rfl (Nat.le_of_ble_eq_true rfl) rfl (fun r6 S5 h => ?_)
    refine w_iload rfl rfl rfl ?_
    refine w_callI h cs_Slices_weigh_84 rfl rfl (Nat.le_of_ble_eq_true rfl) rfl (fun r8 S7 h => ?_)
    refine w_ixor rfl rfl ?_
    refine w_iastore rfl rfl rfl h.1 ?_
    have h := h.2
    refine w_iinc (v := 1) _ rfl rfl (by decide) rfl rfl (by decide) rfl ?_
    refine w_goto 60 rfl rfl rfl ?_
    exact h

theorem f_Slices_weigh {G : px_G} {d : Nat} {x1 x2 : Int32} {S : px_S} {Q : Option Value → px_S → Prop}
    (h : px_w G px_Zc (d + 1) m_Slices_weigh 2 [.ref 12, .int x1, .int x2, .int 0, .null, .null, .null] [] S Q) :
    px_M G px_Zc (d + 1) m_Slices_weigh [.ref 12, .int x1, .int x2] S Q :=
  px_in (Or.inr ⟨_, _, _, _, _, rfl, rfl, rfl, rfl⟩) (by decide) (Nat.le_of_ble_eq_true rfl) (px_en 4 rfl) (e_Slices_weigh_0 h)

set_option maxRecDepth 100000 in
theorem e_Slices_weighed_0 {G : px_G} {d : Nat} {x1 : Int32} {S : px_S} {Q : Option Value → px_S → Prop}
    (h : ((x1 < 0 → Q (some (.int 0)) S) ∧ (¬ (x1 < 0) → ((4 ≤ x1 → Q (some (.int 0)) S) ∧ (¬ (4 ≤ x1) → (vp_in x1 4 ∧ Q (some (.int (S 17 x1.toNatClampNeg))) S)))))) :
    px_w G px_Zc d m_Slices_weighed 0 [.ref 12, .int x1] [] S Q := by
  refine w_iload_n rfl rfl rfl ?_
  refine w_iflt 18 rfl rfl rfl (fun hc => ?_) (fun hc => ?_)
  · have h := h.1 hc
    refine w_iconst (v := 0) rfl rfl (by decide) ?_
    exact w_ireturn rfl rfl rfl h
  · have h := h.2 hc
    refine w_iload_n rfl rfl rfl ?_
    refine w_iconst (v := 4) rfl rfl (by decide) ?_
    refine w_if_icmpge 18 rfl rfl rfl (fun hc => ?_) (fun hc => ?_)
    · have h := h.1 hc
      refine w_iconst (v := 0) rfl rfl (by decide) ?_
      exact w_ireturn rfl rfl rfl h
    · have h := h.2 hc
      refine w_aload_n rfl rfl rfl ?_
      refine w_getR rfl rfl fl_Slices_9 rfl rfl ?_
      refine w_iload_n rfl rfl rfl ?_
      refine w_iaload rfl rfl rfl h.1 ?_
      have h := h.2
      refine w_goto 19 rfl rfl rfl ?_
      exact w_ireturn rfl rfl rfl h

theorem f_Slices_weighed {G : px_G} {d : Nat} {x1 : Int32} {S : px_S} {Q : Option Value → px_S → Prop}
    (h : ((x1 < 0 → Q (some (.int 0)) S) ∧ (¬ (x1 < 0) → ((4 ≤ x1 → Q (some (.int 0)) S) ∧ (¬ (4 ≤ x1) → (vp_in x1 4 ∧ Q (some (.int (S 17 x1.toNatClampNeg))) S)))))) :
    px_M G px_Zc d m_Slices_weighed [.ref 12, .int x1] S Q :=
  px_in (Or.inr ⟨_, _, _, _, _, rfl, rfl, rfl, rfl⟩) (by decide) (Nat.le_of_ble_eq_true rfl) (px_en 0 rfl) (e_Slices_weighed_0 h)

set_option maxRecDepth 100000 in
theorem e_Slices_setNumber_0 {G : px_G} {d : Nat} {x1 x2 x3 : Int32} {S : px_S} {Q : Option Value → px_S → Prop}
    (h : px_I G px_Zc d m_Row_set [.ref 13, .int ((8 * x1) + (2 * x2)), .int (x3 &&& 255)] S (fun r2 S1 => px_I G px_Zc d m_Row_set [.ref 13, .int (((8 * x1) + (2 * x2)) + 1), .int ((px_ushr x3 8) &&& 255)] S1 (fun r4 S3 => Q none S3))) :
    px_w G px_Zc (d + 1) m_Slices_setNumber 0 [.ref 12, .int x1, .int x2, .int x3, .null] [] S Q := by
  refine w_bipush (v := 8) rfl rfl (by decide) ?_
  refine w_iload_n rfl rfl rfl ?_
  refine w_imul rfl rfl ?_
  refine w_iconst (v := 2) rfl rfl (by decide) ?_
  refine w_iload_n rfl rfl rfl ?_
  refine w_imul rfl rfl ?_
  refine w_iadd rfl rfl ?_
  refine w_istore _ rfl rfl (by decide) rfl rfl ?_
  refine w_aload_n rfl rfl rfl ?_
  refine w_getR rfl rfl fl_Slices_20 rfl rfl ?_
  refine w_iload rfl rfl rfl ?_
  refine w_iload_n rfl rfl rfl ?_
  refine w_sipush (v := 255) rfl rfl (by decide) ?_
  refine w_iand rfl rfl ?_
  refine w_callI h cs_Slices_setNumber_21 rfl rfl (Nat.le_of_ble_eq_true rfl) rfl (fun r2 S1 h => ?_)
  refine w_pop rfl rfl rfl ?_
  refine w_aload_n rfl rfl rfl ?_
  refine w_getR rfl rfl fl_Slices_20 rfl rfl ?_
  refine w_iload rfl rfl rfl ?_
  refine w_iconst (v := 1) rfl rfl (by decide) ?_
  refine w_iadd rfl rfl ?_
  refine w_iload_n rfl rfl rfl ?_
  refine w_bipush (v := 8) rfl rfl (by decide) ?_
  refine w_iushr rfl rfl ?_
  refine w_sipush (v := 255) rfl rfl (by decide) ?_
  refine w_iand rfl rfl ?_
  refine w_callI h cs_Slices_setNumber_41 rfl rfl (Nat.le_of_ble_eq_true rfl) rfl (fun r4 S3 h => ?_)
  refine w_pop rfl rfl rfl ?_
  exact w_return rfl rfl rfl h

theorem f_Slices_setNumber {G : px_G} {d : Nat} {x1 x2 x3 : Int32} {S : px_S} {Q : Option Value → px_S → Prop}
    (h : px_I G px_Zc d m_Row_set [.ref 13, .int ((8 * x1) + (2 * x2)), .int (x3 &&& 255)] S (fun r2 S1 => px_I G px_Zc d m_Row_set [.ref 13, .int (((8 * x1) + (2 * x2)) + 1), .int ((px_ushr x3 8) &&& 255)] S1 (fun r4 S3 => Q none S3))) :
    px_M G px_Zc (d + 1) m_Slices_setNumber [.ref 12, .int x1, .int x2, .int x3] S Q :=
  px_in (Or.inr ⟨_, _, _, _, _, rfl, rfl, rfl, rfl⟩) (by decide) (Nat.le_of_ble_eq_true rfl) (px_en 1 rfl) (e_Slices_setNumber_0 h)

set_option maxRecDepth 100000 in
theorem e_Slices_number_0 {G : px_G} {d : Nat} {x1 x2 : Int32} {S : px_S} {Q : Option Value → px_S → Prop}
    (h : px_I G px_Zc d m_Row_get [.ref 13, .int ((8 * x1) + (2 * x2))] S (fun r2 S1 => px_I G px_Zc d m_Row_get [.ref 13, .int (((8 * x1) + (2 * x2)) + 1)] S1 (fun r4 S3 => Q (some (.int (r2 ||| (px_shl r4 8)))) S3))) :
    px_w G px_Zc (d + 1) m_Slices_number 0 [.ref 12, .int x1, .int x2, .null] [] S Q := by
  refine w_bipush (v := 8) rfl rfl (by decide) ?_
  refine w_iload_n rfl rfl rfl ?_
  refine w_imul rfl rfl ?_
  refine w_iconst (v := 2) rfl rfl (by decide) ?_
  refine w_iload_n rfl rfl rfl ?_
  refine w_imul rfl rfl ?_
  refine w_iadd rfl rfl ?_
  refine w_istore_n _ rfl rfl (by decide) rfl rfl ?_
  refine w_aload_n rfl rfl rfl ?_
  refine w_getR rfl rfl fl_Slices_20 rfl rfl ?_
  refine w_iload_n rfl rfl rfl ?_
  refine w_callI h cs_Slices_number_14 rfl rfl (Nat.le_of_ble_eq_true rfl) rfl (fun r2 S1 h => ?_)
  refine w_aload_n rfl rfl rfl ?_
  refine w_getR rfl rfl fl_Slices_20 rfl rfl ?_
  refine w_iload_n rfl rfl rfl ?_
  refine w_iconst (v := 1) rfl rfl (by decide) ?_
  refine w_iadd rfl rfl ?_
  refine w_callI h cs_Slices_number_24 rfl rfl (Nat.le_of_ble_eq_true rfl) rfl (fun r4 S3 h => ?_)
  refine w_bipush (v := 8) rfl rfl (by decide) ?_
  refine w_ishl rfl rfl ?_
  refine w_ior rfl rfl ?_
  exact w_ireturn rfl rfl rfl h

theorem f_Slices_number {G : px_G} {d : Nat} {x1 x2 : Int32} {S : px_S} {Q : Option Value → px_S → Prop}
    (h : px_I G px_Zc d m_Row_get [.ref 13, .int ((8 * x1) + (2 * x2))] S (fun r2 S1 => px_I G px_Zc d m_Row_get [.ref 13, .int (((8 * x1) + (2 * x2)) + 1)] S1 (fun r4 S3 => Q (some (.int (r2 ||| (px_shl r4 8)))) S3))) :
    px_M G px_Zc (d + 1) m_Slices_number [.ref 12, .int x1, .int x2] S Q :=
  px_in (Or.inr ⟨_, _, _, _, _, rfl, rfl, rfl, rfl⟩) (by decide) (Nat.le_of_ble_eq_true rfl) (px_en 1 rfl) (e_Slices_number_0 h)

set_option maxRecDepth 100000 in
theorem e_Packets_row_0 {G : px_G} {d : Nat} {S : px_S} {Q : Option Value → px_S → Prop}
    (h : Q (some (.ref 10)) S) :
    px_w G px_Zc d m_Packets_row 0 [.ref 22] [] S Q := by
  refine w_aload_n rfl rfl rfl ?_
  refine w_getR rfl rfl fl_Packets_9 rfl rfl ?_
  exact w_areturn rfl rfl rfl h

theorem f_Packets_row {G : px_G} {d : Nat} {S : px_S} {Q : Option Value → px_S → Prop}
    (h : Q (some (.ref 10)) S) :
    px_M G px_Zc d m_Packets_row [.ref 22] S Q :=
  px_in (Or.inr ⟨_, _, _, _, _, rfl, rfl, rfl, rfl⟩) (by decide) (Nat.le_of_ble_eq_true rfl) (px_en 0 rfl) (e_Packets_row_0 h)

set_option maxRecDepth 100000 in
theorem e_Packets_kind_0 {G : px_G} {d : Nat} {x1 : Int32} {S : px_S} {Q : Option Value → px_S → Prop}
    (h : px_I G px_Zc d m_Row_get [.ref 10, .int (x1 + 3)] S (fun r2 S1 => Q (some (.int r2)) S1)) :
    px_w G px_Zc (d + 1) m_Packets_kind 0 [.ref 22, .int x1] [] S Q := by
  refine w_aload_n rfl rfl rfl ?_
  refine w_getR rfl rfl fl_Packets_9 rfl rfl ?_
  refine w_iload_n rfl rfl rfl ?_
  refine w_iconst (v := 3) rfl rfl (by decide) ?_
  refine w_iadd rfl rfl ?_
  refine w_callI h cs_Packets_kind_7 rfl rfl (Nat.le_of_ble_eq_true rfl) rfl (fun r2 S1 h => ?_)
  exact w_ireturn rfl rfl rfl h

theorem f_Packets_kind {G : px_G} {d : Nat} {x1 : Int32} {S : px_S} {Q : Option Value → px_S → Prop}
    (h : px_I G px_Zc d m_Row_get [.ref 10, .int (x1 + 3)] S (fun r2 S1 => Q (some (.int r2)) S1)) :
    px_M G px_Zc (d + 1) m_Packets_kind [.ref 22, .int x1] S Q :=
  px_in (Or.inr ⟨_, _, _, _, _, rfl, rfl, rfl, rfl⟩) (by decide) (Nat.le_of_ble_eq_true rfl) (px_en 0 rfl) (e_Packets_kind_0 h)

set_option maxRecDepth 100000 in
theorem e_Packets_body_0 {G : px_G} {d : Nat} {x1 : Int32} {S : px_S} {Q : Option Value → px_S → Prop}
    (h : Q (some (.int (x1 + 26))) S) :
    px_w G px_Zc d m_Packets_body 0 [.ref 22, .int x1] [] S Q := by
  refine w_iload_n rfl rfl rfl ?_
  refine w_bipush (v := 26) rfl rfl (by decide) ?_
  refine w_iadd rfl rfl ?_
  exact w_ireturn rfl rfl rfl h

theorem f_Packets_body {G : px_G} {d : Nat} {x1 : Int32} {S : px_S} {Q : Option Value → px_S → Prop}
    (h : Q (some (.int (x1 + 26))) S) :
    px_M G px_Zc d m_Packets_body [.ref 22, .int x1] S Q :=
  px_in (Or.inr ⟨_, _, _, _, _, rfl, rfl, rfl, rfl⟩) (by decide) (Nat.le_of_ble_eq_true rfl) (px_en 0 rfl) (e_Packets_body_0 h)

set_option maxRecDepth 100000 in
theorem e_Packets_bodySize_0 {G : px_G} {d : Nat} {x1 : Int32} {S : px_S} {Q : Option Value → px_S → Prop}
    (h : px_I G px_Zc d m_Row_get [.ref 10, .int (x1 + 4)] S (fun r2 S1 => px_I G px_Zc d m_Row_get [.ref 10, .int ((x1 + 4) + 1)] S1 (fun r4 S3 => Q (some (.int (r2 ||| (px_shl r4 8)))) S3))) :
    px_w G px_Zc (d + 1) m_Packets_bodySize 0 [.ref 22, .int x1] [] S Q := by
  refine w_aload_n rfl rfl rfl ?_
  refine w_getR rfl rfl fl_Packets_9 rfl rfl ?_
  refine w_iload_n rfl rfl rfl ?_
  refine w_iconst (v := 4) rfl rfl (by decide) ?_
  refine w_iadd rfl rfl ?_
  refine w_callI h cs_Packets_bodySize_7 rfl rfl (Nat.le_of_ble_eq_true rfl) rfl (fun r2 S1 h => ?_)
  refine w_aload_n rfl rfl rfl ?_
  refine w_getR rfl rfl fl_Packets_9 rfl rfl ?_
  refine w_iload_n rfl rfl rfl ?_
  refine w_iconst (v := 4) rfl rfl (by decide) ?_
  refine w_iadd rfl rfl ?_
  refine w_iconst (v := 1) rfl rfl (by decide) ?_
  refine w_iadd rfl rfl ?_
  refine w_callI h cs_Packets_bodySize_19 rfl rfl (Nat.le_of_ble_eq_true rfl) rfl (fun r4 S3 h => ?_)
  refine w_bipush (v := 8) rfl rfl (by decide) ?_
  refine w_ishl rfl rfl ?_
  refine w_ior rfl rfl ?_
  exact w_ireturn rfl rfl rfl h

theorem f_Packets_bodySize {G : px_G} {d : Nat} {x1 : Int32} {S : px_S} {Q : Option Value → px_S → Prop}
    (h : px_I G px_Zc d m_Row_get [.ref 10, .int (x1 + 4)] S (fun r2 S1 => px_I G px_Zc d m_Row_get [.ref 10, .int ((x1 + 4) + 1)] S1 (fun r4 S3 => Q (some (.int (r2 ||| (px_shl r4 8)))) S3))) :
    px_M G px_Zc (d + 1) m_Packets_bodySize [.ref 22, .int x1] S Q :=
  px_in (Or.inr ⟨_, _, _, _, _, rfl, rfl, rfl, rfl⟩) (by decide) (Nat.le_of_ble_eq_true rfl) (px_en 0 rfl) (e_Packets_bodySize_0 h)

set_option maxRecDepth 100000 in
theorem e_Packets_standsWhole_0 {G : px_G} {d : Nat} {x1 : Int32} {S : px_S} {Q : Option Value → px_S → Prop}
    (h : px_I G px_Zc d m_Row_get [.ref 10, .int x1] S (fun r2 S1 => ((¬ r2 = 80 → Q (some (.int 0)) S1) ∧ (r2 = 80 → px_I G px_Zc d m_Row_get [.ref 10, .int (x1 + 1)] S1 (fun r4 S3 => ((¬ r4 = 75 → Q (some (.int 0)) S3) ∧ (r4 = 75 → px_I G px_Zc d m_Row_get [.ref 10, .int (x1 + 2)] S3 (fun r6 S5 => ((r6 = 84 → px_I G px_Zc d m_Packets_body [.ref 22, .int x1] S5 (fun r8 S7 => px_I G px_Zc d m_Packets_bodySize [.ref 22, .int x1] S7 (fun r10 S9 => px_I G px_Zc d m_Row_size [.ref 10] S9 (fun r12 S11 => (((r8 + r10) ≤ r12 → px_V G px_Zc d m_Packets_sumUp [.ref 22, .int x1] S11 (fun S13 => px_I G px_Zc d m_Sum_standsIn [.ref 18, .ref 10, .int (x1 + 6), .int 16] S13 (fun r15 S14 => ((r15 = 0 ∨ r15 = 1) ∧ Q (some (.int r15)) S14)))) ∧ (¬ ((r8 + r10) ≤ r12) → Q (some (.int 0)) S11)))))) ∧ (¬ r6 = 84 → Q (some (.int 0)) S5)))))))))) :
    px_w G px_Zc (d + 1) m_Packets_standsWhole 0 [.ref 22, .int x1] [] S Q := by
  refine w_aload_n rfl rfl rfl ?_
  refine w_getR rfl rfl fl_Packets_9 rfl rfl ?_
  refine w_iload_n rfl rfl rfl ?_
  refine w_callI h cs_Packets_standsWhole_5 rfl rfl (Nat.le_of_ble_eq_true rfl) rfl (fun r2 S1 h => ?_)
  refine w_bipush (v := 80) rfl rfl (by decide) ?_
  refine w_if_icmpne 43 rfl rfl rfl (fun hc => ?_) (fun hc => ?_)
  · have h := h.1 hc
    refine w_iconst (v := 0) rfl rfl (by decide) ?_
    exact w_zreturn rfl rfl rfl (Or.inl rfl) h
  · have h := h.2 hc
    refine w_aload_n rfl rfl rfl ?_
    refine w_getR rfl rfl fl_Packets_9 rfl rfl ?_
    refine w_iload_n rfl rfl rfl ?_
    refine w_iconst (v := 1) rfl rfl (by decide) ?_
    refine w_iadd rfl rfl ?_
    refine w_callI h cs_Packets_standsWhole_20 rfl rfl (Nat.le_of_ble_eq_true rfl) rfl (fun r4 S3 h => ?_)
    refine w_bipush (v := 75) rfl rfl (by decide) ?_
    refine w_if_icmpne 43 rfl rfl rfl (fun hc => ?_) (fun hc => ?_)
    · have h := h.1 hc
      refine w_iconst (v := 0) rfl rfl (by decide) ?_
      exact w_zreturn rfl rfl rfl (Or.inl rfl) h
    · have h := h.2 hc
      refine w_aload_n rfl rfl rfl ?_
      refine w_getR rfl rfl fl_Packets_9 rfl rfl ?_
      refine w_iload_n rfl rfl rfl ?_
      refine w_iconst (v := 2) rfl rfl (by decide) ?_
      refine w_iadd rfl rfl ?_
      refine w_callI h cs_Packets_standsWhole_35 rfl rfl (Nat.le_of_ble_eq_true rfl) rfl (fun r6 S5 h => ?_)
      refine w_bipush (v := 84) rfl rfl (by decide) ?_
      refine w_if_icmpeq 45 rfl rfl rfl (fun hc => ?_) (fun hc => ?_)
      · have h := h.1 hc
        refine w_aload_n rfl rfl rfl ?_
        refine w_iload_n rfl rfl rfl ?_
        refine w_callI h cs_Packets_standsWhole_47 rfl rfl (Nat.le_of_ble_eq_true rfl) rfl (fun r8 S7 h => ?_)
        refine w_aload_n rfl rfl rfl ?_
        refine w_iload_n rfl rfl rfl ?_
        refine w_callI h cs_Packets_standsWhole_52 rfl rfl (Nat.le_of_ble_eq_true rfl) rfl (fun r10 S9 h => ?_)
        refine w_iadd rfl rfl ?_
        refine w_aload_n rfl rfl rfl ?_
        refine w_getR rfl rfl fl_Packets_9 rfl rfl ?_
        refine w_callI h cs_Packets_standsWhole_60 rfl rfl (Nat.le_of_ble_eq_true rfl) rfl (fun r12 S11 h => ?_)
        refine w_if_icmple 68 rfl rfl rfl (fun hc => ?_) (fun hc => ?_)
        · have h := h.1 hc
          refine w_aload_n rfl rfl rfl ?_
          refine w_iload_n rfl rfl rfl ?_
          refine w_callV h cs_Packets_standsWhole_70 rfl rfl (Nat.le_of_ble_eq_true rfl) rfl (fun S13 h => ?_)
          refine w_aload_n rfl rfl rfl ?_
          refine w_getR rfl rfl fl_Packets_15 rfl rfl ?_
          refine w_aload_n rfl rfl rfl ?_
          refine w_getR rfl rfl fl_Packets_9 rfl rfl ?_
          refine w_iload_n rfl rfl rfl ?_
          refine w_bipush (v := 6) rfl rfl (by decide) ?_
          refine w_iadd rfl rfl ?_
          refine w_bipush (v := 16) rfl rfl (by decide) ?_
          refine w_callI h cs_Packets_standsWhole_87 rfl rfl (Nat.le_of_ble_eq_true rfl) rfl (fun r15 S14 h => ?_)
          exact w_zreturn rfl rfl rfl h.1 h.2
        · have h := h.2 hc
          refine w_iconst (v := 0) rfl rfl (by decide) ?_
          exact w_zreturn rfl rfl rfl (Or.inl rfl) h
      · have h := h.2 hc
        refine w_iconst (v := 0) rfl rfl (by decide) ?_
        exact w_zreturn rfl rfl rfl (Or.inl rfl) h

theorem f_Packets_standsWhole {G : px_G} {d : Nat} {x1 : Int32} {S : px_S} {Q : Option Value → px_S → Prop}
    (h : px_I G px_Zc d m_Row_get [.ref 10, .int x1] S (fun r2 S1 => ((¬ r2 = 80 → Q (some (.int 0)) S1) ∧ (r2 = 80 → px_I G px_Zc d m_Row_get [.ref 10, .int (x1 + 1)] S1 (fun r4 S3 => ((¬ r4 = 75 → Q (some (.int 0)) S3) ∧ (r4 = 75 → px_I G px_Zc d m_Row_get [.ref 10, .int (x1 + 2)] S3 (fun r6 S5 => ((r6 = 84 → px_I G px_Zc d m_Packets_body [.ref 22, .int x1] S5 (fun r8 S7 => px_I G px_Zc d m_Packets_bodySize [.ref 22, .int x1] S7 (fun r10 S9 => px_I G px_Zc d m_Row_size [.ref 10] S9 (fun r12 S11 => (((r8 + r10) ≤ r12 → px_V G px_Zc d m_Packets_sumUp [.ref 22, .int x1] S11 (fun S13 => px_I G px_Zc d m_Sum_standsIn [.ref 18, .ref 10, .int (x1 + 6), .int 16] S13 (fun r15 S14 => ((r15 = 0 ∨ r15 = 1) ∧ Q (some (.int r15)) S14)))) ∧ (¬ ((r8 + r10) ≤ r12) → Q (some (.int 0)) S11)))))) ∧ (¬ r6 = 84 → Q (some (.int 0)) S5)))))))))) :
    px_M G px_Zc (d + 1) m_Packets_standsWhole [.ref 22, .int x1] S Q :=
  px_in (Or.inr ⟨_, _, _, _, _, rfl, rfl, rfl, rfl⟩) (by decide) (Nat.le_of_ble_eq_true rfl) (px_en 0 rfl) (e_Packets_standsWhole_0 h)

set_option maxRecDepth 100000 in
theorem e_Packets_haveSameSet_0 {G : px_G} {d : Nat} {x1 x2 : Int32} {S : px_S} {Q : Option Value → px_S → Prop}
    (h : px_w G px_Zc (d + 1) m_Packets_haveSameSet 2 [.ref 22, .int x1, .int x2, .int 0] [] S Q) :
    px_w G px_Zc (d + 1) m_Packets_haveSameSet 0 [.ref 22, .int x1, .int x2, .null] [] S Q := by
  refine w_iconst (v := 0) rfl rfl (by decide) ?_
  refine w_istore_n _ rfl rfl (by decide) rfl rfl ?_
  exact h

set_option maxRecDepth 100000 in
theorem e_Packets_haveSameSet_2 {G : px_G} {d : Nat} {x1 x2 x3 : Int32} {S : px_S} {Q : Option Value → px_S → Prop}
    (h : ((4 ≤ x3 → Q (some (.int 1)) S) ∧ (¬ (4 ≤ x3) → px_I G px_Zc d m_Row_get [.ref 10, .int ((x1 + 22) + x3)] S (fun r2 S1 => px_I G px_Zc d m_Row_get [.ref 10, .int ((x2 + 22) + x3)] S1 (fun r4 S3 => ((r2 = r4 → px_w G px_Zc (d + 1) m_Packets_haveSameSet 2 [.ref 22, .int x1, .int x2, .int (x3 + 1)] [] S3 Q) ∧ (¬ r2 = r4 → Q (some (.int 0)) S3))))))) :
    px_w G px_Zc (d + 1) m_Packets_haveSameSet 2 [.ref 22, .int x1, .int x2, .int x3] [] S Q := by
  refine w_iload_n rfl rfl rfl ?_
  refine w_iconst (v := 4) rfl rfl (by decide) ?_
  refine w_if_icmpge 44 rfl rfl rfl (fun hc => ?_) (fun hc => ?_)
  · have h := h.1 hc
    refine w_iconst (v := 1) rfl rfl (by decide) ?_
    exact w_zreturn rfl rfl rfl (Or.inr rfl) h
  · have h := h.2 hc
    refine w_aload_n rfl rfl rfl ?_
    refine w_getR rfl rfl fl_Packets_9 rfl rfl ?_
    refine w_iload_n rfl rfl rfl ?_
    refine w_bipush (v := 22) rfl rfl (by decide) ?_
    refine w_iadd rfl rfl ?_
    refine w_iload_n rfl rfl rfl ?_
    refine w_iadd rfl rfl ?_
    refine w_callI h cs_Packets_haveSameSet_17 rfl rfl (Nat.le_of_ble_eq_true rfl) rfl (fun r2 S1 h => ?_)
    refine w_aload_n rfl rfl rfl ?_
    refine w_getR rfl rfl fl_Packets_9 rfl rfl ?_
    refine w_iload_n rfl rfl rfl ?_
    refine w_bipush (v := 22) rfl rfl (by decide) ?_
    refine w_iadd rfl rfl ?_
    refine w_iload_n rfl rfl rfl ?_
    refine w_iadd rfl rfl ?_
    refine w_callI h cs_Packets_haveSameSet_30 rfl rfl (Nat.le_of_ble_eq_true rfl) rfl (fun r4 S3 h => ?_)
    refine w_if_icmpeq 38 rfl rfl rfl (fun hc => ?_) (fun hc => ?_)
    · have h := h.1 hc
      refine w_iinc (v := 1) _ rfl rfl (by decide) rfl rfl (by decide) rfl ?_
      refine w_goto 2 rfl rfl rfl ?_
      exact h
    · have h := h.2 hc
      refine w_iconst (v := 0) rfl rfl (by decide) ?_
      exact w_zreturn rfl rfl rfl (Or.inl rfl) h

theorem f_Packets_haveSameSet {G : px_G} {d : Nat} {x1 x2 : Int32} {S : px_S} {Q : Option Value → px_S → Prop}
    (h : px_w G px_Zc (d + 1) m_Packets_haveSameSet 2 [.ref 22, .int x1, .int x2, .int 0] [] S Q) :
    px_M G px_Zc (d + 1) m_Packets_haveSameSet [.ref 22, .int x1, .int x2] S Q :=
  px_in (Or.inr ⟨_, _, _, _, _, rfl, rfl, rfl, rfl⟩) (by decide) (Nat.le_of_ble_eq_true rfl) (px_en 1 rfl) (e_Packets_haveSameSet_0 h)

set_option maxRecDepth 100000 in
theorem e_Packets_open_0 {G : px_G} {d : Nat} {x1 : Int32} {S : px_S} {Q : Option Value → px_S → Prop}
    (h : px_I G px_Zc d m_Row_size [.ref 10] S (fun r2 S1 => px_V G px_Zc d m_Row_append [.ref 10, .int 80] (px_u S1 22 2 r2) (fun S3 => px_V G px_Zc d m_Row_append [.ref 10, .int 75] S3 (fun S4 => px_V G px_Zc d m_Row_append [.ref 10, .int 84] S4 (fun S5 => px_V G px_Zc d m_Row_append [.ref 10, .int x1] S5 (fun S6 => px_w G px_Zc (d + 1) m_Packets_open 48 [.ref 22, .int x1, .int 4] [] S6 Q)))))) :
    px_w G px_Zc (d + 1) m_Packets_open 0 [.ref 22, .int x1, .null] [] S Q := by
  refine w_aload_n rfl rfl rfl ?_
  refine w_aload_n rfl rfl rfl ?_
  refine w_getR rfl rfl fl_Packets_9 rfl rfl ?_
  refine w_callI h cs_Packets_open_5 rfl rfl (Nat.le_of_ble_eq_true rfl) rfl (fun r2 S1 h => ?_)
  refine w_put rfl rfl fl_Packets_19 fw_Packets_2 rfl rfl ?_
  refine w_aload_n rfl rfl rfl ?_
  refine w_getR rfl rfl fl_Packets_9 rfl rfl ?_
  refine w_bipush (v := 80) rfl rfl (by decide) ?_
  refine w_callV h cs_Packets_open_17 rfl rfl (Nat.le_of_ble_eq_true rfl) rfl (fun S3 h => ?_)
  refine w_aload_n rfl rfl rfl ?_
  refine w_getR rfl rfl fl_Packets_9 rfl rfl ?_
  refine w_bipush (v := 75) rfl rfl (by decide) ?_
  refine w_callV h cs_Packets_open_26 rfl rfl (Nat.le_of_ble_eq_true rfl) rfl (fun S4 h => ?_)
  refine w_aload_n rfl rfl rfl ?_
  refine w_getR rfl rfl fl_Packets_9 rfl rfl ?_
  refine w_bipush (v := 84) rfl rfl (by decide) ?_
  refine w_callV h cs_Packets_open_35 rfl rfl (Nat.le_of_ble_eq_true rfl) rfl (fun S5 h => ?_)
  refine w_aload_n rfl rfl rfl ?_
  refine w_getR rfl rfl fl_Packets_9 rfl rfl ?_
  refine w_iload_n rfl rfl rfl ?_
  refine w_callV h cs_Packets_open_43 rfl rfl (Nat.le_of_ble_eq_true rfl) rfl (fun S6 h => ?_)
  refine w_iconst (v := 4) rfl rfl (by decide) ?_
  refine w_istore_n _ rfl rfl (by decide) rfl rfl ?_
  exact h

set_option maxRecDepth 100000 in
theorem e_Packets_open_48 {G : px_G} {d : Nat} {x1 x2 : Int32} {S : px_S} {Q : Option Value → px_S → Prop}
    (h : ((26 ≤ x2 → Q none S) ∧ (¬ (26 ≤ x2) → px_V G px_Zc d m_Row_append [.ref 10, .int 0] S (fun S7 => px_w G px_Zc (d + 1) m_Packets_open 48 [.ref 22, .int x1, .int (x2 + 1)] [] S7 Q)))) :
    px_w G px_Zc (d + 1) m_Packets_open 48 [.ref 22, .int x1, .int x2] [] S Q := by
  refine w_iload_n rfl rfl rfl ?_
  refine w_bipush (v := 26) rfl rfl (by decide) ?_
  refine w_if_icmpge 68 rfl rfl rfl (fun hc => ?_) (fun hc => ?_)
  · have h := h.1 hc
    exact w_return rfl rfl rfl h
  · have h := h.2 hc
    refine w_aload_n rfl rfl rfl ?_
    refine w_getR rfl rfl fl_Packets_9 rfl rfl ?_
    refine w_iconst (v := 0) rfl rfl (by decide) ?_
    refine w_callV h cs_Packets_open_59 rfl rfl (Nat.le_of_ble_eq_true rfl) rfl (fun S7 h => ?_)
    refine w_iinc (v := 1) _ rfl rfl (by decide) rfl rfl (by decide) rfl ?_
    refine w_goto 48 rfl rfl rfl ?_
    exact h

theorem f_Packets_open {G : px_G} {d : Nat} {x1 : Int32} {S : px_S} {Q : Option Value → px_S → Prop}
    (h : px_I G px_Zc d m_Row_size [.ref 10] S (fun r2 S1 => px_V G px_Zc d m_Row_append [.ref 10, .int 80] (px_u S1 22 2 r2) (fun S3 => px_V G px_Zc d m_Row_append [.ref 10, .int 75] S3 (fun S4 => px_V G px_Zc d m_Row_append [.ref 10, .int 84] S4 (fun S5 => px_V G px_Zc d m_Row_append [.ref 10, .int x1] S5 (fun S6 => px_w G px_Zc (d + 1) m_Packets_open 48 [.ref 22, .int x1, .int 4] [] S6 Q)))))) :
    px_M G px_Zc (d + 1) m_Packets_open [.ref 22, .int x1] S Q :=
  px_in (Or.inr ⟨_, _, _, _, _, rfl, rfl, rfl, rfl⟩) (by decide) (Nat.le_of_ble_eq_true rfl) (px_en 1 rfl) (e_Packets_open_0 h)

set_option maxRecDepth 100000 in
theorem e_Packets_close_0 {G : px_G} {d : Nat} {S : px_S} {Q : Option Value → px_S → Prop}
    (h : px_I G px_Zc d m_Row_size [.ref 10] S (fun r2 S1 => px_I G px_Zc d m_Packets_body [.ref 22, .int (S1 22 2)] S1 (fun r4 S3 => px_w G px_Zc (d + 1) m_Packets_close 19 [.ref 22, .int (r2 - r4), .int 0] [] S3 Q))) :
    px_w G px_Zc (d + 1) m_Packets_close 0 [.ref 22, .null, .null] [] S Q := by
  refine w_aload_n rfl rfl rfl ?_
  refine w_getR rfl rfl fl_Packets_9 rfl rfl ?_
  refine w_callI h cs_Packets_close_4 rfl rfl (Nat.le_of_ble_eq_true rfl) rfl (fun r2 S1 h => ?_)
  refine w_aload_n rfl rfl rfl ?_
  refine w_aload_n rfl rfl rfl ?_
  refine w_getI rfl rfl fl_Packets_19 rfl rfl ?_
  refine w_callI h cs_Packets_close_12 rfl rfl (Nat.le_of_ble_eq_true rfl) rfl (fun r4 S3 h => ?_)
  refine w_isub rfl rfl ?_
  refine w_istore_n _ rfl rfl (by decide) rfl rfl ?_
  refine w_iconst (v := 0) rfl rfl (by decide) ?_
  refine w_istore_n _ rfl rfl (by decide) rfl rfl ?_
  exact h

set_option maxRecDepth 100000 in
theorem e_Packets_close_19 {G : px_G} {d : Nat} {x1 x2 : Int32} {S : px_S} {Q : Option Value → px_S → Prop}
    (h : ((4 ≤ x2 → px_I G px_Zc d m_Row_set [.ref 10, .int ((S 22 2) + 4), .int (x1 &&& 255)] S (fun r6 S5 => px_I G px_Zc d m_Row_set [.ref 10, .int (((S5 22 2) + 4) + 1), .int ((px_ushr x1 8) &&& 255)] S5 (fun r8 S7 => px_V G px_Zc d m_Packets_sumUp [.ref 22, .int (S7 22 2)] S7 (fun S9 => px_w G px_Zc (d + 1) m_Packets_close 111 [.ref 22, .int x1, .int 0] [] S9 Q)))) ∧ (¬ (4 ≤ x2) → px_I G px_Zc d m_Row_get [.ref 10, .int (22 + x2)] S (fun r11 S10 => px_I G px_Zc d m_Row_set [.ref 10, .int (((S 22 2) + 22) + x2), .int r11] S10 (fun r13 S12 => px_w G px_Zc (d + 1) m_Packets_close 19 [.ref 22, .int x1, .int (x2 + 1)] [] S12 Q))))) :
    px_w G px_Zc (d + 1) m_Packets_close 19 [.ref 22, .int x1, .int x2] [] S Q := by
  refine w_iload_n rfl rfl rfl ?_
  refine w_iconst (v := 4) rfl rfl (by decide) ?_
  refine w_if_icmpge 58 rfl rfl rfl (fun hc => ?_) (fun hc => ?_)
  · have h := h.1 hc
    refine w_aload_n rfl rfl rfl ?_
    refine w_getR rfl rfl fl_Packets_9 rfl rfl ?_
    refine w_aload_n rfl rfl rfl ?_
    refine w_getI rfl rfl fl_Packets_19 rfl rfl ?_
    refine w_iconst (v := 4) rfl rfl (by decide) ?_
    refine w_iadd rfl rfl ?_
    refine w_iload_n rfl rfl rfl ?_
    refine w_sipush (v := 255) rfl rfl (by decide) ?_
    refine w_iand rfl rfl ?_
    refine w_callI h cs_Packets_close_73 rfl rfl (Nat.le_of_ble_eq_true rfl) rfl (fun r6 S5 h => ?_)
    refine w_pop rfl rfl rfl ?_
    refine w_aload_n rfl rfl rfl ?_
    refine w_getR rfl rfl fl_Packets_9 rfl rfl ?_
    refine w_aload_n rfl rfl rfl ?_
    refine w_getI rfl rfl fl_Packets_19 rfl rfl ?_
    refine w_iconst (v := 4) rfl rfl (by decide) ?_
    refine w_iadd rfl rfl ?_
    refine w_iconst (v := 1) rfl rfl (by decide) ?_
    refine w_iadd rfl rfl ?_
    refine w_iload_n rfl rfl rfl ?_
    refine w_bipush (v := 8) rfl rfl (by decide) ?_
    refine w_iushr rfl rfl ?_
    refine w_sipush (v := 255) rfl rfl (by decide) ?_
    refine w_iand rfl rfl ?_
    refine w_callI h cs_Packets_close_97 rfl rfl (Nat.le_of_ble_eq_true rfl) rfl (fun r8 S7 h => ?_)
    refine w_pop rfl rfl rfl ?_
    refine w_aload_n rfl rfl rfl ?_
    refine w_aload_n rfl rfl rfl ?_
    refine w_getI rfl rfl fl_Packets_19 rfl rfl ?_
    refine w_callV h cs_Packets_close_106 rfl rfl (Nat.le_of_ble_eq_true rfl) rfl (fun S9 h => ?_)
    refine w_iconst (v := 0) rfl rfl (by decide) ?_
    refine w_istore_n _ rfl rfl (by decide) rfl rfl ?_
    exact h
  · have h := h.2 hc
    refine w_aload_n rfl rfl rfl ?_
    refine w_getR rfl rfl fl_Packets_9 rfl rfl ?_
    refine w_aload_n rfl rfl rfl ?_
    refine w_getI rfl rfl fl_Packets_19 rfl rfl ?_
    refine w_bipush (v := 22) rfl rfl (by decide) ?_
    refine w_iadd rfl rfl ?_
    refine w_iload_n rfl rfl rfl ?_
    refine w_iadd rfl rfl ?_
    refine w_aload_n rfl rfl rfl ?_
    refine w_getR rfl rfl fl_Packets_9 rfl rfl ?_
    refine w_bipush (v := 22) rfl rfl (by decide) ?_
    refine w_iload_n rfl rfl rfl ?_
    refine w_iadd rfl rfl ?_
    refine w_callI h cs_Packets_close_45 rfl rfl (Nat.le_of_ble_eq_true rfl) rfl (fun r11 S10 h => ?_)
    refine w_callI h cs_Packets_close_48 rfl rfl (Nat.le_of_ble_eq_true rfl) rfl (fun r13 S12 h => ?_)
    refine w_pop rfl rfl rfl ?_
    refine w_iinc (v := 1) _ rfl rfl (by decide) rfl rfl (by decide) rfl ?_
    refine w_goto 19 rfl rfl rfl ?_
    exact h

set_option maxRecDepth 100000 in
theorem e_Packets_close_111 {G : px_G} {d : Nat} {x1 x2 : Int32} {S : px_S} {Q : Option Value → px_S → Prop}
    (h : ((16 ≤ x2 → Q none S) ∧ (¬ (16 ≤ x2) → px_I G px_Zc d m_Sum_get [.ref 18, .int x2] S (fun r15 S14 => px_I G px_Zc d m_Row_set [.ref 10, .int (((S 22 2) + 6) + x2), .int r15] S14 (fun r17 S16 => px_w G px_Zc (d + 1) m_Packets_close 111 [.ref 22, .int x1, .int (x2 + 1)] [] S16 Q))))) :
    px_w G px_Zc (d + 1) m_Packets_close 111 [.ref 22, .int x1, .int x2] [] S Q := by
  refine w_iload_n rfl rfl rfl ?_
  refine w_bipush (v := 16) rfl rfl (by decide) ?_
  refine w_if_icmpge 148 rfl rfl rfl (fun hc => ?_) (fun hc => ?_)
  · have h := h.1 hc
    exact w_return rfl rfl rfl h
  · have h := h.2 hc
    refine w_aload_n rfl rfl rfl ?_
    refine w_getR rfl rfl fl_Packets_9 rfl rfl ?_
    refine w_aload_n rfl rfl rfl ?_
    refine w_getI rfl rfl fl_Packets_19 rfl rfl ?_
    refine w_bipush (v := 6) rfl rfl (by decide) ?_
    refine w_iadd rfl rfl ?_
    refine w_iload_n rfl rfl rfl ?_
    refine w_iadd rfl rfl ?_
    refine w_aload_n rfl rfl rfl ?_
    refine w_getR rfl rfl fl_Packets_15 rfl rfl ?_
    refine w_iload_n rfl rfl rfl ?_
    refine w_callI h cs_Packets_close_135 rfl rfl (Nat.le_of_ble_eq_true rfl) rfl (fun r15 S14 h => ?_)
    refine w_callI h cs_Packets_close_138 rfl rfl (Nat.le_of_ble_eq_true rfl) rfl (fun r17 S16 h => ?_)
    refine w_pop rfl rfl rfl ?_
    refine w_iinc (v := 1) _ rfl rfl (by decide) rfl rfl (by decide) rfl ?_
    refine w_goto 111 rfl rfl rfl ?_
    exact h

theorem f_Packets_close {G : px_G} {d : Nat} {S : px_S} {Q : Option Value → px_S → Prop}
    (h : px_I G px_Zc d m_Row_size [.ref 10] S (fun r2 S1 => px_I G px_Zc d m_Packets_body [.ref 22, .int (S1 22 2)] S1 (fun r4 S3 => px_w G px_Zc (d + 1) m_Packets_close 19 [.ref 22, .int (r2 - r4), .int 0] [] S3 Q))) :
    px_M G px_Zc (d + 1) m_Packets_close [.ref 22] S Q :=
  px_in (Or.inr ⟨_, _, _, _, _, rfl, rfl, rfl, rfl⟩) (by decide) (Nat.le_of_ble_eq_true rfl) (px_en 2 rfl) (e_Packets_close_0 h)

set_option maxRecDepth 100000 in
theorem e_Packets_sumUp_0 {G : px_G} {d : Nat} {x1 : Int32} {S : px_S} {Q : Option Value → px_S → Prop}
    (h : px_V G px_Zc d m_Sum_begin [.ref 18] S (fun S1 => px_V G px_Zc d m_Sum_addAll [.ref 18, .ref 10, .int (x1 + 3), .int 3] S1 (fun S2 => px_I G px_Zc d m_Packets_bodySize [.ref 22, .int x1] S2 (fun r4 S3 => px_V G px_Zc d m_Sum_addAll [.ref 18, .ref 10, .int (x1 + 22), .int (4 + r4)] S3 (fun S5 => px_V G px_Zc d m_Sum_end [.ref 18] S5 (fun S6 => Q none S6)))))) :
    px_w G px_Zc (d + 1) m_Packets_sumUp 0 [.ref 22, .int x1] [] S Q := by
  refine w_aload_n rfl rfl rfl ?_
  refine w_getR rfl rfl fl_Packets_15 rfl rfl ?_
  refine w_callV h cs_Packets_sumUp_4 rfl rfl (Nat.le_of_ble_eq_true rfl) rfl (fun S1 h => ?_)
  refine w_aload_n rfl rfl rfl ?_
  refine w_getR rfl rfl fl_Packets_15 rfl rfl ?_
  refine w_aload_n rfl rfl rfl ?_
  refine w_getR rfl rfl fl_Packets_9 rfl rfl ?_
  refine w_iload_n rfl rfl rfl ?_
  refine w_iconst (v := 3) rfl rfl (by decide) ?_
  refine w_iadd rfl rfl ?_
  refine w_iconst (v := 3) rfl rfl (by decide) ?_
  refine w_callV h cs_Packets_sumUp_19 rfl rfl (Nat.le_of_ble_eq_true rfl) rfl (fun S2 h => ?_)
  refine w_aload_n rfl rfl rfl ?_
  refine w_getR rfl rfl fl_Packets_15 rfl rfl ?_
  refine w_aload_n rfl rfl rfl ?_
  refine w_getR rfl rfl fl_Packets_9 rfl rfl ?_
  refine w_iload_n rfl rfl rfl ?_
  refine w_bipush (v := 22) rfl rfl (by decide) ?_
  refine w_iadd rfl rfl ?_
  refine w_iconst (v := 4) rfl rfl (by decide) ?_
  refine w_aload_n rfl rfl rfl ?_
  refine w_iload_n rfl rfl rfl ?_
  refine w_callI h cs_Packets_sumUp_37 rfl rfl (Nat.le_of_ble_eq_true rfl) rfl (fun r4 S3 h => ?_)
  refine w_iadd rfl rfl ?_
  refine w_callV h cs_Packets_sumUp_41 rfl rfl (Nat.le_of_ble_eq_true rfl) rfl (fun S5 h => ?_)
  refine w_aload_n rfl rfl rfl ?_
  refine w_getR rfl rfl fl_Packets_15 rfl rfl ?_
  refine w_callV h cs_Packets_sumUp_48 rfl rfl (Nat.le_of_ble_eq_true rfl) rfl (fun S6 h => ?_)
  exact w_return rfl rfl rfl h

theorem f_Packets_sumUp {G : px_G} {d : Nat} {x1 : Int32} {S : px_S} {Q : Option Value → px_S → Prop}
    (h : px_V G px_Zc d m_Sum_begin [.ref 18] S (fun S1 => px_V G px_Zc d m_Sum_addAll [.ref 18, .ref 10, .int (x1 + 3), .int 3] S1 (fun S2 => px_I G px_Zc d m_Packets_bodySize [.ref 22, .int x1] S2 (fun r4 S3 => px_V G px_Zc d m_Sum_addAll [.ref 18, .ref 10, .int (x1 + 22), .int (4 + r4)] S3 (fun S5 => px_V G px_Zc d m_Sum_end [.ref 18] S5 (fun S6 => Q none S6)))))) :
    px_M G px_Zc (d + 1) m_Packets_sumUp [.ref 22, .int x1] S Q :=
  px_in (Or.inr ⟨_, _, _, _, _, rfl, rfl, rfl, rfl⟩) (by decide) (Nat.le_of_ble_eq_true rfl) (px_en 0 rfl) (e_Packets_sumUp_0 h)

set_option maxRecDepth 100000 in
theorem e_Writer_writeAll_0 {G : px_G} {d : Nat} {x1 : Int32} {S : px_S} {Q : Option Value → px_S → Prop}
    (h : px_V G px_Zc d m_Row_clear [.ref 10] S (fun S1 => px_V G px_Zc d m_Writer_writeMain [.ref 23] S1 (fun S2 => px_w G px_Zc (d + 1) m_Writer_writeAll 13 [.ref 23, .int x1, .int 0] [] S2 Q))) :
    px_w G px_Zc (d + 1) m_Writer_writeAll 0 [.ref 23, .int x1, .null] [] S Q := by
  refine w_aload_n rfl rfl rfl ?_
  refine w_getR rfl rfl fl_Writer_21 rfl rfl ?_
  refine w_callV h cs_Writer_writeAll_4 rfl rfl (Nat.le_of_ble_eq_true rfl) rfl (fun S1 h => ?_)
  refine w_aload_n rfl rfl rfl ?_
  refine w_callV h cs_Writer_writeAll_8 rfl rfl (Nat.le_of_ble_eq_true rfl) rfl (fun S2 h => ?_)
  refine w_iconst (v := 0) rfl rfl (by decide) ?_
  refine w_istore_n _ rfl rfl (by decide) rfl rfl ?_
  exact h

set_option maxRecDepth 100000 in
theorem e_Writer_writeAll_13 {G : px_G} {d : Nat} {x1 x2 : Int32} {S : px_S} {Q : Option Value → px_S → Prop}
    (h : px_I G px_Zc d m_Slices_fileCount [.ref 12] S (fun r4 S3 => ((r4 ≤ x2 → px_w G px_Zc (d + 1) m_Writer_writeAll 42 [.ref 23, .int x1, .int 0] [] S3 Q) ∧ (¬ (r4 ≤ x2) → px_V G px_Zc d m_Writer_writeFile [.ref 23, .int x2] S3 (fun S5 => px_V G px_Zc d m_Writer_writeChecks [.ref 23, .int x2] S5 (fun S6 => px_w G px_Zc (d + 1) m_Writer_writeAll 13 [.ref 23, .int x1, .int (x2 + 1)] [] S6 Q)))))) :
    px_w G px_Zc (d + 1) m_Writer_writeAll 13 [.ref 23, .int x1, .int x2] [] S Q := by
  refine w_iload_n rfl rfl rfl ?_
  refine w_aload_n rfl rfl rfl ?_
  refine w_getR rfl rfl fl_Writer_24 rfl rfl ?_
  refine w_callI h cs_Writer_writeAll_18 rfl rfl (Nat.le_of_ble_eq_true rfl) rfl (fun r4 S3 h => ?_)
  refine w_if_icmpge 40 rfl rfl rfl (fun hc => ?_) (fun hc => ?_)
  · have h := h.1 hc
    refine w_iconst (v := 0) rfl rfl (by decide) ?_
    refine w_istore_n _ rfl rfl (by decide) rfl rfl ?_
    exact h
  · have h := h.2 hc
    refine w_aload_n rfl rfl rfl ?_
    refine w_iload_n rfl rfl rfl ?_
    refine w_callV h cs_Writer_writeAll_26 rfl rfl (Nat.le_of_ble_eq_true rfl) rfl (fun S5 h => ?_)
    refine w_aload_n rfl rfl rfl ?_
    refine w_iload_n rfl rfl rfl ?_
    refine w_callV h cs_Writer_writeAll_31 rfl rfl (Nat.le_of_ble_eq_true rfl) rfl (fun S6 h => ?_)
    refine w_iinc (v := 1) _ rfl rfl (by decide) rfl rfl (by decide) rfl ?_
    refine w_goto 13 rfl rfl rfl ?_
    exact h

set_option maxRecDepth 100000 in
theorem e_Writer_writeAll_42 {G : px_G} {d : Nat} {x1 x2 : Int32} {S : px_S} {Q : Option Value → px_S → Prop}
    (h : ((x1 ≤ x2 → Q none S) ∧ (¬ (x1 ≤ x2) → px_V G px_Zc d m_Writer_writeRecovery [.ref 23, .int x2] S (fun S7 => px_w G px_Zc (d + 1) m_Writer_writeAll 42 [.ref 23, .int x1, .int (x2 + 1)] [] S7 Q)))) :
    px_w G px_Zc (d + 1) m_Writer_writeAll 42 [.ref 23, .int x1, .int x2] [] S Q := by
  refine w_iload_n rfl rfl rfl ?_
  refine w_iload_n rfl rfl rfl ?_
  refine w_if_icmpge 58 rfl rfl rfl (fun hc => ?_) (fun hc => ?_)
  · have h := h.1 hc
    exact w_return rfl rfl rfl h
  · have h := h.2 hc
    refine w_aload_n rfl rfl rfl ?_
    refine w_iload_n rfl rfl rfl ?_
    refine w_callV h cs_Writer_writeAll_49 rfl rfl (Nat.le_of_ble_eq_true rfl) rfl (fun S7 h => ?_)
    refine w_iinc (v := 1) _ rfl rfl (by decide) rfl rfl (by decide) rfl ?_
    refine w_goto 42 rfl rfl rfl ?_
    exact h

theorem f_Writer_writeAll {G : px_G} {d : Nat} {x1 : Int32} {S : px_S} {Q : Option Value → px_S → Prop}
    (h : px_V G px_Zc d m_Row_clear [.ref 10] S (fun S1 => px_V G px_Zc d m_Writer_writeMain [.ref 23] S1 (fun S2 => px_w G px_Zc (d + 1) m_Writer_writeAll 13 [.ref 23, .int x1, .int 0] [] S2 Q))) :
    px_M G px_Zc (d + 1) m_Writer_writeAll [.ref 23, .int x1] S Q :=
  px_in (Or.inr ⟨_, _, _, _, _, rfl, rfl, rfl, rfl⟩) (by decide) (Nat.le_of_ble_eq_true rfl) (px_en 1 rfl) (e_Writer_writeAll_0 h)

set_option maxRecDepth 100000 in
theorem e_Writer_writeMain_0 {G : px_G} {d : Nat} {S : px_S} {Q : Option Value → px_S → Prop}
    (h : px_V G px_Zc d m_Packets_open [.ref 22, .int 77] S (fun S1 => px_V G px_Zc d m_Row_append [.ref 10, .int 8] S1 (fun S2 => px_I G px_Zc d m_Slices_fileCount [.ref 12] S2 (fun r4 S3 => px_V G px_Zc d m_Row_append [.ref 10, .int r4] S3 (fun S5 => px_w G px_Zc (d + 1) m_Writer_writeMain 34 [.ref 23, .int 0] [] S5 Q))))) :
    px_w G px_Zc (d + 1) m_Writer_writeMain 0 [.ref 23, .null] [] S Q := by
  refine w_aload_n rfl rfl rfl ?_
  refine w_getR rfl rfl fl_Writer_9 rfl rfl ?_
  refine w_bipush (v := 77) rfl rfl (by decide) ?_
  refine w_callV h cs_Writer_writeMain_6 rfl rfl (Nat.le_of_ble_eq_true rfl) rfl (fun S1 h => ?_)
  refine w_aload_n rfl rfl rfl ?_
  refine w_getR rfl rfl fl_Writer_21 rfl rfl ?_
  refine w_bipush (v := 8) rfl rfl (by decide) ?_
  refine w_callV h cs_Writer_writeMain_15 rfl rfl (Nat.le_of_ble_eq_true rfl) rfl (fun S2 h => ?_)
  refine w_aload_n rfl rfl rfl ?_
  refine w_getR rfl rfl fl_Writer_21 rfl rfl ?_
  refine w_aload_n rfl rfl rfl ?_
  refine w_getR rfl rfl fl_Writer_24 rfl rfl ?_
  refine w_callI h cs_Writer_writeMain_26 rfl rfl (Nat.le_of_ble_eq_true rfl) rfl (fun r4 S3 h => ?_)
  refine w_callV h cs_Writer_writeMain_29 rfl rfl (Nat.le_of_ble_eq_true rfl) rfl (fun S5 h => ?_)
  refine w_iconst (v := 0) rfl rfl (by decide) ?_
  refine w_istore_n _ rfl rfl (by decide) rfl rfl ?_
  exact h

set_option maxRecDepth 100000 in
theorem e_Writer_writeMain_34 {G : px_G} {d : Nat} {x1 : Int32} {S : px_S} {Q : Option Value → px_S → Prop}
    (h : px_I G px_Zc d m_Slices_fileCount [.ref 12] S (fun r7 S6 => ((r7 ≤ x1 → px_I G px_Zc d m_Row_size [.ref 10] S6 (fun r9 S8 => px_V G px_Zc d m_Sum_of [.ref 18, .ref 10, .int 26, .int (r9 - 26)] S8 (fun S10 => px_w G px_Zc (d + 1) m_Writer_writeMain 91 [.ref 23, .int 0] [] S10 Q))) ∧ (¬ (r7 ≤ x1) → px_I G px_Zc d m_Slices_size [.ref 12, .int x1] S6 (fun r12 S11 => px_V G px_Zc d m_Row_append [.ref 10, .int r12] S11 (fun S13 => px_w G px_Zc (d + 1) m_Writer_writeMain 34 [.ref 23, .int (x1 + 1)] [] S13 Q)))))) :
    px_w G px_Zc (d + 1) m_Writer_writeMain 34 [.ref 23, .int x1] [] S Q := by
  refine w_iload_n rfl rfl rfl ?_
  refine w_aload_n rfl rfl rfl ?_
  refine w_getR rfl rfl fl_Writer_24 rfl rfl ?_
  refine w_callI h cs_Writer_writeMain_39 rfl rfl (Nat.le_of_ble_eq_true rfl) rfl (fun r7 S6 h => ?_)
  refine w_if_icmpge 66 rfl rfl rfl (fun hc => ?_) (fun hc => ?_)
  · have h := h.1 hc
    refine w_aload_n rfl rfl rfl ?_
    refine w_getR rfl rfl fl_Writer_28 rfl rfl ?_
    refine w_aload_n rfl rfl rfl ?_
    refine w_getR rfl rfl fl_Writer_21 rfl rfl ?_
    refine w_bipush (v := 26) rfl rfl (by decide) ?_
    refine w_aload_n rfl rfl rfl ?_
    refine w_getR rfl rfl fl_Writer_21 rfl rfl ?_
    refine w_callI h cs_Writer_writeMain_80 rfl rfl (Nat.le_of_ble_eq_true rfl) rfl (fun r9 S8 h => ?_)
    refine w_bipush (v := 26) rfl rfl (by decide) ?_
    refine w_isub rfl rfl ?_
    refine w_callV h cs_Writer_writeMain_86 rfl rfl (Nat.le_of_ble_eq_true rfl) rfl (fun S10 h => ?_)
    refine w_iconst (v := 0) rfl rfl (by decide) ?_
    refine w_istore_n _ rfl rfl (by decide) rfl rfl ?_
    exact h
  · have h := h.2 hc
    refine w_aload_n rfl rfl rfl ?_
    refine w_getR rfl rfl fl_Writer_21 rfl rfl ?_
    refine w_aload_n rfl rfl rfl ?_
    refine w_getR rfl rfl fl_Writer_24 rfl rfl ?_
    refine w_iload_n rfl rfl rfl ?_
    refine w_callI h cs_Writer_writeMain_54 rfl rfl (Nat.le_of_ble_eq_true rfl) rfl (fun r12 S11 h => ?_)
    refine w_callV h cs_Writer_writeMain_57 rfl rfl (Nat.le_of_ble_eq_true rfl) rfl (fun S13 h => ?_)
    refine w_iinc (v := 1) _ rfl rfl (by decide) rfl rfl (by decide) rfl ?_
    refine w_goto 34 rfl rfl rfl ?_
    exact h

set_option maxRecDepth 100000 in
theorem e_Writer_writeMain_91 {G : px_G} {d : Nat} {x1 : Int32} {S : px_S} {Q : Option Value → px_S → Prop}
    (h : ((4 ≤ x1 → px_V G px_Zc d m_Packets_close [.ref 22] S (fun S14 => Q none S14)) ∧ (¬ (4 ≤ x1) → px_I G px_Zc d m_Sum_get [.ref 18, .int x1] S (fun r16 S15 => px_I G px_Zc d m_Row_set [.ref 10, .int (22 + x1), .int r16] S15 (fun r18 S17 => px_w G px_Zc (d + 1) m_Writer_writeMain 91 [.ref 23, .int (x1 + 1)] [] S17 Q))))) :
    px_w G px_Zc (d + 1) m_Writer_writeMain 91 [.ref 23, .int x1] [] S Q := by
  refine w_iload_n rfl rfl rfl ?_
  refine w_iconst (v := 4) rfl rfl (by decide) ?_
  refine w_if_icmpge 122 rfl rfl rfl (fun hc => ?_) (fun hc => ?_)
  · have h := h.1 hc
    refine w_aload_n rfl rfl rfl ?_
    refine w_getR rfl rfl fl_Writer_9 rfl rfl ?_
    refine w_callV h cs_Writer_writeMain_126 rfl rfl (Nat.le_of_ble_eq_true rfl) rfl (fun S14 h => ?_)
    exact w_return rfl rfl rfl h
  · have h := h.2 hc
    refine w_aload_n rfl rfl rfl ?_
    refine w_getR rfl rfl fl_Writer_21 rfl rfl ?_
    refine w_bipush (v := 22) rfl rfl (by decide) ?_
    refine w_iload_n rfl rfl rfl ?_
    refine w_iadd rfl rfl ?_
    refine w_aload_n rfl rfl rfl ?_
    refine w_getR rfl rfl fl_Writer_28 rfl rfl ?_
    refine w_iload_n rfl rfl rfl ?_
    refine w_callI h cs_Writer_writeMain_109 rfl rfl (Nat.le_of_ble_eq_true rfl) rfl (fun r16 S15 h => ?_)
    refine w_callI h cs_Writer_writeMain_112 rfl rfl (Nat.le_of_ble_eq_true rfl) rfl (fun r18 S17 h => ?_)
    refine w_pop rfl rfl rfl ?_
    refine w_iinc (v := 1) _ rfl rfl (by decide) rfl rfl (by decide) rfl ?_
    refine w_goto 91 rfl rfl rfl ?_
    exact h

theorem f_Writer_writeMain {G : px_G} {d : Nat} {S : px_S} {Q : Option Value → px_S → Prop}
    (h : px_V G px_Zc d m_Packets_open [.ref 22, .int 77] S (fun S1 => px_V G px_Zc d m_Row_append [.ref 10, .int 8] S1 (fun S2 => px_I G px_Zc d m_Slices_fileCount [.ref 12] S2 (fun r4 S3 => px_V G px_Zc d m_Row_append [.ref 10, .int r4] S3 (fun S5 => px_w G px_Zc (d + 1) m_Writer_writeMain 34 [.ref 23, .int 0] [] S5 Q))))) :
    px_M G px_Zc (d + 1) m_Writer_writeMain [.ref 23] S Q :=
  px_in (Or.inr ⟨_, _, _, _, _, rfl, rfl, rfl, rfl⟩) (by decide) (Nat.le_of_ble_eq_true rfl) (px_en 1 rfl) (e_Writer_writeMain_0 h)

set_option maxRecDepth 100000 in
theorem e_Writer_writeFile_0 {G : px_G} {d : Nat} {x1 : Int32} {S : px_S} {Q : Option Value → px_S → Prop}
    (h : px_V G px_Zc d m_Packets_open [.ref 22, .int 70] S (fun S1 => px_V G px_Zc d m_Row_append [.ref 10, .int x1] S1 (fun S2 => px_I G px_Zc d m_Slices_size [.ref 12, .int x1] S2 (fun r4 S3 => px_V G px_Zc d m_Row_append [.ref 10, .int r4] S3 (fun S5 => px_R G px_Zc d m_Slices_row [.ref 12] S5 13 (fun S6 => px_I G px_Zc d m_Slices_start [.ref 12, .int x1] S6 (fun r8 S7 => px_I G px_Zc d m_Slices_size [.ref 12, .int x1] S7 (fun r10 S9 => px_V G px_Zc d m_Sum_of [.ref 18, .ref 13, .int r8, .int r10] S9 (fun S11 => px_V G px_Zc d m_Writer_appendSum [.ref 23] S11 (fun S12 => px_V G px_Zc d m_Packets_close [.ref 22] S12 (fun S13 => Q none S13))))))))))) :
    px_w G px_Zc (d + 1) m_Writer_writeFile 0 [.ref 23, .int x1] [] S Q := by
  refine w_aload_n rfl rfl rfl ?_
  refine w_getR rfl rfl fl_Writer_9 rfl rfl ?_
  refine w_bipush (v := 70) rfl rfl (by decide) ?_
  refine w_callV h cs_Writer_writeFile_6 rfl rfl (Nat.le_of_ble_eq_true rfl) rfl (fun S1 h => ?_)
  refine w_aload_n rfl rfl rfl ?_
  refine w_getR rfl rfl fl_Writer_21 rfl rfl ?_
  refine w_iload_n rfl rfl rfl ?_
  refine w_callV h cs_Writer_writeFile_14 rfl rfl (Nat.le_of_ble_eq_true rfl) rfl (fun S2 h => ?_)
  refine w_aload_n rfl rfl rfl ?_
  refine w_getR rfl rfl fl_Writer_21 rfl rfl ?_
  refine w_aload_n rfl rfl rfl ?_
  refine w_getR rfl rfl fl_Writer_24 rfl rfl ?_
  refine w_iload_n rfl rfl rfl ?_
  refine w_callI h cs_Writer_writeFile_26 rfl rfl (Nat.le_of_ble_eq_true rfl) rfl (fun r4 S3 h => ?_)
  refine w_callV h cs_Writer_writeFile_29 rfl rfl (Nat.le_of_ble_eq_true rfl) rfl (fun S5 h => ?_)
  refine w_aload_n rfl rfl rfl ?_
  refine w_getR rfl rfl fl_Writer_28 rfl rfl ?_
  refine w_aload_n rfl rfl rfl ?_
  refine w_getR rfl rfl fl_Writer_24 rfl rfl ?_
  refine w_callR h cs_Writer_writeFile_40 rfl rfl (Nat.le_of_ble_eq_true rfl) rfl (fun S6 h => ?_)
  refine w_aload_n rfl rfl rfl ?_
  refine w_getR rfl rfl fl_Writer_24 rfl rfl ?_
  refine w_iload_n rfl rfl rfl ?_
  refine w_callI h cs_Writer_writeFile_48 rfl rfl (Nat.le_of_ble_eq_true rfl) rfl (fun r8 S7 h => ?_)
  refine w_aload_n rfl rfl rfl ?_
  refine w_getR rfl rfl fl_Writer_24 rfl rfl ?_
  refine w_iload_n rfl rfl rfl ?_
  refine w_callI h cs_Writer_writeFile_56 rfl rfl (Nat.le_of_ble_eq_true rfl) rfl (fun r10 S9 h => ?_)
  refine w_callV h cs_Writer_writeFile_59 rfl rfl (Nat.le_of_ble_eq_true rfl) rfl (fun S11 h => ?_)
  refine w_aload_n rfl rfl rfl ?_
  refine w_callV h cs_Writer_writeFile_63 rfl rfl (Nat.le_of_ble_eq_true rfl) rfl (fun S12 h => ?_)
  refine w_aload_n rfl rfl rfl ?_
  refine w_getR rfl rfl fl_Writer_9 rfl rfl ?_
  refine w_callV h cs_Writer_writeFile_70 rfl rfl (Nat.le_of_ble_eq_true rfl) rfl (fun S13 h => ?_)
  exact w_return rfl rfl rfl h

theorem f_Writer_writeFile {G : px_G} {d : Nat} {x1 : Int32} {S : px_S} {Q : Option Value → px_S → Prop}
    (h : px_V G px_Zc d m_Packets_open [.ref 22, .int 70] S (fun S1 => px_V G px_Zc d m_Row_append [.ref 10, .int x1] S1 (fun S2 => px_I G px_Zc d m_Slices_size [.ref 12, .int x1] S2 (fun r4 S3 => px_V G px_Zc d m_Row_append [.ref 10, .int r4] S3 (fun S5 => px_R G px_Zc d m_Slices_row [.ref 12] S5 13 (fun S6 => px_I G px_Zc d m_Slices_start [.ref 12, .int x1] S6 (fun r8 S7 => px_I G px_Zc d m_Slices_size [.ref 12, .int x1] S7 (fun r10 S9 => px_V G px_Zc d m_Sum_of [.ref 18, .ref 13, .int r8, .int r10] S9 (fun S11 => px_V G px_Zc d m_Writer_appendSum [.ref 23] S11 (fun S12 => px_V G px_Zc d m_Packets_close [.ref 22] S12 (fun S13 => Q none S13))))))))))) :
    px_M G px_Zc (d + 1) m_Writer_writeFile [.ref 23, .int x1] S Q :=
  px_in (Or.inr ⟨_, _, _, _, _, rfl, rfl, rfl, rfl⟩) (by decide) (Nat.le_of_ble_eq_true rfl) (px_en 0 rfl) (e_Writer_writeFile_0 h)

set_option maxRecDepth 100000 in
theorem e_Writer_writeChecks_0 {G : px_G} {d : Nat} {x1 : Int32} {S : px_S} {Q : Option Value → px_S → Prop}
    (h : px_V G px_Zc d m_Packets_open [.ref 22, .int 73] S (fun S1 => px_V G px_Zc d m_Row_append [.ref 10, .int x1] S1 (fun S2 => px_I G px_Zc d m_Slices_size [.ref 12, .int x1] S2 (fun r4 S3 => px_I G px_Zc d m_PV_slicesOf [.int r4] S3 (fun r6 S5 => px_w G px_Zc (d + 1) m_Writer_writeChecks 31 [.ref 23, .int x1, .int r6, .int 0, .null, .null, .null] [] S5 Q))))) :
    px_w G px_Zc (d + 1) m_Writer_writeChecks 0 [.ref 23, .int x1, .null, .null, .null, .null, .null] [] S Q := by
  refine w_aload_n rfl rfl rfl ?_
  refine w_getR rfl rfl fl_Writer_9 rfl rfl ?_
  refine w_bipush (v := 73) rfl rfl (by decide) ?_
  refine w_callV h cs_Writer_writeChecks_6 rfl rfl (Nat.le_of_ble_eq_true rfl) rfl (fun S1 h => ?_)
  refine w_aload_n rfl rfl rfl ?_
  refine w_getR rfl rfl fl_Writer_21 rfl rfl ?_
  refine w_iload_n rfl rfl rfl ?_
  refine w_callV h cs_Writer_writeChecks_14 rfl rfl (Nat.le_of_ble_eq_true rfl) rfl (fun S2 h => ?_)
  refine w_aload_n rfl rfl rfl ?_
  refine w_getR rfl rfl fl_Writer_24 rfl rfl ?_
  refine w_iload_n rfl rfl rfl ?_
  refine w_callI h cs_Writer_writeChecks_22 rfl rfl (Nat.le_of_ble_eq_true rfl) rfl (fun r4 S3 h => ?_)
  refine w_callI h cs_Writer_writeChecks_25 rfl rfl (Nat.le_of_ble_eq_true rfl) rfl (fun r6 S5 h => ?_)
  refine w_istore_n _ rfl rfl (by decide) rfl rfl ?_
  refine w_iconst (v := 0) rfl rfl (by decide) ?_
  refine w_istore_n _ rfl rfl (by decide) rfl rfl ?_
  exact h

set_option maxRecDepth 100000 in
theorem e_Writer_writeChecks_31 {G : px_G} {d : Nat} {x1 x2 x3 : Int32} {S : px_S} {Q : Option Value → px_S → Prop}
    (h : ((x2 ≤ x3 → px_V G px_Zc d m_Packets_close [.ref 22] S (fun S7 => Q none S7)) ∧ (¬ (x2 ≤ x3) → px_I G px_Zc d m_Slices_start [.ref 12, .int x1] S (fun r9 S8 => px_R G px_Zc d m_Slices_row [.ref 12] S8 13 (fun S10 => px_I G px_Zc d m_Check_of [.ref 13, .int (r9 + (8 * x3)), .int 8] S10 (fun r12 S11 => px_w G px_Zc (d + 1) m_Writer_writeChecks 70 [.ref 23, .int x1, .int x2, .int x3, .int (r9 + (8 * x3)), .int r12, .int 0] [] S11 Q)))))) :
    px_w G px_Zc (d + 1) m_Writer_writeChecks 31 [.ref 23, .int x1, .int x2, .int x3, .null, .null, .null] [] S Q := by
  refine w_iload_n rfl rfl rfl ?_
  refine w_iload_n rfl rfl rfl ?_
  refine w_if_icmpge 125 rfl rfl rfl (fun hc => ?_) (fun hc => ?_)
  · have h := h.1 hc
    refine w_aload_n rfl rfl rfl ?_
    refine w_getR rfl rfl fl_Writer_9 rfl rfl ?_
    refine w_callV h cs_Writer_writeChecks_129 rfl rfl (Nat.le_of_ble_eq_true rfl) rfl (fun S7 h => ?_)
    exact w_return rfl rfl rfl h
  · have h := h.2 hc
    refine w_aload_n rfl rfl rfl ?_
    refine w_getR rfl rfl fl_Writer_24 rfl rfl ?_
    refine w_iload_n rfl rfl rfl ?_
    refine w_callI h cs_Writer_writeChecks_41 rfl rfl (Nat.le_of_ble_eq_true rfl) rfl (fun r9 S8 h => ?_)
    refine w_bipush (v := 8) rfl rfl (by decide) ?_
    refine w_iload_n rfl rfl rfl ?_
    refine w_imul rfl rfl ?_
    refine w_iadd rfl rfl ?_
    refine w_istore _ rfl rfl (by decide) rfl rfl ?_
    refine w_aload_n rfl rfl rfl ?_
    refine w_getR rfl rfl fl_Writer_24 rfl rfl ?_
    refine w_callR h cs_Writer_writeChecks_55 rfl rfl (Nat.le_of_ble_eq_true rfl) rfl (fun S10 h => ?_)
    refine w_iload rfl rfl rfl ?_
    refine w_bipush (v := 8) rfl rfl (by decide) ?_
    refine w_callI h cs_Writer_writeChecks_62 rfl rfl (Nat.le_of_ble_eq_true rfl) rfl (fun r12 S11 h => ?_)
    refine w_istore _ rfl rfl (by decide) rfl rfl ?_
    refine w_iconst (v := 0) rfl rfl (by decide) ?_
    refine w_istore _ rfl rfl (by decide) rfl rfl ?_
    exact h

set_option maxRecDepth 100000 in
theorem e_Writer_writeChecks_70 {G : px_G} {d : Nat} {x1 x2 x3 x4 x5 x6 : Int32} {S : px_S} {Q : Option Value → px_S → Prop}
    (h : ((4 ≤ x6 → px_R G px_Zc d m_Slices_row [.ref 12] S 13 (fun S13 => px_V G px_Zc d m_Sum_of [.ref 18, .ref 13, .int x4, .int 8] S13 (fun S14 => px_V G px_Zc d m_Writer_appendSum [.ref 23] S14 (fun S15 => px_w G px_Zc (d + 1) m_Writer_writeChecks 31 [.ref 23, .int x1, .int x2, .int (x3 + 1), .null, .null, .null] [] S15 Q)))) ∧ (¬ (4 ≤ x6) → px_V G px_Zc d m_Row_append [.ref 10, .int (px_ushr x5 (8 * x6))] S (fun S16 => px_w G px_Zc (d + 1) m_Writer_writeChecks 70 [.ref 23, .int x1, .int x2, .int x3, .int x4, .int x5, .int (x6 + 1)] [] S16 Q)))) :
    px_w G px_Zc (d + 1) m_Writer_writeChecks 70 [.ref 23, .int x1, .int x2, .int x3, .int x4, .int x5, .int x6] [] S Q := by
  refine w_iload rfl rfl rfl ?_
  refine w_iconst (v := 4) rfl rfl (by decide) ?_
  refine w_if_icmpge 97 rfl rfl rfl (fun hc => ?_) (fun hc => ?_)
  · have h := h.1 hc
    refine w_aload_n rfl rfl rfl ?_
    refine w_getR rfl rfl fl_Writer_28 rfl rfl ?_
    refine w_aload_n rfl rfl rfl ?_
    refine w_getR rfl rfl fl_Writer_24 rfl rfl ?_
    refine w_callR h cs_Writer_writeChecks_105 rfl rfl (Nat.le_of_ble_eq_true rfl) rfl (fun S13 h => ?_)
    refine w_iload rfl rfl rfl ?_
    refine w_bipush (v := 8) rfl rfl (by decide) ?_
    refine w_callV h cs_Writer_writeChecks_112 rfl rfl (Nat.le_of_ble_eq_true rfl) rfl (fun S14 h => ?_)
    refine w_aload_n rfl rfl rfl ?_
    refine w_callV h cs_Writer_writeChecks_116 rfl rfl (Nat.le_of_ble_eq_true rfl) rfl (fun S15 h => ?_)
    refine w_iinc (v := 1) _ rfl rfl (by decide) rfl rfl (by decide) rfl ?_
    refine w_goto 31 rfl rfl rfl ?_
    refine w_null 4 _ rfl ?_
    refine w_null 5 _ rfl ?_
    refine w_null 6 _ rfl ?_
    exact h
  · have h := h.2 hc
    refine w_aload_n rfl rfl rfl ?_
    refine w_getR rfl rfl fl_Writer_21 rfl rfl ?_
    refine w_iload rfl rfl rfl ?_
    refine w_bipush (v := 8) rfl rfl (by decide) ?_
    refine w_iload rfl rfl rfl ?_
    refine w_imul rfl rfl ?_
    refine w_iushr rfl rfl ?_
    refine w_callV h cs_Writer_writeChecks_88 rfl rfl (Nat.le_of_ble_eq_true rfl) rfl (fun S16 h => ?_)
    refine w_iinc (v := 1) _ rfl rfl (by decide) rfl rfl (by decide) rfl ?_
    refine w_goto 70 rfl rfl rfl ?_
    exact h

theorem f_Writer_writeChecks {G : px_G} {d : Nat} {x1 : Int32} {S : px_S} {Q : Option Value → px_S → Prop}
    (h : px_V G px_Zc d m_Packets_open [.ref 22, .int 73] S (fun S1 => px_V G px_Zc d m_Row_append [.ref 10, .int x1] S1 (fun S2 => px_I G px_Zc d m_Slices_size [.ref 12, .int x1] S2 (fun r4 S3 => px_I G px_Zc d m_PV_slicesOf [.int r4] S3 (fun r6 S5 => px_w G px_Zc (d + 1) m_Writer_writeChecks 31 [.ref 23, .int x1, .int r6, .int 0, .null, .null, .null] [] S5 Q))))) :
    px_M G px_Zc (d + 1) m_Writer_writeChecks [.ref 23, .int x1] S Q :=
  px_in (Or.inr ⟨_, _, _, _, _, rfl, rfl, rfl, rfl⟩) (by decide) (Nat.le_of_ble_eq_true rfl) (px_en 5 rfl) (e_Writer_writeChecks_0 h)

set_option maxRecDepth 100000 in
theorem e_Writer_writeRecovery_0 {G : px_G} {d : Nat} {x1 : Int32} {S : px_S} {Q : Option Value → px_S → Prop}
    (h : px_V G px_Zc d m_Packets_open [.ref 22, .int 82] S (fun S1 => px_V G px_Zc d m_Row_append [.ref 10, .int x1] S1 (fun S2 => px_V G px_Zc d m_Slices_weigh [.ref 12, .int x1, .int 0] S2 (fun S3 => px_w G px_Zc (d + 1) m_Writer_writeRecovery 28 [.ref 23, .int x1, .int 0] [] S3 Q)))) :
    px_w G px_Zc (d + 1) m_Writer_writeRecovery 0 [.ref 23, .int x1, .null] [] S Q := by
  refine w_aload_n rfl rfl rfl ?_
  refine w_getR rfl rfl fl_Writer_9 rfl rfl ?_
  refine w_bipush (v := 82) rfl rfl (by decide) ?_
  refine w_callV h cs_Writer_writeRecovery_6 rfl rfl (Nat.le_of_ble_eq_true rfl) rfl (fun S1 h => ?_)
  refine w_aload_n rfl rfl rfl ?_
  refine w_getR rfl rfl fl_Writer_21 rfl rfl ?_
  refine w_iload_n rfl rfl rfl ?_
  refine w_callV h cs_Writer_writeRecovery_14 rfl rfl (Nat.le_of_ble_eq_true rfl) rfl (fun S2 h => ?_)
  refine w_aload_n rfl rfl rfl ?_
  refine w_getR rfl rfl fl_Writer_24 rfl rfl ?_
  refine w_iload_n rfl rfl rfl ?_
  refine w_iconst (v := 0) rfl rfl (by decide) ?_
  refine w_callV h cs_Writer_writeRecovery_23 rfl rfl (Nat.le_of_ble_eq_true rfl) rfl (fun S3 h => ?_)
  refine w_iconst (v := 0) rfl rfl (by decide) ?_
  refine w_istore_n _ rfl rfl (by decide) rfl rfl ?_
  exact h

set_option maxRecDepth 100000 in
theorem e_Writer_writeRecovery_28 {G : px_G} {d : Nat} {x1 x2 : Int32} {S : px_S} {Q : Option Value → px_S → Prop}
    (h : ((4 ≤ x2 → px_V G px_Zc d m_Packets_close [.ref 22] S (fun S4 => Q none S4)) ∧ (¬ (4 ≤ x2) → px_I G px_Zc d m_Slices_weighed [.ref 12, .int x2] S (fun r6 S5 => px_V G px_Zc d m_Row_append [.ref 10, .int r6] S5 (fun S7 => px_I G px_Zc d m_Slices_weighed [.ref 12, .int x2] S7 (fun r9 S8 => px_V G px_Zc d m_Row_append [.ref 10, .int (px_ushr r9 8)] S8 (fun S10 => px_w G px_Zc (d + 1) m_Writer_writeRecovery 28 [.ref 23, .int x1, .int (x2 + 1)] [] S10 Q))))))) :
    px_w G px_Zc (d + 1) m_Writer_writeRecovery 28 [.ref 23, .int x1, .int x2] [] S Q := by
  refine w_iload_n rfl rfl rfl ?_
  refine w_iconst (v := 4) rfl rfl (by decide) ?_
  refine w_if_icmpge 72 rfl rfl rfl (fun hc => ?_) (fun hc => ?_)
  · have h := h.1 hc
    refine w_aload_n rfl rfl rfl ?_
    refine w_getR rfl rfl fl_Writer_9 rfl rfl ?_
    refine w_callV h cs_Writer_writeRecovery_76 rfl rfl (Nat.le_of_ble_eq_true rfl) rfl (fun S4 h => ?_)
    exact w_return rfl rfl rfl h
  · have h := h.2 hc
    refine w_aload_n rfl rfl rfl ?_
    refine w_getR rfl rfl fl_Writer_21 rfl rfl ?_
    refine w_aload_n rfl rfl rfl ?_
    refine w_getR rfl rfl fl_Writer_24 rfl rfl ?_
    refine w_iload_n rfl rfl rfl ?_
    refine w_callI h cs_Writer_writeRecovery_42 rfl rfl (Nat.le_of_ble_eq_true rfl) rfl (fun r6 S5 h => ?_)
    refine w_callV h cs_Writer_writeRecovery_45 rfl rfl (Nat.le_of_ble_eq_true rfl) rfl (fun S7 h => ?_)
    refine w_aload_n rfl rfl rfl ?_
    refine w_getR rfl rfl fl_Writer_21 rfl rfl ?_
    refine w_aload_n rfl rfl rfl ?_
    refine w_getR rfl rfl fl_Writer_24 rfl rfl ?_
    refine w_iload_n rfl rfl rfl ?_
    refine w_callI h cs_Writer_writeRecovery_57 rfl rfl (Nat.le_of_ble_eq_true rfl) rfl (fun r9 S8 h => ?_)
    refine w_bipush (v := 8) rfl rfl (by decide) ?_
    refine w_iushr rfl rfl ?_
    refine w_callV h cs_Writer_writeRecovery_63 rfl rfl (Nat.le_of_ble_eq_true rfl) rfl (fun S10 h => ?_)
    refine w_iinc (v := 1) _ rfl rfl (by decide) rfl rfl (by decide) rfl ?_
    refine w_goto 28 rfl rfl rfl ?_
    exact h

theorem f_Writer_writeRecovery {G : px_G} {d : Nat} {x1 : Int32} {S : px_S} {Q : Option Value → px_S → Prop}
    (h : px_V G px_Zc d m_Packets_open [.ref 22, .int 82] S (fun S1 => px_V G px_Zc d m_Row_append [.ref 10, .int x1] S1 (fun S2 => px_V G px_Zc d m_Slices_weigh [.ref 12, .int x1, .int 0] S2 (fun S3 => px_w G px_Zc (d + 1) m_Writer_writeRecovery 28 [.ref 23, .int x1, .int 0] [] S3 Q)))) :
    px_M G px_Zc (d + 1) m_Writer_writeRecovery [.ref 23, .int x1] S Q :=
  px_in (Or.inr ⟨_, _, _, _, _, rfl, rfl, rfl, rfl⟩) (by decide) (Nat.le_of_ble_eq_true rfl) (px_en 1 rfl) (e_Writer_writeRecovery_0 h)

set_option maxRecDepth 100000 in
theorem e_Writer_appendSum_0 {G : px_G} {d : Nat} {S : px_S} {Q : Option Value → px_S → Prop}
    (h : px_w G px_Zc (d + 1) m_Writer_appendSum 2 [.ref 23, .int 0] [] S Q) :
    px_w G px_Zc (d + 1) m_Writer_appendSum 0 [.ref 23, .null] [] S Q := by
  refine w_iconst (v := 0) rfl rfl (by decide) ?_
  refine w_istore_n _ rfl rfl (by decide) rfl rfl ?_
  exact h

set_option maxRecDepth 100000 in
theorem e_Writer_appendSum_2 {G : px_G} {d : Nat} {x1 : Int32} {S : px_S} {Q : Option Value → px_S → Prop}
    (h : ((16 ≤ x1 → Q none S) ∧ (¬ (16 ≤ x1) → px_I G px_Zc d m_Sum_get [.ref 18, .int x1] S (fun r2 S1 => px_V G px_Zc d m_Row_append [.ref 10, .int r2] S1 (fun S3 => px_w G px_Zc (d + 1) m_Writer_appendSum 2 [.ref 23, .int (x1 + 1)] [] S3 Q))))) :
    px_w G px_Zc (d + 1) m_Writer_appendSum 2 [.ref 23, .int x1] [] S Q := by
  refine w_iload_n rfl rfl rfl ?_
  refine w_bipush (v := 16) rfl rfl (by decide) ?_
  refine w_if_icmpge 29 rfl rfl rfl (fun hc => ?_) (fun hc => ?_)
  · have h := h.1 hc
    exact w_return rfl rfl rfl h
  · have h := h.2 hc
    refine w_aload_n rfl rfl rfl ?_
    refine w_getR rfl rfl fl_Writer_21 rfl rfl ?_
    refine w_aload_n rfl rfl rfl ?_
    refine w_getR rfl rfl fl_Writer_28 rfl rfl ?_
    refine w_iload_n rfl rfl rfl ?_
    refine w_callI h cs_Writer_appendSum_17 rfl rfl (Nat.le_of_ble_eq_true rfl) rfl (fun r2 S1 h => ?_)
    refine w_callV h cs_Writer_appendSum_20 rfl rfl (Nat.le_of_ble_eq_true rfl) rfl (fun S3 h => ?_)
    refine w_iinc (v := 1) _ rfl rfl (by decide) rfl rfl (by decide) rfl ?_
    refine w_goto 2 rfl rfl rfl ?_
    exact h

theorem f_Writer_appendSum {G : px_G} {d : Nat} {S : px_S} {Q : Option Value → px_S → Prop}
    (h : px_w G px_Zc (d + 1) m_Writer_appendSum 2 [.ref 23, .int 0] [] S Q) :
    px_M G px_Zc (d + 1) m_Writer_appendSum [.ref 23] S Q :=
  px_in (Or.inr ⟨_, _, _, _, _, rfl, rfl, rfl, rfl⟩) (by decide) (Nat.le_of_ble_eq_true rfl) (px_en 1 rfl) (e_Writer_appendSum_0 h)

