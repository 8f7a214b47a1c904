set_option maxRecDepth 100000 in
theorem e_Mo_put_0 {G : px_G} {d : Nat} {x1 : Int32} {S : px_S} {Q : Option Value → px_S → Prop}
    (h : (vp_in (S 0 8) 900 ∧ (∀ S1 : px_S, S1 = (px_u (px_u S 7 (S 0 8).toNatClampNeg (x1 &&& 255)) 0 8 (((px_u S 7 (S 0 8).toNatClampNeg (x1 &&& 255)) 0 8) + 1)) → Q none S1))) :
    px_w G px_Zr d m_Mo_put 0 [.ref 0, .int x1] [] S Q := by
  refine w_aload_n rfl rfl rfl ?_
  refine w_getR rfl rfl fl_Mo_92 rfl rfl ?_
  refine w_aload_n rfl rfl rfl ?_
  refine w_getI rfl rfl fl_Mo_128 rfl rfl ?_
  refine w_iload_n rfl rfl rfl ?_
  refine w_sipush (v := 255) rfl rfl (by decide) ?_
  refine w_iand rfl rfl ?_
  refine w_iastore rfl rfl rfl h.1 ?_
  have h := h.2
  refine w_aload_n rfl rfl rfl ?_
  refine w_dup rfl rfl rfl ?_
  refine w_getI rfl rfl fl_Mo_128 rfl rfl ?_
  refine w_iconst (v := 1) rfl rfl (by decide) ?_
  refine w_iadd rfl rfl ?_
  refine w_put rfl rfl fl_Mo_128 fw_Mo_8 rfl rfl ?_
  have h := h _ rfl
  exact w_return rfl rfl rfl h

theorem f_Mo_put {G : px_G} {d : Nat} {x1 : Int32} {S : px_S} {Q : Option Value → px_S → Prop}
    (h : (vp_in (S 0 8) 900 ∧ (∀ S1 : px_S, S1 = (px_u (px_u S 7 (S 0 8).toNatClampNeg (x1 &&& 255)) 0 8 (((px_u S 7 (S 0 8).toNatClampNeg (x1 &&& 255)) 0 8) + 1)) → Q none S1))) :
    px_M G px_Zr d m_Mo_put [.ref 0, .int x1] S Q :=
  px_in (Or.inr ⟨_, _, _, _, _, rfl, rfl, rfl, rfl⟩) (by decide) (Nat.le_of_ble_eq_true rfl) (px_en 0 rfl) (e_Mo_put_0 h)

set_option maxRecDepth 100000 in
theorem e_Mo_turned_0 {G : px_G} {d : Nat} {x0 x1 : Int32} {S : px_S} {Q : Option Value → px_S → Prop}
    (h : Q (some (.int ((px_shl x0 x1) ||| (px_ushr x0 (32 - x1))))) S) :
    px_w G px_Zr d m_Mo_turned 0 [.int x0, .int x1] [] S Q := by
  refine w_iload_n rfl rfl rfl ?_
  refine w_iload_n rfl rfl rfl ?_
  refine w_ishl rfl rfl ?_
  refine w_iload_n rfl rfl rfl ?_
  refine w_bipush (v := 32) rfl rfl (by decide) ?_
  refine w_iload_n rfl rfl rfl ?_
  refine w_isub rfl rfl ?_
  refine w_iushr rfl rfl ?_
  refine w_ior rfl rfl ?_
  exact w_ireturn rfl rfl rfl h

theorem f_Mo_turned {G : px_G} {d : Nat} {x0 x1 : Int32} {S : px_S} {Q : Option Value → px_S → Prop}
    (h : Q (some (.int ((px_shl x0 x1) ||| (px_ushr x0 (32 - x1))))) S) :
    px_M G px_Zr d m_Mo_turned [.int x0, .int x1] S Q :=
  px_in (Or.inl rfl) (by decide) (Nat.le_of_ble_eq_true rfl) (px_en 0 rfl) (e_Mo_turned_0 h)

set_option maxRecDepth 100000 in
theorem e_Mo_shift_0 {G : px_G} {d : Nat} {x0 : Int32} {S : px_S} {Q : Option Value → px_S → Prop}
    (h : ((16 ≤ x0 → ((32 ≤ x0 → ((48 ≤ x0 → ((¬ (px_rem x0 4) = 0 → ((¬ (px_rem x0 4) = 1 → ((¬ (px_rem x0 4) = 2 → Q (some (.int 21)) S) ∧ ((px_rem x0 4) = 2 → Q (some (.int 15)) S))) ∧ ((px_rem x0 4) = 1 → Q (some (.int 10)) S))) ∧ ((px_rem x0 4) = 0 → Q (some (.int 6)) S))) ∧ (¬ (48 ≤ x0) → ((¬ (px_rem x0 4) = 0 → ((¬ (px_rem x0 4) = 1 → ((¬ (px_rem x0 4) = 2 → Q (some (.int 23)) S) ∧ ((px_rem x0 4) = 2 → Q (some (.int 16)) S))) ∧ ((px_rem x0 4) = 1 → Q (some (.int 11)) S))) ∧ ((px_rem x0 4) = 0 → Q (some (.int 4)) S))))) ∧ (¬ (32 ≤ x0) → ((¬ (px_rem x0 4) = 0 → ((¬ (px_rem x0 4) = 1 → ((¬ (px_rem x0 4) = 2 → Q (some (.int 20)) S) ∧ ((px_rem x0 4) = 2 → Q (some (.int 14)) S))) ∧ ((px_rem x0 4) = 1 → Q (some (.int 9)) S))) ∧ ((px_rem x0 4) = 0 → Q (some (.int 5)) S))))) ∧ (¬ (16 ≤ x0) → Q (some (.int (7 + (5 * (px_rem x0 4))))) S))) :
    px_w G px_Zr d m_Mo_shift 0 [.int x0, .null] [] S Q := by
  refine w_iload_n rfl rfl rfl ?_
  refine w_iconst (v := 4) rfl rfl (by decide) ?_
  refine w_irem rfl rfl (by decide) ?_
  refine w_istore_n _ rfl rfl (by decide) rfl rfl ?_
  refine w_iload_n rfl rfl rfl ?_
  refine w_bipush (v := 16) rfl rfl (by decide) ?_
  refine w_if_icmpge 19 rfl rfl rfl (fun hc => ?_) (fun hc => ?_)
  · have h := h.1 hc
    refine w_iload_n rfl rfl rfl ?_
    refine w_bipush (v := 32) rfl rfl (by decide) ?_
    refine w_if_icmpge 58 rfl rfl rfl (fun hc => ?_) (fun hc => ?_)
    · have h := h.1 hc
      refine w_iload_n rfl rfl rfl ?_
      refine w_bipush (v := 48) rfl rfl (by decide) ?_
      refine w_if_icmpge 97 rfl rfl rfl (fun hc => ?_) (fun hc => ?_)
      · have h := h.1 hc
        refine w_iload_n rfl rfl rfl ?_
        refine w_ifne 106 rfl rfl rfl (fun hc => ?_) (fun hc => ?_)
        · have h := h.1 hc
          refine w_iload_n rfl rfl rfl ?_
          refine w_iconst (v := 1) rfl rfl (by decide) ?_
          refine w_if_icmpne 116 rfl rfl rfl (fun hc => ?_) (fun hc => ?_)
          · have h := h.1 hc
            refine w_iload_n rfl rfl rfl ?_
            refine w_iconst (v := 2) rfl rfl (by decide) ?_
            refine w_if_icmpne 126 rfl rfl rfl (fun hc => ?_) (fun hc => ?_)
            · have h := h.1 hc
              refine w_bipush (v := 21) rfl rfl (by decide) ?_
              exact w_ireturn rfl rfl rfl h
            · have h := h.2 hc
              refine w_bipush (v := 15) rfl rfl (by decide) ?_
              refine w_goto 128 rfl rfl rfl ?_
              exact w_ireturn rfl rfl rfl h
          · have h := h.2 hc
            refine w_bipush (v := 10) rfl rfl (by decide) ?_
            refine w_goto 128 rfl rfl rfl ?_
            exact w_ireturn rfl rfl rfl h
        · have h := h.2 hc
          refine w_bipush (v := 6) rfl rfl (by decide) ?_
          refine w_goto 128 rfl rfl rfl ?_
          exact w_ireturn rfl rfl rfl h
      · have h := h.2 hc
        refine w_iload_n rfl rfl rfl ?_
        refine w_ifne 72 rfl rfl rfl (fun hc => ?_) (fun hc => ?_)
        · have h := h.1 hc
          refine w_iload_n rfl rfl rfl ?_
          refine w_iconst (v := 1) rfl rfl (by decide) ?_
          refine w_if_icmpne 82 rfl rfl rfl (fun hc => ?_) (fun hc => ?_)
          · have h := h.1 hc
            refine w_iload_n rfl rfl rfl ?_
            refine w_iconst (v := 2) rfl rfl (by decide) ?_
            refine w_if_icmpne 92 rfl rfl rfl (fun hc => ?_) (fun hc => ?_)
            · have h := h.1 hc
              refine w_bipush (v := 23) rfl rfl (by decide) ?_
              refine w_goto 128 rfl rfl rfl ?_
              exact w_ireturn rfl rfl rfl h
            · have h := h.2 hc
              refine w_bipush (v := 16) rfl rfl (by decide) ?_
              refine w_goto 128 rfl rfl rfl ?_
              exact w_ireturn rfl rfl rfl h
          · have h := h.2 hc
            refine w_bipush (v := 11) rfl rfl (by decide) ?_
            refine w_goto 128 rfl rfl rfl ?_
            exact w_ireturn rfl rfl rfl h
        · have h := h.2 hc
          refine w_iconst (v := 4) rfl rfl (by decide) ?_
          refine w_goto 128 rfl rfl rfl ?_
          exact w_ireturn rfl rfl rfl h
    · have h := h.2 hc
      refine w_iload_n rfl rfl rfl ?_
      refine w_ifne 33 rfl rfl rfl (fun hc => ?_) (fun hc => ?_)
      · have h := h.1 hc
        refine w_iload_n rfl rfl rfl ?_
        refine w_iconst (v := 1) rfl rfl (by decide) ?_
        refine w_if_icmpne 43 rfl rfl rfl (fun hc => ?_) (fun hc => ?_)
        · have h := h.1 hc
          refine w_iload_n rfl rfl rfl ?_
          refine w_iconst (v := 2) rfl rfl (by decide) ?_
          refine w_if_icmpne 53 rfl rfl rfl (fun hc => ?_) (fun hc => ?_)
          · have h := h.1 hc
            refine w_bipush (v := 20) rfl rfl (by decide) ?_
            refine w_goto 128 rfl rfl rfl ?_
            exact w_ireturn rfl rfl rfl h
          · have h := h.2 hc
            refine w_bipush (v := 14) rfl rfl (by decide) ?_
            refine w_goto 128 rfl rfl rfl ?_
            exact w_ireturn rfl rfl rfl h
        · have h := h.2 hc
          refine w_bipush (v := 9) rfl rfl (by decide) ?_
          refine w_goto 128 rfl rfl rfl ?_
          exact w_ireturn rfl rfl rfl h
      · have h := h.2 hc
        refine w_iconst (v := 5) rfl rfl (by decide) ?_
        refine w_goto 128 rfl rfl rfl ?_
        exact w_ireturn rfl rfl rfl h
  · have h := h.2 hc
    refine w_bipush (v := 7) rfl rfl (by decide) ?_
    refine w_iconst (v := 5) rfl rfl (by decide) ?_
    refine w_iload_n rfl rfl rfl ?_
    refine w_imul rfl rfl ?_
    refine w_iadd rfl rfl ?_
    refine w_goto 128 rfl rfl rfl ?_
    exact w_ireturn rfl rfl rfl h

theorem f_Mo_shift {G : px_G} {d : Nat} {x0 : Int32} {S : px_S} {Q : Option Value → px_S → Prop}
    (h : ((16 ≤ x0 → ((32 ≤ x0 → ((48 ≤ x0 → ((¬ (px_rem x0 4) = 0 → ((¬ (px_rem x0 4) = 1 → ((¬ (px_rem x0 4) = 2 → Q (some (.int 21)) S) ∧ ((px_rem x0 4) = 2 → Q (some (.int 15)) S))) ∧ ((px_rem x0 4) = 1 → Q (some (.int 10)) S))) ∧ ((px_rem x0 4) = 0 → Q (some (.int 6)) S))) ∧ (¬ (48 ≤ x0) → ((¬ (px_rem x0 4) = 0 → ((¬ (px_rem x0 4) = 1 → ((¬ (px_rem x0 4) = 2 → Q (some (.int 23)) S) ∧ ((px_rem x0 4) = 2 → Q (some (.int 16)) S))) ∧ ((px_rem x0 4) = 1 → Q (some (.int 11)) S))) ∧ ((px_rem x0 4) = 0 → Q (some (.int 4)) S))))) ∧ (¬ (32 ≤ x0) → ((¬ (px_rem x0 4) = 0 → ((¬ (px_rem x0 4) = 1 → ((¬ (px_rem x0 4) = 2 → Q (some (.int 20)) S) ∧ ((px_rem x0 4) = 2 → Q (some (.int 14)) S))) ∧ ((px_rem x0 4) = 1 → Q (some (.int 9)) S))) ∧ ((px_rem x0 4) = 0 → Q (some (.int 5)) S))))) ∧ (¬ (16 ≤ x0) → Q (some (.int (7 + (5 * (px_rem x0 4))))) S))) :
    px_M G px_Zr d m_Mo_shift [.int x0] S Q :=
  px_in (Or.inl rfl) (by decide) (Nat.le_of_ble_eq_true rfl) (px_en 1 rfl) (e_Mo_shift_0 h)

set_option maxRecDepth 100000 in
theorem e_Mo_makeSum_0 {G : px_G} {d : Nat} {S : px_S} {Q : Option Value → px_S → Prop}
    (h : px_V G px_Zr d m_Mo_put [.ref 0, .int 128] S (fun S1 => px_w G px_Zr (d + 1) m_Mo_makeSum 12 [.ref 0, .int (S 0 8), .null, .null, .null, .null, .null, .null, .null, .null, .null, .null, .null, .null, .null] [] S1 Q)) :
    px_w G px_Zr (d + 1) m_Mo_makeSum 0 [.ref 0, .null, .null, .null, .null, .null, .null, .null, .null, .null, .null, .null, .null, .null, .null] [] S Q := by
  refine w_aload_n rfl rfl rfl ?_
  refine w_getI rfl rfl fl_Mo_128 rfl rfl ?_
  refine w_istore_n _ rfl rfl (by decide) rfl rfl ?_
  refine w_aload_n rfl rfl rfl ?_
  refine w_sipush (v := 128) rfl rfl (by decide) ?_
  refine w_callV h cs_Mo_makeSum_9 rfl rfl (Nat.le_of_ble_eq_true rfl) rfl (fun S1 h => ?_)
  exact h

set_option maxRecDepth 100000 in
theorem e_Mo_makeSum_12 {G : px_G} {d : Nat} {x1 : Int32} {S : px_S} {Q : Option Value → px_S → Prop}
    (h : (((px_rem (S 0 8) 64) = 56 → px_w G px_Zr (d + 1) m_Mo_makeSum 34 [.ref 0, .int x1, .int 0, .null, .null, .null, .null, .null, .null, .null, .null, .null, .null, .null, .null] [] S Q) ∧ (¬ (px_rem (S 0 8) 64) = 56 → px_V G px_Zr d m_Mo_put [.ref 0, .int 0] S (fun S2 => px_w G px_Zr (d + 1) m_Mo_makeSum 12 [.ref 0, .int x1, .null, .null, .null, .null, .null, .null, .null, .null, .null, .null, .null, .null, .null] [] S2 Q)))) :
    px_w G px_Zr (d + 1) m_Mo_makeSum 12 [.ref 0, .int x1, .null, .null, .null, .null, .null, .null, .null, .null, .null, .null, .null, .null, .null] [] S Q := by
  refine w_aload_n rfl rfl rfl ?_
  refine w_getI rfl rfl fl_Mo_128 rfl rfl ?_
  refine w_bipush (v := 64) rfl rfl (by decide) ?_
  refine w_irem rfl rfl (by decide) ?_
  refine w_bipush (v := 56) rfl rfl (by decide) ?_
  refine w_if_icmpeq 32 rfl rfl rfl (fun hc => ?_) (fun hc => ?_)
  · have h := h.1 hc
    refine w_iconst (v := 0) rfl rfl (by decide) ?_
    refine w_istore_n _ rfl rfl (by decide) rfl rfl ?_
    exact h
  · have h := h.2 hc
    refine w_aload_n rfl rfl rfl ?_
    refine w_iconst (v := 0) rfl rfl (by decide) ?_
    refine w_callV h cs_Mo_makeSum_26 rfl rfl (Nat.le_of_ble_eq_true rfl) rfl (fun S2 h => ?_)
    refine w_goto 12 rfl rfl rfl ?_
    exact h

set_option maxRecDepth 100000 in
theorem e_Mo_makeSum_34 {G : px_G} {d : Nat} {x1 x2 : Int32} {S : px_S} {Q : Option Value → px_S → Prop}
    (h : ((8 ≤ x2 → px_w G px_Zr (d + 1) m_Mo_makeSum 85 [.ref 0, .int x1, .int 1732584193, .int (-271733879), .int (-1732584194), .int 271733878, .int 0, .null, .null, .null, .null, .null, .null, .null, .null] [] S Q) ∧ (¬ (8 ≤ x2) → ((4 ≤ x2 → px_V G px_Zr d m_Mo_put [.ref 0, .int 0] S (fun S3 => px_w G px_Zr (d + 1) m_Mo_makeSum 34 [.ref 0, .int x1, .int (x2 + 1), .null, .null, .null, .null, .null, .null, .null, .null, .null, .null, .null, .null] [] S3 Q)) ∧ (¬ (4 ≤ x2) → px_V G px_Zr d m_Mo_put [.ref 0, .int (px_ushr (8 * x1) (8 * x2))] S (fun S4 => px_w G px_Zr (d + 1) m_Mo_makeSum 34 [.ref 0, .int x1, .int (x2 + 1), .null, .null, .null, .null, .null, .null, .null, .null, .null, .null, .null, .null] [] S4 Q)))))) :
    px_w G px_Zr (d + 1) m_Mo_makeSum 34 [.ref 0, .int x1, .int x2, .null, .null, .null, .null, .null, .null, .null, .null, .null, .null, .null, .null] [] S Q := by
  refine w_iload_n rfl rfl rfl ?_
  refine w_bipush (v := 8) rfl rfl (by decide) ?_
  refine w_if_icmpge 68 rfl rfl rfl (fun hc => ?_) (fun hc => ?_)
  · have h := h.1 hc
    refine w_ldc rfl rfl lc_Mo_136 ?_
    refine w_istore_n _ rfl rfl (by decide) rfl rfl ?_
    refine w_ldc rfl rfl lc_Mo_137 ?_
    refine w_istore_n _ rfl rfl (by decide) rfl rfl ?_
    refine w_ldc rfl rfl lc_Mo_138 ?_
    refine w_istore _ rfl rfl (by decide) rfl rfl ?_
    refine w_ldc rfl rfl lc_Mo_139 ?_
    refine w_istore _ rfl rfl (by decide) rfl rfl ?_
    refine w_iconst (v := 0) rfl rfl (by decide) ?_
    refine w_istore _ rfl rfl (by decide) rfl rfl ?_
    exact h
  · have h := h.2 hc
    refine w_aload_n rfl rfl rfl ?_
    refine w_iload_n rfl rfl rfl ?_
    refine w_iconst (v := 4) rfl rfl (by decide) ?_
    refine w_if_icmpge 58 rfl rfl rfl (fun hc => ?_) (fun hc => ?_)
    · have h := h.1 hc
      refine w_iconst (v := 0) rfl rfl (by decide) ?_
      refine w_callV h cs_Mo_makeSum_59 rfl rfl (Nat.le_of_ble_eq_true rfl) rfl (fun S3 h => ?_)
      refine w_iinc (v := 1) _ rfl rfl (by decide) rfl rfl (by decide) rfl ?_
      refine w_goto 34 rfl rfl rfl ?_
      exact h
    · have h := h.2 hc
      refine w_bipush (v := 8) rfl rfl (by decide) ?_
      refine w_iload_n rfl rfl rfl ?_
      refine w_imul rfl rfl ?_
      refine w_bipush (v := 8) rfl rfl (by decide) ?_
      refine w_iload_n rfl rfl rfl ?_
      refine w_imul rfl rfl ?_
      refine w_iushr rfl rfl ?_
      refine w_goto 59 rfl rfl rfl ?_
      refine w_callV h cs_Mo_makeSum_59 rfl rfl (Nat.le_of_ble_eq_true rfl) rfl (fun S4 h => ?_)
      refine w_iinc (v := 1) _ rfl rfl (by decide) rfl rfl (by decide) rfl ?_
      refine w_goto 34 rfl rfl rfl ?_
      exact h

set_option maxRecDepth 100000 in
theorem e_Mo_makeSum_85 {G : px_G} {d : Nat} {x1 x2 x3 x4 x5 x6 : Int32} {S : px_S} {Q : Option Value → px_S → Prop}
    (h : (((S 0 8) ≤ x6 → px_w G px_Zr (d + 1) m_Mo_makeSum 416 [.ref 0, .int x1, .int x2, .int x3, .int x4, .int x5, .int 0, .null, .null, .null, .null, .null, .null, .null, .null] [] S Q) ∧ (¬ ((S 0 8) ≤ x6) → px_w G px_Zr (d + 1) m_Mo_makeSum 97 [.ref 0, .int x1, .int x2, .int x3, .int x4, .int x5, .int x6, .int 0, .null, .null, .null, .null, .null, .null, .null] [] S Q))) :
    px_w G px_Zr (d + 1) m_Mo_makeSum 85 [.ref 0, .int x1, .int x2, .int x3, .int x4, .int x5, .int x6, .null, .null, .null, .null, .null, .null, .null, .null] [] S Q := by
  refine w_iload rfl rfl rfl ?_
  refine w_aload_n rfl rfl rfl ?_
  refine w_getI rfl rfl fl_Mo_128 rfl rfl ?_
  refine w_if_icmpge 413 rfl rfl rfl (fun hc => ?_) (fun hc => ?_)
  · have h := h.1 hc
    refine w_iconst (v := 0) rfl rfl (by decide) ?_
    refine w_istore _ rfl rfl (by decide) rfl rfl ?_
    exact h
  · have h := h.2 hc
    refine w_iconst (v := 0) rfl rfl (by decide) ?_
    refine w_istore _ rfl rfl (by decide) rfl rfl ?_
    exact h

set_option maxRecDepth 100000 in
theorem e_Mo_makeSum_97 {G : px_G} {d : Nat} {x1 x2 x3 x4 x5 x6 x7 : Int32} {S : px_S} {Q : Option Value → px_S → Prop}
    (h : ((16 ≤ x7 → px_w G px_Zr (d + 1) m_Mo_makeSum 200 [.ref 0, .int x1, .int x2, .int x3, .int x4, .int x5, .int x6, .int x2, .int x3, .int x4, .int x5, .int 0, .null, .null, .null] [] S Q) ∧ (¬ (16 ≤ x7) → (vp_in (x6 + (4 * x7)) 900 ∧ (vp_in ((x6 + (4 * x7)) + 1) 900 ∧ (vp_in ((x6 + (4 * x7)) + 2) 900 ∧ (vp_in ((x6 + (4 * x7)) + 3) 900 ∧ (vp_in x7 16 ∧ (∀ S5 : px_S, S5 = (px_u S 8 x7.toNatClampNeg ((((S 7 (x6 + (4 * x7)).toNatClampNeg) ||| (px_shl (S 7 ((x6 + (4 * x7)) + 1).toNatClampNeg) 8)) ||| (px_shl (S 7 ((x6 + (4 * x7)) + 2).toNatClampNeg) 16)) ||| (px_shl (S 7 ((x6 + (4 * x7)) + 3).toNatClampNeg) 24))) → px_w G px_Zr (d + 1) m_Mo_makeSum 97 [.ref 0, .int x1, .int x2, .int x3, .int x4, .int x5, .int x6, .int (x7 + 1), .null, .null, .null, .null, .null, .null, .null] [] S5 Q))))))))) :
    px_w G px_Zr (d + 1) m_Mo_makeSum 97 [.ref 0, .int x1, .int x2, .int x3, .int x4, .int x5, .int x6, .int x7, .null, .null, .null, .null, .null, .null, .null] [] S Q := by
  refine w_iload rfl rfl rfl ?_
  refine w_bipush (v := 16) rfl rfl (by decide) ?_
  refine w_if_icmpge 183 rfl rfl rfl (fun hc => ?_) (fun hc => ?_)
  · have h := h.1 hc
    refine w_iload_n rfl rfl rfl ?_
    refine w_istore _ rfl rfl (by decide) rfl rfl ?_
    refine w_iload_n rfl rfl rfl ?_
    refine w_istore _ rfl rfl (by decide) rfl rfl ?_
    refine w_iload rfl rfl rfl ?_
    refine w_istore _ rfl rfl (by decide) rfl rfl ?_
    refine w_iload rfl rfl rfl ?_
    refine w_istore _ rfl rfl (by decide) rfl rfl ?_
    refine w_iconst (v := 0) rfl rfl (by decide) ?_
    refine w_istore _ rfl rfl (by decide) rfl rfl ?_
    exact h
  · have h := h.2 hc
    refine w_aload_n rfl rfl rfl ?_
    refine w_getR rfl rfl fl_Mo_95 rfl rfl ?_
    refine w_iload rfl rfl rfl ?_
    refine w_aload_n rfl rfl rfl ?_
    refine w_getR rfl rfl fl_Mo_92 rfl rfl ?_
    refine w_iload rfl rfl rfl ?_
    refine w_iconst (v := 4) rfl rfl (by decide) ?_
    refine w_iload rfl rfl rfl ?_
    refine w_imul rfl rfl ?_
    refine w_iadd rfl rfl ?_
    refine w_iaload rfl rfl rfl h.1 ?_
    have h := h.2
    refine w_aload_n rfl rfl rfl ?_
    refine w_getR rfl rfl fl_Mo_92 rfl rfl ?_
    refine w_iload rfl rfl rfl ?_
    refine w_iconst (v := 4) rfl rfl (by decide) ?_
    refine w_iload rfl rfl rfl ?_
    refine w_imul rfl rfl ?_
    refine w_iadd rfl rfl ?_
    refine w_iconst (v := 1) rfl rfl (by decide) ?_
    refine w_iadd rfl rfl ?_
    refine w_iaload rfl rfl rfl h.1 ?_
    have h := h.2
    refine w_bipush (v := 8) rfl rfl (by decide) ?_
    refine w_ishl rfl rfl ?_
    refine w_ior rfl rfl ?_
    refine w_aload_n rfl rfl rfl ?_
    refine w_getR rfl rfl fl_Mo_92 rfl rfl ?_
    refine w_iload rfl rfl rfl ?_
    refine w_iconst (v := 4) rfl rfl (by decide) ?_
    refine w_iload rfl rfl rfl ?_
    refine w_imul rfl rfl ?_
    refine w_iadd rfl rfl ?_
    refine w_iconst (v := 2) rfl rfl (by decide) ?_
    refine w_iadd rfl rfl ?_
    refine w_iaload rfl rfl rfl h.1 ?_
    have h := h.2
    refine w_bipush (v := 16) rfl rfl (by decide) ?_
    refine w_ishl rfl rfl ?_
    refine w_ior rfl rfl ?_
    refine w_aload_n rfl rfl rfl ?_
    refine w_getR rfl rfl fl_Mo_92 rfl rfl ?_
    refine w_iload rfl rfl rfl ?_
    refine w_iconst (v := 4) rfl rfl (by decide) ?_
    refine w_iload rfl rfl rfl ?_
    refine w_imul rfl rfl ?_
    refine w_iadd rfl rfl ?_
    refine w_iconst (v := 3) rfl rfl (by decide) ?_
    refine w_iadd rfl rfl ?_
    refine w_iaload rfl rfl rfl h.1 ?_
    have h := h.2
    refine w_bipush (v := 24) rfl rfl (by decide) ?_
    refine w_ishl rfl rfl ?_
    refine w_ior rfl rfl ?_
    refine w_iastore rfl rfl rfl h.1 ?_
    have h := h.2
    have h := h _ rfl
    refine w_iinc (v := 1) _ rfl rfl (by decide) rfl rfl (by decide) rfl ?_
    refine w_goto 97 rfl rfl rfl ?_
    exact h

set_option maxRecDepth 100000 in
theorem e_Mo_makeSum_200 {G : px_G} {d : Nat} {x1 x2 x3 x4 x5 x6 x7 x8 x9 x10 x11 : Int32} {S : px_S} {Q : Option Value → px_S → Prop}
    (h : ((64 ≤ x11 → px_w G px_Zr (d + 1) m_Mo_makeSum 85 [.ref 0, .int x1, .int (x2 + x7), .int (x3 + x8), .int (x4 + x9), .int (x5 + x10), .int (x6 + 64), .null, .null, .null, .null, .null, .null, .null, .null] [] S Q) ∧ (¬ (64 ≤ x11) → ((16 ≤ x11 → ((32 ≤ x11 → ((48 ≤ x11 → px_w G px_Zr (d + 1) m_Mo_makeSum 278 [.ref 0, .int x1, .int x2, .int x3, .int x4, .int x5, .int x6, .int x7, .int x8, .int x9, .int x10, .int x11, .int (x4 ^^^ (x3 ||| (x5 ^^^ (-1)))), .null, .null] [] S Q) ∧ (¬ (48 ≤ x11) → px_w G px_Zr (d + 1) m_Mo_makeSum 278 [.ref 0, .int x1, .int x2, .int x3, .int x4, .int x5, .int x6, .int x7, .int x8, .int x9, .int x10, .int x11, .int ((x3 ^^^ x4) ^^^ x5), .null, .null] [] S Q))) ∧ (¬ (32 ≤ x11) → px_w G px_Zr (d + 1) m_Mo_makeSum 278 [.ref 0, .int x1, .int x2, .int x3, .int x4, .int x5, .int x6, .int x7, .int x8, .int x9, .int x10, .int x11, .int ((x5 &&& x3) ||| ((x5 ^^^ (-1)) &&& x4)), .null, .null] [] S Q))) ∧ (¬ (16 ≤ x11) → px_w G px_Zr (d + 1) m_Mo_makeSum 278 [.ref 0, .int x1, .int x2, .int x3, .int x4, .int x5, .int x6, .int x7, .int x8, .int x9, .int x10, .int x11, .int ((x3 &&& x4) ||| ((x3 ^^^ (-1)) &&& x5)), .null, .null] [] S Q))))) :
    px_w G px_Zr (d + 1) m_Mo_makeSum 200 [.ref 0, .int x1, .int x2, .int x3, .int x4, .int x5, .int x6, .int x7, .int x8, .int x9, .int x10, .int x11, .null, .null, .null] [] S Q := by
  refine w_iload rfl rfl rfl ?_
  refine w_bipush (v := 64) rfl rfl (by decide) ?_
  refine w_if_icmpge 383 rfl rfl rfl (fun hc => ?_) (fun hc => ?_)
  · have h := h.1 hc
    refine w_iload_n rfl rfl rfl ?_
    refine w_iload rfl rfl rfl ?_
    refine w_iadd rfl rfl ?_
    refine w_istore_n _ rfl rfl (by decide) rfl rfl ?_
    refine w_iload_n rfl rfl rfl ?_
    refine w_iload rfl rfl rfl ?_
    refine w_iadd rfl rfl ?_
    refine w_istore_n _ rfl rfl (by decide) rfl rfl ?_
    refine w_iload rfl rfl rfl ?_
    refine w_iload rfl rfl rfl ?_
    refine w_iadd rfl rfl ?_
    refine w_istore _ rfl rfl (by decide) rfl rfl ?_
    refine w_iload rfl rfl rfl ?_
    refine w_iload rfl rfl rfl ?_
    refine w_iadd rfl rfl ?_
    refine w_istore _ rfl rfl (by decide) rfl rfl ?_
    refine w_iinc (v := 64) _ rfl rfl (by decide) rfl rfl (by decide) rfl ?_
    refine w_goto 85 rfl rfl rfl ?_
    refine w_null 7 _ rfl ?_
    refine w_null 8 _ rfl ?_
    refine w_null 9 _ rfl ?_
    refine w_null 10 _ rfl ?_
    refine w_null 11 _ rfl ?_
    exact h
  · have h := h.2 hc
    refine w_iload rfl rfl rfl ?_
    refine w_bipush (v := 16) rfl rfl (by decide) ?_
    refine w_if_icmpge 228 rfl rfl rfl (fun hc => ?_) (fun hc => ?_)
    · have h := h.1 hc
      refine w_iload rfl rfl rfl ?_
      refine w_bipush (v := 32) rfl rfl (by decide) ?_
      refine w_if_icmpge 250 rfl rfl rfl (fun hc => ?_) (fun hc => ?_)
      · have h := h.1 hc
        refine w_iload rfl rfl rfl ?_
        refine w_bipush (v := 48) rfl rfl (by decide) ?_
        refine w_if_icmpge 267 rfl rfl rfl (fun hc => ?_) (fun hc => ?_)
        · have h := h.1 hc
          refine w_iload rfl rfl rfl ?_
          refine w_iload_n rfl rfl rfl ?_
          refine w_iload rfl rfl rfl ?_
          refine w_iconst (v := -1) rfl rfl (by decide) ?_
          refine w_ixor rfl rfl ?_
          refine w_ior rfl rfl ?_
          refine w_ixor rfl rfl ?_
          refine w_istore _ rfl rfl (by decide) rfl rfl ?_
          exact h
        · have h := h.2 hc
          refine w_iload_n rfl rfl rfl ?_
          refine w_iload rfl rfl rfl ?_
          refine w_ixor rfl rfl ?_
          refine w_iload rfl rfl rfl ?_
          refine w_ixor rfl rfl ?_
          refine w_goto 276 rfl rfl rfl ?_
          refine w_istore _ rfl rfl (by decide) rfl rfl ?_
          exact h
      · have h := h.2 hc
        refine w_iload rfl rfl rfl ?_
        refine w_iload_n rfl rfl rfl ?_
        refine w_iand rfl rfl ?_
        refine w_iload rfl rfl rfl ?_
        refine w_iconst (v := -1) rfl rfl (by decide) ?_
        refine w_ixor rfl rfl ?_
        refine w_iload rfl rfl rfl ?_
        refine w_iand rfl rfl ?_
        refine w_ior rfl rfl ?_
        refine w_goto 276 rfl rfl rfl ?_
        refine w_istore _ rfl rfl (by decide) rfl rfl ?_
        exact h
    · have h := h.2 hc
      refine w_iload_n rfl rfl rfl ?_
      refine w_iload rfl rfl rfl ?_
      refine w_iand rfl rfl ?_
      refine w_iload_n rfl rfl rfl ?_
      refine w_iconst (v := -1) rfl rfl (by decide) ?_
      refine w_ixor rfl rfl ?_
      refine w_iload rfl rfl rfl ?_
      refine w_iand rfl rfl ?_
      refine w_ior rfl rfl ?_
      refine w_goto 276 rfl rfl rfl ?_
      refine w_istore _ rfl rfl (by decide) rfl rfl ?_
      exact h

set_option maxRecDepth 100000 in
theorem e_Mo_makeSum_278 {G : px_G} {d : Nat} {x1 x2 x3 x4 x5 x6 x7 x8 x9 x10 x11 x12 : Int32} {S : px_S} {Q : Option Value → px_S → Prop}
    (h : ((16 ≤ x11 → ((32 ≤ x11 → ((48 ≤ x11 → px_w G px_Zr (d + 1) m_Mo_makeSum 329 [.ref 0, .int x1, .int x2, .int x3, .int x4, .int x5, .int x6, .int x7, .int x8, .int x9, .int x10, .int x11, .int x12, .int (7 * x11), .null] [] S Q) ∧ (¬ (48 ≤ x11) → px_w G px_Zr (d + 1) m_Mo_makeSum 329 [.ref 0, .int x1, .int x2, .int x3, .int x4, .int x5, .int x6, .int x7, .int x8, .int x9, .int x10, .int x11, .int x12, .int ((3 * x11) + 5), .null] [] S Q))) ∧ (¬ (32 ≤ x11) → px_w G px_Zr (d + 1) m_Mo_makeSum 329 [.ref 0, .int x1, .int x2, .int x3, .int x4, .int x5, .int x6, .int x7, .int x8, .int x9, .int x10, .int x11, .int x12, .int ((5 * x11) + 1), .null] [] S Q))) ∧ (¬ (16 ≤ x11) → px_w G px_Zr (d + 1) m_Mo_makeSum 329 [.ref 0, .int x1, .int x2, .int x3, .int x4, .int x5, .int x6, .int x7, .int x8, .int x9, .int x10, .int x11, .int x12, .int x11, .null] [] S Q))) :
    px_w G px_Zr (d + 1) m_Mo_makeSum 278 [.ref 0, .int x1, .int x2, .int x3, .int x4, .int x5, .int x6, .int x7, .int x8, .int x9, .int x10, .int x11, .int x12, .null, .null] [] S Q := by
  refine w_iload rfl rfl rfl ?_
  refine w_bipush (v := 16) rfl rfl (by decide) ?_
  refine w_if_icmpge 290 rfl rfl rfl (fun hc => ?_) (fun hc => ?_)
  · have h := h.1 hc
    refine w_iload rfl rfl rfl ?_
    refine w_bipush (v := 32) rfl rfl (by decide) ?_
    refine w_if_icmpge 306 rfl rfl rfl (fun hc => ?_) (fun hc => ?_)
    · have h := h.1 hc
      refine w_iload rfl rfl rfl ?_
      refine w_bipush (v := 48) rfl rfl (by decide) ?_
      refine w_if_icmpge 322 rfl rfl rfl (fun hc => ?_) (fun hc => ?_)
      · have h := h.1 hc
        refine w_bipush (v := 7) rfl rfl (by decide) ?_
        refine w_iload rfl rfl rfl ?_
        refine w_imul rfl rfl ?_
        refine w_istore _ rfl rfl (by decide) rfl rfl ?_
        exact h
      · have h := h.2 hc
        refine w_iconst (v := 3) rfl rfl (by decide) ?_
        refine w_iload rfl rfl rfl ?_
        refine w_imul rfl rfl ?_
        refine w_iconst (v := 5) rfl rfl (by decide) ?_
        refine w_iadd rfl rfl ?_
        refine w_goto 327 rfl rfl rfl ?_
        refine w_istore _ rfl rfl (by decide) rfl rfl ?_
        exact h
    · have h := h.2 hc
      refine w_iconst (v := 5) rfl rfl (by decide) ?_
      refine w_iload rfl rfl rfl ?_
      refine w_imul rfl rfl ?_
      refine w_iconst (v := 1) rfl rfl (by decide) ?_
      refine w_iadd rfl rfl ?_
      refine w_goto 327 rfl rfl rfl ?_
      refine w_istore _ rfl rfl (by decide) rfl rfl ?_
      exact h
  · have h := h.2 hc
    refine w_iload rfl rfl rfl ?_
    refine w_goto 327 rfl rfl rfl ?_
    refine w_istore _ rfl rfl (by decide) rfl rfl ?_
    exact h

set_option maxRecDepth 100000 in
theorem e_Mo_makeSum_329 {G : px_G} {d : Nat} {x1 x2 x3 x4 x5 x6 x7 x8 x9 x10 x11 x12 x13 : Int32} {S : px_S} {Q : Option Value → px_S → Prop}
    (h : (vp_in x11 64 ∧ (vp_in (px_rem x13 16) 16 ∧ (∀ y6 : Int32, y6 = (((x12 + x2) + (S 1 x11.toNatClampNeg)) + (S 8 (px_rem x13 16).toNatClampNeg)) → px_I G px_Zr d m_Mo_shift [.int x11] S (fun r8 S7 => px_I G px_Zr d m_Mo_turned [.int y6, .int r8] S7 (fun r10 S9 => px_w G px_Zr (d + 1) m_Mo_makeSum 200 [.ref 0, .int x1, .int x5, .int (x3 + r10), .int x3, .int x4, .int x6, .int x7, .int x8, .int x9, .int x10, .int (x11 + 1), .null, .null, .null] [] S9 Q)))))) :
    px_w G px_Zr (d + 1) m_Mo_makeSum 329 [.ref 0, .int x1, .int x2, .int x3, .int x4, .int x5, .int x6, .int x7, .int x8, .int x9, .int x10, .int x11, .int x12, .int x13, .null] [] S Q := by
  refine w_iload rfl rfl rfl ?_
  refine w_iload_n rfl rfl rfl ?_
  refine w_iadd rfl rfl ?_
  refine w_aload_n rfl rfl rfl ?_
  refine w_getR rfl rfl fl_Mo_71 rfl rfl ?_
  refine w_iload rfl rfl rfl ?_
  refine w_iaload rfl rfl rfl h.1 ?_
  have h := h.2
  refine w_iadd rfl rfl ?_
  refine w_aload_n rfl rfl rfl ?_
  refine w_getR rfl rfl fl_Mo_95 rfl rfl ?_
  refine w_iload rfl rfl rfl ?_
  refine w_bipush (v := 16) rfl rfl (by decide) ?_
  refine w_irem rfl rfl (by decide) ?_
  refine w_iaload rfl rfl rfl h.1 ?_
  have h := h.2
  refine w_iadd rfl rfl ?_
  have h := h _ rfl
  refine w_istore _ rfl rfl (by decide) rfl rfl ?_
  refine w_iload rfl rfl rfl ?_
  refine w_istore_n _ rfl rfl (by decide) rfl rfl ?_
  refine w_iload rfl rfl rfl ?_
  refine w_istore _ rfl rfl (by decide) rfl rfl ?_
  refine w_iload_n rfl rfl rfl ?_
  refine w_istore _ rfl rfl (by decide) rfl rfl ?_
  refine w_iload_n rfl rfl rfl ?_
  refine w_iload rfl rfl rfl ?_
  refine w_iload rfl rfl rfl ?_
  refine w_callI h cs_Mo_makeSum_369 rfl rfl (Nat.le_of_ble_eq_true rfl) rfl (fun r8 S7 h => ?_)
  refine w_callI h cs_Mo_makeSum_372 rfl rfl (Nat.le_of_ble_eq_true rfl) rfl (fun r10 S9 h => ?_)
  refine w_iadd rfl rfl ?_
  refine w_istore_n _ rfl rfl (by decide) rfl rfl ?_
  refine w_iinc (v := 1) _ rfl rfl (by decide) rfl rfl (by decide) rfl ?_
  refine w_goto 200 rfl rfl rfl ?_
  refine w_null 12 _ rfl ?_
  refine w_null 13 _ rfl ?_
  refine w_null 14 _ rfl ?_
  exact h

set_option maxRecDepth 100000 in
theorem e_Mo_makeSum_416 {G : px_G} {d : Nat} {x1 x2 x3 x4 x5 x6 : Int32} {S : px_S} {Q : Option Value → px_S → Prop}
    (h : ((4 ≤ x6 → Q none S) ∧ (¬ (4 ≤ x6) → (vp_in x6 16 ∧ (vp_in (4 + x6) 16 ∧ (∀ S11 : px_S, S11 = (px_u (px_u S 9 x6.toNatClampNeg ((px_ushr x2 (8 * x6)) &&& 255)) 9 (4 + x6).toNatClampNeg ((px_ushr x3 (8 * x6)) &&& 255)) → (vp_in (8 + x6) 16 ∧ (vp_in (12 + x6) 16 ∧ (∀ S12 : px_S, S12 = (px_u (px_u S11 9 (8 + x6).toNatClampNeg ((px_ushr x4 (8 * x6)) &&& 255)) 9 (12 + x6).toNatClampNeg ((px_ushr x5 (8 * x6)) &&& 255)) → px_w G px_Zr (d + 1) m_Mo_makeSum 416 [.ref 0, .int x1, .int x2, .int x3, .int x4, .int x5, .int (x6 + 1), .null, .null, .null, .null, .null, .null, .null, .null] [] S12 Q))))))))) :
    px_w G px_Zr (d + 1) m_Mo_makeSum 416 [.ref 0, .int x1, .int x2, .int x3, .int x4, .int x5, .int x6, .null, .null, .null, .null, .null, .null, .null, .null] [] S Q := by
  refine w_iload rfl rfl rfl ?_
  refine w_iconst (v := 4) rfl rfl (by decide) ?_
  refine w_if_icmpge 510 rfl rfl rfl (fun hc => ?_) (fun hc => ?_)
  · have h := h.1 hc
    exact w_return rfl rfl rfl h
  · have h := h.2 hc
    refine w_aload_n rfl rfl rfl ?_
    refine w_getR rfl rfl fl_Mo_98 rfl rfl ?_
    refine w_iload rfl rfl rfl ?_
    refine w_iload_n rfl rfl rfl ?_
    refine w_bipush (v := 8) rfl rfl (by decide) ?_
    refine w_iload rfl rfl rfl ?_
    refine w_imul rfl rfl ?_
    refine w_iushr rfl rfl ?_
    refine w_sipush (v := 255) rfl rfl (by decide) ?_
    refine w_iand rfl rfl ?_
    refine w_iastore rfl rfl rfl h.1 ?_
    have h := h.2
    refine w_aload_n rfl rfl rfl ?_
    refine w_getR rfl rfl fl_Mo_98 rfl rfl ?_
    refine w_iconst (v := 4) rfl rfl (by decide) ?_
    refine w_iload rfl rfl rfl ?_
    refine w_iadd rfl rfl ?_
    refine w_iload_n rfl rfl rfl ?_
    refine w_bipush (v := 8) rfl rfl (by decide) ?_
    refine w_iload rfl rfl rfl ?_
    refine w_imul rfl rfl ?_
    refine w_iushr rfl rfl ?_
    refine w_sipush (v := 255) rfl rfl (by decide) ?_
    refine w_iand rfl rfl ?_
    refine w_iastore rfl rfl rfl h.1 ?_
    have h := h.2
    have h := h _ rfl
    refine w_aload_n rfl rfl rfl ?_
    refine w_getR rfl rfl fl_Mo_98 rfl rfl ?_
    refine w_bipush (v := 8) rfl rfl (by decide) ?_
    refine w_iload rfl rfl rfl ?_
    refine w_iadd rfl rfl ?_
    refine w_iload rfl rfl rfl ?_
    refine w_bipush (v := 8) rfl rfl (by decide) ?_
    refine w_iload rfl rfl rfl ?_
    refine w_imul rfl rfl ?_
    refine w_iushr rfl rfl ?_
    refine w_sipush (v := 255) rfl rfl (by decide) ?_
    refine w_iand rfl rfl ?_
    refine w_iastore rfl rfl rfl h.1 ?_
    have h := h.2
    refine w_aload_n rfl rfl rfl ?_
    refine w_getR rfl rfl fl_Mo_98 rfl rfl ?_
    refine w_bipush (v := 12) rfl rfl (by decide) ?_
    refine w_iload rfl rfl rfl ?_
    refine w_iadd rfl rfl ?_
    refine w_iload rfl rfl rfl ?_
    refine w_bipush (v := 8) rfl rfl (by decide) ?_
    refine w_iload rfl rfl rfl ?_
    refine w_imul rfl rfl ?_
    refine w_iushr rfl rfl ?_
    refine w_sipush (v := 255) rfl rfl (by decide) ?_
    refine w_iand rfl rfl ?_
    refine w_iastore rfl rfl rfl h.1 ?_
    have h := h.2
    have h := h _ rfl
    refine w_iinc (v := 1) _ rfl rfl (by decide) rfl rfl (by decide) rfl ?_
    refine w_goto 416 rfl rfl rfl ?_
    exact h

theorem f_Mo_makeSum {G : px_G} {d : Nat} {S : px_S} {Q : Option Value → px_S → Prop}
    (h : px_V G px_Zr d m_Mo_put [.ref 0, .int 128] S (fun S1 => px_w G px_Zr (d + 1) m_Mo_makeSum 12 [.ref 0, .int (S 0 8), .null, .null, .null, .null, .null, .null, .null, .null, .null, .null, .null, .null, .null] [] S1 Q)) :
    px_M G px_Zr (d + 1) m_Mo_makeSum [.ref 0] S Q :=
  px_in (Or.inr ⟨_, _, _, _, _, rfl, rfl, rfl, rfl⟩) (by decide) (Nat.le_of_ble_eq_true rfl) (px_en 14 rfl) (e_Mo_makeSum_0 h)

set_option maxRecDepth 100000 in
theorem e_Mo_sliceCheck_0 {G : px_G} {d : Nat} {x1 : Int32} {S : px_S} {Q : Option Value → px_S → Prop}
    (h : px_w G px_Zr d m_Mo_sliceCheck 4 [.ref 0, .int x1, .int (-1), .int 0, .null] [] S Q) :
    px_w G px_Zr d m_Mo_sliceCheck 0 [.ref 0, .int x1, .null, .null, .null] [] S Q := by
  refine w_iconst (v := -1) rfl rfl (by decide) ?_
  refine w_istore_n _ rfl rfl (by decide) rfl rfl ?_
  refine w_iconst (v := 0) rfl rfl (by decide) ?_
  refine w_istore_n _ rfl rfl (by decide) rfl rfl ?_
  exact h

set_option maxRecDepth 100000 in
theorem e_Mo_sliceCheck_4 {G : px_G} {d : Nat} {x1 x2 x3 : Int32} {S : px_S} {Q : Option Value → px_S → Prop}
    (h : ((8 ≤ x3 → Q (some (.int (x2 ^^^ (-1)))) S) ∧ (¬ (8 ≤ x3) → (vp_in ((8 * x1) + x3) 96 ∧ (∀ y1 : Int32, y1 = (x2 ^^^ (S 15 ((8 * x1) + x3).toNatClampNeg)) → px_w G px_Zr d m_Mo_sliceCheck 27 [.ref 0, .int x1, .int y1, .int x3, .int 0] [] S Q))))) :
    px_w G px_Zr d m_Mo_sliceCheck 4 [.ref 0, .int x1, .int x2, .int x3, .null] [] S Q := by
  refine w_iload_n rfl rfl rfl ?_
  refine w_bipush (v := 8) rfl rfl (by decide) ?_
  refine w_if_icmpge 66 rfl rfl rfl (fun hc => ?_) (fun hc => ?_)
  · have h := h.1 hc
    refine w_iload_n rfl rfl rfl ?_
    refine w_iconst (v := -1) rfl rfl (by decide) ?_
    refine w_ixor rfl rfl ?_
    exact w_ireturn rfl rfl rfl h
  · have h := h.2 hc
    refine w_iload_n rfl rfl rfl ?_
    refine w_aload_n rfl rfl rfl ?_
    refine w_getR rfl rfl fl_Mo_116 rfl rfl ?_
    refine w_bipush (v := 8) rfl rfl (by decide) ?_
    refine w_iload_n rfl rfl rfl ?_
    refine w_imul rfl rfl ?_
    refine w_iload_n rfl rfl rfl ?_
    refine w_iadd rfl rfl ?_
    refine w_iaload rfl rfl rfl h.1 ?_
    have h := h.2
    refine w_ixor rfl rfl ?_
    have h := h _ rfl
    refine w_istore_n _ rfl rfl (by decide) rfl rfl ?_
    refine w_iconst (v := 0) rfl rfl (by decide) ?_
    refine w_istore _ rfl rfl (by decide) rfl rfl ?_
    exact h

set_option maxRecDepth 100000 in
theorem e_Mo_sliceCheck_27 {G : px_G} {d : Nat} {x1 x2 x3 x4 : Int32} {S : px_S} {Q : Option Value → px_S → Prop}
    (h : ((8 ≤ x4 → px_w G px_Zr d m_Mo_sliceCheck 4 [.ref 0, .int x1, .int x2, .int (x3 + 1), .null] [] S Q) ∧ (¬ (8 ≤ x4) → ((¬ (x2 &&& 1) = 1 → px_w G px_Zr d m_Mo_sliceCheck 27 [.ref 0, .int x1, .int (px_ushr x2 1), .int x3, .int (x4 + 1)] [] S Q) ∧ ((x2 &&& 1) = 1 → px_w G px_Zr d m_Mo_sliceCheck 27 [.ref 0, .int x1, .int ((px_ushr x2 1) ^^^ (-306674912)), .int x3, .int (x4 + 1)] [] S Q))))) :
    px_w G px_Zr d m_Mo_sliceCheck 27 [.ref 0, .int x1, .int x2, .int x3, .int x4] [] S Q := by
  refine w_iload rfl rfl rfl ?_
  refine w_bipush (v := 8) rfl rfl (by decide) ?_
  refine w_if_icmpge 60 rfl rfl rfl (fun hc => ?_) (fun hc => ?_)
  · have h := h.1 hc
    refine w_iinc (v := 1) _ rfl rfl (by decide) rfl rfl (by decide) rfl ?_
    refine w_goto 4 rfl rfl rfl ?_
    refine w_null 4 _ rfl ?_
    exact h
  · have h := h.2 hc
    refine w_iload_n rfl rfl rfl ?_
    refine w_iconst (v := 1) rfl rfl (by decide) ?_
    refine w_iand rfl rfl ?_
    refine w_iconst (v := 1) rfl rfl (by decide) ?_
    refine w_if_icmpne 50 rfl rfl rfl (fun hc => ?_) (fun hc => ?_)
    · have h := h.1 hc
      refine w_iload_n rfl rfl rfl ?_
      refine w_iconst (v := 1) rfl rfl (by decide) ?_
      refine w_iushr rfl rfl ?_
      refine w_istore_n _ rfl rfl (by decide) rfl rfl ?_
      refine w_iinc (v := 1) _ rfl rfl (by decide) rfl rfl (by decide) rfl ?_
      refine w_goto 27 rfl rfl rfl ?_
      exact h
    · have h := h.2 hc
      refine w_iload_n rfl rfl rfl ?_
      refine w_iconst (v := 1) rfl rfl (by decide) ?_
      refine w_iushr rfl rfl ?_
      refine w_ldc rfl rfl lc_Mo_148 ?_
      refine w_ixor rfl rfl ?_
      refine w_goto 53 rfl rfl rfl ?_
      refine w_istore_n _ rfl rfl (by decide) rfl rfl ?_
      refine w_iinc (v := 1) _ rfl rfl (by decide) rfl rfl (by decide) rfl ?_
      refine w_goto 27 rfl rfl rfl ?_
      exact h

theorem f_Mo_sliceCheck {G : px_G} {d : Nat} {x1 : Int32} {S : px_S} {Q : Option Value → px_S → Prop}
    (h : px_w G px_Zr d m_Mo_sliceCheck 4 [.ref 0, .int x1, .int (-1), .int 0, .null] [] S Q) :
    px_M G px_Zr d m_Mo_sliceCheck [.ref 0, .int x1] S Q :=
  px_in (Or.inr ⟨_, _, _, _, _, rfl, rfl, rfl, rfl⟩) (by decide) (Nat.le_of_ble_eq_true rfl) (px_en 3 rfl) (e_Mo_sliceCheck_0 h)

set_option maxRecDepth 100000 in
theorem e_Mo_sumSlice_0 {G : px_G} {d : Nat} {x1 : Int32} {S : px_S} {Q : Option Value → px_S → Prop}
    (h : px_w G px_Zr (d + 1) m_Mo_sumSlice 7 [.ref 0, .int x1, .int 0] [] (px_u S 0 8 0) Q) :
    px_w G px_Zr (d + 1) m_Mo_sumSlice 0 [.ref 0, .int x1, .null] [] S Q := by
  refine w_aload_n rfl rfl rfl ?_
  refine w_iconst (v := 0) rfl rfl (by decide) ?_
  refine w_put rfl rfl fl_Mo_128 fw_Mo_8 rfl rfl ?_
  refine w_iconst (v := 0) rfl rfl (by decide) ?_
  refine w_istore_n _ rfl rfl (by decide) rfl rfl ?_
  exact h

set_option maxRecDepth 100000 in
theorem e_Mo_sumSlice_7 {G : px_G} {d : Nat} {x1 x2 : Int32} {S : px_S} {Q : Option Value → px_S → Prop}
    (h : ((8 ≤ x2 → px_V G px_Zr d m_Mo_makeSum [.ref 0] S (fun S1 => Q none S1)) ∧ (¬ (8 ≤ x2) → (vp_in ((8 * x1) + x2) 96 ∧ px_V G px_Zr d m_Mo_put [.ref 0, .int (S 15 ((8 * x1) + x2).toNatClampNeg)] S (fun S2 => px_w G px_Zr (d + 1) m_Mo_sumSlice 7 [.ref 0, .int x1, .int (x2 + 1)] [] S2 Q))))) :
    px_w G px_Zr (d + 1) m_Mo_sumSlice 7 [.ref 0, .int x1, .int x2] [] S Q := by
  refine w_iload_n rfl rfl rfl ?_
  refine w_bipush (v := 8) rfl rfl (by decide) ?_
  refine w_if_icmpge 34 rfl rfl rfl (fun hc => ?_) (fun hc => ?_)
  · have h := h.1 hc
    refine w_aload_n rfl rfl rfl ?_
    refine w_callV h cs_Mo_sumSlice_35 rfl rfl (Nat.le_of_ble_eq_true rfl) rfl (fun S1 h => ?_)
    exact w_return rfl rfl rfl h
  · have h := h.2 hc
    refine w_aload_n rfl rfl rfl ?_
    refine w_aload_n rfl rfl rfl ?_
    refine w_getR rfl rfl fl_Mo_116 rfl rfl ?_
    refine w_bipush (v := 8) rfl rfl (by decide) ?_
    refine w_iload_n rfl rfl rfl ?_
    refine w_imul rfl rfl ?_
    refine w_iload_n rfl rfl rfl ?_
    refine w_iadd rfl rfl ?_
    refine w_iaload rfl rfl rfl h.1 ?_
    have h := h.2
    refine w_callV h cs_Mo_sumSlice_25 rfl rfl (Nat.le_of_ble_eq_true rfl) rfl (fun S2 h => ?_)
    refine w_iinc (v := 1) _ rfl rfl (by decide) rfl rfl (by decide) rfl ?_
    refine w_goto 7 rfl rfl rfl ?_
    exact h

theorem f_Mo_sumSlice {G : px_G} {d : Nat} {x1 : Int32} {S : px_S} {Q : Option Value → px_S → Prop}
    (h : px_w G px_Zr (d + 1) m_Mo_sumSlice 7 [.ref 0, .int x1, .int 0] [] (px_u S 0 8 0) Q) :
    px_M G px_Zr (d + 1) m_Mo_sumSlice [.ref 0, .int x1] S Q :=
  px_in (Or.inr ⟨_, _, _, _, _, rfl, rfl, rfl, rfl⟩) (by decide) (Nat.le_of_ble_eq_true rfl) (px_en 1 rfl) (e_Mo_sumSlice_0 h)

set_option maxRecDepth 100000 in
theorem e_Mo_times_0 {G : px_G} {d : Nat} {x0 x1 : Int32} {S : px_S} {Q : Option Value → px_S → Prop}
    (h : px_w G px_Zr d m_Mo_times 7 [.int x0, .int x1, .int 0, .int x0, .int 0] [] S Q) :
    px_w G px_Zr d m_Mo_times 0 [.int x0, .int x1, .null, .null, .null] [] S Q := by
  refine w_iconst (v := 0) rfl rfl (by decide) ?_
  refine w_istore_n _ rfl rfl (by decide) rfl rfl ?_
  refine w_iload_n rfl rfl rfl ?_
  refine w_istore_n _ rfl rfl (by decide) rfl rfl ?_
  refine w_iconst (v := 0) rfl rfl (by decide) ?_
  refine w_istore _ rfl rfl (by decide) rfl rfl ?_
  exact h

set_option maxRecDepth 100000 in
theorem e_Mo_times_7 {G : px_G} {d : Nat} {x0 x1 x2 x3 x4 : Int32} {S : px_S} {Q : Option Value → px_S → Prop}
    (h : ((16 ≤ x4 → Q (some (.int x2)) S) ∧ (¬ (16 ≤ x4) → ((¬ ((px_sar x1 x4) &&& 1) = 1 → ((x3 ≤ 32767 → px_w G px_Zr d m_Mo_times 7 [.int x0, .int x1, .int x2, .int (2 * x3), .int (x4 + 1)] [] S Q) ∧ (¬ (x3 ≤ 32767) → px_w G px_Zr d m_Mo_times 7 [.int x0, .int x1, .int x2, .int ((2 * x3) ^^^ 69643), .int (x4 + 1)] [] S Q))) ∧ (((px_sar x1 x4) &&& 1) = 1 → ((x3 ≤ 32767 → px_w G px_Zr d m_Mo_times 7 [.int x0, .int x1, .int (x2 ^^^ x3), .int (2 * x3), .int (x4 + 1)] [] S Q) ∧ (¬ (x3 ≤ 32767) → px_w G px_Zr d m_Mo_times 7 [.int x0, .int x1, .int (x2 ^^^ x3), .int ((2 * x3) ^^^ 69643), .int (x4 + 1)] [] S Q))))))) :
    px_w G px_Zr d m_Mo_times 7 [.int x0, .int x1, .int x2, .int x3, .int x4] [] S Q := by
  refine w_iload rfl rfl rfl ?_
  refine w_bipush (v := 16) rfl rfl (by decide) ?_
  refine w_if_icmpge 58 rfl rfl rfl (fun hc => ?_) (fun hc => ?_)
  · have h := h.1 hc
    refine w_iload_n rfl rfl rfl ?_
    exact w_ireturn rfl rfl rfl h
  · have h := h.2 hc
    refine w_iload_n rfl rfl rfl ?_
    refine w_iload rfl rfl rfl ?_
    refine w_ishr rfl rfl ?_
    refine w_iconst (v := 1) rfl rfl (by decide) ?_
    refine w_iand rfl rfl ?_
    refine w_iconst (v := 1) rfl rfl (by decide) ?_
    refine w_if_icmpne 30 rfl rfl rfl (fun hc => ?_) (fun hc => ?_)
    · have h := h.1 hc
      refine w_iload_n rfl rfl rfl ?_
      refine w_istore_n _ rfl rfl (by decide) rfl rfl ?_
      refine w_iload_n rfl rfl rfl ?_
      refine w_sipush (v := 32767) rfl rfl (by decide) ?_
      refine w_if_icmple 48 rfl rfl rfl (fun hc => ?_) (fun hc => ?_)
      · have h := h.1 hc
        refine w_iconst (v := 2) rfl rfl (by decide) ?_
        refine w_iload_n rfl rfl rfl ?_
        refine w_imul rfl rfl ?_
        refine w_istore_n _ rfl rfl (by decide) rfl rfl ?_
        refine w_iinc (v := 1) _ rfl rfl (by decide) rfl rfl (by decide) rfl ?_
        refine w_goto 7 rfl rfl rfl ?_
        exact h
      · have h := h.2 hc
        refine w_iconst (v := 2) rfl rfl (by decide) ?_
        refine w_iload_n rfl rfl rfl ?_
        refine w_imul rfl rfl ?_
        refine w_ldc rfl rfl lc_Mo_152 ?_
        refine w_ixor rfl rfl ?_
        refine w_goto 51 rfl rfl rfl ?_
        refine w_istore_n _ rfl rfl (by decide) rfl rfl ?_
        refine w_iinc (v := 1) _ rfl rfl (by decide) rfl rfl (by decide) rfl ?_
        refine w_goto 7 rfl rfl rfl ?_
        exact h
    · have h := h.2 hc
      refine w_iload_n rfl rfl rfl ?_
      refine w_iload_n rfl rfl rfl ?_
      refine w_ixor rfl rfl ?_
      refine w_goto 31 rfl rfl rfl ?_
      refine w_istore_n _ rfl rfl (by decide) rfl rfl ?_
      refine w_iload_n rfl rfl rfl ?_
      refine w_sipush (v := 32767) rfl rfl (by decide) ?_
      refine w_if_icmple 48 rfl rfl rfl (fun hc => ?_) (fun hc => ?_)
      · have h := h.1 hc
        refine w_iconst (v := 2) rfl rfl (by decide) ?_
        refine w_iload_n rfl rfl rfl ?_
        refine w_imul rfl rfl ?_
        refine w_istore_n _ rfl rfl (by decide) rfl rfl ?_
        refine w_iinc (v := 1) _ rfl rfl (by decide) rfl rfl (by decide) rfl ?_
        refine w_goto 7 rfl rfl rfl ?_
        exact h
      · have h := h.2 hc
        refine w_iconst (v := 2) rfl rfl (by decide) ?_
        refine w_iload_n rfl rfl rfl ?_
        refine w_imul rfl rfl ?_
        refine w_ldc rfl rfl lc_Mo_152 ?_
        refine w_ixor rfl rfl ?_
        refine w_goto 51 rfl rfl rfl ?_
        refine w_istore_n _ rfl rfl (by decide) rfl rfl ?_
        refine w_iinc (v := 1) _ rfl rfl (by decide) rfl rfl (by decide) rfl ?_
        refine w_goto 7 rfl rfl rfl ?_
        exact h

theorem f_Mo_times {G : px_G} {d : Nat} {x0 x1 : Int32} {S : px_S} {Q : Option Value → px_S → Prop}
    (h : px_w G px_Zr d m_Mo_times 7 [.int x0, .int x1, .int 0, .int x0, .int 0] [] S Q) :
    px_M G px_Zr d m_Mo_times [.int x0, .int x1] S Q :=
  px_in (Or.inl rfl) (by decide) (Nat.le_of_ble_eq_true rfl) (px_en 3 rfl) (e_Mo_times_0 h)

set_option maxRecDepth 100000 in
theorem e_Mo_power_0 {G : px_G} {d : Nat} {x0 x1 : Int32} {S : px_S} {Q : Option Value → px_S → Prop}
    (h : px_w G px_Zr (d + 1) m_Mo_power 4 [.int x0, .int x1, .int 1, .int 0] [] S Q) :
    px_w G px_Zr (d + 1) m_Mo_power 0 [.int x0, .int x1, .null, .null] [] S Q := by
  refine w_iconst (v := 1) rfl rfl (by decide) ?_
  refine w_istore_n _ rfl rfl (by decide) rfl rfl ?_
  refine w_iconst (v := 0) rfl rfl (by decide) ?_
  refine w_istore_n _ rfl rfl (by decide) rfl rfl ?_
  exact h

set_option maxRecDepth 100000 in
theorem e_Mo_power_4 {G : px_G} {d : Nat} {x0 x1 x2 x3 : Int32} {S : px_S} {Q : Option Value → px_S → Prop}
    (h : ((x1 ≤ x3 → Q (some (.int x2)) S) ∧ (¬ (x1 ≤ x3) → px_I G px_Zr d m_Mo_times [.int x2, .int x0] S (fun r2 S1 => px_w G px_Zr (d + 1) m_Mo_power 4 [.int x0, .int x1, .int r2, .int (x3 + 1)] [] S1 Q)))) :
    px_w G px_Zr (d + 1) m_Mo_power 4 [.int x0, .int x1, .int x2, .int x3] [] S Q := by
  refine w_iload_n rfl rfl rfl ?_
  refine w_iload_n rfl rfl rfl ?_
  refine w_if_icmpge 21 rfl rfl rfl (fun hc => ?_) (fun hc => ?_)
  · have h := h.1 hc
    refine w_iload_n rfl rfl rfl ?_
    exact w_ireturn rfl rfl rfl h
  · have h := h.2 hc
    refine w_iload_n rfl rfl rfl ?_
    refine w_iload_n rfl rfl rfl ?_
    refine w_callI h cs_Mo_power_11 rfl rfl (Nat.le_of_ble_eq_true rfl) rfl (fun r2 S1 h => ?_)
    refine w_istore_n _ rfl rfl (by decide) rfl rfl ?_
    refine w_iinc (v := 1) _ rfl rfl (by decide) rfl rfl (by decide) rfl ?_
    refine w_goto 4 rfl rfl rfl ?_
    exact h

theorem f_Mo_power {G : px_G} {d : Nat} {x0 x1 : Int32} {S : px_S} {Q : Option Value → px_S → Prop}
    (h : px_w G px_Zr (d + 1) m_Mo_power 4 [.int x0, .int x1, .int 1, .int 0] [] S Q) :
    px_M G px_Zr (d + 1) m_Mo_power [.int x0, .int x1] S Q :=
  px_in (Or.inl rfl) (by decide) (Nat.le_of_ble_eq_true rfl) (px_en 2 rfl) (e_Mo_power_0 h)

set_option maxRecDepth 100000 in
theorem e_Mo_inverse_0 {G : px_G} {d : Nat} {x0 : Int32} {S : px_S} {Q : Option Value → px_S → Prop}
    (h : px_w G px_Zr (d + 1) m_Mo_inverse 6 [.int x0, .int 1, .int x0, .int 1] [] S Q) :
    px_w G px_Zr (d + 1) m_Mo_inverse 0 [.int x0, .null, .null, .null] [] S Q := by
  refine w_iconst (v := 1) rfl rfl (by decide) ?_
  refine w_istore_n _ rfl rfl (by decide) rfl rfl ?_
  refine w_iload_n rfl rfl rfl ?_
  refine w_istore_n _ rfl rfl (by decide) rfl rfl ?_
  refine w_iconst (v := 1) rfl rfl (by decide) ?_
  refine w_istore_n _ rfl rfl (by decide) rfl rfl ?_
  exact h

set_option maxRecDepth 100000 in
theorem e_Mo_inverse_6 {G : px_G} {d : Nat} {x0 x1 x2 x3 : Int32} {S : px_S} {Q : Option Value → px_S → Prop}
    (h : ((16 ≤ x3 → Q (some (.int x1)) S) ∧ (¬ (16 ≤ x3) → px_I G px_Zr d m_Mo_times [.int x2, .int x2] S (fun r2 S1 => px_I G px_Zr d m_Mo_times [.int x1, .int r2] S1 (fun r4 S3 => px_w G px_Zr (d + 1) m_Mo_inverse 6 [.int x0, .int r4, .int r2, .int (x3 + 1)] [] S3 Q))))) :
    px_w G px_Zr (d + 1) m_Mo_inverse 6 [.int x0, .int x1, .int x2, .int x3] [] S Q := by
  refine w_iload_n rfl rfl rfl ?_
  refine w_bipush (v := 16) rfl rfl (by decide) ?_
  refine w_if_icmpge 30 rfl rfl rfl (fun hc => ?_) (fun hc => ?_)
  · have h := h.1 hc
    refine w_iload_n rfl rfl rfl ?_
    exact w_ireturn rfl rfl rfl h
  · have h := h.2 hc
    refine w_iload_n rfl rfl rfl ?_
    refine w_iload_n rfl rfl rfl ?_
    refine w_callI h cs_Mo_inverse_14 rfl rfl (Nat.le_of_ble_eq_true rfl) rfl (fun r2 S1 h => ?_)
    refine w_istore_n _ rfl rfl (by decide) rfl rfl ?_
    refine w_iload_n rfl rfl rfl ?_
    refine w_iload_n rfl rfl rfl ?_
    refine w_callI h cs_Mo_inverse_20 rfl rfl (Nat.le_of_ble_eq_true rfl) rfl (fun r4 S3 h => ?_)
    refine w_istore_n _ rfl rfl (by decide) rfl rfl ?_
    refine w_iinc (v := 1) _ rfl rfl (by decide) rfl rfl (by decide) rfl ?_
    refine w_goto 6 rfl rfl rfl ?_
    exact h

theorem f_Mo_inverse {G : px_G} {d : Nat} {x0 : Int32} {S : px_S} {Q : Option Value → px_S → Prop}
    (h : px_w G px_Zr (d + 1) m_Mo_inverse 6 [.int x0, .int 1, .int x0, .int 1] [] S Q) :
    px_M G px_Zr (d + 1) m_Mo_inverse [.int x0] S Q :=
  px_in (Or.inl rfl) (by decide) (Nat.le_of_ble_eq_true rfl) (px_en 3 rfl) (e_Mo_inverse_0 h)

set_option maxRecDepth 100000 in
theorem e_Mo_base_0 {G : px_G} {d : Nat} {x1 : Int32} {S : px_S} {Q : Option Value → px_S → Prop}
    (h : (vp_in x1 12 ∧ px_I G px_Zr d m_Mo_power [.int 2, .int (S 2 x1.toNatClampNeg)] S (fun r2 S1 => Q (some (.int r2)) S1))) :
    px_w G px_Zr (d + 1) m_Mo_base 0 [.ref 0, .int x1] [] S Q := by
  refine w_iconst (v := 2) rfl rfl (by decide) ?_
  refine w_aload_n rfl rfl rfl ?_
  refine w_getR rfl rfl fl_Mo_77 rfl rfl ?_
  refine w_iload_n rfl rfl rfl ?_
  refine w_iaload rfl rfl rfl h.1 ?_
  have h := h.2
  refine w_callI h cs_Mo_base_7 rfl rfl (Nat.le_of_ble_eq_true rfl) rfl (fun r2 S1 h => ?_)
  exact w_ireturn rfl rfl rfl h

theorem f_Mo_base {G : px_G} {d : Nat} {x1 : Int32} {S : px_S} {Q : Option Value → px_S → Prop}
    (h : (vp_in x1 12 ∧ px_I G px_Zr d m_Mo_power [.int 2, .int (S 2 x1.toNatClampNeg)] S (fun r2 S1 => Q (some (.int r2)) S1))) :
    px_M G px_Zr (d + 1) m_Mo_base [.ref 0, .int x1] S Q :=
  px_in (Or.inr ⟨_, _, _, _, _, rfl, rfl, rfl, rfl⟩) (by decide) (Nat.le_of_ble_eq_true rfl) (px_en 0 rfl) (e_Mo_base_0 h)

set_option maxRecDepth 100000 in
theorem e_Mo_word_0 {G : px_G} {d : Nat} {x1 x2 : Int32} {S : px_S} {Q : Option Value → px_S → Prop}
    (h : (vp_in ((8 * x1) + (2 * x2)) 96 ∧ (vp_in (((8 * x1) + (2 * x2)) + 1) 96 ∧ Q (some (.int ((S 15 ((8 * x1) + (2 * x2)).toNatClampNeg) ||| (px_shl (S 15 (((8 * x1) + (2 * x2)) + 1).toNatClampNeg) 8)))) S))) :
    px_w G px_Zr d m_Mo_word 0 [.ref 0, .int x1, .int x2] [] S Q := by
  refine w_aload_n rfl rfl rfl ?_
  refine w_getR rfl rfl fl_Mo_116 rfl rfl ?_
  refine w_bipush (v := 8) rfl rfl (by decide) ?_
  refine w_iload_n rfl rfl rfl ?_
  refine w_imul rfl rfl ?_
  refine w_iconst (v := 2) rfl rfl (by decide) ?_
  refine w_iload_n rfl rfl rfl ?_
  refine w_imul rfl rfl ?_
  refine w_iadd rfl rfl ?_
  refine w_iaload rfl rfl rfl h.1 ?_
  have h := h.2
  refine w_aload_n rfl rfl rfl ?_
  refine w_getR rfl rfl fl_Mo_116 rfl rfl ?_
  refine w_bipush (v := 8) rfl rfl (by decide) ?_
  refine w_iload_n rfl rfl rfl ?_
  refine w_imul rfl rfl ?_
  refine w_iconst (v := 2) rfl rfl (by decide) ?_
  refine w_iload_n rfl rfl rfl ?_
  refine w_imul rfl rfl ?_
  refine w_iadd rfl rfl ?_
  refine w_iconst (v := 1) rfl rfl (by decide) ?_
  refine w_iadd rfl rfl ?_
  refine w_iaload rfl rfl rfl h.1 ?_
  have h := h.2
  refine w_bipush (v := 8) rfl rfl (by decide) ?_
  refine w_ishl rfl rfl ?_
  refine w_ior rfl rfl ?_
  exact w_ireturn rfl rfl rfl h

theorem f_Mo_word {G : px_G} {d : Nat} {x1 x2 : Int32} {S : px_S} {Q : Option Value → px_S → Prop}
    (h : (vp_in ((8 * x1) + (2 * x2)) 96 ∧ (vp_in (((8 * x1) + (2 * x2)) + 1) 96 ∧ Q (some (.int ((S 15 ((8 * x1) + (2 * x2)).toNatClampNeg) ||| (px_shl (S 15 (((8 * x1) + (2 * x2)) + 1).toNatClampNeg) 8)))) S))) :
    px_M G px_Zr d m_Mo_word [.ref 0, .int x1, .int x2] S Q :=
  px_in (Or.inr ⟨_, _, _, _, _, rfl, rfl, rfl, rfl⟩) (by decide) (Nat.le_of_ble_eq_true rfl) (px_en 0 rfl) (e_Mo_word_0 h)

set_option maxRecDepth 100000 in
theorem e_Mo_isFile_0 {G : px_G} {d : Nat} {x0 : Int32} {S : px_S} {Q : Option Value → px_S → Prop}
    (h : ((x0 < 0 → Q (some (.int 0)) S) ∧ (¬ (x0 < 0) → ((3 ≤ x0 → Q (some (.int 0)) S) ∧ (¬ (3 ≤ x0) → Q (some (.int 1)) S))))) :
    px_w G px_Zr d m_Mo_isFile 0 [.int x0] [] S Q := by
  refine w_iload_n rfl rfl rfl ?_
  refine w_iflt 13 rfl rfl rfl (fun hc => ?_) (fun hc => ?_)
  · have h := h.1 hc
    refine w_iconst (v := 0) rfl rfl (by decide) ?_
    exact w_zreturn rfl rfl rfl (Or.inl rfl) h
  · have h := h.2 hc
    refine w_iload_n rfl rfl rfl ?_
    refine w_iconst (v := 3) rfl rfl (by decide) ?_
    refine w_if_icmpge 13 rfl rfl rfl (fun hc => ?_) (fun hc => ?_)
    · have h := h.1 hc
      refine w_iconst (v := 0) rfl rfl (by decide) ?_
      exact w_zreturn rfl rfl rfl (Or.inl rfl) h
    · have h := h.2 hc
      refine w_iconst (v := 1) rfl rfl (by decide) ?_
      refine w_goto 14 rfl rfl rfl ?_
      exact w_zreturn rfl rfl rfl (Or.inr rfl) h

theorem f_Mo_isFile {G : px_G} {d : Nat} {x0 : Int32} {S : px_S} {Q : Option Value → px_S → Prop}
    (h : ((x0 < 0 → Q (some (.int 0)) S) ∧ (¬ (x0 < 0) → ((3 ≤ x0 → Q (some (.int 0)) S) ∧ (¬ (3 ≤ x0) → Q (some (.int 1)) S))))) :
    px_M G px_Zr d m_Mo_isFile [.int x0] S Q :=
  px_in (Or.inl rfl) (by decide) (Nat.le_of_ble_eq_true rfl) (px_en 0 rfl) (e_Mo_isFile_0 h)

set_option maxRecDepth 100000 in
theorem e_Mo_type_0 {G : px_G} {d : Nat} {x3 : Int32} {x1 : Int64} {S : px_S} {Q : Option Value → px_S → Prop}
    (h : ((x3 < 1 → Q (some (.int (-1))) S) ∧ (¬ (x3 < 1) → ((x3 ≤ 8 → ((((S 0 2) + x3) ≤ 40 → px_w G px_Zr d m_Mo_type 32 [.ref 0, .long x1, .null, .int x3, .int (x3 - 1)] [] S Q) ∧ (¬ (((S 0 2) + x3) ≤ 40) → Q (some (.int (-2))) S))) ∧ (¬ (x3 ≤ 8) → Q (some (.int (-1))) S))))) :
    px_w G px_Zr d m_Mo_type 0 [.ref 0, .long x1, .null, .int x3, .null] [] S Q := by
  refine w_iload_n rfl rfl rfl ?_
  refine w_iconst (v := 1) rfl rfl (by decide) ?_
  refine w_if_icmplt 11 rfl rfl rfl (fun hc => ?_) (fun hc => ?_)
  · have h := h.1 hc
    refine w_iconst (v := -1) rfl rfl (by decide) ?_
    exact w_ireturn rfl rfl rfl h
  · have h := h.2 hc
    refine w_iload_n rfl rfl rfl ?_
    refine w_bipush (v := 8) rfl rfl (by decide) ?_
    refine w_if_icmple 13 rfl rfl rfl (fun hc => ?_) (fun hc => ?_)
    · have h := h.1 hc
      refine w_aload_n rfl rfl rfl ?_
      refine w_getI rfl rfl fl_Mo_159 rfl rfl ?_
      refine w_iload_n rfl rfl rfl ?_
      refine w_iadd rfl rfl ?_
      refine w_bipush (v := 40) rfl rfl (by decide) ?_
      refine w_if_icmple 27 rfl rfl rfl (fun hc => ?_) (fun hc => ?_)
      · have h := h.1 hc
        refine w_iload_n rfl rfl rfl ?_
        refine w_iconst (v := 1) rfl rfl (by decide) ?_
        refine w_isub rfl rfl ?_
        refine w_istore _ rfl rfl (by decide) rfl rfl ?_
        exact h
      · have h := h.2 hc
        refine w_bipush (v := -2) rfl rfl (by decide) ?_
        exact w_ireturn rfl rfl rfl h
    · have h := h.2 hc
      refine w_iconst (v := -1) rfl rfl (by decide) ?_
      exact w_ireturn rfl rfl rfl h

set_option maxRecDepth 100000 in
theorem e_Mo_type_32 {G : px_G} {d : Nat} {x3 x4 : Int32} {x1 : Int64} {S : px_S} {Q : Option Value → px_S → Prop}
    (h : ((x4 < 0 → Q (some (.int (S 0 2))) S) ∧ (¬ (x4 < 0) → (vp_in (S 0 2) 40 ∧ (∀ S1 : px_S, S1 = (px_u (px_u S 3 (S 0 2).toNatClampNeg (((px_lsar x1 (8 * x4)) &&& 255)).toInt32) 0 2 (((px_u S 3 (S 0 2).toNatClampNeg (((px_lsar x1 (8 * x4)) &&& 255)).toInt32) 0 2) + 1)) → px_w G px_Zr d m_Mo_type 32 [.ref 0, .long x1, .null, .int x3, .int (x4 + (-1))] [] S1 Q))))) :
    px_w G px_Zr d m_Mo_type 32 [.ref 0, .long x1, .null, .int x3, .int x4] [] S Q := by
  refine w_iload rfl rfl rfl ?_
  refine w_iflt 74 rfl rfl rfl (fun hc => ?_) (fun hc => ?_)
  · have h := h.1 hc
    refine w_aload_n rfl rfl rfl ?_
    refine w_getI rfl rfl fl_Mo_159 rfl rfl ?_
    exact w_ireturn rfl rfl rfl h
  · have h := h.2 hc
    refine w_aload_n rfl rfl rfl ?_
    refine w_getR rfl rfl fl_Mo_80 rfl rfl ?_
    refine w_aload_n rfl rfl rfl ?_
    refine w_getI rfl rfl fl_Mo_159 rfl rfl ?_
    refine w_lload_n rfl rfl rfl ?_
    refine w_bipush (v := 8) rfl rfl (by decide) ?_
    refine w_iload rfl rfl rfl ?_
    refine w_imul rfl rfl ?_
    refine w_lshr rfl rfl ?_
    refine w_ldc2 rfl rfl lc_Mo_162 ?_
    refine w_land rfl rfl ?_
    refine w_l2i rfl rfl ?_
    refine w_iastore rfl rfl rfl h.1 ?_
    have h := h.2
    refine w_aload_n rfl rfl rfl ?_
    refine w_dup rfl rfl rfl ?_
    refine w_getI rfl rfl fl_Mo_159 rfl rfl ?_
    refine w_iconst (v := 1) rfl rfl (by decide) ?_
    refine w_iadd rfl rfl ?_
    refine w_put rfl rfl fl_Mo_159 fw_Mo_2 rfl rfl ?_
    have h := h _ rfl
    refine w_iinc (v := -1) _ rfl rfl (by decide) rfl rfl (by decide) rfl ?_
    refine w_goto 32 rfl rfl rfl ?_
    exact h

theorem f_Mo_type {G : px_G} {d : Nat} {x3 : Int32} {x1 : Int64} {S : px_S} {Q : Option Value → px_S → Prop}
    (h : ((x3 < 1 → Q (some (.int (-1))) S) ∧ (¬ (x3 < 1) → ((x3 ≤ 8 → ((((S 0 2) + x3) ≤ 40 → px_w G px_Zr d m_Mo_type 32 [.ref 0, .long x1, .null, .int x3, .int (x3 - 1)] [] S Q) ∧ (¬ (((S 0 2) + x3) ≤ 40) → Q (some (.int (-2))) S))) ∧ (¬ (x3 ≤ 8) → Q (some (.int (-1))) S))))) :
    px_M G px_Zr d m_Mo_type [.ref 0, .long x1, .int x3] S Q :=
  px_in (Or.inr ⟨_, _, _, _, _, rfl, rfl, rfl, rfl⟩) (by decide) (Nat.le_of_ble_eq_true rfl) (px_en 1 rfl) (e_Mo_type_0 h)

set_option maxRecDepth 100000 in
theorem e_Mo_file_0 {G : px_G} {d : Nat} {x1 : Int32} {S : px_S} {Q : Option Value → px_S → Prop}
    (h : px_I G px_Zr d m_Mo_isFile [.int x1] S (fun r2 S1 => ((¬ r2 = 0 → px_w G px_Zr (d + 1) m_Mo_file 11 [.ref 0, .int x1, .int 0] [] S1 Q) ∧ (r2 = 0 → Q (some (.int (-1))) S1)))) :
    px_w G px_Zr (d + 1) m_Mo_file 0 [.ref 0, .int x1, .null] [] S Q := by
  refine w_iload_n rfl rfl rfl ?_
  refine w_callI h cs_Mo_file_1 rfl rfl (Nat.le_of_ble_eq_true rfl) rfl (fun r2 S1 h => ?_)
  refine w_ifne 9 rfl rfl rfl (fun hc => ?_) (fun hc => ?_)
  · have h := h.1 hc
    refine w_iconst (v := 0) rfl rfl (by decide) ?_
    refine w_istore_n _ rfl rfl (by decide) rfl rfl ?_
    exact h
  · have h := h.2 hc
    refine w_iconst (v := -1) rfl rfl (by decide) ?_
    exact w_ireturn rfl rfl rfl h

set_option maxRecDepth 100000 in
theorem e_Mo_file_11 {G : px_G} {d : Nat} {x1 x2 : Int32} {S : px_S} {Q : Option Value → px_S → Prop}
    (h : (((S 0 2) ≤ x2 → (vp_in x1 3 ∧ (vp_in x1 3 ∧ Q (some (.int ((px_u (px_u S 5 x1.toNatClampNeg (S 0 2)) 0 2 0) 5 x1.toNatClampNeg))) (px_u (px_u S 5 x1.toNatClampNeg (S 0 2)) 0 2 0)))) ∧ (¬ ((S 0 2) ≤ x2) → (vp_in x2 40 ∧ (vp_in ((40 * x1) + x2) 120 ∧ px_w G px_Zr (d + 1) m_Mo_file 11 [.ref 0, .int x1, .int (x2 + 1)] [] (px_u S 4 ((40 * x1) + x2).toNatClampNeg (S 3 x2.toNatClampNeg)) Q))))) :
    px_w G px_Zr (d + 1) m_Mo_file 11 [.ref 0, .int x1, .int x2] [] S Q := by
  refine w_iload_n rfl rfl rfl ?_
  refine w_aload_n rfl rfl rfl ?_
  refine w_getI rfl rfl fl_Mo_159 rfl rfl ?_
  refine w_if_icmpge 42 rfl rfl rfl (fun hc => ?_) (fun hc => ?_)
  · have h := h.1 hc
    refine w_aload_n rfl rfl rfl ?_
    refine w_getR rfl rfl fl_Mo_86 rfl rfl ?_
    refine w_iload_n rfl rfl rfl ?_
    refine w_aload_n rfl rfl rfl ?_
    refine w_getI rfl rfl fl_Mo_159 rfl rfl ?_
    refine w_iastore rfl rfl rfl h.1 ?_
    have h := h.2
    refine w_aload_n rfl rfl rfl ?_
    refine w_iconst (v := 0) rfl rfl (by decide) ?_
    refine w_put rfl rfl fl_Mo_159 fw_Mo_2 rfl rfl ?_
    refine w_aload_n rfl rfl rfl ?_
    refine w_getR rfl rfl fl_Mo_86 rfl rfl ?_
    refine w_iload_n rfl rfl rfl ?_
    refine w_iaload rfl rfl rfl h.1 ?_
    have h := h.2
    exact w_ireturn rfl rfl rfl h
  · have h := h.2 hc
    refine w_aload_n rfl rfl rfl ?_
    refine w_getR rfl rfl fl_Mo_83 rfl rfl ?_
    refine w_bipush (v := 40) rfl rfl (by decide) ?_
    refine w_iload_n rfl rfl rfl ?_
    refine w_imul rfl rfl ?_
    refine w_iload_n rfl rfl rfl ?_
    refine w_iadd rfl rfl ?_
    refine w_aload_n rfl rfl rfl ?_
    refine w_getR rfl rfl fl_Mo_80 rfl rfl ?_
    refine w_iload_n rfl rfl rfl ?_
    refine w_iaload rfl rfl rfl h.1 ?_
    have h := h.2
    refine w_iastore rfl rfl rfl h.1 ?_
    have h := h.2
    refine w_iinc (v := 1) _ rfl rfl (by decide) rfl rfl (by decide) rfl ?_
    refine w_goto 11 rfl rfl rfl ?_
    exact h

theorem f_Mo_file {G : px_G} {d : Nat} {x1 : Int32} {S : px_S} {Q : Option Value → px_S → Prop}
    (h : px_I G px_Zr d m_Mo_isFile [.int x1] S (fun r2 S1 => ((¬ r2 = 0 → px_w G px_Zr (d + 1) m_Mo_file 11 [.ref 0, .int x1, .int 0] [] S1 Q) ∧ (r2 = 0 → Q (some (.int (-1))) S1)))) :
    px_M G px_Zr (d + 1) m_Mo_file [.ref 0, .int x1] S Q :=
  px_in (Or.inr ⟨_, _, _, _, _, rfl, rfl, rfl, rfl⟩) (by decide) (Nat.le_of_ble_eq_true rfl) (px_en 1 rfl) (e_Mo_file_0 h)

set_option maxRecDepth 100000 in
theorem e_Mo_damage_0 {G : px_G} {d : Nat} {x1 x2 x3 : Int32} {S : px_S} {Q : Option Value → px_S → Prop}
    (h : px_I G px_Zr d m_Mo_isFile [.int x1] S (fun r2 S1 => ((r2 = 0 → Q (some (.int 0)) S1) ∧ (¬ r2 = 0 → ((x2 < 0 → Q (some (.int 0)) S1) ∧ (¬ (x2 < 0) → (vp_in x1 3 ∧ (((S1 5 x1.toNatClampNeg) ≤ x2 → Q (some (.int 0)) S1) ∧ (¬ ((S1 5 x1.toNatClampNeg) ≤ x2) → ((x3 < 0 → Q (some (.int 0)) S1) ∧ (¬ (x3 < 0) → ((x3 ≤ 255 → (vp_in ((40 * x1) + x2) 120 ∧ Q (some (.int 1)) (px_u S1 4 ((40 * x1) + x2).toNatClampNeg x3))) ∧ (¬ (x3 ≤ 255) → Q (some (.int 0)) S1))))))))))))) :
    px_w G px_Zr (d + 1) m_Mo_damage 0 [.ref 0, .int x1, .int x2, .int x3] [] S Q := by
  refine w_iload_n rfl rfl rfl ?_
  refine w_callI h cs_Mo_damage_1 rfl rfl (Nat.le_of_ble_eq_true rfl) rfl (fun r2 S1 h => ?_)
  refine w_ifeq 32 rfl rfl rfl (fun hc => ?_) (fun hc => ?_)
  · have h := h.1 hc
    refine w_iconst (v := 0) rfl rfl (by decide) ?_
    exact w_zreturn rfl rfl rfl (Or.inl rfl) h
  · have h := h.2 hc
    refine w_iload_n rfl rfl rfl ?_
    refine w_iflt 32 rfl rfl rfl (fun hc => ?_) (fun hc => ?_)
    · have h := h.1 hc
      refine w_iconst (v := 0) rfl rfl (by decide) ?_
      exact w_zreturn rfl rfl rfl (Or.inl rfl) h
    · have h := h.2 hc
      refine w_iload_n rfl rfl rfl ?_
      refine w_aload_n rfl rfl rfl ?_
      refine w_getR rfl rfl fl_Mo_86 rfl rfl ?_
      refine w_iload_n rfl rfl rfl ?_
      refine w_iaload rfl rfl rfl h.1 ?_
      have h := h.2
      refine w_if_icmpge 32 rfl rfl rfl (fun hc => ?_) (fun hc => ?_)
      · have h := h.1 hc
        refine w_iconst (v := 0) rfl rfl (by decide) ?_
        exact w_zreturn rfl rfl rfl (Or.inl rfl) h
      · have h := h.2 hc
        refine w_iload_n rfl rfl rfl ?_
        refine w_iflt 32 rfl rfl rfl (fun hc => ?_) (fun hc => ?_)
        · have h := h.1 hc
          refine w_iconst (v := 0) rfl rfl (by decide) ?_
          exact w_zreturn rfl rfl rfl (Or.inl rfl) h
        · have h := h.2 hc
          refine w_iload_n rfl rfl rfl ?_
          refine w_sipush (v := 255) rfl rfl (by decide) ?_
          refine w_if_icmple 34 rfl rfl rfl (fun hc => ?_) (fun hc => ?_)
          · have h := h.1 hc
            refine w_aload_n rfl rfl rfl ?_
            refine w_getR rfl rfl fl_Mo_83 rfl rfl ?_
            refine w_bipush (v := 40) rfl rfl (by decide) ?_
            refine w_iload_n rfl rfl rfl ?_
            refine w_imul rfl rfl ?_
            refine w_iload_n rfl rfl rfl ?_
            refine w_iadd rfl rfl ?_
            refine w_iload_n rfl rfl rfl ?_
            refine w_iastore rfl rfl rfl h.1 ?_
            have h := h.2
            refine w_iconst (v := 1) rfl rfl (by decide) ?_
            exact w_zreturn rfl rfl rfl (Or.inr rfl) h
          · have h := h.2 hc
            refine w_iconst (v := 0) rfl rfl (by decide) ?_
            exact w_zreturn rfl rfl rfl (Or.inl rfl) h

theorem f_Mo_damage {G : px_G} {d : Nat} {x1 x2 x3 : Int32} {S : px_S} {Q : Option Value → px_S → Prop}
    (h : px_I G px_Zr d m_Mo_isFile [.int x1] S (fun r2 S1 => ((r2 = 0 → Q (some (.int 0)) S1) ∧ (¬ r2 = 0 → ((x2 < 0 → Q (some (.int 0)) S1) ∧ (¬ (x2 < 0) → (vp_in x1 3 ∧ (((S1 5 x1.toNatClampNeg) ≤ x2 → Q (some (.int 0)) S1) ∧ (¬ ((S1 5 x1.toNatClampNeg) ≤ x2) → ((x3 < 0 → Q (some (.int 0)) S1) ∧ (¬ (x3 < 0) → ((x3 ≤ 255 → (vp_in ((40 * x1) + x2) 120 ∧ Q (some (.int 1)) (px_u S1 4 ((40 * x1) + x2).toNatClampNeg x3))) ∧ (¬ (x3 ≤ 255) → Q (some (.int 0)) S1))))))))))))) :
    px_M G px_Zr (d + 1) m_Mo_damage [.ref 0, .int x1, .int x2, .int x3] S Q :=
  px_in (Or.inr ⟨_, _, _, _, _, rfl, rfl, rfl, rfl⟩) (by decide) (Nat.le_of_ble_eq_true rfl) (px_en 0 rfl) (e_Mo_damage_0 h)

set_option maxRecDepth 100000 in
theorem e_Mo_shorten_0 {G : px_G} {d : Nat} {x1 x2 : Int32} {S : px_S} {Q : Option Value → px_S → Prop}
    (h : px_I G px_Zr d m_Mo_isFile [.int x1] S (fun r2 S1 => ((r2 = 0 → Q (some (.int 0)) S1) ∧ (¬ r2 = 0 → ((x2 < 0 → Q (some (.int 0)) S1) ∧ (¬ (x2 < 0) → (vp_in x1 3 ∧ ((x2 ≤ (S1 5 x1.toNatClampNeg) → (vp_in x1 3 ∧ (vp_in x1 3 ∧ Q (some (.int 1)) (px_u S1 5 x1.toNatClampNeg ((S1 5 x1.toNatClampNeg) - x2))))) ∧ (¬ (x2 ≤ (S1 5 x1.toNatClampNeg)) → Q (some (.int 0)) S1))))))))) :
    px_w G px_Zr (d + 1) m_Mo_shorten 0 [.ref 0, .int x1, .int x2] [] S Q := by
  refine w_iload_n rfl rfl rfl ?_
  refine w_callI h cs_Mo_shorten_1 rfl rfl (Nat.le_of_ble_eq_true rfl) rfl (fun r2 S1 h => ?_)
  refine w_ifeq 21 rfl rfl rfl (fun hc => ?_) (fun hc => ?_)
  · have h := h.1 hc
    refine w_iconst (v := 0) rfl rfl (by decide) ?_
    exact w_zreturn rfl rfl rfl (Or.inl rfl) h
  · have h := h.2 hc
    refine w_iload_n rfl rfl rfl ?_
    refine w_iflt 21 rfl rfl rfl (fun hc => ?_) (fun hc => ?_)
    · have h := h.1 hc
      refine w_iconst (v := 0) rfl rfl (by decide) ?_
      exact w_zreturn rfl rfl rfl (Or.inl rfl) h
    · have h := h.2 hc
      refine w_iload_n rfl rfl rfl ?_
      refine w_aload_n rfl rfl rfl ?_
      refine w_getR rfl rfl fl_Mo_86 rfl rfl ?_
      refine w_iload_n rfl rfl rfl ?_
      refine w_iaload rfl rfl rfl h.1 ?_
      have h := h.2
      refine w_if_icmple 23 rfl rfl rfl (fun hc => ?_) (fun hc => ?_)
      · have h := h.1 hc
        refine w_aload_n rfl rfl rfl ?_
        refine w_getR rfl rfl fl_Mo_86 rfl rfl ?_
        refine w_iload_n rfl rfl rfl ?_
        refine w_dup2 rfl rfl rfl rfl ?_
        refine w_iaload rfl rfl rfl h.1 ?_
        have h := h.2
        refine w_iload_n rfl rfl rfl ?_
        refine w_isub rfl rfl ?_
        refine w_iastore rfl rfl rfl h.1 ?_
        have h := h.2
        refine w_iconst (v := 1) rfl rfl (by decide) ?_
        exact w_zreturn rfl rfl rfl (Or.inr rfl) h
      · have h := h.2 hc
        refine w_iconst (v := 0) rfl rfl (by decide) ?_
        exact w_zreturn rfl rfl rfl (Or.inl rfl) h

theorem f_Mo_shorten {G : px_G} {d : Nat} {x1 x2 : Int32} {S : px_S} {Q : Option Value → px_S → Prop}
    (h : px_I G px_Zr d m_Mo_isFile [.int x1] S (fun r2 S1 => ((r2 = 0 → Q (some (.int 0)) S1) ∧ (¬ r2 = 0 → ((x2 < 0 → Q (some (.int 0)) S1) ∧ (¬ (x2 < 0) → (vp_in x1 3 ∧ ((x2 ≤ (S1 5 x1.toNatClampNeg) → (vp_in x1 3 ∧ (vp_in x1 3 ∧ Q (some (.int 1)) (px_u S1 5 x1.toNatClampNeg ((S1 5 x1.toNatClampNeg) - x2))))) ∧ (¬ (x2 ≤ (S1 5 x1.toNatClampNeg)) → Q (some (.int 0)) S1))))))))) :
    px_M G px_Zr (d + 1) m_Mo_shorten [.ref 0, .int x1, .int x2] S Q :=
  px_in (Or.inr ⟨_, _, _, _, _, rfl, rfl, rfl, rfl⟩) (by decide) (Nat.le_of_ble_eq_true rfl) (px_en 0 rfl) (e_Mo_shorten_0 h)

set_option maxRecDepth 100000 in
theorem e_Mo_length_0 {G : px_G} {d : Nat} {x1 : Int32} {S : px_S} {Q : Option Value → px_S → Prop}
    (h : px_I G px_Zr d m_Mo_isFile [.int x1] S (fun r2 S1 => ((r2 = 0 → Q (some (.int (-1))) S1) ∧ (¬ r2 = 0 → (vp_in x1 3 ∧ Q (some (.int (S1 5 x1.toNatClampNeg))) S1))))) :
    px_w G px_Zr (d + 1) m_Mo_length 0 [.ref 0, .int x1] [] S Q := by
  refine w_iload_n rfl rfl rfl ?_
  refine w_callI h cs_Mo_length_1 rfl rfl (Nat.le_of_ble_eq_true rfl) rfl (fun r2 S1 h => ?_)
  refine w_ifeq 16 rfl rfl rfl (fun hc => ?_) (fun hc => ?_)
  · have h := h.1 hc
    refine w_iconst (v := -1) rfl rfl (by decide) ?_
    exact w_ireturn rfl rfl rfl h
  · have h := h.2 hc
    refine w_aload_n rfl rfl rfl ?_
    refine w_getR rfl rfl fl_Mo_86 rfl rfl ?_
    refine w_iload_n rfl rfl rfl ?_
    refine w_iaload rfl rfl rfl h.1 ?_
    have h := h.2
    refine w_goto 17 rfl rfl rfl ?_
    exact w_ireturn rfl rfl rfl h

theorem f_Mo_length {G : px_G} {d : Nat} {x1 : Int32} {S : px_S} {Q : Option Value → px_S → Prop}
    (h : px_I G px_Zr d m_Mo_isFile [.int x1] S (fun r2 S1 => ((r2 = 0 → Q (some (.int (-1))) S1) ∧ (¬ r2 = 0 → (vp_in x1 3 ∧ Q (some (.int (S1 5 x1.toNatClampNeg))) S1))))) :
    px_M G px_Zr (d + 1) m_Mo_length [.ref 0, .int x1] S Q :=
  px_in (Or.inr ⟨_, _, _, _, _, rfl, rfl, rfl, rfl⟩) (by decide) (Nat.le_of_ble_eq_true rfl) (px_en 0 rfl) (e_Mo_length_0 h)

set_option maxRecDepth 100000 in
theorem e_Mo_at_0 {G : px_G} {d : Nat} {x1 x2 : Int32} {S : px_S} {Q : Option Value → px_S → Prop}
    (h : px_I G px_Zr d m_Mo_isFile [.int x1] S (fun r2 S1 => ((r2 = 0 → Q (some (.int (-1))) S1) ∧ (¬ r2 = 0 → ((x2 < 0 → Q (some (.int (-1))) S1) ∧ (¬ (x2 < 0) → (vp_in x1 3 ∧ (((S1 5 x1.toNatClampNeg) ≤ x2 → Q (some (.int (-1))) S1) ∧ (¬ ((S1 5 x1.toNatClampNeg) ≤ x2) → (vp_in ((40 * x1) + x2) 120 ∧ Q (some (.int (S1 4 ((40 * x1) + x2).toNatClampNeg))) S1)))))))))) :
    px_w G px_Zr (d + 1) m_Mo_at 0 [.ref 0, .int x1, .int x2] [] S Q := by
  refine w_iload_n rfl rfl rfl ?_
  refine w_callI h cs_Mo_at_1 rfl rfl (Nat.le_of_ble_eq_true rfl) rfl (fun r2 S1 h => ?_)
  refine w_ifeq 35 rfl rfl rfl (fun hc => ?_) (fun hc => ?_)
  · have h := h.1 hc
    refine w_iconst (v := -1) rfl rfl (by decide) ?_
    exact w_ireturn rfl rfl rfl h
  · have h := h.2 hc
    refine w_iload_n rfl rfl rfl ?_
    refine w_iflt 35 rfl rfl rfl (fun hc => ?_) (fun hc => ?_)
    · have h := h.1 hc
      refine w_iconst (v := -1) rfl rfl (by decide) ?_
      exact w_ireturn rfl rfl rfl h
    · have h := h.2 hc
      refine w_iload_n rfl rfl rfl ?_
      refine w_aload_n rfl rfl rfl ?_
      refine w_getR rfl rfl fl_Mo_86 rfl rfl ?_
      refine w_iload_n rfl rfl rfl ?_
      refine w_iaload rfl rfl rfl h.1 ?_
      have h := h.2
      refine w_if_icmpge 35 rfl rfl rfl (fun hc => ?_) (fun hc => ?_)
      · have h := h.1 hc
        refine w_iconst (v := -1) rfl rfl (by decide) ?_
        exact w_ireturn rfl rfl rfl h
      · have h := h.2 hc
        refine w_aload_n rfl rfl rfl ?_
        refine w_getR rfl rfl fl_Mo_83 rfl rfl ?_
        refine w_bipush (v := 40) rfl rfl (by decide) ?_
        refine w_iload_n rfl rfl rfl ?_
        refine w_imul rfl rfl ?_
        refine w_iload_n rfl rfl rfl ?_
        refine w_iadd rfl rfl ?_
        refine w_iaload rfl rfl rfl h.1 ?_
        have h := h.2
        refine w_goto 36 rfl rfl rfl ?_
        exact w_ireturn rfl rfl rfl h

theorem f_Mo_at {G : px_G} {d : Nat} {x1 x2 : Int32} {S : px_S} {Q : Option Value → px_S → Prop}
    (h : px_I G px_Zr d m_Mo_isFile [.int x1] S (fun r2 S1 => ((r2 = 0 → Q (some (.int (-1))) S1) ∧ (¬ r2 = 0 → ((x2 < 0 → Q (some (.int (-1))) S1) ∧ (¬ (x2 < 0) → (vp_in x1 3 ∧ (((S1 5 x1.toNatClampNeg) ≤ x2 → Q (some (.int (-1))) S1) ∧ (¬ ((S1 5 x1.toNatClampNeg) ≤ x2) → (vp_in ((40 * x1) + x2) 120 ∧ Q (some (.int (S1 4 ((40 * x1) + x2).toNatClampNeg))) S1)))))))))) :
    px_M G px_Zr (d + 1) m_Mo_at [.ref 0, .int x1, .int x2] S Q :=
  px_in (Or.inr ⟨_, _, _, _, _, rfl, rfl, rfl, rfl⟩) (by decide) (Nat.le_of_ble_eq_true rfl) (px_en 0 rfl) (e_Mo_at_0 h)

set_option maxRecDepth 100000 in
theorem e_Mo_layOut_0 {G : px_G} {d : Nat} {x1 : Int32} {S : px_S} {Q : Option Value → px_S → Prop}
    (h : px_w G px_Zr d m_Mo_layOut 4 [.ref 0, .int x1, .int 0, .int 0, .null, .null] [] S Q) :
    px_w G px_Zr d m_Mo_layOut 0 [.ref 0, .int x1, .null, .null, .null, .null] [] S Q := by
  refine w_iconst (v := 0) rfl rfl (by decide) ?_
  refine w_istore_n _ rfl rfl (by decide) rfl rfl ?_
  refine w_iconst (v := 0) rfl rfl (by decide) ?_
  refine w_istore_n _ rfl rfl (by decide) rfl rfl ?_
  exact h

set_option maxRecDepth 100000 in
theorem e_Mo_layOut_4 {G : px_G} {d : Nat} {x1 x2 x3 : Int32} {S : px_S} {Q : Option Value → px_S → Prop}
    (h : ((x1 ≤ x3 → (vp_in x1 4 ∧ Q (some (.int x2)) (px_u S 11 x1.toNatClampNeg x2))) ∧ (¬ (x1 ≤ x3) → (vp_in x3 4 ∧ px_w G px_Zr d m_Mo_layOut 19 [.ref 0, .int x1, .int x2, .int x3, .int 0, .null] [] (px_u S 11 x3.toNatClampNeg x2) Q)))) :
    px_w G px_Zr d m_Mo_layOut 4 [.ref 0, .int x1, .int x2, .int x3, .null, .null] [] S Q := by
  refine w_iload_n rfl rfl rfl ?_
  refine w_iload_n rfl rfl rfl ?_
  refine w_if_icmpge 118 rfl rfl rfl (fun hc => ?_) (fun hc => ?_)
  · have h := h.1 hc
    refine w_aload_n rfl rfl rfl ?_
    refine w_getR rfl rfl fl_Mo_104 rfl rfl ?_
    refine w_iload_n rfl rfl rfl ?_
    refine w_iload_n rfl rfl rfl ?_
    refine w_iastore rfl rfl rfl h.1 ?_
    have h := h.2
    refine w_iload_n rfl rfl rfl ?_
    exact w_ireturn rfl rfl rfl h
  · have h := h.2 hc
    refine w_aload_n rfl rfl rfl ?_
    refine w_getR rfl rfl fl_Mo_104 rfl rfl ?_
    refine w_iload_n rfl rfl rfl ?_
    refine w_iload_n rfl rfl rfl ?_
    refine w_iastore rfl rfl rfl h.1 ?_
    have h := h.2
    refine w_iconst (v := 0) rfl rfl (by decide) ?_
    refine w_istore _ rfl rfl (by decide) rfl rfl ?_
    exact h

set_option maxRecDepth 100000 in
theorem e_Mo_layOut_19 {G : px_G} {d : Nat} {x1 x2 x3 x4 : Int32} {S : px_S} {Q : Option Value → px_S → Prop}
    (h : (vp_in x3 3 ∧ (((S 10 x3.toNatClampNeg) ≤ x4 → px_w G px_Zr d m_Mo_layOut 4 [.ref 0, .int x1, .int x2, .int (x3 + 1), .null, .null] [] S Q) ∧ (¬ ((S 10 x3.toNatClampNeg) ≤ x4) → px_w G px_Zr d m_Mo_layOut 34 [.ref 0, .int x1, .int x2, .int x3, .int x4, .int x4] [] S Q)))) :
    px_w G px_Zr d m_Mo_layOut 19 [.ref 0, .int x1, .int x2, .int x3, .int x4, .null] [] S Q := by
  refine w_iload rfl rfl rfl ?_
  refine w_aload_n rfl rfl rfl ?_
  refine w_getR rfl rfl fl_Mo_101 rfl rfl ?_
  refine w_iload_n rfl rfl rfl ?_
  refine w_iaload rfl rfl rfl h.1 ?_
  have h := h.2
  refine w_if_icmpge 112 rfl rfl rfl (fun hc => ?_) (fun hc => ?_)
  · have h := h.1 hc
    refine w_iinc (v := 1) _ rfl rfl (by decide) rfl rfl (by decide) rfl ?_
    refine w_goto 4 rfl rfl rfl ?_
    refine w_null 4 _ rfl ?_
    exact h
  · have h := h.2 hc
    refine w_iload rfl rfl rfl ?_
    refine w_istore _ rfl rfl (by decide) rfl rfl ?_
    exact h

set_option maxRecDepth 100000 in
theorem e_Mo_layOut_34 {G : px_G} {d : Nat} {x1 x2 x3 x4 x5 : Int32} {S : px_S} {Q : Option Value → px_S → Prop}
    (h : (((x4 + 8) ≤ x5 → px_w G px_Zr d m_Mo_layOut 19 [.ref 0, .int x1, .int (x2 + 1), .int x3, .int (x4 + 8), .null] [] S Q) ∧ (¬ ((x4 + 8) ≤ x5) → (vp_in x3 3 ∧ (((S 10 x3.toNatClampNeg) ≤ x5 → (vp_in (((8 * x2) + x5) - x4) 96 ∧ px_w G px_Zr d m_Mo_layOut 34 [.ref 0, .int x1, .int x2, .int x3, .int x4, .int (x5 + 1)] [] (px_u S 15 (((8 * x2) + x5) - x4).toNatClampNeg 0) Q)) ∧ (¬ ((S 10 x3.toNatClampNeg) ≤ x5) → (vp_in x3 3 ∧ (((S 5 x3.toNatClampNeg) ≤ x5 → (vp_in (((8 * x2) + x5) - x4) 96 ∧ px_w G px_Zr d m_Mo_layOut 34 [.ref 0, .int x1, .int x2, .int x3, .int x4, .int (x5 + 1)] [] (px_u S 15 (((8 * x2) + x5) - x4).toNatClampNeg 0) Q)) ∧ (¬ ((S 5 x3.toNatClampNeg) ≤ x5) → (vp_in ((40 * x3) + x5) 120 ∧ (vp_in (((8 * x2) + x5) - x4) 96 ∧ px_w G px_Zr d m_Mo_layOut 34 [.ref 0, .int x1, .int x2, .int x3, .int x4, .int (x5 + 1)] [] (px_u S 15 (((8 * x2) + x5) - x4).toNatClampNeg (S 4 ((40 * x3) + x5).toNatClampNeg)) Q))))))))))) :
    px_w G px_Zr d m_Mo_layOut 34 [.ref 0, .int x1, .int x2, .int x3, .int x4, .int x5] [] S Q := by
  refine w_iload rfl rfl rfl ?_
  refine w_iload rfl rfl rfl ?_
  refine w_bipush (v := 8) rfl rfl (by decide) ?_
  refine w_iadd rfl rfl ?_
  refine w_if_icmpge 103 rfl rfl rfl (fun hc => ?_) (fun hc => ?_)
  · have h := h.1 hc
    refine w_iinc (v := 1) _ rfl rfl (by decide) rfl rfl (by decide) rfl ?_
    refine w_iinc (v := 8) _ rfl rfl (by decide) rfl rfl (by decide) rfl ?_
    refine w_goto 19 rfl rfl rfl ?_
    refine w_null 5 _ rfl ?_
    exact h
  · have h := h.2 hc
    refine w_aload_n rfl rfl rfl ?_
    refine w_getR rfl rfl fl_Mo_116 rfl rfl ?_
    refine w_bipush (v := 8) rfl rfl (by decide) ?_
    refine w_iload_n rfl rfl rfl ?_
    refine w_imul rfl rfl ?_
    refine w_iload rfl rfl rfl ?_
    refine w_iadd rfl rfl ?_
    refine w_iload rfl rfl rfl ?_
    refine w_isub rfl rfl ?_
    refine w_iload rfl rfl rfl ?_
    refine w_aload_n rfl rfl rfl ?_
    refine w_getR rfl rfl fl_Mo_101 rfl rfl ?_
    refine w_iload_n rfl rfl rfl ?_
    refine w_iaload rfl rfl rfl h.1 ?_
    have h := h.2
    refine w_if_icmpge 95 rfl rfl rfl (fun hc => ?_) (fun hc => ?_)
    · have h := h.1 hc
      refine w_iconst (v := 0) rfl rfl (by decide) ?_
      refine w_iastore rfl rfl rfl h.1 ?_
      have h := h.2
      refine w_iinc (v := 1) _ rfl rfl (by decide) rfl rfl (by decide) rfl ?_
      refine w_goto 34 rfl rfl rfl ?_
      exact h
    · have h := h.2 hc
      refine w_iload rfl rfl rfl ?_
      refine w_aload_n rfl rfl rfl ?_
      refine w_getR rfl rfl fl_Mo_86 rfl rfl ?_
      refine w_iload_n rfl rfl rfl ?_
      refine w_iaload rfl rfl rfl h.1 ?_
      have h := h.2
      refine w_if_icmpge 95 rfl rfl rfl (fun hc => ?_) (fun hc => ?_)
      · have h := h.1 hc
        refine w_iconst (v := 0) rfl rfl (by decide) ?_
        refine w_iastore rfl rfl rfl h.1 ?_
        have h := h.2
        refine w_iinc (v := 1) _ rfl rfl (by decide) rfl rfl (by decide) rfl ?_
        refine w_goto 34 rfl rfl rfl ?_
        exact h
      · have h := h.2 hc
        refine w_aload_n rfl rfl rfl ?_
        refine w_getR rfl rfl fl_Mo_83 rfl rfl ?_
        refine w_bipush (v := 40) rfl rfl (by decide) ?_
        refine w_iload_n rfl rfl rfl ?_
        refine w_imul rfl rfl ?_
        refine w_iload rfl rfl rfl ?_
        refine w_iadd rfl rfl ?_
        refine w_iaload rfl rfl rfl h.1 ?_
        have h := h.2
        refine w_goto 96 rfl rfl rfl ?_
        refine w_iastore rfl rfl rfl h.1 ?_
        have h := h.2
        refine w_iinc (v := 1) _ rfl rfl (by decide) rfl rfl (by decide) rfl ?_
        refine w_goto 34 rfl rfl rfl ?_
        exact h

theorem f_Mo_layOut {G : px_G} {d : Nat} {x1 : Int32} {S : px_S} {Q : Option Value → px_S → Prop}
    (h : px_w G px_Zr d m_Mo_layOut 4 [.ref 0, .int x1, .int 0, .int 0, .null, .null] [] S Q) :
    px_M G px_Zr d m_Mo_layOut [.ref 0, .int x1] S Q :=
  px_in (Or.inr ⟨_, _, _, _, _, rfl, rfl, rfl, rfl⟩) (by decide) (Nat.le_of_ble_eq_true rfl) (px_en 4 rfl) (e_Mo_layOut_0 h)

set_option maxRecDepth 100000 in
theorem e_Mo_write_0 {G : px_G} {d : Nat} {x1 : Int32} {S : px_S} {Q : Option Value → px_S → Prop}
    (h : (vp_in (S 0 6) 800 ∧ (∀ S1 : px_S, S1 = (px_u (px_u S 6 (S 0 6).toNatClampNeg (x1 &&& 255)) 0 6 (((px_u S 6 (S 0 6).toNatClampNeg (x1 &&& 255)) 0 6) + 1)) → Q none S1))) :
    px_w G px_Zr d m_Mo_write 0 [.ref 0, .int x1] [] S Q := by
  refine w_aload_n rfl rfl rfl ?_
  refine w_getR rfl rfl fl_Mo_89 rfl rfl ?_
  refine w_aload_n rfl rfl rfl ?_
  refine w_getI rfl rfl fl_Mo_168 rfl rfl ?_
  refine w_iload_n rfl rfl rfl ?_
  refine w_sipush (v := 255) rfl rfl (by decide) ?_
  refine w_iand rfl rfl ?_
  refine w_iastore rfl rfl rfl h.1 ?_
  have h := h.2
  refine w_aload_n rfl rfl rfl ?_
  refine w_dup rfl rfl rfl ?_
  refine w_getI rfl rfl fl_Mo_168 rfl rfl ?_
  refine w_iconst (v := 1) rfl rfl (by decide) ?_
  refine w_iadd rfl rfl ?_
  refine w_put rfl rfl fl_Mo_168 fw_Mo_6 rfl rfl ?_
  have h := h _ rfl
  exact w_return rfl rfl rfl h

theorem f_Mo_write {G : px_G} {d : Nat} {x1 : Int32} {S : px_S} {Q : Option Value → px_S → Prop}
    (h : (vp_in (S 0 6) 800 ∧ (∀ S1 : px_S, S1 = (px_u (px_u S 6 (S 0 6).toNatClampNeg (x1 &&& 255)) 0 6 (((px_u S 6 (S 0 6).toNatClampNeg (x1 &&& 255)) 0 6) + 1)) → Q none S1))) :
    px_M G px_Zr d m_Mo_write [.ref 0, .int x1] S Q :=
  px_in (Or.inr ⟨_, _, _, _, _, rfl, rfl, rfl, rfl⟩) (by decide) (Nat.le_of_ble_eq_true rfl) (px_en 0 rfl) (e_Mo_write_0 h)

set_option maxRecDepth 100000 in
theorem e_Mo_writeSum_0 {G : px_G} {d : Nat} {S : px_S} {Q : Option Value → px_S → Prop}
    (h : px_w G px_Zr (d + 1) m_Mo_writeSum 2 [.ref 0, .int 0] [] S Q) :
    px_w G px_Zr (d + 1) m_Mo_writeSum 0 [.ref 0, .null] [] S Q := by
  refine w_iconst (v := 0) rfl rfl (by decide) ?_
  refine w_istore_n _ rfl rfl (by decide) rfl rfl ?_
  exact h

set_option maxRecDepth 100000 in
theorem e_Mo_writeSum_2 {G : px_G} {d : Nat} {x1 : Int32} {S : px_S} {Q : Option Value → px_S → Prop}
    (h : ((16 ≤ x1 → Q none S) ∧ (¬ (16 ≤ x1) → (vp_in x1 16 ∧ px_V G px_Zr d m_Mo_write [.ref 0, .int (S 9 x1.toNatClampNeg)] S (fun S1 => px_w G px_Zr (d + 1) m_Mo_writeSum 2 [.ref 0, .int (x1 + 1)] [] S1 Q))))) :
    px_w G px_Zr (d + 1) m_Mo_writeSum 2 [.ref 0, .int x1] [] S Q := by
  refine w_iload_n rfl rfl rfl ?_
  refine w_bipush (v := 16) rfl rfl (by decide) ?_
  refine w_if_icmpge 24 rfl rfl rfl (fun hc => ?_) (fun hc => ?_)
  · have h := h.1 hc
    exact w_return rfl rfl rfl h
  · have h := h.2 hc
    refine w_aload_n rfl rfl rfl ?_
    refine w_aload_n rfl rfl rfl ?_
    refine w_getR rfl rfl fl_Mo_98 rfl rfl ?_
    refine w_iload_n rfl rfl rfl ?_
    refine w_iaload rfl rfl rfl h.1 ?_
    have h := h.2
    refine w_callV h cs_Mo_writeSum_15 rfl rfl (Nat.le_of_ble_eq_true rfl) rfl (fun S1 h => ?_)
    refine w_iinc (v := 1) _ rfl rfl (by decide) rfl rfl (by decide) rfl ?_
    refine w_goto 2 rfl rfl rfl ?_
    exact h

theorem f_Mo_writeSum {G : px_G} {d : Nat} {S : px_S} {Q : Option Value → px_S → Prop}
    (h : px_w G px_Zr (d + 1) m_Mo_writeSum 2 [.ref 0, .int 0] [] S Q) :
    px_M G px_Zr (d + 1) m_Mo_writeSum [.ref 0] S Q :=
  px_in (Or.inr ⟨_, _, _, _, _, rfl, rfl, rfl, rfl⟩) (by decide) (Nat.le_of_ble_eq_true rfl) (px_en 1 rfl) (e_Mo_writeSum_0 h)

