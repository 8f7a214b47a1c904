/-! The reference: protect -/
theorem by_nat {v : Int32} (h : v &&& 255 = v) : ∃ x : Nat, x < 256 ∧ v = nI x := by
  rw [pk_and v (m := 255) 8 (by decide)] at h
  exact ⟨_, Nat.mod_lt _ (by decide), h.symm⟩
def sv_R (S : px_S) (T : List Int32) (F : Nat → List Int32) (V : List Int32) : Prop := rf_ok S ∧ (S 0 2 = nI T.length ∧ ∀ j, j < T.length → S 3 j = T.getD j 0) ∧ rs_F S F ∧ rv_at S V
section
variable {G : px_G} {d : Nat} {S : px_S} {V : List Int32} {F : Nat → List Int32} {t : Nat → Nat}
theorem k_Mo_firstFour {Q : Int32 → px_S → Prop} {s : md_S} (hs : ∀ j, j < 16 → S 9 j = md_b s j) (hQ : ∀ r, vw_4 r = [md_b s 0, md_b s 1, md_b s 2, md_b s 3] → Q r S) : px_I G px_Zr d m_Mo_firstFour [.ref 0] S Q := by
  obtain ⟨a, ha, e0⟩ := by_nat (v := md_b s 0) (by_and _)
  obtain ⟨b, hb, e1⟩ := by_nat (v := md_b s 1) (by_and _)
  obtain ⟨c, hc, e2⟩ := by_nat (v := md_b s 2) (by_and _)
  obtain ⟨e, he, e3⟩ := by_nat (v := md_b s 3) (by_and _)
  refine f_Mo_firstFour (px_iq_i ?_)
  rw [hs 0 (by decide), hs 1 (by decide), hs 2 (by decide), hs 3 (by decide), e0, e1, e2, e3, vw_pk ha hb hc he]
  refine hQ _ ?_
  rw [vw_4_nI ha hb hc he, e0, e1, e2, e3]
theorem k_Mo_writeChecks {Q : px_S → Prop} {f : Nat} {x2 : Int32} (hf : f < 3) (hok : rf_ok S) (hs : rs_sl S F t 3) (h40 : t f ≤ 96) (hn : sp_n t 3 ≤ 12) (hF : ∀ f, f < 3 → ls_by (F f)) (hw : rv_at S V) (hl : V.length + 27 + 20 * ((t f + 7) / 8) ≤ 694)
    (hQ : ∀ S', rv_at S' (V ++ pk_of 73 (vw_4 x2) (vw_cb (sp_c F t 3) t f)) → rg_fr S S' → Q S') : px_V G px_Zr (d + 4) m_Mo_writeChecks [.ref 0, .int (nI f), .int x2] S Q := by
  have hC : ls_by (sp_c F t 3) := ls_by_c hF
  have hCl : (sp_c F t 3).length = 8 * sp_n t 3 := sp_c_len F t 3
  have hnf : sp_n t f + (t f + 7) / 8 ≤ sp_n t 3 := sp_n_le (f := f + 1) (by omega)
  have hS15 : ∀ S', rg_fr S S' → ∀ i, i < (sp_c F t 3).length → S' 15 i = (sp_c F t 3).getD i 0 := fun S' fr i hi => (fr.sl hs).1 i (by omega)
  refine f_Mo_writeChecks (k_Mo_begin hw (by omega) (by decide) (fun S1 g hg w1 f1 => k_Mo_write w1 (by simp [hg] <;> omega) (fun S2 w2 f2 _ => ?_)))
  have fr12 := f1.tr f2
  refine ⟨vp_in_nI (by omega) (by decide), ?_⟩
  rw [nI_clamp (by omega), (fr12.sl hs).2 f (by omega)]
  rw [by_nI (by omega)] at w2
  have loop : ∀ (m k : Nat) (S' : px_S), m + k = (t f + 7) / 8 → rv_at S' (V ++ [80, 75, 84, 73] ++ g ++ ([nI f] ++ vw_cks (sp_c F t 3) (sp_n t f) k)) → rg_fr S S' →
      px_w G px_Zr (d + 4) m_Mo_writeChecks 20 [.ref 0, .int (nI f), .int x2, .int (nI V.length), .int (nI (sp_n t f + k)), .null, .null] [] S' (px_vq Q) := by
    intro m
    induction m with
    | zero =>
      intro k S' hk w fr
      have : k = (t f + 7) / 8 := by omega
      subst this
      refine e_Mo_writeChecks_20 ⟨by rw [nI_1]; exact vp_in_nI (by omega) (by decide), ?_⟩
      rw [nI_1, nI_clamp (by omega), (fr.sl hs).2 (f + 1) (by omega)]
      refine ⟨fun h => ?_, fun h => absurd (Int32.le_refl _) h⟩
      refine k_Mo_end (fr.ok hok) w hg ?_ (by decide) (ls_by_cb _ (by omega)) (fun S3 w3 f3 => px_vq_i (hQ S3 w3 (fr.tr f3)))
      rw [List.length_append, vw_cks_len]
      show V.length + 26 + (1 + 20 * ((t f + 7) / 8)) ≤ 694
      omega
    | succ m ih =>
      intro k S' hk w fr
      refine e_Mo_writeChecks_20 ⟨by rw [nI_1]; exact vp_in_nI (by omega) (by decide), ?_⟩
      rw [nI_1, nI_clamp (by omega), (fr.sl hs).2 (f + 1) (by omega)]
      refine ⟨fun h => absurd h (nI_ge (b := sp_n t f + (t f + 7) / 8) (by omega) (by omega)), fun h => ?_⟩
      refine k_Mo_sliceCheck (by omega) (hS15 S' fr) (by omega) ?_
      have inner : ∀ (m2 i : Nat) (S2 : px_S), m2 + i = 4 → rv_at S2 (V ++ [80, 75, 84, 73] ++ g ++ ([nI f] ++ vw_cks (sp_c F t 3) (sp_n t f) k) ++ (List.range i).map (fun i => px_ushr (cr (ls_sl (sp_c F t 3) (8 * (sp_n t f + k)) 8)) (nI (8 * i)) &&& 255)) → rg_fr S S2 →
          px_w G px_Zr (d + 4) m_Mo_writeChecks 44 [.ref 0, .int (nI f), .int x2, .int (nI V.length), .int (nI (sp_n t f + k)), .int (cr (ls_sl (sp_c F t 3) (8 * (sp_n t f + k)) 8)), .int (nI i)] [] S2 (px_vq Q) := by
        intro m2
        induction m2 with
        | zero =>
          intro i S2 hi w2 fr2
          have : i = 4 := by omega
          subst this
          refine e_Mo_writeChecks_44 ⟨fun h => ?_, fun h => absurd (Int32.le_refl _) h⟩
          refine k_Mo_sumSlice (fr2.ok hok) (hS15 S2 fr2) (by omega) (by omega) hC (fun S4 h9 f4 => ?_)
          refine k_Mo_writeSum (f4.rv w2) h9 (by simp [vw_cks_len, hg] <;> omega) (fun S5 w5 f5 => ?_)
          rw [show nI (sp_n t f + k) + 1 = nI (sp_n t f + (k + 1)) from nI_add _ 1]
          refine ih (k + 1) S5 (by omega) ?_ ((fr2.tr f4.rg).tr f5)
          have e : V ++ [80, 75, 84, 73] ++ g ++ ([nI f] ++ vw_cks (sp_c F t 3) (sp_n t f) k) ++ (List.range 4).map (fun i => px_ushr (cr (ls_sl (sp_c F t 3) (8 * (sp_n t f + k)) 8)) (nI (8 * i)) &&& 255) ++ (List.range 16).map (md_b (md_sum (ls_sl (sp_c F t 3) (8 * (sp_n t f + k)) 8))) = V ++ [80, 75, 84, 73] ++ g ++ ([nI f] ++ vw_cks (sp_c F t 3) (sp_n t f) (k + 1)) := by
            show _ = V ++ [80, 75, 84, 73] ++ g ++ ([nI f] ++ (vw_cks (sp_c F t 3) (sp_n t f) k ++ vw_ck (sp_c F t 3) (sp_n t f + k)))
            unfold vw_ck vw_4 md5
            simp only [List.append_assoc]
          rw [e] at w5
          exact w5
        | succ m2 ih2 =>
          intro i S2 hi w2 fr2
          refine e_Mo_writeChecks_44 ⟨fun h => absurd h (nI_ge (b := 4) (by omega) (by decide)), fun h => ?_⟩
          rw [show (8 : Int32) * nI i = nI (8 * i) from pk_mul 8 i]
          refine k_Mo_write w2 (by simp [vw_cks_len, hg] <;> omega) (fun S3 w3 f3 _ => ?_)
          rw [nI_1]
          refine ih2 (i + 1) S3 (by omega) ?_ (fr2.tr f3)
          rw [List.append_assoc] at w3
          rw [List.range_succ, List.map_append]
          exact w3
      exact inner 4 0 S' (by omega) (by simpa using w) fr
  exact loop ((t f + 7) / 8) 0 S2 (by omega) (by simpa [vw_cks] using w2) fr12
theorem k_Mo_writeRecovery {Q : px_S → Prop} {e : Nat} {x3 : Int32} (he : e < 256) (hok : rf_ok S) (hs : rs_sl S F t 3) (hn : sp_n t 3 ≤ 12) (hF : ∀ f, f < 3 → ls_by (F f)) (hw : rv_at S V) (hl : V.length + 35 ≤ 694)
    (hQ : ∀ S', rv_at S' (V ++ pk_of 82 (vw_4 x3) (vw_rb (sp_c F t 3) e (sp_n t 3))) → rg_fr S S' → Q S') : px_V G px_Zr (d + 4) m_Mo_writeRecovery [.ref 0, .int (nI e), .int (nI (sp_n t 3)), .int x3] S Q := by
  have hC : ls_by (sp_c F t 3) := ls_by_c hF
  have hCl : (sp_c F t 3).length = 8 * sp_n t 3 := sp_c_len F t 3
  refine f_Mo_writeRecovery (k_Mo_begin hw (by omega) (by decide) (fun S1 g hg w1 f1 => k_Mo_write w1 (by simp [hg] <;> omega) (fun S2 w2 f2 _ => ?_)))
  rw [by_nI he] at w2
  have loop : ∀ (m q : Nat) (S' : px_S), m + q = 4 → rv_at S' (V ++ [80, 75, 84, 82] ++ g ++ ([nI e] ++ vw_rec (sp_c F t 3) e (sp_n t 3) q)) → rg_fr S S' →
      px_w G px_Zr (d + 4) m_Mo_writeRecovery 16 [.ref 0, .int (nI e), .int (nI (sp_n t 3)), .int x3, .int (nI V.length), .int (nI q), .null, .null] [] S' (px_vq Q) := by
    intro m
    induction m with
    | zero =>
      intro q S' hq w fr
      have : q = 4 := by omega
      subst this
      refine e_Mo_writeRecovery_16 ⟨fun h => ?_, fun h => absurd (Int32.le_refl _) h⟩
      refine k_Mo_end (fr.ok hok) w hg ?_ (by decide) (ls_by_rb _ _ he) (fun S3 w3 f3 => px_vq_i (hQ S3 w3 (fr.tr f3)))
      rw [List.length_append, vw_rec_len]
      show V.length + 26 + (1 + 2 * 4) ≤ 694
      omega
    | succ m ih =>
      intro q S' hq w fr
      refine e_Mo_writeRecovery_16 ⟨fun h => absurd h (nI_ge (b := 4) (by omega) (by decide)), fun h => ?_⟩
      have inner : ∀ (m2 j : Nat), m2 + j = sp_n t 3 → px_w G px_Zr (d + 4) m_Mo_writeRecovery 28 [.ref 0, .int (nI e), .int (nI (sp_n t 3)), .int x3, .int (nI V.length), .int (nI q), .int (gE (sp_wg (sp_c F t 3) 0 e q j)), .int (nI j)] [] S' (px_vq Q) := by
        intro m2
        induction m2 with
        | zero =>
          intro j hj
          have : j = sp_n t 3 := by omega
          subst this
          refine e_Mo_writeRecovery_28 ⟨fun h2 => ?_, fun h2 => absurd (Int32.le_refl _) h2⟩
          have hlt := (sp_wg (sp_c F t 3) 0 e q (sp_n t 3)).isLt
          have e8 : px_sar (gE (sp_wg (sp_c F t 3) 0 e q (sp_n t 3))) 8 = px_ushr (gE (sp_wg (sp_c F t 3) 0 e q (sp_n t 3))) 8 := by
            have a1 : px_sar (gE (sp_wg (sp_c F t 3) 0 e q (sp_n t 3))) (nI 8) = _ := px_sarN (by omega) (by decide)
            have a2 : px_ushr (gE (sp_wg (sp_c F t 3) 0 e q (sp_n t 3))) (nI 8) = _ := px_ushrN (by omega) (by decide)
            exact a1.trans a2.symm
          rw [e8]
          refine k_Mo_write w (by simp [vw_rec_len, hg] <;> omega) (fun S3 w3 f3 _ => k_Mo_write w3 (by simp [vw_rec_len, hg] <;> omega) (fun S4 w4 f4 _ => ?_))
          rw [nI_1]
          refine ih (q + 1) S4 (by omega) ?_ ((fr.tr f3).tr f4)
          have e1 : V ++ [80, 75, 84, 82] ++ g ++ ([nI e] ++ vw_rec (sp_c F t 3) e (sp_n t 3) q) ++ [gE (sp_wg (sp_c F t 3) 0 e q (sp_n t 3)) &&& 255] ++ [px_ushr (gE (sp_wg (sp_c F t 3) 0 e q (sp_n t 3))) 8 &&& 255] = V ++ [80, 75, 84, 82] ++ g ++ ([nI e] ++ vw_rec (sp_c F t 3) e (sp_n t 3) (q + 1)) := by
            show _ = V ++ [80, 75, 84, 82] ++ g ++ ([nI e] ++ (vw_rec (sp_c F t 3) e (sp_n t 3) q ++ vw_2 (sp_wg (sp_c F t 3) 0 e q (sp_n t 3))))
            unfold vw_2
            simp
          rw [e1] at w4
          exact w4
        | succ m2 ih2 =>
          intro j hj
          refine e_Mo_writeRecovery_28 ⟨fun h2 => absurd h2 (nI_ge (by omega) (by omega)), fun h2 => ?_⟩
          refine k_Mo_word (C := sp_c F t 3) (fun i hi => (fr.sl hs).1 i (by omega)) (by omega) (by omega) hC (by omega) (k_Mo_base (fr.ok hok) (by omega) (k_Mo_power (by omega) (k_Mo_times ?_)))
          rw [gE_xor, nI_1, gf_w_mul]
          have := ih2 (j + 1) (by omega)
          have e2 : sp_wg (sp_c F t 3) 0 e q (j + 1) = sp_wg (sp_c F t 3) 0 e q j ^^^ gf_m (sp_num (sp_c F t 3) j q) (gf_w 2#16 (px_lg j * e)) := by
            show sp_wg (sp_c F t 3) 0 e q j ^^^ (if 0 / 2 ^ j % 2 = 0 then gf_m (sp_num (sp_c F t 3) j q) (gf_b j e) else 0#16) = _
            rw [if_pos (by rw [Nat.zero_div])]
            rfl
          rw [e2] at this
          exact this
      have h0 := inner (sp_n t 3) 0 (by omega)
      rw [show sp_wg (sp_c F t 3) 0 e q 0 = 0#16 from rfl, gE_0] at h0
      exact h0
  exact loop 4 0 S2 (by omega) (by simpa [vw_rec] using w2) (f1.tr f2)
end
