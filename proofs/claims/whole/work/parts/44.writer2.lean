theorem sp_n_le {t : Nat → Nat} {f m : Nat} (h : f ≤ m) : sp_n t f ≤ sp_n t m := by
  induction m with
  | zero => rw [show f = 0 by omega]; exact Nat.le_refl _
  | succ m ih =>
    by_cases hm : f = m + 1
    · rw [hm]; exact Nat.le_refl _
    · exact Nat.le_trans (ih (by omega)) (Nat.le_add_right _ _)
section
variable {G : px_G} {d : Nat} {S : px_S} {V : List Int32}
theorem k_Writer_writeChecks {Q : px_S → Prop} {F : Nat → List Int32} {t : Nat → Nat} {f : Nat} (hf : f < 3) (hs : sl_at S F t 3) (h40 : t f ≤ 96) (hn : sp_n t 3 ≤ 12) (hF : ∀ f, f < 3 → ls_by (F f)) (hw : rw_at S 10 V) (hV : ls_by V) (hV26 : 26 ≤ V.length) (hVs : ls_sl V 22 4 = vw_set t) (hl : V.length + 27 + 20 * ((t f + 7) / 8) ≤ 694)
    (hQ : ∀ S', rw_at S' 10 (V ++ pk_of 73 (vw_set t) (vw_cb (sp_c F t 3) t f)) → wr_fr S S' → Q S') : px_V G px_Zc (d + 4) m_Writer_writeChecks [.ref 23, .int (nI f)] S Q := by
  have hC : ls_by (sp_c F t 3) := ls_by_c hF
  have hCl : (sp_c F t 3).length ≤ 96 := by rw [sp_c_len]; omega
  have hnf : sp_n t f + (t f + 7) / 8 ≤ 12 := by
    have : sp_n t (f + 1) ≤ sp_n t 3 := sp_n_le (by omega)
    have e : sp_n t (f + 1) = sp_n t f + (t f + 7) / 8 := rfl
    omega
  -- B: what stands before the slices' checks
  have loop : ∀ (m k : Nat) (S' : px_S), m + k = (t f + 7) / 8 → rw_at S' 10 (V ++ [80, 75, 84, 73] ++ List.replicate 22 0 ++ ([nI f] ++ vw_cks (sp_c F t 3) (sp_n t f) k)) → S' 22 2 = nI V.length → wr_fr S S' →
      px_w G px_Zc (d + 4) m_Writer_writeChecks 31 [.ref 23, .int (nI f), .int (nI ((t f + 7) / 8)), .int (nI k), .null, .null, .null] [] S' (px_vq Q) := by
    intro m
    induction m with
    | zero =>
      intro k S' hk w o fr
      have : k = (t f + 7) / 8 := by omega
      subst this
      refine e_Writer_writeChecks_31 ⟨fun h => ?_, fun h => absurd (Int32.le_refl _) h⟩
      have w6 : rw_at S' 10 (V ++ [80, 75, 84, 73] ++ List.replicate 18 0 ++ List.replicate 4 0 ++ vw_cb (sp_c F t 3) t f) := by
        have : V ++ [80, 75, 84, 73] ++ List.replicate 22 0 ++ ([nI f] ++ vw_cks (sp_c F t 3) (sp_n t f) ((t f + 7) / 8)) = V ++ [80, 75, 84, 73] ++ List.replicate 18 0 ++ List.replicate 4 0 ++ vw_cb (sp_c F t 3) t f := by
          have e : List.replicate 22 (0 : Int32) = List.replicate 18 0 ++ List.replicate 4 0 := rfl
          rw [e]
          unfold vw_cb
          simp
        rw [this] at w
        exact w
      refine k_Packets_close (set := vw_set t) w6 o ?_ (by simp) (by decide) hV (ls_by_0 4) (ls_by_cb _ (by omega)) ?_ (Or.inr hV26) (fun S6 w7 f6 => px_vq_i (hQ S6 w7 (fun i hi => ?_)))
      · unfold vw_cb; rw [List.length_append, vw_cks_len]; show V.length + 26 + (1 + 20 * ((t f + 7) / 8)) ≤ 694; omega
      · rw [if_neg (by omega), hVs]
      · rw [f6 i (by omega) (by omega)]; exact fr i hi
    | succ m ih =>
      intro k S' hk w o fr
      have s1 : sl_at S' F t 3 := fr.sl hs
      refine e_Writer_writeChecks_31 ⟨fun h => absurd h (nI_ge (by omega) (by omega)), fun h => ?_⟩
      refine k_Slices_start hf (k_Slices_row ?_)
      rw [(s1.2.2 f hf).1, show nI (8 * sp_n t f) + 8 * nI k = nI (8 * (sp_n t f + k)) by rw [show (8 : Int32) * nI k = nI (8 * k) from pk_mul 8 k, nI_add]; congr 1; omega]
      refine k_Check_of (c := 8) rw_13 s1.1 hCl (by omega) ?_
      have inner : ∀ (m2 i : Nat) (S2 : px_S), m2 + i = 4 → rw_at S2 10 (V ++ [80, 75, 84, 73] ++ List.replicate 22 0 ++ ([nI f] ++ vw_cks (sp_c F t 3) (sp_n t f) k) ++ (List.range i).map (fun i => px_ushr (cr (ls_sl (sp_c F t 3) (8 * (sp_n t f + k)) 8)) (nI (8 * i)) &&& 255)) → S2 22 2 = nI V.length → wr_fr S S2 →
          px_w G px_Zc (d + 4) m_Writer_writeChecks 70 [.ref 23, .int (nI f), .int (nI ((t f + 7) / 8)), .int (nI k), .int (nI (8 * (sp_n t f + k))), .int (cr (ls_sl (sp_c F t 3) (8 * (sp_n t f + k)) 8)), .int (nI i)] [] S2 (px_vq Q) := by
        intro m2
        induction m2 with
        | zero =>
          intro i S2 hi w2 o2 fr2
          have : i = 4 := by omega
          subst this
          have s2 : sl_at S2 F t 3 := fr2.sl hs
          refine e_Writer_writeChecks_70 ⟨fun h => k_Slices_row ?_, fun h => absurd (Int32.le_refl _) h⟩
          refine k_Sum_of (c := 8) rw_13 s2.1 hCl hC (by decide) (by decide) (by decide) (by omega) (by decide) (fun S4 w4 f4 => ?_)
          refine k_Writer_appendSum (w2.of (f4 10 (by decide)) (f4 11 (by decide))) w4 (by simp [vw_cks_len] <;> omega) (fun S5 w5 f5 => ?_)
          rw [nI_1]
          refine ih (k + 1) S5 (by omega) ?_ ?_ (fr2.tr (fun i hi => by rw [f5 i (by omega) (by omega), f4 i (by omega)]))
          · have e : V ++ [80, 75, 84, 73] ++ List.replicate 22 0 ++ ([nI f] ++ vw_cks (sp_c F t 3) (sp_n t f) k) ++ (List.range 4).map (fun i => px_ushr (cr (ls_sl (sp_c F t 3) (8 * (sp_n t f + k)) 8)) (nI (8 * i)) &&& 255) ++ (List.range 16).map (md_b (md_sum (ls_sl (sp_c F t 3) (8 * (sp_n t f + k)) 8))) = V ++ [80, 75, 84, 73] ++ List.replicate 22 0 ++ ([nI f] ++ vw_cks (sp_c F t 3) (sp_n t f) (k + 1)) := by
              show _ = V ++ [80, 75, 84, 73] ++ List.replicate 22 0 ++ ([nI f] ++ (vw_cks (sp_c F t 3) (sp_n t f) k ++ vw_ck (sp_c F t 3) (sp_n t f + k)))
              unfold vw_ck vw_4 md5
              simp only [List.append_assoc]
            rw [e] at w5
            exact w5
          · rw [f5 22 (by decide) (by decide), f4 22 (by decide)]; exact o2
        | succ m2 ih2 =>
          intro i S2 hi w2 o2 fr2
          refine e_Writer_writeChecks_70 ⟨fun h => absurd h (nI_ge (b := 4) (by omega) (by decide)), fun h => ?_⟩
          rw [show (8 : Int32) * nI i = nI (8 * i) from pk_mul 8 i]
          refine k_Row_append rw_10 w2 (by simp [vw_cks_len] <;> omega) (fun S3 w3 f3 => ?_)
          rw [nI_1]
          refine ih2 (i + 1) S3 (by omega) ?_ ?_ (fr2.tr (fun i hi => f3 i (by omega) (by omega)))
          · rw [List.append_assoc] at w3
            rw [List.range_succ, List.map_append]
            exact w3
          · rw [f3 22 (by decide) (by decide)]; exact o2
      exact inner 4 0 S' (by omega) (by simpa using w) o fr
  refine f_Writer_writeChecks (k_Packets_open (kd := 73) hw (by omega) (by decide) (fun S1 w1 o1 f1 => ?_))
  have s1 : sl_at S1 F t 3 := hs.of (fun i h1 h2 => f1 i (by omega) (by omega) (by omega))
  refine k_Row_append rw_10 w1 (by simp <;> omega) (fun S2 w2 f2 => ?_)
  have s2 : sl_at S2 F t 3 := s1.of (fun i h1 h2 => f2 i (by omega) (by omega))
  refine k_Slices_size hf ?_
  rw [(s2.2.2 f hf).2]
  refine k_slicesOf (by omega) ?_
  have e1 : nI f &&& 255 = nI f := by_nI (by omega)
  rw [e1] at w2
  refine loop ((t f + 7) / 8) 0 S2 (by omega) (by simpa [vw_cks] using w2) ?_ (fun i hi => by rw [f2 i (by omega) (by omega), f1 i (by omega) (by omega) (by omega)])
  rw [f2 22 (by decide) (by decide)]; exact o1
theorem k_Writer_writeRecovery {Q : px_S → Prop} {F : Nat → List Int32} {t : Nat → Nat} {e : Nat} (he : e < 256) (hs : sl_at S F t 3) (hn : sp_n t 3 ≤ 12) (hF : ∀ f, f < 3 → ls_by (F f)) (hw : rw_at S 10 V) (hV : ls_by V) (hV26 : 26 ≤ V.length) (hVs : ls_sl V 22 4 = vw_set t) (hl : V.length + 35 ≤ 694)
    (hQ : ∀ S', rw_at S' 10 (V ++ pk_of 82 (vw_set t) (vw_rb (sp_c F t 3) e (sp_n t 3))) → wr_fr S S' → Q S') : px_V G px_Zc (d + 4) m_Writer_writeRecovery [.ref 23, .int (nI e)] S Q := by
  have hC : ls_by (sp_c F t 3) := ls_by_c hF
  have loop : ∀ (m q : Nat) (S' : px_S), m + q = 4 → rw_at S' 10 (V ++ [80, 75, 84, 82] ++ List.replicate 22 0 ++ ([nI e] ++ vw_rec (sp_c F t 3) e (sp_n t 3) q)) → (∀ q, q < 4 → S' 17 q = gE (sp_wg (sp_c F t 3) 0 e q (sp_n t 3))) → S' 22 2 = nI V.length → wr_fr S S' →
      px_w G px_Zc (d + 4) m_Writer_writeRecovery 28 [.ref 23, .int (nI e), .int (nI q)] [] S' (px_vq Q) := by
    intro m
    induction m with
    | zero =>
      intro q S' hq w hg o fr
      have : q = 4 := by omega
      subst this
      refine e_Writer_writeRecovery_28 ⟨fun h => ?_, fun h => absurd (Int32.le_refl _) h⟩
      have w6 : rw_at S' 10 (V ++ [80, 75, 84, 82] ++ List.replicate 18 0 ++ List.replicate 4 0 ++ vw_rb (sp_c F t 3) e (sp_n t 3)) := by
        have : V ++ [80, 75, 84, 82] ++ List.replicate 22 0 ++ ([nI e] ++ vw_rec (sp_c F t 3) e (sp_n t 3) 4) = V ++ [80, 75, 84, 82] ++ List.replicate 18 0 ++ List.replicate 4 0 ++ vw_rb (sp_c F t 3) e (sp_n t 3) := by
          have e : List.replicate 22 (0 : Int32) = List.replicate 18 0 ++ List.replicate 4 0 := rfl
          rw [e]
          unfold vw_rb
          simp
        rw [this] at w
        exact w
      refine k_Packets_close (set := vw_set t) w6 o ?_ (by simp) (by decide) hV (ls_by_0 4) (ls_by_rb _ _ he) ?_ (Or.inr hV26) (fun S6 w7 f6 => px_vq_i (hQ S6 w7 (fun i hi => ?_)))
      · unfold vw_rb; rw [List.length_append, vw_rec_len]; show V.length + 26 + (1 + 2 * 4) ≤ 694; omega
      · rw [if_neg (by omega), hVs]
      · rw [f6 i (by omega) (by omega)]; exact fr i hi
    | succ m ih =>
      intro q S' hq w hg o fr
      refine e_Writer_writeRecovery_28 ⟨fun h => absurd h (nI_ge (b := 4) (by omega) (by decide)), fun h => ?_⟩
      refine k_Slices_weighed (by omega) ?_
      refine k_Row_append rw_10 w (by simp [vw_rec_len] <;> omega) (fun S2 w2 f2 => k_Slices_weighed (by omega) ?_)
      refine k_Row_append rw_10 w2 (by simp [vw_rec_len] <;> omega) (fun S3 w3 f3 => ?_)
      rw [nI_1]
      refine ih (q + 1) S3 (by omega) ?_ ?_ ?_ (fr.tr (fun i hi => by rw [f3 i (by omega) (by omega), f2 i (by omega) (by omega)]))
      · rw [f2 17 (by decide) (by decide), hg q (by omega)] at w3
        have e1 : V ++ [80, 75, 84, 82] ++ List.replicate 22 0 ++ ([nI e] ++ vw_rec (sp_c F t 3) e (sp_n t 3) q) ++ [gE (sp_wg (sp_c F t 3) 0 e q (sp_n t 3)) &&& 255] ++ [px_ushr (gE (sp_wg (sp_c F t 3) 0 e q (sp_n t 3))) 8 &&& 255] = V ++ [80, 75, 84, 82] ++ List.replicate 22 0 ++ ([nI e] ++ vw_rec (sp_c F t 3) e (sp_n t 3) (q + 1)) := by
          show _ = V ++ [80, 75, 84, 82] ++ List.replicate 22 0 ++ ([nI e] ++ (vw_rec (sp_c F t 3) e (sp_n t 3) q ++ vw_2 (sp_wg (sp_c F t 3) 0 e q (sp_n t 3))))
          unfold vw_2
          simp
        rw [e1] at w3
        exact w3
      · rw [f3 17 (by decide) (by decide), f2 17 (by decide) (by decide)]; exact hg
      · rw [f3 22 (by decide) (by decide), f2 22 (by decide) (by decide)]; exact o
  refine f_Writer_writeRecovery (k_Packets_open (kd := 82) hw (by omega) (by decide) (fun S1 w1 o1 f1 => ?_))
  have s1 : sl_at S1 F t 3 := hs.of (fun i h1 h2 => f1 i (by omega) (by omega) (by omega))
  refine k_Row_append rw_10 w1 (by simp <;> omega) (fun S2 w2 f2 => ?_)
  have s2 : sl_at S2 F t 3 := s1.of (fun i h1 h2 => f2 i (by omega) (by omega))
  refine k_Slices_weigh (out := 0) s2.1 (sp_c_len F t 3) hn hC he (by decide) (fun S3 w3 f3 => ?_)
  have e1 : nI e &&& 255 = nI e := by_nI he
  rw [e1] at w2
  have w2' : rw_at S3 10 (V ++ [80, 75, 84, 82] ++ List.replicate 22 0 ++ [nI e]) := w2.of (f3 10 (by decide)) (f3 11 (by decide))
  refine loop 4 0 S3 (by omega) (by simpa [vw_rec] using w2') w3 ?_ (fun i hi => by rw [f3 i (by omega), f2 i (by omega) (by omega), f1 i (by omega) (by omega) (by omega)])
  rw [f3 22 (by decide), f2 22 (by decide) (by decide)]; exact o1
theorem k_Writer_writeMain {Q : px_S → Prop} {F : Nat → List Int32} {t : Nat → Nat} (hs : sl_at S F t 3) (h40 : ∀ f, f < 3 → t f < 256) (hw : rw_at S 10 []) (hQ : ∀ S', rw_at S' 10 (pk_of 77 (vw_set t) (vw_main t)) → wr_fr S S' → Q S') : px_V G px_Zc (d + 4) m_Writer_writeMain [.ref 23] S Q := by
  -- the set
  have sets : ∀ (m k : Nat) (S' : px_S), m + k = 4 → rw_at S' 10 (([] ++ [80, 75, 84, 77] ++ List.replicate 18 0) ++ ((vw_set t).take k ++ (List.replicate 4 0).drop k) ++ vw_main t) → (∀ j, j < 4 → S' 21 j = md_wd (md_sum (vw_main t)) j) → S' 22 2 = nI 0 → wr_fr S S' →
      px_w G px_Zc (d + 4) m_Writer_writeMain 91 [.ref 23, .int (nI k)] [] S' (px_vq Q) := by
    intro m
    induction m with
    | zero =>
      intro k S' hk w hg o fr
      have : k = 4 := by omega
      subst this
      refine e_Writer_writeMain_91 ⟨fun h => ?_, fun h => absurd (Int32.le_refl _) h⟩
      have w2 : rw_at S' 10 ([] ++ [80, 75, 84, 77] ++ List.replicate 18 0 ++ vw_set t ++ vw_main t) := by
        rw [List.take_of_length_le (by rw [vw_set_len]; decide), show (List.replicate 4 (0 : Int32)).drop 4 = [] from rfl, List.append_nil] at w
        exact w
      refine k_Packets_close (V0 := []) (set := vw_set t) w2 o (show 0 + 26 + 5 ≤ 694 by decide) (vw_set_len t) (by decide) ls_by_nil (ls_by_set t) (ls_by_main h40) ?_ (Or.inl rfl) (fun S6 w7 f6 => px_vq_i (hQ S6 w7 (fun i hi => ?_)))
      · rw [if_pos (show ([] : List Int32).length = 0 from rfl)]
      · rw [f6 i (by omega) (by omega)]; exact fr i hi
    | succ m ih =>
      intro k S' hk w hg o fr
      refine e_Writer_writeMain_91 ⟨fun h => absurd h (nI_ge (b := 4) (by omega) (by decide)), fun h => ?_⟩
      have hb : md_b (md_sum (vw_main t)) k = (vw_set t).getD k 0 := by
        have : k = 0 ∨ k = 1 ∨ k = 2 ∨ k = 3 := by omega
        rcases this with rfl | rfl | rfl | rfl <;> rfl
      refine k_Sum_get hg (by omega) ?_
      rw [hb, show (22 : Int32) + nI k = nI (22 + k) from nI_add 22 k, nI_1]
      have hlen : (([] ++ ([80, 75, 84, 77] : List Int32) ++ List.replicate 18 0) ++ ((vw_set t).take k ++ (List.replicate 4 0).drop k) ++ vw_main t).length = 31 := by
        simp [vw_set_len, vw_main]
        omega
      refine k_Row_setN rw_10 w (by rw [hlen]; decide) (by rw [hlen]; omega) (ls_by_getD (ls_by_set t) k) (fun S2 w2 f2 => ?_)
      have eA : 22 + k = (([] : List Int32) ++ [80, 75, 84, 77] ++ List.replicate 18 0).length + k := by simp
      rw [eA, ls_put _ _ _ _ (by rw [vw_set_len]; rfl) (by rw [vw_set_len]; omega)] at w2
      refine ih (k + 1) S2 (by omega) w2 ?_ ?_ (fr.tr (fun i hi => f2 i (by omega)))
      · rw [f2 21 (by decide)]; exact hg
      · rw [f2 22 (by decide)]; exact o
  refine f_Writer_writeMain (k_Packets_open (kd := 77) hw (by decide) (by decide) (fun S1 w1 o1 f1 => ?_))
  have s1 : sl_at S1 F t 3 := hs.of (fun i h1 h2 => f1 i (by omega) (by omega) (by omega))
  refine k_Row_append rw_10 w1 (by decide) (fun S2 w2 f2 => k_Slices_fileCount ?_)
  have s2 : sl_at S2 F t 3 := s1.of (fun i h1 h2 => f2 i (by omega) (by omega))
  rw [s2.2.1]
  refine k_Row_append rw_10 w2 (by decide) (fun S3 w3 f3 => ?_)
  have s3 : sl_at S3 F t 3 := s2.of (fun i h1 h2 => f3 i (by omega) (by omega))
  have loop : ∀ (m f : Nat) (S' : px_S), m + f = 3 → rw_at S' 10 ([] ++ [80, 75, 84, 77] ++ List.replicate 22 0 ++ [8] ++ [3] ++ (List.range f).map (fun f => nI (t f))) → (∀ i, i ≠ 10 → i ≠ 11 → S' i = S3 i) → px_w G px_Zc (d + 4) m_Writer_writeMain 34 [.ref 23, .int (nI f)] [] S' (px_vq Q) := by
    intro m
    induction m with
    | zero =>
      intro f S' hf w fr
      have : f = 3 := by omega
      subst this
      have s4 : sl_at S' F t 3 := s3.of (fun i h1 h2 => fr i (by omega) (by omega))
      refine e_Writer_writeMain_34 (k_Slices_fileCount ⟨fun h => k_Row_size rw_10 ?_, fun h => absurd (by rw [s4.2.1]; exact Int32.le_refl _) h⟩)
      have e1 : ([] ++ ([80, 75, 84, 77] : List Int32) ++ List.replicate 22 0 ++ [8] ++ [3] ++ (List.range 3).map (fun f => nI (t f))) = ([] ++ [80, 75, 84, 77] ++ List.replicate 18 0) ++ List.replicate 4 0 ++ vw_main t := rfl
      rw [e1] at w
      have e2 : S' 10 1 - 26 = nI 5 := by rw [w.1]; show nI 31 - nI 26 = nI 5; exact pk_sub (a := 31) (b := 26) (by decide)
      rw [e2]
      have hby : ls_by (([] ++ [80, 75, 84, 77] ++ List.replicate 18 0) ++ List.replicate 4 0 ++ vw_main t) := ls_by_app (ls_by_app (ls_by_app (ls_by_app ls_by_nil (ls_by_cons (by decide) (ls_by_cons (by decide) (ls_by_cons (by decide) (ls_by_cons (by decide) ls_by_nil))))) (ls_by_0 18)) (ls_by_0 4)) (ls_by_main h40)
      refine k_Sum_of (a := 26) (c := 5) rw_10 w (by show 31 ≤ 694; decide) hby (by decide) (by decide) (by decide) (by decide) (by decide) (fun S4 w4 f4 => ?_)
      have e3 : ls_sl (([] ++ [80, 75, 84, 77] ++ List.replicate 18 0) ++ List.replicate 4 0 ++ vw_main t) 26 5 = vw_main t := rfl
      rw [e3] at w4
      refine sets 4 0 S4 (by omega) ?_ w4 ?_ (fun i hi => ?_)
      · have w5 := w.of (f4 10 (by decide)) (f4 11 (by decide))
        exact w5
      · rw [f4 22 (by decide), fr 22 (by decide) (by decide), f3 22 (by decide) (by decide), f2 22 (by decide) (by decide)]; exact o1
      · rw [f4 i (by omega), fr i (by omega) (by omega), f3 i (by omega) (by omega), f2 i (by omega) (by omega), f1 i (by omega) (by omega) (by omega)]
    | succ m ih =>
      intro f S' hf w fr
      have s4 : sl_at S' F t 3 := s3.of (fun i h1 h2 => fr i (by omega) (by omega))
      refine e_Writer_writeMain_34 (k_Slices_fileCount ⟨fun h => ?_, fun h => k_Slices_size (by omega) ?_⟩)
      · rw [s4.2.1] at h
        exact absurd h (nI_ge (by omega) (by decide))
      · rw [(s4.2.2 f (by omega)).2]
        refine k_Row_append rw_10 w (by simp <;> omega) (fun S5 w5 f5 => ?_)
        rw [nI_1]
        refine ih (f + 1) S5 (by omega) ?_ (fun i h1 h2 => (f5 i h1 h2).trans (fr i h1 h2))
        rw [by_nI (h40 f (by omega)), List.append_assoc] at w5
        rw [List.range_succ, List.map_append]
        exact w5
  exact loop 3 0 S3 (by omega) w3 (fun _ _ _ => rfl)
end
