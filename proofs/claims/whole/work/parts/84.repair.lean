/-! repair, by the class -/
section
variable {G : px_G} {d : Nat} {S : px_S} {V T C : List Int32} {F : Nat → List Int32} {N : Nat → Option Nat} {t : Nat → Nat} {m : Nat}
theorem k_Catalog_agreesWithSum {Q : Int32 → px_S → Prop} {f : Nat} {s : md_S} (hf : f < 3) (hw : rw_at S 10 V) (hl : V.length ≤ 694) (hN : nt_at S N) (hs : ∀ j, j < 4 → S 21 j = md_wd s j) (hb : ∀ a, N f = some a → a + 26 ≤ 694) (h1 : (∀ a, N f = some a → ∀ i, i < 16 → V.getD (a + 28 + i) 0 = md_b s i) → Q 1 S) (h0 : ¬ (∀ a, N f = some a → ∀ i, i < 16 → V.getD (a + 28 + i) 0 = md_b s i) → Q 0 S) : px_I G px_Zc (d + 2) m_Catalog_agreesWithSum [.ref 24, .int (nI f)] S Q := by
  refine f_Catalog_agreesWithSum (k_isFileN hf ⟨fun z => absurd z (by decide), fun _ => ⟨vp_in_nI hf (by decide), ?_⟩⟩)
  rw [nI_clamp (by omega), hN.1 f hf, nt_v_iff (fun a h => by have := hb a h; omega)]
  cases hn : N f with
  | none => exact ⟨fun _ => px_iq_i (h1 (fun a h => by rw [hn] at h; cases h)), fun z => absurd rfl z⟩
  | some a =>
    have := hb a hn
    refine ⟨fun z => (nomatch z), fun _ => ⟨vp_in_nI hf (by decide), ?_⟩⟩
    show px_I G px_Zc (d + 1) m_Sum_standsIn [.ref 18, .ref 10, .int (nI (a + 26) + 2), .int 16] S _
    rw [show nI (a + 26) + 2 = nI (a + 26 + 2) from nI_add _ 2]
    refine k_Sum_standsIn (c := 16) rw_10 hw hl hs (by omega) (by omega) (fun c => ⟨fun z => absurd z (by decide), fun _ => px_iq_i (h1 (fun b h => ?_))⟩) (fun c => ⟨fun _ => px_iq_i (h0 (fun z => c ?_)), fun z => absurd rfl z⟩)
    · rw [hn] at h
      cases h
      exact c
    · exact z a hn
theorem k_Mender_filesAreAsTold {Q : Int32 → px_S → Prop} (hm : m ≤ 3) (hw : rw_at S 10 V) (hl : V.length ≤ 694) (hN : nt_at S N) (hb : ∀ k a, N k = some a → a + 26 ≤ 694) (hc : rw_at S 13 C) (hC : C.length = 8 * sp_n t m) (hn : sp_n t m ≤ 12) (hCb : ls_by C) (h4 : S 12 4 = nI m) (hss : ∀ f, f < m → S 15 f = nI (8 * sp_n t f) ∧ S 16 f = nI (t f)) (h40 : ∀ f, f < m → t f ≤ 40)
    (h1 : (∀ f, f < m → rp_rt V N C t f) → ∀ S', sm_fr S S' → Q 1 S') (h0 : ¬ (∀ f, f < m → rp_rt V N C t f) → ∀ S', sm_fr S S' → Q 0 S') : px_I G px_Zc (d + 4) m_Mender_filesAreAsTold [.ref 29] S Q := by
  have t2 : ∀ (r f : Nat) (S1 : px_S), r + f = m → (∀ u, u < f → rp_rt V N C t u) → sm_fr S S1 → px_w G px_Zc (d + 4) m_Mender_filesAreAsTold 2 [.ref 29, .int (nI f)] [] S1 (px_iq Q) := by
    intro r
    induction r with
    | zero =>
      intro f S1 hf hu f1
      have : f = m := by omega
      subst this
      refine e_Mender_filesAreAsTold_2 (k_Slices_fileCount ?_)
      rw [f1 12 (by omega), h4]
      exact ⟨fun _ => px_iq_i (h1 hu S1 f1), fun z => absurd (Int32.le_refl _) z⟩
    | succ r ih =>
      intro f S1 hf hu f1
      refine e_Mender_filesAreAsTold_2 (k_Slices_fileCount ?_)
      rw [f1 12 (by omega), h4, nI_1]
      refine ⟨fun z => absurd z (nI_ge (by omega) (by omega)), fun _ => k_Slices_row (k_Slices_start (by omega) (k_Slices_size (by omega) ?_))⟩
      have := h40 f (by omega)
      have hnf : sp_n t (f + 1) ≤ sp_n t m := sp_n_le (by omega)
      have hnf1 : sp_n t (f + 1) = sp_n t f + (t f + 7) / 8 := rfl
      rw [f1 15 (by omega), f1 16 (by omega), (hss f (by omega)).1, (hss f (by omega)).2]
      refine k_Sum_of rw_13 (hc.of (f1 13 (by omega)) (f1 14 (by omega))) (by omega) hCb (by decide) (by decide) (by decide) (by omega) (by omega) (fun S2 w2 f2 => ?_)
      have f12 : sm_fr S S2 := fun i hi => by rw [f2 i hi, f1 i hi]
      have hN2 : nt_at S2 N := ⟨by rw [f12 26 (by omega)]; exact hN.1, by rw [f12 27 (by omega)]; exact hN.2.1, by rw [f12 28 (by omega)]; exact hN.2.2.1, by rw [f12 24 (by omega)]; exact hN.2.2.2⟩
      refine k_Catalog_agreesWithSum (by omega) (hw.of (f12 10 (by omega)) (f12 11 (by omega))) hl hN2 w2 (hb f) (fun c => ⟨fun _ => ih (f + 1) S2 (by omega) (fun u huu => ?_) f12, fun z => absurd z (by decide)⟩) (fun c => ⟨fun z => absurd rfl z, fun _ => px_iq_i (h0 (fun z => c (z f (by omega))) S2 f12)⟩)
      by_cases huf : u = f
      · subst huf; exact c
      · exact hu u (by omega)
  exact f_Mender_filesAreAsTold (t2 m 0 S (by omega) (fun u hu => by omega) (fun _ _ => rfl))
theorem k_Slices_storeInto {Q : px_S → Prop} (hm : m ≤ 3) (hF : ∀ f, f < 3 → rw_at S (4 + 2 * f) (F f)) (hc : rw_at S 13 C) (hC : C.length = 8 * sp_n t m) (hn : sp_n t m ≤ 12) (hCb : ls_by C) (h4 : S 12 4 = nI m) (hss : ∀ f, f < m → S 15 f = nI (8 * sp_n t f) ∧ S 16 f = nI (t f)) (h40 : ∀ f, f < m → t f ≤ 40)
    (hQ : ∀ S', (∀ f, f < 3 → rw_at S' (4 + 2 * f) (rp_F F C t m f)) → (∀ i, i < 4 ∨ 9 < i → S' i = S i) → Q S') : px_V G px_Zc (d + 2) m_Slices_storeInto [.ref 12, .ref 3] S Q := by
  have t2 : ∀ (r f : Nat) (S1 : px_S), r + f = m → (∀ g, g < 3 → rw_at S1 (4 + 2 * g) (if g < f then ls_sl C (8 * sp_n t g) (t g) else F g)) → (∀ i, i < 4 ∨ 9 < i → S1 i = S i) → px_w G px_Zc (d + 2) m_Slices_storeInto 2 [.ref 12, .ref 3, .int (nI f)] [] S1 (px_vq Q) := by
    intro r
    induction r with
    | zero =>
      intro f S1 hf hu f1
      have : f = m := by omega
      subst this
      exact e_Slices_storeInto_2 ⟨fun _ => px_vq_i (hQ S1 hu f1), fun z => absurd (by rw [f1 12 (by omega), h4]; exact Int32.le_refl _) z⟩
    | succ r ih =>
      intro f S1 hf hu f1
      have := h40 f (by omega)
      have hnf : sp_n t (f + 1) ≤ sp_n t m := sp_n_le (by omega)
      have hnf1 : sp_n t (f + 1) = sp_n t f + (t f + 7) / 8 := rfl
      refine e_Slices_storeInto_2 ?_
      rw [px_rf_get (by omega), f1 12 (by omega), h4, f1 15 (by omega), f1 16 (by omega), nI_clamp (by omega), (hss f (by omega)).1, (hss f (by omega)).2, nI_1]
      refine ⟨fun z => absurd z (nI_ge (by omega) (by omega)), fun _ => ⟨fun z => absurd z (nI_ge (b := 3) (by omega) (by decide)), fun _ => ⟨vp_in_nI (by omega) (by decide), vp_in_nI (by omega) (by decide), vp_in_nI (by omega) (by decide), ?_⟩⟩⟩
      refine k_Row_become (rw_f (by omega)) rw_13 (hc.of (f1 13 (by omega)) (f1 14 (by omega))) (by omega) hCb (by omega) (by omega) (by omega) (by omega) (by omega) (fun S2 w2 f2 => ?_)
      refine ih (f + 1) S2 (by omega) (fun g hg => ?_) (fun i hi => by rw [f2 i (by omega) (by omega)]; exact f1 i hi)
      by_cases hgf : g = f
      · rw [if_pos (by omega), hgf]; exact w2
      · have := hu g hg
        by_cases hlt : g < f
        · rw [if_pos (by omega)]
          rw [if_pos hlt] at this
          exact this.of (f2 _ (by omega) (by omega)) (f2 _ (by omega) (by omega))
        · rw [if_neg (by omega)]
          rw [if_neg hlt] at this
          exact this.of (f2 _ (by omega) (by omega)) (f2 _ (by omega) (by omega))
  exact f_Slices_storeInto (t2 m 0 S (by omega) (fun g hg => by rw [if_neg (by omega)]; exact hF g hg) (fun _ _ => rfl))
theorem k_PV_repair {Q : Int32 → px_S → Prop} (hC : sv_C S T F V) (ok : sv_ok T F V) (hQ : ∀ S', sv_C S' T (sq_repair F V).2 V → Q (sq_repair F V).1 S') : px_I G px_Zc (d + 7) m_PV_repair [.ref 0] S Q := by
  refine f_PV_repair (k_Catalog_read hC.2.2 ok.2.2.1 ok.2.2.2 (fun M hM S1 e8 at1 f1 => ⟨fun _ => ?_, fun z => absurd z (by decide)⟩) (fun hM S1 f1 => ⟨fun z => absurd rfl z, fun _ => ?_⟩))
  · obtain ⟨hMk, hMn⟩ := sc_mn_ok hM
    have hm3 := hMn.2.1.2
    have h12 := hMn.2.2.2.2.2.1
    have h40 := hMn.2.2.2.2.1
    have hb : ∀ k a, sc_N V M k = some a → a + 26 ≤ 694 := fun k a h => pk_ok_lt (sc_g V M k a h).1 ok.2.2.1
    have hq : sq_repair F V = sq_rep F V (sc_N V M) (mn_t V M) (mn_m V M) (sq_dm F V M) (sp_c F (mn_t V M) (mn_m V M)) := by
      unfold sq_repair
      rw [hM]
    rw [hq] at hQ
    have hC1 : sv_C S1 T F V := hC.of (fun i hi => f1 i (by omega))
    refine k_Mender_examine hC1 ok hMk hMn e8 at1 (sc_g V M) (fun S2 sl2 dg2 f2 => ?_)
    have hC2 : sv_C S2 T F V := hC1.of (fun i hi => f2 i (by omega))
    have hdl : (sq_dm F V M).length ≤ sp_n (mn_t V M) (mn_m V M) := dm_l_len _ _ _ _ _
    have hdn : ∀ j ∈ sq_dm F V M, j < sp_n (mn_t V M) (mn_m V M) := fun j hj => dm_l_in hj
    have hCl : (sp_c F (mn_t V M) (mn_m V M)).length = 8 * sp_n (mn_t V M) (mn_m V M) := sp_c_len _ _ _
    have hCb : ls_by (sp_c F (mn_t V M) (mn_m V M)) := ls_by_c (fun f hf => (ok.2.1 f (by omega)).2)
    have at2 : nt_at S2 (sc_N V M) := ⟨by rw [f2 26 (by omega)]; exact at1.1, by rw [f2 27 (by omega)]; exact at1.2.1, by rw [f2 28 (by omega)]; exact at1.2.2.1, by rw [f2 24 (by omega)]; exact at1.2.2.2⟩
    refine k_Mender_makeDamaged (l := sq_dm F V M) (n := sp_n (mn_t V M) (mn_m V M)) ⟨hC2.2.2, sl2.1, at2, dg2⟩ ok.2.2.1 ok.2.2.2 hCl h12 hCb (by omega) hdn hb (fun c S3 w3 f3 => ⟨fun _ => ?_, fun z => absurd z (by decide)⟩) (fun c S3 f3 => ⟨fun z => absurd rfl z, fun _ => px_iq_i ?_⟩)
    · unfold sq_rep at hQ
      rw [sq_lf c] at hQ
      have hlen : (rp_C V (sp_c F (mn_t V M) (mn_m V M)) (sc_N V M) (sq_dm F V M) (sp_n (mn_t V M) (mn_m V M))).length = 8 * sp_n (mn_t V M) (mn_m V M) := by unfold rp_C; rw [sl_pa_len, hCl]
      have hby : ls_by (rp_C V (sp_c F (mn_t V M) (mn_m V M)) (sc_N V M) (sq_dm F V M) (sp_n (mn_t V M) (mn_m V M))) := ls_by_pa hCb _ _ _ _
      generalize rp_C V (sp_c F (mn_t V M) (mn_m V M)) (sc_N V M) (sq_dm F V M) (sp_n (mn_t V M) (mn_m V M)) = C' at *
      have hC3 : sv_C S3 T F V := hC2.of (fun i hi => f3 i (by omega))
      have at3 : nt_at S3 (sc_N V M) := ⟨by rw [f3 26 (by omega)]; exact at2.1, by rw [f3 27 (by omega)]; exact at2.2.1, by rw [f3 28 (by omega)]; exact at2.2.2.1, by rw [f3 24 (by omega)]; exact at2.2.2.2⟩
      have s4 : S3 12 4 = nI (mn_m V M) := by rw [f3 12 (by omega)]; exact sl2.2.1
      have ss : ∀ f, f < mn_m V M → S3 15 f = nI (8 * sp_n (mn_t V M) f) ∧ S3 16 f = nI (mn_t V M f) := by rw [f3 15 (by omega), f3 16 (by omega)]; exact sl2.2.2
      refine k_Mender_filesAreAsTold hm3 hC3.2.2 ok.2.2.1 at3 hb w3 hlen h12 hby s4 ss h40 (fun c4 S4 f4 => ⟨fun _ => ?_, fun z => absurd z (by decide)⟩) (fun c4 S4 f4 => ⟨fun z => absurd rfl z, fun _ => px_iq_i ?_⟩)
      · rw [sq_lt c4] at hQ
        dsimp only at hQ
        have hC4 : sv_C S4 T F V := hC3.of (fun i hi => f4 i (by omega))
        refine k_Slices_storeInto hm3 hC4.2.1 (w3.of (f4 13 (by omega)) (f4 14 (by omega))) hlen h12 hby (by rw [f4 12 (by omega)]; exact s4) (by rw [f4 15 (by omega), f4 16 (by omega)]; exact ss) h40 (fun S5 w5 f5 => f_Mender_damagedCount (px_iq_i (px_iq_i ?_)))
        have e : S5 29 5 = nI (sq_dm F V M).length := by rw [f5 29 (by omega), f4 29 (by omega), f3 29 (by omega)]; exact dg2.1
        rw [e]
        refine hQ S5 ⟨hC4.1.of (f5 1 (by omega)) (f5 2 (by omega)), w5, hC4.2.2.of (f5 10 (by omega)) (f5 11 (by omega))⟩
      · rw [sq_lf c4] at hQ
        exact hQ S4 (hC3.of (fun i hi => f4 i (by omega)))
    · unfold sq_rep at hQ
      rw [sq_lt c] at hQ
      exact hQ S3 (hC2.of (fun i hi => f3 i (by omega)))
  · have := hQ S1 (by unfold sq_repair; rw [hM]; exact hC.of (fun i hi => f1 i (by omega)))
    unfold sq_repair at this
    rw [hM] at this
    exact px_iq_i this
end
