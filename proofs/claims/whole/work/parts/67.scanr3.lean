def sr_fr (S S' : px_S) : Prop := (∀ j, j ≠ 8 → j ≠ 12 → j ≠ 13 → j ≠ 19 → S' 0 j = S 0 j) ∧ ∀ i, (0 < i ∧ i < 7) ∨ 15 < i → S' i = S i
theorem sr_fr.rf (S : px_S) : sr_fr S S := ⟨fun _ _ _ _ _ => rfl, fun _ _ => rfl⟩
theorem sr_fr.tr {S S1 S2 : px_S} (h : sr_fr S S1) (h2 : sr_fr S1 S2) : sr_fr S S2 := ⟨fun j a b c e => (h2.1 j a b c e).trans (h.1 j a b c e), fun i hi => (h2.2 i hi).trans (h.2 i hi)⟩
theorem rf_fr.sr {S S' : px_S} (h : rf_fr S S') : sr_fr S S' := ⟨fun j a _ _ _ => h.1 j a, fun i hi => h.2 i (by omega) (by omega) (by omega) (by omega)⟩
theorem sr_fr.ok {S S' : px_S} (h : sr_fr S S') (hok : rf_ok S) : rf_ok S' := ⟨fun j hj => by rw [h.2 1 (by omega)]; exact hok.1 j hj, fun j hj => by rw [h.2 2 (by omega)]; exact hok.2 j hj⟩
theorem sr_fr.rv {S S' : px_S} {V : List Int32} (h : sr_fr S S') (hv : rv_at S V) : rv_at S' V := ⟨by rw [h.1 6 (by decide) (by decide) (by decide) (by decide)]; exact hv.1, fun j hj => by rw [h.2 6 (by omega)]; exact hv.2 j hj⟩
theorem sr_fr.F {S S' : px_S} {F : Nat → List Int32} (h : sr_fr S S') (hF : rs_F S F) : rs_F S' F := hF.of (h.2 4 (by omega)) (h.2 5 (by omega))
theorem sr_fr.R {S S' : px_S} {T V : List Int32} {F : Nat → List Int32} (h : sr_fr S S') (hR : sv_R S T F V) : sv_R S' T F V := by
  refine ⟨h.ok hR.1, ⟨?_, ?_⟩, h.F hR.2.2.1, h.rv hR.2.2.2⟩
  · rw [h.1 2 (by decide) (by decide) (by decide) (by decide)]; exact hR.2.1.1
  · rw [h.2 3 (by omega)]; exact hR.2.1.2
theorem rm_at.of {S S' : px_S} {V : List Int32} {M : Nat} (h : rm_at S V M) (h12 : S' 0 12 = S 0 12) (h13 : S' 0 13 = S 0 13) (h10 : S' 10 = S 10) (h11 : S' 11 = S 11) : rm_at S' V M := ⟨by rw [h12]; exact h.1, by rw [h13]; exact h.2.1, by rw [h10]; exact h.2.2.1, by rw [h11]; exact h.2.2.2⟩
theorem nr_at.of {S S' : px_S} {N : Nat → Option Nat} (h : nr_at S N) (h19 : S' 0 19 = S 0 19) (h12 : S' 12 = S 12) (h13 : S' 13 = S 13) (h14 : S' 14 = S 14) : nr_at S' N := ⟨by rw [h12]; exact h.1, by rw [h13]; exact h.2.1, by rw [h14]; exact h.2.2.1, by rw [h19]; exact h.2.2.2⟩
section
variable {G : px_G} {d : Nat} {S : px_S} {V T : List Int32} {F : Nat → List Int32}
theorem k_Mo_scanned {Q : Int32 → px_S → Prop} (hok : rf_ok S) (hF : rs_F S F) (h40 : ∀ f, f < 3 → (F f).length ≤ 40) (hw : rv_at S V) (hl : V.length ≤ 694) (hb : ls_by V)
    (h1 : ∀ M, sc_mn V = some M → ∀ S', rm_at S' V M → rs_sl S' F (mn_t V M) (mn_m V M) → nr_at S' (sc_N V M) → sr_fr S S' → Q 1 S') (h0 : sc_mn V = none → ∀ S', sr_fr S S' → Q 0 S') : px_I G px_Zr (d + 5) m_Mo_scanned [.ref 0] S Q := by
  -- the packets that are counted
  have t178 : ∀ M, sc_mn V = some M → ∀ (m a : Nat) (N : Nat → Option Nat) (S1 : px_S), V.length ≤ a + m → a ≤ V.length → nt_all V M N (pk_ls V m a) = sc_N V M → nt_g V M N → nr_at S1 N → rm_at S1 V M → rs_sl S1 F (mn_t V M) (mn_m V M) → sr_fr S S1 → px_w G px_Zr (d + 5) m_Mo_scanned 178 [.ref 0, .int (nI a)] [] S1 (px_iq Q) := by
    intro M hM m
    obtain ⟨hMk, hMn⟩ := sc_mn_ok hM
    have hMf := hMk.2.2.2.1
    induction m with
    | zero =>
      intro a N S1 hm ha hN hg hr hrm hsl f1
      have hN' : N = sc_N V M := hN
      subst hN'
      refine e_Mo_scanned_178 ⟨fun _ => px_iq_i (h1 M hM S1 hrm hsl hr f1), fun z => absurd ?_ z⟩
      rw [(f1.rv hw).1]
      exact nI_le (by omega) (by omega)
    | succ m ih =>
      intro a N S1 hm ha hN hg hr hrm hsl f1
      refine e_Mo_scanned_178 ?_
      rw [(f1.rv hw).1, nI_leI (by omega) (by omega)]
      refine ⟨fun z => ?_, fun z => ?_⟩
      · rw [pk_ls_end z] at hN
        have hN' : N = sc_N V M := hN
        subst hN'
        exact px_iq_i (h1 M hM S1 hrm hsl hr f1)
      refine k_Mo_isPacket (f1.ok hok) (f1.rv hw) hl hb (by omega) (fun hp S2 f2 => ⟨fun z => absurd z (by decide), fun _ => ?_⟩) (fun hp S2 f2 => ⟨fun _ => ?_, fun z => absurd rfl z⟩)
      · have hpf := hp.2.2.2.1
        have f12 := f1.tr f2.sr
        have keep : ∀ S3, rf_fr S2 S3 → rm_at S3 V M ∧ rs_sl S3 F (mn_t V M) (mn_m V M) := fun S3 f3 =>
          ⟨hrm.of (by rw [f3.1 12 (by decide), f2.1 12 (by decide)]) (by rw [f3.1 13 (by decide), f2.1 13 (by decide)]) (by rw [f3.2 10 (by decide) (by decide) (by decide) (by decide), f2.2 10 (by decide) (by decide) (by decide) (by decide)]) (by rw [f3.2 11 (by decide) (by decide) (by decide) (by decide), f2.2 11 (by decide) (by decide) (by decide) (by decide)]), hsl.of (by rw [f3.2 15 (by decide) (by decide) (by decide) (by decide), f2.2 15 (by decide) (by decide) (by decide) (by decide)]) (by rw [f3.2 11 (by decide) (by decide) (by decide) (by decide), f2.2 11 (by decide) (by decide) (by decide) (by decide)])⟩
        have k2 := keep S2 (rf_fr.rf S2)
        have hr2 : nr_at S2 N := hr.of (f2.1 19 (by decide)) (f2.2 12 (by decide) (by decide) (by decide) (by decide)) (f2.2 13 (by decide) (by decide) (by decide) (by decide)) (f2.2 14 (by decide) (by decide) (by decide) (by decide))
        rw [pk_ls_ok hp] at hN
        refine k_Mo_setOf (f12.rv hw) hl (by omega) ?_
        rw [k2.1.1]
        refine k_Mo_setOf (f12.rv hw) hl (by omega) ?_
        rw [s4_eq (g := fun i => V.getD (a + 22 + i) 0) (h := fun i => V.getD (M + 22 + i) 0) (fun i => ls_by_getD hb _) (fun i => ls_by_getD hb _)]
        refine ⟨fun c => ?_, fun c => ?_⟩
        · refine k_Mo_next (f12.ok hok) (f12.rv hw) hl hb (by omega) (fun _ S3 f3 => ?_) (fun c S3 f3 => absurd hp c)
          have en : nt_key V M a = none := sq_lf c _ _
          refine ih (a + 26 + pk_bl V a) N S3 (by omega) (by omega) ?_ hg ?_ (keep S3 f3).1 (keep S3 f3).2 (f12.tr f3.sr)
          · rw [← hN]
            show _ = nt_all V M (nt_add N (nt_key V M a) a) (pk_ls V m (a + 26 + pk_bl V a))
            rw [en]
            rfl
          · exact hr2.of (f3.1 19 (by decide)) (f3.2 12 (by decide) (by decide) (by decide) (by decide)) (f3.2 13 (by decide) (by decide) (by decide) (by decide)) (f3.2 14 (by decide) (by decide) (by decide) (by decide))
        · refine k_Mo_note (f12.rv hw) hl hb hp hMn k2.1 hr2 hg c (fun S3 r3 f3 => ?_)
          have f13 : sr_fr S S3 := f12.tr ⟨fun j _ _ _ h => f3.1 j h, fun i hi => f3.2 i (by omega) (by omega) (by omega) (by omega)⟩
          refine k_Mo_next (f13.ok hok) (f13.rv hw) hl hb (by omega) (fun _ S4 f4 => ?_) (fun c S4 f4 => absurd hp c)
          have e10 : S4 10 = S2 10 := by rw [f4.2 10 (by decide) (by decide) (by decide) (by decide), f3.2 10 (by decide) (by decide) (by decide) (by decide)]
          have e11 : S4 11 = S2 11 := by rw [f4.2 11 (by decide) (by decide) (by decide) (by decide), f3.2 11 (by decide) (by decide) (by decide) (by decide)]
          have e15 : S4 15 = S2 15 := by rw [f4.2 15 (by decide) (by decide) (by decide) (by decide), f3.2 15 (by decide) (by decide) (by decide) (by decide)]
          refine ih (a + 26 + pk_bl V a) _ S4 (by omega) (by omega) hN (nt_g_add hg hp) ?_ (k2.1.of ?_ ?_ e10 e11) (k2.2.of e15 e11) (f13.tr f4.sr)
          · exact r3.of (f4.1 19 (by decide)) (f4.2 12 (by decide) (by decide) (by decide) (by decide)) (f4.2 13 (by decide) (by decide) (by decide) (by decide)) (f4.2 14 (by decide) (by decide) (by decide) (by decide))
          · rw [f4.1 12 (by decide), f3.1 12 (by decide)]
          · rw [f4.1 13 (by decide), f3.1 13 (by decide)]
      · have f12 := f1.tr f2.sr
        rw [pk_ls_no hp (by omega)] at hN
        refine k_Mo_next (f12.ok hok) (f12.rv hw) hl hb (by omega) (fun c S3 f3 => absurd c hp) (fun _ S3 f3 => ?_)
        have f23 := f2.tr f3
        refine ih (a + 1) N S3 (by omega) (by omega) hN hg ?_ (hrm.of (f23.1 12 (by decide)) (f23.1 13 (by decide)) (f23.2 10 (by decide) (by decide) (by decide) (by decide)) (f23.2 11 (by decide) (by decide) (by decide) (by decide))) (hsl.of (f23.2 15 (by decide) (by decide) (by decide) (by decide)) (f23.2 11 (by decide) (by decide) (by decide) (by decide))) (f12.tr f3.sr)
        exact hr.of (f23.1 19 (by decide)) (f23.2 12 (by decide) (by decide) (by decide) (by decide)) (f23.2 13 (by decide) (by decide) (by decide) (by decide)) (f23.2 14 (by decide) (by decide) (by decide) (by decide))
  have t151 : ∀ M, sc_mn V = some M → ∀ (m e : Nat) (S1 : px_S), m + e = 256 → (∀ f, f < 3 → S1 12 f = -1 ∧ S1 13 f = -1) → (∀ u, u < e → S1 14 u = -1) → rm_at S1 V M → rs_sl S1 F (mn_t V M) (mn_m V M) → sr_fr S S1 → px_w G px_Zr (d + 5) m_Mo_scanned 151 [.ref 0, .int (nI e)] [] S1 (px_iq Q) := by
    intro M hM m
    induction m with
    | zero =>
      intro e S1 he a12 a14 hrm hsl f1
      have : e = 256 := by omega
      subst this
      refine e_Mo_scanned_151 ⟨fun _ => ?_, fun z => absurd (Int32.le_refl _) z⟩
      refine t178 M hM V.length 0 (fun _ => none) _ (by omega) (by omega) rfl (fun k a h => by cases h) ⟨fun f hf => ?_, fun f hf => ?_, fun e he => ?_, ?_⟩ (hrm.of ?_ ?_ ?_ ?_) (hsl.of ?_ ?_) (f1.tr ⟨fun j _ _ _ h => ?_, fun i hi => ?_⟩)
      · rw [px_u_ne _ _ _ (by decide)]; exact (a12 f hf).1
      · rw [px_u_ne _ _ _ (by decide)]; exact (a12 f hf).2
      · rw [px_u_ne _ _ _ (by decide)]; exact a14 e he
      · rw [px_us, nt_c_0]; rfl
      · rw [px_ua, if_neg (by simp)]
      · rw [px_ua, if_neg (by simp)]
      · rw [px_u_ne _ _ _ (by decide)]
      · rw [px_u_ne _ _ _ (by decide)]
      · rw [px_u_ne _ _ _ (by decide)]
      · rw [px_u_ne _ _ _ (by decide)]
      · rw [px_ua, if_neg (fun z => h z.2)]
      · rw [px_u_ne _ _ _ (by omega)]
    | succ m ih =>
      intro e S1 he a12 a14 hrm hsl f1
      refine e_Mo_scanned_151 ⟨fun z => absurd z (nI_ge (b := 256) (by omega) (by decide)), fun _ => ⟨vp_in_nI (by omega) (by decide), ?_⟩⟩
      rw [nI_1, nI_clamp (by omega)]
      have g : ∀ i, i ≠ 14 → px_u S1 14 e (-1) i = S1 i := fun i hi => px_u_ne _ _ _ hi
      refine ih (e + 1) _ (by omega) (fun f hf => by rw [g 12 (by decide), g 13 (by decide)]; exact a12 f hf) (fun u hu => ?_) (hrm.of (by rw [g 0 (by decide)]) (by rw [g 0 (by decide)]) (g 10 (by decide)) (g 11 (by decide))) (hsl.of (g 15 (by decide)) (g 11 (by decide))) (f1.tr ⟨fun j _ _ _ _ => by rw [g 0 (by decide)], fun i hi => g i (by omega)⟩)
      rw [px_ua]
      by_cases hue : u = e
      · rw [if_pos ⟨rfl, hue⟩]
      · rw [if_neg (fun z => hue z.2)]; exact a14 u (by omega)
  have t124 : ∀ M, sc_mn V = some M → ∀ (m e : Nat) (S1 : px_S), m + e = 3 → (∀ f, f < e → S1 12 f = -1 ∧ S1 13 f = -1) → rm_at S1 V M → rs_sl S1 F (mn_t V M) (mn_m V M) → sr_fr S S1 → px_w G px_Zr (d + 5) m_Mo_scanned 124 [.ref 0, .int (nI e)] [] S1 (px_iq Q) := by
    intro M hM m
    induction m with
    | zero =>
      intro e S1 he a12 hrm hsl f1
      have : e = 3 := by omega
      subst this
      exact e_Mo_scanned_124 ⟨fun _ => t151 M hM 256 0 S1 (by omega) a12 (fun u hu => by omega) hrm hsl f1, fun z => absurd (Int32.le_refl _) z⟩
    | succ m ih =>
      intro e S1 he a12 hrm hsl f1
      refine e_Mo_scanned_124 ⟨fun z => absurd z (nI_ge (b := 3) (by omega) (by decide)), fun _ => ⟨vp_in_nI (by omega) (by decide), vp_in_nI (by omega) (by decide), ?_⟩⟩
      rw [nI_1, nI_clamp (by omega)]
      have g : ∀ i, i ≠ 12 → i ≠ 13 → px_u (px_u S1 12 e (-1)) 13 e (-1) i = S1 i := fun i h h2 => by rw [px_u_ne _ _ _ h2, px_u_ne _ _ _ h]
      refine ih (e + 1) _ (by omega) (fun u hu => ?_) (hrm.of (by rw [g 0 (by decide) (by decide)]) (by rw [g 0 (by decide) (by decide)]) (g 10 (by decide) (by decide)) (g 11 (by decide) (by decide))) (hsl.of (g 15 (by decide) (by decide)) (g 11 (by decide) (by decide))) (f1.tr ⟨fun j _ _ _ _ => by rw [g 0 (by decide) (by decide)], fun i hi => g i (by omega) (by omega)⟩)
      rw [px_u_ne _ _ _ (show (12 : Nat) ≠ 13 by decide), px_ua, px_ua, px_u_ne _ _ _ (show (13 : Nat) ≠ 12 by decide)]
      by_cases hue : u = e
      · rw [if_pos ⟨rfl, hue⟩, if_pos ⟨rfl, hue⟩]; exact ⟨rfl, rfl⟩
      · rw [if_neg (fun z => hue z.2), if_neg (fun z => hue z.2)]; exact a12 u (by omega)
  have t79 : ∀ M, sc_mn V = some M → ∀ (m f : Nat) (S1 : px_S), m + f = mn_m V M → S1 0 12 = nI M → S1 0 13 = nI (mn_m V M) → (∀ u, u < f → S1 10 u = nI (mn_t V M u)) → sr_fr S S1 → px_w G px_Zr (d + 5) m_Mo_scanned 79 [.ref 0, .int (nI f)] [] S1 (px_iq Q) := by
    intro M hM m
    obtain ⟨hMk, hMn⟩ := sc_mn_ok hM
    have hMf := hMk.2.2.2.1
    have hm3 := hMn.2.1.2
    have hbl := hMn.2.2.1
    induction m with
    | zero =>
      intro f S1 hf e12 e13 e10 f1
      have : f = mn_m V M := by omega
      subst this
      refine e_Mo_scanned_79 ?_
      rw [e13]
      refine ⟨fun _ => ?_, fun z => absurd (Int32.le_refl _) z⟩
      refine k_Mo_layOut (t := mn_t V M) hm3 (f1.F hF) h40 (fun g hg => ⟨e10 g hg, hMn.2.2.2.2.1 g hg⟩) hMn.2.2.2.2.2.1 (fun S2 sl2 f2 => ?_)
      exact t124 M hM 3 0 S2 (by omega) (fun u hu => by omega) ⟨by rw [f2 0 (by decide) (by decide)]; exact e12, by rw [f2 0 (by decide) (by decide)]; exact e13, by rw [f2 10 (by decide) (by decide)]; exact e10, sl2.2⟩ sl2 (f1.tr ⟨fun j _ _ _ _ => by rw [f2 0 (by decide) (by decide)], fun i hi => f2 i (by omega) (by omega)⟩)
    | succ m ih =>
      intro f S1 hf e12 e13 e10 f1
      refine e_Mo_scanned_79 ?_
      rw [e13, e12, show nI M + 28 = nI (M + 28) from nI_add M 28, nI_add, nI_1, nI_clamp (by omega), nI_clamp (by omega), (f1.rv hw).2 _ (by omega), sp_bt_eq hb]
      refine ⟨fun z => absurd z (nI_ge (by omega) (by omega)), fun _ => ⟨vp_in_nI (by omega) (by decide), vp_in_nI (by omega) (by decide), ?_⟩⟩
      refine ih (f + 1) _ (by omega) (by rw [px_u_ne _ _ _ (by decide)]; exact e12) (by rw [px_u_ne _ _ _ (by decide)]; exact e13) (fun u hu => ?_) (f1.tr ⟨fun j _ _ _ _ => by rw [px_u_ne _ _ _ (by decide)], fun i hi => by rw [px_u_ne _ _ _ (by omega)]⟩)
      rw [px_ua]
      by_cases hue : u = f
      · rw [if_pos ⟨rfl, hue⟩, hue]; rfl
      · rw [if_neg (fun z => hue z.2)]; exact e10 u (by omega)
  have fin : ∀ M, sc_mn V = some M → ∀ (S1 : px_S), S1 0 12 = nI M → sr_fr S S1 → (0 ≤ (S1 0 12) → (vp_in ((S1 0 12) + 27) 800 ∧ px_w G px_Zr (d + 5) m_Mo_scanned 79 [.ref 0, .int 0] [] (px_u S1 0 13 (S1 6 ((S1 0 12) + 27).toNatClampNeg)) (px_iq Q))) ∧ (¬ (0 ≤ (S1 0 12)) → px_iq Q (some (.int 0)) S1) := by
    intro M hM S1 e12 f1
    obtain ⟨hMk, hMn⟩ := sc_mn_ok hM
    have hMf := hMk.2.2.2.1
    have hm1 := hMn.2.1.1
    have hbl := hMn.2.2.1
    rw [e12, show nI M + 27 = nI (M + 27) from nI_add M 27, nI_clamp (by omega), (f1.rv hw).2 _ (by omega), sp_bt_eq hb]
    refine ⟨fun _ => ⟨vp_in_nI (by omega) (by decide), ?_⟩, fun z => absurd (nI_pos' (by omega)) z⟩
    refine t79 M hM (mn_m V M) 0 _ (by omega) (by rw [px_ua, if_neg (by simp)]; exact e12) (by rw [px_us]; rfl) (fun u hu => by omega) (f1.tr ⟨fun j _ _ h _ => by rw [px_ua, if_neg (fun z => h z.2)], fun i hi => by rw [px_u_ne _ _ _ (by omega)]⟩)
  have found : ∀ M, sc_mn V = some M → ∀ (m a : Nat) (S1 : px_S), V.length ≤ a + m → a ≤ V.length → S1 0 12 = nI M → sr_fr S S1 → px_w G px_Zr (d + 5) m_Mo_scanned 7 [.ref 0, .int (nI a)] [] S1 (px_iq Q) := by
    intro M hM m
    obtain ⟨hMk, hMn⟩ := sc_mn_ok hM
    have hMf := hMk.2.2.2.1
    induction m with
    | zero =>
      intro a S1 hm ha e12 f1
      refine e_Mo_scanned_7 ⟨fun _ => fin M hM S1 e12 f1, fun z => absurd ?_ z⟩
      rw [(f1.rv hw).1]
      exact nI_le (by omega) (by omega)
    | succ m ih =>
      intro a S1 hm ha e12 f1
      refine e_Mo_scanned_7 ⟨fun _ => fin M hM S1 e12 f1, fun z => ⟨fun _ => ?_, fun z => absurd (by rw [e12]; exact nI_pos' (by omega)) z⟩⟩
      have ha' : a < V.length := by
        rw [(f1.rv hw).1, nI_leI (by omega) (by omega)] at z
        omega
      refine k_Mo_next (f1.ok hok) (f1.rv hw) hl hb (by omega) (fun c S2 f2 => ?_) (fun c S2 f2 => ?_)
      · have := c.2.2.2.1
        exact ih _ S2 (by omega) (by omega) (by rw [f2.1 12 (by decide)]; exact e12) (f1.tr f2.sr)
      · exact ih _ S2 (by omega) (by omega) (by rw [f2.1 12 (by decide)]; exact e12) (f1.tr f2.sr)
  have search : ∀ (m a : Nat) (S1 : px_S), V.length ≤ a + m → a ≤ V.length → pk_mn V (pk_ls V m a) = sc_mn V → S1 0 12 = -1 → sr_fr S S1 → px_w G px_Zr (d + 5) m_Mo_scanned 7 [.ref 0, .int (nI a)] [] S1 (px_iq Q) := by
    intro m
    have n1 : ¬ (0 : Int32) ≤ -1 := by decide
    induction m with
    | zero =>
      intro a S1 hm ha hN e12 f1
      have hN' : sc_mn V = none := hN.symm
      refine e_Mo_scanned_7 ⟨fun _ => ⟨fun z => absurd z (by rw [e12]; exact n1), fun _ => px_iq_i (h0 hN' S1 f1)⟩, fun z => absurd ?_ z⟩
      rw [(f1.rv hw).1]
      exact nI_le (by omega) (by omega)
    | succ m ih =>
      intro a S1 hm ha hN e12 f1
      refine e_Mo_scanned_7 ?_
      rw [(f1.rv hw).1, nI_leI (by omega) (by omega), e12]
      refine ⟨fun z => ⟨fun z => absurd z n1, fun _ => ?_⟩, fun z => ⟨fun z => absurd z n1, fun _ => ?_⟩⟩
      · rw [pk_ls_end z] at hN
        exact px_iq_i (h0 hN.symm S1 f1)
      refine k_Mo_isPacket (f1.ok hok) (f1.rv hw) hl hb (by omega) (fun hp S2 f2 => ⟨fun z => absurd z (by decide), fun _ => ?_⟩) (fun hp S2 f2 => ⟨fun _ => ?_, fun z => absurd rfl z⟩)
      · have hpf := hp.2.2.2.1
        have f12 := f1.tr f2.sr
        rw [pk_ls_ok hp] at hN
        refine k_Mo_isMain (f12.ok hok) (f12.rv hw) hl hb hp (fun c S3 f3 => ⟨fun z => absurd z (by decide), fun _ => ?_⟩) (fun c S3 f3 => ⟨fun _ => ?_, fun z => absurd rfl z⟩)
        · rw [pk_mn, sq_lt c] at hN
          have f13 : sr_fr S (px_u S3 0 12 (nI a)) := (f12.tr f3.sr).tr ⟨fun j _ h _ _ => by rw [px_ua, if_neg (fun z => h z.2)], fun i hi => by rw [px_u_ne _ _ _ (by omega)]⟩
          refine k_Mo_next (f13.ok hok) (f13.rv hw) hl hb (by omega) (fun c S4 f4 => ?_) (fun c S4 f4 => absurd hp c)
          exact found a hN.symm m _ S4 (by omega) (by omega) (by rw [f4.1 12 (by decide), px_us]) (f13.tr f4.sr)
        · rw [pk_mn, sq_lf c] at hN
          have f13 := f12.tr f3.sr
          refine k_Mo_next (f13.ok hok) (f13.rv hw) hl hb (by omega) (fun c S4 f4 => ?_) (fun c S4 f4 => absurd hp c)
          exact ih _ S4 (by omega) (by omega) hN (by rw [f4.1 12 (by decide), f3.1 12 (by decide), f2.1 12 (by decide)]; exact e12) (f13.tr f4.sr)
      · have f12 := f1.tr f2.sr
        rw [pk_ls_no hp (by omega)] at hN
        refine k_Mo_next (f12.ok hok) (f12.rv hw) hl hb (by omega) (fun c S4 f4 => absurd c hp) (fun c S4 f4 => ?_)
        exact ih _ S4 (by omega) (by omega) hN (by rw [f4.1 12 (by decide), f2.1 12 (by decide)]; exact e12) (f12.tr f4.sr)
  refine f_Mo_scanned (search V.length 0 _ (by omega) (by omega) rfl (by rw [px_us]) ⟨fun j _ h _ _ => by rw [px_ua, if_neg (fun z => h z.2)], fun i hi => by rw [px_u_ne _ _ _ (by omega)]⟩)
theorem k_Mo_scan {Q : Int32 → px_S → Prop} (hR : sv_R S T F V) (ok : sv_ok T F V) (hQ : ∀ S', sv_R S' T F V → Q (sq_scan V) S') : px_I G px_Zr (d + 6) m_Mo_scan [.ref 0] S Q := by
  refine f_Mo_scan (k_Mo_scanned hR.1 hR.2.2.1 (fun f hf => (ok.2.1 f hf).1) hR.2.2.2 ok.2.2.1 ok.2.2.2 (fun M hM S1 hrm hsl hr f1 => ⟨fun z => absurd z (by decide), fun _ => ?_⟩) (fun hM S1 f1 => ⟨fun _ => ?_, fun z => absurd rfl z⟩))
  · have := hQ S1 (f1.R hR)
    unfold sq_scan at this
    rw [hM] at this
    refine k_Mo_recoveries hr (fun k b h => by have := pk_ok_lt (sc_g V M k b h).1 ok.2.2.1; omega) (px_iq_i ?_)
    rw [hr.2.2.2, show (100 : Int32) * nI (nt_c (sc_N V M) 6 256) = nI (100 * nt_c (sc_N V M) 6 256) from pk_mul 100 _, nI_add]
    exact this
  · have := hQ S1 (f1.R hR)
    unfold sq_scan at this
    rw [hM] at this
    exact px_iq_i this
end
