section
variable {G : px_G} {d : Nat} {S : px_S} {V T C : List Int32} {F : Nat → List Int32} {N : Nat → Option Nat}
theorem rf_fr.rq {S S' : px_S} (h : rf_fr S S') : rq_fr S S' := ⟨h.1 2 (by decide), h.1 6 (by decide), h.2 1 (by decide) (by decide) (by decide) (by decide), h.2 2 (by decide) (by decide) (by decide) (by decide), h.2 3 (by decide) (by decide) (by decide) (by decide), h.2 6 (by decide) (by decide) (by decide) (by decide)⟩
theorem rq_fr.tr {S S1 S2 : px_S} (h : rq_fr S S1) (h2 : rq_fr S1 S2) : rq_fr S S2 := ⟨h2.1.trans h.1, h2.2.1.trans h.2.1, h2.2.2.1.trans h.2.2.1, h2.2.2.2.1.trans h.2.2.2.1, h2.2.2.2.2.1.trans h.2.2.2.2.1, h2.2.2.2.2.2.trans h.2.2.2.2.2⟩
theorem sr_fr.rq {S S' : px_S} (h : sr_fr S S') : rq_fr S S' := ⟨h.1 2 (by decide) (by decide) (by decide) (by decide), h.1 6 (by decide) (by decide) (by decide) (by decide), h.2 1 (by omega), h.2 2 (by omega), h.2 3 (by omega), h.2 6 (by omega)⟩
theorem rq_of {S S' : px_S} (h : ∀ i, i < 4 ∨ i = 6 → S' i = S i) : rq_fr S S' := ⟨by rw [h 0 (by omega)], by rw [h 0 (by omega)], h 1 (by omega), h 2 (by omega), h 3 (by omega), h 6 (by omega)⟩
/-- storing -/
theorem t_Mo_116 {Q : Int32 → px_S → Prop} {M D : Nat} {x1 x3 : Int32} (hMn : mn_ok V M) (hrm : rm_at S V M) (hc : rc_at S C) (hC : C.length = 8 * sp_n (mn_t V M) (mn_m V M)) (hF : rs_F S F) (hF40 : ∀ f, f < 3 → (F f).length ≤ 40)
    (hQ : ∀ S', rs_F S' (rp_F F C (mn_t V M) (mn_m V M)) → rq_fr S S' → Q (nI D) S') : px_w G px_Zr (d + 6) m_Mo_repair 116 [.ref 0, .int x1, .int (nI D), .int x3, .int 0, .null] [] S (px_iq Q) := by
  have hm3 := hMn.2.1.2
  have h12 := hMn.2.2.2.2.2.1
  have h40 := hMn.2.2.2.2.1
  have hlen : ∀ f g, g < 3 → (if g < f then ls_sl C (8 * sp_n (mn_t V M) g) (mn_t V M g) else F g).length ≤ 40 ∨ ¬ g < mn_m V M ∧ g < f := by
    intro f g hg
    by_cases h : g < f
    · rw [if_pos h, ls_sl_len]
      by_cases h' : g < mn_m V M
      · exact Or.inl (h40 g h')
      · exact Or.inr ⟨h', h⟩
    · rw [if_neg h]; exact Or.inl (hF40 g hg)
  have t116 : ∀ (r f : Nat) (S1 : px_S), r + f = mn_m V M → rs_F S1 (fun g => if g < f then ls_sl C (8 * sp_n (mn_t V M) g) (mn_t V M g) else F g) → (∀ i, i ≠ 4 → i ≠ 5 → S1 i = S i) → px_w G px_Zr (d + 6) m_Mo_repair 116 [.ref 0, .int x1, .int (nI D), .int x3, .int (nI f), .null] [] S1 (px_iq Q) := by
    intro r
    induction r with
    | zero =>
      intro f S1 hf hs f1
      have : f = mn_m V M := by omega
      subst this
      refine e_Mo_repair_116 ⟨fun _ => px_iq_i (hQ S1 hs (rq_of (fun i hi => f1 i (by omega) (by omega)))), fun z => absurd ?_ z⟩
      rw [f1 0 (by decide) (by decide), hrm.2.1]
      exact Int32.le_refl _
    | succ r ih =>
      intro f S1 hf hs f1
      have hfm : f < mn_m V M := by omega
      have htf := h40 f hfm
      have hnf : sp_n (mn_t V M) (f + 1) ≤ sp_n (mn_t V M) (mn_m V M) := sp_n_le (by omega)
      have hnf1 : sp_n (mn_t V M) (f + 1) = sp_n (mn_t V M) f + (mn_t V M f + 7) / 8 := rfl
      refine e_Mo_repair_116 ?_
      rw [f1 0 (by decide) (by decide), hrm.2.1]
      refine ⟨fun z => absurd z (nI_ge (by omega) (by omega)), fun _ => ?_⟩
      have t128 : ∀ (r2 i : Nat) (S2 : px_S), r2 + i = mn_t V M f → S2 5 = S1 5 → (∀ g j, g ≠ f → j < 40 → S2 4 (40 * g + j) = S1 4 (40 * g + j)) → (∀ j, j < i → S2 4 (40 * f + j) = C.getD (8 * sp_n (mn_t V M) f + j) 0) → (∀ i, i ≠ 4 → i ≠ 5 → S2 i = S i) → px_w G px_Zr (d + 6) m_Mo_repair 128 [.ref 0, .int x1, .int (nI D), .int x3, .int (nI f), .int (nI i)] [] S2 (px_iq Q) := by
        intro r2
        induction r2 with
        | zero =>
          intro i S2 hi e5 eo ef f2
          have : i = mn_t V M f := by omega
          subst this
          refine e_Mo_repair_128 ?_
          rw [nI_clamp (by omega), f2 10 (by decide) (by decide), hrm.2.2.1 f hfm, nI_1]
          refine ⟨vp_in_nI (by omega) (by decide), fun _ => ⟨vp_in_nI (by omega) (by decide), vp_in_nI (by omega) (by decide), ?_⟩, fun z => absurd (Int32.le_refl _) z⟩
          refine ih (f + 1) _ (by omega) (fun g hg => ?_) (fun i h4 h5 => by rw [px_u_ne _ _ _ h5]; exact f2 i h4 h5)
          dsimp only
          rw [px_u_ne _ _ _ (show (4 : Nat) ≠ 5 by decide), px_ua]
          by_cases hgf : g = f
          · subst hgf
            rw [if_pos ⟨rfl, rfl⟩, if_pos (by omega), ls_sl_len]
            refine ⟨rfl, fun j hj => ?_⟩
            rw [ef j hj]
            unfold ls_sl
            rw [List.getD_eq_getElem?_getD (l := List.map _ _), List.getElem?_map, List.getElem?_range hj]
            rfl
          · rw [if_neg (fun z => hgf z.2)]
            have hsg := hs g hg
            dsimp only at hsg
            have e1 : (if g < f + 1 then ls_sl C (8 * sp_n (mn_t V M) g) (mn_t V M g) else F g) = (if g < f then ls_sl C (8 * sp_n (mn_t V M) g) (mn_t V M g) else F g) := by
              by_cases hlt : g < f
              · rw [if_pos hlt, if_pos (by omega)]
              · rw [if_neg hlt, if_neg (by omega)]
            rw [e1, e5]
            refine ⟨hsg.1, fun j hj => ?_⟩
            have hj40 : j < 40 := by
              rcases hlen f g hg with h | h
              · omega
              · omega
            rw [eo g j hgf hj40]
            exact hsg.2 j hj
        | succ r2 ih2 =>
          intro i S2 hi e5 eo ef f2
          refine e_Mo_repair_128 ?_
          rw [nI_clamp (n := f) (by omega), f2 10 (by decide) (by decide), hrm.2.2.1 f hfm, f2 11 (by decide) (by decide), hrm.2.2.2 f (by omega), show (8 : Int32) * nI (sp_n (mn_t V M) f) = nI (8 * sp_n (mn_t V M) f) from pk_mul 8 _, show (40 : Int32) * nI f = nI (40 * f) from pk_mul 40 f, nI_add, nI_add, nI_clamp (by omega), nI_clamp (by omega), f2 15 (by decide) (by decide), hc _ (by omega), nI_1, nI_1]
          refine ⟨vp_in_nI (by omega) (by decide), fun z => absurd z (nI_ge (by omega) (by omega)), fun _ => ⟨vp_in_nI (by omega) (by decide), vp_in_nI (by omega) (by decide), vp_in_nI (by omega) (by decide), fun S3 hS3 => ?_⟩⟩
          refine ih2 (i + 1) S3 (by omega) (by rw [hS3, px_u_ne _ _ _ (by decide)]; exact e5) (fun g j hg hj => ?_) (fun j hj => ?_) (fun k h4 h5 => by rw [hS3, px_u_ne _ _ _ h4]; exact f2 k h4 h5)
          · rw [hS3, px_ua, if_neg (fun z => by have := z.2; omega)]; exact eo g j hg hj
          · rw [hS3, px_ua]
            by_cases hji : j = i
            · rw [if_pos ⟨rfl, by omega⟩, hji]
            · rw [if_neg (fun z => hji (by have := z.2; omega))]; exact ef j (by omega)
      exact t128 (mn_t V M f) 0 S1 (by omega) rfl (fun _ _ _ _ => rfl) (fun j hj => by omega) f1
  exact t116 (mn_m V M) 0 S (by omega) (fun g hg => by dsimp only; rw [if_neg (by omega)]; exact hF g hg) (fun _ _ _ => rfl)
theorem t_Mo_72 {Q : Int32 → px_S → Prop} {M D : Nat} {x1 : Int32} (hok : rf_ok S) (hw : rv_at S V) (hl : V.length ≤ 694) (hMn : mn_ok V M) (hrm : rm_at S V M) (hN : nr_at S N) (hg : nt_g V M N) (hc : rc_at S C) (hC : C.length = 8 * sp_n (mn_t V M) (mn_m V M)) (hCb : ls_by C) (hF : rs_F S F) (hF40 : ∀ f, f < 3 → (F f).length ≤ 40)
    (h1 : (∀ f, f < mn_m V M → rp_rt V N C (mn_t V M) f) → ∀ S', rs_F S' (rp_F F C (mn_t V M) (mn_m V M)) → rq_fr S S' → Q (nI D) S') (h0 : ¬ (∀ f, f < mn_m V M → rp_rt V N C (mn_t V M) f) → ∀ S', rs_F S' F → rq_fr S S' → Q (-5) S') : px_w G px_Zr (d + 6) m_Mo_repair 72 [.ref 0, .int x1, .int (nI D), .int 1, .int 0, .null] [] S (px_iq Q) := by
  have hm3 := hMn.2.1.2
  have t72 : ∀ (r f : Nat) (x3 : Int32) (S1 : px_S), r + f = mn_m V M → (x3 = 0 ↔ ¬ ∀ u, u < f → rp_rt V N C (mn_t V M) u) → rf_fr S S1 → px_w G px_Zr (d + 6) m_Mo_repair 72 [.ref 0, .int x1, .int (nI D), .int x3, .int (nI f), .null] [] S1 (px_iq Q) := by
    intro r
    induction r with
    | zero =>
      intro f x3 S1 hf hx f1
      have : f = mn_m V M := by omega
      subst this
      refine e_Mo_repair_72 ⟨fun _ => ⟨fun c => ?_, fun c => px_iq_i (h0 (hx.mp c) S1 (f1.rg.F hF) f1.rq)⟩, fun z => absurd ?_ z⟩
      · have hall : ∀ u, u < mn_m V M → rp_rt V N C (mn_t V M) u := Classical.byContradiction (fun z => c (hx.mpr z))
        refine t_Mo_116 hMn (hrm.of (f1.1 12 (by decide)) (f1.1 13 (by decide)) (f1.2 10 (by decide) (by decide) (by decide) (by decide)) (f1.2 11 (by decide) (by decide) (by decide) (by decide))) (fun i hi => by rw [f1.2 15 (by decide) (by decide) (by decide) (by decide)]; exact hc i hi) hC (f1.rg.F hF) hF40 (fun S2 w2 f2 => h1 hall S2 w2 (f1.rq.tr f2))
      · rw [f1.1 13 (by decide), hrm.2.1]; exact Int32.le_refl _
    | succ r ih =>
      intro f x3 S1 hf hx f1
      refine e_Mo_repair_72 ?_
      rw [f1.1 13 (by decide), hrm.2.1, nI_1]
      refine ⟨fun z => absurd z (nI_ge (by omega) (by omega)), fun _ => ?_⟩
      refine k_Mo_isRight (M := M) (N := N) (C := C) (f1.rg.ok hok) (f1.rv hw) hl hMn (by omega) (hrm.of (f1.1 12 (by decide)) (f1.1 13 (by decide)) (f1.2 10 (by decide) (by decide) (by decide) (by decide)) (f1.2 11 (by decide) (by decide) (by decide) (by decide))) (hN.of (f1.1 19 (by decide)) (f1.2 12 (by decide) (by decide) (by decide) (by decide)) (f1.2 13 (by decide) (by decide) (by decide) (by decide)) (f1.2 14 (by decide) (by decide) (by decide) (by decide))) hg (fun i hi => by rw [f1.2 15 (by decide) (by decide) (by decide) (by decide)]; exact hc i hi) hC hCb (fun c S2 f2 => ⟨fun z => absurd z (by decide), fun _ => ⟨fun cz => ?_, fun cz => ?_⟩⟩) (fun c S2 f2 => ⟨fun _ => ?_, fun z => absurd rfl z⟩)
      · exact ih (f + 1) 0 S2 (by omega) ⟨fun _ z => hx.mp cz (fun u hu => z u (by omega)), fun _ => rfl⟩ (f1.tr f2)
      · have hall : ∀ u, u < f → rp_rt V N C (mn_t V M) u := Classical.byContradiction (fun z => cz (hx.mpr z))
        refine ih (f + 1) 1 S2 (by omega) ⟨fun z => absurd z (by decide), fun z => absurd (fun u hu => ?_) z⟩ (f1.tr f2)
        by_cases huf : u = f
        · subst huf; exact c
        · exact hall u (by omega)
      · exact ih (f + 1) 0 S2 (by omega) ⟨fun _ z => c (z f (by omega)), fun _ => rfl⟩ (f1.tr f2)
  exact t72 (mn_m V M) 0 1 S (by omega) ⟨fun z => absurd z (by decide), fun z => absurd (fun u hu => by omega) z⟩ (rf_fr.rf S)
theorem k_Mo_repair {Q : Int32 → px_S → Prop} (hR : sv_R S T F V) (ok : sv_ok T F V) (hQ : ∀ S', sv_R S' T (sq_repair F V).2 V → Q (sq_repair F V).1 S') : px_I G px_Zr (d + 6) m_Mo_repair [.ref 0] S Q := by
  have hl := ok.2.2.1
  have hVb := ok.2.2.2
  refine f_Mo_repair (k_Mo_scanned hR.1 hR.2.2.1 (fun f hf => (ok.2.1 f hf).1) hR.2.2.2 hl hVb (fun M hM S1 hrm hsl hr f1 => ⟨fun _ => ?_, fun z => absurd z (by decide)⟩) (fun hM S1 f1 => ⟨fun z => absurd rfl z, fun _ => ?_⟩))
  · obtain ⟨hMk, hMn⟩ := sc_mn_ok hM
    have hm3 := hMn.2.1.2
    have h12 := hMn.2.2.2.2.2.1
    have hq : sq_repair F V = sq_rep F V (sc_N V M) (mn_t V M) (mn_m V M) (sq_dm F V M) (sp_c F (mn_t V M) (mn_m V M)) := by
      unfold sq_repair
      rw [hM]
    rw [hq] at hQ
    refine k_Mo_damagedSet (f1.ok hR.1) (f1.rv hR.2.2.2) hl hMn hrm hsl (fun f hf => (ok.2.1 f hf).2) hr (sc_g V M) (fun S2 f2 => ?_)
    have f12 : sr_fr S S2 := f1.tr f2.sr
    have hrm2 : rm_at S2 V M := hrm.of (f2.1 12 (by decide)) (f2.1 13 (by decide)) (f2.2 10 (by decide) (by decide) (by decide) (by decide)) (f2.2 11 (by decide) (by decide) (by decide) (by decide))
    have hr2 : nr_at S2 (sc_N V M) := hr.of (f2.1 19 (by decide)) (f2.2 12 (by decide) (by decide) (by decide) (by decide)) (f2.2 13 (by decide) (by decide) (by decide) (by decide)) (f2.2 14 (by decide) (by decide) (by decide) (by decide))
    have hsl2 : rs_sl S2 F (mn_t V M) (mn_m V M) := f2.rg.sl hsl
    have hdl : (sq_dm F V M).length ≤ sp_n (mn_t V M) (mn_m V M) := dm_l_len _ _ _ _ _
    have hdn : ∀ j ∈ sq_dm F V M, j < sp_n (mn_t V M) (mn_m V M) := fun j hj => dm_l_in hj
    have hd12 : ∀ j ∈ sq_dm F V M, j < 12 := fun j hj => by have := hdn j hj; omega
    have hsrt : (sq_dm F V M).Pairwise (· < ·) := dm_l_sorted _ _ _ _ _
    have hCl : (sp_c F (mn_t V M) (mn_m V M)).length = 8 * sp_n (mn_t V M) (mn_m V M) := sp_c_len _ _ _
    have hCb : ls_by (sp_c F (mn_t V M) (mn_m V M)) := ls_by_c (fun f hf => (ok.2.1 f (by omega)).2)
    have hc2 : rc_at S2 (sp_c F (mn_t V M) (mn_m V M)) := fun i hi => hsl2.1 i (by omega)
    have hb35 : ∀ e a, sc_N V M (6 + e) = some a → a + 35 ≤ V.length := fun e a h => by
      obtain ⟨h1, h2⟩ := sc_g V M _ a h
      have h3 := (nt_key_r hMn h2).1.2
      have h4 := h1.2.2.2.1
      omega
    have hdm : dm_i (dm_l V (sc_N V M) (sp_c F (mn_t V M) (mn_m V M)) (mn_t V M) (mn_m V M)) = nI (dm_n (sq_dm F V M)) := dm_i_n hd12
    rw [hdm]
    have hF2 : rs_F S2 F := f12.F hR.2.2.1
    unfold sq_rep at hQ
    generalize hll : sq_dm F V M = l at *
    generalize hCC : sp_c F (mn_t V M) (mn_m V M) = C at *
    have hdlt := dm_n_lt hd12
    have t19 : ∀ (r j : Nat) (S3 : px_S), r + j = 12 → (∀ u, u < (l.filter (fun a => decide (a < j))).length → S3 18 u = nI ((l.filter (fun a => decide (a < j))).getD u 0)) → (∀ i, i ≠ 18 → S3 i = S2 i) → px_w G px_Zr (d + 6) m_Mo_repair 19 [.ref 0, .int (nI (dm_n l)), .int (nI (l.filter (fun a => decide (a < j))).length), .int (nI j), .null, .null] [] S3 (px_iq Q) := by
      intro r
      induction r with
      | zero =>
        intro j S3 hj h18 f3
        have : j = 12 := by omega
        subst this
        rw [fl_all hd12] at h18 ⊢
        refine e_Mo_repair_19 ⟨fun _ => ?_, fun z => absurd (Int32.le_refl _) z⟩
        have hrt : rt_at S3 V C (sc_N V M) l (sp_n (mn_t V M) (mn_m V M)) := by
          refine ⟨⟨?_, ?_⟩, ⟨?_, ?_⟩, ⟨mn_m V M, by omega, ?_, ?_⟩, fun i hi => ?_, ?_, h18⟩
          · rw [f3 1 (by decide)]; exact (f12.ok hR.1).1
          · rw [f3 2 (by decide)]; exact (f12.ok hR.1).2
          · rw [f3 0 (by decide)]; exact (f12.rv hR.2.2.2).1
          · rw [f3 6 (by decide)]; exact (f12.rv hR.2.2.2).2
          · rw [f3 0 (by decide)]; exact hrm2.2.1
          · rw [f3 11 (by decide)]; exact hrm2.2.2.2 _ (Nat.le_refl _)
          · rw [f3 15 (by decide)]; exact hc2 i hi
          · rw [f3 14 (by decide)]; exact hr2.2.2.1
        refine k_Mo_take hrt hl hVb hCl h12 hCb (by omega) hd12 hb35 (fun c S4 w4 f4 => ⟨fun _ => ?_, fun z => absurd z (by decide)⟩) (fun c S4 f4 => ⟨fun z => absurd rfl z, fun _ => px_iq_i ?_⟩)
        · have hokf := el_all_ok l.length (rp_row V C (sc_N V M) l (sp_n (mn_t V M) (mn_m V M))) (fun e => sc_N V M (6 + e) ≠ none) 256
          have hle : (rp_el V C (sc_N V M) l (sp_n (mn_t V M) (mn_m V M)) 256).1 = l.length := by
            have : (rp_el V C (sc_N V M) l (sp_n (mn_t V M) (mn_m V M)) 256).1 ≤ l.length := hokf.2
            omega
          have hinv : la_inv (rp_el V C (sc_N V M) l (sp_n (mn_t V M) (mn_m V M)) 256).1 l.length (rp_el V C (sc_N V M) l (sp_n (mn_t V M) (mn_m V M)) 256).2.1 (rp_el V C (sc_N V M) l (sp_n (mn_t V M) (mn_m V M)) 256).2.2.1 (rp_el V C (sc_N V M) l (sp_n (mn_t V M) (mn_m V M)) 256).2.2.2 := hokf.1
          rw [sq_lf c] at hQ
          rw [hle] at hinv
          refine k_Mo_putSlices (n := sp_n (mn_t V M) (mn_m V M)) (p := (rp_el V C (sc_N V M) l (sp_n (mn_t V M) (mn_m V M)) 256).2.2.2) (C := C) (fun i hi => by rw [f4 15 (by decide) (by decide), f3 15 (by decide)]; exact hc2 i hi) hCl h12 (by omega) hdn (by rw [f4 18 (by decide) (by decide)]; exact h18) w4 (fun q hq => ⟨fp_is (hinv.2.2.2.2.1 q hq) (by rw [hinv.1 q q hq hq, if_pos rfl]; decide) (fun b hb => hinv.2.2.2.2.2 q b hq hb), hinv.2.2.2.2.1 q hq⟩) (fun S5 w5 f5 => ?_)
          have f25 : ∀ i, i ≠ 15 → i ≠ 16 → i ≠ 17 → i ≠ 18 → S5 i = S2 i := fun i a b c e => by rw [f5 i a, f4 i b c, f3 i e]
          have hrp : rc_at S5 (rp_C V C (sc_N V M) l (sp_n (mn_t V M) (mn_m V M))) := w5
          have hrl : (rp_C V C (sc_N V M) l (sp_n (mn_t V M) (mn_m V M))).length = 8 * sp_n (mn_t V M) (mn_m V M) := by unfold rp_C; rw [sl_pa_len, hCl]
          have hrb : ls_by (rp_C V C (sc_N V M) l (sp_n (mn_t V M) (mn_m V M))) := ls_by_pa hCb _ _ _ _
          have rq5 : rq_fr S S5 := f12.rq.tr (rq_of (fun i hi => f25 i (by omega) (by omega) (by omega) (by omega)))
          refine t_Mo_72 (N := sc_N V M) (C := rp_C V C (sc_N V M) l (sp_n (mn_t V M) (mn_m V M))) ⟨?_, ?_⟩ ⟨?_, ?_⟩ hl hMn (hrm2.of ?_ ?_ (f25 10 (by decide) (by decide) (by decide) (by decide)) (f25 11 (by decide) (by decide) (by decide) (by decide))) (hr2.of ?_ (f25 12 (by decide) (by decide) (by decide) (by decide)) (f25 13 (by decide) (by decide) (by decide) (by decide)) (f25 14 (by decide) (by decide) (by decide) (by decide))) (sc_g V M) hrp hrl hrb (hF2.of (f25 4 (by decide) (by decide) (by decide) (by decide)) (f25 5 (by decide) (by decide) (by decide) (by decide))) (fun f hf => (ok.2.1 f hf).1) (fun call S6 w6 f6 => ?_) (fun call S6 w6 f6 => ?_)
          · rw [f25 1 (by decide) (by decide) (by decide) (by decide)]; exact (f12.ok hR.1).1
          · rw [f25 2 (by decide) (by decide) (by decide) (by decide)]; exact (f12.ok hR.1).2
          · rw [f25 0 (by decide) (by decide) (by decide) (by decide)]; exact (f12.rv hR.2.2.2).1
          · rw [f25 6 (by decide) (by decide) (by decide) (by decide)]; exact (f12.rv hR.2.2.2).2
          · rw [f25 0 (by decide) (by decide) (by decide) (by decide)]
          · rw [f25 0 (by decide) (by decide) (by decide) (by decide)]
          · rw [f25 0 (by decide) (by decide) (by decide) (by decide)]
          · rw [sq_lt call] at hQ
            exact hQ S6 (rq_R hR (rq5.tr f6) w6)
          · rw [sq_lf call] at hQ
            exact hQ S6 (rq_R hR (rq5.tr f6) w6)
        · rw [sq_lt c] at hQ
          refine hQ S4 (rq_R hR (f12.rq.tr (rq_of (fun i hi => by rw [f4 i (by omega) (by omega), f3 i (by omega)]))) (hF2.of (by rw [f4 4 (by decide) (by decide), f3 4 (by decide)]) (by rw [f4 5 (by decide) (by decide), f3 5 (by decide)])))
      | succ r ih =>
        intro j S3 hj h18 f3
        have hfl := fl_step hsrt j
        have hlen : (l.filter (fun a => decide (a < j))).length ≤ l.length := List.length_filter_le _ _
        have hbit := dm_n_bit l j
        refine e_Mo_repair_19 ?_
        rw [px_sarN (by omega) (by omega), nI_and1 (by have := Nat.div_le_self (dm_n l) (2 ^ j); omega), nI_1, hbit]
        by_cases hjl : j ∈ l
        · rw [if_pos hjl] at hfl ⊢
          have hlen2 : (l.filter (fun a => decide (a < j))).length < 12 := by
            have h1 : (l.filter (fun a => decide (a < j + 1))).length ≤ l.length := List.length_filter_le _ _
            rw [hfl, List.length_append] at h1
            have h2 : ([j] : List Nat).length = 1 := rfl
            omega
          refine ⟨fun z => absurd z (nI_ge (b := 12) (by omega) (by decide)), fun _ => ⟨fun z => absurd rfl z, fun _ => ⟨vp_in_nI hlen2 (by decide), ?_⟩⟩⟩
          rw [nI_clamp (by omega), nI_1]
          have := ih (j + 1) (px_u S3 18 (l.filter (fun a => decide (a < j))).length (nI j)) (by omega) (fun u hu => ?_) (fun i hi => by rw [px_u_ne _ _ _ hi]; exact f3 i hi)
          · rw [hfl, List.length_append] at this
            exact this
          · rw [hfl] at hu ⊢
            rw [px_ua]
            by_cases huj : u = (l.filter (fun a => decide (a < j))).length
            · rw [if_pos ⟨rfl, huj⟩, huj]
              simp
            · rw [if_neg (fun z => huj z.2)]
              have hu' : u < (l.filter (fun a => decide (a < j))).length := by rw [List.length_append] at hu; have h2 : ([j] : List Nat).length = 1 := rfl; omega
              rw [h18 u hu', List.getD_eq_getElem?_getD, List.getD_eq_getElem?_getD, List.getElem?_append_left hu']
        · rw [if_neg hjl] at hfl ⊢
          rw [List.append_nil] at hfl
          refine ⟨fun z => absurd z (nI_ge (b := 12) (by omega) (by decide)), fun _ => ⟨fun _ => ?_, fun z => absurd z (by decide)⟩⟩
          have := ih (j + 1) S3 (by omega) (by rw [hfl]; exact h18) f3
          rw [hfl] at this
          exact this
    have e0 : l.filter (fun a => decide (a < 0)) = [] := fl_big (fun a _ => Nat.zero_le _)
    have := t19 12 0 S2 (by omega) (fun u hu => by rw [e0] at hu; simp at hu) (fun _ _ => rfl)
    rw [e0] at this
    exact this
  · have := hQ S1 (by unfold sq_repair; rw [hM]; exact f1.R hR)
    unfold sq_repair at this
    rw [hM] at this
    exact px_iq_i this
end
