section
variable {G : px_G} {d : Nat} {S : px_S} {T : List Int32} {F : Nat → List Int32} {V : List Int32}
theorem k_Mo_protect {Q : Int32 → px_S → Prop} {r : Int32} (hR : sv_R S T F V) (ok : sv_ok T F V) (hQ : ∀ S', sv_R S' T F (sq_protect r F V).2 → Q (sq_protect r F V).1 S') : px_I G px_Zr (d + 5) m_Mo_protect [.ref 0, .int r] S Q := by
  obtain ⟨okT, okF, okV⟩ := ok
  obtain ⟨hok, hT, hF, hV⟩ := hR
  have hlen : ∀ f, f < 3 → (F f).length ≤ 40 := fun f hf => (okF f hf).1
  have hby : ∀ f, f < 3 → ls_by (F f) := fun f hf => (okF f hf).2
  have h256 : ∀ f, f < 3 → (fun f => (F f).length) f < 256 := fun f hf => by have := hlen f hf; show (F f).length < 256; omega
  have hL : ∀ m, m ≤ 3 → sp_n (fun f => (F f).length) m ≤ 15 := by
    intro m hm
    have h0 := hlen 0 (by decide)
    have h1 := hlen 1 (by decide)
    have h2 := hlen 2 (by decide)
    have h3 : sp_n (fun f => (F f).length) 3 = ((0 + ((F 0).length + 7) / 8) + ((F 1).length + 7) / 8) + ((F 2).length + 7) / 8 := rfl
    have h4 : sp_n (fun f => (F f).length) m ≤ sp_n (fun f => (F f).length) 3 := sp_n_le hm
    omega
  -- behind the main packet: S0 is the state there
  have work : ∀ (hr : ¬ (r < 0 ∨ 6 < r)) (hn : sp_n (fun f => (F f).length) 3 ≤ 12) (S0 : px_S) (x4 : Int32), vw_4 x4 = vw_set (fun f => (F f).length) → rf_ok S0 → rs_F S0 F → rs_sl S0 F (fun f => (F f).length) 3 → (S0 0 2 = nI T.length ∧ ∀ j, j < T.length → S0 3 j = T.getD j 0) → rv_at S0 (vw_fs F (sp_c F (fun f => (F f).length) 3) (fun f => (F f).length) 0) →
      ∀ x3 : Int32, px_w G px_Zr (d + 5) m_Mo_protect 158 [.ref 0, .int r, .int (nI (sp_n (fun f => (F f).length) 3)), .int x3, .int x4, .int 0] [] S0 (px_iq Q) := by
    intro hr hn S0 x4 hx4 ok0 F0 sl0 T0 w0 x3
    obtain ⟨e0, he0, rfl⟩ : ∃ e : Nat, e ≤ 6 ∧ r = nI e := by
      obtain ⟨j, hj, h1⟩ := nI_of2 (n := 6) (M := 6) (by decide) (fun z => hr (Or.inl z)) (Int32.not_lt.mp (fun z => hr (Or.inr z)))
      exact ⟨j, hj, h1⟩
    have hq : sq_protect (nI e0) F V = (nI (244 + 20 * sp_n (fun f => (F f).length) 3 + 35 * e0), vw_all F (sp_c F (fun f => (F f).length) 3) (fun f => (F f).length) (sp_n (fun f => (F f).length) 3) e0) := by
      unfold sq_protect
      rw [if_neg hr, if_neg (by omega), nI_clamp (by omega)]
    rw [hq] at hQ
    have recs : ∀ (x3 : Int32) (m e : Nat) (S' : px_S), m + e = e0 → rv_at S' (vw_all F (sp_c F (fun f => (F f).length) 3) (fun f => (F f).length) (sp_n (fun f => (F f).length) 3) e) → rg_fr S0 S' → px_w G px_Zr (d + 5) m_Mo_protect 229 [.ref 0, .int (nI e0), .int (nI (sp_n (fun f => (F f).length) 3)), .int x3, .int x4, .int (nI e)] [] S' (px_iq Q) := by
      intro x3 m
      induction m with
      | zero =>
        intro e S' he w fr
        have : e = e0 := by omega
        subst this
        refine e_Mo_protect_229 ⟨fun h => px_iq_i ?_, fun h => absurd (Int32.le_refl _) h⟩
        rw [w.1, vw_all_len]
        refine hQ S' ⟨fr.ok ok0, ⟨?_, ?_⟩, fr.F F0, w⟩
        · rw [fr.1 2 (by decide) (by decide)]; exact T0.1
        · rw [fr.2 3 (by decide) (by decide) (by decide) (by decide) (by decide)]; exact T0.2
      | succ m ih =>
        intro e S' he w fr
        have hlen2 := vw_all_len F (sp_c F (fun f => (F f).length) 3) (fun f => (F f).length) (sp_n (fun f => (F f).length) 3) e
        refine e_Mo_protect_229 ⟨fun h => absurd h (nI_ge (by omega) (by omega)), fun h => ?_⟩
        refine k_Mo_writeRecovery (t := fun f => (F f).length) (by omega) (fr.ok ok0) (fr.sl sl0) hn hby w (by omega) (fun S2 w2 f2 => ?_)
        rw [hx4] at w2
        rw [nI_1]
        exact ih (e + 1) S2 (by omega) w2 (fr.tr f2)
    have files : ∀ (m f : Nat) (S' : px_S) (x3 : Int32), m + f = 3 → rv_at S' (vw_fs F (sp_c F (fun f => (F f).length) 3) (fun f => (F f).length) f) → rg_fr S0 S' → px_w G px_Zr (d + 5) m_Mo_protect 158 [.ref 0, .int (nI e0), .int (nI (sp_n (fun f => (F f).length) 3)), .int x3, .int x4, .int (nI f)] [] S' (px_iq Q) := by
      intro m
      induction m with
      | zero =>
        intro f S' x3 hf w fr
        have : f = 3 := by omega
        subst this
        refine e_Mo_protect_158 ⟨fun h => ?_, fun h => absurd (Int32.le_refl _) h⟩
        exact recs x3 e0 0 S' (by omega) w fr
      | succ m ih =>
        intro f S' x3 hf w fr
        have hlen1 := vw_fs_len F (sp_c F (fun f => (F f).length) 3) (fun f => (F f).length) f
        have hn1 : sp_n (fun f => (F f).length) f ≤ sp_n (fun f => (F f).length) 3 := sp_n_le (by omega)
        have hn2 : sp_n (fun f => (F f).length) f + ((F f).length + 7) / 8 ≤ sp_n (fun f => (F f).length) 3 := sp_n_le (t := fun f => (F f).length) (f := f + 1) (by omega)
        have hFl := hlen f (by omega)
        refine e_Mo_protect_158 ⟨fun h => absurd h (nI_ge (b := 3) (by omega) (by decide)), fun h => ?_⟩
        refine k_Mo_begin w (by omega) (by decide) (fun S1 g hg w1 f1 => k_Mo_write w1 (by simp [hg] <;> omega) (fun S2 w2 f2 _ => ⟨vp_in_nI (by omega) (by decide), ?_⟩))
        have fr2 := (fr.tr f1).tr f2
        rw [nI_clamp (by omega), ((fr2.F F0) f (by omega)).1]
        refine k_Mo_write w2 (by simp [hg] <;> omega) (fun S3 w3 f3 _ => ⟨vp_in_nI (by omega) (by decide), ?_⟩)
        have fr3 := fr2.tr f3
        rw [((fr3.F F0) f (by omega)).1]
        refine k_Mo_sumFile (by omega) (fr3.ok ok0) (fr3.F F0) hFl (hby f (by omega)) (fun S4 h9 f4 => ?_)
        refine k_Mo_writeSum (f4.rv w3) h9 (by simp [hg] <;> omega) (fun S5 w5 f5 => ?_)
        rw [by_nI (n := f) (by omega), by_nI (n := (F f).length) (by omega)] at w5
        have fr5 := (fr3.tr f4.rg).tr f5
        have w6 : rv_at S5 (vw_fs F (sp_c F (fun f => (F f).length) 3) (fun f => (F f).length) f ++ [80, 75, 84, 70] ++ g ++ vw_fb F (fun f => (F f).length) f) := by
          have : vw_fs F (sp_c F (fun f => (F f).length) 3) (fun f => (F f).length) f ++ [80, 75, 84, 70] ++ g ++ [nI f] ++ [nI (F f).length] ++ (List.range 16).map (md_b (md_sum (F f))) = vw_fs F (sp_c F (fun f => (F f).length) 3) (fun f => (F f).length) f ++ [80, 75, 84, 70] ++ g ++ vw_fb F (fun f => (F f).length) f := by
            unfold vw_fb md5
            simp
          rw [this] at w5
          exact w5
        have hfb : (vw_fb F (fun f => (F f).length) f).length = 18 := by
          unfold vw_fb
          rw [List.length_append, md5_len]
          rfl
        refine k_Mo_end (fr5.ok ok0) w6 hg (by rw [hfb]; omega) (by decide) (ls_by_fb F (by omega) (h256 f (by omega))) (fun S6 w7 f6 => ?_)
        have hlen3 : (vw_fs F (sp_c F (fun f => (F f).length) 3) (fun f => (F f).length) f ++ pk_of 70 (vw_4 x4) (vw_fb F (fun f => (F f).length) f)).length = 31 + 71 * f + 20 * sp_n (fun f => (F f).length) f + 44 := by
          rw [List.length_append, hlen1, pk_of_len _ _ rfl, hfb]
        have fr6 := fr5.tr f6
        refine k_Mo_writeChecks (t := fun f => (F f).length) (by omega) (fr6.ok ok0) (fr6.sl sl0) (by show (F f).length ≤ 96; omega) hn hby w7 (by rw [hlen3]; show 31 + 71 * f + 20 * sp_n (fun f => (F f).length) f + 44 + 27 + 20 * (((F f).length + 7) / 8) ≤ 694; omega) (fun S7 w8 f7 => ?_)
        rw [hx4] at w8
        rw [nI_1]
        exact ih (f + 1) S7 _ (by omega) w8 (fr6.tr f7)
    exact files 3 0 S0 x3 (by omega) w0 (rg_fr.rf S0)
  -- the lengths as told, the slices, the main packet
  have main : ∀ (hr : ¬ (r < 0 ∨ 6 < r)) (hn : sp_n (fun f => (F f).length) 3 ≤ 12) (m f : Nat) (S' : px_S), m + f = 3 → (∀ g, g < f → S' 10 g = nI (F g).length) → (∀ i, i ≠ 10 → S' i = S i) →
      px_w G px_Zr (d + 5) m_Mo_protect 53 [.ref 0, .int r, .int (nI (sp_n (fun f => (F f).length) 3)), .int (nI f), .null, .null] [] S' (px_iq Q) := by
    intro hr hn m
    induction m with
    | zero =>
      intro f S' hf h10 fr
      have : f = 3 := by omega
      subst this
      refine e_Mo_protect_53 ⟨fun h => ?_, fun h => absurd (Int32.le_refl _) h⟩
      refine k_Mo_layOut (m := 3) (t := fun f => (F f).length) (by decide) (hF.of (fr 4 (by decide)) (fr 5 (by decide))) hlen (fun g hg => ⟨h10 g hg, hlen g hg⟩) hn (fun S2 s2 f2 => ?_)
      have fr2 : ∀ i, i ≠ 10 → i ≠ 11 → i ≠ 15 → S2 i = S i := fun i h1 h2 h3 => (f2 i h2 h3).trans (fr i h1)
      have w2 : rv_at (px_u S2 0 6 0) [] := ⟨by rw [px_us]; rfl, fun j hj => by simp at hj⟩
      have g2 : rg_fr S2 (px_u S2 0 6 0) := ⟨fun j hj _ => by rw [px_ua, if_neg (fun z => hj z.2)], fun i h1 _ _ _ _ => px_u_ne _ _ _ h1⟩
      have ok2 : rf_ok S2 := ⟨by rw [fr2 1 (by decide) (by decide) (by decide)]; exact hok.1, by rw [fr2 2 (by decide) (by decide) (by decide)]; exact hok.2⟩
      have F2 : rs_F S2 F := hF.of (fr2 4 (by decide) (by decide) (by decide)) (fr2 5 (by decide) (by decide) (by decide))
      have T2 : S2 0 2 = nI T.length ∧ ∀ j, j < T.length → S2 3 j = T.getD j 0 := by
        rw [fr2 0 (by decide) (by decide) (by decide), fr2 3 (by decide) (by decide) (by decide)]; exact hT
      refine k_Mo_begin w2 (by decide) (by decide) (fun S3 g hg w3 f3 => k_Mo_write w3 (by simp [hg]) (fun S4 w4 f4 _ => k_Mo_write w4 (by simp [hg]) (fun S5 w5 f5 _ => ?_)))
      have fr5 := ((g2.tr f3).tr f4).tr f5
      have w5' : rv_at S5 ([] ++ [80, 75, 84, 77] ++ g ++ [8] ++ [3]) := w5
      have loop : ∀ (m f : Nat) (S' : px_S), m + f = 3 → rv_at S' ([] ++ [80, 75, 84, 77] ++ g ++ [8] ++ [3] ++ (List.range f).map (fun f => nI (F f).length)) → rg_fr S2 S' →
          px_w G px_Zr (d + 5) m_Mo_protect 108 [.ref 0, .int r, .int (nI (sp_n (fun f => (F f).length) 3)), .int (nI 0), .int (nI f), .null] [] S' (px_iq Q) := by
        intro m
        induction m with
        | zero =>
          intro f S' hf w fr3
          have : f = 3 := by omega
          subst this
          refine e_Mo_protect_108 ⟨fun h => ?_, fun h => absurd (Int32.le_refl _) h⟩
          have w6 : rv_at S' ([] ++ [80, 75, 84, 77] ++ g ++ vw_main (fun f => (F f).length)) := by
            have e : ([] : List Int32) ++ [80, 75, 84, 77] ++ g ++ [8] ++ [3] ++ (List.range 3).map (fun f => nI (F f).length) = [] ++ [80, 75, 84, 77] ++ g ++ vw_main (fun f => (F f).length) := by
              show _ = [] ++ [80, 75, 84, 77] ++ g ++ [8, 3, nI (F 0).length, nI (F 1).length, nI (F 2).length]
              have e3 : (List.range 3).map (fun f => nI (F f).length) = [nI (F 0).length, nI (F 1).length, nI (F 2).length] := rfl
              rw [e3]
              simp
            rw [e] at w
            exact w
          have hbm : ls_by (vw_main (fun f => (F f).length)) := ls_by_main h256
          refine k_Mo_end (V0 := []) (x2 := 0) (fr3.ok ok2) w6 hg (show 0 + 26 + 5 ≤ 694 by decide) (by decide) hbm (fun S6 w7 f6 => ?_)
          rw [List.nil_append] at w7
          have hlen0 : (pk_of 77 (vw_4 0) (vw_main (fun f => (F f).length))).length = 31 := pk_of_len _ _ rfl
          have epk : pk_of 77 (vw_4 0) (vw_main (fun f => (F f).length)) = [80, 75, 84, 77, nI 5, nI 0] ++ md5 ([77, nI 5, nI 0] ++ vw_4 0 ++ vw_main (fun f => (F f).length)) ++ vw_4 0 ++ vw_main (fun f => (F f).length) := by
            unfold pk_of
            rw [show (vw_main (fun f => (F f).length)).length = 5 from rfl]
          have hbl : sp_bt (pk_of 77 (vw_4 0) (vw_main (fun f => (F f).length))) (0 + 4) + 256 * sp_bt (pk_of 77 (vw_4 0) (vw_main (fun f => (F f).length))) (0 + 5) = 5 := by
            rw [epk, sp_bt_nI (m := 5) rfl (by decide), sp_bt_nI (m := 0) rfl (by decide)]
          have fr6 := fr3.tr f6
          refine k_Mo_sumBody (a := 0) (n := 5) (fr6.ok ok2) w7 (by rw [hlen0]; decide) hbl (by rw [hlen0]; decide) (ls_by_pk (by decide) (ls_by_4 0) hbm (show 5 < 65536 by decide)) (fun S7 h9 f7 => ?_)
          have esl : ls_sl (pk_of 77 (vw_4 0) (vw_main (fun f => (F f).length))) (0 + 26) 5 = vw_main (fun f => (F f).length) := by
            have q := ls_mid ([80, 75, 84, 77, nI 5, nI 0] ++ md5 ([77, nI 5, nI 0] ++ vw_4 0 ++ vw_main (fun f => (F f).length)) ++ vw_4 0) (vw_main (fun f => (F f).length)) []
            have z1 : ([80, 75, 84, 77, nI 5, nI 0] ++ md5 ([77, nI 5, nI 0] ++ vw_4 0 ++ vw_main (fun f => (F f).length)) ++ vw_4 0).length = 26 := by
              rw [List.length_append, List.length_append, md5_len]
              rfl
            rw [z1, List.append_nil] at q
            exact q
          rw [esl] at h9
          refine k_Mo_firstFour h9 (fun x4 hx4 => ?_)
          have hset : vw_4 x4 = vw_set (fun f => (F f).length) := hx4
          have w8 : rv_at S7 ([] ++ [80, 75, 84, 77] ++ ([nI 5, nI 0] ++ md5 ([77, nI 5, nI 0] ++ vw_4 0 ++ vw_main (fun f => (F f).length)) ++ vw_4 0) ++ vw_main (fun f => (F f).length)) := by
            have w8 := f7.rv w7
            have e : pk_of 77 (vw_4 0) (vw_main (fun f => (F f).length)) = [] ++ [80, 75, 84, 77] ++ ([nI 5, nI 0] ++ md5 ([77, nI 5, nI 0] ++ vw_4 0 ++ vw_main (fun f => (F f).length)) ++ vw_4 0) ++ vw_main (fun f => (F f).length) := by
              rw [epk]
              simp
            rw [e] at w8
            exact w8
          have fr7 := fr6.tr f7.rg
          refine k_Mo_end (V0 := []) (x2 := x4) (fr7.ok ok2) w8 (by rw [List.length_append, List.length_append, md5_len]; rfl) (show 0 + 26 + 5 ≤ 694 by decide) (by decide) hbm (fun S8 w9 f8 => ?_)
          rw [List.nil_append, hset] at w9
          have fr8 := fr7.tr f8
          refine work hr hn S8 x4 hset (fr8.ok ok2) (fr8.F F2) (fr8.sl s2) ⟨?_, ?_⟩ w9 _
          · rw [fr8.1 2 (by decide) (by decide)]; exact T2.1
          · rw [fr8.2 3 (by decide) (by decide) (by decide) (by decide) (by decide)]; exact T2.2
        | succ m ih =>
          intro f S' hf w fr3
          refine e_Mo_protect_108 ⟨fun h => absurd h (nI_ge (b := 3) (by omega) (by decide)), fun h => ⟨vp_in_nI (by omega) (by decide), ?_⟩⟩
          have hFl := hlen f (by omega)
          rw [nI_clamp (by omega), ((fr3.F F2) f (by omega)).1]
          refine k_Mo_write w (by simp [hg] <;> omega) (fun S6 w6 f6 _ => ?_)
          rw [nI_1]
          refine ih (f + 1) S6 (by omega) ?_ (fr3.tr f6)
          rw [by_nI (by omega), List.append_assoc] at w6
          rw [List.range_succ, List.map_append]
          exact w6
      exact loop 3 0 S5 (by omega) (by simpa using w5') fr5
    | succ m ih =>
      intro f S' hf h10 fr
      refine e_Mo_protect_53 ⟨fun h => absurd h (nI_ge (b := 3) (by omega) (by decide)), fun h => ⟨vp_in_nI (by omega) (by decide), vp_in_nI (by omega) (by decide), ?_⟩⟩
      rw [nI_clamp (by omega), nI_1, fr 5 (by decide), (hF f (by omega)).1]
      refine ih (f + 1) _ (by omega) (fun g hg => ?_) (fun i hi => (px_u_ne _ _ _ hi).trans (fr i hi))
      rw [px_ua]
      by_cases hgf : g = f
      · rw [if_pos ⟨rfl, hgf⟩, hgf]
      · rw [if_neg (fun z => hgf z.2)]; exact h10 g (by omega)
  have count : ∀ (hr : ¬ (r < 0 ∨ 6 < r)) (m f : Nat), m + f = 3 → px_w G px_Zr (d + 5) m_Mo_protect 16 [.ref 0, .int r, .int (nI (sp_n (fun f => (F f).length) f)), .int (nI f), .null, .null] [] S (px_iq Q) := by
    intro hr m
    induction m with
    | zero =>
      intro f hf
      have : f = 3 := by omega
      subst this
      have hb := hL 3 (by decide)
      refine e_Mo_protect_16 ⟨fun h => ⟨fun h2 => ?_, fun h2 => px_iq_i ?_⟩, fun h => absurd (Int32.le_refl _) h⟩
      · have c := (nI_leI (b := 12) (by omega) (by decide)).mp h2
        exact main hr c 3 0 S (by omega) (fun g hg => by omega) (fun _ _ => rfl)
      · have c : ¬ sp_n (fun f => (F f).length) 3 ≤ 12 := fun z => h2 ((nI_leI (b := 12) (by omega) (by decide)).mpr z)
        have hq : sq_protect r F V = (-2, V) := by
          unfold sq_protect
          rw [if_neg hr, if_pos (by omega)]
        rw [hq] at hQ
        exact hQ S ⟨hok, hT, hF, hV⟩
    | succ m ih =>
      intro f hf
      refine e_Mo_protect_16 ⟨fun h => absurd h (nI_ge (b := 3) (by omega) (by decide)), fun h => ⟨vp_in_nI (by omega) (by decide), ?_⟩⟩
      rintro y rfl
      have h40 := hlen f (by omega)
      rw [nI_clamp (by omega), (hF f (by omega)).1, show nI (F f).length + 7 = nI ((F f).length + 7) from nI_add _ 7, show nI ((F f).length + 7) / 8 = nI (((F f).length + 7) / 8) from pk_div (by omega) (by decide) (by decide), nI_add, nI_1]
      exact ih (f + 1) (by omega)
  refine f_Mo_protect ⟨fun h => px_iq_i ?_, fun h => ⟨fun h2 => ?_, fun h2 => px_iq_i ?_⟩⟩
  · have hq : sq_protect r F V = (-1, V) := by unfold sq_protect; rw [if_pos (Or.inl h)]
    rw [hq] at hQ; exact hQ S ⟨hok, hT, hF, hV⟩
  · exact count (fun z => z.elim (fun z => h z) (fun z => absurd h2 (Int32.not_le.mpr z))) 3 0 (by omega)
  · have hq : sq_protect r F V = (-1, V) := by unfold sq_protect; rw [if_pos (Or.inr (Int32.not_le.mp h2))]
    rw [hq] at hQ; exact hQ S ⟨hok, hT, hF, hV⟩
end
