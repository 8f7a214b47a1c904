/-! The reference: scan -/
/-- four bytes as one number -/
def s4 (g : Nat → Int32) : Int32 := (((g 0) ||| (px_shl (g 1) 8)) ||| (px_shl (g 2) 16)) ||| (px_shl (g 3) 24)
theorem s4_eq {g h : Nat → Int32} (hg : ∀ i, g i &&& 255 = g i) (hh : ∀ i, h i &&& 255 = h i) : s4 g = s4 h ↔ ∀ i, i < 4 → g i = h i := by
  obtain ⟨a0, ha0, e0⟩ := by_nat (hg 0)
  obtain ⟨a1, ha1, e1⟩ := by_nat (hg 1)
  obtain ⟨a2, ha2, e2⟩ := by_nat (hg 2)
  obtain ⟨a3, ha3, e3⟩ := by_nat (hg 3)
  obtain ⟨b0, hb0, d0⟩ := by_nat (hh 0)
  obtain ⟨b1, hb1, d1⟩ := by_nat (hh 1)
  obtain ⟨b2, hb2, d2⟩ := by_nat (hh 2)
  obtain ⟨b3, hb3, d3⟩ := by_nat (hh 3)
  constructor
  · intro z
    unfold s4 at z
    rw [e0, e1, e2, e3, d0, d1, d2, d3, vw_pk ha0 ha1 ha2 ha3, vw_pk hb0 hb1 hb2 hb3] at z
    have z2 := congrArg vw_4 z
    rw [vw_4_nI ha0 ha1 ha2 ha3, vw_4_nI hb0 hb1 hb2 hb3] at z2
    injection z2 with z3 z4
    injection z4 with z4 z5
    injection z5 with z5 z6
    injection z6 with z6 _
    intro i hi
    match i, hi with
    | 0, _ => rw [e0, d0]; exact z3
    | 1, _ => rw [e1, d1]; exact z4
    | 2, _ => rw [e2, d2]; exact z5
    | 3, _ => rw [e3, d3]; exact z6
  · intro z
    unfold s4
    rw [z 0 (by decide), z 1 (by decide), z 2 (by decide), z 3 (by decide)]
section
variable {G : px_G} {d : Nat} {S : px_S} {V : List Int32} {F : Nat → List Int32}
theorem k_Mo_bl {Q : Int32 → px_S → Prop} {a : Nat} (hw : rv_at S V) (hl : V.length ≤ 694) (hb : ls_by V) (ha : a + 26 ≤ V.length) (hQ : Q (nI (pk_bl V a)) S) : px_I G px_Zr d m_Mo_bodyLength [.ref 0, .int (nI a)] S Q := by
  refine k_Mo_bodyLength (x := sp_bt V (a + 4)) (y := sp_bt V (a + 5)) (by omega) ?_ ?_ (sp_bt_lt _ _) (sp_bt_lt _ _) hQ
  · rw [hw.2 _ (by omega), sp_bt_eq hb]
  · rw [hw.2 _ (by omega), sp_bt_eq hb]
theorem k_Mo_isPacket {Q : Int32 → px_S → Prop} {a : Nat} (hok : rf_ok S) (hw : rv_at S V) (hl : V.length ≤ 694) (hb : ls_by V) (ha : a < 2 ^ 29) (h1 : pk_ok V a → ∀ S', rf_fr S S' → Q 1 S') (h0 : ¬ pk_ok V a → ∀ S', rf_fr S S' → Q 0 S') : px_I G px_Zr (d + 3) m_Mo_isPacket [.ref 0, .int (nI a)] S Q := by
  have rf := rf_fr.rf S
  refine f_Mo_isPacket ?_
  rw [show nI a + 26 = nI (a + 26) from nI_add a 26, show nI a + 1 = nI (a + 1) from nI_add a 1, show nI a + 2 = nI (a + 2) from nI_add a 2, hw.1]
  refine ⟨fun c => px_iq_i (h0 (fun z => ?_) S rf), fun c => ?_⟩
  · have := (nI_ltI (by omega) (by omega)).mp c
    have := z.2.2.2.1
    omega
  have c' : a + 26 ≤ V.length := by
    apply Nat.le_of_not_lt
    intro z
    exact c ((nI_ltI (by omega) (by omega)).mpr z)
  rw [nI_clamp (by omega), nI_clamp (by omega), nI_clamp (by omega), hw.2 a (by omega), hw.2 (a + 1) (by omega), hw.2 (a + 2) (by omega)]
  refine ⟨vp_in_nI (by omega) (by decide), fun c1 => px_iq_i (h0 (fun z => c1 z.1) S rf), fun c1 => ?_⟩
  refine ⟨vp_in_nI (by omega) (by decide), fun c2 => px_iq_i (h0 (fun z => c2 z.2.1) S rf), fun c2 => ?_⟩
  refine ⟨vp_in_nI (by omega) (by decide), fun c3 => px_iq_i (h0 (fun z => c3 z.2.2.1) S rf), fun c3 => ?_⟩
  have hbl := pk_bl_lt V a
  refine k_Mo_bl hw hl hb c' ?_
  rw [nI_add, hw.1, nI_leI (by omega) (by omega)]
  refine ⟨fun c4 => ?_, fun c4 => px_iq_i (h0 (fun z => c4 z.2.2.2.1) S rf)⟩
  refine k_Mo_sumPacket hok hw (by omega) rfl c4 (fun i _ => ls_by_getD hb i) (fun S1 w1 f1 => ?_)
  have hw1 := f1.rv hw
  have bad : ∀ (m i : Nat), m + i = 16 → (¬ pk_ok V a) → px_w G px_Zr (d + 3) m_Mo_isPacket 76 [.ref 0, .int (nI a), .int 0, .int (nI i)] [] S1 (px_iq Q) := by
    intro m
    induction m with
    | zero =>
      intro i hi hn
      have : i = 16 := by omega
      subst this
      exact e_Mo_isPacket_76 ⟨fun _ => ⟨Or.inl rfl, px_iq_i (h0 hn S1 f1)⟩, fun z => absurd (Int32.le_refl _) z⟩
    | succ m ih =>
      intro i hi hn
      refine e_Mo_isPacket_76 ⟨fun z => absurd z (nI_ge (b := 16) (by omega) (by decide)), fun _ => ⟨fun _ => ?_, fun z => absurd rfl z⟩⟩
      rw [nI_1]
      exact ih (i + 1) (by omega) hn
  have good : ∀ (m i : Nat), m + i = 16 → (∀ u, u < i → V.getD (a + 6 + u) 0 = md_b (md_sum (pk_ms V a)) u) → px_w G px_Zr (d + 3) m_Mo_isPacket 76 [.ref 0, .int (nI a), .int 1, .int (nI i)] [] S1 (px_iq Q) := by
    intro m
    induction m with
    | zero =>
      intro i hi hu
      have : i = 16 := by omega
      subst this
      exact e_Mo_isPacket_76 ⟨fun _ => ⟨Or.inr rfl, px_iq_i (h1 ⟨c1, c2, c3, c4, hu⟩ S1 f1)⟩, fun z => absurd (Int32.le_refl _) z⟩
    | succ m ih =>
      intro i hi hu
      refine e_Mo_isPacket_76 ⟨fun z => absurd z (nI_ge (b := 16) (by omega) (by decide)), fun _ => ⟨fun z => absurd z (by decide), fun _ => ?_⟩⟩
      rw [show nI a + 6 = nI (a + 6) from nI_add a 6, nI_add, nI_1, nI_clamp (by omega), nI_clamp (by omega), w1 i (by omega), hw1.2 _ (by omega)]
      refine ⟨vp_in_nI (by omega) (by decide), vp_in_nI (by omega) (by decide), fun z => bad m (i + 1) (by omega) (fun zz => z (zz.2.2.2.2 i (by omega)).symm), fun z => ih (i + 1) (by omega) (fun u huu => ?_)⟩
      by_cases hui : u = i
      · subst hui; exact z.symm
      · exact hu u (by omega)
  exact good 16 0 (by omega) (fun u hu => by omega)
theorem k_Mo_setOf {Q : Int32 → px_S → Prop} {a : Nat} (hw : rv_at S V) (hl : V.length ≤ 694) (ha : a + 26 ≤ V.length) (hQ : Q (s4 (fun i => V.getD (a + 22 + i) 0)) S) : px_I G px_Zr d m_Mo_setOf [.ref 0, .int (nI a)] S Q := by
  refine f_Mo_setOf ?_
  rw [show nI a + 22 = nI (a + 22) from nI_add a 22, show nI a + 23 = nI (a + 23) from nI_add a 23, show nI a + 24 = nI (a + 24) from nI_add a 24, show nI a + 25 = nI (a + 25) from nI_add a 25, nI_clamp (by omega), nI_clamp (by omega), nI_clamp (by omega), nI_clamp (by omega), hw.2 _ (by omega), hw.2 _ (by omega), hw.2 _ (by omega), hw.2 _ (by omega)]
  exact ⟨vp_in_nI (by omega) (by decide), vp_in_nI (by omega) (by decide), vp_in_nI (by omega) (by decide), vp_in_nI (by omega) (by decide), px_iq_i hQ⟩
theorem k_Mo_firstFourN {Q : Int32 → px_S → Prop} {s : md_S} (hs : ∀ j, j < 16 → S 9 j = md_b s j) (hQ : Q (s4 (md_b s)) S) : px_I G px_Zr d m_Mo_firstFour [.ref 0] S Q := by
  refine f_Mo_firstFour (px_iq_i ?_)
  rw [hs 0 (by decide), hs 1 (by decide), hs 2 (by decide), hs 3 (by decide)]
  exact hQ
theorem k_Mo_next {Q : Int32 → px_S → Prop} {a : Nat} (hok : rf_ok S) (hw : rv_at S V) (hl : V.length ≤ 694) (hb : ls_by V) (ha : a < 2 ^ 29) (h1 : pk_ok V a → ∀ S', rf_fr S S' → Q (nI (a + 26 + pk_bl V a)) S') (h0 : ¬ pk_ok V a → ∀ S', rf_fr S S' → Q (nI (a + 1)) S') : px_I G px_Zr (d + 4) m_Mo_next [.ref 0, .int (nI a)] S Q := by
  refine f_Mo_next (k_Mo_isPacket hok hw hl hb ha (fun c S1 f1 => ⟨fun z => absurd z (by decide), fun _ => ?_⟩) (fun c S1 f1 => ⟨fun _ => ?_, fun z => absurd rfl z⟩))
  · have := c.2.2.2.1
    refine k_Mo_bl (f1.rv hw) hl hb (by omega) (px_iq_i ?_)
    rw [show nI a + 26 = nI (a + 26) from nI_add a 26, nI_add]
    exact h1 c S1 f1
  · rw [nI_1]
    exact px_iq_i (h0 c S1 f1)
theorem k_Mo_isMain {Q : Int32 → px_S → Prop} {a : Nat} (hok : rf_ok S) (hw : rv_at S V) (hl : V.length ≤ 694) (hb : ls_by V) (hp : pk_ok V a) (h1 : mn_ok V a → ∀ S', rf_fr S S' → Q 1 S') (h0 : ¬ mn_ok V a → ∀ S', rf_fr S S' → Q 0 S') : px_I G px_Zr (d + 3) m_Mo_isMain [.ref 0, .int (nI a)] S Q := by
  have rf := rf_fr.rf S
  have hfit := hp.2.2.2.1
  have hbl := pk_bl_lt V a
  refine f_Mo_isMain (k_Mo_bl hw hl hb (by omega) ?_)
  rw [show nI a + 3 = nI (a + 3) from nI_add a 3, show nI a + 26 = nI (a + 26) from nI_add a 26, show nI a + 27 = nI (a + 27) from nI_add a 27, nI_clamp (by omega), nI_clamp (by omega), nI_clamp (by omega), hw.2 (a + 3) (by omega)]
  refine ⟨vp_in_nI (by omega) (by decide), fun c => px_iq_i (h0 (fun z => c z.1) S rf), fun c0 => ⟨fun c => px_iq_i (h0 (fun z => ?_) S rf), fun c1 => ⟨fun c => px_iq_i (h0 (fun z => ?_) S rf), fun c2 => ⟨vp_in_nI (by omega) (by decide), ?_⟩⟩⟩⟩
  · have := (nI_ltI (b := 3) (by omega) (by decide)).mp c
    have := z.2.1.1
    have := z.2.2.1
    omega
  · have := (nI_ltI (a := 5) (by decide) (by omega)).mp c
    have := z.2.1.2
    have := z.2.2.1
    omega
  have c1' : 3 ≤ pk_bl V a := by
    apply Nat.le_of_not_lt
    intro z
    exact c1 ((nI_ltI (b := 3) (by omega) (by decide)).mpr z)
  have c2' : pk_bl V a ≤ 5 := by
    apply Nat.le_of_not_lt
    intro z
    exact c2 ((nI_ltI (a := 5) (by decide) (by omega)).mpr z)
  rw [hw.2 (a + 26) (by omega), hw.2 (a + 27) (by omega), sp_bt_eq hb (a + 27)]
  have e2 : nI (pk_bl V a) - 2 = nI (pk_bl V a - 2) := pk_sub (a := pk_bl V a) (b := 2) (by omega)
  rw [e2]
  refine ⟨fun c => px_iq_i (h0 (fun z => c z.2.2.2.1) S rf), fun c3 => ⟨vp_in_nI (by omega) (by decide), fun c4 => ?_, fun c4 => px_iq_i (h0 (fun z => c4 (by rw [z.2.2.1, Nat.add_sub_cancel_left]; rfl)) S rf)⟩⟩
  have hm256 : mn_m V a < 256 := sp_bt_lt _ _
  have c4' : pk_bl V a - 2 = mn_m V a := ((nI_eq (by show mn_m V a < _; omega) (by omega)).mp c4).symm
  have ht : ∀ u, mn_t V a u < 256 := fun u => sp_bt_lt _ _
  have fin : ∀ (g : Prop) (x4 : Int32), (x4 = 0 ↔ ¬ ∀ f, f < mn_m V a → mn_t V a f ≤ 40) → px_w G px_Zr (d + 3) m_Mo_isMain 68 [.ref 0, .int (nI a), .int (nI (pk_bl V a)), .int (nI (sp_n (mn_t V a) (mn_m V a))), .int x4, .int (nI (mn_m V a)), .null] [] S (px_iq Q) := by
    intro g x4 h4
    have hsn := sp_n_b (t := mn_t V a) (mn_m V a) (fun u _ => by have := ht u; omega)
    refine e_Mo_isMain_68 ?_
    rw [e2, c4']
    refine ⟨fun _ => ?_, fun z => absurd (Int32.le_refl _) z⟩
    refine k_Mo_sumBody hok hw (by omega) rfl hfit hb (fun S1 w1 f1 => ⟨fun c => px_iq_i (h0 (fun z => h4.mp c z.2.2.2.2.1) S1 f1), fun c => ⟨fun c5 => px_iq_i (h0 (fun z => ?_) S1 f1), fun c5 => ?_⟩⟩)
    · have := (nI_ltI (a := 12) (by decide) (by omega)).mp c5
      have := z.2.2.2.2.2.1
      omega
    have c5' : sp_n (mn_t V a) (mn_m V a) ≤ 12 := by
      apply Nat.le_of_not_lt
      intro z
      exact c5 ((nI_ltI (a := 12) (by decide) (by omega)).mpr z)
    refine k_Mo_setOf (f1.rv hw) hl (by omega) (k_Mo_firstFourN w1 ?_)
    rw [s4_eq (g := fun i => V.getD (a + 22 + i) 0) (h := md_b (md_sum (ls_sl V (a + 26) (sp_bt V (a + 4) + 256 * sp_bt V (a + 5))))) (fun i => ls_by_getD hb _) (fun i => by_and _)]
    have h40 : ∀ f, f < mn_m V a → mn_t V a f ≤ 40 := Classical.byContradiction (fun z => c (h4.mpr z))
    exact ⟨fun c6 => px_iq_i (h0 (fun z => c6 z.2.2.2.2.2.2) S1 f1), fun c6 => px_iq_i (h1 ⟨c0, ⟨by omega, by omega⟩, by omega, c3, h40, c5', c6⟩ S1 f1)⟩
  have key : ∀ (r f : Nat) (x4 : Int32), r + f = mn_m V a → (x4 = 0 ∨ x4 = 1) → (x4 = 0 ↔ ¬ ∀ u, u < f → mn_t V a u ≤ 40) → px_w G px_Zr (d + 3) m_Mo_isMain 68 [.ref 0, .int (nI a), .int (nI (pk_bl V a)), .int (nI (sp_n (mn_t V a) f)), .int x4, .int (nI f), .null] [] S (px_iq Q) := by
    intro r
    induction r with
    | zero =>
      intro f x4 hf _ h4
      have : f = mn_m V a := by omega
      subst this
      exact fin True x4 h4
    | succ r ih =>
      intro f x4 hf h01 h4
      have hsn := sp_n_b (t := mn_t V a) f (fun u _ => by have := ht u; omega)
      have htf := ht f
      refine e_Mo_isMain_68 ?_
      rw [e2, c4', show nI a + 28 = nI (a + 28) from nI_add a 28, nI_add, nI_1, nI_clamp (by omega), hw.2 (a + 28 + f) (by omega), sp_bt_eq hb]
      refine ⟨fun z => absurd z (nI_ge (by omega) (by omega)), fun _ => ⟨vp_in_nI (by omega) (by decide), ?_⟩⟩
      have e8 : nI (sp_n (mn_t V a) f) + (nI (sp_bt V (a + 28 + f)) + 7) / 8 = nI (sp_n (mn_t V a) (f + 1)) := by
        rw [show nI (sp_bt V (a + 28 + f)) + 7 = nI (sp_bt V (a + 28 + f) + 7) from nI_add _ 7]
        have hq : nI (sp_bt V (a + 28 + f) + 7) / 8 = nI ((sp_bt V (a + 28 + f) + 7) / 8) := pk_div (d := 8) (by show mn_t V a f + 7 < _; omega) (by decide) (by decide)
        rw [hq, nI_add]
        rfl
      rw [e8]
      refine ⟨fun c y hy => ?_, fun c => ⟨fun c2 y hy => ?_, fun c2 y hy => ?_⟩⟩
      · subst hy
        exact ih (f + 1) 0 (by omega) (Or.inl rfl) ⟨fun _ z => h4.mp c (fun u hu => z u (by omega)), fun _ => rfl⟩
      · subst hy
        have c2' : ¬ mn_t V a f ≤ 40 := fun z => absurd c2 (nI_nlt (a := 40) z (by decide))
        exact ih (f + 1) 0 (by omega) (Or.inl rfl) ⟨fun _ z => c2' (z f (by omega)), fun _ => rfl⟩
      · subst hy
        have c2' : mn_t V a f ≤ 40 := by
          apply Nat.le_of_not_lt
          intro z
          exact c2 (nI_lt (a := 40) z (by show mn_t V a f < _; omega))
        have h40 : ∀ u, u < f → mn_t V a u ≤ 40 := Classical.byContradiction (fun z => c (h4.mpr z))
        refine ih (f + 1) 1 (by omega) (Or.inr rfl) ⟨fun z => absurd z (by decide), fun z => absurd (fun u hu => ?_) z⟩
        by_cases huf : u = f
        · subst huf; exact c2'
        · exact h40 u (by omega)
  exact key (mn_m V a) 0 1 (by omega) (Or.inr rfl) ⟨fun z => absurd z (by decide), fun z => absurd (fun u hu => by omega) z⟩
end
