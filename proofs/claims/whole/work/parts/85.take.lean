/-! The reference: the rows -/
def re_row (S : px_S) (D q : Nat) (u : Nat → BitVec 16) : Prop := (∀ c, c < D → S 16 (12 * q + c) = gE (u c)) ∧ ∀ i, i < 4 → S 17 (4 * q + i) = gE (u (12 + i))
def re_fr (S S' : px_S) (r : Nat) : Prop := (∀ q, q ≠ r → (∀ c, c < 12 → S' 16 (12 * q + c) = S 16 (12 * q + c)) ∧ ∀ i, i < 4 → S' 17 (4 * q + i) = S 17 (4 * q + i)) ∧ ∀ i, i ≠ 16 → i ≠ 17 → S' i = S i
theorem re_fr.rf (S : px_S) (r : Nat) : re_fr S S r := ⟨fun _ _ => ⟨fun _ _ => rfl, fun _ _ => rfl⟩, fun _ _ _ => rfl⟩
theorem re_fr.tr {S S1 S2 : px_S} {r : Nat} (h : re_fr S S1 r) (h2 : re_fr S1 S2 r) : re_fr S S2 r := ⟨fun q hq => ⟨fun c hc => ((h2.1 q hq).1 c hc).trans ((h.1 q hq).1 c hc), fun i hi => ((h2.1 q hq).2 i hi).trans ((h.1 q hq).2 i hi)⟩, fun i a b => (h2.2 i a b).trans (h.2 i a b)⟩
theorem re_row.of {S S' : px_S} {D q r : Nat} {u : Nat → BitVec 16} (h : re_row S D q u) (hD : D ≤ 12) (hf : re_fr S S' r) (hq : q ≠ r) : re_row S' D q u := ⟨fun c hc => by rw [(hf.1 q hq).1 c (by omega)]; exact h.1 c hc, fun i hi => by rw [(hf.1 q hq).2 i hi]; exact h.2 i hi⟩
theorem re_fr_16 (S : px_S) {r c : Nat} (v : Int32) (hc : c < 12) : re_fr S (px_u S 16 (12 * r + c) v) r := by
  refine ⟨fun q hq => ⟨fun c' hc' => ?_, fun i hi => ?_⟩, fun i h1 h2 => px_u_ne _ _ _ h1⟩
  · rw [px_ua, if_neg (fun z => by have := z.2; omega)]
  · rw [px_u_ne _ _ _ (by decide)]
theorem re_fr_17 (S : px_S) {r c : Nat} (v : Int32) (hc : c < 4) : re_fr S (px_u S 17 (4 * r + c) v) r := by
  refine ⟨fun q hq => ⟨fun c' hc' => ?_, fun i hi => ?_⟩, fun i h1 h2 => px_u_ne _ _ _ h2⟩
  · rw [px_u_ne _ _ _ (by decide)]
  · rw [px_ua, if_neg (fun z => by have := z.2; omega)]
section
variable {G : px_G} {d : Nat} {S : px_S} {D : Nat}
theorem k_Mo_lead {Q : Int32 → px_S → Prop} {q : Nat} {u : Nat → BitVec 16} (hq : q < 12) (hD : D ≤ 12) (hu : ∀ c, c < D → S 16 (12 * q + c) = gE (u c)) (hQ : Q (nI (fp D u)) S) : px_I G px_Zr d m_Mo_lead [.ref 0, .int (nI q), .int (nI D)] S Q := by
  have key : ∀ (r c : Nat), r + c = D → fp_from u r c = fp D u → px_w G px_Zr d m_Mo_lead 2 [.ref 0, .int (nI q), .int (nI D), .int (nI c)] [] S (px_iq Q) := by
    intro r
    induction r with
    | zero =>
      intro c hc hf
      have : c = D := by omega
      subst this
      refine e_Mo_lead_2 ⟨fun _ => px_iq_i ?_, fun z => absurd (Int32.le_refl _) z⟩
      rw [← hf] at hQ
      exact hQ
    | succ r ih =>
      intro c hc hf
      refine e_Mo_lead_2 ?_
      rw [show (12 : Int32) * nI q = nI (12 * q) from pk_mul 12 q, nI_add, nI_clamp (by omega), hu c (by omega), gE_eq0, nI_1]
      unfold fp_from at hf
      refine ⟨fun z => absurd z (nI_ge (by omega) (by omega)), fun _ => ⟨vp_in_nI (by omega) (by decide), fun c0 => px_iq_i ?_, fun c0 => ?_⟩⟩
      · rw [if_neg c0] at hf
        rw [← hf] at hQ
        exact hQ
      · rw [if_pos c0] at hf
        exact ih (c + 1) (by omega) hf
  exact f_Mo_lead (key D 0 (by omega) rfl)
theorem k_Mo_addRow {Q : px_S → Prop} {r q : Nat} {f : BitVec 16} {u w : Nat → BitVec 16} (hr : r < 12) (hq : q < 12) (hrq : r ≠ q) (hD : D ≤ 12) (hu : re_row S D r u) (hw : re_row S D q w) (hQ : ∀ S', re_row S' D r (fun c => u c ^^^ gf_m f (w c)) → re_fr S S' r → Q S') : px_V G px_Zr (d + 1) m_Mo_addRow [.ref 0, .int (nI r), .int (nI q), .int (gE f), .int (nI D)] S Q := by
  have t60 : ∀ (m i : Nat) (S1 : px_S), m + i = 4 → (∀ c, c < D → S1 16 (12 * r + c) = gE (u c ^^^ gf_m f (w c))) → (∀ c, c < i → S1 17 (4 * r + c) = gE (u (12 + c) ^^^ gf_m f (w (12 + c)))) → (∀ c, i ≤ c → c < 4 → S1 17 (4 * r + c) = S 17 (4 * r + c)) → re_fr S S1 r → px_w G px_Zr (d + 1) m_Mo_addRow 60 [.ref 0, .int (nI r), .int (nI q), .int (gE f), .int (nI D), .int (nI i)] [] S1 (px_vq Q) := by
    intro m
    induction m with
    | zero =>
      intro i S1 hi h16 h17 _ f1
      have : i = 4 := by omega
      subst this
      exact e_Mo_addRow_60 ⟨fun _ => px_vq_i (hQ S1 ⟨h16, h17⟩ f1), fun z => absurd (Int32.le_refl _) z⟩
    | succ m ih =>
      intro i S1 hi h16 h17 h17' f1
      refine e_Mo_addRow_60 ⟨fun z => absurd z (nI_ge (b := 4) (by omega) (by decide)), fun _ => ?_⟩
      rw [show (4 : Int32) * nI r = nI (4 * r) from pk_mul 4 r, show (4 : Int32) * nI q = nI (4 * q) from pk_mul 4 q, nI_add, nI_add, nI_clamp (by omega), nI_clamp (by omega), (f1.1 q (fun z => hrq z.symm)).2 i (by omega), hw.2 i (by omega), h17' i (Nat.le_refl _) (by omega), hu.2 i (by omega), nI_1]
      refine ⟨vp_in_nI (by omega) (by decide), vp_in_nI (by omega) (by decide), k_Mo_times ⟨vp_in_nI (by omega) (by decide), ?_⟩⟩
      rw [gE_xor]
      refine ih (i + 1) _ (by omega) (fun c hc => ?_) (fun c hc => ?_) (fun c hc hc4 => ?_) (f1.tr (re_fr_17 _ _ (by omega)))
      · rw [px_u_ne _ _ _ (by decide)]; exact h16 c hc
      · rw [px_ua]
        by_cases hci : c = i
        · rw [if_pos ⟨rfl, by omega⟩, hci]
        · rw [if_neg (fun z => hci (by have := z.2; omega))]; exact h17 c (by omega)
      · rw [px_ua, if_neg (fun z => by have := z.2; omega)]; exact h17' c (by omega) hc4
  have t3 : ∀ (m i : Nat) (S1 : px_S), m + i = D → (∀ c, c < i → S1 16 (12 * r + c) = gE (u c ^^^ gf_m f (w c))) → (∀ c, i ≤ c → c < D → S1 16 (12 * r + c) = S 16 (12 * r + c)) → S1 17 = S 17 → re_fr S S1 r → px_w G px_Zr (d + 1) m_Mo_addRow 3 [.ref 0, .int (nI r), .int (nI q), .int (gE f), .int (nI D), .int (nI i)] [] S1 (px_vq Q) := by
    intro m
    induction m with
    | zero =>
      intro i S1 hi h16 _ h17 f1
      have : i = D := by omega
      subst this
      exact e_Mo_addRow_3 ⟨fun _ => t60 4 0 S1 (by omega) h16 (fun c hc => by omega) (fun c _ _ => by rw [h17]) f1, fun z => absurd (Int32.le_refl _) z⟩
    | succ m ih =>
      intro i S1 hi h16 h16' h17 f1
      refine e_Mo_addRow_3 ⟨fun z => absurd z (nI_ge (by omega) (by omega)), fun _ => ?_⟩
      rw [show (12 : Int32) * nI r = nI (12 * r) from pk_mul 12 r, show (12 : Int32) * nI q = nI (12 * q) from pk_mul 12 q, nI_add, nI_add, nI_clamp (by omega), nI_clamp (by omega), (f1.1 q (fun z => hrq z.symm)).1 i (by omega), hw.1 i (by omega), h16' i (Nat.le_refl _) (by omega), hu.1 i (by omega), nI_1]
      refine ⟨vp_in_nI (by omega) (by decide), vp_in_nI (by omega) (by decide), k_Mo_times ⟨vp_in_nI (by omega) (by decide), ?_⟩⟩
      rw [gE_xor]
      refine ih (i + 1) _ (by omega) (fun c hc => ?_) (fun c hc hc4 => ?_) (by rw [px_u_ne _ _ _ (by decide)]; exact h17) (f1.tr (re_fr_16 _ _ (by omega)))
      · rw [px_ua]
        by_cases hci : c = i
        · rw [if_pos ⟨rfl, by omega⟩, hci]
        · rw [if_neg (fun z => hci (by have := z.2; omega))]; exact h16 c (by omega)
      · rw [px_ua, if_neg (fun z => by have := z.2; omega)]; exact h16' c (by omega) hc4
  exact f_Mo_addRow (t3 D 0 S (by omega) (fun c hc => by omega) (fun _ _ _ => rfl) rfl (re_fr.rf S r))
theorem k_Mo_scale {Q : px_S → Prop} {r : Nat} {f : BitVec 16} {u : Nat → BitVec 16} (hr : r < 12) (hD : D ≤ 12) (hu : re_row S D r u) (hQ : ∀ S', re_row S' D r (fun c => gf_m f (u c)) → re_fr S S' r → Q S') : px_V G px_Zr (d + 1) m_Mo_scale [.ref 0, .int (nI r), .int (gE f), .int (nI D)] S Q := by
  have t46 : ∀ (m i : Nat) (S1 : px_S), m + i = 4 → (∀ c, c < D → S1 16 (12 * r + c) = gE (gf_m f (u c))) → (∀ c, c < i → S1 17 (4 * r + c) = gE (gf_m f (u (12 + c)))) → (∀ c, i ≤ c → c < 4 → S1 17 (4 * r + c) = S 17 (4 * r + c)) → re_fr S S1 r → px_w G px_Zr (d + 1) m_Mo_scale 46 [.ref 0, .int (nI r), .int (gE f), .int (nI D), .int (nI i)] [] S1 (px_vq Q) := by
    intro m
    induction m with
    | zero =>
      intro i S1 hi h16 h17 _ f1
      have : i = 4 := by omega
      subst this
      exact e_Mo_scale_46 ⟨fun _ => px_vq_i (hQ S1 ⟨h16, h17⟩ f1), fun z => absurd (Int32.le_refl _) z⟩
    | succ m ih =>
      intro i S1 hi h16 h17 h17' f1
      refine e_Mo_scale_46 ⟨fun z => absurd z (nI_ge (b := 4) (by omega) (by decide)), fun _ => ?_⟩
      rw [show (4 : Int32) * nI r = nI (4 * r) from pk_mul 4 r, nI_add, nI_clamp (by omega), h17' i (Nat.le_refl _) (by omega), hu.2 i (by omega), nI_1]
      refine ⟨vp_in_nI (by omega) (by decide), k_Mo_times ⟨vp_in_nI (by omega) (by decide), ?_⟩⟩
      refine ih (i + 1) _ (by omega) (fun c hc => ?_) (fun c hc => ?_) (fun c hc hc4 => ?_) (f1.tr (re_fr_17 _ _ (by omega)))
      · rw [px_u_ne _ _ _ (by decide)]; exact h16 c hc
      · rw [px_ua]
        by_cases hci : c = i
        · rw [if_pos ⟨rfl, by omega⟩, hci]
        · rw [if_neg (fun z => hci (by have := z.2; omega))]; exact h17 c (by omega)
      · rw [px_ua, if_neg (fun z => by have := z.2; omega)]; exact h17' c (by omega) hc4
  have t3 : ∀ (m i : Nat) (S1 : px_S), m + i = D → (∀ c, c < i → S1 16 (12 * r + c) = gE (gf_m f (u c))) → (∀ c, i ≤ c → c < D → S1 16 (12 * r + c) = S 16 (12 * r + c)) → S1 17 = S 17 → re_fr S S1 r → px_w G px_Zr (d + 1) m_Mo_scale 3 [.ref 0, .int (nI r), .int (gE f), .int (nI D), .int (nI i)] [] S1 (px_vq Q) := by
    intro m
    induction m with
    | zero =>
      intro i S1 hi h16 _ h17 f1
      have : i = D := by omega
      subst this
      exact e_Mo_scale_3 ⟨fun _ => t46 4 0 S1 (by omega) h16 (fun c hc => by omega) (fun c _ _ => by rw [h17]) f1, fun z => absurd (Int32.le_refl _) z⟩
    | succ m ih =>
      intro i S1 hi h16 h16' h17 f1
      refine e_Mo_scale_3 ⟨fun z => absurd z (nI_ge (by omega) (by omega)), fun _ => ?_⟩
      rw [show (12 : Int32) * nI r = nI (12 * r) from pk_mul 12 r, nI_add, nI_clamp (by omega), h16' i (Nat.le_refl _) (by omega), hu.1 i (by omega), nI_1]
      refine ⟨vp_in_nI (by omega) (by decide), k_Mo_times ⟨vp_in_nI (by omega) (by decide), ?_⟩⟩
      refine ih (i + 1) _ (by omega) (fun c hc => ?_) (fun c hc hc4 => ?_) (by rw [px_u_ne _ _ _ (by decide)]; exact h17) (f1.tr (re_fr_16 _ _ (by omega)))
      · rw [px_ua]
        by_cases hci : c = i
        · rw [if_pos ⟨rfl, by omega⟩, hci]
        · rw [if_neg (fun z => hci (by have := z.2; omega))]; exact h16 c (by omega)
      · rw [px_ua, if_neg (fun z => by have := z.2; omega)]; exact h16' c (by omega) hc4
  exact f_Mo_scale (t3 D 0 S (by omega) (fun c hc => by omega) (fun _ _ _ => rfl) rfl (re_fr.rf S r))
variable {V C : List Int32} {N : Nat → Option Nat} {l : List Nat} {n : Nat}
/-- what take stands on -/
def rt_at (S : px_S) (V C : List Int32) (N : Nat → Option Nat) (l : List Nat) (n : Nat) : Prop := rf_ok S ∧ rv_at S V ∧ (∃ m : Nat, m < 4 ∧ S 0 13 = nI m ∧ S 11 m = nI n) ∧ (∀ i, i < C.length → S 15 i = C.getD i 0) ∧ (∀ e, e < 256 → S 14 e = nt_v (N (6 + e)) 0) ∧ ∀ u, u < l.length → S 18 u = nI (l.getD u 0)
theorem rt_at.of {S S' : px_S} {V C : List Int32} {N : Nat → Option Nat} {l : List Nat} {n : Nat} (h : rt_at S V C N l n) (hf : ∀ i, i ≠ 16 → i ≠ 17 → S' i = S i) : rt_at S' V C N l n := by
  obtain ⟨h1, h2, h3, h4, h5, h6⟩ := h
  refine ⟨⟨?_, ?_⟩, ⟨?_, ?_⟩, ?_, ?_, ?_, ?_⟩
  · rw [hf 1 (by decide) (by decide)]; exact h1.1
  · rw [hf 2 (by decide) (by decide)]; exact h1.2
  · rw [hf 0 (by decide) (by decide)]; exact h2.1
  · rw [hf 6 (by decide) (by decide)]; exact h2.2
  · rw [hf 0 (by decide) (by decide), hf 11 (by decide) (by decide)]; exact h3
  · rw [hf 15 (by decide) (by decide)]; exact h4
  · rw [hf 14 (by decide) (by decide)]; exact h5
  · rw [hf 18 (by decide) (by decide)]; exact h6
theorem k_Mo_basePower {Q : Int32 → px_S → Prop} {j e : Nat} (hok : rf_ok S) (hj : j < 12) (he : e < 256) (hQ : Q (gE (gf_b j e)) S) : px_I G px_Zr (d + 2) m_Mo_base [.ref 0, .int (nI j)] S (fun r2 S1 => px_I G px_Zr (d + 2) m_Mo_power [.int r2, .int (nI e)] S1 Q) := by
  refine k_Mo_base hok hj (k_Mo_power (by omega) ?_)
  rw [gf_w_mul]
  exact hQ
theorem k_Mo_putRow {Q : px_S → Prop} {t e a : Nat} (ht : t < 12) (he : e < 256) (hr : rt_at S V C N l n) (hl : V.length ≤ 694) (hVb : ls_by V) (hC : C.length = 8 * n) (hn : n ≤ 12) (hCb : ls_by C) (hD : l.length ≤ 12) (hl12 : ∀ j ∈ l, j < 12) (ha : N (6 + e) = some a) (hb : a + 35 ≤ V.length)
    (hQ : ∀ S', re_row S' l.length t (rp_row V C N l n e) → re_fr S S' t → Q S') : px_V G px_Zr (d + 3) m_Mo_putRow [.ref 0, .int (nI t), .int (nI e), .int (nI l.length), .int (nI (dm_n l))] S Q := by
  have hdn := dm_n_lt hl12
  obtain ⟨m, hm4, e13, e11⟩ := hr.2.2.1
  have t45 : ∀ (r i : Nat) (S1 : px_S), r + i = 4 → (∀ c, c < l.length → S1 16 (12 * t + c) = gE (gf_b (l.getD c 0) e)) → (∀ u, u < i → S1 17 (4 * t + u) = gE (rp_v V a u ^^^ sp_wg C (dm_n l) e u n)) → re_fr S S1 t → px_w G px_Zr (d + 3) m_Mo_putRow 45 [.ref 0, .int (nI t), .int (nI e), .int (nI l.length), .int (nI (dm_n l)), .int (nI i), .null, .null, .null] [] S1 (px_vq Q) := by
    intro r
    induction r with
    | zero =>
      intro i S1 hi h16 h17 f1
      have : i = 4 := by omega
      subst this
      refine e_Mo_putRow_45 ⟨fun _ => px_vq_i (hQ S1 ⟨fun c hc => ?_, fun u hu => ?_⟩ f1), fun z => absurd (Int32.le_refl _) z⟩
      · unfold rp_row
        rw [if_pos hc]; exact h16 c hc
      · unfold rp_row
        rw [if_neg (by omega), if_pos ⟨by omega, by omega⟩, ha, Nat.add_sub_cancel_left]
        exact h17 u hu
    | succ r ih =>
      intro i S1 hi h16 h17 f1
      have hr1 := hr.of f1.2
      refine e_Mo_putRow_45 ⟨fun z => absurd z (nI_ge (b := 4) (by omega) (by decide)), fun _ => ⟨vp_in_nI he (by decide), fun y5 h5 => ?_⟩⟩
      have h5' : y5 = nI (a + 27 + 2 * i) := by
        rw [h5, nI_clamp (by omega), hr1.2.2.2.2.1 e he, ha]
        show nI (a + 0) + 27 + 2 * nI i = _
        rw [show nI (a + 0) + 27 = nI (a + 0 + 27) from nI_add _ 27, show (2 : Int32) * nI i = nI (2 * i) from pk_mul 2 i, nI_add, Nat.add_zero]
      rw [h5', nI_1, nI_clamp (by omega), nI_clamp (by omega), hr1.2.1.2 _ (by omega), hr1.2.1.2 _ (by omega), rp_v_eq hVb]
      refine ⟨vp_in_nI (by omega) (by decide), vp_in_nI (by omega) (by decide), fun y6 h6 => ?_⟩
      have t92 : ∀ (r2 j : Nat) (x7 : Int32), r2 + j = n → x7 = gE (rp_v V a i ^^^ sp_wg C (dm_n l) e i j) → px_w G px_Zr (d + 3) m_Mo_putRow 92 [.ref 0, .int (nI t), .int (nI e), .int (nI l.length), .int (nI (dm_n l)), .int (nI i), .int (nI (a + 27 + 2 * i)), .int x7, .int (nI j)] [] S1 (px_vq Q) := by
        intro r2
        have g13 : S1 0 13 = nI m := by rw [f1.2 0 (by decide) (by decide)]; exact e13
        have g11 : S1 11 m = nI n := by rw [f1.2 11 (by decide) (by decide)]; exact e11
        induction r2 with
        | zero =>
          intro j x7 hj hx7
          have : j = n := by omega
          subst this
          refine e_Mo_putRow_92 ?_
          rw [g13, nI_clamp (n := m) (by omega), g11, show (4 : Int32) * nI t = nI (4 * t) from pk_mul 4 t, nI_add, nI_clamp (by omega), nI_1]
          refine ⟨vp_in_nI hm4 (by decide), fun _ => ⟨vp_in_nI (by omega) (by decide), ?_⟩, fun z => absurd (Int32.le_refl _) z⟩
          refine ih (i + 1) _ (by omega) (fun c hc => by rw [px_u_ne _ _ _ (by decide)]; exact h16 c hc) (fun u hu => ?_) (f1.tr (re_fr_17 _ _ (by omega)))
          rw [px_ua]
          by_cases hui : u = i
          · rw [if_pos ⟨rfl, by omega⟩, hx7, hui]
          · rw [if_neg (fun z => hui (by have := z.2; omega))]; exact h17 u (by omega)
        | succ r2 ih2 =>
          intro j x7 hj hx7
          refine e_Mo_putRow_92 ?_
          rw [g13, nI_clamp (n := m) (by omega), g11, px_sarN (by omega) (by omega), nI_and1 (by have := Nat.div_le_self (dm_n l) (2 ^ j); omega), nI_1, nI_1]
          have e1 : nI (dm_n l / 2 ^ j % 2) = (1 : Int32) ↔ dm_n l / 2 ^ j % 2 = 1 := nI_eq (b := 1) (by omega) (by decide)
          rw [e1]
          refine ⟨vp_in_nI hm4 (by decide), fun z => absurd z (nI_ge (by omega) (by omega)), fun _ => ⟨fun c => ?_, fun c => ?_⟩⟩
          · refine k_Mo_word hr1.2.2.2.1 (by omega) (by omega) hCb (by omega) (k_Mo_basePower hr1.1 (by omega) he (k_Mo_times ?_))
            refine ih2 (j + 1) _ (by omega) ?_
            rw [hx7, gE_xor, sp_wg, if_pos (by omega), BitVec.xor_assoc]
          · refine ih2 (j + 1) _ (by omega) ?_
            rw [hx7, sp_wg, if_neg (by omega), BitVec.xor_zero]
      refine t92 n 0 y6 (by omega) ?_
      rw [h6]
      show _ = gE (rp_v V a i ^^^ 0#16)
      rw [BitVec.xor_zero]
  have t3 : ∀ (r c : Nat) (S1 : px_S), r + c = l.length → (∀ b, b < c → S1 16 (12 * t + b) = gE (gf_b (l.getD b 0) e)) → re_fr S S1 t → px_w G px_Zr (d + 3) m_Mo_putRow 3 [.ref 0, .int (nI t), .int (nI e), .int (nI l.length), .int (nI (dm_n l)), .int (nI c), .null, .null, .null] [] S1 (px_vq Q) := by
    intro r
    induction r with
    | zero =>
      intro c S1 hc h16 f1
      have : c = l.length := by omega
      subst this
      exact e_Mo_putRow_3 ⟨fun _ => t45 4 0 S1 (by omega) h16 (fun u hu => by omega) f1, fun z => absurd (Int32.le_refl _) z⟩
    | succ r ih =>
      intro c S1 hc h16 f1
      have hr1 := hr.of f1.2
      refine e_Mo_putRow_3 ⟨fun z => absurd z (nI_ge (by omega) (by omega)), fun _ => ⟨vp_in_nI (by omega) (by decide), ?_⟩⟩
      rw [nI_clamp (by omega), hr1.2.2.2.2.2 c (by omega), show (12 : Int32) * nI t = nI (12 * t) from pk_mul 12 t, nI_add, nI_1]
      refine k_Mo_basePower hr1.1 (hl12 _ (nl_mem (by omega))) he ⟨vp_in_nI (by omega) (by decide), ?_⟩
      rw [nI_clamp (by omega)]
      refine ih (c + 1) _ (by omega) (fun b hb => ?_) (f1.tr (re_fr_16 _ _ (by omega)))
      rw [px_ua]
      by_cases hbc : b = c
      · rw [if_pos ⟨rfl, by omega⟩, hbc]
      · rw [if_neg (fun z => hbc (by have := z.2; omega))]; exact h16 b (by omega)
  exact f_Mo_putRow (t3 l.length 0 S (by omega) (fun b hb => by omega) (re_fr.rf S t))
end
