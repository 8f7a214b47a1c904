/-! The catalog -/
/-- what is noted, as the class keeps it -/
def nt_at (S : px_S) (N : Nat → Option Nat) : Prop := (∀ f, f < 3 → S 26 f = nt_v (N f) 26) ∧ (∀ f, f < 3 → S 27 f = nt_v (N (3 + f)) 26) ∧ (∀ e, e < 256 → S 28 e = nt_v (N (6 + e)) 26) ∧ S 24 9 = nI (1 + nt_c N 0 262) ∧ S 24 10 = nI (nt_c N 6 256)
/-- what the catalog may change -/
def ct_fr (S S' : px_S) : Prop := ∀ i, i < 18 ∨ (21 < i ∧ i < 24) ∨ 28 < i → S' i = S i
theorem ct_fr.tr {S S1 S2 : px_S} (h : ct_fr S S1) (h2 : ct_fr S1 S2) : ct_fr S S2 := fun i hi => (h2 i hi).trans (h i hi)
section
variable {G : px_G} {d : Nat} {S : px_S} {V : List Int32}
theorem k_Packets_haveSameSet {Q : Int32 → px_S → Prop} {a M : Nat} (hw : rw_at S 10 V) (hl : V.length ≤ 694) (ha : a < 2 ^ 29) (hM : M < 2 ^ 29) (h1 : nt_ss V M a → Q 1 S) (h0 : ¬ nt_ss V M a → Q 0 S) : px_I G px_Zc (d + 1) m_Packets_haveSameSet [.ref 22, .int (nI a), .int (nI M)] S Q := by
  refine f_Packets_haveSameSet ?_
  have key : ∀ (m i : Nat), m + i = 4 → (∀ u, u < i → V.getD (a + 22 + u) 0 = V.getD (M + 22 + u) 0) → px_w G px_Zc (d + 1) m_Packets_haveSameSet 2 [.ref 22, .int (nI a), .int (nI M), .int (nI i)] [] S (px_iq Q) := by
    intro m
    induction m with
    | zero =>
      intro i hi hu
      have : i = 4 := by omega
      subst this
      exact e_Packets_haveSameSet_2 ⟨fun h => px_iq_i (h1 hu), fun h => absurd (Int32.le_refl _) h⟩
    | succ m ih =>
      intro i hi hu
      refine e_Packets_haveSameSet_2 ⟨fun h => absurd h (nI_ge (b := 4) (by omega) (by decide)), fun h => ?_⟩
      rw [show nI a + 22 = nI (a + 22) from nI_add a 22, show nI M + 22 = nI (M + 22) from nI_add M 22, nI_add, nI_add, nI_1]
      refine k_Row_get rw_10 hw hl (by omega) (k_Row_get rw_10 hw hl (by omega) ⟨fun h2 => ?_, fun h2 => px_iq_i (h0 (fun z => h2 (z i (by omega))))⟩)
      refine ih (i + 1) (by omega) (fun u huu => ?_)
      by_cases hui : u = i
      · subst hui; exact h2
      · exact hu u (by omega)
  exact key 4 0 (by omega) (fun u hu => by omega)
theorem k_Catalog_fileCount {Q : Int32 → px_S → Prop} {M : Nat} (hw : rw_at S 10 V) (hl : V.length ≤ 694) (hb : ls_by V) (hM : M < 2 ^ 29) (hm : S 24 8 = nI M) (hQ : Q (nI (mn_m V M)) S) : px_I G px_Zc (d + 1) m_Catalog_fileCount [.ref 24] S Q := by
  refine f_Catalog_fileCount ?_
  rw [hm]
  have hne : ¬ nI M = -1 := fun z => absurd (show nI M < 0 by rw [z]; decide) (nI_pos (by omega))
  refine ⟨fun _ => k_Packets_body ?_, fun z => absurd z hne⟩
  rw [nI_1]
  refine k_Row_get rw_10 hw hl (by omega) (px_iq_i ?_)
  rw [show M + 26 + 1 = M + 27 by omega, sp_bt_eq hb]
  exact hQ
theorem k_Catalog_toldSize {Q : Int32 → px_S → Prop} {M f : Nat} (hw : rw_at S 10 V) (hl : V.length ≤ 694) (hb : ls_by V) (hM : M < 2 ^ 29) (hm : S 24 8 = nI M) (hf : f < 256) (hQ : Q (nI (mn_t V M f)) S) : px_I G px_Zc (d + 1) m_Catalog_toldSize [.ref 24, .int (nI f)] S Q := by
  refine f_Catalog_toldSize ?_
  rw [hm]
  refine k_Packets_body ?_
  rw [show nI (M + 26) + 2 = nI (M + 26 + 2) from nI_add _ 2, nI_add]
  refine k_Row_get rw_10 hw hl (by omega) (px_iq_i ?_)
  rw [show M + 26 + 2 + f = M + 28 + f by omega, sp_bt_eq hb]
  exact hQ
theorem k_Catalog_keepFirst {Q : Int32 → px_S → Prop} {c n x b : Nat} {o : Option Nat} (hZ : px_Zc[c]? = some (.inl n)) (hn : n < 2 ^ 31) (hx : x < n) (ho : ∀ a, o = some a → a + 26 < 2 ^ 31) (hS : S c x = nt_v o 26) (h1 : o = none → ∀ S', S' = px_u (px_u S c x (nI b)) 24 9 ((px_u S c x (nI b)) 24 9 + 1) → Q 1 S') (h0 : ¬ o = none → Q 0 S) : px_I G px_Zc d m_Catalog_keepFirst [.ref 24, .ref c, .int (nI x), .int (nI b)] S Q := by
  refine f_Catalog_keepFirst hZ ⟨fun h => absurd h (nI_pos (by omega)), fun _ => ⟨fun h => absurd h (nI_ge hx hn), fun _ => ⟨vp_in_nI hx hn, ?_⟩⟩⟩
  rw [nI_clamp (by omega), hS]
  refine ⟨fun h => ⟨vp_in_nI hx hn, px_iq_i (h1 ((nt_v_iff ho).mp h) _ rfl)⟩, fun h => px_iq_i (h0 (fun z => h ((nt_v_iff ho).mpr z)))⟩
theorem k_Catalog_forget {Q : px_S → Prop} (hQ : ∀ S', S' 24 7 = 0 → S' 24 8 = -1 → S' 24 10 = 0 → (∀ f, f < 3 → S' 26 f = -1 ∧ S' 27 f = -1) → (∀ e, e < 256 → S' 28 e = -1) → ct_fr S S' → Q S') : px_V G px_Zc d m_Catalog_forget [.ref 24] S Q := by
  refine f_Catalog_forget ?_
  have key2 : ∀ (m e : Nat), m + e = 256 → ∀ S1 : px_S, S1 24 7 = 0 → S1 24 8 = -1 → S1 24 10 = 0 → (∀ f, f < 3 → S1 26 f = -1 ∧ S1 27 f = -1) → (∀ u, u < e → S1 28 u = -1) → ct_fr S S1 → px_w G px_Zc d m_Catalog_forget 49 [.ref 24, .int (nI e)] [] S1 (px_vq Q) := by
    intro m
    induction m with
    | zero =>
      intro e he S1 a b c g h f
      have : e = 256 := by omega
      subst this
      exact e_Catalog_forget_49 ⟨fun _ => px_vq_i (hQ S1 a b c g h f), fun z => absurd (Int32.le_refl _) z⟩
    | succ m ih =>
      intro e he S1 a b c g h f
      refine e_Catalog_forget_49 ⟨fun z => absurd z (nI_ge (b := 256) (by omega) (by decide)), fun _ => ⟨vp_in_nI (by omega) (by decide), ?_⟩⟩
      rw [nI_1, nI_clamp (by omega)]
      refine ih (e + 1) (by omega) _ (by rw [px_u_ne _ _ _ (by decide)]; exact a) (by rw [px_u_ne _ _ _ (by decide)]; exact b) (by rw [px_u_ne _ _ _ (by decide)]; exact c) (fun f hf => by rw [px_u_ne _ _ _ (by decide), px_u_ne _ _ _ (by decide)]; exact g f hf) (fun u hu => ?_) (fun i hi => by rw [px_u_ne _ _ _ (by omega)]; exact f i hi)
      rw [px_ua]
      by_cases hue : u = e
      · rw [if_pos ⟨rfl, hue⟩]
      · rw [if_neg (fun z => hue z.2)]; exact h u (by omega)
  have key1 : ∀ (m e : Nat), m + e = 3 → ∀ S1 : px_S, S1 24 7 = 0 → S1 24 8 = -1 → S1 24 10 = 0 → (∀ f, f < e → S1 26 f = -1 ∧ S1 27 f = -1) → ct_fr S S1 → px_w G px_Zc d m_Catalog_forget 22 [.ref 24, .int (nI e)] [] S1 (px_vq Q) := by
    intro m
    induction m with
    | zero =>
      intro e he S1 a b c g f
      have : e = 3 := by omega
      subst this
      exact e_Catalog_forget_22 ⟨fun _ => key2 256 0 (by omega) S1 a b c g (fun u hu => by omega) f, fun z => absurd (Int32.le_refl _) z⟩
    | succ m ih =>
      intro e he S1 a b c g f
      refine e_Catalog_forget_22 ⟨fun z => absurd z (nI_ge (b := 3) (by omega) (by decide)), fun _ => ⟨vp_in_nI (by omega) (by decide), vp_in_nI (by omega) (by decide), ?_⟩⟩
      rw [nI_1, nI_clamp (by omega)]
      refine ih (e + 1) (by omega) _ (by rw [px_u_ne _ _ _ (by decide), px_u_ne _ _ _ (by decide)]; exact a) (by rw [px_u_ne _ _ _ (by decide), px_u_ne _ _ _ (by decide)]; exact b) (by rw [px_u_ne _ _ _ (by decide), px_u_ne _ _ _ (by decide)]; exact c) (fun u hu => ?_) (fun i hi => by rw [px_u_ne _ _ _ (by omega), px_u_ne _ _ _ (by omega)]; exact f i hi)
      rw [px_u_ne _ _ _ (show (26 : Nat) ≠ 27 by decide), px_ua, px_ua, px_u_ne _ _ _ (show (27 : Nat) ≠ 26 by decide)]
      by_cases hue : u = e
      · rw [if_pos ⟨rfl, hue⟩, if_pos ⟨rfl, hue⟩]; exact ⟨rfl, rfl⟩
      · rw [if_neg (fun z => hue z.2), if_neg (fun z => hue z.2)]; exact g u (by omega)
  refine key1 3 0 (by omega) _ ?_ ?_ ?_ (fun u hu => by omega) (fun i hi => ?_)
  · simp [px_ua]
  · simp [px_ua]
  · simp [px_ua]
  · rw [px_u_ne _ _ _ (by omega), px_u_ne _ _ _ (by omega), px_u_ne _ _ _ (by omega), px_u_ne _ _ _ (by omega)]
end
