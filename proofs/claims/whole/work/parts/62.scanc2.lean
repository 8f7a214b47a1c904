/-! The catalog: the main packet, and what is counted -/
theorem sp_n_b {t : Nat → Nat} (f : Nat) (h : ∀ u, u < f → t u ≤ 255) : sp_n t f ≤ 33 * f := by
  induction f with
  | zero => exact Nat.le_refl _
  | succ f ih =>
    have h1 := h f (by omega)
    have h2 := ih (fun u hu => h u (by omega))
    show sp_n t f + (t f + 7) / 8 ≤ _
    omega
theorem pk_ok_lt {V : List Int32} {a : Nat} (h : pk_ok V a) (hl : V.length ≤ 694) : a + 26 ≤ 694 := by
  have := h.2.2.2.1
  omega
def sm_fr (S S' : px_S) : Prop := ∀ i, i < 18 ∨ 21 < i → S' i = S i
section
variable {G : px_G} {d : Nat} {S : px_S} {V : List Int32}
theorem k_Catalog_isMain {Q : Int32 → px_S → Prop} {a : Nat} (hw : rw_at S 10 V) (hl : V.length ≤ 694) (hb : ls_by V) (ha : a < 2 ^ 29) (hk : V.getD (a + 3) 0 = 77) (h1 : mn_ok V a → ∀ S', sm_fr S S' → Q 1 S') (h0 : ¬ mn_ok V a → ∀ S', sm_fr S S' → Q 0 S') : px_I G px_Zc (d + 4) m_Catalog_isMain [.ref 24, .int (nI a)] S Q := by
  have rf : sm_fr S S := fun _ _ => rfl
  have hbl := pk_bl_lt V a
  have hm : mn_m V a < 256 := sp_bt_lt _ _
  refine f_Catalog_isMain (k_Packets_body (k_Packets_bodySize hw hl hb (by omega) ?_))
  rw [nI_1]
  refine k_Row_get rw_10 hw hl (by omega) ?_
  rw [show a + 26 + 1 = a + 27 by omega, sp_bt_eq hb (a + 27)]
  refine ⟨fun c => px_iq_i (h0 (fun z => ?_) S rf), fun c1 => ⟨fun c => px_iq_i (h0 (fun z => ?_) S rf), fun c2 => ⟨fun c => px_iq_i (h0 (fun z => ?_) S rf), fun c3 => ?_⟩⟩⟩
  · have := (nI_ltI (b := 1) (by show mn_m V a < _; omega) (by decide)).mp c
    have := z.2.1.1
    unfold mn_m at this
    omega
  · have := (nI_ltI (a := 3) (by decide) (by show mn_m V a < _; omega)).mp c
    have := z.2.1.2
    unfold mn_m at this
    omega
  · apply c
    rw [z.2.2.1]
    exact (nI_add 2 _).symm
  have c1' : 1 ≤ mn_m V a := by
    apply Nat.le_of_not_lt
    intro z
    exact c1 ((nI_ltI (b := 1) (by show mn_m V a < _; omega) (by decide)).mpr z)
  have c2' : mn_m V a ≤ 3 := by
    apply Nat.le_of_not_lt
    intro z
    exact c2 ((nI_ltI (a := 3) (by decide) (by show mn_m V a < _; omega)).mpr z)
  have c3' : pk_bl V a = 2 + mn_m V a := by
    have c3 : nI (pk_bl V a) = 2 + nI (mn_m V a) := c3
    rw [show (2 : Int32) + nI (mn_m V a) = nI (2 + mn_m V a) from nI_add 2 _] at c3
    exact (nI_eq (by omega) (by omega)).mp c3
  refine k_Row_get rw_10 hw hl (by omega) ⟨fun c4 => ?_, fun c => px_iq_i (h0 (fun z => c z.2.2.2.1) S rf)⟩
  have key : ∀ (r f : Nat), r + f = mn_m V a → (∀ u, u < f → mn_t V a u ≤ 40) → px_w G px_Zc (d + 4) m_Catalog_isMain 71 [.ref 24, .int (nI a), .int (nI (a + 26)), .int (nI (pk_bl V a)), .int (nI (mn_m V a)), .int (nI (sp_n (mn_t V a) f)), .int (nI f), .null] [] S (px_iq Q) := by
    intro r
    induction r with
    | zero =>
      intro f hf hu
      have : f = mn_m V a := by omega
      subst this
      have hsn := sp_n_b (t := mn_t V a) (mn_m V a) (fun u hu' => by have := hu u hu'; omega)
      refine e_Catalog_isMain_71 ⟨fun _ => ⟨fun c5 => ?_, fun c5 => px_iq_i (h0 (fun z => c5 ((nI_leI (b := 12) (by omega) (by decide)).mpr z.2.2.2.2.2.1)) S rf)⟩, fun z => absurd (Int32.le_refl _) z⟩
      have c5' := (nI_leI (b := 12) (by omega) (by decide)).mp c5
      refine k_Sum_of rw_10 hw hl hb (by decide) (by decide) (by decide) (by omega) (by omega) (fun S1 w1 f1 => ?_)
      rw [show nI a + 22 = nI (a + 22) from nI_add a 22]
      refine k_Sum_standsIn (c := 4) rw_10 (hw.of (f1 10 (by omega)) (f1 11 (by omega))) hl w1 (by omega) (by omega) (fun c6 => ⟨Or.inr rfl, px_iq_i (h1 ⟨hk, ⟨c1', c2'⟩, c3', c4, hu, c5', c6⟩ S1 f1)⟩) (fun c6 => ⟨Or.inl rfl, px_iq_i (h0 (fun z => c6 z.2.2.2.2.2.2) S1 f1)⟩)
    | succ r ih =>
      intro f hf hu
      refine e_Catalog_isMain_71 ⟨fun z => absurd z (nI_ge (by omega) (by omega)), fun _ => ?_⟩
      rw [show nI (a + 26) + 2 = nI (a + 26 + 2) from nI_add _ 2, nI_add, nI_1]
      refine k_Row_get rw_10 hw hl (by omega) ?_
      rw [show a + 26 + 2 + f = a + 28 + f by omega, sp_bt_eq hb]
      have ht : mn_t V a f < 256 := sp_bt_lt _ _
      refine ⟨fun c => ?_, fun c => px_iq_i (h0 (fun z => c ((nI_leI (b := 40) (by show mn_t V a f < _; omega) (by decide)).mpr (z.2.2.2.2.1 f (by omega)))) S rf)⟩
      have c' : mn_t V a f ≤ 40 := (nI_leI (b := 40) (by omega) (by decide)).mp c
      refine k_slicesOf (by show mn_t V a f < _; omega) ?_
      rw [nI_add]
      refine ih (f + 1) (by omega) (fun u hu' => ?_)
      by_cases huf : u = f
      · subst huf; exact c'
      · exact hu u (by omega)
  exact key (mn_m V a) 0 (by omega) (fun u hu => by omega)
/-- the packets found -/
def fd_at (S : px_S) (l : List Nat) : Prop := S 24 7 = nI l.length ∧ ∀ k, k < l.length → S 25 k = nI (l.getD k 0)
theorem nl_drop {l : List Nat} {k : Nat} (h : k < l.length) : l.drop k = l.getD k 0 :: l.drop (k + 1) := by
  rw [List.drop_eq_getElem_cons h, List.getD_eq_getElem?_getD, List.getElem?_eq_getElem h]
  rfl
theorem k_Catalog_findMain {Q : px_S → Prop} {l : List Nat} (hw : rw_at S 10 V) (hl : V.length ≤ 694) (hb : ls_by V) (hlen : l.length ≤ 26) (hp : ∀ a ∈ l, pk_ok V a) (hfd : fd_at S l) (hS : S 24 8 = -1) (hQ : ∀ S', S' 24 8 = nt_v (pk_mn V l) 0 → (∀ j, j ≠ 8 → S' 24 j = S 24 j) → (∀ i, i < 18 ∨ (21 < i ∧ i ≠ 24) → S' i = S i) → Q S') : px_V G px_Zc (d + 5) m_Catalog_findMain [.ref 24] S Q := by
  refine f_Catalog_findMain ?_
  have key : ∀ (m k : Nat), m + k = l.length → pk_mn V (l.drop k) = pk_mn V l → ∀ S1, (∀ i, i < 18 ∨ 21 < i → S1 i = S i) → px_w G px_Zc (d + 5) m_Catalog_findMain 2 [.ref 24, .int (nI k)] [] S1 (px_vq Q) := by
    intro m
    induction m with
    | zero =>
      intro k hk hd S1 f1
      have : k = l.length := by omega
      subst this
      refine e_Catalog_findMain_2 ⟨fun _ => px_vq_i (hQ S1 ?_ (fun j _ => by rw [f1 24 (by omega)]) (fun i hi => f1 i (by omega))), fun z => absurd (by rw [f1 24 (by omega), hfd.1]; exact Int32.le_refl _) z⟩
      rw [f1 24 (by omega), hS, ← hd, List.drop_length]
      rfl
    | succ m ih =>
      intro k hk hd S1 f1
      have hkl : k < l.length := by omega
      have hmem : l.getD k 0 ∈ l := by
        rw [List.getD_eq_getElem?_getD, List.getElem?_eq_getElem hkl]
        exact List.getElem_mem hkl
      have hok := hp _ hmem
      have hlt := pk_ok_lt hok hl
      have e24 : S1 24 = S 24 := f1 24 (by omega)
      have e25 : S1 25 k = nI (l.getD k 0) := by rw [f1 25 (by omega)]; exact hfd.2 k hkl
      rw [nl_drop hkl] at hd
      refine e_Catalog_findMain_2 ⟨fun z => absurd z (by rw [e24, hfd.1]; exact nI_ge hkl (by omega)), fun _ => ⟨fun z => absurd (by rw [e24]; exact hS) z, fun _ => ⟨vp_in_nI (by omega) (by decide), ?_⟩⟩⟩
      rw [nI_clamp (by omega), e25, nI_1]
      have hw1 := hw.of (f1 10 (by omega)) (f1 11 (by omega))
      refine k_Packets_kind hw1 hl (by omega) ⟨fun c => ?_, fun c => ⟨vp_in_nI (by omega) (by decide), ?_⟩⟩
      · refine ih (k + 1) (by omega) ?_ S1 f1
        rw [pk_mn, sq_lf (fun z => c z.1)] at hd
        exact hd
      · rw [e25]
        refine k_Catalog_isMain hw1 hl hb (by omega) c (fun c2 S2 f2 => ⟨fun z => absurd z (by decide), fun _ => ⟨vp_in_nI (by omega) (by decide), ?_⟩⟩) (fun c2 S2 f2 => ⟨fun _ => ?_, fun z => absurd rfl z⟩)
        · rw [pk_mn, sq_lt c2] at hd
          have e25' : S2 25 k = nI (l.getD k 0) := by rw [f2 25 (by omega)]; exact e25
          rw [e25']
          have fin : Q (px_u S2 24 8 (nI (l.getD k 0))) := by
            refine hQ _ ?_ (fun j hj => ?_) (fun i hi => ?_)
            · rw [px_us, ← hd]
              rfl
            · rw [px_ua, if_neg (fun z => hj z.2), f2 24 (by omega), f1 24 (by omega)]
            · rw [px_u_ne _ _ _ (by omega), f2 i (by omega), f1 i (by omega)]
          refine e_Catalog_findMain_2 ⟨fun _ => px_vq_i fin, fun _ => ⟨fun _ => px_vq_i fin, fun z => absurd z ?_⟩⟩
          rw [px_us]
          exact fun z => absurd (show nI (l.getD k 0) < 0 by rw [z]; decide) (nI_pos (by omega))
        · refine ih (k + 1) (by omega) ?_ S2 (fun i hi => (f2 i hi).trans (f1 i hi))
          rw [pk_mn, sq_lf c2] at hd
          exact hd
  exact key l.length 0 (by omega) (by rw [List.drop_zero]) S (fun _ _ => rfl)
end
