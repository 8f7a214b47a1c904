/-! Which slices are whole -/
def wh_at (V C : List Int32) (p j : Nat) : Prop := (∀ i, i < 4 → V.getD (p + i) 0 = px_ushr (cr (ls_sl C (8 * j) 8)) (nI (8 * i)) &&& 255) ∧ ∀ i, i < 16 → V.getD (p + 4 + i) 0 = md_b (md_sum (ls_sl C (8 * j) 8)) i
def wh (V : List Int32) (N : Nat → Option Nat) (C : List Int32) (t : Nat → Nat) (f k : Nat) : Prop := ∃ a, N (3 + f) = some a ∧ wh_at V C (a + 27 + 20 * k) (sp_n t f + k)
noncomputable def dm_f (V : List Int32) (N : Nat → Option Nat) (C : List Int32) (t : Nat → Nat) (f : Nat) : Nat → List Nat
  | 0 => []
  | k + 1 => dm_f V N C t f k ++ sq_l (wh V N C t f k) [] [sp_n t f + k]
noncomputable def dm_l (V : List Int32) (N : Nat → Option Nat) (C : List Int32) (t : Nat → Nat) : Nat → List Nat
  | 0 => []
  | f + 1 => dm_l V N C t f ++ dm_f V N C t f ((t f + 7) / 8)
def dm_i (l : List Nat) : Int32 := l.foldl (fun x j => x ||| px_shl 1 (nI j)) 0
theorem dm_i_app (l : List Nat) (j : Nat) : dm_i (l ++ [j]) = dm_i l ||| px_shl 1 (nI j) := by simp [dm_i]
theorem dm_f_len (V : List Int32) (N : Nat → Option Nat) (C : List Int32) (t : Nat → Nat) (f k : Nat) : (dm_f V N C t f k).length ≤ k := by
  induction k with
  | zero => exact Nat.le_refl _
  | succ k ih =>
    rw [dm_f, List.length_append]
    by_cases h : wh V N C t f k
    · rw [sq_lt h]; simp; omega
    · rw [sq_lf h]; simp; omega
theorem dm_l_len (V : List Int32) (N : Nat → Option Nat) (C : List Int32) (t : Nat → Nat) (m : Nat) : (dm_l V N C t m).length ≤ sp_n t m := by
  induction m with
  | zero => exact Nat.le_refl _
  | succ m ih =>
    rw [dm_l, List.length_append]
    have := dm_f_len V N C t m ((t m + 7) / 8)
    show _ ≤ sp_n t m + (t m + 7) / 8
    omega
theorem dm_f_in {V : List Int32} {N : Nat → Option Nat} {C : List Int32} {t : Nat → Nat} {f k j : Nat} (h : j ∈ dm_f V N C t f k) : sp_n t f ≤ j ∧ j < sp_n t f + k := by
  induction k with
  | zero => cases h
  | succ k ih =>
    rw [dm_f, List.mem_append] at h
    rcases h with h | h
    · have := ih h; omega
    · by_cases hw : wh V N C t f k
      · rw [sq_lt hw] at h; cases h
      · rw [sq_lf hw] at h
        rw [List.mem_singleton] at h
        omega
theorem dm_l_in {V : List Int32} {N : Nat → Option Nat} {C : List Int32} {t : Nat → Nat} {m j : Nat} (h : j ∈ dm_l V N C t m) : j < sp_n t m := by
  induction m with
  | zero => cases h
  | succ m ih =>
    rw [dm_l, List.mem_append] at h
    show j < sp_n t m + (t m + 7) / 8
    rcases h with h | h
    · have := ih h; omega
    · have := dm_f_in h; omega
theorem dm_f_sorted (V : List Int32) (N : Nat → Option Nat) (C : List Int32) (t : Nat → Nat) (f k : Nat) : (dm_f V N C t f k).Pairwise (· < ·) := by
  induction k with
  | zero => exact List.Pairwise.nil
  | succ k ih =>
    rw [dm_f, List.pairwise_append]
    refine ⟨ih, ?_, fun a ha b hb => ?_⟩
    · by_cases h : wh V N C t f k
      · rw [sq_lt h]; exact List.Pairwise.nil
      · rw [sq_lf h]; exact List.pairwise_singleton _ _
    · have := dm_f_in ha
      by_cases h : wh V N C t f k
      · rw [sq_lt h] at hb; cases hb
      · rw [sq_lf h, List.mem_singleton] at hb
        omega
theorem dm_l_sorted (V : List Int32) (N : Nat → Option Nat) (C : List Int32) (t : Nat → Nat) (m : Nat) : (dm_l V N C t m).Pairwise (· < ·) := by
  induction m with
  | zero => exact List.Pairwise.nil
  | succ m ih =>
    rw [dm_l, List.pairwise_append]
    refine ⟨ih, dm_f_sorted _ _ _ _ _ _, fun a ha b hb => ?_⟩
    have := dm_l_in ha
    have := dm_f_in hb
    omega
/-- what verify answers where there is a main packet at M -/
noncomputable def sq_dm (F : Nat → List Int32) (V : List Int32) (M : Nat) : List Nat := dm_l V (sc_N V M) (sp_c F (mn_t V M) (mn_m V M)) (mn_t V M) (mn_m V M)
noncomputable def sq_verify (F : Nat → List Int32) (V : List Int32) : Int32 := match sc_mn V with
  | none => -3
  | some M => dm_i (sq_dm F V M)
theorem nt_key_f {V : List Int32} {M a f : Nat} (hM : mn_ok V M) (hf : f < 3) (h : nt_key V M a = some f) : nt_f V M a ∧ sp_bt V (a + 26) = f := by
  have := hM.2.1.2
  unfold nt_key at h
  by_cases hs : nt_ss V M a
  · rw [sq_lt hs] at h
    by_cases h1 : nt_f V M a
    · rw [sq_lt h1] at h
      exact ⟨h1, Option.some.inj h⟩
    · rw [sq_lf h1] at h
      by_cases h2 : nt_k V M a
      · rw [sq_lt h2] at h
        have := Option.some.inj h
        omega
      · rw [sq_lf h2] at h
        by_cases h3 : nt_r V a
        · rw [sq_lt h3] at h
          have := Option.some.inj h
          omega
        · rw [sq_lf h3] at h
          cases h
  · rw [sq_lf hs] at h
    cases h
theorem nt_key_k {V : List Int32} {M a f : Nat} (hM : mn_ok V M) (hf : f < 3) (h : nt_key V M a = some (3 + f)) : nt_k V M a ∧ sp_bt V (a + 26) = f := by
  have := hM.2.1.2
  unfold nt_key at h
  by_cases hs : nt_ss V M a
  · rw [sq_lt hs] at h
    by_cases h1 : nt_f V M a
    · rw [sq_lt h1] at h
      have := Option.some.inj h
      have := h1.2.2.1
      omega
    · rw [sq_lf h1] at h
      by_cases h2 : nt_k V M a
      · rw [sq_lt h2] at h
        have := Option.some.inj h
        exact ⟨h2, by omega⟩
      · rw [sq_lf h2] at h
        by_cases h3 : nt_r V a
        · rw [sq_lt h3] at h
          have := Option.some.inj h
          omega
        · rw [sq_lf h3] at h
          cases h
  · rw [sq_lf hs] at h
    cases h
theorem nt_key_r {V : List Int32} {M a e : Nat} (hM : mn_ok V M) (h : nt_key V M a = some (6 + e)) : nt_r V a ∧ sp_bt V (a + 26) = e := by
  have := hM.2.1.2
  unfold nt_key at h
  by_cases hs : nt_ss V M a
  · rw [sq_lt hs] at h
    by_cases h1 : nt_f V M a
    · rw [sq_lt h1] at h
      have := Option.some.inj h
      have := h1.2.2.1
      omega
    · rw [sq_lf h1] at h
      by_cases h2 : nt_k V M a
      · rw [sq_lt h2] at h
        have := Option.some.inj h
        have := h2.2.1
        omega
      · rw [sq_lf h2] at h
        by_cases h3 : nt_r V a
        · rw [sq_lt h3] at h
          have := Option.some.inj h
          exact ⟨h3, by omega⟩
        · rw [sq_lf h3] at h
          cases h
  · rw [sq_lf hs] at h
    cases h
/-- the damaged slices, as the class keeps them -/
def dg_at (S : px_S) (l : List Nat) : Prop := S 29 5 = nI l.length ∧ S 29 6 = dm_i l ∧ ∀ u, u < l.length → S 45 u = nI (l.getD u 0)
section
variable {G : px_G} {d : Nat} {S : px_S} {V T : List Int32} {F : Nat → List Int32} {N : Nat → Option Nat}
theorem k_Mender_isWhole {Q : Int32 → px_S → Prop} {C : List Int32} {j : Nat} {o : Option Nat} (hw : rw_at S 10 V) (hl : V.length ≤ 694) (hc : rw_at S 13 C) (hcl : C.length ≤ 96) (hcb : ls_by C) (hj : j < 12) (ho : ∀ p, o = some p → p < 2 ^ 29)
    (h1 : ∀ p, o = some p → wh_at V C p j → ∀ S', sm_fr S S' → Q 1 S') (h0 : (¬ ∃ p, o = some p ∧ wh_at V C p j) → ∀ S', sm_fr S S' → Q 0 S') : px_I G px_Zc (d + 4) m_Mender_isWhole [.ref 29, .int (nI (8 * j)), .int (nt_v o 0)] S Q := by
  have rf : sm_fr S S := fun _ _ => rfl
  refine f_Mender_isWhole ?_
  rw [nt_v_iff (fun a h => by have := ho a h; omega)]
  cases o with
  | none => exact ⟨fun z => absurd rfl z, fun _ => px_iq_i (h0 (fun z => by obtain ⟨p, hp, _⟩ := z; cases hp) S rf)⟩
  | some p =>
    have hp := ho p rfl
    refine ⟨fun _ => k_Slices_row (k_Check_of (c := 8) rw_13 hc hcl (by omega) ?_), fun z => by cases z⟩
    have key : ∀ (m i : Nat), m + i = 4 → (∀ u, u < i → V.getD (p + u) 0 = px_ushr (cr (ls_sl C (8 * j) 8)) (nI (8 * u)) &&& 255) → px_w G px_Zc (d + 4) m_Mender_isWhole 24 [.ref 29, .int (nI (8 * j)), .int (nI p), .int (cr (ls_sl C (8 * j) 8)), .int (nI i)] [] S (px_iq Q) := by
      intro m
      induction m with
      | zero =>
        intro i hi hu
        have : i = 4 := by omega
        subst this
        refine e_Mender_isWhole_24 ⟨fun _ => ?_, fun z => absurd (Int32.le_refl _) z⟩
        refine k_Slices_row (k_Sum_of (c := 8) rw_13 hc hcl hcb (by decide) (by decide) (by decide) (by omega) (by omega) (fun S1 w1 f1 => f_Catalog_row (px_rq_i ?_)))
        rw [show nI p + 4 = nI (p + 4) from nI_add p 4]
        refine k_Sum_standsIn (c := 16) rw_10 (hw.of (f1 10 (by omega)) (f1 11 (by omega))) hl w1 (by omega) (by omega) (fun c => ⟨Or.inr rfl, px_iq_i (h1 p rfl ⟨hu, c⟩ S1 f1)⟩) (fun c => ⟨Or.inl rfl, px_iq_i (h0 (fun z => ?_) S1 f1)⟩)
        obtain ⟨q, hq, z⟩ := z
        cases hq
        exact c z.2
      | succ m ih =>
        intro i hi hu
        refine e_Mender_isWhole_24 ⟨fun z => absurd z (nI_ge (b := 4) (by omega) (by decide)), fun _ => f_Catalog_row (px_rq_i ?_)⟩
        rw [nI_add, show (8 : Int32) * nI i = nI (8 * i) from pk_mul 8 i, nI_1]
        refine k_Row_get rw_10 hw hl (by omega) ⟨fun c => ih (i + 1) (by omega) (fun u huu => ?_), fun c => px_iq_i (h0 (fun z => ?_) S rf)⟩
        · by_cases hui : u = i
          · subst hui; exact c
          · exact hu u (by omega)
        · obtain ⟨q, hq, z⟩ := z
          cases hq
          exact c (z.1 i (by omega))
    exact key 4 0 (by omega) (fun u hu => by omega)
theorem k_Mender_noteDamaged {Q : px_S → Prop} {l : List Nat} {j : Nat} (hd : dg_at S l) (hl : l.length < 12) (hQ : ∀ S', dg_at S' (l ++ [j]) → (∀ i, i ≠ 29 → i ≠ 45 → S' i = S i) → Q S') : px_V G px_Zc d m_Mender_noteDamaged [.ref 29, .int (nI j)] S Q := by
  refine f_Mender_noteDamaged ?_
  rw [hd.1]
  refine ⟨fun z => absurd z (nI_ge (b := 12) hl (by decide)), fun _ => ⟨vp_in_nI hl (by decide), fun S1 hS1 => px_vq_i (hQ _ ⟨?_, ?_, fun u hu => ?_⟩ (fun i h1 h2 => ?_))⟩⟩
  · rw [px_ua, if_neg (by simp), hS1, px_us, px_u_ne _ _ _ (by decide), hd.1, nI_1, List.length_append]; rfl
  · rw [px_us, hS1, px_ua, if_neg (by simp), px_u_ne _ _ _ (by decide), hd.2.1, dm_i_app]
  · rw [px_u_ne _ _ _ (by decide), hS1, px_u_ne _ _ _ (by decide), nI_clamp (by omega), px_ua]
    by_cases hul : u = l.length
    · rw [if_pos ⟨rfl, hul⟩, hul]; simp
    · rw [if_neg (fun z => hul z.2)]
      have hu' : u < l.length := by simp at hu; omega
      rw [hd.2.2 u hu', List.getD_eq_getElem?_getD, List.getD_eq_getElem?_getD, List.getElem?_append_left hu']
  · rw [px_u_ne _ _ _ h1, hS1, px_u_ne _ _ _ h1, px_u_ne _ _ _ h2]
theorem k_Catalog_toldSlice {Q : Int32 → px_S → Prop} {f k : Nat} (hf : f < 3) (hN : nt_at S N) (hb : ∀ a, N (3 + f) = some a → a + 26 < 2 ^ 31) (hQ : Q (nt_v ((N (3 + f)).map (fun a => a + 27 + 20 * k)) 0) S) : px_I G px_Zc (d + 1) m_Catalog_toldSlice [.ref 24, .int (nI f), .int (nI k)] S Q := by
  refine f_Catalog_toldSlice (k_isFileN hf ⟨fun z => absurd z (by decide), fun _ => ⟨vp_in_nI hf (by decide), ?_⟩⟩)
  rw [nI_clamp (by omega), hN.2.1 f hf, nt_v_iff hb]
  cases hn : N (3 + f) with
  | none =>
    rw [hn] at hQ
    exact ⟨fun z => absurd rfl z, fun _ => px_iq_i hQ⟩
  | some a =>
    rw [hn] at hQ
    refine ⟨fun _ => ⟨vp_in_nI hf (by decide), px_iq_i ?_⟩, fun z => by cases z⟩
    show Q (nI (a + 26) + 1 + 20 * nI k) S
    rw [nI_1, show (20 : Int32) * nI k = nI (20 * k) from pk_mul 20 k, nI_add]
    exact hQ
theorem k_Mender_examine {Q : px_S → Prop} {M : Nat} (hC : sv_C S T F V) (ok : sv_ok T F V) (hMk : pk_ok V M) (hMn : mn_ok V M) (hm : S 24 8 = nI M) (hN : nt_at S N) (hg : nt_g V M N)
    (hQ : ∀ S', sl_at S' F (mn_t V M) (mn_m V M) → dg_at S' (dm_l V N (sp_c F (mn_t V M) (mn_m V M)) (mn_t V M) (mn_m V M)) → (∀ i, i < 12 ∨ (21 < i ∧ i < 29) ∨ (29 < i ∧ i < 45) → S' i = S i) → Q S') : px_V G px_Zc (d + 5) m_Mender_examine [.ref 29, .ref 3] S Q := by
  have hl := ok.2.2.1
  have hb := ok.2.2.2
  have hMl := pk_ok_lt hMk hl
  have hm3 := hMn.2.1.2
  have h12 := hMn.2.2.2.2.2.1
  have h40 := hMn.2.2.2.2.1
  have hgb : ∀ k b, N k = some b → b + 26 ≤ 694 := fun k b h => pk_ok_lt (hg k b h).1 hl
  generalize ht : mn_t V M = t at *
  generalize hmm : mn_m V M = m at *
  have tel : ∀ f, mn_t V M f = t f := fun f => by rw [ht]
  generalize hCC : sp_c F t m = C at *
  have hCl : C.length ≤ 96 := by rw [← hCC, sp_c_len]; omega
  have hCb : ls_by C := by rw [← hCC]; exact ls_by_c (fun f hf => (ok.2.1 f (by omega)).2)
  have fr0 : ∀ S1 : px_S, (∀ i, i < 12 ∨ (21 < i ∧ i < 29) ∨ (29 < i ∧ i < 45) → S1 i = S i) → nt_at S1 N := fun S1 f1 => ⟨by rw [f1 26 (by omega)]; exact hN.1, by rw [f1 27 (by omega)]; exact hN.2.1, by rw [f1 28 (by omega)]; exact hN.2.2.1, by rw [f1 24 (by omega)]; exact hN.2.2.2⟩
  -- a file's slices
  have t84 : ∀ (f : Nat), f < m → (∀ S1 : px_S, sl_at S1 F t m → dg_at S1 (dm_l V N C t (f + 1)) → (∀ i, i < 12 ∨ (21 < i ∧ i < 29) ∨ (29 < i ∧ i < 45) → S1 i = S i) → px_w G px_Zc (d + 5) m_Mender_examine 63 [.ref 29, .ref 3, .int (nI m), .int (nI (f + 1)), .null, .null, .null] [] S1 (px_vq Q)) →
      ∀ (r k : Nat) (S1 : px_S), r + k = (t f + 7) / 8 → sl_at S1 F t m → dg_at S1 (dm_l V N C t f ++ dm_f V N C t f k) → (∀ i, i < 12 ∨ (21 < i ∧ i < 29) ∨ (29 < i ∧ i < 45) → S1 i = S i) → px_w G px_Zc (d + 5) m_Mender_examine 84 [.ref 29, .ref 3, .int (nI m), .int (nI f), .int (nI ((t f + 7) / 8)), .int (nI k), .null] [] S1 (px_vq Q) := by
    intro f hf nxt r
    have hnf : sp_n t (f + 1) ≤ sp_n t m := sp_n_le (by omega)
    have hnf1 : sp_n t (f + 1) = sp_n t f + (t f + 7) / 8 := rfl
    have htf := h40 f hf
    induction r with
    | zero =>
      intro k S1 hk sl1 dg1 f1
      have : k = (t f + 7) / 8 := by omega
      subst this
      refine e_Mender_examine_84 ⟨fun _ => ?_, fun z => absurd (Int32.le_refl _) z⟩
      rw [nI_1]
      exact nxt S1 sl1 dg1 f1
    | succ r ih =>
      intro k S1 hk sl1 dg1 f1
      refine e_Mender_examine_84 ⟨fun z => absurd z (nI_ge (by omega) (by omega)), fun _ => ?_⟩
      refine k_Slices_start (by omega) (k_Catalog_toldSlice (N := N) (by omega) (fr0 S1 f1) (fun a h => by have := hgb _ a h; omega) ?_)
      rw [(sl1.2.2 f hf).1, show (8 : Int32) * nI k = nI (8 * k) from pk_mul 8 k, nI_add, show 8 * sp_n t f + 8 * k = 8 * (sp_n t f + k) by omega, show nI (8 * (sp_n t f + k)) / 8 = nI (8 * (sp_n t f + k) / 8) from pk_div (by omega) (by decide) (by decide), Nat.mul_div_cancel_left _ (by decide), nI_1]
      have hc1 : rw_at S1 13 C := by have := sl1.1; rw [hCC] at this; exact this
      have hdl : (dm_l V N C t f ++ dm_f V N C t f k).length < 12 := by
        rw [List.length_append]
        have := dm_l_len V N C t f
        have := dm_f_len V N C t f k
        omega
      refine k_Mender_isWhole (j := sp_n t f + k) (hC.2.2.of (f1 10 (by omega)) (f1 11 (by omega))) hl hc1 hCl hCb (by omega) (fun p hp => ?_) (fun p hp hwh S2 f2 => ⟨fun _ => ?_, fun z => absurd z (by decide)⟩) (fun hwh S2 f2 => ⟨fun z => absurd rfl z, fun _ => ?_⟩)
      · cases hn : N (3 + f) with
        | none => rw [hn] at hp; cases hp
        | some a =>
          rw [hn] at hp
          have := hgb _ a hn
          have : a + 27 + 20 * k = p := Option.some.inj hp
          omega
      · have hwh' : wh V N C t f k := by
          cases hn : N (3 + f) with
          | none => rw [hn] at hp; cases hp
          | some a =>
            rw [hn] at hp
            have e : a + 27 + 20 * k = p := Option.some.inj hp
            exact ⟨a, hn, by rw [e]; exact hwh⟩
        refine ih (k + 1) S2 (by omega) (sl1.of (fun i a b => f2 i (by omega))) ?_ (fun i hi => by rw [f2 i (by omega)]; exact f1 i hi)
        rw [dm_f, sq_lt hwh', List.append_nil]
        exact ⟨by rw [f2 29 (by omega)]; exact dg1.1, by rw [f2 29 (by omega)]; exact dg1.2.1, by rw [f2 45 (by omega)]; exact dg1.2.2⟩
      · have hwh' : ¬ wh V N C t f k := by
          intro z
          obtain ⟨a, hn, z⟩ := z
          exact hwh ⟨a + 27 + 20 * k, by rw [hn]; rfl, z⟩
        refine k_Mender_noteDamaged (l := dm_l V N C t f ++ dm_f V N C t f k) ⟨by rw [f2 29 (by omega)]; exact dg1.1, by rw [f2 29 (by omega)]; exact dg1.2.1, by rw [f2 45 (by omega)]; exact dg1.2.2⟩ hdl (fun S3 dg3 f3 => ?_)
        refine ih (k + 1) S3 (by omega) (sl1.of (fun i a b => by rw [f3 i (by omega) (by omega)]; exact f2 i (by omega))) ?_ (fun i hi => by rw [f3 i (by omega) (by omega), f2 i (by omega)]; exact f1 i hi)
        rw [dm_f, sq_lf hwh', ← List.append_assoc]
        exact dg3
  have t63 : ∀ (r f : Nat) (S1 : px_S), r + f = m → sl_at S1 F t m → dg_at S1 (dm_l V N C t f) → (∀ i, i < 12 ∨ (21 < i ∧ i < 29) ∨ (29 < i ∧ i < 45) → S1 i = S i) → px_w G px_Zc (d + 5) m_Mender_examine 63 [.ref 29, .ref 3, .int (nI m), .int (nI f), .null, .null, .null] [] S1 (px_vq Q) := by
    intro r
    induction r with
    | zero =>
      intro f S1 hf sl1 dg1 f1
      have : f = m := by omega
      subst this
      exact e_Mender_examine_63 ⟨fun _ => px_vq_i (hQ S1 sl1 dg1 f1), fun z => absurd (Int32.le_refl _) z⟩
    | succ r ih =>
      intro f S1 hf sl1 dg1 f1
      have htf := h40 f (by omega)
      refine e_Mender_examine_63 ⟨fun z => absurd z (nI_ge (by omega) (by omega)), fun _ => k_Slices_size (by omega) ?_⟩
      rw [(sl1.2.2 f (by omega)).2]
      refine k_slicesOf (by omega) ?_
      refine t84 f (by omega) (fun S2 a b c => ih (f + 1) S2 (by omega) a b c) _ 0 S1 (Nat.add_zero _) sl1 ?_ f1
      rw [dm_f, List.append_nil]
      exact dg1
  have t32 : ∀ (r f : Nat) (S1 : px_S), r + f = m → sl_at S1 F t f → dg_at S1 [] → (∀ i, i < 12 ∨ (21 < i ∧ i < 29) ∨ (29 < i ∧ i < 45) → S1 i = S i) → px_w G px_Zc (d + 5) m_Mender_examine 32 [.ref 29, .ref 3, .int (nI m), .int (nI f), .null, .null, .null] [] S1 (px_vq Q) := by
    intro r
    induction r with
    | zero =>
      intro f S1 hf sl1 dg1 f1
      have : f = m := by omega
      subst this
      exact e_Mender_examine_32 ⟨fun _ => t63 _ 0 S1 (Nat.add_zero _) sl1 dg1 f1, fun z => absurd (Int32.le_refl _) z⟩
    | succ r ih =>
      intro f S1 hf sl1 dg1 f1
      have htf := h40 f (by omega)
      have hnf : sp_n t (f + 1) ≤ sp_n t m := sp_n_le (by omega)
      refine e_Mender_examine_32 ⟨fun z => absurd z (nI_ge (by omega) (by omega)), fun _ => ⟨vp_in_nI (by omega) (by decide), ?_⟩⟩
      have hC1 := hC.of (fun i hi => f1 i (by omega))
      refine k_Catalog_toldSize (M := M) hC1.2.2 hl hb (by omega) (by rw [f1 24 (by omega)]; exact hm) (by omega) ?_
      rw [px_rf_get (by omega), tel, nI_1]
      refine k_Slices_addFile sl1 (by omega) (rw_f (by omega)) (hC1.2.1 f (by omega)) (ok.2.1 f (by omega)).1 (ok.2.1 f (by omega)).2 (by omega) (by omega) (by omega) (fun S2 sl2 f2 => ?_)
      exact ih (f + 1) S2 (by omega) sl2 ⟨by rw [f2 29 (by omega)]; exact dg1.1, by rw [f2 29 (by omega)]; exact dg1.2.1, fun u hu => by simp at hu⟩ (fun i hi => by rw [f2 i (by omega)]; exact f1 i hi)
  refine f_Mender_examine (k_Slices_clear F t (fun S1 sl1 f1 => ?_))
  have f1' : ∀ i, i < 12 ∨ (21 < i ∧ i < 29) ∨ (29 < i ∧ i < 45) → S1 i = S i := fun i hi => by rw [f1 i (by omega) (by omega), px_u_ne _ _ _ (by omega), px_u_ne _ _ _ (by omega)]
  refine k_Catalog_fileCount (M := M) (hC.2.2.of (f1' 10 (by omega)) (f1' 11 (by omega))) hl hb (by omega) (by rw [f1' 24 (by omega)]; exact hm) ?_
  have e3 : px_min (nI (mn_m V M)) 3 = nI m := by
    rw [hmm]
    unfold px_min
    by_cases h : m = 3
    · subst h; rfl
    · have h3 : ¬ (3 : Int32) < nI m := nI_nlt (b := m) (a := 3) (by omega) (by decide)
      rw [if_neg h3]
  rw [e3]
  refine t32 m 0 S1 (by omega) sl1 ⟨?_, ?_, fun u hu => by simp at hu⟩ f1'
  · rw [f1 29 (by decide) (by decide), px_ua, if_neg (by simp), px_us]; rfl
  · rw [f1 29 (by decide) (by decide), px_us]; rfl
theorem k_PV_verify {Q : Int32 → px_S → Prop} (hC : sv_C S T F V) (ok : sv_ok T F V) (hQ : ∀ S', sv_C S' T F V → Q (sq_verify F V) S') : px_I G px_Zc (d + 7) m_PV_verify [.ref 0] S Q := by
  refine f_PV_verify (k_Catalog_read hC.2.2 ok.2.2.1 ok.2.2.2 (fun M hM S1 e8 at1 f1 => ⟨fun _ => ?_, fun z => absurd z (by decide)⟩) (fun hM S1 f1 => ⟨fun z => absurd rfl z, fun _ => ?_⟩))
  · obtain ⟨hMk, hMn⟩ := sc_mn_ok hM
    refine k_Mender_examine (hC.of (fun i hi => f1 i (by omega))) ok hMk hMn e8 at1 (sc_g V M) (fun S2 sl2 dg2 f2 => f_Mender_damagedBits (px_iq_i (px_iq_i ?_)))
    have := hQ S2 (hC.of (fun i hi => by rw [f2 i (by omega)]; exact f1 i (by omega)))
    unfold sq_verify at this
    rw [hM] at this
    rw [dg2.2.1]
    exact this
  · have := hQ S1 (hC.of (fun i hi => f1 i (by omega)))
    unfold sq_verify at this
    rw [hM] at this
    exact px_iq_i this
end
