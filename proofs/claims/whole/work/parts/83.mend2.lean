/-! Mender: the damaged slices are made again -/
theorem nl_mem {l : List Nat} {k : Nat} (h : k < l.length) : l.getD k 0 ∈ l := by
  rw [List.getD_eq_getElem?_getD, List.getElem?_eq_getElem h]
  exact List.getElem_mem h
section
variable {G : px_G} {d : Nat} {S : px_S} {V T C : List Int32} {F : Nat → List Int32} {N : Nat → Option Nat} {l : List Nat} {n : Nat}
/-- what makeDamaged stands on -/
def md_at (S : px_S) (V C : List Int32) (N : Nat → Option Nat) (l : List Nat) : Prop := rw_at S 10 V ∧ rw_at S 13 C ∧ nt_at S N ∧ dg_at S l
theorem md_at.of {S S' : px_S} {V C : List Int32} {N : Nat → Option Nat} {l : List Nat} (h : md_at S V C N l) (hf : ∀ i, i < 17 ∨ (17 < i ∧ i < 30) ∨ 44 < i → S' i = S i) : md_at S' V C N l := by
  obtain ⟨h1, h2, h3, h4⟩ := h
  refine ⟨h1.of (hf 10 (by omega)) (hf 11 (by omega)), h2.of (hf 13 (by omega)) (hf 14 (by omega)), ⟨?_, ?_, ?_, ?_⟩, ?_, ?_, ?_⟩
  · rw [hf 26 (by omega)]; exact h3.1
  · rw [hf 27 (by omega)]; exact h3.2.1
  · rw [hf 28 (by omega)]; exact h3.2.2.1
  · rw [hf 24 (by omega)]; exact h3.2.2.2
  · rw [hf 29 (by omega)]; exact h4.1
  · rw [hf 29 (by omega)]; exact h4.2.1
  · rw [hf 45 (by omega)]; exact h4.2.2
theorem k_Catalog_hasRecovery {Q : Int32 → px_S → Prop} {e : Nat} (he : e < 256) (hN : nt_at S N) (hb : ∀ a, N (6 + e) = some a → a + 26 < 2 ^ 31) (h1 : N (6 + e) ≠ none → Q 1 S) (h0 : N (6 + e) = none → Q 0 S) : px_I G px_Zc d m_Catalog_hasRecovery [.ref 24, .int (nI e)] S Q := by
  refine f_Catalog_hasRecovery ?_
  rw [nI_clamp (by omega), hN.2.2.1 e he, nt_v_iff hb]
  exact ⟨fun z => absurd z (nI_pos (by omega)), fun _ => ⟨fun z => absurd z (nI_ge (b := 256) he (by decide)), fun _ => ⟨vp_in_nI he (by decide), fun c => px_iq_i (h0 c), fun c => px_iq_i (h1 c)⟩⟩⟩
theorem k_Catalog_recoveryNumber {Q : Int32 → px_S → Prop} {e q a : Nat} (he : e < 256) (hq : q < 4) (hw : rw_at S 10 V) (hl : V.length ≤ 694) (hVb : ls_by V) (hN : nt_at S N) (ha : N (6 + e) = some a) (hb : a + 26 ≤ 694) (hQ : Q (gE (rp_v V a q)) S) : px_I G px_Zc (d + 1) m_Catalog_recoveryNumber [.ref 24, .int (nI e), .int (nI q)] S Q := by
  have hb' : ∀ b, N (6 + e) = some b → b + 26 < 2 ^ 31 := fun b h => by rw [ha] at h; cases h; omega
  refine f_Catalog_recoveryNumber (k_Catalog_hasRecovery he hN hb' (fun _ => ⟨fun _ => ⟨vp_in_nI he (by decide), fun y hy => ?_⟩, fun z => absurd z (by decide)⟩) (fun z => by rw [ha] at z; cases z))
  have hy' : y = nI (a + 27 + 2 * q) := by
    rw [hy, nI_clamp (by omega), hN.2.2.1 e he, ha]
    show nI (a + 26) + 1 + 2 * nI q = _
    rw [nI_1, show (2 : Int32) * nI q = nI (2 * q) from pk_mul 2 q, nI_add]
  rw [hy', nI_1]
  refine k_Row_get rw_10 hw hl (by omega) (k_Row_get rw_10 hw hl (by omega) (px_iq_i ?_))
  rw [rp_v_eq hVb]
  exact hQ
theorem k_Mender_offerRecovery {Q : px_S → Prop} {e a : Nat} {s : el_S} (he : e < 256) (hm : md_at S V C N l) (hl : V.length ≤ 694) (hVb : ls_by V) (hC : C.length = 8 * n) (hn : n ≤ 12) (hCb : ls_by C) (hD : l.length ≤ 12) (hl12 : ∀ j ∈ l, j < 12) (ha : N (6 + e) = some a) (hb : a + 26 ≤ 694) (hs : eq_at S l.length s) (hok : el_ok l.length s) (ht : s.1 < l.length)
    (hQ : ∀ S', eq_at S' l.length (el_step l.length (rp_row V C N l n e) s) → (∀ i, i < 17 ∨ (17 < i ∧ i < 30) ∨ 44 < i → S' i = S i) → Q S') : px_V G px_Zc (d + 4) m_Mender_offerRecovery [.ref 29, .int (nI e)] S Q := by
  have heq : ∀ S1 : px_S, (∀ i, i ≠ 17 → i ≠ 32 + s.1 → S1 i = S i) → eq_at S1 l.length s := fun S1 f1 => ⟨by rw [f1 30 (by omega) (by omega)]; exact hs.1, by rw [f1 30 (by omega) (by omega)]; exact hs.2.1, fun q hq => (hs.2.2.1 q hq).of (f1 _ (by omega) (by omega)), fun q hq => by rw [f1 44 (by omega) (by omega)]; exact hs.2.2.2 q hq⟩
  have hmd : ∀ S1 : px_S, (∀ i, i ≠ 17 → i ≠ 32 + s.1 → S1 i = S i) → md_at S1 V C N l := fun S1 f1 => hm.of (fun i hi => f1 i (by omega) (by omega))
  have t48 : ∀ (r q : Nat) (S1 : px_S), r + q = 4 → (∀ c, c < l.length → S1 (32 + s.1) c = gE (gf_b (l.getD c 0) e)) → (∀ u, u < q → S1 (32 + s.1) (12 + u) = gE (rp_v V a u ^^^ sp_wg C (dm_n l) e u n)) → (∀ u, u < 4 → S1 17 u = gE (sp_wg C (dm_n l) e u n)) → (∀ i, i ≠ 17 → i ≠ 32 + s.1 → S1 i = S i) → px_w G px_Zc (d + 4) m_Mender_offerRecovery 48 [.ref 29, .int (nI e), .int (nI q)] [] S1 (px_vq Q) := by
    intro r
    induction r with
    | zero =>
      intro q S1 hq hc hr hw f1
      have : q = 4 := by omega
      subst this
      refine e_Mender_offerRecovery_48 ⟨fun _ => ?_, fun z => absurd (Int32.le_refl _) z⟩
      refine k_Equations_takeOffered (v := rp_row V C N l n e) (heq S1 f1) hD hok ht (fun c hcl => ?_) (fun S2 w2 f2 => px_vq_i (hQ S2 w2 (fun i hi => ?_)))
      · unfold rp_row
        rcases hcl with h | h
        · rw [if_pos h]; exact hc c h
        · rw [if_neg (by omega), if_pos h, ha]
          have := hr (c - 12) (by omega)
          rw [show 12 + (c - 12) = c by omega] at this
          exact this
      · rw [f2 i (by omega), f1 i (by omega) (by omega)]
    | succ r ih =>
      intro q S1 hq hc hr hw f1
      refine e_Mender_offerRecovery_48 ⟨fun z => absurd z (nI_ge (b := 4) (by omega) (by decide)), fun _ => ?_⟩
      obtain ⟨m1, m2, m3, m4⟩ := hmd S1 f1
      refine k_Catalog_recoveryNumber he (by omega) m1 hl hVb m3 ha hb (k_Slices_weighed (by omega) ?_)
      rw [hw q (by omega), gE_xor, nI_1]
      have e1 := heq S1 f1
      refine k_Equations_offerResult (D := l.length) e1.1 e1.2.1 hD ht (by omega) ?_
      refine ih (q + 1) _ (by omega) (fun c h => ?_) (fun u hu => ?_) (fun u hu => ?_) (fun i h17 hi => ?_)
      · rw [px_ua, if_neg (fun z => by have := z.2; omega)]; exact hc c h
      · rw [px_ua]
        by_cases huq : u = q
        · rw [if_pos ⟨rfl, by omega⟩, huq]
        · rw [if_neg (fun z => huq (by have := z.2; omega))]; exact hr u (by omega)
      · rw [px_u_ne _ _ _ (by omega)]; exact hw u hu
      · rw [px_u_ne _ _ _ hi]; exact f1 i h17 hi
  have t2 : ∀ (r u : Nat) (S1 : px_S), r + u = l.length → (∀ c, c < u → S1 (32 + s.1) c = gE (gf_b (l.getD c 0) e)) → (∀ i, i ≠ 32 + s.1 → S1 i = S i) → px_w G px_Zc (d + 4) m_Mender_offerRecovery 2 [.ref 29, .int (nI e), .int (nI u)] [] S1 (px_vq Q) := by
    intro r
    induction r with
    | zero =>
      intro u S1 hu hc f1
      have : u = l.length := by omega
      subst this
      obtain ⟨m1, m2, m3, m4⟩ := hmd S1 (fun i _ hi => f1 i hi)
      refine e_Mender_offerRecovery_2 ⟨fun _ => ?_, fun z => absurd (by rw [m4.1]; exact Int32.le_refl _) z⟩
      rw [m4.2.1, dm_i_n hl12]
      have := dm_n_lt hl12
      refine k_Slices_weigh m2 hC hn hCb he (by omega) (fun S2 w2 f2 => ?_)
      exact t48 4 0 S2 (by omega) (fun c h => by rw [f2 _ (by omega)]; exact hc c h) (fun u hu => by omega) w2 (fun i h17 hi => by rw [f2 i h17]; exact f1 i hi)
    | succ r ih =>
      intro u S1 hu hc f1
      obtain ⟨m1, m2, m3, m4⟩ := hmd S1 (fun i _ hi => f1 i hi)
      have e1 := heq S1 (fun i _ hi => f1 i hi)
      refine e_Mender_offerRecovery_2 ?_
      rw [m4.1, nI_clamp (by omega), m4.2.2 u (by omega), nI_1]
      refine ⟨fun z => absurd z (nI_ge (by omega) (by omega)), fun _ => ⟨vp_in_nI (by omega) (by decide), ?_⟩⟩
      refine k_Field_basePower (hl12 _ (nl_mem (by omega))) he ?_
      refine k_Equations_offerFactor (D := l.length) e1.1 e1.2.1 hD ht (by omega) ?_
      refine ih (u + 1) _ (by omega) (fun c h => ?_) (fun i hi => ?_)
      · rw [px_ua]
        by_cases huq : c = u
        · rw [if_pos ⟨rfl, huq⟩, huq]
        · rw [if_neg (fun z => huq z.2)]; exact hc c (by omega)
      · rw [px_u_ne _ _ _ hi]; exact f1 i hi
  exact f_Mender_offerRecovery (t2 l.length 0 S (by omega) (fun c h => by omega) (fun _ _ => rfl))
theorem k_Mender_makeDamaged {Q : Int32 → px_S → Prop} (hm : md_at S V C N l) (hl : V.length ≤ 694) (hVb : ls_by V) (hC : C.length = 8 * n) (hn : n ≤ 12) (hCb : ls_by C) (hD : l.length ≤ 12) (hln : ∀ j ∈ l, j < n) (hb : ∀ k a, N k = some a → a + 26 ≤ 694)
    (h1 : ¬ (rp_el V C N l n 256).1 < l.length → ∀ S', rw_at S' 13 (rp_C V C N l n) → (∀ i, i < 14 ∨ (14 < i ∧ i < 17) ∨ (17 < i ∧ i < 30) ∨ 44 < i → S' i = S i) → Q 1 S')
    (h0 : (rp_el V C N l n 256).1 < l.length → ∀ S', (∀ i, i < 17 ∨ (17 < i ∧ i < 30) ∨ 44 < i → S' i = S i) → Q 0 S') : px_I G px_Zc (d + 5) m_Mender_makeDamaged [.ref 29] S Q := by
  have hl12 : ∀ j ∈ l, j < 12 := fun j hj => by have := hln j hj; omega
  have hokf := el_all_ok l.length (rp_row V C N l n) (fun e => N (6 + e) ≠ none) 256
  -- behind solving
  have t73 : ¬ (rp_el V C N l n 256).1 < l.length → ∀ (r t : Nat) (S1 : px_S), r + t = l.length → eq_at S1 l.length ((rp_el V C N l n 256).1, (rp_el V C N l n 256).2.2.1, (rp_el V C N l n 256).2.2.1, (rp_el V C N l n 256).2.2.2) → rw_at S1 13 (sl_pa C l (rp_el V C N l n 256).2.2.2 (rp_el V C N l n 256).2.2.1 t) → (∀ i, i < 14 ∨ (14 < i ∧ i < 17) ∨ (17 < i ∧ i < 30) ∨ 44 < i → S1 i = S i) → px_w G px_Zc (d + 5) m_Mender_makeDamaged 73 [.ref 29, .int (nI t), .null] [] S1 (px_iq Q) := by
    intro hT r
    have hT' : (rp_el V C N l n 256).1 = l.length := by have : (rp_el V C N l n 256).1 ≤ l.length := hokf.2; omega
    induction r with
    | zero =>
      intro t S1 ht hs hw f1
      have : t = l.length := by omega
      subst this
      refine e_Mender_makeDamaged_73 (f_Equations_takenCount (px_iq_i ?_))
      rw [hs.2.1]
      refine ⟨fun _ => px_iq_i (h1 hT S1 hw f1), fun z => absurd ?_ z⟩
      show nI (rp_el V C N l n 256).1 ≤ nI l.length
      rw [hT']; exact Int32.le_refl _
    | succ r ih =>
      intro t S1 ht hs hw f1
      refine e_Mender_makeDamaged_73 (f_Equations_takenCount (px_iq_i ?_))
      rw [hs.2.1]
      refine ⟨fun z => absurd z ?_, fun _ => ?_⟩
      · show ¬ nI (rp_el V C N l n 256).1 ≤ nI t
        rw [hT']; exact nI_ge (by omega) (by omega)
      have hpt : (rp_el V C N l n 256).2.2.2 t < l.length := hokf.1.2.2.2.2.1 t (by show t < (rp_el V C N l n 256).1; omega)
      have hjn := hln _ (nl_mem hpt)
      have t86 : ∀ (r2 q : Nat) (S1 : px_S), r2 + q = 4 → eq_at S1 l.length ((rp_el V C N l n 256).1, (rp_el V C N l n 256).2.2.1, (rp_el V C N l n 256).2.2.1, (rp_el V C N l n 256).2.2.2) → rw_at S1 13 (sl_p4 (sl_pa C l (rp_el V C N l n 256).2.2.2 (rp_el V C N l n 256).2.2.1 t) (l.getD ((rp_el V C N l n 256).2.2.2 t) 0) ((rp_el V C N l n 256).2.2.1 t) q) → (∀ i, i < 14 ∨ (14 < i ∧ i < 17) ∨ (17 < i ∧ i < 30) ∨ 44 < i → S1 i = S i) → px_w G px_Zc (d + 5) m_Mender_makeDamaged 86 [.ref 29, .int (nI t), .int (nI q)] [] S1 (px_iq Q) := by
        intro r2
        induction r2 with
        | zero =>
          intro q S1 hq hs hw f1
          have : q = 4 := by omega
          subst this
          refine e_Mender_makeDamaged_86 ⟨fun _ => ?_, fun z => absurd (Int32.le_refl _) z⟩
          rw [nI_1]
          exact ih (t + 1) S1 (by omega) hs hw f1
        | succ r2 ih2 =>
          intro q S1 hq hs hw f1
          refine e_Mender_makeDamaged_86 ⟨fun z => absurd z (nI_ge (b := 4) (by omega) (by decide)), fun _ => ?_⟩
          have htl : t < (rp_el V C N l n 256).1 := by omega
          refine k_Equations_unknownOf hs (by show (rp_el V C N l n 256).1 ≤ 12; omega) htl ⟨vp_in_nI (by show (rp_el V C N l n 256).2.2.2 t < 12; omega) (by decide), ?_⟩
          refine k_Equations_resultOf hs (by show (rp_el V C N l n 256).1 ≤ 12; omega) htl (by omega) ?_
          have e45 : S1 45 (nI ((rp_el V C N l n 256).2.2.2 t)).toNatClampNeg = nI (l.getD ((rp_el V C N l n 256).2.2.2 t) 0) := by
            rw [nI_clamp (by omega), f1 45 (by omega)]
            exact hm.2.2.2.2.2 _ hpt
          rw [e45, nI_1]
          have hlen : (sl_p4 (sl_pa C l (rp_el V C N l n 256).2.2.2 (rp_el V C N l n 256).2.2.1 t) (l.getD ((rp_el V C N l n 256).2.2.2 t) 0) ((rp_el V C N l n 256).2.2.1 t) q).length = 8 * n := by rw [sl_p4_len, sl_pa_len, hC]
          refine k_Slices_setNumber hw (by omega) (by omega) (by omega) (fun S2 w2 f2 => ?_)
          refine ih2 (q + 1) S2 (by omega) ⟨by rw [f2 30 (by omega)]; exact hs.1, by rw [f2 30 (by omega)]; exact hs.2.1, fun q' hq' => (hs.2.2.1 q' hq').of (f2 _ (by omega)), fun q' hq' => by rw [f2 44 (by omega)]; exact hs.2.2.2 q' hq'⟩ w2 (fun i hi => by rw [f2 i (by omega)]; exact f1 i hi)
      exact t86 4 0 S1 (by omega) hs hw f1
  have fin : ∀ (e : Nat) (S1 : px_S), rp_el V C N l n 256 = rp_el V C N l n e → eq_at S1 l.length (rp_el V C N l n e) → (∀ i, i < 17 ∨ (17 < i ∧ i < 30) ∨ 44 < i → S1 i = S i) → px_I G px_Zc (d + 4) m_Equations_enough [.ref 30] S1 (fun r3 S2 => ((¬ r3 = 0 → px_V G px_Zc (d + 4) m_Equations_solve [.ref 30] S2 (fun S4 => px_w G px_Zc (d + 5) m_Mender_makeDamaged 73 [.ref 29, .int 0, .null] [] S4 (px_iq Q))) ∧ (r3 = 0 → px_iq Q (some (.int 0)) S2))) := by
    intro e S1 hee hs f1
    rw [← hee] at hs
    refine k_Equations_enough hs.1 hs.2.1 hD (by have : (rp_el V C N l n 256).1 ≤ l.length := hokf.2; omega) (fun c => ⟨fun z => absurd rfl z, fun _ => px_iq_i (h0 c S1 f1)⟩) (fun c => ⟨fun _ => ?_, fun z => absurd z (by decide)⟩)
    refine k_Equations_solve hs hD hokf (fun S2 w2 f2 => ?_)
    refine t73 c l.length 0 S2 (by omega) w2 ?_ (fun i hi => by rw [f2 i (by omega)]; exact f1 i (by omega))
    exact hm.2.1.of (by rw [f2 13 (by omega), f1 13 (by omega)]) (by rw [f2 14 (by omega), f1 14 (by omega)])
  have t13 : ∀ (r e : Nat) (S1 : px_S), r + e = 256 → eq_at S1 l.length (rp_el V C N l n e) → (∀ i, i < 17 ∨ (17 < i ∧ i < 30) ∨ 44 < i → S1 i = S i) → px_w G px_Zc (d + 5) m_Mender_makeDamaged 13 [.ref 29, .int (nI e), .null] [] S1 (px_iq Q) := by
    intro r
    induction r with
    | zero =>
      intro e S1 he hs f1
      have : e = 256 := by omega
      subst this
      exact e_Mender_makeDamaged_13 ⟨fun _ => fin 256 S1 rfl hs f1, fun z => absurd (Int32.le_refl _) z⟩
    | succ r ih =>
      intro e S1 he hs f1
      have hok := el_all_ok l.length (rp_row V C N l n) (fun e => N (6 + e) ≠ none) e
      have hle : (rp_el V C N l n e).1 ≤ l.length := hok.2
      refine e_Mender_makeDamaged_13 ⟨fun z => absurd z (nI_ge (b := 256) (by omega) (by decide)), fun _ => ?_⟩
      refine k_Equations_enough hs.1 hs.2.1 hD (by omega) (fun c => ⟨fun z => absurd rfl z, fun _ => ?_⟩) (fun c => ⟨fun _ => ?_, fun z => absurd z (by decide)⟩)
      · have hmd := hm.of f1
        have hgb : ∀ a, N (6 + e) = some a → a + 26 < 2 ^ 31 := fun a h => by have := hb _ a h; omega
        rw [nI_1]
        refine k_Catalog_hasRecovery (by omega) hmd.2.2.1 hgb (fun hne => ⟨fun z => absurd z (by decide), fun _ => ?_⟩) (fun hno => ⟨fun _ => ?_, fun z => absurd rfl z⟩)
        · obtain ⟨a, ha⟩ : ∃ a, N (6 + e) = some a := by
            cases h : N (6 + e) with
            | none => exact absurd h hne
            | some a => exact ⟨a, rfl⟩
          refine k_Mender_offerRecovery (by omega) hmd hl hVb hC hn hCb hD hl12 ha (hb _ a ha) hs hok c (fun S2 w2 f2 => ?_)
          refine ih (e + 1) S2 (by omega) ?_ (fun i hi => by rw [f2 i hi]; exact f1 i hi)
          have : rp_el V C N l n (e + 1) = el_step l.length (rp_row V C N l n e) (rp_el V C N l n e) := sq_lt ⟨c, hne⟩ _ _
          rw [this]
          exact w2
        · refine ih (e + 1) S1 (by omega) ?_ f1
          have : rp_el V C N l n (e + 1) = rp_el V C N l n e := sq_lf (fun z => z.2 hno) _ _
          rw [this]
          exact hs
      · have := el_stop (D := l.length) (row := rp_row V C N l n) (av := fun e => N (6 + e) ≠ none) (e := e) c (256 - e)
        rw [show e + (256 - e) = 256 by omega] at this
        exact fin e S1 this hs f1
  refine f_Mender_makeDamaged (f_Equations_begin (px_vq_i ?_))
  rw [hm.2.2.2.1]
  have e12 : px_min (nI l.length) 12 = nI l.length := by
    unfold px_min
    by_cases h : l.length = 12
    · rw [h]; rfl
    · have h3 : ¬ (12 : Int32) < nI l.length := nI_nlt (b := l.length) (a := 12) (by omega) (by decide)
      rw [if_neg h3]
  rw [e12]
  refine t13 256 0 _ (by omega) ⟨?_, ?_, fun q hq => absurd hq (Nat.not_lt_zero _), fun q hq => absurd hq (Nat.not_lt_zero _)⟩ (fun i hi => ?_)
  · rw [px_ua, if_neg (by simp), px_us]
  · rw [px_us]; rfl
  · rw [px_u_ne _ _ _ (by omega), px_u_ne _ _ _ (by omega)]
end
