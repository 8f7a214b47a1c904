theorem nt_c_0 (lo n : Nat) : nt_c (fun _ => none) lo n = 0 := by
  induction n with
  | zero => rfl
  | succ n ih => unfold nt_c; rw [ih]; rfl
section
variable {G : px_G} {d : Nat} {S : px_S} {T : List Int32} {F : Nat → List Int32} {V : List Int32}
theorem k_Catalog_read {Q : Int32 → px_S → Prop} (hw : rw_at S 10 V) (hl : V.length ≤ 694) (hb : ls_by V)
    (h1 : ∀ M, sc_mn V = some M → ∀ S', S' 24 8 = nI M → nt_at S' (sc_N V M) → ct_fr S S' → Q 1 S') (h0 : sc_mn V = none → ∀ S', ct_fr S S' → Q 0 S') : px_I G px_Zc (d + 6) m_Catalog_read [.ref 24] S Q := by
  refine f_Catalog_read (k_Catalog_forget (fun S1 a7 a8 a10 a26 a28 f1 => ?_))
  have hpk : ∀ a ∈ sc_ls V, pk_ok V a := fun a ha => pk_ls_mem _ _ _ ha
  -- behind the scan
  have fin : ∀ S2 : px_S, (sc_ls V).length ≤ 26 → fd_at S2 (sc_ls V) → S2 24 8 = -1 → S2 24 10 = 0 → (∀ f, f < 3 → S2 26 f = -1 ∧ S2 27 f = -1) → (∀ e, e < 256 → S2 28 e = -1) → ct_fr S S2 →
      px_V G px_Zc (d + 5) m_Catalog_findMain [.ref 24] S2 (fun S4 => ((¬ (S4 24 8) = (-1) → px_w G px_Zc (d + 6) m_Catalog_read 103 [.ref 24, .int 0] [] (px_u S4 24 9 1) (px_iq Q)) ∧ ((S4 24 8) = (-1) → px_iq Q (some (.int 0)) S4))) := by
    intro S2 h26 hfd b8 b10 b26 b28 f2
    refine k_Catalog_findMain (hw.of (f2 10 (by omega)) (f2 11 (by omega))) hl hb h26 hpk hfd b8 (fun S3 c8 c24 f3 => ?_)
    have f3' : ct_fr S S3 := fun i hi => by rw [f3 i (by omega)]; exact f2 i hi
    have hbd : ∀ a, pk_mn V (sc_ls V) = some a → a + 0 < 2 ^ 31 := fun a h => by have := pk_ok_lt (hpk a (pk_mn_mem h).1) hl; omega
    refine ⟨fun hne => ?_, fun he => px_iq_i (h0 ((nt_v_iff hbd).mp (c8.symm.trans he)) S3 f3')⟩
    obtain ⟨M, hM⟩ : ∃ M, sc_mn V = some M := by
      cases h : sc_mn V with
      | none => exact absurd (by rw [c8]; unfold sc_mn at h; rw [h]; rfl) hne
      | some M => exact ⟨M, rfl⟩
    have eM : S3 24 8 = nI M := by rw [c8]; unfold sc_mn at hM; rw [hM]; rfl
    obtain ⟨hMk, hMn⟩ := sc_mn_ok hM
    have key : ∀ (m k : Nat), m + k = (sc_ls V).length → ∀ (S4 : px_S) (N : Nat → Option Nat), nt_all V M N ((sc_ls V).drop k) = sc_N V M → nt_g V M N → nt_at S4 N → S4 24 8 = nI M → S4 24 7 = nI (sc_ls V).length → S4 25 = S3 25 → ct_fr S S4 → px_w G px_Zc (d + 6) m_Catalog_read 103 [.ref 24, .int (nI k)] [] S4 (px_iq Q) := by
      intro m
      induction m with
      | zero =>
        intro k hk S4 N hN hg hat e8 e7 e25 f4
        have : k = (sc_ls V).length := by omega
        subst this
        rw [List.drop_length] at hN
        have hN' : N = sc_N V M := hN
        subst hN'
        exact e_Catalog_read_103 ⟨fun _ => px_iq_i (h1 M hM S4 e8 hat f4), fun z => absurd (by rw [e7]; exact Int32.le_refl _) z⟩
      | succ m ih =>
        intro k hk S4 N hN hg hat e8 e7 e25 f4
        have hkl : k < (sc_ls V).length := by omega
        have hmem : (sc_ls V).getD k 0 ∈ sc_ls V := by
          rw [List.getD_eq_getElem?_getD, List.getElem?_eq_getElem hkl]
          exact List.getElem_mem hkl
        rw [nl_drop hkl] at hN
        refine e_Catalog_read_103 ⟨fun z => absurd z (by rw [e7]; exact nI_ge hkl (by omega)), fun _ => ⟨vp_in_nI (by omega) (by decide), ?_⟩⟩
        rw [nI_clamp (by omega), e25, f3 25 (by omega), hfd.2 k hkl, nI_1]
        refine k_Catalog_countPacket (hw.of (f4 10 (by omega)) (f4 11 (by omega))) hl hb (hpk _ hmem) hMk hMn e8 hat hg (fun S5 at5 g5 f5 => ?_)
        exact ih (k + 1) (by omega) S5 _ hN (nt_g_add hg (hpk _ hmem)) at5 (by rw [g5 8 (by decide) (by decide)]; exact e8) (by rw [g5 7 (by decide) (by decide)]; exact e7) (by rw [f5 25 (by omega)]; exact e25) (fun i hi => by rw [f5 i (by omega)]; exact f4 i hi)
    refine key _ 0 (Nat.add_zero _) _ (fun _ => none) (by rw [List.drop_zero]; rfl) (fun k a h => by cases h) ⟨fun f hf => ?_, fun f hf => ?_, fun e he => ?_, ?_, ?_⟩ ?_ ?_ ?_ (fun i hi => ?_)
    · rw [px_u_ne _ _ _ (by decide), f3 26 (by omega)]; exact (b26 f hf).1
    · rw [px_u_ne _ _ _ (by decide), f3 27 (by omega)]; exact (b26 f hf).2
    · rw [px_u_ne _ _ _ (by decide), f3 28 (by omega)]; exact b28 e he
    · rw [px_us, nt_c_0]; rfl
    · rw [px_ua, if_neg (by simp), c24 10 (by decide), b10, nt_c_0]; rfl
    · rw [px_ua, if_neg (by simp)]; exact eM
    · rw [px_ua, if_neg (by simp), c24 7 (by decide)]; exact hfd.1
    · rw [px_u_ne _ _ _ (by decide)]
    · rw [px_u_ne _ _ _ (by omega)]; exact f3' i hi
  have scan : ∀ (m a : Nat) (l : List Nat) (S2 : px_S), V.length ≤ a + m → a ≤ V.length → l ++ pk_ls V m a = sc_ls V → 26 * l.length ≤ a → fd_at S2 l → S2 24 8 = -1 → S2 24 10 = 0 → (∀ f, f < 3 → S2 26 f = -1 ∧ S2 27 f = -1) → (∀ e, e < 256 → S2 28 e = -1) → ct_fr S S2 → px_w G px_Zc (d + 6) m_Catalog_read 6 [.ref 24, .int (nI a)] [] S2 (px_iq Q) := by
    intro m
    induction m with
    | zero =>
      intro a l S2 hm ha hls h26 hfd b8 b10 b26 b28 f2
      have hw2 := hw.of (f2 10 (by omega)) (f2 11 (by omega))
      have hl2 : l = sc_ls V := by rw [← hls, pk_ls, List.append_nil]
      subst hl2
      refine e_Catalog_read_6 (k_Row_size rw_10 ?_)
      rw [hw2.1]
      exact ⟨fun _ => fin S2 (by omega) hfd b8 b10 b26 b28 f2, fun z => absurd (nI_le (by omega) (by omega)) z⟩
    | succ m ih =>
      intro a l S2 hm ha hls h26 hfd b8 b10 b26 b28 f2
      have hw2 := hw.of (f2 10 (by omega)) (f2 11 (by omega))
      refine e_Catalog_read_6 (k_Row_size rw_10 ?_)
      rw [hw2.1, hfd.1, nI_leI (by omega) (by omega)]
      have e26 : (26 : Int32) ≤ nI l.length ↔ 26 ≤ l.length := nI_leI (a := 26) (by decide) (by omega)
      rw [e26]
      refine ⟨fun z => ?_, fun z => ⟨fun z2 => ?_, fun z2 => ?_⟩⟩
      · rw [pk_ls_end z, List.append_nil] at hls
        subst hls
        exact fin S2 (by omega) hfd b8 b10 b26 b28 f2
      · rw [pk_ls_big _ a (by omega), List.append_nil] at hls
        subst hls
        exact fin S2 (by omega) hfd b8 b10 b26 b28 f2
      · refine k_Packets_standsWhole hw2 hl hb (by omega) (fun hok S3 f3 => ⟨fun z => absurd z (by decide), fun _ => ?_⟩) (fun hno S3 f3 => ⟨fun _ => ?_, fun z => absurd rfl z⟩)
        · have h7 : S3 24 7 = nI l.length := by rw [f3 24 (by omega)]; exact hfd.1
          rw [h7, nI_clamp (by omega)]
          refine ⟨vp_in_nI (by omega) (by decide), fun S4 hS4 => ?_⟩
          have f4 : ∀ i, i ≠ 24 → i ≠ 25 → S4 i = S3 i := fun i h24 h25 => by rw [hS4, px_u_ne _ _ _ h24, px_u_ne _ _ _ h25]
          have hw4 : rw_at S4 10 V := hw2.of (by rw [f4 10 (by decide) (by decide), f3 10 (by omega)]) (by rw [f4 11 (by decide) (by decide), f3 11 (by omega)])
          have e24 : ∀ j, j ≠ 7 → S4 24 j = S2 24 j := fun j hj => by rw [hS4, px_ua, if_neg (fun z => hj z.2), px_u_ne _ _ _ (by decide), f3 24 (by omega)]
          refine k_Packets_bodySize hw4 hl hb (by omega) ?_
          have hbl := pk_bl_lt V a
          have hfit := hok.2.2.2.1
          have e1 : nI a + (26 + nI (pk_bl V a) - 1) + 1 = nI (a + 26 + pk_bl V a) := by
            rw [show (26 : Int32) + nI (pk_bl V a) = nI (25 + pk_bl V a + 1) by rw [show (26 : Int32) + nI (pk_bl V a) = nI (26 + pk_bl V a) from nI_add 26 _]; congr 1; omega, nI_pred, nI_add, nI_1]
            congr 1
            omega
          rw [e1]
          rw [pk_ls_ok hok] at hls
          refine ih (a + 26 + pk_bl V a) (l ++ [a]) S4 (by omega) (by omega) (by rw [← hls]; simp) (by simp; omega) ⟨?_, fun k hk => ?_⟩ (by rw [e24 8 (by decide)]; exact b8) (by rw [e24 10 (by decide)]; exact b10) (fun f hf => by rw [f4 26 (by decide) (by decide), f4 27 (by decide) (by decide), f3 26 (by omega), f3 27 (by omega)]; exact b26 f hf) (fun e he => by rw [f4 28 (by decide) (by decide), f3 28 (by omega)]; exact b28 e he) (fun i hi => by rw [f4 i (by omega) (by omega), f3 i (by omega)]; exact f2 i hi)
          · rw [hS4, px_us, px_u_ne _ _ _ (by decide), h7, nI_1]
            simp
          · rw [hS4, px_u_ne _ _ _ (by decide), px_ua]
            by_cases hkl : k = l.length
            · rw [if_pos ⟨rfl, hkl⟩, hkl]
              simp
            · rw [if_neg (fun z => hkl z.2), f3 25 (by omega)]
              have hk' : k < l.length := by simp at hk; omega
              rw [hfd.2 k hk', List.getD_eq_getElem?_getD, List.getD_eq_getElem?_getD, List.getElem?_append_left hk']
        · rw [nI_1]
          rw [pk_ls_no hno (by omega)] at hls
          have e24 : S3 24 = S2 24 := f3 24 (by omega)
          refine ih (a + 1) l S3 (by omega) (by omega) hls (by omega) ⟨by rw [e24]; exact hfd.1, fun k hk => by rw [f3 25 (by omega)]; exact hfd.2 k hk⟩ (by rw [e24]; exact b8) (by rw [e24]; exact b10) (fun f hf => by rw [f3 26 (by omega), f3 27 (by omega)]; exact b26 f hf) (fun e he => by rw [f3 28 (by omega)]; exact b28 e he) (fun i hi => by rw [f3 i (by omega)]; exact f2 i hi)
  exact scan V.length 0 [] S1 (by omega) (by omega) rfl (by simp) ⟨a7, fun k hk => by simp at hk⟩ a8 a10 a26 a28 f1
theorem k_PV_scan {Q : Int32 → px_S → Prop} (hC : sv_C S T F V) (ok : sv_ok T F V) (hQ : ∀ S', sv_C S' T F V → Q (sq_scan V) S') : px_I G px_Zc (d + 7) m_PV_scan [.ref 0] S Q := by
  refine f_PV_scan (k_Catalog_read hC.2.2 ok.2.2.1 ok.2.2.2 (fun M hM S1 e8 at1 f1 => ⟨fun _ => ?_, fun z => absurd z (by decide)⟩) (fun hM S1 f1 => ⟨fun z => absurd rfl z, fun _ => ?_⟩))
  · refine f_Catalog_counted (px_iq_i (f_Catalog_recoveries (px_iq_i (px_iq_i ?_))))
    have := hQ S1 (hC.of (fun i hi => f1 i (by omega)))
    unfold sq_scan at this
    rw [hM] at this
    rw [at1.2.2.2.1, at1.2.2.2.2, show (100 : Int32) * nI (nt_c (sc_N V M) 6 256) = nI (100 * nt_c (sc_N V M) 6 256) from pk_mul 100 _, nI_add]
    exact this
  · have := hQ S1 (hC.of (fun i hi => f1 i (by omega)))
    unfold sq_scan at this
    rw [hM] at this
    exact px_iq_i this
end
