/-- what is noted, as the reference keeps it -/
def nr_at (S : px_S) (N : Nat → Option Nat) : Prop := (∀ f, f < 3 → S 12 f = nt_v (N f) 0) ∧ (∀ f, f < 3 → S 13 f = nt_v (N (3 + f)) 0) ∧ (∀ e, e < 256 → S 14 e = nt_v (N (6 + e)) 0) ∧ S 0 19 = nI (1 + nt_c N 0 262)
theorem nr_put_f {S : px_S} {N : Nat → Option Nat} {x a : Nat} (hN : nr_at S N) (hx : x < 3) (h : N x = none) : nr_at (px_u (px_u S 12 x (nI a)) 0 19 ((px_u S 12 x (nI a)) 0 19 + 1)) (nt_up N x a) := by
  obtain ⟨h1, h2, h3, h4⟩ := hN
  refine ⟨fun f hf => ?_, fun f hf => ?_, fun e he => ?_, ?_⟩
  · rw [px_u_ne _ _ _ (by decide), px_ua]
    by_cases hfx : f = x
    · rw [if_pos ⟨rfl, hfx⟩, nt_up, if_pos hfx]; rfl
    · rw [if_neg (fun z => hfx z.2), nt_up, if_neg hfx]; exact h1 f hf
  · rw [px_u_ne _ _ _ (by decide), px_u_ne _ _ _ (by decide), nt_up, if_neg (by omega)]; exact h2 f hf
  · rw [px_u_ne _ _ _ (by decide), px_u_ne _ _ _ (by decide), nt_up, if_neg (by omega)]; exact h3 e he
  · rw [px_us, px_u_ne _ _ _ (by decide), h4, nI_1, nt_c_in 262 h (by omega) (by omega)]; rfl
theorem nr_put_k {S : px_S} {N : Nat → Option Nat} {x a : Nat} (hN : nr_at S N) (hx : x < 3) (h : N (3 + x) = none) : nr_at (px_u (px_u S 13 x (nI a)) 0 19 ((px_u S 13 x (nI a)) 0 19 + 1)) (nt_up N (3 + x) a) := by
  obtain ⟨h1, h2, h3, h4⟩ := hN
  refine ⟨fun f hf => ?_, fun f hf => ?_, fun e he => ?_, ?_⟩
  · rw [px_u_ne _ _ _ (by decide), px_u_ne _ _ _ (by decide), nt_up, if_neg (by omega)]; exact h1 f hf
  · rw [px_u_ne _ _ _ (by decide), px_ua]
    by_cases hfx : f = x
    · rw [if_pos ⟨rfl, hfx⟩, nt_up, if_pos (by omega)]; rfl
    · rw [if_neg (fun z => hfx z.2), nt_up, if_neg (by omega)]; exact h2 f hf
  · rw [px_u_ne _ _ _ (by decide), px_u_ne _ _ _ (by decide), nt_up, if_neg (by omega)]; exact h3 e he
  · rw [px_us, px_u_ne _ _ _ (by decide), h4, nI_1, nt_c_in 262 h (by omega) (by omega)]; rfl
theorem nr_put_r {S : px_S} {N : Nat → Option Nat} {x a : Nat} (hN : nr_at S N) (hx : x < 256) (h : N (6 + x) = none) : nr_at (px_u (px_u S 14 x (nI a)) 0 19 ((px_u S 14 x (nI a)) 0 19 + 1)) (nt_up N (6 + x) a) := by
  obtain ⟨h1, h2, h3, h4⟩ := hN
  refine ⟨fun f hf => ?_, fun f hf => ?_, fun e he => ?_, ?_⟩
  · rw [px_u_ne _ _ _ (by decide), px_u_ne _ _ _ (by decide), nt_up, if_neg (by omega)]; exact h1 f hf
  · rw [px_u_ne _ _ _ (by decide), px_u_ne _ _ _ (by decide), nt_up, if_neg (by omega)]; exact h2 f hf
  · rw [px_u_ne _ _ _ (by decide), px_ua]
    by_cases hfx : e = x
    · rw [if_pos ⟨rfl, hfx⟩, nt_up, if_pos (by omega)]; rfl
    · rw [if_neg (fun z => hfx z.2), nt_up, if_neg (by omega)]; exact h3 e he
  · rw [px_us, px_u_ne _ _ _ (by decide), h4, nI_1, nt_c_in 262 h (by omega) (by omega)]; rfl
/-- what the main packet tells, as the reference keeps it -/
def rm_at (S : px_S) (V : List Int32) (M : Nat) : Prop := S 0 12 = nI M ∧ S 0 13 = nI (mn_m V M) ∧ (∀ f, f < mn_m V M → S 10 f = nI (mn_t V M f)) ∧ ∀ f, f ≤ mn_m V M → S 11 f = nI (sp_n (mn_t V M) f)
def no_fr (S S' : px_S) : Prop := (∀ j, j ≠ 19 → S' 0 j = S 0 j) ∧ ∀ i, i ≠ 0 → i ≠ 12 → i ≠ 13 → i ≠ 14 → S' i = S i
theorem no_fr.rf (S : px_S) : no_fr S S := ⟨fun _ _ => rfl, fun _ _ _ _ _ => rfl⟩
theorem no_fr_u {S : px_S} {c x : Nat} {v w : Int32} (hc : c = 12 ∨ c = 13 ∨ c = 14) : no_fr S (px_u (px_u S c x v) 0 19 w) := by
  refine ⟨fun j hj => ?_, fun i h0 h1 h2 h3 => ?_⟩
  · rw [px_ua, if_neg (fun z => hj z.2), px_u_ne _ _ _ (by omega)]
  · rw [px_u_ne _ _ _ h0, px_u_ne _ _ _ (by omega)]
section
variable {G : px_G} {d : Nat} {S : px_S} {V : List Int32} {F : Nat → List Int32} {N : Nat → Option Nat}
theorem k_Mo_note {Q : px_S → Prop} {a M : Nat} (hw : rv_at S V) (hl : V.length ≤ 694) (hb : ls_by V) (hok : pk_ok V a) (hMn : mn_ok V M) (hm : rm_at S V M) (hN : nr_at S N) (hg : nt_g V M N) (hs : nt_ss V M a)
    (hQ : ∀ S', nr_at S' (nt_add N (nt_key V M a) a) → no_fr S S' → Q S') : px_V G px_Zr (d + 1) m_Mo_note [.ref 0, .int (nI a)] S Q := by
  have ha := pk_ok_lt hok hl
  have hfit := hok.2.2.2.1
  have hbl := pk_bl_lt V a
  have hm3 := hMn.2.1.2
  have hgb : ∀ k b, N k = some b → b + 0 < 2 ^ 31 := fun k b h => by have := pk_ok_lt (hg k b h).1 hl; omega
  have ekey : nt_key V M a = sq_l (nt_f V M a) (some (sp_bt V (a + 26))) (sq_l (nt_k V M a) (some (3 + sp_bt V (a + 26))) (sq_l (nt_r V a) (some (6 + sp_bt V (a + 26))) none)) := sq_lt hs _ _
  have none' : nt_key V M a = none → Q S := fun h => hQ S (by rw [h]; exact hN) (no_fr.rf S)
  have hx : sp_bt V (a + 26) < 256 := sp_bt_lt _ _
  have main : ∀ x4 : Int32, (pk_bl V a = 0 → x4 = nI 999) → (0 < pk_bl V a → x4 = nI (sp_bt V (a + 26))) → px_w G px_Zr (d + 1) m_Mo_note 36 [.ref 0, .int (nI a), .int (V.getD (a + 3) 0), .int (nI (pk_bl V a)), .int x4] [] S (px_vq Q) := by
    intro x4 hx0 hx1
    have s173 : ∀ S1, V.getD (a + 3) 0 ≠ 82 → Q S1 → px_w G px_Zr (d + 1) m_Mo_note 173 [.ref 0, .int (nI a), .int (V.getD (a + 3) 0), .int (nI (pk_bl V a)), .int x4] [] S1 (px_vq Q) := fun S1 h q => e_Mo_note_173 ⟨fun _ => px_vq_i q, fun z => absurd z h⟩
    have s104 : ∀ S1, V.getD (a + 3) 0 ≠ 73 → V.getD (a + 3) 0 ≠ 82 → Q S1 → px_w G px_Zr (d + 1) m_Mo_note 104 [.ref 0, .int (nI a), .int (V.getD (a + 3) 0), .int (nI (pk_bl V a)), .int x4] [] S1 (px_vq Q) := fun S1 h h2 q => e_Mo_note_104 ⟨fun _ => s173 S1 h2 q, fun z => absurd z h⟩
    by_cases k70 : V.getD (a + 3) 0 = 70
    · have n73 : V.getD (a + 3) 0 ≠ 73 := fun z => absurd (k70.symm.trans z) (by decide)
      have n82 : V.getD (a + 3) 0 ≠ 82 := fun z => absurd (k70.symm.trans z) (by decide)
      rw [sq_lf (p := nt_k V M a) (fun z => n73 z.1), sq_lf (p := nt_r V a) (fun z => n82 z.1)] at ekey
      refine e_Mo_note_36 ⟨fun z => absurd k70 z, fun _ => ⟨fun c => ?_, fun c => ?_⟩⟩
      · refine s104 S n73 n82 (none' (ekey.trans (sq_lf (fun z => c ?_) _ _)))
        rw [z.2.1]; rfl
      have c' : pk_bl V a = 18 := (nI_eq (b := 18) (by omega) (by decide)).mp c
      rw [hx1 (by omega), hm.2.1, nI_leI (by omega) (by omega), nI_clamp (by omega), show nI a + 27 = nI (a + 27) from nI_add a 27, nI_clamp (by omega), hw.2 (a + 27) (by omega), sp_bt_eq hb (a + 27)]
      rw [hx1 (by omega)] at s104
      refine ⟨fun c2 => s104 S n73 n82 (none' (ekey.trans (sq_lf (fun z => by have := z.2.2.1; omega) _ _))), fun c2 => ⟨vp_in_nI (by omega) (by decide), vp_in_nI (by omega) (by decide), ?_⟩⟩
      have h27 : sp_bt V (a + 27) < 256 := sp_bt_lt _ _
      have htt : mn_t V M (sp_bt V (a + 26)) < 256 := sp_bt_lt _ _
      rw [hm.2.2.1 _ (by omega), nI_eq (by omega) (by omega)]
      refine ⟨fun c3 => s104 S n73 n82 (none' (ekey.trans (sq_lf (fun z => c3 z.2.2.2) _ _))), fun c3 => ⟨vp_in_nI (by omega) (by decide), ?_⟩⟩
      rw [sq_lt ⟨k70, c', by omega, c3⟩] at ekey
      rw [hN.1 _ (by omega), nt_v_neg (hgb _)]
      refine ⟨fun c4 => s104 S n73 n82 (hQ S (by rw [ekey, nt_add_1 c4]; exact hN) (no_fr.rf S)), fun c4 => ⟨vp_in_nI (by omega) (by decide), s104 _ n73 n82 (hQ _ ?_ (no_fr_u (Or.inl rfl)))⟩⟩
      have c4' : N (sp_bt V (a + 26)) = none := Classical.byContradiction c4
      rw [ekey, nt_add_0 c4']
      exact nr_put_f hN (by omega) c4'
    by_cases k73 : V.getD (a + 3) 0 = 73
    · have n82 : V.getD (a + 3) 0 ≠ 82 := fun z => absurd (k73.symm.trans z) (by decide)
      rw [sq_lf (p := nt_f V M a) (fun z => k70 z.1), sq_lf (p := nt_r V a) (fun z => n82 z.1)] at ekey
      refine e_Mo_note_36 ⟨fun _ => e_Mo_note_104 ⟨fun z => absurd k73 z, fun _ => ?_⟩, fun z => absurd z k70⟩
      rw [hm.2.1]
      by_cases hz : pk_bl V a = 0
      · have en : nt_key V M a = none := ekey.trans (sq_lf (fun z => by have := z.2.2; omega) _ _)
        refine ⟨fun _ => s173 S n82 (none' en), fun c => absurd ?_ c⟩
        rw [hx0 hz]
        exact nI_le (by omega) (by decide)
      rw [hx1 (by omega)] at s173
      rw [hx1 (by omega), nI_leI (by omega) (by omega), nI_1, nI_clamp (by omega), nI_clamp (by omega)]
      refine ⟨fun c => s173 S n82 (none' (ekey.trans (sq_lf (fun z => by have := z.2.1; omega) _ _))), fun c => ⟨vp_in_nI (by omega) (by decide), vp_in_nI (by omega) (by decide), ?_⟩⟩
      have htt : mn_t V M (sp_bt V (a + 26)) < 256 := sp_bt_lt _ _
      have es : S 11 (sp_bt V (a + 26) + 1) - S 11 (sp_bt V (a + 26)) = nI ((mn_t V M (sp_bt V (a + 26)) + 7) / 8) := by
        rw [hm.2.2.2 _ (by omega), hm.2.2.2 _ (by omega), pk_sub (sp_n_le (by omega))]
        congr 1
        show sp_n (mn_t V M) (sp_bt V (a + 26)) + (mn_t V M (sp_bt V (a + 26)) + 7) / 8 - _ = _
        omega
      rw [es, show (20 : Int32) * nI ((mn_t V M (sp_bt V (a + 26)) + 7) / 8) = nI (20 * ((mn_t V M (sp_bt V (a + 26)) + 7) / 8)) from pk_mul 20 _, show ∀ y : Nat, (1 : Int32) + nI y = nI (1 + y) from fun y => nI_add 1 y, nI_eq (by omega) (by omega)]
      refine ⟨fun c3 => s173 S n82 (none' (ekey.trans (sq_lf (fun z => c3 z.2.2) _ _))), fun c3 => ⟨vp_in_nI (by omega) (by decide), ?_⟩⟩
      rw [sq_lt ⟨k73, by omega, c3⟩] at ekey
      rw [hN.2.1 _ (by omega), nt_v_neg (hgb _)]
      refine ⟨fun c4 => s173 S n82 (hQ S (by rw [ekey, nt_add_1 c4]; exact hN) (no_fr.rf S)), fun c4 => ⟨vp_in_nI (by omega) (by decide), s173 _ n82 (hQ _ ?_ (no_fr_u (Or.inr (Or.inl rfl))))⟩⟩
      have c4' : N (3 + sp_bt V (a + 26)) = none := Classical.byContradiction c4
      rw [ekey, nt_add_0 c4']
      exact nr_put_k hN (by omega) c4'
    rw [sq_lf (p := nt_f V M a) (fun z => k70 z.1), sq_lf (p := nt_k V M a) (fun z => k73 z.1)] at ekey
    refine e_Mo_note_36 ⟨fun _ => e_Mo_note_104 ⟨fun _ => e_Mo_note_173 ⟨fun c => px_vq_i (none' (ekey.trans (sq_lf (fun z => c z.1) _ _))), fun c => ⟨fun c2 => px_vq_i (none' (ekey.trans (sq_lf (fun z => c2 ?_) _ _))), fun c2 => ?_⟩⟩, fun z => absurd z k73⟩, fun z => absurd z k70⟩
    · rw [z.2]; rfl
    have c2' : pk_bl V a = 9 := (nI_eq (b := 9) (by omega) (by decide)).mp c2
    rw [sq_lt ⟨c, c2'⟩] at ekey
    rw [hx1 (by omega), nI_clamp (by omega), hN.2.2.1 _ hx, nt_v_neg (hgb _)]
    refine ⟨vp_in_nI (by omega) (by decide), fun c4 => px_vq_i (hQ S (by rw [ekey, nt_add_1 c4]; exact hN) (no_fr.rf S)), fun c4 => ⟨vp_in_nI (by omega) (by decide), px_vq_i (hQ _ ?_ (no_fr_u (Or.inr (Or.inr rfl))))⟩⟩
    have c4' : N (6 + sp_bt V (a + 26)) = none := Classical.byContradiction c4
    rw [ekey, nt_add_0 c4']
    exact nr_put_r hN hx c4'
  refine f_Mo_note ?_
  rw [show nI a + 3 = nI (a + 3) from nI_add a 3, show nI a + 26 = nI (a + 26) from nI_add a 26, nI_clamp (by omega), nI_clamp (by omega), hw.2 (a + 3) (by omega)]
  refine ⟨vp_in_nI (by omega) (by decide), k_Mo_bl hw hl hb (by omega) ⟨fun c => main _ (fun _ => rfl) (fun h => absurd c (nI_nle h (by omega))), fun c => ⟨vp_in_nI (by omega) (by decide), ?_⟩⟩⟩
  have hpos : 0 < pk_bl V a := by
    rcases Nat.eq_zero_or_pos (pk_bl V a) with h | h
    · exact absurd (by rw [h]; decide) c
    · exact h
  rw [hw.2 (a + 26) (by omega), sp_bt_eq hb (a + 26)]
  exact main _ (fun h => by omega) (fun _ => rfl)
theorem k_Mo_recoveries {Q : Int32 → px_S → Prop} (hN : nr_at S N) (hgb : ∀ k b, N k = some b → b + 0 < 2 ^ 31) (hQ : Q (nI (nt_c N 6 256)) S) : px_I G px_Zr d m_Mo_recoveries [.ref 0] S Q := by
  refine f_Mo_recoveries ?_
  have key : ∀ (m e : Nat), m + e = 256 → px_w G px_Zr d m_Mo_recoveries 4 [.ref 0, .int (nI (nt_c N 6 e)), .int (nI e)] [] S (px_iq Q) := by
    intro m
    induction m with
    | zero =>
      intro e he
      have : e = 256 := by omega
      subst this
      exact e_Mo_recoveries_4 ⟨fun _ => px_iq_i hQ, fun z => absurd (Int32.le_refl _) z⟩
    | succ m ih =>
      intro e he
      refine e_Mo_recoveries_4 ⟨fun z => absurd z (nI_ge (b := 256) (by omega) (by decide)), fun _ => ⟨vp_in_nI (by omega) (by decide), ?_⟩⟩
      rw [nI_clamp (by omega), hN.2.2.1 e (by omega), nI_1, nI_1]
      have h := nt_v_neg (hgb (6 + e))
      have i1 := ih (e + 1) (by omega)
      unfold nt_c at i1
      refine ⟨fun c => ?_, fun c => ?_⟩
      · have hn : N (6 + e) = none := Classical.byContradiction (fun z => absurd c (Int32.not_lt.mpr (h.mpr z)))
        rw [hn] at i1
        rw [show nI (nt_c N 6 e) + 0 = nI (nt_c N 6 e) from nI_add _ 0]
        exact i1
      · have hn := h.mp (Int32.not_lt.mp c)
        cases hh : N (6 + e) with
        | none => exact absurd hh hn
        | some b =>
          rw [hh] at i1
          exact i1
  exact key 256 0 (by omega)
end
