theorem nt_add_0 {N : Nat → Option Nat} {k a : Nat} (h : N k = none) : nt_add N (some k) a = nt_up N k a := if_pos h
theorem nt_add_1 {N : Nat → Option Nat} {k a : Nat} (h : ¬ N k = none) : nt_add N (some k) a = N := if_neg h
theorem nt_put_f {S : px_S} {N : Nat → Option Nat} {x a : Nat} (hN : nt_at S N) (hx : x < 3) (h : N x = none) : nt_at (px_u (px_u S 26 x (nI (a + 26))) 24 9 ((px_u S 26 x (nI (a + 26))) 24 9 + 1)) (nt_up N x a) := by
  obtain ⟨h1, h2, h3, h4, h5⟩ := hN
  refine ⟨fun f hf => ?_, fun f hf => ?_, fun e he => ?_, ?_, ?_⟩
  · rw [px_u_ne _ _ _ (by decide), px_ua]
    by_cases hfx : f = x
    · rw [if_pos ⟨rfl, hfx⟩, nt_up, if_pos hfx]; rfl
    · rw [if_neg (fun z => hfx z.2), nt_up, if_neg hfx]; exact h1 f hf
  · rw [px_u_ne _ _ _ (by decide), px_u_ne _ _ _ (by decide), nt_up, if_neg (by omega)]; exact h2 f hf
  · rw [px_u_ne _ _ _ (by decide), px_u_ne _ _ _ (by decide), nt_up, if_neg (by omega)]; exact h3 e he
  · rw [px_us, px_u_ne _ _ _ (by decide), h4, nI_1, nt_c_in 262 h (by omega) (by omega)]; rfl
  · rw [px_ua, if_neg (by simp), px_u_ne _ _ _ (by decide), h5, nt_c_out 256 (by omega)]
theorem nt_put_k {S : px_S} {N : Nat → Option Nat} {x a : Nat} (hN : nt_at S N) (hx : x < 3) (h : N (3 + x) = none) : nt_at (px_u (px_u S 27 x (nI (a + 26))) 24 9 ((px_u S 27 x (nI (a + 26))) 24 9 + 1)) (nt_up N (3 + x) a) := by
  obtain ⟨h1, h2, h3, h4, h5⟩ := hN
  refine ⟨fun f hf => ?_, fun f hf => ?_, fun e he => ?_, ?_, ?_⟩
  · rw [px_u_ne _ _ _ (by decide), px_u_ne _ _ _ (by decide), nt_up, if_neg (by omega)]; exact h1 f hf
  · rw [px_u_ne _ _ _ (by decide), px_ua]
    by_cases hfx : f = x
    · rw [if_pos ⟨rfl, hfx⟩, nt_up, if_pos (by omega)]; rfl
    · rw [if_neg (fun z => hfx z.2), nt_up, if_neg (by omega)]; exact h2 f hf
  · rw [px_u_ne _ _ _ (by decide), px_u_ne _ _ _ (by decide), nt_up, if_neg (by omega)]; exact h3 e he
  · rw [px_us, px_u_ne _ _ _ (by decide), h4, nI_1, nt_c_in 262 h (by omega) (by omega)]; rfl
  · rw [px_ua, if_neg (by simp), px_u_ne _ _ _ (by decide), h5, nt_c_out 256 (by omega)]
theorem nt_put_r {S S1 : px_S} {N : Nat → Option Nat} {x a : Nat} (hN : nt_at S N) (hx : x < 256) (h : N (6 + x) = none) (hS : S1 = px_u (px_u S 28 x (nI (a + 26))) 24 9 ((px_u S 28 x (nI (a + 26))) 24 9 + 1)) : nt_at (px_u S1 24 10 (S1 24 10 + 1)) (nt_up N (6 + x) a) := by
  subst hS
  obtain ⟨h1, h2, h3, h4, h5⟩ := hN
  refine ⟨fun f hf => ?_, fun f hf => ?_, fun e he => ?_, ?_, ?_⟩
  · rw [px_u_ne _ _ _ (by decide), px_u_ne _ _ _ (by decide), px_u_ne _ _ _ (by decide), nt_up, if_neg (by omega)]; exact h1 f hf
  · rw [px_u_ne _ _ _ (by decide), px_u_ne _ _ _ (by decide), px_u_ne _ _ _ (by decide), nt_up, if_neg (by omega)]; exact h2 f hf
  · rw [px_u_ne _ _ _ (by decide), px_u_ne _ _ _ (by decide), px_ua]
    by_cases hfx : e = x
    · rw [if_pos ⟨rfl, hfx⟩, nt_up, if_pos (by omega)]; rfl
    · rw [if_neg (fun z => hfx z.2), nt_up, if_neg (by omega)]; exact h3 e he
  · rw [px_ua, if_neg (by simp), px_us, px_u_ne _ _ _ (by decide), h4, nI_1, nt_c_in 262 h (by omega) (by omega)]; rfl
  · rw [px_us, px_ua, if_neg (by simp), px_u_ne _ _ _ (by decide), h5, nI_1, nt_c_in 256 h (by omega) (by omega)]
section
variable {G : px_G} {d : Nat} {S : px_S} {V : List Int32} {N : Nat → Option Nat}
theorem k_Catalog_countPacket {Q : px_S → Prop} {a M : Nat} (hw : rw_at S 10 V) (hl : V.length ≤ 694) (hb : ls_by V) (hok : pk_ok V a) (hMk : pk_ok V M) (hMn : mn_ok V M) (hm : S 24 8 = nI M) (hN : nt_at S N) (hg : nt_g V M N)
    (hQ : ∀ S', nt_at S' (nt_add N (nt_key V M a) a) → (∀ j, j ≠ 9 → j ≠ 10 → S' 24 j = S 24 j) → (∀ i, i < 24 ∨ i = 25 ∨ 28 < i → S' i = S i) → Q S') : px_V G px_Zc (d + 2) m_Catalog_countPacket [.ref 24, .int (nI a)] S Q := by
  have ha := pk_ok_lt hok hl
  have hM := pk_ok_lt hMk hl
  have hbl := pk_bl_lt V a
  have hm3 := hMn.2.1.2
  have hgb : ∀ k b, N k = some b → b + 26 < 2 ^ 31 := fun k b h => by have := pk_ok_lt (hg k b h).1 hl; omega
  have none' : nt_key V M a = none → Q S := fun h => hQ S (by rw [h]; exact hN) (fun _ _ _ => rfl) (fun _ _ => rfl)
  refine f_Catalog_countPacket (k_Packets_bodySize hw hl hb (by omega) ⟨fun c => px_vq_i (none' ?_), fun c => ?_⟩)
  · have c' : pk_bl V a < 1 := (nI_ltI (b := 1) (by omega) (by decide)).mp c
    unfold nt_key
    by_cases hs : nt_ss V M a
    · rw [sq_lt hs, sq_lf (fun z => by have := z.2.1; omega), sq_lf (fun z => by have := z.2.2; omega), sq_lf (fun z => by have := z.2; omega)]
    · rw [sq_lf hs]
  rw [hm]
  refine k_Packets_haveSameSet hw hl (by omega) (by omega) (fun hs => ⟨fun _ => ?_, fun z => absurd z (by decide)⟩) (fun hs => ⟨fun z => absurd rfl z, fun _ => px_vq_i (none' (by unfold nt_key; rw [sq_lf hs]))⟩)
  refine k_Packets_body (k_Row_get rw_10 hw hl (by omega) (k_Catalog_fileCount hw hl hb (by omega) hm ?_))
  rw [sp_bt_eq hb (a + 26)]
  have hx : sp_bt V (a + 26) < 256 := sp_bt_lt _ _
  have hmm : mn_m V M < 256 := sp_bt_lt _ _
  have ekey : nt_key V M a = sq_l (nt_f V M a) (some (sp_bt V (a + 26))) (sq_l (nt_k V M a) (some (3 + sp_bt V (a + 26))) (sq_l (nt_r V a) (some (6 + sp_bt V (a + 26))) none)) := sq_lt hs _ _
  have main : ∀ x5 : Int32, (x5 = 0 ↔ mn_m V M ≤ sp_bt V (a + 26)) → px_w G px_Zc (d + 2) m_Catalog_countPacket 65 [.ref 24, .int (nI a), .int (nI (pk_bl V a)), .int (nI (a + 26)), .int (nI (sp_bt V (a + 26))), .int x5] [] S (px_vq Q) := by
    intro x5 h5
    refine e_Catalog_countPacket_65 (k_Packets_kind hw hl (by omega) ⟨fun c => ?_, fun c => ?_, fun c => ?_, fun c => px_vq_i (none' ?_)⟩)
    · have nk : ¬ nt_k V M a := fun z => absurd (c.symm.trans z.1) (by decide)
      have nr : ¬ nt_r V a := fun z => absurd (c.symm.trans z.1) (by decide)
      rw [sq_lf nk, sq_lf nr] at ekey
      refine ⟨fun c1 => px_vq_i (none' (ekey.trans (sq_lf (fun z => ?_) _ _))), fun c1 => ⟨fun c2 => px_vq_i (none' (ekey.trans (sq_lf (fun z => ?_) _ _))), fun c2 => ?_⟩⟩
      · have := h5.mp c1
        have := z.2.2.1
        omega
      · apply c2; rw [z.2.1]; rfl
      have c1' : sp_bt V (a + 26) < mn_m V M := by
        apply Nat.lt_of_not_le
        intro z
        exact c1 (h5.mpr z)
      have c2' : pk_bl V a = 18 := (nI_eq (b := 18) (by omega) (by decide)).mp c2
      rw [nI_1]
      refine k_Row_get rw_10 hw hl (by omega) (k_Catalog_toldSize hw hl hb (by omega) hm hx ?_)
      rw [show a + 26 + 1 = a + 27 by omega, sp_bt_eq hb (a + 27)]
      have h27 : sp_bt V (a + 27) < 256 := sp_bt_lt _ _
      have htt : mn_t V M (sp_bt V (a + 26)) < 256 := sp_bt_lt _ _
      refine ⟨fun c3 => px_vq_i (none' (ekey.trans (sq_lf (fun z => c3 (by rw [z.2.2.2])) _ _))), fun c3 => ?_⟩
      have c3' := (nI_eq (by omega) (by omega)).mp c3
      rw [sq_lt ⟨c, c2', c1', c3'⟩] at ekey
      refine k_Catalog_keepFirst (n := 3) (o := N (sp_bt V (a + 26))) rfl (by decide) (by omega) (hgb _) (hN.1 _ (by omega)) (fun hn S' hS' => ?_) (fun hn => ?_)
      · subst hS'
        refine px_vq_i (hQ _ ?_ (fun j h9 h10 => ?_) (fun i hi => ?_))
        · rw [ekey, nt_add_0 hn]; exact nt_put_f hN (by omega) hn
        · rw [px_ua, if_neg (fun z => h9 z.2), px_u_ne _ _ _ (by decide)]
        · rw [px_u_ne _ _ _ (by omega), px_u_ne _ _ _ (by omega)]
      · exact px_vq_i (hQ S (by rw [ekey, nt_add_1 hn]; exact hN) (fun _ _ _ => rfl) (fun _ _ => rfl))
    · have nf : ¬ nt_f V M a := fun z => absurd (c.symm.trans z.1) (by decide)
      have nr : ¬ nt_r V a := fun z => absurd (c.symm.trans z.1) (by decide)
      rw [sq_lf nf, sq_lf nr] at ekey
      refine ⟨fun c1 => px_vq_i (none' (ekey.trans (sq_lf (fun z => ?_) _ _))), fun c1 => ?_⟩
      · have := h5.mp c1
        have := z.2.1
        omega
      have c1' : sp_bt V (a + 26) < mn_m V M := by
        apply Nat.lt_of_not_le
        intro z
        exact c1 (h5.mpr z)
      have htt : mn_t V M (sp_bt V (a + 26)) < 256 := sp_bt_lt _ _
      refine k_Catalog_toldSize hw hl hb (by omega) hm hx (k_slicesOf (by omega) ?_)
      rw [show (20 : Int32) * nI ((mn_t V M (sp_bt V (a + 26)) + 7) / 8) = nI (20 * ((mn_t V M (sp_bt V (a + 26)) + 7) / 8)) from pk_mul 20 _, show ∀ y : Nat, (1 : Int32) + nI y = nI (1 + y) from fun y => nI_add 1 y, nI_eq (by omega) (by omega)]
      refine ⟨fun c3 => px_vq_i (none' (ekey.trans (sq_lf (fun z => c3 z.2.2) _ _))), fun c3 => ?_⟩
      rw [sq_lt ⟨c, c1', c3⟩] at ekey
      refine k_Catalog_keepFirst (n := 3) (o := N (3 + sp_bt V (a + 26))) rfl (by decide) (by omega) (hgb _) (hN.2.1 _ (by omega)) (fun hn S' hS' => ?_) (fun hn => ?_)
      · subst hS'
        refine px_vq_i (hQ _ ?_ (fun j h9 h10 => ?_) (fun i hi => ?_))
        · rw [ekey, nt_add_0 hn]; exact nt_put_k hN (by omega) hn
        · rw [px_ua, if_neg (fun z => h9 z.2), px_u_ne _ _ _ (by decide)]
        · rw [px_u_ne _ _ _ (by omega), px_u_ne _ _ _ (by omega)]
      · exact px_vq_i (hQ S (by rw [ekey, nt_add_1 hn]; exact hN) (fun _ _ _ => rfl) (fun _ _ => rfl))
    · have nf : ¬ nt_f V M a := fun z => absurd (c.symm.trans z.1) (by decide)
      have nk : ¬ nt_k V M a := fun z => absurd (c.symm.trans z.1) (by decide)
      rw [sq_lf nf, sq_lf nk] at ekey
      refine ⟨fun c1 => px_vq_i (none' (ekey.trans (sq_lf (fun z => ?_) _ _))), fun c1 => ?_⟩
      · apply c1; rw [z.2]; rfl
      have c1' : pk_bl V a = 9 := (nI_eq (b := 9) (by omega) (by decide)).mp c1
      rw [sq_lt ⟨c, c1'⟩] at ekey
      refine k_Catalog_keepFirst (n := 256) (o := N (6 + sp_bt V (a + 26))) rfl (by decide) hx (hgb _) (hN.2.2.1 _ hx) (fun hn S' hS' => ⟨fun z => absurd z (by decide), fun _ => ?_⟩) (fun hn => ⟨fun _ => ?_, fun z => absurd rfl z⟩)
      · refine px_vq_i (hQ _ ?_ (fun j h9 h10 => ?_) (fun i hi => ?_))
        · rw [ekey, nt_add_0 hn]; exact nt_put_r hN hx hn hS'
        · rw [px_ua, if_neg (fun z => h10 z.2), hS', px_ua, if_neg (fun z => h9 z.2), px_u_ne _ _ _ (by decide)]
        · rw [px_u_ne _ _ _ (by omega), hS', px_u_ne _ _ _ (by omega), px_u_ne _ _ _ (by omega)]
      · exact px_vq_i (hQ S (by rw [ekey, nt_add_1 hn]; exact hN) (fun _ _ _ => rfl) (fun _ _ => rfl))
    · rw [ekey, sq_lf (fun z => c.1 z.1), sq_lf (fun z => c.2.1 z.1), sq_lf (fun z => c.2.2 z.1)]
  rw [nI_leI (by omega) (by omega)]
  exact ⟨fun c => main 0 ⟨fun _ => c, fun _ => rfl⟩, fun c => main 1 ⟨fun z => absurd z (by decide), fun z => absurd z c⟩⟩
end
