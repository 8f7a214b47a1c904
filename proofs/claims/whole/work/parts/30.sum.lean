/-! Sum -/
section
variable {G : px_G} {d : Nat} {S : px_S}
def sm_at (S : px_S) (L : List Int32) : Prop := S 18 3 = nI L.length ∧ ∀ j, j < L.length → S 19 j = L.getD j 0
theorem k_Sum_add {Q : px_S → Prop} {v : Int32} {L : List Int32} (hw : sm_at S L) (hl : L.length < 768) (hQ : ∀ S', sm_at S' (L ++ [v &&& 255]) → (∀ i, i ≠ 18 → i ≠ 19 → S' i = S i) → Q S') : px_V G px_Zc d m_Sum_add [.ref 18, .int v] S Q := by
  refine f_Sum_add ⟨fun h => ?_, fun h => ⟨?_, ?_⟩⟩
  · rw [hw.1] at h
    exact absurd h (nI_ge hl (by decide))
  · rw [hw.1]; exact vp_in_nI hl (by decide)
  · rintro S1 rfl
    rw [hw.1, nI_clamp (by omega)]
    refine px_vq_i (hQ _ ⟨?_, fun j hj => ?_⟩ (fun i h1 h2 => ?_))
    · rw [px_us, px_ua, if_neg (by omega), hw.1, nI_1, List.length_append]
      rfl
    · rw [List.length_append] at hj
      rw [px_ua, if_neg (by omega), px_ua, ls_getD_app L _ hj]
      by_cases hjl : j = L.length
      · rw [if_pos ⟨rfl, hjl⟩, if_pos hjl]
      · rw [if_neg (fun z => hjl z.2), if_neg hjl]
        have : [v &&& 255].length = 1 := rfl
        exact hw.2 j (by omega)
    · rw [px_u_ne _ _ _ h1, px_u_ne _ _ _ h2]
theorem k_Sum_begin {Q : px_S → Prop} (hQ : ∀ S', sm_at S' [] → (∀ i, i ≠ 18 → S' i = S i) → Q S') : px_V G px_Zc d m_Sum_begin [.ref 18] S Q := by
  refine f_Sum_begin (px_vq_i (hQ _ ⟨?_, fun j hj => ?_⟩ (fun i hi => px_u_ne S 3 0 hi)))
  · rw [px_us]; rfl
  · simp at hj
theorem k_Sum_addAll {Q : px_S → Prop} {o no a c : Nat} {L Lo : List Int32} (hRo : rw_is o no) (ho : rw_at S o Lo) (hlo : Lo.length ≤ no) (hb : ls_by Lo) (h1 : o ≠ 18) (h2 : o ≠ 19) (h3 : o ≠ 17) (hw : sm_at S L) (hac : a + c < 2 ^ 31) (hl : L.length + c ≤ 768) (hQ : ∀ S', sm_at S' (L ++ ls_sl Lo a c) → (∀ i, i ≠ 18 → i ≠ 19 → S' i = S i) → Q S') : px_V G px_Zc (d + 1) m_Sum_addAll [.ref 18, .ref o, .int (nI a), .int (nI c)] S Q := by
  refine f_Sum_addAll ?_
  have key : ∀ (m i : Nat) (S' : px_S), m + i = c → sm_at S' (L ++ ls_sl Lo a i) → (∀ j, j ≠ 18 → j ≠ 19 → S' j = S j) → px_w G px_Zc (d + 1) m_Sum_addAll 3 [.ref 18, .ref o, .int (nI a), .int (nI c), .int (nI i)] [] S' (px_vq Q) := by
    intro m
    induction m with
    | zero =>
      intro i S' hi hw hf
      refine e_Sum_addAll_3 ⟨fun h => px_vq_i ?_, fun h => ?_⟩
      · have : i = c := by omega
        subst this
        exact hQ S' hw hf
      · rw [nI_leI (by omega) (by omega)] at h
        omega
    | succ m ih =>
      intro i S' hi hw hf
      refine e_Sum_addAll_3 ⟨fun h => ?_, fun h => ?_⟩
      · rw [nI_leI (by omega) (by omega)] at h
        omega
      · rw [nI_add]
        refine k_Row_get hRo (ho.of (hf o h1 h2) (hf (o + 1) (by omega) (by omega))) hlo (by omega) ?_
        refine k_Sum_add hw (by rw [List.length_append, ls_sl_len]; omega) (fun S2 hw2 hf2 => ?_)
        rw [ls_by_getD hb, List.append_assoc, ← ls_sl_succ] at hw2
        rw [nI_1]
        exact ih (i + 1) S2 (by omega) hw2 (fun j h1 h2 => (hf2 j h1 h2).trans (hf j h1 h2))
  exact key c 0 S (by omega) (by rw [show ls_sl Lo a 0 = [] from rfl, List.append_nil]; exact hw) (fun _ _ _ => rfl)
theorem k_Sum_get {Q : Int32 → px_S → Prop} {i : Nat} {s : md_S} (hs : ∀ j, j < 4 → S 21 j = md_wd s j) (hi : i < 16) (hQ : Q (md_b s i) S) : px_I G px_Zc d m_Sum_get [.ref 18, .int (nI i)] S Q := by
  refine f_Sum_get ⟨fun h => absurd h (nI_pos (by omega)), fun h => ⟨fun h2 => ?_, fun h2 => ?_⟩⟩
  · exact absurd h2 (nI_ge hi (by decide))
  · have e1 : nI i / 4 = nI (i / 4) := pk_div (by omega) (by decide) (by decide)
    have e2 : px_rem (nI i) 4 = nI (i % 4) := px_remN (by omega) (by decide) (by decide)
    have e3 : (8 : Int32) * nI (i % 4) = nI (8 * (i % 4)) := pk_mul 8 (i % 4)
    rw [e1, e2, e3, nI_clamp (by omega), hs _ (by omega)]
    exact ⟨vp_in_nI (by omega) (by decide), px_iq_i hQ⟩
end
section
variable {G : px_G} {d : Nat} {S : px_S}
theorem k_Sum_mix {Q : px_S → Prop} {j : Nat} (hj : j < 12) (hQ : ∀ S', (∀ t, t < 4 → S' 21 t = md_wd (md_blk (md_w (S 19) (64 * j)) (S 21 0, S 21 1, S 21 2, S 21 3)) t) → (∀ i, i ≠ 20 → i ≠ 21 → S' i = S i) → Q S') : px_V G px_Zc d m_Sum_mix [.ref 18, .int (nI (64 * j))] S Q := by
  refine f_Sum_mix ?_
  -- the rounds
  have rounds : ∀ (S' : px_S), (∀ t, t < 16 → S' 20 t = md_w (S 19) (64 * j) t) → (∀ i, i ≠ 20 → S' i = S i) → ∀ (m i : Nat) (s : md_S), m + i = 64 → s = md_r (md_w (S 19) (64 * j)) (S 21 0, S 21 1, S 21 2, S 21 3) i →
      px_w G px_Zc d m_Sum_mix 101 [.ref 18, .int (nI (64 * j)), .int s.1, .int s.2.1, .int s.2.2.1, .int s.2.2.2, .int (nI i), .null, .null, .null, .null] [] S' (px_vq Q) := by
    intro S' hw hf m
    induction m with
    | zero =>
      intro i s hi hs
      have h64 : i = 64 := by omega
      subst h64
      refine e_Sum_mix_101 ⟨fun h => ?_, fun h => absurd (Int32.le_refl _) h⟩
      have e21 : S' 21 = S 21 := hf 21 (by decide)
      rintro S2 rfl
      refine px_vq_i (hQ _ (fun t ht => ?_) (fun i h1 h2 => ?_))
      · have : t = 0 ∨ t = 1 ∨ t = 2 ∨ t = 3 := by omega
        rcases this with rfl | rfl | rfl | rfl <;> simp [px_ua, md_wd, md_blk, e21, ← hs]
      · rw [px_u_ne _ _ _ h2, px_u_ne _ _ _ h2, px_u_ne _ _ _ h2, px_u_ne _ _ _ h2, hf i h1]
    | succ m ih =>
      intro i s hi hs
      have step : ∀ (f g : Int32), f = md_f i s.2.1 s.2.2.1 s.2.2.2 → g = nI (md_g i) → px_w G px_Zc d m_Sum_mix 212 [.ref 18, .int (nI (64 * j)), .int s.1, .int s.2.1, .int s.2.2.1, .int s.2.2.2, .int (nI i), .int f, .int g, .null, .null] [] S' (px_vq Q) := by
        rintro f g rfl rfl
        have hg : md_g i < 2 ^ 31 := md_g_lt (by omega)
        have e1 : px_rem (nI (md_g i)) 16 = nI (md_g i % 16) := px_remN hg (by decide) (by decide)
        have e2 : nI i / 16 * 4 + px_rem (nI i) 4 = nI (i / 16 * 4 + i % 4) := by
          have a1 : nI i / 16 = nI (i / 16) := pk_div (by omega) (by decide) (by decide)
          have a2 : px_rem (nI i) 4 = nI (i % 4) := px_remN (by omega) (by decide) (by decide)
          have a3 : nI (i / 16) * 4 = nI (i / 16 * 4) := pk_mul (i / 16) 4
          rw [a1, a2, a3, nI_add]
        refine e_Sum_mix_212 ⟨vp_in_nI (by omega) (by decide), ?_⟩
        rw [e1, e2, nI_clamp (by omega), nI_clamp (by omega), nI_clamp (by omega)]
        refine ⟨vp_in_nI (Nat.mod_lt _ (by decide)) (by decide), ?_⟩
        rintro y4 rfl
        refine ⟨vp_in_nI (by omega) (by decide), ?_⟩
        rintro y5 rfl y6 rfl
        rw [hw _ (Nat.mod_lt _ (by decide)), nI_1]
        exact ih (i + 1) (md_step (md_w (S 19) (64 * j)) i s) (by omega) (by rw [hs]; rfl)
      refine e_Sum_mix_101 ⟨fun h => absurd h (nI_ge (b := 64) (by omega) (by decide)), fun h => ⟨fun h1 => ⟨fun h2 => ⟨fun h3 => ?_, fun h3 => ?_⟩, fun h2 => ?_⟩, fun h1 => ?_⟩⟩
      · have c1 : 48 ≤ i := (nI_leI (a := 48) (by decide) (by omega)).mp h3
        refine step _ _ ?_ ?_
        · unfold md_f; rw [if_neg (by omega), if_neg (by omega), if_neg (by omega)]
        · unfold md_g; rw [if_neg (by omega), if_neg (by omega), if_neg (by omega)]; exact pk_mul 7 i
      · have c1 : 32 ≤ i := (nI_leI (a := 32) (by decide) (by omega)).mp h2
        have c2 : ¬ 48 ≤ i := fun z => h3 ((nI_leI (a := 48) (by decide) (by omega)).mpr z)
        refine step _ _ ?_ ?_
        · unfold md_f; rw [if_neg (by omega), if_neg (by omega), if_pos (by omega)]
        · unfold md_g; rw [if_neg (by omega), if_neg (by omega), if_pos (by omega), ← nI_add, ← pk_mul]; rfl
      · have c1 : 16 ≤ i := (nI_leI (a := 16) (by decide) (by omega)).mp h1
        have c2 : ¬ 32 ≤ i := fun z => h2 ((nI_leI (a := 32) (by decide) (by omega)).mpr z)
        refine step _ _ ?_ ?_
        · unfold md_f; rw [if_neg (by omega), if_pos (by omega)]
        · unfold md_g; rw [if_neg (by omega), if_pos (by omega), ← nI_add, ← pk_mul]; rfl
      · have c2 : ¬ 16 ≤ i := fun z => h1 ((nI_leI (a := 16) (by decide) (by omega)).mpr z)
        refine step _ _ ?_ ?_
        · unfold md_f; rw [if_pos (by omega)]
        · unfold md_g; rw [if_pos (by omega)]
  -- the words
  have words : ∀ (m t : Nat) (S' : px_S), m + t = 16 → (∀ u, u < t → S' 20 u = md_w (S 19) (64 * j) u) → (∀ i, i ≠ 20 → S' i = S i) → px_w G px_Zc d m_Sum_mix 2 [.ref 18, .int (nI (64 * j)), .int (nI t), .null, .null, .null, .null, .null, .null, .null, .null] [] S' (px_vq Q) := by
    intro m
    induction m with
    | zero =>
      intro t S' ht hw hf
      have h16 : t = 16 := by omega
      subst h16
      refine e_Sum_mix_2 ⟨fun h => ?_, fun h => absurd (Int32.le_refl _) h⟩
      have e21 : S' 21 = S 21 := hf 21 (by decide)
      rw [e21]
      exact rounds S' hw hf 64 0 (S 21 0, S 21 1, S 21 2, S 21 3) (by omega) rfl
    | succ m ih =>
      intro t S' ht hw hf
      refine e_Sum_mix_2 ⟨fun h => absurd h (nI_ge (b := 16) (by omega) (by decide)), fun h => ?_⟩
      have e0 : nI (64 * j) + 4 * nI t = nI (64 * j + 4 * t) := by
        have : (4 : Int32) * nI t = nI (4 * t) := pk_mul 4 t
        rw [this, nI_add]
      have e1 : nI (64 * j + 4 * t) + 1 = nI (64 * j + 4 * t + 1) := nI_add _ 1
      have e2 : nI (64 * j + 4 * t) + 2 = nI (64 * j + 4 * t + 2) := nI_add _ 2
      have e3 : nI (64 * j + 4 * t) + 3 = nI (64 * j + 4 * t + 3) := nI_add _ 3
      rw [e0, e1, e2, e3, nI_clamp (by omega), nI_clamp (by omega), nI_clamp (by omega), nI_clamp (by omega), nI_clamp (by omega), nI_1]
      refine ⟨vp_in_nI (by omega) (by decide), vp_in_nI (by omega) (by decide), vp_in_nI (by omega) (by decide), vp_in_nI (by omega) (by decide), vp_in_nI (by omega) (by decide), ?_⟩
      rintro S1 rfl
      have e19 : S' 19 = S 19 := hf 19 (by decide)
      refine ih (t + 1) _ (by omega) (fun u hu => ?_) (fun i hi => (px_u_ne _ _ _ hi).trans (hf i hi))
      rw [px_ua]
      by_cases hut : u = t
      · subst hut
        rw [if_pos ⟨rfl, rfl⟩, e19]
        rfl
      · rw [if_neg (fun z => hut z.2)]
        exact hw u (by omega)
  exact words 16 0 S (by omega) (fun u hu => by omega) (fun _ _ => rfl)
end
section
variable {G : px_G} {d : Nat} {S : px_S}
theorem k_Sum_end {Q : px_S → Prop} {L : List Int32} (hw : sm_at S L) (hl : L.length ≤ 696) (hQ : ∀ S', (∀ t, t < 4 → S' 21 t = md_wd (md_sum L) t) → (∀ i, i < 18 ∨ 21 < i → S' i = S i) → Q S') : px_V G px_Zc (d + 1) m_Sum_end [.ref 18] S Q := by
  have hz : md_z L.length < 64 := Nat.mod_lt _ (by decide)
  have hP : (md_pad L).length ≤ 768 := by
    have := md_pad_64 L
    rw [md_pad_len] at this ⊢
    omega
  -- the blocks
  have blocks : ∀ (x1 : Int32) (m j : Nat) (S' : px_S), m + j = (md_pad L).length / 64 → S' 18 3 = nI (md_pad L).length → (∀ i, i < (md_pad L).length → S' 19 i = (md_pad L).getD i 0) → (∀ t, t < 4 → S' 21 t = md_wd (md_all (fun i => (md_pad L).getD i 0) j) t) → (∀ i, i < 18 ∨ 21 < i → S' i = S i) →
      px_w G px_Zc (d + 1) m_Sum_end 113 [.ref 18, .int x1, .int (nI (64 * j))] [] S' (px_vq Q) := by
    intro x1 m
    have h64 := md_pad_64 L
    induction m with
    | zero =>
      intro j S' hj hc hm hs hf
      have ej : 64 * j = (md_pad L).length := by omega
      refine e_Sum_end_113 ⟨fun h => px_vq_i (hQ S' (fun t ht => ?_) hf), fun h => ?_⟩
      · rw [hs t ht]
        unfold md_sum
        rw [show j = (md_pad L).length / 64 by omega]
      · rw [hc, show nI (64 * j) + 64 = nI (64 * j + 64) from nI_add _ 64] at h
        exact absurd (nI_lt (by omega) (by omega)) h
    | succ m ih =>
      intro j S' hj hc hm hs hf
      refine e_Sum_end_113 ⟨fun h => ?_, fun h => ?_⟩
      · rw [hc, show nI (64 * j) + 64 = nI (64 * j + 64) from nI_add _ 64, nI_ltI (by omega) (by omega)] at h
        omega
      · refine k_Sum_mix (by omega) (fun S2 h2 hf2 => ?_)
        rw [show nI (64 * j) + 64 = nI (64 * (j + 1)) from nI_add _ 64]
        refine ih (j + 1) S2 (by omega) ?_ ?_ ?_ ?_
        · rw [hf2 18 (by decide) (by decide)]; exact hc
        · rw [hf2 19 (by decide) (by decide)]; exact hm
        · intro t ht
          rw [h2 t ht]
          show md_wd _ t = md_wd (md_blk (md_w (fun i => (md_pad L).getD i 0) (64 * j)) (md_all (fun i => (md_pad L).getD i 0) j)) t
          have e1 : (S' 21 0, S' 21 1, S' 21 2, S' 21 3) = md_all (fun i => (md_pad L).getD i 0) j := by
            rw [hs 0 (by decide), hs 1 (by decide), hs 2 (by decide), hs 3 (by decide)]
            rfl
          rw [e1, md_blk_congr (md_w_congr (m' := fun i => (md_pad L).getD i 0) (fun i hi => hm i (by omega)))]
        · intro i hi
          rw [hf2 i (by omega) (by omega)]
          exact hf i hi
  -- the length
  have lens : ∀ (m k : Nat) (S' : px_S), m + k = 8 → sm_at S' (L ++ [128] ++ List.replicate (md_z L.length) 0 ++ (List.range k).map (fun k => if k < 4 then px_ushr (nI (8 * L.length)) (nI (8 * k)) &&& 255 else 0)) → (∀ i, i < 18 ∨ 21 < i → S' i = S i) →
      px_w G px_Zc (d + 1) m_Sum_end 48 [.ref 18, .int (nI (8 * L.length)), .int (nI k)] [] S' (px_vq Q) := by
    intro m
    induction m with
    | zero =>
      intro k S' hk hs hf
      have h8 : k = 8 := by omega
      subst h8
      refine e_Sum_end_48 ⟨fun h => ?_, fun h => absurd (Int32.le_refl _) h⟩
      rintro S3 rfl
      refine blocks _ ((md_pad L).length / 64) 0 _ (by omega) ?_ ?_ ?_ ?_
      · rw [px_u_ne _ _ _ (by decide), px_u_ne _ _ _ (by decide), px_u_ne _ _ _ (by decide), px_u_ne _ _ _ (by decide)]
        exact hs.1
      · rw [px_u_ne _ _ _ (by decide), px_u_ne _ _ _ (by decide), px_u_ne _ _ _ (by decide), px_u_ne _ _ _ (by decide)]
        exact hs.2
      · intro t ht
        have : t = 0 ∨ t = 1 ∨ t = 2 ∨ t = 3 := by omega
        rcases this with rfl | rfl | rfl | rfl <;> simp [px_ua, md_wd, md_all, md_0]
      · intro i hi
        rw [px_u_ne _ _ _ (by omega), px_u_ne _ _ _ (by omega), px_u_ne _ _ _ (by omega), px_u_ne _ _ _ (by omega)]
        exact hf i hi
    | succ m ih =>
      intro k S' hk hs hf
      have hlen : (L ++ [128] ++ List.replicate (md_z L.length) (0 : Int32) ++ (List.range k).map (fun k => if k < 4 then px_ushr (nI (8 * L.length)) (nI (8 * k)) &&& 255 else 0)).length < 768 := by
        rw [md_pad_len] at hP
        simp
        omega
      have e8 : (8 : Int32) * nI k = nI (8 * k) := pk_mul 8 k
      refine e_Sum_end_48 ⟨fun h => absurd h (nI_ge (b := 8) (by omega) (by decide)), fun h => ⟨fun h2 => ?_, fun h2 => ?_⟩⟩
      · have c : 4 ≤ k := (nI_leI (a := 4) (by decide) (by omega)).mp h2
        refine k_Sum_add hs hlen (fun S2 h3 hf2 => ?_)
        rw [nI_1]
        refine ih (k + 1) S2 (by omega) ?_ (fun i hi => (hf2 i (by omega) (by omega)).trans (hf i hi))
        rw [List.append_assoc] at h3
        rw [List.range_succ, List.map_append, List.map_cons, List.map_nil, if_neg (by omega)]
        exact h3
      · have c : ¬ 4 ≤ k := fun z => h2 ((nI_leI (a := 4) (by decide) (by omega)).mpr z)
        rw [e8]
        refine k_Sum_add hs hlen (fun S2 h3 hf2 => ?_)
        rw [nI_1]
        refine ih (k + 1) S2 (by omega) ?_ (fun i hi => (hf2 i (by omega) (by omega)).trans (hf i hi))
        rw [List.append_assoc] at h3
        rw [List.range_succ, List.map_append, List.map_cons, List.map_nil, if_pos (by omega)]
        exact h3
  -- the zeros
  have zeros : ∀ (m z : Nat) (S' : px_S), m + z = md_z L.length → sm_at S' (L ++ [128] ++ List.replicate z 0) → (∀ i, i < 18 ∨ 21 < i → S' i = S i) →
      px_w G px_Zc (d + 1) m_Sum_end 17 [.ref 18, .int (nI (8 * L.length)), .int (nI z)] [] S' (px_vq Q) := by
    intro m
    induction m with
    | zero =>
      intro z S' hzz hs hf
      have e : z = md_z L.length := by omega
      subst e
      have hgo := lens 8 0 S' (by omega) (by rw [List.range_zero, List.map_nil, List.append_nil]; exact hs) hf
      refine e_Sum_end_17 ⟨fun h => hgo, fun h => ⟨fun h2 => hgo, fun h2 => absurd ?_ h2⟩⟩
      have hlen : (L ++ [128] ++ List.replicate (md_z L.length) (0 : Int32)).length = L.length + 1 + md_z L.length := by simp; omega
      rw [hs.1, hlen]
      rw [show px_rem (nI (L.length + 1 + md_z L.length)) 64 = nI ((L.length + 1 + md_z L.length) % 64) from px_remN (by omega) (by decide) (by decide)]
      rw [show (L.length + 1 + md_z L.length) % 64 = 56 by unfold md_z; omega]
      rfl
    | succ m ih =>
      intro z S' hzz hs hf
      refine e_Sum_end_17 ⟨fun h => absurd h (nI_ge (b := 64) (by omega) (by decide)), fun h => ⟨fun h2 => ?_, fun h2 => ?_⟩⟩
      · have hlen : (L ++ [128] ++ List.replicate z (0 : Int32)).length = L.length + 1 + z := by simp; omega
        rw [hs.1, hlen] at h2
        rw [show px_rem (nI (L.length + 1 + z)) 64 = nI ((L.length + 1 + z) % 64) from px_remN (by omega) (by decide) (by decide)] at h2
        have h3 := (nI_eq (b := 56) (by omega) (by decide)).mp h2
        unfold md_z at hzz
        omega
      · refine k_Sum_add hs (by simp; omega) (fun S2 h3 hf2 => ?_)
        rw [nI_1]
        refine ih (z + 1) S2 (by omega) ?_ (fun i hi => (hf2 i (by omega) (by omega)).trans (hf i hi))
        rw [List.append_assoc] at h3
        rw [List.replicate_succ']
        exact h3
  refine f_Sum_end (k_Sum_add hw (by omega) (fun S1 h1 hf1 => ?_))
  have e8 : (8 : Int32) * S 18 3 = nI (8 * L.length) := by
    rw [hw.1]
    exact pk_mul 8 L.length
  rw [e8]
  exact zeros (md_z L.length) 0 S1 (by omega) (by rw [List.replicate_zero, List.append_nil]; exact h1) (fun i hi => hf1 i (by omega) (by omega))
theorem k_Sum_of {Q : px_S → Prop} {o no a c : Nat} {Lo : List Int32} (hRo : rw_is o no) (ho : rw_at S o Lo) (hlo : Lo.length ≤ no) (hb : ls_by Lo) (h1 : o ≠ 18) (h2 : o ≠ 19) (h3 : o ≠ 17) (hac : a + c < 2 ^ 31) (hl : c ≤ 696) (hQ : ∀ S', (∀ t, t < 4 → S' 21 t = md_wd (md_sum (ls_sl Lo a c)) t) → (∀ i, i < 18 ∨ 21 < i → S' i = S i) → Q S') : px_V G px_Zc (d + 3) m_Sum_of [.ref 18, .ref o, .int (nI a), .int (nI c)] S Q := by
  refine f_Sum_of (k_Sum_begin (fun S1 w1 f1 => k_Sum_addAll hRo (ho.of (f1 o h1) (f1 (o + 1) (by omega))) hlo hb h1 h2 h3 w1 hac (by simp; omega) (fun S2 w2 f2 => k_Sum_end w2 (by simp [ls_sl_len]; omega) (fun S3 w3 f3 => px_vq_i (hQ S3 ?_ ?_)))))
  · rw [List.nil_append] at w3
    exact w3
  · intro i hi
    rw [f3 i hi, f2 i (by omega) (by omega), f1 i (by omega)]
end
