/-! The reference: its sum -/
def rf_ok (S : px_S) : Prop := (∀ j, j < 64 → S 1 j = px_t0.getD j 0) ∧ ∀ j, j < 12 → S 2 j = px_t2.getD j 0
def rf_at (S : px_S) (L : List Int32) : Prop := S 0 8 = nI L.length ∧ ∀ j, j < L.length → S 7 j = L.getD j 0
/-- nothing but what makes sums has changed -/
def rf_fr (S S' : px_S) : Prop := (∀ j, j ≠ 8 → S' 0 j = S 0 j) ∧ ∀ i, i ≠ 0 → i ≠ 7 → i ≠ 8 → i ≠ 9 → S' i = S i
theorem rf_fr.rf (S : px_S) : rf_fr S S := ⟨fun _ _ => rfl, fun _ _ _ _ _ => rfl⟩
theorem rf_fr.tr {S S1 S2 : px_S} (h : rf_fr S S1) (h2 : rf_fr S1 S2) : rf_fr S S2 := ⟨fun j hj => (h2.1 j hj).trans (h.1 j hj), fun i a b c e => (h2.2 i a b c e).trans (h.2 i a b c e)⟩
section
variable {G : px_G} {d : Nat} {S : px_S}
theorem k_Mo_put {Q : px_S → Prop} {v : Int32} {L : List Int32} (hw : rf_at S L) (hl : L.length < 900) (hQ : ∀ S', rf_at S' (L ++ [v &&& 255]) → rf_fr S S' → S' 8 = S 8 → S' 9 = S 9 → Q S') : px_V G px_Zr d m_Mo_put [.ref 0, .int v] S Q := by
  refine f_Mo_put ⟨?_, ?_⟩
  · rw [hw.1]; exact vp_in_nI hl (by decide)
  · rintro S1 rfl
    rw [hw.1, nI_clamp (by omega)]
    refine px_vq_i (hQ _ ⟨?_, fun j hj => ?_⟩ ⟨fun j hj => ?_, fun i h1 h2 _ _ => ?_⟩ ?_ ?_)
    · rw [px_us, px_ua, if_neg (by omega), hw.1, nI_1, List.length_append]
      rfl
    · rw [List.length_append] at hj
      rw [px_ua, if_neg (by omega), px_ua, ls_getD_app L _ hj]
      by_cases hjl : j = L.length
      · rw [if_pos ⟨rfl, hjl⟩, if_pos hjl]
      · rw [if_neg (fun z => hjl z.2), if_neg hjl]
        have : [v &&& 255].length = 1 := rfl
        exact hw.2 j (by omega)
    · rw [px_ua, if_neg (fun z => hj z.2), px_ua, if_neg (by omega)]
    · rw [px_u_ne _ _ _ h1, px_u_ne _ _ _ h2]
    · rw [px_u_ne _ _ _ (by decide), px_u_ne _ _ _ (by decide)]
    · rw [px_u_ne _ _ _ (by decide), px_u_ne _ _ _ (by decide)]
theorem k_Mo_turned {Q : Int32 → px_S → Prop} {x y : Int32} (hQ : Q ((px_shl x y) ||| (px_ushr x (32 - y))) S) : px_I G px_Zr d m_Mo_turned [.int x, .int y] S Q := f_Mo_turned (px_iq_i hQ)
theorem k_Mo_shift {Q : Int32 → px_S → Prop} {i : Nat} (hi : i < 64) (hQ : Q (md_t i) S) : px_I G px_Zr d m_Mo_shift [.int (nI i)] S Q := by
  have e2 : px_rem (nI i) 4 = nI (i % 4) := px_remN (by omega) (by decide) (by decide)
  have g : ∀ a : Nat, a < 2 ^ 31 → (nI a ≤ nI i ↔ a ≤ i) := fun a ha => nI_leI ha (by omega)
  have r : ∀ a : Nat, a < 4 → (nI (i % 4) = nI a ↔ i % 4 = a) := fun a ha => nI_eq (by omega) (by omega)
  have t1 : ∀ i, i < 64 → 48 ≤ i → md_t i = if i % 4 = 0 then 6 else if i % 4 = 1 then 10 else if i % 4 = 2 then 15 else 21 := by decide +kernel
  have t2 : ∀ i, i < 48 → 32 ≤ i → md_t i = if i % 4 = 0 then 4 else if i % 4 = 1 then 11 else if i % 4 = 2 then 16 else 23 := by decide +kernel
  have t3 : ∀ i, i < 32 → 16 ≤ i → md_t i = if i % 4 = 0 then 5 else if i % 4 = 1 then 9 else if i % 4 = 2 then 14 else 20 := by decide +kernel
  have t4 : ∀ i, i < 16 → md_t i = 7 + 5 * nI (i % 4) := by decide +kernel
  refine f_Mo_shift ?_
  rw [e2]
  refine ⟨fun h => ⟨fun h2 => ⟨fun h3 => ⟨fun h4 => ⟨fun h5 => ⟨fun h6 => ?_, fun h6 => ?_⟩, fun h5 => ?_⟩, fun h4 => ?_⟩, fun h3 => ⟨fun h4 => ⟨fun h5 => ⟨fun h6 => ?_, fun h6 => ?_⟩, fun h5 => ?_⟩, fun h4 => ?_⟩⟩, fun h2 => ⟨fun h4 => ⟨fun h5 => ⟨fun h6 => ?_, fun h6 => ?_⟩, fun h5 => ?_⟩, fun h4 => ?_⟩⟩, fun h => ?_⟩
  · have c := (g 48 (by decide)).mp h3
    rw [t1 i hi c, if_neg (fun z => h4 ((r 0 (by decide)).mpr z)), if_neg (fun z => h5 ((r 1 (by decide)).mpr z)), if_neg (fun z => h6 ((r 2 (by decide)).mpr z))] at hQ
    exact px_iq_i hQ
  · have c := (g 48 (by decide)).mp h3
    rw [t1 i hi c, if_neg (fun z => h4 ((r 0 (by decide)).mpr z)), if_neg (fun z => h5 ((r 1 (by decide)).mpr z)), if_pos ((r 2 (by decide)).mp h6)] at hQ
    exact px_iq_i hQ
  · have c := (g 48 (by decide)).mp h3
    rw [t1 i hi c, if_neg (fun z => h4 ((r 0 (by decide)).mpr z)), if_pos ((r 1 (by decide)).mp h5)] at hQ
    exact px_iq_i hQ
  · have c := (g 48 (by decide)).mp h3
    rw [t1 i hi c, if_pos ((r 0 (by decide)).mp h4)] at hQ
    exact px_iq_i hQ
  · have c := (g 32 (by decide)).mp h2
    have c' : ¬ 48 ≤ i := fun z => h3 ((g 48 (by decide)).mpr z)
    rw [t2 i (by omega) c, if_neg (fun z => h4 ((r 0 (by decide)).mpr z)), if_neg (fun z => h5 ((r 1 (by decide)).mpr z)), if_neg (fun z => h6 ((r 2 (by decide)).mpr z))] at hQ
    exact px_iq_i hQ
  · have c := (g 32 (by decide)).mp h2
    have c' : ¬ 48 ≤ i := fun z => h3 ((g 48 (by decide)).mpr z)
    rw [t2 i (by omega) c, if_neg (fun z => h4 ((r 0 (by decide)).mpr z)), if_neg (fun z => h5 ((r 1 (by decide)).mpr z)), if_pos ((r 2 (by decide)).mp h6)] at hQ
    exact px_iq_i hQ
  · have c := (g 32 (by decide)).mp h2
    have c' : ¬ 48 ≤ i := fun z => h3 ((g 48 (by decide)).mpr z)
    rw [t2 i (by omega) c, if_neg (fun z => h4 ((r 0 (by decide)).mpr z)), if_pos ((r 1 (by decide)).mp h5)] at hQ
    exact px_iq_i hQ
  · have c := (g 32 (by decide)).mp h2
    have c' : ¬ 48 ≤ i := fun z => h3 ((g 48 (by decide)).mpr z)
    rw [t2 i (by omega) c, if_pos ((r 0 (by decide)).mp h4)] at hQ
    exact px_iq_i hQ
  · have c := (g 16 (by decide)).mp h
    have c' : ¬ 32 ≤ i := fun z => h2 ((g 32 (by decide)).mpr z)
    rw [t3 i (by omega) c, if_neg (fun z => h4 ((r 0 (by decide)).mpr z)), if_neg (fun z => h5 ((r 1 (by decide)).mpr z)), if_neg (fun z => h6 ((r 2 (by decide)).mpr z))] at hQ
    exact px_iq_i hQ
  · have c := (g 16 (by decide)).mp h
    have c' : ¬ 32 ≤ i := fun z => h2 ((g 32 (by decide)).mpr z)
    rw [t3 i (by omega) c, if_neg (fun z => h4 ((r 0 (by decide)).mpr z)), if_neg (fun z => h5 ((r 1 (by decide)).mpr z)), if_pos ((r 2 (by decide)).mp h6)] at hQ
    exact px_iq_i hQ
  · have c := (g 16 (by decide)).mp h
    have c' : ¬ 32 ≤ i := fun z => h2 ((g 32 (by decide)).mpr z)
    rw [t3 i (by omega) c, if_neg (fun z => h4 ((r 0 (by decide)).mpr z)), if_pos ((r 1 (by decide)).mp h5)] at hQ
    exact px_iq_i hQ
  · have c := (g 16 (by decide)).mp h
    have c' : ¬ 32 ≤ i := fun z => h2 ((g 32 (by decide)).mpr z)
    rw [t3 i (by omega) c, if_pos ((r 0 (by decide)).mp h4)] at hQ
    exact px_iq_i hQ
  · have c' : ¬ 16 ≤ i := fun z => h ((g 16 (by decide)).mpr z)
    rw [t4 i (by omega)] at hQ
    exact px_iq_i hQ
end
section
variable {G : px_G} {d : Nat} {S : px_S}
theorem k_Mo_makeSum {Q : px_S → Prop} {L : List Int32} (hok : rf_ok S) (hw : rf_at S L) (hl : L.length ≤ 800) (hQ : ∀ S', (∀ i, i < 16 → S' 9 i = md_b (md_sum L) i) → rf_fr S S' → Q S') : px_V G px_Zr (d + 1) m_Mo_makeSum [.ref 0] S Q := by
  have hz : md_z L.length < 64 := Nat.mod_lt _ (by decide)
  have hP : (md_pad L).length ≤ 896 := by
    have := md_pad_64 L
    rw [md_pad_len] at this ⊢
    omega
  have h64 := md_pad_64 L
  -- the bytes of the sum
  have bytes : ∀ (x1 : Int32) (s : md_S), s = md_sum L → ∀ (m i : Nat) (S' : px_S), m + i = 4 → (∀ u w, u < i → w < 4 → S' 9 (4 * w + u) = md_b s (4 * w + u)) → rf_fr S S' →
      px_w G px_Zr (d + 1) m_Mo_makeSum 416 [.ref 0, .int x1, .int s.1, .int s.2.1, .int s.2.2.1, .int s.2.2.2, .int (nI i), .null, .null, .null, .null, .null, .null, .null, .null] [] S' (px_vq Q) := by
    intro x1 s hs m
    induction m with
    | zero =>
      intro i S' hi hb hf
      have h4 : i = 4 := by omega
      subst h4
      refine e_Mo_makeSum_416 ⟨fun h => px_vq_i (hQ S' (fun j hj => ?_) hf), fun h => absurd (Int32.le_refl _) h⟩
      have := hb (j % 4) (j / 4) (by omega) (by omega)
      rw [show 4 * (j / 4) + j % 4 = j by omega] at this
      rw [this, hs]
    | succ m ih =>
      intro i S' hi hb hf
      refine e_Mo_makeSum_416 ⟨fun h => absurd h (nI_ge (b := 4) (by omega) (by decide)), fun h => ?_⟩
      have e1 : (4 : Int32) + nI i = nI (4 + i) := nI_add 4 i
      have e2 : (8 : Int32) + nI i = nI (8 + i) := nI_add 8 i
      have e3 : (12 : Int32) + nI i = nI (12 + i) := nI_add 12 i
      have e8 : (8 : Int32) * nI i = nI (8 * i) := pk_mul 8 i
      rw [e1, e2, e3, e8, nI_clamp (by omega), nI_clamp (by omega), nI_clamp (by omega), nI_clamp (by omega), nI_1]
      refine ⟨vp_in_nI (by omega) (by decide), vp_in_nI (by omega) (by decide), ?_⟩
      rintro S1 rfl
      refine ⟨vp_in_nI (by omega) (by decide), vp_in_nI (by omega) (by decide), ?_⟩
      rintro S2 rfl
      refine ih (i + 1) _ (by omega) (fun u w hu hw4 => ?_) (hf.tr ⟨fun j hj => ?_, fun a b c e f => ?_⟩)
      · have hb' : ∀ w, w < 4 → md_b s (4 * w + i) = px_ushr (md_wd s w) (nI (8 * i)) &&& 255 := by
          intro w hw4
          unfold md_b
          rw [show (4 * w + i) / 4 = w by omega, show (4 * w + i) % 4 = i by omega]
        by_cases hui : u = i
        · subst hui
          rw [hb' w hw4]
          have : w = 0 ∨ w = 1 ∨ w = 2 ∨ w = 3 := by omega
          rcases this with rfl | rfl | rfl | rfl
          · rw [px_ua, if_neg (by omega), px_ua, if_neg (by omega), px_ua, if_neg (by omega), px_ua, if_pos (by omega)]; rfl
          · rw [px_ua, if_neg (by omega), px_ua, if_neg (by omega), px_ua, if_pos (by omega)]; rfl
          · rw [px_ua, if_neg (by omega), px_ua, if_pos (by omega)]; rfl
          · rw [px_ua, if_pos (by omega)]; rfl
        · rw [px_ua, if_neg (by omega), px_ua, if_neg (by omega), px_ua, if_neg (by omega), px_ua, if_neg (by omega)]
          exact hb u w (by omega) hw4
      · rw [px_u_ne _ _ _ (by decide), px_u_ne _ _ _ (by decide), px_u_ne _ _ _ (by decide), px_u_ne _ _ _ (by decide)]
      · rw [px_u_ne _ _ _ f, px_u_ne _ _ _ f, px_u_ne _ _ _ f, px_u_ne _ _ _ f]
  -- the rounds of a block; 'next' is what comes behind it
  have rounds : ∀ (x1 : Int32) (j : Nat) (s0 : md_S) (S' : px_S), (∀ t, t < 16 → S' 8 t = md_w (fun i => (md_pad L).getD i 0) (64 * j) t) → rf_ok S' →
      (px_w G px_Zr (d + 1) m_Mo_makeSum 85 [.ref 0, .int x1, .int (md_blk (md_w (fun i => (md_pad L).getD i 0) (64 * j)) s0).1, .int (md_blk (md_w (fun i => (md_pad L).getD i 0) (64 * j)) s0).2.1, .int (md_blk (md_w (fun i => (md_pad L).getD i 0) (64 * j)) s0).2.2.1, .int (md_blk (md_w (fun i => (md_pad L).getD i 0) (64 * j)) s0).2.2.2, .int (nI (64 * (j + 1))), .null, .null, .null, .null, .null, .null, .null, .null] [] S' (px_vq Q)) →
      ∀ (m i : Nat) (s : md_S), m + i = 64 → s = md_r (md_w (fun i => (md_pad L).getD i 0) (64 * j)) s0 i →
      px_w G px_Zr (d + 1) m_Mo_makeSum 200 [.ref 0, .int x1, .int s.1, .int s.2.1, .int s.2.2.1, .int s.2.2.2, .int (nI (64 * j)), .int s0.1, .int s0.2.1, .int s0.2.2.1, .int s0.2.2.2, .int (nI i), .null, .null, .null] [] S' (px_vq Q) := by
    intro x1 j s0 S' hw8 hok' next m
    induction m with
    | zero =>
      intro i s hi hs
      have h : i = 64 := by omega
      subst h
      refine e_Mo_makeSum_200 ⟨fun h => ?_, fun h => absurd (Int32.le_refl _) h⟩
      rw [show nI (64 * j) + 64 = nI (64 * (j + 1)) from nI_add _ 64]
      rw [Int32.add_comm s.1, Int32.add_comm s.2.1, Int32.add_comm s.2.2.1, Int32.add_comm s.2.2.2, hs]
      exact next
    | succ m ih =>
      intro i s hi hs
      have g : ∀ a : Nat, a < 2 ^ 31 → (nI a ≤ nI i ↔ a ≤ i) := fun a ha => nI_leI ha (by omega)
      have last : ∀ (f gg : Int32), f = md_f i s.2.1 s.2.2.1 s.2.2.2 → gg = nI (md_g i) → px_w G px_Zr (d + 1) m_Mo_makeSum 329 [.ref 0, .int x1, .int s.1, .int s.2.1, .int s.2.2.1, .int s.2.2.2, .int (nI (64 * j)), .int s0.1, .int s0.2.1, .int s0.2.2.1, .int s0.2.2.2, .int (nI i), .int f, .int gg, .null] [] S' (px_vq Q) := by
        rintro f gg rfl rfl
        have hg : md_g i < 2 ^ 31 := md_g_lt (by omega)
        have e1 : px_rem (nI (md_g i)) 16 = nI (md_g i % 16) := px_remN hg (by decide) (by decide)
        refine e_Mo_makeSum_329 ⟨vp_in_nI (by omega) (by decide), ?_⟩
        rw [e1, nI_clamp (by omega), nI_clamp (by omega), hok'.1 i (by omega), hw8 _ (Nat.mod_lt _ (by decide))]
        refine ⟨vp_in_nI (Nat.mod_lt _ (by decide)) (by decide), ?_⟩
        rintro y6 rfl
        refine k_Mo_shift (by omega) (k_Mo_turned ?_)
        rw [nI_1]
        exact ih (i + 1) (md_step (md_w (fun i => (md_pad L).getD i 0) (64 * j)) i s) (by omega) (by rw [hs]; rfl)
      have mid : ∀ f : Int32, f = md_f i s.2.1 s.2.2.1 s.2.2.2 → px_w G px_Zr (d + 1) m_Mo_makeSum 278 [.ref 0, .int x1, .int s.1, .int s.2.1, .int s.2.2.1, .int s.2.2.2, .int (nI (64 * j)), .int s0.1, .int s0.2.1, .int s0.2.2.1, .int s0.2.2.2, .int (nI i), .int f, .null, .null] [] S' (px_vq Q) := by
        intro f hf
        refine e_Mo_makeSum_278 ⟨fun h1 => ⟨fun h2 => ⟨fun h3 => ?_, fun h3 => ?_⟩, fun h2 => ?_⟩, fun h1 => ?_⟩
        · have c1 := (g 48 (by decide)).mp h3
          refine last _ _ hf ?_
          unfold md_g; rw [if_neg (by omega), if_neg (by omega), if_neg (by omega)]; exact pk_mul 7 i
        · have c1 := (g 32 (by decide)).mp h2
          have c2 : ¬ 48 ≤ i := fun z => h3 ((g 48 (by decide)).mpr z)
          refine last _ _ hf ?_
          unfold md_g; rw [if_neg (by omega), if_neg (by omega), if_pos (by omega), ← nI_add, ← pk_mul]; rfl
        · have c1 := (g 16 (by decide)).mp h1
          have c2 : ¬ 32 ≤ i := fun z => h2 ((g 32 (by decide)).mpr z)
          refine last _ _ hf ?_
          unfold md_g; rw [if_neg (by omega), if_pos (by omega), ← nI_add, ← pk_mul]; rfl
        · have c2 : ¬ 16 ≤ i := fun z => h1 ((g 16 (by decide)).mpr z)
          refine last _ _ hf ?_
          unfold md_g; rw [if_pos (by omega)]
      refine e_Mo_makeSum_200 ⟨fun h => absurd h (nI_ge (b := 64) (by omega) (by decide)), fun h => ⟨fun h1 => ⟨fun h2 => ⟨fun h3 => ?_, fun h3 => ?_⟩, fun h2 => ?_⟩, fun h1 => ?_⟩⟩
      · have c1 := (g 48 (by decide)).mp h3
        refine mid _ ?_
        unfold md_f; rw [if_neg (by omega), if_neg (by omega), if_neg (by omega)]
      · have c1 := (g 32 (by decide)).mp h2
        have c2 : ¬ 48 ≤ i := fun z => h3 ((g 48 (by decide)).mpr z)
        refine mid _ ?_
        unfold md_f; rw [if_neg (by omega), if_neg (by omega), if_pos (by omega)]
      · have c1 := (g 16 (by decide)).mp h1
        have c2 : ¬ 32 ≤ i := fun z => h2 ((g 32 (by decide)).mpr z)
        refine mid _ ?_
        unfold md_f; rw [if_neg (by omega), if_pos (by omega)]
      · have c2 : ¬ 16 ≤ i := fun z => h1 ((g 16 (by decide)).mpr z)
        refine mid _ ?_
        unfold md_f; rw [if_pos (by omega)]
  have okfr : ∀ S', rf_fr S S' → rf_ok S' := by
    intro S' hf
    refine ⟨fun j hj => ?_, fun j hj => ?_⟩
    · rw [hf.2 1 (by decide) (by decide) (by decide) (by decide)]; exact hok.1 j hj
    · rw [hf.2 2 (by decide) (by decide) (by decide) (by decide)]; exact hok.2 j hj
  -- the blocks
  have blocks : ∀ (x1 : Int32) (m j : Nat) (s : md_S) (S' : px_S), m + j = (md_pad L).length / 64 → s = md_all (fun i => (md_pad L).getD i 0) j → rf_at S' (md_pad L) → rf_fr S S' →
      px_w G px_Zr (d + 1) m_Mo_makeSum 85 [.ref 0, .int x1, .int s.1, .int s.2.1, .int s.2.2.1, .int s.2.2.2, .int (nI (64 * j)), .null, .null, .null, .null, .null, .null, .null, .null] [] S' (px_vq Q) := by
    intro x1 m
    induction m with
    | zero =>
      intro j s S' hj hs hat hf
      refine e_Mo_makeSum_85 ⟨fun h => ?_, fun h => ?_⟩
      · refine bytes x1 s ?_ 4 0 S' (by omega) (fun u w hu _ => by omega) hf
        rw [hs]
        unfold md_sum
        rw [show j = (md_pad L).length / 64 by omega]
      · rw [hat.1] at h
        exact absurd (nI_le (by omega) (by omega)) h
    | succ m ih =>
      intro j s S' hj hs hat hf
      refine e_Mo_makeSum_85 ⟨fun h => ?_, fun h => ?_⟩
      · rw [hat.1] at h
        exact absurd h (nI_ge (by omega) (by omega))
      · have words : ∀ (m2 t : Nat) (S2 : px_S), m2 + t = 16 → (∀ u, u < t → S2 8 u = md_w (fun i => (md_pad L).getD i 0) (64 * j) u) → rf_at S2 (md_pad L) → rf_fr S S2 →
            px_w G px_Zr (d + 1) m_Mo_makeSum 97 [.ref 0, .int x1, .int s.1, .int s.2.1, .int s.2.2.1, .int s.2.2.2, .int (nI (64 * j)), .int (nI t), .null, .null, .null, .null, .null, .null, .null] [] S2 (px_vq Q) := by
          intro m2
          induction m2 with
          | zero =>
            intro t S2 ht hw2 hat2 hf2
            have h16 : t = 16 := by omega
            subst h16
            refine e_Mo_makeSum_97 ⟨fun h => ?_, fun h => absurd (Int32.le_refl _) h⟩
            refine rounds x1 j s S2 hw2 (okfr S2 hf2) ?_ 64 0 s (by omega) rfl
            refine ih (j + 1) (md_blk (md_w (fun i => (md_pad L).getD i 0) (64 * j)) s) S2 (by omega) ?_ hat2 hf2
            rw [hs]
            rfl
          | succ m2 ih2 =>
            intro t S2 ht hw2 hat2 hf2
            refine e_Mo_makeSum_97 ⟨fun h => absurd h (nI_ge (b := 16) (by omega) (by decide)), fun h => ?_⟩
            have e0 : nI (64 * j) + 4 * nI t = nI (64 * j + 4 * t) := by
              have : (4 : Int32) * nI t = nI (4 * t) := pk_mul 4 t
              rw [this, nI_add]
            have e1 : nI (64 * j + 4 * t) + 1 = nI (64 * j + 4 * t + 1) := nI_add _ 1
            have e2 : nI (64 * j + 4 * t) + 2 = nI (64 * j + 4 * t + 2) := nI_add _ 2
            have e3 : nI (64 * j + 4 * t) + 3 = nI (64 * j + 4 * t + 3) := nI_add _ 3
            rw [e0, e1, e2, e3, nI_clamp (by omega), nI_clamp (by omega), nI_clamp (by omega), nI_clamp (by omega), nI_clamp (by omega), nI_1]
            refine ⟨vp_in_nI (by omega) (by decide), vp_in_nI (by omega) (by decide), vp_in_nI (by omega) (by decide), vp_in_nI (by omega) (by decide), vp_in_nI (by omega) (by decide), ?_⟩
            rintro S3 rfl
            refine ih2 (t + 1) _ (by omega) (fun u hu => ?_) ⟨?_, fun i hi => ?_⟩ (hf2.tr ⟨fun i hi => ?_, fun i a b c e => ?_⟩)
            · rw [px_ua]
              by_cases hut : u = t
              · subst hut
                rw [if_pos ⟨rfl, rfl⟩, hat2.2 _ (by omega), hat2.2 _ (by omega), hat2.2 _ (by omega), hat2.2 _ (by omega)]
                rfl
              · rw [if_neg (fun z => hut z.2)]
                exact hw2 u (by omega)
            · rw [px_u_ne _ _ _ (by decide)]; exact hat2.1
            · rw [px_u_ne _ _ _ (by decide)]; exact hat2.2 i hi
            · rw [px_u_ne _ _ _ (by decide)]
            · rw [px_u_ne _ _ _ c]
        exact words 16 0 S' (by omega) (fun u hu => by omega) hat hf
  -- the length
  have lens : ∀ (m k : Nat) (S' : px_S), m + k = 8 → rf_at S' (L ++ [128] ++ List.replicate (md_z L.length) 0 ++ (List.range k).map (fun k => if k < 4 then px_ushr (nI (8 * L.length)) (nI (8 * k)) &&& 255 else 0)) → rf_fr S S' →
      px_w G px_Zr (d + 1) m_Mo_makeSum 34 [.ref 0, .int (nI L.length), .int (nI k), .null, .null, .null, .null, .null, .null, .null, .null, .null, .null, .null, .null] [] S' (px_vq Q) := by
    intro m
    induction m with
    | zero =>
      intro k S' hk hs hf
      have h8 : k = 8 := by omega
      subst h8
      refine e_Mo_makeSum_34 ⟨fun h => ?_, fun h => absurd (Int32.le_refl _) h⟩
      exact blocks _ ((md_pad L).length / 64) 0 md_0 S' (by omega) rfl hs hf
    | succ m ih =>
      intro k S' hk hs hf
      have hlen : (L ++ [128] ++ List.replicate (md_z L.length) (0 : Int32) ++ (List.range k).map (fun k => if k < 4 then px_ushr (nI (8 * L.length)) (nI (8 * k)) &&& 255 else 0)).length < 900 := by
        rw [md_pad_len] at hP
        simp
        omega
      have e8 : (8 : Int32) * nI k = nI (8 * k) := pk_mul 8 k
      have e9 : (8 : Int32) * nI L.length = nI (8 * L.length) := pk_mul 8 L.length
      refine e_Mo_makeSum_34 ⟨fun h => absurd h (nI_ge (b := 8) (by omega) (by decide)), fun h => ⟨fun h2 => ?_, fun h2 => ?_⟩⟩
      · have c : 4 ≤ k := (nI_leI (a := 4) (by decide) (by omega)).mp h2
        refine k_Mo_put hs hlen (fun S2 h3 hf2 _ _ => ?_)
        rw [nI_1]
        refine ih (k + 1) S2 (by omega) ?_ (hf.tr hf2)
        rw [List.append_assoc] at h3
        rw [List.range_succ, List.map_append, List.map_cons, List.map_nil, if_neg (by omega)]
        exact h3
      · have c : ¬ 4 ≤ k := fun z => h2 ((nI_leI (a := 4) (by decide) (by omega)).mpr z)
        rw [e8, e9]
        refine k_Mo_put hs hlen (fun S2 h3 hf2 _ _ => ?_)
        rw [nI_1]
        refine ih (k + 1) S2 (by omega) ?_ (hf.tr hf2)
        rw [List.append_assoc] at h3
        rw [List.range_succ, List.map_append, List.map_cons, List.map_nil, if_pos (by omega)]
        exact h3
  -- the zeros
  have zeros : ∀ (m z : Nat) (S' : px_S), m + z = md_z L.length → rf_at S' (L ++ [128] ++ List.replicate z 0) → rf_fr S S' →
      px_w G px_Zr (d + 1) m_Mo_makeSum 12 [.ref 0, .int (nI L.length), .null, .null, .null, .null, .null, .null, .null, .null, .null, .null, .null, .null, .null] [] S' (px_vq Q) := by
    intro m
    induction m with
    | zero =>
      intro z S' hzz hs hf
      have e : z = md_z L.length := by omega
      subst e
      have hgo := lens 8 0 S' (by omega) (by rw [List.range_zero, List.map_nil, List.append_nil]; exact hs) hf
      refine e_Mo_makeSum_12 ⟨fun h2 => hgo, fun h2 => absurd ?_ h2⟩
      have hlen : (L ++ [128] ++ List.replicate (md_z L.length) (0 : Int32)).length = L.length + 1 + md_z L.length := by simp; omega
      rw [hs.1, hlen]
      rw [show px_rem (nI (L.length + 1 + md_z L.length)) 64 = nI ((L.length + 1 + md_z L.length) % 64) from px_remN (by omega) (by decide) (by decide)]
      rw [show (L.length + 1 + md_z L.length) % 64 = 56 by unfold md_z; omega]
      rfl
    | succ m ih =>
      intro z S' hzz hs hf
      refine e_Mo_makeSum_12 ⟨fun h2 => ?_, fun h2 => ?_⟩
      · have hlen : (L ++ [128] ++ List.replicate z (0 : Int32)).length = L.length + 1 + z := by simp; omega
        rw [hs.1, hlen] at h2
        rw [show px_rem (nI (L.length + 1 + z)) 64 = nI ((L.length + 1 + z) % 64) from px_remN (by omega) (by decide) (by decide)] at h2
        have h3 := (nI_eq (b := 56) (by omega) (by decide)).mp h2
        unfold md_z at hzz
        omega
      · refine k_Mo_put hs (by simp; omega) (fun S2 h3 hf2 _ _ => ?_)
        refine ih (z + 1) S2 (by omega) ?_ (hf.tr hf2)
        rw [List.append_assoc] at h3
        rw [List.replicate_succ']
        exact h3
  refine f_Mo_makeSum (k_Mo_put hw (by omega) (fun S1 h1 hf1 _ _ => ?_))
  rw [hw.1]
  exact zeros (md_z L.length) 0 S1 (by omega) (by rw [List.replicate_zero, List.append_nil]; exact h1) hf1
end
