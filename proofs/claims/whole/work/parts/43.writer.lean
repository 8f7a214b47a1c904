/-! Writer -/
/-- nothing has changed but the volume, what makes sums, and what is weighed -/
def wr_fr (S S' : px_S) : Prop := ∀ i, i < 10 ∨ (11 < i ∧ i < 17) ∨ 22 < i → S' i = S i
theorem wr_fr.tr {S S1 S2 : px_S} (h : wr_fr S S1) (h2 : wr_fr S1 S2) : wr_fr S S2 := fun i hi => (h2 i hi).trans (h i hi)
theorem sl_at.of {S S' : px_S} {F : Nat → List Int32} {t : Nat → Nat} {m : Nat} (h : sl_at S F t m) (hf : ∀ i, 12 ≤ i → i ≤ 16 → S' i = S i) : sl_at S' F t m := by
  refine ⟨h.1.of (hf 13 (by decide) (by decide)) (hf 14 (by decide) (by decide)), ?_, fun f hfm => ?_⟩
  · rw [hf 12 (by decide) (by decide)]; exact h.2.1
  · rw [hf 15 (by decide) (by decide), hf 16 (by decide) (by decide)]; exact h.2.2 f hfm
theorem wr_fr.sl {S S' : px_S} {F : Nat → List Int32} {t : Nat → Nat} {m : Nat} (hf : wr_fr S S') (h : sl_at S F t m) : sl_at S' F t m := h.of (fun i h1 h2 => hf i (by omega))
section
variable {G : px_G} {d : Nat} {S : px_S} {V : List Int32}
theorem k_Writer_appendSum {Q : px_S → Prop} {s : md_S} (hw : rw_at S 10 V) (hs : ∀ j, j < 4 → S 21 j = md_wd s j) (hl : V.length + 16 ≤ 694) (hQ : ∀ S', rw_at S' 10 (V ++ (List.range 16).map (md_b s)) → (∀ i, i ≠ 10 → i ≠ 11 → S' i = S i) → Q S') : px_V G px_Zc (d + 1) m_Writer_appendSum [.ref 23] S Q := by
  refine f_Writer_appendSum ?_
  have key : ∀ (m i : Nat) (S' : px_S), m + i = 16 → rw_at S' 10 (V ++ (List.range i).map (md_b s)) → (∀ j, j ≠ 10 → j ≠ 11 → S' j = S j) → px_w G px_Zc (d + 1) m_Writer_appendSum 2 [.ref 23, .int (nI i)] [] S' (px_vq Q) := by
    intro m
    induction m with
    | zero =>
      intro i S' hi w f
      have : i = 16 := by omega
      subst this
      exact e_Writer_appendSum_2 ⟨fun h => px_vq_i (hQ S' w f), fun h => absurd (Int32.le_refl _) h⟩
    | succ m ih =>
      intro i S' hi w f
      refine e_Writer_appendSum_2 ⟨fun h => absurd h (nI_ge (b := 16) (by omega) (by decide)), fun h => ?_⟩
      refine k_Sum_get (s := s) (by rw [f 21 (by decide) (by decide)]; exact hs) (by omega) ?_
      refine k_Row_append rw_10 w (by simp <;> omega) (fun S2 w2 f2 => ?_)
      rw [nI_1]
      refine ih (i + 1) S2 (by omega) ?_ (fun j h1 h2 => (f2 j h1 h2).trans (f j h1 h2))
      rw [show md_b s i &&& 255 = md_b s i from by_and _, List.append_assoc] at w2
      rw [List.range_succ, List.map_append]
      exact w2
  exact key 16 0 S (by omega) (by simpa using hw) (fun _ _ _ => rfl)
theorem k_Writer_writeFile {Q : px_S → Prop} {F : Nat → List Int32} {t : Nat → Nat} {f : Nat} (hf : f < 3) (hs : sl_at S F t 3) (ht : t f = (F f).length) (h40 : t f ≤ 40) (hn : sp_n t 3 ≤ 12) (hF : ∀ f, f < 3 → ls_by (F f)) (hw : rw_at S 10 V) (hV : ls_by V) (hV26 : 26 ≤ V.length) (hVs : ls_sl V 22 4 = vw_set t) (hl : V.length + 44 ≤ 694)
    (hQ : ∀ S', rw_at S' 10 (V ++ pk_of 70 (vw_set t) (vw_fb F t f)) → wr_fr S S' → Q S') : px_V G px_Zc (d + 4) m_Writer_writeFile [.ref 23, .int (nI f)] S Q := by
  have hC : ls_by (sp_c F t 3) := ls_by_c hF
  refine f_Writer_writeFile (k_Packets_open (kd := 70) hw (by omega) (by decide) (fun S1 w1 o1 f1 => ?_))
  have s1 : sl_at S1 F t 3 := hs.of (fun i h1 h2 => f1 i (by omega) (by omega) (by omega))
  refine k_Row_append rw_10 w1 (by simp <;> omega) (fun S2 w2 f2 => ?_)
  have s2 : sl_at S2 F t 3 := s1.of (fun i h1 h2 => f2 i (by omega) (by omega))
  refine k_Slices_size hf ?_
  rw [(s2.2.2 f hf).2]
  refine k_Row_append rw_10 w2 (by simp <;> omega) (fun S3 w3 f3 => ?_)
  have s3 : sl_at S3 F t 3 := s2.of (fun i h1 h2 => f3 i (by omega) (by omega))
  refine k_Slices_row (k_Slices_start hf (k_Slices_size hf ?_))
  rw [(s3.2.2 f hf).1, (s3.2.2 f hf).2]
  have hnf : 8 * sp_n t f + t f ≤ 8 * sp_n t 3 := by
    have h0 : sp_n t 3 = ((0 + (t 0 + 7) / 8) + (t 1 + 7) / 8) + (t 2 + 7) / 8 := rfl
    have : f = 0 ∨ f = 1 ∨ f = 2 := by omega
    rcases this with rfl | rfl | rfl
    · show 8 * 0 + t 0 ≤ _; omega
    · show 8 * (0 + (t 0 + 7) / 8) + t 1 ≤ _; omega
    · show 8 * ((0 + (t 0 + 7) / 8) + (t 1 + 7) / 8) + t 2 ≤ _; omega
  refine k_Sum_of rw_13 s3.1 (by rw [sp_c_len]; omega) hC (by decide) (by decide) (by decide) (by omega) (by omega) (fun S4 w4 f4 => ?_)
  rw [sp_c_sl F t hf ht] at w4
  refine k_Writer_appendSum (w3.of (f4 10 (by decide)) (f4 11 (by decide))) w4 (by simp <;> omega) (fun S5 w5 f5 => ?_)
  have e1 : nI f &&& 255 = nI f := by_nI (by omega)
  have e2 : nI (t f) &&& 255 = nI (t f) := by_nI (by omega)
  rw [e1, e2] at w5
  have w6 : rw_at S5 10 (V ++ [80, 75, 84, 70] ++ List.replicate 18 0 ++ List.replicate 4 0 ++ vw_fb F t f) := by
    have : V ++ [80, 75, 84, 70] ++ List.replicate 22 0 ++ [nI f] ++ [nI (t f)] ++ (List.range 16).map (md_b (md_sum (F f))) = V ++ [80, 75, 84, 70] ++ List.replicate 18 0 ++ List.replicate 4 0 ++ vw_fb F t f := by
      have e : List.replicate 22 (0 : Int32) = List.replicate 18 0 ++ List.replicate 4 0 := rfl
      rw [e]
      unfold vw_fb md5
      simp
    rw [this] at w5
    exact w5
  refine k_Packets_close (set := vw_set t) w6 ?_ ?_ (by simp) (by decide) hV (ls_by_0 4) (ls_by_fb F (by omega) (by omega)) ?_ (Or.inr hV26) (fun S6 w7 f6 => px_vq_i (hQ S6 w7 (fun i hi => ?_)))
  · rw [f5 22 (by decide) (by decide), f4 22 (by decide), f3 22 (by decide) (by decide), f2 22 (by decide) (by decide)]; exact o1
  · unfold vw_fb; rw [List.length_append, md5_len]; show V.length + 26 + (2 + 16) ≤ 694; omega
  · rw [if_neg (by omega), hVs]
  · rw [f6 i (by omega) (by omega), f5 i (by omega) (by omega), f4 i (by omega), f3 i (by omega) (by omega), f2 i (by omega) (by omega), f1 i (by omega) (by omega) (by omega)]
end
