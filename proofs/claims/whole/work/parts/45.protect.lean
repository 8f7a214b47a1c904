/-! writeAll; the states of the class -/
section
variable {G : px_G} {d : Nat} {S : px_S}
theorem k_Writer_writeAll {Q : px_S → Prop} {F : Nat → List Int32} {t : Nat → Nat} {r : Nat} (hr : r ≤ 6) (hs : sl_at S F t 3) (ht : ∀ f, f < 3 → t f = (F f).length ∧ t f ≤ 40) (hn : sp_n t 3 ≤ 12) (hF : ∀ f, f < 3 → ls_by (F f)) (hQ : ∀ S', rw_at S' 10 (vw_all F (sp_c F t 3) t (sp_n t 3) r) → wr_fr S S' → Q S') : px_V G px_Zc (d + 5) m_Writer_writeAll [.ref 23, .int (nI r)] S Q := by
  have h256 : ∀ f, f < 3 → t f < 256 := fun f hf => by have := (ht f hf).2; omega
  -- the recoveries
  have recs : ∀ (m e : Nat) (S' : px_S), m + e = r → rw_at S' 10 (vw_all F (sp_c F t 3) t (sp_n t 3) e) → wr_fr S S' → px_w G px_Zc (d + 5) m_Writer_writeAll 42 [.ref 23, .int (nI r), .int (nI e)] [] S' (px_vq Q) := by
    intro m
    induction m with
    | zero =>
      intro e S' he w fr
      have : e = r := by omega
      subst this
      exact e_Writer_writeAll_42 ⟨fun h => px_vq_i (hQ S' w fr), fun h => absurd (Int32.le_refl _) h⟩
    | succ m ih =>
      intro e S' he w fr
      refine e_Writer_writeAll_42 ⟨fun h => absurd h (nI_ge (by omega) (by omega)), fun h => ?_⟩
      obtain ⟨X, hX⟩ := vw_all_head F (sp_c F t 3) t (sp_n t 3) e
      have hlen := vw_all_len F (sp_c F t 3) t (sp_n t 3) e
      refine k_Writer_writeRecovery (t := t) (by omega) (fr.sl hs) hn hF w (ls_by_all F _ _ h256 hn e (by omega)) (by omega) (by rw [hX]; exact vw_fs_set F (sp_c F t 3) t X) (by omega) (fun S2 w2 f2 => ?_)
      rw [nI_1]
      exact ih (e + 1) S2 (by omega) w2 (fr.tr f2)
  -- the files
  have files : ∀ (m f : Nat) (S' : px_S), m + f = 3 → rw_at S' 10 (vw_fs F (sp_c F t 3) t f) → wr_fr S S' → px_w G px_Zc (d + 5) m_Writer_writeAll 13 [.ref 23, .int (nI r), .int (nI f)] [] S' (px_vq Q) := by
    intro m
    induction m with
    | zero =>
      intro f S' hf w fr
      have : f = 3 := by omega
      subst this
      have s1 := fr.sl hs
      refine e_Writer_writeAll_13 (k_Slices_fileCount ⟨fun h => ?_, fun h => absurd (by rw [s1.2.1]; exact Int32.le_refl _) h⟩)
      exact recs r 0 S' (by omega) w fr
    | succ m ih =>
      intro f S' hf w fr
      have s1 := fr.sl hs
      have hlen := vw_fs_len F (sp_c F t 3) t f
      have hn1 : sp_n t f ≤ sp_n t 3 := sp_n_le (by omega)
      have hn2 : sp_n t f + (t f + 7) / 8 ≤ sp_n t 3 := sp_n_le (f := f + 1) (by omega)
      obtain ⟨X, hX⟩ := vw_fs_head F (sp_c F t 3) t f
      have hby := ls_by_fs F (sp_c F t 3) h256 hn f (by omega)
      refine e_Writer_writeAll_13 (k_Slices_fileCount ⟨fun h => ?_, fun h => ?_⟩)
      · rw [s1.2.1] at h
        exact absurd h (nI_ge (by omega) (by decide))
      · refine k_Writer_writeFile (t := t) (by omega) s1 (ht f (by omega)).1 (ht f (by omega)).2 hn hF w hby (by omega) (by rw [hX]; exact vw_fs_set F (sp_c F t 3) t X) (by omega) (fun S2 w2 f2 => ?_)
        have hlen2 : (vw_fs F (sp_c F t 3) t f ++ pk_of 70 (vw_set t) (vw_fb F t f)).length = 31 + 71 * f + 20 * sp_n t f + 44 := by
          rw [List.length_append, hlen, pk_of_len _ _ (vw_set_len t)]
          unfold vw_fb
          rw [List.length_append, md5_len]
          rfl
        have := (ht f (by omega)).2
        refine k_Writer_writeChecks (t := t) (by omega) (f2.sl s1) (by omega) hn hF w2 (ls_by_app hby (ls_by_pk (by decide) (ls_by_set t) (ls_by_fb F (by omega) (by omega)) ?_)) (by omega) ?_ (by omega) (fun S3 w3 f3 => ?_)
        · unfold vw_fb
          rw [List.length_append, md5_len]
          show 2 + 16 < 65536
          decide
        · rw [hX, List.append_assoc]
          exact vw_fs_set F (sp_c F t 3) t _
        · rw [nI_1]
          exact ih (f + 1) S3 (by omega) w3 ((fr.tr f2).tr f3)
  refine f_Writer_writeAll (k_Row_clear rw_10 (fun S1 w1 f1 => ?_))
  have s1 : sl_at S1 F t 3 := hs.of (fun i h1 h2 => f1 i (by omega))
  refine k_Writer_writeMain (t := t) s1 h256 w1 (fun S2 w2 f2 => ?_)
  exact files 3 0 S2 (by omega) w2 (fun i hi => (f2 i hi).trans (f1 i (by omega)))
end
/-- what holds of the typed bytes, the files and the volume -/
def sv_ok (T : List Int32) (F : Nat → List Int32) (V : List Int32) : Prop := (T.length ≤ 40 ∧ ls_by T) ∧ (∀ f, f < 3 → (F f).length ≤ 40 ∧ ls_by (F f)) ∧ V.length ≤ 694 ∧ ls_by V
/-- how the class holds them -/
def sv_C (S : px_S) (T : List Int32) (F : Nat → List Int32) (V : List Int32) : Prop := rw_at S 1 T ∧ (∀ f, f < 3 → rw_at S (4 + 2 * f) (F f)) ∧ rw_at S 10 V
theorem rw_f {f : Nat} (h : f < 3) : rw_is (4 + 2 * f) 40 := by
  have : f = 0 ∨ f = 1 ∨ f = 2 := by omega
  rcases this with rfl | rfl | rfl <;> exact ⟨rfl, rfl, by decide⟩
theorem px_rf_get {f : Nat} (h : f < 3) : px_rf.getD (nI f).toNatClampNeg 0 = 4 + 2 * f := by
  rw [nI_clamp (by omega)]
  have : f = 0 ∨ f = 1 ∨ f = 2 := by omega
  rcases this with rfl | rfl | rfl <;> rfl
theorem sv_C.of {S S' : px_S} {T : List Int32} {F : Nat → List Int32} {V : List Int32} (h : sv_C S T F V) (hf : ∀ i, i < 12 → S' i = S i) : sv_C S' T F V := ⟨h.1.of (hf 1 (by decide)) (hf 2 (by decide)), fun f h3 => (h.2.1 f h3).of (hf _ (by omega)) (hf _ (by omega)), h.2.2.of (hf 10 (by decide)) (hf 11 (by decide))⟩
/-- protect: the answer, and the volume -/
def sq_protect (r : Int32) (F : Nat → List Int32) (V : List Int32) : Int32 × List Int32 :=
  if r < 0 ∨ 6 < r then (-1, V) else if 12 < sp_n (fun f => (F f).length) 3 then (-2, V) else
    (nI (244 + 20 * sp_n (fun f => (F f).length) 3 + 35 * r.toNatClampNeg), vw_all F (sp_c F (fun f => (F f).length) 3) (fun f => (F f).length) (sp_n (fun f => (F f).length) 3) r.toNatClampNeg)
section
variable {G : px_G} {d : Nat} {S : px_S} {T : List Int32} {F : Nat → List Int32} {V : List Int32}
theorem k_PV_protect {Q : Int32 → px_S → Prop} {r : Int32} (hC : sv_C S T F V) (ok : sv_ok T F V) (hQ : ∀ S', sv_C S' T F (sq_protect r F V).2 → Q (sq_protect r F V).1 S') : px_I G px_Zc (d + 6) m_PV_protect [.ref 0, .int r] S Q := by
  obtain ⟨okT, okF, okV⟩ := ok
  have hlen : ∀ f, f < 3 → (F f).length ≤ 40 := fun f hf => (okF f hf).1
  have hL : ∀ m, m ≤ 3 → sp_n (fun f => (F f).length) m ≤ 15 := by
    intro m hm
    have h0 := hlen 0 (by decide)
    have h1 := hlen 1 (by decide)
    have h2 := hlen 2 (by decide)
    have h3 : sp_n (fun f => (F f).length) 3 = ((0 + ((F 0).length + 7) / 8) + ((F 1).length + 7) / 8) + ((F 2).length + 7) / 8 := rfl
    have h4 : sp_n (fun f => (F f).length) m ≤ sp_n (fun f => (F f).length) 3 := sp_n_le hm
    omega
  -- the files go to the slices
  have add : ∀ (hr : ¬ (r < 0 ∨ 6 < r)) (hn : sp_n (fun f => (F f).length) 3 ≤ 12) (m f : Nat) (S' : px_S), m + f = 3 → sl_at S' F (fun f => (F f).length) f → (∀ i, i < 12 → S' i = S i) → px_w G px_Zc (d + 6) m_PV_protect 60 [.ref 0, .int r, .int (nI (sp_n (fun f => (F f).length) 3)), .int (nI f)] [] S' (px_iq Q) := by
    intro hr hn m
    induction m with
    | zero =>
      intro f S' hf hs fr
      have : f = 3 := by omega
      subst this
      refine e_PV_protect_60 ⟨fun h => ?_, fun h => absurd (Int32.le_refl _) h⟩
      obtain ⟨e, he, rfl⟩ : ∃ e : Nat, e ≤ 6 ∧ r = nI e := by
        obtain ⟨j, hj, h1⟩ := nI_of2 (n := 6) (M := 6) (by decide) (fun z => hr (Or.inl z)) (Int32.not_lt.mp (fun z => hr (Or.inr z)))
        exact ⟨j, hj, h1⟩
      have hq : sq_protect (nI e) F V = (nI (244 + 20 * sp_n (fun f => (F f).length) 3 + 35 * e), vw_all F (sp_c F (fun f => (F f).length) 3) (fun f => (F f).length) (sp_n (fun f => (F f).length) 3) e) := by
        unfold sq_protect
        rw [if_neg hr, if_neg (by omega), nI_clamp (by omega)]
      rw [hq] at hQ
      refine k_Writer_writeAll he hs (fun f hf => ⟨rfl, hlen f hf⟩) hn (fun f hf => (okF f hf).2) (fun S2 w2 f2 => k_Row_size rw_10 (px_iq_i ?_))
      rw [w2.1, vw_all_len]
      have hC2 := hC.of fr
      exact hQ S2 ⟨hC2.1.of (f2 1 (by decide)) (f2 2 (by decide)), fun f hf => (hC2.2.1 f hf).of (f2 _ (by omega)) (f2 _ (by omega)), w2⟩
    | succ m ih =>
      intro f S' hf hs fr
      refine e_PV_protect_60 ⟨fun h => absurd h (nI_ge (b := 3) (by omega) (by decide)), fun h => ⟨vp_in_nI (by omega) (by decide), vp_in_nI (by omega) (by decide), ?_⟩⟩
      have hC2 := hC.of fr
      rw [px_rf_get (by omega)]
      refine k_Row_size (rw_f (by omega)) ?_
      rw [(hC2.2.1 f (by omega)).1]
      have h40 := hlen f (by omega)
      refine k_Slices_addFile hs (by omega) (rw_f (by omega)) (hC2.2.1 f (by omega)) h40 (okF f (by omega)).2 (by omega) (by show (F f).length ≤ 96; omega) (Nat.le_trans (sp_n_le (by omega)) hn) (fun S2 s2 f2 => ?_)
      rw [nI_1]
      exact ih (f + 1) S2 (by omega) s2 (fun i hi => (f2 i (by omega)).trans (fr i hi))
  have count : ∀ (hr : ¬ (r < 0 ∨ 6 < r)) (m f : Nat), m + f = 3 → px_w G px_Zc (d + 6) m_PV_protect 16 [.ref 0, .int r, .int (nI (sp_n (fun f => (F f).length) f)), .int (nI f)] [] S (px_iq Q) := by
    intro hr m
    induction m with
    | zero =>
      intro f hf
      have : f = 3 := by omega
      subst this
      have hb := hL 3 (by decide)
      refine e_PV_protect_16 ⟨fun h => ⟨fun h2 => ?_, fun h2 => px_iq_i ?_⟩, fun h => absurd (Int32.le_refl _) h⟩
      · have c := (nI_leI (b := 12) (by omega) (by decide)).mp h2
        refine k_Slices_clear F (fun f => (F f).length) (fun S2 s2 f2 => ?_)
        exact add hr c 3 0 S2 (by omega) s2 (fun i hi => f2 i (by omega) (by omega))
      · have c : ¬ sp_n (fun f => (F f).length) 3 ≤ 12 := fun z => h2 ((nI_leI (b := 12) (by omega) (by decide)).mpr z)
        have hq : sq_protect r F V = (-2, V) := by
          unfold sq_protect
          rw [if_neg hr, if_pos (by omega)]
        rw [hq] at hQ
        exact hQ S hC
    | succ m ih =>
      intro f hf
      refine e_PV_protect_16 ⟨fun h => absurd h (nI_ge (b := 3) (by omega) (by decide)), fun h => ⟨vp_in_nI (by omega) (by decide), ?_⟩⟩
      rw [px_rf_get (by omega)]
      refine k_Row_size (rw_f (by omega)) ?_
      rw [(hC.2.1 f (by omega)).1]
      have h40 := hlen f (by omega)
      refine k_slicesOf (by omega) ?_
      rw [nI_add, nI_1]
      exact ih (f + 1) (by omega)
  refine f_PV_protect ⟨fun h => px_iq_i ?_, fun h => ⟨fun h2 => ?_, fun h2 => px_iq_i ?_⟩⟩
  · have hq : sq_protect r F V = (-1, V) := by unfold sq_protect; rw [if_pos (Or.inl h)]
    rw [hq] at hQ; exact hQ S hC
  · exact count (fun z => z.elim (fun z => h z) (fun z => absurd h2 (Int32.not_le.mpr z))) 3 0 (by omega)
  · have hq : sq_protect r F V = (-1, V) := by unfold sq_protect; rw [if_pos (Or.inr (Int32.not_le.mp h2))]
    rw [hq] at hQ; exact hQ S hC
end
