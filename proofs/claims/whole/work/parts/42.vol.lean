/-! What protecting writes -/
/-- the bytes of an int, the lowest first -/
def vw_4 (c : Int32) : List Int32 := (List.range 4).map (fun i => px_ushr c (nI (8 * i)) &&& 255)
def vw_ck (C : List Int32) (j : Nat) : List Int32 := vw_4 (cr (ls_sl C (8 * j) 8)) ++ md5 (ls_sl C (8 * j) 8)
theorem vw_ck_len (C : List Int32) (j : Nat) : (vw_ck C j).length = 20 := by simp [vw_ck, vw_4, md5_len]
def vw_cks (C : List Int32) (a : Nat) : Nat → List Int32
  | 0 => []
  | k + 1 => vw_cks C a k ++ vw_ck C (a + k)
theorem vw_cks_len (C : List Int32) (a k : Nat) : (vw_cks C a k).length = 20 * k := by
  induction k with
  | zero => rfl
  | succ k ih =>
    show (vw_cks C a k ++ vw_ck C (a + k)).length = 20 * (k + 1)
    rw [List.length_append, ih, vw_ck_len]
    omega
def vw_2 (w : BitVec 16) : List Int32 := [gE w &&& 255, px_ushr (gE w) 8 &&& 255]
def vw_rec (C : List Int32) (e n : Nat) : Nat → List Int32
  | 0 => []
  | q + 1 => vw_rec C e n q ++ vw_2 (sp_wg C 0 e q n)
theorem vw_rec_len (C : List Int32) (e n q : Nat) : (vw_rec C e n q).length = 2 * q := by
  induction q with
  | zero => rfl
  | succ q ih =>
    show (vw_rec C e n q ++ vw_2 (sp_wg C 0 e q n)).length = 2 * (q + 1)
    rw [List.length_append, ih]
    rfl
def vw_main (t : Nat → Nat) : List Int32 := [8, 3, nI (t 0), nI (t 1), nI (t 2)]
def vw_set (t : Nat → Nat) : List Int32 := ls_sl (md5 (vw_main t)) 0 4
def vw_fb (F : Nat → List Int32) (t : Nat → Nat) (f : Nat) : List Int32 := [nI f, nI (t f)] ++ md5 (F f)
def vw_cb (C : List Int32) (t : Nat → Nat) (f : Nat) : List Int32 := [nI f] ++ vw_cks C (sp_n t f) ((t f + 7) / 8)
def vw_fs (F : Nat → List Int32) (C : List Int32) (t : Nat → Nat) : Nat → List Int32
  | 0 => pk_of 77 (vw_set t) (vw_main t)
  | f + 1 => vw_fs F C t f ++ pk_of 70 (vw_set t) (vw_fb F t f) ++ pk_of 73 (vw_set t) (vw_cb C t f)
def vw_rb (C : List Int32) (e n : Nat) : List Int32 := [nI e] ++ vw_rec C e n 4
def vw_all (F : Nat → List Int32) (C : List Int32) (t : Nat → Nat) (n : Nat) : Nat → List Int32
  | 0 => vw_fs F C t 3
  | r + 1 => vw_all F C t n r ++ pk_of 82 (vw_set t) (vw_rb C r n)
theorem vw_set_len (t : Nat → Nat) : (vw_set t).length = 4 := ls_sl_len _ _ _
theorem vw_fs_len (F : Nat → List Int32) (C : List Int32) (t : Nat → Nat) (f : Nat) : (vw_fs F C t f).length = 31 + 71 * f + 20 * sp_n t f := by
  induction f with
  | zero => exact pk_of_len _ _ (vw_set_len t)
  | succ f ih =>
    show (vw_fs F C t f ++ pk_of 70 (vw_set t) (vw_fb F t f) ++ pk_of 73 (vw_set t) (vw_cb C t f)).length = _
    rw [List.length_append, List.length_append, ih, pk_of_len _ _ (vw_set_len t), pk_of_len _ _ (vw_set_len t)]
    unfold vw_fb vw_cb
    rw [List.length_append, md5_len, List.length_append, vw_cks_len]
    show 31 + 71 * f + 20 * sp_n t f + (26 + (2 + 16)) + (26 + (1 + 20 * ((t f + 7) / 8))) = 31 + 71 * (f + 1) + 20 * (sp_n t f + (t f + 7) / 8)
    omega
theorem vw_all_len (F : Nat → List Int32) (C : List Int32) (t : Nat → Nat) (n r : Nat) : (vw_all F C t n r).length = 244 + 20 * sp_n t 3 + 35 * r := by
  induction r with
  | zero => exact (vw_fs_len F C t 3).trans (by omega)
  | succ r ih =>
    show (vw_all F C t n r ++ pk_of 82 (vw_set t) (vw_rb C r n)).length = _
    rw [List.length_append, ih, pk_of_len _ _ (vw_set_len t)]
    unfold vw_rb
    rw [List.length_append, vw_rec_len]
    show 244 + 20 * sp_n t 3 + 35 * r + (26 + (1 + 8)) = 244 + 20 * sp_n t 3 + 35 * (r + 1)
    omega
/-- the bytes from place 22 on are the main packet's set, and stay so -/
theorem vw_fs_set (F : Nat → List Int32) (C : List Int32) (t : Nat → Nat) (X : List Int32) : ls_sl (pk_of 77 (vw_set t) (vw_main t) ++ X) 22 4 = vw_set t := by
  have h := ls_mid ([80, 75, 84, 77, nI ((vw_main t).length % 256), nI ((vw_main t).length / 256)] ++ md5 ([77, nI ((vw_main t).length % 256), nI ((vw_main t).length / 256)] ++ vw_set t ++ vw_main t)) (vw_set t) (vw_main t ++ X)
  have e1 : ([80, 75, 84, 77, nI ((vw_main t).length % 256), nI ((vw_main t).length / 256)] ++ md5 ([77, nI ((vw_main t).length % 256), nI ((vw_main t).length / 256)] ++ vw_set t ++ vw_main t)).length = 22 := by simp [md5_len]
  rw [e1, vw_set_len] at h
  rw [← h]
  congr 1
theorem vw_fs_head (F : Nat → List Int32) (C : List Int32) (t : Nat → Nat) (f : Nat) : ∃ X, vw_fs F C t f = pk_of 77 (vw_set t) (vw_main t) ++ X := by
  induction f with
  | zero => exact ⟨[], (List.append_nil _).symm⟩
  | succ f ih =>
    obtain ⟨X, hX⟩ := ih
    refine ⟨X ++ pk_of 70 (vw_set t) (vw_fb F t f) ++ pk_of 73 (vw_set t) (vw_cb C t f), ?_⟩
    show vw_fs F C t f ++ pk_of 70 (vw_set t) (vw_fb F t f) ++ pk_of 73 (vw_set t) (vw_cb C t f) = _
    rw [hX]
    simp only [List.append_assoc]
theorem vw_all_head (F : Nat → List Int32) (C : List Int32) (t : Nat → Nat) (n r : Nat) : ∃ X, vw_all F C t n r = pk_of 77 (vw_set t) (vw_main t) ++ X := by
  induction r with
  | zero => exact vw_fs_head F C t 3
  | succ r ih =>
    obtain ⟨X, hX⟩ := ih
    refine ⟨X ++ pk_of 82 (vw_set t) (vw_rb C r n), ?_⟩
    show vw_all F C t n r ++ pk_of 82 (vw_set t) (vw_rb C r n) = _
    rw [hX]
    simp only [List.append_assoc]
/-- a file's bytes among the slices -/
theorem sp_c_app (F : Nat → List Int32) (t : Nat → Nat) {f m : Nat} (h : f < m) : ∃ X, sp_c F t m = sp_c F t f ++ sp_pf (F f) (t f) ++ X := by
  induction m with
  | zero => omega
  | succ m ih =>
    by_cases hm : f = m
    · subst hm
      exact ⟨[], by rw [List.append_nil]; rfl⟩
    · obtain ⟨X, hX⟩ := ih (by omega)
      refine ⟨X ++ sp_pf (F m) (t m), ?_⟩
      show sp_c F t m ++ sp_pf (F m) (t m) = _
      rw [hX]
      simp only [List.append_assoc]
theorem sp_c_get (F : Nat → List Int32) (t : Nat → Nat) {f m i : Nat} (h : f < m) (hi : i < t f) : (sp_c F t m).getD (8 * sp_n t f + i) 0 = (F f).getD i 0 := by
  obtain ⟨X, hX⟩ := sp_c_app F t h
  rw [hX, List.append_assoc, ls_getD_append, if_neg (by rw [sp_c_len]; omega), sp_c_len, Nat.add_sub_cancel_left, ls_getD_append, if_pos (by rw [sp_pf_len]; omega)]
  unfold sp_pf
  rw [List.getD_eq_getElem?_getD, List.getElem?_map, List.getElem?_range (by omega)]
  simp [hi]
theorem sp_c_sl (F : Nat → List Int32) (t : Nat → Nat) {f m : Nat} (h : f < m) (ht : t f = (F f).length) : ls_sl (sp_c F t m) (8 * sp_n t f) (t f) = F f := by
  apply List.ext_getElem
  · rw [ls_sl_len, ht]
  · intro i h1 h2
    rw [ls_sl_len] at h1
    simp only [ls_sl, List.getElem_map, List.getElem_range]
    rw [sp_c_get F t h h1, List.getD_eq_getElem?_getD, List.getElem?_eq_getElem h2]
    rfl
theorem ls_by_pf {F : List Int32} (h : ls_by F) (n : Nat) : ls_by (sp_pf F n) := by
  intro x hx
  obtain ⟨i, -, rfl⟩ := List.mem_map.mp hx
  split
  · exact ls_by_getD h _
  · decide
theorem ls_by_c {F : Nat → List Int32} {t : Nat → Nat} {m : Nat} (h : ∀ f, f < m → ls_by (F f)) : ls_by (sp_c F t m) := by
  induction m with
  | zero => exact ls_by_nil
  | succ m ih => exact ls_by_app (ih (fun f hf => h f (by omega))) (ls_by_pf (h m (by omega)) _)
theorem ls_by_4 (c : Int32) : ls_by (vw_4 c) := by
  intro x hx
  obtain ⟨i, -, rfl⟩ := List.mem_map.mp hx
  exact by_and _
theorem ls_by_ck (C : List Int32) (j : Nat) : ls_by (vw_ck C j) := ls_by_app (ls_by_4 _) (ls_by_md5 _)
theorem ls_by_cks (C : List Int32) (a k : Nat) : ls_by (vw_cks C a k) := by
  induction k with
  | zero => exact ls_by_nil
  | succ k ih => exact ls_by_app ih (ls_by_ck C _)
theorem ls_by_rec (C : List Int32) (e n q : Nat) : ls_by (vw_rec C e n q) := by
  induction q with
  | zero => exact ls_by_nil
  | succ q ih => exact ls_by_app ih (ls_by_cons (by_and _) (ls_by_cons (by_and _) ls_by_nil))
theorem ls_by_set (t : Nat → Nat) : ls_by (vw_set t) := ls_by_sl (ls_by_md5 _) _ _
theorem ls_by_main {t : Nat → Nat} (h : ∀ f, f < 3 → t f < 256) : ls_by (vw_main t) := ls_by_cons (by decide) (ls_by_cons (by decide) (ls_by_cons (by_nI (h 0 (by decide))) (ls_by_cons (by_nI (h 1 (by decide))) (ls_by_cons (by_nI (h 2 (by decide))) ls_by_nil))))
theorem ls_by_fb (F : Nat → List Int32) {t : Nat → Nat} {f : Nat} (hf : f < 256) (h : t f < 256) : ls_by (vw_fb F t f) := ls_by_app (ls_by_cons (by_nI hf) (ls_by_cons (by_nI h) ls_by_nil)) (ls_by_md5 _)
theorem ls_by_cb (C : List Int32) {t : Nat → Nat} {f : Nat} (hf : f < 256) : ls_by (vw_cb C t f) := ls_by_app (ls_by_cons (by_nI hf) ls_by_nil) (ls_by_cks _ _ _)
theorem ls_by_rb (C : List Int32) {e : Nat} (n : Nat) (he : e < 256) : ls_by (vw_rb C e n) := ls_by_app (ls_by_cons (by_nI he) ls_by_nil) (ls_by_rec _ _ _ _)
theorem ls_by_fs (F : Nat → List Int32) (C : List Int32) {t : Nat → Nat} (h : ∀ f, f < 3 → t f < 256) (hn : sp_n t 3 ≤ 12) : ∀ f, f ≤ 3 → ls_by (vw_fs F C t f) := by
  intro f
  induction f with
  | zero => intro _; exact ls_by_pk (by decide) (ls_by_set t) (ls_by_main h) (show 5 < 65536 by decide)
  | succ f ih =>
    intro hf
    refine ls_by_app (ls_by_app (ih (by omega)) (ls_by_pk (by decide) (ls_by_set t) (ls_by_fb F (by omega) (h f (by omega))) ?_)) (ls_by_pk (by decide) (ls_by_set t) (ls_by_cb C (by omega)) ?_)
    · unfold vw_fb
      rw [List.length_append, md5_len]
      show 2 + 16 < 65536
      decide
    · unfold vw_cb
      have := h f (by omega)
      rw [List.length_append, vw_cks_len]
      show 1 + 20 * ((t f + 7) / 8) < 65536
      omega
theorem ls_by_all (F : Nat → List Int32) (C : List Int32) {t : Nat → Nat} (n : Nat) (h : ∀ f, f < 3 → t f < 256) (hn : sp_n t 3 ≤ 12) : ∀ r, r ≤ 6 → ls_by (vw_all F C t n r) := by
  intro r
  induction r with
  | zero => intro _; exact ls_by_fs F C h hn 3 (by decide)
  | succ r ih =>
    intro hr
    refine ls_by_app (ih (by omega)) (ls_by_pk (by decide) (ls_by_set t) (ls_by_rb C n (by omega)) ?_)
    unfold vw_rb
    rw [List.length_append, vw_rec_len]
    show 1 + 2 * 4 < 65536
    decide
