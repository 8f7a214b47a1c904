/-! Packets: what is written -/
theorem by_range {v : Int32} (h : v &&& 255 = v) : 0 ≤ v ∧ v ≤ 255 := by
  rw [pk_and v (m := 255) 8 (by decide)] at h
  rw [← h]
  have : v.toBitVec.toNat % 2 ^ 8 < 256 := Nat.mod_lt _ (by decide)
  exact ⟨nI_pos' (by omega), nI_le (b := 255) (by omega) (by decide)⟩
theorem by_nI {n : Nat} (h : n < 256) : nI n &&& 255 = nI n := by rw [nI_and255 (by omega), Nat.mod_eq_of_lt h]
theorem by_and (x : Int32) : (x &&& 255) &&& 255 = x &&& 255 := by
  rw [pk_and x (m := 255) 8 (by decide)]
  exact by_nI (Nat.mod_lt _ (by decide))
/-- a stretch of a row, overwritten place by place -/
theorem ls_put (A X Y C : List Int32) {i : Nat} (h : X.length = Y.length) (hi : i < Y.length) : (A ++ (Y.take i ++ X.drop i) ++ C).set (A.length + i) (Y.getD i 0) = A ++ (Y.take (i + 1) ++ X.drop (i + 1)) ++ C := by
  have hX : i < X.length := by omega
  have e1 : X.drop i = X[i] :: X.drop (i + 1) := (List.getElem_cons_drop hX).symm
  have e2 : Y.take (i + 1) = Y.take i ++ [Y.getD i 0] := by
    rw [List.take_succ, List.getD_eq_getElem?_getD, List.getElem?_eq_getElem hi]
    rfl
  have e3 : (A ++ Y.take i).length = A.length + i := by rw [List.length_append, List.length_take]; omega
  rw [e1, e2, ← e3]
  rw [show A ++ (Y.take i ++ X[i] :: X.drop (i + 1)) ++ C = (A ++ Y.take i) ++ X[i] :: (X.drop (i + 1) ++ C) by simp only [List.append_assoc, List.cons_append]]
  rw [List.set_append_right _ _ (Nat.le_refl _), Nat.sub_self, List.set_cons_zero]
  simp only [List.append_assoc, List.cons_append, List.nil_append]
section
variable {G : px_G} {d k n : Nat} {S : px_S} {L V : List Int32}
theorem k_Row_setN {Q : Int32 → px_S → Prop} {i : Nat} {v : Int32} (hR : rw_is k n) (hw : rw_at S k L) (hl : L.length ≤ n) (hi : i < L.length) (hv : v &&& 255 = v) (hQ : ∀ S', rw_at S' k (L.set i v) → (∀ a, a ≠ k + 1 → S' a = S a) → Q 1 S') : px_I G px_Zc (d + 1) m_Row_set [.ref k, .int (nI i), .int v] S Q := by
  have hn := hR.2.2
  refine k_Row_set hR hw hl (fun j hj he _ _ => ?_) (fun h => absurd ⟨⟨i, hi, rfl⟩, by_range hv⟩ h)
  have : i = j := (nI_eq (by omega) (by omega)).mp he
  subst this
  exact hQ
theorem k_Packets_open {Q : px_S → Prop} {kd : Int32} (hw : rw_at S 10 V) (hl : V.length + 26 ≤ 694) (hk : kd &&& 255 = kd) (hQ : ∀ S', rw_at S' 10 (V ++ [80, 75, 84, kd] ++ List.replicate 22 0) → S' 22 2 = nI V.length → (∀ i, i ≠ 10 → i ≠ 11 → i ≠ 22 → S' i = S i) → Q S') : px_V G px_Zc (d + 1) m_Packets_open [.ref 22, .int kd] S Q := by
  refine f_Packets_open (k_Row_size rw_10 ?_)
  have w0 : rw_at (px_u S 22 2 (S 10 1)) 10 V := hw.of (px_u_ne _ _ _ (by decide)) (px_u_ne _ _ _ (by decide))
  refine k_Row_append rw_10 w0 (by omega) (fun S1 w1 f1 => ?_)
  refine k_Row_append rw_10 w1 (by simp <;> omega) (fun S2 w2 f2 => ?_)
  refine k_Row_append rw_10 w2 (by simp <;> omega) (fun S3 w3 f3 => ?_)
  refine k_Row_append rw_10 w3 (by simp <;> omega) (fun S4 w4 f4 => ?_)
  have w4 : rw_at S4 10 (V ++ [80, 75, 84, kd]) := by
    have a1 : (80 : Int32) &&& 255 = 80 := by decide
    have a2 : (75 : Int32) &&& 255 = 75 := by decide
    have a3 : (84 : Int32) &&& 255 = 84 := by decide
    rw [hk, a1, a2, a3] at w4
    simpa using w4
  have f5 : ∀ i, i ≠ 10 → i ≠ 11 → S4 i = px_u S 22 2 (S 10 1) i := fun i h1 h2 => by rw [f4 i h1 h2, f3 i h1 h2, f2 i h1 h2, f1 i h1 h2]
  have key : ∀ (m i : Nat) (S' : px_S), m + i = 22 → rw_at S' 10 (V ++ [80, 75, 84, kd] ++ List.replicate i 0) → (∀ j, j ≠ 10 → j ≠ 11 → S' j = S4 j) → px_w G px_Zc (d + 1) m_Packets_open 48 [.ref 22, .int kd, .int (nI (4 + i))] [] S' (px_vq Q) := by
    intro m
    induction m with
    | zero =>
      intro i S' hi w f
      have : i = 22 := by omega
      subst this
      refine e_Packets_open_48 ⟨fun h => px_vq_i (hQ S' w ?_ (fun j h1 h2 h3 => ?_)), fun h => absurd (Int32.le_refl _) h⟩
      · rw [f 22 (by decide) (by decide), f5 22 (by decide) (by decide), px_us, hw.1]
      · rw [f j h1 h2, f5 j h1 h2, px_u_ne _ _ _ h3]
    | succ m ih =>
      intro i S' hi w f
      refine e_Packets_open_48 ⟨fun h => absurd h (nI_ge (b := 26) (by omega) (by decide)), fun h => ?_⟩
      refine k_Row_append rw_10 w (by simp <;> omega) (fun S2 w2 f2 => ?_)
      rw [nI_1]
      refine ih (i + 1) S2 (by omega) ?_ (fun j h1 h2 => (f2 j h1 h2).trans (f j h1 h2))
      rw [List.append_assoc] at w2
      rw [List.replicate_succ']
      exact w2
  exact key 22 0 S4 (by omega) (by simpa using w4) (fun _ _ _ => rfl)
end
theorem ls_getD_append (A B : List Int32) (i : Nat) : (A ++ B).getD i 0 = if i < A.length then A.getD i 0 else B.getD (i - A.length) 0 := by
  by_cases h : i < A.length
  · rw [if_pos h, List.getD_eq_getElem?_getD, List.getElem?_append_left h, List.getD_eq_getElem?_getD]
  · rw [if_neg h, List.getD_eq_getElem?_getD, List.getElem?_append_right (by omega), List.getD_eq_getElem?_getD]
theorem ls_mid (A X C : List Int32) : ls_sl (A ++ X ++ C) A.length X.length = X := by
  apply List.ext_getElem
  · rw [ls_sl_len]
  · intro i h1 h2
    rw [ls_sl_len] at h1
    simp only [ls_sl, List.getElem_map, List.getElem_range]
    rw [List.append_assoc, ls_getD_append, if_neg (by omega), Nat.add_sub_cancel_left, ls_getD_append, if_pos h1, List.getD_eq_getElem?_getD, List.getElem?_eq_getElem h1]
    rfl
theorem ls_by_app {A B : List Int32} (hA : ls_by A) (hB : ls_by B) : ls_by (A ++ B) := by
  intro x hx
  rcases List.mem_append.mp hx with h | h
  · exact hA x h
  · exact hB x h
theorem ls_by_l {A B : List Int32} (h : ls_by (A ++ B)) : ls_by A := fun x hx => h x (List.mem_append_left _ hx)
theorem ls_by_r {A B : List Int32} (h : ls_by (A ++ B)) : ls_by B := fun x hx => h x (List.mem_append_right _ hx)
theorem ls_by_0 (n : Nat) : ls_by (List.replicate n 0) := fun x hx => by rw [List.eq_of_mem_replicate hx]; decide
theorem ls_by_sl {L : List Int32} (h : ls_by L) (a n : Nat) : ls_by (ls_sl L a n) := by
  intro x hx
  obtain ⟨i, -, rfl⟩ := List.mem_map.mp hx
  exact ls_by_getD h _
theorem ls_by_md5 (L : List Int32) : ls_by (md5 L) := by
  intro x hx
  obtain ⟨i, -, rfl⟩ := List.mem_map.mp hx
  exact by_and _
theorem ls_by_cons {x : Int32} {L : List Int32} (hx : x &&& 255 = x) (h : ls_by L) : ls_by (x :: L) := by
  intro y hy
  rcases List.mem_cons.mp hy with rfl | hy
  · exact hx
  · exact h y hy
theorem ls_by_nil : ls_by [] := fun _ h => by cases h
theorem ls_by_pk {k : Int32} {set body : List Int32} (hk : k &&& 255 = k) (hs : ls_by set) (hb : ls_by body) (hl : body.length < 65536) : ls_by (pk_of k set body) := by
  unfold pk_of
  have h1 := by_nI (n := body.length % 256) (Nat.mod_lt _ (by decide))
  have h2 := by_nI (n := body.length / 256) (by omega)
  exact ls_by_app (ls_by_app (ls_by_app (ls_by_cons (by decide) (ls_by_cons (by decide) (ls_by_cons (by decide) (ls_by_cons hk (ls_by_cons h1 (ls_by_cons h2 ls_by_nil)))))) (ls_by_md5 _)) hs) hb
theorem sp_bt_nI {L : List Int32} {i m : Nat} (h : L.getD i 0 = nI m) (hm : m < 256) : sp_bt L i = m := by
  unfold sp_bt
  rw [h, pk_tn (by omega), Nat.mod_eq_of_lt hm]
section
variable {G : px_G} {d : Nat} {S : px_S}
theorem k_Packets_close {Q : px_S → Prop} {V0 s4 body set : List Int32} {kd : Int32} (hw : rw_at S 10 (V0 ++ [80, 75, 84, kd] ++ List.replicate 18 0 ++ s4 ++ body)) (ho : S 22 2 = nI V0.length) (hl : V0.length + 26 + body.length ≤ 694) (h4 : s4.length = 4) (hkd : kd &&& 255 = kd) (hV : ls_by V0) (hs4 : ls_by s4) (hbo : ls_by body)
    (hset : set = if V0.length = 0 then s4 else ls_sl V0 22 4) (hV0 : V0.length = 0 ∨ 26 ≤ V0.length) (hQ : ∀ S', rw_at S' 10 (V0 ++ pk_of kd set body) → (∀ i, i ≠ 11 → (i < 18 ∨ 21 < i) → S' i = S i) → Q S') : px_V G px_Zc (d + 3) m_Packets_close [.ref 22] S Q := by
  have hsl : set.length = 4 := by
    rw [hset]
    split
    · exact h4
    · exact ls_sl_len _ _ _
  have hsb : ls_by set := by
    rw [hset]
    split
    · exact hs4
    · exact ls_by_sl hV _ _
  have e18 : List.replicate 18 (0 : Int32) = [0, 0] ++ List.replicate 16 0 := rfl
  have hn : body.length < 65536 := by omega
  -- the sum's bytes
  have last : ∀ (x1 : Int32) (Y : List Int32) (s : md_S), Y = md5 ([kd, nI (body.length % 256), nI (body.length / 256)] ++ set ++ body) → s = md_sum ([kd, nI (body.length % 256), nI (body.length / 256)] ++ set ++ body) → ∀ (m i : Nat) (S' : px_S), m + i = 16 →
      rw_at S' 10 ((V0 ++ [80, 75, 84, kd] ++ [nI (body.length % 256), nI (body.length / 256)]) ++ (Y.take i ++ (List.replicate 16 0).drop i) ++ (set ++ body)) → (∀ j, j < 4 → S' 21 j = md_wd s j) → S' 22 2 = nI V0.length → (∀ i, i ≠ 11 → (i < 18 ∨ 21 < i) → S' i = S i) →
      px_w G px_Zc (d + 3) m_Packets_close 111 [.ref 22, .int x1, .int (nI i)] [] S' (px_vq Q) := by
    intro x1 Y s hY hs m
    have hYl : Y.length = 16 := by rw [hY]; exact md5_len _
    induction m with
    | zero =>
      intro i S' hi w hsum h22 hf
      have : i = 16 := by omega
      subst this
      refine e_Packets_close_111 ⟨fun h => px_vq_i (hQ S' ?_ hf), fun h => absurd (Int32.le_refl _) h⟩
      rw [List.take_of_length_le (by omega), show (List.replicate 16 (0 : Int32)).drop 16 = [] from rfl, List.append_nil, hY] at w
      unfold pk_of
      simpa using w
    | succ m ih =>
      intro i S' hi w hsum h22 hf
      refine e_Packets_close_111 ⟨fun h => absurd h (nI_ge (b := 16) (by omega) (by decide)), fun h => ?_⟩
      rw [h22, show nI V0.length + 6 + nI i = nI (V0.length + 6 + i) by rw [show nI V0.length + 6 = nI (V0.length + 6) from nI_add _ 6, nI_add], nI_1]
      have hb : md_b s i = Y.getD i 0 := by rw [hY, hs, md5_get _ (by omega)]
      refine k_Sum_get hsum (by omega) ?_
      rw [hb]
      refine k_Row_setN rw_10 w (by simp [hYl, hsl] <;> omega) (by simp [hYl, hsl] <;> omega) (by rw [← hb]; exact by_and _) (fun S2 w2 f2 => ?_)
      have eA : V0.length + 6 + i = (V0 ++ [80, 75, 84, kd] ++ [nI (body.length % 256), nI (body.length / 256)]).length + i := by simp
      rw [eA, ls_put _ _ _ _ (by rw [hYl]; rfl) (by omega)] at w2
      refine ih (i + 1) S2 (by omega) w2 ?_ ?_ (fun j h1 h2 => (f2 j h1).trans (hf j h1 h2))
      · rw [f2 21 (by decide)]; exact hsum
      · rw [f2 22 (by decide)]; exact h22
  -- the set
  have sets : ∀ (m i : Nat) (S' : px_S), m + i = 4 → rw_at S' 10 ((V0 ++ [80, 75, 84, kd] ++ List.replicate 18 0) ++ (set.take i ++ s4.drop i) ++ body) → (∀ i, i ≠ 11 → S' i = S i) → px_w G px_Zc (d + 3) m_Packets_close 19 [.ref 22, .int (nI body.length), .int (nI i)] [] S' (px_vq Q) := by
    intro m
    induction m with
    | zero =>
      intro i S' hi w hf
      have : i = 4 := by omega
      subst this
      rw [List.take_of_length_le (by omega), List.drop_of_length_le (by omega), List.append_nil] at w
      refine e_Packets_close_19 ⟨fun h => ?_, fun h => absurd (Int32.le_refl _) h⟩
      have h22 : S' 22 2 = nI V0.length := by rw [hf 22 (by decide)]; exact ho
      have e1 : nI body.length &&& 255 = nI (body.length % 256) := nI_and255 (by omega)
      have e2 : px_ushr (nI body.length) 8 &&& 255 = nI (body.length / 256) := by
        rw [show px_ushr (nI body.length) 8 = nI (body.length / 2 ^ 8) from px_ushrN (k := 8) (by omega) (by decide)]
        exact by_nI (by omega)
      rw [h22, e1, e2, show nI V0.length + 4 = nI (V0.length + 4) from nI_add _ 4]
      refine k_Row_setN rw_10 w (by simp [hsl] <;> omega) (by simp <;> omega) (by_nI (Nat.mod_lt _ (by decide))) (fun S2 w2 f2 => ?_)
      rw [f2 22 (by decide), h22, show nI V0.length + 4 = nI (V0.length + 4) from nI_add _ 4, nI_1]
      refine k_Row_setN rw_10 w2 (by simp [hsl] <;> omega) (by simp <;> omega) (by_nI (by omega)) (fun S3 w3 f3 => ?_)
      have w3 : rw_at S3 10 ((V0 ++ [80, 75, 84, kd]) ++ [nI (body.length % 256), nI (body.length / 256)] ++ (List.replicate 16 0 ++ set ++ body)) := by
        have p1 := ls_put (V0 ++ [80, 75, 84, kd]) [0, 0] [nI (body.length % 256), nI (body.length / 256)] (List.replicate 16 0 ++ set ++ body) (i := 0) rfl (by simp)
        have p2 := ls_put (V0 ++ [80, 75, 84, kd]) [0, 0] [nI (body.length % 256), nI (body.length / 256)] (List.replicate 16 0 ++ set ++ body) (i := 1) rfl (by simp)
        have q : ((V0 ++ [80, 75, 84, kd] ++ List.replicate 18 0 ++ set ++ body).set (V0.length + 4) (nI (body.length % 256))).set (V0.length + 4 + 1) (nI (body.length / 256)) = (V0 ++ [80, 75, 84, kd]) ++ [nI (body.length % 256), nI (body.length / 256)] ++ (List.replicate 16 0 ++ set ++ body) := by
          have l0 : (V0 ++ [80, 75, 84, kd]).length = V0.length + 4 := by simp
          rw [l0] at p1 p2
          rw [e18]
          rw [show V0 ++ [80, 75, 84, kd] ++ ([0, 0] ++ List.replicate 16 0) ++ set ++ body = (V0 ++ [80, 75, 84, kd]) ++ (List.take 0 [nI (body.length % 256), nI (body.length / 256)] ++ List.drop 0 [(0 : Int32), 0]) ++ (List.replicate 16 0 ++ set ++ body) by simp]
          exact (congrArg (fun z => List.set z (V0.length + 4 + 1) (nI (body.length / 256))) p1).trans p2
        rw [q] at w3
        exact w3
      have hby : ls_by ((V0 ++ [80, 75, 84, kd]) ++ [nI (body.length % 256), nI (body.length / 256)] ++ (List.replicate 16 0 ++ set ++ body)) :=
        ls_by_app (ls_by_app (ls_by_app hV (ls_by_cons (by decide) (ls_by_cons (by decide) (ls_by_cons (by decide) (ls_by_cons hkd ls_by_nil))))) (ls_by_cons (by_nI (Nat.mod_lt _ (by decide))) (ls_by_cons (by_nI (by omega)) ls_by_nil))) (ls_by_app (ls_by_app (ls_by_0 16) hsb) hbo)
      have hbl : pk_bl ((V0 ++ [80, 75, 84, kd]) ++ [nI (body.length % 256), nI (body.length / 256)] ++ (List.replicate 16 0 ++ set ++ body)) V0.length = body.length := by
        unfold pk_bl
        rw [sp_bt_nI (m := body.length % 256) (by simp [ls_getD_append]) (Nat.mod_lt _ (by decide)), sp_bt_nI (m := body.length / 256) (by simp [ls_getD_append]) (by omega)]
        omega
      have hms : pk_ms ((V0 ++ [80, 75, 84, kd]) ++ [nI (body.length % 256), nI (body.length / 256)] ++ (List.replicate 16 0 ++ set ++ body)) V0.length = [kd, nI (body.length % 256), nI (body.length / 256)] ++ set ++ body := by
        unfold pk_ms
        rw [hbl]
        have q1 := ls_mid (V0 ++ [80, 75, 84]) [kd, nI (body.length % 256), nI (body.length / 256)] (List.replicate 16 0 ++ set ++ body)
        have q2 := ls_mid (V0 ++ [80, 75, 84, kd] ++ [nI (body.length % 256), nI (body.length / 256)] ++ List.replicate 16 0) (set ++ body) []
        have z1 : (V0 ++ ([80, 75, 84] : List Int32)).length = V0.length + 3 := by simp
        have z2 : ([kd, nI (body.length % 256), nI (body.length / 256)] : List Int32).length = 3 := rfl
        have z3 : V0 ++ ([80, 75, 84] : List Int32) ++ [kd, nI (body.length % 256), nI (body.length / 256)] ++ (List.replicate 16 0 ++ set ++ body) = (V0 ++ [80, 75, 84, kd]) ++ [nI (body.length % 256), nI (body.length / 256)] ++ (List.replicate 16 0 ++ set ++ body) := by simp
        rw [z1, z2, z3] at q1
        have z4 : (V0 ++ ([80, 75, 84, kd] : List Int32) ++ [nI (body.length % 256), nI (body.length / 256)] ++ List.replicate 16 0).length = V0.length + 22 := by simp
        have z5 : (set ++ body).length = 4 + body.length := by simp [hsl]
        have z6 : V0 ++ ([80, 75, 84, kd] : List Int32) ++ [nI (body.length % 256), nI (body.length / 256)] ++ List.replicate 16 0 ++ (set ++ body) ++ [] = (V0 ++ [80, 75, 84, kd]) ++ [nI (body.length % 256), nI (body.length / 256)] ++ (List.replicate 16 0 ++ set ++ body) := by simp
        rw [z4, z5, z6] at q2
        rw [q1, q2, List.append_assoc]
      rw [f3 22 (by decide), f2 22 (by decide), h22]
      refine k_Packets_sumUp w3 (by simp [hsl] <;> omega) hby (by omega) (by rw [hbl]; omega) (fun S4 w4 f4 => ?_)
      rw [hms] at w4
      refine last _ _ _ rfl rfl 16 0 S4 (by omega) ?_ w4 ?_ (fun j h1 h2 => ?_)
      · have w5 := w3.of (f4 10 (by decide)) (f4 11 (by decide))
        simpa using w5
      · rw [f4 22 (by decide), f3 22 (by decide), f2 22 (by decide)]; exact h22
      · rw [f4 j h2, f3 j h1, f2 j h1]; exact hf j h1
    | succ m ih =>
      intro i S' hi w hf
      refine e_Packets_close_19 ⟨fun h => absurd h (nI_ge (b := 4) (by omega) (by decide)), fun h => ?_⟩
      have h22 : S' 22 2 = nI V0.length := by rw [hf 22 (by decide)]; exact ho
      rw [h22, show (22 : Int32) + nI i = nI (22 + i) from nI_add 22 i, show nI V0.length + 22 + nI i = nI (V0.length + 22 + i) by rw [show nI V0.length + 22 = nI (V0.length + 22) from nI_add _ 22, nI_add], nI_1]
      refine k_Row_get rw_10 w (by simp [hsl, h4] <;> omega) (by omega) ?_
      have hg : ((V0 ++ [80, 75, 84, kd] ++ List.replicate 18 0) ++ (set.take i ++ s4.drop i) ++ body).getD (22 + i) 0 = set.getD i 0 := by
        rcases hV0 with h0 | h0
        · have hv : V0 = [] := List.eq_nil_of_length_eq_zero h0
          rw [if_pos h0] at hset
          subst hv
          subst hset
          rw [List.take_append_drop, ls_getD_append, if_pos (by simp [h4] <;> omega), ls_getD_append, if_neg (by simp)]
          have z7 : 22 + i - (([] : List Int32) ++ [80, 75, 84, kd] ++ List.replicate 18 (0 : Int32)).length = i := by simp
          rw [z7]
        · rw [if_neg (by omega)] at hset
          rw [List.append_assoc, List.append_assoc, List.append_assoc, ls_getD_append, if_pos (by omega), hset]
          have : i = 0 ∨ i = 1 ∨ i = 2 ∨ i = 3 := by omega
          rcases this with rfl | rfl | rfl | rfl <;> rfl
      rw [hg]
      refine k_Row_setN rw_10 w (by simp [hsl, h4] <;> omega) (by simp [hsl, h4] <;> omega) (ls_by_getD hsb i) (fun S2 w2 f2 => ?_)
      have eA : V0.length + 22 + i = (V0 ++ [80, 75, 84, kd] ++ List.replicate 18 (0 : Int32)).length + i := by simp
      rw [eA, ls_put _ _ _ _ (by omega) (by omega)] at w2
      exact ih (i + 1) S2 (by omega) w2 (fun j h1 => (f2 j h1).trans (hf j h1))
  refine f_Packets_close (k_Row_size rw_10 ?_)
  rw [ho, hw.1]
  refine k_Packets_body ?_
  have z8 : (V0 ++ ([80, 75, 84, kd] : List Int32) ++ List.replicate 18 0 ++ s4 ++ body).length = V0.length + 26 + body.length := by simp [h4] <;> omega
  rw [z8]
  rw [pk_sub (by omega), show V0.length + 26 + body.length - (V0.length + 26) = body.length by omega]
  refine sets 4 0 S (by omega) ?_ (fun _ _ => rfl)
  simpa using hw
end
