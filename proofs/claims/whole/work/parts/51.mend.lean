theorem rv_set {S : px_S} {V : List Int32} (h : rv_at S V) {i : Nat} (v : Int32) (hi : i < V.length) : rv_at (px_u S 6 i v) (V.set i v) := by
  refine ⟨by rw [px_u_ne _ _ _ (by decide), List.length_set]; exact h.1, fun j hj => ?_⟩
  rw [List.length_set] at hj
  rw [px_ua, List.getD_eq_getElem?_getD, List.getElem?_set]
  by_cases hji : j = i
  · subst hji
    simp [hi]
  · rw [if_neg (fun z => hji z.2), if_neg (fun z => hji z.symm), ← List.getD_eq_getElem?_getD]
    exact h.2 j hj
theorem rg_u (S : px_S) (i : Nat) (v : Int32) : rg_fr S (px_u S 6 i v) := ⟨fun j _ _ => by rw [px_u_ne _ _ _ (by decide)], fun j _ h _ _ _ => px_u_ne _ _ _ h⟩
section
variable {G : px_G} {d : Nat} {S : px_S}
theorem k_Mo_end {Q : px_S → Prop} {V0 g body : List Int32} {k x2 : Int32} (hok : rf_ok S) (hw : rv_at S (V0 ++ [80, 75, 84, k] ++ g ++ body)) (hg : g.length = 22) (hl : V0.length + 26 + body.length ≤ 694) (hk : k &&& 255 = k) (hbo : ls_by body) (hQ : ∀ S', rv_at S' (V0 ++ pk_of k (vw_4 x2) body) → rg_fr S S' → Q S') : px_V G px_Zr (d + 3) m_Mo_end [.ref 0, .int (nI V0.length), .int x2] S Q := by
  obtain ⟨g0, g1, g2, rfl, h0, h1, h2⟩ : ∃ g0 g1 g2 : List Int32, g = g0 ++ g1 ++ g2 ∧ g0.length = 2 ∧ g1.length = 16 ∧ g2.length = 4 := by
    refine ⟨g.take 2, (g.drop 2).take 16, (g.drop 2).drop 16, ?_, ?_, ?_, ?_⟩
    · rw [List.append_assoc, List.take_append_drop, List.take_append_drop]
    · rw [List.length_take]; omega
    · rw [List.length_take, List.length_drop]; omega
    · rw [List.length_drop, List.length_drop]; omega
  have hn : body.length < 65536 := by omega
  have hv4 : (vw_4 x2).length = 4 := rfl
  have hlo := by_nI (n := body.length % 256) (Nat.mod_lt _ (by decide))
  have hhi := by_nI (n := body.length / 256) (by omega)
  -- the sum's bytes
  have sums : ∀ (x3 : Int32) (Y : List Int32) (s : md_S), Y = md5 ([k, nI (body.length % 256), nI (body.length / 256)] ++ vw_4 x2 ++ body) → s = md_sum ([k, nI (body.length % 256), nI (body.length / 256)] ++ vw_4 x2 ++ body) → ∀ (m i : Nat) (S' : px_S), m + i = 16 →
      rv_at S' ((V0 ++ [80, 75, 84, k] ++ [nI (body.length % 256), nI (body.length / 256)]) ++ (Y.take i ++ g1.drop i) ++ (vw_4 x2 ++ body)) → (∀ j, j < 16 → S' 9 j = md_b s j) → rg_fr S S' →
      px_w G px_Zr (d + 3) m_Mo_end 81 [.ref 0, .int (nI V0.length), .int x2, .int x3, .int (nI i)] [] S' (px_vq Q) := by
    intro x3 Y s hY hs m
    have hYl : Y.length = 16 := by rw [hY]; exact md5_len _
    induction m with
    | zero =>
      intro i S' hi w h9 fr
      have : i = 16 := by omega
      subst this
      refine e_Mo_end_81 ⟨fun h => px_vq_i (hQ S' ?_ fr), fun h => absurd (Int32.le_refl _) h⟩
      rw [List.take_of_length_le (by omega), List.drop_of_length_le (by omega), List.append_nil, hY] at w
      unfold pk_of
      simpa using w
    | succ m ih =>
      intro i S' hi w h9 fr
      refine e_Mo_end_81 ⟨fun h => absurd h (nI_ge (b := 16) (by omega) (by decide)), fun h => ⟨vp_in_nI (by omega) (by decide), ?_⟩⟩
      have hb : md_b s i = Y.getD i 0 := by rw [hY, hs, md5_get _ (by omega)]
      rw [show nI V0.length + 6 + nI i = nI (V0.length + 6 + i) by rw [show nI V0.length + 6 = nI (V0.length + 6) from nI_add _ 6, nI_add], nI_1, nI_clamp (by omega), nI_clamp (by omega), h9 i (by omega), hb]
      refine ⟨vp_in_nI (by omega) (by decide), ?_⟩
      have hlen : ((V0 ++ [80, 75, 84, k] ++ [nI (body.length % 256), nI (body.length / 256)]) ++ (Y.take i ++ g1.drop i) ++ (vw_4 x2 ++ body)).length = V0.length + 26 + body.length := by
        simp [hYl, h1, hv4]
        omega
      have w2 := rv_set w (i := V0.length + 6 + i) (Y.getD i 0) (by rw [hlen]; omega)
      have eA : V0.length + 6 + i = (V0 ++ [80, 75, 84, k] ++ [nI (body.length % 256), nI (body.length / 256)]).length + i := by simp
      have e2 : ((V0 ++ [80, 75, 84, k] ++ [nI (body.length % 256), nI (body.length / 256)]) ++ (Y.take i ++ g1.drop i) ++ (vw_4 x2 ++ body)).set (V0.length + 6 + i) (Y.getD i 0) = (V0 ++ [80, 75, 84, k] ++ [nI (body.length % 256), nI (body.length / 256)]) ++ (Y.take (i + 1) ++ g1.drop (i + 1)) ++ (vw_4 x2 ++ body) := by
        rw [eA, ls_put _ _ _ _ (by omega) (by omega)]
      rw [e2] at w2
      exact ih (i + 1) _ (by omega) w2 (by rw [px_u_ne _ _ _ (by decide)]; exact h9) (fr.tr (rg_u _ _ _))
  -- the set
  have sets : ∀ (m i : Nat) (S' : px_S), m + i = 4 → rv_at S' ((V0 ++ [80, 75, 84, k] ++ [nI (body.length % 256), nI (body.length / 256)] ++ g1) ++ ((vw_4 x2).take i ++ g2.drop i) ++ body) → rg_fr S S' →
      px_w G px_Zr (d + 3) m_Mo_end 38 [.ref 0, .int (nI V0.length), .int x2, .int (nI body.length), .int (nI i)] [] S' (px_vq Q) := by
    intro m
    induction m with
    | zero =>
      intro i S' hi w fr
      have : i = 4 := by omega
      subst this
      refine e_Mo_end_38 ⟨fun h => ?_, fun h => absurd (Int32.le_refl _) h⟩
      rw [List.take_of_length_le (by rw [hv4]; exact Nat.le_refl _), List.drop_of_length_le (by omega), List.append_nil] at w
      have hlen : (V0 ++ [80, 75, 84, k] ++ [nI (body.length % 256), nI (body.length / 256)] ++ g1 ++ vw_4 x2 ++ body).length = V0.length + 26 + body.length := by
        simp [h1, hv4]
        omega
      have q1 := ls_mid (V0 ++ [80, 75, 84]) [k, nI (body.length % 256), nI (body.length / 256)] (g1 ++ vw_4 x2 ++ body)
      have q2 := ls_mid (V0 ++ [80, 75, 84, k] ++ [nI (body.length % 256), nI (body.length / 256)] ++ g1) (vw_4 x2 ++ body) []
      have z1 : (V0 ++ ([80, 75, 84] : List Int32)).length = V0.length + 3 := by simp
      have z2 : ([k, nI (body.length % 256), nI (body.length / 256)] : List Int32).length = 3 := rfl
      have z3 : V0 ++ ([80, 75, 84] : List Int32) ++ [k, nI (body.length % 256), nI (body.length / 256)] ++ (g1 ++ vw_4 x2 ++ body) = V0 ++ [80, 75, 84, k] ++ [nI (body.length % 256), nI (body.length / 256)] ++ g1 ++ vw_4 x2 ++ body := by simp
      rw [z1, z2, z3] at q1
      have z4 : (V0 ++ ([80, 75, 84, k] : List Int32) ++ [nI (body.length % 256), nI (body.length / 256)] ++ g1).length = V0.length + 22 := by simp [h1]
      have z5 : (vw_4 x2 ++ body).length = 4 + body.length := by simp [hv4]
      have z6 : V0 ++ ([80, 75, 84, k] : List Int32) ++ [nI (body.length % 256), nI (body.length / 256)] ++ g1 ++ (vw_4 x2 ++ body) ++ [] = V0 ++ [80, 75, 84, k] ++ [nI (body.length % 256), nI (body.length / 256)] ++ g1 ++ vw_4 x2 ++ body := by simp
      rw [z4, z5, z6] at q2
      have hbl : sp_bt (V0 ++ [80, 75, 84, k] ++ [nI (body.length % 256), nI (body.length / 256)] ++ g1 ++ vw_4 x2 ++ body) (V0.length + 4) + 256 * sp_bt (V0 ++ [80, 75, 84, k] ++ [nI (body.length % 256), nI (body.length / 256)] ++ g1 ++ vw_4 x2 ++ body) (V0.length + 5) = body.length := by
        rw [sp_bt_nI (m := body.length % 256) (by simp [ls_getD_append]) (Nat.mod_lt _ (by decide)), sp_bt_nI (m := body.length / 256) (by simp [ls_getD_append]) (by omega)]
        omega
      refine k_Mo_sumPacket (n := body.length) (fr.ok hok) w (by rw [hlen]; omega) hbl (by rw [hlen]; omega) ?_ (fun S2 h9 f2 => ?_)
      · intro i hi
        rcases hi with ⟨h5, h6⟩ | h5
        · have c : i = V0.length + 3 ∨ i = V0.length + 4 ∨ i = V0.length + 5 := by omega
          have e3 : (V0 ++ [80, 75, 84, k] ++ [nI (body.length % 256), nI (body.length / 256)] ++ g1 ++ vw_4 x2 ++ body).getD (V0.length + 3) 0 = k := by simp [ls_getD_append]
          have e4 : (V0 ++ [80, 75, 84, k] ++ [nI (body.length % 256), nI (body.length / 256)] ++ g1 ++ vw_4 x2 ++ body).getD (V0.length + 4) 0 = nI (body.length % 256) := by simp [ls_getD_append]
          have e5 : (V0 ++ [80, 75, 84, k] ++ [nI (body.length % 256), nI (body.length / 256)] ++ g1 ++ vw_4 x2 ++ body).getD (V0.length + 5) 0 = nI (body.length / 256) := by simp [ls_getD_append]
          rcases c with rfl | rfl | rfl
          · rw [e3]; exact hk
          · rw [e4]; exact hlo
          · rw [e5]; exact hhi
        · rw [List.append_assoc, ls_getD_append, if_neg (by rw [z4]; omega)]
          exact ls_by_getD (ls_by_app (ls_by_4 x2) hbo) _
      · rw [q1, q2, ← List.append_assoc] at h9
        refine sums _ _ _ rfl rfl 16 0 S2 (by omega) ?_ h9 (fr.tr f2.rg)
        have w3 := f2.rv w
        simpa using w3
    | succ m ih =>
      intro i S' hi w fr
      refine e_Mo_end_38 ⟨fun h => absurd h (nI_ge (b := 4) (by omega) (by decide)), fun h => ?_⟩
      have hlen : ((V0 ++ [80, 75, 84, k] ++ [nI (body.length % 256), nI (body.length / 256)] ++ g1) ++ ((vw_4 x2).take i ++ g2.drop i) ++ body).length = V0.length + 26 + body.length := by
        simp [h1, h2, hv4]
        omega
      have hb : px_ushr x2 (8 * nI i) &&& 255 = (vw_4 x2).getD i 0 := by
        rw [show (8 : Int32) * nI i = nI (8 * i) from pk_mul 8 i]
        have : i = 0 ∨ i = 1 ∨ i = 2 ∨ i = 3 := by omega
        rcases this with rfl | rfl | rfl | rfl <;> rfl
      rw [show nI V0.length + 22 + nI i = nI (V0.length + 22 + i) by rw [show nI V0.length + 22 = nI (V0.length + 22) from nI_add _ 22, nI_add], nI_1, nI_clamp (by omega), hb]
      refine ⟨vp_in_nI (by omega) (by decide), ?_⟩
      have w2 := rv_set w (i := V0.length + 22 + i) ((vw_4 x2).getD i 0) (by rw [hlen]; omega)
      have eA : V0.length + 22 + i = (V0 ++ [80, 75, 84, k] ++ [nI (body.length % 256), nI (body.length / 256)] ++ g1).length + i := by simp [h1]
      have e2 : ((V0 ++ [80, 75, 84, k] ++ [nI (body.length % 256), nI (body.length / 256)] ++ g1) ++ ((vw_4 x2).take i ++ g2.drop i) ++ body).set (V0.length + 22 + i) ((vw_4 x2).getD i 0) = (V0 ++ [80, 75, 84, k] ++ [nI (body.length % 256), nI (body.length / 256)] ++ g1) ++ ((vw_4 x2).take (i + 1) ++ g2.drop (i + 1)) ++ body := by
        rw [eA, ls_put _ _ _ _ (by rw [hv4]; omega) (by rw [hv4]; omega)]
      rw [e2] at w2
      exact ih (i + 1) _ (by omega) w2 (fr.tr (rg_u _ _ _))
  have z8 : (V0 ++ ([80, 75, 84, k] : List Int32) ++ (g0 ++ g1 ++ g2) ++ body).length = V0.length + 26 + body.length := by simp [h0, h1, h2] <;> omega
  refine f_Mo_end ?_
  rw [hw.1, z8, show nI V0.length + 4 = nI (V0.length + 4) from nI_add _ 4, show nI V0.length + 5 = nI (V0.length + 5) from nI_add _ 5, pk_sub (a := V0.length + 26 + body.length) (b := V0.length) (by omega)]
  rw [show nI (V0.length + 26 + body.length - V0.length) - 26 = nI body.length from (pk_sub (a := V0.length + 26 + body.length - V0.length) (b := 26) (by omega)).trans (congrArg nI (by omega)), nI_clamp (by omega), nI_clamp (by omega), nI_and255 (by omega), show px_sar (nI body.length) 8 = nI (body.length / 2 ^ 8) from px_sarN (k := 8) (by omega) (by decide)]
  refine ⟨vp_in_nI (by omega) (by decide), vp_in_nI (by omega) (by decide), ?_⟩
  rintro S1 rfl
  have w1 := rv_set hw (i := V0.length + 4) (nI (body.length % 256)) (by rw [z8]; omega)
  have w2 := rv_set w1 (i := V0.length + 5) (nI (body.length / 256)) (by rw [List.length_set, z8]; omega)
  have p1 := ls_put (V0 ++ [80, 75, 84, k]) g0 [nI (body.length % 256), nI (body.length / 256)] (g1 ++ g2 ++ body) (i := 0) h0 (by simp)
  have p2 := ls_put (V0 ++ [80, 75, 84, k]) g0 [nI (body.length % 256), nI (body.length / 256)] (g1 ++ g2 ++ body) (i := 1) h0 (by simp)
  have l0 : (V0 ++ [80, 75, 84, k]).length = V0.length + 4 := by simp
  rw [l0] at p1 p2
  have q : ((V0 ++ [80, 75, 84, k] ++ (g0 ++ g1 ++ g2) ++ body).set (V0.length + 4) (nI (body.length % 256))).set (V0.length + 5) (nI (body.length / 256)) = (V0 ++ [80, 75, 84, k] ++ [nI (body.length % 256), nI (body.length / 256)] ++ g1) ++ ((vw_4 x2).take 0 ++ g2.drop 0) ++ body := by
    have a1 : V0 ++ [80, 75, 84, k] ++ (g0 ++ g1 ++ g2) ++ body = (V0 ++ [80, 75, 84, k]) ++ (List.take 0 [nI (body.length % 256), nI (body.length / 256)] ++ List.drop 0 g0) ++ (g1 ++ g2 ++ body) := by simp
    rw [a1]
    refine ((congrArg (fun z => List.set z (V0.length + 5) (nI (body.length / 256))) p1).trans p2).trans ?_
    rw [List.drop_of_length_le (by omega)]
    simp
  rw [q] at w2
  exact sets 4 0 _ (by omega) w2 ((rg_u S _ _).tr (rg_u _ _ _))
end
