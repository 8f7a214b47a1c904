/-! The reference: its volume -/
def rv_at (S : px_S) (V : List Int32) : Prop := S 0 6 = nI V.length ∧ ∀ j, j < V.length → S 6 j = V.getD j 0
/-- nothing has changed but the volume and what makes sums -/
def rg_fr (S S' : px_S) : Prop := (∀ j, j ≠ 6 → j ≠ 8 → S' 0 j = S 0 j) ∧ ∀ i, i ≠ 0 → i ≠ 6 → i ≠ 7 → i ≠ 8 → i ≠ 9 → S' i = S i
theorem rg_fr.rf (S : px_S) : rg_fr S S := ⟨fun _ _ _ => rfl, fun _ _ _ _ _ _ => rfl⟩
theorem rg_fr.tr {S S1 S2 : px_S} (h : rg_fr S S1) (h2 : rg_fr S1 S2) : rg_fr S S2 := ⟨fun j a b => (h2.1 j a b).trans (h.1 j a b), fun i a b c e f => (h2.2 i a b c e f).trans (h.2 i a b c e f)⟩
theorem rf_fr.rg {S S' : px_S} (h : rf_fr S S') : rg_fr S S' := ⟨fun j _ b => h.1 j b, fun i a _ c e f => h.2 i a c e f⟩
theorem rf_fr.rv {S S' : px_S} {V : List Int32} (h : rf_fr S S') (hv : rv_at S V) : rv_at S' V := ⟨by rw [h.1 6 (by decide)]; exact hv.1, fun j hj => by rw [h.2 6 (by decide) (by decide) (by decide) (by decide)]; exact hv.2 j hj⟩
theorem rg_fr.ok {S S' : px_S} (h : rg_fr S S') (hok : rf_ok S) : rf_ok S' := ⟨fun j hj => by rw [h.2 1 (by decide) (by decide) (by decide) (by decide) (by decide)]; exact hok.1 j hj, fun j hj => by rw [h.2 2 (by decide) (by decide) (by decide) (by decide) (by decide)]; exact hok.2 j hj⟩
theorem rf_0 {S : px_S} : rf_at (px_u S 0 8 0) [] ∧ rf_fr S (px_u S 0 8 0) := ⟨⟨by rw [px_us]; rfl, fun j hj => by simp at hj⟩, fun j hj => by rw [px_ua, if_neg (fun z => hj z.2)], fun i h _ _ _ => px_u_ne _ _ _ h⟩
/-- four bytes make an int, and come out of it again -/
theorem vw_pk {a b c e : Nat} (ha : a < 256) (hb : b < 256) (hc : c < 256) (he : e < 256) : ((nI a ||| px_shl (nI b) 8) ||| px_shl (nI c) 16) ||| px_shl (nI e) 24 = nI (a + 256 * b + 65536 * c + 16777216 * e) := by
  have e1 : px_shl (nI c) 16 = nI (c * 2 ^ 16) := px_shlN (k := 16) (by decide) (by omega)
  have e2 : px_shl (nI e) 24 = nI (e * 2 ^ 24) := px_shlN (k := 24) (by decide) (by omega)
  rw [sp_or ha hb, e1, e2, nI_or (by omega) (by omega), Nat.or_comm, Nat.mul_comm c, ← Nat.two_pow_add_eq_or_of_lt (i := 16) (by omega) c, nI_or (by omega) (by omega), Nat.or_comm, Nat.mul_comm e, ← Nat.two_pow_add_eq_or_of_lt (i := 24) (by omega) e]
  congr 1
  omega
theorem vw_4_nI {a b c e : Nat} (ha : a < 256) (hb : b < 256) (hc : c < 256) (he : e < 256) : vw_4 (nI (a + 256 * b + 65536 * c + 16777216 * e)) = [nI a, nI b, nI c, nI e] := by
  have h : ∀ i, i < 4 → px_ushr (nI (a + 256 * b + 65536 * c + 16777216 * e)) (nI (8 * i)) &&& 255 = nI ((a + 256 * b + 65536 * c + 16777216 * e) / 2 ^ (8 * i) % 256) := by
    intro i hi
    rw [px_ushrN (by omega) (by omega), nI_and255]
    exact Nat.lt_of_le_of_lt (Nat.div_le_self _ _) (by omega)
  show [px_ushr _ (nI (8 * 0)) &&& 255, px_ushr _ (nI (8 * 1)) &&& 255, px_ushr _ (nI (8 * 2)) &&& 255, px_ushr _ (nI (8 * 3)) &&& 255] = _
  rw [h 0 (by decide), h 1 (by decide), h 2 (by decide), h 3 (by decide)]
  have h0 : (a + 256 * b + 65536 * c + 16777216 * e) / 2 ^ (8 * 0) % 256 = a := by omega
  have h1 : (a + 256 * b + 65536 * c + 16777216 * e) / 2 ^ (8 * 1) % 256 = b := by omega
  have h2 : (a + 256 * b + 65536 * c + 16777216 * e) / 2 ^ (8 * 2) % 256 = c := by omega
  have h3 : (a + 256 * b + 65536 * c + 16777216 * e) / 2 ^ (8 * 3) % 256 = e := by omega
  rw [h0, h1, h2, h3]
section
variable {G : px_G} {d : Nat} {S : px_S} {V : List Int32}
theorem k_Mo_write {Q : px_S → Prop} {v : Int32} (hw : rv_at S V) (hl : V.length < 800) (hQ : ∀ S', rv_at S' (V ++ [v &&& 255]) → rg_fr S S' → (∀ i, i ≠ 0 → i ≠ 6 → S' i = S i) → Q S') : px_V G px_Zr d m_Mo_write [.ref 0, .int v] S Q := by
  refine f_Mo_write ⟨?_, ?_⟩
  · rw [hw.1]; exact vp_in_nI hl (by decide)
  · rintro S1 rfl
    rw [hw.1, nI_clamp (by omega)]
    have fr : ∀ i, i ≠ 0 → i ≠ 6 → (px_u (px_u S 6 V.length (v &&& 255)) 0 6 (px_u S 6 V.length (v &&& 255) 0 6 + 1)) i = S i := fun i h1 h2 => by rw [px_u_ne _ _ _ h1, px_u_ne _ _ _ h2]
    refine px_vq_i (hQ _ ⟨?_, fun j hj => ?_⟩ ⟨fun j hj _ => ?_, fun i h1 h2 _ _ _ => fr i h1 h2⟩ fr)
    · rw [px_us, px_ua, if_neg (by omega), hw.1, nI_1, List.length_append]
      rfl
    · rw [List.length_append] at hj
      rw [px_ua, if_neg (by omega), px_ua, ls_getD_app V _ hj]
      by_cases hjl : j = V.length
      · rw [if_pos ⟨rfl, hjl⟩, if_pos hjl]
      · rw [if_neg (fun z => hjl z.2), if_neg hjl]
        have : [v &&& 255].length = 1 := rfl
        exact hw.2 j (by omega)
    · rw [px_ua, if_neg (fun z => hj z.2), px_ua, if_neg (by omega)]
theorem k_Mo_writeSum {Q : px_S → Prop} {s : md_S} (hw : rv_at S V) (hs : ∀ j, j < 16 → S 9 j = md_b s j) (hl : V.length + 16 ≤ 800) (hQ : ∀ S', rv_at S' (V ++ (List.range 16).map (md_b s)) → rg_fr S S' → Q S') : px_V G px_Zr (d + 1) m_Mo_writeSum [.ref 0] S Q := by
  refine f_Mo_writeSum ?_
  have key : ∀ (m i : Nat) (S' : px_S), m + i = 16 → rv_at S' (V ++ (List.range i).map (md_b s)) → S' 9 = S 9 → rg_fr S S' → px_w G px_Zr (d + 1) m_Mo_writeSum 2 [.ref 0, .int (nI i)] [] S' (px_vq Q) := by
    intro m
    induction m with
    | zero =>
      intro i S' hi w h9 f
      have : i = 16 := by omega
      subst this
      exact e_Mo_writeSum_2 ⟨fun h => px_vq_i (hQ S' w f), fun h => absurd (Int32.le_refl _) h⟩
    | succ m ih =>
      intro i S' hi w h9 f
      refine e_Mo_writeSum_2 ⟨fun h => absurd h (nI_ge (b := 16) (by omega) (by decide)), fun h => ⟨vp_in_nI (by omega) (by decide), ?_⟩⟩
      rw [nI_clamp (by omega), h9, hs i (by omega)]
      refine k_Mo_write w (by simp <;> omega) (fun S2 w2 f2 g2 => ?_)
      rw [nI_1]
      refine ih (i + 1) S2 (by omega) ?_ ((g2 9 (by decide) (by decide)).trans h9) (f.tr f2)
      rw [show md_b s i &&& 255 = md_b s i from by_and _, List.append_assoc] at w2
      rw [List.range_succ, List.map_append]
      exact w2
  exact key 16 0 S (by omega) (by simpa using hw) rfl (rg_fr.rf S)
theorem k_Mo_begin {Q : Int32 → px_S → Prop} {k : Int32} (hw : rv_at S V) (hl : V.length + 26 ≤ 800) (hk : k &&& 255 = k) (hQ : ∀ S' g, g.length = 22 → rv_at S' (V ++ [80, 75, 84, k] ++ g) → rg_fr S S' → Q (nI V.length) S') : px_I G px_Zr (d + 1) m_Mo_begin [.ref 0, .int k] S Q := by
  refine f_Mo_begin (k_Mo_write hw (by omega) (fun S1 w1 f1 _ => k_Mo_write w1 (by simp <;> omega) (fun S2 w2 f2 _ => k_Mo_write w2 (by simp <;> omega) (fun S3 w3 f3 _ => k_Mo_write w3 (by simp <;> omega) (fun S4 w4 f4 _ => px_iq_i ?_)))))
  have w4 : rv_at S4 (V ++ [80, 75, 84, k]) := by
    have a1 : (80 : Int32) &&& 255 = 80 := by decide
    have a2 : (75 : Int32) &&& 255 = 75 := by decide
    have a3 : (84 : Int32) &&& 255 = 84 := by decide
    rw [hk, a1, a2, a3] at w4
    simpa using w4
  have hlen : (V ++ [80, 75, 84, k]).length = V.length + 4 := by simp
  rw [hw.1]
  refine hQ _ ((List.range 22).map (fun i => S4 6 (V.length + 4 + i))) (by simp) ⟨?_, fun j hj => ?_⟩ (((f1.tr f2).tr f3).tr (f4.tr ⟨fun j hj _ => ?_, fun i h1 _ _ _ _ => px_u_ne _ _ _ h1⟩))
  · rw [px_us, w4.1, hlen, show nI (V.length + 4) + 22 = nI (V.length + 4 + 22) from nI_add _ 22, List.length_append, hlen]
    simp
  · rw [List.length_append, hlen] at hj
    rw [px_u_ne _ _ _ (by decide), ls_getD_append, hlen]
    by_cases h : j < V.length + 4
    · rw [if_pos h]; exact w4.2 j (by omega)
    · rw [if_neg h, List.getD_eq_getElem?_getD, List.getElem?_map, List.getElem?_range (by simp at hj; omega)]
      simp
      congr 1
      omega
  · rw [px_ua, if_neg (fun z => hj z.2)]
theorem k_Mo_bodyLength {Q : Int32 → px_S → Prop} {a x y : Nat} (ha : a + 6 ≤ 800) (h4 : S 6 (a + 4) = nI x) (h5 : S 6 (a + 5) = nI y) (hx : x < 256) (hy : y < 256) (hQ : Q (nI (x + 256 * y)) S) : px_I G px_Zr d m_Mo_bodyLength [.ref 0, .int (nI a)] S Q := by
  refine f_Mo_bodyLength ?_
  rw [show nI a + 4 = nI (a + 4) from nI_add a 4, show nI a + 5 = nI (a + 5) from nI_add a 5, nI_clamp (by omega), nI_clamp (by omega), h4, h5, sp_or hx hy]
  exact ⟨vp_in_nI (by omega) (by decide), vp_in_nI (by omega) (by decide), px_iq_i hQ⟩
theorem k_Mo_sumPacket {Q : px_S → Prop} {a n : Nat} (hok : rf_ok S) (hw : rv_at S V) (hl : V.length ≤ 700) (h4 : sp_bt V (a + 4) + 256 * sp_bt V (a + 5) = n) (ha : a + 26 + n ≤ V.length) (hb : ∀ i, (a + 3 ≤ i ∧ i < a + 6) ∨ a + 22 ≤ i → V.getD i 0 &&& 255 = V.getD i 0)
    (hQ : ∀ S', (∀ i, i < 16 → S' 9 i = md_b (md_sum (ls_sl V (a + 3) 3 ++ ls_sl V (a + 22) (4 + n))) i) → rf_fr S S' → Q S') : px_V G px_Zr (d + 2) m_Mo_sumPacket [.ref 0, .int (nI a)] S Q := by
  have hbt : ∀ i, (a + 3 ≤ i ∧ i < a + 6) ∨ a + 22 ≤ i → V.getD i 0 = nI (sp_bt V i) := by
    intro i hi
    have h1 := hb i hi
    rw [pk_and (V.getD i 0) (m := 255) 8 (by decide)] at h1
    exact h1.symm
  have body : ∀ (m i : Nat) (S' : px_S), m + i = 4 + n → rf_at S' (ls_sl V (a + 3) 3 ++ ls_sl V (a + 22) i) → rf_fr S S' → px_w G px_Zr (d + 2) m_Mo_sumPacket 34 [.ref 0, .int (nI a), .int (nI (22 + i))] [] S' (px_vq Q) := by
    intro m
    induction m with
    | zero =>
      intro i S' hi w fr
      have : i = 4 + n := by omega
      subst this
      have v' := fr.rv hw
      refine e_Mo_sumPacket_34 (k_Mo_bodyLength (x := sp_bt V (a + 4)) (y := sp_bt V (a + 5)) (by omega) (by rw [v'.2 _ (by omega)]; exact hbt _ (by omega)) (by rw [v'.2 _ (by omega)]; exact hbt _ (by omega)) (sp_bt_lt _ _) (sp_bt_lt _ _) ?_)
      rw [h4, show (26 : Int32) + nI n = nI (26 + n) from nI_add 26 n]
      refine ⟨fun h => ?_, fun h => absurd (nI_le (by omega) (by omega)) h⟩
      exact k_Mo_makeSum (fr.rg.ok hok) w (by simp [ls_sl_len] <;> omega) (fun S2 h9 f2 => px_vq_i (hQ S2 h9 (fr.tr f2)))
    | succ m ih =>
      intro i S' hi w fr
      have v' := fr.rv hw
      refine e_Mo_sumPacket_34 (k_Mo_bodyLength (x := sp_bt V (a + 4)) (y := sp_bt V (a + 5)) (by omega) (by rw [v'.2 _ (by omega)]; exact hbt _ (by omega)) (by rw [v'.2 _ (by omega)]; exact hbt _ (by omega)) (sp_bt_lt _ _) (sp_bt_lt _ _) ?_)
      rw [h4, show (26 : Int32) + nI n = nI (26 + n) from nI_add 26 n]
      refine ⟨fun h => absurd h (nI_ge (by omega) (by omega)), fun h => ?_⟩
      rw [nI_add, nI_1, nI_clamp (by omega), v'.2 _ (by omega)]
      refine ⟨vp_in_nI (by omega) (by decide), k_Mo_put w (by simp [ls_sl_len] <;> omega) (fun S2 w2 f2 _ _ => ?_)⟩
      refine ih (i + 1) S2 (by omega) ?_ (fr.tr f2)
      rw [hb _ (by omega), List.append_assoc, show a + (22 + i) = a + 22 + i by omega, ← ls_sl_succ] at w2
      exact w2
  have head : ∀ (m i : Nat) (S' : px_S), m + i = 3 → rf_at S' (ls_sl V (a + 3) i) → rf_fr S S' → px_w G px_Zr (d + 2) m_Mo_sumPacket 7 [.ref 0, .int (nI a), .int (nI (3 + i))] [] S' (px_vq Q) := by
    intro m
    induction m with
    | zero =>
      intro i S' hi w fr
      have : i = 3 := by omega
      subst this
      refine e_Mo_sumPacket_7 ⟨fun h => ?_, fun h => absurd (Int32.le_refl _) h⟩
      exact body (4 + n) 0 S' (by omega) (by rw [show ls_sl V (a + 22) 0 = [] from rfl, List.append_nil]; exact w) fr
    | succ m ih =>
      intro i S' hi w fr
      have v' := fr.rv hw
      refine e_Mo_sumPacket_7 ⟨fun h => absurd h (nI_ge (b := 6) (by omega) (by decide)), fun h => ?_⟩
      rw [nI_add, nI_1, nI_clamp (by omega), v'.2 _ (by omega)]
      refine ⟨vp_in_nI (by omega) (by decide), k_Mo_put w (by simp [ls_sl_len] <;> omega) (fun S2 w2 f2 _ _ => ?_)⟩
      refine ih (i + 1) S2 (by omega) ?_ (fr.tr f2)
      rw [hb _ (by omega), show a + (3 + i) = a + 3 + i by omega, ← ls_sl_succ] at w2
      exact w2
  exact f_Mo_sumPacket (head 3 0 _ (by omega) (rf_0 (S := S)).1 (rf_0 (S := S)).2)
theorem k_Mo_sumBody {Q : px_S → Prop} {a n : Nat} (hok : rf_ok S) (hw : rv_at S V) (hl : V.length ≤ 700) (h4 : sp_bt V (a + 4) + 256 * sp_bt V (a + 5) = n) (ha : a + 26 + n ≤ V.length) (hb : ls_by V)
    (hQ : ∀ S', (∀ i, i < 16 → S' 9 i = md_b (md_sum (ls_sl V (a + 26) n)) i) → rf_fr S S' → Q S') : px_V G px_Zr (d + 2) m_Mo_sumBody [.ref 0, .int (nI a)] S Q := by
  have body : ∀ (m i : Nat) (S' : px_S), m + i = n → rf_at S' (ls_sl V (a + 26) i) → rf_fr S S' → px_w G px_Zr (d + 2) m_Mo_sumBody 8 [.ref 0, .int (nI a), .int (nI (26 + i))] [] S' (px_vq Q) := by
    intro m
    induction m with
    | zero =>
      intro i S' hi w fr
      have : i = n := by omega
      subst this
      have v' := fr.rv hw
      refine e_Mo_sumBody_8 (k_Mo_bodyLength (x := sp_bt V (a + 4)) (y := sp_bt V (a + 5)) (by omega) (by rw [v'.2 _ (by omega)]; exact sp_bt_eq hb _) (by rw [v'.2 _ (by omega)]; exact sp_bt_eq hb _) (sp_bt_lt _ _) (sp_bt_lt _ _) ?_)
      rw [h4, show (26 : Int32) + nI i = nI (26 + i) from nI_add 26 i]
      refine ⟨fun h => ?_, fun h => absurd (Int32.le_refl _) h⟩
      exact k_Mo_makeSum (fr.rg.ok hok) w (by simp [ls_sl_len] <;> omega) (fun S2 h9 f2 => px_vq_i (hQ S2 h9 (fr.tr f2)))
    | succ m ih =>
      intro i S' hi w fr
      have v' := fr.rv hw
      refine e_Mo_sumBody_8 (k_Mo_bodyLength (x := sp_bt V (a + 4)) (y := sp_bt V (a + 5)) (by omega) (by rw [v'.2 _ (by omega)]; exact sp_bt_eq hb _) (by rw [v'.2 _ (by omega)]; exact sp_bt_eq hb _) (sp_bt_lt _ _) (sp_bt_lt _ _) ?_)
      rw [h4, show (26 : Int32) + nI n = nI (26 + n) from nI_add 26 n]
      refine ⟨fun h => absurd h (nI_ge (by omega) (by omega)), fun h => ?_⟩
      rw [nI_add, nI_1, nI_clamp (by omega), v'.2 _ (by omega)]
      refine ⟨vp_in_nI (by omega) (by decide), k_Mo_put w (by simp [ls_sl_len] <;> omega) (fun S2 w2 f2 _ _ => ?_)⟩
      refine ih (i + 1) S2 (by omega) ?_ (fr.tr f2)
      rw [ls_by_getD hb, show a + (26 + i) = a + 26 + i by omega, ← ls_sl_succ] at w2
      exact w2
  exact f_Mo_sumBody (body n 0 _ (by omega) (rf_0 (S := S)).1 (rf_0 (S := S)).2)
end
