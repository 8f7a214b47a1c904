/-! The simple calls of the class -/
theorem sq_up_s (F : Nat → List Int32) (j : Nat) (L : List Int32) : sq_up F j L j = L := if_pos rfl
theorem sq_up_n (F : Nat → List Int32) {j g : Nat} (L : List Int32) (h : g ≠ j) : sq_up F j L g = F g := if_neg h
section
variable {G : px_G} {d : Nat} {S : px_S} {T : List Int32} {F : Nat → List Int32} {V : List Int32}
theorem sv_C_up {S' : px_S} {j : Nat} {L : List Int32} (hj : j < 3) (h : sv_C S T F V) (hw : rw_at S' (4 + 2 * j) L) (fr : ∀ i, i ≠ 4 + 2 * j → i ≠ 4 + 2 * j + 1 → S' i = S i) : sv_C S' T (sq_up F j L) V := by
  refine ⟨h.1.of (fr 1 (by omega) (by omega)) (fr 2 (by omega) (by omega)), fun f hf => ?_, h.2.2.of (fr 10 (by omega) (by omega)) (fr 11 (by omega) (by omega))⟩
  by_cases hfj : f = j
  · subst hfj
    rw [sq_up_s]
    exact hw
  · rw [sq_up_n F L hfj]
    exact (h.2.1 f hf).of (fr _ (by omega) (by omega)) (fr _ (by omega) (by omega))
theorem k_isFileF {Q : Int32 → px_S → Prop} {f : Int32} (h1 : ∀ j, j < 3 → f = nI j → Q 1 S) (h0 : ¬ sq_ix f 3 → Q 0 S) : px_I G px_Zc d m_PV_isFile [.int f] S Q := by
  refine f_PV_isFile ⟨fun h => px_iq_i (h0 (sq_ix_n1 h)), fun h => ⟨fun h2 => px_iq_i (h0 (sq_ix_n2 h2)), fun h2 => px_iq_i ?_⟩⟩
  obtain ⟨j, hj, e⟩ := sq_ix_of (sq_ix_p (n := 3) h h2) (by decide)
  exact h1 j hj e
theorem k_PV_volume {Q : Int32 → px_S → Prop} (hC : sv_C S T F V) (hQ : Q (nI V.length) S) : px_I G px_Zc (d + 1) m_PV_volume [.ref 0] S Q := by
  refine f_PV_volume (k_Row_size rw_10 (px_iq_i ?_))
  rw [hC.2.2.1]; exact hQ
theorem k_PV_byteAt {Q : Int32 → px_S → Prop} {i : Int32} (hC : sv_C S T F V) (ok : sv_ok T F V) (hQ : Q (sq_byteAt i V) S) : px_I G px_Zc (d + 1) m_PV_byteAt [.ref 0, .int i] S Q := by
  have hV := ok.2.2.1
  refine f_PV_byteAt (k_Row_has rw_10 ?_)
  rw [hC.2.2.1]
  by_cases hix : sq_ix i V.length
  · unfold sq_byteAt at hQ
    rw [sq_bt hix] at hQ
    obtain ⟨a, ha, rfl⟩ := sq_ix_of hix (by omega)
    rw [if_neg (nI_pos (by omega)), if_neg (nI_ge ha (by omega))]
    refine ⟨fun h => absurd h (by decide), fun h => k_Row_get rw_10 hC.2.2 hV (by omega) (px_iq_i ?_)⟩
    rw [nI_clamp (by omega)] at hQ
    exact hQ
  · unfold sq_byteAt at hQ
    rw [sq_bf hix] at hQ
    have e : (if i < 0 then (0 : Int32) else if nI V.length ≤ i then 0 else 1) = 0 := by
      by_cases c1 : i < 0
      · rw [if_pos c1]
      · rw [if_neg c1]
        by_cases c2 : nI V.length ≤ i
        · rw [if_pos c2]
        · exact absurd (sq_ix_p c1 c2) hix
    rw [e]
    exact ⟨fun h => px_iq_i hQ, fun h => absurd rfl h⟩
theorem k_PV_alter {Q : Int32 → px_S → Prop} {i v : Int32} (hC : sv_C S T F V) (ok : sv_ok T F V) (hQ : ∀ S', sv_C S' T F (sq_alter i v V).2 → Q (sq_alter i v V).1 S') : px_I G px_Zc (d + 2) m_PV_alter [.ref 0, .int i, .int v] S Q := by
  have hV := ok.2.2.1
  refine f_PV_alter (k_Row_set rw_10 hC.2.2 hV (fun j hj e h0 h1 S' w fr => ⟨Or.inr rfl, px_iq_i ?_⟩) (fun h => ⟨Or.inl rfl, px_iq_i ?_⟩))
  · subst e
    have hq : sq_alter (nI j) v V = (1, V.set j v) := by
      unfold sq_alter
      rw [sq_lt ⟨sq_ix_nI hj (by omega), h0, h1⟩, nI_clamp (by omega)]
    rw [hq] at hQ
    exact hQ S' ⟨hC.1.of (fr 1 (by decide)) (fr 2 (by decide)), fun f hf => (hC.2.1 f hf).of (fr _ (by omega)) (fr _ (by omega)), w⟩
  · have hq : sq_alter i v V = (0, V) := by
      unfold sq_alter
      rw [sq_lf (fun z => h ⟨sq_ix_of z.1 (by omega), z.2⟩)]
    rw [hq] at hQ
    exact hQ S hC
theorem k_PV_cut {Q : Int32 → px_S → Prop} {i n : Int32} (hC : sv_C S T F V) (ok : sv_ok T F V) (hQ : ∀ S', sv_C S' T F (sq_cut i n V).2 → Q (sq_cut i n V).1 S') : px_I G px_Zc (d + 2) m_PV_cut [.ref 0, .int i, .int n] S Q := by
  have hV := ok.2.2.1
  refine f_PV_cut (k_Row_remove rw_10 hC.2.2 hV (fun a j ha h1 h2 e1 e2 S' w fr => ⟨Or.inr rfl, px_iq_i ?_⟩) (fun h => ⟨Or.inl rfl, px_iq_i ?_⟩))
  · subst e1
    subst e2
    have hq : sq_cut (nI a) (nI j) V = (1, V.take a ++ V.drop (a + j)) := by
      unfold sq_cut
      rw [sq_lt ⟨sq_ix_nI ha (by omega), nI_le (a := 1) h1 (by omega), by rw [nI_clamp (by omega)]; exact nI_le h2 (by omega)⟩, nI_clamp (by omega), nI_clamp (by omega)]
    rw [hq] at hQ
    exact hQ S' ⟨hC.1.of (fr 1 (by decide) (by decide)) (fr 2 (by decide) (by decide)), fun f hf => (hC.2.1 f hf).of (fr _ (by omega) (by omega)) (fr _ (by omega) (by omega)), w⟩
  · have hq : sq_cut i n V = (0, V) := by
      unfold sq_cut
      rw [sq_lf h]
    rw [hq] at hQ
    exact hQ S hC
theorem k_PV_length {Q : Int32 → px_S → Prop} {f : Int32} (hC : sv_C S T F V) (hQ : Q (sq_length f F) S) : px_I G px_Zc (d + 1) m_PV_length [.ref 0, .int f] S Q := by
  refine f_PV_length (k_isFileF (fun j hj e => ⟨fun h => absurd h (by decide), fun h => ?_⟩) (fun h => ⟨fun _ => px_iq_i ?_, fun z => absurd rfl z⟩))
  · subst e
    refine ⟨vp_in_nI hj (by decide), ?_⟩
    rw [px_rf_get hj]
    refine k_Row_size (rw_f hj) (px_iq_i ?_)
    unfold sq_length at hQ
    rw [sq_bt (sq_ix_nI hj (by decide)), nI_clamp (by omega)] at hQ
    rw [(hC.2.1 j hj).1]
    exact hQ
  · unfold sq_length at hQ
    rw [sq_bf h] at hQ
    exact hQ
theorem k_PV_at {Q : Int32 → px_S → Prop} {f i : Int32} (hC : sv_C S T F V) (ok : sv_ok T F V) (hQ : Q (sq_at f i F) S) : px_I G px_Zc (d + 1) m_PV_at [.ref 0, .int f, .int i] S Q := by
  refine f_PV_at (k_isFileF (fun j hj e => ⟨fun h => absurd h (by decide), fun h => ?_⟩) (fun h => ⟨fun _ => px_iq_i ?_, fun z => absurd rfl z⟩))
  · subst e
    have h40 := (ok.2.1 j hj).1
    refine ⟨vp_in_nI hj (by decide), ?_⟩
    rw [px_rf_get hj]
    refine k_Row_has (rw_f hj) ?_
    rw [(hC.2.1 j hj).1]
    unfold sq_at at hQ
    rw [nI_clamp (by omega)] at hQ
    by_cases hix : sq_ix i (F j).length
    · rw [sq_bt ⟨sq_ix_nI hj (by decide), hix⟩] at hQ
      obtain ⟨a, ha, rfl⟩ := sq_ix_of hix (by omega)
      rw [if_neg (nI_pos (by omega)), if_neg (nI_ge ha (by omega))]
      refine ⟨fun h => absurd h (by decide), fun h => ⟨vp_in_nI hj (by decide), k_Row_get (rw_f hj) (hC.2.1 j hj) h40 (by omega) (px_iq_i ?_)⟩⟩
      rw [nI_clamp (by omega)] at hQ
      exact hQ
    · rw [sq_bf (fun z => hix z.2)] at hQ
      have e : (if i < 0 then (0 : Int32) else if nI (F j).length ≤ i then 0 else 1) = 0 := by
        by_cases c1 : i < 0
        · rw [if_pos c1]
        · rw [if_neg c1]
          by_cases c2 : nI (F j).length ≤ i
          · rw [if_pos c2]
          · exact absurd (sq_ix_p c1 c2) hix
      rw [e]
      exact ⟨fun h => px_iq_i hQ, fun h => absurd rfl h⟩
  · unfold sq_at at hQ
    rw [sq_bf (fun z => h z.1)] at hQ
    exact hQ
theorem k_PV_damage {Q : Int32 → px_S → Prop} {f i v : Int32} (hC : sv_C S T F V) (ok : sv_ok T F V) (hQ : ∀ S', sv_C S' T (sq_damage f i v F).2 V → Q (sq_damage f i v F).1 S') : px_I G px_Zc (d + 2) m_PV_damage [.ref 0, .int f, .int i, .int v] S Q := by
  refine f_PV_damage (k_isFileF (fun j hj e => ⟨fun h => absurd h (by decide), fun h => ?_⟩) (fun h => ⟨fun _ => px_iq_i ?_, fun z => absurd rfl z⟩))
  · subst e
    have h40 := (ok.2.1 j hj).1
    refine ⟨vp_in_nI hj (by decide), ?_⟩
    rw [px_rf_get hj]
    refine k_Row_set (rw_f hj) (hC.2.1 j hj) h40 (fun a ha e h0 h1 S' w fr => ⟨fun z => absurd z (by decide), fun _ => px_iq_i ?_⟩) (fun hn => ⟨fun _ => px_iq_i ?_, fun z => absurd rfl z⟩)
    · subst e
      have hq : sq_damage (nI j) (nI a) v F = (1, sq_up F j ((F j).set a v)) := by
        unfold sq_damage
        rw [nI_clamp (by omega), sq_lt ⟨sq_ix_nI hj (by decide), sq_ix_nI ha (by omega), h0, h1⟩, nI_clamp (by omega)]
      rw [hq] at hQ
      exact hQ S' (sv_C_up hj hC w (fun q _ h5 => fr q h5))
    · have hq : sq_damage (nI j) i v F = (0, F) := by
        unfold sq_damage
        rw [nI_clamp (by omega), sq_lf (fun z => hn ⟨sq_ix_of z.2.1 (by omega), z.2.2⟩)]
      rw [hq] at hQ
      exact hQ S hC
  · have hq : sq_damage f i v F = (0, F) := by
      unfold sq_damage
      rw [sq_lf (fun z => h z.1)]
    rw [hq] at hQ
    exact hQ S hC
theorem k_PV_shorten {Q : Int32 → px_S → Prop} {f n : Int32} (hC : sv_C S T F V) (ok : sv_ok T F V) (hQ : ∀ S', sv_C S' T (sq_shorten f n F).2 V → Q (sq_shorten f n F).1 S') : px_I G px_Zc (d + 1) m_PV_shorten [.ref 0, .int f, .int n] S Q := by
  refine f_PV_shorten (k_isFileF (fun j hj e => ⟨fun h => absurd h (by decide), fun h => ?_⟩) (fun h => ⟨fun _ => px_iq_i ?_, fun z => absurd rfl z⟩))
  · subst e
    have h40 := (ok.2.1 j hj).1
    refine ⟨vp_in_nI hj (by decide), ?_⟩
    rw [px_rf_get hj]
    refine k_Row_dropLast (rw_f hj) (hC.2.1 j hj) h40 (fun a ha e S' w fr => ⟨fun z => absurd z (by decide), fun _ => px_iq_i ?_⟩) (fun hn => ⟨fun _ => px_iq_i ?_, fun z => absurd rfl z⟩)
    · subst e
      have hq : sq_shorten (nI j) (nI a) F = (1, sq_up F j ((F j).take ((F j).length - a))) := by
        unfold sq_shorten
        rw [nI_clamp (by omega), sq_lt ⟨sq_ix_nI hj (by decide), nI_pos' (by omega), nI_le ha (by omega)⟩, nI_clamp (by omega)]
      rw [hq] at hQ
      exact hQ S' (sv_C_up hj hC w (fun q h5 _ => fr q h5))
    · have hq : sq_shorten (nI j) n F = (0, F) := by
        unfold sq_shorten
        rw [nI_clamp (by omega), sq_lf (fun z => hn z.2)]
      rw [hq] at hQ
      exact hQ S hC
  · have hq : sq_shorten f n F = (0, F) := by
      unfold sq_shorten
      rw [sq_lf (fun z => h z.1)]
    rw [hq] at hQ
    exact hQ S hC
theorem k_PV_file {Q : Int32 → px_S → Prop} {f : Int32} (hC : sv_C S T F V) (ok : sv_ok T F V) (hQ : ∀ S', sv_C S' (sq_file f T F).2.1 (sq_file f T F).2.2 V → Q (sq_file f T F).1 S') : px_I G px_Zc (d + 2) m_PV_file [.ref 0, .int f] S Q := by
  refine f_PV_file (k_isFileF (fun j hj e => ⟨fun h => ?_, fun z => absurd z (by decide)⟩) (fun h => ⟨fun z => absurd rfl z, fun _ => px_iq_i ?_⟩))
  · subst e
    have h40 := ok.1.1
    refine ⟨vp_in_nI hj (by decide), k_Row_size rw_1 ?_⟩
    rw [px_rf_get hj, hC.1.1]
    have hq : sq_file (nI j) T F = (nI T.length, [], sq_up F j T) := by
      unfold sq_file
      rw [sq_lt (sq_ix_nI hj (by decide)), nI_clamp (by omega)]
    rw [hq] at hQ
    refine k_Row_become (a := 0) (rw_f hj) rw_1 hC.1 h40 ok.1.2 (by omega) (by omega) (by omega) (by omega) (by omega) (fun S2 w2 f2 => ?_)
    have e : ls_sl T 0 T.length = T := by
      have := ls_mid [] T []
      rw [List.append_nil] at this
      exact this
    rw [e] at w2
    have hC2 := sv_C_up hj hC w2 f2
    refine k_Row_clear rw_1 (fun S3 w3 f3 => ⟨vp_in_nI hj (by decide), ?_⟩)
    have hC3 : sv_C S3 [] (sq_up F j T) V := ⟨w3, fun g hg => (hC2.2.1 g hg).of (f3 _ (by omega)) (f3 _ (by omega)), hC2.2.2.of (f3 10 (by decide)) (f3 11 (by decide))⟩
    refine k_Row_size (rw_f hj) (px_iq_i ?_)
    rw [(hC3.2.1 j hj).1, sq_up_s]
    exact hQ S3 hC3
  · have hq : sq_file f T F = (-1, T, F) := by
      unfold sq_file
      rw [sq_lf h]
    rw [hq] at hQ
    exact hQ S hC
theorem k_PV_type {Q : Int32 → px_S → Prop} {x : Int64} {n : Int32} (hC : sv_C S T F V) (ok : sv_ok T F V) (hQ : ∀ S', sv_C S' (sq_type x n T).2 F V → Q (sq_type x n T).1 S') : px_I G px_Zc (d + 1) m_PV_type [.ref 0, .long x, .int n] S Q := by
  have hT := ok.1.1
  have loop : ∀ (k : Nat), k ≤ 8 → T.length + k ≤ 40 → 1 ≤ k → n = nI k → ∀ (m : Nat) (S' : px_S), m ≤ k → rw_at S' 1 (T ++ (List.range (k - m)).map (fun i => sq_by x (k - 1 - i))) → (∀ i, i ≠ 1 → i ≠ 2 → S' i = S i) → px_w G px_Zc (d + 1) m_PV_type 35 [.ref 0, .long x, .null, .int n, .int (nI m - 1)] [] S' (px_iq Q) := by
    intro k hk hTk hk1 hnk m
    subst hnk
    have hq : sq_type x (nI k) T = (nI (T.length + k), T ++ (List.range k).map (fun i => sq_by x (k - 1 - i))) := by
      unfold sq_type
      rw [sq_lf (fun z => z.elim (fun z => absurd z (Int32.not_lt.mpr (nI_le (a := 1) hk1 (by omega)))) (fun z => absurd z (Int32.not_lt.mpr (nI_le (b := 8) hk (by decide))))), nI_clamp (by omega), sq_lf (by omega)]
    rw [hq] at hQ
    induction m with
    | zero =>
      intro S' _ w fr
      refine e_PV_type_35 ⟨fun h => k_Row_size rw_1 (px_iq_i ?_), fun h => absurd (by decide) h⟩
      have e : S' 1 1 = nI (T.length + k) := by rw [w.1]; simp
      rw [e]
      exact hQ S' ⟨w, fun f hf => (hC.2.1 f hf).of (fr _ (by omega) (by omega)) (fr _ (by omega) (by omega)), hC.2.2.of (fr 10 (by decide) (by decide)) (fr 11 (by decide) (by decide))⟩
    | succ m ih =>
      intro S' hm w fr
      rw [nI_pred]
      refine e_PV_type_35 ⟨fun h => absurd h (nI_pos (by omega)), fun h => ?_⟩
      rw [show (8 : Int32) * nI m = nI (8 * m) from pk_mul 8 m]
      refine k_Row_append rw_1 w (by simp <;> omega) (fun S2 w2 f2 => ?_)
      rw [show nI m + (-1) = nI m - 1 from (Int32.sub_eq_add_neg _ _).symm]
      refine ih S2 (by omega) ?_ (fun i h1 h2 => (f2 i h1 h2).trans (fr i h1 h2))
      rw [by_and, List.append_assoc] at w2
      rw [show k - m = (k - (m + 1)) + 1 by omega, List.range_succ, List.map_append]
      have e2 : sq_by x (k - 1 - (k - (m + 1))) = (px_lushr x (nI (8 * m))).toInt32 &&& 255 := by
        rw [show k - 1 - (k - (m + 1)) = m by omega]
        rfl
      rw [List.map_cons, List.map_nil, e2]
      exact w2
  refine f_PV_type ⟨fun h => px_iq_i ?_, fun h => ⟨fun h2 => k_Row_size rw_1 ?_, fun h2 => px_iq_i ?_⟩⟩
  · have hq : sq_type x n T = (-1, T) := by unfold sq_type; rw [sq_lt (Or.inl h)]
    rw [hq] at hQ; exact hQ S hC
  · obtain ⟨k, hk, rfl⟩ := nI_of (x := n) (fun z => h (Int32.lt_trans z (by decide)))
    have k1 : 1 ≤ k := (nI_leI (a := 1) (by decide) hk).mp (Int32.not_lt.mp h)
    have k8 : k ≤ 8 := (nI_leI (b := 8) hk (by decide)).mp h2
    rw [hC.1.1, nI_add]
    refine ⟨fun h3 => ?_, fun h3 => px_iq_i ?_⟩
    · have c := (nI_leI (b := 40) (by omega) (by decide)).mp h3
      exact loop k k8 c k1 rfl k S (Nat.le_refl _) (by rw [Nat.sub_self, List.range_zero, List.map_nil, List.append_nil]; exact hC.1) (fun _ _ _ => rfl)
    · have c : ¬ T.length + k ≤ 40 := fun z => h3 ((nI_leI (b := 40) (by omega) (by decide)).mpr z)
      have hq : sq_type x (nI k) T = (-2, T) := by
        unfold sq_type
        rw [sq_lf (fun z => z.elim h (fun z => absurd h2 (Int32.not_le.mpr z))), nI_clamp (by omega), sq_lt (by omega)]
      rw [hq] at hQ; exact hQ S hC
  · have hq : sq_type x n T = (-1, T) := by unfold sq_type; rw [sq_lt (Or.inr (Int32.not_le.mp h2))]
    rw [hq] at hQ; exact hQ S hC
end
