/-! The simple calls of the reference -/
theorem sq_by_sar (x : Int64) {k : Nat} (hk : k < 8) : ((px_lsar x (nI (8 * k))) &&& 255).toInt32 = sq_by x k := by
  unfold sq_by
  have e255 : (255 : Int64).toInt32 = 255 := by decide
  rw [Int64.toInt32_and, e255]
  apply Int32.toBitVec_inj.mp
  rw [Int32.toBitVec_and, Int32.toBitVec_and]
  have e1 : (px_lsar x (nI (8 * k))).toBitVec = x.toBitVec.sshiftRight (8 * k) := by
    have h : ∀ k, k < 8 → (((nI (8 * k)).toInt64 &&& 63).toBitVec.smod 64).toNat = 8 * k := by decide +kernel
    have e : (px_lsar x (nI (8 * k))).toBitVec = x.toBitVec.sshiftRight (((nI (8 * k)).toInt64 &&& 63).toBitVec.smod 64).toNat := rfl
    rw [h k hk] at e
    exact e
  have e2 : (px_lushr x (nI (8 * k))).toBitVec = x.toBitVec >>> (8 * k) := by
    have h : ∀ k, k < 8 → (((nI (8 * k)).toInt64.toUInt64 &&& Int64.toUInt64 63).toBitVec % 64).toNat = 8 * k := by decide +kernel
    have e : (px_lushr x (nI (8 * k))).toBitVec = x.toBitVec >>> (((nI (8 * k)).toInt64.toUInt64 &&& Int64.toUInt64 63).toBitVec % 64).toNat := UInt64.toBitVec_shiftRight _ _
    rw [h k hk] at e
    exact e
  rw [Int64.toBitVec_toInt32, Int64.toBitVec_toInt32, e1, e2]
  apply BitVec.eq_of_getLsbD_eq
  intro i hi
  rw [BitVec.getLsbD_and, BitVec.getLsbD_and]
  have h255 : ∀ i, i < 32 → ¬ i < 8 → ((255 : Int32).toBitVec).getLsbD i = false := by decide +kernel
  by_cases h8 : i < 8
  · congr 1
    rw [BitVec.getLsbD_signExtend, BitVec.getLsbD_signExtend, BitVec.getLsbD_sshiftRight, BitVec.getLsbD_ushiftRight]
    have a1 : ¬ 64 ≤ i := by omega
    have a2 : 8 * k + i < 64 := by omega
    simp [a1, a2, show i < 64 by omega]
  · rw [h255 i hi h8, Bool.and_false, Bool.and_false]
section
variable {G : px_G} {d : Nat} {S : px_S} {T : List Int32} {F : Nat → List Int32} {V : List Int32}
theorem k_Mo_isFileF {Q : Int32 → px_S → Prop} {f : Int32} (h1 : ∀ j, j < 3 → f = nI j → Q 1 S) (h0 : ¬ sq_ix f 3 → Q 0 S) : px_I G px_Zr d m_Mo_isFile [.int f] S Q := by
  refine f_Mo_isFile ⟨fun h => px_iq_i (h0 (sq_ix_n1 h)), fun h => ⟨fun h2 => px_iq_i (h0 (sq_ix_n2 h2)), fun h2 => px_iq_i ?_⟩⟩
  obtain ⟨j, hj, e⟩ := sq_ix_of (sq_ix_p (n := 3) h h2) (by decide)
  exact h1 j hj e
theorem k_Mo_volume {Q : Int32 → px_S → Prop} (hR : sv_R S T F V) (hQ : Q (nI V.length) S) : px_I G px_Zr d m_Mo_volume [.ref 0] S Q := by
  refine f_Mo_volume (px_iq_i ?_)
  rw [hR.2.2.2.1]; exact hQ
theorem k_Mo_byteAt {Q : Int32 → px_S → Prop} {i : Int32} (hR : sv_R S T F V) (ok : sv_ok T F V) (hQ : Q (sq_byteAt i V) S) : px_I G px_Zr d m_Mo_byteAt [.ref 0, .int i] S Q := by
  have hV := ok.2.2.1
  have hv := hR.2.2.2
  unfold sq_byteAt at hQ
  refine f_Mo_byteAt ?_
  rw [hv.1]
  refine ⟨fun h => px_iq_i ?_, fun h => ⟨fun h2 => px_iq_i ?_, fun h2 => ?_⟩⟩
  · rw [sq_bf (sq_ix_n1 h)] at hQ; exact hQ
  · rw [sq_bf (sq_ix_n2 h2)] at hQ; exact hQ
  · have hix := sq_ix_p h h2
    rw [sq_bt hix] at hQ
    obtain ⟨a, ha, rfl⟩ := sq_ix_of hix (by omega)
    rw [nI_clamp (by omega)] at hQ ⊢
    rw [hv.2 a ha]
    exact ⟨vp_in_nI (by omega) (by decide), px_iq_i hQ⟩
theorem sv_R_v {S' : px_S} {V' : List Int32} (hR : sv_R S T F V) (hv : rv_at S' V') (fr : rg_fr S S') : sv_R S' T F V' := by
  refine ⟨fr.ok hR.1, ⟨?_, ?_⟩, fr.F hR.2.2.1, hv⟩
  · rw [fr.1 2 (by decide) (by decide)]; exact hR.2.1.1
  · rw [fr.2 3 (by decide) (by decide) (by decide) (by decide) (by decide)]; exact hR.2.1.2
theorem k_Mo_alter {Q : Int32 → px_S → Prop} {i v : Int32} (hR : sv_R S T F V) (ok : sv_ok T F V) (hQ : ∀ S', sv_R S' T F (sq_alter i v V).2 → Q (sq_alter i v V).1 S') : px_I G px_Zr d m_Mo_alter [.ref 0, .int i, .int v] S Q := by
  have hV := ok.2.2.1
  have hv := hR.2.2.2
  have no : ¬ (sq_ix i V.length ∧ 0 ≤ v ∧ v ≤ 255) → Q 0 S := by
    intro h
    have hq : sq_alter i v V = (0, V) := by unfold sq_alter; rw [sq_lf h]
    rw [hq] at hQ
    exact hQ S hR
  refine f_Mo_alter ?_
  rw [hv.1]
  refine ⟨fun h => px_iq_i (no (fun z => sq_ix_n1 h z.1)), fun h => ⟨fun h2 => px_iq_i (no (fun z => sq_ix_n2 h2 z.1)), fun h2 => ⟨fun h3 => px_iq_i (no (fun z => absurd h3 (Int32.not_lt.mpr z.2.1))), fun h3 => ⟨fun h4 => ?_, fun h4 => px_iq_i (no (fun z => h4 z.2.2))⟩⟩⟩⟩
  have hix := sq_ix_p h h2
  have hq : sq_alter i v V = (1, V.set i.toNatClampNeg v) := by
    unfold sq_alter
    rw [sq_lt ⟨hix, Int32.not_lt.mp h3, h4⟩]
  rw [hq] at hQ
  obtain ⟨a, ha, rfl⟩ := sq_ix_of hix (by omega)
  rw [nI_clamp (by omega)] at hQ ⊢
  exact ⟨vp_in_nI (by omega) (by decide), px_iq_i (hQ _ (sv_R_v hR (rv_set hv v ha) (rg_u _ _ _)))⟩
theorem k_Mo_cut {Q : Int32 → px_S → Prop} {i n : Int32} (hR : sv_R S T F V) (ok : sv_ok T F V) (hQ : ∀ S', sv_R S' T F (sq_cut i n V).2 → Q (sq_cut i n V).1 S') : px_I G px_Zr d m_Mo_cut [.ref 0, .int i, .int n] S Q := by
  have hV := ok.2.2.1
  have hv := hR.2.2.2
  have no : ¬ (sq_ix i V.length ∧ 1 ≤ n ∧ n ≤ nI (V.length - i.toNatClampNeg)) → Q 0 S := by
    intro h
    have hq : sq_cut i n V = (0, V) := by unfold sq_cut; rw [sq_lf h]
    rw [hq] at hQ
    exact hQ S hR
  refine f_Mo_cut ?_
  rw [hv.1]
  refine ⟨fun h => px_iq_i (no (fun z => sq_ix_n1 h z.1)), fun h => ⟨fun h2 => px_iq_i (no (fun z => absurd h2 (Int32.not_lt.mpr z.2.1))), fun h2 => ⟨fun h3 => px_iq_i (no (fun z => sq_ix_n2 (Int32.le_of_lt h3) z.1)), fun h3 => ?_⟩⟩⟩
  obtain ⟨a, ha, rfl⟩ := nI_of h
  have ha2 : a ≤ V.length := by
    apply Nat.not_lt.mp
    intro z
    exact h3 (nI_lt z ha)
  rw [pk_sub ha2]
  obtain ⟨j, hj, rfl⟩ := nI_of (x := n) (fun z => h2 (Int32.lt_trans z (by decide)))
  have hj1 : 1 ≤ j := (nI_leI (a := 1) (by decide) hj).mp (Int32.not_lt.mp h2)
  rw [nI_leI hj (by omega)]
  refine ⟨fun h4 => ?_, fun h4 => px_iq_i (no (fun z => h4 ?_))⟩
  · have hq : sq_cut (nI a) (nI j) V = (1, V.take a ++ V.drop (a + j)) := by
      unfold sq_cut
      rw [sq_lt ⟨sq_ix_nI (by omega) (by omega), nI_le (a := 1) hj1 hj, by rw [nI_clamp (by omega)]; exact nI_le h4 (by omega)⟩, nI_clamp (by omega), nI_clamp (by omega)]
    rw [hq] at hQ
    have loop : ∀ (m p : Nat) (S' : px_S), m + p = V.length - j → a ≤ p → S' 0 6 = nI V.length → (∀ q, q < p → S' 6 q = (V.take a ++ V.drop (a + j)).getD q 0) → (∀ q, p ≤ q → S' 6 q = S 6 q) → rg_fr S S' → px_w G px_Zr d m_Mo_cut 31 [.ref 0, .int (nI a), .int (nI j), .int (nI p)] [] S' (px_iq Q) := by
      intro m
      induction m with
      | zero =>
        intro p S' hp hap h06 hlo hhi fr
        refine e_Mo_cut_31 ?_
        rw [h06, nI_add]
        refine ⟨fun h5 => px_iq_i (hQ _ (sv_R_v hR ⟨?_, fun q hq2 => ?_⟩ (fr.tr ⟨fun q hq3 _ => by rw [px_ua, if_neg (fun z => hq3 z.2)], fun q h6 _ _ _ _ => px_u_ne _ _ _ h6⟩))), fun h5 => absurd (nI_le (by omega) (by omega)) h5⟩
        · rw [px_us, pk_sub (by omega), List.length_append, List.length_take, List.length_drop]
          congr 1
          omega
        · rw [List.length_append, List.length_take, List.length_drop] at hq2
          rw [px_u_ne _ _ _ (by decide)]
          exact hlo q (by omega)
      | succ m ih =>
        intro p S' hp hap h06 hlo hhi fr
        refine e_Mo_cut_31 ?_
        rw [h06, nI_add, nI_1]
        refine ⟨fun h5 => absurd h5 (nI_ge (by omega) (by omega)), fun h5 => ⟨vp_in_nI (by omega) (by decide), vp_in_nI (by omega) (by decide), ?_⟩⟩
        rw [nI_clamp (by omega), nI_clamp (by omega), hhi (p + j) (by omega), hv.2 _ (by omega)]
        refine ih (p + 1) _ (by omega) (by omega) (by rw [px_u_ne _ _ _ (by decide)]; exact h06) (fun q hq2 => ?_) (fun q hq2 => ?_) (fr.tr (rg_u _ _ _))
        · rw [px_ua]
          by_cases hqp : q = p
          · subst hqp
            rw [if_pos ⟨rfl, rfl⟩, ls_getD_append, List.length_take, if_neg (by omega), List.getD_eq_getElem?_getD, List.getD_eq_getElem?_getD, List.getElem?_drop]
            congr 2
            omega
          · rw [if_neg (fun z => hqp z.2)]; exact hlo q (by omega)
        · rw [px_ua, if_neg (by omega)]; exact hhi q (by omega)
    refine loop (V.length - j - a) a S (by omega) (Nat.le_refl _) hv.1 (fun q hq2 => ?_) (fun _ _ => rfl) (rg_fr.rf S)
    rw [hv.2 q (by omega), ls_getD_append, List.length_take, if_pos (by omega), List.getD_eq_getElem?_getD, List.getD_eq_getElem?_getD, List.getElem?_take_of_lt hq2]
  · have := z.2.2
    rw [nI_clamp (by omega), nI_leI hj (by omega)] at this
    exact this
theorem k_Mo_length {Q : Int32 → px_S → Prop} {f : Int32} (hR : sv_R S T F V) (hQ : Q (sq_length f F) S) : px_I G px_Zr (d + 1) m_Mo_length [.ref 0, .int f] S Q := by
  unfold sq_length at hQ
  refine f_Mo_length (k_Mo_isFileF (fun j hj e => ⟨fun h => absurd h (by decide), fun h => ?_⟩) (fun h => ⟨fun _ => px_iq_i ?_, fun z => absurd rfl z⟩))
  · subst e
    rw [sq_bt (sq_ix_nI hj (by decide))] at hQ
    rw [nI_clamp (by omega)] at hQ ⊢
    rw [(hR.2.2.1 j hj).1]
    exact ⟨vp_in_nI hj (by decide), px_iq_i hQ⟩
  · rw [sq_bf h] at hQ
    exact hQ
theorem k_Mo_at {Q : Int32 → px_S → Prop} {f i : Int32} (hR : sv_R S T F V) (ok : sv_ok T F V) (hQ : Q (sq_at f i F) S) : px_I G px_Zr (d + 1) m_Mo_at [.ref 0, .int f, .int i] S Q := by
  unfold sq_at at hQ
  refine f_Mo_at (k_Mo_isFileF (fun j hj e => ⟨fun h => absurd h (by decide), fun h => ?_⟩) (fun h => ⟨fun _ => px_iq_i ?_, fun z => absurd rfl z⟩))
  · subst e
    have h40 := (ok.2.1 j hj).1
    rw [nI_clamp (by omega)] at hQ ⊢
    rw [(hR.2.2.1 j hj).1]
    refine ⟨fun h2 => px_iq_i ?_, fun h2 => ⟨vp_in_nI hj (by decide), fun h3 => px_iq_i ?_, fun h3 => ?_⟩⟩
    · rw [sq_bf (fun z => sq_ix_n1 h2 z.2)] at hQ; exact hQ
    · rw [sq_bf (fun z => sq_ix_n2 h3 z.2)] at hQ; exact hQ
    · have hix := sq_ix_p h2 h3
      rw [sq_bt ⟨sq_ix_nI hj (by decide), hix⟩] at hQ
      obtain ⟨a, ha, rfl⟩ := sq_ix_of hix (by omega)
      rw [show (40 : Int32) * nI j + nI a = nI (40 * j + a) by rw [show (40 : Int32) * nI j = nI (40 * j) from pk_mul 40 j, nI_add], nI_clamp (by omega), (hR.2.2.1 j hj).2 a ha]
      rw [nI_clamp (by omega)] at hQ
      exact ⟨vp_in_nI (by omega) (by decide), px_iq_i hQ⟩
  · rw [sq_bf (fun z => h z.1)] at hQ
    exact hQ
theorem sv_R_f {S' : px_S} {F' : Nat → List Int32} (hR : sv_R S T F V) (hF : rs_F S' F') (fr : ∀ i, i ≠ 4 → i ≠ 5 → S' i = S i) : sv_R S' T F' V := by
  refine ⟨⟨?_, ?_⟩, ⟨?_, ?_⟩, hF, ⟨?_, ?_⟩⟩
  · rw [fr 1 (by decide) (by decide)]; exact hR.1.1
  · rw [fr 2 (by decide) (by decide)]; exact hR.1.2
  · rw [fr 0 (by decide) (by decide)]; exact hR.2.1.1
  · rw [fr 3 (by decide) (by decide)]; exact hR.2.1.2
  · rw [fr 0 (by decide) (by decide)]; exact hR.2.2.2.1
  · rw [fr 6 (by decide) (by decide)]; exact hR.2.2.2.2
theorem k_Mo_damage {Q : Int32 → px_S → Prop} {f i v : Int32} (hR : sv_R S T F V) (ok : sv_ok T F V) (hQ : ∀ S', sv_R S' T (sq_damage f i v F).2 V → Q (sq_damage f i v F).1 S') : px_I G px_Zr (d + 1) m_Mo_damage [.ref 0, .int f, .int i, .int v] S Q := by
  have no : ¬ (sq_ix f 3 ∧ sq_ix i (F f.toNatClampNeg).length ∧ 0 ≤ v ∧ v ≤ 255) → Q 0 S := by
    intro h
    have hq : sq_damage f i v F = (0, F) := by unfold sq_damage; rw [sq_lf h]
    rw [hq] at hQ
    exact hQ S hR
  refine f_Mo_damage (k_Mo_isFileF (fun j hj e => ⟨fun h => absurd h (by decide), fun h => ?_⟩) (fun h => ⟨fun _ => px_iq_i (no (fun z => h z.1)), fun z => absurd rfl z⟩))
  subst e
  have h40 := (ok.2.1 j hj).1
  rw [nI_clamp (by omega)] at no
  rw [nI_clamp (by omega), (hR.2.2.1 j hj).1]
  refine ⟨fun h2 => px_iq_i (no (fun z => sq_ix_n1 h2 z.2.1)), fun h2 => ⟨vp_in_nI hj (by decide), fun h3 => px_iq_i (no (fun z => sq_ix_n2 h3 z.2.1)), fun h3 => ⟨fun h4 => px_iq_i (no (fun z => absurd h4 (Int32.not_lt.mpr z.2.2.1))), fun h4 => ⟨fun h5 => ?_, fun h5 => px_iq_i (no (fun z => h5 z.2.2.2))⟩⟩⟩⟩
  have hix := sq_ix_p h2 h3
  obtain ⟨a, ha, rfl⟩ := sq_ix_of hix (by omega)
  have hq : sq_damage (nI j) (nI a) v F = (1, sq_up F j ((F j).set a v)) := by
    unfold sq_damage
    rw [nI_clamp (by omega), sq_lt ⟨sq_ix_nI hj (by decide), hix, Int32.not_lt.mp h4, h5⟩, nI_clamp (by omega)]
  rw [hq] at hQ
  dsimp only at hQ
  rw [show (40 : Int32) * nI j + nI a = nI (40 * j + a) by rw [show (40 : Int32) * nI j = nI (40 * j) from pk_mul 40 j, nI_add], nI_clamp (by omega)]
  refine ⟨vp_in_nI (by omega) (by decide), px_iq_i (hQ _ (sv_R_f hR (fun g hg => ?_) (fun q h6 _ => px_u_ne _ _ _ h6)))⟩
  have hg40 := (ok.2.1 g hg).1
  rw [px_u_ne _ _ _ (by decide)]
  by_cases hgj : g = j
  · subst hgj
    rw [sq_up_s, List.length_set]
    refine ⟨(hR.2.2.1 g hg).1, fun q hq2 => ?_⟩
    rw [px_ua, List.getD_eq_getElem?_getD, List.getElem?_set]
    by_cases hqa : q = a
    · subst hqa
      simp [ha]
    · rw [if_neg (by omega), if_neg (fun z => hqa z.symm), ← List.getD_eq_getElem?_getD]
      exact (hR.2.2.1 g hg).2 q hq2
  · rw [sq_up_n F _ hgj]
    refine ⟨(hR.2.2.1 g hg).1, fun q hq2 => ?_⟩
    rw [px_ua, if_neg (by omega)]
    exact (hR.2.2.1 g hg).2 q hq2
theorem k_Mo_shorten {Q : Int32 → px_S → Prop} {f n : Int32} (hR : sv_R S T F V) (ok : sv_ok T F V) (hQ : ∀ S', sv_R S' T (sq_shorten f n F).2 V → Q (sq_shorten f n F).1 S') : px_I G px_Zr (d + 1) m_Mo_shorten [.ref 0, .int f, .int n] S Q := by
  have no : ¬ (sq_ix f 3 ∧ 0 ≤ n ∧ n ≤ nI (F f.toNatClampNeg).length) → Q 0 S := by
    intro h
    have hq : sq_shorten f n F = (0, F) := by unfold sq_shorten; rw [sq_lf h]
    rw [hq] at hQ
    exact hQ S hR
  refine f_Mo_shorten (k_Mo_isFileF (fun j hj e => ⟨fun h => absurd h (by decide), fun h => ?_⟩) (fun h => ⟨fun _ => px_iq_i (no (fun z => h z.1)), fun z => absurd rfl z⟩))
  subst e
  have h40 := (ok.2.1 j hj).1
  rw [nI_clamp (by omega)] at no
  rw [nI_clamp (by omega), (hR.2.2.1 j hj).1]
  refine ⟨fun h2 => px_iq_i (no (fun z => absurd h2 (Int32.not_lt.mpr z.2.1))), fun h2 => ⟨vp_in_nI hj (by decide), fun h3 => ⟨vp_in_nI hj (by decide), vp_in_nI hj (by decide), ?_⟩, fun h3 => px_iq_i (no (fun z => h3 z.2.2))⟩⟩
  obtain ⟨a, ha, rfl⟩ := nI_of h2
  have ha2 := (nI_leI ha (by omega)).mp h3
  have hq : sq_shorten (nI j) (nI a) F = (1, sq_up F j ((F j).take ((F j).length - a))) := by
    unfold sq_shorten
    rw [nI_clamp (by omega), sq_lt ⟨sq_ix_nI hj (by decide), nI_pos' (by omega), h3⟩, nI_clamp (by omega)]
  rw [hq] at hQ
  dsimp only at hQ
  rw [pk_sub ha2]
  refine px_iq_i (hQ _ (sv_R_f hR (fun g hg => ?_) (fun q _ h6 => px_u_ne _ _ _ h6)))
  rw [px_u_ne (i := 4) _ _ _ (by decide), px_ua]
  by_cases hgj : g = j
  · subst hgj
    rw [if_pos ⟨rfl, rfl⟩, sq_up_s, List.length_take]
    refine ⟨congrArg nI (by omega), fun q hq2 => ?_⟩
    rw [(hR.2.2.1 g hg).2 q (by omega), List.getD_eq_getElem?_getD, List.getD_eq_getElem?_getD, List.getElem?_take_of_lt (by omega)]
  · rw [if_neg (fun z => hgj z.2), sq_up_n F _ hgj]
    exact hR.2.2.1 g hg
theorem k_Mo_file {Q : Int32 → px_S → Prop} {f : Int32} (hR : sv_R S T F V) (ok : sv_ok T F V) (hQ : ∀ S', sv_R S' (sq_file f T F).2.1 (sq_file f T F).2.2 V → Q (sq_file f T F).1 S') : px_I G px_Zr (d + 1) m_Mo_file [.ref 0, .int f] S Q := by
  refine f_Mo_file (k_Mo_isFileF (fun j hj e => ⟨fun h => ?_, fun z => absurd z (by decide)⟩) (fun h => ⟨fun z => absurd rfl z, fun _ => px_iq_i ?_⟩))
  · subst e
    have h40 := ok.1.1
    have hq : sq_file (nI j) T F = (nI T.length, [], sq_up F j T) := by
      unfold sq_file
      rw [sq_lt (sq_ix_nI hj (by decide)), nI_clamp (by omega)]
    rw [hq] at hQ
    dsimp only at hQ
    have loop : ∀ (m i : Nat) (S' : px_S), m + i = T.length → (∀ q, q < i → S' 4 (40 * j + q) = T.getD q 0) → (∀ q, q < 40 * j ∨ 40 * j + 40 ≤ q → S' 4 q = S 4 q) → (∀ q, q ≠ 4 → S' q = S q) → px_w G px_Zr (d + 1) m_Mo_file 11 [.ref 0, .int (nI j), .int (nI i)] [] S' (px_iq Q) := by
      intro m
      induction m with
      | zero =>
        intro i S' hi h4 ho fr
        have : i = T.length := by omega
        subst this
        refine e_Mo_file_11 ?_
        rw [fr 0 (by decide), hR.2.1.1, nI_clamp (by omega)]
        refine ⟨fun h5 => ⟨vp_in_nI hj (by decide), vp_in_nI hj (by decide), px_iq_i ?_⟩, fun h5 => absurd (Int32.le_refl _) h5⟩
        rw [px_ua, if_neg (by omega), px_us]
        have fr0 : ∀ q, q ≠ 4 → q ≠ 5 → q ≠ 0 → px_u (px_u S' 5 j (nI T.length)) 0 2 0 q = S q := fun q h6 h7 h8 => by rw [px_u_ne _ _ _ h8, px_u_ne _ _ _ h7, fr q h6]
        refine hQ _ ⟨⟨?_, ?_⟩, ⟨?_, fun q hq2 => by simp at hq2⟩, fun g hg => ?_, ⟨?_, ?_⟩⟩
        · rw [fr0 1 (by decide) (by decide) (by decide)]; exact hR.1.1
        · rw [fr0 2 (by decide) (by decide) (by decide)]; exact hR.1.2
        · rw [px_us]; rfl
        · have hg40 := (ok.2.1 g hg).1
          rw [px_u_ne (i := 5) _ _ _ (by decide), px_u_ne (i := 4) _ _ _ (by decide), px_u_ne (i := 4) _ _ _ (by decide), px_ua]
          by_cases hgj : g = j
          · subst hgj
            rw [if_pos ⟨rfl, rfl⟩, sq_up_s]
            exact ⟨rfl, h4⟩
          · rw [if_neg (fun z => hgj z.2), sq_up_n F _ hgj, fr 5 (by decide)]
            refine ⟨(hR.2.2.1 g hg).1, fun q hq2 => ?_⟩
            rw [ho _ (by omega)]
            exact (hR.2.2.1 g hg).2 q hq2
        · rw [px_ua, if_neg (by omega), px_u_ne _ _ _ (by decide), fr 0 (by decide)]; exact hR.2.2.2.1
        · rw [fr0 6 (by decide) (by decide) (by decide)]; exact hR.2.2.2.2
      | succ m ih =>
        intro i S' hi h4 ho fr
        refine e_Mo_file_11 ?_
        rw [fr 0 (by decide), hR.2.1.1, nI_clamp (by omega), nI_clamp (by omega)]
        refine ⟨fun h5 => absurd h5 (nI_ge (by omega) (by omega)), fun h5 => ⟨vp_in_nI (by omega) (by decide), ?_⟩⟩
        rw [show (40 : Int32) * nI j + nI i = nI (40 * j + i) by rw [show (40 : Int32) * nI j = nI (40 * j) from pk_mul 40 j, nI_add], nI_clamp (by omega), nI_1, fr 3 (by decide), hR.2.1.2 i (by omega)]
        refine ⟨vp_in_nI (by omega) (by decide), ih (i + 1) _ (by omega) (fun q hq2 => ?_) (fun q hq2 => ?_) (fun q hq2 => (px_u_ne _ _ _ hq2).trans (fr q hq2))⟩
        · rw [px_ua]
          by_cases hqi : q = i
          · subst hqi; rw [if_pos ⟨rfl, rfl⟩]
          · rw [if_neg (by omega)]; exact h4 q (by omega)
        · rw [px_ua, if_neg (by omega)]; exact ho q hq2
    exact loop T.length 0 S (by omega) (fun q hq2 => by omega) (fun _ _ => rfl) (fun _ _ => rfl)
  · have hq : sq_file f T F = (-1, T, F) := by
      unfold sq_file
      rw [sq_lf h]
    rw [hq] at hQ
    exact hQ S hR
theorem k_Mo_type {Q : Int32 → px_S → Prop} {x : Int64} {n : Int32} (hR : sv_R S T F V) (ok : sv_ok T F V) (hQ : ∀ S', sv_R S' (sq_type x n T).2 F V → Q (sq_type x n T).1 S') : px_I G px_Zr d m_Mo_type [.ref 0, .long x, .int n] S Q := by
  have hT := ok.1.1
  have loop : ∀ (k : Nat), k ≤ 8 → T.length + k ≤ 40 → 1 ≤ k → n = nI k → ∀ (m : Nat) (S' : px_S), m ≤ k → S' 0 2 = nI (T.length + (k - m)) → (∀ j, j < T.length + (k - m) → S' 3 j = (T ++ (List.range (k - m)).map (fun i => sq_by x (k - 1 - i))).getD j 0) → (∀ j, j ≠ 2 → S' 0 j = S 0 j) → (∀ i, i ≠ 0 → i ≠ 3 → S' i = S i) → px_w G px_Zr d m_Mo_type 32 [.ref 0, .long x, .null, .int n, .int (nI m - 1)] [] S' (px_iq Q) := by
    intro k hk hTk hk1 hnk m
    subst hnk
    have hq : sq_type x (nI k) T = (nI (T.length + k), T ++ (List.range k).map (fun i => sq_by x (k - 1 - i))) := by
      unfold sq_type
      rw [sq_lf (fun z => z.elim (fun z => absurd z (Int32.not_lt.mpr (nI_le (a := 1) hk1 (by omega)))) (fun z => absurd z (Int32.not_lt.mpr (nI_le (b := 8) hk (by decide))))), nI_clamp (by omega), sq_lf (by omega)]
    rw [hq] at hQ
    dsimp only at hQ
    induction m with
    | zero =>
      intro S' _ h2 h3 f0 fr
      refine e_Mo_type_32 ⟨fun h => px_iq_i ?_, fun h => absurd (by decide) h⟩
      rw [h2]
      refine hQ S' ⟨⟨?_, ?_⟩, ⟨?_, fun j hj => ?_⟩, hR.2.2.1.of (fr 4 (by decide) (by decide)) (fr 5 (by decide) (by decide)), ⟨?_, ?_⟩⟩
      · rw [fr 1 (by decide) (by decide)]; exact hR.1.1
      · rw [fr 2 (by decide) (by decide)]; exact hR.1.2
      · rw [h2]; simp
      · simp at hj
        exact h3 j (by omega)
      · rw [f0 6 (by decide)]; exact hR.2.2.2.1
      · rw [fr 6 (by decide) (by decide)]; exact hR.2.2.2.2
    | succ m ih =>
      intro S' hm h2 h3 f0 fr
      rw [nI_pred]
      refine e_Mo_type_32 ⟨fun h => absurd h (nI_pos (by omega)), fun h => ⟨by rw [h2]; exact vp_in_nI (by omega) (by decide), ?_⟩⟩
      rintro S1 rfl
      rw [show (8 : Int32) * nI m = nI (8 * m) from pk_mul 8 m, sq_by_sar x (by omega), show nI m + (-1) = nI m - 1 from (Int32.sub_eq_add_neg _ _).symm, h2, nI_clamp (by omega)]
      refine ih _ (by omega) ?_ (fun j hj => ?_) (fun j hj => ?_) (fun i h5 h6 => ?_)
      · rw [px_us, px_ua, if_neg (by omega), h2, nI_1]
        congr 1
        omega
      · rw [px_ua, if_neg (by omega), px_ua, show k - m = (k - (m + 1)) + 1 by omega, List.range_succ, List.map_append, ← List.append_assoc, List.map_cons, List.map_nil]
        have hl : (T ++ (List.range (k - (m + 1))).map (fun i => sq_by x (k - 1 - i))).length = T.length + (k - (m + 1)) := by simp
        rw [ls_getD_app _ _ (by rw [hl]; omega), hl]
        by_cases hjl : j = T.length + (k - (m + 1))
        · rw [if_pos ⟨rfl, hjl⟩, if_pos hjl, show k - 1 - (k - (m + 1)) = m by omega]
        · rw [if_neg (fun z => hjl z.2), if_neg hjl]
          exact h3 j (by omega)
      · rw [px_ua, if_neg (fun z => hj z.2), px_u_ne _ _ _ (by decide), f0 j hj]
      · rw [px_u_ne _ _ _ h5, px_u_ne _ _ _ h6, fr i h5 h6]
  refine f_Mo_type ⟨fun h => px_iq_i ?_, fun h => ⟨fun h2 => ?_, fun h2 => px_iq_i ?_⟩⟩
  · have hq : sq_type x n T = (-1, T) := by unfold sq_type; rw [sq_lt (Or.inl h)]
    rw [hq] at hQ; exact hQ S hR
  · obtain ⟨k, hk, rfl⟩ := nI_of (x := n) (fun z => h (Int32.lt_trans z (by decide)))
    have k1 : 1 ≤ k := (nI_leI (a := 1) (by decide) hk).mp (Int32.not_lt.mp h)
    have k8 : k ≤ 8 := (nI_leI (b := 8) hk (by decide)).mp h2
    rw [hR.2.1.1, nI_add]
    refine ⟨fun h3 => ?_, fun h3 => px_iq_i ?_⟩
    · have c := (nI_leI (b := 40) (by omega) (by decide)).mp h3
      exact loop k k8 c k1 rfl k S (Nat.le_refl _) (by rw [Nat.sub_self]; exact hR.2.1.1) (by rw [Nat.sub_self, List.range_zero, List.map_nil, List.append_nil]; exact hR.2.1.2) (fun _ _ => rfl) (fun _ _ _ => rfl)
    · have c : ¬ T.length + k ≤ 40 := fun z => h3 ((nI_leI (b := 40) (by omega) (by decide)).mpr z)
      have hq : sq_type x (nI k) T = (-2, T) := by
        unfold sq_type
        rw [sq_lf (fun z => z.elim h (fun z => absurd h2 (Int32.not_le.mpr z))), nI_clamp (by omega), sq_lt (by omega)]
      rw [hq] at hQ; exact hQ S hR
  · have hq : sq_type x n T = (-1, T) := by unfold sq_type; rw [sq_lt (Or.inr (Int32.not_le.mp h2))]
    rw [hq] at hQ; exact hQ S hR
end
