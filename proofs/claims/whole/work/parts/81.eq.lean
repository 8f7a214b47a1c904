/-! Equations -/
def eq_cl (D c : Nat) : Prop := c < D ∨ (12 ≤ c ∧ c < 16)
theorem px_re_get {q : Nat} (h : q < 12) : px_re.getD (nI q).toNatClampNeg 0 = 32 + q := by
  rw [nI_clamp (by omega)]
  have : ∀ q, q < 12 → px_re.getD q 0 = 32 + q := by decide
  exact this q h
theorem px_Zc_re {q : Nat} (h : q < 12) : px_Zc[32 + q]? = some (.inl 16) := by
  match q, h with
  | 0, _ => rfl
  | 1, _ => rfl
  | 2, _ => rfl
  | 3, _ => rfl
  | 4, _ => rfl
  | 5, _ => rfl
  | 6, _ => rfl
  | 7, _ => rfl
  | 8, _ => rfl
  | 9, _ => rfl
  | 10, _ => rfl
  | 11, _ => rfl
/-- a row as the class keeps it -/
def eq_row (S : px_S) (D q : Nat) (u : Nat → BitVec 16) : Prop := ∀ c, eq_cl D c → S (32 + q) c = gE (u c)
theorem eq_row.of {S S' : px_S} {D q : Nat} {u : Nat → BitVec 16} (h : eq_row S D q u) (hf : S' (32 + q) = S (32 + q)) : eq_row S' D q u := fun c hc => by rw [hf]; exact h c hc
section
variable {G : px_G} {d : Nat} {S : px_S} {D : Nat}
theorem k_Equations_enough {Q : Int32 → px_S → Prop} {t : Nat} (h2 : S 30 2 = nI D) (h3 : S 30 3 = nI t) (hD : D ≤ 12) (ht : t ≤ 12) (h0 : t < D → Q 0 S) (h1 : ¬ t < D → Q 1 S) : px_I G px_Zc d m_Equations_enough [.ref 30] S Q := by
  refine f_Equations_enough ?_
  rw [h2, h3, nI_ltI (by omega) (by omega)]
  exact ⟨fun c => px_iq_i (h0 c), fun c => px_iq_i (h1 c)⟩
theorem k_Equations_offerFactor {Q : px_S → Prop} {t c : Nat} {v : Int32} (h2 : S 30 2 = nI D) (h3 : S 30 3 = nI t) (hD : D ≤ 12) (ht : t < D) (hc : c < D) (hQ : Q (px_u S (32 + t) c v)) : px_V G px_Zc (d + 1) m_Equations_offerFactor [.ref 30, .int (nI c), .int v] S Q := by
  refine f_Equations_offerFactor (k_Equations_enough h2 h3 hD (by omega) (fun _ => ⟨fun z => absurd rfl z, fun _ => ?_⟩) (fun z => absurd ht z))
  rw [h2, h3, px_re_get (by omega), nI_clamp (by omega)]
  exact ⟨fun z => absurd z (nI_pos (by omega)), fun _ => ⟨fun z => absurd z (nI_ge hc (by omega)), fun _ => ⟨vp_in_nI (by omega) (by decide), px_Zc_re (by omega), vp_in_nI (by omega) (by decide), px_vq_i hQ⟩⟩⟩
theorem k_Equations_offerResult {Q : px_S → Prop} {t q : Nat} {v : Int32} (h2 : S 30 2 = nI D) (h3 : S 30 3 = nI t) (hD : D ≤ 12) (ht : t < D) (hq : q < 4) (hQ : Q (px_u S (32 + t) (12 + q) v)) : px_V G px_Zc (d + 1) m_Equations_offerResult [.ref 30, .int (nI q), .int v] S Q := by
  refine f_Equations_offerResult (k_Equations_enough h2 h3 hD (by omega) (fun _ => ⟨fun z => absurd rfl z, fun _ => ?_⟩) (fun z => absurd ht z))
  rw [h3, px_re_get (by omega), show (12 : Int32) + nI q = nI (12 + q) from nI_add 12 q, nI_clamp (by omega)]
  exact ⟨fun z => absurd z (nI_pos (by omega)), fun _ => ⟨fun z => absurd z (nI_ge (b := 4) hq (by decide)), fun _ => ⟨vp_in_nI (by omega) (by decide), px_Zc_re (by omega), vp_in_nI (by omega) (by decide), px_vq_i hQ⟩⟩⟩
theorem k_Equations_addMultiple {Q : px_S → Prop} {a b : Nat} {f : BitVec 16} {u w : Nat → BitVec 16} (h2 : S 30 2 = nI D) (hD : D ≤ 12) (ha : a < 12) (hb : b < 12) (hab : a ≠ b) (hu : eq_row S D a u) (hw : eq_row S D b w) (hQ : ∀ S', eq_row S' D a (fun c => u c ^^^ gf_m f (w c)) → (∀ i, i ≠ 32 + a → S' i = S i) → Q S') : px_V G px_Zc (d + 1) m_Equations_addMultiple [.ref 30, .int (nI a), .int (nI b), .int (gE f)] S Q := by
  refine f_Equations_addMultiple ?_
  rw [gE_eq0]
  refine ⟨fun _ => ?_, fun z => px_vq_i (hQ S (fun c hc => by rw [hu c hc, z]; show gE (u c) = gE (u c ^^^ gf_m 0#16 (w c)); rw [gf_0_m, BitVec.xor_zero]) (fun _ _ => rfl))⟩
  have key : ∀ (m k : Nat) (S1 : px_S), m + k = 16 → (∀ c, c < k → eq_cl D c → S1 (32 + a) c = gE (u c ^^^ gf_m f (w c))) → (∀ c, k ≤ c → S1 (32 + a) c = S (32 + a) c) → (∀ i, i ≠ 32 + a → S1 i = S i) → px_w G px_Zc (d + 1) m_Equations_addMultiple 8 [.ref 30, .int (nI a), .int (nI b), .int (gE f), .int (nI k)] [] S1 (px_vq Q) := by
    intro m
    induction m with
    | zero =>
      intro k S1 hk h1 h1' f1
      have : k = 16 := by omega
      subst this
      exact e_Equations_addMultiple_8 ⟨fun _ => px_vq_i (hQ S1 (fun c hc => h1 c (by unfold eq_cl at hc; omega) hc) f1), fun z => absurd (Int32.le_refl _) z⟩
    | succ m ih =>
      intro k S1 hk h1 h1' f1
      have e2 : S1 30 2 = nI D := by rw [f1 30 (by omega)]; exact h2
      have go : eq_cl D k → px_w G px_Zc (d + 1) m_Equations_addMultiple 31 [.ref 30, .int (nI a), .int (nI b), .int (gE f), .int (nI k)] [] S1 (px_vq Q) := by
        intro hck
        refine e_Equations_addMultiple_31 ?_
        rw [px_re_get ha, px_re_get hb, nI_clamp (by omega), f1 (32 + b) (by omega), hw k hck, nI_1]
        refine ⟨vp_in_nI ha (by decide), px_Zc_re ha, vp_in_nI (by omega) (by decide), vp_in_nI hb (by decide), px_Zc_re hb, vp_in_nI (by omega) (by decide), k_Field_times ⟨px_Zc_re ha, vp_in_nI (by omega) (by decide), fun S3 hS3 => ?_⟩⟩
        rw [h1' k (Nat.le_refl _), hu k hck, gE_xor] at hS3
        refine ih (k + 1) S3 (by omega) (fun c hc hcl => ?_) (fun c hc => ?_) (fun i hi => ?_)
        · rw [hS3, px_ua]
          by_cases hce : c = k
          · rw [if_pos ⟨rfl, hce⟩, hce]
          · rw [if_neg (fun z => hce z.2)]; exact h1 c (by omega) hcl
        · rw [hS3, px_ua, if_neg (fun z => by have := z.2; omega)]; exact h1' c (by omega)
        · rw [hS3, px_u_ne _ _ _ hi]; exact f1 i hi
      refine e_Equations_addMultiple_8 ⟨fun z => absurd z (nI_ge (b := 16) (by omega) (by decide)), fun _ => ?_⟩
      have e12 : nI k < (12 : Int32) ↔ k < 12 := nI_ltI (b := 12) (by omega) (by decide)
      rw [e2, nI_ltI (by omega) (by omega), e12, nI_1]
      refine ⟨fun c => go (Or.inl c), fun c => ⟨fun c2 => ih (k + 1) S1 (by omega) (fun c' hc hcl => ?_) (fun c' hc => h1' c' (by omega)) f1, fun c2 => go (Or.inr ⟨by omega, by omega⟩)⟩⟩
      refine h1 c' ?_ hcl
      unfold eq_cl at hcl
      omega
  exact key 16 0 S (by omega) (fun c hc => by omega) (fun _ _ => rfl) (fun _ _ => rfl)
theorem k_Equations_scale {Q : px_S → Prop} {a : Nat} {f : BitVec 16} {u : Nat → BitVec 16} (h2 : S 30 2 = nI D) (hD : D ≤ 12) (ha : a < 12) (hu : eq_row S D a u) (hQ : ∀ S', eq_row S' D a (fun c => gf_m f (u c)) → (∀ i, i ≠ 32 + a → S' i = S i) → Q S') : px_V G px_Zc (d + 1) m_Equations_scale [.ref 30, .int (nI a), .int (gE f)] S Q := by
  refine f_Equations_scale ?_
  have key : ∀ (m k : Nat) (S1 : px_S), m + k = 16 → (∀ c, c < k → eq_cl D c → S1 (32 + a) c = gE (gf_m f (u c))) → (∀ c, k ≤ c → S1 (32 + a) c = S (32 + a) c) → (∀ i, i ≠ 32 + a → S1 i = S i) → px_w G px_Zc (d + 1) m_Equations_scale 2 [.ref 30, .int (nI a), .int (gE f), .int (nI k)] [] S1 (px_vq Q) := by
    intro m
    induction m with
    | zero =>
      intro k S1 hk h1 h1' f1
      have : k = 16 := by omega
      subst this
      exact e_Equations_scale_2 ⟨fun _ => px_vq_i (hQ S1 (fun c hc => h1 c (by unfold eq_cl at hc; omega) hc) f1), fun z => absurd (Int32.le_refl _) z⟩
    | succ m ih =>
      intro k S1 hk h1 h1' f1
      have e2 : S1 30 2 = nI D := by rw [f1 30 (by omega)]; exact h2
      have nxt : eq_cl D k → px_w G px_Zc (d + 1) m_Equations_scale 2 [.ref 30, .int (nI a), .int (gE f), .int (nI (k + 1))] [] (px_u S1 (32 + a) k (gE (gf_m f (u k)))) (px_vq Q) := by
        intro hck
        refine ih (k + 1) _ (by omega) (fun c hc hcl => ?_) (fun c hc => ?_) (fun i hi => ?_)
        · rw [px_ua]
          by_cases hce : c = k
          · rw [if_pos ⟨rfl, hce⟩, hce]
          · rw [if_neg (fun z => hce z.2)]; exact h1 c (by omega) hcl
        · rw [px_ua, if_neg (fun z => by have := z.2; omega)]; exact h1' c (by omega)
        · rw [px_u_ne _ _ _ hi]; exact f1 i hi
      refine e_Equations_scale_2 ⟨fun z => absurd z (nI_ge (b := 16) (by omega) (by decide)), fun _ => ?_⟩
      have e12 : nI k < (12 : Int32) ↔ k < 12 := nI_ltI (b := 12) (by omega) (by decide)
      rw [e2, nI_ltI (by omega) (by omega), e12, nI_1, px_re_get ha, nI_clamp (by omega), h1' k (Nat.le_refl _)]
      refine ⟨fun c => ⟨vp_in_nI ha (by decide), vp_in_nI ha (by decide), px_Zc_re ha, vp_in_nI (by omega) (by decide), ?_⟩, fun c => ⟨fun c2 => ih (k + 1) S1 (by omega) (fun c' hc hcl => ?_) (fun c' hc => h1' c' (by omega)) f1, fun c2 => ⟨vp_in_nI ha (by decide), vp_in_nI ha (by decide), px_Zc_re ha, vp_in_nI (by omega) (by decide), ?_⟩⟩⟩
      · rw [hu k (Or.inl c)]
        exact k_Field_times ⟨px_Zc_re ha, vp_in_nI (by omega) (by decide), nxt (Or.inl c)⟩
      · refine h1 c' ?_ hcl
        unfold eq_cl at hcl
        omega
      · rw [hu k (Or.inr ⟨by omega, by omega⟩)]
        exact k_Field_times ⟨px_Zc_re ha, vp_in_nI (by omega) (by decide), nxt (Or.inr ⟨by omega, by omega⟩)⟩
  exact key 16 0 S (by omega) (fun c hc => by omega) (fun _ _ => rfl) (fun _ _ => rfl)
/-- the rows that were taken, as the class keeps them -/
def eq_at (S : px_S) (D : Nat) (s : el_S) : Prop := S 30 2 = nI D ∧ S 30 3 = nI s.1 ∧ (∀ q, q < s.1 → eq_row S D q (s.2.1 q)) ∧ ∀ q, q < s.1 → S 44 q = nI (s.2.2.2 q)
def eq_fr (S S' : px_S) : Prop := ∀ i, i < 30 ∨ 44 < i → S' i = S i
theorem k_Equations_takeOffered {Q : px_S → Prop} {s : el_S} {v : Nat → BitVec 16} (hs : eq_at S D s) (hD : D ≤ 12) (hok : el_ok D s) (ht : s.1 < D) (hv : eq_row S D s.1 v) (hQ : ∀ S', eq_at S' D (el_step D v s) → eq_fr S S' → Q S') : px_V G px_Zc (d + 3) m_Equations_takeOffered [.ref 30] S Q := by
  obtain ⟨h2, h3, hr, hp⟩ := hs
  have hpd := hok.1.2.2.2.2.1
  refine f_Equations_takeOffered (k_Equations_enough h2 h3 hD (by omega) (fun _ => ⟨fun _ => ?_, fun z => absurd rfl z⟩) (fun z => absurd ht z))
  have t51 : ∀ (r c : Nat) (S1 : px_S), r + c = D → (∀ b, b < c → el_w v s b = 0#16) → eq_row S1 D s.1 (el_w v s) → (∀ i, i ≠ 32 + s.1 → S1 i = S i) → px_w G px_Zc (d + 3) m_Equations_takeOffered 51 [.ref 30, .int (nI c)] [] S1 (px_vq Q) := by
    intro r
    induction r with
    | zero =>
      intro c S1 hc hz hw f1
      have : c = D := by omega
      subst this
      refine e_Equations_takeOffered_51 ⟨fun _ => px_vq_i (hQ S1 ?_ (fun i hi => f1 i (by omega))), fun z => absurd ?_ z⟩
      · have hfp : ¬ fp c (el_w v s) < c := fun z => fp_ne z (hz _ z)
        unfold el_step
        rw [if_neg hfp]
        exact ⟨by rw [f1 30 (by omega)]; exact h2, by rw [f1 30 (by omega)]; exact h3, fun q hq => (hr q hq).of (f1 _ (by omega)), fun q hq => by rw [f1 44 (by omega)]; exact hp q hq⟩
      · rw [f1 30 (by omega), h2]; exact Int32.le_refl _
    | succ r ih =>
      intro c S1 hc hz hw f1
      refine e_Equations_takeOffered_51 ?_
      have g2 : S1 30 2 = nI D := by rw [f1 30 (by omega)]; exact h2
      have g3 : S1 30 3 = nI s.1 := by rw [f1 30 (by omega)]; exact h3
      have e30 : ∀ x y z : Int32, ∀ k, (px_u S1 44 k x) 30 3 = nI s.1 := fun x y z k => by rw [px_u_ne _ _ _ (by decide)]; exact g3
      rw [g2, g3, e30 (nI c) 0 0, px_re_get (by omega), nI_clamp (n := c) (by omega), px_u_ne _ _ _ (show 32 + s.1 ≠ 44 by omega), hw c (Or.inl (by omega)), gE_eq0, nI_1, nI_clamp (n := s.1) (by omega)]
      refine ⟨fun z => absurd z (nI_ge (by omega) (by omega)), fun _ => ⟨vp_in_nI (by omega) (by decide), px_Zc_re (by omega), vp_in_nI (by omega) (by decide), fun cz => ih (c + 1) S1 (by omega) (fun b hb => ?_) hw f1, fun cz => ⟨vp_in_nI (by omega) (by decide), vp_in_nI (by omega) (by decide), px_Zc_re (by omega), vp_in_nI (by omega) (by decide), k_Field_inverse ?_⟩⟩⟩
      · by_cases hbc : b = c
        · rw [hbc]; exact cz
        · exact hz b (by omega)
      · have hfp : fp D (el_w v s) = c := fp_is (by omega) cz hz
        refine k_Equations_scale (S := px_u S1 44 s.1 (nI c)) (D := D) (by rw [px_u_ne _ _ _ (by decide)]; exact g2) hD (by omega) (hw.of (px_u_ne _ _ _ (by omega))) (fun S2 w2 f2 => px_vq_i (hQ _ ?_ (fun i hi => ?_)))
        · unfold el_step
          rw [if_pos (by omega)]
          refine ⟨?_, ?_, fun q hq => ?_, fun q hq => ?_⟩
          · rw [px_ua, if_neg (by simp), f2 30 (by omega), px_u_ne _ _ _ (by decide)]; exact g2
          · rw [px_us, f2 30 (by omega), px_u_ne _ _ _ (by decide), g3, nI_1]; rfl
          · have hq' : q < s.1 + 1 := hq
            show eq_row _ D q (if q = s.1 then el_n D (el_w v s) else s.2.1 q)
            by_cases hqs : q = s.1
            · rw [if_pos hqs, hqs]
              have := w2.of (S' := px_u S2 30 3 (S2 30 3 + 1)) (px_u_ne _ _ _ (by omega))
              unfold el_n
              rw [hfp]
              exact this
            · rw [if_neg hqs]
              exact (hr q (by omega)).of (by rw [px_u_ne _ _ _ (by omega), f2 _ (by omega), px_u_ne _ _ _ (by omega), f1 _ (by omega)])
          · have hq' : q < s.1 + 1 := hq
            show _ = nI (if q = s.1 then fp D (el_w v s) else s.2.2.2 q)
            rw [px_u_ne _ _ _ (by decide), f2 44 (by omega), px_ua]
            by_cases hqs : q = s.1
            · rw [if_pos ⟨rfl, hqs⟩, if_pos hqs, hfp]
            · rw [if_neg (fun z => hqs z.2), if_neg hqs, f1 44 (by omega)]
              exact hp q (by omega)
        · rw [px_u_ne _ _ _ (by omega), f2 i (by omega), px_u_ne _ _ _ (by omega), f1 i (by omega)]
  have t10 : ∀ (r n : Nat) (S1 : px_S), r + n = s.1 → eq_row S1 D s.1 (la_red s.2.1 s.2.2.2 v n) → (∀ i, i ≠ 32 + s.1 → S1 i = S i) → px_w G px_Zc (d + 3) m_Equations_takeOffered 10 [.ref 30, .int (nI n)] [] S1 (px_vq Q) := by
    intro r
    induction r with
    | zero =>
      intro n S1 hn hw f1
      have : n = s.1 := by omega
      rw [this] at hw
      refine e_Equations_takeOffered_10 ⟨fun _ => t51 D 0 S1 (by omega) (fun b hb => by omega) hw f1, fun z => absurd ?_ z⟩
      rw [f1 30 (by omega), h3]; exact nI_le (by omega) (by omega)
    | succ r ih =>
      intro n S1 hn hw f1
      have g3 : S1 30 3 = nI s.1 := by rw [f1 30 (by omega)]; exact h3
      have hpn := hpd n (by omega)
      refine e_Equations_takeOffered_10 ?_
      rw [g3, px_re_get (by omega), nI_clamp (n := n) (by omega), f1 44 (by omega), hp n (by omega), nI_clamp (n := s.2.2.2 n) (by omega), hw _ (Or.inl hpn), nI_1]
      refine ⟨fun z => absurd z (nI_ge (by omega) (by omega)), fun _ => ⟨vp_in_nI (by omega) (by decide), vp_in_nI (by omega) (by decide), px_Zc_re (by omega), vp_in_nI (by omega) (by decide), ?_⟩⟩
      refine k_Equations_addMultiple (D := D) (by rw [f1 30 (by omega)]; exact h2) hD (by omega) (by omega) (by omega) hw ((hr n (by omega)).of (f1 _ (by omega))) (fun S2 w2 f2 => ?_)
      exact ih (n + 1) S2 (by omega) w2 (fun i hi => by rw [f2 i hi]; exact f1 i hi)
  exact t10 s.1 0 S (by omega) hv (fun _ _ => rfl)
end
