/-! THE SUM, as the document has it -/
abbrev md_S : Type := Int32 × Int32 × Int32 × Int32
def md_f (i : Nat) (b c d : Int32) : Int32 := if i < 16 then (b &&& c) ||| ((b ^^^ (-1)) &&& d) else if i < 32 then (d &&& b) ||| ((d ^^^ (-1)) &&& c) else if i < 48 then (b ^^^ c) ^^^ d else c ^^^ (b ||| (d ^^^ (-1)))
def md_g (i : Nat) : Nat := if i < 16 then i else if i < 32 then 5 * i + 1 else if i < 48 then 3 * i + 5 else 7 * i
def md_t (i : Nat) : Int32 := px_t1.getD (i / 16 * 4 + i % 4) 0
def md_x (w : Nat → Int32) (i : Nat) (s : md_S) : Int32 := ((md_f i s.2.1 s.2.2.1 s.2.2.2 + s.1) + px_t0.getD i 0) + w (md_g i % 16)
def md_step (w : Nat → Int32) (i : Nat) (s : md_S) : md_S := (s.2.2.2, s.2.1 + ((px_shl (md_x w i s) (md_t i)) ||| (px_ushr (md_x w i s) (32 - md_t i))), s.2.1, s.2.2.1)
def md_r (w : Nat → Int32) (s : md_S) : Nat → md_S
  | 0 => s
  | n + 1 => md_step w n (md_r w s n)
def md_blk (w : Nat → Int32) (s : md_S) : md_S := (s.1 + (md_r w s 64).1, s.2.1 + (md_r w s 64).2.1, s.2.2.1 + (md_r w s 64).2.2.1, s.2.2.2 + (md_r w s 64).2.2.2)
def md_w (m : Nat → Int32) (a t : Nat) : Int32 := (((m (a + 4 * t)) ||| (px_shl (m (a + 4 * t + 1)) 8)) ||| (px_shl (m (a + 4 * t + 2)) 16)) ||| (px_shl (m (a + 4 * t + 3)) 24)
def md_0 : md_S := (1732584193, (-271733879), (-1732584194), 271733878)
def md_all (m : Nat → Int32) : Nat → md_S
  | 0 => md_0
  | j + 1 => md_blk (md_w m (64 * j)) (md_all m j)
def md_z (n : Nat) : Nat := (119 - n % 64) % 64
/-- the message with what is put behind it -/
def md_pad (L : List Int32) : List Int32 := L ++ [128] ++ List.replicate (md_z L.length) 0 ++ (List.range 8).map (fun k => if k < 4 then px_ushr (nI (8 * L.length)) (nI (8 * k)) &&& 255 else 0)
theorem md_pad_len (L : List Int32) : (md_pad L).length = L.length + 1 + md_z L.length + 8 := by simp [md_pad]; omega
theorem md_pad_64 (L : List Int32) : (md_pad L).length % 64 = 0 := by
  rw [md_pad_len]
  unfold md_z
  omega
def md_sum (L : List Int32) : md_S := md_all (fun j => (md_pad L).getD j 0) ((md_pad L).length / 64)
def md_wd (s : md_S) (i : Nat) : Int32 := if i = 0 then s.1 else if i = 1 then s.2.1 else if i = 2 then s.2.2.1 else s.2.2.2
def md_b (s : md_S) (i : Nat) : Int32 := px_ushr (md_wd s (i / 4)) (nI (8 * (i % 4))) &&& 255
def md5 (L : List Int32) : List Int32 := (List.range 16).map (md_b (md_sum L))
theorem md5_len (L : List Int32) : (md5 L).length = 16 := by simp [md5]
theorem md5_get (L : List Int32) {i : Nat} (h : i < 16) : (md5 L).getD i 0 = md_b (md_sum L) i := by
  simp [md5, List.getD_eq_getElem?_getD, h]
theorem md_w_congr {m m' : Nat → Int32} {a : Nat} (h : ∀ j, j < a + 64 → m j = m' j) : ∀ t, t < 16 → md_w m a t = md_w m' a t := by
  intro t ht
  unfold md_w
  rw [h _ (by omega), h _ (by omega), h _ (by omega), h _ (by omega)]
theorem md_r_congr {w w' : Nat → Int32} (h : ∀ t, t < 16 → w t = w' t) (s : md_S) : ∀ n, md_r w s n = md_r w' s n := by
  intro n
  induction n with
  | zero => rfl
  | succ n ih =>
    show md_step w n (md_r w s n) = md_step w' n (md_r w' s n)
    rw [ih]
    unfold md_step md_x
    rw [h _ (Nat.mod_lt _ (by decide))]
theorem md_blk_congr {w w' : Nat → Int32} (h : ∀ t, t < 16 → w t = w' t) (s : md_S) : md_blk w s = md_blk w' s := by
  unfold md_blk
  rw [md_r_congr h]
theorem md_all_congr {m m' : Nat → Int32} {n : Nat} (h : ∀ j, j < 64 * n → m j = m' j) : md_all m n = md_all m' n := by
  induction n with
  | zero => rfl
  | succ n ih =>
    show md_blk (md_w m (64 * n)) (md_all m n) = md_blk (md_w m' (64 * n)) (md_all m' n)
    rw [ih (fun j hj => h j (by omega)), md_blk_congr (md_w_congr (fun j hj => h j (by omega)))]
theorem px_remN {a d : Nat} (ha : a < 2 ^ 31) (h0 : 0 < d) (hd : d < 2 ^ 31) : px_rem (nI a) (nI d) = nI (a % d) := pk_rem ha h0 hd
theorem md_g_lt {i : Nat} (h : i < 64) : md_g i < 2 ^ 31 := by
  unfold md_g
  split
  · omega
  · split
    · omega
    · split
      · omega
      · omega
