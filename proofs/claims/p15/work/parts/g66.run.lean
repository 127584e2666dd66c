set_option maxRecDepth 16384
/-! the heaps of the beginning, as lists of what was made (0), laid as a reference (1) or as an int (2) -/
abbrev zOp : Type := Nat × Nat × Nat × Nat
def zi0 (L : Nat) (xs : Nat → Int32) : zH := ((0, (fun _ => (0, 0)), (fun _ _ => 0), L, xs), (fun _ _ => 0), (fun _ _ => 0), 0, 0)
def zap (o : zOp) (h : zH) : zH := if o.1 = 0 then znew h o.2.2.1 o.2.2.2 else if o.1 = 1 then zsR h o.2.1 o.2.2.1 o.2.2.2 else zsI h o.2.1 o.2.2.1 (oI (o.2.2.2 : Nat))
def zA (L : Nat) (xs : Nat → Int32) : List zOp → zH
  | [] => zi0 L xs
  | o :: D => zap o (zA L xs D)
def nD : List zOp → Nat
  | [] => 0
  | o :: D => if o.1 = 0 then nD D + 1 else nD D
def kD : List zOp → Nat → Nat × Nat
  | [], _ => (0, 0)
  | o :: D, a => if o.1 = 0 then (if a = nD D + 1 then (o.2.2.1, o.2.2.2) else kD D a) else kD D a
def rD : List zOp → Nat → Nat → Nat
  | [], _, _ => 0
  | o :: D, a, j => if o.1 = 0 then (if a = nD D + 1 then 0 else rD D a j) else if o.1 = 1 then (if a = o.2.1 ∧ j = o.2.2.1 then o.2.2.2 else rD D a j) else rD D a j
def iD : List zOp → Nat → Nat → Nat
  | [], _, _ => 0
  | o :: D, a, j => if o.1 = 0 then (if a = nD D + 1 then 0 else iD D a j) else if o.1 = 1 then iD D a j else (if a = o.2.1 ∧ j = o.2.2.1 then o.2.2.2 else iD D a j)
def sD : List zOp → Nat
  | [] => 0
  | o :: D => if o.1 = 0 then sD D + o.2.2.2 else sD D
theorem zA_n (L : Nat) (xs : Nat → Int32) (D : List zOp) : zn (zA L xs D) = nD D := by
  induction D with
  | nil => rfl
  | cons o D ih =>
    show zn (zap o (zA L xs D)) = if o.1 = 0 then nD D + 1 else nD D
    unfold zap
    split
    · show zn (zA L xs D) + 1 = _; rw [ih]
    · split
      · exact ih
      · exact ih
theorem zA_k (L : Nat) (xs : Nat → Int32) (D : List zOp) (a : Nat) : zkd (zA L xs D) a = kD D a := by
  induction D with
  | nil => rfl
  | cons o D ih =>
    show zkd (zap o (zA L xs D)) a = if o.1 = 0 then (if a = nD D + 1 then (o.2.2.1, o.2.2.2) else kD D a) else kD D a
    unfold zap
    split
    · show zup (zkd (zA L xs D)) (zn (zA L xs D) + 1) _ a = _
      unfold zup; rw [zA_n, ih]
    · split
      · exact ih
      · exact ih
theorem zA_r (L : Nat) (xs : Nat → Int32) (D : List zOp) (a j : Nat) : zrv (zA L xs D) a j = rD D a j := by
  induction D generalizing a j with
  | nil => rfl
  | cons o D ih =>
    show zrv (zap o (zA L xs D)) a j = if o.1 = 0 then (if a = nD D + 1 then 0 else rD D a j) else if o.1 = 1 then (if a = o.2.1 ∧ j = o.2.2.1 then o.2.2.2 else rD D a j) else rD D a j
    unfold zap
    split
    · show zup (zrv (zA L xs D)) (zn (zA L xs D) + 1) (fun _ => 0) a j = _
      unfold zup; rw [zA_n]; split
      · rfl
      · exact ih a j
    · split
      · show zup (zrv (zA L xs D)) o.2.1 (zup (zrv (zA L xs D) o.2.1) o.2.2.1 o.2.2.2) a j = _
        unfold zup
        by_cases e : a = o.2.1
        · subst e
          by_cases f : j = o.2.2.1
          · rw [if_pos rfl, if_pos f, if_pos ⟨rfl, f⟩]
          · rw [if_pos rfl, if_neg f, if_neg (fun c => f c.2)]; exact ih _ j
        · rw [if_neg e, if_neg (fun c => e c.1)]; exact ih a j
      · exact ih a j
theorem zA_i (L : Nat) (xs : Nat → Int32) (D : List zOp) (a j : Nat) : ziv (zA L xs D) a j = oI (iD D a j : Nat) := by
  induction D generalizing a j with
  | nil => rfl
  | cons o D ih =>
    show ziv (zap o (zA L xs D)) a j = oI ((if o.1 = 0 then (if a = nD D + 1 then 0 else iD D a j) else if o.1 = 1 then iD D a j else (if a = o.2.1 ∧ j = o.2.2.1 then o.2.2.2 else iD D a j) : Nat))
    unfold zap
    split
    · show zup (ziv (zA L xs D)) (zn (zA L xs D) + 1) (fun _ => 0) a j = _
      unfold zup; rw [zA_n]; split
      · rfl
      · exact ih a j
    · split
      · exact ih a j
      · show zup (ziv (zA L xs D)) o.2.1 (zup (ziv (zA L xs D) o.2.1) o.2.2.1 _) a j = _
        unfold zup
        by_cases e : a = o.2.1
        · subst e
          by_cases f : j = o.2.2.1
          · rw [if_pos rfl, if_pos f, if_pos ⟨rfl, f⟩]
          · rw [if_pos rfl, if_neg f, if_neg (fun c => f c.2)]; exact ih _ j
        · rw [if_neg e, if_neg (fun c => e c.1)]; exact ih a j
theorem zA_c (L : Nat) (xs : Nat → Int32) (D : List zOp) : zcn (zA L xs D) = nD D ∧ zsn (zA L xs D) = sD D ∧ (zA L xs D).1.2.2.2 = (L, xs) := by
  induction D with
  | nil => exact ⟨rfl, rfl, rfl⟩
  | cons o D ih =>
    show zcn (zap o (zA L xs D)) = (if o.1 = 0 then nD D + 1 else nD D) ∧ zsn (zap o (zA L xs D)) = (if o.1 = 0 then sD D + o.2.2.2 else sD D) ∧ (zap o (zA L xs D)).1.2.2.2 = (L, xs)
    unfold zap
    split
    · refine ⟨?_, ?_, ih.2.2⟩
      · show zcn (zA L xs D) + 1 = _; rw [ih.1]
      · show zsn (zA L xs D) + _ = _; rw [ih.2.1]
    · split
      · exact ih
      · exact ih
theorem zA_new (L : Nat) (xs : Nat → Int32) (D : List zOp) (k l : Nat) : znew (zA L xs D) k l = zA L xs ((0, nD D + 1, k, l) :: D) := rfl
theorem zA_ref (L : Nat) (xs : Nat → Int32) (D : List zOp) (a j r : Nat) : zsR (zA L xs D) a j r = zA L xs ((1, a, j, r) :: D) := rfl
theorem zA_int (L : Nat) (xs : Nat → Int32) (D : List zOp) (a j : Nat) : zsI (zA L xs D) a j (oI 1) = zA L xs ((2, a, j, 1) :: D) := rfl
theorem nD_0 (D : List zOp) (a k l : Nat) : nD ((0, a, k, l) :: D) = nD D + 1 := rfl
theorem nD_1 (D : List zOp) (a k l : Nat) : nD ((1, a, k, l) :: D) = nD D := rfl
theorem nD_2 (D : List zOp) (a k l : Nat) : nD ((2, a, k, l) :: D) = nD D := rfl
theorem kD_0 (D : List zOp) (b k l a : Nat) : kD ((0, b, k, l) :: D) a = if a = nD D + 1 then (k, l) else kD D a := rfl
theorem kD_1 (D : List zOp) (b k l a : Nat) : kD ((1, b, k, l) :: D) a = kD D a := rfl
theorem kD_2 (D : List zOp) (b k l a : Nat) : kD ((2, b, k, l) :: D) a = kD D a := rfl
theorem rD_1 (D : List zOp) (b k l a j : Nat) : rD ((1, b, k, l) :: D) a j = if a = b ∧ j = k then l else rD D a j := rfl
theorem zck_t {c : Prop} [Decidable c] {k : Option zO} (h : c) : zck c k = k := if_pos h
theorem zcx_i {v : Option zV} {h' : zH} {f : Option zV → zH → Option zO} {g : Nat → zH → Option zO} : zcx (some (.inl v, h')) f g = f v h' := rfl
theorem r6 (L : Nat) (xs : Nat → Int32) (D : List zOp) (r c : Nat) (x : Int) (hx : x = c) (hc : c ≤ 100000) (hr : 0 < r) (hk : kD D r = (13, 3)) (ne : r ≠ nD D + 1) : zcl zP 56 [zR r, zI (oI x)] (zA L xs D) = some (.inl none, zA L xs ((1, r, 0, nD D + 1) :: (0, nD D + 1, 1, c) :: D)) := by
  have h0 : ¬ oI x < oI 0 := mt (oI_lt (by omega) (by omega) (by omega) (by omega)).mp (by omega)
  have hn : nN (oI x) = c := by rw [nN_o (by omega) (by omega)]; omega
  rw [i56_0]
  simp only [if_neg h0, hn, zA_new, zA_ref, zA_n]
  rw [zck_t ⟨hr, by decide⟩, zck_t ⟨h0, hc⟩, zck_t (by rw [zA_k, kD_0, if_neg ne]; exact hk)]
theorem r2 (L : Nat) (xs : Nat → Int32) (D : List zOp) (r n c : Nat) (x : Int) (hx : x = c) (hc : c ≤ 100000) (hr : 0 < r ∧ r ≤ n) (hn : nD D = n) (hk : kD D r = (11, 7)) : zcl zP 21 [zR r, zI (oI x)] (zA L xs D) = some (.inl none, zA L xs ((2, n + 13, 2, 1) :: (1, r, 4, n + 13) :: (1, n + 13, 0, n + 14) :: (0, n + 14, 1, c) :: (0, n + 13, 13, 3) :: (1, r, 6, n + 11) :: (1, n + 11, 0, n + 12) :: (0, n + 12, 1, 400) :: (0, n + 11, 13, 3) :: (1, r, 5, n + 9) :: (1, n + 9, 0, n + 10) :: (0, n + 10, 1, 400) :: (0, n + 9, 13, 3) :: (1, r, 3, n + 7) :: (1, n + 7, 0, n + 8) :: (0, n + 8, 1, 400) :: (0, n + 7, 13, 3) :: (1, r, 2, n + 5) :: (1, n + 5, 0, n + 6) :: (0, n + 6, 1, 400) :: (0, n + 5, 13, 3) :: (1, r, 1, n + 3) :: (1, n + 3, 0, n + 4) :: (0, n + 4, 1, 400) :: (0, n + 3, 13, 3) :: (1, r, 0, n + 1) :: (1, n + 1, 0, n + 2) :: (0, n + 2, 1, 400) :: (0, n + 1, 13, 3) :: D)) := by
  have K6 : ∀ (E : List zOp) (q m : Nat), nD E = m → q ≤ m → kD E q = kD E q := fun _ _ _ _ _ => rfl
  rw [i21_0, zck_t ⟨hr.1, by decide⟩]
  simp only [zA_new, zA_n, hn]
  rw [zck_t (by rw [zA_k, kD_0, hn, if_pos rfl])]
  rw [r6 _ _ _ _ 400 400 rfl (by decide) (by omega) (by rw [kD_0, hn, if_pos rfl]) (by rw [nD_0, hn]; omega), zcx_i, zput_n]
  rw [i21_15]
  simp only [zA_new, zA_ref, zA_n, nD_0, nD_1, nD_2, hn]
  rw [zck_t (by rw [zA_k]; exact (by simp only [kD_0, kD_1, kD_2, nD_0, nD_1, nD_2, hn]; (repeat (first | exact hk | rfl | rw [if_pos rfl] | rw [if_pos (by omega)] | rw [if_neg (by omega)]))))]
  rw [zck_t (by rw [zA_k]; exact (by simp only [kD_0, kD_1, kD_2, nD_0, nD_1, nD_2, hn]; (repeat (first | exact hk | rfl | rw [if_pos rfl] | rw [if_pos (by omega)] | rw [if_neg (by omega)]))))]
  rw [r6 _ _ _ _ 400 400 rfl (by decide) (by omega) (by simp only [kD_0, kD_1, kD_2, nD_0, nD_1, nD_2, hn]; (repeat (first | exact hk | rfl | rw [if_pos rfl] | rw [if_pos (by omega)] | rw [if_neg (by omega)]))) (by simp only [nD_0, nD_1, nD_2, hn]; omega), zcx_i, zput_n]
  rw [i21_29]
  simp only [zA_new, zA_ref, zA_n, nD_0, nD_1, nD_2, hn]
  rw [zck_t (by rw [zA_k]; exact (by simp only [kD_0, kD_1, kD_2, nD_0, nD_1, nD_2, hn]; (repeat (first | exact hk | rfl | rw [if_pos rfl] | rw [if_pos (by omega)] | rw [if_neg (by omega)]))))]
  rw [zck_t (by rw [zA_k]; exact (by simp only [kD_0, kD_1, kD_2, nD_0, nD_1, nD_2, hn]; (repeat (first | exact hk | rfl | rw [if_pos rfl] | rw [if_pos (by omega)] | rw [if_neg (by omega)]))))]
  rw [r6 _ _ _ _ 400 400 rfl (by decide) (by omega) (by simp only [kD_0, kD_1, kD_2, nD_0, nD_1, nD_2, hn]; (repeat (first | exact hk | rfl | rw [if_pos rfl] | rw [if_pos (by omega)] | rw [if_neg (by omega)]))) (by simp only [nD_0, nD_1, nD_2, hn]; omega), zcx_i, zput_n]
  rw [i21_43]
  simp only [zA_new, zA_ref, zA_n, nD_0, nD_1, nD_2, hn]
  rw [zck_t (by rw [zA_k]; exact (by simp only [kD_0, kD_1, kD_2, nD_0, nD_1, nD_2, hn]; (repeat (first | exact hk | rfl | rw [if_pos rfl] | rw [if_pos (by omega)] | rw [if_neg (by omega)]))))]
  rw [zck_t (by rw [zA_k]; exact (by simp only [kD_0, kD_1, kD_2, nD_0, nD_1, nD_2, hn]; (repeat (first | exact hk | rfl | rw [if_pos rfl] | rw [if_pos (by omega)] | rw [if_neg (by omega)]))))]
  rw [r6 _ _ _ _ 400 400 rfl (by decide) (by omega) (by simp only [kD_0, kD_1, kD_2, nD_0, nD_1, nD_2, hn]; (repeat (first | exact hk | rfl | rw [if_pos rfl] | rw [if_pos (by omega)] | rw [if_neg (by omega)]))) (by simp only [nD_0, nD_1, nD_2, hn]; omega), zcx_i, zput_n]
  rw [i21_57]
  simp only [zA_new, zA_ref, zA_n, nD_0, nD_1, nD_2, hn]
  rw [zck_t (by rw [zA_k]; exact (by simp only [kD_0, kD_1, kD_2, nD_0, nD_1, nD_2, hn]; (repeat (first | exact hk | rfl | rw [if_pos rfl] | rw [if_pos (by omega)] | rw [if_neg (by omega)]))))]
  rw [zck_t (by rw [zA_k]; exact (by simp only [kD_0, kD_1, kD_2, nD_0, nD_1, nD_2, hn]; (repeat (first | exact hk | rfl | rw [if_pos rfl] | rw [if_pos (by omega)] | rw [if_neg (by omega)]))))]
  rw [r6 _ _ _ _ 400 400 rfl (by decide) (by omega) (by simp only [kD_0, kD_1, kD_2, nD_0, nD_1, nD_2, hn]; (repeat (first | exact hk | rfl | rw [if_pos rfl] | rw [if_pos (by omega)] | rw [if_neg (by omega)]))) (by simp only [nD_0, nD_1, nD_2, hn]; omega), zcx_i, zput_n]
  rw [i21_71]
  simp only [zA_new, zA_ref, zA_n, nD_0, nD_1, nD_2, hn]
  rw [zck_t (by rw [zA_k]; exact (by simp only [kD_0, kD_1, kD_2, nD_0, nD_1, nD_2, hn]; (repeat (first | exact hk | rfl | rw [if_pos rfl] | rw [if_pos (by omega)] | rw [if_neg (by omega)]))))]
  rw [zck_t (by rw [zA_k]; exact (by simp only [kD_0, kD_1, kD_2, nD_0, nD_1, nD_2, hn]; (repeat (first | exact hk | rfl | rw [if_pos rfl] | rw [if_pos (by omega)] | rw [if_neg (by omega)]))))]
  rw [r6 _ _ _ _ 400 400 rfl (by decide) (by omega) (by simp only [kD_0, kD_1, kD_2, nD_0, nD_1, nD_2, hn]; (repeat (first | exact hk | rfl | rw [if_pos rfl] | rw [if_pos (by omega)] | rw [if_neg (by omega)]))) (by simp only [nD_0, nD_1, nD_2, hn]; omega), zcx_i, zput_n]
  rw [i21_85]
  simp only [zA_new, zA_ref, zA_n, nD_0, nD_1, nD_2, hn]
  rw [zck_t (by rw [zA_k]; exact (by simp only [kD_0, kD_1, kD_2, nD_0, nD_1, nD_2, hn]; (repeat (first | exact hk | rfl | rw [if_pos rfl] | rw [if_pos (by omega)] | rw [if_neg (by omega)]))))]
  rw [zck_t (by rw [zA_k]; exact (by simp only [kD_0, kD_1, kD_2, nD_0, nD_1, nD_2, hn]; (repeat (first | exact hk | rfl | rw [if_pos rfl] | rw [if_pos (by omega)] | rw [if_neg (by omega)]))))]
  rw [r6 _ _ _ _ c x hx hc (by omega) (by simp only [kD_0, kD_1, kD_2, nD_0, nD_1, nD_2, hn]; (repeat (first | exact hk | rfl | rw [if_pos rfl] | rw [if_pos (by omega)] | rw [if_neg (by omega)]))) (by simp only [nD_0, nD_1, nD_2, hn]; omega), zcx_i, zput_n]
  rw [i21_97]
  simp only [zA_new, zA_ref, zA_n, nD_0, nD_1, nD_2, hn, Nat.add_assoc, Nat.reduceAdd]
  have e4 : zrv (zA L xs ((1, r, 4, n + 13) :: (1, n + 13, 0, n + 14) :: (0, n + 14, 1, c) :: (0, n + 13, 13, 3) :: (1, r, 6, n + 11) :: (1, n + 11, 0, n + 12) :: (0, n + 12, 1, 400) :: (0, n + 11, 13, 3) :: (1, r, 5, n + 9) :: (1, n + 9, 0, n + 10) :: (0, n + 10, 1, 400) :: (0, n + 9, 13, 3) :: (1, r, 3, n + 7) :: (1, n + 7, 0, n + 8) :: (0, n + 8, 1, 400) :: (0, n + 7, 13, 3) :: (1, r, 2, n + 5) :: (1, n + 5, 0, n + 6) :: (0, n + 6, 1, 400) :: (0, n + 5, 13, 3) :: (1, r, 1, n + 3) :: (1, n + 3, 0, n + 4) :: (0, n + 4, 1, 400) :: (0, n + 3, 13, 3) :: (1, r, 0, n + 1) :: (1, n + 1, 0, n + 2) :: (0, n + 2, 1, 400) :: (0, n + 1, 13, 3) :: D)) r 4 = n + 13 := by rw [zA_r, rD_1, if_pos ⟨rfl, rfl⟩]
  simp only [e4]
  rw [zck_t (by rw [zA_k]; exact (by simp only [kD_0, kD_1, kD_2, nD_0, nD_1, nD_2, hn]; (repeat (first | exact hk | rfl | rw [if_pos rfl] | rw [if_pos (by omega)] | rw [if_neg (by omega)])))), zck_t (by rw [zA_k]; exact (by simp only [kD_0, kD_1, kD_2, nD_0, nD_1, nD_2, hn]; (repeat (first | exact hk | rfl | rw [if_pos rfl] | rw [if_pos (by omega)] | rw [if_neg (by omega)])))), zck_t ⟨by rw [zA_k]; exact (by simp only [kD_0, kD_1, kD_2, nD_0, nD_1, nD_2, hn]; (repeat (first | exact hk | rfl | rw [if_pos rfl] | rw [if_pos (by omega)] | rw [if_neg (by omega)]))), fun _ => Or.inr rfl⟩]
  rfl
