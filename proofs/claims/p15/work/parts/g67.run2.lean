set_option maxRecDepth 16384
/-! the beginning's run -/
theorem r3 (L : Nat) (xs : Nat → Int32) (D : List zOp) (r n : Nat) (hr : 0 < r ∧ r ≤ n) (hn : nD D = n) (hk : kD D r = (12, 4)) : zcl zP 34 [zR r] (zA L xs D) = some (.inl none, zA L xs ((1, r, 1, n + 2) :: (0, n + 2, 2, 7) :: (1, r, 0, n + 1) :: (0, n + 1, 2, 7) :: D)) := by
  have h7 : nN (oI 7) = 7 := rfl
  rw [i34_0, zck_t ⟨hr.1, by decide⟩]
  simp only [h7, zA_new, zA_ref, zA_n, nD_0, nD_1, hn, Nat.add_assoc, Nat.reduceAdd]
  rw [zck_t ⟨by decide, by decide⟩, zck_t (by rw [zA_k]; simp only [kD_0, kD_1, nD_0, nD_1, hn]; rw [if_neg (by omega)]; exact hk), zck_t ⟨by decide, by decide⟩, zck_t (by rw [zA_k]; simp only [kD_0, kD_1, nD_0, nD_1, hn]; rw [if_neg (by omega), if_neg (by omega)]; exact hk)]
theorem r0 (L : Nat) (xs : Nat → Int32) (D : List zOp) (r n : Nat) (hr : 0 < r ∧ r ≤ n) (hn : nD D = n) (hk : kD D r = (10, 1)) : zcl zP 0 [zR r] (zA L xs D) = some (.inl none, zA L xs ((1, r, 0, n + 1) :: (0, n + 1, 2, 8) :: D)) := by
  have h8 : nN (oI 8) = 8 := rfl
  rw [i0_0, zck_t ⟨hr.1, by decide⟩]
  simp only [h8, zA_new, zA_ref, zA_n, nD_0, nD_1, hn]
  rw [zck_t ⟨by decide, by decide⟩, zck_t (by rw [zA_k]; simp only [kD_0, hn]; rw [if_neg (by omega)]; exact hk)]
def zE0 : List zOp := [(0, 1, 14, 12)]
theorem nE0 : nD zE0 = 1 := rfl
def zE1 : List zOp := (1, 2, 0, 3) :: (0, 3, 1, 400) :: (0, 2, 13, 3) :: zE0
theorem nE1 : nD zE1 = 3 := by decide +kernel
theorem g8_0 (L : Nat) (xs : Nat → Int32) : zcl zP 93 [zR 1] (zA L xs zE0) = zev zP 93 15 [some (zR 1), none] [zR 2, zR 1] (zA L xs zE1) := by
  rw [i93_0, zck_t ⟨by decide, by decide⟩]
  simp only [nE0, zA_new, zA_ref, zA_n, nD_0, nD_1, Nat.reduceAdd]
  rw [zck_t (by (try simp only [zA_r, zA_k]); decide +kernel)]
  rw [r6 _ _ _ _ 400 400 rfl (by decide) (by decide) (by decide +kernel) (by decide +kernel), zcx_i, zput_n]
  (try simp only [nE0, nD_0, nD_1, Nat.reduceAdd])
  rfl
def zE2 : List zOp := (1, 4, 0, 5) :: (0, 5, 1, 400) :: (0, 4, 13, 3) :: (1, 1, 0, 2) :: zE1
theorem nE2 : nD zE2 = 5 := by decide +kernel
theorem g8_15 (L : Nat) (xs : Nat → Int32) : zev zP 93 15 [some (zR 1), none] [zR 2, zR 1] (zA L xs zE1) = zev zP 93 29 [some (zR 1), none] [zR 4, zR 1] (zA L xs zE2) := by
  rw [i93_15]
  simp only [nE1, zA_new, zA_ref, zA_n, nD_0, nD_1, Nat.reduceAdd]
  rw [zck_t (by (try simp only [zA_r, zA_k]); decide +kernel)]
  rw [zck_t (by (try simp only [zA_r, zA_k]); decide +kernel)]
  rw [r6 _ _ _ _ 400 400 rfl (by decide) (by decide) (by decide +kernel) (by decide +kernel), zcx_i, zput_n]
  (try simp only [nE1, nD_0, nD_1, Nat.reduceAdd])
  rfl
def zE3 : List zOp := (1, 6, 0, 7) :: (0, 7, 1, 400) :: (0, 6, 13, 3) :: (1, 1, 1, 4) :: zE2
theorem nE3 : nD zE3 = 7 := by decide +kernel
theorem g8_29 (L : Nat) (xs : Nat → Int32) : zev zP 93 29 [some (zR 1), none] [zR 4, zR 1] (zA L xs zE2) = zev zP 93 43 [some (zR 1), none] [zR 6, zR 1] (zA L xs zE3) := by
  rw [i93_29]
  simp only [nE2, zA_new, zA_ref, zA_n, nD_0, nD_1, Nat.reduceAdd]
  rw [zck_t (by (try simp only [zA_r, zA_k]); decide +kernel)]
  rw [zck_t (by (try simp only [zA_r, zA_k]); decide +kernel)]
  rw [r6 _ _ _ _ 400 400 rfl (by decide) (by decide) (by decide +kernel) (by decide +kernel), zcx_i, zput_n]
  (try simp only [nE2, nD_0, nD_1, Nat.reduceAdd])
  rfl
def zE4 : List zOp := (1, 9, 1, 11) :: (0, 11, 2, 7) :: (1, 9, 0, 10) :: (0, 10, 2, 7) :: (0, 9, 12, 4) :: (1, 1, 3, 8) :: (0, 8, 5, 8) :: (1, 1, 2, 6) :: zE3
theorem nE4 : nD zE4 = 11 := by decide +kernel
theorem g8_43 (L : Nat) (xs : Nat → Int32) : zev zP 93 43 [some (zR 1), none] [zR 6, zR 1] (zA L xs zE3) = zev zP 93 63 [some (zR 1), none] [zR 9, zR 1] (zA L xs zE4) := by
  rw [i93_43]
  simp only [show nN (oI 8) = 8 from rfl, nE3, zA_new, zA_ref, zA_n, nD_0, nD_1, Nat.reduceAdd]
  rw [zck_t (by (try simp only [zA_r, zA_k]); decide +kernel)]
  rw [zck_t (by (try simp only [zA_r, zA_k]); decide +kernel)]
  rw [zck_t (by (try simp only [zA_r, zA_k]); decide +kernel)]
  rw [zck_t (by (try simp only [zA_r, zA_k]); decide +kernel)]
  rw [r3 _ _ _ 9 9 ⟨by decide, by decide⟩ (by decide +kernel) (by decide +kernel), zcx_i, zput_n]
  (try simp only [nE3, nD_0, nD_1, Nat.reduceAdd])
  rfl
def zE5 : List zOp := (1, 12, 0, 13) :: (0, 13, 1, 400) :: (0, 12, 13, 3) :: (1, 1, 4, 9) :: zE4
theorem nE5 : nD zE5 = 13 := by decide +kernel
theorem g8_63 (L : Nat) (xs : Nat → Int32) : zev zP 93 63 [some (zR 1), none] [zR 9, zR 1] (zA L xs zE4) = zev zP 93 77 [some (zR 1), none] [zR 12, zR 1] (zA L xs zE5) := by
  rw [i93_63]
  simp only [nE4, zA_new, zA_ref, zA_n, nD_0, nD_1, Nat.reduceAdd]
  rw [zck_t (by (try simp only [zA_r, zA_k]); decide +kernel)]
  rw [zck_t (by (try simp only [zA_r, zA_k]); decide +kernel)]
  rw [r6 _ _ _ _ 400 400 rfl (by decide) (by decide) (by decide +kernel) (by decide +kernel), zcx_i, zput_n]
  (try simp only [nE4, nD_0, nD_1, Nat.reduceAdd])
  rfl
def zE6 : List zOp := (1, 14, 0, 15) :: (0, 15, 2, 8) :: (0, 14, 10, 1) :: (1, 1, 5, 12) :: zE5
theorem nE6 : nD zE6 = 15 := by decide +kernel
theorem g8_77 (L : Nat) (xs : Nat → Int32) : zev zP 93 77 [some (zR 1), none] [zR 12, zR 1] (zA L xs zE5) = zev zP 93 88 [some (zR 1), none] [zR 14, zR 1] (zA L xs zE6) := by
  rw [i93_77]
  simp only [nE5, zA_new, zA_ref, zA_n, nD_0, nD_1, Nat.reduceAdd]
  rw [zck_t (by (try simp only [zA_r, zA_k]); decide +kernel)]
  rw [zck_t (by (try simp only [zA_r, zA_k]); decide +kernel)]
  rw [r0 _ _ _ 14 14 ⟨by decide, by decide⟩ (by decide +kernel) (by decide +kernel), zcx_i, zput_n]
  (try simp only [nE5, nD_0, nD_1, Nat.reduceAdd])
  rfl
def zE7 : List zOp := (2, 29, 2, 1) :: (1, 16, 4, 29) :: (1, 29, 0, 30) :: (0, 30, 1, 808) :: (0, 29, 13, 3) :: (1, 16, 6, 27) :: (1, 27, 0, 28) :: (0, 28, 1, 400) :: (0, 27, 13, 3) :: (1, 16, 5, 25) :: (1, 25, 0, 26) :: (0, 26, 1, 400) :: (0, 25, 13, 3) :: (1, 16, 3, 23) :: (1, 23, 0, 24) :: (0, 24, 1, 400) :: (0, 23, 13, 3) :: (1, 16, 2, 21) :: (1, 21, 0, 22) :: (0, 22, 1, 400) :: (0, 21, 13, 3) :: (1, 16, 1, 19) :: (1, 19, 0, 20) :: (0, 20, 1, 400) :: (0, 19, 13, 3) :: (1, 16, 0, 17) :: (1, 17, 0, 18) :: (0, 18, 1, 400) :: (0, 17, 13, 3) :: (0, 16, 11, 7) :: (1, 1, 6, 14) :: zE6
theorem nE7 : nD zE7 = 30 := by decide +kernel
theorem g8_88 (L : Nat) (xs : Nat → Int32) : zev zP 93 88 [some (zR 1), none] [zR 14, zR 1] (zA L xs zE6) = zev zP 93 102 [some (zR 1), none] [zR 16, zR 1] (zA L xs zE7) := by
  rw [i93_88]
  simp only [nE6, zA_new, zA_ref, zA_n, nD_0, nD_1, Nat.reduceAdd]
  rw [zck_t (by (try simp only [zA_r, zA_k]); decide +kernel)]
  rw [zck_t (by (try simp only [zA_r, zA_k]); decide +kernel)]
  rw [r2 _ _ _ 16 16 808 808 rfl (by decide) ⟨by decide, by decide⟩ (by decide +kernel) (by decide +kernel), zcx_i, zput_n]
  (try simp only [nE6, nD_0, nD_1, Nat.reduceAdd])
  rfl
def zE8 : List zOp := (2, 44, 2, 1) :: (1, 31, 4, 44) :: (1, 44, 0, 45) :: (0, 45, 1, 808) :: (0, 44, 13, 3) :: (1, 31, 6, 42) :: (1, 42, 0, 43) :: (0, 43, 1, 400) :: (0, 42, 13, 3) :: (1, 31, 5, 40) :: (1, 40, 0, 41) :: (0, 41, 1, 400) :: (0, 40, 13, 3) :: (1, 31, 3, 38) :: (1, 38, 0, 39) :: (0, 39, 1, 400) :: (0, 38, 13, 3) :: (1, 31, 2, 36) :: (1, 36, 0, 37) :: (0, 37, 1, 400) :: (0, 36, 13, 3) :: (1, 31, 1, 34) :: (1, 34, 0, 35) :: (0, 35, 1, 400) :: (0, 34, 13, 3) :: (1, 31, 0, 32) :: (1, 32, 0, 33) :: (0, 33, 1, 400) :: (0, 32, 13, 3) :: (0, 31, 11, 7) :: (1, 1, 7, 16) :: zE7
theorem nE8 : nD zE8 = 45 := by decide +kernel
theorem g8_102 (L : Nat) (xs : Nat → Int32) : zev zP 93 102 [some (zR 1), none] [zR 16, zR 1] (zA L xs zE7) = zev zP 93 116 [some (zR 1), none] [zR 31, zR 1] (zA L xs zE8) := by
  rw [i93_102]
  simp only [nE7, zA_new, zA_ref, zA_n, nD_0, nD_1, Nat.reduceAdd]
  rw [zck_t (by (try simp only [zA_r, zA_k]); decide +kernel)]
  rw [zck_t (by (try simp only [zA_r, zA_k]); decide +kernel)]
  rw [r2 _ _ _ 31 31 808 808 rfl (by decide) ⟨by decide, by decide⟩ (by decide +kernel) (by decide +kernel), zcx_i, zput_n]
  (try simp only [nE7, nD_0, nD_1, Nat.reduceAdd])
  rfl
def zE9 : List zOp := (2, 59, 2, 1) :: (1, 46, 4, 59) :: (1, 59, 0, 60) :: (0, 60, 1, 808) :: (0, 59, 13, 3) :: (1, 46, 6, 57) :: (1, 57, 0, 58) :: (0, 58, 1, 400) :: (0, 57, 13, 3) :: (1, 46, 5, 55) :: (1, 55, 0, 56) :: (0, 56, 1, 400) :: (0, 55, 13, 3) :: (1, 46, 3, 53) :: (1, 53, 0, 54) :: (0, 54, 1, 400) :: (0, 53, 13, 3) :: (1, 46, 2, 51) :: (1, 51, 0, 52) :: (0, 52, 1, 400) :: (0, 51, 13, 3) :: (1, 46, 1, 49) :: (1, 49, 0, 50) :: (0, 50, 1, 400) :: (0, 49, 13, 3) :: (1, 46, 0, 47) :: (1, 47, 0, 48) :: (0, 48, 1, 400) :: (0, 47, 13, 3) :: (0, 46, 11, 7) :: (1, 1, 8, 31) :: zE8
theorem nE9 : nD zE9 = 60 := by decide +kernel
theorem g8_116 (L : Nat) (xs : Nat → Int32) : zev zP 93 116 [some (zR 1), none] [zR 31, zR 1] (zA L xs zE8) = zev zP 93 130 [some (zR 1), none] [zR 46, zR 1] (zA L xs zE9) := by
  rw [i93_116]
  simp only [nE8, zA_new, zA_ref, zA_n, nD_0, nD_1, Nat.reduceAdd]
  rw [zck_t (by (try simp only [zA_r, zA_k]); decide +kernel)]
  rw [zck_t (by (try simp only [zA_r, zA_k]); decide +kernel)]
  rw [r2 _ _ _ 46 46 808 808 rfl (by decide) ⟨by decide, by decide⟩ (by decide +kernel) (by decide +kernel), zcx_i, zput_n]
  (try simp only [nE8, nD_0, nD_1, Nat.reduceAdd])
  rfl
def zE10 : List zOp := (1, 1, 9, 46) :: zE9
theorem nE10 : nD zE10 = 60 := by decide +kernel
theorem g8_130 (L : Nat) (xs : Nat → Int32) : zev zP 93 130 [some (zR 1), none] [zR 46, zR 1] (zA L xs zE9) = zev zP 93 135 [some (zR 1), some (zI (oI 0))] [] (zA L xs zE10) := by
  rw [i93_130]
  simp only [nE9, zA_new, zA_ref, zA_n, nD_0, nD_1, Nat.reduceAdd]
  rw [zck_t (by (try simp only [zA_r, zA_k]); decide +kernel)]
  rfl
def zE11 : List zOp := (2, 74, 2, 1) :: (1, 61, 4, 74) :: (1, 74, 0, 75) :: (0, 75, 1, 400) :: (0, 74, 13, 3) :: (1, 61, 6, 72) :: (1, 72, 0, 73) :: (0, 73, 1, 400) :: (0, 72, 13, 3) :: (1, 61, 5, 70) :: (1, 70, 0, 71) :: (0, 71, 1, 400) :: (0, 70, 13, 3) :: (1, 61, 3, 68) :: (1, 68, 0, 69) :: (0, 69, 1, 400) :: (0, 68, 13, 3) :: (1, 61, 2, 66) :: (1, 66, 0, 67) :: (0, 67, 1, 400) :: (0, 66, 13, 3) :: (1, 61, 1, 64) :: (1, 64, 0, 65) :: (0, 65, 1, 400) :: (0, 64, 13, 3) :: (1, 61, 0, 62) :: (1, 62, 0, 63) :: (0, 63, 1, 400) :: (0, 62, 13, 3) :: (0, 61, 11, 7) :: zE10
theorem nE11 : nD zE11 = 75 := by decide +kernel
theorem g8_L0 (L : Nat) (xs : Nat → Int32) : zev zP 93 135 [some (zR 1), some (zI (oI 0))] [] (zA L xs zE10) = zev zP 93 159 [some (zR 1), some (zI (oI 0))] [zR 61, zI (oI 0), zR 8] (zA L xs zE11) := by
  rw [i93_135]
  simp only [nE10, zA_new, zA_ref, zA_n, nD_0, nD_1, Nat.reduceAdd]
  rw [zck_t (by (try simp only [zA_r, zA_k]); decide +kernel)]
  rw [zck_t (by (try simp only [zA_r, zA_k]); decide +kernel)]
  rw [if_neg (by simp only [zA_r, zA_k]; decide +kernel)]
  rw [zck_t (by (try simp only [zA_r, zA_k]); decide +kernel), zck_t (by (try simp only [zA_r, zA_k]); decide +kernel)]
  rw [zA_r, show rD zE10 1 3 = 8 from by decide +kernel]
  rw [r2 _ _ _ 61 61 400 400 rfl (by decide) ⟨by decide, by decide⟩ (by decide +kernel) (by decide +kernel), zcx_i, zput_n]
  (try simp only [nE10, nD_0, nD_1, Nat.reduceAdd])
  rfl
def zE12 : List zOp := (1, 8, 0, 61) :: zE11
theorem nE12 : nD zE12 = 75 := by decide +kernel
theorem g8_S0 (L : Nat) (xs : Nat → Int32) : zev zP 93 159 [some (zR 1), some (zI (oI 0))] [zR 61, zI (oI 0), zR 8] (zA L xs zE11) = zev zP 93 135 [some (zR 1), some (zI (oI 1))] [] (zA L xs zE12) := by
  rw [i93_159]
  simp only [oI_add, Int.reduceAdd, show nN (oI 0) = 0 from rfl, nE11, zA_new, zA_ref, zA_n, nD_0, nD_1, Nat.reduceAdd]
  rw [zck_t (by (try simp only [zA_r, zA_k]); decide +kernel)]
  rfl
def zE13 : List zOp := (2, 89, 2, 1) :: (1, 76, 4, 89) :: (1, 89, 0, 90) :: (0, 90, 1, 400) :: (0, 89, 13, 3) :: (1, 76, 6, 87) :: (1, 87, 0, 88) :: (0, 88, 1, 400) :: (0, 87, 13, 3) :: (1, 76, 5, 85) :: (1, 85, 0, 86) :: (0, 86, 1, 400) :: (0, 85, 13, 3) :: (1, 76, 3, 83) :: (1, 83, 0, 84) :: (0, 84, 1, 400) :: (0, 83, 13, 3) :: (1, 76, 2, 81) :: (1, 81, 0, 82) :: (0, 82, 1, 400) :: (0, 81, 13, 3) :: (1, 76, 1, 79) :: (1, 79, 0, 80) :: (0, 80, 1, 400) :: (0, 79, 13, 3) :: (1, 76, 0, 77) :: (1, 77, 0, 78) :: (0, 78, 1, 400) :: (0, 77, 13, 3) :: (0, 76, 11, 7) :: zE12
theorem nE13 : nD zE13 = 90 := by decide +kernel
theorem g8_L1 (L : Nat) (xs : Nat → Int32) : zev zP 93 135 [some (zR 1), some (zI (oI 1))] [] (zA L xs zE12) = zev zP 93 159 [some (zR 1), some (zI (oI 1))] [zR 76, zI (oI 1), zR 8] (zA L xs zE13) := by
  rw [i93_135]
  simp only [nE12, zA_new, zA_ref, zA_n, nD_0, nD_1, Nat.reduceAdd]
  rw [zck_t (by (try simp only [zA_r, zA_k]); decide +kernel)]
  rw [zck_t (by (try simp only [zA_r, zA_k]); decide +kernel)]
  rw [if_neg (by simp only [zA_r, zA_k]; decide +kernel)]
  rw [zck_t (by (try simp only [zA_r, zA_k]); decide +kernel), zck_t (by (try simp only [zA_r, zA_k]); decide +kernel)]
  rw [zA_r, show rD zE12 1 3 = 8 from by decide +kernel]
  rw [r2 _ _ _ 76 76 400 400 rfl (by decide) ⟨by decide, by decide⟩ (by decide +kernel) (by decide +kernel), zcx_i, zput_n]
  (try simp only [nE12, nD_0, nD_1, Nat.reduceAdd])
  rfl
def zE14 : List zOp := (1, 8, 1, 76) :: zE13
theorem nE14 : nD zE14 = 90 := by decide +kernel
theorem g8_S1 (L : Nat) (xs : Nat → Int32) : zev zP 93 159 [some (zR 1), some (zI (oI 1))] [zR 76, zI (oI 1), zR 8] (zA L xs zE13) = zev zP 93 135 [some (zR 1), some (zI (oI 2))] [] (zA L xs zE14) := by
  rw [i93_159]
  simp only [oI_add, Int.reduceAdd, show nN (oI 1) = 1 from rfl, nE13, zA_new, zA_ref, zA_n, nD_0, nD_1, Nat.reduceAdd]
  rw [zck_t (by (try simp only [zA_r, zA_k]); decide +kernel)]
  rfl
def zE15 : List zOp := (2, 104, 2, 1) :: (1, 91, 4, 104) :: (1, 104, 0, 105) :: (0, 105, 1, 400) :: (0, 104, 13, 3) :: (1, 91, 6, 102) :: (1, 102, 0, 103) :: (0, 103, 1, 400) :: (0, 102, 13, 3) :: (1, 91, 5, 100) :: (1, 100, 0, 101) :: (0, 101, 1, 400) :: (0, 100, 13, 3) :: (1, 91, 3, 98) :: (1, 98, 0, 99) :: (0, 99, 1, 400) :: (0, 98, 13, 3) :: (1, 91, 2, 96) :: (1, 96, 0, 97) :: (0, 97, 1, 400) :: (0, 96, 13, 3) :: (1, 91, 1, 94) :: (1, 94, 0, 95) :: (0, 95, 1, 400) :: (0, 94, 13, 3) :: (1, 91, 0, 92) :: (1, 92, 0, 93) :: (0, 93, 1, 400) :: (0, 92, 13, 3) :: (0, 91, 11, 7) :: zE14
theorem nE15 : nD zE15 = 105 := by decide +kernel
theorem g8_L2 (L : Nat) (xs : Nat → Int32) : zev zP 93 135 [some (zR 1), some (zI (oI 2))] [] (zA L xs zE14) = zev zP 93 159 [some (zR 1), some (zI (oI 2))] [zR 91, zI (oI 2), zR 8] (zA L xs zE15) := by
  rw [i93_135]
  simp only [nE14, zA_new, zA_ref, zA_n, nD_0, nD_1, Nat.reduceAdd]
  rw [zck_t (by (try simp only [zA_r, zA_k]); decide +kernel)]
  rw [zck_t (by (try simp only [zA_r, zA_k]); decide +kernel)]
  rw [if_neg (by simp only [zA_r, zA_k]; decide +kernel)]
  rw [zck_t (by (try simp only [zA_r, zA_k]); decide +kernel), zck_t (by (try simp only [zA_r, zA_k]); decide +kernel)]
  rw [zA_r, show rD zE14 1 3 = 8 from by decide +kernel]
  rw [r2 _ _ _ 91 91 400 400 rfl (by decide) ⟨by decide, by decide⟩ (by decide +kernel) (by decide +kernel), zcx_i, zput_n]
  (try simp only [nE14, nD_0, nD_1, Nat.reduceAdd])
  rfl
def zE16 : List zOp := (1, 8, 2, 91) :: zE15
theorem nE16 : nD zE16 = 105 := by decide +kernel
theorem g8_S2 (L : Nat) (xs : Nat → Int32) : zev zP 93 159 [some (zR 1), some (zI (oI 2))] [zR 91, zI (oI 2), zR 8] (zA L xs zE15) = zev zP 93 135 [some (zR 1), some (zI (oI 3))] [] (zA L xs zE16) := by
  rw [i93_159]
  simp only [oI_add, Int.reduceAdd, show nN (oI 2) = 2 from rfl, nE15, zA_new, zA_ref, zA_n, nD_0, nD_1, Nat.reduceAdd]
  rw [zck_t (by (try simp only [zA_r, zA_k]); decide +kernel)]
  rfl
def zE17 : List zOp := (2, 119, 2, 1) :: (1, 106, 4, 119) :: (1, 119, 0, 120) :: (0, 120, 1, 400) :: (0, 119, 13, 3) :: (1, 106, 6, 117) :: (1, 117, 0, 118) :: (0, 118, 1, 400) :: (0, 117, 13, 3) :: (1, 106, 5, 115) :: (1, 115, 0, 116) :: (0, 116, 1, 400) :: (0, 115, 13, 3) :: (1, 106, 3, 113) :: (1, 113, 0, 114) :: (0, 114, 1, 400) :: (0, 113, 13, 3) :: (1, 106, 2, 111) :: (1, 111, 0, 112) :: (0, 112, 1, 400) :: (0, 111, 13, 3) :: (1, 106, 1, 109) :: (1, 109, 0, 110) :: (0, 110, 1, 400) :: (0, 109, 13, 3) :: (1, 106, 0, 107) :: (1, 107, 0, 108) :: (0, 108, 1, 400) :: (0, 107, 13, 3) :: (0, 106, 11, 7) :: zE16
theorem nE17 : nD zE17 = 120 := by decide +kernel
theorem g8_L3 (L : Nat) (xs : Nat → Int32) : zev zP 93 135 [some (zR 1), some (zI (oI 3))] [] (zA L xs zE16) = zev zP 93 159 [some (zR 1), some (zI (oI 3))] [zR 106, zI (oI 3), zR 8] (zA L xs zE17) := by
  rw [i93_135]
  simp only [nE16, zA_new, zA_ref, zA_n, nD_0, nD_1, Nat.reduceAdd]
  rw [zck_t (by (try simp only [zA_r, zA_k]); decide +kernel)]
  rw [zck_t (by (try simp only [zA_r, zA_k]); decide +kernel)]
  rw [if_neg (by simp only [zA_r, zA_k]; decide +kernel)]
  rw [zck_t (by (try simp only [zA_r, zA_k]); decide +kernel), zck_t (by (try simp only [zA_r, zA_k]); decide +kernel)]
  rw [zA_r, show rD zE16 1 3 = 8 from by decide +kernel]
  rw [r2 _ _ _ 106 106 400 400 rfl (by decide) ⟨by decide, by decide⟩ (by decide +kernel) (by decide +kernel), zcx_i, zput_n]
  (try simp only [nE16, nD_0, nD_1, Nat.reduceAdd])
  rfl
def zE18 : List zOp := (1, 8, 3, 106) :: zE17
theorem nE18 : nD zE18 = 120 := by decide +kernel
theorem g8_S3 (L : Nat) (xs : Nat → Int32) : zev zP 93 159 [some (zR 1), some (zI (oI 3))] [zR 106, zI (oI 3), zR 8] (zA L xs zE17) = zev zP 93 135 [some (zR 1), some (zI (oI 4))] [] (zA L xs zE18) := by
  rw [i93_159]
  simp only [oI_add, Int.reduceAdd, show nN (oI 3) = 3 from rfl, nE17, zA_new, zA_ref, zA_n, nD_0, nD_1, Nat.reduceAdd]
  rw [zck_t (by (try simp only [zA_r, zA_k]); decide +kernel)]
  rfl
def zE19 : List zOp := (2, 134, 2, 1) :: (1, 121, 4, 134) :: (1, 134, 0, 135) :: (0, 135, 1, 400) :: (0, 134, 13, 3) :: (1, 121, 6, 132) :: (1, 132, 0, 133) :: (0, 133, 1, 400) :: (0, 132, 13, 3) :: (1, 121, 5, 130) :: (1, 130, 0, 131) :: (0, 131, 1, 400) :: (0, 130, 13, 3) :: (1, 121, 3, 128) :: (1, 128, 0, 129) :: (0, 129, 1, 400) :: (0, 128, 13, 3) :: (1, 121, 2, 126) :: (1, 126, 0, 127) :: (0, 127, 1, 400) :: (0, 126, 13, 3) :: (1, 121, 1, 124) :: (1, 124, 0, 125) :: (0, 125, 1, 400) :: (0, 124, 13, 3) :: (1, 121, 0, 122) :: (1, 122, 0, 123) :: (0, 123, 1, 400) :: (0, 122, 13, 3) :: (0, 121, 11, 7) :: zE18
theorem nE19 : nD zE19 = 135 := by decide +kernel
theorem g8_L4 (L : Nat) (xs : Nat → Int32) : zev zP 93 135 [some (zR 1), some (zI (oI 4))] [] (zA L xs zE18) = zev zP 93 159 [some (zR 1), some (zI (oI 4))] [zR 121, zI (oI 4), zR 8] (zA L xs zE19) := by
  rw [i93_135]
  simp only [nE18, zA_new, zA_ref, zA_n, nD_0, nD_1, Nat.reduceAdd]
  rw [zck_t (by (try simp only [zA_r, zA_k]); decide +kernel)]
  rw [zck_t (by (try simp only [zA_r, zA_k]); decide +kernel)]
  rw [if_neg (by simp only [zA_r, zA_k]; decide +kernel)]
  rw [zck_t (by (try simp only [zA_r, zA_k]); decide +kernel), zck_t (by (try simp only [zA_r, zA_k]); decide +kernel)]
  rw [zA_r, show rD zE18 1 3 = 8 from by decide +kernel]
  rw [r2 _ _ _ 121 121 400 400 rfl (by decide) ⟨by decide, by decide⟩ (by decide +kernel) (by decide +kernel), zcx_i, zput_n]
  (try simp only [nE18, nD_0, nD_1, Nat.reduceAdd])
  rfl
def zE20 : List zOp := (1, 8, 4, 121) :: zE19
theorem nE20 : nD zE20 = 135 := by decide +kernel
theorem g8_S4 (L : Nat) (xs : Nat → Int32) : zev zP 93 159 [some (zR 1), some (zI (oI 4))] [zR 121, zI (oI 4), zR 8] (zA L xs zE19) = zev zP 93 135 [some (zR 1), some (zI (oI 5))] [] (zA L xs zE20) := by
  rw [i93_159]
  simp only [oI_add, Int.reduceAdd, show nN (oI 4) = 4 from rfl, nE19, zA_new, zA_ref, zA_n, nD_0, nD_1, Nat.reduceAdd]
  rw [zck_t (by (try simp only [zA_r, zA_k]); decide +kernel)]
  rfl
def zE21 : List zOp := (2, 149, 2, 1) :: (1, 136, 4, 149) :: (1, 149, 0, 150) :: (0, 150, 1, 400) :: (0, 149, 13, 3) :: (1, 136, 6, 147) :: (1, 147, 0, 148) :: (0, 148, 1, 400) :: (0, 147, 13, 3) :: (1, 136, 5, 145) :: (1, 145, 0, 146) :: (0, 146, 1, 400) :: (0, 145, 13, 3) :: (1, 136, 3, 143) :: (1, 143, 0, 144) :: (0, 144, 1, 400) :: (0, 143, 13, 3) :: (1, 136, 2, 141) :: (1, 141, 0, 142) :: (0, 142, 1, 400) :: (0, 141, 13, 3) :: (1, 136, 1, 139) :: (1, 139, 0, 140) :: (0, 140, 1, 400) :: (0, 139, 13, 3) :: (1, 136, 0, 137) :: (1, 137, 0, 138) :: (0, 138, 1, 400) :: (0, 137, 13, 3) :: (0, 136, 11, 7) :: zE20
theorem nE21 : nD zE21 = 150 := by decide +kernel
theorem g8_L5 (L : Nat) (xs : Nat → Int32) : zev zP 93 135 [some (zR 1), some (zI (oI 5))] [] (zA L xs zE20) = zev zP 93 159 [some (zR 1), some (zI (oI 5))] [zR 136, zI (oI 5), zR 8] (zA L xs zE21) := by
  rw [i93_135]
  simp only [nE20, zA_new, zA_ref, zA_n, nD_0, nD_1, Nat.reduceAdd]
  rw [zck_t (by (try simp only [zA_r, zA_k]); decide +kernel)]
  rw [zck_t (by (try simp only [zA_r, zA_k]); decide +kernel)]
  rw [if_neg (by simp only [zA_r, zA_k]; decide +kernel)]
  rw [zck_t (by (try simp only [zA_r, zA_k]); decide +kernel), zck_t (by (try simp only [zA_r, zA_k]); decide +kernel)]
  rw [zA_r, show rD zE20 1 3 = 8 from by decide +kernel]
  rw [r2 _ _ _ 136 136 400 400 rfl (by decide) ⟨by decide, by decide⟩ (by decide +kernel) (by decide +kernel), zcx_i, zput_n]
  (try simp only [nE20, nD_0, nD_1, Nat.reduceAdd])
  rfl
def zE22 : List zOp := (1, 8, 5, 136) :: zE21
theorem nE22 : nD zE22 = 150 := by decide +kernel
theorem g8_S5 (L : Nat) (xs : Nat → Int32) : zev zP 93 159 [some (zR 1), some (zI (oI 5))] [zR 136, zI (oI 5), zR 8] (zA L xs zE21) = zev zP 93 135 [some (zR 1), some (zI (oI 6))] [] (zA L xs zE22) := by
  rw [i93_159]
  simp only [oI_add, Int.reduceAdd, show nN (oI 5) = 5 from rfl, nE21, zA_new, zA_ref, zA_n, nD_0, nD_1, Nat.reduceAdd]
  rw [zck_t (by (try simp only [zA_r, zA_k]); decide +kernel)]
  rfl
def zE23 : List zOp := (2, 164, 2, 1) :: (1, 151, 4, 164) :: (1, 164, 0, 165) :: (0, 165, 1, 400) :: (0, 164, 13, 3) :: (1, 151, 6, 162) :: (1, 162, 0, 163) :: (0, 163, 1, 400) :: (0, 162, 13, 3) :: (1, 151, 5, 160) :: (1, 160, 0, 161) :: (0, 161, 1, 400) :: (0, 160, 13, 3) :: (1, 151, 3, 158) :: (1, 158, 0, 159) :: (0, 159, 1, 400) :: (0, 158, 13, 3) :: (1, 151, 2, 156) :: (1, 156, 0, 157) :: (0, 157, 1, 400) :: (0, 156, 13, 3) :: (1, 151, 1, 154) :: (1, 154, 0, 155) :: (0, 155, 1, 400) :: (0, 154, 13, 3) :: (1, 151, 0, 152) :: (1, 152, 0, 153) :: (0, 153, 1, 400) :: (0, 152, 13, 3) :: (0, 151, 11, 7) :: zE22
theorem nE23 : nD zE23 = 165 := by decide +kernel
theorem g8_L6 (L : Nat) (xs : Nat → Int32) : zev zP 93 135 [some (zR 1), some (zI (oI 6))] [] (zA L xs zE22) = zev zP 93 159 [some (zR 1), some (zI (oI 6))] [zR 151, zI (oI 6), zR 8] (zA L xs zE23) := by
  rw [i93_135]
  simp only [nE22, zA_new, zA_ref, zA_n, nD_0, nD_1, Nat.reduceAdd]
  rw [zck_t (by (try simp only [zA_r, zA_k]); decide +kernel)]
  rw [zck_t (by (try simp only [zA_r, zA_k]); decide +kernel)]
  rw [if_neg (by simp only [zA_r, zA_k]; decide +kernel)]
  rw [zck_t (by (try simp only [zA_r, zA_k]); decide +kernel), zck_t (by (try simp only [zA_r, zA_k]); decide +kernel)]
  rw [zA_r, show rD zE22 1 3 = 8 from by decide +kernel]
  rw [r2 _ _ _ 151 151 400 400 rfl (by decide) ⟨by decide, by decide⟩ (by decide +kernel) (by decide +kernel), zcx_i, zput_n]
  (try simp only [nE22, nD_0, nD_1, Nat.reduceAdd])
  rfl
def zE24 : List zOp := (1, 8, 6, 151) :: zE23
theorem nE24 : nD zE24 = 165 := by decide +kernel
theorem g8_S6 (L : Nat) (xs : Nat → Int32) : zev zP 93 159 [some (zR 1), some (zI (oI 6))] [zR 151, zI (oI 6), zR 8] (zA L xs zE23) = zev zP 93 135 [some (zR 1), some (zI (oI 7))] [] (zA L xs zE24) := by
  rw [i93_159]
  simp only [oI_add, Int.reduceAdd, show nN (oI 6) = 6 from rfl, nE23, zA_new, zA_ref, zA_n, nD_0, nD_1, Nat.reduceAdd]
  rw [zck_t (by (try simp only [zA_r, zA_k]); decide +kernel)]
  rfl
def zE25 : List zOp := (2, 179, 2, 1) :: (1, 166, 4, 179) :: (1, 179, 0, 180) :: (0, 180, 1, 400) :: (0, 179, 13, 3) :: (1, 166, 6, 177) :: (1, 177, 0, 178) :: (0, 178, 1, 400) :: (0, 177, 13, 3) :: (1, 166, 5, 175) :: (1, 175, 0, 176) :: (0, 176, 1, 400) :: (0, 175, 13, 3) :: (1, 166, 3, 173) :: (1, 173, 0, 174) :: (0, 174, 1, 400) :: (0, 173, 13, 3) :: (1, 166, 2, 171) :: (1, 171, 0, 172) :: (0, 172, 1, 400) :: (0, 171, 13, 3) :: (1, 166, 1, 169) :: (1, 169, 0, 170) :: (0, 170, 1, 400) :: (0, 169, 13, 3) :: (1, 166, 0, 167) :: (1, 167, 0, 168) :: (0, 168, 1, 400) :: (0, 167, 13, 3) :: (0, 166, 11, 7) :: zE24
theorem nE25 : nD zE25 = 180 := by decide +kernel
theorem g8_L7 (L : Nat) (xs : Nat → Int32) : zev zP 93 135 [some (zR 1), some (zI (oI 7))] [] (zA L xs zE24) = zev zP 93 159 [some (zR 1), some (zI (oI 7))] [zR 166, zI (oI 7), zR 8] (zA L xs zE25) := by
  rw [i93_135]
  simp only [nE24, zA_new, zA_ref, zA_n, nD_0, nD_1, Nat.reduceAdd]
  rw [zck_t (by (try simp only [zA_r, zA_k]); decide +kernel)]
  rw [zck_t (by (try simp only [zA_r, zA_k]); decide +kernel)]
  rw [if_neg (by simp only [zA_r, zA_k]; decide +kernel)]
  rw [zck_t (by (try simp only [zA_r, zA_k]); decide +kernel), zck_t (by (try simp only [zA_r, zA_k]); decide +kernel)]
  rw [zA_r, show rD zE24 1 3 = 8 from by decide +kernel]
  rw [r2 _ _ _ 166 166 400 400 rfl (by decide) ⟨by decide, by decide⟩ (by decide +kernel) (by decide +kernel), zcx_i, zput_n]
  (try simp only [nE24, nD_0, nD_1, Nat.reduceAdd])
  rfl
def zE26 : List zOp := (1, 8, 7, 166) :: zE25
theorem nE26 : nD zE26 = 180 := by decide +kernel
theorem g8_S7 (L : Nat) (xs : Nat → Int32) : zev zP 93 159 [some (zR 1), some (zI (oI 7))] [zR 166, zI (oI 7), zR 8] (zA L xs zE25) = zev zP 93 135 [some (zR 1), some (zI (oI 8))] [] (zA L xs zE26) := by
  rw [i93_159]
  simp only [oI_add, Int.reduceAdd, show nN (oI 7) = 7 from rfl, nE25, zA_new, zA_ref, zA_n, nD_0, nD_1, Nat.reduceAdd]
  rw [zck_t (by (try simp only [zA_r, zA_k]); decide +kernel)]
  rfl
theorem g8_end (L : Nat) (xs : Nat → Int32) : zev zP 93 135 [some (zR 1), some (zI (oI 8))] [] (zA L xs zE26) = some (.inl none, zA L xs zE26) := by
  rw [i93_135, zck_t (by (try simp only [zA_r, zA_k]); decide +kernel), zck_t (by (try simp only [zA_r, zA_k]); decide +kernel), if_pos (by simp only [zA_r, zA_k]; decide +kernel)]
theorem g8 (L : Nat) (xs : Nat → Int32) : zcl zP 93 [zR 1] (zA L xs zE0) = some (.inl none, zA L xs zE26) := by
  rw [g8_0, g8_15, g8_29, g8_43, g8_63, g8_77, g8_88, g8_102, g8_116, g8_130, g8_L0, g8_S0, g8_L1, g8_S1, g8_L2, g8_S2, g8_L3, g8_S3, g8_L4, g8_S4, g8_L5, g8_S5, g8_L6, g8_S6, g8_L7, g8_S7, g8_end]
def zE27 : List zOp := (0, 181, 15, 17) :: zE26
theorem nE27 : nD zE27 = 181 := by decide +kernel
def zE28 : List zOp := (1, 181, 14, 192) :: (0, 192, 2, 20) :: (1, 181, 13, 191) :: (0, 191, 2, 1500) :: (1, 181, 12, 190) :: (0, 190, 2, 1500) :: (1, 181, 11, 189) :: (0, 189, 3, 7) :: (1, 181, 10, 188) :: (0, 188, 2, 7) :: (1, 181, 9, 187) :: (0, 187, 2, 10500) :: (1, 181, 8, 186) :: (0, 186, 2, 1500) :: (1, 181, 4, 185) :: (0, 185, 2, 98) :: (1, 181, 3, 184) :: (0, 184, 2, 98) :: (1, 181, 2, 183) :: (0, 183, 2, 14) :: (1, 181, 1, 182) :: (0, 182, 2, 21000) :: zE27
theorem nE28 : nD zE28 = 192 := by decide +kernel
theorem g9 (L : Nat) (xs : Nat → Int32) : zcl zP 118 [zR 181] (zA L xs zE27) = some (.inl none, zA L xs zE28) := by
  rw [i118_0, zck_t ⟨by decide, by decide⟩]
  simp only [show nN (oI 7) = 7 from rfl, show nN (oI 14) = 14 from rfl, show nN (oI 20) = 20 from rfl, show nN (oI 98) = 98 from rfl, show nN (oI 1500) = 1500 from rfl, show nN (oI 10500) = 10500 from rfl, show nN (oI 21000) = 21000 from rfl, nE27, zA_new, zA_ref, zA_n, nD_0, nD_1, Nat.reduceAdd]
  rw [zck_t (by decide), zck_t (by (try simp only [zA_r, zA_k]); decide +kernel)]
  rw [zck_t (by decide), zck_t (by (try simp only [zA_r, zA_k]); decide +kernel)]
  rw [zck_t (by decide), zck_t (by (try simp only [zA_r, zA_k]); decide +kernel)]
  rw [zck_t (by decide), zck_t (by (try simp only [zA_r, zA_k]); decide +kernel)]
  rw [zck_t (by decide), zck_t (by (try simp only [zA_r, zA_k]); decide +kernel)]
  rw [zck_t (by decide), zck_t (by (try simp only [zA_r, zA_k]); decide +kernel)]
  rw [zck_t (by decide), zck_t (by (try simp only [zA_r, zA_k]); decide +kernel)]
  rw [zck_t (by decide), zck_t (by (try simp only [zA_r, zA_k]); decide +kernel)]
  rw [zck_t (by decide), zck_t (by (try simp only [zA_r, zA_k]); decide +kernel)]
  rw [zck_t (by decide), zck_t (by (try simp only [zA_r, zA_k]); decide +kernel)]
  rw [zck_t (by decide), zck_t (by (try simp only [zA_r, zA_k]); decide +kernel)]
  rfl
def zE29 : List zOp := (0, 193, 4, 1) :: zE28
theorem nE29 : nD zE29 = 193 := by decide +kernel
theorem g_all (L : Nat) (xs : Nat → Int32) : zev zP 225 0 [some (zX 0), none, none, none, none, none, none] [] (zi0 L xs) = zev zP 225 23 [some (zX 0), some (zR 1), some (zR 181), some (zR 193), some (zI (oI 0)), none, none] [] (zA L xs zE29) := by
  have h0 : zi0 L xs = zA L xs [] := rfl
  have h1 : nD ([] : List zOp) = 0 := rfl
  rw [h0, i225_0]
  simp only [zA_new, zA_n, h1, Nat.reduceAdd]
  rw [zck_t (by rw [zA_k]; decide +kernel), show ([(0, 1, 14, 12)] : List zOp) = zE0 from rfl, g8, zcx_i, zput_n, i225_7]
  simp only [zA_new, zA_n, nE26, Nat.reduceAdd]
  rw [zck_t (by rw [zA_k]; decide +kernel), show ((0, 181, 15, 17) :: zE26 : List zOp) = zE27 from rfl, g9, zcx_i, zput_n, i225_15]
  simp only [show nN (oI 1) = 1 from rfl, zA_new, zA_n, nE28, Nat.reduceAdd]
  rw [zck_t (by decide)]
  rfl
