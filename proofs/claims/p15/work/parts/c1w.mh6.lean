set_option maxRecDepth 16384
/-! groups as they are written: both ways the same -/
theorem dig16 (v : Int) (h : 0 ≤ v ∧ v ≤ 65535) (n : Nat) (hn : n ≤ 3) : wand (wshr v (4 * (n : Int))) 15 = v / (16 ^ n : Int) % 16 := by
  have key : ∀ k : Nat, k ≤ 12 → ((oI v).toBitVec.sshiftRight k &&& 15#32).toNat = v.toNat / 2 ^ k % 16 := fun k hk => by
    have tn : (oI v).toBitVec.toNat = v.toNat := by
      show (BitVec.ofInt 32 v).toNat = v.toNat
      rw [BitVec.toNat_ofInt]; omega
    have ms : (oI v).toBitVec.msb = false := by
      rw [BitVec.msb_eq_false_iff_two_mul_lt, tn]; omega
    rw [BitVec.toNat_and, BitVec.toNat_sshiftRight_of_msb_false ms, tn, Nat.shiftRight_eq_div_pow]
    exact Nat.and_two_pow_sub_one_eq_mod _ 4
  have fin : ∀ (k : Nat) (x : Int32), k ≤ 12 → x.toBitVec = (oI v).toBitVec.sshiftRight k &&& 15#32 → x.toInt = ((v.toNat / 2 ^ k % 16 : Nat) : Int) := fun k x hk hx => by
    show x.toBitVec.toInt = _
    rw [hx, BitVec.toInt_eq_toNat_cond, if_pos (by rw [key k hk]; omega), key k hk]
  have e : ∀ k : Nat, ((v.toNat / 2 ^ k % 16 : Nat) : Int) = v / (2 ^ k : Nat) % 16 := fun k => by
    rw [Int.natCast_emod, Int.natCast_ediv, Int.toNat_of_nonneg h.1]; rfl
  unfold wand wshr
  rw [oI_self]
  rcases (by omega : n = 0 ∨ n = 1 ∨ n = 2 ∨ n = 3) with w | w | w | w <;> subst w
  · exact (fin 0 _ (by decide) rfl).trans (e 0)
  · exact (fin 4 _ (by decide) rfl).trans (e 4)
  · exact (fin 8 _ (by decide) rfl).trans (e 8)
  · exact (fin 12 _ (by decide) rfl).trans (e 12)
theorem hmg_hxg (v : Int) (h : 0 ≤ v ∧ v ≤ 65535) : hmg v = hxg v := by
  have d0 : wand (wshr v (4 * ((0 : Nat) : Int))) 15 = v % 16 := by rw [dig16 v h 0 (by decide)]; show v / 1 % 16 = _; omega
  have d1 : wand (wshr v (4 * ((1 : Nat) : Int))) 15 = v / 16 % 16 := dig16 v h 1 (by decide)
  have d2 : wand (wshr v (4 * ((2 : Nat) : Int))) 15 = v / 256 % 16 := dig16 v h 2 (by decide)
  have d3 : wand (wshr v (4 * ((3 : Nat) : Int))) 15 = v / 4096 % 16 := dig16 v h 3 (by decide)
  have x1 : ∀ b, hxA v 1 b = [cdl (v % 16)] := fun b => by
    rw [hxA, d0, if_neg (fun w => w.2.2 rfl)]; rfl
  have x2 : ∀ b, hxA v 2 b = if b = 0 ∧ v / 16 % 16 ≤ 0 then [cdl (v % 16)] else [cdl (v / 16 % 16), cdl (v % 16)] := fun b => by
    rw [hxA, d1]
    by_cases c : b = 0 ∧ v / 16 % 16 ≤ 0
    · rw [if_pos ⟨c.1, c.2, by decide⟩, if_pos c, x1]
    · rw [if_neg (fun w => c ⟨w.1, w.2.1⟩), if_neg c, x1]
  have x3 : ∀ b, hxA v 3 b = if b = 0 ∧ v / 256 % 16 ≤ 0 then hxA v 2 0 else cdl (v / 256 % 16) :: hxA v 2 1 := fun b => by
    rw [hxA, d2]
    by_cases c : b = 0 ∧ v / 256 % 16 ≤ 0
    · rw [if_pos ⟨c.1, c.2, by decide⟩, if_pos c]
    · rw [if_neg (fun w => c ⟨w.1, w.2.1⟩), if_neg c]
  have x4 : hxA v 4 0 = if v / 4096 % 16 ≤ 0 then hxA v 3 0 else cdl (v / 4096 % 16) :: hxA v 3 1 := by
    rw [hxA, d3]
    by_cases c : v / 4096 % 16 ≤ 0
    · rw [if_pos ⟨rfl, c, by decide⟩, if_pos c]
    · rw [if_neg (fun w => c w.2.1), if_neg c]
  have m1 : hmA v 1 = [cdl (v % 16)] := by
    show [cdl (v / 1 % 16)] = _
    rw [show v / 1 = v by omega]
  have m2 : hmA v 2 = [cdl (v / 16 % 16), cdl (v % 16)] := by
    show cdl (v / 16 % 16) :: hmA v 1 = _
    rw [m1]
  have m3 : hmA v 3 = [cdl (v / 256 % 16), cdl (v / 16 % 16), cdl (v % 16)] := by
    show cdl (v / 256 % 16) :: hmA v 2 = _
    rw [m2]
  have m4 : hmA v 4 = [cdl (v / 4096 % 16), cdl (v / 256 % 16), cdl (v / 16 % 16), cdl (v % 16)] := by
    show cdl (v / 4096 % 16) :: hmA v 3 = _
    rw [m3]
  unfold hmg hxg
  rw [x4]
  by_cases c1 : v ≤ 4095
  · rw [if_pos c1, if_pos (c := v / 4096 % 16 ≤ 0) (by omega), x3]
    by_cases c2 : v ≤ 255
    · rw [if_pos c2, if_pos (c := (0 : Int) = 0 ∧ v / 256 % 16 ≤ 0) ⟨rfl, by omega⟩, x2]
      by_cases c3 : v ≤ 15
      · rw [if_pos c3, if_pos (c := (0 : Int) = 0 ∧ v / 16 % 16 ≤ 0) ⟨rfl, by omega⟩, m1]
      · rw [if_neg c3, if_neg (c := (0 : Int) = 0 ∧ v / 16 % 16 ≤ 0) (fun w => by have := w.2; omega), m2]
    · rw [if_neg c2, if_neg (c := (0 : Int) = 0 ∧ v / 256 % 16 ≤ 0) (fun w => by have := w.2; omega), x2, if_neg (fun w => by have := w.1; omega), m3]
  · rw [if_neg c1, if_neg (c := v / 4096 % 16 ≤ 0) (by omega), x3, if_neg (fun w => by have := w.1; omega), x2, if_neg (fun w => by have := w.1; omega), m4]
/-- the longest row, found both ways -/
theorem lr_mb (W : Nat → Int) : ∀ (n : Nat) (k b l mb : Int), (zro W mb ≤ 1 → b = 8 ∧ l = 1) → (1 < zro W mb → b = mb ∧ l = zro W mb) → (zro W (mbA W n k mb) ≤ 1 → lrA W n k b l = 8) ∧ (1 < zro W (mbA W n k mb) → lrA W n k b l = mbA W n k mb) := by
  intro n
  induction n with
  | zero => intro k b l mb h1 h2; exact ⟨fun w => (h1 w).1, fun w => (h2 w).1⟩
  | succ n ih =>
    intro k b l mb h1 h2
    rw [mbA, lrA]
    obtain ⟨z, hz⟩ : ∃ z, z = zro W k := ⟨_, rfl⟩
    obtain ⟨y, hy⟩ : ∃ y, y = zro W mb := ⟨_, rfl⟩
    rw [← hz, ← hy]
    rw [← hy] at h1 h2
    by_cases c : y ≤ 1
    · obtain ⟨e1, e2⟩ := h1 c
      by_cases d : z ≤ y
      · rw [if_pos d, if_pos (by omega)]
        exact ih _ _ _ _ (fun _ => ⟨e1, e2⟩) (fun w => by rw [← hy] at w; omega)
      · rw [if_neg d]
        by_cases d2 : z ≤ l
        · rw [if_pos d2]
          exact ih _ _ _ _ (fun _ => ⟨e1, e2⟩) (fun w => by rw [← hz] at w; omega)
        · rw [if_neg d2]
          exact ih _ _ _ _ (fun w => by rw [← hz] at w; omega) (fun _ => ⟨rfl, hz⟩)
    · obtain ⟨e1, e2⟩ := h2 (by omega)
      by_cases d : z ≤ y
      · rw [if_pos d, if_pos (by omega)]
        exact ih _ _ _ _ (fun w => by rw [← hy] at w; omega) (fun _ => ⟨e1, by rw [← hy]; exact e2⟩)
      · rw [if_neg d, if_neg (by omega)]
        exact ih _ _ _ _ (fun w => by rw [← hz] at w; omega) (fun _ => ⟨rfl, hz⟩)
theorem lrw_mb (W : Nat → Int) : (zro W (mbA W 7 1 0) ≤ 1 → lrw W = 8) ∧ (1 < zro W (mbA W 7 1 0) → lrw W = mbA W 7 1 0) := by
  unfold lrw
  rw [show lrA W 8 0 8 1 = if zro W 0 ≤ 1 then lrA W 7 (0 + 1) 8 1 else lrA W 7 (0 + 1) 0 (zro W 0) from rfl, show (0 : Int) + 1 = 1 from rfl]
  by_cases c : zro W 0 ≤ 1
  · rw [if_pos c]; exact lr_mb W 7 1 8 1 0 (fun _ => ⟨rfl, rfl⟩) (fun w => by omega)
  · rw [if_neg c]; exact lr_mb W 7 1 0 (zro W 0) 0 (fun w => absurd w c) (fun _ => ⟨rfl, rfl⟩)
theorem mrb_rwb {W : Nat → Int} {b s g x : Int} (hW : ∀ j, j < 8 → 0 ≤ W j ∧ W j ≤ 65535) (h : (0 < s ∧ g = b ∧ x = b + s) ∨ (s = 0 ∧ g = 8 ∧ x = 8)) : ∀ (n : Nat) (i : Int), 0 ≤ i → i + n ≤ 8 → mrb W b s n i = rwb W g x n i := by
  intro n
  induction n with
  | zero => intro i h0 h1; rfl
  | succ n ih =>
    intro i h0 h1
    rw [mrb, rwb, ih (i + 1) (by omega) (by omega), hmg_hxg _ (hW i.toNat (by omega))]
    congr 1
    rcases h with ⟨s0, hg, hx⟩ | ⟨s0, hg, hx⟩
    · by_cases c : b ≤ i ∧ i < b + s
      · rw [if_pos c]
        by_cases d : i = b
        · rw [if_pos d, if_pos (by omega)]
        · rw [if_neg d, if_neg (by omega), if_neg (by omega)]
      · rw [if_neg c, if_neg (c := i = g) (by omega), if_pos (c := i < g ∨ x ≤ i) (by omega)]
        by_cases d : 0 < i ∧ i ≠ x
        · rw [if_pos d, if_pos ⟨d.1, fun w => d.2 (by omega)⟩]
        · rw [if_neg d, if_neg (fun w => d ⟨w.1, fun q => w.2 ⟨s0, by omega⟩⟩)]
    · rw [if_neg (by omega), if_neg (c := i = g) (by omega), if_pos (c := i < g ∨ x ≤ i) (by omega)]
      by_cases d : 0 < i ∧ i ≠ x
      · rw [if_pos d, if_pos ⟨d.1, fun w => by omega⟩]
      · rw [if_neg d, if_neg (fun w => d ⟨w.1, by omega⟩)]
theorem mh6_rw {W : Nat → Int} (hW : ∀ j, j < 8 → 0 ≤ W j ∧ W j ≤ 65535) : mh6 W = 91 :: (rwb W (lrw W) (lrw W + zro W (lrw W)) 8 0 ++ [93]) := by
  have lm := lrw_mb W
  unfold mh6
  by_cases c : zro W (mbA W 7 1 0) ≤ 1
  · rw [if_pos c, lm.1 c, (zro_st W 8).1 (by decide), mrb_rwb hW (Or.inr ⟨rfl, rfl, rfl⟩) 8 0 (by decide) (by decide)]; rfl
  · rw [if_neg c, lm.2 (by omega), mrb_rwb hW (Or.inl ⟨by omega, rfl, rfl⟩) 8 0 (by decide) (by decide)]
theorem rw_cg {W W' : Nat → Int} (h : ∀ j, j < 8 → W j = W' j) : rwb W (lrw W) (lrw W + zro W (lrw W)) 8 0 = rwb W' (lrw W') (lrw W' + zro W' (lrw W')) 8 0 := by
  have r := lrA_r W 8 0 8 1 (by decide) (by decide)
  have lr : 0 ≤ lrw W := r.1
  rw [← lrw_cg h, ← zro_cg h _ _ rfl lr]
  exact rwb_cg h _ _ 8 0 (by decide) (by decide)
/-- a host written anew, as the class has it, out of the groups -/
theorem rw6_arr {H : List Int} (h : bI (cSix (gl H) 1 (H.length - 1)) = 1) {P : List Int} {g : Int} (k : six6 (gl H) 1 (H.length - 1) P g) (U : Nat → Int) : rw6 H U = 91 :: (rwb (arr P g) (lrw (arr P g)) (lrw (arr P g) + zro (arr P g) (lrw (arr P g))) 8 0 ++ [93]) := by
  unfold rw6
  rw [rw_cg (G6_arr h k U)]
