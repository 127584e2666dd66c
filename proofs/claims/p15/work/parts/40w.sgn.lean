set_option maxRecDepth 16384
/-! over the machine of integers: what each method answers -/
abbrev rI (x : Int) (h : wH) : Option wO := some (.inl (some (wI x)), h)
abbrev rN (h : wH) : Option wO := some (.inl none, h)
theorem wcx_v (v : Option wV) (h : wH) (f : Option wV → wH → Option wO) (g : Nat → wH → Option wO) : wcx (some (.inl v, h)) f g = f v h := rfl
theorem wput_s (x : wV) (s : List wV) : wput (some x) s = x :: s := rfl
theorem wput_n (s : List wV) : wput none s = s := rfl
theorem ite_rI {c : Prop} [Decidable c] (a b : Int) (h : wH) : (if c then rI a h else rI b h) = rI (if c then a else b) h := by split <;> rfl
theorem rI_cg {a b : Int} {h : wH} (e : a = b) : rI a h = rI b h := by rw [e]
theorem S84 (sh : zSh) (x : Int) (V : wSt) : wcl zP 84 [wI x] (sh, V) = rI (pLet x) (sh, V) := by
  rw [w84_0]; unfold pLet; grind
theorem S85 (sh : zSh) (x : Int) (V : wSt) : wcl zP 85 [wI x] (sh, V) = rI (pDig x) (sh, V) := by
  rw [w85_0]; unfold pDig; grind
theorem S86 (sh : zSh) (x : Int) (V : wSt) : wcl zP 86 [wI x] (sh, V) = rI (pFree x) (sh, V) := by
  simp only [w86_0, S84, wcx_v, wput_s, w86_4, S85, w86_11]
  unfold pFree pLet pDig
  grind
theorem S87 (sh : zSh) (x : Int) (V : wSt) : wcl zP 87 [wI x] (sh, V) = rI (pSub x) (sh, V) := by
  simp only [w87_0, w87_1, ite_rI]
  refine rI_cg ?_
  unfold pSub
  (repeat' split) <;> omega
theorem S88 (sh : zSh) (x : Int) (V : wSt) : wcl zP 88 [wI x] (sh, V) = rI (pHex x) (sh, V) := by
  simp only [w88_0, w88_17, w88_37, w88_59, w88_60]
  unfold pHex
  repeat' split
  all_goals first | omega | (simp (disch := omega) only [wr_eq]; first | done | (refine congrArg (fun z => rI z (sh, V)) ?_; omega))
theorem S89 (sh : zSh) (x : Int) (V : wSt) : wcl zP 89 [wI x] (sh, V) = rI (if 65 ≤ x ∧ x ≤ 90 then x + 32 else x) (sh, V) := by
  rw [w89_0]
  repeat' split
  all_goals first | omega | (simp (disch := omega) only [wr_eq]; first | done | (refine congrArg (fun z => rI z (sh, V)) ?_; omega))
theorem S92 (sh : zSh) (x p : Int) (h : p ≤ 6) (V : wSt) : wcl zP 92 [wI x, wI p] (sh, V) = rI (pMayC p x) (sh, V) := by
  simp only [w92_0, S85, S86, S87, wcx_v, wput_s, w92_9, w92_14, w92_21, w92_30, w92_33, w92_83, w92_102, w92_107, w92_132, w92_137]
  have h1 : pFree x = 0 ∨ pFree x = 1 := by unfold pFree; split <;> omega
  have h2 : pSub x = 0 ∨ pSub x = 1 := by unfold pSub; split <;> omega
  simp only [ite_rI]
  refine rI_cg ?_
  unfold pMayC
  by_cases c3 : p = 3
  · simp only [if_pos c3]
  simp only [if_neg c3]
  by_cases c1 : pFree x = 0
  · rw [if_pos c1]
    by_cases c2 : pSub x = 0
    · rw [if_pos c2]
      by_cases c4 : x = 37
      · rw [if_pos c4, if_pos (Or.inr (Or.inr (Or.inl c4)))]
      · rw [if_neg c4]
        have e : (if pFree x = 1 ∨ pSub x = 1 ∨ x = 37 ∨ pEx p x = 1 then (1 : Int) else 0) = pEx p x := by
          unfold pEx; split <;> split <;> omega
        rw [e]
        unfold pEx
        rcases (by omega : p ≤ 0 ∨ p = 1 ∨ p = 2 ∨ p = 4 ∨ p = 5 ∨ p = 6) with c | c | c | c | c | c
        · rw [if_neg (by omega), if_neg (by omega), if_neg (by omega), if_neg (by omega), if_neg (by omega), if_neg (by omega)]
        · rw [if_pos c]; split <;> split <;> omega
        · rw [if_neg (by omega), if_pos c]; split <;> omega
        · rw [if_neg (by omega), if_neg (by omega), if_pos c]; (repeat' split) <;> omega
        · rw [if_neg (by omega), if_neg (by omega), if_neg (by omega), if_pos c]; (repeat' split) <;> omega
        · rw [if_neg (by omega), if_neg (by omega), if_neg (by omega), if_neg (by omega), if_pos c]; (repeat' split) <;> omega
    · rw [if_neg c2, if_pos (by omega)]
  · rw [if_neg c1, if_pos (by omega)]
