set_option maxRecDepth 16384
/-- steps of the recursions, as facts -/
theorem cfn_st (f : Int → Int) (b a e : Int) : (e ≤ a → cfn f b a e = e) ∧ (a < e → (f a = b → cfn f b a e = a) ∧ (f a ≠ b → cfn f b a e = cfn f b (a + 1) e)) := by
  unfold cfn
  refine ⟨fun h => ?_, fun h => ⟨fun g => ?_, fun g => ?_⟩⟩
  · split
    · rw [fn_ge h]; omega
    · rfl
  · rw [if_pos (by omega), fn_lt h, if_pos g]
  · rw [if_pos (by omega), if_pos (by omega), fn_lt h, if_neg g]
/-- the last b of a stretch, or -1 -/
def flA (f : Int → Int) (b a : Int) : Nat → Int
  | 0 => -1
  | n + 1 => if f (a + n) = b then a + n else flA f b a n
def fl (f : Int → Int) (b a e : Int) : Int := flA f b a (e - a).toNat
theorem fl_st (f : Int → Int) (b a e : Int) : (e ≤ a → fl f b a e = -1) ∧ (a < e → (f (e - 1) = b → fl f b a e = e - 1) ∧ (f (e - 1) ≠ b → fl f b a e = fl f b a (e - 1))) := by
  unfold fl
  refine ⟨fun h => ?_, fun h => ?_⟩
  · rw [show (e - a).toNat = 0 by omega]; rfl
  · rw [show (e - a).toNat = (e - 1 - a).toNat + 1 by omega, flA, show a + (((e - 1 - a).toNat : Nat) : Int) = e - 1 by omega]
    exact ⟨fun g => if_pos g, fun g => if_neg g⟩
/-- the same with the last place told -/
def fli (f : Int → Int) (b a e : Int) : Int := fl f b a (e + 1)
theorem fli_st (f : Int → Int) (b a e : Int) : (e < a → fli f b a e = -1) ∧ (a ≤ e → (f e = b → fli f b a e = e) ∧ (f e ≠ b → fli f b a e = fli f b a (e + -1))) := by
  have h := fl_st f b a (e + 1)
  rw [show e + 1 - 1 = e by omega] at h
  unfold fli
  rw [show e + -1 + 1 = e by omega]
  exact ⟨fun g => h.1 (by omega), fun g => h.2 (by omega)⟩
def pCd (f : Int → Int) (k : Int) : Int := if f k = 37 ∧ 0 ≤ pHex (f (k + 1)) ∧ 0 ≤ pHex (f (k + 2)) then 16 * pHex (f (k + 1)) + pHex (f (k + 2)) else -1
theorem pHex_r (c : Int) : -1 ≤ pHex c ∧ pHex c ≤ 15 := by
  unfold pHex
  repeat' split
  all_goals omega
/-! p3: recursions for the loops of the class, a step at a time -/
/-- the value of digits -/
def pNmA (f : Int → Int) : Nat → Int → Int → Int
  | 0, _, v => v
  | n + 1, k, v => pNmA f n (k + 1) (10 * v + if pHex (f k) < 0 then 0 else pHex (f k))
def pNm (f : Int → Int) (k e v : Int) : Int := pNmA f (e - k).toNat k v
theorem pNm_st (f : Int → Int) (k e v : Int) : (e ≤ k → pNm f k e v = v) ∧ (k < e → (pHex (f k) ≤ 0 → pNm f k e v = pNm f (k + 1) e (10 * v + 0)) ∧ (0 ≤ pHex (f k) → pNm f k e v = pNm f (k + 1) e (10 * v + pHex (f k)))) := by
  unfold pNm
  refine ⟨fun h => ?_, fun h => ?_⟩
  · rw [show (e - k).toNat = 0 by omega]; rfl
  · rw [show (e - k).toNat = (e - (k + 1)).toNat + 1 by omega, pNmA]
    refine ⟨fun g => ?_, fun g => ?_⟩
    · by_cases c : pHex (f k) < 0
      · rw [if_pos c]
      · rw [if_neg c, show pHex (f k) = 0 by omega]
    · rw [if_neg (by omega)]
/-- all signs of a stretch are such: told as an integer -/
def pAn (p : Int → Int) (f : Int → Int) : Nat → Int → Int
  | 0, _ => 1
  | n + 1, k => if p (f k) = 1 then pAn p f n (k + 1) else 0
def pA (p : Int → Int) (f : Int → Int) (k e : Int) : Int := pAn p f (e - k).toNat k
theorem pA_st (p : Int → Int) (f : Int → Int) (k e : Int) : (e ≤ k → pA p f k e = 1) ∧ (k < e → (p (f k) = 1 → pA p f k e = pA p f (k + 1) e) ∧ (p (f k) ≠ 1 → pA p f k e = 0)) := by
  unfold pA
  refine ⟨fun h => ?_, fun h => ?_⟩
  · rw [show (e - k).toNat = 0 by omega]; rfl
  · rw [show (e - k).toNat = (e - (k + 1)).toNat + 1 by omega, pAn]
    exact ⟨fun g => if_pos g, fun g => if_neg g⟩
theorem pA_all {p : Int → Int} {f : Int → Int} : ∀ (n : Nat) (k e : Int), (e - k).toNat = n → (pA p f k e = 1 ↔ pAll p f k e) := by
  intro n
  induction n with
  | zero => intro k e h; exact ⟨fun _ j h1 h2 => by omega, fun _ => (pA_st p f k e).1 (by omega)⟩
  | succ n ih =>
    intro k e h
    have st := (pA_st p f k e).2 (by omega)
    by_cases c : p (f k) = 1
    · rw [st.1 c, ih (k + 1) e (by omega)]
      refine ⟨fun g j h1 h2 => ?_, fun g j h1 h2 => g j (by omega) h2⟩
      by_cases e1 : j = k
      · rw [e1]; exact c
      · exact g j (by omega) h2
    · rw [st.2 c]; exact ⟨fun g => (by cases g), fun g => absurd (g k (by omega) (by omega)) c⟩
theorem pHx_st (c : Int) : (0 ≤ pHex c → pHx c = 1) ∧ (pHex c < 0 → pHx c = 0) := by
  unfold pHx; exact ⟨fun h => if_pos h, fun h => if_neg (by omega)⟩
theorem pFu_st (c : Int) : (pFree c = 1 ∨ pSub c = 1 ∨ c = 58 → pFu c = 1) ∧ (pFree c ≠ 1 → pSub c ≠ 1 → c ≠ 58 → pFu c = 0) := by
  unfold pFu; exact ⟨fun h => if_pos h, fun h g i => if_neg (by omega)⟩
/-- the value of one to three digits -/
def vN (f : Int → Int) (a e : Int) : Int := if e - a = 1 then f a - 48 else if e - a = 2 then 10 * (f a - 48) + (f (a + 1) - 48) else 100 * (f a - 48) + 10 * (f (a + 1) - 48) + (f (a + 2) - 48)
theorem vN_st (f : Int → Int) (a e : Int) : (e - a = 1 → vN f a e = f a - 48) ∧ (e - a = 2 → vN f a e = 10 * (f a - 48) + (f (a + 1) - 48)) ∧ (e - a = 3 → vN f a e = 100 * (f a - 48) + 10 * (f (a + 1) - 48) + (f (a + 2) - 48)) := by
  unfold vN; exact ⟨fun h => if_pos h, fun h => by rw [if_neg (by omega), if_pos h], fun h => by rw [if_neg (by omega), if_neg (by omega)]⟩
theorem cN_3 (f : Int → Int) (a e : Int) : cN f a e ↔ vN f a e ≤ 255 ∧ ((e - a = 1 ∧ pDig (f a) = 1) ∨ (e - a = 2 ∧ f a ≠ 48 ∧ pDig (f a) = 1 ∧ pDig (f (a + 1)) = 1) ∨ (e - a = 3 ∧ f a ≠ 48 ∧ pDig (f a) = 1 ∧ pDig (f (a + 1)) = 1 ∧ pDig (f (a + 2)) = 1)) := by
  have h : cN f a e ↔ 1 ≤ e - a ∧ e - a ≤ 3 ∧ ¬ (1 < e - a ∧ f a = 48) ∧ pAll pDig f a e ∧ vN f a e ≤ 255 := Iff.rfl
  rw [h]
  constructor
  · rintro ⟨h1, h2, h3, h4, h5⟩
    refine ⟨h5, ?_⟩
    have a0 := h4 a (by omega) (by omega)
    by_cases c1 : e - a = 1
    · exact Or.inl ⟨c1, a0⟩
    · have a1 := h4 (a + 1) (by omega) (by omega)
      by_cases c2 : e - a = 2
      · exact Or.inr (Or.inl ⟨c2, by omega, a0, a1⟩)
      · exact Or.inr (Or.inr ⟨by omega, by omega, a0, a1, h4 (a + 2) (by omega) (by omega)⟩)
  · rintro ⟨h5, h⟩
    refine ⟨by omega, by omega, by omega, fun k h1 h2 => ?_, h5⟩
    rcases h with h | h | h
    · rw [show k = a by omega]; exact h.2
    · by_cases c : k = a
      · rw [c]; exact h.2.2.1
      · rw [show k = a + 1 by omega]; exact h.2.2.2
    · by_cases c : k = a
      · rw [c]; exact h.2.2.1
      · by_cases c2 : k = a + 1
        · rw [c2]; exact h.2.2.2.1
        · rw [show k = a + 2 by omega]; exact h.2.2.2.2
/-- the signs of a stretch, at places told twice -/
theorem f_at (f : Int → Int) (k a : Int) : (k = a → f k = f a) ∧ (k = a + 1 → f k = f (a + 1)) ∧ (k = a + 2 → f k = f (a + 2)) := ⟨fun h => by rw [h], fun h => by rw [h], fun h => by rw [h]⟩
theorem pDig_st (c : Int) : (pDig c = 1 → 48 ≤ c ∧ c ≤ 57) ∧ (pDig c = 0 ∨ pDig c = 1) := by unfold pDig; split <;> omega
theorem cFut_i (f : Int → Int) (a e : Int) : cFut f a e ↔ a < e ∧ (f a = 118 ∨ f a = 86) ∧ pA pHx f (a + 1) (cfn f 46 a e) = 1 ∧ pA pFu f (cfn f 46 a e + 1) e = 1 ∧ a + 1 < cfn f 46 a e ∧ cfn f 46 a e < e - 1 := by
  by_cases h : a < e
  · have e1 : cfn f 46 a e = fn f 46 a e := by unfold cfn; rw [if_pos (by omega)]
    rw [e1, pA_all _ _ _ rfl, pA_all _ _ _ rfl]; exact Iff.rfl
  · exact ⟨fun q => absurd q.1 h, fun q => absurd q.1 h⟩
/-- the last colon that stands outside of brackets; c, where none does -/
def ocA (f : Int → Int) : Nat → Int → Int → Int → Int
  | 0, _, _, c => c
  | n + 1, k, s, c => if f k = 91 then ocA f n (k + 1) 1 c else if f k = 93 then ocA f n (k + 1) 0 c else if f k = 58 ∧ s = 0 then ocA f n (k + 1) s k else ocA f n (k + 1) s c
def oc (f : Int → Int) (k e s c : Int) : Int := ocA f (e - k).toNat k s c
theorem oc_st (f : Int → Int) (k e s c : Int) : (e ≤ k → oc f k e s c = c) ∧ (k < e → (f k = 91 → oc f k e s c = oc f (k + 1) e 1 c) ∧ (f k = 93 → oc f k e s c = oc f (k + 1) e 0 c) ∧ (f k = 58 → s = 0 → oc f k e s c = oc f (k + 1) e s k) ∧ (f k ≠ 91 → f k ≠ 93 → (f k ≠ 58 ∨ s ≠ 0) → oc f k e s c = oc f (k + 1) e s c)) := by
  unfold oc
  refine ⟨fun h => ?_, fun h => ?_⟩
  · rw [show (e - k).toNat = 0 by omega]; rfl
  · rw [show (e - k).toNat = (e - (k + 1)).toNat + 1 by omega, ocA]
    refine ⟨fun g => ?_, fun g => ?_, fun g g2 => ?_, fun g g2 g3 => ?_⟩
    · rw [if_pos g]
    · rw [if_neg (by omega), if_pos g]
    · rw [if_neg (by omega), if_neg (by omega), if_pos ⟨g, g2⟩]
    · rw [if_neg g, if_neg g2, if_neg (by omega)]
theorem pNm_y {f : Int → Int} {k e v d w : Int} (h : d = pHex (f k)) (hw : (d < 0 ∧ w = 0) ∨ (0 ≤ d ∧ w = d)) (g : k < e) : pNm f k e v = pNm f (k + 1) e (10 * v + w) := by
  have st := (pNm_st f k e v).2 g
  rcases hw with ⟨c, hw⟩ | ⟨c, hw⟩
  · rw [hw]; exact st.1 (by omega)
  · rw [hw, h]; exact st.2 (by omega)
/-- the value of digits of base ten -/
def dNmA (f : Int → Int) : Nat → Int → Int → Int
  | 0, _, v => v
  | n + 1, k, v => dNmA f n (k + 1) (10 * v + f k - 48)
def dNm (f : Int → Int) (k e v : Int) : Int := dNmA f (e - k).toNat k v
theorem dNm_y {f : Int → Int} {k e v y : Int} (h : y = f k) (g : k < e) : dNm f k e v = dNm f (k + 1) e (10 * v + y - 48) := by
  unfold dNm; rw [show (e - k).toNat = (e - (k + 1)).toNat + 1 by omega, dNmA, h]
theorem dNm_e {f : Int → Int} {k e v : Int} (h : e ≤ k) : dNm f k e v = v := by
  unfold dNm; rw [show (e - k).toNat = 0 by omega]; rfl
theorem cN_i (f : Int → Int) (a e : Int) : cN f a e ↔ 1 ≤ e - a ∧ e - a ≤ 3 ∧ (e - a = 1 ∨ f a ≠ 48) ∧ pA pDig f a e = 1 ∧ dNm f a e 0 ≤ 255 := by
  have h : cN f a e ↔ 1 ≤ e - a ∧ e - a ≤ 3 ∧ ¬ (1 < e - a ∧ f a = 48) ∧ pAll pDig f a e ∧ vN f a e ≤ 255 := Iff.rfl
  rw [h, pA_all _ _ _ rfl]
  have key : 1 ≤ e - a → e - a ≤ 3 → vN f a e = dNm f a e 0 := by
    intro h1 h2
    have v := vN_st f a e
    have d1 := dNm_y (f := f) (k := a) (e := e) (v := 0) rfl (by omega)
    by_cases c1 : e - a = 1
    · have z := dNm_e (f := f) (k := a + 1) (e := e) (v := 10 * 0 + f a - 48) (by omega)
      have := v.1 c1; omega
    · have d2 := dNm_y (f := f) (k := a + 1) (e := e) (v := 10 * 0 + f a - 48) rfl (by omega)
      by_cases c2 : e - a = 2
      · have z := dNm_e (f := f) (k := a + 1 + 1) (e := e) (v := 10 * (10 * 0 + f a - 48) + f (a + 1) - 48) (by omega)
        have := v.2.1 c2; omega
      · have d3 := dNm_y (f := f) (k := a + 1 + 1) (e := e) (v := 10 * (10 * 0 + f a - 48) + f (a + 1) - 48) rfl (by omega)
        have z := dNm_e (f := f) (k := a + 1 + 1 + 1) (e := e) (v := 10 * (10 * (10 * 0 + f a - 48) + f (a + 1) - 48) + f (a + 1 + 1) - 48) (by omega)
        have h3 : f (a + 1 + 1) = f (a + 2) := by rw [show a + 1 + 1 = a + 2 by omega]
        have := v.2.2 (by omega); omega
  constructor
  · rintro ⟨h1, h2, h3, h4, h5⟩; exact ⟨h1, h2, by omega, h4, by rw [← key h1 h2]; exact h5⟩
  · rintro ⟨h1, h2, h3, h4, h5⟩; exact ⟨h1, h2, by omega, h4, by rw [key h1 h2]; exact h5⟩
/-- how great a number of so many digits can be -/
def nB (d : Int) : Int := if d ≤ 0 then 0 else if d = 1 then 15 else if d = 2 then 165 else if d = 3 then 1665 else if d = 4 then 16665 else 166665
theorem nB_st (k a : Int) (h : a ≤ k) : nB (k - a) ≤ 166665 ∧ (k - a < 5 → 10 * nB (k - a) + 15 ≤ nB (k + 1 - a)) := by
  have hd : 0 ≤ k - a := by omega
  unfold nB
  rw [show k + 1 - a = k - a + 1 by omega]
  generalize k - a = d at *
  by_cases h0 : d ≤ 0
  · by_cases h1 : d = 0
    · subst h1; decide
    · omega
  · by_cases h1 : d = 1
    · subst h1; decide
    · by_cases h2 : d = 2
      · subst h2; decide
      · by_cases h3 : d = 3
        · subst h3; decide
        · by_cases h4 : d = 4
          · subst h4; decide
          · rw [if_neg h0, if_neg h1, if_neg h2, if_neg h3, if_neg h4]; omega
theorem nB_0 (a : Int) : nB (a - a) = 0 := by unfold nB; rw [if_pos (by omega)]
/-! p3: what holds, as 0 or 1; four numbers and six groups, a round at a time -/
noncomputable def bI (p : Prop) : Int := by classical exact if p then 1 else 0
theorem bI_1 {p : Prop} (h : p) : bI p = 1 := by unfold bI; exact if_pos h
theorem bI_0 {p : Prop} (h : ¬ p) : bI p = 0 := by unfold bI; exact if_neg h
theorem bI_r (p : Prop) : (bI p = 0 ∨ bI p = 1) := by
  by_cases h : p
  · exact Or.inr (bI_1 h)
  · exact Or.inl (bI_0 h)
theorem bI_i {p : Prop} : bI p = 1 ↔ p := ⟨fun h => Classical.byContradiction fun n => (by rw [bI_0 n] at h; cases h), bI_1⟩
theorem bI_n {p : Prop} : bI p = 0 ↔ ¬ p := ⟨fun h q => (by rw [bI_1 q] at h; cases h), bI_0⟩
theorem bI_of {p : Prop} {x : Int} (h : (x = 1 ∧ p) ∨ (x = 0 ∧ ¬ p)) : x = bI p := by
  rcases h with ⟨h, q⟩ | ⟨h, q⟩
  · rw [h, bI_1 q]
  · rw [h, bI_0 q]
theorem bI_to {p : Prop} {x : Int} (h : x = bI p) : (x = 1 ∧ p) ∨ (x = 0 ∧ ¬ p) := by
  by_cases q : p
  · exact Or.inl ⟨by rw [h, bI_1 q], q⟩
  · exact Or.inr ⟨by rw [h, bI_0 q], q⟩
theorem bI_cg {p q : Prop} (h : p ↔ q) : bI p = bI q := by rw [propext h]
theorem bI_num {p : Prop} {x v : Int} (h : -1 ≤ x ∧ x ≤ 255 ∧ ((x = -1 ∧ ¬ p) ∨ (p ∧ 0 ≤ x ∧ x = v))) : -1 ≤ x ∧ x ≤ 255 ∧ ((x = -1 ∧ bI p = 0) ∨ (bI p = 1 ∧ 0 ≤ x ∧ x = v)) := by
  obtain ⟨h1, h2, h | h⟩ := h
  · exact ⟨h1, h2, Or.inl ⟨h.1, bI_0 h.2⟩⟩
  · exact ⟨h1, h2, Or.inr ⟨bI_1 h.1, h.2⟩⟩
theorem cfn_r (f : Int → Int) (b a e : Int) : (a ≤ e → a ≤ cfn f b a e ∧ cfn f b a e ≤ e) ∧ (e < a → cfn f b a e = e) := by
  unfold cfn
  exact ⟨fun h => by rw [if_pos h]; exact fn_rng f b h, fun h => if_neg (by omega)⟩
/-- four numbers from the k-th on -/
noncomputable def FOA (f : Int → Int) (e : Int) : Nat → Int → Int
  | 0, i => bI (cN f i e)
  | n + 1, i => if bI (cN f i (cfn f 46 i e)) = 1 then FOA f e n (cfn f 46 i e + 1) else 0
noncomputable def FO (f : Int → Int) (e k i : Int) : Int := if 4 ≤ k then 1 else FOA f e (3 - k).toNat i
theorem FO_st (f : Int → Int) (e k i : Int) : (4 ≤ k → FO f e k i = 1) ∧ (k < 3 → (bI (cN f i (cfn f 46 i e)) = 1 → FO f e k i = FO f e (k + 1) (cfn f 46 i e + 1)) ∧ (bI (cN f i (cfn f 46 i e)) = 0 → FO f e k i = 0)) ∧ (k = 3 → (bI (cN f i e) = 1 → FO f e k i = FO f e (k + 1) (e + 1)) ∧ (bI (cN f i e) = 0 → FO f e k i = 0)) := by
  unfold FO
  refine ⟨fun h => if_pos h, fun h => ?_, fun h => ?_⟩
  · rw [if_neg (by omega), if_neg (by omega), show (3 - k).toNat = (3 - (k + 1)).toNat + 1 by omega, FOA]
    exact ⟨fun g => if_pos g, fun g => if_neg (by omega)⟩
  · subst h
    exact ⟨fun g => g, fun g => g⟩
theorem FO_cF (f : Int → Int) (e a : Int) : FO f e 0 a = bI (cF f a e) := by
  have st0 := (FO_st f e 0 a).2.1 (by omega)
  have st1 := (FO_st f e (0 + 1) (cfn f 46 a e + 1)).2.1 (by omega)
  have st2 := (FO_st f e (0 + 1 + 1) (cfn f 46 (cfn f 46 a e + 1) e + 1)).2.1 (by omega)
  have st3 := (FO_st f e (0 + 1 + 1 + 1) (cfn f 46 (cfn f 46 (cfn f 46 a e + 1) e + 1) e + 1)).2.2 (by omega)
  have st4 := (FO_st f e (0 + 1 + 1 + 1 + 1) (e + 1)).1 (by omega)
  by_cases h1 : cN f a (cfn f 46 a e)
  · rw [st0.1 (bI_1 h1)]
    by_cases h2 : cN f (cfn f 46 a e + 1) (cfn f 46 (cfn f 46 a e + 1) e)
    · rw [st1.1 (bI_1 h2)]
      by_cases h3 : cN f (cfn f 46 (cfn f 46 a e + 1) e + 1) (cfn f 46 (cfn f 46 (cfn f 46 a e + 1) e + 1) e)
      · rw [st2.1 (bI_1 h3)]
        by_cases h4 : cN f (cfn f 46 (cfn f 46 (cfn f 46 a e + 1) e + 1) e + 1) e
        · rw [st3.1 (bI_1 h4), st4]; exact (bI_1 ⟨h1, h2, h3, h4⟩).symm
        · rw [st3.2 (bI_0 h4)]; exact (bI_0 (fun c => h4 c.2.2.2)).symm
      · rw [st2.2 (bI_0 h3)]; exact (bI_0 (fun c => h3 c.2.2.1)).symm
    · rw [st1.2 (bI_0 h2)]; exact (bI_0 (fun c => h2 c.2.1)).symm
  · rw [st0.2 (bI_0 h1)]; exact (bI_0 (fun c => h1 c.1)).symm
theorem pG_i (f : Int → Int) (a e : Int) : pG f a e ↔ 1 ≤ e - a ∧ e - a ≤ 4 ∧ pA pHx f a e = 1 := by
  rw [pA_all _ _ _ rfl]; exact Iff.rfl
/-- a point is no digit of base 16 -/
theorem pG_pt {f : Int → Int} {i s : Int} (h : pG f i s) {k : Int} (h1 : i ≤ k) (h2 : k < s) : f k ≠ 46 := by
  intro c
  have := h.2.2 k h1 h2
  rw [c] at this; exact absurd this (by decide)
/-- four numbers hold a point -/
theorem cF_pt {f : Int → Int} {i e : Int} (h : cF f i e) : cfn f 46 i e < e := by
  have h1 := h.1.1
  have h2 := h.2.1.1
  have r1 := cfn_r f 46 i e
  have r2 := cfn_r f 46 (cfn f 46 i e + 1) e
  omega
/-- the rounds of six: g is -1 as long as no gap was seen -/
noncomputable def CS (f : Int → Int) (e i c g : Int) : Int := bI (cS f e (e + 2 - i).toNat i c (g ≠ -1))
theorem cS_n {f : Int → Int} {e : Int} : ∀ (n n2 : Nat) (i c : Int) (g : Prop), (e + 2 - i).toNat ≤ n → (e + 2 - i).toNat ≤ n2 → (cS f e n i c g ↔ cS f e n2 i c g) := by
  intro n
  induction n with
  | zero =>
    intro n2 i c g h1 h2
    cases n2 with
    | zero => exact Iff.rfl
    | succ m => rw [cS, cS]; exact ⟨fun h => Or.inl h, fun h => h.elim id (fun h => by have := h.1; omega)⟩
  | succ n ih =>
    intro n2 i c g h1 h2
    cases n2 with
    | zero => rw [cS, cS]; exact ⟨fun h => h.elim id (fun h => by have := h.1; omega), fun h => Or.inl h⟩
    | succ m =>
      rw [cS, cS]
      refine or_congr Iff.rfl ?_
      by_cases hi : i < e
      · have r := fn_rng f 58 (a := i) (e := e) (by omega)
        refine and_congr Iff.rfl (and_congr Iff.rfl (exists_congr fun c' => and_congr Iff.rfl (and_congr Iff.rfl (and_congr Iff.rfl (and_congr Iff.rfl (or_congr (and_congr Iff.rfl (ih m _ _ _ (by omega) (by omega))) (and_congr Iff.rfl (ih m _ _ _ (by omega) (by omega)))))))))
      · exact ⟨fun h => absurd h.1 hi, fun h => absurd h.1 hi⟩
theorem CS_end (f : Int → Int) (e i c g : Int) : (e ≤ i → (g ≠ -1 → c ≤ 7 → CS f e i c g = 1) ∧ (g ≠ -1 → 8 ≤ c → CS f e i c g = 0) ∧ (g = -1 → c = 8 → CS f e i c g = 1) ∧ (g = -1 → c ≠ 8 → CS f e i c g = 0)) ∧ (i < e → 8 ≤ c → CS f e i c g = 0) := by
  have key : e ≤ i → (cS f e (e + 2 - i).toNat i c (g ≠ -1) ↔ ((g ≠ -1 ∧ c ≤ 7) ∨ (¬ g ≠ -1 ∧ c = 8))) := by
    intro h
    cases hn : (e + 2 - i).toNat with
    | zero => rw [cS]; exact ⟨fun x => x.2, fun x => ⟨h, x⟩⟩
    | succ n => rw [cS]; exact ⟨fun x => x.elim (fun y => y.2) (fun y => by have := y.1; omega), fun x => Or.inl ⟨h, x⟩⟩
  unfold CS
  refine ⟨fun h => ⟨fun a b => bI_1 ((key h).mpr (Or.inl ⟨a, b⟩)), fun a b => bI_0 (fun c1 => ?_), fun a b => bI_1 ((key h).mpr (Or.inr ⟨fun z => z a, b⟩)), fun a b => bI_0 (fun c1 => ?_)⟩, fun h a => bI_0 (fun c1 => ?_)⟩
  · rcases (key h).mp c1 with c2 | c2
    · omega
    · exact c2.1 a
  · rcases (key h).mp c1 with c2 | c2
    · exact c2.1 a
    · omega
  · rw [show (e + 2 - i).toNat = (e + 1 - i).toNat + 1 by omega, cS] at c1
    rcases c1 with c1 | c1
    · omega
    · omega
/-- one round: c' groups behind it -/
theorem CS_st {f : Int → Int} {e i c g : Int} (hi : i < e) (hc0 : 0 ≤ c) (hc : c < 8) :
    (cfn f 58 i e = e ∧ cfn f 46 i e < e → (bI (cF f i e) = 1 ∧ c ≤ 6 → CS f e i c g = CS f e (cfn f 58 i e + 1) (c + 2) g) ∧ (bI (cF f i e) = 0 ∨ 6 < c → CS f e i c g = 0)) ∧
    (cfn f 58 i e < e ∨ e ≤ cfn f 46 i e → (bI (pG f i (cfn f 58 i e)) = 0 → CS f e i c g = 0) ∧
      (bI (pG f i (cfn f 58 i e)) = 1 → (cfn f 58 i e = e - 1 → CS f e i c g = 0) ∧
        (cfn f 58 i e ≠ e - 1 → (bI (isG f e (cfn f 58 i e)) = 1 → g ≠ -1 → CS f e i c g = 0) ∧ (bI (isG f e (cfn f 58 i e)) = 1 → g = -1 → CS f e i c g = CS f e (cfn f 58 i e + 1 + 1) (c + 1) (c + 1)) ∧ (bI (isG f e (cfn f 58 i e)) = 0 → CS f e i c g = CS f e (cfn f 58 i e + 1) (c + 1) g)))) := by
  have e1 : ∀ b, cfn f b i e = fn f b i e := fun b => by unfold cfn; rw [if_pos (by omega)]
  have r := fn_rng f 58 (a := i) (e := e) (by omega)
  have r2 := fn_rng f 46 (a := i) (e := e) (by omega)
  have hF := fun (h : cF f i e) => cF_pt h
  rw [e1] at hF
  simp only [e1]
  have key : cS f e (e + 2 - i).toNat i c (g ≠ -1) ↔ ∃ c', gT f e True i c c' ∧ c' ≤ 8 ∧ ¬ (g ≠ -1 ∧ isG f e (fn f 58 i e)) ∧ fn f 58 i e ≠ e - 1 ∧ ((isG f e (fn f 58 i e) ∧ CS f e (fn f 58 i e + 1 + 1) c' c' = 1) ∨ (¬ isG f e (fn f 58 i e) ∧ CS f e (fn f 58 i e + 1) c' g = 1)) := by
    rw [show (e + 2 - i).toNat = (e + 1 - i).toNat + 1 by omega, cS, show fn f 58 i e + 1 + 1 = fn f 58 i e + 2 by omega]
    have pos : ∀ c', gT f e True i c c' → (c' ≠ -1) = True := by
      intro c' h
      refine propext ⟨fun _ => trivial, fun _ => ?_⟩
      rcases h with h | h
      · have := h.2.2.2; omega
      · have := h.2; omega
    unfold CS
    constructor
    · rintro (h | ⟨_, _, c', h1, h2, h3, h4, h5⟩)
      · omega
      · refine ⟨c', h1, h2, h3, h4, h5.elim (fun h => Or.inl ⟨h.1, ?_⟩) (fun h => Or.inr ⟨h.1, ?_⟩)⟩
        · rw [pos c' h1]; exact bI_1 ((cS_n _ _ _ _ _ (by omega) (by omega)).mp h.2)
        · exact bI_1 ((cS_n _ _ _ _ _ (by omega) (by omega)).mp h.2)
    · rintro ⟨c', h1, h2, h3, h4, h5⟩
      refine Or.inr ⟨hi, hc, c', h1, h2, h3, h4, h5.elim (fun h => Or.inl ⟨h.1, ?_⟩) (fun h => Or.inr ⟨h.1, ?_⟩)⟩
      · have q := h.2
        rw [pos c' h1] at q; exact (cS_n _ _ _ _ _ (by omega) (by omega)).mp (bI_i.mp q)
      · exact (cS_n _ _ _ _ _ (by omega) (by omega)).mp (bI_i.mp h.2)
  have no : (¬ ∃ c', gT f e True i c c' ∧ c' ≤ 8 ∧ ¬ (g ≠ -1 ∧ isG f e (fn f 58 i e)) ∧ fn f 58 i e ≠ e - 1 ∧ ((isG f e (fn f 58 i e) ∧ CS f e (fn f 58 i e + 1 + 1) c' c' = 1) ∨ (¬ isG f e (fn f 58 i e) ∧ CS f e (fn f 58 i e + 1) c' g = 1))) → CS f e i c g = 0 := fun h => bI_0 (fun q => h (key.mp q))
  have yes : ∀ {j c2 g2 : Int}, ((∃ c', gT f e True i c c' ∧ c' ≤ 8 ∧ ¬ (g ≠ -1 ∧ isG f e (fn f 58 i e)) ∧ fn f 58 i e ≠ e - 1 ∧ ((isG f e (fn f 58 i e) ∧ CS f e (fn f 58 i e + 1 + 1) c' c' = 1) ∨ (¬ isG f e (fn f 58 i e) ∧ CS f e (fn f 58 i e + 1) c' g = 1))) ↔ CS f e j c2 g2 = 1) → CS f e i c g = CS f e j c2 g2 := fun h => bI_cg (key.trans (h.trans bI_i))
  refine ⟨fun hs => ?_, fun hs => ?_⟩
  · -- four numbers
    have hit : f (fn f 46 i e) = 46 := fn_hit f 46 (by omega) hs.2
    have np : ¬ pG f i (fn f 58 i e) := fun q => pG_pt q r2.1 (by omega) hit
    have ng : ¬ isG f e (fn f 58 i e) := fun q => by have := q.1; omega
    refine ⟨fun h => yes ?_, fun h => no ?_⟩
    · constructor
      · rintro ⟨c', h1, h2, h3, h4, h5⟩
        rcases h1 with h1 | h1
        · rcases h5 with h5 | h5
          · exact absurd h5.1 ng
          · have q := h5.2; rw [h1.2.2.2] at q; exact q
        · exact absurd h1.1 np
      · intro q
        exact ⟨c + 2, Or.inl ⟨trivial, hs.1, bI_i.mp h.1, rfl⟩, by omega, fun z => ng z.2, by omega, Or.inr ⟨ng, q⟩⟩
    · rintro ⟨c', h1, h2, h3, h4, h5⟩
      rcases h1 with h1 | h1
      · rcases h with h | h
        · exact bI_n.mp h h1.2.2.1
        · have := h1.2.2.2; omega
      · exact absurd h1.1 np
  · -- one group
    have nf : ∀ c', gT f e True i c c' → pG f i (fn f 58 i e) ∧ c' = c + 1 := by
      intro c' h
      rcases h with h | h
      · have := hF h.2.2.1; omega
      · exact h
    refine ⟨fun h => no ?_, fun h => ⟨fun h1 => no ?_, fun h1 => ⟨fun h2 h3 => no ?_, fun h2 h3 => yes ?_, fun h2 => yes ?_⟩⟩⟩
    · rintro ⟨c', h1, _⟩; exact bI_n.mp h (nf c' h1).1
    · rintro ⟨c', _, _, _, h4, _⟩; exact h4 h1
    · rintro ⟨c', _, _, h4, _, _⟩; exact h4 ⟨h3, bI_i.mp h2⟩
    · constructor
      · rintro ⟨c', q1, q2, q3, q4, q5⟩
        rcases q5 with q5 | q5
        · have q := q5.2; rw [(nf c' q1).2] at q; exact q
        · exact absurd (bI_i.mp h2) q5.1
      · intro q
        exact ⟨c + 1, Or.inr ⟨bI_i.mp h, rfl⟩, by omega, fun z => z.1 h3, h1, Or.inl ⟨bI_i.mp h2, q⟩⟩
    · constructor
      · rintro ⟨c', q1, q2, q3, q4, q5⟩
        rcases q5 with q5 | q5
        · exact absurd q5.1 (bI_n.mp h2)
        · have q := q5.2; rw [(nf c' q1).2] at q; exact q
      · intro q
        exact ⟨c + 1, Or.inr ⟨bI_i.mp h, rfl⟩, by omega, fun z => bI_n.mp h2 z.2, h1, Or.inr ⟨bI_n.mp h2, q⟩⟩
theorem CS_six (f : Int → Int) (a e : Int) : (bI (isG f e a) = 1 → CS f e (a + 2) 0 0 = bI (cSix f a e)) ∧ (bI (isG f e a) = 0 → CS f e a 0 (-1) = bI (cSix f a e)) := by
  refine ⟨fun h => bI_cg ?_, fun h => bI_cg ?_⟩
  · rw [show ((0 : Int) ≠ -1) = True from propext ⟨fun _ => trivial, fun _ => by decide⟩]
    unfold cSix
    constructor
    · intro q; exact Or.inl ⟨bI_i.mp h, (cS_n _ _ _ _ _ (by omega) (by omega)).mp q⟩
    · rintro (q | q)
      · exact (cS_n _ _ _ _ _ (by omega) (by omega)).mp q.2
      · exact absurd (bI_i.mp h) q.1
  · rw [show ((-1 : Int) ≠ -1) = False from propext ⟨fun z => z rfl, fun z => z.elim⟩]
    unfold cSix
    constructor
    · intro q; exact Or.inr ⟨bI_n.mp h, q⟩
    · rintro (q | q)
      · exact absurd q.1 (bI_n.mp h)
      · exact q.2
theorem isG_of {f : Int → Int} {e k x : Int} (h : x = bI (isG f e k)) : x = 0 ∨ (x = 1 ∧ k + 2 ≤ e) := by
  rcases bI_to h with h | h
  · exact Or.inr ⟨h.1, h.2.1⟩
  · exact Or.inl h.1
/-! p3: the faults, as functions of the text and of the places of its parts -/
/-- a sign of a scheme is right -/
def sOk (f : Int → Int) (k : Int) : Int := if pLet (f k) = 1 then 1 else if k = 0 then 0 else if pDig (f k) = 1 ∨ f k = 43 ∨ f k = 45 ∨ f k = 46 then 1 else 0
theorem sOk_st (f : Int → Int) (k : Int) : (pLet (f k) = 1 → sOk f k = 1) ∧ (pLet (f k) ≠ 1 → k = 0 → sOk f k = 0) ∧ (pLet (f k) ≠ 1 → pDig (f k) ≠ 1 → f k ≠ 43 → f k ≠ 45 → f k ≠ 46 → sOk f k = 0) ∧ (k ≠ 0 → (pDig (f k) = 1 ∨ f k = 43 ∨ f k = 45 ∨ f k = 46) → sOk f k = 1) := by
  unfold sOk
  refine ⟨fun h => if_pos h, fun h g => by rw [if_neg h, if_pos g], fun h a b c d => ?_, fun h g => ?_⟩
  · rw [if_neg h]; split
    · rfl
    · rw [if_neg (by omega)]
  · by_cases c : pLet (f k) = 1
    · rw [if_pos c]
    · rw [if_neg c, if_neg h, if_pos g]
/-- no % without its code -/
def cOk (f : Int → Int) (k : Int) : Int := if f k = 37 ∧ pCd f k = -1 then 0 else 1
theorem cOk_st (f : Int → Int) (k : Int) : (f k = 37 → pCd f k = -1 → cOk f k = 0) ∧ ((f k ≠ 37 ∨ pCd f k ≠ -1) → cOk f k = 1) := by
  unfold cOk; exact ⟨fun h g => if_pos ⟨h, g⟩, fun h => if_neg (by omega)⟩
/-- a part from a to e, the p-th: its signs may stand there -/
def bOk (f : Int → Int) (S E : Nat → Int) (p : Int) : Int := pA (pMayC p) f (S p.toNat) (if p = 2 then cfn f 91 (S p.toNat) (E p.toNat) else E p.toNat)
theorem bOk_st (f : Int → Int) (S E : Nat → Int) (p : Int) : (p = 2 → bOk f S E p = pA (pMayC p) f (S p.toNat) (cfn f 91 (S p.toNat) (E p.toNat))) ∧ (p ≠ 2 → bOk f S E p = pA (pMayC p) f (S p.toNat) (E p.toNat)) := by
  unfold bOk; exact ⟨fun h => by rw [if_pos h], fun h => by rw [if_neg h]⟩
/-- the fault of the brackets -/
noncomputable def bBr (f : Int → Int) (a e : Int) : Int := if cfn f 91 a e = e then 0 else if cfn f 91 a e = a ∧ cfn f 93 (cfn f 91 a e) e = e - 1 ∧ (bI (cSix f (cfn f 91 a e + 1) (cfn f 93 (cfn f 91 a e) e)) = 1 ∨ bI (cFut f (cfn f 91 a e + 1) (cfn f 93 (cfn f 91 a e) e)) = 1) then 0 else 1
theorem pA_r (p : Int → Int) (f : Int → Int) : ∀ (n : Nat) (k e : Int), (e - k).toNat = n → pA p f k e = 0 ∨ pA p f k e = 1 := by
  intro n
  induction n with
  | zero => intro k e h; exact Or.inr ((pA_st p f k e).1 (by omega))
  | succ n ih =>
    intro k e h
    have st := (pA_st p f k e).2 (by omega)
    by_cases c : p (f k) = 1
    · rw [st.1 c]; exact ih _ _ (by omega)
    · exact Or.inl (st.2 c)
theorem pMay_r (p c : Int) : pMayC p c = 0 ∨ pMayC p c = 1 := by
  unfold pMayC pDig
  repeat' split
  all_goals first | exact Or.inl rfl | exact Or.inr rfl
/-! p3: the places of the parts, as functions of the text -/
def pB (f : Int → Int) (a e : Int) : Int := if fli f 64 a (e - 1) = -1 then a else fli f 64 a (e - 1) + 1
def pK (f : Int → Int) (a e : Int) : Int := oc f (pB f a e) e 0 (-1)
def aS1 (f : Int → Int) (a e : Int) : Int := if fli f 64 a (e - 1) = -1 then -1 else a
def aE2 (f : Int → Int) (a e : Int) : Int := if pK f a e = -1 then e else pK f a e
def aS3 (f : Int → Int) (a e : Int) : Int := if pK f a e = -1 then -1 else pK f a e + 1
def aE3 (f : Int → Int) (a e : Int) : Int := if pK f a e = -1 then -1 else e
theorem aS1_st (f : Int → Int) (a e : Int) : (fli f 64 a (e - 1) = -1 → aS1 f a e = -1 ∧ pB f a e = a) ∧ (fli f 64 a (e - 1) ≠ -1 → aS1 f a e = a ∧ pB f a e = fli f 64 a (e - 1) + 1) := by
  unfold aS1 pB; exact ⟨fun h => by rw [if_pos h, if_pos h]; exact ⟨rfl, rfl⟩, fun h => by rw [if_neg h, if_neg h]; exact ⟨rfl, rfl⟩⟩
theorem aK_st (f : Int → Int) (a e : Int) : (pK f a e = -1 → aE2 f a e = e ∧ aS3 f a e = -1 ∧ aE3 f a e = -1) ∧ (pK f a e ≠ -1 → aE2 f a e = pK f a e ∧ aS3 f a e = pK f a e + 1 ∧ aE3 f a e = e) := by
  unfold aE2 aS3 aE3; exact ⟨fun h => by rw [if_pos h, if_pos h, if_pos h]; exact ⟨rfl, rfl, rfl⟩, fun h => by rw [if_neg h, if_neg h, if_neg h]; exact ⟨rfl, rfl, rfl⟩⟩
theorem pK_of {f : Int → Int} {a e b y : Int} (h : y = oc f b e 0 (-1)) (g : b = pB f a e) : y = pK f a e := by rw [h, g]; rfl
def kH (f : Int → Int) (n : Int) : Int := cfn f 35 0 n
def kQ (f : Int → Int) (n : Int) : Int := cfn f 63 0 (kH f n)
def kS (f : Int → Int) (n : Int) : Int := cfn f 47 0 (kQ f n)
def kC (f : Int → Int) (n : Int) : Int := cfn f 58 0 (kS f n)
def kP (f : Int → Int) (n : Int) : Int := if kC f n < kS f n then kC f n + 1 else 0
def kO (f : Int → Int) (n : Int) : Int := if kP f n + 2 ≤ kQ f n ∧ f (kP f n) = 47 ∧ f (kP f n + 1) = 47 then 1 else 0
def kA (f : Int → Int) (n : Int) : Int := cfn f 47 (kP f n + 2) (kQ f n)
def zB (f : Int → Int) (n : Int) : Nat → Int
  | 0 => if kC f n < kS f n then 0 else -1
  | 1 => if kO f n = 1 then aS1 f (kP f n + 2) (kA f n) else -1
  | 2 => if kO f n = 1 then pB f (kP f n + 2) (kA f n) else -1
  | 3 => if kO f n = 1 then aS3 f (kP f n + 2) (kA f n) else -1
  | 4 => if kO f n = 1 then kA f n else kP f n
  | 5 => if kQ f n < kH f n then kQ f n + 1 else -1
  | 6 => if kH f n < n then kH f n + 1 else -1
  | _ => -1
def zE (f : Int → Int) (n : Int) : Nat → Int
  | 0 => if kC f n < kS f n then kC f n else -1
  | 1 => if kO f n = 1 then fli f 64 (kP f n + 2) (kA f n - 1) else -1
  | 2 => if kO f n = 1 then aE2 f (kP f n + 2) (kA f n) else -1
  | 3 => if kO f n = 1 then aE3 f (kP f n + 2) (kA f n) else -1
  | 4 => kQ f n
  | 5 => if kQ f n < kH f n then kH f n else -1
  | 6 => if kH f n < n then n else -1
  | _ => -1
theorem kP_st (f : Int → Int) (n : Int) : (kC f n < kS f n → kP f n = kC f n + 1) ∧ (kS f n ≤ kC f n → kP f n = 0) := by
  unfold kP; exact ⟨fun h => if_pos h, fun h => if_neg (by omega)⟩
theorem kO_st (f : Int → Int) (n : Int) : (kP f n + 2 ≤ kQ f n → f (kP f n) = 47 → f (kP f n + 1) = 47 → kO f n = 1) ∧ ((kQ f n < kP f n + 2 ∨ f (kP f n) ≠ 47 ∨ f (kP f n + 1) ≠ 47) → kO f n = 0) := by
  unfold kO; exact ⟨fun h g i => if_pos ⟨h, g, i⟩, fun h => if_neg (by omega)⟩
theorem zBE0 (f : Int → Int) (n : Int) : (kC f n < kS f n → zB f n 0 = 0 ∧ zE f n 0 = kC f n) ∧ (kS f n ≤ kC f n → zB f n 0 = -1 ∧ zE f n 0 = -1) := by
  simp only [zB, zE]; exact ⟨fun h => by rw [if_pos h, if_pos h]; exact ⟨rfl, rfl⟩, fun h => by rw [if_neg (by omega), if_neg (by omega)]; exact ⟨rfl, rfl⟩⟩
theorem zBE5 (f : Int → Int) (n : Int) : (kQ f n < kH f n → zB f n 5 = kQ f n + 1 ∧ zE f n 5 = kH f n) ∧ (kH f n ≤ kQ f n → zB f n 5 = -1 ∧ zE f n 5 = -1) := by
  simp only [zB, zE]; exact ⟨fun h => by rw [if_pos h, if_pos h]; exact ⟨rfl, rfl⟩, fun h => by rw [if_neg (by omega), if_neg (by omega)]; exact ⟨rfl, rfl⟩⟩
theorem zBE6 (f : Int → Int) (n : Int) : (kH f n < n → zB f n 6 = kH f n + 1 ∧ zE f n 6 = n) ∧ (n ≤ kH f n → zB f n 6 = -1 ∧ zE f n 6 = -1) := by
  simp only [zB, zE]; exact ⟨fun h => by rw [if_pos h, if_pos h]; exact ⟨rfl, rfl⟩, fun h => by rw [if_neg (by omega), if_neg (by omega)]; exact ⟨rfl, rfl⟩⟩
theorem zBEa (f : Int → Int) (n : Int) : zE f n 4 = kQ f n ∧ (kO f n = 1 → zB f n 1 = aS1 f (kP f n + 2) (kA f n) ∧ zE f n 1 = fli f 64 (kP f n + 2) (kA f n - 1) ∧ zB f n 2 = pB f (kP f n + 2) (kA f n) ∧ zE f n 2 = aE2 f (kP f n + 2) (kA f n) ∧ zB f n 3 = aS3 f (kP f n + 2) (kA f n) ∧ zE f n 3 = aE3 f (kP f n + 2) (kA f n) ∧ zB f n 4 = kA f n) ∧ (kO f n = 0 → zB f n 1 = -1 ∧ zE f n 1 = -1 ∧ zB f n 2 = -1 ∧ zE f n 2 = -1 ∧ zB f n 3 = -1 ∧ zE f n 3 = -1 ∧ zB f n 4 = kP f n) := by
  simp only [zB, zE]
  refine ⟨trivial, fun h => ?_, fun h => ?_⟩
  · simp only [if_pos h, and_self]
  · simp only [show ¬ kO f n = 1 by omega, if_false, and_self]
