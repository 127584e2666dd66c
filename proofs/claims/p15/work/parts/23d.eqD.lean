set_option maxRecDepth 16384
/-! p3: hosts of a later kind, bytes and codes, both ways the same -/
/-- the program: a v, then digits of base 16, a point, signs -/
def pFu (c : Int) : Int := if pFree c = 1 ∨ pSub c = 1 ∨ c = 58 then 1 else 0
def cFut (f : Int → Int) (a e : Int) : Prop := a < e ∧ (f a = 118 ∨ f a = 86) ∧ pAll pHx f (a + 1) (fn f 46 a e) ∧ pAll pFu f (fn f 46 a e + 1) e ∧ a + 1 < fn f 46 a e ∧ fn f 46 a e < e - 1
def mFut (f : Int → Int) (a e : Int) : Prop := ((f a = 118 ∨ f a = 86) ∧ a + 2 ≤ fn f 46 a e ∧ fn f 46 a e < e - 1) ∧ ∀ k, a + 1 ≤ k → k < e → ((k < fn f 46 a e ∧ pHx (f k) = 1) ∨ (fn f 46 a e ≤ k ∧ pFu (f k) = 1))
theorem fut_eq {f : Int → Int} {a e : Int} (h : a < e) : cFut f a e ↔ mFut f a e := by
  obtain ⟨r1, r2⟩ := fn_rng f 46 (show a ≤ e by omega)
  constructor
  · rintro ⟨-, h1, h2, h3, h4, h5⟩
    refine ⟨⟨h1, by omega, h5⟩, fun k k1 k2 => ?_⟩
    rcases Int.lt_or_le k (fn f 46 a e) with w | w
    · exact Or.inl ⟨w, h2 k k1 w⟩
    · refine Or.inr ⟨w, ?_⟩
      by_cases g : k = fn f 46 a e
      · rw [g, fn_hit f 46 (by omega) (by omega)]; decide
      · exact h3 k (by omega) k2
  · rintro ⟨⟨h1, h2, h3⟩, h4⟩
    refine ⟨h, h1, fun k k1 k2 => ?_, fun k k1 k2 => ?_, by omega, h3⟩
    · rcases h4 k k1 (by omega) with w | w
      · exact w.2
      · omega
    · rcases h4 k (by omega) k2 with w | w
      · omega
      · exact w.2
/-! bytes that may stand, codes -/
def pEx (p c : Int) : Int := if (p = 1 ∧ c = 58) ∨ (4 ≤ p ∧ (c = 58 ∨ c = 64 ∨ c = 47)) ∨ (5 ≤ p ∧ c = 63) then 1 else 0
def pMayM (p c : Int) : Int := if p = 3 then pDig c else if pFree c = 1 ∨ pSub c = 1 ∨ pEx p c = 1 then 1 else 0
def pMayC (p c : Int) : Int := if p = 3 then pDig c else if pFree c = 1 ∨ pSub c = 1 ∨ c = 37 ∨ pEx p c = 1 then 1 else 0
def isCd (f : Int → Int) (k : Int) : Prop := f k = 37 ∧ 0 ≤ pHex (f (k + 1)) ∧ 0 ≤ pHex (f (k + 2))
theorem pMay_37 {p c : Int} (h : c ≠ 37) : pMayM p c = pMayC p c := by unfold pMayM pMayC; simp only [h, false_or]
theorem pMay_hex {p c : Int} (hp : p ≠ 3) (h : 0 ≤ pHex c) : pMayC p c = 1 := by
  have : pFree c = 1 := by unfold pFree pLet pDig; unfold pHex at h; omega
  unfold pMayC; rw [if_neg hp, if_pos (Or.inl this)]
theorem pMay_c {p : Int} (hp : p ≠ 3) : pMayC p 37 = 1 := by unfold pMayC; rw [if_neg hp, if_pos (Or.inr (Or.inr (Or.inl rfl)))]
/-- the model's walk over a part: whether it meets a wrong byte -/
def wk (f : Int → Int) (p e : Int) : Nat → Int → Prop
  | 0, _ => False
  | n + 1, k => k < e ∧ ((¬ (p ≠ 3 ∧ isCd f k) ∧ pMayM p (f k) ≠ 1) ∨ ((p ≠ 3 ∧ isCd f k) ∧ wk f p e n (k + 3)) ∨ (¬ (p ≠ 3 ∧ isCd f k) ∧ wk f p e n (k + 1)))
theorem wk_eq {f : Int → Int} {p e : Int} (hc : ∀ k, 0 ≤ k → k < e → f k = 37 → isCd f k) : ∀ (n : Nat) (k : Int), 0 ≤ k → (e - k).toNat ≤ n → (wk f p e n k ↔ ∃ i, k ≤ i ∧ i < e ∧ pMayC p (f i) ≠ 1) := by
  intro n
  induction n with
  | zero => intro k _ hn; exact ⟨fun q => q.elim, fun ⟨i, h1, h2, _⟩ => by omega⟩
  | succ n ih =>
    intro k hk hn
    constructor
    · rintro ⟨h, ⟨h1, h2⟩ | ⟨h1, h2⟩ | ⟨h1, h2⟩⟩
      · refine ⟨k, Int.le_refl _, h, ?_⟩
        by_cases c : f k = 37
        · have hp : p = 3 := by
            rcases Classical.em (p = 3) with w | w
            · exact w
            · exact absurd ⟨w, hc k hk h c⟩ h1
          rw [hp, c]; decide
        · rw [← pMay_37 c]; exact h2
      · obtain ⟨i, w1, w2, w3⟩ := (ih (k + 3) (by omega) (by omega)).mp h2
        exact ⟨i, by omega, w2, w3⟩
      · obtain ⟨i, w1, w2, w3⟩ := (ih (k + 1) (by omega) (by omega)).mp h2
        exact ⟨i, by omega, w2, w3⟩
    · rintro ⟨i, h1, h2, h3⟩
      have hke : k < e := by omega
      refine ⟨hke, ?_⟩
      by_cases c : p ≠ 3 ∧ isCd f k
      · refine Or.inr (Or.inl ⟨c, (ih (k + 3) (by omega) (by omega)).mpr ⟨i, ?_, h2, h3⟩⟩)
        rcases (show i = k ∨ i = k + 1 ∨ i = k + 2 ∨ k + 3 ≤ i by omega) with w | w | w | w
        · rw [w, c.2.1] at h3; exact absurd (pMay_c c.1) h3
        · rw [w] at h3; exact absurd (pMay_hex c.1 c.2.2.1) h3
        · rw [w] at h3; exact absurd (pMay_hex c.1 c.2.2.2) h3
        · exact w
      · by_cases d : pMayM p (f k) = 1
        · refine Or.inr (Or.inr ⟨c, (ih (k + 1) (by omega) (by omega)).mpr ⟨i, ?_, h2, h3⟩⟩)
          rcases (show i = k ∨ k + 1 ≤ i by omega) with w | w
          · exfalso
            rw [w] at h3
            by_cases g : f k = 37
            · by_cases hp : p = 3
              · rw [hp, g] at d; exact absurd d (by decide)
              · exact c ⟨hp, hc k hk hke g⟩
            · rw [pMay_37 g] at d; exact h3 d
          · exact w
        · exact Or.inl ⟨c, d⟩
