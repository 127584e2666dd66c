set_option maxRecDepth 16384
/-! p3: what both sides read of a text f (f k a byte, -1 where there is none): the places of signs -/
def fnA (f : Int → Int) (b : Int) : Int → Nat → Int
  | a, 0 => a
  | a, n + 1 => if f a = b then a else fnA f b (a + 1) n
/-- the first b from a on, or e (a, if a is behind e) -/
def fn (f : Int → Int) (b a e : Int) : Int := fnA f b a (e - a).toNat
theorem fn_ge {f : Int → Int} {b a e : Int} (h : e ≤ a) : fn f b a e = a := by
  unfold fn; rw [show (e - a).toNat = 0 by omega]; rfl
theorem fn_lt {f : Int → Int} {b a e : Int} (h : a < e) : fn f b a e = if f a = b then a else fn f b (a + 1) e := by
  unfold fn; rw [show (e - a).toNat = (e - (a + 1)).toNat + 1 by omega]; rfl
theorem fn_spec (f : Int → Int) (b e : Int) : ∀ (n : Nat) (a : Int), (e - a).toNat = n → a ≤ e → a ≤ fn f b a e ∧ fn f b a e ≤ e ∧ (fn f b a e < e → f (fn f b a e) = b) ∧ ∀ k, a ≤ k → k < fn f b a e → f k ≠ b := by
  intro n
  induction n with
  | zero => intro a hn h; rw [fn_ge (by omega)]; exact ⟨by omega, h, fun q => by omega, fun k h1 h2 => by omega⟩
  | succ n ih =>
    intro a hn h
    rw [fn_lt (by omega)]
    by_cases c : f a = b
    · rw [if_pos c]; exact ⟨by omega, h, fun _ => c, fun k h1 h2 => by omega⟩
    · rw [if_neg c]
      obtain ⟨h1, h2, h3, h4⟩ := ih (a + 1) (by omega) (by omega)
      refine ⟨by omega, h2, h3, fun k g1 g2 => ?_⟩
      by_cases e : k = a
      · rw [e]; exact c
      · exact h4 k (by omega) g2
theorem fn_rng (f : Int → Int) (b : Int) {a e : Int} (h : a ≤ e) : a ≤ fn f b a e ∧ fn f b a e ≤ e := ⟨(fn_spec f b e _ a rfl h).1, (fn_spec f b e _ a rfl h).2.1⟩
theorem fn_hit (f : Int → Int) (b : Int) {a e : Int} (h : a ≤ e) (g : fn f b a e < e) : f (fn f b a e) = b := (fn_spec f b e _ a rfl h).2.2.1 g
theorem fn_no (f : Int → Int) (b : Int) {a e : Int} (h : a ≤ e) {k : Int} (h1 : a ≤ k) (h2 : k < fn f b a e) : f k ≠ b := (fn_spec f b e _ a rfl h).2.2.2 k h1 h2
/-- it is told by what it is -/
theorem fn_is {f : Int → Int} {b a e x : Int} (h1 : a ≤ x) (h2 : x ≤ e) (h3 : x < e → f x = b) (h4 : ∀ k, a ≤ k → k < x → f k ≠ b) : fn f b a e = x := by
  obtain ⟨g1, g2⟩ := fn_rng f b (a := a) (e := e) (by omega)
  rcases Int.lt_trichotomy (fn f b a e) x with g | g | g
  · exact absurd (fn_hit f b (by omega) (by omega)) (h4 _ g1 g)
  · exact g
  · exact absurd (h3 (by omega)) (fn_no f b (by omega) h1 g)
/-! kinds of signs -/
def pLet (c : Int) : Int := if (65 ≤ c ∧ c ≤ 90) ∨ (97 ≤ c ∧ c ≤ 122) then 1 else 0
def pDig (c : Int) : Int := if 48 ≤ c ∧ c ≤ 57 then 1 else 0
def pFree (c : Int) : Int := if pLet c = 1 ∨ pDig c = 1 ∨ c = 45 ∨ c = 46 ∨ c = 95 ∨ c = 126 then 1 else 0
def pSub (c : Int) : Int := if c = 33 ∨ c = 36 ∨ (38 ≤ c ∧ c ≤ 44) ∨ c = 59 ∨ c = 61 then 1 else 0
def pHex (c : Int) : Int := if 48 ≤ c ∧ c ≤ 57 then c - 48 else if 97 ≤ c ∧ c ≤ 102 then c - 87 else if 65 ≤ c ∧ c ≤ 70 then c - 55 else -1
/-- all signs of a stretch are such -/
def pAll (p : Int → Int) (f : Int → Int) (a e : Int) : Prop := ∀ k, a ≤ k → k < e → p (f k) = 1
def pHx (c : Int) : Int := if 0 ≤ pHex c then 1 else 0
/-! four numbers: the program's way -/
/-- a number of digits up to 255, without a 0 ahead -/
def cN (f : Int → Int) (a e : Int) : Prop := 1 ≤ e - a ∧ e - a ≤ 3 ∧ ¬ (1 < e - a ∧ f a = 48) ∧ pAll pDig f a e ∧ (if e - a = 1 then f a - 48 else if e - a = 2 then 10 * (f a - 48) + (f (a + 1) - 48) else 100 * (f a - 48) + 10 * (f (a + 1) - 48) + (f (a + 2) - 48)) ≤ 255
def cfn (f : Int → Int) (b a e : Int) : Int := if a ≤ e then fn f b a e else e
def cF (f : Int → Int) (a e : Int) : Prop :=
  cN f a (cfn f 46 a e) ∧ cN f (cfn f 46 a e + 1) (cfn f 46 (cfn f 46 a e + 1) e) ∧ cN f (cfn f 46 (cfn f 46 a e + 1) e + 1) (cfn f 46 (cfn f 46 (cfn f 46 a e + 1) e + 1) e) ∧ cN f (cfn f 46 (cfn f 46 (cfn f 46 a e + 1) e + 1) e + 1) e
/-! four numbers: the model's way, a sign at a time -/
def mF (f : Int → Int) (e : Int) : Nat → Int → Int → Int → Int → Bool
  | 0, _, m, _, _ => decide (m = 4)
  | n + 1, k, m, v, d =>
    if (if k < e then f k else 46) = 46 then (if d = 0 ∨ 3 < d ∨ 255 < v ∨ (1 < d ∧ f (k - d) = 48) ∨ m = 4 then false else mF f e n (k + 1) (m + 1) 0 0)
    else if pDig (f k) = 1 then mF f e n (k + 1) m (if d < 4 then 10 * v + f k - 48 else v) (d + 1) else false
/-- the number's value after d of its digits, no more than four of them -/
def pVal (f : Int → Int) (a : Int) : Nat → Int
  | 0 => 0
  | d + 1 => if d < 4 then 10 * pVal f a d + f (a + d) - 48 else pVal f a d
/-- one number: from its first sign to the point behind it, or to the end -/
theorem mF_num (f : Int → Int) (a e : Int) (m : Int) (s : Int) (hs : s = fn f 46 a e) (ha : a ≤ e) : ∀ (j : Nat) (d : Nat), (s - (a + d)).toNat = j → a + (d : Int) ≤ s → pAll pDig f a (a + d) →
    (mF f e (e + 1 - (a + d)).toNat (a + d) m (pVal f a d) d = true ↔
      pAll pDig f a s ∧ ¬ (s - a = 0 ∨ 3 < s - a ∨ 255 < pVal f a (s - a).toNat ∨ (1 < s - a ∧ f a = 48) ∨ m = 4) ∧ mF f e (e - s).toNat (s + 1) (m + 1) 0 0 = true) := by
  obtain ⟨r1, r2⟩ := fn_rng f 46 ha
  rw [← hs] at r1 r2
  have hit : s < e → f s = 46 := fun g => by rw [hs]; exact fn_hit f 46 ha (by rw [← hs]; exact g)
  have no : ∀ k, a ≤ k → k < s → f k ≠ 46 := fun k h1 h2 => fn_no f 46 ha h1 (by rw [← hs]; exact h2)
  intro j
  induction j with
  | zero =>
    intro d hj hd hp
    have he : a + (d : Int) = s := by omega
    have hn : (e + 1 - (a + d)).toNat = (e - s).toNat + 1 := by omega
    have hd2 : (s - a).toNat = d := by omega
    have hd3 : s - a = d := by omega
    rw [hn, mF, hd2, hd3, he]
    have h46 : (if s < e then f s else 46) = 46 := by
      by_cases g : s < e
      · rw [if_pos g]; exact hit g
      · rw [if_neg g]
    rw [if_pos h46, show s - (d : Int) = a by omega]
    rw [he] at hp
    by_cases c : ((d : Int) = 0 ∨ 3 < (d : Int) ∨ 255 < pVal f a d ∨ (1 < (d : Int) ∧ f a = 48) ∨ m = 4)
    · rw [if_pos c]; exact ⟨fun q => (by cases q), fun q => absurd c q.2.1⟩
    · rw [if_neg c]; exact ⟨fun q => ⟨hp, c, q⟩, fun q => q.2.2⟩
  | succ j ih =>
    intro d hj hd hp
    have hlt : a + (d : Int) < s := by omega
    have hn : (e + 1 - (a + d)).toNat = (e + 1 - (a + ((d + 1 : Nat) : Int))).toNat + 1 := by omega
    rw [hn, mF, if_neg (by rw [if_pos (by omega)]; exact no _ (by omega) hlt)]
    by_cases c : pDig (f (a + d)) = 1
    · rw [if_pos c]
      have hv : (if (d : Int) < 4 then 10 * pVal f a d + f (a + d) - 48 else pVal f a d) = pVal f a (d + 1) := by
        show _ = if d < 4 then _ else _
        by_cases g : d < 4
        · rw [if_pos g, if_pos (by omega)]
        · rw [if_neg g, if_neg (by omega)]
      rw [hv, show a + (d : Int) + 1 = a + ((d + 1 : Nat) : Int) by omega, show (d : Int) + 1 = ((d + 1 : Nat) : Int) by omega]
      refine ih (d + 1) (by omega) (by omega) (fun k h1 h2 => ?_)
      by_cases g : k = a + d
      · rw [g]; exact c
      · exact hp k h1 (by omega)
    · rw [if_neg c]; exact ⟨fun q => (by cases q), fun q => absurd (q.1 _ (by omega) hlt) c⟩
