set_option maxRecDepth 16384
/-! what a joined row has: from each part its bytes and marks -/
def zJ (sh : zSh) (m : Nat) (t : zSt) (p : Nat) : Int := if tg t (sr sh m 11) p = 0 then 0 else tg t (sr sh m 10) p + (if p = 0 then 1 else if p = 1 then 3 else if p = 2 then (if tg t (sr sh m 11) 1 = 0 then 2 else 0) else if p = 4 then 0 else 1)
def zJs (sh : zSh) (m : Nat) (t : zSt) : Nat → Int
  | 0 => 0
  | n + 1 => zJs sh m t n + zJ sh m t n
theorem zJ_nn {sh : zSh} {m : Nat} {t : zSt} (G : GI sh m t) {p : Nat} (h : p < 7) : 0 ≤ zJ sh m t p := by
  have g := (G.2.2.1 p h).1
  unfold zJ; omega
theorem zJs_s {sh : zSh} {m : Nat} {t : zSt} {x : Int} (h : 0 ≤ x) : zJs sh m t (x + 1).toNat = zJs sh m t x.toNat + zJ sh m t x.toNat := by
  rw [show (x + 1).toNat = x.toNat + 1 by omega]; rfl
theorem zJs_le {sh : zSh} {m : Nat} {t : zSt} (G : GI sh m t) {x : Int} (h0 : 0 ≤ x) (h : x ≤ 6) : zJs sh m t (x + 1).toNat ≤ zJs sh m t 7 := by
  have g0 := zJ_nn G (p := 0) (by decide)
  have g1 := zJ_nn G (p := 1) (by decide)
  have g2 := zJ_nn G (p := 2) (by decide)
  have g3 := zJ_nn G (p := 3) (by decide)
  have g4 := zJ_nn G (p := 4) (by decide)
  have g5 := zJ_nn G (p := 5) (by decide)
  have g6 := zJ_nn G (p := 6) (by decide)
  obtain ⟨n, rfl⟩ : ∃ n : Nat, x = n := ⟨x.toNat, by omega⟩
  rw [show ((n : Int) + 1).toNat = n + 1 by omega]
  rcases (by omega : n = 0 ∨ n = 1 ∨ n = 2 ∨ n = 3 ∨ n = 4 ∨ n = 5 ∨ n = 6) with e | e | e | e | e | e | e <;> subst e <;> simp only [zJs] <;> omega
theorem zJ_i {sh : zSh} {m : Nat} {t : zSt} {x : Int} (h : 0 ≤ x) : zJ sh m t x.toNat = if tg t (sr sh m 11) x.toNat = 0 then 0 else tg t (sr sh m 10) x.toNat + (if x = 0 then 1 else if x = 1 then 3 else if x = 2 then (if tg t (sr sh m 11) 1 = 0 then 2 else 0) else if x = 4 then 0 else 1) := by
  unfold zJ
  simp only [show (x.toNat = 0) = (x = 0) from propext (by omega), show (x.toNat = 1) = (x = 1) from propext (by omega), show (x.toNat = 2) = (x = 2) from propext (by omega), show (x.toNat = 4) = (x = 4) from propext (by omega)]
/-- no more than the parts' sizes and nine marks -/
theorem zJ7_le {sh : zSh} {m : Nat} {t : zSt} (G : GI sh m t) : zJs sh m t 7 ≤ tg t (sr sh m 10) 0 + tg t (sr sh m 10) 1 + tg t (sr sh m 10) 2 + tg t (sr sh m 10) 3 + tg t (sr sh m 10) 4 + tg t (sr sh m 10) 5 + tg t (sr sh m 10) 6 + 9 := by
  have k : ∀ p : Nat, p < 7 → zJ sh m t p ≤ tg t (sr sh m 10) p + (if p = 0 then 1 else if p = 1 then 3 else if p = 2 then 2 else if p = 4 then 0 else 1) := by
    intro p h
    have g := (G.2.2.1 p h).1
    unfold zJ; omega
  have g0 := k 0 (by decide)
  have g1 := k 1 (by decide)
  have g2 := k 2 (by decide)
  have g3 := k 3 (by decide)
  have g4 := k 4 (by decide)
  have g5 := k 5 (by decide)
  have g6 := k 6 (by decide)
  simp only [if_true, Nat.reduceEqDiff, if_false] at g0 g1 g2 g3 g4 g5 g6
  simp only [zJs]
  omega
theorem zP1_nn {b e : Int} (h : b ≤ e) : 0 ≤ zP1 b e := by unfold zP1; omega
theorem zU_nn {b e c f : Int} (h : b ≤ e) (g : c ≤ f) : 0 ≤ zU b e c f := by unfold zU; omega
theorem zJ_P {sh : zSh} {m : Nat} {t : zSt} {p : Nat} {b e : Int} (hp : p = 0 ∨ p = 3 ∨ p = 5 ∨ p = 6) (h : tg t (sr sh m 11) p = 0 ∨ 0 ≤ b) (hs : tg t (sr sh m 10) p = e - b) (hb : b ≤ e) : zJ sh m t p ≤ zP1 b e := by
  unfold zJ zP1; rcases hp with rfl | rfl | rfl | rfl <;> simp only [if_true, Nat.reduceEqDiff, if_false] <;> omega
theorem zJ_U {sh : zSh} {m : Nat} {t : zSt} {b e c f : Int} (h : tg t (sr sh m 11) 1 = 0 ∨ 0 ≤ b) (h2 : tg t (sr sh m 11) 2 = 0 ∨ 0 ≤ c) (hs : tg t (sr sh m 10) 1 = e - b) (hs2 : tg t (sr sh m 10) 2 = f - c) (hb : b ≤ e) (hc : c ≤ f) : zJ sh m t 1 + zJ sh m t 2 ≤ zU b e c f := by
  unfold zJ zU; simp only [if_true, Nat.reduceEqDiff, if_false]; omega
theorem zJ_4 {sh : zSh} {m : Nat} {t : zSt} (G : GI sh m t) : zJ sh m t 4 ≤ tg t (sr sh m 10) 4 := by
  have g := (G.2.2.1 4 (by decide)).1
  unfold zJ; simp only [if_true, Nat.reduceEqDiff, if_false]; omega
/-- a quotient by a number above zero -/
theorem oI_dv (a k : Int) (h : 0 ≤ a ∧ a ≤ 2147483647) (g : 0 < k ∧ k ≤ 2147483647) : (0 ≤ a / k ∧ a / k ≤ a) ∧ oI a / oI k = oI (a / k) := by
  refine ⟨⟨Int.ediv_nonneg h.1 (by omega), Int.ediv_le_self k h.1⟩, ?_⟩
  have q : (oI a / oI k).toInt = a / k := by
    have e1 : (oI a / oI k).toInt = ((oI a).toInt.tdiv (oI k).toInt).bmod (2 ^ 32) := Int32.toInt_div _ _
    rw [e1, oI_toInt (by omega) h.2, oI_toInt (by omega) g.2, Int.tdiv_eq_ediv_of_nonneg h.1]
    have l : a / k ≤ a := Int.ediv_le_self k h.1
    have l0 : 0 ≤ a / k := Int.ediv_nonneg h.1 (by omega)
    exact Int.bmod_eq_of_le (by omega) (by omega)
  rw [← q, oI_self]
theorem zJs_nn {sh : zSh} {m : Nat} {t : zSt} (G : GI sh m t) {x : Int} (h : x ≤ 7) : 0 ≤ zJs sh m t x.toNat := by
  have k : ∀ n : Nat, n ≤ 7 → 0 ≤ zJs sh m t n := by
    intro n; induction n with
    | zero => intro _; exact Int.le_refl 0
    | succ n ih => intro hn; have := ih (by omega); have := zJ_nn G (p := n) (by omega); show 0 ≤ zJs sh m t n + zJ sh m t n; omega
  exact k _ (by omega)
/-- what is joined depends on the laid sizes and marks alone -/
theorem zJs_eq {sh : zSh} {m : Nat} {t t' : zSt} (h : ∀ k, tg t' (sr sh m 10) k = tg t (sr sh m 10) k) (g : ∀ k, tg t' (sr sh m 11) k = tg t (sr sh m 11) k) (n : Nat) : zJs sh m t' n = zJs sh m t n := by
  induction n with
  | zero => rfl
  | succ n ih => show zJs sh m t' n + zJ sh m t' n = zJs sh m t n + zJ sh m t n; rw [ih]; unfold zJ; rw [h, g, g]
/-- the sizes of a row's parts together -/
def zSm (sh : zSh) (m : Nat) (t : zSt) (r : Int) : Int := (tg t (sr sh m 4) (7 * r + 0).toNat - tg t (sr sh m 3) (7 * r + 0).toNat) + (tg t (sr sh m 4) (7 * r + 1).toNat - tg t (sr sh m 3) (7 * r + 1).toNat) + (tg t (sr sh m 4) (7 * r + 2).toNat - tg t (sr sh m 3) (7 * r + 2).toNat) + (tg t (sr sh m 4) (7 * r + 3).toNat - tg t (sr sh m 3) (7 * r + 3).toNat) + (tg t (sr sh m 4) (7 * r + 4).toNat - tg t (sr sh m 3) (7 * r + 4).toNat) + (tg t (sr sh m 4) (7 * r + 5).toNat - tg t (sr sh m 3) (7 * r + 5).toNat) + (tg t (sr sh m 4) (7 * r + 6).toNat - tg t (sr sh m 3) (7 * r + 6).toNat)
theorem zSm_eq {sh : zSh} {m : Nat} {t t' : zSt} {r : Int} (h : ∀ k, tg t' (sr sh m 3) k = tg t (sr sh m 3) k) (g : ∀ k, tg t' (sr sh m 4) k = tg t (sr sh m 4) k) : zSm sh m t' r = zSm sh m t r := by
  unfold zSm; simp only [h, g]
theorem zSm_fr {sh : zSh} {m : Nat} {t t' : zSt} {r x : Int} (h : ∀ i : Nat, ((i : Int) < 7 * x ∨ 7 * x + 7 ≤ (i : Int)) → tg t' (sr sh m 3) i = tg t (sr sh m 3) i ∧ tg t' (sr sh m 4) i = tg t (sr sh m 4) i) (hr : 0 ≤ r) (hx : 0 ≤ x) (ne : r ≠ x) : zSm sh m t' r = zSm sh m t r := by
  unfold zSm
  rw [(h (7 * r + 0).toNat (by omega)).1, (h (7 * r + 0).toNat (by omega)).2, (h (7 * r + 1).toNat (by omega)).1, (h (7 * r + 1).toNat (by omega)).2, (h (7 * r + 2).toNat (by omega)).1, (h (7 * r + 2).toNat (by omega)).2, (h (7 * r + 3).toNat (by omega)).1, (h (7 * r + 3).toNat (by omega)).2, (h (7 * r + 4).toNat (by omega)).1, (h (7 * r + 4).toNat (by omega)).2, (h (7 * r + 5).toNat (by omega)).1, (h (7 * r + 5).toNat (by omega)).2, (h (7 * r + 6).toNat (by omega)).1, (h (7 * r + 6).toNat (by omega)).2]
theorem zSm_fr2 {sh : zSh} {m : Nat} {t t' : zSt} {r x : Int} (h : ∀ i : Nat, ((i : Int) < 7 * x ∨ 7 * x + 7 ≤ (i : Int)) → tg t' (sr sh m 3) i = tg t (sr sh m 3) i ∧ tg t' (sr sh m 4) i = tg t (sr sh m 4) i) (hr : 0 ≤ r) (hx : 0 ≤ x) {B : Int} (h1 : zSm sh m t r ≤ B) (h2 : zSm sh m t' x ≤ B) : zSm sh m t' r ≤ B := by
  by_cases e : r = x
  · rw [e]; exact h2
  · rw [zSm_fr h hr hx e]; exact h1
/-- how many digits there are to come -/
def zdg (u : Int) : Int := if 4096 ≤ u then 4 else if 256 ≤ u then 3 else if 16 ≤ u then 2 else if 1 ≤ u then 1 else 0
theorem zdg_nn (u : Int) : 0 ≤ zdg u := by unfold zdg; omega
theorem zdg_le (u : Int) : zdg u ≤ 4 := by unfold zdg; omega
theorem zdg_dv {u : Int} (h : 0 < u) (g : u ≤ 4096) : zdg (u / 16) + 1 ≤ zdg u := by unfold zdg; omega
theorem zJ_eq {sh : zSh} {m : Nat} {t t' : zSt} {p : Nat} (h : tg t' (sr sh m 10) p = tg t (sr sh m 10) p) (g : ∀ k, tg t' (sr sh m 11) k = tg t (sr sh m 11) k) : zJ sh m t' p = zJ sh m t p := by
  unfold zJ; rw [h, g, g]
/-! counting in a part -/
def zkn (f : Int → Int) (b from_ : Int) : Nat → Int
  | 0 => 0
  | n + 1 => zkn f b from_ n + (if f (from_ + n) = b then 1 else 0)
theorem zkn_nn (f : Int → Int) (b a : Int) (n : Nat) : 0 ≤ zkn f b a n ∧ zkn f b a n ≤ n := by
  induction n with
  | zero => exact ⟨Int.le_refl 0, Int.le_refl 0⟩
  | succ n ih => show 0 ≤ zkn f b a n + (if f (a + n) = b then 1 else 0) ∧ zkn f b a n + (if f (a + n) = b then 1 else 0) ≤ _; omega
theorem zkn_mono (f : Int → Int) (b a : Int) {n k : Nat} (h : n ≤ k) : zkn f b a n ≤ zkn f b a k := by
  induction k with
  | zero => rw [show n = 0 by omega]; exact Int.le_refl _
  | succ k ih =>
    by_cases e : n = k + 1
    · rw [e]; exact Int.le_refl _
    · have := ih (by omega); show _ ≤ zkn f b a k + (if f (a + k) = b then 1 else 0); omega
theorem zkn_s (f : Int → Int) (b a : Int) {k : Int} (h : a ≤ k) : zkn f b a (k + 1 - a).toNat = zkn f b a (k - a).toNat + (if f k = b then 1 else 0) := by
  rw [show (k + 1 - a).toNat = (k - a).toNat + 1 by omega]
  show zkn f b a (k - a).toNat + (if f (a + ((k - a).toNat : Nat)) = b then 1 else 0) = _
  rw [show a + (((k - a).toNat : Nat) : Int) = k by omega]
theorem zpa_eq {sh : zSh} {m : Nat} {t t' : zSt} (h1 : ∀ k, tg t' (sr sh m 1) k = tg t (sr sh m 1) k) (h2 : ∀ k, tg t' (sr sh m 2) k = tg t (sr sh m 2) k) (h3 : ∀ k, tg t' (sr sh m 3) k = tg t (sr sh m 3) k) (h4 : ∀ k, tg t' (sr sh m 4) k = tg t (sr sh m 4) k) (r p : Int) : zpa sh m t' r p = zpa sh m t r p := by
  funext k; unfold zpa zat; simp only [h1, h2, h3, h4]
