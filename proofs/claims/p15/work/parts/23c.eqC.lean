set_option maxRecDepth 16384
/-! p3: addresses of six, both ways the same -/
def pG (f : Int → Int) (a e : Int) : Prop := 1 ≤ e - a ∧ e - a ≤ 4 ∧ pAll pHx f a e
def isG (f : Int → Int) (e k : Int) : Prop := k + 2 ≤ e ∧ f k = 58 ∧ f (k + 1) = 58
/-- one group, or four numbers at the end -/
def gT (f : Int → Int) (e : Int) (la : Prop) (k c c' : Int) : Prop := (la ∧ fn f 58 k e = e ∧ cF f k e ∧ c' = c + 2) ∨ (pG f k (fn f 58 k e) ∧ c' = c + 1)
/-- the model's groups from k to e: r of them in the end -/
def mG (f : Int → Int) (e : Int) (la : Prop) : Nat → Int → Int → Int → Prop
  | 0, k, c, r => e ≤ k ∧ r = c
  | n + 1, k, c, r => (e ≤ k ∧ r = c) ∨ (k < e ∧ ∃ c', gT f e la k c c' ∧ fn f 58 k e ≠ e - 1 ∧ mG f e la n (fn f 58 k e + 1) c' r)
/-- the program's rounds: whether all is well in the end -/
def cS (f : Int → Int) (e : Int) : Nat → Int → Int → Prop → Prop
  | 0, i, c, g => e ≤ i ∧ ((g ∧ c ≤ 7) ∨ (¬ g ∧ c = 8))
  | n + 1, i, c, g => (e ≤ i ∧ ((g ∧ c ≤ 7) ∨ (¬ g ∧ c = 8))) ∨ (i < e ∧ c < 8 ∧ ∃ c', gT f e True i c c' ∧ c' ≤ 8 ∧ ¬ (g ∧ isG f e (fn f 58 i e)) ∧ fn f 58 i e ≠ e - 1 ∧ ((isG f e (fn f 58 i e) ∧ cS f e n (fn f 58 i e + 2) c' True) ∨ (¬ isG f e (fn f 58 i e) ∧ cS f e n (fn f 58 i e + 1) c' g)))
theorem mG_mono {f : Int → Int} {e : Int} {la : Prop} : ∀ (n : Nat) (k c r : Int), mG f e la n k c r → c ≤ r := by
  intro n
  induction n with
  | zero => rintro k c r ⟨-, h⟩; omega
  | succ n ih =>
    rintro k c r (⟨-, h⟩ | ⟨-, c', h, -, h2⟩)
    · omega
    · have := ih _ _ _ h2
      rcases h with ⟨-, -, -, h⟩ | ⟨-, h⟩ <;> omega
theorem mG_lt {f : Int → Int} {e : Int} {la : Prop} {n : Nat} {k c r : Int} (h : mG f e la n k c r) (g : k < e) : c < r := by
  cases n with
  | zero => have := h.1; omega
  | succ n =>
    rcases h with ⟨h, -⟩ | ⟨-, c', h, -, h2⟩
    · omega
    · have := mG_mono _ _ _ _ h2
      rcases h with ⟨-, -, -, h⟩ | ⟨-, h⟩ <;> omega
theorem gT_no {f : Int → Int} {e k c c' : Int} {la : Prop} (h : k + 1 ≤ e) (g : f k = 58) (ne : k < e) : ¬ gT f e la k c c' ∨ e = k := by
  left
  have e1 : fn f 58 k e = k := by rw [fn_lt ne, if_pos g]
  rintro (⟨-, q, -⟩ | ⟨q, -⟩)
  · rw [e1] at q; omega
  · rw [e1] at q; have := q.1; omega
theorem six_A {f : Int → Int} {e : Int} : ∀ (n : Nat) (i c : Int), (e + 2 - i).toNat ≤ n → (cS f e n i c True ↔ ∃ r, mG f e True n i c r ∧ r ≤ 7) := by
  intro n
  induction n with
  | zero =>
    intro i c hn
    constructor
    · rintro ⟨h, ⟨-, h2⟩ | ⟨h2, -⟩⟩
      · exact ⟨c, ⟨h, rfl⟩, h2⟩
      · exact absurd trivial h2
    · rintro ⟨r, ⟨h, rfl⟩, h2⟩; exact ⟨h, Or.inl ⟨trivial, h2⟩⟩
  | succ n ih =>
    intro i c hn
    constructor
    · rintro (⟨h, ⟨-, h2⟩ | ⟨h2, -⟩⟩ | ⟨hi, hc, c', ht, hc', hg, hs, h⟩)
      · exact ⟨c, Or.inl ⟨h, rfl⟩, h2⟩
      · exact absurd trivial h2
      · have hs2 := (fn_rng f 58 (show i ≤ e by omega)).1
        rcases h with ⟨h, -⟩ | ⟨-, h⟩
        · exact absurd ⟨trivial, h⟩ hg
        · obtain ⟨r, h1, h2⟩ := (ih _ _ (by omega)).mp h
          exact ⟨r, Or.inr ⟨hi, c', ht, hs, h1⟩, h2⟩
    · rintro ⟨r, ⟨h, rfl⟩ | ⟨hi, c', ht, hs, h⟩, h2⟩
      · exact Or.inl ⟨h, Or.inl ⟨trivial, h2⟩⟩
      · have hs2 := fn_rng f 58 (show i ≤ e by omega)
        have hm := mG_mono _ _ _ _ h
        have hcc : c < c' := by rcases ht with ⟨-, -, -, q⟩ | ⟨-, q⟩ <;> omega
        have ng : ¬ isG f e (fn f 58 i e) := by
          rintro ⟨g1, g2, g3⟩
          cases n with
          | zero => have := h.1; omega
          | succ n =>
            rcases h with ⟨h, -⟩ | ⟨h, c2, h3, -⟩
            · omega
            · rcases gT_no (f := f) (la := True) (c := c') (c' := c2) (show fn f 58 i e + 1 + 1 ≤ e by omega) g3 h with q | q
              · exact q h3
              · omega
        exact Or.inr ⟨hi, by omega, c', ht, by omega, fun q => ng q.2, hs, Or.inr ⟨ng, (ih _ _ (by omega)).mpr ⟨r, h, h2⟩⟩⟩
theorem six_B1 {f : Int → Int} {e : Int} : ∀ (n : Nat) (i c : Int), (e + 2 - i).toNat ≤ n → (∀ k, i ≤ k → ¬ isG f e k) → (cS f e n i c False ↔ mG f e True n i c 8) := by
  intro n
  induction n with
  | zero =>
    intro i c hn _
    constructor
    · rintro ⟨h, ⟨h2, -⟩ | ⟨-, h2⟩⟩
      · exact h2.elim
      · exact ⟨h, h2.symm⟩
    · rintro ⟨h, h2⟩; exact ⟨h, Or.inr ⟨id, h2.symm⟩⟩
  | succ n ih =>
    intro i c hn hg
    constructor
    · rintro (⟨h, ⟨h2, -⟩ | ⟨-, h2⟩⟩ | ⟨hi, hc, c', ht, hc', -, hs, h⟩)
      · exact h2.elim
      · exact Or.inl ⟨h, h2.symm⟩
      · have hs2 := (fn_rng f 58 (show i ≤ e by omega)).1
        rcases h with ⟨h, -⟩ | ⟨-, h⟩
        · exact absurd h (hg _ hs2)
        · exact Or.inr ⟨hi, c', ht, hs, (ih _ _ (by omega) (fun k hk => hg k (by omega))).mp h⟩
    · rintro (⟨h, h2⟩ | ⟨hi, c', ht, hs, h⟩)
      · exact Or.inl ⟨h, Or.inr ⟨id, h2.symm⟩⟩
      · have hs2 := (fn_rng f 58 (show i ≤ e by omega)).1
        have hm := mG_mono _ _ _ _ h
        have hcc : c < c' := by rcases ht with ⟨-, -, -, q⟩ | ⟨-, q⟩ <;> omega
        exact Or.inr ⟨hi, by omega, c', ht, hm, fun q => q.1, hs, Or.inr ⟨hg _ hs2, (ih _ _ (by omega) (fun k hk => hg k (by omega))).mpr h⟩⟩
/-- enough rounds are enough -/
theorem mG_n {f : Int → Int} {e : Int} {la : Prop} : ∀ (n n2 : Nat) (k c r : Int), (e + 2 - k).toNat ≤ n → (e + 2 - k).toNat ≤ n2 → (mG f e la n k c r ↔ mG f e la n2 k c r) := by
  intro n
  induction n with
  | zero =>
    intro n2 k c r h1 h2
    cases n2 with
    | zero => exact Iff.rfl
    | succ n2 => exact ⟨fun q => Or.inl q, fun q => q.elim id (fun q => by have := q.1; omega)⟩
  | succ n ih =>
    intro n2 k c r h1 h2
    cases n2 with
    | zero => exact ⟨fun q => q.elim id (fun q => by have := q.1; omega), fun q => Or.inl q⟩
    | succ n2 =>
      refine or_congr Iff.rfl (and_congr_right fun hk => exists_congr fun c' => and_congr_right fun _ => and_congr_right fun _ => ?_)
      have hs := (fn_rng f 58 (show k ≤ e by omega)).1
      exact ih n2 _ _ _ (by omega) (by omega)
def mGs (f : Int → Int) (e : Int) (la : Prop) (k c r : Int) : Prop := mG f e la (e + 2 - k).toNat k c r
theorem mGs_st {f : Int → Int} {e : Int} {la : Prop} {k c r : Int} : mGs f e la k c r ↔ (e ≤ k ∧ r = c) ∨ (k < e ∧ ∃ c', gT f e la k c c' ∧ fn f 58 k e ≠ e - 1 ∧ mGs f e la (fn f 58 k e + 1) c' r) := by
  unfold mGs
  rw [mG_n _ ((e + 2 - k).toNat + 1) k c r (Nat.le_refl _) (by omega)]
  refine or_congr Iff.rfl (and_congr_right fun hk => exists_congr fun c' => and_congr_right fun _ => and_congr_right fun _ => ?_)
  have hs := (fn_rng f 58 (show k ≤ e by omega)).1
  exact mG_n _ _ _ _ _ (by omega) (by omega)
theorem mGs_mono {f : Int → Int} {e : Int} {la : Prop} {k c r : Int} (h : mGs f e la k c r) : c ≤ r := mG_mono _ _ _ _ h
theorem fn_cut {f : Int → Int} {b i g e : Int} (h1 : i ≤ g) (h2 : g ≤ e) (h : f g = b) : fn f b i g = fn f b i e := by
  obtain ⟨r1, r2⟩ := fn_rng f b (show i ≤ e by omega)
  have hg : fn f b i e ≤ g := by
    rcases Int.lt_or_le g (fn f b i e) with q | q
    · exact absurd h (fn_no f b (by omega) h1 q)
    · exact q
  exact fn_is r1 hg (fun q => fn_hit f b (by omega) (by omega)) (fun k q1 q2 => fn_no f b (by omega) q1 q2)
theorem six_B2 {f : Int → Int} {e g : Int} (hg : isG f e g) : ∀ (n : Nat) (i c : Int), (e + 2 - i).toNat ≤ n → i < g → (∀ k, i ≤ k → k < g → ¬ isG f e k) → (cS f e n i c False ↔ ∃ c1 r, mGs f g False i c c1 ∧ mGs f e True (g + 2) c1 r ∧ r ≤ 7) := by
  intro n
  obtain ⟨g1, g2, g3⟩ := id hg
  induction n with
  | zero => intro i c hn hi; omega
  | succ n ih =>
    intro i c hn hi hf
    have hc := fn_cut (f := f) (b := 58) (i := i) (g := g) (e := e) (by omega) (by omega) g2
    obtain ⟨s1, s2⟩ := fn_rng f 58 (show i ≤ g by omega)
    obtain ⟨s, hs⟩ : ∃ s, s = fn f 58 i g := ⟨_, rfl⟩
    have hse : fn f 58 i e = s := by rw [hs, hc]
    rw [← hs] at s1 s2
    have hit : s < e → f s = 58 := fun q => by rw [← hse]; exact fn_hit f 58 (by omega) (by rw [hse]; exact q)
    have hsg : s < g → ¬ isG f e s := fun q => hf s s1 q
    have hs1 : s < g → s + 1 < g := fun q => by
      rcases Int.lt_or_le (s + 1) g with w | w
      · exact w
      · exact absurd ⟨by omega, hit (by omega), by rw [show s + 1 = g by omega]; exact g2⟩ (hsg q)
    constructor
    · rintro (⟨h, -⟩ | ⟨-, hc8, c', ht, hc', -, -, h⟩)
      · omega
      · rw [hse] at h
        have ht2 : gT f g False i c c' := by
          rcases ht with ⟨-, q, -⟩ | ⟨q, q2⟩
          · rw [hse] at q; omega
          · rw [hse] at q; exact Or.inr ⟨by rw [← hs]; exact q, q2⟩
        rcases h with ⟨h, h2⟩ | ⟨h, h2⟩
        · have e1 : s = g := by
            rcases Int.lt_or_le s g with w | w
            · exact absurd h (hsg w)
            · omega
          rw [e1] at h2
          obtain ⟨r, k1, k2⟩ := (six_A n (g + 2) c' (by omega)).mp h2
          refine ⟨c', r, mGs_st.mpr (Or.inr ⟨hi, c', ht2, by rw [← hs]; omega, mGs_st.mpr (Or.inl ⟨by rw [← hs]; omega, rfl⟩)⟩), (mG_n _ _ _ _ _ (by omega) (Nat.le_refl _)).mp k1, k2⟩
        · have e1 : s < g := by
            rcases Int.lt_or_le s g with w | w
            · exact w
            · exact absurd (show isG f e s by rw [show s = g by omega]; exact hg) h
          obtain ⟨c1, r, k1, k2, k3⟩ := (ih (s + 1) c' (by omega) (hs1 e1) (fun k w1 w2 => hf k (by omega) w2)).mp h2
          exact ⟨c1, r, mGs_st.mpr (Or.inr ⟨hi, c', ht2, by rw [← hs]; have := hs1 e1; omega, by rw [← hs]; exact k1⟩), k2, k3⟩
    · rintro ⟨c1, r, k1, k2, k3⟩
      rcases mGs_st.mp k1 with ⟨q, -⟩ | ⟨-, c', ht, hn1, h1⟩
      · omega
      · rw [← hs] at hn1 h1
        have m1 := mGs_mono h1
        have m2 := mGs_mono k2
        rcases ht with ⟨q, -⟩ | ⟨q, q2⟩
        · exact q.elim
        · rw [← hs] at q
          have ht2 : gT f e True i c c' := Or.inr ⟨by rw [hse]; exact q, q2⟩
          refine Or.inr ⟨by omega, by omega, c', ht2, by omega, fun w => w.1, by rw [hse]; omega, ?_⟩
          rw [hse]
          rcases Int.lt_or_le s g with w | w
          · refine Or.inr ⟨hsg w, (ih (s + 1) c' (by omega) (hs1 w) (fun k w1 w2 => hf k (by omega) w2)).mpr ⟨c1, r, h1, k2, k3⟩⟩
          · have e1 : s = g := by omega
            rw [e1] at h1
            rcases mGs_st.mp h1 with ⟨-, q3⟩ | ⟨q3, -⟩
            · refine Or.inl ⟨by rw [e1]; exact hg, ?_⟩
              rw [e1]
              exact (six_A n (g + 2) c' (by omega)).mpr ⟨r, by rw [← q3]; exact (mG_n _ _ _ _ _ (Nat.le_refl _) (by omega)).mp k2, k3⟩
            · omega
/-- the program's answer, and the model's -/
def cSix (f : Int → Int) (a e : Int) : Prop := (isG f e a ∧ cS f e (e + 2 - a).toNat (a + 2) 0 True) ∨ (¬ isG f e a ∧ cS f e (e + 2 - a).toNat a 0 False)
def mSix (f : Int → Int) (a e : Int) : Prop := ((∀ k, a ≤ k → ¬ isG f e k) ∧ mGs f e True a 0 8) ∨ (∃ g, a ≤ g ∧ isG f e g ∧ (∀ k, a ≤ k → k < g → ¬ isG f e k) ∧ ∃ c1 r, mGs f g False a 0 c1 ∧ c1 ≤ 8 ∧ mGs f e True (g + 2) c1 r ∧ r ≤ 7)
theorem six_eq {f : Int → Int} {a e : Int} : cSix f a e ↔ mSix f a e := by
  by_cases h0 : isG f e a
  · have e0 : mGs f a False a 0 0 := mGs_st.mpr (Or.inl ⟨Int.le_refl _, rfl⟩)
    constructor
    · rintro (⟨-, h⟩ | ⟨h, -⟩)
      · obtain ⟨r, k1, k2⟩ := (six_A _ (a + 2) 0 (by omega)).mp h
        exact Or.inr ⟨a, Int.le_refl _, h0, fun k w1 w2 => by omega, 0, r, e0, by omega, (mG_n _ _ _ _ _ (by omega) (Nat.le_refl _)).mp k1, k2⟩
      · exact absurd h0 h
    · rintro (⟨h, -⟩ | ⟨g, hg, hgg, hf, c1, r, k1, -, k2, k3⟩)
      · exact absurd h0 (h a (Int.le_refl _))
      · have e1 : g = a := by
          rcases Int.lt_or_le a g with w | w
          · exact absurd h0 (hf a (Int.le_refl _) w)
          · omega
        subst e1
        rcases mGs_st.mp k1 with ⟨-, q⟩ | ⟨q, -⟩
        · subst q
          exact Or.inl ⟨h0, (six_A _ (g + 2) 0 (by omega)).mpr ⟨r, (mG_n _ _ _ _ _ (Nat.le_refl _) (by omega)).mp k2, k3⟩⟩
        · omega
  · by_cases hex : ∃ g, a ≤ g ∧ isG f e g ∧ ∀ k, a ≤ k → k < g → ¬ isG f e k
    · obtain ⟨g, hg, hgg, hf⟩ := hex
      have hag : a < g := by
        rcases Int.lt_or_le a g with w | w
        · exact w
        · exact absurd (show isG f e a by rw [show a = g by omega]; exact hgg) h0
      constructor
      · rintro (⟨h, -⟩ | ⟨-, h⟩)
        · exact absurd h h0
        · obtain ⟨c1, r, k1, k2, k3⟩ := (six_B2 hgg _ a 0 (by omega) hag hf).mp h
          exact Or.inr ⟨g, hg, hgg, hf, c1, r, k1, by have := mGs_mono k2; omega, k2, k3⟩
      · rintro (⟨h, -⟩ | ⟨g', hg', hgg', hf', c1, r, k1, -, k2, k3⟩)
        · exact absurd hgg (h g hg)
        · have e1 : g' = g := by
            rcases Int.lt_trichotomy g g' with w | w | w
            · exact absurd hgg (hf' g hg w)
            · exact w.symm
            · exact absurd hgg' (hf g' hg' w)
          subst e1
          exact Or.inr ⟨h0, (six_B2 hgg _ a 0 (by omega) hag hf).mpr ⟨c1, r, k1, k2, k3⟩⟩
    · have hno : ∀ k, a ≤ k → ¬ isG f e k := by
        have key : ∀ (n : Nat) (k : Int), (k - a).toNat = n → a ≤ k → ¬ isG f e k := by
          intro n
          induction n using Nat.strongRecOn with
          | _ n ih =>
            intro k hn hk hg
            exact hex ⟨k, hk, hg, fun j w1 w2 => ih (j - a).toNat (by omega) j rfl w1⟩
        exact fun k hk => key _ k rfl hk
      constructor
      · rintro (⟨h, -⟩ | ⟨-, h⟩)
        · exact absurd h h0
        · exact Or.inl ⟨hno, (mG_n _ _ _ _ _ (by omega) (Nat.le_refl _)).mp ((six_B1 _ a 0 (by omega) hno).mp h)⟩
      · rintro (⟨-, h⟩ | ⟨g, hg, hgg, -⟩)
        · exact Or.inr ⟨h0, (six_B1 _ a 0 (by omega) hno).mpr ((mG_n _ _ _ _ _ (Nat.le_refl _) (by omega)).mp h)⟩
        · exact absurd hgg (hno g hg)
