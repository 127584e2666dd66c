set_option maxRecDepth 16384
/-! the same text read from another place -/
section
variable {f g : Int → Int} {d : Int}
theorem fn_sh {b k e : Int} (h : ∀ j, k ≤ j → j < e → f j = g (j + d)) : fn g b (k + d) (e + d) = fn f b k e + d := by
  by_cases c : k ≤ e
  · have := cfn_cg (f := f) (g := g) (b := b) _ k e d rfl h
    unfold cfn at this
    rw [if_pos c, if_pos (by omega)] at this; exact this
  · rw [fn_ge (by omega), fn_ge (by omega)]
theorem cfn_sh {b k e : Int} (h : ∀ j, k ≤ j → j < e → f j = g (j + d)) : cfn g b (k + d) (e + d) = cfn f b k e + d := cfn_cg (f := f) (g := g) (b := b) _ k e d rfl h
theorem pAll_sh {p : Int → Int} {k e : Int} (h : ∀ j, k ≤ j → j < e → f j = g (j + d)) : pAll p g (k + d) (e + d) ↔ pAll p f k e := by
  unfold pAll
  constructor
  · intro w j h1 h2
    rw [h j h1 h2]; exact w (j + d) (by omega) (by omega)
  · intro w j h1 h2
    have := w (j - d) (by omega) (by omega)
    rw [h (j - d) (by omega) (by omega), show j - d + d = j by omega] at this; exact this
theorem pG_sh {k e : Int} (h : ∀ j, k ≤ j → j < e → f j = g (j + d)) : pG g (k + d) (e + d) ↔ pG f k e := by
  unfold pG
  rw [pAll_sh h]
  constructor
  · rintro ⟨a, b, c⟩; exact ⟨by omega, by omega, c⟩
  · rintro ⟨a, b, c⟩; exact ⟨by omega, by omega, c⟩
theorem isG_sh {k e : Int} (h : ∀ j, k ≤ j → j < e → f j = g (j + d)) : isG g (e + d) (k + d) ↔ isG f e k := by
  unfold isG
  constructor
  · rintro ⟨a, b, c⟩
    rw [show k + d + 1 = (k + 1) + d by omega, ← h (k + 1) (by omega) (by omega)] at c
    rw [← h k (by omega) (by omega)] at b
    exact ⟨by omega, b, c⟩
  · rintro ⟨a, b, c⟩
    rw [show k + d + 1 = (k + 1) + d by omega, ← h (k + 1) (by omega) (by omega), ← h k (by omega) (by omega)]
    exact ⟨by omega, b, c⟩
theorem cN_sh {k e : Int} (h : ∀ j, k ≤ j → j < e → f j = g (j + d)) : cN g (k + d) (e + d) ↔ cN f k e := by
  unfold cN
  rw [pAll_sh h, show e + d - (k + d) = e - k by omega]
  by_cases c : 1 ≤ e - k ∧ e - k ≤ 3
  · have h0 := h k (by omega) (by omega)
    rw [← h0]
    by_cases c1 : e - k = 1
    · rw [if_pos c1, if_pos c1]
    · rw [if_neg c1, if_neg c1]
      have h1 := h (k + 1) (by omega) (by omega)
      rw [show k + d + 1 = k + 1 + d by omega, ← h1]
      by_cases c2 : e - k = 2
      · rw [if_pos c2, if_pos c2]
      · rw [if_neg c2, if_neg c2]
        have h2 := h (k + 2) (by omega) (by omega)
        rw [show k + d + 2 = k + 2 + d by omega, ← h2]
  · constructor
    · rintro ⟨a, b, -⟩; exact absurd ⟨a, b⟩ c
    · rintro ⟨a, b, -⟩; exact absurd ⟨a, b⟩ c
theorem cfn_up (f : Int → Int) (b k e : Int) : k ≤ e → k ≤ cfn f b k e ∧ cfn f b k e ≤ e := (cfn_r f b k e).1
theorem cN_bad {k e : Int} (h : e ≤ k) : ¬ cN f k e := fun w => by have := w.1; omega
theorem cF_sh {k e : Int} (h : ∀ j, k ≤ j → j < e → f j = g (j + d)) : cF g (k + d) (e + d) ↔ cF f k e := by
  unfold cF
  by_cases c0 : k ≤ e
  · obtain ⟨a, ha⟩ : ∃ a, a = cfn f 46 k e := ⟨_, rfl⟩
    have ra := cfn_up f 46 k e c0
    rw [cfn_sh h, ← ha, show a + d + 1 = (a + 1) + d by omega]
    rw [← ha] at ra
    by_cases c1 : a + 1 ≤ e
    · have h1 : ∀ j, a + 1 ≤ j → j < e → f j = g (j + d) := fun j g1 g2 => h j (by omega) g2
      obtain ⟨b, hb⟩ : ∃ b, b = cfn f 46 (a + 1) e := ⟨_, rfl⟩
      have rb := cfn_up f 46 (a + 1) e c1
      rw [cfn_sh h1, ← hb, show b + d + 1 = (b + 1) + d by omega]
      rw [← hb] at rb
      by_cases c2 : b + 1 ≤ e
      · have h2 : ∀ j, b + 1 ≤ j → j < e → f j = g (j + d) := fun j g1 g2 => h j (by omega) g2
        obtain ⟨x, hx⟩ : ∃ x, x = cfn f 46 (b + 1) e := ⟨_, rfl⟩
        have rx := cfn_up f 46 (b + 1) e c2
        rw [cfn_sh h2, ← hx, show x + d + 1 = (x + 1) + d by omega]
        rw [← hx] at rx
        rw [cN_sh (k := k) (e := a) (fun j g1 g2 => h j g1 (by omega)), cN_sh (k := a + 1) (e := b) (fun j g1 g2 => h j (by omega) (by omega)), cN_sh (k := b + 1) (e := x) (fun j g1 g2 => h j (by omega) (by omega)), cN_sh (k := x + 1) (e := e) (fun j g1 g2 => h j (by omega) g2)]
      · have e2 : cfn f 46 (b + 1) e = e := (cfn_r f 46 (b + 1) e).2 (by omega)
        have e2' : cfn g 46 (b + 1 + d) (e + d) = e + d := (cfn_r g 46 _ _).2 (by omega)
        rw [e2, e2']
        constructor
        · rintro ⟨-, -, -, w⟩; exact absurd w (cN_bad (by omega))
        · rintro ⟨-, -, -, w⟩; exact absurd w (cN_bad (by omega))
    · have e1 : cfn f 46 (a + 1) e = e := (cfn_r f 46 (a + 1) e).2 (by omega)
      have e1' : cfn g 46 (a + 1 + d) (e + d) = e + d := (cfn_r g 46 _ _).2 (by omega)
      rw [e1, e1']
      constructor
      · rintro ⟨-, w, -, -⟩; exact absurd w.1 (by omega)
      · rintro ⟨-, w, -, -⟩; exact absurd w.1 (by omega)
  · have e0 : cfn f 46 k e = e := (cfn_r f 46 k e).2 (by omega)
    have e0' : cfn g 46 (k + d) (e + d) = e + d := (cfn_r g 46 _ _).2 (by omega)
    rw [e0, e0']
    constructor
    · rintro ⟨w, -⟩; exact absurd w.1 (by omega)
    · rintro ⟨w, -⟩; exact absurd w.1 (by omega)
theorem gT_sh {la : Prop} {k e c c' : Int} (hk : k ≤ e) (h : ∀ j, k ≤ j → j < e → f j = g (j + d)) : gT g (e + d) la (k + d) c c' ↔ gT f e la k c c' := by
  have r := fn_rng f 58 hk
  unfold gT
  rw [fn_sh h, cF_sh h, pG_sh (k := k) (e := fn f 58 k e) (fun j g1 g2 => h j g1 (by omega))]
  constructor
  · rintro (⟨a, b, w⟩ | w)
    · exact Or.inl ⟨a, by omega, w⟩
    · exact Or.inr w
  · rintro (⟨a, b, w⟩ | w)
    · exact Or.inl ⟨a, by omega, w⟩
    · exact Or.inr w
theorem cS_sh {e : Int} : ∀ (n : Nat) (i c : Int) (G : Prop), (∀ j, i ≤ j → j < e → f j = g (j + d)) → (cS g (e + d) n (i + d) c G ↔ cS f e n i c G) := by
  intro n
  induction n with
  | zero =>
    intro i c G h
    unfold cS
    constructor
    · rintro ⟨a, w⟩; exact ⟨by omega, w⟩
    · rintro ⟨a, w⟩; exact ⟨by omega, w⟩
  | succ n ih =>
    intro i c G h
    unfold cS
    by_cases c0 : e ≤ i
    · constructor
      · rintro (⟨a, w⟩ | ⟨a, w⟩)
        · exact Or.inl ⟨c0, w⟩
        · omega
      · rintro (⟨a, w⟩ | ⟨a, w⟩)
        · exact Or.inl ⟨by omega, w⟩
        · omega
    · have r := fn_rng f 58 (show i ≤ e by omega)
      obtain ⟨x, hx⟩ : ∃ x, x = fn f 58 i e := ⟨_, rfl⟩
      rw [fn_sh h, ← hx, show x + d + 2 = x + 2 + d by omega, show x + d + 1 = x + 1 + d by omega, isG_sh (k := x) (e := e) (fun j g1 g2 => h j (by omega) g2)]
      rw [← hx] at r
      have key : ∀ c', (gT g (e + d) True (i + d) c c' ↔ gT f e True i c c') ∧ (cS g (e + d) n (x + 2 + d) c' True ↔ cS f e n (x + 2) c' True) ∧ (cS g (e + d) n (x + 1 + d) c' G ↔ cS f e n (x + 1) c' G) := fun c' =>
        ⟨gT_sh (by omega) h, ih _ _ _ (fun j g1 g2 => h j (by omega) g2), ih _ _ _ (fun j g1 g2 => h j (by omega) g2)⟩
      constructor
      · rintro (⟨a, w⟩ | ⟨a, b, c', w1, w2, w3, w4, w5⟩)
        · omega
        · exact Or.inr ⟨by omega, b, c', (key c').1.mp w1, w2, w3, by omega, w5.elim (fun z => Or.inl ⟨z.1, (key c').2.1.mp z.2⟩) (fun z => Or.inr ⟨z.1, (key c').2.2.mp z.2⟩)⟩
      · rintro (⟨a, w⟩ | ⟨a, b, c', w1, w2, w3, w4, w5⟩)
        · omega
        · exact Or.inr ⟨by omega, b, c', (key c').1.mpr w1, w2, w3, by omega, w5.elim (fun z => Or.inl ⟨z.1, (key c').2.1.mpr z.2⟩) (fun z => Or.inr ⟨z.1, (key c').2.2.mpr z.2⟩)⟩
theorem cSix_sh {a e : Int} (h : ∀ j, a ≤ j → j < e → f j = g (j + d)) : cSix g (a + d) (e + d) ↔ cSix f a e := by
  unfold cSix
  rw [show e + d + 2 - (a + d) = e + 2 - a by omega, show a + d + 2 = a + 2 + d by omega, isG_sh h, cS_sh _ _ _ _ (fun j g1 g2 => h j (by omega) g2), cS_sh _ _ _ _ h]
theorem cFut_sh {a e : Int} (h : ∀ j, a ≤ j → j < e → f j = g (j + d)) : cFut g (a + d) (e + d) ↔ cFut f a e := by
  unfold cFut
  by_cases c : a < e
  · have r := fn_rng f 46 (show a ≤ e by omega)
    rw [fn_sh h, show a + d + 1 = a + 1 + d by omega, show fn f 46 a e + d + 1 = fn f 46 a e + 1 + d by omega, pAll_sh (k := a + 1) (e := fn f 46 a e) (fun j g1 g2 => h j (by omega) (by omega)), pAll_sh (k := fn f 46 a e + 1) (e := e) (fun j g1 g2 => h j (by omega) g2), ← h a (by omega) c]
    constructor
    · rintro ⟨w0, w1, w2, w3, w4, w5⟩; exact ⟨by omega, w1, w2, w3, by omega, by omega⟩
    · rintro ⟨w0, w1, w2, w3, w4, w5⟩; exact ⟨by omega, w1, w2, w3, by omega, by omega⟩
  · constructor
    · rintro ⟨w, -⟩; omega
    · rintro ⟨w, -⟩; omega
theorem pNm_sh {e : Int} : ∀ (n : Nat) (k v : Int), (e - k).toNat = n → (∀ j, k ≤ j → j < e → f j = g (j + d)) → pNm g (k + d) (e + d) v = pNm f k e v := by
  intro n
  induction n with
  | zero => intro k v hn h; rw [(pNm_st g _ _ v).1 (by omega), (pNm_st f _ _ v).1 (by omega)]
  | succ n ih =>
    intro k v hn h
    have e0 := h k (Int.le_refl k) (by omega)
    have sg := (pNm_st g (k + d) (e + d) v).2 (by omega)
    have sf := (pNm_st f k e v).2 (by omega)
    have nx := fun v' => ih (k + 1) v' (by omega) (fun j g1 g2 => h j (by omega) g2)
    rw [← e0, show k + d + 1 = k + 1 + d by omega] at sg
    by_cases c : 0 ≤ pHex (f k)
    · rw [sg.2 c, sf.2 c, nx]
    · rw [sg.1 (by omega), sf.1 (by omega), nx]
end
/-- the signs of an address -/
theorem pFu_dig {c : Int} (h : pDig c = 1) : pFu c = 1 := by
  unfold pFu; rw [if_pos]; exact Or.inl (by unfold pFree; rw [if_pos (Or.inr (Or.inl h))])
theorem pFu_hex {c : Int} (h : pHx c = 1) : pFu c = 1 := by
  unfold pFu; rw [if_pos]
  refine Or.inl ?_
  unfold pFree
  rw [if_pos]
  unfold pHx at h
  split at h
  · rename_i w
    unfold pHex at w
    by_cases a : 48 ≤ c ∧ c ≤ 57
    · exact Or.inr (Or.inl (by unfold pDig; rw [if_pos a]))
    · rw [if_neg a] at w
      refine Or.inl ?_
      unfold pLet
      rw [if_pos]
      by_cases b : 97 ≤ c ∧ c ≤ 102
      · omega
      · rw [if_neg b] at w
        by_cases q : 65 ≤ c ∧ c ≤ 70
        · omega
        · rw [if_neg q] at w; omega
  · exact absurd h (by decide)
theorem cF_chars {f : Int → Int} {a e : Int} (h : cF f a e) : ∀ j, a ≤ j → j < e → pFu (f j) = 1 := by
  have p46 : pFu 46 = 1 := by decide
  unfold cF at h
  obtain ⟨x, hx⟩ : ∃ x, x = cfn f 46 a e := ⟨_, rfl⟩
  rw [← hx] at h
  obtain ⟨y, hy⟩ : ∃ y, y = cfn f 46 (x + 1) e := ⟨_, rfl⟩
  rw [← hy] at h
  obtain ⟨z, hz⟩ : ∃ z, z = cfn f 46 (y + 1) e := ⟨_, rfl⟩
  rw [← hz] at h
  obtain ⟨h1, h2, h3, h4⟩ := h
  have l1 := h1.1
  have l2 := h2.1
  have l3 := h3.1
  have l4 := h4.1
  have re := (cfn_r f 46 (y + 1) e)
  have ry := (cfn_r f 46 (x + 1) e)
  have rx := (cfn_r f 46 a e)
  rw [← hz] at re
  rw [← hy] at ry
  rw [← hx] at rx
  have ex : x < e := by
    by_cases c : a ≤ e
    · have := rx.1 c; omega
    · have := rx.2 (by omega); omega
  have f46x : f x = 46 := by rw [hx]; exact cfn_hit2 (by by_cases c : a ≤ e; exact c; have := rx.2 (by omega); omega) (by omega)
  have f46y : f y = 46 := by rw [hy]; exact cfn_hit2 (by omega) (by omega)
  have f46z : f z = 46 := by rw [hz]; exact cfn_hit2 (by by_cases c : y + 1 ≤ e; exact c; have := re.2 (by omega); omega) (by omega)
  intro j g1 g2
  by_cases c1 : j < x
  · exact pFu_dig (h1.2.2.2.1 j g1 c1)
  by_cases c2 : j = x
  · rw [c2, f46x]; exact p46
  by_cases c3 : j < y
  · exact pFu_dig (h2.2.2.2.1 j (by omega) c3)
  by_cases c4 : j = y
  · rw [c4, f46y]; exact p46
  by_cases c5 : j < z
  · exact pFu_dig (h3.2.2.2.1 j (by omega) c5)
  by_cases c6 : j = z
  · rw [c6, f46z]; exact p46
  · exact pFu_dig (h4.2.2.2.1 j (by omega) g2)
theorem cS_chars {f : Int → Int} {e : Int} : ∀ (n : Nat) (i c : Int) (G : Prop), cS f e n i c G → ∀ j, i ≤ j → j < e → pFu (f j) = 1 := by
  have p58 : pFu 58 = 1 := by decide
  intro n
  induction n with
  | zero => intro i c G h j g1 g2; have := h.1; omega
  | succ n ih =>
    intro i c G h j g1 g2
    rcases h with ⟨a, -⟩ | ⟨a, b, c', w1, w2, w3, w4, w5⟩
    · omega
    · have r := fn_rng f 58 (show i ≤ e by omega)
      rcases w1 with ⟨-, q1, q2, -⟩ | ⟨q1, -⟩
      · exact cF_chars q2 j g1 g2
      · by_cases c1 : j < fn f 58 i e
        · exact pFu_hex (q1.2.2 j g1 c1)
        by_cases c2 : j = fn f 58 i e
        · rw [c2, fn_hit f 58 (by omega) (by omega)]; exact p58
        rcases w5 with ⟨z1, z2⟩ | ⟨z1, z2⟩
        · by_cases c3 : j = fn f 58 i e + 1
          · rw [c3, z1.2.2]; exact p58
          · exact ih _ _ _ z2 j (by omega) g2
        · exact ih _ _ _ z2 j (by omega) g2
theorem cSix_chars {f : Int → Int} {a e : Int} (h : cSix f a e) : ∀ j, a ≤ j → j < e → pFu (f j) = 1 := by
  have p58 : pFu 58 = 1 := by decide
  intro j g1 g2
  rcases h with ⟨w1, w2⟩ | ⟨-, w2⟩
  · by_cases c1 : j = a
    · rw [c1, w1.2.1]; exact p58
    by_cases c2 : j = a + 1
    · rw [c2, w1.2.2]; exact p58
    · exact cS_chars _ _ _ _ w2 j (by omega) g2
  · exact cS_chars _ _ _ _ w2 j g1 g2
theorem cFut_chars {f : Int → Int} {a e : Int} (h : cFut f a e) : ∀ j, a ≤ j → j < e → pFu (f j) = 1 := by
  obtain ⟨h0, h1, h2, h3, h4, h5⟩ := h
  intro j g1 g2
  by_cases c1 : j = a
  · rw [c1]
    rcases h1 with w | w <;> rw [w] <;> decide
  by_cases c2 : j < fn f 46 a e
  · exact pFu_hex (h2 j (by omega) c2)
  by_cases c3 : j = fn f 46 a e
  · rw [c3, fn_hit f 46 (by omega) (by omega)]; decide
  · exact h3 j (by omega) g2
