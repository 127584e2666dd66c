set_option maxRecDepth 16384
/-! arrays of longs -/
def tJ (t : zSt) (a k : Nat) (x : Int64) : zSt := (t.1, zup t.2.1 a (zup (t.2.1 a) k x), t.2.2)
def tl (t : zSt) (a k : Nat) : Int64 := t.2.1 a k
theorem tl_J (t : zSt) (a k : Nat) (x : Int64) : tl (tJ t a k x) a k = x := by
  unfold tl tJ zup; simp
/-- what a call of the program leaves at the law's level -/
def FrL (sh : zSh) (MB : Nat) (t t' : zSt) : Prop := (∀ a, MB ≤ a → t'.1 a = t.1 a) ∧ RS sh t' ∧ t'.2.2.1 ≤ t.2.2.1 + 1 ∧ t'.2.2.2 ≤ t.2.2.2 + 6
theorem FrL.ofM {sh : zSh} {MB : Nat} {t t' : zSt} (h : Fr7M sh MB t t') (a k : Nat) (x : Int64) : FrL sh MB t (tJ t' a k x) := by
  have e := h.1
  refine ⟨h.2.1, h.2.2, ?_, ?_⟩
  · show t'.2.2.1 ≤ _; rw [e]; omega
  · show t'.2.2.2 ≤ _; rw [e]; omega
theorem FrL.ofB {sh : zSh} {MB : Nat} {t t' : zSt} (h : Fr7M sh MB t t') : FrL sh MB t (tb t') := by
  have e := h.1
  refine ⟨h.2.1, h.2.2, ?_, ?_⟩
  · show t'.2.2.1 + 1 ≤ _; rw [e]; omega
  · show t'.2.2.2 + 6 ≤ _; rw [e]; omega
theorem FrL.of0 {sh : zSh} {MB : Nat} {t t' : zSt} (h : Fr7M sh MB t t') : FrL sh MB t t' := by
  have e := h.1
  refine ⟨h.2.1, h.2.2, ?_, ?_⟩
  · rw [e]; omega
  · rw [e]; omega
/-- a call whose throws are caught -/
theorem zok_w {o : Option zO} {P : Int → zSt → Prop} {sh : zSh} {Es : List Nat} {X : zSt → Prop} {Q : Option zV ⊕ Nat → zH → Prop} {f : Option zV → zH → Option zO} {g : Nat → zH → Option zO} (h : zok o (zqE (qI P sh) Es X sh)) (h1 : ∀ x t, -2147483648 ≤ x ∧ x ≤ 2147483647 → P x t → zok (f (some (zI (oI x))) (sh, t)) Q) (h2 : ∀ E t, E ∈ Es → X t → zok (g E (sh, tb t)) Q) : zok (zcx o f g) Q := by
  obtain ⟨r, h', rfl, ⟨x, t, rfl, rfl, a, b, hR⟩ | ⟨E, t, rfl, rfl, hE, hX⟩⟩ := h
  · exact h1 x t ⟨a, b⟩ hR
  · exact h2 E t hE hX
theorem zok_cL {o : Option zO} {P : Int64 → zSt → Prop} {sh : zSh} {Q : Option zV ⊕ Nat → zH → Prop} {f : Option zV → zH → Option zO} {g : Nat → zH → Option zO} (h : zok o (qL P sh)) (h1 : ∀ x t, P x t → zok (f (some (zL x)) (sh, t)) Q) : zok (zcx o f g) Q := by
  obtain ⟨r, h', rfl, x, t, rfl, rfl, hR⟩ := h; exact h1 x t hR
