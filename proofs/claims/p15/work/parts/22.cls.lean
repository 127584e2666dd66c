set_option maxRecDepth 16384
/-! the objects of the program, and what a run of it leaves alone: T the tape, from MB on what is not the program's -/
def zRow (sh : zSh) (r : Nat) : Prop := sk sh r = (13, 3) ∧ (sk sh (sr sh r 0)).1 = 1 ∧ (sk sh (sr sh r 0)).2 ≤ 100000
def zRw (sh : zSh) (T MB r : Nat) : Prop := zRow sh r ∧ r ≠ T ∧ r < MB ∧ sr sh r 0 ≠ sr sh T 0
def zPt (sh : zSh) (T MB p : Nat) : Prop := sk sh p = (11, 7) ∧ ∀ k, k < 7 → zRw sh T MB (sr sh p k)
def zRd (sh : zSh) (T MB r : Nat) : Prop := sk sh r = (12, 4) ∧ r < MB ∧ sk sh (sr sh r 0) = (2, 7) ∧ sr sh r 0 < MB ∧ sk sh (sr sh r 1) = (2, 7) ∧ sr sh r 1 < MB
def zAd (sh : zSh) (T MB r : Nat) : Prop := sk sh r = (10, 1) ∧ r < MB ∧ sk sh (sr sh r 0) = (2, 8) ∧ sr sh r 0 < MB
def zLL (sh : zSh) (T MB x : Nat) : Prop := sk sh x = (14, 12) ∧ x < MB ∧ sr sh x 0 = T ∧ zRw sh T MB (sr sh x 1) ∧ zRw sh T MB (sr sh x 2) ∧ (sk sh (sr sh x 3) = (5, 8) ∧ ∀ i, i < 8 → 0 < sr sh (sr sh x 3) i ∧ zPt sh T MB (sr sh (sr sh x 3) i) ∧ ∀ k, k < 7 → sr sh (sr sh (sr sh x 3) i) k ≠ sr sh x 2 ∧ sr sh (sr sh (sr sh x 3) i) k ≠ sr sh x 1) ∧ zRd sh T MB (sr sh x 4) ∧ zRw sh T MB (sr sh x 5) ∧ zAd sh T MB (sr sh x 6) ∧ zPt sh T MB (sr sh x 7) ∧ zPt sh T MB (sr sh x 8) ∧ zPt sh T MB (sr sh x 9)
def zCl (sh : zSh) (T MB : Nat) : Prop := zRow sh T ∧ T < MB ∧ ∀ a, MB ≤ a → (sk sh a).1 ≠ 1 ∧ (sk sh a).1 ≠ 13
def RS (sh : zSh) (t : zSt) : Prop := (∀ r, zRow sh r → 0 ≤ tg t r 1 ∧ tg t r 1 ≤ ((sk sh (sr sh r 0)).2 : Int) ∧ (tg t r 2 = 0 ∨ tg t r 2 = 1)) ∧ ∀ a, sk sh a = (2, 7) → ∀ k, k < 7 → -1 ≤ tg t a k ∧ tg t a k ≤ 200000
def FrR (sh : zSh) (r : Nat) (t t' : zSt) : Prop := t'.2 = t.2 ∧ (∀ a, a ≠ r → a ≠ sr sh r 0 → t'.1 a = t.1 a) ∧ RS sh t'
def FrC (sh : zSh) (T MB : Nat) (t t' : zSt) : Prop := t'.2 = t.2 ∧ (∀ a, (MB ≤ a ∨ a = T ∨ a = sr sh T 0) → t'.1 a = t.1 a) ∧ RS sh t'
theorem tg_of {t t' : zSt} {a : Nat} (h : t'.1 a = t.1 a) (k : Nat) : tg t' a k = tg t a k := by unfold tg ti; rw [h]
theorem RS_sz {sh : zSh} {t : zSt} (h : RS sh t) {r : Nat} (q : zRow sh r) : 0 ≤ tg t r 1 ∧ tg t r 1 ≤ 100000 ∧ tg t r 1 ≤ ((sk sh (sr sh r 0)).2 : Int) ∧ (tg t r 2 = 0 ∨ tg t r 2 = 1) := by
  have a := h.1 r q; have b := q.2.2; omega
theorem FrR.rs {sh : zSh} {r : Nat} {t t' : zSt} (h : FrR sh r t t') : RS sh t' := h.2.2
theorem FrC.rs {sh : zSh} {T MB : Nat} {t t' : zSt} (h : FrC sh T MB t t') : RS sh t' := h.2.2
theorem FrR.refl {sh : zSh} {r : Nat} {t : zSt} (h : RS sh t) : FrR sh r t t := ⟨rfl, fun _ _ _ => rfl, h⟩
theorem FrC.refl {sh : zSh} {T MB : Nat} {t : zSt} (h : RS sh t) : FrC sh T MB t t := ⟨rfl, fun _ _ => rfl, h⟩
theorem FrR.trans {sh : zSh} {r : Nat} {t t' u : zSt} (h : FrR sh r t t') (g : FrR sh r t' u) : FrR sh r t u := ⟨g.1.trans h.1, fun a x y => (g.2.1 a x y).trans (h.2.1 a x y), g.2.2⟩
theorem FrC.trans {sh : zSh} {T MB : Nat} {t t' u : zSt} (h : FrC sh T MB t t') (g : FrC sh T MB t' u) : FrC sh T MB t u := ⟨g.1.trans h.1, fun a x => (g.2.1 a x).trans (h.2.1 a x), g.2.2⟩
theorem FrR.toC {sh : zSh} {T MB r : Nat} {t t' : zSt} (F : zCl sh T MB) (q : zRw sh T MB r) (h : FrR sh r t t') : FrC sh T MB t t' := by
  have k1 := q.1.1
  have k2 := q.1.2.1
  have k3 := F.1.1
  have k4 := F.1.2.1
  refine ⟨h.1, fun a ha => h.2.1 a ?_ ?_, h.2.2⟩
  · rcases ha with ha | ha | ha
    · have := q.2.2; omega
    · rw [ha]; exact fun e => q.2.1 e.symm
    · rw [ha]; intro e; rw [e, k1] at k4; cases k4
  · rcases ha with ha | ha | ha
    · intro e; exact (F.2.2 a ha).1 (by rw [e]; exact k2)
    · rw [ha]; intro e; rw [← e, k3] at k2; cases k2
    · rw [ha]; exact fun e => q.2.2.2 e.symm
/-- of another row nothing changes -/
theorem FrR.ne {sh : zSh} {r a : Nat} {t t' : zSt} (qr : zRow sh r) (h : FrR sh r t t') (q : zRow sh a) (n : a ≠ r) (k : Nat) : tg t' a k = tg t a k := tg_of (h.2.1 a n (fun e => by have k2 := qr.2.1; rw [← e, q.1] at k2; cases k2)) k
/-- a row keeps its size or gets another -/
theorem FrR_I {sh : zSh} {r k : Nat} {t : zSt} {x : Int} (hR : RS sh t) (q : zRow sh r) (h1 : -2147483648 ≤ x) (h2 : x ≤ 2147483647) (h : (k = 1 → 0 ≤ x ∧ x ≤ ((sk sh (sr sh r 0)).2 : Int)) ∧ (k = 2 → x = 0 ∨ x = 1)) : FrR sh r t (tI t r k (oI x)) := by
  refine ⟨rfl, fun a ha _ => ?_, fun s hs => ?_, fun a ha j hj => ?_⟩
  · show zup t.1 r _ a = _; unfold zup; rw [if_neg ha]
  rotate_left
  · have e : a ≠ r := by intro e; rw [e, q.1] at ha; cases ha
    rw [tg_I h1 h2, if_neg (fun c => e c.1)]; exact hR.2 a ha j hj
  · have := hR.1 s hs
    rw [tg_I h1 h2, tg_I h1 h2]
    by_cases e : s = r
    · subst e
      refine ⟨?_, ?_, ?_⟩
      · by_cases e1 : (1 : Nat) = k
        · rw [if_pos ⟨rfl, e1⟩]; exact (h.1 e1.symm).1
        · rw [if_neg (fun c => e1 c.2)]; exact this.1
      · by_cases e1 : (1 : Nat) = k
        · rw [if_pos ⟨rfl, e1⟩]; exact (h.1 e1.symm).2
        · rw [if_neg (fun c => e1 c.2)]; exact this.2.1
      · by_cases e1 : (2 : Nat) = k
        · rw [if_pos ⟨rfl, e1⟩]; exact (h.2 e1.symm)
        · rw [if_neg (fun c => e1 c.2)]; exact this.2.2
    · rw [if_neg (fun c => e c.1), if_neg (fun c => e c.1)]; exact this
/-- what is no row: bytes of a row's room -/
theorem FrR_B {sh : zSh} {r : Nat} {t : zSt} {f : Nat → Int32} (hR : RS sh t) (hb : (sk sh (sr sh r 0)).1 = 1) : FrR sh r t (tA t (sr sh r 0) f) := by
  refine ⟨rfl, fun a _ h1 => ?_, fun s hs => ?_, fun a ha j hj => ?_⟩
  · show zup t.1 (sr sh r 0) _ a = _; unfold zup; rw [if_neg h1]
  rotate_left
  · have e : a ≠ sr sh r 0 := by intro e; rw [e] at ha; rw [ha] at hb; cases hb
    have h2 : (tA t (sr sh r 0) f).1 a = t.1 a := by show zup t.1 (sr sh r 0) _ a = _; unfold zup; rw [if_neg e]
    rw [tg_of h2]; exact hR.2 a ha j hj
  · have e : s ≠ sr sh r 0 := by intro e; have h := hs.1; rw [e] at h; rw [h] at hb; cases hb
    have h2 : (tA t (sr sh r 0) f).1 s = t.1 s := by show zup t.1 (sr sh r 0) _ s = _; unfold zup; rw [if_neg e]
    rw [tg_of h2, tg_of h2]; exact hR.1 s hs
theorem FrC_I {sh : zSh} {T MB a k : Nat} {t : zSt} {x : Int32} (F : zCl sh T MB) (hR : RS sh t) (h1 : a < MB) (h2 : (sk sh a).1 ≠ 13 ∧ (sk sh a).1 ≠ 1) (h3 : sk sh a = (2, 7) → -1 ≤ x.toInt ∧ x.toInt ≤ 200000) : FrC sh T MB t (tI t a k x) := by
  have key : ∀ s, s ≠ a → (tI t a k x).1 s = t.1 s := by intro s hs; show zup t.1 a _ s = _; unfold zup; rw [if_neg hs]
  refine ⟨rfl, fun s hs => key s ?_, fun s hs => ?_, fun b hb j hj => ?_⟩
  rotate_left 2
  · by_cases e : b = a
    · subst e
      unfold tg; rw [ti_I]; split
      · exact h3 hb
      · exact hR.2 b hb j hj
    · rw [tg_of (key b e)]; exact hR.2 b hb j hj
  · rcases hs with hs | hs
    · omega
    · rcases hs with hs | hs
      · rw [hs]; intro e; rw [← e, F.1.1] at h2; exact h2.1 rfl
      · rw [hs]; intro e; have k := F.1.2.1; rw [e] at k; exact h2.2 k
  · have e : s ≠ a := by intro e; have h := hs.1; rw [e] at h; rw [h] at h2; exact h2.1 rfl
    rw [tg_of (key s e), tg_of (key s e)]; exact hR.1 s hs
theorem bool_o {x : Int} (h : x = 0 ∨ x = 1) : (1 : Nat) = 1 → oI x = (0 : Int32) ∨ oI x = (1 : Int32) := fun _ => by
  rcases h with h | h <;> rw [h]
  · exact Or.inl rfl
  · exact Or.inr rfl
theorem ztx_len (i : Nat) : (ztx.getD i []).length ≤ 5 := by
  by_cases h : i < 11
  · have : ∀ i : Fin 11, (ztx.getD i.val []).length ≤ 5 := by decide +kernel
    exact this ⟨i, h⟩
  · have : ztx.getD i [] = [] := by unfold List.getD; rw [List.getElem?_eq_none (by show 11 ≤ i; omega)]; rfl
    rw [this]; exact Nat.zero_le _
theorem ztx_ch (i j : Nat) : (ztx.getD i []).getD j 0 ≤ 122 := by
  have key : ∀ l : List Nat, (∀ x, x ∈ l → x ≤ 122) → l.getD j 0 ≤ 122 := by
    intro l hl
    unfold List.getD
    cases h : l[j]? with
    | none => exact Nat.zero_le _
    | some v => exact hl v (List.mem_of_getElem? h)
  refine key _ ?_
  by_cases h : i < 11
  · have : ∀ i : Fin 11, ∀ x, x ∈ ztx.getD i.val [] → x ≤ 122 := by decide +kernel
    exact this ⟨i, h⟩
  · have : ztx.getD i [] = [] := by unfold List.getD; rw [List.getElem?_eq_none (by show 11 ≤ i; omega)]; rfl
    rw [this]; intro x hx; cases hx
