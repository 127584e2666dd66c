set_option maxRecDepth 16384
/-! the model's shape and what holds of it at each call -/
def zAR : List Nat := [1, 2, 3, 4, 8, 9, 10, 11, 12, 13, 14]
def zMd (sh : zSh) (MB m : Nat) : Prop := sk sh m = (15, 17) ∧ MB ≤ m ∧ (∀ j, j ∈ zAR → MB ≤ sr sh m j ∧ sr sh m j ≠ m) ∧ (∀ i, i ∈ zAR → ∀ j, j ∈ zAR → i ≠ j → sr sh m i ≠ sr sh m j) ∧ sk sh (sr sh m 1) = (2, 21000) ∧ sk sh (sr sh m 2) = (2, 14) ∧ sk sh (sr sh m 3) = (2, 98) ∧ sk sh (sr sh m 4) = (2, 98) ∧ sk sh (sr sh m 8) = (2, 1500) ∧ sk sh (sr sh m 9) = (2, 10500) ∧ sk sh (sr sh m 10) = (2, 7) ∧ sk sh (sr sh m 11) = (3, 7) ∧ sk sh (sr sh m 12) = (2, 1500) ∧ sk sh (sr sh m 13) = (2, 1500) ∧ sk sh (sr sh m 14) = (2, 20)
def GSZ (sh : zSh) (m : Nat) (t : zSt) : Prop := ∀ i : Nat, i < 14 → 0 ≤ tg t (sr sh m 2) i ∧ (i < 8 → tg t (sr sh m 2) i ≤ 400) ∧ (i = 13 → tg t (sr sh m 2) i ≤ 400) ∧ tg t (sr sh m 2) i + 1500 * (i : Int) ≤ 21000
def GBE (sh : zSh) (m : Nat) (t : zSt) : Prop := ∀ i : Nat, i < 98 → -1 ≤ tg t (sr sh m 3) i ∧ tg t (sr sh m 3) i ≤ tg t (sr sh m 4) i ∧ tg t (sr sh m 4) i ≤ 3000 ∧ (i < 84 ∨ 91 ≤ i → tg t (sr sh m 4) i ≤ 400)
def GLS (sh : zSh) (m : Nat) (t : zSt) : Prop := ∀ i : Nat, i < 7 → 0 ≤ tg t (sr sh m 10) i ∧ (i ≠ 4 → tg t (sr sh m 10) i ≤ 1500) ∧ tg t (sr sh m 10) i ≤ 3000
def GLH (sh : zSh) (m : Nat) (t : zSt) : Prop := ∀ i : Nat, i < 7 → tg t (sr sh m 11) i = 0 ∨ tg t (sr sh m 11) i = 1
def GI (sh : zSh) (m : Nat) (t : zSt) : Prop := GSZ sh m t ∧ GBE sh m t ∧ GLS sh m t ∧ GLH sh m t ∧ (0 ≤ tg t m 7 ∧ tg t m 7 ≤ 1500) ∧ 0 ≤ tg t m 15 ∧ tg t m 15 ≤ 100000
/-- the objects of the model: itself (0) and its arrays -/
def zob (sh : zSh) (m j : Nat) : Nat := if j = 0 then m else sr sh m j
def FrV (sh : zSh) (m : Nat) (Ls : List Nat) (t t' : zSt) : Prop := t'.2 = t.2 ∧ (∀ a, (∀ j, j ∈ Ls → a ≠ zob sh m j) → t'.1 a = t.1 a) ∧ GI sh m t'
theorem FrV.refl {sh : zSh} {m : Nat} {Ls : List Nat} {t : zSt} (h : GI sh m t) : FrV sh m Ls t t := ⟨rfl, fun _ _ => rfl, h⟩
theorem FrV.g {sh : zSh} {m : Nat} {Ls : List Nat} {t t' : zSt} (h : FrV sh m Ls t t') : GI sh m t' := h.2.2
theorem FrV.trans {sh : zSh} {m : Nat} {Ls Ms Ns : List Nat} {t t' u : zSt} (h : FrV sh m Ls t t') (g : FrV sh m Ms t' u) (h1 : ∀ j, j ∈ Ls → j ∈ Ns) (h2 : ∀ j, j ∈ Ms → j ∈ Ns) : FrV sh m Ns t u :=
  ⟨g.1.trans h.1, fun a x => (g.2.1 a (fun j hj => x j (h2 j hj))).trans (h.2.1 a (fun j hj => x j (h1 j hj))), g.2.2⟩
theorem zMd.ne {sh : zSh} {MB m i j : Nat} (q : zMd sh MB m) (hi : i ∈ (0 :: zAR)) (hj : j ∈ (0 :: zAR)) (h : i ≠ j) : zob sh m i ≠ zob sh m j := by
  unfold zob
  rcases List.mem_cons.mp hi with rfl | hi <;> rcases List.mem_cons.mp hj with rfl | hj
  · exact absurd rfl h
  · rw [if_pos rfl, if_neg (by intro e; exact h e.symm)]; exact fun e => (q.2.2.1 j hj).2 e.symm
  · rw [if_neg h, if_pos rfl]; exact (q.2.2.1 i hi).2
  · rw [if_neg (by rintro rfl; revert hi; decide), if_neg (by rintro rfl; revert hj; decide)]; exact q.2.2.2.1 i hi j hj h
/-- what is not changed -/
theorem FrV.eq {sh : zSh} {MB m : Nat} {Ls : List Nat} {t t' : zSt} (h : FrV sh m Ls t t') (q : zMd sh MB m) {i : Nat} (hi : i ∈ (0 :: zAR)) (hL : ∀ j, j ∈ Ls → j ∈ (0 :: zAR) ∧ i ≠ j) (k : Nat) : tg t' (zob sh m i) k = tg t (zob sh m i) k :=
  tg_of (h.2.1 _ (fun j hj => q.ne hi (hL j hj).1 (hL j hj).2)) k
theorem tg_ne {t : zSt} {a b i k : Nat} {x : Int32} (h : b ≠ a) : tg (tI t a i x) b k = tg t b k := by
  unfold tg; rw [ti_I, if_neg (fun c => h c.1)]
theorem tg_at {t : zSt} {a i k : Nat} {x : Int} (h1 : -2147483648 ≤ x ∧ x ≤ 2147483647) : tg (tI t a i (oI x)) a k = if k = i then x else tg t a k := by
  rw [tg_I h1.1 h1.2]
  by_cases h : k = i
  · rw [if_pos ⟨rfl, h⟩, if_pos h]
  · rw [if_neg (fun c => h c.2), if_neg h]
theorem i8_o {y : Int} (h : y = 0 ∨ y = 1) : (Int32.toInt8 (oI y)).toInt32 = oI y := by
  rcases h with h | h <;> rw [h] <;> rfl
theorem zt0 : (0 : Int).toNat = 0 := rfl
theorem zt1 : (1 : Int).toNat = 1 := rfl
theorem zt2 : (2 : Int).toNat = 2 := rfl
theorem zt3 : (3 : Int).toNat = 3 := rfl
theorem zt4 : (4 : Int).toNat = 4 := rfl
theorem zt5 : (5 : Int).toNat = 5 := rfl
theorem zt6 : (6 : Int).toNat = 6 := rfl
theorem zt7 : (7 : Int).toNat = 7 := rfl
theorem zt8 : (8 : Int).toNat = 8 := rfl
theorem zt9 : (9 : Int).toNat = 9 := rfl
theorem zt10 : (10 : Int).toNat = 10 := rfl
theorem zt11 : (11 : Int).toNat = 11 := rfl
theorem zt12 : (12 : Int).toNat = 12 := rfl
theorem zt13 : (13 : Int).toNat = 13 := rfl
def zat (sh : zSh) (m : Nat) (t : zSt) (r k : Int) : Int := if 0 ≤ k ∧ k < tg t (sr sh m 2) r.toNat then tg t (sr sh m 1) (1500 * r + k).toNat else -1
def zpa (sh : zSh) (m : Nat) (t : zSt) (r p k : Int) : Int := if k < tg t (sr sh m 4) (7 * r + p).toNat - tg t (sr sh m 3) (7 * r + p).toNat then zat sh m t r (tg t (sr sh m 3) (7 * r + p).toNat + k) else -1
/-! room that a part takes, with its mark; user and host together -/
def zP1 (b e : Int) : Int := if b < 0 then 0 else e - b + 1
def zU (b1 e1 b2 e2 : Int) : Int := if b1 < 0 then (if b2 < 0 then 0 else e2 - b2 + 2) else e1 - b1 + 1 + (e2 - b2 + 2)
theorem zP1_pos {b e : Int} (h : 0 ≤ b) : zP1 b e = e - b + 1 := by unfold zP1; rw [if_neg (by omega)]
def zrz (sh : zSh) (m : Nat) (t : zSt) (r : Int) : Int := if zpa sh m t r 4 0 = 47 then 1 else 0
theorem zro_le (sh : zSh) (m : Nat) (t : zSt) (r : Int) : 0 ≤ zrz sh m t r ∧ zrz sh m t r ≤ 1 := by unfold zrz; omega
