set_option maxRecDepth 16384
/-! THE PURE LEVEL: the shape of the heap stays, integers are told as integers -/
abbrev sk (sh : zSh) : Nat → Nat × Nat := sh.2.1
abbrev sr (sh : zSh) : Nat → Nat → Nat := sh.2.2.1
def oI (x : Int) : Int32 := Int32.ofInt x
def ti (t : zSt) (a k : Nat) : Int32 := t.1 a k
def tg (t : zSt) (a k : Nat) : Int := (ti t a k).toInt
def tI (t : zSt) (a k : Nat) (x : Int32) : zSt := (zup t.1 a (zup (t.1 a) k x), t.2)
def tA (t : zSt) (a : Nat) (f : Nat → Int32) : zSt := (zup t.1 a f, t.2)
def tb (t : zSt) : zSt := (t.1, t.2.1, t.2.2.1 + 1, t.2.2.2 + 6)
abbrev nN (x : Int32) : Nat := Int32.toNatClampNeg x
abbrev zix (n : Nat) (j : Int32) : Prop := ¬ (j < 0 ∨ n ≤ Int32.toNatClampNeg j)
theorem oI_toInt {x : Int} (h1 : -2147483648 ≤ x) (h2 : x ≤ 2147483647) : (oI x).toInt = x := Int32.toInt_ofInt_of_le h1 (by omega)
theorem oI_self (v : Int32) : oI v.toInt = v := Int32.ofInt_toInt v
theorem i_lo (v : Int32) : -2147483648 ≤ v.toInt := Int32.le_toInt v
theorem i_hi (v : Int32) : v.toInt ≤ 2147483647 := by have := Int32.toInt_lt v; omega
theorem oI_add (a b : Int) : oI a + oI b = oI (a + b) := (Int32.ofInt_add a b).symm
theorem oI_sub (a b : Int) : oI a - oI b = oI (a - b) := (Int32.ofInt_sub a b).symm
theorem oI_mul (a b : Int) : oI a * oI b = oI (a * b) := (Int32.ofInt_mul a b).symm
theorem oI_nat (n : Nat) : Int32.ofNat n = oI n := rfl
theorem oI_lt {a b : Int} (h1 : -2147483648 ≤ a) (h2 : a ≤ 2147483647) (h3 : -2147483648 ≤ b) (h4 : b ≤ 2147483647) : oI a < oI b ↔ a < b := by
  rw [Int32.lt_iff_toInt_lt, oI_toInt h1 h2, oI_toInt h3 h4]
theorem oI_le {a b : Int} (h1 : -2147483648 ≤ a) (h2 : a ≤ 2147483647) (h3 : -2147483648 ≤ b) (h4 : b ≤ 2147483647) : oI a ≤ oI b ↔ a ≤ b := by
  rw [Int32.le_iff_toInt_le, oI_toInt h1 h2, oI_toInt h3 h4]
theorem oI_eq {a b : Int} (h1 : -2147483648 ≤ a) (h2 : a ≤ 2147483647) (h3 : -2147483648 ≤ b) (h4 : b ≤ 2147483647) : oI a = oI b ↔ a = b := by
  rw [← Int32.toInt_inj, oI_toInt h1 h2, oI_toInt h3 h4]
theorem nN_o {a : Int} (h1 : 0 ≤ a) (h2 : a ≤ 2147483647) : nN (oI a) = a.toNat := by
  show (oI a).toInt.toNat = _
  rw [oI_toInt (by omega) h2]
theorem zin_o {n : Nat} {e : Int} (h1 : 0 ≤ e) (h2 : e < n) (h3 : e ≤ 2147483647) : zix n (oI e) := by
  rintro (h | h)
  · rw [show (0 : Int32) = oI 0 from rfl, oI_lt (by omega) h3 (by omega) (by omega)] at h; omega
  · have := nN_o h1 h3
    rw [show Int32.toNatClampNeg (oI e) = nN (oI e) from rfl, this] at h; omega
/-- any int is that of an integer in range -/
theorem oI_nf (v : Int32) : ∃ x : Int, -2147483648 ≤ x ∧ x ≤ 2147483647 ∧ v = oI x := ⟨v.toInt, i_lo v, i_hi v, (oI_self v).symm⟩
theorem tg_lo (t : zSt) (a k : Nat) : -2147483648 ≤ tg t a k := i_lo _
theorem tg_hi (t : zSt) (a k : Nat) : tg t a k ≤ 2147483647 := i_hi _
theorem ti_g (t : zSt) (a k : Nat) : ti t a k = oI (tg t a k) := (oI_self _).symm
theorem ti_I (t : zSt) (a k b j : Nat) (x : Int32) : ti (tI t a k x) b j = if b = a ∧ j = k then x else ti t b j := by
  unfold ti tI zup
  by_cases hb : b = a
  · subst hb
    by_cases hj : j = k <;> simp [hj]
  · simp [hb]
theorem tg_I {t : zSt} {a k b j : Nat} {x : Int} (h1 : -2147483648 ≤ x) (h2 : x ≤ 2147483647) : tg (tI t a k (oI x)) b j = if b = a ∧ j = k then x else tg t b j := by
  unfold tg; rw [ti_I]; split
  · exact oI_toInt h1 h2
  · rfl
/-- an answer is given, of which Q holds -/
def zok (o : Option zO) (Q : Option zV ⊕ Nat → zH → Prop) : Prop := ∃ r h', o = some (r, h') ∧ Q r h'
theorem zok_ck {c : Prop} [Decidable c] {k : Option zO} {Q : Option zV ⊕ Nat → zH → Prop} (hc : c) (hk : zok k Q) : zok (zck c k) Q := by
  unfold zck; rw [if_pos hc]; exact hk
theorem zok_if {c : Prop} [Decidable c] {A B : Option zO} {Q : Option zV ⊕ Nat → zH → Prop} (h1 : c → zok A Q) (h2 : ¬ c → zok B Q) : zok (if c then A else B) Q := by
  by_cases hc : c
  · rw [if_pos hc]; exact h1 hc
  · rw [if_neg hc]; exact h2 hc
theorem zok_lt {a b : Int} (r : (-2147483648 ≤ a ∧ a ≤ 2147483647) ∧ -2147483648 ≤ b ∧ b ≤ 2147483647) {A B : Option zO} {Q : Option zV ⊕ Nat → zH → Prop} (h1 : a < b → zok A Q) (h2 : b ≤ a → zok B Q) : zok (if oI a < oI b then A else B) Q :=
  zok_if (fun c => h1 ((oI_lt r.1.1 r.1.2 r.2.1 r.2.2).mp c)) (fun c => h2 (by have := mt (oI_lt r.1.1 r.1.2 r.2.1 r.2.2).mpr c; omega))
theorem zok_le {a b : Int} (r : (-2147483648 ≤ a ∧ a ≤ 2147483647) ∧ -2147483648 ≤ b ∧ b ≤ 2147483647) {A B : Option zO} {Q : Option zV ⊕ Nat → zH → Prop} (h1 : a ≤ b → zok A Q) (h2 : b < a → zok B Q) : zok (if oI a ≤ oI b then A else B) Q :=
  zok_if (fun c => h1 ((oI_le r.1.1 r.1.2 r.2.1 r.2.2).mp c)) (fun c => h2 (by have := mt (oI_le r.1.1 r.1.2 r.2.1 r.2.2).mpr c; omega))
theorem zok_eq {a b : Int} (r : (-2147483648 ≤ a ∧ a ≤ 2147483647) ∧ -2147483648 ≤ b ∧ b ≤ 2147483647) {A B : Option zO} {Q : Option zV ⊕ Nat → zH → Prop} (h1 : a = b → zok A Q) (h2 : a ≠ b → zok B Q) : zok (if oI a = oI b then A else B) Q :=
  zok_if (fun c => h1 ((oI_eq r.1.1 r.1.2 r.2.1 r.2.2).mp c)) (fun c => h2 (mt (oI_eq r.1.1 r.1.2 r.2.1 r.2.2).mpr c))
theorem zok_ne {a b : Int} (r : (-2147483648 ≤ a ∧ a ≤ 2147483647) ∧ -2147483648 ≤ b ∧ b ≤ 2147483647) {A B : Option zO} {Q : Option zV ⊕ Nat → zH → Prop} (h1 : a ≠ b → zok A Q) (h2 : a = b → zok B Q) : zok (if ¬ oI a = oI b then A else B) Q :=
  zok_if (fun c => h1 (mt (oI_eq r.1.1 r.1.2 r.2.1 r.2.2).mpr c)) (fun c => h2 ((oI_eq r.1.1 r.1.2 r.2.1 r.2.2).mp (Classical.not_not.mp c)))
theorem zok_cx {o : Option zO} {R Q : Option zV ⊕ Nat → zH → Prop} {f : Option zV → zH → Option zO} {g : Nat → zH → Option zO} (h : zok o R) (h1 : ∀ v h', R (.inl v) h' → zok (f v h') Q) (h2 : ∀ E h', R (.inr E) h' → zok (g E h') Q) : zok (zcx o f g) Q := by
  obtain ⟨r, h', rfl, hR⟩ := h
  cases r with
  | inl v => exact h1 v h' hR
  | inr E => exact h2 E h' hR
theorem zok_up {o : Option zO} {R Q : Option zV ⊕ Nat → zH → Prop} (h : zok o R) (hq : ∀ r h', R r h' → Q r h') : zok o Q := by
  obtain ⟨r, h', e, hR⟩ := h; exact ⟨r, h', e, hq _ _ hR⟩
theorem zok_rt {r : Option zV ⊕ Nat} {h : zH} {Q : Option zV ⊕ Nat → zH → Prop} (hq : Q r h) : zok (some (r, h)) Q := ⟨r, h, rfl, hq⟩
theorem zput_s (x : zV) (s : List zV) : zput (some x) s = x :: s := rfl
theorem zput_n (s : List zV) : zput none s = s := rfl
/-- answers: none; an int; no throw -/
def zq0 (P : zSt → Prop) (sh : zSh) (r : Option zV ⊕ Nat) (h : zH) : Prop := ∃ t, r = .inl none ∧ h = (sh, t) ∧ P t
def qI (P : Int → zSt → Prop) (sh : zSh) (r : Option zV ⊕ Nat) (h : zH) : Prop := ∃ x t, r = .inl (some (zI (oI x))) ∧ h = (sh, t) ∧ -2147483648 ≤ x ∧ x ≤ 2147483647 ∧ P x t
def qR (P : Nat → zSt → Prop) (sh : zSh) (r : Option zV ⊕ Nat) (h : zH) : Prop := ∃ x t, r = .inl (some (zR x)) ∧ h = (sh, t) ∧ P x t
/-- the call goes on behind it -/
theorem zok_c0 {o : Option zO} {P : zSt → Prop} {sh : zSh} {Q : Option zV ⊕ Nat → zH → Prop} {f : Option zV → zH → Option zO} {g : Nat → zH → Option zO} (h : zok o (zq0 P sh)) (h1 : ∀ t, P t → zok (f none (sh, t)) Q) : zok (zcx o f g) Q := by
  obtain ⟨r, h', rfl, t, rfl, rfl, hR⟩ := h; exact h1 t hR
theorem zok_cI {o : Option zO} {P : Int → zSt → Prop} {sh : zSh} {Q : Option zV ⊕ Nat → zH → Prop} {f : Option zV → zH → Option zO} {g : Nat → zH → Option zO} (h : zok o (qI P sh)) (h1 : ∀ x t, -2147483648 ≤ x ∧ x ≤ 2147483647 → P x t → zok (f (some (zI (oI x))) (sh, t)) Q) : zok (zcx o f g) Q := by
  obtain ⟨r, h', rfl, x, t, rfl, rfl, a, b, hR⟩ := h; exact h1 x t ⟨a, b⟩ hR
theorem zok_cR {o : Option zO} {P : Nat → zSt → Prop} {sh : zSh} {Q : Option zV ⊕ Nat → zH → Prop} {f : Option zV → zH → Option zO} {g : Nat → zH → Option zO} (h : zok o (qR P sh)) (h1 : ∀ x t, P x t → zok (f (some (zR x)) (sh, t)) Q) : zok (zcx o f g) Q := by
  obtain ⟨r, h', rfl, x, t, rfl, rfl, hR⟩ := h; exact h1 x t hR
theorem qI_rt {P : Int → zSt → Prop} {sh : zSh} {t : zSt} {x : Int} (h1 : -2147483648 ≤ x) (h2 : x ≤ 2147483647) (h : P x t) : zok (some (.inl (some (zI (oI x))), (sh, t))) (qI P sh) := ⟨_, _, rfl, x, t, rfl, rfl, h1, h2, h⟩
theorem qI_nf {P : Int → zSt → Prop} {sh : zSh} {t : zSt} {v : Int32} (h : P v.toInt t) : zok (some (.inl (some (zI v)), (sh, t))) (qI P sh) := ⟨_, _, rfl, v.toInt, t, by rw [oI_self], rfl, i_lo v, i_hi v, h⟩
theorem q0_rt {P : zSt → Prop} {sh : zSh} {t : zSt} (h : P t) : zok (some (.inl none, (sh, t))) (zq0 P sh) := ⟨_, _, rfl, t, rfl, rfl, h⟩
theorem qR_rt {P : Nat → zSt → Prop} {sh : zSh} {t : zSt} {x : Nat} (h : P x t) : zok (some (.inl (some (zR x)), (sh, t))) (qR P sh) := ⟨_, _, rfl, x, t, rfl, rfl, h⟩
theorem zok_p0 {o : Option zO} {P : Prop} {sh : zSh} {t0 : zSt} {Q : Option zV ⊕ Nat → zH → Prop} {f : Option zV → zH → Option zO} {g : Nat → zH → Option zO} (h : zok o (zq0 (fun t' => t' = t0 ∧ P) sh)) (h1 : P → zok (f none (sh, t0)) Q) : zok (zcx o f g) Q := by
  obtain ⟨r, h', rfl, t, rfl, rfl, rfl, hR⟩ := h; exact h1 hR
theorem zok_pI {o : Option zO} {P : Int → Prop} {sh : zSh} {t0 : zSt} {Q : Option zV ⊕ Nat → zH → Prop} {f : Option zV → zH → Option zO} {g : Nat → zH → Option zO} (h : zok o (qI (fun x t' => t' = t0 ∧ P x) sh)) (h1 : ∀ x, -2147483648 ≤ x ∧ x ≤ 2147483647 → P x → zok (f (some (zI (oI x))) (sh, t0)) Q) : zok (zcx o f g) Q := by
  obtain ⟨r, h', rfl, x, t, rfl, rfl, a, b, rfl, hR⟩ := h; exact h1 x ⟨a, b⟩ hR
theorem zok_pR {o : Option zO} {P : Nat → Prop} {sh : zSh} {t0 : zSt} {Q : Option zV ⊕ Nat → zH → Prop} {f : Option zV → zH → Option zO} {g : Nat → zH → Option zO} (h : zok o (qR (fun x t' => t' = t0 ∧ P x) sh)) (h1 : ∀ x, P x → zok (f (some (zR x)) (sh, t0)) Q) : zok (zcx o f g) Q := by
  obtain ⟨r, h', rfl, x, t, rfl, rfl, rfl, hR⟩ := h; exact h1 x hR
def qL (P : Int64 → zSt → Prop) (sh : zSh) (r : Option zV ⊕ Nat) (h : zH) : Prop := ∃ x t, r = .inl (some (zL x)) ∧ h = (sh, t) ∧ P x t
theorem qL_rt {P : Int64 → zSt → Prop} {sh : zSh} {t : zSt} {x : Int64} (h : P x t) : zok (some (.inl (some (zL x)), (sh, t))) (qL P sh) := ⟨_, _, rfl, x, t, rfl, rfl, h⟩
theorem bool_p {x : Int} (h : x = 0 ∨ x = 1) : oI x = (0 : Int32) ∨ oI x = (1 : Int32) := by
  rcases h with h | h <;> rw [h]
  · exact Or.inl rfl
  · exact Or.inr rfl
/-- a switch as a row of questions -/
def zswl {α : Type} (rec : Nat → α) (x : Int32) (d : Nat) : Int → List Nat → α
  | _, [] => rec d
  | lo, p :: ps => if x = oI lo then rec p else zswl rec x d (lo + 1) ps
theorem zsw {α : Type} (rec : Nat → α) (x : Int32) (d : Nat) (ps : List Nat) (lo : Int) (h1 : -2147483648 ≤ lo) (h2 : lo + (ps.length : Int) ≤ 2147483648) : (if x.toInt < lo ∨ lo + (ps.length : Int) - 1 < x.toInt then rec d else rec ((d :: ps).getD ((x.toInt - lo).toNat + 1) 0)) = zswl rec x d lo ps := by
  induction ps generalizing lo with
  | nil => rw [if_pos (by simp only [List.length_nil]; omega)]; rfl
  | cons p ps ih =>
    rw [List.length_cons] at h2 ⊢
    have hx := i_lo x
    by_cases e : x.toInt = lo
    · rw [if_neg (by omega)]
      have e2 : x = oI lo := by rw [← e, oI_self]
      show _ = if x = oI lo then rec p else zswl rec x d (lo + 1) ps
      rw [if_pos e2, e, show (lo - lo).toNat + 1 = 1 by omega]; rfl
    · have e2 : ¬ x = oI lo := by intro c; rw [c, oI_toInt h1 (by omega)] at e; exact e rfl
      show _ = if x = oI lo then rec p else zswl rec x d (lo + 1) ps
      rw [if_neg e2, ← ih (lo + 1) (by omega) (by omega)]
      by_cases c : x.toInt < lo ∨ lo + ((ps.length + 1 : Nat) : Int) - 1 < x.toInt
      · rw [if_pos c, if_pos (by omega)]
      · rw [if_neg c, if_neg (by omega)]
        obtain ⟨k, hk⟩ : ∃ k : Nat, x.toInt - (lo + 1) = k := ⟨(x.toInt - (lo + 1)).toNat, by omega⟩
        rw [show (x.toInt - lo).toNat + 1 = k + 2 by omega, show (x.toInt - (lo + 1)).toNat + 1 = k + 1 by omega]
        rfl
theorem oI_ite (c : Prop) [Decidable c] (a b : Int) : ∃ x, (x = a ∨ x = b) ∧ (if c then oI a else oI b) = oI x := by
  by_cases h : c
  · exact ⟨a, Or.inl rfl, if_pos h⟩
  · exact ⟨b, Or.inr rfl, if_neg h⟩
theorem oI_mm (a b u v : Int) (r : (-2147483648 ≤ a ∧ a ≤ 2147483647) ∧ -2147483648 ≤ b ∧ b ≤ 2147483647) : ∃ x, ((a < b ∧ x = u) ∨ (b ≤ a ∧ x = v)) ∧ (if oI a < oI b then oI u else oI v) = oI x := by
  by_cases h : a < b
  · exact ⟨u, Or.inl ⟨h, rfl⟩, if_pos ((oI_lt r.1.1 r.1.2 r.2.1 r.2.2).mpr h)⟩
  · exact ⟨v, Or.inr ⟨by omega, rfl⟩, if_neg (fun c => h ((oI_lt r.1.1 r.1.2 r.2.1 r.2.2).mp c))⟩
