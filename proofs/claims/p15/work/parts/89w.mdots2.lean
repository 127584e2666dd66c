set_option maxRecDepth 16384
/-! the model: dots that go, the loops -/
def okS (s : Int) : Int → List (Int × Int) → Prop
  | a, [] => a ≤ s
  | a, (f, t) :: S => a ≤ f ∧ f ≤ t ∧ okS s (t + 1) S
theorem okS_mono {s s' : Int} (h : s ≤ s') : ∀ (S : List (Int × Int)) (a : Int), okS s a S → okS s' a S := by
  intro S
  induction S with
  | nil => intro a k; exact Int.le_trans k h
  | cons p S ih => intro a k; exact ⟨k.1, k.2.1, ih _ k.2.2⟩
theorem okS_app {s e : Int} (h : s ≤ e) : ∀ (S : List (Int × Int)) (a : Int), okS s a S → okS (e + 1) a (S ++ [(s, e)]) := by
  intro S
  induction S with
  | nil => intro a k; exact ⟨k, h, Int.le_refl _⟩
  | cons p S ih => intro a k; exact ⟨k.1, k.2.1, ih _ k.2.2⟩
theorem okS_last {s : Int} : ∀ (S : List (Int × Int)) (a : Int), okS s a S → a ≤ s := by
  intro S
  induction S with
  | nil => intro a k; exact k
  | cons p S ih => intro a k; have a1 := k.1; have a2 := k.2.1; have a3 := ih _ k.2.2; omega
theorem okS_drop {s : Int} : ∀ (S : List (Int × Int)) (a : Int), okS s a S → okS s a S.dropLast := by
  intro S
  induction S with
  | nil => intro a k; exact k
  | cons p S ih =>
    intro a k
    cases S with
    | nil => exact okS_last _ _ k
    | cons q S => exact ⟨k.1, k.2.1, ih _ k.2.2⟩
theorem M162_40 {sh : zSh} {m : Nat} (M : wMd sh m) {Q : Nat → List Int × Int} (x2 a : Int) (hl : (Q 4).1.length ≤ 1490) (ha : 0 ≤ a) : ∀ (n : Nat) (V : wSt) (s : Int) (S : List (Int × Int)) (o : Int) (o6 o7 o8 : Option wV), (((Q 4).1.length : Int) + 1 - s).toNat ≤ n → 0 ≤ s → (S.length : Int) ≤ s → s ≤ (Q 4).1.length + 1 → lK sh V m Q → stk sh V m S → okS s a S → ∃ V' S' o' s' o6' o7' o8', wev zP 162 40 [some (wR m), some (wI ((Q 4).1.length : Int)), some (wI x2), some (wI s), some (wI (S.length : Int)), some (wI o), o6, o7, o8] [] (sh, V) = wev zP 162 40 [some (wR m), some (wI ((Q 4).1.length : Int)), some (wI x2), some (wI s'), some (wI (S'.length : Int)), some (wI o'), o6', o7', o8'] [] (sh, V') ∧ (Q 4).1.length < s' ∧ s' ≤ (Q 4).1.length + 1 ∧ (S', o') = mdA (Q 4).1 n s S o ∧ stk sh V' m S' ∧ okS s' a S' ∧ (S'.length : Int) ≤ s' ∧ FrO [sr sh m 12, sr sh m 13] V V' := by
  intro n
  induction n with
  | zero =>
    intro V s S o o6 o7 o8 hn hs hc h1 K hS ok
    exact ⟨V, S, o, s, o6, o7, o8, rfl, by omega, h1, rfl, hS, ok, hc, FrO.refl⟩
  | succ n ih =>
    intro V s S o o6 o7 o8 hn hs hc h1 K hS ok
    by_cases c0 : ((Q 4).1.length : Int) < s
    · exact ⟨V, S, o, s, o6, o7, o8, rfl, c0, h1, by rw [mdA, if_pos c0], hS, ok, hc, FrO.refl⟩
    have cr := (cfn_r (gl (Q 4).1) 47 s (Q 4).1.length).1 (by omega)
    obtain ⟨V1, S1, o1, p6, p7, p8, e1, f1, st1, hS1, ho1⟩ := M162_step M K ((Q 4).1.length : Int) x2 s (S.length : Int) o o6 o7 o8 ⟨hs, by omega⟩ hl ⟨by omega, by omega⟩ S hS rfl
    have fr : ∀ j, j ∈ zARw → j ≠ 12 → j ≠ 13 → V1 (sr sh m j) = V (sr sh m j) := fun j hj n1 n2 => f1 _ (fun w => by
      simp only [List.mem_cons, List.not_mem_nil, or_false] at w
      rcases w with w | w
      · exact M.n hj (by decide) n1 w
      · exact M.n hj (by decide) n2 w)
    have K1 : lK sh V1 m Q := lK_fr K (fr 9 (by decide) (by decide) (by decide)) (fr 10 (by decide) (by decide) (by decide)) (fr 11 (by decide) (by decide) (by decide))
    have ok1 : okS (cfn (gl (Q 4).1) 47 s (Q 4).1.length + 1) a S1 ∧ (S1.length : Int) ≤ cfn (gl (Q 4).1) 47 s (Q 4).1.length + 1 := by
      rw [hS1]
      split
      · exact ⟨okS_mono (by omega) _ _ (okS_drop _ _ ok), by rw [List.length_dropLast]; omega⟩
      · split
        · exact ⟨okS_mono (by omega) _ _ ok, by omega⟩
        · exact ⟨okS_app (by omega) _ _ ok, by rw [List.length_append, List.length_singleton]; omega⟩
    obtain ⟨V2, S2, o2, s2, q6, q7, q8, e2, l2, l2', r2, st2, ok2, c2, f2⟩ := ih V1 (cfn (gl (Q 4).1) 47 s (Q 4).1.length + 1) S1 o1 p6 p7 p8 (by omega) (by omega) ok1.2 (by omega) K1 st1 ok1.1
    refine ⟨V2, S2, o2, s2, q6, q7, q8, ?_, l2, l2', ?_, st2, ok2, c2, f1.trans f2⟩
    · rw [w162_40, if_neg c0, M161q K 47 s ⟨hs, by omega⟩]
      simp only [wcx_v, wput_s]
      rw [e1, e2]
    · rw [mdA, if_neg c0, r2, hS1, ho1]
/-- one sign more of the laid path; no other cell changes -/
theorem M152p {sh : zSh} {V : wSt} {m : Nat} (M : wMd sh m) {Q : Nat → List Int × Int} (K : lK sh V m Q) (x : Int) (hs : (Q 4).1.length < 1500) : ∃ V', wcl zP 152 [wR m, wI 4, wI x] (sh, V) = rN (sh, V') ∧ FrO [sr sh m 9, sr sh m 10] V V' ∧ lK sh V' m (pup Q 4 ((Q 4).1 ++ [x], (Q 4).2)) ∧ ∀ j : Nat, j ≠ 6000 + (Q 4).1.length → V' (sr sh m 9) j = V (sr sh m 9) j := by
  have n910 : sr sh m 9 ≠ sr sh m 10 := M.n (by decide) (by decide) (by decide)
  have sz := K.sz (k := 4) (by decide)
  obtain ⟨V', e, f, l⟩ := M152q M K (k := 4) (by decide) x hs
  refine ⟨V', e, f, l, fun j hj => ?_⟩
  rw [w152_0, show Int.toNat 4 = 4 from rfl, sz] at e
  have e2 := (Prod.mk.inj (Prod.mk.inj (Option.some.inj e)).2).2
  rw [← e2]
  unfold uI
  rw [if_neg (fun w => n910 w.1), if_neg (fun w => hj (by
    have z := w.2
    rw [wr_eq (x := 1500 * 4) (by decide) (by decide), wr_eq (by omega) (by omega)] at z; omega))]
