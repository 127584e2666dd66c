set_option maxRecDepth 16384
/-! the methods that can be called: those that only look -/
/-- the length of a reference -/
def pln (Q : Nat → List Int × Int) : Int := plen (fun k => ((Q k).1.length : Int)) (fun k => (Q k).2)
theorem plA_cg {s s' t t' : Nat → Int} (h : ∀ k, k < 7 → s k = s' k ∧ t k = t' k) : ∀ n, n ≤ 7 → plA s t n = plA s' t' n := by
  intro n
  induction n with
  | zero => intro _; rfl
  | succ n ih => intro hn; rw [plA, plA, ih (by omega), (h n (by omega)).1, (h n (by omega)).2]
theorem pln_cg {Q Q' : Nat → List Int × Int} (h : ∀ k, k < 7 → Q k = Q' k) : pln Q = pln Q' := by
  unfold pln plen
  rw [plA_cg (s := fun k => ((Q k).1.length : Int)) (s' := fun k => ((Q' k).1.length : Int)) (t := fun k => (Q k).2) (t' := fun k => (Q' k).2) (fun k hk => ⟨by rw [h k hk], by rw [h k hk]⟩) 7 (by decide)]
  dsimp only
  have e : (Q 2).2 = (Q' 2).2 := by rw [h 2 (by decide)]
  by_cases c : (Q' 2).2 = 0
  · rw [if_pos c, if_pos (e.trans c)]
  · rw [if_neg c, if_neg (fun w => c (e.symm.trans w))]
theorem S27q {sh : zSh} {V : wSt} {p : Nat} (A : AllR sh V) (P : wPt sh p) : wcl zP 27 [wR p] (sh, V) = rI (pln (pv sh V p)) (sh, V) := by
  rw [S27 A P.1]
  refine rI_cg ?_
  unfold pln plen
  rw [plA_cg (s := fun k => V (sr sh p k) 1) (s' := fun k => ((pv sh V p k).1.length : Int)) (t := fun k => V (sr sh p k) 2) (t' := fun k => (pv sh V p k).2) (fun k hk => ⟨(tx_sz (A _ (P.1 k hk))).symm, rfl⟩) 7 (by decide)]
  rfl
theorem plA_ge {s t : Nat → Int} (h : ∀ k, 0 ≤ s k) : ∀ n, 0 ≤ plA s t n ∧ ∀ k, k < n → s k ≤ plA s t n := by
  intro n
  induction n with
  | zero => exact ⟨Int.le_refl 0, fun k hk => absurd hk (Nat.not_lt_zero k)⟩
  | succ n ih =>
    have hn := h n
    have e : 0 ≤ (if n = 2 ∨ n = 4 then (0 : Int) else if t n = 0 then 0 else 1) := by
      split
      · omega
      · split <;> omega
    rw [plA]
    refine ⟨by omega, fun k hk => ?_⟩
    by_cases c : k = n
    · subst c; omega
    · have := ih.2 k (by omega); omega
theorem pln_ge (Q : Nat → List Int × Int) (k : Nat) (hk : k < 7) : ((Q k).1.length : Int) ≤ pln Q := by
  have g := (plA_ge (s := fun k => ((Q k).1.length : Int)) (t := fun k => (Q k).2) (fun k => Int.natCast_nonneg _) 7).2 k hk
  unfold pln plen
  dsimp only at g ⊢
  split <;> omega
theorem cmp_cg {Q Q' : Nat → List Int × Int} (h : ∀ k, k < 7 → Q k = Q' k) : cmp Q = cmp Q' := by
  unfold cmp
  rw [h 0 (by decide), h 1 (by decide), h 2 (by decide), h 3 (by decide), h 4 (by decide), h 5 (by decide), h 6 (by decide)]
theorem S113y {sh : zSh} {x : Nat} (h : wLL sh x) {i : Int} (hi : 0 ≤ i ∧ i < 8) (V : wSt) : wcl zP 113 [wR x, wI i] (sh, V) = some (.inl (some (wR (wP sh x i.toNat))), (sh, V)) := by rw [S113 h, if_pos hi]
theorem S113n {sh : zSh} {x : Nat} (h : wLL sh x) {i : Int} (hi : ¬ (0 ≤ i ∧ i < 8)) (V : wSt) : wcl zP 113 [wR x, wI i] (sh, V) = some (.inr 2, (sh, V)) := by rw [S113 h, if_neg hi]
theorem wcx_t (E : Nat) (h : wH) (f : Option wV → wH → Option wO) : wcx (some (.inr E, h)) f wth = some (.inr E, h) := rfl
section
variable {sh : zSh} {x : Nat} {V : wSt} {tp ou : List Int} {lk : Nat → Nat → List Int × Int} {f0 f1 : Int}
theorem S97 (h : wLL sh x) (s : Sx sh x V tp ou lk f0 f1) (i : Int) : (¬ (0 ≤ i ∧ i < 8) → wcl zP 97 [wR x, wI i] (sh, V) = some (.inr 2, (sh, V))) ∧
    (0 ≤ i ∧ i < 8 → ∃ V', wcl zP 97 [wR x, wI i] (sh, V) = rI (((cmp (lk i.toNat)).take 400).length : Int) (sh, V') ∧ Sx sh x V' tp ((cmp (lk i.toNat)).take 400) lk f0 f1) := by
  refine ⟨fun hi => by rw [w97_0, S113n h hi, wcx_t], fun hi => ?_⟩
  have P := h.P (p := i.toNat) (by omega)
  obtain ⟨V1, e1, u1, -⟩ := S28 s.1 h.Z P h.r2 (fun k hk => (h.pr (by omega) hk).2.2.1)
  rw [h.cp.2.2.1, cmp_cg (fun k hk => s.2.2.2.1 i.toNat k (by omega) hk)] at u1
  refine ⟨V1, ?_, s.out h u1⟩
  rw [w97_0, S113y h hi]
  simp only [wcx_v, wput_s, w97_5]
  rw [e1]
  simp only [wcx_v, wput_n, w97_14]
  rw [← tx_sz u1.2.1, u1.2.2.1]
theorem S98 (h : wLL sh x) (s : Sx sh x V tp ou lk f0 f1) (i k : Int) : (¬ (0 ≤ i ∧ i < 8) → wcl zP 98 [wR x, wI i, wI k] (sh, V) = some (.inr 2, (sh, V))) ∧
    (0 ≤ i ∧ i < 8 → ¬ (0 ≤ k ∧ k < 7) → wcl zP 98 [wR x, wI i, wI k] (sh, V) = some (.inr 0, (sh, V))) ∧
    (0 ≤ i ∧ i < 8 → 0 ≤ k ∧ k < 7 → ∃ V', wcl zP 98 [wR x, wI i, wI k] (sh, V) = rI (if (lk i.toNat k.toNat).2 = 0 then -1 else ((lk i.toNat k.toNat).1.length : Int)) (sh, V') ∧ Sx sh x V' tp (lk i.toNat k.toNat).1 lk f0 f1) := by
  refine ⟨fun hi => by rw [w98_0, S113n h hi, wcx_t], fun hi hk => ?_, fun hi hk => ?_⟩
  · rw [w98_0, S113y h hi]
    simp only [wcx_v, wput_s, w98_5]
    by_cases c : k < 0
    · rw [if_pos c]
    · rw [if_neg c, if_neg (by omega)]
  · have P := h.P (p := i.toNat) (by omega)
    have q := s.1 _ (P.1 k.toNat (by omega))
    have n1 := (h.pr (p := i.toNat) (k := k.toNat) (by omega) (by omega)).2.2.1
    have n2 := h.Z _ _ (P.1 k.toNat (by omega)) h.r2 n1
    obtain ⟨V1, e1, u1⟩ := S64 (s.1 _ h.r2) q n1 n2
    have l := s.2.2.2.1 i.toNat k.toNat (by omega) (by omega)
    have lt : tx sh V (sr sh (wP sh x i.toNat) k.toNat) = (lk i.toNat k.toNat).1 := congrArg Prod.fst l
    have lth : V (sr sh (wP sh x i.toNat) k.toNat) 2 = (lk i.toNat k.toNat).2 := congrArg Prod.snd l
    have le := pv_le s.1 P (h.cl (p := i.toNat) (by omega)) (k := k.toNat) (by omega)
    have le2 : (lk i.toNat k.toNat).1.length ≤ 400 := by rw [← l]; split at le <;> omega
    rw [h.cp.2.2.1, lt, List.take_of_length_le le2] at u1
    obtain ⟨q1, t1, v1⟩ := u1.fr h.r2 q n1 n2
    refine ⟨V1, ?_, s.out h u1⟩
    rw [w98_0, S113y h hi]
    simp only [wcx_v, wput_s, w98_5]
    rw [if_neg (by omega), if_pos hk.2, S22 _ k V (by omega)]
    simp only [wcx_v, wput_s, w98_29, e1, wput_n, w98_40]
    rw [v1, lth, ← tx_sz q, lt]
    by_cases c : (lk i.toNat k.toNat).2 = 0
    · rw [if_pos c, if_pos c]
    · rw [if_neg c, if_neg c]
theorem S99 (h : wLL sh x) (s : Sx sh x V tp ou lk f0 f1) (i : Int) : (¬ (0 ≤ i ∧ i < 8) → wcl zP 99 [wR x, wI i] (sh, V) = some (.inr 2, (sh, V))) ∧
    (0 ≤ i ∧ i < 8 → ∃ V', wcl zP 99 [wR x, wI i] (sh, V) = rI (kdo (lk i.toNat 2)) (sh, V') ∧ Sx sh x V' tp ou lk f0 f1) := by
  refine ⟨fun hi => by rw [w99_0, S113n h hi, wcx_t], fun hi => ?_⟩
  have P := h.P (p := i.toNat) (by omega)
  obtain ⟨V1, e1, f, -⟩ := S1 h.ad (s.1 _ (P.1 2 (by decide)))
  rw [show (tx sh V (sr sh (wP sh x i.toNat) 2), V (sr sh (wP sh x i.toNat) 2) 2) = lk i.toNat 2 from s.2.2.2.1 i.toNat 2 (by omega) (by decide)] at e1
  refine ⟨V1, ?_, s.hid h (FrA.kp h f s.1 _)⟩
  rw [w99_0, S113y h hi]
  simp only [wcx_v, wput_s, w99_9, e1, w99_15]
/-- the bits of an address -/
noncomputable def adr (y : List Int × Int) (W : Nat → Int) (j : Int) : Int := if kdo y = 2 then wor (wshl (wush (FB (gl y.1) y.1.length 0 0 0) 16) 16) (wand (FB (gl y.1) y.1.length 0 0 0) 65535) else wor (wshl (G6 (gl y.1) 1 (y.1.length - 1) W (2 * j).toNat) 16) (G6 (gl y.1) 1 (y.1.length - 1) W (2 * j + 1).toNat)
theorem S100 (h : wLL sh x) (s : Sx sh x V tp ou lk f0 f1) (i j : Int) : (¬ (0 ≤ i ∧ i < 8) → wcl zP 100 [wR x, wI i, wI j] (sh, V) = some (.inr 2, (sh, V))) ∧
    (0 ≤ i ∧ i < 8 → ∃ V' r, wcl zP 100 [wR x, wI i, wI j] (sh, V) = some (r, (sh, V')) ∧ Sx sh x V' tp ou lk f0 f1 ∧
      r = if kdo (lk i.toNat 2) ≠ 2 ∧ kdo (lk i.toNat 2) ≠ 3 then .inr 1 else if j < 0 ∨ (if kdo (lk i.toNat 2) = 2 then 0 else 3) < j then .inr 0 else .inl (some (wI (adr (lk i.toNat 2) (V (sr sh (sr sh x 6) 0)) j)))) := by
  refine ⟨fun hi => by rw [w100_0, S113n h hi, wcx_t], fun hi => ?_⟩
  have P := h.P (p := i.toNat) (by omega)
  obtain ⟨V1, e1, f, v6, v4⟩ := S1 h.ad (s.1 _ (P.1 2 (by decide)))
  have l := s.2.2.2.1 i.toNat 2 (by omega) (by decide)
  have lx : (tx sh V (sr sh (wP sh x i.toNat) 2), V (sr sh (wP sh x i.toNat) 2) 2) = lk i.toNat 2 := l
  have lt : tx sh V (sr sh (wP sh x i.toNat) 2) = (lk i.toNat 2).1 := congrArg Prod.fst l
  rw [lx] at e1 v6 v4
  rw [lt] at v6 v4
  have s1 := s.hid h (FrA.kp h f s.1 _)
  have start : ∀ o, wcl zP 100 [wR x, wI i, wI j] (sh, V) = o ↔ wev zP 100 15 [some (wR x), some (wI i), some (wI j), none] [wI (kdo (lk i.toNat 2))] (sh, V1) = o := fun o => by
    rw [w100_0, S113y h hi]
    simp only [wcx_v, wput_s, w100_9, e1]
  have b2 : ∀ k : Int, 0 ≤ j ∧ j ≤ 3 → wcx (wcl zP 2 [wR (sr sh x 6), wI j] (sh, V1)) (fun v h' => wev zP 100 68 [some (wR x), some (wI i), some (wI j), some (wI k)] (wput v []) h') wth = some (.inl (some (wI (wor (wshl (V1 (sr sh (sr sh x 6) 0) (2 * j).toNat) 16) (V1 (sr sh (sr sh x 6) 0) (2 * j + 1).toNat)))), (sh, V1)) := fun k hj => by
    rw [S2 h.ad j hj]
    simp only [wcx_v, wput_s, w100_68]
  by_cases c2 : kdo (lk i.toNat 2) = 2
  · by_cases cj : j < 0
    · refine ⟨V1, .inr 0, (start _).mpr ?_, s1, by rw [if_neg (fun w => w.1 c2), if_pos (Or.inl cj)]⟩
      rw [w100_15, if_pos c2, if_pos cj]
    · by_cases c0 : j ≤ 0
      · refine ⟨V1, .inl (some (wI (adr (lk i.toNat 2) (V (sr sh (sr sh x 6) 0)) j))), (start _).mpr ?_, s1, by rw [if_neg (fun w => w.1 c2), if_neg (by rw [if_pos c2]; omega)]⟩
        rw [w100_15, if_pos c2, if_neg cj, if_pos c2, if_pos c0, b2 _ (by omega)]
        unfold adr
        rw [if_pos c2, v4 c2, show (2 * j).toNat = 0 by omega, show (2 * j + 1).toNat = 1 by omega]
        rfl
      · refine ⟨V1, .inr 0, (start _).mpr ?_, s1, by rw [if_neg (fun w => w.1 c2), if_pos (by rw [if_pos c2]; omega)]⟩
        rw [w100_15, if_pos c2, if_neg cj, if_pos c2, if_neg c0]
  · by_cases c3 : kdo (lk i.toNat 2) = 3
    · by_cases cj : j < 0
      · refine ⟨V1, .inr 0, (start _).mpr ?_, s1, by rw [if_neg (fun w => w.2 c3), if_pos (Or.inl cj)]⟩
        rw [w100_15, if_neg c2, if_pos c3, if_pos cj]
      · by_cases c0 : j ≤ 3
        · refine ⟨V1, .inl (some (wI (adr (lk i.toNat 2) (V (sr sh (sr sh x 6) 0)) j))), (start _).mpr ?_, s1, by rw [if_neg (fun w => w.2 c3), if_neg (by rw [if_neg c2]; omega)]⟩
          rw [w100_15, if_neg c2, if_pos c3, if_neg cj, if_neg c2, if_pos c0, b2 _ (by omega)]
          unfold adr
          rw [if_neg c2, v6 c3 _ (by omega), v6 c3 _ (by omega)]
        · refine ⟨V1, .inr 0, (start _).mpr ?_, s1, by rw [if_neg (fun w => w.2 c3), if_pos (by rw [if_neg c2]; omega)]⟩
          rw [w100_15, if_neg c2, if_pos c3, if_neg cj, if_neg c2, if_neg c0]
    · refine ⟨V1, .inr 1, (start _).mpr ?_, s1, by rw [if_pos ⟨c2, c3⟩]⟩
      rw [w100_15, if_neg c2, if_neg c3]
theorem S101 (h : wLL sh x) (s : Sx sh x V tp ou lk f0 f1) (i : Int) (h5 : (lk i.toNat 3).1.length ≤ 5) : (¬ (0 ≤ i ∧ i < 8) → wcl zP 101 [wR x, wI i] (sh, V) = some (.inr 2, (sh, V))) ∧
    (0 ≤ i ∧ i < 8 → wcl zP 101 [wR x, wI i] (sh, V) = rI (pno (lk i.toNat 3)) (sh, V)) := by
  refine ⟨fun hi => by rw [w101_0, S113n h hi, wcx_t], fun hi => ?_⟩
  have l := s.2.2.2.1 i.toNat 3 (by omega) (by decide)
  rw [w101_0, S113y h hi]
  simp only [wcx_v, wput_s, w101_5]
  rw [S31 s.1 (h.P (by omega)) (by rw [l]; exact h5), l]
  simp only [wcx_v, wput_s, w101_8]
theorem S106 (h : wLL sh x) (s : Sx sh x V tp ou lk f0 f1) (i : Int) : (¬ (0 ≤ i ∧ i < 8) → wcl zP 106 [wR x, wI i] (sh, V) = some (.inr 2, (sh, V))) ∧
    (0 ≤ i ∧ i < 8 → wcl zP 106 [wR x, wI i] (sh, V) = rI (sgc (lk i.toNat 4).1) (sh, V)) := by
  refine ⟨fun hi => by rw [w106_0, S113n h hi, wcx_t], fun hi => ?_⟩
  rw [w106_0, S113y h hi]
  simp only [wcx_v, wput_s, w106_5]
  rw [S32 s.1 (h.P (by omega)), s.2.2.2.1 i.toNat 4 (by omega) (by decide)]
  simp only [wcx_v, wput_s, w106_8]
theorem S110 (h : wLL sh x) (s : Sx sh x V tp ou lk f0 f1) (i : Int) : (¬ (0 ≤ i ∧ i < 8) → wcl zP 110 [wR x, wI i] (sh, V) = some (.inr 2, (sh, V))) ∧
    (0 ≤ i ∧ i < 8 → wcl zP 110 [wR x, wI i] (sh, V) = rI (prc (lk i.toNat 5)) (sh, V)) := by
  refine ⟨fun hi => by rw [w110_0, S113n h hi, wcx_t], fun hi => ?_⟩
  rw [w110_0, S113y h hi]
  simp only [wcx_v, wput_s, w110_5]
  rw [S33 s.1 (h.P (by omega)), s.2.2.2.1 i.toNat 5 (by omega) (by decide)]
  simp only [wcx_v, wput_s, w110_8]
end
