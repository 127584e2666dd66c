set_option maxRecDepth 16384
/-! the model's methods that normalise, and that compare -/
section
variable {sh : zSh} {m : Nat} {V : wSt} {tp ou : List Int} {rw' : Nat → List Int}
theorem M186 (M : wMd sh m) (s : Mx sh m V tp ou rw') (i t h : Int) (hv : ∀ p : Nat, p < 8 → Va (cutQ (rw' p))) (U : Nat → Int) : (¬ ((0 ≤ i ∧ i ≤ 7) ∧ (0 ≤ t ∧ t ≤ 7)) → wcl zP 186 [wR m, wI i, wI t, wI h] (sh, V) = rI 0 (sh, uI V m 0 1)) ∧
    ((0 ≤ i ∧ i ≤ 7) ∧ (0 ≤ t ∧ t ≤ 7) → ¬ (0 ≤ h ∧ h ≤ 31) → wcl zP 186 [wR m, wI i, wI t, wI h] (sh, V) = rI 0 (sh, uI V m 0 2)) ∧
    ((0 ≤ i ∧ i ≤ 7) ∧ (0 ≤ t ∧ t ≤ 7) → (0 ≤ h ∧ h ≤ 31) → ∀ N, N = cmm (qNrm (cutQ (rw' t.toNat)) h U) →
      (400 < N.length → ∃ V', wcl zP 186 [wR m, wI i, wI t, wI h] (sh, V) = rI 0 (sh, V') ∧ Mx sh m V' tp ou rw' ∧ V' m 0 = 3) ∧
      (N.length ≤ 400 → ∃ V', wcl zP 186 [wR m, wI i, wI t, wI h] (sh, V) = rI (N.length : Int) (sh, V') ∧ Mx sh m V' tp ou (rup rw' i.toNat N) ∧ V' m 0 = 0)) := by
  have cc := fun x => (fld (V := V) M 0 x).2.2
  refine ⟨fun q => ?_, fun q qh => ?_, fun q qh N hN => ?_⟩
  · rw [w186_0, M127]
    simp only [wcx_v, wput_s]
    by_cases d1 : 0 ≤ i ∧ i ≤ 7
    · rw [if_pos d1, w186_5, if_neg (by decide), M127]
      simp only [wcx_v, wput_s]
      rw [if_neg (fun d2 => q ⟨d1, d2⟩), w186_12, if_pos rfl, cc 1, if_neg (by decide)]
    · rw [if_neg d1, w186_5, if_pos rfl, cc 1, if_neg (by decide)]
  · rw [w186_0, M127]
    simp only [wcx_v, wput_s]
    rw [if_pos q.1, w186_5, if_neg (by decide), M127]
    simp only [wcx_v, wput_s]
    rw [if_pos q.2, w186_12, if_neg (by decide), M120]
    simp only [wcx_v, wput_s]
    rw [if_neg qh, w186_26, if_pos rfl, cc 2, if_neg (by decide)]
  · have s0 := Mx_fld M s 0 (by decide) 0
    have hb := s0.2.2.2.2.1 t.toNat (by omega)
    rw [Int.toNat_of_nonneg q.2.1] at hb
    have hl := s0.2.2.2.2.2.2 t.toNat (by omega)
    obtain ⟨V2, e2, s2, x8, z2, -, -, -⟩ := M185r M s0 (d := 8) (r := t) (by decide) (by omega) qh (by omega) hb (hv _ (by omega)) U
    rw [← hN] at x8
    rw [cc 0] at z2
    have e1 : wcl zP 186 [wR m, wI i, wI t, wI h] (sh, V) = wcl zP 159 [wR m, wI i, wI 8, wI 3] (sh, V2) := by
      rw [w186_0, M127]
      simp only [wcx_v, wput_s]
      rw [if_pos q.1, w186_5, if_neg (by decide), M127]
      simp only [wcx_v, wput_s]
      rw [if_pos q.2, w186_12, if_neg (by decide), M120]
      simp only [wcx_v, wput_s]
      rw [if_pos qh, w186_26, if_neg (by decide), cc 0, if_pos (by decide), e2]
      simp only [wcx_v, wput_n, w186_54]
      have k := M159q M s2.1 (a := 8) (b := i) (by decide) (by omega) (by omega) 3 (by decide)
      by_cases l : (mx sh V2 m 8).length ≤ 400
      · obtain ⟨V3, e3, -⟩ := k.1 l
        rw [e3]
        simp only [wcx_v, wput_s, w186_62]
      · rw [k.2 (by omega)]
        simp only [wcx_v, wput_s, w186_62]
    have k := M159q M s2.1 (a := 8) (b := i) (by decide) (by omega) (by omega) 3 (by decide)
    rw [x8] at k
    refine ⟨fun l => ⟨_, e1.trans (k.2 l), Mx_fld M s2 0 (by decide) 3, (fld (V := V2) M 0 3).2.2⟩, fun l => ?_⟩
    obtain ⟨V3, e3, u3⟩ := k.1 l
    exact ⟨V3, e1.trans e3, (Mx_fld M s2 0 (by decide) 0).row M u3 (by omega) l, by rw [u3.m M]; exact (fld (V := V2) M 0 0).2.2⟩
theorem M132_24 {a b : Int} (ha : 0 ≤ a ∧ a ≤ 13) (hb : 0 ≤ b ∧ b ≤ 13) (l : 0 ≤ V (sr sh m 2) a.toNat ∧ V (sr sh m 2) a.toNat ≤ 1500) : ∀ (n : Nat) (k : Nat), V (sr sh m 2) a.toNat = (k : Int) + n → wev zP 132 24 [some (wR m), some (wI a), some (wI b), some (wI 1), some (wI k)] [] (sh, V) = rI (bI (∀ j : Nat, k ≤ j → j < k + n → V (sr sh m 1) (1500 * a.toNat + j) = V (sr sh m 1) (1500 * b.toNat + j))) (sh, V) := by
  intro n
  induction n with
  | zero => intro k hk; rw [w132_24, if_pos (by omega)]; exact rI_cg (bI_i.mpr (fun j h1 h2 => by omega)).symm
  | succ n ih =>
    intro k hk
    rw [w132_24, if_neg (by omega), if_neg (by decide), wr_eq (x := 1500 * a) (by omega) (by omega), wr_eq (x := 1500 * b) (by omega) (by omega), wr_eq (x := 1500 * a + _) (by omega) (by omega), wr_eq (x := 1500 * b + _) (by omega) (by omega), show (1500 * a + (k : Int)).toNat = 1500 * a.toNat + k by omega, show (1500 * b + (k : Int)).toNat = 1500 * b.toNat + k by omega, wr_eq (by omega) (by omega)]
    by_cases c : V (sr sh m 1) (1500 * a.toNat + k) = V (sr sh m 1) (1500 * b.toNat + k)
    · rw [if_pos c]
      have := ih (k + 1) (by omega)
      rw [show ((k + 1 : Nat) : Int) = (k : Int) + 1 by omega] at this
      rw [this]
      refine rI_cg (bI_cg ⟨fun w j h1 h2 => ?_, fun w j h1 h2 => w j (by omega) (by omega)⟩)
      by_cases d : j = k
      · rw [d]; exact c
      · exact w j (by omega) (by omega)
    · rw [if_neg c, w132_24]
      have z : bI (∀ j : Nat, k ≤ j → j < k + (n + 1) → V (sr sh m 1) (1500 * a.toNat + j) = V (sr sh m 1) (1500 * b.toNat + j)) = 0 := (bI_r _).resolve_right (fun w => c (bI_i.mp w k (Nat.le_refl _) (by omega)))
      rw [z]
      split
      · rfl
      · rw [if_pos rfl]
theorem M132q {a b : Int} (ha : 0 ≤ a ∧ a ≤ 13) (hb : 0 ≤ b ∧ b ≤ 13) (la : 0 ≤ V (sr sh m 2) a.toNat ∧ V (sr sh m 2) a.toNat ≤ 1500) (lb : 0 ≤ V (sr sh m 2) b.toNat) : wcl zP 132 [wR m, wI a, wI b] (sh, V) = rI (bI (mx sh V m a = mx sh V m b)) (sh, V) := by
  rw [w132_0]
  by_cases c : V (sr sh m 2) a.toNat = V (sr sh m 2) b.toNat
  · rw [if_pos c]
    have := M132_24 (m := m) (V := V) (sh := sh) ha hb la (V (sr sh m 2) a.toNat).toNat 0 (by omega)
    refine this.trans (rI_cg (bI_cg ⟨fun w => ?_, fun w j h1 h2 => ?_⟩))
    · refine mx_ext (by rw [mx_sz lb, c]) (fun k hk => ?_)
      rw [mx_len] at hk
      rw [mx_g, if_pos hk, w k (Nat.zero_le _) (by omega)]
    · have g1 := mx_g sh V m a j
      have g2 := mx_g sh V m b j
      rw [if_pos (by omega)] at g1 g2
      rw [w, g2] at g1
      exact (Option.some.inj g1).symm
  · rw [if_neg c]
    have z : bI (mx sh V m a = mx sh V m b) = 0 := (bI_r _).resolve_right (fun w => c (by rw [← mx_sz la.1, ← mx_sz lb, bI_i.mp w]))
    rw [z, w132_24]
    split
    · rfl
    · rw [if_pos rfl]
theorem M187 (M : wMd sh m) (s : Mx sh m V tp ou rw') (i t h : Int) (hv : ∀ p : Nat, p < 8 → Va (cutQ (rw' p))) (U : Nat → Int) : (¬ ((0 ≤ i ∧ i ≤ 7) ∧ (0 ≤ t ∧ t ≤ 7)) → wcl zP 187 [wR m, wI i, wI t, wI h] (sh, V) = rI 0 (sh, uI V m 0 1)) ∧
    ((0 ≤ i ∧ i ≤ 7) ∧ (0 ≤ t ∧ t ≤ 7) → ¬ (0 ≤ h ∧ h ≤ 31) → wcl zP 187 [wR m, wI i, wI t, wI h] (sh, V) = rI 0 (sh, uI V m 0 2)) ∧
    ((0 ≤ i ∧ i ≤ 7) ∧ (0 ≤ t ∧ t ≤ 7) → (0 ≤ h ∧ h ≤ 31) → ∃ V', wcl zP 187 [wR m, wI i, wI t, wI h] (sh, V) = rI (bI (cmm (qNrm (cutQ (rw' i.toNat)) h U) = cmm (qNrm (cutQ (rw' t.toNat)) h U))) (sh, V') ∧ Mx sh m V' tp ou rw' ∧ V' m 0 = 0) := by
  have cc := fun x => (fld (V := V) M 0 x).2.2
  refine ⟨fun q => ?_, fun q qh => ?_, fun q qh => ?_⟩
  · rw [w187_0, M127]
    simp only [wcx_v, wput_s]
    by_cases d1 : 0 ≤ i ∧ i ≤ 7
    · rw [if_pos d1, w187_5, if_neg (by decide), M127]
      simp only [wcx_v, wput_s]
      rw [if_neg (fun d2 => q ⟨d1, d2⟩), w187_12, if_pos rfl, cc 1, if_neg (by decide)]
    · rw [if_neg d1, w187_5, if_pos rfl, cc 1, if_neg (by decide)]
  · rw [w187_0, M127]
    simp only [wcx_v, wput_s]
    rw [if_pos q.1, w187_5, if_neg (by decide), M127]
    simp only [wcx_v, wput_s]
    rw [if_pos q.2, w187_12, if_neg (by decide), M120]
    simp only [wcx_v, wput_s]
    rw [if_neg qh, w187_26, if_pos rfl, cc 2, if_neg (by decide)]
  · have s0 := Mx_fld M s 0 (by decide) 0
    have hi := s0.2.2.2.2.1 i.toNat (by omega)
    rw [Int.toNat_of_nonneg q.1.1] at hi
    have li := s0.2.2.2.2.2.2 i.toNat (by omega)
    have ht := s0.2.2.2.2.1 t.toNat (by omega)
    rw [Int.toNat_of_nonneg q.2.1] at ht
    have lt := s0.2.2.2.2.2.2 t.toNat (by omega)
    obtain ⟨V2, e2, s2, x8, z2, k2, n2, y2⟩ := M185r M s0 (d := 8) (r := i) (by decide) (by omega) qh (by omega) hi (hv _ (by omega)) U
    rw [cc 0] at z2
    have ht2 : mx sh V2 m t = rw' t.toNat := by
      have := s2.2.2.2.2.1 t.toNat (by omega)
      rw [Int.toNat_of_nonneg q.2.1] at this; exact this
    obtain ⟨V3, e3, s3, x9, z3, k3, n3, y3⟩ := M185r M s2 (d := 9) (r := t) (by decide) (by omega) qh (by omega) ht2 (hv _ (by omega)) U
    have t8 : (8 : Int).toNat = 8 := rfl
    have t9 : (9 : Int).toNat = 9 := rfl
    rw [t8] at y2
    rw [t9] at k3 y3
    obtain ⟨a8, b8⟩ := k3 8 (by decide) (by decide) (by decide) (by rw [y2]; omega)
    have a8' : mx sh V3 m 8 = mx sh V2 m 8 := a8
    have s83 := (s3.1 8 (by decide)).1
    refine ⟨V3, ?_, s3, by rw [z3, z2]⟩
    rw [w187_0, M127]
    simp only [wcx_v, wput_s]
    rw [if_pos q.1, w187_5, if_neg (by decide), M127]
    simp only [wcx_v, wput_s]
    rw [if_pos q.2, w187_12, if_neg (by decide), M120]
    simp only [wcx_v, wput_s]
    rw [if_pos qh, w187_26, if_neg (by decide), cc 0, if_pos (by decide), e2]
    simp only [wcx_v, wput_n, w187_54]
    rw [e3]
    simp only [wcx_v, wput_n, w187_62]
    rw [M132q (a := 8) (b := 9) (by decide) (by decide) ⟨s83, b8⟩ (s3.1 9 (by decide)).1, a8', x8, x9]
    simp only [wcx_v, wput_s, w187_70]
end
