set_option maxRecDepth 16384
/-! reading a text: what it comes to -/
theorem zBE_rng (f : Int → Int) (n : Int) (hn : 0 ≤ n) : ∀ k : Nat, k < 7 → -1 ≤ zB f n k ∧ zB f n k ≤ zE f n k ∧ zE f n k ≤ n := by
  have rH : 0 ≤ kH f n ∧ kH f n ≤ n := (cfn_r f 35 0 n).1 hn
  have rQ : 0 ≤ kQ f n ∧ kQ f n ≤ kH f n := (cfn_r f 63 0 (kH f n)).1 rH.1
  have rS : 0 ≤ kS f n ∧ kS f n ≤ kQ f n := (cfn_r f 47 0 (kQ f n)).1 rQ.1
  have rC : 0 ≤ kC f n ∧ kC f n ≤ kS f n := (cfn_r f 58 0 (kS f n)).1 rS.1
  have rP : 0 ≤ kP f n ∧ (kP f n ≤ kQ f n) := by
    by_cases c : kC f n < kS f n
    · rw [(kP_st f n).1 c]; omega
    · rw [(kP_st f n).2 (by omega)]; omega
  have o1 : kO f n = 0 ∨ kO f n = 1 := by unfold kO; split <;> omega
  have b0 := zBE0 f n
  have b5 := zBE5 f n
  have b6 := zBE6 f n
  have za := zBEa f n
  intro k hk
  rcases (by omega : k = 0 ∨ (1 ≤ k ∧ k ≤ 4) ∨ k = 5 ∨ k = 6) with e | e | e | e
  · subst e; clear b5 b6 za
    by_cases c : kC f n < kS f n
    · rw [(b0.1 c).1, (b0.1 c).2]; clear b0; omega
    · have := b0.2 (by clear b0; omega); rw [this.1, this.2]; clear b0; omega
  rotate_left
  · subst e; clear b0 b6 za
    by_cases c : kQ f n < kH f n
    · rw [(b5.1 c).1, (b5.1 c).2]; clear b5; omega
    · have := b5.2 (by clear b5; omega); rw [this.1, this.2]; clear b5; omega
  · subst e; clear b0 b5 za
    by_cases c : kH f n < n
    · rw [(b6.1 c).1, (b6.1 c).2]; clear b6; omega
    · have := b6.2 (by clear b6; omega); rw [this.1, this.2]; clear b6; omega
  · clear b0 b5 b6
    rcases o1 with o | o
    · obtain ⟨y1, y2, y3, y4, y5, y6, y7⟩ := za.2.2 o
      have y8 := za.1
      clear za
      rcases (by omega : k = 1 ∨ k = 2 ∨ k = 3 ∨ k = 4) with e | e | e | e <;> subst e
      · rw [y1, y2]; omega
      · rw [y3, y4]; omega
      · rw [y5, y6]; omega
      · rw [y7, y8]; omega
    · obtain ⟨y1, y2, y3, y4, y5, y6, y7⟩ := za.2.1 o
      have y8 := za.1
      clear za
      have hO : kP f n + 2 ≤ kQ f n := by
        unfold kO at o; by_cases c : kP f n + 2 ≤ kQ f n ∧ f (kP f n) = 47 ∧ f (kP f n + 1) = 47
        · exact c.1
        · rw [if_neg c] at o; cases o
      have rA : kP f n + 2 ≤ kA f n ∧ kA f n ≤ kQ f n := (cfn_r f 47 (kP f n + 2) (kQ f n)).1 hO
      obtain ⟨a, ha⟩ : ∃ a, a = kP f n + 2 := ⟨_, rfl⟩
      obtain ⟨e, he⟩ : ∃ e, e = kA f n := ⟨_, rfl⟩
      rw [← ha, ← he] at y1 y2 y3 y4 y5 y6
      rw [← he] at y7
      have fr := fli_r f 64 a _ (e - 1) rfl
      have pb : (fli f 64 a (e - 1) = -1 ∧ aS1 f a e = -1 ∧ pB f a e = a) ∨ (fli f 64 a (e - 1) ≠ -1 ∧ aS1 f a e = a ∧ pB f a e = fli f 64 a (e - 1) + 1) := by
        by_cases c : fli f 64 a (e - 1) = -1
        · exact Or.inl ⟨c, (aS1_st f a e).1 c⟩
        · exact Or.inr ⟨c, (aS1_st f a e).2 c⟩
      have kr := oc_r f (pB f a e) _ (pB f a e) e 0 (-1) rfl (by omega) (Or.inl rfl)
      have kr : pK f a e = -1 ∨ (pB f a e ≤ pK f a e ∧ pK f a e < e) := kr
      have ak : (pK f a e = -1 ∧ aE2 f a e = e ∧ aS3 f a e = -1 ∧ aE3 f a e = -1) ∨ (pK f a e ≠ -1 ∧ aE2 f a e = pK f a e ∧ aS3 f a e = pK f a e + 1 ∧ aE3 f a e = e) := by
        by_cases c : pK f a e = -1
        · exact Or.inl ⟨c, (aK_st f a e).1 c⟩
        · exact Or.inr ⟨c, (aK_st f a e).2 c⟩
      rcases (by omega : k = 1 ∨ k = 2 ∨ k = 3 ∨ k = 4) with w | w | w | w <;> subst w
      · rw [y1, y2]; clear y1 y2 y3 y4 y5 y6 y7 y8; omega
      · rw [y3, y4]; clear y1 y2 y3 y4 y5 y6 y7 y8; omega
      · rw [y5, y6]; clear y1 y2 y3 y4 y5 y6 y7 y8; omega
      · rw [y7, y8]; clear y1 y2 y3 y4 y5 y6 y7 y8; omega
/-- the room that a part takes with its marks -/
def pLn (b e : Int) : Int := if b = -1 then 0 else e - b + 1
theorem zlen (f : Int → Int) (n : Int) (hn : 0 ≤ n) : plen (fun k => if zB f n k = -1 then 0 else zE f n k - zB f n k) (fun k => if zB f n k = -1 then 0 else 1) = n := by
  have rH : 0 ≤ kH f n ∧ kH f n ≤ n := (cfn_r f 35 0 n).1 hn
  have rQ : 0 ≤ kQ f n ∧ kQ f n ≤ kH f n := (cfn_r f 63 0 (kH f n)).1 rH.1
  have rS : 0 ≤ kS f n ∧ kS f n ≤ kQ f n := (cfn_r f 47 0 (kQ f n)).1 rQ.1
  have rC : 0 ≤ kC f n ∧ kC f n ≤ kS f n := (cfn_r f 58 0 (kS f n)).1 rS.1
  have o1 : kO f n = 0 ∨ kO f n = 1 := by unfold kO; split <;> omega
  have t0 : ∀ k : Nat, (if (if zB f n k = -1 then (0 : Int) else 1) = 0 then (0 : Int) else 1) = if zB f n k = -1 then 0 else 1 := fun k => by split <;> simp
  have t2 : (if (if zB f n 2 = -1 then (0 : Int) else 1) = 0 then (0 : Int) else 2) = if zB f n 2 = -1 then 0 else 2 := by split <;> simp
  have g : ∀ k : Nat, (if zB f n k = -1 then 0 else zE f n k - zB f n k) + (if zB f n k = -1 then (0 : Int) else 1) = pLn (zB f n k) (zE f n k) := fun k => by
    unfold pLn; split <;> omega
  have s0 : pLn (zB f n 0) (zE f n 0) = kP f n := by
    have b0 := zBE0 f n
    have kp := kP_st f n
    unfold pLn
    by_cases c : kC f n < kS f n
    · rw [(b0.1 c).1, (b0.1 c).2, kp.1 c, if_neg (by decide)]; omega
    · have c2 : kS f n ≤ kC f n := by omega
      rw [(b0.2 c2).1, kp.2 c2, if_pos rfl]
  have s5 : pLn (zB f n 5) (zE f n 5) = kH f n - kQ f n := by
    have b5 := zBE5 f n
    unfold pLn
    by_cases c : kQ f n < kH f n
    · rw [(b5.1 c).1, (b5.1 c).2, if_neg (by omega)]; omega
    · have c2 : kH f n ≤ kQ f n := by omega
      rw [(b5.2 c2).1, if_pos rfl]; omega
  have s6 : pLn (zB f n 6) (zE f n 6) = n - kH f n := by
    have b6 := zBE6 f n
    unfold pLn
    by_cases c : kH f n < n
    · rw [(b6.1 c).1, (b6.1 c).2, if_neg (by omega)]; omega
    · have c2 : n ≤ kH f n := by omega
      rw [(b6.2 c2).1, if_pos rfl]; omega
  have sA : (if zB f n 2 = -1 then (0 : Int) else 2) + pLn (zB f n 1) (zE f n 1) + (if zB f n 2 = -1 then 0 else zE f n 2 - zB f n 2) + pLn (zB f n 3) (zE f n 3) + (if zB f n 4 = -1 then 0 else zE f n 4 - zB f n 4) = kQ f n - kP f n := by
    have za := zBEa f n
    have rP : 0 ≤ kP f n := by
      by_cases c : kC f n < kS f n
      · rw [(kP_st f n).1 c]; omega
      · rw [(kP_st f n).2 (by omega)]; omega
    rcases o1 with o | o
    · obtain ⟨y1, y2, y3, y4, y5, y6, y7⟩ := za.2.2 o
      rw [y1, y3, y5, y7, za.1]; clear za
      unfold pLn
      rw [if_pos rfl, if_pos rfl, if_pos rfl, if_pos rfl, if_neg (by omega)]; omega
    · obtain ⟨y1, y2, y3, y4, y5, y6, y7⟩ := za.2.1 o
      rw [y1, y2, y3, y4, y5, y6, y7, za.1]; clear za
      have hO : kP f n + 2 ≤ kQ f n := by
        unfold kO at o; by_cases c : kP f n + 2 ≤ kQ f n ∧ f (kP f n) = 47 ∧ f (kP f n + 1) = 47
        · exact c.1
        · rw [if_neg c] at o; cases o
      have rA : kP f n + 2 ≤ kA f n ∧ kA f n ≤ kQ f n := (cfn_r f 47 (kP f n + 2) (kQ f n)).1 hO
      clear y1 y2 y3 y4 y5 y6 y7
      obtain ⟨a, ha⟩ : ∃ a, a = kP f n + 2 := ⟨_, rfl⟩
      obtain ⟨e, he⟩ : ∃ e, e = kA f n := ⟨_, rfl⟩
      rw [← ha, ← he]
      have fr := fli_r f 64 a _ (e - 1) rfl
      have u1 : pLn (aS1 f a e) (fli f 64 a (e - 1)) = pB f a e - a ∧ a ≤ pB f a e ∧ pB f a e ≤ e := by
        unfold pLn
        by_cases c : fli f 64 a (e - 1) = -1
        · have := (aS1_st f a e).1 c; rw [this.1, this.2, if_pos rfl]; omega
        · have := (aS1_st f a e).2 c; rw [this.1, this.2, if_neg (by omega)]; omega
      have kr := oc_r f (pB f a e) _ (pB f a e) e 0 (-1) rfl (by omega) (Or.inl rfl)
      have kr : pK f a e = -1 ∨ (pB f a e ≤ pK f a e ∧ pK f a e < e) := kr
      have u2 : (aE2 f a e - pB f a e) + pLn (aS3 f a e) (aE3 f a e) = e - pB f a e := by
        unfold pLn
        by_cases c : pK f a e = -1
        · have := (aK_st f a e).1 c; rw [this.1, this.2.1, this.2.2, if_pos rfl]; omega
        · have := (aK_st f a e).2 c; rw [this.1, this.2.1, this.2.2, if_neg (by omega)]; omega
      rw [u1.1, if_neg (by omega), if_neg (by omega), if_neg (by omega)]; omega
  unfold plen
  rw [t2]
  have u7 : plA (fun k => if zB f n k = -1 then 0 else zE f n k - zB f n k) (fun k => if zB f n k = -1 then 0 else 1) 7 = pLn (zB f n 0) (zE f n 0) + pLn (zB f n 1) (zE f n 1) + (if zB f n 2 = -1 then 0 else zE f n 2 - zB f n 2) + pLn (zB f n 3) (zE f n 3) + (if zB f n 4 = -1 then 0 else zE f n 4 - zB f n 4) + pLn (zB f n 5) (zE f n 5) + pLn (zB f n 6) (zE f n 6) := by
    rw [← g 0, ← g 1, ← g 3, ← g 5, ← g 6]
    simp only [plA, t0, or_true, true_or, or_false, false_or, or_self, if_true, if_false, Int.add_zero, Int.zero_add, show ((0 : Nat) = 2) = False from by decide, show ((0 : Nat) = 4) = False from by decide, show ((1 : Nat) = 2) = False from by decide, show ((1 : Nat) = 4) = False from by decide, show ((3 : Nat) = 2) = False from by decide, show ((3 : Nat) = 4) = False from by decide, show ((5 : Nat) = 2) = False from by decide, show ((5 : Nat) = 4) = False from by decide, show ((6 : Nat) = 2) = False from by decide, show ((6 : Nat) = 4) = False from by decide]
  rw [u7, s0, s5, s6]
  omega
theorem pA_cg {p p' : Int → Int} {f f' : Int → Int} : ∀ (m : Nat) (a e : Int), (e - a).toNat = m → (∀ k, a ≤ k → k < e → p (f k) = p' (f' k)) → pA p f a e = pA p' f' a e := by
  intro m
  induction m with
  | zero => intro a e hm _; rw [(pA_st p f a e).1 (by omega), (pA_st p' f' a e).1 (by omega)]
  | succ m ih =>
    intro a e hm h
    have st := (pA_st p f a e).2 (by omega)
    have st' := (pA_st p' f' a e).2 (by omega)
    have h0 := h a (by omega) (by omega)
    by_cases c : p (f a) = 1
    · rw [st.1 c, st'.1 (h0 ▸ c), ih (a + 1) e (by omega) (fun k h1 h2 => h k (by omega) h2)]
    · rw [st.2 c, st'.2 (h0 ▸ c)]
theorem aOk_cg {f : Int → Int} {n : Int} {S E S' E' : Nat → Int} (h : ∀ k : Nat, k < 7 → S k = S' k ∧ E k = E' k) : aOk f n S E ↔ aOk f n S' E' := by
  have b : pA (bOk f S E) (fun k => k) 1 7 = pA (bOk f S' E') (fun k => k) 1 7 := by
    refine pA_cg _ 1 7 rfl (fun k h1 h2 => ?_)
    have := h k.toNat (by omega)
    show bOk f S E k = bOk f S' E' k
    unfold bOk; rw [this.1, this.2]
  unfold aOk
  rw [b, (h 0 (by decide)).2, (h 2 (by decide)).1, (h 2 (by decide)).2, (h 3 (by decide)).1, (h 3 (by decide)).2]
/-- nothing changes of rows but of one reference, of what was taken and of the tape -/
theorem S95 {sh : zSh} {V : wSt} {x : Nat} (h : wLL sh x) (A : AllR sh V) (i : Int) (T : List Int) (hT : tx sh V (sr sh x 0) = T) :
    ∃ r V', wcl zP 95 [wR x, wI i] (sh, V) = some (r, (sh, V')) ∧ AllR sh V' ∧ tx sh V' (sr sh x 0) = [] ∧ (∀ s, zRow sh s → s ≠ sr sh x 0 → s ≠ sr sh x 1 → (∀ k, k < 7 → s ≠ sr sh (wP sh x i.toNat) k) → tx sh V' s = tx sh V s ∧ V' s 2 = V s 2) ∧
      ((¬ (0 ≤ i ∧ i < 8) ∧ r = .inr 2) ∨ ((0 ≤ i ∧ i < 8) ∧ ¬ aOk (gl T) (T.length : Int) (zB (gl T) (T.length : Int)) (zE (gl T) (T.length : Int)) ∧ r = .inr 0) ∨
        ((0 ≤ i ∧ i < 8) ∧ aOk (gl T) (T.length : Int) (zB (gl T) (T.length : Int)) (zE (gl T) (T.length : Int)) ∧ r = .inl (some (wI (T.length : Int))))) ∧
      (∀ k : Nat, 0 ≤ i ∧ i < 8 → k < 7 → (aOk (gl T) (T.length : Int) (zB (gl T) (T.length : Int)) (zE (gl T) (T.length : Int)) → tx sh V' (sr sh (wP sh x i.toNat) k) = (if zB (gl T) (T.length : Int) k = -1 then [] else sub T (zB (gl T) (T.length : Int) k) (zE (gl T) (T.length : Int) k)) ∧ V' (sr sh (wP sh x i.toNat) k) 2 = (if zB (gl T) (T.length : Int) k = -1 then 0 else 1)) ∧
        (¬ aOk (gl T) (T.length : Int) (zB (gl T) (T.length : Int)) (zE (gl T) (T.length : Int)) → tx sh V' (sr sh (wP sh x i.toNat) k) = tx sh V (sr sh (wP sh x i.toNat) k) ∧ V' (sr sh (wP sh x i.toNat) k) 2 = V (sr sh (wP sh x i.toNat) k) 2)) := by
  have h0 := h
  obtain ⟨Z, kx, ⟨r0, r1, r2, r5⟩, ⟨n01, -⟩, hP, -, hPn, hRd, hAd, ⟨d1, d2⟩, -, ⟨c0, c1, -⟩, hcap⟩ := h
  have fx : (sk sh x).1 ≠ 13 ∧ (sk sh x).1 ≠ 1 := by rw [kx]; decide
  have nx : nRw sh [x] := nRw_s fx (nRw_0 sh)
  obtain ⟨V1, e1, f1, A1, t1, t0, l1⟩ := S115 h0 A
  rw [hT] at t1
  have l1' : V1 (sr sh x 1) 1 = (T.length : Int) := by rw [← tx_sz (A1 _ r1), t1]
  obtain ⟨n, hn⟩ : ∃ n, n = (T.length : Int) := ⟨_, rfl⟩
  have n0 : 0 ≤ n := by rw [hn]; exact Int.natCast_nonneg _
  have n4 : n ≤ 400 := by have := (tx_cap (A _ r0)).1; rw [hT, c0] at this; omega
  have o1 : ∀ s, zRow sh s → s ≠ sr sh x 0 → s ≠ sr sh x 1 → tx sh V1 s = tx sh V s ∧ V1 s = V s := by
    intro s hs m0 m1
    have m : ∀ b, b ≠ sr sh x 0 → b ≠ sr sh (sr sh x 0) 0 → b ≠ sr sh x 1 → b ≠ sr sh (sr sh x 1) 0 → V1 b = V b := fun b w0 w1 w2 w3 => f1 b (fun w => by
      simp only [List.mem_cons, List.not_mem_nil, or_false] at w
      rcases w with w | w | w | w
      · exact w0 w
      · exact w1 w
      · exact w2 w
      · exact w3 w)
    have e := m s m0 (row_ne hs r0) m1 (row_ne hs r1)
    exact ⟨tx_cg e (m _ (fun w => row_ne r0 hs w.symm) (Z _ _ hs r0 m0) (fun w => row_ne r1 hs w.symm) (Z _ _ hs r1 m1)), e⟩
  rw [← hn]
  rw [w95_0, e1]
  simp only [wcx_v, wput_s, w95_4]
  obtain ⟨V2, hV2⟩ : ∃ V2, V2 = uI (uI V1 x 10 0) x 11 0 := ⟨_, rfl⟩
  have f2 : FrO [x] V1 V2 := by rw [hV2]; exact (uI_fr (List.mem_cons_self)).trans (uI_fr (List.mem_cons_self))
  have A2 := f2.all nx A1
  rw [← hV2, S113 h0 i V2]
  have o2 : ∀ s, zRow sh s → tx sh V2 s = tx sh V1 s ∧ V2 s = V1 s := fun s hs => (f2.row nx (A1 s hs)).2
  by_cases ci : 0 ≤ i ∧ i < 8
  rotate_left
  · rw [if_neg ci]
    refine ⟨_, V2, rfl, A2, (o2 _ r0).1.trans t0, fun s hs m0 m1 _ => ⟨(o2 s hs).1.trans (o1 s hs m0 m1).1, by rw [(o2 s hs).2, (o1 s hs m0 m1).2]⟩, Or.inl ⟨ci, rfl⟩, fun k w => absurd w ci⟩
  rw [if_pos ci]
  have P := hP i.toNat (by omega)
  have pn : ∀ k, k < 7 → sr sh (wP sh x i.toNat) k ≠ sr sh x 0 ∧ sr sh (wP sh x i.toNat) k ≠ sr sh x 1 := fun k hk => ⟨(hPn i.toNat k (by omega) hk).1, (hPn i.toNat k (by omega) hk).2.1⟩
  simp only [wcx_v, wput_s, w95_20]
  -- the places
  obtain ⟨V3, e3, f3, k3⟩ := S35 hRd (A2 _ r1)
  have A3 := f3.all hRd.nr A2
  have t3 : tx sh V3 (sr sh x 1) = T := ((f3.row hRd.nr (A2 _ r1)).2.1).trans ((o2 _ r1).1.trans t1)
  have l3 : V3 (sr sh x 1) 1 = n := by rw [← tx_sz (A3 _ r1), t3, hn]
  have t2 : tx sh V2 (sr sh x 1) = T := (o2 _ r1).1.trans t1
  have l2 : V2 (sr sh x 1) 1 = n := by rw [← tx_sz (A2 _ r1), t2, hn]
  rw [t2, l2] at k3
  rw [e3]
  simp only [wcx_v, wput_n, w95_29]
  have rg := zBE_rng (gl T) n n0
  -- the faults
  obtain ⟨V4, e4, f4⟩ := S42 hRd hAd (A3 _ r1) (fun k hk => by have := k3 k hk; have := rg k hk; omega) d1 d2
  have nr4 : nRw sh [sr sh x 4, sr sh (sr sh x 6) 0] := nRw_s (by rw [hRd.1]; decide) hAd.nr
  have A4 := f4.all nr4 A3
  have o4 : ∀ s, zRow sh s → tx sh V4 s = tx sh V1 s ∧ V4 s = V1 s := fun s hs => by
    have a := (f4.row nr4 (A3 s hs)).2
    have b := (f3.row hRd.nr (A2 s hs)).2
    have c := o2 s hs
    exact ⟨a.1.trans (b.1.trans c.1), a.2.trans (b.2.trans c.2)⟩
  have s0 : sr sh (sr sh x 4) 0 ≠ sr sh x 4 := fun e => by have k1 := hRd.2.1; rw [e, hRd.1] at k1; cases k1
  have s1 : sr sh (sr sh x 4) 1 ≠ sr sh x 4 := fun e => by have k1 := hRd.2.2.1; rw [e, hRd.1] at k1; cases k1
  have k4 : ∀ k : Nat, k < 7 → V4 (sr sh (sr sh x 4) 0) k = zB (gl T) n k ∧ V4 (sr sh (sr sh x 4) 1) k = zE (gl T) n k := fun k hk => by
    rw [f4 _ (fun w => (List.mem_cons.mp w).elim s0 (fun z => d1 (List.mem_singleton.mp z))), f4 _ (fun w => (List.mem_cons.mp w).elim s1 (fun z => d2 (List.mem_singleton.mp z)))]
    exact k3 k hk
  rw [t3, l3, show aOk (gl T) n (V3 (sr sh (sr sh x 4) 0)) (V3 (sr sh (sr sh x 4) 1)) = aOk (gl T) n (zB (gl T) n) (zE (gl T) n) from propext (aOk_cg k3)] at e4
  rw [e4]
  simp only [wcx_v, wput_s, w95_41]
  by_cases ok : aOk (gl T) n (zB (gl T) n) (zE (gl T) n)
  rotate_left
  · rw [bI_not.2 ok, if_neg (by decide)]
    obtain ⟨V5, hV5⟩ : ∃ V5, V5 = uI (uI V4 x 10 (V4 (sr sh x 4) 2)) x 11 (uI V4 x 10 (V4 (sr sh x 4) 2) (sr sh x 4) 3) := ⟨_, rfl⟩
    have f5 : FrO [x] V4 V5 := by rw [hV5]; exact (uI_fr (List.mem_cons_self)).trans (uI_fr (List.mem_cons_self))
    have o5 : ∀ s, zRow sh s → tx sh V5 s = tx sh V1 s ∧ V5 s = V1 s := fun s hs => by
      have a := (f5.row nx (A4 s hs)).2; have b := o4 s hs
      exact ⟨a.1.trans b.1, a.2.trans b.2⟩
    rw [← hV5]
    refine ⟨_, V5, rfl, f5.all nx A4, (o5 _ r0).1.trans t0, fun s hs m0 m1 _ => ⟨(o5 s hs).1.trans (o1 s hs m0 m1).1, by rw [(o5 s hs).2, (o1 s hs m0 m1).2]⟩, Or.inr (Or.inl ⟨ci, ok, rfl⟩), fun k _ hk => ?_⟩
    refine ⟨fun w => absurd w ok, fun _ => ?_⟩
    have q := P.1 k hk
    exact ⟨(o5 _ q).1.trans (o1 _ q (pn k hk).1 (pn k hk).2).1, by rw [(o5 _ q).2, (o1 _ q (pn k hk).1 (pn k hk).2).2]⟩
  rw [bI_not.1 ok, if_pos rfl]
  have t4 : tx sh V4 (sr sh x 1) = T := (o4 _ r1).1.trans t1
  obtain ⟨V5, e5, f5, A5, k5⟩ := S41 Z P hRd r1 (fun k hk e => (pn k hk).2 e.symm) A4 (fun k hk => by rw [t4, hcap i.toNat k (by omega) hk]; split <;> omega) (fun k hk => by have := k4 k hk; have := rg k hk; omega)
  rw [e5]
  simp only [wcx_v, wput_n, w95_83]
  rw [S27 A5 P.1]
  simp only [wcx_v, wput_s, w95_87]
  have k6 : ∀ k : Nat, k < 7 → tx sh V5 (sr sh (wP sh x i.toNat) k) = (if zB (gl T) n k = -1 then [] else sub T (zB (gl T) n k) (zE (gl T) n k)) ∧ V5 (sr sh (wP sh x i.toNat) k) 2 = (if zB (gl T) n k = -1 then 0 else 1) := fun k hk => by
    have := k5 k hk
    rw [(k4 k hk).1, (k4 k hk).2, t4] at this; exact this
  have ln : plen (fun k => V5 (sr sh (wP sh x i.toNat) k) 1) (fun k => V5 (sr sh (wP sh x i.toNat) k) 2) = n := by
    rw [← zlen (gl T) n n0]
    have cg : ∀ (sz sz' th th' : Nat → Int), (∀ k, k < 7 → sz k = sz' k ∧ th k = th' k) → plen sz th = plen sz' th' := by
      intro sz sz' th th' hh
      have ca : ∀ m, m ≤ 7 → plA sz th m = plA sz' th' m := by
        intro m
        induction m with
        | zero => intro _; rfl
        | succ m ih => intro hm; unfold plA; rw [ih (by omega), (hh m (by omega)).1, (hh m (by omega)).2]
      unfold plen; rw [ca 7 (Nat.le_refl 7), (hh 2 (by decide)).2]
    refine cg _ _ _ _ (fun k hk => ⟨?_, (k6 k hk).2⟩)
    have g := rg k hk
    rw [← tx_sz (A5 _ (P.1 k hk)), (k6 k hk).1]
    by_cases c : zB (gl T) n k = -1
    · rw [if_pos c, if_pos c]; rfl
    · rw [if_neg c, if_neg c, sub_len _ _ _ (by omega), ← hn]
      by_cases d : zE (gl T) n k < n
      · rw [if_pos d]; split <;> omega
      · rw [if_neg d]; split <;> omega
  rw [ln]
  refine ⟨_, V5, rfl, A5, ?_, fun s hs m0 m1 mk => ?_, Or.inr (Or.inr ⟨ci, ok, rfl⟩), fun k _ hk => ?_⟩
  · rw [(f5.oth Z P r0 (fun k hk e => (pn k hk).1 e.symm)).1, (o4 _ r0).1, t0]
  · have a := f5.oth Z P hs mk
    exact ⟨a.1.trans ((o4 s hs).1.trans (o1 s hs m0 m1).1), by rw [a.2, (o4 s hs).2, (o1 s hs m0 m1).2]⟩
  · exact ⟨fun _ => k6 k hk, fun w => absurd ok w⟩
