set_option maxRecDepth 16384
/-! the model's hosts and addresses -/
theorem Mx_frm {sh : zSh} {m : Nat} {V V' : wSt} {tp ou : List Int} {rw' : Nat → List Int} (M : wMd sh m) (s : Mx sh m V tp ou rw') {fs os : List Nat} (f : FrM m fs os V V') (h7 : 7 ∉ fs) (h : ∀ j, j ∈ [1, 2, 8, 10] → sr sh m j ∉ os) : Mx sh m V' tp ou rw' := by
  have e8 := f.1 _ (M.m (j := 8) (by decide)) (h 8 (by decide))
  have e7 := f.2 7 h7
  refine s.out M f (fun j hj => h j (by
    simp only [List.mem_cons, List.not_mem_nil, or_false] at hj ⊢
    rcases hj with w | w | w
    · exact Or.inl w
    · exact Or.inr (Or.inl w)
    · exact Or.inr (Or.inr (Or.inr w)))) ?_ (by rw [e7]; exact s.2.2.2.1.2)
  unfold ox; rw [e7, e8]; exact s.2.2.2.1.1
theorem os14x {sh : zSh} {m : Nat} (M : wMd sh m) : ∀ j, j ∈ [1, 2, 8, 10] → sr sh m j ∉ [sr sh m 14] := fun j hj w => by
  simp only [List.mem_cons, List.not_mem_nil, or_false] at hj w
  rcases hj with h | h | h | h <;> subst h <;> exact M.n (by decide) (by decide) (by decide) w
/-- a number that bits make up -/
theorem FB_i32 (f : Int → Int) (e a : Int) : ∃ x : Int32, FB f e 0 a 0 = x.toInt := by
  rw [(FB_st f e 0 a 0).2.1 (by decide), (FB_st f e (0 + 1) _ _).2.1 (by decide), (FB_st f e (0 + 1 + 1) _ _).2.1 (by decide), (FB_st f e (0 + 1 + 1 + 1) _ _).2.2 (by decide), (FB_st f e (0 + 1 + 1 + 1 + 1) _ _).1 (by decide)]
  exact ⟨_, rfl⟩
section
variable {sh : zSh} {m : Nat} {V : wSt} {tp ou : List Int} {rw' : Nat → List Int}
theorem M169 (M : wMd sh m) (s : Mx sh m V tp ou rw') {i : Int} (hi : 0 ≤ i ∧ i ≤ 7) : ∃ V', wcl zP 169 [wR m, wI i] (sh, V) = rI (kdo (cutQ (rw' i.toNat) 2)) (sh, V') ∧ Mx sh m V' tp ou rw' ∧ V' m 0 = V m 0 ∧ (kdo (cutQ (rw' i.toNat) 2) = 2 → V' m 16 = FB (gl (cutQ (rw' i.toNat) 2).1) (cutQ (rw' i.toNat) 2).1.length 0 0 0) ∧ (kdo (cutQ (rw' i.toNat) 2) = 3 → ∃ P g, six6 (gl (cutQ (rw' i.toNat) 2).1) 1 ((cutQ (rw' i.toNat) 2).1.length - 1) P g ∧ ∀ j : Nat, j < 8 → V' (sr sh m 14) j = arr P g j) := by
  have hl := s.L hi
  obtain ⟨V1, e1, f1, K1, s1⟩ := s.K M hi
  have v1 : V1 m = V m := f1.fm M
  obtain ⟨L, hL⟩ : ∃ L, L = rw' i.toNat := ⟨_, rfl⟩
  rw [← hL] at K1 hl ⊢
  have B1 := (K1.2 2 (by decide)).1
  have E1 := (K1.2 2 (by decide)).2
  unfold mB at B1
  unfold mE at E1
  have rg := zBE_rng (gl L) L.length (Int.natCast_nonneg _) 2 (by decide)
  have cl := (cutQ_l L 2 (by decide))
  have x2 : Int.toNat (wr (wr (7 * i) + 2)) = 7 * i.toNat + 2 := ix7 (r := i) (p := 2) (by omega) (by decide)
  have Lx := K1.1
  have pg := part_gl L (k := 2) (by decide)
  obtain ⟨B, hB⟩ : ∃ B, B = zB (gl L) L.length 2 := ⟨_, rfl⟩
  obtain ⟨E, hE⟩ : ∃ E, E = zE (gl L) L.length 2 := ⟨_, rfl⟩
  rw [← hB] at B1 rg cl pg
  rw [← hE] at E1 rg cl
  obtain ⟨X, hX⟩ : ∃ X, X = cutQ L 2 := ⟨_, rfl⟩
  rw [← hX] at cl pg ⊢
  obtain ⟨c1, c2, c3⟩ := cl
  rw [w169_0, e1]
  simp only [wcx_v, wput_n, w169_5]
  rw [x2, B1, E1]
  unfold kdo
  by_cases b0 : B = -1
  · rw [if_neg (by omega), if_pos (c3.mpr b0)]
    exact ⟨V1, rfl, s1, by rw [v1], fun w => absurd w (by decide), fun w => absurd w (by decide)⟩
  have q2 : ¬ X.2 = 0 := fun w => b0 (c3.mp w)
  rw [if_pos (by omega), if_neg q2, M128 s1.1 (by omega), Lx]
  simp only [wcx_v, wput_s, w169_41]
  have shf : ∀ j, 0 ≤ j → j < (X.1.length : Int) → gl X.1 j = gl L (j + B) := pg
  -- four numbers
  have four : ∃ V', wcx (wcl zP 139 [wR m, wI i, wI B, wI E] (sh, V1)) (fun v h' => wev zP 169 58 [some (wR m), some (wI i), some (wI B), some (wI E)] (wput v []) h') wth = rI (if bI (cF (gl X.1) 0 X.1.length) = 1 then 2 else 1) (sh, V') ∧ Mx sh m V' tp ou rw' ∧ V' m 0 = V m 0 ∧ (bI (cF (gl X.1) 0 X.1.length) = 1 → V' m 16 = FB (gl X.1) X.1.length 0 0 0) := by
    obtain ⟨V2, e2, f2, w2⟩ := M139 M s1.1 (r := i) (by omega) B E (by omega) (by omega)
    rw [Lx] at e2 w2
    have cs : cF (gl L) B E ↔ cF (gl X.1) 0 X.1.length := by
      have := cF_sh (f := gl X.1) (g := gl L) (d := B) shf
      rw [Int.zero_add, show (X.1.length : Int) + B = E by omega] at this; exact this
    refine ⟨V2, ?_, Mx_frm M s1 f2 (by decide) (fun j _ => List.not_mem_nil), by rw [f2.2 0 (by decide), v1], fun w => ?_⟩
    · rw [e2, bI_cg cs]
      simp only [wcx_v, wput_s, w169_58]
      rcases bI_r (cF (gl X.1) 0 X.1.length) with w | w
      · rw [w, if_pos rfl, if_neg (by decide)]
      · rw [w, if_neg (by decide), if_pos rfl]
    · rw [w2, mFb_FB (cs.mpr (bI_i.mp w))]
      have := FB_sh (f := gl X.1) (g := gl L) (d := B) (e := (X.1.length : Int)) _ 0 0 0 rfl (by decide) shf
      rw [Int.zero_add, show (X.1.length : Int) + B = E by omega] at this; exact this
  by_cases c91 : gl L B = 91
  · by_cases cBE : B = E
    · have x0 : ¬ gl X.1 0 = 91 := fun w => by rw [gl_out (Or.inr (by omega))] at w; cases w
      obtain ⟨V2, e2, s2, z2, w2⟩ := four
      rw [if_pos c91, if_pos cBE, if_neg x0, e2]
      refine ⟨V2, rfl, s2, z2, fun w => ?_, fun w => ?_⟩
      · rcases bI_r (cF (gl X.1) 0 X.1.length) with q | q
        · rw [q, if_neg (by decide)] at w; cases w
        · exact w2 q
      · exfalso; split at w <;> cases w
    · have x0 : gl X.1 0 = 91 := by rw [shf 0 (by decide) (by omega), Int.zero_add]; exact c91
      rw [if_pos c91, if_neg cBE, if_pos x0, wr_eq (by omega) (by omega), wr_eq (by omega) (by omega)]
      obtain ⟨V2, e2, f2, w2⟩ := M142v M s1.1 (r := i) (by omega) (B + 1) (E - 1) (by omega) (by omega)
      rw [Lx] at e2 w2
      have sh1 : ∀ j, 1 ≤ j → j < (X.1.length : Int) - 1 → gl X.1 j = gl L (j + B) := fun j a b => shf j (by omega) (by omega)
      have cs : cSix (gl L) (B + 1) (E - 1) ↔ cSix (gl X.1) 1 (X.1.length - 1) := by
        have := cSix_sh (f := gl X.1) (g := gl L) (d := B) sh1
        rw [show (1 : Int) + B = B + 1 by omega, show (X.1.length : Int) - 1 + B = E - 1 by omega] at this; exact this
      rw [e2, bI_cg cs]
      simp only [wcx_v, wput_s, w169_78]
      refine ⟨V2, ?_, Mx_frm M s1 f2 (by decide) (os14x M), by rw [f2.2 0 (by decide), v1], fun w => ?_, fun w => ?_⟩
      · rcases bI_r (cSix (gl X.1) 1 (X.1.length - 1)) with q | q
        · rw [q, if_pos rfl, if_neg (by decide)]
        · rw [q, if_neg (by decide), if_pos rfl]
      · exfalso; split at w <;> cases w
      · rcases bI_r (cSix (gl X.1) 1 (X.1.length - 1)) with q | q
        · rw [q, if_neg (by decide)] at w; cases w
        · obtain ⟨P, g, h1, -, h3⟩ := w2 (cs.mpr (bI_i.mp q))
          obtain ⟨P', g', k⟩ := six6_ex (gl X.1) 1 (X.1.length - 1)
          have k2 := six6_sh (f := gl X.1) (g := gl L) (d := B) sh1 k
          rw [show (1 : Int) + B = B + 1 by omega, show (X.1.length : Int) - 1 + B = E - 1 by omega] at k2
          obtain ⟨u1, u2⟩ := six6_u h1 k2
          subst u1; subst u2
          exact ⟨P, g, k, h3⟩
  · have x0 : ¬ gl X.1 0 = 91 := fun w => by
      by_cases q : 0 < (X.1.length : Int)
      · rw [shf 0 (by decide) q, Int.zero_add] at w; exact c91 w
      · rw [gl_out (Or.inr (by omega))] at w; cases w
    obtain ⟨V2, e2, s2, z2, w2⟩ := four
    rw [if_neg c91, if_neg x0, e2]
    refine ⟨V2, rfl, s2, z2, fun w => ?_, fun w => ?_⟩
    · rcases bI_r (cF (gl X.1) 0 X.1.length) with q | q
      · rw [q, if_neg (by decide)] at w; cases w
      · exact w2 q
    · exfalso; split at w <;> cases w
theorem M170 (M : wMd sh m) (s : Mx sh m V tp ou rw') (i : Int) : (¬ (0 ≤ i ∧ i < 8) → wcl zP 170 [wR m, wI i] (sh, V) = rI 0 (sh, uI V m 0 1)) ∧
    (0 ≤ i ∧ i < 8 → ∃ V', wcl zP 170 [wR m, wI i] (sh, V) = rI (kdo (cutQ (rw' i.toNat) 2)) (sh, V') ∧ Mx sh m V' tp ou rw' ∧ V' m 0 = 0) := by
  have u0 := fun x => (fld (V := V) M 0 x).2.2
  refine ⟨fun hi => ?_, fun hi => ?_⟩
  · rw [w170_0, M127, if_neg (by omega)]
    simp only [wcx_v, wput_s, w170_5]
    rw [if_pos trivial, u0, if_neg (by decide), w170_32]
  · obtain ⟨V1, e1, s1, f1, -, -⟩ := M169 M (Mx_fld M s 0 (by decide) 0) (i := i) (by omega)
    refine ⟨V1, ?_, s1, by rw [f1, u0]⟩
    rw [w170_0, M127, if_pos (by omega)]
    simp only [wcx_v, wput_s, w170_5]
    rw [if_neg (by decide), u0, if_pos (by decide), e1]
    simp only [wcx_v, wput_s, w170_32]
theorem M171 (M : wMd sh m) (s : Mx sh m V tp ou rw') (i j : Int) (U : Nat → Int) : (¬ (0 ≤ i ∧ i < 8) → wcl zP 171 [wR m, wI i, wI j] (sh, V) = rI 0 (sh, uI V m 0 1)) ∧
    (0 ≤ i ∧ i < 8 → ∃ V' y, wcl zP 171 [wR m, wI i, wI j] (sh, V) = rI y (sh, V') ∧ Mx sh m V' tp ou rw' ∧ V' m 0 = (if kdo (cutQ (rw' i.toNat) 2) ≠ 2 ∧ kdo (cutQ (rw' i.toNat) 2) ≠ 3 then 2 else if j < 0 ∨ (if kdo (cutQ (rw' i.toNat) 2) = 2 then 0 else 3) < j then 3 else 0) ∧ (V' m 0 = 0 → y = adr (cutQ (rw' i.toNat) 2) U j)) := by
  have u0 := fun x => (fld (V := V) M 0 x).2.2
  refine ⟨fun hi => ?_, fun hi => ?_⟩
  · rw [w171_0, M127, if_neg (by omega)]
    simp only [wcx_v, wput_s, w171_5]
    rw [if_pos trivial, u0, if_neg (by decide)]
  · obtain ⟨V1, e1, s1, f1, k2, k3⟩ := M169 M (Mx_fld M s 0 (by decide) 0) (i := i) (by omega)
    rw [u0] at f1
    have u1 := fun x => (fld (V := V1) M 0 x)
    obtain ⟨X, hX⟩ : ∃ X, X = cutQ (rw' i.toNat) 2 := ⟨_, rfl⟩
    rw [← hX] at e1 k2 k3 ⊢
    obtain ⟨k, hk⟩ : ∃ k, k = kdo X := ⟨_, rfl⟩
    have kr : 0 ≤ k ∧ k ≤ 4 := by
      rw [hk]; unfold kdo
      split
      · decide
      · split
        · split <;> decide
        · split <;> decide
    rw [← hk] at e1 k2 k3 ⊢
    have start : wcl zP 171 [wR m, wI i, wI j] (sh, V) = wev zP 171 30 [some (wR m), some (wI i), some (wI j), none] [wI k] (sh, V1) := by
      rw [w171_0, M127, if_pos (by omega)]
      simp only [wcx_v, wput_s, w171_5]
      rw [if_neg (by decide), u0, if_pos (by decide), w171_25, e1]
      simp only [wcx_v, wput_s]
    have bad : k ≠ 2 ∧ k ≠ 3 → ∃ V' y, wcl zP 171 [wR m, wI i, wI j] (sh, V) = rI y (sh, V') ∧ Mx sh m V' tp ou rw' ∧ V' m 0 = (if k ≠ 2 ∧ k ≠ 3 then 2 else if j < 0 ∨ (if k = 2 then 0 else 3) < j then 3 else 0) ∧ (V' m 0 = 0 → y = adr X U j) := fun h => by
      refine ⟨uI V1 m 0 2, 0, ?_, Mx_fld M s1 0 (by decide) 2, by rw [(u1 2).2.2, if_pos h], fun w => by rw [(u1 2).2.2] at w; cases w⟩
      rw [start, w171_30]
      by_cases c : k < 2
      · rw [if_pos c, (u1 2).2.2, if_neg (by decide)]
      · rw [if_neg c, if_neg (by omega), (u1 2).2.2, if_neg (by decide)]
    by_cases h : k ≠ 2 ∧ k ≠ 3
    · exact bad h
    rw [if_neg h]
    clear bad
    obtain ⟨b, hb⟩ : ∃ b : Int, b = if k = 2 then 0 else 3 := ⟨_, rfl⟩
    have mid : wev zP 171 30 [some (wR m), some (wI i), some (wI j), none] [wI k] (sh, V1) = wev zP 171 61 [some (wR m), some (wI i), some (wI j), some (wI k)] [wI (if 0 ≤ j ∧ j ≤ b then 1 else 0), wR m] (sh, V1) := by
      rw [w171_30, if_neg (by omega), if_pos (by omega)]
      by_cases c : k = 2
      · rw [if_pos c, M120, hb, if_pos c]; simp only [wcx_v, wput_s]
      · rw [if_neg c, M120, hb, if_neg c]; simp only [wcx_v, wput_s]
    rw [start, mid, w171_61, ← hb]
    by_cases c : 0 ≤ j ∧ j ≤ b
    · rw [if_pos c, if_neg (by decide), (u1 0).2.2, if_pos (by decide), w171_81]
      have o14 : uI V1 m 0 0 (sr sh m 14) = V1 (sr sh m 14) := (u1 0).1 _ (M.m (by decide))
      by_cases c2 : k = 2
      · rw [if_pos c2]
        refine ⟨uI V1 m 0 0, _, rfl, Mx_fld M s1 0 (by decide) 0, by rw [(u1 0).2.2, if_neg (by omega)], fun _ => ?_⟩
        rw [(u1 0).2.1 16 (by decide), k2 c2]
        unfold adr
        rw [← hk, if_pos c2]
        obtain ⟨x, hx⟩ := FB_i32 (gl X.1) X.1.length 0
        rw [hx, halves]
      · rw [if_neg c2]
        refine ⟨uI V1 m 0 0, _, rfl, Mx_fld M s1 0 (by decide) 0, by rw [(u1 0).2.2, if_neg (by omega)], fun _ => ?_⟩
        have k3' : k = 3 := by omega
        obtain ⟨P, g, q1, q2⟩ := k3 k3'
        have c6 : bI (cSix (gl X.1) 1 (X.1.length - 1)) = 1 := by
          rcases bI_r (cSix (gl X.1) 1 (X.1.length - 1)) with w | w
          · exfalso
            rw [hk] at k3'
            unfold kdo at k3'
            rw [w] at k3'
            split at k3'
            · cases k3'
            · split at k3'
              · rw [if_neg (by decide)] at k3'; cases k3'
              · split at k3' <;> cases k3'
          · exact w
        have b3 : b = 3 := by rw [hb, if_neg c2]
        unfold adr
        rw [← hk, if_neg c2, o14, wr_eq (x := 2 * j) (by omega) (by omega), wr_eq (by omega) (by omega), q2 _ (by omega), q2 _ (by omega), G6_arr c6 q1 U _ (by omega), G6_arr c6 q1 U _ (by omega)]
    · rw [if_neg c, if_pos rfl, (u1 3).2.2, if_neg (by decide)]
      exact ⟨uI V1 m 0 3, 0, rfl, Mx_fld M s1 0 (by decide) 3, by rw [(u1 3).2.2, if_pos (by omega)], fun w => by rw [(u1 3).2.2] at w; cases w⟩
end
