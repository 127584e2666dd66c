set_option maxRecDepth 16384
/-! the model's methods: segments, pairs, words -/
theorem cfn_min {f : Int → Int} {b e e' : Int} (he : e' ≤ e) : ∀ (n : Nat) (k : Int), (e' - k).toNat = n → k ≤ e' → cfn f b k e' = if cfn f b k e < e' then cfn f b k e else e' := by
  intro n
  induction n with
  | zero =>
    intro k hn hk
    have r := (cfn_r f b k e).1 (by omega)
    rw [(cfn_st f b k e').1 (by omega), if_neg (by omega)]
  | succ n ih =>
    intro k hn hk
    have s1 := (cfn_st f b k e').2 (by omega)
    have s2 := (cfn_st f b k e).2 (by omega)
    by_cases c : f k = b
    · rw [s1.1 c, s2.1 c, if_pos (by omega)]
    · rw [s1.2 c, s2.2 c, ih (k + 1) (by omega) (by omega)]
theorem sop_le {X : List Int} {b : Int} : ∀ (n : Nat) (k c : Int), ((X.length : Int) + 1 - k).toNat = n → 0 ≤ k → k ≤ X.length → 0 ≤ c → c ≤ lc b (X.drop k.toNat) → k ≤ sop (gl X) b X.length c.toNat k ∧ sop (gl X) b X.length c.toNat k ≤ X.length := by
  intro n
  induction n with
  | zero => intro k c hn hk hk2; omega
  | succ n ih =>
    intro k c hn hk hk2 h0 h2
    by_cases c1 : c ≤ 0
    · rw [show c.toNat = 0 by omega]; exact ⟨Int.le_refl _, hk2⟩
    · have kl := lc_pos (b := b) (L := X) hk (by omega)
      rw [drop_gl (L := X) hk kl, lc] at h2
      have st := (cfn_st (gl X) b k X.length).2 kl
      obtain ⟨c', hc'⟩ : ∃ c', c.toNat = c' + 1 := ⟨c.toNat - 1, by omega⟩
      by_cases d : gl X k = b
      · rw [if_pos d] at h2
        have := ih (k + 1) (c - 1) (by omega) (by omega) (by omega) (by omega) (by omega)
        rw [show (c - 1).toNat = c' by omega] at this
        rw [hc', sop, st.1 d]; exact ⟨by omega, this.2⟩
      · rw [if_neg d] at h2
        have := ih (k + 1) c (by omega) (by omega) (by omega) (by omega) (by omega)
        rw [hc', sop] at this
        rw [hc', sop, st.2 d]; exact ⟨by omega, this.2⟩
theorem sgc_m (X : List Int) : sgc X = if X.length = 0 then 0 else 1 + lc 47 (X.drop (if gl X 0 = 47 then (1 : Int) else 0).toNat) := by
  unfold sgc
  by_cases c : X.length = 0
  · rw [if_pos c, if_pos c]
  · rw [if_neg c, if_neg c]
    by_cases d : gl X 0 = 47
    · rw [if_pos d]; show _ = 1 + lc 47 (X.drop 1); omega
    · rw [if_neg d]
      show lc 47 (X.drop 1) + 1 = 1 + lc 47 (X.drop 0)
      have := drop_gl (L := X) (k := 0) (by decide) (by omega)
      have : X.drop 0 = gl X 0 :: X.drop 1 := this
      rw [this, lc, if_neg d]; omega
section
variable {sh : zSh} {m : Nat} {V : wSt} {tp ou : List Int} {rw' : Nat → List Int}
theorem M195 (M : wMd sh m) (s : Mx sh m V tp ou rw') {i : Int} (hi : 0 ≤ i ∧ i ≤ 7) : ∃ V', wcl zP 195 [wR m, wI i] (sh, V) = rI (sgc (cutQ (rw' i.toNat) 4).1) (sh, V') ∧ Mx sh m V' tp ou rw' ∧ V' m = V m ∧ mK sh V' m i (rw' i.toNat) := by
  have hl := s.L hi
  obtain ⟨V1, e1, f1, K1, s1⟩ := s.K M hi
  obtain ⟨L, hL⟩ : ∃ L, L = rw' i.toNat := ⟨_, rfl⟩
  rw [← hL] at K1 hl ⊢
  have cl := cutQ_le L 4 (by decide)
  refine ⟨V1, ?_, s1, f1.fm M, K1⟩
  have k135 : wcl zP 135 [wR m, wI i, wI 4] (sh, V1) = rI ((cutQ L 4).1.length : Int) (sh, V1) := M135q (p := 4) K1 (by omega) (by omega) (by decide)
  rw [w195_0, e1]
  simp only [wcx_v, wput_n, w195_5]
  rw [k135]
  simp only [wcx_v, wput_s, w195_11]
  rw [sgc_m]
  by_cases c : (cutQ L 4).1.length = 0
  · rw [if_pos (by omega), if_pos c, w195_31]
  · rw [if_neg (by omega), if_neg c, M193 s1.1 K1 (by omega) (by omega)]
    simp only [wcx_v, wput_s, w195_26]
    have g : ∀ f : Int, 0 ≤ f ∧ f ≤ 100000 → wcl zP 194 [wR m, wI i, wI 4, wI f, wI 47] (sh, V1) = rI (1 + lc 47 ((cutQ L 4).1.drop f.toNat)) (sh, V1) := fun f hf => M194 (p := 4) s1.1 K1 (by omega) (by omega) (by decide) 47 f hf
    rw [g _ (by split <;> decide)]
    simp only [wcx_v, wput_s, w195_31]
theorem M196 (M : wMd sh m) (s : Mx sh m V tp ou rw') (i : Int) : (¬ (0 ≤ i ∧ i < 8) → wcl zP 196 [wR m, wI i] (sh, V) = rI 0 (sh, uI V m 0 1)) ∧
    (0 ≤ i ∧ i < 8 → ∃ V', wcl zP 196 [wR m, wI i] (sh, V) = rI (sgc (cutQ (rw' i.toNat) 4).1) (sh, V') ∧ Mx sh m V' tp ou rw' ∧ V' m 0 = 0) := by
  have u0 := fun x => (fld (V := V) M 0 x).2.2
  refine ⟨fun hi => ?_, fun hi => ?_⟩
  · rw [w196_0, M127, if_neg (by omega)]
    simp only [wcx_v, wput_s, w196_5]
    rw [if_pos trivial, u0, if_neg (by decide), w196_32]
  · obtain ⟨V1, e1, s1, f1, -⟩ := M195 M (Mx_fld M s 0 (by decide) 0) (i := i) (by omega)
    refine ⟨V1, ?_, s1, by rw [f1, u0]⟩
    rw [w196_0, M127, if_pos (by omega)]
    simp only [wcx_v, wput_s, w196_5]
    rw [if_neg (by decide), u0, if_pos (by decide), e1]
    simp only [wcx_v, wput_s, w196_32]
theorem M200 (M : wMd sh m) (s : Mx sh m V tp ou rw') (i j : Int) (hj2 : -2147483647 ≤ j ∧ j ≤ 2147483647) (hc : 0 ≤ i ∧ i < 8 → cdk (cutQ (rw' i.toNat) 4).1) : (¬ (0 ≤ i ∧ i < 8) → wcl zP 200 [wR m, wI i, wI j] (sh, V) = rI 0 (sh, uI V m 0 1)) ∧
    (0 ≤ i ∧ i < 8 → ¬ (0 ≤ j ∧ j < sgc (cutQ (rw' i.toNat) 4).1) → ∃ V', wcl zP 200 [wR m, wI i, wI j] (sh, V) = rI 0 (sh, V') ∧ Mx sh m V' tp ou rw' ∧ V' m 0 = 2) ∧
    (0 ≤ i ∧ i < 8 → 0 ≤ j ∧ j < sgc (cutQ (rw' i.toNat) 4).1 → ∃ V', wcl zP 200 [wR m, wI i, wI j] (sh, V) = rI ((sgt (cutQ (rw' i.toNat) 4).1 j).length : Int) (sh, V') ∧ Mx sh m V' tp (sgt (cutQ (rw' i.toNat) 4).1 j) rw' ∧ V' m 0 = 0) := by
  have u0 := fun x => (fld (V := V) M 0 x).2.2
  have start : 0 ≤ i ∧ i < 8 → ∃ V1, wcl zP 200 [wR m, wI i, wI j] (sh, V) = (if 0 ≤ j ∧ j < sgc (cutQ (rw' i.toNat) 4).1 then wev zP 200 56 [some (wR m), some (wI i), some (wI j), none] [] (sh, uI V1 m 0 0) else rI 0 (sh, uI V1 m 0 2)) ∧ Mx sh m V1 tp ou rw' ∧ mK sh V1 m i (rw' i.toNat) := fun hi => by
    obtain ⟨V1, e1, s1, f1, K1⟩ := M195 M (Mx_fld M s 0 (by decide) 0) (i := i) (by omega)
    have sr : sgc (cutQ (rw' i.toNat) 4).1 ≤ 401 ∧ 0 ≤ sgc (cutQ (rw' i.toNat) 4).1 := by
      have := lc_r 47 ((cutQ (rw' i.toNat) 4).1.drop 1)
      have cl := cutQ_le (rw' i.toNat) 4 (by decide)
      have hl := s.L (i := i) (by omega)
      rw [List.length_drop] at this
      unfold sgc; split <;> omega
    have u1 := fun x => (fld (V := V1) M 0 x).2.2
    refine ⟨V1, ?_, s1, K1⟩
    rw [w200_0, M127, if_pos (by omega)]
    simp only [wcx_v, wput_s, w200_5]
    rw [if_neg (by decide), u0, if_pos rfl, e1]
    simp only [wcx_v, wput_s, w200_31]
    rw [wr_eq (by omega) (by omega), M120]
    simp only [wcx_v, wput_s, w200_36]
    by_cases c : 0 ≤ j ∧ j < sgc (cutQ (rw' i.toNat) 4).1
    · rw [if_pos c, if_pos (c := 0 ≤ j ∧ j ≤ sgc (cutQ (rw' i.toNat) 4).1 - 1) (by omega), if_neg (by decide), u1, if_pos (by decide)]
    · rw [if_neg c, if_neg (c := 0 ≤ j ∧ j ≤ sgc (cutQ (rw' i.toNat) 4).1 - 1) (by omega), if_pos rfl, u1, if_neg (by decide)]
  refine ⟨fun hi => ?_, fun hi hj => ?_, fun hi hj => ?_⟩
  · rw [w200_0, M127, if_neg (by omega)]
    simp only [wcx_v, wput_s, w200_5]
    rw [if_pos trivial, u0, if_neg (by decide), if_neg (by decide)]
  · obtain ⟨V1, e1, s1, -⟩ := start hi
    exact ⟨_, by rw [e1, if_neg hj], Mx_fld M s1 0 (by decide) 2, (fld (V := V1) M 0 2).2.2⟩
  · obtain ⟨V1, e1, s1, K1⟩ := start hi
    have hl := s.L (i := i) (by omega)
    have hc := hc hi
    obtain ⟨L, hL⟩ : ∃ L, L = rw' i.toNat := ⟨_, rfl⟩
    rw [← hL] at e1 K1 hl hj hc ⊢
    have cl := cutQ_le L 4 (by decide)
    have f0 := fld (V := V1) M 0 0
    have s2 := Mx_fld M s1 0 (by decide) 0
    have K2 : mK sh (uI V1 m 0 0) m i L := by
      unfold mK mx mB mE at *
      rw [f0.1 _ (M.m (j := 1) (by decide)), f0.1 _ (M.m (j := 2) (by decide)), f0.1 _ (M.m (j := 3) (by decide)), f0.1 _ (M.m (j := 4) (by decide))]
      exact K1
    obtain ⟨W, hW⟩ : ∃ W, W = uI V1 m 0 0 := ⟨_, rfl⟩
    rw [← hW] at s2 K2 e1 f0
    obtain ⟨r, hr⟩ : ∃ r : Int, r = if gl (cutQ L 4).1 0 = 47 then 1 else 0 := ⟨_, rfl⟩
    have hr0 : 0 ≤ r ∧ r ≤ (cutQ L 4).1.length := by
      rw [hr]
      by_cases c : gl (cutQ L 4).1 0 = 47
      · rw [if_pos c]
        by_cases q : 1 ≤ (cutQ L 4).1.length
        · omega
        · rw [gl_out (Or.inr (by omega))] at c; cases c
      · rw [if_neg c]; omega
    have js : j ≤ lc 47 ((cutQ L 4).1.drop r.toNat) := by
      have a := hj.2
      rw [sgc_m, ← hr] at a
      split at a <;> omega
    have sl := sop_le (X := (cutQ L 4).1) (b := 47) _ r j rfl hr0.1 hr0.2 hj.1 js
    have es : sop (gl (cutQ L 4).1) 47 (cutQ L 4).1.length j.toNat r = sgs (cutQ L 4).1 j := by rw [hr]; rfl
    have g197 : wcl zP 197 [wR m, wI i, wI 4, wI r, wI 47, wI j] (sh, W) = rI (sgs (cutQ L 4).1 j) (sh, W) := by
      have := M197 (p := 4) s2.1 K2 (by omega) (by omega) (by decide) 47 r j (by omega) ⟨hj.1, js⟩
      rw [← es]; exact this
    rw [es] at sl
    have g198 : wcl zP 198 [wR m, wI i, wI 4, wI (sgs (cutQ L 4).1 j), wI 47] (sh, W) = rI (cfn (gl (cutQ L 4).1) 47 (sgs (cutQ L 4).1 j) (cutQ L 4).1.length) (sh, W) := M198 (p := 4) s2.1 K2 (by omega) (by omega) (by decide) 47 _ (by show 0 ≤ _ ∧ _ ≤ ((cutQ L 4).1.length : Int); omega)
    have cr := (cfn_r (gl (cutQ L 4).1) 47 (sgs (cutQ L 4).1 j) (cutQ L 4).1.length).1 sl.2
    obtain ⟨V2, e2, f2, o2, o7⟩ := M199 (p := 4) M s2.1 hl K2 (by omega) (by decide) hc (sgs (cutQ L 4).1 j) (cfn (gl (cutQ L 4).1) 47 (sgs (cutQ L 4).1 j) (cutQ L 4).1.length) (by show 0 ≤ _ ∧ _ ≤ ((cutQ L 4).1.length : Int); omega) (by omega) (by rw [show (4 : Int).toNat = 4 from rfl, cutQ4]; decide)
    refine ⟨V2, ?_, s2.o8 M f2 o2 o7, by rw [f2.2 0 (by decide)]; exact f0.2.2⟩
    rw [e1, if_pos hj, w200_56, M193 s2.1 K2 (by omega) (by omega), ← hr]
    simp only [wcx_v, wput_s, w200_64]
    rw [g197]
    simp only [wcx_v, wput_s, w200_70]
    rw [g198]
    simp only [wcx_v, wput_s, w200_84]
    rw [e2]
    simp only [wcx_v, wput_s, w200_87]
    rfl
theorem M204 (M : wMd sh m) (s : Mx sh m V tp ou rw') {i : Int} (hi : 0 ≤ i ∧ i ≤ 7) : ∃ V', wcl zP 204 [wR m, wI i] (sh, V) = rI (prc (cutQ (rw' i.toNat) 5)) (sh, V') ∧ Mx sh m V' tp ou rw' ∧ V' m = V m ∧ mK sh V' m i (rw' i.toNat) := by
  have hl := s.L hi
  obtain ⟨V1, e1, f1, K1, s1⟩ := s.K M hi
  obtain ⟨L, hL⟩ : ∃ L, L = rw' i.toNat := ⟨_, rfl⟩
  rw [← hL] at K1 hl ⊢
  have cl := cutQ_le L 5 (by decide)
  refine ⟨V1, ?_, s1, f1.fm M, K1⟩
  have k134 : wcl zP 134 [wR m, wI i, wI 5] (sh, V1) = rI (cutQ L 5).2 (sh, V1) := M134q (p := 5) K1 (by omega) (by decide)
  rw [w204_0, e1]
  simp only [wcx_v, wput_n, w204_5]
  rw [k134]
  simp only [wcx_v, wput_s, w204_11]
  unfold prc
  by_cases c : (cutQ L 5).2 = 0
  · rw [if_pos c, if_pos c]
  · have g : wcl zP 194 [wR m, wI i, wI 5, wI 0, wI 38] (sh, V1) = rI (1 + lc 38 ((cutQ L 5).1.drop (0 : Int).toNat)) (sh, V1) := M194 (p := 5) s1.1 K1 (by omega) (by omega) (by decide) 38 0 (by decide)
    rw [if_neg c, if_neg c, g]
    simp only [wcx_v, wput_s, w204_23]
    refine rI_cg ?_
    show 1 + lc 38 ((cutQ L 5).1.drop 0) = _
    rw [List.drop_zero]; omega
theorem M205 (M : wMd sh m) (s : Mx sh m V tp ou rw') (i : Int) : (¬ (0 ≤ i ∧ i < 8) → wcl zP 205 [wR m, wI i] (sh, V) = rI 0 (sh, uI V m 0 1)) ∧
    (0 ≤ i ∧ i < 8 → ∃ V', wcl zP 205 [wR m, wI i] (sh, V) = rI (prc (cutQ (rw' i.toNat) 5)) (sh, V') ∧ Mx sh m V' tp ou rw' ∧ V' m 0 = 0) := by
  have u0 := fun x => (fld (V := V) M 0 x).2.2
  refine ⟨fun hi => ?_, fun hi => ?_⟩
  · rw [w205_0, M127, if_neg (by omega)]
    simp only [wcx_v, wput_s, w205_5]
    rw [if_pos trivial, u0, if_neg (by decide), w205_32]
  · obtain ⟨V1, e1, s1, f1, -⟩ := M204 M (Mx_fld M s 0 (by decide) 0) (i := i) (by omega)
    refine ⟨V1, ?_, s1, by rw [f1, u0]⟩
    rw [w205_0, M127, if_pos (by omega)]
    simp only [wcx_v, wput_s, w205_5]
    rw [if_neg (by decide), u0, if_pos (by decide), e1]
    simp only [wcx_v, wput_s, w205_32]
end
