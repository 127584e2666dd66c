set_option maxRecDepth 16384
/-! the model's methods that only look -/
theorem cutQ_no {L : List Int} {k : Nat} (hk : k < 7) (h : (cutQ L k).2 = 0) : (cutQ L k).1 = [] := by
  have c := (cutQ_l L k hk).2.2.mp h
  unfold cutQ; dsimp only; rw [if_pos c]
theorem FrM8 {sh : zSh} {m : Nat} (M : wMd sh m) {fs : List Nat} {V V' : wSt} (f : FrM m fs [sr sh m 8] V V') {j : Nat} (hj : j ∈ zARw) (n : j ≠ 8) : V' (sr sh m j) = V (sr sh m j) := f.1 _ (M.m hj) (fun w => M.n hj (by decide) n (List.mem_singleton.mp w))
theorem mK_8 {sh : zSh} {m : Nat} (M : wMd sh m) {fs : List Nat} {V V' : wSt} {r : Int} {L : List Int} (f : FrM m fs [sr sh m 8] V V') (K : mK sh V m r L) : mK sh V' m r L := by
  have e1 := FrM8 M f (j := 1) (by decide) (by decide)
  have e2 := FrM8 M f (j := 2) (by decide) (by decide)
  have e3 := FrM8 M f (j := 3) (by decide) (by decide)
  have e4 := FrM8 M f (j := 4) (by decide) (by decide)
  unfold mK mx mB mE at *
  rw [e1, e2, e3, e4]; exact K
theorem mSz_8 {sh : zSh} {m : Nat} (M : wMd sh m) {fs : List Nat} {V V' : wSt} (f : FrM m fs [sr sh m 8] V V') (S : mSz sh V m) : mSz sh V' m := by
  have e2 := FrM8 M f (j := 2) (by decide) (by decide)
  unfold mSz at *
  rw [e2]; exact S
theorem FrO8 {sh : zSh} {m : Nat} (M : wMd sh m) {fs : List Nat} {V V' : wSt} (f : FrO [sr sh m 8] V V') : FrM m fs [sr sh m 8] V V' := ⟨fun b _ h => f b h, fun j _ => by rw [f m (fun w => M.m (j := 8) (by decide) (List.mem_singleton.mp w).symm)]⟩
theorem Mx.o8 {sh : zSh} {m : Nat} {V V' : wSt} {tp ou ou' : List Int} {rw : Nat → List Int} (M : wMd sh m) (s : Mx sh m V tp ou rw) {fs : List Nat} (f : FrM m fs [sr sh m 8] V V') (o : ox sh V' m = ou') (o7 : V' m 7 = (ou'.length : Int)) : Mx sh m V' tp ou' rw :=
  s.out M f (fun j hj w => by
    simp only [List.mem_cons, List.not_mem_nil, or_false] at hj w
    rcases hj with h | h | h <;> subst h <;> exact M.n (by decide) (by decide) (by decide) w) o o7
theorem fldM {m : Nat} {V : wSt} {os : List Nat} (k : Nat) (x : Int) : FrM m [k] os V (uI V m k x) := ⟨fun b hb _ => by funext j; unfold uI; rw [if_neg (fun c => hb c.1)], fun j hj => by unfold uI; rw [if_neg (fun c => hj (by rw [c.2]; exact List.mem_cons_self))]⟩
section
variable {sh : zSh} {m : Nat} {V : wSt} {tp ou : List Int} {rw' : Nat → List Int}
theorem Mx.L (s : Mx sh m V tp ou rw') {i : Int} (hi : 0 ≤ i ∧ i ≤ 7) : (rw' i.toNat).length ≤ 400 := s.2.2.2.2.2.2 i.toNat (by omega)
theorem M167q (M : wMd sh m) (s : Mx sh m V tp ou rw') (i : Int) : (¬ (0 ≤ i ∧ i < 8) → wcl zP 167 [wR m, wI i] (sh, V) = rI 0 (sh, uI V m 0 1)) ∧
    (0 ≤ i ∧ i < 8 → ∃ V', wcl zP 167 [wR m, wI i] (sh, V) = rI ((rw' i.toNat).length : Int) (sh, V') ∧ Mx sh m V' tp (rw' i.toNat) rw' ∧ V' m 0 = 0) := by
  refine ⟨(M167 M s.1 i).1, fun hi => ?_⟩
  have q := s.2.2.2.2.1 i.toNat (by omega)
  rw [Int.toNat_of_nonneg hi.1] at q
  obtain ⟨W, hW⟩ : ∃ W, W = uI (uI V m 0 0) m 7 (uI V m 0 0 (sr sh m 2) (Int.toNat i)) := ⟨_, rfl⟩
  have f0 := fld (V := V) M 0 0
  have f7 := fld (V := uI V m 0 0) M 7 (uI V m 0 0 (sr sh m 2) (Int.toNat i))
  rw [← hW] at f7
  have oW : ∀ b, b ≠ m → W b = V b := fun b hb => (f7.1 b hb).trans (f0.1 b hb)
  have sz := mx_sz (sh := sh) (V := V) (m := m) (r := i) (s.1 i.toNat (by omega)).1
  rw [q] at sz
  have w7 : W m 7 = ((rw' i.toNat).length : Int) := by rw [f7.2.2, f0.1 _ (M.m (j := 2) (by decide)), sz]
  have hl := s.L (i := i) (by omega)
  obtain ⟨V2, e3, f3, k3⟩ := M167_37 M (i := i) (by omega) (rw' i.toNat) (by omega) _ W 0 rfl (by decide) (mSz_fld M s.1 oW) ((mx_fld M i oW).trans q) w7 (fun k h _ => by omega)
  have fm : V2 m = W m := f3 m (fun w => M.m (j := 8) (by decide) (List.mem_singleton.mp w).symm)
  have fw : FrM m [0, 7] [sr sh m 8] V W := ⟨fun b hb _ => oW b hb, fun j hj => by rw [f7.2.1 j (fun e => hj (by rw [e]; decide)), f0.2.1 j (fun e => hj (by rw [e]; decide))]⟩
  have v7 : V2 m 7 = ((rw' i.toNat).length : Int) := by rw [fm]; exact w7
  refine ⟨V2, ?_, s.o8 M (fw.trans (FrO8 M f3)) (ox_ext v7 k3) v7, by rw [fm, f7.2.1 0 (by decide), f0.2.2]⟩
  rw [w167_0, M127, if_pos (by omega)]
  simp only [wcx_v, wput_s, w167_5]
  rw [if_neg (by decide), f0.2.2, if_pos (by decide), ← hW, e3]
theorem M168 (M : wMd sh m) (s : Mx sh m V tp ou rw') (i p : Int) : (¬ (0 ≤ i ∧ i < 8) → wcl zP 168 [wR m, wI i, wI p] (sh, V) = rI 0 (sh, uI V m 0 1)) ∧
    (0 ≤ i ∧ i < 8 → ¬ (0 ≤ p ∧ p ≤ 6) → wcl zP 168 [wR m, wI i, wI p] (sh, V) = rI 0 (sh, uI V m 0 2)) ∧
    (0 ≤ i ∧ i < 8 → 0 ≤ p ∧ p ≤ 6 → ∃ V', wcl zP 168 [wR m, wI i, wI p] (sh, V) = rI (if (cutQ (rw' i.toNat) p.toNat).2 = 0 then -1 else ((cutQ (rw' i.toNat) p.toNat).1.length : Int)) (sh, V') ∧ Mx sh m V' tp (cutQ (rw' i.toNat) p.toNat).1 rw' ∧ V' m 0 = 0) := by
  have u0 := fun x => (fld (V := V) M 0 x).2.2
  refine ⟨fun hi => ?_, fun hi hp => ?_, fun hi hp => ?_⟩
  · rw [w168_0, M127, if_neg (by omega)]
    simp only [wcx_v, wput_s, w168_5]
    rw [if_pos trivial, u0, if_neg (by decide)]
  · rw [w168_0, M127, if_pos (by omega)]
    simp only [wcx_v, wput_s, w168_5]
    rw [if_neg (by decide), M120, if_neg hp]
    simp only [wcx_v, wput_s, w168_19]
    rw [if_pos trivial, u0, if_neg (by decide)]
  · have hl := s.L (i := i) (by omega)
    obtain ⟨V1, e1, f1, K1, s1⟩ := (Mx_fld M s 0 (by decide) 0).K M (i := i) (by omega)
    have cl := cutQ_le (rw' i.toNat) p.toNat (by omega)
    have g := fld (V := V1) M 7 ((cutQ (rw' i.toNat) p.toNat).1.length : Int)
    have fw : FrM m [7] [sr sh m 8] V1 (uI V1 m 7 ((cutQ (rw' i.toNat) p.toNat).1.length : Int)) := fldM 7 _
    obtain ⟨V2, e2, f2, k2⟩ := M168_69 M (i := i) (p := p) (by omega) hp (rw' i.toNat) (by omega) _ rfl _ (uI V1 m 7 ((cutQ (rw' i.toNat) p.toNat).1.length : Int)) 0 rfl (by decide) (mSz_8 M fw s1.1) (mK_8 M fw K1) g.2.2 (fun k h _ => by omega)
    have fm : V2 m = uI V1 m 7 ((cutQ (rw' i.toNat) p.toNat).1.length : Int) m := f2 m (fun w => M.m (j := 8) (by decide) (List.mem_singleton.mp w).symm)
    have v7 : V2 m 7 = ((cutQ (rw' i.toNat) p.toNat).1.length : Int) := by rw [fm]; exact g.2.2
    refine ⟨V2, ?_, s1.o8 M (fw.trans (FrO8 M f2)) (ox_ext v7 (fun k hk => k2 k (by omega))) v7, ?_⟩
    · rw [w168_0, M127, if_pos (by omega)]
      simp only [wcx_v, wput_s, w168_5]
      rw [if_neg (by decide), M120, if_pos hp]
      simp only [wcx_v, wput_s, w168_19]
      rw [if_neg (by decide), u0, if_pos (by decide), w168_39, e1]
      simp only [wcx_v, wput_n, w168_44]
      rw [M134q K1 (by omega) hp]
      simp only [wcx_v, wput_s, w168_51]
      by_cases c : (cutQ (rw' i.toNat) p.toNat).2 = 0
      · have z := cutQ_no (by omega) c
        rw [if_pos c]
        rw [z] at e2
        rw [z]; exact e2
      · rw [if_neg c, M135q K1 (by omega) (by omega) hp]
        simp only [wcx_v, wput_s, w168_60]
        rw [e2]
    · rw [fm, g.2.1 0 (by decide), f1.fm M, u0]
/-- the number of a port of digits -/
theorem M172 (M : wMd sh m) (s : Mx sh m V tp ou rw') (i : Int) (h5 : 0 ≤ i ∧ i < 8 → (cutQ (rw' i.toNat) 3).1.length ≤ 5 ∧ ∀ k : Int, 0 ≤ k → k < (cutQ (rw' i.toNat) 3).1.length → pDig (gl (cutQ (rw' i.toNat) 3).1 k) = 1) : (¬ (0 ≤ i ∧ i < 8) → wcl zP 172 [wR m, wI i] (sh, V) = rI 0 (sh, uI V m 0 1)) ∧
    (0 ≤ i ∧ i < 8 → ∃ V', wcl zP 172 [wR m, wI i] (sh, V) = rI (pno (cutQ (rw' i.toNat) 3)) (sh, V') ∧ Mx sh m V' tp ou rw' ∧ V' m 0 = 0) := by
  have u0 := fun x => (fld (V := V) M 0 x).2.2
  refine ⟨fun hi => ?_, fun hi => ?_⟩
  · rw [w172_0, M127, if_neg (by omega)]
    simp only [wcx_v, wput_s, w172_5]
    rw [if_pos trivial, u0, if_neg (by decide)]
  · have hl := s.L (i := i) (by omega)
    obtain ⟨V1, e1, f1, K1, s1⟩ := (Mx_fld M s 0 (by decide) 0).K M (i := i) (by omega)
    obtain ⟨h5, hd⟩ := h5 hi
    obtain ⟨L, hL⟩ : ∃ L, L = rw' i.toNat := ⟨_, rfl⟩
    rw [← hL] at h5 hd K1 hl ⊢
    refine ⟨V1, ?_, s1, by rw [f1.fm M, u0]⟩
    rw [w172_0, M127, if_pos (by omega)]
    simp only [wcx_v, wput_s, w172_5]
    rw [if_neg (by decide), u0, if_pos (by decide), e1]
    simp only [wcx_v, wput_n, w172_30]
    have k134 : wcl zP 134 [wR m, wI i, wI 3] (sh, V1) = rI (cutQ L 3).2 (sh, V1) := M134q (p := 3) K1 (by omega) (by decide)
    have k135 : wcl zP 135 [wR m, wI i, wI 3] (sh, V1) = rI ((cutQ L 3).1.length : Int) (sh, V1) := M135q (p := 3) K1 (by omega) (by omega) (by decide)
    rw [k134]
    simp only [wcx_v, wput_s, w172_36]
    unfold pno
    by_cases c : (cutQ L 3).2 = 0
    · rw [if_pos c, if_pos (Or.inl c), w172_58]
    · rw [if_neg c, k135]
      simp only [wcx_v, wput_s, w172_45]
      by_cases d : (cutQ L 3).1.length = 0
      · rw [if_pos (by omega), if_pos (Or.inr d), w172_58]
      · rw [if_neg (by omega), if_neg (by omega)]
        have rg := zBE_rng (gl L) L.length (Int.natCast_nonneg _) 3 (by decide)
        have cq := cutQ_l L 3 (by decide)
        have nb : zB (gl L) L.length 3 ≠ -1 := fun e => c (cq.2.2.mpr e)
        have Lx := K1.1
        have at_ : ∀ j : Int, 0 ≤ j → j < (cutQ L 3).1.length → gl L (zB (gl L) L.length 3 + j) = gl (cutQ L 3).1 j := fun j h0 h1 => by rw [cutQ_g L 3 (by decide) j h0, if_pos (by omega)]
        rw [M150 s1.1 (r := i) (p := 3) (by omega) (by decide) (zB (gl L) L.length 3) (zE (gl L) L.length 3) (K1.2 3 (by decide)).1 (K1.2 3 (by decide)).2 (by omega) (fun k h0 h1 => by
          rw [Lx]
          have := at_ (k - zB (gl L) L.length 3) (by omega) (by omega)
          rw [show zB (gl L) L.length 3 + (k - zB (gl L) L.length 3) = k by omega] at this
          rw [this]; exact hd _ (by omega) (by omega)), Lx]
        simp only [wcx_v, wput_s, w172_58]
        have cg : ∀ (n : Nat) (j v : Int), (((cutQ L 3).1.length : Int) - j).toNat = n → 0 ≤ j → pNm (gl L) (zB (gl L) L.length 3 + j) (zE (gl L) L.length 3) v = pNm (gl (cutQ L 3).1) j (cutQ L 3).1.length v := by
          intro n
          induction n with
          | zero =>
            intro j v hn hj
            rw [(pNm_st _ _ _ v).1 (by omega), (pNm_st _ _ _ v).1 (by omega)]
          | succ n ih =>
            intro j v hn hj
            have dg := hd j hj (by omega)
            have hx : 0 ≤ pHex (gl (cutQ L 3).1 j) := by
              rw [pHex_dg dg]; unfold pDig at dg; split at dg <;> omega
            rw [((pNm_st (gl L) (zB (gl L) L.length 3 + j) _ v).2 (by omega)).2 (by rw [at_ j hj (by omega)]; exact hx), ((pNm_st (gl (cutQ L 3).1) j _ v).2 (by omega)).2 hx, at_ j hj (by omega), show zB (gl L) L.length 3 + j + 1 = zB (gl L) L.length 3 + (j + 1) by omega, ih (j + 1) _ (by omega) (by omega)]
        have := cg _ 0 0 rfl (by decide)
        rw [Int.add_zero] at this
        rw [this]
end
