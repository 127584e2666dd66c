set_option maxRecDepth 16384
/-! the model looks for faults -/
theorem M144 {sh : zSh} {V : wSt} {m : Nat} (x y : Int) (hx : x ≠ 0) : ∃ V', wcl zP 144 [wR m, wI x, wI y] (sh, V) = rN (sh, V') ∧ FrM m [5, 6] [] V V' ∧ V' m 5 ≠ 0 := by
  rw [w144_0]
  by_cases c : V m 5 = 0
  · rw [if_pos c]
    refine ⟨_, rfl, (FrM_f (by decide)).trans (FrM_f (by decide)), ?_⟩
    unfold uI; rw [if_neg (fun w => absurd w.2 (by decide)), if_pos ⟨rfl, rfl⟩]; exact hx
  · rw [if_neg c]; exact ⟨V, rfl, FrM.refl, c⟩
theorem M145 (sh : zSh) (p x : Int) (V : wSt) : wcl zP 145 [wI p, wI x] (sh, V) = rI (pMayM p x) (sh, V) := by
  simp only [w145_0, M121, M123, M124, wcx_v, wput_s, w145_9, w145_21, w145_44, w145_55, w145_59, w145_60, w145_65, w145_72, w145_79, w145_84]
  have f1 : pFree x = 0 ∨ pFree x = 1 := by unfold pFree; split <;> omega
  have f2 : pSub x = 0 ∨ pSub x = 1 := by unfold pSub; split <;> omega
  unfold pMayM
  by_cases c3 : p = 3
  · rw [if_pos c3, if_pos c3]
  rw [if_neg c3]
  have ex : ∀ b : Int, (b = 1 ↔ ((p = 1 ∧ x = 58) ∨ (4 ≤ p ∧ (x = 58 ∨ x = 64 ∨ x = 47)) ∨ (5 ≤ p ∧ x = 63))) → (b = 0 ∨ b = 1) → pEx p x = b := by
    intro b h hb
    unfold pEx
    rcases hb with e | e
    · rw [if_neg (fun w => by have := h.mpr w; omega)]; exact e.symm
    · rw [if_pos (h.mp e)]; exact e.symm
  have fin : ∀ b : Int, pEx p x = b → (b = 0 ∨ b = 1) → (if pFree x = 0 then if pSub x = 0 then if b = 0 then rI 0 (sh, V) else rI 1 (sh, V) else rI 1 (sh, V) else rI 1 (sh, V)) = rI (if p = 3 then pDig x else if pFree x = 1 ∨ pSub x = 1 ∨ pEx p x = 1 then 1 else 0) (sh, V) := by
    intro b hb h01
    rw [if_neg c3, hb]
    rcases f1 with a | a
    · rw [if_pos a]
      rcases f2 with d | d
      · rw [if_pos d]
        rcases h01 with e | e
        · rw [if_pos e, if_neg (by rw [a, d, e]; decide)]
        · rw [if_neg (by rw [e]; decide), if_pos (Or.inr (Or.inr e))]
      · rw [if_neg (by rw [d]; decide), if_pos (Or.inr (Or.inl d))]
    · rw [if_neg (by rw [a]; decide), if_pos (Or.inl a)]
  have g1 := fun h => fin 1 h (Or.inr rfl)
  have g0 := fun h => fin 0 h (Or.inl rfl)
  simp only [if_true, if_neg (show ¬ ((1 : Int) = 0) by decide)] at g0 g1
  by_cases c1 : p = 1
  · rw [if_pos c1]
    by_cases d : x = 58
    · simp only [if_pos d]; exact g1 (ex 1 ⟨fun _ => Or.inl ⟨c1, d⟩, fun _ => rfl⟩ (Or.inr rfl))
    · simp only [if_neg d, if_pos (show p < 4 by omega), if_pos (show p ≤ 4 by omega)]
      exact g0 (ex 0 ⟨fun w => absurd w (by decide), fun w => by omega⟩ (Or.inl rfl))
  simp only [if_neg c1]
  by_cases c4 : p < 4
  · simp only [if_pos c4, if_pos (show p ≤ 4 by omega)]
    exact g0 (ex 0 ⟨fun w => absurd w (by decide), fun w => by omega⟩ (Or.inl rfl))
  simp only [if_neg c4]
  by_cases d1 : x = 58
  · simp only [if_pos d1]; exact g1 (ex 1 ⟨fun _ => Or.inr (Or.inl ⟨by omega, Or.inl d1⟩), fun _ => rfl⟩ (Or.inr rfl))
  simp only [if_neg d1]
  by_cases d2 : x = 64
  · simp only [if_pos d2]; exact g1 (ex 1 ⟨fun _ => Or.inr (Or.inl ⟨by omega, Or.inr (Or.inl d2)⟩), fun _ => rfl⟩ (Or.inr rfl))
  simp only [if_neg d2]
  by_cases d3 : x = 47
  · simp only [if_pos d3]; exact g1 (ex 1 ⟨fun _ => Or.inr (Or.inl ⟨by omega, Or.inr (Or.inr d3)⟩), fun _ => rfl⟩ (Or.inr rfl))
  simp only [if_neg d3]
  by_cases c5 : p ≤ 4
  · simp only [if_pos c5]
    exact g0 (ex 0 ⟨fun w => absurd w (by decide), fun w => by omega⟩ (Or.inl rfl))
  simp only [if_neg c5]
  by_cases d4 : x = 63
  · simp only [if_pos d4]; exact g1 (ex 1 ⟨fun _ => Or.inr (Or.inr ⟨by omega, d4⟩), fun _ => rfl⟩ (Or.inr rfl))
  · simp only [if_neg d4]
    exact g0 (ex 0 ⟨fun w => absurd w (by decide), fun w => by omega⟩ (Or.inl rfl))
/-- what these looks leave alone -/
theorem FrM.keep {sh : zSh} {m : Nat} {fs : List Nat} {V V' : wSt} (h : FrM m fs [] V V') (M : wMd sh m) (r : Int) : mx sh V' m r = mx sh V m r ∧ (mSz sh V m → mSz sh V' m) ∧ mB sh V' m r = mB sh V m r ∧ mE sh V' m r = mE sh V m r ∧ V' (sr sh m 2) = V (sr sh m 2) := by
  have k : ∀ i, i ∈ zARw → V' (sr sh m i) = V (sr sh m i) := fun i hi => h.1 _ (M.1 i hi) (List.not_mem_nil)
  have k1 := k 1 (by decide); have k2 := k 2 (by decide); have k3 := k 3 (by decide); have k4 := k 4 (by decide)
  exact ⟨mx_cg k1 k2 r, mSz_cg k2, by funext j; unfold mB; rw [k3], by funext j; unfold mE; rw [k4], k2⟩
theorem M146_26 {sh : zSh} {m : Nat} (M : wMd sh m) {r : Int} (hr : 0 ≤ r ∧ r ≤ 13) (f : Int → Int) (e : Int) (he : e ≤ 200000) : ∀ (n : Nat) (V : wSt) (k : Int) (o3 : Option wV), (e - k).toNat = n → 0 ≤ k → mSz sh V m → gl (mx sh V m r) = f → mE sh V m r 0 = e → ∃ V', wev zP 146 26 [some (wR m), some (wI r), some (wI k), o3] [] (sh, V) = rN (sh, V') ∧ FrM m [5, 6] [] V V' ∧ (V' m 5 = 0 ↔ V m 5 = 0 ∧ pA (sOk f) (fun k => k) k e = 1) := by
  have w7 : Int.toNat (wr (7 * r)) = 7 * r.toNat + 0 := by rw [wr_eq (by omega) (by omega)]; omega
  intro n
  induction n with
  | zero =>
    intro V k o3 hn hk S hf hE
    have st := (pA_st (sOk f) (fun k => k) k e).1 (by omega)
    rw [w146_26, w7, show V (sr sh m 4) (7 * r.toNat + 0) = e from hE, if_pos (by omega)]
    exact ⟨V, rfl, FrM.refl, ⟨fun w => ⟨w, st⟩, fun w => w.1⟩⟩
  | succ n ih =>
    intro V k o3 hn hk S hf hE
    have st := (pA_st (sOk f) (fun k => k) k e).2 (by omega)
    have so := sOk_st f k
    have wk : wr (k + 1) = k + 1 := wr_eq (by clear st so; omega) (by clear st so; omega)
    have kn : (e - (k + 1)).toNat = n ∧ 0 ≤ k + 1 ∧ ¬ e ≤ k := by clear st so; omega
    have l1 : pLet (f k) = 0 ∨ pLet (f k) = 1 := by unfold pLet; split <;> omega
    have d1 : pDig (f k) = 0 ∨ pDig (f k) = 1 := by unfold pDig; split <;> omega
    have good : sOk f k = 1 → ∃ V', wev zP 146 88 [some (wR m), some (wI r), some (wI k), some (wI (f k))] [] (sh, V) = rN (sh, V') ∧ FrM m [5, 6] [] V V' ∧ (V' m 5 = 0 ↔ V m 5 = 0 ∧ pA (sOk f) (fun k => k) k e = 1) := by
      intro h
      rw [w146_88, wk, st.1 h]
      exact ih V (k + 1) _ kn.1 kn.2.1 S hf hE
    have bad : sOk f k = 0 → ∃ V', wcx (wcl zP 144 [wR m, wI 1, wI k] (sh, V)) (fun v h' => wev zP 146 88 [some (wR m), some (wI r), some (wI k), some (wI (f k))] (wput v []) h') wth = rN (sh, V') ∧ FrM m [5, 6] [] V V' ∧ (V' m 5 = 0 ↔ V m 5 = 0 ∧ pA (sOk f) (fun k => k) k e = 1) := by
      intro h
      obtain ⟨W, e1, f1, n5⟩ := M144 (sh := sh) (V := V) (m := m) 1 k (by decide)
      rw [e1]
      simp only [wcx_v, wput_n, w146_88]
      obtain ⟨k1, k2, k3, k4, -⟩ := f1.keep M r
      obtain ⟨V', e2, f2, r2⟩ := ih W (k + 1) (some (wI (f k))) kn.1 kn.2.1 (k2 S) (by rw [k1]; exact hf) (by rw [k4]; exact hE)
      rw [wk, e2]
      refine ⟨V', rfl, f1.trans f2, ⟨fun w => absurd (r2.mp w).1 n5, fun w => ?_⟩⟩
      have h0 := st.2 (by rw [h]; decide)
      exact absurd (h0.symm.trans w.2) (by decide)
    rw [w146_26, w7, show V (sr sh m 4) (7 * r.toNat + 0) = e from hE, if_neg kn.2.2, M128 S hr, hf]
    simp only [wcx_v, wput_s, w146_45, M122, w146_50]
    clear st ih
    rcases l1 with l | l
    · have nl : pLet (f k) ≠ 1 := by rw [l]; decide
      rw [if_pos l]
      by_cases c0 : k = 0
      · rw [if_pos c0]; exact bad (so.2.1 nl c0)
      · rw [if_neg c0, M121]
        simp only [wcx_v, wput_s, w146_61]
        rcases d1 with d | d
        · have nd : pDig (f k) ≠ 1 := by rw [d]; decide
          rw [if_pos d]
          by_cases c1 : f k = 43
          · rw [if_pos c1]; exact good (so.2.2.2 c0 (Or.inr (Or.inl c1)))
          rw [if_neg c1]
          by_cases c2 : f k = 45
          · rw [if_pos c2]; exact good (so.2.2.2 c0 (Or.inr (Or.inr (Or.inl c2))))
          rw [if_neg c2]
          by_cases c3 : f k = 46
          · rw [if_pos c3]; exact good (so.2.2.2 c0 (Or.inr (Or.inr (Or.inr c3))))
          · rw [if_neg c3]; exact bad (so.2.2.1 nl nd c1 c2 c3)
        · rw [if_neg (by rw [d]; decide)]; exact good (so.2.2.2 c0 (Or.inl d))
    · rw [if_neg (by rw [l]; decide)]; exact good (so.1 l)
theorem M146 {sh : zSh} {V : wSt} {m : Nat} (M : wMd sh m) (S : mSz sh V m) {r : Int} (hr : 0 ≤ r ∧ r ≤ 13) (h : (mB sh V m r 0 = 0 ∧ 0 ≤ mE sh V m r 0 ∧ mE sh V m r 0 ≤ 200000) ∨ (mB sh V m r 0 = -1 ∧ mE sh V m r 0 = -1)) : ∃ V', wcl zP 146 [wR m, wI r] (sh, V) = rN (sh, V') ∧ FrM m [5, 6] [] V V' ∧ (V' m 5 = 0 ↔ V m 5 = 0 ∧ aSch (gl (mx sh V m r)) (mE sh V m r 0)) := by
  rw [w146_0, M134 hr (by decide)]
  simp only [wcx_v, wput_s, w146_6, show (0 : Int).toNat = 0 from rfl]
  have loop : ∀ W : wSt, FrM m [5, 6] [] V W → ∃ V', wev zP 146 24 [some (wR m), some (wI r), none, none] [] (sh, W) = rN (sh, V') ∧ FrM m [5, 6] [] V V' ∧ (V' m 5 = 0 ↔ W m 5 = 0 ∧ pA (sOk (gl (mx sh V m r))) (fun k => k) 0 (mE sh V m r 0) = 1) := by
    intro W f1
    obtain ⟨k1, k2, k3, k4, -⟩ := f1.keep M r
    obtain ⟨V', e2, f2, r2⟩ := M146_26 M hr (gl (mx sh V m r)) (mE sh V m r 0) (by omega) _ W 0 none rfl (Int.le_refl 0) (k2 S) (by rw [k1]) (by rw [k4])
    rw [w146_24, e2]
    exact ⟨V', rfl, f1.trans f2, r2⟩
  rcases h with ⟨hb, he, he2⟩ | ⟨hb, he⟩
  · rw [hb, if_neg (by decide), M135 hr (by decide) (by rw [show (0 : Int).toNat = 0 from rfl, hb]; omega)]
    simp only [wcx_v, wput_s, w146_15, show (0 : Int).toNat = 0 from rfl, hb]
    by_cases c : mE sh V m r 0 - 0 = 0
    · obtain ⟨W, e1, f1, n5⟩ := M144 (sh := sh) (V := V) (m := m) 1 0 (by decide)
      rw [if_pos c, e1]
      simp only [wcx_v, wput_n]
      obtain ⟨V', e2, f2, r2⟩ := loop W f1
      exact ⟨V', e2, f2, ⟨fun w => absurd (r2.mp w).1 n5, fun w => absurd (show mE sh V m r 0 = 0 by omega) w.2.1⟩⟩
    · rw [if_neg c]
      obtain ⟨V', e2, f2, r2⟩ := loop V FrM.refl
      exact ⟨V', e2, f2, ⟨fun w => ⟨(r2.mp w).1, by omega, (r2.mp w).2⟩, fun w => r2.mpr ⟨w.1, w.2.2⟩⟩⟩
  · rw [hb, if_pos (by decide)]
    obtain ⟨V', e2, f2, r2⟩ := loop V FrM.refl
    exact ⟨V', e2, f2, ⟨fun w => ⟨(r2.mp w).1, by omega, (r2.mp w).2⟩, fun w => r2.mpr ⟨w.1, w.2.2⟩⟩⟩
/-- where the [ of the host is, or -1 -/
def bkt (f : Int → Int) (b e : Int) : Int := if b < 0 then -1 else if cfn f 91 b e = e then -1 else cfn f 91 b e
theorem M147 {sh : zSh} {V : wSt} {m : Nat} (S : mSz sh V m) {r : Int} (hr : 0 ≤ r ∧ r ≤ 13) (h : -1 ≤ mB sh V m r 2 ∧ mB sh V m r 2 ≤ mE sh V m r 2 ∧ mE sh V m r 2 ≤ 200000) : wcl zP 147 [wR m, wI r] (sh, V) = rI (bkt (gl (mx sh V m r)) (mB sh V m r 2) (mE sh V m r 2)) (sh, V) := by
  have i2 : Int.toNat (wr (wr (7 * r) + 2)) = 7 * r.toNat + 2 := ix7 hr (by decide)
  rw [w147_0, i2, show V (sr sh m 3) (7 * r.toNat + 2) = mB sh V m r 2 from rfl, show V (sr sh m 4) (7 * r.toNat + 2) = mE sh V m r 2 from rfl]
  unfold bkt
  by_cases c : 0 ≤ mB sh V m r 2
  · rw [if_pos c, if_neg (by omega), M129 S hr 91 _ _ (by omega) (by omega), fn_cfn h.2.1]
    simp only [wcx_v, wput_s, w147_41]
    by_cases d : cfn (gl (mx sh V m r)) 91 (mB sh V m r 2) (mE sh V m r 2) = mE sh V m r 2
    · rw [if_pos d, if_pos d]
    · rw [if_neg d, if_neg d]
  · rw [if_neg c, if_pos (by omega), w147_41]
    split <;> rfl
theorem M148_2 {sh : zSh} {m : Nat} (M : wMd sh m) {r : Int} (hr : 0 ≤ r ∧ r ≤ 13) (f : Int → Int) (e : Int) : ∀ (n : Nat) (V : wSt) (k : Int), (e - k).toNat = n → 0 ≤ k → mSz sh V m → gl (mx sh V m r) = f → V (sr sh m 2) r.toNat = e → ∃ V', wev zP 148 2 [some (wR m), some (wI r), some (wI k), none, none, none, none] [] (sh, V) = wev zP 148 46 [some (wR m), some (wI r), some (wI 1), none, none, none, none] [] (sh, V') ∧ FrM m [5, 6] [] V V' ∧ (V' m 5 = 0 ↔ V m 5 = 0 ∧ pA (cOk f) (fun k => k) k e = 1) := by
  intro n
  induction n with
  | zero =>
    intro V k hn hk S hf hE
    have st := (pA_st (cOk f) (fun k => k) k e).1 (by omega)
    rw [w148_2, hE, if_pos (by omega)]
    exact ⟨V, rfl, FrM.refl, ⟨fun w => ⟨w, st⟩, fun w => w.1⟩⟩
  | succ n ih =>
    intro V k hn hk S hf hE
    have z := S r.toNat (by omega)
    have st := (pA_st (cOk f) (fun k => k) k e).2 (by omega)
    have co := cOk_st f k
    have kn : (e - (k + 1)).toNat = n ∧ 0 ≤ k + 1 ∧ ¬ e ≤ k ∧ k ≤ 21000 := by clear st co; omega
    have wk : wr (k + 1) = k + 1 := wr_eq (by clear st co; omega) (by clear st co; omega)
    have good : cOk f k = 1 → ∃ V', wev zP 148 38 [some (wR m), some (wI r), some (wI k), none, none, none, none] [] (sh, V) = wev zP 148 46 [some (wR m), some (wI r), some (wI 1), none, none, none, none] [] (sh, V') ∧ FrM m [5, 6] [] V V' ∧ (V' m 5 = 0 ↔ V m 5 = 0 ∧ pA (cOk f) (fun k => k) k e = 1) := by
      intro h
      rw [w148_38, wk, st.1 h]
      exact ih V (k + 1) kn.1 kn.2.1 S hf hE
    rw [w148_2, hE, if_neg kn.2.2.1, M128 S hr, hf]
    simp only [wcx_v, wput_s, w148_18]
    by_cases c1 : f k = 37
    · rw [if_pos c1, M130 S hr k (by clear st co; omega) (by clear st co; omega), hf]
      simp only [wcx_v, wput_s, w148_29]
      by_cases c2 : pCd f k = -1
      · rw [if_pos c2, if_pos rfl]
        obtain ⟨W, e1, f1, n5⟩ := M144 (sh := sh) (V := V) (m := m) 2 k (by decide)
        rw [e1]
        simp only [wcx_v, wput_n, w148_38]
        obtain ⟨k1, k2, k3, k4, k5⟩ := f1.keep M r
        obtain ⟨V', e2, f2, r2⟩ := ih W (k + 1) kn.1 kn.2.1 (k2 S) (by rw [k1]; exact hf) (by rw [k5]; exact hE)
        rw [wk, e2]
        refine ⟨V', rfl, f1.trans f2, ⟨fun w => absurd (r2.mp w).1 n5, fun w => ?_⟩⟩
        have h0 := st.2 (by rw [co.1 c1 c2]; decide)
        exact absurd (h0.symm.trans w.2) (by decide)
      · rw [if_neg c2, if_neg (by decide)]; exact good (co.2 (Or.inr c2))
    · rw [if_neg c1]; exact good (co.2 (Or.inl c1))
theorem isCd_i (f : Int → Int) (k : Int) : isCd f k ↔ pCd f k ≠ -1 := by
  unfold isCd pCd
  have p1 := pHex_r (f (k + 1))
  have p2 := pHex_r (f (k + 2))
  constructor
  · intro h; rw [if_pos h]; omega
  · intro h
    by_cases c : f k = 37 ∧ 0 ≤ pHex (f (k + 1)) ∧ 0 ≤ pHex (f (k + 2))
    · exact c
    · rw [if_neg c] at h; exact absurd rfl h
theorem M148_108 {sh : zSh} {m : Nat} (M : wMd sh m) {r : Int} (hr : 0 ≤ r ∧ r ≤ 13) (f : Int → Int) (p x3 e : Int) (he : e ≤ 200000) : ∀ (n : Nat) (V : wSt) (k : Int) (o6 : Option wV), (e - k).toNat ≤ n → -1 ≤ k → mSz sh V m → gl (mx sh V m r) = f → ∃ V' k' o6', wev zP 148 108 [some (wR m), some (wI r), some (wI p), some (wI x3), some (wI e), some (wI k), o6] [] (sh, V) = wev zP 148 46 [some (wR m), some (wI r), some (wI (wr (p + 1))), some (wI x3), some (wI e), some (wI k'), o6'] [] (sh, V') ∧ FrM m [5, 6] [] V V' ∧ (V' m 5 = 0 ↔ V m 5 = 0 ∧ ¬ wk f p e n k) := by
  intro n
  induction n with
  | zero =>
    intro V k o6 hn hk S hf
    rw [w148_108, if_pos (by omega)]
    exact ⟨V, k, o6, rfl, FrM.refl, ⟨fun w => ⟨w, id⟩, fun w => w.1⟩⟩
  | succ n ih =>
    intro V k o6 hn hk S hf
    by_cases c : e ≤ k
    · rw [w148_108, if_pos c]
      exact ⟨V, k, o6, rfl, FrM.refl, ⟨fun w => ⟨w, fun z => by have := z.1; omega⟩, fun w => w.1⟩⟩
    have hlt : k < e := by omega
    have n3 : (e - (k + 3)).toNat ≤ n ∧ -1 ≤ k + 3 := by omega
    have w1 : wr (k + 1) = k + 1 := wr_eq (by omega) (by omega)
    have w3 : wr (k + 3) = k + 3 := wr_eq (by omega) (by omega)
    have pm : pMayM p (f k) = 0 ∨ pMayM p (f k) = 1 := by
      unfold pMayM pDig; split <;> split <;> omega
    -- no code here
    have plain : ¬ (p ≠ 3 ∧ isCd f k) → ∃ V' k' o6', wcx (wcl zP 128 [wR m, wI r, wI k] (sh, V)) (fun v h' => wev zP 148 150 [some (wR m), some (wI r), some (wI p), some (wI x3), some (wI e), some (wI k), some (wI 0)] (wput v [wI p]) h') wth = wev zP 148 46 [some (wR m), some (wI r), some (wI (wr (p + 1))), some (wI x3), some (wI e), some (wI k'), o6'] [] (sh, V') ∧ FrM m [5, 6] [] V V' ∧ (V' m 5 = 0 ↔ V m 5 = 0 ∧ ¬ wk f p e (n + 1) k) := by
      intro hno
      rw [M128 S hr, hf]
      simp only [wcx_v, wput_s, w148_150, M145, w148_153, w148_163]
      rcases pm with h | h
      · rw [if_pos h]
        obtain ⟨W, e1, f1, n5⟩ := M144 (sh := sh) (V := V) (m := m) 3 k (by decide)
        rw [e1]
        simp only [wcx_v, wput_n, w148_163]
        obtain ⟨k1, k2, -⟩ := f1.keep M r
        obtain ⟨V', k', o6', e2, f2, r2⟩ := ih W (k + 1) (some (wI 0)) (by omega) (by omega) (k2 S) (by rw [k1]; exact hf)
        rw [if_pos trivial, w1, e2]
        exact ⟨V', k', o6', rfl, f1.trans f2, ⟨fun w => absurd (r2.mp w).1 n5, fun w => absurd ⟨hlt, Or.inl ⟨hno, by rw [h]; decide⟩⟩ w.2⟩⟩
      · rw [if_neg (by rw [h]; decide), if_pos trivial, w1]
        obtain ⟨V', k', o6', e2, f2, r2⟩ := ih V (k + 1) (some (wI 0)) (by omega) (by omega) S hf
        refine ⟨V', k', o6', e2, f2, r2.trans (and_congr_right fun _ => not_congr ?_)⟩
        constructor
        · intro w; exact ⟨hlt, Or.inr (Or.inr ⟨hno, w⟩)⟩
        · rintro ⟨-, w | w | w⟩
          · exact absurd h w.2
          · exact absurd w.1 hno
          · exact w.2
    rw [w148_108, if_neg c]
    by_cases c3 : p = 3
    · rw [if_pos c3, if_pos rfl]; exact plain (fun w => w.1 c3)
    rw [if_neg c3, M130 S hr k (by omega) (by omega), hf]
    simp only [wcx_v, wput_s, w148_127]
    by_cases c4 : pCd f k = -1
    · rw [if_pos c4, if_pos rfl, if_pos trivial]; exact plain (fun w => (isCd_i f k).mp w.2 c4)
    · have hcd := (isCd_i f k).mpr c4
      rw [if_neg c4, if_neg (by decide), if_neg (by decide), w148_163, if_neg (by decide), w3]
      obtain ⟨V', k', o6', e2, f2, r2⟩ := ih V (k + 3) (some (wI 1)) n3.1 n3.2 S hf
      refine ⟨V', k', o6', e2, f2, r2.trans (and_congr_right fun _ => not_congr ?_)⟩
      constructor
      · intro w; exact ⟨hlt, Or.inr (Or.inl ⟨⟨c3, hcd⟩, w⟩)⟩
      · rintro ⟨-, w | w | w⟩
        · exact absurd ⟨c3, hcd⟩ w.1
        · exact w.2
        · exact absurd ⟨c3, hcd⟩ w.1
/-- the walk over a part and the part's signs -/
theorem wk_pA {f : Int → Int} {p e n k : Int} (hc : pA (cOk f) (fun k => k) 0 n = 1) (hen : e ≤ n) (hk : 0 ≤ k) : ¬ wk f p e (e - k).toNat k ↔ pA (pMayC p) f k e = 1 := by
  have ca : ∀ j, 0 ≤ j → j < e → f j = 37 → isCd f j := fun j h1 h2 h3 => by
    have := (pA_all (p := cOk f) (f := fun k => k) _ 0 n rfl).mp hc j h1 (by omega)
    have co := cOk_st f j
    refine (isCd_i f j).mpr (fun w => ?_)
    have z : cOk f j = 1 := this
    rw [co.1 h3 w] at z; exact absurd z (by decide)
  have we := wk_eq (p := p) ca (e - k).toNat k hk (Nat.le_refl _)
  have al := pA_all (p := pMayC p) (f := f) _ k e rfl
  constructor
  · intro h
    refine al.mpr (fun i h1 h2 => ?_)
    rcases pMay_r p (f i) with w | w
    · exact absurd (we.mpr ⟨i, h1, h2, by rw [w]; decide⟩) h
    · exact w
  · intro h w
    obtain ⟨i, h1, h2, h3⟩ := we.mp w
    exact h3 (al.mp h i h1 h2)
theorem M148_46 {sh : zSh} {m : Nat} (M : wMd sh m) {r : Int} (hr : 0 ≤ r ∧ r ≤ 13) (f : Int → Int) (n : Int) (B E : Nat → Int) (hBE : ∀ k : Nat, k < 7 → -1 ≤ B k ∧ B k ≤ E k ∧ E k ≤ n ∧ (B k = -1 → E k = -1)) (hn : n ≤ 200000) (hc : pA (cOk f) (fun k => k) 0 n = 1) : ∀ (q : Nat) (V : wSt) (p : Int) (o3 o4 o5 o6 : Option wV), (7 - p).toNat = q → 1 ≤ p → mSz sh V m → gl (mx sh V m r) = f → mB sh V m r = B → mE sh V m r = E → ∃ V', wev zP 148 46 [some (wR m), some (wI r), some (wI p), o3, o4, o5, o6] [] (sh, V) = rN (sh, V') ∧ FrM m [5, 6] [] V V' ∧ (V' m 5 = 0 ↔ V m 5 = 0 ∧ pA (bOk f B E) (fun k => k) p 7 = 1) := by
  intro q
  induction q with
  | zero =>
    intro V p o3 o4 o5 o6 hq hp S hf hB hE
    have st := (pA_st (bOk f B E) (fun k => k) p 7).1 (by omega)
    rw [w148_46, if_pos (by omega)]
    exact ⟨V, rfl, FrM.refl, ⟨fun w => ⟨w, st⟩, fun w => w.1⟩⟩
  | succ q ih =>
    intro V p o3 o4 o5 o6 hq hp S hf hB hE
    have st := (pA_st (bOk f B E) (fun k => k) p 7).2 (by omega)
    have bo := bOk_st f B E p
    have pq : (7 - (p + 1)).toNat = q ∧ 1 ≤ p + 1 ∧ ¬ 7 ≤ p ∧ p.toNat < 7 ∧ 0 ≤ p ∧ p ≤ 6 := by clear st bo; omega
    have wp : wr (p + 1) = p + 1 := wr_eq (by clear st bo; omega) (by clear st bo; omega)
    have rr := hBE p.toNat pq.2.2.2.1
    have ixp := ix7 hr pq.2.2.2.2
    rw [w148_46, if_neg pq.2.2.1]
    by_cases c5 : V m 5 = 0
    rotate_left
    · rw [if_neg c5]; exact ⟨V, rfl, FrM.refl, ⟨fun w => absurd w c5, fun w => absurd w.1 c5⟩⟩
    rw [if_pos c5, ixp, show V (sr sh m 3) (7 * r.toNat + p.toNat) = B p.toNat by rw [← hB]; rfl, show V (sr sh m 4) (7 * r.toNat + p.toNat) = E p.toNat by rw [← hE]; rfl]
    -- to 108
    have go : ∀ (x3 e : Int) (o6 : Option wV), e ≤ n → bOk f B E p = pA (pMayC p) f (B p.toNat) e → (B p.toNat = -1 → e = -1) → ∃ V', wev zP 148 108 [some (wR m), some (wI r), some (wI p), some (wI x3), some (wI e), some (wI (B p.toNat)), o6] [] (sh, V) = rN (sh, V') ∧ FrM m [5, 6] [] V V' ∧ (V' m 5 = 0 ↔ V m 5 = 0 ∧ pA (bOk f B E) (fun k => k) p 7 = 1) := by
      intro x3 e o6 hen hbe hb1
      obtain ⟨W, k', o6', e1, f1, r1⟩ := M148_108 M hr f p x3 e (by clear st bo; omega) (e - B p.toNat).toNat V (B p.toNat) o6 (Nat.le_refl _) rr.1 S hf
      obtain ⟨k1, k2, k3, k4, -⟩ := f1.keep M r
      obtain ⟨V', e2, f2, r2⟩ := ih W (p + 1) (some (wI x3)) (some (wI e)) (some (wI k')) o6' pq.1 pq.2.1 (k2 S) (by rw [k1]; exact hf) (k3.trans hB) (k4.trans hE)
      rw [e1, wp, e2]
      refine ⟨V', rfl, f1.trans f2, ?_⟩
      have wkp : ¬ wk f p e (e - B p.toNat).toNat (B p.toNat) ↔ bOk f B E p = 1 := by
        rw [hbe]
        by_cases b : B p.toNat = -1
        · have he1 := hb1 b
          have z : (e - B p.toNat).toNat = 0 := by clear st bo; omega
          rw [z, (pA_st (pMayC p) f (B p.toNat) e).1 (by clear st bo; omega)]
          exact ⟨fun _ => rfl, fun _ w => w⟩
        · exact wk_pA hc hen (by clear st bo; omega)
      rw [r2, r1, wkp]
      constructor
      · rintro ⟨⟨h1, h2⟩, h3⟩
        exact ⟨h1, by rw [st.1 h2]; exact h3⟩
      · rintro ⟨h1, h2⟩
        have h3 : bOk f B E p = 1 := Classical.byContradiction (fun w => by rw [st.2 w] at h2; exact absurd h2 (by decide))
        exact ⟨⟨h1, h3⟩, by rw [← st.1 h3]; exact h2⟩
    by_cases c2 : p = 2
    · have p2 : p.toNat = 2 := by clear st bo; omega
      rw [if_pos c2, M147 S hr (by rw [hB, hE]; have := hBE 2 (by decide); clear st bo; omega), hf, hB, hE]
      simp only [wcx_v, wput_s, w148_69]
      rw [ixp, show V (sr sh m 3) (7 * r.toNat + p.toNat) = B p.toNat by rw [← hB]; rfl, show V (sr sh m 4) (7 * r.toNat + p.toNat) = E p.toNat by rw [← hE]; rfl]
      have bk := bo.1 c2
      rw [p2] at bk rr ⊢
      rw [p2] at go
      have cr := cfn_r f 91 (B 2) (E 2)
      by_cases b : B 2 < 0
      · have b1 : B 2 = -1 := by clear st bo cr; omega
        have e1 := rr.2.2.2 b1
        have kb : bkt f (B 2) (E 2) = -1 := if_pos b
        rw [kb, if_pos (by decide)]
        refine go (-1) (E 2) o6 rr.2.2.1 ?_ rr.2.2.2
        rw [bk]
        have : cfn f 91 (B 2) (E 2) = E 2 := by have := cr.1 (by clear st bo cr; omega); clear st bo cr; omega
        rw [this]
      · by_cases d : cfn f 91 (B 2) (E 2) = E 2
        · have kb : bkt f (B 2) (E 2) = -1 := by unfold bkt; rw [if_neg b, if_pos d]
          rw [kb, if_pos (by decide)]
          exact go (-1) (E 2) o6 rr.2.2.1 (by rw [bk, d]) rr.2.2.2
        · have kb : bkt f (B 2) (E 2) = cfn f 91 (B 2) (E 2) := by unfold bkt; rw [if_neg b, if_neg d]
          have c9 := cr.1 rr.2.1
          rw [kb, if_neg (by clear st bo cr; omega)]
          exact go _ _ o6 (by clear st bo cr; omega) bk (fun w => by clear st bo cr; omega)
    · rw [if_neg c2, if_pos (by decide)]
      exact go (-1) (E p.toNat) o6 rr.2.2.1 (bo.2 c2) rr.2.2.2
theorem M148 {sh : zSh} {V : wSt} {m : Nat} (M : wMd sh m) (S : mSz sh V m) {r : Int} (hr : 0 ≤ r ∧ r ≤ 13) (hBE : ∀ k : Nat, k < 7 → -1 ≤ mB sh V m r k ∧ mB sh V m r k ≤ mE sh V m r k ∧ mE sh V m r k ≤ V (sr sh m 2) r.toNat ∧ (mB sh V m r k = -1 → mE sh V m r k = -1)) : ∃ V', wcl zP 148 [wR m, wI r] (sh, V) = rN (sh, V') ∧ FrM m [5, 6] [] V V' ∧ (V' m 5 = 0 ↔ V m 5 = 0 ∧ pA (cOk (gl (mx sh V m r))) (fun k => k) 0 (V (sr sh m 2) r.toNat) = 1 ∧ pA (bOk (gl (mx sh V m r)) (mB sh V m r) (mE sh V m r)) (fun k => k) 1 7 = 1) := by
  have z := S r.toNat (by omega)
  obtain ⟨W, e1, f1, r1⟩ := M148_2 M hr (gl (mx sh V m r)) (V (sr sh m 2) r.toNat) _ V 0 rfl (Int.le_refl 0) S rfl rfl
  obtain ⟨k1, k2, k3, k4, k5⟩ := f1.keep M r
  rw [w148_0, e1]
  by_cases c : pA (cOk (gl (mx sh V m r))) (fun k => k) 0 (V (sr sh m 2) r.toNat) = 1
  · obtain ⟨V', e2, f2, r2⟩ := M148_46 M hr (gl (mx sh V m r)) (V (sr sh m 2) r.toNat) (mB sh V m r) (mE sh V m r) hBE (by omega) c _ W 1 none none none none rfl (by decide) (k2 S) (by rw [k1]) k3 k4
    refine ⟨V', e2, f1.trans f2, ?_⟩
    rw [r2, r1]
    exact ⟨fun w => ⟨w.1.1, w.1.2, w.2⟩, fun w => ⟨⟨w.1, w.2.1⟩, w.2.2⟩⟩
  · have n5 : ¬ W m 5 = 0 := fun w => c (r1.mp w).2
    rw [w148_46, if_neg (by decide), if_neg n5]
    exact ⟨W, rfl, f1, ⟨fun w => absurd w n5, fun w => absurd w.2.1 c⟩⟩
theorem mFut_lt {f : Int → Int} {a e : Int} (h : mFut f a e) : a < e := by
  rcases Int.lt_or_le a e with w | w
  · exact w
  · have := h.1.2.1; rw [fn_ge w] at this; omega
theorem fut_iff (f : Int → Int) (a e : Int) : cFut f a e ↔ mFut f a e := by
  rcases Int.lt_or_le a e with w | w
  · exact fut_eq w
  · exact ⟨fun h => absurd h.1 (by omega), fun h => absurd (mFut_lt h) (by omega)⟩
theorem M149 {sh : zSh} {V : wSt} {m : Nat} (M : wMd sh m) (S : mSz sh V m) {r : Int} (hr : 0 ≤ r ∧ r ≤ 13) (h : -1 ≤ mB sh V m r 2 ∧ mB sh V m r 2 ≤ mE sh V m r 2 ∧ mE sh V m r 2 ≤ V (sr sh m 2) r.toNat ∧ (mB sh V m r 2 = -1 → mE sh V m r 2 = -1)) : ∃ V', wcl zP 149 [wR m, wI r] (sh, V) = rN (sh, V') ∧ FrM m [5, 6, 15, 16] [sr sh m 14] V V' ∧ (V' m 5 = 0 ↔ V m 5 = 0 ∧ bBr (gl (mx sh V m r)) (mB sh V m r 2) (mE sh V m r 2) = 0) := by
  have z := S r.toNat (by omega)
  have up : ∀ {X Y : wSt}, FrM m [5, 6] [] X Y → FrM m [5, 6, 15, 16] [sr sh m 14] X Y := fun g => g.mono (fun j hj => by simp only [List.mem_cons, List.not_mem_nil, or_false] at hj ⊢; omega) (fun j hj => absurd hj (List.not_mem_nil))
  have up2 : ∀ {X Y : wSt}, FrM m [15, 16] [sr sh m 14] X Y → FrM m [5, 6, 15, 16] [sr sh m 14] X Y := fun g => g.mono (fun j hj => by simp only [List.mem_cons, List.not_mem_nil, or_false] at hj ⊢; omega) (fun j hj => hj)
  rw [w149_0, M147 S hr (by omega)]
  simp only [wcx_v, wput_s, w149_5]
  obtain ⟨f, hf⟩ : ∃ f, f = gl (mx sh V m r) := ⟨_, rfl⟩
  obtain ⟨b, hb⟩ : ∃ b, b = mB sh V m r 2 := ⟨_, rfl⟩
  obtain ⟨e, he⟩ : ∃ e, e = mE sh V m r 2 := ⟨_, rfl⟩
  obtain ⟨n, hn⟩ : ∃ n, n = V (sr sh m 2) r.toNat := ⟨_, rfl⟩
  rw [← hb, ← he, ← hn] at h
  rw [← hn] at z
  rw [← hf, ← hb, ← he]
  have cr := (cfn_r f 91 b e).1 h.2.1
  -- no bracket
  have nob : cfn f 91 b e = e → bkt f b e = -1 ∧ bBr f b e = 0 := fun w => by
    refine ⟨?_, if_pos w⟩
    unfold bkt
    by_cases b0 : b < 0
    · rw [if_pos b0]
    · rw [if_neg b0, if_pos w]
  by_cases c : cfn f 91 b e = e
  · rw [(nob c).1, if_pos (by decide), w149_106]
    exact ⟨V, rfl, FrM.refl, ⟨fun w => ⟨w, (nob c).2⟩, fun w => w.1⟩⟩
  have b0 : 0 ≤ b := by
    rcases Int.lt_or_le b 0 with w | w
    · have h1 : b = -1 := by omega
      have := h.2.2.2 h1; omega
    · exact w
  have bk : bkt f b e = cfn f 91 b e := by unfold bkt; rw [if_neg (by omega), if_neg c]
  obtain ⟨o, ho⟩ : ∃ o, o = cfn f 91 b e := ⟨_, rfl⟩
  have bb : bBr f b e = if o = b ∧ cfn f 93 o e = e - 1 ∧ (bI (cSix f (o + 1) (cfn f 93 o e)) = 1 ∨ bI (cFut f (o + 1) (cfn f 93 o e)) = 1) then 0 else 1 := by
    rw [ho]; unfold bBr; rw [if_neg c]
  rw [bk, ← ho, bb, if_neg (by omega)]
  rw [← ho] at cr c
  clear bb bk nob
  by_cases c5 : V m 5 = 0
  rotate_left
  · rw [if_neg c5, w149_106]; exact ⟨V, rfl, FrM.refl, ⟨fun w => absurd w c5, fun w => absurd w.1 c5⟩⟩
  rw [if_pos c5, ← hn, M129 S hr 93 o n (by omega) (by omega), ← hf]
  simp only [wcx_v, wput_s, w149_31]
  have i2 : Int.toNat (wr (wr (7 * r) + 2)) = 7 * r.toNat + 2 := ix7 hr (by decide)
  rw [i2, show V (sr sh m 3) (7 * r.toNat + 2) = b from hb.symm, show V (sr sh m 4) (7 * r.toNat + 2) = e from he.symm, wr_eq (x := e - 1) (by omega) (by omega)]
  -- the ] is the same one
  have same : fn f 93 o n = e - 1 ↔ cfn f 93 o e = e - 1 := by
    have ec : cfn f 93 o e = fn f 93 o e := (fn_cfn (by omega)).symm
    rw [ec]
    constructor
    · intro w
      refine fn_is (by omega) (by omega) (fun _ => ?_) (fun k h1 h2 => fn_no f 93 (show o ≤ n by omega) h1 (by omega))
      have := fn_hit f 93 (show o ≤ n by omega) (by omega); rw [w] at this; exact this
    · intro w
      have w2 := fn_rng f 93 (show o ≤ e by omega)
      refine fn_is (by omega) (by omega) (fun _ => ?_) (fun k h1 h2 => fn_no f 93 (show o ≤ e by omega) h1 (by omega))
      have := fn_hit f 93 (show o ≤ e by omega) (by omega); rw [w] at this; exact this
  -- the fault is told
  have tell : ∀ (W : wSt) (x3 x4 : Int), FrM m [5, 6, 15, 16] [sr sh m 14] V W → ¬ (o = b ∧ cfn f 93 o e = e - 1 ∧ (bI (cSix f (o + 1) (cfn f 93 o e)) = 1 ∨ bI (cFut f (o + 1) (cfn f 93 o e)) = 1)) → ∃ V', wev zP 149 100 [some (wR m), some (wI r), some (wI o), some (wI x3), some (wI x4)] [] (sh, W) = rN (sh, V') ∧ FrM m [5, 6, 15, 16] [sr sh m 14] V V' ∧ (V' m 5 = 0 ↔ V m 5 = 0 ∧ (if o = b ∧ cfn f 93 o e = e - 1 ∧ (bI (cSix f (o + 1) (cfn f 93 o e)) = 1 ∨ bI (cFut f (o + 1) (cfn f 93 o e)) = 1) then (0 : Int) else 1) = 0) := by
    intro W x3 x4 fw hno
    obtain ⟨X, e1, f1, n5⟩ := M144 (sh := sh) (V := W) (m := m) 4 o (by decide)
    rw [w149_100, e1]
    simp only [wcx_v, wput_n, w149_106]
    rw [if_neg hno]
    exact ⟨X, rfl, fw.trans (up f1), ⟨fun w => absurd w n5, fun w => absurd w.2 (by decide)⟩⟩
  by_cases c1 : o = b
  rotate_left
  · rw [if_neg c1, w149_68, w149_69, if_pos rfl]; exact tell V _ _ FrM.refl (fun w => c1 w.1)
  rw [if_pos c1]
  by_cases c2 : fn f 93 o n = e - 1
  rotate_left
  · rw [if_neg c2, w149_68, w149_69, if_pos rfl]; exact tell V _ _ FrM.refl (fun w => c2 (same.mpr w.2.1))
  have c3 := same.mp c2
  rw [if_pos c2, w149_69, if_neg (by decide), wr_eq (x := o + 1) (by omega) (by omega), c2]
  obtain ⟨W, e1, f1⟩ := M142 M S hr (o + 1) (e - 1) (by omega) (by omega)
  rw [← hf] at e1
  rw [e1]
  simp only [wcx_v, wput_s, w149_85]
  obtain ⟨p1, p2⟩ := f1.rows M (os14 M)
  rw [c3]
  rw [c3] at tell
  have s6 : bI (mSix f (o + 1) (e - 1)) = bI (cSix f (o + 1) (e - 1)) := bI_cg six_eq.symm
  have s7 : bI (mFut f (o + 1) (e - 1)) = bI (cFut f (o + 1) (e - 1)) := bI_cg (fut_iff f _ _).symm
  rw [s6]
  have w5 : W m 5 = V m 5 := f1.2 5 (by decide)
  rcases bI_r (cSix f (o + 1) (e - 1)) with h6 | h6
  · rw [if_pos h6, wr_eq (x := o + 1) (by omega) (by omega), M143 (mSz_cg p2 S) hr (o + 1) (e - 1) (by omega) (by omega), mx_cg p1 p2, ← hf, s7]
    simp only [wcx_v, wput_s, w149_97]
    rcases bI_r (cFut f (o + 1) (e - 1)) with h7 | h7
    · rw [if_pos h7]
      have tt := tell W (e - 1) 1 (up2 f1) (fun w => w.2.2.elim (fun q => by rw [h6] at q; exact absurd q (by decide)) (fun q => by rw [h7] at q; exact absurd q (by decide)))
      simp only [true_and] at tt ⊢
      exact tt
    · rw [if_neg (by rw [h7]; decide), w149_106, if_pos ⟨c1, trivial, Or.inr h7⟩]
      exact ⟨W, rfl, up2 f1, by rw [w5]; exact ⟨fun w => ⟨w, rfl⟩, fun w => w.1⟩⟩
  · rw [if_neg (by rw [h6]; decide), w149_106, if_pos ⟨c1, rfl, Or.inl h6⟩]
    exact ⟨W, rfl, up2 f1, by rw [w5]; exact ⟨fun w => ⟨w, rfl⟩, fun w => w.1⟩⟩
/-- a number's value, if it is one of digits -/
theorem pHex_dg {c : Int} (h : pDig c = 1) : pHex c = c - 48 := by
  have := (pDig_st c).1 h
  unfold pHex; rw [if_pos this]
theorem M150_5 {sh : zSh} {V : wSt} {m : Nat} (S : mSz sh V m) {r p : Int} (hr : 0 ≤ r ∧ r ≤ 13) (hp : 0 ≤ p ∧ p ≤ 6) (b e : Int) (hb : mB sh V m r p.toNat = b) (he : mE sh V m r p.toNat = e) (h0 : 0 ≤ b ∧ b ≤ e ∧ e ≤ 200000 ∧ e - b ≤ 5) (hd : pAll pDig (gl (mx sh V m r)) b e) : ∀ (n : Nat) (k v : Int), (e - b - k).toNat = n → 0 ≤ k → k ≤ e - b → 0 ≤ v → v ≤ nB k → wev zP 150 5 [some (wR m), some (wI r), some (wI p), some (wI v), some (wI k)] [] (sh, V) = rI (pNm (gl (mx sh V m r)) (b + k) e v) (sh, V) := by
  intro n
  induction n with
  | zero =>
    intro k v hn hk hke hv hv2
    rw [w150_5, M135 hr hp (by rw [hb, he]; omega), hb, he]
    simp only [wcx_v, wput_s, w150_13]
    rw [if_pos (by omega), (pNm_st (gl (mx sh V m r)) (b + k) e v).1 (by omega)]
  | succ n ih =>
    intro k v hn hk hke hv hv2
    have dg := hd (b + k) (by omega) (by omega)
    have hx := pHex_dg dg
    have rg := (pDig_st _).1 dg
    have st := ((pNm_st (gl (mx sh V m r)) (b + k) e v).2 (by omega)).2 (by rw [hx]; omega)
    have nb := nB_st k 0 hk
    rw [Int.sub_zero, Int.sub_zero] at nb
    rw [w150_5, M135 hr hp (by rw [hb, he]; omega), hb, he]
    simp only [wcx_v, wput_s, w150_13]
    rw [if_neg (by omega), if_neg (by omega), M136 S hr hp (by rw [hb, he]; omega) k (by omega), hb, he, if_pos (by omega)]
    simp only [wcx_v, wput_s, w150_35]
    rw [wr_eq (x := 10 * v) (by omega) (by omega), wr_eq (x := 10 * v + _) (by omega) (by omega), wr_eq (x := _ - 48) (by omega) (by omega), wr_eq (x := k + 1) (by omega) (by omega), st, hx, show b + k + 1 = b + (k + 1) by omega, ih (k + 1) _ (by omega) (by omega) (by omega) (by omega) (by omega), show 10 * v + gl (mx sh V m r) (b + k) - 48 = 10 * v + (gl (mx sh V m r) (b + k) - 48) by omega]
theorem M150 {sh : zSh} {V : wSt} {m : Nat} (S : mSz sh V m) {r p : Int} (hr : 0 ≤ r ∧ r ≤ 13) (hp : 0 ≤ p ∧ p ≤ 6) (b e : Int) (hb : mB sh V m r p.toNat = b) (he : mE sh V m r p.toNat = e) (h0 : 0 ≤ b ∧ b ≤ e ∧ e ≤ 200000 ∧ e - b ≤ 5) (hd : pAll pDig (gl (mx sh V m r)) b e) : wcl zP 150 [wR m, wI r, wI p] (sh, V) = rI (pNm (gl (mx sh V m r)) b e 0) (sh, V) := by
  rw [w150_0, M150_5 S hr hp b e hb he h0 hd _ 0 0 rfl (by omega) (by omega) (by omega) (by decide), Int.add_zero]
/-- where a part begins and where it ends, once more -/
theorem zBE_m1 (f : Int → Int) (n : Int) (hn : 0 ≤ n) : ∀ k : Nat, k < 7 → zB f n k = -1 → zE f n k = -1 := by
  have rH : 0 ≤ kH f n ∧ kH f n ≤ n := (cfn_r f 35 0 n).1 hn
  have rQ : 0 ≤ kQ f n ∧ kQ f n ≤ kH f n := (cfn_r f 63 0 (kH f n)).1 rH.1
  have o1 : kO f n = 0 ∨ kO f n = 1 := by unfold kO; split <;> omega
  have rP : 0 ≤ kP f n := by
    have rS : 0 ≤ kS f n ∧ kS f n ≤ kQ f n := (cfn_r f 47 0 (kQ f n)).1 rQ.1
    have rC : 0 ≤ kC f n ∧ kC f n ≤ kS f n := (cfn_r f 58 0 (kS f n)).1 rS.1
    by_cases c : kC f n < kS f n
    · rw [(kP_st f n).1 c]; omega
    · rw [(kP_st f n).2 (by omega)]; omega
  intro k hk h
  rcases (by omega : k = 0 ∨ (1 ≤ k ∧ k ≤ 4) ∨ k = 5 ∨ k = 6) with e | e | e | e
  · subst e
    by_cases c : kC f n < kS f n
    · rw [((zBE0 f n).1 c).1] at h; omega
    · exact ((zBE0 f n).2 (by omega)).2
  · have za := zBEa f n
    rcases o1 with o | o
    · obtain ⟨y1, y2, y3, y4, y5, y6, y7⟩ := za.2.2 o
      clear za
      rcases (by omega : k = 1 ∨ k = 2 ∨ k = 3 ∨ k = 4) with e | e | e | e <;> subst e
      · exact y2
      · exact y4
      · exact y6
      · rw [y7] at h; omega
    · obtain ⟨y1, y2, y3, y4, y5, y6, y7⟩ := za.2.1 o
      clear za
      have hO : kP f n + 2 ≤ kQ f n := by
        unfold kO at o; by_cases c : kP f n + 2 ≤ kQ f n ∧ f (kP f n) = 47 ∧ f (kP f n + 1) = 47
        · exact c.1
        · rw [if_neg c] at o; cases o
      have rA : kP f n + 2 ≤ kA f n ∧ kA f n ≤ kQ f n := (cfn_r f 47 (kP f n + 2) (kQ f n)).1 hO
      have fr := fli_r f 64 (kP f n + 2) _ (kA f n - 1) rfl
      have s1 := aS1_st f (kP f n + 2) (kA f n)
      have ak := aK_st f (kP f n + 2) (kA f n)
      have kr := oc_r f (pB f (kP f n + 2) (kA f n)) _ (pB f (kP f n + 2) (kA f n)) (kA f n) 0 (-1) rfl (by
        by_cases c : fli f 64 (kP f n + 2) (kA f n - 1) = -1
        · rw [(s1.1 c).2]; exact Int.le_refl _
        · rw [(s1.2 c).2]; exact Int.le_refl _) (Or.inl rfl)
      have kr : pK f (kP f n + 2) (kA f n) = -1 ∨ (pB f (kP f n + 2) (kA f n) ≤ pK f (kP f n + 2) (kA f n) ∧ pK f (kP f n + 2) (kA f n) < kA f n) := kr
      rcases (by omega : k = 1 ∨ k = 2 ∨ k = 3 ∨ k = 4) with e | e | e | e <;> subst e
      · rw [y2]
        by_cases c : fli f 64 (kP f n + 2) (kA f n - 1) = -1
        · exact c
        · rw [y1, (s1.2 c).1] at h; omega
      · exfalso
        rw [y3] at h
        by_cases c : fli f 64 (kP f n + 2) (kA f n - 1) = -1
        · rw [(s1.1 c).2] at h; omega
        · rw [(s1.2 c).2] at h; clear s1 ak kr; omega
      · rw [y6]
        by_cases c : pK f (kP f n + 2) (kA f n) = -1
        · exact (ak.1 c).2.2
        · exfalso
          rw [y5, (ak.2 c).2.1] at h
          have hb : 0 ≤ pB f (kP f n + 2) (kA f n) := by
            by_cases c : fli f 64 (kP f n + 2) (kA f n - 1) = -1
            · rw [(s1.1 c).2]; omega
            · rw [(s1.2 c).2]; clear s1 ak kr; omega
          clear s1 ak; omega
      · exfalso; rw [y7] at h; omega
  · subst e
    by_cases c : kQ f n < kH f n
    · rw [((zBE5 f n).1 c).1] at h; omega
    · exact ((zBE5 f n).2 (by omega)).2
  · subst e
    by_cases c : kH f n < n
    · rw [((zBE6 f n).1 c).1] at h; omega
    · exact ((zBE6 f n).2 (by omega)).2
theorem M151 {sh : zSh} {V : wSt} {m : Nat} (M : wMd sh m) (S : mSz sh V m) {r : Int} (hr : 0 ≤ r ∧ r ≤ 13) : ∃ V', wcl zP 151 [wR m, wI r] (sh, V) = rI (bI (aOk (gl (mx sh V m r)) (V (sr sh m 2) r.toNat) (zB (gl (mx sh V m r)) (V (sr sh m 2) r.toNat)) (zE (gl (mx sh V m r)) (V (sr sh m 2) r.toNat)))) (sh, V') ∧ FrM m [5, 6, 15, 16] [sr sh m 3, sr sh m 4, sr sh m 14] V V' ∧
    (∀ k : Nat, k < 7 → mB sh V' m r k = zB (gl (mx sh V m r)) (V (sr sh m 2) r.toNat) k ∧ mE sh V' m r k = zE (gl (mx sh V m r)) (V (sr sh m 2) r.toNat) k) ∧ ∀ j : Nat, (j < 7 * r.toNat ∨ 7 * r.toNat + 7 ≤ j) → V' (sr sh m 3) j = V (sr sh m 3) j ∧ V' (sr sh m 4) j = V (sr sh m 4) j := by
  have z := S r.toNat (by omega)
  obtain ⟨f, hf⟩ : ∃ f, f = gl (mx sh V m r) := ⟨_, rfl⟩
  obtain ⟨n, hn⟩ : ∃ n, n = V (sr sh m 2) r.toNat := ⟨_, rfl⟩
  rw [← hn] at z
  have rg := zBE_rng f n z.1
  have m1 := zBE_m1 f n z.1
  obtain ⟨V1, e1, f1, k1⟩ := M138 M S hr
  rw [← hf, ← hn] at k1 ⊢
  obtain ⟨p1, p2⟩ := f1.rows M
  have ne14 : sr sh m 14 ≠ m := M.1 14 (by decide)
  have up0 : FrM m [5, 6, 15, 16] [sr sh m 3, sr sh m 4, sr sh m 14] V V1 := by
    constructor
    · intro b hb ho
      exact f1.1 b (fun w => ho (by simp only [List.mem_cons, List.not_mem_nil, or_false] at w ⊢; exact w.elim Or.inl (fun z => Or.inr (Or.inl z))))
    · intro j _
      have := f1.1 m (fun w => by
        rcases List.mem_cons.mp w with w | w
        · exact M.1 3 (by decide) w.symm
        · exact M.1 4 (by decide) (List.mem_singleton.mp w).symm)
      rw [this]
  have up1 : ∀ {X Y : wSt}, FrM m [5, 6] [] X Y → FrM m [5, 6, 15, 16] [sr sh m 14] X Y := fun g => g.mono (fun j hj => by simp only [List.mem_cons, List.not_mem_nil, or_false] at hj ⊢; omega) (fun j hj => absurd hj (List.not_mem_nil))
  have up2 : ∀ {X Y : wSt}, FrM m [5, 6, 15, 16] [sr sh m 14] X Y → FrM m [5, 6, 15, 16] [sr sh m 3, sr sh m 4, sr sh m 14] X Y := fun g => g.mono (fun j hj => hj) (fun j hj => by rw [List.mem_singleton.mp hj]; simp)
  obtain ⟨V2, hV2⟩ : ∃ V2, V2 = uI (uI V1 m 5 0) m 6 0 := ⟨_, rfl⟩
  have f2 : FrM m [5, 6] [] V1 V2 := by rw [hV2]; exact (FrM_f (by decide)).trans (FrM_f (by decide))
  have v5 : V2 m 5 = 0 := by rw [hV2]; unfold uI; rw [if_neg (fun w => absurd w.2 (by decide)), if_pos ⟨rfl, rfl⟩]
  -- what holds behind each look
  have keep : ∀ X, FrM m [5, 6, 15, 16] [sr sh m 14] V1 X → mSz sh X m ∧ gl (mx sh X m r) = f ∧ mB sh X m r = mB sh V1 m r ∧ mE sh X m r = mE sh V1 m r ∧ X (sr sh m 2) r.toNat = n := by
    intro X g
    have k : ∀ i, i ∈ zARw → i ≠ 14 → X (sr sh m i) = V1 (sr sh m i) := fun i hi h14 => g.1 _ (M.1 i hi) (fun w => M.n hi (by decide) h14 (List.mem_singleton.mp w))
    have j1 := k 1 (by decide) (by decide); have j2 := k 2 (by decide) (by decide); have j3 := k 3 (by decide) (by decide); have j4 := k 4 (by decide) (by decide)
    refine ⟨mSz_cg (j2.trans p2) S, ?_, ?_, ?_, ?_⟩
    · rw [mx_cg (j1.trans p1) (j2.trans p2), hf]
    · funext j; unfold mB; rw [j3]
    · funext j; unfold mE; rw [j4]
    · rw [j2, p2, hn]
  have fin : ∀ (X : wSt) (y : Int), FrM m [5, 6, 15, 16] [sr sh m 14] V1 X → y = bI (aOk f n (zB f n) (zE f n)) → ∃ V', rI y (sh, X) = rI (bI (aOk f n (zB f n) (zE f n))) (sh, V') ∧ FrM m [5, 6, 15, 16] [sr sh m 3, sr sh m 4, sr sh m 14] V V' ∧ (∀ k : Nat, k < 7 → mB sh V' m r k = zB f n k ∧ mE sh V' m r k = zE f n k) ∧ ∀ j : Nat, (j < 7 * r.toNat ∨ 7 * r.toNat + 7 ≤ j) → V' (sr sh m 3) j = V (sr sh m 3) j ∧ V' (sr sh m 4) j = V (sr sh m 4) j := by
    intro X y g hy
    obtain ⟨-, -, kb, ke, -⟩ := keep X g
    have k : ∀ i, i ∈ zARw → i ≠ 14 → X (sr sh m i) = V1 (sr sh m i) := fun i hi h14 => g.1 _ (M.1 i hi) (fun w => M.n hi (by decide) h14 (List.mem_singleton.mp w))
    refine ⟨X, rI_cg hy, up0.trans (up2 g), fun q hq => ?_, fun j hj => ?_⟩
    · rw [kb, ke]; exact k1 q hq
    · rw [k 3 (by decide) (by decide), k 4 (by decide) (by decide)]; exact f1.2 j hj
  rw [w151_0, e1]
  simp only [wcx_v, wput_n, w151_5]
  rw [← hV2]
  obtain ⟨S2, g2, b2, c2, l2⟩ := keep V2 (up1 f2)
  have q0 := k1 0 (by decide)
  have r0 := rg 0 (by decide)
  have n0 := m1 0 (by decide)
  have b00 : zB f n 0 = 0 ∨ zB f n 0 = -1 := by
    by_cases c : kC f n < kS f n
    · exact Or.inl ((zBE0 f n).1 c).1
    · exact Or.inr ((zBE0 f n).2 (by omega)).1
  obtain ⟨V3, e3, f3, r3⟩ := M146 M S2 hr (by
    rw [b2, c2, q0.1, q0.2]
    rcases b00 with w | w
    · exact Or.inl ⟨w, by omega, by omega⟩
    · exact Or.inr ⟨w, n0 w⟩)
  rw [g2, c2, q0.2] at r3
  rw [e3]
  simp only [wcx_v, wput_n, w151_20]
  have t3 := (up1 f2).trans (up1 f3)
  obtain ⟨S3, g3, b3, c3, l3⟩ := keep V3 t3
  have hBE : ∀ X, mB sh X m r = mB sh V1 m r → mE sh X m r = mE sh V1 m r → X (sr sh m 2) r.toNat = n → ∀ k : Nat, k < 7 → -1 ≤ mB sh X m r k ∧ mB sh X m r k ≤ mE sh X m r k ∧ mE sh X m r k ≤ X (sr sh m 2) r.toNat ∧ (mB sh X m r k = -1 → mE sh X m r k = -1) := by
    intro X hb he hl k hk
    rw [hb, he, (k1 k hk).1, (k1 k hk).2, hl]
    exact ⟨(rg k hk).1, (rg k hk).2.1, (rg k hk).2.2, m1 k hk⟩
  have Bcg : ∀ {P : (Nat → Int) → (Nat → Int) → Prop}, True := fun {P} => trivial
  -- the bytes, if there was no fault
  have st : ∃ V4, (if V3 m 5 = 0 then wcx (wcl zP 148 [wR m, wI r] (sh, V3)) (fun v h' => wev zP 151 32 [some (wR m), some (wI r)] (wput v []) h') wth else wev zP 151 32 [some (wR m), some (wI r)] [] (sh, V3)) = wev zP 151 32 [some (wR m), some (wI r)] [] (sh, V4) ∧ FrM m [5, 6, 15, 16] [sr sh m 14] V1 V4 ∧ (V4 m 5 = 0 ↔ aSch f (zE f n 0) ∧ pA (cOk f) (fun k => k) 0 n = 1 ∧ pA (bOk f (mB sh V1 m r) (mE sh V1 m r)) (fun k => k) 1 7 = 1) := by
    by_cases c : V3 m 5 = 0
    · obtain ⟨V4, e4, f4, r4⟩ := M148 M S3 hr (hBE V3 b3 c3 l3)
      rw [g3, l3, b3, c3] at r4
      rw [if_pos c, e4]
      refine ⟨V4, rfl, t3.trans (up1 f4), ?_⟩
      rw [r4]
      exact ⟨fun w => ⟨(r3.mp c).2, w.2⟩, fun w => ⟨c, w.2⟩⟩
    · rw [if_neg c]
      exact ⟨V3, rfl, t3, ⟨fun w => absurd w c, fun w => absurd (r3.mpr ⟨v5, w.1⟩) c⟩⟩
  obtain ⟨V4, e4, t4, r4⟩ := st
  rw [e4, w151_32]
  obtain ⟨S4, g4, b4, c4, l4⟩ := keep V4 t4
  obtain ⟨V5, e5, f5, r5⟩ := M149 M S4 hr (hBE V4 b4 c4 l4 2 (by decide))
  rw [g4, b4, c4, (k1 2 (by decide)).1, (k1 2 (by decide)).2] at r5
  rw [e5]
  simp only [wcx_v, wput_n, w151_37]
  have t5 := t4.trans f5
  obtain ⟨S5, g5, b5, c5, l5⟩ := keep V5 t5
  have bcg : pA (bOk f (mB sh V1 m r) (mE sh V1 m r)) (fun k => k) 1 7 = pA (bOk f (zB f n) (zE f n)) (fun k => k) 1 7 := by
    refine pA_cg _ 1 7 rfl (fun k h1 h2 => ?_)
    have := k1 k.toNat (by omega)
    show bOk f (mB sh V1 m r) (mE sh V1 m r) k = bOk f (zB f n) (zE f n) k
    unfold bOk; rw [this.1, this.2]
  rw [bcg] at r4
  by_cases c : V5 m 5 = 0
  rotate_left
  · rw [if_neg c, w151_90, if_neg c]
    refine fin V5 0 t5 (bI_0 (fun w => c (r5.mpr ⟨r4.mpr ⟨w.1, w.2.1, w.2.2.1⟩, w.2.2.2.1⟩))).symm
  have all4 := r4.mp (r5.mp c).1
  have br := (r5.mp c).2
  have q3 := k1 3 (by decide)
  have r33 := rg 3 (by decide)
  have m3 := m1 3 (by decide)
  rw [if_pos c, M134 hr (by decide), show (3 : Int).toNat = 3 from rfl, b5, q3.1]
  simp only [wcx_v, wput_s, w151_50]
  by_cases c6 : zB f n 3 < 0
  · have b31 : zB f n 3 = -1 := by omega
    rw [if_pos c6, if_pos rfl, w151_90, if_pos c]
    refine fin V5 1 t5 (bI_1 ⟨all4.1, all4.2.1, all4.2.2, br, ?_⟩).symm
    unfold aPrt; rw [m3 b31, b31]
    refine ⟨by decide, ?_⟩
    rw [(pNm_st f (-1) (-1) 0).1 (Int.le_refl _)]; decide
  rw [if_neg c6, if_neg (by decide), M135 hr (by decide) (by rw [show (3 : Int).toNat = 3 from rfl, b5, c5, q3.1, q3.2]; omega), show (3 : Int).toNat = 3 from rfl, b5, c5, q3.1, q3.2]
  simp only [wcx_v, wput_s, w151_59]
  have faulty : ∀ (y : Int), ¬ aPrt f (zB f n 3) (zE f n 3) → ∃ V', wcx (wcl zP 144 [wR m, wI 5, wI y] (sh, V5)) (fun v h' => wev zP 151 90 [some (wR m), some (wI r)] (wput v []) h') wth = rI (bI (aOk f n (zB f n) (zE f n))) (sh, V') ∧ FrM m [5, 6, 15, 16] [sr sh m 3, sr sh m 4, sr sh m 14] V V' ∧ (∀ k : Nat, k < 7 → mB sh V' m r k = zB f n k ∧ mE sh V' m r k = zE f n k) ∧ ∀ j : Nat, (j < 7 * r.toNat ∨ 7 * r.toNat + 7 ≤ j) → V' (sr sh m 3) j = V (sr sh m 3) j ∧ V' (sr sh m 4) j = V (sr sh m 4) j := by
    intro y hno
    obtain ⟨X, e6, f6, n5⟩ := M144 (sh := sh) (V := V5) (m := m) 5 y (by decide)
    rw [e6]
    simp only [wcx_v, wput_n, w151_90]
    rw [if_neg n5]
    exact fin X 0 (t5.trans (up1 f6)) (bI_0 (fun w => hno w.2.2.2.2)).symm
  by_cases c7 : 5 < zE f n 3 - zB f n 3
  · rw [if_pos c7]; exact faulty _ (fun w => by have := w.1; omega)
  have dg : pAll pDig f (zB f n 3) (zE f n 3) := by
    have hb := (pA_all (p := bOk f (zB f n) (zE f n)) (f := fun k => k) _ 1 7 rfl).mp all4.2.2 3 (by decide) (by decide)
    have hb : bOk f (zB f n) (zE f n) 3 = 1 := hb
    rw [(bOk_st f (zB f n) (zE f n) 3).2 (by decide), show (3 : Int).toNat = 3 from rfl] at hb
    have hb := (pA_all _ _ _ rfl).mp hb
    intro k h1 h2
    have := hb k h1 h2
    unfold pMayC at this; rw [if_pos rfl] at this; exact this
  rw [if_neg c7, M150 S5 hr (by decide) (zB f n 3) (zE f n 3) (by rw [show (3 : Int).toNat = 3 from rfl, b5, q3.1]) (by rw [show (3 : Int).toNat = 3 from rfl, c5, q3.2]) (by omega) (by rw [g5]; exact dg), g5]
  simp only [wcx_v, wput_s, w151_69]
  by_cases c8 : pNm f (zB f n 3) (zE f n 3) 0 ≤ 65535
  · rw [if_pos c8, w151_90, if_pos c]
    exact fin V5 1 t5 (bI_1 ⟨all4.1, all4.2.1, all4.2.2, br, by omega, c8⟩).symm
  · rw [if_neg c8]; exact faulty _ (fun w => c8 w.2)
