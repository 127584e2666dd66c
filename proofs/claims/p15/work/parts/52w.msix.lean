set_option maxRecDepth 16384
/-! the model's addresses -/
/-- some fields of the model and some arrays change -/
def FrM (m : Nat) (fs os : List Nat) (V V' : wSt) : Prop := (∀ b, b ≠ m → b ∉ os → V' b = V b) ∧ ∀ j, j ∉ fs → V' m j = V m j
theorem FrM.refl {m : Nat} {fs os : List Nat} {V : wSt} : FrM m fs os V V := ⟨fun _ _ _ => rfl, fun _ _ => rfl⟩
theorem FrM.trans {m : Nat} {fs os : List Nat} {V V' W : wSt} (h : FrM m fs os V V') (g : FrM m fs os V' W) : FrM m fs os V W := ⟨fun b n o => (g.1 b n o).trans (h.1 b n o), fun j n => (g.2 j n).trans (h.2 j n)⟩
theorem FrM.mono {m : Nat} {fs os fs' os' : List Nat} {V V' : wSt} (h : FrM m fs os V V') (s1 : ∀ j, j ∈ fs → j ∈ fs') (s2 : ∀ j, j ∈ os → j ∈ os') : FrM m fs' os' V V' := ⟨fun b n o => h.1 b n (fun w => o (s2 b w)), fun j n => h.2 j (fun w => n (s1 j w))⟩
theorem FrM_f {m : Nat} {fs os : List Nat} {V : wSt} {k : Nat} {x : Int} (h : k ∈ fs) : FrM m fs os V (uI V m k x) :=
  ⟨fun b n _ => by funext j; unfold uI; rw [if_neg (fun c => n c.1)], fun j n => by unfold uI; rw [if_neg (fun c => n (by rw [c.2]; exact h))]⟩
theorem FrM_a {m a : Nat} {fs os : List Nat} {V : wSt} {k : Nat} {x : Int} (h : a ∈ os) (hm : a ≠ m) : FrM m fs os V (uI V a k x) :=
  ⟨fun b _ o => by funext j; unfold uI; rw [if_neg (fun c => o (by rw [c.1]; exact h))], fun j _ => by unfold uI; rw [if_neg (fun c => hm c.1.symm)]⟩
theorem FrM.rows {sh : zSh} {m : Nat} {fs : List Nat} {os : List Nat} {V V' : wSt} (h : FrM m fs os V V') (M : wMd sh m) (g : sr sh m 1 ∉ os ∧ sr sh m 2 ∉ os) : V' (sr sh m 1) = V (sr sh m 1) ∧ V' (sr sh m 2) = V (sr sh m 2) :=
  ⟨h.1 _ (M.1 1 (by decide)) g.1, h.1 _ (M.1 2 (by decide)) g.2⟩
theorem os14 {sh : zSh} {m : Nat} (M : wMd sh m) : sr sh m 1 ∉ [sr sh m 14] ∧ sr sh m 2 ∉ [sr sh m 14] :=
  ⟨fun w => M.n (by decide) (by decide) (by decide) (List.mem_singleton.mp w), fun w => M.n (by decide) (by decide) (by decide) (List.mem_singleton.mp w)⟩
/-- the bits that are gathered, whatever comes of it -/
def mFb (f : Int → Int) (e : Int) : Nat → Int → Int → Int → Int → Int → Int
  | 0, _, _, _, _, b => b
  | n + 1, k, m, v, d, b =>
    if (if k < e then f k else 46) = 46 then (if d = 0 ∨ 3 < d ∨ 255 < v ∨ (1 < d ∧ f (k - d) = 48) ∨ m = 4 then b else mFb f e n (k + 1) (m + 1) 0 0 (wor (wshl b 8) v))
    else if pDig (f k) = 1 then mFb f e n (k + 1) m (if d < 4 then 10 * v + f k - 48 else v) (d + 1) b else b
theorem M139_17 {sh : zSh} {m : Nat} (M : wMd sh m) {r : Int} (hr : 0 ≤ r ∧ r ≤ 13) (a e : Int) (f : Int → Int) (he : -1 ≤ e ∧ e ≤ 200000) (ha : -1 ≤ a) : ∀ (n : Nat) (V : wSt) (k q v d : Int) (o8 : Option wV), mSz sh V m → gl (mx sh V m r) = f → (e + 1 - k).toNat = n → a ≤ k → 0 ≤ q ∧ q ≤ k - a → 0 ≤ d ∧ d ≤ k - a → 0 ≤ v ∧ v ≤ 9999 → (d = 0 → v ≤ 0) → (d = 1 → v ≤ 9) → (d = 2 → v ≤ 99) → (d = 3 → v ≤ 999) → ∃ V', wev zP 139 17 [some (wR m), some (wI r), some (wI a), some (wI e), some (wI q), some (wI v), some (wI d), some (wI k), o8] [] (sh, V) = rI (if mF f e n k q v d = true then 1 else 0) (sh, V') ∧ FrM m [16] [] V V' ∧ V' m 16 = mFb f e n k q v d (V m 16) := by
  intro n
  induction n with
  | zero =>
    intro V k q v d o8 S hf hn hk hq hd hv i0 i1 i2 i3
    refine ⟨V, ?_, FrM.refl, rfl⟩
    rw [w139_17, if_pos (by omega)]
    simp only [w139_181, ite_rI]
    refine rI_cg ?_
    show _ = if decide (q = 4) = true then (1 : Int) else 0
    by_cases c : q = 4
    · rw [if_pos c, if_pos (decide_eq_true c)]
    · rw [if_neg c, if_neg (fun w => c (of_decide_eq_true w))]
  | succ n ih =>
    intro V k q v d o8 S hf hn hk hq hd hv i0 i1 i2 i3
    have hke : k ≤ e := by omega
    have wk : wr (k + 1) = k + 1 := wr_eq (by omega) (by omega)
    have at41 : wev zP 139 17 [some (wR m), some (wI r), some (wI a), some (wI e), some (wI q), some (wI v), some (wI d), some (wI k), o8] [] (sh, V) = wev zP 139 41 [some (wR m), some (wI r), some (wI a), some (wI e), some (wI q), some (wI v), some (wI d), some (wI k), o8] [wI (if k < e then f k else 46)] (sh, V) := by
      rw [w139_17, if_neg (by omega)]
      by_cases c : e ≤ k
      · rw [if_pos c, if_neg (by omega)]
      · rw [if_neg c, M128 S hr]
        simp only [wcx_v, wput_s, w139_36]
        rw [if_pos (by omega), hf]
    obtain ⟨b, hb⟩ : ∃ b, b = if k < e then f k else 46 := ⟨_, rfl⟩
    rw [at41, ← hb, w139_41]
    clear at41
    have m46 : b = 46 → mF f e (n + 1) k q v d = (if d = 0 ∨ 3 < d ∨ 255 < v ∨ (1 < d ∧ f (k - d) = 48) ∨ q = 4 then false else mF f e n (k + 1) (q + 1) 0 0) ∧ ∀ b0, mFb f e (n + 1) k q v d b0 = (if d = 0 ∨ 3 < d ∨ 255 < v ∨ (1 < d ∧ f (k - d) = 48) ∨ q = 4 then b0 else mFb f e n (k + 1) (q + 1) 0 0 (wor (wshl b0 8) v)) := fun c => by
      constructor
      · rw [mF, ← hb, if_pos c]
      · intro b0; rw [mFb, ← hb, if_pos c]
    have mdg : b ≠ 46 → mF f e (n + 1) k q v d = (if pDig (f k) = 1 then mF f e n (k + 1) q (if d < 4 then 10 * v + f k - 48 else v) (d + 1) else false) ∧ ∀ b0, mFb f e (n + 1) k q v d b0 = (if pDig (f k) = 1 then mFb f e n (k + 1) q (if d < 4 then 10 * v + f k - 48 else v) (d + 1) b0 else b0) := fun c => by
      constructor
      · rw [mF, ← hb, if_neg c]
      · intro b0; rw [mFb, ← hb, if_neg c]
    by_cases c : b = 46
    · obtain ⟨hM, hB⟩ := m46 c
      clear m46 mdg
      rw [if_pos c]
      have bad : ∀ (x8 : Int), (d = 0 ∨ 3 < d ∨ 255 < v ∨ (1 < d ∧ f (k - d) = 48) ∨ q = 4) → ∃ V', wev zP 139 96 [some (wR m), some (wI r), some (wI a), some (wI e), some (wI q), some (wI v), some (wI d), some (wI k), some (wI x8)] [] (sh, V) = rI (if mF f e (n + 1) k q v d = true then 1 else 0) (sh, V') ∧ FrM m [16] [] V V' ∧ V' m 16 = mFb f e (n + 1) k q v d (V m 16) := by
        intro x8 h
        rw [if_pos h] at hM
        have hB := hB (V m 16)
        rw [if_pos h] at hB
        rw [hM, hB, w139_96]
        exact ⟨V, rfl, FrM.refl, rfl⟩
      by_cases c1 : d = 0
      · rw [if_pos c1]; exact bad _ (Or.inl c1)
      rw [if_neg c1]
      by_cases c2 : 3 < d
      · rw [if_pos c2]; exact bad _ (Or.inr (Or.inl c2))
      rw [if_neg c2]
      by_cases c3 : 255 < v
      · rw [if_pos c3]; exact bad _ (Or.inr (Or.inr (Or.inl c3)))
      rw [if_neg c3]
      have at90 : ¬ (1 < d ∧ f (k - d) = 48) → ∃ V', wev zP 139 90 [some (wR m), some (wI r), some (wI a), some (wI e), some (wI q), some (wI v), some (wI d), some (wI k), some (wI b)] [] (sh, V) = rI (if mF f e (n + 1) k q v d = true then 1 else 0) (sh, V') ∧ FrM m [16] [] V V' ∧ V' m 16 = mFb f e (n + 1) k q v d (V m 16) := by
        intro h4
        rw [w139_90]
        by_cases c5 : q = 4
        · rw [if_pos c5]; exact bad _ (Or.inr (Or.inr (Or.inr (Or.inr c5))))
        rw [if_neg c5]
        have hn2 : ¬ (d = 0 ∨ 3 < d ∨ 255 < v ∨ (1 < d ∧ f (k - d) = 48) ∨ q = 4) := by
          rintro (w | w | w | w | w)
          · exact c1 w
          · exact c2 w
          · exact c3 w
          · exact h4 w
          · exact c5 w
        clear bad
        rw [if_neg hn2] at hM
        have hB := hB (V m 16)
        rw [if_neg hn2] at hB
        rw [hM, hB, w139_109, w139_164, wk, wr_eq (by omega) (by omega)]
        have fr : FrM m [16] [] V (uI V m 16 (wor (wshl (V m 16) 8) v)) := FrM_f (List.mem_cons_self)
        obtain ⟨r1, r2⟩ := fr.rows M ⟨List.not_mem_nil, List.not_mem_nil⟩
        obtain ⟨V', e1, f1, v1⟩ := ih (uI V m 16 (wor (wshl (V m 16) 8) v)) (k + 1) (q + 1) 0 0 (some (wI b)) (mSz_cg r2 S) (by rw [mx_cg r1 r2]; exact hf) (by omega) (by omega) (by omega) (by omega) (by omega) (by omega) (by omega) (by omega) (by omega)
        refine ⟨V', e1, fr.trans f1, ?_⟩
        rw [v1, show uI V m 16 (wor (wshl (V m 16) 8) v) m 16 = wor (wshl (V m 16) 8) v by unfold uI; rw [if_pos ⟨rfl, rfl⟩]]
      by_cases c4 : d ≤ 1
      · rw [if_pos c4]; exact at90 (fun w => by have := w.1; omega)
      · rw [if_neg c4, wr_eq (by clear hM hB bad at90; omega) (by clear hM hB bad at90; omega), M128 S hr, hf]
        simp only [wcx_v, wput_s, w139_85]
        by_cases c6 : f (k - d) = 48
        · rw [if_pos c6]; exact bad _ (Or.inr (Or.inr (Or.inr (Or.inl ⟨by omega, c6⟩))))
        · rw [if_neg c6]; exact at90 (fun w => c6 w.2)
    · obtain ⟨hM, hB⟩ := mdg c
      have hB := hB (V m 16)
      clear m46 mdg
      have hlt : k < e := by
        by_cases w : k < e
        · exact w
        · rw [if_neg w] at hb; exact absurd hb c
      rw [if_pos hlt] at hb
      rw [if_neg c, M121]
      simp only [wcx_v, wput_s, w139_129]
      have pd := pDig_st (f k)
      rw [hb]
      by_cases c1 : pDig (f k) = 0
      · have c0 : ¬ pDig (f k) = 1 := by rw [c1]; decide
        rw [if_neg c0] at hM hB
        rw [if_pos c1, hM, hB]
        exact ⟨V, rfl, FrM.refl, rfl⟩
      · have c11 : pDig (f k) = 1 := pd.2.elim (fun w => absurd w c1) id
        have rg := pd.1 c11
        clear pd
        rw [if_pos c11] at hM hB
        rw [if_neg c1]
        have wd : wr (d + 1) = d + 1 := wr_eq (by omega) (by omega)
        by_cases c2 : 4 ≤ d
        · have c3 : ¬ d < 4 := by omega
          rw [if_neg c3] at hM hB
          rw [if_pos c2, w139_154, w139_164, wk, wd, hM, hB]
          obtain ⟨V', e1, f1, v1⟩ := ih V (k + 1) q v (d + 1) (some (wI (f k))) S hf (by omega) (by omega) (by omega) (by omega) (by omega) (by omega) (by omega) (by omega) (by omega)
          exact ⟨V', e1, f1, v1⟩
        · have c3 : d < 4 := by omega
          rw [if_pos c3] at hM hB
          rw [if_neg c2, w139_154, w139_164, wk, wd, wr_eq (x := 10 * v) (by omega) (by omega), wr_eq (x := 10 * v + f k) (by omega) (by omega), wr_eq (by omega) (by omega), hM, hB]
          obtain ⟨V', e1, f1, v1⟩ := ih V (k + 1) q (10 * v + f k - 48) (d + 1) (some (wI (f k))) S hf (by omega) (by omega) (by omega) (by omega) (by omega) (by omega) (by omega) (by omega) (by omega)
          exact ⟨V', e1, f1, v1⟩
theorem M139 {sh : zSh} {V : wSt} {m : Nat} (M : wMd sh m) (S : mSz sh V m) {r : Int} (hr : 0 ≤ r ∧ r ≤ 13) (a e : Int) (he : -1 ≤ e ∧ e ≤ 200000) (ha : -1 ≤ a ∧ a ≤ e) : ∃ V', wcl zP 139 [wR m, wI r, wI a, wI e] (sh, V) = rI (bI (cF (gl (mx sh V m r)) a e)) (sh, V') ∧ FrM m [16] [] V V' ∧ V' m 16 = mFb (gl (mx sh V m r)) e (e + 1 - a).toNat a 0 0 0 0 := by
  have fr : FrM m [16] [] V (uI V m 16 0) := FrM_f (List.mem_cons_self)
  obtain ⟨r1, r2⟩ := fr.rows M ⟨List.not_mem_nil, List.not_mem_nil⟩
  obtain ⟨V', e1, f1, v1⟩ := M139_17 M hr a e (gl (mx sh V m r)) he ha.1 _ (uI V m 16 0) a 0 0 0 none (mSz_cg r2 S) (by rw [mx_cg r1 r2]) rfl (Int.le_refl a) (by omega) (by omega) (by omega) (by omega) (by omega) (by omega) (by omega)
  refine ⟨V', ?_, fr.trans f1, ?_⟩
  · rw [w139_0, e1]
    refine rI_cg ?_
    have h := four_eq (f := gl (mx sh V m r)) ha.2
    by_cases c : cF (gl (mx sh V m r)) a e
    · rw [bI_1 c]; exact if_pos (h.mpr c)
    · rw [bI_0 c]; exact if_neg (fun w => c (h.mp w))
  · rw [v1, show uI V m 16 0 m 16 = 0 by unfold uI; rw [if_pos ⟨rfl, rfl⟩]]
theorem M141 {sh : zSh} {V : wSt} {m : Nat} (M : wMd sh m) (x : Int) (hc : 0 ≤ V m 15 ∧ V m 15 ≤ 1000000) : ∃ V', wcl zP 141 [wR m, wI x] (sh, V) = rN (sh, V') ∧ FrM m [15] [sr sh m 14] V V' ∧ V' m 15 = V m 15 + 1 ∧ ∀ j : Nat, V' (sr sh m 14) j = if V m 15 < 18 ∧ (j : Int) = V m 15 then x else V (sr sh m 14) j := by
  have ne : sr sh m 14 ≠ m := M.1 14 (by decide)
  rw [w141_0]
  by_cases c : 18 ≤ V m 15
  · rw [if_pos c, wr_eq (by omega) (by omega)]
    refine ⟨_, rfl, FrM_f (List.mem_cons_self), ?_, fun j => ?_⟩
    · unfold uI; rw [if_pos ⟨rfl, rfl⟩]
    · rw [if_neg (by omega)]; unfold uI; rw [if_neg (fun w => ne w.1)]
  · have e1 : uI V (sr sh m 14) (Int.toNat (V m 15)) x m 15 = V m 15 := by unfold uI; rw [if_neg (fun w => ne w.1.symm)]
    rw [if_neg c, e1, wr_eq (by omega) (by omega)]
    refine ⟨_, rfl, (FrM_a (List.mem_cons_self) ne).trans (FrM_f (List.mem_cons_self)), ?_, fun j => ?_⟩
    · unfold uI; rw [if_pos ⟨rfl, rfl⟩]
    · unfold uI; rw [if_neg (fun w => ne w.1)]
      by_cases d : (j : Int) = V m 15
      · rw [if_pos ⟨rfl, by omega⟩, if_pos ⟨by omega, d⟩]
      · rw [if_neg (fun w => d (by have := w.2; omega)), if_neg (fun w => d w.2)]
/-- the signs of one group -/
theorem M140_75 {sh : zSh} {V : wSt} {m : Nat} (S : mSz sh V m) {r : Int} (hr : 0 ≤ r ∧ r ≤ 13) (a e la k s : Int) (hk : 0 ≤ k ∧ k ≤ 200001) (hs : s ≤ 200000) : ∀ (n : Nat) (i v : Int) (o9 : Option wV), (s - i).toNat = n → k ≤ i → (k ≤ s → i ≤ s) → (i = k → v ≤ 0) → (i = k + 1 → v ≤ 15) → (i = k + 2 → v ≤ 255) → (i = k + 3 → v ≤ 4095) → 0 ≤ v → i - k ≤ 4 →
    (pA pHx (gl (mx sh V m r)) i s = 1 ∧ s - k ≤ 4 → ∃ v' i' o9', wev zP 140 75 [some (wR m), some (wI r), some (wI a), some (wI e), some (wI la), some (wI k), some (wI s), some (wI v), some (wI i), o9] [] (sh, V) = (if s = k then rI 0 (sh, V) else wcx (wcl zP 141 [wR m, wI v'] (sh, V)) (fun v h' => wev zP 140 141 [some (wR m), some (wI r), some (wI a), some (wI e), some (wI la), some (wI k), some (wI s), some (wI v'), some (wI i'), o9'] (wput v []) h') wth) ∧ v' = hNm (gl (mx sh V m r)) i s v) ∧
    (¬ (pA pHx (gl (mx sh V m r)) i s = 1 ∧ s - k ≤ 4) → wev zP 140 75 [some (wR m), some (wI r), some (wI a), some (wI e), some (wI la), some (wI k), some (wI s), some (wI v), some (wI i), o9] [] (sh, V) = rI 0 (sh, V)) := by
  intro n
  induction n with
  | zero =>
    intro i v o9 hn hi his i0 i1 i2 i3 hv h4
    have st := (pA_st pHx (gl (mx sh V m r)) i s).1 (by omega)
    have hh := (hNm_st (gl (mx sh V m r)) i s v).1 (by omega)
    refine ⟨fun _ => ⟨v, i, o9, ?_, hh.symm⟩, fun w => absurd ⟨st, by omega⟩ w⟩
    rw [w140_75, if_pos (by omega)]
  | succ n ih =>
    intro i v o9 hn hi his i0 i1 i2 i3 hv h4
    have st := (pA_st pHx (gl (mx sh V m r)) i s).2 (by omega)
    have hh := (hNm_st (gl (mx sh V m r)) i s v).2 (by omega)
    have ph := pHx_st (gl (mx sh V m r) i)
    have p1 := pHex_r (gl (mx sh V m r) i)
    have eq : wev zP 140 75 [some (wR m), some (wI r), some (wI a), some (wI e), some (wI la), some (wI k), some (wI s), some (wI v), some (wI i), o9] [] (sh, V) = if pHex (gl (mx sh V m r) i) < 0 then rI 0 (sh, V) else if i - k ≤ 3 then wev zP 140 75 [some (wR m), some (wI r), some (wI a), some (wI e), some (wI la), some (wI k), some (wI s), some (wI (wr (wr (16 * v) + pHex (gl (mx sh V m r) i)))), some (wI (i + 1)), some (wI (pHex (gl (mx sh V m r) i)))] [] (sh, V) else rI 0 (sh, V) := by
      rw [w140_75, if_neg (by clear st ph; omega), M128 S hr]
      simp only [wcx_v, wput_s, w140_89, M125, w140_92]
      rw [wr_eq (x := i - k) (by clear st ph; omega) (by clear st ph; omega), wr_eq (x := i + 1) (by clear st ph; omega) (by clear st ph; omega)]
    rw [eq]
    by_cases c : pHex (gl (mx sh V m r) i) < 0
    · have h0 := st.2 (by rw [ph.2 c]; decide)
      rw [if_pos c]
      exact ⟨fun w => absurd (h0.symm.trans w.1) (by decide), fun _ => rfl⟩
    rw [if_neg c]
    have h1 := st.1 (ph.1 (by omega))
    clear st ph
    by_cases d : i - k ≤ 3
    · rw [if_pos d, wr_eq (x := 16 * v) (by omega) (by omega), wr_eq (by omega) (by omega), h1, hh]
      exact ih (i + 1) (16 * v + pHex (gl (mx sh V m r) i)) _ (by omega) (by omega) (by omega) (by omega) (by omega) (by omega) (by omega) (by omega) (by omega)
    · rw [if_neg d]
      exact ⟨fun w => by omega, fun _ => rfl⟩
theorem gT_det {f : Int → Int} {e k c c1 c2 : Int} {la : Prop} (hk : k < e) (h1 : gT f e la k c c1) (h2 : gT f e la k c c2) : c1 = c2 := by
  have ex : la ∧ fn f 58 k e = e ∧ cF f k e → ¬ pG f k (fn f 58 k e) := by
    rintro ⟨-, h, hc⟩ hp
    have hl := cF_pt hc
    have ec : cfn f 46 k e = fn f 46 k e := if_pos (by omega)
    rw [ec] at hl
    have rg := fn_rng f 46 (show k ≤ e by omega)
    rw [h] at hp
    exact pG_pt hp rg.1 hl (fn_hit f 46 (by omega) hl)
  rcases h1 with ⟨a1, a2, a3, a4⟩ | ⟨a1, a2⟩ <;> rcases h2 with ⟨b1, b2, b3, b4⟩ | ⟨b1, b2⟩
  · omega
  · exact absurd b1 (ex ⟨a1, a2, a3⟩)
  · exact absurd a1 (ex ⟨b1, b2, b3⟩)
  · omega
theorem mGs_det {f : Int → Int} {e : Int} {la : Prop} : ∀ (n : Nat) (k c r r' : Int), (e + 2 - k).toNat ≤ n → mGs f e la k c r → mGs f e la k c r' → r = r' := by
  intro n
  induction n with
  | zero =>
    intro k c r r' hn h1 h2
    rcases mGs_st.mp h1 with ⟨-, a⟩ | ⟨a, -⟩
    · rcases mGs_st.mp h2 with ⟨-, b⟩ | ⟨b, -⟩
      · omega
      · omega
    · omega
  | succ n ih =>
    intro k c r r' hn h1 h2
    rcases mGs_st.mp h1 with ⟨a, a1⟩ | ⟨a, c1, g1, -, m1⟩
    · rcases mGs_st.mp h2 with ⟨-, b⟩ | ⟨b, -⟩
      · omega
      · omega
    · rcases mGs_st.mp h2 with ⟨b, -⟩ | ⟨-, c2, g2, -, m2⟩
      · omega
      · have := gT_det a g1 g2
        subst this
        have hs := (fn_rng f 58 (show k ≤ e by omega)).1
        exact ih _ _ _ _ (by omega) m1 m2
theorem M140_3 {sh : zSh} {m : Nat} (M : wMd sh m) {r : Int} (hr : 0 ≤ r ∧ r ≤ 13) (a e la : Int) (hla : la = 0 ∨ la = 1) (f : Int → Int) (he : -1 ≤ e ∧ e ≤ 200000) : ∀ (n : Nat) (V : wSt) (k : Int) (o6 o7 o8 o9 : Option wV), (e + 2 - k).toNat = n → mSz sh V m → gl (mx sh V m r) = f → 0 ≤ k ∧ k ≤ 200002 → 0 ≤ V m 15 ∧ V m 15 ≤ 2 * k + 18 →
    ∃ y V', wev zP 140 3 [some (wR m), some (wI r), some (wI a), some (wI e), some (wI la), some (wI k), o6, o7, o8, o9] [] (sh, V) = rI y (sh, V') ∧ FrM m [15, 16] [sr sh m 14] V V' ∧ ((y = 1 ∧ ∃ x, mGs f e (la = 1) k (V m 15) x ∧ x ≤ 8 ∧ V' m 15 = x) ∨ (y = 0 ∧ ¬ ∃ x, mGs f e (la = 1) k (V m 15) x ∧ x ≤ 8)) := by
  have o14 := os14 M
  intro n
  induction n using Nat.strongRecOn with
  | _ n ih =>
    intro V k o6 o7 o8 o9 hn S hf hk hc
    rw [w140_3]
    by_cases c1 : e ≤ k
    · rw [if_pos c1]
      have key : ∀ x, mGs f e (la = 1) k (V m 15) x ↔ x = V m 15 := fun x => by
        rw [mGs_st]
        exact ⟨fun w => w.elim (fun z => z.2) (fun z => by omega), fun w => Or.inl ⟨c1, w⟩⟩
      by_cases c2 : 8 < V m 15
      · rw [if_pos c2]
        refine ⟨0, V, rfl, FrM.refl, Or.inr ⟨rfl, ?_⟩⟩
        rintro ⟨x, hx, h8⟩
        rw [(key x).mp hx] at h8; omega
      · rw [if_neg c2]
        exact ⟨1, V, rfl, FrM.refl, Or.inl ⟨rfl, V m 15, (key _).mpr rfl, by omega, rfl⟩⟩
    rw [if_neg c1, M129 S hr 58 k e (by omega) (by omega), hf]
    simp only [wcx_v, wput_s, w140_19]
    have rs := fn_rng f 58 (show k ≤ e by omega)
    obtain ⟨s, hs⟩ : ∃ s, s = fn f 58 k e := ⟨_, rfl⟩
    rw [← hs] at rs ⊢
    -- the tail: behind the group
    have tail : ∀ (W : wSt) (c' : Int) (p7 p8 p9 : Option wV), FrM m [15, 16] [sr sh m 14] V W → W m 15 = c' → c' ≤ V m 15 + 2 → V m 15 < c' → (∀ c2, gT f e (la = 1) k (V m 15) c2 ↔ c2 = c') → ∃ y V', wev zP 140 141 [some (wR m), some (wI r), some (wI a), some (wI e), some (wI la), some (wI k), some (wI s), p7, p8, p9] [] (sh, W) = rI y (sh, V') ∧ FrM m [15, 16] [sr sh m 14] V V' ∧ ((y = 1 ∧ ∃ x, mGs f e (la = 1) k (V m 15) x ∧ x ≤ 8 ∧ V' m 15 = x) ∨ (y = 0 ∧ ¬ ∃ x, mGs f e (la = 1) k (V m 15) x ∧ x ≤ 8)) := by
      intro W c' p7 p8 p9 fr hW h1 h2 hg
      rw [w140_141, wr_eq (by omega) (by omega)]
      have stp : ∀ x, mGs f e (la = 1) k (V m 15) x ↔ (s ≠ e - 1 ∧ mGs f e (la = 1) (s + 1) c' x) := fun x => by
        rw [mGs_st, ← hs]
        constructor
        · rintro (⟨w, -⟩ | ⟨-, c2, g, w1, w2⟩)
          · omega
          · rw [(hg c2).mp g] at w2; exact ⟨w1, w2⟩
        · rintro ⟨w1, w2⟩
          exact Or.inr ⟨by omega, c', (hg c').mpr rfl, w1, w2⟩
      by_cases c3 : s = e - 1
      · rw [if_pos c3]
        refine ⟨0, W, rfl, fr, Or.inr ⟨rfl, ?_⟩⟩
        rintro ⟨x, hx, -⟩; exact ((stp x).mp hx).1 c3
      · rw [if_neg c3, wr_eq (by omega) (by omega)]
        obtain ⟨q1, q2⟩ := fr.rows M o14
        obtain ⟨y, V', e1, f1, r1⟩ := ih (e + 2 - (s + 1)).toNat (by omega) W (s + 1) (some (wI s)) p7 p8 p9 rfl (mSz_cg q2 S) (by rw [mx_cg q1 q2]; exact hf) (by omega) (by omega)
        rw [hW] at r1
        refine ⟨y, V', e1, fr.trans f1, ?_⟩
        rcases r1 with ⟨y1, x, x1, x2, x3⟩ | ⟨y0, r0⟩
        · exact Or.inl ⟨y1, x, (stp x).mpr ⟨c3, x1⟩, x2, x3⟩
        · refine Or.inr ⟨y0, ?_⟩
          rintro ⟨x, hx, h8⟩; exact r0 ⟨x, ((stp x).mp hx).2, h8⟩
    -- one group
    have one : ∀ (W : wSt) (p9 : Option wV), FrM m [15, 16] [sr sh m 14] V W → W m 15 = V m 15 → ¬ (la = 1 ∧ fn f 58 k e = e ∧ cF f k e) → ∃ y V', wev zP 140 75 [some (wR m), some (wI r), some (wI a), some (wI e), some (wI la), some (wI k), some (wI s), some (wI 0), some (wI k), p9] [] (sh, W) = rI y (sh, V') ∧ FrM m [15, 16] [sr sh m 14] V V' ∧ ((y = 1 ∧ ∃ x, mGs f e (la = 1) k (V m 15) x ∧ x ≤ 8 ∧ V' m 15 = x) ∨ (y = 0 ∧ ¬ ∃ x, mGs f e (la = 1) k (V m 15) x ∧ x ≤ 8)) := by
      intro W p9 fr hW hno
      obtain ⟨q1, q2⟩ := fr.rows M o14
      have SW := mSz_cg q2 S
      have fW : gl (mx sh W m r) = f := by rw [mx_cg q1 q2]; exact hf
      have hx := M140_75 SW hr a e la k s (by omega) (by omega) _ k 0 p9 rfl (Int.le_refl k) (by omega) (by omega) (by omega) (by omega) (by omega) (by omega) (by omega)
      rw [fW] at hx
      have pgi := pG_i f k s
      have none : ¬ pG f k s → ¬ ∃ x, mGs f e (la = 1) k (V m 15) x ∧ x ≤ 8 := by
        rintro hp ⟨x, hx, -⟩
        rcases mGs_st.mp hx with ⟨w, -⟩ | ⟨-, c2, g, -, -⟩
        · omega
        · rcases g with g | g
          · exact hno ⟨g.1, g.2.1, g.2.2.1⟩
          · rw [← hs] at g; exact hp g.1
      by_cases w : pA pHx f k s = 1 ∧ s - k ≤ 4
      · obtain ⟨v', i', o9', e1, -⟩ := hx.1 w
        rw [e1]
        by_cases c4 : s = k
        · rw [if_pos c4]
          exact ⟨0, W, rfl, fr, Or.inr ⟨rfl, none (fun z => by have := (pgi.mp z).1; omega)⟩⟩
        · rw [if_neg c4]
          obtain ⟨W2, e2, f2, v2, -⟩ := M141 (V := W) M v' (by omega)
          rw [e2]
          simp only [wcx_v, wput_n]
          have hp : pG f k s := pgi.mpr ⟨by omega, w.2, w.1⟩
          refine tail W2 (V m 15 + 1) _ _ _ (fr.trans (f2.mono (fun j hj => by rw [List.mem_singleton.mp hj]; decide) (fun j hj => hj))) (by omega) (by omega) (by omega) (fun c2 => ⟨fun g => ?_, fun g => Or.inr ⟨by rw [← hs]; exact hp, g⟩⟩)
          rcases g with g | g
          · exact absurd ⟨g.1, g.2.1, g.2.2.1⟩ hno
          · exact g.2
      · rw [hx.2 w]
        exact ⟨0, W, rfl, fr, Or.inr ⟨rfl, none (fun z => w ⟨(pgi.mp z).2.2, (pgi.mp z).2.1⟩)⟩⟩
    by_cases c2 : la = 0
    · rw [if_pos c2]; exact one V o9 FrM.refl rfl (fun w => by have := w.1; omega)
    rw [if_neg c2]
    by_cases c3 : s = e
    rotate_left
    · rw [if_neg c3]; exact one V o9 FrM.refl rfl (fun w => c3 (hs.trans w.2.1))
    rw [if_pos c3]
    obtain ⟨W, e1, f1, -⟩ := M139 M S hr k e he (by omega)
    rw [hf] at e1
    have fr1 : FrM m [15, 16] [sr sh m 14] V W := f1.mono (fun j hj => by rw [List.mem_singleton.mp hj]; decide) (fun j hj => absurd hj (List.not_mem_nil))
    have hW : W m 15 = V m 15 := f1.2 15 (by decide)
    rw [e1]
    simp only [wcx_v, wput_s, w140_40]
    rcases bI_r (cF f k e) with hb | hb
    · rw [hb, if_pos rfl]; exact one W o9 fr1 hW (fun w => bI_n.mp hb w.2.2)
    · rw [hb, if_neg (by decide)]
      have hcf := bI_i.mp hb
      obtain ⟨W2, e2, f2, v2, -⟩ := M141 (V := W) M (wush (W m 16) 16) (by omega)
      rw [e2]
      simp only [wcx_v, wput_n, w140_54]
      obtain ⟨W3, e3, f3, v3, -⟩ := M141 (V := W2) M (wand (W2 m 16) 65535) (by omega)
      rw [e3]
      simp only [wcx_v, wput_n, w140_65]
      have up : ∀ {X Y : wSt}, FrM m [15] [sr sh m 14] X Y → FrM m [15, 16] [sr sh m 14] X Y := fun g => g.mono (fun j hj => by rw [List.mem_singleton.mp hj]; decide) (fun j hj => hj)
      refine tail W3 (V m 15 + 2) _ _ _ ((fr1.trans (up f2)).trans (up f3)) (by omega) (by omega) (by omega) (fun c2' => ⟨fun g => gT_det (by omega) g (Or.inl ⟨by omega, hs.symm.trans c3, hcf, rfl⟩), fun g => Or.inl ⟨by omega, hs.symm.trans c3, hcf, g⟩⟩)
theorem M140 {sh : zSh} {V : wSt} {m : Nat} (M : wMd sh m) (S : mSz sh V m) {r : Int} (hr : 0 ≤ r ∧ r ≤ 13) (a e la : Int) (hla : la = 0 ∨ la = 1) (he : -1 ≤ e ∧ e ≤ 200000) (ha : 0 ≤ a ∧ a ≤ 200002) (hc : 0 ≤ V m 15 ∧ V m 15 ≤ 18) :
    ∃ y V', wcl zP 140 [wR m, wI r, wI a, wI e, wI la] (sh, V) = rI y (sh, V') ∧ FrM m [15, 16] [sr sh m 14] V V' ∧ ((y = 1 ∧ ∃ x, mGs (gl (mx sh V m r)) e (la = 1) a (V m 15) x ∧ x ≤ 8 ∧ V' m 15 = x) ∨ (y = 0 ∧ ¬ ∃ x, mGs (gl (mx sh V m r)) e (la = 1) a (V m 15) x ∧ x ≤ 8)) := by
  rw [w140_0]; exact M140_3 M hr a e la hla _ he _ V a none none none none rfl S rfl ha (by omega)
/-- the search for :: -/
theorem M142_8 {sh : zSh} {V : wSt} {m : Nat} (S : mSz sh V m) {r : Int} (hr : 0 ≤ r ∧ r ≤ 13) (a e : Int) (he : -1 ≤ e ∧ e ≤ 200000) : ∀ (n : Nat) (g : Int), (e - 1 - g).toNat = n → 0 ≤ g ∧ g ≤ 200002 → (∀ k, a ≤ k → k < g → ¬ isG (gl (mx sh V m r)) e k) → a ≤ g →
    (∃ g', a ≤ g' ∧ g' + 2 ≤ e ∧ isG (gl (mx sh V m r)) e g' ∧ (∀ k, a ≤ k → k < g' → ¬ isG (gl (mx sh V m r)) e k) ∧ wev zP 142 8 [some (wR m), some (wI r), some (wI a), some (wI e), some (wI g), none, none, none, none] [] (sh, V) = wcx (wcl zP 140 [wR m, wI r, wI a, wI g', wI 0] (sh, V)) (fun v h' => wev zP 142 91 [some (wR m), some (wI r), some (wI a), some (wI e), some (wI g'), none, none, none, none] (wput v []) h') wth) ∨
    (∃ g', (∀ k, a ≤ k → ¬ isG (gl (mx sh V m r)) e k) ∧ wev zP 142 8 [some (wR m), some (wI r), some (wI a), some (wI e), some (wI g), none, none, none, none] [] (sh, V) = wcx (wcl zP 140 [wR m, wI r, wI a, wI e, wI 1] (sh, V)) (fun v h' => wev zP 142 64 [some (wR m), some (wI r), some (wI a), some (wI e), some (wI g'), none, none, none, none] (wput v []) h') wth) := by
  have w1 : wr (e - 1) = e - 1 := wr_eq (by omega) (by omega)
  intro n
  induction n with
  | zero =>
    intro g hn hg hb hag
    refine Or.inr ⟨g, fun k hk hG => ?_, ?_⟩
    · by_cases c : k < g
      · exact hb k hk c hG
      · have := hG.1; omega
    · rw [w142_8, w1, if_pos (by omega), if_neg (by omega)]
  | succ n ih =>
    intro g hn hg hb hag
    have wg : wr (g + 1) = g + 1 := wr_eq (by omega) (by omega)
    have eq : wev zP 142 8 [some (wR m), some (wI r), some (wI a), some (wI e), some (wI g), none, none, none, none] [] (sh, V) = if gl (mx sh V m r) g = 58 then if gl (mx sh V m r) (g + 1) = 58 then wcx (wcl zP 140 [wR m, wI r, wI a, wI g, wI 0] (sh, V)) (fun v h' => wev zP 142 91 [some (wR m), some (wI r), some (wI a), some (wI e), some (wI g), none, none, none, none] (wput v []) h') wth else wev zP 142 8 [some (wR m), some (wI r), some (wI a), some (wI e), some (wI (g + 1)), none, none, none, none] [] (sh, V) else wev zP 142 8 [some (wR m), some (wI r), some (wI a), some (wI e), some (wI (g + 1)), none, none, none, none] [] (sh, V) := by
      rw [w142_8, w1, if_neg (by omega), M128 S hr]
      simp only [wcx_v, wput_s, w142_23]
      rw [wg, M128 S hr]
      simp only [wcx_v, wput_s, w142_37]
      rw [w1, wg]
      have g1 : g < e - 1 := by omega
      simp only [if_pos g1]
    have next : ¬ isG (gl (mx sh V m r)) e g → (∀ k, a ≤ k → k < g + 1 → ¬ isG (gl (mx sh V m r)) e k) := fun h k hk hlt => by
      by_cases c : k = g
      · rw [c]; exact h
      · exact hb k hk (by omega)
    by_cases c1 : gl (mx sh V m r) g = 58
    · by_cases c2 : gl (mx sh V m r) (g + 1) = 58
      · refine Or.inl ⟨g, hag, by omega, ⟨by omega, c1, c2⟩, hb, ?_⟩
        rw [eq, if_pos c1, if_pos c2]
      · rw [eq, if_pos c1, if_neg c2]
        exact ih (g + 1) (by omega) (by omega) (next (fun w => c2 w.2.2)) (by omega)
    · rw [eq, if_neg c1]
      exact ih (g + 1) (by omega) (by omega) (next (fun w => c1 w.2.1)) (by omega)
theorem M142_137 {sh : zSh} {m : Nat} (M : wMd sh m) (r a e g b q : Int) (hb : 0 ≤ b ∧ b ≤ 8) (hq : 0 ≤ q ∧ q ≤ 8) : ∀ (n : Nat) (V : wSt) (x : Int) (o8 : Option wV), (x + 1 - b).toNat = n → -1 ≤ x ∧ x ≤ 7 → ∃ V', wev zP 142 137 [some (wR m), some (wI r), some (wI a), some (wI e), some (wI g), some (wI b), some (wI q), some (wI x), o8] [] (sh, V) = rI 1 (sh, V') ∧ FrM m [] [sr sh m 14] V V' := by
  intro n
  induction n with
  | zero => intro V x o8 hn hx; rw [w142_137, if_pos (by omega)]; exact ⟨V, rfl, FrM.refl⟩
  | succ n ih =>
    intro V x o8 hn hx
    rw [w142_137, if_neg (by omega), wr_eq (x := 8 - q) (by omega) (by omega), wr_eq (x := x - (8 - q)) (by omega) (by omega)]
    have ne : sr sh m 14 ≠ m := M.1 14 (by decide)
    split
    all_goals
      rw [w142_178, wr_eq (by omega) (by omega)]
      obtain ⟨V', e1, f1⟩ := ih _ (x + -1) _ (by omega) (by omega)
      exact ⟨V', e1, FrM.trans (FrM_a (List.mem_cons_self) ne) f1⟩
theorem M142 {sh : zSh} {V : wSt} {m : Nat} (M : wMd sh m) (S : mSz sh V m) {r : Int} (hr : 0 ≤ r ∧ r ≤ 13) (a e : Int) (he : -1 ≤ e ∧ e ≤ 200000) (ha : 0 ≤ a ∧ a ≤ 200002) : ∃ V', wcl zP 142 [wR m, wI r, wI a, wI e] (sh, V) = rI (bI (mSix (gl (mx sh V m r)) a e)) (sh, V') ∧ FrM m [15, 16] [sr sh m 14] V V' := by
  have o14 := os14 M
  have fr0 : FrM m [15, 16] [sr sh m 14] V (uI V m 15 0) := FrM_f (List.mem_cons_self)
  obtain ⟨q1, q2⟩ := fr0.rows M o14
  have S0 := mSz_cg q2 S
  have t0 := mx_cg q1 q2 r
  have c0 : uI V m 15 0 m 15 = 0 := by unfold uI; rw [if_pos ⟨rfl, rfl⟩]
  obtain ⟨W, hW⟩ : ∃ W, W = uI V m 15 0 := ⟨_, rfl⟩
  rw [w142_0]
  rw [← hW] at fr0 q1 q2 S0 t0 c0 ⊢
  have find := M142_8 S0 hr a e he _ a rfl ha (fun k h1 h2 => by omega) (Int.le_refl a)
  rw [t0] at find
  obtain ⟨f, hf⟩ : ∃ f, f = gl (mx sh V m r) := ⟨_, rfl⟩
  rw [← hf] at find ⊢
  have fin : ∀ (p : Prop) (y : Int) (X : wSt), FrM m [15, 16] [sr sh m 14] V X → ((y = 1 ∧ p) ∨ (y = 0 ∧ ¬ p)) → ∃ V', rI y (sh, X) = rI (bI p) (sh, V') ∧ FrM m [15, 16] [sr sh m 14] V V' := by
    intro p y X fx h
    refine ⟨X, rI_cg ?_, fx⟩
    rcases h with ⟨h, hp⟩ | ⟨h, hp⟩
    · rw [h, bI_1 hp]
    · rw [h, bI_0 hp]
  rcases find with ⟨g, hg, hge, hG, hno, eq⟩ | ⟨g', hno, eq⟩
  · rw [eq]
    obtain ⟨y, X, e1, f1, r1⟩ := M140 M S0 hr a g 0 (Or.inl rfl) (by omega) ha (by omega)
    rw [t0, ← hf, c0] at r1
    rw [e1]
    simp only [wcx_v, wput_s, w142_91]
    have uniq : mSix f a e ↔ ∃ c1 x, mGs f g False a 0 c1 ∧ c1 ≤ 8 ∧ mGs f e True (g + 2) c1 x ∧ x ≤ 7 := by
      constructor
      · rintro (⟨w, -⟩ | ⟨g2, h1, h2, h3, h4⟩)
        · exact absurd hG (w g hg)
        · have : g2 = g := by
            rcases Int.lt_trichotomy g2 g with w | w | w
            · exact absurd h2 (hno g2 h1 w)
            · exact w
            · exact absurd hG (h3 g hg w)
          subst this; exact h4
      · intro h4; exact Or.inr ⟨g, hg, hG, hno, h4⟩
    rw [show ((0 : Int) = 1) = False from propext ⟨fun w => by omega, fun w => w.elim⟩] at r1
    rcases r1 with ⟨y1, c1, m1, c8, v1⟩ | ⟨y0, r0⟩
    · rw [y1, if_neg (by decide), wr_eq (by omega) (by omega)]
      obtain ⟨p1, p2⟩ := (fr0.trans f1).rows M o14
      have cm := mGs_mono m1
      obtain ⟨z, Y, e2, f2, r2⟩ := M140 M (mSz_cg p2 S) hr (g + 2) e 1 (Or.inr rfl) he (by omega) (by omega)
      rw [mx_cg p1 p2, ← hf, v1, show ((1 : Int) = 1) = True from propext ⟨fun _ => trivial, fun _ => rfl⟩] at r2
      rw [e2]
      simp only [wcx_v, wput_s, w142_113]
      rcases r2 with ⟨z1, x, m2, x8, v2⟩ | ⟨z0, r0⟩
      · rw [z1, if_neg (by decide)]
        by_cases c7 : Y m 15 ≤ 7
        · rw [if_pos c7]
          have xm := mGs_mono m2
          obtain ⟨Z, e3, f3⟩ := M142_137 M r a e g (X m 15) (Y m 15) (by omega) (by omega) _ Y 7 none rfl (by omega)
          rw [e3]
          exact fin _ 1 Z (((fr0.trans f1).trans f2).trans (f3.mono (fun j hj => absurd hj (List.not_mem_nil)) (fun j hj => hj))) (Or.inl ⟨rfl, uniq.mpr ⟨c1, x, m1, c8, m2, by omega⟩⟩)
        · rw [if_neg c7]
          refine fin _ 0 Y ((fr0.trans f1).trans f2) (Or.inr ⟨rfl, fun w => ?_⟩)
          obtain ⟨d1, x', n1, -, n2, n7⟩ := uniq.mp w
          have e4 := mGs_det _ _ _ _ _ (Nat.le_refl _) m1 n1
          subst e4
          have e5 := mGs_det _ _ _ _ _ (Nat.le_refl _) m2 n2
          omega
      · rw [z0, if_pos rfl]
        refine fin _ 0 Y ((fr0.trans f1).trans f2) (Or.inr ⟨rfl, fun w => ?_⟩)
        obtain ⟨d1, x', n1, -, n2, n7⟩ := uniq.mp w
        have e4 := mGs_det _ _ _ _ _ (Nat.le_refl _) m1 n1
        subst e4
        exact r0 ⟨x', n2, by omega⟩
    · rw [y0, if_pos rfl]
      refine fin _ 0 X (fr0.trans f1) (Or.inr ⟨rfl, fun w => ?_⟩)
      obtain ⟨d1, x', n1, n8, -, -⟩ := uniq.mp w
      exact r0 ⟨d1, n1, n8⟩
  · rw [eq]
    obtain ⟨y, X, e1, f1, r1⟩ := M140 M S0 hr a e 1 (Or.inr rfl) he ha (by omega)
    rw [t0, ← hf, c0, show ((1 : Int) = 1) = True from propext ⟨fun _ => trivial, fun _ => rfl⟩] at r1
    rw [e1]
    simp only [wcx_v, wput_s, w142_64]
    have uniq : mSix f a e ↔ mGs f e True a 0 8 := by
      constructor
      · rintro (⟨-, w⟩ | ⟨g2, h1, h2, -⟩)
        · exact w
        · exact absurd h2 (hno g2 h1)
      · intro h; exact Or.inl ⟨hno, h⟩
    rcases r1 with ⟨y1, x, m1, c8, v1⟩ | ⟨y0, r0⟩
    · rw [y1, if_neg (by decide)]
      by_cases c : X m 15 = 8
      · rw [if_pos c]; exact fin _ 1 X (fr0.trans f1) (Or.inl ⟨rfl, uniq.mpr (by rw [← c, v1]; exact m1)⟩)
      · rw [if_neg c]
        exact fin _ 0 X (fr0.trans f1) (Or.inr ⟨rfl, fun w => c (by rw [v1]; exact mGs_det _ _ _ _ _ (Nat.le_refl _) m1 (uniq.mp w))⟩)
    · rw [y0, if_pos rfl]
      exact fin _ 0 X (fr0.trans f1) (Or.inr ⟨rfl, fun w => r0 ⟨8, uniq.mp w, by decide⟩⟩)
/-- what a sign of a later host must be -/
def pM (f : Int → Int) (p k : Int) : Int := if k < p then pHx (f k) else pFu (f k)
theorem M143_59 {sh : zSh} {V : wSt} {m : Nat} (S : mSz sh V m) {r : Int} (hr : 0 ≤ r ∧ r ≤ 13) (a e p : Int) (he : e ≤ 200000) : ∀ (n : Nat) (k y : Int) (o7 : Option wV), (e - k).toNat = n → -1 ≤ k → (y = 0 ∨ y = 1) → wev zP 143 59 [some (wR m), some (wI r), some (wI a), some (wI e), some (wI p), some (wI y), some (wI k), o7] [] (sh, V) = rI (if y = 1 ∧ pA (pM (gl (mx sh V m r)) p) (fun k => k) k e = 1 then 1 else 0) (sh, V) := by
  intro n
  induction n with
  | zero =>
    intro k y o7 hn hk hy
    have st := (pA_st (pM (gl (mx sh V m r)) p) (fun k => k) k e).1 (by omega)
    rw [w143_59, if_pos (by omega), st]
    refine rI_cg ?_
    rcases hy with h | h
    · rw [if_neg (by omega)]; exact h
    · rw [if_pos ⟨h, rfl⟩]; exact h
  | succ n ih =>
    intro k y o7 hn hk hy
    have st := (pA_st (pM (gl (mx sh V m r)) p) (fun k => k) k e).2 (by omega)
    have wk : wr (k + 1) = k + 1 := wr_eq (by clear st; omega) (by clear st; omega)
    have ph := pHx_st (gl (mx sh V m r) k)
    have p1 := pHex_r (gl (mx sh V m r) k)
    have pf := pFu_st (gl (mx sh V m r) k)
    have f1 : pFree (gl (mx sh V m r) k) = 0 ∨ pFree (gl (mx sh V m r) k) = 1 := by unfold pFree; split <;> omega
    have f2 : pSub (gl (mx sh V m r) k) = 0 ∨ pSub (gl (mx sh V m r) k) = 1 := by unfold pSub; split <;> omega
    have kn : (e - (k + 1)).toNat = n ∧ -1 ≤ k + 1 ∧ ¬ e ≤ k := by clear st ph pf; omega
    have go : ∀ (z : Int) (o : Option wV), (z = 1 ∧ pM (gl (mx sh V m r)) p k = 1) ∨ (z = 0 ∧ pM (gl (mx sh V m r)) p k ≠ 1) → y = 1 → wev zP 143 59 [some (wR m), some (wI r), some (wI a), some (wI e), some (wI p), some (wI z), some (wI (k + 1)), o] [] (sh, V) = rI (if y = 1 ∧ pA (pM (gl (mx sh V m r)) p) (fun k => k) k e = 1 then 1 else 0) (sh, V) := by
      intro z o hz hy1
      rcases hz with ⟨h1, h2⟩ | ⟨h1, h2⟩
      · rw [ih (k + 1) z o kn.1 kn.2.1 (Or.inr h1), st.1 h2]
        refine rI_cg ?_
        rw [h1, hy1]
      · rw [ih (k + 1) z o kn.1 kn.2.1 (Or.inl h1), st.2 h2, if_neg (fun w => by have := w.1; rw [h1] at this; exact absurd this (by decide)), if_neg (fun w => absurd w.2 (by decide))]
    rw [w143_59, if_neg kn.2.2, M128 S hr]
    simp only [wcx_v, wput_s, w143_72, M123, M124, M125, w143_91, w143_102, w143_110]
    rw [wk]
    by_cases c0 : y = 0
    · rw [if_pos c0, ih (k + 1) 0 _ kn.1 kn.2.1 (Or.inl rfl), if_neg (fun w => absurd w.1 (by decide)), if_neg (fun w => by have := w.1; rw [c0] at this; exact absurd this (by decide))]
    have y1 : y = 1 := hy.elim (fun w => absurd w c0) id
    rw [if_neg c0]
    clear st ih
    by_cases c1 : p ≤ k
    · have pm : pM (gl (mx sh V m r)) p k = pFu (gl (mx sh V m r) k) := if_neg (by omega)
      rw [if_pos c1]
      by_cases d1 : pFree (gl (mx sh V m r) k) = 0
      · rw [if_pos d1]
        by_cases d2 : pSub (gl (mx sh V m r) k) = 0
        · rw [if_pos d2]
          by_cases d3 : gl (mx sh V m r) k = 58
          · rw [if_pos d3]; exact go 1 _ (Or.inl ⟨rfl, by rw [pm]; exact pf.1 (Or.inr (Or.inr d3))⟩) y1
          · rw [if_neg d3]; exact go 0 _ (Or.inr ⟨rfl, by rw [pm, pf.2 (by rw [d1]; decide) (by rw [d2]; decide) d3]; decide⟩) y1
        · rw [if_neg d2]; exact go 1 _ (Or.inl ⟨rfl, by rw [pm]; exact pf.1 (Or.inr (Or.inl (f2.elim (fun w => absurd w d2) id)))⟩) y1
      · rw [if_neg d1]; exact go 1 _ (Or.inl ⟨rfl, by rw [pm]; exact pf.1 (Or.inl (f1.elim (fun w => absurd w d1) id))⟩) y1
    · have pm : pM (gl (mx sh V m r)) p k = pHx (gl (mx sh V m r) k) := if_pos (by omega)
      rw [if_neg c1]
      by_cases d1 : pHex (gl (mx sh V m r) k) < 0
      · rw [if_pos d1]; exact go 0 _ (Or.inr ⟨rfl, by rw [pm, ph.2 d1]; decide⟩) y1
      · rw [if_neg d1]; exact go 1 _ (Or.inl ⟨rfl, by rw [pm]; exact ph.1 (by omega)⟩) y1
theorem M143 {sh : zSh} {V : wSt} {m : Nat} (S : mSz sh V m) {r : Int} (hr : 0 ≤ r ∧ r ≤ 13) (a e : Int) (he : -1 ≤ e ∧ e ≤ 200000) (ha : 0 ≤ a ∧ a ≤ 200000) : wcl zP 143 [wR m, wI r, wI a, wI e] (sh, V) = rI (bI (mFut (gl (mx sh V m r)) a e)) (sh, V) := by
  have fr : a ≤ fn (gl (mx sh V m r)) 46 a e ∧ fn (gl (mx sh V m r)) 46 a e ≤ 200000 := by
    by_cases w : a ≤ e
    · have := fn_rng (gl (mx sh V m r)) 46 w; omega
    · rw [fn_ge (by omega)]; omega
  obtain ⟨p, hp⟩ : ∃ p, p = fn (gl (mx sh V m r)) 46 a e := ⟨_, rfl⟩
  rw [w143_0, M129 S hr 46 a e (by omega) (by omega), ← hp]
  rw [← hp] at fr
  simp only [wcx_v, wput_s, w143_9, M128 S hr, w143_17, w143_28]
  rw [wr_eq (x := a + 2) (by omega) (by omega), wr_eq (x := e - 1) (by omega) (by omega), wr_eq (x := a + 1) (by omega) (by omega)]
  have tail : (gl (mx sh V m r) a = 118 ∨ gl (mx sh V m r) a = 86) → (if p < a + 2 then rI 0 (sh, V) else if p < e - 1 then wev zP 143 59 [some (wR m), some (wI r), some (wI a), some (wI e), some (wI p), some (wI 1), some (wI (a + 1)), none] [] (sh, V) else rI 0 (sh, V)) = rI (bI (mFut (gl (mx sh V m r)) a e)) (sh, V) := by
    intro hv
    by_cases c1 : p < a + 2
    · rw [if_pos c1, bI_0 (fun w => by have := w.1.2.1; omega)]
    rw [if_neg c1]
    by_cases c2 : p < e - 1
    · rw [if_pos c2, M143_59 S hr a e p (by omega) _ (a + 1) 1 none rfl (by omega) (Or.inr rfl)]
      refine rI_cg ?_
      have all := pA_all (p := pM (gl (mx sh V m r)) p) (f := fun k => k) _ (a + 1) e rfl
      by_cases w : pA (pM (gl (mx sh V m r)) p) (fun k => k) (a + 1) e = 1
      · rw [if_pos ⟨rfl, w⟩, bI_1]
        refine ⟨⟨hv, by omega, by omega⟩, fun k h1 h2 => ?_⟩
        have z : pM (gl (mx sh V m r)) p k = 1 := all.mp w k h1 h2
        rw [← hp]
        unfold pM at z
        by_cases d : k < p
        · rw [if_pos d] at z; exact Or.inl ⟨d, z⟩
        · rw [if_neg d] at z; exact Or.inr ⟨by omega, z⟩
      · rw [if_neg (fun z => w z.2), bI_0]
        rintro ⟨-, h⟩
        refine w (all.mpr (fun k h1 h2 => ?_))
        show pM (gl (mx sh V m r)) p k = 1
        have z := h k h1 h2
        rw [← hp] at z
        unfold pM
        rcases z with ⟨z1, z2⟩ | ⟨z1, z2⟩
        · rw [if_pos z1]; exact z2
        · rw [if_neg (by omega)]; exact z2
    · rw [if_neg c2, bI_0 (fun w => by have := w.1.2.2; omega)]
  by_cases c : gl (mx sh V m r) a = 118
  · rw [if_pos c]; exact tail (Or.inl c)
  · rw [if_neg c]
    by_cases d : gl (mx sh V m r) a = 86
    · rw [if_pos d]; exact tail (Or.inr d)
    · rw [if_neg d, bI_0 (fun w => w.1.1.elim c d)]
