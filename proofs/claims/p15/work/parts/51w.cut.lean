set_option maxRecDepth 16384
/-! the model cuts a row -/
theorem wMd.n {sh : zSh} {m : Nat} (h : wMd sh m) {i j : Nat} (hi : i ∈ zARw) (hj : j ∈ zARw) (e : i ≠ j) : sr sh m i ≠ sr sh m j := h.2 i hi j hj e
theorem mx_cg {sh : zSh} {V V' : wSt} {m : Nat} (h1 : V' (sr sh m 1) = V (sr sh m 1)) (h2 : V' (sr sh m 2) = V (sr sh m 2)) (r : Int) : mx sh V' m r = mx sh V m r := by unfold mx; rw [h1, h2]
theorem mSz_cg {sh : zSh} {V V' : wSt} {m : Nat} (h2 : V' (sr sh m 2) = V (sr sh m 2)) (S : mSz sh V m) : mSz sh V' m := by unfold mSz; rw [h2]; exact S
/-- only places of row r change -/
def FrB (sh : zSh) (m : Nat) (r : Int) (V V' : wSt) : Prop := FrO [sr sh m 3, sr sh m 4] V V' ∧ ∀ j : Nat, (j < 7 * r.toNat ∨ 7 * r.toNat + 7 ≤ j) → V' (sr sh m 3) j = V (sr sh m 3) j ∧ V' (sr sh m 4) j = V (sr sh m 4) j
theorem FrB.refl {sh : zSh} {m : Nat} {r : Int} {V : wSt} : FrB sh m r V V := ⟨FrO.refl, fun _ _ => ⟨rfl, rfl⟩⟩
theorem FrB.trans {sh : zSh} {m : Nat} {r : Int} {V V' W : wSt} (h : FrB sh m r V V') (g : FrB sh m r V' W) : FrB sh m r V W := ⟨h.1.trans g.1, fun j hj => ⟨(g.2 j hj).1.trans (h.2 j hj).1, (g.2 j hj).2.trans (h.2 j hj).2⟩⟩
theorem FrB.rows {sh : zSh} {m : Nat} {r : Int} {V V' : wSt} (h : FrB sh m r V V') (M : wMd sh m) : V' (sr sh m 1) = V (sr sh m 1) ∧ V' (sr sh m 2) = V (sr sh m 2) := by
  have k : ∀ i, i ∈ zARw → i ≠ 3 → i ≠ 4 → V' (sr sh m i) = V (sr sh m i) := fun i hi h3 h4 => h.1 _ (fun w => by
    rcases List.mem_cons.mp w with w | w
    · exact M.n hi (by decide) h3 w
    · exact M.n hi (by decide) h4 (List.mem_singleton.mp w))
  exact ⟨k 1 (by decide) (by decide) (by decide), k 2 (by decide) (by decide) (by decide)⟩
def mDD (sh : zSh) (V : wSt) (m : Nat) (r : Int) (f : Int → Int) (n : Int) (D : List Nat) : Prop := ∀ k : Nat, k < 7 → mB sh V m r k = (if k ∈ D then zB f n k else -1) ∧ mE sh V m r k = (if k ∈ D then zE f n k else -1)
theorem mset_fr {sh : zSh} {V : wSt} {m : Nat} {r : Int} {p : Nat} {x y : Int} (hp : p < 7) : FrB sh m r V (uI (uI V (sr sh m 3) (7 * r.toNat + p) x) (sr sh m 4) (7 * r.toNat + p) y) := by
  refine ⟨(uI_fr (List.mem_cons_self)).trans (uI_fr (List.mem_cons_of_mem _ (List.mem_cons_self))), fun j hj => ⟨?_, ?_⟩⟩
  · unfold uI; rw [if_neg (fun c => by have := c.2; omega), if_neg (fun c => by have := c.2; omega)]
  · unfold uI; rw [if_neg (fun c => by have := c.2; omega), if_neg (fun c => by have := c.2; omega)]
theorem mset_at {sh : zSh} {V : wSt} {m : Nat} (M : wMd sh m) {r : Int} {p : Nat} {x y : Int} (k : Nat) : mB sh (uI (uI V (sr sh m 3) (7 * r.toNat + p) x) (sr sh m 4) (7 * r.toNat + p) y) m r k = (if k = p then x else mB sh V m r k) ∧ mE sh (uI (uI V (sr sh m 3) (7 * r.toNat + p) x) (sr sh m 4) (7 * r.toNat + p) y) m r k = (if k = p then y else mE sh V m r k) := by
  have ne := M.n (i := 3) (j := 4) (by decide) (by decide) (by decide)
  constructor
  · unfold mB uI; rw [if_neg (fun c => ne c.1)]
    by_cases c : k = p
    · rw [if_pos ⟨rfl, by omega⟩, if_pos c]
    · rw [if_neg (fun z => c (by have := z.2; omega)), if_neg c]
  · unfold mE uI
    by_cases c : k = p
    · rw [if_pos ⟨rfl, by omega⟩, if_pos c]
    · rw [if_neg (fun z => c (by have := z.2; omega)), if_neg (fun z => c (by have := z.2; omega)), if_neg c]
theorem mDD_set {sh : zSh} {V : wSt} {m : Nat} (M : wMd sh m) {r : Int} {f : Int → Int} {n : Int} {D : List Nat} (g : mDD sh V m r f n D) (p : Nat) {x y : Int} (hx : x = zB f n p) (hy : y = zE f n p) : mDD sh (uI (uI V (sr sh m 3) (7 * r.toNat + p) x) (sr sh m 4) (7 * r.toNat + p) y) m r f n (p :: D) := by
  intro k hk
  obtain ⟨e1, e2⟩ := mset_at (V := V) M (r := r) (p := p) (x := x) (y := y) k
  rw [e1, e2, (g k hk).1, (g k hk).2]
  by_cases c : k = p
  · rw [if_pos c, if_pos c, if_pos (List.mem_cons.mpr (Or.inl c)), if_pos (List.mem_cons.mpr (Or.inl c)), c]; exact ⟨hx, hy⟩
  · rw [if_neg c, if_neg c]
    by_cases d : k ∈ D
    · rw [if_pos d, if_pos d, if_pos (List.mem_cons.mpr (Or.inr d)), if_pos (List.mem_cons.mpr (Or.inr d))]; exact ⟨rfl, rfl⟩
    · have z : ¬ k ∈ p :: D := fun w => (List.mem_cons.mp w).elim c d
      rw [if_neg d, if_neg d, if_neg z, if_neg z]; exact ⟨rfl, rfl⟩
theorem mDD_no {sh : zSh} {V : wSt} {m : Nat} {r : Int} {f : Int → Int} {n : Int} {D : List Nat} (g : mDD sh V m r f n D) (p : Nat) (hx : zB f n p = -1) (hy : zE f n p = -1) (hd : ¬ p ∈ D) : mDD sh V m r f n (p :: D) := by
  intro k hk
  rw [(g k hk).1, (g k hk).2]
  by_cases c : k = p
  · have d : ¬ k ∈ D := by rw [c]; exact hd
    have d2 : k ∈ p :: D := List.mem_cons.mpr (Or.inl c)
    rw [if_neg d, if_neg d, if_pos d2, if_pos d2, c, hx, hy]; exact ⟨rfl, rfl⟩
  · by_cases d : k ∈ D
    · rw [if_pos d, if_pos d, if_pos (List.mem_cons.mpr (Or.inr d)), if_pos (List.mem_cons.mpr (Or.inr d))]; exact ⟨rfl, rfl⟩
    · have z : ¬ k ∈ p :: D := fun w => (List.mem_cons.mp w).elim c d
      rw [if_neg d, if_neg d, if_neg z, if_neg z]; exact ⟨rfl, rfl⟩
/-- the colon, with what stands for none -/
theorem oc_def (f : Int → Int) (c : Int) : ∀ (m : Nat) (k e s c0 : Int), (e - k).toNat = m → 0 ≤ k → (oc f k e s c = if oc f k e s (-1) = -1 then c else oc f k e s (-1)) ∧ (c0 ≠ -1 → oc f k e s c0 ≠ -1) := by
  intro m
  induction m with
  | zero =>
    intro k e s c0 hm hk
    rw [(oc_st f k e s c).1 (by omega), (oc_st f k e s (-1)).1 (by omega), (oc_st f k e s c0).1 (by omega), if_pos rfl]
    exact ⟨rfl, id⟩
  | succ m ih =>
    intro k e s c0 hm hk
    have hlt : k < e := by omega
    have h1 : (e - (k + 1)).toNat = m := by omega
    have h0 : 0 ≤ k + 1 := by omega
    by_cases c1 : f k = 91
    · rw [((oc_st f k e s c).2 hlt).1 c1, ((oc_st f k e s (-1)).2 hlt).1 c1, ((oc_st f k e s c0).2 hlt).1 c1]; exact ih _ _ _ _ h1 h0
    by_cases c2 : f k = 93
    · rw [((oc_st f k e s c).2 hlt).2.1 c2, ((oc_st f k e s (-1)).2 hlt).2.1 c2, ((oc_st f k e s c0).2 hlt).2.1 c2]; exact ih _ _ _ _ h1 h0
    by_cases c3 : f k = 58
    · by_cases c4 : s = 0
      · rw [((oc_st f k e s c).2 hlt).2.2.1 c3 c4, ((oc_st f k e s (-1)).2 hlt).2.2.1 c3 c4, ((oc_st f k e s c0).2 hlt).2.2.1 c3 c4]
        have := (ih (k + 1) e s k h1 h0).2 (by omega)
        rw [if_neg this]; exact ⟨rfl, fun _ => this⟩
      · rw [((oc_st f k e s c).2 hlt).2.2.2 c1 c2 (Or.inr c4), ((oc_st f k e s (-1)).2 hlt).2.2.2 c1 c2 (Or.inr c4), ((oc_st f k e s c0).2 hlt).2.2.2 c1 c2 (Or.inr c4)]; exact ih _ _ _ _ h1 h0
    · rw [((oc_st f k e s c).2 hlt).2.2.2 c1 c2 (Or.inl c3), ((oc_st f k e s (-1)).2 hlt).2.2.2 c1 c2 (Or.inl c3), ((oc_st f k e s c0).2 hlt).2.2.2 c1 c2 (Or.inl c3)]; exact ih _ _ _ _ h1 h0
theorem M137_6 {sh : zSh} {V : wSt} {m : Nat} (S : mSz sh V m) {r : Int} (hr : 0 ≤ r ∧ r ≤ 13) (a e : Int) (ha : 0 ≤ a) (he : e ≤ 200000) : ∀ (n : Nat) (k : Int), (e - k).toNat = n → a ≤ k → k ≤ e → wev zP 137 6 [some (wR m), some (wI r), some (wI a), some (wI e), some (wI (if fli (gl (mx sh V m r)) 64 a (k - 1) = -1 then a else fli (gl (mx sh V m r)) 64 a (k - 1) + 1)), some (wI k), none, none, none] [] (sh, V) = wev zP 137 6 [some (wR m), some (wI r), some (wI a), some (wI e), some (wI (pB (gl (mx sh V m r)) a e)), some (wI e), none, none, none] [] (sh, V) := by
  intro n
  induction n with
  | zero =>
    intro k hn hk hke
    have : k = e := by omega
    rw [this]; rfl
  | succ n ih =>
    intro k hn hk hke
    rw [← ih (k + 1) (by omega) (by omega) (by omega), w137_6, if_neg (by omega), M128 S hr]
    simp only [wcx_v, wput_s, w137_19, w137_33]
    have st := (fli_st (gl (mx sh V m r)) 64 a k).2 hk
    rw [wr_eq (x := k + 1) (by omega) (by omega), show k + 1 - 1 = k by omega]
    by_cases c : gl (mx sh V m r) k = 64
    · rw [if_pos c, st.1 c, if_neg (by omega)]
    · rw [if_neg c, st.2 c]; rfl
theorem M137_68 {sh : zSh} {V : wSt} {m : Nat} (S : mSz sh V m) {r : Int} (hr : 0 ≤ r ∧ r ≤ 13) (a e b : Int) (he : e ≤ 200000) : ∀ (n : Nat) (k c s : Int) (o8 : Option wV), (e - k).toNat = n → 0 ≤ k → k ≤ e → ∃ s' o8', wev zP 137 68 [some (wR m), some (wI r), some (wI a), some (wI e), some (wI b), some (wI c), some (wI s), some (wI k), o8] [] (sh, V) = wev zP 137 68 [some (wR m), some (wI r), some (wI a), some (wI e), some (wI b), some (wI (oc (gl (mx sh V m r)) k e s c)), some (wI s'), some (wI e), o8'] [] (sh, V) := by
  intro n
  induction n with
  | zero =>
    intro k c s o8 hn hk hke
    rw [(oc_st (gl (mx sh V m r)) k e s c).1 (by omega), show k = e by omega]
    exact ⟨s, o8, rfl⟩
  | succ n ih =>
    intro k c s o8 hn hk hke
    obtain ⟨s1, s2, s3, s4⟩ := (oc_st (gl (mx sh V m r)) k e s c).2 (by omega)
    have go : ∀ (c' s' : Int), oc (gl (mx sh V m r)) k e s c = oc (gl (mx sh V m r)) (k + 1) e s' c' → ∃ s'' o8', wev zP 137 68 [some (wR m), some (wI r), some (wI a), some (wI e), some (wI b), some (wI c'), some (wI s'), some (wI (k + 1)), some (wI (gl (mx sh V m r) k))] [] (sh, V) = wev zP 137 68 [some (wR m), some (wI r), some (wI a), some (wI e), some (wI b), some (wI (oc (gl (mx sh V m r)) k e s c)), some (wI s''), some (wI e), o8'] [] (sh, V) := by
      intro c' s' h
      obtain ⟨s'', o8', e1⟩ := ih (k + 1) c' s' (some (wI (gl (mx sh V m r) k))) (by omega) (by omega) (by omega)
      rw [h]; exact ⟨s'', o8', e1⟩
    rw [w137_68, if_neg (by omega), M128 S hr]
    simp only [wcx_v, wput_s, w137_81, w137_107, w137_126, w137_128]
    rw [wr_eq (x := k + 1) (by omega) (by omega)]
    by_cases c1 : gl (mx sh V m r) k = 91
    · rw [if_pos c1, if_neg (by omega)]; exact go _ _ (s1 c1)
    rw [if_neg c1]
    by_cases c2 : gl (mx sh V m r) k = 93
    · rw [if_pos c2, if_neg (by omega)]; exact go _ _ (s2 c2)
    rw [if_neg c2]
    by_cases c3 : gl (mx sh V m r) k = 58
    · rw [if_pos c3]
      by_cases c4 : s = 0
      · rw [if_pos c4]; exact go _ _ (s3 c3 c4)
      · rw [if_neg c4]; exact go _ _ (s4 c1 c2 (Or.inr c4))
    · rw [if_neg c3]; exact go _ _ (s4 c1 c2 (Or.inl c3))
theorem M137 {sh : zSh} {V : wSt} {m : Nat} (M : wMd sh m) (S : mSz sh V m) {r : Int} (hr : 0 ≤ r ∧ r ≤ 13) (n a e : Int) (ha : 0 ≤ a ∧ a ≤ e) (he : e ≤ 200000) (h1 : kO (gl (mx sh V m r)) n = 1) (h2 : a = kP (gl (mx sh V m r)) n + 2) (h3 : e = kA (gl (mx sh V m r)) n) (D : List Nat) (g : mDD sh V m r (gl (mx sh V m r)) n D) (hD : ¬ 1 ∈ D ∧ ¬ 2 ∈ D ∧ ¬ 3 ∈ D) :
    ∃ V', wcl zP 137 [wR m, wI r, wI a, wI e] (sh, V) = rN (sh, V') ∧ FrB sh m r V V' ∧ mDD sh V' m r (gl (mx sh V m r)) n (3 :: 2 :: 1 :: D) := by
  obtain ⟨z1, z1e, z2, z2e, z3, z3e, -⟩ := (zBEa (gl (mx sh V m r)) n).2.1 h1
  rw [← h2, ← h3] at z1 z1e z2 z2e z3 z3e
  clear h1 h2 h3
  have fr := fli_r (gl (mx sh V m r)) 64 a _ (e - 1) rfl
  have s1 := aS1_st (gl (mx sh V m r)) a e
  have i0 : (if fli (gl (mx sh V m r)) 64 a (a - 1) = -1 then a else fli (gl (mx sh V m r)) 64 a (a - 1) + 1) = a := by
    rw [(fli_st (gl (mx sh V m r)) 64 a (a - 1)).1 (by omega), if_pos rfl]
  have l1 := M137_6 S hr a e ha.1 he _ a rfl (Int.le_refl a) ha.2
  rw [i0] at l1
  have wa : wr (pB (gl (mx sh V m r)) a e - 1) = pB (gl (mx sh V m r)) a e - 1 := by
    refine wr_eq ?_ ?_
    · by_cases c : fli (gl (mx sh V m r)) 64 a (e - 1) = -1
      · rw [(s1.1 c).2]; clear s1 l1; omega
      · rw [(s1.2 c).2]; clear s1 l1; omega
    · by_cases c : fli (gl (mx sh V m r)) 64 a (e - 1) = -1
      · rw [(s1.1 c).2]; clear s1 l1; omega
      · rw [(s1.2 c).2]; clear s1 l1; omega
  rw [w137_0, l1, w137_6, if_pos (Int.le_refl e), wa]
  clear l1 i0
  -- the user
  have st1 : ∃ V1, (if pB (gl (mx sh V m r)) a e ≤ a then wev zP 137 58 [some (wR m), some (wI r), some (wI a), some (wI e), some (wI (pB (gl (mx sh V m r)) a e)), some (wI e), none, none, none] [] (sh, V) else wcx (wcl zP 133 [wR m, wI r, wI 1, wI a, wI (pB (gl (mx sh V m r)) a e - 1)] (sh, V)) (fun v h' => wev zP 137 58 [some (wR m), some (wI r), some (wI a), some (wI e), some (wI (pB (gl (mx sh V m r)) a e)), some (wI e), none, none, none] (wput v []) h') wth) = wev zP 137 58 [some (wR m), some (wI r), some (wI a), some (wI e), some (wI (pB (gl (mx sh V m r)) a e)), some (wI e), none, none, none] [] (sh, V1) ∧ FrB sh m r V V1 ∧ mDD sh V1 m r (gl (mx sh V m r)) n (1 :: D) := by
    by_cases c : fli (gl (mx sh V m r)) 64 a (e - 1) = -1
    · have b := s1.1 c
      rw [if_pos (by rw [b.2]; exact Int.le_refl a)]
      exact ⟨V, rfl, FrB.refl, mDD_no g 1 (z1.trans b.1) (z1e.trans c) hD.1⟩
    · have b := s1.2 c
      rw [if_neg (by rw [b.2]; clear s1 b; omega), M133 hr (by decide)]
      exact ⟨_, rfl, mset_fr (by decide), mDD_set M g 1 (b.1.symm.trans z1.symm) (by rw [b.2, z1e]; omega)⟩
  obtain ⟨V1, e1, f1, g1⟩ := st1
  obtain ⟨k1, k2⟩ := f1.rows M
  have S1 := mSz_cg k2 S
  have hb : a ≤ pB (gl (mx sh V m r)) a e ∧ pB (gl (mx sh V m r)) a e ≤ e := by
    by_cases c : fli (gl (mx sh V m r)) 64 a (e - 1) = -1
    · rw [(s1.1 c).2]; clear s1; omega
    · rw [(s1.2 c).2]; clear s1; omega
  clear s1 wa
  obtain ⟨s', o8', l2⟩ := M137_68 S1 hr a e (pB (gl (mx sh V m r)) a e) he _ (pB (gl (mx sh V m r)) a e) e 0 none rfl (by omega) hb.2
  rw [mx_cg k1 k2] at l2
  rw [e1, w137_58, l2, w137_68, if_pos (Int.le_refl e)]
  have od := (oc_def (gl (mx sh V m r)) e _ (pB (gl (mx sh V m r)) a e) e 0 0 rfl (by omega)).1
  have kr := oc_r (gl (mx sh V m r)) (pB (gl (mx sh V m r)) a e) _ (pB (gl (mx sh V m r)) a e) e 0 (-1) rfl (by omega) (Or.inl rfl)
  have od : oc (gl (mx sh V m r)) (pB (gl (mx sh V m r)) a e) e 0 e = if pK (gl (mx sh V m r)) a e = -1 then e else pK (gl (mx sh V m r)) a e := od
  have kr : pK (gl (mx sh V m r)) a e = -1 ∨ (pB (gl (mx sh V m r)) a e ≤ pK (gl (mx sh V m r)) a e ∧ pK (gl (mx sh V m r)) a e < e) := kr
  have ak := aK_st (gl (mx sh V m r)) a e
  rw [od, M133 hr (by decide)]
  simp only [wcx_v, wput_n, w137_146]
  clear od l2 e1
  by_cases c : pK (gl (mx sh V m r)) a e = -1
  · obtain ⟨y1, y2, y3⟩ := ak.1 c
    rw [if_pos c, if_pos (Int.le_refl e), w137_163]
    exact ⟨_, rfl, f1.trans (mset_fr (by decide)), mDD_no (mDD_set M g1 2 z2.symm (y1.symm.trans z2e.symm)) 3 (z3.trans y2) (z3e.trans y3) (fun w => by
      rcases List.mem_cons.mp w with w | w
      · cases w
      · rcases List.mem_cons.mp w with w | w
        · cases w
        · exact hD.2.2 w)⟩
  · obtain ⟨y1, y2, y3⟩ := ak.2 c
    have kl : pK (gl (mx sh V m r)) a e < e ∧ 0 ≤ pK (gl (mx sh V m r)) a e := by clear ak y1 y2 y3; omega
    rw [if_neg c, if_neg (by clear ak y1 y2 y3; omega), wr_eq (by clear ak y1 y2 y3; omega) (by clear ak y1 y2 y3; omega), M133 hr (by decide)]
    simp only [wcx_v, wput_n, w137_163]
    exact ⟨_, rfl, (f1.trans (mset_fr (by decide))).trans (mset_fr (by decide)), mDD_set M (mDD_set M g1 2 z2.symm (y1.symm.trans z2e.symm)) 3 (y2.symm.trans z3.symm) (y3.symm.trans z3e.symm)⟩
theorem M138_2 {sh : zSh} {m : Nat} (M : wMd sh m) {r : Int} (hr : 0 ≤ r ∧ r ≤ 13) (f : Int → Int) (n : Int) : ∀ (q : Nat) (V : wSt) (x : Int), (7 - x).toNat = q → 0 ≤ x → (∀ k : Nat, (k : Int) < x → k < 7 → mB sh V m r k = -1 ∧ mE sh V m r k = -1) → ∃ V' x', wev zP 138 2 [some (wR m), some (wI r), some (wI x), none, none, none, none] [] (sh, V) = wcx (wcl zP 129 [wR m, wI r, wI 35, wI 0, wI (V' (sr sh m 2) (Int.toNat r))] (sh, V')) (fun v h' => wev zP 138 36 [some (wR m), some (wI r), some (wI x'), none, none, none, none] (wput v []) h') wth ∧ FrB sh m r V V' ∧ mDD sh V' m r f n [] := by
  intro q
  induction q with
  | zero =>
    intro V x hq hx hv
    refine ⟨V, x, ?_, FrB.refl, fun k hk => ?_⟩
    · rw [w138_2, if_pos (by omega)]
    · have := hv k (by omega) hk
      rw [if_neg (List.not_mem_nil), if_neg (List.not_mem_nil)]; exact this
  | succ q ih =>
    intro V x hq hx hv
    have xt : x.toNat < 7 := by omega
    obtain ⟨V', x', e1, f1, g1⟩ := ih (uI (uI V (sr sh m 3) (7 * r.toNat + x.toNat) (-1)) (sr sh m 4) (7 * r.toNat + x.toNat) (-1)) (x + 1) (by omega) (by omega) (fun k hk hk7 => by
      obtain ⟨a1, a2⟩ := mset_at (V := V) M (r := r) (p := x.toNat) (x := -1) (y := -1) k
      rw [a1, a2]
      by_cases c : k = x.toNat
      · rw [if_pos c, if_pos c]; exact ⟨rfl, rfl⟩
      · rw [if_neg c, if_neg c]; exact hv k (by omega) hk7)
    refine ⟨V', x', ?_, (mset_fr xt).trans f1, g1⟩
    rw [w138_2, if_neg (by omega), M133 hr (by omega)]
    simp only [wcx_v, wput_n, w138_16]
    rw [wr_eq (by omega) (by omega), e1]
theorem fn_cfn {f : Int → Int} {b a e : Int} (h : a ≤ e) : fn f b a e = cfn f b a e := (if_pos h).symm
theorem M138 {sh : zSh} {V : wSt} {m : Nat} (M : wMd sh m) (S : mSz sh V m) {r : Int} (hr : 0 ≤ r ∧ r ≤ 13) : ∃ V', wcl zP 138 [wR m, wI r] (sh, V) = rN (sh, V') ∧ FrB sh m r V V' ∧ ∀ k : Nat, k < 7 → mB sh V' m r k = zB (gl (mx sh V m r)) (V (sr sh m 2) r.toNat) k ∧ mE sh V' m r k = zE (gl (mx sh V m r)) (V (sr sh m 2) r.toNat) k := by
  have z := S r.toNat (by omega)
  obtain ⟨f, hf⟩ : ∃ f, f = gl (mx sh V m r) := ⟨_, rfl⟩
  obtain ⟨n, hn⟩ : ∃ n, n = V (sr sh m 2) r.toNat := ⟨_, rfl⟩
  rw [← hf, ← hn]
  obtain ⟨V1, x1, e1, f1, g1⟩ := M138_2 M hr f n _ V 0 rfl (by omega) (fun k hk _ => by omega)
  obtain ⟨a1, a2⟩ := f1.rows M
  have S1 := mSz_cg a2 S
  have zn : 0 ≤ n ∧ n ≤ 21000 := by omega
  clear z
  have rH : 0 ≤ kH f n ∧ kH f n ≤ n := (cfn_r f 35 0 n).1 zn.1
  have rQ : 0 ≤ kQ f n ∧ kQ f n ≤ kH f n := (cfn_r f 63 0 (kH f n)).1 rH.1
  have rS : 0 ≤ kS f n ∧ kS f n ≤ kQ f n := (cfn_r f 47 0 (kQ f n)).1 rQ.1
  have rC : 0 ≤ kC f n ∧ kC f n ≤ kS f n := (cfn_r f 58 0 (kS f n)).1 rS.1
  have eH : fn f 35 0 n = kH f n := fn_cfn zn.1
  have eQ : fn f 63 0 (kH f n) = kQ f n := fn_cfn rH.1
  have eS : fn f 47 0 (kQ f n) = kS f n := fn_cfn rQ.1
  have eC : fn f 58 0 (kS f n) = kC f n := fn_cfn rS.1
  rw [w138_0, e1, a2, ← hn, M129 S1 hr 35 0 n (by omega) (by omega), mx_cg a1 a2, ← hf, eH]
  simp only [wcx_v, wput_s, w138_36]
  rw [a2, ← hn]
  -- the fragment
  have st : ∃ V2, (if n ≤ kH f n then wev zP 138 63 [some (wR m), some (wI r), some (wI (kH f n)), none, none, none, none] [] (sh, V1) else wcx (wcl zP 133 [wR m, wI r, wI 6, wI (wr (kH f n + 1)), wI n] (sh, V1)) (fun v h' => wev zP 138 63 [some (wR m), some (wI r), some (wI (kH f n)), none, none, none, none] (wput v []) h') wth) = wev zP 138 63 [some (wR m), some (wI r), some (wI (kH f n)), none, none, none, none] [] (sh, V2) ∧ FrB sh m r V1 V2 ∧ mDD sh V2 m r f n [6] := by
    have b6 := zBE6 f n
    by_cases c : n ≤ kH f n
    · rw [if_pos c]; exact ⟨V1, rfl, FrB.refl, mDD_no g1 6 (b6.2 c).1 (b6.2 c).2 (List.not_mem_nil)⟩
    · have b := b6.1 (by clear b6; omega)
      rw [if_neg c, wr_eq (x := kH f n + 1) (by clear b6 b; omega) (by clear b6 b; omega), M133 hr (by decide)]
      exact ⟨_, rfl, mset_fr (by decide), mDD_set M g1 6 b.1.symm b.2.symm⟩
  obtain ⟨V2, e2, f2, g2⟩ := st
  obtain ⟨b1, b2⟩ := (f1.trans f2).rows M
  rw [e2, w138_63, M129 (mSz_cg b2 S) hr 63 0 (kH f n) (by omega) (by omega), mx_cg b1 b2, ← hf, eQ]
  simp only [wcx_v, wput_s, w138_72]
  clear e1 e2
  -- the query
  have st : ∃ V3, (if kH f n ≤ kQ f n then wev zP 138 88 [some (wR m), some (wI r), some (wI (kH f n)), some (wI (kQ f n)), none, none, none] [] (sh, V2) else wcx (wcl zP 133 [wR m, wI r, wI 5, wI (wr (kQ f n + 1)), wI (kH f n)] (sh, V2)) (fun v h' => wev zP 138 88 [some (wR m), some (wI r), some (wI (kH f n)), some (wI (kQ f n)), none, none, none] (wput v []) h') wth) = wev zP 138 88 [some (wR m), some (wI r), some (wI (kH f n)), some (wI (kQ f n)), none, none, none] [] (sh, V3) ∧ FrB sh m r V2 V3 ∧ mDD sh V3 m r f n [5, 6] := by
    have b5 := zBE5 f n
    by_cases c : kH f n ≤ kQ f n
    · rw [if_pos c]; exact ⟨V2, rfl, FrB.refl, mDD_no g2 5 (b5.2 c).1 (b5.2 c).2 (by decide)⟩
    · have b := b5.1 (by clear b5; omega)
      rw [if_neg c, wr_eq (x := kQ f n + 1) (by clear b5 b; omega) (by clear b5 b; omega), M133 hr (by decide)]
      exact ⟨_, rfl, mset_fr (by decide), mDD_set M g2 5 b.1.symm b.2.symm⟩
  obtain ⟨V3, e3, f3, g3⟩ := st
  obtain ⟨c1, c2⟩ := ((f1.trans f2).trans f3).rows M
  rw [e3, w138_88, M129 (mSz_cg c2 S) hr 47 0 (kQ f n) (by omega) (by omega), mx_cg c1 c2, ← hf, eS]
  simp only [wcx_v, wput_s, w138_99]
  rw [M129 (mSz_cg c2 S) hr 58 0 _ (by omega) (by omega), mx_cg c1 c2, ← hf, eC]
  simp only [wcx_v, wput_s, w138_111]
  clear e3
  -- the scheme
  have kp := kP_st f n
  have rP : 0 ≤ kP f n ∧ kP f n ≤ kQ f n + 1 := by
    by_cases c : kC f n < kS f n
    · rw [kp.1 c]; clear kp; omega
    · rw [kp.2 (by clear kp; omega)]; clear kp; omega
  have p2 : wr (kP f n + 2) = kP f n + 2 := wr_eq (by clear kp; omega) (by clear kp; omega)
  have p1 : wr (kP f n + 1) = kP f n + 1 := wr_eq (by clear kp; omega) (by clear kp; omega)
  have st : ∃ V4, (if kS f n ≤ kC f n then wev zP 138 138 [some (wR m), some (wI r), some (wI (kQ f n)), some (wI (kQ f n)), some (wI (kS f n)), some (wI 0), none] [] (sh, V3) else wcx (wcl zP 133 [wR m, wI r, wI 0, wI 0, wI (kC f n)] (sh, V3)) (fun v h' => wev zP 138 129 [some (wR m), some (wI r), some (wI (kQ f n)), some (wI (kQ f n)), some (wI (kS f n)), some (wI (kC f n)), none] (wput v []) h') wth) = wev zP 138 138 [some (wR m), some (wI r), some (wI (kQ f n)), some (wI (kQ f n)), some (wI (kS f n)), some (wI (kP f n)), none] [] (sh, V4) ∧ FrB sh m r V3 V4 ∧ mDD sh V4 m r f n [0, 5, 6] := by
    have b0 := zBE0 f n
    by_cases c : kS f n ≤ kC f n
    · have e := kp.2 c
      refine ⟨V3, ?_, FrB.refl, mDD_no g3 0 (b0.2 c).1 (b0.2 c).2 (by decide)⟩
      rw [if_pos c, e]
    · have e := kp.1 (by clear kp b0; omega)
      have b := b0.1 (by clear kp b0; omega)
      refine ⟨_, ?_, mset_fr (p := 0) (by decide), mDD_set M g3 0 b.1.symm b.2.symm⟩
      rw [if_neg c, M133 hr (by decide)]
      simp only [wcx_v, wput_n, w138_129]
      rw [wr_eq (x := kC f n + 1) (by clear kp b0 b e; omega) (by clear kp b0 b e; omega), ← e]; rfl
  obtain ⟨V4, e4, f4, g4⟩ := st
  obtain ⟨d1, d2⟩ := (((f1.trans f2).trans f3).trans f4).rows M
  have S4 := mSz_cg d2 S
  rw [e4, w138_138, p1]
  clear e4 kp
  -- the authority
  have ko := kO_st f n
  have za := zBEa f n
  have fin : ∀ (V5 : wSt) (o : Option wV) (D : List Nat), FrB sh m r V4 V5 → mDD sh V5 m r f n D → (∀ k : Nat, k < 7 → k ≠ 4 → k ∈ D) → ∃ V', wev zP 138 201 [some (wR m), some (wI r), some (wI (kQ f n)), some (wI (kQ f n)), some (wI (kS f n)), some (wI (zB f n 4)), o] [] (sh, V5) = rN (sh, V') ∧ FrB sh m r V V' ∧ ∀ k : Nat, k < 7 → mB sh V' m r k = zB f n k ∧ mE sh V' m r k = zE f n k := by
    intro V5 o D f5 g5 hD
    rw [w138_201, M133 hr (by decide)]
    simp only [wcx_v, wput_n, w138_210]
    have g6 := mDD_set M g5 4 (x := zB f n 4) (y := kQ f n) rfl za.1.symm
    refine ⟨_, rfl, ((((f1.trans f2).trans f3).trans f4).trans f5).trans (mset_fr (p := 4) (by decide)), fun k hk => ?_⟩
    have hm : k ∈ 4 :: D := by
      by_cases c : k = 4
      · exact List.mem_cons.mpr (Or.inl c)
      · exact List.mem_cons.mpr (Or.inr (hD k hk c))
    have := g6 k hk
    rw [if_pos hm, if_pos hm] at this
    exact this
  have noA : kO f n = 0 → ∃ V', wev zP 138 201 [some (wR m), some (wI r), some (wI (kQ f n)), some (wI (kQ f n)), some (wI (kS f n)), some (wI (kP f n)), none] [] (sh, V4) = rN (sh, V') ∧ FrB sh m r V V' ∧ ∀ k : Nat, k < 7 → mB sh V' m r k = zB f n k ∧ mE sh V' m r k = zE f n k := by
    intro hk
    obtain ⟨y1, y2, y3, y4, y5, y6, y7⟩ := za.2.2 hk
    rw [← y7]
    refine fin V4 none [3, 2, 1, 0, 5, 6] FrB.refl (mDD_no (mDD_no (mDD_no g4 1 y1 y2 (by decide)) 2 y3 y4 (by decide)) 3 y5 y6 (by decide)) ?_
    have key : ∀ k : Fin 7, k.val ≠ 4 → k.val ∈ [3, 2, 1, 0, 5, 6] := by decide
    exact fun k hk h4 => key ⟨k, hk⟩ h4
  by_cases c : kQ f n ≤ kP f n + 1
  · rw [if_pos c]; exact noA (ko.2 (Or.inl (by clear ko za; omega)))
  rw [if_neg c, M128 S4 hr, mx_cg d1 d2, ← hf]
  simp only [wcx_v, wput_s, w138_153]
  by_cases c1 : f (kP f n) = 47
  rotate_left
  · rw [if_neg c1]; exact noA (ko.2 (Or.inr (Or.inl c1)))
  rw [if_pos c1, p1, M128 S4 hr, mx_cg d1 d2, ← hf]
  simp only [wcx_v, wput_s, w138_167]
  by_cases c2 : f (kP f n + 1) = 47
  rotate_left
  · rw [if_neg c2]; exact noA (ko.2 (Or.inr (Or.inr c2)))
  have k1 := ko.1 (by clear ko za; omega) c1 c2
  have rA : kP f n + 2 ≤ kA f n ∧ kA f n ≤ kQ f n := (cfn_r f 47 (kP f n + 2) (kQ f n)).1 (by clear ko za; omega)
  have eA : fn f 47 (kP f n + 2) (kQ f n) = kA f n := fn_cfn (by clear ko za; omega)
  rw [if_pos c2, p2, M129 S4 hr 47 _ _ (by clear ko za; omega) (by clear ko za; omega), mx_cg d1 d2, ← hf, eA]
  simp only [wcx_v, wput_s, w138_184]
  rw [p2]
  have e5 := M137 M S4 hr n (kP f n + 2) (kA f n) (by clear ko za; omega) (by clear ko za; omega) (by rw [mx_cg d1 d2, ← hf]; exact k1) (by rw [mx_cg d1 d2, ← hf]) (by rw [mx_cg d1 d2, ← hf]) [0, 5, 6] (by rw [mx_cg d1 d2, ← hf]; exact g4) (by decide)
  rw [mx_cg d1 d2, ← hf] at e5
  obtain ⟨V5, e5, f5, g5⟩ := e5
  rw [e5]
  simp only [wcx_v, wput_n, w138_197]
  have y7 := (za.2.1 k1).2.2.2.2.2.2
  have e6 := fin V5 (some (wI (kA f n))) [3, 2, 1, 0, 5, 6] f5 g5 (by
    have key : ∀ k : Fin 7, k.val ≠ 4 → k.val ∈ [3, 2, 1, 0, 5, 6] := by decide
    exact fun k hk h4 => key ⟨k, hk⟩ h4)
  rw [y7] at e6
  exact e6
