set_option maxRecDepth 16384
/-! the places of the parts -/
def wRd (sh : zSh) (r : Nat) : Prop := sk sh r = (12, 4) ∧ sk sh (sr sh r 0) = (2, 7) ∧ sk sh (sr sh r 1) = (2, 7) ∧ sr sh r 0 ≠ sr sh r 1
theorem wRd.nr {sh : zSh} {r : Nat} (h : wRd sh r) : nRw sh [sr sh r 0, sr sh r 1] := nRw_s (by rw [h.2.1]; decide) (nRw_s (by rw [h.2.2.1]; decide) (nRw_0 sh))
theorem wRd.nt {sh : zSh} {r : Nat} (h : wRd sh r) : nRw sh [r] := nRw_s (by rw [h.1]; decide) (nRw_0 sh)
theorem wRd.c0 {sh : zSh} {r : Nat} (h : wRd sh r) : wr (((sk sh (sr sh r 0)).2 : Nat) : Int) = 7 := by rw [h.2.1]; rfl
theorem wRd.c1 {sh : zSh} {r : Nat} (h : wRd sh r) : wr (((sk sh (sr sh r 1)).2 : Nat) : Int) = 7 := by rw [h.2.2.1]; rfl
theorem S38 {sh : zSh} {r : Nat} (h : wRd sh r) (p x y : Int) (V : wSt) (hp : 0 ≤ p ∧ p ≤ 6) : wcl zP 38 [wR r, wI p, wI x, wI y] (sh, V) = rN (sh, uI (uI V (sr sh r 0) p.toNat x) (sr sh r 1) p.toNat y) := by
  rw [w38_0, h.c0, h.c1, if_neg (by omega), if_neg (by omega), if_neg (by omega)]
theorem S39 {sh : zSh} {r : Nat} (h : wRd sh r) (p : Int) (V : wSt) (hp : 0 ≤ p ∧ p ≤ 6) : wcl zP 39 [wR r, wI p] (sh, V) = rI (V (sr sh r 0) p.toNat) (sh, V) := by
  rw [w39_0, h.c0, if_neg (by omega), if_neg (by omega)]
theorem S40 {sh : zSh} {r : Nat} (h : wRd sh r) (p : Int) (V : wSt) (hp : 0 ≤ p ∧ p ≤ 6) : wcl zP 40 [wR r, wI p] (sh, V) = rI (V (sr sh r 1) p.toNat) (sh, V) := by
  rw [w40_0, h.c1, if_neg (by omega), if_neg (by omega)]
/-- of the parts in D the places are told, the others are not there yet -/
def RdD (sh : zSh) (V : wSt) (r : Nat) (f : Int → Int) (n : Int) (D : List Nat) : Prop := ∀ k : Nat, k < 7 → V (sr sh r 0) k = (if k ∈ D then zB f n k else -1) ∧ V (sr sh r 1) k = (if k ∈ D then zE f n k else -1)
theorem RdD_set {sh : zSh} {V : wSt} {r : Nat} {f : Int → Int} {n : Int} {D : List Nat} (h : wRd sh r) (g : RdD sh V r f n D) (p : Nat) {x y : Int} (hx : x = zB f n p) (hy : y = zE f n p) : RdD sh (uI (uI V (sr sh r 0) p x) (sr sh r 1) p y) r f n (p :: D) := by
  intro k hk
  have e1 : uI (uI V (sr sh r 0) p x) (sr sh r 1) p y (sr sh r 0) k = if k = p then x else V (sr sh r 0) k := by
    unfold uI; rw [if_neg (fun c => h.2.2.2 c.1)]
    by_cases c : k = p
    · rw [if_pos ⟨rfl, c⟩, if_pos c]
    · rw [if_neg (fun z => c z.2), if_neg c]
  have e2 : uI (uI V (sr sh r 0) p x) (sr sh r 1) p y (sr sh r 1) k = if k = p then y else V (sr sh r 1) k := by
    unfold uI
    by_cases c : k = p
    · rw [if_pos ⟨rfl, c⟩, if_pos c]
    · rw [if_neg (fun z => c z.2), if_neg (fun z => c z.2), if_neg c]
  rw [e1, e2, (g k hk).1, (g k hk).2]
  by_cases c : k = p
  · rw [if_pos c, if_pos c, if_pos (List.mem_cons.mpr (Or.inl c)), if_pos (List.mem_cons.mpr (Or.inl c)), c]; exact ⟨hx, hy⟩
  · rw [if_neg c, if_neg c]
    by_cases d : k ∈ D
    · rw [if_pos d, if_pos d, if_pos (List.mem_cons.mpr (Or.inr d)), if_pos (List.mem_cons.mpr (Or.inr d))]; exact ⟨rfl, rfl⟩
    · have z : ¬ k ∈ p :: D := fun w => (List.mem_cons.mp w).elim c d
      rw [if_neg d, if_neg d, if_neg z, if_neg z]; exact ⟨rfl, rfl⟩
theorem RdD_no {sh : zSh} {V : wSt} {r : Nat} {f : Int → Int} {n : Int} {D : List Nat} (g : RdD sh V r f n D) (p : Nat) (hx : zB f n p = -1) (hy : zE f n p = -1) (hd : ¬ p ∈ D) : RdD sh V r f n (p :: D) := by
  intro k hk
  rw [(g k hk).1, (g k hk).2]
  by_cases c : k = p
  · have d : ¬ k ∈ D := by rw [c]; exact hd
    have d2 : k ∈ p :: D := List.mem_cons.mpr (Or.inl c)
    rw [if_neg d, if_neg d, if_pos d2, if_pos d2, c, hx, hy]; exact ⟨rfl, rfl⟩
  · by_cases d : k ∈ D
    · rw [if_pos d, if_pos d, if_pos (List.mem_cons.mpr (Or.inr d)), if_pos (List.mem_cons.mpr (Or.inr d))]; exact ⟨rfl, rfl⟩
    · have z : ¬ k ∈ p :: D := fun w => (List.mem_cons.mp w).elim c d
      rw [if_neg d, if_neg d, if_neg z, if_neg z]; exact ⟨rfl, rfl⟩
theorem set_fr {sh : zSh} {V : wSt} {r p : Nat} {x y : Int} : FrO [sr sh r 0, sr sh r 1] V (uI (uI V (sr sh r 0) p x) (sr sh r 1) p y) :=
  (uI_fr (List.mem_cons_self)).trans (uI_fr (List.mem_cons_of_mem _ (List.mem_cons_self)))
theorem fli_r (f : Int → Int) (b a : Int) : ∀ (n : Nat) (e : Int), (e + 1 - a).toNat = n → (fli f b a e = -1 ∨ (a ≤ fli f b a e ∧ fli f b a e ≤ e)) := by
  intro n
  induction n with
  | zero => intro e hn; exact Or.inl ((fli_st f b a e).1 (by omega))
  | succ n ih =>
    intro e hn
    have st := (fli_st f b a e).2 (by omega)
    by_cases c : f e = b
    · rw [st.1 c]; omega
    · rw [st.2 c]; have := ih (e + -1) (by omega); omega
theorem oc_r (f : Int → Int) (a : Int) : ∀ (n : Nat) (k e s c : Int), (e - k).toNat = n → a ≤ k → (c = -1 ∨ (a ≤ c ∧ c < e)) → (oc f k e s c = -1 ∨ (a ≤ oc f k e s c ∧ oc f k e s c < e)) := by
  intro n
  induction n with
  | zero => intro k e s c hn hk hc; rw [(oc_st f k e s c).1 (by omega)]; exact hc
  | succ n ih =>
    intro k e s c hn hk hc
    obtain ⟨s1, s2, s3, s4⟩ := (oc_st f k e s c).2 (by omega)
    by_cases c1 : f k = 91
    · rw [s1 c1]; exact ih _ _ _ _ (by omega) (by omega) hc
    by_cases c2 : f k = 93
    · rw [s2 c2]; exact ih _ _ _ _ (by omega) (by omega) hc
    by_cases c3 : f k = 58
    · by_cases c4 : s = 0
      · rw [s3 c3 c4]; exact ih _ _ _ _ (by omega) (by omega) (Or.inr (by omega))
      · rw [s4 c1 c2 (Or.inr c4)]; exact ih _ _ _ _ (by omega) (by omega) hc
    · rw [s4 c1 c2 (Or.inl c3)]; exact ih _ _ _ _ (by omega) (by omega) hc
/-- the authority -/
theorem S36 {sh : zSh} {V : wSt} {r t : Nat} (h : wRd sh r) (q : wRo sh V t) (n a e : Int) (ha : 0 ≤ a ∧ a ≤ 200000) (he : 0 ≤ e ∧ e ≤ 200000) (h1 : kO (gl (tx sh V t)) n = 1) (h2 : a = kP (gl (tx sh V t)) n + 2) (h3 : e = kA (gl (tx sh V t)) n) (D : List Nat) (g : RdD sh V r (gl (tx sh V t)) n D) (hD : ¬ 1 ∈ D ∧ ¬ 3 ∈ D) :
    ∃ V', wcl zP 36 [wR r, wR t, wI a, wI e] (sh, V) = rN (sh, V') ∧ FrO [sr sh r 0, sr sh r 1] V V' ∧ RdD sh V' r (gl (tx sh V t)) n (2 :: 3 :: 1 :: D) := by
  obtain ⟨z1, z1e, z2, z2e, z3, z3e, -⟩ := (zBEa (gl (tx sh V t)) n).2.1 h1
  rw [← h2, ← h3] at z1 z1e z2 z2e z3 z3e
  clear h1 h2 h3
  have fr := fli_r (gl (tx sh V t)) 64 a _ (e - 1) rfl
  rw [w36_0, S69 q 64 a e (by omega) (by omega) (by omega)]
  simp only [wcx_v, wput_s, w36_8]
  -- the user
  have st1 : ∃ V1, (if fli (gl (tx sh V t)) 64 a (e - 1) = -1 then wev zP 36 24 [some (wR r), some (wR t), some (wI a), some (wI e), some (wI (fli (gl (tx sh V t)) 64 a (e - 1))), none, none] [] (sh, V) else wcx (wcl zP 38 [wR r, wI 1, wI a, wI (fli (gl (tx sh V t)) 64 a (e - 1))] (sh, V)) (fun v h' => wev zP 36 24 [some (wR r), some (wR t), some (wI a), some (wI e), some (wI (fli (gl (tx sh V t)) 64 a (e - 1))), none, none] (wput v []) h') wth) = wev zP 36 24 [some (wR r), some (wR t), some (wI a), some (wI e), some (wI (fli (gl (tx sh V t)) 64 a (e - 1))), none, none] [] (sh, V1) ∧ FrO [sr sh r 0, sr sh r 1] V V1 ∧ RdD sh V1 r (gl (tx sh V t)) n (1 :: D) := by
    have s1 := aS1_st (gl (tx sh V t)) a e
    by_cases c : fli (gl (tx sh V t)) 64 a (e - 1) = -1
    · rw [if_pos c]; exact ⟨V, rfl, FrO.refl, RdD_no g 1 (z1.trans (s1.1 c).1) (z1e.trans c) hD.1⟩
    · rw [if_neg c, S38 h 1 _ _ V (by decide)]
      exact ⟨_, rfl, set_fr, RdD_set h g 1 ((s1.2 c).1.symm.trans z1.symm) z1e.symm⟩
  obtain ⟨V1, e1, f1, g1⟩ := st1
  obtain ⟨q1, t1, -⟩ := f1.row h.nr q
  rw [e1, w36_24]
  -- where the host begins
  have pb : pB (gl (tx sh V t)) a e = if fli (gl (tx sh V t)) 64 a (e - 1) = -1 then a else fli (gl (tx sh V t)) 64 a (e - 1) + 1 := rfl
  have st2 : (if fli (gl (tx sh V t)) 64 a (e - 1) = -1 then wcx (wcl zP 37 [wR t, wI a, wI e] (sh, V1)) (fun v h' => wev zP 36 47 [some (wR r), some (wR t), some (wI a), some (wI e), some (wI (fli (gl (tx sh V t)) 64 a (e - 1))), some (wI a), none] (wput v []) h') wth else wcx (wcl zP 37 [wR t, wI (wr (fli (gl (tx sh V t)) 64 a (e - 1) + 1)), wI e] (sh, V1)) (fun v h' => wev zP 36 47 [some (wR r), some (wR t), some (wI a), some (wI e), some (wI (fli (gl (tx sh V t)) 64 a (e - 1))), some (wI (wr (fli (gl (tx sh V t)) 64 a (e - 1) + 1))), none] (wput v []) h') wth) = wev zP 36 47 [some (wR r), some (wR t), some (wI a), some (wI e), some (wI (fli (gl (tx sh V t)) 64 a (e - 1))), some (wI (pB (gl (tx sh V t)) a e)), none] [wI (pK (gl (tx sh V t)) a e)] (sh, V1) := by
    unfold pK
    by_cases c : fli (gl (tx sh V t)) 64 a (e - 1) = -1
    · rw [if_pos c, S37 q1 a e (by omega) (by omega), t1, pb, if_pos c]; rfl
    · rw [if_neg c, wr_eq (by omega) (by omega), S37 q1 _ e (by omega) (by omega), t1, pb, if_neg c]; rfl
  rw [st2, w36_47]
  have hb : 0 ≤ pB (gl (tx sh V t)) a e ∧ pB (gl (tx sh V t)) a e ≤ 200001 := by rw [pb]; split <;> omega
  have kr := oc_r (gl (tx sh V t)) (pB (gl (tx sh V t)) a e) _ (pB (gl (tx sh V t)) a e) e 0 (-1) rfl (by omega) (Or.inl rfl)
  have kr : pK (gl (tx sh V t)) a e = -1 ∨ (pB (gl (tx sh V t)) a e ≤ pK (gl (tx sh V t)) a e ∧ pK (gl (tx sh V t)) a e < e) := kr
  have ak := aK_st (gl (tx sh V t)) a e
  -- the port
  have st3 : ∃ V2, (if pK (gl (tx sh V t)) a e = -1 then wev zP 36 65 [some (wR r), some (wR t), some (wI a), some (wI e), some (wI (fli (gl (tx sh V t)) 64 a (e - 1))), some (wI (pB (gl (tx sh V t)) a e)), some (wI (pK (gl (tx sh V t)) a e))] [] (sh, V1) else wcx (wcl zP 38 [wR r, wI 3, wI (wr (pK (gl (tx sh V t)) a e + 1)), wI e] (sh, V1)) (fun v h' => wev zP 36 65 [some (wR r), some (wR t), some (wI a), some (wI e), some (wI (fli (gl (tx sh V t)) 64 a (e - 1))), some (wI (pB (gl (tx sh V t)) a e)), some (wI (pK (gl (tx sh V t)) a e))] (wput v []) h') wth) = wev zP 36 65 [some (wR r), some (wR t), some (wI a), some (wI e), some (wI (fli (gl (tx sh V t)) 64 a (e - 1))), some (wI (pB (gl (tx sh V t)) a e)), some (wI (pK (gl (tx sh V t)) a e))] [] (sh, V2) ∧ FrO [sr sh r 0, sr sh r 1] V1 V2 ∧ RdD sh V2 r (gl (tx sh V t)) n (3 :: 1 :: D) := by
    by_cases c : pK (gl (tx sh V t)) a e = -1
    · obtain ⟨-, k2, k3⟩ := ak.1 c
      rw [if_pos c]; exact ⟨V1, rfl, FrO.refl, RdD_no g1 3 (z3.trans k2) (z3e.trans k3) (fun w => (List.mem_cons.mp w).elim (by decide) hD.2)⟩
    · obtain ⟨-, k2, k3⟩ := ak.2 c
      rw [if_neg c, wr_eq (by clear ak k2 k3; omega) (by clear ak k2 k3; omega), S38 h 3 _ _ V1 (by decide)]
      exact ⟨_, rfl, set_fr, RdD_set h g1 3 (k2.symm.trans z3.symm) (k3.symm.trans z3e.symm)⟩
  obtain ⟨V2, e2, f2, g2⟩ := st3
  rw [e2, w36_65]
  by_cases c : pK (gl (tx sh V t)) a e = -1
  · rw [if_pos c, S38 h 2 _ _ V2 (by decide)]
    refine ⟨_, (by simp only [wcx_v, wput_n, w36_84]; rfl), (f1.trans f2).trans set_fr, RdD_set h g2 2 z2.symm ((ak.1 c).1.symm.trans z2e.symm)⟩
  · rw [if_neg c, S38 h 2 _ _ V2 (by decide)]
    refine ⟨_, (by simp only [wcx_v, wput_n, w36_84]; rfl), (f1.trans f2).trans set_fr, RdD_set h g2 2 z2.symm ((ak.2 c).1.symm.trans z2e.symm)⟩
theorem S35_2 {sh : zSh} {r t : Nat} (h : wRd sh r) (f : Int → Int) (n : Int) : ∀ (m : Nat) (V : wSt) (x : Int), (7 - x).toNat = m → 0 ≤ x → (∀ k : Nat, (k : Int) < x → k < 7 → V (sr sh r 0) k = -1 ∧ V (sr sh r 1) k = -1) → ∃ V', wev zP 35 2 [some (wR r), some (wR t), some (wI x), none, none, none, none, none] [] (sh, V) = wcx (wcl zP 68 [wR t, wI 35, wI 0, wI (V' t 1)] (sh, V')) (fun v h' => wev zP 35 32 [some (wR r), some (wR t), some (wI (max x 7)), none, none, none, none, none] (wput v []) h') wth ∧ FrO [sr sh r 0, sr sh r 1] V V' ∧ RdD sh V' r f n [] := by
  intro m
  induction m with
  | zero =>
    intro V x hm hx hq
    refine ⟨V, ?_, FrO.refl, fun k hk => ?_⟩
    · rw [w35_2, if_pos (by omega), show max x 7 = x by omega]
    · have := hq k (by omega) hk
      rw [if_neg (List.not_mem_nil), if_neg (List.not_mem_nil)]; exact this
  | succ m ih =>
    intro V x hm hx hq
    obtain ⟨V', e1, f1, g1⟩ := ih (uI (uI V (sr sh r 0) x.toNat (-1)) (sr sh r 1) x.toNat (-1)) (x + 1) (by omega) (by omega) (fun k hk hk7 => by
      by_cases c : k = x.toNat
      · constructor
        · unfold uI; rw [if_neg (fun z => h.2.2.2 z.1), if_pos ⟨rfl, c⟩]
        · unfold uI; rw [if_pos ⟨rfl, c⟩]
      · have := hq k (by omega) hk7
        constructor
        · unfold uI; rw [if_neg (fun z => c z.2), if_neg (fun z => c z.2)]; exact this.1
        · unfold uI; rw [if_neg (fun z => c z.2), if_neg (fun z => c z.2)]; exact this.2)
    refine ⟨V', ?_, set_fr.trans f1, g1⟩
    rw [w35_2, if_neg (by omega), S38 h x _ _ V (by omega)]
    simp only [wcx_v, wput_n, w35_15]
    rw [wr_eq (by omega) (by omega), e1, show max (x + 1) 7 = max x 7 by omega]
theorem S35 {sh : zSh} {V : wSt} {r t : Nat} (h : wRd sh r) (q : wRo sh V t) : ∃ V', wcl zP 35 [wR r, wR t] (sh, V) = rN (sh, V') ∧ FrO [sr sh r 0, sr sh r 1] V V' ∧ ∀ k : Nat, k < 7 → V' (sr sh r 0) k = zB (gl (tx sh V t)) (V t 1) k ∧ V' (sr sh r 1) k = zE (gl (tx sh V t)) (V t 1) k := by
  have z := q.sz
  obtain ⟨f, hf⟩ : ∃ f, f = gl (tx sh V t) := ⟨_, rfl⟩
  obtain ⟨n, hn⟩ : ∃ n, n = V t 1 := ⟨_, rfl⟩
  rw [← hf, ← hn]
  obtain ⟨V1, e1, f1, g1⟩ := S35_2 (t := t) h f n _ V 0 rfl (by omega) (fun k hk _ => by omega)
  obtain ⟨q1, t1, v1⟩ := f1.row h.nr q
  have zn : 0 ≤ n ∧ n ≤ 100000 := by omega
  clear z
  have rH := (cfn_r f 35 0 n).1 zn.1
  have rH : 0 ≤ kH f n ∧ kH f n ≤ n := rH
  have rQ := (cfn_r f 63 0 (kH f n)).1 rH.1
  have rQ : 0 ≤ kQ f n ∧ kQ f n ≤ kH f n := rQ
  have rS := (cfn_r f 47 0 (kQ f n)).1 rQ.1
  have rS : 0 ≤ kS f n ∧ kS f n ≤ kQ f n := rS
  have rC := (cfn_r f 58 0 (kS f n)).1 rS.1
  have rC : 0 ≤ kC f n ∧ kC f n ≤ kS f n := rC
  have eH : cfn f 35 0 n = kH f n := rfl
  have eQ : cfn f 63 0 (kH f n) = kQ f n := rfl
  have eS : cfn f 47 0 (kQ f n) = kS f n := rfl
  have eC : cfn f 58 0 (kS f n) = kC f n := rfl
  have eA : cfn f 47 (kP f n + 2) (kQ f n) = kA f n := rfl
  rw [w35_0, e1, v1, ← hn, S68 q1 35 0 n (by omega) (by omega), t1, ← hf, eH]
  simp only [wcx_v, wput_s, w35_32]
  rw [v1, ← hn]
  -- the fragment
  have st : ∃ V2, (if n ≤ kH f n then wev zP 35 54 [some (wR r), some (wR t), some (wI (kH f n)), none, none, none, none, none] [] (sh, V1) else wcx (wcl zP 38 [wR r, wI 6, wI (wr (kH f n + 1)), wI n] (sh, V1)) (fun v h' => wev zP 35 54 [some (wR r), some (wR t), some (wI (kH f n)), none, none, none, none, none] (wput v []) h') wth) = wev zP 35 54 [some (wR r), some (wR t), some (wI (kH f n)), none, none, none, none, none] [] (sh, V2) ∧ FrO [sr sh r 0, sr sh r 1] V1 V2 ∧ RdD sh V2 r f n [6] := by
    have b6 := zBE6 f n
    by_cases c : n ≤ kH f n
    · rw [if_pos c]; exact ⟨V1, rfl, FrO.refl, RdD_no g1 6 (b6.2 c).1 (b6.2 c).2 (List.not_mem_nil)⟩
    · have b := b6.1 (by clear b6; omega)
      rw [if_neg c, wr_eq (x := kH f n + 1) (by clear b6 b; omega) (by clear b6 b; omega), S38 h 6 _ _ V1 (by decide)]
      exact ⟨_, rfl, set_fr, RdD_set h g1 6 b.1.symm b.2.symm⟩
  obtain ⟨V2, e2, f2, g2⟩ := st
  obtain ⟨q2, t2, v2⟩ := (f1.trans f2).row h.nr q
  rw [e2, w35_54, S68 q2 63 0 (kH f n) (by omega) (by omega), t2, ← hf, eQ]
  simp only [wcx_v, wput_s, w35_62]
  clear e1 e2
  -- the query
  have st : ∃ V3, (if kH f n ≤ kQ f n then wev zP 35 77 [some (wR r), some (wR t), some (wI (kH f n)), some (wI (kQ f n)), none, none, none, none] [] (sh, V2) else wcx (wcl zP 38 [wR r, wI 5, wI (wr (kQ f n + 1)), wI (kH f n)] (sh, V2)) (fun v h' => wev zP 35 77 [some (wR r), some (wR t), some (wI (kH f n)), some (wI (kQ f n)), none, none, none, none] (wput v []) h') wth) = wev zP 35 77 [some (wR r), some (wR t), some (wI (kH f n)), some (wI (kQ f n)), none, none, none, none] [] (sh, V3) ∧ FrO [sr sh r 0, sr sh r 1] V2 V3 ∧ RdD sh V3 r f n [5, 6] := by
    have b5 := zBE5 f n
    by_cases c : kH f n ≤ kQ f n
    · rw [if_pos c]; exact ⟨V2, rfl, FrO.refl, RdD_no g2 5 (b5.2 c).1 (b5.2 c).2 (by decide)⟩
    · have b := b5.1 (by clear b5; omega)
      rw [if_neg c, wr_eq (x := kQ f n + 1) (by clear b5 b; omega) (by clear b5 b; omega), S38 h 5 _ _ V2 (by decide)]
      exact ⟨_, rfl, set_fr, RdD_set h g2 5 b.1.symm b.2.symm⟩
  obtain ⟨V3, e3, f3, g3⟩ := st
  obtain ⟨q3, t3, v3⟩ := ((f1.trans f2).trans f3).row h.nr q
  rw [e3, w35_77, S68 q3 47 0 (kQ f n) (by omega) (by omega), t3, ← hf, eS]
  simp only [wcx_v, wput_s, w35_85]
  rw [S68 q3 58 0 _ (by omega) (by omega), t3, ← hf, eC]
  simp only [wcx_v, wput_s, w35_96]
  clear e3
  -- the scheme
  have kp := kP_st f n
  have rP : 0 ≤ kP f n ∧ kP f n ≤ kQ f n + 1 := by
    by_cases c : kC f n < kS f n
    · rw [kp.1 c]; clear kp; omega
    · rw [kp.2 (by clear kp; omega)]; clear kp; omega
  have p2 : wr (kP f n + 2) = kP f n + 2 := wr_eq (by clear kp; omega) (by clear kp; omega)
  have p1 : wr (kP f n + 1) = kP f n + 1 := wr_eq (by clear kp; omega) (by clear kp; omega)
  have st : ∃ V4, (if kS f n ≤ kC f n then if kQ f n < wr (0 + 2) then wev zP 35 180 [some (wR r), some (wR t), some (wI (kH f n)), some (wI (kQ f n)), some (wI (kS f n)), some (wI (kC f n)), some (wI 0), none] [] (sh, V3) else wcx (wcl zP 57 [wR t, wI 0] (sh, V3)) (fun v h' => wev zP 35 136 [some (wR r), some (wR t), some (wI (kH f n)), some (wI (kQ f n)), some (wI (kS f n)), some (wI (kC f n)), some (wI 0), none] (wput v []) h') wth else wcx (wcl zP 38 [wR r, wI 0, wI 0, wI (kC f n)] (sh, V3)) (fun v h' => wev zP 35 116 [some (wR r), some (wR t), some (wI (kH f n)), some (wI (kQ f n)), some (wI (kS f n)), some (wI (kC f n)), some (wI 0), none] (wput v []) h') wth) = (if kQ f n < kP f n + 2 then wev zP 35 180 [some (wR r), some (wR t), some (wI (kH f n)), some (wI (kQ f n)), some (wI (kS f n)), some (wI (kC f n)), some (wI (kP f n)), none] [] (sh, V4) else wcx (wcl zP 57 [wR t, wI (kP f n)] (sh, V4)) (fun v h' => wev zP 35 136 [some (wR r), some (wR t), some (wI (kH f n)), some (wI (kQ f n)), some (wI (kS f n)), some (wI (kC f n)), some (wI (kP f n)), none] (wput v []) h') wth) ∧ FrO [sr sh r 0, sr sh r 1] V3 V4 ∧ RdD sh V4 r f n [0, 5, 6] := by
    have b0 := zBE0 f n
    by_cases c : kS f n ≤ kC f n
    · have e := kp.2 c
      refine ⟨V3, ?_, FrO.refl, RdD_no g3 0 (b0.2 c).1 (b0.2 c).2 (by decide)⟩
      rw [if_pos c, e, show wr (0 + 2) = 0 + 2 from rfl]
    · have e := kp.1 (by clear kp b0; omega)
      have b := b0.1 (by clear kp b0; omega)
      refine ⟨_, ?_, set_fr, RdD_set h g3 0 b.1.symm b.2.symm⟩
      rw [if_neg c, S38 h 0 _ _ V3 (by decide)]
      simp only [wcx_v, wput_n, w35_116]
      have m1 : wr (kC f n + 1) = kP f n := by
        rw [e]; exact wr_eq (by clear kp b0 b e; omega) (by clear kp b0 b e; omega)
      rw [m1, p2]; rfl
  obtain ⟨V4, e4, f4, g4⟩ := st
  obtain ⟨q4, t4, v4⟩ := (((f1.trans f2).trans f3).trans f4).row h.nr q
  rw [e4]
  clear e4 kp
  -- the authority
  have ko := kO_st f n
  have za := zBEa f n
  have fin : ∀ (V5 : wSt) (o : Option wV) (D : List Nat), FrO [sr sh r 0, sr sh r 1] V4 V5 → RdD sh V5 r f n D → (∀ k : Nat, k < 7 → k ≠ 4 → k ∈ D) → ∃ V', wev zP 35 180 [some (wR r), some (wR t), some (wI (kH f n)), some (wI (kQ f n)), some (wI (kS f n)), some (wI (kC f n)), some (wI (zB f n 4)), o] [] (sh, V5) = rN (sh, V') ∧ FrO [sr sh r 0, sr sh r 1] V V' ∧ ∀ k : Nat, k < 7 → V' (sr sh r 0) k = zB f n k ∧ V' (sr sh r 1) k = zE f n k := by
    intro V5 o D f5 g5 hD
    rw [w35_180, S38 h 4 _ _ V5 (by decide)]
    simp only [wcx_v, wput_n, w35_188]
    have g6 := RdD_set h g5 4 (x := zB f n 4) (y := kQ f n) rfl za.1.symm
    refine ⟨_, rfl, ((((f1.trans f2).trans f3).trans f4).trans f5).trans set_fr, fun k hk => ?_⟩
    have hm : k ∈ 4 :: D := by
      by_cases c : k = 4
      · exact List.mem_cons.mpr (Or.inl c)
      · exact List.mem_cons.mpr (Or.inr (hD k hk c))
    have := g6 k hk
    rw [if_pos hm, if_pos hm] at this
    exact this
  have noA : kO f n = 0 → ∃ V', wev zP 35 180 [some (wR r), some (wR t), some (wI (kH f n)), some (wI (kQ f n)), some (wI (kS f n)), some (wI (kC f n)), some (wI (kP f n)), none] [] (sh, V4) = rN (sh, V') ∧ FrO [sr sh r 0, sr sh r 1] V V' ∧ ∀ k : Nat, k < 7 → V' (sr sh r 0) k = zB f n k ∧ V' (sr sh r 1) k = zE f n k := by
    intro hk
    obtain ⟨y1, y2, y3, y4, y5, y6, y7⟩ := za.2.2 hk
    rw [← y7]
    refine fin V4 none [3, 2, 1, 0, 5, 6] FrO.refl (RdD_no (RdD_no (RdD_no g4 1 y1 y2 (by decide)) 2 y3 y4 (by decide)) 3 y5 y6 (by decide)) ?_
    have key : ∀ k : Fin 7, k.val ≠ 4 → k.val ∈ [3, 2, 1, 0, 5, 6] := by decide
    exact fun k hk h4 => key ⟨k, hk⟩ h4
  by_cases c : kQ f n < kP f n + 2
  · rw [if_pos c]
    exact noA (ko.2 (Or.inl c))
  rw [if_neg c, S57 q4, t4, ← hf]
  simp only [wcx_v, wput_s, w35_136]
  by_cases c1 : f (kP f n) = 47
  rotate_left
  · rw [if_neg c1]; exact noA (ko.2 (Or.inr (Or.inl c1)))
  rw [if_pos c1, p1, S57 q4, t4, ← hf]
  simp only [wcx_v, wput_s, w35_149]
  by_cases c2 : f (kP f n + 1) = 47
  rotate_left
  · rw [if_neg c2]; exact noA (ko.2 (Or.inr (Or.inr c2)))
  have k1 := ko.1 (by clear ko za; omega) c1 c2
  rw [if_pos c2, p2, S68 q4 47 _ _ (by clear ko za; omega) (by clear ko za; omega), t4, ← hf, eA]
  simp only [wcx_v, wput_s, w35_169]
  have rA := (cfn_r f 47 (kP f n + 2) (kQ f n)).1 (by clear ko za; omega)
  have rA : kP f n + 2 ≤ kA f n ∧ kA f n ≤ kQ f n := rA
  have e5 := S36 h q4 n (kP f n + 2) (kA f n) (by clear ko za; omega) (by clear ko za; omega) (by rw [t4, ← hf]; exact k1) (by rw [t4, ← hf]) (by rw [t4, ← hf]) [0, 5, 6] (by rw [t4, ← hf]; exact g4) (by decide)
  rw [t4, ← hf] at e5
  obtain ⟨V5, e5, f5, g5⟩ := e5
  rw [e5]
  simp only [wcx_v, wput_n]
  have y7 := (za.2.1 k1).2.2.2.2.2.2
  have e6 := fin V5 (some (wI (kP f n + 2))) [2, 3, 1, 0, 5, 6] f5 g5 (by
    have key : ∀ k : Fin 7, k.val ≠ 4 → k.val ∈ [2, 3, 1, 0, 5, 6] := by decide
    exact fun k hk h4 => key ⟨k, hk⟩ h4)
  rw [y7] at e6
  exact e6
