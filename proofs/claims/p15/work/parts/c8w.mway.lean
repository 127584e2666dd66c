set_option maxRecDepth 16384
/-! the model's way from a path to another -/
/-- a path of X is laid, however long -/
def Wy (sh : zSh) (m : Nat) (X : List Int) (V V' : wSt) : Prop := FrO [sr sh m 9, sr sh m 10] V V' ∧ (∀ j, j ≠ 4 → V' (sr sh m 10) j = V (sr sh m 10) j) ∧ V' (sr sh m 10) 4 = (X.length : Int) ∧ (∀ j : Nat, j < X.length → V' (sr sh m 9) (6000 + j) = gl X j) ∧ ∀ j : Nat, (j < 6000 ∨ 6000 + X.length ≤ j) → V' (sr sh m 9) j = V (sr sh m 9) j
theorem shbA_stop {f g : Int → Int} : ∀ (a b : Nat) (i s : Int), f (i + a) ≠ g (i + a) → shbA f g (a + b) i s = shbA f g a i s := by
  intro a
  induction a with
  | zero =>
    intro b i s h
    cases b with
    | zero => rfl
    | succ b =>
      have h' : f i ≠ g i := by
        rw [show i + ((0 : Nat) : Int) = i by omega] at h; exact h
      rw [Nat.zero_add]
      show (if f i = g i then shbA f g b (i + 1) (if f i = 47 then i + 1 else s) else s) = s
      rw [if_neg h']
  | succ a ih =>
    intro b i s h
    rw [show a + 1 + b = (a + b) + 1 by omega, shbA, shbA]
    by_cases c : f i = g i
    · rw [if_pos c, if_pos c]
      exact ih b (i + 1) _ (by rw [show i + 1 + (a : Int) = i + ((a + 1 : Nat) : Int) by omega]; exact h)
    · rw [if_neg c, if_neg c]
theorem shb_mod {L M : List Int} (h : ∀ k : Int, 0 ≤ k → k < L.length → gl L k ≠ -1) : shbA (gl L) (gl M) L.length 0 0 = shb L M := by
  unfold shb
  by_cases c : (M.length : Int) < L.length
  · rw [if_pos c, show L.length = M.length + (L.length - M.length) by omega]
    exact shbA_stop _ _ 0 0 (by
      rw [Int.zero_add, gl_out (L := M) (Or.inr (Int.le_refl _))]
      exact h _ (by omega) (by omega))
  · rw [if_neg c]
section
variable {sh : zSh} {m : Nat}
theorem Wy.lay {X : List Int} {V V1 : wSt} (M : wMd sh m) (w : Wy sh m X V V1) (x : Int) (hl : X.length ≤ 100000) : ∃ V2, wcl zP 152 [wR m, wI 4, wI x] (sh, V1) = rN (sh, V2) ∧ Wy sh m (X ++ [x]) V V2 := by
  have n910 : sr sh m 9 ≠ sr sh m 10 := M.n (by decide) (by decide) (by decide)
  obtain ⟨w1, w2, w3, w4, w5⟩ := w
  rw [w152_0, show Int.toNat 4 = 4 from rfl, w3, wr_eq (x := 1500 * 4) (by omega) (by omega), wr_eq (x := 1500 * 4 + _) (by omega) (by omega), show (1500 * 4 + (X.length : Int)).toNat = 6000 + X.length by omega]
  have e1 : uI V1 (sr sh m 9) (6000 + X.length) x (sr sh m 10) 4 = (X.length : Int) := by unfold uI; rw [if_neg (fun c => n910 c.1.symm)]; exact w3
  rw [e1, wr_eq (by omega) (by omega)]
  obtain ⟨W, hW⟩ : ∃ W, W = uI (uI V1 (sr sh m 9) (6000 + X.length) x) (sr sh m 10) 4 (X.length + 1) := ⟨_, rfl⟩
  rw [← hW]
  have w10 : ∀ j, W (sr sh m 10) j = if j = 4 then (X.length : Int) + 1 else V1 (sr sh m 10) j := fun j => by
    rw [hW]; unfold uI
    by_cases d : j = 4
    · rw [if_pos ⟨rfl, d⟩, if_pos d]
    · rw [if_neg (fun c => d c.2), if_neg d, if_neg (fun c => n910 c.1.symm)]
  have w9 : ∀ j, W (sr sh m 9) j = if j = 6000 + X.length then x else V1 (sr sh m 9) j := fun j => by
    rw [hW]; unfold uI
    rw [if_neg (fun c => n910 c.1)]
    by_cases d : j = 6000 + X.length
    · rw [if_pos ⟨rfl, d⟩, if_pos d]
    · rw [if_neg (fun c => d c.2), if_neg d]
  have fr : FrO [sr sh m 9, sr sh m 10] V1 W := fun b hb => by
    rw [hW]
    funext j
    unfold uI
    rw [if_neg (fun c => hb (by rw [c.1]; exact List.mem_cons_of_mem _ List.mem_cons_self)), if_neg (fun c => hb (by rw [c.1]; exact List.mem_cons_self))]
  have ln : (X ++ [x]).length = X.length + 1 := by rw [List.length_append]; rfl
  refine ⟨W, rfl, w1.trans fr, fun j hj => by rw [w10, if_neg hj]; exact w2 j hj, by rw [w10, if_pos rfl, ln]; omega, fun j hj => ?_, fun j hj => ?_⟩
  · rw [ln] at hj
    rw [w9]
    by_cases d : j = X.length
    · rw [if_pos (by omega), d, gl_app0 _ _ (Int.le_refl _), Int.sub_self]; rfl
    · rw [if_neg (by omega), gl_app1 _ _ (by omega)]; exact w4 j (by omega)
  · rw [ln] at hj
    rw [w9, if_neg (by omega)]; exact w5 j (by omega)
theorem Wy.mK {X : List Int} {V V1 : wSt} (M : wMd sh m) (w : Wy sh m X V V1) {r : Int} {L : List Int} (K : mK sh V m r L) : Jvm.Pilot.CLinkLibraryLaw_law_r7063_89e837.mK sh V1 m r L := mK_fr M K (w.1.mono (fun x hx => by
  unfold lyO
  simp only [List.mem_cons, List.not_mem_nil, or_false] at hx ⊢
  rcases hx with h | h
  · exact Or.inl h
  · exact Or.inr (Or.inl h)))
theorem Wy.sz {X : List Int} {V V1 : wSt} (M : wMd sh m) (w : Wy sh m X V V1) (S : mSz sh V m) : mSz sh V1 m := mSz_fr M S (w.1.mono (fun x hx => by
  unfold lyO
  simp only [List.mem_cons, List.not_mem_nil, or_false] at hx ⊢
  rcases hx with h | h
  · exact Or.inl h
  · exact Or.inr (Or.inl h)))
theorem ups_len (n : Nat) : (ups n).length = 3 * n := by
  induction n with
  | zero => rfl
  | succ n ih => rw [ups, List.length_append, ih]; simp only [List.length_cons, List.length_nil]; omega
variable {b t : Int} {Lb Lt : List Int}
/-- how much is shared -/
theorem M190_13 {V : wSt} (S : mSz sh V m) (hb : 0 ≤ b ∧ b ≤ 13) (ht : 0 ≤ t ∧ t ≤ 13) (lb : Lb.length ≤ 400) (lt : Lt.length ≤ 400) (KB : mK sh V m b Lb) (KT : mK sh V m t Lt) {P T : List Int} (hP : P = (cutQ Lb 4).1) (hT : T = (cutQ Lt 4).1) (lP : P.length ≤ 400) : ∀ (q : Nat) (k s : Int), 0 ≤ k → (P.length : Int) - k = q → wev zP 190 13 [some (wR m), some (wI b), some (wI t), some (wI s), some (wI P.length), some (wI k), none, none, none] [] (sh, V) = wev zP 190 77 [some (wR m), some (wI b), some (wI t), some (wI (shbA (gl P) (gl T) q k s)), some (wI P.length), some (wI (shbA (gl P) (gl T) q k s)), none, none, none] [] (sh, uI V (sr sh m 10) 4 0) := by
  intro q
  induction q with
  | zero => intro k s h0 h1; rw [w190_13, if_pos (by omega)]; rfl
  | succ q ih =>
    intro k s h0 h1
    have pk : wcl zP 136 [wR m, wI b, wI 4, wI k] (sh, V) = rI (gl P k) (sh, V) := by rw [hP]; exact M136q (p := 4) S KB (by omega) hb (by decide) k (by omega)
    have tk : wcl zP 136 [wR m, wI t, wI 4, wI k] (sh, V) = rI (gl T k) (sh, V) := by rw [hT]; exact M136q (p := 4) S KT (by omega) ht (by decide) k (by omega)
    rw [w190_13, if_neg (by omega), pk]
    simp only [wcx_v, wput_s, w190_28]
    rw [tk]
    simp only [wcx_v, wput_s, w190_36]
    rw [shbA]
    by_cases c : gl P k = gl T k
    · rw [if_pos c, if_pos c, pk]
      simp only [wcx_v, wput_s, w190_47]
      rw [wr_eq (by omega) (by omega), ih (k + 1) (k + 1) (by omega) (by omega), ih (k + 1) s (by omega) (by omega)]
      by_cases d : gl P k = 47
      · rw [if_pos d, if_pos d]
      · rw [if_neg d, if_neg d]
    · rw [if_neg c, if_neg c]; rfl
/-- the steps up -/
theorem M190_77 {V : wSt} (M : wMd sh m) (S : mSz sh V m) (hb : 0 ≤ b ∧ b ≤ 13) (ht : 0 ≤ t ∧ t ≤ 13) (lb : Lb.length ≤ 400) (lt : Lt.length ≤ 400) (KB : mK sh V m b Lb) (KT : mK sh V m t Lt) {P T : List Int} (hP : P = (cutQ Lb 4).1) (hT : T = (cutQ Lt 4).1) (lP : P.length ≤ 400) (s : Int) : ∀ (q : Nat) (k : Int) (V1 : wSt) (X : List Int), 0 ≤ k → (P.length : Int) - k = q → X.length + 3 * q ≤ 1300 → Wy sh m X V V1 → ∃ V2, wev zP 190 77 [some (wR m), some (wI b), some (wI t), some (wI s), some (wI P.length), some (wI k), none, none, none] [] (sh, V1) = wev zP 190 138 [some (wR m), some (wI b), some (wI t), some (wI s), some (wI P.length), some (wI T.length), some (wI 0), some (wI s), none] [] (sh, V2) ∧ Wy sh m (X ++ ups (lc 47 (P.drop k.toNat)).toNat) V V2 := by
  intro q
  induction q with
  | zero =>
    intro k V1 X h0 h1 h2 w
    refine ⟨V1, ?_, ?_⟩
    · have tk : wcl zP 135 [wR m, wI t, wI 4] (sh, V1) = rI (T.length : Int) (sh, V1) := by rw [hT]; exact M135q (p := 4) (w.mK M KT) (by omega) ht (by decide)
      rw [w190_77, if_pos (by omega), tk]
      simp only [wcx_v, wput_s, w190_130]
    · rw [List.drop_of_length_le (by omega)]
      show Wy sh m (X ++ []) V V1
      rw [List.append_nil]; exact w
  | succ q ih =>
    intro k V1 X h0 h1 h2 w
    have pk : wcl zP 136 [wR m, wI b, wI 4, wI k] (sh, V1) = rI (gl P k) (sh, V1) := by rw [hP]; exact M136q (p := 4) (w.sz M S) (w.mK M KB) (by omega) hb (by decide) k (by omega)
    rw [w190_77, if_neg (by omega), pk]
    simp only [wcx_v, wput_s, w190_92]
    rw [drop_gl h0 (by omega), lc]
    have lr := lc_r 47 (P.drop (k + 1).toNat)
    by_cases d : gl P k = 47
    · rw [if_pos d, if_pos d]
      obtain ⟨V2, e2, w2⟩ := w.lay M 46 (by omega)
      obtain ⟨V3, e3, w3⟩ := w2.lay M 46 (by rw [List.length_append]; simp only [List.length_cons, List.length_nil]; omega)
      obtain ⟨V4, e4, w4⟩ := w3.lay M 47 (by rw [List.length_append, List.length_append]; simp only [List.length_cons, List.length_nil]; omega)
      rw [List.append_assoc, List.append_assoc] at w4
      obtain ⟨V5, e5, w5⟩ := ih (k + 1) V4 _ (by omega) (by omega) (by rw [List.length_append]; simp only [List.length_cons, List.length_append, List.length_nil]; omega) w4
      refine ⟨V5, ?_, ?_⟩
      · rw [e2]
        simp only [wcx_v, wput_n, w190_104]
        rw [e3]
        simp only [wcx_v, wput_n, w190_111]
        rw [e4]
        simp only [wcx_v, wput_n, w190_118]
        rw [wr_eq (by omega) (by omega), e5]
      · rw [show (1 + lc 47 (P.drop (k + 1).toNat)).toNat = (lc 47 (P.drop (k + 1).toNat)).toNat + 1 by omega, ups]
        rw [List.append_assoc] at w5
        exact w5
    · rw [if_neg d, if_neg d, Int.zero_add, w190_118, wr_eq (by omega) (by omega)]
      exact ih (k + 1) V1 X (by omega) (by omega) (by omega) w
/-- the first segment that is left -/
theorem M190_138 {V : wSt} (S : mSz sh V m) (ht : 0 ≤ t ∧ t ≤ 13) (lt : Lt.length ≤ 400) (KT : mK sh V m t Lt) {T : List Int} (hT : T = (cutQ Lt 4).1) (lT : T.length ≤ 400) (n s : Int) (hs : 0 ≤ s) : ∀ (q : Nat) (k c : Int), s ≤ k → (T.length : Int) - k = q → (∀ j, s ≤ j → j < k → gl T j ≠ 47) → (c = 0 ∨ c = 1) → (c = 1 ↔ ∃ j, s ≤ j ∧ j < k ∧ gl T j = 58) → ∃ c', (c' = 0 ∨ c' = 1) ∧ (c' = 1 ↔ ∃ j, s ≤ j ∧ j < cfn (gl T) 47 s T.length ∧ gl T j = 58) ∧ wev zP 190 138 [some (wR m), some (wI b), some (wI t), some (wI s), some (wI n), some (wI T.length), some (wI c), some (wI k), none] [] (sh, V) = (if V (sr sh m 10) (Int.toNat 4) = 0 then (if s = (T.length : Int) ∨ cfn (gl T) 47 s T.length = s ∨ c' = 1 then wcx (wcl zP 152 [wR m, wI 4, wI 46] (sh, V)) (fun v h' => wev zP 190 222 [some (wR m), some (wI b), some (wI t), some (wI s), some (wI n), some (wI T.length), some (wI c'), some (wI (cfn (gl T) 47 s T.length)), none] (wput v []) h') wth else wev zP 190 229 [some (wR m), some (wI b), some (wI t), some (wI s), some (wI n), some (wI T.length), some (wI c'), some (wI (cfn (gl T) 47 s T.length)), none] [] (sh, V)) else wev zP 190 229 [some (wR m), some (wI b), some (wI t), some (wI s), some (wI n), some (wI T.length), some (wI c'), some (wI (cfn (gl T) 47 s T.length)), none] [] (sh, V)) := by
  intro q
  have fin : ∀ k c : Int, (c = 0 ∨ c = 1) → k = cfn (gl T) 47 s T.length → (if V (sr sh m 10) (Int.toNat 4) = 0 then (if s = (T.length : Int) then wcx (wcl zP 152 [wR m, wI 4, wI 46] (sh, V)) (fun v h' => wev zP 190 222 [some (wR m), some (wI b), some (wI t), some (wI s), some (wI n), some (wI T.length), some (wI c), some (wI k), none] (wput v []) h') wth else if k = s then wcx (wcl zP 152 [wR m, wI 4, wI 46] (sh, V)) (fun v h' => wev zP 190 222 [some (wR m), some (wI b), some (wI t), some (wI s), some (wI n), some (wI T.length), some (wI c), some (wI k), none] (wput v []) h') wth else if c = 0 then wev zP 190 229 [some (wR m), some (wI b), some (wI t), some (wI s), some (wI n), some (wI T.length), some (wI c), some (wI k), none] [] (sh, V) else wcx (wcl zP 152 [wR m, wI 4, wI 46] (sh, V)) (fun v h' => wev zP 190 222 [some (wR m), some (wI b), some (wI t), some (wI s), some (wI n), some (wI T.length), some (wI c), some (wI k), none] (wput v []) h') wth) else wev zP 190 229 [some (wR m), some (wI b), some (wI t), some (wI s), some (wI n), some (wI T.length), some (wI c), some (wI k), none] [] (sh, V)) = (if V (sr sh m 10) (Int.toNat 4) = 0 then (if s = (T.length : Int) ∨ cfn (gl T) 47 s T.length = s ∨ c = 1 then wcx (wcl zP 152 [wR m, wI 4, wI 46] (sh, V)) (fun v h' => wev zP 190 222 [some (wR m), some (wI b), some (wI t), some (wI s), some (wI n), some (wI T.length), some (wI c), some (wI (cfn (gl T) 47 s T.length)), none] (wput v []) h') wth else wev zP 190 229 [some (wR m), some (wI b), some (wI t), some (wI s), some (wI n), some (wI T.length), some (wI c), some (wI (cfn (gl T) 47 s T.length)), none] [] (sh, V)) else wev zP 190 229 [some (wR m), some (wI b), some (wI t), some (wI s), some (wI n), some (wI T.length), some (wI c), some (wI (cfn (gl T) 47 s T.length)), none] [] (sh, V)) := fun k c hc hk => by
    rw [← hk]
    by_cases z : V (sr sh m 10) (Int.toNat 4) = 0
    · rw [if_pos z, if_pos z]
      by_cases d1 : s = (T.length : Int)
      · rw [if_pos d1, if_pos (Or.inl d1)]
      · rw [if_neg d1]
        by_cases d2 : k = s
        · rw [if_pos d2, if_pos (Or.inr (Or.inl d2))]
        · rw [if_neg d2]
          rcases hc with e | e
          · rw [if_pos e, if_neg (fun w => w.elim d1 (fun w => w.elim d2 (fun w => by omega)))]
          · rw [if_neg (by omega), if_pos (Or.inr (Or.inr e))]
    · rw [if_neg z, if_neg z]
  induction q with
  | zero =>
    intro k c h0 h1 h2 hc h3
    have ek : cfn (gl T) 47 s T.length = k := cfn_at h0 (by omega) (fun w => by omega) h2
    refine ⟨c, hc, by rw [ek]; exact h3, ?_⟩
    rw [w190_138, if_pos (by omega)]
    exact fin k c hc ek.symm
  | succ q ih =>
    intro k c h0 h1 h2 hc h3
    have tk : wcl zP 136 [wR m, wI t, wI 4, wI k] (sh, V) = rI (gl T k) (sh, V) := by rw [hT]; exact M136q (p := 4) S KT (by omega) ht (by decide) k (by omega)
    rw [w190_138, if_neg (by omega), tk]
    simp only [wcx_v, wput_s, w190_153]
    by_cases d : gl T k = 47
    · rw [if_pos d]
      have ek : cfn (gl T) 47 s T.length = k := cfn_at h0 (by omega) (fun _ => d) h2
      refine ⟨c, hc, by rw [ek]; exact h3, ?_⟩
      exact fin k c hc ek.symm
    · rw [if_neg d]
      have h2' : ∀ j, s ≤ j → j < k + 1 → gl T j ≠ 47 := fun j j0 j1 => by
        by_cases q : j = k
        · rw [q]; exact d
        · exact h2 j j0 (by omega)
      rw [tk]
      simp only [wcx_v, wput_s, w190_171]
      rw [wr_eq (by omega) (by omega)]
      by_cases c0 : c = 0
      · rw [if_pos c0]
        by_cases e : gl T k = 58
        · rw [if_pos e]
          exact ih (k + 1) 1 (by omega) (by omega) h2' (Or.inr rfl) ⟨fun _ => ⟨k, h0, by omega, e⟩, fun _ => rfl⟩
        · rw [if_neg e]
          refine ih (k + 1) 0 (by omega) (by omega) h2' (Or.inl rfl) ⟨fun w => absurd w (by decide), fun ⟨j, j0, j1, j2⟩ => ?_⟩
          exfalso
          by_cases q : j = k
          · rw [q] at j2; exact e j2
          · have := h3.mpr ⟨j, j0, by omega, j2⟩; omega
      · rw [if_neg c0]
        obtain ⟨j, j0, j1, j2⟩ := h3.mp (by omega)
        exact ih (k + 1) 1 (by omega) (by omega) h2' (Or.inr rfl) ⟨fun _ => ⟨j, j0, by omega, j2⟩, fun _ => rfl⟩
theorem M190_232 {V : wSt} (M : wMd sh m) (S : mSz sh V m) (ht : 0 ≤ t ∧ t ≤ 13) (lt : Lt.length ≤ 400) (KT : mK sh V m t Lt) {T : List Int} (hT : T = (cutQ Lt 4).1) (lT : T.length ≤ 400) (n s c k : Int) : ∀ (q : Nat) (i : Int) (V1 : wSt) (X : List Int), 0 ≤ i → (T.length : Int) - i = q → X.length + q ≤ 2000 → Wy sh m X V V1 → ∃ V2, wev zP 190 232 [some (wR m), some (wI b), some (wI t), some (wI s), some (wI n), some (wI T.length), some (wI c), some (wI k), some (wI i)] [] (sh, V1) = rN (sh, V2) ∧ Wy sh m (X ++ T.drop i.toNat) V V2 := by
  intro q
  induction q with
  | zero =>
    intro i V1 X h0 h1 h2 w
    refine ⟨V1, by rw [w190_232, if_pos (by omega)], ?_⟩
    rw [List.drop_of_length_le (by omega), List.append_nil]; exact w
  | succ q ih =>
    intro i V1 X h0 h1 h2 w
    have tk : wcl zP 136 [wR m, wI t, wI 4, wI i] (sh, V1) = rI (gl T i) (sh, V1) := by rw [hT]; exact M136q (p := 4) (w.sz M S) (w.mK M KT) (by omega) ht (by decide) i (by omega)
    obtain ⟨V2, e2, w2⟩ := w.lay M (gl T i) (by omega)
    obtain ⟨V3, e3, w3⟩ := ih (i + 1) V2 _ (by omega) (by omega) (by rw [List.length_append]; simp only [List.length_cons, List.length_nil]; omega) w2
    refine ⟨V3, ?_, by rw [drop_gl h0 (by omega)]; rw [List.append_assoc] at w3; exact w3⟩
    rw [w190_232, if_neg (by omega), tk]
    simp only [wcx_v, wput_s, w190_249]
    rw [e2]
    simp only [wcx_v, wput_n, w190_252]
    rw [wr_eq (by omega) (by omega), e3]
theorem M190 {V : wSt} (M : wMd sh m) (S : mSz sh V m) (hb : 0 ≤ b ∧ b ≤ 13) (ht : 0 ≤ t ∧ t ≤ 13) (lb : Lb.length ≤ 400) (lt : Lt.length ≤ 400) (KB : mK sh V m b Lb) (KT : mK sh V m t Lt) (np : ∀ k : Int, 0 ≤ k → k < (cutQ Lb 4).1.length → gl (cutQ Lb 4).1 k ≠ -1) : ∃ V', wcl zP 190 [wR m, wI b, wI t] (sh, V) = rN (sh, V') ∧ Wy sh m (clm (cutQ Lb 4).1 (cutQ Lt 4).1) V V' := by
  have cB := cut_sum Lb
  have cT := cut_sum Lt
  obtain ⟨P, hP⟩ : ∃ P, P = (cutQ Lb 4).1 := ⟨_, rfl⟩
  obtain ⟨T, hT⟩ : ∃ T, T = (cutQ Lt 4).1 := ⟨_, rfl⟩
  rw [← hP] at cB np ⊢
  rw [← hT] at cT ⊢
  have sr' := shb_r P T
  have pz : wcl zP 135 [wR m, wI b, wI 4] (sh, V) = rI (P.length : Int) (sh, V) := by rw [hP]; exact M135q (p := 4) KB (by omega) hb (by decide)
  have e13 := M190_13 (V := V) S hb ht lb lt KB KT hP hT (by omega) P.length 0 0 (by decide) (by omega)
  rw [shb_mod np] at e13
  obtain ⟨s, hs⟩ : ∃ s, s = shb P T := ⟨_, rfl⟩
  rw [← hs] at e13 sr'
  have n910 : sr sh m 9 ≠ sr sh m 10 := M.n (by decide) (by decide) (by decide)
  have w0 : Wy sh m [] V (uI V (sr sh m 10) 4 0) := by
    refine ⟨uI_fr (List.mem_cons_of_mem _ List.mem_cons_self), fun j hj => by unfold uI; rw [if_neg (fun c => hj c.2)], by unfold uI; rw [if_pos ⟨rfl, rfl⟩]; rfl, fun j hj => absurd hj (Nat.not_lt_zero j), fun j _ => by unfold uI; rw [if_neg (fun c => n910 c.1)]⟩
  obtain ⟨V1, e1, w1⟩ := M190_77 M S hb ht lb lt KB KT hP hT (by omega) s ((P.length : Int) - s).toNat s _ [] (by omega) (by omega) (by rw [List.length_nil]; omega) w0
  rw [List.nil_append] at w1
  obtain ⟨u, hu⟩ : ∃ u, u = lc 47 (P.drop s.toNat) := ⟨_, rfl⟩
  have ur := lc_r 47 (P.drop s.toNat)
  rw [List.length_drop] at ur
  rw [← hu] at w1 ur
  have l1 : (ups u.toNat).length ≤ 1200 := by rw [ups_len]; omega
  obtain ⟨c', hc, hc2, e2⟩ := M190_138 (b := b) (V := V1) (w1.sz M S) ht lt (w1.mK M KT) hT (by omega) P.length s sr'.1 ((T.length : Int) - s).toNat s 0 (Int.le_refl _) (by omega) (fun j h0 h1 => by omega) (Or.inl rfl) ⟨fun w => absurd w (by decide), fun ⟨j, j0, j1, _⟩ => by omega⟩
  have cr := (cfn_r (gl T) 47 s T.length).1 (by omega)
  have c58 : c' = 1 ↔ cfn (gl T) 58 s (cfn (gl T) 47 s T.length) < cfn (gl T) 47 s T.length := by
    rw [hc2]
    have cq := (cfn_r (gl T) 58 s (cfn (gl T) 47 s T.length)).1 cr.1
    refine ⟨fun ⟨j, j0, j1, j2⟩ => ?_, fun w => ⟨_, cq.1, w, cfn_hit2 cr.1 w⟩⟩
    by_cases z : cfn (gl T) 58 s (cfn (gl T) 47 s T.length) < cfn (gl T) 47 s T.length
    · exact z
    · exact absurd j2 (cfn_no2 cr.1 j0 (by omega))
  have nd : (s = (T.length : Int) ∨ cfn (gl T) 47 s T.length = s ∨ c' = 1) ↔ ndp T s = 1 := by
    unfold ndp
    rw [bI_i, ← c58]
    exact ⟨fun w => w.elim (fun z => Or.inl (by omega)) id, Or.inr⟩
  have z4 : V1 (sr sh m 10) (Int.toNat 4) = ((ups u.toNat).length : Int) := w1.2.2.1
  rw [ups_len] at z4
  have fin : ∀ (V2 : wSt) (X : List Int), X.length ≤ 1300 → Wy sh m X V V2 → X ++ T.drop s.toNat = clm P T → ∃ V', wev zP 190 229 [some (wR m), some (wI b), some (wI t), some (wI s), some (wI P.length), some (wI T.length), some (wI c'), some (wI (cfn (gl T) 47 s T.length)), none] [] (sh, V2) = rN (sh, V') ∧ Wy sh m (clm P T) V V' := fun V2 X lX w2 eX => by
    obtain ⟨V3, e3, w3⟩ := M190_232 (b := b) M S ht lt KT hT (by omega) P.length s c' (cfn (gl T) 47 s T.length) ((T.length : Int) - s).toNat s V2 X (by omega) (by omega) (by omega) w2
    rw [eX] at w3
    exact ⟨V3, by rw [w190_229]; exact e3, w3⟩
  have start : wcl zP 190 [wR m, wI b, wI t] (sh, V) = wev zP 190 138 [some (wR m), some (wI b), some (wI t), some (wI s), some (wI P.length), some (wI T.length), some (wI 0), some (wI s), none] [] (sh, V1) := by
    rw [w190_0, pz]
    simp only [wcx_v, wput_s, w190_8]
    rw [e13, e1]
  rw [start, e2]
  have ec : clm P T = ups u.toNat ++ ((if u = 0 ∧ ndp T s = 1 then [46, 47] else []) ++ T.drop s.toNat) := by unfold clm; rw [← hs, ← hu]
  by_cases u0 : u = 0
  · rw [if_pos (by omega)]
    by_cases d : ndp T s = 1
    · rw [if_pos (nd.mpr d)]
      rw [if_pos ⟨u0, d⟩] at ec
      obtain ⟨V2, e3, w2⟩ := w1.lay M 46 (by omega)
      obtain ⟨V3, e4, w3⟩ := w2.lay M 47 (by rw [List.length_append]; simp only [List.length_cons, List.length_nil]; omega)
      rw [List.append_assoc] at w3
      obtain ⟨V4, e5, w4⟩ := fin V3 _ (by rw [List.length_append]; simp only [List.length_cons, List.length_append, List.length_nil]; omega) w3 (by rw [ec, List.append_assoc]; rfl)
      refine ⟨V4, ?_, w4⟩
      rw [e3]
      simp only [wcx_v, wput_n, w190_222]
      rw [e4]
      simp only [wcx_v, wput_n]
      exact e5
    · rw [if_neg (fun w => d (nd.mp w))]
      rw [if_neg (fun w => d w.2), List.nil_append] at ec
      exact fin V1 _ (by omega) w1 ec.symm
  · rw [if_neg (by omega)]
    rw [if_neg (fun w => u0 w.1), List.nil_append] at ec
    exact fin V1 _ (by omega) w1 ec.symm
end
