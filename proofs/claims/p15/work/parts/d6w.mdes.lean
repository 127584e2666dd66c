set_option maxRecDepth 16384
/-! the model: with a segment more -/
theorem hex4 {b : Int} (h : 0 ≤ b ∧ b ≤ 255) : wand (wshr b 4) 15 = wshr b 4 ∧ 0 ≤ wshr b 4 ∧ wshr b 4 ≤ 15 := by
  have a : ∀ i : Fin 256, wand (wshr ((i.val : Nat) : Int) 4) 15 = wshr ((i.val : Nat) : Int) 4 ∧ 0 ≤ wshr ((i.val : Nat) : Int) 4 ∧ wshr ((i.val : Nat) : Int) 4 ≤ 15 := by decide
  have g := a ⟨b.toNat, by omega⟩
  rw [show (((⟨b.toNat, by omega⟩ : Fin 256).val : Nat) : Int) = b by show ((b.toNat : Nat) : Int) = b; omega] at g
  exact g
theorem cod_app (A B : List Int) : cod (A ++ B) = cod A ++ cod B := by
  induction A with
  | nil => rfl
  | cons b A ih => rw [List.cons_append, cod, cod, ih, List.append_assoc]
section
variable {sh : zSh} {m : Nat} {V : wSt} {tp ou : List Int} {rw' : Nat → List Int}
theorem Wy_lK {Q : Nat → List Int × Int} {X : List Int} {V1 : wSt} (M : wMd sh m) (K : lK sh V m Q) (w : Wy sh m X V V1) : lz sh V1 m (pup Q 4 (X, (Q 4).2)) ∧ (X.length ≤ 1490 → lK sh V1 m (pup Q 4 (X, (Q 4).2))) := by
  obtain ⟨f6, z6, y6, c6, o6⟩ := w
  have n11 : V1 (sr sh m 11) = V (sr sh m 11) := f6 _ (fun q => by
    simp only [List.mem_cons, List.not_mem_nil, or_false] at q
    rcases q with q | q
    · exact M.n (by decide) (by decide) (by decide) q
    · exact M.n (by decide) (by decide) (by decide) q)
  have q4 : pup Q 4 (X, (Q 4).2) 4 = (X, (Q 4).2) := pup_at Q 4 _
  have qk : ∀ k, k ≠ 4 → pup Q 4 (X, (Q 4).2) k = Q k := fun k hk => by unfold pup; rw [if_neg hk]
  refine ⟨fun k hk => ?_, fun hl k hk => ?_⟩
  · by_cases k4 : k = 4
    · subst k4; rw [q4]; exact ⟨y6, by rw [n11, K.th (by decide)]⟩
    · rw [qk k k4]; exact ⟨by rw [z6 k k4]; exact K.sz hk, by rw [n11]; exact K.th hk⟩
  · by_cases k4 : k = 4
    · subst k4
      rw [q4]
      exact l1_of (X := (X, (Q 4).2)) y6 (by show X.length ≤ 1500; omega) (by rw [n11, K.th (by decide)]) (fun j hj => c6 j hj)
    · rw [qk k k4]
      have a5 := (K k hk).1
      have sz := K.sz hk
      refine l1_of (X := Q k) (by rw [z6 k k4]; exact sz) (by omega) (by rw [n11]; exact K.th hk) (fun j hj => ?_)
      rw [o6 _ (by omega)]
      have := K.gl hk j
      rw [if_pos (by omega)] at this
      exact this.symm
theorem Wy_start {Q : Nat → List Int × Int} (K : lK sh V m Q) : Wy sh m (Q 4).1 V V := ⟨FrO.refl, fun _ _ => rfl, K.sz (by decide), fun j hj => by
  have := K.gl (k := 4) (by decide) j
  rw [if_pos (by omega)] at this
  exact this.symm, fun _ _ => rfl⟩
theorem M201_48 {i n : Int} {L : List Int} (M : wMd sh m) (S : mSz sh V m) (hi : 0 ≤ i ∧ i ≤ 13) (hL : L.length ≤ 400) : ∀ (q k : Nat) (V1 : wSt), k + q = 7 → Lp sh m V i L k V1 → ∃ V2, wev zP 201 48 [some (wR m), some (wI i), some (wI n), some (wI k), none, none] [] (sh, V1) = wev zP 201 48 [some (wR m), some (wI i), some (wI n), some (wI 7), none, none] [] (sh, V2) ∧ Lp sh m V i L 7 V2 := by
  intro q
  induction q with
  | zero => intro k V1 hk p; rw [show k = 7 by omega] at p ⊢; exact ⟨V1, rfl, p⟩
  | succ q ih =>
    intro k V1 hk p
    obtain ⟨V2, e2, p2⟩ := p.step M S hi hL (by omega)
    obtain ⟨V3, e3, p3⟩ := ih (k + 1) V2 (by omega) p2
    refine ⟨V3, ?_, p3⟩
    rw [w201_48, if_neg (by omega), e2]
    simp only [wcx_v, wput_n, w201_60]
    rw [wr_eq (by omega) (by omega)]
    exact e3
/-- the new segment's signs -/
theorem M201_112 {i x3 : Int} {T : List Int} (M : wMd sh m) (hT : ∀ x, x ∈ T → 0 ≤ x ∧ x ≤ 255) (lT : T.length ≤ 400) (c1 : ∀ j : Nat, j < T.length → V (sr sh m 1) (19500 + j) = gl T j) : ∀ (q : Nat) (k : Nat) (V1 : wSt) (X : List Int) (o5 : Option wV), k + q = T.length → X.length ≤ 500 + 3 * k → Wy sh m X V V1 → ∃ V2 o5', wev zP 201 112 [some (wR m), some (wI i), some (wI T.length), some (wI x3), some (wI k), o5] [] (sh, V1) = wcx (wcl zP 202 [wR m, wI 8] (sh, V2)) (fun v h' => wev zP 201 193 [some (wR m), some (wI i), some (wI T.length), some (wI x3), some (wI T.length), o5'] (wput v []) h') wth ∧ Wy sh m (X ++ cod (T.drop k)) V V2 := by
  intro q
  induction q with
  | zero =>
    intro k V1 X o5 hk hl w
    refine ⟨V1, o5, ?_, ?_⟩
    · rw [w201_112, if_pos (by omega), show (k : Int) = (T.length : Int) by omega]
    · rw [List.drop_of_length_le (by omega)]
      show Wy sh m (X ++ []) V V1
      rw [List.append_nil]; exact w
  | succ q ih =>
    intro k V1 X o5 hk hl w
    have d : T.drop k = gl T k :: T.drop (k + 1) := by
      have := drop_gl (L := T) (k := (k : Int)) (by omega) (by omega)
      rw [Int.toNat_natCast, show ((k : Int) + 1).toNat = k + 1 by omega] at this; exact this
    have br := hT _ (gl_mem (X := T) (i := (k : Int)) (by omega) (by omega))
    have c : V1 (sr sh m 1) (19500 + k) = gl T k := by
      rw [w.1 _ (fun q => by
        simp only [List.mem_cons, List.not_mem_nil, or_false] at q
        rcases q with q | q
        · exact M.n (by decide) (by decide) (by decide) q
        · exact M.n (by decide) (by decide) (by decide) q)]
      exact c1 k (by omega)
    obtain ⟨b, hb⟩ : ∃ b, b = gl T k := ⟨_, rfl⟩
    rw [← hb] at d br c
    have nx : ∀ (V2 : wSt) (Y : List Int), Wy sh m (X ++ Y) V V2 → Y = cod1 b → ∃ V3 o5', wev zP 201 181 [some (wR m), some (wI i), some (wI T.length), some (wI x3), some (wI k), some (wI b)] [] (sh, V2) = wcx (wcl zP 202 [wR m, wI 8] (sh, V3)) (fun v h' => wev zP 201 193 [some (wR m), some (wI i), some (wI T.length), some (wI x3), some (wI T.length), o5'] (wput v []) h') wth ∧ Wy sh m (X ++ cod (T.drop k)) V V3 := fun V2 Y w2 hY => by
      have yl : Y.length ≤ 3 := by rw [hY]; unfold cod1; split <;> simp only [List.length_cons, List.length_nil] <;> omega
      obtain ⟨V3, o5', e3, w3⟩ := ih (k + 1) V2 (X ++ Y) (some (wI b)) (by omega) (by rw [List.length_append]; omega) w2
      refine ⟨V3, o5', ?_, ?_⟩
      · rw [w201_181, wr_eq (by omega) (by omega), show (k : Int) + 1 = ((k + 1 : Nat) : Int) by omega]; exact e3
      · rw [d, cod, ← hY]
        rw [List.append_assoc] at w3; exact w3
    rw [w201_112, if_neg (by omega), wr_eq (x := 19500 + (k : Int)) (by omega) (by omega), show (19500 + (k : Int)).toNat = 19500 + k by omega, c, M123]
    simp only [wcx_v, wput_s, w201_136]
    by_cases f : pFree b = 0
    · rw [if_pos f]
      obtain ⟨h4, h40, h41⟩ := hex4 br
      have cr := cod_r br
      obtain ⟨V2, e2, w2⟩ := w.lay M 37 (by omega)
      obtain ⟨V3, e3, w3⟩ := w2.lay M (cdg (wshr b 4)) (by rw [List.length_append]; simp only [List.length_cons, List.length_nil]; omega)
      obtain ⟨V4, e4, w4⟩ := w3.lay M (cdg (wand b 15)) (by rw [List.length_append, List.length_append]; simp only [List.length_cons, List.length_nil]; omega)
      rw [List.append_assoc, List.append_assoc] at w4
      obtain ⟨V5, o5', e5, w5⟩ := nx V4 _ w4 (by unfold cod1; rw [if_pos f, h4]; rfl)
      refine ⟨V5, o5', ?_, w5⟩
      rw [e2]
      simp only [wcx_v, wput_n, w201_156]
      rw [M126 _ _ _ ⟨h40, h41⟩]
      simp only [wcx_v, wput_s, w201_165]
      rw [e3]
      simp only [wcx_v, wput_n, w201_168]
      rw [M126 _ _ _ ⟨cr.2.2.1, cr.2.2.2⟩]
      simp only [wcx_v, wput_s, w201_178]
      rw [e4]
      simp only [wcx_v, wput_n]
      exact e5
    · rw [if_neg f]
      obtain ⟨V2, e2, w2⟩ := w.lay M b (by omega)
      obtain ⟨V5, o5', e5, w5⟩ := nx V2 _ w2 (by unfold cod1; rw [if_neg f])
      refine ⟨V5, o5', ?_, w5⟩
      rw [e2]
      simp only [wcx_v, wput_n, w201_146]
      exact e5
theorem M202_sum {Q : Nat → List Int × Int} (Z : lz sh V m Q) (h : ∀ k, k < 7 → (Q k).1.length ≤ 100000) : wcl zP 202 [wR m, wI 8] (sh, V) = if ((Q 0).1.length : Int) + (Q 1).1.length + (Q 2).1.length + (Q 3).1.length + (Q 4).1.length + (Q 5).1.length + (Q 6).1.length ≤ 400 then wcx (wcl zP 158 [wR m, wI 8] (sh, V)) (fun v h' => wev zP 202 49 [some (wR m), some (wI 8), some (wI (((Q 0).1.length : Int) + (Q 1).1.length + (Q 2).1.length + (Q 3).1.length + (Q 4).1.length + (Q 5).1.length + (Q 6).1.length)), some (wI 7)] (wput v []) h') wth else rN (sh, uI V (sr sh m 2) 8 401) := by
  have h0 := h 0 (by decide); have h1 := h 1 (by decide); have h2 := h 2 (by decide); have h3 := h 3 (by decide); have h4 := h 4 (by decide); have h5 := h 5 (by decide); have h6 := h 6 (by decide)
  have z0 : V (sr sh m 10) (Int.toNat 0) = _ := (Z 0 (by decide)).1
  have z1 : V (sr sh m 10) (Int.toNat 1) = _ := (Z 1 (by decide)).1
  have z2 : V (sr sh m 10) (Int.toNat 2) = _ := (Z 2 (by decide)).1
  have z3 : V (sr sh m 10) (Int.toNat 3) = _ := (Z 3 (by decide)).1
  have z4 : V (sr sh m 10) (Int.toNat 4) = _ := (Z 4 (by decide)).1
  have z5 : V (sr sh m 10) (Int.toNat 5) = _ := (Z 5 (by decide)).1
  have z6 : V (sr sh m 10) (Int.toNat 6) = _ := (Z 6 (by decide)).1
  rw [w202_0]
  rw [w202_4, if_neg (by decide), z0, wr_eq (by omega) (by omega), wr_eq (by decide) (by decide), Int.zero_add, show (0 : Int) + 1 = 1 from rfl]
  rw [w202_4, if_neg (by decide), z1, wr_eq (by omega) (by omega), wr_eq (by decide) (by decide), show (1 : Int) + 1 = 2 from rfl]
  rw [w202_4, if_neg (by decide), z2, wr_eq (by omega) (by omega), wr_eq (by decide) (by decide), show (2 : Int) + 1 = 3 from rfl]
  rw [w202_4, if_neg (by decide), z3, wr_eq (by omega) (by omega), wr_eq (by decide) (by decide), show (3 : Int) + 1 = 4 from rfl]
  rw [w202_4, if_neg (by decide), z4, wr_eq (by omega) (by omega), wr_eq (by decide) (by decide), show (4 : Int) + 1 = 5 from rfl]
  rw [w202_4, if_neg (by decide), z5, wr_eq (by omega) (by omega), wr_eq (by decide) (by decide), show (5 : Int) + 1 = 6 from rfl]
  rw [w202_4, if_neg (by decide), z6, wr_eq (by omega) (by omega), wr_eq (by decide) (by decide), show (6 : Int) + 1 = 7 from rfl]
  rw [w202_4, if_pos (by decide), w202_49]
  rfl
/-- the tape is used up -/
theorem Mx_tape (M : wMd sh m) (s : Mx sh m V tp ou rw') : Mx sh m (uI V (sr sh m 2) 13 0) [] ou rw' := by
  have n12 : sr sh m 1 ≠ sr sh m 2 := M.n (by decide) (by decide) (by decide)
  have n28 : sr sh m 8 ≠ sr sh m 2 := M.n (by decide) (by decide) (by decide)
  have n210 : sr sh m 10 ≠ sr sh m 2 := M.n (by decide) (by decide) (by decide)
  have nm : m ≠ sr sh m 2 := fun w => M.m (j := 2) (by decide) w.symm
  have v2 : ∀ j, j ≠ 13 → uI V (sr sh m 2) 13 0 (sr sh m 2) j = V (sr sh m 2) j := fun j hj => by unfold uI; rw [if_neg (fun c => hj c.2)]
  have vo : ∀ b, b ≠ sr sh m 2 → uI V (sr sh m 2) 13 0 b = V b := fun b hb => by funext j; unfold uI; rw [if_neg (fun c => hb c.1)]
  have z : uI V (sr sh m 2) 13 0 (sr sh m 2) 13 = 0 := by unfold uI; rw [if_pos ⟨rfl, rfl⟩]
  obtain ⟨sz, lo, t13, ⟨oo, o7⟩, rws, lt, lr⟩ := s
  refine ⟨fun r hr => ?_, lOk_fr lo (vo _ n210), ?_, ⟨?_, by rw [vo _ nm]; exact o7⟩, fun p hp => ?_, by decide, lr⟩
  · by_cases c : r = 13
    · rw [c, z]; decide
    · rw [v2 r c]; exact sz r hr
  · exact mx_ext (r := 13) (by show uI V (sr sh m 2) 13 0 (sr sh m 2) 13 = _; rw [z]; rfl) (fun k hk => absurd hk (Nat.not_lt_zero k))
  · rw [← oo]; unfold ox; rw [vo _ nm, vo _ n28]
  · rw [← rws p hp]
    exact mx_same (by rw [Int.toNat_natCast]; exact v2 p (by omega)) (fun k _ => by rw [vo _ n12])
/-- row 8 is too long -/
theorem Mx_8 (M : wMd sh m) (s : Mx sh m V tp ou rw') : Mx sh m (uI V (sr sh m 2) 8 401) tp ou rw' ∧ (mx sh (uI V (sr sh m 2) 8 401) m 8).length = 401 := by
  have n12 : sr sh m 1 ≠ sr sh m 2 := M.n (by decide) (by decide) (by decide)
  have n28 : sr sh m 8 ≠ sr sh m 2 := M.n (by decide) (by decide) (by decide)
  have n210 : sr sh m 10 ≠ sr sh m 2 := M.n (by decide) (by decide) (by decide)
  have nm : m ≠ sr sh m 2 := fun w => M.m (j := 2) (by decide) w.symm
  have v2 : ∀ j, j ≠ 8 → uI V (sr sh m 2) 8 401 (sr sh m 2) j = V (sr sh m 2) j := fun j hj => by unfold uI; rw [if_neg (fun c => hj c.2)]
  have vo : ∀ b, b ≠ sr sh m 2 → uI V (sr sh m 2) 8 401 b = V b := fun b hb => by funext j; unfold uI; rw [if_neg (fun c => hb c.1)]
  have z : uI V (sr sh m 2) 8 401 (sr sh m 2) 8 = 401 := by unfold uI; rw [if_pos ⟨rfl, rfl⟩]
  obtain ⟨sz, lo, t13, ⟨oo, o7⟩, rws, lt, lr⟩ := s
  refine ⟨⟨fun r hr => ?_, lOk_fr lo (vo _ n210), ?_, ⟨?_, by rw [vo _ nm]; exact o7⟩, fun p hp => ?_, lt, lr⟩, ?_⟩
  · by_cases c : r = 8
    · rw [c, z]; decide
    · rw [v2 r c]; exact sz r hr
  · rw [← t13]
    exact mx_same (r := 13) (v2 13 (by decide)) (fun k _ => by rw [vo _ n12])
  · rw [← oo]; unfold ox; rw [vo _ nm, vo _ n28]
  · rw [← rws p hp]
    exact mx_same (by rw [Int.toNat_natCast]; exact v2 p (by omega)) (fun k _ => by rw [vo _ n12])
  · rw [mx_len]; show (uI V (sr sh m 2) 8 401 (sr sh m 2) 8).toNat = 401; rw [z]; rfl
theorem M201 (M : wMd sh m) (s : Mx sh m V tp ou rw') (hT : ∀ x, x ∈ tp → 0 ≤ x ∧ x ≤ 255) (i : Int) : (¬ (0 ≤ i ∧ i < 8) → ∃ V', wcl zP 201 [wR m, wI i] (sh, V) = rI 0 (sh, V') ∧ Mx sh m V' [] ou rw' ∧ V' m 0 = 1) ∧
    (0 ≤ i ∧ i < 8 → ∀ N, N = cmm (qDes (cutQ (rw' i.toNat)) tp) →
      (400 < N.length → ∃ V', wcl zP 201 [wR m, wI i] (sh, V) = rI 0 (sh, V') ∧ Mx sh m V' [] ou rw' ∧ V' m 0 = 2) ∧
      (N.length ≤ 400 → ∃ V', wcl zP 201 [wR m, wI i] (sh, V) = rI (N.length : Int) (sh, V') ∧ Mx sh m V' [] ou (rup rw' i.toNat N) ∧ V' m 0 = 0)) := by
  have nm : m ≠ sr sh m 2 := fun w => M.m (j := 2) (by decide) w.symm
  have cc : ∀ x : Int, uI (uI V m 0 x) (sr sh m 2) (Int.toNat 13) 0 m 0 = x := fun x => by
    have := (fld (V := V) M 0 x).2.2
    unfold uI at this ⊢
    rw [if_neg (fun c => nm c.1)]; exact this
  have st : ∀ x : Int, Mx sh m (uI (uI V m 0 x) (sr sh m 2) (Int.toNat 13) 0) [] ou rw' := fun x => Mx_tape M (Mx_fld M s 0 (by decide) x)
  have n12 : sr sh m 1 ≠ sr sh m 2 := M.n (by decide) (by decide) (by decide)
  have n1m : sr sh m 1 ≠ m := M.m (by decide)
  have tl : V (sr sh m 2) (Int.toNat 13) = (tp.length : Int) := by
    have := mx_sz (sh := sh) (V := V) (m := m) (r := 13) (s.1 13 (by decide)).1
    rw [s.2.2.1] at this; exact this.symm
  have tc : ∀ j : Nat, j < tp.length → V (sr sh m 1) (19500 + j) = gl tp j := fun j hj => by
    have g := mx_g sh V m 13 j
    have tl' : V (sr sh m 2) (13 : Int).toNat = (tp.length : Int) := tl
    rw [s.2.2.1, tl', if_pos (by omega)] at g
    rw [gl_in (by omega) (by omega), Int.toNat_natCast, List.getD_eq_getElem?_getD, g]; rfl
  have lT : tp.length ≤ 400 := s.2.2.2.2.2.1
  refine ⟨fun h => ?_, fun h N hN => ?_⟩
  · refine ⟨_, ?_, st 1, cc 1⟩
    rw [w201_0, M127]
    simp only [wcx_v, wput_s]
    rw [if_neg (fun w => h ⟨w.1, by omega⟩), w201_13, if_pos rfl, cc 1, if_neg (by decide)]
  · have s0 := st 0
    obtain ⟨V0, hV0⟩ : ∃ V0, V0 = uI (uI V m 0 0) (sr sh m 2) (Int.toNat 13) 0 := ⟨_, rfl⟩
    have c0 := cc 0
    rw [← hV0] at s0 c0
    have tc0 : ∀ j : Nat, j < tp.length → V0 (sr sh m 1) (19500 + j) = gl tp j := fun j hj => by
      rw [hV0]; unfold uI
      rw [if_neg (fun c => n12 c.1), if_neg (fun c => n1m c.1)]; exact tc j hj
    have hl := s0.2.2.2.2.2.2 i.toNat (by omega)
    obtain ⟨V1, e1, f1, K1, -⟩ := s0.K M (i := i) (by omega)
    obtain ⟨V2, e2, p2⟩ := M201_48 (n := (tp.length : Int)) M s0.1 (i := i) (by omega) hl 7 0 V1 rfl (Lp.start M s0 f1 K1)
    obtain ⟨sm, lo, K2, l2⟩ := p2
    have s2 := s0.same sm lo
    obtain ⟨L, hL⟩ : ∃ L, L = rw' i.toNat := ⟨_, rfl⟩
    rw [← hL] at hN K2 l2 hl
    have cs := cut_sum L
    have tc2 : ∀ j : Nat, j < tp.length → V2 (sr sh m 1) (19500 + j) = gl tp j := fun j hj => by rw [sm.1]; exact tc0 j hj
    have lq : lK sh V2 m (cutQ L) := fun j hj => l2 j hj
    have FL := Fl_cut L
    obtain ⟨Q, hQ⟩ : ∃ Q, Q = cutQ L := ⟨_, rfl⟩
    rw [← hQ] at lq cs hN FL
    have z4 : V2 (sr sh m 10) (Int.toNat 4) = ((Q 4).1.length : Int) := lq.sz (by decide)
    have t2 : V2 (sr sh m 11) (Int.toNat 2) = (Q 2).2 := lq.th (by decide)
    have w0 := Wy_start lq
    obtain ⟨D, hD⟩ : ∃ D : List Int, D = if dsl Q = 0 then [] else [47] := ⟨_, rfl⟩
    have dl : D.length ≤ 1 := by rw [hD]; split <;> decide
    have e109 : ∃ V3, wev zP 201 48 [some (wR m), some (wI i), some (wI tp.length), some (wI 7), none, none] [] (sh, V2) = wev zP 201 109 [some (wR m), some (wI i), some (wI tp.length), some (wI (Q 4).1.length), none, none] [] (sh, V3) ∧ Wy sh m ((Q 4).1 ++ D) V2 V3 := by
      rw [w201_48, if_pos (by decide), z4, t2]
      have no : dsl Q = 0 → Wy sh m ((Q 4).1 ++ D) V2 V2 := fun d => by rw [hD, if_pos d, List.append_nil]; exact w0
      have go : dsl Q ≠ 0 → ∃ V3, wcx (wcl zP 152 [wR m, wI 4, wI 47] (sh, V2)) (fun v h' => wev zP 201 109 [some (wR m), some (wI i), some (wI tp.length), some (wI (Q 4).1.length), none, none] (wput v []) h') wth = wev zP 201 109 [some (wR m), some (wI i), some (wI tp.length), some (wI (Q 4).1.length), none, none] [] (sh, V3) ∧ Wy sh m ((Q 4).1 ++ D) V2 V3 := fun d => by
        obtain ⟨V3, e3, w3⟩ := w0.lay M 47 (by omega)
        exact ⟨V3, by rw [e3]; simp only [wcx_v, wput_n], by rw [hD, if_neg d]; exact w3⟩
      by_cases c : ((Q 4).1.length : Int) = 0
      · rw [if_pos c]
        have dq : dsl Q = (Q 2).2 := by unfold dsl; rw [if_pos (by omega)]
        by_cases g : (Q 2).2 = 0
        · rw [if_pos g]; exact ⟨V2, rfl, no (by rw [dq]; exact g)⟩
        · rw [if_neg g]; exact go (by rw [dq]; exact g)
      · rw [if_neg c, wr_eq (by omega) (by omega), M160l (k := 4) (lq 4 (by decide)) (by decide)]
        simp only [wcx_v, wput_s, w201_97]
        by_cases g : gl (Q 4).1 ((Q 4).1.length - 1) = 47
        · rw [if_pos g]; exact ⟨V2, rfl, no (by unfold dsl; rw [if_neg (by omega), if_pos g])⟩
        · rw [if_neg g]; exact go (by unfold dsl; rw [if_neg (by omega), if_neg g]; decide)
    obtain ⟨V3, e3, w3⟩ := e109
    obtain ⟨V4, o5, e4, w4⟩ := M201_112 (V := V2) (i := i) (x3 := ((Q 4).1.length : Int)) M hT lT tc2 tp.length 0 V3 _ none (by omega) (by rw [List.length_append]; omega) w3
    rw [List.drop_zero] at w4
    obtain ⟨X, hX⟩ : ∃ X, X = (Q 4).1 ++ D ++ cod tp := ⟨_, rfl⟩
    rw [← hX] at w4
    obtain ⟨Z4, K4⟩ := Wy_lK M lq w4
    have qd : pup Q 4 (X, (Q 4).2) = qDes Q tp := by unfold qDes; rw [hX, hD, List.append_assoc]
    rw [qd] at Z4 K4
    have cl := cod_len tp
    have xl : X.length ≤ 1700 := by rw [hX]; simp only [List.length_append]; omega
    have qk : ∀ k, k ≠ 4 → qDes Q tp k = Q k := fun k hk => by rw [← qd]; unfold pup; rw [if_neg hk]
    have q4 : qDes Q tp 4 = (X, (Q 4).2) := by rw [← qd]; exact pup_at Q 4 _
    have sm4 : mSame sh m V2 V4 := mSame_ly M (w4.1.mono (fun x hx => by
      unfold lyO
      simp only [List.mem_cons, List.not_mem_nil, or_false] at hx ⊢
      rcases hx with h | h
      · exact Or.inl h
      · exact Or.inr (Or.inl h)))
    have lo4 : lOk sh V4 m := fun k hk n => by rw [w4.2.1 k n]; exact lo k hk n
    have s4 := s2.same sm4 lo4
    have c4 : V4 m 0 = 0 := by rw [sm4.2.2.2, sm.2.2.2]; exact c0
    have FD : Fl (qDes Q tp) := by rw [← qd]; exact Fl_pup4 FL FL.2.2.1
    have sum := M202_sum Z4 (fun k hk => by
      by_cases k4 : k = 4
      · rw [k4, q4]; show X.length ≤ 100000; omega
      · rw [qk k k4]
        rcases (by omega : k = 0 ∨ k = 1 ∨ k = 2 ∨ k = 3 ∨ k = 5 ∨ k = 6) with q | q | q | q | q | q <;> subst q <;> omega)
    have nl := cmm_sum (qDes Q tp)
    have jl : ∀ k, k < 7 → (qDes Q tp k).1.length ≤ (jn (qDes Q tp) k).length := fun k hk => by
      by_cases z : (qDes Q tp k).2 = 0
      · rw [FD.2.1 k hk z]; exact Nat.zero_le _
      · rw [jn_l2 z]; simp only [List.length_append]; omega
    have j0 := jl 0 (by decide); have j1 := jl 1 (by decide); have j2 := jl 2 (by decide); have j3 := jl 3 (by decide); have j4 := jl 4 (by decide); have j5 := jl 5 (by decide); have j6 := jl 6 (by decide)
    have nu := cmm_len (qDes Q tp)
    rw [← hN] at nl nu
    have e2' : wev zP 201 48 [some (wR m), some (wI i), some (wI tp.length), some (wI 0), none, none] [] (sh, V1) = _ := e2
    have e4' : wev zP 201 112 [some (wR m), some (wI i), some (wI tp.length), some (wI (Q 4).1.length), some (wI 0), none] [] (sh, V3) = _ := e4
    have run : wcl zP 201 [wR m, wI i] (sh, V) = wcx (wcl zP 202 [wR m, wI 8] (sh, V4)) (fun v h' => wev zP 201 193 [some (wR m), some (wI i), some (wI tp.length), some (wI (Q 4).1.length), some (wI tp.length), o5] (wput v []) h') wth := by
      rw [w201_0, M127]
      simp only [wcx_v, wput_s]
      rw [if_pos ⟨h.1, by omega⟩, w201_13, if_neg (by decide), ← hV0, c0, if_pos (by decide), e1, tl]
      simp only [wcx_v, wput_n, w201_46]
      rw [e2', e3, w201_109, e4']
    clear jl cl
    by_cases c : ((qDes Q tp 0).1.length : Int) + (qDes Q tp 1).1.length + (qDes Q tp 2).1.length + (qDes Q tp 3).1.length + (qDes Q tp 4).1.length + (qDes Q tp 5).1.length + (qDes Q tp 6).1.length ≤ 400
    · rw [if_pos c] at sum
      have k4 := K4 (by have : (qDes Q tp 4).1.length = X.length := by rw [q4]
                        omega)
      obtain ⟨V5, e5, u5⟩ := M158q M s4.1 (r := 8) (by decide) k4 (by rw [← hN]; omega)
      rw [← hN] at u5
      have s5 := s4.hidr M u5 (by decide)
      have c5 : V5 m 0 = 0 := by rw [u5.m M]; exact c4
      have kp := M159q M s5.1 (a := 8) (b := i) (by decide) (by omega) (by omega) 2 (by decide)
      rw [u5.2.2.1] at kp
      have run2 : wcl zP 201 [wR m, wI i] (sh, V) = wcx (wcl zP 159 [wR m, wI i, wI 8, wI 2] (sh, V5)) (fun v h' => wev zP 201 201 [some (wR m), some (wI i), some (wI tp.length), some (wI (Q 4).1.length), some (wI tp.length), o5] (wput v []) h') wth := by
        rw [run, sum, e5]
        simp only [wcx_v, wput_n, w202_49, w201_193]
      refine ⟨fun l => ⟨_, ?_, Mx_fld M s5 0 (by decide) 2, (fld (V := V5) M 0 2).2.2⟩, fun l => ?_⟩
      · rw [run2, kp.2 l]
        simp only [wcx_v, wput_s, w201_201]
      · obtain ⟨V6, e6, u6⟩ := kp.1 l
        refine ⟨V6, ?_, (Mx_fld M s5 0 (by decide) 0).row M u6 (by omega) l, by rw [u6.m M]; exact (fld (V := V5) M 0 0).2.2⟩
        rw [run2, e6]
        simp only [wcx_v, wput_s, w201_201]
    · rw [if_neg c] at sum
      obtain ⟨s5, l5⟩ := Mx_8 M s4
      refine ⟨fun l => ?_, fun l => by omega⟩
      have kp := (M159q M s5.1 (a := 8) (b := i) (by decide) (by omega) (by omega) 2 (by decide)).2 (by rw [l5]; decide)
      refine ⟨_, ?_, Mx_fld M s5 0 (by decide) 2, (fld (V := uI V4 (sr sh m 2) 8 401) M 0 2).2.2⟩
      rw [run, sum]
      simp only [wcx_v, wput_n, w201_193]
      rw [kp]
      simp only [wcx_v, wput_s, w201_201]
end
