set_option maxRecDepth 16384
/-! the model: one part that is laid -/
def l1 (sh : zSh) (V : wSt) (m k : Nat) (X : List Int × Int) : Prop := (0 ≤ V (sr sh m 10) k ∧ V (sr sh m 10) k ≤ 1500) ∧ (ly sh V m k, V (sr sh m 11) k) = X
theorem l1.sz {sh : zSh} {V : wSt} {m k : Nat} {X : List Int × Int} (K : l1 sh V m k X) : V (sr sh m 10) k = (X.1.length : Int) := by
  have g := K.2
  have e : X.1 = ly sh V m k := by rw [← g]
  have := K.1
  rw [e, ly_len]; omega
theorem l1.th {sh : zSh} {V : wSt} {m k : Nat} {X : List Int × Int} (K : l1 sh V m k X) : V (sr sh m 11) k = X.2 := by rw [← K.2]
theorem l1.gl {sh : zSh} {V : wSt} {m k : Nat} {X : List Int × Int} (K : l1 sh V m k X) (j : Int) : Jvm.Pilot.CLinkLibraryLaw_law_r7063_89e837.gl X.1 j = if 0 ≤ j ∧ j < (X.1.length : Int) then V (sr sh m 9) (1500 * k + j.toNat) else -1 := by
  have s := K.sz
  by_cases c : 0 ≤ j ∧ j < (X.1.length : Int)
  · have l : X.1 = ly sh V m k := by rw [← K.2]
    rw [if_pos c, gl_in c.1 c.2, l, List.getD_eq_getElem?_getD, ly_g, if_pos (by omega)]; rfl
  · rw [if_neg c]; exact gl_out (by omega)
/-- a part is told by its size, its signs, whether it is there -/
theorem l1_of {sh : zSh} {V : wSt} {m k : Nat} {X : List Int × Int} (h : V (sr sh m 10) k = (X.1.length : Int)) (h2 : X.1.length ≤ 1500) (t : V (sr sh m 11) k = X.2) (g : ∀ j : Nat, j < X.1.length → V (sr sh m 9) (1500 * k + j) = Jvm.Pilot.CLinkLibraryLaw_law_r7063_89e837.gl X.1 j) : l1 sh V m k X := by
  refine ⟨by omega, Prod.ext ?_ t⟩
  show ly sh V m k = X.1
  refine gl_ext (by rw [ly_len]; omega) (fun j h0 h1 => ?_)
  rw [gl_in h0 (by rw [ly_len]; omega), List.getD_eq_getElem?_getD, ly_g, if_pos (by omega)]
  have := g j.toNat (by omega)
  rw [Int.toNat_of_nonneg h0] at this
  exact this
/-- other parts stay -/
def Lf (sh : zSh) (m k : Nat) (V V' : wSt) : Prop := FrO (lyO sh m) V V' ∧ ∀ j, j < 7 → j ≠ k → ∀ X, l1 sh V m j X → l1 sh V' m j X
theorem Lf.refl {sh : zSh} {m k : Nat} {V : wSt} : Lf sh m k V V := ⟨FrO.refl, fun _ _ _ _ h => h⟩
theorem Lf.trans {sh : zSh} {m k : Nat} {V V' W : wSt} (h : Lf sh m k V V') (g : Lf sh m k V' W) : Lf sh m k V W := ⟨h.1.trans g.1, fun j hj n X x => g.2 j hj n X (h.2 j hj n X x)⟩
theorem Lf.K {sh : zSh} {m k : Nat} {V V' : wSt} {Q : Nat → List Int × Int} {X : List Int × Int} (h : Lf sh m k V V') (q : lK sh V m Q) (x : l1 sh V' m k X) : lK sh V' m (pup Q k X) := fun j hj => by
  unfold pup
  by_cases c : j = k
  · rw [if_pos c, c]; exact x
  · rw [if_neg c]; exact h.2 j hj c _ (q j hj)
/-- all parts but the path -/
def lK6 (sh : zSh) (V : wSt) (m : Nat) (Q : Nat → List Int × Int) : Prop := ∀ k, k < 7 → k ≠ 4 → l1 sh V m k (Q k)
theorem lK.six {sh : zSh} {V : wSt} {m : Nat} {Q : Nat → List Int × Int} (h : lK sh V m Q) : lK6 sh V m Q := fun k hk _ => h k hk
theorem Lf.K6 {sh : zSh} {m k : Nat} {V V' : wSt} {Q : Nat → List Int × Int} {X : List Int × Int} (h : Lf sh m k V V') (q : lK6 sh V m Q) (x : l1 sh V' m k X) : lK6 sh V' m (pup Q k X) := fun j hj n => by
  unfold pup
  by_cases c : j = k
  · rw [if_pos c, c]; exact x
  · rw [if_neg c]; exact h.2 j hj c _ (q j hj n)
theorem Lf.K4 {sh : zSh} {m : Nat} {V V' : wSt} {Q : Nat → List Int × Int} {X : List Int × Int} (h : Lf sh m 4 V V') (q : lK6 sh V m Q) (x : l1 sh V' m 4 X) : lK sh V' m (pup Q 4 X) := fun j hj => by
  unfold pup
  by_cases c : j = 4
  · rw [if_pos c, c]; exact x
  · rw [if_neg c]; exact h.2 j hj c _ (q j hj c)
theorem lK6.cg {sh : zSh} {V : wSt} {m : Nat} {Q Q' : Nat → List Int × Int} (K : lK6 sh V m Q) (e : ∀ k, k < 7 → k ≠ 4 → Q k = Q' k) : lK6 sh V m Q' := fun k hk n => by rw [← e k hk n]; exact K k hk n
theorem lK6_fr {sh : zSh} {V V' : wSt} {m : Nat} {Q : Nat → List Int × Int} (K : lK6 sh V m Q) (e9 : V' (sr sh m 9) = V (sr sh m 9)) (e10 : V' (sr sh m 10) = V (sr sh m 10)) (e11 : V' (sr sh m 11) = V (sr sh m 11)) : lK6 sh V' m Q := fun k hk n => by
  have g := K k hk n
  unfold l1 ly at g ⊢
  rw [e9, e10, e11]; exact g
theorem M160l {sh : zSh} {V : wSt} {m : Nat} {k : Int} {X : List Int × Int} (K : l1 sh V m k.toNat X) (hk : 0 ≤ k ∧ k ≤ 6) (j : Int) : wcl zP 160 [wR m, wI k, wI j] (sh, V) = rI (gl X.1 j) (sh, V) := by
  have sz := K.sz
  have q := K.1
  have g := K.gl j
  rw [w160_0, sz, g]
  by_cases c : j < 0
  · rw [if_pos c, if_neg (by omega)]
  · rw [if_neg c]
    by_cases d : (X.1.length : Int) ≤ j
    · rw [if_pos d, if_neg (by omega)]
    · rw [if_neg d, if_pos (by omega), wr_eq (x := 1500 * k) (by omega) (by omega), wr_eq (by omega) (by omega), show (1500 * k + j).toNat = 1500 * k.toNat + j.toNat by omega]
/-- cells and sizes that change leave other parts -/
theorem Lf_of {sh : zSh} {m k : Nat} {V V' : wSt} (f : FrO (lyO sh m) V V') (h10 : ∀ j, j ≠ k → V' (sr sh m 10) j = V (sr sh m 10) j) (h11 : ∀ j, j ≠ k → V' (sr sh m 11) j = V (sr sh m 11) j) (h9 : ∀ j : Nat, (j < 1500 * k ∨ 1500 * k + 1500 ≤ j) → V' (sr sh m 9) j = V (sr sh m 9) j) : Lf sh m k V V' := by
  refine ⟨f, fun j hj n X x => ?_⟩
  have sz := x.sz
  have x1 := x.1
  refine l1_of (by rw [h10 j n]; exact sz) (by omega) (by rw [h11 j n]; exact x.th) (fun i hi => ?_)
  rw [h9 _ (by omega), x.gl, if_pos (by omega), Int.toNat_natCast]
theorem M152l {sh : zSh} {V : wSt} {m : Nat} (M : wMd sh m) {k : Int} (hk : 0 ≤ k ∧ k ≤ 6) {X : List Int × Int} (K : l1 sh V m k.toNat X) (x : Int) (hs : X.1.length < 1500) : ∃ V', wcl zP 152 [wR m, wI k, wI x] (sh, V) = rN (sh, V') ∧ Lf sh m k.toNat V V' ∧ l1 sh V' m k.toNat (X.1 ++ [x], X.2) := by
  have n910 : sr sh m 9 ≠ sr sh m 10 := M.n (by decide) (by decide) (by decide)
  have n911 : sr sh m 11 ≠ sr sh m 9 := M.n (by decide) (by decide) (by decide)
  have n1011 : sr sh m 11 ≠ sr sh m 10 := M.n (by decide) (by decide) (by decide)
  have sz := K.sz
  have q := K.1
  rw [w152_0, wr_eq (x := 1500 * k) (by omega) (by omega), wr_eq (x := 1500 * k + _) (by omega) (by omega)]
  have e1 : uI V (sr sh m 9) (Int.toNat (1500 * k + V (sr sh m 10) k.toNat)) x (sr sh m 10) (Int.toNat k) = V (sr sh m 10) k.toNat := by unfold uI; rw [if_neg (fun c => n910 c.1.symm)]
  rw [e1, wr_eq (by omega) (by omega)]
  obtain ⟨W, hW⟩ : ∃ W, W = uI (uI V (sr sh m 9) (Int.toNat (1500 * k + V (sr sh m 10) k.toNat)) x) (sr sh m 10) (Int.toNat k) (V (sr sh m 10) k.toNat + 1) := ⟨_, rfl⟩
  rw [← hW]
  have w10 : ∀ j, W (sr sh m 10) j = if j = k.toNat then V (sr sh m 10) k.toNat + 1 else V (sr sh m 10) j := fun j => by
    rw [hW]; unfold uI
    by_cases d : j = k.toNat
    · rw [if_pos ⟨rfl, d⟩, if_pos d]
    · rw [if_neg (fun c => d c.2), if_neg (fun c => n910 c.1.symm), if_neg d]
  have w9 : ∀ j, W (sr sh m 9) j = if j = 1500 * k.toNat + (V (sr sh m 10) k.toNat).toNat then x else V (sr sh m 9) j := fun j => by
    rw [hW]; unfold uI
    rw [if_neg (fun c => n910 c.1)]
    by_cases d : j = 1500 * k.toNat + (V (sr sh m 10) k.toNat).toNat
    · rw [if_pos ⟨rfl, by omega⟩, if_pos d]
    · rw [if_neg (fun c => d (by have := c.2; omega)), if_neg d]
  have w11 : W (sr sh m 11) = V (sr sh m 11) := by
    funext j; rw [hW]; unfold uI; rw [if_neg (fun c => n1011 c.1), if_neg (fun c => n911 c.1)]
  refine ⟨W, rfl, Lf_of (lyO_9 (by rw [hW]; exact (uI_fr (List.mem_cons_self)).trans (uI_fr (List.mem_cons_of_mem _ (List.mem_cons_self))))) (fun j hj => by rw [w10, if_neg hj]) (fun j _ => by rw [w11]) (fun j hj => by rw [w9, if_neg (by omega)]), ?_⟩
  refine l1_of (by rw [w10, if_pos rfl, sz]; simp only [List.length_append, List.length_cons, List.length_nil]; omega) (by simp only [List.length_append, List.length_cons, List.length_nil]; omega) (by rw [w11]; exact K.th) (fun j hj => ?_)
  simp only [List.length_append, List.length_cons, List.length_nil] at hj
  show W (sr sh m 9) (1500 * k.toNat + j) = gl (X.1 ++ [x]) j
  rw [w9, gl_app]
  by_cases c : j < X.1.length
  · rw [if_neg (by omega), if_pos (by omega), K.gl, if_pos (by omega), Int.toNat_natCast]
  · rw [if_pos (by omega), if_neg (by omega), gl_cons, if_pos (by omega)]
/-- one cell of a part -/
theorem l1_set {sh : zSh} {V : wSt} {m k : Nat} (M : wMd sh m) {X : List Int × Int} (K : l1 sh V m k X) (j x : Int) (hj : 0 ≤ j) (h2 : j < (X.1.length : Int)) (a : Nat) (ha : a = 1500 * k + j.toNat) : Lf sh m k V (uI V (sr sh m 9) a x) ∧ l1 sh (uI V (sr sh m 9) a x) m k (lset X.1 j x, X.2) := by
  have n910 : sr sh m 10 ≠ sr sh m 9 := M.n (by decide) (by decide) (by decide)
  have n911 : sr sh m 11 ≠ sr sh m 9 := M.n (by decide) (by decide) (by decide)
  have sz := K.sz
  have q := K.1
  obtain ⟨W, hW⟩ : ∃ W, W = uI V (sr sh m 9) a x := ⟨_, rfl⟩
  rw [← hW]
  have w9 : ∀ i, W (sr sh m 9) i = if i = a then x else V (sr sh m 9) i := fun i => by
    rw [hW]; unfold uI
    by_cases d : i = a
    · rw [if_pos ⟨rfl, d⟩, if_pos d]
    · rw [if_neg (fun c => d c.2), if_neg d]
  have w10 : W (sr sh m 10) = V (sr sh m 10) := by funext i; rw [hW]; unfold uI; rw [if_neg (fun c => n910 c.1)]
  have w11 : W (sr sh m 11) = V (sr sh m 11) := by funext i; rw [hW]; unfold uI; rw [if_neg (fun c => n911 c.1)]
  refine ⟨Lf_of (by rw [hW]; unfold lyO; exact uI_fr (List.mem_cons_self)) (fun i _ => by rw [w10]) (fun i _ => by rw [w11]) (fun i hi => by rw [w9, if_neg (by omega)]), ?_⟩
  refine l1_of (by rw [w10, sz]; show _ = ((lset X.1 j x).length : Int); rw [lset_len]) (by show (lset X.1 j x).length ≤ 1500; rw [lset_len]; omega) (by rw [w11]; exact K.th) (fun i hi => ?_)
  show W (sr sh m 9) (1500 * k + i) = gl (lset X.1 j x) i
  have hi : i < (lset X.1 j x).length := hi
  rw [lset_len] at hi
  rw [w9, gl_lset]
  by_cases c : (i : Int) = j
  · rw [if_pos (by omega), if_pos ⟨hj, h2, c⟩]
  · rw [if_neg (by omega), if_neg (fun w => c w.2.2), K.gl, if_pos (by omega), Int.toNat_natCast]
/-- a part is emptied -/
theorem M_reset1 {sh : zSh} {V : wSt} {m : Nat} (M : wMd sh m) (k : Nat) (th : Int) (ht : wi8 th = th) : Lf sh m k V (uI (uI V (sr sh m 11) k (wi8 th)) (sr sh m 10) k 0) ∧ l1 sh (uI (uI V (sr sh m 11) k (wi8 th)) (sr sh m 10) k 0) m k ([], th) := by
  have n910 : sr sh m 9 ≠ sr sh m 10 := M.n (by decide) (by decide) (by decide)
  have n911 : sr sh m 11 ≠ sr sh m 9 := M.n (by decide) (by decide) (by decide)
  have n1011 : sr sh m 11 ≠ sr sh m 10 := M.n (by decide) (by decide) (by decide)
  obtain ⟨W, hW⟩ : ∃ W, W = uI (uI V (sr sh m 11) k (wi8 th)) (sr sh m 10) k 0 := ⟨_, rfl⟩
  have w10 : ∀ j, W (sr sh m 10) j = if j = k then 0 else V (sr sh m 10) j := fun j => by
    rw [hW]; unfold uI
    by_cases d : j = k
    · rw [if_pos ⟨rfl, d⟩, if_pos d]
    · rw [if_neg (fun c => d c.2), if_neg (fun c => n1011 c.1.symm), if_neg d]
  have w11 : ∀ j, W (sr sh m 11) j = if j = k then th else V (sr sh m 11) j := fun j => by
    rw [hW]; unfold uI
    rw [if_neg (fun c => n1011 c.1)]
    by_cases d : j = k
    · rw [if_pos ⟨rfl, d⟩, if_pos d, ht]
    · rw [if_neg (fun c => d c.2), if_neg d]
  have w9 : W (sr sh m 9) = V (sr sh m 9) := by
    funext j; rw [hW]; unfold uI; rw [if_neg (fun c => n910 c.1), if_neg (fun c => n911 c.1.symm)]
  rw [← hW]
  refine ⟨Lf_of ?_ (fun j hj => by rw [w10, if_neg hj]) (fun j hj => by rw [w11, if_neg hj]) (fun j _ => by rw [w9]), ?_⟩
  · rw [hW]; unfold lyO
    exact (uI_fr (List.mem_cons_of_mem _ (List.mem_cons_of_mem _ (List.mem_cons_self)))).trans (uI_fr (List.mem_cons_of_mem _ (List.mem_cons_self)))
  · exact l1_of (by rw [w10, if_pos rfl]; rfl) (Nat.zero_le _) (by rw [w11, if_pos rfl]) (fun j hj => absurd hj (Nat.not_lt_zero j))
theorem M153l_34 {sh : zSh} {m : Nat} (M : wMd sh m) {r k : Int} (hr : 0 ≤ r ∧ r ≤ 13) (hk : 0 ≤ k ∧ k ≤ 6) (L : List Int) (hL : L.length ≤ 1499) : ∀ (n : Nat) (V : wSt) (X : List Int × Int) (j : Int), (((cutQ L k.toNat).1.length : Int) - j).toNat = n → 0 ≤ j → j ≤ (cutQ L k.toNat).1.length → mSz sh V m → mK sh V m r L → l1 sh V m k.toNat X → X.1 = (cutQ L k.toNat).1.take j.toNat → ∃ V', wev zP 153 34 [some (wR m), some (wI k), some (wI r), some (wI j)] [] (sh, V) = rN (sh, V') ∧ Lf sh m k.toNat V V' ∧ l1 sh V' m k.toNat ((cutQ L k.toNat).1, X.2) := by
  have cl := cutQ_le L k.toNat (by omega)
  intro n
  induction n with
  | zero =>
    intro V X j hn hj hj2 S K lq hq
    refine ⟨V, ?_, Lf.refl, ?_⟩
    · rw [w153_34, M135q K (by omega) hr hk]
      simp only [wcx_v, wput_s, w153_41]
      rw [if_pos (by omega)]
    · have e : (cutQ L k.toNat).1 = X.1 := by rw [hq, List.take_of_length_le (by omega)]
      rw [e]; exact lq
  | succ n ih =>
    intro V X j hn hj hj2 S K lq hq
    obtain ⟨V1, e1, f1, l1⟩ := M152l M hk lq (gl (cutQ L k.toNat).1 j) (by rw [hq, List.length_take]; omega)
    obtain ⟨V2, e2, f2, l2⟩ := ih V1 _ (j + 1) (by omega) (by omega) (by omega) (mSz_fr M S f1.1) (mK_fr M K f1.1) l1 (by show X.1 ++ [gl (cutQ L k.toNat).1 j] = _; rw [hq, take_gl hj (by omega)])
    refine ⟨V2, ?_, f1.trans f2, l2⟩
    rw [w153_34, M135q K (by omega) hr hk]
    simp only [wcx_v, wput_s, w153_41]
    rw [if_neg (by omega), M136q S K (by omega) hr hk j (by omega)]
    simp only [wcx_v, wput_s, w153_53]
    rw [e1]
    simp only [wcx_v, wput_n, w153_56]
    rw [wr_eq (by omega) (by omega), e2]
theorem M153l {sh : zSh} {V : wSt} {m : Nat} (M : wMd sh m) (S : mSz sh V m) {r k : Int} (hr : 0 ≤ r ∧ r ≤ 13) (hk : 0 ≤ k ∧ k ≤ 6) {L : List Int} (hL : L.length ≤ 1499) (K : mK sh V m r L) : ∃ V', wcl zP 153 [wR m, wI k, wI r] (sh, V) = rN (sh, V') ∧ Lf sh m k.toNat V V' ∧ l1 sh V' m k.toNat (cutQ L k.toNat) := by
  have go : ∀ th : Int, th = (cutQ L k.toNat).2 → wi8 th = th → ∃ V', wev zP 153 34 [some (wR m), some (wI k), some (wI r), some (wI 0)] [] (sh, uI (uI V (sr sh m 11) (Int.toNat k) (wi8 th)) (sr sh m 10) (Int.toNat k) 0) = rN (sh, V') ∧ Lf sh m k.toNat V V' ∧ l1 sh V' m k.toNat (cutQ L k.toNat) := fun th h1 h2 => by
    obtain ⟨f, l⟩ := M_reset1 (V := V) M k.toNat th h2
    obtain ⟨V2, e2, f2, l2⟩ := M153l_34 M hr hk L hL _ _ _ 0 rfl (by decide) (Int.natCast_nonneg _) (mSz_fr M S f.1) (mK_fr M K f.1) l rfl
    refine ⟨V2, e2, f.trans f2, ?_⟩
    rw [h1] at l2; exact l2
  have w0 : wi8 0 = 0 := by decide
  have w1 : wi8 1 = 1 := by decide
  rw [w153_0]
  by_cases c : k = 4
  · rw [if_pos c]
    exact go 1 (by rw [c]; exact (cutQ4 L).symm) w1
  · rw [if_neg c, M134q K hr hk]
    simp only [wcx_v, wput_s, w153_16]
    rcases (cutQ_l L k.toNat (by omega)).2.1 with e | e
    · rw [e, if_pos rfl]; exact go 0 e.symm w0
    · rw [e, if_neg (by decide)]; exact go 1 e.symm w1
/-- the authority, where the path may be anything -/
theorem M154l {sh : zSh} {V : wSt} {m : Nat} (M : wMd sh m) (S : mSz sh V m) {r : Int} (hr : 0 ≤ r ∧ r ≤ 13) {L : List Int} (hL : L.length ≤ 1499) (K : mK sh V m r L) {Q : Nat → List Int × Int} (lq : lK6 sh V m Q) : ∃ V', wcl zP 154 [wR m, wI r] (sh, V) = rN (sh, V') ∧ FrO (lyO sh m) V V' ∧ lK6 sh V' m (fun k => if k = 1 ∨ k = 2 ∨ k = 3 then cutQ L k else Q k) := by
  obtain ⟨V1, e1, f1, l1⟩ := M153l M S hr (k := 1) (by decide) hL K
  obtain ⟨V2, e2, f2, l2⟩ := M153l M (mSz_fr M S f1.1) hr (k := 2) (by decide) hL (mK_fr M K f1.1)
  have f12 := f1.1.trans f2.1
  obtain ⟨V3, e3, f3, l3⟩ := M153l M (mSz_fr M S f12) hr (k := 3) (by decide) hL (mK_fr M K f12)
  refine ⟨V3, ?_, f12.trans f3.1, (f3.K6 (f2.K6 (f1.K6 lq l1) l2) l3).cg (fun k hk _ => ?_)⟩
  · rw [w154_0, e1]; simp only [wcx_v, wput_n, w154_6]
    rw [e2]; simp only [wcx_v, wput_n, w154_12]
    rw [e3]; simp only [wcx_v, wput_n, w154_18]
  · show pup (pup (pup Q 1 (cutQ L 1)) 2 (cutQ L 2)) 3 (cutQ L 3) k = _
    unfold pup
    by_cases c3 : k = 3
    · rw [if_pos c3, if_pos (by omega), c3]
    · rw [if_neg c3]
      by_cases c2 : k = 2
      · rw [if_pos c2, if_pos (by omega), c2]
      · rw [if_neg c2]
        by_cases c1 : k = 1
        · rw [if_pos c1, if_pos (by omega), c1]
        · rw [if_neg c1, if_neg (by omega)]
