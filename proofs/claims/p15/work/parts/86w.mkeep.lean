set_option maxRecDepth 16384
/-! the model: what is kept, what is looked up in what is laid, the guard -/
theorem wMd.m {sh : zSh} {m : Nat} (M : wMd sh m) {j : Nat} (hj : j ∈ zARw) : sr sh m j ≠ m := M.1 j hj
theorem M131q {sh : zSh} {V : wSt} {m : Nat} (M : wMd sh m) (S : mSz sh V m) {a b : Int} (ha : 0 ≤ a ∧ a ≤ 13) (hb : 0 ≤ b ∧ b ≤ 13) (hab : a ≠ b) (hl : (mx sh V m a).length ≤ 1500) : ∃ V', wcl zP 131 [wR m, wI a, wI b] (sh, V) = rN (sh, V') ∧ RmU sh V V' m b (mx sh V m a) := by
  have sz := mx_sz (sh := sh) (V := V) (m := m) (r := a) (S a.toNat (by omega)).1
  obtain ⟨V', e, f, v2, v1⟩ := M131 (V := V) M ha hb hab (by omega)
  refine ⟨V', e, fun s hs => ?_, f, ?_, fun s hs n => ⟨by rw [v2, if_neg n], fun h15 => ?_⟩⟩
  · rw [v2]; split
    · omega
    · exact S s hs
  · refine mx_ext (by rw [v2, if_pos rfl, sz]) (fun k hk => ?_)
    rw [mx_g, if_pos (by omega), v1, if_pos (by omega), show 1500 * b.toNat + k - 1500 * b.toNat = k by omega]
  · refine mx_same (by rw [v2, Int.toNat_natCast, if_neg n]) (fun k hk => ?_)
    rw [Int.toNat_natCast] at hk ⊢
    rw [v1, if_neg (by omega)]
theorem M159q {sh : zSh} {V : wSt} {m : Nat} (M : wMd sh m) (S : mSz sh V m) {a b : Int} (ha : 0 ≤ a ∧ a ≤ 13) (hb : 0 ≤ b ∧ b ≤ 13) (hab : a ≠ b) (x : Int) (hx : 0 < x) : ((mx sh V m a).length ≤ 400 → ∃ V', wcl zP 159 [wR m, wI b, wI a, wI x] (sh, V) = rI ((mx sh V m a).length : Int) (sh, V') ∧ RmU sh (uI V m 0 0) V' m b (mx sh V m a)) ∧ (400 < (mx sh V m a).length → wcl zP 159 [wR m, wI b, wI a, wI x] (sh, V) = rI 0 (sh, uI V m 0 x)) := by
  have sz := mx_sz (sh := sh) (V := V) (m := m) (r := a) (S a.toNat (by omega)).1
  have n1 := M.m (j := 1) (by decide)
  have n2 := M.m (j := 2) (by decide)
  have c0 : ∀ y : Int, uI V m 0 y m 0 = y := fun y => by unfold uI; rw [if_pos ⟨rfl, rfl⟩]
  have d1 : uI V m 0 0 (sr sh m 1) = V (sr sh m 1) := by funext j; unfold uI; rw [if_neg (fun c => n1 c.1)]
  have d2 : uI V m 0 0 (sr sh m 2) = V (sr sh m 2) := by funext j; unfold uI; rw [if_neg (fun c => n2 c.1)]
  have t0 : mx sh (uI V m 0 0) m a = mx sh V m a := by unfold mx; rw [d1, d2]
  rw [w159_0, ← sz]
  refine ⟨fun h => ?_, fun h => ?_⟩
  · obtain ⟨V', e, u⟩ := M131q (V := uI V m 0 0) M (fun s hs => by rw [d2]; exact S s hs) ha hb hab (by rw [t0]; omega)
    rw [t0] at u
    refine ⟨V', ?_, u⟩
    rw [if_pos (by omega), c0, if_pos (by decide), e]
    simp only [wcx_v, wput_n, w159_36]
    rw [u.sz hb]
  · rw [if_neg (by omega), c0, if_neg (by omega)]
theorem M160q {sh : zSh} {V : wSt} {m : Nat} {Q : Nat → List Int × Int} (K : lK sh V m Q) {k : Int} (hk : 0 ≤ k ∧ k ≤ 6) (j : Int) : wcl zP 160 [wR m, wI k, wI j] (sh, V) = rI (gl (Q k.toNat).1 j) (sh, V) := by
  have sz := K.sz (k := k.toNat) (by omega)
  have q := (K k.toNat (by omega)).1
  have g := K.gl (k := k.toNat) (by omega) j
  rw [w160_0, sz, g]
  by_cases c : j < 0
  · rw [if_pos c, if_neg (by omega)]
  · rw [if_neg c]
    by_cases d : ((Q k.toNat).1.length : Int) ≤ j
    · rw [if_pos d, if_neg (by omega)]
    · rw [if_neg d, if_pos (by omega), wr_eq (x := 1500 * k) (by omega) (by omega), wr_eq (by omega) (by omega), show (1500 * k + j).toNat = 1500 * k.toNat + j.toNat by omega]
theorem M161_2 {sh : zSh} {V : wSt} {m : Nat} {Q : Nat → List Int × Int} (K : lK sh V m Q) (b a : Int) : ∀ (n : Nat) (j : Int), (((Q 4).1.length : Int) - j).toNat = n → 0 ≤ j → wev zP 161 2 [some (wR m), some (wI b), some (wI a), some (wI j)] [] (sh, V) = rI (if j ≤ (Q 4).1.length then cfn (gl (Q 4).1) b j (Q 4).1.length else j) (sh, V) := by
  have sz := K.sz (k := 4) (by decide)
  have q := (K 4 (by decide)).1
  intro n
  induction n with
  | zero =>
    intro j hn hj
    rw [w161_2, show Int.toNat 4 = 4 from rfl, sz, if_pos (by omega)]
    by_cases c : j ≤ (Q 4).1.length
    · rw [if_pos c, (cfn_st _ b j _).1 (by omega)]; exact rI_cg (by omega)
    · rw [if_neg c]
  | succ n ih =>
    intro j hn hj
    have st := (cfn_st (gl (Q 4).1) b j (Q 4).1.length).2 (by omega)
    have g := K.gl (k := 4) (by decide) j
    rw [if_pos (by omega), show 1500 * 4 + j.toNat = (6000 + j).toNat by omega] at g
    rw [w161_2, show Int.toNat 4 = 4 from rfl, sz, if_neg (by omega), wr_eq (x := 6000 + j) (by omega) (by omega), ← g, if_pos (c := j ≤ ((Q 4).1.length : Int)) (by omega)]
    by_cases c : gl (Q 4).1 j = b
    · rw [if_pos c, st.1 c]
    · rw [if_neg c, st.2 c, wr_eq (by omega) (by omega), ih _ (by omega) (by omega), if_pos (by omega)]
theorem M161q {sh : zSh} {V : wSt} {m : Nat} {Q : Nat → List Int × Int} (K : lK sh V m Q) (b j : Int) (hj : 0 ≤ j ∧ j ≤ (Q 4).1.length) : wcl zP 161 [wR m, wI b, wI j] (sh, V) = rI (cfn (gl (Q 4).1) b j (Q 4).1.length) (sh, V) := by
  rw [w161_0, M161_2 K b j _ j rfl hj.1, if_pos hj.2]
/-- cells of what is laid, moved by two -/
theorem M163_41 {sh : zSh} {m : Nat} (M : wMd sh m) : ∀ (n : Nat) (V : wSt) (k : Int), (k + 1).toNat = n → -1 ≤ k ∧ k ≤ 1490 → ∃ V', wev zP 163 41 [some (wR m), some (wI k)] [] (sh, V) = wev zP 163 92 [some (wR m), some (wI (-1))] [wI (wr (V (sr sh m 10) 4 + 2)), wI 4, wR (sr sh m 10)] (sh, V') ∧ FrO [sr sh m 9] V V' ∧ ∀ j : Nat, V' (sr sh m 9) j = if j = 6001 then 46 else if 6002 ≤ j ∧ (j : Int) ≤ 6000 + k + 2 then V (sr sh m 9) (j - 2) else V (sr sh m 9) j := by
  have n910 : sr sh m 10 ≠ sr sh m 9 := M.n (by decide) (by decide) (by decide)
  intro n
  induction n with
  | zero =>
    intro V k hn hk
    have e : uI V (sr sh m 9) (Int.toNat 6001) 46 (sr sh m 10) (Int.toNat 4) = V (sr sh m 10) 4 := by unfold uI; rw [if_neg (fun c => n910 c.1)]; rfl
    refine ⟨uI V (sr sh m 9) (Int.toNat 6001) 46, ?_, uI_fr (List.mem_cons_self), fun j => ?_⟩
    · rw [w163_41, if_pos (by omega), e, show k = -1 by omega]
    · unfold uI
      by_cases d : j = 6001
      · rw [if_pos ⟨rfl, d⟩, if_pos d]
      · rw [if_neg (fun c => d c.2), if_neg d, if_neg (by omega)]
  | succ n ih =>
    intro V k hn hk
    obtain ⟨W, hW⟩ : ∃ W, W = uI V (sr sh m 9) (Int.toNat (6000 + k + 2)) (V (sr sh m 9) (Int.toNat (6000 + k))) := ⟨_, rfl⟩
    have w9 : ∀ j, W (sr sh m 9) j = if (j : Int) = 6000 + k + 2 then V (sr sh m 9) (Int.toNat (6000 + k)) else V (sr sh m 9) j := fun j => by
      rw [hW]; unfold uI
      by_cases d : (j : Int) = 6000 + k + 2
      · rw [if_pos ⟨rfl, by omega⟩, if_pos d]
      · rw [if_neg (fun c => d (by have := c.2; omega)), if_neg d]
    have w10 : W (sr sh m 10) = V (sr sh m 10) := by funext j; rw [hW]; unfold uI; rw [if_neg (fun c => n910 c.1)]
    obtain ⟨V2, e2, f2, v2⟩ := ih W (k - 1) (by omega) (by omega)
    rw [w10] at e2
    refine ⟨V2, ?_, FrO.trans (V' := W) (by rw [hW]; exact uI_fr (List.mem_cons_self)) f2, fun j => ?_⟩
    · rw [w163_41, if_neg (by omega), wr_eq (x := 6000 + k) (by omega) (by omega), wr_eq (x := 6000 + k + 2) (by omega) (by omega), w163_66, ← hW, wr_eq (by omega) (by omega), show k + -1 = k - 1 by omega, e2]
    · rw [v2, w9, w9]
      by_cases d : j = 6001
      · rw [if_pos d, if_pos d]
      · rw [if_neg d, if_neg d]
        by_cases c : 6002 ≤ j ∧ (j : Int) ≤ 6000 + (k - 1) + 2
        · rw [if_pos c, if_neg (by omega), if_pos (by omega)]
        · rw [if_neg c]
          by_cases g : (j : Int) = 6000 + k + 2
          · rw [if_pos g, if_pos (by omega), show (6000 + k).toNat = j - 2 by omega]
          · rw [if_neg g, if_neg (by omega)]
theorem M163q {sh : zSh} {V : wSt} {m : Nat} (M : wMd sh m) {Q : Nat → List Int × Int} (K : lK sh V m Q) (hl : (Q 4).1.length ≤ 1490) : ∃ V', wcl zP 163 [wR m] (sh, V) = rN (sh, V') ∧ FrO (lyO sh m) V V' ∧ lK sh V' m (pgd Q) := by
  have no : ¬ ((Q 2).2 = 0 ∧ gl (Q 4).1 0 = 47 ∧ gl (Q 4).1 1 = 47) → lK sh V m (pgd Q) := fun c => by unfold pgd; rw [if_neg c]; exact K
  have sz := K.sz (k := 4) (by decide)
  have q4 := K 4 (by decide)
  rw [w163_0, show Int.toNat 2 = 2 from rfl, K.th (k := 2) (by decide)]
  by_cases c : (Q 2).2 = 0
  · rw [if_pos c, M160q K (k := 4) (by decide) 0]
    simp only [wcx_v, wput_s, w163_15, show Int.toNat 4 = 4 from rfl]
    by_cases c1 : gl (Q 4).1 0 = 47
    · rw [if_pos c1, M160q K (k := 4) (by decide) 1]
      simp only [wcx_v, wput_s, w163_26, show Int.toNat 4 = 4 from rfl]
      by_cases c2 : gl (Q 4).1 1 = 47
      · have l2 : 2 ≤ (Q 4).1.length := by
          by_cases d : 2 ≤ (Q 4).1.length
          · exact d
          · rw [gl_out (Or.inr (by omega))] at c2; cases c2
        rw [if_pos c2, sz, wr_eq (by omega) (by omega)]
        obtain ⟨V1, e1, f1, v1⟩ := M163_41 M _ V ((Q 4).1.length - 1) rfl (by omega)
        have n910 : sr sh m 10 ≠ sr sh m 9 := M.n (by decide) (by decide) (by decide)
        have n911 : sr sh m 11 ≠ sr sh m 9 := M.n (by decide) (by decide) (by decide)
        have n1011 : sr sh m 11 ≠ sr sh m 10 := M.n (by decide) (by decide) (by decide)
        have x10 : V1 (sr sh m 10) = V (sr sh m 10) := f1 _ (fun w => n910 (List.mem_singleton.mp w))
        have x11 : V1 (sr sh m 11) = V (sr sh m 11) := f1 _ (fun w => n911 (List.mem_singleton.mp w))
        obtain ⟨W, hW⟩ : ∃ W, W = uI V1 (sr sh m 10) (Int.toNat 4) ((Q 4).1.length + 2) := ⟨_, rfl⟩
        have w10 : ∀ j, W (sr sh m 10) j = if j = 4 then ((Q 4).1.length : Int) + 2 else V (sr sh m 10) j := fun j => by
          rw [hW]; unfold uI
          by_cases d : j = 4
          · rw [if_pos ⟨rfl, d⟩, if_pos d]
          · rw [if_neg (fun c => d c.2), if_neg d, x10]
        have w11 : W (sr sh m 11) = V (sr sh m 11) := by funext j; rw [hW]; unfold uI; rw [if_neg (fun c => n1011 c.1), x11]
        have w9 : W (sr sh m 9) = V1 (sr sh m 9) := by funext j; rw [hW]; unfold uI; rw [if_neg (fun c => n910 c.1.symm)]
        refine ⟨W, ?_, ?_, fun k hk => ?_⟩
        · rw [e1, sz, w163_92, wr_eq (by omega) (by omega), ← hW]
        · refine FrO.trans (V' := V1) (f1.mono (fun b hb => ?_)) (by rw [hW]; unfold lyO; exact uI_fr (List.mem_cons_of_mem _ (List.mem_cons_self)))
          rw [List.mem_singleton.mp hb]; unfold lyO; exact List.mem_cons_self
        · unfold pgd
          rw [if_pos ⟨c, c1, c2⟩]
          have qk := K k hk
          by_cases k4 : k = 4
          · subst k4
            refine ⟨by rw [w10, if_pos rfl]; omega, ?_⟩
            rw [pup_at, w11]
            refine Prod.ext ?_ (K.th (by decide))
            show ly sh W m 4 = 47 :: 46 :: (Q 4).1
            refine gl_ext (by rw [ly_len, w10, if_pos rfl]; simp only [List.length_cons]; omega) (fun j h1 h2 => ?_)
            simp only [List.length_cons] at h2
            rw [gl_in h1 (by rw [ly_len, w10, if_pos rfl]; omega), List.getD_eq_getElem?_getD, ly_g, w10, if_pos rfl, if_pos (by omega), w9, v1, gl_cons, gl_cons]
            show (if 1500 * 4 + j.toNat = 6001 then (46 : Int) else if 6002 ≤ 1500 * 4 + j.toNat ∧ ((1500 * 4 + j.toNat : Nat) : Int) ≤ 6000 + ((Q 4).1.length - 1) + 2 then V (sr sh m 9) (1500 * 4 + j.toNat - 2) else V (sr sh m 9) (1500 * 4 + j.toNat)) = _
            by_cases j0 : j = 0
            · have g := K.gl (k := 4) (by decide) 0
              rw [if_pos (by omega), c1] at g
              rw [if_neg (by omega), if_neg (by omega), if_pos j0, j0]; exact g.symm
            · rw [if_neg (c := j = 0) j0]
              by_cases j1 : j - 1 = 0
              · rw [if_pos (by omega), if_pos j1]
              · have g := K.gl (k := 4) (by decide) (j - 1 - 1)
                rw [if_pos (by omega)] at g
                rw [if_neg (by omega), if_pos (by omega), if_neg j1, g, show 1500 * 4 + j.toNat - 2 = 1500 * 4 + (j - 1 - 1).toNat by omega]
          · refine ⟨by rw [w10, if_neg k4]; exact qk.1, ?_⟩
            unfold pup
            rw [if_neg k4, w11, ← qk.2]
            refine Prod.ext ?_ rfl
            refine List.ext_getElem? (fun i => ?_)
            show (ly sh W m k)[i]? = (ly sh V m k)[i]?
            rw [ly_g, ly_g, w10, if_neg k4]
            by_cases d : i < (V (sr sh m 10) k).toNat
            · rw [if_pos d, if_pos d, w9, v1, if_neg (by omega), if_neg (by omega)]
            · rw [if_neg d, if_neg d]
      · rw [if_neg c2]; exact ⟨V, rfl, FrO.refl, no (fun w => c2 w.2.2)⟩
    · rw [if_neg c1]; exact ⟨V, rfl, FrO.refl, no (fun w => c1 w.2.1)⟩
  · rw [if_neg c]; exact ⟨V, rfl, FrO.refl, no (fun w => c w.1)⟩
