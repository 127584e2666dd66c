set_option maxRecDepth 16384
/-! the model: codes that are freed, the port that goes -/
section
variable {sh : zSh} {m : Nat}
/-- a part is cut short -/
theorem l1_cut {V : wSt} {k : Nat} (M : wMd sh m) {X : List Int × Int} (K : l1 sh V m k X) (w : Int) (hw : 0 ≤ w) (h2 : w ≤ (X.1.length : Int)) : Lf sh m k V (uI V (sr sh m 10) k w) ∧ l1 sh (uI V (sr sh m 10) k w) m k (X.1.take w.toNat, X.2) := by
  have n910 : sr sh m 9 ≠ sr sh m 10 := M.n (by decide) (by decide) (by decide)
  have n1011 : sr sh m 11 ≠ sr sh m 10 := M.n (by decide) (by decide) (by decide)
  have sz := K.sz
  have q := K.1
  obtain ⟨W, hW⟩ : ∃ W, W = uI V (sr sh m 10) k w := ⟨_, rfl⟩
  rw [← hW]
  have w10 : ∀ i, W (sr sh m 10) i = if i = k then w else V (sr sh m 10) i := fun i => by
    rw [hW]; unfold uI
    by_cases d : i = k
    · rw [if_pos ⟨rfl, d⟩, if_pos d]
    · rw [if_neg (fun c => d c.2), if_neg d]
  have w9 : W (sr sh m 9) = V (sr sh m 9) := by funext i; rw [hW]; unfold uI; rw [if_neg (fun c => n910 c.1)]
  have w11 : W (sr sh m 11) = V (sr sh m 11) := by funext i; rw [hW]; unfold uI; rw [if_neg (fun c => n1011 c.1)]
  refine ⟨Lf_of (by rw [hW]; unfold lyO; exact uI_fr (List.mem_cons_of_mem _ (List.mem_cons_self))) (fun i hi => by rw [w10, if_neg hi]) (fun i _ => by rw [w11]) (fun i _ => by rw [w9]), ?_⟩
  refine l1_of (by rw [w10, if_pos rfl]; show w = ((X.1.take w.toNat).length : Int); rw [List.length_take]; omega) (by show (X.1.take w.toNat).length ≤ 1500; rw [List.length_take]; omega) (by rw [w11]; exact K.th) (fun i hi => ?_)
  have hi : i < (X.1.take w.toNat).length := hi
  rw [List.length_take] at hi
  show W (sr sh m 9) (1500 * k + i) = gl (X.1.take w.toNat) i
  rw [w9, gl_take, if_pos (by omega), K.gl, if_pos (by omega), Int.toNat_natCast]
theorem M179_12 (M : wMd sh m) {k N : Int} (hk : 0 ≤ k ∧ k ≤ 6) : ∀ (n : Nat) (V : wSt) (X : List Int × Int) (w x : Int) (o5 o6 o7 : Option wV), (N - x).toNat ≤ n → (X.1.length : Int) = N → 0 ≤ w → w ≤ x → x ≤ N → l1 sh V m k.toNat X → ∃ V', wev zP 179 12 [some (wR m), some (wI k), some (wI N), some (wI x), some (wI w), o5, o6, o7] [] (sh, V) = rN (sh, V') ∧ Lf sh m k.toNat V V' ∧ l1 sh V' m k.toNat (X.1.take w.toNat ++ fre (X.1.drop x.toNat), X.2) := by
  have fin : ∀ (V : wSt) (X : List Int × Int) (w x : Int) (o5 o6 o7 : Option wV), (X.1.length : Int) = N → N ≤ x → 0 ≤ w → w ≤ N → l1 sh V m k.toNat X → ∃ V', wev zP 179 12 [some (wR m), some (wI k), some (wI N), some (wI x), some (wI w), o5, o6, o7] [] (sh, V) = rN (sh, V') ∧ Lf sh m k.toNat V V' ∧ l1 sh V' m k.toNat (X.1.take w.toNat ++ fre (X.1.drop x.toNat), X.2) := by
    intro V X w x o5 o6 o7 hN hx hw hw2 K
    obtain ⟨f1, K1⟩ := l1_cut M K w hw (by omega)
    refine ⟨_, by rw [w179_12, if_pos hx], f1, ?_⟩
    rw [List.drop_of_length_le (by omega)]
    show l1 sh _ m k.toNat (X.1.take w.toNat ++ [], X.2)
    rw [List.append_nil]; exact K1
  intro n
  induction n with
  | zero => intro V X w x o5 o6 o7 hn hN hw hx hx2 K; exact fin V X w x o5 o6 o7 hN (by omega) hw (by omega) K
  | succ n ih =>
    intro V X w x o5 o6 o7 hn hN hw hx hx2 K
    by_cases c0 : N ≤ x
    · exact fin V X w x o5 o6 o7 hN c0 hw (by omega) K
    have sz := K.sz
    have q := K.1
    have dr := drop_gl (L := X.1) (k := x) (by omega) (by omega)
    have pd := pCd_drop (L := X.1) (k := x) (by omega)
    rw [dr] at pd
    have cell : V (sr sh m 9) (Int.toNat (wr (wr (1500 * k) + x))) = gl X.1 x := by
      rw [K.gl, if_pos (by omega), wr_eq (x := 1500 * k) (by omega) (by omega), wr_eq (by omega) (by omega), show (1500 * k + x).toNat = 1500 * k.toNat + x.toNat by omega]
    have ia : Int.toNat (wr (wr (1500 * k) + w)) = 1500 * k.toNat + w.toNat := by rw [wr_eq (x := 1500 * k) (by omega) (by omega), wr_eq (by omega) (by omega)]; omega
    -- a sign is written
    have put : ∀ (b d y x5 : Int) (x6 : Option wV), (d = 1 ∨ d = 3) → (y = 0 ↔ d = 1) → x + d ≤ N → fre (gl X.1 x :: X.1.drop (x + 1).toNat) = b :: fre (X.1.drop (x + d).toNat) → ∃ V', (if y = 0 then wev zP 179 12 [some (wR m), some (wI k), some (wI N), some (wI (wr (x + 1))), some (wI (wr (w + 1))), some (wI x5), x6, some (wI y)] [] (sh, uI V (sr sh m 9) (Int.toNat (wr (wr (1500 * k) + w))) b) else wev zP 179 12 [some (wR m), some (wI k), some (wI N), some (wI (wr (x + 3))), some (wI (wr (w + 1))), some (wI x5), x6, some (wI y)] [] (sh, uI V (sr sh m 9) (Int.toNat (wr (wr (1500 * k) + w))) b)) = rN (sh, V') ∧ Lf sh m k.toNat V V' ∧ l1 sh V' m k.toNat (X.1.take w.toNat ++ fre (X.1.drop x.toNat), X.2) := by
      intro b d y x5 x6 hd hy hxd hf
      obtain ⟨f1, K1⟩ := l1_set M K w b hw (by omega) _ ia
      obtain ⟨W, hW⟩ : ∃ W, W = uI V (sr sh m 9) (Int.toNat (wr (wr (1500 * k) + w))) b := ⟨_, rfl⟩
      rw [← hW] at f1 K1 ⊢
      obtain ⟨V2, e2, f2, l2⟩ := ih W _ (w + 1) (x + d) (some (wI x5)) x6 (some (wI y)) (by omega) (by show ((lset X.1 w b).length : Int) = N; rw [lset_len]; exact hN) (by omega) (by omega) hxd K1
      have l2 : l1 sh V2 m k.toNat ((lset X.1 w b).take (w + 1).toNat ++ fre ((lset X.1 w b).drop (x + d).toNat), X.2) := l2
      rw [lset_take hw (by omega), lset_drop (by omega), List.append_assoc, List.singleton_append, ← hf, ← dr] at l2
      refine ⟨V2, ?_, f1.trans f2, l2⟩
      rcases hd with hd | hd
      · rw [if_pos (hy.mpr hd), wr_eq (x := x + 1) (by omega) (by omega), wr_eq (by omega) (by omega), show x + 1 = x + d by omega, e2]
      · rw [if_neg (fun z => by have := hy.mp z; omega), wr_eq (x := x + 3) (by omega) (by omega), wr_eq (by omega) (by omega), show x + 3 = x + d by omega, e2]
    have same : ∀ (x5 : Int) (x6 : Option wV), pFree (pCd (gl X.1) x) ≠ 1 → ∃ V', (if (0 : Int) = 0 then wev zP 179 12 [some (wR m), some (wI k), some (wI N), some (wI (wr (x + 1))), some (wI (wr (w + 1))), some (wI x5), x6, some (wI 0)] [] (sh, uI V (sr sh m 9) (Int.toNat (wr (wr (1500 * k) + w))) (gl X.1 x)) else wev zP 179 12 [some (wR m), some (wI k), some (wI N), some (wI (wr (x + 3))), some (wI (wr (w + 1))), some (wI x5), x6, some (wI 0)] [] (sh, uI V (sr sh m 9) (Int.toNat (wr (wr (1500 * k) + w))) (gl X.1 x))) = rN (sh, V') ∧ Lf sh m k.toNat V V' ∧ l1 sh V' m k.toNat (X.1.take w.toNat ++ fre (X.1.drop x.toNat), X.2) := fun x5 x6 hp =>
      put (gl X.1 x) 1 0 x5 x6 (Or.inl rfl) ⟨fun _ => rfl, fun _ => rfl⟩ (by omega) (by rw [fre_cons, pd, if_neg hp])
    rw [w179_12, if_neg c0, M178 K hk x (by omega)]
    simp only [wcx_v, wput_s, w179_37]
    rw [cell]
    by_cases c : pCd (gl X.1) x = -1
    · have hp : pFree (pCd (gl X.1) x) ≠ 1 := by rw [c]; decide
      rw [if_pos c, if_pos rfl, if_pos (by decide), if_pos trivial, w179_116]
      exact same _ _ hp
    · obtain ⟨c1, -, c3, h1, h2, pv⟩ := pCd_in2 c
      have r1 := pHex_r (gl X.1 (x + 1))
      have r2 := pHex_r (gl X.1 (x + 2))
      rw [if_neg c, if_neg (by decide), wr_eq (x := x + 1) (by omega) (by omega), M160l K hk]
      simp only [wcx_v, wput_s, w179_50, M125, w179_53]
      rw [wr_eq (x := x + 2) (by omega) (by omega), M160l K hk]
      simp only [wcx_v, wput_s, w179_62, M125, w179_65]
      rw [wr_eq (x := 16 * _) (by omega) (by omega), wr_eq (x := 16 * _ + _) (by omega) (by omega), ← pv, if_neg (by omega), M123]
      simp only [wcx_v, wput_s, w179_82]
      rcases pFree_r (pCd (gl X.1) x) with hp | hp
      · rw [hp, if_pos rfl, if_pos trivial, w179_116]
        exact same _ _ (by rw [hp]; decide)
      · rw [hp, if_neg (by decide), if_neg (by decide), w179_116]
        exact put _ 3 1 _ _ (Or.inr rfl) ⟨fun z => absurd z (by decide), fun z => absurd z (by decide)⟩ (by omega) (by rw [fre_cons, pd, if_pos hp, List.drop_drop, show (x + 1).toNat + 2 = (x + 3).toNat by omega])
theorem M179 {V : wSt} (M : wMd sh m) {k : Int} (hk : 0 ≤ k ∧ k ≤ 6) {X : List Int × Int} (K : l1 sh V m k.toNat X) : ∃ V', wcl zP 179 [wR m, wI k] (sh, V) = rN (sh, V') ∧ Lf sh m k.toNat V V' ∧ l1 sh V' m k.toNat (fre X.1, X.2) := by
  have sz := K.sz
  obtain ⟨V2, e2, f2, l2⟩ := M179_12 M (N := X.1.length) hk _ V X 0 0 none none none (Nat.le_refl _) rfl (by decide) (by decide) (by omega) K
  refine ⟨V2, by rw [w179_0, sz, e2], f2, ?_⟩
  have h : X.1.take (0 : Int).toNat ++ fre (X.1.drop (0 : Int).toNat) = fre X.1 := by
    show X.1.take 0 ++ fre (X.1.drop 0) = _
    rw [List.take_zero, List.drop_zero, List.nil_append]
  rw [h] at l2; exact l2
/-- the port that a laid scheme has of its own -/
def mSc (X : List Int × Int) (a b c d e : Int) : Prop := X.2 ≠ 0 ∧ (X.1.length : Int) = (if e ≤ 0 then if d ≤ 0 then if c ≤ 0 then 2 else 3 else 4 else 5) ∧ gl X.1 0 = a ∧ gl X.1 1 = b ∧ (c = 0 ∨ gl X.1 2 = c) ∧ (d = 0 ∨ gl X.1 3 = d) ∧ (e = 0 ∨ gl X.1 4 = e)
theorem M180 {V : wSt} {X : List Int × Int} (K : l1 sh V m 0 X) (a b c d e : Int) : wcl zP 180 [wR m, wI a, wI b, wI c, wI d, wI e] (sh, V) = rI (bI (mSc X a b c d e)) (sh, V) := by
  have sz := K.sz
  have th := K.th
  obtain ⟨N, hN⟩ : ∃ N : Int, N = if e ≤ 0 then if d ≤ 0 then if c ≤ 0 then 2 else 3 else 4 else 5 := ⟨_, rfl⟩
  have start : wcl zP 180 [wR m, wI a, wI b, wI c, wI d, wI e] (sh, V) = wev zP 180 27 [some (wR m), some (wI a), some (wI b), some (wI c), some (wI d), some (wI e), none, none] [wI N] (sh, V) := by
    rw [w180_0, hN]
    by_cases h1 : e ≤ 0
    · rw [if_pos h1, if_pos h1]
      by_cases h2 : d ≤ 0
      · rw [if_pos h2, if_pos h2]
        by_cases h3 : c ≤ 0
        · rw [if_pos h3, if_pos h3]
        · rw [if_neg h3, if_neg h3]
      · rw [if_neg h2, if_neg h2]
    · rw [if_neg h1, if_neg h1]
  have at_ : ∀ j : Int, wcl zP 160 [wR m, wI 0, wI j] (sh, V) = rI (gl X.1 j) (sh, V) := fun j => M160l (k := 0) K (by decide) j
  have out : wev zP 180 73 [some (wR m), some (wI a), some (wI b), some (wI c), some (wI d), some (wI e), some (wI N), none] [] (sh, V) = rI 0 (sh, V) := by
    rw [w180_73, w180_74, if_pos rfl, w180_115, w180_116, if_pos rfl, w180_143, w180_144]
  have out2 : ∀ y : Int, wev zP 180 115 [some (wR m), some (wI a), some (wI b), some (wI c), some (wI d), some (wI e), some (wI N), some (wI y)] [] (sh, V) = rI 0 (sh, V) := fun y => by
    rw [w180_115, w180_116, if_pos rfl, w180_143, w180_144]
  have last : ∀ y : Int, wev zP 180 111 [some (wR m), some (wI a), some (wI b), some (wI c), some (wI d), some (wI e), some (wI N), some (wI y)] [] (sh, V) = rI (if e = 0 then 1 else if gl X.1 4 = e then 1 else 0) (sh, V) := fun y => by
    rw [w180_111, w180_116, if_neg (by decide)]
    by_cases h : e = 0
    · rw [if_pos h, if_pos h, w180_139, w180_144]
    · rw [if_neg h, if_neg h, at_]
      simp only [wcx_v, wput_s, w180_134]
      by_cases g : gl X.1 4 = e
      · rw [if_pos g, if_pos g, w180_139, w180_144]
      · rw [if_neg g, if_neg g, w180_143, w180_144]
  have mid : ∀ y : Int, wev zP 180 95 [some (wR m), some (wI a), some (wI b), some (wI c), some (wI d), some (wI e), some (wI N), some (wI y)] [] (sh, V) = rI (if d = 0 ∨ gl X.1 3 = d then (if e = 0 then 1 else if gl X.1 4 = e then 1 else 0) else 0) (sh, V) := fun y => by
    rw [w180_95]
    by_cases h : d = 0
    · rw [if_pos h, if_pos (Or.inl h), last]
    · rw [if_neg h, at_]
      simp only [wcx_v, wput_s, w180_106]
      by_cases g : gl X.1 3 = d
      · rw [if_pos g, if_pos (Or.inr g), last]
      · rw [if_neg g, if_neg (fun w => w.elim h g), out2]
  have fst : wev zP 180 74 [some (wR m), some (wI a), some (wI b), some (wI c), some (wI d), some (wI e), some (wI N), none] [wI 1] (sh, V) = rI (if c = 0 ∨ gl X.1 2 = c then (if d = 0 ∨ gl X.1 3 = d then (if e = 0 then 1 else if gl X.1 4 = e then 1 else 0) else 0) else 0) (sh, V) := by
    rw [w180_74, if_neg (by decide)]
    by_cases h : c = 0
    · rw [if_pos h, if_pos (Or.inl h), mid]
    · rw [if_neg h, at_]
      simp only [wcx_v, wput_s, w180_91]
      by_cases g : gl X.1 2 = c
      · rw [if_pos g, if_pos (Or.inr g), mid]
      · rw [if_neg g, if_neg (fun w => w.elim h g), out2]
  rw [start, w180_27]
  show (if V (sr sh m 11) 0 = 0 then _ else if V (sr sh m 10) 0 = N then _ else _) = _
  rw [th, sz]
  unfold mSc
  rw [← hN]
  by_cases h0 : X.2 = 0
  · rw [if_pos h0, out, bI_0 (fun w => w.1 h0)]
  rw [if_neg h0]
  by_cases h1 : (X.1.length : Int) = N
  rotate_left
  · rw [if_neg h1, out, bI_0 (fun w => h1 w.2.1)]
  rw [if_pos h1, at_]
  simp only [wcx_v, wput_s, w180_55]
  by_cases h2 : gl X.1 0 = a
  rotate_left
  · rw [if_neg h2, out, bI_0 (fun w => h2 w.2.2.1)]
  rw [if_pos h2, at_]
  simp only [wcx_v, wput_s, w180_65]
  by_cases h3 : gl X.1 1 = b
  rotate_left
  · rw [if_neg h3, out, bI_0 (fun w => h3 w.2.2.2.1)]
  rw [if_pos h3, fst]
  refine rI_cg ?_
  by_cases h4 : c = 0 ∨ gl X.1 2 = c
  rotate_left
  · rw [if_neg h4, bI_0 (fun w => h4 w.2.2.2.2.1)]
  rw [if_pos h4]
  by_cases h5 : d = 0 ∨ gl X.1 3 = d
  rotate_left
  · rw [if_neg h5, bI_0 (fun w => h5 w.2.2.2.2.2.1)]
  rw [if_pos h5]
  by_cases h6 : e = 0
  · rw [if_pos h6, bI_1 ⟨h0, h1, h2, h3, h4, h5, Or.inl h6⟩]
  · rw [if_neg h6]
    by_cases h7 : gl X.1 4 = e
    · rw [if_pos h7, bI_1 ⟨h0, h1, h2, h3, h4, h5, Or.inr h7⟩]
    · rw [if_neg h7, bI_0 (fun w => w.2.2.2.2.2.2.elim h6 h7)]
theorem gl_2 (a b : Int) (L : List Int) (h : (L.length : Int) = 2) (h0 : gl L 0 = a) (h1 : gl L 1 = b) : L = [a, b] := by
  refine gl_ext (by simp only [List.length_cons, List.length_nil]; omega) (fun k k0 k1 => ?_)
  simp only [List.length_cons, List.length_nil] at k1
  rcases (by omega : k = 0 ∨ k = 1) with e | e <;> subst e
  · exact h0
  · exact h1
theorem gl_3 (a b c : Int) (L : List Int) (h : (L.length : Int) = 3) (h0 : gl L 0 = a) (h1 : gl L 1 = b) (h2 : gl L 2 = c) : L = [a, b, c] := by
  refine gl_ext (by simp only [List.length_cons, List.length_nil]; omega) (fun k k0 k1 => ?_)
  simp only [List.length_cons, List.length_nil] at k1
  rcases (by omega : k = 0 ∨ k = 1 ∨ k = 2) with e | e | e <;> subst e
  · exact h0
  · exact h1
  · exact h2
theorem gl_4 (a b c d : Int) (L : List Int) (h : (L.length : Int) = 4) (h0 : gl L 0 = a) (h1 : gl L 1 = b) (h2 : gl L 2 = c) (h3 : gl L 3 = d) : L = [a, b, c, d] := by
  refine gl_ext (by simp only [List.length_cons, List.length_nil]; omega) (fun k k0 k1 => ?_)
  simp only [List.length_cons, List.length_nil] at k1
  rcases (by omega : k = 0 ∨ k = 1 ∨ k = 2 ∨ k = 3) with e | e | e | e <;> subst e
  · exact h0
  · exact h1
  · exact h2
  · exact h3
theorem gl_5 (a b c d e : Int) (L : List Int) (h : (L.length : Int) = 5) (h0 : gl L 0 = a) (h1 : gl L 1 = b) (h2 : gl L 2 = c) (h3 : gl L 3 = d) (h4 : gl L 4 = e) : L = [a, b, c, d, e] := by
  refine gl_ext (by simp only [List.length_cons, List.length_nil]; omega) (fun k k0 k1 => ?_)
  simp only [List.length_cons, List.length_nil] at k1
  rcases (by omega : k = 0 ∨ k = 1 ∨ k = 2 ∨ k = 3 ∨ k = 4) with e | e | e | e | e <;> subst e
  · exact h0
  · exact h1
  · exact h2
  · exact h3
  · exact h4
theorem mSc_2 {X : List Int × Int} (h : X.2 = 0 → X.1 = []) (a b : Int) : bI (mSc X a b 0 0 0) = bI (X.1 = [a, b]) := by
  by_cases c : X.1 = [a, b]
  · rw [bI_1 c, bI_1]
    refine ⟨fun z => ?_, ?_, ?_, ?_, Or.inl rfl, Or.inl rfl, Or.inl rfl⟩
    · rw [h z] at c; cases c
    all_goals rw [c]; rfl
  · rw [bI_0 c, bI_0 (fun w => c (gl_2 a b _ w.2.1 w.2.2.1 w.2.2.2.1))]
theorem mSc_3 {X : List Int × Int} (h : X.2 = 0 → X.1 = []) (a b c : Int) (hc : 0 < c) : bI (mSc X a b c 0 0) = bI (X.1 = [a, b, c]) := by
  by_cases g : X.1 = [a, b, c]
  · rw [bI_1 g, bI_1]
    refine ⟨fun z => ?_, ?_, ?_, ?_, Or.inr ?_, Or.inl rfl, Or.inl rfl⟩
    · rw [h z] at g; cases g
    · rw [if_pos (by decide), if_pos (by decide), if_neg (by omega), g]; rfl
    all_goals rw [g]; rfl
  · refine (bI_0 (fun w => g ?_)).trans (bI_0 g).symm
    have l := w.2.1
    rw [if_pos (by decide), if_pos (by decide), if_neg (by omega)] at l
    exact gl_3 a b c _ l w.2.2.1 w.2.2.2.1 (w.2.2.2.2.1.resolve_left (by omega))
theorem mSc_4 {X : List Int × Int} (h : X.2 = 0 → X.1 = []) (a b c d : Int) (hc : 0 < c) (hd : 0 < d) : bI (mSc X a b c d 0) = bI (X.1 = [a, b, c, d]) := by
  by_cases g : X.1 = [a, b, c, d]
  · rw [bI_1 g, bI_1]
    refine ⟨fun z => ?_, ?_, ?_, ?_, Or.inr ?_, Or.inr ?_, Or.inl rfl⟩
    · rw [h z] at g; cases g
    · rw [if_pos (by decide), if_neg (by omega), g]; rfl
    all_goals rw [g]; rfl
  · refine (bI_0 (fun w => g ?_)).trans (bI_0 g).symm
    have l := w.2.1
    rw [if_pos (by decide), if_neg (by omega)] at l
    exact gl_4 a b c d _ l w.2.2.1 w.2.2.2.1 (w.2.2.2.2.1.resolve_left (by omega)) (w.2.2.2.2.2.1.resolve_left (by omega))
theorem mSc_5 {X : List Int × Int} (h : X.2 = 0 → X.1 = []) (a b c d e : Int) (hc : 0 < c) (hd : 0 < d) (he : 0 < e) : bI (mSc X a b c d e) = bI (X.1 = [a, b, c, d, e]) := by
  by_cases g : X.1 = [a, b, c, d, e]
  · rw [bI_1 g, bI_1]
    refine ⟨fun z => ?_, ?_, ?_, ?_, Or.inr ?_, Or.inr ?_, Or.inr ?_⟩
    · rw [h z] at g; cases g
    · rw [if_neg (by omega), g]; rfl
    all_goals rw [g]; rfl
  · refine (bI_0 (fun w => g ?_)).trans (bI_0 g).symm
    have l := w.2.1
    rw [if_neg (by omega)] at l
    exact gl_5 a b c d e _ l w.2.2.1 w.2.2.2.1 (w.2.2.2.2.1.resolve_left (by omega)) (w.2.2.2.2.2.1.resolve_left (by omega)) (w.2.2.2.2.2.2.resolve_left (by omega))
theorem M181 {V : wSt} {X : List Int × Int} (K : l1 sh V m 0 X) (h : X.2 = 0 → X.1 = []) : wcl zP 181 [wR m] (sh, V) = rI (own X.1) (sh, V) := by
  rw [w181_0, M180 K, mSc_4 h _ _ _ _ (by decide) (by decide)]
  simp only [wcx_v, wput_s, w181_13]
  unfold own
  rw [bI_if]
  by_cases c1 : X.1 = [104, 116, 116, 112]
  · rw [bI_1 c1, if_pos rfl, if_pos (Or.inl c1)]
  rw [bI_0 c1, if_neg (by decide), M180 K, mSc_2 h]
  simp only [wcx_v, wput_s, w181_27]
  rw [bI_if]
  by_cases c2 : X.1 = [119, 115]
  · rw [bI_1 c2, if_pos rfl, if_pos (Or.inr c2)]
  rw [bI_0 c2, if_neg (by decide), if_neg (fun w => w.elim c1 c2), M180 K, mSc_5 h _ _ _ _ _ (by decide) (by decide) (by decide)]
  simp only [wcx_v, wput_s, w181_47]
  rw [bI_if]
  by_cases c3 : X.1 = [104, 116, 116, 112, 115]
  · rw [bI_1 c3, if_pos rfl, if_pos (Or.inl c3)]
  rw [bI_0 c3, if_neg (by decide), M180 K, mSc_3 h _ _ _ (by decide)]
  simp only [wcx_v, wput_s, w181_62]
  rw [bI_if]
  by_cases c4 : X.1 = [119, 115, 115]
  · rw [bI_1 c4, if_pos rfl, if_pos (Or.inr c4)]
  rw [bI_0 c4, if_neg (by decide), if_neg (fun w => w.elim c3 c4), M180 K, mSc_3 h _ _ _ (by decide)]
  simp only [wcx_v, wput_s, w181_81]
  by_cases c5 : X.1 = [102, 116, 112]
  · rw [bI_1 c5, if_neg (by decide), if_pos c5]
  · rw [bI_0 c5, if_pos rfl, if_neg c5]
theorem M182_9 {V : wSt} {X : List Int × Int} (K : l1 sh V m 3 X) (h5 : X.1.length ≤ 5) (hd : ∀ k : Int, 0 ≤ k → k < X.1.length → pDig (gl X.1 k) = 1) (o : Int) : ∀ (n : Nat) (x v : Int), ((X.1.length : Int) - x).toNat = n → 0 ≤ x → 0 ≤ v → v ≤ nB x → ∃ x', wev zP 182 9 [some (wR m), some (wI o), some (wI v), some (wI x)] [] (sh, V) = if X.1.length = 0 ∨ pNm (gl X.1) x X.1.length v = o then wev zP 182 54 [some (wR m), some (wI o), some (wI (pNm (gl X.1) x X.1.length v)), some (wI x')] [] (sh, V) else wev zP 182 68 [some (wR m), some (wI o), some (wI (pNm (gl X.1) x X.1.length v)), some (wI x')] [] (sh, V) := by
  have sz := K.sz
  intro n
  induction n with
  | zero =>
    intro x v hn hx h0 h1
    refine ⟨x, ?_⟩
    rw [w182_9]
    show (if V (sr sh m 10) 3 ≤ x then (if V (sr sh m 10) 3 = 0 then _ else _) else _) = _
    rw [sz, if_pos (by omega), (pNm_st _ x _ v).1 (by omega)]
    by_cases c : X.1.length = 0
    · rw [if_pos (by omega), if_pos (Or.inl c)]
    · rw [if_neg (by omega)]
      by_cases d : v = o
      · rw [if_pos d, if_pos (Or.inr d)]
      · rw [if_neg d, if_neg (fun w => w.elim c d)]
  | succ n ih =>
    intro x v hn hx h0 h1
    have dg := hd x hx (by omega)
    have hx1 : pHex (gl X.1 x) = gl X.1 x - 48 ∧ 48 ≤ gl X.1 x ∧ gl X.1 x ≤ 57 := by
      refine ⟨pHex_dg dg, ?_⟩
      unfold pDig at dg; split at dg <;> omega
    have vb : v ≤ 99999 ∧ 10 * v + (gl X.1 x - 48) ≤ nB (x + 1) := by
      have x4 : x ≤ 4 := by omega
      unfold nB at h1 ⊢
      rcases (by omega : x = 0 ∨ x = 1 ∨ x = 2 ∨ x = 3 ∨ x = 4) with e | e | e | e | e <;> subst e <;> simp at h1 ⊢ <;> omega
    obtain ⟨x', e⟩ := ih (x + 1) (10 * v + (gl X.1 x - 48)) (by omega) (by omega) (by omega) vb.2
    refine ⟨x', ?_⟩
    rw [((pNm_st (gl X.1) x X.1.length v).2 (by omega)).2 (by omega), hx1.1, ← e, w182_9]
    show (if V (sr sh m 10) 3 ≤ x then _ else _) = _
    rw [sz, if_neg (by omega), M160l (k := 3) K (by decide)]
    simp only [wcx_v, wput_s, w182_29]
    rw [wr_eq (x := 10 * v) (by omega) (by omega), wr_eq (x := 10 * v + _) (by omega) (by omega), wr_eq (by omega) (by omega), wr_eq (by omega) (by omega), show 10 * v + gl X.1 x - 48 = 10 * v + (gl X.1 x - 48) by omega]
end
