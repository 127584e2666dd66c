set_option maxRecDepth 16384
/-! the model's methods: a pair, words -/
section
variable {sh : zSh} {m : Nat} {V : wSt} {tp ou : List Int} {rw' : Nat → List Int}
theorem M206 (M : wMd sh m) (s : Mx sh m V tp ou rw') (i j v : Int) (hj2 : -2147483647 ≤ j ∧ j ≤ 2147483647) (hc : 0 ≤ i ∧ i < 8 → cdk (cutQ (rw' i.toNat) 5).1) : (¬ (0 ≤ i ∧ i < 8) → wcl zP 206 [wR m, wI i, wI j, wI v] (sh, V) = rI 0 (sh, uI V m 0 1)) ∧
    (0 ≤ i ∧ i < 8 → ¬ (0 ≤ j ∧ j < prc (cutQ (rw' i.toNat) 5)) → ∃ V', wcl zP 206 [wR m, wI i, wI j, wI v] (sh, V) = rI 0 (sh, V') ∧ Mx sh m V' tp ou rw' ∧ V' m 0 = 2) ∧
    (0 ≤ i ∧ i < 8 → 0 ≤ j ∧ j < prc (cutQ (rw' i.toNat) 5) → ∃ V', wcl zP 206 [wR m, wI i, wI j, wI v] (sh, V) = rI (if v ≠ 0 ∧ prE (cutQ (rw' i.toNat) 5).1 j ≤ prS (cutQ (rw' i.toNat) 5).1 j then -1 else ((prt (cutQ (rw' i.toNat) 5).1 j v).length : Int)) (sh, V') ∧ Mx sh m V' tp (prt (cutQ (rw' i.toNat) 5).1 j v) rw' ∧ V' m 0 = 0) := by
  have u0 := fun x => (fld (V := V) M 0 x).2.2
  have start : 0 ≤ i ∧ i < 8 → ∃ V1, wcl zP 206 [wR m, wI i, wI j, wI v] (sh, V) = (if 0 ≤ j ∧ j < prc (cutQ (rw' i.toNat) 5) then wev zP 206 56 [some (wR m), some (wI i), some (wI j), some (wI v), none, none, none] [] (sh, uI V1 m 0 0) else rI 0 (sh, uI V1 m 0 2)) ∧ Mx sh m V1 tp ou rw' ∧ mK sh V1 m i (rw' i.toNat) := fun hi => by
    obtain ⟨V1, e1, s1, f1, K1⟩ := M204 M (Mx_fld M s 0 (by decide) 0) (i := i) (by omega)
    have sr : prc (cutQ (rw' i.toNat) 5) ≤ 401 ∧ 0 ≤ prc (cutQ (rw' i.toNat) 5) := by
      have := lc_r 38 (cutQ (rw' i.toNat) 5).1
      have cl := cutQ_le (rw' i.toNat) 5 (by decide)
      have hl := s.L (i := i) (by omega)
      unfold prc; split <;> omega
    have u1 := fun x => (fld (V := V1) M 0 x).2.2
    refine ⟨V1, ?_, s1, K1⟩
    rw [w206_0, M127, if_pos (by omega)]
    simp only [wcx_v, wput_s, w206_5]
    rw [if_neg (by decide), w206_13, u0, if_pos rfl, e1]
    simp only [wcx_v, wput_s, w206_31]
    rw [wr_eq (by omega) (by omega), M120]
    simp only [wcx_v, wput_s, w206_36]
    by_cases c : 0 ≤ j ∧ j < prc (cutQ (rw' i.toNat) 5)
    · rw [if_pos c, if_pos (c := 0 ≤ j ∧ j ≤ prc (cutQ (rw' i.toNat) 5) - 1) (by omega), if_neg (by decide), w206_44, w206_47, u1, if_pos (by decide)]
    · rw [if_neg c, if_neg (c := 0 ≤ j ∧ j ≤ prc (cutQ (rw' i.toNat) 5) - 1) (by omega), if_pos rfl, w206_44, w206_47, u1, if_neg (by decide)]
  refine ⟨fun hi => ?_, fun hi hj => ?_, fun hi hj => ?_⟩
  · rw [w206_0, M127, if_neg (by omega)]
    simp only [wcx_v, wput_s, w206_5]
    rw [if_pos trivial, w206_13, u0, if_neg (by decide), w206_47, u0, if_neg (by decide)]
  · obtain ⟨V1, e1, s1, -⟩ := start hi
    exact ⟨_, by rw [e1, if_neg hj], Mx_fld M s1 0 (by decide) 2, (fld (V := V1) M 0 2).2.2⟩
  · obtain ⟨V1, e1, s1, K1⟩ := start hi
    have hl := s.L (i := i) (by omega)
    have hc := hc hi
    obtain ⟨L, hL⟩ : ∃ L, L = rw' i.toNat := ⟨_, rfl⟩
    rw [← hL] at e1 K1 hl hj hc ⊢
    have cl := cutQ_le L 5 (by decide)
    have f0 := fld (V := V1) M 0 0
    have s2 := Mx_fld M s1 0 (by decide) 0
    have K2 : mK sh (uI V1 m 0 0) m i L := by
      unfold mK mx mB mE at *
      rw [f0.1 _ (M.m (j := 1) (by decide)), f0.1 _ (M.m (j := 2) (by decide)), f0.1 _ (M.m (j := 3) (by decide)), f0.1 _ (M.m (j := 4) (by decide))]
      exact K1
    obtain ⟨W, hW⟩ : ∃ W, W = uI V1 m 0 0 := ⟨_, rfl⟩
    rw [← hW] at s2 K2 e1 f0
    have q2 : (cutQ L 5).2 ≠ 0 := fun z => by have a := hj.2; unfold prc at a; rw [if_pos z] at a; omega
    obtain ⟨X, hX⟩ : ∃ X, X = (cutQ L 5).1 := ⟨_, rfl⟩
    have js : j ≤ lc 38 (X.drop (0 : Int).toNat) := by
      have a := hj.2
      unfold prc at a
      rw [if_neg q2, ← hX] at a
      show j ≤ lc 38 (X.drop 0)
      rw [List.drop_zero]; omega
    have sl := sop_le (X := X) (b := 38) _ 0 j rfl (by decide) (by omega) hj.1 js
    have hA : sop (gl X) 38 X.length j.toNat 0 = prA X j := rfl
    rw [hA] at sl
    have g197 : wcl zP 197 [wR m, wI i, wI 5, wI 0, wI 38, wI j] (sh, W) = rI (prA X j) (sh, W) := by
      have := M197 (p := 5) s2.1 K2 (by omega) (by omega) (by decide) 38 0 j (by decide) ⟨hj.1, by show j ≤ lc 38 ((cutQ L 5).1.drop (0 : Int).toNat); rw [← hX]; exact js⟩
      rw [hX]; exact this
    have g198 : ∀ b : Int, wcl zP 198 [wR m, wI i, wI 5, wI (prA X j), wI b] (sh, W) = rI (cfn (gl X) b (prA X j) X.length) (sh, W) := fun b => by
      have := M198 (p := 5) s2.1 K2 (by omega) (by omega) (by decide) b (prA X j) (by show 0 ≤ _ ∧ _ ≤ ((cutQ L 5).1.length : Int); rw [← hX]; omega)
      rw [hX] at this ⊢; exact this
    have cr := (cfn_r (gl X) 38 (prA X j) X.length).1 sl.2
    have cr2 := (cfn_r (gl X) 61 (prA X j) X.length).1 sl.2
    have hE : cfn (gl X) 38 (prA X j) X.length = prE X j := rfl
    rw [hE] at cr
    have hS : prS X j = if cfn (gl X) 61 (prA X j) X.length < prE X j then cfn (gl X) 61 (prA X j) X.length else prE X j := cfn_min (by omega) _ _ rfl (by omega)
    have sr : prA X j ≤ prS X j ∧ prS X j ≤ prE X j := by rw [hS]; split <;> omega
    have hd : ∀ t f : Int, 0 ≤ t ∧ t ≤ X.length → 0 ≤ f ∧ f ≤ 1000 → ∃ V', wcl zP 199 [wR m, wI i, wI 5, wI f, wI t] (sh, W) = rI ((dec (gl X) t f).length : Int) (sh, V') ∧ Mx sh m V' tp (dec (gl X) t f) rw' ∧ V' m 0 = 0 := fun t f ht hf => by
      obtain ⟨V2, e2, f2, o2, o7⟩ := M199 (p := 5) M s2.1 hl K2 (by omega) (by decide) hc f t (by show 0 ≤ t ∧ t ≤ ((cutQ L 5).1.length : Int); rw [← hX]; exact ht) hf q2
      have e2 : wcl zP 199 [wR m, wI i, wI 5, wI f, wI t] (sh, W) = rI ((dec (gl (cutQ L 5).1) t f).length : Int) (sh, V2) := e2
      have o2 : ox sh V2 m = dec (gl (cutQ L 5).1) t f := o2
      have o7 : V2 m 7 = ((dec (gl (cutQ L 5).1) t f).length : Int) := o7
      rw [← hX] at e2 o2 o7
      exact ⟨V2, e2, s2.o8 M f2 o2 o7, by rw [f2.2 0 (by decide)]; exact f0.2.2⟩
    have hXl : X.length ≤ 400 := by rw [hX]; omega
    rw [← hX]
    rw [e1, if_pos hj, w206_56, g197]
    simp only [wcx_v, wput_s, w206_66]
    rw [g198 38, hE]
    simp only [wcx_v, wput_s, w206_78]
    rw [g198 61]
    simp only [wcx_v, wput_s, w206_90]
    have mid : ∀ o : Int, wev zP 206 106 [some (wR m), some (wI i), some (wI j), some (wI v), some (wI (prA X j)), some (wI (prE X j)), some (wI o)] [wI (prS X j)] (sh, W) = (if v = 0 then wev zP 206 126 [some (wR m), some (wI i), some (wI j), some (wI v), some (wI (prA X j)), some (wI (prE X j)), some (wI (prS X j))] [] (sh, W) else if prS X j = prE X j then rI (-1) (sh, uI W m 7 0) else wev zP 206 126 [some (wR m), some (wI i), some (wI j), some (wI v), some (wI (prA X j)), some (wI (prE X j)), some (wI (prS X j))] [] (sh, W)) := fun o => by rw [w206_106]
    have both : (if prE X j ≤ cfn (gl X) 61 (prA X j) X.length then wev zP 206 106 [some (wR m), some (wI i), some (wI j), some (wI v), some (wI (prA X j)), some (wI (prE X j)), some (wI (cfn (gl X) 61 (prA X j) X.length))] [wI (prE X j)] (sh, W) else wev zP 206 106 [some (wR m), some (wI i), some (wI j), some (wI v), some (wI (prA X j)), some (wI (prE X j)), some (wI (cfn (gl X) 61 (prA X j) X.length))] [wI (cfn (gl X) 61 (prA X j) X.length)] (sh, W)) = wev zP 206 106 [some (wR m), some (wI i), some (wI j), some (wI v), some (wI (prA X j)), some (wI (prE X j)), some (wI (cfn (gl X) 61 (prA X j) X.length))] [wI (prS X j)] (sh, W) := by
      rw [hS]
      by_cases c : prE X j ≤ cfn (gl X) 61 (prA X j) X.length
      · rw [if_pos c, if_neg (by omega)]
      · rw [if_neg c, if_pos (by omega)]
    rw [both, mid]
    unfold prt
    by_cases c : v = 0
    · obtain ⟨V2, e2, s3, c3⟩ := hd (prS X j) (prA X j) (by omega) (by omega)
      refine ⟨V2, ?_, by rw [if_pos c]; exact s3, c3⟩
      rw [if_pos c, if_neg (fun w => w.1 c), if_pos c, w206_126, if_pos c, e2]
      simp only [wcx_v, wput_s, w206_155]
    · rw [if_neg c]
      by_cases d : prS X j = prE X j
      · have dn := (dec_st (gl X) (prE X j) (prS X j + 1)).1 (by omega)
        have s3 := s2.o8 M (fs := [7]) (V' := uI W m 7 0) (ou' := []) (fldM 7 0) (ox_ext (by unfold uI; rw [if_pos ⟨rfl, rfl⟩]; rfl) (fun k hk => absurd hk (Nat.not_lt_zero k))) (by unfold uI; rw [if_pos ⟨rfl, rfl⟩]; rfl)
        refine ⟨_, ?_, by rw [if_neg c, dn]; exact s3, by rw [(fld (V := W) M 7 0).2.1 0 (by decide)]; exact f0.2.2⟩
        rw [if_pos d, if_pos ⟨c, by omega⟩]
      · obtain ⟨V2, e2, s3, c3⟩ := hd (prE X j) (prS X j + 1) (by omega) (by omega)
        refine ⟨V2, ?_, by rw [if_neg c]; exact s3, c3⟩
        rw [if_neg d, if_neg (fun w => by have := w.2; omega), if_neg c, w206_126, if_neg c, wr_eq (by omega) (by omega), e2]
        simp only [wcx_v, wput_s, w206_142, w206_155]
theorem M207_11 (M : wMd sh m) {O : List Int} (ho : ox sh V m = O) (h7 : V m 7 = (O.length : Int)) (hb : lB O) (i : Int) : ∀ (n : Nat) (k : Int) (l : Int64) (o5 : Option wV), k = n - 1 → n ≤ 8 → wev zP 207 11 [some (wR m), some (wI i), some (wL l), none, some (wI k), o5] [] (sh, V) = some (.inl (some (wL (wdA (if 0 ≤ i ∧ i ≤ 50 then gl O else fun _ => -1) i n l))), (sh, V)) := by
  intro n
  induction n with
  | zero => intro k l o5 hk hn; rw [w207_11, if_pos (by omega)]; rfl
  | succ n ih =>
    intro k l o5 hk hn
    have go : ∀ y x : Int, (if (if 0 ≤ i ∧ i ≤ 50 then gl O else fun _ => -1) (8 * i + n) < 0 then 0 else (if 0 ≤ i ∧ i ≤ 50 then gl O else fun _ => -1) (8 * i + n)) = x → wev zP 207 72 [some (wR m), some (wI i), some (wL l), none, some (wI k), some (wI y)] [wI x, wL (l <<< (Int32.toInt64 (oI 8) &&& 63))] (sh, V) = some (.inl (some (wL (wdA (if 0 ≤ i ∧ i ≤ 50 then gl O else fun _ => -1) i (n + 1) l))), (sh, V)) := fun y x hx => by
      rw [w207_72, wr_eq (by omega) (by omega), ih _ _ _ (by omega) (by omega), wdA, hx]
    have no : (if (if 0 ≤ i ∧ i ≤ 50 then gl O else fun _ => -1) (8 * i + n) < 0 then 0 else (if 0 ≤ i ∧ i ≤ 50 then gl O else fun _ => -1) (8 * i + n)) = 0 → wev zP 207 44 [some (wR m), some (wI i), some (wL l), none, some (wI k), o5] [] (sh, V) = some (.inl (some (wL (wdA (if 0 ≤ i ∧ i ≤ 50 then gl O else fun _ => -1) i (n + 1) l))), (sh, V)) := fun hx => by
      rw [w207_44, w207_45, if_pos rfl]; exact go 0 0 hx
    rw [w207_11, if_neg (by omega)]
    by_cases c1 : i < 0
    · rw [if_pos c1]; exact no (by rw [if_neg (c := 0 ≤ i ∧ i ≤ 50) (by omega)]; rfl)
    · rw [if_neg c1]
      by_cases c2 : 50 < i
      · rw [if_pos c2]; exact no (by rw [if_neg (c := 0 ≤ i ∧ i ≤ 50) (by omega)]; rfl)
      · rw [if_neg c2, wr_eq (x := 8 * i) (by omega) (by omega), wr_eq (x := 8 * i + k) (by omega) (by omega), h7, show 8 * i + k = 8 * i + n by omega]
        by_cases c3 : (O.length : Int) ≤ 8 * i + n
        · rw [if_pos c3]; exact no (by rw [if_pos (c := 0 ≤ i ∧ i ≤ 50) (by omega), gl_out (Or.inr c3)]; rfl)
        · have e8 : V (sr sh m 8) (8 * i + n).toNat = gl O (8 * i + n) := by
            rw [← ho]
            unfold ox
            rw [gl_in (by omega) (by rw [List.length_map, List.length_range]; omega), List.getD_eq_getElem?_getD, List.getElem?_map, List.getElem?_range (by omega)]; rfl
          have gb := gl_b hb (8 * i + n)
          rw [if_neg c3, w207_45, if_neg (by decide), wr_eq (x := 8 * i) (by omega) (by omega), wr_eq (x := 8 * i + k) (by omega) (by omega), show 8 * i + k = 8 * i + n by omega, e8]
          exact go 1 _ (by rw [if_pos (c := 0 ≤ i ∧ i ≤ 50) (by omega), if_neg (by have := gb.2.2; omega)])
theorem wdA_0 (i : Int) : ∀ n, wdA (fun _ => -1) i n 0 = 0 := by
  intro n
  induction n with
  | zero => rfl
  | succ n ih =>
    rw [wdA, if_pos (by decide)]
    have e : ((0 : Int64) <<< (Int32.toInt64 (oI 8) &&& 63) ||| Int32.toInt64 (oI 0)) = 0 := by decide
    rw [e]; exact ih
theorem M207 (M : wMd sh m) (s : Mx sh m V tp ou rw') (hb : lB ou) (i : Int) : wcl zP 207 [wR m, wI i] (sh, V) = some (.inl (some (wL (wrd ou i))), (sh, uI V m 0 0)) := by
  have s1 := Mx_fld M s 0 (by decide) 0
  rw [w207_0, M207_11 M s1.2.2.2.1.1 s1.2.2.2.1.2 hb i 8 7 _ _ (by decide) (by decide)]
  unfold wrd
  by_cases c : 0 ≤ i ∧ i ≤ 50
  · rw [if_pos c, if_pos c]
  · rw [if_neg c, if_neg c, wdA_0]
theorem M166q (M : wMd sh m) (s : Mx sh m V tp ou rw') (i : Int) : ∃ y, wcl zP 166 [wR m, wI i] (sh, V) = rI y (sh, uI V m 0 0) ∧ Mx sh m (uI V m 0 0) tp ou rw' := ⟨_, M166 M i, Mx_fld M s 0 (by decide) 0⟩
end
