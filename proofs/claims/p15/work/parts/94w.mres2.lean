set_option maxRecDepth 16384
/-! the model: resolving, what is laid -/
/-- what is laid, as o, a and w tell -/
noncomputable def mLay (B R : Nat → List Int × Int) (o a w : Int) : Nat → List Int × Int := fun k =>
  if k = 4 then (if w = 0 then (if a = 0 ∧ gl (R 4).1 0 ≠ 47 then (mdt (mrg B (R 4).1), 1) else (mdt (R 4).1, (R 4).2)) else B 4)
  else if k = 6 then R 6
  else if k = 5 then (if w = 0 then R 5 else if (R 5).2 = 0 then B 5 else R 5)
  else if k = 1 ∨ k = 2 ∨ k = 3 then (if a = 0 then B k else R k)
  else (if o = 0 then B 0 else R 0)
theorem mdt_o {sh : zSh} {m : Nat} {V V' : wSt} (M : wMd sh m) (f : FrO [sr sh m 9, sr sh m 10, sr sh m 12, sr sh m 13] V V') {j : Nat} (hj : j ∈ zARw) (n : j ≠ 9 ∧ j ≠ 10 ∧ j ≠ 12 ∧ j ≠ 13) : V' (sr sh m j) = V (sr sh m j) := f _ (fun w => by
  simp only [List.mem_cons, List.not_mem_nil, or_false] at w
  rcases w with w | w | w | w
  · exact M.n hj (by decide) n.1 w
  · exact M.n hj (by decide) n.2.1 w
  · exact M.n hj (by decide) n.2.2.1 w
  · exact M.n hj (by decide) n.2.2.2 w)
/-- all of the model that laying may change -/
def layO (sh : zSh) (m : Nat) : List Nat := [sr sh m 9, sr sh m 10, sr sh m 11, sr sh m 12, sr sh m 13]
theorem M175_lay {sh : zSh} {V : wSt} {m : Nat} (M : wMd sh m) (S : mSz sh V m) (d s o a w : Int) {b r : Int} (hb : 0 ≤ b ∧ b ≤ 13) (hr : 0 ≤ r ∧ r ≤ 13) {B R : List Int} (hBl : B.length ≤ 700) (hRl : R.length ≤ 700) (KB : mK sh V m b B) (KR : mK sh V m r R) {Q0 : Nat → List Int × Int} (K0 : lK6 sh V m Q0) : ∃ V', wev zP 175 83 [some (wR m), some (wI d), some (wI b), some (wI r), some (wI s), some (wI o), some (wI a), some (wI w)] [] (sh, V) = wev zP 175 193 [some (wR m), some (wI d), some (wI b), some (wI r), some (wI s), some (wI o), some (wI a), some (wI w)] [] (sh, V') ∧ FrO (layO sh m) V V' ∧ lK sh V' m (mLay (cutQ B) (cutQ R) o a w) := by
  have lay : ∀ (V1 : wSt) (Q : Nat → List Int × Int) (k : Int), FrO (lyO sh m) V V1 → lK6 sh V1 m Q → 0 ≤ k ∧ k ≤ 6 → (∃ V2, wcl zP 153 [wR m, wI k, wI b] (sh, V1) = rN (sh, V2) ∧ FrO (lyO sh m) V V2 ∧ lK6 sh V2 m (pup Q k.toNat (cutQ B k.toNat))) ∧ (∃ V2, wcl zP 153 [wR m, wI k, wI r] (sh, V1) = rN (sh, V2) ∧ FrO (lyO sh m) V V2 ∧ lK6 sh V2 m (pup Q k.toNat (cutQ R k.toNat))) := fun V1 Q k f K hk => by
    constructor
    · obtain ⟨V2, e, g, l⟩ := M153l M (mSz_fr M S f) hb hk (by omega) (mK_fr M KB f)
      exact ⟨V2, e, f.trans g.1, g.K6 K l⟩
    · obtain ⟨V2, e, g, l⟩ := M153l M (mSz_fr M S f) hr hk (by omega) (mK_fr M KR f)
      exact ⟨V2, e, f.trans g.1, g.K6 K l⟩
  have lay4 : ∀ (V1 : wSt) (Q : Nat → List Int × Int), FrO (lyO sh m) V V1 → lK6 sh V1 m Q → (∃ V2, wcl zP 153 [wR m, wI 4, wI b] (sh, V1) = rN (sh, V2) ∧ FrO (lyO sh m) V V2 ∧ lK sh V2 m (pup Q 4 (cutQ B 4))) ∧ (∃ V2, wcl zP 153 [wR m, wI 4, wI r] (sh, V1) = rN (sh, V2) ∧ FrO (lyO sh m) V V2 ∧ lK sh V2 m (pup Q 4 (cutQ R 4))) := fun V1 Q f K => by
    constructor
    · obtain ⟨V2, e, g, l⟩ := M153l M (mSz_fr M S f) hb (k := 4) (by decide) (by omega) (mK_fr M KB f)
      exact ⟨V2, e, f.trans g.1, g.K4 K l⟩
    · obtain ⟨V2, e, g, l⟩ := M153l M (mSz_fr M S f) hr (k := 4) (by decide) (by omega) (mK_fr M KR f)
      exact ⟨V2, e, f.trans g.1, g.K4 K l⟩
  -- scheme
  obtain ⟨V1, e1, f1, l1⟩ : ∃ V1, wev zP 175 83 [some (wR m), some (wI d), some (wI b), some (wI r), some (wI s), some (wI o), some (wI a), some (wI w)] [] (sh, V) = wev zP 175 98 [some (wR m), some (wI d), some (wI b), some (wI r), some (wI s), some (wI o), some (wI a), some (wI w)] [] (sh, V1) ∧ FrO (lyO sh m) V V1 ∧ lK6 sh V1 m (pup Q0 0 (if o = 0 then cutQ B 0 else cutQ R 0)) := by
    obtain ⟨⟨V1, e1, f1, l1⟩, ⟨V2, e2, f2, l2⟩⟩ := lay V Q0 0 FrO.refl K0 (by decide)
    rw [w175_83]
    by_cases c : o = 0
    · rw [if_pos c, if_pos c]; exact ⟨V1, by rw [e1]; simp only [wcx_v, wput_n], f1, l1⟩
    · rw [if_neg c, if_neg c]; exact ⟨V2, by rw [e2]; simp only [wcx_v, wput_n], f2, l2⟩
  obtain ⟨Q1, hQ1⟩ : ∃ Q1, Q1 = pup Q0 0 (if o = 0 then cutQ B 0 else cutQ R 0) := ⟨_, rfl⟩
  rw [← hQ1] at l1
  -- authority
  obtain ⟨V2, e2, f2, l2⟩ : ∃ V2, wev zP 175 98 [some (wR m), some (wI d), some (wI b), some (wI r), some (wI s), some (wI o), some (wI a), some (wI w)] [] (sh, V1) = wev zP 175 112 [some (wR m), some (wI d), some (wI b), some (wI r), some (wI s), some (wI o), some (wI a), some (wI w)] [] (sh, V2) ∧ FrO (lyO sh m) V V2 ∧ lK6 sh V2 m (fun k => if k = 1 ∨ k = 2 ∨ k = 3 then (if a = 0 then cutQ B k else cutQ R k) else Q1 k) := by
    rw [w175_98]
    by_cases c : a = 0
    · obtain ⟨V2, e2, f2, l2⟩ := M154l M (mSz_fr M S f1) hb (by omega) (mK_fr M KB f1) l1
      rw [if_pos c]; exact ⟨V2, by rw [e2]; simp only [wcx_v, wput_n], f1.trans f2, l2.cg (fun k _ _ => by rw [if_pos c])⟩
    · obtain ⟨V2, e2, f2, l2⟩ := M154l M (mSz_fr M S f1) hr (by omega) (mK_fr M KR f1) l1
      rw [if_neg c]; exact ⟨V2, by rw [e2]; simp only [wcx_v, wput_n], f1.trans f2, l2.cg (fun k _ _ => by rw [if_neg c])⟩
  obtain ⟨Q2, hQ2⟩ : ∃ Q2 : Nat → List Int × Int, Q2 = fun k => if k = 1 ∨ k = 2 ∨ k = 3 then (if a = 0 then cutQ B k else cutQ R k) else Q1 k := ⟨_, rfl⟩
  rw [← hQ2] at l2
  -- query
  obtain ⟨V3, e3, f3, l3⟩ : ∃ V3, wev zP 175 112 [some (wR m), some (wI d), some (wI b), some (wI r), some (wI s), some (wI o), some (wI a), some (wI w)] [] (sh, V2) = wev zP 175 136 [some (wR m), some (wI d), some (wI b), some (wI r), some (wI s), some (wI o), some (wI a), some (wI w)] [] (sh, V3) ∧ FrO (lyO sh m) V V3 ∧ lK6 sh V3 m (pup Q2 5 (if w = 0 then cutQ R 5 else if (cutQ R 5).2 = 0 then cutQ B 5 else cutQ R 5)) := by
    obtain ⟨⟨V3, e3, f3, l3⟩, ⟨V4, e4, f4, l4⟩⟩ := lay V2 Q2 5 f2 l2 (by decide)
    have h5 : wcl zP 134 [wR m, wI r, wI 5] (sh, V2) = rI (cutQ R 5).2 (sh, V2) := M134q (p := 5) (mK_fr M KR f2) hr (by decide)
    rw [w175_112]
    by_cases c : w = 0
    · rw [if_pos c, if_pos c]; exact ⟨V4, by rw [e4]; simp only [wcx_v, wput_n], f4, l4⟩
    · rw [if_neg c, if_neg c, h5]
      simp only [wcx_v, wput_s, w175_125]
      by_cases g : (cutQ R 5).2 = 0
      · rw [if_pos g, if_pos g]; exact ⟨V3, by rw [e3]; simp only [wcx_v, wput_n], f3, l3⟩
      · rw [if_neg g, if_neg g]; exact ⟨V4, by rw [e4]; simp only [wcx_v, wput_n], f4, l4⟩
  obtain ⟨Q3, hQ3⟩ : ∃ Q3, Q3 = pup Q2 5 (if w = 0 then cutQ R 5 else if (cutQ R 5).2 = 0 then cutQ B 5 else cutQ R 5) := ⟨_, rfl⟩
  rw [← hQ3] at l3
  -- fragment
  obtain ⟨V4, e4, f4, l4⟩ := (lay V3 Q3 6 f3 l3 (by decide)).2
  obtain ⟨Q4, hQ4⟩ : ∃ Q4, Q4 = pup Q3 6 (cutQ R 6) := ⟨_, rfl⟩
  have l4 : lK6 sh V4 m Q4 := by rw [hQ4]; exact l4
  have start : wev zP 175 83 [some (wR m), some (wI d), some (wI b), some (wI r), some (wI s), some (wI o), some (wI a), some (wI w)] [] (sh, V) = wev zP 175 143 [some (wR m), some (wI d), some (wI b), some (wI r), some (wI s), some (wI o), some (wI a), some (wI w)] [] (sh, V4) := by
    rw [e1, e2, e3, w175_136, e4]; simp only [wcx_v, wput_n]
  have big : ∀ {V' : wSt}, FrO (lyO sh m) V V' → FrO (layO sh m) V V' := fun f => f.mono (fun x hx => by
    unfold lyO at hx; unfold layO
    simp only [List.mem_cons, List.not_mem_nil, or_false] at hx ⊢
    rcases hx with h | h | h
    · exact Or.inl h
    · exact Or.inr (Or.inl h)
    · exact Or.inr (Or.inr (Or.inl h)))
  have fin : ∀ X : List Int × Int, X = mLay (cutQ B) (cutQ R) o a w 4 → ∀ k, k < 7 → pup Q4 4 X k = mLay (cutQ B) (cutQ R) o a w k := fun X hX k hk => by
    by_cases k4 : k = 4
    · subst k4; rw [pup_at, hX]
    · unfold pup mLay
      rw [if_neg k4, if_neg k4, hQ4]; unfold pup
      by_cases k6 : k = 6
      · rw [if_pos k6, if_pos k6]
      · rw [if_neg k6, if_neg k6, hQ3]; unfold pup
        by_cases k5 : k = 5
        · rw [if_pos k5, if_pos k5]
        · rw [if_neg k5, if_neg k5, hQ2]; dsimp only
          by_cases k1 : k = 1 ∨ k = 2 ∨ k = 3
          · rw [if_pos k1, if_pos k1]
          · rw [if_neg k1, if_neg k1, hQ1]; unfold pup; rw [if_pos (by omega)]
  have m4 : mLay (cutQ B) (cutQ R) o a w 4 = if w = 0 then (if a = 0 ∧ gl (cutQ R 4).1 0 ≠ 47 then (mdt (mrg (cutQ B) (cutQ R 4).1), 1) else (mdt (cutQ R 4).1, (cutQ R 4).2)) else cutQ B 4 := by unfold mLay; rw [if_pos rfl]
  -- the dots go
  have dots : ∀ (V5 : wSt) (X : List Int × Int), FrO (lyO sh m) V V5 → lK sh V5 m (pup Q4 4 X) → X.1.length ≤ 1490 → (mdt X.1, X.2) = mLay (cutQ B) (cutQ R) o a w 4 → ∃ V', wev zP 175 189 [some (wR m), some (wI d), some (wI b), some (wI r), some (wI s), some (wI o), some (wI a), some (wI w)] [] (sh, V5) = wev zP 175 193 [some (wR m), some (wI d), some (wI b), some (wI r), some (wI s), some (wI o), some (wI a), some (wI w)] [] (sh, V') ∧ FrO (layO sh m) V V' ∧ lK sh V' m (mLay (cutQ B) (cutQ R) o a w) := fun V5 X f5 l5 hX hE => by
    obtain ⟨V6, e6, f6, l6⟩ := M162q M l5 (by rw [pup_at]; exact hX)
    rw [pup_pup, pup_at] at l6
    refine ⟨V6, by rw [w175_189, e6]; simp only [wcx_v, wput_n], (big f5).trans (f6.mono (fun x hx => ?_)), l6.cg (fin _ hE)⟩
    unfold layO
    simp only [List.mem_cons, List.not_mem_nil, or_false] at hx ⊢
    rcases hx with h | h | h | h
    · exact Or.inl h
    · exact Or.inr (Or.inl h)
    · exact Or.inr (Or.inr (Or.inr (Or.inl h)))
    · exact Or.inr (Or.inr (Or.inr (Or.inr h)))
  have cb := cutQ_le B 4 (by decide)
  have cr := cutQ_le R 4 (by decide)
  obtain ⟨⟨V5, e5, f5, l5⟩, ⟨V6, e6, f6, l6⟩⟩ := lay4 V4 Q4 f4 l4
  have own : (w = 0 → ¬ (a = 0 ∧ gl (cutQ R 4).1 0 ≠ 47)) → w = 0 → ∃ V', wcx (wcl zP 153 [wR m, wI 4, wI r] (sh, V4)) (fun v h' => wev zP 175 189 [some (wR m), some (wI d), some (wI b), some (wI r), some (wI s), some (wI o), some (wI a), some (wI w)] (wput v []) h') wth = wev zP 175 193 [some (wR m), some (wI d), some (wI b), some (wI r), some (wI s), some (wI o), some (wI a), some (wI w)] [] (sh, V') ∧ FrO (layO sh m) V V' ∧ lK sh V' m (mLay (cutQ B) (cutQ R) o a w) := fun hn hw => by
    obtain ⟨V7, e7, f7, l7⟩ := dots V6 (cutQ R 4) f6 l6 (by omega) (by rw [m4, if_pos hw, if_neg (hn hw)])
    exact ⟨V7, by rw [e6]; simp only [wcx_v, wput_n]; exact e7, f7, l7⟩
  rw [start, w175_143]
  by_cases c : w = 0
  · rw [if_pos c]
    by_cases g : a = 0
    · have h0 : wcl zP 136 [wR m, wI r, wI 4, wI 0] (sh, V4) = rI (gl (cutQ R 4).1 0) (sh, V4) := M136q (p := 4) (mSz_fr M S f4) (mK_fr M KR f4) (by omega) hr (by decide) 0 (by decide)
      rw [if_pos g, h0]
      simp only [wcx_v, wput_s, w175_169]
      by_cases i : gl (cutQ R 4).1 0 = 47
      · rw [if_pos i]; exact own (fun _ z => z.2 i) c
      · rw [if_neg i]
        obtain ⟨V7, e7, f7, l7⟩ := M174q M (mSz_fr M S f4) hb hr hBl hRl (mK_fr M KB f4) (mK_fr M KR f4) l4
        have ml := mrg_len (cutQ B) (cutQ R 4).1
        obtain ⟨V8, e8, f8, l8⟩ := dots V7 (mrg (cutQ B) (cutQ R 4).1, 1) (f4.trans f7) l7 (by show (mrg (cutQ B) (cutQ R 4).1).length ≤ 1490; omega) (by rw [m4, if_pos c, if_pos ⟨g, i⟩])
        exact ⟨V8, by rw [e7]; simp only [wcx_v, wput_n, w175_180]; exact e8, f8, l8⟩
    · rw [if_neg g]; exact own (fun _ z => g z.1) c
  · rw [if_neg c]
    exact ⟨V5, by rw [e5]; simp only [wcx_v, wput_n, w175_154], big f5, l5.cg (fin _ (by rw [m4, if_neg c]))⟩
