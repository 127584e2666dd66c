set_option maxRecDepth 16384
/-! the model: dots that go, whole -/
def mab (L : List Int) : Int := if gl L 0 = 47 then 1 else 0
/-- a path without its dots, as the model has it -/
noncomputable def mdt (L : List Int) : List Int := (if mab L = 0 then [] else [47]) ++ sgT L (mdA L (L.length + 1) (mab L) [] 1).2 (mdA L (L.length + 1) (mab L) [] 1).1
theorem M162q {sh : zSh} {V : wSt} {m : Nat} (M : wMd sh m) {Q : Nat → List Int × Int} (K : lK sh V m Q) (hl : (Q 4).1.length ≤ 1490) : ∃ V', wcl zP 162 [wR m] (sh, V) = rN (sh, V') ∧ FrO [sr sh m 9, sr sh m 10, sr sh m 12, sr sh m 13] V V' ∧ lK sh V' m (pup Q 4 (mdt (Q 4).1, (Q 4).2)) := by
  obtain ⟨L, hL⟩ : ∃ L, L = (Q 4).1 := ⟨_, rfl⟩
  have sz := K.sz (k := 4) (by decide)
  have gz := gl_out (L := L) (k := 0)
  have ar : mab L = 0 ∨ mab L = 1 := by unfold mab; split <;> omega
  have al : mab L ≤ L.length := by
    unfold mab
    by_cases c : gl L 0 = 47
    · rw [if_pos c]
      by_cases d : (L.length : Int) ≤ 0
      · rw [gz (Or.inr d)] at c; cases c
      · omega
    · rw [if_neg c]; omega
  have start : wcl zP 162 [wR m] (sh, V) = wev zP 162 40 [some (wR m), some (wI (L.length : Int)), some (wI (mab L)), some (wI (mab L)), some (wI 0), some (wI 1), none, none, none] [] (sh, V) := by
    rw [w162_0, M160q K (k := 4) (by decide) 0, show Int.toNat 4 = 4 from rfl, ← hL, sz, ← hL]
    simp only [wcx_v, wput_s, w162_13]
    unfold mab
    by_cases c : gl L 0 = 47
    · rw [if_pos c, if_pos c, w162_23, if_neg (by decide), w162_33]
    · rw [if_neg c, if_neg c, w162_23, if_pos rfl, w162_33]
  have hn : ((Q 4).1.length + 1 : Nat) = L.length + 1 := by rw [hL]
  obtain ⟨V1, S1, o1, s1, p6, p7, p8, e1, l1, l1', r1, st1, ok1, c1, f1⟩ := M162_40 M (Q := Q) (mab L) (mab L) hl (by omega) (L.length + 1) V (mab L) [] 1 none none none (by rw [← hL]; omega) (by omega) (by rw [List.length_nil]; omega) (by rw [← hL]; omega) K (fun i hi => absurd hi (Nat.not_lt_zero i)) (Int.le_refl _)
  rw [← hL] at e1 l1 l1' r1 hl
  have fr1 : ∀ j, j ∈ zARw → j ≠ 12 → j ≠ 13 → V1 (sr sh m j) = V (sr sh m j) := fun j hj n1 n2 => f1 _ (fun w => by
    simp only [List.mem_cons, List.not_mem_nil, or_false] at w
    rcases w with w | w
    · exact M.n hj (by decide) n1 w
    · exact M.n hj (by decide) n2 w)
  have K1 : lK sh V1 m Q := lK_fr K (fr1 9 (by decide) (by decide) (by decide)) (fr1 10 (by decide) (by decide) (by decide)) (fr1 11 (by decide) (by decide) (by decide))
  have n910 : sr sh m 9 ≠ sr sh m 10 := M.n (by decide) (by decide) (by decide)
  have n1011 : sr sh m 11 ≠ sr sh m 10 := M.n (by decide) (by decide) (by decide)
  have n1012 : sr sh m 12 ≠ sr sh m 10 := M.n (by decide) (by decide) (by decide)
  have n1013 : sr sh m 13 ≠ sr sh m 10 := M.n (by decide) (by decide) (by decide)
  obtain ⟨W, hW⟩ : ∃ W, W = uI V1 (sr sh m 10) (Int.toNat 4) 0 := ⟨_, rfl⟩
  have wo : ∀ b, b ≠ sr sh m 10 → W b = V1 b := fun b hb => by funext j; rw [hW]; unfold uI; rw [if_neg (fun w => hb w.1)]
  have fW : FrO [sr sh m 9, sr sh m 10] V1 W := by rw [hW]; exact uI_fr (List.mem_cons_of_mem _ (List.mem_cons_self))
  have KW : lK sh W m (pup Q 4 ([], (Q 4).2)) := fun k hk => by
    have w10 : W (sr sh m 10) k = if k = 4 then 0 else V1 (sr sh m 10) k := by
      rw [hW]; unfold uI
      by_cases d : k = 4
      · rw [if_pos ⟨rfl, d⟩, if_pos d]
      · rw [if_neg (fun w => d w.2), if_neg d]
    unfold pup ly
    rw [w10, wo _ n1011, wo _ n910]
    by_cases d : k = 4
    · rw [if_pos d, if_pos d, d, K1.th (by decide)]; exact ⟨by decide, rfl⟩
    · rw [if_neg d, if_neg d]; exact K1 k hk
  have cells : ∀ k : Nat, k < L.length → W (sr sh m 9) (6000 + k) = gl L k := fun k hk => by
    have g := K1.gl (k := 4) (by decide) (k : Int)
    rw [← hL, if_pos (by omega), Int.toNat_natCast] at g
    rw [wo _ n910, g]
  have go : ∀ (V2 : wSt) (P : List Int), FrO [sr sh m 9, sr sh m 10] V1 V2 → lK sh V2 m (pup Q 4 (P, (Q 4).2)) → okS s1 P.length S1 → (∀ k : Nat, P.length ≤ k → k < L.length → V2 (sr sh m 9) (6000 + k) = gl L k) → P = (if mab L = 0 then [] else [47]) → ∃ V', wev zP 162 210 [some (wR m), some (wI (L.length : Int)), some (wI (mab L)), some (wI s1), some (wI (S1.length : Int)), some (wI o1), p6, p7, p8] [] (sh, V2) = rN (sh, V') ∧ FrO [sr sh m 9, sr sh m 10, sr sh m 12, sr sh m 13] V V' ∧ lK sh V' m (pup Q 4 (mdt L, (Q 4).2)) := fun V2 P f2 K2 ok2 c2 hP => by
    have b12 := fr9 M f2 (j := 12) (by decide) (by decide) (by decide)
    have b13 := fr9 M f2 (j := 13) (by decide) (by decide) (by decide)
    obtain ⟨V3, e3, f3, l3⟩ := M162_213 M L hl (L.length : Int) (mab L) s1 (S1.length : Int) o1 s1 l1' (by omega) S1 V2 _ 0 p7 p8 (by decide) (by omega) K2 (by rw [pup_at]; exact ok2) (fun k hk => by
      rw [b12, b13, show (0 : Int).toNat + k = k by omega]; exact st1 k hk) (by rw [pup_at]; exact c2)
    rw [pup_pup, pup_at] at l3
    refine ⟨V3, ?_, ?_, l3.cg (fun k _ => ?_)⟩
    · rw [w162_210, e3]
    · refine (f1.mono (fun b hb => ?_)).trans ((f2.trans f3).mono (fun b hb => ?_))
      · exact List.mem_cons_of_mem _ (List.mem_cons_of_mem _ hb)
      · simp only [List.mem_cons, List.not_mem_nil, or_false] at hb ⊢
        rcases hb with hb | hb
        · exact Or.inl hb
        · exact Or.inr (Or.inl hb)
    · unfold mdt
      rw [← r1, ← hP]
  rw [start, show (0 : Int) = (([] : List (Int × Int)).length : Int) from rfl, e1, w162_40, if_pos l1, ← hW, ← hL]
  rcases ar with a0 | a1
  · rw [if_pos a0]
    exact go W [] fW KW (by rw [a0] at ok1; exact ok1) (fun k _ h => cells k h) (by rw [if_pos a0])
  · rw [if_neg (by omega)]
    have pl : ((pup Q 4 (([] : List Int), (Q 4).2)) 4).1 = [] := by rw [pup_at]
    obtain ⟨V2, e2, f2, l2, v2⟩ := M152p M KW 47 (by rw [pl]; decide)
    rw [pup_pup, pup_at] at l2
    rw [pl] at v2
    obtain ⟨V3, e3, f3, l3⟩ := go V2 [47] (fW.trans f2) l2 (by rw [a1] at ok1; exact ok1) (fun k a b => by
      rw [List.length_singleton] at a
      rw [v2 _ (by rw [List.length_nil]; omega)]; exact cells k b) (by rw [if_neg (by omega)])
    exact ⟨V3, by rw [e2]; simp only [wcx_v, wput_n]; exact e3, f3, l3⟩
