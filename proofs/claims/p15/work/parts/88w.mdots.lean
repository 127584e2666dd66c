set_option maxRecDepth 16384
/-! the model: dots that go -/
noncomputable def mdA (L : List Int) : Nat → Int → List (Int × Int) → Int → List (Int × Int) × Int
  | 0, _, S, o => (S, o)
  | n + 1, s, S, o => if (L.length : Int) < s then (S, o)
    else mdA L n (cfn (gl L) 47 s L.length + 1)
      (if cfn (gl L) 47 s L.length - s = 2 ∧ gl L s = 46 ∧ gl L (s + 1) = 46 then S.dropLast else if cfn (gl L) 47 s L.length - s = 1 ∧ gl L s = 46 then S else S ++ [(s, cfn (gl L) 47 s L.length)])
      (if cfn (gl L) 47 s L.length - s = 2 ∧ gl L s = 46 ∧ gl L (s + 1) = 46 then 0 else if cfn (gl L) 47 s L.length - s = 1 ∧ gl L s = 46 then 0 else 1)
/-- the arrays hold the segments that stay -/
def stk (sh : zSh) (V : wSt) (m : Nat) (S : List (Int × Int)) : Prop := ∀ i : Nat, i < S.length → V (sr sh m 12) i = (S.getD i (0, 0)).1 ∧ V (sr sh m 13) i = (S.getD i (0, 0)).2
/-- what happens behind the search for a segment -/
theorem M162_step {sh : zSh} {V : wSt} {m : Nat} (M : wMd sh m) {Q : Nat → List Int × Int} (K : lK sh V m Q) (x1 x2 s c x5 : Int) (o6 o7 o8 : Option wV) (hs : 0 ≤ s ∧ s ≤ (Q 4).1.length) (hl : (Q 4).1.length ≤ 1490) (hc : 0 ≤ c ∧ c ≤ 2000) (S : List (Int × Int)) (hS : stk sh V m S) (hcS : (S.length : Int) = c) :
    ∃ V' S' o' o6' o7' o8', wev zP 162 52 [some (wR m), some (wI x1), some (wI x2), some (wI s), some (wI c), some (wI x5), o6, o7, o8] [wI (cfn (gl (Q 4).1) 47 s (Q 4).1.length)] (sh, V) = wev zP 162 40 [some (wR m), some (wI x1), some (wI x2), some (wI (cfn (gl (Q 4).1) 47 s (Q 4).1.length + 1)), some (wI (S'.length : Int)), some (wI o'), o6', o7', o8'] [] (sh, V') ∧ FrO [sr sh m 12, sr sh m 13] V V' ∧ stk sh V' m S' ∧
      S' = (if cfn (gl (Q 4).1) 47 s (Q 4).1.length - s = 2 ∧ gl (Q 4).1 s = 46 ∧ gl (Q 4).1 (s + 1) = 46 then S.dropLast else if cfn (gl (Q 4).1) 47 s (Q 4).1.length - s = 1 ∧ gl (Q 4).1 s = 46 then S else S ++ [(s, cfn (gl (Q 4).1) 47 s (Q 4).1.length)]) ∧
      o' = (if cfn (gl (Q 4).1) 47 s (Q 4).1.length - s = 2 ∧ gl (Q 4).1 s = 46 ∧ gl (Q 4).1 (s + 1) = 46 then 0 else if cfn (gl (Q 4).1) 47 s (Q 4).1.length - s = 1 ∧ gl (Q 4).1 s = 46 then 0 else 1) := by
  obtain ⟨L, hL⟩ : ∃ L, L = (Q 4).1 := ⟨_, rfl⟩
  rw [← hL] at hs hl ⊢
  have cr := (cfn_r (gl L) 47 s L.length).1 hs.2
  obtain ⟨e, he⟩ : ∃ e, e = cfn (gl L) 47 s L.length := ⟨_, rfl⟩
  rw [← he] at cr ⊢
  have at_ : ∀ j : Int, wcl zP 160 [wR m, wI 4, wI j] (sh, V) = rI (gl L j) (sh, V) := fun j => by
    have k := M160q K (k := 4) (by decide) j
    rw [k, hL]; rfl
  have n12 : sr sh m 12 ≠ sr sh m 13 := M.n (by decide) (by decide) (by decide)
  -- with the two answers told
  have fin : ∀ d1 d2 : Int, (d1 = 0 ∨ d1 = 1) → (d2 = 0 ∨ d2 = 1) → (d1 = 1 ↔ (e - s = 1 ∧ gl L s = 46)) → (d2 = 1 ↔ (e - s = 2 ∧ gl L s = 46 ∧ gl L (s + 1) = 46)) → ∃ V' S' o' o6' o7' o8', wev zP 162 119 [some (wR m), some (wI x1), some (wI x2), some (wI s), some (wI c), some (wI x5), some (wI e), some (wI d1), some (wI d2)] [] (sh, V) = wev zP 162 40 [some (wR m), some (wI x1), some (wI x2), some (wI (e + 1)), some (wI (S'.length : Int)), some (wI o'), o6', o7', o8'] [] (sh, V') ∧ FrO [sr sh m 12, sr sh m 13] V V' ∧ stk sh V' m S' ∧
      S' = (if e - s = 2 ∧ gl L s = 46 ∧ gl L (s + 1) = 46 then S.dropLast else if e - s = 1 ∧ gl L s = 46 then S else S ++ [(s, e)]) ∧ o' = (if e - s = 2 ∧ gl L s = 46 ∧ gl L (s + 1) = 46 then 0 else if e - s = 1 ∧ gl L s = 46 then 0 else 1) := by
    intro d1 d2 h1 h2 i1 i2
    have me : wr (e + 1) = e + 1 := wr_eq (by omega) (by omega)
    rcases h2 with h2 | h2
    · have nd2 : ¬ (e - s = 2 ∧ gl L s = 46 ∧ gl L (s + 1) = 46) := fun w => by have := i2.mpr w; omega
      rw [if_neg nd2, if_neg nd2]
      rcases h1 with h1 | h1
      · have nd1 : ¬ (e - s = 1 ∧ gl L s = 46) := fun w => by have := i1.mpr w; omega
        rw [if_neg nd1, if_neg nd1]
        subst h1; subst h2
        obtain ⟨W, hW⟩ : ∃ W, W = uI (uI V (sr sh m 12) (Int.toNat c) s) (sr sh m 13) (Int.toNat c) e := ⟨_, rfl⟩
        refine ⟨W, S ++ [(s, e)], 1, some (wI e), some (wI 0), some (wI 0), ?_, ?_, fun i hi => ?_, rfl, rfl⟩
        · rw [w162_119, if_pos rfl, if_pos rfl, w162_134, if_pos rfl, if_pos rfl, ← hW, w162_184, me, wr_eq (by omega) (by omega), List.length_append, List.length_singleton, show c + 1 = ((S.length + 1 : Nat) : Int) by omega]
        · rw [hW]; exact (uI_fr (List.mem_cons_self)).trans (uI_fr (List.mem_cons_of_mem _ (List.mem_cons_self)))
        · rw [List.length_append, List.length_singleton] at hi
          have a12 : W (sr sh m 12) i = if i = c.toNat then s else V (sr sh m 12) i := by
            rw [hW]; unfold uI
            rw [if_neg (fun w => n12 w.1)]
            by_cases d : i = c.toNat
            · rw [if_pos ⟨rfl, d⟩, if_pos d]
            · rw [if_neg (fun w => d w.2), if_neg d]
          have a13 : W (sr sh m 13) i = if i = c.toNat then e else V (sr sh m 13) i := by
            rw [hW]; unfold uI
            by_cases d : i = c.toNat
            · rw [if_pos ⟨rfl, d⟩, if_pos d]
            · rw [if_neg (fun w => d w.2), if_neg (fun w => n12 w.1.symm), if_neg d]
          rw [a12, a13, List.getD_eq_getElem?_getD, List.getElem?_append]
          by_cases d : i < S.length
          · rw [if_neg (c := i = c.toNat) (by omega), if_neg (c := i = c.toNat) (by omega), if_pos d, ← List.getD_eq_getElem?_getD]; exact hS i d
          · rw [if_pos (c := i = c.toNat) (by omega), if_pos (c := i = c.toNat) (by omega), if_neg d, show i - S.length = 0 by omega]; exact ⟨rfl, rfl⟩
      · rw [if_pos (i1.mp h1), if_pos (i1.mp h1)]
        subst h1; subst h2
        refine ⟨V, S, 0, some (wI e), some (wI 1), some (wI 0), ?_, FrO.refl, hS, rfl, rfl⟩
        rw [w162_119, if_neg (by decide), w162_133, w162_134, if_pos rfl, if_neg (by decide), w162_184, me, hcS]
    · rw [if_pos (i2.mp h2), if_pos (i2.mp h2)]
      have nd1 : d1 = 0 := h1.resolve_right (fun w => by have a := (i1.mp w).1; have b := (i2.mp h2).1; omega)
      subst nd1; subst h2
      have ld : (S.dropLast.length : Int) = if c ≤ 0 then 0 else c - 1 := by rw [List.length_dropLast]; split <;> omega
      refine ⟨V, S.dropLast, 0, some (wI e), some (wI 0), some (wI 1), ?_, FrO.refl, fun i hi => ?_, rfl, rfl⟩
      · rw [w162_119, if_pos rfl, if_neg (by decide), w162_133, w162_134, if_neg (by decide), ld]
        by_cases d : c ≤ 0
        · rw [if_pos d, if_pos d, w162_154, w162_184, me]
        · rw [if_neg d, if_neg d, wr_eq (by omega) (by omega), w162_154, w162_184, me]
      · rw [List.length_dropLast] at hi
        have h := hS i (by omega)
        rw [List.getD_eq_getElem?_getD, List.getElem?_dropLast, if_pos (by omega), ← List.getD_eq_getElem?_getD]; exact h
  -- the second question
  have q2 : ∀ d1 : Int, (d1 = 0 ∨ d1 = 1) → (d1 = 1 ↔ (e - s = 1 ∧ gl L s = 46)) → ∃ V' S' o' o6' o7' o8', wev zP 162 78 [some (wR m), some (wI x1), some (wI x2), some (wI s), some (wI c), some (wI x5), some (wI e), o7, o8] [wI d1] (sh, V) = wev zP 162 40 [some (wR m), some (wI x1), some (wI x2), some (wI (e + 1)), some (wI (S'.length : Int)), some (wI o'), o6', o7', o8'] [] (sh, V') ∧ FrO [sr sh m 12, sr sh m 13] V V' ∧ stk sh V' m S' ∧
      S' = (if e - s = 2 ∧ gl L s = 46 ∧ gl L (s + 1) = 46 then S.dropLast else if e - s = 1 ∧ gl L s = 46 then S else S ++ [(s, e)]) ∧ o' = (if e - s = 2 ∧ gl L s = 46 ∧ gl L (s + 1) = 46 then 0 else if e - s = 1 ∧ gl L s = 46 then 0 else 1) := by
    intro d1 h1 i1
    have f0 := fin d1 0 h1 (Or.inl rfl) i1
    rw [w162_78, wr_eq (by omega) (by omega)]
    by_cases a : e - s = 2
    · rw [if_pos a, at_]
      simp only [wcx_v, wput_s, w162_94]
      by_cases b : gl L s = 46
      · rw [if_pos b, wr_eq (by omega) (by omega), at_]
        simp only [wcx_v, wput_s, w162_107]
        by_cases d : gl L (s + 1) = 46
        · rw [if_pos d, w162_117]; exact fin d1 1 h1 (Or.inr rfl) i1 ⟨fun _ => ⟨a, b, d⟩, fun _ => rfl⟩
        · rw [if_neg d, w162_116, w162_117]; exact f0 ⟨fun w => absurd w (by decide), fun w => absurd w.2.2 d⟩
      · rw [if_neg b, w162_116, w162_117]; exact f0 ⟨fun w => absurd w (by decide), fun w => absurd w.2.1 b⟩
    · rw [if_neg a, w162_116, w162_117]; exact f0 ⟨fun w => absurd w (by decide), fun w => absurd w.1 a⟩
  rw [w162_52, wr_eq (by omega) (by omega)]
  by_cases a : e - s = 1
  · rw [if_pos a, at_]
    simp only [wcx_v, wput_s, w162_68]
    by_cases b : gl L s = 46
    · rw [if_pos b]; exact q2 1 (Or.inr rfl) ⟨fun _ => ⟨a, b⟩, fun _ => rfl⟩
    · rw [if_neg b, w162_77]; exact q2 0 (Or.inl rfl) ⟨fun w => absurd w (by decide), fun w => absurd w.2 b⟩
  · rw [if_neg a, w162_77]; exact q2 0 (Or.inl rfl) ⟨fun w => absurd w (by decide), fun w => absurd w.1 a⟩
