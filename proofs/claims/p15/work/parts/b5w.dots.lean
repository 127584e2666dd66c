set_option maxRecDepth 16384
/-! the model's way of removing dots, and of putting together, are the class's -/
theorem cmm_cmp {Q : Nat → List Int × Int} (F : Fl Q) : cmm Q = cmp Q := by
  have j0 : jn Q 0 = wm (Q 0) (-1) 58 := by
    unfold jn wm
    by_cases c : (Q 0).2 = 0
    · rw [if_pos c, if_pos c]
    · rw [if_neg c, if_neg c]; rfl
  have j12 : jn Q 1 ++ jn Q 2 = (if (Q 2).2 = 0 then [] else [47, 47]) ++ (wm (Q 1) (-1) 64 ++ wm (Q 2) (-1) (-1)) := by
    unfold jn wm
    by_cases c2 : (Q 2).2 = 0
    · have c1 := F.2.2.2.1 c2
      rw [if_pos c1, if_pos c2, if_pos c2, if_pos c1, if_pos c2]; rfl
    · rw [if_neg c2, if_neg c2, if_neg c2]
      by_cases c1 : (Q 1).2 = 0
      · rw [if_pos c1, if_pos c1, if_pos (c := (2 : Nat) = 1 ∨ ((2 : Nat) = 2 ∧ (Q 1).2 = 0)) (Or.inr ⟨rfl, c1⟩)]; rfl
      · rw [if_neg c1, if_neg c1, if_neg (c := (2 : Nat) = 1 ∨ ((2 : Nat) = 2 ∧ (Q 1).2 = 0)) (fun w => w.elim (by decide) (fun z => c1 z.2))]
        show ([] ++ ([47, 47] ++ ((Q 1).1 ++ [64]))) ++ ([] ++ ([] ++ ((Q 2).1 ++ []))) = [47, 47] ++ (([] ++ ((Q 1).1 ++ [64])) ++ ([] ++ ((Q 2).1 ++ [])))
        simp only [List.nil_append, List.append_assoc]
  have j3 : jn Q 3 = wm (Q 3) 58 (-1) := by
    unfold jn wm
    by_cases c : (Q 3).2 = 0
    · rw [if_pos c, if_pos c]
    · rw [if_neg c, if_neg c]; rfl
  have j4 : jn Q 4 = (Q 4).1 := by
    have c := F.2.2.1
    unfold jn
    rw [if_neg (by omega)]
    show [] ++ ([] ++ ((Q 4).1 ++ [])) = _
    simp only [List.nil_append, List.append_nil]
  have j5 : jn Q 5 = wm (Q 5) 63 (-1) := by
    unfold jn wm
    by_cases c : (Q 5).2 = 0
    · rw [if_pos c, if_pos c]
    · rw [if_neg c, if_neg c]; rfl
  have j6 : jn Q 6 = wm (Q 6) 35 (-1) := by
    unfold jn wm
    by_cases c : (Q 6).2 = 0
    · rw [if_pos c, if_pos c]
    · rw [if_neg c, if_neg c]; rfl
  have e : cmm Q = jn Q 0 ++ (jn Q 1 ++ (jn Q 2 ++ (jn Q 3 ++ (jn Q 4 ++ (jn Q 5 ++ (jn Q 6 ++ [])))))) := rfl
  rw [cmp_5 Q F.2.2.1, e, ← List.append_assoc (jn Q 1), j12, j0, j3, j4, j5, j6, List.append_nil]
  unfold aut
  simp only [List.append_assoc]
/-- the segments that stay, each with the / behind it -/
def cat (L : List Int) : List (Int × Int) → List Int
  | [] => []
  | (f, t) :: S => sub L f t ++ (47 :: cat L S)
theorem cat_app (L : List Int) (S : List (Int × Int)) (f t : Int) : cat L (S ++ [(f, t)]) = cat L S ++ (sub L f t ++ [47]) := by
  induction S with
  | nil => rfl
  | cons p S ih =>
    obtain ⟨a, b⟩ := p
    show sub L a b ++ (47 :: cat L (S ++ [(f, t)])) = (sub L a b ++ (47 :: cat L S)) ++ (sub L f t ++ [47])
    rw [ih, List.append_assoc, List.cons_append]
theorem sgT_0 (L : List Int) (S : List (Int × Int)) : sgT L 0 S = cat L S := by
  induction S with
  | nil => rfl
  | cons p S ih =>
    obtain ⟨a, b⟩ := p
    show sub L a b ++ ((if S.length = 0 ∧ (0 : Int) ≠ 0 then [] else [47]) ++ sgT L 0 S) = sub L a b ++ (47 :: cat L S)
    rw [if_neg (fun w => w.2 rfl), ih]; rfl
theorem sgT_1 (L : List Int) (S : List (Int × Int)) (f t : Int) : sgT L 1 (S ++ [(f, t)]) = cat L S ++ sub L f t := by
  induction S with
  | nil =>
    show sub L f t ++ ((if ([] : List (Int × Int)).length = 0 ∧ (1 : Int) ≠ 0 then [] else [47]) ++ sgT L 1 []) = [] ++ sub L f t
    rw [if_pos ⟨rfl, by decide⟩]
    show sub L f t ++ ([] ++ []) = _
    rw [List.nil_append, List.append_nil, List.nil_append]
  | cons p S ih =>
    obtain ⟨a, b⟩ := p
    show sub L a b ++ ((if (S ++ [(f, t)]).length = 0 ∧ (1 : Int) ≠ 0 then [] else [47]) ++ sgT L 1 (S ++ [(f, t)])) = (sub L a b ++ (47 :: cat L S)) ++ sub L f t
    rw [if_neg (fun w => by have := w.1; rw [List.length_append] at this; simp only [List.length_cons, List.length_nil] at this; omega), ih, List.append_assoc, List.cons_append]; rfl
theorem cat_end (L : List Int) (S : List (Int × Int)) (h : S ≠ []) : 0 < (cat L S).length ∧ gl (cat L S) ((cat L S).length - 1) = 47 := by
  rcases List.eq_nil_or_concat S with e | ⟨S0, ⟨f, t⟩, e⟩
  · exact absurd e h
  · rw [e, List.concat_eq_append, cat_app]
    have l : (cat L S0 ++ (sub L f t ++ [47])).length = (cat L S0).length + (sub L f t).length + 1 := by simp only [List.length_append, List.length_cons, List.length_nil]; omega
    refine ⟨by omega, ?_⟩
    rw [gl_app0 _ _ (by rw [l]; omega), gl_app0 _ _ (by rw [l]; omega), l, show (((cat L S0).length + (sub L f t).length + 1 : Nat) : Int) - 1 - (cat L S0).length - (sub L f t).length = 0 by omega]; rfl
/-- the last segment taken off -/
theorem cat_drop (L pre : List Int) (S : List (Int × Int)) (fl : Int) (hfl : (pre.length : Int) = fl) (hS : ∀ p, p ∈ S → ∀ i : Int, gl (sub L p.1 p.2) i ≠ 47) : (pre ++ cat L S).take (if fli (gl (pre ++ cat L S)) 47 fl (((pre ++ cat L S).length : Int) - 2) + 1 < fl then fl else fli (gl (pre ++ cat L S)) 47 fl (((pre ++ cat L S).length : Int) - 2) + 1).toNat = pre ++ cat L S.dropLast := by
  rcases List.eq_nil_or_concat S with e | ⟨S0, ⟨f, t⟩, e⟩
  · subst e
    have k : fli (gl (pre ++ cat L [])) 47 fl (((pre ++ cat L []).length : Int) - 2) = -1 := (fli_st _ _ _ _).1 (by
      show (((pre ++ []).length : Nat) : Int) - 2 < fl
      rw [List.append_nil]; omega)
    rw [k]
    show (pre ++ []).take _ = pre ++ []
    rw [List.append_nil]
    refine List.take_of_length_le ?_
    split <;> omega
  · rw [List.concat_eq_append] at e
    subst e
    have n47 := hS (f, t) (List.mem_append_right _ (List.mem_singleton.mpr rfl))
    rw [cat_app, List.dropLast_concat]
    obtain ⟨X, hX⟩ : ∃ X, X = sub L f t := ⟨_, rfl⟩
    have n47 : ∀ i : Int, gl X i ≠ 47 := by rw [hX]; exact n47
    rw [← hX]
    obtain ⟨D, hD⟩ : ∃ D, D = pre ++ (cat L S0 ++ (X ++ [47])) := ⟨_, rfl⟩
    have dl : (D.length : Int) = fl + (cat L S0).length + X.length + 1 := by rw [hD]; simp only [List.length_append, List.length_cons, List.length_nil]; omega
    have inX : ∀ k : Int, fl + (cat L S0).length ≤ k → k ≤ (D.length : Int) - 2 → gl D k ≠ 47 := fun k h1 h2 => by
      rw [hD, gl_app0 _ _ (by omega), gl_app0 _ _ (by omega), gl_app1 _ _ (by omega)]; exact n47 _
    have tk : D.take (fl + (cat L S0).length).toNat = pre ++ cat L S0 := by
      rw [hD, ← List.append_assoc, List.take_append_of_le_length (by rw [List.length_append]; omega)]
      exact List.take_of_length_le (by rw [List.length_append]; omega)
    rw [← hD]
    by_cases c : S0 = []
    · have c0 : cat L S0 = [] := by rw [c]; rfl
      rw [c0] at tk inX ⊢
      have k : fli (gl D) 47 fl ((D.length : Int) - 2) = -1 := fli_no _ _ rfl (fun k h1 h2 => inX k (by simp only [List.length_nil]; omega) h2)
      have e2 : (if fli (gl D) 47 fl ((D.length : Int) - 2) + 1 < fl then fl else fli (gl D) 47 fl ((D.length : Int) - 2) + 1) = fl := by rw [k]; split <;> omega
      rw [e2]
      simp only [List.length_nil] at tk
      rw [show fl + ((0 : Nat) : Int) = fl by omega] at tk
      exact tk
    · obtain ⟨l1, l2⟩ := cat_end L S0 c
      have k : fli (gl D) 47 fl ((D.length : Int) - 2) = fl + (cat L S0).length - 1 := fli_at (by omega) (by rw [hD, gl_app0 _ _ (by omega), gl_app1 _ _ (by omega), show fl + ((cat L S0).length : Int) - 1 - pre.length = (cat L S0).length - 1 by omega]; exact l2) _ _ rfl (by omega) (fun k h1 h2 => inX k (by omega) h2)
      rw [k, if_neg (by omega), show fl + ((cat L S0).length : Int) - 1 + 1 = fl + (cat L S0).length by omega]
      exact tk
/-- one segment ahead -/
theorem lc_seg {L : List Int} {s e : Int} (h0 : 0 ≤ s) (h1 : s ≤ e) (h2 : e ≤ L.length) (n47 : ∀ k, s ≤ k → k < e → gl L k ≠ 47) : lc 47 (L.drop s.toNat) = lc 47 (L.drop e.toNat) := by
  have key : ∀ (n : Nat) (s : Int), (e - s).toNat = n → 0 ≤ s → s ≤ e → (∀ k, s ≤ k → k < e → gl L k ≠ 47) → lc 47 (L.drop s.toNat) = lc 47 (L.drop e.toNat) := by
    intro n
    induction n with
    | zero => intro s hn h0 h1 h; rw [show s = e by omega]
    | succ n ih =>
      intro s hn h0 h1 h
      rw [drop_gl (L := L) h0 (by omega), lc, if_neg (h s (Int.le_refl s) (by omega)), ih (s + 1) (by omega) (by omega) (by omega) (fun k k1 k2 => h k (by omega) k2)]; omega
  exact key _ s rfl h0 h1 n47
theorem mdt_rd (L : List Int) (fl : Int) (hfl : 0 ≤ fl ∧ fl ≤ L.length) : ∀ (n m : Nat) (s o : Int) (S : List (Int × Int)), n = (lc 47 (L.drop s.toNat) + 1).toNat → ((L.length : Int) + 1 - s).toNat ≤ m → 0 ≤ s → s ≤ L.length → (∀ p, p ∈ S → ∀ i : Int, gl (sub L p.1 p.2) i ≠ 47) → rdt fl n (L.take fl.toNat ++ cat L S) (L.drop s.toNat) = L.take fl.toNat ++ sgT L (mdA L m s S o).2 (mdA L m s S o).1 := by
  have pl : (((L.take fl.toNat).length : Nat) : Int) = fl := by rw [List.length_take]; omega
  intro n
  induction n with
  | zero =>
    intro m s o S hn hm h0 h1 hS
    have := lc_r 47 (L.drop s.toNat); omega
  | succ n ih =>
    intro m s o S hn hm h0 h1 hS
    obtain ⟨m', hm'⟩ : ∃ m', m = m' + 1 := ⟨m - 1, by omega⟩
    subst hm'
    obtain ⟨e, he⟩ : ∃ e, e = cfn (gl L) 47 s L.length := ⟨_, rfl⟩
    have re := (cfn_r (gl L) 47 s L.length).1 h1
    have no := fun k => cfn_no2 (f := gl L) (b := 47) (a := s) (e := (L.length : Int)) (x := k) h1
    have hit : e < L.length → gl L e = 47 := fun h => by rw [he]; exact cfn_hit2 h1 (by rw [← he]; exact h)
    rw [← he] at re no
    have eo1 : eo (L.drop s.toNat) = e - s := by have := eo_drop (L := L) h0 h1; omega
    have gd : ∀ j : Int, 0 ≤ j → gl (L.drop s.toNat) j = gl L (j + s) := fun j hj => gl_dr h0 j hj
    have d2 : bI (dts (L.drop s.toNat) 2) = 1 ↔ (e - s = 2 ∧ gl L s = 46 ∧ gl L (s + 1) = 46) := by
      rw [show (bI (dts (L.drop s.toNat) 2) = 1 ↔ dts (L.drop s.toNat) 2) from ⟨fun w => bI_i.mp w, fun w => bI_1 w⟩]
      unfold dts
      rw [eo1, gd 0 (by decide), gd (2 - 1) (by decide), show (0 : Int) + s = s by omega, show (2 : Int) - 1 + s = s + 1 by omega]
    have d1 : bI (dts (L.drop s.toNat) 1) = 1 ↔ (e - s = 1 ∧ gl L s = 46) := by
      rw [show (bI (dts (L.drop s.toNat) 1) = 1 ↔ dts (L.drop s.toNat) 1) from ⟨fun w => bI_i.mp w, fun w => bI_1 w⟩]
      unfold dts
      rw [eo1, gd 0 (by decide), show (1 : Int) - 1 = 0 from rfl, gd 0 (by decide), show (0 : Int) + s = s by omega]
      exact ⟨fun w => ⟨w.1, w.2.1⟩, fun w => ⟨w.1, w.2, w.2⟩⟩
    have dr : (L.drop s.toNat).drop (eo (L.drop s.toNat) + 1).toNat = L.drop (e + 1).toNat := by rw [List.drop_drop, eo1]; congr 1; omega
    have tk : (L.drop s.toNat).take (eo (L.drop s.toNat) + 1).toNat = sub L s e ++ (if e < L.length then [47] else []) := by
      rw [eo1]
      by_cases c : e < L.length
      · have h := sub_add L (a := s) (b := e) (c := e + 1) h0 re.1 (by omega)
        rw [sub_one L (by omega) c, hit c] at h
        rw [if_pos c, h]; unfold sub; rw [show e + 1 - s = e - s + 1 by omega]
      · rw [if_neg c, List.append_nil]; unfold sub
        rw [List.take_of_length_le (by rw [List.length_drop]; omega), List.take_of_length_le (by rw [List.length_drop]; omega)]
    have seg : ∀ i : Int, gl (sub L s e) i ≠ 47 := fun i => by
      unfold sub
      rw [gl_take]
      split
      · rename_i w
        rw [gl_drop]
        split
        · decide
        · exact no _ (by omega) (by omega)
      · decide
    have lseg := lc_seg h0 re.1 re.2 (fun k k1 k2 => no k k1 k2)
    have mst : mdA L (m' + 1) s S o = mdA L m' (e + 1) (if e - s = 2 ∧ gl L s = 46 ∧ gl L (s + 1) = 46 then S.dropLast else if e - s = 1 ∧ gl L s = 46 then S else S ++ [(s, e)]) (if e - s = 2 ∧ gl L s = 46 ∧ gl L (s + 1) = 46 then 0 else if e - s = 1 ∧ gl L s = 46 then 0 else 1) := by
      rw [mdA, if_neg (by omega), ← he]
    have rst : rdt fl (n + 1) (L.take fl.toNat ++ cat L S) (L.drop s.toNat) = rdt fl n (if e - s = 2 ∧ gl L s = 46 ∧ gl L (s + 1) = 46 then L.take fl.toNat ++ cat L S.dropLast else if e - s = 1 ∧ gl L s = 46 then L.take fl.toNat ++ cat L S else (L.take fl.toNat ++ cat L S) ++ (sub L s e ++ (if e < L.length then [47] else []))) (L.drop (e + 1).toNat) := by
      rw [rdt, dr, tk]
      by_cases c2 : e - s = 2 ∧ gl L s = 46 ∧ gl L (s + 1) = 46
      · rw [if_pos (d2.mpr c2), if_pos c2, cat_drop L (L.take fl.toNat) S fl pl hS]
      · rw [if_neg (fun w => c2 (d2.mp w)), if_neg c2]
        by_cases c1 : e - s = 1 ∧ gl L s = 46
        · rw [if_pos (d1.mpr c1), if_pos c1]
        · rw [if_neg (fun w => c1 (d1.mp w)), if_neg c1]
    rw [rst, mst]
    by_cases c : e < L.length
    · have ln : lc 47 (L.drop e.toNat) = 1 + lc 47 (L.drop (e + 1).toNat) := by rw [drop_gl (L := L) (by omega) c, lc, if_pos (hit c)]
      have lr := lc_r 47 (L.drop (e + 1).toNat)
      have hn' : n = (lc 47 (L.drop (e + 1).toNat) + 1).toNat := by omega
      by_cases c2 : e - s = 2 ∧ gl L s = 46 ∧ gl L (s + 1) = 46
      · rw [if_pos c2, if_pos c2, if_pos c2]
        exact ih m' (e + 1) 0 S.dropLast hn' (by omega) (by omega) (by omega) (fun p hp => hS p (List.dropLast_subset S hp))
      · rw [if_neg c2, if_neg c2, if_neg c2]
        by_cases c1 : e - s = 1 ∧ gl L s = 46
        · rw [if_pos c1, if_pos c1, if_pos c1]
          exact ih m' (e + 1) 0 S hn' (by omega) (by omega) (by omega) hS
        · rw [if_neg c1, if_neg c1, if_neg c1, if_pos c, List.append_assoc, ← cat_app]
          exact ih m' (e + 1) 1 (S ++ [(s, e)]) hn' (by omega) (by omega) (by omega) (fun p hp => by
            rcases List.mem_append.mp hp with w | w
            · exact hS p w
            · rw [List.mem_singleton.mp w]; exact seg)
    · have ee : e = L.length := by omega
      have n0 : n = 0 := by
        have : L.drop e.toNat = [] := List.drop_of_length_le (by omega)
        rw [this] at lseg
        have z : lc 47 ([] : List Int) = 0 := rfl
        omega
      have mend : ∀ (S' : List (Int × Int)) (o' : Int), mdA L m' (e + 1) S' o' = (S', o') := fun S' o' => by
        cases m' with
        | zero => rfl
        | succ m' => rw [mdA, if_pos (by omega)]
      rw [n0, mend]
      show (if e - s = 2 ∧ gl L s = 46 ∧ gl L (s + 1) = 46 then L.take fl.toNat ++ cat L S.dropLast else if e - s = 1 ∧ gl L s = 46 then L.take fl.toNat ++ cat L S else (L.take fl.toNat ++ cat L S) ++ (sub L s e ++ (if e < L.length then [47] else []))) = _
      by_cases c2 : e - s = 2 ∧ gl L s = 46 ∧ gl L (s + 1) = 46
      · rw [if_pos c2, if_pos c2, if_pos c2, sgT_0]
      · rw [if_neg c2, if_neg c2, if_neg c2]
        by_cases c1 : e - s = 1 ∧ gl L s = 46
        · rw [if_pos c1, if_pos c1, if_pos c1, sgT_0]
        · rw [if_neg c1, if_neg c1, if_neg c1, if_neg c, List.append_nil, sgT_1, List.append_assoc]
theorem mdt_dots (L : List Int) : mdt L = rdots L := by
  have fl : 0 ≤ mab L ∧ mab L ≤ L.length := by
    unfold mab
    by_cases c : gl L 0 = 47
    · rw [if_pos c]
      by_cases d : 1 ≤ L.length
      · omega
      · rw [gl_out (Or.inr (by omega))] at c; cases c
    · rw [if_neg c]; omega
  have k := mdt_rd L (mab L) fl _ (L.length + 1) (mab L) 1 [] rfl (by omega) fl.1 fl.2 (fun p hp => absurd hp (List.not_mem_nil))
  have e0 : L.take (mab L).toNat = if mab L = 0 then [] else [47] := by
    unfold mab
    by_cases c : gl L 0 = 47
    · rw [if_pos c, if_neg (by decide)]
      have h := take_gl (L := L) (k := 0) (by decide) (by
        by_cases d : (0 : Int) < L.length
        · exact d
        · rw [gl_out (Or.inr (by omega))] at c; cases c)
      rw [c] at h; exact h
    · rw [if_neg c, if_pos rfl]; rfl
  unfold rdots
  show mdt L = rdt (mab L) (lc 47 (L.drop (mab L).toNat) + 1).toNat (L.take (mab L).toNat) (L.drop (mab L).toNat)
  rw [show cat L [] = [] from rfl, List.append_nil] at k
  rw [k]
  unfold mdt
  rw [e0]
