set_option maxRecDepth 16384
/-! the model: the segments that stay, written -/
def sgT (L : List Int) (o : Int) : List (Int × Int) → List Int
  | [] => []
  | (f, t) :: S => sub L f t ++ ((if S.length = 0 ∧ o ≠ 0 then [] else [47]) ++ sgT L o S)
theorem fr9 {sh : zSh} {m j : Nat} {V V' : wSt} (M : wMd sh m) (f : FrO [sr sh m 9, sr sh m 10] V V') (hj : j ∈ zARw) (n1 : j ≠ 9) (n2 : j ≠ 10) : V' (sr sh m j) = V (sr sh m j) := f _ (fun w => by
  simp only [List.mem_cons, List.not_mem_nil, or_false] at w
  rcases w with w | w
  · exact M.n hj (by decide) n1 w
  · exact M.n hj (by decide) n2 w)
theorem M162_229 {sh : zSh} {m : Nat} (M : wMd sh m) (L : List Int) (hl : L.length ≤ 1490) (x1 x2 x3 c o i t : Int) (ht : t ≤ L.length) : ∀ (n : Nat) (V : wSt) (Q : Nat → List Int × Int) (j : Int) (o8 : Option wV), (t - j).toNat = n → 0 ≤ j → j ≤ t → lK sh V m Q → ((Q 4).1.length : Int) ≤ j → (∀ k : Nat, (Q 4).1.length ≤ k → k < L.length → V (sr sh m 9) (6000 + k) = gl L k) → V (sr sh m 13) i.toNat = t → ∃ V', wev zP 162 229 [some (wR m), some (wI x1), some (wI x2), some (wI x3), some (wI c), some (wI o), some (wI i), some (wI j), o8] [] (sh, V) = (if i < wr (c - 1) then wev zP 162 277 [some (wR m), some (wI x1), some (wI x2), some (wI x3), some (wI c), some (wI o), some (wI i), some (wI t), o8] [] (sh, V') else if o = 0 then wev zP 162 277 [some (wR m), some (wI x1), some (wI x2), some (wI x3), some (wI c), some (wI o), some (wI i), some (wI t), o8] [] (sh, V') else wev zP 162 284 [some (wR m), some (wI x1), some (wI x2), some (wI x3), some (wI c), some (wI o), some (wI i), some (wI t), o8] [] (sh, V')) ∧ FrO [sr sh m 9, sr sh m 10] V V' ∧ lK sh V' m (pup Q 4 ((Q 4).1 ++ sub L j t, (Q 4).2)) ∧ (∀ k : Nat, ((Q 4).1 ++ sub L j t).length ≤ k → k < L.length → V' (sr sh m 9) (6000 + k) = gl L k) := by
  intro n
  induction n with
  | zero =>
    intro V Q j o8 hn hj hjt K hP hc h13
    have e : j = t := by omega
    subst e
    refine ⟨V, ?_, FrO.refl, K.cg (fun k hk => ?_), fun k h1 h2 => hc k (by rw [List.length_append] at h1; omega) h2⟩
    · rw [w162_229, h13, if_pos (by omega)]
    · unfold pup
      by_cases d : k = 4
      · rw [if_pos d, d]
        refine Prod.ext ?_ rfl
        show (Q 4).1 = (Q 4).1 ++ sub L j j
        unfold sub
        rw [show (j - j).toNat = 0 by omega, List.take_zero, List.append_nil]
      · rw [if_neg d]
  | succ n ih =>
    intro V Q j o8 hn hj hjt K hP hc h13
    have cj := hc j.toNat (by omega) (by omega)
    rw [show ((j.toNat : Nat) : Int) = j by omega] at cj
    obtain ⟨V1, e1, f1, l1, v1⟩ := M152p M K (gl L j) (by omega)
    have sc : sub L j t = gl L j :: sub L (j + 1) t := by
      unfold sub
      rw [drop_gl (L := L) hj (by omega), show (t - j).toNat = (t - (j + 1)).toNat + 1 by omega, List.take_succ_cons]
    have cj2 : ∀ k : Nat, ((pup Q 4 ((Q 4).1 ++ [gl L j], (Q 4).2)) 4).1.length ≤ k → k < L.length → V1 (sr sh m 9) (6000 + k) = gl L k := fun k h1 h2 => by
      rw [pup_at] at h1
      have h3 : ((Q 4).1 ++ [gl L j]).length ≤ k := h1
      rw [List.length_append, List.length_singleton] at h3
      rw [v1 _ (by omega)]; exact hc k (by omega) h2
    obtain ⟨V2, e2, f2, l2, v2⟩ := ih V1 _ (j + 1) o8 (by omega) (by omega) (by omega) l1 (by rw [pup_at]; show (((Q 4).1 ++ [gl L j]).length : Int) ≤ j + 1; rw [List.length_append, List.length_singleton]; omega) cj2 (by rw [fr9 M f1 (by decide) (by decide) (by decide)]; exact h13)
    rw [pup_pup, pup_at] at l2
    rw [pup_at] at v2
    refine ⟨V2, ?_, f1.trans f2, l2.cg (fun k hk => ?_), fun k h1 h2 => v2 k (by rw [sc] at h1; show (((Q 4).1 ++ [gl L j]) ++ sub L (j + 1) t).length ≤ k; rw [List.append_assoc, List.singleton_append]; exact h1) h2⟩
    · rw [w162_229, h13, if_neg (by omega), wr_eq (x := 6000 + j) (by omega) (by omega), show (6000 + j).toNat = 6000 + j.toNat by omega, cj, e1]
      simp only [wcx_v, wput_n, w162_257]
      rw [wr_eq (by omega) (by omega), e2]
    · unfold pup
      by_cases d : k = 4
      · rw [if_pos d, if_pos d]
        refine Prod.ext ?_ rfl
        show ((Q 4).1 ++ [gl L j]) ++ sub L (j + 1) t = (Q 4).1 ++ sub L j t
        rw [sc, List.append_assoc, List.singleton_append]
      · rw [if_neg d, if_neg d]
theorem M162_213 {sh : zSh} {m : Nat} (M : wMd sh m) (L : List Int) (hl : L.length ≤ 1490) (x1 x2 x3 c o s : Int) (hs : s ≤ L.length + 1) (hc2 : c ≤ 2000) : ∀ (T : List (Int × Int)) (V : wSt) (Q : Nat → List Int × Int) (i : Int) (o7 o8 : Option wV), 0 ≤ i → c = i + T.length → lK sh V m Q → okS s (Q 4).1.length T → (∀ k : Nat, k < T.length → V (sr sh m 12) (i.toNat + k) = (T.getD k (0, 0)).1 ∧ V (sr sh m 13) (i.toNat + k) = (T.getD k (0, 0)).2) → (∀ k : Nat, (Q 4).1.length ≤ k → k < L.length → V (sr sh m 9) (6000 + k) = gl L k) → ∃ V', wev zP 162 213 [some (wR m), some (wI x1), some (wI x2), some (wI x3), some (wI c), some (wI o), some (wI i), o7, o8] [] (sh, V) = rN (sh, V') ∧ FrO [sr sh m 9, sr sh m 10] V V' ∧ lK sh V' m (pup Q 4 ((Q 4).1 ++ sgT L o T, (Q 4).2)) := by
  intro T
  induction T with
  | nil =>
    intro V Q i o7 o8 hi hc K ok hT hcell
    refine ⟨V, ?_, FrO.refl, K.cg (fun k hk => ?_)⟩
    · rw [List.length_nil] at hc
      rw [w162_213, if_pos (by omega)]
    · unfold pup sgT
      by_cases d : k = 4
      · rw [if_pos d, d, List.append_nil]
      · rw [if_neg d]
  | cons p T ih =>
    intro V Q i o7 o8 hi hc K ok hT hcell
    obtain ⟨f, t⟩ := p
    rw [List.length_cons] at hc
    have k1 : ((Q 4).1.length : Int) ≤ f := ok.1
    have k2 : f ≤ t := ok.2.1
    have k3 : okS s (t + 1) T := ok.2.2
    have k4 := okS_last _ _ k3
    have h0 := hT 0 (by rw [List.length_cons]; omega)
    have h12 : V (sr sh m 12) i.toNat = f := h0.1
    have h13 : V (sr sh m 13) i.toNat = t := h0.2
    obtain ⟨V1, e1, f1, l1, v1⟩ := M162_229 M L hl x1 x2 x3 c o i t (by omega) _ V Q f o8 rfl (by omega) k2 K k1 hcell h13
    have p1 : (((Q 4).1 ++ sub L f t).length : Int) ≤ t := by
      have := sub_len L f t (by omega)
      rw [List.length_append]
      split at this <;> split at this <;> omega
    have a12 := fr9 M f1 (j := 12) (by decide) (by decide) (by decide)
    have a13 := fr9 M f1 (j := 13) (by decide) (by decide) (by decide)
    -- the rest, with the text so far told
    have rest : ∀ (V2 : wSt) (X : List Int), FrO [sr sh m 9, sr sh m 10] V V2 → lK sh V2 m (pup Q 4 (X, (Q 4).2)) → (X.length : Int) ≤ t + 1 → (∀ k : Nat, X.length ≤ k → k < L.length → V2 (sr sh m 9) (6000 + k) = gl L k) → X = (Q 4).1 ++ (sub L f t ++ (if T.length = 0 ∧ o ≠ 0 then [] else [47])) → ∃ V', wev zP 162 284 [some (wR m), some (wI x1), some (wI x2), some (wI x3), some (wI c), some (wI o), some (wI i), some (wI t), o8] [] (sh, V2) = rN (sh, V') ∧ FrO [sr sh m 9, sr sh m 10] V V' ∧ lK sh V' m (pup Q 4 ((Q 4).1 ++ sgT L o ((f, t) :: T), (Q 4).2)) := fun V2 X f2 l2 hX h2 hXe => by
      have b12 := fr9 M f2 (j := 12) (by decide) (by decide) (by decide)
      have b13 := fr9 M f2 (j := 13) (by decide) (by decide) (by decide)
      have okX : okS s ((pup Q 4 (X, (Q 4).2)) 4).1.length T := by
        rw [pup_at]
        cases T with
        | nil => exact Int.le_trans hX k3
        | cons q T => exact ⟨Int.le_trans hX k3.1, k3.2⟩
      have hT2 : ∀ k : Nat, k < T.length → V2 (sr sh m 12) ((i + 1).toNat + k) = (T.getD k (0, 0)).1 ∧ V2 (sr sh m 13) ((i + 1).toNat + k) = (T.getD k (0, 0)).2 := fun k hk => by
        have h := hT (k + 1) (by rw [List.length_cons]; omega)
        rw [b12, b13, show (i + 1).toNat + k = i.toNat + (k + 1) by omega]
        exact h
      have cells : ∀ k : Nat, ((pup Q 4 (X, (Q 4).2)) 4).1.length ≤ k → k < L.length → V2 (sr sh m 9) (6000 + k) = gl L k := fun k a b => by
        rw [pup_at] at a
        exact h2 k a b
      obtain ⟨V3, e3, f3, l3⟩ := ih V2 _ (i + 1) (some (wI t)) o8 (by omega) (by omega) l2 okX hT2 cells
      rw [pup_pup, pup_at] at l3
      refine ⟨V3, ?_, f2.trans f3, l3.cg (fun k _ => ?_)⟩
      · rw [w162_284, wr_eq (by omega) (by omega), e3]
      · rw [hXe]; show pup Q 4 ((Q 4).1 ++ (sub L f t ++ (if T.length = 0 ∧ o ≠ 0 then [] else [47])) ++ sgT L o T, (Q 4).2) k = pup Q 4 ((Q 4).1 ++ (sub L f t ++ ((if T.length = 0 ∧ o ≠ 0 then [] else [47]) ++ sgT L o T)), (Q 4).2) k
        rw [List.append_assoc, List.append_assoc]
    have bar : (if T.length = 0 ∧ o ≠ 0 then ([] : List Int) else [47]) = [47] → ∃ V', wev zP 162 277 [some (wR m), some (wI x1), some (wI x2), some (wI x3), some (wI c), some (wI o), some (wI i), some (wI t), o8] [] (sh, V1) = rN (sh, V') ∧ FrO [sr sh m 9, sr sh m 10] V V' ∧ lK sh V' m (pup Q 4 ((Q 4).1 ++ sgT L o ((f, t) :: T), (Q 4).2)) := fun hb => by
      have pl : ((pup Q 4 ((Q 4).1 ++ sub L f t, (Q 4).2)) 4).1 = (Q 4).1 ++ sub L f t := by rw [pup_at]
      obtain ⟨V2, e2, f2, l2, v2⟩ := M152p M l1 47 (by rw [pl]; omega)
      rw [pup_pup, pup_at] at l2
      rw [pl] at v2
      obtain ⟨V3, e3, f3, l3⟩ := rest V2 (((Q 4).1 ++ sub L f t) ++ [47]) (f1.trans f2) l2 (by rw [List.length_append, List.length_singleton]; omega) (fun k a b => by
        rw [List.length_append, List.length_singleton] at a
        rw [v2 _ (by omega)]; exact v1 k (by omega) b) (by rw [hb, List.append_assoc])
      exact ⟨V3, by rw [w162_277, e2]; simp only [wcx_v, wput_n]; exact e3, f3, l3⟩
    rw [w162_213, if_neg (by omega), h12, e1, wr_eq (by omega) (by omega)]
    by_cases d : i < c - 1
    · rw [if_pos d]; exact bar (if_neg (fun w => by have := w.1; omega))
    · rw [if_neg d]
      by_cases g : o = 0
      · rw [if_pos g]; exact bar (if_neg (fun w => w.2 g))
      · rw [if_neg g]
        exact rest V1 ((Q 4).1 ++ sub L f t) f1 l1 (by omega) v1 (by rw [if_pos ⟨by omega, g⟩, List.append_nil])
