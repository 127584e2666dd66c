set_option maxRecDepth 16384
/-! an address of six written anew -/
theorem zro_cg {W W' : Nat → Int} (h : ∀ j, j < 8 → W j = W' j) : ∀ (n : Nat) (s : Int), (8 - s).toNat = n → 0 ≤ s → zro W s = zro W' s := by
  intro n
  induction n with
  | zero => intro s hn hs; rw [(zro_st W s).1 (by omega), (zro_st W' s).1 (by omega)]
  | succ n ih =>
    intro s hn hs
    have a := (zro_st W s).2 (by omega)
    have b := (zro_st W' s).2 (by omega)
    have g := h s.toNat (by omega)
    by_cases c : W s.toNat = 0
    · rw [a.1 c, b.1 (by rw [← g]; exact c), ih _ (by omega) (by omega)]
    · rw [a.2 c, b.2 (by rw [← g]; exact c)]
theorem lrA_cg {W W' : Nat → Int} (h : ∀ j, j < 8 → W j = W' j) : ∀ (n : Nat) (i b l : Int), 0 ≤ i → lrA W n i b l = lrA W' n i b l := by
  intro n
  induction n with
  | zero => intro i b l hi; rfl
  | succ n ih => intro i b l hi; rw [lrA, lrA, zro_cg h _ i rfl hi, ih _ _ _ (by omega), ih _ _ _ (by omega)]
theorem lrw_cg {W W' : Nat → Int} (h : ∀ j, j < 8 → W j = W' j) : lrw W = lrw W' := lrA_cg h 8 0 8 1 (by decide)
theorem rwb_cg {W W' : Nat → Int} (h : ∀ j, j < 8 → W j = W' j) (g b : Int) : ∀ (n : Nat) (i : Int), 0 ≤ i → i + n ≤ 8 → rwb W g b n i = rwb W' g b n i := by
  intro n
  induction n with
  | zero => intro i hi hn; rfl
  | succ n ih => intro i hi hn; rw [rwb, rwb, ih _ (by omega) (by omega), h i.toNat (by omega)]
theorem S12_48 {sh : zSh} {a r : Nat} (h : wAd sh a) (g b : Int) (W : Nat → Int) (hg : 0 ≤ g ∧ g ≤ 8) (hgb : g ≤ b) : ∀ (n : Nat) (V : wSt) (i : Int), (8 - i).toNat = n → 0 ≤ i → V (sr sh a 0) = W → wRo sh V r → ∃ V', wev zP 12 48 [some (wR a), some (wR r), some (wI g), some (wI b), some (wI i)] [] (sh, V) = rN (sh, V') ∧ RwU sh V V' r ((tx sh V r ++ (rwb W g b n i ++ [93])).take (cap sh r)) (V r 2) := by
  have na : (sk sh (sr sh a 0)).1 ≠ 13 ∧ (sk sh (sr sh a 0)).1 ≠ 1 := by rw [h]; decide
  intro n
  induction n with
  | zero =>
    intro V i hn hi hW q
    obtain ⟨V1, e1, u1⟩ := S59g q 93
    rw [wand_id (by decide)] at u1
    refine ⟨V1, ?_, u1⟩
    rw [w12_48, h.cap, if_pos (by omega), e1]; simp only [wcx_v, wput_n, w12_124]
  | succ n ih =>
    intro V i hn hi hW q
    have nxt : ∀ (V1 : wSt) (M : List Int), RwU sh V V1 r ((tx sh V r ++ M).take (cap sh r)) (V r 2) → M = (if i = g then [58, 58] else if i < g ∨ b ≤ i then (if 0 < i ∧ i ≠ b then [58] else []) ++ hxg (W i.toNat) else []) → ∃ V', wev zP 12 112 [some (wR a), some (wR r), some (wI g), some (wI b), some (wI i)] [] (sh, V1) = rN (sh, V') ∧ RwU sh V V' r ((tx sh V r ++ (rwb W g b (n + 1) i ++ [93])).take (cap sh r)) (V r 2) := by
      intro V1 M u1 hM
      obtain ⟨V2, e2, u2⟩ := ih V1 (i + 1) (by omega) (by omega) ((u1.no na).trans hW) u1.2.1
      refine ⟨V2, ?_, ?_⟩
      · rw [w12_112, wr_eq (by omega) (by omega), e2]
      · have k := u1.ad u2
        rw [rwb, List.append_assoc, ← hM]; exact k
    have grp : ∀ (V1 : wSt) (M : List Int), RwU sh V V1 r ((tx sh V r ++ M).take (cap sh r)) (V r 2) → i ≠ g → (i < g ∨ b ≤ i) → M = (if 0 < i ∧ i ≠ b then [58] else []) → ∃ V', wev zP 12 102 [some (wR a), some (wR r), some (wI g), some (wI b), some (wI i)] [] (sh, V1) = rN (sh, V') ∧ RwU sh V V' r ((tx sh V r ++ (rwb W g b (n + 1) i ++ [93])).take (cap sh r)) (V r 2) := by
      intro V1 M u1 h1 h2 hM
      obtain ⟨V2, e2, u2⟩ := S13 u1.2.1 (W i.toNat)
      obtain ⟨V3, e3, u3⟩ := nxt V2 _ (u1.ad u2) (by rw [if_neg h1, if_pos h2, hM])
      refine ⟨V3, ?_, u3⟩
      rw [w12_102, S3 h, if_pos (by omega), (u1.no na).trans hW]
      simp only [wcx_v, wput_s, w12_109, e2, wput_n]
      exact e3
    have col : i ≠ g → (i < g ∨ b ≤ i) → 0 < i → i ≠ b → ∃ V', wcx (wcl zP 59 [wR r, wI 58] (sh, V)) (fun v h' => wev zP 12 102 [some (wR a), some (wR r), some (wI g), some (wI b), some (wI i)] (wput v []) h') wth = rN (sh, V') ∧ RwU sh V V' r ((tx sh V r ++ (rwb W g b (n + 1) i ++ [93])).take (cap sh r)) (V r 2) := by
      intro h1 h2 h3 h4
      obtain ⟨V1, e1, u1⟩ := S59g q 58
      rw [wand_id (by decide)] at u1
      obtain ⟨V2, e2, u2⟩ := grp V1 _ u1 h1 h2 (by rw [if_pos ⟨h3, h4⟩])
      refine ⟨V2, ?_, u2⟩
      rw [e1]; simp only [wcx_v, wput_n]; exact e2
    clear ih
    rw [w12_48, h.cap, if_neg (by omega)]
    by_cases c1 : i = g
    · rw [if_pos c1]
      obtain ⟨V1, e1, u1⟩ := S60 q (zTb_of (k := 4) (by decide))
      rw [show zT 4 = [58, 58] by decide] at u1
      obtain ⟨V2, e2, u2⟩ := nxt V1 _ u1 (by rw [if_pos c1])
      refine ⟨V2, ?_, u2⟩
      rw [e1]; simp only [wcx_v, wput_n, w12_70]; exact e2
    · rw [if_neg c1]
      by_cases c2 : i < g
      · rw [if_pos c2]
        by_cases c3 : i ≤ 0
        · rw [if_pos c3]; exact grp V [] (RwU.nil q) c1 (Or.inl c2) (by rw [if_neg (by omega)])
        · rw [if_neg c3]
          by_cases c4 : i = b
          · rw [if_pos c4]; exact grp V [] (RwU.nil q) c1 (Or.inl c2) (by rw [if_neg (by omega)])
          · rw [if_neg c4]; exact col c1 (Or.inl c2) (by omega) c4
      · rw [if_neg c2]
        by_cases c5 : i < b
        · rw [if_pos c5]; exact nxt V [] (RwU.nil q) (by rw [if_neg c1, if_neg (by omega)])
        · rw [if_neg c5]
          by_cases c3 : i ≤ 0
          · rw [if_pos c3]; exact grp V [] (RwU.nil q) c1 (Or.inr (by omega)) (by rw [if_neg (by omega)])
          · rw [if_neg c3]
            by_cases c4 : i = b
            · rw [if_pos c4]; exact grp V [] (RwU.nil q) c1 (Or.inr (by omega)) (by rw [if_neg (by omega)])
            · rw [if_neg c4]; exact col c1 (Or.inr (by omega)) (by omega) c4
/-- a host as the normal form has it -/
noncomputable def rw6 (L : List Int) (W : Nat → Int) : List Int := 91 :: (rwb (G6 (gl L) 1 (L.length - 1) W) (lrw (G6 (gl L) 1 (L.length - 1) W)) (lrw (G6 (gl L) 1 (L.length - 1) W) + zro (G6 (gl L) 1 (L.length - 1) W) (lrw (G6 (gl L) 1 (L.length - 1) W))) 8 0 ++ [93])
noncomputable def qSix (x : List Int × Int) (W : Nat → Int) : List Int × Int := if gl x.1 0 = 91 ∧ bI (cSix (gl x.1) 1 (x.1.length - 1)) = 1 then ((rw6 x.1 W).take 400, 1) else x
theorem S12 {sh : zSh} {V : wSt} {a r : Nat} (h : wAd sh a) (q : wRo sh V r) (hc : cap sh r = 400) : ∃ V', wcl zP 12 [wR a, wR r] (sh, V) = rN (sh, V') ∧ (∀ b, b ≠ r → b ≠ sr sh r 0 → b ≠ sr sh a 0 → V' b = V b) ∧ wRo sh V' r ∧ (tx sh V' r, V' r 2) = qSix (tx sh V r, V r 2) (V (sr sh a 0)) := by
  have z := q.sz
  have tl := tx_sz q
  have na : (sk sh (sr sh a 0)).1 ≠ 13 ∧ (sk sh (sr sh a 0)).1 ≠ 1 := by rw [h]; decide
  unfold qSix
  dsimp only
  rw [w12_0, S57 q]
  simp only [wcx_v, wput_s, w12_5]
  by_cases d : gl (tx sh V r) 0 = 91
  · rw [if_pos d]
    obtain ⟨V1, e1, f1, v1⟩ := S8v h q 1 ((tx sh V r).length - 1) (by decide) (by omega)
    obtain ⟨q1, t1, y1⟩ := f1.row h.nr q
    rw [← tl, wr_eq (by omega) (by omega), e1]
    simp only [wcx_v, wput_s, w12_22]
    rcases bI_r (cSix (gl (tx sh V r)) 1 ((tx sh V r).length - 1)) with hb | hb
    · rw [hb, if_pos rfl, if_neg (fun w => by have := w.2; omega)]
      exact ⟨V1, rfl, fun b _ _ n3 => f1 b (fun w => n3 (List.mem_singleton.mp w)), q1, by rw [t1, y1]⟩
    · rw [hb, if_neg (by decide), if_pos ⟨d, rfl⟩, S14 h]
      obtain ⟨W, hW⟩ : ∃ W, W = V1 (sr sh a 0) := ⟨_, rfl⟩
      have vW := v1 hb
      rw [← hW] at vW ⊢
      have gr := lrA_r W 8 0 8 1 (by decide) (by decide)
      have zr := zro_r W _ (lrw W) rfl
      have gr' : 0 ≤ lrw W ∧ lrw W ≤ 8 := by unfold lrw; split at gr <;> omega
      simp only [wcx_v, wput_s, w12_30]
      rw [S15 h (lrw W) (by omega), ← hW]
      simp only [wcx_v, wput_s, w12_37]
      obtain ⟨V2, e2, u2⟩ := S65 q1 (zTb_of (k := 3) (by decide))
      rw [show zT 3 = [91] by decide, hc, show [(91 : Int)].take 400 = [91] by decide] at u2
      rw [wr_eq (by omega) (by omega), e2]
      obtain ⟨V3, e3, u3⟩ := S12_48 h (lrw W) (lrw W + zro W (lrw W)) W gr' (by omega) 8 V2 0 rfl (by decide) ((u2.no na).trans hW.symm) u2.2.1
      rw [u2.2.2.1, u2.2.2.2, hc] at u3
      refine ⟨V3, ?_, fun b n1 n2 n3 => ?_, u3.2.1, ?_⟩
      · simp only [wcx_v, wput_n, w12_45]; rw [e3]
      · have nb : b ∉ [r, sr sh r 0] := fun w => (List.mem_cons.mp w).elim n1 (fun w => n2 (List.mem_singleton.mp w))
        rw [u3.1 b nb, u2.1 b nb, f1 b (fun w => n3 (List.mem_singleton.mp w))]
      · rw [u3.2.2.1, u3.2.2.2]
        unfold rw6
        rw [← lrw_cg vW, ← zro_cg vW _ _ rfl gr'.1, ← rwb_cg vW _ _ 8 0 (by decide) (by decide)]
        rfl
  · rw [if_neg d, if_neg (fun w => d w.1)]
    exact ⟨V, rfl, fun _ _ _ _ => rfl, q, rfl⟩
