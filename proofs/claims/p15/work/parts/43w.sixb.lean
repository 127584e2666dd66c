set_option maxRecDepth 16384
/-! addresses of six -/
/-- behind a group that was taken, or not -/
theorem S8_115 {sh : zSh} {V : wSt} {a r : Nat} (q : wRo sh V r) (i0 e c g i s fl y : Int) (o9 o10 : Option wV) (hs : -1 ≤ s ∧ s ≤ 200000) (he : -1 ≤ e ∧ e ≤ 200000) (hc : 0 ≤ c ∧ c ≤ 8) (hf : fl = 0 ∨ fl = 1) :
    (y = 0 → wev zP 8 115 [some (wR a), some (wR r), some (wI i0), some (wI e), some (wI c), some (wI g), some (wI i), some (wI s), some (wI fl), o9, o10] [wI y] (sh, V) = rI 0 (sh, V)) ∧
    (y ≠ 0 → bI (isG (gl (tx sh V r)) e s) = 1 → g ≠ -1 → wev zP 8 115 [some (wR a), some (wR r), some (wI i0), some (wI e), some (wI c), some (wI g), some (wI i), some (wI s), some (wI fl), o9, o10] [wI y] (sh, V) = rI 0 (sh, V)) ∧
    (y ≠ 0 → s = e - 1 → wev zP 8 115 [some (wR a), some (wR r), some (wI i0), some (wI e), some (wI c), some (wI g), some (wI i), some (wI s), some (wI fl), o9, o10] [wI y] (sh, V) = rI 0 (sh, V)) ∧
    (y ≠ 0 → s ≠ e - 1 → bI (isG (gl (tx sh V r)) e s) = 1 → g = -1 → wev zP 8 115 [some (wR a), some (wR r), some (wI i0), some (wI e), some (wI c), some (wI g), some (wI i), some (wI s), some (wI fl), o9, o10] [wI y] (sh, V) = wev zP 8 33 [some (wR a), some (wR r), some (wI i0), some (wI e), some (wI (c + (fl + 1))), some (wI (c + (fl + 1))), some (wI (s + 1 + 1)), some (wI s), some (wI fl), some (wI y), some (wI 0)] [] (sh, V)) ∧
    (y ≠ 0 → s ≠ e - 1 → bI (isG (gl (tx sh V r)) e s) = 0 → wev zP 8 115 [some (wR a), some (wR r), some (wI i0), some (wI e), some (wI c), some (wI g), some (wI i), some (wI s), some (wI fl), o9, o10] [wI y] (sh, V) = wev zP 8 33 [some (wR a), some (wR r), some (wI i0), some (wI e), some (wI (c + (fl + 1))), some (wI g), some (wI (s + 1)), some (wI s), some (wI fl), some (wI y), some (wI 0)] [] (sh, V)) := by
  have k9 := S9 q s e (by omega) (by omega)
  have m1 : wr (e - 1) = e - 1 := wr_eq (by omega) (by omega)
  have m2 : wr (s + 1) = s + 1 := wr_eq (by omega) (by omega)
  have m3 : wr (s + 1 + 1) = s + 1 + 1 := wr_eq (by omega) (by omega)
  have m4 : wr (c + 1) = c + 1 := wr_eq (by omega) (by omega)
  have m5 : wr (c + 2) = c + 2 := wr_eq (by omega) (by omega)
  have e0 : fl = 0 → c + (fl + 1) = c + 1 := fun h => by omega
  have e1 : ¬ fl = 0 → c + (fl + 1) = c + 2 := fun h => by omega
  clear hs he hc
  have w115 : wev zP 8 115 [some (wR a), some (wR r), some (wI i0), some (wI e), some (wI c), some (wI g), some (wI i), some (wI s), some (wI fl), o9, o10] [wI y] (sh, V) = if g = -1 then wev zP 8 137 [some (wR a), some (wR r), some (wI i0), some (wI e), some (wI c), some (wI g), some (wI i), some (wI s), some (wI fl), some (wI y), o10] [] (sh, V) else wev zP 8 130 [some (wR a), some (wR r), some (wI i0), some (wI e), some (wI c), some (wI g), some (wI i), some (wI s), some (wI fl), some (wI y), o10] [wI (bI (isG (gl (tx sh V r)) e s))] (sh, V) := by
    rw [w8_115, k9]; rfl
  have k172 : ∀ s1 c', (fl = 0 → s1 = 1) → (¬ fl = 0 → s1 = 2) → wr (c + s1) = c' → wev zP 8 172 [some (wR a), some (wR r), some (wI i0), some (wI e), some (wI c), some (wI g), some (wI i), some (wI s), some (wI fl), some (wI y), some (wI 0)] [wI s1, wI c] (sh, V) = if bI (isG (gl (tx sh V r)) e s) = 0 then wev zP 8 33 [some (wR a), some (wR r), some (wI i0), some (wI e), some (wI c'), some (wI g), some (wI (s + 1)), some (wI s), some (wI fl), some (wI y), some (wI 0)] [] (sh, V) else wev zP 8 33 [some (wR a), some (wR r), some (wI i0), some (wI e), some (wI c'), some (wI c'), some (wI (s + 1 + 1)), some (wI s), some (wI fl), some (wI y), some (wI 0)] [] (sh, V) := by
    intro s1 c' _ _ hc'
    simp only [w8_172, k9, wcx_v, wput_s, w8_188, w8_198, m2, m3, hc']
  have k138 : ∀ y2 : Int, y2 = 0 → wev zP 8 138 [some (wR a), some (wR r), some (wI i0), some (wI e), some (wI c), some (wI g), some (wI i), some (wI s), some (wI fl), some (wI y), o10] [wI y2] (sh, V) = if y = 0 then rI 0 (sh, V) else if s = e - 1 then rI 0 (sh, V) else if bI (isG (gl (tx sh V r)) e s) = 0 then wev zP 8 33 [some (wR a), some (wR r), some (wI i0), some (wI e), some (wI (c + (fl + 1))), some (wI g), some (wI (s + 1)), some (wI s), some (wI fl), some (wI y), some (wI 0)] [] (sh, V) else wev zP 8 33 [some (wR a), some (wR r), some (wI i0), some (wI e), some (wI (c + (fl + 1))), some (wI (c + (fl + 1))), some (wI (s + 1 + 1)), some (wI s), some (wI fl), some (wI y), some (wI 0)] [] (sh, V) := by
    intro y2 h2
    subst h2
    rw [w8_138, m1, if_pos rfl]
    simp only [w8_158]
    by_cases c0 : fl = 0
    · rw [if_pos c0, k172 1 _ (fun _ => rfl) (fun z => absurd c0 z) m4, e0 c0]
    · rw [if_neg c0, k172 2 _ (fun z => absurd z c0) (fun _ => rfl) m5, e1 c0]
  have b01 := bI_r (isG (gl (tx sh V r)) e s)
  refine ⟨fun hy => ?_, fun hy hb hg => ?_, fun hy hs => ?_, fun hy hs hb hg => ?_, fun hy hs hb => ?_⟩
  · rw [w115]
    split
    · rw [w8_137, k138 0 rfl, if_pos hy]
    · rw [w8_130]
      split
      · rw [w8_137, k138 0 rfl, if_pos hy]
      · rw [w8_138, if_pos hy, w8_158]
  · rw [w115, if_neg hg, w8_130, hb, if_neg (by decide), w8_138, if_neg hy, if_neg (by decide), w8_158]
  · rw [w115]
    split
    · rw [w8_137, k138 0 rfl, if_neg hy, if_pos hs]
    · rw [w8_130]
      split
      · rw [w8_137, k138 0 rfl, if_neg hy, if_pos hs]
      · rw [w8_138, if_neg hy, if_neg (by decide), w8_158]
  · rw [w115, if_pos hg, w8_137, k138 0 rfl, if_neg hy, if_neg hs, hb, if_neg (by decide)]
  · rw [w115]
    split
    · rw [w8_137, k138 0 rfl, if_neg hy, if_neg hs, if_pos hb]
    · rw [w8_130, if_pos hb, w8_137, k138 0 rfl, if_neg hy, if_neg hs, if_pos hb]
theorem S8_84 {sh : zSh} {V : wSt} {a r : Nat} (h : wAd sh a) (q : wRo sh V r) (i0 e c g i s fl : Int) (o8 o9 o10 : Option wV) (hi : -1 ≤ i ∧ i ≤ 200001) (hs : -1 ≤ s ∧ s ≤ 200000) (he : -1 ≤ e ∧ e ≤ 200000) (hc : 0 ≤ c ∧ c ≤ 8) (hf : fl = 0 ∨ fl = 1) :
    ∃ y V1, wev zP 8 84 [some (wR a), some (wR r), some (wI i0), some (wI e), some (wI c), some (wI g), some (wI i), some (wI s), o8, o9, o10] [wI fl] (sh, V) = wev zP 8 115 [some (wR a), some (wR r), some (wI i0), some (wI e), some (wI c), some (wI g), some (wI i), some (wI s), some (wI fl), o9, o10] [wI y] (sh, V1) ∧ FrO [sr sh a 0] V V1 ∧
      (fl = 0 → (y ≠ 0 ↔ (bI (pG (gl (tx sh V r)) i s) = 1 ∧ c ≤ 7))) ∧ (fl = 1 → (y ≠ 0 ↔ (bI (cF (gl (tx sh V r)) i e) = 1 ∧ c ≤ 6))) := by
  rw [w8_84]
  rcases hf with hf | hf
  · subst hf
    rw [if_pos rfl, S10 h q i s c hi hs]
    rcases bI_r (pG (gl (tx sh V r)) i s) with hb | hb
    · rw [hb, if_neg (by decide)]
      exact ⟨0, V, rfl, FrO.refl, fun _ => ⟨fun z => absurd rfl z, fun z => by omega⟩, fun z => by omega⟩
    · rw [hb, if_pos rfl]
      refine ⟨_, _, rfl, sG_fr sh V a _ _, fun _ => ?_, fun z => by omega⟩
      split <;> omega
  · subst hf
    rw [if_neg (by decide), S6 h q i e c hi he (by omega)]
    rcases bI_r (cF (gl (tx sh V r)) i e) with hb | hb
    · rw [hb, if_neg (by decide)]
      exact ⟨0, V, (by simp only [wcx_v, wput_s, w8_101]), FrO.refl, fun z => by omega, fun _ => ⟨fun z => absurd rfl z, fun z => by omega⟩⟩
    · rw [hb, if_pos rfl]
      refine ⟨if c ≤ 6 then 1 else 0, sG sh (sG sh V a c (wush (FB (gl (tx sh V r)) e 0 i 0) 16)) a (c + 1) (wand (FB (gl (tx sh V r)) e 0 i 0) 65535), (by simp only [wcx_v, wput_s, w8_101]), (sG_fr sh V a _ _).trans (sG_fr sh _ a _ _), fun z => by omega, fun _ => ?_⟩
      split <;> omega
theorem S8_201 {sh : zSh} {V : wSt} {a r : Nat} (h : wAd sh a) (i0 e c g i : Int) (f : Int → Int) (o7 o8 o9 o10 : Option wV) (hc : 0 ≤ c ∧ c ≤ 8) (hg : g = -1 ∨ (0 ≤ g ∧ g ≤ c)) (hx : e ≤ i ∨ 8 ≤ c) :
    ∃ V', wev zP 8 201 [some (wR a), some (wR r), some (wI i0), some (wI e), some (wI c), some (wI g), some (wI i), o7, o8, o9, o10] [] (sh, V) = rI (CS f e i c g) (sh, V') ∧ FrO [sr sh a 0] V V' := by
  rw [w8_201, h.cap]
  by_cases c1 : i < e
  · rw [if_pos c1, w8_241, w8_242, (CS_end f e i c g).2 c1 (by omega)]
    exact ⟨V, rfl, FrO.refl⟩
  · rw [if_neg c1]
    have ce := (CS_end f e i c g).1 (by omega)
    by_cases c2 : g = -1
    · rw [if_pos c2]
      by_cases c3 : c = 8
      · rw [if_pos c3, w8_237, w8_242, ce.2.2.1 c2 c3]; exact ⟨V, rfl, FrO.refl⟩
      · rw [if_neg c3, w8_241, w8_242, ce.2.2.2 c2 c3]; exact ⟨V, rfl, FrO.refl⟩
    · rw [if_neg c2]
      obtain ⟨V', e1, f1, -⟩ := S11 h c g V (by clear ce; omega) (by clear ce; omega)
      refine ⟨V', ?_, f1⟩
      rw [e1]
      simp only [wcx_v, wput_s, w8_234]
      by_cases c3 : c ≤ 7
      · rw [if_pos c3, if_neg (by decide), w8_237, w8_242, ce.1 c2 c3]
      · rw [if_neg c3, if_pos rfl, w8_241, w8_242, ce.2.1 c2 (by clear ce; omega)]
theorem S8_33 {sh : zSh} {a r : Nat} (h : wAd sh a) (i0 e : Int) (he : -1 ≤ e ∧ e ≤ 200000) : ∀ (n : Nat) (V : wSt) (c g i : Int) (o7 o8 o9 o10 : Option wV), wRo sh V r → (8 - c).toNat = n → 0 ≤ c ∧ c ≤ 8 → (g = -1 ∨ (0 ≤ g ∧ g ≤ c)) → 0 ≤ i ∧ i ≤ 200005 → ∃ V', wev zP 8 33 [some (wR a), some (wR r), some (wI i0), some (wI e), some (wI c), some (wI g), some (wI i), o7, o8, o9, o10] [] (sh, V) = rI (CS (gl (tx sh V r)) e i c g) (sh, V') ∧ FrO [sr sh a 0] V V' := by
  intro n
  induction n using Nat.strongRecOn with
  | _ n ih =>
    intro V c g i o7 o8 o9 o10 q hn hc hg hi
    rw [w8_33, h.cap]
    by_cases c1 : e ≤ i
    · rw [if_pos c1]; exact S8_201 h i0 e c g i _ o7 o8 o9 o10 hc hg (Or.inl c1)
    rw [if_neg c1]
    by_cases c2 : 8 ≤ c
    · rw [if_pos c2]; exact S8_201 h i0 e c g i _ o7 o8 o9 o10 hc hg (Or.inr c2)
    rw [if_neg c2, S68 q 58 i e (by omega) (by omega)]
    have cr := (cfn_r (gl (tx sh V r)) 58 i e).1 (by omega)
    have cr2 := (cfn_r (gl (tx sh V r)) 46 i e).1 (by omega)
    have a1 : -1 ≤ cfn (gl (tx sh V r)) 58 i e ∧ cfn (gl (tx sh V r)) 58 i e ≤ 200000 := by omega
    have a2 : 0 ≤ cfn (gl (tx sh V r)) 58 i e + 1 ∧ cfn (gl (tx sh V r)) 58 i e + 1 ≤ 200005 := by omega
    have a3 : 0 ≤ cfn (gl (tx sh V r)) 58 i e + 1 + 1 ∧ cfn (gl (tx sh V r)) 58 i e + 1 + 1 ≤ 200005 := by omega
    have a4 : c < c + (0 + 1) ∧ c + (0 + 1) ≤ 8 := by omega
    have a5 : c < c + (1 + 1) := by omega
    have a6 : c + (0 + 1) = -1 ∨ (0 ≤ c + (0 + 1) ∧ c + (0 + 1) ≤ c + (0 + 1)) := by omega
    have a7 : g = -1 ∨ (0 ≤ g ∧ g ≤ c + (0 + 1)) := by omega
    have a8 : g = -1 ∨ (0 ≤ g ∧ g ≤ c + (1 + 1)) := by omega
    have a9 : c ≤ 7 := by omega
    have b1 : c ≤ 6 → c + (1 + 1) ≤ 8 := fun z => by omega
    have b2 : ∀ y : Int, ¬ y ≠ 0 → y = 0 := fun y z => by omega
    have b3 : ∀ c' : Int, c < c' → c' ≤ 8 → (8 - c').toNat < n := fun c' z1 z2 => by omega
    have b4 : ∀ c' : Int, c < c' → c' ≤ 8 → 0 ≤ c' ∧ c' ≤ 8 := fun c' z1 z2 => by omega
    have b5 : -1 ≤ i ∧ i ≤ 200001 := by omega
    have b6 : cfn (gl (tx sh V r)) 58 i e = e → cfn (gl (tx sh V r)) 58 i e ≠ e - 1 := fun z => by omega
    have b7 : cfn (gl (tx sh V r)) 58 i e = e → ¬ cfn (gl (tx sh V r)) 58 i e + 2 ≤ e := fun z => by omega
    have b8 : ¬ c ≤ 6 → 6 < c := fun z => by omega
    have st := CS_st (f := gl (tx sh V r)) (g := g) (show i < e by omega) hc.1 (show c < 8 by omega)
    simp only [wcx_v, wput_s, w8_58]
    -- the flag
    have flag : ∃ (fl : Int) (o8' : Option wV), (fl = 0 ∨ fl = 1) ∧ (fl = 1 → cfn (gl (tx sh V r)) 58 i e = e ∧ cfn (gl (tx sh V r)) 46 i e < e) ∧ (fl = 0 → cfn (gl (tx sh V r)) 58 i e < e ∨ e ≤ cfn (gl (tx sh V r)) 46 i e) ∧ (if cfn (gl (tx sh V r)) 58 i e = e then wcx (wcl zP 68 [wR r, wI 46, wI i, wI e] (sh, V)) (fun v h' => wev zP 8 75 [some (wR a), some (wR r), some (wI i0), some (wI e), some (wI c), some (wI g), some (wI i), some (wI (cfn (gl (tx sh V r)) 58 i e)), o8, o9, o10] (wput v []) h') wth else wev zP 8 83 [some (wR a), some (wR r), some (wI i0), some (wI e), some (wI c), some (wI g), some (wI i), some (wI (cfn (gl (tx sh V r)) 58 i e)), o8, o9, o10] [] (sh, V)) = wev zP 8 84 [some (wR a), some (wR r), some (wI i0), some (wI e), some (wI c), some (wI g), some (wI i), some (wI (cfn (gl (tx sh V r)) 58 i e)), o8', o9, o10] [wI fl] (sh, V) := by
      clear st ih b1 b2 b3 b4 b6 b7 b8 a6 a7 a8
      by_cases c3 : cfn (gl (tx sh V r)) 58 i e = e
      · rw [if_pos c3, S68 q 46 i e (by omega) (by omega)]
        simp only [wcx_v, wput_s, w8_75]
        by_cases c4 : e ≤ cfn (gl (tx sh V r)) 46 i e
        · rw [if_pos c4, w8_83]; exact ⟨0, o8, Or.inl rfl, fun z => by omega, fun _ => Or.inr c4, rfl⟩
        · rw [if_neg c4]; exact ⟨1, o8, Or.inr rfl, fun _ => ⟨c3, by omega⟩, fun z => by omega, rfl⟩
      · rw [if_neg c3, w8_83]; exact ⟨0, o8, Or.inl rfl, fun z => by omega, fun _ => Or.inl (by omega), rfl⟩
    obtain ⟨fl, o8', hf, hf1, hf0, hfe⟩ := flag
    rw [hfe]
    obtain ⟨y, V1, e1, f1, y0, y1⟩ := S8_84 h q i0 e c g i (cfn (gl (tx sh V r)) 58 i e) fl o8' o9 o10 b5 a1 he hc hf
    obtain ⟨q1, t1, -⟩ := f1.row h.nr q
    rw [e1]
    have k := S8_115 (a := a) q1 i0 e c g i (cfn (gl (tx sh V r)) 58 i e) fl y o9 o10 a1 he hc hf
    rw [t1] at k
    have go : ∀ (c' g' i' : Int) (p7 p8 p9 p10 : Option wV), c < c' → c' ≤ 8 → (g' = -1 ∨ (0 ≤ g' ∧ g' ≤ c')) → 0 ≤ i' ∧ i' ≤ 200005 → CS (gl (tx sh V r)) e i c g = CS (gl (tx sh V r)) e i' c' g' → ∃ V', wev zP 8 33 [some (wR a), some (wR r), some (wI i0), some (wI e), some (wI c'), some (wI g'), some (wI i'), p7, p8, p9, p10] [] (sh, V1) = rI (CS (gl (tx sh V r)) e i c g) (sh, V') ∧ FrO [sr sh a 0] V V' := by
      intro c' g' i' p7 p8 p9 p10 h1 h2 h3 h4 h5
      obtain ⟨V', e2, f2⟩ := ih (8 - c').toNat (b3 c' h1 h2) V1 c' g' i' p7 p8 p9 p10 q1 rfl (b4 c' h1 h2) h3 h4
      rw [t1] at e2
      exact ⟨V', by rw [e2, h5], f1.trans f2⟩
    clear ih
    rcases hf with hf | hf
    · subst hf
      have st := st.2 (hf0 rfl)
      have y0 := y0 rfl
      by_cases hy : y ≠ 0
      · have hp := (y0.mp hy).1
        have st := st.2 hp
        by_cases d1 : cfn (gl (tx sh V r)) 58 i e = e - 1
        · rw [k.2.2.1 hy d1, st.1 d1]; exact ⟨V1, rfl, f1⟩
        · have st := st.2 d1
          rcases bI_r (isG (gl (tx sh V r)) e (cfn (gl (tx sh V r)) 58 i e)) with hb | hb
          · rw [k.2.2.2.2 hy d1 hb]
            exact go _ _ _ _ _ _ _ a4.1 a4.2 a7 a2 (st.2.2 hb)
          · by_cases d2 : g = -1
            · rw [k.2.2.2.1 hy d1 hb d2]
              exact go _ _ _ _ _ _ _ a4.1 a4.2 a6 a3 (st.2.1 hb d2)
            · rw [k.2.1 hy hb d2, st.1 hb d2]; exact ⟨V1, rfl, f1⟩
      · have hy0 : y = 0 := b2 y hy
        have hp : bI (pG (gl (tx sh V r)) i (cfn (gl (tx sh V r)) 58 i e)) = 0 := by
          rcases bI_r (pG (gl (tx sh V r)) i (cfn (gl (tx sh V r)) 58 i e)) with hb | hb
          · exact hb
          · exact absurd (y0.mpr ⟨hb, a9⟩) hy
        rw [k.1 hy0, st.1 hp]; exact ⟨V1, rfl, f1⟩
    · subst hf
      have se := hf1 rfl
      have st := st.1 se
      have y1 := y1 rfl
      have ng : bI (isG (gl (tx sh V r)) e (cfn (gl (tx sh V r)) 58 i e)) = 0 := bI_0 (fun z => b7 se.1 z.1)
      by_cases hy : y ≠ 0
      · rw [k.2.2.2.2 hy (b6 se.1) ng]
        exact go _ _ _ _ _ _ _ a5 (b1 (y1.mp hy).2) a8 a2 (st.1 (y1.mp hy))
      · have hy0 : y = 0 := b2 y hy
        have hp : bI (cF (gl (tx sh V r)) i e) = 0 ∨ 6 < c := by
          rcases bI_r (cF (gl (tx sh V r)) i e) with hb | hb
          · exact Or.inl hb
          · by_cases w : c ≤ 6
            · exact absurd (y1.mpr ⟨hb, w⟩) hy
            · exact Or.inr (b8 w)
        rw [k.1 hy0, st.2 hp]; exact ⟨V1, rfl, f1⟩
theorem S8 {sh : zSh} {V : wSt} {a r : Nat} (h : wAd sh a) (q : wRo sh V r) (i e : Int) (hi : 0 ≤ i ∧ i ≤ 200000) (he : -1 ≤ e ∧ e ≤ 200000) : ∃ V', wcl zP 8 [wR a, wR r, wI i, wI e] (sh, V) = rI (bI (cSix (gl (tx sh V r)) i e)) (sh, V') ∧ FrO [sr sh a 0] V V' := by
  have cs := CS_six (gl (tx sh V r)) i e
  rw [w8_0, S9 q i e (by omega) (by omega)]
  simp only [wcx_v, wput_s, w8_9]
  rcases bI_r (isG (gl (tx sh V r)) e i) with hb | hb
  · rw [hb, if_pos rfl, w8_17, if_neg (by decide), w8_31]
    obtain ⟨V', e1, f1⟩ := S8_33 h i e he _ V 0 (-1) i none none none none q rfl (by omega) (Or.inl rfl) (by omega)
    exact ⟨V', by rw [e1, cs.2 hb], f1⟩
  · rw [hb, if_neg (by decide), w8_17, if_pos rfl, w8_31, wr_eq (by omega) (by omega)]
    obtain ⟨V', e1, f1⟩ := S8_33 h i e he _ V 0 0 (i + 2) none none none none q rfl (by omega) (Or.inr (by omega)) (by omega)
    exact ⟨V', by rw [e1, cs.1 hb], f1⟩
