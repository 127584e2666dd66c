set_option maxRecDepth 16384
/-! the groups of an address of six -/
def gset (W : Nat → Int) (k x : Int) : Nat → Int := fun j => if 0 ≤ k ∧ k < 8 ∧ (j : Int) = k then x else W j
theorem sG_v (sh : zSh) (V : wSt) (a : Nat) (k x : Int) : sG sh V a k x (sr sh a 0) = gset (V (sr sh a 0)) k x := by
  funext j; unfold sG gset
  by_cases c : 0 ≤ k ∧ k < 8
  · rw [if_pos c]; unfold uI
    by_cases d : (j : Int) = k
    · rw [if_pos ⟨rfl, by omega⟩, if_pos ⟨c.1, c.2, d⟩]
    · rw [if_neg (fun w => d (by have := w.2; omega)), if_neg (fun w => d w.2.2)]
  · rw [if_neg c, if_neg (fun w => c ⟨w.1, w.2.1⟩)]
def sprd (W : Nat → Int) (c g : Int) : Nat → Int := fun j => if g ≤ j ∧ (j : Int) < g + (8 - c) then 0 else if g + (8 - c) ≤ j ∧ (j : Int) ≤ 7 then W (j - (8 - c).toNat) else W j
def gEnd (W : Nat → Int) (c g : Int) : Nat → Int := if g = -1 then W else sprd W c g
noncomputable def GVA (f : Int → Int) (e : Int) : Nat → (Nat → Int) → Int → Int → Int → Nat → Int
  | 0, W, c, g, _ => gEnd W c g
  | n + 1, W, c, g, i => if e ≤ i ∨ 8 ≤ c then gEnd W c g
    else if cfn f 58 i e = e ∧ cfn f 46 i e < e then GVA f e n (gset (gset W c (wush (FB f e 0 i 0) 16)) (c + 1) (wand (FB f e 0 i 0) 65535)) (c + (1 + 1)) g (cfn f 58 i e + 1)
    else if bI (isG f e (cfn f 58 i e)) = 1 then GVA f e n (gset W c (hNm f i (cfn f 58 i e) 0)) (c + (0 + 1)) (c + (0 + 1)) (cfn f 58 i e + 1 + 1)
    else GVA f e n (gset W c (hNm f i (cfn f 58 i e) 0)) (c + (0 + 1)) g (cfn f 58 i e + 1)
noncomputable def GV (f : Int → Int) (e : Int) (W : Nat → Int) (c g i : Int) : Nat → Int := GVA f e (8 - c).toNat W c g i
theorem GVA_n (f : Int → Int) (e : Int) : ∀ (n m : Nat) (W : Nat → Int) (c g i : Int), (8 - c).toNat ≤ n → (8 - c).toNat ≤ m → GVA f e n W c g i = GVA f e m W c g i := by
  intro n
  induction n with
  | zero =>
    intro m W c g i h1 h2
    cases m with
    | zero => rfl
    | succ m => rw [GVA, GVA, if_pos (by omega)]
  | succ n ih =>
    intro m W c g i h1 h2
    cases m with
    | zero => rw [GVA, GVA, if_pos (by omega)]
    | succ m =>
      rw [GVA, GVA, ih m _ (c + (1 + 1)) g _ (by omega) (by omega), ih m _ (c + (0 + 1)) (c + (0 + 1)) _ (by omega) (by omega), ih m _ (c + (0 + 1)) g _ (by omega) (by omega)]
theorem GV_st (f : Int → Int) (e : Int) (W : Nat → Int) (c g i : Int) : ((e ≤ i ∨ 8 ≤ c) → GV f e W c g i = gEnd W c g) ∧ (¬ e ≤ i → ¬ 8 ≤ c →
    (cfn f 58 i e = e ∧ cfn f 46 i e < e → GV f e W c g i = GV f e (gset (gset W c (wush (FB f e 0 i 0) 16)) (c + 1) (wand (FB f e 0 i 0) 65535)) (c + (1 + 1)) g (cfn f 58 i e + 1)) ∧
    (¬ (cfn f 58 i e = e ∧ cfn f 46 i e < e) → bI (isG f e (cfn f 58 i e)) = 1 → GV f e W c g i = GV f e (gset W c (hNm f i (cfn f 58 i e) 0)) (c + (0 + 1)) (c + (0 + 1)) (cfn f 58 i e + 1 + 1)) ∧
    (¬ (cfn f 58 i e = e ∧ cfn f 46 i e < e) → bI (isG f e (cfn f 58 i e)) = 0 → GV f e W c g i = GV f e (gset W c (hNm f i (cfn f 58 i e) 0)) (c + (0 + 1)) g (cfn f 58 i e + 1))) := by
  unfold GV
  refine ⟨fun h => ?_, fun h1 h2 => ?_⟩
  · cases hn : (8 - c).toNat with
    | zero => rfl
    | succ n => rw [GVA, if_pos h]
  · obtain ⟨n, hn⟩ : ∃ n, (8 - c).toNat = n + 1 := ⟨(8 - c).toNat - 1, by omega⟩
    rw [hn, GVA, if_neg (by omega)]
    refine ⟨fun h => ?_, fun h g1 => ?_, fun h g1 => ?_⟩
    · rw [if_pos h]; exact GVA_n f e n _ _ _ _ _ (by omega) (by omega)
    · rw [if_neg h, if_pos g1]; exact GVA_n f e n _ _ _ _ _ (by omega) (by omega)
    · rw [if_neg h, if_neg (by omega)]; exact GVA_n f e n _ _ _ _ _ (by omega) (by omega)
theorem S8v_84 {sh : zSh} {V : wSt} {a r : Nat} (h : wAd sh a) (q : wRo sh V r) (i0 e c g i s fl : Int) (o8 o9 o10 : Option wV) (hi : -1 ≤ i ∧ i ≤ 200001) (hs : -1 ≤ s ∧ s ≤ 200000) (he : -1 ≤ e ∧ e ≤ 200000) (hc : 0 ≤ c ∧ c ≤ 8) (hf : fl = 0 ∨ fl = 1) :
    ∃ y V1, wev zP 8 84 [some (wR a), some (wR r), some (wI i0), some (wI e), some (wI c), some (wI g), some (wI i), some (wI s), o8, o9, o10] [wI fl] (sh, V) = wev zP 8 115 [some (wR a), some (wR r), some (wI i0), some (wI e), some (wI c), some (wI g), some (wI i), some (wI s), some (wI fl), o9, o10] [wI y] (sh, V1) ∧ FrO [sr sh a 0] V V1 ∧
      (fl = 0 → (y ≠ 0 ↔ (bI (pG (gl (tx sh V r)) i s) = 1 ∧ c ≤ 7))) ∧ (fl = 1 → (y ≠ 0 ↔ (bI (cF (gl (tx sh V r)) i e) = 1 ∧ c ≤ 6))) ∧ (y ≠ 0 → V1 = if fl = 0 then sG sh V a c (hNm (gl (tx sh V r)) i s 0) else sG sh (sG sh V a c (wush (FB (gl (tx sh V r)) e 0 i 0) 16)) a (c + 1) (wand (FB (gl (tx sh V r)) e 0 i 0) 65535)) := by
  rw [w8_84]
  rcases hf with hf | hf
  · subst hf
    rw [if_pos rfl, S10 h q i s c hi hs]
    rcases bI_r (pG (gl (tx sh V r)) i s) with hb | hb
    · rw [hb, if_neg (by decide)]
      exact ⟨0, V, rfl, FrO.refl, fun _ => ⟨fun z => absurd rfl z, fun z => by omega⟩, fun z => by omega, fun z => absurd rfl z⟩
    · rw [hb, if_pos rfl]
      refine ⟨_, _, rfl, sG_fr sh V a _ _, fun _ => ?_, fun z => by omega, fun _ => by rw [if_pos rfl]⟩
      split <;> omega
  · subst hf
    rw [if_neg (by decide), S6 h q i e c hi he (by omega)]
    rcases bI_r (cF (gl (tx sh V r)) i e) with hb | hb
    · rw [hb, if_neg (by decide)]
      exact ⟨0, V, (by simp only [wcx_v, wput_s, w8_101]), FrO.refl, fun z => by omega, fun _ => ⟨fun z => absurd rfl z, fun z => by omega⟩, fun z => absurd rfl z⟩
    · rw [hb, if_pos rfl]
      refine ⟨if c ≤ 6 then 1 else 0, sG sh (sG sh V a c (wush (FB (gl (tx sh V r)) e 0 i 0) 16)) a (c + 1) (wand (FB (gl (tx sh V r)) e 0 i 0) 65535), (by simp only [wcx_v, wput_s, w8_101]), (sG_fr sh V a _ _).trans (sG_fr sh _ a _ _), fun z => by omega, fun _ => ?_, fun _ => by rw [if_neg (by decide)]⟩
      split <;> omega
theorem S8v_201 {sh : zSh} {V : wSt} {a r : Nat} (h : wAd sh a) (i0 e c g i : Int) (f : Int → Int) (o7 o8 o9 o10 : Option wV) (hc : 0 ≤ c ∧ c ≤ 8) (hg : g = -1 ∨ (0 ≤ g ∧ g ≤ c)) (hx : e ≤ i ∨ 8 ≤ c) :
    ∃ V', wev zP 8 201 [some (wR a), some (wR r), some (wI i0), some (wI e), some (wI c), some (wI g), some (wI i), o7, o8, o9, o10] [] (sh, V) = rI (CS f e i c g) (sh, V') ∧ FrO [sr sh a 0] V V' ∧ (CS f e i c g = 1 → ∀ j : Nat, j < 8 → V' (sr sh a 0) j = gEnd (V (sr sh a 0)) c g j) := by
  rw [w8_201, h.cap]
  by_cases c1 : i < e
  · rw [if_pos c1, w8_241, w8_242, (CS_end f e i c g).2 c1 (by omega)]
    exact ⟨V, rfl, FrO.refl, fun z => absurd z (by decide)⟩
  · rw [if_neg c1]
    have ce := (CS_end f e i c g).1 (by omega)
    by_cases c2 : g = -1
    · rw [if_pos c2]
      by_cases c3 : c = 8
      · rw [if_pos c3, w8_237, w8_242, ce.2.2.1 c2 c3]; exact ⟨V, rfl, FrO.refl, fun _ j _ => by unfold gEnd; rw [if_pos c2]⟩
      · rw [if_neg c3, w8_241, w8_242, ce.2.2.2 c2 c3]; exact ⟨V, rfl, FrO.refl, fun z => absurd z (by decide)⟩
    · rw [if_neg c2]
      obtain ⟨V', e1, f1, v1⟩ := S11 h c g V (by clear ce; omega) (by clear ce; omega)
      refine ⟨V', ?_, f1, fun z j hj => ?_⟩
      rotate_left
      · have c3 : c ≤ 7 := Decidable.byContradiction (fun c3 => by rw [ce.2.1 c2 (by clear ce; omega)] at z; cases z)
        rw [v1 c3]; unfold gEnd; rw [if_neg c2]; rfl
      rw [e1]
      simp only [wcx_v, wput_s, w8_234]
      by_cases c3 : c ≤ 7
      · rw [if_pos c3, if_neg (by decide), w8_237, w8_242, ce.1 c2 c3]
      · rw [if_neg c3, if_pos rfl, w8_241, w8_242, ce.2.1 c2 (by clear ce; omega)]
theorem S8v_33 {sh : zSh} {a r : Nat} (h : wAd sh a) (i0 e : Int) (he : -1 ≤ e ∧ e ≤ 200000) : ∀ (n : Nat) (V : wSt) (c g i : Int) (o7 o8 o9 o10 : Option wV), wRo sh V r → (8 - c).toNat = n → 0 ≤ c ∧ c ≤ 8 → (g = -1 ∨ (0 ≤ g ∧ g ≤ c)) → 0 ≤ i ∧ i ≤ 200005 → ∃ V', wev zP 8 33 [some (wR a), some (wR r), some (wI i0), some (wI e), some (wI c), some (wI g), some (wI i), o7, o8, o9, o10] [] (sh, V) = rI (CS (gl (tx sh V r)) e i c g) (sh, V') ∧ FrO [sr sh a 0] V V' ∧ (CS (gl (tx sh V r)) e i c g = 1 → ∀ j : Nat, j < 8 → V' (sr sh a 0) j = GV (gl (tx sh V r)) e (V (sr sh a 0)) c g i j) := by
  intro n
  induction n using Nat.strongRecOn with
  | _ n ih =>
    intro V c g i o7 o8 o9 o10 q hn hc hg hi
    rw [w8_33, h.cap]
    by_cases c1 : e ≤ i
    · rw [if_pos c1]
      obtain ⟨V', e1, f1, v1⟩ := S8v_201 h i0 e c g i (gl (tx sh V r)) o7 o8 o9 o10 hc hg (Or.inl c1)
      exact ⟨V', e1, f1, fun z j hj => by rw [v1 z j hj, (GV_st _ e _ c g i).1 (Or.inl c1)]⟩
    rw [if_neg c1]
    by_cases c2 : 8 ≤ c
    · rw [if_pos c2]
      obtain ⟨V', e1, f1, v1⟩ := S8v_201 h i0 e c g i (gl (tx sh V r)) o7 o8 o9 o10 hc hg (Or.inr c2)
      exact ⟨V', e1, f1, fun z j hj => by rw [v1 z j hj, (GV_st _ e _ c g i).1 (Or.inr c2)]⟩
    rw [if_neg c2, S68 q 58 i e (by omega) (by omega)]
    have cr := (cfn_r (gl (tx sh V r)) 58 i e).1 (by omega)
    have cr2 := (cfn_r (gl (tx sh V r)) 46 i e).1 (by omega)
    have a1 : -1 ≤ cfn (gl (tx sh V r)) 58 i e ∧ cfn (gl (tx sh V r)) 58 i e ≤ 200000 := by omega
    have a2 : 0 ≤ cfn (gl (tx sh V r)) 58 i e + 1 ∧ cfn (gl (tx sh V r)) 58 i e + 1 ≤ 200005 := by omega
    have a3 : 0 ≤ cfn (gl (tx sh V r)) 58 i e + 1 + 1 ∧ cfn (gl (tx sh V r)) 58 i e + 1 + 1 ≤ 200005 := by omega
    have a4 : c < c + (0 + 1) ∧ c + (0 + 1) ≤ 8 := by omega
    have a5 : c < c + (1 + 1) := by omega
    have a6 : c + (0 + 1) = -1 ∨ (0 ≤ c + (0 + 1) ∧ c + (0 + 1) ≤ c + (0 + 1)) := by omega
    have a7 : g = -1 ∨ (0 ≤ g ∧ g ≤ c + (0 + 1)) := by omega
    have a8 : g = -1 ∨ (0 ≤ g ∧ g ≤ c + (1 + 1)) := by omega
    have a9 : c ≤ 7 := by omega
    have b1 : c ≤ 6 → c + (1 + 1) ≤ 8 := fun z => by omega
    have b2 : ∀ y : Int, ¬ y ≠ 0 → y = 0 := fun y z => by omega
    have b3 : ∀ c' : Int, c < c' → c' ≤ 8 → (8 - c').toNat < n := fun c' z1 z2 => by omega
    have b4 : ∀ c' : Int, c < c' → c' ≤ 8 → 0 ≤ c' ∧ c' ≤ 8 := fun c' z1 z2 => by omega
    have b5 : -1 ≤ i ∧ i ≤ 200001 := by omega
    have b6 : cfn (gl (tx sh V r)) 58 i e = e → cfn (gl (tx sh V r)) 58 i e ≠ e - 1 := fun z => by omega
    have b7 : cfn (gl (tx sh V r)) 58 i e = e → ¬ cfn (gl (tx sh V r)) 58 i e + 2 ≤ e := fun z => by omega
    have b8 : ¬ c ≤ 6 → 6 < c := fun z => by omega
    have st := CS_st (f := gl (tx sh V r)) (g := g) (show i < e by omega) hc.1 (show c < 8 by omega)
    simp only [wcx_v, wput_s, w8_58]
    -- the flag
    have flag : ∃ (fl : Int) (o8' : Option wV), (fl = 0 ∨ fl = 1) ∧ (fl = 1 → cfn (gl (tx sh V r)) 58 i e = e ∧ cfn (gl (tx sh V r)) 46 i e < e) ∧ (fl = 0 → cfn (gl (tx sh V r)) 58 i e < e ∨ e ≤ cfn (gl (tx sh V r)) 46 i e) ∧ (if cfn (gl (tx sh V r)) 58 i e = e then wcx (wcl zP 68 [wR r, wI 46, wI i, wI e] (sh, V)) (fun v h' => wev zP 8 75 [some (wR a), some (wR r), some (wI i0), some (wI e), some (wI c), some (wI g), some (wI i), some (wI (cfn (gl (tx sh V r)) 58 i e)), o8, o9, o10] (wput v []) h') wth else wev zP 8 83 [some (wR a), some (wR r), some (wI i0), some (wI e), some (wI c), some (wI g), some (wI i), some (wI (cfn (gl (tx sh V r)) 58 i e)), o8, o9, o10] [] (sh, V)) = wev zP 8 84 [some (wR a), some (wR r), some (wI i0), some (wI e), some (wI c), some (wI g), some (wI i), some (wI (cfn (gl (tx sh V r)) 58 i e)), o8', o9, o10] [wI fl] (sh, V) := by
      clear st ih b1 b2 b3 b4 b6 b7 b8 a6 a7 a8
      by_cases c3 : cfn (gl (tx sh V r)) 58 i e = e
      · rw [if_pos c3, S68 q 46 i e (by omega) (by omega)]
        simp only [wcx_v, wput_s, w8_75]
        by_cases c4 : e ≤ cfn (gl (tx sh V r)) 46 i e
        · rw [if_pos c4, w8_83]; exact ⟨0, o8, Or.inl rfl, fun z => by omega, fun _ => Or.inr c4, rfl⟩
        · rw [if_neg c4]; exact ⟨1, o8, Or.inr rfl, fun _ => ⟨c3, by omega⟩, fun z => by omega, rfl⟩
      · rw [if_neg c3, w8_83]; exact ⟨0, o8, Or.inl rfl, fun z => by omega, fun _ => Or.inl (by omega), rfl⟩
    obtain ⟨fl, o8', hf, hf1, hf0, hfe⟩ := flag
    rw [hfe]
    obtain ⟨y, V1, e1, f1, y0, y1, yv⟩ := S8v_84 h q i0 e c g i (cfn (gl (tx sh V r)) 58 i e) fl o8' o9 o10 b5 a1 he hc hf
    obtain ⟨q1, t1, -⟩ := f1.row h.nr q
    rw [e1]
    have k := S8_115 (a := a) q1 i0 e c g i (cfn (gl (tx sh V r)) 58 i e) fl y o9 o10 a1 he hc hf
    rw [t1] at k
    have go : ∀ (c' g' i' : Int) (p7 p8 p9 p10 : Option wV), c < c' → c' ≤ 8 → (g' = -1 ∨ (0 ≤ g' ∧ g' ≤ c')) → 0 ≤ i' ∧ i' ≤ 200005 → CS (gl (tx sh V r)) e i c g = CS (gl (tx sh V r)) e i' c' g' → GV (gl (tx sh V r)) e (V (sr sh a 0)) c g i = GV (gl (tx sh V r)) e (V1 (sr sh a 0)) c' g' i' → ∃ V', wev zP 8 33 [some (wR a), some (wR r), some (wI i0), some (wI e), some (wI c'), some (wI g'), some (wI i'), p7, p8, p9, p10] [] (sh, V1) = rI (CS (gl (tx sh V r)) e i c g) (sh, V') ∧ FrO [sr sh a 0] V V' ∧ (CS (gl (tx sh V r)) e i c g = 1 → ∀ j : Nat, j < 8 → V' (sr sh a 0) j = GV (gl (tx sh V r)) e (V (sr sh a 0)) c g i j) := by
      intro c' g' i' p7 p8 p9 p10 h1 h2 h3 h4 h5 h6
      obtain ⟨V', e2, f2, v2⟩ := ih (8 - c').toNat (b3 c' h1 h2) V1 c' g' i' p7 p8 p9 p10 q1 rfl (b4 c' h1 h2) h3 h4
      rw [t1] at e2 v2
      exact ⟨V', by rw [e2, h5], f1.trans f2, fun z j hj => by rw [v2 (by rw [← h5]; exact z) j hj, h6]⟩
    clear ih
    have gv := (GV_st (gl (tx sh V r)) e (V (sr sh a 0)) c g i).2 c1 c2
    have hf0' : fl = 0 → ¬ (cfn (gl (tx sh V r)) 58 i e = e ∧ cfn (gl (tx sh V r)) 46 i e < e) := fun z w => by have := hf0 z; clear st gv k; omega
    rcases hf with hf | hf
    · subst hf
      have st := st.2 (hf0 rfl)
      have y0 := y0 rfl
      by_cases hy : y ≠ 0
      · have hp := (y0.mp hy).1
        have st := st.2 hp
        by_cases d1 : cfn (gl (tx sh V r)) 58 i e = e - 1
        · rw [k.2.2.1 hy d1, st.1 d1]; exact ⟨V1, rfl, f1, fun z => absurd z (by decide)⟩
        · have st := st.2 d1
          rcases bI_r (isG (gl (tx sh V r)) e (cfn (gl (tx sh V r)) 58 i e)) with hb | hb
          · rw [k.2.2.2.2 hy d1 hb]
            exact go _ _ _ _ _ _ _ a4.1 a4.2 a7 a2 (st.2.2 hb) (by rw [gv.2.2 (hf0' rfl) hb, yv hy, if_pos rfl, sG_v])
          · by_cases d2 : g = -1
            · rw [k.2.2.2.1 hy d1 hb d2]
              exact go _ _ _ _ _ _ _ a4.1 a4.2 a6 a3 (st.2.1 hb d2) (by rw [gv.2.1 (hf0' rfl) hb, yv hy, if_pos rfl, sG_v])
            · rw [k.2.1 hy hb d2, st.1 hb d2]; exact ⟨V1, rfl, f1, fun z => absurd z (by decide)⟩
      · have hy0 : y = 0 := b2 y hy
        have hp : bI (pG (gl (tx sh V r)) i (cfn (gl (tx sh V r)) 58 i e)) = 0 := by
          rcases bI_r (pG (gl (tx sh V r)) i (cfn (gl (tx sh V r)) 58 i e)) with hb | hb
          · exact hb
          · exact absurd (y0.mpr ⟨hb, a9⟩) hy
        rw [k.1 hy0, st.1 hp]; exact ⟨V1, rfl, f1, fun z => absurd z (by decide)⟩
    · subst hf
      have se := hf1 rfl
      have st := st.1 se
      have y1 := y1 rfl
      have ng : bI (isG (gl (tx sh V r)) e (cfn (gl (tx sh V r)) 58 i e)) = 0 := bI_0 (fun z => b7 se.1 z.1)
      by_cases hy : y ≠ 0
      · rw [k.2.2.2.2 hy (b6 se.1) ng]
        exact go _ _ _ _ _ _ _ a5 (b1 (y1.mp hy).2) a8 a2 (st.1 (y1.mp hy)) (by rw [gv.1 se, yv hy, if_neg (by decide), sG_v, sG_v])
      · have hy0 : y = 0 := b2 y hy
        have hp : bI (cF (gl (tx sh V r)) i e) = 0 ∨ 6 < c := by
          rcases bI_r (cF (gl (tx sh V r)) i e) with hb | hb
          · exact Or.inl hb
          · by_cases w : c ≤ 6
            · exact absurd (y1.mpr ⟨hb, w⟩) hy
            · exact Or.inr (b8 w)
        rw [k.1 hy0, st.2 hp]; exact ⟨V1, rfl, f1, fun z => absurd z (by decide)⟩
/-- the groups of the address from i to e -/
noncomputable def G6 (f : Int → Int) (i e : Int) (W : Nat → Int) : Nat → Int := if bI (isG f e i) = 1 then GV f e W 0 0 (i + 2) else GV f e W 0 (-1) i
theorem S8v {sh : zSh} {V : wSt} {a r : Nat} (h : wAd sh a) (q : wRo sh V r) (i e : Int) (hi : 0 ≤ i ∧ i ≤ 200000) (he : -1 ≤ e ∧ e ≤ 200000) : ∃ V', wcl zP 8 [wR a, wR r, wI i, wI e] (sh, V) = rI (bI (cSix (gl (tx sh V r)) i e)) (sh, V') ∧ FrO [sr sh a 0] V V' ∧ (bI (cSix (gl (tx sh V r)) i e) = 1 → ∀ j : Nat, j < 8 → V' (sr sh a 0) j = G6 (gl (tx sh V r)) i e (V (sr sh a 0)) j) := by
  have cs := CS_six (gl (tx sh V r)) i e
  rw [w8_0, S9 q i e (by omega) (by omega)]
  simp only [wcx_v, wput_s, w8_9]
  unfold G6
  rcases bI_r (isG (gl (tx sh V r)) e i) with hb | hb
  · rw [hb, if_pos rfl, w8_17, if_neg (by decide), w8_31]
    obtain ⟨V', e1, f1, v1⟩ := S8v_33 h i e he _ V 0 (-1) i none none none none q rfl (by omega) (Or.inl rfl) (by omega)
    exact ⟨V', by rw [e1, cs.2 hb], f1, fun z j hj => by rw [if_neg (by decide)]; exact v1 (by rw [cs.2 hb]; exact z) j hj⟩
  · rw [hb, if_neg (by decide), w8_17, if_pos rfl, w8_31, wr_eq (by omega) (by omega)]
    obtain ⟨V', e1, f1, v1⟩ := S8v_33 h i e he _ V 0 0 (i + 2) none none none none q rfl (by omega) (Or.inr (by omega)) (by omega)
    exact ⟨V', by rw [e1, cs.1 hb], f1, fun z j hj => by rw [if_pos rfl]; exact v1 (by rw [cs.1 hb]; exact z) j hj⟩
/-- the kind of a host -/
noncomputable def kdo (x : List Int × Int) : Int := if x.2 = 0 then 0 else if gl x.1 0 = 91 then (if bI (cSix (gl x.1) 1 (x.1.length - 1)) = 1 then 3 else 4) else if bI (cF (gl x.1) 0 x.1.length) = 1 then 2 else 1
theorem S1 {sh : zSh} {V : wSt} {a r : Nat} (h : wAd sh a) (q : wRo sh V r) : ∃ V', wcl zP 1 [wR a, wR r] (sh, V) = rI (kdo (tx sh V r, V r 2)) (sh, V') ∧ FrO [sr sh a 0] V V' ∧ (kdo (tx sh V r, V r 2) = 3 → ∀ j : Nat, j < 8 → V' (sr sh a 0) j = G6 (gl (tx sh V r)) 1 ((tx sh V r).length - 1) (V (sr sh a 0)) j) ∧ (kdo (tx sh V r, V r 2) = 2 → V' (sr sh a 0) = gset (gset (V (sr sh a 0)) 0 (wush (FB (gl (tx sh V r)) (tx sh V r).length 0 0 0) 16)) 1 (wand (FB (gl (tx sh V r)) (tx sh V r).length 0 0 0) 65535)) := by
  have z := q.sz
  have tl := tx_sz q
  rw [w1_0]
  unfold kdo
  dsimp only
  by_cases c : V r 2 = 0
  · rw [if_pos c, if_pos c]; exact ⟨V, rfl, FrO.refl, fun z => absurd z (by decide), fun z => absurd z (by decide)⟩
  rw [if_neg c, if_neg c, S57 q]
  simp only [wcx_v, wput_s, w1_14]
  rw [← tl]
  by_cases d : gl (tx sh V r) 0 = 91
  · rw [if_pos d, if_pos d, wr_eq (by omega) (by omega)]
    obtain ⟨V', e1, f1, v1⟩ := S8v h q 1 ((tx sh V r).length - 1) (by decide) (by omega)
    rw [e1]
    simp only [wcx_v, wput_s, w1_31]
    rcases bI_r (cSix (gl (tx sh V r)) 1 ((tx sh V r).length - 1)) with hb | hb
    · rw [hb, if_pos rfl, if_neg (by decide)]; exact ⟨V', rfl, f1, fun z => absurd z (by decide), fun z => absurd z (by decide)⟩
    · rw [hb, if_neg (by decide), if_pos rfl]; exact ⟨V', rfl, f1, fun _ => v1 hb, fun z => absurd z (by decide)⟩
  · rw [if_neg d, if_neg d, S6 h q 0 (tx sh V r).length 0 (by decide) (by omega) (by decide)]
    rcases bI_r (cF (gl (tx sh V r)) 0 (tx sh V r).length) with hb | hb
    · rw [hb, if_neg (by decide)]
      simp only [wcx_v, wput_s, w1_51]
      rw [if_pos trivial, if_neg (by decide)]
      exact ⟨V, rfl, FrO.refl, fun z => absurd z (by decide), fun z => absurd z (by decide)⟩
    · rw [hb, if_pos rfl, if_pos (by decide)]
      simp only [wcx_v, wput_s, w1_51]
      rw [if_neg (by decide), if_pos trivial]
      exact ⟨_, rfl, (sG_fr sh V a _ _).trans (sG_fr sh _ a _ _), fun z => absurd z (by decide), fun _ => by rw [sG_v, sG_v]; rfl⟩
theorem S2 {sh : zSh} {V : wSt} {a : Nat} (h : wAd sh a) (i : Int) (hi : 0 ≤ i ∧ i ≤ 3) : wcl zP 2 [wR a, wI i] (sh, V) = rI (wor (wshl (V (sr sh a 0) (2 * i).toNat) 16) (V (sr sh a 0) (2 * i + 1).toNat)) (sh, V) := by
  rw [w2_0, wr_eq (x := 2 * i) (by omega) (by omega), S3 h, if_pos (by omega)]
  simp only [wcx_v, wput_s, w2_7]
  rw [wr_eq (x := 2 * i) (by omega) (by omega), wr_eq (x := 2 * i + 1) (by omega) (by omega), S3 h, if_pos (by omega)]
  simp only [wcx_v, wput_s, w2_19]
theorem wand_15 (v : Int) : 0 ≤ wand v 15 ∧ wand v 15 ≤ 15 := by
  have h2 : ((oI v &&& oI 15).toBitVec).toNat ≤ 15 := by
    show ((oI v).toBitVec &&& (15 : Int32).toBitVec).toNat ≤ 15
    rw [BitVec.toNat_and]; exact Nat.and_le_right
  have h1 : (oI v &&& oI 15).toInt = ((oI v &&& oI 15).toBitVec.toNat : Int) := by
    show (oI v &&& oI 15).toBitVec.toInt = _
    rw [BitVec.toInt_eq_toNat_cond, if_pos (by omega)]
  unfold wand; omega
/-- a small digit -/
def cdl (x : Int) : Int := if x < 10 then 48 + x else 87 + x
theorem S91l (sh : zSh) (x : Int) (V : wSt) (h : 0 ≤ x ∧ x ≤ 15) : wcl zP 91 [wI x, wI 0] (sh, V) = rI (cdl x) (sh, V) := by
  rw [w91_0]; unfold cdl
  by_cases c : 10 ≤ x
  · rw [if_pos c, if_pos rfl, if_neg (by omega), wr_eq (x := 97 + x) (by omega) (by omega), wr_eq (by omega) (by omega)]; exact rI_cg (by omega)
  · rw [if_neg c, if_pos (by omega), wr_eq (by omega) (by omega)]
/-- a group as it is written -/
def hxA (v : Int) : Nat → Int → List Int
  | 0, _ => []
  | n + 1, b => if b = 0 ∧ wand (wshr v (4 * n)) 15 ≤ 0 ∧ n ≠ 0 then hxA v n 0 else cdl (wand (wshr v (4 * n)) 15) :: hxA v n 1
def hxg (v : Int) : List Int := hxA v 4 0
theorem S13_5 {sh : zSh} {r : Nat} (v : Int) : ∀ (n : Nat) (V : wSt) (s b : Int) (o4 : Option wV), n ≤ 4 → s = 4 * n - 4 → (b = 0 ∨ b = 1) → wRo sh V r → ∃ V', wev zP 13 5 [some (wR r), some (wI v), some (wI b), some (wI s), o4] [] (sh, V) = rN (sh, V') ∧ RwU sh V V' r ((tx sh V r ++ hxA v n b).take (cap sh r)) (V r 2) := by
  intro n
  induction n with
  | zero =>
    intro V s b o4 hn hs hb q
    refine ⟨V, ?_, RwU.nil q⟩
    rw [w13_5, if_pos (by omega)]
  | succ n ih =>
    intro V s b o4 hn hs hb q
    have hs' : s = 4 * (n : Int) := by omega
    obtain ⟨d, hd⟩ : ∃ d, d = wand (wshr v s) 15 := ⟨_, rfl⟩
    have dr : 0 ≤ d ∧ d ≤ 15 := by rw [hd]; exact wand_15 _
    have st : hxA v (n + 1) b = if b = 0 ∧ d ≤ 0 ∧ n ≠ 0 then hxA v n 0 else cdl d :: hxA v n 1 := by rw [hd, hs']; rfl
    have no : b = 0 ∧ d ≤ 0 ∧ n ≠ 0 → ∃ V', wev zP 13 50 [some (wR r), some (wI v), some (wI 0), some (wI s), some (wI d)] [] (sh, V) = rN (sh, V') ∧ RwU sh V V' r ((tx sh V r ++ hxA v (n + 1) b).take (cap sh r)) (V r 2) := fun c => by
      obtain ⟨V2, e2, u2⟩ := ih V (s - 4) 0 (some (wI d)) (by omega) (by omega) (Or.inl rfl) q
      refine ⟨V2, ?_, by rw [st, if_pos c]; exact u2⟩
      rw [w13_50, wr_eq (by omega) (by omega), show s + -4 = s - 4 by omega, e2]
    have yes : ¬ (b = 0 ∧ d ≤ 0 ∧ n ≠ 0) → ∃ V', wcx (wcl zP 91 [wI d, wI 0] (sh, V)) (fun w h' => wev zP 13 47 [some (wR r), some (wI v), some (wI 1), some (wI s), some (wI d)] (wput w [wR r]) h') wth = rN (sh, V') ∧ RwU sh V V' r ((tx sh V r ++ hxA v (n + 1) b).take (cap sh r)) (V r 2) := fun c => by
      obtain ⟨V1, e1, u1⟩ := S59g q (cdl d)
      rw [wand_id (by unfold cdl; split <;> omega)] at u1
      obtain ⟨V2, e2, u2⟩ := ih V1 (s - 4) 1 (some (wI d)) (by omega) (by omega) (Or.inr rfl) u1.2.1
      refine ⟨V2, ?_, by rw [st, if_neg c]; exact u1.ad u2⟩
      rw [S91l _ _ _ dr]
      simp only [wcx_v, wput_s, w13_47, e1, wput_n, w13_50]
      rw [wr_eq (by omega) (by omega), show s + -4 = s - 4 by omega, e2]
    rw [w13_5, if_neg (by omega), ← hd]
    clear ih st
    by_cases cb : b = 0
    · rw [if_pos cb]
      by_cases cd : 0 < d
      · rw [if_pos cd, if_neg (by decide)]; exact yes (fun w => by have := w.2.1; omega)
      · rw [if_neg cd]
        by_cases cs : s = 0
        · rw [if_pos cs, if_neg (by decide)]; exact yes (fun w => by have := w.2.2; omega)
        · rw [if_neg cs, if_pos rfl]; exact no ⟨cb, by omega, by omega⟩
    · rw [if_neg cb, if_neg (by decide)]
      exact yes (fun w => cb w.1)
theorem S13 {sh : zSh} {V : wSt} {r : Nat} (q : wRo sh V r) (v : Int) : ∃ V', wcl zP 13 [wR r, wI v] (sh, V) = rN (sh, V') ∧ RwU sh V V' r ((tx sh V r ++ hxg v).take (cap sh r)) (V r 2) := by
  rw [w13_0]
  exact S13_5 v 4 V 12 0 none (by decide) (by decide) (Or.inl rfl) q
/-- how many groups of 0 there are from s on -/
def zrA (W : Nat → Int) : Nat → Int → Int
  | 0, _ => 0
  | n + 1, s => if 8 ≤ s then 0 else if W s.toNat = 0 then 1 + zrA W n (s + 1) else 0
def zro (W : Nat → Int) (s : Int) : Int := zrA W (8 - s).toNat s
theorem zro_st (W : Nat → Int) (s : Int) : (8 ≤ s → zro W s = 0) ∧ (s < 8 → (W s.toNat = 0 → zro W s = 1 + zro W (s + 1)) ∧ (W s.toNat ≠ 0 → zro W s = 0)) := by
  unfold zro
  refine ⟨fun h => ?_, fun h => ?_⟩
  · rw [show (8 - s).toNat = 0 by omega]; rfl
  · rw [show (8 - s).toNat = (8 - (s + 1)).toNat + 1 by omega, zrA, if_neg (by omega)]
    exact ⟨fun g => if_pos g, fun g => if_neg g⟩
theorem zro_r (W : Nat → Int) : ∀ (n : Nat) (s : Int), (8 - s).toNat = n → 0 ≤ zro W s ∧ zro W s ≤ n := by
  intro n
  induction n with
  | zero => intro s h; rw [(zro_st W s).1 (by omega)]; omega
  | succ n ih =>
    intro s h
    have st := (zro_st W s).2 (by omega)
    by_cases c : W s.toNat = 0
    · rw [st.1 c]; have := ih (s + 1) (by omega); omega
    · rw [st.2 c]; omega
theorem S15_4 {sh : zSh} {V : wSt} {a : Nat} (h : wAd sh a) (s0 : Int) : ∀ (n : Nat) (s c : Int), (8 - s).toNat = n → 0 ≤ s → 0 ≤ c ∧ c ≤ 100 - n → wev zP 15 4 [some (wR a), some (wI s0), some (wI c), some (wI s)] [] (sh, V) = rI (c + zro (V (sr sh a 0)) s) (sh, V) := by
  intro n
  induction n with
  | zero =>
    intro s c hn hs hc
    rw [w15_4, h.cap, if_pos (by omega), (zro_st _ s).1 (by omega)]; exact rI_cg (by omega)
  | succ n ih =>
    intro s c hn hs hc
    have st := (zro_st (V (sr sh a 0)) s).2 (by omega)
    rw [w15_4, h.cap, if_neg (by omega), S3 h, if_pos (by omega)]
    simp only [wcx_v, wput_s, w15_18]
    by_cases g : V (sr sh a 0) s.toNat = 0
    · rw [if_pos g, wr_eq (by omega) (by omega), wr_eq (by omega) (by omega), ih _ _ (by omega) (by omega) (by omega), st.1 g]; exact rI_cg (by omega)
    · rw [if_neg g, st.2 g]; exact rI_cg (by omega)
theorem S15 {sh : zSh} {V : wSt} {a : Nat} (h : wAd sh a) (s : Int) (hs : 0 ≤ s ∧ s ≤ 20) : wcl zP 15 [wR a, wI s] (sh, V) = rI (zro (V (sr sh a 0)) s) (sh, V) := by
  rw [w15_0, S15_4 h s _ s 0 rfl hs.1 (by omega)]; exact rI_cg (by omega)
/-- where the longest row of groups of 0 begins -/
def lrA (W : Nat → Int) : Nat → Int → Int → Int → Int
  | 0, _, b, _ => b
  | n + 1, i, b, l => if zro W i ≤ l then lrA W n (i + 1) b l else lrA W n (i + 1) i (zro W i)
def lrw (W : Nat → Int) : Int := lrA W 8 0 8 1
theorem S14_10 {sh : zSh} {V : wSt} {a : Nat} (h : wAd sh a) : ∀ (n : Nat) (i b l : Int) (o4 : Option wV), (8 - i).toNat = n → 0 ≤ i → wev zP 14 10 [some (wR a), some (wI b), some (wI l), some (wI i), o4] [] (sh, V) = rI (lrA (V (sr sh a 0)) n i b l) (sh, V) := by
  intro n
  induction n with
  | zero => intro i b l o4 hn hi; rw [w14_10, h.cap, if_pos (by omega)]; rfl
  | succ n ih =>
    intro i b l o4 hn hi
    rw [w14_10, h.cap, if_neg (by omega), S15 h i (by omega)]
    simp only [wcx_v, wput_s, w14_24]
    rw [lrA, wr_eq (by omega) (by omega)]
    by_cases c : zro (V (sr sh a 0)) i ≤ l
    · rw [if_pos c, if_pos c, ih _ _ _ _ (by omega) (by omega)]
    · rw [if_neg c, if_neg c, ih _ _ _ _ (by omega) (by omega)]
theorem lrA_r (W : Nat → Int) : ∀ (n : Nat) (i b l : Int), 0 ≤ i → 0 ≤ b → 0 ≤ lrA W n i b l ∧ lrA W n i b l ≤ (if b < i + n then i + n else b) := by
  intro n
  induction n with
  | zero => intro i b l hi hb; show 0 ≤ b ∧ b ≤ _; split <;> omega
  | succ n ih =>
    intro i b l hi hb
    rw [lrA]
    split
    · have := ih (i + 1) b l (by omega) hb; split at this <;> split <;> omega
    · have := ih (i + 1) i (zro W i) (by omega) hi; split at this <;> split <;> omega
theorem S14 {sh : zSh} {V : wSt} {a : Nat} (h : wAd sh a) : wcl zP 14 [wR a] (sh, V) = rI (lrw (V (sr sh a 0))) (sh, V) := by
  rw [w14_0, h.cap, S14_10 h 8 0 8 1 none rfl (by decide)]; rfl
/-- the groups as they are written, from the i-th on -/
def rwb (W : Nat → Int) (g b : Int) : Nat → Int → List Int
  | 0, _ => []
  | n + 1, i => (if i = g then [58, 58] else if i < g ∨ b ≤ i then (if 0 < i ∧ i ≠ b then [58] else []) ++ hxg (W i.toNat) else []) ++ rwb W g b n (i + 1)
