set_option maxRecDepth 16384
/-! the groups of an address of six, as a list -/
noncomputable def gL (f : Int → Int) (e la : Int) : Nat → Int → List Int
  | 0, _ => []
  | n + 1, k => if e ≤ k then [] else if la = 1 ∧ cfn f 58 k e = e ∧ bI (cF f k e) = 1 then wush (FB f e 0 k 0) 16 :: wand (FB f e 0 k 0) 65535 :: gL f e la n (cfn f 58 k e + 1) else hNm f k (cfn f 58 k e) 0 :: gL f e la n (cfn f 58 k e + 1)
noncomputable def gLs (f : Int → Int) (e la k : Int) : List Int := gL f e la (e + 1 - k).toNat k
theorem gL_n (f : Int → Int) (e la : Int) : ∀ (n m : Nat) (k : Int), (e + 1 - k).toNat ≤ n → (e + 1 - k).toNat ≤ m → gL f e la n k = gL f e la m k := by
  intro n
  induction n with
  | zero =>
    intro m k h1 h2
    cases m with
    | zero => rfl
    | succ m => rw [gL, gL, if_pos (by omega)]
  | succ n ih =>
    intro m k h1 h2
    cases m with
    | zero => rw [gL, gL, if_pos (by omega)]
    | succ m =>
      rw [gL, gL]
      by_cases c : e ≤ k
      · rw [if_pos c, if_pos c]
      · have r := (cfn_r f 58 k e).1 (by omega)
        rw [if_neg c, if_neg c, ih m _ (by omega) (by omega)]
theorem gLs_st (f : Int → Int) (e la k : Int) : (e ≤ k → gLs f e la k = []) ∧ (k < e → (la = 1 ∧ cfn f 58 k e = e ∧ bI (cF f k e) = 1 → gLs f e la k = wush (FB f e 0 k 0) 16 :: wand (FB f e 0 k 0) 65535 :: gLs f e la (cfn f 58 k e + 1)) ∧ (¬ (la = 1 ∧ cfn f 58 k e = e ∧ bI (cF f k e) = 1) → gLs f e la k = hNm f k (cfn f 58 k e) 0 :: gLs f e la (cfn f 58 k e + 1))) := by
  unfold gLs
  refine ⟨fun h => ?_, fun h => ?_⟩
  · cases (e + 1 - k).toNat with
    | zero => rfl
    | succ n => rw [gL, if_pos h]
  · have r := (cfn_r f 58 k e).1 (by omega)
    obtain ⟨n, hn⟩ : ∃ n, (e + 1 - k).toNat = n + 1 := ⟨(e + 1 - k).toNat - 1, by omega⟩
    rw [hn, gL, if_neg (by omega), gL_n f e la n (e + 1 - (cfn f 58 k e + 1)).toNat _ (by omega) (by omega)]
    exact ⟨fun c => if_pos c, fun c => if_neg c⟩
/-- eight groups out of a list, and of the place of the gap -/
def arr (P : List Int) (g : Int) : Nat → Int := fun j => if g = -1 then P.getD j 0 else sprd (fun j => P.getD j 0) P.length g j
theorem gset_P {W : Nat → Int} {P : List Int} {c x : Int} (hc : c = P.length) (h8 : c < 8) (h : ∀ j : Nat, (j : Int) < c → W j = P.getD j 0) : ∀ j : Nat, (j : Int) < c + 1 → gset W c x j = (P ++ [x]).getD j 0 := fun j hj => by
  unfold gset
  by_cases d : (j : Int) = c
  · rw [if_pos ⟨by omega, h8, d⟩, List.getD_eq_getElem?_getD, List.getElem?_append_right (by omega), show j - P.length = 0 by omega]; rfl
  · rw [if_neg (fun w => d w.2.2), h j (by omega), List.getD_eq_getElem?_getD, List.getD_eq_getElem?_getD, List.getElem?_append_left (by omega)]
theorem gEnd_arr {W : Nat → Int} {P : List Int} {c g : Int} (hc : c = P.length) (h8 : c ≤ 8) (hg : (g = -1 ∧ c = 8) ∨ (0 ≤ g ∧ g ≤ c)) (h : ∀ j : Nat, (j : Int) < c → W j = P.getD j 0) : ∀ j : Nat, j < 8 → gEnd W c g j = arr P g j := fun j hj => by
  unfold gEnd arr
  rcases hg with ⟨g1, c8⟩ | ⟨g0, g1⟩
  · rw [if_pos g1, if_pos g1]; exact h j (by omega)
  · rw [if_neg (by omega), if_neg (by omega)]
    unfold sprd
    rw [← hc]
    by_cases d1 : g ≤ j ∧ (j : Int) < g + (8 - c)
    · rw [if_pos d1, if_pos d1]
    · rw [if_neg d1, if_neg d1]
      by_cases d2 : g + (8 - c) ≤ j ∧ (j : Int) ≤ 7
      · rw [if_pos d2, if_pos d2]; exact h _ (by omega)
      · rw [if_neg d2, if_neg d2]; exact h j (by omega)
theorem hex_no46 {f : Int → Int} {i s : Int} (h : pG f i s) : ¬ (cfn f 46 i s < s) := fun w => by
  have r := h.1
  have := cfn_hit2 (f := f) (b := 46) (a := i) (e := s) (by omega) w
  have rr := (cfn_r f 46 i s).1 (by omega)
  exact pG_pt h rr.1 w this
/-- what a round does to the list -/
theorem rnd_1 {W : Nat → Int} {P : List Int} {c x : Int} (hc : c = P.length) (h8 : c < 8) (h : ∀ j : Nat, (j : Int) < c → W j = P.getD j 0) : (c + (0 + 1) = ((P ++ [x]).length : Int)) ∧ (∀ j : Nat, (j : Int) < c + (0 + 1) → gset W c x j = (P ++ [x]).getD j 0) := by
  refine ⟨by simp only [List.length_append, List.length_cons, List.length_nil]; omega, fun j hj => gset_P (x := x) hc h8 h j (by omega)⟩
theorem rnd_2 {W : Nat → Int} {P : List Int} {c x y : Int} (hc : c = P.length) (h8 : c < 7) (h : ∀ j : Nat, (j : Int) < c → W j = P.getD j 0) : (c + (1 + 1) = ((P ++ [x, y]).length : Int)) ∧ (∀ j : Nat, (j : Int) < c + (1 + 1) → gset (gset W c x) (c + 1) y j = (P ++ [x, y]).getD j 0) := by
  refine ⟨by simp only [List.length_append, List.length_cons, List.length_nil]; omega, fun j hj => ?_⟩
  have := gset_P (x := y) (P := P ++ [x]) (c := c + 1) (by simp only [List.length_append, List.length_cons, List.length_nil]; omega) (by omega) (gset_P (x := x) hc (by omega) h) j (by omega)
  rw [this, List.append_assoc]; rfl
theorem cF_or {p q : Int} {c : Int} (h : ¬ (p = 1 ∧ c ≤ 6)) (r : p = 0 ∨ p = 1) : p = 0 ∨ 6 < c := by omega
/-- behind a gap -/
theorem GV_A {f : Int → Int} {e : Int} : ∀ (n : Nat) (W : Nat → Int) (P : List Int) (c g i : Int), (e + 1 - i).toNat ≤ n → c = P.length → c ≤ 8 → 0 ≤ g ∧ g ≤ c → (∀ j : Nat, (j : Int) < c → W j = P.getD j 0) → CS f e i c g = 1 → ∀ j : Nat, j < 8 → GV f e W c g i j = arr (P ++ gLs f e 1 i) g j := by
  intro n
  induction n with
  | zero =>
    intro W P c g i hn hc h8 hg h hcs j hj
    have c0 : e ≤ i := by clear h hcs; omega
    rw [(GV_st f e W c g i).1 (Or.inl c0), (gLs_st f e 1 i).1 c0, List.append_nil]
    exact gEnd_arr hc h8 (Or.inr hg) h j hj
  | succ n ih =>
    intro W P c g i hn hc h8 hg h hcs j hj
    by_cases c0 : e ≤ i
    · rw [(GV_st f e W c g i).1 (Or.inl c0), (gLs_st f e 1 i).1 c0, List.append_nil]
      exact gEnd_arr hc h8 (Or.inr hg) h j hj
    have i0 : i < e := by clear ih h hcs; omega
    by_cases c8 : 8 ≤ c
    · rw [(CS_end f e i c g).2 i0 c8] at hcs; exact absurd hcs (by decide)
    have r := (cfn_r f 58 i e).1 (by clear ih h hcs; omega)
    have a1 : 0 ≤ c ∧ c < 8 := by clear ih h hcs; omega
    have a2 : (e + 1 - (cfn f 58 i e + 1)).toNat ≤ n := by clear ih h hcs; omega
    have a3 : 0 ≤ g ∧ g ≤ c + (0 + 1) ∧ g ≤ c + (1 + 1) := by clear ih h hcs; omega
    have a4 : c + (0 + 1) ≤ 8 := by clear ih h hcs; omega
    have a5 : c ≤ 6 → c + (1 + 1) ≤ 8 ∧ c < 7 := fun w => by clear ih h hcs; omega
    have a6 : g ≠ -1 := by clear ih h hcs; omega
    have a7 : ¬ (cfn f 58 i e = e ∧ cfn f 46 i e < e) → cfn f 58 i e < e ∨ e ≤ cfn f 46 i e := fun w => by clear ih h hcs; omega
    have st := CS_st (f := f) (e := e) (g := g) i0 a1.1 a1.2
    have gv := (GV_st f e W c g i).2 c0 c8
    have gs := (gLs_st f e 1 i).2 i0
    by_cases hf : cfn f 58 i e = e ∧ cfn f 46 i e < e
    · have st := st.1 hf
      by_cases hc6 : bI (cF f i e) = 1 ∧ c ≤ 6
      · rw [st.1 hc6] at hcs
        rw [gv.1 hf, gs.1 ⟨rfl, hf.1, hc6.1⟩]
        obtain ⟨r1, r2⟩ := rnd_2 (x := wush (FB f e 0 i 0) 16) (y := wand (FB f e 0 i 0) 65535) hc (a5 hc6.2).2 h
        have := ih _ _ _ g (cfn f 58 i e + 1) a2 r1 (a5 hc6.2).1 ⟨a3.1, a3.2.2⟩ r2 hcs j hj
        rw [this, List.append_assoc]; rfl
      · rw [st.2 (cF_or (q := 0) hc6 (bI_r _))] at hcs; exact absurd hcs (by decide)
    · have st := st.2 (a7 hf)
      rcases bI_r (pG f i (cfn f 58 i e)) with hp | hp
      · rw [st.1 hp] at hcs; exact absurd hcs (by decide)
      have st := st.2 hp
      by_cases d1 : cfn f 58 i e = e - 1
      · rw [st.1 d1] at hcs; exact absurd hcs (by decide)
      have st := st.2 d1
      have nf : ¬ ((1 : Int) = 1 ∧ cfn f 58 i e = e ∧ bI (cF f i e) = 1) := fun w => hf ⟨w.2.1, cF_pt (bI_i.mp w.2.2)⟩
      rcases bI_r (isG f e (cfn f 58 i e)) with hb | hb
      · rw [st.2.2 hb] at hcs
        rw [gv.2.2 hf hb, gs.2 nf]
        obtain ⟨r1, r2⟩ := rnd_1 (x := hNm f i (cfn f 58 i e) 0) hc a1.2 h
        have := ih _ _ _ g (cfn f 58 i e + 1) a2 r1 a4 ⟨a3.1, a3.2.1⟩ r2 hcs j hj
        rw [this, List.append_assoc]; rfl
      · rw [st.1 hb a6] at hcs; exact absurd hcs (by decide)
/-- no gap at all -/
theorem GV_B1 {f : Int → Int} {e : Int} : ∀ (n : Nat) (W : Nat → Int) (P : List Int) (c i : Int), (e + 1 - i).toNat ≤ n → c = P.length → c ≤ 8 → (∀ j : Nat, (j : Int) < c → W j = P.getD j 0) → (∀ k, i ≤ k → ¬ isG f e k) → CS f e i c (-1) = 1 → ∀ j : Nat, j < 8 → GV f e W c (-1) i j = arr (P ++ gLs f e 1 i) (-1) j := by
  intro n
  induction n with
  | zero =>
    intro W P c i hn hc h8 h hno hcs j hj
    have c0 : e ≤ i := by clear h hno hcs; omega
    have c8 : c = 8 := Decidable.byContradiction (fun w => by rw [((CS_end f e i c (-1)).1 c0).2.2.2 rfl w] at hcs; exact absurd hcs (by decide))
    rw [(GV_st f e W c (-1) i).1 (Or.inl c0), (gLs_st f e 1 i).1 c0, List.append_nil]
    exact gEnd_arr hc h8 (Or.inl ⟨rfl, c8⟩) h j hj
  | succ n ih =>
    intro W P c i hn hc h8 h hno hcs j hj
    by_cases c0 : e ≤ i
    · have c8 : c = 8 := Decidable.byContradiction (fun w => by rw [((CS_end f e i c (-1)).1 c0).2.2.2 rfl w] at hcs; exact absurd hcs (by decide))
      rw [(GV_st f e W c (-1) i).1 (Or.inl c0), (gLs_st f e 1 i).1 c0, List.append_nil]
      exact gEnd_arr hc h8 (Or.inl ⟨rfl, c8⟩) h j hj
    have i0 : i < e := by clear ih h hno hcs; omega
    by_cases c8 : 8 ≤ c
    · rw [(CS_end f e i c (-1)).2 i0 c8] at hcs; exact absurd hcs (by decide)
    have r := (cfn_r f 58 i e).1 (by clear ih h hno hcs; omega)
    have a1 : 0 ≤ c ∧ c < 8 := by clear ih h hno hcs; omega
    have a2 : (e + 1 - (cfn f 58 i e + 1)).toNat ≤ n := by clear ih h hno hcs; omega
    have a4 : c + (0 + 1) ≤ 8 := by clear ih h hno hcs; omega
    have a5 : c ≤ 6 → c + (1 + 1) ≤ 8 ∧ c < 7 := fun w => by clear ih h hno hcs; omega
    have a7 : ¬ (cfn f 58 i e = e ∧ cfn f 46 i e < e) → cfn f 58 i e < e ∨ e ≤ cfn f 46 i e := fun w => by clear ih h hno hcs; omega
    have hno2 : ∀ k, cfn f 58 i e + 1 ≤ k → ¬ isG f e k := fun k hk => hno k (by clear ih h hcs; omega)
    have hb : bI (isG f e (cfn f 58 i e)) = 0 := bI_0 (hno _ r.1)
    have st := CS_st (f := f) (e := e) (g := -1) i0 a1.1 a1.2
    have gv := (GV_st f e W c (-1) i).2 c0 c8
    have gs := (gLs_st f e 1 i).2 i0
    by_cases hf : cfn f 58 i e = e ∧ cfn f 46 i e < e
    · have st := st.1 hf
      by_cases hc6 : bI (cF f i e) = 1 ∧ c ≤ 6
      · rw [st.1 hc6] at hcs
        rw [gv.1 hf, gs.1 ⟨rfl, hf.1, hc6.1⟩]
        obtain ⟨r1, r2⟩ := rnd_2 (x := wush (FB f e 0 i 0) 16) (y := wand (FB f e 0 i 0) 65535) hc (a5 hc6.2).2 h
        have := ih _ _ _ (cfn f 58 i e + 1) a2 r1 (a5 hc6.2).1 r2 hno2 hcs j hj
        rw [this, List.append_assoc]; rfl
      · rw [st.2 (cF_or (q := 0) hc6 (bI_r _))] at hcs; exact absurd hcs (by decide)
    · have st := st.2 (a7 hf)
      rcases bI_r (pG f i (cfn f 58 i e)) with hp | hp
      · rw [st.1 hp] at hcs; exact absurd hcs (by decide)
      have st := st.2 hp
      by_cases d1 : cfn f 58 i e = e - 1
      · rw [st.1 d1] at hcs; exact absurd hcs (by decide)
      have st := st.2 d1
      have nf : ¬ ((1 : Int) = 1 ∧ cfn f 58 i e = e ∧ bI (cF f i e) = 1) := fun w => hf ⟨w.2.1, cF_pt (bI_i.mp w.2.2)⟩
      rw [st.2.2 hb] at hcs
      rw [gv.2.2 hf hb, gs.2 nf]
      obtain ⟨r1, r2⟩ := rnd_1 (x := hNm f i (cfn f 58 i e) 0) hc a1.2 h
      have := ih _ _ _ (cfn f 58 i e + 1) a2 r1 a4 r2 hno2 hcs j hj
      rw [this, List.append_assoc]; rfl
/-- ahead of a gap -/
theorem GV_B2 {f : Int → Int} {e G : Int} (hG : isG f e G) : ∀ (n : Nat) (W : Nat → Int) (P : List Int) (c i : Int), (e + 1 - i).toNat ≤ n → c = P.length → c ≤ 8 → i < G → (∀ j : Nat, (j : Int) < c → W j = P.getD j 0) → (∀ k, i ≤ k → k < G → ¬ isG f e k) → CS f e i c (-1) = 1 → ∀ j : Nat, j < 8 → GV f e W c (-1) i j = arr (P ++ (gLs f G 0 i ++ gLs f e 1 (G + 2))) (c + (gLs f G 0 i).length) j := by
  have Ge := hG.1
  intro n
  induction n with
  | zero => intro W P c i hn hc h8 hi h hno hcs j hj; clear h hno hcs; omega
  | succ n ih =>
    intro W P c i hn hc h8 hi h hno hcs j hj
    have i0 : i < e := by clear ih h hno hcs; omega
    have c0 : ¬ e ≤ i := by clear ih h hno hcs; omega
    by_cases c8 : 8 ≤ c
    · rw [(CS_end f e i c (-1)).2 i0 c8] at hcs; exact absurd hcs (by decide)
    have r := (cfn_r f 58 i e).1 (by clear ih h hno hcs; omega)
    have sG : cfn f 58 i e ≤ G := Decidable.byContradiction (fun w => absurd hG.2.1 (cfn_no2 (f := f) (b := 58) (a := i) (e := e) (by clear ih h hno hcs; omega) (by clear ih h hno hcs; omega) (by clear ih h hno hcs; omega)))
    have s2 : cfn f 58 i G = cfn f 58 i e := by
      have h1 := cfn_min (f := f) (b := 58) (e := e) (e' := G) (by clear ih h hno hcs; omega) _ i rfl (by clear ih h hno hcs; omega)
      rw [h1]
      by_cases q : cfn f 58 i e < G
      · rw [if_pos q]
      · rw [if_neg q]; clear ih h hno hcs; omega
    have a1 : 0 ≤ c ∧ c < 8 := by clear ih h hno hcs; omega
    have a2 : (e + 1 - (cfn f 58 i e + 1)).toNat ≤ n ∧ (e + 1 - (cfn f 58 i e + 1 + 1)).toNat ≤ n := by clear ih h hno hcs; omega
    have a4 : c + (0 + 1) ≤ 8 ∧ 0 ≤ c + (0 + 1) ∧ c + (0 + 1) ≤ c + (0 + 1) := by clear ih h hno hcs; omega
    have hf : ¬ (cfn f 58 i e = e ∧ cfn f 46 i e < e) := fun w => by have := w.1; clear ih h hno hcs; omega
    have a7 : cfn f 58 i e < e ∨ e ≤ cfn f 46 i e := by clear ih h hno hcs; omega
    have a8 : ¬ cfn f 58 i e = G → cfn f 58 i e + 1 < G + 1 ∧ cfn f 58 i e < G := fun w => by clear ih h hno hcs; omega
    have a9 : cfn f 58 i e = G → G ≤ cfn f 58 i e + 1 ∧ cfn f 58 i e + 1 + 1 = G + 2 := fun w => by clear ih h hno hcs; omega
    have hno2 : ∀ k, cfn f 58 i e + 1 ≤ k → k < G → ¬ isG f e k := fun k hk k2 => hno k (by clear ih h hcs; omega) k2
    have gs := (gLs_st f G 0 i).2 hi
    rw [s2] at gs
    have g0 := gs.2 (fun w => absurd w.1 (by decide))
    clear gs
    obtain ⟨r1, r2⟩ := rnd_1 (x := hNm f i (cfn f 58 i e) 0) hc a1.2 h
    have st := CS_st (f := f) (e := e) (g := -1) i0 a1.1 a1.2
    have gv := (GV_st f e W c (-1) i).2 c0 c8
    have st := st.2 a7
    rcases bI_r (pG f i (cfn f 58 i e)) with hp | hp
    · rw [st.1 hp] at hcs; exact absurd hcs (by decide)
    have st := st.2 hp
    by_cases d1 : cfn f 58 i e = e - 1
    · rw [st.1 d1] at hcs; exact absurd hcs (by decide)
    have st := st.2 d1
    by_cases d2 : cfn f 58 i e = G
    · have hb : bI (isG f e (cfn f 58 i e)) = 1 := bI_1 (by rw [d2]; exact hG)
      rw [st.2.1 hb rfl] at hcs
      rw [gv.2.1 hf hb, g0, (gLs_st f G 0 (cfn f 58 i e + 1)).1 (a9 d2).1]
      have := GV_A n _ _ _ (c + (0 + 1)) (cfn f 58 i e + 1 + 1) a2.2 r1 a4.1 a4.2 r2 hcs j hj
      rw [this, List.append_assoc, (a9 d2).2]
      rfl
    · have hb : bI (isG f e (cfn f 58 i e)) = 0 := bI_0 (hno _ r.1 (a8 d2).2)
      rw [st.2.2 hb] at hcs
      rw [gv.2.2 hf hb, g0]
      clear st gv
      by_cases d3 : cfn f 58 i e + 1 < G
      · have := ih _ _ _ (cfn f 58 i e + 1) a2.1 r1 a4.1 d3 r2 hno2 hcs j hj
        rw [this, List.append_assoc, show c + (0 + 1) + ((gLs f G 0 (cfn f 58 i e + 1)).length : Int) = c + ((hNm f i (cfn f 58 i e) 0 :: gLs f G 0 (cfn f 58 i e + 1)).length : Int) by rw [List.length_cons]; clear ih h hno hcs this; omega]
        rfl
      · exfalso
        -- the gap stands right behind a colon: then it began there
        have e1 : cfn f 58 i e + 1 = G := by have := (a8 d2).2; clear ih h hno hcs; omega
        have f58 : f (cfn f 58 i e) = 58 := cfn_hit2 (by clear ih h hno hcs; omega) (by clear ih h hno hcs; omega)
        exact hno _ r.1 (a8 d2).2 ⟨by clear ih h hno hcs; omega, f58, by rw [e1]; exact hG.2.1⟩
/-- the groups, and where the gap is -/
def six6 (f : Int → Int) (a e : Int) (P : List Int) (g : Int) : Prop := ((∀ k, a ≤ k → ¬ isG f e k) ∧ P = gLs f e 1 a ∧ g = -1) ∨ (∃ G, a ≤ G ∧ isG f e G ∧ (∀ k, a ≤ k → k < G → ¬ isG f e k) ∧ P = gLs f G 0 a ++ gLs f e 1 (G + 2) ∧ g = (gLs f G 0 a).length)
theorem six6_u {f : Int → Int} {a e : Int} {P P' : List Int} {g g' : Int} (h : six6 f a e P g) (k : six6 f a e P' g') : P = P' ∧ g = g' := by
  rcases h with ⟨h1, h2, h3⟩ | ⟨G, h1, h2, h3, h4, h5⟩ <;> rcases k with ⟨k1, k2, k3⟩ | ⟨G', k1, k2, k3, k4, k5⟩
  · exact ⟨by rw [h2, k2], by rw [h3, k3]⟩
  · exact absurd k2 (h1 G' k1)
  · exact absurd h2 (k1 G h1)
  · have e : G = G' := by
      rcases Int.lt_trichotomy G G' with w | w | w
      · exact absurd h2 (k3 G h1 w)
      · exact w
      · exact absurd k2 (h3 G' k1 w)
    subst e
    exact ⟨by rw [h4, k4], by rw [h5, k5]⟩
theorem six6_ex (f : Int → Int) (a e : Int) : ∃ P g, six6 f a e P g := by
  by_cases hex : ∃ G, a ≤ G ∧ isG f e G ∧ ∀ k, a ≤ k → k < G → ¬ isG f e k
  · obtain ⟨G, h1, h2, h3⟩ := hex
    exact ⟨_, _, Or.inr ⟨G, h1, h2, h3, rfl, rfl⟩⟩
  · refine ⟨_, _, Or.inl ⟨fun k hk => ?_, rfl, rfl⟩⟩
    have key : ∀ (n : Nat) (k : Int), (k - a).toNat = n → a ≤ k → ¬ isG f e k := by
      intro n
      induction n using Nat.strongRecOn with
      | _ n ih =>
        intro k hn hk hg
        exact hex ⟨k, hk, hg, fun j w1 w2 => ih (j - a).toNat (by omega) j rfl w1⟩
    exact key _ k rfl hk
theorem G6_arr {f : Int → Int} {a e : Int} (h : bI (cSix f a e) = 1) {P : List Int} {g : Int} (k : six6 f a e P g) (W : Nat → Int) : ∀ j : Nat, j < 8 → G6 f a e W j = arr P g j := by
  have cs := CS_six f a e
  unfold G6
  rcases k with ⟨h1, h2, h3⟩ | ⟨G, h1, h2, h3, h4, h5⟩
  · have hb : bI (isG f e a) = 0 := bI_0 (h1 a (Int.le_refl a))
    rw [if_neg (by omega), h2, h3]
    have := GV_B1 (f := f) (e := e) _ W [] 0 a (Nat.le_refl _) rfl (by decide) (fun j hj => by omega) h1 (by rw [cs.2 hb]; exact h)
    rw [List.nil_append] at this; exact this
  · by_cases c : G = a
    · subst c
      have hb : bI (isG f e G) = 1 := bI_1 h2
      have z : gLs f G 0 G = [] := (gLs_st f G 0 G).1 (Int.le_refl _)
      rw [if_pos hb, h4, h5, z, List.nil_append]
      have := GV_A (f := f) (e := e) _ W [] 0 0 (G + 2) (Nat.le_refl _) rfl (by decide) (by decide) (fun j hj => by omega) (by rw [cs.1 hb]; exact h)
      rw [List.nil_append] at this; exact this
    · have hb : bI (isG f e a) = 0 := bI_0 (h3 a (Int.le_refl a) (by omega))
      rw [if_neg (by omega), h4, h5]
      have := GV_B2 h2 _ W [] 0 a (Nat.le_refl _) rfl (by decide) (by omega) (fun j hj => by omega) h3 (by rw [cs.2 hb]; exact h)
      rw [List.nil_append, Int.zero_add] at this; exact this
