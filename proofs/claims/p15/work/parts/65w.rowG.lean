set_option maxRecDepth 16384
/-! dots that go, a text put before -/
theorem cfn_cg {f g : Int → Int} {b : Int} : ∀ (n : Nat) (k e d : Int), (e - k).toNat = n → (∀ j, k ≤ j → j < e → f j = g (j + d)) → cfn g b (k + d) (e + d) = cfn f b k e + d := by
  intro n
  induction n with
  | zero => intro k e d hn h; rw [(cfn_st f b k e).1 (by omega), (cfn_st g b (k + d) (e + d)).1 (by omega)]
  | succ n ih =>
    intro k e d hn h
    have s1 := (cfn_st f b k e).2 (by omega)
    have s2 := (cfn_st g b (k + d) (e + d)).2 (by omega)
    have h0 := h k (by omega) (by omega)
    by_cases c : f k = b
    · rw [s1.1 c, s2.1 (by rw [← h0]; exact c)]
    · rw [s1.2 c, s2.2 (by rw [← h0]; exact c), show k + d + 1 = k + 1 + d by omega]
      exact ih (k + 1) e d (by omega) (fun j h1 h2 => h j (by omega) h2)
theorem fli_cg {f g : Int → Int} {b a : Int} : ∀ (n : Nat) (e : Int), (e + 1 - a).toNat = n → (∀ j, a ≤ j → j ≤ e → f j = g j) → fli f b a e = fli g b a e := by
  intro n
  induction n with
  | zero => intro e hn h; rw [(fli_st f b a e).1 (by omega), (fli_st g b a e).1 (by omega)]
  | succ n ih =>
    intro e hn h
    have s1 := (fli_st f b a e).2 (by omega)
    have s2 := (fli_st g b a e).2 (by omega)
    have h0 := h e (by omega) (by omega)
    by_cases c : f e = b
    · rw [s1.1 c, s2.1 (by rw [← h0]; exact c)]
    · rw [s1.2 c, s2.2 (by rw [← h0]; exact c)]
      exact ih (e + -1) (by omega) (fun j h1 h2 => h j h1 (by omega))
theorem fli_r2 (f : Int → Int) (b a : Int) : ∀ (n : Nat) (e : Int), (e + 1 - a).toNat = n → fli f b a e = -1 ∨ (a ≤ fli f b a e ∧ fli f b a e ≤ e) := by
  intro n
  induction n with
  | zero => intro e hn; exact Or.inl ((fli_st f b a e).1 (by omega))
  | succ n ih =>
    intro e hn
    have s1 := (fli_st f b a e).2 (by omega)
    by_cases c : f e = b
    · rw [s1.1 c]; exact Or.inr (by omega)
    · rw [s1.2 c]
      rcases ih (e + -1) (by omega) with h | h
      · exact Or.inl h
      · exact Or.inr (by omega)
/-- where the first segment ends -/
def eo (R : List Int) : Int := cfn (gl R) 47 0 R.length
theorem eo_r (R : List Int) : 0 ≤ eo R ∧ eo R ≤ R.length := by
  have := (cfn_r (gl R) 47 0 R.length).1 (by omega); unfold eo; omega
def dts (R : List Int) (p : Int) : Prop := eo R = p ∧ gl R 0 = 46 ∧ gl R (p - 1) = 46
/-- what stays of the segments behind D, with the dots gone -/
noncomputable def rdt (fl : Int) : Nat → List Int → List Int → List Int
  | 0, D, _ => D
  | n + 1, D, R => if bI (dts R 2) = 1 then rdt fl n (D.take (if fli (gl D) 47 fl ((D.length : Int) - 2) + 1 < fl then fl else fli (gl D) 47 fl ((D.length : Int) - 2) + 1).toNat) (R.drop (eo R + 1).toNat) else if bI (dts R 1) = 1 then rdt fl n D (R.drop (eo R + 1).toNat) else rdt fl n (D ++ R.take (eo R + 1).toNat) (R.drop (eo R + 1).toNat)
noncomputable def rdots (L : List Int) : List Int :=
  rdt (if gl L 0 = 47 then 1 else 0) (lc 47 (L.drop (if gl L 0 = 47 then (1 : Int) else 0).toNat) + 1).toNat (L.take (if gl L 0 = 47 then (1 : Int) else 0).toNat) (L.drop (if gl L 0 = 47 then (1 : Int) else 0).toNat)
theorem gl_dr {L : List Int} {k : Int} (h : 0 ≤ k) (j : Int) (hj : 0 ≤ j) : gl (L.drop k.toNat) j = gl L (j + k) := by
  rw [gl_drop, if_neg (by omega)]; congr 1; omega
theorem gl_tk {L : List Int} {k : Int} (j : Int) (hj : j < k) : gl (L.take k.toNat) j = gl L j := by
  rw [gl_take, if_pos (by omega)]
theorem eo_drop {L : List Int} {s : Int} (h : 0 ≤ s) (g : s ≤ (L.length : Int)) : cfn (gl L) 47 s L.length = eo (L.drop s.toNat) + s := by
  have l : ((L.drop s.toNat).length : Int) = L.length - s := by rw [List.length_drop]; omega
  have k := cfn_cg (f := gl (L.drop s.toNat)) (g := gl L) (b := 47) _ 0 ((L.drop s.toNat).length : Int) s rfl (fun j h1 h2 => gl_dr h j h1)
  rw [l, show (0 : Int) + s = s by omega, show (L.length : Int) - s + s = L.length by omega] at k
  unfold eo
  rw [l]; exact k
theorem S80_34 {sh : zSh} {r : Nat} (fl sg : Int) (hf : 0 ≤ fl ∧ fl ≤ 1) : ∀ (n : Nat) (V : wSt) (k s i : Int) (o6 : Option wV), (sg - i).toNat = n → sg ≤ 1000000 → 0 ≤ i → fl ≤ k → k ≤ s → k ≤ V r 1 → s ≤ V r 1 + 1 → wRo sh V r → ∃ V', wev zP 80 34 [some (wR r), some (wI fl), some (wI sg), some (wI k), some (wI s), some (wI i), o6] [] (sh, V) = rN (sh, V') ∧ RwU sh V V' r (rdt fl n ((tx sh V r).take k.toNat) ((tx sh V r).drop s.toNat)) (V r 2) := by
  intro n
  induction n with
  | zero =>
    intro V k s i o6 hn hsg hi hk hks hkl hsl q
    obtain ⟨V1, e1, u1⟩ := S63 q k (by omega)
    refine ⟨V1, ?_, u1⟩
    rw [w80_34, if_pos (by omega), e1]; simp only [wcx_v, wput_n, w80_134]
  | succ n ih =>
    intro V k s i o6 hn hsg hi hk hks hkl hsl q
    have tl := tx_sz q
    have z := q.sz
    obtain ⟨L, hL⟩ : ∃ L, L = tx sh V r := ⟨_, rfl⟩
    rw [← hL] at tl ⊢
    obtain ⟨R, hR⟩ : ∃ R, R = L.drop s.toNat := ⟨_, rfl⟩
    have lR : (R.length : Int) = if L.length ≤ s then 0 else L.length - s := by rw [hR, List.length_drop]; split <;> omega
    have er := eo_r R
    -- where the segment ends, in the row
    obtain ⟨E, hE⟩ : ∃ E, E = cfn (gl L) 47 s (V r 1) := ⟨_, rfl⟩
    have hE2 : (s ≤ V r 1 → E = eo R + s) ∧ (V r 1 < s → E = V r 1 ∧ eo R = 0) := by
      refine ⟨fun h => ?_, fun h => ?_⟩
      · rw [hE, hR, ← eo_drop (by omega) (by omega), tl]
      · rw [if_pos (by omega)] at lR
        exact ⟨by rw [hE, (cfn_st _ _ _ _).1 (by omega)], by omega⟩
    have hEr : -1 ≤ E ∧ E ≤ V r 1 := by
      by_cases h : s ≤ V r 1
      · have a := hE2.1 h
        by_cases w : (L.length : Int) ≤ s
        · rw [if_pos w] at lR; omega
        · rw [if_neg w] at lR; omega
      · have a := hE2.2 (by omega); omega
    have dR : ∀ p : Int, 1 ≤ p → bI (E - s = p ∧ gl L s = 46 ∧ gl L (E - 1) = 46) = bI (dts R p) := by
      intro p hp
      have g0 : gl R 0 = gl L s := by rw [hR, gl_dr (by omega) 0 (by omega), Int.zero_add]
      have g1 : gl R (p - 1) = gl L (p - 1 + s) := by rw [hR, gl_dr (by omega) _ (by omega)]
      have same : (E - s = p ∧ gl L s = 46 ∧ gl L (E - 1) = 46) ↔ dts R p := by
        unfold dts
        rw [g0, g1]
        by_cases h : s ≤ V r 1
        · have a := hE2.1 h
          refine ⟨fun ⟨w1, w2, w3⟩ => ⟨by omega, w2, ?_⟩, fun ⟨w1, w2, w3⟩ => ⟨by omega, w2, ?_⟩⟩
          · rw [show p - 1 + s = E - 1 by omega]; exact w3
          · rw [show E - 1 = p - 1 + s by omega]; exact w3
        · have a := hE2.2 (by omega)
          exact ⟨fun w => by have := w.1; omega, fun w => by have := w.1; omega⟩
      by_cases w : dts R p
      · rw [bI_1 w, bI_1 (same.mpr w)]
      · rw [bI_0 w, bI_0 (fun z => w (same.mp z))]
    have dr : R.drop (eo R + 1).toNat = L.drop (E + 1).toNat := by
      by_cases h : s ≤ V r 1
      · have a := hE2.1 h
        rw [hR, List.drop_drop, ← hR, a]; congr 1; omega
      · have a := hE2.2 (by omega)
        rw [List.drop_of_length_le (by rw [if_pos (by omega)] at lR; omega), List.drop_of_length_le (by omega)]
    have kE : k ≤ E + 1 := by
      by_cases h : s ≤ V r 1
      · have a := hE2.1 h; omega
      · have a := hE2.2 (by omega); omega
    rw [w80_34, if_neg (by omega), S68 q 47 s (V r 1) (by omega) (by omega), ← hL, ← hE, rdt, ← hR, dr]
    simp only [wcx_v, wput_s, w80_52]
    rw [S81 q s E 2 (by omega) (by omega), ← hL, dR 2 (by omega)]
    simp only [wcx_v, wput_s, w80_63]
    rcases bI_r (dts R 2) with c | c
    · rw [if_pos c, if_neg (by omega), S81 q s E 1 (by omega) (by omega), ← hL, dR 1 (by omega)]
      simp only [wcx_v, wput_s, w80_95]
      rcases bI_r (dts R 1) with d | d
      · rw [if_pos d, if_neg (c := bI (dts R 1) = 1) (by omega), wr_eq (x := E + 1) (by omega) (by omega)]
        obtain ⟨M, hM⟩ : ∃ M : Int, M = if V r 1 < E + 1 then V r 1 else E + 1 := ⟨_, rfl⟩
        rw [← hM]
        have hM2 : M ≤ V r 1 ∧ M ≤ E + 1 ∧ (M = V r 1 ∨ M = E + 1) := by rw [hM]; split <;> omega
        obtain ⟨V1, e1, u1⟩ := S82 q s M k hM2.1 (by omega) hks (by omega)
        rw [← hL] at u1
        have t1 := tx_sz u1.2.1
        have lT : ((L.take k.toNat).length : Int) = k := by rw [List.length_take]; omega
        -- how many signs are moved
        have lS : (sub L s M).length = (M - s).toNat := by unfold sub; rw [List.length_take, List.length_drop]; omega
        have lA : ((L.take k.toNat ++ (sub L s M ++ L.drop (k + (M - s).toNat).toNat)).length : Int) = L.length := by
          rw [List.length_append, List.length_append, List.length_drop, lS]; omega
        rw [u1.2.2.1, lA] at t1
        obtain ⟨V3, e3, u3⟩ := ih V1 (k + (M - s).toNat) (E + 1) (i + 1) (some (wI E)) (by omega) hsg (by omega) (by omega) (by omega) (by omega) (by omega) u1.2.1
        refine ⟨V3, ?_, (u1.tr2 u3).eq ?_⟩
        · rw [e1]
          simp only [wcx_v, wput_s, w80_116]
          rw [wr_eq (x := E + 1) (by omega) (by omega), wr_eq (by omega) (by omega), e3]
        · rw [u1.2.2.1]
          congr 1
          · rw [← List.append_assoc, List.take_append, List.take_of_length_le (by rw [List.length_append, lS]; omega), List.length_append, lS, show (k + ((M - s).toNat : Int)).toNat - ((L.take k.toNat).length + (M - s).toNat) = 0 by omega, List.take_zero, List.append_nil]
            congr 1
            rw [hR]
            have same : sub L s M = (L.drop s.toNat).take (M - s).toNat := rfl
            rw [same, ← hR]
            refine List.ext_getElem? (fun j => ?_)
            rw [List.getElem?_take, List.getElem?_take]
            by_cases h : s ≤ V r 1
            · have a := hE2.1 h
              by_cases w : (L.length : Int) ≤ s
              · rw [if_pos w] at lR
                rw [List.getElem?_eq_none (by omega)]; split <;> split <;> rfl
              · rw [if_neg w] at lR
                by_cases y : j < R.length
                · by_cases y2 : j < (M - s).toNat
                  · rw [if_pos y2, if_pos (by omega)]
                  · rw [if_neg y2, if_neg (by omega)]
                · rw [List.getElem?_eq_none (by omega)]; split <;> split <;> rfl
            · have a := hE2.2 (by omega)
              rw [if_pos (by omega)] at lR
              rw [List.getElem?_eq_none (by omega)]; split <;> split <;> rfl
          · refine gl_ext (by rw [List.length_drop, List.length_drop]; omega) (fun j h1 h2 => ?_)
            rw [List.length_drop] at h2
            rw [gl_dr (by omega) j h1, gl_dr (by omega) j h1, gl_app, if_neg (by omega), gl_app, if_neg (by omega), gl_drop, if_neg (by omega)]
            congr 1; omega
      · rw [if_neg (by omega), if_pos d, wr_eq (by omega) (by omega), wr_eq (by omega) (by omega)]
        obtain ⟨V3, e3, u3⟩ := ih V k (E + 1) (i + 1) (some (wI E)) (by omega) hsg (by omega) hk kE hkl (by omega) q
        rw [← hL] at u3
        exact ⟨V3, e3, u3⟩
    · rw [if_neg (by omega), if_pos c, wr_eq (x := k - 1) (by omega) (by omega), S69 q 47 fl (k - 1) (by omega) (by omega) (by omega), ← hL, show k - 1 - 1 = k - 2 by omega]
      simp only [wcx_v, wput_s, w80_76]
      have lT : ((L.take k.toNat).length : Int) = k := by rw [List.length_take]; omega
      rw [lT, fli_cg (f := gl (L.take k.toNat)) (g := gl L) _ (k - 2) rfl (fun j h1 h2 => gl_tk j (by omega))]
      have fr := fli_r2 (gl L) 47 fl _ (k - 2) rfl
      obtain ⟨F, hF⟩ : ∃ F, F = fli (gl L) 47 fl (k - 2) := ⟨_, rfl⟩
      rw [← hF] at fr ⊢
      rw [wr_eq (x := F + 1) (by omega) (by omega), wr_eq (by omega) (by omega), wr_eq (by omega) (by omega)]
      obtain ⟨K, hK⟩ : ∃ K : Int, K = if F + 1 < fl then fl else F + 1 := ⟨_, rfl⟩
      have hK2 : fl ≤ K ∧ K ≤ k := by rw [hK]; split <;> omega
      rw [← hK]
      obtain ⟨V3, e3, u3⟩ := ih V K (E + 1) (i + 1) (some (wI E)) (by omega) hsg (by omega) hK2.1 (by omega) (by omega) (by omega) q
      rw [← hL] at u3
      refine ⟨V3, e3, u3.eq ?_⟩
      rw [List.take_take, show min K.toNat k.toNat = K.toNat by omega]
theorem S80 {sh : zSh} {V : wSt} {r : Nat} (q : wRo sh V r) : ∃ V', wcl zP 80 [wR r] (sh, V) = rN (sh, V') ∧ RwU sh V V' r (rdots (tx sh V r)) (V r 2) := by
  have tl := tx_sz q
  have z := q.sz
  rw [w80_0, S57 q]
  simp only [wcx_v, wput_s, w80_5]
  have go : ∀ fl : Int, (fl = 0 ∨ (fl = 1 ∧ 1 ≤ V r 1)) → (if gl (tx sh V r) 0 = 47 then (1 : Int) else 0) = fl → ∃ V', wcx (wcl zP 70 [wR r, wI 47, wI fl] (sh, V)) (fun v h' => wev zP 80 23 [some (wR r), some (wI fl), none, none, none, none, none] (wput v []) h') wth = rN (sh, V') ∧ RwU sh V V' r (rdots (tx sh V r)) (V r 2) := by
    intro fl h1 h2
    have lr := lc_r 47 ((tx sh V r).drop fl.toNat)
    have ld := List.length_drop (i := fl.toNat) (l := tx sh V r)
    rw [S70 q 47 fl (by omega)]
    simp only [wcx_v, wput_s, w80_23]
    rw [wr_eq (by omega) (by omega)]
    unfold rdots
    rw [h2]
    obtain ⟨V', e, u⟩ := S80_34 (sh := sh) (r := r) fl (lc 47 ((tx sh V r).drop fl.toNat) + 1) (by omega) _ V fl fl 0 none rfl (by omega) (by omega) (by omega) (by omega) (by omega) (by omega) q
    rw [Int.sub_zero] at u
    exact ⟨V', e, u⟩
  have g0 := (gl_r sh V r 0).2.2
  by_cases c : gl (tx sh V r) 0 = 47
  · rw [if_pos c]; exact go 1 (Or.inr ⟨rfl, by omega⟩) (if_pos c)
  · rw [if_neg c]; exact go 0 (Or.inl rfl) (if_neg c)
