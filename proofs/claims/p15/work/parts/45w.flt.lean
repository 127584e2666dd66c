set_option maxRecDepth 16384
/-! the faults of a text whose parts' places are told -/
theorem S43 {sh : zSh} {r : Nat} (x y : Int) (V : wSt) : ∃ V', wcl zP 43 [wR r, wI x, wI y] (sh, V) = rI 1 (sh, V') ∧ FrO [r] V V' := by
  rw [w43_0]
  exact ⟨_, rfl, (uI_fr (List.mem_cons_self)).trans (uI_fr (List.mem_cons_self))⟩
theorem bI_not {p : Prop} : (p → bI (¬ p) = 0) ∧ (¬ p → bI (¬ p) = 1) := ⟨fun h => bI_0 (fun w => w h), fun h => bI_1 h⟩
def aSch (f : Int → Int) (e : Int) : Prop := e ≠ 0 ∧ pA (sOk f) (fun k => k) 0 e = 1
theorem S44_8 {sh : zSh} {V : wSt} {r t : Nat} (q : wRo sh V t) (e : Int) (he : e ≤ 200000) : ∀ (n : Nat) (x : Int) (o4 o5 : Option wV), (e - x).toNat = n → 0 ≤ x → ∃ V', wev zP 44 8 [some (wR r), some (wR t), some (wI e), some (wI x), o4, o5] [] (sh, V) = rI (bI (¬ (e ≠ 0 ∧ pA (sOk (gl (tx sh V t))) (fun k => k) x e = 1))) (sh, V') ∧ FrO [r] V V' := by
  intro n
  induction n with
  | zero =>
    intro x o4 o5 hn hx
    have p1 := (pA_st (sOk (gl (tx sh V t))) (fun k => k) x e).1 (by omega)
    rw [w44_8, if_pos (by omega)]
    by_cases c : e = 0
    · obtain ⟨V', e1, f1⟩ := S43 (sh := sh) (r := r) 1 0 V
      rw [if_pos c, e1]
      simp only [wcx_v, wput_s, w44_96]
      rw [if_neg (by decide), bI_not.2 (fun w => w.1 c)]
      exact ⟨V', rfl, f1⟩
    · rw [if_neg c, bI_not.1 ⟨c, p1⟩]; exact ⟨V, rfl, FrO.refl⟩
  | succ n ih =>
    intro x o4 o5 hn hx
    have st := (pA_st (sOk (gl (tx sh V t))) (fun k => k) x e).2 (by omega)
    have so := sOk_st (gl (tx sh V t)) x
    have wx : wr (x + 1) = x + 1 := wr_eq (by clear st so; omega) (by clear st so; omega)
    have e0 : e ≠ 0 := by clear st so; omega
    have d1 : pDig (gl (tx sh V t) x) = 0 ∨ pDig (gl (tx sh V t) x) = 1 := by unfold pDig; split <;> omega
    have l1 : pLet (gl (tx sh V t) x) = 0 ∨ pLet (gl (tx sh V t) x) = 1 := by unfold pLet; split <;> omega
    have go : sOk (gl (tx sh V t)) x = 1 → ∀ o4 o5, ∃ V', wev zP 44 8 [some (wR r), some (wR t), some (wI e), some (wI (x + 1)), o4, o5] [] (sh, V) = rI (bI (¬ (e ≠ 0 ∧ pA (sOk (gl (tx sh V t))) (fun k => k) x e = 1))) (sh, V') ∧ FrO [r] V V' := by
      intro h o4 o5
      obtain ⟨V', e1, f1⟩ := ih (x + 1) o4 o5 (by clear st so; omega) (by clear st so; omega)
      exact ⟨V', by rw [e1, st.1 h], f1⟩
    have bad : sOk (gl (tx sh V t)) x = 0 → ∀ (y : Int) (x4 x5 : Int), ∃ V', wcx (wcl zP 43 [wR r, wI 1, wI y] (sh, V)) (fun v h' => wev zP 44 79 [some (wR r), some (wR t), some (wI e), some (wI x), some (wI x4), some (wI x5)] (wput v []) h') wth = rI (bI (¬ (e ≠ 0 ∧ pA (sOk (gl (tx sh V t))) (fun k => k) x e = 1))) (sh, V') ∧ FrO [r] V V' := by
      intro h y x4 x5
      obtain ⟨V', e1, f1⟩ := S43 (sh := sh) (r := r) 1 y V
      rw [e1]
      simp only [wcx_v, wput_s, w44_79]
      have hp := st.2 (by clear st so; omega)
      rw [bI_not.2 (fun w => by have := w.2; rw [hp] at this; exact absurd this (by decide))]
      exact ⟨V', rfl, f1⟩
    rw [w44_8, if_neg (by clear st so; omega), S57 q]
    simp only [wcx_v, wput_s, w44_18, S85, w44_25, S84, w44_61]
    rw [wx]
    clear ih
    have lt : ∀ lat : Int, (lat = 0 ∨ lat = 1) → (lat = 1 ↔ (pDig (gl (tx sh V t) x) = 1 ∨ gl (tx sh V t) x = 43 ∨ gl (tx sh V t) x = 45 ∨ gl (tx sh V t) x = 46)) → ∃ V', (if pLet (gl (tx sh V t) x) = 0 then if x = 0 then wcx (wcl zP 43 [wR r, wI 1, wI x] (sh, V)) (fun v h' => wev zP 44 79 [some (wR r), some (wR t), some (wI e), some (wI x), some (wI (gl (tx sh V t) x)), some (wI lat)] (wput v []) h') wth else if lat = 0 then wcx (wcl zP 43 [wR r, wI 1, wI x] (sh, V)) (fun v h' => wev zP 44 79 [some (wR r), some (wR t), some (wI e), some (wI x), some (wI (gl (tx sh V t) x)), some (wI lat)] (wput v []) h') wth else wev zP 44 8 [some (wR r), some (wR t), some (wI e), some (wI (x + 1)), some (wI (gl (tx sh V t) x)), some (wI lat)] [] (sh, V) else wev zP 44 8 [some (wR r), some (wR t), some (wI e), some (wI (x + 1)), some (wI (gl (tx sh V t) x)), some (wI lat)] [] (sh, V)) = rI (bI (¬ (e ≠ 0 ∧ pA (sOk (gl (tx sh V t))) (fun k => k) x e = 1))) (sh, V') ∧ FrO [r] V V' := by
      intro lat hl hlat
      by_cases c1 : pLet (gl (tx sh V t) x) = 0
      · have nl : pLet (gl (tx sh V t) x) ≠ 1 := by rw [c1]; decide
        rw [if_pos c1]
        by_cases c2 : x = 0
        · rw [if_pos c2]; exact bad (so.2.1 nl c2) _ _ _
        · rw [if_neg c2]
          by_cases c3 : lat = 0
          · rw [if_pos c3]
            have nn : ¬ (pDig (gl (tx sh V t) x) = 1 ∨ gl (tx sh V t) x = 43 ∨ gl (tx sh V t) x = 45 ∨ gl (tx sh V t) x = 46) := fun w => by have := hlat.mpr w; rw [c3] at this; exact absurd this (by decide)
            exact bad (so.2.2.1 nl (fun w => nn (Or.inl w)) (fun w => nn (Or.inr (Or.inl w))) (fun w => nn (Or.inr (Or.inr (Or.inl w)))) (fun w => nn (Or.inr (Or.inr (Or.inr w))))) _ _ _
          · rw [if_neg c3]
            exact go (so.2.2.2 c2 (hlat.mp (hl.elim (fun w => absurd w c3) id))) _ _
      · rw [if_neg c1]; exact go (so.1 (l1.elim (fun w => absurd w c1) id)) _ _
    rcases d1 with d | d
    · rw [if_pos d]
      by_cases c1 : gl (tx sh V t) x = 43
      · rw [if_pos c1]; exact lt 1 (Or.inr rfl) ⟨fun _ => Or.inr (Or.inl c1), fun _ => rfl⟩
      · rw [if_neg c1]
        by_cases c2 : gl (tx sh V t) x = 45
        · rw [if_pos c2]; exact lt 1 (Or.inr rfl) ⟨fun _ => Or.inr (Or.inr (Or.inl c2)), fun _ => rfl⟩
        · rw [if_neg c2]
          by_cases c3 : gl (tx sh V t) x = 46
          · rw [if_pos c3]; exact lt 1 (Or.inr rfl) ⟨fun _ => Or.inr (Or.inr (Or.inr c3)), fun _ => rfl⟩
          · rw [if_neg c3]; exact lt 0 (Or.inl rfl) ⟨fun w => absurd w (by decide), fun w => w.elim (fun z => by rw [d] at z; exact absurd z (by decide)) (fun z => z.elim (fun y => absurd y c1) (fun z => z.elim (fun y => absurd y c2) (fun y => absurd y c3)))⟩
    · rw [if_neg (by rw [d]; decide)]; exact lt 1 (Or.inr rfl) ⟨fun _ => Or.inl d, fun _ => rfl⟩
theorem S44 {sh : zSh} {V : wSt} {r t : Nat} (h : wRd sh r) (q : wRo sh V t) (he : V (sr sh r 1) 0 ≤ 200000) : ∃ V', wcl zP 44 [wR r, wR t] (sh, V) = rI (bI (¬ aSch (gl (tx sh V t)) (V (sr sh r 1) 0))) (sh, V') ∧ FrO [r] V V' := by
  rw [w44_0, S40 h 0 V (by decide)]
  simp only [wcx_v, wput_s, w44_5]
  exact S44_8 q _ he _ 0 none none rfl (by omega)
theorem S45_2 {sh : zSh} {V : wSt} {r t : Nat} (q : wRo sh V t) : ∀ (n : Nat) (x : Int), (V t 1 - x).toNat = n → 0 ≤ x → ∃ V', wev zP 45 2 [some (wR r), some (wR t), some (wI x)] [] (sh, V) = rI (bI (¬ pA (cOk (gl (tx sh V t))) (fun k => k) x (V t 1) = 1)) (sh, V') ∧ FrO [r] V V' := by
  have z := q.sz
  intro n
  induction n with
  | zero =>
    intro x hn hx
    rw [w45_2, if_pos (by omega), bI_not.1 ((pA_st (cOk (gl (tx sh V t))) (fun k => k) x (V t 1)).1 (by omega))]
    exact ⟨V, rfl, FrO.refl⟩
  | succ n ih =>
    intro x hn hx
    have st := (pA_st (cOk (gl (tx sh V t))) (fun k => k) x (V t 1)).2 (by omega)
    have co := cOk_st (gl (tx sh V t)) x
    have wx : wr (x + 1) = x + 1 := wr_eq (by clear st co; omega) (by clear st co; omega)
    have go : cOk (gl (tx sh V t)) x = 1 → ∃ V', wev zP 45 2 [some (wR r), some (wR t), some (wI (x + 1))] [] (sh, V) = rI (bI (¬ pA (cOk (gl (tx sh V t))) (fun k => k) x (V t 1) = 1)) (sh, V') ∧ FrO [r] V V' := by
      intro h
      obtain ⟨V', e1, f1⟩ := ih (x + 1) (by clear st co; omega) (by clear st co; omega)
      exact ⟨V', by rw [e1, st.1 h], f1⟩
    rw [w45_2, if_neg (by clear st co; omega), S57 q]
    simp only [wcx_v, wput_s, w45_15]
    rw [S72 q x (by clear st co; omega) (by clear st co; omega), wx]
    simp only [wcx_v, wput_s, w45_25]
    rw [wx]
    by_cases c1 : gl (tx sh V t) x = 37
    · rw [if_pos c1]
      by_cases c2 : pCd (gl (tx sh V t)) x = -1
      · obtain ⟨V', e1, f1⟩ := S43 (sh := sh) (r := r) 2 x V
        rw [if_pos c2, e1]
        simp only [wcx_v, wput_s, w45_35]
        have hp := st.2 (by rw [co.1 c1 c2]; decide)
        rw [bI_not.2 (fun w => by rw [hp] at w; exact absurd w (by decide))]
        exact ⟨V', rfl, f1⟩
      · rw [if_neg c2]; exact go (co.2 (Or.inr c2))
    · rw [if_neg c1]; exact go (co.2 (Or.inl c1))
theorem S45 {sh : zSh} {V : wSt} {r t : Nat} (q : wRo sh V t) : ∃ V', wcl zP 45 [wR r, wR t] (sh, V) = rI (bI (¬ pA (cOk (gl (tx sh V t))) (fun k => k) 0 (V t 1) = 1)) (sh, V') ∧ FrO [r] V V' := by
  rw [w45_0]; exact S45_2 q _ 0 rfl (by omega)
/-- the inner round: a part's signs -/
theorem S46_39 {sh : zSh} {V : wSt} {r t : Nat} (q : wRo sh V t) (p e : Int) (hp : p ≤ 6) (he : e ≤ 200000) : ∀ (n : Nat) (x : Int), (e - x).toNat = n → -1 ≤ x → (pA (pMayC p) (gl (tx sh V t)) x e = 1 → ∃ x4, wev zP 46 39 [some (wR r), some (wR t), some (wI p), some (wI e), some (wI x)] [] (sh, V) = wev zP 46 2 [some (wR r), some (wR t), some (wI (wr (p + 1))), some (wI e), some (wI x4)] [] (sh, V)) ∧ (pA (pMayC p) (gl (tx sh V t)) x e ≠ 1 → ∃ V', wev zP 46 39 [some (wR r), some (wR t), some (wI p), some (wI e), some (wI x)] [] (sh, V) = rI 1 (sh, V') ∧ FrO [r] V V') := by
  intro n
  induction n with
  | zero =>
    intro x hn hx
    refine ⟨fun _ => ⟨x, ?_⟩, fun w => absurd ((pA_st (pMayC p) (gl (tx sh V t)) x e).1 (by omega)) w⟩
    rw [w46_39, if_pos (by omega)]
  | succ n ih =>
    intro x hn hx
    have st := (pA_st (pMayC p) (gl (tx sh V t)) x e).2 (by omega)
    have i2 := ih (x + 1) (by clear st; omega) (by clear st; omega)
    have pm := pMay_r p (gl (tx sh V t) x)
    have eq : wev zP 46 39 [some (wR r), some (wR t), some (wI p), some (wI e), some (wI x)] [] (sh, V) = if pMayC p (gl (tx sh V t) x) = 0 then wcx (wcl zP 43 [wR r, wI 3, wI x] (sh, V)) (fun v h' => wev zP 46 65 [some (wR r), some (wR t), some (wI p), some (wI e), some (wI x)] (wput v []) h') wth else wev zP 46 39 [some (wR r), some (wR t), some (wI p), some (wI e), some (wI (x + 1))] [] (sh, V) := by
      rw [w46_39, if_neg (by clear st; omega), S57 q]
      simp only [wcx_v, wput_s, w46_51]
      rw [S92 sh _ p hp V]
      simp only [wcx_v, wput_s, w46_55]
      rw [wr_eq (by clear st; omega) (by clear st; omega)]
    rw [eq]
    rcases pm with c | c
    · rw [if_pos c]
      have h0 := st.2 (by rw [c]; decide)
      refine ⟨fun w => absurd (h0.symm.trans w) (by decide), fun _ => ?_⟩
      obtain ⟨V', e1, f1⟩ := S43 (sh := sh) (r := r) 3 x V
      rw [e1]
      exact ⟨V', by simp only [wcx_v, wput_s, w46_65], f1⟩
    · rw [if_neg (by rw [c]; decide), st.1 c]; exact i2
theorem S46_2 {sh : zSh} {V : wSt} {r t : Nat} (h : wRd sh r) (q : wRo sh V t) (hr : ∀ k : Nat, k < 7 → -1 ≤ V (sr sh r 0) k ∧ V (sr sh r 0) k ≤ 200000 ∧ V (sr sh r 1) k ≤ 200000) : ∀ (n : Nat) (p : Int) (o3 o4 : Option wV), (7 - p).toNat = n → 1 ≤ p → ∃ V', wev zP 46 2 [some (wR r), some (wR t), some (wI p), o3, o4] [] (sh, V) = rI (bI (¬ pA (bOk (gl (tx sh V t)) (V (sr sh r 0)) (V (sr sh r 1))) (fun k => k) p 7 = 1)) (sh, V') ∧ FrO [r] V V' := by
  intro n
  induction n with
  | zero =>
    intro p o3 o4 hn hp
    rw [w46_2, if_pos (by omega), bI_not.1 ((pA_st _ (fun k => k) p 7).1 (by omega))]
    exact ⟨V, rfl, FrO.refl⟩
  | succ n ih =>
    intro p o3 o4 hn hp
    have st := (pA_st (bOk (gl (tx sh V t)) (V (sr sh r 0)) (V (sr sh r 1))) (fun k => k) p 7).2 (by omega)
    have bo := bOk_st (gl (tx sh V t)) (V (sr sh r 0)) (V (sr sh r 1)) p
    have rr := hr p.toNat (by clear st bo; omega)
    obtain ⟨e, hes, hee, heq⟩ : ∃ e : Int, bOk (gl (tx sh V t)) (V (sr sh r 0)) (V (sr sh r 1)) p = pA (pMayC p) (gl (tx sh V t)) (V (sr sh r 0) p.toNat) e ∧ e ≤ 200000 ∧ ∀ o3, wev zP 46 2 [some (wR r), some (wR t), some (wI p), o3, o4] [] (sh, V) = wev zP 46 39 [some (wR r), some (wR t), some (wI p), some (wI e), some (wI (V (sr sh r 0) p.toNat))] [] (sh, V) := by
      by_cases c : p = 2
      · refine ⟨cfn (gl (tx sh V t)) 91 (V (sr sh r 0) p.toNat) (V (sr sh r 1) p.toNat), bo.1 c, ?_, fun o3 => ?_⟩
        · have cr := cfn_r (gl (tx sh V t)) 91 (V (sr sh r 0) p.toNat) (V (sr sh r 1) p.toNat)
          clear st bo
          by_cases w : V (sr sh r 0) p.toNat ≤ V (sr sh r 1) p.toNat
          · have := cr.1 w; omega
          · have := cr.2 (by clear cr; omega); omega
        · rw [w46_2, if_neg (by clear st bo; omega), S40 h p V (by clear st bo; omega)]
          simp only [wcx_v, wput_s, w46_13]
          rw [if_pos c, S39 h p V (by clear st bo; omega)]
          simp only [wcx_v, wput_s, w46_27]
          rw [S68 q 91 _ _ (by clear st bo; omega) (by clear st bo; omega)]
          simp only [wcx_v, wput_s, w46_31]
          rw [S39 h p V (by clear st bo; omega)]
          simp only [wcx_v, wput_s, w46_37]
      · refine ⟨V (sr sh r 1) p.toNat, bo.2 c, rr.2.2, fun o3 => ?_⟩
        rw [w46_2, if_neg (by clear st bo; omega), S40 h p V (by clear st bo; omega)]
        simp only [wcx_v, wput_s, w46_13]
        rw [if_neg c, S39 h p V (by clear st bo; omega)]
        simp only [wcx_v, wput_s, w46_37]
    have inn := S46_39 (r := r) q p e (by clear st bo; omega) hee _ (V (sr sh r 0) p.toNat) rfl rr.1
    rw [heq]
    by_cases c : pA (pMayC p) (gl (tx sh V t)) (V (sr sh r 0) p.toNat) e = 1
    · obtain ⟨x4, e1⟩ := inn.1 c
      obtain ⟨V', e2, f2⟩ := ih (p + 1) (some (wI e)) (some (wI x4)) (by clear st bo; omega) (by clear st bo; omega)
      rw [e1, wr_eq (by clear st bo; omega) (by clear st bo; omega), e2, st.1 (hes.trans c)]
      exact ⟨V', rfl, f2⟩
    · obtain ⟨V', e1, f1⟩ := inn.2 c
      have h0 := st.2 (fun w => c (hes.symm.trans w))
      rw [e1, bI_not.2 (fun w => absurd (h0.symm.trans w) (by decide))]
      exact ⟨V', rfl, f1⟩
theorem S46 {sh : zSh} {V : wSt} {r t : Nat} (h : wRd sh r) (q : wRo sh V t) (hr : ∀ k : Nat, k < 7 → -1 ≤ V (sr sh r 0) k ∧ V (sr sh r 0) k ≤ 200000 ∧ V (sr sh r 1) k ≤ 200000) : ∃ V', wcl zP 46 [wR r, wR t] (sh, V) = rI (bI (¬ pA (bOk (gl (tx sh V t)) (V (sr sh r 0)) (V (sr sh r 1))) (fun k => k) 1 7 = 1)) (sh, V') ∧ FrO [r] V V' := by
  rw [w46_0]; exact S46_2 h q hr _ 1 none none rfl (by omega)
theorem S47 {sh : zSh} {V : wSt} {r t a : Nat} (h : wRd sh r) (ha : wAd sh a) (q : wRo sh V t) (hs : -1 ≤ V (sr sh r 0) 2 ∧ V (sr sh r 0) 2 ≤ V (sr sh r 1) 2 ∧ V (sr sh r 1) 2 ≤ 200000) : ∃ V', wcl zP 47 [wR r, wR t, wR a] (sh, V) = rI (bBr (gl (tx sh V t)) (V (sr sh r 0) 2) (V (sr sh r 1) 2)) (sh, V') ∧ FrO [r, sr sh a 0] V V' := by
  have fe : ∀ {V'}, FrO [r] V V' → FrO [r, sr sh a 0] V V' := fun f => f.mono (fun b hb => by rw [List.mem_singleton.mp hb]; exact List.mem_cons_self)
  have fa : ∀ {W V'}, FrO [sr sh a 0] W V' → FrO [r, sr sh a 0] W V' := fun f => f.mono (fun b hb => by rw [List.mem_singleton.mp hb]; exact List.mem_cons_of_mem _ (List.mem_cons_self))
  obtain ⟨f, hf⟩ : ∃ f, f = gl (tx sh V t) := ⟨_, rfl⟩
  obtain ⟨s, hs0⟩ : ∃ s, s = V (sr sh r 0) 2 := ⟨_, rfl⟩
  obtain ⟨e, he0⟩ : ∃ e, e = V (sr sh r 1) 2 := ⟨_, rfl⟩
  rw [w47_0, S39 h 2 V (by decide)]
  simp only [wcx_v, wput_s, w47_5]
  rw [S40 h 2 V (by decide)]
  simp only [wcx_v, wput_s, w47_11, show (2 : Int).toNat = 2 from rfl]
  rw [← hs0, ← he0] at hs
  rw [← hs0, ← he0, ← hf]
  have cr := (cfn_r f 91 s e).1 hs.2.1
  rw [S68 q 91 s e (by clear cr; omega) (by clear cr; omega), ← hf]
  simp only [wcx_v, wput_s, w47_22]
  obtain ⟨o, ho⟩ : ∃ o, o = cfn f 91 s e := ⟨_, rfl⟩
  have bb : bBr f s e = if o = e then 0 else if o = s ∧ cfn f 93 o e = e - 1 ∧ (bI (cSix f (o + 1) (cfn f 93 o e)) = 1 ∨ bI (cFut f (o + 1) (cfn f 93 o e)) = 1) then 0 else 1 := by rw [ho]; rfl
  rw [bb, ← ho]
  rw [← ho] at cr
  clear bb
  by_cases c : o = e
  · rw [if_pos c, if_pos c]; exact ⟨V, rfl, FrO.refl⟩
  rw [if_neg c, if_neg c, S68 q 93 o e (by omega) (by omega), ← hf]
  simp only [wcx_v, wput_s, w47_43]
  -- the [ can't stand at -1
  have o0 : 0 ≤ o := by
    have hit : f o = 91 := by rw [ho]; unfold cfn; rw [if_pos hs.2.1]; exact fn_hit f 91 hs.2.1 (by have : cfn f 91 s e = fn f 91 s e := if_pos hs.2.1; omega)
    have g := gl_r sh V t o
    rw [← hf, hit] at g
    exact (g.2.2.mp (by decide)).1
  have cr2 := (cfn_r f 93 o e).1 (by omega)
  obtain ⟨k, hk⟩ : ∃ k, k = cfn f 93 o e := ⟨_, rfl⟩
  rw [← hk] at cr2 ⊢
  have m1 : wr (o + 1) = o + 1 := wr_eq (by omega) (by omega)
  have m2 : wr (e - 1) = e - 1 := wr_eq (by omega) (by omega)
  rw [m1, m2]
  obtain ⟨V1, e1, f1⟩ := S8 ha q (o + 1) k (by omega) (by omega)
  rw [← hf] at e1
  obtain ⟨q1, t1, -⟩ := f1.row ha.nr q
  have al : ∃ y : Int, (y = 0 ∨ y = 1) ∧ (y = 1 ↔ o = s ∧ k = e - 1) ∧ (if o = s then if k = e - 1 then wcx (wcl zP 8 [wR a, wR t, wI (o + 1), wI k] (sh, V)) (fun v h' => wev zP 47 78 [some (wR r), some (wR t), some (wR a), some (wI s), some (wI e), some (wI o), some (wI k), some (wI 1), none] (wput v []) h') wth else wcx (wcl zP 8 [wR a, wR t, wI (o + 1), wI k] (sh, V)) (fun v h' => wev zP 47 78 [some (wR r), some (wR t), some (wR a), some (wI s), some (wI e), some (wI o), some (wI k), some (wI 0), none] (wput v []) h') wth else wcx (wcl zP 8 [wR a, wR t, wI (o + 1), wI k] (sh, V)) (fun v h' => wev zP 47 78 [some (wR r), some (wR t), some (wR a), some (wI s), some (wI e), some (wI o), some (wI k), some (wI 0), none] (wput v []) h') wth) = wev zP 47 78 [some (wR r), some (wR t), some (wR a), some (wI s), some (wI e), some (wI o), some (wI k), some (wI y), none] [wI (bI (cSix f (o + 1) k))] (sh, V1) := by
    by_cases d1 : o = s
    · rw [if_pos d1]
      by_cases d2 : k = e - 1
      · rw [if_pos d2, e1]; exact ⟨1, Or.inr rfl, ⟨fun _ => ⟨d1, d2⟩, fun _ => rfl⟩, rfl⟩
      · rw [if_neg d2, e1]; exact ⟨0, Or.inl rfl, ⟨fun w => absurd w (by decide), fun w => absurd w.2 d2⟩, rfl⟩
    · rw [if_neg d1, e1]; exact ⟨0, Or.inl rfl, ⟨fun w => absurd w (by decide), fun w => absurd w.1 d1⟩, rfl⟩
  obtain ⟨y, hy, hyy, eq⟩ := al
  rw [eq, w47_78, m1, S5 q1 (o + 1) k (by clear hyy; omega) (by clear hyy; omega), t1, ← hf]
  simp only [wcx_v, wput_s, w47_91]
  have tell : ∀ x8 : Int, ¬ (o = s ∧ k = e - 1 ∧ (bI (cSix f (o + 1) k) = 1 ∨ bI (cFut f (o + 1) k) = 1)) → ∃ V', wcx (wcl zP 43 [wR r, wI 4, wI o] (sh, V1)) (fun v h' => wev zP 47 118 [some (wR r), some (wR t), some (wR a), some (wI s), some (wI e), some (wI o), some (wI k), some (wI y), some (wI x8)] (wput v []) h') wth = rI (if o = s ∧ k = e - 1 ∧ (bI (cSix f (o + 1) k) = 1 ∨ bI (cFut f (o + 1) k) = 1) then 0 else 1) (sh, V') ∧ FrO [r, sr sh a 0] V V' := by
    intro x8 hn
    obtain ⟨V2, e2, f2⟩ := S43 (sh := sh) (r := r) 4 o V1
    rw [e2]
    simp only [wcx_v, wput_s, w47_118]
    rw [if_neg (by decide), if_neg hn]
    refine ⟨V2, rfl, (fa f1).trans (f2.mono (fun b hb => by rw [List.mem_singleton.mp hb]; exact List.mem_cons_self))⟩
  have fine : (o = s ∧ k = e - 1 ∧ (bI (cSix f (o + 1) k) = 1 ∨ bI (cFut f (o + 1) k) = 1)) → ∃ V', some (Sum.inl (some (wI 0)), (sh, V1)) = rI (if o = s ∧ k = e - 1 ∧ (bI (cSix f (o + 1) k) = 1 ∨ bI (cFut f (o + 1) k) = 1) then 0 else 1) (sh, V') ∧ FrO [r, sr sh a 0] V V' := by
    intro hn
    rw [if_pos hn]; exact ⟨V1, rfl, fa f1⟩
  clear eq e1
  rcases bI_r (cSix f (o + 1) k) with b6 | b6
  · rw [if_pos b6]
    rcases bI_r (cFut f (o + 1) k) with b7 | b7
    · rw [if_pos b7]
      have nn : ¬ (o = s ∧ k = e - 1 ∧ (bI (cSix f (o + 1) k) = 1 ∨ bI (cFut f (o + 1) k) = 1)) := fun w => w.2.2.elim (fun z => absurd (b6.symm.trans z) (by decide)) (fun z => absurd (b7.symm.trans z) (by decide))
      by_cases y0 : y = 0
      · rw [if_pos y0]; exact tell _ nn
      · rw [if_neg y0, if_pos trivial]; exact tell _ nn
    · rw [if_neg (by rw [b7]; decide)]
      rcases hy with hy | hy
      · rw [if_pos hy]; exact tell _ (fun w => by have := hyy.mpr ⟨w.1, w.2.1⟩; rw [hy] at this; exact absurd this (by decide))
      · rw [if_neg (by rw [hy]; decide), if_neg (by decide)]; exact fine ⟨(hyy.mp hy).1, (hyy.mp hy).2, Or.inr b7⟩
  · rw [if_neg (by rw [b6]; decide)]
    rcases hy with hy | hy
    · rw [if_pos hy]; exact tell _ (fun w => by have := hyy.mpr ⟨w.1, w.2.1⟩; rw [hy] at this; exact absurd this (by decide))
    · rw [if_neg (by rw [hy]; decide), if_neg (by decide)]; exact fine ⟨(hyy.mp hy).1, (hyy.mp hy).2, Or.inl b6⟩
def aPrt (f : Int → Int) (s e : Int) : Prop := e - s ≤ 5 ∧ pNm f s e 0 ≤ 65535
theorem S48 {sh : zSh} {V : wSt} {r t : Nat} (h : wRd sh r) (q : wRo sh V t) (hs : -1 ≤ V (sr sh r 0) 3 ∧ V (sr sh r 0) 3 ≤ 200000 ∧ -1 ≤ V (sr sh r 1) 3 ∧ V (sr sh r 1) 3 ≤ 200000) : ∃ V', wcl zP 48 [wR r, wR t] (sh, V) = rI (bI (¬ aPrt (gl (tx sh V t)) (V (sr sh r 0) 3) (V (sr sh r 1) 3))) (sh, V') ∧ FrO [r] V V' := by
  rw [w48_0, S39 h 3 V (by decide)]
  simp only [wcx_v, wput_s, w48_5]
  rw [S40 h 3 V (by decide)]
  simp only [wcx_v, wput_s, w48_11, show (3 : Int).toNat = 3 from rfl]
  rw [wr_eq (by omega) (by omega)]
  have tell : ∀ x4 : Int, ¬ aPrt (gl (tx sh V t)) (V (sr sh r 0) 3) (V (sr sh r 1) 3) → ∃ V', wcx (wcl zP 43 [wR r, wI 5, wI (V (sr sh r 0) 3)] (sh, V)) (fun v h' => wev zP 48 48 [some (wR r), some (wR t), some (wI (V (sr sh r 0) 3)), some (wI (V (sr sh r 1) 3)), some (wI x4)] (wput v []) h') wth = rI (bI (¬ aPrt (gl (tx sh V t)) (V (sr sh r 0) 3) (V (sr sh r 1) 3))) (sh, V') ∧ FrO [r] V V' := by
    intro x4 hn
    obtain ⟨V2, e2, f2⟩ := S43 (sh := sh) (r := r) 5 (V (sr sh r 0) 3) V
    rw [e2]
    simp only [wcx_v, wput_s, w48_48]
    rw [if_neg (by decide), bI_not.2 hn]
    exact ⟨V2, rfl, f2⟩
  by_cases c : 5 < V (sr sh r 1) 3 - V (sr sh r 0) 3
  · rw [if_pos c, if_neg (by decide)]; exact tell 1 (fun w => by have := w.1; omega)
  · rw [if_neg c, S79 q _ _ (by omega) (by omega) (by omega)]
    simp only [wcx_v, wput_s, w48_25]
    by_cases d : pNm (gl (tx sh V t)) (V (sr sh r 0) 3) (V (sr sh r 1) 3) 0 ≤ 65535
    · rw [if_pos d, if_pos trivial, bI_not.1 ⟨by omega, d⟩]; exact ⟨V, rfl, FrO.refl⟩
    · rw [if_neg d, if_neg (by decide)]; exact tell 1 (fun w => d w.2)
/-- no fault at all -/
def aOk (f : Int → Int) (n : Int) (S E : Nat → Int) : Prop := aSch f (E 0) ∧ pA (cOk f) (fun k => k) 0 n = 1 ∧ pA (bOk f S E) (fun k => k) 1 7 = 1 ∧ bBr f (S 2) (E 2) = 0 ∧ aPrt f (S 3) (E 3)
theorem S42 {sh : zSh} {V : wSt} {r t a : Nat} (h : wRd sh r) (ha : wAd sh a) (q : wRo sh V t) (hr : ∀ k : Nat, k < 7 → -1 ≤ V (sr sh r 0) k ∧ V (sr sh r 0) k ≤ V (sr sh r 1) k ∧ V (sr sh r 1) k ≤ 200000) (n1 : sr sh r 0 ≠ sr sh a 0) (n2 : sr sh r 1 ≠ sr sh a 0) :
    ∃ V', wcl zP 42 [wR r, wR t, wR a] (sh, V) = rI (bI (¬ aOk (gl (tx sh V t)) (V t 1) (V (sr sh r 0)) (V (sr sh r 1)))) (sh, V') ∧ FrO [r, sr sh a 0] V V' := by
  have s0 : sr sh r 0 ≠ r := fun e => by have k1 := h.2.1; rw [e, h.1] at k1; cases k1
  have s1 : sr sh r 1 ≠ r := fun e => by have k1 := h.2.2.1; rw [e, h.1] at k1; cases k1
  have nr : nRw sh [r, sr sh a 0] := nRw_s (by rw [h.1]; decide) ha.nr
  have fe : ∀ {W V'}, FrO [r] W V' → FrO [r, sr sh a 0] W V' := fun f => f.mono (fun b hb => by rw [List.mem_singleton.mp hb]; exact List.mem_cons_self)
  have same : ∀ {W}, FrO [r, sr sh a 0] V W → W (sr sh r 0) = V (sr sh r 0) ∧ W (sr sh r 1) = V (sr sh r 1) ∧ wRo sh W t ∧ tx sh W t = tx sh V t ∧ W t 1 = V t 1 := fun {W} f => by
    obtain ⟨q1, t1, v1⟩ := f.row nr q
    have m : ∀ x, x ≠ r → x ≠ sr sh a 0 → W x = V x := fun x h1 h2 => f x (fun w => (List.mem_cons.mp w).elim h1 (fun z => h2 (List.mem_singleton.mp z)))
    exact ⟨m _ s0 n1, m _ s1 n2, q1, t1, by rw [v1]⟩
  have bad : ∀ {P : Prop} {W}, ¬ P → FrO [r, sr sh a 0] V W → ∃ V', rI 1 (sh, W) = rI (bI (¬ P)) (sh, V') ∧ FrO [r, sr sh a 0] V V' := fun hp f => ⟨_, by rw [bI_not.2 hp], f⟩
  have h0 := hr 0 (by decide)
  rw [w42_0]
  obtain ⟨V1, e1, f1⟩ := S44 h q (by omega)
  rw [e1]
  simp only [wcx_v, wput_s, w42_5]
  by_cases c1 : aSch (gl (tx sh V t)) (V (sr sh r 1) 0)
  rotate_left
  · rw [bI_not.2 c1, if_neg (by decide)]; exact bad (fun w => c1 w.1) (fe f1)
  obtain ⟨x0, x1, q1, t1, l1⟩ := same (fe f1)
  rw [bI_not.1 c1, if_pos rfl]
  obtain ⟨V2, e2, f2⟩ := S45 (r := r) q1
  rw [e2, t1, l1]
  simp only [wcx_v, wput_s, w42_13]
  by_cases c2 : pA (cOk (gl (tx sh V t))) (fun k => k) 0 (V t 1) = 1
  rotate_left
  · rw [bI_not.2 c2, if_neg (by decide)]; exact bad (fun w => c2 w.2.1) ((fe f1).trans (fe f2))
  obtain ⟨x0, x1, q2, t2, l2⟩ := same ((fe f1).trans (fe f2))
  rw [bI_not.1 c2, if_pos rfl]
  obtain ⟨V3, e3, f3⟩ := S46 h q2 (fun k hk => by have := hr k hk; rw [x0, x1]; omega)
  rw [e3, t2, x0, x1]
  simp only [wcx_v, wput_s, w42_21]
  by_cases c3 : pA (bOk (gl (tx sh V t)) (V (sr sh r 0)) (V (sr sh r 1))) (fun k => k) 1 7 = 1
  rotate_left
  · rw [bI_not.2 c3, if_neg (by decide)]; exact bad (fun w => c3 w.2.2.1) (((fe f1).trans (fe f2)).trans (fe f3))
  obtain ⟨x0, x1, q3, t3, l3⟩ := same (((fe f1).trans (fe f2)).trans (fe f3))
  rw [bI_not.1 c3, if_pos rfl]
  obtain ⟨V4, e4, f4⟩ := S47 h ha q3 (by rw [x0, x1]; exact hr 2 (by decide))
  rw [e4, t3, x0, x1]
  simp only [wcx_v, wput_s, w42_30]
  by_cases c4 : bBr (gl (tx sh V t)) (V (sr sh r 0) 2) (V (sr sh r 1) 2) = 0
  rotate_left
  · rw [if_neg c4]; exact bad (fun w => c4 w.2.2.2.1) ((((fe f1).trans (fe f2)).trans (fe f3)).trans f4)
  obtain ⟨x0, x1, q4, t4, l4⟩ := same ((((fe f1).trans (fe f2)).trans (fe f3)).trans f4)
  rw [if_pos c4]
  obtain ⟨V5, e5, f5⟩ := S48 h q4 (by rw [x0, x1]; have := hr 3 (by decide); omega)
  rw [e5, t4, x0, x1]
  simp only [wcx_v, wput_s, w42_38]
  by_cases c5 : aPrt (gl (tx sh V t)) (V (sr sh r 0) 3) (V (sr sh r 1) 3)
  rotate_left
  · rw [bI_not.2 c5, if_neg (by decide)]; exact bad (fun w => c5 w.2.2.2.2) (((((fe f1).trans (fe f2)).trans (fe f3)).trans f4).trans (fe f5))
  rw [bI_not.1 c5, if_pos rfl, bI_not.1 (show aOk _ _ _ _ from ⟨c1, c2, c3, c4, c5⟩)]
  exact ⟨V5, rfl, ((((fe f1).trans (fe f2)).trans (fe f3)).trans f4).trans (fe f5)⟩
