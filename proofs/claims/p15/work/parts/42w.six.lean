set_option maxRecDepth 16384
/-! what stays: all but some objects -/
def FrO (os : List Nat) (V V' : wSt) : Prop := ∀ b, b ∉ os → V' b = V b
theorem FrO.refl {os : List Nat} {V : wSt} : FrO os V V := fun _ _ => rfl
theorem FrO.trans {os : List Nat} {V V' W : wSt} (h : FrO os V V') (g : FrO os V' W) : FrO os V W := fun b n => (g b n).trans (h b n)
theorem FrO.mono {os os' : List Nat} {V V' : wSt} (h : FrO os V V') (s : ∀ a, a ∈ os → a ∈ os') : FrO os' V V' := fun b n => h b (fun y => n (s b y))
def nRw (sh : zSh) (os : List Nat) : Prop := ∀ a, a ∈ os → (sk sh a).1 ≠ 13 ∧ (sk sh a).1 ≠ 1
theorem nRw_0 (sh : zSh) : nRw sh [] := fun a h => by cases h
theorem nRw_s {sh : zSh} {os : List Nat} {a : Nat} (h : (sk sh a).1 ≠ 13 ∧ (sk sh a).1 ≠ 1) (g : nRw sh os) : nRw sh (a :: os) := fun b hb => by
  rcases List.mem_cons.mp hb with e | e
  · rw [e]; exact h
  · exact g b e
theorem nRw_no {sh : zSh} {os : List Nat} (g : nRw sh os) {r : Nat} (q : zRow sh r) : r ∉ os ∧ sr sh r 0 ∉ os :=
  ⟨fun h => (g r h).1 (by rw [q.1]), fun h => (g _ h).2 q.2.1⟩
theorem tx_cg {sh : zSh} {V V' : wSt} {r : Nat} (h1 : V' r = V r) (h2 : V' (sr sh r 0) = V (sr sh r 0)) : tx sh V' r = tx sh V r := by unfold tx; rw [h1, h2]
theorem wRo_cg {sh : zSh} {V V' : wSt} {r : Nat} (h1 : V' r = V r) (q : wRo sh V r) : wRo sh V' r := by unfold wRo; rw [h1]; exact q
theorem FrO.row {sh : zSh} {os : List Nat} {V V' : wSt} (h : FrO os V V') (g : nRw sh os) {r : Nat} (q : wRo sh V r) : wRo sh V' r ∧ tx sh V' r = tx sh V r ∧ V' r = V r := by
  obtain ⟨n1, n2⟩ := nRw_no g q.1
  exact ⟨wRo_cg (h _ n1) q, tx_cg (h _ n1) (h _ n2), h _ n1⟩
theorem uI_fr {os : List Nat} {V : wSt} {a k : Nat} {x : Int} (h : a ∈ os) : FrO os V (uI V a k x) := fun b n => by
  funext j; unfold uI; rw [if_neg (fun c => n (by rw [c.1]; exact h))]
/-! addresses -/
def wAd (sh : zSh) (a : Nat) : Prop := sk sh (sr sh a 0) = (2, 8)
theorem wAd.nr {sh : zSh} {a : Nat} (h : wAd sh a) : nRw sh [sr sh a 0] := nRw_s (by rw [h]; decide) (nRw_0 sh)
theorem wAd.cap {sh : zSh} {a : Nat} (h : wAd sh a) : wr (((sk sh (sr sh a 0)).2 : Nat) : Int) = 8 := by rw [h]; rfl
def sG (sh : zSh) (V : wSt) (a : Nat) (k x : Int) : wSt := if 0 ≤ k ∧ k < 8 then uI V (sr sh a 0) k.toNat x else V
theorem sG_fr (sh : zSh) (V : wSt) (a : Nat) (k x : Int) : FrO [sr sh a 0] V (sG sh V a k x) := by
  unfold sG; split
  · exact uI_fr (List.mem_cons_self)
  · exact FrO.refl
theorem S4 {sh : zSh} {a : Nat} (h : wAd sh a) (k x : Int) (V : wSt) : wcl zP 4 [wR a, wI k, wI x] (sh, V) = rN (sh, sG sh V a k x) := by
  rw [w4_0, h.cap]; unfold sG
  by_cases c : k < 0
  · rw [if_pos c, if_neg (by omega)]
  · rw [if_neg c]
    by_cases d : 8 ≤ k
    · rw [if_pos d, if_neg (by omega)]
    · rw [if_neg d, if_pos (by omega)]
theorem S3 {sh : zSh} {a : Nat} (h : wAd sh a) (k : Int) (V : wSt) : wcl zP 3 [wR a, wI k] (sh, V) = rI (if 0 ≤ k ∧ k < 8 then V (sr sh a 0) k.toNat else 0) (sh, V) := by
  rw [w3_0, h.cap]
  by_cases c : k < 0
  · rw [if_pos c, if_neg (by omega)]
  · rw [if_neg c]
    by_cases d : 8 ≤ k
    · rw [if_pos d, if_neg (by omega)]
    · rw [if_neg d, if_pos (by omega)]
/-- the bits of four numbers -/
def FBA (f : Int → Int) (e : Int) : Nat → Int → Int → Int
  | 0, i, b => wor (wshl b 8) (dNm f i e 0)
  | n + 1, i, b => FBA f e n (cfn f 46 i e + 1) (wor (wshl b 8) (dNm f i (cfn f 46 i e) 0))
def FB (f : Int → Int) (e k i b : Int) : Int := if 4 ≤ k then b else FBA f e (3 - k).toNat i b
theorem FB_st (f : Int → Int) (e k i b : Int) : (4 ≤ k → FB f e k i b = b) ∧ (k < 3 → FB f e k i b = FB f e (k + 1) (cfn f 46 i e + 1) (wor (wshl b 8) (dNm f i (cfn f 46 i e) 0))) ∧ (k = 3 → FB f e k i b = FB f e (k + 1) (e + 1) (wor (wshl b 8) (dNm f i e 0))) := by
  unfold FB
  refine ⟨fun h => if_pos h, fun h => ?_, fun h => ?_⟩
  · rw [if_neg (by omega), if_neg (by omega), show (3 - k).toNat = (3 - (k + 1)).toNat + 1 by omega, FBA]
  · rw [if_neg (by omega), if_pos (by omega), show (3 - k).toNat = 0 by omega, FBA]
theorem dNm_nn {f : Int → Int} {i s : Int} (h4 : pAll pDig f i s) : ∀ (m : Nat) (x v : Int), (s - x).toNat = m → 0 ≤ v → i ≤ x → 0 ≤ dNm f x s v := by
  intro m
  induction m with
  | zero => intro x v h1 h2 h3; rw [dNm_e (by omega)]; exact h2
  | succ m ih =>
    intro x v h1 h2 h3
    have := (pDig_st _).1 (h4 x h3 (by omega))
    rw [dNm_y rfl (by omega)]; exact ih _ _ (by omega) (by omega) (by omega)
theorem nU_01 (f : Int → Int) (i s : Int) : (bI (cN f i s) = 0 ∧ nU f i s = -1) ∨ (bI (cN f i s) = 1 ∧ nU f i s = dNm f i s 0 ∧ nU f i s ≠ -1) := by
  rcases bI_r (cN f i s) with hb | hb
  · exact Or.inl ⟨hb, (nU_st f i s).2 (bI_n.mp hb)⟩
  · have d0 := (nU_st f i s).1 (bI_i.mp hb)
    have := dNm_nn ((pA_all _ _ _ rfl).mp ((cN_i _ _ _).mp (bI_i.mp hb)).2.2.2.1) _ i 0 rfl (by omega) (by omega)
    exact Or.inr ⟨hb, d0, by omega⟩
noncomputable def R6 (sh : zSh) (V : wSt) (a : Nat) (f : Int → Int) (e g k i b : Int) : Option wO := if FO f e k i = 1 then rI (if g ≤ 6 then 1 else 0) (sh, sG sh (sG sh V a g (wush (FB f e k i b) 16)) a (g + 1) (wand (FB f e k i b) 65535)) else rI 0 (sh, V)
theorem R6_st {sh : zSh} {V : wSt} {a : Nat} {f : Int → Int} {e g k i b s : Int} (f1 : bI (cN f i s) = 1 → FO f e k i = FO f e (k + 1) (s + 1)) (f0 : bI (cN f i s) = 0 → FO f e k i = 0) (f2 : FB f e k i b = FB f e (k + 1) (s + 1) (wor (wshl b 8) (dNm f i s 0))) : (nU f i s = -1 ∧ R6 sh V a f e g k i b = rI 0 (sh, V)) ∨ (nU f i s ≠ -1 ∧ R6 sh V a f e g k i b = R6 sh V a f e g (k + 1) (s + 1) (wor (wshl b 8) (nU f i s))) := by
  rcases nU_01 f i s with h | h
  · refine Or.inl ⟨h.2, ?_⟩; unfold R6; rw [f0 h.1, if_neg (by decide)]
  · refine Or.inr ⟨h.2.2, ?_⟩; unfold R6; rw [f1 h.1, f2, h.2.1]
theorem S6_9 {sh : zSh} {V : wSt} {a r : Nat} (h : wAd sh a) (q : wRo sh V r) (e g i0 : Int) (he : -1 ≤ e ∧ e ≤ 200000) (hg : 0 ≤ g ∧ g ≤ 20) : ∀ (n : Nat) (k i b : Int) (o o2 : Option wV), (4 - k).toNat = n → 0 ≤ k → k ≤ 4 → -1 ≤ i ∧ i ≤ 200001 → wev zP 6 9 [some (wR a), some (wR r), some (wI i0), some (wI e), some (wI g), some (wI b), some (wI i), some (wI k), o, o2] [] (sh, V) = R6 sh V a (gl (tx sh V r)) e g k i b := by
  intro n
  induction n with
  | zero =>
    intro k i b o o2 hn h0 h4 hi
    rw [w6_9, if_pos (by omega)]
    simp only [S4 h, wcx_v, wput_n, w6_87, w6_100]
    rw [h.cap, wr_eq (x := g + 1) (by omega) (by omega), wr_eq (x := g + 2) (by omega) (by omega)]
    unfold R6
    rw [(FO_st (gl (tx sh V r)) e k i).1 (by omega), if_pos rfl, (FB_st _ e k i b).1 (by omega)]
    by_cases c : 8 < g + 2
    · rw [if_pos c, if_neg (by omega)]
    · rw [if_neg c, if_pos (by omega)]
  | succ n ih =>
    intro k i b o o2 hn h0 h4 hi
    rw [w6_9, if_neg (by omega)]
    by_cases c : 3 ≤ k
    · rw [if_pos c]
      simp only [S7 q i e (by omega) (by omega), wcx_v, wput_s, w6_44]
      have fo3 := (FO_st (gl (tx sh V r)) e k i).2.2 (by omega)
      rcases R6_st (sh := sh) (V := V) (a := a) (g := g) (b := b) fo3.1 fo3.2 ((FB_st (gl (tx sh V r)) e k i b).2.2 (by clear fo3; omega)) with w | w
      · rw [if_pos w.1, w.2]
      · clear fo3
        rw [if_neg w.1, w.2]; clear w
        rw [wr_eq (by omega) (by omega), wr_eq (by omega) (by omega), ih _ _ _ _ _ (by omega) (by omega) (by omega) (by omega)]
    · rw [if_neg c]
      have cr2 : -1 ≤ cfn (gl (tx sh V r)) 46 i e ∧ cfn (gl (tx sh V r)) 46 i e ≤ 200000 := by
        have cr := cfn_r (gl (tx sh V r)) 46 i e
        by_cases w : i ≤ e
        · have := cr.1 w; omega
        · have := cr.2 (by omega); omega
      simp only [S68 q 46 i e (by omega) (by omega), wcx_v, wput_s, w6_30]
      rw [S7 q i _ (by omega) (by omega)]
      simp only [wcx_v, wput_s, w6_44]
      have fo3 := (FO_st (gl (tx sh V r)) e k i).2.1 (by omega)
      rcases R6_st (sh := sh) (V := V) (a := a) (g := g) (b := b) fo3.1 fo3.2 ((FB_st (gl (tx sh V r)) e k i b).2.1 (by clear fo3; omega)) with w | w
      · rw [if_pos w.1, w.2]
      · clear fo3
        rw [if_neg w.1, w.2]; clear w
        rw [wr_eq (by omega) (by omega), wr_eq (by omega) (by omega), ih _ _ _ _ _ (by omega) (by omega) (by omega) (by omega)]
theorem S6 {sh : zSh} {V : wSt} {a r : Nat} (h : wAd sh a) (q : wRo sh V r) (i e g : Int) (hi : -1 ≤ i ∧ i ≤ 200001) (he : -1 ≤ e ∧ e ≤ 200000) (hg : 0 ≤ g ∧ g ≤ 20) : wcl zP 6 [wR a, wR r, wI i, wI e, wI g] (sh, V) = if bI (cF (gl (tx sh V r)) i e) = 1 then rI (if g ≤ 6 then 1 else 0) (sh, sG sh (sG sh V a g (wush (FB (gl (tx sh V r)) e 0 i 0) 16)) a (g + 1) (wand (FB (gl (tx sh V r)) e 0 i 0) 65535)) else rI 0 (sh, V) := by
  rw [w6_0, S6_9 h q e g i he hg _ 0 i 0 _ _ rfl (by omega) (by omega) hi]
  unfold R6; rw [FO_cF]
/-- the number of a group -/
def hNmA (f : Int → Int) : Nat → Int → Int → Int
  | 0, _, v => v
  | n + 1, k, v => hNmA f n (k + 1) (16 * v + pHex (f k))
def hNm (f : Int → Int) (k e v : Int) : Int := hNmA f (e - k).toNat k v
theorem hNm_st (f : Int → Int) (k e v : Int) : (e ≤ k → hNm f k e v = v) ∧ (k < e → hNm f k e v = hNm f (k + 1) e (16 * v + pHex (f k))) := by
  unfold hNm
  refine ⟨fun h => ?_, fun h => ?_⟩
  · rw [show (e - k).toNat = 0 by omega]; rfl
  · rw [show (e - k).toNat = (e - (k + 1)).toNat + 1 by omega]; rfl
theorem S10_22 {sh : zSh} {V : wSt} {a r : Nat} (h : wAd sh a) (q : wRo sh V r) (i e g : Int) (hi : -1 ≤ i ∧ i ≤ 200001) (he : -1 ≤ e ∧ e ≤ 200000) (hd : e - i ≤ 4) : ∀ (n : Nat) (x v : Int) (o : Option wV), (e - x).toNat = n → i ≤ x → 0 ≤ v → (x = i → v ≤ 0) → (x = i + 1 → v ≤ 15) → (x = i + 2 → v ≤ 255) → (x = i + 3 → v ≤ 4095) → wev zP 10 22 [some (wR a), some (wR r), some (wI i), some (wI e), some (wI g), some (wI v), some (wI x), o] [] (sh, V) = if pA pHx (gl (tx sh V r)) x e = 1 then rI (if g ≤ 7 then 1 else 0) (sh, sG sh V a g (hNm (gl (tx sh V r)) x e v)) else rI 0 (sh, V) := by
  intro n
  induction n with
  | zero =>
    intro x v o hn hx hv b0 b1 b2 b3
    rw [w10_22, if_pos (by omega), (pA_st pHx _ x e).1 (by omega), if_pos rfl, (hNm_st _ x e v).1 (by omega)]
    simp only [S4 h, wcx_v, wput_n, w10_71]
    rw [h.cap]
    by_cases c : 8 ≤ g
    · rw [if_pos c, if_neg (by omega)]
    · rw [if_neg c, if_pos (by omega)]
  | succ n ih =>
    intro x v o hn hx hv b0 b1 b2 b3
    have st := (pA_st pHx (gl (tx sh V r)) x e).2 (by omega)
    have ph := pHx_st (gl (tx sh V r) x)
    have p1 := pHex_r (gl (tx sh V r) x)
    rw [w10_22, if_neg (by omega), S57 q]
    simp only [wcx_v, wput_s, w10_34, S88, w10_37]
    by_cases c : pHex (gl (tx sh V r) x) = -1
    · have := ph.2 (by omega)
      rw [if_pos c, st.2 (by omega), if_neg (by omega)]
    · rw [if_neg c, wr_eq (x := 16 * v) (by omega) (by omega), wr_eq (x := 16 * v + _) (by omega) (by omega), wr_eq (by omega) (by omega), ih _ _ _ (by omega) (by omega) (by omega) (by omega) (by omega) (by omega) (by omega), st.1 (ph.1 (by omega)), (hNm_st _ x e v).2 (by omega)]
theorem S10 {sh : zSh} {V : wSt} {a r : Nat} (h : wAd sh a) (q : wRo sh V r) (i e g : Int) (hi : -1 ≤ i ∧ i ≤ 200001) (he : -1 ≤ e ∧ e ≤ 200000) : wcl zP 10 [wR a, wR r, wI i, wI e, wI g] (sh, V) = if bI (pG (gl (tx sh V r)) i e) = 1 then rI (if g ≤ 7 then 1 else 0) (sh, sG sh V a g (hNm (gl (tx sh V r)) i e 0)) else rI 0 (sh, V) := by
  have pi := pG_i (gl (tx sh V r)) i e
  rw [w10_0, wr_eq (by omega) (by omega)]
  by_cases c : e - i < 1
  · rw [if_pos c, bI_0 (fun w => by have := (pi.mp w).1; omega), if_neg (by omega)]
  · rw [if_neg c]
    by_cases d : e - i ≤ 4
    · rw [if_pos d, S10_22 h q i e g hi he d _ i 0 _ rfl (by omega) (by omega) (by omega) (by omega) (by omega) (by omega)]
      by_cases w : pA pHx (gl (tx sh V r)) i e = 1
      · rw [if_pos w, bI_1 (pi.mpr ⟨by omega, d, w⟩), if_pos rfl]
      · rw [if_neg w, bI_0 (fun z => w (pi.mp z).2.2), if_neg (by omega)]
    · rw [if_neg d, bI_0 (fun w => by have := (pi.mp w).2.1; omega), if_neg (by omega)]
/-! the groups behind the gap go to the end -/
theorem S11_49 {sh : zSh} {a : Nat} (h : wAd sh a) (c g m : Int) (hg : 0 ≤ g ∧ g ≤ 20) (hm : 0 ≤ m ∧ m ≤ 20) : ∀ (n : Nat) (x : Int) (V : wSt), (g + m - x).toNat = n → 0 ≤ x → ∃ V', wev zP 11 49 [some (wR a), some (wI c), some (wI g), some (wI m), some (wI x)] [] (sh, V) = rI 1 (sh, V') ∧ FrO [sr sh a 0] V V' ∧ ∀ j : Nat, V' (sr sh a 0) j = if x ≤ j ∧ (j : Int) < g + m ∧ j < 8 then 0 else V (sr sh a 0) j := by
  intro n
  induction n with
  | zero =>
    intro x V hn hx
    refine ⟨V, ?_, FrO.refl, fun j => ?_⟩
    · rw [w11_49, wr_eq (by omega) (by omega), if_pos (by omega)]
    · rw [if_neg (by omega)]
  | succ n ih =>
    intro x V hn hx
    obtain ⟨V', e1, f1, v1⟩ := ih (x + 1) (sG sh V a x 0) (by omega) (by omega)
    refine ⟨V', ?_, (sG_fr sh V a x 0).trans f1, fun j => ?_⟩
    · rw [w11_49, wr_eq (by omega) (by omega), if_neg (by omega)]
      simp only [S4 h, wcx_v, wput_n, w11_64]
      rw [wr_eq (by omega) (by omega), e1]
    · rw [v1]
      by_cases c1 : x + 1 ≤ j ∧ (j : Int) < g + m ∧ j < 8
      · rw [if_pos c1, if_pos (by omega)]
      · rw [if_neg c1]; unfold sG
        by_cases c2 : 0 ≤ x ∧ x < 8
        · rw [if_pos c2]; unfold uI
          by_cases c3 : j = x.toNat
          · rw [if_pos ⟨rfl, c3⟩, if_pos (by omega)]
          · rw [if_neg (fun z => c3 z.2), if_neg (by omega)]
        · rw [if_neg c2, if_neg (by omega)]
theorem S11_20 {sh : zSh} {a : Nat} (h : wAd sh a) (c g m : Int) (hc : 0 ≤ c ∧ c ≤ 8) (hg : 0 ≤ g ∧ g ≤ c) (hm : m = 8 - c) (hm1 : 1 ≤ m) : ∀ (n : Nat) (x : Int) (V : wSt), (x + 1 - g).toNat = n → -1 ≤ x ∧ x < c → g - 1 ≤ x → ∃ V', wev zP 11 20 [some (wR a), some (wI c), some (wI g), some (wI m), some (wI x)] [] (sh, V) = rI 1 (sh, V') ∧ FrO [sr sh a 0] V V' ∧ ∀ j : Nat, V' (sr sh a 0) j = if g ≤ j ∧ (j : Int) < g + m then 0 else if g + m ≤ j ∧ (j : Int) ≤ x + m then V (sr sh a 0) (j - m.toNat) else V (sr sh a 0) j := by
  intro n
  induction n with
  | zero =>
    intro x V hn hx hgx
    obtain ⟨V', e1, f1, v1⟩ := S11_49 h c g m (by omega) (by omega) _ g V rfl hg.1
    refine ⟨V', ?_, f1, fun j => ?_⟩
    · rw [w11_20, if_pos (by omega), e1]
    · rw [v1]
      by_cases c1 : g ≤ j ∧ (j : Int) < g + m ∧ j < 8
      · rw [if_pos c1, if_pos (by omega)]
      · rw [if_neg c1, if_neg (by omega), if_neg (by omega)]
  | succ n ih =>
    intro x V hn hx hgx
    obtain ⟨V', e1, f1, v1⟩ := ih (x - 1) (sG sh V a (x + m) (V (sr sh a 0) x.toNat)) (by omega) (by omega) (by omega)
    refine ⟨V', ?_, (sG_fr sh V a _ _).trans f1, fun j => ?_⟩
    · rw [w11_20, if_neg (by omega)]
      simp only [S3 h, wcx_v, wput_s, w11_37, S4 h, wput_n, w11_40]
      rw [if_pos (by omega), wr_eq (x := x + m) (by omega) (by omega), wr_eq (by omega) (by omega), show x + -1 = x - 1 from rfl, e1]
    · have e : ∀ k : Nat, (sG sh V a (x + m) (V (sr sh a 0) x.toNat)) (sr sh a 0) k = if (k : Int) = x + m then V (sr sh a 0) x.toNat else V (sr sh a 0) k := by
        intro k; unfold sG; rw [if_pos (by omega)]; unfold uI
        by_cases c3 : (k : Int) = x + m
        · rw [if_pos ⟨rfl, by omega⟩, if_pos c3]
        · rw [if_neg (fun z => c3 (by omega)), if_neg c3]
      rw [v1, e, e]
      by_cases c1 : g ≤ j ∧ (j : Int) < g + m
      · rw [if_pos c1, if_pos c1]
      · rw [if_neg c1, if_neg c1]
        by_cases c2 : g + m ≤ j ∧ (j : Int) ≤ x - 1 + m
        · rw [if_pos c2, if_neg (by omega), if_pos (by omega)]
        · rw [if_neg c2]
          by_cases c3 : (j : Int) = x + m
          · rw [if_pos c3, if_pos (by omega), show j - m.toNat = x.toNat by omega]
          · rw [if_neg c3, if_neg (by omega)]
theorem S11 {sh : zSh} {a : Nat} (h : wAd sh a) (c g : Int) (V : wSt) (hc : 0 ≤ c ∧ c ≤ 10) (hg : 0 ≤ g ∧ g ≤ c) : ∃ V', wcl zP 11 [wR a, wI c, wI g] (sh, V) = rI (if c ≤ 7 then 1 else 0) (sh, V') ∧ FrO [sr sh a 0] V V' ∧ (c ≤ 7 → ∀ j : Nat, V' (sr sh a 0) j = if g ≤ j ∧ (j : Int) < g + (8 - c) then 0 else if g + (8 - c) ≤ j ∧ (j : Int) ≤ 7 then V (sr sh a 0) (j - (8 - c).toNat) else V (sr sh a 0) j) := by
  by_cases d : c ≤ 7
  · obtain ⟨V', e1, f1, v1⟩ := S11_20 h c g (8 - c) (by omega) hg rfl (by omega) _ (c - 1) V rfl (by omega) (by omega)
    refine ⟨V', ?_, f1, fun _ j => ?_⟩
    · rw [w11_0, h.cap, wr_eq (x := 8 - c) (by omega) (by omega), if_pos (by omega), wr_eq (by omega) (by omega), e1, if_pos d]
    · rw [v1, show c - 1 + (8 - c) = 7 by omega]
  · refine ⟨V, ?_, FrO.refl, fun z => absurd z d⟩
    rw [w11_0, h.cap, wr_eq (x := 8 - c) (by omega) (by omega), if_neg (by omega), if_neg d]
