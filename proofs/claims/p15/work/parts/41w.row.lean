set_option maxRecDepth 16384
/-! rows of the program: the text that a row holds -/
def tx (sh : zSh) (V : wSt) (r : Nat) : List Int := (List.range (V r 1).toNat).map (fun k => wand (V (sr sh r 0) k) 255)
def gl (L : List Int) (k : Int) : Int := if k < 0 then -1 else L.getD k.toNat (-1)

def wRo (sh : zSh) (V : wSt) (r : Nat) : Prop := zRow sh r ∧ 0 ≤ V r 1 ∧ V r 1 ≤ ((sk sh (sr sh r 0)).2 : Int) ∧ (V r 2 = 0 ∨ V r 2 = 1)
theorem wRo.sz {sh : zSh} {V : wSt} {r : Nat} (q : wRo sh V r) : 0 ≤ V r 1 ∧ V r 1 ≤ 100000 ∧ V r 1 ≤ ((sk sh (sr sh r 0)).2 : Int) ∧ ((sk sh (sr sh r 0)).2 : Int) ≤ 100000 := by
  have := q.1.2.2; have := q.2; omega
theorem wand_255 (v : Int) : 0 ≤ wand v 255 ∧ wand v 255 ≤ 255 := by
  have h2 : ((oI v &&& oI 255).toBitVec).toNat ≤ 255 := by
    show ((oI v).toBitVec &&& (255 : Int32).toBitVec).toNat ≤ 255
    rw [BitVec.toNat_and]; exact Nat.and_le_right
  have h1 : (oI v &&& oI 255).toInt = ((oI v &&& oI 255).toBitVec.toNat : Int) := by
    show (oI v &&& oI 255).toBitVec.toInt = _
    rw [BitVec.toInt_eq_toNat_cond, if_pos (by omega)]
  unfold wand; omega
theorem tx_len (sh : zSh) (V : wSt) (r : Nat) : (tx sh V r).length = (V r 1).toNat := by unfold tx; rw [List.length_map, List.length_range]
theorem gl_tx (sh : zSh) (V : wSt) (r : Nat) (k : Int) : gl (tx sh V r) k = if 0 ≤ k ∧ k < V r 1 then wand (V (sr sh r 0) k.toNat) 255 else -1 := by
  unfold gl tx
  by_cases c : k < 0
  · rw [if_pos c, if_neg (by omega)]
  · rw [if_neg c, List.getD_eq_getElem?_getD, List.getElem?_map]
    by_cases d : k < V r 1
    · rw [if_pos (by omega), List.getElem?_range (by omega)]; rfl
    · rw [if_neg (by omega), List.getElem?_eq_none (by rw [List.length_range]; omega)]; rfl
theorem gl_r (sh : zSh) (V : wSt) (r : Nat) (k : Int) : -1 ≤ gl (tx sh V r) k ∧ gl (tx sh V r) k ≤ 255 ∧ (0 ≤ gl (tx sh V r) k ↔ 0 ≤ k ∧ k < V r 1) := by
  rw [gl_tx]; have := wand_255 (V (sr sh r 0) k.toNat)
  split <;> omega
theorem S57 {sh : zSh} {V : wSt} {r : Nat} (q : wRo sh V r) (x : Int) : wcl zP 57 [wR r, wI x] (sh, V) = rI (gl (tx sh V r) x) (sh, V) := by
  have z := q.sz
  rw [w57_0, wr_eq (by omega) (by omega), gl_tx]
  simp only [ite_rI]; refine rI_cg ?_
  (repeat' split) <;> omega
theorem S68_3 {sh : zSh} {V : wSt} {r : Nat} (q : wRo sh V r) (b a0 e : Int) (he : e ≤ 2147483647) : ∀ (n : Nat) (x : Int), (e - x).toNat = n → -2147483648 ≤ x → wev zP 68 3 [some (wR r), some (wI b), some (wI a0), some (wI e), some (wI x)] [] (sh, V) = rI (cfn (gl (tx sh V r)) b x e) (sh, V) := by
  intro n
  induction n with
  | zero => intro x hn hx; rw [w68_3, if_pos (by omega), (cfn_st _ b x e).1 (by omega)]
  | succ n ih =>
    intro x hn hx
    have st := (cfn_st (gl (tx sh V r)) b x e).2 (by omega)
    rw [w68_3, if_neg (by omega), S57 q]
    simp only [wcx_v, wput_s, w68_15]
    by_cases c : gl (tx sh V r) x = b
    · rw [if_pos c, st.1 c]
    · rw [if_neg c, st.2 c, wr_eq (by omega) (by omega), ih _ (by omega) (by omega)]
theorem S68 {sh : zSh} {V : wSt} {r : Nat} (q : wRo sh V r) (b a e : Int) (he : e ≤ 2147483647) (ha : -2147483648 ≤ a) : wcl zP 68 [wR r, wI b, wI a, wI e] (sh, V) = rI (cfn (gl (tx sh V r)) b a e) (sh, V) := by
  rw [w68_0, S68_3 q b a e he _ a rfl ha]
theorem S69_5 {sh : zSh} {V : wSt} {r : Nat} (q : wRo sh V r) (b a e0 : Int) (ha : -2147483647 ≤ a) : ∀ (n : Nat) (x : Int), (x + 1 - a).toNat = n → -2147483648 ≤ x → x ≤ 2147483647 → wev zP 69 5 [some (wR r), some (wI b), some (wI a), some (wI e0), some (wI x)] [] (sh, V) = rI (fli (gl (tx sh V r)) b a x) (sh, V) := by
  intro n
  induction n with
  | zero => intro x hn hx h2; rw [w69_5, if_pos (by omega), (fli_st _ b a x).1 (by omega)]
  | succ n ih =>
    intro x hn hx h2
    have st := (fli_st (gl (tx sh V r)) b a x).2 (by omega)
    rw [w69_5, if_neg (by omega), S57 q]
    simp only [wcx_v, wput_s, w69_17]
    by_cases c : gl (tx sh V r) x = b
    · rw [if_pos c, st.1 c]
    · rw [if_neg c, st.2 c, wr_eq (by omega) (by omega), ih _ (by omega) (by omega) (by omega)]
theorem S69 {sh : zSh} {V : wSt} {r : Nat} (q : wRo sh V r) (b a e : Int) (he : e ≤ 2147483647) (h2 : -2147483647 ≤ e) (ha : -2147483647 ≤ a) : wcl zP 69 [wR r, wI b, wI a, wI e] (sh, V) = rI (fli (gl (tx sh V r)) b a (e - 1)) (sh, V) := by
  rw [w69_0, wr_eq (by omega) (by omega), S69_5 q b a e (by omega) _ (e - 1) rfl (by omega) (by omega)]
theorem S72 {sh : zSh} {V : wSt} {r : Nat} (q : wRo sh V r) (k : Int) (h1 : -2147483648 ≤ k) (h2 : k ≤ 2147483645) : wcl zP 72 [wR r, wI k] (sh, V) = rI (pCd (gl (tx sh V r)) k) (sh, V) := by
  have p1 := pHex_r (gl (tx sh V r) (k + 1))
  have p2 := pHex_r (gl (tx sh V r) (k + 2))
  simp only [w72_0, S57 q, wcx_v, wput_s, w72_5, w72_19, w72_22, w72_30, w72_33, S88]
  rw [wr_eq (x := k + 1) (by omega) (by omega), wr_eq (x := k + 2) (by omega) (by omega)]
  unfold pCd
  by_cases c : gl (tx sh V r) k = 37
  · rw [if_pos c]
    by_cases c1 : pHex (gl (tx sh V r) (k + 1)) = -1
    · rw [if_pos c1, if_neg (by omega)]
    · rw [if_neg c1]
      by_cases c2 : pHex (gl (tx sh V r) (k + 2)) = -1
      · rw [if_pos c2, if_neg (by omega)]
      · rw [if_neg c2, if_pos (by omega), wr_eq (x := 16 * _) (by omega) (by omega), wr_eq (by omega) (by omega)]
  · rw [if_neg c, if_neg (by omega)]
theorem S79_5 {sh : zSh} {V : wSt} {r : Nat} (q : wRo sh V r) (a e : Int) (hd : e - a ≤ 5) (he : e ≤ 2147483647) (ha : -2147483648 ≤ a) : ∀ (n : Nat) (x v : Int), (e - x).toNat = n → a ≤ x → 0 ≤ v → v ≤ nB (x - a) → wev zP 79 5 [some (wR r), some (wI a), some (wI e), some (wI v), some (wI x)] [] (sh, V) = rI (pNm (gl (tx sh V r)) x e v) (sh, V) := by
  intro n
  induction n with
  | zero => intro x v hn hx hv hb; rw [w79_5, if_pos (by omega), (pNm_st _ x e v).1 (by omega)]
  | succ n ih =>
    intro x v hn hx hv hb
    have st := (pNm_st (gl (tx sh V r)) x e v).2 (by omega)
    have nb := nB_st x a hx
    have p1 := pHex_r (gl (tx sh V r) x)
    rw [w79_5, if_neg (by omega), S57 q]
    simp only [wcx_v, wput_s, w79_21, S88, w79_24]
    rw [wr_eq (x := 10 * v) (by omega) (by omega), wr_eq (x := x + 1) (by omega) (by omega)]
    by_cases c : pHex (gl (tx sh V r) x) < 0
    · rw [if_pos c, st.1 (by omega), wr_eq (by omega) (by omega), ih _ _ (by omega) (by omega) (by omega) (by omega)]
    · rw [if_neg c, st.2 (by omega), wr_eq (by omega) (by omega), ih _ _ (by omega) (by omega) (by omega) (by omega)]
theorem S79 {sh : zSh} {V : wSt} {r : Nat} (q : wRo sh V r) (a e : Int) (hd : e - a ≤ 5) (he : e ≤ 2147483647) (ha : -2147483648 ≤ a) : wcl zP 79 [wR r, wI a, wI e] (sh, V) = rI (pNm (gl (tx sh V r)) a e 0) (sh, V) := by
  rw [w79_0, S79_5 q a e hd he ha _ a 0 rfl (by omega) (by omega) (by rw [nB_0]; omega)]
theorem S9 {sh : zSh} {V : wSt} {r : Nat} (q : wRo sh V r) (k e : Int) (h1 : -2147483648 ≤ k) (h2 : k ≤ 2147483645) : wcl zP 9 [wR r, wI k, wI e] (sh, V) = rI (bI (isG (gl (tx sh V r)) e k)) (sh, V) := by
  simp only [w9_0, S57 q, wcx_v, wput_s, w9_12, w9_24]
  rw [wr_eq (x := k + 2) (by omega) (by omega), wr_eq (x := k + 1) (by omega) (by omega)]
  by_cases c : e < k + 2
  · rw [if_pos c, bI_0 (fun g => by have := g.1; omega)]
  · rw [if_neg c]
    by_cases c1 : gl (tx sh V r) k = 58
    · rw [if_pos c1]
      by_cases c2 : gl (tx sh V r) (k + 1) = 58
      · rw [if_pos c2, bI_1 ⟨by omega, c1, c2⟩]
      · rw [if_neg c2, bI_0 (fun g => c2 g.2.2)]
    · rw [if_neg c1, bI_0 (fun g => c1 g.2.1)]
theorem S7_37 {sh : zSh} {V : wSt} {r : Nat} (q : wRo sh V r) (a e d : Int) (hd : e - a ≤ 3) (he : e ≤ 2147483647) (ha : -2147483648 ≤ a) : ∀ (n : Nat) (x v : Int) (o : Option wV), (e - x).toNat = n → a ≤ x → x ≤ e → 0 ≤ v → (x = a → v ≤ 0) → (x = a + 1 → v ≤ 9) → (x = a + 2 → v ≤ 99) → (x = a + 3 → v ≤ 999) → wev zP 7 37 [some (wR r), some (wI a), some (wI e), some (wI d), some (wI v), some (wI x), o] [] (sh, V) = rI (if pA pDig (gl (tx sh V r)) x e = 1 ∧ dNm (gl (tx sh V r)) x e v ≤ 255 then dNm (gl (tx sh V r)) x e v else -1) (sh, V) := by
  intro n
  induction n with
  | zero =>
    intro x v o hn hx hx2 hv b0 b1 b2 b3
    rw [w7_37, if_pos (by omega), (pA_st pDig _ x e).1 (by omega), dNm_e (by omega)]
    by_cases w : 255 < v
    · rw [if_pos w, if_neg (by omega)]
    · rw [if_neg w, if_pos (by omega)]
  | succ n ih =>
    intro x v o hn hx hx2 hv b0 b1 b2 b3
    have st := (pA_st pDig (gl (tx sh V r)) x e).2 (by omega)
    have dd := dNm_y (f := gl (tx sh V r)) (k := x) (e := e) (v := v) rfl (by omega)
    have pd := pDig_st (gl (tx sh V r) x)
    rw [w7_37, if_neg (by omega), S57 q]
    simp only [wcx_v, wput_s, w7_49, S85, w7_56]
    by_cases c : pDig (gl (tx sh V r) x) = 0
    · rw [if_pos c, st.2 (by omega), if_neg (by omega)]
    · have g := pd.1 (by omega)
      rw [if_neg c, st.1 (by omega), dd, wr_eq (x := x + 1) (by omega) (by omega), wr_eq (x := 10 * v) (by omega) (by omega), wr_eq (x := 10 * v + _) (by omega) (by omega), wr_eq (by omega) (by omega), ih _ _ _ (by omega) (by omega) (by omega) (by omega) (by omega) (by omega) (by omega) (by omega)]
/-- the number from a to e, -1 where none is -/
noncomputable def nU (f : Int → Int) (a e : Int) : Int := if bI (cN f a e) = 1 then dNm f a e 0 else -1
theorem nU_st (f : Int → Int) (a e : Int) : (cN f a e → nU f a e = dNm f a e 0) ∧ (¬ cN f a e → nU f a e = -1) := by
  unfold nU; exact ⟨fun h => by rw [bI_1 h, if_pos rfl], fun h => by rw [bI_0 h, if_neg (by omega)]⟩
theorem S7 {sh : zSh} {V : wSt} {r : Nat} (q : wRo sh V r) (a e : Int) (h1 : -1000000 ≤ a ∧ a ≤ 1000000) (h2 : -1000000 ≤ e ∧ e ≤ 1000000) : wcl zP 7 [wR r, wI a, wI e] (sh, V) = rI (nU (gl (tx sh V r)) a e) (sh, V) := by
  have nu := nU_st (gl (tx sh V r)) a e
  have ci := cN_i (gl (tx sh V r)) a e
  rw [w7_0, wr_eq (x := e - a) (by omega) (by omega)]
  by_cases c : e - a < 1
  · rw [if_pos c, nu.2 (fun w => by have := (ci.mp w).1; omega)]
  · rw [if_neg c]
    by_cases c1 : 3 < e - a
    · rw [if_pos c1, nu.2 (fun w => by have := (ci.mp w).2.1; omega)]
    · rw [if_neg c1]
      have key : (e - a = 1 ∨ gl (tx sh V r) a ≠ 48) → rI (if pA pDig (gl (tx sh V r)) a e = 1 ∧ dNm (gl (tx sh V r)) a e 0 ≤ 255 then dNm (gl (tx sh V r)) a e 0 else -1) (sh, V) = rI (nU (gl (tx sh V r)) a e) (sh, V) := by
        intro hz
        by_cases w : pA pDig (gl (tx sh V r)) a e = 1 ∧ dNm (gl (tx sh V r)) a e 0 ≤ 255
        · rw [if_pos w, nu.1 (ci.mpr ⟨by omega, by omega, hz, w.1, w.2⟩)]
        · rw [if_neg w, nu.2 (fun z => w (ci.mp z).2.2.2)]
      by_cases c2 : e - a ≤ 1
      · rw [if_pos c2, S7_37 q a e _ (by omega) (by omega) (by omega) _ a 0 _ rfl (by omega) (by omega) (by omega) (by omega) (by omega) (by omega) (by omega), key (by omega)]
      · rw [if_neg c2, S57 q]
        simp only [wcx_v, wput_s, w7_24]
        by_cases c3 : gl (tx sh V r) a = 48
        · rw [if_pos c3, nu.2 (fun w => (ci.mp w).2.2.1.elim (fun z => by omega) (fun z => z c3))]
        · rw [if_neg c3, S7_37 q a e _ (by omega) (by omega) (by omega) _ a 0 _ rfl (by omega) (by omega) (by omega) (by omega) (by omega) (by omega) (by omega), key (Or.inr c3)]
theorem S37_8 {sh : zSh} {V : wSt} {r : Nat} (q : wRo sh V r) (a e : Int) (he : e ≤ 2147483647) : ∀ (n : Nat) (x s c : Int) (o : Option wV), (e - x).toNat = n → -2147483648 ≤ x → wev zP 37 8 [some (wR r), some (wI a), some (wI e), some (wI c), some (wI s), some (wI x), o] [] (sh, V) = rI (oc (gl (tx sh V r)) x e s c) (sh, V) := by
  intro n
  induction n with
  | zero => intro x s c o hn hx; rw [w37_8, if_pos (by omega), (oc_st _ x e s c).1 (by omega)]
  | succ n ih =>
    intro x s c o hn hx
    obtain ⟨s1, s2, s3, s4⟩ := (oc_st (gl (tx sh V r)) x e s c).2 (by omega)
    rw [w37_8, if_neg (by omega), S57 q]
    simp only [wcx_v, wput_s, w37_20]
    rw [wr_eq (x := x + 1) (by omega) (by omega)]
    by_cases c1 : gl (tx sh V r) x = 91
    · rw [if_pos c1, s1 c1, ih _ _ _ _ (by omega) (by omega)]
    · rw [if_neg c1]
      by_cases c2 : gl (tx sh V r) x = 93
      · rw [if_pos c2, s2 c2, ih _ _ _ _ (by omega) (by omega)]
      · rw [if_neg c2]
        by_cases c3 : gl (tx sh V r) x = 58
        · rw [if_pos c3]
          by_cases c4 : s = 0
          · rw [if_pos c4, s3 c3 c4, ih _ _ _ _ (by omega) (by omega)]
          · rw [if_neg c4, s4 c1 c2 (Or.inr c4), ih _ _ _ _ (by omega) (by omega)]
        · rw [if_neg c3, s4 c1 c2 (Or.inl c3), ih _ _ _ _ (by omega) (by omega)]
theorem S37 {sh : zSh} {V : wSt} {r : Nat} (q : wRo sh V r) (a e : Int) (he : e ≤ 2147483647) (ha : -2147483648 ≤ a) : wcl zP 37 [wR r, wI a, wI e] (sh, V) = rI (oc (gl (tx sh V r)) a e 0 (-1)) (sh, V) := by
  rw [w37_0, S37_8 q a e he _ a 0 (-1) _ rfl ha]
theorem S5_66 {sh : zSh} {V : wSt} {r : Nat} (q : wRo sh V r) (a e p : Int) (he : e ≤ 1000000) (ha : -1000000 ≤ a ∧ a < e) (h2 : -1000000 ≤ e) : ∀ (n : Nat) (x : Int) (o : Option wV), (e - x).toNat = n → -1000000 ≤ x → wev zP 5 66 [some (wR r), some (wI a), some (wI e), some (wI p), some (wI x), o] [] (sh, V) = rI (if pA pFu (gl (tx sh V r)) x e = 1 ∧ a + 1 < p ∧ p < e - 1 then 1 else 0) (sh, V) := by
  intro n
  induction n with
  | zero =>
    intro x o hn hx
    rw [w5_66, if_pos (by omega), (pA_st pFu _ x e).1 (by omega), wr_eq (by omega) (by omega), wr_eq (by omega) (by omega)]
    by_cases w : p ≤ a + 1
    · rw [if_pos w, if_neg (by omega)]
    · rw [if_neg w]
      by_cases w2 : e - 1 ≤ p
      · rw [if_pos w2, if_neg (by omega)]
      · rw [if_neg w2, if_pos (by omega)]
  | succ n ih =>
    intro x o hn hx
    have st := (pA_st pFu (gl (tx sh V r)) x e).2 (by omega)
    have pf := pFu_st (gl (tx sh V r) x)
    have f1 : pFree (gl (tx sh V r) x) = 0 ∨ pFree (gl (tx sh V r) x) = 1 := by unfold pFree; split <;> omega
    have f2 : pSub (gl (tx sh V r) x) = 0 ∨ pSub (gl (tx sh V r) x) = 1 := by unfold pSub; split <;> omega
    rw [w5_66, if_neg (by omega), S57 q]
    simp only [wcx_v, wput_s, w5_78, S86, w5_85, S87, w5_93]
    rw [wr_eq (x := x + 1) (by omega) (by omega)]
    have go : pFu (gl (tx sh V r) x) = 1 → ∀ o, wev zP 5 66 [some (wR r), some (wI a), some (wI e), some (wI p), some (wI (x + 1)), o] [] (sh, V) = rI (if pA pFu (gl (tx sh V r)) x e = 1 ∧ a + 1 < p ∧ p < e - 1 then 1 else 0) (sh, V) := by
      intro h o; rw [ih _ _ (by omega) (by omega), st.1 h]
    by_cases c1 : pFree (gl (tx sh V r) x) = 0
    · rw [if_pos c1]
      by_cases c2 : pSub (gl (tx sh V r) x) = 0
      · rw [if_pos c2]
        by_cases c3 : gl (tx sh V r) x = 58
        · rw [if_pos c3, go (pf.1 (Or.inr (Or.inr c3)))]
        · have := pf.2 (by omega) (by omega) c3
          rw [if_neg c3, st.2 (by omega), if_neg (by omega)]
      · rw [if_neg c2, go (pf.1 (Or.inr (Or.inl (by omega))))]
    · rw [if_neg c1, go (pf.1 (Or.inl (by omega)))]
theorem S5_34 {sh : zSh} {V : wSt} {r : Nat} (q : wRo sh V r) (a e p : Int) (he : e ≤ 1000000) (ha : -1000000 ≤ a ∧ a < e) (h2 : -1000000 ≤ e) (hp : a ≤ p ∧ p ≤ e) : ∀ (n : Nat) (x : Int), (p - x).toNat = n → -1000000 ≤ x → wev zP 5 34 [some (wR r), some (wI a), some (wI e), some (wI p), some (wI x), none] [] (sh, V) = rI (if pA pHx (gl (tx sh V r)) x p = 1 ∧ pA pFu (gl (tx sh V r)) (p + 1) e = 1 ∧ a + 1 < p ∧ p < e - 1 then 1 else 0) (sh, V) := by
  intro n
  induction n with
  | zero =>
    intro x hn hx
    rw [w5_34, if_pos (by omega), wr_eq (by omega) (by omega), S5_66 q a e p he ha h2 _ _ _ rfl (by omega), (pA_st pHx _ x p).1 (by omega)]
    refine rI_cg ?_
    split <;> split <;> omega
  | succ n ih =>
    intro x hn hx
    have st := (pA_st pHx (gl (tx sh V r)) x p).2 (by omega)
    have ph := pHx_st (gl (tx sh V r) x)
    have p1 := pHex_r (gl (tx sh V r) x)
    rw [w5_34, if_neg (by omega), S57 q]
    simp only [wcx_v, wput_s, w5_46, S88, w5_49]
    by_cases c1 : pHex (gl (tx sh V r) x) = -1
    · have := ph.2 (by omega)
      rw [if_pos c1, st.2 (by omega), if_neg (by omega)]
    · rw [if_neg c1, st.1 (ph.1 (by omega)), wr_eq (by omega) (by omega), ih _ (by omega) (by omega)]
theorem S5 {sh : zSh} {V : wSt} {r : Nat} (q : wRo sh V r) (a e : Int) (h1 : -1000000 ≤ a ∧ a ≤ 1000000) (h2 : -1000000 ≤ e ∧ e ≤ 1000000) : wcl zP 5 [wR r, wI a, wI e] (sh, V) = rI (bI (cFut (gl (tx sh V r)) a e)) (sh, V) := by
  have ci := cFut_i (gl (tx sh V r)) a e
  rw [w5_0]
  by_cases c : e ≤ a
  · rw [if_pos c, bI_0 (fun w => by have := (ci.mp w).1; omega)]
  · rw [if_neg c]
    simp only [S57 q, wcx_v, wput_s, w5_10, S89, w5_13, S68 q 46 a e (by omega) (by omega), w5_28]
    have cr := (cfn_r (gl (tx sh V r)) 46 a e).1 (by omega)
    have g1 : (if 65 ≤ gl (tx sh V r) a ∧ gl (tx sh V r) a ≤ 90 then gl (tx sh V r) a + 32 else gl (tx sh V r) a) = 118 ↔ (gl (tx sh V r) a = 118 ∨ gl (tx sh V r) a = 86) := by
      split <;> omega
    by_cases c1 : gl (tx sh V r) a = 118 ∨ gl (tx sh V r) a = 86
    · rw [if_pos (g1.mpr c1), wr_eq (by omega) (by omega), S5_34 q a e _ (by omega) (by omega) (by omega) cr _ _ rfl (by omega)]
      refine rI_cg ?_
      by_cases w : pA pHx (gl (tx sh V r)) (a + 1) (cfn (gl (tx sh V r)) 46 a e) = 1 ∧ pA pFu (gl (tx sh V r)) (cfn (gl (tx sh V r)) 46 a e + 1) e = 1 ∧ a + 1 < cfn (gl (tx sh V r)) 46 a e ∧ cfn (gl (tx sh V r)) 46 a e < e - 1
      · rw [if_pos w, bI_1 (ci.mpr ⟨by omega, c1, w⟩)]
      · rw [if_neg w, bI_0 (fun z => w (ci.mp z).2.2)]
    · rw [if_neg (fun z => c1 (g1.mp z)), bI_0 (fun z => c1 (ci.mp z).2.1)]
