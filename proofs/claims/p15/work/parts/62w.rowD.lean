set_option maxRecDepth 16384
/-! what is decoded, coded, made small, freed -/
/-- the signs that codes tell, from i to e -/
def decA (f : Int → Int) (e : Int) : Nat → Int → List Int
  | 0, _ => []
  | n + 1, i => if e ≤ i then [] else if pCd f i = -1 then f i :: decA f e n (i + 1) else pCd f i :: decA f e n (i + 3)
def dec (f : Int → Int) (e i : Int) : List Int := decA f e (e - i).toNat i
theorem decA_n (f : Int → Int) (e : Int) : ∀ (n m : Nat) (i : Int), (e - i).toNat ≤ n → (e - i).toNat ≤ m → decA f e n i = decA f e m i := by
  intro n
  induction n with
  | zero =>
    intro m i h g
    cases m with
    | zero => rfl
    | succ m => rw [decA, decA, if_pos (by omega)]
  | succ n ih =>
    intro m i h g
    cases m with
    | zero => rw [decA, decA, if_pos (by omega)]
    | succ m =>
      rw [decA, decA, ih m (i + 1) (by omega) (by omega), ih m (i + 3) (by omega) (by omega)]
theorem dec_st (f : Int → Int) (e i : Int) : (e ≤ i → dec f e i = []) ∧ (i < e → (pCd f i = -1 → dec f e i = f i :: dec f e (i + 1)) ∧ (pCd f i ≠ -1 → dec f e i = pCd f i :: dec f e (i + 3))) := by
  unfold dec
  refine ⟨fun h => ?_, fun h => ⟨fun g => ?_, fun g => ?_⟩⟩
  · rw [show (e - i).toNat = 0 by omega]; rfl
  · rw [show (e - i).toNat = (e - (i + 1)).toNat + 1 by omega, decA, if_neg (by omega), if_pos g]
  · rw [show (e - i).toNat = (e - (i + 1)).toNat + 1 by omega, decA, if_neg (by omega), if_neg g, decA_n f e _ (e - (i + 3)).toNat _ (by omega) (by omega)]
theorem pCd_r (f : Int → Int) (k : Int) : -1 ≤ pCd f k ∧ pCd f k ≤ 255 := by
  have p1 := pHex_r (f (k + 1))
  have p2 := pHex_r (f (k + 2))
  unfold pCd; split <;> omega
theorem S73_3 {sh : zSh} {r t : Nat} (a e : Int) (L : List Int) (n1 : t ≠ r) (n2 : sr sh t 0 ≠ sr sh r 0) (hr : zRow sh r) (he : e ≤ (L.length : Int)) : ∀ (n : Nat) (V : wSt) (x : Int) (o5 : Option wV), (e - x).toNat ≤ n → 0 ≤ x → x ≤ 200000 → wRo sh V r → wRo sh V t → tx sh V t = L → ∃ V', wev zP 73 3 [some (wR r), some (wR t), some (wI a), some (wI e), some (wI x), o5] [] (sh, V) = rN (sh, V') ∧ RwU sh V V' r ((tx sh V r ++ dec (gl L) e x).take (cap sh r)) (V r 2) := by
  intro n
  induction n with
  | zero =>
    intro V x o5 hn hx hx2 q p ht
    refine ⟨V, ?_, ?_⟩
    · rw [w73_3, if_pos (by omega)]
    · rw [(dec_st (gl L) e x).1 (by omega)]; exact RwU.nil q
  | succ n ih =>
    intro V x o5 hn hx hx2 q p ht
    by_cases c0 : e ≤ x
    · refine ⟨V, ?_, ?_⟩
      · rw [w73_3, if_pos (by omega)]
      · rw [(dec_st (gl L) e x).1 (by omega)]; exact RwU.nil q
    have tl := tx_sz p
    rw [ht] at tl
    have z := p.sz
    have st := (dec_st (gl L) e x).2 (by omega)
    have cr := pCd_r (gl L) x
    have gb := gl_b (L := L) (by rw [← ht]; exact tx_lB sh V t) x
    rw [w73_3, if_neg c0, S72 p x (by omega) (by omega), ht]
    simp only [wcx_v, wput_s, w73_15]
    by_cases c : pCd (gl L) x = -1
    · rw [if_pos c, S57 p, ht]
      obtain ⟨V1, e1, u1⟩ := S59g q (gl L x)
      rw [wand_id (by omega)] at u1
      obtain ⟨p1, t1, -⟩ := u1.fr hr p n1 n2
      obtain ⟨V2, e2, u2⟩ := ih V1 (x + 1) (some (wI (pCd (gl L) x))) (by omega) (by omega) (by omega) u1.2.1 p1 (t1.trans ht)
      simp only [wcx_v, wput_s, w73_30, e1, wput_n, w73_38]
      rw [if_pos c, wr_eq (by omega) (by omega), e2, st.1 c]
      exact ⟨V2, rfl, u1.ad u2⟩
    · rw [if_neg c]
      obtain ⟨V1, e1, u1⟩ := S59g q (pCd (gl L) x)
      rw [wand_id (by omega)] at u1
      obtain ⟨p1, t1, -⟩ := u1.fr hr p n1 n2
      obtain ⟨V2, e2, u2⟩ := ih V1 (x + 3) (some (wI (pCd (gl L) x))) (by omega) (by omega) (by omega) u1.2.1 p1 (t1.trans ht)
      simp only [wcx_v, e1, wput_n, w73_38]
      rw [if_neg c, wr_eq (by omega) (by omega), e2, st.2 c]
      exact ⟨V2, rfl, u1.ad u2⟩
theorem S73 {sh : zSh} {V : wSt} {r t : Nat} (q : wRo sh V r) (p : wRo sh V t) (n1 : t ≠ r) (n2 : sr sh t 0 ≠ sr sh r 0) (a e : Int) (ha : 0 ≤ a ∧ a ≤ 200000) (he : e ≤ ((tx sh V t).length : Int)) : ∃ V', wcl zP 73 [wR r, wR t, wI a, wI e] (sh, V) = rN (sh, V') ∧ RwU sh V V' r ((tx sh V r ++ dec (gl (tx sh V t)) e a).take (cap sh r)) (V r 2) := by
  rw [w73_0]
  exact S73_3 a e _ n1 n2 q.1 he _ V a none (Nat.le_refl _) ha.1 ha.2 q p rfl
/-- the signs that stand for one: itself, or a code -/
def cdg (x : Int) : Int := if x < 10 then 48 + x else 55 + x
def cod1 (b : Int) : List Int := if pFree b = 0 then [37, cdg (wand (wshr b 4) 15), cdg (wand b 15)] else [b]
def cod : List Int → List Int
  | [] => []
  | b :: L => cod1 b ++ cod L
theorem pFree_r (x : Int) : pFree x = 0 ∨ pFree x = 1 := by unfold pFree; split <;> omega
theorem cod_len (L : List Int) : (L.length : Int) ≤ (cod L).length ∧ ((cod L).length : Int) ≤ 3 * L.length := by
  induction L with
  | nil => exact ⟨Int.le_refl 0, Int.le_refl 0⟩
  | cons b L ih =>
    rw [cod, List.length_append, List.length_cons]
    unfold cod1; split
    · simp only [List.length_cons, List.length_nil]; omega
    · simp only [List.length_cons, List.length_nil]; omega
theorem S74_4 {sh : zSh} {V : wSt} {r : Nat} (q : wRo sh V r) : ∀ (n : Nat) (x v : Int), (V r 1 - x).toNat = n → 0 ≤ x → 0 ≤ v → v ≤ 3 * x → wev zP 74 4 [some (wR r), some (wI v), some (wI x)] [] (sh, V) = rI (v + ((cod ((tx sh V r).drop x.toNat)).length : Int)) (sh, V) := by
  have z := q.sz
  have tr := tx_sz q
  intro n
  induction n with
  | zero =>
    intro x v hn hx h0 h1
    rw [w74_4, if_pos (by omega), List.drop_of_length_le (by omega)]
    exact rI_cg (by show v = v + 0; omega)
  | succ n ih =>
    intro x v hn hx h0 h1
    rw [w74_4, if_neg (by omega), S57 q]
    simp only [wcx_v, wput_s, w74_18, S86, w74_21]
    rw [drop_gl (L := tx sh V r) hx (by omega), cod, List.length_append]
    unfold cod1
    by_cases c : pFree (gl (tx sh V r) x) = 0
    · rw [if_pos c, if_pos c, wr_eq (by omega) (by omega), wr_eq (by omega) (by omega), ih _ _ (by omega) (by omega) (by omega) (by omega)]
      refine rI_cg ?_
      simp only [List.length_cons, List.length_nil]; omega
    · rw [if_neg c, if_neg c, wr_eq (by omega) (by omega), wr_eq (by omega) (by omega), ih _ _ (by omega) (by omega) (by omega) (by omega)]
      refine rI_cg ?_
      simp only [List.length_cons, List.length_nil]; omega
theorem S74 {sh : zSh} {V : wSt} {r : Nat} (q : wRo sh V r) : wcl zP 74 [wR r] (sh, V) = rI ((cod (tx sh V r)).length : Int) (sh, V) := by
  rw [w74_0, S74_4 q _ 0 0 rfl (by decide) (by decide) (by decide)]
  exact rI_cg (by rw [show (0 : Int).toNat = 0 from rfl, List.drop_zero]; omega)
theorem S91 (sh : zSh) (x : Int) (V : wSt) (h : 0 ≤ x ∧ x ≤ 15) : wcl zP 91 [wI x, wI 1] (sh, V) = rI (cdg x) (sh, V) := by
  rw [w91_0]; unfold cdg
  by_cases c : 10 ≤ x
  · rw [if_pos c, if_neg (by omega), if_neg (by omega), wr_eq (x := 65 + x) (by omega) (by omega), wr_eq (by omega) (by omega)]; exact rI_cg (by omega)
  · rw [if_neg c, if_pos (by omega), wr_eq (by omega) (by omega)]
theorem cod_r {b : Int} (h : 0 ≤ b ∧ b ≤ 255) : 0 ≤ wand (wshr b 4) 15 ∧ wand (wshr b 4) 15 ≤ 15 ∧ 0 ≤ wand b 15 ∧ wand b 15 ≤ 15 := by
  have a : ∀ i : Fin 256, 0 ≤ wand (wshr ((i.val : Nat) : Int) 4) 15 ∧ wand (wshr ((i.val : Nat) : Int) 4) 15 ≤ 15 ∧ 0 ≤ wand ((i.val : Nat) : Int) 15 ∧ wand ((i.val : Nat) : Int) 15 ≤ 15 := by decide
  have g := a ⟨b.toNat, by omega⟩
  rw [show (((⟨b.toNat, by omega⟩ : Fin 256).val : Nat) : Int) = b by show ((b.toNat : Nat) : Int) = b; omega] at g
  exact g
theorem cdg_r {x : Int} (h : 0 ≤ x ∧ x ≤ 15) : 0 ≤ cdg x ∧ cdg x ≤ 255 := by unfold cdg; split <;> omega
theorem S75_2 {sh : zSh} {r t : Nat} (L : List Int) (n1 : t ≠ r) (n2 : sr sh t 0 ≠ sr sh r 0) (hr : zRow sh r) : ∀ (n : Nat) (V : wSt) (x : Int) (o3 : Option wV), ((L.length : Int) - x).toNat = n → 0 ≤ x → wRo sh V r → wRo sh V t → tx sh V t = L → ∃ V', wev zP 75 2 [some (wR r), some (wR t), some (wI x), o3] [] (sh, V) = rN (sh, V') ∧ RwU sh V V' r ((tx sh V r ++ cod (L.drop x.toNat)).take (cap sh r)) (V r 2) := by
  intro n
  induction n with
  | zero =>
    intro V x o3 hn hx q p ht
    have tl := tx_sz p
    rw [ht] at tl
    refine ⟨V, ?_, ?_⟩
    · rw [w75_2, if_pos (by omega)]
    · rw [List.drop_of_length_le (by omega)]; exact RwU.nil q
  | succ n ih =>
    intro V x o3 hn hx q p ht
    have tl := tx_sz p
    rw [ht] at tl
    have z := p.sz
    have gb := gl_b (L := L) (by rw [← ht]; exact tx_lB sh V t) x
    have cr := cod_r (b := gl L x) (by omega)
    rw [w75_2, if_neg (by omega), S57 p, ht]
    simp only [wcx_v, wput_s, w75_15, S86, w75_20]
    rw [drop_gl (L := L) hx (by omega), cod]
    unfold cod1
    by_cases c : pFree (gl L x) = 0
    · rw [if_pos c, if_pos c]
      obtain ⟨V1, e1, u1⟩ := S59g q 37
      rw [wand_id (by decide)] at u1
      obtain ⟨p1, t1, -⟩ := u1.fr hr p n1 n2
      obtain ⟨V2, e2, u2⟩ := S59g u1.2.1 (cdg (wand (wshr (gl L x) 4) 15))
      rw [wand_id (cdg_r ⟨cr.1, cr.2.1⟩)] at u2
      obtain ⟨p2, t2, -⟩ := u2.fr hr p1 n1 n2
      obtain ⟨V3, e3, u3⟩ := S59g u2.2.1 (cdg (wand (gl L x) 15))
      rw [wand_id (cdg_r ⟨cr.2.2.1, cr.2.2.2⟩)] at u3
      obtain ⟨p3, t3, -⟩ := u3.fr hr p2 n1 n2
      obtain ⟨V4, e4, u4⟩ := ih V3 (x + 1) (some (wI (gl L x))) (by omega) (by omega) u3.2.1 p3 (t3.trans (t2.trans (t1.trans ht)))
      simp only [e1, wcx_v, wput_n, w75_37, S91 _ _ _ (And.intro cr.1 cr.2.1), wput_s, w75_48, e2, w75_51, S91 _ _ _ (And.intro cr.2.2.1 cr.2.2.2), w75_60, e3, w75_63]
      rw [wr_eq (by omega) (by omega), e4]
      exact ⟨V4, rfl, ((u1.ad u2).ad u3).ad u4⟩
    · rw [if_neg c, if_neg c]
      obtain ⟨V1, e1, u1⟩ := S59g q (gl L x)
      rw [wand_id (by omega)] at u1
      obtain ⟨p1, t1, -⟩ := u1.fr hr p n1 n2
      obtain ⟨V4, e4, u4⟩ := ih V1 (x + 1) (some (wI (gl L x))) (by omega) (by omega) u1.2.1 p1 (t1.trans ht)
      simp only [e1, wcx_v, wput_n, w75_28, w75_63]
      rw [wr_eq (by omega) (by omega), e4]
      exact ⟨V4, rfl, u1.ad u4⟩
theorem S75 {sh : zSh} {V : wSt} {r t : Nat} (q : wRo sh V r) (p : wRo sh V t) (n1 : t ≠ r) (n2 : sr sh t 0 ≠ sr sh r 0) : ∃ V', wcl zP 75 [wR r, wR t] (sh, V) = rN (sh, V') ∧ RwU sh V V' r ((tx sh V r ++ cod (tx sh V t)).take (cap sh r)) (V r 2) := by
  rw [w75_0]
  have h := S75_2 (tx sh V t) n1 n2 q.1 _ V 0 none rfl (by decide) q p rfl
  rw [show (0 : Int).toNat = 0 from rfl, List.drop_zero] at h
  exact h
