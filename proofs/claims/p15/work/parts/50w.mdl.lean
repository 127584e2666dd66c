set_option maxRecDepth 16384
/-! the model: its rows -/
def mx (sh : zSh) (V : wSt) (m : Nat) (r : Int) : List Int := (List.range (V (sr sh m 2) r.toNat).toNat).map (fun k => V (sr sh m 1) (1500 * r.toNat + k))
/-- sizes of rows are in range -/
def mSz (sh : zSh) (V : wSt) (m : Nat) : Prop := ∀ r : Nat, r < 14 → 0 ≤ V (sr sh m 2) r ∧ V (sr sh m 2) r ≤ 21000
theorem mx_len (sh : zSh) (V : wSt) (m : Nat) (r : Int) : (mx sh V m r).length = (V (sr sh m 2) r.toNat).toNat := by unfold mx; rw [List.length_map, List.length_range]
theorem mx_sz {sh : zSh} {V : wSt} {m : Nat} {r : Int} (h : 0 ≤ V (sr sh m 2) r.toNat) : ((mx sh V m r).length : Int) = V (sr sh m 2) r.toNat := by rw [mx_len]; omega
theorem mx_g (sh : zSh) (V : wSt) (m : Nat) (r : Int) (k : Nat) : (mx sh V m r)[k]? = if k < (V (sr sh m 2) r.toNat).toNat then some (V (sr sh m 1) (1500 * r.toNat + k)) else none := by
  unfold mx; rw [List.getElem?_map]
  by_cases c : k < (V (sr sh m 2) r.toNat).toNat
  · rw [if_pos c, List.getElem?_range c]; rfl
  · rw [if_neg c, List.getElem?_eq_none (by rw [List.length_range]; omega)]; rfl
theorem gl_mx (sh : zSh) (V : wSt) (m : Nat) (r : Int) (k : Int) : gl (mx sh V m r) k = if 0 ≤ k ∧ k < V (sr sh m 2) r.toNat then V (sr sh m 1) (1500 * r.toNat + k.toNat) else -1 := by
  unfold gl
  by_cases c : k < 0
  · rw [if_pos c, if_neg (by omega)]
  · rw [if_neg c, List.getD_eq_getElem?_getD, mx_g]
    by_cases d : k < V (sr sh m 2) r.toNat
    · rw [if_pos (by omega), if_pos (by omega)]; rfl
    · rw [if_neg (by omega), if_neg (by omega)]; rfl
theorem M128 {sh : zSh} {V : wSt} {m : Nat} (S : mSz sh V m) {r : Int} (hr : 0 ≤ r ∧ r ≤ 13) (k : Int) : wcl zP 128 [wR m, wI r, wI k] (sh, V) = rI (gl (mx sh V m r) k) (sh, V) := by
  have z := S r.toNat (by omega)
  rw [w128_0, gl_mx]
  by_cases c : k < 0
  · rw [if_pos c, if_neg (by omega)]
  · rw [if_neg c]
    by_cases d : V (sr sh m 2) r.toNat ≤ k
    · rw [if_pos d, if_neg (by omega)]
    · rw [if_neg d, if_pos (by omega), wr_eq (x := 1500 * r) (by omega) (by omega), wr_eq (by omega) (by omega), show (1500 * r + k).toNat = 1500 * r.toNat + k.toNat by omega]
theorem M120 (sh : zSh) (x a b : Int) (V : wSt) : wcl zP 120 [wI x, wI a, wI b] (sh, V) = rI (if a ≤ x ∧ x ≤ b then 1 else 0) (sh, V) := by
  rw [w120_0]
  by_cases c : x < a
  · rw [if_pos c, if_neg (by omega)]
  · rw [if_neg c]
    by_cases d : b < x
    · rw [if_pos d, if_neg (by omega)]
    · rw [if_neg d, if_pos (by omega)]
theorem M121 (sh : zSh) (x : Int) (V : wSt) : wcl zP 121 [wI x] (sh, V) = rI (pDig x) (sh, V) := by
  simp only [w121_0, M120, wcx_v, wput_s, w121_8]; rfl
theorem M122 (sh : zSh) (x : Int) (V : wSt) : wcl zP 122 [wI x] (sh, V) = rI (pLet x) (sh, V) := by
  simp only [w122_0, M120, wcx_v, wput_s, w122_8, w122_19]
  unfold pLet
  by_cases c : 65 ≤ x ∧ x ≤ 90
  · rw [if_pos c, if_neg (by decide), if_pos (Or.inl c)]
  · rw [if_neg c, if_pos rfl]
    by_cases d : 97 ≤ x ∧ x ≤ 122
    · rw [if_pos d, if_neg (by decide), if_pos (Or.inr d)]
    · rw [if_neg d, if_pos rfl, if_neg (fun w => w.elim c d)]
theorem M123 (sh : zSh) (x : Int) (V : wSt) : wcl zP 123 [wI x] (sh, V) = rI (pFree x) (sh, V) := by
  simp only [w123_0, M122, wcx_v, wput_s, w123_4, M121, w123_11]
  unfold pFree
  have l1 : pLet x = 0 ∨ pLet x = 1 := by unfold pLet; split <;> omega
  have d1 : pDig x = 0 ∨ pDig x = 1 := by unfold pDig; split <;> omega
  rcases l1 with l | l
  · rw [if_pos l]
    rcases d1 with d | d
    · rw [if_pos d]
      by_cases c1 : x = 45
      · rw [if_pos c1, if_pos (by omega)]
      rw [if_neg c1]
      by_cases c2 : x = 46
      · rw [if_pos c2, if_pos (by omega)]
      rw [if_neg c2]
      by_cases c3 : x = 95
      · rw [if_pos c3, if_pos (by omega)]
      rw [if_neg c3]
      by_cases c4 : x = 126
      · rw [if_pos c4, if_pos (by omega)]
      · rw [if_neg c4, if_neg (by omega)]
    · rw [if_neg (by omega), if_pos (by omega)]
  · rw [if_neg (by omega), if_pos (by omega)]
theorem M124 (sh : zSh) (x : Int) (V : wSt) : wcl zP 124 [wI x] (sh, V) = rI (pSub x) (sh, V) := by
  simp only [w124_0, M120, wcx_v, wput_s, w124_20]
  unfold pSub
  by_cases c1 : x = 33
  · rw [if_pos c1, if_pos (by omega)]
  rw [if_neg c1]
  by_cases c2 : x = 36
  · rw [if_pos c2, if_pos (by omega)]
  rw [if_neg c2]
  by_cases c3 : 38 ≤ x ∧ x ≤ 44
  · rw [if_pos c3, if_neg (by decide), if_pos (by omega)]
  rw [if_neg c3, if_pos rfl]
  by_cases c4 : x = 59
  · rw [if_pos c4, if_pos (by omega)]
  rw [if_neg c4]
  by_cases c5 : x = 61
  · rw [if_pos c5, if_pos (by omega)]
  · rw [if_neg c5, if_neg (by omega)]
theorem M125 (sh : zSh) (x : Int) (V : wSt) : wcl zP 125 [wI x] (sh, V) = rI (pHex x) (sh, V) := by
  simp only [w125_0, M121, M120, wcx_v, wput_s, w125_4, w125_22, w125_40]
  unfold pDig pHex
  by_cases c : 48 ≤ x ∧ x ≤ 57
  · rw [if_pos c, if_neg (by decide), if_pos c, wr_eq (by omega) (by omega)]
  rw [if_neg c, if_pos rfl, if_neg c]
  by_cases d : 97 ≤ x ∧ x ≤ 102
  · rw [if_pos d, if_neg (by decide), if_pos d, wr_eq (by omega) (by omega)]
  rw [if_neg d, if_pos rfl, if_neg d]
  by_cases e : 65 ≤ x ∧ x ≤ 70
  · rw [if_pos e, if_neg (by decide), if_pos e, wr_eq (by omega) (by omega)]
  · rw [if_neg e, if_pos rfl, if_neg e]
theorem M127 (sh : zSh) (x : Int) (V : wSt) : wcl zP 127 [wI x] (sh, V) = rI (if 0 ≤ x ∧ x ≤ 7 then 1 else 0) (sh, V) := by
  simp only [w127_0, M120, wcx_v, wput_s, w127_7]
theorem fn_st (f : Int → Int) (b a e : Int) : (e ≤ a → fn f b a e = a) ∧ (a < e → (f a = b → fn f b a e = a) ∧ (f a ≠ b → fn f b a e = fn f b (a + 1) e)) :=
  ⟨fun h => fn_ge h, fun h => ⟨fun g => by rw [fn_lt h, if_pos g], fun g => by rw [fn_lt h, if_neg g]⟩⟩
theorem M129_3 {sh : zSh} {V : wSt} {m : Nat} (S : mSz sh V m) {r : Int} (hr : 0 ≤ r ∧ r ≤ 13) (b a0 e : Int) (he : e ≤ 2147483647) : ∀ (n : Nat) (x : Int), (e - x).toNat = n → -2147483648 ≤ x → wev zP 129 3 [some (wR m), some (wI r), some (wI b), some (wI a0), some (wI e), some (wI x)] [] (sh, V) = rI (fn (gl (mx sh V m r)) b x e) (sh, V) := by
  intro n
  induction n with
  | zero => intro x hn hx; rw [w129_3, if_pos (by omega), fn_ge (by omega)]
  | succ n ih =>
    intro x hn hx
    have st := (fn_st (gl (mx sh V m r)) b x e).2 (by omega)
    rw [w129_3, if_neg (by omega), M128 S hr]
    simp only [wcx_v, wput_s, w129_17]
    by_cases c : gl (mx sh V m r) x = b
    · rw [if_pos c, st.1 c]
    · rw [if_neg c, st.2 c, wr_eq (by omega) (by omega), ih _ (by omega) (by omega)]
theorem M129 {sh : zSh} {V : wSt} {m : Nat} (S : mSz sh V m) {r : Int} (hr : 0 ≤ r ∧ r ≤ 13) (b a e : Int) (he : e ≤ 2147483647) (ha : -2147483648 ≤ a) : wcl zP 129 [wR m, wI r, wI b, wI a, wI e] (sh, V) = rI (fn (gl (mx sh V m r)) b a e) (sh, V) := by
  rw [w129_0, M129_3 S hr b a e he _ a rfl ha]
theorem M130 {sh : zSh} {V : wSt} {m : Nat} (S : mSz sh V m) {r : Int} (hr : 0 ≤ r ∧ r ≤ 13) (k : Int) (h1 : -2147483648 ≤ k) (h2 : k ≤ 2147483645) : wcl zP 130 [wR m, wI r, wI k] (sh, V) = rI (if pCd (gl (mx sh V m r)) k = -1 then 0 else 1) (sh, V) := by
  have p1 := pHex_r (gl (mx sh V m r) (k + 1))
  have p2 := pHex_r (gl (mx sh V m r) (k + 2))
  simp only [w130_0, M128 S hr, wcx_v, wput_s, w130_6, w130_19, w130_22, w130_33, w130_36, M125]
  rw [wr_eq (x := k + 1) (by omega) (by omega), wr_eq (x := k + 2) (by omega) (by omega)]
  by_cases c : gl (mx sh V m r) k = 37
  · rw [if_pos c]
    by_cases c1 : pHex (gl (mx sh V m r) (k + 1)) < 0
    · have e : pCd (gl (mx sh V m r)) k = -1 := by unfold pCd; exact if_neg (by omega)
      rw [if_pos c1, if_pos e]
    · rw [if_neg c1]
      by_cases c2 : pHex (gl (mx sh V m r) (k + 2)) < 0
      · have e : pCd (gl (mx sh V m r)) k = -1 := by unfold pCd; exact if_neg (by omega)
        rw [if_pos c2, if_pos e]
      · have e : pCd (gl (mx sh V m r)) k ≠ -1 := by unfold pCd; rw [if_pos (by omega)]; omega
        rw [if_neg c2, if_neg e]
  · have e : pCd (gl (mx sh V m r)) k = -1 := by unfold pCd; exact if_neg (by omega)
    rw [if_neg c, if_pos e]
/-- the places of a row's part -/
def mB (sh : zSh) (V : wSt) (m : Nat) (r : Int) (k : Nat) : Int := V (sr sh m 3) (7 * r.toNat + k)
def mE (sh : zSh) (V : wSt) (m : Nat) (r : Int) (k : Nat) : Int := V (sr sh m 4) (7 * r.toNat + k)
theorem ix7 {r p : Int} (hr : 0 ≤ r ∧ r ≤ 13) (hp : 0 ≤ p ∧ p ≤ 6) : Int.toNat (wr (wr (7 * r) + p)) = 7 * r.toNat + p.toNat := by
  rw [wr_eq (x := 7 * r) (by omega) (by omega), wr_eq (by omega) (by omega)]; omega
theorem M133 {sh : zSh} {V : wSt} {m : Nat} {r p : Int} (hr : 0 ≤ r ∧ r ≤ 13) (hp : 0 ≤ p ∧ p ≤ 6) (x y : Int) : wcl zP 133 [wR m, wI r, wI p, wI x, wI y] (sh, V) = rN (sh, uI (uI V (sr sh m 3) (7 * r.toNat + p.toNat) x) (sr sh m 4) (7 * r.toNat + p.toNat) y) := by
  rw [w133_0, ix7 hr hp]
theorem M134 {sh : zSh} {V : wSt} {m : Nat} {r p : Int} (hr : 0 ≤ r ∧ r ≤ 13) (hp : 0 ≤ p ∧ p ≤ 6) : wcl zP 134 [wR m, wI r, wI p] (sh, V) = rI (if mB sh V m r p.toNat < 0 then 0 else 1) (sh, V) := by
  rw [w134_0, ix7 hr hp, ite_rI]; rfl
theorem M135 {sh : zSh} {V : wSt} {m : Nat} {r p : Int} (hr : 0 ≤ r ∧ r ≤ 13) (hp : 0 ≤ p ∧ p ≤ 6) (h : -1 ≤ mB sh V m r p.toNat ∧ mB sh V m r p.toNat ≤ 1000000 ∧ -1 ≤ mE sh V m r p.toNat ∧ mE sh V m r p.toNat ≤ 1000000) : wcl zP 135 [wR m, wI r, wI p] (sh, V) = rI (mE sh V m r p.toNat - mB sh V m r p.toNat) (sh, V) := by
  rw [w135_0, ix7 hr hp]
  unfold mB mE at *
  rw [wr_eq (by omega) (by omega)]
theorem M136 {sh : zSh} {V : wSt} {m : Nat} (S : mSz sh V m) {r p : Int} (hr : 0 ≤ r ∧ r ≤ 13) (hp : 0 ≤ p ∧ p ≤ 6) (h : -1 ≤ mB sh V m r p.toNat ∧ mB sh V m r p.toNat ≤ 1000000 ∧ -1 ≤ mE sh V m r p.toNat ∧ mE sh V m r p.toNat ≤ 1000000) (k : Int) (hk : -1000000 ≤ k ∧ k ≤ 1000000) : wcl zP 136 [wR m, wI r, wI p, wI k] (sh, V) = rI (if k < mE sh V m r p.toNat - mB sh V m r p.toNat then gl (mx sh V m r) (mB sh V m r p.toNat + k) else -1) (sh, V) := by
  rw [w136_0, M135 hr hp h]
  simp only [wcx_v, wput_s, w136_7]
  by_cases c : mE sh V m r p.toNat - mB sh V m r p.toNat ≤ k
  · rw [if_pos c, if_neg (by omega)]
  · rw [if_neg c, if_pos (by omega), ix7 hr hp, show V (sr sh m 3) (7 * r.toNat + p.toNat) = mB sh V m r p.toNat from rfl, wr_eq (by omega) (by omega), M128 S hr]
    simp only [wcx_v, wput_s, w136_28]
/-- the model's objects are apart -/
def zARw : List Nat := [1, 2, 3, 4, 8, 9, 10, 11, 12, 13, 14]
def wMd (sh : zSh) (m : Nat) : Prop := (∀ j, j ∈ zARw → sr sh m j ≠ m) ∧ ∀ i, i ∈ zARw → ∀ j, j ∈ zARw → i ≠ j → sr sh m i ≠ sr sh m j
