set_option maxRecDepth 16384
/-! what is written into a row -/
/-- the room of a row -/
def cap (sh : zSh) (r : Nat) : Nat := (sk sh (sr sh r 0)).2
def RwU (sh : zSh) (V V' : wSt) (r : Nat) (L : List Int) (th : Int) : Prop := FrO [r, sr sh r 0] V V' ∧ wRo sh V' r ∧ tx sh V' r = L ∧ V' r 2 = th
theorem row_ne {sh : zSh} {r s : Nat} (h : zRow sh r) (g : zRow sh s) : r ≠ sr sh s 0 := fun e => by have k := g.2.1; rw [← e, h.1] at k; cases k
theorem wRo.z {sh : zSh} {V : wSt} {r : Nat} (q : wRo sh V r) : zRow sh r := q.1
theorem tx_sz {sh : zSh} {V : wSt} {r : Nat} (q : wRo sh V r) : ((tx sh V r).length : Int) = V r 1 := by rw [tx_len]; have := q.2.1; omega
theorem tx_cap {sh : zSh} {V : wSt} {r : Nat} (q : wRo sh V r) : (tx sh V r).length ≤ cap sh r ∧ cap sh r ≤ 100000 := by
  have := tx_sz q; have := q.sz; unfold cap; omega
theorem cap_wr {sh : zSh} {r : Nat} (q : zRow sh r) : wr (((sk sh (sr sh r 0)).2 : Nat) : Int) = (cap sh r : Int) := by
  have := q.2.2; exact wr_eq (by omega) (by omega)
theorem tx_g (sh : zSh) (V : wSt) (r k : Nat) : (tx sh V r)[k]? = if k < (V r 1).toNat then some (wand (V (sr sh r 0) k) 255) else none := by
  unfold tx; rw [List.getElem?_map]
  by_cases c : k < (V r 1).toNat
  · rw [if_pos c, List.getElem?_range c]; rfl
  · rw [if_neg c, List.getElem?_eq_none (by rw [List.length_range]; omega)]; rfl
theorem tx_ext {sh : zSh} {V : wSt} {r : Nat} {L : List Int} (h : V r 1 = (L.length : Int)) (g : ∀ k : Nat, k < L.length → wand (V (sr sh r 0) k) 255 = L.getD k 0) : tx sh V r = L := by
  refine List.ext_getElem? (fun k => ?_)
  rw [tx_g]
  by_cases c : k < L.length
  · rw [if_pos (by omega), g k c, List.getD_eq_getElem?_getD, List.getElem?_eq_getElem c]; rfl
  · rw [if_neg (by omega), List.getElem?_eq_none (by omega)]
theorem tx_at {sh : zSh} {V : wSt} {r : Nat} {k : Nat} (h : k < (tx sh V r).length) : (tx sh V r).getD k 0 = wand (V (sr sh r 0) k) 255 := by
  rw [tx_len] at h
  rw [List.getD_eq_getElem?_getD, tx_g, if_pos h]; rfl
theorem wand_wi8 (x : Int) : wand (wi8 x) 255 = wand x 255 := by
  unfold wand wi8
  rw [oI_self]
  have h : ∀ y : Int32, ((Int32.toInt8 y).toInt32 &&& 255) = y &&& 255 := by
    have m255 : ∀ i : Fin 32, 8 ≤ i.val → (255#32).getLsbD i.val = false := by decide
    intro x
    apply Int32.toBitVec_inj.mp
    show (BitVec.signExtend 32 (BitVec.signExtend 8 x.toBitVec)) &&& 255#32 = x.toBitVec &&& 255#32
    apply BitVec.eq_of_getLsbD_eq
    intro i hi
    rw [BitVec.getLsbD_and, BitVec.getLsbD_and]
    by_cases c : i < 8
    · rw [BitVec.getLsbD_signExtend, BitVec.getLsbD_signExtend]
      simp [c, hi]
    · rw [m255 ⟨i, hi⟩ (by show 8 ≤ i; omega)]; simp
  exact congrArg Int32.toInt (h (oI x))
theorem S59 {sh : zSh} {V : wSt} {r : Nat} (q : wRo sh V r) (x : Int) (hc : (tx sh V r).length < cap sh r) : ∃ V', wcl zP 59 [wR r, wI x] (sh, V) = rN (sh, V') ∧ RwU sh V V' r (tx sh V r ++ [wand x 255]) (V r 2) := by
  have z := q.sz
  have tl := tx_sz q
  have hn := row_ne q.1 q.1
  rw [w59_0, cap_wr q.1, if_neg (by omega), if_neg (by omega)]
  have e1 : ∀ (y : Int) (j : Nat), uI V (sr sh r 0) j y r 1 = V r 1 := fun y j => by unfold uI; rw [if_neg (fun c => hn c.1)]
  rw [e1, wr_eq (by omega) (by omega)]
  obtain ⟨W, hW⟩ : ∃ W, W = uI (uI V (sr sh r 0) (Int.toNat (V r 1)) (wi8 (wi8 x))) r 1 (V r 1 + 1) := ⟨_, rfl⟩
  rw [← hW]
  have w1 : W r 1 = V r 1 + 1 := by rw [hW]; unfold uI; rw [if_pos ⟨rfl, rfl⟩]
  have w2 : W r 2 = V r 2 := by rw [hW]; unfold uI; rw [if_neg (fun c => by cases c.2), if_neg (fun c => hn c.1)]
  have w3 : ∀ k, W (sr sh r 0) k = if k = (V r 1).toNat then wi8 (wi8 x) else V (sr sh r 0) k := fun k => by
    rw [hW]; unfold uI; rw [if_neg (fun c => hn c.1.symm)]
    by_cases d : k = (V r 1).toNat
    · rw [if_pos ⟨rfl, d⟩, if_pos d]
    · rw [if_neg (fun c => d c.2), if_neg d]
  refine ⟨W, rfl, ?_, ⟨q.1, by omega, by rw [w1]; unfold cap at hc; omega, by rw [w2]; exact q.2.2.2⟩, ?_, w2⟩
  · rw [hW]; exact (uI_fr (List.mem_cons_of_mem _ (List.mem_cons_self))).trans (uI_fr (List.mem_cons_self))
  · refine tx_ext (by rw [w1, List.length_append]; simp only [List.length_cons, List.length_nil]; omega) (fun k hk => ?_)
    rw [List.length_append] at hk
    simp only [List.length_cons, List.length_nil] at hk
    rw [w3, List.getD_eq_getElem?_getD, List.getElem?_append]
    by_cases d : k < (tx sh V r).length
    · rw [if_neg (by omega), if_pos d, ← List.getD_eq_getElem?_getD, tx_at d]
    · have : k = (tx sh V r).length := by omega
      rw [if_pos (by omega), if_neg d, this, Nat.sub_self, wand_wi8, wand_wi8]; rfl
theorem S59_full {sh : zSh} {V : wSt} {r : Nat} (q : wRo sh V r) (x : Int) (hc : cap sh r ≤ (tx sh V r).length) : wcl zP 59 [wR r, wI x] (sh, V) = rN (sh, V) := by
  have z := q.sz
  have tl := tx_sz q
  rw [w59_0, cap_wr q.1, if_neg (by omega), if_pos (by omega)]
theorem S62 {sh : zSh} {V : wSt} {r : Nat} (h : zRow sh r) : ∃ V', wcl zP 62 [wR r] (sh, V) = rN (sh, V') ∧ RwU sh V V' r [] 0 ∧ V' (sr sh r 0) = V (sr sh r 0) ∧ ∀ b, b ≠ r → V' b = V b := by
  rw [w62_0]
  have hn := row_ne h h
  have w1 : uI (uI V r 1 0) r 2 0 r 1 = 0 := by unfold uI; rw [if_neg (fun c => by cases c.2), if_pos ⟨rfl, rfl⟩]
  have w2 : uI (uI V r 1 0) r 2 0 r 2 = 0 := by unfold uI; rw [if_pos ⟨rfl, rfl⟩]
  have w3 : ∀ b, b ≠ r → uI (uI V r 1 0) r 2 0 b = V b := fun b hb => by funext j; unfold uI; rw [if_neg (fun c => hb c.1), if_neg (fun c => hb c.1)]
  refine ⟨_, rfl, ⟨(uI_fr (List.mem_cons_self)).trans (uI_fr (List.mem_cons_self)), ⟨h, by rw [w1]; decide, by rw [w1]; exact Int.natCast_nonneg _, Or.inl w2⟩, ?_, w2⟩, w3 _ (fun e => hn e.symm), w3⟩
  exact tx_ext w1 (fun k hk => absurd hk (Nat.not_lt_zero k))
/-- what addRange takes: of L1 from s to e, no more than there is room for -/
def sub (L : List Int) (s e : Int) : List Int := (L.drop s.toNat).take (e - s).toNat
theorem sub_len (L : List Int) (s e : Int) (hs : 0 ≤ s) : ((sub L s e).length : Int) = if (if e < L.length then e else (L.length : Int)) - s ≤ 0 then 0 else (if e < L.length then e else (L.length : Int)) - s := by
  unfold sub; rw [List.length_take, List.length_drop]; split <;> split <;> omega
theorem S61 {sh : zSh} {V : wSt} {r t : Nat} (q : wRo sh V r) (p : wRo sh V t) (s e : Int) (hs : 0 ≤ s ∧ s ≤ 1000000) (he : -1000000 ≤ e ∧ e ≤ 1000000) : ∃ V', wcl zP 61 [wR r, wR t, wI s, wI e] (sh, V) = rN (sh, V') ∧ RwU sh V V' r (tx sh V r ++ (sub (tx sh V t) s e).take (cap sh r - (tx sh V r).length)) (V r 2) := by
  have z := q.sz
  have zp := p.sz
  have tl := tx_sz q
  have tp := tx_sz p
  have hn := row_ne q.1 q.1
  have sl := sub_len (tx sh V t) s e hs.1
  rw [tp] at sl
  have cr : (cap sh r : Int) = ((sk sh (sr sh r 0)).2 : Int) := rfl
  have ct : (cap sh t : Int) = ((sk sh (sr sh t 0)).2 : Int) := rfl
  -- the number of bytes
  obtain ⟨m, hm⟩ : ∃ m : Int, m = if e < V t 1 then e else V t 1 := ⟨_, rfl⟩
  rw [← hm] at sl
  have hm2 : m ≤ V t 1 ∧ m ≤ e ∧ -1000000 ≤ m := by rw [hm]; split <;> omega
  have e0 : wr ((cap sh r : Int) - V r 1) = (cap sh r : Int) - V r 1 := wr_eq (by omega) (by omega)
  have e1 : wr (m - s) = m - s := wr_eq (by omega) (by omega)
  have st1 : wcl zP 61 [wR r, wR t, wI s, wI e] (sh, V) = wev zP 61 28 [some (wR r), some (wR t), some (wI s), some (wI e), some (wI ((cap sh r : Int) - V r 1)), none, none] [wI m] (sh, V) := by
    rw [w61_0, cap_wr q.1, e0, hm]
    by_cases c : V t 1 ≤ e
    · rw [if_pos c, if_neg (by omega)]
    · rw [if_neg c, if_pos (by omega)]
  obtain ⟨n, hN⟩ : ∃ n : Int, n = if (cap sh r : Int) - V r 1 ≤ m - s then (cap sh r : Int) - V r 1 else m - s := ⟨_, rfl⟩
  have st2 : wcl zP 61 [wR r, wR t, wI s, wI e] (sh, V) = wev zP 61 46 [some (wR r), some (wR t), some (wI s), some (wI e), some (wI ((cap sh r : Int) - V r 1)), some (wI (m - s)), none] [wI n] (sh, V) := by
    rw [st1, w61_28, e1, hN]
    by_cases c : (cap sh r : Int) - V r 1 ≤ m - s
    · rw [if_pos c, if_pos c]
    · rw [if_neg c, if_neg c]
  have hn2 : n ≤ (cap sh r : Int) - V r 1 ∧ n ≤ m - s ∧ -3000000 ≤ n := by rw [hN]; split <;> omega
  have tk : ((((sub (tx sh V t) s e).take (cap sh r - (tx sh V r).length)).length : Nat) : Int) = if n ≤ 0 then 0 else n := by
    have sl2 : (m - s ≤ 0 ∧ ((sub (tx sh V t) s e).length : Int) = 0) ∨ (0 < m - s ∧ ((sub (tx sh V t) s e).length : Int) = m - s) := by
      by_cases w : m - s ≤ 0
      · rw [if_pos w] at sl; exact Or.inl ⟨w, sl⟩
      · rw [if_neg w] at sl; exact Or.inr ⟨by omega, sl⟩
    have hN2 : (n = (cap sh r : Int) - V r 1 ∧ (cap sh r : Int) - V r 1 ≤ m - s) ∨ (n = m - s ∧ m - s < (cap sh r : Int) - V r 1) := by
      by_cases w : (cap sh r : Int) - V r 1 ≤ m - s
      · rw [if_pos w] at hN; exact Or.inl ⟨hN, w⟩
      · rw [if_neg w] at hN; exact Or.inr ⟨hN, by omega⟩
    rw [List.length_take]
    clear sl hN hm
    by_cases w : n ≤ 0
    · rw [if_pos w]; omega
    · rw [if_neg w]; omega
  rw [st2, w61_46, cap_wr p.1, if_neg (by omega)]
  by_cases c : n ≤ 0
  · rw [if_pos c] at tk ⊢
    rw [w61_105]
    have : (sub (tx sh V t) s e).take (cap sh r - (tx sh V r).length) = [] := List.length_eq_zero_iff.mp (by omega)
    rw [this, List.append_nil]
    exact ⟨V, rfl, FrO.refl, q, rfl, rfl⟩
  rw [if_neg c] at tk ⊢
  rw [wr_eq (by omega) (by omega), if_neg (by omega), if_neg (by omega), w61_105]
  have e2 : uA V (sr sh r 0) (va_cpy (V (sr sh t 0)) (V (sr sh r 0)) (Int.toNat s) (Int.toNat (V r 1)) (Int.toNat n)) r 1 = V r 1 := by unfold uA; rw [if_neg hn]
  rw [e2, wr_eq (by omega) (by omega)]
  obtain ⟨W, hW⟩ : ∃ W, W = uI (uA V (sr sh r 0) (va_cpy (V (sr sh t 0)) (V (sr sh r 0)) (Int.toNat s) (Int.toNat (V r 1)) (Int.toNat n))) r 1 (V r 1 + n) := ⟨_, rfl⟩
  rw [← hW]
  have w1 : W r 1 = V r 1 + n := by rw [hW]; unfold uI; rw [if_pos ⟨rfl, rfl⟩]
  have w2 : W r 2 = V r 2 := by rw [hW]; unfold uI uA; rw [if_neg (fun c => by cases c.2), if_neg hn]
  have w3 : ∀ k : Nat, W (sr sh r 0) k = if (V r 1).toNat ≤ k ∧ k < (V r 1).toNat + n.toNat then V (sr sh t 0) (s.toNat + (k - (V r 1).toNat)) else V (sr sh r 0) k := fun k => by
    rw [hW]; unfold uI uA; rw [if_neg (fun c => hn c.1.symm), if_pos rfl]; rfl
  refine ⟨W, rfl, ?_, ⟨q.1, by omega, by rw [w1]; omega, by rw [w2]; exact q.2.2.2⟩, ?_, w2⟩
  · rw [hW]
    refine FrO.trans (V' := uA V (sr sh r 0) _) (fun b hb => ?_) (uI_fr (List.mem_cons_self))
    funext j; unfold uA; rw [if_neg (fun c => hb (by rw [c]; exact List.mem_cons_of_mem _ (List.mem_cons_self)))]
  · refine tx_ext (by rw [w1, List.length_append]; omega) (fun k hk => ?_)
    rw [List.length_append] at hk
    rw [w3, List.getD_eq_getElem?_getD, List.getElem?_append]
    by_cases d : k < (tx sh V r).length
    · rw [if_neg (by omega), if_pos d, ← List.getD_eq_getElem?_getD, tx_at d]
    · rw [if_pos (by omega), if_neg d, List.getElem?_take, if_pos (by omega)]
      unfold sub
      rw [List.getElem?_take, if_pos (by omega), List.getElem?_drop, ← List.getD_eq_getElem?_getD, tx_at (by omega)]
      rw [show s.toNat + (k - (V r 1).toNat) = s.toNat + (k - (tx sh V r).length) by omega]
theorem sub_all (L : List Int) : sub L 0 (L.length : Int) = L := by
  unfold sub; rw [show (0 : Int).toNat = 0 from rfl, List.drop_zero, show ((L.length : Int) - 0).toNat = L.length by omega, List.take_length]
/-- where start is -1 nothing is added -/
theorem S61_no {sh : zSh} {V : wSt} {r t : Nat} (q : wRo sh V r) (p : wRo sh V t) (e : Int) (he : -1000000 ≤ e ∧ e ≤ 1000000) : wcl zP 61 [wR r, wR t, wI (-1), wI e] (sh, V) = rN (sh, V) := by
  rw [w61_0]
  split <;> rw [w61_28] <;> split <;> rw [w61_46, if_pos (by decide), w61_105]
theorem RwU.fr {sh : zSh} {V V' : wSt} {r : Nat} {L : List Int} {th : Int} (h : RwU sh V V' r L th) {s : Nat} (hr : zRow sh r) (q : wRo sh V s) (n1 : s ≠ r) (n2 : sr sh s 0 ≠ sr sh r 0) : wRo sh V' s ∧ tx sh V' s = tx sh V s ∧ V' s = V s := by
  have m : ∀ x, x ≠ r → x ≠ sr sh r 0 → V' x = V x := fun x h1 h2 => h.1 x (fun w => (List.mem_cons.mp w).elim h1 (fun z => h2 (List.mem_singleton.mp z)))
  have e := m s n1 (row_ne q.1 hr)
  exact ⟨wRo_cg e q, tx_cg e (m _ (fun w => row_ne hr q.1 w.symm) n2), e⟩
theorem RwU.trans {sh : zSh} {V V' W : wSt} {r : Nat} {L M : List Int} {th th' : Int} (h : RwU sh V V' r L th) (g : RwU sh V' W r M th') : RwU sh V W r M th' := ⟨h.1.trans g.1, g.2⟩
theorem S64 {sh : zSh} {V : wSt} {r t : Nat} (q : wRo sh V r) (p : wRo sh V t) (n1 : t ≠ r) (n2 : sr sh t 0 ≠ sr sh r 0) : ∃ V', wcl zP 64 [wR r, wR t] (sh, V) = rN (sh, V') ∧ RwU sh V V' r ((tx sh V t).take (cap sh r)) (V t 2) := by
  rw [w64_0]
  obtain ⟨V1, e1, u1, -⟩ := S62 (V := V) q.1
  obtain ⟨p1, t1, v1⟩ := u1.fr q.1 p n1 n2
  have zp := p.sz
  rw [e1]
  simp only [wcx_v, wput_n, w64_4]
  obtain ⟨V2, e2, u2⟩ := S61 u1.2.1 p1 0 (V1 t 1) (by omega) (by rw [v1]; omega)
  obtain ⟨p2, t2, v2⟩ := (u1.trans u2).fr q.1 p n1 n2
  rw [e2]
  simp only [wcx_v, wput_n, w64_14]
  rw [v1, ← tx_sz p, t1, sub_all, u1.2.2.1, List.nil_append, List.length_nil, Nat.sub_zero] at u2
  have hn := row_ne q.1 q.1
  have w1 : ∀ x : Int, uI V2 r 2 x r 1 = V2 r 1 := fun x => by unfold uI; rw [if_neg (fun c => by cases c.2)]
  have w2 : ∀ x : Int, uI V2 r 2 x r 2 = x := fun x => by unfold uI; rw [if_pos ⟨rfl, rfl⟩]
  have w3 : ∀ x : Int, uI V2 r 2 x (sr sh r 0) = V2 (sr sh r 0) := fun x => by funext j; unfold uI; rw [if_neg (fun c => hn c.1.symm)]
  refine ⟨_, rfl, (u1.trans u2).1.trans (uI_fr (List.mem_cons_self)), ⟨q.1, by rw [w1]; exact u2.2.1.2.1, by rw [w1]; exact u2.2.1.2.2.1, by rw [w2, v2]; exact p.2.2.2⟩, ?_, by rw [w2, v2]⟩
  rw [← u2.2.2.1]; unfold tx; rw [w1, w3]
