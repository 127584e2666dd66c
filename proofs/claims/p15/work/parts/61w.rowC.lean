set_option maxRecDepth 16384
/-! texts, looks at whole rows, what is added to a row -/
/-- what RwU says, with what was there told -/
theorem RwU.ad {sh : zSh} {V V' W : wSt} {r : Nat} {L M N : List Int} {th : Int} (h : RwU sh V V' r ((L ++ M).take (cap sh r)) th) (g : RwU sh V' W r ((tx sh V' r ++ N).take (cap sh r)) (V' r 2)) : RwU sh V W r ((L ++ (M ++ N)).take (cap sh r)) th := by
  have k := h.trans g
  rw [h.2.2.1, adT, h.2.2.2] at k
  exact k
theorem RwU.ad0 {sh : zSh} {V V' : wSt} {r : Nat} {N : List Int} (g : RwU sh V V' r ((tx sh V r ++ N).take (cap sh r)) (V r 2)) {M : List Int} (e : N = M) : RwU sh V V' r ((tx sh V r ++ M).take (cap sh r)) (V r 2) := by rw [← e]; exact g
theorem RwU.nil {sh : zSh} {V : wSt} {r : Nat} (q : wRo sh V r) : RwU sh V V r ((tx sh V r ++ []).take (cap sh r)) (V r 2) := by
  refine ⟨FrO.refl, q, ?_, rfl⟩
  rw [List.append_nil, List.take_of_length_le (tx_cap q).1]
/-- a text of the program -/
def zT (k : Nat) : List Int := (ztx.getD (k - 1) []).map (fun n : Nat => (n : Int))
def zTb (k : Nat) : Prop := (ztx.getD (k - 1) []).all (fun n => n ≤ 255) = true ∧ (ztx.getD (k - 1) []).length ≤ 100
theorem zT_len (k : Nat) : (zT k).length = (ztx.getD (k - 1) []).length := List.length_map ..
theorem zT_at {k j : Nat} (h : j < (zT k).length) : (zT k).getD j 0 = (((ztx.getD (k - 1) []).getD j 0 : Nat) : Int) := by
  rw [zT_len] at h
  unfold zT
  generalize ztx.getD (k - 1) [] = T at h ⊢
  rw [List.getD_eq_getElem?_getD, List.getD_eq_getElem?_getD, List.getElem?_map, List.getElem?_eq_getElem h]; rfl
theorem zT_b {k : Nat} (h : zTb k) : lB (zT k) := fun j hj => by
  rw [zT_at hj]
  rw [zT_len] at hj
  have a := List.all_eq_true.mp h.1 ((ztx.getD (k - 1) [])[j]) (List.getElem_mem hj)
  rw [List.getD_eq_getElem?_getD, List.getElem?_eq_getElem hj]
  have b := of_decide_eq_true a
  show 0 ≤ (((ztx.getD (k - 1) [])[j] : Nat) : Int) ∧ (((ztx.getD (k - 1) [])[j] : Nat) : Int) ≤ 255
  omega
theorem S60_2 {sh : zSh} {r k : Nat} (hk : zTb k) : ∀ (n : Nat) (V : wSt) (x : Int), (((zT k).length : Int) - x).toNat = n → 0 ≤ x → wRo sh V r → ∃ V', wev zP 60 2 [some (wR r), some (wX k), some (wI x)] [] (sh, V) = rN (sh, V') ∧ RwU sh V V' r ((tx sh V r ++ (zT k).drop x.toNat).take (cap sh r)) (V r 2) := by
  have zl := zT_len k
  have hk2 := hk.2
  intro n
  induction n with
  | zero =>
    intro V x hn hx q
    refine ⟨V, ?_, ?_⟩
    · rw [w60_2, if_pos (by omega)]
    · rw [List.drop_of_length_le (by omega)]; exact RwU.nil q
  | succ n ih =>
    intro V x hn hx q
    have b := zT_b hk x.toNat (by omega)
    have a := zT_at (k := k) (j := x.toNat) (by omega)
    obtain ⟨V1, e1, u1⟩ := S59g q (((ztx.getD (k - 1) []).getD x.toNat 0 : Nat) : Int)
    rw [← a, wand_id b] at u1
    obtain ⟨V2, e2, u2⟩ := ih V1 (x + 1) (by omega) (by omega) u1.2.1
    refine ⟨V2, ?_, ?_⟩
    · rw [w60_2, if_neg (by omega), e1]
      simp only [wcx_v, wput_n, w60_19]
      rw [wr_eq (by omega) (by omega), e2]
    · have d := drop_gl (L := zT k) hx (by omega)
      rw [d, gl_in hx (by omega)]
      exact u1.ad u2
theorem S60 {sh : zSh} {V : wSt} {r k : Nat} (q : wRo sh V r) (hk : zTb k) : ∃ V', wcl zP 60 [wR r, wX k] (sh, V) = rN (sh, V') ∧ RwU sh V V' r ((tx sh V r ++ zT k).take (cap sh r)) (V r 2) := by
  rw [w60_0]
  exact S60_2 hk _ V 0 rfl (by decide) q
theorem RwU.th {sh : zSh} {V V' : wSt} {r : Nat} {L : List Int} {th : Int} (h : RwU sh V V' r L th) (x : Int) (hx : x = 0 ∨ x = 1) : RwU sh V (uI V' r 2 x) r L x := by
  have hn := row_ne h.2.1.1 h.2.1.1
  have w1 : uI V' r 2 x r 1 = V' r 1 := by unfold uI; rw [if_neg (fun c => by cases c.2)]
  have w2 : uI V' r 2 x r 2 = x := by unfold uI; rw [if_pos ⟨rfl, rfl⟩]
  have w3 : uI V' r 2 x (sr sh r 0) = V' (sr sh r 0) := by funext j; unfold uI; rw [if_neg (fun c => hn c.1.symm)]
  refine ⟨h.1.trans (uI_fr (List.mem_cons_self)), ⟨h.2.1.1, by rw [w1]; exact h.2.1.2.1, by rw [w1]; exact h.2.1.2.2.1, by rw [w2]; exact hx⟩, ?_, w2⟩
  rw [← h.2.2.1]; unfold tx; rw [w1, w3]
theorem S65 {sh : zSh} {V : wSt} {r k : Nat} (q : wRo sh V r) (hk : zTb k) : ∃ V', wcl zP 65 [wR r, wX k] (sh, V) = rN (sh, V') ∧ RwU sh V V' r ((zT k).take (cap sh r)) 1 := by
  obtain ⟨V1, e1, u1, -⟩ := S62 (V := V) q.1
  obtain ⟨V2, e2, u2⟩ := S60 u1.2.1 hk
  rw [u1.2.2.1, List.nil_append] at u2
  refine ⟨_, ?_, (u1.trans u2).th 1 (Or.inr rfl)⟩
  rw [w65_0, e1]
  simp only [wcx_v, wput_n, w65_4]
  rw [e2]
  simp only [wcx_v, wput_n, w65_9]
theorem S66_26 {sh : zSh} {V : wSt} {r s : Nat} (q : wRo sh V r) (p : wRo sh V s) (h : V r 1 = V s 1) : ∀ (n : Nat) (x : Int), (V r 1 - x).toNat = n → 0 ≤ x → wev zP 66 26 [some (wR r), some (wR s), some (wI x)] [] (sh, V) = rI (bI ((tx sh V r).drop x.toNat = (tx sh V s).drop x.toNat)) (sh, V) := by
  have z := q.sz
  have tr := tx_sz q
  have ts := tx_sz p
  intro n
  induction n with
  | zero =>
    intro x hn hx
    rw [w66_26, if_pos (by omega), bI_1 (by rw [List.drop_of_length_le (by omega), List.drop_of_length_le (by omega)])]
  | succ n ih =>
    intro x hn hx
    rw [w66_26, if_neg (by omega), S57 q]
    simp only [wcx_v, wput_s, w66_39, S57 p, w66_44]
    rw [drop_gl (L := tx sh V r) hx (by omega), drop_gl (L := tx sh V s) hx (by omega)]
    by_cases c : gl (tx sh V r) x = gl (tx sh V s) x
    · rw [if_pos c, wr_eq (by omega) (by omega), ih _ (by omega) (by omega)]
      refine rI_cg ?_
      rw [c]
      by_cases d : (tx sh V r).drop (x + 1).toNat = (tx sh V s).drop (x + 1).toNat
      · rw [bI_1 d, bI_1 (by rw [d])]
      · rw [bI_0 d, bI_0 (fun w => d (List.cons.inj w).2)]
    · rw [if_neg c, bI_0 (fun w => c (List.cons.inj w).1)]
theorem S66 {sh : zSh} {V : wSt} {r s : Nat} (q : wRo sh V r) (p : wRo sh V s) : wcl zP 66 [wR r, wR s] (sh, V) = rI (bI (V r 2 = V s 2 ∧ tx sh V r = tx sh V s)) (sh, V) := by
  have tr := tx_sz q
  have ts := tx_sz p
  rw [w66_0]
  by_cases c : V r 2 = V s 2
  · rw [if_pos c]
    by_cases d : V r 1 = V s 1
    · rw [if_pos d, S66_26 q p d _ 0 rfl (by decide)]
      refine rI_cg ?_
      rw [show (0 : Int).toNat = 0 from rfl, List.drop_zero, List.drop_zero]
      by_cases w : tx sh V r = tx sh V s
      · rw [bI_1 w, bI_1 ⟨c, w⟩]
      · rw [bI_0 w, bI_0 (fun z => w z.2)]
    · rw [if_neg d, bI_0 (fun z => d (by rw [← tr, ← ts, z.2]))]
  · rw [if_neg c, bI_0 (fun z => c z.1)]
theorem S67_15 {sh : zSh} {V : wSt} {r k : Nat} (q : wRo sh V r) (hk : zTb k) (h : V r 1 = ((zT k).length : Int)) : ∀ (n : Nat) (x : Int), (V r 1 - x).toNat = n → 0 ≤ x → wev zP 67 15 [some (wR r), some (wX k), some (wI x)] [] (sh, V) = rI (bI ((tx sh V r).drop x.toNat = (zT k).drop x.toNat)) (sh, V) := by
  have z := q.sz
  have tr := tx_sz q
  have zl := zT_len k
  intro n
  induction n with
  | zero =>
    intro x hn hx
    rw [w67_15, if_pos (by omega), bI_1 (by rw [List.drop_of_length_le (by omega), List.drop_of_length_le (by omega)])]
  | succ n ih =>
    intro x hn hx
    rw [w67_15, if_neg (by omega), S57 q]
    simp only [wcx_v, wput_s, w67_28]
    rw [← zT_at (by omega), ← gl_in hx (by omega), drop_gl (L := tx sh V r) hx (by omega), drop_gl (L := zT k) hx (by omega)]
    by_cases c : gl (tx sh V r) x = gl (zT k) x
    · rw [if_pos c, wr_eq (by omega) (by omega), ih _ (by omega) (by omega)]
      refine rI_cg ?_
      rw [c]
      by_cases d : (tx sh V r).drop (x + 1).toNat = (zT k).drop (x + 1).toNat
      · rw [bI_1 d, bI_1 (by rw [d])]
      · rw [bI_0 d, bI_0 (fun w => d (List.cons.inj w).2)]
    · rw [if_neg c, bI_0 (fun w => c (List.cons.inj w).1)]
theorem S67 {sh : zSh} {V : wSt} {r k : Nat} (q : wRo sh V r) (hk : zTb k) : wcl zP 67 [wR r, wX k] (sh, V) = rI (bI (tx sh V r = zT k)) (sh, V) := by
  have tr := tx_sz q
  have zl := zT_len k
  rw [w67_0, ← zl]
  by_cases d : V r 1 = ((zT k).length : Int)
  · rw [if_pos d, S67_15 q hk d _ 0 rfl (by decide)]
    refine rI_cg ?_
    rw [show (0 : Int).toNat = 0 from rfl, List.drop_zero, List.drop_zero]
  · rw [if_neg d, bI_0 (fun z => d (by rw [← tr, z]))]
/-- how many of the signs are b -/
def lc (b : Int) : List Int → Int
  | [] => 0
  | x :: L => (if x = b then 1 else 0) + lc b L
theorem lc_r (b : Int) (L : List Int) : 0 ≤ lc b L ∧ lc b L ≤ (L.length : Int) := by
  induction L with
  | nil => exact ⟨Int.le_refl 0, Int.le_refl 0⟩
  | cons x L ih => rw [lc, List.length_cons]; split <;> omega
theorem S70_5 {sh : zSh} {V : wSt} {r : Nat} (q : wRo sh V r) (b f : Int) : ∀ (n : Nat) (x v : Int), (V r 1 - x).toNat = n → 0 ≤ x → 0 ≤ v → v ≤ x → wev zP 70 5 [some (wR r), some (wI b), some (wI f), some (wI v), some (wI x)] [] (sh, V) = rI (v + lc b ((tx sh V r).drop x.toNat)) (sh, V) := by
  have z := q.sz
  have tr := tx_sz q
  intro n
  induction n with
  | zero =>
    intro x v hn hx h0 h1
    rw [w70_5, if_pos (by omega), List.drop_of_length_le (by omega)]
    exact rI_cg (by show v = v + 0; omega)
  | succ n ih =>
    intro x v hn hx h0 h1
    rw [w70_5, if_neg (by omega), S57 q]
    simp only [wcx_v, wput_s, w70_20]
    rw [drop_gl (L := tx sh V r) hx (by omega), lc]
    by_cases c : gl (tx sh V r) x = b
    · rw [if_pos c, if_pos c, wr_eq (by omega) (by omega), wr_eq (by omega) (by omega), ih _ _ (by omega) (by omega) (by omega) (by omega)]
      exact rI_cg (by omega)
    · rw [if_neg c, if_neg c, wr_eq (by omega) (by omega), ih _ _ (by omega) (by omega) (by omega) (by omega)]
      exact rI_cg (by omega)
theorem S70 {sh : zSh} {V : wSt} {r : Nat} (q : wRo sh V r) (b f : Int) (hf : 0 ≤ f) : wcl zP 70 [wR r, wI b, wI f] (sh, V) = rI (lc b ((tx sh V r).drop f.toNat)) (sh, V) := by
  rw [w70_0, S70_5 q b f _ f 0 rfl hf (by decide) hf]
  exact rI_cg (by omega)
/-- where a piece begins -/
def sop (f : Int → Int) (b e : Int) : Nat → Int → Int
  | 0, s => s
  | n + 1, s => sop f b e n (cfn f b s e + 1)
theorem S71_6 {sh : zSh} {V : wSt} {r : Nat} (q : wRo sh V r) (b p a : Int) (hp : p ≤ 1000000) : ∀ (n : Nat) (x s : Int), (p - x).toNat = n → 0 ≤ x → -1 ≤ s ∧ s ≤ 200000 → wev zP 71 6 [some (wR r), some (wI b), some (wI p), some (wI a), some (wI s), some (wI x)] [] (sh, V) = rI (sop (gl (tx sh V r)) b (V r 1) n s) (sh, V) := by
  have z := q.sz
  intro n
  induction n with
  | zero => intro x s hn hx hs; rw [w71_6, if_pos (by omega)]; rfl
  | succ n ih =>
    intro x s hn hx hs
    have cr : -1 ≤ cfn (gl (tx sh V r)) b s (V r 1) ∧ cfn (gl (tx sh V r)) b s (V r 1) ≤ 100000 := by
      have cr := cfn_r (gl (tx sh V r)) b s (V r 1)
      by_cases w : s ≤ V r 1
      · have := cr.1 w; omega
      · have := cr.2 (by omega); omega
    rw [w71_6, if_neg (by omega), S68 q b s (V r 1) (by omega) (by omega)]
    simp only [wcx_v, wput_s, w71_23]
    rw [wr_eq (by omega) (by omega), wr_eq (by omega) (by omega), ih _ _ (by omega) (by omega) (by omega), sop]
theorem S71 {sh : zSh} {V : wSt} {r : Nat} (q : wRo sh V r) (b p a : Int) (hp : p ≤ 1000000) (ha : -1 ≤ a ∧ a ≤ 200000) : wcl zP 71 [wR r, wI b, wI p, wI a] (sh, V) = rI (sop (gl (tx sh V r)) b (V r 1) p.toNat a) (sh, V) := by
  rw [w71_0, S71_6 q b p a hp _ 0 a rfl (by decide) ha, Int.sub_zero]
