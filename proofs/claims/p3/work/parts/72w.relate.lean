set_option maxRecDepth 16384
/-! what relating does -/
/-- where the beginning ends that two paths share: behind its last / -/
def shbA (f g : Int → Int) : Nat → Int → Int → Int
  | 0, _, s => s
  | n + 1, i, s => if f i = g i then shbA f g n (i + 1) (if f i = 47 then i + 1 else s) else s
def shb (L M : List Int) : Int := shbA (gl L) (gl M) (if (M.length : Int) < L.length then M.length else L.length) 0 0
theorem shbA_r (f g : Int → Int) : ∀ (n : Nat) (i s : Int), 0 ≤ s → s ≤ i → 0 ≤ shbA f g n i s ∧ shbA f g n i s ≤ i + n := by
  intro n
  induction n with
  | zero => intro i s h1 h2; show 0 ≤ s ∧ s ≤ i + ((0 : Nat) : Int); omega
  | succ n ih =>
    intro i s h1 h2
    rw [shbA]
    split
    · have := ih (i + 1) (if f i = 47 then i + 1 else s) (by split <;> omega) (by split <;> omega)
      omega
    · omega
theorem shb_r (L M : List Int) : 0 ≤ shb L M ∧ shb L M ≤ M.length ∧ shb L M ≤ L.length := by
  have h := shbA_r (gl L) (gl M) (if (M.length : Int) < L.length then M.length else L.length) 0 0 (by decide) (by decide)
  unfold shb
  split at h <;> split <;> omega
theorem S51_17 {sh : zSh} {V : wSt} {r t : Nat} (q : wRo sh V r) (p : wRo sh V t) (m : Int) (hm : m ≤ 100000) : ∀ (n : Nat) (i s : Int), (m - i).toNat = n → 0 ≤ i → wev zP 51 17 [some (wR r), some (wR t), some (wI s), some (wI m), some (wI i)] [] (sh, V) = rI (shbA (gl (tx sh V r)) (gl (tx sh V t)) n i s) (sh, V) := by
  intro n
  induction n with
  | zero => intro i s hn hi; rw [w51_17, if_pos (by omega)]; rfl
  | succ n ih =>
    intro i s hn hi
    rw [w51_17, if_neg (by omega), S57 q]
    simp only [wcx_v, wput_s, w51_29, S57 p, w51_35]
    rw [shbA]
    by_cases c : gl (tx sh V r) i = gl (tx sh V t) i
    · rw [if_pos c, if_pos c, S57 q]
      simp only [wcx_v, wput_s, w51_44]
      rw [wr_eq (by omega) (by omega), ih _ _ (by omega) (by omega), ih _ _ (by omega) (by omega)]
      by_cases d : gl (tx sh V r) i = 47
      · rw [if_pos d, if_pos d]
      · rw [if_neg d, if_neg d]
    · rw [if_neg c, if_neg c]
theorem S51 {sh : zSh} {V : wSt} {r t : Nat} (q : wRo sh V r) (p : wRo sh V t) : wcl zP 51 [wR r, wR t] (sh, V) = rI (shb (tx sh V r) (tx sh V t)) (sh, V) := by
  have z := q.sz
  have z2 := p.sz
  have t1 := tx_sz q
  have t2 := tx_sz p
  rw [w51_0]
  unfold shb
  rw [S51_17 q p _ (by split <;> omega) _ 0 0 rfl (by decide), ← t1, ← t2]
  refine rI_cg ?_
  congr 1
  split <;> omega
/-- whether a ./ must stand before what is left -/
noncomputable def ndp (L : List Int) (s : Int) : Int := bI (cfn (gl L) 47 s L.length = s ∨ cfn (gl L) 58 s (cfn (gl L) 47 s L.length) < cfn (gl L) 47 s L.length)
theorem S52 {sh : zSh} {V : wSt} {r : Nat} (q : wRo sh V r) (s : Int) (hs : 0 ≤ s ∧ s ≤ V r 1) : wcl zP 52 [wR r, wI s] (sh, V) = rI (ndp (tx sh V r) s) (sh, V) := by
  have z := q.sz
  have t1 := tx_sz q
  unfold ndp
  rw [w52_0, S68 q 47 s (V r 1) (by omega) (by omega), t1]
  simp only [wcx_v, wput_s, w52_11]
  have cr := (cfn_r (gl (tx sh V r)) 47 s (V r 1)).1 hs.2
  by_cases c : cfn (gl (tx sh V r)) 47 s (V r 1) = s
  · rw [if_pos c, bI_1 (Or.inl c)]
  · rw [if_neg c, S68 q 58 s _ (by omega) (by omega)]
    simp only [wcx_v, wput_s, w52_25]
    by_cases d : cfn (gl (tx sh V r)) 58 s (cfn (gl (tx sh V r)) 47 s (V r 1)) < cfn (gl (tx sh V r)) 47 s (V r 1)
    · rw [if_neg (by omega), bI_1 (Or.inr d)]
    · rw [if_pos (by omega), bI_0 (fun w => w.elim c d)]
/-- so many steps up -/
def ups : Nat → List Int
  | 0 => []
  | n + 1 => [46, 46, 47] ++ ups n
theorem zT_56 : zT 5 = [46, 46, 47] ∧ zT 6 = [46, 47] := by decide
noncomputable def clm (L M : List Int) : List Int := ups (lc 47 (L.drop (shb L M).toNat)).toNat ++ ((if lc 47 (L.drop (shb L M).toNat) = 0 ∧ ndp M (shb L M) = 1 then [46, 47] else []) ++ M.drop (shb L M).toNat)
theorem S50_18 {sh : zSh} {r s t : Nat} (Z : zInj sh) (hs : zRow sh s) (ht : zRow sh t) (ns : s ≠ r) (nt : t ≠ r) (b u : Int) (hu : u ≤ 100000) : ∀ (n : Nat) (V : wSt) (i : Int), (u - i).toNat = n → 0 ≤ i → wRo sh V r → wRo sh V t → ∃ V', wev zP 50 18 [some (wR r), some (wR s), some (wR t), some (wI b), some (wI u), some (wI i)] [] (sh, V) = (if u = 0 then wcx (wcl zP 52 [wR t, wI b] (sh, V')) (fun v h' => wev zP 50 47 [some (wR r), some (wR s), some (wR t), some (wI b), some (wI u), some (wI (i + n))] (wput v []) h') wth else wev zP 50 56 [some (wR r), some (wR s), some (wR t), some (wI b), some (wI u), some (wI (i + n))] [] (sh, V')) ∧ RwU sh V V' r ((tx sh V r ++ ups n).take (cap sh r)) (V r 2) ∧ wRo sh V' t ∧ tx sh V' t = tx sh V t ∧ V' t = V t := by
  intro n
  induction n with
  | zero =>
    intro V i hn hi q p
    refine ⟨V, ?_, RwU.nil q, p, rfl, rfl⟩
    rw [w50_18, if_pos (by omega), show i + ((0 : Nat) : Int) = i by omega]
  | succ n ih =>
    intro V i hn hi q p
    obtain ⟨V1, e1, u1⟩ := S60 q (zTb_of (k := 5) (by decide))
    rw [zT_56.1] at u1
    obtain ⟨p1, pt, pv⟩ := u1.fr q.1 p nt (Z _ _ ht q.1 nt)
    obtain ⟨V2, e2, u2, p2, t2, v2⟩ := ih V1 (i + 1) (by omega) (by omega) u1.2.1 p1
    refine ⟨V2, ?_, u1.ad u2, p2, t2.trans pt, v2.trans pv⟩
    rw [w50_18, if_neg (by omega), e1]
    simp only [wcx_v, wput_n, w50_31]
    rw [wr_eq (by omega) (by omega), e2, show i + 1 + (n : Int) = i + ((n + 1 : Nat) : Int) by omega]
theorem S50 {sh : zSh} {V : wSt} {r s t : Nat} (Z : zInj sh) (q : wRo sh V r) (ps : wRo sh V s) (pt : wRo sh V t) (ns : s ≠ r) (nt : t ≠ r) : ∃ V', wcl zP 50 [wR r, wR s, wR t] (sh, V) = rN (sh, V') ∧ RwU sh V V' r ((tx sh V r ++ clm (tx sh V s) (tx sh V t)).take (cap sh r)) (V r 2) := by
  have z := ps.sz
  have z2 := pt.sz
  have t1 := tx_sz ps
  have t2 := tx_sz pt
  obtain ⟨b, hb⟩ : ∃ b, b = shb (tx sh V s) (tx sh V t) := ⟨_, rfl⟩
  have br := shb_r (tx sh V s) (tx sh V t)
  rw [← hb] at br
  obtain ⟨u, hu⟩ : ∃ u, u = lc 47 ((tx sh V s).drop b.toNat) := ⟨_, rfl⟩
  have ur := lc_r 47 ((tx sh V s).drop b.toNat)
  rw [← hu, List.length_drop] at ur
  obtain ⟨V1, e1, u1, p1, x1, v1⟩ := S50_18 (r := r) Z ps.1 pt.1 ns nt b u (by omega) _ V 0 rfl (by decide) q pt
  rw [Int.sub_zero] at u1 e1
  have h0 : wcl zP 50 [wR r, wR s, wR t] (sh, V) = wev zP 50 18 [some (wR r), some (wR s), some (wR t), some (wI b), some (wI u), some (wI 0)] [] (sh, V) := by
    rw [w50_0, S51 ps pt, ← hb]
    simp only [wcx_v, wput_s, w50_5]
    rw [S70 ps 47 b (by omega), ← hu]
    simp only [wcx_v, wput_s, w50_13]
  have fin : ∀ (V2 : wSt) (M : List Int) (o : Option wV), (o = some (wI (0 + (u.toNat : Int)))) → RwU sh V V2 r ((tx sh V r ++ M).take (cap sh r)) (V r 2) → wRo sh V2 t → tx sh V2 t = tx sh V t → V2 t = V t → ∃ V', wev zP 50 56 [some (wR r), some (wR s), some (wR t), some (wI b), some (wI u), o] [] (sh, V2) = rN (sh, V') ∧ RwU sh V V' r ((tx sh V r ++ (M ++ (tx sh V t).drop b.toNat)).take (cap sh r)) (V r 2) := by
    intro V2 M o ho u2 p2 x2 v2
    obtain ⟨V3, e3, u3⟩ := S61g u2.2.1 p2 b (V2 t 1) (by omega) (by rw [v2]; omega)
    have sb : sub (tx sh V t) b (V t 1) = (tx sh V t).drop b.toNat := by
      unfold sub; rw [List.take_of_length_le (by rw [List.length_drop]; omega)]
    rw [x2, v2, sb] at u3
    refine ⟨V3, ?_, u2.ad u3⟩
    rw [ho, w50_56, e3]; simp only [wcx_v, wput_n, w50_66]
  have cl : clm (tx sh V s) (tx sh V t) = ups u.toNat ++ ((if u = 0 ∧ ndp (tx sh V t) b = 1 then [46, 47] else []) ++ (tx sh V t).drop b.toNat) := by unfold clm; rw [← hb, ← hu]
  rw [h0, e1, cl]
  by_cases c : u = 0
  · rw [if_pos c, S52 p1 b (by rw [v1]; omega), x1]
    simp only [wcx_v, wput_s, w50_47]
    have nr : ndp (tx sh V t) b = 0 ∨ ndp (tx sh V t) b = 1 := by unfold ndp; exact bI_r _
    by_cases d : ndp (tx sh V t) b = 0
    · rw [if_pos d, if_neg (fun w => by have := w.2; omega), List.nil_append]
      exact fin V1 _ _ rfl u1 p1 x1 v1
    · rw [if_neg d, if_pos ⟨c, by omega⟩]
      obtain ⟨V2, e2, u2⟩ := S60 u1.2.1 (zTb_of (k := 6) (by decide))
      rw [zT_56.2] at u2
      obtain ⟨p2, x2, v2⟩ := u2.fr q.1 p1 nt (Z _ _ pt.1 q.1 nt)
      obtain ⟨V3, e3, u3⟩ := fin V2 _ _ rfl (u1.ad u2) p2 (x2.trans x1) (v2.trans v1)
      rw [List.append_assoc] at u3
      refine ⟨V3, ?_, u3⟩
      rw [e2]; simp only [wcx_v, wput_n]; exact e3
  · rw [if_neg c, if_neg (fun w => c w.1), List.nil_append]
    exact fin V1 _ _ rfl u1 p1 x1 v1
/-- the w-th way from a base to a target -/
noncomputable def qWay (w : Int) (B T : Nat → List Int × Int) : Nat → List Int × Int := fun k =>
  if k = 6 then T 6
  else if k = 5 then (if 1 ≤ w then T 5 else ([], 0))
  else if k = 4 then (if 3 ≤ w then T 4 else if w = 2 then ((clm (B 4).1 (T 4).1).take 808, 1) else ([], 1))
  else if k = 0 then (if 5 ≤ w then T 0 else ([], 0))
  else if 4 ≤ w then T k else ([], 0)
