set_option maxRecDepth 16384
/-! what relating does -/
/-- where the beginning ends that two paths share: behind its last / -/
def shbA (f g : Int → Int) : Nat → Int → Int → Int
  | 0, _, s => s
  | n + 1, i, s => if f i = g i then shbA f g n (i + 1) (if f i = 47 then i + 1 else s) else s
def shb (L M : List Int) : Int := shbA (gl L) (gl M) (if (M.length : Int) < L.length then M.length else L.length) 0 0
theorem shbA_r (f g : Int → Int) : ∀ (n : Nat) (i s : Int), 0 ≤ s → s ≤ i → 0 ≤ shbA f g n i s ∧ shbA f g n i s ≤ i + n := by
  intro n
  induction n with
  | zero => intro i s h1 h2; show 0 ≤ s ∧ s ≤ i + ((0 : Nat) : Int); omega
  | succ n ih =>
    intro i s h1 h2
    rw [shbA]
    split
    · have := ih (i + 1) (if f i = 47 then i + 1 else s) (by split <;> omega) (by split <;> omega)
      omega
    · omega
theorem shb_r (L M : List Int) : 0 ≤ shb L M ∧ shb L M ≤ M.length ∧ shb L M ≤ L.length := by
  have h := shbA_r (gl L) (gl M) (if (M.length : Int) < L.length then M.length else L.length) 0 0 (by decide) (by decide)
  unfold shb
  split at h <;> split <;> omega
theorem S51_17 {sh : zSh} {V : wSt} {r t : Nat} (q : wRo sh V r) (p : wRo sh V t) (m : Int) (hm : m ≤ 100000) : ∀ (n : Nat) (i s : Int), (m - i).toNat = n → 0 ≤ i → wev zP 51 17 [some (wR r), some (wR t), some (wI s), some (wI m), some (wI i)] [] (sh, V) = rI (shbA (gl (tx sh V r)) (gl (tx sh V t)) n i s) (sh, V) := by
  intro n
  induction n with
  | zero => intro i s hn hi; rw [w51_17, if_pos (by omega)]; rfl
  | succ n ih =>
    intro i s hn hi
    rw [w51_17, if_neg (by omega), S57 q]
    simp only [wcx_v, wput_s, w51_29, S57 p, w51_35]
    rw [shbA]
    by_cases c : gl (tx sh V r) i = gl (tx sh V t) i
    · rw [if_pos c, if_pos c, S57 q]
      simp only [wcx_v, wput_s, w51_44]
      rw [wr_eq (by omega) (by omega), ih _ _ (by omega) (by omega), ih _ _ (by omega) (by omega)]
      by_cases d : gl (tx sh V r) i = 47
      · rw [if_pos d, if_pos d]
      · rw [if_neg d, if_neg d]
    · rw [if_neg c, if_neg c]
theorem S51 {sh : zSh} {V : wSt} {r t : Nat} (q : wRo sh V r) (p : wRo sh V t) : wcl zP 51 [wR r, wR t] (sh, V) = rI (shb (tx sh V r) (tx sh V t)) (sh, V) := by
  have z := q.sz
  have z2 := p.sz
  have t1 := tx_sz q
  have t2 := tx_sz p
  rw [w51_0]
  unfold shb
  rw [S51_17 q p _ (by split <;> omega) _ 0 0 rfl (by decide), ← t1, ← t2]
  refine rI_cg ?_
  congr 1
  split <;> omega
/-- whether a ./ must stand before what is left -/
noncomputable def ndp (L : List Int) (s : Int) : Int := bI (cfn (gl L) 47 s L.length = s ∨ cfn (gl L) 58 s (cfn (gl L) 47 s L.length) < cfn (gl L) 47 s L.length)
theorem S52 {sh : zSh} {V : wSt} {r : Nat} (q : wRo sh V r) (s : Int) (hs : 0 ≤ s ∧ s ≤ V r 1) : wcl zP 52 [wR r, wI s] (sh, V) = rI (ndp (tx sh V r) s) (sh, V) := by
  have z := q.sz
  have t1 := tx_sz q
  unfold ndp
  rw [w52_0, S68 q 47 s (V r 1) (by omega) (by omega), t1]
  simp only [wcx_v, wput_s, w52_11]
  have cr := (cfn_r (gl (tx sh V r)) 47 s (V r 1)).1 hs.2
  by_cases c : cfn (gl (tx sh V r)) 47 s (V r 1) = s
  · rw [if_pos c, bI_1 (Or.inl c)]
  · rw [if_neg c, S68 q 58 s _ (by omega) (by omega)]
    simp only [wcx_v, wput_s, w52_25]
    by_cases d : cfn (gl (tx sh V r)) 58 s (cfn (gl (tx sh V r)) 47 s (V r 1)) < cfn (gl (tx sh V r)) 47 s (V r 1)
    · rw [if_neg (by omega), bI_1 (Or.inr d)]
    · rw [if_pos (by omega), bI_0 (fun w => w.elim c d)]
/-- so many steps up -/
def ups : Nat → List Int
  | 0 => []
  | n + 1 => [46, 46, 47] ++ ups n
theorem zT_56 : zT 5 = [46, 46, 47] ∧ zT 6 = [46, 47] := by decide
noncomputable def clm (L M : List Int) : List Int := ups (lc 47 (L.drop (shb L M).toNat)).toNat ++ ((if lc 47 (L.drop (shb L M).toNat) = 0 ∧ ndp M (shb L M) = 1 then [46, 47] else []) ++ M.drop (shb L M).toNat)
theorem S50_18 {sh : zSh} {r s t : Nat} (Z : zInj sh) (hs : zRow sh s) (ht : zRow sh t) (ns : s ≠ r) (nt : t ≠ r) (b u : Int) (hu : u ≤ 100000) : ∀ (n : Nat) (V : wSt) (i : Int), (u - i).toNat = n → 0 ≤ i → wRo sh V r → wRo sh V t → ∃ V', wev zP 50 18 [some (wR r), some (wR s), some (wR t), some (wI b), some (wI u), some (wI i)] [] (sh, V) = (if u = 0 then wcx (wcl zP 52 [wR t, wI b] (sh, V')) (fun v h' => wev zP 50 47 [some (wR r), some (wR s), some (wR t), some (wI b), some (wI u), some (wI (i + n))] (wput v []) h') wth else wev zP 50 56 [some (wR r), some (wR s), some (wR t), some (wI b), some (wI u), some (wI (i + n))] [] (sh, V')) ∧ RwU sh V V' r ((tx sh V r ++ ups n).take (cap sh r)) (V r 2) ∧ wRo sh V' t ∧ tx sh V' t = tx sh V t ∧ V' t = V t := by
  intro n
  induction n with
  | zero =>
    intro V i hn hi q p
    refine ⟨V, ?_, RwU.nil q, p, rfl, rfl⟩
    rw [w50_18, if_pos (by omega), show i + ((0 : Nat) : Int) = i by omega]
  | succ n ih =>
    intro V i hn hi q p
    obtain ⟨V1, e1, u1⟩ := S60 q (zTb_of (k := 5) (by decide))
    rw [zT_56.1] at u1
    obtain ⟨p1, pt, pv⟩ := u1.fr q.1 p nt (Z _ _ ht q.1 nt)
    obtain ⟨V2, e2, u2, p2, t2, v2⟩ := ih V1 (i + 1) (by omega) (by omega) u1.2.1 p1
    refine ⟨V2, ?_, u1.ad u2, p2, t2.trans pt, v2.trans pv⟩
    rw [w50_18, if_neg (by omega), e1]
    simp only [wcx_v, wput_n, w50_31]
    rw [wr_eq (by omega) (by omega), e2, show i + 1 + (n : Int) = i + ((n + 1 : Nat) : Int) by omega]
theorem S50 {sh : zSh} {V : wSt} {r s t : Nat} (Z : zInj sh) (q : wRo sh V r) (ps : wRo sh V s) (pt : wRo sh V t) (ns : s ≠ r) (nt : t ≠ r) : ∃ V', wcl zP 50 [wR r, wR s, wR t] (sh, V) = rN (sh, V') ∧ RwU sh V V' r ((tx sh V r ++ clm (tx sh V s) (tx sh V t)).take (cap sh r)) (V r 2) := by
  have z := ps.sz
  have z2 := pt.sz
  have t1 := tx_sz ps
  have t2 := tx_sz pt
  obtain ⟨b, hb⟩ : ∃ b, b = shb (tx sh V s) (tx sh V t) := ⟨_, rfl⟩
  have br := shb_r (tx sh V s) (tx sh V t)
  rw [← hb] at br
  obtain ⟨u, hu⟩ : ∃ u, u = lc 47 ((tx sh V s).drop b.toNat) := ⟨_, rfl⟩
  have ur := lc_r 47 ((tx sh V s).drop b.toNat)
  rw [← hu, List.length_drop] at ur
  obtain ⟨V1, e1, u1, p1, x1, v1⟩ := S50_18 (r := r) Z ps.1 pt.1 ns nt b u (by omega) _ V 0 rfl (by decide) q pt
  rw [Int.sub_zero] at u1 e1
  have h0 : wcl zP 50 [wR r, wR s, wR t] (sh, V) = wev zP 50 18 [some (wR r), some (wR s), some (wR t), some (wI b), some (wI u), some (wI 0)] [] (sh, V) := by
    rw [w50_0, S51 ps pt, ← hb]
    simp only [wcx_v, wput_s, w50_5]
    rw [S70 ps 47 b (by omega), ← hu]
    simp only [wcx_v, wput_s, w50_13]
  have fin : ∀ (V2 : wSt) (M : List Int) (o : Option wV), (o = some (wI (0 + (u.toNat : Int)))) → RwU sh V V2 r ((tx sh V r ++ M).take (cap sh r)) (V r 2) → wRo sh V2 t → tx sh V2 t = tx sh V t → V2 t = V t → ∃ V', wev zP 50 56 [some (wR r), some (wR s), some (wR t), some (wI b), some (wI u), o] [] (sh, V2) = rN (sh, V') ∧ RwU sh V V' r ((tx sh V r ++ (M ++ (tx sh V t).drop b.toNat)).take (cap sh r)) (V r 2) := by
    intro V2 M o ho u2 p2 x2 v2
    obtain ⟨V3, e3, u3⟩ := S61g u2.2.1 p2 b (V2 t 1) (by omega) (by rw [v2]; omega)
    have sb : sub (tx sh V t) b (V t 1) = (tx sh V t).drop b.toNat := by
      unfold sub; rw [List.take_of_length_le (by rw [List.length_drop]; omega)]
    rw [x2, v2, sb] at u3
    refine ⟨V3, ?_, u2.ad u3⟩
    rw [ho, w50_56, e3]; simp only [wcx_v, wput_n, w50_66]
  have cl : clm (tx sh V s) (tx sh V t) = ups u.toNat ++ ((if u = 0 ∧ ndp (tx sh V t) b = 1 then [46, 47] else []) ++ (tx sh V t).drop b.toNat) := by unfold clm; rw [← hb, ← hu]
  rw [h0, e1, cl]
  by_cases c : u = 0
  · rw [if_pos c, S52 p1 b (by rw [v1]; omega), x1]
    simp only [wcx_v, wput_s, w50_47]
    have nr : ndp (tx sh V t) b = 0 ∨ ndp (tx sh V t) b = 1 := by unfold ndp; exact bI_r _
    by_cases d : ndp (tx sh V t) b = 0
    · rw [if_pos d, if_neg (fun w => by have := w.2; omega), List.nil_append]
      exact fin V1 _ _ rfl u1 p1 x1 v1
    · rw [if_neg d, if_pos ⟨c, by omega⟩]
      obtain ⟨V2, e2, u2⟩ := S60 u1.2.1 (zTb_of (k := 6) (by decide))
      rw [zT_56.2] at u2
      obtain ⟨p2, x2, v2⟩ := u2.fr q.1 p1 nt (Z _ _ pt.1 q.1 nt)
      obtain ⟨V3, e3, u3⟩ := fin V2 _ _ rfl (u1.ad u2) p2 (x2.trans x1) (v2.trans v1)
      rw [List.append_assoc] at u3
      refine ⟨V3, ?_, u3⟩
      rw [e2]; simp only [wcx_v, wput_n]; exact e3
  · rw [if_neg c, if_neg (fun w => c w.1), List.nil_append]
    exact fin V1 _ _ rfl u1 p1 x1 v1
/-- the w-th way from a base to a target -/
noncomputable def qWay (w : Int) (B T : Nat → List Int × Int) : Nat → List Int × Int := fun k =>
  if k = 6 then T 6
  else if k = 5 then (if 1 ≤ w then T 5 else ([], 0))
  else if k = 4 then (if 3 ≤ w then T 4 else if w = 2 then ((clm (B 4).1 (T 4).1).take 808, 1) else ([], 1))
  else if k = 0 then (if 5 ≤ w then T 0 else ([], 0))
  else if 4 ≤ w then T k else ([], 0)
theorem S49 {sh : zSh} {V : wSt} {p b t : Nat} (w : Int) (A : AllR sh V) (Z : zInj sh) (P : wPt sh p) (B : wPt sh b) (T : wPt sh t) (db : pdj sh p b) (dt : pdj sh p t) (C : wCp sh p 808) (lt : wLe sh V t) : ∃ V', wcl zP 49 [wR p, wI w, wR b, wR t] (sh, V) = rN (sh, V') ∧ PwU sh V V' p (qWay w (pv sh V b) (pv sh V t)) := by
  obtain ⟨Bq, hB⟩ : ∃ Q, Q = pv sh V b := ⟨_, rfl⟩
  obtain ⟨T0, hT⟩ : ∃ Q, Q = pv sh V t := ⟨_, rfl⟩
  have fT : ∀ {V' : wSt} {Q'}, PwU sh V V' p Q' → ∀ k, k < 7 → pv sh V' t k = T0 k := fun h k hk => by rw [hT]; exact h.1.pv Z P T dt hk
  have fB : ∀ {V' : wSt} {Q'}, PwU sh V V' p Q' → ∀ k, k < 7 → pv sh V' b k = Bq k := fun h k hk => by rw [hB]; exact h.1.pv Z P B db hk
  obtain ⟨V1, e1, w1⟩ := S23 A Z P
  obtain ⟨V2, e2, w2⟩ := S64q w1 Z P T dt C lt (k := 6) (by decide)
  -- the query
  obtain ⟨Q3, hQ3⟩ : ∃ Q3 : Nat → List Int × Int, Q3 = fun k => if k = 6 then T0 6 else if k = 5 then (if 1 ≤ w then T0 5 else ([], 0)) else pNo k := ⟨_, rfl⟩
  obtain ⟨V3, e3, w3⟩ : ∃ V3, wev zP 49 15 [some (wR p), some (wI w), some (wR b), some (wR t)] [] (sh, V2) = wev zP 49 31 [some (wR p), some (wI w), some (wR b), some (wR t)] [] (sh, V3) ∧ PwU sh V V3 p Q3 := by
    rw [w49_15]
    by_cases c : w < 1
    · rw [if_pos c]
      refine ⟨V2, rfl, w2.cg (fun k hk => ?_)⟩
      rw [hQ3, ← hT]; unfold pup; dsimp only
      by_cases k6 : k = 6
      · rw [if_pos k6, if_pos k6]
      · rw [if_neg k6, if_neg k6]
        by_cases k5 : k = 5
        · rw [if_pos k5, if_neg (by omega), k5]; rfl
        · rw [if_neg k5]
    · rw [if_neg c]
      obtain ⟨V3, e3, w3⟩ := S64q w2 Z P T dt C lt (k := 5) (by decide)
      refine ⟨V3, by rw [e3]; simp only [wcx_v, wput_n], w3.cg (fun k hk => ?_)⟩
      rw [hQ3, ← hT]; unfold pup; dsimp only
      by_cases k6 : k = 6
      · rw [if_neg (by omega), if_pos k6, if_pos k6]
      · rw [if_neg k6, if_neg k6]
        by_cases k5 : k = 5
        · rw [if_pos k5, if_pos k5, if_pos (by omega)]
        · rw [if_neg k5, if_neg k5]
  -- the path that climbs
  obtain ⟨Q4, hQ4⟩ : ∃ Q4 : Nat → List Int × Int, Q4 = fun k => if k = 4 then (if w = 2 then ((clm (Bq 4).1 (T0 4).1).take 808, 1) else ([], 1)) else Q3 k := ⟨_, rfl⟩
  have q34 : Q3 4 = ([], 1) := by rw [hQ3]; rfl
  obtain ⟨V4, e4, w4⟩ : ∃ V4, wev zP 49 31 [some (wR p), some (wI w), some (wR b), some (wR t)] [] (sh, V3) = wev zP 49 51 [some (wR p), some (wI w), some (wR b), some (wR t)] [] (sh, V4) ∧ PwU sh V V4 p Q4 := by
    rw [w49_31]
    by_cases c : w = 2
    · rw [if_pos c]
      obtain ⟨V4, e4, u4⟩ := S50 Z (w3.2.1 _ (P.1 4 (by decide))) (w3.2.1 _ (B.1 4 (by decide))) (w3.2.1 _ (T.1 4 (by decide))) (db 4 4 (by decide) (by decide)) (dt 4 4 (by decide) (by decide))
      have g4 := w3.2.2 4 (by decide)
      rw [q34] at g4
      rw [show tx sh V3 (sr sh p 4) = [] from congrArg Prod.fst g4, List.nil_append, show V3 (sr sh p 4) 2 = 1 from congrArg Prod.snd g4, show tx sh V3 (sr sh b 4) = (Bq 4).1 from congrArg Prod.fst (fB w3 4 (by decide)), show tx sh V3 (sr sh t 4) = (T0 4).1 from congrArg Prod.fst (fT w3 4 (by decide)), C 4 (by decide), if_pos rfl] at u4
      refine ⟨V4, by rw [e4]; simp only [wcx_v, wput_n], (w3.trans (u4.pw w3.2.1 Z P (by decide))).cg (fun k hk => ?_)⟩
      rw [hQ4]; unfold pup; dsimp only
      by_cases k4 : k = 4
      · rw [if_pos k4, if_pos k4, if_pos c]
      · rw [if_neg k4, if_neg k4, w3.2.2 k hk]
    · rw [if_neg c]
      refine ⟨V3, rfl, w3.cg (fun k hk => ?_)⟩
      rw [hQ4]; dsimp only
      by_cases k4 : k = 4
      · rw [if_pos k4, if_neg c, k4, q34]
      · rw [if_neg k4]
  -- the whole path
  obtain ⟨Q5, hQ5⟩ : ∃ Q5 : Nat → List Int × Int, Q5 = fun k => if k = 4 ∧ 3 ≤ w then T0 4 else Q4 k := ⟨_, rfl⟩
  obtain ⟨V5, e5, w5⟩ : ∃ V5, wev zP 49 51 [some (wR p), some (wI w), some (wR b), some (wR t)] [] (sh, V4) = wev zP 49 67 [some (wR p), some (wI w), some (wR b), some (wR t)] [] (sh, V5) ∧ PwU sh V V5 p Q5 := by
    rw [w49_51]
    by_cases c : w < 3
    · rw [if_pos c]
      exact ⟨V4, rfl, w4.cg (fun k hk => by rw [hQ5]; dsimp only; rw [if_neg (by omega)])⟩
    · rw [if_neg c]
      obtain ⟨V5, e5, w5⟩ := S64q w4 Z P T dt C lt (k := 4) (by decide)
      refine ⟨V5, by rw [e5]; simp only [wcx_v, wput_n], w5.cg (fun k hk => ?_)⟩
      rw [hQ5, ← hT]; unfold pup; dsimp only
      by_cases k4 : k = 4
      · rw [if_pos k4, if_pos (by omega)]
      · rw [if_neg k4, if_neg (by omega)]
  -- the authority
  obtain ⟨Q6, hQ6⟩ : ∃ Q6 : Nat → List Int × Int, Q6 = fun k => if (k = 1 ∨ k = 2 ∨ k = 3) ∧ 4 ≤ w then T0 k else Q5 k := ⟨_, rfl⟩
  obtain ⟨V6, e6, w6⟩ : ∃ V6, wev zP 49 67 [some (wR p), some (wI w), some (wR b), some (wR t)] [] (sh, V5) = wev zP 49 77 [some (wR p), some (wI w), some (wR b), some (wR t)] [] (sh, V6) ∧ PwU sh V V6 p Q6 := by
    rw [w49_67]
    by_cases c : w < 4
    · rw [if_pos c]
      exact ⟨V5, rfl, w5.cg (fun k hk => by rw [hQ6]; dsimp only; rw [if_neg (by omega)])⟩
    · rw [if_neg c]
      obtain ⟨V6, e6, w6⟩ := S25q w5 Z P T dt C lt
      refine ⟨V6, by rw [e6]; simp only [wcx_v, wput_n], w6.cg (fun k hk => ?_)⟩
      rw [hQ6, ← hT]; dsimp only
      by_cases k4 : k = 1 ∨ k = 2 ∨ k = 3
      · rw [if_pos k4, if_pos ⟨k4, by omega⟩]
      · rw [if_neg k4, if_neg (fun z => k4 z.1)]
  have fin : ∀ (V7 : wSt) (X : List Int × Int), PwU sh V V7 p (pup Q6 0 X) → X = (if 5 ≤ w then T0 0 else ([], 0)) → PwU sh V V7 p (qWay w Bq T0) := fun V7 X w7 hX => w7.cg (fun k hk => by
    unfold pup qWay
    by_cases k0 : k = 0
    · subst k0
      rw [if_pos rfl, hX]; rfl
    · rw [if_neg k0, hQ6]; dsimp only
      by_cases k6 : k = 6
      · subst k6
        rw [if_neg (by omega), hQ5]; dsimp only; rw [if_neg (by omega), hQ4]; dsimp only; rw [if_neg (by decide), hQ3]; rfl
      · rw [if_neg (c := k = 6) k6]
        by_cases k5 : k = 5
        · subst k5
          rw [if_neg (by omega), hQ5]; dsimp only; rw [if_neg (by omega), hQ4]; dsimp only; rw [if_neg (by decide), hQ3]; rfl
        · rw [if_neg (c := k = 5) k5]
          by_cases k4 : k = 4
          · subst k4
            rw [if_neg (by omega), hQ5]; dsimp only; rw [if_pos (c := (4 : Nat) = 4) rfl]
            by_cases c3 : 3 ≤ w
            · rw [if_pos ⟨rfl, c3⟩, if_pos c3]
            · rw [if_neg (fun z => c3 z.2), if_neg c3, hQ4]; dsimp only; rw [if_pos rfl]
          · rw [if_neg (c := k = 4) k4, if_neg (c := k = 0) k0]
            by_cases c4 : 4 ≤ w
            · rw [if_pos ⟨by omega, c4⟩, if_pos c4]
            · rw [if_neg (fun z => c4 z.2), if_neg c4, hQ5]; dsimp only; rw [if_neg (fun z => k4 z.1), hQ4]; dsimp only; rw [if_neg k4, hQ3]; dsimp only; rw [if_neg k6, if_neg k5]; unfold pNo; rw [if_neg k4])
  rw [← hB, ← hT]
  have start : wcl zP 49 [wR p, wI w, wR b, wR t] (sh, V) = wev zP 49 77 [some (wR p), some (wI w), some (wR b), some (wR t)] [] (sh, V6) := by
    rw [w49_0, e1]
    simp only [wcx_v, wput_n, w49_4]
    rw [e2]
    simp only [wcx_v, wput_n]
    rw [e3, e4, e5, e6]
  rw [start, w49_77]
  by_cases c : w < 5
  · rw [if_pos c]
    refine ⟨V6, by rw [w49_93], fin V6 ([], 0) (w6.cg (fun k hk => ?_)) (by rw [if_neg (by omega)])⟩
    unfold pup
    by_cases k0 : k = 0
    · subst k0
      rw [if_pos rfl, hQ6]; dsimp only; rw [if_neg (by omega), hQ5]; dsimp only; rw [if_neg (by omega), hQ4]; dsimp only; rw [if_neg (by decide), hQ3]; rfl
    · rw [if_neg k0]
  · rw [if_neg c]
    obtain ⟨V7, e7, w7⟩ := S64q w6 Z P T dt C lt (k := 0) (by decide)
    rw [← hT] at w7
    refine ⟨V7, by rw [e7]; simp only [wcx_v, wput_n, w49_93], fin V7 _ w7 (by rw [if_pos (by omega)])⟩
