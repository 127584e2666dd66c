set_option maxRecDepth 16384
/-! what resolving does -/
/-- two paths one behind the other -/
def mrg (B : Nat → List Int × Int) (L : List Int) : List Int := (B 4).1.take (fli (gl (B 4).1) 47 0 ((B 4).1.length - 1) + 1).toNat ++ ((if fli (gl (B 4).1) 47 0 ((B 4).1.length - 1) + 1 = 0 ∧ (B 2).2 ≠ 0 then [47] else []) ++ L)
theorem S55 {sh : zSh} {V : wSt} {p b t : Nat} (A : AllR sh V) (Z : zInj sh) (P : wPt sh p) (B : wPt sh b) (T : wPt sh t) (db : pdj sh p b) (dt : pdj sh p t) (C : wCp sh p 808) (lb : (pv sh V b 4).1.length ≤ 400) (lt : (pv sh V t 4).1.length ≤ 400) : ∃ V', wcl zP 55 [wR (sr sh p 4), wR b, wR (sr sh t 4)] (sh, V) = rN (sh, V') ∧ PwU sh V V' p (pup (pv sh V p) 4 (mrg (pv sh V b) (pv sh V t 4).1, 1)) := by
  have hr := P.1 4 (by decide)
  have qb := A _ (B.1 4 (by decide))
  have qt := A _ (T.1 4 (by decide))
  have n1 := db 4 4 (by decide) (by decide)
  have n2 := Z _ _ (B.1 4 (by decide)) hr n1
  have m1 := dt 4 4 (by decide) (by decide)
  have m2 := Z _ _ (T.1 4 (by decide)) hr m1
  have zb := qb.sz
  have zt := qt.sz
  obtain ⟨X, hX⟩ : ∃ X, X = (pv sh V b 4).1 := ⟨_, rfl⟩
  obtain ⟨Y, hY⟩ : ∃ Y, Y = (pv sh V t 4).1 := ⟨_, rfl⟩
  have tb : (X.length : Int) = V (sr sh b 4) 1 := by rw [hX]; exact tx_sz qb
  have tt : (Y.length : Int) = V (sr sh t 4) 1 := by rw [hY]; exact tx_sz qt
  have xb : tx sh V (sr sh b 4) = X := hX.symm
  have xt : tx sh V (sr sh t 4) = Y := hY.symm
  rw [← hX] at lb
  rw [← hY] at lt ⊢
  have fr := fli_r2 (gl X) 47 0 _ ((X.length : Int) - 1) rfl
  obtain ⟨F, hF⟩ : ∃ F, F = fli (gl X) 47 0 ((X.length : Int) - 1) := ⟨_, rfl⟩
  rw [← hF] at fr
  have hm : mrg (pv sh V b) Y = X.take (F + 1).toNat ++ ((if F + 1 = 0 ∧ (pv sh V b 2).2 ≠ 0 then [47] else []) ++ Y) := by unfold mrg; rw [← hX, ← hF]
  rw [hm]
  -- step by step
  have e1 := S69 qb 47 0 (V (sr sh b 4) 1) (by omega) (by omega) (by decide)
  rw [xb, ← tb, ← hF] at e1
  obtain ⟨V1, e2, u1, -⟩ := S62 (V := V) hr
  have u1' := u1.th 1 (Or.inr rfl)
  obtain ⟨W, hW⟩ : ∃ W, W = uI V1 (sr sh p 4) 2 1 := ⟨_, rfl⟩
  rw [← hW] at u1'
  obtain ⟨bw, bt, bv⟩ := u1'.fr hr qb n1 n2
  obtain ⟨V2, e3, u2⟩ := S61g u1'.2.1 bw 0 (F + 1) (by decide) (by omega)
  rw [u1'.2.2.1, bt, xb, List.nil_append, show sub X 0 (F + 1) = X.take (F + 1).toNat by unfold sub; rw [show (0 : Int).toNat = 0 from rfl, List.drop_zero, Int.sub_zero], C 4 (by decide), if_pos rfl, List.take_of_length_le (by rw [List.length_take]; omega), u1'.2.2.2] at u2
  have u12 := u1'.trans u2
  have A2 := u12.all A
  -- the host of the base
  have hb2 : V2 (sr sh b 2) 2 = (pv sh V b 2).2 := by
    have o := u12.oth Z (B.1 2 (by decide)) (db 2 4 (by decide) (by decide))
    rw [o.2]; rfl
  obtain ⟨V3, e4, u3⟩ : ∃ V3, wev zP 55 39 [some (wR (sr sh p 4)), some (wR b), some (wR (sr sh t 4)), some (wI (F + 1))] [] (sh, V2) = wev zP 55 59 [some (wR (sr sh p 4)), some (wR b), some (wR (sr sh t 4)), some (wI (F + 1))] [] (sh, V3) ∧ RwU sh V V3 (sr sh p 4) (X.take (F + 1).toNat ++ (if F + 1 = 0 ∧ (pv sh V b 2).2 ≠ 0 then [47] else [])) 1 := by
    rw [w55_39, hb2]
    by_cases c : F + 1 = 0
    · rw [if_pos c]
      by_cases d : (pv sh V b 2).2 = 0
      · rw [if_pos d, if_neg (fun w => w.2 d), List.append_nil]; exact ⟨V2, rfl, u12⟩
      · rw [if_neg d, if_pos ⟨c, d⟩]
        obtain ⟨V3, e, u⟩ := S59g u12.2.1 47
        rw [wand_id (by decide), u12.2.2.1, C 4 (by decide), if_pos rfl, List.take_of_length_le (by rw [List.length_append, List.length_take]; simp only [List.length_cons, List.length_nil]; omega), u12.2.2.2] at u
        exact ⟨V3, by rw [e]; simp only [wcx_v, wput_n], u12.trans u⟩
    · rw [if_neg c, if_neg (fun w => c w.1), List.append_nil]; exact ⟨V2, rfl, u12⟩
  obtain ⟨tw, ttx, tv⟩ := u3.fr hr qt m1 m2
  obtain ⟨V4, e5, u4⟩ := S61g u3.2.1 tw 0 (V3 (sr sh t 4) 1) (by decide) (by rw [tv]; omega)
  rw [u3.2.2.1, ttx, xt, tv, ← tt, sub_all, C 4 (by decide), if_pos rfl, List.take_of_length_le (by rw [List.length_append, List.length_append, List.length_take]; split <;> simp only [List.length_cons, List.length_nil] <;> omega), u3.2.2.2, List.append_assoc] at u4
  refine ⟨V4, ?_, (u3.trans u4).pw A Z P (by decide)⟩
  rw [w55_0, ← tb, e1]
  simp only [wcx_v, wput_s, w55_17, e2, wput_n, w55_24]
  rw [wr_eq (by omega) (by omega), ← hW, e3]
  simp only [wcx_v, wput_n]
  rw [e4, w55_59, tv, ← tt]
  rw [tv, ← tt] at e5
  rw [e5]
  simp only [wcx_v, wput_n, w55_69]
/-- no part is longer than a link -/
def wLe (sh : zSh) (V : wSt) (t : Nat) : Prop := ∀ k, k < 7 → (pv sh V t k).1.length ≤ 400
theorem S64q {sh : zSh} {V0 V : wSt} {p t : Nat} {Q : Nat → List Int × Int} (h : PwU sh V0 V p Q) (Z : zInj sh) (P : wPt sh p) (T : wPt sh t) (d : pdj sh p t) (C : wCp sh p 808) (l : wLe sh V0 t) {k : Nat} (hk : k < 7) : ∃ V', wcl zP 64 [wR (sr sh p k), wR (sr sh t k)] (sh, V) = rN (sh, V') ∧ PwU sh V0 V' p (pup Q k (pv sh V0 t k)) := by
  obtain ⟨V', e, w⟩ := S64p (k := k) h.2.1 Z P T d hk
  have s := h.1.pv Z P T d hk
  have c := C k hk
  have lk := l k hk
  rw [s, pcut_id (by rw [c]; split <;> omega)] at w
  refine ⟨V', e, (h.trans w).cg (fun j hj => ?_)⟩
  unfold pup
  by_cases g : j = k
  · rw [if_pos g, if_pos g]
  · rw [if_neg g, if_neg g, h.2.2 j hj]
theorem S25q {sh : zSh} {V0 V : wSt} {p t : Nat} {Q : Nat → List Int × Int} (h : PwU sh V0 V p Q) (Z : zInj sh) (P : wPt sh p) (T : wPt sh t) (d : pdj sh p t) (C : wCp sh p 808) (l : wLe sh V0 t) : ∃ V', wcl zP 25 [wR p, wR t] (sh, V) = rN (sh, V') ∧ PwU sh V0 V' p (fun k => if k = 1 ∨ k = 2 ∨ k = 3 then pv sh V0 t k else Q k) := by
  obtain ⟨V', e, w⟩ := S25 h.2.1 Z P T d
  refine ⟨V', e, (h.trans w).cg (fun k hk => ?_)⟩
  have c := C k hk
  have lk := l k hk
  by_cases g : k = 1 ∨ k = 2 ∨ k = 3
  · rw [if_pos g, if_pos g, h.1.pv Z P T d hk, pcut_id (by rw [c]; split <;> omega)]
  · rw [if_neg g, if_neg g, h.2.2 k hk]
theorem S24q {sh : zSh} {V0 V : wSt} {p t : Nat} {Q : Nat → List Int × Int} (h : PwU sh V0 V p Q) (Z : zInj sh) (P : wPt sh p) (T : wPt sh t) (d : pdj sh p t) (C : wCp sh p 808) (l : wLe sh V0 t) : ∃ V', wcl zP 24 [wR p, wR t] (sh, V) = rN (sh, V') ∧ PwU sh V0 V' p (pv sh V0 t) := by
  obtain ⟨V', e, w⟩ := S24 h.2.1 Z P T d
  refine ⟨V', e, (h.trans w).cg (fun k hk => ?_)⟩
  have c := C k hk
  have lk := l k hk
  rw [h.1.pv Z P T d hk, pcut_id (by rw [c]; split <;> omega)]
theorem S80q {sh : zSh} {V0 V : wSt} {p : Nat} {Q : Nat → List Int × Int} (h : PwU sh V0 V p Q) (Z : zInj sh) (P : wPt sh p) : ∃ V', wcl zP 80 [wR (sr sh p 4)] (sh, V) = rN (sh, V') ∧ PwU sh V0 V' p (pup Q 4 (rdots (Q 4).1, (Q 4).2)) := by
  obtain ⟨V', e, u⟩ := S80 (h.2.1 _ (P.1 4 (by decide)))
  have w := u.pw h.2.1 Z P (by decide)
  have g := h.2.2 4 (by decide)
  refine ⟨V', e, (h.trans w).cg (fun j hj => ?_)⟩
  unfold pup
  by_cases c : j = 4
  · rw [if_pos c, if_pos c, ← g]; rfl
  · rw [if_neg c, if_neg c, h.2.2 j hj]
/-- what is behind the scheme -/
noncomputable def qBeh (Q B R : Nat → List Int × Int) : Nat → List Int × Int := fun k =>
  if k = 1 ∨ k = 2 ∨ k = 3 then (if (R 2).2 = 0 then B k else R k)
  else if k = 5 then (if (R 2).2 = 0 ∧ (R 4).1.length = 0 ∧ (R 5).2 = 0 then B 5 else R 5)
  else if k = 4 then (if (R 2).2 = 0 ∧ (R 4).1.length = 0 then B 4 else if (R 2).2 = 0 ∧ gl (R 4).1 0 ≠ 47 then (rdots (mrg B (R 4).1), 1) else (rdots (R 4).1, (R 4).2))
  else Q k
theorem S54 {sh : zSh} {V : wSt} {p b t : Nat} (A : AllR sh V) (Z : zInj sh) (P : wPt sh p) (B : wPt sh b) (T : wPt sh t) (db : pdj sh p b) (dt : pdj sh p t) (C : wCp sh p 808) (lb : wLe sh V b) (lt : wLe sh V t) : ∃ V', wcl zP 54 [wR p, wR b, wR t] (sh, V) = rN (sh, V') ∧ PwU sh V V' p (qBeh (pv sh V p) (pv sh V b) (pv sh V t)) := by
  obtain ⟨Q, hQ⟩ : ∃ Q, Q = pv sh V p := ⟨_, rfl⟩
  obtain ⟨Bq, hB⟩ : ∃ Q, Q = pv sh V b := ⟨_, rfl⟩
  obtain ⟨R, hR⟩ : ∃ Q, Q = pv sh V t := ⟨_, rfl⟩
  have w0 : PwU sh V V p Q := by rw [hQ]; exact PwU.refl A
  obtain ⟨o, ho⟩ : ∃ o, o = V (sr sh t 2) 2 := ⟨_, rfl⟩
  have hoR : o = (R 2).2 := by rw [ho, hR]; rfl
  obtain ⟨Q1, hQ1⟩ : ∃ Q1 : Nat → List Int × Int, Q1 = fun k => if k = 1 ∨ k = 2 ∨ k = 3 then (if (R 2).2 = 0 then Bq k else R k) else Q k := ⟨_, rfl⟩
  obtain ⟨V1, e1, w1⟩ : ∃ V1, wcl zP 54 [wR p, wR b, wR t] (sh, V) = wev zP 54 21 [some (wR p), some (wR b), some (wR t), some (wI o)] [] (sh, V1) ∧ PwU sh V V1 p Q1 := by
    rw [w54_0, ← ho]
    by_cases c : o = 0
    · obtain ⟨V1, e1, w1⟩ := S25q w0 Z P B db C lb
      rw [if_pos c, e1]
      simp only [wcx_v, wput_n]
      refine ⟨V1, rfl, w1.cg (fun k hk => ?_)⟩
      rw [hQ1, ← hoR, ← hB]; dsimp only; rw [if_pos c]
    · obtain ⟨V1, e1, w1⟩ := S25q w0 Z P T dt C lt
      rw [if_neg c, e1]
      simp only [wcx_v, wput_n]
      refine ⟨V1, rfl, w1.cg (fun k hk => ?_)⟩
      rw [hQ1, ← hoR, ← hR]; dsimp only; rw [if_neg c]
  have rowT : ∀ {V' : wSt} {Q'}, PwU sh V V' p Q' → ∀ k, k < 7 → pv sh V' t k = R k := fun h k hk => by rw [hR]; exact h.1.pv Z P T dt hk
  have rowB : ∀ {V' : wSt} {Q'}, PwU sh V V' p Q' → ∀ k, k < 7 → pv sh V' b k = Bq k := fun h k hk => by rw [hB]; exact h.1.pv Z P B db hk
  have szT : ((R 4).1.length : Int) = V1 (sr sh t 4) 1 := by rw [← rowT w1 4 (by decide)]; exact tx_sz (w1.2.1 _ (T.1 4 (by decide)))
  rw [e1]
  -- the last steps: dots go
  have last : ∀ (V4 : wSt) (Q4 : Nat → List Int × Int), PwU sh V V4 p Q4 → ∃ V', wev zP 54 129 [some (wR p), some (wR b), some (wR t), some (wI o)] [] (sh, V4) = rN (sh, V') ∧ PwU sh V V' p (pup Q4 4 (rdots (Q4 4).1, (Q4 4).2)) := fun V4 Q4 w4 => by
    obtain ⟨V5, e5, w5⟩ := S80q w4 Z P
    refine ⟨V5, ?_, w5⟩
    rw [w54_129, e5]; simp only [wcx_v, wput_n, w54_136]
  -- the query of the reference, then its path
  have rest : ¬ (o = 0 ∧ (R 4).1.length = 0) → ∃ V', wcx (wcl zP 64 [wR (sr sh p 5), wR (sr sh t 5)] (sh, V1)) (fun v h' => wev zP 54 86 [some (wR p), some (wR b), some (wR t), some (wI o)] (wput v []) h') wth = rN (sh, V') ∧ PwU sh V V' p (qBeh Q Bq R) := fun hno => by
    obtain ⟨V2, e2, w2⟩ := S64q w1 Z P T dt C lt (k := 5) (by decide)
    rw [← hR] at w2
    have copy : (o ≠ 0 ∨ gl (R 4).1 0 = 47) → ∃ V', wcx (wcl zP 64 [wR (sr sh p 4), wR (sr sh t 4)] (sh, V2)) (fun v h' => wev zP 54 114 [some (wR p), some (wR b), some (wR t), some (wI o)] (wput v []) h') wth = rN (sh, V') ∧ PwU sh V V' p (qBeh Q Bq R) := fun hc => by
      obtain ⟨V3, e3, w3⟩ := S64q w2 Z P T dt C lt (k := 4) (by decide)
      rw [← hR] at w3
      obtain ⟨V4, e4, w4⟩ := last V3 _ w3
      refine ⟨V4, ?_, w4.cg (fun k hk => ?_)⟩
      · rw [e3]; simp only [wcx_v, wput_n, w54_114]; rw [e4]
      · unfold qBeh pup
        rw [← hoR]
        by_cases k4 : k = 4
        · subst k4
          rw [if_pos rfl, if_pos rfl, if_neg (by decide), if_neg (by decide), if_pos rfl, if_neg hno, if_neg (fun w => hc.elim (fun z => z w.1) (fun z => w.2 z))]
        · rw [if_neg k4, if_neg k4]
          by_cases k5 : k = 5
          · subst k5
            rw [if_pos rfl, if_neg (by decide), if_pos rfl, if_neg (fun w => hno ⟨w.1, w.2.1⟩)]
          · rw [if_neg k5, hQ1]; dsimp only; rw [← hoR, if_neg k5, if_neg k4]
    rw [e2]
    simp only [wcx_v, wput_n, w54_86]
    by_cases c : o = 0
    · rw [if_pos c, S57 (w2.2.1 _ (T.1 4 (by decide))), show tx sh V2 (sr sh t 4) = (R 4).1 from congrArg Prod.fst (rowT w2 4 (by decide))]
      simp only [wcx_v, wput_s, w54_98]
      by_cases d : gl (R 4).1 0 = 47
      · rw [if_pos d]; exact copy (Or.inr d)
      · rw [if_neg d]
        obtain ⟨V3, e3, w3⟩ := S55 w2.2.1 Z P B T db dt C (by rw [rowB w2 4 (by decide), hB]; exact lb 4 (by decide)) (by rw [rowT w2 4 (by decide), hR]; exact lt 4 (by decide))
        have mB : mrg (pv sh V2 b) (pv sh V2 t 4).1 = mrg Bq (R 4).1 := by
          unfold mrg; rw [rowB w2 4 (by decide), rowB w2 2 (by decide), rowT w2 4 (by decide)]
        rw [mB] at w3
        obtain ⟨V4, e4, w4⟩ := last V3 _ (w2.trans w3)
        refine ⟨V4, ?_, w4.cg (fun k hk => ?_)⟩
        · rw [e3]; simp only [wcx_v, wput_n]; rw [e4]
        · unfold qBeh pup
          rw [← hoR]
          by_cases k4 : k = 4
          · subst k4
            rw [if_pos rfl, if_pos rfl, if_neg (by decide), if_neg (by decide), if_pos rfl, if_neg hno, if_pos ⟨c, d⟩]
          · rw [if_neg k4, if_neg k4, w2.2.2 k hk]
            unfold pup
            by_cases k5 : k = 5
            · subst k5
              rw [if_pos rfl, if_neg (by decide), if_pos rfl, if_neg (fun w => hno ⟨w.1, w.2.1⟩)]
            · rw [if_neg k5, hQ1]; dsimp only; rw [← hoR, if_neg k5, if_neg k4]
    · rw [if_neg c]; exact copy (Or.inl c)
  rw [w54_21, ← hQ, ← hB, ← hR]
  by_cases c : o = 0
  · rw [if_pos c]
    by_cases d : V1 (sr sh t 4) 1 = 0
    · rw [if_pos d]
      have d2 : (R 4).1.length = 0 := by omega
      obtain ⟨V2, e2, w2⟩ := S64q w1 Z P B db C lb (k := 4) (by decide)
      rw [← hB] at w2
      rw [e2]
      simp only [wcx_v, wput_n, w54_46]
      rw [show V2 (sr sh t 5) 2 = (R 5).2 from congrArg Prod.snd (rowT w2 5 (by decide))]
      have fin : ∀ (X : List Int × Int) (V3 : wSt), PwU sh V V3 p (pup (pup Q1 4 (Bq 4)) 5 X) → (if (R 5).2 = 0 then Bq 5 else R 5) = X → PwU sh V V3 p (qBeh Q Bq R) := fun X V3 w3 hX => w3.cg (fun k hk => by
        unfold qBeh pup
        rw [← hoR]
        by_cases k5 : k = 5
        · subst k5
          rw [if_pos rfl, if_neg (by decide), if_pos rfl, ← hX]
          by_cases f : (R 5).2 = 0
          · rw [if_pos f, if_pos ⟨c, d2, f⟩]
          · rw [if_neg f, if_neg (fun w => f w.2.2)]
        · rw [if_neg k5]
          by_cases k4 : k = 4
          · subst k4
            rw [if_pos rfl, if_neg (by decide), if_neg (by decide), if_pos rfl, if_pos ⟨c, d2⟩]
          · rw [if_neg k4, hQ1]; dsimp only; rw [← hoR, if_neg k5, if_neg k4])
      by_cases f : (R 5).2 = 0
      · rw [if_pos f]
        obtain ⟨V3, e3, w3⟩ := S64q w2 Z P B db C lb (k := 5) (by decide)
        rw [← hB] at w3
        refine ⟨V3, ?_, fin _ _ w3 (if_pos f)⟩
        rw [e3]; simp only [wcx_v, wput_n, w54_74]
      · rw [if_neg f]
        obtain ⟨V3, e3, w3⟩ := S64q w2 Z P T dt C lt (k := 5) (by decide)
        rw [← hR] at w3
        refine ⟨V3, ?_, fin _ _ w3 (if_neg f)⟩
        rw [e3]; simp only [wcx_v, wput_n, w54_74]
    · rw [if_neg d]; exact rest (fun w => d (by omega))
  · rw [if_neg c]; exact rest (fun w => c w.1)
/-- dots make no path longer -/
theorem rdt_len (fl : Int) : ∀ (n : Nat) (D R : List Int), (rdt fl n D R).length ≤ D.length + R.length := by
  intro n
  induction n with
  | zero => intro D R; exact Nat.le_add_right _ _
  | succ n ih =>
    intro D R
    rw [rdt]
    split
    · refine Nat.le_trans (ih _ _) ?_
      rw [List.length_take, List.length_drop]; omega
    · split
      · refine Nat.le_trans (ih _ _) ?_
        rw [List.length_drop]; omega
      · refine Nat.le_trans (ih _ _) ?_
        rw [List.length_append, List.length_take, List.length_drop]; omega
theorem rdots_len (L : List Int) : (rdots L).length ≤ L.length := by
  unfold rdots
  refine Nat.le_trans (rdt_len _ _ _ _) ?_
  rw [List.length_take, List.length_drop]; omega
theorem mrg_len (B : Nat → List Int × Int) (L : List Int) : (mrg B L).length ≤ (B 4).1.length + 1 + L.length := by
  unfold mrg
  rw [List.length_append, List.length_append, List.length_take]
  split <;> simp only [List.length_cons, List.length_nil] <;> omega
theorem pgd_cg {Q Q' : Nat → List Int × Int} (h : ∀ k, k < 7 → Q k = Q' k) : ∀ k, k < 7 → pgd Q k = pgd Q' k := fun k hk => by
  unfold pgd
  rw [h 2 (by decide), h 4 (by decide)]
  split
  · unfold pup; split
    · rfl
    · exact h k hk
  · exact h k hk
/-- what a reference is against a base -/
noncomputable def qRes (Q B R : Nat → List Int × Int) (s : Int) : Nat → List Int × Int :=
  pgd (if (R 0).2 ≠ 0 ∧ (s ≠ 0 ∨ ¬ R 0 = B 0) then pup R 4 (rdots (R 4).1, (R 4).2) else pup (qBeh (pup Q 0 (B 0)) B R) 6 (R 6))
theorem S53 {sh : zSh} {V : wSt} {p b t : Nat} (s : Int) (A : AllR sh V) (Z : zInj sh) (P : wPt sh p) (B : wPt sh b) (T : wPt sh t) (db : pdj sh p b) (dt : pdj sh p t) (C : wCp sh p 808) (lb : wLe sh V b) (lt : wLe sh V t) : ∃ V', wcl zP 53 [wR p, wR b, wR t, wI s] (sh, V) = rN (sh, V') ∧ PwU sh V V' p (qRes (pv sh V p) (pv sh V b) (pv sh V t) s) := by
  obtain ⟨Q, hQ⟩ : ∃ Q, Q = pv sh V p := ⟨_, rfl⟩
  obtain ⟨Bq, hB⟩ : ∃ Q, Q = pv sh V b := ⟨_, rfl⟩
  obtain ⟨R, hR⟩ : ∃ Q, Q = pv sh V t := ⟨_, rfl⟩
  have w0 : PwU sh V V p Q := by rw [hQ]; exact PwU.refl A
  have l4 := lt 4 (by decide)
  have b4 := lb 4 (by decide)
  rw [← hR] at l4
  rw [← hB] at b4
  -- the guard at the end
  have last : ∀ (V4 : wSt) (Q4 : Nat → List Int × Int), PwU sh V V4 p Q4 → (Q4 4).1.length ≤ 801 → ∃ V', wev zP 53 73 [some (wR p), some (wR b), some (wR t), some (wI s), some (wR (sr sh t 0))] [] (sh, V4) = rN (sh, V') ∧ PwU sh V V' p (pgd Q4) := fun V4 Q4 w4 h4 => by
    have g4 := w4.2.2 4 (by decide)
    obtain ⟨V5, e5, w5⟩ := S30 w4.2.1 Z P (by rw [g4, C 4 (by decide), if_pos rfl]; omega)
    refine ⟨V5, ?_, (w4.trans w5).cg (pgd_cg w4.2.2)⟩
    have e73 : wev zP 53 73 [some (wR p), some (wR b), some (wR t), some (wI s), some (wR (sr sh t 0))] [] (sh, V4) = wcx (wcl zP 30 [wR p] (sh, V4)) (fun v h' => wev zP 53 77 [some (wR p), some (wR b), some (wR t), some (wI s), some (wR (sr sh t 0))] (wput v []) h') wth := w53_73 ..
    rw [e73, e5]; simp only [wcx_v, wput_n, w53_77]
  rw [← hQ, ← hB, ← hR]
  have full : ((R 0).2 ≠ 0 ∧ (s ≠ 0 ∨ ¬ R 0 = Bq 0)) → ∃ V', wcx (wcl zP 24 [wR p, wR t] (sh, V)) (fun v h' => wev zP 53 35 [some (wR p), some (wR b), some (wR t), some (wI s), some (wR (sr sh t 0))] (wput v []) h') wth = rN (sh, V') ∧ PwU sh V V' p (qRes Q Bq R s) := fun hc => by
    obtain ⟨V1, e1, w1⟩ := S24q w0 Z P T dt C lt
    rw [← hR] at w1
    obtain ⟨V2, e2, w2⟩ := S80q w1 Z P
    obtain ⟨V3, e3, w3⟩ := last V2 _ w2 (by unfold pup; rw [if_pos rfl]; have := rdots_len (R 4).1; show (rdots (R 4).1).length ≤ 801; omega)
    refine ⟨V3, ?_, w3.cg (fun k hk => by unfold qRes; rw [if_pos hc])⟩
    rw [e1]
    simp only [wcx_v, wput_n, w53_35]
    rw [e2]
    simp only [wcx_v, wput_n, w53_42]
    rw [e3]
  have part : ¬ ((R 0).2 ≠ 0 ∧ (s ≠ 0 ∨ ¬ R 0 = Bq 0)) → ∃ V', wcx (wcl zP 64 [wR (sr sh p 0), wR (sr sh b 0)] (sh, V)) (fun v h' => wev zP 53 56 [some (wR p), some (wR b), some (wR t), some (wI s), some (wR (sr sh t 0))] (wput v []) h') wth = rN (sh, V') ∧ PwU sh V V' p (qRes Q Bq R s) := fun hc => by
    obtain ⟨V1, e1, w1⟩ := S64q w0 Z P B db C lb (k := 0) (by decide)
    rw [← hB] at w1
    have fT : ∀ {V' : wSt} {Q'}, PwU sh V V' p Q' → ∀ k, k < 7 → pv sh V' t k = R k := fun h k hk => by rw [hR]; exact h.1.pv Z P T dt hk
    have fB : ∀ {V' : wSt} {Q'}, PwU sh V V' p Q' → ∀ k, k < 7 → pv sh V' b k = Bq k := fun h k hk => by rw [hB]; exact h.1.pv Z P B db hk
    obtain ⟨V2, e2, w2⟩ := S54 w1.2.1 Z P B T db dt C (fun k hk => by rw [fB w1 k hk, hB]; exact lb k hk) (fun k hk => by rw [fT w1 k hk, hR]; exact lt k hk)
    have w2' : PwU sh V V2 p (qBeh (pup Q 0 (Bq 0)) Bq R) := (w1.trans w2).cg (fun k hk => by
      unfold qBeh mrg
      rw [fT w1 2 (by decide), fT w1 4 (by decide), fT w1 5 (by decide), fB w1 2 (by decide), fB w1 4 (by decide), fB w1 5 (by decide), fB w1 k hk, fT w1 k hk, w1.2.2 k hk])
    obtain ⟨V3, e3, w3⟩ := S64q w2' Z P T dt C lt (k := 6) (by decide)
    rw [← hR] at w3
    obtain ⟨V4, e4, w4⟩ := last V3 _ w3 (by
      unfold pup; rw [if_neg (by decide)]
      unfold qBeh
      rw [if_neg (by decide), if_neg (by decide), if_pos rfl]
      have r1 := rdots_len (R 4).1
      have r2 := rdots_len (mrg Bq (R 4).1)
      have r3 := mrg_len Bq (R 4).1
      split
      · omega
      · split
        · show (rdots (mrg Bq (R 4).1)).length ≤ 801; omega
        · show (rdots (R 4).1).length ≤ 801; omega)
    refine ⟨V4, ?_, w4.cg (fun k hk => by unfold qRes; rw [if_neg hc])⟩
    rw [e1]
    simp only [wcx_v, wput_n, w53_56]
    rw [e2]
    simp only [wcx_v, wput_n, w53_62]
    rw [e3]
    simp only [wcx_v, wput_n]
    rw [e4]
  have h0 : V (sr sh t 0) 2 = (R 0).2 := by rw [hR]; rfl
  rw [w53_0, h0]
  by_cases c : (R 0).2 = 0
  · rw [if_pos c]; exact part (fun w => w.1 c)
  · rw [if_neg c]
    by_cases d : s = 0
    · have same : (V (sr sh t 0) 2 = V (sr sh b 0) 2 ∧ tx sh V (sr sh t 0) = tx sh V (sr sh b 0)) ↔ R 0 = Bq 0 := by
        rw [hR, hB]; unfold pv; rw [Prod.mk.injEq]; exact And.comm
      rw [if_pos d, S66 (A _ (T.1 0 (by decide))) (A _ (B.1 0 (by decide)))]
      simp only [wcx_v, wput_s, w53_27]
      by_cases f : R 0 = Bq 0
      · rw [bI_1 (same.mpr f), if_neg (by decide)]; exact part (fun w => w.2.elim (fun z => z d) (fun z => z f))
      · rw [bI_0 (fun z => f (same.mp z)), if_pos rfl]; exact full ⟨c, Or.inr f⟩
    · rw [if_neg d]; exact full ⟨c, Or.inl d⟩
