set_option maxRecDepth 16384
/-! what normalising does, piece by piece -/
/-- the rooms of a reference's rows -/
def wCp (sh : zSh) (p m : Nat) : Prop := ∀ k, k < 7 → cap sh (sr sh p k) = if k = 4 then m else 400
theorem pcut_id {sh : zSh} {p k : Nat} {x : List Int × Int} (h : x.1.length ≤ cap sh (sr sh p k)) : pcut sh p k x = x := by
  unfold pcut; rw [List.take_of_length_le h]
theorem pv_le {sh : zSh} {V : wSt} {p k m : Nat} (A : AllR sh V) (P : wPt sh p) (C : wCp sh p m) (hk : k < 7) : (pv sh V p k).1.length ≤ if k = 4 then m else 400 := by
  have c := (tx_cap (A _ (P.1 k hk))).1
  rw [C k hk] at c; exact c
theorem S17_16 {sh : zSh} {p : Nat} (Z : zInj sh) (P : wPt sh p) : ∀ (n : Nat) (V : wSt) (x : Int), (7 - x).toNat = n → 0 ≤ x → AllR sh V → ∃ V', wev zP 17 16 [some (wR p), some (wI x)] [] (sh, V) = rN (sh, V') ∧ PwU sh V V' p (fun k => if (k : Int) < x then pv sh V p k else (gco (pv sh V p k).1, (pv sh V p k).2)) := by
  intro n
  induction n with
  | zero =>
    intro V x hn hx A
    refine ⟨V, ?_, (PwU.refl A).cg (fun k hk => ?_)⟩
    · rw [w17_16, if_pos (by omega)]
    · rw [if_pos (by omega)]
  | succ n ih =>
    intro V x hn hx A
    obtain ⟨V1, e1, u1⟩ := S77 (A _ (P.1 x.toNat (by omega)))
    have w1 := u1.pw A Z P (by omega)
    obtain ⟨V2, e2, w2⟩ := ih V1 (x + 1) (by omega) (by omega) w1.2.1
    refine ⟨V2, ?_, (w1.trans w2).cg (fun k hk => ?_)⟩
    · rw [w17_16, if_neg (by omega), S22 p x V (by omega)]
      simp only [wcx_v, wput_s, w17_27, e1, wput_n, w17_30]
      rw [wr_eq (by omega) (by omega), e2]
    · rw [w1.2.2 k hk]
      unfold pup
      by_cases c : k = x.toNat
      · rw [if_pos c, if_pos (by omega), if_neg (by omega), c]; rfl
      · rw [if_neg c]
        by_cases d : (k : Int) < x
        · rw [if_pos (by omega), if_pos d]
        · rw [if_neg (by omega), if_neg d]
/-- letters as the normal form has them -/
def qLet (Q : Nat → List Int × Int) : Nat → List Int × Int := fun k => (if k = 0 then (Q k).1.map sml else if k = 2 then gco ((Q k).1.map sml) else gco (Q k).1, (Q k).2)
theorem S17 {sh : zSh} {V : wSt} {p : Nat} (A : AllR sh V) (Z : zInj sh) (P : wPt sh p) : ∃ V', wcl zP 17 [wR p] (sh, V) = rN (sh, V') ∧ PwU sh V V' p (qLet (pv sh V p)) := by
  obtain ⟨V1, e1, u1⟩ := S76 (A _ (P.1 0 (by decide)))
  have w1 := u1.pw A Z P (by decide)
  obtain ⟨V2, e2, u2⟩ := S76 (w1.2.1 _ (P.1 2 (by decide)))
  have w2 := u2.pw w1.2.1 Z P (by decide)
  obtain ⟨V3, e3, w3⟩ := S17_16 Z P _ V2 1 rfl (by decide) w2.2.1
  have t0 : pv sh V1 p 2 = pv sh V p 2 := by rw [w1.2.2 2 (by decide)]; unfold pup; rw [if_neg (by decide)]
  refine ⟨V3, ?_, ((w1.trans w2).trans w3).cg (fun k hk => ?_)⟩
  · rw [w17_0, e1]
    simp only [wcx_v, wput_n, w17_7, e2, w17_14, e3]
  · rw [w2.2.2 k hk]
    unfold pup qLet
    have k2 : (tx sh V1 (sr sh p 2), V1 (sr sh p 2) 2) = pv sh V p 2 := t0
    rw [Prod.ext_iff] at k2
    dsimp only at k2
    rw [k2.1, k2.2]
    by_cases c2 : k = 2
    · subst c2; rw [if_pos rfl, if_neg (by decide), if_neg (by decide), if_pos rfl]
    · rw [if_neg c2, if_neg c2, w1.2.2 k hk]
      unfold pup
      by_cases c0 : k = 0
      · subst c0; rw [if_pos rfl, if_pos (by decide), if_pos rfl]; rfl
      · rw [if_neg c0, if_neg (by omega), if_neg c0]
theorem S18_2 {sh : zSh} {p : Nat} (Z : zInj sh) (P : wPt sh p) : ∀ (n : Nat) (V : wSt) (x : Int), (7 - x).toNat = n → 0 ≤ x → AllR sh V → ∃ V', wev zP 18 2 [some (wR p), some (wI x)] [] (sh, V) = rN (sh, V') ∧ PwU sh V V' p (fun k => if (k : Int) < x then pv sh V p k else (fre (pv sh V p k).1, (pv sh V p k).2)) := by
  intro n
  induction n with
  | zero =>
    intro V x hn hx A
    refine ⟨V, ?_, (PwU.refl A).cg (fun k hk => ?_)⟩
    · rw [w18_2, if_pos (by omega)]
    · rw [if_pos (by omega)]
  | succ n ih =>
    intro V x hn hx A
    obtain ⟨V1, e1, u1⟩ := S78 (A _ (P.1 x.toNat (by omega)))
    have w1 := u1.pw A Z P (by omega)
    obtain ⟨V2, e2, w2⟩ := ih V1 (x + 1) (by omega) (by omega) w1.2.1
    refine ⟨V2, ?_, (w1.trans w2).cg (fun k hk => ?_)⟩
    · rw [w18_2, if_neg (by omega), S22 p x V (by omega)]
      simp only [wcx_v, wput_s, w18_13, e1, wput_n, w18_16]
      rw [wr_eq (by omega) (by omega), e2]
    · rw [w1.2.2 k hk]
      unfold pup
      by_cases c : k = x.toNat
      · rw [if_pos c, if_pos (by omega), if_neg (by omega), c]; rfl
      · rw [if_neg c]
        by_cases d : (k : Int) < x
        · rw [if_pos (by omega), if_pos d]
        · rw [if_neg (by omega), if_neg d]
/-- codes of free signs told -/
def qFre (Q : Nat → List Int × Int) : Nat → List Int × Int := fun k => if k = 0 then Q k else (fre (Q k).1, (Q k).2)
theorem S18 {sh : zSh} {V : wSt} {p : Nat} (A : AllR sh V) (Z : zInj sh) (P : wPt sh p) : ∃ V', wcl zP 18 [wR p] (sh, V) = rN (sh, V') ∧ PwU sh V V' p (qFre (pv sh V p)) := by
  rw [w18_0]
  obtain ⟨V', e, w⟩ := S18_2 Z P _ V 1 rfl (by decide) A
  refine ⟨V', e, w.cg (fun k hk => ?_)⟩
  unfold qFre
  by_cases c : k = 0
  · rw [if_pos c, if_pos (by omega)]
  · rw [if_neg c, if_neg (by omega)]
/-- the port that a scheme has of its own -/
def own (L : List Int) : Int := if L = [104, 116, 116, 112] ∨ L = [119, 115] then 80 else if L = [104, 116, 116, 112, 115] ∨ L = [119, 115, 115] then 443 else if L = [102, 116, 112] then 21 else -1
theorem own_texts : zT 7 = [104, 116, 116, 112] ∧ zT 8 = [119, 115] ∧ zT 9 = [104, 116, 116, 112, 115] ∧ zT 10 = [119, 115, 115] ∧ zT 11 = [102, 116, 112] := by decide
theorem bI_if {c : Prop} {α : Type} (a b : α) : (if bI c = 0 then a else b) = if bI c = 1 then b else a := by
  rcases bI_r c with h | h
  · rw [if_pos h, if_neg (by omega)]
  · rw [if_neg (by omega), if_pos h]
theorem S20 {sh : zSh} {V : wSt} {r : Nat} (q : wRo sh V r) : wcl zP 20 [wR r] (sh, V) = rI (own (tx sh V r)) (sh, V) := by
  obtain ⟨t1, t2, t3, t4, t5⟩ := own_texts
  have k1 : ∀ (k : Nat) (M : List Int), zT k = M → zTb k → wcl zP 67 [wR r, wX k] (sh, V) = rI (bI (tx sh V r = M)) (sh, V) := fun k M h g => by rw [S67 q g, h]
  unfold own
  rw [w20_0, k1 7 _ t1 (zTb_of (by decide))]
  simp only [wcx_v, wput_s, w20_6]
  by_cases c1 : tx sh V r = [104, 116, 116, 112]
  · rw [bI_1 c1, if_neg (by decide), if_pos (Or.inl c1)]
  rw [bI_0 c1, if_pos rfl, k1 8 _ t2 (zTb_of (by decide))]
  simp only [wcx_v, wput_s, w20_15]
  by_cases c2 : tx sh V r = [119, 115]
  · rw [bI_1 c2, if_neg (by decide), if_pos (Or.inr c2)]
  rw [bI_0 c2, if_pos rfl, if_neg (fun w => w.elim c1 c2), k1 9 _ t3 (zTb_of (by decide))]
  simp only [wcx_v, wput_s, w20_27]
  by_cases c3 : tx sh V r = [104, 116, 116, 112, 115]
  · rw [bI_1 c3, if_neg (by decide), if_pos (Or.inl c3)]
  rw [bI_0 c3, if_pos rfl, k1 10 _ t4 (zTb_of (by decide))]
  simp only [wcx_v, wput_s, w20_36]
  by_cases c4 : tx sh V r = [119, 115, 115]
  · rw [bI_1 c4, if_neg (by decide), if_pos (Or.inr c4)]
  rw [bI_0 c4, if_pos rfl, if_neg (fun w => w.elim c3 c4), k1 11 _ t5 (zTb_of (by decide))]
  simp only [wcx_v, wput_s, w20_49]
  by_cases c5 : tx sh V r = [102, 116, 112]
  · rw [bI_1 c5, if_neg (by decide), if_pos c5]
  rw [bI_0 c5, if_pos rfl, if_neg c5]
/-- the port that is needless goes, an empty path of such a scheme is / -/
def qPr1 (Q : Nat → List Int × Int) : Nat → List Int × Int := if (Q 3).1.length = 0 ∨ (own (Q 0).1 ≠ -1 ∧ pno (Q 3) = own (Q 0).1) then pup Q 3 ([], 0) else Q
def qPr2 (Q : Nat → List Int × Int) : Nat → List Int × Int := if own (Q 0).1 ≠ -1 ∧ (Q 2).2 ≠ 0 ∧ (Q 4).1.length = 0 then pup Q 4 ([47], (Q 4).2) else Q
def qPrt (Q : Nat → List Int × Int) : Nat → List Int × Int := qPr2 (qPr1 Q)
theorem qPr1_o (Q : Nat → List Int × Int) (k : Nat) (h : k ≠ 3) : qPr1 Q k = Q k := by
  unfold qPr1 pup; split
  · exact if_neg h
  · rfl
theorem S19_7 {sh : zSh} {V : wSt} {p : Nat} (A : AllR sh V) (Z : zInj sh) (P : wPt sh p) (h5 : (pv sh V p 3).1.length ≤ 5) : ∃ V' x2, wev zP 19 7 [some (wR p), none, none] [wI (own (pv sh V p 0).1)] (sh, V) = wev zP 19 48 [some (wR p), some (wI (own (pv sh V p 0).1)), some (wI x2)] [] (sh, V') ∧ PwU sh V V' p (qPr1 (pv sh V p)) := by
  have q := A _ (P.1 3 (by decide))
  have tl : ((pv sh V p 3).1.length : Int) = V (sr sh p 3) 1 := tx_sz q
  obtain ⟨o, ho⟩ : ∃ o, o = own (pv sh V p 0).1 := ⟨_, rfl⟩
  have yes : ((pv sh V p 3).1.length = 0 ∨ (o ≠ -1 ∧ pno (pv sh V p 3) = o)) → ∃ V', wcx (wcl zP 62 [wR (sr sh p 3)] (sh, V)) (fun v h' => wev zP 19 48 [some (wR p), some (wI o), some (wI 1)] (wput v []) h') wth = wev zP 19 48 [some (wR p), some (wI o), some (wI 1)] [] (sh, V') ∧ PwU sh V V' p (qPr1 (pv sh V p)) := fun c => by
    obtain ⟨V1, e1, u1, -⟩ := S62 (V := V) (P.1 3 (by decide))
    refine ⟨V1, ?_, (u1.pw A Z P (by decide)).cg (fun k hk => ?_)⟩
    · rw [e1]; simp only [wcx_v, wput_n]
    · unfold qPr1; rw [← ho, if_pos c]
  have no : ¬ ((pv sh V p 3).1.length = 0 ∨ (o ≠ -1 ∧ pno (pv sh V p 3) = o)) → PwU sh V V p (qPr1 (pv sh V p)) := fun c => by
    unfold qPr1; rw [← ho, if_neg c]; exact PwU.refl A
  rw [← ho, w19_7]
  by_cases c : V (sr sh p 3) 1 = 0
  · rw [if_pos c, if_neg (by decide)]
    obtain ⟨V', e, w⟩ := yes (Or.inl (by omega))
    exact ⟨V', 1, e, w⟩
  · rw [if_neg c]
    by_cases d : o = -1
    · rw [if_pos d, if_pos rfl]
      exact ⟨V, 0, rfl, no (fun w => w.elim (fun z => c (by omega)) (fun z => z.1 d))⟩
    · rw [if_neg d, S31 A P h5]
      simp only [wcx_v, wput_s, w19_27]
      by_cases e : pno (pv sh V p 3) = o
      · rw [if_pos e, if_neg (by decide)]
        obtain ⟨V', e, w⟩ := yes (Or.inr ⟨d, e⟩)
        exact ⟨V', 1, e, w⟩
      · rw [if_neg e, if_pos trivial]
        exact ⟨V, 0, rfl, no (fun w => w.elim (fun z => c (by omega)) (fun z => e z.2))⟩
theorem S19 {sh : zSh} {V : wSt} {p m : Nat} (A : AllR sh V) (Z : zInj sh) (P : wPt sh p) (C : wCp sh p m) (hm : 1 ≤ m) (h5 : (pv sh V p 3).1.length ≤ 5) : ∃ V', wcl zP 19 [wR p] (sh, V) = rN (sh, V') ∧ PwU sh V V' p (qPrt (pv sh V p)) := by
  obtain ⟨V1, x2, e1, w1⟩ := S19_7 A Z P h5
  have q := w1.2.1 _ (P.1 4 (by decide))
  have tl : ((pv sh V1 p 4).1.length : Int) = V1 (sr sh p 4) 1 := tx_sz q
  have p0 : pv sh V1 p 0 = pv sh V p 0 := (w1.2.2 0 (by decide)).trans (qPr1_o _ 0 (by decide))
  have p2 : pv sh V1 p 2 = pv sh V p 2 := (w1.2.2 2 (by decide)).trans (qPr1_o _ 2 (by decide))
  have p4 : pv sh V1 p 4 = pv sh V p 4 := (w1.2.2 4 (by decide)).trans (qPr1_o _ 4 (by decide))
  rw [p4] at tl
  have h2 : V1 (sr sh p 2) 2 = (pv sh V p 2).2 := congrArg Prod.snd p2
  have h4 : V1 (sr sh p 4) 2 = (pv sh V p 4).2 := congrArg Prod.snd p4
  have e0 : wcl zP 19 [wR p] (sh, V) = wev zP 19 48 [some (wR p), some (wI (own (pv sh V p 0).1)), some (wI x2)] [] (sh, V1) := by
    rw [w19_0, S20 (A _ (P.1 0 (by decide)))]
    simp only [wcx_v, wput_s]
    exact e1
  have no : ¬ (own (pv sh V p 0).1 ≠ -1 ∧ (pv sh V p 2).2 ≠ 0 ∧ (pv sh V p 4).1.length = 0) → wev zP 19 82 [some (wR p), some (wI (own (pv sh V p 0).1)), some (wI x2)] [] (sh, V1) = rN (sh, V1) ∧ PwU sh V V1 p (qPrt (pv sh V p)) := fun c => by
    refine ⟨by rw [w19_82], w1.cg (fun k hk => ?_)⟩
    unfold qPrt qPr2
    rw [qPr1_o _ 0 (by decide), qPr1_o _ 2 (by decide), qPr1_o _ 4 (by decide), if_neg c]
  rw [e0, w19_48, h2, ← tl]
  by_cases c : own (pv sh V p 0).1 = -1
  · rw [if_pos c]; exact ⟨V1, no (fun w => w.1 c)⟩
  · rw [if_neg c]
    by_cases d : (pv sh V p 2).2 = 0
    · rw [if_pos d]; exact ⟨V1, no (fun w => w.2.1 d)⟩
    · rw [if_neg d]
      by_cases f : (pv sh V p 4).1.length = 0
      · rw [if_pos (by omega)]
        obtain ⟨V2, e2, u2⟩ := S59g q 47
        rw [wand_id (by decide)] at u2
        have n4 : tx sh V1 (sr sh p 4) = [] := by
          have : (pv sh V1 p 4).1 = [] := List.length_eq_zero_iff.mp (by rw [p4]; exact f)
          exact this
        rw [n4, List.nil_append, C 4 (by decide), if_pos rfl, List.take_of_length_le (by simp only [List.length_cons, List.length_nil]; omega)] at u2
        refine ⟨V2, ?_, (w1.trans (u2.pw w1.2.1 Z P (by decide))).cg (fun k hk => ?_)⟩
        · rw [e2]; simp only [wcx_v, wput_n, w19_82]
        · unfold qPrt qPr2
          rw [qPr1_o _ 0 (by decide), qPr1_o _ 2 (by decide), qPr1_o _ 4 (by decide), if_pos ⟨c, d, f⟩]
          unfold pup
          by_cases g : k = 4
          · rw [if_pos g, if_pos g, h4]
          · rw [if_neg g, if_neg g, w1.2.2 k hk]
      · rw [if_neg (by omega)]; exact ⟨V1, no (fun w => f w.2.2)⟩
