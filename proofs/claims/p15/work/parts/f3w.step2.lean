set_option maxRecDepth 16384
/-! a call of the class, and the same call of the model: the others -/
theorem qNrm_U (T : Nat → List Int × Int) (h : Int) (W U : Nat → Int) : qNrm T h W = qNrm T h U := by
  unfold qNrm
  split
  · rfl
  · have e : qSix (qN4 T h 2) W = qSix (qN4 T h 2) U := by
      unfold qSix
      split
      · rename_i c
        obtain ⟨P, g, k⟩ := six6_ex (gl (qN4 T h 2).1) 1 ((qN4 T h 2).1.length - 1)
        rw [rw6_arr c.2 k W, rw6_arr c.2 k U]
      · rfl
    rw [e]
section
variable {sh : zSh} {x m : Nat} {V : wSt}
def nk (rw' : Nat → List Int) : Nat → Nat → List Int × Int := fun p => if p < 8 then cutQ (rw' p) else fun _ => ([], 0)
theorem nk_lt {rw' : Nat → List Int} {p : Nat} (h : p < 8) : nk rw' p = cutQ (rw' p) := if_pos h
theorem nk_5 {rw' : Nat → List Int} (va : ∀ p, p < 8 → Va (cutQ (rw' p))) (p : Nat) : (nk rw' p 3).1.length ≤ 5 := by
  unfold nk
  by_cases c : p < 8
  · rw [if_pos c]; exact (va p c).2.2.2.2.1
  · rw [if_neg c]; exact Nat.zero_le _
theorem IW.nf (iv : IW sh x m V) : ∃ tp ou f0 f1 rw', Sx sh x V tp ou (nk rw') f0 f1 ∧ Mx sh m V tp ou rw' ∧ ∀ p, p < 8 → Va (cutQ (rw' p)) := by
  obtain ⟨tp, ou, lk, f0, f1, rw', s, t, rel, va⟩ := iv
  exact ⟨tp, ou, f0, f1, rw', ⟨s.1, s.2.1, s.2.2.1, fun p k hp hk => by rw [nk_lt hp, ← rel p k hp hk]; exact s.2.2.2.1 p k hp hk, s.2.2.2.2⟩, t, va⟩
theorem nk_rel {rw' : Nat → List Int} : ∀ p k, p < 8 → k < 7 → nk rw' p k = cutQ (rw' p) k := fun p k hp _ => by rw [nk_lt hp]
theorem M200n {tp ou : List Int} {rw' : Nat → List Int} (M : wMd sh m) (s : Mx sh m V tp ou rw') (i j : Int) (hj : j < 0) (hi : 0 ≤ i ∧ i < 8) : ∃ V', wcl zP 200 [wR m, wI i, wI j] (sh, V) = rI 0 (sh, V') ∧ Mx sh m V' tp ou rw' ∧ V' m 0 = 2 := by
  have u0 := fun y => (fld (V := V) M 0 y).2.2
  obtain ⟨V1, e1, s1, -, -⟩ := M195 M (Mx_fld M s 0 (by decide) 0) (i := i) (by omega)
  have u1 := fun y => (fld (V := V1) M 0 y).2.2
  refine ⟨_, ?_, Mx_fld M s1 0 (by decide) 2, (fld (V := V1) M 0 2).2.2⟩
  rw [w200_0, M127, if_pos (by omega)]
  simp only [wcx_v, wput_s, w200_5]
  rw [if_neg (by decide), u0, if_pos rfl, e1]
  simp only [wcx_v, wput_s, w200_31]
  rw [M120]
  simp only [wcx_v, wput_s, w200_36]
  rw [if_neg (c := 0 ≤ j ∧ j ≤ _) (fun w => by omega), if_pos rfl, u1, if_neg (by decide)]
theorem M206n {tp ou : List Int} {rw' : Nat → List Int} (M : wMd sh m) (s : Mx sh m V tp ou rw') (i j v : Int) (hj : j < 0) (hi : 0 ≤ i ∧ i < 8) : ∃ V', wcl zP 206 [wR m, wI i, wI j, wI v] (sh, V) = rI 0 (sh, V') ∧ Mx sh m V' tp ou rw' ∧ V' m 0 = 2 := by
  have u0 := fun y => (fld (V := V) M 0 y).2.2
  obtain ⟨V1, e1, s1, -, -⟩ := M204 M (Mx_fld M s 0 (by decide) 0) (i := i) (by omega)
  have u1 := fun y => (fld (V := V1) M 0 y).2.2
  refine ⟨_, ?_, Mx_fld M s1 0 (by decide) 2, (fld (V := V1) M 0 2).2.2⟩
  rw [w206_0, M127, if_pos (by omega)]
  simp only [wcx_v, wput_s, w206_5]
  rw [if_neg (by decide), w206_13, u0, if_pos rfl, e1]
  simp only [wcx_v, wput_s, w206_31]
  rw [M120]
  simp only [wcx_v, wput_s, w206_36]
  rw [if_neg (c := 0 ≤ j ∧ j ≤ _) (fun w => by omega), if_pos rfl, w206_44, w206_47, u1, if_neg (by decide)]
variable {aM aC : wSt → wSt → Prop}
theorem st_port (fM : liftM aM sh m) (fC : liftC aC sh x) (h : wLL sh x) (M : wMd sh m) (iv : IW sh x m V) (i : Int) : Stq aM aC sh x m V 101 [wR x, wI i] 172 [wR m, wI i] [0, 0, 1, 0] := by
  obtain ⟨tp, ou, f0, f1, rw', s, t, va⟩ := iv.nf
  have S := S101 h s i (nk_5 va _)
  have cc : ∀ (X : wSt) (y : Int), uI X m 0 y m 0 = y := fun X y => (fld (V := X) M 0 y).2.2
  have h5 : 0 ≤ i ∧ i < 8 → (cutQ (rw' i.toNat) 3).1.length ≤ 5 ∧ ∀ k : Int, 0 ≤ k → k < (cutQ (rw' i.toNat) 3).1.length → pDig (gl (cutQ (rw' i.toNat) 3).1 k) = 1 := fun hi => by
    have v := va i.toNat (by omega)
    exact ⟨v.2.2.2.2.1, v.2.2.2.1⟩
  by_cases hi : 0 ≤ i ∧ i < 8
  · have e := S.2 hi
    rw [nk_lt (p := i.toNat) (by omega)] at e
    refine ⟨_, V, e, fun a => ?_⟩
    obtain ⟨V2, e2, t2, c2⟩ := (M172 M (fM a t) i h5).2 hi
    exact ⟨_, V2, e2, c2, fun v hv' => by cases hv'; rfl, fun b => ⟨_, _, _, _, _, _, fC b s, t2, nk_rel, va⟩⟩
  · refine ⟨_, V, S.1 hi, fun a => ?_⟩
    exact ⟨_, _, (M172 M t i h5).1 hi, cc V 1, fun v hv' => (by cases hv'), fun b => ⟨_, _, _, _, _, _, fC b s, Mx_fld M t 0 (by decide) 1, nk_rel, va⟩⟩
theorem st_resolve (fM : liftM aM sh m) (fC : liftC aC sh x) (h : wLL sh x) (M : wMd sh m) (iv : IW sh x m V) (i b t st : Int) : Stq aM aC sh x m V 102 [wR x, wI i, wI b, wI t, wI st] 176 [wR m, wI i, wI b, wI t, wI st] [0, 2, 1, 3] := by
  obtain ⟨tp, ou, f0, f1, rw', s, u, va⟩ := iv.nf
  have S := S102 h s i b t st
  have cc : ∀ (X : wSt) (y : Int), uI X m 0 y m 0 = y := fun X y => (fld (V := X) M 0 y).2.2
  by_cases hi : (0 ≤ i ∧ i < 8) ∧ (0 ≤ b ∧ b < 8) ∧ (0 ≤ t ∧ t < 8)
  · unfold res at S
    rw [nk_lt (p := b.toNat) (by omega), nk_lt (p := t.toNat) (by omega)] at S
    by_cases f : (cutQ (rw' b.toNat) 0).2 = 0
    · refine ⟨_, V, S.2.1 hi f, fun a => ?_⟩
      obtain ⟨V2, e2, t2, c2⟩ := (M176 M (fM a u) i b t st).2.1 hi f
      exact ⟨_, V2, e2, c2, fun v hv' => (by cases hv'), fun b => ⟨_, _, _, _, _, _, fC b s, t2, nk_rel, va⟩⟩
    · have b1 : (cutQ (rw' b.toNat) 0).2 = 1 := ((Fl_cut _).1 0 (by decide)).resolve_left f
      have gg := (qRes_good (Q0 := fun _ => ([], 0)) st (Good_cut (va b.toNat (by omega))) (Good_cut (va t.toNat (by omega))) b1).1
      obtain ⟨g1, g2⟩ := good_up gg (fun _ _ => rfl)
      obtain ⟨r1, r2, r3⟩ := rel_up (nk_rel (rw' := rw')) va (i := i.toNat) g1 g2
      by_cases l : 400 < (cmm (qRes (fun _ => ([], 0)) (cutQ (rw' b.toNat)) (cutQ (rw' t.toNat)) st)).length
      · obtain ⟨V1, e1, s1⟩ := S.2.2.1 hi f (by rw [r3]; omega)
        refine ⟨_, V1, e1, fun a => ?_⟩
        obtain ⟨V2, e2, t2, c2⟩ := ((M176 M (fM a u) i b t st).2.2 hi f _ rfl).1 l
        exact ⟨_, V2, e2, c2, fun v hv' => (by cases hv'), fun b => ⟨_, _, _, _, _, _, fC b s1, t2, nk_rel, va⟩⟩
      · obtain ⟨V1, e1, s1⟩ := S.2.2.2 hi f (by rw [r3]; omega)
        rw [r3] at e1
        refine ⟨_, V1, e1, fun a => ?_⟩
        obtain ⟨V2, e2, t2, c2⟩ := ((M176 M (fM a u) i b t st).2.2 hi f _ rfl).2 (by omega)
        exact ⟨_, V2, e2, c2, fun v hv' => by cases hv'; rfl, fun b => ⟨_, _, _, _, _, _, fC b s1, t2, r1, r2⟩⟩
  · refine ⟨_, V, S.1 hi, fun a => ?_⟩
    exact ⟨_, _, (M176 M u i b t st).1 hi, cc V 1, fun v hv' => (by cases hv'), fun b => ⟨_, _, _, _, _, _, fC b s, Mx_fld M u 0 (by decide) 1, nk_rel, va⟩⟩
theorem st_norm (fM : liftM aM sh m) (fC : liftC aC sh x) (h : wLL sh x) (M : wMd sh m) (iv : IW sh x m V) (i t w : Int) : Stq aM aC sh x m V 103 [wR x, wI i, wI t, wI w] 186 [wR m, wI i, wI t, wI w] [2, 0, 1, 3] := by
  obtain ⟨tp, ou, f0, f1, rw', s, u, va⟩ := iv.nf
  have S := S103 h s i t w (nk_5 va _)
  have cc : ∀ (X : wSt) (y : Int), uI X m 0 y m 0 = y := fun X y => (fld (V := X) M 0 y).2.2
  obtain ⟨U, hU⟩ : ∃ U, U = V (sr sh (sr sh x 6) 0) := ⟨_, rfl⟩
  rw [← hU] at S
  by_cases hi : (0 ≤ i ∧ i < 8) ∧ (0 ≤ t ∧ t < 8)
  · have hi' : (0 ≤ i ∧ i ≤ 7) ∧ (0 ≤ t ∧ t ≤ 7) := by omega
    unfold nrm at S
    rw [nk_lt (p := t.toNat) (by omega)] at S
    by_cases f : 0 ≤ w ∧ w ≤ 31
    · obtain ⟨g1, g2⟩ := good_up (qNrm_good (Good_cut (va t.toNat (by omega))) w U) (fun _ _ => rfl)
      obtain ⟨r1, r2, r3⟩ := rel_up (nk_rel (rw' := rw')) va (i := i.toNat) g1 g2
      by_cases l : 400 < (cmm (qNrm (cutQ (rw' t.toNat)) w U)).length
      · obtain ⟨V1, e1, s1⟩ := S.2.2.1 hi f (by rw [r3]; omega)
        refine ⟨_, V1, e1, fun a => ?_⟩
        obtain ⟨V2, e2, t2, c2⟩ := ((M186 M (fM a u) i t w va U).2.2 hi' f _ rfl).1 l
        exact ⟨_, V2, e2, c2, fun v hv' => (by cases hv'), fun b => ⟨_, _, _, _, _, _, fC b s1, t2, nk_rel, va⟩⟩
      · obtain ⟨V1, e1, s1⟩ := S.2.2.2 hi f (by rw [r3]; omega)
        rw [r3] at e1
        refine ⟨_, V1, e1, fun a => ?_⟩
        obtain ⟨V2, e2, t2, c2⟩ := ((M186 M (fM a u) i t w va U).2.2 hi' f _ rfl).2 (by omega)
        exact ⟨_, V2, e2, c2, fun v hv' => by cases hv'; rfl, fun b => ⟨_, _, _, _, _, _, fC b s1, t2, r1, r2⟩⟩
    · refine ⟨_, V, S.2.1 hi f, fun a => ?_⟩
      exact ⟨_, _, (M186 M u i t w va U).2.1 hi' f, cc V 2, fun v hv' => (by cases hv'), fun b => ⟨_, _, _, _, _, _, fC b s, Mx_fld M u 0 (by decide) 2, nk_rel, va⟩⟩
  · refine ⟨_, V, S.1 hi, fun a => ?_⟩
    exact ⟨_, _, (M186 M u i t w va U).1 (fun q => hi (by omega)), cc V 1, fun v hv' => (by cases hv'), fun b => ⟨_, _, _, _, _, _, fC b s, Mx_fld M u 0 (by decide) 1, nk_rel, va⟩⟩
theorem st_same (fM : liftM aM sh m) (fC : liftC aC sh x) (h : wLL sh x) (M : wMd sh m) (iv : IW sh x m V) (i t w : Int) : Stq aM aC sh x m V 105 [wR x, wI i, wI t, wI w] 187 [wR m, wI i, wI t, wI w] [2, 0, 1, 0] := by
  obtain ⟨tp, ou, f0, f1, rw', s, u, va⟩ := iv.nf
  have S := S105 h s i t w (nk_5 va _) (nk_5 va _)
  have cc : ∀ (X : wSt) (y : Int), uI X m 0 y m 0 = y := fun X y => (fld (V := X) M 0 y).2.2
  by_cases hi : (0 ≤ i ∧ i < 8) ∧ (0 ≤ t ∧ t < 8)
  · have hi' : (0 ≤ i ∧ i ≤ 7) ∧ (0 ≤ t ∧ t ≤ 7) := by omega
    by_cases f : 0 ≤ w ∧ w ≤ 31
    · obtain ⟨V1, W, W', e1, s1⟩ := S.2.2 hi f
      unfold nrm at e1
      rw [nk_lt (p := i.toNat) (by omega), nk_lt (p := t.toNat) (by omega), qNrm_U _ w W' W] at e1
      refine ⟨_, V1, e1, fun a => ?_⟩
      obtain ⟨V2, e2, t2, c2⟩ := (M187 M (fM a u) i t w va W).2.2 hi' f
      refine ⟨_, V2, e2, c2, fun v hv' => ?_, fun b => ⟨_, _, _, _, _, _, fC b s1, t2, nk_rel, va⟩⟩
      cases hv'
      have gi := qNrm_good (Good_cut (va i.toNat (by omega))) w W
      have gt := qNrm_good (Good_cut (va t.toNat (by omega))) w W
      refine congrArg wI (bI_cg ⟨fun q => cmm_cg q, fun q k hk => ?_⟩)
      rw [← gi.cut k hk, ← gt.cut k hk, ← cmm_cmp gi.1, ← cmm_cmp gt.1, q]
    · refine ⟨_, V, S.2.1 hi f, fun a => ?_⟩
      exact ⟨_, _, (M187 M u i t w va (fun _ => 0)).2.1 hi' f, cc V 2, fun v hv' => (by cases hv'), fun b => ⟨_, _, _, _, _, _, fC b s, Mx_fld M u 0 (by decide) 2, nk_rel, va⟩⟩
  · refine ⟨_, V, S.1 hi, fun a => ?_⟩
    exact ⟨_, _, (M187 M u i t w va (fun _ => 0)).1 (fun q => hi (by omega)), cc V 1, fun v hv' => (by cases hv'), fun b => ⟨_, _, _, _, _, _, fC b s, Mx_fld M u 0 (by decide) 1, nk_rel, va⟩⟩
theorem st_relate (fM : liftM aM sh m) (fC : liftC aC sh x) (h : wLL sh x) (M : wMd sh m) (iv : IW sh x m V) (i b t : Int) : Stq aM aC sh x m V 104 [wR x, wI i, wI b, wI t] 192 [wR m, wI i, wI b, wI t] [0, 2, 1, 3] := by
  obtain ⟨tp, ou, f0, f1, rw', s, u, va⟩ := iv.nf
  have S := S104 h s i b t
  have cc : ∀ (X : wSt) (y : Int), uI X m 0 y m 0 = y := fun X y => (fld (V := X) M 0 y).2.2
  by_cases hi : (0 ≤ i ∧ i < 8) ∧ (0 ≤ b ∧ b < 8) ∧ (0 ≤ t ∧ t < 8)
  · have hi' : (0 ≤ i ∧ i ≤ 7) ∧ (0 ≤ b ∧ b ≤ 7) ∧ (0 ≤ t ∧ t ≤ 7) := by omega
    unfold rel at S
    rw [nk_lt (p := b.toNat) (by omega), nk_lt (p := t.toNat) (by omega)] at S
    by_cases f : (cutQ (rw' b.toNat) 0).2 = 0 ∨ (cutQ (rw' t.toNat) 0).2 = 0
    · refine ⟨_, V, S.2.1 hi f, fun a => ?_⟩
      obtain ⟨V2, e2, t2, c2⟩ := (M192 M (fM a u) i b t va).2.1 hi' f
      exact ⟨_, V2, e2, c2, fun v hv' => (by cases hv'), fun b => ⟨_, _, _, _, _, _, fC b s, t2, nk_rel, va⟩⟩
    · obtain ⟨w, hw⟩ : ∃ w, w = bway (cutQ (rw' b.toNat)) (cutQ (rw' t.toNat)) := ⟨_, rfl⟩
      have ok := bway_ok (cutQ (rw' b.toNat)) (cutQ (rw' t.toNat))
      rw [← hw] at S ok
      by_cases w1 : w = -1
      · obtain ⟨V1, e1, s1⟩ := S.2.2.1 hi f w1
        refine ⟨_, V1, e1, fun a => ?_⟩
        obtain ⟨V2, e2, t2, c2⟩ := ((M192 M (fM a u) i b t va).2.2 hi' f w hw).1 w1
        exact ⟨_, V2, e2, c2, fun v hv' => (by cases hv'), fun b => ⟨_, _, _, _, _, _, fC b s1, t2, nk_rel, va⟩⟩
      · obtain ⟨V1, e1, s1⟩ := S.2.2.2 hi f w1
        obtain ⟨o1, o2⟩ := ok.resolve_left w1
        have FT := Fl_cut (rw' t.toNat)
        have wl := (way_len w (cutQ (rw' b.toNat)) (cutQ (rw' t.toNat)) FT 401 (by decide)).mp (by omega)
        have FF := qWm_Fl (w := w) (B := cutQ (rw' b.toNat)) FT
        have pt := cmm_path FF
        have qe : qWay w (cutQ (rw' b.toNat)) (cutQ (rw' t.toNat)) = qWm w (cutQ (rw' b.toNat)) (cutQ (rw' t.toNat)) := funext ((qWay_p w _ _ FT).1 (by omega))
        have oc := o1.1
        rw [qe] at oc e1 s1
        rw [← cmm_cmp FF] at oc
        obtain ⟨r1, r2, r3⟩ := rel_up (nk_rel (rw' := rw')) va (i := i.toNat) oc (Va_cg (fun k hk => (oc k hk).symm) (qWm_Va (va t.toNat (by omega))))
        rw [r3] at e1
        refine ⟨_, V1, e1, fun a => ?_⟩
        obtain ⟨-, V2, e2, t2, c2⟩ := ((M192 M (fM a u) i b t va).2.2 hi' f w hw).2 w1 _ rfl
        exact ⟨_, V2, e2, c2, fun v hv' => by cases hv'; rfl, fun b => ⟨_, _, _, _, _, _, fC b s1, t2, r1, r2⟩⟩
  · refine ⟨_, V, S.1 hi, fun a => ?_⟩
    exact ⟨_, _, (M192 M u i b t va).1 (fun q => hi (by omega)), cc V 1, fun v hv' => (by cases hv'), fun b => ⟨_, _, _, _, _, _, fC b s, Mx_fld M u 0 (by decide) 1, nk_rel, va⟩⟩
theorem st_segs (fM : liftM aM sh m) (fC : liftC aC sh x) (h : wLL sh x) (M : wMd sh m) (iv : IW sh x m V) (i : Int) : Stq aM aC sh x m V 106 [wR x, wI i] 196 [wR m, wI i] [0, 0, 1, 0] := by
  obtain ⟨tp, ou, f0, f1, rw', s, t, va⟩ := iv.nf
  have S := S106 h s i
  have cc : ∀ (X : wSt) (y : Int), uI X m 0 y m 0 = y := fun X y => (fld (V := X) M 0 y).2.2
  by_cases hi : 0 ≤ i ∧ i < 8
  · have e := S.2 hi
    rw [nk_lt (p := i.toNat) (by omega)] at e
    refine ⟨_, V, e, fun a => ?_⟩
    obtain ⟨V2, e2, t2, c2⟩ := (M196 M (fM a t) i).2 hi
    exact ⟨_, V2, e2, c2, fun v hv' => by cases hv'; rfl, fun b => ⟨_, _, _, _, _, _, fC b s, t2, nk_rel, va⟩⟩
  · refine ⟨_, V, S.1 hi, fun a => ?_⟩
    exact ⟨_, _, (M196 M t i).1 hi, cc V 1, fun v hv' => (by cases hv'), fun b => ⟨_, _, _, _, _, _, fC b s, Mx_fld M t 0 (by decide) 1, nk_rel, va⟩⟩
theorem st_pairs (fM : liftM aM sh m) (fC : liftC aC sh x) (h : wLL sh x) (M : wMd sh m) (iv : IW sh x m V) (i : Int) : Stq aM aC sh x m V 110 [wR x, wI i] 205 [wR m, wI i] [0, 0, 1, 0] := by
  obtain ⟨tp, ou, f0, f1, rw', s, t, va⟩ := iv.nf
  have S := S110 h s i
  have cc : ∀ (X : wSt) (y : Int), uI X m 0 y m 0 = y := fun X y => (fld (V := X) M 0 y).2.2
  by_cases hi : 0 ≤ i ∧ i < 8
  · have e := S.2 hi
    rw [nk_lt (p := i.toNat) (by omega)] at e
    refine ⟨_, V, e, fun a => ?_⟩
    obtain ⟨V2, e2, t2, c2⟩ := (M205 M (fM a t) i).2 hi
    exact ⟨_, V2, e2, c2, fun v hv' => by cases hv'; rfl, fun b => ⟨_, _, _, _, _, _, fC b s, t2, nk_rel, va⟩⟩
  · refine ⟨_, V, S.1 hi, fun a => ?_⟩
    exact ⟨_, _, (M205 M t i).1 hi, cc V 1, fun v hv' => (by cases hv'), fun b => ⟨_, _, _, _, _, _, fC b s, Mx_fld M t 0 (by decide) 1, nk_rel, va⟩⟩
theorem st_seg (fM : liftM aM sh m) (fC : liftC aC sh x) (h : wLL sh x) (M : wMd sh m) (iv : IW sh x m V) (i j : Int) (hj : -2147483648 ≤ j ∧ j ≤ 2147483647) : Stq aM aC sh x m V 107 [wR x, wI i, wI j] 200 [wR m, wI i, wI j] [2, 0, 1, 0] := by
  obtain ⟨tp, ou, f0, f1, rw', s, t, va⟩ := iv.nf
  have S := S107 h s i j hj.2
  have cc : ∀ (X : wSt) (y : Int), uI X m 0 y m 0 = y := fun X y => (fld (V := X) M 0 y).2.2
  have hc : 0 ≤ i ∧ i < 8 → cdk (cutQ (rw' i.toNat) 4).1 := fun hi => ((va i.toNat (by omega)).2.1 4 (Or.inr (Or.inl rfl))).2
  by_cases hi : 0 ≤ i ∧ i < 8
  · rw [nk_lt (p := i.toNat) (by omega)] at S
    have lq := cut_sum (rw' i.toNat)
    have lr := t.2.2.2.2.2.2 i.toNat (by omega)
    by_cases c : 0 ≤ j ∧ j < sgc (cutQ (rw' i.toNat) 4).1
    · obtain ⟨V1, e1, s1⟩ := S.2.2 hi c
      rw [sgt_len _ (by omega)] at e1 s1
      refine ⟨_, V1, e1, fun a => ?_⟩
      obtain ⟨V2, e2, t2, c2⟩ := (M200 M (fM a t) i j (by omega) hc).2.2 hi c
      exact ⟨_, V2, e2, c2, fun v hv' => by cases hv'; rfl, fun b => ⟨_, _, _, _, _, _, fC b s1, t2, nk_rel, va⟩⟩
    · refine ⟨_, V, S.2.1 hi c, fun a => ?_⟩
      obtain ⟨V2, e2, t2, c2⟩ : ∃ V', wcl zP 200 [wR m, wI i, wI j] (sh, V) = rI 0 (sh, V') ∧ Mx sh m V' tp ou rw' ∧ V' m 0 = 2 := by
        by_cases z : j < 0
        · exact M200n M t i j z hi
        · exact (M200 M t i j (by omega) hc).2.1 hi c
      exact ⟨_, V2, e2, c2, fun v hv' => (by cases hv'), fun b => ⟨_, _, _, _, _, _, fC b s, t2, nk_rel, va⟩⟩
  · refine ⟨_, V, S.1 hi, fun a => ?_⟩
    refine ⟨wI 0, uI V m 0 1, ?_, cc V 1, fun v hv' => (by cases hv'), fun b => ⟨_, _, _, _, _, _, fC b s, Mx_fld M t 0 (by decide) 1, nk_rel, va⟩⟩
    rw [w200_0, M127, if_neg (by omega)]
    simp only [wcx_v, wput_s, w200_5]
    rw [if_pos trivial, cc, if_neg (by decide), if_neg (by decide)]
theorem st_pair (fM : liftM aM sh m) (fC : liftC aC sh x) (h : wLL sh x) (M : wMd sh m) (iv : IW sh x m V) (i j z : Int) (hj : -2147483648 ≤ j ∧ j ≤ 2147483647) : Stq aM aC sh x m V 111 [wR x, wI i, wI j, wI z] 206 [wR m, wI i, wI j, wI z] [2, 0, 1, 0] := by
  obtain ⟨tp, ou, f0, f1, rw', s, t, va⟩ := iv.nf
  have S := S111 h s i j z
  have cc : ∀ (X : wSt) (y : Int), uI X m 0 y m 0 = y := fun X y => (fld (V := X) M 0 y).2.2
  have hc : 0 ≤ i ∧ i < 8 → cdk (cutQ (rw' i.toNat) 5).1 := fun hi => ((va i.toNat (by omega)).2.1 5 (Or.inr (Or.inr (Or.inl rfl)))).2
  by_cases hi : 0 ≤ i ∧ i < 8
  · rw [nk_lt (p := i.toNat) (by omega)] at S
    have lq := cut_sum (rw' i.toNat)
    have lr := t.2.2.2.2.2.2 i.toNat (by omega)
    by_cases c : 0 ≤ j ∧ j < prc (cutQ (rw' i.toNat) 5)
    · obtain ⟨V1, e1, s1⟩ := S.2.2 hi c
      rw [prt_len _ (by omega)] at e1 s1
      refine ⟨_, V1, e1, fun a => ?_⟩
      obtain ⟨V2, e2, t2, c2⟩ := (M206 M (fM a t) i j z (by omega) hc).2.2 hi c
      exact ⟨_, V2, e2, c2, fun v hv' => by cases hv'; rfl, fun b => ⟨_, _, _, _, _, _, fC b s1, t2, nk_rel, va⟩⟩
    · refine ⟨_, V, S.2.1 hi c, fun a => ?_⟩
      obtain ⟨V2, e2, t2, c2⟩ : ∃ V', wcl zP 206 [wR m, wI i, wI j, wI z] (sh, V) = rI 0 (sh, V') ∧ Mx sh m V' tp ou rw' ∧ V' m 0 = 2 := by
        by_cases q : j < 0
        · exact M206n M t i j z q hi
        · exact (M206 M t i j z (by omega) hc).2.1 hi c
      exact ⟨_, V2, e2, c2, fun v hv' => (by cases hv'), fun b => ⟨_, _, _, _, _, _, fC b s, t2, nk_rel, va⟩⟩
  · refine ⟨_, V, S.1 hi, fun a => ?_⟩
    refine ⟨wI 0, uI V m 0 1, ?_, cc V 1, fun v hv' => (by cases hv'), fun b => ⟨_, _, _, _, _, _, fC b s, Mx_fld M t 0 (by decide) 1, nk_rel, va⟩⟩
    rw [w206_0, M127, if_neg (by omega)]
    simp only [wcx_v, wput_s, w206_5]
    rw [if_pos trivial, w206_13, cc, if_neg (by decide), w206_47, cc, if_neg (by decide)]
theorem st_desc (fM : liftM aM sh m) (fC : liftC aC sh x) (h : wLL sh x) (M : wMd sh m) (iv : IW sh x m V) (i : Int) : Stq aM aC sh x m V 108 [wR x, wI i] 201 [wR m, wI i] [0, 0, 1, 2] := by
  obtain ⟨tp, ou, f0, f1, rw', s, t, va⟩ := iv.nf
  have S := S108 h s i
  have hT := sx_by s.2.1
  by_cases hi : 0 ≤ i ∧ i < 8
  · rw [nk_lt (p := i.toNat) (by omega)] at S
    obtain ⟨g1, g2⟩ := good_up (qDes_good (Good_cut (va i.toNat (by omega))) hT) (fun _ _ => rfl)
    obtain ⟨r1, r2, r3⟩ := rel_up (nk_rel (rw' := rw')) va (i := i.toNat) g1 g2
    have FD := (qDes_good (Good_cut (va i.toNat (by omega))) hT).1
    have dz : dsz (cutQ (rw' i.toNat)) tp = ((cmm (qDes (cutQ (rw' i.toNat)) tp)).length : Int) := by
      have F := Fl_cut (rw' i.toNat)
      obtain ⟨Q, hQ⟩ : ∃ Q, Q = cutQ (rw' i.toNat) := ⟨_, rfl⟩
      rw [← hQ] at F FD ⊢
      have a := cmm_sum Q
      have b := cmm_sum (qDes Q tp)
      have o : ∀ k, k ≠ 4 → jn (qDes Q tp) k = jn Q k := fun k hk => by
        have q : ∀ j, j ≠ 4 → qDes Q tp j = Q j := fun j hj => by unfold qDes pup; rw [if_neg hj]
        unfold jn; rw [q k hk, q 1 (by decide)]
      have q4 : qDes Q tp 4 = ((Q 4).1 ++ ((if dsl Q = 0 then [] else [47]) ++ cod tp), (Q 4).2) := by unfold qDes; exact pup_at Q 4 _
      have f4 := F.2.2.1
      have j1 := jn_4 (Q := Q) (by rw [f4]; decide)
      have j2 := jn_4 (Q := qDes Q tp) (by rw [q4]; show (Q 4).2 ≠ 0; rw [f4]; decide)
      rw [q4] at j2
      have j3 : (jn (qDes Q tp) 4).length = (Q 4).1.length + ((if dsl Q = 0 then ([] : List Int) else [47]).length + (cod tp).length) := by rw [j2]; simp only [List.length_append]
      have dl : ((if dsl Q = 0 then ([] : List Int) else [47]).length : Int) = if dsl Q = 0 then 0 else 1 := by split <;> rfl
      rw [o 0 (by decide), o 1 (by decide), o 2 (by decide), o 3 (by decide), o 5 (by decide), o 6 (by decide), j3] at b
      rw [j1] at a
      unfold dsz
      rw [pln_cmp F, ← cmm_cmp F]
      omega
    rw [dz] at S
    by_cases l : 400 < (cmm (qDes (cutQ (rw' i.toNat)) tp)).length
    · obtain ⟨V1, e1, s1⟩ := S.2.1 hi (by omega)
      refine ⟨_, V1, e1, fun a => ?_⟩
      obtain ⟨V2, e2, t2, c2⟩ := ((M201 M (fM a t) hT i).2 hi _ rfl).1 l
      exact ⟨_, V2, e2, c2, fun v hv' => (by cases hv'), fun b => ⟨_, _, _, _, _, _, fC b s1, t2, nk_rel, va⟩⟩
    · obtain ⟨V1, e1, s1⟩ := S.2.2 hi (by omega)
      rw [r3] at e1
      refine ⟨_, V1, e1, fun a => ?_⟩
      obtain ⟨V2, e2, t2, c2⟩ := ((M201 M (fM a t) hT i).2 hi _ rfl).2 (by omega)
      exact ⟨_, V2, e2, c2, fun v hv' => by cases hv'; rfl, fun b => ⟨_, _, _, _, _, _, fC b s1, t2, r1, r2⟩⟩
  · obtain ⟨V1, e1, s1⟩ := S.1 hi
    refine ⟨_, V1, e1, fun a => ?_⟩
    obtain ⟨V2, e2, t2, c2⟩ := (M201 M (fM a t) hT i).1 hi
    exact ⟨_, V2, e2, c2, fun v hv' => (by cases hv'), fun b => ⟨_, _, _, _, _, _, fC b s1, t2, nk_rel, va⟩⟩
theorem st_asc (fM : liftM aM sh m) (fC : liftC aC sh x) (h : wLL sh x) (M : wMd sh m) (iv : IW sh x m V) (i : Int) : Stq aM aC sh x m V 109 [wR x, wI i] 203 [wR m, wI i] [0, 0, 1, 0] := by
  obtain ⟨tp, ou, f0, f1, rw', s, t, va⟩ := iv.nf
  have S := S109 h s i
  have cc : ∀ (X : wSt) (y : Int), uI X m 0 y m 0 = y := fun X y => (fld (V := X) M 0 y).2.2
  by_cases hi : 0 ≤ i ∧ i < 8
  · rw [nk_lt (p := i.toNat) (by omega)] at S
    obtain ⟨g1, g2⟩ := good_up (qAsc_good (Good_cut (va i.toNat (by omega)))) (fun _ _ => rfl)
    obtain ⟨r1, r2, r3⟩ := rel_up (nk_rel (rw' := rw')) va (i := i.toNat) g1 g2
    obtain ⟨V1, e1, s1⟩ := S.2 hi
    rw [r3] at e1
    refine ⟨_, V1, e1, fun a => ?_⟩
    obtain ⟨-, V2, e2, t2, c2⟩ := (M203 M (fM a t) i).2 hi _ rfl
    exact ⟨_, V2, e2, c2, fun v hv' => by cases hv'; rfl, fun b => ⟨_, _, _, _, _, _, fC b s1, t2, r1, r2⟩⟩
  · refine ⟨_, V, S.1 hi, fun a => ?_⟩
    exact ⟨_, _, (M203 M t i).1 hi, cc V 1, fun v hv' => (by cases hv'), fun b => ⟨_, _, _, _, _, _, fC b s, Mx_fld M t 0 (by decide) 1, nk_rel, va⟩⟩
theorem st_word (fM : liftM aM sh m) (fC : liftC aC sh x) (h : wLL sh x) (M : wMd sh m) (iv : IW sh x m V) (i : Int) : Stq aM aC sh x m V 112 [wR x, wI i] 207 [wR m, wI i] [0, 0, 0, 0] := by
  obtain ⟨tp, ou, f0, f1, rw', s, t, va⟩ := iv.nf
  have cc : ∀ (X : wSt) (y : Int), uI X m 0 y m 0 = y := fun X y => (fld (V := X) M 0 y).2.2
  have lb : lB ou := by rw [← s.2.2.1]; exact tx_lB _ _ _
  refine ⟨_, V, S112 h s i, fun a => ?_⟩
  exact ⟨_, _, M207 M t lb i, cc V 0, fun v hv' => by cases hv'; rfl, fun b => ⟨_, _, _, _, _, _, fC b s, Mx_fld M t 0 (by decide) 0, nk_rel, va⟩⟩
/-- where the fault stands is not compared here -/
theorem st_fault (fM : liftM aM sh m) (fC : liftC aC sh x) (h : wLL sh x) (M : wMd sh m) (iv : IW sh x m V) (i : Int) : ∃ y1, wcl zP 96 [wR x, wI i] (sh, V) = rI y1 (sh, V) ∧ ∃ y2 V2, wcl zP 166 [wR m, wI i] (sh, V) = rI y2 (sh, V2) ∧ V2 m 0 = 0 ∧ (aC V V2 → IW sh x m V2) := by
  obtain ⟨tp, ou, f0, f1, rw', s, t, va⟩ := iv.nf
  obtain ⟨y2, e2, t2⟩ := M166q M t i
  exact ⟨_, S96 h s i, y2, _, e2, (fld (V := V) M 0 0).2.2, fun b => ⟨_, _, _, _, _, _, fC b s, t2, nk_rel, va⟩⟩
end
