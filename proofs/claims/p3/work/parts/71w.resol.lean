set_option maxRecDepth 16384
/-! what resolving does -/
/-- two paths one behind the other -/
def mrg (B : Nat → List Int × Int) (L : List Int) : List Int := (B 4).1.take (fli (gl (B 4).1) 47 0 ((B 4).1.length - 1) + 1).toNat ++ ((if fli (gl (B 4).1) 47 0 ((B 4).1.length - 1) + 1 = 0 ∧ (B 2).2 ≠ 0 then [47] else []) ++ L)
theorem S55 {sh : zSh} {V : wSt} {p b t : Nat} (A : AllR sh V) (Z : zInj sh) (P : wPt sh p) (B : wPt sh b) (T : wPt sh t) (db : pdj sh p b) (dt : pdj sh p t) (C : wCp sh p 808) (Cb : wCp sh b 400) (Ct : wCp sh t 400) : ∃ V', wcl zP 55 [wR (sr sh p 4), wR b, wR (sr sh t 4)] (sh, V) = rN (sh, V') ∧ PwU sh V V' p (pup (pv sh V p) 4 (mrg (pv sh V b) (pv sh V t 4).1, 1)) := by
  have hr := P.1 4 (by decide)
  have qb := A _ (B.1 4 (by decide))
  have qt := A _ (T.1 4 (by decide))
  have n1 := db 4 4 (by decide) (by decide)
  have n2 := Z _ _ (B.1 4 (by decide)) hr n1
  have m1 := dt 4 4 (by decide) (by decide)
  have m2 := Z _ _ (T.1 4 (by decide)) hr m1
  have lb := pv_le A B Cb (k := 4) (by decide)
  have lt := pv_le A T Ct (k := 4) (by decide)
  rw [if_pos rfl] at lb lt
  have zb := qb.sz
  have zt := qt.sz
  obtain ⟨X, hX⟩ : ∃ X, X = (pv sh V b 4).1 := ⟨_, rfl⟩
  obtain ⟨Y, hY⟩ : ∃ Y, Y = (pv sh V t 4).1 := ⟨_, rfl⟩
  have tb : (X.length : Int) = V (sr sh b 4) 1 := by rw [hX]; exact tx_sz qb
  have tt : (Y.length : Int) = V (sr sh t 4) 1 := by rw [hY]; exact tx_sz qt
  have xb : tx sh V (sr sh b 4) = X := hX.symm
  have xt : tx sh V (sr sh t 4) = Y := hY.symm
  rw [← hX] at lb
  rw [← hY] at lt ⊢
  have fr := fli_r2 (gl X) 47 0 _ ((X.length : Int) - 1) rfl
  obtain ⟨F, hF⟩ : ∃ F, F = fli (gl X) 47 0 ((X.length : Int) - 1) := ⟨_, rfl⟩
  rw [← hF] at fr
  have hm : mrg (pv sh V b) Y = X.take (F + 1).toNat ++ ((if F + 1 = 0 ∧ (pv sh V b 2).2 ≠ 0 then [47] else []) ++ Y) := by unfold mrg; rw [← hX, ← hF]
  rw [hm]
  -- step by step
  have e1 := S69 qb 47 0 (V (sr sh b 4) 1) (by omega) (by omega) (by decide)
  rw [xb, ← tb, ← hF] at e1
  obtain ⟨V1, e2, u1, -⟩ := S62 (V := V) hr
  have u1' := u1.th 1 (Or.inr rfl)
  obtain ⟨W, hW⟩ : ∃ W, W = uI V1 (sr sh p 4) 2 1 := ⟨_, rfl⟩
  rw [← hW] at u1'
  obtain ⟨bw, bt, bv⟩ := u1'.fr hr qb n1 n2
  obtain ⟨V2, e3, u2⟩ := S61g u1'.2.1 bw 0 (F + 1) (by decide) (by omega)
  rw [u1'.2.2.1, bt, xb, List.nil_append, show sub X 0 (F + 1) = X.take (F + 1).toNat by unfold sub; rw [show (0 : Int).toNat = 0 from rfl, List.drop_zero, Int.sub_zero], C 4 (by decide), if_pos rfl, List.take_of_length_le (by rw [List.length_take]; omega), u1'.2.2.2] at u2
  have u12 := u1'.trans u2
  have A2 := u12.all A
  -- the host of the base
  have hb2 : V2 (sr sh b 2) 2 = (pv sh V b 2).2 := by
    have o := u12.oth Z (B.1 2 (by decide)) (db 2 4 (by decide) (by decide))
    rw [o.2]; rfl
  obtain ⟨V3, e4, u3⟩ : ∃ V3, wev zP 55 39 [some (wR (sr sh p 4)), some (wR b), some (wR (sr sh t 4)), some (wI (F + 1))] [] (sh, V2) = wev zP 55 59 [some (wR (sr sh p 4)), some (wR b), some (wR (sr sh t 4)), some (wI (F + 1))] [] (sh, V3) ∧ RwU sh V V3 (sr sh p 4) (X.take (F + 1).toNat ++ (if F + 1 = 0 ∧ (pv sh V b 2).2 ≠ 0 then [47] else [])) 1 := by
    rw [w55_39, hb2]
    by_cases c : F + 1 = 0
    · rw [if_pos c]
      by_cases d : (pv sh V b 2).2 = 0
      · rw [if_pos d, if_neg (fun w => w.2 d), List.append_nil]; exact ⟨V2, rfl, u12⟩
      · rw [if_neg d, if_pos ⟨c, d⟩]
        obtain ⟨V3, e, u⟩ := S59g u12.2.1 47
        rw [wand_id (by decide), u12.2.2.1, C 4 (by decide), if_pos rfl, List.take_of_length_le (by rw [List.length_append, List.length_take]; simp only [List.length_cons, List.length_nil]; omega), u12.2.2.2] at u
        exact ⟨V3, by rw [e]; simp only [wcx_v, wput_n], u12.trans u⟩
    · rw [if_neg c, if_neg (fun w => c w.1), List.append_nil]; exact ⟨V2, rfl, u12⟩
  obtain ⟨tw, ttx, tv⟩ := u3.fr hr qt m1 m2
  obtain ⟨V4, e5, u4⟩ := S61g u3.2.1 tw 0 (V3 (sr sh t 4) 1) (by decide) (by rw [tv]; omega)
  rw [u3.2.2.1, ttx, xt, tv, ← tt, sub_all, C 4 (by decide), if_pos rfl, List.take_of_length_le (by rw [List.length_append, List.length_append, List.length_take]; split <;> simp only [List.length_cons, List.length_nil] <;> omega), u3.2.2.2, List.append_assoc] at u4
  refine ⟨V4, ?_, (u3.trans u4).pw A Z P (by decide)⟩
  rw [w55_0, ← tb, e1]
  simp only [wcx_v, wput_s, w55_17, e2, wput_n, w55_24]
  rw [wr_eq (by omega) (by omega), ← hW, e3]
  simp only [wcx_v, wput_n]
  rw [e4, w55_59, tv, ← tt]
  rw [tv, ← tt] at e5
  rw [e5]
  simp only [wcx_v, wput_n, w55_69]
