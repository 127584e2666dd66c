set_option maxRecDepth 16384
/-! X9_fault -/
theorem s166 {sh : zSh} {t : zSt} {MB : Nat} {r0 : Nat} (q0 : zMd sh MB r0) {x1 : Int} (u1 : -2147483648 ≤ x1 ∧ x1 ≤ 2147483647) (G : GI sh r0 t) : zok (zcl zP 166 [zR r0, zI (oI x1)] (sh, t)) (qI (fun x t' => FrV sh r0 [0] t t' ∧ (tg t' (sr sh r0 2) 13 = tg t (sr sh r0 2) 13)) sh) := by
  have ha0_1 : (sk sh (sr sh r0 1)).2 = 21000 := by rw [q0.2.2.2.2.1]
  have ha0_2 : (sk sh (sr sh r0 2)).2 = 14 := by rw [q0.2.2.2.2.2.1]
  have ha0_3 : (sk sh (sr sh r0 3)).2 = 98 := by rw [q0.2.2.2.2.2.2.1]
  have ha0_4 : (sk sh (sr sh r0 4)).2 = 98 := by rw [q0.2.2.2.2.2.2.2.1]
  have ha0_8 : (sk sh (sr sh r0 8)).2 = 1500 := by rw [q0.2.2.2.2.2.2.2.2.1]
  have ha0_9 : (sk sh (sr sh r0 9)).2 = 10500 := by rw [q0.2.2.2.2.2.2.2.2.2.1]
  have ha0_10 : (sk sh (sr sh r0 10)).2 = 7 := by rw [q0.2.2.2.2.2.2.2.2.2.2.1]
  have ha0_11 : (sk sh (sr sh r0 11)).2 = 7 := by rw [q0.2.2.2.2.2.2.2.2.2.2.2.1]
  have ha0_12 : (sk sh (sr sh r0 12)).2 = 1500 := by rw [q0.2.2.2.2.2.2.2.2.2.2.2.2.1]
  have ha0_13 : (sk sh (sr sh r0 13)).2 = 1500 := by rw [q0.2.2.2.2.2.2.2.2.2.2.2.2.2.1]
  have ha0_14 : (sk sh (sr sh r0 14)).2 = 20 := by rw [q0.2.2.2.2.2.2.2.2.2.2.2.2.2.2]
  have g1_1 := And.intro (tg_lo (tI t r0 0 (oI 0)) r0 5) (tg_hi (tI t r0 0 (oI 0)) r0 5)
  have g1_2 := And.intro (tg_lo (tI t r0 0 (oI 0)) r0 6) (tg_hi (tI t r0 0 (oI 0)) r0 6)
  rw [b166_0]
  try simp only [zput_s, zput_n, ti_g, oI_add, oI_sub, oI_mul]
  refine zok_ck (by first | exact ⟨(q0).1, fun e => by cases e⟩ | exact (q0).1) ?_
  obtain ⟨t2, ht2⟩ : ∃ t', t' = tI t r0 (0) (oI (0)) := ⟨_, rfl⟩
  try simp only [zt0, zt1, zt2, zt3, zt4, zt5, zt6, zt7, zt8, zt9, zt10, zt11, zt12, zt13] at ht2
  rw [← ht2]
  have f2 : FrV sh r0 [0] t t2 := by rw [ht2]; exact GI_m q0 (G) (by omega) (fun e => by first | omega | cases e) (fun e => by first | omega | cases e)
  have d2_0 : tg t2 r0 0 = 0 := by rw [ht2]; refine (tg_at (by omega)).trans ?_; first | exact if_pos rfl | exact if_neg (by decide) | (simp only [zt0, zt1, zt2, zt3, zt4, zt5, zt6, zt7, zt8, zt9, zt10, zt11, zt12, zt13, true_and, if_true])
  have d2_5 : tg t2 r0 5 = tg t r0 5 := by rw [ht2]; refine (tg_at (by omega)).trans ?_; first | exact if_pos rfl | exact if_neg (by decide) | (simp only [zt0, zt1, zt2, zt3, zt4, zt5, zt6, zt7, zt8, zt9, zt10, zt11, zt12, zt13, true_and, if_true])
  have d2_6 : tg t2 r0 6 = tg t r0 6 := by rw [ht2]; refine (tg_at (by omega)).trans ?_; first | exact if_pos rfl | exact if_neg (by decide) | (simp only [zt0, zt1, zt2, zt3, zt4, zt5, zt6, zt7, zt8, zt9, zt10, zt11, zt12, zt13, true_and, if_true])
  try simp only [zt0, zt1, zt2, zt3, zt4, zt5, zt6, zt7, zt8, zt9, zt10, zt11, zt12, zt13] at d2_0
  try simp only [zt0, zt1, zt2, zt3, zt4, zt5, zt6, zt7, zt8, zt9, zt10, zt11, zt12, zt13] at d2_5
  try simp only [zt0, zt1, zt2, zt3, zt4, zt5, zt6, zt7, zt8, zt9, zt10, zt11, zt12, zt13] at d2_6
  have e2_2 : ∀ k, tg t2 (sr sh r0 2) k = tg t (sr sh r0 2) k := fun k => f2.eq q0 (i := 2) (by decide) (by decide) k
  have e2_3 : ∀ k, tg t2 (sr sh r0 3) k = tg t (sr sh r0 3) k := fun k => f2.eq q0 (i := 3) (by decide) (by decide) k
  have e2_4 : ∀ k, tg t2 (sr sh r0 4) k = tg t (sr sh r0 4) k := fun k => f2.eq q0 (i := 4) (by decide) (by decide) k
  have e2_10 : ∀ k, tg t2 (sr sh r0 10) k = tg t (sr sh r0 10) k := fun k => f2.eq q0 (i := 10) (by decide) (by decide) k
  have e2_11 : ∀ k, tg t2 (sr sh r0 11) k = tg t (sr sh r0 11) k := fun k => f2.eq q0 (i := 11) (by decide) (by decide) k
  first | refine zok_eq (by omega) (fun c3 => ?_) (fun c3 => ?_) | refine zok_if (fun c3 => ?_) (fun c3 => ?_)
  · refine zok_ck ((q0).1) ?_
    first | exact qI_rt (by omega) (by omega) ⟨(FrV.trans (Ns := [0]) (FrV.refl (Ls := []) G) f2 (by decide) (by decide)), by ((try have c0 := hq1 13 (by decide)); (try have c0 := hq1 13); (try have c1 := e2_2 13); (try simp only [zt0, zt1, zt2, zt3, zt4, zt5, zt6, zt7, zt8, zt9, zt10, zt11, zt12, zt13] at *) <;> omega)⟩ | exact qI_nf ⟨(FrV.trans (Ns := [0]) (FrV.refl (Ls := []) G) f2 (by decide) (by decide)), by ((try have c0 := hq1 13 (by decide)); (try have c0 := hq1 13); (try have c1 := e2_2 13); (try simp only [zt0, zt1, zt2, zt3, zt4, zt5, zt6, zt7, zt8, zt9, zt10, zt11, zt12, zt13] at *) <;> omega)⟩
  · refine zok_ck ((q0).1) ?_
    first | exact qI_rt (by omega) (by omega) ⟨(FrV.trans (Ns := [0]) (FrV.refl (Ls := []) G) f2 (by decide) (by decide)), by ((try have c0 := hq1 13 (by decide)); (try have c0 := hq1 13); (try have c1 := e2_2 13); (try simp only [zt0, zt1, zt2, zt3, zt4, zt5, zt6, zt7, zt8, zt9, zt10, zt11, zt12, zt13] at *) <;> omega)⟩ | exact qI_nf ⟨(FrV.trans (Ns := [0]) (FrV.refl (Ls := []) G) f2 (by decide) (by decide)), by ((try have c0 := hq1 13 (by decide)); (try have c0 := hq1 13); (try have c1 := e2_2 13); (try simp only [zt0, zt1, zt2, zt3, zt4, zt5, zt6, zt7, zt8, zt9, zt10, zt11, zt12, zt13] at *) <;> omega)⟩
/-! X9_host -/
theorem s170 {sh : zSh} {t : zSt} {MB : Nat} {r0 : Nat} (q0 : zMd sh MB r0) {x1 : Int} (u1 : -2147483648 ≤ x1 ∧ x1 ≤ 2147483647) (G : GI sh r0 t) : zok (zcl zP 170 [zR r0, zI (oI x1)] (sh, t)) (qI (fun x t' => FrV sh r0 [0, 3, 4, 14] t t' ∧ (tg t' (sr sh r0 2) 13 = tg t (sr sh r0 2) 13)) sh) := by
  have ha0_1 : (sk sh (sr sh r0 1)).2 = 21000 := by rw [q0.2.2.2.2.1]
  have ha0_2 : (sk sh (sr sh r0 2)).2 = 14 := by rw [q0.2.2.2.2.2.1]
  have ha0_3 : (sk sh (sr sh r0 3)).2 = 98 := by rw [q0.2.2.2.2.2.2.1]
  have ha0_4 : (sk sh (sr sh r0 4)).2 = 98 := by rw [q0.2.2.2.2.2.2.2.1]
  have ha0_8 : (sk sh (sr sh r0 8)).2 = 1500 := by rw [q0.2.2.2.2.2.2.2.2.1]
  have ha0_9 : (sk sh (sr sh r0 9)).2 = 10500 := by rw [q0.2.2.2.2.2.2.2.2.2.1]
  have ha0_10 : (sk sh (sr sh r0 10)).2 = 7 := by rw [q0.2.2.2.2.2.2.2.2.2.2.1]
  have ha0_11 : (sk sh (sr sh r0 11)).2 = 7 := by rw [q0.2.2.2.2.2.2.2.2.2.2.2.1]
  have ha0_12 : (sk sh (sr sh r0 12)).2 = 1500 := by rw [q0.2.2.2.2.2.2.2.2.2.2.2.2.1]
  have ha0_13 : (sk sh (sr sh r0 13)).2 = 1500 := by rw [q0.2.2.2.2.2.2.2.2.2.2.2.2.2.1]
  have ha0_14 : (sk sh (sr sh r0 14)).2 = 20 := by rw [q0.2.2.2.2.2.2.2.2.2.2.2.2.2.2]
  rw [b170_0]
  try simp only [zput_s, zput_n, ti_g, oI_add, oI_sub, oI_mul]
  refine zok_pI (s127 (by omega)) (fun y2 u2 p2 => ?_)
  try simp only [zt0, zt1, zt2, zt3, zt4, zt5, zt6, zt7, zt8, zt9, zt10, zt11, zt12, zt13] at p2
  have g3_1 := And.intro (tg_lo (tI t r0 0 (oI 1)) r0 0) (tg_hi (tI t r0 0 (oI 1)) r0 0)
  have g3_2 := And.intro (tg_lo (tI t r0 0 (oI 0)) r0 0) (tg_hi (tI t r0 0 (oI 0)) r0 0)
  simp only [zput_s, zput_n, ti_g, oI_add, oI_sub, oI_mul, zt0, zt1, zt2, zt3, zt4, zt5, zt6, zt7, zt8, zt9, zt10, zt11, zt12, zt13, b170_5]
  try simp only [zput_s, zput_n, ti_g, oI_add, oI_sub, oI_mul]
  first | refine zok_eq (by omega) (fun c4 => ?_) (fun c4 => ?_) | refine zok_if (fun c4 => ?_) (fun c4 => ?_)
  · refine zok_ck (by first | exact ⟨(q0).1, fun e => by cases e⟩ | exact (q0).1) ?_
    obtain ⟨t5, ht5⟩ : ∃ t', t' = tI t r0 (0) (oI (1)) := ⟨_, rfl⟩
    try simp only [zt0, zt1, zt2, zt3, zt4, zt5, zt6, zt7, zt8, zt9, zt10, zt11, zt12, zt13] at ht5
    rw [← ht5]
    have f5 : FrV sh r0 [0] t t5 := by rw [ht5]; exact GI_m q0 (G) (by omega) (fun e => by first | omega | cases e) (fun e => by first | omega | cases e)
    have d5_0 : tg t5 r0 0 = 1 := by rw [ht5]; refine (tg_at (by omega)).trans ?_; first | exact if_pos rfl | exact if_neg (by decide) | (simp only [zt0, zt1, zt2, zt3, zt4, zt5, zt6, zt7, zt8, zt9, zt10, zt11, zt12, zt13, true_and, if_true])
    try simp only [zt0, zt1, zt2, zt3, zt4, zt5, zt6, zt7, zt8, zt9, zt10, zt11, zt12, zt13] at d5_0
    have e5_2 : ∀ k, tg t5 (sr sh r0 2) k = tg t (sr sh r0 2) k := fun k => f5.eq q0 (i := 2) (by decide) (by decide) k
    have e5_3 : ∀ k, tg t5 (sr sh r0 3) k = tg t (sr sh r0 3) k := fun k => f5.eq q0 (i := 3) (by decide) (by decide) k
    have e5_4 : ∀ k, tg t5 (sr sh r0 4) k = tg t (sr sh r0 4) k := fun k => f5.eq q0 (i := 4) (by decide) (by decide) k
    have e5_10 : ∀ k, tg t5 (sr sh r0 10) k = tg t (sr sh r0 10) k := fun k => f5.eq q0 (i := 10) (by decide) (by decide) k
    have e5_11 : ∀ k, tg t5 (sr sh r0 11) k = tg t (sr sh r0 11) k := fun k => f5.eq q0 (i := 11) (by decide) (by decide) k
    refine zok_ck ((q0).1) ?_
    first | refine zok_le (by omega) (fun c6 => ?_) (fun c6 => ?_) | refine zok_if (fun c6 => ?_) (fun c6 => ?_)
    · refine zok_ck ((q0).1) ?_
      refine zok_cI (s169 (q0) (by omega) (by first | (omega) | ((try simp only [zt0, zt1, zt2, zt3, zt4, zt5, zt6, zt7, zt8, zt9, zt10, zt11, zt12, zt13, e5_2, e5_3, e5_4, e5_10, e5_11]); omega)) (f5.g)) (fun y7 t7 u7 p7 => ?_)
      obtain ⟨f7, p7⟩ := p7
      have e7_2 : ∀ k, tg t7 (sr sh r0 2) k = tg t5 (sr sh r0 2) k := fun k => f7.eq q0 (i := 2) (by decide) (by decide) k
      have e7_10 : ∀ k, tg t7 (sr sh r0 10) k = tg t5 (sr sh r0 10) k := fun k => f7.eq q0 (i := 10) (by decide) (by decide) k
      have e7_11 : ∀ k, tg t7 (sr sh r0 11) k = tg t5 (sr sh r0 11) k := fun k => f7.eq q0 (i := 11) (by decide) (by decide) k
      try simp only [zt0, zt1, zt2, zt3, zt4, zt5, zt6, zt7, zt8, zt9, zt10, zt11, zt12, zt13, e5_2, e5_3, e5_4, e5_10, e5_11, e7_2, e7_10, e7_11] at p7
      simp only [zput_s, zput_n, ti_g, oI_add, oI_sub, oI_mul, zt0, zt1, zt2, zt3, zt4, zt5, zt6, zt7, zt8, zt9, zt10, zt11, zt12, zt13, e5_2, e5_3, e5_4, e5_10, e5_11, e7_2, e7_10, e7_11, b170_32]
      try simp only [zput_s, zput_n, ti_g, oI_add, oI_sub, oI_mul]
      first | exact qI_rt (by omega) (by omega) ⟨(FrV.trans (Ns := [0, 3, 4, 14]) ((FrV.trans (Ns := [0, 3, 4, 14]) (FrV.refl (Ls := []) G) f5 (by decide) (by decide))) f7 (by decide) (by decide)), by ((try have c0 := hq1 13 (by decide)); (try have c0 := hq1 13); (try have c1 := e5_2 13); (try have c6 := e7_2 13); (try simp only [zt0, zt1, zt2, zt3, zt4, zt5, zt6, zt7, zt8, zt9, zt10, zt11, zt12, zt13] at *) <;> omega)⟩ | exact qI_nf ⟨(FrV.trans (Ns := [0, 3, 4, 14]) ((FrV.trans (Ns := [0, 3, 4, 14]) (FrV.refl (Ls := []) G) f5 (by decide) (by decide))) f7 (by decide) (by decide)), by ((try have c0 := hq1 13 (by decide)); (try have c0 := hq1 13); (try have c1 := e5_2 13); (try have c6 := e7_2 13); (try simp only [zt0, zt1, zt2, zt3, zt4, zt5, zt6, zt7, zt8, zt9, zt10, zt11, zt12, zt13] at *) <;> omega)⟩
    · simp only [zput_s, zput_n, ti_g, oI_add, oI_sub, oI_mul, zt0, zt1, zt2, zt3, zt4, zt5, zt6, zt7, zt8, zt9, zt10, zt11, zt12, zt13, e5_2, e5_3, e5_4, e5_10, e5_11, b170_32]
      try simp only [zput_s, zput_n, ti_g, oI_add, oI_sub, oI_mul]
      first | exact qI_rt (by omega) (by omega) ⟨(FrV.trans (Ns := [0, 3, 4, 14]) (FrV.refl (Ls := []) G) f5 (by decide) (by decide)), by ((try have c0 := hq1 13 (by decide)); (try have c0 := hq1 13); (try have c1 := e5_2 13); (try simp only [zt0, zt1, zt2, zt3, zt4, zt5, zt6, zt7, zt8, zt9, zt10, zt11, zt12, zt13] at *) <;> omega)⟩ | exact qI_nf ⟨(FrV.trans (Ns := [0, 3, 4, 14]) (FrV.refl (Ls := []) G) f5 (by decide) (by decide)), by ((try have c0 := hq1 13 (by decide)); (try have c0 := hq1 13); (try have c1 := e5_2 13); (try simp only [zt0, zt1, zt2, zt3, zt4, zt5, zt6, zt7, zt8, zt9, zt10, zt11, zt12, zt13] at *) <;> omega)⟩
  · refine zok_ck (by first | exact ⟨(q0).1, fun e => by cases e⟩ | exact (q0).1) ?_
    obtain ⟨t10, ht10⟩ : ∃ t', t' = tI t r0 (0) (oI (0)) := ⟨_, rfl⟩
    try simp only [zt0, zt1, zt2, zt3, zt4, zt5, zt6, zt7, zt8, zt9, zt10, zt11, zt12, zt13] at ht10
    rw [← ht10]
    have f10 : FrV sh r0 [0] t t10 := by rw [ht10]; exact GI_m q0 (G) (by omega) (fun e => by first | omega | cases e) (fun e => by first | omega | cases e)
    have d10_0 : tg t10 r0 0 = 0 := by rw [ht10]; refine (tg_at (by omega)).trans ?_; first | exact if_pos rfl | exact if_neg (by decide) | (simp only [zt0, zt1, zt2, zt3, zt4, zt5, zt6, zt7, zt8, zt9, zt10, zt11, zt12, zt13, true_and, if_true])
    try simp only [zt0, zt1, zt2, zt3, zt4, zt5, zt6, zt7, zt8, zt9, zt10, zt11, zt12, zt13] at d10_0
    have e10_2 : ∀ k, tg t10 (sr sh r0 2) k = tg t (sr sh r0 2) k := fun k => f10.eq q0 (i := 2) (by decide) (by decide) k
    have e10_3 : ∀ k, tg t10 (sr sh r0 3) k = tg t (sr sh r0 3) k := fun k => f10.eq q0 (i := 3) (by decide) (by decide) k
    have e10_4 : ∀ k, tg t10 (sr sh r0 4) k = tg t (sr sh r0 4) k := fun k => f10.eq q0 (i := 4) (by decide) (by decide) k
    have e10_10 : ∀ k, tg t10 (sr sh r0 10) k = tg t (sr sh r0 10) k := fun k => f10.eq q0 (i := 10) (by decide) (by decide) k
    have e10_11 : ∀ k, tg t10 (sr sh r0 11) k = tg t (sr sh r0 11) k := fun k => f10.eq q0 (i := 11) (by decide) (by decide) k
    refine zok_ck ((q0).1) ?_
    first | refine zok_le (by omega) (fun c11 => ?_) (fun c11 => ?_) | refine zok_if (fun c11 => ?_) (fun c11 => ?_)
    · refine zok_ck ((q0).1) ?_
      refine zok_cI (s169 (q0) (by omega) (by first | (omega) | ((try simp only [zt0, zt1, zt2, zt3, zt4, zt5, zt6, zt7, zt8, zt9, zt10, zt11, zt12, zt13, e10_2, e10_3, e10_4, e10_10, e10_11]); omega)) (f10.g)) (fun y12 t12 u12 p12 => ?_)
      obtain ⟨f12, p12⟩ := p12
      have e12_2 : ∀ k, tg t12 (sr sh r0 2) k = tg t10 (sr sh r0 2) k := fun k => f12.eq q0 (i := 2) (by decide) (by decide) k
      have e12_10 : ∀ k, tg t12 (sr sh r0 10) k = tg t10 (sr sh r0 10) k := fun k => f12.eq q0 (i := 10) (by decide) (by decide) k
      have e12_11 : ∀ k, tg t12 (sr sh r0 11) k = tg t10 (sr sh r0 11) k := fun k => f12.eq q0 (i := 11) (by decide) (by decide) k
      try simp only [zt0, zt1, zt2, zt3, zt4, zt5, zt6, zt7, zt8, zt9, zt10, zt11, zt12, zt13, e10_2, e10_3, e10_4, e10_10, e10_11, e12_2, e12_10, e12_11] at p12
      simp only [zput_s, zput_n, ti_g, oI_add, oI_sub, oI_mul, zt0, zt1, zt2, zt3, zt4, zt5, zt6, zt7, zt8, zt9, zt10, zt11, zt12, zt13, e10_2, e10_3, e10_4, e10_10, e10_11, e12_2, e12_10, e12_11, b170_32]
      try simp only [zput_s, zput_n, ti_g, oI_add, oI_sub, oI_mul]
      first | exact qI_rt (by omega) (by omega) ⟨(FrV.trans (Ns := [0, 3, 4, 14]) ((FrV.trans (Ns := [0, 3, 4, 14]) (FrV.refl (Ls := []) G) f10 (by decide) (by decide))) f12 (by decide) (by decide)), by ((try have c0 := hq1 13 (by decide)); (try have c0 := hq1 13); (try have c1 := e10_2 13); (try have c6 := e12_2 13); (try simp only [zt0, zt1, zt2, zt3, zt4, zt5, zt6, zt7, zt8, zt9, zt10, zt11, zt12, zt13] at *) <;> omega)⟩ | exact qI_nf ⟨(FrV.trans (Ns := [0, 3, 4, 14]) ((FrV.trans (Ns := [0, 3, 4, 14]) (FrV.refl (Ls := []) G) f10 (by decide) (by decide))) f12 (by decide) (by decide)), by ((try have c0 := hq1 13 (by decide)); (try have c0 := hq1 13); (try have c1 := e10_2 13); (try have c6 := e12_2 13); (try simp only [zt0, zt1, zt2, zt3, zt4, zt5, zt6, zt7, zt8, zt9, zt10, zt11, zt12, zt13] at *) <;> omega)⟩
    · simp only [zput_s, zput_n, ti_g, oI_add, oI_sub, oI_mul, zt0, zt1, zt2, zt3, zt4, zt5, zt6, zt7, zt8, zt9, zt10, zt11, zt12, zt13, e10_2, e10_3, e10_4, e10_10, e10_11, b170_32]
      try simp only [zput_s, zput_n, ti_g, oI_add, oI_sub, oI_mul]
      first | exact qI_rt (by omega) (by omega) ⟨(FrV.trans (Ns := [0, 3, 4, 14]) (FrV.refl (Ls := []) G) f10 (by decide) (by decide)), by ((try have c0 := hq1 13 (by decide)); (try have c0 := hq1 13); (try have c1 := e10_2 13); (try simp only [zt0, zt1, zt2, zt3, zt4, zt5, zt6, zt7, zt8, zt9, zt10, zt11, zt12, zt13] at *) <;> omega)⟩ | exact qI_nf ⟨(FrV.trans (Ns := [0, 3, 4, 14]) (FrV.refl (Ls := []) G) f10 (by decide) (by decide)), by ((try have c0 := hq1 13 (by decide)); (try have c0 := hq1 13); (try have c1 := e10_2 13); (try simp only [zt0, zt1, zt2, zt3, zt4, zt5, zt6, zt7, zt8, zt9, zt10, zt11, zt12, zt13] at *) <;> omega)⟩
/-! X9_port -/
theorem s172 {sh : zSh} {t : zSt} {MB : Nat} {r0 : Nat} (q0 : zMd sh MB r0) {x1 : Int} (u1 : -2147483648 ≤ x1 ∧ x1 ≤ 2147483647) (G : GI sh r0 t) : zok (zcl zP 172 [zR r0, zI (oI x1)] (sh, t)) (qI (fun x t' => FrV sh r0 [0, 3, 4] t t' ∧ (tg t' (sr sh r0 2) 13 = tg t (sr sh r0 2) 13)) sh) := by
  have ha0_1 : (sk sh (sr sh r0 1)).2 = 21000 := by rw [q0.2.2.2.2.1]
  have ha0_2 : (sk sh (sr sh r0 2)).2 = 14 := by rw [q0.2.2.2.2.2.1]
  have ha0_3 : (sk sh (sr sh r0 3)).2 = 98 := by rw [q0.2.2.2.2.2.2.1]
  have ha0_4 : (sk sh (sr sh r0 4)).2 = 98 := by rw [q0.2.2.2.2.2.2.2.1]
  have ha0_8 : (sk sh (sr sh r0 8)).2 = 1500 := by rw [q0.2.2.2.2.2.2.2.2.1]
  have ha0_9 : (sk sh (sr sh r0 9)).2 = 10500 := by rw [q0.2.2.2.2.2.2.2.2.2.1]
  have ha0_10 : (sk sh (sr sh r0 10)).2 = 7 := by rw [q0.2.2.2.2.2.2.2.2.2.2.1]
  have ha0_11 : (sk sh (sr sh r0 11)).2 = 7 := by rw [q0.2.2.2.2.2.2.2.2.2.2.2.1]
  have ha0_12 : (sk sh (sr sh r0 12)).2 = 1500 := by rw [q0.2.2.2.2.2.2.2.2.2.2.2.2.1]
  have ha0_13 : (sk sh (sr sh r0 13)).2 = 1500 := by rw [q0.2.2.2.2.2.2.2.2.2.2.2.2.2.1]
  have ha0_14 : (sk sh (sr sh r0 14)).2 = 20 := by rw [q0.2.2.2.2.2.2.2.2.2.2.2.2.2.2]
  rw [b172_0]
  try simp only [zput_s, zput_n, ti_g, oI_add, oI_sub, oI_mul]
  refine zok_pI (s127 (by omega)) (fun y2 u2 p2 => ?_)
  try simp only [zt0, zt1, zt2, zt3, zt4, zt5, zt6, zt7, zt8, zt9, zt10, zt11, zt12, zt13] at p2
  have g3_1 := And.intro (tg_lo (tI t r0 0 (oI 1)) r0 0) (tg_hi (tI t r0 0 (oI 1)) r0 0)
  have g3_2 := And.intro (tg_lo (tI t r0 0 (oI 0)) r0 0) (tg_hi (tI t r0 0 (oI 0)) r0 0)
  simp only [zput_s, zput_n, ti_g, oI_add, oI_sub, oI_mul, zt0, zt1, zt2, zt3, zt4, zt5, zt6, zt7, zt8, zt9, zt10, zt11, zt12, zt13, b172_5]
  try simp only [zput_s, zput_n, ti_g, oI_add, oI_sub, oI_mul]
  first | refine zok_eq (by omega) (fun c4 => ?_) (fun c4 => ?_) | refine zok_if (fun c4 => ?_) (fun c4 => ?_)
  · refine zok_ck (by first | exact ⟨(q0).1, fun e => by cases e⟩ | exact (q0).1) ?_
    obtain ⟨t5, ht5⟩ : ∃ t', t' = tI t r0 (0) (oI (1)) := ⟨_, rfl⟩
    try simp only [zt0, zt1, zt2, zt3, zt4, zt5, zt6, zt7, zt8, zt9, zt10, zt11, zt12, zt13] at ht5
    rw [← ht5]
    have f5 : FrV sh r0 [0] t t5 := by rw [ht5]; exact GI_m q0 (G) (by omega) (fun e => by first | omega | cases e) (fun e => by first | omega | cases e)
    have d5_0 : tg t5 r0 0 = 1 := by rw [ht5]; refine (tg_at (by omega)).trans ?_; first | exact if_pos rfl | exact if_neg (by decide) | (simp only [zt0, zt1, zt2, zt3, zt4, zt5, zt6, zt7, zt8, zt9, zt10, zt11, zt12, zt13, true_and, if_true])
    try simp only [zt0, zt1, zt2, zt3, zt4, zt5, zt6, zt7, zt8, zt9, zt10, zt11, zt12, zt13] at d5_0
    have e5_2 : ∀ k, tg t5 (sr sh r0 2) k = tg t (sr sh r0 2) k := fun k => f5.eq q0 (i := 2) (by decide) (by decide) k
    have e5_3 : ∀ k, tg t5 (sr sh r0 3) k = tg t (sr sh r0 3) k := fun k => f5.eq q0 (i := 3) (by decide) (by decide) k
    have e5_4 : ∀ k, tg t5 (sr sh r0 4) k = tg t (sr sh r0 4) k := fun k => f5.eq q0 (i := 4) (by decide) (by decide) k
    have e5_10 : ∀ k, tg t5 (sr sh r0 10) k = tg t (sr sh r0 10) k := fun k => f5.eq q0 (i := 10) (by decide) (by decide) k
    have e5_11 : ∀ k, tg t5 (sr sh r0 11) k = tg t (sr sh r0 11) k := fun k => f5.eq q0 (i := 11) (by decide) (by decide) k
    refine zok_ck ((q0).1) ?_
    first | refine zok_le (by omega) (fun c6 => ?_) (fun c6 => ?_) | refine zok_if (fun c6 => ?_) (fun c6 => ?_)
    · refine zok_ck ((q0).1) ?_
      have gs7 := (f5.g).1 (x1).toNat
      try simp only [zt0, zt1, zt2, zt3, zt4, zt5, zt6, zt7, zt8, zt9, zt10, zt11, zt12, zt13, e5_2, e5_3, e5_4, e5_10, e5_11] at gs7
      refine zok_c0 (s138 (q0) (by omega) (by first | (omega) | ((try simp only [zt0, zt1, zt2, zt3, zt4, zt5, zt6, zt7, zt8, zt9, zt10, zt11, zt12, zt13, e5_2, e5_3, e5_4, e5_10, e5_11]); omega)) (by first | (omega) | ((try simp only [zt0, zt1, zt2, zt3, zt4, zt5, zt6, zt7, zt8, zt9, zt10, zt11, zt12, zt13, e5_2, e5_3, e5_4, e5_10, e5_11]); omega)) (f5.g)) (fun t7 p7 => ?_)
      obtain ⟨f7, p7⟩ := p7
      have e7_2 : ∀ k, tg t7 (sr sh r0 2) k = tg t5 (sr sh r0 2) k := fun k => f7.eq q0 (i := 2) (by decide) (by decide) k
      have e7_10 : ∀ k, tg t7 (sr sh r0 10) k = tg t5 (sr sh r0 10) k := fun k => f7.eq q0 (i := 10) (by decide) (by decide) k
      have e7_11 : ∀ k, tg t7 (sr sh r0 11) k = tg t5 (sr sh r0 11) k := fun k => f7.eq q0 (i := 11) (by decide) (by decide) k
      have d7_0 : tg t7 r0 0 = tg t5 r0 0 := f7.eq q0 (i := 0) (by decide) (by decide) 0
      try simp only [zt0, zt1, zt2, zt3, zt4, zt5, zt6, zt7, zt8, zt9, zt10, zt11, zt12, zt13, e5_2, e5_3, e5_4, e5_10, e5_11, e7_2, e7_10, e7_11] at p7
      simp only [zput_s, zput_n, ti_g, oI_add, oI_sub, oI_mul, zt0, zt1, zt2, zt3, zt4, zt5, zt6, zt7, zt8, zt9, zt10, zt11, zt12, zt13, e5_2, e5_3, e5_4, e5_10, e5_11, e7_2, e7_10, e7_11, b172_30]
      try simp only [zput_s, zput_n, ti_g, oI_add, oI_sub, oI_mul]
      refine zok_ck ((q0).1) ?_
      refine zok_pI (s134 (q0) (by omega) (by omega) (by first | (omega) | ((try simp only [zt0, zt1, zt2, zt3, zt4, zt5, zt6, zt7, zt8, zt9, zt10, zt11, zt12, zt13, e5_2, e5_3, e5_4, e5_10, e5_11, e7_2, e7_10, e7_11]); omega)) (by first | (omega) | ((try simp only [zt0, zt1, zt2, zt3, zt4, zt5, zt6, zt7, zt8, zt9, zt10, zt11, zt12, zt13, e5_2, e5_3, e5_4, e5_10, e5_11, e7_2, e7_10, e7_11]); omega)) (f7.g)) (fun y9 u9 p9 => ?_)
      try simp only [zt0, zt1, zt2, zt3, zt4, zt5, zt6, zt7, zt8, zt9, zt10, zt11, zt12, zt13, e5_2, e5_3, e5_4, e5_10, e5_11, e7_2, e7_10, e7_11] at p9
      simp only [zput_s, zput_n, ti_g, oI_add, oI_sub, oI_mul, zt0, zt1, zt2, zt3, zt4, zt5, zt6, zt7, zt8, zt9, zt10, zt11, zt12, zt13, e5_2, e5_3, e5_4, e5_10, e5_11, e7_2, e7_10, e7_11, b172_36]
      try simp only [zput_s, zput_n, ti_g, oI_add, oI_sub, oI_mul]
      first | refine zok_eq (by omega) (fun c11 => ?_) (fun c11 => ?_) | refine zok_if (fun c11 => ?_) (fun c11 => ?_)
      · simp only [zput_s, zput_n, ti_g, oI_add, oI_sub, oI_mul, zt0, zt1, zt2, zt3, zt4, zt5, zt6, zt7, zt8, zt9, zt10, zt11, zt12, zt13, e5_2, e5_3, e5_4, e5_10, e5_11, e7_2, e7_10, e7_11, b172_58]
        try simp only [zput_s, zput_n, ti_g, oI_add, oI_sub, oI_mul]
        first | exact qI_rt (by omega) (by omega) ⟨(FrV.trans (Ns := [0, 3, 4]) ((FrV.trans (Ns := [0, 3, 4]) (FrV.refl (Ls := []) G) f5 (by decide) (by decide))) f7 (by decide) (by decide)), by ((try have c0 := hq1 13 (by decide)); (try have c0 := hq1 13); (try have c1 := e5_2 13); (try have c6 := e7_2 13); (try simp only [zt0, zt1, zt2, zt3, zt4, zt5, zt6, zt7, zt8, zt9, zt10, zt11, zt12, zt13] at *) <;> omega)⟩ | exact qI_nf ⟨(FrV.trans (Ns := [0, 3, 4]) ((FrV.trans (Ns := [0, 3, 4]) (FrV.refl (Ls := []) G) f5 (by decide) (by decide))) f7 (by decide) (by decide)), by ((try have c0 := hq1 13 (by decide)); (try have c0 := hq1 13); (try have c1 := e5_2 13); (try have c6 := e7_2 13); (try simp only [zt0, zt1, zt2, zt3, zt4, zt5, zt6, zt7, zt8, zt9, zt10, zt11, zt12, zt13] at *) <;> omega)⟩
      · refine zok_ck ((q0).1) ?_
        refine zok_pI (s135 (q0) (by omega) (by omega) (by first | (omega) | ((try simp only [zt0, zt1, zt2, zt3, zt4, zt5, zt6, zt7, zt8, zt9, zt10, zt11, zt12, zt13, e5_2, e5_3, e5_4, e5_10, e5_11, e7_2, e7_10, e7_11]); omega)) (by first | (omega) | ((try simp only [zt0, zt1, zt2, zt3, zt4, zt5, zt6, zt7, zt8, zt9, zt10, zt11, zt12, zt13, e5_2, e5_3, e5_4, e5_10, e5_11, e7_2, e7_10, e7_11]); omega)) (f7.g)) (fun y13 u13 p13 => ?_)
        try simp only [zt0, zt1, zt2, zt3, zt4, zt5, zt6, zt7, zt8, zt9, zt10, zt11, zt12, zt13, e5_2, e5_3, e5_4, e5_10, e5_11, e7_2, e7_10, e7_11] at p13
        simp only [zput_s, zput_n, ti_g, oI_add, oI_sub, oI_mul, zt0, zt1, zt2, zt3, zt4, zt5, zt6, zt7, zt8, zt9, zt10, zt11, zt12, zt13, e5_2, e5_3, e5_4, e5_10, e5_11, e7_2, e7_10, e7_11, b172_45]
        try simp only [zput_s, zput_n, ti_g, oI_add, oI_sub, oI_mul]
        first | refine zok_ne (by omega) (fun c15 => ?_) (fun c15 => ?_) | refine zok_if (fun c15 => ?_) (fun c15 => ?_)
        · refine zok_ck ((q0).1) ?_
          refine zok_pI (s150 (q0) (by omega) (by omega) (by first | (omega) | ((try simp only [zt0, zt1, zt2, zt3, zt4, zt5, zt6, zt7, zt8, zt9, zt10, zt11, zt12, zt13, e5_2, e5_3, e5_4, e5_10, e5_11, e7_2, e7_10, e7_11]); omega)) (by first | (omega) | ((try simp only [zt0, zt1, zt2, zt3, zt4, zt5, zt6, zt7, zt8, zt9, zt10, zt11, zt12, zt13, e5_2, e5_3, e5_4, e5_10, e5_11, e7_2, e7_10, e7_11]); omega)) (f7.g)) (fun y16 u16 p16 => ?_)
          try simp only [zt0, zt1, zt2, zt3, zt4, zt5, zt6, zt7, zt8, zt9, zt10, zt11, zt12, zt13, e5_2, e5_3, e5_4, e5_10, e5_11, e7_2, e7_10, e7_11] at p16
          simp only [zput_s, zput_n, ti_g, oI_add, oI_sub, oI_mul, zt0, zt1, zt2, zt3, zt4, zt5, zt6, zt7, zt8, zt9, zt10, zt11, zt12, zt13, e5_2, e5_3, e5_4, e5_10, e5_11, e7_2, e7_10, e7_11, b172_58]
          try simp only [zput_s, zput_n, ti_g, oI_add, oI_sub, oI_mul]
          first | exact qI_rt (by omega) (by omega) ⟨(FrV.trans (Ns := [0, 3, 4]) ((FrV.trans (Ns := [0, 3, 4]) (FrV.refl (Ls := []) G) f5 (by decide) (by decide))) f7 (by decide) (by decide)), by ((try have c0 := hq1 13 (by decide)); (try have c0 := hq1 13); (try have c1 := e5_2 13); (try have c6 := e7_2 13); (try simp only [zt0, zt1, zt2, zt3, zt4, zt5, zt6, zt7, zt8, zt9, zt10, zt11, zt12, zt13] at *) <;> omega)⟩ | exact qI_nf ⟨(FrV.trans (Ns := [0, 3, 4]) ((FrV.trans (Ns := [0, 3, 4]) (FrV.refl (Ls := []) G) f5 (by decide) (by decide))) f7 (by decide) (by decide)), by ((try have c0 := hq1 13 (by decide)); (try have c0 := hq1 13); (try have c1 := e5_2 13); (try have c6 := e7_2 13); (try simp only [zt0, zt1, zt2, zt3, zt4, zt5, zt6, zt7, zt8, zt9, zt10, zt11, zt12, zt13] at *) <;> omega)⟩
        · simp only [zput_s, zput_n, ti_g, oI_add, oI_sub, oI_mul, zt0, zt1, zt2, zt3, zt4, zt5, zt6, zt7, zt8, zt9, zt10, zt11, zt12, zt13, e5_2, e5_3, e5_4, e5_10, e5_11, e7_2, e7_10, e7_11, b172_58]
          try simp only [zput_s, zput_n, ti_g, oI_add, oI_sub, oI_mul]
          first | exact qI_rt (by omega) (by omega) ⟨(FrV.trans (Ns := [0, 3, 4]) ((FrV.trans (Ns := [0, 3, 4]) (FrV.refl (Ls := []) G) f5 (by decide) (by decide))) f7 (by decide) (by decide)), by ((try have c0 := hq1 13 (by decide)); (try have c0 := hq1 13); (try have c1 := e5_2 13); (try have c6 := e7_2 13); (try simp only [zt0, zt1, zt2, zt3, zt4, zt5, zt6, zt7, zt8, zt9, zt10, zt11, zt12, zt13] at *) <;> omega)⟩ | exact qI_nf ⟨(FrV.trans (Ns := [0, 3, 4]) ((FrV.trans (Ns := [0, 3, 4]) (FrV.refl (Ls := []) G) f5 (by decide) (by decide))) f7 (by decide) (by decide)), by ((try have c0 := hq1 13 (by decide)); (try have c0 := hq1 13); (try have c1 := e5_2 13); (try have c6 := e7_2 13); (try simp only [zt0, zt1, zt2, zt3, zt4, zt5, zt6, zt7, zt8, zt9, zt10, zt11, zt12, zt13] at *) <;> omega)⟩
    · first | exact qI_rt (by omega) (by omega) ⟨(FrV.trans (Ns := [0, 3, 4]) (FrV.refl (Ls := []) G) f5 (by decide) (by decide)), by ((try have c0 := hq1 13 (by decide)); (try have c0 := hq1 13); (try have c1 := e5_2 13); (try simp only [zt0, zt1, zt2, zt3, zt4, zt5, zt6, zt7, zt8, zt9, zt10, zt11, zt12, zt13] at *) <;> omega)⟩ | exact qI_nf ⟨(FrV.trans (Ns := [0, 3, 4]) (FrV.refl (Ls := []) G) f5 (by decide) (by decide)), by ((try have c0 := hq1 13 (by decide)); (try have c0 := hq1 13); (try have c1 := e5_2 13); (try simp only [zt0, zt1, zt2, zt3, zt4, zt5, zt6, zt7, zt8, zt9, zt10, zt11, zt12, zt13] at *) <;> omega)⟩
  · refine zok_ck (by first | exact ⟨(q0).1, fun e => by cases e⟩ | exact (q0).1) ?_
    obtain ⟨t19, ht19⟩ : ∃ t', t' = tI t r0 (0) (oI (0)) := ⟨_, rfl⟩
    try simp only [zt0, zt1, zt2, zt3, zt4, zt5, zt6, zt7, zt8, zt9, zt10, zt11, zt12, zt13] at ht19
    rw [← ht19]
    have f19 : FrV sh r0 [0] t t19 := by rw [ht19]; exact GI_m q0 (G) (by omega) (fun e => by first | omega | cases e) (fun e => by first | omega | cases e)
    have d19_0 : tg t19 r0 0 = 0 := by rw [ht19]; refine (tg_at (by omega)).trans ?_; first | exact if_pos rfl | exact if_neg (by decide) | (simp only [zt0, zt1, zt2, zt3, zt4, zt5, zt6, zt7, zt8, zt9, zt10, zt11, zt12, zt13, true_and, if_true])
    try simp only [zt0, zt1, zt2, zt3, zt4, zt5, zt6, zt7, zt8, zt9, zt10, zt11, zt12, zt13] at d19_0
    have e19_2 : ∀ k, tg t19 (sr sh r0 2) k = tg t (sr sh r0 2) k := fun k => f19.eq q0 (i := 2) (by decide) (by decide) k
    have e19_3 : ∀ k, tg t19 (sr sh r0 3) k = tg t (sr sh r0 3) k := fun k => f19.eq q0 (i := 3) (by decide) (by decide) k
    have e19_4 : ∀ k, tg t19 (sr sh r0 4) k = tg t (sr sh r0 4) k := fun k => f19.eq q0 (i := 4) (by decide) (by decide) k
    have e19_10 : ∀ k, tg t19 (sr sh r0 10) k = tg t (sr sh r0 10) k := fun k => f19.eq q0 (i := 10) (by decide) (by decide) k
    have e19_11 : ∀ k, tg t19 (sr sh r0 11) k = tg t (sr sh r0 11) k := fun k => f19.eq q0 (i := 11) (by decide) (by decide) k
    refine zok_ck ((q0).1) ?_
    first | refine zok_le (by omega) (fun c20 => ?_) (fun c20 => ?_) | refine zok_if (fun c20 => ?_) (fun c20 => ?_)
    · refine zok_ck ((q0).1) ?_
      have gs21 := (f19.g).1 (x1).toNat
      try simp only [zt0, zt1, zt2, zt3, zt4, zt5, zt6, zt7, zt8, zt9, zt10, zt11, zt12, zt13, e19_2, e19_3, e19_4, e19_10, e19_11] at gs21
      refine zok_c0 (s138 (q0) (by omega) (by first | (omega) | ((try simp only [zt0, zt1, zt2, zt3, zt4, zt5, zt6, zt7, zt8, zt9, zt10, zt11, zt12, zt13, e19_2, e19_3, e19_4, e19_10, e19_11]); omega)) (by first | (omega) | ((try simp only [zt0, zt1, zt2, zt3, zt4, zt5, zt6, zt7, zt8, zt9, zt10, zt11, zt12, zt13, e19_2, e19_3, e19_4, e19_10, e19_11]); omega)) (f19.g)) (fun t21 p21 => ?_)
      obtain ⟨f21, p21⟩ := p21
      have e21_2 : ∀ k, tg t21 (sr sh r0 2) k = tg t19 (sr sh r0 2) k := fun k => f21.eq q0 (i := 2) (by decide) (by decide) k
      have e21_10 : ∀ k, tg t21 (sr sh r0 10) k = tg t19 (sr sh r0 10) k := fun k => f21.eq q0 (i := 10) (by decide) (by decide) k
      have e21_11 : ∀ k, tg t21 (sr sh r0 11) k = tg t19 (sr sh r0 11) k := fun k => f21.eq q0 (i := 11) (by decide) (by decide) k
      have d21_0 : tg t21 r0 0 = tg t19 r0 0 := f21.eq q0 (i := 0) (by decide) (by decide) 0
      try simp only [zt0, zt1, zt2, zt3, zt4, zt5, zt6, zt7, zt8, zt9, zt10, zt11, zt12, zt13, e19_2, e19_3, e19_4, e19_10, e19_11, e21_2, e21_10, e21_11] at p21
      simp only [zput_s, zput_n, ti_g, oI_add, oI_sub, oI_mul, zt0, zt1, zt2, zt3, zt4, zt5, zt6, zt7, zt8, zt9, zt10, zt11, zt12, zt13, e19_2, e19_3, e19_4, e19_10, e19_11, e21_2, e21_10, e21_11, b172_30]
      try simp only [zput_s, zput_n, ti_g, oI_add, oI_sub, oI_mul]
      refine zok_ck ((q0).1) ?_
      refine zok_pI (s134 (q0) (by omega) (by omega) (by first | (omega) | ((try simp only [zt0, zt1, zt2, zt3, zt4, zt5, zt6, zt7, zt8, zt9, zt10, zt11, zt12, zt13, e19_2, e19_3, e19_4, e19_10, e19_11, e21_2, e21_10, e21_11]); omega)) (by first | (omega) | ((try simp only [zt0, zt1, zt2, zt3, zt4, zt5, zt6, zt7, zt8, zt9, zt10, zt11, zt12, zt13, e19_2, e19_3, e19_4, e19_10, e19_11, e21_2, e21_10, e21_11]); omega)) (f21.g)) (fun y23 u23 p23 => ?_)
      try simp only [zt0, zt1, zt2, zt3, zt4, zt5, zt6, zt7, zt8, zt9, zt10, zt11, zt12, zt13, e19_2, e19_3, e19_4, e19_10, e19_11, e21_2, e21_10, e21_11] at p23
      simp only [zput_s, zput_n, ti_g, oI_add, oI_sub, oI_mul, zt0, zt1, zt2, zt3, zt4, zt5, zt6, zt7, zt8, zt9, zt10, zt11, zt12, zt13, e19_2, e19_3, e19_4, e19_10, e19_11, e21_2, e21_10, e21_11, b172_36]
      try simp only [zput_s, zput_n, ti_g, oI_add, oI_sub, oI_mul]
      first | refine zok_eq (by omega) (fun c25 => ?_) (fun c25 => ?_) | refine zok_if (fun c25 => ?_) (fun c25 => ?_)
      · simp only [zput_s, zput_n, ti_g, oI_add, oI_sub, oI_mul, zt0, zt1, zt2, zt3, zt4, zt5, zt6, zt7, zt8, zt9, zt10, zt11, zt12, zt13, e19_2, e19_3, e19_4, e19_10, e19_11, e21_2, e21_10, e21_11, b172_58]
        try simp only [zput_s, zput_n, ti_g, oI_add, oI_sub, oI_mul]
        first | exact qI_rt (by omega) (by omega) ⟨(FrV.trans (Ns := [0, 3, 4]) ((FrV.trans (Ns := [0, 3, 4]) (FrV.refl (Ls := []) G) f19 (by decide) (by decide))) f21 (by decide) (by decide)), by ((try have c0 := hq1 13 (by decide)); (try have c0 := hq1 13); (try have c1 := e19_2 13); (try have c6 := e21_2 13); (try simp only [zt0, zt1, zt2, zt3, zt4, zt5, zt6, zt7, zt8, zt9, zt10, zt11, zt12, zt13] at *) <;> omega)⟩ | exact qI_nf ⟨(FrV.trans (Ns := [0, 3, 4]) ((FrV.trans (Ns := [0, 3, 4]) (FrV.refl (Ls := []) G) f19 (by decide) (by decide))) f21 (by decide) (by decide)), by ((try have c0 := hq1 13 (by decide)); (try have c0 := hq1 13); (try have c1 := e19_2 13); (try have c6 := e21_2 13); (try simp only [zt0, zt1, zt2, zt3, zt4, zt5, zt6, zt7, zt8, zt9, zt10, zt11, zt12, zt13] at *) <;> omega)⟩
      · refine zok_ck ((q0).1) ?_
        refine zok_pI (s135 (q0) (by omega) (by omega) (by first | (omega) | ((try simp only [zt0, zt1, zt2, zt3, zt4, zt5, zt6, zt7, zt8, zt9, zt10, zt11, zt12, zt13, e19_2, e19_3, e19_4, e19_10, e19_11, e21_2, e21_10, e21_11]); omega)) (by first | (omega) | ((try simp only [zt0, zt1, zt2, zt3, zt4, zt5, zt6, zt7, zt8, zt9, zt10, zt11, zt12, zt13, e19_2, e19_3, e19_4, e19_10, e19_11, e21_2, e21_10, e21_11]); omega)) (f21.g)) (fun y27 u27 p27 => ?_)
        try simp only [zt0, zt1, zt2, zt3, zt4, zt5, zt6, zt7, zt8, zt9, zt10, zt11, zt12, zt13, e19_2, e19_3, e19_4, e19_10, e19_11, e21_2, e21_10, e21_11] at p27
        simp only [zput_s, zput_n, ti_g, oI_add, oI_sub, oI_mul, zt0, zt1, zt2, zt3, zt4, zt5, zt6, zt7, zt8, zt9, zt10, zt11, zt12, zt13, e19_2, e19_3, e19_4, e19_10, e19_11, e21_2, e21_10, e21_11, b172_45]
        try simp only [zput_s, zput_n, ti_g, oI_add, oI_sub, oI_mul]
        first | refine zok_ne (by omega) (fun c29 => ?_) (fun c29 => ?_) | refine zok_if (fun c29 => ?_) (fun c29 => ?_)
        · refine zok_ck ((q0).1) ?_
          refine zok_pI (s150 (q0) (by omega) (by omega) (by first | (omega) | ((try simp only [zt0, zt1, zt2, zt3, zt4, zt5, zt6, zt7, zt8, zt9, zt10, zt11, zt12, zt13, e19_2, e19_3, e19_4, e19_10, e19_11, e21_2, e21_10, e21_11]); omega)) (by first | (omega) | ((try simp only [zt0, zt1, zt2, zt3, zt4, zt5, zt6, zt7, zt8, zt9, zt10, zt11, zt12, zt13, e19_2, e19_3, e19_4, e19_10, e19_11, e21_2, e21_10, e21_11]); omega)) (f21.g)) (fun y30 u30 p30 => ?_)
          try simp only [zt0, zt1, zt2, zt3, zt4, zt5, zt6, zt7, zt8, zt9, zt10, zt11, zt12, zt13, e19_2, e19_3, e19_4, e19_10, e19_11, e21_2, e21_10, e21_11] at p30
          simp only [zput_s, zput_n, ti_g, oI_add, oI_sub, oI_mul, zt0, zt1, zt2, zt3, zt4, zt5, zt6, zt7, zt8, zt9, zt10, zt11, zt12, zt13, e19_2, e19_3, e19_4, e19_10, e19_11, e21_2, e21_10, e21_11, b172_58]
          try simp only [zput_s, zput_n, ti_g, oI_add, oI_sub, oI_mul]
          first | exact qI_rt (by omega) (by omega) ⟨(FrV.trans (Ns := [0, 3, 4]) ((FrV.trans (Ns := [0, 3, 4]) (FrV.refl (Ls := []) G) f19 (by decide) (by decide))) f21 (by decide) (by decide)), by ((try have c0 := hq1 13 (by decide)); (try have c0 := hq1 13); (try have c1 := e19_2 13); (try have c6 := e21_2 13); (try simp only [zt0, zt1, zt2, zt3, zt4, zt5, zt6, zt7, zt8, zt9, zt10, zt11, zt12, zt13] at *) <;> omega)⟩ | exact qI_nf ⟨(FrV.trans (Ns := [0, 3, 4]) ((FrV.trans (Ns := [0, 3, 4]) (FrV.refl (Ls := []) G) f19 (by decide) (by decide))) f21 (by decide) (by decide)), by ((try have c0 := hq1 13 (by decide)); (try have c0 := hq1 13); (try have c1 := e19_2 13); (try have c6 := e21_2 13); (try simp only [zt0, zt1, zt2, zt3, zt4, zt5, zt6, zt7, zt8, zt9, zt10, zt11, zt12, zt13] at *) <;> omega)⟩
        · simp only [zput_s, zput_n, ti_g, oI_add, oI_sub, oI_mul, zt0, zt1, zt2, zt3, zt4, zt5, zt6, zt7, zt8, zt9, zt10, zt11, zt12, zt13, e19_2, e19_3, e19_4, e19_10, e19_11, e21_2, e21_10, e21_11, b172_58]
          try simp only [zput_s, zput_n, ti_g, oI_add, oI_sub, oI_mul]
          first | exact qI_rt (by omega) (by omega) ⟨(FrV.trans (Ns := [0, 3, 4]) ((FrV.trans (Ns := [0, 3, 4]) (FrV.refl (Ls := []) G) f19 (by decide) (by decide))) f21 (by decide) (by decide)), by ((try have c0 := hq1 13 (by decide)); (try have c0 := hq1 13); (try have c1 := e19_2 13); (try have c6 := e21_2 13); (try simp only [zt0, zt1, zt2, zt3, zt4, zt5, zt6, zt7, zt8, zt9, zt10, zt11, zt12, zt13] at *) <;> omega)⟩ | exact qI_nf ⟨(FrV.trans (Ns := [0, 3, 4]) ((FrV.trans (Ns := [0, 3, 4]) (FrV.refl (Ls := []) G) f19 (by decide) (by decide))) f21 (by decide) (by decide)), by ((try have c0 := hq1 13 (by decide)); (try have c0 := hq1 13); (try have c1 := e19_2 13); (try have c6 := e21_2 13); (try simp only [zt0, zt1, zt2, zt3, zt4, zt5, zt6, zt7, zt8, zt9, zt10, zt11, zt12, zt13] at *) <;> omega)⟩
    · first | exact qI_rt (by omega) (by omega) ⟨(FrV.trans (Ns := [0, 3, 4]) (FrV.refl (Ls := []) G) f19 (by decide) (by decide)), by ((try have c0 := hq1 13 (by decide)); (try have c0 := hq1 13); (try have c1 := e19_2 13); (try simp only [zt0, zt1, zt2, zt3, zt4, zt5, zt6, zt7, zt8, zt9, zt10, zt11, zt12, zt13] at *) <;> omega)⟩ | exact qI_nf ⟨(FrV.trans (Ns := [0, 3, 4]) (FrV.refl (Ls := []) G) f19 (by decide) (by decide)), by ((try have c0 := hq1 13 (by decide)); (try have c0 := hq1 13); (try have c1 := e19_2 13); (try simp only [zt0, zt1, zt2, zt3, zt4, zt5, zt6, zt7, zt8, zt9, zt10, zt11, zt12, zt13] at *) <;> omega)⟩
/-! X9_write -/
theorem l167_37 {sh : zSh} {t0 : zSt} {MB : Nat} {r0 : Nat} (q0 : zMd sh MB r0) {x1 : Int} (u1 : -2147483648 ≤ x1 ∧ x1 ≤ 2147483647) (G : GI sh r0 t0) : ∀ (n : Nat) (x2 : Int)  (t1 : zSt), FrV sh r0 [0, 8] t0 t1 → (-2147483648 ≤ x2 ∧ x2 ≤ 2147483647) ∧ (0 ≤ x1 ∧ x1 ≤ 7 ∧ 0 ≤ x2) ∧ (tg t1 r0 7 ≤ 400) ∧ (tg t1 (sr sh r0 2) 13 = tg t0 (sr sh r0 2) 13) → (tg t1 r0 7 - x2).toNat < n → zok (zev zP 167 37 [some (zR r0), some (zI (oI x1)), some (zI (oI x2))] [] (sh, t1)) (qI (fun x t' => FrV sh r0 [0, 8] t0 t' ∧ (tg t' (sr sh r0 2) 13 = tg t0 (sr sh r0 2) 13)) sh) := by
  intro n
  induction n with
  | zero => intro x2  t1 f0 _ hm; omega
  | succ n ih =>
    intro x2  t1 f0 hv hm
    have ha0_1 : (sk sh (sr sh r0 1)).2 = 21000 := by rw [q0.2.2.2.2.1]
    have ha0_2 : (sk sh (sr sh r0 2)).2 = 14 := by rw [q0.2.2.2.2.2.1]
    have ha0_3 : (sk sh (sr sh r0 3)).2 = 98 := by rw [q0.2.2.2.2.2.2.1]
    have ha0_4 : (sk sh (sr sh r0 4)).2 = 98 := by rw [q0.2.2.2.2.2.2.2.1]
    have ha0_8 : (sk sh (sr sh r0 8)).2 = 1500 := by rw [q0.2.2.2.2.2.2.2.2.1]
    have ha0_9 : (sk sh (sr sh r0 9)).2 = 10500 := by rw [q0.2.2.2.2.2.2.2.2.2.1]
    have ha0_10 : (sk sh (sr sh r0 10)).2 = 7 := by rw [q0.2.2.2.2.2.2.2.2.2.2.1]
    have ha0_11 : (sk sh (sr sh r0 11)).2 = 7 := by rw [q0.2.2.2.2.2.2.2.2.2.2.2.1]
    have ha0_12 : (sk sh (sr sh r0 12)).2 = 1500 := by rw [q0.2.2.2.2.2.2.2.2.2.2.2.2.1]
    have ha0_13 : (sk sh (sr sh r0 13)).2 = 1500 := by rw [q0.2.2.2.2.2.2.2.2.2.2.2.2.2.1]
    have ha0_14 : (sk sh (sr sh r0 14)).2 = 20 := by rw [q0.2.2.2.2.2.2.2.2.2.2.2.2.2.2]
    have e0_2 : ∀ k, tg t1 (sr sh r0 2) k = tg t0 (sr sh r0 2) k := fun k => f0.eq q0 (i := 2) (by decide) (by decide) k
    have e0_3 : ∀ k, tg t1 (sr sh r0 3) k = tg t0 (sr sh r0 3) k := fun k => f0.eq q0 (i := 3) (by decide) (by decide) k
    have e0_4 : ∀ k, tg t1 (sr sh r0 4) k = tg t0 (sr sh r0 4) k := fun k => f0.eq q0 (i := 4) (by decide) (by decide) k
    have e0_10 : ∀ k, tg t1 (sr sh r0 10) k = tg t0 (sr sh r0 10) k := fun k => f0.eq q0 (i := 10) (by decide) (by decide) k
    have e0_11 : ∀ k, tg t1 (sr sh r0 11) k = tg t0 (sr sh r0 11) k := fun k => f0.eq q0 (i := 11) (by decide) (by decide) k
    try simp only [zt0, zt1, zt2, zt3, zt4, zt5, zt6, zt7, zt8, zt9, zt10, zt11, zt12, zt13, e0_2, e0_3, e0_4, e0_10, e0_11] at hv
    try simp only [zt0, zt1, zt2, zt3, zt4, zt5, zt6, zt7, zt8, zt9, zt10, zt11, zt12, zt13, e0_2, e0_3, e0_4, e0_10, e0_11] at hm
    have g1_1 := And.intro (tg_lo t1 r0 7) (tg_hi t1 r0 7)
    have gf1_1 := (f0.g).2.2.2.2
    rw [b167_37]
    try simp only [zput_s, zput_n, ti_g, oI_add, oI_sub, oI_mul]
    refine zok_ck ((q0).1) ?_
    first | refine zok_le (by omega) (fun c2 => ?_) (fun c2 => ?_) | refine zok_if (fun c2 => ?_) (fun c2 => ?_)
    · refine zok_ck ((q0).1) ?_
      first | exact qI_rt (by omega) (by omega) ⟨f0, by ((try have c0 := hq1 13 (by decide)); (try have c0 := hq1 13); (try have c1 := e0_2 13); (try simp only [zt0, zt1, zt2, zt3, zt4, zt5, zt6, zt7, zt8, zt9, zt10, zt11, zt12, zt13] at *) <;> omega)⟩ | exact qI_nf ⟨f0, by ((try have c0 := hq1 13 (by decide)); (try have c0 := hq1 13); (try have c1 := e0_2 13); (try simp only [zt0, zt1, zt2, zt3, zt4, zt5, zt6, zt7, zt8, zt9, zt10, zt11, zt12, zt13] at *) <;> omega)⟩
    · refine zok_ck ((q0).1) ?_
      refine zok_ck ((q0).1) ?_
      refine zok_pI (s128 (q0) (by omega) (by omega) (by first | (omega) | ((try simp only [zt0, zt1, zt2, zt3, zt4, zt5, zt6, zt7, zt8, zt9, zt10, zt11, zt12, zt13, e0_2, e0_3, e0_4, e0_10, e0_11]); omega)) (f0.g)) (fun y3 u3 p3 => ?_)
      try simp only [zt0, zt1, zt2, zt3, zt4, zt5, zt6, zt7, zt8, zt9, zt10, zt11, zt12, zt13, e0_2, e0_3, e0_4, e0_10, e0_11] at p3
      simp only [zput_s, zput_n, ti_g, oI_add, oI_sub, oI_mul, zt0, zt1, zt2, zt3, zt4, zt5, zt6, zt7, zt8, zt9, zt10, zt11, zt12, zt13, e0_2, e0_3, e0_4, e0_10, e0_11, b167_56]
      try simp only [zput_s, zput_n, ti_g, oI_add, oI_sub, oI_mul]
      refine zok_ck ⟨(by rw [(q0).2.2.2.2.2.2.2.2.1]), zin_o (by omega) (by omega) (by omega)⟩ ?_
      try rw [nN_o (a := x2) (by omega) (by omega)]
      try simp only [zput_s, zput_n, ti_g, oI_add, oI_sub, oI_mul, zt0, zt1, zt2, zt3, zt4, zt5, zt6, zt7, zt8, zt9, zt10, zt11, zt12, zt13, e0_2, e0_3, e0_4, e0_10, e0_11]
      obtain ⟨t5, ht5⟩ : ∃ t', t' = tI t1 (sr sh r0 8) ((x2).toNat) (oI (y3)) := ⟨_, rfl⟩
      try simp only [zt0, zt1, zt2, zt3, zt4, zt5, zt6, zt7, zt8, zt9, zt10, zt11, zt12, zt13, e0_2, e0_3, e0_4, e0_10, e0_11] at ht5
      rw [← ht5]
      have f5 : FrV sh r0 [8] t1 t5 := by rw [ht5]; exact GI_free q0 (f0.g) (by decide)
      have w5 : ∀ k, tg t5 (sr sh r0 8) k = if k = (x2).toNat then y3 else tg t1 (sr sh r0 8) k := fun k => by rw [ht5]; refine (tg_at (by omega)).trans ?_; first | rfl | simp only [zt0, zt1, zt2, zt3, zt4, zt5, zt6, zt7, zt8, zt9, zt10, zt11, zt12, zt13, e0_2, e0_3, e0_4, e0_10, e0_11, true_and]
      have ws5 : tg t5 (sr sh r0 8) ((x2).toNat) = y3 := by rw [w5, if_pos rfl]
      try simp only [zt0, zt1, zt2, zt3, zt4, zt5, zt6, zt7, zt8, zt9, zt10, zt11, zt12, zt13, e0_2, e0_3, e0_4, e0_10, e0_11] at w5
      try simp only [zt0, zt1, zt2, zt3, zt4, zt5, zt6, zt7, zt8, zt9, zt10, zt11, zt12, zt13, e0_2, e0_3, e0_4, e0_10, e0_11] at ws5
      have e5_2 : ∀ k, tg t5 (sr sh r0 2) k = tg t1 (sr sh r0 2) k := fun k => f5.eq q0 (i := 2) (by decide) (by decide) k
      have e5_3 : ∀ k, tg t5 (sr sh r0 3) k = tg t1 (sr sh r0 3) k := fun k => f5.eq q0 (i := 3) (by decide) (by decide) k
      have e5_4 : ∀ k, tg t5 (sr sh r0 4) k = tg t1 (sr sh r0 4) k := fun k => f5.eq q0 (i := 4) (by decide) (by decide) k
      have e5_10 : ∀ k, tg t5 (sr sh r0 10) k = tg t1 (sr sh r0 10) k := fun k => f5.eq q0 (i := 10) (by decide) (by decide) k
      have e5_11 : ∀ k, tg t5 (sr sh r0 11) k = tg t1 (sr sh r0 11) k := fun k => f5.eq q0 (i := 11) (by decide) (by decide) k
      have d5_0 : tg t5 r0 0 = tg t1 r0 0 := f5.eq q0 (i := 0) (by decide) (by decide) 0
      have d5_7 : tg t5 r0 7 = tg t1 r0 7 := f5.eq q0 (i := 0) (by decide) (by decide) 7
      try simp only [zput_s, zput_n, ti_g, oI_add, oI_sub, oI_mul]
      exact ih _ _ ((FrV.trans (Ns := [0, 8]) (f0) f5 (by decide) (by decide))) (by first | omega | ((try simp only [zt0, zt1, zt2, zt3, zt4, zt5, zt6, zt7, zt8, zt9, zt10, zt11, zt12, zt13, e0_2, e0_3, e0_4, e0_10, e0_11, e5_2, e5_3, e5_4, e5_10, e5_11, true_and, and_true]); omega)) (by first | omega | ((try simp only [zt0, zt1, zt2, zt3, zt4, zt5, zt6, zt7, zt8, zt9, zt10, zt11, zt12, zt13, e0_2, e0_3, e0_4, e0_10, e0_11, e5_2, e5_3, e5_4, e5_10, e5_11, true_and, and_true]); omega))
theorem s167 {sh : zSh} {t : zSt} {MB : Nat} {r0 : Nat} (q0 : zMd sh MB r0) {x1 : Int} (u1 : -2147483648 ≤ x1 ∧ x1 ≤ 2147483647) (G : GI sh r0 t) : zok (zcl zP 167 [zR r0, zI (oI x1)] (sh, t)) (qI (fun x t' => FrV sh r0 [0, 8] t t' ∧ (tg t' (sr sh r0 2) 13 = tg t (sr sh r0 2) 13)) sh) := by
  have ha0_1 : (sk sh (sr sh r0 1)).2 = 21000 := by rw [q0.2.2.2.2.1]
  have ha0_2 : (sk sh (sr sh r0 2)).2 = 14 := by rw [q0.2.2.2.2.2.1]
  have ha0_3 : (sk sh (sr sh r0 3)).2 = 98 := by rw [q0.2.2.2.2.2.2.1]
  have ha0_4 : (sk sh (sr sh r0 4)).2 = 98 := by rw [q0.2.2.2.2.2.2.2.1]
  have ha0_8 : (sk sh (sr sh r0 8)).2 = 1500 := by rw [q0.2.2.2.2.2.2.2.2.1]
  have ha0_9 : (sk sh (sr sh r0 9)).2 = 10500 := by rw [q0.2.2.2.2.2.2.2.2.2.1]
  have ha0_10 : (sk sh (sr sh r0 10)).2 = 7 := by rw [q0.2.2.2.2.2.2.2.2.2.2.1]
  have ha0_11 : (sk sh (sr sh r0 11)).2 = 7 := by rw [q0.2.2.2.2.2.2.2.2.2.2.2.1]
  have ha0_12 : (sk sh (sr sh r0 12)).2 = 1500 := by rw [q0.2.2.2.2.2.2.2.2.2.2.2.2.1]
  have ha0_13 : (sk sh (sr sh r0 13)).2 = 1500 := by rw [q0.2.2.2.2.2.2.2.2.2.2.2.2.2.1]
  have ha0_14 : (sk sh (sr sh r0 14)).2 = 20 := by rw [q0.2.2.2.2.2.2.2.2.2.2.2.2.2.2]
  have gs := G.1 (x1).toNat
  rw [b167_0]
  try simp only [zput_s, zput_n, ti_g, oI_add, oI_sub, oI_mul]
  refine zok_pI (s127 (by omega)) (fun y7 u7 p7 => ?_)
  try simp only [zt0, zt1, zt2, zt3, zt4, zt5, zt6, zt7, zt8, zt9, zt10, zt11, zt12, zt13] at p7
  have g8_1 := And.intro (tg_lo (tI t r0 0 (oI 1)) r0 0) (tg_hi (tI t r0 0 (oI 1)) r0 0)
  have g8_2 := And.intro (tg_lo (tI t r0 0 (oI 0)) r0 0) (tg_hi (tI t r0 0 (oI 0)) r0 0)
  simp only [zput_s, zput_n, ti_g, oI_add, oI_sub, oI_mul, zt0, zt1, zt2, zt3, zt4, zt5, zt6, zt7, zt8, zt9, zt10, zt11, zt12, zt13, b167_5]
  try simp only [zput_s, zput_n, ti_g, oI_add, oI_sub, oI_mul]
  first | refine zok_eq (by omega) (fun c9 => ?_) (fun c9 => ?_) | refine zok_if (fun c9 => ?_) (fun c9 => ?_)
  · refine zok_ck (by first | exact ⟨(q0).1, fun e => by cases e⟩ | exact (q0).1) ?_
    obtain ⟨t10, ht10⟩ : ∃ t', t' = tI t r0 (0) (oI (1)) := ⟨_, rfl⟩
    try simp only [zt0, zt1, zt2, zt3, zt4, zt5, zt6, zt7, zt8, zt9, zt10, zt11, zt12, zt13] at ht10
    rw [← ht10]
    have f10 : FrV sh r0 [0] t t10 := by rw [ht10]; exact GI_m q0 (G) (by omega) (fun e => by first | omega | cases e) (fun e => by first | omega | cases e)
    have d10_0 : tg t10 r0 0 = 1 := by rw [ht10]; refine (tg_at (by omega)).trans ?_; first | exact if_pos rfl | exact if_neg (by decide) | (simp only [zt0, zt1, zt2, zt3, zt4, zt5, zt6, zt7, zt8, zt9, zt10, zt11, zt12, zt13, true_and, if_true])
    have d10_7 : tg t10 r0 7 = tg t r0 7 := by rw [ht10]; refine (tg_at (by omega)).trans ?_; first | exact if_pos rfl | exact if_neg (by decide) | (simp only [zt0, zt1, zt2, zt3, zt4, zt5, zt6, zt7, zt8, zt9, zt10, zt11, zt12, zt13, true_and, if_true])
    try simp only [zt0, zt1, zt2, zt3, zt4, zt5, zt6, zt7, zt8, zt9, zt10, zt11, zt12, zt13] at d10_0
    try simp only [zt0, zt1, zt2, zt3, zt4, zt5, zt6, zt7, zt8, zt9, zt10, zt11, zt12, zt13] at d10_7
    have e10_2 : ∀ k, tg t10 (sr sh r0 2) k = tg t (sr sh r0 2) k := fun k => f10.eq q0 (i := 2) (by decide) (by decide) k
    have e10_3 : ∀ k, tg t10 (sr sh r0 3) k = tg t (sr sh r0 3) k := fun k => f10.eq q0 (i := 3) (by decide) (by decide) k
    have e10_4 : ∀ k, tg t10 (sr sh r0 4) k = tg t (sr sh r0 4) k := fun k => f10.eq q0 (i := 4) (by decide) (by decide) k
    have e10_8 : ∀ k, tg t10 (sr sh r0 8) k = tg t (sr sh r0 8) k := fun k => f10.eq q0 (i := 8) (by decide) (by decide) k
    have e10_10 : ∀ k, tg t10 (sr sh r0 10) k = tg t (sr sh r0 10) k := fun k => f10.eq q0 (i := 10) (by decide) (by decide) k
    have e10_11 : ∀ k, tg t10 (sr sh r0 11) k = tg t (sr sh r0 11) k := fun k => f10.eq q0 (i := 11) (by decide) (by decide) k
    refine zok_ck ((q0).1) ?_
    first | refine zok_le (by omega) (fun c11 => ?_) (fun c11 => ?_) | refine zok_if (fun c11 => ?_) (fun c11 => ?_)
    · refine zok_ck ((q0).1) ?_
      refine zok_ck ⟨(by rw [(q0).2.2.2.2.2.1]), zin_o (by omega) (by omega) (by omega)⟩ ?_
      try rw [nN_o (a := x1) (by omega) (by omega)]
      try simp only [zput_s, zput_n, ti_g, oI_add, oI_sub, oI_mul, zt0, zt1, zt2, zt3, zt4, zt5, zt6, zt7, zt8, zt9, zt10, zt11, zt12, zt13, e10_2, e10_3, e10_4, e10_8, e10_10, e10_11]
      have gl12 := And.intro (tg_lo t10 (sr sh r0 2) ((x1).toNat)) (tg_hi t10 (sr sh r0 2) ((x1).toNat))
      have gm12 := (f10.g).1 ((x1).toNat) (by omega)
      try simp only [zt0, zt1, zt2, zt3, zt4, zt5, zt6, zt7, zt8, zt9, zt10, zt11, zt12, zt13, e10_2, e10_3, e10_4, e10_8, e10_10, e10_11] at gl12
      try simp only [zt0, zt1, zt2, zt3, zt4, zt5, zt6, zt7, zt8, zt9, zt10, zt11, zt12, zt13, e10_2, e10_3, e10_4, e10_8, e10_10, e10_11] at gm12
      refine zok_ck (by first | exact ⟨(q0).1, fun e => by cases e⟩ | exact (q0).1) ?_
      obtain ⟨t13, ht13⟩ : ∃ t', t' = tI t10 r0 (7) (oI ((tg t10 ((sr sh r0 2)) ((x1).toNat)))) := ⟨_, rfl⟩
      try simp only [zt0, zt1, zt2, zt3, zt4, zt5, zt6, zt7, zt8, zt9, zt10, zt11, zt12, zt13, e10_2, e10_3, e10_4, e10_8, e10_10, e10_11] at ht13
      rw [← ht13]
      have f13 : FrV sh r0 [0] t10 t13 := by rw [ht13]; exact GI_m q0 (f10.g) (by omega) (fun e => by first | omega | cases e) (fun e => by first | omega | cases e)
      have d13_0 : tg t13 r0 0 = tg t10 r0 0 := by rw [ht13]; refine (tg_at (by omega)).trans ?_; first | exact if_pos rfl | exact if_neg (by decide) | (simp only [zt0, zt1, zt2, zt3, zt4, zt5, zt6, zt7, zt8, zt9, zt10, zt11, zt12, zt13, e10_2, e10_3, e10_4, e10_8, e10_10, e10_11, true_and, if_true])
      have d13_7 : tg t13 r0 7 = (tg t10 ((sr sh r0 2)) ((x1).toNat)) := by rw [ht13]; refine (tg_at (by omega)).trans ?_; first | exact if_pos rfl | exact if_neg (by decide) | (simp only [zt0, zt1, zt2, zt3, zt4, zt5, zt6, zt7, zt8, zt9, zt10, zt11, zt12, zt13, e10_2, e10_3, e10_4, e10_8, e10_10, e10_11, true_and, if_true])
      try simp only [zt0, zt1, zt2, zt3, zt4, zt5, zt6, zt7, zt8, zt9, zt10, zt11, zt12, zt13, e10_2, e10_3, e10_4, e10_8, e10_10, e10_11] at d13_0
      try simp only [zt0, zt1, zt2, zt3, zt4, zt5, zt6, zt7, zt8, zt9, zt10, zt11, zt12, zt13, e10_2, e10_3, e10_4, e10_8, e10_10, e10_11] at d13_7
      have e13_2 : ∀ k, tg t13 (sr sh r0 2) k = tg t10 (sr sh r0 2) k := fun k => f13.eq q0 (i := 2) (by decide) (by decide) k
      have e13_3 : ∀ k, tg t13 (sr sh r0 3) k = tg t10 (sr sh r0 3) k := fun k => f13.eq q0 (i := 3) (by decide) (by decide) k
      have e13_4 : ∀ k, tg t13 (sr sh r0 4) k = tg t10 (sr sh r0 4) k := fun k => f13.eq q0 (i := 4) (by decide) (by decide) k
      have e13_8 : ∀ k, tg t13 (sr sh r0 8) k = tg t10 (sr sh r0 8) k := fun k => f13.eq q0 (i := 8) (by decide) (by decide) k
      have e13_10 : ∀ k, tg t13 (sr sh r0 10) k = tg t10 (sr sh r0 10) k := fun k => f13.eq q0 (i := 10) (by decide) (by decide) k
      have e13_11 : ∀ k, tg t13 (sr sh r0 11) k = tg t10 (sr sh r0 11) k := fun k => f13.eq q0 (i := 11) (by decide) (by decide) k
      try simp only [zput_s, zput_n, ti_g, oI_add, oI_sub, oI_mul]
      exact l167_37 q0 (by omega) G _ _ _ ((FrV.trans (Ns := [0, 8]) ((FrV.trans (Ns := [0, 8]) (FrV.refl (Ls := []) G) f10 (by decide) (by decide))) f13 (by decide) (by decide))) (by first | omega | ((try simp only [zt0, zt1, zt2, zt3, zt4, zt5, zt6, zt7, zt8, zt9, zt10, zt11, zt12, zt13, e10_2, e10_3, e10_4, e10_8, e10_10, e10_11, e13_2, e13_3, e13_4, e13_8, e13_10, e13_11, true_and, and_true]); omega)) (Nat.lt_succ_self _)
    · first | exact qI_rt (by omega) (by omega) ⟨(FrV.trans (Ns := [0, 8]) (FrV.refl (Ls := []) G) f10 (by decide) (by decide)), by ((try have c0 := hq1 13 (by decide)); (try have c0 := hq1 13); (try have c1 := e10_2 13); (try simp only [zt0, zt1, zt2, zt3, zt4, zt5, zt6, zt7, zt8, zt9, zt10, zt11, zt12, zt13] at *) <;> omega)⟩ | exact qI_nf ⟨(FrV.trans (Ns := [0, 8]) (FrV.refl (Ls := []) G) f10 (by decide) (by decide)), by ((try have c0 := hq1 13 (by decide)); (try have c0 := hq1 13); (try have c1 := e10_2 13); (try simp only [zt0, zt1, zt2, zt3, zt4, zt5, zt6, zt7, zt8, zt9, zt10, zt11, zt12, zt13] at *) <;> omega)⟩
  · refine zok_ck (by first | exact ⟨(q0).1, fun e => by cases e⟩ | exact (q0).1) ?_
    obtain ⟨t14, ht14⟩ : ∃ t', t' = tI t r0 (0) (oI (0)) := ⟨_, rfl⟩
    try simp only [zt0, zt1, zt2, zt3, zt4, zt5, zt6, zt7, zt8, zt9, zt10, zt11, zt12, zt13] at ht14
    rw [← ht14]
    have f14 : FrV sh r0 [0] t t14 := by rw [ht14]; exact GI_m q0 (G) (by omega) (fun e => by first | omega | cases e) (fun e => by first | omega | cases e)
    have d14_0 : tg t14 r0 0 = 0 := by rw [ht14]; refine (tg_at (by omega)).trans ?_; first | exact if_pos rfl | exact if_neg (by decide) | (simp only [zt0, zt1, zt2, zt3, zt4, zt5, zt6, zt7, zt8, zt9, zt10, zt11, zt12, zt13, true_and, if_true])
    have d14_7 : tg t14 r0 7 = tg t r0 7 := by rw [ht14]; refine (tg_at (by omega)).trans ?_; first | exact if_pos rfl | exact if_neg (by decide) | (simp only [zt0, zt1, zt2, zt3, zt4, zt5, zt6, zt7, zt8, zt9, zt10, zt11, zt12, zt13, true_and, if_true])
    try simp only [zt0, zt1, zt2, zt3, zt4, zt5, zt6, zt7, zt8, zt9, zt10, zt11, zt12, zt13] at d14_0
    try simp only [zt0, zt1, zt2, zt3, zt4, zt5, zt6, zt7, zt8, zt9, zt10, zt11, zt12, zt13] at d14_7
    have e14_2 : ∀ k, tg t14 (sr sh r0 2) k = tg t (sr sh r0 2) k := fun k => f14.eq q0 (i := 2) (by decide) (by decide) k
    have e14_3 : ∀ k, tg t14 (sr sh r0 3) k = tg t (sr sh r0 3) k := fun k => f14.eq q0 (i := 3) (by decide) (by decide) k
    have e14_4 : ∀ k, tg t14 (sr sh r0 4) k = tg t (sr sh r0 4) k := fun k => f14.eq q0 (i := 4) (by decide) (by decide) k
    have e14_8 : ∀ k, tg t14 (sr sh r0 8) k = tg t (sr sh r0 8) k := fun k => f14.eq q0 (i := 8) (by decide) (by decide) k
    have e14_10 : ∀ k, tg t14 (sr sh r0 10) k = tg t (sr sh r0 10) k := fun k => f14.eq q0 (i := 10) (by decide) (by decide) k
    have e14_11 : ∀ k, tg t14 (sr sh r0 11) k = tg t (sr sh r0 11) k := fun k => f14.eq q0 (i := 11) (by decide) (by decide) k
    refine zok_ck ((q0).1) ?_
    first | refine zok_le (by omega) (fun c15 => ?_) (fun c15 => ?_) | refine zok_if (fun c15 => ?_) (fun c15 => ?_)
    · refine zok_ck ((q0).1) ?_
      refine zok_ck ⟨(by rw [(q0).2.2.2.2.2.1]), zin_o (by omega) (by omega) (by omega)⟩ ?_
      try rw [nN_o (a := x1) (by omega) (by omega)]
      try simp only [zput_s, zput_n, ti_g, oI_add, oI_sub, oI_mul, zt0, zt1, zt2, zt3, zt4, zt5, zt6, zt7, zt8, zt9, zt10, zt11, zt12, zt13, e14_2, e14_3, e14_4, e14_8, e14_10, e14_11]
      have gl16 := And.intro (tg_lo t14 (sr sh r0 2) ((x1).toNat)) (tg_hi t14 (sr sh r0 2) ((x1).toNat))
      have gm16 := (f14.g).1 ((x1).toNat) (by omega)
      try simp only [zt0, zt1, zt2, zt3, zt4, zt5, zt6, zt7, zt8, zt9, zt10, zt11, zt12, zt13, e14_2, e14_3, e14_4, e14_8, e14_10, e14_11] at gl16
      try simp only [zt0, zt1, zt2, zt3, zt4, zt5, zt6, zt7, zt8, zt9, zt10, zt11, zt12, zt13, e14_2, e14_3, e14_4, e14_8, e14_10, e14_11] at gm16
      refine zok_ck (by first | exact ⟨(q0).1, fun e => by cases e⟩ | exact (q0).1) ?_
      obtain ⟨t17, ht17⟩ : ∃ t', t' = tI t14 r0 (7) (oI ((tg t14 ((sr sh r0 2)) ((x1).toNat)))) := ⟨_, rfl⟩
      try simp only [zt0, zt1, zt2, zt3, zt4, zt5, zt6, zt7, zt8, zt9, zt10, zt11, zt12, zt13, e14_2, e14_3, e14_4, e14_8, e14_10, e14_11] at ht17
      rw [← ht17]
      have f17 : FrV sh r0 [0] t14 t17 := by rw [ht17]; exact GI_m q0 (f14.g) (by omega) (fun e => by first | omega | cases e) (fun e => by first | omega | cases e)
      have d17_0 : tg t17 r0 0 = tg t14 r0 0 := by rw [ht17]; refine (tg_at (by omega)).trans ?_; first | exact if_pos rfl | exact if_neg (by decide) | (simp only [zt0, zt1, zt2, zt3, zt4, zt5, zt6, zt7, zt8, zt9, zt10, zt11, zt12, zt13, e14_2, e14_3, e14_4, e14_8, e14_10, e14_11, true_and, if_true])
      have d17_7 : tg t17 r0 7 = (tg t14 ((sr sh r0 2)) ((x1).toNat)) := by rw [ht17]; refine (tg_at (by omega)).trans ?_; first | exact if_pos rfl | exact if_neg (by decide) | (simp only [zt0, zt1, zt2, zt3, zt4, zt5, zt6, zt7, zt8, zt9, zt10, zt11, zt12, zt13, e14_2, e14_3, e14_4, e14_8, e14_10, e14_11, true_and, if_true])
      try simp only [zt0, zt1, zt2, zt3, zt4, zt5, zt6, zt7, zt8, zt9, zt10, zt11, zt12, zt13, e14_2, e14_3, e14_4, e14_8, e14_10, e14_11] at d17_0
      try simp only [zt0, zt1, zt2, zt3, zt4, zt5, zt6, zt7, zt8, zt9, zt10, zt11, zt12, zt13, e14_2, e14_3, e14_4, e14_8, e14_10, e14_11] at d17_7
      have e17_2 : ∀ k, tg t17 (sr sh r0 2) k = tg t14 (sr sh r0 2) k := fun k => f17.eq q0 (i := 2) (by decide) (by decide) k
      have e17_3 : ∀ k, tg t17 (sr sh r0 3) k = tg t14 (sr sh r0 3) k := fun k => f17.eq q0 (i := 3) (by decide) (by decide) k
      have e17_4 : ∀ k, tg t17 (sr sh r0 4) k = tg t14 (sr sh r0 4) k := fun k => f17.eq q0 (i := 4) (by decide) (by decide) k
      have e17_8 : ∀ k, tg t17 (sr sh r0 8) k = tg t14 (sr sh r0 8) k := fun k => f17.eq q0 (i := 8) (by decide) (by decide) k
      have e17_10 : ∀ k, tg t17 (sr sh r0 10) k = tg t14 (sr sh r0 10) k := fun k => f17.eq q0 (i := 10) (by decide) (by decide) k
      have e17_11 : ∀ k, tg t17 (sr sh r0 11) k = tg t14 (sr sh r0 11) k := fun k => f17.eq q0 (i := 11) (by decide) (by decide) k
      try simp only [zput_s, zput_n, ti_g, oI_add, oI_sub, oI_mul]
      exact l167_37 q0 (by omega) G _ _ _ ((FrV.trans (Ns := [0, 8]) ((FrV.trans (Ns := [0, 8]) (FrV.refl (Ls := []) G) f14 (by decide) (by decide))) f17 (by decide) (by decide))) (by first | omega | ((try simp only [zt0, zt1, zt2, zt3, zt4, zt5, zt6, zt7, zt8, zt9, zt10, zt11, zt12, zt13, e14_2, e14_3, e14_4, e14_8, e14_10, e14_11, e17_2, e17_3, e17_4, e17_8, e17_10, e17_11, true_and, and_true]); omega)) (Nat.lt_succ_self _)
    · first | exact qI_rt (by omega) (by omega) ⟨(FrV.trans (Ns := [0, 8]) (FrV.refl (Ls := []) G) f14 (by decide) (by decide)), by ((try have c0 := hq1 13 (by decide)); (try have c0 := hq1 13); (try have c1 := e14_2 13); (try simp only [zt0, zt1, zt2, zt3, zt4, zt5, zt6, zt7, zt8, zt9, zt10, zt11, zt12, zt13] at *) <;> omega)⟩ | exact qI_nf ⟨(FrV.trans (Ns := [0, 8]) (FrV.refl (Ls := []) G) f14 (by decide) (by decide)), by ((try have c0 := hq1 13 (by decide)); (try have c0 := hq1 13); (try have c1 := e14_2 13); (try simp only [zt0, zt1, zt2, zt3, zt4, zt5, zt6, zt7, zt8, zt9, zt10, zt11, zt12, zt13] at *) <;> omega)⟩
/-! X9_word -/
theorem l207_11 {sh : zSh} {t0 : zSt} {MB : Nat} {r0 : Nat} (q0 : zMd sh MB r0) {x1 : Int} (u1 : -2147483648 ≤ x1 ∧ x1 ≤ 2147483647) (G : GI sh r0 t0) : ∀ (n : Nat) (l2 : Int64) (x4 : Int) (o5 : Option zV) (wo5 : zisL o5 = false) (t1 : zSt), FrV sh r0 [0] t0 t1 → (-2147483648 ≤ x4 ∧ x4 ≤ 2147483647) ∧ (-1 ≤ x4 ∧ x4 ≤ 7) ∧ (tg t1 (sr sh r0 2) 13 = tg t0 (sr sh r0 2) 13) → (x4 + 1).toNat < n → zok (zev zP 207 11 [some (zR r0), some (zI (oI x1)), some (zL l2), none, some (zI (oI x4)), o5] [] (sh, t1)) (qL (fun x t' => FrV sh r0 [0] t0 t' ∧ (tg t' (sr sh r0 2) 13 = tg t0 (sr sh r0 2) 13)) sh) := by
  intro n
  induction n with
  | zero => intro l2 x4 o5 wo5 t1 f0 _ hm; omega
  | succ n ih =>
    intro l2 x4 o5 wo5 t1 f0 hv hm
    have ha0_1 : (sk sh (sr sh r0 1)).2 = 21000 := by rw [q0.2.2.2.2.1]
    have ha0_2 : (sk sh (sr sh r0 2)).2 = 14 := by rw [q0.2.2.2.2.2.1]
    have ha0_3 : (sk sh (sr sh r0 3)).2 = 98 := by rw [q0.2.2.2.2.2.2.1]
    have ha0_4 : (sk sh (sr sh r0 4)).2 = 98 := by rw [q0.2.2.2.2.2.2.2.1]
    have ha0_8 : (sk sh (sr sh r0 8)).2 = 1500 := by rw [q0.2.2.2.2.2.2.2.2.1]
    have ha0_9 : (sk sh (sr sh r0 9)).2 = 10500 := by rw [q0.2.2.2.2.2.2.2.2.2.1]
    have ha0_10 : (sk sh (sr sh r0 10)).2 = 7 := by rw [q0.2.2.2.2.2.2.2.2.2.2.1]
    have ha0_11 : (sk sh (sr sh r0 11)).2 = 7 := by rw [q0.2.2.2.2.2.2.2.2.2.2.2.1]
    have ha0_12 : (sk sh (sr sh r0 12)).2 = 1500 := by rw [q0.2.2.2.2.2.2.2.2.2.2.2.2.1]
    have ha0_13 : (sk sh (sr sh r0 13)).2 = 1500 := by rw [q0.2.2.2.2.2.2.2.2.2.2.2.2.2.1]
    have ha0_14 : (sk sh (sr sh r0 14)).2 = 20 := by rw [q0.2.2.2.2.2.2.2.2.2.2.2.2.2.2]
    have e0_2 : ∀ k, tg t1 (sr sh r0 2) k = tg t0 (sr sh r0 2) k := fun k => f0.eq q0 (i := 2) (by decide) (by decide) k
    have e0_3 : ∀ k, tg t1 (sr sh r0 3) k = tg t0 (sr sh r0 3) k := fun k => f0.eq q0 (i := 3) (by decide) (by decide) k
    have e0_4 : ∀ k, tg t1 (sr sh r0 4) k = tg t0 (sr sh r0 4) k := fun k => f0.eq q0 (i := 4) (by decide) (by decide) k
    have e0_8 : ∀ k, tg t1 (sr sh r0 8) k = tg t0 (sr sh r0 8) k := fun k => f0.eq q0 (i := 8) (by decide) (by decide) k
    have e0_10 : ∀ k, tg t1 (sr sh r0 10) k = tg t0 (sr sh r0 10) k := fun k => f0.eq q0 (i := 10) (by decide) (by decide) k
    have e0_11 : ∀ k, tg t1 (sr sh r0 11) k = tg t0 (sr sh r0 11) k := fun k => f0.eq q0 (i := 11) (by decide) (by decide) k
    try simp only [zt0, zt1, zt2, zt3, zt4, zt5, zt6, zt7, zt8, zt9, zt10, zt11, zt12, zt13, e0_2, e0_3, e0_4, e0_8, e0_10, e0_11] at hv
    try simp only [zt0, zt1, zt2, zt3, zt4, zt5, zt6, zt7, zt8, zt9, zt10, zt11, zt12, zt13, e0_2, e0_3, e0_4, e0_8, e0_10, e0_11] at hm
    have g1_1 := And.intro (tg_lo t1 r0 7) (tg_hi t1 r0 7)
    have gf1_1 := (f0.g).2.2.2.2
    try simp only [zput_s, zput_n, ti_g, oI_add, oI_sub, oI_mul]
    rw [b207_11 (o5 := o5) (wo5 := wo5)]
    try simp only [zput_s, zput_n, ti_g, oI_add, oI_sub, oI_mul]
    first | refine zok_lt (by omega) (fun c2 => ?_) (fun c2 => ?_) | refine zok_if (fun c2 => ?_) (fun c2 => ?_)
    · exact qL_rt ⟨f0, by ((try have c0 := hq1 13 (by decide)); (try have c0 := hq1 13); (try have c1 := e0_2 13); (try simp only [zt0, zt1, zt2, zt3, zt4, zt5, zt6, zt7, zt8, zt9, zt10, zt11, zt12, zt13] at *) <;> omega)⟩
    · first | refine zok_lt (by omega) (fun c3 => ?_) (fun c3 => ?_) | refine zok_if (fun c3 => ?_) (fun c3 => ?_)
      · try simp only [zput_s, zput_n, ti_g, oI_add, oI_sub, oI_mul]
        rw [b207_44 (o5 := o5) (wo5 := wo5)]
        try simp only [zput_s, zput_n, ti_g, oI_add, oI_sub, oI_mul]
        try simp only [zput_s, zput_n, ti_g, oI_add, oI_sub, oI_mul]
        rw [b207_45 (o5 := o5) (wo5 := wo5)]
        try simp only [zput_s, zput_n, ti_g, oI_add, oI_sub, oI_mul]
        simp only [zput_s, zput_n, ti_g, oI_add, oI_sub, oI_mul, zt0, zt1, zt2, zt3, zt4, zt5, zt6, zt7, zt8, zt9, zt10, zt11, zt12, zt13, e0_2, e0_3, e0_4, e0_8, e0_10, e0_11, b207_72]
        try simp only [zput_s, zput_n, ti_g, oI_add, oI_sub, oI_mul]
        try simp only [zput_s, zput_n, ti_g, oI_add, oI_sub, oI_mul]
        exact ih _ _ _ (by first | rfl | assumption) _ (f0) (by first | omega | ((try simp only [zt0, zt1, zt2, zt3, zt4, zt5, zt6, zt7, zt8, zt9, zt10, zt11, zt12, zt13, e0_2, e0_3, e0_4, e0_8, e0_10, e0_11, true_and, and_true]); omega)) (by first | omega | ((try simp only [zt0, zt1, zt2, zt3, zt4, zt5, zt6, zt7, zt8, zt9, zt10, zt11, zt12, zt13, e0_2, e0_3, e0_4, e0_8, e0_10, e0_11, true_and, and_true]); omega))
      · first | refine zok_lt (by omega) (fun c7 => ?_) (fun c7 => ?_) | refine zok_if (fun c7 => ?_) (fun c7 => ?_)
        · try simp only [zput_s, zput_n, ti_g, oI_add, oI_sub, oI_mul]
          rw [b207_44 (o5 := o5) (wo5 := wo5)]
          try simp only [zput_s, zput_n, ti_g, oI_add, oI_sub, oI_mul]
          try simp only [zput_s, zput_n, ti_g, oI_add, oI_sub, oI_mul]
          rw [b207_45 (o5 := o5) (wo5 := wo5)]
          try simp only [zput_s, zput_n, ti_g, oI_add, oI_sub, oI_mul]
          simp only [zput_s, zput_n, ti_g, oI_add, oI_sub, oI_mul, zt0, zt1, zt2, zt3, zt4, zt5, zt6, zt7, zt8, zt9, zt10, zt11, zt12, zt13, e0_2, e0_3, e0_4, e0_8, e0_10, e0_11, b207_72]
          try simp only [zput_s, zput_n, ti_g, oI_add, oI_sub, oI_mul]
          try simp only [zput_s, zput_n, ti_g, oI_add, oI_sub, oI_mul]
          exact ih _ _ _ (by first | rfl | assumption) _ (f0) (by first | omega | ((try simp only [zt0, zt1, zt2, zt3, zt4, zt5, zt6, zt7, zt8, zt9, zt10, zt11, zt12, zt13, e0_2, e0_3, e0_4, e0_8, e0_10, e0_11, true_and, and_true]); omega)) (by first | omega | ((try simp only [zt0, zt1, zt2, zt3, zt4, zt5, zt6, zt7, zt8, zt9, zt10, zt11, zt12, zt13, e0_2, e0_3, e0_4, e0_8, e0_10, e0_11, true_and, and_true]); omega))
        · refine zok_ck ((q0).1) ?_
          first | refine zok_le (by omega) (fun c11 => ?_) (fun c11 => ?_) | refine zok_if (fun c11 => ?_) (fun c11 => ?_)
          · try simp only [zput_s, zput_n, ti_g, oI_add, oI_sub, oI_mul]
            rw [b207_44 (o5 := o5) (wo5 := wo5)]
            try simp only [zput_s, zput_n, ti_g, oI_add, oI_sub, oI_mul]
            try simp only [zput_s, zput_n, ti_g, oI_add, oI_sub, oI_mul]
            rw [b207_45 (o5 := o5) (wo5 := wo5)]
            try simp only [zput_s, zput_n, ti_g, oI_add, oI_sub, oI_mul]
            simp only [zput_s, zput_n, ti_g, oI_add, oI_sub, oI_mul, zt0, zt1, zt2, zt3, zt4, zt5, zt6, zt7, zt8, zt9, zt10, zt11, zt12, zt13, e0_2, e0_3, e0_4, e0_8, e0_10, e0_11, b207_72]
            try simp only [zput_s, zput_n, ti_g, oI_add, oI_sub, oI_mul]
            try simp only [zput_s, zput_n, ti_g, oI_add, oI_sub, oI_mul]
            exact ih _ _ _ (by first | rfl | assumption) _ (f0) (by first | omega | ((try simp only [zt0, zt1, zt2, zt3, zt4, zt5, zt6, zt7, zt8, zt9, zt10, zt11, zt12, zt13, e0_2, e0_3, e0_4, e0_8, e0_10, e0_11, true_and, and_true]); omega)) (by first | omega | ((try simp only [zt0, zt1, zt2, zt3, zt4, zt5, zt6, zt7, zt8, zt9, zt10, zt11, zt12, zt13, e0_2, e0_3, e0_4, e0_8, e0_10, e0_11, true_and, and_true]); omega))
          · try simp only [zput_s, zput_n, ti_g, oI_add, oI_sub, oI_mul]
            rw [b207_45 (o5 := o5) (wo5 := wo5)]
            try simp only [zput_s, zput_n, ti_g, oI_add, oI_sub, oI_mul]
            first | refine zok_eq (by omega) (fun c16 => ?_) (fun c16 => ?_) | refine zok_if (fun c16 => ?_) (fun c16 => ?_)
            · simp only [zput_s, zput_n, ti_g, oI_add, oI_sub, oI_mul, zt0, zt1, zt2, zt3, zt4, zt5, zt6, zt7, zt8, zt9, zt10, zt11, zt12, zt13, e0_2, e0_3, e0_4, e0_8, e0_10, e0_11, b207_72]
              try simp only [zput_s, zput_n, ti_g, oI_add, oI_sub, oI_mul]
              try simp only [zput_s, zput_n, ti_g, oI_add, oI_sub, oI_mul]
              exact ih _ _ _ (by first | rfl | assumption) _ (f0) (by first | omega | ((try simp only [zt0, zt1, zt2, zt3, zt4, zt5, zt6, zt7, zt8, zt9, zt10, zt11, zt12, zt13, e0_2, e0_3, e0_4, e0_8, e0_10, e0_11, true_and, and_true]); omega)) (by first | omega | ((try simp only [zt0, zt1, zt2, zt3, zt4, zt5, zt6, zt7, zt8, zt9, zt10, zt11, zt12, zt13, e0_2, e0_3, e0_4, e0_8, e0_10, e0_11, true_and, and_true]); omega))
            · refine zok_ck ((q0).1) ?_
              refine zok_ck ⟨(by rw [(q0).2.2.2.2.2.2.2.2.1]), zin_o (by omega) (by omega) (by omega)⟩ ?_
              try rw [nN_o (a := ((8) * (x1)) + (x4)) (by omega) (by omega)]
              try simp only [zput_s, zput_n, ti_g, oI_add, oI_sub, oI_mul, zt0, zt1, zt2, zt3, zt4, zt5, zt6, zt7, zt8, zt9, zt10, zt11, zt12, zt13, e0_2, e0_3, e0_4, e0_8, e0_10, e0_11]
              have gl18 := And.intro (tg_lo t1 (sr sh r0 8) ((((8) * (x1)) + (x4)).toNat)) (tg_hi t1 (sr sh r0 8) ((((8) * (x1)) + (x4)).toNat))
              try simp only [zt0, zt1, zt2, zt3, zt4, zt5, zt6, zt7, zt8, zt9, zt10, zt11, zt12, zt13, e0_2, e0_3, e0_4, e0_8, e0_10, e0_11] at gl18
              simp only [zput_s, zput_n, ti_g, oI_add, oI_sub, oI_mul, zt0, zt1, zt2, zt3, zt4, zt5, zt6, zt7, zt8, zt9, zt10, zt11, zt12, zt13, e0_2, e0_3, e0_4, e0_8, e0_10, e0_11, b207_72]
              try simp only [zput_s, zput_n, ti_g, oI_add, oI_sub, oI_mul]
              try simp only [zput_s, zput_n, ti_g, oI_add, oI_sub, oI_mul]
              exact ih _ _ _ (by first | rfl | assumption) _ (f0) (by first | omega | ((try simp only [zt0, zt1, zt2, zt3, zt4, zt5, zt6, zt7, zt8, zt9, zt10, zt11, zt12, zt13, e0_2, e0_3, e0_4, e0_8, e0_10, e0_11, true_and, and_true]); omega)) (by first | omega | ((try simp only [zt0, zt1, zt2, zt3, zt4, zt5, zt6, zt7, zt8, zt9, zt10, zt11, zt12, zt13, e0_2, e0_3, e0_4, e0_8, e0_10, e0_11, true_and, and_true]); omega))
theorem s207 {sh : zSh} {t : zSt} {MB : Nat} {r0 : Nat} (q0 : zMd sh MB r0) {x1 : Int} (u1 : -2147483648 ≤ x1 ∧ x1 ≤ 2147483647) (G : GI sh r0 t) : zok (zcl zP 207 [zR r0, zI (oI x1)] (sh, t)) (qL (fun x t' => FrV sh r0 [0] t t' ∧ (tg t' (sr sh r0 2) 13 = tg t (sr sh r0 2) 13)) sh) := by
  have ha0_1 : (sk sh (sr sh r0 1)).2 = 21000 := by rw [q0.2.2.2.2.1]
  have ha0_2 : (sk sh (sr sh r0 2)).2 = 14 := by rw [q0.2.2.2.2.2.1]
  have ha0_3 : (sk sh (sr sh r0 3)).2 = 98 := by rw [q0.2.2.2.2.2.2.1]
  have ha0_4 : (sk sh (sr sh r0 4)).2 = 98 := by rw [q0.2.2.2.2.2.2.2.1]
  have ha0_8 : (sk sh (sr sh r0 8)).2 = 1500 := by rw [q0.2.2.2.2.2.2.2.2.1]
  have ha0_9 : (sk sh (sr sh r0 9)).2 = 10500 := by rw [q0.2.2.2.2.2.2.2.2.2.1]
  have ha0_10 : (sk sh (sr sh r0 10)).2 = 7 := by rw [q0.2.2.2.2.2.2.2.2.2.2.1]
  have ha0_11 : (sk sh (sr sh r0 11)).2 = 7 := by rw [q0.2.2.2.2.2.2.2.2.2.2.2.1]
  have ha0_12 : (sk sh (sr sh r0 12)).2 = 1500 := by rw [q0.2.2.2.2.2.2.2.2.2.2.2.2.1]
  have ha0_13 : (sk sh (sr sh r0 13)).2 = 1500 := by rw [q0.2.2.2.2.2.2.2.2.2.2.2.2.2.1]
  have ha0_14 : (sk sh (sr sh r0 14)).2 = 20 := by rw [q0.2.2.2.2.2.2.2.2.2.2.2.2.2.2]
  rw [b207_0]
  try simp only [zput_s, zput_n, ti_g, oI_add, oI_sub, oI_mul]
  refine zok_ck (by first | exact ⟨(q0).1, fun e => by cases e⟩ | exact (q0).1) ?_
  obtain ⟨t21, ht21⟩ : ∃ t', t' = tI t r0 (0) (oI (0)) := ⟨_, rfl⟩
  try simp only [zt0, zt1, zt2, zt3, zt4, zt5, zt6, zt7, zt8, zt9, zt10, zt11, zt12, zt13] at ht21
  rw [← ht21]
  have f21 : FrV sh r0 [0] t t21 := by rw [ht21]; exact GI_m q0 (G) (by omega) (fun e => by first | omega | cases e) (fun e => by first | omega | cases e)
  have d21_0 : tg t21 r0 0 = 0 := by rw [ht21]; refine (tg_at (by omega)).trans ?_; first | exact if_pos rfl | exact if_neg (by decide) | (simp only [zt0, zt1, zt2, zt3, zt4, zt5, zt6, zt7, zt8, zt9, zt10, zt11, zt12, zt13, true_and, if_true])
  have d21_7 : tg t21 r0 7 = tg t r0 7 := by rw [ht21]; refine (tg_at (by omega)).trans ?_; first | exact if_pos rfl | exact if_neg (by decide) | (simp only [zt0, zt1, zt2, zt3, zt4, zt5, zt6, zt7, zt8, zt9, zt10, zt11, zt12, zt13, true_and, if_true])
  try simp only [zt0, zt1, zt2, zt3, zt4, zt5, zt6, zt7, zt8, zt9, zt10, zt11, zt12, zt13] at d21_0
  try simp only [zt0, zt1, zt2, zt3, zt4, zt5, zt6, zt7, zt8, zt9, zt10, zt11, zt12, zt13] at d21_7
  have e21_2 : ∀ k, tg t21 (sr sh r0 2) k = tg t (sr sh r0 2) k := fun k => f21.eq q0 (i := 2) (by decide) (by decide) k
  have e21_3 : ∀ k, tg t21 (sr sh r0 3) k = tg t (sr sh r0 3) k := fun k => f21.eq q0 (i := 3) (by decide) (by decide) k
  have e21_4 : ∀ k, tg t21 (sr sh r0 4) k = tg t (sr sh r0 4) k := fun k => f21.eq q0 (i := 4) (by decide) (by decide) k
  have e21_8 : ∀ k, tg t21 (sr sh r0 8) k = tg t (sr sh r0 8) k := fun k => f21.eq q0 (i := 8) (by decide) (by decide) k
  have e21_10 : ∀ k, tg t21 (sr sh r0 10) k = tg t (sr sh r0 10) k := fun k => f21.eq q0 (i := 10) (by decide) (by decide) k
  have e21_11 : ∀ k, tg t21 (sr sh r0 11) k = tg t (sr sh r0 11) k := fun k => f21.eq q0 (i := 11) (by decide) (by decide) k
  try simp only [zput_s, zput_n, ti_g, oI_add, oI_sub, oI_mul]
  exact l207_11 q0 (by omega) G _ _ _ _ (by first | rfl | assumption) _ ((FrV.trans (Ns := [0]) (FrV.refl (Ls := []) G) f21 (by decide) (by decide))) (by first | omega | ((try simp only [zt0, zt1, zt2, zt3, zt4, zt5, zt6, zt7, zt8, zt9, zt10, zt11, zt12, zt13, e21_2, e21_3, e21_4, e21_8, e21_10, e21_11, true_and, and_true]); omega)) (Nat.lt_succ_self _)
/-! X9_feed -/
theorem l164_50 {sh : zSh} {t0 : zSt} {MB : Nat} {r0 : Nat} (q0 : zMd sh MB r0) {l1 : Int64} {x3 : Int} (u3 : -2147483648 ≤ x3 ∧ x3 ≤ 2147483647) (G : GI sh r0 t0) : ∀ (n : Nat) (l1 : Int64) (x4 : Int)  (t1 : zSt), FrV sh r0 [0, 1, 2] t0 t1 → (-2147483648 ≤ x4 ∧ x4 ≤ 2147483647) ∧ (0 ≤ x4 ∧ x4 ≤ x3 ∧ 1 ≤ x3 ∧ x3 ≤ 8) ∧ (tg t0 (sr sh r0 2) 13 + x3 ≤ 400 ∧ tg t1 (sr sh r0 2) 13 = tg t0 (sr sh r0 2) 13 + x4 ∧ tg t1 r0 0 = 0) → (x3 - x4).toNat < n → zok (zev zP 164 50 [some (zR r0), some (zL l1), none, some (zI (oI x3)), some (zI (oI x4))] [] (sh, t1)) (qI (fun x t' => FrV sh r0 [0, 1, 2] t0 t' ∧ ((¬ (1 ≤ x3 ∧ x3 ≤ 8) → tg t' r0 0 = 1 ∧ tg t' (sr sh r0 2) 13 = tg t0 (sr sh r0 2) 13) ∧ (1 ≤ x3 ∧ x3 ≤ 8 → 400 < tg t0 (sr sh r0 2) 13 + x3 → tg t' r0 0 = 2 ∧ tg t' (sr sh r0 2) 13 = tg t0 (sr sh r0 2) 13) ∧ (1 ≤ x3 ∧ x3 ≤ 8 → tg t0 (sr sh r0 2) 13 + x3 ≤ 400 → tg t' r0 0 = 0 ∧ x = tg t0 (sr sh r0 2) 13 + x3 ∧ tg t' (sr sh r0 2) 13 = tg t0 (sr sh r0 2) 13 + x3))) sh) := by
  intro n
  induction n with
  | zero => intro l1 x4  t1 f0 _ hm; omega
  | succ n ih =>
    intro l1 x4  t1 f0 hv hm
    have ha0_1 : (sk sh (sr sh r0 1)).2 = 21000 := by rw [q0.2.2.2.2.1]
    have ha0_2 : (sk sh (sr sh r0 2)).2 = 14 := by rw [q0.2.2.2.2.2.1]
    have ha0_3 : (sk sh (sr sh r0 3)).2 = 98 := by rw [q0.2.2.2.2.2.2.1]
    have ha0_4 : (sk sh (sr sh r0 4)).2 = 98 := by rw [q0.2.2.2.2.2.2.2.1]
    have ha0_8 : (sk sh (sr sh r0 8)).2 = 1500 := by rw [q0.2.2.2.2.2.2.2.2.1]
    have ha0_9 : (sk sh (sr sh r0 9)).2 = 10500 := by rw [q0.2.2.2.2.2.2.2.2.2.1]
    have ha0_10 : (sk sh (sr sh r0 10)).2 = 7 := by rw [q0.2.2.2.2.2.2.2.2.2.2.1]
    have ha0_11 : (sk sh (sr sh r0 11)).2 = 7 := by rw [q0.2.2.2.2.2.2.2.2.2.2.2.1]
    have ha0_12 : (sk sh (sr sh r0 12)).2 = 1500 := by rw [q0.2.2.2.2.2.2.2.2.2.2.2.2.1]
    have ha0_13 : (sk sh (sr sh r0 13)).2 = 1500 := by rw [q0.2.2.2.2.2.2.2.2.2.2.2.2.2.1]
    have ha0_14 : (sk sh (sr sh r0 14)).2 = 20 := by rw [q0.2.2.2.2.2.2.2.2.2.2.2.2.2.2]
    have e0_3 : ∀ k, tg t1 (sr sh r0 3) k = tg t0 (sr sh r0 3) k := fun k => f0.eq q0 (i := 3) (by decide) (by decide) k
    have e0_4 : ∀ k, tg t1 (sr sh r0 4) k = tg t0 (sr sh r0 4) k := fun k => f0.eq q0 (i := 4) (by decide) (by decide) k
    have e0_10 : ∀ k, tg t1 (sr sh r0 10) k = tg t0 (sr sh r0 10) k := fun k => f0.eq q0 (i := 10) (by decide) (by decide) k
    have e0_11 : ∀ k, tg t1 (sr sh r0 11) k = tg t0 (sr sh r0 11) k := fun k => f0.eq q0 (i := 11) (by decide) (by decide) k
    try simp only [zt0, zt1, zt2, zt3, zt4, zt5, zt6, zt7, zt8, zt9, zt10, zt11, zt12, zt13, e0_3, e0_4, e0_10, e0_11] at hv
    try simp only [zt0, zt1, zt2, zt3, zt4, zt5, zt6, zt7, zt8, zt9, zt10, zt11, zt12, zt13, e0_3, e0_4, e0_10, e0_11] at hm
    rw [b164_50]
    try simp only [zput_s, zput_n, ti_g, oI_add, oI_sub, oI_mul]
    first | refine zok_le (by omega) (fun c2 => ?_) (fun c2 => ?_) | refine zok_if (fun c2 => ?_) (fun c2 => ?_)
    · refine zok_ck ((q0).1) ?_
      refine zok_ck ⟨(by rw [(q0).2.2.2.2.2.1]), zin_o (by omega) (by omega) (by omega)⟩ ?_
      try rw [nN_o (a := 13) (by omega) (by omega)]
      try rw [show (13 : Int).toNat = 13 from rfl]
      try simp only [zput_s, zput_n, ti_g, oI_add, oI_sub, oI_mul, zt0, zt1, zt2, zt3, zt4, zt5, zt6, zt7, zt8, zt9, zt10, zt11, zt12, zt13, e0_3, e0_4, e0_10, e0_11]
      have gl3 := And.intro (tg_lo t1 (sr sh r0 2) (13)) (tg_hi t1 (sr sh r0 2) (13))
      have gm3 := (f0.g).1 (13) (by omega)
      try simp only [zt0, zt1, zt2, zt3, zt4, zt5, zt6, zt7, zt8, zt9, zt10, zt11, zt12, zt13, e0_3, e0_4, e0_10, e0_11] at gl3
      try simp only [zt0, zt1, zt2, zt3, zt4, zt5, zt6, zt7, zt8, zt9, zt10, zt11, zt12, zt13, e0_3, e0_4, e0_10, e0_11] at gm3
      first | exact qI_rt (by omega) (by omega) ⟨f0, by first | omega | ((try simp only [zt0, zt1, zt2, zt3, zt4, zt5, zt6, zt7, zt8, zt9, zt10, zt11, zt12, zt13, e0_3, e0_4, e0_10, e0_11, true_and, and_true]); omega)⟩ | exact qI_nf ⟨f0, by first | omega | ((try simp only [zt0, zt1, zt2, zt3, zt4, zt5, zt6, zt7, zt8, zt9, zt10, zt11, zt12, zt13, e0_3, e0_4, e0_10, e0_11, true_and, and_true]); omega)⟩
    · refine zok_ck ((q0).1) ?_
      obtain ⟨w4, wa4, wb4, we4⟩ := oI_nf (Int64.toInt32 ((l1 >>> (Int32.toInt64 ((oI 8) * (oI x4)) &&& 63)) &&& 255))
      try simp only [zput_s, zput_n, ti_g, oI_add, oI_sub, oI_mul] at we4
      try rw [we4]
      refine zok_c0 (s156 (q0) (by omega) (by omega) (by first | (omega) | ((try simp only [zt0, zt1, zt2, zt3, zt4, zt5, zt6, zt7, zt8, zt9, zt10, zt11, zt12, zt13, e0_3, e0_4, e0_10, e0_11]); omega)) (by first | (omega) | ((try simp only [zt0, zt1, zt2, zt3, zt4, zt5, zt6, zt7, zt8, zt9, zt10, zt11, zt12, zt13, e0_3, e0_4, e0_10, e0_11]); omega)) (f0.g)) (fun t5 p5 => ?_)
      obtain ⟨f5, p5⟩ := p5
      have e5_3 : ∀ k, tg t5 (sr sh r0 3) k = tg t1 (sr sh r0 3) k := fun k => f5.eq q0 (i := 3) (by decide) (by decide) k
      have e5_4 : ∀ k, tg t5 (sr sh r0 4) k = tg t1 (sr sh r0 4) k := fun k => f5.eq q0 (i := 4) (by decide) (by decide) k
      have e5_10 : ∀ k, tg t5 (sr sh r0 10) k = tg t1 (sr sh r0 10) k := fun k => f5.eq q0 (i := 10) (by decide) (by decide) k
      have e5_11 : ∀ k, tg t5 (sr sh r0 11) k = tg t1 (sr sh r0 11) k := fun k => f5.eq q0 (i := 11) (by decide) (by decide) k
      have d5_0 : tg t5 r0 0 = tg t1 r0 0 := f5.eq q0 (i := 0) (by decide) (by decide) 0
      try simp only [zt0, zt1, zt2, zt3, zt4, zt5, zt6, zt7, zt8, zt9, zt10, zt11, zt12, zt13, e0_3, e0_4, e0_10, e0_11, e5_3, e5_4, e5_10, e5_11] at p5
      simp only [zput_s, zput_n, ti_g, oI_add, oI_sub, oI_mul, zt0, zt1, zt2, zt3, zt4, zt5, zt6, zt7, zt8, zt9, zt10, zt11, zt12, zt13, e0_3, e0_4, e0_10, e0_11, e5_3, e5_4, e5_10, e5_11, b164_74]
      try simp only [zput_s, zput_n, ti_g, oI_add, oI_sub, oI_mul]
      try simp only [zput_s, zput_n, ti_g, oI_add, oI_sub, oI_mul]
      exact ih _ _ _ ((FrV.trans (Ns := [0, 1, 2]) (f0) f5 (by decide) (by decide))) (by first | omega | ((try simp only [zt0, zt1, zt2, zt3, zt4, zt5, zt6, zt7, zt8, zt9, zt10, zt11, zt12, zt13, e0_3, e0_4, e0_10, e0_11, e5_3, e5_4, e5_10, e5_11, true_and, and_true]); omega)) (by first | omega | ((try simp only [zt0, zt1, zt2, zt3, zt4, zt5, zt6, zt7, zt8, zt9, zt10, zt11, zt12, zt13, e0_3, e0_4, e0_10, e0_11, e5_3, e5_4, e5_10, e5_11, true_and, and_true]); omega))
theorem s164 {sh : zSh} {t : zSt} {MB : Nat} {r0 : Nat} (q0 : zMd sh MB r0) {l1 : Int64} {x3 : Int} (u3 : -2147483648 ≤ x3 ∧ x3 ≤ 2147483647) (G : GI sh r0 t) : zok (zcl zP 164 [zR r0, zL l1, zI (oI x3)] (sh, t)) (qI (fun x t' => FrV sh r0 [0, 1, 2] t t' ∧ ((¬ (1 ≤ x3 ∧ x3 ≤ 8) → tg t' r0 0 = 1 ∧ tg t' (sr sh r0 2) 13 = tg t (sr sh r0 2) 13) ∧ (1 ≤ x3 ∧ x3 ≤ 8 → 400 < tg t (sr sh r0 2) 13 + x3 → tg t' r0 0 = 2 ∧ tg t' (sr sh r0 2) 13 = tg t (sr sh r0 2) 13) ∧ (1 ≤ x3 ∧ x3 ≤ 8 → tg t (sr sh r0 2) 13 + x3 ≤ 400 → tg t' r0 0 = 0 ∧ x = tg t (sr sh r0 2) 13 + x3 ∧ tg t' (sr sh r0 2) 13 = tg t (sr sh r0 2) 13 + x3))) sh) := by
  have ha0_1 : (sk sh (sr sh r0 1)).2 = 21000 := by rw [q0.2.2.2.2.1]
  have ha0_2 : (sk sh (sr sh r0 2)).2 = 14 := by rw [q0.2.2.2.2.2.1]
  have ha0_3 : (sk sh (sr sh r0 3)).2 = 98 := by rw [q0.2.2.2.2.2.2.1]
  have ha0_4 : (sk sh (sr sh r0 4)).2 = 98 := by rw [q0.2.2.2.2.2.2.2.1]
  have ha0_8 : (sk sh (sr sh r0 8)).2 = 1500 := by rw [q0.2.2.2.2.2.2.2.2.1]
  have ha0_9 : (sk sh (sr sh r0 9)).2 = 10500 := by rw [q0.2.2.2.2.2.2.2.2.2.1]
  have ha0_10 : (sk sh (sr sh r0 10)).2 = 7 := by rw [q0.2.2.2.2.2.2.2.2.2.2.1]
  have ha0_11 : (sk sh (sr sh r0 11)).2 = 7 := by rw [q0.2.2.2.2.2.2.2.2.2.2.2.1]
  have ha0_12 : (sk sh (sr sh r0 12)).2 = 1500 := by rw [q0.2.2.2.2.2.2.2.2.2.2.2.2.1]
  have ha0_13 : (sk sh (sr sh r0 13)).2 = 1500 := by rw [q0.2.2.2.2.2.2.2.2.2.2.2.2.2.1]
  have ha0_14 : (sk sh (sr sh r0 14)).2 = 20 := by rw [q0.2.2.2.2.2.2.2.2.2.2.2.2.2.2]
  have gs := G.1 13 (by decide)
  rw [b164_0]
  try simp only [zput_s, zput_n, ti_g, oI_add, oI_sub, oI_mul]
  refine zok_pI (s120 (by omega) (by omega) (by omega)) (fun y8 u8 p8 => ?_)
  try simp only [zt0, zt1, zt2, zt3, zt4, zt5, zt6, zt7, zt8, zt9, zt10, zt11, zt12, zt13] at p8
  have g9_1 := And.intro (tg_lo (tI t r0 0 (oI 0)) r0 0) (tg_hi (tI t r0 0 (oI 0)) r0 0)
  have g9_2 := And.intro (tg_lo (tI t r0 0 (oI 2)) r0 0) (tg_hi (tI t r0 0 (oI 2)) r0 0)
  have g9_3 := And.intro (tg_lo (tI t r0 0 (oI 1)) r0 0) (tg_hi (tI t r0 0 (oI 1)) r0 0)
  simp only [zput_s, zput_n, ti_g, oI_add, oI_sub, oI_mul, zt0, zt1, zt2, zt3, zt4, zt5, zt6, zt7, zt8, zt9, zt10, zt11, zt12, zt13, b164_8]
  try simp only [zput_s, zput_n, ti_g, oI_add, oI_sub, oI_mul]
  first | refine zok_ne (by omega) (fun c10 => ?_) (fun c10 => ?_) | refine zok_if (fun c10 => ?_) (fun c10 => ?_)
  · refine zok_ck ((q0).1) ?_
    refine zok_ck ⟨(by rw [(q0).2.2.2.2.2.1]), zin_o (by omega) (by omega) (by omega)⟩ ?_
    try rw [nN_o (a := 13) (by omega) (by omega)]
    try rw [show (13 : Int).toNat = 13 from rfl]
    try simp only [zput_s, zput_n, ti_g, oI_add, oI_sub, oI_mul, zt0, zt1, zt2, zt3, zt4, zt5, zt6, zt7, zt8, zt9, zt10, zt11, zt12, zt13]
    have gl11 := And.intro (tg_lo t (sr sh r0 2) (13)) (tg_hi t (sr sh r0 2) (13))
    have gm11 := (G).1 (13) (by omega)
    try simp only [zt0, zt1, zt2, zt3, zt4, zt5, zt6, zt7, zt8, zt9, zt10, zt11, zt12, zt13] at gl11
    try simp only [zt0, zt1, zt2, zt3, zt4, zt5, zt6, zt7, zt8, zt9, zt10, zt11, zt12, zt13] at gm11
    first | refine zok_le (by omega) (fun c12 => ?_) (fun c12 => ?_) | refine zok_if (fun c12 => ?_) (fun c12 => ?_)
    · refine zok_ck (by first | exact ⟨(q0).1, fun e => by cases e⟩ | exact (q0).1) ?_
      obtain ⟨t13, ht13⟩ : ∃ t', t' = tI t r0 (0) (oI (0)) := ⟨_, rfl⟩
      try simp only [zt0, zt1, zt2, zt3, zt4, zt5, zt6, zt7, zt8, zt9, zt10, zt11, zt12, zt13] at ht13
      rw [← ht13]
      have f13 : FrV sh r0 [0] t t13 := by rw [ht13]; exact GI_m q0 (G) (by omega) (fun e => by first | omega | cases e) (fun e => by first | omega | cases e)
      have d13_0 : tg t13 r0 0 = 0 := by rw [ht13]; refine (tg_at (by omega)).trans ?_; first | exact if_pos rfl | exact if_neg (by decide) | (simp only [zt0, zt1, zt2, zt3, zt4, zt5, zt6, zt7, zt8, zt9, zt10, zt11, zt12, zt13, true_and, if_true])
      try simp only [zt0, zt1, zt2, zt3, zt4, zt5, zt6, zt7, zt8, zt9, zt10, zt11, zt12, zt13] at d13_0
      have e13_2 : ∀ k, tg t13 (sr sh r0 2) k = tg t (sr sh r0 2) k := fun k => f13.eq q0 (i := 2) (by decide) (by decide) k
      have e13_3 : ∀ k, tg t13 (sr sh r0 3) k = tg t (sr sh r0 3) k := fun k => f13.eq q0 (i := 3) (by decide) (by decide) k
      have e13_4 : ∀ k, tg t13 (sr sh r0 4) k = tg t (sr sh r0 4) k := fun k => f13.eq q0 (i := 4) (by decide) (by decide) k
      have e13_10 : ∀ k, tg t13 (sr sh r0 10) k = tg t (sr sh r0 10) k := fun k => f13.eq q0 (i := 10) (by decide) (by decide) k
      have e13_11 : ∀ k, tg t13 (sr sh r0 11) k = tg t (sr sh r0 11) k := fun k => f13.eq q0 (i := 11) (by decide) (by decide) k
      refine zok_ck ((q0).1) ?_
      first | refine zok_le (by omega) (fun c14 => ?_) (fun c14 => ?_) | refine zok_if (fun c14 => ?_) (fun c14 => ?_)
      · try simp only [zput_s, zput_n, ti_g, oI_add, oI_sub, oI_mul]
        exact l164_50 q0 (l1 := l1) (by omega) G _ _ _ _ ((FrV.trans (Ns := [0, 1, 2]) (FrV.refl (Ls := []) G) f13 (by decide) (by decide))) (by first | omega | ((try simp only [zt0, zt1, zt2, zt3, zt4, zt5, zt6, zt7, zt8, zt9, zt10, zt11, zt12, zt13, e13_2, e13_3, e13_4, e13_10, e13_11, true_and, and_true]); omega)) (Nat.lt_succ_self _)
      · first | exact qI_rt (by omega) (by omega) ⟨(FrV.trans (Ns := [0, 1, 2]) (FrV.refl (Ls := []) G) f13 (by decide) (by decide)), by first | omega | ((try simp only [zt0, zt1, zt2, zt3, zt4, zt5, zt6, zt7, zt8, zt9, zt10, zt11, zt12, zt13, e13_2, e13_3, e13_4, e13_10, e13_11, true_and, and_true]); omega)⟩ | exact qI_nf ⟨(FrV.trans (Ns := [0, 1, 2]) (FrV.refl (Ls := []) G) f13 (by decide) (by decide)), by first | omega | ((try simp only [zt0, zt1, zt2, zt3, zt4, zt5, zt6, zt7, zt8, zt9, zt10, zt11, zt12, zt13, e13_2, e13_3, e13_4, e13_10, e13_11, true_and, and_true]); omega)⟩
    · refine zok_ck (by first | exact ⟨(q0).1, fun e => by cases e⟩ | exact (q0).1) ?_
      obtain ⟨t15, ht15⟩ : ∃ t', t' = tI t r0 (0) (oI (2)) := ⟨_, rfl⟩
      try simp only [zt0, zt1, zt2, zt3, zt4, zt5, zt6, zt7, zt8, zt9, zt10, zt11, zt12, zt13] at ht15
      rw [← ht15]
      have f15 : FrV sh r0 [0] t t15 := by rw [ht15]; exact GI_m q0 (G) (by omega) (fun e => by first | omega | cases e) (fun e => by first | omega | cases e)
      have d15_0 : tg t15 r0 0 = 2 := by rw [ht15]; refine (tg_at (by omega)).trans ?_; first | exact if_pos rfl | exact if_neg (by decide) | (simp only [zt0, zt1, zt2, zt3, zt4, zt5, zt6, zt7, zt8, zt9, zt10, zt11, zt12, zt13, true_and, if_true])
      try simp only [zt0, zt1, zt2, zt3, zt4, zt5, zt6, zt7, zt8, zt9, zt10, zt11, zt12, zt13] at d15_0
      have e15_2 : ∀ k, tg t15 (sr sh r0 2) k = tg t (sr sh r0 2) k := fun k => f15.eq q0 (i := 2) (by decide) (by decide) k
      have e15_3 : ∀ k, tg t15 (sr sh r0 3) k = tg t (sr sh r0 3) k := fun k => f15.eq q0 (i := 3) (by decide) (by decide) k
      have e15_4 : ∀ k, tg t15 (sr sh r0 4) k = tg t (sr sh r0 4) k := fun k => f15.eq q0 (i := 4) (by decide) (by decide) k
      have e15_10 : ∀ k, tg t15 (sr sh r0 10) k = tg t (sr sh r0 10) k := fun k => f15.eq q0 (i := 10) (by decide) (by decide) k
      have e15_11 : ∀ k, tg t15 (sr sh r0 11) k = tg t (sr sh r0 11) k := fun k => f15.eq q0 (i := 11) (by decide) (by decide) k
      refine zok_ck ((q0).1) ?_
      first | refine zok_le (by omega) (fun c16 => ?_) (fun c16 => ?_) | refine zok_if (fun c16 => ?_) (fun c16 => ?_)
      · try simp only [zput_s, zput_n, ti_g, oI_add, oI_sub, oI_mul]
        exact l164_50 q0 (l1 := l1) (by omega) G _ _ _ _ ((FrV.trans (Ns := [0, 1, 2]) (FrV.refl (Ls := []) G) f15 (by decide) (by decide))) (by first | omega | ((try simp only [zt0, zt1, zt2, zt3, zt4, zt5, zt6, zt7, zt8, zt9, zt10, zt11, zt12, zt13, e15_2, e15_3, e15_4, e15_10, e15_11, true_and, and_true]); omega)) (Nat.lt_succ_self _)
      · first | exact qI_rt (by omega) (by omega) ⟨(FrV.trans (Ns := [0, 1, 2]) (FrV.refl (Ls := []) G) f15 (by decide) (by decide)), by first | omega | ((try simp only [zt0, zt1, zt2, zt3, zt4, zt5, zt6, zt7, zt8, zt9, zt10, zt11, zt12, zt13, e15_2, e15_3, e15_4, e15_10, e15_11, true_and, and_true]); omega)⟩ | exact qI_nf ⟨(FrV.trans (Ns := [0, 1, 2]) (FrV.refl (Ls := []) G) f15 (by decide) (by decide)), by first | omega | ((try simp only [zt0, zt1, zt2, zt3, zt4, zt5, zt6, zt7, zt8, zt9, zt10, zt11, zt12, zt13, e15_2, e15_3, e15_4, e15_10, e15_11, true_and, and_true]); omega)⟩
  · refine zok_ck (by first | exact ⟨(q0).1, fun e => by cases e⟩ | exact (q0).1) ?_
    obtain ⟨t17, ht17⟩ : ∃ t', t' = tI t r0 (0) (oI (1)) := ⟨_, rfl⟩
    try simp only [zt0, zt1, zt2, zt3, zt4, zt5, zt6, zt7, zt8, zt9, zt10, zt11, zt12, zt13] at ht17
    rw [← ht17]
    have f17 : FrV sh r0 [0] t t17 := by rw [ht17]; exact GI_m q0 (G) (by omega) (fun e => by first | omega | cases e) (fun e => by first | omega | cases e)
    have d17_0 : tg t17 r0 0 = 1 := by rw [ht17]; refine (tg_at (by omega)).trans ?_; first | exact if_pos rfl | exact if_neg (by decide) | (simp only [zt0, zt1, zt2, zt3, zt4, zt5, zt6, zt7, zt8, zt9, zt10, zt11, zt12, zt13, true_and, if_true])
    try simp only [zt0, zt1, zt2, zt3, zt4, zt5, zt6, zt7, zt8, zt9, zt10, zt11, zt12, zt13] at d17_0
    have e17_2 : ∀ k, tg t17 (sr sh r0 2) k = tg t (sr sh r0 2) k := fun k => f17.eq q0 (i := 2) (by decide) (by decide) k
    have e17_3 : ∀ k, tg t17 (sr sh r0 3) k = tg t (sr sh r0 3) k := fun k => f17.eq q0 (i := 3) (by decide) (by decide) k
    have e17_4 : ∀ k, tg t17 (sr sh r0 4) k = tg t (sr sh r0 4) k := fun k => f17.eq q0 (i := 4) (by decide) (by decide) k
    have e17_10 : ∀ k, tg t17 (sr sh r0 10) k = tg t (sr sh r0 10) k := fun k => f17.eq q0 (i := 10) (by decide) (by decide) k
    have e17_11 : ∀ k, tg t17 (sr sh r0 11) k = tg t (sr sh r0 11) k := fun k => f17.eq q0 (i := 11) (by decide) (by decide) k
    refine zok_ck ((q0).1) ?_
    first | refine zok_le (by omega) (fun c18 => ?_) (fun c18 => ?_) | refine zok_if (fun c18 => ?_) (fun c18 => ?_)
    · try simp only [zput_s, zput_n, ti_g, oI_add, oI_sub, oI_mul]
      exact l164_50 q0 (l1 := l1) (by omega) G _ _ _ _ ((FrV.trans (Ns := [0, 1, 2]) (FrV.refl (Ls := []) G) f17 (by decide) (by decide))) (by first | omega | ((try simp only [zt0, zt1, zt2, zt3, zt4, zt5, zt6, zt7, zt8, zt9, zt10, zt11, zt12, zt13, e17_2, e17_3, e17_4, e17_10, e17_11, true_and, and_true]); omega)) (Nat.lt_succ_self _)
    · first | exact qI_rt (by omega) (by omega) ⟨(FrV.trans (Ns := [0, 1, 2]) (FrV.refl (Ls := []) G) f17 (by decide) (by decide)), by first | omega | ((try simp only [zt0, zt1, zt2, zt3, zt4, zt5, zt6, zt7, zt8, zt9, zt10, zt11, zt12, zt13, e17_2, e17_3, e17_4, e17_10, e17_11, true_and, and_true]); omega)⟩ | exact qI_nf ⟨(FrV.trans (Ns := [0, 1, 2]) (FrV.refl (Ls := []) G) f17 (by decide) (by decide)), by first | omega | ((try simp only [zt0, zt1, zt2, zt3, zt4, zt5, zt6, zt7, zt8, zt9, zt10, zt11, zt12, zt13, e17_2, e17_3, e17_4, e17_10, e17_11, true_and, and_true]); omega)⟩
/-! X9_read -/
theorem s165 {sh : zSh} {t : zSt} {MB : Nat} {r0 : Nat} (q0 : zMd sh MB r0) {x1 : Int} (u1 : -2147483648 ≤ x1 ∧ x1 ≤ 2147483647) (G : GI sh r0 t) : zok (zcl zP 165 [zR r0, zI (oI x1)] (sh, t)) (qI (fun x t' => FrV sh r0 [0, 1, 2, 3, 4, 14] t t' ∧ (tg t' (sr sh r0 2) 13 = 0)) sh) := by
  have ha0_1 : (sk sh (sr sh r0 1)).2 = 21000 := by rw [q0.2.2.2.2.1]
  have ha0_2 : (sk sh (sr sh r0 2)).2 = 14 := by rw [q0.2.2.2.2.2.1]
  have ha0_3 : (sk sh (sr sh r0 3)).2 = 98 := by rw [q0.2.2.2.2.2.2.1]
  have ha0_4 : (sk sh (sr sh r0 4)).2 = 98 := by rw [q0.2.2.2.2.2.2.2.1]
  have ha0_8 : (sk sh (sr sh r0 8)).2 = 1500 := by rw [q0.2.2.2.2.2.2.2.2.1]
  have ha0_9 : (sk sh (sr sh r0 9)).2 = 10500 := by rw [q0.2.2.2.2.2.2.2.2.2.1]
  have ha0_10 : (sk sh (sr sh r0 10)).2 = 7 := by rw [q0.2.2.2.2.2.2.2.2.2.2.1]
  have ha0_11 : (sk sh (sr sh r0 11)).2 = 7 := by rw [q0.2.2.2.2.2.2.2.2.2.2.2.1]
  have ha0_12 : (sk sh (sr sh r0 12)).2 = 1500 := by rw [q0.2.2.2.2.2.2.2.2.2.2.2.2.1]
  have ha0_13 : (sk sh (sr sh r0 13)).2 = 1500 := by rw [q0.2.2.2.2.2.2.2.2.2.2.2.2.2.1]
  have ha0_14 : (sk sh (sr sh r0 14)).2 = 20 := by rw [q0.2.2.2.2.2.2.2.2.2.2.2.2.2.2]
  have gs := G.1 13 (by decide)
  rw [b165_0]
  try simp only [zput_s, zput_n, ti_g, oI_add, oI_sub, oI_mul]
  refine zok_pI (s127 (by omega)) (fun y2 u2 p2 => ?_)
  try simp only [zt0, zt1, zt2, zt3, zt4, zt5, zt6, zt7, zt8, zt9, zt10, zt11, zt12, zt13] at p2
  have g3_1 := And.intro (tg_lo (tI t r0 0 (oI 1)) r0 0) (tg_hi (tI t r0 0 (oI 1)) r0 0)
  have g3_2 := And.intro (tg_lo (tI t r0 0 (oI 0)) r0 0) (tg_hi (tI t r0 0 (oI 0)) r0 0)
  simp only [zput_s, zput_n, ti_g, oI_add, oI_sub, oI_mul, zt0, zt1, zt2, zt3, zt4, zt5, zt6, zt7, zt8, zt9, zt10, zt11, zt12, zt13, b165_5]
  try simp only [zput_s, zput_n, ti_g, oI_add, oI_sub, oI_mul]
  first | refine zok_eq (by omega) (fun c4 => ?_) (fun c4 => ?_) | refine zok_if (fun c4 => ?_) (fun c4 => ?_)
  · refine zok_ck (by first | exact ⟨(q0).1, fun e => by cases e⟩ | exact (q0).1) ?_
    obtain ⟨t5, ht5⟩ : ∃ t', t' = tI t r0 (0) (oI (1)) := ⟨_, rfl⟩
    try simp only [zt0, zt1, zt2, zt3, zt4, zt5, zt6, zt7, zt8, zt9, zt10, zt11, zt12, zt13] at ht5
    rw [← ht5]
    have f5 : FrV sh r0 [0] t t5 := by rw [ht5]; exact GI_m q0 (G) (by omega) (fun e => by first | omega | cases e) (fun e => by first | omega | cases e)
    have d5_0 : tg t5 r0 0 = 1 := by rw [ht5]; refine (tg_at (by omega)).trans ?_; first | exact if_pos rfl | exact if_neg (by decide) | (simp only [zt0, zt1, zt2, zt3, zt4, zt5, zt6, zt7, zt8, zt9, zt10, zt11, zt12, zt13, true_and, if_true])
    try simp only [zt0, zt1, zt2, zt3, zt4, zt5, zt6, zt7, zt8, zt9, zt10, zt11, zt12, zt13] at d5_0
    have e5_2 : ∀ k, tg t5 (sr sh r0 2) k = tg t (sr sh r0 2) k := fun k => f5.eq q0 (i := 2) (by decide) (by decide) k
    have e5_3 : ∀ k, tg t5 (sr sh r0 3) k = tg t (sr sh r0 3) k := fun k => f5.eq q0 (i := 3) (by decide) (by decide) k
    have e5_4 : ∀ k, tg t5 (sr sh r0 4) k = tg t (sr sh r0 4) k := fun k => f5.eq q0 (i := 4) (by decide) (by decide) k
    have e5_10 : ∀ k, tg t5 (sr sh r0 10) k = tg t (sr sh r0 10) k := fun k => f5.eq q0 (i := 10) (by decide) (by decide) k
    have e5_11 : ∀ k, tg t5 (sr sh r0 11) k = tg t (sr sh r0 11) k := fun k => f5.eq q0 (i := 11) (by decide) (by decide) k
    refine zok_ck ((q0).1) ?_
    first | refine zok_ne (by omega) (fun c6 => ?_) (fun c6 => ?_) | refine zok_if (fun c6 => ?_) (fun c6 => ?_)
    · refine zok_ck ((q0).1) ?_
      first | refine zok_ne (by omega) (fun c7 => ?_) (fun c7 => ?_) | refine zok_if (fun c7 => ?_) (fun c7 => ?_)
      · have g8_1 := And.intro (tg_lo (tI t5 (sr sh r0 2) (nN (oI 13)) (oI 0)) r0 0) (tg_hi (tI t5 (sr sh r0 2) (nN (oI 13)) (oI 0)) r0 0)
        simp only [zput_s, zput_n, ti_g, oI_add, oI_sub, oI_mul, zt0, zt1, zt2, zt3, zt4, zt5, zt6, zt7, zt8, zt9, zt10, zt11, zt12, zt13, e5_2, e5_3, e5_4, e5_10, e5_11, b165_55]
        try simp only [zput_s, zput_n, ti_g, oI_add, oI_sub, oI_mul]
        refine zok_ck ((q0).1) ?_
        refine zok_ck ⟨(by rw [(q0).2.2.2.2.2.1]), zin_o (by omega) (by omega) (by omega)⟩ ?_
        try rw [nN_o (a := 13) (by omega) (by omega)]
        try rw [show (13 : Int).toNat = 13 from rfl]
        try simp only [zput_s, zput_n, ti_g, oI_add, oI_sub, oI_mul, zt0, zt1, zt2, zt3, zt4, zt5, zt6, zt7, zt8, zt9, zt10, zt11, zt12, zt13, e5_2, e5_3, e5_4, e5_10, e5_11]
        obtain ⟨t9, ht9⟩ : ∃ t', t' = tI t5 (sr sh r0 2) (13) (oI (0)) := ⟨_, rfl⟩
        try simp only [zt0, zt1, zt2, zt3, zt4, zt5, zt6, zt7, zt8, zt9, zt10, zt11, zt12, zt13, e5_2, e5_3, e5_4, e5_10, e5_11] at ht9
        rw [← ht9]
        have f9 : FrV sh r0 [2] t5 t9 := by rw [ht9]; exact GI_sz q0 (f5.g) (by omega) (by omega)
        have w9 : ∀ k, tg t9 (sr sh r0 2) k = if k = 13 then 0 else tg t5 (sr sh r0 2) k := fun k => by rw [ht9]; refine (tg_at (by omega)).trans ?_; first | rfl | simp only [zt0, zt1, zt2, zt3, zt4, zt5, zt6, zt7, zt8, zt9, zt10, zt11, zt12, zt13, e5_2, e5_3, e5_4, e5_10, e5_11, true_and]
        have ws9 : tg t9 (sr sh r0 2) (13) = 0 := by rw [w9, if_pos rfl]
        try simp only [zt0, zt1, zt2, zt3, zt4, zt5, zt6, zt7, zt8, zt9, zt10, zt11, zt12, zt13, e5_2, e5_3, e5_4, e5_10, e5_11] at w9
        try simp only [zt0, zt1, zt2, zt3, zt4, zt5, zt6, zt7, zt8, zt9, zt10, zt11, zt12, zt13, e5_2, e5_3, e5_4, e5_10, e5_11] at ws9
        have e9_3 : ∀ k, tg t9 (sr sh r0 3) k = tg t5 (sr sh r0 3) k := fun k => f9.eq q0 (i := 3) (by decide) (by decide) k
        have e9_4 : ∀ k, tg t9 (sr sh r0 4) k = tg t5 (sr sh r0 4) k := fun k => f9.eq q0 (i := 4) (by decide) (by decide) k
        have e9_10 : ∀ k, tg t9 (sr sh r0 10) k = tg t5 (sr sh r0 10) k := fun k => f9.eq q0 (i := 10) (by decide) (by decide) k
        have e9_11 : ∀ k, tg t9 (sr sh r0 11) k = tg t5 (sr sh r0 11) k := fun k => f9.eq q0 (i := 11) (by decide) (by decide) k
        have d9_0 : tg t9 r0 0 = tg t5 r0 0 := f9.eq q0 (i := 0) (by decide) (by decide) 0
        refine zok_ck ((q0).1) ?_
        first | refine zok_le (by omega) (fun c10 => ?_) (fun c10 => ?_) | refine zok_if (fun c10 => ?_) (fun c10 => ?_)
        · refine zok_ck ((q0).1) ?_
          refine zok_ck ⟨(by rw [(q0).2.2.2.2.2.1]), zin_o (by omega) (by omega) (by omega)⟩ ?_
          try rw [nN_o (a := x1) (by omega) (by omega)]
          try simp only [zput_s, zput_n, ti_g, oI_add, oI_sub, oI_mul, zt0, zt1, zt2, zt3, zt4, zt5, zt6, zt7, zt8, zt9, zt10, zt11, zt12, zt13, e5_2, e5_3, e5_4, e5_10, e5_11, e9_3, e9_4, e9_10, e9_11]
          have gl11 := And.intro (tg_lo t9 (sr sh r0 2) ((x1).toNat)) (tg_hi t9 (sr sh r0 2) ((x1).toNat))
          have gm11 := (f9.g).1 ((x1).toNat) (by omega)
          try simp only [zt0, zt1, zt2, zt3, zt4, zt5, zt6, zt7, zt8, zt9, zt10, zt11, zt12, zt13, e5_2, e5_3, e5_4, e5_10, e5_11, e9_3, e9_4, e9_10, e9_11] at gl11
          try simp only [zt0, zt1, zt2, zt3, zt4, zt5, zt6, zt7, zt8, zt9, zt10, zt11, zt12, zt13, e5_2, e5_3, e5_4, e5_10, e5_11, e9_3, e9_4, e9_10, e9_11] at gm11
          first | exact qI_rt (by omega) (by omega) ⟨(FrV.trans (Ns := [0, 1, 2, 3, 4, 14]) ((FrV.trans (Ns := [0, 1, 2, 3, 4, 14]) (FrV.refl (Ls := []) G) f5 (by decide) (by decide))) f9 (by decide) (by decide)), by omega⟩ | exact qI_nf ⟨(FrV.trans (Ns := [0, 1, 2, 3, 4, 14]) ((FrV.trans (Ns := [0, 1, 2, 3, 4, 14]) (FrV.refl (Ls := []) G) f5 (by decide) (by decide))) f9 (by decide) (by decide)), by omega⟩
        · first | exact qI_rt (by omega) (by omega) ⟨(FrV.trans (Ns := [0, 1, 2, 3, 4, 14]) ((FrV.trans (Ns := [0, 1, 2, 3, 4, 14]) (FrV.refl (Ls := []) G) f5 (by decide) (by decide))) f9 (by decide) (by decide)), by omega⟩ | exact qI_nf ⟨(FrV.trans (Ns := [0, 1, 2, 3, 4, 14]) ((FrV.trans (Ns := [0, 1, 2, 3, 4, 14]) (FrV.refl (Ls := []) G) f5 (by decide) (by decide))) f9 (by decide) (by decide)), by omega⟩
      · refine zok_ck ((q0).1) ?_
        refine zok_c0 (s131 (q0) (by omega) (by omega) (by first | (omega) | ((try simp only [zt0, zt1, zt2, zt3, zt4, zt5, zt6, zt7, zt8, zt9, zt10, zt11, zt12, zt13, e5_2, e5_3, e5_4, e5_10, e5_11]); omega)) (by first | (omega) | ((try simp only [zt0, zt1, zt2, zt3, zt4, zt5, zt6, zt7, zt8, zt9, zt10, zt11, zt12, zt13, e5_2, e5_3, e5_4, e5_10, e5_11]); omega)) (by first | (omega) | ((try simp only [zt0, zt1, zt2, zt3, zt4, zt5, zt6, zt7, zt8, zt9, zt10, zt11, zt12, zt13, e5_2, e5_3, e5_4, e5_10, e5_11]); omega)) (f5.g)) (fun t12 p12 => ?_)
        obtain ⟨f12, p12⟩ := p12
        have e12_3 : ∀ k, tg t12 (sr sh r0 3) k = tg t5 (sr sh r0 3) k := fun k => f12.eq q0 (i := 3) (by decide) (by decide) k
        have e12_4 : ∀ k, tg t12 (sr sh r0 4) k = tg t5 (sr sh r0 4) k := fun k => f12.eq q0 (i := 4) (by decide) (by decide) k
        have e12_10 : ∀ k, tg t12 (sr sh r0 10) k = tg t5 (sr sh r0 10) k := fun k => f12.eq q0 (i := 10) (by decide) (by decide) k
        have e12_11 : ∀ k, tg t12 (sr sh r0 11) k = tg t5 (sr sh r0 11) k := fun k => f12.eq q0 (i := 11) (by decide) (by decide) k
        have d12_0 : tg t12 r0 0 = tg t5 r0 0 := f12.eq q0 (i := 0) (by decide) (by decide) 0
        try simp only [zt0, zt1, zt2, zt3, zt4, zt5, zt6, zt7, zt8, zt9, zt10, zt11, zt12, zt13, e5_2, e5_3, e5_4, e5_10, e5_11, e12_3, e12_4, e12_10, e12_11] at p12
        have g13_1 := And.intro (tg_lo (tI t12 (sr sh r0 2) (nN (oI 13)) (oI 0)) r0 0) (tg_hi (tI t12 (sr sh r0 2) (nN (oI 13)) (oI 0)) r0 0)
        simp only [zput_s, zput_n, ti_g, oI_add, oI_sub, oI_mul, zt0, zt1, zt2, zt3, zt4, zt5, zt6, zt7, zt8, zt9, zt10, zt11, zt12, zt13, e5_2, e5_3, e5_4, e5_10, e5_11, e12_3, e12_4, e12_10, e12_11, b165_55]
        try simp only [zput_s, zput_n, ti_g, oI_add, oI_sub, oI_mul]
        refine zok_ck ((q0).1) ?_
        refine zok_ck ⟨(by rw [(q0).2.2.2.2.2.1]), zin_o (by omega) (by omega) (by omega)⟩ ?_
        try rw [nN_o (a := 13) (by omega) (by omega)]
        try rw [show (13 : Int).toNat = 13 from rfl]
        try simp only [zput_s, zput_n, ti_g, oI_add, oI_sub, oI_mul, zt0, zt1, zt2, zt3, zt4, zt5, zt6, zt7, zt8, zt9, zt10, zt11, zt12, zt13, e5_2, e5_3, e5_4, e5_10, e5_11, e12_3, e12_4, e12_10, e12_11]
        obtain ⟨t14, ht14⟩ : ∃ t', t' = tI t12 (sr sh r0 2) (13) (oI (0)) := ⟨_, rfl⟩
        try simp only [zt0, zt1, zt2, zt3, zt4, zt5, zt6, zt7, zt8, zt9, zt10, zt11, zt12, zt13, e5_2, e5_3, e5_4, e5_10, e5_11, e12_3, e12_4, e12_10, e12_11] at ht14
        rw [← ht14]
        have f14 : FrV sh r0 [2] t12 t14 := by rw [ht14]; exact GI_sz q0 (f12.g) (by omega) (by omega)
        have w14 : ∀ k, tg t14 (sr sh r0 2) k = if k = 13 then 0 else tg t12 (sr sh r0 2) k := fun k => by rw [ht14]; refine (tg_at (by omega)).trans ?_; first | rfl | simp only [zt0, zt1, zt2, zt3, zt4, zt5, zt6, zt7, zt8, zt9, zt10, zt11, zt12, zt13, e5_2, e5_3, e5_4, e5_10, e5_11, e12_3, e12_4, e12_10, e12_11, true_and]
        have ws14 : tg t14 (sr sh r0 2) (13) = 0 := by rw [w14, if_pos rfl]
        try simp only [zt0, zt1, zt2, zt3, zt4, zt5, zt6, zt7, zt8, zt9, zt10, zt11, zt12, zt13, e5_2, e5_3, e5_4, e5_10, e5_11, e12_3, e12_4, e12_10, e12_11] at w14
        try simp only [zt0, zt1, zt2, zt3, zt4, zt5, zt6, zt7, zt8, zt9, zt10, zt11, zt12, zt13, e5_2, e5_3, e5_4, e5_10, e5_11, e12_3, e12_4, e12_10, e12_11] at ws14
        have e14_3 : ∀ k, tg t14 (sr sh r0 3) k = tg t12 (sr sh r0 3) k := fun k => f14.eq q0 (i := 3) (by decide) (by decide) k
        have e14_4 : ∀ k, tg t14 (sr sh r0 4) k = tg t12 (sr sh r0 4) k := fun k => f14.eq q0 (i := 4) (by decide) (by decide) k
        have e14_10 : ∀ k, tg t14 (sr sh r0 10) k = tg t12 (sr sh r0 10) k := fun k => f14.eq q0 (i := 10) (by decide) (by decide) k
        have e14_11 : ∀ k, tg t14 (sr sh r0 11) k = tg t12 (sr sh r0 11) k := fun k => f14.eq q0 (i := 11) (by decide) (by decide) k
        have d14_0 : tg t14 r0 0 = tg t12 r0 0 := f14.eq q0 (i := 0) (by decide) (by decide) 0
        refine zok_ck ((q0).1) ?_
        first | refine zok_le (by omega) (fun c15 => ?_) (fun c15 => ?_) | refine zok_if (fun c15 => ?_) (fun c15 => ?_)
        · refine zok_ck ((q0).1) ?_
          refine zok_ck ⟨(by rw [(q0).2.2.2.2.2.1]), zin_o (by omega) (by omega) (by omega)⟩ ?_
          try rw [nN_o (a := x1) (by omega) (by omega)]
          try simp only [zput_s, zput_n, ti_g, oI_add, oI_sub, oI_mul, zt0, zt1, zt2, zt3, zt4, zt5, zt6, zt7, zt8, zt9, zt10, zt11, zt12, zt13, e5_2, e5_3, e5_4, e5_10, e5_11, e12_3, e12_4, e12_10, e12_11, e14_3, e14_4, e14_10, e14_11]
          have gl16 := And.intro (tg_lo t14 (sr sh r0 2) ((x1).toNat)) (tg_hi t14 (sr sh r0 2) ((x1).toNat))
          have gm16 := (f14.g).1 ((x1).toNat) (by omega)
          try simp only [zt0, zt1, zt2, zt3, zt4, zt5, zt6, zt7, zt8, zt9, zt10, zt11, zt12, zt13, e5_2, e5_3, e5_4, e5_10, e5_11, e12_3, e12_4, e12_10, e12_11, e14_3, e14_4, e14_10, e14_11] at gl16
          try simp only [zt0, zt1, zt2, zt3, zt4, zt5, zt6, zt7, zt8, zt9, zt10, zt11, zt12, zt13, e5_2, e5_3, e5_4, e5_10, e5_11, e12_3, e12_4, e12_10, e12_11, e14_3, e14_4, e14_10, e14_11] at gm16
          first | exact qI_rt (by omega) (by omega) ⟨(FrV.trans (Ns := [0, 1, 2, 3, 4, 14]) ((FrV.trans (Ns := [0, 1, 2, 3, 4, 14]) ((FrV.trans (Ns := [0, 1, 2, 3, 4, 14]) (FrV.refl (Ls := []) G) f5 (by decide) (by decide))) f12 (by decide) (by decide))) f14 (by decide) (by decide)), by omega⟩ | exact qI_nf ⟨(FrV.trans (Ns := [0, 1, 2, 3, 4, 14]) ((FrV.trans (Ns := [0, 1, 2, 3, 4, 14]) ((FrV.trans (Ns := [0, 1, 2, 3, 4, 14]) (FrV.refl (Ls := []) G) f5 (by decide) (by decide))) f12 (by decide) (by decide))) f14 (by decide) (by decide)), by omega⟩
        · first | exact qI_rt (by omega) (by omega) ⟨(FrV.trans (Ns := [0, 1, 2, 3, 4, 14]) ((FrV.trans (Ns := [0, 1, 2, 3, 4, 14]) ((FrV.trans (Ns := [0, 1, 2, 3, 4, 14]) (FrV.refl (Ls := []) G) f5 (by decide) (by decide))) f12 (by decide) (by decide))) f14 (by decide) (by decide)), by omega⟩ | exact qI_nf ⟨(FrV.trans (Ns := [0, 1, 2, 3, 4, 14]) ((FrV.trans (Ns := [0, 1, 2, 3, 4, 14]) ((FrV.trans (Ns := [0, 1, 2, 3, 4, 14]) (FrV.refl (Ls := []) G) f5 (by decide) (by decide))) f12 (by decide) (by decide))) f14 (by decide) (by decide)), by omega⟩
    · refine zok_ck ((q0).1) ?_
      refine zok_cI (s151 (q0) (by omega) (by first | (omega) | ((try simp only [zt0, zt1, zt2, zt3, zt4, zt5, zt6, zt7, zt8, zt9, zt10, zt11, zt12, zt13, e5_2, e5_3, e5_4, e5_10, e5_11]); omega)) (by first | (omega) | ((try simp only [zt0, zt1, zt2, zt3, zt4, zt5, zt6, zt7, zt8, zt9, zt10, zt11, zt12, zt13, e5_2, e5_3, e5_4, e5_10, e5_11]); omega)) (f5.g)) (fun y17 t17 u17 p17 => ?_)
      obtain ⟨f17, p17⟩ := p17
      have e17_2 : ∀ k, tg t17 (sr sh r0 2) k = tg t5 (sr sh r0 2) k := fun k => f17.eq q0 (i := 2) (by decide) (by decide) k
      have e17_10 : ∀ k, tg t17 (sr sh r0 10) k = tg t5 (sr sh r0 10) k := fun k => f17.eq q0 (i := 10) (by decide) (by decide) k
      have e17_11 : ∀ k, tg t17 (sr sh r0 11) k = tg t5 (sr sh r0 11) k := fun k => f17.eq q0 (i := 11) (by decide) (by decide) k
      try simp only [zt0, zt1, zt2, zt3, zt4, zt5, zt6, zt7, zt8, zt9, zt10, zt11, zt12, zt13, e5_2, e5_3, e5_4, e5_10, e5_11, e17_2, e17_10, e17_11] at p17
      have g18_1 := And.intro (tg_lo (tI t17 r0 0 (oI 2)) r0 0) (tg_hi (tI t17 r0 0 (oI 2)) r0 0)
      have g18_2 := And.intro (tg_lo (tI t17 r0 0 (oI 0)) r0 0) (tg_hi (tI t17 r0 0 (oI 0)) r0 0)
      simp only [zput_s, zput_n, ti_g, oI_add, oI_sub, oI_mul, zt0, zt1, zt2, zt3, zt4, zt5, zt6, zt7, zt8, zt9, zt10, zt11, zt12, zt13, e5_2, e5_3, e5_4, e5_10, e5_11, e17_2, e17_10, e17_11, b165_30]
      try simp only [zput_s, zput_n, ti_g, oI_add, oI_sub, oI_mul]
      first | refine zok_eq (by omega) (fun c19 => ?_) (fun c19 => ?_) | refine zok_if (fun c19 => ?_) (fun c19 => ?_)
      · refine zok_ck (by first | exact ⟨(q0).1, fun e => by cases e⟩ | exact (q0).1) ?_
        obtain ⟨t20, ht20⟩ : ∃ t', t' = tI t17 r0 (0) (oI (2)) := ⟨_, rfl⟩
        try simp only [zt0, zt1, zt2, zt3, zt4, zt5, zt6, zt7, zt8, zt9, zt10, zt11, zt12, zt13, e5_2, e5_3, e5_4, e5_10, e5_11, e17_2, e17_10, e17_11] at ht20
        rw [← ht20]
        have f20 : FrV sh r0 [0] t17 t20 := by rw [ht20]; exact GI_m q0 (f17.g) (by omega) (fun e => by first | omega | cases e) (fun e => by first | omega | cases e)
        have d20_0 : tg t20 r0 0 = 2 := by rw [ht20]; refine (tg_at (by omega)).trans ?_; first | exact if_pos rfl | exact if_neg (by decide) | (simp only [zt0, zt1, zt2, zt3, zt4, zt5, zt6, zt7, zt8, zt9, zt10, zt11, zt12, zt13, e5_2, e5_3, e5_4, e5_10, e5_11, e17_2, e17_10, e17_11, true_and, if_true])
        try simp only [zt0, zt1, zt2, zt3, zt4, zt5, zt6, zt7, zt8, zt9, zt10, zt11, zt12, zt13, e5_2, e5_3, e5_4, e5_10, e5_11, e17_2, e17_10, e17_11] at d20_0
        have e20_2 : ∀ k, tg t20 (sr sh r0 2) k = tg t17 (sr sh r0 2) k := fun k => f20.eq q0 (i := 2) (by decide) (by decide) k
        have e20_3 : ∀ k, tg t20 (sr sh r0 3) k = tg t17 (sr sh r0 3) k := fun k => f20.eq q0 (i := 3) (by decide) (by decide) k
        have e20_4 : ∀ k, tg t20 (sr sh r0 4) k = tg t17 (sr sh r0 4) k := fun k => f20.eq q0 (i := 4) (by decide) (by decide) k
        have e20_10 : ∀ k, tg t20 (sr sh r0 10) k = tg t17 (sr sh r0 10) k := fun k => f20.eq q0 (i := 10) (by decide) (by decide) k
        have e20_11 : ∀ k, tg t20 (sr sh r0 11) k = tg t17 (sr sh r0 11) k := fun k => f20.eq q0 (i := 11) (by decide) (by decide) k
        refine zok_ck ((q0).1) ?_
        first | refine zok_ne (by omega) (fun c21 => ?_) (fun c21 => ?_) | refine zok_if (fun c21 => ?_) (fun c21 => ?_)
        · have g22_1 := And.intro (tg_lo (tI t20 (sr sh r0 2) (nN (oI 13)) (oI 0)) r0 0) (tg_hi (tI t20 (sr sh r0 2) (nN (oI 13)) (oI 0)) r0 0)
          simp only [zput_s, zput_n, ti_g, oI_add, oI_sub, oI_mul, zt0, zt1, zt2, zt3, zt4, zt5, zt6, zt7, zt8, zt9, zt10, zt11, zt12, zt13, e5_2, e5_3, e5_4, e5_10, e5_11, e17_2, e17_10, e17_11, e20_2, e20_3, e20_4, e20_10, e20_11, b165_55]
          try simp only [zput_s, zput_n, ti_g, oI_add, oI_sub, oI_mul]
          refine zok_ck ((q0).1) ?_
          refine zok_ck ⟨(by rw [(q0).2.2.2.2.2.1]), zin_o (by omega) (by omega) (by omega)⟩ ?_
          try rw [nN_o (a := 13) (by omega) (by omega)]
          try rw [show (13 : Int).toNat = 13 from rfl]
          try simp only [zput_s, zput_n, ti_g, oI_add, oI_sub, oI_mul, zt0, zt1, zt2, zt3, zt4, zt5, zt6, zt7, zt8, zt9, zt10, zt11, zt12, zt13, e5_2, e5_3, e5_4, e5_10, e5_11, e17_2, e17_10, e17_11, e20_2, e20_3, e20_4, e20_10, e20_11]
          obtain ⟨t23, ht23⟩ : ∃ t', t' = tI t20 (sr sh r0 2) (13) (oI (0)) := ⟨_, rfl⟩
          try simp only [zt0, zt1, zt2, zt3, zt4, zt5, zt6, zt7, zt8, zt9, zt10, zt11, zt12, zt13, e5_2, e5_3, e5_4, e5_10, e5_11, e17_2, e17_10, e17_11, e20_2, e20_3, e20_4, e20_10, e20_11] at ht23
          rw [← ht23]
          have f23 : FrV sh r0 [2] t20 t23 := by rw [ht23]; exact GI_sz q0 (f20.g) (by omega) (by omega)
          have w23 : ∀ k, tg t23 (sr sh r0 2) k = if k = 13 then 0 else tg t20 (sr sh r0 2) k := fun k => by rw [ht23]; refine (tg_at (by omega)).trans ?_; first | rfl | simp only [zt0, zt1, zt2, zt3, zt4, zt5, zt6, zt7, zt8, zt9, zt10, zt11, zt12, zt13, e5_2, e5_3, e5_4, e5_10, e5_11, e17_2, e17_10, e17_11, e20_2, e20_3, e20_4, e20_10, e20_11, true_and]
          have ws23 : tg t23 (sr sh r0 2) (13) = 0 := by rw [w23, if_pos rfl]
          try simp only [zt0, zt1, zt2, zt3, zt4, zt5, zt6, zt7, zt8, zt9, zt10, zt11, zt12, zt13, e5_2, e5_3, e5_4, e5_10, e5_11, e17_2, e17_10, e17_11, e20_2, e20_3, e20_4, e20_10, e20_11] at w23
          try simp only [zt0, zt1, zt2, zt3, zt4, zt5, zt6, zt7, zt8, zt9, zt10, zt11, zt12, zt13, e5_2, e5_3, e5_4, e5_10, e5_11, e17_2, e17_10, e17_11, e20_2, e20_3, e20_4, e20_10, e20_11] at ws23
          have e23_3 : ∀ k, tg t23 (sr sh r0 3) k = tg t20 (sr sh r0 3) k := fun k => f23.eq q0 (i := 3) (by decide) (by decide) k
          have e23_4 : ∀ k, tg t23 (sr sh r0 4) k = tg t20 (sr sh r0 4) k := fun k => f23.eq q0 (i := 4) (by decide) (by decide) k
          have e23_10 : ∀ k, tg t23 (sr sh r0 10) k = tg t20 (sr sh r0 10) k := fun k => f23.eq q0 (i := 10) (by decide) (by decide) k
          have e23_11 : ∀ k, tg t23 (sr sh r0 11) k = tg t20 (sr sh r0 11) k := fun k => f23.eq q0 (i := 11) (by decide) (by decide) k
          have d23_0 : tg t23 r0 0 = tg t20 r0 0 := f23.eq q0 (i := 0) (by decide) (by decide) 0
          refine zok_ck ((q0).1) ?_
          first | refine zok_le (by omega) (fun c24 => ?_) (fun c24 => ?_) | refine zok_if (fun c24 => ?_) (fun c24 => ?_)
          · refine zok_ck ((q0).1) ?_
            refine zok_ck ⟨(by rw [(q0).2.2.2.2.2.1]), zin_o (by omega) (by omega) (by omega)⟩ ?_
            try rw [nN_o (a := x1) (by omega) (by omega)]
            try simp only [zput_s, zput_n, ti_g, oI_add, oI_sub, oI_mul, zt0, zt1, zt2, zt3, zt4, zt5, zt6, zt7, zt8, zt9, zt10, zt11, zt12, zt13, e5_2, e5_3, e5_4, e5_10, e5_11, e17_2, e17_10, e17_11, e20_2, e20_3, e20_4, e20_10, e20_11, e23_3, e23_4, e23_10, e23_11]
            have gl25 := And.intro (tg_lo t23 (sr sh r0 2) ((x1).toNat)) (tg_hi t23 (sr sh r0 2) ((x1).toNat))
            have gm25 := (f23.g).1 ((x1).toNat) (by omega)
            try simp only [zt0, zt1, zt2, zt3, zt4, zt5, zt6, zt7, zt8, zt9, zt10, zt11, zt12, zt13, e5_2, e5_3, e5_4, e5_10, e5_11, e17_2, e17_10, e17_11, e20_2, e20_3, e20_4, e20_10, e20_11, e23_3, e23_4, e23_10, e23_11] at gl25
            try simp only [zt0, zt1, zt2, zt3, zt4, zt5, zt6, zt7, zt8, zt9, zt10, zt11, zt12, zt13, e5_2, e5_3, e5_4, e5_10, e5_11, e17_2, e17_10, e17_11, e20_2, e20_3, e20_4, e20_10, e20_11, e23_3, e23_4, e23_10, e23_11] at gm25
            first | exact qI_rt (by omega) (by omega) ⟨(FrV.trans (Ns := [0, 1, 2, 3, 4, 14]) ((FrV.trans (Ns := [0, 1, 2, 3, 4, 14]) ((FrV.trans (Ns := [0, 1, 2, 3, 4, 14]) ((FrV.trans (Ns := [0, 1, 2, 3, 4, 14]) (FrV.refl (Ls := []) G) f5 (by decide) (by decide))) f17 (by decide) (by decide))) f20 (by decide) (by decide))) f23 (by decide) (by decide)), by omega⟩ | exact qI_nf ⟨(FrV.trans (Ns := [0, 1, 2, 3, 4, 14]) ((FrV.trans (Ns := [0, 1, 2, 3, 4, 14]) ((FrV.trans (Ns := [0, 1, 2, 3, 4, 14]) ((FrV.trans (Ns := [0, 1, 2, 3, 4, 14]) (FrV.refl (Ls := []) G) f5 (by decide) (by decide))) f17 (by decide) (by decide))) f20 (by decide) (by decide))) f23 (by decide) (by decide)), by omega⟩
          · first | exact qI_rt (by omega) (by omega) ⟨(FrV.trans (Ns := [0, 1, 2, 3, 4, 14]) ((FrV.trans (Ns := [0, 1, 2, 3, 4, 14]) ((FrV.trans (Ns := [0, 1, 2, 3, 4, 14]) ((FrV.trans (Ns := [0, 1, 2, 3, 4, 14]) (FrV.refl (Ls := []) G) f5 (by decide) (by decide))) f17 (by decide) (by decide))) f20 (by decide) (by decide))) f23 (by decide) (by decide)), by omega⟩ | exact qI_nf ⟨(FrV.trans (Ns := [0, 1, 2, 3, 4, 14]) ((FrV.trans (Ns := [0, 1, 2, 3, 4, 14]) ((FrV.trans (Ns := [0, 1, 2, 3, 4, 14]) ((FrV.trans (Ns := [0, 1, 2, 3, 4, 14]) (FrV.refl (Ls := []) G) f5 (by decide) (by decide))) f17 (by decide) (by decide))) f20 (by decide) (by decide))) f23 (by decide) (by decide)), by omega⟩
        · refine zok_ck ((q0).1) ?_
          refine zok_c0 (s131 (q0) (by omega) (by omega) (by first | (omega) | ((try simp only [zt0, zt1, zt2, zt3, zt4, zt5, zt6, zt7, zt8, zt9, zt10, zt11, zt12, zt13, e5_2, e5_3, e5_4, e5_10, e5_11, e17_2, e17_10, e17_11, e20_2, e20_3, e20_4, e20_10, e20_11]); omega)) (by first | (omega) | ((try simp only [zt0, zt1, zt2, zt3, zt4, zt5, zt6, zt7, zt8, zt9, zt10, zt11, zt12, zt13, e5_2, e5_3, e5_4, e5_10, e5_11, e17_2, e17_10, e17_11, e20_2, e20_3, e20_4, e20_10, e20_11]); omega)) (by first | (omega) | ((try simp only [zt0, zt1, zt2, zt3, zt4, zt5, zt6, zt7, zt8, zt9, zt10, zt11, zt12, zt13, e5_2, e5_3, e5_4, e5_10, e5_11, e17_2, e17_10, e17_11, e20_2, e20_3, e20_4, e20_10, e20_11]); omega)) (f20.g)) (fun t26 p26 => ?_)
          obtain ⟨f26, p26⟩ := p26
          have e26_3 : ∀ k, tg t26 (sr sh r0 3) k = tg t20 (sr sh r0 3) k := fun k => f26.eq q0 (i := 3) (by decide) (by decide) k
          have e26_4 : ∀ k, tg t26 (sr sh r0 4) k = tg t20 (sr sh r0 4) k := fun k => f26.eq q0 (i := 4) (by decide) (by decide) k
          have e26_10 : ∀ k, tg t26 (sr sh r0 10) k = tg t20 (sr sh r0 10) k := fun k => f26.eq q0 (i := 10) (by decide) (by decide) k
          have e26_11 : ∀ k, tg t26 (sr sh r0 11) k = tg t20 (sr sh r0 11) k := fun k => f26.eq q0 (i := 11) (by decide) (by decide) k
          have d26_0 : tg t26 r0 0 = tg t20 r0 0 := f26.eq q0 (i := 0) (by decide) (by decide) 0
          try simp only [zt0, zt1, zt2, zt3, zt4, zt5, zt6, zt7, zt8, zt9, zt10, zt11, zt12, zt13, e5_2, e5_3, e5_4, e5_10, e5_11, e17_2, e17_10, e17_11, e20_2, e20_3, e20_4, e20_10, e20_11, e26_3, e26_4, e26_10, e26_11] at p26
          have g27_1 := And.intro (tg_lo (tI t26 (sr sh r0 2) (nN (oI 13)) (oI 0)) r0 0) (tg_hi (tI t26 (sr sh r0 2) (nN (oI 13)) (oI 0)) r0 0)
          simp only [zput_s, zput_n, ti_g, oI_add, oI_sub, oI_mul, zt0, zt1, zt2, zt3, zt4, zt5, zt6, zt7, zt8, zt9, zt10, zt11, zt12, zt13, e5_2, e5_3, e5_4, e5_10, e5_11, e17_2, e17_10, e17_11, e20_2, e20_3, e20_4, e20_10, e20_11, e26_3, e26_4, e26_10, e26_11, b165_55]
          try simp only [zput_s, zput_n, ti_g, oI_add, oI_sub, oI_mul]
          refine zok_ck ((q0).1) ?_
          refine zok_ck ⟨(by rw [(q0).2.2.2.2.2.1]), zin_o (by omega) (by omega) (by omega)⟩ ?_
          try rw [nN_o (a := 13) (by omega) (by omega)]
          try rw [show (13 : Int).toNat = 13 from rfl]
          try simp only [zput_s, zput_n, ti_g, oI_add, oI_sub, oI_mul, zt0, zt1, zt2, zt3, zt4, zt5, zt6, zt7, zt8, zt9, zt10, zt11, zt12, zt13, e5_2, e5_3, e5_4, e5_10, e5_11, e17_2, e17_10, e17_11, e20_2, e20_3, e20_4, e20_10, e20_11, e26_3, e26_4, e26_10, e26_11]
          obtain ⟨t28, ht28⟩ : ∃ t', t' = tI t26 (sr sh r0 2) (13) (oI (0)) := ⟨_, rfl⟩
          try simp only [zt0, zt1, zt2, zt3, zt4, zt5, zt6, zt7, zt8, zt9, zt10, zt11, zt12, zt13, e5_2, e5_3, e5_4, e5_10, e5_11, e17_2, e17_10, e17_11, e20_2, e20_3, e20_4, e20_10, e20_11, e26_3, e26_4, e26_10, e26_11] at ht28
          rw [← ht28]
          have f28 : FrV sh r0 [2] t26 t28 := by rw [ht28]; exact GI_sz q0 (f26.g) (by omega) (by omega)
          have w28 : ∀ k, tg t28 (sr sh r0 2) k = if k = 13 then 0 else tg t26 (sr sh r0 2) k := fun k => by rw [ht28]; refine (tg_at (by omega)).trans ?_; first | rfl | simp only [zt0, zt1, zt2, zt3, zt4, zt5, zt6, zt7, zt8, zt9, zt10, zt11, zt12, zt13, e5_2, e5_3, e5_4, e5_10, e5_11, e17_2, e17_10, e17_11, e20_2, e20_3, e20_4, e20_10, e20_11, e26_3, e26_4, e26_10, e26_11, true_and]
          have ws28 : tg t28 (sr sh r0 2) (13) = 0 := by rw [w28, if_pos rfl]
          try simp only [zt0, zt1, zt2, zt3, zt4, zt5, zt6, zt7, zt8, zt9, zt10, zt11, zt12, zt13, e5_2, e5_3, e5_4, e5_10, e5_11, e17_2, e17_10, e17_11, e20_2, e20_3, e20_4, e20_10, e20_11, e26_3, e26_4, e26_10, e26_11] at w28
          try simp only [zt0, zt1, zt2, zt3, zt4, zt5, zt6, zt7, zt8, zt9, zt10, zt11, zt12, zt13, e5_2, e5_3, e5_4, e5_10, e5_11, e17_2, e17_10, e17_11, e20_2, e20_3, e20_4, e20_10, e20_11, e26_3, e26_4, e26_10, e26_11] at ws28
          have e28_3 : ∀ k, tg t28 (sr sh r0 3) k = tg t26 (sr sh r0 3) k := fun k => f28.eq q0 (i := 3) (by decide) (by decide) k
          have e28_4 : ∀ k, tg t28 (sr sh r0 4) k = tg t26 (sr sh r0 4) k := fun k => f28.eq q0 (i := 4) (by decide) (by decide) k
          have e28_10 : ∀ k, tg t28 (sr sh r0 10) k = tg t26 (sr sh r0 10) k := fun k => f28.eq q0 (i := 10) (by decide) (by decide) k
          have e28_11 : ∀ k, tg t28 (sr sh r0 11) k = tg t26 (sr sh r0 11) k := fun k => f28.eq q0 (i := 11) (by decide) (by decide) k
          have d28_0 : tg t28 r0 0 = tg t26 r0 0 := f28.eq q0 (i := 0) (by decide) (by decide) 0
          refine zok_ck ((q0).1) ?_
          first | refine zok_le (by omega) (fun c29 => ?_) (fun c29 => ?_) | refine zok_if (fun c29 => ?_) (fun c29 => ?_)
          · refine zok_ck ((q0).1) ?_
            refine zok_ck ⟨(by rw [(q0).2.2.2.2.2.1]), zin_o (by omega) (by omega) (by omega)⟩ ?_
            try rw [nN_o (a := x1) (by omega) (by omega)]
            try simp only [zput_s, zput_n, ti_g, oI_add, oI_sub, oI_mul, zt0, zt1, zt2, zt3, zt4, zt5, zt6, zt7, zt8, zt9, zt10, zt11, zt12, zt13, e5_2, e5_3, e5_4, e5_10, e5_11, e17_2, e17_10, e17_11, e20_2, e20_3, e20_4, e20_10, e20_11, e26_3, e26_4, e26_10, e26_11, e28_3, e28_4, e28_10, e28_11]
            have gl30 := And.intro (tg_lo t28 (sr sh r0 2) ((x1).toNat)) (tg_hi t28 (sr sh r0 2) ((x1).toNat))
            have gm30 := (f28.g).1 ((x1).toNat) (by omega)
            try simp only [zt0, zt1, zt2, zt3, zt4, zt5, zt6, zt7, zt8, zt9, zt10, zt11, zt12, zt13, e5_2, e5_3, e5_4, e5_10, e5_11, e17_2, e17_10, e17_11, e20_2, e20_3, e20_4, e20_10, e20_11, e26_3, e26_4, e26_10, e26_11, e28_3, e28_4, e28_10, e28_11] at gl30
            try simp only [zt0, zt1, zt2, zt3, zt4, zt5, zt6, zt7, zt8, zt9, zt10, zt11, zt12, zt13, e5_2, e5_3, e5_4, e5_10, e5_11, e17_2, e17_10, e17_11, e20_2, e20_3, e20_4, e20_10, e20_11, e26_3, e26_4, e26_10, e26_11, e28_3, e28_4, e28_10, e28_11] at gm30
            first | exact qI_rt (by omega) (by omega) ⟨(FrV.trans (Ns := [0, 1, 2, 3, 4, 14]) ((FrV.trans (Ns := [0, 1, 2, 3, 4, 14]) ((FrV.trans (Ns := [0, 1, 2, 3, 4, 14]) ((FrV.trans (Ns := [0, 1, 2, 3, 4, 14]) ((FrV.trans (Ns := [0, 1, 2, 3, 4, 14]) (FrV.refl (Ls := []) G) f5 (by decide) (by decide))) f17 (by decide) (by decide))) f20 (by decide) (by decide))) f26 (by decide) (by decide))) f28 (by decide) (by decide)), by omega⟩ | exact qI_nf ⟨(FrV.trans (Ns := [0, 1, 2, 3, 4, 14]) ((FrV.trans (Ns := [0, 1, 2, 3, 4, 14]) ((FrV.trans (Ns := [0, 1, 2, 3, 4, 14]) ((FrV.trans (Ns := [0, 1, 2, 3, 4, 14]) ((FrV.trans (Ns := [0, 1, 2, 3, 4, 14]) (FrV.refl (Ls := []) G) f5 (by decide) (by decide))) f17 (by decide) (by decide))) f20 (by decide) (by decide))) f26 (by decide) (by decide))) f28 (by decide) (by decide)), by omega⟩
          · first | exact qI_rt (by omega) (by omega) ⟨(FrV.trans (Ns := [0, 1, 2, 3, 4, 14]) ((FrV.trans (Ns := [0, 1, 2, 3, 4, 14]) ((FrV.trans (Ns := [0, 1, 2, 3, 4, 14]) ((FrV.trans (Ns := [0, 1, 2, 3, 4, 14]) ((FrV.trans (Ns := [0, 1, 2, 3, 4, 14]) (FrV.refl (Ls := []) G) f5 (by decide) (by decide))) f17 (by decide) (by decide))) f20 (by decide) (by decide))) f26 (by decide) (by decide))) f28 (by decide) (by decide)), by omega⟩ | exact qI_nf ⟨(FrV.trans (Ns := [0, 1, 2, 3, 4, 14]) ((FrV.trans (Ns := [0, 1, 2, 3, 4, 14]) ((FrV.trans (Ns := [0, 1, 2, 3, 4, 14]) ((FrV.trans (Ns := [0, 1, 2, 3, 4, 14]) ((FrV.trans (Ns := [0, 1, 2, 3, 4, 14]) (FrV.refl (Ls := []) G) f5 (by decide) (by decide))) f17 (by decide) (by decide))) f20 (by decide) (by decide))) f26 (by decide) (by decide))) f28 (by decide) (by decide)), by omega⟩
      · refine zok_ck (by first | exact ⟨(q0).1, fun e => by cases e⟩ | exact (q0).1) ?_
        obtain ⟨t31, ht31⟩ : ∃ t', t' = tI t17 r0 (0) (oI (0)) := ⟨_, rfl⟩
        try simp only [zt0, zt1, zt2, zt3, zt4, zt5, zt6, zt7, zt8, zt9, zt10, zt11, zt12, zt13, e5_2, e5_3, e5_4, e5_10, e5_11, e17_2, e17_10, e17_11] at ht31
        rw [← ht31]
        have f31 : FrV sh r0 [0] t17 t31 := by rw [ht31]; exact GI_m q0 (f17.g) (by omega) (fun e => by first | omega | cases e) (fun e => by first | omega | cases e)
        have d31_0 : tg t31 r0 0 = 0 := by rw [ht31]; refine (tg_at (by omega)).trans ?_; first | exact if_pos rfl | exact if_neg (by decide) | (simp only [zt0, zt1, zt2, zt3, zt4, zt5, zt6, zt7, zt8, zt9, zt10, zt11, zt12, zt13, e5_2, e5_3, e5_4, e5_10, e5_11, e17_2, e17_10, e17_11, true_and, if_true])
        try simp only [zt0, zt1, zt2, zt3, zt4, zt5, zt6, zt7, zt8, zt9, zt10, zt11, zt12, zt13, e5_2, e5_3, e5_4, e5_10, e5_11, e17_2, e17_10, e17_11] at d31_0
        have e31_2 : ∀ k, tg t31 (sr sh r0 2) k = tg t17 (sr sh r0 2) k := fun k => f31.eq q0 (i := 2) (by decide) (by decide) k
        have e31_3 : ∀ k, tg t31 (sr sh r0 3) k = tg t17 (sr sh r0 3) k := fun k => f31.eq q0 (i := 3) (by decide) (by decide) k
        have e31_4 : ∀ k, tg t31 (sr sh r0 4) k = tg t17 (sr sh r0 4) k := fun k => f31.eq q0 (i := 4) (by decide) (by decide) k
        have e31_10 : ∀ k, tg t31 (sr sh r0 10) k = tg t17 (sr sh r0 10) k := fun k => f31.eq q0 (i := 10) (by decide) (by decide) k
        have e31_11 : ∀ k, tg t31 (sr sh r0 11) k = tg t17 (sr sh r0 11) k := fun k => f31.eq q0 (i := 11) (by decide) (by decide) k
        refine zok_ck ((q0).1) ?_
        first | refine zok_ne (by omega) (fun c32 => ?_) (fun c32 => ?_) | refine zok_if (fun c32 => ?_) (fun c32 => ?_)
        · have g33_1 := And.intro (tg_lo (tI t31 (sr sh r0 2) (nN (oI 13)) (oI 0)) r0 0) (tg_hi (tI t31 (sr sh r0 2) (nN (oI 13)) (oI 0)) r0 0)
          simp only [zput_s, zput_n, ti_g, oI_add, oI_sub, oI_mul, zt0, zt1, zt2, zt3, zt4, zt5, zt6, zt7, zt8, zt9, zt10, zt11, zt12, zt13, e5_2, e5_3, e5_4, e5_10, e5_11, e17_2, e17_10, e17_11, e31_2, e31_3, e31_4, e31_10, e31_11, b165_55]
          try simp only [zput_s, zput_n, ti_g, oI_add, oI_sub, oI_mul]
          refine zok_ck ((q0).1) ?_
          refine zok_ck ⟨(by rw [(q0).2.2.2.2.2.1]), zin_o (by omega) (by omega) (by omega)⟩ ?_
          try rw [nN_o (a := 13) (by omega) (by omega)]
          try rw [show (13 : Int).toNat = 13 from rfl]
          try simp only [zput_s, zput_n, ti_g, oI_add, oI_sub, oI_mul, zt0, zt1, zt2, zt3, zt4, zt5, zt6, zt7, zt8, zt9, zt10, zt11, zt12, zt13, e5_2, e5_3, e5_4, e5_10, e5_11, e17_2, e17_10, e17_11, e31_2, e31_3, e31_4, e31_10, e31_11]
          obtain ⟨t34, ht34⟩ : ∃ t', t' = tI t31 (sr sh r0 2) (13) (oI (0)) := ⟨_, rfl⟩
          try simp only [zt0, zt1, zt2, zt3, zt4, zt5, zt6, zt7, zt8, zt9, zt10, zt11, zt12, zt13, e5_2, e5_3, e5_4, e5_10, e5_11, e17_2, e17_10, e17_11, e31_2, e31_3, e31_4, e31_10, e31_11] at ht34
          rw [← ht34]
          have f34 : FrV sh r0 [2] t31 t34 := by rw [ht34]; exact GI_sz q0 (f31.g) (by omega) (by omega)
          have w34 : ∀ k, tg t34 (sr sh r0 2) k = if k = 13 then 0 else tg t31 (sr sh r0 2) k := fun k => by rw [ht34]; refine (tg_at (by omega)).trans ?_; first | rfl | simp only [zt0, zt1, zt2, zt3, zt4, zt5, zt6, zt7, zt8, zt9, zt10, zt11, zt12, zt13, e5_2, e5_3, e5_4, e5_10, e5_11, e17_2, e17_10, e17_11, e31_2, e31_3, e31_4, e31_10, e31_11, true_and]
          have ws34 : tg t34 (sr sh r0 2) (13) = 0 := by rw [w34, if_pos rfl]
          try simp only [zt0, zt1, zt2, zt3, zt4, zt5, zt6, zt7, zt8, zt9, zt10, zt11, zt12, zt13, e5_2, e5_3, e5_4, e5_10, e5_11, e17_2, e17_10, e17_11, e31_2, e31_3, e31_4, e31_10, e31_11] at w34
          try simp only [zt0, zt1, zt2, zt3, zt4, zt5, zt6, zt7, zt8, zt9, zt10, zt11, zt12, zt13, e5_2, e5_3, e5_4, e5_10, e5_11, e17_2, e17_10, e17_11, e31_2, e31_3, e31_4, e31_10, e31_11] at ws34
          have e34_3 : ∀ k, tg t34 (sr sh r0 3) k = tg t31 (sr sh r0 3) k := fun k => f34.eq q0 (i := 3) (by decide) (by decide) k
          have e34_4 : ∀ k, tg t34 (sr sh r0 4) k = tg t31 (sr sh r0 4) k := fun k => f34.eq q0 (i := 4) (by decide) (by decide) k
          have e34_10 : ∀ k, tg t34 (sr sh r0 10) k = tg t31 (sr sh r0 10) k := fun k => f34.eq q0 (i := 10) (by decide) (by decide) k
          have e34_11 : ∀ k, tg t34 (sr sh r0 11) k = tg t31 (sr sh r0 11) k := fun k => f34.eq q0 (i := 11) (by decide) (by decide) k
          have d34_0 : tg t34 r0 0 = tg t31 r0 0 := f34.eq q0 (i := 0) (by decide) (by decide) 0
          refine zok_ck ((q0).1) ?_
          first | refine zok_le (by omega) (fun c35 => ?_) (fun c35 => ?_) | refine zok_if (fun c35 => ?_) (fun c35 => ?_)
          · refine zok_ck ((q0).1) ?_
            refine zok_ck ⟨(by rw [(q0).2.2.2.2.2.1]), zin_o (by omega) (by omega) (by omega)⟩ ?_
            try rw [nN_o (a := x1) (by omega) (by omega)]
            try simp only [zput_s, zput_n, ti_g, oI_add, oI_sub, oI_mul, zt0, zt1, zt2, zt3, zt4, zt5, zt6, zt7, zt8, zt9, zt10, zt11, zt12, zt13, e5_2, e5_3, e5_4, e5_10, e5_11, e17_2, e17_10, e17_11, e31_2, e31_3, e31_4, e31_10, e31_11, e34_3, e34_4, e34_10, e34_11]
            have gl36 := And.intro (tg_lo t34 (sr sh r0 2) ((x1).toNat)) (tg_hi t34 (sr sh r0 2) ((x1).toNat))
            have gm36 := (f34.g).1 ((x1).toNat) (by omega)
            try simp only [zt0, zt1, zt2, zt3, zt4, zt5, zt6, zt7, zt8, zt9, zt10, zt11, zt12, zt13, e5_2, e5_3, e5_4, e5_10, e5_11, e17_2, e17_10, e17_11, e31_2, e31_3, e31_4, e31_10, e31_11, e34_3, e34_4, e34_10, e34_11] at gl36
            try simp only [zt0, zt1, zt2, zt3, zt4, zt5, zt6, zt7, zt8, zt9, zt10, zt11, zt12, zt13, e5_2, e5_3, e5_4, e5_10, e5_11, e17_2, e17_10, e17_11, e31_2, e31_3, e31_4, e31_10, e31_11, e34_3, e34_4, e34_10, e34_11] at gm36
            first | exact qI_rt (by omega) (by omega) ⟨(FrV.trans (Ns := [0, 1, 2, 3, 4, 14]) ((FrV.trans (Ns := [0, 1, 2, 3, 4, 14]) ((FrV.trans (Ns := [0, 1, 2, 3, 4, 14]) ((FrV.trans (Ns := [0, 1, 2, 3, 4, 14]) (FrV.refl (Ls := []) G) f5 (by decide) (by decide))) f17 (by decide) (by decide))) f31 (by decide) (by decide))) f34 (by decide) (by decide)), by omega⟩ | exact qI_nf ⟨(FrV.trans (Ns := [0, 1, 2, 3, 4, 14]) ((FrV.trans (Ns := [0, 1, 2, 3, 4, 14]) ((FrV.trans (Ns := [0, 1, 2, 3, 4, 14]) ((FrV.trans (Ns := [0, 1, 2, 3, 4, 14]) (FrV.refl (Ls := []) G) f5 (by decide) (by decide))) f17 (by decide) (by decide))) f31 (by decide) (by decide))) f34 (by decide) (by decide)), by omega⟩
          · first | exact qI_rt (by omega) (by omega) ⟨(FrV.trans (Ns := [0, 1, 2, 3, 4, 14]) ((FrV.trans (Ns := [0, 1, 2, 3, 4, 14]) ((FrV.trans (Ns := [0, 1, 2, 3, 4, 14]) ((FrV.trans (Ns := [0, 1, 2, 3, 4, 14]) (FrV.refl (Ls := []) G) f5 (by decide) (by decide))) f17 (by decide) (by decide))) f31 (by decide) (by decide))) f34 (by decide) (by decide)), by omega⟩ | exact qI_nf ⟨(FrV.trans (Ns := [0, 1, 2, 3, 4, 14]) ((FrV.trans (Ns := [0, 1, 2, 3, 4, 14]) ((FrV.trans (Ns := [0, 1, 2, 3, 4, 14]) ((FrV.trans (Ns := [0, 1, 2, 3, 4, 14]) (FrV.refl (Ls := []) G) f5 (by decide) (by decide))) f17 (by decide) (by decide))) f31 (by decide) (by decide))) f34 (by decide) (by decide)), by omega⟩
        · refine zok_ck ((q0).1) ?_
          refine zok_c0 (s131 (q0) (by omega) (by omega) (by first | (omega) | ((try simp only [zt0, zt1, zt2, zt3, zt4, zt5, zt6, zt7, zt8, zt9, zt10, zt11, zt12, zt13, e5_2, e5_3, e5_4, e5_10, e5_11, e17_2, e17_10, e17_11, e31_2, e31_3, e31_4, e31_10, e31_11]); omega)) (by first | (omega) | ((try simp only [zt0, zt1, zt2, zt3, zt4, zt5, zt6, zt7, zt8, zt9, zt10, zt11, zt12, zt13, e5_2, e5_3, e5_4, e5_10, e5_11, e17_2, e17_10, e17_11, e31_2, e31_3, e31_4, e31_10, e31_11]); omega)) (by first | (omega) | ((try simp only [zt0, zt1, zt2, zt3, zt4, zt5, zt6, zt7, zt8, zt9, zt10, zt11, zt12, zt13, e5_2, e5_3, e5_4, e5_10, e5_11, e17_2, e17_10, e17_11, e31_2, e31_3, e31_4, e31_10, e31_11]); omega)) (f31.g)) (fun t37 p37 => ?_)
          obtain ⟨f37, p37⟩ := p37
          have e37_3 : ∀ k, tg t37 (sr sh r0 3) k = tg t31 (sr sh r0 3) k := fun k => f37.eq q0 (i := 3) (by decide) (by decide) k
          have e37_4 : ∀ k, tg t37 (sr sh r0 4) k = tg t31 (sr sh r0 4) k := fun k => f37.eq q0 (i := 4) (by decide) (by decide) k
          have e37_10 : ∀ k, tg t37 (sr sh r0 10) k = tg t31 (sr sh r0 10) k := fun k => f37.eq q0 (i := 10) (by decide) (by decide) k
          have e37_11 : ∀ k, tg t37 (sr sh r0 11) k = tg t31 (sr sh r0 11) k := fun k => f37.eq q0 (i := 11) (by decide) (by decide) k
          have d37_0 : tg t37 r0 0 = tg t31 r0 0 := f37.eq q0 (i := 0) (by decide) (by decide) 0
          try simp only [zt0, zt1, zt2, zt3, zt4, zt5, zt6, zt7, zt8, zt9, zt10, zt11, zt12, zt13, e5_2, e5_3, e5_4, e5_10, e5_11, e17_2, e17_10, e17_11, e31_2, e31_3, e31_4, e31_10, e31_11, e37_3, e37_4, e37_10, e37_11] at p37
          have g38_1 := And.intro (tg_lo (tI t37 (sr sh r0 2) (nN (oI 13)) (oI 0)) r0 0) (tg_hi (tI t37 (sr sh r0 2) (nN (oI 13)) (oI 0)) r0 0)
          simp only [zput_s, zput_n, ti_g, oI_add, oI_sub, oI_mul, zt0, zt1, zt2, zt3, zt4, zt5, zt6, zt7, zt8, zt9, zt10, zt11, zt12, zt13, e5_2, e5_3, e5_4, e5_10, e5_11, e17_2, e17_10, e17_11, e31_2, e31_3, e31_4, e31_10, e31_11, e37_3, e37_4, e37_10, e37_11, b165_55]
          try simp only [zput_s, zput_n, ti_g, oI_add, oI_sub, oI_mul]
          refine zok_ck ((q0).1) ?_
          refine zok_ck ⟨(by rw [(q0).2.2.2.2.2.1]), zin_o (by omega) (by omega) (by omega)⟩ ?_
          try rw [nN_o (a := 13) (by omega) (by omega)]
          try rw [show (13 : Int).toNat = 13 from rfl]
          try simp only [zput_s, zput_n, ti_g, oI_add, oI_sub, oI_mul, zt0, zt1, zt2, zt3, zt4, zt5, zt6, zt7, zt8, zt9, zt10, zt11, zt12, zt13, e5_2, e5_3, e5_4, e5_10, e5_11, e17_2, e17_10, e17_11, e31_2, e31_3, e31_4, e31_10, e31_11, e37_3, e37_4, e37_10, e37_11]
          obtain ⟨t39, ht39⟩ : ∃ t', t' = tI t37 (sr sh r0 2) (13) (oI (0)) := ⟨_, rfl⟩
          try simp only [zt0, zt1, zt2, zt3, zt4, zt5, zt6, zt7, zt8, zt9, zt10, zt11, zt12, zt13, e5_2, e5_3, e5_4, e5_10, e5_11, e17_2, e17_10, e17_11, e31_2, e31_3, e31_4, e31_10, e31_11, e37_3, e37_4, e37_10, e37_11] at ht39
          rw [← ht39]
          have f39 : FrV sh r0 [2] t37 t39 := by rw [ht39]; exact GI_sz q0 (f37.g) (by omega) (by omega)
          have w39 : ∀ k, tg t39 (sr sh r0 2) k = if k = 13 then 0 else tg t37 (sr sh r0 2) k := fun k => by rw [ht39]; refine (tg_at (by omega)).trans ?_; first | rfl | simp only [zt0, zt1, zt2, zt3, zt4, zt5, zt6, zt7, zt8, zt9, zt10, zt11, zt12, zt13, e5_2, e5_3, e5_4, e5_10, e5_11, e17_2, e17_10, e17_11, e31_2, e31_3, e31_4, e31_10, e31_11, e37_3, e37_4, e37_10, e37_11, true_and]
          have ws39 : tg t39 (sr sh r0 2) (13) = 0 := by rw [w39, if_pos rfl]
          try simp only [zt0, zt1, zt2, zt3, zt4, zt5, zt6, zt7, zt8, zt9, zt10, zt11, zt12, zt13, e5_2, e5_3, e5_4, e5_10, e5_11, e17_2, e17_10, e17_11, e31_2, e31_3, e31_4, e31_10, e31_11, e37_3, e37_4, e37_10, e37_11] at w39
          try simp only [zt0, zt1, zt2, zt3, zt4, zt5, zt6, zt7, zt8, zt9, zt10, zt11, zt12, zt13, e5_2, e5_3, e5_4, e5_10, e5_11, e17_2, e17_10, e17_11, e31_2, e31_3, e31_4, e31_10, e31_11, e37_3, e37_4, e37_10, e37_11] at ws39
          have e39_3 : ∀ k, tg t39 (sr sh r0 3) k = tg t37 (sr sh r0 3) k := fun k => f39.eq q0 (i := 3) (by decide) (by decide) k
          have e39_4 : ∀ k, tg t39 (sr sh r0 4) k = tg t37 (sr sh r0 4) k := fun k => f39.eq q0 (i := 4) (by decide) (by decide) k
          have e39_10 : ∀ k, tg t39 (sr sh r0 10) k = tg t37 (sr sh r0 10) k := fun k => f39.eq q0 (i := 10) (by decide) (by decide) k
          have e39_11 : ∀ k, tg t39 (sr sh r0 11) k = tg t37 (sr sh r0 11) k := fun k => f39.eq q0 (i := 11) (by decide) (by decide) k
          have d39_0 : tg t39 r0 0 = tg t37 r0 0 := f39.eq q0 (i := 0) (by decide) (by decide) 0
          refine zok_ck ((q0).1) ?_
          first | refine zok_le (by omega) (fun c40 => ?_) (fun c40 => ?_) | refine zok_if (fun c40 => ?_) (fun c40 => ?_)
          · refine zok_ck ((q0).1) ?_
            refine zok_ck ⟨(by rw [(q0).2.2.2.2.2.1]), zin_o (by omega) (by omega) (by omega)⟩ ?_
            try rw [nN_o (a := x1) (by omega) (by omega)]
            try simp only [zput_s, zput_n, ti_g, oI_add, oI_sub, oI_mul, zt0, zt1, zt2, zt3, zt4, zt5, zt6, zt7, zt8, zt9, zt10, zt11, zt12, zt13, e5_2, e5_3, e5_4, e5_10, e5_11, e17_2, e17_10, e17_11, e31_2, e31_3, e31_4, e31_10, e31_11, e37_3, e37_4, e37_10, e37_11, e39_3, e39_4, e39_10, e39_11]
            have gl41 := And.intro (tg_lo t39 (sr sh r0 2) ((x1).toNat)) (tg_hi t39 (sr sh r0 2) ((x1).toNat))
            have gm41 := (f39.g).1 ((x1).toNat) (by omega)
            try simp only [zt0, zt1, zt2, zt3, zt4, zt5, zt6, zt7, zt8, zt9, zt10, zt11, zt12, zt13, e5_2, e5_3, e5_4, e5_10, e5_11, e17_2, e17_10, e17_11, e31_2, e31_3, e31_4, e31_10, e31_11, e37_3, e37_4, e37_10, e37_11, e39_3, e39_4, e39_10, e39_11] at gl41
            try simp only [zt0, zt1, zt2, zt3, zt4, zt5, zt6, zt7, zt8, zt9, zt10, zt11, zt12, zt13, e5_2, e5_3, e5_4, e5_10, e5_11, e17_2, e17_10, e17_11, e31_2, e31_3, e31_4, e31_10, e31_11, e37_3, e37_4, e37_10, e37_11, e39_3, e39_4, e39_10, e39_11] at gm41
            first | exact qI_rt (by omega) (by omega) ⟨(FrV.trans (Ns := [0, 1, 2, 3, 4, 14]) ((FrV.trans (Ns := [0, 1, 2, 3, 4, 14]) ((FrV.trans (Ns := [0, 1, 2, 3, 4, 14]) ((FrV.trans (Ns := [0, 1, 2, 3, 4, 14]) ((FrV.trans (Ns := [0, 1, 2, 3, 4, 14]) (FrV.refl (Ls := []) G) f5 (by decide) (by decide))) f17 (by decide) (by decide))) f31 (by decide) (by decide))) f37 (by decide) (by decide))) f39 (by decide) (by decide)), by omega⟩ | exact qI_nf ⟨(FrV.trans (Ns := [0, 1, 2, 3, 4, 14]) ((FrV.trans (Ns := [0, 1, 2, 3, 4, 14]) ((FrV.trans (Ns := [0, 1, 2, 3, 4, 14]) ((FrV.trans (Ns := [0, 1, 2, 3, 4, 14]) ((FrV.trans (Ns := [0, 1, 2, 3, 4, 14]) (FrV.refl (Ls := []) G) f5 (by decide) (by decide))) f17 (by decide) (by decide))) f31 (by decide) (by decide))) f37 (by decide) (by decide))) f39 (by decide) (by decide)), by omega⟩
          · first | exact qI_rt (by omega) (by omega) ⟨(FrV.trans (Ns := [0, 1, 2, 3, 4, 14]) ((FrV.trans (Ns := [0, 1, 2, 3, 4, 14]) ((FrV.trans (Ns := [0, 1, 2, 3, 4, 14]) ((FrV.trans (Ns := [0, 1, 2, 3, 4, 14]) ((FrV.trans (Ns := [0, 1, 2, 3, 4, 14]) (FrV.refl (Ls := []) G) f5 (by decide) (by decide))) f17 (by decide) (by decide))) f31 (by decide) (by decide))) f37 (by decide) (by decide))) f39 (by decide) (by decide)), by omega⟩ | exact qI_nf ⟨(FrV.trans (Ns := [0, 1, 2, 3, 4, 14]) ((FrV.trans (Ns := [0, 1, 2, 3, 4, 14]) ((FrV.trans (Ns := [0, 1, 2, 3, 4, 14]) ((FrV.trans (Ns := [0, 1, 2, 3, 4, 14]) ((FrV.trans (Ns := [0, 1, 2, 3, 4, 14]) (FrV.refl (Ls := []) G) f5 (by decide) (by decide))) f17 (by decide) (by decide))) f31 (by decide) (by decide))) f37 (by decide) (by decide))) f39 (by decide) (by decide)), by omega⟩
  · refine zok_ck (by first | exact ⟨(q0).1, fun e => by cases e⟩ | exact (q0).1) ?_
    obtain ⟨t42, ht42⟩ : ∃ t', t' = tI t r0 (0) (oI (0)) := ⟨_, rfl⟩
    try simp only [zt0, zt1, zt2, zt3, zt4, zt5, zt6, zt7, zt8, zt9, zt10, zt11, zt12, zt13] at ht42
    rw [← ht42]
    have f42 : FrV sh r0 [0] t t42 := by rw [ht42]; exact GI_m q0 (G) (by omega) (fun e => by first | omega | cases e) (fun e => by first | omega | cases e)
    have d42_0 : tg t42 r0 0 = 0 := by rw [ht42]; refine (tg_at (by omega)).trans ?_; first | exact if_pos rfl | exact if_neg (by decide) | (simp only [zt0, zt1, zt2, zt3, zt4, zt5, zt6, zt7, zt8, zt9, zt10, zt11, zt12, zt13, true_and, if_true])
    try simp only [zt0, zt1, zt2, zt3, zt4, zt5, zt6, zt7, zt8, zt9, zt10, zt11, zt12, zt13] at d42_0
    have e42_2 : ∀ k, tg t42 (sr sh r0 2) k = tg t (sr sh r0 2) k := fun k => f42.eq q0 (i := 2) (by decide) (by decide) k
    have e42_3 : ∀ k, tg t42 (sr sh r0 3) k = tg t (sr sh r0 3) k := fun k => f42.eq q0 (i := 3) (by decide) (by decide) k
    have e42_4 : ∀ k, tg t42 (sr sh r0 4) k = tg t (sr sh r0 4) k := fun k => f42.eq q0 (i := 4) (by decide) (by decide) k
    have e42_10 : ∀ k, tg t42 (sr sh r0 10) k = tg t (sr sh r0 10) k := fun k => f42.eq q0 (i := 10) (by decide) (by decide) k
    have e42_11 : ∀ k, tg t42 (sr sh r0 11) k = tg t (sr sh r0 11) k := fun k => f42.eq q0 (i := 11) (by decide) (by decide) k
    refine zok_ck ((q0).1) ?_
    first | refine zok_ne (by omega) (fun c43 => ?_) (fun c43 => ?_) | refine zok_if (fun c43 => ?_) (fun c43 => ?_)
    · refine zok_ck ((q0).1) ?_
      first | refine zok_ne (by omega) (fun c44 => ?_) (fun c44 => ?_) | refine zok_if (fun c44 => ?_) (fun c44 => ?_)
      · have g45_1 := And.intro (tg_lo (tI t42 (sr sh r0 2) (nN (oI 13)) (oI 0)) r0 0) (tg_hi (tI t42 (sr sh r0 2) (nN (oI 13)) (oI 0)) r0 0)
        simp only [zput_s, zput_n, ti_g, oI_add, oI_sub, oI_mul, zt0, zt1, zt2, zt3, zt4, zt5, zt6, zt7, zt8, zt9, zt10, zt11, zt12, zt13, e42_2, e42_3, e42_4, e42_10, e42_11, b165_55]
        try simp only [zput_s, zput_n, ti_g, oI_add, oI_sub, oI_mul]
        refine zok_ck ((q0).1) ?_
        refine zok_ck ⟨(by rw [(q0).2.2.2.2.2.1]), zin_o (by omega) (by omega) (by omega)⟩ ?_
        try rw [nN_o (a := 13) (by omega) (by omega)]
        try rw [show (13 : Int).toNat = 13 from rfl]
        try simp only [zput_s, zput_n, ti_g, oI_add, oI_sub, oI_mul, zt0, zt1, zt2, zt3, zt4, zt5, zt6, zt7, zt8, zt9, zt10, zt11, zt12, zt13, e42_2, e42_3, e42_4, e42_10, e42_11]
        obtain ⟨t46, ht46⟩ : ∃ t', t' = tI t42 (sr sh r0 2) (13) (oI (0)) := ⟨_, rfl⟩
        try simp only [zt0, zt1, zt2, zt3, zt4, zt5, zt6, zt7, zt8, zt9, zt10, zt11, zt12, zt13, e42_2, e42_3, e42_4, e42_10, e42_11] at ht46
        rw [← ht46]
        have f46 : FrV sh r0 [2] t42 t46 := by rw [ht46]; exact GI_sz q0 (f42.g) (by omega) (by omega)
        have w46 : ∀ k, tg t46 (sr sh r0 2) k = if k = 13 then 0 else tg t42 (sr sh r0 2) k := fun k => by rw [ht46]; refine (tg_at (by omega)).trans ?_; first | rfl | simp only [zt0, zt1, zt2, zt3, zt4, zt5, zt6, zt7, zt8, zt9, zt10, zt11, zt12, zt13, e42_2, e42_3, e42_4, e42_10, e42_11, true_and]
        have ws46 : tg t46 (sr sh r0 2) (13) = 0 := by rw [w46, if_pos rfl]
        try simp only [zt0, zt1, zt2, zt3, zt4, zt5, zt6, zt7, zt8, zt9, zt10, zt11, zt12, zt13, e42_2, e42_3, e42_4, e42_10, e42_11] at w46
        try simp only [zt0, zt1, zt2, zt3, zt4, zt5, zt6, zt7, zt8, zt9, zt10, zt11, zt12, zt13, e42_2, e42_3, e42_4, e42_10, e42_11] at ws46
        have e46_3 : ∀ k, tg t46 (sr sh r0 3) k = tg t42 (sr sh r0 3) k := fun k => f46.eq q0 (i := 3) (by decide) (by decide) k
        have e46_4 : ∀ k, tg t46 (sr sh r0 4) k = tg t42 (sr sh r0 4) k := fun k => f46.eq q0 (i := 4) (by decide) (by decide) k
        have e46_10 : ∀ k, tg t46 (sr sh r0 10) k = tg t42 (sr sh r0 10) k := fun k => f46.eq q0 (i := 10) (by decide) (by decide) k
        have e46_11 : ∀ k, tg t46 (sr sh r0 11) k = tg t42 (sr sh r0 11) k := fun k => f46.eq q0 (i := 11) (by decide) (by decide) k
        have d46_0 : tg t46 r0 0 = tg t42 r0 0 := f46.eq q0 (i := 0) (by decide) (by decide) 0
        refine zok_ck ((q0).1) ?_
        first | refine zok_le (by omega) (fun c47 => ?_) (fun c47 => ?_) | refine zok_if (fun c47 => ?_) (fun c47 => ?_)
        · refine zok_ck ((q0).1) ?_
          refine zok_ck ⟨(by rw [(q0).2.2.2.2.2.1]), zin_o (by omega) (by omega) (by omega)⟩ ?_
          try rw [nN_o (a := x1) (by omega) (by omega)]
          try simp only [zput_s, zput_n, ti_g, oI_add, oI_sub, oI_mul, zt0, zt1, zt2, zt3, zt4, zt5, zt6, zt7, zt8, zt9, zt10, zt11, zt12, zt13, e42_2, e42_3, e42_4, e42_10, e42_11, e46_3, e46_4, e46_10, e46_11]
          have gl48 := And.intro (tg_lo t46 (sr sh r0 2) ((x1).toNat)) (tg_hi t46 (sr sh r0 2) ((x1).toNat))
          have gm48 := (f46.g).1 ((x1).toNat) (by omega)
          try simp only [zt0, zt1, zt2, zt3, zt4, zt5, zt6, zt7, zt8, zt9, zt10, zt11, zt12, zt13, e42_2, e42_3, e42_4, e42_10, e42_11, e46_3, e46_4, e46_10, e46_11] at gl48
          try simp only [zt0, zt1, zt2, zt3, zt4, zt5, zt6, zt7, zt8, zt9, zt10, zt11, zt12, zt13, e42_2, e42_3, e42_4, e42_10, e42_11, e46_3, e46_4, e46_10, e46_11] at gm48
          first | exact qI_rt (by omega) (by omega) ⟨(FrV.trans (Ns := [0, 1, 2, 3, 4, 14]) ((FrV.trans (Ns := [0, 1, 2, 3, 4, 14]) (FrV.refl (Ls := []) G) f42 (by decide) (by decide))) f46 (by decide) (by decide)), by omega⟩ | exact qI_nf ⟨(FrV.trans (Ns := [0, 1, 2, 3, 4, 14]) ((FrV.trans (Ns := [0, 1, 2, 3, 4, 14]) (FrV.refl (Ls := []) G) f42 (by decide) (by decide))) f46 (by decide) (by decide)), by omega⟩
        · first | exact qI_rt (by omega) (by omega) ⟨(FrV.trans (Ns := [0, 1, 2, 3, 4, 14]) ((FrV.trans (Ns := [0, 1, 2, 3, 4, 14]) (FrV.refl (Ls := []) G) f42 (by decide) (by decide))) f46 (by decide) (by decide)), by omega⟩ | exact qI_nf ⟨(FrV.trans (Ns := [0, 1, 2, 3, 4, 14]) ((FrV.trans (Ns := [0, 1, 2, 3, 4, 14]) (FrV.refl (Ls := []) G) f42 (by decide) (by decide))) f46 (by decide) (by decide)), by omega⟩
      · refine zok_ck ((q0).1) ?_
        refine zok_c0 (s131 (q0) (by omega) (by omega) (by first | (omega) | ((try simp only [zt0, zt1, zt2, zt3, zt4, zt5, zt6, zt7, zt8, zt9, zt10, zt11, zt12, zt13, e42_2, e42_3, e42_4, e42_10, e42_11]); omega)) (by first | (omega) | ((try simp only [zt0, zt1, zt2, zt3, zt4, zt5, zt6, zt7, zt8, zt9, zt10, zt11, zt12, zt13, e42_2, e42_3, e42_4, e42_10, e42_11]); omega)) (by first | (omega) | ((try simp only [zt0, zt1, zt2, zt3, zt4, zt5, zt6, zt7, zt8, zt9, zt10, zt11, zt12, zt13, e42_2, e42_3, e42_4, e42_10, e42_11]); omega)) (f42.g)) (fun t49 p49 => ?_)
        obtain ⟨f49, p49⟩ := p49
        have e49_3 : ∀ k, tg t49 (sr sh r0 3) k = tg t42 (sr sh r0 3) k := fun k => f49.eq q0 (i := 3) (by decide) (by decide) k
        have e49_4 : ∀ k, tg t49 (sr sh r0 4) k = tg t42 (sr sh r0 4) k := fun k => f49.eq q0 (i := 4) (by decide) (by decide) k
        have e49_10 : ∀ k, tg t49 (sr sh r0 10) k = tg t42 (sr sh r0 10) k := fun k => f49.eq q0 (i := 10) (by decide) (by decide) k
        have e49_11 : ∀ k, tg t49 (sr sh r0 11) k = tg t42 (sr sh r0 11) k := fun k => f49.eq q0 (i := 11) (by decide) (by decide) k
        have d49_0 : tg t49 r0 0 = tg t42 r0 0 := f49.eq q0 (i := 0) (by decide) (by decide) 0
        try simp only [zt0, zt1, zt2, zt3, zt4, zt5, zt6, zt7, zt8, zt9, zt10, zt11, zt12, zt13, e42_2, e42_3, e42_4, e42_10, e42_11, e49_3, e49_4, e49_10, e49_11] at p49
        have g50_1 := And.intro (tg_lo (tI t49 (sr sh r0 2) (nN (oI 13)) (oI 0)) r0 0) (tg_hi (tI t49 (sr sh r0 2) (nN (oI 13)) (oI 0)) r0 0)
        simp only [zput_s, zput_n, ti_g, oI_add, oI_sub, oI_mul, zt0, zt1, zt2, zt3, zt4, zt5, zt6, zt7, zt8, zt9, zt10, zt11, zt12, zt13, e42_2, e42_3, e42_4, e42_10, e42_11, e49_3, e49_4, e49_10, e49_11, b165_55]
        try simp only [zput_s, zput_n, ti_g, oI_add, oI_sub, oI_mul]
        refine zok_ck ((q0).1) ?_
        refine zok_ck ⟨(by rw [(q0).2.2.2.2.2.1]), zin_o (by omega) (by omega) (by omega)⟩ ?_
        try rw [nN_o (a := 13) (by omega) (by omega)]
        try rw [show (13 : Int).toNat = 13 from rfl]
        try simp only [zput_s, zput_n, ti_g, oI_add, oI_sub, oI_mul, zt0, zt1, zt2, zt3, zt4, zt5, zt6, zt7, zt8, zt9, zt10, zt11, zt12, zt13, e42_2, e42_3, e42_4, e42_10, e42_11, e49_3, e49_4, e49_10, e49_11]
        obtain ⟨t51, ht51⟩ : ∃ t', t' = tI t49 (sr sh r0 2) (13) (oI (0)) := ⟨_, rfl⟩
        try simp only [zt0, zt1, zt2, zt3, zt4, zt5, zt6, zt7, zt8, zt9, zt10, zt11, zt12, zt13, e42_2, e42_3, e42_4, e42_10, e42_11, e49_3, e49_4, e49_10, e49_11] at ht51
        rw [← ht51]
        have f51 : FrV sh r0 [2] t49 t51 := by rw [ht51]; exact GI_sz q0 (f49.g) (by omega) (by omega)
        have w51 : ∀ k, tg t51 (sr sh r0 2) k = if k = 13 then 0 else tg t49 (sr sh r0 2) k := fun k => by rw [ht51]; refine (tg_at (by omega)).trans ?_; first | rfl | simp only [zt0, zt1, zt2, zt3, zt4, zt5, zt6, zt7, zt8, zt9, zt10, zt11, zt12, zt13, e42_2, e42_3, e42_4, e42_10, e42_11, e49_3, e49_4, e49_10, e49_11, true_and]
        have ws51 : tg t51 (sr sh r0 2) (13) = 0 := by rw [w51, if_pos rfl]
        try simp only [zt0, zt1, zt2, zt3, zt4, zt5, zt6, zt7, zt8, zt9, zt10, zt11, zt12, zt13, e42_2, e42_3, e42_4, e42_10, e42_11, e49_3, e49_4, e49_10, e49_11] at w51
        try simp only [zt0, zt1, zt2, zt3, zt4, zt5, zt6, zt7, zt8, zt9, zt10, zt11, zt12, zt13, e42_2, e42_3, e42_4, e42_10, e42_11, e49_3, e49_4, e49_10, e49_11] at ws51
        have e51_3 : ∀ k, tg t51 (sr sh r0 3) k = tg t49 (sr sh r0 3) k := fun k => f51.eq q0 (i := 3) (by decide) (by decide) k
        have e51_4 : ∀ k, tg t51 (sr sh r0 4) k = tg t49 (sr sh r0 4) k := fun k => f51.eq q0 (i := 4) (by decide) (by decide) k
        have e51_10 : ∀ k, tg t51 (sr sh r0 10) k = tg t49 (sr sh r0 10) k := fun k => f51.eq q0 (i := 10) (by decide) (by decide) k
        have e51_11 : ∀ k, tg t51 (sr sh r0 11) k = tg t49 (sr sh r0 11) k := fun k => f51.eq q0 (i := 11) (by decide) (by decide) k
        have d51_0 : tg t51 r0 0 = tg t49 r0 0 := f51.eq q0 (i := 0) (by decide) (by decide) 0
        refine zok_ck ((q0).1) ?_
        first | refine zok_le (by omega) (fun c52 => ?_) (fun c52 => ?_) | refine zok_if (fun c52 => ?_) (fun c52 => ?_)
        · refine zok_ck ((q0).1) ?_
          refine zok_ck ⟨(by rw [(q0).2.2.2.2.2.1]), zin_o (by omega) (by omega) (by omega)⟩ ?_
          try rw [nN_o (a := x1) (by omega) (by omega)]
          try simp only [zput_s, zput_n, ti_g, oI_add, oI_sub, oI_mul, zt0, zt1, zt2, zt3, zt4, zt5, zt6, zt7, zt8, zt9, zt10, zt11, zt12, zt13, e42_2, e42_3, e42_4, e42_10, e42_11, e49_3, e49_4, e49_10, e49_11, e51_3, e51_4, e51_10, e51_11]
          have gl53 := And.intro (tg_lo t51 (sr sh r0 2) ((x1).toNat)) (tg_hi t51 (sr sh r0 2) ((x1).toNat))
          have gm53 := (f51.g).1 ((x1).toNat) (by omega)
          try simp only [zt0, zt1, zt2, zt3, zt4, zt5, zt6, zt7, zt8, zt9, zt10, zt11, zt12, zt13, e42_2, e42_3, e42_4, e42_10, e42_11, e49_3, e49_4, e49_10, e49_11, e51_3, e51_4, e51_10, e51_11] at gl53
          try simp only [zt0, zt1, zt2, zt3, zt4, zt5, zt6, zt7, zt8, zt9, zt10, zt11, zt12, zt13, e42_2, e42_3, e42_4, e42_10, e42_11, e49_3, e49_4, e49_10, e49_11, e51_3, e51_4, e51_10, e51_11] at gm53
          first | exact qI_rt (by omega) (by omega) ⟨(FrV.trans (Ns := [0, 1, 2, 3, 4, 14]) ((FrV.trans (Ns := [0, 1, 2, 3, 4, 14]) ((FrV.trans (Ns := [0, 1, 2, 3, 4, 14]) (FrV.refl (Ls := []) G) f42 (by decide) (by decide))) f49 (by decide) (by decide))) f51 (by decide) (by decide)), by omega⟩ | exact qI_nf ⟨(FrV.trans (Ns := [0, 1, 2, 3, 4, 14]) ((FrV.trans (Ns := [0, 1, 2, 3, 4, 14]) ((FrV.trans (Ns := [0, 1, 2, 3, 4, 14]) (FrV.refl (Ls := []) G) f42 (by decide) (by decide))) f49 (by decide) (by decide))) f51 (by decide) (by decide)), by omega⟩
        · first | exact qI_rt (by omega) (by omega) ⟨(FrV.trans (Ns := [0, 1, 2, 3, 4, 14]) ((FrV.trans (Ns := [0, 1, 2, 3, 4, 14]) ((FrV.trans (Ns := [0, 1, 2, 3, 4, 14]) (FrV.refl (Ls := []) G) f42 (by decide) (by decide))) f49 (by decide) (by decide))) f51 (by decide) (by decide)), by omega⟩ | exact qI_nf ⟨(FrV.trans (Ns := [0, 1, 2, 3, 4, 14]) ((FrV.trans (Ns := [0, 1, 2, 3, 4, 14]) ((FrV.trans (Ns := [0, 1, 2, 3, 4, 14]) (FrV.refl (Ls := []) G) f42 (by decide) (by decide))) f49 (by decide) (by decide))) f51 (by decide) (by decide)), by omega⟩
    · refine zok_ck ((q0).1) ?_
      refine zok_cI (s151 (q0) (by omega) (by first | (omega) | ((try simp only [zt0, zt1, zt2, zt3, zt4, zt5, zt6, zt7, zt8, zt9, zt10, zt11, zt12, zt13, e42_2, e42_3, e42_4, e42_10, e42_11]); omega)) (by first | (omega) | ((try simp only [zt0, zt1, zt2, zt3, zt4, zt5, zt6, zt7, zt8, zt9, zt10, zt11, zt12, zt13, e42_2, e42_3, e42_4, e42_10, e42_11]); omega)) (f42.g)) (fun y54 t54 u54 p54 => ?_)
      obtain ⟨f54, p54⟩ := p54
      have e54_2 : ∀ k, tg t54 (sr sh r0 2) k = tg t42 (sr sh r0 2) k := fun k => f54.eq q0 (i := 2) (by decide) (by decide) k
      have e54_10 : ∀ k, tg t54 (sr sh r0 10) k = tg t42 (sr sh r0 10) k := fun k => f54.eq q0 (i := 10) (by decide) (by decide) k
      have e54_11 : ∀ k, tg t54 (sr sh r0 11) k = tg t42 (sr sh r0 11) k := fun k => f54.eq q0 (i := 11) (by decide) (by decide) k
      try simp only [zt0, zt1, zt2, zt3, zt4, zt5, zt6, zt7, zt8, zt9, zt10, zt11, zt12, zt13, e42_2, e42_3, e42_4, e42_10, e42_11, e54_2, e54_10, e54_11] at p54
      have g55_1 := And.intro (tg_lo (tI t54 r0 0 (oI 2)) r0 0) (tg_hi (tI t54 r0 0 (oI 2)) r0 0)
      have g55_2 := And.intro (tg_lo (tI t54 r0 0 (oI 0)) r0 0) (tg_hi (tI t54 r0 0 (oI 0)) r0 0)
      simp only [zput_s, zput_n, ti_g, oI_add, oI_sub, oI_mul, zt0, zt1, zt2, zt3, zt4, zt5, zt6, zt7, zt8, zt9, zt10, zt11, zt12, zt13, e42_2, e42_3, e42_4, e42_10, e42_11, e54_2, e54_10, e54_11, b165_30]
      try simp only [zput_s, zput_n, ti_g, oI_add, oI_sub, oI_mul]
      first | refine zok_eq (by omega) (fun c56 => ?_) (fun c56 => ?_) | refine zok_if (fun c56 => ?_) (fun c56 => ?_)
      · refine zok_ck (by first | exact ⟨(q0).1, fun e => by cases e⟩ | exact (q0).1) ?_
        obtain ⟨t57, ht57⟩ : ∃ t', t' = tI t54 r0 (0) (oI (2)) := ⟨_, rfl⟩
        try simp only [zt0, zt1, zt2, zt3, zt4, zt5, zt6, zt7, zt8, zt9, zt10, zt11, zt12, zt13, e42_2, e42_3, e42_4, e42_10, e42_11, e54_2, e54_10, e54_11] at ht57
        rw [← ht57]
        have f57 : FrV sh r0 [0] t54 t57 := by rw [ht57]; exact GI_m q0 (f54.g) (by omega) (fun e => by first | omega | cases e) (fun e => by first | omega | cases e)
        have d57_0 : tg t57 r0 0 = 2 := by rw [ht57]; refine (tg_at (by omega)).trans ?_; first | exact if_pos rfl | exact if_neg (by decide) | (simp only [zt0, zt1, zt2, zt3, zt4, zt5, zt6, zt7, zt8, zt9, zt10, zt11, zt12, zt13, e42_2, e42_3, e42_4, e42_10, e42_11, e54_2, e54_10, e54_11, true_and, if_true])
        try simp only [zt0, zt1, zt2, zt3, zt4, zt5, zt6, zt7, zt8, zt9, zt10, zt11, zt12, zt13, e42_2, e42_3, e42_4, e42_10, e42_11, e54_2, e54_10, e54_11] at d57_0
        have e57_2 : ∀ k, tg t57 (sr sh r0 2) k = tg t54 (sr sh r0 2) k := fun k => f57.eq q0 (i := 2) (by decide) (by decide) k
        have e57_3 : ∀ k, tg t57 (sr sh r0 3) k = tg t54 (sr sh r0 3) k := fun k => f57.eq q0 (i := 3) (by decide) (by decide) k
        have e57_4 : ∀ k, tg t57 (sr sh r0 4) k = tg t54 (sr sh r0 4) k := fun k => f57.eq q0 (i := 4) (by decide) (by decide) k
        have e57_10 : ∀ k, tg t57 (sr sh r0 10) k = tg t54 (sr sh r0 10) k := fun k => f57.eq q0 (i := 10) (by decide) (by decide) k
        have e57_11 : ∀ k, tg t57 (sr sh r0 11) k = tg t54 (sr sh r0 11) k := fun k => f57.eq q0 (i := 11) (by decide) (by decide) k
        refine zok_ck ((q0).1) ?_
        first | refine zok_ne (by omega) (fun c58 => ?_) (fun c58 => ?_) | refine zok_if (fun c58 => ?_) (fun c58 => ?_)
        · have g59_1 := And.intro (tg_lo (tI t57 (sr sh r0 2) (nN (oI 13)) (oI 0)) r0 0) (tg_hi (tI t57 (sr sh r0 2) (nN (oI 13)) (oI 0)) r0 0)
          simp only [zput_s, zput_n, ti_g, oI_add, oI_sub, oI_mul, zt0, zt1, zt2, zt3, zt4, zt5, zt6, zt7, zt8, zt9, zt10, zt11, zt12, zt13, e42_2, e42_3, e42_4, e42_10, e42_11, e54_2, e54_10, e54_11, e57_2, e57_3, e57_4, e57_10, e57_11, b165_55]
          try simp only [zput_s, zput_n, ti_g, oI_add, oI_sub, oI_mul]
          refine zok_ck ((q0).1) ?_
          refine zok_ck ⟨(by rw [(q0).2.2.2.2.2.1]), zin_o (by omega) (by omega) (by omega)⟩ ?_
          try rw [nN_o (a := 13) (by omega) (by omega)]
          try rw [show (13 : Int).toNat = 13 from rfl]
          try simp only [zput_s, zput_n, ti_g, oI_add, oI_sub, oI_mul, zt0, zt1, zt2, zt3, zt4, zt5, zt6, zt7, zt8, zt9, zt10, zt11, zt12, zt13, e42_2, e42_3, e42_4, e42_10, e42_11, e54_2, e54_10, e54_11, e57_2, e57_3, e57_4, e57_10, e57_11]
          obtain ⟨t60, ht60⟩ : ∃ t', t' = tI t57 (sr sh r0 2) (13) (oI (0)) := ⟨_, rfl⟩
          try simp only [zt0, zt1, zt2, zt3, zt4, zt5, zt6, zt7, zt8, zt9, zt10, zt11, zt12, zt13, e42_2, e42_3, e42_4, e42_10, e42_11, e54_2, e54_10, e54_11, e57_2, e57_3, e57_4, e57_10, e57_11] at ht60
          rw [← ht60]
          have f60 : FrV sh r0 [2] t57 t60 := by rw [ht60]; exact GI_sz q0 (f57.g) (by omega) (by omega)
          have w60 : ∀ k, tg t60 (sr sh r0 2) k = if k = 13 then 0 else tg t57 (sr sh r0 2) k := fun k => by rw [ht60]; refine (tg_at (by omega)).trans ?_; first | rfl | simp only [zt0, zt1, zt2, zt3, zt4, zt5, zt6, zt7, zt8, zt9, zt10, zt11, zt12, zt13, e42_2, e42_3, e42_4, e42_10, e42_11, e54_2, e54_10, e54_11, e57_2, e57_3, e57_4, e57_10, e57_11, true_and]
          have ws60 : tg t60 (sr sh r0 2) (13) = 0 := by rw [w60, if_pos rfl]
          try simp only [zt0, zt1, zt2, zt3, zt4, zt5, zt6, zt7, zt8, zt9, zt10, zt11, zt12, zt13, e42_2, e42_3, e42_4, e42_10, e42_11, e54_2, e54_10, e54_11, e57_2, e57_3, e57_4, e57_10, e57_11] at w60
          try simp only [zt0, zt1, zt2, zt3, zt4, zt5, zt6, zt7, zt8, zt9, zt10, zt11, zt12, zt13, e42_2, e42_3, e42_4, e42_10, e42_11, e54_2, e54_10, e54_11, e57_2, e57_3, e57_4, e57_10, e57_11] at ws60
          have e60_3 : ∀ k, tg t60 (sr sh r0 3) k = tg t57 (sr sh r0 3) k := fun k => f60.eq q0 (i := 3) (by decide) (by decide) k
          have e60_4 : ∀ k, tg t60 (sr sh r0 4) k = tg t57 (sr sh r0 4) k := fun k => f60.eq q0 (i := 4) (by decide) (by decide) k
          have e60_10 : ∀ k, tg t60 (sr sh r0 10) k = tg t57 (sr sh r0 10) k := fun k => f60.eq q0 (i := 10) (by decide) (by decide) k
          have e60_11 : ∀ k, tg t60 (sr sh r0 11) k = tg t57 (sr sh r0 11) k := fun k => f60.eq q0 (i := 11) (by decide) (by decide) k
          have d60_0 : tg t60 r0 0 = tg t57 r0 0 := f60.eq q0 (i := 0) (by decide) (by decide) 0
          refine zok_ck ((q0).1) ?_
          first | refine zok_le (by omega) (fun c61 => ?_) (fun c61 => ?_) | refine zok_if (fun c61 => ?_) (fun c61 => ?_)
          · refine zok_ck ((q0).1) ?_
            refine zok_ck ⟨(by rw [(q0).2.2.2.2.2.1]), zin_o (by omega) (by omega) (by omega)⟩ ?_
            try rw [nN_o (a := x1) (by omega) (by omega)]
            try simp only [zput_s, zput_n, ti_g, oI_add, oI_sub, oI_mul, zt0, zt1, zt2, zt3, zt4, zt5, zt6, zt7, zt8, zt9, zt10, zt11, zt12, zt13, e42_2, e42_3, e42_4, e42_10, e42_11, e54_2, e54_10, e54_11, e57_2, e57_3, e57_4, e57_10, e57_11, e60_3, e60_4, e60_10, e60_11]
            have gl62 := And.intro (tg_lo t60 (sr sh r0 2) ((x1).toNat)) (tg_hi t60 (sr sh r0 2) ((x1).toNat))
            have gm62 := (f60.g).1 ((x1).toNat) (by omega)
            try simp only [zt0, zt1, zt2, zt3, zt4, zt5, zt6, zt7, zt8, zt9, zt10, zt11, zt12, zt13, e42_2, e42_3, e42_4, e42_10, e42_11, e54_2, e54_10, e54_11, e57_2, e57_3, e57_4, e57_10, e57_11, e60_3, e60_4, e60_10, e60_11] at gl62
            try simp only [zt0, zt1, zt2, zt3, zt4, zt5, zt6, zt7, zt8, zt9, zt10, zt11, zt12, zt13, e42_2, e42_3, e42_4, e42_10, e42_11, e54_2, e54_10, e54_11, e57_2, e57_3, e57_4, e57_10, e57_11, e60_3, e60_4, e60_10, e60_11] at gm62
            first | exact qI_rt (by omega) (by omega) ⟨(FrV.trans (Ns := [0, 1, 2, 3, 4, 14]) ((FrV.trans (Ns := [0, 1, 2, 3, 4, 14]) ((FrV.trans (Ns := [0, 1, 2, 3, 4, 14]) ((FrV.trans (Ns := [0, 1, 2, 3, 4, 14]) (FrV.refl (Ls := []) G) f42 (by decide) (by decide))) f54 (by decide) (by decide))) f57 (by decide) (by decide))) f60 (by decide) (by decide)), by omega⟩ | exact qI_nf ⟨(FrV.trans (Ns := [0, 1, 2, 3, 4, 14]) ((FrV.trans (Ns := [0, 1, 2, 3, 4, 14]) ((FrV.trans (Ns := [0, 1, 2, 3, 4, 14]) ((FrV.trans (Ns := [0, 1, 2, 3, 4, 14]) (FrV.refl (Ls := []) G) f42 (by decide) (by decide))) f54 (by decide) (by decide))) f57 (by decide) (by decide))) f60 (by decide) (by decide)), by omega⟩
          · first | exact qI_rt (by omega) (by omega) ⟨(FrV.trans (Ns := [0, 1, 2, 3, 4, 14]) ((FrV.trans (Ns := [0, 1, 2, 3, 4, 14]) ((FrV.trans (Ns := [0, 1, 2, 3, 4, 14]) ((FrV.trans (Ns := [0, 1, 2, 3, 4, 14]) (FrV.refl (Ls := []) G) f42 (by decide) (by decide))) f54 (by decide) (by decide))) f57 (by decide) (by decide))) f60 (by decide) (by decide)), by omega⟩ | exact qI_nf ⟨(FrV.trans (Ns := [0, 1, 2, 3, 4, 14]) ((FrV.trans (Ns := [0, 1, 2, 3, 4, 14]) ((FrV.trans (Ns := [0, 1, 2, 3, 4, 14]) ((FrV.trans (Ns := [0, 1, 2, 3, 4, 14]) (FrV.refl (Ls := []) G) f42 (by decide) (by decide))) f54 (by decide) (by decide))) f57 (by decide) (by decide))) f60 (by decide) (by decide)), by omega⟩
        · refine zok_ck ((q0).1) ?_
          refine zok_c0 (s131 (q0) (by omega) (by omega) (by first | (omega) | ((try simp only [zt0, zt1, zt2, zt3, zt4, zt5, zt6, zt7, zt8, zt9, zt10, zt11, zt12, zt13, e42_2, e42_3, e42_4, e42_10, e42_11, e54_2, e54_10, e54_11, e57_2, e57_3, e57_4, e57_10, e57_11]); omega)) (by first | (omega) | ((try simp only [zt0, zt1, zt2, zt3, zt4, zt5, zt6, zt7, zt8, zt9, zt10, zt11, zt12, zt13, e42_2, e42_3, e42_4, e42_10, e42_11, e54_2, e54_10, e54_11, e57_2, e57_3, e57_4, e57_10, e57_11]); omega)) (by first | (omega) | ((try simp only [zt0, zt1, zt2, zt3, zt4, zt5, zt6, zt7, zt8, zt9, zt10, zt11, zt12, zt13, e42_2, e42_3, e42_4, e42_10, e42_11, e54_2, e54_10, e54_11, e57_2, e57_3, e57_4, e57_10, e57_11]); omega)) (f57.g)) (fun t63 p63 => ?_)
          obtain ⟨f63, p63⟩ := p63
          have e63_3 : ∀ k, tg t63 (sr sh r0 3) k = tg t57 (sr sh r0 3) k := fun k => f63.eq q0 (i := 3) (by decide) (by decide) k
          have e63_4 : ∀ k, tg t63 (sr sh r0 4) k = tg t57 (sr sh r0 4) k := fun k => f63.eq q0 (i := 4) (by decide) (by decide) k
          have e63_10 : ∀ k, tg t63 (sr sh r0 10) k = tg t57 (sr sh r0 10) k := fun k => f63.eq q0 (i := 10) (by decide) (by decide) k
          have e63_11 : ∀ k, tg t63 (sr sh r0 11) k = tg t57 (sr sh r0 11) k := fun k => f63.eq q0 (i := 11) (by decide) (by decide) k
          have d63_0 : tg t63 r0 0 = tg t57 r0 0 := f63.eq q0 (i := 0) (by decide) (by decide) 0
          try simp only [zt0, zt1, zt2, zt3, zt4, zt5, zt6, zt7, zt8, zt9, zt10, zt11, zt12, zt13, e42_2, e42_3, e42_4, e42_10, e42_11, e54_2, e54_10, e54_11, e57_2, e57_3, e57_4, e57_10, e57_11, e63_3, e63_4, e63_10, e63_11] at p63
          have g64_1 := And.intro (tg_lo (tI t63 (sr sh r0 2) (nN (oI 13)) (oI 0)) r0 0) (tg_hi (tI t63 (sr sh r0 2) (nN (oI 13)) (oI 0)) r0 0)
          simp only [zput_s, zput_n, ti_g, oI_add, oI_sub, oI_mul, zt0, zt1, zt2, zt3, zt4, zt5, zt6, zt7, zt8, zt9, zt10, zt11, zt12, zt13, e42_2, e42_3, e42_4, e42_10, e42_11, e54_2, e54_10, e54_11, e57_2, e57_3, e57_4, e57_10, e57_11, e63_3, e63_4, e63_10, e63_11, b165_55]
          try simp only [zput_s, zput_n, ti_g, oI_add, oI_sub, oI_mul]
          refine zok_ck ((q0).1) ?_
          refine zok_ck ⟨(by rw [(q0).2.2.2.2.2.1]), zin_o (by omega) (by omega) (by omega)⟩ ?_
          try rw [nN_o (a := 13) (by omega) (by omega)]
          try rw [show (13 : Int).toNat = 13 from rfl]
          try simp only [zput_s, zput_n, ti_g, oI_add, oI_sub, oI_mul, zt0, zt1, zt2, zt3, zt4, zt5, zt6, zt7, zt8, zt9, zt10, zt11, zt12, zt13, e42_2, e42_3, e42_4, e42_10, e42_11, e54_2, e54_10, e54_11, e57_2, e57_3, e57_4, e57_10, e57_11, e63_3, e63_4, e63_10, e63_11]
          obtain ⟨t65, ht65⟩ : ∃ t', t' = tI t63 (sr sh r0 2) (13) (oI (0)) := ⟨_, rfl⟩
          try simp only [zt0, zt1, zt2, zt3, zt4, zt5, zt6, zt7, zt8, zt9, zt10, zt11, zt12, zt13, e42_2, e42_3, e42_4, e42_10, e42_11, e54_2, e54_10, e54_11, e57_2, e57_3, e57_4, e57_10, e57_11, e63_3, e63_4, e63_10, e63_11] at ht65
          rw [← ht65]
          have f65 : FrV sh r0 [2] t63 t65 := by rw [ht65]; exact GI_sz q0 (f63.g) (by omega) (by omega)
          have w65 : ∀ k, tg t65 (sr sh r0 2) k = if k = 13 then 0 else tg t63 (sr sh r0 2) k := fun k => by rw [ht65]; refine (tg_at (by omega)).trans ?_; first | rfl | simp only [zt0, zt1, zt2, zt3, zt4, zt5, zt6, zt7, zt8, zt9, zt10, zt11, zt12, zt13, e42_2, e42_3, e42_4, e42_10, e42_11, e54_2, e54_10, e54_11, e57_2, e57_3, e57_4, e57_10, e57_11, e63_3, e63_4, e63_10, e63_11, true_and]
          have ws65 : tg t65 (sr sh r0 2) (13) = 0 := by rw [w65, if_pos rfl]
          try simp only [zt0, zt1, zt2, zt3, zt4, zt5, zt6, zt7, zt8, zt9, zt10, zt11, zt12, zt13, e42_2, e42_3, e42_4, e42_10, e42_11, e54_2, e54_10, e54_11, e57_2, e57_3, e57_4, e57_10, e57_11, e63_3, e63_4, e63_10, e63_11] at w65
          try simp only [zt0, zt1, zt2, zt3, zt4, zt5, zt6, zt7, zt8, zt9, zt10, zt11, zt12, zt13, e42_2, e42_3, e42_4, e42_10, e42_11, e54_2, e54_10, e54_11, e57_2, e57_3, e57_4, e57_10, e57_11, e63_3, e63_4, e63_10, e63_11] at ws65
          have e65_3 : ∀ k, tg t65 (sr sh r0 3) k = tg t63 (sr sh r0 3) k := fun k => f65.eq q0 (i := 3) (by decide) (by decide) k
          have e65_4 : ∀ k, tg t65 (sr sh r0 4) k = tg t63 (sr sh r0 4) k := fun k => f65.eq q0 (i := 4) (by decide) (by decide) k
          have e65_10 : ∀ k, tg t65 (sr sh r0 10) k = tg t63 (sr sh r0 10) k := fun k => f65.eq q0 (i := 10) (by decide) (by decide) k
          have e65_11 : ∀ k, tg t65 (sr sh r0 11) k = tg t63 (sr sh r0 11) k := fun k => f65.eq q0 (i := 11) (by decide) (by decide) k
          have d65_0 : tg t65 r0 0 = tg t63 r0 0 := f65.eq q0 (i := 0) (by decide) (by decide) 0
          refine zok_ck ((q0).1) ?_
          first | refine zok_le (by omega) (fun c66 => ?_) (fun c66 => ?_) | refine zok_if (fun c66 => ?_) (fun c66 => ?_)
          · refine zok_ck ((q0).1) ?_
            refine zok_ck ⟨(by rw [(q0).2.2.2.2.2.1]), zin_o (by omega) (by omega) (by omega)⟩ ?_
            try rw [nN_o (a := x1) (by omega) (by omega)]
            try simp only [zput_s, zput_n, ti_g, oI_add, oI_sub, oI_mul, zt0, zt1, zt2, zt3, zt4, zt5, zt6, zt7, zt8, zt9, zt10, zt11, zt12, zt13, e42_2, e42_3, e42_4, e42_10, e42_11, e54_2, e54_10, e54_11, e57_2, e57_3, e57_4, e57_10, e57_11, e63_3, e63_4, e63_10, e63_11, e65_3, e65_4, e65_10, e65_11]
            have gl67 := And.intro (tg_lo t65 (sr sh r0 2) ((x1).toNat)) (tg_hi t65 (sr sh r0 2) ((x1).toNat))
            have gm67 := (f65.g).1 ((x1).toNat) (by omega)
            try simp only [zt0, zt1, zt2, zt3, zt4, zt5, zt6, zt7, zt8, zt9, zt10, zt11, zt12, zt13, e42_2, e42_3, e42_4, e42_10, e42_11, e54_2, e54_10, e54_11, e57_2, e57_3, e57_4, e57_10, e57_11, e63_3, e63_4, e63_10, e63_11, e65_3, e65_4, e65_10, e65_11] at gl67
            try simp only [zt0, zt1, zt2, zt3, zt4, zt5, zt6, zt7, zt8, zt9, zt10, zt11, zt12, zt13, e42_2, e42_3, e42_4, e42_10, e42_11, e54_2, e54_10, e54_11, e57_2, e57_3, e57_4, e57_10, e57_11, e63_3, e63_4, e63_10, e63_11, e65_3, e65_4, e65_10, e65_11] at gm67
            first | exact qI_rt (by omega) (by omega) ⟨(FrV.trans (Ns := [0, 1, 2, 3, 4, 14]) ((FrV.trans (Ns := [0, 1, 2, 3, 4, 14]) ((FrV.trans (Ns := [0, 1, 2, 3, 4, 14]) ((FrV.trans (Ns := [0, 1, 2, 3, 4, 14]) ((FrV.trans (Ns := [0, 1, 2, 3, 4, 14]) (FrV.refl (Ls := []) G) f42 (by decide) (by decide))) f54 (by decide) (by decide))) f57 (by decide) (by decide))) f63 (by decide) (by decide))) f65 (by decide) (by decide)), by omega⟩ | exact qI_nf ⟨(FrV.trans (Ns := [0, 1, 2, 3, 4, 14]) ((FrV.trans (Ns := [0, 1, 2, 3, 4, 14]) ((FrV.trans (Ns := [0, 1, 2, 3, 4, 14]) ((FrV.trans (Ns := [0, 1, 2, 3, 4, 14]) ((FrV.trans (Ns := [0, 1, 2, 3, 4, 14]) (FrV.refl (Ls := []) G) f42 (by decide) (by decide))) f54 (by decide) (by decide))) f57 (by decide) (by decide))) f63 (by decide) (by decide))) f65 (by decide) (by decide)), by omega⟩
          · first | exact qI_rt (by omega) (by omega) ⟨(FrV.trans (Ns := [0, 1, 2, 3, 4, 14]) ((FrV.trans (Ns := [0, 1, 2, 3, 4, 14]) ((FrV.trans (Ns := [0, 1, 2, 3, 4, 14]) ((FrV.trans (Ns := [0, 1, 2, 3, 4, 14]) ((FrV.trans (Ns := [0, 1, 2, 3, 4, 14]) (FrV.refl (Ls := []) G) f42 (by decide) (by decide))) f54 (by decide) (by decide))) f57 (by decide) (by decide))) f63 (by decide) (by decide))) f65 (by decide) (by decide)), by omega⟩ | exact qI_nf ⟨(FrV.trans (Ns := [0, 1, 2, 3, 4, 14]) ((FrV.trans (Ns := [0, 1, 2, 3, 4, 14]) ((FrV.trans (Ns := [0, 1, 2, 3, 4, 14]) ((FrV.trans (Ns := [0, 1, 2, 3, 4, 14]) ((FrV.trans (Ns := [0, 1, 2, 3, 4, 14]) (FrV.refl (Ls := []) G) f42 (by decide) (by decide))) f54 (by decide) (by decide))) f57 (by decide) (by decide))) f63 (by decide) (by decide))) f65 (by decide) (by decide)), by omega⟩
      · refine zok_ck (by first | exact ⟨(q0).1, fun e => by cases e⟩ | exact (q0).1) ?_
        obtain ⟨t68, ht68⟩ : ∃ t', t' = tI t54 r0 (0) (oI (0)) := ⟨_, rfl⟩
        try simp only [zt0, zt1, zt2, zt3, zt4, zt5, zt6, zt7, zt8, zt9, zt10, zt11, zt12, zt13, e42_2, e42_3, e42_4, e42_10, e42_11, e54_2, e54_10, e54_11] at ht68
        rw [← ht68]
        have f68 : FrV sh r0 [0] t54 t68 := by rw [ht68]; exact GI_m q0 (f54.g) (by omega) (fun e => by first | omega | cases e) (fun e => by first | omega | cases e)
        have d68_0 : tg t68 r0 0 = 0 := by rw [ht68]; refine (tg_at (by omega)).trans ?_; first | exact if_pos rfl | exact if_neg (by decide) | (simp only [zt0, zt1, zt2, zt3, zt4, zt5, zt6, zt7, zt8, zt9, zt10, zt11, zt12, zt13, e42_2, e42_3, e42_4, e42_10, e42_11, e54_2, e54_10, e54_11, true_and, if_true])
        try simp only [zt0, zt1, zt2, zt3, zt4, zt5, zt6, zt7, zt8, zt9, zt10, zt11, zt12, zt13, e42_2, e42_3, e42_4, e42_10, e42_11, e54_2, e54_10, e54_11] at d68_0
        have e68_2 : ∀ k, tg t68 (sr sh r0 2) k = tg t54 (sr sh r0 2) k := fun k => f68.eq q0 (i := 2) (by decide) (by decide) k
        have e68_3 : ∀ k, tg t68 (sr sh r0 3) k = tg t54 (sr sh r0 3) k := fun k => f68.eq q0 (i := 3) (by decide) (by decide) k
        have e68_4 : ∀ k, tg t68 (sr sh r0 4) k = tg t54 (sr sh r0 4) k := fun k => f68.eq q0 (i := 4) (by decide) (by decide) k
        have e68_10 : ∀ k, tg t68 (sr sh r0 10) k = tg t54 (sr sh r0 10) k := fun k => f68.eq q0 (i := 10) (by decide) (by decide) k
        have e68_11 : ∀ k, tg t68 (sr sh r0 11) k = tg t54 (sr sh r0 11) k := fun k => f68.eq q0 (i := 11) (by decide) (by decide) k
        refine zok_ck ((q0).1) ?_
        first | refine zok_ne (by omega) (fun c69 => ?_) (fun c69 => ?_) | refine zok_if (fun c69 => ?_) (fun c69 => ?_)
        · have g70_1 := And.intro (tg_lo (tI t68 (sr sh r0 2) (nN (oI 13)) (oI 0)) r0 0) (tg_hi (tI t68 (sr sh r0 2) (nN (oI 13)) (oI 0)) r0 0)
          simp only [zput_s, zput_n, ti_g, oI_add, oI_sub, oI_mul, zt0, zt1, zt2, zt3, zt4, zt5, zt6, zt7, zt8, zt9, zt10, zt11, zt12, zt13, e42_2, e42_3, e42_4, e42_10, e42_11, e54_2, e54_10, e54_11, e68_2, e68_3, e68_4, e68_10, e68_11, b165_55]
          try simp only [zput_s, zput_n, ti_g, oI_add, oI_sub, oI_mul]
          refine zok_ck ((q0).1) ?_
          refine zok_ck ⟨(by rw [(q0).2.2.2.2.2.1]), zin_o (by omega) (by omega) (by omega)⟩ ?_
          try rw [nN_o (a := 13) (by omega) (by omega)]
          try rw [show (13 : Int).toNat = 13 from rfl]
          try simp only [zput_s, zput_n, ti_g, oI_add, oI_sub, oI_mul, zt0, zt1, zt2, zt3, zt4, zt5, zt6, zt7, zt8, zt9, zt10, zt11, zt12, zt13, e42_2, e42_3, e42_4, e42_10, e42_11, e54_2, e54_10, e54_11, e68_2, e68_3, e68_4, e68_10, e68_11]
          obtain ⟨t71, ht71⟩ : ∃ t', t' = tI t68 (sr sh r0 2) (13) (oI (0)) := ⟨_, rfl⟩
          try simp only [zt0, zt1, zt2, zt3, zt4, zt5, zt6, zt7, zt8, zt9, zt10, zt11, zt12, zt13, e42_2, e42_3, e42_4, e42_10, e42_11, e54_2, e54_10, e54_11, e68_2, e68_3, e68_4, e68_10, e68_11] at ht71
          rw [← ht71]
          have f71 : FrV sh r0 [2] t68 t71 := by rw [ht71]; exact GI_sz q0 (f68.g) (by omega) (by omega)
          have w71 : ∀ k, tg t71 (sr sh r0 2) k = if k = 13 then 0 else tg t68 (sr sh r0 2) k := fun k => by rw [ht71]; refine (tg_at (by omega)).trans ?_; first | rfl | simp only [zt0, zt1, zt2, zt3, zt4, zt5, zt6, zt7, zt8, zt9, zt10, zt11, zt12, zt13, e42_2, e42_3, e42_4, e42_10, e42_11, e54_2, e54_10, e54_11, e68_2, e68_3, e68_4, e68_10, e68_11, true_and]
          have ws71 : tg t71 (sr sh r0 2) (13) = 0 := by rw [w71, if_pos rfl]
          try simp only [zt0, zt1, zt2, zt3, zt4, zt5, zt6, zt7, zt8, zt9, zt10, zt11, zt12, zt13, e42_2, e42_3, e42_4, e42_10, e42_11, e54_2, e54_10, e54_11, e68_2, e68_3, e68_4, e68_10, e68_11] at w71
          try simp only [zt0, zt1, zt2, zt3, zt4, zt5, zt6, zt7, zt8, zt9, zt10, zt11, zt12, zt13, e42_2, e42_3, e42_4, e42_10, e42_11, e54_2, e54_10, e54_11, e68_2, e68_3, e68_4, e68_10, e68_11] at ws71
          have e71_3 : ∀ k, tg t71 (sr sh r0 3) k = tg t68 (sr sh r0 3) k := fun k => f71.eq q0 (i := 3) (by decide) (by decide) k
          have e71_4 : ∀ k, tg t71 (sr sh r0 4) k = tg t68 (sr sh r0 4) k := fun k => f71.eq q0 (i := 4) (by decide) (by decide) k
          have e71_10 : ∀ k, tg t71 (sr sh r0 10) k = tg t68 (sr sh r0 10) k := fun k => f71.eq q0 (i := 10) (by decide) (by decide) k
          have e71_11 : ∀ k, tg t71 (sr sh r0 11) k = tg t68 (sr sh r0 11) k := fun k => f71.eq q0 (i := 11) (by decide) (by decide) k
          have d71_0 : tg t71 r0 0 = tg t68 r0 0 := f71.eq q0 (i := 0) (by decide) (by decide) 0
          refine zok_ck ((q0).1) ?_
          first | refine zok_le (by omega) (fun c72 => ?_) (fun c72 => ?_) | refine zok_if (fun c72 => ?_) (fun c72 => ?_)
          · refine zok_ck ((q0).1) ?_
            refine zok_ck ⟨(by rw [(q0).2.2.2.2.2.1]), zin_o (by omega) (by omega) (by omega)⟩ ?_
            try rw [nN_o (a := x1) (by omega) (by omega)]
            try simp only [zput_s, zput_n, ti_g, oI_add, oI_sub, oI_mul, zt0, zt1, zt2, zt3, zt4, zt5, zt6, zt7, zt8, zt9, zt10, zt11, zt12, zt13, e42_2, e42_3, e42_4, e42_10, e42_11, e54_2, e54_10, e54_11, e68_2, e68_3, e68_4, e68_10, e68_11, e71_3, e71_4, e71_10, e71_11]
            have gl73 := And.intro (tg_lo t71 (sr sh r0 2) ((x1).toNat)) (tg_hi t71 (sr sh r0 2) ((x1).toNat))
            have gm73 := (f71.g).1 ((x1).toNat) (by omega)
            try simp only [zt0, zt1, zt2, zt3, zt4, zt5, zt6, zt7, zt8, zt9, zt10, zt11, zt12, zt13, e42_2, e42_3, e42_4, e42_10, e42_11, e54_2, e54_10, e54_11, e68_2, e68_3, e68_4, e68_10, e68_11, e71_3, e71_4, e71_10, e71_11] at gl73
            try simp only [zt0, zt1, zt2, zt3, zt4, zt5, zt6, zt7, zt8, zt9, zt10, zt11, zt12, zt13, e42_2, e42_3, e42_4, e42_10, e42_11, e54_2, e54_10, e54_11, e68_2, e68_3, e68_4, e68_10, e68_11, e71_3, e71_4, e71_10, e71_11] at gm73
            first | exact qI_rt (by omega) (by omega) ⟨(FrV.trans (Ns := [0, 1, 2, 3, 4, 14]) ((FrV.trans (Ns := [0, 1, 2, 3, 4, 14]) ((FrV.trans (Ns := [0, 1, 2, 3, 4, 14]) ((FrV.trans (Ns := [0, 1, 2, 3, 4, 14]) (FrV.refl (Ls := []) G) f42 (by decide) (by decide))) f54 (by decide) (by decide))) f68 (by decide) (by decide))) f71 (by decide) (by decide)), by omega⟩ | exact qI_nf ⟨(FrV.trans (Ns := [0, 1, 2, 3, 4, 14]) ((FrV.trans (Ns := [0, 1, 2, 3, 4, 14]) ((FrV.trans (Ns := [0, 1, 2, 3, 4, 14]) ((FrV.trans (Ns := [0, 1, 2, 3, 4, 14]) (FrV.refl (Ls := []) G) f42 (by decide) (by decide))) f54 (by decide) (by decide))) f68 (by decide) (by decide))) f71 (by decide) (by decide)), by omega⟩
          · first | exact qI_rt (by omega) (by omega) ⟨(FrV.trans (Ns := [0, 1, 2, 3, 4, 14]) ((FrV.trans (Ns := [0, 1, 2, 3, 4, 14]) ((FrV.trans (Ns := [0, 1, 2, 3, 4, 14]) ((FrV.trans (Ns := [0, 1, 2, 3, 4, 14]) (FrV.refl (Ls := []) G) f42 (by decide) (by decide))) f54 (by decide) (by decide))) f68 (by decide) (by decide))) f71 (by decide) (by decide)), by omega⟩ | exact qI_nf ⟨(FrV.trans (Ns := [0, 1, 2, 3, 4, 14]) ((FrV.trans (Ns := [0, 1, 2, 3, 4, 14]) ((FrV.trans (Ns := [0, 1, 2, 3, 4, 14]) ((FrV.trans (Ns := [0, 1, 2, 3, 4, 14]) (FrV.refl (Ls := []) G) f42 (by decide) (by decide))) f54 (by decide) (by decide))) f68 (by decide) (by decide))) f71 (by decide) (by decide)), by omega⟩
        · refine zok_ck ((q0).1) ?_
          refine zok_c0 (s131 (q0) (by omega) (by omega) (by first | (omega) | ((try simp only [zt0, zt1, zt2, zt3, zt4, zt5, zt6, zt7, zt8, zt9, zt10, zt11, zt12, zt13, e42_2, e42_3, e42_4, e42_10, e42_11, e54_2, e54_10, e54_11, e68_2, e68_3, e68_4, e68_10, e68_11]); omega)) (by first | (omega) | ((try simp only [zt0, zt1, zt2, zt3, zt4, zt5, zt6, zt7, zt8, zt9, zt10, zt11, zt12, zt13, e42_2, e42_3, e42_4, e42_10, e42_11, e54_2, e54_10, e54_11, e68_2, e68_3, e68_4, e68_10, e68_11]); omega)) (by first | (omega) | ((try simp only [zt0, zt1, zt2, zt3, zt4, zt5, zt6, zt7, zt8, zt9, zt10, zt11, zt12, zt13, e42_2, e42_3, e42_4, e42_10, e42_11, e54_2, e54_10, e54_11, e68_2, e68_3, e68_4, e68_10, e68_11]); omega)) (f68.g)) (fun t74 p74 => ?_)
          obtain ⟨f74, p74⟩ := p74
          have e74_3 : ∀ k, tg t74 (sr sh r0 3) k = tg t68 (sr sh r0 3) k := fun k => f74.eq q0 (i := 3) (by decide) (by decide) k
          have e74_4 : ∀ k, tg t74 (sr sh r0 4) k = tg t68 (sr sh r0 4) k := fun k => f74.eq q0 (i := 4) (by decide) (by decide) k
          have e74_10 : ∀ k, tg t74 (sr sh r0 10) k = tg t68 (sr sh r0 10) k := fun k => f74.eq q0 (i := 10) (by decide) (by decide) k
          have e74_11 : ∀ k, tg t74 (sr sh r0 11) k = tg t68 (sr sh r0 11) k := fun k => f74.eq q0 (i := 11) (by decide) (by decide) k
          have d74_0 : tg t74 r0 0 = tg t68 r0 0 := f74.eq q0 (i := 0) (by decide) (by decide) 0
          try simp only [zt0, zt1, zt2, zt3, zt4, zt5, zt6, zt7, zt8, zt9, zt10, zt11, zt12, zt13, e42_2, e42_3, e42_4, e42_10, e42_11, e54_2, e54_10, e54_11, e68_2, e68_3, e68_4, e68_10, e68_11, e74_3, e74_4, e74_10, e74_11] at p74
          have g75_1 := And.intro (tg_lo (tI t74 (sr sh r0 2) (nN (oI 13)) (oI 0)) r0 0) (tg_hi (tI t74 (sr sh r0 2) (nN (oI 13)) (oI 0)) r0 0)
          simp only [zput_s, zput_n, ti_g, oI_add, oI_sub, oI_mul, zt0, zt1, zt2, zt3, zt4, zt5, zt6, zt7, zt8, zt9, zt10, zt11, zt12, zt13, e42_2, e42_3, e42_4, e42_10, e42_11, e54_2, e54_10, e54_11, e68_2, e68_3, e68_4, e68_10, e68_11, e74_3, e74_4, e74_10, e74_11, b165_55]
          try simp only [zput_s, zput_n, ti_g, oI_add, oI_sub, oI_mul]
          refine zok_ck ((q0).1) ?_
          refine zok_ck ⟨(by rw [(q0).2.2.2.2.2.1]), zin_o (by omega) (by omega) (by omega)⟩ ?_
          try rw [nN_o (a := 13) (by omega) (by omega)]
          try rw [show (13 : Int).toNat = 13 from rfl]
          try simp only [zput_s, zput_n, ti_g, oI_add, oI_sub, oI_mul, zt0, zt1, zt2, zt3, zt4, zt5, zt6, zt7, zt8, zt9, zt10, zt11, zt12, zt13, e42_2, e42_3, e42_4, e42_10, e42_11, e54_2, e54_10, e54_11, e68_2, e68_3, e68_4, e68_10, e68_11, e74_3, e74_4, e74_10, e74_11]
          obtain ⟨t76, ht76⟩ : ∃ t', t' = tI t74 (sr sh r0 2) (13) (oI (0)) := ⟨_, rfl⟩
          try simp only [zt0, zt1, zt2, zt3, zt4, zt5, zt6, zt7, zt8, zt9, zt10, zt11, zt12, zt13, e42_2, e42_3, e42_4, e42_10, e42_11, e54_2, e54_10, e54_11, e68_2, e68_3, e68_4, e68_10, e68_11, e74_3, e74_4, e74_10, e74_11] at ht76
          rw [← ht76]
          have f76 : FrV sh r0 [2] t74 t76 := by rw [ht76]; exact GI_sz q0 (f74.g) (by omega) (by omega)
          have w76 : ∀ k, tg t76 (sr sh r0 2) k = if k = 13 then 0 else tg t74 (sr sh r0 2) k := fun k => by rw [ht76]; refine (tg_at (by omega)).trans ?_; first | rfl | simp only [zt0, zt1, zt2, zt3, zt4, zt5, zt6, zt7, zt8, zt9, zt10, zt11, zt12, zt13, e42_2, e42_3, e42_4, e42_10, e42_11, e54_2, e54_10, e54_11, e68_2, e68_3, e68_4, e68_10, e68_11, e74_3, e74_4, e74_10, e74_11, true_and]
          have ws76 : tg t76 (sr sh r0 2) (13) = 0 := by rw [w76, if_pos rfl]
          try simp only [zt0, zt1, zt2, zt3, zt4, zt5, zt6, zt7, zt8, zt9, zt10, zt11, zt12, zt13, e42_2, e42_3, e42_4, e42_10, e42_11, e54_2, e54_10, e54_11, e68_2, e68_3, e68_4, e68_10, e68_11, e74_3, e74_4, e74_10, e74_11] at w76
          try simp only [zt0, zt1, zt2, zt3, zt4, zt5, zt6, zt7, zt8, zt9, zt10, zt11, zt12, zt13, e42_2, e42_3, e42_4, e42_10, e42_11, e54_2, e54_10, e54_11, e68_2, e68_3, e68_4, e68_10, e68_11, e74_3, e74_4, e74_10, e74_11] at ws76
          have e76_3 : ∀ k, tg t76 (sr sh r0 3) k = tg t74 (sr sh r0 3) k := fun k => f76.eq q0 (i := 3) (by decide) (by decide) k
          have e76_4 : ∀ k, tg t76 (sr sh r0 4) k = tg t74 (sr sh r0 4) k := fun k => f76.eq q0 (i := 4) (by decide) (by decide) k
          have e76_10 : ∀ k, tg t76 (sr sh r0 10) k = tg t74 (sr sh r0 10) k := fun k => f76.eq q0 (i := 10) (by decide) (by decide) k
          have e76_11 : ∀ k, tg t76 (sr sh r0 11) k = tg t74 (sr sh r0 11) k := fun k => f76.eq q0 (i := 11) (by decide) (by decide) k
          have d76_0 : tg t76 r0 0 = tg t74 r0 0 := f76.eq q0 (i := 0) (by decide) (by decide) 0
          refine zok_ck ((q0).1) ?_
          first | refine zok_le (by omega) (fun c77 => ?_) (fun c77 => ?_) | refine zok_if (fun c77 => ?_) (fun c77 => ?_)
          · refine zok_ck ((q0).1) ?_
            refine zok_ck ⟨(by rw [(q0).2.2.2.2.2.1]), zin_o (by omega) (by omega) (by omega)⟩ ?_
            try rw [nN_o (a := x1) (by omega) (by omega)]
            try simp only [zput_s, zput_n, ti_g, oI_add, oI_sub, oI_mul, zt0, zt1, zt2, zt3, zt4, zt5, zt6, zt7, zt8, zt9, zt10, zt11, zt12, zt13, e42_2, e42_3, e42_4, e42_10, e42_11, e54_2, e54_10, e54_11, e68_2, e68_3, e68_4, e68_10, e68_11, e74_3, e74_4, e74_10, e74_11, e76_3, e76_4, e76_10, e76_11]
            have gl78 := And.intro (tg_lo t76 (sr sh r0 2) ((x1).toNat)) (tg_hi t76 (sr sh r0 2) ((x1).toNat))
            have gm78 := (f76.g).1 ((x1).toNat) (by omega)
            try simp only [zt0, zt1, zt2, zt3, zt4, zt5, zt6, zt7, zt8, zt9, zt10, zt11, zt12, zt13, e42_2, e42_3, e42_4, e42_10, e42_11, e54_2, e54_10, e54_11, e68_2, e68_3, e68_4, e68_10, e68_11, e74_3, e74_4, e74_10, e74_11, e76_3, e76_4, e76_10, e76_11] at gl78
            try simp only [zt0, zt1, zt2, zt3, zt4, zt5, zt6, zt7, zt8, zt9, zt10, zt11, zt12, zt13, e42_2, e42_3, e42_4, e42_10, e42_11, e54_2, e54_10, e54_11, e68_2, e68_3, e68_4, e68_10, e68_11, e74_3, e74_4, e74_10, e74_11, e76_3, e76_4, e76_10, e76_11] at gm78
            first | exact qI_rt (by omega) (by omega) ⟨(FrV.trans (Ns := [0, 1, 2, 3, 4, 14]) ((FrV.trans (Ns := [0, 1, 2, 3, 4, 14]) ((FrV.trans (Ns := [0, 1, 2, 3, 4, 14]) ((FrV.trans (Ns := [0, 1, 2, 3, 4, 14]) ((FrV.trans (Ns := [0, 1, 2, 3, 4, 14]) (FrV.refl (Ls := []) G) f42 (by decide) (by decide))) f54 (by decide) (by decide))) f68 (by decide) (by decide))) f74 (by decide) (by decide))) f76 (by decide) (by decide)), by omega⟩ | exact qI_nf ⟨(FrV.trans (Ns := [0, 1, 2, 3, 4, 14]) ((FrV.trans (Ns := [0, 1, 2, 3, 4, 14]) ((FrV.trans (Ns := [0, 1, 2, 3, 4, 14]) ((FrV.trans (Ns := [0, 1, 2, 3, 4, 14]) ((FrV.trans (Ns := [0, 1, 2, 3, 4, 14]) (FrV.refl (Ls := []) G) f42 (by decide) (by decide))) f54 (by decide) (by decide))) f68 (by decide) (by decide))) f74 (by decide) (by decide))) f76 (by decide) (by decide)), by omega⟩
          · first | exact qI_rt (by omega) (by omega) ⟨(FrV.trans (Ns := [0, 1, 2, 3, 4, 14]) ((FrV.trans (Ns := [0, 1, 2, 3, 4, 14]) ((FrV.trans (Ns := [0, 1, 2, 3, 4, 14]) ((FrV.trans (Ns := [0, 1, 2, 3, 4, 14]) ((FrV.trans (Ns := [0, 1, 2, 3, 4, 14]) (FrV.refl (Ls := []) G) f42 (by decide) (by decide))) f54 (by decide) (by decide))) f68 (by decide) (by decide))) f74 (by decide) (by decide))) f76 (by decide) (by decide)), by omega⟩ | exact qI_nf ⟨(FrV.trans (Ns := [0, 1, 2, 3, 4, 14]) ((FrV.trans (Ns := [0, 1, 2, 3, 4, 14]) ((FrV.trans (Ns := [0, 1, 2, 3, 4, 14]) ((FrV.trans (Ns := [0, 1, 2, 3, 4, 14]) ((FrV.trans (Ns := [0, 1, 2, 3, 4, 14]) (FrV.refl (Ls := []) G) f42 (by decide) (by decide))) f54 (by decide) (by decide))) f68 (by decide) (by decide))) f74 (by decide) (by decide))) f76 (by decide) (by decide)), by omega⟩
