set_option maxRecDepth 16384
/-! X9_isRight -/
theorem s151 {sh : zSh} {t : zSt} {MB : Nat} {r0 : Nat} (q0 : zMd sh MB r0) {x1 : Int} (u1 : -2147483648 ≤ x1 ∧ x1 ≤ 2147483647) (d1 : 0 ≤ x1 ∧ x1 ≤ 13) (d2 : tg t (sr sh r0 2) (x1).toNat ≤ 400) (G : GI sh r0 t) : zok (zcl zP 151 [zR r0, zI (oI x1)] (sh, t)) (qI (fun x t' => FrV sh r0 [0, 3, 4, 14] t t' ∧ (x = 0 ∨ x = 1)) sh) := by
  have ha0_1 : (sk sh (sr sh r0 1)).2 = 21000 := by rw [q0.2.2.2.2.1]
  have ha0_2 : (sk sh (sr sh r0 2)).2 = 14 := by rw [q0.2.2.2.2.2.1]
  have ha0_3 : (sk sh (sr sh r0 3)).2 = 98 := by rw [q0.2.2.2.2.2.2.1]
  have ha0_4 : (sk sh (sr sh r0 4)).2 = 98 := by rw [q0.2.2.2.2.2.2.2.1]
  have ha0_8 : (sk sh (sr sh r0 8)).2 = 1500 := by rw [q0.2.2.2.2.2.2.2.2.1]
  have ha0_9 : (sk sh (sr sh r0 9)).2 = 10500 := by rw [q0.2.2.2.2.2.2.2.2.2.1]
  have ha0_10 : (sk sh (sr sh r0 10)).2 = 7 := by rw [q0.2.2.2.2.2.2.2.2.2.2.1]
  have ha0_11 : (sk sh (sr sh r0 11)).2 = 7 := by rw [q0.2.2.2.2.2.2.2.2.2.2.2.1]
  have ha0_12 : (sk sh (sr sh r0 12)).2 = 1500 := by rw [q0.2.2.2.2.2.2.2.2.2.2.2.2.1]
  have ha0_13 : (sk sh (sr sh r0 13)).2 = 1500 := by rw [q0.2.2.2.2.2.2.2.2.2.2.2.2.2.1]
  have ha0_14 : (sk sh (sr sh r0 14)).2 = 20 := by rw [q0.2.2.2.2.2.2.2.2.2.2.2.2.2.2]
  rw [b151_0]
  try simp only [zput_s, zput_n, ti_g, oI_add, oI_sub, oI_mul]
  refine zok_ck ((q0).1) ?_
  refine zok_c0 (s138 (q0) (by omega) (by first | (omega) | ((try simp only [zt0, zt1, zt2, zt3, zt4, zt5, zt6]); omega)) (by first | (omega) | ((try simp only [zt0, zt1, zt2, zt3, zt4, zt5, zt6]); omega)) (G)) (fun t2 p2 => ?_)
  obtain ⟨f2, p2⟩ := p2
  have e2_2 : ∀ k, tg t2 (sr sh r0 2) k = tg t (sr sh r0 2) k := fun k => f2.eq q0 (i := 2) (by decide) (by decide) k
  have e2_10 : ∀ k, tg t2 (sr sh r0 10) k = tg t (sr sh r0 10) k := fun k => f2.eq q0 (i := 10) (by decide) (by decide) k
  have e2_11 : ∀ k, tg t2 (sr sh r0 11) k = tg t (sr sh r0 11) k := fun k => f2.eq q0 (i := 11) (by decide) (by decide) k
  have d2_5 : tg t2 r0 5 = tg t r0 5 := f2.eq q0 (i := 0) (by decide) (by decide) 5
  have d2_6 : tg t2 r0 6 = tg t r0 6 := f2.eq q0 (i := 0) (by decide) (by decide) 6
  try simp only [zt0, zt1, zt2, zt3, zt4, zt5, zt6, e2_2, e2_10, e2_11] at p2
  simp only [zput_s, zput_n, ti_g, oI_add, oI_sub, oI_mul, zt0, zt1, zt2, zt3, zt4, zt5, zt6, e2_2, e2_10, e2_11, b151_5]
  try simp only [zput_s, zput_n, ti_g, oI_add, oI_sub, oI_mul]
  refine zok_ck (by first | exact ⟨(q0).1, fun e => by cases e⟩ | exact (q0).1) ?_
  obtain ⟨t4, ht4⟩ : ∃ t', t' = tI t2 r0 (5) (oI (0)) := ⟨_, rfl⟩
  try simp only [zt0, zt1, zt2, zt3, zt4, zt5, zt6, e2_2, e2_10, e2_11] at ht4
  rw [← ht4]
  have f4 : FrV sh r0 [0] t2 t4 := by rw [ht4]; exact GI_m q0 (f2.g) (by omega) (fun e => by first | omega | cases e) (fun e => by first | omega | cases e)
  have d4_5 : tg t4 r0 5 = 0 := by rw [ht4]; refine (tg_at (by omega)).trans ?_; first | exact if_pos rfl | exact if_neg (by decide) | (simp only [zt0, zt1, zt2, zt3, zt4, zt5, zt6, e2_2, e2_10, e2_11, true_and, if_true])
  have d4_6 : tg t4 r0 6 = tg t2 r0 6 := by rw [ht4]; refine (tg_at (by omega)).trans ?_; first | exact if_pos rfl | exact if_neg (by decide) | (simp only [zt0, zt1, zt2, zt3, zt4, zt5, zt6, e2_2, e2_10, e2_11, true_and, if_true])
  try simp only [zt0, zt1, zt2, zt3, zt4, zt5, zt6, e2_2, e2_10, e2_11] at d4_5
  try simp only [zt0, zt1, zt2, zt3, zt4, zt5, zt6, e2_2, e2_10, e2_11] at d4_6
  have e4_2 : ∀ k, tg t4 (sr sh r0 2) k = tg t2 (sr sh r0 2) k := fun k => f4.eq q0 (i := 2) (by decide) (by decide) k
  have e4_3 : ∀ k, tg t4 (sr sh r0 3) k = tg t2 (sr sh r0 3) k := fun k => f4.eq q0 (i := 3) (by decide) (by decide) k
  have e4_4 : ∀ k, tg t4 (sr sh r0 4) k = tg t2 (sr sh r0 4) k := fun k => f4.eq q0 (i := 4) (by decide) (by decide) k
  have e4_10 : ∀ k, tg t4 (sr sh r0 10) k = tg t2 (sr sh r0 10) k := fun k => f4.eq q0 (i := 10) (by decide) (by decide) k
  have e4_11 : ∀ k, tg t4 (sr sh r0 11) k = tg t2 (sr sh r0 11) k := fun k => f4.eq q0 (i := 11) (by decide) (by decide) k
  refine zok_ck (by first | exact ⟨(q0).1, fun e => by cases e⟩ | exact (q0).1) ?_
  obtain ⟨t5, ht5⟩ : ∃ t', t' = tI t4 r0 (6) (oI (0)) := ⟨_, rfl⟩
  try simp only [zt0, zt1, zt2, zt3, zt4, zt5, zt6, e2_2, e2_10, e2_11, e4_2, e4_3, e4_4, e4_10, e4_11] at ht5
  rw [← ht5]
  have f5 : FrV sh r0 [0] t4 t5 := by rw [ht5]; exact GI_m q0 (f4.g) (by omega) (fun e => by first | omega | cases e) (fun e => by first | omega | cases e)
  have d5_5 : tg t5 r0 5 = tg t4 r0 5 := by rw [ht5]; refine (tg_at (by omega)).trans ?_; first | exact if_pos rfl | exact if_neg (by decide) | (simp only [zt0, zt1, zt2, zt3, zt4, zt5, zt6, e2_2, e2_10, e2_11, e4_2, e4_3, e4_4, e4_10, e4_11, true_and, if_true])
  have d5_6 : tg t5 r0 6 = 0 := by rw [ht5]; refine (tg_at (by omega)).trans ?_; first | exact if_pos rfl | exact if_neg (by decide) | (simp only [zt0, zt1, zt2, zt3, zt4, zt5, zt6, e2_2, e2_10, e2_11, e4_2, e4_3, e4_4, e4_10, e4_11, true_and, if_true])
  try simp only [zt0, zt1, zt2, zt3, zt4, zt5, zt6, e2_2, e2_10, e2_11, e4_2, e4_3, e4_4, e4_10, e4_11] at d5_5
  try simp only [zt0, zt1, zt2, zt3, zt4, zt5, zt6, e2_2, e2_10, e2_11, e4_2, e4_3, e4_4, e4_10, e4_11] at d5_6
  have e5_2 : ∀ k, tg t5 (sr sh r0 2) k = tg t4 (sr sh r0 2) k := fun k => f5.eq q0 (i := 2) (by decide) (by decide) k
  have e5_3 : ∀ k, tg t5 (sr sh r0 3) k = tg t4 (sr sh r0 3) k := fun k => f5.eq q0 (i := 3) (by decide) (by decide) k
  have e5_4 : ∀ k, tg t5 (sr sh r0 4) k = tg t4 (sr sh r0 4) k := fun k => f5.eq q0 (i := 4) (by decide) (by decide) k
  have e5_10 : ∀ k, tg t5 (sr sh r0 10) k = tg t4 (sr sh r0 10) k := fun k => f5.eq q0 (i := 10) (by decide) (by decide) k
  have e5_11 : ∀ k, tg t5 (sr sh r0 11) k = tg t4 (sr sh r0 11) k := fun k => f5.eq q0 (i := 11) (by decide) (by decide) k
  refine zok_ck ((q0).1) ?_
  refine zok_c0 (s146 (q0) (by omega) (by first | (omega) | ((try simp only [zt0, zt1, zt2, zt3, zt4, zt5, zt6, e2_2, e2_10, e2_11, e4_2, e4_3, e4_4, e4_10, e4_11, e5_2, e5_3, e5_4, e5_10, e5_11]); omega)) (f5.g)) (fun t6 p6 => ?_)
  obtain ⟨f6, p6⟩ := p6
  have e6_2 : ∀ k, tg t6 (sr sh r0 2) k = tg t5 (sr sh r0 2) k := fun k => f6.eq q0 (i := 2) (by decide) (by decide) k
  have e6_3 : ∀ k, tg t6 (sr sh r0 3) k = tg t5 (sr sh r0 3) k := fun k => f6.eq q0 (i := 3) (by decide) (by decide) k
  have e6_4 : ∀ k, tg t6 (sr sh r0 4) k = tg t5 (sr sh r0 4) k := fun k => f6.eq q0 (i := 4) (by decide) (by decide) k
  have e6_10 : ∀ k, tg t6 (sr sh r0 10) k = tg t5 (sr sh r0 10) k := fun k => f6.eq q0 (i := 10) (by decide) (by decide) k
  have e6_11 : ∀ k, tg t6 (sr sh r0 11) k = tg t5 (sr sh r0 11) k := fun k => f6.eq q0 (i := 11) (by decide) (by decide) k
  try simp only [zt0, zt1, zt2, zt3, zt4, zt5, zt6, e2_2, e2_10, e2_11, e4_2, e4_3, e4_4, e4_10, e4_11, e5_2, e5_3, e5_4, e5_10, e5_11, e6_2, e6_3, e6_4, e6_10, e6_11] at p6
  have g7_1 := And.intro (tg_lo t6 r0 5) (tg_hi t6 r0 5)
  simp only [zput_s, zput_n, ti_g, oI_add, oI_sub, oI_mul, zt0, zt1, zt2, zt3, zt4, zt5, zt6, e2_2, e2_10, e2_11, e4_2, e4_3, e4_4, e4_10, e4_11, e5_2, e5_3, e5_4, e5_10, e5_11, e6_2, e6_3, e6_4, e6_10, e6_11, b151_20]
  try simp only [zput_s, zput_n, ti_g, oI_add, oI_sub, oI_mul]
  refine zok_ck ((q0).1) ?_
  first | refine zok_ne (by omega) (fun c8 => ?_) (fun c8 => ?_) | refine zok_if (fun c8 => ?_) (fun c8 => ?_)
  · simp only [zput_s, zput_n, ti_g, oI_add, oI_sub, oI_mul, zt0, zt1, zt2, zt3, zt4, zt5, zt6, e2_2, e2_10, e2_11, e4_2, e4_3, e4_4, e4_10, e4_11, e5_2, e5_3, e5_4, e5_10, e5_11, e6_2, e6_3, e6_4, e6_10, e6_11, b151_32]
    try simp only [zput_s, zput_n, ti_g, oI_add, oI_sub, oI_mul]
    refine zok_ck ((q0).1) ?_
    refine zok_c0 (s149 (q0) (by omega) (by first | (omega) | ((try simp only [zt0, zt1, zt2, zt3, zt4, zt5, zt6, e2_2, e2_10, e2_11, e4_2, e4_3, e4_4, e4_10, e4_11, e5_2, e5_3, e5_4, e5_10, e5_11, e6_2, e6_3, e6_4, e6_10, e6_11]); omega)) (by first | (omega) | ((try simp only [zt0, zt1, zt2, zt3, zt4, zt5, zt6, e2_2, e2_10, e2_11, e4_2, e4_3, e4_4, e4_10, e4_11, e5_2, e5_3, e5_4, e5_10, e5_11, e6_2, e6_3, e6_4, e6_10, e6_11]); omega)) (f6.g)) (fun t10 p10 => ?_)
    obtain ⟨f10, p10⟩ := p10
    have e10_2 : ∀ k, tg t10 (sr sh r0 2) k = tg t6 (sr sh r0 2) k := fun k => f10.eq q0 (i := 2) (by decide) (by decide) k
    have e10_3 : ∀ k, tg t10 (sr sh r0 3) k = tg t6 (sr sh r0 3) k := fun k => f10.eq q0 (i := 3) (by decide) (by decide) k
    have e10_4 : ∀ k, tg t10 (sr sh r0 4) k = tg t6 (sr sh r0 4) k := fun k => f10.eq q0 (i := 4) (by decide) (by decide) k
    have e10_10 : ∀ k, tg t10 (sr sh r0 10) k = tg t6 (sr sh r0 10) k := fun k => f10.eq q0 (i := 10) (by decide) (by decide) k
    have e10_11 : ∀ k, tg t10 (sr sh r0 11) k = tg t6 (sr sh r0 11) k := fun k => f10.eq q0 (i := 11) (by decide) (by decide) k
    try simp only [zt0, zt1, zt2, zt3, zt4, zt5, zt6, e2_2, e2_10, e2_11, e4_2, e4_3, e4_4, e4_10, e4_11, e5_2, e5_3, e5_4, e5_10, e5_11, e6_2, e6_3, e6_4, e6_10, e6_11, e10_2, e10_3, e10_4, e10_10, e10_11] at p10
    have g11_1 := And.intro (tg_lo t10 r0 5) (tg_hi t10 r0 5)
    simp only [zput_s, zput_n, ti_g, oI_add, oI_sub, oI_mul, zt0, zt1, zt2, zt3, zt4, zt5, zt6, e2_2, e2_10, e2_11, e4_2, e4_3, e4_4, e4_10, e4_11, e5_2, e5_3, e5_4, e5_10, e5_11, e6_2, e6_3, e6_4, e6_10, e6_11, e10_2, e10_3, e10_4, e10_10, e10_11, b151_37]
    try simp only [zput_s, zput_n, ti_g, oI_add, oI_sub, oI_mul]
    refine zok_ck ((q0).1) ?_
    first | refine zok_ne (by omega) (fun c12 => ?_) (fun c12 => ?_) | refine zok_if (fun c12 => ?_) (fun c12 => ?_)
    · have g13_1 := And.intro (tg_lo t10 r0 5) (tg_hi t10 r0 5)
      simp only [zput_s, zput_n, ti_g, oI_add, oI_sub, oI_mul, zt0, zt1, zt2, zt3, zt4, zt5, zt6, e2_2, e2_10, e2_11, e4_2, e4_3, e4_4, e4_10, e4_11, e5_2, e5_3, e5_4, e5_10, e5_11, e6_2, e6_3, e6_4, e6_10, e6_11, e10_2, e10_3, e10_4, e10_10, e10_11, b151_90]
      try simp only [zput_s, zput_n, ti_g, oI_add, oI_sub, oI_mul]
      refine zok_ck ((q0).1) ?_
      first | refine zok_ne (by omega) (fun c14 => ?_) (fun c14 => ?_) | refine zok_if (fun c14 => ?_) (fun c14 => ?_)
      · first | exact qI_rt (by omega) (by omega) ⟨(FrV.trans (Ns := [0, 3, 4, 14]) ((FrV.trans (Ns := [0, 3, 4, 14]) ((FrV.trans (Ns := [0, 3, 4, 14]) ((FrV.trans (Ns := [0, 3, 4, 14]) ((FrV.trans (Ns := [0, 3, 4, 14]) (FrV.refl (Ls := []) G) f2 (by decide) (by decide))) f4 (by decide) (by decide))) f5 (by decide) (by decide))) f6 (by decide) (by decide))) f10 (by decide) (by decide)), by omega⟩ | exact qI_nf ⟨(FrV.trans (Ns := [0, 3, 4, 14]) ((FrV.trans (Ns := [0, 3, 4, 14]) ((FrV.trans (Ns := [0, 3, 4, 14]) ((FrV.trans (Ns := [0, 3, 4, 14]) ((FrV.trans (Ns := [0, 3, 4, 14]) (FrV.refl (Ls := []) G) f2 (by decide) (by decide))) f4 (by decide) (by decide))) f5 (by decide) (by decide))) f6 (by decide) (by decide))) f10 (by decide) (by decide)), by omega⟩
      · first | exact qI_rt (by omega) (by omega) ⟨(FrV.trans (Ns := [0, 3, 4, 14]) ((FrV.trans (Ns := [0, 3, 4, 14]) ((FrV.trans (Ns := [0, 3, 4, 14]) ((FrV.trans (Ns := [0, 3, 4, 14]) ((FrV.trans (Ns := [0, 3, 4, 14]) (FrV.refl (Ls := []) G) f2 (by decide) (by decide))) f4 (by decide) (by decide))) f5 (by decide) (by decide))) f6 (by decide) (by decide))) f10 (by decide) (by decide)), by omega⟩ | exact qI_nf ⟨(FrV.trans (Ns := [0, 3, 4, 14]) ((FrV.trans (Ns := [0, 3, 4, 14]) ((FrV.trans (Ns := [0, 3, 4, 14]) ((FrV.trans (Ns := [0, 3, 4, 14]) ((FrV.trans (Ns := [0, 3, 4, 14]) (FrV.refl (Ls := []) G) f2 (by decide) (by decide))) f4 (by decide) (by decide))) f5 (by decide) (by decide))) f6 (by decide) (by decide))) f10 (by decide) (by decide)), by omega⟩
    · refine zok_ck ((q0).1) ?_
      refine zok_pI (s134 (q0) (by omega) (by omega) (by first | (omega) | ((try simp only [zt0, zt1, zt2, zt3, zt4, zt5, zt6, e2_2, e2_10, e2_11, e4_2, e4_3, e4_4, e4_10, e4_11, e5_2, e5_3, e5_4, e5_10, e5_11, e6_2, e6_3, e6_4, e6_10, e6_11, e10_2, e10_3, e10_4, e10_10, e10_11]); omega)) (by first | (omega) | ((try simp only [zt0, zt1, zt2, zt3, zt4, zt5, zt6, e2_2, e2_10, e2_11, e4_2, e4_3, e4_4, e4_10, e4_11, e5_2, e5_3, e5_4, e5_10, e5_11, e6_2, e6_3, e6_4, e6_10, e6_11, e10_2, e10_3, e10_4, e10_10, e10_11]); omega)) (f10.g)) (fun y15 u15 p15 => ?_)
      try simp only [zt0, zt1, zt2, zt3, zt4, zt5, zt6, e2_2, e2_10, e2_11, e4_2, e4_3, e4_4, e4_10, e4_11, e5_2, e5_3, e5_4, e5_10, e5_11, e6_2, e6_3, e6_4, e6_10, e6_11, e10_2, e10_3, e10_4, e10_10, e10_11] at p15
      simp only [zput_s, zput_n, ti_g, oI_add, oI_sub, oI_mul, zt0, zt1, zt2, zt3, zt4, zt5, zt6, e2_2, e2_10, e2_11, e4_2, e4_3, e4_4, e4_10, e4_11, e5_2, e5_3, e5_4, e5_10, e5_11, e6_2, e6_3, e6_4, e6_10, e6_11, e10_2, e10_3, e10_4, e10_10, e10_11, b151_50]
      try simp only [zput_s, zput_n, ti_g, oI_add, oI_sub, oI_mul]
      first | refine zok_eq (by omega) (fun c17 => ?_) (fun c17 => ?_) | refine zok_if (fun c17 => ?_) (fun c17 => ?_)
      · have g18_1 := And.intro (tg_lo t10 r0 5) (tg_hi t10 r0 5)
        simp only [zput_s, zput_n, ti_g, oI_add, oI_sub, oI_mul, zt0, zt1, zt2, zt3, zt4, zt5, zt6, e2_2, e2_10, e2_11, e4_2, e4_3, e4_4, e4_10, e4_11, e5_2, e5_3, e5_4, e5_10, e5_11, e6_2, e6_3, e6_4, e6_10, e6_11, e10_2, e10_3, e10_4, e10_10, e10_11, b151_90]
        try simp only [zput_s, zput_n, ti_g, oI_add, oI_sub, oI_mul]
        refine zok_ck ((q0).1) ?_
        first | refine zok_ne (by omega) (fun c19 => ?_) (fun c19 => ?_) | refine zok_if (fun c19 => ?_) (fun c19 => ?_)
        · first | exact qI_rt (by omega) (by omega) ⟨(FrV.trans (Ns := [0, 3, 4, 14]) ((FrV.trans (Ns := [0, 3, 4, 14]) ((FrV.trans (Ns := [0, 3, 4, 14]) ((FrV.trans (Ns := [0, 3, 4, 14]) ((FrV.trans (Ns := [0, 3, 4, 14]) (FrV.refl (Ls := []) G) f2 (by decide) (by decide))) f4 (by decide) (by decide))) f5 (by decide) (by decide))) f6 (by decide) (by decide))) f10 (by decide) (by decide)), by omega⟩ | exact qI_nf ⟨(FrV.trans (Ns := [0, 3, 4, 14]) ((FrV.trans (Ns := [0, 3, 4, 14]) ((FrV.trans (Ns := [0, 3, 4, 14]) ((FrV.trans (Ns := [0, 3, 4, 14]) ((FrV.trans (Ns := [0, 3, 4, 14]) (FrV.refl (Ls := []) G) f2 (by decide) (by decide))) f4 (by decide) (by decide))) f5 (by decide) (by decide))) f6 (by decide) (by decide))) f10 (by decide) (by decide)), by omega⟩
        · first | exact qI_rt (by omega) (by omega) ⟨(FrV.trans (Ns := [0, 3, 4, 14]) ((FrV.trans (Ns := [0, 3, 4, 14]) ((FrV.trans (Ns := [0, 3, 4, 14]) ((FrV.trans (Ns := [0, 3, 4, 14]) ((FrV.trans (Ns := [0, 3, 4, 14]) (FrV.refl (Ls := []) G) f2 (by decide) (by decide))) f4 (by decide) (by decide))) f5 (by decide) (by decide))) f6 (by decide) (by decide))) f10 (by decide) (by decide)), by omega⟩ | exact qI_nf ⟨(FrV.trans (Ns := [0, 3, 4, 14]) ((FrV.trans (Ns := [0, 3, 4, 14]) ((FrV.trans (Ns := [0, 3, 4, 14]) ((FrV.trans (Ns := [0, 3, 4, 14]) ((FrV.trans (Ns := [0, 3, 4, 14]) (FrV.refl (Ls := []) G) f2 (by decide) (by decide))) f4 (by decide) (by decide))) f5 (by decide) (by decide))) f6 (by decide) (by decide))) f10 (by decide) (by decide)), by omega⟩
      · refine zok_ck ((q0).1) ?_
        refine zok_pI (s135 (q0) (by omega) (by omega) (by first | (omega) | ((try simp only [zt0, zt1, zt2, zt3, zt4, zt5, zt6, e2_2, e2_10, e2_11, e4_2, e4_3, e4_4, e4_10, e4_11, e5_2, e5_3, e5_4, e5_10, e5_11, e6_2, e6_3, e6_4, e6_10, e6_11, e10_2, e10_3, e10_4, e10_10, e10_11]); omega)) (by first | (omega) | ((try simp only [zt0, zt1, zt2, zt3, zt4, zt5, zt6, e2_2, e2_10, e2_11, e4_2, e4_3, e4_4, e4_10, e4_11, e5_2, e5_3, e5_4, e5_10, e5_11, e6_2, e6_3, e6_4, e6_10, e6_11, e10_2, e10_3, e10_4, e10_10, e10_11]); omega)) (f10.g)) (fun y20 u20 p20 => ?_)
        try simp only [zt0, zt1, zt2, zt3, zt4, zt5, zt6, e2_2, e2_10, e2_11, e4_2, e4_3, e4_4, e4_10, e4_11, e5_2, e5_3, e5_4, e5_10, e5_11, e6_2, e6_3, e6_4, e6_10, e6_11, e10_2, e10_3, e10_4, e10_10, e10_11] at p20
        simp only [zput_s, zput_n, ti_g, oI_add, oI_sub, oI_mul, zt0, zt1, zt2, zt3, zt4, zt5, zt6, e2_2, e2_10, e2_11, e4_2, e4_3, e4_4, e4_10, e4_11, e5_2, e5_3, e5_4, e5_10, e5_11, e6_2, e6_3, e6_4, e6_10, e6_11, e10_2, e10_3, e10_4, e10_10, e10_11, b151_59]
        try simp only [zput_s, zput_n, ti_g, oI_add, oI_sub, oI_mul]
        first | refine zok_lt (by omega) (fun c22 => ?_) (fun c22 => ?_) | refine zok_if (fun c22 => ?_) (fun c22 => ?_)
        · refine zok_ck ((q0).1) ?_
          refine zok_ck ⟨(by rw [(q0).2.2.2.2.2.2.1]), zin_o (by omega) (by omega) (by omega)⟩ ?_
          try rw [nN_o (a := ((7) * (x1)) + (3)) (by omega) (by omega)]
          try simp only [zput_s, zput_n, ti_g, oI_add, oI_sub, oI_mul, zt0, zt1, zt2, zt3, zt4, zt5, zt6, e2_2, e2_10, e2_11, e4_2, e4_3, e4_4, e4_10, e4_11, e5_2, e5_3, e5_4, e5_10, e5_11, e6_2, e6_3, e6_4, e6_10, e6_11, e10_2, e10_3, e10_4, e10_10, e10_11]
          have gl23 := And.intro (tg_lo t10 (sr sh r0 3) ((((7) * (x1)) + (3)).toNat)) (tg_hi t10 (sr sh r0 3) ((((7) * (x1)) + (3)).toNat))
          have gm23 := (f10.g).2.1 ((((7) * (x1)) + (3)).toNat) (by omega)
          try simp only [zt0, zt1, zt2, zt3, zt4, zt5, zt6, e2_2, e2_10, e2_11, e4_2, e4_3, e4_4, e4_10, e4_11, e5_2, e5_3, e5_4, e5_10, e5_11, e6_2, e6_3, e6_4, e6_10, e6_11, e10_2, e10_3, e10_4, e10_10, e10_11] at gl23
          try simp only [zt0, zt1, zt2, zt3, zt4, zt5, zt6, e2_2, e2_10, e2_11, e4_2, e4_3, e4_4, e4_10, e4_11, e5_2, e5_3, e5_4, e5_10, e5_11, e6_2, e6_3, e6_4, e6_10, e6_11, e10_2, e10_3, e10_4, e10_10, e10_11] at gm23
          refine zok_ck ((q0).1) ?_
          refine zok_c0 (s144 (q0) (by omega) (by omega) (f10.g)) (fun t24 p24 => ?_)
          obtain ⟨f24, p24⟩ := p24
          have e24_2 : ∀ k, tg t24 (sr sh r0 2) k = tg t10 (sr sh r0 2) k := fun k => f24.eq q0 (i := 2) (by decide) (by decide) k
          have e24_3 : ∀ k, tg t24 (sr sh r0 3) k = tg t10 (sr sh r0 3) k := fun k => f24.eq q0 (i := 3) (by decide) (by decide) k
          have e24_4 : ∀ k, tg t24 (sr sh r0 4) k = tg t10 (sr sh r0 4) k := fun k => f24.eq q0 (i := 4) (by decide) (by decide) k
          have e24_10 : ∀ k, tg t24 (sr sh r0 10) k = tg t10 (sr sh r0 10) k := fun k => f24.eq q0 (i := 10) (by decide) (by decide) k
          have e24_11 : ∀ k, tg t24 (sr sh r0 11) k = tg t10 (sr sh r0 11) k := fun k => f24.eq q0 (i := 11) (by decide) (by decide) k
          try simp only [zt0, zt1, zt2, zt3, zt4, zt5, zt6, e2_2, e2_10, e2_11, e4_2, e4_3, e4_4, e4_10, e4_11, e5_2, e5_3, e5_4, e5_10, e5_11, e6_2, e6_3, e6_4, e6_10, e6_11, e10_2, e10_3, e10_4, e10_10, e10_11, e24_2, e24_3, e24_4, e24_10, e24_11] at p24
          have g25_1 := And.intro (tg_lo t24 r0 5) (tg_hi t24 r0 5)
          simp only [zput_s, zput_n, ti_g, oI_add, oI_sub, oI_mul, zt0, zt1, zt2, zt3, zt4, zt5, zt6, e2_2, e2_10, e2_11, e4_2, e4_3, e4_4, e4_10, e4_11, e5_2, e5_3, e5_4, e5_10, e5_11, e6_2, e6_3, e6_4, e6_10, e6_11, e10_2, e10_3, e10_4, e10_10, e10_11, e24_2, e24_3, e24_4, e24_10, e24_11, b151_90]
          try simp only [zput_s, zput_n, ti_g, oI_add, oI_sub, oI_mul]
          refine zok_ck ((q0).1) ?_
          first | refine zok_ne (by omega) (fun c26 => ?_) (fun c26 => ?_) | refine zok_if (fun c26 => ?_) (fun c26 => ?_)
          · first | exact qI_rt (by omega) (by omega) ⟨(FrV.trans (Ns := [0, 3, 4, 14]) ((FrV.trans (Ns := [0, 3, 4, 14]) ((FrV.trans (Ns := [0, 3, 4, 14]) ((FrV.trans (Ns := [0, 3, 4, 14]) ((FrV.trans (Ns := [0, 3, 4, 14]) ((FrV.trans (Ns := [0, 3, 4, 14]) (FrV.refl (Ls := []) G) f2 (by decide) (by decide))) f4 (by decide) (by decide))) f5 (by decide) (by decide))) f6 (by decide) (by decide))) f10 (by decide) (by decide))) f24 (by decide) (by decide)), by omega⟩ | exact qI_nf ⟨(FrV.trans (Ns := [0, 3, 4, 14]) ((FrV.trans (Ns := [0, 3, 4, 14]) ((FrV.trans (Ns := [0, 3, 4, 14]) ((FrV.trans (Ns := [0, 3, 4, 14]) ((FrV.trans (Ns := [0, 3, 4, 14]) ((FrV.trans (Ns := [0, 3, 4, 14]) (FrV.refl (Ls := []) G) f2 (by decide) (by decide))) f4 (by decide) (by decide))) f5 (by decide) (by decide))) f6 (by decide) (by decide))) f10 (by decide) (by decide))) f24 (by decide) (by decide)), by omega⟩
          · first | exact qI_rt (by omega) (by omega) ⟨(FrV.trans (Ns := [0, 3, 4, 14]) ((FrV.trans (Ns := [0, 3, 4, 14]) ((FrV.trans (Ns := [0, 3, 4, 14]) ((FrV.trans (Ns := [0, 3, 4, 14]) ((FrV.trans (Ns := [0, 3, 4, 14]) ((FrV.trans (Ns := [0, 3, 4, 14]) (FrV.refl (Ls := []) G) f2 (by decide) (by decide))) f4 (by decide) (by decide))) f5 (by decide) (by decide))) f6 (by decide) (by decide))) f10 (by decide) (by decide))) f24 (by decide) (by decide)), by omega⟩ | exact qI_nf ⟨(FrV.trans (Ns := [0, 3, 4, 14]) ((FrV.trans (Ns := [0, 3, 4, 14]) ((FrV.trans (Ns := [0, 3, 4, 14]) ((FrV.trans (Ns := [0, 3, 4, 14]) ((FrV.trans (Ns := [0, 3, 4, 14]) ((FrV.trans (Ns := [0, 3, 4, 14]) (FrV.refl (Ls := []) G) f2 (by decide) (by decide))) f4 (by decide) (by decide))) f5 (by decide) (by decide))) f6 (by decide) (by decide))) f10 (by decide) (by decide))) f24 (by decide) (by decide)), by omega⟩
        · refine zok_ck ((q0).1) ?_
          refine zok_pI (s150 (q0) (by omega) (by omega) (by first | (omega) | ((try simp only [zt0, zt1, zt2, zt3, zt4, zt5, zt6, e2_2, e2_10, e2_11, e4_2, e4_3, e4_4, e4_10, e4_11, e5_2, e5_3, e5_4, e5_10, e5_11, e6_2, e6_3, e6_4, e6_10, e6_11, e10_2, e10_3, e10_4, e10_10, e10_11]); omega)) (by first | (omega) | ((try simp only [zt0, zt1, zt2, zt3, zt4, zt5, zt6, e2_2, e2_10, e2_11, e4_2, e4_3, e4_4, e4_10, e4_11, e5_2, e5_3, e5_4, e5_10, e5_11, e6_2, e6_3, e6_4, e6_10, e6_11, e10_2, e10_3, e10_4, e10_10, e10_11]); omega)) (f10.g)) (fun y27 u27 p27 => ?_)
          try simp only [zt0, zt1, zt2, zt3, zt4, zt5, zt6, e2_2, e2_10, e2_11, e4_2, e4_3, e4_4, e4_10, e4_11, e5_2, e5_3, e5_4, e5_10, e5_11, e6_2, e6_3, e6_4, e6_10, e6_11, e10_2, e10_3, e10_4, e10_10, e10_11] at p27
          simp only [zput_s, zput_n, ti_g, oI_add, oI_sub, oI_mul, zt0, zt1, zt2, zt3, zt4, zt5, zt6, e2_2, e2_10, e2_11, e4_2, e4_3, e4_4, e4_10, e4_11, e5_2, e5_3, e5_4, e5_10, e5_11, e6_2, e6_3, e6_4, e6_10, e6_11, e10_2, e10_3, e10_4, e10_10, e10_11, b151_69]
          try simp only [zput_s, zput_n, ti_g, oI_add, oI_sub, oI_mul]
          first | refine zok_le (by omega) (fun c29 => ?_) (fun c29 => ?_) | refine zok_if (fun c29 => ?_) (fun c29 => ?_)
          · have g30_1 := And.intro (tg_lo t10 r0 5) (tg_hi t10 r0 5)
            simp only [zput_s, zput_n, ti_g, oI_add, oI_sub, oI_mul, zt0, zt1, zt2, zt3, zt4, zt5, zt6, e2_2, e2_10, e2_11, e4_2, e4_3, e4_4, e4_10, e4_11, e5_2, e5_3, e5_4, e5_10, e5_11, e6_2, e6_3, e6_4, e6_10, e6_11, e10_2, e10_3, e10_4, e10_10, e10_11, b151_90]
            try simp only [zput_s, zput_n, ti_g, oI_add, oI_sub, oI_mul]
            refine zok_ck ((q0).1) ?_
            first | refine zok_ne (by omega) (fun c31 => ?_) (fun c31 => ?_) | refine zok_if (fun c31 => ?_) (fun c31 => ?_)
            · first | exact qI_rt (by omega) (by omega) ⟨(FrV.trans (Ns := [0, 3, 4, 14]) ((FrV.trans (Ns := [0, 3, 4, 14]) ((FrV.trans (Ns := [0, 3, 4, 14]) ((FrV.trans (Ns := [0, 3, 4, 14]) ((FrV.trans (Ns := [0, 3, 4, 14]) (FrV.refl (Ls := []) G) f2 (by decide) (by decide))) f4 (by decide) (by decide))) f5 (by decide) (by decide))) f6 (by decide) (by decide))) f10 (by decide) (by decide)), by omega⟩ | exact qI_nf ⟨(FrV.trans (Ns := [0, 3, 4, 14]) ((FrV.trans (Ns := [0, 3, 4, 14]) ((FrV.trans (Ns := [0, 3, 4, 14]) ((FrV.trans (Ns := [0, 3, 4, 14]) ((FrV.trans (Ns := [0, 3, 4, 14]) (FrV.refl (Ls := []) G) f2 (by decide) (by decide))) f4 (by decide) (by decide))) f5 (by decide) (by decide))) f6 (by decide) (by decide))) f10 (by decide) (by decide)), by omega⟩
            · first | exact qI_rt (by omega) (by omega) ⟨(FrV.trans (Ns := [0, 3, 4, 14]) ((FrV.trans (Ns := [0, 3, 4, 14]) ((FrV.trans (Ns := [0, 3, 4, 14]) ((FrV.trans (Ns := [0, 3, 4, 14]) ((FrV.trans (Ns := [0, 3, 4, 14]) (FrV.refl (Ls := []) G) f2 (by decide) (by decide))) f4 (by decide) (by decide))) f5 (by decide) (by decide))) f6 (by decide) (by decide))) f10 (by decide) (by decide)), by omega⟩ | exact qI_nf ⟨(FrV.trans (Ns := [0, 3, 4, 14]) ((FrV.trans (Ns := [0, 3, 4, 14]) ((FrV.trans (Ns := [0, 3, 4, 14]) ((FrV.trans (Ns := [0, 3, 4, 14]) ((FrV.trans (Ns := [0, 3, 4, 14]) (FrV.refl (Ls := []) G) f2 (by decide) (by decide))) f4 (by decide) (by decide))) f5 (by decide) (by decide))) f6 (by decide) (by decide))) f10 (by decide) (by decide)), by omega⟩
          · refine zok_ck ((q0).1) ?_
            refine zok_ck ⟨(by rw [(q0).2.2.2.2.2.2.1]), zin_o (by omega) (by omega) (by omega)⟩ ?_
            try rw [nN_o (a := ((7) * (x1)) + (3)) (by omega) (by omega)]
            try simp only [zput_s, zput_n, ti_g, oI_add, oI_sub, oI_mul, zt0, zt1, zt2, zt3, zt4, zt5, zt6, e2_2, e2_10, e2_11, e4_2, e4_3, e4_4, e4_10, e4_11, e5_2, e5_3, e5_4, e5_10, e5_11, e6_2, e6_3, e6_4, e6_10, e6_11, e10_2, e10_3, e10_4, e10_10, e10_11]
            have gl32 := And.intro (tg_lo t10 (sr sh r0 3) ((((7) * (x1)) + (3)).toNat)) (tg_hi t10 (sr sh r0 3) ((((7) * (x1)) + (3)).toNat))
            have gm32 := (f10.g).2.1 ((((7) * (x1)) + (3)).toNat) (by omega)
            try simp only [zt0, zt1, zt2, zt3, zt4, zt5, zt6, e2_2, e2_10, e2_11, e4_2, e4_3, e4_4, e4_10, e4_11, e5_2, e5_3, e5_4, e5_10, e5_11, e6_2, e6_3, e6_4, e6_10, e6_11, e10_2, e10_3, e10_4, e10_10, e10_11] at gl32
            try simp only [zt0, zt1, zt2, zt3, zt4, zt5, zt6, e2_2, e2_10, e2_11, e4_2, e4_3, e4_4, e4_10, e4_11, e5_2, e5_3, e5_4, e5_10, e5_11, e6_2, e6_3, e6_4, e6_10, e6_11, e10_2, e10_3, e10_4, e10_10, e10_11] at gm32
            refine zok_ck ((q0).1) ?_
            refine zok_c0 (s144 (q0) (by omega) (by omega) (f10.g)) (fun t33 p33 => ?_)
            obtain ⟨f33, p33⟩ := p33
            have e33_2 : ∀ k, tg t33 (sr sh r0 2) k = tg t10 (sr sh r0 2) k := fun k => f33.eq q0 (i := 2) (by decide) (by decide) k
            have e33_3 : ∀ k, tg t33 (sr sh r0 3) k = tg t10 (sr sh r0 3) k := fun k => f33.eq q0 (i := 3) (by decide) (by decide) k
            have e33_4 : ∀ k, tg t33 (sr sh r0 4) k = tg t10 (sr sh r0 4) k := fun k => f33.eq q0 (i := 4) (by decide) (by decide) k
            have e33_10 : ∀ k, tg t33 (sr sh r0 10) k = tg t10 (sr sh r0 10) k := fun k => f33.eq q0 (i := 10) (by decide) (by decide) k
            have e33_11 : ∀ k, tg t33 (sr sh r0 11) k = tg t10 (sr sh r0 11) k := fun k => f33.eq q0 (i := 11) (by decide) (by decide) k
            try simp only [zt0, zt1, zt2, zt3, zt4, zt5, zt6, e2_2, e2_10, e2_11, e4_2, e4_3, e4_4, e4_10, e4_11, e5_2, e5_3, e5_4, e5_10, e5_11, e6_2, e6_3, e6_4, e6_10, e6_11, e10_2, e10_3, e10_4, e10_10, e10_11, e33_2, e33_3, e33_4, e33_10, e33_11] at p33
            have g34_1 := And.intro (tg_lo t33 r0 5) (tg_hi t33 r0 5)
            simp only [zput_s, zput_n, ti_g, oI_add, oI_sub, oI_mul, zt0, zt1, zt2, zt3, zt4, zt5, zt6, e2_2, e2_10, e2_11, e4_2, e4_3, e4_4, e4_10, e4_11, e5_2, e5_3, e5_4, e5_10, e5_11, e6_2, e6_3, e6_4, e6_10, e6_11, e10_2, e10_3, e10_4, e10_10, e10_11, e33_2, e33_3, e33_4, e33_10, e33_11, b151_90]
            try simp only [zput_s, zput_n, ti_g, oI_add, oI_sub, oI_mul]
            refine zok_ck ((q0).1) ?_
            first | refine zok_ne (by omega) (fun c35 => ?_) (fun c35 => ?_) | refine zok_if (fun c35 => ?_) (fun c35 => ?_)
            · first | exact qI_rt (by omega) (by omega) ⟨(FrV.trans (Ns := [0, 3, 4, 14]) ((FrV.trans (Ns := [0, 3, 4, 14]) ((FrV.trans (Ns := [0, 3, 4, 14]) ((FrV.trans (Ns := [0, 3, 4, 14]) ((FrV.trans (Ns := [0, 3, 4, 14]) ((FrV.trans (Ns := [0, 3, 4, 14]) (FrV.refl (Ls := []) G) f2 (by decide) (by decide))) f4 (by decide) (by decide))) f5 (by decide) (by decide))) f6 (by decide) (by decide))) f10 (by decide) (by decide))) f33 (by decide) (by decide)), by omega⟩ | exact qI_nf ⟨(FrV.trans (Ns := [0, 3, 4, 14]) ((FrV.trans (Ns := [0, 3, 4, 14]) ((FrV.trans (Ns := [0, 3, 4, 14]) ((FrV.trans (Ns := [0, 3, 4, 14]) ((FrV.trans (Ns := [0, 3, 4, 14]) ((FrV.trans (Ns := [0, 3, 4, 14]) (FrV.refl (Ls := []) G) f2 (by decide) (by decide))) f4 (by decide) (by decide))) f5 (by decide) (by decide))) f6 (by decide) (by decide))) f10 (by decide) (by decide))) f33 (by decide) (by decide)), by omega⟩
            · first | exact qI_rt (by omega) (by omega) ⟨(FrV.trans (Ns := [0, 3, 4, 14]) ((FrV.trans (Ns := [0, 3, 4, 14]) ((FrV.trans (Ns := [0, 3, 4, 14]) ((FrV.trans (Ns := [0, 3, 4, 14]) ((FrV.trans (Ns := [0, 3, 4, 14]) ((FrV.trans (Ns := [0, 3, 4, 14]) (FrV.refl (Ls := []) G) f2 (by decide) (by decide))) f4 (by decide) (by decide))) f5 (by decide) (by decide))) f6 (by decide) (by decide))) f10 (by decide) (by decide))) f33 (by decide) (by decide)), by omega⟩ | exact qI_nf ⟨(FrV.trans (Ns := [0, 3, 4, 14]) ((FrV.trans (Ns := [0, 3, 4, 14]) ((FrV.trans (Ns := [0, 3, 4, 14]) ((FrV.trans (Ns := [0, 3, 4, 14]) ((FrV.trans (Ns := [0, 3, 4, 14]) ((FrV.trans (Ns := [0, 3, 4, 14]) (FrV.refl (Ls := []) G) f2 (by decide) (by decide))) f4 (by decide) (by decide))) f5 (by decide) (by decide))) f6 (by decide) (by decide))) f10 (by decide) (by decide))) f33 (by decide) (by decide)), by omega⟩
  · refine zok_ck ((q0).1) ?_
    refine zok_c0 (s148 (q0) (by omega) (by first | (omega) | ((try simp only [zt0, zt1, zt2, zt3, zt4, zt5, zt6, e2_2, e2_10, e2_11, e4_2, e4_3, e4_4, e4_10, e4_11, e5_2, e5_3, e5_4, e5_10, e5_11, e6_2, e6_3, e6_4, e6_10, e6_11]); omega)) (f6.g)) (fun t36 p36 => ?_)
    obtain ⟨f36, p36⟩ := p36
    have e36_2 : ∀ k, tg t36 (sr sh r0 2) k = tg t6 (sr sh r0 2) k := fun k => f36.eq q0 (i := 2) (by decide) (by decide) k
    have e36_3 : ∀ k, tg t36 (sr sh r0 3) k = tg t6 (sr sh r0 3) k := fun k => f36.eq q0 (i := 3) (by decide) (by decide) k
    have e36_4 : ∀ k, tg t36 (sr sh r0 4) k = tg t6 (sr sh r0 4) k := fun k => f36.eq q0 (i := 4) (by decide) (by decide) k
    have e36_10 : ∀ k, tg t36 (sr sh r0 10) k = tg t6 (sr sh r0 10) k := fun k => f36.eq q0 (i := 10) (by decide) (by decide) k
    have e36_11 : ∀ k, tg t36 (sr sh r0 11) k = tg t6 (sr sh r0 11) k := fun k => f36.eq q0 (i := 11) (by decide) (by decide) k
    try simp only [zt0, zt1, zt2, zt3, zt4, zt5, zt6, e2_2, e2_10, e2_11, e4_2, e4_3, e4_4, e4_10, e4_11, e5_2, e5_3, e5_4, e5_10, e5_11, e6_2, e6_3, e6_4, e6_10, e6_11, e36_2, e36_3, e36_4, e36_10, e36_11] at p36
    simp only [zput_s, zput_n, ti_g, oI_add, oI_sub, oI_mul, zt0, zt1, zt2, zt3, zt4, zt5, zt6, e2_2, e2_10, e2_11, e4_2, e4_3, e4_4, e4_10, e4_11, e5_2, e5_3, e5_4, e5_10, e5_11, e6_2, e6_3, e6_4, e6_10, e6_11, e36_2, e36_3, e36_4, e36_10, e36_11, b151_32]
    try simp only [zput_s, zput_n, ti_g, oI_add, oI_sub, oI_mul]
    refine zok_ck ((q0).1) ?_
    refine zok_c0 (s149 (q0) (by omega) (by first | (omega) | ((try simp only [zt0, zt1, zt2, zt3, zt4, zt5, zt6, e2_2, e2_10, e2_11, e4_2, e4_3, e4_4, e4_10, e4_11, e5_2, e5_3, e5_4, e5_10, e5_11, e6_2, e6_3, e6_4, e6_10, e6_11, e36_2, e36_3, e36_4, e36_10, e36_11]); omega)) (by first | (omega) | ((try simp only [zt0, zt1, zt2, zt3, zt4, zt5, zt6, e2_2, e2_10, e2_11, e4_2, e4_3, e4_4, e4_10, e4_11, e5_2, e5_3, e5_4, e5_10, e5_11, e6_2, e6_3, e6_4, e6_10, e6_11, e36_2, e36_3, e36_4, e36_10, e36_11]); omega)) (f36.g)) (fun t38 p38 => ?_)
    obtain ⟨f38, p38⟩ := p38
    have e38_2 : ∀ k, tg t38 (sr sh r0 2) k = tg t36 (sr sh r0 2) k := fun k => f38.eq q0 (i := 2) (by decide) (by decide) k
    have e38_3 : ∀ k, tg t38 (sr sh r0 3) k = tg t36 (sr sh r0 3) k := fun k => f38.eq q0 (i := 3) (by decide) (by decide) k
    have e38_4 : ∀ k, tg t38 (sr sh r0 4) k = tg t36 (sr sh r0 4) k := fun k => f38.eq q0 (i := 4) (by decide) (by decide) k
    have e38_10 : ∀ k, tg t38 (sr sh r0 10) k = tg t36 (sr sh r0 10) k := fun k => f38.eq q0 (i := 10) (by decide) (by decide) k
    have e38_11 : ∀ k, tg t38 (sr sh r0 11) k = tg t36 (sr sh r0 11) k := fun k => f38.eq q0 (i := 11) (by decide) (by decide) k
    try simp only [zt0, zt1, zt2, zt3, zt4, zt5, zt6, e2_2, e2_10, e2_11, e4_2, e4_3, e4_4, e4_10, e4_11, e5_2, e5_3, e5_4, e5_10, e5_11, e6_2, e6_3, e6_4, e6_10, e6_11, e36_2, e36_3, e36_4, e36_10, e36_11, e38_2, e38_3, e38_4, e38_10, e38_11] at p38
    have g39_1 := And.intro (tg_lo t38 r0 5) (tg_hi t38 r0 5)
    simp only [zput_s, zput_n, ti_g, oI_add, oI_sub, oI_mul, zt0, zt1, zt2, zt3, zt4, zt5, zt6, e2_2, e2_10, e2_11, e4_2, e4_3, e4_4, e4_10, e4_11, e5_2, e5_3, e5_4, e5_10, e5_11, e6_2, e6_3, e6_4, e6_10, e6_11, e36_2, e36_3, e36_4, e36_10, e36_11, e38_2, e38_3, e38_4, e38_10, e38_11, b151_37]
    try simp only [zput_s, zput_n, ti_g, oI_add, oI_sub, oI_mul]
    refine zok_ck ((q0).1) ?_
    first | refine zok_ne (by omega) (fun c40 => ?_) (fun c40 => ?_) | refine zok_if (fun c40 => ?_) (fun c40 => ?_)
    · have g41_1 := And.intro (tg_lo t38 r0 5) (tg_hi t38 r0 5)
      simp only [zput_s, zput_n, ti_g, oI_add, oI_sub, oI_mul, zt0, zt1, zt2, zt3, zt4, zt5, zt6, e2_2, e2_10, e2_11, e4_2, e4_3, e4_4, e4_10, e4_11, e5_2, e5_3, e5_4, e5_10, e5_11, e6_2, e6_3, e6_4, e6_10, e6_11, e36_2, e36_3, e36_4, e36_10, e36_11, e38_2, e38_3, e38_4, e38_10, e38_11, b151_90]
      try simp only [zput_s, zput_n, ti_g, oI_add, oI_sub, oI_mul]
      refine zok_ck ((q0).1) ?_
      first | refine zok_ne (by omega) (fun c42 => ?_) (fun c42 => ?_) | refine zok_if (fun c42 => ?_) (fun c42 => ?_)
      · first | exact qI_rt (by omega) (by omega) ⟨(FrV.trans (Ns := [0, 3, 4, 14]) ((FrV.trans (Ns := [0, 3, 4, 14]) ((FrV.trans (Ns := [0, 3, 4, 14]) ((FrV.trans (Ns := [0, 3, 4, 14]) ((FrV.trans (Ns := [0, 3, 4, 14]) ((FrV.trans (Ns := [0, 3, 4, 14]) (FrV.refl (Ls := []) G) f2 (by decide) (by decide))) f4 (by decide) (by decide))) f5 (by decide) (by decide))) f6 (by decide) (by decide))) f36 (by decide) (by decide))) f38 (by decide) (by decide)), by omega⟩ | exact qI_nf ⟨(FrV.trans (Ns := [0, 3, 4, 14]) ((FrV.trans (Ns := [0, 3, 4, 14]) ((FrV.trans (Ns := [0, 3, 4, 14]) ((FrV.trans (Ns := [0, 3, 4, 14]) ((FrV.trans (Ns := [0, 3, 4, 14]) ((FrV.trans (Ns := [0, 3, 4, 14]) (FrV.refl (Ls := []) G) f2 (by decide) (by decide))) f4 (by decide) (by decide))) f5 (by decide) (by decide))) f6 (by decide) (by decide))) f36 (by decide) (by decide))) f38 (by decide) (by decide)), by omega⟩
      · first | exact qI_rt (by omega) (by omega) ⟨(FrV.trans (Ns := [0, 3, 4, 14]) ((FrV.trans (Ns := [0, 3, 4, 14]) ((FrV.trans (Ns := [0, 3, 4, 14]) ((FrV.trans (Ns := [0, 3, 4, 14]) ((FrV.trans (Ns := [0, 3, 4, 14]) ((FrV.trans (Ns := [0, 3, 4, 14]) (FrV.refl (Ls := []) G) f2 (by decide) (by decide))) f4 (by decide) (by decide))) f5 (by decide) (by decide))) f6 (by decide) (by decide))) f36 (by decide) (by decide))) f38 (by decide) (by decide)), by omega⟩ | exact qI_nf ⟨(FrV.trans (Ns := [0, 3, 4, 14]) ((FrV.trans (Ns := [0, 3, 4, 14]) ((FrV.trans (Ns := [0, 3, 4, 14]) ((FrV.trans (Ns := [0, 3, 4, 14]) ((FrV.trans (Ns := [0, 3, 4, 14]) ((FrV.trans (Ns := [0, 3, 4, 14]) (FrV.refl (Ls := []) G) f2 (by decide) (by decide))) f4 (by decide) (by decide))) f5 (by decide) (by decide))) f6 (by decide) (by decide))) f36 (by decide) (by decide))) f38 (by decide) (by decide)), by omega⟩
    · refine zok_ck ((q0).1) ?_
      refine zok_pI (s134 (q0) (by omega) (by omega) (by first | (omega) | ((try simp only [zt0, zt1, zt2, zt3, zt4, zt5, zt6, e2_2, e2_10, e2_11, e4_2, e4_3, e4_4, e4_10, e4_11, e5_2, e5_3, e5_4, e5_10, e5_11, e6_2, e6_3, e6_4, e6_10, e6_11, e36_2, e36_3, e36_4, e36_10, e36_11, e38_2, e38_3, e38_4, e38_10, e38_11]); omega)) (by first | (omega) | ((try simp only [zt0, zt1, zt2, zt3, zt4, zt5, zt6, e2_2, e2_10, e2_11, e4_2, e4_3, e4_4, e4_10, e4_11, e5_2, e5_3, e5_4, e5_10, e5_11, e6_2, e6_3, e6_4, e6_10, e6_11, e36_2, e36_3, e36_4, e36_10, e36_11, e38_2, e38_3, e38_4, e38_10, e38_11]); omega)) (f38.g)) (fun y43 u43 p43 => ?_)
      try simp only [zt0, zt1, zt2, zt3, zt4, zt5, zt6, e2_2, e2_10, e2_11, e4_2, e4_3, e4_4, e4_10, e4_11, e5_2, e5_3, e5_4, e5_10, e5_11, e6_2, e6_3, e6_4, e6_10, e6_11, e36_2, e36_3, e36_4, e36_10, e36_11, e38_2, e38_3, e38_4, e38_10, e38_11] at p43
      simp only [zput_s, zput_n, ti_g, oI_add, oI_sub, oI_mul, zt0, zt1, zt2, zt3, zt4, zt5, zt6, e2_2, e2_10, e2_11, e4_2, e4_3, e4_4, e4_10, e4_11, e5_2, e5_3, e5_4, e5_10, e5_11, e6_2, e6_3, e6_4, e6_10, e6_11, e36_2, e36_3, e36_4, e36_10, e36_11, e38_2, e38_3, e38_4, e38_10, e38_11, b151_50]
      try simp only [zput_s, zput_n, ti_g, oI_add, oI_sub, oI_mul]
      first | refine zok_eq (by omega) (fun c45 => ?_) (fun c45 => ?_) | refine zok_if (fun c45 => ?_) (fun c45 => ?_)
      · have g46_1 := And.intro (tg_lo t38 r0 5) (tg_hi t38 r0 5)
        simp only [zput_s, zput_n, ti_g, oI_add, oI_sub, oI_mul, zt0, zt1, zt2, zt3, zt4, zt5, zt6, e2_2, e2_10, e2_11, e4_2, e4_3, e4_4, e4_10, e4_11, e5_2, e5_3, e5_4, e5_10, e5_11, e6_2, e6_3, e6_4, e6_10, e6_11, e36_2, e36_3, e36_4, e36_10, e36_11, e38_2, e38_3, e38_4, e38_10, e38_11, b151_90]
        try simp only [zput_s, zput_n, ti_g, oI_add, oI_sub, oI_mul]
        refine zok_ck ((q0).1) ?_
        first | refine zok_ne (by omega) (fun c47 => ?_) (fun c47 => ?_) | refine zok_if (fun c47 => ?_) (fun c47 => ?_)
        · first | exact qI_rt (by omega) (by omega) ⟨(FrV.trans (Ns := [0, 3, 4, 14]) ((FrV.trans (Ns := [0, 3, 4, 14]) ((FrV.trans (Ns := [0, 3, 4, 14]) ((FrV.trans (Ns := [0, 3, 4, 14]) ((FrV.trans (Ns := [0, 3, 4, 14]) ((FrV.trans (Ns := [0, 3, 4, 14]) (FrV.refl (Ls := []) G) f2 (by decide) (by decide))) f4 (by decide) (by decide))) f5 (by decide) (by decide))) f6 (by decide) (by decide))) f36 (by decide) (by decide))) f38 (by decide) (by decide)), by omega⟩ | exact qI_nf ⟨(FrV.trans (Ns := [0, 3, 4, 14]) ((FrV.trans (Ns := [0, 3, 4, 14]) ((FrV.trans (Ns := [0, 3, 4, 14]) ((FrV.trans (Ns := [0, 3, 4, 14]) ((FrV.trans (Ns := [0, 3, 4, 14]) ((FrV.trans (Ns := [0, 3, 4, 14]) (FrV.refl (Ls := []) G) f2 (by decide) (by decide))) f4 (by decide) (by decide))) f5 (by decide) (by decide))) f6 (by decide) (by decide))) f36 (by decide) (by decide))) f38 (by decide) (by decide)), by omega⟩
        · first | exact qI_rt (by omega) (by omega) ⟨(FrV.trans (Ns := [0, 3, 4, 14]) ((FrV.trans (Ns := [0, 3, 4, 14]) ((FrV.trans (Ns := [0, 3, 4, 14]) ((FrV.trans (Ns := [0, 3, 4, 14]) ((FrV.trans (Ns := [0, 3, 4, 14]) ((FrV.trans (Ns := [0, 3, 4, 14]) (FrV.refl (Ls := []) G) f2 (by decide) (by decide))) f4 (by decide) (by decide))) f5 (by decide) (by decide))) f6 (by decide) (by decide))) f36 (by decide) (by decide))) f38 (by decide) (by decide)), by omega⟩ | exact qI_nf ⟨(FrV.trans (Ns := [0, 3, 4, 14]) ((FrV.trans (Ns := [0, 3, 4, 14]) ((FrV.trans (Ns := [0, 3, 4, 14]) ((FrV.trans (Ns := [0, 3, 4, 14]) ((FrV.trans (Ns := [0, 3, 4, 14]) ((FrV.trans (Ns := [0, 3, 4, 14]) (FrV.refl (Ls := []) G) f2 (by decide) (by decide))) f4 (by decide) (by decide))) f5 (by decide) (by decide))) f6 (by decide) (by decide))) f36 (by decide) (by decide))) f38 (by decide) (by decide)), by omega⟩
      · refine zok_ck ((q0).1) ?_
        refine zok_pI (s135 (q0) (by omega) (by omega) (by first | (omega) | ((try simp only [zt0, zt1, zt2, zt3, zt4, zt5, zt6, e2_2, e2_10, e2_11, e4_2, e4_3, e4_4, e4_10, e4_11, e5_2, e5_3, e5_4, e5_10, e5_11, e6_2, e6_3, e6_4, e6_10, e6_11, e36_2, e36_3, e36_4, e36_10, e36_11, e38_2, e38_3, e38_4, e38_10, e38_11]); omega)) (by first | (omega) | ((try simp only [zt0, zt1, zt2, zt3, zt4, zt5, zt6, e2_2, e2_10, e2_11, e4_2, e4_3, e4_4, e4_10, e4_11, e5_2, e5_3, e5_4, e5_10, e5_11, e6_2, e6_3, e6_4, e6_10, e6_11, e36_2, e36_3, e36_4, e36_10, e36_11, e38_2, e38_3, e38_4, e38_10, e38_11]); omega)) (f38.g)) (fun y48 u48 p48 => ?_)
        try simp only [zt0, zt1, zt2, zt3, zt4, zt5, zt6, e2_2, e2_10, e2_11, e4_2, e4_3, e4_4, e4_10, e4_11, e5_2, e5_3, e5_4, e5_10, e5_11, e6_2, e6_3, e6_4, e6_10, e6_11, e36_2, e36_3, e36_4, e36_10, e36_11, e38_2, e38_3, e38_4, e38_10, e38_11] at p48
        simp only [zput_s, zput_n, ti_g, oI_add, oI_sub, oI_mul, zt0, zt1, zt2, zt3, zt4, zt5, zt6, e2_2, e2_10, e2_11, e4_2, e4_3, e4_4, e4_10, e4_11, e5_2, e5_3, e5_4, e5_10, e5_11, e6_2, e6_3, e6_4, e6_10, e6_11, e36_2, e36_3, e36_4, e36_10, e36_11, e38_2, e38_3, e38_4, e38_10, e38_11, b151_59]
        try simp only [zput_s, zput_n, ti_g, oI_add, oI_sub, oI_mul]
        first | refine zok_lt (by omega) (fun c50 => ?_) (fun c50 => ?_) | refine zok_if (fun c50 => ?_) (fun c50 => ?_)
        · refine zok_ck ((q0).1) ?_
          refine zok_ck ⟨(by rw [(q0).2.2.2.2.2.2.1]), zin_o (by omega) (by omega) (by omega)⟩ ?_
          try rw [nN_o (a := ((7) * (x1)) + (3)) (by omega) (by omega)]
          try simp only [zput_s, zput_n, ti_g, oI_add, oI_sub, oI_mul, zt0, zt1, zt2, zt3, zt4, zt5, zt6, e2_2, e2_10, e2_11, e4_2, e4_3, e4_4, e4_10, e4_11, e5_2, e5_3, e5_4, e5_10, e5_11, e6_2, e6_3, e6_4, e6_10, e6_11, e36_2, e36_3, e36_4, e36_10, e36_11, e38_2, e38_3, e38_4, e38_10, e38_11]
          have gl51 := And.intro (tg_lo t38 (sr sh r0 3) ((((7) * (x1)) + (3)).toNat)) (tg_hi t38 (sr sh r0 3) ((((7) * (x1)) + (3)).toNat))
          have gm51 := (f38.g).2.1 ((((7) * (x1)) + (3)).toNat) (by omega)
          try simp only [zt0, zt1, zt2, zt3, zt4, zt5, zt6, e2_2, e2_10, e2_11, e4_2, e4_3, e4_4, e4_10, e4_11, e5_2, e5_3, e5_4, e5_10, e5_11, e6_2, e6_3, e6_4, e6_10, e6_11, e36_2, e36_3, e36_4, e36_10, e36_11, e38_2, e38_3, e38_4, e38_10, e38_11] at gl51
          try simp only [zt0, zt1, zt2, zt3, zt4, zt5, zt6, e2_2, e2_10, e2_11, e4_2, e4_3, e4_4, e4_10, e4_11, e5_2, e5_3, e5_4, e5_10, e5_11, e6_2, e6_3, e6_4, e6_10, e6_11, e36_2, e36_3, e36_4, e36_10, e36_11, e38_2, e38_3, e38_4, e38_10, e38_11] at gm51
          refine zok_ck ((q0).1) ?_
          refine zok_c0 (s144 (q0) (by omega) (by omega) (f38.g)) (fun t52 p52 => ?_)
          obtain ⟨f52, p52⟩ := p52
          have e52_2 : ∀ k, tg t52 (sr sh r0 2) k = tg t38 (sr sh r0 2) k := fun k => f52.eq q0 (i := 2) (by decide) (by decide) k
          have e52_3 : ∀ k, tg t52 (sr sh r0 3) k = tg t38 (sr sh r0 3) k := fun k => f52.eq q0 (i := 3) (by decide) (by decide) k
          have e52_4 : ∀ k, tg t52 (sr sh r0 4) k = tg t38 (sr sh r0 4) k := fun k => f52.eq q0 (i := 4) (by decide) (by decide) k
          have e52_10 : ∀ k, tg t52 (sr sh r0 10) k = tg t38 (sr sh r0 10) k := fun k => f52.eq q0 (i := 10) (by decide) (by decide) k
          have e52_11 : ∀ k, tg t52 (sr sh r0 11) k = tg t38 (sr sh r0 11) k := fun k => f52.eq q0 (i := 11) (by decide) (by decide) k
          try simp only [zt0, zt1, zt2, zt3, zt4, zt5, zt6, e2_2, e2_10, e2_11, e4_2, e4_3, e4_4, e4_10, e4_11, e5_2, e5_3, e5_4, e5_10, e5_11, e6_2, e6_3, e6_4, e6_10, e6_11, e36_2, e36_3, e36_4, e36_10, e36_11, e38_2, e38_3, e38_4, e38_10, e38_11, e52_2, e52_3, e52_4, e52_10, e52_11] at p52
          have g53_1 := And.intro (tg_lo t52 r0 5) (tg_hi t52 r0 5)
          simp only [zput_s, zput_n, ti_g, oI_add, oI_sub, oI_mul, zt0, zt1, zt2, zt3, zt4, zt5, zt6, e2_2, e2_10, e2_11, e4_2, e4_3, e4_4, e4_10, e4_11, e5_2, e5_3, e5_4, e5_10, e5_11, e6_2, e6_3, e6_4, e6_10, e6_11, e36_2, e36_3, e36_4, e36_10, e36_11, e38_2, e38_3, e38_4, e38_10, e38_11, e52_2, e52_3, e52_4, e52_10, e52_11, b151_90]
          try simp only [zput_s, zput_n, ti_g, oI_add, oI_sub, oI_mul]
          refine zok_ck ((q0).1) ?_
          first | refine zok_ne (by omega) (fun c54 => ?_) (fun c54 => ?_) | refine zok_if (fun c54 => ?_) (fun c54 => ?_)
          · first | exact qI_rt (by omega) (by omega) ⟨(FrV.trans (Ns := [0, 3, 4, 14]) ((FrV.trans (Ns := [0, 3, 4, 14]) ((FrV.trans (Ns := [0, 3, 4, 14]) ((FrV.trans (Ns := [0, 3, 4, 14]) ((FrV.trans (Ns := [0, 3, 4, 14]) ((FrV.trans (Ns := [0, 3, 4, 14]) ((FrV.trans (Ns := [0, 3, 4, 14]) (FrV.refl (Ls := []) G) f2 (by decide) (by decide))) f4 (by decide) (by decide))) f5 (by decide) (by decide))) f6 (by decide) (by decide))) f36 (by decide) (by decide))) f38 (by decide) (by decide))) f52 (by decide) (by decide)), by omega⟩ | exact qI_nf ⟨(FrV.trans (Ns := [0, 3, 4, 14]) ((FrV.trans (Ns := [0, 3, 4, 14]) ((FrV.trans (Ns := [0, 3, 4, 14]) ((FrV.trans (Ns := [0, 3, 4, 14]) ((FrV.trans (Ns := [0, 3, 4, 14]) ((FrV.trans (Ns := [0, 3, 4, 14]) ((FrV.trans (Ns := [0, 3, 4, 14]) (FrV.refl (Ls := []) G) f2 (by decide) (by decide))) f4 (by decide) (by decide))) f5 (by decide) (by decide))) f6 (by decide) (by decide))) f36 (by decide) (by decide))) f38 (by decide) (by decide))) f52 (by decide) (by decide)), by omega⟩
          · first | exact qI_rt (by omega) (by omega) ⟨(FrV.trans (Ns := [0, 3, 4, 14]) ((FrV.trans (Ns := [0, 3, 4, 14]) ((FrV.trans (Ns := [0, 3, 4, 14]) ((FrV.trans (Ns := [0, 3, 4, 14]) ((FrV.trans (Ns := [0, 3, 4, 14]) ((FrV.trans (Ns := [0, 3, 4, 14]) ((FrV.trans (Ns := [0, 3, 4, 14]) (FrV.refl (Ls := []) G) f2 (by decide) (by decide))) f4 (by decide) (by decide))) f5 (by decide) (by decide))) f6 (by decide) (by decide))) f36 (by decide) (by decide))) f38 (by decide) (by decide))) f52 (by decide) (by decide)), by omega⟩ | exact qI_nf ⟨(FrV.trans (Ns := [0, 3, 4, 14]) ((FrV.trans (Ns := [0, 3, 4, 14]) ((FrV.trans (Ns := [0, 3, 4, 14]) ((FrV.trans (Ns := [0, 3, 4, 14]) ((FrV.trans (Ns := [0, 3, 4, 14]) ((FrV.trans (Ns := [0, 3, 4, 14]) ((FrV.trans (Ns := [0, 3, 4, 14]) (FrV.refl (Ls := []) G) f2 (by decide) (by decide))) f4 (by decide) (by decide))) f5 (by decide) (by decide))) f6 (by decide) (by decide))) f36 (by decide) (by decide))) f38 (by decide) (by decide))) f52 (by decide) (by decide)), by omega⟩
        · refine zok_ck ((q0).1) ?_
          refine zok_pI (s150 (q0) (by omega) (by omega) (by first | (omega) | ((try simp only [zt0, zt1, zt2, zt3, zt4, zt5, zt6, e2_2, e2_10, e2_11, e4_2, e4_3, e4_4, e4_10, e4_11, e5_2, e5_3, e5_4, e5_10, e5_11, e6_2, e6_3, e6_4, e6_10, e6_11, e36_2, e36_3, e36_4, e36_10, e36_11, e38_2, e38_3, e38_4, e38_10, e38_11]); omega)) (by first | (omega) | ((try simp only [zt0, zt1, zt2, zt3, zt4, zt5, zt6, e2_2, e2_10, e2_11, e4_2, e4_3, e4_4, e4_10, e4_11, e5_2, e5_3, e5_4, e5_10, e5_11, e6_2, e6_3, e6_4, e6_10, e6_11, e36_2, e36_3, e36_4, e36_10, e36_11, e38_2, e38_3, e38_4, e38_10, e38_11]); omega)) (f38.g)) (fun y55 u55 p55 => ?_)
          try simp only [zt0, zt1, zt2, zt3, zt4, zt5, zt6, e2_2, e2_10, e2_11, e4_2, e4_3, e4_4, e4_10, e4_11, e5_2, e5_3, e5_4, e5_10, e5_11, e6_2, e6_3, e6_4, e6_10, e6_11, e36_2, e36_3, e36_4, e36_10, e36_11, e38_2, e38_3, e38_4, e38_10, e38_11] at p55
          simp only [zput_s, zput_n, ti_g, oI_add, oI_sub, oI_mul, zt0, zt1, zt2, zt3, zt4, zt5, zt6, e2_2, e2_10, e2_11, e4_2, e4_3, e4_4, e4_10, e4_11, e5_2, e5_3, e5_4, e5_10, e5_11, e6_2, e6_3, e6_4, e6_10, e6_11, e36_2, e36_3, e36_4, e36_10, e36_11, e38_2, e38_3, e38_4, e38_10, e38_11, b151_69]
          try simp only [zput_s, zput_n, ti_g, oI_add, oI_sub, oI_mul]
          first | refine zok_le (by omega) (fun c57 => ?_) (fun c57 => ?_) | refine zok_if (fun c57 => ?_) (fun c57 => ?_)
          · have g58_1 := And.intro (tg_lo t38 r0 5) (tg_hi t38 r0 5)
            simp only [zput_s, zput_n, ti_g, oI_add, oI_sub, oI_mul, zt0, zt1, zt2, zt3, zt4, zt5, zt6, e2_2, e2_10, e2_11, e4_2, e4_3, e4_4, e4_10, e4_11, e5_2, e5_3, e5_4, e5_10, e5_11, e6_2, e6_3, e6_4, e6_10, e6_11, e36_2, e36_3, e36_4, e36_10, e36_11, e38_2, e38_3, e38_4, e38_10, e38_11, b151_90]
            try simp only [zput_s, zput_n, ti_g, oI_add, oI_sub, oI_mul]
            refine zok_ck ((q0).1) ?_
            first | refine zok_ne (by omega) (fun c59 => ?_) (fun c59 => ?_) | refine zok_if (fun c59 => ?_) (fun c59 => ?_)
            · first | exact qI_rt (by omega) (by omega) ⟨(FrV.trans (Ns := [0, 3, 4, 14]) ((FrV.trans (Ns := [0, 3, 4, 14]) ((FrV.trans (Ns := [0, 3, 4, 14]) ((FrV.trans (Ns := [0, 3, 4, 14]) ((FrV.trans (Ns := [0, 3, 4, 14]) ((FrV.trans (Ns := [0, 3, 4, 14]) (FrV.refl (Ls := []) G) f2 (by decide) (by decide))) f4 (by decide) (by decide))) f5 (by decide) (by decide))) f6 (by decide) (by decide))) f36 (by decide) (by decide))) f38 (by decide) (by decide)), by omega⟩ | exact qI_nf ⟨(FrV.trans (Ns := [0, 3, 4, 14]) ((FrV.trans (Ns := [0, 3, 4, 14]) ((FrV.trans (Ns := [0, 3, 4, 14]) ((FrV.trans (Ns := [0, 3, 4, 14]) ((FrV.trans (Ns := [0, 3, 4, 14]) ((FrV.trans (Ns := [0, 3, 4, 14]) (FrV.refl (Ls := []) G) f2 (by decide) (by decide))) f4 (by decide) (by decide))) f5 (by decide) (by decide))) f6 (by decide) (by decide))) f36 (by decide) (by decide))) f38 (by decide) (by decide)), by omega⟩
            · first | exact qI_rt (by omega) (by omega) ⟨(FrV.trans (Ns := [0, 3, 4, 14]) ((FrV.trans (Ns := [0, 3, 4, 14]) ((FrV.trans (Ns := [0, 3, 4, 14]) ((FrV.trans (Ns := [0, 3, 4, 14]) ((FrV.trans (Ns := [0, 3, 4, 14]) ((FrV.trans (Ns := [0, 3, 4, 14]) (FrV.refl (Ls := []) G) f2 (by decide) (by decide))) f4 (by decide) (by decide))) f5 (by decide) (by decide))) f6 (by decide) (by decide))) f36 (by decide) (by decide))) f38 (by decide) (by decide)), by omega⟩ | exact qI_nf ⟨(FrV.trans (Ns := [0, 3, 4, 14]) ((FrV.trans (Ns := [0, 3, 4, 14]) ((FrV.trans (Ns := [0, 3, 4, 14]) ((FrV.trans (Ns := [0, 3, 4, 14]) ((FrV.trans (Ns := [0, 3, 4, 14]) ((FrV.trans (Ns := [0, 3, 4, 14]) (FrV.refl (Ls := []) G) f2 (by decide) (by decide))) f4 (by decide) (by decide))) f5 (by decide) (by decide))) f6 (by decide) (by decide))) f36 (by decide) (by decide))) f38 (by decide) (by decide)), by omega⟩
          · refine zok_ck ((q0).1) ?_
            refine zok_ck ⟨(by rw [(q0).2.2.2.2.2.2.1]), zin_o (by omega) (by omega) (by omega)⟩ ?_
            try rw [nN_o (a := ((7) * (x1)) + (3)) (by omega) (by omega)]
            try simp only [zput_s, zput_n, ti_g, oI_add, oI_sub, oI_mul, zt0, zt1, zt2, zt3, zt4, zt5, zt6, e2_2, e2_10, e2_11, e4_2, e4_3, e4_4, e4_10, e4_11, e5_2, e5_3, e5_4, e5_10, e5_11, e6_2, e6_3, e6_4, e6_10, e6_11, e36_2, e36_3, e36_4, e36_10, e36_11, e38_2, e38_3, e38_4, e38_10, e38_11]
            have gl60 := And.intro (tg_lo t38 (sr sh r0 3) ((((7) * (x1)) + (3)).toNat)) (tg_hi t38 (sr sh r0 3) ((((7) * (x1)) + (3)).toNat))
            have gm60 := (f38.g).2.1 ((((7) * (x1)) + (3)).toNat) (by omega)
            try simp only [zt0, zt1, zt2, zt3, zt4, zt5, zt6, e2_2, e2_10, e2_11, e4_2, e4_3, e4_4, e4_10, e4_11, e5_2, e5_3, e5_4, e5_10, e5_11, e6_2, e6_3, e6_4, e6_10, e6_11, e36_2, e36_3, e36_4, e36_10, e36_11, e38_2, e38_3, e38_4, e38_10, e38_11] at gl60
            try simp only [zt0, zt1, zt2, zt3, zt4, zt5, zt6, e2_2, e2_10, e2_11, e4_2, e4_3, e4_4, e4_10, e4_11, e5_2, e5_3, e5_4, e5_10, e5_11, e6_2, e6_3, e6_4, e6_10, e6_11, e36_2, e36_3, e36_4, e36_10, e36_11, e38_2, e38_3, e38_4, e38_10, e38_11] at gm60
            refine zok_ck ((q0).1) ?_
            refine zok_c0 (s144 (q0) (by omega) (by omega) (f38.g)) (fun t61 p61 => ?_)
            obtain ⟨f61, p61⟩ := p61
            have e61_2 : ∀ k, tg t61 (sr sh r0 2) k = tg t38 (sr sh r0 2) k := fun k => f61.eq q0 (i := 2) (by decide) (by decide) k
            have e61_3 : ∀ k, tg t61 (sr sh r0 3) k = tg t38 (sr sh r0 3) k := fun k => f61.eq q0 (i := 3) (by decide) (by decide) k
            have e61_4 : ∀ k, tg t61 (sr sh r0 4) k = tg t38 (sr sh r0 4) k := fun k => f61.eq q0 (i := 4) (by decide) (by decide) k
            have e61_10 : ∀ k, tg t61 (sr sh r0 10) k = tg t38 (sr sh r0 10) k := fun k => f61.eq q0 (i := 10) (by decide) (by decide) k
            have e61_11 : ∀ k, tg t61 (sr sh r0 11) k = tg t38 (sr sh r0 11) k := fun k => f61.eq q0 (i := 11) (by decide) (by decide) k
            try simp only [zt0, zt1, zt2, zt3, zt4, zt5, zt6, e2_2, e2_10, e2_11, e4_2, e4_3, e4_4, e4_10, e4_11, e5_2, e5_3, e5_4, e5_10, e5_11, e6_2, e6_3, e6_4, e6_10, e6_11, e36_2, e36_3, e36_4, e36_10, e36_11, e38_2, e38_3, e38_4, e38_10, e38_11, e61_2, e61_3, e61_4, e61_10, e61_11] at p61
            have g62_1 := And.intro (tg_lo t61 r0 5) (tg_hi t61 r0 5)
            simp only [zput_s, zput_n, ti_g, oI_add, oI_sub, oI_mul, zt0, zt1, zt2, zt3, zt4, zt5, zt6, e2_2, e2_10, e2_11, e4_2, e4_3, e4_4, e4_10, e4_11, e5_2, e5_3, e5_4, e5_10, e5_11, e6_2, e6_3, e6_4, e6_10, e6_11, e36_2, e36_3, e36_4, e36_10, e36_11, e38_2, e38_3, e38_4, e38_10, e38_11, e61_2, e61_3, e61_4, e61_10, e61_11, b151_90]
            try simp only [zput_s, zput_n, ti_g, oI_add, oI_sub, oI_mul]
            refine zok_ck ((q0).1) ?_
            first | refine zok_ne (by omega) (fun c63 => ?_) (fun c63 => ?_) | refine zok_if (fun c63 => ?_) (fun c63 => ?_)
            · first | exact qI_rt (by omega) (by omega) ⟨(FrV.trans (Ns := [0, 3, 4, 14]) ((FrV.trans (Ns := [0, 3, 4, 14]) ((FrV.trans (Ns := [0, 3, 4, 14]) ((FrV.trans (Ns := [0, 3, 4, 14]) ((FrV.trans (Ns := [0, 3, 4, 14]) ((FrV.trans (Ns := [0, 3, 4, 14]) ((FrV.trans (Ns := [0, 3, 4, 14]) (FrV.refl (Ls := []) G) f2 (by decide) (by decide))) f4 (by decide) (by decide))) f5 (by decide) (by decide))) f6 (by decide) (by decide))) f36 (by decide) (by decide))) f38 (by decide) (by decide))) f61 (by decide) (by decide)), by omega⟩ | exact qI_nf ⟨(FrV.trans (Ns := [0, 3, 4, 14]) ((FrV.trans (Ns := [0, 3, 4, 14]) ((FrV.trans (Ns := [0, 3, 4, 14]) ((FrV.trans (Ns := [0, 3, 4, 14]) ((FrV.trans (Ns := [0, 3, 4, 14]) ((FrV.trans (Ns := [0, 3, 4, 14]) ((FrV.trans (Ns := [0, 3, 4, 14]) (FrV.refl (Ls := []) G) f2 (by decide) (by decide))) f4 (by decide) (by decide))) f5 (by decide) (by decide))) f6 (by decide) (by decide))) f36 (by decide) (by decide))) f38 (by decide) (by decide))) f61 (by decide) (by decide)), by omega⟩
            · first | exact qI_rt (by omega) (by omega) ⟨(FrV.trans (Ns := [0, 3, 4, 14]) ((FrV.trans (Ns := [0, 3, 4, 14]) ((FrV.trans (Ns := [0, 3, 4, 14]) ((FrV.trans (Ns := [0, 3, 4, 14]) ((FrV.trans (Ns := [0, 3, 4, 14]) ((FrV.trans (Ns := [0, 3, 4, 14]) ((FrV.trans (Ns := [0, 3, 4, 14]) (FrV.refl (Ls := []) G) f2 (by decide) (by decide))) f4 (by decide) (by decide))) f5 (by decide) (by decide))) f6 (by decide) (by decide))) f36 (by decide) (by decide))) f38 (by decide) (by decide))) f61 (by decide) (by decide)), by omega⟩ | exact qI_nf ⟨(FrV.trans (Ns := [0, 3, 4, 14]) ((FrV.trans (Ns := [0, 3, 4, 14]) ((FrV.trans (Ns := [0, 3, 4, 14]) ((FrV.trans (Ns := [0, 3, 4, 14]) ((FrV.trans (Ns := [0, 3, 4, 14]) ((FrV.trans (Ns := [0, 3, 4, 14]) ((FrV.trans (Ns := [0, 3, 4, 14]) (FrV.refl (Ls := []) G) f2 (by decide) (by decide))) f4 (by decide) (by decide))) f5 (by decide) (by decide))) f6 (by decide) (by decide))) f36 (by decide) (by decide))) f38 (by decide) (by decide))) f61 (by decide) (by decide)), by omega⟩
/-! X9_hostOf -/
theorem s169 {sh : zSh} {t : zSt} {MB : Nat} {r0 : Nat} (q0 : zMd sh MB r0) {x1 : Int} (u1 : -2147483648 ≤ x1 ∧ x1 ≤ 2147483647) (d1 : 0 ≤ x1 ∧ x1 ≤ 7) (G : GI sh r0 t) : zok (zcl zP 169 [zR r0, zI (oI x1)] (sh, t)) (qI (fun x t' => FrV sh r0 [0, 3, 4, 14] t t' ∧ (0 ≤ x ∧ x ≤ 4)) sh) := by
  have ha0_1 : (sk sh (sr sh r0 1)).2 = 21000 := by rw [q0.2.2.2.2.1]
  have ha0_2 : (sk sh (sr sh r0 2)).2 = 14 := by rw [q0.2.2.2.2.2.1]
  have ha0_3 : (sk sh (sr sh r0 3)).2 = 98 := by rw [q0.2.2.2.2.2.2.1]
  have ha0_4 : (sk sh (sr sh r0 4)).2 = 98 := by rw [q0.2.2.2.2.2.2.2.1]
  have ha0_8 : (sk sh (sr sh r0 8)).2 = 1500 := by rw [q0.2.2.2.2.2.2.2.2.1]
  have ha0_9 : (sk sh (sr sh r0 9)).2 = 10500 := by rw [q0.2.2.2.2.2.2.2.2.2.1]
  have ha0_10 : (sk sh (sr sh r0 10)).2 = 7 := by rw [q0.2.2.2.2.2.2.2.2.2.2.1]
  have ha0_11 : (sk sh (sr sh r0 11)).2 = 7 := by rw [q0.2.2.2.2.2.2.2.2.2.2.2.1]
  have ha0_12 : (sk sh (sr sh r0 12)).2 = 1500 := by rw [q0.2.2.2.2.2.2.2.2.2.2.2.2.1]
  have ha0_13 : (sk sh (sr sh r0 13)).2 = 1500 := by rw [q0.2.2.2.2.2.2.2.2.2.2.2.2.2.1]
  have ha0_14 : (sk sh (sr sh r0 14)).2 = 20 := by rw [q0.2.2.2.2.2.2.2.2.2.2.2.2.2.2]
  have gz := G.1 (x1).toNat (by omega)
  rw [b169_0]
  try simp only [zput_s, zput_n, ti_g, oI_add, oI_sub, oI_mul]
  refine zok_ck ((q0).1) ?_
  refine zok_c0 (s138 (q0) (by omega) (by first | (omega) | ((try simp only [zt0, zt1, zt2, zt3, zt4, zt5, zt6]); omega)) (by first | (omega) | ((try simp only [zt0, zt1, zt2, zt3, zt4, zt5, zt6]); omega)) (G)) (fun t2 p2 => ?_)
  obtain ⟨f2, p2⟩ := p2
  have e2_2 : ∀ k, tg t2 (sr sh r0 2) k = tg t (sr sh r0 2) k := fun k => f2.eq q0 (i := 2) (by decide) (by decide) k
  have e2_10 : ∀ k, tg t2 (sr sh r0 10) k = tg t (sr sh r0 10) k := fun k => f2.eq q0 (i := 10) (by decide) (by decide) k
  have e2_11 : ∀ k, tg t2 (sr sh r0 11) k = tg t (sr sh r0 11) k := fun k => f2.eq q0 (i := 11) (by decide) (by decide) k
  try simp only [zt0, zt1, zt2, zt3, zt4, zt5, zt6, e2_2, e2_10, e2_11] at p2
  simp only [zput_s, zput_n, ti_g, oI_add, oI_sub, oI_mul, zt0, zt1, zt2, zt3, zt4, zt5, zt6, e2_2, e2_10, e2_11, b169_5]
  try simp only [zput_s, zput_n, ti_g, oI_add, oI_sub, oI_mul]
  refine zok_ck ((q0).1) ?_
  refine zok_ck ⟨(by rw [(q0).2.2.2.2.2.2.1]), zin_o (by omega) (by omega) (by omega)⟩ ?_
  try rw [nN_o (a := ((7) * (x1)) + (2)) (by omega) (by omega)]
  try simp only [zput_s, zput_n, ti_g, oI_add, oI_sub, oI_mul, zt0, zt1, zt2, zt3, zt4, zt5, zt6, e2_2, e2_10, e2_11]
  have gl4 := And.intro (tg_lo t2 (sr sh r0 3) ((((7) * (x1)) + (2)).toNat)) (tg_hi t2 (sr sh r0 3) ((((7) * (x1)) + (2)).toNat))
  have gm4 := (f2.g).2.1 ((((7) * (x1)) + (2)).toNat) (by omega)
  try simp only [zt0, zt1, zt2, zt3, zt4, zt5, zt6, e2_2, e2_10, e2_11] at gl4
  try simp only [zt0, zt1, zt2, zt3, zt4, zt5, zt6, e2_2, e2_10, e2_11] at gm4
  refine zok_ck ((q0).1) ?_
  refine zok_ck ⟨(by rw [(q0).2.2.2.2.2.2.2.1]), zin_o (by omega) (by omega) (by omega)⟩ ?_
  try rw [nN_o (a := ((7) * (x1)) + (2)) (by omega) (by omega)]
  try simp only [zput_s, zput_n, ti_g, oI_add, oI_sub, oI_mul, zt0, zt1, zt2, zt3, zt4, zt5, zt6, e2_2, e2_10, e2_11]
  have gl5 := And.intro (tg_lo t2 (sr sh r0 4) ((((7) * (x1)) + (2)).toNat)) (tg_hi t2 (sr sh r0 4) ((((7) * (x1)) + (2)).toNat))
  have gm5 := (f2.g).2.1 ((((7) * (x1)) + (2)).toNat) (by omega)
  try simp only [zt0, zt1, zt2, zt3, zt4, zt5, zt6, e2_2, e2_10, e2_11] at gl5
  try simp only [zt0, zt1, zt2, zt3, zt4, zt5, zt6, e2_2, e2_10, e2_11] at gm5
  first | refine zok_le (by omega) (fun c6 => ?_) (fun c6 => ?_) | refine zok_if (fun c6 => ?_) (fun c6 => ?_)
  · refine zok_ck ((q0).1) ?_
    refine zok_pI (s128 (q0) (by omega) (by omega) (by first | (omega) | ((try simp only [zt0, zt1, zt2, zt3, zt4, zt5, zt6, e2_2, e2_10, e2_11]); omega)) (f2.g)) (fun y7 u7 p7 => ?_)
    try simp only [zt0, zt1, zt2, zt3, zt4, zt5, zt6, e2_2, e2_10, e2_11] at p7
    simp only [zput_s, zput_n, ti_g, oI_add, oI_sub, oI_mul, zt0, zt1, zt2, zt3, zt4, zt5, zt6, e2_2, e2_10, e2_11, b169_41]
    try simp only [zput_s, zput_n, ti_g, oI_add, oI_sub, oI_mul]
    first | refine zok_ne (by omega) (fun c9 => ?_) (fun c9 => ?_) | refine zok_if (fun c9 => ?_) (fun c9 => ?_)
    · refine zok_ck ((q0).1) ?_
      refine zok_cI (s139 (q0) (by omega) (by omega) (by omega) (by first | (omega) | ((try simp only [zt0, zt1, zt2, zt3, zt4, zt5, zt6, e2_2, e2_10, e2_11]); omega)) (by first | (omega) | ((try simp only [zt0, zt1, zt2, zt3, zt4, zt5, zt6, e2_2, e2_10, e2_11]); omega)) (by first | (omega) | ((try simp only [zt0, zt1, zt2, zt3, zt4, zt5, zt6, e2_2, e2_10, e2_11]); omega)) (f2.g)) (fun y10 t10 u10 p10 => ?_)
      obtain ⟨f10, p10⟩ := p10
      have e10_2 : ∀ k, tg t10 (sr sh r0 2) k = tg t2 (sr sh r0 2) k := fun k => f10.eq q0 (i := 2) (by decide) (by decide) k
      have e10_3 : ∀ k, tg t10 (sr sh r0 3) k = tg t2 (sr sh r0 3) k := fun k => f10.eq q0 (i := 3) (by decide) (by decide) k
      have e10_4 : ∀ k, tg t10 (sr sh r0 4) k = tg t2 (sr sh r0 4) k := fun k => f10.eq q0 (i := 4) (by decide) (by decide) k
      have e10_10 : ∀ k, tg t10 (sr sh r0 10) k = tg t2 (sr sh r0 10) k := fun k => f10.eq q0 (i := 10) (by decide) (by decide) k
      have e10_11 : ∀ k, tg t10 (sr sh r0 11) k = tg t2 (sr sh r0 11) k := fun k => f10.eq q0 (i := 11) (by decide) (by decide) k
      try simp only [zt0, zt1, zt2, zt3, zt4, zt5, zt6, e2_2, e2_10, e2_11, e10_2, e10_3, e10_4, e10_10, e10_11] at p10
      simp only [zput_s, zput_n, ti_g, oI_add, oI_sub, oI_mul, zt0, zt1, zt2, zt3, zt4, zt5, zt6, e2_2, e2_10, e2_11, e10_2, e10_3, e10_4, e10_10, e10_11, b169_58]
      try simp only [zput_s, zput_n, ti_g, oI_add, oI_sub, oI_mul]
      first | refine zok_eq (by omega) (fun c12 => ?_) (fun c12 => ?_) | refine zok_if (fun c12 => ?_) (fun c12 => ?_)
      · first | exact qI_rt (by omega) (by omega) ⟨(FrV.trans (Ns := [0, 3, 4, 14]) ((FrV.trans (Ns := [0, 3, 4, 14]) (FrV.refl (Ls := []) G) f2 (by decide) (by decide))) f10 (by decide) (by decide)), by omega⟩ | exact qI_nf ⟨(FrV.trans (Ns := [0, 3, 4, 14]) ((FrV.trans (Ns := [0, 3, 4, 14]) (FrV.refl (Ls := []) G) f2 (by decide) (by decide))) f10 (by decide) (by decide)), by omega⟩
      · first | exact qI_rt (by omega) (by omega) ⟨(FrV.trans (Ns := [0, 3, 4, 14]) ((FrV.trans (Ns := [0, 3, 4, 14]) (FrV.refl (Ls := []) G) f2 (by decide) (by decide))) f10 (by decide) (by decide)), by omega⟩ | exact qI_nf ⟨(FrV.trans (Ns := [0, 3, 4, 14]) ((FrV.trans (Ns := [0, 3, 4, 14]) (FrV.refl (Ls := []) G) f2 (by decide) (by decide))) f10 (by decide) (by decide)), by omega⟩
    · first | refine zok_ne (by omega) (fun c13 => ?_) (fun c13 => ?_) | refine zok_if (fun c13 => ?_) (fun c13 => ?_)
      · refine zok_ck ((q0).1) ?_
        refine zok_cI (s142 (q0) (by omega) (by omega) (by omega) (by first | (omega) | ((try simp only [zt0, zt1, zt2, zt3, zt4, zt5, zt6, e2_2, e2_10, e2_11]); omega)) (by first | (omega) | ((try simp only [zt0, zt1, zt2, zt3, zt4, zt5, zt6, e2_2, e2_10, e2_11]); omega)) (by first | (omega) | ((try simp only [zt0, zt1, zt2, zt3, zt4, zt5, zt6, e2_2, e2_10, e2_11]); omega)) (f2.g)) (fun y14 t14 u14 p14 => ?_)
        obtain ⟨f14, p14⟩ := p14
        have e14_2 : ∀ k, tg t14 (sr sh r0 2) k = tg t2 (sr sh r0 2) k := fun k => f14.eq q0 (i := 2) (by decide) (by decide) k
        have e14_3 : ∀ k, tg t14 (sr sh r0 3) k = tg t2 (sr sh r0 3) k := fun k => f14.eq q0 (i := 3) (by decide) (by decide) k
        have e14_4 : ∀ k, tg t14 (sr sh r0 4) k = tg t2 (sr sh r0 4) k := fun k => f14.eq q0 (i := 4) (by decide) (by decide) k
        have e14_10 : ∀ k, tg t14 (sr sh r0 10) k = tg t2 (sr sh r0 10) k := fun k => f14.eq q0 (i := 10) (by decide) (by decide) k
        have e14_11 : ∀ k, tg t14 (sr sh r0 11) k = tg t2 (sr sh r0 11) k := fun k => f14.eq q0 (i := 11) (by decide) (by decide) k
        try simp only [zt0, zt1, zt2, zt3, zt4, zt5, zt6, e2_2, e2_10, e2_11, e14_2, e14_3, e14_4, e14_10, e14_11] at p14
        simp only [zput_s, zput_n, ti_g, oI_add, oI_sub, oI_mul, zt0, zt1, zt2, zt3, zt4, zt5, zt6, e2_2, e2_10, e2_11, e14_2, e14_3, e14_4, e14_10, e14_11, b169_78]
        try simp only [zput_s, zput_n, ti_g, oI_add, oI_sub, oI_mul]
        first | refine zok_eq (by omega) (fun c16 => ?_) (fun c16 => ?_) | refine zok_if (fun c16 => ?_) (fun c16 => ?_)
        · first | exact qI_rt (by omega) (by omega) ⟨(FrV.trans (Ns := [0, 3, 4, 14]) ((FrV.trans (Ns := [0, 3, 4, 14]) (FrV.refl (Ls := []) G) f2 (by decide) (by decide))) f14 (by decide) (by decide)), by omega⟩ | exact qI_nf ⟨(FrV.trans (Ns := [0, 3, 4, 14]) ((FrV.trans (Ns := [0, 3, 4, 14]) (FrV.refl (Ls := []) G) f2 (by decide) (by decide))) f14 (by decide) (by decide)), by omega⟩
        · first | exact qI_rt (by omega) (by omega) ⟨(FrV.trans (Ns := [0, 3, 4, 14]) ((FrV.trans (Ns := [0, 3, 4, 14]) (FrV.refl (Ls := []) G) f2 (by decide) (by decide))) f14 (by decide) (by decide)), by omega⟩ | exact qI_nf ⟨(FrV.trans (Ns := [0, 3, 4, 14]) ((FrV.trans (Ns := [0, 3, 4, 14]) (FrV.refl (Ls := []) G) f2 (by decide) (by decide))) f14 (by decide) (by decide)), by omega⟩
      · refine zok_ck ((q0).1) ?_
        refine zok_cI (s139 (q0) (by omega) (by omega) (by omega) (by first | (omega) | ((try simp only [zt0, zt1, zt2, zt3, zt4, zt5, zt6, e2_2, e2_10, e2_11]); omega)) (by first | (omega) | ((try simp only [zt0, zt1, zt2, zt3, zt4, zt5, zt6, e2_2, e2_10, e2_11]); omega)) (by first | (omega) | ((try simp only [zt0, zt1, zt2, zt3, zt4, zt5, zt6, e2_2, e2_10, e2_11]); omega)) (f2.g)) (fun y17 t17 u17 p17 => ?_)
        obtain ⟨f17, p17⟩ := p17
        have e17_2 : ∀ k, tg t17 (sr sh r0 2) k = tg t2 (sr sh r0 2) k := fun k => f17.eq q0 (i := 2) (by decide) (by decide) k
        have e17_3 : ∀ k, tg t17 (sr sh r0 3) k = tg t2 (sr sh r0 3) k := fun k => f17.eq q0 (i := 3) (by decide) (by decide) k
        have e17_4 : ∀ k, tg t17 (sr sh r0 4) k = tg t2 (sr sh r0 4) k := fun k => f17.eq q0 (i := 4) (by decide) (by decide) k
        have e17_10 : ∀ k, tg t17 (sr sh r0 10) k = tg t2 (sr sh r0 10) k := fun k => f17.eq q0 (i := 10) (by decide) (by decide) k
        have e17_11 : ∀ k, tg t17 (sr sh r0 11) k = tg t2 (sr sh r0 11) k := fun k => f17.eq q0 (i := 11) (by decide) (by decide) k
        try simp only [zt0, zt1, zt2, zt3, zt4, zt5, zt6, e2_2, e2_10, e2_11, e17_2, e17_3, e17_4, e17_10, e17_11] at p17
        simp only [zput_s, zput_n, ti_g, oI_add, oI_sub, oI_mul, zt0, zt1, zt2, zt3, zt4, zt5, zt6, e2_2, e2_10, e2_11, e17_2, e17_3, e17_4, e17_10, e17_11, b169_58]
        try simp only [zput_s, zput_n, ti_g, oI_add, oI_sub, oI_mul]
        first | refine zok_eq (by omega) (fun c19 => ?_) (fun c19 => ?_) | refine zok_if (fun c19 => ?_) (fun c19 => ?_)
        · first | exact qI_rt (by omega) (by omega) ⟨(FrV.trans (Ns := [0, 3, 4, 14]) ((FrV.trans (Ns := [0, 3, 4, 14]) (FrV.refl (Ls := []) G) f2 (by decide) (by decide))) f17 (by decide) (by decide)), by omega⟩ | exact qI_nf ⟨(FrV.trans (Ns := [0, 3, 4, 14]) ((FrV.trans (Ns := [0, 3, 4, 14]) (FrV.refl (Ls := []) G) f2 (by decide) (by decide))) f17 (by decide) (by decide)), by omega⟩
        · first | exact qI_rt (by omega) (by omega) ⟨(FrV.trans (Ns := [0, 3, 4, 14]) ((FrV.trans (Ns := [0, 3, 4, 14]) (FrV.refl (Ls := []) G) f2 (by decide) (by decide))) f17 (by decide) (by decide)), by omega⟩ | exact qI_nf ⟨(FrV.trans (Ns := [0, 3, 4, 14]) ((FrV.trans (Ns := [0, 3, 4, 14]) (FrV.refl (Ls := []) G) f2 (by decide) (by decide))) f17 (by decide) (by decide)), by omega⟩
  · first | exact qI_rt (by omega) (by omega) ⟨(FrV.trans (Ns := [0, 3, 4, 14]) (FrV.refl (Ls := []) G) f2 (by decide) (by decide)), by omega⟩ | exact qI_nf ⟨(FrV.trans (Ns := [0, 3, 4, 14]) (FrV.refl (Ls := []) G) f2 (by decide) (by decide)), by omega⟩
/-! X9_join -/
theorem l158_J {sh : zSh} {t0 : zSt} {MB : Nat} {r0 : Nat} (q0 : zMd sh MB r0) {x1 : Int} (u1 : -2147483648 ≤ x1 ∧ x1 ≤ 2147483647) (d1 : 0 ≤ x1 ∧ x1 ≤ 13) (d2 : (x1 < 8 → zJs sh r0 t0 7 ≤ 400) ∧ (x1 = 13 → zJs sh r0 t0 7 ≤ 400) ∧ zJs sh r0 t0 7 + 1500 * x1 ≤ 21000) (G : GI sh r0 t0) : ∀ (n : Nat), (∀ (x2 : Int)  (t1 : zSt), FrV sh r0 [1, 2] t0 t1 → (-2147483648 ≤ x2 ∧ x2 ≤ 2147483647) ∧ (0 ≤ x2 ∧ x2 ≤ 7) ∧ (tg t1 (sr sh r0 2) (x1).toNat = zJs sh r0 t0 (x2).toNat) → (∀ k, k ≠ (x1).toNat → tg t1 (sr sh r0 2) k = tg t0 (sr sh r0 2) k) → (10 * (7 - x2) + 5).toNat < n → zok (zev zP 158 9 [some (zR r0), some (zI (oI x1)), some (zI (oI x2))] [] (sh, t1)) (zq0 (fun t' => FrV sh r0 [1, 2] t0 t' ∧ (tg t' (sr sh r0 2) (x1).toNat = zJs sh r0 t0 7 ∧ ∀ k, k ≠ (x1).toNat → tg t' (sr sh r0 2) k = tg t0 (sr sh r0 2) k)) sh)) ∧ (∀ (x2 : Int)  (t1 : zSt), FrV sh r0 [1, 2] t0 t1 → (-2147483648 ≤ x2 ∧ x2 ≤ 2147483647) ∧ (0 ≤ x2 ∧ x2 ≤ 6) ∧ (tg t1 (sr sh r0 2) (x1).toNat = zJs sh r0 t0 (x2).toNat + (if x2 = 3 ∨ x2 = 5 ∨ x2 = 6 then 1 else 0)) ∧ (tg t0 (sr sh r0 11) (x2).toNat ≠ 0) → (∀ k, k ≠ (x1).toNat → tg t1 (sr sh r0 2) k = tg t0 (sr sh r0 2) k) → (10 * (7 - x2) + 4).toNat < n → zok (zev zP 158 67 [some (zR r0), some (zI (oI x1)), some (zI (oI x2))] [] (sh, t1)) (zq0 (fun t' => FrV sh r0 [1, 2] t0 t' ∧ (tg t' (sr sh r0 2) (x1).toNat = zJs sh r0 t0 7 ∧ ∀ k, k ≠ (x1).toNat → tg t' (sr sh r0 2) k = tg t0 (sr sh r0 2) k)) sh)) ∧ (∀ (x2 : Int)  (t1 : zSt), FrV sh r0 [1, 2] t0 t1 → (-2147483648 ≤ x2 ∧ x2 ≤ 2147483647) ∧ (0 ≤ x2 ∧ x2 ≤ 6) ∧ (tg t1 (sr sh r0 2) (x1).toNat = zJs sh r0 t0 (x2).toNat + (if x2 = 3 ∨ x2 = 5 ∨ x2 = 6 then 1 else 0) + (if x2 = 2 ∧ tg t0 (sr sh r0 11) 1 = 0 then 2 else 0)) ∧ (tg t0 (sr sh r0 11) (x2).toNat ≠ 0) → (∀ k, k ≠ (x1).toNat → tg t1 (sr sh r0 2) k = tg t0 (sr sh r0 2) k) → (10 * (7 - x2) + 3).toNat < n → zok (zev zP 158 95 [some (zR r0), some (zI (oI x1)), some (zI (oI x2))] [] (sh, t1)) (zq0 (fun t' => FrV sh r0 [1, 2] t0 t' ∧ (tg t' (sr sh r0 2) (x1).toNat = zJs sh r0 t0 7 ∧ ∀ k, k ≠ (x1).toNat → tg t' (sr sh r0 2) k = tg t0 (sr sh r0 2) k)) sh)) ∧ (∀ (x2 : Int)  (t1 : zSt), FrV sh r0 [1, 2] t0 t1 → (-2147483648 ≤ x2 ∧ x2 ≤ 2147483647) ∧ (0 ≤ x2 ∧ x2 ≤ 6) ∧ (tg t1 (sr sh r0 2) (x1).toNat = zJs sh r0 t0 (x2).toNat + (if x2 = 3 ∨ x2 = 5 ∨ x2 = 6 then 1 else 0) + (if x2 = 2 ∧ tg t0 (sr sh r0 11) 1 = 0 then 2 else 0) + (if x2 = 1 then 2 else 0)) ∧ (tg t0 (sr sh r0 11) (x2).toNat ≠ 0) → (∀ k, k ≠ (x1).toNat → tg t1 (sr sh r0 2) k = tg t0 (sr sh r0 2) k) → (10 * (7 - x2) + 2).toNat < n → zok (zev zP 158 114 [some (zR r0), some (zI (oI x1)), some (zI (oI x2))] [] (sh, t1)) (zq0 (fun t' => FrV sh r0 [1, 2] t0 t' ∧ (tg t' (sr sh r0 2) (x1).toNat = zJs sh r0 t0 7 ∧ ∀ k, k ≠ (x1).toNat → tg t' (sr sh r0 2) k = tg t0 (sr sh r0 2) k)) sh)) ∧ (∀ (x2 : Int)  (t1 : zSt), FrV sh r0 [1, 2] t0 t1 → (-2147483648 ≤ x2 ∧ x2 ≤ 2147483647) ∧ (0 ≤ x2 ∧ x2 ≤ 6) ∧ (tg t1 (sr sh r0 2) (x1).toNat = zJs sh r0 t0 (x2).toNat + zJ sh r0 t0 (x2).toNat) → (∀ k, k ≠ (x1).toNat → tg t1 (sr sh r0 2) k = tg t0 (sr sh r0 2) k) → (10 * (7 - x2) + 1).toNat < n → zok (zev zP 158 145 [some (zR r0), some (zI (oI x1)), some (zI (oI x2))] [] (sh, t1)) (zq0 (fun t' => FrV sh r0 [1, 2] t0 t' ∧ (tg t' (sr sh r0 2) (x1).toNat = zJs sh r0 t0 7 ∧ ∀ k, k ≠ (x1).toNat → tg t' (sr sh r0 2) k = tg t0 (sr sh r0 2) k)) sh)) := by
  intro n
  induction n with
  | zero => exact ⟨(by intro x2  t1 f0 _ _ hm; omega), (by intro x2  t1 f0 _ _ hm; omega), (by intro x2  t1 f0 _ _ hm; omega), (by intro x2  t1 f0 _ _ hm; omega), (by intro x2  t1 f0 _ _ hm; omega)⟩
  | succ n ih =>
    refine ⟨?_, ?_⟩
    · intro x2  t1 f0 hv hq1 hm
      have ha0_1 : (sk sh (sr sh r0 1)).2 = 21000 := by rw [q0.2.2.2.2.1]
      have ha0_2 : (sk sh (sr sh r0 2)).2 = 14 := by rw [q0.2.2.2.2.2.1]
      have ha0_3 : (sk sh (sr sh r0 3)).2 = 98 := by rw [q0.2.2.2.2.2.2.1]
      have ha0_4 : (sk sh (sr sh r0 4)).2 = 98 := by rw [q0.2.2.2.2.2.2.2.1]
      have ha0_8 : (sk sh (sr sh r0 8)).2 = 1500 := by rw [q0.2.2.2.2.2.2.2.2.1]
      have ha0_9 : (sk sh (sr sh r0 9)).2 = 10500 := by rw [q0.2.2.2.2.2.2.2.2.2.1]
      have ha0_10 : (sk sh (sr sh r0 10)).2 = 7 := by rw [q0.2.2.2.2.2.2.2.2.2.2.1]
      have ha0_11 : (sk sh (sr sh r0 11)).2 = 7 := by rw [q0.2.2.2.2.2.2.2.2.2.2.2.1]
      have ha0_12 : (sk sh (sr sh r0 12)).2 = 1500 := by rw [q0.2.2.2.2.2.2.2.2.2.2.2.2.1]
      have ha0_13 : (sk sh (sr sh r0 13)).2 = 1500 := by rw [q0.2.2.2.2.2.2.2.2.2.2.2.2.2.1]
      have ha0_14 : (sk sh (sr sh r0 14)).2 = 20 := by rw [q0.2.2.2.2.2.2.2.2.2.2.2.2.2.2]
      have e0_3 : ∀ k, tg t1 (sr sh r0 3) k = tg t0 (sr sh r0 3) k := fun k => f0.eq q0 (i := 3) (by decide) (by decide) k
      have e0_4 : ∀ k, tg t1 (sr sh r0 4) k = tg t0 (sr sh r0 4) k := fun k => f0.eq q0 (i := 4) (by decide) (by decide) k
      have e0_10 : ∀ k, tg t1 (sr sh r0 10) k = tg t0 (sr sh r0 10) k := fun k => f0.eq q0 (i := 10) (by decide) (by decide) k
      have e0_11 : ∀ k, tg t1 (sr sh r0 11) k = tg t0 (sr sh r0 11) k := fun k => f0.eq q0 (i := 11) (by decide) (by decide) k
      try simp only [zt0, zt1, zt2, zt3, zt4, zt5, zt6, e0_3, e0_4, e0_10, e0_11] at hv
      try simp only [zt0, zt1, zt2, zt3, zt4, zt5, zt6, e0_3, e0_4, e0_10, e0_11] at hm
      have hJ := zJs_s (sh := sh) (m := r0) (t := t0) (x := x2) (by omega)
      try simp only [zt0, zt1, zt2, zt3, zt4, zt5, zt6, e0_3, e0_4, e0_10, e0_11] at hJ
      have hI := zJ_i (sh := sh) (m := r0) (t := t0) (x := x2) (by omega)
      try simp only [zt0, zt1, zt2, zt3, zt4, zt5, zt6, e0_3, e0_4, e0_10, e0_11] at hI
      have hM : x2 ≤ 6 → zJs sh r0 t0 (x2 + 1).toNat ≤ zJs sh r0 t0 7 := fun h => zJs_le G (by omega) h
      try simp only [zt0, zt1, zt2, zt3, zt4, zt5, zt6, e0_3, e0_4, e0_10, e0_11] at hM
      have gz := (f0.g).1 (x1).toNat (by omega)
      try simp only [zt0, zt1, zt2, zt3, zt4, zt5, zt6, e0_3, e0_4, e0_10, e0_11] at gz
      have gy := (f0.g).2.2.1 (x2).toNat
      try simp only [zt0, zt1, zt2, zt3, zt4, zt5, zt6, e0_3, e0_4, e0_10, e0_11] at gy
      have g0 := zJs_nn G (x := x2) (by omega)
      try simp only [zt0, zt1, zt2, zt3, zt4, zt5, zt6, e0_3, e0_4, e0_10, e0_11] at g0
      have h7 : x2 = 7 → zJs sh r0 t0 (x2).toNat = zJs sh r0 t0 7 := fun h => by rw [h]; rfl
      try simp only [zt0, zt1, zt2, zt3, zt4, zt5, zt6, e0_3, e0_4, e0_10, e0_11] at h7
      rw [b158_9]
      try simp only [zput_s, zput_n, ti_g, oI_add, oI_sub, oI_mul]
      first | refine zok_le (by omega) (fun c2 => ?_) (fun c2 => ?_) | refine zok_if (fun c2 => ?_) (fun c2 => ?_)
      · exact q0_rt ⟨f0, ⟨by omega, hq1⟩⟩
      · refine zok_ck ((q0).1) ?_
        refine zok_ck ⟨Or.inr (by rw [(q0).2.2.2.2.2.2.2.2.2.2.2.1]), zin_o (by omega) (by omega) (by omega)⟩ ?_
        try rw [nN_o (a := x2) (by omega) (by omega)]
        try simp only [zput_s, zput_n, ti_g, oI_add, oI_sub, oI_mul, zt0, zt1, zt2, zt3, zt4, zt5, zt6, e0_3, e0_4, e0_10, e0_11]
        have gl3 := And.intro (tg_lo t1 (sr sh r0 11) ((x2).toNat)) (tg_hi t1 (sr sh r0 11) ((x2).toNat))
        have gm3 := (f0.g).2.2.2.1 ((x2).toNat) (by omega)
        try simp only [zt0, zt1, zt2, zt3, zt4, zt5, zt6, e0_3, e0_4, e0_10, e0_11] at gl3
        try simp only [zt0, zt1, zt2, zt3, zt4, zt5, zt6, e0_3, e0_4, e0_10, e0_11] at gm3
        first | refine zok_eq (by omega) (fun c4 => ?_) (fun c4 => ?_) | refine zok_if (fun c4 => ?_) (fun c4 => ?_)
        · try simp only [zput_s, zput_n, ti_g, oI_add, oI_sub, oI_mul]
          exact ih.2.2.2.2 _ _ (f0) (by first | omega | ((try simp only [zt0, zt1, zt2, zt3, zt4, zt5, zt6, e0_3, e0_4, e0_10, e0_11]); omega)) (fun k hk => by ((try have c0 := hq1 k hk); (try have c0 := hq1 k); (try simp only [zt0, zt1, zt2, zt3, zt4, zt5, zt6] at *); omega)) (by first | omega | ((try simp only [zt0, zt1, zt2, zt3, zt4, zt5, zt6, e0_3, e0_4, e0_10, e0_11]); omega))
        · first | refine zok_eq (by omega) (fun c5 => ?_) (fun c5 => ?_) | refine zok_if (fun c5 => ?_) (fun c5 => ?_)
          · simp only [zput_s, zput_n, ti_g, oI_add, oI_sub, oI_mul, zt0, zt1, zt2, zt3, zt4, zt5, zt6, e0_3, e0_4, e0_10, e0_11, b158_40]
            try simp only [zput_s, zput_n, ti_g, oI_add, oI_sub, oI_mul]
            first | refine zok_ne (by omega) (fun c7 => ?_) (fun c7 => ?_) | refine zok_if (fun c7 => ?_) (fun c7 => ?_)
            · first | refine zok_ne (by omega) (fun c8 => ?_) (fun c8 => ?_) | refine zok_if (fun c8 => ?_) (fun c8 => ?_)
              · simp only [zput_s, zput_n, ti_g, oI_add, oI_sub, oI_mul, zt0, zt1, zt2, zt3, zt4, zt5, zt6, e0_3, e0_4, e0_10, e0_11, b158_64]
                try simp only [zput_s, zput_n, ti_g, oI_add, oI_sub, oI_mul]
                refine zok_ck ((q0).1) ?_
                refine zok_c0 (s156 (q0) (by omega) (by omega) (by first | (omega) | ((try simp only [zt0, zt1, zt2, zt3, zt4, zt5, zt6, e0_3, e0_4, e0_10, e0_11]); omega)) (by first | (omega) | ((try simp only [zt0, zt1, zt2, zt3, zt4, zt5, zt6, e0_3, e0_4, e0_10, e0_11]); omega)) (f0.g)) (fun t10 p10 => ?_)
                obtain ⟨f10, p10⟩ := p10
                have e10_3 : ∀ k, tg t10 (sr sh r0 3) k = tg t1 (sr sh r0 3) k := fun k => f10.eq q0 (i := 3) (by decide) (by decide) k
                have e10_4 : ∀ k, tg t10 (sr sh r0 4) k = tg t1 (sr sh r0 4) k := fun k => f10.eq q0 (i := 4) (by decide) (by decide) k
                have e10_10 : ∀ k, tg t10 (sr sh r0 10) k = tg t1 (sr sh r0 10) k := fun k => f10.eq q0 (i := 10) (by decide) (by decide) k
                have e10_11 : ∀ k, tg t10 (sr sh r0 11) k = tg t1 (sr sh r0 11) k := fun k => f10.eq q0 (i := 11) (by decide) (by decide) k
                try simp only [zt0, zt1, zt2, zt3, zt4, zt5, zt6, e0_3, e0_4, e0_10, e0_11, e10_3, e10_4, e10_10, e10_11] at p10
                try simp only [zput_s, zput_n, ti_g, oI_add, oI_sub, oI_mul]
                exact ih.2.1 _ _ ((FrV.trans (Ns := [1, 2]) (f0) f10 (by decide) (by decide))) (by first | omega | ((try simp only [zt0, zt1, zt2, zt3, zt4, zt5, zt6, e0_3, e0_4, e0_10, e0_11, e10_3, e10_4, e10_10, e10_11]); omega)) (fun k hk => by ((try have c0 := hq1 k hk); (try have c0 := hq1 k); (have c1 := p10.2 k (by omega)); (try simp only [zt0, zt1, zt2, zt3, zt4, zt5, zt6] at *); omega)) (by first | omega | ((try simp only [zt0, zt1, zt2, zt3, zt4, zt5, zt6, e0_3, e0_4, e0_10, e0_11, e10_3, e10_4, e10_10, e10_11]); omega))
              · simp only [zput_s, zput_n, ti_g, oI_add, oI_sub, oI_mul, zt0, zt1, zt2, zt3, zt4, zt5, zt6, e0_3, e0_4, e0_10, e0_11, b158_64]
                try simp only [zput_s, zput_n, ti_g, oI_add, oI_sub, oI_mul]
                refine zok_ck ((q0).1) ?_
                refine zok_c0 (s156 (q0) (by omega) (by omega) (by first | (omega) | ((try simp only [zt0, zt1, zt2, zt3, zt4, zt5, zt6, e0_3, e0_4, e0_10, e0_11]); omega)) (by first | (omega) | ((try simp only [zt0, zt1, zt2, zt3, zt4, zt5, zt6, e0_3, e0_4, e0_10, e0_11]); omega)) (f0.g)) (fun t12 p12 => ?_)
                obtain ⟨f12, p12⟩ := p12
                have e12_3 : ∀ k, tg t12 (sr sh r0 3) k = tg t1 (sr sh r0 3) k := fun k => f12.eq q0 (i := 3) (by decide) (by decide) k
                have e12_4 : ∀ k, tg t12 (sr sh r0 4) k = tg t1 (sr sh r0 4) k := fun k => f12.eq q0 (i := 4) (by decide) (by decide) k
                have e12_10 : ∀ k, tg t12 (sr sh r0 10) k = tg t1 (sr sh r0 10) k := fun k => f12.eq q0 (i := 10) (by decide) (by decide) k
                have e12_11 : ∀ k, tg t12 (sr sh r0 11) k = tg t1 (sr sh r0 11) k := fun k => f12.eq q0 (i := 11) (by decide) (by decide) k
                try simp only [zt0, zt1, zt2, zt3, zt4, zt5, zt6, e0_3, e0_4, e0_10, e0_11, e12_3, e12_4, e12_10, e12_11] at p12
                try simp only [zput_s, zput_n, ti_g, oI_add, oI_sub, oI_mul]
                exact ih.2.1 _ _ ((FrV.trans (Ns := [1, 2]) (f0) f12 (by decide) (by decide))) (by first | omega | ((try simp only [zt0, zt1, zt2, zt3, zt4, zt5, zt6, e0_3, e0_4, e0_10, e0_11, e12_3, e12_4, e12_10, e12_11]); omega)) (fun k hk => by ((try have c0 := hq1 k hk); (try have c0 := hq1 k); (have c1 := p12.2 k (by omega)); (try simp only [zt0, zt1, zt2, zt3, zt4, zt5, zt6] at *); omega)) (by first | omega | ((try simp only [zt0, zt1, zt2, zt3, zt4, zt5, zt6, e0_3, e0_4, e0_10, e0_11, e12_3, e12_4, e12_10, e12_11]); omega))
            · simp only [zput_s, zput_n, ti_g, oI_add, oI_sub, oI_mul, zt0, zt1, zt2, zt3, zt4, zt5, zt6, e0_3, e0_4, e0_10, e0_11, b158_64]
              try simp only [zput_s, zput_n, ti_g, oI_add, oI_sub, oI_mul]
              refine zok_ck ((q0).1) ?_
              refine zok_c0 (s156 (q0) (by omega) (by omega) (by first | (omega) | ((try simp only [zt0, zt1, zt2, zt3, zt4, zt5, zt6, e0_3, e0_4, e0_10, e0_11]); omega)) (by first | (omega) | ((try simp only [zt0, zt1, zt2, zt3, zt4, zt5, zt6, e0_3, e0_4, e0_10, e0_11]); omega)) (f0.g)) (fun t14 p14 => ?_)
              obtain ⟨f14, p14⟩ := p14
              have e14_3 : ∀ k, tg t14 (sr sh r0 3) k = tg t1 (sr sh r0 3) k := fun k => f14.eq q0 (i := 3) (by decide) (by decide) k
              have e14_4 : ∀ k, tg t14 (sr sh r0 4) k = tg t1 (sr sh r0 4) k := fun k => f14.eq q0 (i := 4) (by decide) (by decide) k
              have e14_10 : ∀ k, tg t14 (sr sh r0 10) k = tg t1 (sr sh r0 10) k := fun k => f14.eq q0 (i := 10) (by decide) (by decide) k
              have e14_11 : ∀ k, tg t14 (sr sh r0 11) k = tg t1 (sr sh r0 11) k := fun k => f14.eq q0 (i := 11) (by decide) (by decide) k
              try simp only [zt0, zt1, zt2, zt3, zt4, zt5, zt6, e0_3, e0_4, e0_10, e0_11, e14_3, e14_4, e14_10, e14_11] at p14
              try simp only [zput_s, zput_n, ti_g, oI_add, oI_sub, oI_mul]
              exact ih.2.1 _ _ ((FrV.trans (Ns := [1, 2]) (f0) f14 (by decide) (by decide))) (by first | omega | ((try simp only [zt0, zt1, zt2, zt3, zt4, zt5, zt6, e0_3, e0_4, e0_10, e0_11, e14_3, e14_4, e14_10, e14_11]); omega)) (fun k hk => by ((try have c0 := hq1 k hk); (try have c0 := hq1 k); (have c1 := p14.2 k (by omega)); (try simp only [zt0, zt1, zt2, zt3, zt4, zt5, zt6] at *); omega)) (by first | omega | ((try simp only [zt0, zt1, zt2, zt3, zt4, zt5, zt6, e0_3, e0_4, e0_10, e0_11, e14_3, e14_4, e14_10, e14_11]); omega))
          · first | refine zok_eq (by omega) (fun c15 => ?_) (fun c15 => ?_) | refine zok_if (fun c15 => ?_) (fun c15 => ?_)
            · simp only [zput_s, zput_n, ti_g, oI_add, oI_sub, oI_mul, zt0, zt1, zt2, zt3, zt4, zt5, zt6, e0_3, e0_4, e0_10, e0_11, b158_40]
              try simp only [zput_s, zput_n, ti_g, oI_add, oI_sub, oI_mul]
              first | refine zok_ne (by omega) (fun c17 => ?_) (fun c17 => ?_) | refine zok_if (fun c17 => ?_) (fun c17 => ?_)
              · first | refine zok_ne (by omega) (fun c18 => ?_) (fun c18 => ?_) | refine zok_if (fun c18 => ?_) (fun c18 => ?_)
                · simp only [zput_s, zput_n, ti_g, oI_add, oI_sub, oI_mul, zt0, zt1, zt2, zt3, zt4, zt5, zt6, e0_3, e0_4, e0_10, e0_11, b158_64]
                  try simp only [zput_s, zput_n, ti_g, oI_add, oI_sub, oI_mul]
                  refine zok_ck ((q0).1) ?_
                  refine zok_c0 (s156 (q0) (by omega) (by omega) (by first | (omega) | ((try simp only [zt0, zt1, zt2, zt3, zt4, zt5, zt6, e0_3, e0_4, e0_10, e0_11]); omega)) (by first | (omega) | ((try simp only [zt0, zt1, zt2, zt3, zt4, zt5, zt6, e0_3, e0_4, e0_10, e0_11]); omega)) (f0.g)) (fun t20 p20 => ?_)
                  obtain ⟨f20, p20⟩ := p20
                  have e20_3 : ∀ k, tg t20 (sr sh r0 3) k = tg t1 (sr sh r0 3) k := fun k => f20.eq q0 (i := 3) (by decide) (by decide) k
                  have e20_4 : ∀ k, tg t20 (sr sh r0 4) k = tg t1 (sr sh r0 4) k := fun k => f20.eq q0 (i := 4) (by decide) (by decide) k
                  have e20_10 : ∀ k, tg t20 (sr sh r0 10) k = tg t1 (sr sh r0 10) k := fun k => f20.eq q0 (i := 10) (by decide) (by decide) k
                  have e20_11 : ∀ k, tg t20 (sr sh r0 11) k = tg t1 (sr sh r0 11) k := fun k => f20.eq q0 (i := 11) (by decide) (by decide) k
                  try simp only [zt0, zt1, zt2, zt3, zt4, zt5, zt6, e0_3, e0_4, e0_10, e0_11, e20_3, e20_4, e20_10, e20_11] at p20
                  try simp only [zput_s, zput_n, ti_g, oI_add, oI_sub, oI_mul]
                  exact ih.2.1 _ _ ((FrV.trans (Ns := [1, 2]) (f0) f20 (by decide) (by decide))) (by first | omega | ((try simp only [zt0, zt1, zt2, zt3, zt4, zt5, zt6, e0_3, e0_4, e0_10, e0_11, e20_3, e20_4, e20_10, e20_11]); omega)) (fun k hk => by ((try have c0 := hq1 k hk); (try have c0 := hq1 k); (have c1 := p20.2 k (by omega)); (try simp only [zt0, zt1, zt2, zt3, zt4, zt5, zt6] at *); omega)) (by first | omega | ((try simp only [zt0, zt1, zt2, zt3, zt4, zt5, zt6, e0_3, e0_4, e0_10, e0_11, e20_3, e20_4, e20_10, e20_11]); omega))
                · simp only [zput_s, zput_n, ti_g, oI_add, oI_sub, oI_mul, zt0, zt1, zt2, zt3, zt4, zt5, zt6, e0_3, e0_4, e0_10, e0_11, b158_64]
                  try simp only [zput_s, zput_n, ti_g, oI_add, oI_sub, oI_mul]
                  refine zok_ck ((q0).1) ?_
                  refine zok_c0 (s156 (q0) (by omega) (by omega) (by first | (omega) | ((try simp only [zt0, zt1, zt2, zt3, zt4, zt5, zt6, e0_3, e0_4, e0_10, e0_11]); omega)) (by first | (omega) | ((try simp only [zt0, zt1, zt2, zt3, zt4, zt5, zt6, e0_3, e0_4, e0_10, e0_11]); omega)) (f0.g)) (fun t22 p22 => ?_)
                  obtain ⟨f22, p22⟩ := p22
                  have e22_3 : ∀ k, tg t22 (sr sh r0 3) k = tg t1 (sr sh r0 3) k := fun k => f22.eq q0 (i := 3) (by decide) (by decide) k
                  have e22_4 : ∀ k, tg t22 (sr sh r0 4) k = tg t1 (sr sh r0 4) k := fun k => f22.eq q0 (i := 4) (by decide) (by decide) k
                  have e22_10 : ∀ k, tg t22 (sr sh r0 10) k = tg t1 (sr sh r0 10) k := fun k => f22.eq q0 (i := 10) (by decide) (by decide) k
                  have e22_11 : ∀ k, tg t22 (sr sh r0 11) k = tg t1 (sr sh r0 11) k := fun k => f22.eq q0 (i := 11) (by decide) (by decide) k
                  try simp only [zt0, zt1, zt2, zt3, zt4, zt5, zt6, e0_3, e0_4, e0_10, e0_11, e22_3, e22_4, e22_10, e22_11] at p22
                  try simp only [zput_s, zput_n, ti_g, oI_add, oI_sub, oI_mul]
                  exact ih.2.1 _ _ ((FrV.trans (Ns := [1, 2]) (f0) f22 (by decide) (by decide))) (by first | omega | ((try simp only [zt0, zt1, zt2, zt3, zt4, zt5, zt6, e0_3, e0_4, e0_10, e0_11, e22_3, e22_4, e22_10, e22_11]); omega)) (fun k hk => by ((try have c0 := hq1 k hk); (try have c0 := hq1 k); (have c1 := p22.2 k (by omega)); (try simp only [zt0, zt1, zt2, zt3, zt4, zt5, zt6] at *); omega)) (by first | omega | ((try simp only [zt0, zt1, zt2, zt3, zt4, zt5, zt6, e0_3, e0_4, e0_10, e0_11, e22_3, e22_4, e22_10, e22_11]); omega))
              · simp only [zput_s, zput_n, ti_g, oI_add, oI_sub, oI_mul, zt0, zt1, zt2, zt3, zt4, zt5, zt6, e0_3, e0_4, e0_10, e0_11, b158_64]
                try simp only [zput_s, zput_n, ti_g, oI_add, oI_sub, oI_mul]
                refine zok_ck ((q0).1) ?_
                refine zok_c0 (s156 (q0) (by omega) (by omega) (by first | (omega) | ((try simp only [zt0, zt1, zt2, zt3, zt4, zt5, zt6, e0_3, e0_4, e0_10, e0_11]); omega)) (by first | (omega) | ((try simp only [zt0, zt1, zt2, zt3, zt4, zt5, zt6, e0_3, e0_4, e0_10, e0_11]); omega)) (f0.g)) (fun t24 p24 => ?_)
                obtain ⟨f24, p24⟩ := p24
                have e24_3 : ∀ k, tg t24 (sr sh r0 3) k = tg t1 (sr sh r0 3) k := fun k => f24.eq q0 (i := 3) (by decide) (by decide) k
                have e24_4 : ∀ k, tg t24 (sr sh r0 4) k = tg t1 (sr sh r0 4) k := fun k => f24.eq q0 (i := 4) (by decide) (by decide) k
                have e24_10 : ∀ k, tg t24 (sr sh r0 10) k = tg t1 (sr sh r0 10) k := fun k => f24.eq q0 (i := 10) (by decide) (by decide) k
                have e24_11 : ∀ k, tg t24 (sr sh r0 11) k = tg t1 (sr sh r0 11) k := fun k => f24.eq q0 (i := 11) (by decide) (by decide) k
                try simp only [zt0, zt1, zt2, zt3, zt4, zt5, zt6, e0_3, e0_4, e0_10, e0_11, e24_3, e24_4, e24_10, e24_11] at p24
                try simp only [zput_s, zput_n, ti_g, oI_add, oI_sub, oI_mul]
                exact ih.2.1 _ _ ((FrV.trans (Ns := [1, 2]) (f0) f24 (by decide) (by decide))) (by first | omega | ((try simp only [zt0, zt1, zt2, zt3, zt4, zt5, zt6, e0_3, e0_4, e0_10, e0_11, e24_3, e24_4, e24_10, e24_11]); omega)) (fun k hk => by ((try have c0 := hq1 k hk); (try have c0 := hq1 k); (have c1 := p24.2 k (by omega)); (try simp only [zt0, zt1, zt2, zt3, zt4, zt5, zt6] at *); omega)) (by first | omega | ((try simp only [zt0, zt1, zt2, zt3, zt4, zt5, zt6, e0_3, e0_4, e0_10, e0_11, e24_3, e24_4, e24_10, e24_11]); omega))
            · first | refine zok_ne (by omega) (fun c25 => ?_) (fun c25 => ?_) | refine zok_if (fun c25 => ?_) (fun c25 => ?_)
              · try simp only [zput_s, zput_n, ti_g, oI_add, oI_sub, oI_mul]
                exact ih.2.1 _ _ (f0) (by first | omega | ((try simp only [zt0, zt1, zt2, zt3, zt4, zt5, zt6, e0_3, e0_4, e0_10, e0_11]); omega)) (fun k hk => by ((try have c0 := hq1 k hk); (try have c0 := hq1 k); (try simp only [zt0, zt1, zt2, zt3, zt4, zt5, zt6] at *); omega)) (by first | omega | ((try simp only [zt0, zt1, zt2, zt3, zt4, zt5, zt6, e0_3, e0_4, e0_10, e0_11]); omega))
              · simp only [zput_s, zput_n, ti_g, oI_add, oI_sub, oI_mul, zt0, zt1, zt2, zt3, zt4, zt5, zt6, e0_3, e0_4, e0_10, e0_11, b158_40]
                try simp only [zput_s, zput_n, ti_g, oI_add, oI_sub, oI_mul]
                first | refine zok_ne (by omega) (fun c27 => ?_) (fun c27 => ?_) | refine zok_if (fun c27 => ?_) (fun c27 => ?_)
                · first | refine zok_ne (by omega) (fun c28 => ?_) (fun c28 => ?_) | refine zok_if (fun c28 => ?_) (fun c28 => ?_)
                  · simp only [zput_s, zput_n, ti_g, oI_add, oI_sub, oI_mul, zt0, zt1, zt2, zt3, zt4, zt5, zt6, e0_3, e0_4, e0_10, e0_11, b158_64]
                    try simp only [zput_s, zput_n, ti_g, oI_add, oI_sub, oI_mul]
                    refine zok_ck ((q0).1) ?_
                    refine zok_c0 (s156 (q0) (by omega) (by omega) (by first | (omega) | ((try simp only [zt0, zt1, zt2, zt3, zt4, zt5, zt6, e0_3, e0_4, e0_10, e0_11]); omega)) (by first | (omega) | ((try simp only [zt0, zt1, zt2, zt3, zt4, zt5, zt6, e0_3, e0_4, e0_10, e0_11]); omega)) (f0.g)) (fun t30 p30 => ?_)
                    obtain ⟨f30, p30⟩ := p30
                    have e30_3 : ∀ k, tg t30 (sr sh r0 3) k = tg t1 (sr sh r0 3) k := fun k => f30.eq q0 (i := 3) (by decide) (by decide) k
                    have e30_4 : ∀ k, tg t30 (sr sh r0 4) k = tg t1 (sr sh r0 4) k := fun k => f30.eq q0 (i := 4) (by decide) (by decide) k
                    have e30_10 : ∀ k, tg t30 (sr sh r0 10) k = tg t1 (sr sh r0 10) k := fun k => f30.eq q0 (i := 10) (by decide) (by decide) k
                    have e30_11 : ∀ k, tg t30 (sr sh r0 11) k = tg t1 (sr sh r0 11) k := fun k => f30.eq q0 (i := 11) (by decide) (by decide) k
                    try simp only [zt0, zt1, zt2, zt3, zt4, zt5, zt6, e0_3, e0_4, e0_10, e0_11, e30_3, e30_4, e30_10, e30_11] at p30
                    try simp only [zput_s, zput_n, ti_g, oI_add, oI_sub, oI_mul]
                    exact ih.2.1 _ _ ((FrV.trans (Ns := [1, 2]) (f0) f30 (by decide) (by decide))) (by first | omega | ((try simp only [zt0, zt1, zt2, zt3, zt4, zt5, zt6, e0_3, e0_4, e0_10, e0_11, e30_3, e30_4, e30_10, e30_11]); omega)) (fun k hk => by ((try have c0 := hq1 k hk); (try have c0 := hq1 k); (have c1 := p30.2 k (by omega)); (try simp only [zt0, zt1, zt2, zt3, zt4, zt5, zt6] at *); omega)) (by first | omega | ((try simp only [zt0, zt1, zt2, zt3, zt4, zt5, zt6, e0_3, e0_4, e0_10, e0_11, e30_3, e30_4, e30_10, e30_11]); omega))
                  · simp only [zput_s, zput_n, ti_g, oI_add, oI_sub, oI_mul, zt0, zt1, zt2, zt3, zt4, zt5, zt6, e0_3, e0_4, e0_10, e0_11, b158_64]
                    try simp only [zput_s, zput_n, ti_g, oI_add, oI_sub, oI_mul]
                    refine zok_ck ((q0).1) ?_
                    refine zok_c0 (s156 (q0) (by omega) (by omega) (by first | (omega) | ((try simp only [zt0, zt1, zt2, zt3, zt4, zt5, zt6, e0_3, e0_4, e0_10, e0_11]); omega)) (by first | (omega) | ((try simp only [zt0, zt1, zt2, zt3, zt4, zt5, zt6, e0_3, e0_4, e0_10, e0_11]); omega)) (f0.g)) (fun t32 p32 => ?_)
                    obtain ⟨f32, p32⟩ := p32
                    have e32_3 : ∀ k, tg t32 (sr sh r0 3) k = tg t1 (sr sh r0 3) k := fun k => f32.eq q0 (i := 3) (by decide) (by decide) k
                    have e32_4 : ∀ k, tg t32 (sr sh r0 4) k = tg t1 (sr sh r0 4) k := fun k => f32.eq q0 (i := 4) (by decide) (by decide) k
                    have e32_10 : ∀ k, tg t32 (sr sh r0 10) k = tg t1 (sr sh r0 10) k := fun k => f32.eq q0 (i := 10) (by decide) (by decide) k
                    have e32_11 : ∀ k, tg t32 (sr sh r0 11) k = tg t1 (sr sh r0 11) k := fun k => f32.eq q0 (i := 11) (by decide) (by decide) k
                    try simp only [zt0, zt1, zt2, zt3, zt4, zt5, zt6, e0_3, e0_4, e0_10, e0_11, e32_3, e32_4, e32_10, e32_11] at p32
                    try simp only [zput_s, zput_n, ti_g, oI_add, oI_sub, oI_mul]
                    exact ih.2.1 _ _ ((FrV.trans (Ns := [1, 2]) (f0) f32 (by decide) (by decide))) (by first | omega | ((try simp only [zt0, zt1, zt2, zt3, zt4, zt5, zt6, e0_3, e0_4, e0_10, e0_11, e32_3, e32_4, e32_10, e32_11]); omega)) (fun k hk => by ((try have c0 := hq1 k hk); (try have c0 := hq1 k); (have c1 := p32.2 k (by omega)); (try simp only [zt0, zt1, zt2, zt3, zt4, zt5, zt6] at *); omega)) (by first | omega | ((try simp only [zt0, zt1, zt2, zt3, zt4, zt5, zt6, e0_3, e0_4, e0_10, e0_11, e32_3, e32_4, e32_10, e32_11]); omega))
                · simp only [zput_s, zput_n, ti_g, oI_add, oI_sub, oI_mul, zt0, zt1, zt2, zt3, zt4, zt5, zt6, e0_3, e0_4, e0_10, e0_11, b158_64]
                  try simp only [zput_s, zput_n, ti_g, oI_add, oI_sub, oI_mul]
                  refine zok_ck ((q0).1) ?_
                  refine zok_c0 (s156 (q0) (by omega) (by omega) (by first | (omega) | ((try simp only [zt0, zt1, zt2, zt3, zt4, zt5, zt6, e0_3, e0_4, e0_10, e0_11]); omega)) (by first | (omega) | ((try simp only [zt0, zt1, zt2, zt3, zt4, zt5, zt6, e0_3, e0_4, e0_10, e0_11]); omega)) (f0.g)) (fun t34 p34 => ?_)
                  obtain ⟨f34, p34⟩ := p34
                  have e34_3 : ∀ k, tg t34 (sr sh r0 3) k = tg t1 (sr sh r0 3) k := fun k => f34.eq q0 (i := 3) (by decide) (by decide) k
                  have e34_4 : ∀ k, tg t34 (sr sh r0 4) k = tg t1 (sr sh r0 4) k := fun k => f34.eq q0 (i := 4) (by decide) (by decide) k
                  have e34_10 : ∀ k, tg t34 (sr sh r0 10) k = tg t1 (sr sh r0 10) k := fun k => f34.eq q0 (i := 10) (by decide) (by decide) k
                  have e34_11 : ∀ k, tg t34 (sr sh r0 11) k = tg t1 (sr sh r0 11) k := fun k => f34.eq q0 (i := 11) (by decide) (by decide) k
                  try simp only [zt0, zt1, zt2, zt3, zt4, zt5, zt6, e0_3, e0_4, e0_10, e0_11, e34_3, e34_4, e34_10, e34_11] at p34
                  try simp only [zput_s, zput_n, ti_g, oI_add, oI_sub, oI_mul]
                  exact ih.2.1 _ _ ((FrV.trans (Ns := [1, 2]) (f0) f34 (by decide) (by decide))) (by first | omega | ((try simp only [zt0, zt1, zt2, zt3, zt4, zt5, zt6, e0_3, e0_4, e0_10, e0_11, e34_3, e34_4, e34_10, e34_11]); omega)) (fun k hk => by ((try have c0 := hq1 k hk); (try have c0 := hq1 k); (have c1 := p34.2 k (by omega)); (try simp only [zt0, zt1, zt2, zt3, zt4, zt5, zt6] at *); omega)) (by first | omega | ((try simp only [zt0, zt1, zt2, zt3, zt4, zt5, zt6, e0_3, e0_4, e0_10, e0_11, e34_3, e34_4, e34_10, e34_11]); omega))
    refine ⟨?_, ?_⟩
    · intro x2  t1 f0 hv hq1 hm
      have ha0_1 : (sk sh (sr sh r0 1)).2 = 21000 := by rw [q0.2.2.2.2.1]
      have ha0_2 : (sk sh (sr sh r0 2)).2 = 14 := by rw [q0.2.2.2.2.2.1]
      have ha0_3 : (sk sh (sr sh r0 3)).2 = 98 := by rw [q0.2.2.2.2.2.2.1]
      have ha0_4 : (sk sh (sr sh r0 4)).2 = 98 := by rw [q0.2.2.2.2.2.2.2.1]
      have ha0_8 : (sk sh (sr sh r0 8)).2 = 1500 := by rw [q0.2.2.2.2.2.2.2.2.1]
      have ha0_9 : (sk sh (sr sh r0 9)).2 = 10500 := by rw [q0.2.2.2.2.2.2.2.2.2.1]
      have ha0_10 : (sk sh (sr sh r0 10)).2 = 7 := by rw [q0.2.2.2.2.2.2.2.2.2.2.1]
      have ha0_11 : (sk sh (sr sh r0 11)).2 = 7 := by rw [q0.2.2.2.2.2.2.2.2.2.2.2.1]
      have ha0_12 : (sk sh (sr sh r0 12)).2 = 1500 := by rw [q0.2.2.2.2.2.2.2.2.2.2.2.2.1]
      have ha0_13 : (sk sh (sr sh r0 13)).2 = 1500 := by rw [q0.2.2.2.2.2.2.2.2.2.2.2.2.2.1]
      have ha0_14 : (sk sh (sr sh r0 14)).2 = 20 := by rw [q0.2.2.2.2.2.2.2.2.2.2.2.2.2.2]
      have e0_3 : ∀ k, tg t1 (sr sh r0 3) k = tg t0 (sr sh r0 3) k := fun k => f0.eq q0 (i := 3) (by decide) (by decide) k
      have e0_4 : ∀ k, tg t1 (sr sh r0 4) k = tg t0 (sr sh r0 4) k := fun k => f0.eq q0 (i := 4) (by decide) (by decide) k
      have e0_10 : ∀ k, tg t1 (sr sh r0 10) k = tg t0 (sr sh r0 10) k := fun k => f0.eq q0 (i := 10) (by decide) (by decide) k
      have e0_11 : ∀ k, tg t1 (sr sh r0 11) k = tg t0 (sr sh r0 11) k := fun k => f0.eq q0 (i := 11) (by decide) (by decide) k
      try simp only [zt0, zt1, zt2, zt3, zt4, zt5, zt6, e0_3, e0_4, e0_10, e0_11] at hv
      try simp only [zt0, zt1, zt2, zt3, zt4, zt5, zt6, e0_3, e0_4, e0_10, e0_11] at hm
      have hJ := zJs_s (sh := sh) (m := r0) (t := t0) (x := x2) (by omega)
      try simp only [zt0, zt1, zt2, zt3, zt4, zt5, zt6, e0_3, e0_4, e0_10, e0_11] at hJ
      have hI := zJ_i (sh := sh) (m := r0) (t := t0) (x := x2) (by omega)
      try simp only [zt0, zt1, zt2, zt3, zt4, zt5, zt6, e0_3, e0_4, e0_10, e0_11] at hI
      have hM : x2 ≤ 6 → zJs sh r0 t0 (x2 + 1).toNat ≤ zJs sh r0 t0 7 := fun h => zJs_le G (by omega) h
      try simp only [zt0, zt1, zt2, zt3, zt4, zt5, zt6, e0_3, e0_4, e0_10, e0_11] at hM
      have gz := (f0.g).1 (x1).toNat (by omega)
      try simp only [zt0, zt1, zt2, zt3, zt4, zt5, zt6, e0_3, e0_4, e0_10, e0_11] at gz
      have gy := (f0.g).2.2.1 (x2).toNat
      try simp only [zt0, zt1, zt2, zt3, zt4, zt5, zt6, e0_3, e0_4, e0_10, e0_11] at gy
      have g0 := zJs_nn G (x := x2) (by omega)
      try simp only [zt0, zt1, zt2, zt3, zt4, zt5, zt6, e0_3, e0_4, e0_10, e0_11] at g0
      rw [b158_67]
      try simp only [zput_s, zput_n, ti_g, oI_add, oI_sub, oI_mul]
      first | refine zok_ne (by omega) (fun c2 => ?_) (fun c2 => ?_) | refine zok_if (fun c2 => ?_) (fun c2 => ?_)
      · try simp only [zput_s, zput_n, ti_g, oI_add, oI_sub, oI_mul]
        exact ih.2.2.1 _ _ (f0) (by first | omega | ((try simp only [zt0, zt1, zt2, zt3, zt4, zt5, zt6, e0_3, e0_4, e0_10, e0_11]); omega)) (fun k hk => by ((try have c0 := hq1 k hk); (try have c0 := hq1 k); (try simp only [zt0, zt1, zt2, zt3, zt4, zt5, zt6] at *); omega)) (by first | omega | ((try simp only [zt0, zt1, zt2, zt3, zt4, zt5, zt6, e0_3, e0_4, e0_10, e0_11]); omega))
      · refine zok_ck ((q0).1) ?_
        refine zok_ck ⟨Or.inr (by rw [(q0).2.2.2.2.2.2.2.2.2.2.2.1]), zin_o (by omega) (by omega) (by omega)⟩ ?_
        try rw [nN_o (a := 1) (by omega) (by omega)]
        try rw [show (1 : Int).toNat = 1 from rfl]
        try simp only [zput_s, zput_n, ti_g, oI_add, oI_sub, oI_mul, zt0, zt1, zt2, zt3, zt4, zt5, zt6, e0_3, e0_4, e0_10, e0_11]
        have gl3 := And.intro (tg_lo t1 (sr sh r0 11) (1)) (tg_hi t1 (sr sh r0 11) (1))
        have gm3 := (f0.g).2.2.2.1 (1) (by omega)
        try simp only [zt0, zt1, zt2, zt3, zt4, zt5, zt6, e0_3, e0_4, e0_10, e0_11] at gl3
        try simp only [zt0, zt1, zt2, zt3, zt4, zt5, zt6, e0_3, e0_4, e0_10, e0_11] at gm3
        first | refine zok_ne (by omega) (fun c4 => ?_) (fun c4 => ?_) | refine zok_if (fun c4 => ?_) (fun c4 => ?_)
        · try simp only [zput_s, zput_n, ti_g, oI_add, oI_sub, oI_mul]
          exact ih.2.2.1 _ _ (f0) (by first | omega | ((try simp only [zt0, zt1, zt2, zt3, zt4, zt5, zt6, e0_3, e0_4, e0_10, e0_11]); omega)) (fun k hk => by ((try have c0 := hq1 k hk); (try have c0 := hq1 k); (try simp only [zt0, zt1, zt2, zt3, zt4, zt5, zt6] at *); omega)) (by first | omega | ((try simp only [zt0, zt1, zt2, zt3, zt4, zt5, zt6, e0_3, e0_4, e0_10, e0_11]); omega))
        · refine zok_ck ((q0).1) ?_
          refine zok_c0 (s156 (q0) (by omega) (by omega) (by first | (omega) | ((try simp only [zt0, zt1, zt2, zt3, zt4, zt5, zt6, e0_3, e0_4, e0_10, e0_11]); omega)) (by first | (omega) | ((try simp only [zt0, zt1, zt2, zt3, zt4, zt5, zt6, e0_3, e0_4, e0_10, e0_11]); omega)) (f0.g)) (fun t5 p5 => ?_)
          obtain ⟨f5, p5⟩ := p5
          have e5_3 : ∀ k, tg t5 (sr sh r0 3) k = tg t1 (sr sh r0 3) k := fun k => f5.eq q0 (i := 3) (by decide) (by decide) k
          have e5_4 : ∀ k, tg t5 (sr sh r0 4) k = tg t1 (sr sh r0 4) k := fun k => f5.eq q0 (i := 4) (by decide) (by decide) k
          have e5_10 : ∀ k, tg t5 (sr sh r0 10) k = tg t1 (sr sh r0 10) k := fun k => f5.eq q0 (i := 10) (by decide) (by decide) k
          have e5_11 : ∀ k, tg t5 (sr sh r0 11) k = tg t1 (sr sh r0 11) k := fun k => f5.eq q0 (i := 11) (by decide) (by decide) k
          try simp only [zt0, zt1, zt2, zt3, zt4, zt5, zt6, e0_3, e0_4, e0_10, e0_11, e5_3, e5_4, e5_10, e5_11] at p5
          simp only [zput_s, zput_n, ti_g, oI_add, oI_sub, oI_mul, zt0, zt1, zt2, zt3, zt4, zt5, zt6, e0_3, e0_4, e0_10, e0_11, e5_3, e5_4, e5_10, e5_11, b158_88]
          try simp only [zput_s, zput_n, ti_g, oI_add, oI_sub, oI_mul]
          refine zok_ck ((q0).1) ?_
          refine zok_c0 (s156 (q0) (by omega) (by omega) (by first | (omega) | ((try simp only [zt0, zt1, zt2, zt3, zt4, zt5, zt6, e0_3, e0_4, e0_10, e0_11, e5_3, e5_4, e5_10, e5_11]); omega)) (by first | (omega) | ((try simp only [zt0, zt1, zt2, zt3, zt4, zt5, zt6, e0_3, e0_4, e0_10, e0_11, e5_3, e5_4, e5_10, e5_11]); omega)) (f5.g)) (fun t7 p7 => ?_)
          obtain ⟨f7, p7⟩ := p7
          have e7_3 : ∀ k, tg t7 (sr sh r0 3) k = tg t5 (sr sh r0 3) k := fun k => f7.eq q0 (i := 3) (by decide) (by decide) k
          have e7_4 : ∀ k, tg t7 (sr sh r0 4) k = tg t5 (sr sh r0 4) k := fun k => f7.eq q0 (i := 4) (by decide) (by decide) k
          have e7_10 : ∀ k, tg t7 (sr sh r0 10) k = tg t5 (sr sh r0 10) k := fun k => f7.eq q0 (i := 10) (by decide) (by decide) k
          have e7_11 : ∀ k, tg t7 (sr sh r0 11) k = tg t5 (sr sh r0 11) k := fun k => f7.eq q0 (i := 11) (by decide) (by decide) k
          try simp only [zt0, zt1, zt2, zt3, zt4, zt5, zt6, e0_3, e0_4, e0_10, e0_11, e5_3, e5_4, e5_10, e5_11, e7_3, e7_4, e7_10, e7_11] at p7
          try simp only [zput_s, zput_n, ti_g, oI_add, oI_sub, oI_mul]
          exact ih.2.2.1 _ _ ((FrV.trans (Ns := [1, 2]) ((FrV.trans (Ns := [1, 2]) (f0) f5 (by decide) (by decide))) f7 (by decide) (by decide))) (by first | omega | ((try simp only [zt0, zt1, zt2, zt3, zt4, zt5, zt6, e0_3, e0_4, e0_10, e0_11, e5_3, e5_4, e5_10, e5_11, e7_3, e7_4, e7_10, e7_11]); omega)) (fun k hk => by ((try have c0 := hq1 k hk); (try have c0 := hq1 k); (have c1 := p5.2 k (by omega)); (have c6 := p7.2 k (by omega)); (try simp only [zt0, zt1, zt2, zt3, zt4, zt5, zt6] at *); omega)) (by first | omega | ((try simp only [zt0, zt1, zt2, zt3, zt4, zt5, zt6, e0_3, e0_4, e0_10, e0_11, e5_3, e5_4, e5_10, e5_11, e7_3, e7_4, e7_10, e7_11]); omega))
    refine ⟨?_, ?_⟩
    · intro x2  t1 f0 hv hq1 hm
      have ha0_1 : (sk sh (sr sh r0 1)).2 = 21000 := by rw [q0.2.2.2.2.1]
      have ha0_2 : (sk sh (sr sh r0 2)).2 = 14 := by rw [q0.2.2.2.2.2.1]
      have ha0_3 : (sk sh (sr sh r0 3)).2 = 98 := by rw [q0.2.2.2.2.2.2.1]
      have ha0_4 : (sk sh (sr sh r0 4)).2 = 98 := by rw [q0.2.2.2.2.2.2.2.1]
      have ha0_8 : (sk sh (sr sh r0 8)).2 = 1500 := by rw [q0.2.2.2.2.2.2.2.2.1]
      have ha0_9 : (sk sh (sr sh r0 9)).2 = 10500 := by rw [q0.2.2.2.2.2.2.2.2.2.1]
      have ha0_10 : (sk sh (sr sh r0 10)).2 = 7 := by rw [q0.2.2.2.2.2.2.2.2.2.2.1]
      have ha0_11 : (sk sh (sr sh r0 11)).2 = 7 := by rw [q0.2.2.2.2.2.2.2.2.2.2.2.1]
      have ha0_12 : (sk sh (sr sh r0 12)).2 = 1500 := by rw [q0.2.2.2.2.2.2.2.2.2.2.2.2.1]
      have ha0_13 : (sk sh (sr sh r0 13)).2 = 1500 := by rw [q0.2.2.2.2.2.2.2.2.2.2.2.2.2.1]
      have ha0_14 : (sk sh (sr sh r0 14)).2 = 20 := by rw [q0.2.2.2.2.2.2.2.2.2.2.2.2.2.2]
      have e0_3 : ∀ k, tg t1 (sr sh r0 3) k = tg t0 (sr sh r0 3) k := fun k => f0.eq q0 (i := 3) (by decide) (by decide) k
      have e0_4 : ∀ k, tg t1 (sr sh r0 4) k = tg t0 (sr sh r0 4) k := fun k => f0.eq q0 (i := 4) (by decide) (by decide) k
      have e0_10 : ∀ k, tg t1 (sr sh r0 10) k = tg t0 (sr sh r0 10) k := fun k => f0.eq q0 (i := 10) (by decide) (by decide) k
      have e0_11 : ∀ k, tg t1 (sr sh r0 11) k = tg t0 (sr sh r0 11) k := fun k => f0.eq q0 (i := 11) (by decide) (by decide) k
      try simp only [zt0, zt1, zt2, zt3, zt4, zt5, zt6, e0_3, e0_4, e0_10, e0_11] at hv
      try simp only [zt0, zt1, zt2, zt3, zt4, zt5, zt6, e0_3, e0_4, e0_10, e0_11] at hm
      have hJ := zJs_s (sh := sh) (m := r0) (t := t0) (x := x2) (by omega)
      try simp only [zt0, zt1, zt2, zt3, zt4, zt5, zt6, e0_3, e0_4, e0_10, e0_11] at hJ
      have hI := zJ_i (sh := sh) (m := r0) (t := t0) (x := x2) (by omega)
      try simp only [zt0, zt1, zt2, zt3, zt4, zt5, zt6, e0_3, e0_4, e0_10, e0_11] at hI
      have hM : x2 ≤ 6 → zJs sh r0 t0 (x2 + 1).toNat ≤ zJs sh r0 t0 7 := fun h => zJs_le G (by omega) h
      try simp only [zt0, zt1, zt2, zt3, zt4, zt5, zt6, e0_3, e0_4, e0_10, e0_11] at hM
      have gz := (f0.g).1 (x1).toNat (by omega)
      try simp only [zt0, zt1, zt2, zt3, zt4, zt5, zt6, e0_3, e0_4, e0_10, e0_11] at gz
      have gy := (f0.g).2.2.1 (x2).toNat
      try simp only [zt0, zt1, zt2, zt3, zt4, zt5, zt6, e0_3, e0_4, e0_10, e0_11] at gy
      have g0 := zJs_nn G (x := x2) (by omega)
      try simp only [zt0, zt1, zt2, zt3, zt4, zt5, zt6, e0_3, e0_4, e0_10, e0_11] at g0
      rw [b158_95]
      try simp only [zput_s, zput_n, ti_g, oI_add, oI_sub, oI_mul]
      first | refine zok_ne (by omega) (fun c2 => ?_) (fun c2 => ?_) | refine zok_if (fun c2 => ?_) (fun c2 => ?_)
      · try simp only [zput_s, zput_n, ti_g, oI_add, oI_sub, oI_mul]
        exact ih.2.2.2.1 _ _ (f0) (by first | omega | ((try simp only [zt0, zt1, zt2, zt3, zt4, zt5, zt6, e0_3, e0_4, e0_10, e0_11]); omega)) (fun k hk => by ((try have c0 := hq1 k hk); (try have c0 := hq1 k); (try simp only [zt0, zt1, zt2, zt3, zt4, zt5, zt6] at *); omega)) (by first | omega | ((try simp only [zt0, zt1, zt2, zt3, zt4, zt5, zt6, e0_3, e0_4, e0_10, e0_11]); omega))
      · refine zok_ck ((q0).1) ?_
        refine zok_c0 (s156 (q0) (by omega) (by omega) (by first | (omega) | ((try simp only [zt0, zt1, zt2, zt3, zt4, zt5, zt6, e0_3, e0_4, e0_10, e0_11]); omega)) (by first | (omega) | ((try simp only [zt0, zt1, zt2, zt3, zt4, zt5, zt6, e0_3, e0_4, e0_10, e0_11]); omega)) (f0.g)) (fun t3 p3 => ?_)
        obtain ⟨f3, p3⟩ := p3
        have e3_3 : ∀ k, tg t3 (sr sh r0 3) k = tg t1 (sr sh r0 3) k := fun k => f3.eq q0 (i := 3) (by decide) (by decide) k
        have e3_4 : ∀ k, tg t3 (sr sh r0 4) k = tg t1 (sr sh r0 4) k := fun k => f3.eq q0 (i := 4) (by decide) (by decide) k
        have e3_10 : ∀ k, tg t3 (sr sh r0 10) k = tg t1 (sr sh r0 10) k := fun k => f3.eq q0 (i := 10) (by decide) (by decide) k
        have e3_11 : ∀ k, tg t3 (sr sh r0 11) k = tg t1 (sr sh r0 11) k := fun k => f3.eq q0 (i := 11) (by decide) (by decide) k
        try simp only [zt0, zt1, zt2, zt3, zt4, zt5, zt6, e0_3, e0_4, e0_10, e0_11, e3_3, e3_4, e3_10, e3_11] at p3
        simp only [zput_s, zput_n, ti_g, oI_add, oI_sub, oI_mul, zt0, zt1, zt2, zt3, zt4, zt5, zt6, e0_3, e0_4, e0_10, e0_11, e3_3, e3_4, e3_10, e3_11, b158_107]
        try simp only [zput_s, zput_n, ti_g, oI_add, oI_sub, oI_mul]
        refine zok_ck ((q0).1) ?_
        refine zok_c0 (s156 (q0) (by omega) (by omega) (by first | (omega) | ((try simp only [zt0, zt1, zt2, zt3, zt4, zt5, zt6, e0_3, e0_4, e0_10, e0_11, e3_3, e3_4, e3_10, e3_11]); omega)) (by first | (omega) | ((try simp only [zt0, zt1, zt2, zt3, zt4, zt5, zt6, e0_3, e0_4, e0_10, e0_11, e3_3, e3_4, e3_10, e3_11]); omega)) (f3.g)) (fun t5 p5 => ?_)
        obtain ⟨f5, p5⟩ := p5
        have e5_3 : ∀ k, tg t5 (sr sh r0 3) k = tg t3 (sr sh r0 3) k := fun k => f5.eq q0 (i := 3) (by decide) (by decide) k
        have e5_4 : ∀ k, tg t5 (sr sh r0 4) k = tg t3 (sr sh r0 4) k := fun k => f5.eq q0 (i := 4) (by decide) (by decide) k
        have e5_10 : ∀ k, tg t5 (sr sh r0 10) k = tg t3 (sr sh r0 10) k := fun k => f5.eq q0 (i := 10) (by decide) (by decide) k
        have e5_11 : ∀ k, tg t5 (sr sh r0 11) k = tg t3 (sr sh r0 11) k := fun k => f5.eq q0 (i := 11) (by decide) (by decide) k
        try simp only [zt0, zt1, zt2, zt3, zt4, zt5, zt6, e0_3, e0_4, e0_10, e0_11, e3_3, e3_4, e3_10, e3_11, e5_3, e5_4, e5_10, e5_11] at p5
        try simp only [zput_s, zput_n, ti_g, oI_add, oI_sub, oI_mul]
        exact ih.2.2.2.1 _ _ ((FrV.trans (Ns := [1, 2]) ((FrV.trans (Ns := [1, 2]) (f0) f3 (by decide) (by decide))) f5 (by decide) (by decide))) (by first | omega | ((try simp only [zt0, zt1, zt2, zt3, zt4, zt5, zt6, e0_3, e0_4, e0_10, e0_11, e3_3, e3_4, e3_10, e3_11, e5_3, e5_4, e5_10, e5_11]); omega)) (fun k hk => by ((try have c0 := hq1 k hk); (try have c0 := hq1 k); (have c1 := p3.2 k (by omega)); (have c6 := p5.2 k (by omega)); (try simp only [zt0, zt1, zt2, zt3, zt4, zt5, zt6] at *); omega)) (by first | omega | ((try simp only [zt0, zt1, zt2, zt3, zt4, zt5, zt6, e0_3, e0_4, e0_10, e0_11, e3_3, e3_4, e3_10, e3_11, e5_3, e5_4, e5_10, e5_11]); omega))
    refine ⟨?_, ?_⟩
    · intro x2  t1 f0 hv hq1 hm
      have ha0_1 : (sk sh (sr sh r0 1)).2 = 21000 := by rw [q0.2.2.2.2.1]
      have ha0_2 : (sk sh (sr sh r0 2)).2 = 14 := by rw [q0.2.2.2.2.2.1]
      have ha0_3 : (sk sh (sr sh r0 3)).2 = 98 := by rw [q0.2.2.2.2.2.2.1]
      have ha0_4 : (sk sh (sr sh r0 4)).2 = 98 := by rw [q0.2.2.2.2.2.2.2.1]
      have ha0_8 : (sk sh (sr sh r0 8)).2 = 1500 := by rw [q0.2.2.2.2.2.2.2.2.1]
      have ha0_9 : (sk sh (sr sh r0 9)).2 = 10500 := by rw [q0.2.2.2.2.2.2.2.2.2.1]
      have ha0_10 : (sk sh (sr sh r0 10)).2 = 7 := by rw [q0.2.2.2.2.2.2.2.2.2.2.1]
      have ha0_11 : (sk sh (sr sh r0 11)).2 = 7 := by rw [q0.2.2.2.2.2.2.2.2.2.2.2.1]
      have ha0_12 : (sk sh (sr sh r0 12)).2 = 1500 := by rw [q0.2.2.2.2.2.2.2.2.2.2.2.2.1]
      have ha0_13 : (sk sh (sr sh r0 13)).2 = 1500 := by rw [q0.2.2.2.2.2.2.2.2.2.2.2.2.2.1]
      have ha0_14 : (sk sh (sr sh r0 14)).2 = 20 := by rw [q0.2.2.2.2.2.2.2.2.2.2.2.2.2.2]
      have e0_3 : ∀ k, tg t1 (sr sh r0 3) k = tg t0 (sr sh r0 3) k := fun k => f0.eq q0 (i := 3) (by decide) (by decide) k
      have e0_4 : ∀ k, tg t1 (sr sh r0 4) k = tg t0 (sr sh r0 4) k := fun k => f0.eq q0 (i := 4) (by decide) (by decide) k
      have e0_10 : ∀ k, tg t1 (sr sh r0 10) k = tg t0 (sr sh r0 10) k := fun k => f0.eq q0 (i := 10) (by decide) (by decide) k
      have e0_11 : ∀ k, tg t1 (sr sh r0 11) k = tg t0 (sr sh r0 11) k := fun k => f0.eq q0 (i := 11) (by decide) (by decide) k
      try simp only [zt0, zt1, zt2, zt3, zt4, zt5, zt6, e0_3, e0_4, e0_10, e0_11] at hv
      try simp only [zt0, zt1, zt2, zt3, zt4, zt5, zt6, e0_3, e0_4, e0_10, e0_11] at hm
      have hJ := zJs_s (sh := sh) (m := r0) (t := t0) (x := x2) (by omega)
      try simp only [zt0, zt1, zt2, zt3, zt4, zt5, zt6, e0_3, e0_4, e0_10, e0_11] at hJ
      have hI := zJ_i (sh := sh) (m := r0) (t := t0) (x := x2) (by omega)
      try simp only [zt0, zt1, zt2, zt3, zt4, zt5, zt6, e0_3, e0_4, e0_10, e0_11] at hI
      have hM : x2 ≤ 6 → zJs sh r0 t0 (x2 + 1).toNat ≤ zJs sh r0 t0 7 := fun h => zJs_le G (by omega) h
      try simp only [zt0, zt1, zt2, zt3, zt4, zt5, zt6, e0_3, e0_4, e0_10, e0_11] at hM
      have gz := (f0.g).1 (x1).toNat (by omega)
      try simp only [zt0, zt1, zt2, zt3, zt4, zt5, zt6, e0_3, e0_4, e0_10, e0_11] at gz
      have gy := (f0.g).2.2.1 (x2).toNat
      try simp only [zt0, zt1, zt2, zt3, zt4, zt5, zt6, e0_3, e0_4, e0_10, e0_11] at gy
      have g0 := zJs_nn G (x := x2) (by omega)
      try simp only [zt0, zt1, zt2, zt3, zt4, zt5, zt6, e0_3, e0_4, e0_10, e0_11] at g0
      rw [b158_114]
      try simp only [zput_s, zput_n, ti_g, oI_add, oI_sub, oI_mul]
      refine zok_ck ((q0).1) ?_
      refine zok_c0 (s157 (q0) (by omega) (by omega) (by first | (omega) | ((try simp only [zt0, zt1, zt2, zt3, zt4, zt5, zt6, e0_3, e0_4, e0_10, e0_11]); omega)) (by first | (omega) | ((try simp only [zt0, zt1, zt2, zt3, zt4, zt5, zt6, e0_3, e0_4, e0_10, e0_11]); omega)) (by first | (omega) | ((try simp only [zt0, zt1, zt2, zt3, zt4, zt5, zt6, e0_3, e0_4, e0_10, e0_11]); omega)) (f0.g)) (fun t2 p2 => ?_)
      obtain ⟨f2, p2⟩ := p2
      have e2_3 : ∀ k, tg t2 (sr sh r0 3) k = tg t1 (sr sh r0 3) k := fun k => f2.eq q0 (i := 3) (by decide) (by decide) k
      have e2_4 : ∀ k, tg t2 (sr sh r0 4) k = tg t1 (sr sh r0 4) k := fun k => f2.eq q0 (i := 4) (by decide) (by decide) k
      have e2_10 : ∀ k, tg t2 (sr sh r0 10) k = tg t1 (sr sh r0 10) k := fun k => f2.eq q0 (i := 10) (by decide) (by decide) k
      have e2_11 : ∀ k, tg t2 (sr sh r0 11) k = tg t1 (sr sh r0 11) k := fun k => f2.eq q0 (i := 11) (by decide) (by decide) k
      try simp only [zt0, zt1, zt2, zt3, zt4, zt5, zt6, e0_3, e0_4, e0_10, e0_11, e2_3, e2_4, e2_10, e2_11] at p2
      simp only [zput_s, zput_n, ti_g, oI_add, oI_sub, oI_mul, zt0, zt1, zt2, zt3, zt4, zt5, zt6, e0_3, e0_4, e0_10, e0_11, e2_3, e2_4, e2_10, e2_11, b158_120]
      try simp only [zput_s, zput_n, ti_g, oI_add, oI_sub, oI_mul]
      first | refine zok_eq (by omega) (fun c4 => ?_) (fun c4 => ?_) | refine zok_if (fun c4 => ?_) (fun c4 => ?_)
      · simp only [zput_s, zput_n, ti_g, oI_add, oI_sub, oI_mul, zt0, zt1, zt2, zt3, zt4, zt5, zt6, e0_3, e0_4, e0_10, e0_11, e2_3, e2_4, e2_10, e2_11, b158_129]
        try simp only [zput_s, zput_n, ti_g, oI_add, oI_sub, oI_mul]
        first | refine zok_ne (by omega) (fun c6 => ?_) (fun c6 => ?_) | refine zok_if (fun c6 => ?_) (fun c6 => ?_)
        · simp only [zput_s, zput_n, ti_g, oI_add, oI_sub, oI_mul, zt0, zt1, zt2, zt3, zt4, zt5, zt6, e0_3, e0_4, e0_10, e0_11, e2_3, e2_4, e2_10, e2_11, b158_142]
          try simp only [zput_s, zput_n, ti_g, oI_add, oI_sub, oI_mul]
          refine zok_ck ((q0).1) ?_
          refine zok_c0 (s156 (q0) (by omega) (by omega) (by first | (omega) | ((try simp only [zt0, zt1, zt2, zt3, zt4, zt5, zt6, e0_3, e0_4, e0_10, e0_11, e2_3, e2_4, e2_10, e2_11]); omega)) (by first | (omega) | ((try simp only [zt0, zt1, zt2, zt3, zt4, zt5, zt6, e0_3, e0_4, e0_10, e0_11, e2_3, e2_4, e2_10, e2_11]); omega)) (f2.g)) (fun t8 p8 => ?_)
          obtain ⟨f8, p8⟩ := p8
          have e8_3 : ∀ k, tg t8 (sr sh r0 3) k = tg t2 (sr sh r0 3) k := fun k => f8.eq q0 (i := 3) (by decide) (by decide) k
          have e8_4 : ∀ k, tg t8 (sr sh r0 4) k = tg t2 (sr sh r0 4) k := fun k => f8.eq q0 (i := 4) (by decide) (by decide) k
          have e8_10 : ∀ k, tg t8 (sr sh r0 10) k = tg t2 (sr sh r0 10) k := fun k => f8.eq q0 (i := 10) (by decide) (by decide) k
          have e8_11 : ∀ k, tg t8 (sr sh r0 11) k = tg t2 (sr sh r0 11) k := fun k => f8.eq q0 (i := 11) (by decide) (by decide) k
          try simp only [zt0, zt1, zt2, zt3, zt4, zt5, zt6, e0_3, e0_4, e0_10, e0_11, e2_3, e2_4, e2_10, e2_11, e8_3, e8_4, e8_10, e8_11] at p8
          try simp only [zput_s, zput_n, ti_g, oI_add, oI_sub, oI_mul]
          exact ih.2.2.2.2 _ _ ((FrV.trans (Ns := [1, 2]) ((FrV.trans (Ns := [1, 2]) (f0) f2 (by decide) (by decide))) f8 (by decide) (by decide))) (by first | omega | ((try simp only [zt0, zt1, zt2, zt3, zt4, zt5, zt6, e0_3, e0_4, e0_10, e0_11, e2_3, e2_4, e2_10, e2_11, e8_3, e8_4, e8_10, e8_11]); omega)) (fun k hk => by ((try have c0 := hq1 k hk); (try have c0 := hq1 k); (have c1 := p2.2 k (by omega)); (have c6 := p8.2 k (by omega)); (try simp only [zt0, zt1, zt2, zt3, zt4, zt5, zt6] at *); omega)) (by first | omega | ((try simp only [zt0, zt1, zt2, zt3, zt4, zt5, zt6, e0_3, e0_4, e0_10, e0_11, e2_3, e2_4, e2_10, e2_11, e8_3, e8_4, e8_10, e8_11]); omega))
        · simp only [zput_s, zput_n, ti_g, oI_add, oI_sub, oI_mul, zt0, zt1, zt2, zt3, zt4, zt5, zt6, e0_3, e0_4, e0_10, e0_11, e2_3, e2_4, e2_10, e2_11, b158_142]
          try simp only [zput_s, zput_n, ti_g, oI_add, oI_sub, oI_mul]
          refine zok_ck ((q0).1) ?_
          refine zok_c0 (s156 (q0) (by omega) (by omega) (by first | (omega) | ((try simp only [zt0, zt1, zt2, zt3, zt4, zt5, zt6, e0_3, e0_4, e0_10, e0_11, e2_3, e2_4, e2_10, e2_11]); omega)) (by first | (omega) | ((try simp only [zt0, zt1, zt2, zt3, zt4, zt5, zt6, e0_3, e0_4, e0_10, e0_11, e2_3, e2_4, e2_10, e2_11]); omega)) (f2.g)) (fun t10 p10 => ?_)
          obtain ⟨f10, p10⟩ := p10
          have e10_3 : ∀ k, tg t10 (sr sh r0 3) k = tg t2 (sr sh r0 3) k := fun k => f10.eq q0 (i := 3) (by decide) (by decide) k
          have e10_4 : ∀ k, tg t10 (sr sh r0 4) k = tg t2 (sr sh r0 4) k := fun k => f10.eq q0 (i := 4) (by decide) (by decide) k
          have e10_10 : ∀ k, tg t10 (sr sh r0 10) k = tg t2 (sr sh r0 10) k := fun k => f10.eq q0 (i := 10) (by decide) (by decide) k
          have e10_11 : ∀ k, tg t10 (sr sh r0 11) k = tg t2 (sr sh r0 11) k := fun k => f10.eq q0 (i := 11) (by decide) (by decide) k
          try simp only [zt0, zt1, zt2, zt3, zt4, zt5, zt6, e0_3, e0_4, e0_10, e0_11, e2_3, e2_4, e2_10, e2_11, e10_3, e10_4, e10_10, e10_11] at p10
          try simp only [zput_s, zput_n, ti_g, oI_add, oI_sub, oI_mul]
          exact ih.2.2.2.2 _ _ ((FrV.trans (Ns := [1, 2]) ((FrV.trans (Ns := [1, 2]) (f0) f2 (by decide) (by decide))) f10 (by decide) (by decide))) (by first | omega | ((try simp only [zt0, zt1, zt2, zt3, zt4, zt5, zt6, e0_3, e0_4, e0_10, e0_11, e2_3, e2_4, e2_10, e2_11, e10_3, e10_4, e10_10, e10_11]); omega)) (fun k hk => by ((try have c0 := hq1 k hk); (try have c0 := hq1 k); (have c1 := p2.2 k (by omega)); (have c6 := p10.2 k (by omega)); (try simp only [zt0, zt1, zt2, zt3, zt4, zt5, zt6] at *); omega)) (by first | omega | ((try simp only [zt0, zt1, zt2, zt3, zt4, zt5, zt6, e0_3, e0_4, e0_10, e0_11, e2_3, e2_4, e2_10, e2_11, e10_3, e10_4, e10_10, e10_11]); omega))
      · first | refine zok_ne (by omega) (fun c11 => ?_) (fun c11 => ?_) | refine zok_if (fun c11 => ?_) (fun c11 => ?_)
        · try simp only [zput_s, zput_n, ti_g, oI_add, oI_sub, oI_mul]
          exact ih.2.2.2.2 _ _ ((FrV.trans (Ns := [1, 2]) (f0) f2 (by decide) (by decide))) (by first | omega | ((try simp only [zt0, zt1, zt2, zt3, zt4, zt5, zt6, e0_3, e0_4, e0_10, e0_11, e2_3, e2_4, e2_10, e2_11]); omega)) (fun k hk => by ((try have c0 := hq1 k hk); (try have c0 := hq1 k); (have c1 := p2.2 k (by omega)); (try simp only [zt0, zt1, zt2, zt3, zt4, zt5, zt6] at *); omega)) (by first | omega | ((try simp only [zt0, zt1, zt2, zt3, zt4, zt5, zt6, e0_3, e0_4, e0_10, e0_11, e2_3, e2_4, e2_10, e2_11]); omega))
        · simp only [zput_s, zput_n, ti_g, oI_add, oI_sub, oI_mul, zt0, zt1, zt2, zt3, zt4, zt5, zt6, e0_3, e0_4, e0_10, e0_11, e2_3, e2_4, e2_10, e2_11, b158_129]
          try simp only [zput_s, zput_n, ti_g, oI_add, oI_sub, oI_mul]
          first | refine zok_ne (by omega) (fun c13 => ?_) (fun c13 => ?_) | refine zok_if (fun c13 => ?_) (fun c13 => ?_)
          · simp only [zput_s, zput_n, ti_g, oI_add, oI_sub, oI_mul, zt0, zt1, zt2, zt3, zt4, zt5, zt6, e0_3, e0_4, e0_10, e0_11, e2_3, e2_4, e2_10, e2_11, b158_142]
            try simp only [zput_s, zput_n, ti_g, oI_add, oI_sub, oI_mul]
            refine zok_ck ((q0).1) ?_
            refine zok_c0 (s156 (q0) (by omega) (by omega) (by first | (omega) | ((try simp only [zt0, zt1, zt2, zt3, zt4, zt5, zt6, e0_3, e0_4, e0_10, e0_11, e2_3, e2_4, e2_10, e2_11]); omega)) (by first | (omega) | ((try simp only [zt0, zt1, zt2, zt3, zt4, zt5, zt6, e0_3, e0_4, e0_10, e0_11, e2_3, e2_4, e2_10, e2_11]); omega)) (f2.g)) (fun t15 p15 => ?_)
            obtain ⟨f15, p15⟩ := p15
            have e15_3 : ∀ k, tg t15 (sr sh r0 3) k = tg t2 (sr sh r0 3) k := fun k => f15.eq q0 (i := 3) (by decide) (by decide) k
            have e15_4 : ∀ k, tg t15 (sr sh r0 4) k = tg t2 (sr sh r0 4) k := fun k => f15.eq q0 (i := 4) (by decide) (by decide) k
            have e15_10 : ∀ k, tg t15 (sr sh r0 10) k = tg t2 (sr sh r0 10) k := fun k => f15.eq q0 (i := 10) (by decide) (by decide) k
            have e15_11 : ∀ k, tg t15 (sr sh r0 11) k = tg t2 (sr sh r0 11) k := fun k => f15.eq q0 (i := 11) (by decide) (by decide) k
            try simp only [zt0, zt1, zt2, zt3, zt4, zt5, zt6, e0_3, e0_4, e0_10, e0_11, e2_3, e2_4, e2_10, e2_11, e15_3, e15_4, e15_10, e15_11] at p15
            try simp only [zput_s, zput_n, ti_g, oI_add, oI_sub, oI_mul]
            exact ih.2.2.2.2 _ _ ((FrV.trans (Ns := [1, 2]) ((FrV.trans (Ns := [1, 2]) (f0) f2 (by decide) (by decide))) f15 (by decide) (by decide))) (by first | omega | ((try simp only [zt0, zt1, zt2, zt3, zt4, zt5, zt6, e0_3, e0_4, e0_10, e0_11, e2_3, e2_4, e2_10, e2_11, e15_3, e15_4, e15_10, e15_11]); omega)) (fun k hk => by ((try have c0 := hq1 k hk); (try have c0 := hq1 k); (have c1 := p2.2 k (by omega)); (have c6 := p15.2 k (by omega)); (try simp only [zt0, zt1, zt2, zt3, zt4, zt5, zt6] at *); omega)) (by first | omega | ((try simp only [zt0, zt1, zt2, zt3, zt4, zt5, zt6, e0_3, e0_4, e0_10, e0_11, e2_3, e2_4, e2_10, e2_11, e15_3, e15_4, e15_10, e15_11]); omega))
          · simp only [zput_s, zput_n, ti_g, oI_add, oI_sub, oI_mul, zt0, zt1, zt2, zt3, zt4, zt5, zt6, e0_3, e0_4, e0_10, e0_11, e2_3, e2_4, e2_10, e2_11, b158_142]
            try simp only [zput_s, zput_n, ti_g, oI_add, oI_sub, oI_mul]
            refine zok_ck ((q0).1) ?_
            refine zok_c0 (s156 (q0) (by omega) (by omega) (by first | (omega) | ((try simp only [zt0, zt1, zt2, zt3, zt4, zt5, zt6, e0_3, e0_4, e0_10, e0_11, e2_3, e2_4, e2_10, e2_11]); omega)) (by first | (omega) | ((try simp only [zt0, zt1, zt2, zt3, zt4, zt5, zt6, e0_3, e0_4, e0_10, e0_11, e2_3, e2_4, e2_10, e2_11]); omega)) (f2.g)) (fun t17 p17 => ?_)
            obtain ⟨f17, p17⟩ := p17
            have e17_3 : ∀ k, tg t17 (sr sh r0 3) k = tg t2 (sr sh r0 3) k := fun k => f17.eq q0 (i := 3) (by decide) (by decide) k
            have e17_4 : ∀ k, tg t17 (sr sh r0 4) k = tg t2 (sr sh r0 4) k := fun k => f17.eq q0 (i := 4) (by decide) (by decide) k
            have e17_10 : ∀ k, tg t17 (sr sh r0 10) k = tg t2 (sr sh r0 10) k := fun k => f17.eq q0 (i := 10) (by decide) (by decide) k
            have e17_11 : ∀ k, tg t17 (sr sh r0 11) k = tg t2 (sr sh r0 11) k := fun k => f17.eq q0 (i := 11) (by decide) (by decide) k
            try simp only [zt0, zt1, zt2, zt3, zt4, zt5, zt6, e0_3, e0_4, e0_10, e0_11, e2_3, e2_4, e2_10, e2_11, e17_3, e17_4, e17_10, e17_11] at p17
            try simp only [zput_s, zput_n, ti_g, oI_add, oI_sub, oI_mul]
            exact ih.2.2.2.2 _ _ ((FrV.trans (Ns := [1, 2]) ((FrV.trans (Ns := [1, 2]) (f0) f2 (by decide) (by decide))) f17 (by decide) (by decide))) (by first | omega | ((try simp only [zt0, zt1, zt2, zt3, zt4, zt5, zt6, e0_3, e0_4, e0_10, e0_11, e2_3, e2_4, e2_10, e2_11, e17_3, e17_4, e17_10, e17_11]); omega)) (fun k hk => by ((try have c0 := hq1 k hk); (try have c0 := hq1 k); (have c1 := p2.2 k (by omega)); (have c6 := p17.2 k (by omega)); (try simp only [zt0, zt1, zt2, zt3, zt4, zt5, zt6] at *); omega)) (by first | omega | ((try simp only [zt0, zt1, zt2, zt3, zt4, zt5, zt6, e0_3, e0_4, e0_10, e0_11, e2_3, e2_4, e2_10, e2_11, e17_3, e17_4, e17_10, e17_11]); omega))
    · intro x2  t1 f0 hv hq1 hm
      have ha0_1 : (sk sh (sr sh r0 1)).2 = 21000 := by rw [q0.2.2.2.2.1]
      have ha0_2 : (sk sh (sr sh r0 2)).2 = 14 := by rw [q0.2.2.2.2.2.1]
      have ha0_3 : (sk sh (sr sh r0 3)).2 = 98 := by rw [q0.2.2.2.2.2.2.1]
      have ha0_4 : (sk sh (sr sh r0 4)).2 = 98 := by rw [q0.2.2.2.2.2.2.2.1]
      have ha0_8 : (sk sh (sr sh r0 8)).2 = 1500 := by rw [q0.2.2.2.2.2.2.2.2.1]
      have ha0_9 : (sk sh (sr sh r0 9)).2 = 10500 := by rw [q0.2.2.2.2.2.2.2.2.2.1]
      have ha0_10 : (sk sh (sr sh r0 10)).2 = 7 := by rw [q0.2.2.2.2.2.2.2.2.2.2.1]
      have ha0_11 : (sk sh (sr sh r0 11)).2 = 7 := by rw [q0.2.2.2.2.2.2.2.2.2.2.2.1]
      have ha0_12 : (sk sh (sr sh r0 12)).2 = 1500 := by rw [q0.2.2.2.2.2.2.2.2.2.2.2.2.1]
      have ha0_13 : (sk sh (sr sh r0 13)).2 = 1500 := by rw [q0.2.2.2.2.2.2.2.2.2.2.2.2.2.1]
      have ha0_14 : (sk sh (sr sh r0 14)).2 = 20 := by rw [q0.2.2.2.2.2.2.2.2.2.2.2.2.2.2]
      have e0_3 : ∀ k, tg t1 (sr sh r0 3) k = tg t0 (sr sh r0 3) k := fun k => f0.eq q0 (i := 3) (by decide) (by decide) k
      have e0_4 : ∀ k, tg t1 (sr sh r0 4) k = tg t0 (sr sh r0 4) k := fun k => f0.eq q0 (i := 4) (by decide) (by decide) k
      have e0_10 : ∀ k, tg t1 (sr sh r0 10) k = tg t0 (sr sh r0 10) k := fun k => f0.eq q0 (i := 10) (by decide) (by decide) k
      have e0_11 : ∀ k, tg t1 (sr sh r0 11) k = tg t0 (sr sh r0 11) k := fun k => f0.eq q0 (i := 11) (by decide) (by decide) k
      try simp only [zt0, zt1, zt2, zt3, zt4, zt5, zt6, e0_3, e0_4, e0_10, e0_11] at hv
      try simp only [zt0, zt1, zt2, zt3, zt4, zt5, zt6, e0_3, e0_4, e0_10, e0_11] at hm
      have hJ := zJs_s (sh := sh) (m := r0) (t := t0) (x := x2) (by omega)
      try simp only [zt0, zt1, zt2, zt3, zt4, zt5, zt6, e0_3, e0_4, e0_10, e0_11] at hJ
      have hI := zJ_i (sh := sh) (m := r0) (t := t0) (x := x2) (by omega)
      try simp only [zt0, zt1, zt2, zt3, zt4, zt5, zt6, e0_3, e0_4, e0_10, e0_11] at hI
      have hM : x2 ≤ 6 → zJs sh r0 t0 (x2 + 1).toNat ≤ zJs sh r0 t0 7 := fun h => zJs_le G (by omega) h
      try simp only [zt0, zt1, zt2, zt3, zt4, zt5, zt6, e0_3, e0_4, e0_10, e0_11] at hM
      have gz := (f0.g).1 (x1).toNat (by omega)
      try simp only [zt0, zt1, zt2, zt3, zt4, zt5, zt6, e0_3, e0_4, e0_10, e0_11] at gz
      have gy := (f0.g).2.2.1 (x2).toNat
      try simp only [zt0, zt1, zt2, zt3, zt4, zt5, zt6, e0_3, e0_4, e0_10, e0_11] at gy
      have g0 := zJs_nn G (x := x2) (by omega)
      try simp only [zt0, zt1, zt2, zt3, zt4, zt5, zt6, e0_3, e0_4, e0_10, e0_11] at g0
      rw [b158_145]
      try simp only [zput_s, zput_n, ti_g, oI_add, oI_sub, oI_mul]
      try simp only [zput_s, zput_n, ti_g, oI_add, oI_sub, oI_mul]
      exact ih.1 _ _ (f0) (by first | omega | ((try simp only [zt0, zt1, zt2, zt3, zt4, zt5, zt6, e0_3, e0_4, e0_10, e0_11]); omega)) (fun k hk => by ((try have c0 := hq1 k hk); (try have c0 := hq1 k); (try simp only [zt0, zt1, zt2, zt3, zt4, zt5, zt6] at *); omega)) (by first | omega | ((try simp only [zt0, zt1, zt2, zt3, zt4, zt5, zt6, e0_3, e0_4, e0_10, e0_11]); omega))
theorem l158_9 {sh : zSh} {t0 : zSt} {MB : Nat} {r0 : Nat} (q0 : zMd sh MB r0) {x1 : Int} (u1 : -2147483648 ≤ x1 ∧ x1 ≤ 2147483647) (d1 : 0 ≤ x1 ∧ x1 ≤ 13) (d2 : (x1 < 8 → zJs sh r0 t0 7 ≤ 400) ∧ (x1 = 13 → zJs sh r0 t0 7 ≤ 400) ∧ zJs sh r0 t0 7 + 1500 * x1 ≤ 21000) (G : GI sh r0 t0) : ∀ (n : Nat) (x2 : Int)  (t1 : zSt), FrV sh r0 [1, 2] t0 t1 → (-2147483648 ≤ x2 ∧ x2 ≤ 2147483647) ∧ (0 ≤ x2 ∧ x2 ≤ 7) ∧ (tg t1 (sr sh r0 2) (x1).toNat = zJs sh r0 t0 (x2).toNat) → (∀ k, k ≠ (x1).toNat → tg t1 (sr sh r0 2) k = tg t0 (sr sh r0 2) k) → (10 * (7 - x2) + 5).toNat < n → zok (zev zP 158 9 [some (zR r0), some (zI (oI x1)), some (zI (oI x2))] [] (sh, t1)) (zq0 (fun t' => FrV sh r0 [1, 2] t0 t' ∧ (tg t' (sr sh r0 2) (x1).toNat = zJs sh r0 t0 7 ∧ ∀ k, k ≠ (x1).toNat → tg t' (sr sh r0 2) k = tg t0 (sr sh r0 2) k)) sh) := fun n => (l158_J  q0 u1 d1 d2 G n).1
theorem l158_67 {sh : zSh} {t0 : zSt} {MB : Nat} {r0 : Nat} (q0 : zMd sh MB r0) {x1 : Int} (u1 : -2147483648 ≤ x1 ∧ x1 ≤ 2147483647) (d1 : 0 ≤ x1 ∧ x1 ≤ 13) (d2 : (x1 < 8 → zJs sh r0 t0 7 ≤ 400) ∧ (x1 = 13 → zJs sh r0 t0 7 ≤ 400) ∧ zJs sh r0 t0 7 + 1500 * x1 ≤ 21000) (G : GI sh r0 t0) : ∀ (n : Nat) (x2 : Int)  (t1 : zSt), FrV sh r0 [1, 2] t0 t1 → (-2147483648 ≤ x2 ∧ x2 ≤ 2147483647) ∧ (0 ≤ x2 ∧ x2 ≤ 6) ∧ (tg t1 (sr sh r0 2) (x1).toNat = zJs sh r0 t0 (x2).toNat + (if x2 = 3 ∨ x2 = 5 ∨ x2 = 6 then 1 else 0)) ∧ (tg t0 (sr sh r0 11) (x2).toNat ≠ 0) → (∀ k, k ≠ (x1).toNat → tg t1 (sr sh r0 2) k = tg t0 (sr sh r0 2) k) → (10 * (7 - x2) + 4).toNat < n → zok (zev zP 158 67 [some (zR r0), some (zI (oI x1)), some (zI (oI x2))] [] (sh, t1)) (zq0 (fun t' => FrV sh r0 [1, 2] t0 t' ∧ (tg t' (sr sh r0 2) (x1).toNat = zJs sh r0 t0 7 ∧ ∀ k, k ≠ (x1).toNat → tg t' (sr sh r0 2) k = tg t0 (sr sh r0 2) k)) sh) := fun n => (l158_J  q0 u1 d1 d2 G n).2.1
theorem l158_95 {sh : zSh} {t0 : zSt} {MB : Nat} {r0 : Nat} (q0 : zMd sh MB r0) {x1 : Int} (u1 : -2147483648 ≤ x1 ∧ x1 ≤ 2147483647) (d1 : 0 ≤ x1 ∧ x1 ≤ 13) (d2 : (x1 < 8 → zJs sh r0 t0 7 ≤ 400) ∧ (x1 = 13 → zJs sh r0 t0 7 ≤ 400) ∧ zJs sh r0 t0 7 + 1500 * x1 ≤ 21000) (G : GI sh r0 t0) : ∀ (n : Nat) (x2 : Int)  (t1 : zSt), FrV sh r0 [1, 2] t0 t1 → (-2147483648 ≤ x2 ∧ x2 ≤ 2147483647) ∧ (0 ≤ x2 ∧ x2 ≤ 6) ∧ (tg t1 (sr sh r0 2) (x1).toNat = zJs sh r0 t0 (x2).toNat + (if x2 = 3 ∨ x2 = 5 ∨ x2 = 6 then 1 else 0) + (if x2 = 2 ∧ tg t0 (sr sh r0 11) 1 = 0 then 2 else 0)) ∧ (tg t0 (sr sh r0 11) (x2).toNat ≠ 0) → (∀ k, k ≠ (x1).toNat → tg t1 (sr sh r0 2) k = tg t0 (sr sh r0 2) k) → (10 * (7 - x2) + 3).toNat < n → zok (zev zP 158 95 [some (zR r0), some (zI (oI x1)), some (zI (oI x2))] [] (sh, t1)) (zq0 (fun t' => FrV sh r0 [1, 2] t0 t' ∧ (tg t' (sr sh r0 2) (x1).toNat = zJs sh r0 t0 7 ∧ ∀ k, k ≠ (x1).toNat → tg t' (sr sh r0 2) k = tg t0 (sr sh r0 2) k)) sh) := fun n => (l158_J  q0 u1 d1 d2 G n).2.2.1
theorem l158_114 {sh : zSh} {t0 : zSt} {MB : Nat} {r0 : Nat} (q0 : zMd sh MB r0) {x1 : Int} (u1 : -2147483648 ≤ x1 ∧ x1 ≤ 2147483647) (d1 : 0 ≤ x1 ∧ x1 ≤ 13) (d2 : (x1 < 8 → zJs sh r0 t0 7 ≤ 400) ∧ (x1 = 13 → zJs sh r0 t0 7 ≤ 400) ∧ zJs sh r0 t0 7 + 1500 * x1 ≤ 21000) (G : GI sh r0 t0) : ∀ (n : Nat) (x2 : Int)  (t1 : zSt), FrV sh r0 [1, 2] t0 t1 → (-2147483648 ≤ x2 ∧ x2 ≤ 2147483647) ∧ (0 ≤ x2 ∧ x2 ≤ 6) ∧ (tg t1 (sr sh r0 2) (x1).toNat = zJs sh r0 t0 (x2).toNat + (if x2 = 3 ∨ x2 = 5 ∨ x2 = 6 then 1 else 0) + (if x2 = 2 ∧ tg t0 (sr sh r0 11) 1 = 0 then 2 else 0) + (if x2 = 1 then 2 else 0)) ∧ (tg t0 (sr sh r0 11) (x2).toNat ≠ 0) → (∀ k, k ≠ (x1).toNat → tg t1 (sr sh r0 2) k = tg t0 (sr sh r0 2) k) → (10 * (7 - x2) + 2).toNat < n → zok (zev zP 158 114 [some (zR r0), some (zI (oI x1)), some (zI (oI x2))] [] (sh, t1)) (zq0 (fun t' => FrV sh r0 [1, 2] t0 t' ∧ (tg t' (sr sh r0 2) (x1).toNat = zJs sh r0 t0 7 ∧ ∀ k, k ≠ (x1).toNat → tg t' (sr sh r0 2) k = tg t0 (sr sh r0 2) k)) sh) := fun n => (l158_J  q0 u1 d1 d2 G n).2.2.2.1
theorem l158_145 {sh : zSh} {t0 : zSt} {MB : Nat} {r0 : Nat} (q0 : zMd sh MB r0) {x1 : Int} (u1 : -2147483648 ≤ x1 ∧ x1 ≤ 2147483647) (d1 : 0 ≤ x1 ∧ x1 ≤ 13) (d2 : (x1 < 8 → zJs sh r0 t0 7 ≤ 400) ∧ (x1 = 13 → zJs sh r0 t0 7 ≤ 400) ∧ zJs sh r0 t0 7 + 1500 * x1 ≤ 21000) (G : GI sh r0 t0) : ∀ (n : Nat) (x2 : Int)  (t1 : zSt), FrV sh r0 [1, 2] t0 t1 → (-2147483648 ≤ x2 ∧ x2 ≤ 2147483647) ∧ (0 ≤ x2 ∧ x2 ≤ 6) ∧ (tg t1 (sr sh r0 2) (x1).toNat = zJs sh r0 t0 (x2).toNat + zJ sh r0 t0 (x2).toNat) → (∀ k, k ≠ (x1).toNat → tg t1 (sr sh r0 2) k = tg t0 (sr sh r0 2) k) → (10 * (7 - x2) + 1).toNat < n → zok (zev zP 158 145 [some (zR r0), some (zI (oI x1)), some (zI (oI x2))] [] (sh, t1)) (zq0 (fun t' => FrV sh r0 [1, 2] t0 t' ∧ (tg t' (sr sh r0 2) (x1).toNat = zJs sh r0 t0 7 ∧ ∀ k, k ≠ (x1).toNat → tg t' (sr sh r0 2) k = tg t0 (sr sh r0 2) k)) sh) := fun n => (l158_J  q0 u1 d1 d2 G n).2.2.2.2
theorem s158 {sh : zSh} {t : zSt} {MB : Nat} {r0 : Nat} (q0 : zMd sh MB r0) {x1 : Int} (u1 : -2147483648 ≤ x1 ∧ x1 ≤ 2147483647) (d1 : 0 ≤ x1 ∧ x1 ≤ 13) (d2 : (x1 < 8 → zJs sh r0 t 7 ≤ 400) ∧ (x1 = 13 → zJs sh r0 t 7 ≤ 400) ∧ zJs sh r0 t 7 + 1500 * x1 ≤ 21000) (G : GI sh r0 t) : zok (zcl zP 158 [zR r0, zI (oI x1)] (sh, t)) (zq0 (fun t' => FrV sh r0 [1, 2] t t' ∧ (tg t' (sr sh r0 2) (x1).toNat = zJs sh r0 t 7 ∧ ∀ k, k ≠ (x1).toNat → tg t' (sr sh r0 2) k = tg t (sr sh r0 2) k)) sh) := by
  have ha0_1 : (sk sh (sr sh r0 1)).2 = 21000 := by rw [q0.2.2.2.2.1]
  have ha0_2 : (sk sh (sr sh r0 2)).2 = 14 := by rw [q0.2.2.2.2.2.1]
  have ha0_3 : (sk sh (sr sh r0 3)).2 = 98 := by rw [q0.2.2.2.2.2.2.1]
  have ha0_4 : (sk sh (sr sh r0 4)).2 = 98 := by rw [q0.2.2.2.2.2.2.2.1]
  have ha0_8 : (sk sh (sr sh r0 8)).2 = 1500 := by rw [q0.2.2.2.2.2.2.2.2.1]
  have ha0_9 : (sk sh (sr sh r0 9)).2 = 10500 := by rw [q0.2.2.2.2.2.2.2.2.2.1]
  have ha0_10 : (sk sh (sr sh r0 10)).2 = 7 := by rw [q0.2.2.2.2.2.2.2.2.2.2.1]
  have ha0_11 : (sk sh (sr sh r0 11)).2 = 7 := by rw [q0.2.2.2.2.2.2.2.2.2.2.2.1]
  have ha0_12 : (sk sh (sr sh r0 12)).2 = 1500 := by rw [q0.2.2.2.2.2.2.2.2.2.2.2.2.1]
  have ha0_13 : (sk sh (sr sh r0 13)).2 = 1500 := by rw [q0.2.2.2.2.2.2.2.2.2.2.2.2.2.1]
  have ha0_14 : (sk sh (sr sh r0 14)).2 = 20 := by rw [q0.2.2.2.2.2.2.2.2.2.2.2.2.2.2]
  have hn := zJs_le G (x := 0) (by decide) (by decide)
  have hn2 := zJ_nn G (p := 0) (by decide)
  have hn3 : zJs sh r0 t (0 + 1 : Int).toNat = 0 + zJ sh r0 t 0 := rfl
  have hn4 : zJs sh r0 t 0 = 0 := rfl
  rw [b158_0]
  try simp only [zput_s, zput_n, ti_g, oI_add, oI_sub, oI_mul]
  refine zok_ck ((q0).1) ?_
  refine zok_ck ⟨(by rw [(q0).2.2.2.2.2.1]), zin_o (by omega) (by omega) (by omega)⟩ ?_
  try rw [nN_o (a := x1) (by omega) (by omega)]
  try simp only [zput_s, zput_n, ti_g, oI_add, oI_sub, oI_mul, zt0, zt1, zt2, zt3, zt4, zt5, zt6]
  obtain ⟨t3, ht3⟩ : ∃ t', t' = tI t (sr sh r0 2) ((x1).toNat) (oI (0)) := ⟨_, rfl⟩
  try simp only [zt0, zt1, zt2, zt3, zt4, zt5, zt6] at ht3
  rw [← ht3]
  have f3 : FrV sh r0 [2] t t3 := by rw [ht3]; exact GI_sz q0 (G) (by omega) (by omega)
  have w3 : ∀ k, tg t3 (sr sh r0 2) k = if k = (x1).toNat then 0 else tg t (sr sh r0 2) k := fun k => by rw [ht3]; refine (tg_at (by omega)).trans ?_; first | rfl | simp only [zt0, zt1, zt2, zt3, zt4, zt5, zt6, true_and]
  have ws3 : tg t3 (sr sh r0 2) ((x1).toNat) = 0 := by rw [w3, if_pos rfl]
  try simp only [zt0, zt1, zt2, zt3, zt4, zt5, zt6] at w3
  try simp only [zt0, zt1, zt2, zt3, zt4, zt5, zt6] at ws3
  have e3_3 : ∀ k, tg t3 (sr sh r0 3) k = tg t (sr sh r0 3) k := fun k => f3.eq q0 (i := 3) (by decide) (by decide) k
  have e3_4 : ∀ k, tg t3 (sr sh r0 4) k = tg t (sr sh r0 4) k := fun k => f3.eq q0 (i := 4) (by decide) (by decide) k
  have e3_10 : ∀ k, tg t3 (sr sh r0 10) k = tg t (sr sh r0 10) k := fun k => f3.eq q0 (i := 10) (by decide) (by decide) k
  have e3_11 : ∀ k, tg t3 (sr sh r0 11) k = tg t (sr sh r0 11) k := fun k => f3.eq q0 (i := 11) (by decide) (by decide) k
  try simp only [zput_s, zput_n, ti_g, oI_add, oI_sub, oI_mul]
  exact l158_9 q0 (by omega) d1 d2 G _ _ _ ((FrV.trans (Ns := [1, 2]) (FrV.refl (Ls := []) G) f3 (by decide) (by decide))) (by first | omega | ((try simp only [zt0, zt1, zt2, zt3, zt4, zt5, zt6, e3_3, e3_4, e3_10, e3_11]); omega)) (fun k hk => by ((try have c0 := hq1 k hk); (try have c0 := hq1 k); (have c1 := w3 k); (try simp only [zt0, zt1, zt2, zt3, zt4, zt5, zt6] at *); omega)) (Nat.lt_succ_self _)
/-! X9_guard -/
theorem l163_41 {sh : zSh} {t0 : zSt} {MB : Nat} {r0 : Nat} (q0 : zMd sh MB r0) (d1 : tg t0 (sr sh r0 10) 4 ≤ 2000) (G : GI sh r0 t0) : ∀ (n : Nat) (x1 : Int)  (t1 : zSt), FrV sh r0 [9, 10] t0 t1 → (-2147483648 ≤ x1 ∧ x1 ≤ 2147483647) ∧ (-1 ≤ x1 ∧ x1 < tg t1 (sr sh r0 10) 4) ∧ (tg t1 (sr sh r0 10) 4 = tg t0 (sr sh r0 10) 4) → (∀ k, k ≠ 4 → tg t1 (sr sh r0 10) k = tg t0 (sr sh r0 10) k) → (x1 + 1).toNat < n → zok (zev zP 163 41 [some (zR r0), some (zI (oI x1))] [] (sh, t1)) (zq0 (fun t' => FrV sh r0 [9, 10] t0 t' ∧ (tg t' (sr sh r0 10) 4 ≤ tg t0 (sr sh r0 10) 4 + 2 ∧ ∀ k, k ≠ 4 → tg t' (sr sh r0 10) k = tg t0 (sr sh r0 10) k)) sh) := by
  intro n
  induction n with
  | zero => intro x1  t1 f0 _ _ hm; omega
  | succ n ih =>
    intro x1  t1 f0 hv hq1 hm
    have ha0_1 : (sk sh (sr sh r0 1)).2 = 21000 := by rw [q0.2.2.2.2.1]
    have ha0_2 : (sk sh (sr sh r0 2)).2 = 14 := by rw [q0.2.2.2.2.2.1]
    have ha0_3 : (sk sh (sr sh r0 3)).2 = 98 := by rw [q0.2.2.2.2.2.2.1]
    have ha0_4 : (sk sh (sr sh r0 4)).2 = 98 := by rw [q0.2.2.2.2.2.2.2.1]
    have ha0_8 : (sk sh (sr sh r0 8)).2 = 1500 := by rw [q0.2.2.2.2.2.2.2.2.1]
    have ha0_9 : (sk sh (sr sh r0 9)).2 = 10500 := by rw [q0.2.2.2.2.2.2.2.2.2.1]
    have ha0_10 : (sk sh (sr sh r0 10)).2 = 7 := by rw [q0.2.2.2.2.2.2.2.2.2.2.1]
    have ha0_11 : (sk sh (sr sh r0 11)).2 = 7 := by rw [q0.2.2.2.2.2.2.2.2.2.2.2.1]
    have ha0_12 : (sk sh (sr sh r0 12)).2 = 1500 := by rw [q0.2.2.2.2.2.2.2.2.2.2.2.2.1]
    have ha0_13 : (sk sh (sr sh r0 13)).2 = 1500 := by rw [q0.2.2.2.2.2.2.2.2.2.2.2.2.2.1]
    have ha0_14 : (sk sh (sr sh r0 14)).2 = 20 := by rw [q0.2.2.2.2.2.2.2.2.2.2.2.2.2.2]
    have e0_2 : ∀ k, tg t1 (sr sh r0 2) k = tg t0 (sr sh r0 2) k := fun k => f0.eq q0 (i := 2) (by decide) (by decide) k
    have e0_3 : ∀ k, tg t1 (sr sh r0 3) k = tg t0 (sr sh r0 3) k := fun k => f0.eq q0 (i := 3) (by decide) (by decide) k
    have e0_4 : ∀ k, tg t1 (sr sh r0 4) k = tg t0 (sr sh r0 4) k := fun k => f0.eq q0 (i := 4) (by decide) (by decide) k
    have e0_11 : ∀ k, tg t1 (sr sh r0 11) k = tg t0 (sr sh r0 11) k := fun k => f0.eq q0 (i := 11) (by decide) (by decide) k
    try simp only [zt0, zt1, zt2, zt3, zt4, zt5, zt6, e0_2, e0_3, e0_4, e0_11] at hv
    try simp only [zt0, zt1, zt2, zt3, zt4, zt5, zt6, e0_2, e0_3, e0_4, e0_11] at hm
    rw [b163_41]
    try simp only [zput_s, zput_n, ti_g, oI_add, oI_sub, oI_mul]
    first | refine zok_lt (by omega) (fun c2 => ?_) (fun c2 => ?_) | refine zok_if (fun c2 => ?_) (fun c2 => ?_)
    · refine zok_ck ((q0).1) ?_
      refine zok_ck ⟨(by rw [(q0).2.2.2.2.2.2.2.2.2.1]), zin_o (by omega) (by omega) (by omega)⟩ ?_
      try rw [nN_o (a := 6001) (by omega) (by omega)]
      try rw [show (6001 : Int).toNat = 6001 from rfl]
      try simp only [zput_s, zput_n, ti_g, oI_add, oI_sub, oI_mul, zt0, zt1, zt2, zt3, zt4, zt5, zt6, e0_2, e0_3, e0_4, e0_11]
      obtain ⟨t3, ht3⟩ : ∃ t', t' = tI t1 (sr sh r0 9) (6001) (oI (46)) := ⟨_, rfl⟩
      try simp only [zt0, zt1, zt2, zt3, zt4, zt5, zt6, e0_2, e0_3, e0_4, e0_11] at ht3
      rw [← ht3]
      have f3 : FrV sh r0 [9] t1 t3 := by rw [ht3]; exact GI_free q0 (f0.g) (by decide)
      have w3 : ∀ k, tg t3 (sr sh r0 9) k = if k = 6001 then 46 else tg t1 (sr sh r0 9) k := fun k => by rw [ht3]; refine (tg_at (by omega)).trans ?_; first | rfl | simp only [zt0, zt1, zt2, zt3, zt4, zt5, zt6, e0_2, e0_3, e0_4, e0_11, true_and]
      have ws3 : tg t3 (sr sh r0 9) (6001) = 46 := by rw [w3, if_pos rfl]
      try simp only [zt0, zt1, zt2, zt3, zt4, zt5, zt6, e0_2, e0_3, e0_4, e0_11] at w3
      try simp only [zt0, zt1, zt2, zt3, zt4, zt5, zt6, e0_2, e0_3, e0_4, e0_11] at ws3
      have e3_2 : ∀ k, tg t3 (sr sh r0 2) k = tg t1 (sr sh r0 2) k := fun k => f3.eq q0 (i := 2) (by decide) (by decide) k
      have e3_3 : ∀ k, tg t3 (sr sh r0 3) k = tg t1 (sr sh r0 3) k := fun k => f3.eq q0 (i := 3) (by decide) (by decide) k
      have e3_4 : ∀ k, tg t3 (sr sh r0 4) k = tg t1 (sr sh r0 4) k := fun k => f3.eq q0 (i := 4) (by decide) (by decide) k
      have e3_10 : ∀ k, tg t3 (sr sh r0 10) k = tg t1 (sr sh r0 10) k := fun k => f3.eq q0 (i := 10) (by decide) (by decide) k
      have e3_11 : ∀ k, tg t3 (sr sh r0 11) k = tg t1 (sr sh r0 11) k := fun k => f3.eq q0 (i := 11) (by decide) (by decide) k
      refine zok_ck ((q0).1) ?_
      refine zok_ck ⟨(by rw [(q0).2.2.2.2.2.2.2.2.2.2.1]), zin_o (by omega) (by omega) (by omega)⟩ ?_
      try rw [nN_o (a := 4) (by omega) (by omega)]
      try rw [show (4 : Int).toNat = 4 from rfl]
      try simp only [zput_s, zput_n, ti_g, oI_add, oI_sub, oI_mul, zt0, zt1, zt2, zt3, zt4, zt5, zt6, e0_2, e0_3, e0_4, e0_11, e3_2, e3_3, e3_4, e3_10, e3_11]
      have gl4 := And.intro (tg_lo t3 (sr sh r0 10) (4)) (tg_hi t3 (sr sh r0 10) (4))
      have gm4 := (f3.g).2.2.1 (4) (by omega)
      try simp only [zt0, zt1, zt2, zt3, zt4, zt5, zt6, e0_2, e0_3, e0_4, e0_11, e3_2, e3_3, e3_4, e3_10, e3_11] at gl4
      try simp only [zt0, zt1, zt2, zt3, zt4, zt5, zt6, e0_2, e0_3, e0_4, e0_11, e3_2, e3_3, e3_4, e3_10, e3_11] at gm4
      simp only [zput_s, zput_n, ti_g, oI_add, oI_sub, oI_mul, zt0, zt1, zt2, zt3, zt4, zt5, zt6, e0_2, e0_3, e0_4, e0_11, e3_2, e3_3, e3_4, e3_10, e3_11, b163_92]
      try simp only [zput_s, zput_n, ti_g, oI_add, oI_sub, oI_mul]
      refine zok_ck ⟨(by rw [(q0).2.2.2.2.2.2.2.2.2.2.1]), zin_o (by omega) (by omega) (by omega)⟩ ?_
      try rw [nN_o (a := 4) (by omega) (by omega)]
      try rw [show (4 : Int).toNat = 4 from rfl]
      try simp only [zput_s, zput_n, ti_g, oI_add, oI_sub, oI_mul, zt0, zt1, zt2, zt3, zt4, zt5, zt6, e0_2, e0_3, e0_4, e0_11, e3_2, e3_3, e3_4, e3_10, e3_11]
      obtain ⟨t6, ht6⟩ : ∃ t', t' = tI t3 (sr sh r0 10) (4) (oI ((tg t3 (sr sh r0 10) (4)) + (2))) := ⟨_, rfl⟩
      try simp only [zt0, zt1, zt2, zt3, zt4, zt5, zt6, e0_2, e0_3, e0_4, e0_11, e3_2, e3_3, e3_4, e3_10, e3_11] at ht6
      rw [← ht6]
      have f6 : FrV sh r0 [10] t3 t6 := by rw [ht6]; exact GI_ls q0 (f3.g) (by omega) (by omega)
      have w6 : ∀ k, tg t6 (sr sh r0 10) k = if k = 4 then (tg t3 (sr sh r0 10) (4)) + (2) else tg t3 (sr sh r0 10) k := fun k => by rw [ht6]; refine (tg_at (by omega)).trans ?_; first | rfl | simp only [zt0, zt1, zt2, zt3, zt4, zt5, zt6, e0_2, e0_3, e0_4, e0_11, e3_2, e3_3, e3_4, e3_10, e3_11, true_and]
      have ws6 : tg t6 (sr sh r0 10) (4) = (tg t3 (sr sh r0 10) (4)) + (2) := by rw [w6, if_pos rfl]
      try simp only [zt0, zt1, zt2, zt3, zt4, zt5, zt6, e0_2, e0_3, e0_4, e0_11, e3_2, e3_3, e3_4, e3_10, e3_11] at w6
      try simp only [zt0, zt1, zt2, zt3, zt4, zt5, zt6, e0_2, e0_3, e0_4, e0_11, e3_2, e3_3, e3_4, e3_10, e3_11] at ws6
      have e6_2 : ∀ k, tg t6 (sr sh r0 2) k = tg t3 (sr sh r0 2) k := fun k => f6.eq q0 (i := 2) (by decide) (by decide) k
      have e6_3 : ∀ k, tg t6 (sr sh r0 3) k = tg t3 (sr sh r0 3) k := fun k => f6.eq q0 (i := 3) (by decide) (by decide) k
      have e6_4 : ∀ k, tg t6 (sr sh r0 4) k = tg t3 (sr sh r0 4) k := fun k => f6.eq q0 (i := 4) (by decide) (by decide) k
      have e6_9 : ∀ k, tg t6 (sr sh r0 9) k = tg t3 (sr sh r0 9) k := fun k => f6.eq q0 (i := 9) (by decide) (by decide) k
      have e6_11 : ∀ k, tg t6 (sr sh r0 11) k = tg t3 (sr sh r0 11) k := fun k => f6.eq q0 (i := 11) (by decide) (by decide) k
      exact q0_rt ⟨(FrV.trans (Ns := [9, 10]) ((FrV.trans (Ns := [9, 10]) (f0) f3 (by decide) (by decide))) f6 (by decide) (by decide)), ⟨by omega, fun k hk => by first | rfl | ((try have c0 := hq1 k hk); (try have c0 := hq1 k); (have c5 := e3_10 k); (have c7 := w6 k); (try simp only [zt0, zt1, zt2, zt3, zt4, zt5, zt6] at *); omega)⟩⟩
    · refine zok_ck ((q0).1) ?_
      refine zok_ck ((q0).1) ?_
      refine zok_ck ⟨(by rw [(q0).2.2.2.2.2.2.2.2.2.1]), zin_o (by omega) (by omega) (by omega)⟩ ?_
      try rw [nN_o (a := (6000) + (x1)) (by omega) (by omega)]
      try simp only [zput_s, zput_n, ti_g, oI_add, oI_sub, oI_mul, zt0, zt1, zt2, zt3, zt4, zt5, zt6, e0_2, e0_3, e0_4, e0_11]
      have gl7 := And.intro (tg_lo t1 (sr sh r0 9) (((6000) + (x1)).toNat)) (tg_hi t1 (sr sh r0 9) (((6000) + (x1)).toNat))
      try simp only [zt0, zt1, zt2, zt3, zt4, zt5, zt6, e0_2, e0_3, e0_4, e0_11] at gl7
      simp only [zput_s, zput_n, ti_g, oI_add, oI_sub, oI_mul, zt0, zt1, zt2, zt3, zt4, zt5, zt6, e0_2, e0_3, e0_4, e0_11, b163_66]
      try simp only [zput_s, zput_n, ti_g, oI_add, oI_sub, oI_mul]
      refine zok_ck ⟨(by rw [(q0).2.2.2.2.2.2.2.2.2.1]), zin_o (by omega) (by omega) (by omega)⟩ ?_
      try rw [nN_o (a := ((6000) + (x1)) + (2)) (by omega) (by omega)]
      try simp only [zput_s, zput_n, ti_g, oI_add, oI_sub, oI_mul, zt0, zt1, zt2, zt3, zt4, zt5, zt6, e0_2, e0_3, e0_4, e0_11]
      obtain ⟨t9, ht9⟩ : ∃ t', t' = tI t1 (sr sh r0 9) ((((6000) + (x1)) + (2)).toNat) (oI (tg t1 (sr sh r0 9) (((6000) + (x1)).toNat))) := ⟨_, rfl⟩
      try simp only [zt0, zt1, zt2, zt3, zt4, zt5, zt6, e0_2, e0_3, e0_4, e0_11] at ht9
      rw [← ht9]
      have f9 : FrV sh r0 [9] t1 t9 := by rw [ht9]; exact GI_free q0 (f0.g) (by decide)
      have w9 : ∀ k, tg t9 (sr sh r0 9) k = if k = (((6000) + (x1)) + (2)).toNat then tg t1 (sr sh r0 9) (((6000) + (x1)).toNat) else tg t1 (sr sh r0 9) k := fun k => by rw [ht9]; refine (tg_at (by omega)).trans ?_; first | rfl | simp only [zt0, zt1, zt2, zt3, zt4, zt5, zt6, e0_2, e0_3, e0_4, e0_11, true_and]
      have ws9 : tg t9 (sr sh r0 9) ((((6000) + (x1)) + (2)).toNat) = tg t1 (sr sh r0 9) (((6000) + (x1)).toNat) := by rw [w9, if_pos rfl]
      try simp only [zt0, zt1, zt2, zt3, zt4, zt5, zt6, e0_2, e0_3, e0_4, e0_11] at w9
      try simp only [zt0, zt1, zt2, zt3, zt4, zt5, zt6, e0_2, e0_3, e0_4, e0_11] at ws9
      have e9_2 : ∀ k, tg t9 (sr sh r0 2) k = tg t1 (sr sh r0 2) k := fun k => f9.eq q0 (i := 2) (by decide) (by decide) k
      have e9_3 : ∀ k, tg t9 (sr sh r0 3) k = tg t1 (sr sh r0 3) k := fun k => f9.eq q0 (i := 3) (by decide) (by decide) k
      have e9_4 : ∀ k, tg t9 (sr sh r0 4) k = tg t1 (sr sh r0 4) k := fun k => f9.eq q0 (i := 4) (by decide) (by decide) k
      have e9_10 : ∀ k, tg t9 (sr sh r0 10) k = tg t1 (sr sh r0 10) k := fun k => f9.eq q0 (i := 10) (by decide) (by decide) k
      have e9_11 : ∀ k, tg t9 (sr sh r0 11) k = tg t1 (sr sh r0 11) k := fun k => f9.eq q0 (i := 11) (by decide) (by decide) k
      try simp only [zput_s, zput_n, ti_g, oI_add, oI_sub, oI_mul]
      exact ih _ _ ((FrV.trans (Ns := [9, 10]) (f0) f9 (by decide) (by decide))) (by first | omega | ((try simp only [zt0, zt1, zt2, zt3, zt4, zt5, zt6, e0_2, e0_3, e0_4, e0_11, e9_2, e9_3, e9_4, e9_10, e9_11]); omega)) (fun k hk => by first | rfl | exact hq1 k hk | (simp only [w9, zt0, zt1, zt2, zt3, zt4, zt5, zt6, e0_2, e0_3, e0_4, e0_11, e9_2, e9_3, e9_4, e9_10, e9_11, true_and]; exact hq1 k hk)) (by first | omega | ((try simp only [zt0, zt1, zt2, zt3, zt4, zt5, zt6, e0_2, e0_3, e0_4, e0_11, e9_2, e9_3, e9_4, e9_10, e9_11]); omega))
theorem s163 {sh : zSh} {t : zSt} {MB : Nat} {r0 : Nat} (q0 : zMd sh MB r0) (d1 : tg t (sr sh r0 10) 4 ≤ 2000) (G : GI sh r0 t) : zok (zcl zP 163 [zR r0] (sh, t)) (zq0 (fun t' => FrV sh r0 [9, 10] t t' ∧ (tg t' (sr sh r0 10) 4 ≤ tg t (sr sh r0 10) 4 + 2 ∧ ∀ k, k ≠ 4 → tg t' (sr sh r0 10) k = tg t (sr sh r0 10) k)) sh) := by
  have ha0_1 : (sk sh (sr sh r0 1)).2 = 21000 := by rw [q0.2.2.2.2.1]
  have ha0_2 : (sk sh (sr sh r0 2)).2 = 14 := by rw [q0.2.2.2.2.2.1]
  have ha0_3 : (sk sh (sr sh r0 3)).2 = 98 := by rw [q0.2.2.2.2.2.2.1]
  have ha0_4 : (sk sh (sr sh r0 4)).2 = 98 := by rw [q0.2.2.2.2.2.2.2.1]
  have ha0_8 : (sk sh (sr sh r0 8)).2 = 1500 := by rw [q0.2.2.2.2.2.2.2.2.1]
  have ha0_9 : (sk sh (sr sh r0 9)).2 = 10500 := by rw [q0.2.2.2.2.2.2.2.2.2.1]
  have ha0_10 : (sk sh (sr sh r0 10)).2 = 7 := by rw [q0.2.2.2.2.2.2.2.2.2.2.1]
  have ha0_11 : (sk sh (sr sh r0 11)).2 = 7 := by rw [q0.2.2.2.2.2.2.2.2.2.2.2.1]
  have ha0_12 : (sk sh (sr sh r0 12)).2 = 1500 := by rw [q0.2.2.2.2.2.2.2.2.2.2.2.2.1]
  have ha0_13 : (sk sh (sr sh r0 13)).2 = 1500 := by rw [q0.2.2.2.2.2.2.2.2.2.2.2.2.2.1]
  have ha0_14 : (sk sh (sr sh r0 14)).2 = 20 := by rw [q0.2.2.2.2.2.2.2.2.2.2.2.2.2.2]
  rw [b163_0]
  try simp only [zput_s, zput_n, ti_g, oI_add, oI_sub, oI_mul]
  refine zok_ck ((q0).1) ?_
  refine zok_ck ⟨Or.inr (by rw [(q0).2.2.2.2.2.2.2.2.2.2.2.1]), zin_o (by omega) (by omega) (by omega)⟩ ?_
  try rw [nN_o (a := 2) (by omega) (by omega)]
  try rw [show (2 : Int).toNat = 2 from rfl]
  try simp only [zput_s, zput_n, ti_g, oI_add, oI_sub, oI_mul, zt0, zt1, zt2, zt3, zt4, zt5, zt6]
  have gl11 := And.intro (tg_lo t (sr sh r0 11) (2)) (tg_hi t (sr sh r0 11) (2))
  have gm11 := (G).2.2.2.1 (2) (by omega)
  try simp only [zt0, zt1, zt2, zt3, zt4, zt5, zt6] at gl11
  try simp only [zt0, zt1, zt2, zt3, zt4, zt5, zt6] at gm11
  first | refine zok_ne (by omega) (fun c12 => ?_) (fun c12 => ?_) | refine zok_if (fun c12 => ?_) (fun c12 => ?_)
  · exact q0_rt ⟨FrV.refl G, ⟨by omega, fun k hk => by first | rfl | ((try have c0 := hq1 k hk); (try have c0 := hq1 k); (try simp only [zt0, zt1, zt2, zt3, zt4, zt5, zt6] at *); omega)⟩⟩
  · refine zok_ck ((q0).1) ?_
    refine zok_pI (s160 (q0) (by omega) (by omega) (by first | (omega) | ((try simp only [zt0, zt1, zt2, zt3, zt4, zt5, zt6]); omega)) (G)) (fun y13 u13 p13 => ?_)
    try simp only [zt0, zt1, zt2, zt3, zt4, zt5, zt6] at p13
    simp only [zput_s, zput_n, ti_g, oI_add, oI_sub, oI_mul, zt0, zt1, zt2, zt3, zt4, zt5, zt6, b163_15]
    try simp only [zput_s, zput_n, ti_g, oI_add, oI_sub, oI_mul]
    first | refine zok_ne (by omega) (fun c15 => ?_) (fun c15 => ?_) | refine zok_if (fun c15 => ?_) (fun c15 => ?_)
    · exact q0_rt ⟨FrV.refl G, ⟨by omega, fun k hk => by first | rfl | ((try have c0 := hq1 k hk); (try have c0 := hq1 k); (try simp only [zt0, zt1, zt2, zt3, zt4, zt5, zt6] at *); omega)⟩⟩
    · refine zok_ck ((q0).1) ?_
      refine zok_pI (s160 (q0) (by omega) (by omega) (by first | (omega) | ((try simp only [zt0, zt1, zt2, zt3, zt4, zt5, zt6]); omega)) (G)) (fun y16 u16 p16 => ?_)
      try simp only [zt0, zt1, zt2, zt3, zt4, zt5, zt6] at p16
      simp only [zput_s, zput_n, ti_g, oI_add, oI_sub, oI_mul, zt0, zt1, zt2, zt3, zt4, zt5, zt6, b163_26]
      try simp only [zput_s, zput_n, ti_g, oI_add, oI_sub, oI_mul]
      first | refine zok_eq (by omega) (fun c18 => ?_) (fun c18 => ?_) | refine zok_if (fun c18 => ?_) (fun c18 => ?_)
      · refine zok_ck ((q0).1) ?_
        refine zok_ck ⟨(by rw [(q0).2.2.2.2.2.2.2.2.2.2.1]), zin_o (by omega) (by omega) (by omega)⟩ ?_
        try rw [nN_o (a := 4) (by omega) (by omega)]
        try rw [show (4 : Int).toNat = 4 from rfl]
        try simp only [zput_s, zput_n, ti_g, oI_add, oI_sub, oI_mul, zt0, zt1, zt2, zt3, zt4, zt5, zt6]
        have gl19 := And.intro (tg_lo t (sr sh r0 10) (4)) (tg_hi t (sr sh r0 10) (4))
        have gm19 := (G).2.2.1 (4) (by omega)
        try simp only [zt0, zt1, zt2, zt3, zt4, zt5, zt6] at gl19
        try simp only [zt0, zt1, zt2, zt3, zt4, zt5, zt6] at gm19
        try simp only [zput_s, zput_n, ti_g, oI_add, oI_sub, oI_mul]
        exact l163_41 q0 d1 G _ _ _ (FrV.refl G) (by first | omega | ((try simp only [zt0, zt1, zt2, zt3, zt4, zt5, zt6]); omega)) (fun k hk => by first | rfl | exact hq1 k hk | (simp only [zt0, zt1, zt2, zt3, zt4, zt5, zt6, true_and]; exact hq1 k hk)) (Nat.lt_succ_self _)
      · exact q0_rt ⟨FrV.refl G, ⟨by omega, fun k hk => by first | rfl | ((try have c0 := hq1 k hk); (try have c0 := hq1 k); (try simp only [zt0, zt1, zt2, zt3, zt4, zt5, zt6] at *); omega)⟩⟩
