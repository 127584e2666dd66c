set_option maxRecDepth 16384
/-! X9_offers -/
theorem s189 {sh : zSh} {t : zSt} {MB : Nat} {r0 : Nat} (q0 : zMd sh MB r0) {x1 : Int} (u1 : -2147483648 ≤ x1 ∧ x1 ≤ 2147483647) {x2 : Int} (u2 : -2147483648 ≤ x2 ∧ x2 ≤ 2147483647) {x3 : Int} (u3 : -2147483648 ≤ x3 ∧ x3 ≤ 2147483647) (d1 : 0 ≤ x1 ∧ x1 ≤ 7) (d2 : 0 ≤ x2 ∧ x2 ≤ 7) (d3 : x3 = 0 ∨ x3 = 1) (d4 : tg t (sr sh r0 10) 0 ≤ 401 ∧ tg t (sr sh r0 10) 1 ≤ 401 ∧ tg t (sr sh r0 10) 2 ≤ 401 ∧ tg t (sr sh r0 10) 3 ≤ 401 ∧ tg t (sr sh r0 10) 4 ≤ 1610 ∧ tg t (sr sh r0 10) 5 ≤ 401 ∧ tg t (sr sh r0 10) 6 ≤ 401) (G : GI sh r0 t) : zok (zcl zP 189 [zR r0, zI (oI x1), zI (oI x2), zI (oI x3)] (sh, t)) (qI (fun x t' => FrV sh r0 [0, 1, 2, 3, 4, 9, 10, 11, 12, 13, 14] t t' ∧ ((x = 0 ∨ x = 1) ∧ tg t' (sr sh r0 2) 13 = tg t (sr sh r0 2) 13)) sh) := by
  have ha0_1 : (sk sh (sr sh r0 1)).2 = 21000 := by rw [q0.2.2.2.2.1]
  have ha0_2 : (sk sh (sr sh r0 2)).2 = 14 := by rw [q0.2.2.2.2.2.1]
  have ha0_3 : (sk sh (sr sh r0 3)).2 = 98 := by rw [q0.2.2.2.2.2.2.1]
  have ha0_4 : (sk sh (sr sh r0 4)).2 = 98 := by rw [q0.2.2.2.2.2.2.2.1]
  have ha0_8 : (sk sh (sr sh r0 8)).2 = 1500 := by rw [q0.2.2.2.2.2.2.2.2.1]
  have ha0_9 : (sk sh (sr sh r0 9)).2 = 10500 := by rw [q0.2.2.2.2.2.2.2.2.2.1]
  have ha0_10 : (sk sh (sr sh r0 10)).2 = 7 := by rw [q0.2.2.2.2.2.2.2.2.2.2.1]
  have ha0_11 : (sk sh (sr sh r0 11)).2 = 7 := by rw [q0.2.2.2.2.2.2.2.2.2.2.2.1]
  have ha0_12 : (sk sh (sr sh r0 12)).2 = 1500 := by rw [q0.2.2.2.2.2.2.2.2.2.2.2.2.1]
  have ha0_13 : (sk sh (sr sh r0 13)).2 = 1500 := by rw [q0.2.2.2.2.2.2.2.2.2.2.2.2.2.1]
  have ha0_14 : (sk sh (sr sh r0 14)).2 = 20 := by rw [q0.2.2.2.2.2.2.2.2.2.2.2.2.2.2]
  rw [b189_0]
  try simp only [zput_s, zput_n, ti_g, oI_add, oI_sub, oI_mul]
  refine zok_ck ((q0).1) ?_
  have hz72 := zJ7_le (G)
  try simp only [zt0, zt1, zt2, zt3, zt4, zt5, zt6, zt7, zt8, zt9, zt10, zt11, zt12, zt13] at hz72
  refine zok_cI (s188 (q0) (by first | (omega) | ((try simp only [zt0, zt1, zt2, zt3, zt4, zt5, zt6, zt7, zt8, zt9, zt10, zt11, zt12, zt13]); omega)) (G)) (fun y2 t2 u2 p2 => ?_)
  obtain ⟨f2, p2⟩ := p2
  have e2_10 : ∀ k, tg t2 (sr sh r0 10) k = tg t (sr sh r0 10) k := fun k => f2.eq q0 (i := 10) (by decide) (by decide) k
  have e2_11 : ∀ k, tg t2 (sr sh r0 11) k = tg t (sr sh r0 11) k := fun k => f2.eq q0 (i := 11) (by decide) (by decide) k
  try simp only [zt0, zt1, zt2, zt3, zt4, zt5, zt6, zt7, zt8, zt9, zt10, zt11, zt12, zt13, e2_10, e2_11] at p2
  simp only [zput_s, zput_n, ti_g, oI_add, oI_sub, oI_mul, zt0, zt1, zt2, zt3, zt4, zt5, zt6, zt7, zt8, zt9, zt10, zt11, zt12, zt13, e2_10, e2_11, b189_4]
  try simp only [zput_s, zput_n, ti_g, oI_add, oI_sub, oI_mul]
  first | refine zok_eq (by omega) (fun c4 => ?_) (fun c4 => ?_) | refine zok_if (fun c4 => ?_) (fun c4 => ?_)
  · refine zok_ck (by first | exact fun _ => bool_p (by omega) | exact bool_p (by omega)) ?_
    first | exact qI_rt (by omega) (by omega) ⟨(FrV.trans (Ns := [0, 1, 2, 3, 4, 9, 10, 11, 12, 13, 14]) (FrV.refl (Ls := []) G) f2 (by decide) (by decide)), ⟨by omega, by ((try have c0 := hq1 13 (by decide)); (try have c0 := hq1 13); (try have c1 := p2.2.2 13 (by omega)); (try simp only [zt0, zt1, zt2, zt3, zt4, zt5, zt6, zt7, zt8, zt9, zt10, zt11, zt12, zt13] at *) <;> omega)⟩⟩ | exact qI_nf ⟨(FrV.trans (Ns := [0, 1, 2, 3, 4, 9, 10, 11, 12, 13, 14]) (FrV.refl (Ls := []) G) f2 (by decide) (by decide)), ⟨by omega, by ((try have c0 := hq1 13 (by decide)); (try have c0 := hq1 13); (try have c1 := p2.2.2 13 (by omega)); (try simp only [zt0, zt1, zt2, zt3, zt4, zt5, zt6, zt7, zt8, zt9, zt10, zt11, zt12, zt13] at *) <;> omega)⟩⟩
  · first | refine zok_eq (by omega) (fun c5 => ?_) (fun c5 => ?_) | refine zok_if (fun c5 => ?_) (fun c5 => ?_)
    · refine zok_ck ((q0).1) ?_
      refine zok_c0 (s175 (q0) (by omega) (by omega) (by omega) (by omega) (by first | (omega) | ((try simp only [zt0, zt1, zt2, zt3, zt4, zt5, zt6, zt7, zt8, zt9, zt10, zt11, zt12, zt13, e2_10, e2_11]); omega)) (by first | (omega) | ((try simp only [zt0, zt1, zt2, zt3, zt4, zt5, zt6, zt7, zt8, zt9, zt10, zt11, zt12, zt13, e2_10, e2_11]); omega)) (by first | (omega) | ((try simp only [zt0, zt1, zt2, zt3, zt4, zt5, zt6, zt7, zt8, zt9, zt10, zt11, zt12, zt13, e2_10, e2_11]); omega)) (by first | (omega) | ((try simp only [zt0, zt1, zt2, zt3, zt4, zt5, zt6, zt7, zt8, zt9, zt10, zt11, zt12, zt13, e2_10, e2_11]); omega)) (f2.g)) (fun t6 p6 => ?_)
      obtain ⟨f6, p6⟩ := p6
      try simp only [zt0, zt1, zt2, zt3, zt4, zt5, zt6, zt7, zt8, zt9, zt10, zt11, zt12, zt13, e2_10, e2_11] at p6
      have hL6_0 := p6 11 (by omega)
      try simp only [zt0, zt1, zt2, zt3, zt4, zt5, zt6, zt7, zt8, zt9, zt10, zt11, zt12, zt13, e2_10, e2_11] at hL6_0
      have hL6_1 := p6 13 (by omega)
      try simp only [zt0, zt1, zt2, zt3, zt4, zt5, zt6, zt7, zt8, zt9, zt10, zt11, zt12, zt13, e2_10, e2_11] at hL6_1
      simp only [zput_s, zput_n, ti_g, oI_add, oI_sub, oI_mul, zt0, zt1, zt2, zt3, zt4, zt5, zt6, zt7, zt8, zt9, zt10, zt11, zt12, zt13, e2_10, e2_11, b189_40]
      try simp only [zput_s, zput_n, ti_g, oI_add, oI_sub, oI_mul]
      refine zok_ck ((q0).1) ?_
      refine zok_pI (s132 (q0) (by omega) (by omega) (by first | (omega) | ((try simp only [zt0, zt1, zt2, zt3, zt4, zt5, zt6, zt7, zt8, zt9, zt10, zt11, zt12, zt13, e2_10, e2_11]); omega)) (by first | (omega) | ((try simp only [zt0, zt1, zt2, zt3, zt4, zt5, zt6, zt7, zt8, zt9, zt10, zt11, zt12, zt13, e2_10, e2_11]); omega)) (f6.g)) (fun y8 u8 p8 => ?_)
      try simp only [zt0, zt1, zt2, zt3, zt4, zt5, zt6, zt7, zt8, zt9, zt10, zt11, zt12, zt13, e2_10, e2_11] at p8
      simp only [zput_s, zput_n, ti_g, oI_add, oI_sub, oI_mul, zt0, zt1, zt2, zt3, zt4, zt5, zt6, zt7, zt8, zt9, zt10, zt11, zt12, zt13, e2_10, e2_11, b189_47]
      try simp only [zput_s, zput_n, ti_g, oI_add, oI_sub, oI_mul]
      first | refine zok_ne (by omega) (fun c10 => ?_) (fun c10 => ?_) | refine zok_if (fun c10 => ?_) (fun c10 => ?_)
      · refine zok_ck ((q0).1) ?_
        refine zok_c0 (s131 (q0) (by omega) (by omega) (by first | (omega) | ((try simp only [zt0, zt1, zt2, zt3, zt4, zt5, zt6, zt7, zt8, zt9, zt10, zt11, zt12, zt13, e2_10, e2_11]); omega)) (by first | (omega) | ((try simp only [zt0, zt1, zt2, zt3, zt4, zt5, zt6, zt7, zt8, zt9, zt10, zt11, zt12, zt13, e2_10, e2_11]); omega)) (by first | (omega) | ((try simp only [zt0, zt1, zt2, zt3, zt4, zt5, zt6, zt7, zt8, zt9, zt10, zt11, zt12, zt13, e2_10, e2_11]); omega)) (f6.g)) (fun t11 p11 => ?_)
        obtain ⟨f11, p11⟩ := p11
        have e11_3 : ∀ k, tg t11 (sr sh r0 3) k = tg t6 (sr sh r0 3) k := fun k => f11.eq q0 (i := 3) (by decide) (by decide) k
        have e11_4 : ∀ k, tg t11 (sr sh r0 4) k = tg t6 (sr sh r0 4) k := fun k => f11.eq q0 (i := 4) (by decide) (by decide) k
        have e11_10 : ∀ k, tg t11 (sr sh r0 10) k = tg t6 (sr sh r0 10) k := fun k => f11.eq q0 (i := 10) (by decide) (by decide) k
        have e11_11 : ∀ k, tg t11 (sr sh r0 11) k = tg t6 (sr sh r0 11) k := fun k => f11.eq q0 (i := 11) (by decide) (by decide) k
        try simp only [zt0, zt1, zt2, zt3, zt4, zt5, zt6, zt7, zt8, zt9, zt10, zt11, zt12, zt13, e2_10, e2_11, e11_3, e11_4, e11_10, e11_11] at p11
        simp only [zput_s, zput_n, ti_g, oI_add, oI_sub, oI_mul, zt0, zt1, zt2, zt3, zt4, zt5, zt6, zt7, zt8, zt9, zt10, zt11, zt12, zt13, e2_10, e2_11, e11_3, e11_4, e11_10, e11_11, b189_60]
        try simp only [zput_s, zput_n, ti_g, oI_add, oI_sub, oI_mul]
        first | exact qI_rt (by omega) (by omega) ⟨(FrV.trans (Ns := [0, 1, 2, 3, 4, 9, 10, 11, 12, 13, 14]) ((FrV.trans (Ns := [0, 1, 2, 3, 4, 9, 10, 11, 12, 13, 14]) ((FrV.trans (Ns := [0, 1, 2, 3, 4, 9, 10, 11, 12, 13, 14]) (FrV.refl (Ls := []) G) f2 (by decide) (by decide))) f6 (by decide) (by decide))) f11 (by decide) (by decide)), ⟨by omega, by ((try have c0 := hq1 13 (by decide)); (try have c0 := hq1 13); (try have c1 := p2.2.2 13 (by omega)); (try have c4 := p6 13 (by omega)); (try have c5 := p11.2 13 (by omega)); (try simp only [zt0, zt1, zt2, zt3, zt4, zt5, zt6, zt7, zt8, zt9, zt10, zt11, zt12, zt13] at *) <;> omega)⟩⟩ | exact qI_nf ⟨(FrV.trans (Ns := [0, 1, 2, 3, 4, 9, 10, 11, 12, 13, 14]) ((FrV.trans (Ns := [0, 1, 2, 3, 4, 9, 10, 11, 12, 13, 14]) ((FrV.trans (Ns := [0, 1, 2, 3, 4, 9, 10, 11, 12, 13, 14]) (FrV.refl (Ls := []) G) f2 (by decide) (by decide))) f6 (by decide) (by decide))) f11 (by decide) (by decide)), ⟨by omega, by ((try have c0 := hq1 13 (by decide)); (try have c0 := hq1 13); (try have c1 := p2.2.2 13 (by omega)); (try have c4 := p6 13 (by omega)); (try have c5 := p11.2 13 (by omega)); (try simp only [zt0, zt1, zt2, zt3, zt4, zt5, zt6, zt7, zt8, zt9, zt10, zt11, zt12, zt13] at *) <;> omega)⟩⟩
      · refine zok_ck (by first | exact fun _ => bool_p (by omega) | exact bool_p (by omega)) ?_
        first | exact qI_rt (by omega) (by omega) ⟨(FrV.trans (Ns := [0, 1, 2, 3, 4, 9, 10, 11, 12, 13, 14]) ((FrV.trans (Ns := [0, 1, 2, 3, 4, 9, 10, 11, 12, 13, 14]) (FrV.refl (Ls := []) G) f2 (by decide) (by decide))) f6 (by decide) (by decide)), ⟨by omega, by ((try have c0 := hq1 13 (by decide)); (try have c0 := hq1 13); (try have c1 := p2.2.2 13 (by omega)); (try have c4 := p6 13 (by omega)); (try simp only [zt0, zt1, zt2, zt3, zt4, zt5, zt6, zt7, zt8, zt9, zt10, zt11, zt12, zt13] at *) <;> omega)⟩⟩ | exact qI_nf ⟨(FrV.trans (Ns := [0, 1, 2, 3, 4, 9, 10, 11, 12, 13, 14]) ((FrV.trans (Ns := [0, 1, 2, 3, 4, 9, 10, 11, 12, 13, 14]) (FrV.refl (Ls := []) G) f2 (by decide) (by decide))) f6 (by decide) (by decide)), ⟨by omega, by ((try have c0 := hq1 13 (by decide)); (try have c0 := hq1 13); (try have c1 := p2.2.2 13 (by omega)); (try have c4 := p6 13 (by omega)); (try simp only [zt0, zt1, zt2, zt3, zt4, zt5, zt6, zt7, zt8, zt9, zt10, zt11, zt12, zt13] at *) <;> omega)⟩⟩
    · refine zok_ck ((q0).1) ?_
      refine zok_ck ⟨(by rw [(q0).2.2.2.2.2.1]), zin_o (by omega) (by omega) (by omega)⟩ ?_
      try rw [nN_o (a := 11) (by omega) (by omega)]
      try rw [show (11 : Int).toNat = 11 from rfl]
      try simp only [zput_s, zput_n, ti_g, oI_add, oI_sub, oI_mul, zt0, zt1, zt2, zt3, zt4, zt5, zt6, zt7, zt8, zt9, zt10, zt11, zt12, zt13, e2_10, e2_11]
      have gl13 := And.intro (tg_lo t2 (sr sh r0 2) (11)) (tg_hi t2 (sr sh r0 2) (11))
      have gm13 := (f2.g).1 (11) (by omega)
      try simp only [zt0, zt1, zt2, zt3, zt4, zt5, zt6, zt7, zt8, zt9, zt10, zt11, zt12, zt13, e2_10, e2_11] at gl13
      try simp only [zt0, zt1, zt2, zt3, zt4, zt5, zt6, zt7, zt8, zt9, zt10, zt11, zt12, zt13, e2_10, e2_11] at gm13
      refine zok_ck ((q0).1) ?_
      refine zok_ck ⟨(by rw [(q0).2.2.2.2.2.1]), zin_o (by omega) (by omega) (by omega)⟩ ?_
      try rw [nN_o (a := 10) (by omega) (by omega)]
      try rw [show (10 : Int).toNat = 10 from rfl]
      try simp only [zput_s, zput_n, ti_g, oI_add, oI_sub, oI_mul, zt0, zt1, zt2, zt3, zt4, zt5, zt6, zt7, zt8, zt9, zt10, zt11, zt12, zt13, e2_10, e2_11]
      have gl14 := And.intro (tg_lo t2 (sr sh r0 2) (10)) (tg_hi t2 (sr sh r0 2) (10))
      have gm14 := (f2.g).1 (10) (by omega)
      try simp only [zt0, zt1, zt2, zt3, zt4, zt5, zt6, zt7, zt8, zt9, zt10, zt11, zt12, zt13, e2_10, e2_11] at gl14
      try simp only [zt0, zt1, zt2, zt3, zt4, zt5, zt6, zt7, zt8, zt9, zt10, zt11, zt12, zt13, e2_10, e2_11] at gm14
      first | refine zok_lt (by omega) (fun c15 => ?_) (fun c15 => ?_) | refine zok_if (fun c15 => ?_) (fun c15 => ?_)
      · refine zok_ck ((q0).1) ?_
        refine zok_c0 (s175 (q0) (by omega) (by omega) (by omega) (by omega) (by first | (omega) | ((try simp only [zt0, zt1, zt2, zt3, zt4, zt5, zt6, zt7, zt8, zt9, zt10, zt11, zt12, zt13, e2_10, e2_11]); omega)) (by first | (omega) | ((try simp only [zt0, zt1, zt2, zt3, zt4, zt5, zt6, zt7, zt8, zt9, zt10, zt11, zt12, zt13, e2_10, e2_11]); omega)) (by first | (omega) | ((try simp only [zt0, zt1, zt2, zt3, zt4, zt5, zt6, zt7, zt8, zt9, zt10, zt11, zt12, zt13, e2_10, e2_11]); omega)) (by first | (omega) | ((try simp only [zt0, zt1, zt2, zt3, zt4, zt5, zt6, zt7, zt8, zt9, zt10, zt11, zt12, zt13, e2_10, e2_11]); omega)) (f2.g)) (fun t16 p16 => ?_)
        obtain ⟨f16, p16⟩ := p16
        try simp only [zt0, zt1, zt2, zt3, zt4, zt5, zt6, zt7, zt8, zt9, zt10, zt11, zt12, zt13, e2_10, e2_11] at p16
        have hL16_0 := p16 11 (by omega)
        try simp only [zt0, zt1, zt2, zt3, zt4, zt5, zt6, zt7, zt8, zt9, zt10, zt11, zt12, zt13, e2_10, e2_11] at hL16_0
        have hL16_1 := p16 13 (by omega)
        try simp only [zt0, zt1, zt2, zt3, zt4, zt5, zt6, zt7, zt8, zt9, zt10, zt11, zt12, zt13, e2_10, e2_11] at hL16_1
        simp only [zput_s, zput_n, ti_g, oI_add, oI_sub, oI_mul, zt0, zt1, zt2, zt3, zt4, zt5, zt6, zt7, zt8, zt9, zt10, zt11, zt12, zt13, e2_10, e2_11, b189_40]
        try simp only [zput_s, zput_n, ti_g, oI_add, oI_sub, oI_mul]
        refine zok_ck ((q0).1) ?_
        refine zok_pI (s132 (q0) (by omega) (by omega) (by first | (omega) | ((try simp only [zt0, zt1, zt2, zt3, zt4, zt5, zt6, zt7, zt8, zt9, zt10, zt11, zt12, zt13, e2_10, e2_11]); omega)) (by first | (omega) | ((try simp only [zt0, zt1, zt2, zt3, zt4, zt5, zt6, zt7, zt8, zt9, zt10, zt11, zt12, zt13, e2_10, e2_11]); omega)) (f16.g)) (fun y18 u18 p18 => ?_)
        try simp only [zt0, zt1, zt2, zt3, zt4, zt5, zt6, zt7, zt8, zt9, zt10, zt11, zt12, zt13, e2_10, e2_11] at p18
        simp only [zput_s, zput_n, ti_g, oI_add, oI_sub, oI_mul, zt0, zt1, zt2, zt3, zt4, zt5, zt6, zt7, zt8, zt9, zt10, zt11, zt12, zt13, e2_10, e2_11, b189_47]
        try simp only [zput_s, zput_n, ti_g, oI_add, oI_sub, oI_mul]
        first | refine zok_ne (by omega) (fun c20 => ?_) (fun c20 => ?_) | refine zok_if (fun c20 => ?_) (fun c20 => ?_)
        · refine zok_ck ((q0).1) ?_
          refine zok_c0 (s131 (q0) (by omega) (by omega) (by first | (omega) | ((try simp only [zt0, zt1, zt2, zt3, zt4, zt5, zt6, zt7, zt8, zt9, zt10, zt11, zt12, zt13, e2_10, e2_11]); omega)) (by first | (omega) | ((try simp only [zt0, zt1, zt2, zt3, zt4, zt5, zt6, zt7, zt8, zt9, zt10, zt11, zt12, zt13, e2_10, e2_11]); omega)) (by first | (omega) | ((try simp only [zt0, zt1, zt2, zt3, zt4, zt5, zt6, zt7, zt8, zt9, zt10, zt11, zt12, zt13, e2_10, e2_11]); omega)) (f16.g)) (fun t21 p21 => ?_)
          obtain ⟨f21, p21⟩ := p21
          have e21_3 : ∀ k, tg t21 (sr sh r0 3) k = tg t16 (sr sh r0 3) k := fun k => f21.eq q0 (i := 3) (by decide) (by decide) k
          have e21_4 : ∀ k, tg t21 (sr sh r0 4) k = tg t16 (sr sh r0 4) k := fun k => f21.eq q0 (i := 4) (by decide) (by decide) k
          have e21_10 : ∀ k, tg t21 (sr sh r0 10) k = tg t16 (sr sh r0 10) k := fun k => f21.eq q0 (i := 10) (by decide) (by decide) k
          have e21_11 : ∀ k, tg t21 (sr sh r0 11) k = tg t16 (sr sh r0 11) k := fun k => f21.eq q0 (i := 11) (by decide) (by decide) k
          try simp only [zt0, zt1, zt2, zt3, zt4, zt5, zt6, zt7, zt8, zt9, zt10, zt11, zt12, zt13, e2_10, e2_11, e21_3, e21_4, e21_10, e21_11] at p21
          simp only [zput_s, zput_n, ti_g, oI_add, oI_sub, oI_mul, zt0, zt1, zt2, zt3, zt4, zt5, zt6, zt7, zt8, zt9, zt10, zt11, zt12, zt13, e2_10, e2_11, e21_3, e21_4, e21_10, e21_11, b189_60]
          try simp only [zput_s, zput_n, ti_g, oI_add, oI_sub, oI_mul]
          first | exact qI_rt (by omega) (by omega) ⟨(FrV.trans (Ns := [0, 1, 2, 3, 4, 9, 10, 11, 12, 13, 14]) ((FrV.trans (Ns := [0, 1, 2, 3, 4, 9, 10, 11, 12, 13, 14]) ((FrV.trans (Ns := [0, 1, 2, 3, 4, 9, 10, 11, 12, 13, 14]) (FrV.refl (Ls := []) G) f2 (by decide) (by decide))) f16 (by decide) (by decide))) f21 (by decide) (by decide)), ⟨by omega, by ((try have c0 := hq1 13 (by decide)); (try have c0 := hq1 13); (try have c1 := p2.2.2 13 (by omega)); (try have c4 := p16 13 (by omega)); (try have c5 := p21.2 13 (by omega)); (try simp only [zt0, zt1, zt2, zt3, zt4, zt5, zt6, zt7, zt8, zt9, zt10, zt11, zt12, zt13] at *) <;> omega)⟩⟩ | exact qI_nf ⟨(FrV.trans (Ns := [0, 1, 2, 3, 4, 9, 10, 11, 12, 13, 14]) ((FrV.trans (Ns := [0, 1, 2, 3, 4, 9, 10, 11, 12, 13, 14]) ((FrV.trans (Ns := [0, 1, 2, 3, 4, 9, 10, 11, 12, 13, 14]) (FrV.refl (Ls := []) G) f2 (by decide) (by decide))) f16 (by decide) (by decide))) f21 (by decide) (by decide)), ⟨by omega, by ((try have c0 := hq1 13 (by decide)); (try have c0 := hq1 13); (try have c1 := p2.2.2 13 (by omega)); (try have c4 := p16 13 (by omega)); (try have c5 := p21.2 13 (by omega)); (try simp only [zt0, zt1, zt2, zt3, zt4, zt5, zt6, zt7, zt8, zt9, zt10, zt11, zt12, zt13] at *) <;> omega)⟩⟩
        · refine zok_ck (by first | exact fun _ => bool_p (by omega) | exact bool_p (by omega)) ?_
          first | exact qI_rt (by omega) (by omega) ⟨(FrV.trans (Ns := [0, 1, 2, 3, 4, 9, 10, 11, 12, 13, 14]) ((FrV.trans (Ns := [0, 1, 2, 3, 4, 9, 10, 11, 12, 13, 14]) (FrV.refl (Ls := []) G) f2 (by decide) (by decide))) f16 (by decide) (by decide)), ⟨by omega, by ((try have c0 := hq1 13 (by decide)); (try have c0 := hq1 13); (try have c1 := p2.2.2 13 (by omega)); (try have c4 := p16 13 (by omega)); (try simp only [zt0, zt1, zt2, zt3, zt4, zt5, zt6, zt7, zt8, zt9, zt10, zt11, zt12, zt13] at *) <;> omega)⟩⟩ | exact qI_nf ⟨(FrV.trans (Ns := [0, 1, 2, 3, 4, 9, 10, 11, 12, 13, 14]) ((FrV.trans (Ns := [0, 1, 2, 3, 4, 9, 10, 11, 12, 13, 14]) (FrV.refl (Ls := []) G) f2 (by decide) (by decide))) f16 (by decide) (by decide)), ⟨by omega, by ((try have c0 := hq1 13 (by decide)); (try have c0 := hq1 13); (try have c1 := p2.2.2 13 (by omega)); (try have c4 := p16 13 (by omega)); (try simp only [zt0, zt1, zt2, zt3, zt4, zt5, zt6, zt7, zt8, zt9, zt10, zt11, zt12, zt13] at *) <;> omega)⟩⟩
      · refine zok_ck (by first | exact fun _ => bool_p (by omega) | exact bool_p (by omega)) ?_
        first | exact qI_rt (by omega) (by omega) ⟨(FrV.trans (Ns := [0, 1, 2, 3, 4, 9, 10, 11, 12, 13, 14]) (FrV.refl (Ls := []) G) f2 (by decide) (by decide)), ⟨by omega, by ((try have c0 := hq1 13 (by decide)); (try have c0 := hq1 13); (try have c1 := p2.2.2 13 (by omega)); (try simp only [zt0, zt1, zt2, zt3, zt4, zt5, zt6, zt7, zt8, zt9, zt10, zt11, zt12, zt13] at *) <;> omega)⟩⟩ | exact qI_nf ⟨(FrV.trans (Ns := [0, 1, 2, 3, 4, 9, 10, 11, 12, 13, 14]) (FrV.refl (Ls := []) G) f2 (by decide) (by decide)), ⟨by omega, by ((try have c0 := hq1 13 (by decide)); (try have c0 := hq1 13); (try have c1 := p2.2.2 13 (by omega)); (try simp only [zt0, zt1, zt2, zt3, zt4, zt5, zt6, zt7, zt8, zt9, zt10, zt11, zt12, zt13] at *) <;> omega)⟩⟩
/-! X9_relate -/
theorem l192_91 {sh : zSh} {t0 : zSt} {MB : Nat} {r0 : Nat} (q0 : zMd sh MB r0) {x1 : Int} (u1 : -2147483648 ≤ x1 ∧ x1 ≤ 2147483647) {x2 : Int} (u2 : -2147483648 ≤ x2 ∧ x2 ≤ 2147483647) {x3 : Int} (u3 : -2147483648 ≤ x3 ∧ x3 ≤ 2147483647) (G : GI sh r0 t0) : ∀ (n : Nat) (x4 : Int) (x5 : Int)  (t1 : zSt), FrV sh r0 [0, 1, 2, 3, 4, 9, 10, 11, 12, 13, 14] t0 t1 → (-2147483648 ≤ x4 ∧ x4 ≤ 2147483647) ∧ (-2147483648 ≤ x5 ∧ x5 ≤ 2147483647) ∧ ((x4 = 0 ∨ x4 = 1) ∧ 0 ≤ x5 ∧ x5 ≤ 6) ∧ (0 ≤ x1 ∧ x1 ≤ 7 ∧ 0 ≤ x2 ∧ x2 ≤ 7 ∧ 0 ≤ x3 ∧ x3 ≤ 7) ∧ (tg t1 (sr sh r0 2) 13 = tg t0 (sr sh r0 2) 13) → (6 - x5).toNat < n → zok (zev zP 192 91 [some (zR r0), some (zI (oI x1)), some (zI (oI x2)), some (zI (oI x3)), some (zI (oI x4)), some (zI (oI x5))] [] (sh, t1)) (qI (fun x t' => FrV sh r0 [0, 1, 2, 3, 4, 9, 10, 11, 12, 13, 14] t0 t' ∧ (tg t' (sr sh r0 2) 13 = tg t0 (sr sh r0 2) 13)) sh) := by
  intro n
  induction n with
  | zero => intro x4 x5  t1 f0 _ hm; omega
  | succ n ih =>
    intro x4 x5  t1 f0 hv hm
    have ha0_1 : (sk sh (sr sh r0 1)).2 = 21000 := by rw [q0.2.2.2.2.1]
    have ha0_2 : (sk sh (sr sh r0 2)).2 = 14 := by rw [q0.2.2.2.2.2.1]
    have ha0_3 : (sk sh (sr sh r0 3)).2 = 98 := by rw [q0.2.2.2.2.2.2.1]
    have ha0_4 : (sk sh (sr sh r0 4)).2 = 98 := by rw [q0.2.2.2.2.2.2.2.1]
    have ha0_8 : (sk sh (sr sh r0 8)).2 = 1500 := by rw [q0.2.2.2.2.2.2.2.2.1]
    have ha0_9 : (sk sh (sr sh r0 9)).2 = 10500 := by rw [q0.2.2.2.2.2.2.2.2.2.1]
    have ha0_10 : (sk sh (sr sh r0 10)).2 = 7 := by rw [q0.2.2.2.2.2.2.2.2.2.2.1]
    have ha0_11 : (sk sh (sr sh r0 11)).2 = 7 := by rw [q0.2.2.2.2.2.2.2.2.2.2.2.1]
    have ha0_12 : (sk sh (sr sh r0 12)).2 = 1500 := by rw [q0.2.2.2.2.2.2.2.2.2.2.2.2.1]
    have ha0_13 : (sk sh (sr sh r0 13)).2 = 1500 := by rw [q0.2.2.2.2.2.2.2.2.2.2.2.2.2.1]
    have ha0_14 : (sk sh (sr sh r0 14)).2 = 20 := by rw [q0.2.2.2.2.2.2.2.2.2.2.2.2.2.2]
    try simp only [zt0, zt1, zt2, zt3, zt4, zt5, zt6, zt7, zt8, zt9, zt10, zt11, zt12, zt13] at hv
    try simp only [zt0, zt1, zt2, zt3, zt4, zt5, zt6, zt7, zt8, zt9, zt10, zt11, zt12, zt13] at hm
    rw [b192_91]
    try simp only [zput_s, zput_n, ti_g, oI_add, oI_sub, oI_mul]
    first | refine zok_le (by omega) (fun c2 => ?_) (fun c2 => ?_) | refine zok_if (fun c2 => ?_) (fun c2 => ?_)
    · first | refine zok_ne (by omega) (fun c3 => ?_) (fun c3 => ?_) | refine zok_if (fun c3 => ?_) (fun c3 => ?_)
      · refine zok_ck ((q0).1) ?_
        refine zok_cI (s159 (q0) (by omega) (by omega) (by omega) (by first | (omega) | ((try simp only [zt0, zt1, zt2, zt3, zt4, zt5, zt6, zt7, zt8, zt9, zt10, zt11, zt12, zt13]); omega)) (by first | (omega) | ((try simp only [zt0, zt1, zt2, zt3, zt4, zt5, zt6, zt7, zt8, zt9, zt10, zt11, zt12, zt13]); omega)) (by first | (omega) | ((try simp only [zt0, zt1, zt2, zt3, zt4, zt5, zt6, zt7, zt8, zt9, zt10, zt11, zt12, zt13]); omega)) (f0.g)) (fun y4 t4 u4 p4 => ?_)
        obtain ⟨f4, p4⟩ := p4
        have e4_3 : ∀ k, tg t4 (sr sh r0 3) k = tg t1 (sr sh r0 3) k := fun k => f4.eq q0 (i := 3) (by decide) (by decide) k
        have e4_4 : ∀ k, tg t4 (sr sh r0 4) k = tg t1 (sr sh r0 4) k := fun k => f4.eq q0 (i := 4) (by decide) (by decide) k
        have e4_10 : ∀ k, tg t4 (sr sh r0 10) k = tg t1 (sr sh r0 10) k := fun k => f4.eq q0 (i := 10) (by decide) (by decide) k
        have e4_11 : ∀ k, tg t4 (sr sh r0 11) k = tg t1 (sr sh r0 11) k := fun k => f4.eq q0 (i := 11) (by decide) (by decide) k
        try simp only [zt0, zt1, zt2, zt3, zt4, zt5, zt6, zt7, zt8, zt9, zt10, zt11, zt12, zt13, e4_3, e4_4, e4_10, e4_11] at p4
        simp only [zput_s, zput_n, ti_g, oI_add, oI_sub, oI_mul, zt0, zt1, zt2, zt3, zt4, zt5, zt6, zt7, zt8, zt9, zt10, zt11, zt12, zt13, e4_3, e4_4, e4_10, e4_11, b192_142]
        try simp only [zput_s, zput_n, ti_g, oI_add, oI_sub, oI_mul]
        first | exact qI_rt (by omega) (by omega) ⟨(FrV.trans (Ns := [0, 1, 2, 3, 4, 9, 10, 11, 12, 13, 14]) (f0) f4 (by decide) (by decide)), by ((try have c0 := hq1 13 (by decide)); (try have c0 := hq1 13); (try simp only [zt0, zt1, zt2, zt3, zt4, zt5, zt6, zt7, zt8, zt9, zt10, zt11, zt12, zt13] at *) <;> omega)⟩ | exact qI_nf ⟨(FrV.trans (Ns := [0, 1, 2, 3, 4, 9, 10, 11, 12, 13, 14]) (f0) f4 (by decide) (by decide)), by ((try have c0 := hq1 13 (by decide)); (try have c0 := hq1 13); (try simp only [zt0, zt1, zt2, zt3, zt4, zt5, zt6, zt7, zt8, zt9, zt10, zt11, zt12, zt13] at *) <;> omega)⟩
      · refine zok_ck (by first | exact ⟨(q0).1, fun e => by cases e⟩ | exact (q0).1) ?_
        obtain ⟨t6, ht6⟩ : ∃ t', t' = tI t1 r0 (0) (oI (3)) := ⟨_, rfl⟩
        try simp only [zt0, zt1, zt2, zt3, zt4, zt5, zt6, zt7, zt8, zt9, zt10, zt11, zt12, zt13] at ht6
        rw [← ht6]
        have f6 : FrV sh r0 [0] t1 t6 := by rw [ht6]; exact GI_m q0 (f0.g) (by omega) (fun e => by first | omega | cases e) (fun e => by first | omega | cases e)
        have d6_0 : tg t6 r0 0 = 3 := by rw [ht6]; refine (tg_at (by omega)).trans ?_; first | exact if_pos rfl | exact if_neg (by decide) | (simp only [zt0, zt1, zt2, zt3, zt4, zt5, zt6, zt7, zt8, zt9, zt10, zt11, zt12, zt13, true_and, if_true])
        try simp only [zt0, zt1, zt2, zt3, zt4, zt5, zt6, zt7, zt8, zt9, zt10, zt11, zt12, zt13] at d6_0
        have e6_2 : ∀ k, tg t6 (sr sh r0 2) k = tg t1 (sr sh r0 2) k := fun k => f6.eq q0 (i := 2) (by decide) (by decide) k
        have e6_3 : ∀ k, tg t6 (sr sh r0 3) k = tg t1 (sr sh r0 3) k := fun k => f6.eq q0 (i := 3) (by decide) (by decide) k
        have e6_4 : ∀ k, tg t6 (sr sh r0 4) k = tg t1 (sr sh r0 4) k := fun k => f6.eq q0 (i := 4) (by decide) (by decide) k
        have e6_10 : ∀ k, tg t6 (sr sh r0 10) k = tg t1 (sr sh r0 10) k := fun k => f6.eq q0 (i := 10) (by decide) (by decide) k
        have e6_11 : ∀ k, tg t6 (sr sh r0 11) k = tg t1 (sr sh r0 11) k := fun k => f6.eq q0 (i := 11) (by decide) (by decide) k
        first | exact qI_rt (by omega) (by omega) ⟨(FrV.trans (Ns := [0, 1, 2, 3, 4, 9, 10, 11, 12, 13, 14]) (f0) f6 (by decide) (by decide)), by ((try have c0 := hq1 13 (by decide)); (try have c0 := hq1 13); (try have c1 := e6_2 13); (try simp only [zt0, zt1, zt2, zt3, zt4, zt5, zt6, zt7, zt8, zt9, zt10, zt11, zt12, zt13] at *) <;> omega)⟩ | exact qI_nf ⟨(FrV.trans (Ns := [0, 1, 2, 3, 4, 9, 10, 11, 12, 13, 14]) (f0) f6 (by decide) (by decide)), by ((try have c0 := hq1 13 (by decide)); (try have c0 := hq1 13); (try have c1 := e6_2 13); (try simp only [zt0, zt1, zt2, zt3, zt4, zt5, zt6, zt7, zt8, zt9, zt10, zt11, zt12, zt13] at *) <;> omega)⟩
    · refine zok_ck ((q0).1) ?_
      refine zok_c0 (s191 (q0) (by omega) (by omega) (by omega) (by first | (omega) | ((try simp only [zt0, zt1, zt2, zt3, zt4, zt5, zt6, zt7, zt8, zt9, zt10, zt11, zt12, zt13]); omega)) (by first | (omega) | ((try simp only [zt0, zt1, zt2, zt3, zt4, zt5, zt6, zt7, zt8, zt9, zt10, zt11, zt12, zt13]); omega)) (f0.g)) (fun t7 p7 => ?_)
      obtain ⟨f7, p7⟩ := p7
      have e7_2 : ∀ k, tg t7 (sr sh r0 2) k = tg t1 (sr sh r0 2) k := fun k => f7.eq q0 (i := 2) (by decide) (by decide) k
      have d7_0 : tg t7 r0 0 = tg t1 r0 0 := f7.eq q0 (i := 0) (by decide) (by decide) 0
      try simp only [zt0, zt1, zt2, zt3, zt4, zt5, zt6, zt7, zt8, zt9, zt10, zt11, zt12, zt13, e7_2] at p7
      simp only [zput_s, zput_n, ti_g, oI_add, oI_sub, oI_mul, zt0, zt1, zt2, zt3, zt4, zt5, zt6, zt7, zt8, zt9, zt10, zt11, zt12, zt13, e7_2, b192_106]
      try simp only [zput_s, zput_n, ti_g, oI_add, oI_sub, oI_mul]
      refine zok_ck ((q0).1) ?_
      refine zok_cI (s189 (q0) (by omega) (by omega) (by omega) (by first | (omega) | ((try simp only [zt0, zt1, zt2, zt3, zt4, zt5, zt6, zt7, zt8, zt9, zt10, zt11, zt12, zt13, e7_2]); omega)) (by first | (omega) | ((try simp only [zt0, zt1, zt2, zt3, zt4, zt5, zt6, zt7, zt8, zt9, zt10, zt11, zt12, zt13, e7_2]); omega)) (by first | (omega) | ((try simp only [zt0, zt1, zt2, zt3, zt4, zt5, zt6, zt7, zt8, zt9, zt10, zt11, zt12, zt13, e7_2]); omega)) (by first | (omega) | ((try simp only [zt0, zt1, zt2, zt3, zt4, zt5, zt6, zt7, zt8, zt9, zt10, zt11, zt12, zt13, e7_2]); omega)) (f7.g)) (fun y9 t9 u9 p9 => ?_)
      obtain ⟨f9, p9⟩ := p9
      try simp only [zt0, zt1, zt2, zt3, zt4, zt5, zt6, zt7, zt8, zt9, zt10, zt11, zt12, zt13, e7_2] at p9
      simp only [zput_s, zput_n, ti_g, oI_add, oI_sub, oI_mul, zt0, zt1, zt2, zt3, zt4, zt5, zt6, zt7, zt8, zt9, zt10, zt11, zt12, zt13, e7_2, b192_114]
      try simp only [zput_s, zput_n, ti_g, oI_add, oI_sub, oI_mul]
      try simp only [zput_s, zput_n, ti_g, oI_add, oI_sub, oI_mul]
      exact ih _ _ _ ((FrV.trans (Ns := [0, 1, 2, 3, 4, 9, 10, 11, 12, 13, 14]) ((FrV.trans (Ns := [0, 1, 2, 3, 4, 9, 10, 11, 12, 13, 14]) (f0) f7 (by decide) (by decide))) f9 (by decide) (by decide))) (by first | omega | ((try simp only [zt0, zt1, zt2, zt3, zt4, zt5, zt6, zt7, zt8, zt9, zt10, zt11, zt12, zt13, e7_2, true_and, and_true]); omega)) (by first | omega | ((try simp only [zt0, zt1, zt2, zt3, zt4, zt5, zt6, zt7, zt8, zt9, zt10, zt11, zt12, zt13, e7_2, true_and, and_true]); omega))
theorem l192_85 {sh : zSh} {t0 : zSt} {MB : Nat} {r0 : Nat} (q0 : zMd sh MB r0) {x1 : Int} (u1 : -2147483648 ≤ x1 ∧ x1 ≤ 2147483647) {x2 : Int} (u2 : -2147483648 ≤ x2 ∧ x2 ≤ 2147483647) {x3 : Int} (u3 : -2147483648 ≤ x3 ∧ x3 ≤ 2147483647) (G : GI sh r0 t0) : ∀ (n : Nat)   (t1 : zSt), FrV sh r0 [0, 1, 2, 3, 4, 9, 10, 11, 12, 13, 14] t0 t1 → (0 ≤ x1 ∧ x1 ≤ 7 ∧ 0 ≤ x2 ∧ x2 ≤ 7 ∧ 0 ≤ x3 ∧ x3 ≤ 7) ∧ (tg t1 (sr sh r0 2) 13 = tg t0 (sr sh r0 2) 13) → ((0 : Int)).toNat < n → zok (zev zP 192 85 [some (zR r0), some (zI (oI x1)), some (zI (oI x2)), some (zI (oI x3)), none, none] [] (sh, t1)) (qI (fun x t' => FrV sh r0 [0, 1, 2, 3, 4, 9, 10, 11, 12, 13, 14] t0 t' ∧ (tg t' (sr sh r0 2) 13 = tg t0 (sr sh r0 2) 13)) sh) := by
  intro n
  induction n with
  | zero => intro   t1 f0 _ hm; omega
  | succ n ih =>
    intro   t1 f0 hv hm
    have ha0_1 : (sk sh (sr sh r0 1)).2 = 21000 := by rw [q0.2.2.2.2.1]
    have ha0_2 : (sk sh (sr sh r0 2)).2 = 14 := by rw [q0.2.2.2.2.2.1]
    have ha0_3 : (sk sh (sr sh r0 3)).2 = 98 := by rw [q0.2.2.2.2.2.2.1]
    have ha0_4 : (sk sh (sr sh r0 4)).2 = 98 := by rw [q0.2.2.2.2.2.2.2.1]
    have ha0_8 : (sk sh (sr sh r0 8)).2 = 1500 := by rw [q0.2.2.2.2.2.2.2.2.1]
    have ha0_9 : (sk sh (sr sh r0 9)).2 = 10500 := by rw [q0.2.2.2.2.2.2.2.2.2.1]
    have ha0_10 : (sk sh (sr sh r0 10)).2 = 7 := by rw [q0.2.2.2.2.2.2.2.2.2.2.1]
    have ha0_11 : (sk sh (sr sh r0 11)).2 = 7 := by rw [q0.2.2.2.2.2.2.2.2.2.2.2.1]
    have ha0_12 : (sk sh (sr sh r0 12)).2 = 1500 := by rw [q0.2.2.2.2.2.2.2.2.2.2.2.2.1]
    have ha0_13 : (sk sh (sr sh r0 13)).2 = 1500 := by rw [q0.2.2.2.2.2.2.2.2.2.2.2.2.2.1]
    have ha0_14 : (sk sh (sr sh r0 14)).2 = 20 := by rw [q0.2.2.2.2.2.2.2.2.2.2.2.2.2.2]
    try simp only [zt0, zt1, zt2, zt3, zt4, zt5, zt6, zt7, zt8, zt9, zt10, zt11, zt12, zt13] at hv
    try simp only [zt0, zt1, zt2, zt3, zt4, zt5, zt6, zt7, zt8, zt9, zt10, zt11, zt12, zt13] at hm
    rw [b192_85]
    try simp only [zput_s, zput_n, ti_g, oI_add, oI_sub, oI_mul]
    try simp only [zput_s, zput_n, ti_g, oI_add, oI_sub, oI_mul]
    exact l192_91 q0 (by omega) (by omega) (by omega) G _ _ _ _ (f0) (by first | omega | ((try simp only [zt0, zt1, zt2, zt3, zt4, zt5, zt6, zt7, zt8, zt9, zt10, zt11, zt12, zt13, true_and, and_true]); omega)) (Nat.lt_succ_self _)
theorem l192_39 {sh : zSh} {t0 : zSt} {MB : Nat} {r0 : Nat} (q0 : zMd sh MB r0) {x1 : Int} (u1 : -2147483648 ≤ x1 ∧ x1 ≤ 2147483647) {x2 : Int} (u2 : -2147483648 ≤ x2 ∧ x2 ≤ 2147483647) {x3 : Int} (u3 : -2147483648 ≤ x3 ∧ x3 ≤ 2147483647) (G : GI sh r0 t0) : ∀ (n : Nat)   (t1 : zSt), FrV sh r0 [0, 1, 2, 3, 4, 9, 10, 11, 12, 13, 14] t0 t1 → (0 ≤ x1 ∧ x1 ≤ 7 ∧ 0 ≤ x2 ∧ x2 ≤ 7 ∧ 0 ≤ x3 ∧ x3 ≤ 7) ∧ (tg t1 (sr sh r0 2) 13 = tg t0 (sr sh r0 2) 13) → ((0 : Int)).toNat < n → zok (zev zP 192 39 [some (zR r0), some (zI (oI x1)), some (zI (oI x2)), some (zI (oI x3)), none, none] [] (sh, t1)) (qI (fun x t' => FrV sh r0 [0, 1, 2, 3, 4, 9, 10, 11, 12, 13, 14] t0 t' ∧ (tg t' (sr sh r0 2) 13 = tg t0 (sr sh r0 2) 13)) sh) := by
  intro n
  induction n with
  | zero => intro   t1 f0 _ hm; omega
  | succ n ih =>
    intro   t1 f0 hv hm
    have ha0_1 : (sk sh (sr sh r0 1)).2 = 21000 := by rw [q0.2.2.2.2.1]
    have ha0_2 : (sk sh (sr sh r0 2)).2 = 14 := by rw [q0.2.2.2.2.2.1]
    have ha0_3 : (sk sh (sr sh r0 3)).2 = 98 := by rw [q0.2.2.2.2.2.2.1]
    have ha0_4 : (sk sh (sr sh r0 4)).2 = 98 := by rw [q0.2.2.2.2.2.2.2.1]
    have ha0_8 : (sk sh (sr sh r0 8)).2 = 1500 := by rw [q0.2.2.2.2.2.2.2.2.1]
    have ha0_9 : (sk sh (sr sh r0 9)).2 = 10500 := by rw [q0.2.2.2.2.2.2.2.2.2.1]
    have ha0_10 : (sk sh (sr sh r0 10)).2 = 7 := by rw [q0.2.2.2.2.2.2.2.2.2.2.1]
    have ha0_11 : (sk sh (sr sh r0 11)).2 = 7 := by rw [q0.2.2.2.2.2.2.2.2.2.2.2.1]
    have ha0_12 : (sk sh (sr sh r0 12)).2 = 1500 := by rw [q0.2.2.2.2.2.2.2.2.2.2.2.2.1]
    have ha0_13 : (sk sh (sr sh r0 13)).2 = 1500 := by rw [q0.2.2.2.2.2.2.2.2.2.2.2.2.2.1]
    have ha0_14 : (sk sh (sr sh r0 14)).2 = 20 := by rw [q0.2.2.2.2.2.2.2.2.2.2.2.2.2.2]
    try simp only [zt0, zt1, zt2, zt3, zt4, zt5, zt6, zt7, zt8, zt9, zt10, zt11, zt12, zt13] at hv
    try simp only [zt0, zt1, zt2, zt3, zt4, zt5, zt6, zt7, zt8, zt9, zt10, zt11, zt12, zt13] at hm
    rw [b192_39]
    try simp only [zput_s, zput_n, ti_g, oI_add, oI_sub, oI_mul]
    refine zok_ck ((q0).1) ?_
    have gs2 := (f0.g).1 (x2).toNat
    try simp only [zt0, zt1, zt2, zt3, zt4, zt5, zt6, zt7, zt8, zt9, zt10, zt11, zt12, zt13] at gs2
    have gt2 := (f0.g).1 (x3).toNat
    try simp only [zt0, zt1, zt2, zt3, zt4, zt5, zt6, zt7, zt8, zt9, zt10, zt11, zt12, zt13] at gt2
    refine zok_c0 (s138 (q0) (by omega) (by first | (omega) | ((try simp only [zt0, zt1, zt2, zt3, zt4, zt5, zt6, zt7, zt8, zt9, zt10, zt11, zt12, zt13]); omega)) (by first | (omega) | ((try simp only [zt0, zt1, zt2, zt3, zt4, zt5, zt6, zt7, zt8, zt9, zt10, zt11, zt12, zt13]); omega)) (f0.g)) (fun t2 p2 => ?_)
    obtain ⟨f2, p2⟩ := p2
    have e2_2 : ∀ k, tg t2 (sr sh r0 2) k = tg t1 (sr sh r0 2) k := fun k => f2.eq q0 (i := 2) (by decide) (by decide) k
    have e2_10 : ∀ k, tg t2 (sr sh r0 10) k = tg t1 (sr sh r0 10) k := fun k => f2.eq q0 (i := 10) (by decide) (by decide) k
    have e2_11 : ∀ k, tg t2 (sr sh r0 11) k = tg t1 (sr sh r0 11) k := fun k => f2.eq q0 (i := 11) (by decide) (by decide) k
    have d2_0 : tg t2 r0 0 = tg t1 r0 0 := f2.eq q0 (i := 0) (by decide) (by decide) 0
    try simp only [zt0, zt1, zt2, zt3, zt4, zt5, zt6, zt7, zt8, zt9, zt10, zt11, zt12, zt13, e2_2, e2_10, e2_11] at p2
    simp only [zput_s, zput_n, ti_g, oI_add, oI_sub, oI_mul, zt0, zt1, zt2, zt3, zt4, zt5, zt6, zt7, zt8, zt9, zt10, zt11, zt12, zt13, e2_2, e2_10, e2_11, b192_44]
    try simp only [zput_s, zput_n, ti_g, oI_add, oI_sub, oI_mul]
    refine zok_ck ((q0).1) ?_
    have gs4 := (f2.g).1 (x2).toNat
    try simp only [zt0, zt1, zt2, zt3, zt4, zt5, zt6, zt7, zt8, zt9, zt10, zt11, zt12, zt13, e2_2, e2_10, e2_11] at gs4
    have gt4 := (f2.g).1 (x3).toNat
    try simp only [zt0, zt1, zt2, zt3, zt4, zt5, zt6, zt7, zt8, zt9, zt10, zt11, zt12, zt13, e2_2, e2_10, e2_11] at gt4
    refine zok_c0 (s138 (q0) (by omega) (by first | (omega) | ((try simp only [zt0, zt1, zt2, zt3, zt4, zt5, zt6, zt7, zt8, zt9, zt10, zt11, zt12, zt13, e2_2, e2_10, e2_11]); omega)) (by first | (omega) | ((try simp only [zt0, zt1, zt2, zt3, zt4, zt5, zt6, zt7, zt8, zt9, zt10, zt11, zt12, zt13, e2_2, e2_10, e2_11]); omega)) (f2.g)) (fun t4 p4 => ?_)
    obtain ⟨f4, p4⟩ := p4
    have e4_2 : ∀ k, tg t4 (sr sh r0 2) k = tg t2 (sr sh r0 2) k := fun k => f4.eq q0 (i := 2) (by decide) (by decide) k
    have e4_10 : ∀ k, tg t4 (sr sh r0 10) k = tg t2 (sr sh r0 10) k := fun k => f4.eq q0 (i := 10) (by decide) (by decide) k
    have e4_11 : ∀ k, tg t4 (sr sh r0 11) k = tg t2 (sr sh r0 11) k := fun k => f4.eq q0 (i := 11) (by decide) (by decide) k
    have d4_0 : tg t4 r0 0 = tg t2 r0 0 := f4.eq q0 (i := 0) (by decide) (by decide) 0
    try simp only [zt0, zt1, zt2, zt3, zt4, zt5, zt6, zt7, zt8, zt9, zt10, zt11, zt12, zt13, e2_2, e2_10, e2_11, e4_2, e4_10, e4_11] at p4
    simp only [zput_s, zput_n, ti_g, oI_add, oI_sub, oI_mul, zt0, zt1, zt2, zt3, zt4, zt5, zt6, zt7, zt8, zt9, zt10, zt11, zt12, zt13, e2_2, e2_10, e2_11, e4_2, e4_10, e4_11, b192_49]
    try simp only [zput_s, zput_n, ti_g, oI_add, oI_sub, oI_mul]
    refine zok_ck ((q0).1) ?_
    refine zok_pI (s134 (q0) (by omega) (by omega) (by first | (omega) | ((try simp only [zt0, zt1, zt2, zt3, zt4, zt5, zt6, zt7, zt8, zt9, zt10, zt11, zt12, zt13, e2_2, e2_10, e2_11, e4_2, e4_10, e4_11]); omega)) (by first | (omega) | ((try simp only [zt0, zt1, zt2, zt3, zt4, zt5, zt6, zt7, zt8, zt9, zt10, zt11, zt12, zt13, e2_2, e2_10, e2_11, e4_2, e4_10, e4_11]); omega)) (f4.g)) (fun y6 u6 p6 => ?_)
    try simp only [zt0, zt1, zt2, zt3, zt4, zt5, zt6, zt7, zt8, zt9, zt10, zt11, zt12, zt13, e2_2, e2_10, e2_11, e4_2, e4_10, e4_11] at p6
    have g7_1 := And.intro (tg_lo (tI t4 r0 0 (oI 2)) r0 0) (tg_hi (tI t4 r0 0 (oI 2)) r0 0)
    simp only [zput_s, zput_n, ti_g, oI_add, oI_sub, oI_mul, zt0, zt1, zt2, zt3, zt4, zt5, zt6, zt7, zt8, zt9, zt10, zt11, zt12, zt13, e2_2, e2_10, e2_11, e4_2, e4_10, e4_11, b192_56]
    try simp only [zput_s, zput_n, ti_g, oI_add, oI_sub, oI_mul]
    first | refine zok_eq (by omega) (fun c8 => ?_) (fun c8 => ?_) | refine zok_if (fun c8 => ?_) (fun c8 => ?_)
    · refine zok_ck (by first | exact ⟨(q0).1, fun e => by cases e⟩ | exact (q0).1) ?_
      obtain ⟨t9, ht9⟩ : ∃ t', t' = tI t4 r0 (0) (oI (2)) := ⟨_, rfl⟩
      try simp only [zt0, zt1, zt2, zt3, zt4, zt5, zt6, zt7, zt8, zt9, zt10, zt11, zt12, zt13, e2_2, e2_10, e2_11, e4_2, e4_10, e4_11] at ht9
      rw [← ht9]
      have f9 : FrV sh r0 [0] t4 t9 := by rw [ht9]; exact GI_m q0 (f4.g) (by omega) (fun e => by first | omega | cases e) (fun e => by first | omega | cases e)
      have d9_0 : tg t9 r0 0 = 2 := by rw [ht9]; refine (tg_at (by omega)).trans ?_; first | exact if_pos rfl | exact if_neg (by decide) | (simp only [zt0, zt1, zt2, zt3, zt4, zt5, zt6, zt7, zt8, zt9, zt10, zt11, zt12, zt13, e2_2, e2_10, e2_11, e4_2, e4_10, e4_11, true_and, if_true])
      try simp only [zt0, zt1, zt2, zt3, zt4, zt5, zt6, zt7, zt8, zt9, zt10, zt11, zt12, zt13, e2_2, e2_10, e2_11, e4_2, e4_10, e4_11] at d9_0
      have e9_2 : ∀ k, tg t9 (sr sh r0 2) k = tg t4 (sr sh r0 2) k := fun k => f9.eq q0 (i := 2) (by decide) (by decide) k
      have e9_3 : ∀ k, tg t9 (sr sh r0 3) k = tg t4 (sr sh r0 3) k := fun k => f9.eq q0 (i := 3) (by decide) (by decide) k
      have e9_4 : ∀ k, tg t9 (sr sh r0 4) k = tg t4 (sr sh r0 4) k := fun k => f9.eq q0 (i := 4) (by decide) (by decide) k
      have e9_10 : ∀ k, tg t9 (sr sh r0 10) k = tg t4 (sr sh r0 10) k := fun k => f9.eq q0 (i := 10) (by decide) (by decide) k
      have e9_11 : ∀ k, tg t9 (sr sh r0 11) k = tg t4 (sr sh r0 11) k := fun k => f9.eq q0 (i := 11) (by decide) (by decide) k
      refine zok_ck ((q0).1) ?_
      first | refine zok_le (by omega) (fun c10 => ?_) (fun c10 => ?_) | refine zok_if (fun c10 => ?_) (fun c10 => ?_)
      · try simp only [zput_s, zput_n, ti_g, oI_add, oI_sub, oI_mul]
        exact l192_85 q0 (by omega) (by omega) (by omega) G _ _ ((FrV.trans (Ns := [0, 1, 2, 3, 4, 9, 10, 11, 12, 13, 14]) ((FrV.trans (Ns := [0, 1, 2, 3, 4, 9, 10, 11, 12, 13, 14]) ((FrV.trans (Ns := [0, 1, 2, 3, 4, 9, 10, 11, 12, 13, 14]) (f0) f2 (by decide) (by decide))) f4 (by decide) (by decide))) f9 (by decide) (by decide))) (by first | omega | ((try simp only [zt0, zt1, zt2, zt3, zt4, zt5, zt6, zt7, zt8, zt9, zt10, zt11, zt12, zt13, e2_2, e2_10, e2_11, e4_2, e4_10, e4_11, e9_2, e9_3, e9_4, e9_10, e9_11, true_and, and_true]); omega)) (Nat.lt_succ_self _)
      · first | exact qI_rt (by omega) (by omega) ⟨(FrV.trans (Ns := [0, 1, 2, 3, 4, 9, 10, 11, 12, 13, 14]) ((FrV.trans (Ns := [0, 1, 2, 3, 4, 9, 10, 11, 12, 13, 14]) ((FrV.trans (Ns := [0, 1, 2, 3, 4, 9, 10, 11, 12, 13, 14]) (f0) f2 (by decide) (by decide))) f4 (by decide) (by decide))) f9 (by decide) (by decide)), by ((try have c0 := hq1 13 (by decide)); (try have c0 := hq1 13); (try have c1 := e2_2 13); (try have c4 := e4_2 13); (try have c7 := e9_2 13); (try simp only [zt0, zt1, zt2, zt3, zt4, zt5, zt6, zt7, zt8, zt9, zt10, zt11, zt12, zt13] at *) <;> omega)⟩ | exact qI_nf ⟨(FrV.trans (Ns := [0, 1, 2, 3, 4, 9, 10, 11, 12, 13, 14]) ((FrV.trans (Ns := [0, 1, 2, 3, 4, 9, 10, 11, 12, 13, 14]) ((FrV.trans (Ns := [0, 1, 2, 3, 4, 9, 10, 11, 12, 13, 14]) (f0) f2 (by decide) (by decide))) f4 (by decide) (by decide))) f9 (by decide) (by decide)), by ((try have c0 := hq1 13 (by decide)); (try have c0 := hq1 13); (try have c1 := e2_2 13); (try have c4 := e4_2 13); (try have c7 := e9_2 13); (try simp only [zt0, zt1, zt2, zt3, zt4, zt5, zt6, zt7, zt8, zt9, zt10, zt11, zt12, zt13] at *) <;> omega)⟩
    · refine zok_ck ((q0).1) ?_
      refine zok_pI (s134 (q0) (by omega) (by omega) (by first | (omega) | ((try simp only [zt0, zt1, zt2, zt3, zt4, zt5, zt6, zt7, zt8, zt9, zt10, zt11, zt12, zt13, e2_2, e2_10, e2_11, e4_2, e4_10, e4_11]); omega)) (by first | (omega) | ((try simp only [zt0, zt1, zt2, zt3, zt4, zt5, zt6, zt7, zt8, zt9, zt10, zt11, zt12, zt13, e2_2, e2_10, e2_11, e4_2, e4_10, e4_11]); omega)) (f4.g)) (fun y11 u11 p11 => ?_)
      try simp only [zt0, zt1, zt2, zt3, zt4, zt5, zt6, zt7, zt8, zt9, zt10, zt11, zt12, zt13, e2_2, e2_10, e2_11, e4_2, e4_10, e4_11] at p11
      have g12_1 := And.intro (tg_lo (tI t4 r0 0 (oI 2)) r0 0) (tg_hi (tI t4 r0 0 (oI 2)) r0 0)
      have g12_2 := And.intro (tg_lo (tI t4 r0 0 (oI 0)) r0 0) (tg_hi (tI t4 r0 0 (oI 0)) r0 0)
      simp only [zput_s, zput_n, ti_g, oI_add, oI_sub, oI_mul, zt0, zt1, zt2, zt3, zt4, zt5, zt6, zt7, zt8, zt9, zt10, zt11, zt12, zt13, e2_2, e2_10, e2_11, e4_2, e4_10, e4_11, b192_65]
      try simp only [zput_s, zput_n, ti_g, oI_add, oI_sub, oI_mul]
      first | refine zok_eq (by omega) (fun c13 => ?_) (fun c13 => ?_) | refine zok_if (fun c13 => ?_) (fun c13 => ?_)
      · refine zok_ck (by first | exact ⟨(q0).1, fun e => by cases e⟩ | exact (q0).1) ?_
        obtain ⟨t14, ht14⟩ : ∃ t', t' = tI t4 r0 (0) (oI (2)) := ⟨_, rfl⟩
        try simp only [zt0, zt1, zt2, zt3, zt4, zt5, zt6, zt7, zt8, zt9, zt10, zt11, zt12, zt13, e2_2, e2_10, e2_11, e4_2, e4_10, e4_11] at ht14
        rw [← ht14]
        have f14 : FrV sh r0 [0] t4 t14 := by rw [ht14]; exact GI_m q0 (f4.g) (by omega) (fun e => by first | omega | cases e) (fun e => by first | omega | cases e)
        have d14_0 : tg t14 r0 0 = 2 := by rw [ht14]; refine (tg_at (by omega)).trans ?_; first | exact if_pos rfl | exact if_neg (by decide) | (simp only [zt0, zt1, zt2, zt3, zt4, zt5, zt6, zt7, zt8, zt9, zt10, zt11, zt12, zt13, e2_2, e2_10, e2_11, e4_2, e4_10, e4_11, true_and, if_true])
        try simp only [zt0, zt1, zt2, zt3, zt4, zt5, zt6, zt7, zt8, zt9, zt10, zt11, zt12, zt13, e2_2, e2_10, e2_11, e4_2, e4_10, e4_11] at d14_0
        have e14_2 : ∀ k, tg t14 (sr sh r0 2) k = tg t4 (sr sh r0 2) k := fun k => f14.eq q0 (i := 2) (by decide) (by decide) k
        have e14_3 : ∀ k, tg t14 (sr sh r0 3) k = tg t4 (sr sh r0 3) k := fun k => f14.eq q0 (i := 3) (by decide) (by decide) k
        have e14_4 : ∀ k, tg t14 (sr sh r0 4) k = tg t4 (sr sh r0 4) k := fun k => f14.eq q0 (i := 4) (by decide) (by decide) k
        have e14_10 : ∀ k, tg t14 (sr sh r0 10) k = tg t4 (sr sh r0 10) k := fun k => f14.eq q0 (i := 10) (by decide) (by decide) k
        have e14_11 : ∀ k, tg t14 (sr sh r0 11) k = tg t4 (sr sh r0 11) k := fun k => f14.eq q0 (i := 11) (by decide) (by decide) k
        refine zok_ck ((q0).1) ?_
        first | refine zok_le (by omega) (fun c15 => ?_) (fun c15 => ?_) | refine zok_if (fun c15 => ?_) (fun c15 => ?_)
        · try simp only [zput_s, zput_n, ti_g, oI_add, oI_sub, oI_mul]
          exact l192_85 q0 (by omega) (by omega) (by omega) G _ _ ((FrV.trans (Ns := [0, 1, 2, 3, 4, 9, 10, 11, 12, 13, 14]) ((FrV.trans (Ns := [0, 1, 2, 3, 4, 9, 10, 11, 12, 13, 14]) ((FrV.trans (Ns := [0, 1, 2, 3, 4, 9, 10, 11, 12, 13, 14]) (f0) f2 (by decide) (by decide))) f4 (by decide) (by decide))) f14 (by decide) (by decide))) (by first | omega | ((try simp only [zt0, zt1, zt2, zt3, zt4, zt5, zt6, zt7, zt8, zt9, zt10, zt11, zt12, zt13, e2_2, e2_10, e2_11, e4_2, e4_10, e4_11, e14_2, e14_3, e14_4, e14_10, e14_11, true_and, and_true]); omega)) (Nat.lt_succ_self _)
        · first | exact qI_rt (by omega) (by omega) ⟨(FrV.trans (Ns := [0, 1, 2, 3, 4, 9, 10, 11, 12, 13, 14]) ((FrV.trans (Ns := [0, 1, 2, 3, 4, 9, 10, 11, 12, 13, 14]) ((FrV.trans (Ns := [0, 1, 2, 3, 4, 9, 10, 11, 12, 13, 14]) (f0) f2 (by decide) (by decide))) f4 (by decide) (by decide))) f14 (by decide) (by decide)), by ((try have c0 := hq1 13 (by decide)); (try have c0 := hq1 13); (try have c1 := e2_2 13); (try have c4 := e4_2 13); (try have c7 := e14_2 13); (try simp only [zt0, zt1, zt2, zt3, zt4, zt5, zt6, zt7, zt8, zt9, zt10, zt11, zt12, zt13] at *) <;> omega)⟩ | exact qI_nf ⟨(FrV.trans (Ns := [0, 1, 2, 3, 4, 9, 10, 11, 12, 13, 14]) ((FrV.trans (Ns := [0, 1, 2, 3, 4, 9, 10, 11, 12, 13, 14]) ((FrV.trans (Ns := [0, 1, 2, 3, 4, 9, 10, 11, 12, 13, 14]) (f0) f2 (by decide) (by decide))) f4 (by decide) (by decide))) f14 (by decide) (by decide)), by ((try have c0 := hq1 13 (by decide)); (try have c0 := hq1 13); (try have c1 := e2_2 13); (try have c4 := e4_2 13); (try have c7 := e14_2 13); (try simp only [zt0, zt1, zt2, zt3, zt4, zt5, zt6, zt7, zt8, zt9, zt10, zt11, zt12, zt13] at *) <;> omega)⟩
      · refine zok_ck (by first | exact ⟨(q0).1, fun e => by cases e⟩ | exact (q0).1) ?_
        obtain ⟨t16, ht16⟩ : ∃ t', t' = tI t4 r0 (0) (oI (0)) := ⟨_, rfl⟩
        try simp only [zt0, zt1, zt2, zt3, zt4, zt5, zt6, zt7, zt8, zt9, zt10, zt11, zt12, zt13, e2_2, e2_10, e2_11, e4_2, e4_10, e4_11] at ht16
        rw [← ht16]
        have f16 : FrV sh r0 [0] t4 t16 := by rw [ht16]; exact GI_m q0 (f4.g) (by omega) (fun e => by first | omega | cases e) (fun e => by first | omega | cases e)
        have d16_0 : tg t16 r0 0 = 0 := by rw [ht16]; refine (tg_at (by omega)).trans ?_; first | exact if_pos rfl | exact if_neg (by decide) | (simp only [zt0, zt1, zt2, zt3, zt4, zt5, zt6, zt7, zt8, zt9, zt10, zt11, zt12, zt13, e2_2, e2_10, e2_11, e4_2, e4_10, e4_11, true_and, if_true])
        try simp only [zt0, zt1, zt2, zt3, zt4, zt5, zt6, zt7, zt8, zt9, zt10, zt11, zt12, zt13, e2_2, e2_10, e2_11, e4_2, e4_10, e4_11] at d16_0
        have e16_2 : ∀ k, tg t16 (sr sh r0 2) k = tg t4 (sr sh r0 2) k := fun k => f16.eq q0 (i := 2) (by decide) (by decide) k
        have e16_3 : ∀ k, tg t16 (sr sh r0 3) k = tg t4 (sr sh r0 3) k := fun k => f16.eq q0 (i := 3) (by decide) (by decide) k
        have e16_4 : ∀ k, tg t16 (sr sh r0 4) k = tg t4 (sr sh r0 4) k := fun k => f16.eq q0 (i := 4) (by decide) (by decide) k
        have e16_10 : ∀ k, tg t16 (sr sh r0 10) k = tg t4 (sr sh r0 10) k := fun k => f16.eq q0 (i := 10) (by decide) (by decide) k
        have e16_11 : ∀ k, tg t16 (sr sh r0 11) k = tg t4 (sr sh r0 11) k := fun k => f16.eq q0 (i := 11) (by decide) (by decide) k
        refine zok_ck ((q0).1) ?_
        first | refine zok_le (by omega) (fun c17 => ?_) (fun c17 => ?_) | refine zok_if (fun c17 => ?_) (fun c17 => ?_)
        · try simp only [zput_s, zput_n, ti_g, oI_add, oI_sub, oI_mul]
          exact l192_85 q0 (by omega) (by omega) (by omega) G _ _ ((FrV.trans (Ns := [0, 1, 2, 3, 4, 9, 10, 11, 12, 13, 14]) ((FrV.trans (Ns := [0, 1, 2, 3, 4, 9, 10, 11, 12, 13, 14]) ((FrV.trans (Ns := [0, 1, 2, 3, 4, 9, 10, 11, 12, 13, 14]) (f0) f2 (by decide) (by decide))) f4 (by decide) (by decide))) f16 (by decide) (by decide))) (by first | omega | ((try simp only [zt0, zt1, zt2, zt3, zt4, zt5, zt6, zt7, zt8, zt9, zt10, zt11, zt12, zt13, e2_2, e2_10, e2_11, e4_2, e4_10, e4_11, e16_2, e16_3, e16_4, e16_10, e16_11, true_and, and_true]); omega)) (Nat.lt_succ_self _)
        · first | exact qI_rt (by omega) (by omega) ⟨(FrV.trans (Ns := [0, 1, 2, 3, 4, 9, 10, 11, 12, 13, 14]) ((FrV.trans (Ns := [0, 1, 2, 3, 4, 9, 10, 11, 12, 13, 14]) ((FrV.trans (Ns := [0, 1, 2, 3, 4, 9, 10, 11, 12, 13, 14]) (f0) f2 (by decide) (by decide))) f4 (by decide) (by decide))) f16 (by decide) (by decide)), by ((try have c0 := hq1 13 (by decide)); (try have c0 := hq1 13); (try have c1 := e2_2 13); (try have c4 := e4_2 13); (try have c7 := e16_2 13); (try simp only [zt0, zt1, zt2, zt3, zt4, zt5, zt6, zt7, zt8, zt9, zt10, zt11, zt12, zt13] at *) <;> omega)⟩ | exact qI_nf ⟨(FrV.trans (Ns := [0, 1, 2, 3, 4, 9, 10, 11, 12, 13, 14]) ((FrV.trans (Ns := [0, 1, 2, 3, 4, 9, 10, 11, 12, 13, 14]) ((FrV.trans (Ns := [0, 1, 2, 3, 4, 9, 10, 11, 12, 13, 14]) (f0) f2 (by decide) (by decide))) f4 (by decide) (by decide))) f16 (by decide) (by decide)), by ((try have c0 := hq1 13 (by decide)); (try have c0 := hq1 13); (try have c1 := e2_2 13); (try have c4 := e4_2 13); (try have c7 := e16_2 13); (try simp only [zt0, zt1, zt2, zt3, zt4, zt5, zt6, zt7, zt8, zt9, zt10, zt11, zt12, zt13] at *) <;> omega)⟩
theorem s192 {sh : zSh} {t : zSt} {MB : Nat} {r0 : Nat} (q0 : zMd sh MB r0) {x1 : Int} (u1 : -2147483648 ≤ x1 ∧ x1 ≤ 2147483647) {x2 : Int} (u2 : -2147483648 ≤ x2 ∧ x2 ≤ 2147483647) {x3 : Int} (u3 : -2147483648 ≤ x3 ∧ x3 ≤ 2147483647) (G : GI sh r0 t) : zok (zcl zP 192 [zR r0, zI (oI x1), zI (oI x2), zI (oI x3)] (sh, t)) (qI (fun x t' => FrV sh r0 [0, 1, 2, 3, 4, 9, 10, 11, 12, 13, 14] t t' ∧ (tg t' (sr sh r0 2) 13 = tg t (sr sh r0 2) 13)) sh) := by
  have ha0_1 : (sk sh (sr sh r0 1)).2 = 21000 := by rw [q0.2.2.2.2.1]
  have ha0_2 : (sk sh (sr sh r0 2)).2 = 14 := by rw [q0.2.2.2.2.2.1]
  have ha0_3 : (sk sh (sr sh r0 3)).2 = 98 := by rw [q0.2.2.2.2.2.2.1]
  have ha0_4 : (sk sh (sr sh r0 4)).2 = 98 := by rw [q0.2.2.2.2.2.2.2.1]
  have ha0_8 : (sk sh (sr sh r0 8)).2 = 1500 := by rw [q0.2.2.2.2.2.2.2.2.1]
  have ha0_9 : (sk sh (sr sh r0 9)).2 = 10500 := by rw [q0.2.2.2.2.2.2.2.2.2.1]
  have ha0_10 : (sk sh (sr sh r0 10)).2 = 7 := by rw [q0.2.2.2.2.2.2.2.2.2.2.1]
  have ha0_11 : (sk sh (sr sh r0 11)).2 = 7 := by rw [q0.2.2.2.2.2.2.2.2.2.2.2.1]
  have ha0_12 : (sk sh (sr sh r0 12)).2 = 1500 := by rw [q0.2.2.2.2.2.2.2.2.2.2.2.2.1]
  have ha0_13 : (sk sh (sr sh r0 13)).2 = 1500 := by rw [q0.2.2.2.2.2.2.2.2.2.2.2.2.2.1]
  have ha0_14 : (sk sh (sr sh r0 14)).2 = 20 := by rw [q0.2.2.2.2.2.2.2.2.2.2.2.2.2.2]
  rw [b192_0]
  try simp only [zput_s, zput_n, ti_g, oI_add, oI_sub, oI_mul]
  refine zok_pI (s127 (by omega)) (fun y19 u19 p19 => ?_)
  try simp only [zt0, zt1, zt2, zt3, zt4, zt5, zt6, zt7, zt8, zt9, zt10, zt11, zt12, zt13] at p19
  have g20_1 := And.intro (tg_lo (tI t r0 0 (oI 1)) r0 0) (tg_hi (tI t r0 0 (oI 1)) r0 0)
  simp only [zput_s, zput_n, ti_g, oI_add, oI_sub, oI_mul, zt0, zt1, zt2, zt3, zt4, zt5, zt6, zt7, zt8, zt9, zt10, zt11, zt12, zt13, b192_5]
  try simp only [zput_s, zput_n, ti_g, oI_add, oI_sub, oI_mul]
  first | refine zok_eq (by omega) (fun c21 => ?_) (fun c21 => ?_) | refine zok_if (fun c21 => ?_) (fun c21 => ?_)
  · refine zok_ck (by first | exact ⟨(q0).1, fun e => by cases e⟩ | exact (q0).1) ?_
    obtain ⟨t22, ht22⟩ : ∃ t', t' = tI t r0 (0) (oI (1)) := ⟨_, rfl⟩
    try simp only [zt0, zt1, zt2, zt3, zt4, zt5, zt6, zt7, zt8, zt9, zt10, zt11, zt12, zt13] at ht22
    rw [← ht22]
    have f22 : FrV sh r0 [0] t t22 := by rw [ht22]; exact GI_m q0 (G) (by omega) (fun e => by first | omega | cases e) (fun e => by first | omega | cases e)
    have d22_0 : tg t22 r0 0 = 1 := by rw [ht22]; refine (tg_at (by omega)).trans ?_; first | exact if_pos rfl | exact if_neg (by decide) | (simp only [zt0, zt1, zt2, zt3, zt4, zt5, zt6, zt7, zt8, zt9, zt10, zt11, zt12, zt13, true_and, if_true])
    try simp only [zt0, zt1, zt2, zt3, zt4, zt5, zt6, zt7, zt8, zt9, zt10, zt11, zt12, zt13] at d22_0
    have e22_2 : ∀ k, tg t22 (sr sh r0 2) k = tg t (sr sh r0 2) k := fun k => f22.eq q0 (i := 2) (by decide) (by decide) k
    have e22_3 : ∀ k, tg t22 (sr sh r0 3) k = tg t (sr sh r0 3) k := fun k => f22.eq q0 (i := 3) (by decide) (by decide) k
    have e22_4 : ∀ k, tg t22 (sr sh r0 4) k = tg t (sr sh r0 4) k := fun k => f22.eq q0 (i := 4) (by decide) (by decide) k
    have e22_10 : ∀ k, tg t22 (sr sh r0 10) k = tg t (sr sh r0 10) k := fun k => f22.eq q0 (i := 10) (by decide) (by decide) k
    have e22_11 : ∀ k, tg t22 (sr sh r0 11) k = tg t (sr sh r0 11) k := fun k => f22.eq q0 (i := 11) (by decide) (by decide) k
    refine zok_ck ((q0).1) ?_
    first | refine zok_le (by omega) (fun c23 => ?_) (fun c23 => ?_) | refine zok_if (fun c23 => ?_) (fun c23 => ?_)
    · try simp only [zput_s, zput_n, ti_g, oI_add, oI_sub, oI_mul]
      exact l192_39 q0 (by omega) (by omega) (by omega) G _ _ ((FrV.trans (Ns := [0, 1, 2, 3, 4, 9, 10, 11, 12, 13, 14]) (FrV.refl (Ls := []) G) f22 (by decide) (by decide))) (by first | omega | ((try simp only [zt0, zt1, zt2, zt3, zt4, zt5, zt6, zt7, zt8, zt9, zt10, zt11, zt12, zt13, e22_2, e22_3, e22_4, e22_10, e22_11, true_and, and_true]); omega)) (Nat.lt_succ_self _)
    · first | exact qI_rt (by omega) (by omega) ⟨(FrV.trans (Ns := [0, 1, 2, 3, 4, 9, 10, 11, 12, 13, 14]) (FrV.refl (Ls := []) G) f22 (by decide) (by decide)), by ((try have c0 := hq1 13 (by decide)); (try have c0 := hq1 13); (try have c1 := e22_2 13); (try simp only [zt0, zt1, zt2, zt3, zt4, zt5, zt6, zt7, zt8, zt9, zt10, zt11, zt12, zt13] at *) <;> omega)⟩ | exact qI_nf ⟨(FrV.trans (Ns := [0, 1, 2, 3, 4, 9, 10, 11, 12, 13, 14]) (FrV.refl (Ls := []) G) f22 (by decide) (by decide)), by ((try have c0 := hq1 13 (by decide)); (try have c0 := hq1 13); (try have c1 := e22_2 13); (try simp only [zt0, zt1, zt2, zt3, zt4, zt5, zt6, zt7, zt8, zt9, zt10, zt11, zt12, zt13] at *) <;> omega)⟩
  · refine zok_pI (s127 (by omega)) (fun y24 u24 p24 => ?_)
    try simp only [zt0, zt1, zt2, zt3, zt4, zt5, zt6, zt7, zt8, zt9, zt10, zt11, zt12, zt13] at p24
    have g25_1 := And.intro (tg_lo (tI t r0 0 (oI 1)) r0 0) (tg_hi (tI t r0 0 (oI 1)) r0 0)
    simp only [zput_s, zput_n, ti_g, oI_add, oI_sub, oI_mul, zt0, zt1, zt2, zt3, zt4, zt5, zt6, zt7, zt8, zt9, zt10, zt11, zt12, zt13, b192_12]
    try simp only [zput_s, zput_n, ti_g, oI_add, oI_sub, oI_mul]
    first | refine zok_eq (by omega) (fun c26 => ?_) (fun c26 => ?_) | refine zok_if (fun c26 => ?_) (fun c26 => ?_)
    · refine zok_ck (by first | exact ⟨(q0).1, fun e => by cases e⟩ | exact (q0).1) ?_
      obtain ⟨t27, ht27⟩ : ∃ t', t' = tI t r0 (0) (oI (1)) := ⟨_, rfl⟩
      try simp only [zt0, zt1, zt2, zt3, zt4, zt5, zt6, zt7, zt8, zt9, zt10, zt11, zt12, zt13] at ht27
      rw [← ht27]
      have f27 : FrV sh r0 [0] t t27 := by rw [ht27]; exact GI_m q0 (G) (by omega) (fun e => by first | omega | cases e) (fun e => by first | omega | cases e)
      have d27_0 : tg t27 r0 0 = 1 := by rw [ht27]; refine (tg_at (by omega)).trans ?_; first | exact if_pos rfl | exact if_neg (by decide) | (simp only [zt0, zt1, zt2, zt3, zt4, zt5, zt6, zt7, zt8, zt9, zt10, zt11, zt12, zt13, true_and, if_true])
      try simp only [zt0, zt1, zt2, zt3, zt4, zt5, zt6, zt7, zt8, zt9, zt10, zt11, zt12, zt13] at d27_0
      have e27_2 : ∀ k, tg t27 (sr sh r0 2) k = tg t (sr sh r0 2) k := fun k => f27.eq q0 (i := 2) (by decide) (by decide) k
      have e27_3 : ∀ k, tg t27 (sr sh r0 3) k = tg t (sr sh r0 3) k := fun k => f27.eq q0 (i := 3) (by decide) (by decide) k
      have e27_4 : ∀ k, tg t27 (sr sh r0 4) k = tg t (sr sh r0 4) k := fun k => f27.eq q0 (i := 4) (by decide) (by decide) k
      have e27_10 : ∀ k, tg t27 (sr sh r0 10) k = tg t (sr sh r0 10) k := fun k => f27.eq q0 (i := 10) (by decide) (by decide) k
      have e27_11 : ∀ k, tg t27 (sr sh r0 11) k = tg t (sr sh r0 11) k := fun k => f27.eq q0 (i := 11) (by decide) (by decide) k
      refine zok_ck ((q0).1) ?_
      first | refine zok_le (by omega) (fun c28 => ?_) (fun c28 => ?_) | refine zok_if (fun c28 => ?_) (fun c28 => ?_)
      · try simp only [zput_s, zput_n, ti_g, oI_add, oI_sub, oI_mul]
        exact l192_39 q0 (by omega) (by omega) (by omega) G _ _ ((FrV.trans (Ns := [0, 1, 2, 3, 4, 9, 10, 11, 12, 13, 14]) (FrV.refl (Ls := []) G) f27 (by decide) (by decide))) (by first | omega | ((try simp only [zt0, zt1, zt2, zt3, zt4, zt5, zt6, zt7, zt8, zt9, zt10, zt11, zt12, zt13, e27_2, e27_3, e27_4, e27_10, e27_11, true_and, and_true]); omega)) (Nat.lt_succ_self _)
      · first | exact qI_rt (by omega) (by omega) ⟨(FrV.trans (Ns := [0, 1, 2, 3, 4, 9, 10, 11, 12, 13, 14]) (FrV.refl (Ls := []) G) f27 (by decide) (by decide)), by ((try have c0 := hq1 13 (by decide)); (try have c0 := hq1 13); (try have c1 := e27_2 13); (try simp only [zt0, zt1, zt2, zt3, zt4, zt5, zt6, zt7, zt8, zt9, zt10, zt11, zt12, zt13] at *) <;> omega)⟩ | exact qI_nf ⟨(FrV.trans (Ns := [0, 1, 2, 3, 4, 9, 10, 11, 12, 13, 14]) (FrV.refl (Ls := []) G) f27 (by decide) (by decide)), by ((try have c0 := hq1 13 (by decide)); (try have c0 := hq1 13); (try have c1 := e27_2 13); (try simp only [zt0, zt1, zt2, zt3, zt4, zt5, zt6, zt7, zt8, zt9, zt10, zt11, zt12, zt13] at *) <;> omega)⟩
    · refine zok_pI (s127 (by omega)) (fun y29 u29 p29 => ?_)
      try simp only [zt0, zt1, zt2, zt3, zt4, zt5, zt6, zt7, zt8, zt9, zt10, zt11, zt12, zt13] at p29
      have g30_1 := And.intro (tg_lo (tI t r0 0 (oI 1)) r0 0) (tg_hi (tI t r0 0 (oI 1)) r0 0)
      have g30_2 := And.intro (tg_lo (tI t r0 0 (oI 0)) r0 0) (tg_hi (tI t r0 0 (oI 0)) r0 0)
      simp only [zput_s, zput_n, ti_g, oI_add, oI_sub, oI_mul, zt0, zt1, zt2, zt3, zt4, zt5, zt6, zt7, zt8, zt9, zt10, zt11, zt12, zt13, b192_19]
      try simp only [zput_s, zput_n, ti_g, oI_add, oI_sub, oI_mul]
      first | refine zok_eq (by omega) (fun c31 => ?_) (fun c31 => ?_) | refine zok_if (fun c31 => ?_) (fun c31 => ?_)
      · refine zok_ck (by first | exact ⟨(q0).1, fun e => by cases e⟩ | exact (q0).1) ?_
        obtain ⟨t32, ht32⟩ : ∃ t', t' = tI t r0 (0) (oI (1)) := ⟨_, rfl⟩
        try simp only [zt0, zt1, zt2, zt3, zt4, zt5, zt6, zt7, zt8, zt9, zt10, zt11, zt12, zt13] at ht32
        rw [← ht32]
        have f32 : FrV sh r0 [0] t t32 := by rw [ht32]; exact GI_m q0 (G) (by omega) (fun e => by first | omega | cases e) (fun e => by first | omega | cases e)
        have d32_0 : tg t32 r0 0 = 1 := by rw [ht32]; refine (tg_at (by omega)).trans ?_; first | exact if_pos rfl | exact if_neg (by decide) | (simp only [zt0, zt1, zt2, zt3, zt4, zt5, zt6, zt7, zt8, zt9, zt10, zt11, zt12, zt13, true_and, if_true])
        try simp only [zt0, zt1, zt2, zt3, zt4, zt5, zt6, zt7, zt8, zt9, zt10, zt11, zt12, zt13] at d32_0
        have e32_2 : ∀ k, tg t32 (sr sh r0 2) k = tg t (sr sh r0 2) k := fun k => f32.eq q0 (i := 2) (by decide) (by decide) k
        have e32_3 : ∀ k, tg t32 (sr sh r0 3) k = tg t (sr sh r0 3) k := fun k => f32.eq q0 (i := 3) (by decide) (by decide) k
        have e32_4 : ∀ k, tg t32 (sr sh r0 4) k = tg t (sr sh r0 4) k := fun k => f32.eq q0 (i := 4) (by decide) (by decide) k
        have e32_10 : ∀ k, tg t32 (sr sh r0 10) k = tg t (sr sh r0 10) k := fun k => f32.eq q0 (i := 10) (by decide) (by decide) k
        have e32_11 : ∀ k, tg t32 (sr sh r0 11) k = tg t (sr sh r0 11) k := fun k => f32.eq q0 (i := 11) (by decide) (by decide) k
        refine zok_ck ((q0).1) ?_
        first | refine zok_le (by omega) (fun c33 => ?_) (fun c33 => ?_) | refine zok_if (fun c33 => ?_) (fun c33 => ?_)
        · try simp only [zput_s, zput_n, ti_g, oI_add, oI_sub, oI_mul]
          exact l192_39 q0 (by omega) (by omega) (by omega) G _ _ ((FrV.trans (Ns := [0, 1, 2, 3, 4, 9, 10, 11, 12, 13, 14]) (FrV.refl (Ls := []) G) f32 (by decide) (by decide))) (by first | omega | ((try simp only [zt0, zt1, zt2, zt3, zt4, zt5, zt6, zt7, zt8, zt9, zt10, zt11, zt12, zt13, e32_2, e32_3, e32_4, e32_10, e32_11, true_and, and_true]); omega)) (Nat.lt_succ_self _)
        · first | exact qI_rt (by omega) (by omega) ⟨(FrV.trans (Ns := [0, 1, 2, 3, 4, 9, 10, 11, 12, 13, 14]) (FrV.refl (Ls := []) G) f32 (by decide) (by decide)), by ((try have c0 := hq1 13 (by decide)); (try have c0 := hq1 13); (try have c1 := e32_2 13); (try simp only [zt0, zt1, zt2, zt3, zt4, zt5, zt6, zt7, zt8, zt9, zt10, zt11, zt12, zt13] at *) <;> omega)⟩ | exact qI_nf ⟨(FrV.trans (Ns := [0, 1, 2, 3, 4, 9, 10, 11, 12, 13, 14]) (FrV.refl (Ls := []) G) f32 (by decide) (by decide)), by ((try have c0 := hq1 13 (by decide)); (try have c0 := hq1 13); (try have c1 := e32_2 13); (try simp only [zt0, zt1, zt2, zt3, zt4, zt5, zt6, zt7, zt8, zt9, zt10, zt11, zt12, zt13] at *) <;> omega)⟩
      · refine zok_ck (by first | exact ⟨(q0).1, fun e => by cases e⟩ | exact (q0).1) ?_
        obtain ⟨t34, ht34⟩ : ∃ t', t' = tI t r0 (0) (oI (0)) := ⟨_, rfl⟩
        try simp only [zt0, zt1, zt2, zt3, zt4, zt5, zt6, zt7, zt8, zt9, zt10, zt11, zt12, zt13] at ht34
        rw [← ht34]
        have f34 : FrV sh r0 [0] t t34 := by rw [ht34]; exact GI_m q0 (G) (by omega) (fun e => by first | omega | cases e) (fun e => by first | omega | cases e)
        have d34_0 : tg t34 r0 0 = 0 := by rw [ht34]; refine (tg_at (by omega)).trans ?_; first | exact if_pos rfl | exact if_neg (by decide) | (simp only [zt0, zt1, zt2, zt3, zt4, zt5, zt6, zt7, zt8, zt9, zt10, zt11, zt12, zt13, true_and, if_true])
        try simp only [zt0, zt1, zt2, zt3, zt4, zt5, zt6, zt7, zt8, zt9, zt10, zt11, zt12, zt13] at d34_0
        have e34_2 : ∀ k, tg t34 (sr sh r0 2) k = tg t (sr sh r0 2) k := fun k => f34.eq q0 (i := 2) (by decide) (by decide) k
        have e34_3 : ∀ k, tg t34 (sr sh r0 3) k = tg t (sr sh r0 3) k := fun k => f34.eq q0 (i := 3) (by decide) (by decide) k
        have e34_4 : ∀ k, tg t34 (sr sh r0 4) k = tg t (sr sh r0 4) k := fun k => f34.eq q0 (i := 4) (by decide) (by decide) k
        have e34_10 : ∀ k, tg t34 (sr sh r0 10) k = tg t (sr sh r0 10) k := fun k => f34.eq q0 (i := 10) (by decide) (by decide) k
        have e34_11 : ∀ k, tg t34 (sr sh r0 11) k = tg t (sr sh r0 11) k := fun k => f34.eq q0 (i := 11) (by decide) (by decide) k
        refine zok_ck ((q0).1) ?_
        first | refine zok_le (by omega) (fun c35 => ?_) (fun c35 => ?_) | refine zok_if (fun c35 => ?_) (fun c35 => ?_)
        · try simp only [zput_s, zput_n, ti_g, oI_add, oI_sub, oI_mul]
          exact l192_39 q0 (by omega) (by omega) (by omega) G _ _ ((FrV.trans (Ns := [0, 1, 2, 3, 4, 9, 10, 11, 12, 13, 14]) (FrV.refl (Ls := []) G) f34 (by decide) (by decide))) (by first | omega | ((try simp only [zt0, zt1, zt2, zt3, zt4, zt5, zt6, zt7, zt8, zt9, zt10, zt11, zt12, zt13, e34_2, e34_3, e34_4, e34_10, e34_11, true_and, and_true]); omega)) (Nat.lt_succ_self _)
        · first | exact qI_rt (by omega) (by omega) ⟨(FrV.trans (Ns := [0, 1, 2, 3, 4, 9, 10, 11, 12, 13, 14]) (FrV.refl (Ls := []) G) f34 (by decide) (by decide)), by ((try have c0 := hq1 13 (by decide)); (try have c0 := hq1 13); (try have c1 := e34_2 13); (try simp only [zt0, zt1, zt2, zt3, zt4, zt5, zt6, zt7, zt8, zt9, zt10, zt11, zt12, zt13] at *) <;> omega)⟩ | exact qI_nf ⟨(FrV.trans (Ns := [0, 1, 2, 3, 4, 9, 10, 11, 12, 13, 14]) (FrV.refl (Ls := []) G) f34 (by decide) (by decide)), by ((try have c0 := hq1 13 (by decide)); (try have c0 := hq1 13); (try have c1 := e34_2 13); (try simp only [zt0, zt1, zt2, zt3, zt4, zt5, zt6, zt7, zt8, zt9, zt10, zt11, zt12, zt13] at *) <;> omega)⟩
/-! X9_resolve -/
theorem l176_71 {sh : zSh} {t0 : zSt} {MB : Nat} {r0 : Nat} (q0 : zMd sh MB r0) {x1 : Int} (u1 : -2147483648 ≤ x1 ∧ x1 ≤ 2147483647) {x2 : Int} (u2 : -2147483648 ≤ x2 ∧ x2 ≤ 2147483647) {x3 : Int} (u3 : -2147483648 ≤ x3 ∧ x3 ≤ 2147483647) {x4 : Int} (u4 : -2147483648 ≤ x4 ∧ x4 ≤ 2147483647) (G : GI sh r0 t0) : ∀ (n : Nat)   (t1 : zSt), FrV sh r0 [0, 1, 2, 3, 4, 9, 10, 11, 12, 13, 14] t0 t1 → (0 ≤ x1 ∧ x1 ≤ 7 ∧ 0 ≤ x2 ∧ x2 ≤ 7 ∧ 0 ≤ x3 ∧ x3 ≤ 7) ∧ (tg t1 (sr sh r0 2) 13 = tg t0 (sr sh r0 2) 13) → ((0 : Int)).toNat < n → zok (zev zP 176 71 [some (zR r0), some (zI (oI x1)), some (zI (oI x2)), some (zI (oI x3)), some (zI (oI x4))] [] (sh, t1)) (qI (fun x t' => FrV sh r0 [0, 1, 2, 3, 4, 9, 10, 11, 12, 13, 14] t0 t' ∧ (tg t' (sr sh r0 2) 13 = tg t0 (sr sh r0 2) 13)) sh) := by
  intro n
  induction n with
  | zero => intro   t1 f0 _ hm; omega
  | succ n ih =>
    intro   t1 f0 hv hm
    have ha0_1 : (sk sh (sr sh r0 1)).2 = 21000 := by rw [q0.2.2.2.2.1]
    have ha0_2 : (sk sh (sr sh r0 2)).2 = 14 := by rw [q0.2.2.2.2.2.1]
    have ha0_3 : (sk sh (sr sh r0 3)).2 = 98 := by rw [q0.2.2.2.2.2.2.1]
    have ha0_4 : (sk sh (sr sh r0 4)).2 = 98 := by rw [q0.2.2.2.2.2.2.2.1]
    have ha0_8 : (sk sh (sr sh r0 8)).2 = 1500 := by rw [q0.2.2.2.2.2.2.2.2.1]
    have ha0_9 : (sk sh (sr sh r0 9)).2 = 10500 := by rw [q0.2.2.2.2.2.2.2.2.2.1]
    have ha0_10 : (sk sh (sr sh r0 10)).2 = 7 := by rw [q0.2.2.2.2.2.2.2.2.2.2.1]
    have ha0_11 : (sk sh (sr sh r0 11)).2 = 7 := by rw [q0.2.2.2.2.2.2.2.2.2.2.2.1]
    have ha0_12 : (sk sh (sr sh r0 12)).2 = 1500 := by rw [q0.2.2.2.2.2.2.2.2.2.2.2.2.1]
    have ha0_13 : (sk sh (sr sh r0 13)).2 = 1500 := by rw [q0.2.2.2.2.2.2.2.2.2.2.2.2.2.1]
    have ha0_14 : (sk sh (sr sh r0 14)).2 = 20 := by rw [q0.2.2.2.2.2.2.2.2.2.2.2.2.2.2]
    try simp only [zt0, zt1, zt2, zt3, zt4, zt5, zt6, zt7, zt8, zt9, zt10, zt11, zt12, zt13] at hv
    try simp only [zt0, zt1, zt2, zt3, zt4, zt5, zt6, zt7, zt8, zt9, zt10, zt11, zt12, zt13] at hm
    rw [b176_71]
    try simp only [zput_s, zput_n, ti_g, oI_add, oI_sub, oI_mul]
    refine zok_ck ((q0).1) ?_
    have gs2 := (f0.g).1 (x3).toNat
    try simp only [zt0, zt1, zt2, zt3, zt4, zt5, zt6, zt7, zt8, zt9, zt10, zt11, zt12, zt13] at gs2
    refine zok_c0 (s175 (q0) (by omega) (by omega) (by omega) (by omega) (by first | (omega) | ((try simp only [zt0, zt1, zt2, zt3, zt4, zt5, zt6, zt7, zt8, zt9, zt10, zt11, zt12, zt13]); omega)) (by first | (omega) | ((try simp only [zt0, zt1, zt2, zt3, zt4, zt5, zt6, zt7, zt8, zt9, zt10, zt11, zt12, zt13]); omega)) (by first | (omega) | ((try simp only [zt0, zt1, zt2, zt3, zt4, zt5, zt6, zt7, zt8, zt9, zt10, zt11, zt12, zt13]); omega)) (by first | (omega) | ((try simp only [zt0, zt1, zt2, zt3, zt4, zt5, zt6, zt7, zt8, zt9, zt10, zt11, zt12, zt13]); omega)) (f0.g)) (fun t2 p2 => ?_)
    obtain ⟨f2, p2⟩ := p2
    have d2_0 : tg t2 r0 0 = tg t1 r0 0 := f2.eq q0 (i := 0) (by decide) (by decide) 0
    try simp only [zt0, zt1, zt2, zt3, zt4, zt5, zt6, zt7, zt8, zt9, zt10, zt11, zt12, zt13] at p2
    have hL2_0 := p2 11 (by omega)
    try simp only [zt0, zt1, zt2, zt3, zt4, zt5, zt6, zt7, zt8, zt9, zt10, zt11, zt12, zt13] at hL2_0
    have hL2_1 := p2 13 (by omega)
    try simp only [zt0, zt1, zt2, zt3, zt4, zt5, zt6, zt7, zt8, zt9, zt10, zt11, zt12, zt13] at hL2_1
    simp only [zput_s, zput_n, ti_g, oI_add, oI_sub, oI_mul, zt0, zt1, zt2, zt3, zt4, zt5, zt6, zt7, zt8, zt9, zt10, zt11, zt12, zt13, b176_81]
    try simp only [zput_s, zput_n, ti_g, oI_add, oI_sub, oI_mul]
    refine zok_ck ((q0).1) ?_
    refine zok_cI (s159 (q0) (by omega) (by omega) (by omega) (by first | (omega) | ((try simp only [zt0, zt1, zt2, zt3, zt4, zt5, zt6, zt7, zt8, zt9, zt10, zt11, zt12, zt13]); omega)) (by first | (omega) | ((try simp only [zt0, zt1, zt2, zt3, zt4, zt5, zt6, zt7, zt8, zt9, zt10, zt11, zt12, zt13]); omega)) (by first | (omega) | ((try simp only [zt0, zt1, zt2, zt3, zt4, zt5, zt6, zt7, zt8, zt9, zt10, zt11, zt12, zt13]); omega)) (f2.g)) (fun y4 t4 u4 p4 => ?_)
    obtain ⟨f4, p4⟩ := p4
    have e4_3 : ∀ k, tg t4 (sr sh r0 3) k = tg t2 (sr sh r0 3) k := fun k => f4.eq q0 (i := 3) (by decide) (by decide) k
    have e4_4 : ∀ k, tg t4 (sr sh r0 4) k = tg t2 (sr sh r0 4) k := fun k => f4.eq q0 (i := 4) (by decide) (by decide) k
    have e4_10 : ∀ k, tg t4 (sr sh r0 10) k = tg t2 (sr sh r0 10) k := fun k => f4.eq q0 (i := 10) (by decide) (by decide) k
    have e4_11 : ∀ k, tg t4 (sr sh r0 11) k = tg t2 (sr sh r0 11) k := fun k => f4.eq q0 (i := 11) (by decide) (by decide) k
    try simp only [zt0, zt1, zt2, zt3, zt4, zt5, zt6, zt7, zt8, zt9, zt10, zt11, zt12, zt13, e4_3, e4_4, e4_10, e4_11] at p4
    simp only [zput_s, zput_n, ti_g, oI_add, oI_sub, oI_mul, zt0, zt1, zt2, zt3, zt4, zt5, zt6, zt7, zt8, zt9, zt10, zt11, zt12, zt13, e4_3, e4_4, e4_10, e4_11, b176_89]
    try simp only [zput_s, zput_n, ti_g, oI_add, oI_sub, oI_mul]
    first | exact qI_rt (by omega) (by omega) ⟨(FrV.trans (Ns := [0, 1, 2, 3, 4, 9, 10, 11, 12, 13, 14]) ((FrV.trans (Ns := [0, 1, 2, 3, 4, 9, 10, 11, 12, 13, 14]) (f0) f2 (by decide) (by decide))) f4 (by decide) (by decide)), by ((try have c0 := hq1 13 (by decide)); (try have c0 := hq1 13); (try have c1 := p2 13 (by omega)); (try simp only [zt0, zt1, zt2, zt3, zt4, zt5, zt6, zt7, zt8, zt9, zt10, zt11, zt12, zt13] at *) <;> omega)⟩ | exact qI_nf ⟨(FrV.trans (Ns := [0, 1, 2, 3, 4, 9, 10, 11, 12, 13, 14]) ((FrV.trans (Ns := [0, 1, 2, 3, 4, 9, 10, 11, 12, 13, 14]) (f0) f2 (by decide) (by decide))) f4 (by decide) (by decide)), by ((try have c0 := hq1 13 (by decide)); (try have c0 := hq1 13); (try have c1 := p2 13 (by omega)); (try simp only [zt0, zt1, zt2, zt3, zt4, zt5, zt6, zt7, zt8, zt9, zt10, zt11, zt12, zt13] at *) <;> omega)⟩
theorem l176_39 {sh : zSh} {t0 : zSt} {MB : Nat} {r0 : Nat} (q0 : zMd sh MB r0) {x1 : Int} (u1 : -2147483648 ≤ x1 ∧ x1 ≤ 2147483647) {x2 : Int} (u2 : -2147483648 ≤ x2 ∧ x2 ≤ 2147483647) {x3 : Int} (u3 : -2147483648 ≤ x3 ∧ x3 ≤ 2147483647) {x4 : Int} (u4 : -2147483648 ≤ x4 ∧ x4 ≤ 2147483647) (G : GI sh r0 t0) : ∀ (n : Nat)   (t1 : zSt), FrV sh r0 [0, 1, 2, 3, 4, 9, 10, 11, 12, 13, 14] t0 t1 → (0 ≤ x1 ∧ x1 ≤ 7 ∧ 0 ≤ x2 ∧ x2 ≤ 7 ∧ 0 ≤ x3 ∧ x3 ≤ 7) ∧ (tg t1 (sr sh r0 2) 13 = tg t0 (sr sh r0 2) 13) → ((0 : Int)).toNat < n → zok (zev zP 176 39 [some (zR r0), some (zI (oI x1)), some (zI (oI x2)), some (zI (oI x3)), some (zI (oI x4))] [] (sh, t1)) (qI (fun x t' => FrV sh r0 [0, 1, 2, 3, 4, 9, 10, 11, 12, 13, 14] t0 t' ∧ (tg t' (sr sh r0 2) 13 = tg t0 (sr sh r0 2) 13)) sh) := by
  intro n
  induction n with
  | zero => intro   t1 f0 _ hm; omega
  | succ n ih =>
    intro   t1 f0 hv hm
    have ha0_1 : (sk sh (sr sh r0 1)).2 = 21000 := by rw [q0.2.2.2.2.1]
    have ha0_2 : (sk sh (sr sh r0 2)).2 = 14 := by rw [q0.2.2.2.2.2.1]
    have ha0_3 : (sk sh (sr sh r0 3)).2 = 98 := by rw [q0.2.2.2.2.2.2.1]
    have ha0_4 : (sk sh (sr sh r0 4)).2 = 98 := by rw [q0.2.2.2.2.2.2.2.1]
    have ha0_8 : (sk sh (sr sh r0 8)).2 = 1500 := by rw [q0.2.2.2.2.2.2.2.2.1]
    have ha0_9 : (sk sh (sr sh r0 9)).2 = 10500 := by rw [q0.2.2.2.2.2.2.2.2.2.1]
    have ha0_10 : (sk sh (sr sh r0 10)).2 = 7 := by rw [q0.2.2.2.2.2.2.2.2.2.2.1]
    have ha0_11 : (sk sh (sr sh r0 11)).2 = 7 := by rw [q0.2.2.2.2.2.2.2.2.2.2.2.1]
    have ha0_12 : (sk sh (sr sh r0 12)).2 = 1500 := by rw [q0.2.2.2.2.2.2.2.2.2.2.2.2.1]
    have ha0_13 : (sk sh (sr sh r0 13)).2 = 1500 := by rw [q0.2.2.2.2.2.2.2.2.2.2.2.2.2.1]
    have ha0_14 : (sk sh (sr sh r0 14)).2 = 20 := by rw [q0.2.2.2.2.2.2.2.2.2.2.2.2.2.2]
    try simp only [zt0, zt1, zt2, zt3, zt4, zt5, zt6, zt7, zt8, zt9, zt10, zt11, zt12, zt13] at hv
    try simp only [zt0, zt1, zt2, zt3, zt4, zt5, zt6, zt7, zt8, zt9, zt10, zt11, zt12, zt13] at hm
    rw [b176_39]
    try simp only [zput_s, zput_n, ti_g, oI_add, oI_sub, oI_mul]
    refine zok_ck ((q0).1) ?_
    have gs2 := (f0.g).1 (x2).toNat
    try simp only [zt0, zt1, zt2, zt3, zt4, zt5, zt6, zt7, zt8, zt9, zt10, zt11, zt12, zt13] at gs2
    refine zok_c0 (s138 (q0) (by omega) (by first | (omega) | ((try simp only [zt0, zt1, zt2, zt3, zt4, zt5, zt6, zt7, zt8, zt9, zt10, zt11, zt12, zt13]); omega)) (by first | (omega) | ((try simp only [zt0, zt1, zt2, zt3, zt4, zt5, zt6, zt7, zt8, zt9, zt10, zt11, zt12, zt13]); omega)) (f0.g)) (fun t2 p2 => ?_)
    obtain ⟨f2, p2⟩ := p2
    have e2_2 : ∀ k, tg t2 (sr sh r0 2) k = tg t1 (sr sh r0 2) k := fun k => f2.eq q0 (i := 2) (by decide) (by decide) k
    have e2_10 : ∀ k, tg t2 (sr sh r0 10) k = tg t1 (sr sh r0 10) k := fun k => f2.eq q0 (i := 10) (by decide) (by decide) k
    have e2_11 : ∀ k, tg t2 (sr sh r0 11) k = tg t1 (sr sh r0 11) k := fun k => f2.eq q0 (i := 11) (by decide) (by decide) k
    have d2_0 : tg t2 r0 0 = tg t1 r0 0 := f2.eq q0 (i := 0) (by decide) (by decide) 0
    try simp only [zt0, zt1, zt2, zt3, zt4, zt5, zt6, zt7, zt8, zt9, zt10, zt11, zt12, zt13, e2_2, e2_10, e2_11] at p2
    simp only [zput_s, zput_n, ti_g, oI_add, oI_sub, oI_mul, zt0, zt1, zt2, zt3, zt4, zt5, zt6, zt7, zt8, zt9, zt10, zt11, zt12, zt13, e2_2, e2_10, e2_11, b176_44]
    try simp only [zput_s, zput_n, ti_g, oI_add, oI_sub, oI_mul]
    refine zok_ck ((q0).1) ?_
    refine zok_pI (s134 (q0) (by omega) (by omega) (by first | (omega) | ((try simp only [zt0, zt1, zt2, zt3, zt4, zt5, zt6, zt7, zt8, zt9, zt10, zt11, zt12, zt13, e2_2, e2_10, e2_11]); omega)) (by first | (omega) | ((try simp only [zt0, zt1, zt2, zt3, zt4, zt5, zt6, zt7, zt8, zt9, zt10, zt11, zt12, zt13, e2_2, e2_10, e2_11]); omega)) (f2.g)) (fun y4 u4 p4 => ?_)
    try simp only [zt0, zt1, zt2, zt3, zt4, zt5, zt6, zt7, zt8, zt9, zt10, zt11, zt12, zt13, e2_2, e2_10, e2_11] at p4
    have g5_1 := And.intro (tg_lo (tI t2 r0 0 (oI 2)) r0 0) (tg_hi (tI t2 r0 0 (oI 2)) r0 0)
    have g5_2 := And.intro (tg_lo (tI t2 r0 0 (oI 0)) r0 0) (tg_hi (tI t2 r0 0 (oI 0)) r0 0)
    simp only [zput_s, zput_n, ti_g, oI_add, oI_sub, oI_mul, zt0, zt1, zt2, zt3, zt4, zt5, zt6, zt7, zt8, zt9, zt10, zt11, zt12, zt13, e2_2, e2_10, e2_11, b176_51]
    try simp only [zput_s, zput_n, ti_g, oI_add, oI_sub, oI_mul]
    first | refine zok_eq (by omega) (fun c6 => ?_) (fun c6 => ?_) | refine zok_if (fun c6 => ?_) (fun c6 => ?_)
    · refine zok_ck (by first | exact ⟨(q0).1, fun e => by cases e⟩ | exact (q0).1) ?_
      obtain ⟨t7, ht7⟩ : ∃ t', t' = tI t2 r0 (0) (oI (2)) := ⟨_, rfl⟩
      try simp only [zt0, zt1, zt2, zt3, zt4, zt5, zt6, zt7, zt8, zt9, zt10, zt11, zt12, zt13, e2_2, e2_10, e2_11] at ht7
      rw [← ht7]
      have f7 : FrV sh r0 [0] t2 t7 := by rw [ht7]; exact GI_m q0 (f2.g) (by omega) (fun e => by first | omega | cases e) (fun e => by first | omega | cases e)
      have d7_0 : tg t7 r0 0 = 2 := by rw [ht7]; refine (tg_at (by omega)).trans ?_; first | exact if_pos rfl | exact if_neg (by decide) | (simp only [zt0, zt1, zt2, zt3, zt4, zt5, zt6, zt7, zt8, zt9, zt10, zt11, zt12, zt13, e2_2, e2_10, e2_11, true_and, if_true])
      try simp only [zt0, zt1, zt2, zt3, zt4, zt5, zt6, zt7, zt8, zt9, zt10, zt11, zt12, zt13, e2_2, e2_10, e2_11] at d7_0
      have e7_2 : ∀ k, tg t7 (sr sh r0 2) k = tg t2 (sr sh r0 2) k := fun k => f7.eq q0 (i := 2) (by decide) (by decide) k
      have e7_3 : ∀ k, tg t7 (sr sh r0 3) k = tg t2 (sr sh r0 3) k := fun k => f7.eq q0 (i := 3) (by decide) (by decide) k
      have e7_4 : ∀ k, tg t7 (sr sh r0 4) k = tg t2 (sr sh r0 4) k := fun k => f7.eq q0 (i := 4) (by decide) (by decide) k
      have e7_10 : ∀ k, tg t7 (sr sh r0 10) k = tg t2 (sr sh r0 10) k := fun k => f7.eq q0 (i := 10) (by decide) (by decide) k
      have e7_11 : ∀ k, tg t7 (sr sh r0 11) k = tg t2 (sr sh r0 11) k := fun k => f7.eq q0 (i := 11) (by decide) (by decide) k
      refine zok_ck ((q0).1) ?_
      first | refine zok_le (by omega) (fun c8 => ?_) (fun c8 => ?_) | refine zok_if (fun c8 => ?_) (fun c8 => ?_)
      · try simp only [zput_s, zput_n, ti_g, oI_add, oI_sub, oI_mul]
        exact l176_71 q0 (by omega) (by omega) (by omega) (by omega) G _ _ ((FrV.trans (Ns := [0, 1, 2, 3, 4, 9, 10, 11, 12, 13, 14]) ((FrV.trans (Ns := [0, 1, 2, 3, 4, 9, 10, 11, 12, 13, 14]) (f0) f2 (by decide) (by decide))) f7 (by decide) (by decide))) (by first | omega | ((try simp only [zt0, zt1, zt2, zt3, zt4, zt5, zt6, zt7, zt8, zt9, zt10, zt11, zt12, zt13, e2_2, e2_10, e2_11, e7_2, e7_3, e7_4, e7_10, e7_11, true_and, and_true]); omega)) (Nat.lt_succ_self _)
      · first | exact qI_rt (by omega) (by omega) ⟨(FrV.trans (Ns := [0, 1, 2, 3, 4, 9, 10, 11, 12, 13, 14]) ((FrV.trans (Ns := [0, 1, 2, 3, 4, 9, 10, 11, 12, 13, 14]) (f0) f2 (by decide) (by decide))) f7 (by decide) (by decide)), by ((try have c0 := hq1 13 (by decide)); (try have c0 := hq1 13); (try have c1 := e2_2 13); (try have c4 := e7_2 13); (try simp only [zt0, zt1, zt2, zt3, zt4, zt5, zt6, zt7, zt8, zt9, zt10, zt11, zt12, zt13] at *) <;> omega)⟩ | exact qI_nf ⟨(FrV.trans (Ns := [0, 1, 2, 3, 4, 9, 10, 11, 12, 13, 14]) ((FrV.trans (Ns := [0, 1, 2, 3, 4, 9, 10, 11, 12, 13, 14]) (f0) f2 (by decide) (by decide))) f7 (by decide) (by decide)), by ((try have c0 := hq1 13 (by decide)); (try have c0 := hq1 13); (try have c1 := e2_2 13); (try have c4 := e7_2 13); (try simp only [zt0, zt1, zt2, zt3, zt4, zt5, zt6, zt7, zt8, zt9, zt10, zt11, zt12, zt13] at *) <;> omega)⟩
    · refine zok_ck (by first | exact ⟨(q0).1, fun e => by cases e⟩ | exact (q0).1) ?_
      obtain ⟨t9, ht9⟩ : ∃ t', t' = tI t2 r0 (0) (oI (0)) := ⟨_, rfl⟩
      try simp only [zt0, zt1, zt2, zt3, zt4, zt5, zt6, zt7, zt8, zt9, zt10, zt11, zt12, zt13, e2_2, e2_10, e2_11] at ht9
      rw [← ht9]
      have f9 : FrV sh r0 [0] t2 t9 := by rw [ht9]; exact GI_m q0 (f2.g) (by omega) (fun e => by first | omega | cases e) (fun e => by first | omega | cases e)
      have d9_0 : tg t9 r0 0 = 0 := by rw [ht9]; refine (tg_at (by omega)).trans ?_; first | exact if_pos rfl | exact if_neg (by decide) | (simp only [zt0, zt1, zt2, zt3, zt4, zt5, zt6, zt7, zt8, zt9, zt10, zt11, zt12, zt13, e2_2, e2_10, e2_11, true_and, if_true])
      try simp only [zt0, zt1, zt2, zt3, zt4, zt5, zt6, zt7, zt8, zt9, zt10, zt11, zt12, zt13, e2_2, e2_10, e2_11] at d9_0
      have e9_2 : ∀ k, tg t9 (sr sh r0 2) k = tg t2 (sr sh r0 2) k := fun k => f9.eq q0 (i := 2) (by decide) (by decide) k
      have e9_3 : ∀ k, tg t9 (sr sh r0 3) k = tg t2 (sr sh r0 3) k := fun k => f9.eq q0 (i := 3) (by decide) (by decide) k
      have e9_4 : ∀ k, tg t9 (sr sh r0 4) k = tg t2 (sr sh r0 4) k := fun k => f9.eq q0 (i := 4) (by decide) (by decide) k
      have e9_10 : ∀ k, tg t9 (sr sh r0 10) k = tg t2 (sr sh r0 10) k := fun k => f9.eq q0 (i := 10) (by decide) (by decide) k
      have e9_11 : ∀ k, tg t9 (sr sh r0 11) k = tg t2 (sr sh r0 11) k := fun k => f9.eq q0 (i := 11) (by decide) (by decide) k
      refine zok_ck ((q0).1) ?_
      first | refine zok_le (by omega) (fun c10 => ?_) (fun c10 => ?_) | refine zok_if (fun c10 => ?_) (fun c10 => ?_)
      · try simp only [zput_s, zput_n, ti_g, oI_add, oI_sub, oI_mul]
        exact l176_71 q0 (by omega) (by omega) (by omega) (by omega) G _ _ ((FrV.trans (Ns := [0, 1, 2, 3, 4, 9, 10, 11, 12, 13, 14]) ((FrV.trans (Ns := [0, 1, 2, 3, 4, 9, 10, 11, 12, 13, 14]) (f0) f2 (by decide) (by decide))) f9 (by decide) (by decide))) (by first | omega | ((try simp only [zt0, zt1, zt2, zt3, zt4, zt5, zt6, zt7, zt8, zt9, zt10, zt11, zt12, zt13, e2_2, e2_10, e2_11, e9_2, e9_3, e9_4, e9_10, e9_11, true_and, and_true]); omega)) (Nat.lt_succ_self _)
      · first | exact qI_rt (by omega) (by omega) ⟨(FrV.trans (Ns := [0, 1, 2, 3, 4, 9, 10, 11, 12, 13, 14]) ((FrV.trans (Ns := [0, 1, 2, 3, 4, 9, 10, 11, 12, 13, 14]) (f0) f2 (by decide) (by decide))) f9 (by decide) (by decide)), by ((try have c0 := hq1 13 (by decide)); (try have c0 := hq1 13); (try have c1 := e2_2 13); (try have c4 := e9_2 13); (try simp only [zt0, zt1, zt2, zt3, zt4, zt5, zt6, zt7, zt8, zt9, zt10, zt11, zt12, zt13] at *) <;> omega)⟩ | exact qI_nf ⟨(FrV.trans (Ns := [0, 1, 2, 3, 4, 9, 10, 11, 12, 13, 14]) ((FrV.trans (Ns := [0, 1, 2, 3, 4, 9, 10, 11, 12, 13, 14]) (f0) f2 (by decide) (by decide))) f9 (by decide) (by decide)), by ((try have c0 := hq1 13 (by decide)); (try have c0 := hq1 13); (try have c1 := e2_2 13); (try have c4 := e9_2 13); (try simp only [zt0, zt1, zt2, zt3, zt4, zt5, zt6, zt7, zt8, zt9, zt10, zt11, zt12, zt13] at *) <;> omega)⟩
theorem s176 {sh : zSh} {t : zSt} {MB : Nat} {r0 : Nat} (q0 : zMd sh MB r0) {x1 : Int} (u1 : -2147483648 ≤ x1 ∧ x1 ≤ 2147483647) {x2 : Int} (u2 : -2147483648 ≤ x2 ∧ x2 ≤ 2147483647) {x3 : Int} (u3 : -2147483648 ≤ x3 ∧ x3 ≤ 2147483647) {x4 : Int} (u4 : -2147483648 ≤ x4 ∧ x4 ≤ 2147483647) (G : GI sh r0 t) : zok (zcl zP 176 [zR r0, zI (oI x1), zI (oI x2), zI (oI x3), zI (oI x4)] (sh, t)) (qI (fun x t' => FrV sh r0 [0, 1, 2, 3, 4, 9, 10, 11, 12, 13, 14] t t' ∧ (tg t' (sr sh r0 2) 13 = tg t (sr sh r0 2) 13)) sh) := by
  have ha0_1 : (sk sh (sr sh r0 1)).2 = 21000 := by rw [q0.2.2.2.2.1]
  have ha0_2 : (sk sh (sr sh r0 2)).2 = 14 := by rw [q0.2.2.2.2.2.1]
  have ha0_3 : (sk sh (sr sh r0 3)).2 = 98 := by rw [q0.2.2.2.2.2.2.1]
  have ha0_4 : (sk sh (sr sh r0 4)).2 = 98 := by rw [q0.2.2.2.2.2.2.2.1]
  have ha0_8 : (sk sh (sr sh r0 8)).2 = 1500 := by rw [q0.2.2.2.2.2.2.2.2.1]
  have ha0_9 : (sk sh (sr sh r0 9)).2 = 10500 := by rw [q0.2.2.2.2.2.2.2.2.2.1]
  have ha0_10 : (sk sh (sr sh r0 10)).2 = 7 := by rw [q0.2.2.2.2.2.2.2.2.2.2.1]
  have ha0_11 : (sk sh (sr sh r0 11)).2 = 7 := by rw [q0.2.2.2.2.2.2.2.2.2.2.2.1]
  have ha0_12 : (sk sh (sr sh r0 12)).2 = 1500 := by rw [q0.2.2.2.2.2.2.2.2.2.2.2.2.1]
  have ha0_13 : (sk sh (sr sh r0 13)).2 = 1500 := by rw [q0.2.2.2.2.2.2.2.2.2.2.2.2.2.1]
  have ha0_14 : (sk sh (sr sh r0 14)).2 = 20 := by rw [q0.2.2.2.2.2.2.2.2.2.2.2.2.2.2]
  rw [b176_0]
  try simp only [zput_s, zput_n, ti_g, oI_add, oI_sub, oI_mul]
  refine zok_pI (s127 (by omega)) (fun y12 u12 p12 => ?_)
  try simp only [zt0, zt1, zt2, zt3, zt4, zt5, zt6, zt7, zt8, zt9, zt10, zt11, zt12, zt13] at p12
  have g13_1 := And.intro (tg_lo (tI t r0 0 (oI 1)) r0 0) (tg_hi (tI t r0 0 (oI 1)) r0 0)
  simp only [zput_s, zput_n, ti_g, oI_add, oI_sub, oI_mul, zt0, zt1, zt2, zt3, zt4, zt5, zt6, zt7, zt8, zt9, zt10, zt11, zt12, zt13, b176_5]
  try simp only [zput_s, zput_n, ti_g, oI_add, oI_sub, oI_mul]
  first | refine zok_eq (by omega) (fun c14 => ?_) (fun c14 => ?_) | refine zok_if (fun c14 => ?_) (fun c14 => ?_)
  · refine zok_ck (by first | exact ⟨(q0).1, fun e => by cases e⟩ | exact (q0).1) ?_
    obtain ⟨t15, ht15⟩ : ∃ t', t' = tI t r0 (0) (oI (1)) := ⟨_, rfl⟩
    try simp only [zt0, zt1, zt2, zt3, zt4, zt5, zt6, zt7, zt8, zt9, zt10, zt11, zt12, zt13] at ht15
    rw [← ht15]
    have f15 : FrV sh r0 [0] t t15 := by rw [ht15]; exact GI_m q0 (G) (by omega) (fun e => by first | omega | cases e) (fun e => by first | omega | cases e)
    have d15_0 : tg t15 r0 0 = 1 := by rw [ht15]; refine (tg_at (by omega)).trans ?_; first | exact if_pos rfl | exact if_neg (by decide) | (simp only [zt0, zt1, zt2, zt3, zt4, zt5, zt6, zt7, zt8, zt9, zt10, zt11, zt12, zt13, true_and, if_true])
    try simp only [zt0, zt1, zt2, zt3, zt4, zt5, zt6, zt7, zt8, zt9, zt10, zt11, zt12, zt13] at d15_0
    have e15_2 : ∀ k, tg t15 (sr sh r0 2) k = tg t (sr sh r0 2) k := fun k => f15.eq q0 (i := 2) (by decide) (by decide) k
    have e15_3 : ∀ k, tg t15 (sr sh r0 3) k = tg t (sr sh r0 3) k := fun k => f15.eq q0 (i := 3) (by decide) (by decide) k
    have e15_4 : ∀ k, tg t15 (sr sh r0 4) k = tg t (sr sh r0 4) k := fun k => f15.eq q0 (i := 4) (by decide) (by decide) k
    have e15_10 : ∀ k, tg t15 (sr sh r0 10) k = tg t (sr sh r0 10) k := fun k => f15.eq q0 (i := 10) (by decide) (by decide) k
    have e15_11 : ∀ k, tg t15 (sr sh r0 11) k = tg t (sr sh r0 11) k := fun k => f15.eq q0 (i := 11) (by decide) (by decide) k
    refine zok_ck ((q0).1) ?_
    first | refine zok_le (by omega) (fun c16 => ?_) (fun c16 => ?_) | refine zok_if (fun c16 => ?_) (fun c16 => ?_)
    · try simp only [zput_s, zput_n, ti_g, oI_add, oI_sub, oI_mul]
      exact l176_39 q0 (by omega) (by omega) (by omega) (by omega) G _ _ ((FrV.trans (Ns := [0, 1, 2, 3, 4, 9, 10, 11, 12, 13, 14]) (FrV.refl (Ls := []) G) f15 (by decide) (by decide))) (by first | omega | ((try simp only [zt0, zt1, zt2, zt3, zt4, zt5, zt6, zt7, zt8, zt9, zt10, zt11, zt12, zt13, e15_2, e15_3, e15_4, e15_10, e15_11, true_and, and_true]); omega)) (Nat.lt_succ_self _)
    · first | exact qI_rt (by omega) (by omega) ⟨(FrV.trans (Ns := [0, 1, 2, 3, 4, 9, 10, 11, 12, 13, 14]) (FrV.refl (Ls := []) G) f15 (by decide) (by decide)), by ((try have c0 := hq1 13 (by decide)); (try have c0 := hq1 13); (try have c1 := e15_2 13); (try simp only [zt0, zt1, zt2, zt3, zt4, zt5, zt6, zt7, zt8, zt9, zt10, zt11, zt12, zt13] at *) <;> omega)⟩ | exact qI_nf ⟨(FrV.trans (Ns := [0, 1, 2, 3, 4, 9, 10, 11, 12, 13, 14]) (FrV.refl (Ls := []) G) f15 (by decide) (by decide)), by ((try have c0 := hq1 13 (by decide)); (try have c0 := hq1 13); (try have c1 := e15_2 13); (try simp only [zt0, zt1, zt2, zt3, zt4, zt5, zt6, zt7, zt8, zt9, zt10, zt11, zt12, zt13] at *) <;> omega)⟩
  · refine zok_pI (s127 (by omega)) (fun y17 u17 p17 => ?_)
    try simp only [zt0, zt1, zt2, zt3, zt4, zt5, zt6, zt7, zt8, zt9, zt10, zt11, zt12, zt13] at p17
    have g18_1 := And.intro (tg_lo (tI t r0 0 (oI 1)) r0 0) (tg_hi (tI t r0 0 (oI 1)) r0 0)
    simp only [zput_s, zput_n, ti_g, oI_add, oI_sub, oI_mul, zt0, zt1, zt2, zt3, zt4, zt5, zt6, zt7, zt8, zt9, zt10, zt11, zt12, zt13, b176_12]
    try simp only [zput_s, zput_n, ti_g, oI_add, oI_sub, oI_mul]
    first | refine zok_eq (by omega) (fun c19 => ?_) (fun c19 => ?_) | refine zok_if (fun c19 => ?_) (fun c19 => ?_)
    · refine zok_ck (by first | exact ⟨(q0).1, fun e => by cases e⟩ | exact (q0).1) ?_
      obtain ⟨t20, ht20⟩ : ∃ t', t' = tI t r0 (0) (oI (1)) := ⟨_, rfl⟩
      try simp only [zt0, zt1, zt2, zt3, zt4, zt5, zt6, zt7, zt8, zt9, zt10, zt11, zt12, zt13] at ht20
      rw [← ht20]
      have f20 : FrV sh r0 [0] t t20 := by rw [ht20]; exact GI_m q0 (G) (by omega) (fun e => by first | omega | cases e) (fun e => by first | omega | cases e)
      have d20_0 : tg t20 r0 0 = 1 := by rw [ht20]; refine (tg_at (by omega)).trans ?_; first | exact if_pos rfl | exact if_neg (by decide) | (simp only [zt0, zt1, zt2, zt3, zt4, zt5, zt6, zt7, zt8, zt9, zt10, zt11, zt12, zt13, true_and, if_true])
      try simp only [zt0, zt1, zt2, zt3, zt4, zt5, zt6, zt7, zt8, zt9, zt10, zt11, zt12, zt13] at d20_0
      have e20_2 : ∀ k, tg t20 (sr sh r0 2) k = tg t (sr sh r0 2) k := fun k => f20.eq q0 (i := 2) (by decide) (by decide) k
      have e20_3 : ∀ k, tg t20 (sr sh r0 3) k = tg t (sr sh r0 3) k := fun k => f20.eq q0 (i := 3) (by decide) (by decide) k
      have e20_4 : ∀ k, tg t20 (sr sh r0 4) k = tg t (sr sh r0 4) k := fun k => f20.eq q0 (i := 4) (by decide) (by decide) k
      have e20_10 : ∀ k, tg t20 (sr sh r0 10) k = tg t (sr sh r0 10) k := fun k => f20.eq q0 (i := 10) (by decide) (by decide) k
      have e20_11 : ∀ k, tg t20 (sr sh r0 11) k = tg t (sr sh r0 11) k := fun k => f20.eq q0 (i := 11) (by decide) (by decide) k
      refine zok_ck ((q0).1) ?_
      first | refine zok_le (by omega) (fun c21 => ?_) (fun c21 => ?_) | refine zok_if (fun c21 => ?_) (fun c21 => ?_)
      · try simp only [zput_s, zput_n, ti_g, oI_add, oI_sub, oI_mul]
        exact l176_39 q0 (by omega) (by omega) (by omega) (by omega) G _ _ ((FrV.trans (Ns := [0, 1, 2, 3, 4, 9, 10, 11, 12, 13, 14]) (FrV.refl (Ls := []) G) f20 (by decide) (by decide))) (by first | omega | ((try simp only [zt0, zt1, zt2, zt3, zt4, zt5, zt6, zt7, zt8, zt9, zt10, zt11, zt12, zt13, e20_2, e20_3, e20_4, e20_10, e20_11, true_and, and_true]); omega)) (Nat.lt_succ_self _)
      · first | exact qI_rt (by omega) (by omega) ⟨(FrV.trans (Ns := [0, 1, 2, 3, 4, 9, 10, 11, 12, 13, 14]) (FrV.refl (Ls := []) G) f20 (by decide) (by decide)), by ((try have c0 := hq1 13 (by decide)); (try have c0 := hq1 13); (try have c1 := e20_2 13); (try simp only [zt0, zt1, zt2, zt3, zt4, zt5, zt6, zt7, zt8, zt9, zt10, zt11, zt12, zt13] at *) <;> omega)⟩ | exact qI_nf ⟨(FrV.trans (Ns := [0, 1, 2, 3, 4, 9, 10, 11, 12, 13, 14]) (FrV.refl (Ls := []) G) f20 (by decide) (by decide)), by ((try have c0 := hq1 13 (by decide)); (try have c0 := hq1 13); (try have c1 := e20_2 13); (try simp only [zt0, zt1, zt2, zt3, zt4, zt5, zt6, zt7, zt8, zt9, zt10, zt11, zt12, zt13] at *) <;> omega)⟩
    · refine zok_pI (s127 (by omega)) (fun y22 u22 p22 => ?_)
      try simp only [zt0, zt1, zt2, zt3, zt4, zt5, zt6, zt7, zt8, zt9, zt10, zt11, zt12, zt13] at p22
      have g23_1 := And.intro (tg_lo (tI t r0 0 (oI 1)) r0 0) (tg_hi (tI t r0 0 (oI 1)) r0 0)
      have g23_2 := And.intro (tg_lo (tI t r0 0 (oI 0)) r0 0) (tg_hi (tI t r0 0 (oI 0)) r0 0)
      simp only [zput_s, zput_n, ti_g, oI_add, oI_sub, oI_mul, zt0, zt1, zt2, zt3, zt4, zt5, zt6, zt7, zt8, zt9, zt10, zt11, zt12, zt13, b176_19]
      try simp only [zput_s, zput_n, ti_g, oI_add, oI_sub, oI_mul]
      first | refine zok_eq (by omega) (fun c24 => ?_) (fun c24 => ?_) | refine zok_if (fun c24 => ?_) (fun c24 => ?_)
      · refine zok_ck (by first | exact ⟨(q0).1, fun e => by cases e⟩ | exact (q0).1) ?_
        obtain ⟨t25, ht25⟩ : ∃ t', t' = tI t r0 (0) (oI (1)) := ⟨_, rfl⟩
        try simp only [zt0, zt1, zt2, zt3, zt4, zt5, zt6, zt7, zt8, zt9, zt10, zt11, zt12, zt13] at ht25
        rw [← ht25]
        have f25 : FrV sh r0 [0] t t25 := by rw [ht25]; exact GI_m q0 (G) (by omega) (fun e => by first | omega | cases e) (fun e => by first | omega | cases e)
        have d25_0 : tg t25 r0 0 = 1 := by rw [ht25]; refine (tg_at (by omega)).trans ?_; first | exact if_pos rfl | exact if_neg (by decide) | (simp only [zt0, zt1, zt2, zt3, zt4, zt5, zt6, zt7, zt8, zt9, zt10, zt11, zt12, zt13, true_and, if_true])
        try simp only [zt0, zt1, zt2, zt3, zt4, zt5, zt6, zt7, zt8, zt9, zt10, zt11, zt12, zt13] at d25_0
        have e25_2 : ∀ k, tg t25 (sr sh r0 2) k = tg t (sr sh r0 2) k := fun k => f25.eq q0 (i := 2) (by decide) (by decide) k
        have e25_3 : ∀ k, tg t25 (sr sh r0 3) k = tg t (sr sh r0 3) k := fun k => f25.eq q0 (i := 3) (by decide) (by decide) k
        have e25_4 : ∀ k, tg t25 (sr sh r0 4) k = tg t (sr sh r0 4) k := fun k => f25.eq q0 (i := 4) (by decide) (by decide) k
        have e25_10 : ∀ k, tg t25 (sr sh r0 10) k = tg t (sr sh r0 10) k := fun k => f25.eq q0 (i := 10) (by decide) (by decide) k
        have e25_11 : ∀ k, tg t25 (sr sh r0 11) k = tg t (sr sh r0 11) k := fun k => f25.eq q0 (i := 11) (by decide) (by decide) k
        refine zok_ck ((q0).1) ?_
        first | refine zok_le (by omega) (fun c26 => ?_) (fun c26 => ?_) | refine zok_if (fun c26 => ?_) (fun c26 => ?_)
        · try simp only [zput_s, zput_n, ti_g, oI_add, oI_sub, oI_mul]
          exact l176_39 q0 (by omega) (by omega) (by omega) (by omega) G _ _ ((FrV.trans (Ns := [0, 1, 2, 3, 4, 9, 10, 11, 12, 13, 14]) (FrV.refl (Ls := []) G) f25 (by decide) (by decide))) (by first | omega | ((try simp only [zt0, zt1, zt2, zt3, zt4, zt5, zt6, zt7, zt8, zt9, zt10, zt11, zt12, zt13, e25_2, e25_3, e25_4, e25_10, e25_11, true_and, and_true]); omega)) (Nat.lt_succ_self _)
        · first | exact qI_rt (by omega) (by omega) ⟨(FrV.trans (Ns := [0, 1, 2, 3, 4, 9, 10, 11, 12, 13, 14]) (FrV.refl (Ls := []) G) f25 (by decide) (by decide)), by ((try have c0 := hq1 13 (by decide)); (try have c0 := hq1 13); (try have c1 := e25_2 13); (try simp only [zt0, zt1, zt2, zt3, zt4, zt5, zt6, zt7, zt8, zt9, zt10, zt11, zt12, zt13] at *) <;> omega)⟩ | exact qI_nf ⟨(FrV.trans (Ns := [0, 1, 2, 3, 4, 9, 10, 11, 12, 13, 14]) (FrV.refl (Ls := []) G) f25 (by decide) (by decide)), by ((try have c0 := hq1 13 (by decide)); (try have c0 := hq1 13); (try have c1 := e25_2 13); (try simp only [zt0, zt1, zt2, zt3, zt4, zt5, zt6, zt7, zt8, zt9, zt10, zt11, zt12, zt13] at *) <;> omega)⟩
      · refine zok_ck (by first | exact ⟨(q0).1, fun e => by cases e⟩ | exact (q0).1) ?_
        obtain ⟨t27, ht27⟩ : ∃ t', t' = tI t r0 (0) (oI (0)) := ⟨_, rfl⟩
        try simp only [zt0, zt1, zt2, zt3, zt4, zt5, zt6, zt7, zt8, zt9, zt10, zt11, zt12, zt13] at ht27
        rw [← ht27]
        have f27 : FrV sh r0 [0] t t27 := by rw [ht27]; exact GI_m q0 (G) (by omega) (fun e => by first | omega | cases e) (fun e => by first | omega | cases e)
        have d27_0 : tg t27 r0 0 = 0 := by rw [ht27]; refine (tg_at (by omega)).trans ?_; first | exact if_pos rfl | exact if_neg (by decide) | (simp only [zt0, zt1, zt2, zt3, zt4, zt5, zt6, zt7, zt8, zt9, zt10, zt11, zt12, zt13, true_and, if_true])
        try simp only [zt0, zt1, zt2, zt3, zt4, zt5, zt6, zt7, zt8, zt9, zt10, zt11, zt12, zt13] at d27_0
        have e27_2 : ∀ k, tg t27 (sr sh r0 2) k = tg t (sr sh r0 2) k := fun k => f27.eq q0 (i := 2) (by decide) (by decide) k
        have e27_3 : ∀ k, tg t27 (sr sh r0 3) k = tg t (sr sh r0 3) k := fun k => f27.eq q0 (i := 3) (by decide) (by decide) k
        have e27_4 : ∀ k, tg t27 (sr sh r0 4) k = tg t (sr sh r0 4) k := fun k => f27.eq q0 (i := 4) (by decide) (by decide) k
        have e27_10 : ∀ k, tg t27 (sr sh r0 10) k = tg t (sr sh r0 10) k := fun k => f27.eq q0 (i := 10) (by decide) (by decide) k
        have e27_11 : ∀ k, tg t27 (sr sh r0 11) k = tg t (sr sh r0 11) k := fun k => f27.eq q0 (i := 11) (by decide) (by decide) k
        refine zok_ck ((q0).1) ?_
        first | refine zok_le (by omega) (fun c28 => ?_) (fun c28 => ?_) | refine zok_if (fun c28 => ?_) (fun c28 => ?_)
        · try simp only [zput_s, zput_n, ti_g, oI_add, oI_sub, oI_mul]
          exact l176_39 q0 (by omega) (by omega) (by omega) (by omega) G _ _ ((FrV.trans (Ns := [0, 1, 2, 3, 4, 9, 10, 11, 12, 13, 14]) (FrV.refl (Ls := []) G) f27 (by decide) (by decide))) (by first | omega | ((try simp only [zt0, zt1, zt2, zt3, zt4, zt5, zt6, zt7, zt8, zt9, zt10, zt11, zt12, zt13, e27_2, e27_3, e27_4, e27_10, e27_11, true_and, and_true]); omega)) (Nat.lt_succ_self _)
        · first | exact qI_rt (by omega) (by omega) ⟨(FrV.trans (Ns := [0, 1, 2, 3, 4, 9, 10, 11, 12, 13, 14]) (FrV.refl (Ls := []) G) f27 (by decide) (by decide)), by ((try have c0 := hq1 13 (by decide)); (try have c0 := hq1 13); (try have c1 := e27_2 13); (try simp only [zt0, zt1, zt2, zt3, zt4, zt5, zt6, zt7, zt8, zt9, zt10, zt11, zt12, zt13] at *) <;> omega)⟩ | exact qI_nf ⟨(FrV.trans (Ns := [0, 1, 2, 3, 4, 9, 10, 11, 12, 13, 14]) (FrV.refl (Ls := []) G) f27 (by decide) (by decide)), by ((try have c0 := hq1 13 (by decide)); (try have c0 := hq1 13); (try have c1 := e27_2 13); (try simp only [zt0, zt1, zt2, zt3, zt4, zt5, zt6, zt7, zt8, zt9, zt10, zt11, zt12, zt13] at *) <;> omega)⟩
