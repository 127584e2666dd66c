set_option maxRecDepth 16384
/-! X9_descend -/
theorem l201_112 {sh : zSh} {t0 : zSt} {MB : Nat} {r0 : Nat} (q0 : zMd sh MB r0) {x1 : Int} (u1 : -2147483648 ≤ x1 ∧ x1 ≤ 2147483647) (G : GI sh r0 t0) : ∀ (n : Nat) (x2 : Int) (x3 : Int) (x4 : Int) (o5 : Option zV) (wo5 : zisL o5 = false) (t1 : zSt), FrV sh r0 [0, 1, 2, 3, 4, 9, 10, 11] t0 t1 → (-2147483648 ≤ x2 ∧ x2 ≤ 2147483647) ∧ (-2147483648 ≤ x3 ∧ x3 ≤ 2147483647) ∧ (-2147483648 ≤ x4 ∧ x4 ≤ 2147483647) ∧ (0 ≤ x1 ∧ x1 ≤ 7 ∧ 0 ≤ x2 ∧ x2 ≤ 400 ∧ 0 ≤ x4) ∧ (tg t1 (sr sh r0 2) 13 = 0) ∧ (tg t1 (sr sh r0 10) 4 ≤ 402 + 3 * x4 ∧ (x4 ≤ x2 ∨ x4 = 0)) ∧ (tg t1 (sr sh r0 10) 0 ≤ 401) ∧ (tg t1 (sr sh r0 10) 1 ≤ 401) ∧ (tg t1 (sr sh r0 10) 2 ≤ 401) ∧ (tg t1 (sr sh r0 10) 3 ≤ 401) ∧ (tg t1 (sr sh r0 10) 5 ≤ 401) ∧ (tg t1 (sr sh r0 10) 6 ≤ 401) → (x2 - x4).toNat < n → zok (zev zP 201 112 [some (zR r0), some (zI (oI x1)), some (zI (oI x2)), some (zI (oI x3)), some (zI (oI x4)), o5] [] (sh, t1)) (qI (fun x t' => FrV sh r0 [0, 1, 2, 3, 4, 9, 10, 11] t0 t' ∧ (tg t' (sr sh r0 2) 13 = 0)) sh) := by
  intro n
  induction n with
  | zero => intro x2 x3 x4 o5 wo5 t1 f0 _ hm; omega
  | succ n ih =>
    intro x2 x3 x4 o5 wo5 t1 f0 hv hm
    have ha0_1 : (sk sh (sr sh r0 1)).2 = 21000 := by rw [q0.2.2.2.2.1]
    have ha0_2 : (sk sh (sr sh r0 2)).2 = 14 := by rw [q0.2.2.2.2.2.1]
    have ha0_3 : (sk sh (sr sh r0 3)).2 = 98 := by rw [q0.2.2.2.2.2.2.1]
    have ha0_4 : (sk sh (sr sh r0 4)).2 = 98 := by rw [q0.2.2.2.2.2.2.2.1]
    have ha0_8 : (sk sh (sr sh r0 8)).2 = 1500 := by rw [q0.2.2.2.2.2.2.2.2.1]
    have ha0_9 : (sk sh (sr sh r0 9)).2 = 10500 := by rw [q0.2.2.2.2.2.2.2.2.2.1]
    have ha0_10 : (sk sh (sr sh r0 10)).2 = 7 := by rw [q0.2.2.2.2.2.2.2.2.2.2.1]
    have ha0_11 : (sk sh (sr sh r0 11)).2 = 7 := by rw [q0.2.2.2.2.2.2.2.2.2.2.2.1]
    have ha0_12 : (sk sh (sr sh r0 12)).2 = 1500 := by rw [q0.2.2.2.2.2.2.2.2.2.2.2.2.1]
    have ha0_13 : (sk sh (sr sh r0 13)).2 = 1500 := by rw [q0.2.2.2.2.2.2.2.2.2.2.2.2.2.1]
    have ha0_14 : (sk sh (sr sh r0 14)).2 = 20 := by rw [q0.2.2.2.2.2.2.2.2.2.2.2.2.2.2]
    try simp only [zt0, zt1, zt2, zt3, zt4, zt5, zt6, zt7, zt8, zt9, zt10, zt11, zt12, zt13] at hv
    try simp only [zt0, zt1, zt2, zt3, zt4, zt5, zt6, zt7, zt8, zt9, zt10, zt11, zt12, zt13] at hm
    try simp only [zput_s, zput_n, ti_g, oI_add, oI_sub, oI_mul]
    rw [b201_112 (o5 := o5) (wo5 := wo5)]
    try simp only [zput_s, zput_n, ti_g, oI_add, oI_sub, oI_mul]
    first | refine zok_le (by omega) (fun c2 => ?_) (fun c2 => ?_) | refine zok_if (fun c2 => ?_) (fun c2 => ?_)
    · refine zok_ck ((q0).1) ?_
      have hz73 := zJ7_le (f0.g)
      try simp only [zt0, zt1, zt2, zt3, zt4, zt5, zt6, zt7, zt8, zt9, zt10, zt11, zt12, zt13] at hz73
      refine zok_c0 (s202 (q0) (by omega) (by first | (omega) | ((try simp only [zt0, zt1, zt2, zt3, zt4, zt5, zt6, zt7, zt8, zt9, zt10, zt11, zt12, zt13]); omega)) (by first | (omega) | ((try simp only [zt0, zt1, zt2, zt3, zt4, zt5, zt6, zt7, zt8, zt9, zt10, zt11, zt12, zt13]); omega)) (f0.g)) (fun t3 p3 => ?_)
      obtain ⟨f3, p3⟩ := p3
      have e3_3 : ∀ k, tg t3 (sr sh r0 3) k = tg t1 (sr sh r0 3) k := fun k => f3.eq q0 (i := 3) (by decide) (by decide) k
      have e3_4 : ∀ k, tg t3 (sr sh r0 4) k = tg t1 (sr sh r0 4) k := fun k => f3.eq q0 (i := 4) (by decide) (by decide) k
      have e3_10 : ∀ k, tg t3 (sr sh r0 10) k = tg t1 (sr sh r0 10) k := fun k => f3.eq q0 (i := 10) (by decide) (by decide) k
      have e3_11 : ∀ k, tg t3 (sr sh r0 11) k = tg t1 (sr sh r0 11) k := fun k => f3.eq q0 (i := 11) (by decide) (by decide) k
      have d3_0 : tg t3 r0 0 = tg t1 r0 0 := f3.eq q0 (i := 0) (by decide) (by decide) 0
      try simp only [zt0, zt1, zt2, zt3, zt4, zt5, zt6, zt7, zt8, zt9, zt10, zt11, zt12, zt13, e3_3, e3_4, e3_10, e3_11] at p3
      have hL3_0 := p3 13 (by omega)
      try simp only [zt0, zt1, zt2, zt3, zt4, zt5, zt6, zt7, zt8, zt9, zt10, zt11, zt12, zt13, e3_3, e3_4, e3_10, e3_11] at hL3_0
      try simp only [zput_s, zput_n, ti_g, oI_add, oI_sub, oI_mul]
      rw [b201_193 (o5 := o5) (wo5 := wo5)]
      try simp only [zput_s, zput_n, ti_g, oI_add, oI_sub, oI_mul]
      refine zok_ck ((q0).1) ?_
      refine zok_cI (s159 (q0) (by omega) (by omega) (by omega) (by first | (omega) | ((try simp only [zt0, zt1, zt2, zt3, zt4, zt5, zt6, zt7, zt8, zt9, zt10, zt11, zt12, zt13, e3_3, e3_4, e3_10, e3_11]); omega)) (by first | (omega) | ((try simp only [zt0, zt1, zt2, zt3, zt4, zt5, zt6, zt7, zt8, zt9, zt10, zt11, zt12, zt13, e3_3, e3_4, e3_10, e3_11]); omega)) (by first | (omega) | ((try simp only [zt0, zt1, zt2, zt3, zt4, zt5, zt6, zt7, zt8, zt9, zt10, zt11, zt12, zt13, e3_3, e3_4, e3_10, e3_11]); omega)) (f3.g)) (fun y5 t5 u5 p5 => ?_)
      obtain ⟨f5, p5⟩ := p5
      have e5_3 : ∀ k, tg t5 (sr sh r0 3) k = tg t3 (sr sh r0 3) k := fun k => f5.eq q0 (i := 3) (by decide) (by decide) k
      have e5_4 : ∀ k, tg t5 (sr sh r0 4) k = tg t3 (sr sh r0 4) k := fun k => f5.eq q0 (i := 4) (by decide) (by decide) k
      have e5_10 : ∀ k, tg t5 (sr sh r0 10) k = tg t3 (sr sh r0 10) k := fun k => f5.eq q0 (i := 10) (by decide) (by decide) k
      have e5_11 : ∀ k, tg t5 (sr sh r0 11) k = tg t3 (sr sh r0 11) k := fun k => f5.eq q0 (i := 11) (by decide) (by decide) k
      try simp only [zt0, zt1, zt2, zt3, zt4, zt5, zt6, zt7, zt8, zt9, zt10, zt11, zt12, zt13, e3_3, e3_4, e3_10, e3_11, e5_3, e5_4, e5_10, e5_11] at p5
      try simp only [zput_s, zput_n, ti_g, oI_add, oI_sub, oI_mul]
      rw [b201_201 (o5 := o5) (wo5 := wo5)]
      try simp only [zput_s, zput_n, ti_g, oI_add, oI_sub, oI_mul]
      first | exact qI_rt (by omega) (by omega) ⟨(FrV.trans (Ns := [0, 1, 2, 3, 4, 9, 10, 11]) ((FrV.trans (Ns := [0, 1, 2, 3, 4, 9, 10, 11]) (f0) f3 (by decide) (by decide))) f5 (by decide) (by decide)), by omega⟩ | exact qI_nf ⟨(FrV.trans (Ns := [0, 1, 2, 3, 4, 9, 10, 11]) ((FrV.trans (Ns := [0, 1, 2, 3, 4, 9, 10, 11]) (f0) f3 (by decide) (by decide))) f5 (by decide) (by decide)), by omega⟩
    · refine zok_ck ((q0).1) ?_
      refine zok_ck ⟨(by rw [(q0).2.2.2.2.1]), zin_o (by omega) (by omega) (by omega)⟩ ?_
      try rw [nN_o (a := (19500) + (x4)) (by omega) (by omega)]
      try simp only [zput_s, zput_n, ti_g, oI_add, oI_sub, oI_mul, zt0, zt1, zt2, zt3, zt4, zt5, zt6, zt7, zt8, zt9, zt10, zt11, zt12, zt13]
      have gl7 := And.intro (tg_lo t1 (sr sh r0 1) (((19500) + (x4)).toNat)) (tg_hi t1 (sr sh r0 1) (((19500) + (x4)).toNat))
      try simp only [zt0, zt1, zt2, zt3, zt4, zt5, zt6, zt7, zt8, zt9, zt10, zt11, zt12, zt13] at gl7
      refine zok_pI (s123 (by omega)) (fun y8 u8 p8 => ?_)
      try simp only [zt0, zt1, zt2, zt3, zt4, zt5, zt6, zt7, zt8, zt9, zt10, zt11, zt12, zt13] at p8
      simp only [zput_s, zput_n, ti_g, oI_add, oI_sub, oI_mul, zt0, zt1, zt2, zt3, zt4, zt5, zt6, zt7, zt8, zt9, zt10, zt11, zt12, zt13, b201_136]
      try simp only [zput_s, zput_n, ti_g, oI_add, oI_sub, oI_mul]
      first | refine zok_eq (by omega) (fun c10 => ?_) (fun c10 => ?_) | refine zok_if (fun c10 => ?_) (fun c10 => ?_)
      · refine zok_ck ((q0).1) ?_
        refine zok_c0 (s152 (q0) (by omega) (by omega) (by first | (omega) | ((try simp only [zt0, zt1, zt2, zt3, zt4, zt5, zt6, zt7, zt8, zt9, zt10, zt11, zt12, zt13]); omega)) (by first | (omega) | ((try simp only [zt0, zt1, zt2, zt3, zt4, zt5, zt6, zt7, zt8, zt9, zt10, zt11, zt12, zt13]); omega)) (f0.g)) (fun t11 p11 => ?_)
        obtain ⟨f11, p11⟩ := p11
        have e11_1 : ∀ k, tg t11 (sr sh r0 1) k = tg t1 (sr sh r0 1) k := fun k => f11.eq q0 (i := 1) (by decide) (by decide) k
        have e11_2 : ∀ k, tg t11 (sr sh r0 2) k = tg t1 (sr sh r0 2) k := fun k => f11.eq q0 (i := 2) (by decide) (by decide) k
        have e11_3 : ∀ k, tg t11 (sr sh r0 3) k = tg t1 (sr sh r0 3) k := fun k => f11.eq q0 (i := 3) (by decide) (by decide) k
        have e11_4 : ∀ k, tg t11 (sr sh r0 4) k = tg t1 (sr sh r0 4) k := fun k => f11.eq q0 (i := 4) (by decide) (by decide) k
        have e11_11 : ∀ k, tg t11 (sr sh r0 11) k = tg t1 (sr sh r0 11) k := fun k => f11.eq q0 (i := 11) (by decide) (by decide) k
        have d11_0 : tg t11 r0 0 = tg t1 r0 0 := f11.eq q0 (i := 0) (by decide) (by decide) 0
        try simp only [zt0, zt1, zt2, zt3, zt4, zt5, zt6, zt7, zt8, zt9, zt10, zt11, zt12, zt13, e11_1, e11_2, e11_3, e11_4, e11_11] at p11
        have hL11_0 := p11.2 0 (by omega)
        try simp only [zt0, zt1, zt2, zt3, zt4, zt5, zt6, zt7, zt8, zt9, zt10, zt11, zt12, zt13, e11_1, e11_2, e11_3, e11_4, e11_11] at hL11_0
        have hL11_1 := p11.2 1 (by omega)
        try simp only [zt0, zt1, zt2, zt3, zt4, zt5, zt6, zt7, zt8, zt9, zt10, zt11, zt12, zt13, e11_1, e11_2, e11_3, e11_4, e11_11] at hL11_1
        have hL11_2 := p11.2 2 (by omega)
        try simp only [zt0, zt1, zt2, zt3, zt4, zt5, zt6, zt7, zt8, zt9, zt10, zt11, zt12, zt13, e11_1, e11_2, e11_3, e11_4, e11_11] at hL11_2
        have hL11_3 := p11.2 3 (by omega)
        try simp only [zt0, zt1, zt2, zt3, zt4, zt5, zt6, zt7, zt8, zt9, zt10, zt11, zt12, zt13, e11_1, e11_2, e11_3, e11_4, e11_11] at hL11_3
        have hL11_4 := p11.2 5 (by omega)
        try simp only [zt0, zt1, zt2, zt3, zt4, zt5, zt6, zt7, zt8, zt9, zt10, zt11, zt12, zt13, e11_1, e11_2, e11_3, e11_4, e11_11] at hL11_4
        have hL11_5 := p11.2 6 (by omega)
        try simp only [zt0, zt1, zt2, zt3, zt4, zt5, zt6, zt7, zt8, zt9, zt10, zt11, zt12, zt13, e11_1, e11_2, e11_3, e11_4, e11_11] at hL11_5
        simp only [zput_s, zput_n, ti_g, oI_add, oI_sub, oI_mul, zt0, zt1, zt2, zt3, zt4, zt5, zt6, zt7, zt8, zt9, zt10, zt11, zt12, zt13, e11_1, e11_2, e11_3, e11_4, e11_11, b201_156]
        try simp only [zput_s, zput_n, ti_g, oI_add, oI_sub, oI_mul]
        obtain ⟨w13, wa13, wb13, we13⟩ := oI_nf (((oI (tg t1 ((sr sh r0 1)) (((19500) + (x4)).toNat)))) >>> ((oI 4) &&& 31))
        try simp only [zput_s, zput_n, ti_g, oI_add, oI_sub, oI_mul] at we13
        try rw [we13]
        refine zok_pI (s126 (by omega)) (fun y14 u14 p14 => ?_)
        try simp only [zt0, zt1, zt2, zt3, zt4, zt5, zt6, zt7, zt8, zt9, zt10, zt11, zt12, zt13, e11_1, e11_2, e11_3, e11_4, e11_11] at p14
        simp only [zput_s, zput_n, ti_g, oI_add, oI_sub, oI_mul, zt0, zt1, zt2, zt3, zt4, zt5, zt6, zt7, zt8, zt9, zt10, zt11, zt12, zt13, e11_1, e11_2, e11_3, e11_4, e11_11, b201_165]
        try simp only [zput_s, zput_n, ti_g, oI_add, oI_sub, oI_mul]
        refine zok_ck ((q0).1) ?_
        refine zok_c0 (s152 (q0) (by omega) (by omega) (by first | (omega) | ((try simp only [zt0, zt1, zt2, zt3, zt4, zt5, zt6, zt7, zt8, zt9, zt10, zt11, zt12, zt13, e11_1, e11_2, e11_3, e11_4, e11_11]); omega)) (by first | (omega) | ((try simp only [zt0, zt1, zt2, zt3, zt4, zt5, zt6, zt7, zt8, zt9, zt10, zt11, zt12, zt13, e11_1, e11_2, e11_3, e11_4, e11_11]); omega)) (f11.g)) (fun t16 p16 => ?_)
        obtain ⟨f16, p16⟩ := p16
        have e16_1 : ∀ k, tg t16 (sr sh r0 1) k = tg t11 (sr sh r0 1) k := fun k => f16.eq q0 (i := 1) (by decide) (by decide) k
        have e16_2 : ∀ k, tg t16 (sr sh r0 2) k = tg t11 (sr sh r0 2) k := fun k => f16.eq q0 (i := 2) (by decide) (by decide) k
        have e16_3 : ∀ k, tg t16 (sr sh r0 3) k = tg t11 (sr sh r0 3) k := fun k => f16.eq q0 (i := 3) (by decide) (by decide) k
        have e16_4 : ∀ k, tg t16 (sr sh r0 4) k = tg t11 (sr sh r0 4) k := fun k => f16.eq q0 (i := 4) (by decide) (by decide) k
        have e16_11 : ∀ k, tg t16 (sr sh r0 11) k = tg t11 (sr sh r0 11) k := fun k => f16.eq q0 (i := 11) (by decide) (by decide) k
        have d16_0 : tg t16 r0 0 = tg t11 r0 0 := f16.eq q0 (i := 0) (by decide) (by decide) 0
        try simp only [zt0, zt1, zt2, zt3, zt4, zt5, zt6, zt7, zt8, zt9, zt10, zt11, zt12, zt13, e11_1, e11_2, e11_3, e11_4, e11_11, e16_1, e16_2, e16_3, e16_4, e16_11] at p16
        have hL16_0 := p16.2 0 (by omega)
        try simp only [zt0, zt1, zt2, zt3, zt4, zt5, zt6, zt7, zt8, zt9, zt10, zt11, zt12, zt13, e11_1, e11_2, e11_3, e11_4, e11_11, e16_1, e16_2, e16_3, e16_4, e16_11] at hL16_0
        have hL16_1 := p16.2 1 (by omega)
        try simp only [zt0, zt1, zt2, zt3, zt4, zt5, zt6, zt7, zt8, zt9, zt10, zt11, zt12, zt13, e11_1, e11_2, e11_3, e11_4, e11_11, e16_1, e16_2, e16_3, e16_4, e16_11] at hL16_1
        have hL16_2 := p16.2 2 (by omega)
        try simp only [zt0, zt1, zt2, zt3, zt4, zt5, zt6, zt7, zt8, zt9, zt10, zt11, zt12, zt13, e11_1, e11_2, e11_3, e11_4, e11_11, e16_1, e16_2, e16_3, e16_4, e16_11] at hL16_2
        have hL16_3 := p16.2 3 (by omega)
        try simp only [zt0, zt1, zt2, zt3, zt4, zt5, zt6, zt7, zt8, zt9, zt10, zt11, zt12, zt13, e11_1, e11_2, e11_3, e11_4, e11_11, e16_1, e16_2, e16_3, e16_4, e16_11] at hL16_3
        have hL16_4 := p16.2 5 (by omega)
        try simp only [zt0, zt1, zt2, zt3, zt4, zt5, zt6, zt7, zt8, zt9, zt10, zt11, zt12, zt13, e11_1, e11_2, e11_3, e11_4, e11_11, e16_1, e16_2, e16_3, e16_4, e16_11] at hL16_4
        have hL16_5 := p16.2 6 (by omega)
        try simp only [zt0, zt1, zt2, zt3, zt4, zt5, zt6, zt7, zt8, zt9, zt10, zt11, zt12, zt13, e11_1, e11_2, e11_3, e11_4, e11_11, e16_1, e16_2, e16_3, e16_4, e16_11] at hL16_5
        simp only [zput_s, zput_n, ti_g, oI_add, oI_sub, oI_mul, zt0, zt1, zt2, zt3, zt4, zt5, zt6, zt7, zt8, zt9, zt10, zt11, zt12, zt13, e11_1, e11_2, e11_3, e11_4, e11_11, e16_1, e16_2, e16_3, e16_4, e16_11, b201_168]
        try simp only [zput_s, zput_n, ti_g, oI_add, oI_sub, oI_mul]
        obtain ⟨w18, wa18, wb18, we18⟩ := oI_nf (((oI (tg t1 ((sr sh r0 1)) (((19500) + (x4)).toNat)))) &&& (oI 15))
        try simp only [zput_s, zput_n, ti_g, oI_add, oI_sub, oI_mul] at we18
        try rw [we18]
        refine zok_pI (s126 (by omega)) (fun y19 u19 p19 => ?_)
        try simp only [zt0, zt1, zt2, zt3, zt4, zt5, zt6, zt7, zt8, zt9, zt10, zt11, zt12, zt13, e11_1, e11_2, e11_3, e11_4, e11_11, e16_1, e16_2, e16_3, e16_4, e16_11] at p19
        simp only [zput_s, zput_n, ti_g, oI_add, oI_sub, oI_mul, zt0, zt1, zt2, zt3, zt4, zt5, zt6, zt7, zt8, zt9, zt10, zt11, zt12, zt13, e11_1, e11_2, e11_3, e11_4, e11_11, e16_1, e16_2, e16_3, e16_4, e16_11, b201_178]
        try simp only [zput_s, zput_n, ti_g, oI_add, oI_sub, oI_mul]
        refine zok_ck ((q0).1) ?_
        refine zok_c0 (s152 (q0) (by omega) (by omega) (by first | (omega) | ((try simp only [zt0, zt1, zt2, zt3, zt4, zt5, zt6, zt7, zt8, zt9, zt10, zt11, zt12, zt13, e11_1, e11_2, e11_3, e11_4, e11_11, e16_1, e16_2, e16_3, e16_4, e16_11]); omega)) (by first | (omega) | ((try simp only [zt0, zt1, zt2, zt3, zt4, zt5, zt6, zt7, zt8, zt9, zt10, zt11, zt12, zt13, e11_1, e11_2, e11_3, e11_4, e11_11, e16_1, e16_2, e16_3, e16_4, e16_11]); omega)) (f16.g)) (fun t21 p21 => ?_)
        obtain ⟨f21, p21⟩ := p21
        have e21_1 : ∀ k, tg t21 (sr sh r0 1) k = tg t16 (sr sh r0 1) k := fun k => f21.eq q0 (i := 1) (by decide) (by decide) k
        have e21_2 : ∀ k, tg t21 (sr sh r0 2) k = tg t16 (sr sh r0 2) k := fun k => f21.eq q0 (i := 2) (by decide) (by decide) k
        have e21_3 : ∀ k, tg t21 (sr sh r0 3) k = tg t16 (sr sh r0 3) k := fun k => f21.eq q0 (i := 3) (by decide) (by decide) k
        have e21_4 : ∀ k, tg t21 (sr sh r0 4) k = tg t16 (sr sh r0 4) k := fun k => f21.eq q0 (i := 4) (by decide) (by decide) k
        have e21_11 : ∀ k, tg t21 (sr sh r0 11) k = tg t16 (sr sh r0 11) k := fun k => f21.eq q0 (i := 11) (by decide) (by decide) k
        have d21_0 : tg t21 r0 0 = tg t16 r0 0 := f21.eq q0 (i := 0) (by decide) (by decide) 0
        try simp only [zt0, zt1, zt2, zt3, zt4, zt5, zt6, zt7, zt8, zt9, zt10, zt11, zt12, zt13, e11_1, e11_2, e11_3, e11_4, e11_11, e16_1, e16_2, e16_3, e16_4, e16_11, e21_1, e21_2, e21_3, e21_4, e21_11] at p21
        have hL21_0 := p21.2 0 (by omega)
        try simp only [zt0, zt1, zt2, zt3, zt4, zt5, zt6, zt7, zt8, zt9, zt10, zt11, zt12, zt13, e11_1, e11_2, e11_3, e11_4, e11_11, e16_1, e16_2, e16_3, e16_4, e16_11, e21_1, e21_2, e21_3, e21_4, e21_11] at hL21_0
        have hL21_1 := p21.2 1 (by omega)
        try simp only [zt0, zt1, zt2, zt3, zt4, zt5, zt6, zt7, zt8, zt9, zt10, zt11, zt12, zt13, e11_1, e11_2, e11_3, e11_4, e11_11, e16_1, e16_2, e16_3, e16_4, e16_11, e21_1, e21_2, e21_3, e21_4, e21_11] at hL21_1
        have hL21_2 := p21.2 2 (by omega)
        try simp only [zt0, zt1, zt2, zt3, zt4, zt5, zt6, zt7, zt8, zt9, zt10, zt11, zt12, zt13, e11_1, e11_2, e11_3, e11_4, e11_11, e16_1, e16_2, e16_3, e16_4, e16_11, e21_1, e21_2, e21_3, e21_4, e21_11] at hL21_2
        have hL21_3 := p21.2 3 (by omega)
        try simp only [zt0, zt1, zt2, zt3, zt4, zt5, zt6, zt7, zt8, zt9, zt10, zt11, zt12, zt13, e11_1, e11_2, e11_3, e11_4, e11_11, e16_1, e16_2, e16_3, e16_4, e16_11, e21_1, e21_2, e21_3, e21_4, e21_11] at hL21_3
        have hL21_4 := p21.2 5 (by omega)
        try simp only [zt0, zt1, zt2, zt3, zt4, zt5, zt6, zt7, zt8, zt9, zt10, zt11, zt12, zt13, e11_1, e11_2, e11_3, e11_4, e11_11, e16_1, e16_2, e16_3, e16_4, e16_11, e21_1, e21_2, e21_3, e21_4, e21_11] at hL21_4
        have hL21_5 := p21.2 6 (by omega)
        try simp only [zt0, zt1, zt2, zt3, zt4, zt5, zt6, zt7, zt8, zt9, zt10, zt11, zt12, zt13, e11_1, e11_2, e11_3, e11_4, e11_11, e16_1, e16_2, e16_3, e16_4, e16_11, e21_1, e21_2, e21_3, e21_4, e21_11] at hL21_5
        simp only [zput_s, zput_n, ti_g, oI_add, oI_sub, oI_mul, zt0, zt1, zt2, zt3, zt4, zt5, zt6, zt7, zt8, zt9, zt10, zt11, zt12, zt13, e11_1, e11_2, e11_3, e11_4, e11_11, e16_1, e16_2, e16_3, e16_4, e16_11, e21_1, e21_2, e21_3, e21_4, e21_11, b201_181]
        try simp only [zput_s, zput_n, ti_g, oI_add, oI_sub, oI_mul]
        try simp only [zput_s, zput_n, ti_g, oI_add, oI_sub, oI_mul]
        exact ih _ _ _ _ (by first | rfl | assumption) _ ((FrV.trans (Ns := [0, 1, 2, 3, 4, 9, 10, 11]) ((FrV.trans (Ns := [0, 1, 2, 3, 4, 9, 10, 11]) ((FrV.trans (Ns := [0, 1, 2, 3, 4, 9, 10, 11]) (f0) f11 (by decide) (by decide))) f16 (by decide) (by decide))) f21 (by decide) (by decide))) (by first | omega | ((try simp only [zt0, zt1, zt2, zt3, zt4, zt5, zt6, zt7, zt8, zt9, zt10, zt11, zt12, zt13, e11_1, e11_2, e11_3, e11_4, e11_11, e16_1, e16_2, e16_3, e16_4, e16_11, e21_1, e21_2, e21_3, e21_4, e21_11, true_and, and_true]); omega)) (by first | omega | ((try simp only [zt0, zt1, zt2, zt3, zt4, zt5, zt6, zt7, zt8, zt9, zt10, zt11, zt12, zt13, e11_1, e11_2, e11_3, e11_4, e11_11, e16_1, e16_2, e16_3, e16_4, e16_11, e21_1, e21_2, e21_3, e21_4, e21_11, true_and, and_true]); omega))
      · refine zok_ck ((q0).1) ?_
        refine zok_c0 (s152 (q0) (by omega) (by omega) (by first | (omega) | ((try simp only [zt0, zt1, zt2, zt3, zt4, zt5, zt6, zt7, zt8, zt9, zt10, zt11, zt12, zt13]); omega)) (by first | (omega) | ((try simp only [zt0, zt1, zt2, zt3, zt4, zt5, zt6, zt7, zt8, zt9, zt10, zt11, zt12, zt13]); omega)) (f0.g)) (fun t23 p23 => ?_)
        obtain ⟨f23, p23⟩ := p23
        have e23_1 : ∀ k, tg t23 (sr sh r0 1) k = tg t1 (sr sh r0 1) k := fun k => f23.eq q0 (i := 1) (by decide) (by decide) k
        have e23_2 : ∀ k, tg t23 (sr sh r0 2) k = tg t1 (sr sh r0 2) k := fun k => f23.eq q0 (i := 2) (by decide) (by decide) k
        have e23_3 : ∀ k, tg t23 (sr sh r0 3) k = tg t1 (sr sh r0 3) k := fun k => f23.eq q0 (i := 3) (by decide) (by decide) k
        have e23_4 : ∀ k, tg t23 (sr sh r0 4) k = tg t1 (sr sh r0 4) k := fun k => f23.eq q0 (i := 4) (by decide) (by decide) k
        have e23_11 : ∀ k, tg t23 (sr sh r0 11) k = tg t1 (sr sh r0 11) k := fun k => f23.eq q0 (i := 11) (by decide) (by decide) k
        have d23_0 : tg t23 r0 0 = tg t1 r0 0 := f23.eq q0 (i := 0) (by decide) (by decide) 0
        try simp only [zt0, zt1, zt2, zt3, zt4, zt5, zt6, zt7, zt8, zt9, zt10, zt11, zt12, zt13, e23_1, e23_2, e23_3, e23_4, e23_11] at p23
        have hL23_0 := p23.2 0 (by omega)
        try simp only [zt0, zt1, zt2, zt3, zt4, zt5, zt6, zt7, zt8, zt9, zt10, zt11, zt12, zt13, e23_1, e23_2, e23_3, e23_4, e23_11] at hL23_0
        have hL23_1 := p23.2 1 (by omega)
        try simp only [zt0, zt1, zt2, zt3, zt4, zt5, zt6, zt7, zt8, zt9, zt10, zt11, zt12, zt13, e23_1, e23_2, e23_3, e23_4, e23_11] at hL23_1
        have hL23_2 := p23.2 2 (by omega)
        try simp only [zt0, zt1, zt2, zt3, zt4, zt5, zt6, zt7, zt8, zt9, zt10, zt11, zt12, zt13, e23_1, e23_2, e23_3, e23_4, e23_11] at hL23_2
        have hL23_3 := p23.2 3 (by omega)
        try simp only [zt0, zt1, zt2, zt3, zt4, zt5, zt6, zt7, zt8, zt9, zt10, zt11, zt12, zt13, e23_1, e23_2, e23_3, e23_4, e23_11] at hL23_3
        have hL23_4 := p23.2 5 (by omega)
        try simp only [zt0, zt1, zt2, zt3, zt4, zt5, zt6, zt7, zt8, zt9, zt10, zt11, zt12, zt13, e23_1, e23_2, e23_3, e23_4, e23_11] at hL23_4
        have hL23_5 := p23.2 6 (by omega)
        try simp only [zt0, zt1, zt2, zt3, zt4, zt5, zt6, zt7, zt8, zt9, zt10, zt11, zt12, zt13, e23_1, e23_2, e23_3, e23_4, e23_11] at hL23_5
        simp only [zput_s, zput_n, ti_g, oI_add, oI_sub, oI_mul, zt0, zt1, zt2, zt3, zt4, zt5, zt6, zt7, zt8, zt9, zt10, zt11, zt12, zt13, e23_1, e23_2, e23_3, e23_4, e23_11, b201_146]
        try simp only [zput_s, zput_n, ti_g, oI_add, oI_sub, oI_mul]
        simp only [zput_s, zput_n, ti_g, oI_add, oI_sub, oI_mul, zt0, zt1, zt2, zt3, zt4, zt5, zt6, zt7, zt8, zt9, zt10, zt11, zt12, zt13, e23_1, e23_2, e23_3, e23_4, e23_11, b201_181]
        try simp only [zput_s, zput_n, ti_g, oI_add, oI_sub, oI_mul]
        try simp only [zput_s, zput_n, ti_g, oI_add, oI_sub, oI_mul]
        exact ih _ _ _ _ (by first | rfl | assumption) _ ((FrV.trans (Ns := [0, 1, 2, 3, 4, 9, 10, 11]) (f0) f23 (by decide) (by decide))) (by first | omega | ((try simp only [zt0, zt1, zt2, zt3, zt4, zt5, zt6, zt7, zt8, zt9, zt10, zt11, zt12, zt13, e23_1, e23_2, e23_3, e23_4, e23_11, true_and, and_true]); omega)) (by first | omega | ((try simp only [zt0, zt1, zt2, zt3, zt4, zt5, zt6, zt7, zt8, zt9, zt10, zt11, zt12, zt13, e23_1, e23_2, e23_3, e23_4, e23_11, true_and, and_true]); omega))
theorem l201_48 {sh : zSh} {t0 : zSt} {MB : Nat} {r0 : Nat} (q0 : zMd sh MB r0) {x1 : Int} (u1 : -2147483648 ≤ x1 ∧ x1 ≤ 2147483647) (G : GI sh r0 t0) : ∀ (n : Nat) (x2 : Int) (x3 : Int)  (t1 : zSt), FrV sh r0 [0, 1, 2, 3, 4, 9, 10, 11] t0 t1 → (-2147483648 ≤ x2 ∧ x2 ≤ 2147483647) ∧ (-2147483648 ≤ x3 ∧ x3 ≤ 2147483647) ∧ (0 ≤ x1 ∧ x1 ≤ 7 ∧ 0 ≤ x2 ∧ x2 ≤ 400 ∧ 0 ≤ x3 ∧ x3 ≤ 7) ∧ (tg t1 (sr sh r0 2) 13 = 0) → (∀ k : Nat, (k : Int) < x3 → tg t1 (sr sh r0 10) k ≤ 401) → (7 - x3).toNat < n → zok (zev zP 201 48 [some (zR r0), some (zI (oI x1)), some (zI (oI x2)), some (zI (oI x3)), none, none] [] (sh, t1)) (qI (fun x t' => FrV sh r0 [0, 1, 2, 3, 4, 9, 10, 11] t0 t' ∧ (tg t' (sr sh r0 2) 13 = 0)) sh) := by
  intro n
  induction n with
  | zero => intro x2 x3  t1 f0 _ _ hm; omega
  | succ n ih =>
    intro x2 x3  t1 f0 hv hq1 hm
    have ha0_1 : (sk sh (sr sh r0 1)).2 = 21000 := by rw [q0.2.2.2.2.1]
    have ha0_2 : (sk sh (sr sh r0 2)).2 = 14 := by rw [q0.2.2.2.2.2.1]
    have ha0_3 : (sk sh (sr sh r0 3)).2 = 98 := by rw [q0.2.2.2.2.2.2.1]
    have ha0_4 : (sk sh (sr sh r0 4)).2 = 98 := by rw [q0.2.2.2.2.2.2.2.1]
    have ha0_8 : (sk sh (sr sh r0 8)).2 = 1500 := by rw [q0.2.2.2.2.2.2.2.2.1]
    have ha0_9 : (sk sh (sr sh r0 9)).2 = 10500 := by rw [q0.2.2.2.2.2.2.2.2.2.1]
    have ha0_10 : (sk sh (sr sh r0 10)).2 = 7 := by rw [q0.2.2.2.2.2.2.2.2.2.2.1]
    have ha0_11 : (sk sh (sr sh r0 11)).2 = 7 := by rw [q0.2.2.2.2.2.2.2.2.2.2.2.1]
    have ha0_12 : (sk sh (sr sh r0 12)).2 = 1500 := by rw [q0.2.2.2.2.2.2.2.2.2.2.2.2.1]
    have ha0_13 : (sk sh (sr sh r0 13)).2 = 1500 := by rw [q0.2.2.2.2.2.2.2.2.2.2.2.2.2.1]
    have ha0_14 : (sk sh (sr sh r0 14)).2 = 20 := by rw [q0.2.2.2.2.2.2.2.2.2.2.2.2.2.2]
    try simp only [zt0, zt1, zt2, zt3, zt4, zt5, zt6, zt7, zt8, zt9, zt10, zt11, zt12, zt13] at hv
    try simp only [zt0, zt1, zt2, zt3, zt4, zt5, zt6, zt7, zt8, zt9, zt10, zt11, zt12, zt13] at hm
    have hA : 7 ≤ x3 → (tg t1 (sr sh r0 10) 0 ≤ 401 ∧ tg t1 (sr sh r0 10) 1 ≤ 401 ∧ tg t1 (sr sh r0 10) 2 ≤ 401 ∧ tg t1 (sr sh r0 10) 3 ≤ 401 ∧ tg t1 (sr sh r0 10) 4 ≤ 401 ∧ tg t1 (sr sh r0 10) 5 ≤ 401 ∧ tg t1 (sr sh r0 10) 6 ≤ 401) := fun h => ⟨hq1 0 (by omega), hq1 1 (by omega), hq1 2 (by omega), hq1 3 (by omega), hq1 4 (by omega), hq1 5 (by omega), hq1 6 (by omega)⟩
    try simp only [zt0, zt1, zt2, zt3, zt4, zt5, zt6, zt7, zt8, zt9, zt10, zt11, zt12, zt13] at hA
    rw [b201_48]
    try simp only [zput_s, zput_n, ti_g, oI_add, oI_sub, oI_mul]
    first | refine zok_le (by omega) (fun c2 => ?_) (fun c2 => ?_) | refine zok_if (fun c2 => ?_) (fun c2 => ?_)
    · refine zok_ck ((q0).1) ?_
      refine zok_ck ⟨(by rw [(q0).2.2.2.2.2.2.2.2.2.2.1]), zin_o (by omega) (by omega) (by omega)⟩ ?_
      try rw [nN_o (a := 4) (by omega) (by omega)]
      try rw [show (4 : Int).toNat = 4 from rfl]
      try simp only [zput_s, zput_n, ti_g, oI_add, oI_sub, oI_mul, zt0, zt1, zt2, zt3, zt4, zt5, zt6, zt7, zt8, zt9, zt10, zt11, zt12, zt13]
      have gl3 := And.intro (tg_lo t1 (sr sh r0 10) (4)) (tg_hi t1 (sr sh r0 10) (4))
      have gm3 := (f0.g).2.2.1 (4) (by omega)
      try simp only [zt0, zt1, zt2, zt3, zt4, zt5, zt6, zt7, zt8, zt9, zt10, zt11, zt12, zt13] at gl3
      try simp only [zt0, zt1, zt2, zt3, zt4, zt5, zt6, zt7, zt8, zt9, zt10, zt11, zt12, zt13] at gm3
      first | refine zok_ne (by omega) (fun c4 => ?_) (fun c4 => ?_) | refine zok_if (fun c4 => ?_) (fun c4 => ?_)
      · refine zok_ck ((q0).1) ?_
        refine zok_pI (s160 (q0) (by omega) (by omega) (by first | (omega) | ((try simp only [zt0, zt1, zt2, zt3, zt4, zt5, zt6, zt7, zt8, zt9, zt10, zt11, zt12, zt13]); omega)) (f0.g)) (fun y5 u5 p5 => ?_)
        try simp only [zt0, zt1, zt2, zt3, zt4, zt5, zt6, zt7, zt8, zt9, zt10, zt11, zt12, zt13] at p5
        simp only [zput_s, zput_n, ti_g, oI_add, oI_sub, oI_mul, zt0, zt1, zt2, zt3, zt4, zt5, zt6, zt7, zt8, zt9, zt10, zt11, zt12, zt13, b201_97]
        try simp only [zput_s, zput_n, ti_g, oI_add, oI_sub, oI_mul]
        first | refine zok_eq (by omega) (fun c7 => ?_) (fun c7 => ?_) | refine zok_if (fun c7 => ?_) (fun c7 => ?_)
        · simp only [zput_s, zput_n, ti_g, oI_add, oI_sub, oI_mul, zt0, zt1, zt2, zt3, zt4, zt5, zt6, zt7, zt8, zt9, zt10, zt11, zt12, zt13, b201_109]
          try simp only [zput_s, zput_n, ti_g, oI_add, oI_sub, oI_mul]
          try simp only [zput_s, zput_n, ti_g, oI_add, oI_sub, oI_mul]
          exact l201_112 q0 (by omega) G _ _ _ _ _ (by first | rfl | assumption) _ (f0) (by first | omega | ((try simp only [zt0, zt1, zt2, zt3, zt4, zt5, zt6, zt7, zt8, zt9, zt10, zt11, zt12, zt13, true_and, and_true]); omega)) (Nat.lt_succ_self _)
        · refine zok_ck ((q0).1) ?_
          refine zok_c0 (s152 (q0) (by omega) (by omega) (by first | (omega) | ((try simp only [zt0, zt1, zt2, zt3, zt4, zt5, zt6, zt7, zt8, zt9, zt10, zt11, zt12, zt13]); omega)) (by first | (omega) | ((try simp only [zt0, zt1, zt2, zt3, zt4, zt5, zt6, zt7, zt8, zt9, zt10, zt11, zt12, zt13]); omega)) (f0.g)) (fun t9 p9 => ?_)
          obtain ⟨f9, p9⟩ := p9
          have e9_1 : ∀ k, tg t9 (sr sh r0 1) k = tg t1 (sr sh r0 1) k := fun k => f9.eq q0 (i := 1) (by decide) (by decide) k
          have e9_2 : ∀ k, tg t9 (sr sh r0 2) k = tg t1 (sr sh r0 2) k := fun k => f9.eq q0 (i := 2) (by decide) (by decide) k
          have e9_3 : ∀ k, tg t9 (sr sh r0 3) k = tg t1 (sr sh r0 3) k := fun k => f9.eq q0 (i := 3) (by decide) (by decide) k
          have e9_4 : ∀ k, tg t9 (sr sh r0 4) k = tg t1 (sr sh r0 4) k := fun k => f9.eq q0 (i := 4) (by decide) (by decide) k
          have e9_11 : ∀ k, tg t9 (sr sh r0 11) k = tg t1 (sr sh r0 11) k := fun k => f9.eq q0 (i := 11) (by decide) (by decide) k
          have d9_0 : tg t9 r0 0 = tg t1 r0 0 := f9.eq q0 (i := 0) (by decide) (by decide) 0
          try simp only [zt0, zt1, zt2, zt3, zt4, zt5, zt6, zt7, zt8, zt9, zt10, zt11, zt12, zt13, e9_1, e9_2, e9_3, e9_4, e9_11] at p9
          have hL9_0 := p9.2 0 (by omega)
          try simp only [zt0, zt1, zt2, zt3, zt4, zt5, zt6, zt7, zt8, zt9, zt10, zt11, zt12, zt13, e9_1, e9_2, e9_3, e9_4, e9_11] at hL9_0
          have hL9_1 := p9.2 1 (by omega)
          try simp only [zt0, zt1, zt2, zt3, zt4, zt5, zt6, zt7, zt8, zt9, zt10, zt11, zt12, zt13, e9_1, e9_2, e9_3, e9_4, e9_11] at hL9_1
          have hL9_2 := p9.2 2 (by omega)
          try simp only [zt0, zt1, zt2, zt3, zt4, zt5, zt6, zt7, zt8, zt9, zt10, zt11, zt12, zt13, e9_1, e9_2, e9_3, e9_4, e9_11] at hL9_2
          have hL9_3 := p9.2 3 (by omega)
          try simp only [zt0, zt1, zt2, zt3, zt4, zt5, zt6, zt7, zt8, zt9, zt10, zt11, zt12, zt13, e9_1, e9_2, e9_3, e9_4, e9_11] at hL9_3
          have hL9_4 := p9.2 5 (by omega)
          try simp only [zt0, zt1, zt2, zt3, zt4, zt5, zt6, zt7, zt8, zt9, zt10, zt11, zt12, zt13, e9_1, e9_2, e9_3, e9_4, e9_11] at hL9_4
          have hL9_5 := p9.2 6 (by omega)
          try simp only [zt0, zt1, zt2, zt3, zt4, zt5, zt6, zt7, zt8, zt9, zt10, zt11, zt12, zt13, e9_1, e9_2, e9_3, e9_4, e9_11] at hL9_5
          simp only [zput_s, zput_n, ti_g, oI_add, oI_sub, oI_mul, zt0, zt1, zt2, zt3, zt4, zt5, zt6, zt7, zt8, zt9, zt10, zt11, zt12, zt13, e9_1, e9_2, e9_3, e9_4, e9_11, b201_109]
          try simp only [zput_s, zput_n, ti_g, oI_add, oI_sub, oI_mul]
          try simp only [zput_s, zput_n, ti_g, oI_add, oI_sub, oI_mul]
          exact l201_112 q0 (by omega) G _ _ _ _ _ (by first | rfl | assumption) _ ((FrV.trans (Ns := [0, 1, 2, 3, 4, 9, 10, 11]) (f0) f9 (by decide) (by decide))) (by first | omega | ((try simp only [zt0, zt1, zt2, zt3, zt4, zt5, zt6, zt7, zt8, zt9, zt10, zt11, zt12, zt13, e9_1, e9_2, e9_3, e9_4, e9_11, true_and, and_true]); omega)) (Nat.lt_succ_self _)
      · refine zok_ck ((q0).1) ?_
        refine zok_ck ⟨Or.inr (by rw [(q0).2.2.2.2.2.2.2.2.2.2.2.1]), zin_o (by omega) (by omega) (by omega)⟩ ?_
        try rw [nN_o (a := 2) (by omega) (by omega)]
        try rw [show (2 : Int).toNat = 2 from rfl]
        try simp only [zput_s, zput_n, ti_g, oI_add, oI_sub, oI_mul, zt0, zt1, zt2, zt3, zt4, zt5, zt6, zt7, zt8, zt9, zt10, zt11, zt12, zt13]
        have gl11 := And.intro (tg_lo t1 (sr sh r0 11) (2)) (tg_hi t1 (sr sh r0 11) (2))
        have gm11 := (f0.g).2.2.2.1 (2) (by omega)
        try simp only [zt0, zt1, zt2, zt3, zt4, zt5, zt6, zt7, zt8, zt9, zt10, zt11, zt12, zt13] at gl11
        try simp only [zt0, zt1, zt2, zt3, zt4, zt5, zt6, zt7, zt8, zt9, zt10, zt11, zt12, zt13] at gm11
        first | refine zok_eq (by omega) (fun c12 => ?_) (fun c12 => ?_) | refine zok_if (fun c12 => ?_) (fun c12 => ?_)
        · simp only [zput_s, zput_n, ti_g, oI_add, oI_sub, oI_mul, zt0, zt1, zt2, zt3, zt4, zt5, zt6, zt7, zt8, zt9, zt10, zt11, zt12, zt13, b201_109]
          try simp only [zput_s, zput_n, ti_g, oI_add, oI_sub, oI_mul]
          try simp only [zput_s, zput_n, ti_g, oI_add, oI_sub, oI_mul]
          exact l201_112 q0 (by omega) G _ _ _ _ _ (by first | rfl | assumption) _ (f0) (by first | omega | ((try simp only [zt0, zt1, zt2, zt3, zt4, zt5, zt6, zt7, zt8, zt9, zt10, zt11, zt12, zt13, true_and, and_true]); omega)) (Nat.lt_succ_self _)
        · refine zok_ck ((q0).1) ?_
          refine zok_c0 (s152 (q0) (by omega) (by omega) (by first | (omega) | ((try simp only [zt0, zt1, zt2, zt3, zt4, zt5, zt6, zt7, zt8, zt9, zt10, zt11, zt12, zt13]); omega)) (by first | (omega) | ((try simp only [zt0, zt1, zt2, zt3, zt4, zt5, zt6, zt7, zt8, zt9, zt10, zt11, zt12, zt13]); omega)) (f0.g)) (fun t14 p14 => ?_)
          obtain ⟨f14, p14⟩ := p14
          have e14_1 : ∀ k, tg t14 (sr sh r0 1) k = tg t1 (sr sh r0 1) k := fun k => f14.eq q0 (i := 1) (by decide) (by decide) k
          have e14_2 : ∀ k, tg t14 (sr sh r0 2) k = tg t1 (sr sh r0 2) k := fun k => f14.eq q0 (i := 2) (by decide) (by decide) k
          have e14_3 : ∀ k, tg t14 (sr sh r0 3) k = tg t1 (sr sh r0 3) k := fun k => f14.eq q0 (i := 3) (by decide) (by decide) k
          have e14_4 : ∀ k, tg t14 (sr sh r0 4) k = tg t1 (sr sh r0 4) k := fun k => f14.eq q0 (i := 4) (by decide) (by decide) k
          have e14_11 : ∀ k, tg t14 (sr sh r0 11) k = tg t1 (sr sh r0 11) k := fun k => f14.eq q0 (i := 11) (by decide) (by decide) k
          have d14_0 : tg t14 r0 0 = tg t1 r0 0 := f14.eq q0 (i := 0) (by decide) (by decide) 0
          try simp only [zt0, zt1, zt2, zt3, zt4, zt5, zt6, zt7, zt8, zt9, zt10, zt11, zt12, zt13, e14_1, e14_2, e14_3, e14_4, e14_11] at p14
          have hL14_0 := p14.2 0 (by omega)
          try simp only [zt0, zt1, zt2, zt3, zt4, zt5, zt6, zt7, zt8, zt9, zt10, zt11, zt12, zt13, e14_1, e14_2, e14_3, e14_4, e14_11] at hL14_0
          have hL14_1 := p14.2 1 (by omega)
          try simp only [zt0, zt1, zt2, zt3, zt4, zt5, zt6, zt7, zt8, zt9, zt10, zt11, zt12, zt13, e14_1, e14_2, e14_3, e14_4, e14_11] at hL14_1
          have hL14_2 := p14.2 2 (by omega)
          try simp only [zt0, zt1, zt2, zt3, zt4, zt5, zt6, zt7, zt8, zt9, zt10, zt11, zt12, zt13, e14_1, e14_2, e14_3, e14_4, e14_11] at hL14_2
          have hL14_3 := p14.2 3 (by omega)
          try simp only [zt0, zt1, zt2, zt3, zt4, zt5, zt6, zt7, zt8, zt9, zt10, zt11, zt12, zt13, e14_1, e14_2, e14_3, e14_4, e14_11] at hL14_3
          have hL14_4 := p14.2 5 (by omega)
          try simp only [zt0, zt1, zt2, zt3, zt4, zt5, zt6, zt7, zt8, zt9, zt10, zt11, zt12, zt13, e14_1, e14_2, e14_3, e14_4, e14_11] at hL14_4
          have hL14_5 := p14.2 6 (by omega)
          try simp only [zt0, zt1, zt2, zt3, zt4, zt5, zt6, zt7, zt8, zt9, zt10, zt11, zt12, zt13, e14_1, e14_2, e14_3, e14_4, e14_11] at hL14_5
          simp only [zput_s, zput_n, ti_g, oI_add, oI_sub, oI_mul, zt0, zt1, zt2, zt3, zt4, zt5, zt6, zt7, zt8, zt9, zt10, zt11, zt12, zt13, e14_1, e14_2, e14_3, e14_4, e14_11, b201_109]
          try simp only [zput_s, zput_n, ti_g, oI_add, oI_sub, oI_mul]
          try simp only [zput_s, zput_n, ti_g, oI_add, oI_sub, oI_mul]
          exact l201_112 q0 (by omega) G _ _ _ _ _ (by first | rfl | assumption) _ ((FrV.trans (Ns := [0, 1, 2, 3, 4, 9, 10, 11]) (f0) f14 (by decide) (by decide))) (by first | omega | ((try simp only [zt0, zt1, zt2, zt3, zt4, zt5, zt6, zt7, zt8, zt9, zt10, zt11, zt12, zt13, e14_1, e14_2, e14_3, e14_4, e14_11, true_and, and_true]); omega)) (Nat.lt_succ_self _)
    · refine zok_ck ((q0).1) ?_
      have gq16_0 : -1 ≤ tg t1 (sr sh r0 3) (7 * x1 + x3).toNat ∧ tg t1 (sr sh r0 3) (7 * x1 + x3).toNat ≤ tg t1 (sr sh r0 4) (7 * x1 + x3).toNat ∧ tg t1 (sr sh r0 4) (7 * x1 + x3).toNat ≤ 400 := by have g := (f0.g).2.1 (7 * x1 + x3).toNat (by omega); exact ⟨g.1, g.2.1, g.2.2.2 (by omega)⟩
      try simp only [zt0, zt1, zt2, zt3, zt4, zt5, zt6, zt7, zt8, zt9, zt10, zt11, zt12, zt13] at gq16_0
      refine zok_c0 (s153 (q0) (by omega) (by omega) (by first | (omega) | ((try simp only [zt0, zt1, zt2, zt3, zt4, zt5, zt6, zt7, zt8, zt9, zt10, zt11, zt12, zt13]); omega)) (by first | (omega) | ((try simp only [zt0, zt1, zt2, zt3, zt4, zt5, zt6, zt7, zt8, zt9, zt10, zt11, zt12, zt13]); omega)) (f0.g)) (fun t16 p16 => ?_)
      obtain ⟨f16, p16⟩ := p16
      have e16_1 : ∀ k, tg t16 (sr sh r0 1) k = tg t1 (sr sh r0 1) k := fun k => f16.eq q0 (i := 1) (by decide) (by decide) k
      have e16_2 : ∀ k, tg t16 (sr sh r0 2) k = tg t1 (sr sh r0 2) k := fun k => f16.eq q0 (i := 2) (by decide) (by decide) k
      have e16_3 : ∀ k, tg t16 (sr sh r0 3) k = tg t1 (sr sh r0 3) k := fun k => f16.eq q0 (i := 3) (by decide) (by decide) k
      have e16_4 : ∀ k, tg t16 (sr sh r0 4) k = tg t1 (sr sh r0 4) k := fun k => f16.eq q0 (i := 4) (by decide) (by decide) k
      have d16_0 : tg t16 r0 0 = tg t1 r0 0 := f16.eq q0 (i := 0) (by decide) (by decide) 0
      try simp only [zt0, zt1, zt2, zt3, zt4, zt5, zt6, zt7, zt8, zt9, zt10, zt11, zt12, zt13, e16_1, e16_2, e16_3, e16_4] at p16
      simp only [zput_s, zput_n, ti_g, oI_add, oI_sub, oI_mul, zt0, zt1, zt2, zt3, zt4, zt5, zt6, zt7, zt8, zt9, zt10, zt11, zt12, zt13, e16_1, e16_2, e16_3, e16_4, b201_60]
      try simp only [zput_s, zput_n, ti_g, oI_add, oI_sub, oI_mul]
      try simp only [zput_s, zput_n, ti_g, oI_add, oI_sub, oI_mul]
      exact ih _ _ _ ((FrV.trans (Ns := [0, 1, 2, 3, 4, 9, 10, 11]) (f0) f16 (by decide) (by decide))) (by first | omega | ((try simp only [zt0, zt1, zt2, zt3, zt4, zt5, zt6, zt7, zt8, zt9, zt10, zt11, zt12, zt13, e16_1, e16_2, e16_3, e16_4, true_and, and_true]); omega)) (fun k hk => by first | omega | (rcases Classical.em (k = (x3).toNat) with h | h <;> first | (rw [h]; ((try have c0 := hq0 (x3).toNat (by decide)); (try have c0 := hq0 (x3).toNat); (try have c1 := p16.2.1 (x3).toNat (by omega)); (try simp only [zt0, zt1, zt2, zt3, zt4, zt5, zt6, zt7, zt8, zt9, zt10, zt11, zt12, zt13] at *) <;> omega)) | (have hk2 := hq1 k (by omega); ((try have c0 := hq0 k hk); (try have c0 := hq0 k); (have c1 := p16.2.1 k (by omega)); (try simp only [zt0, zt1, zt2, zt3, zt4, zt5, zt6, zt7, zt8, zt9, zt10, zt11, zt12, zt13] at *) <;> omega)))) (by first | omega | ((try simp only [zt0, zt1, zt2, zt3, zt4, zt5, zt6, zt7, zt8, zt9, zt10, zt11, zt12, zt13, e16_1, e16_2, e16_3, e16_4, true_and, and_true]); omega))
theorem s201 {sh : zSh} {t : zSt} {MB : Nat} {r0 : Nat} (q0 : zMd sh MB r0) {x1 : Int} (u1 : -2147483648 ≤ x1 ∧ x1 ≤ 2147483647) (G : GI sh r0 t) : zok (zcl zP 201 [zR r0, zI (oI x1)] (sh, t)) (qI (fun x t' => FrV sh r0 [0, 1, 2, 3, 4, 9, 10, 11] t t' ∧ (tg t' (sr sh r0 2) 13 = 0)) sh) := by
  have ha0_1 : (sk sh (sr sh r0 1)).2 = 21000 := by rw [q0.2.2.2.2.1]
  have ha0_2 : (sk sh (sr sh r0 2)).2 = 14 := by rw [q0.2.2.2.2.2.1]
  have ha0_3 : (sk sh (sr sh r0 3)).2 = 98 := by rw [q0.2.2.2.2.2.2.1]
  have ha0_4 : (sk sh (sr sh r0 4)).2 = 98 := by rw [q0.2.2.2.2.2.2.2.1]
  have ha0_8 : (sk sh (sr sh r0 8)).2 = 1500 := by rw [q0.2.2.2.2.2.2.2.2.1]
  have ha0_9 : (sk sh (sr sh r0 9)).2 = 10500 := by rw [q0.2.2.2.2.2.2.2.2.2.1]
  have ha0_10 : (sk sh (sr sh r0 10)).2 = 7 := by rw [q0.2.2.2.2.2.2.2.2.2.2.1]
  have ha0_11 : (sk sh (sr sh r0 11)).2 = 7 := by rw [q0.2.2.2.2.2.2.2.2.2.2.2.1]
  have ha0_12 : (sk sh (sr sh r0 12)).2 = 1500 := by rw [q0.2.2.2.2.2.2.2.2.2.2.2.2.1]
  have ha0_13 : (sk sh (sr sh r0 13)).2 = 1500 := by rw [q0.2.2.2.2.2.2.2.2.2.2.2.2.2.1]
  have ha0_14 : (sk sh (sr sh r0 14)).2 = 20 := by rw [q0.2.2.2.2.2.2.2.2.2.2.2.2.2.2]
  have gs := G.1 13 (by decide)
  rw [b201_0]
  try simp only [zput_s, zput_n, ti_g, oI_add, oI_sub, oI_mul]
  refine zok_ck ((q0).1) ?_
  refine zok_ck ⟨(by rw [(q0).2.2.2.2.2.1]), zin_o (by omega) (by omega) (by omega)⟩ ?_
  try rw [nN_o (a := 13) (by omega) (by omega)]
  try rw [show (13 : Int).toNat = 13 from rfl]
  try simp only [zput_s, zput_n, ti_g, oI_add, oI_sub, oI_mul, zt0, zt1, zt2, zt3, zt4, zt5, zt6, zt7, zt8, zt9, zt10, zt11, zt12, zt13]
  have gl19 := And.intro (tg_lo t (sr sh r0 2) (13)) (tg_hi t (sr sh r0 2) (13))
  have gm19 := (G).1 (13) (by omega)
  try simp only [zt0, zt1, zt2, zt3, zt4, zt5, zt6, zt7, zt8, zt9, zt10, zt11, zt12, zt13] at gl19
  try simp only [zt0, zt1, zt2, zt3, zt4, zt5, zt6, zt7, zt8, zt9, zt10, zt11, zt12, zt13] at gm19
  refine zok_pI (s127 (by omega)) (fun y20 u20 p20 => ?_)
  try simp only [zt0, zt1, zt2, zt3, zt4, zt5, zt6, zt7, zt8, zt9, zt10, zt11, zt12, zt13] at p20
  have g21_1 := And.intro (tg_lo (tI (tI t r0 0 (oI 1)) (sr sh r0 2) (nN (oI 13)) (oI 0)) r0 0) (tg_hi (tI (tI t r0 0 (oI 1)) (sr sh r0 2) (nN (oI 13)) (oI 0)) r0 0)
  have g21_2 := And.intro (tg_lo (tI (tI t r0 0 (oI 0)) (sr sh r0 2) (nN (oI 13)) (oI 0)) r0 0) (tg_hi (tI (tI t r0 0 (oI 0)) (sr sh r0 2) (nN (oI 13)) (oI 0)) r0 0)
  simp only [zput_s, zput_n, ti_g, oI_add, oI_sub, oI_mul, zt0, zt1, zt2, zt3, zt4, zt5, zt6, zt7, zt8, zt9, zt10, zt11, zt12, zt13, b201_13]
  try simp only [zput_s, zput_n, ti_g, oI_add, oI_sub, oI_mul]
  first | refine zok_eq (by omega) (fun c22 => ?_) (fun c22 => ?_) | refine zok_if (fun c22 => ?_) (fun c22 => ?_)
  · refine zok_ck (by first | exact ⟨(q0).1, fun e => by cases e⟩ | exact (q0).1) ?_
    obtain ⟨t23, ht23⟩ : ∃ t', t' = tI t r0 (0) (oI (1)) := ⟨_, rfl⟩
    try simp only [zt0, zt1, zt2, zt3, zt4, zt5, zt6, zt7, zt8, zt9, zt10, zt11, zt12, zt13] at ht23
    rw [← ht23]
    have f23 : FrV sh r0 [0] t t23 := by rw [ht23]; exact GI_m q0 (G) (by omega) (fun e => by first | omega | cases e) (fun e => by first | omega | cases e)
    have d23_0 : tg t23 r0 0 = 1 := by rw [ht23]; refine (tg_at (by omega)).trans ?_; first | exact if_pos rfl | exact if_neg (by decide) | (simp only [zt0, zt1, zt2, zt3, zt4, zt5, zt6, zt7, zt8, zt9, zt10, zt11, zt12, zt13, true_and, if_true])
    try simp only [zt0, zt1, zt2, zt3, zt4, zt5, zt6, zt7, zt8, zt9, zt10, zt11, zt12, zt13] at d23_0
    have e23_1 : ∀ k, tg t23 (sr sh r0 1) k = tg t (sr sh r0 1) k := fun k => f23.eq q0 (i := 1) (by decide) (by decide) k
    have e23_2 : ∀ k, tg t23 (sr sh r0 2) k = tg t (sr sh r0 2) k := fun k => f23.eq q0 (i := 2) (by decide) (by decide) k
    have e23_3 : ∀ k, tg t23 (sr sh r0 3) k = tg t (sr sh r0 3) k := fun k => f23.eq q0 (i := 3) (by decide) (by decide) k
    have e23_4 : ∀ k, tg t23 (sr sh r0 4) k = tg t (sr sh r0 4) k := fun k => f23.eq q0 (i := 4) (by decide) (by decide) k
    have e23_10 : ∀ k, tg t23 (sr sh r0 10) k = tg t (sr sh r0 10) k := fun k => f23.eq q0 (i := 10) (by decide) (by decide) k
    have e23_11 : ∀ k, tg t23 (sr sh r0 11) k = tg t (sr sh r0 11) k := fun k => f23.eq q0 (i := 11) (by decide) (by decide) k
    refine zok_ck ((q0).1) ?_
    refine zok_ck ⟨(by rw [(q0).2.2.2.2.2.1]), zin_o (by omega) (by omega) (by omega)⟩ ?_
    try rw [nN_o (a := 13) (by omega) (by omega)]
    try rw [show (13 : Int).toNat = 13 from rfl]
    try simp only [zput_s, zput_n, ti_g, oI_add, oI_sub, oI_mul, zt0, zt1, zt2, zt3, zt4, zt5, zt6, zt7, zt8, zt9, zt10, zt11, zt12, zt13, e23_1, e23_2, e23_3, e23_4, e23_10, e23_11]
    obtain ⟨t24, ht24⟩ : ∃ t', t' = tI t23 (sr sh r0 2) (13) (oI (0)) := ⟨_, rfl⟩
    try simp only [zt0, zt1, zt2, zt3, zt4, zt5, zt6, zt7, zt8, zt9, zt10, zt11, zt12, zt13, e23_1, e23_2, e23_3, e23_4, e23_10, e23_11] at ht24
    rw [← ht24]
    have f24 : FrV sh r0 [2] t23 t24 := by rw [ht24]; exact GI_sz q0 (f23.g) (by omega) (by omega)
    have w24 : ∀ k, tg t24 (sr sh r0 2) k = if k = 13 then 0 else tg t23 (sr sh r0 2) k := fun k => by rw [ht24]; refine (tg_at (by omega)).trans ?_; first | rfl | simp only [zt0, zt1, zt2, zt3, zt4, zt5, zt6, zt7, zt8, zt9, zt10, zt11, zt12, zt13, e23_1, e23_2, e23_3, e23_4, e23_10, e23_11, true_and]
    have ws24 : tg t24 (sr sh r0 2) (13) = 0 := by rw [w24, if_pos rfl]
    try simp only [zt0, zt1, zt2, zt3, zt4, zt5, zt6, zt7, zt8, zt9, zt10, zt11, zt12, zt13, e23_1, e23_2, e23_3, e23_4, e23_10, e23_11] at w24
    try simp only [zt0, zt1, zt2, zt3, zt4, zt5, zt6, zt7, zt8, zt9, zt10, zt11, zt12, zt13, e23_1, e23_2, e23_3, e23_4, e23_10, e23_11] at ws24
    have e24_1 : ∀ k, tg t24 (sr sh r0 1) k = tg t23 (sr sh r0 1) k := fun k => f24.eq q0 (i := 1) (by decide) (by decide) k
    have e24_3 : ∀ k, tg t24 (sr sh r0 3) k = tg t23 (sr sh r0 3) k := fun k => f24.eq q0 (i := 3) (by decide) (by decide) k
    have e24_4 : ∀ k, tg t24 (sr sh r0 4) k = tg t23 (sr sh r0 4) k := fun k => f24.eq q0 (i := 4) (by decide) (by decide) k
    have e24_10 : ∀ k, tg t24 (sr sh r0 10) k = tg t23 (sr sh r0 10) k := fun k => f24.eq q0 (i := 10) (by decide) (by decide) k
    have e24_11 : ∀ k, tg t24 (sr sh r0 11) k = tg t23 (sr sh r0 11) k := fun k => f24.eq q0 (i := 11) (by decide) (by decide) k
    have d24_0 : tg t24 r0 0 = tg t23 r0 0 := f24.eq q0 (i := 0) (by decide) (by decide) 0
    refine zok_ck ((q0).1) ?_
    first | refine zok_le (by omega) (fun c25 => ?_) (fun c25 => ?_) | refine zok_if (fun c25 => ?_) (fun c25 => ?_)
    · refine zok_ck ((q0).1) ?_
      have gs26 := (f24.g).1 (x1).toNat
      try simp only [zt0, zt1, zt2, zt3, zt4, zt5, zt6, zt7, zt8, zt9, zt10, zt11, zt12, zt13, e23_1, e23_2, e23_3, e23_4, e23_10, e23_11, e24_1, e24_3, e24_4, e24_10, e24_11] at gs26
      refine zok_c0 (s138 (q0) (by omega) (by first | (omega) | ((try simp only [zt0, zt1, zt2, zt3, zt4, zt5, zt6, zt7, zt8, zt9, zt10, zt11, zt12, zt13, e23_1, e23_2, e23_3, e23_4, e23_10, e23_11, e24_1, e24_3, e24_4, e24_10, e24_11]); omega)) (by first | (omega) | ((try simp only [zt0, zt1, zt2, zt3, zt4, zt5, zt6, zt7, zt8, zt9, zt10, zt11, zt12, zt13, e23_1, e23_2, e23_3, e23_4, e23_10, e23_11, e24_1, e24_3, e24_4, e24_10, e24_11]); omega)) (f24.g)) (fun t26 p26 => ?_)
      obtain ⟨f26, p26⟩ := p26
      have e26_1 : ∀ k, tg t26 (sr sh r0 1) k = tg t24 (sr sh r0 1) k := fun k => f26.eq q0 (i := 1) (by decide) (by decide) k
      have e26_2 : ∀ k, tg t26 (sr sh r0 2) k = tg t24 (sr sh r0 2) k := fun k => f26.eq q0 (i := 2) (by decide) (by decide) k
      have e26_10 : ∀ k, tg t26 (sr sh r0 10) k = tg t24 (sr sh r0 10) k := fun k => f26.eq q0 (i := 10) (by decide) (by decide) k
      have e26_11 : ∀ k, tg t26 (sr sh r0 11) k = tg t24 (sr sh r0 11) k := fun k => f26.eq q0 (i := 11) (by decide) (by decide) k
      have d26_0 : tg t26 r0 0 = tg t24 r0 0 := f26.eq q0 (i := 0) (by decide) (by decide) 0
      try simp only [zt0, zt1, zt2, zt3, zt4, zt5, zt6, zt7, zt8, zt9, zt10, zt11, zt12, zt13, e23_1, e23_2, e23_3, e23_4, e23_10, e23_11, e24_1, e24_3, e24_4, e24_10, e24_11, e26_1, e26_2, e26_10, e26_11] at p26
      simp only [zput_s, zput_n, ti_g, oI_add, oI_sub, oI_mul, zt0, zt1, zt2, zt3, zt4, zt5, zt6, zt7, zt8, zt9, zt10, zt11, zt12, zt13, e23_1, e23_2, e23_3, e23_4, e23_10, e23_11, e24_1, e24_3, e24_4, e24_10, e24_11, e26_1, e26_2, e26_10, e26_11, b201_46]
      try simp only [zput_s, zput_n, ti_g, oI_add, oI_sub, oI_mul]
      try simp only [zput_s, zput_n, ti_g, oI_add, oI_sub, oI_mul]
      exact l201_48 q0 (by omega) G _ _ _ _ ((FrV.trans (Ns := [0, 1, 2, 3, 4, 9, 10, 11]) ((FrV.trans (Ns := [0, 1, 2, 3, 4, 9, 10, 11]) ((FrV.trans (Ns := [0, 1, 2, 3, 4, 9, 10, 11]) (FrV.refl (Ls := []) G) f23 (by decide) (by decide))) f24 (by decide) (by decide))) f26 (by decide) (by decide))) (by first | omega | ((try simp only [zt0, zt1, zt2, zt3, zt4, zt5, zt6, zt7, zt8, zt9, zt10, zt11, zt12, zt13, e23_1, e23_2, e23_3, e23_4, e23_10, e23_11, e24_1, e24_3, e24_4, e24_10, e24_11, e26_1, e26_2, e26_10, e26_11, true_and, and_true]); omega)) (fun k hk => by first | omega | (rcases Classical.em (k = (x3).toNat) with h | h <;> first | (rw [h]; ((try have c0 := hq0 (x3).toNat (by decide)); (try have c0 := hq0 (x3).toNat); (try have c5 := e23_10 (x3).toNat); (try have c11 := e24_10 (x3).toNat); (try have c15 := e26_10 (x3).toNat); (try simp only [zt0, zt1, zt2, zt3, zt4, zt5, zt6, zt7, zt8, zt9, zt10, zt11, zt12, zt13] at *) <;> omega)) | (have hk2 := hq1 k (by omega); ((try have c0 := hq0 k hk); (try have c0 := hq0 k); (have c5 := e23_10 k); (have c11 := e24_10 k); (have c15 := e26_10 k); (try simp only [zt0, zt1, zt2, zt3, zt4, zt5, zt6, zt7, zt8, zt9, zt10, zt11, zt12, zt13] at *) <;> omega)))) (Nat.lt_succ_self _)
    · first | exact qI_rt (by omega) (by omega) ⟨(FrV.trans (Ns := [0, 1, 2, 3, 4, 9, 10, 11]) ((FrV.trans (Ns := [0, 1, 2, 3, 4, 9, 10, 11]) (FrV.refl (Ls := []) G) f23 (by decide) (by decide))) f24 (by decide) (by decide)), by omega⟩ | exact qI_nf ⟨(FrV.trans (Ns := [0, 1, 2, 3, 4, 9, 10, 11]) ((FrV.trans (Ns := [0, 1, 2, 3, 4, 9, 10, 11]) (FrV.refl (Ls := []) G) f23 (by decide) (by decide))) f24 (by decide) (by decide)), by omega⟩
  · refine zok_ck (by first | exact ⟨(q0).1, fun e => by cases e⟩ | exact (q0).1) ?_
    obtain ⟨t28, ht28⟩ : ∃ t', t' = tI t r0 (0) (oI (0)) := ⟨_, rfl⟩
    try simp only [zt0, zt1, zt2, zt3, zt4, zt5, zt6, zt7, zt8, zt9, zt10, zt11, zt12, zt13] at ht28
    rw [← ht28]
    have f28 : FrV sh r0 [0] t t28 := by rw [ht28]; exact GI_m q0 (G) (by omega) (fun e => by first | omega | cases e) (fun e => by first | omega | cases e)
    have d28_0 : tg t28 r0 0 = 0 := by rw [ht28]; refine (tg_at (by omega)).trans ?_; first | exact if_pos rfl | exact if_neg (by decide) | (simp only [zt0, zt1, zt2, zt3, zt4, zt5, zt6, zt7, zt8, zt9, zt10, zt11, zt12, zt13, true_and, if_true])
    try simp only [zt0, zt1, zt2, zt3, zt4, zt5, zt6, zt7, zt8, zt9, zt10, zt11, zt12, zt13] at d28_0
    have e28_1 : ∀ k, tg t28 (sr sh r0 1) k = tg t (sr sh r0 1) k := fun k => f28.eq q0 (i := 1) (by decide) (by decide) k
    have e28_2 : ∀ k, tg t28 (sr sh r0 2) k = tg t (sr sh r0 2) k := fun k => f28.eq q0 (i := 2) (by decide) (by decide) k
    have e28_3 : ∀ k, tg t28 (sr sh r0 3) k = tg t (sr sh r0 3) k := fun k => f28.eq q0 (i := 3) (by decide) (by decide) k
    have e28_4 : ∀ k, tg t28 (sr sh r0 4) k = tg t (sr sh r0 4) k := fun k => f28.eq q0 (i := 4) (by decide) (by decide) k
    have e28_10 : ∀ k, tg t28 (sr sh r0 10) k = tg t (sr sh r0 10) k := fun k => f28.eq q0 (i := 10) (by decide) (by decide) k
    have e28_11 : ∀ k, tg t28 (sr sh r0 11) k = tg t (sr sh r0 11) k := fun k => f28.eq q0 (i := 11) (by decide) (by decide) k
    refine zok_ck ((q0).1) ?_
    refine zok_ck ⟨(by rw [(q0).2.2.2.2.2.1]), zin_o (by omega) (by omega) (by omega)⟩ ?_
    try rw [nN_o (a := 13) (by omega) (by omega)]
    try rw [show (13 : Int).toNat = 13 from rfl]
    try simp only [zput_s, zput_n, ti_g, oI_add, oI_sub, oI_mul, zt0, zt1, zt2, zt3, zt4, zt5, zt6, zt7, zt8, zt9, zt10, zt11, zt12, zt13, e28_1, e28_2, e28_3, e28_4, e28_10, e28_11]
    obtain ⟨t29, ht29⟩ : ∃ t', t' = tI t28 (sr sh r0 2) (13) (oI (0)) := ⟨_, rfl⟩
    try simp only [zt0, zt1, zt2, zt3, zt4, zt5, zt6, zt7, zt8, zt9, zt10, zt11, zt12, zt13, e28_1, e28_2, e28_3, e28_4, e28_10, e28_11] at ht29
    rw [← ht29]
    have f29 : FrV sh r0 [2] t28 t29 := by rw [ht29]; exact GI_sz q0 (f28.g) (by omega) (by omega)
    have w29 : ∀ k, tg t29 (sr sh r0 2) k = if k = 13 then 0 else tg t28 (sr sh r0 2) k := fun k => by rw [ht29]; refine (tg_at (by omega)).trans ?_; first | rfl | simp only [zt0, zt1, zt2, zt3, zt4, zt5, zt6, zt7, zt8, zt9, zt10, zt11, zt12, zt13, e28_1, e28_2, e28_3, e28_4, e28_10, e28_11, true_and]
    have ws29 : tg t29 (sr sh r0 2) (13) = 0 := by rw [w29, if_pos rfl]
    try simp only [zt0, zt1, zt2, zt3, zt4, zt5, zt6, zt7, zt8, zt9, zt10, zt11, zt12, zt13, e28_1, e28_2, e28_3, e28_4, e28_10, e28_11] at w29
    try simp only [zt0, zt1, zt2, zt3, zt4, zt5, zt6, zt7, zt8, zt9, zt10, zt11, zt12, zt13, e28_1, e28_2, e28_3, e28_4, e28_10, e28_11] at ws29
    have e29_1 : ∀ k, tg t29 (sr sh r0 1) k = tg t28 (sr sh r0 1) k := fun k => f29.eq q0 (i := 1) (by decide) (by decide) k
    have e29_3 : ∀ k, tg t29 (sr sh r0 3) k = tg t28 (sr sh r0 3) k := fun k => f29.eq q0 (i := 3) (by decide) (by decide) k
    have e29_4 : ∀ k, tg t29 (sr sh r0 4) k = tg t28 (sr sh r0 4) k := fun k => f29.eq q0 (i := 4) (by decide) (by decide) k
    have e29_10 : ∀ k, tg t29 (sr sh r0 10) k = tg t28 (sr sh r0 10) k := fun k => f29.eq q0 (i := 10) (by decide) (by decide) k
    have e29_11 : ∀ k, tg t29 (sr sh r0 11) k = tg t28 (sr sh r0 11) k := fun k => f29.eq q0 (i := 11) (by decide) (by decide) k
    have d29_0 : tg t29 r0 0 = tg t28 r0 0 := f29.eq q0 (i := 0) (by decide) (by decide) 0
    refine zok_ck ((q0).1) ?_
    first | refine zok_le (by omega) (fun c30 => ?_) (fun c30 => ?_) | refine zok_if (fun c30 => ?_) (fun c30 => ?_)
    · refine zok_ck ((q0).1) ?_
      have gs31 := (f29.g).1 (x1).toNat
      try simp only [zt0, zt1, zt2, zt3, zt4, zt5, zt6, zt7, zt8, zt9, zt10, zt11, zt12, zt13, e28_1, e28_2, e28_3, e28_4, e28_10, e28_11, e29_1, e29_3, e29_4, e29_10, e29_11] at gs31
      refine zok_c0 (s138 (q0) (by omega) (by first | (omega) | ((try simp only [zt0, zt1, zt2, zt3, zt4, zt5, zt6, zt7, zt8, zt9, zt10, zt11, zt12, zt13, e28_1, e28_2, e28_3, e28_4, e28_10, e28_11, e29_1, e29_3, e29_4, e29_10, e29_11]); omega)) (by first | (omega) | ((try simp only [zt0, zt1, zt2, zt3, zt4, zt5, zt6, zt7, zt8, zt9, zt10, zt11, zt12, zt13, e28_1, e28_2, e28_3, e28_4, e28_10, e28_11, e29_1, e29_3, e29_4, e29_10, e29_11]); omega)) (f29.g)) (fun t31 p31 => ?_)
      obtain ⟨f31, p31⟩ := p31
      have e31_1 : ∀ k, tg t31 (sr sh r0 1) k = tg t29 (sr sh r0 1) k := fun k => f31.eq q0 (i := 1) (by decide) (by decide) k
      have e31_2 : ∀ k, tg t31 (sr sh r0 2) k = tg t29 (sr sh r0 2) k := fun k => f31.eq q0 (i := 2) (by decide) (by decide) k
      have e31_10 : ∀ k, tg t31 (sr sh r0 10) k = tg t29 (sr sh r0 10) k := fun k => f31.eq q0 (i := 10) (by decide) (by decide) k
      have e31_11 : ∀ k, tg t31 (sr sh r0 11) k = tg t29 (sr sh r0 11) k := fun k => f31.eq q0 (i := 11) (by decide) (by decide) k
      have d31_0 : tg t31 r0 0 = tg t29 r0 0 := f31.eq q0 (i := 0) (by decide) (by decide) 0
      try simp only [zt0, zt1, zt2, zt3, zt4, zt5, zt6, zt7, zt8, zt9, zt10, zt11, zt12, zt13, e28_1, e28_2, e28_3, e28_4, e28_10, e28_11, e29_1, e29_3, e29_4, e29_10, e29_11, e31_1, e31_2, e31_10, e31_11] at p31
      simp only [zput_s, zput_n, ti_g, oI_add, oI_sub, oI_mul, zt0, zt1, zt2, zt3, zt4, zt5, zt6, zt7, zt8, zt9, zt10, zt11, zt12, zt13, e28_1, e28_2, e28_3, e28_4, e28_10, e28_11, e29_1, e29_3, e29_4, e29_10, e29_11, e31_1, e31_2, e31_10, e31_11, b201_46]
      try simp only [zput_s, zput_n, ti_g, oI_add, oI_sub, oI_mul]
      try simp only [zput_s, zput_n, ti_g, oI_add, oI_sub, oI_mul]
      exact l201_48 q0 (by omega) G _ _ _ _ ((FrV.trans (Ns := [0, 1, 2, 3, 4, 9, 10, 11]) ((FrV.trans (Ns := [0, 1, 2, 3, 4, 9, 10, 11]) ((FrV.trans (Ns := [0, 1, 2, 3, 4, 9, 10, 11]) (FrV.refl (Ls := []) G) f28 (by decide) (by decide))) f29 (by decide) (by decide))) f31 (by decide) (by decide))) (by first | omega | ((try simp only [zt0, zt1, zt2, zt3, zt4, zt5, zt6, zt7, zt8, zt9, zt10, zt11, zt12, zt13, e28_1, e28_2, e28_3, e28_4, e28_10, e28_11, e29_1, e29_3, e29_4, e29_10, e29_11, e31_1, e31_2, e31_10, e31_11, true_and, and_true]); omega)) (fun k hk => by first | omega | (rcases Classical.em (k = (x3).toNat) with h | h <;> first | (rw [h]; ((try have c0 := hq0 (x3).toNat (by decide)); (try have c0 := hq0 (x3).toNat); (try have c5 := e28_10 (x3).toNat); (try have c11 := e29_10 (x3).toNat); (try have c15 := e31_10 (x3).toNat); (try simp only [zt0, zt1, zt2, zt3, zt4, zt5, zt6, zt7, zt8, zt9, zt10, zt11, zt12, zt13] at *) <;> omega)) | (have hk2 := hq1 k (by omega); ((try have c0 := hq0 k hk); (try have c0 := hq0 k); (have c5 := e28_10 k); (have c11 := e29_10 k); (have c15 := e31_10 k); (try simp only [zt0, zt1, zt2, zt3, zt4, zt5, zt6, zt7, zt8, zt9, zt10, zt11, zt12, zt13] at *) <;> omega)))) (Nat.lt_succ_self _)
    · first | exact qI_rt (by omega) (by omega) ⟨(FrV.trans (Ns := [0, 1, 2, 3, 4, 9, 10, 11]) ((FrV.trans (Ns := [0, 1, 2, 3, 4, 9, 10, 11]) (FrV.refl (Ls := []) G) f28 (by decide) (by decide))) f29 (by decide) (by decide)), by omega⟩ | exact qI_nf ⟨(FrV.trans (Ns := [0, 1, 2, 3, 4, 9, 10, 11]) ((FrV.trans (Ns := [0, 1, 2, 3, 4, 9, 10, 11]) (FrV.refl (Ls := []) G) f28 (by decide) (by decide))) f29 (by decide) (by decide)), by omega⟩
