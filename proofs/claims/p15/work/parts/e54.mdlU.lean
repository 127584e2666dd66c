set_option maxRecDepth 16384
/-! X9_ascend -/
theorem l203_84 {sh : zSh} {t0 : zSt} {MB : Nat} {r0 : Nat} (q0 : zMd sh MB r0) {x1 : Int} (u1 : -2147483648 ≤ x1 ∧ x1 ≤ 2147483647) (G : GI sh r0 t0) : ∀ (n : Nat) (x2 : Int) (x3 : Int)  (t1 : zSt), FrV sh r0 [0, 1, 2, 3, 4, 9, 10, 11] t0 t1 → (-2147483648 ≤ x2 ∧ x2 ≤ 2147483647) ∧ (-2147483648 ≤ x3 ∧ x3 ≤ 2147483647) ∧ (0 ≤ x1 ∧ x1 ≤ 7 ∧ 0 ≤ x2 ∧ x2 ≤ 1 ∧ 0 ≤ x3 ∧ x3 ≤ tg t1 (sr sh r0 10) 4) ∧ (tg t1 (sr sh r0 2) 13 = tg t0 (sr sh r0 2) 13) ∧ (zJ sh r0 t1 0 + zJ sh r0 t1 1 + zJ sh r0 t1 2 + zJ sh r0 t1 3 + zJ sh r0 t1 5 + zJ sh r0 t1 6 + tg t1 (sr sh r0 10) 4 ≤ tg t1 (sr sh r0 2) (x1).toNat) → (x3).toNat < n → zok (zev zP 203 84 [some (zR r0), some (zI (oI x1)), some (zI (oI x2)), some (zI (oI x3))] [] (sh, t1)) (qI (fun x t' => FrV sh r0 [0, 1, 2, 3, 4, 9, 10, 11] t0 t' ∧ (tg t' (sr sh r0 2) 13 = tg t0 (sr sh r0 2) 13)) sh) := by
  intro n
  induction n with
  | zero => intro x2 x3  t1 f0 _ hm; omega
  | succ n ih =>
    intro x2 x3  t1 f0 hv hm
    have ha0_1 : (sk sh (sr sh r0 1)).2 = 21000 := by rw [q0.2.2.2.2.1]
    have ha0_2 : (sk sh (sr sh r0 2)).2 = 14 := by rw [q0.2.2.2.2.2.1]
    have ha0_3 : (sk sh (sr sh r0 3)).2 = 98 := by rw [q0.2.2.2.2.2.2.1]
    have ha0_4 : (sk sh (sr sh r0 4)).2 = 98 := by rw [q0.2.2.2.2.2.2.2.1]
    have ha0_8 : (sk sh (sr sh r0 8)).2 = 1500 := by rw [q0.2.2.2.2.2.2.2.2.1]
    have ha0_9 : (sk sh (sr sh r0 9)).2 = 10500 := by rw [q0.2.2.2.2.2.2.2.2.2.1]
    have ha0_10 : (sk sh (sr sh r0 10)).2 = 7 := by rw [q0.2.2.2.2.2.2.2.2.2.2.1]
    have ha0_11 : (sk sh (sr sh r0 11)).2 = 7 := by rw [q0.2.2.2.2.2.2.2.2.2.2.2.1]
    have ha0_12 : (sk sh (sr sh r0 12)).2 = 1500 := by rw [q0.2.2.2.2.2.2.2.2.2.2.2.2.1]
    have ha0_13 : (sk sh (sr sh r0 13)).2 = 1500 := by rw [q0.2.2.2.2.2.2.2.2.2.2.2.2.2.1]
    have ha0_14 : (sk sh (sr sh r0 14)).2 = 20 := by rw [q0.2.2.2.2.2.2.2.2.2.2.2.2.2.2]
    try simp only [zt0, zt1, zt2, zt3, zt4, zt5, zt6, zt7, zt8, zt9, zt10, zt11, zt12, zt13] at hv
    try simp only [zt0, zt1, zt2, zt3, zt4, zt5, zt6, zt7, zt8, zt9, zt10, zt11, zt12, zt13] at hm
    have gs := (f0.g).1 (x1).toNat (by omega)
    try simp only [zt0, zt1, zt2, zt3, zt4, zt5, zt6, zt7, zt8, zt9, zt10, zt11, zt12, zt13] at gs
    have gl := (f0.g).2.2.1 4 (by decide)
    try simp only [zt0, zt1, zt2, zt3, zt4, zt5, zt6, zt7, zt8, zt9, zt10, zt11, zt12, zt13] at gl
    rw [b203_84]
    try simp only [zput_s, zput_n, ti_g, oI_add, oI_sub, oI_mul]
    first | refine zok_le (by omega) (fun c2 => ?_) (fun c2 => ?_) | refine zok_if (fun c2 => ?_) (fun c2 => ?_)
    · refine zok_ck ((q0).1) ?_
      refine zok_ck ⟨(by rw [(q0).2.2.2.2.2.2.2.2.2.2.1]), zin_o (by omega) (by omega) (by omega)⟩ ?_
      try rw [nN_o (a := 4) (by omega) (by omega)]
      try rw [show (4 : Int).toNat = 4 from rfl]
      try simp only [zput_s, zput_n, ti_g, oI_add, oI_sub, oI_mul, zt0, zt1, zt2, zt3, zt4, zt5, zt6, zt7, zt8, zt9, zt10, zt11, zt12, zt13]
      obtain ⟨t3, ht3⟩ : ∃ t', t' = tI t1 (sr sh r0 10) (4) (oI (x3)) := ⟨_, rfl⟩
      try simp only [zt0, zt1, zt2, zt3, zt4, zt5, zt6, zt7, zt8, zt9, zt10, zt11, zt12, zt13] at ht3
      rw [← ht3]
      have f3 : FrV sh r0 [10] t1 t3 := by rw [ht3]; exact GI_ls q0 (f0.g) (by omega) (by omega)
      have w3 : ∀ k, tg t3 (sr sh r0 10) k = if k = 4 then x3 else tg t1 (sr sh r0 10) k := fun k => by rw [ht3]; refine (tg_at (by omega)).trans ?_; first | rfl | simp only [zt0, zt1, zt2, zt3, zt4, zt5, zt6, zt7, zt8, zt9, zt10, zt11, zt12, zt13, true_and]
      have ws3 : tg t3 (sr sh r0 10) (4) = x3 := by rw [w3, if_pos rfl]
      try simp only [zt0, zt1, zt2, zt3, zt4, zt5, zt6, zt7, zt8, zt9, zt10, zt11, zt12, zt13] at w3
      try simp only [zt0, zt1, zt2, zt3, zt4, zt5, zt6, zt7, zt8, zt9, zt10, zt11, zt12, zt13] at ws3
      have e3_2 : ∀ k, tg t3 (sr sh r0 2) k = tg t1 (sr sh r0 2) k := fun k => f3.eq q0 (i := 2) (by decide) (by decide) k
      have e3_3 : ∀ k, tg t3 (sr sh r0 3) k = tg t1 (sr sh r0 3) k := fun k => f3.eq q0 (i := 3) (by decide) (by decide) k
      have e3_4 : ∀ k, tg t3 (sr sh r0 4) k = tg t1 (sr sh r0 4) k := fun k => f3.eq q0 (i := 4) (by decide) (by decide) k
      have e3_11 : ∀ k, tg t3 (sr sh r0 11) k = tg t1 (sr sh r0 11) k := fun k => f3.eq q0 (i := 11) (by decide) (by decide) k
      have d3_0 : tg t3 r0 0 = tg t1 r0 0 := f3.eq q0 (i := 0) (by decide) (by decide) 0
      have zj3_0 : zJ sh r0 t3 0 = zJ sh r0 t1 0 := zJ_eq (by rw [w3, if_neg (by decide)]) e3_11
      have zj3_1 : zJ sh r0 t3 1 = zJ sh r0 t1 1 := zJ_eq (by rw [w3, if_neg (by decide)]) e3_11
      have zj3_2 : zJ sh r0 t3 2 = zJ sh r0 t1 2 := zJ_eq (by rw [w3, if_neg (by decide)]) e3_11
      have zj3_3 : zJ sh r0 t3 3 = zJ sh r0 t1 3 := zJ_eq (by rw [w3, if_neg (by decide)]) e3_11
      have zj3_5 : zJ sh r0 t3 5 = zJ sh r0 t1 5 := zJ_eq (by rw [w3, if_neg (by decide)]) e3_11
      have zj3_6 : zJ sh r0 t3 6 = zJ sh r0 t1 6 := zJ_eq (by rw [w3, if_neg (by decide)]) e3_11
      refine zok_ck ((q0).1) ?_
      have hs4 : zJs sh r0 t3 7 = 0 + zJ sh r0 t3 0 + zJ sh r0 t3 1 + zJ sh r0 t3 2 + zJ sh r0 t3 3 + zJ sh r0 t3 4 + zJ sh r0 t3 5 + zJ sh r0 t3 6 := rfl
      try simp only [zt0, zt1, zt2, zt3, zt4, zt5, zt6, zt7, zt8, zt9, zt10, zt11, zt12, zt13, e3_2, e3_3, e3_4, e3_11] at hs4
      have h44 := zJ_4 (f3.g)
      try simp only [zt0, zt1, zt2, zt3, zt4, zt5, zt6, zt7, zt8, zt9, zt10, zt11, zt12, zt13, e3_2, e3_3, e3_4, e3_11] at h44
      refine zok_c0 (s158 (q0) (by omega) (by first | (omega) | ((try simp only [zt0, zt1, zt2, zt3, zt4, zt5, zt6, zt7, zt8, zt9, zt10, zt11, zt12, zt13, e3_2, e3_3, e3_4, e3_11]); omega)) (by first | (omega) | ((try simp only [zt0, zt1, zt2, zt3, zt4, zt5, zt6, zt7, zt8, zt9, zt10, zt11, zt12, zt13, e3_2, e3_3, e3_4, e3_11]); omega)) (f3.g)) (fun t4 p4 => ?_)
      obtain ⟨f4, p4⟩ := p4
      have e4_3 : ∀ k, tg t4 (sr sh r0 3) k = tg t3 (sr sh r0 3) k := fun k => f4.eq q0 (i := 3) (by decide) (by decide) k
      have e4_4 : ∀ k, tg t4 (sr sh r0 4) k = tg t3 (sr sh r0 4) k := fun k => f4.eq q0 (i := 4) (by decide) (by decide) k
      have e4_10 : ∀ k, tg t4 (sr sh r0 10) k = tg t3 (sr sh r0 10) k := fun k => f4.eq q0 (i := 10) (by decide) (by decide) k
      have e4_11 : ∀ k, tg t4 (sr sh r0 11) k = tg t3 (sr sh r0 11) k := fun k => f4.eq q0 (i := 11) (by decide) (by decide) k
      have d4_0 : tg t4 r0 0 = tg t3 r0 0 := f4.eq q0 (i := 0) (by decide) (by decide) 0
      try simp only [zt0, zt1, zt2, zt3, zt4, zt5, zt6, zt7, zt8, zt9, zt10, zt11, zt12, zt13, e3_2, e3_3, e3_4, e3_11, e4_3, e4_4, e4_10, e4_11] at p4
      simp only [zput_s, zput_n, ti_g, oI_add, oI_sub, oI_mul, zt0, zt1, zt2, zt3, zt4, zt5, zt6, zt7, zt8, zt9, zt10, zt11, zt12, zt13, e3_2, e3_3, e3_4, e3_11, e4_3, e4_4, e4_10, e4_11, b203_120]
      try simp only [zput_s, zput_n, ti_g, oI_add, oI_sub, oI_mul]
      refine zok_ck ((q0).1) ?_
      refine zok_ck ⟨(by rw [(q0).2.2.2.2.2.1]), zin_o (by omega) (by omega) (by omega)⟩ ?_
      try rw [nN_o (a := x1) (by omega) (by omega)]
      try simp only [zput_s, zput_n, ti_g, oI_add, oI_sub, oI_mul, zt0, zt1, zt2, zt3, zt4, zt5, zt6, zt7, zt8, zt9, zt10, zt11, zt12, zt13, e3_2, e3_3, e3_4, e3_11, e4_3, e4_4, e4_10, e4_11]
      have gl6 := And.intro (tg_lo t4 (sr sh r0 2) ((x1).toNat)) (tg_hi t4 (sr sh r0 2) ((x1).toNat))
      have gm6 := (f4.g).1 ((x1).toNat) (by omega)
      try simp only [zt0, zt1, zt2, zt3, zt4, zt5, zt6, zt7, zt8, zt9, zt10, zt11, zt12, zt13, e3_2, e3_3, e3_4, e3_11, e4_3, e4_4, e4_10, e4_11] at gl6
      try simp only [zt0, zt1, zt2, zt3, zt4, zt5, zt6, zt7, zt8, zt9, zt10, zt11, zt12, zt13, e3_2, e3_3, e3_4, e3_11, e4_3, e4_4, e4_10, e4_11] at gm6
      first | exact qI_rt (by omega) (by omega) ⟨(FrV.trans (Ns := [0, 1, 2, 3, 4, 9, 10, 11]) ((FrV.trans (Ns := [0, 1, 2, 3, 4, 9, 10, 11]) (f0) f3 (by decide) (by decide))) f4 (by decide) (by decide)), by ((try have c0 := hq1 13 (by decide)); (try have c0 := hq1 13); (try have c2 := e3_2 13); (try have c6 := p4.2 13 (by omega)); (try simp only [zt0, zt1, zt2, zt3, zt4, zt5, zt6, zt7, zt8, zt9, zt10, zt11, zt12, zt13] at *) <;> omega)⟩ | exact qI_nf ⟨(FrV.trans (Ns := [0, 1, 2, 3, 4, 9, 10, 11]) ((FrV.trans (Ns := [0, 1, 2, 3, 4, 9, 10, 11]) (f0) f3 (by decide) (by decide))) f4 (by decide) (by decide)), by ((try have c0 := hq1 13 (by decide)); (try have c0 := hq1 13); (try have c2 := e3_2 13); (try have c6 := p4.2 13 (by omega)); (try simp only [zt0, zt1, zt2, zt3, zt4, zt5, zt6, zt7, zt8, zt9, zt10, zt11, zt12, zt13] at *) <;> omega)⟩
    · refine zok_ck ((q0).1) ?_
      refine zok_pI (s160 (q0) (by omega) (by omega) (by first | (omega) | ((try simp only [zt0, zt1, zt2, zt3, zt4, zt5, zt6, zt7, zt8, zt9, zt10, zt11, zt12, zt13]); omega)) (f0.g)) (fun y7 u7 p7 => ?_)
      try simp only [zt0, zt1, zt2, zt3, zt4, zt5, zt6, zt7, zt8, zt9, zt10, zt11, zt12, zt13] at p7
      simp only [zput_s, zput_n, ti_g, oI_add, oI_sub, oI_mul, zt0, zt1, zt2, zt3, zt4, zt5, zt6, zt7, zt8, zt9, zt10, zt11, zt12, zt13, b203_97]
      try simp only [zput_s, zput_n, ti_g, oI_add, oI_sub, oI_mul]
      first | refine zok_eq (by omega) (fun c9 => ?_) (fun c9 => ?_) | refine zok_if (fun c9 => ?_) (fun c9 => ?_)
      · refine zok_ck ((q0).1) ?_
        refine zok_ck ⟨(by rw [(q0).2.2.2.2.2.2.2.2.2.2.1]), zin_o (by omega) (by omega) (by omega)⟩ ?_
        try rw [nN_o (a := 4) (by omega) (by omega)]
        try rw [show (4 : Int).toNat = 4 from rfl]
        try simp only [zput_s, zput_n, ti_g, oI_add, oI_sub, oI_mul, zt0, zt1, zt2, zt3, zt4, zt5, zt6, zt7, zt8, zt9, zt10, zt11, zt12, zt13]
        obtain ⟨t10, ht10⟩ : ∃ t', t' = tI t1 (sr sh r0 10) (4) (oI (x3)) := ⟨_, rfl⟩
        try simp only [zt0, zt1, zt2, zt3, zt4, zt5, zt6, zt7, zt8, zt9, zt10, zt11, zt12, zt13] at ht10
        rw [← ht10]
        have f10 : FrV sh r0 [10] t1 t10 := by rw [ht10]; exact GI_ls q0 (f0.g) (by omega) (by omega)
        have w10 : ∀ k, tg t10 (sr sh r0 10) k = if k = 4 then x3 else tg t1 (sr sh r0 10) k := fun k => by rw [ht10]; refine (tg_at (by omega)).trans ?_; first | rfl | simp only [zt0, zt1, zt2, zt3, zt4, zt5, zt6, zt7, zt8, zt9, zt10, zt11, zt12, zt13, true_and]
        have ws10 : tg t10 (sr sh r0 10) (4) = x3 := by rw [w10, if_pos rfl]
        try simp only [zt0, zt1, zt2, zt3, zt4, zt5, zt6, zt7, zt8, zt9, zt10, zt11, zt12, zt13] at w10
        try simp only [zt0, zt1, zt2, zt3, zt4, zt5, zt6, zt7, zt8, zt9, zt10, zt11, zt12, zt13] at ws10
        have e10_2 : ∀ k, tg t10 (sr sh r0 2) k = tg t1 (sr sh r0 2) k := fun k => f10.eq q0 (i := 2) (by decide) (by decide) k
        have e10_3 : ∀ k, tg t10 (sr sh r0 3) k = tg t1 (sr sh r0 3) k := fun k => f10.eq q0 (i := 3) (by decide) (by decide) k
        have e10_4 : ∀ k, tg t10 (sr sh r0 4) k = tg t1 (sr sh r0 4) k := fun k => f10.eq q0 (i := 4) (by decide) (by decide) k
        have e10_11 : ∀ k, tg t10 (sr sh r0 11) k = tg t1 (sr sh r0 11) k := fun k => f10.eq q0 (i := 11) (by decide) (by decide) k
        have d10_0 : tg t10 r0 0 = tg t1 r0 0 := f10.eq q0 (i := 0) (by decide) (by decide) 0
        have zj10_0 : zJ sh r0 t10 0 = zJ sh r0 t1 0 := zJ_eq (by rw [w10, if_neg (by decide)]) e10_11
        have zj10_1 : zJ sh r0 t10 1 = zJ sh r0 t1 1 := zJ_eq (by rw [w10, if_neg (by decide)]) e10_11
        have zj10_2 : zJ sh r0 t10 2 = zJ sh r0 t1 2 := zJ_eq (by rw [w10, if_neg (by decide)]) e10_11
        have zj10_3 : zJ sh r0 t10 3 = zJ sh r0 t1 3 := zJ_eq (by rw [w10, if_neg (by decide)]) e10_11
        have zj10_5 : zJ sh r0 t10 5 = zJ sh r0 t1 5 := zJ_eq (by rw [w10, if_neg (by decide)]) e10_11
        have zj10_6 : zJ sh r0 t10 6 = zJ sh r0 t1 6 := zJ_eq (by rw [w10, if_neg (by decide)]) e10_11
        refine zok_ck ((q0).1) ?_
        have hs11 : zJs sh r0 t10 7 = 0 + zJ sh r0 t10 0 + zJ sh r0 t10 1 + zJ sh r0 t10 2 + zJ sh r0 t10 3 + zJ sh r0 t10 4 + zJ sh r0 t10 5 + zJ sh r0 t10 6 := rfl
        try simp only [zt0, zt1, zt2, zt3, zt4, zt5, zt6, zt7, zt8, zt9, zt10, zt11, zt12, zt13, e10_2, e10_3, e10_4, e10_11] at hs11
        have h411 := zJ_4 (f10.g)
        try simp only [zt0, zt1, zt2, zt3, zt4, zt5, zt6, zt7, zt8, zt9, zt10, zt11, zt12, zt13, e10_2, e10_3, e10_4, e10_11] at h411
        refine zok_c0 (s158 (q0) (by omega) (by first | (omega) | ((try simp only [zt0, zt1, zt2, zt3, zt4, zt5, zt6, zt7, zt8, zt9, zt10, zt11, zt12, zt13, e10_2, e10_3, e10_4, e10_11]); omega)) (by first | (omega) | ((try simp only [zt0, zt1, zt2, zt3, zt4, zt5, zt6, zt7, zt8, zt9, zt10, zt11, zt12, zt13, e10_2, e10_3, e10_4, e10_11]); omega)) (f10.g)) (fun t11 p11 => ?_)
        obtain ⟨f11, p11⟩ := p11
        have e11_3 : ∀ k, tg t11 (sr sh r0 3) k = tg t10 (sr sh r0 3) k := fun k => f11.eq q0 (i := 3) (by decide) (by decide) k
        have e11_4 : ∀ k, tg t11 (sr sh r0 4) k = tg t10 (sr sh r0 4) k := fun k => f11.eq q0 (i := 4) (by decide) (by decide) k
        have e11_10 : ∀ k, tg t11 (sr sh r0 10) k = tg t10 (sr sh r0 10) k := fun k => f11.eq q0 (i := 10) (by decide) (by decide) k
        have e11_11 : ∀ k, tg t11 (sr sh r0 11) k = tg t10 (sr sh r0 11) k := fun k => f11.eq q0 (i := 11) (by decide) (by decide) k
        have d11_0 : tg t11 r0 0 = tg t10 r0 0 := f11.eq q0 (i := 0) (by decide) (by decide) 0
        try simp only [zt0, zt1, zt2, zt3, zt4, zt5, zt6, zt7, zt8, zt9, zt10, zt11, zt12, zt13, e10_2, e10_3, e10_4, e10_11, e11_3, e11_4, e11_10, e11_11] at p11
        simp only [zput_s, zput_n, ti_g, oI_add, oI_sub, oI_mul, zt0, zt1, zt2, zt3, zt4, zt5, zt6, zt7, zt8, zt9, zt10, zt11, zt12, zt13, e10_2, e10_3, e10_4, e10_11, e11_3, e11_4, e11_10, e11_11, b203_120]
        try simp only [zput_s, zput_n, ti_g, oI_add, oI_sub, oI_mul]
        refine zok_ck ((q0).1) ?_
        refine zok_ck ⟨(by rw [(q0).2.2.2.2.2.1]), zin_o (by omega) (by omega) (by omega)⟩ ?_
        try rw [nN_o (a := x1) (by omega) (by omega)]
        try simp only [zput_s, zput_n, ti_g, oI_add, oI_sub, oI_mul, zt0, zt1, zt2, zt3, zt4, zt5, zt6, zt7, zt8, zt9, zt10, zt11, zt12, zt13, e10_2, e10_3, e10_4, e10_11, e11_3, e11_4, e11_10, e11_11]
        have gl13 := And.intro (tg_lo t11 (sr sh r0 2) ((x1).toNat)) (tg_hi t11 (sr sh r0 2) ((x1).toNat))
        have gm13 := (f11.g).1 ((x1).toNat) (by omega)
        try simp only [zt0, zt1, zt2, zt3, zt4, zt5, zt6, zt7, zt8, zt9, zt10, zt11, zt12, zt13, e10_2, e10_3, e10_4, e10_11, e11_3, e11_4, e11_10, e11_11] at gl13
        try simp only [zt0, zt1, zt2, zt3, zt4, zt5, zt6, zt7, zt8, zt9, zt10, zt11, zt12, zt13, e10_2, e10_3, e10_4, e10_11, e11_3, e11_4, e11_10, e11_11] at gm13
        first | exact qI_rt (by omega) (by omega) ⟨(FrV.trans (Ns := [0, 1, 2, 3, 4, 9, 10, 11]) ((FrV.trans (Ns := [0, 1, 2, 3, 4, 9, 10, 11]) (f0) f10 (by decide) (by decide))) f11 (by decide) (by decide)), by ((try have c0 := hq1 13 (by decide)); (try have c0 := hq1 13); (try have c2 := e10_2 13); (try have c6 := p11.2 13 (by omega)); (try simp only [zt0, zt1, zt2, zt3, zt4, zt5, zt6, zt7, zt8, zt9, zt10, zt11, zt12, zt13] at *) <;> omega)⟩ | exact qI_nf ⟨(FrV.trans (Ns := [0, 1, 2, 3, 4, 9, 10, 11]) ((FrV.trans (Ns := [0, 1, 2, 3, 4, 9, 10, 11]) (f0) f10 (by decide) (by decide))) f11 (by decide) (by decide)), by ((try have c0 := hq1 13 (by decide)); (try have c0 := hq1 13); (try have c2 := e10_2 13); (try have c6 := p11.2 13 (by omega)); (try simp only [zt0, zt1, zt2, zt3, zt4, zt5, zt6, zt7, zt8, zt9, zt10, zt11, zt12, zt13] at *) <;> omega)⟩
      · try simp only [zput_s, zput_n, ti_g, oI_add, oI_sub, oI_mul]
        exact ih _ _ _ (f0) (by first | omega | ((try simp only [zt0, zt1, zt2, zt3, zt4, zt5, zt6, zt7, zt8, zt9, zt10, zt11, zt12, zt13, true_and, and_true]); omega)) (by first | omega | ((try simp only [zt0, zt1, zt2, zt3, zt4, zt5, zt6, zt7, zt8, zt9, zt10, zt11, zt12, zt13, true_and, and_true]); omega))
theorem l203_32 {sh : zSh} {t0 : zSt} {MB : Nat} {r0 : Nat} (q0 : zMd sh MB r0) {x1 : Int} (u1 : -2147483648 ≤ x1 ∧ x1 ≤ 2147483647) (G : GI sh r0 t0) : ∀ (n : Nat) (x2 : Int)  (t1 : zSt), FrV sh r0 [0, 1, 2, 3, 4, 9, 10, 11] t0 t1 → (-2147483648 ≤ x2 ∧ x2 ≤ 2147483647) ∧ (0 ≤ x1 ∧ x1 ≤ 7 ∧ 0 ≤ x2 ∧ x2 ≤ 7) ∧ (tg t1 (sr sh r0 2) 13 = tg t0 (sr sh r0 2) 13) ∧ (zP1 (tg t1 (sr sh r0 3) (7 * x1 + 0).toNat) (tg t1 (sr sh r0 4) (7 * x1 + 0).toNat) + zU (tg t1 (sr sh r0 3) (7 * x1 + 1).toNat) (tg t1 (sr sh r0 4) (7 * x1 + 1).toNat) (tg t1 (sr sh r0 3) (7 * x1 + 2).toNat) (tg t1 (sr sh r0 4) (7 * x1 + 2).toNat) + zP1 (tg t1 (sr sh r0 3) (7 * x1 + 3).toNat) (tg t1 (sr sh r0 4) (7 * x1 + 3).toNat) + (tg t1 (sr sh r0 4) (7 * x1 + 4).toNat - tg t1 (sr sh r0 3) (7 * x1 + 4).toNat) + zP1 (tg t1 (sr sh r0 3) (7 * x1 + 5).toNat) (tg t1 (sr sh r0 4) (7 * x1 + 5).toNat) + zP1 (tg t1 (sr sh r0 3) (7 * x1 + 6).toNat) (tg t1 (sr sh r0 4) (7 * x1 + 6).toNat) ≤ tg t1 (sr sh r0 2) (x1).toNat) → (∀ k : Int, 0 ≤ k → k < x2 → tg t1 (sr sh r0 10) (k).toNat = tg t1 (sr sh r0 4) (7 * x1 + k).toNat - tg t1 (sr sh r0 3) (7 * x1 + k).toNat ∧ (tg t1 (sr sh r0 11) (k).toNat = 0 ∨ k = 4 ∨ 0 ≤ tg t1 (sr sh r0 3) (7 * x1 + k).toNat)) → (7 - x2).toNat < n → zok (zev zP 203 32 [some (zR r0), some (zI (oI x1)), some (zI (oI x2)), none] [] (sh, t1)) (qI (fun x t' => FrV sh r0 [0, 1, 2, 3, 4, 9, 10, 11] t0 t' ∧ (tg t' (sr sh r0 2) 13 = tg t0 (sr sh r0 2) 13)) sh) := by
  intro n
  induction n with
  | zero => intro x2  t1 f0 _ _ hm; omega
  | succ n ih =>
    intro x2  t1 f0 hv hq1 hm
    have ha0_1 : (sk sh (sr sh r0 1)).2 = 21000 := by rw [q0.2.2.2.2.1]
    have ha0_2 : (sk sh (sr sh r0 2)).2 = 14 := by rw [q0.2.2.2.2.2.1]
    have ha0_3 : (sk sh (sr sh r0 3)).2 = 98 := by rw [q0.2.2.2.2.2.2.1]
    have ha0_4 : (sk sh (sr sh r0 4)).2 = 98 := by rw [q0.2.2.2.2.2.2.2.1]
    have ha0_8 : (sk sh (sr sh r0 8)).2 = 1500 := by rw [q0.2.2.2.2.2.2.2.2.1]
    have ha0_9 : (sk sh (sr sh r0 9)).2 = 10500 := by rw [q0.2.2.2.2.2.2.2.2.2.1]
    have ha0_10 : (sk sh (sr sh r0 10)).2 = 7 := by rw [q0.2.2.2.2.2.2.2.2.2.2.1]
    have ha0_11 : (sk sh (sr sh r0 11)).2 = 7 := by rw [q0.2.2.2.2.2.2.2.2.2.2.2.1]
    have ha0_12 : (sk sh (sr sh r0 12)).2 = 1500 := by rw [q0.2.2.2.2.2.2.2.2.2.2.2.2.1]
    have ha0_13 : (sk sh (sr sh r0 13)).2 = 1500 := by rw [q0.2.2.2.2.2.2.2.2.2.2.2.2.2.1]
    have ha0_14 : (sk sh (sr sh r0 14)).2 = 20 := by rw [q0.2.2.2.2.2.2.2.2.2.2.2.2.2.2]
    try simp only [zt0, zt1, zt2, zt3, zt4, zt5, zt6, zt7, zt8, zt9, zt10, zt11, zt12, zt13] at hv
    try simp only [zt0, zt1, zt2, zt3, zt4, zt5, zt6, zt7, zt8, zt9, zt10, zt11, zt12, zt13] at hm
    have gb0 := ((f0.g).2.1 (7 * x1 + 0).toNat (by omega)).2.1
    try simp only [zt0, zt1, zt2, zt3, zt4, zt5, zt6, zt7, zt8, zt9, zt10, zt11, zt12, zt13] at gb0
    have gb1 := ((f0.g).2.1 (7 * x1 + 1).toNat (by omega)).2.1
    try simp only [zt0, zt1, zt2, zt3, zt4, zt5, zt6, zt7, zt8, zt9, zt10, zt11, zt12, zt13] at gb1
    have gb2 := ((f0.g).2.1 (7 * x1 + 2).toNat (by omega)).2.1
    try simp only [zt0, zt1, zt2, zt3, zt4, zt5, zt6, zt7, zt8, zt9, zt10, zt11, zt12, zt13] at gb2
    have gb3 := ((f0.g).2.1 (7 * x1 + 3).toNat (by omega)).2.1
    try simp only [zt0, zt1, zt2, zt3, zt4, zt5, zt6, zt7, zt8, zt9, zt10, zt11, zt12, zt13] at gb3
    have gb4 := ((f0.g).2.1 (7 * x1 + 4).toNat (by omega)).2.1
    try simp only [zt0, zt1, zt2, zt3, zt4, zt5, zt6, zt7, zt8, zt9, zt10, zt11, zt12, zt13] at gb4
    have gb5 := ((f0.g).2.1 (7 * x1 + 5).toNat (by omega)).2.1
    try simp only [zt0, zt1, zt2, zt3, zt4, zt5, zt6, zt7, zt8, zt9, zt10, zt11, zt12, zt13] at gb5
    have gb6 := ((f0.g).2.1 (7 * x1 + 6).toNat (by omega)).2.1
    try simp only [zt0, zt1, zt2, zt3, zt4, zt5, zt6, zt7, zt8, zt9, zt10, zt11, zt12, zt13] at gb6
    have gs := (f0.g).1 (x1).toNat (by omega)
    try simp only [zt0, zt1, zt2, zt3, zt4, zt5, zt6, zt7, zt8, zt9, zt10, zt11, zt12, zt13] at gs
    have hA : 7 ≤ x2 → (zJ sh r0 t1 0 ≤ zP1 (tg t1 (sr sh r0 3) (7 * x1 + 0).toNat) (tg t1 (sr sh r0 4) (7 * x1 + 0).toNat) ∧ zJ sh r0 t1 1 + zJ sh r0 t1 2 ≤ zU (tg t1 (sr sh r0 3) (7 * x1 + 1).toNat) (tg t1 (sr sh r0 4) (7 * x1 + 1).toNat) (tg t1 (sr sh r0 3) (7 * x1 + 2).toNat) (tg t1 (sr sh r0 4) (7 * x1 + 2).toNat) ∧ zJ sh r0 t1 3 ≤ zP1 (tg t1 (sr sh r0 3) (7 * x1 + 3).toNat) (tg t1 (sr sh r0 4) (7 * x1 + 3).toNat) ∧ zJ sh r0 t1 5 ≤ zP1 (tg t1 (sr sh r0 3) (7 * x1 + 5).toNat) (tg t1 (sr sh r0 4) (7 * x1 + 5).toNat) ∧ zJ sh r0 t1 6 ≤ zP1 (tg t1 (sr sh r0 3) (7 * x1 + 6).toNat) (tg t1 (sr sh r0 4) (7 * x1 + 6).toNat) ∧ tg t1 (sr sh r0 10) 4 = tg t1 (sr sh r0 4) (7 * x1 + 4).toNat - tg t1 (sr sh r0 3) (7 * x1 + 4).toNat) := fun h => ⟨zJ_P (sh := sh) (m := r0) (t := t1) (p := 0) (by omega) (by have h1 := (hq1 0 (by omega) (by omega)).2; simp only [zt0, zt1, zt2, zt3, zt4, zt5, zt6] at h1; omega) (by have h1 := (hq1 0 (by omega) (by omega)).1; exact h1) (by have h1 := gb0; omega), zJ_U (by have h1 := (hq1 1 (by omega) (by omega)).2; simp only [zt1] at h1; omega) (by have h1 := (hq1 2 (by omega) (by omega)).2; simp only [zt2] at h1; omega) (hq1 1 (by omega) (by omega)).1 (hq1 2 (by omega) (by omega)).1 gb1 gb2, zJ_P (sh := sh) (m := r0) (t := t1) (p := 3) (by omega) (by have h1 := (hq1 3 (by omega) (by omega)).2; simp only [zt0, zt1, zt2, zt3, zt4, zt5, zt6] at h1; omega) (by have h1 := (hq1 3 (by omega) (by omega)).1; exact h1) (by have h1 := gb3; omega), zJ_P (sh := sh) (m := r0) (t := t1) (p := 5) (by omega) (by have h1 := (hq1 5 (by omega) (by omega)).2; simp only [zt0, zt1, zt2, zt3, zt4, zt5, zt6] at h1; omega) (by have h1 := (hq1 5 (by omega) (by omega)).1; exact h1) (by have h1 := gb5; omega), zJ_P (sh := sh) (m := r0) (t := t1) (p := 6) (by omega) (by have h1 := (hq1 6 (by omega) (by omega)).2; simp only [zt0, zt1, zt2, zt3, zt4, zt5, zt6] at h1; omega) (by have h1 := (hq1 6 (by omega) (by omega)).1; exact h1) (by have h1 := gb6; omega), (hq1 4 (by omega) (by omega)).1⟩
    try simp only [zt0, zt1, zt2, zt3, zt4, zt5, zt6, zt7, zt8, zt9, zt10, zt11, zt12, zt13] at hA
    rw [b203_32]
    try simp only [zput_s, zput_n, ti_g, oI_add, oI_sub, oI_mul]
    first | refine zok_le (by omega) (fun c2 => ?_) (fun c2 => ?_) | refine zok_if (fun c2 => ?_) (fun c2 => ?_)
    · refine zok_ck ((q0).1) ?_
      refine zok_pI (s193 (q0) (by omega) (by first | (omega) | ((try simp only [zt0, zt1, zt2, zt3, zt4, zt5, zt6, zt7, zt8, zt9, zt10, zt11, zt12, zt13]); omega)) (f0.g)) (fun y3 u3 p3 => ?_)
      obtain ⟨rfl, p3⟩ := p3
      try simp only [zt0, zt1, zt2, zt3, zt4, zt5, zt6, zt7, zt8, zt9, zt10, zt11, zt12, zt13] at p3
      simp only [zput_s, zput_n, ti_g, oI_add, oI_sub, oI_mul, zt0, zt1, zt2, zt3, zt4, zt5, zt6, zt7, zt8, zt9, zt10, zt11, zt12, zt13, b203_55]
      try simp only [zput_s, zput_n, ti_g, oI_add, oI_sub, oI_mul]
      refine zok_ck ((q0).1) ?_
      refine zok_ck ⟨(by rw [(q0).2.2.2.2.2.2.2.2.2.2.1]), zin_o (by omega) (by omega) (by omega)⟩ ?_
      try rw [nN_o (a := 4) (by omega) (by omega)]
      try rw [show (4 : Int).toNat = 4 from rfl]
      try simp only [zput_s, zput_n, ti_g, oI_add, oI_sub, oI_mul, zt0, zt1, zt2, zt3, zt4, zt5, zt6, zt7, zt8, zt9, zt10, zt11, zt12, zt13]
      have gl5 := And.intro (tg_lo t1 (sr sh r0 10) (4)) (tg_hi t1 (sr sh r0 10) (4))
      have gm5 := (f0.g).2.2.1 (4) (by omega)
      try simp only [zt0, zt1, zt2, zt3, zt4, zt5, zt6, zt7, zt8, zt9, zt10, zt11, zt12, zt13] at gl5
      try simp only [zt0, zt1, zt2, zt3, zt4, zt5, zt6, zt7, zt8, zt9, zt10, zt11, zt12, zt13] at gm5
      first | refine zok_le (by omega) (fun c6 => ?_) (fun c6 => ?_) | refine zok_if (fun c6 => ?_) (fun c6 => ?_)
      · try simp only [zput_s, zput_n, ti_g, oI_add, oI_sub, oI_mul]
        exact l203_84 q0 (by omega) G _ _ _ _ (f0) (by first | omega | ((try simp only [zt0, zt1, zt2, zt3, zt4, zt5, zt6, zt7, zt8, zt9, zt10, zt11, zt12, zt13, true_and, and_true]); omega)) (Nat.lt_succ_self _)
      · refine zok_ck ((q0).1) ?_
        refine zok_pI (s160 (q0) (by omega) (by omega) (by first | (omega) | ((try simp only [zt0, zt1, zt2, zt3, zt4, zt5, zt6, zt7, zt8, zt9, zt10, zt11, zt12, zt13]); omega)) (f0.g)) (fun y7 u7 p7 => ?_)
        try simp only [zt0, zt1, zt2, zt3, zt4, zt5, zt6, zt7, zt8, zt9, zt10, zt11, zt12, zt13] at p7
        simp only [zput_s, zput_n, ti_g, oI_add, oI_sub, oI_mul, zt0, zt1, zt2, zt3, zt4, zt5, zt6, zt7, zt8, zt9, zt10, zt11, zt12, zt13, b203_76]
        try simp only [zput_s, zput_n, ti_g, oI_add, oI_sub, oI_mul]
        first | refine zok_ne (by omega) (fun c9 => ?_) (fun c9 => ?_) | refine zok_if (fun c9 => ?_) (fun c9 => ?_)
        · try simp only [zput_s, zput_n, ti_g, oI_add, oI_sub, oI_mul]
          exact l203_84 q0 (by omega) G _ _ _ _ (f0) (by first | omega | ((try simp only [zt0, zt1, zt2, zt3, zt4, zt5, zt6, zt7, zt8, zt9, zt10, zt11, zt12, zt13, true_and, and_true]); omega)) (Nat.lt_succ_self _)
        · try simp only [zput_s, zput_n, ti_g, oI_add, oI_sub, oI_mul]
          exact l203_84 q0 (by omega) G _ _ _ _ (f0) (by first | omega | ((try simp only [zt0, zt1, zt2, zt3, zt4, zt5, zt6, zt7, zt8, zt9, zt10, zt11, zt12, zt13, true_and, and_true]); omega)) (Nat.lt_succ_self _)
    · refine zok_ck ((q0).1) ?_
      have gq10_0 : -1 ≤ tg t1 (sr sh r0 3) (7 * x1 + x2).toNat ∧ tg t1 (sr sh r0 3) (7 * x1 + x2).toNat ≤ tg t1 (sr sh r0 4) (7 * x1 + x2).toNat ∧ tg t1 (sr sh r0 4) (7 * x1 + x2).toNat ≤ 400 := by have g := (f0.g).2.1 (7 * x1 + x2).toNat (by omega); exact ⟨g.1, g.2.1, g.2.2.2 (by omega)⟩
      try simp only [zt0, zt1, zt2, zt3, zt4, zt5, zt6, zt7, zt8, zt9, zt10, zt11, zt12, zt13] at gq10_0
      refine zok_c0 (s153 (q0) (by omega) (by omega) (by first | (omega) | ((try simp only [zt0, zt1, zt2, zt3, zt4, zt5, zt6, zt7, zt8, zt9, zt10, zt11, zt12, zt13]); omega)) (by first | (omega) | ((try simp only [zt0, zt1, zt2, zt3, zt4, zt5, zt6, zt7, zt8, zt9, zt10, zt11, zt12, zt13]); omega)) (f0.g)) (fun t10 p10 => ?_)
      obtain ⟨f10, p10⟩ := p10
      have e10_2 : ∀ k, tg t10 (sr sh r0 2) k = tg t1 (sr sh r0 2) k := fun k => f10.eq q0 (i := 2) (by decide) (by decide) k
      have e10_3 : ∀ k, tg t10 (sr sh r0 3) k = tg t1 (sr sh r0 3) k := fun k => f10.eq q0 (i := 3) (by decide) (by decide) k
      have e10_4 : ∀ k, tg t10 (sr sh r0 4) k = tg t1 (sr sh r0 4) k := fun k => f10.eq q0 (i := 4) (by decide) (by decide) k
      have d10_0 : tg t10 r0 0 = tg t1 r0 0 := f10.eq q0 (i := 0) (by decide) (by decide) 0
      try simp only [zt0, zt1, zt2, zt3, zt4, zt5, zt6, zt7, zt8, zt9, zt10, zt11, zt12, zt13, e10_2, e10_3, e10_4] at p10
      simp only [zput_s, zput_n, ti_g, oI_add, oI_sub, oI_mul, zt0, zt1, zt2, zt3, zt4, zt5, zt6, zt7, zt8, zt9, zt10, zt11, zt12, zt13, e10_2, e10_3, e10_4, b203_44]
      try simp only [zput_s, zput_n, ti_g, oI_add, oI_sub, oI_mul]
      try simp only [zput_s, zput_n, ti_g, oI_add, oI_sub, oI_mul]
      exact ih _ _ ((FrV.trans (Ns := [0, 1, 2, 3, 4, 9, 10, 11]) (f0) f10 (by decide) (by decide))) (by first | omega | ((try simp only [zt0, zt1, zt2, zt3, zt4, zt5, zt6, zt7, zt8, zt9, zt10, zt11, zt12, zt13, e10_2, e10_3, e10_4, true_and, and_true]); omega)) (fun k hk0 hk => by first | omega | (rcases Classical.em (k = x2) with h | h <;> first | (rw [h]; (try simp only [zt0, zt1, zt2, zt3, zt4, zt5, zt6, zt7, zt8, zt9, zt10, zt11, zt12, zt13, e10_2, e10_3, e10_4, true_and]); refine ⟨by omega, by omega⟩) | (have h1 := hq1 k hk0 (by omega); have h2 := p10.2.1 (k).toNat (by omega); have h3 := p10.2.2.2 (k).toNat (by omega); (try simp only [zt0, zt1, zt2, zt3, zt4, zt5, zt6, zt7, zt8, zt9, zt10, zt11, zt12, zt13, e10_2, e10_3, e10_4, true_and]); (try simp only [zt0, zt1, zt2, zt3, zt4, zt5, zt6, zt7, zt8, zt9, zt10, zt11, zt12, zt13, e10_2, e10_3, e10_4, true_and] at h2 h3); rw [h2, h3]; exact h1))) (by first | omega | ((try simp only [zt0, zt1, zt2, zt3, zt4, zt5, zt6, zt7, zt8, zt9, zt10, zt11, zt12, zt13, e10_2, e10_3, e10_4, true_and, and_true]); omega))
theorem s203 {sh : zSh} {t : zSt} {MB : Nat} {r0 : Nat} (q0 : zMd sh MB r0) {x1 : Int} (u1 : -2147483648 ≤ x1 ∧ x1 ≤ 2147483647) (G : GI sh r0 t) : zok (zcl zP 203 [zR r0, zI (oI x1)] (sh, t)) (qI (fun x t' => FrV sh r0 [0, 1, 2, 3, 4, 9, 10, 11] t t' ∧ (tg t' (sr sh r0 2) 13 = tg t (sr sh r0 2) 13)) sh) := by
  have ha0_1 : (sk sh (sr sh r0 1)).2 = 21000 := by rw [q0.2.2.2.2.1]
  have ha0_2 : (sk sh (sr sh r0 2)).2 = 14 := by rw [q0.2.2.2.2.2.1]
  have ha0_3 : (sk sh (sr sh r0 3)).2 = 98 := by rw [q0.2.2.2.2.2.2.1]
  have ha0_4 : (sk sh (sr sh r0 4)).2 = 98 := by rw [q0.2.2.2.2.2.2.2.1]
  have ha0_8 : (sk sh (sr sh r0 8)).2 = 1500 := by rw [q0.2.2.2.2.2.2.2.2.1]
  have ha0_9 : (sk sh (sr sh r0 9)).2 = 10500 := by rw [q0.2.2.2.2.2.2.2.2.2.1]
  have ha0_10 : (sk sh (sr sh r0 10)).2 = 7 := by rw [q0.2.2.2.2.2.2.2.2.2.2.1]
  have ha0_11 : (sk sh (sr sh r0 11)).2 = 7 := by rw [q0.2.2.2.2.2.2.2.2.2.2.2.1]
  have ha0_12 : (sk sh (sr sh r0 12)).2 = 1500 := by rw [q0.2.2.2.2.2.2.2.2.2.2.2.2.1]
  have ha0_13 : (sk sh (sr sh r0 13)).2 = 1500 := by rw [q0.2.2.2.2.2.2.2.2.2.2.2.2.2.1]
  have ha0_14 : (sk sh (sr sh r0 14)).2 = 20 := by rw [q0.2.2.2.2.2.2.2.2.2.2.2.2.2.2]
  rw [b203_0]
  try simp only [zput_s, zput_n, ti_g, oI_add, oI_sub, oI_mul]
  refine zok_pI (s127 (by omega)) (fun y13 u13 p13 => ?_)
  try simp only [zt0, zt1, zt2, zt3, zt4, zt5, zt6, zt7, zt8, zt9, zt10, zt11, zt12, zt13] at p13
  have g14_1 := And.intro (tg_lo (tI t r0 0 (oI 1)) r0 0) (tg_hi (tI t r0 0 (oI 1)) r0 0)
  have g14_2 := And.intro (tg_lo (tI t r0 0 (oI 0)) r0 0) (tg_hi (tI t r0 0 (oI 0)) r0 0)
  simp only [zput_s, zput_n, ti_g, oI_add, oI_sub, oI_mul, zt0, zt1, zt2, zt3, zt4, zt5, zt6, zt7, zt8, zt9, zt10, zt11, zt12, zt13, b203_5]
  try simp only [zput_s, zput_n, ti_g, oI_add, oI_sub, oI_mul]
  first | refine zok_eq (by omega) (fun c15 => ?_) (fun c15 => ?_) | refine zok_if (fun c15 => ?_) (fun c15 => ?_)
  · refine zok_ck (by first | exact ⟨(q0).1, fun e => by cases e⟩ | exact (q0).1) ?_
    obtain ⟨t16, ht16⟩ : ∃ t', t' = tI t r0 (0) (oI (1)) := ⟨_, rfl⟩
    try simp only [zt0, zt1, zt2, zt3, zt4, zt5, zt6, zt7, zt8, zt9, zt10, zt11, zt12, zt13] at ht16
    rw [← ht16]
    have f16 : FrV sh r0 [0] t t16 := by rw [ht16]; exact GI_m q0 (G) (by omega) (fun e => by first | omega | cases e) (fun e => by first | omega | cases e)
    have d16_0 : tg t16 r0 0 = 1 := by rw [ht16]; refine (tg_at (by omega)).trans ?_; first | exact if_pos rfl | exact if_neg (by decide) | (simp only [zt0, zt1, zt2, zt3, zt4, zt5, zt6, zt7, zt8, zt9, zt10, zt11, zt12, zt13, true_and, if_true])
    try simp only [zt0, zt1, zt2, zt3, zt4, zt5, zt6, zt7, zt8, zt9, zt10, zt11, zt12, zt13] at d16_0
    have e16_2 : ∀ k, tg t16 (sr sh r0 2) k = tg t (sr sh r0 2) k := fun k => f16.eq q0 (i := 2) (by decide) (by decide) k
    have e16_3 : ∀ k, tg t16 (sr sh r0 3) k = tg t (sr sh r0 3) k := fun k => f16.eq q0 (i := 3) (by decide) (by decide) k
    have e16_4 : ∀ k, tg t16 (sr sh r0 4) k = tg t (sr sh r0 4) k := fun k => f16.eq q0 (i := 4) (by decide) (by decide) k
    have e16_10 : ∀ k, tg t16 (sr sh r0 10) k = tg t (sr sh r0 10) k := fun k => f16.eq q0 (i := 10) (by decide) (by decide) k
    have e16_11 : ∀ k, tg t16 (sr sh r0 11) k = tg t (sr sh r0 11) k := fun k => f16.eq q0 (i := 11) (by decide) (by decide) k
    refine zok_ck ((q0).1) ?_
    first | refine zok_le (by omega) (fun c17 => ?_) (fun c17 => ?_) | refine zok_if (fun c17 => ?_) (fun c17 => ?_)
    · refine zok_ck ((q0).1) ?_
      have gs18 := (f16.g).1 (x1).toNat (by omega)
      try simp only [zt0, zt1, zt2, zt3, zt4, zt5, zt6, zt7, zt8, zt9, zt10, zt11, zt12, zt13, e16_2, e16_3, e16_4, e16_10, e16_11] at gs18
      refine zok_c0 (s138 (q0) (by omega) (by first | (omega) | ((try simp only [zt0, zt1, zt2, zt3, zt4, zt5, zt6, zt7, zt8, zt9, zt10, zt11, zt12, zt13, e16_2, e16_3, e16_4, e16_10, e16_11]); omega)) (by first | (omega) | ((try simp only [zt0, zt1, zt2, zt3, zt4, zt5, zt6, zt7, zt8, zt9, zt10, zt11, zt12, zt13, e16_2, e16_3, e16_4, e16_10, e16_11]); omega)) (f16.g)) (fun t18 p18 => ?_)
      obtain ⟨f18, p18⟩ := p18
      have e18_2 : ∀ k, tg t18 (sr sh r0 2) k = tg t16 (sr sh r0 2) k := fun k => f18.eq q0 (i := 2) (by decide) (by decide) k
      have e18_10 : ∀ k, tg t18 (sr sh r0 10) k = tg t16 (sr sh r0 10) k := fun k => f18.eq q0 (i := 10) (by decide) (by decide) k
      have e18_11 : ∀ k, tg t18 (sr sh r0 11) k = tg t16 (sr sh r0 11) k := fun k => f18.eq q0 (i := 11) (by decide) (by decide) k
      have d18_0 : tg t18 r0 0 = tg t16 r0 0 := f18.eq q0 (i := 0) (by decide) (by decide) 0
      try simp only [zt0, zt1, zt2, zt3, zt4, zt5, zt6, zt7, zt8, zt9, zt10, zt11, zt12, zt13, e16_2, e16_3, e16_4, e16_10, e16_11, e18_2, e18_10, e18_11] at p18
      simp only [zput_s, zput_n, ti_g, oI_add, oI_sub, oI_mul, zt0, zt1, zt2, zt3, zt4, zt5, zt6, zt7, zt8, zt9, zt10, zt11, zt12, zt13, e16_2, e16_3, e16_4, e16_10, e16_11, e18_2, e18_10, e18_11, b203_30]
      try simp only [zput_s, zput_n, ti_g, oI_add, oI_sub, oI_mul]
      try simp only [zput_s, zput_n, ti_g, oI_add, oI_sub, oI_mul]
      exact l203_32 q0 (by omega) G _ _ _ ((FrV.trans (Ns := [0, 1, 2, 3, 4, 9, 10, 11]) ((FrV.trans (Ns := [0, 1, 2, 3, 4, 9, 10, 11]) (FrV.refl (Ls := []) G) f16 (by decide) (by decide))) f18 (by decide) (by decide))) (by first | omega | ((try simp only [zt0, zt1, zt2, zt3, zt4, zt5, zt6, zt7, zt8, zt9, zt10, zt11, zt12, zt13, e16_2, e16_3, e16_4, e16_10, e16_11, e18_2, e18_10, e18_11, true_and, and_true]); omega)) (fun k hk0 hk => by first | omega | (rcases Classical.em (k = x2) with h | h <;> first | (rw [h]; (try simp only [zt0, zt1, zt2, zt3, zt4, zt5, zt6, zt7, zt8, zt9, zt10, zt11, zt12, zt13, e16_2, e16_3, e16_4, e16_10, e16_11, e18_2, e18_10, e18_11, true_and]); refine ⟨by omega, by omega⟩) | (have h1 := hq1 k hk0 (by omega); have h2 := p18.2.1 (k).toNat (by omega); have h3 := p18.2.2.2 (k).toNat (by omega); (try simp only [zt0, zt1, zt2, zt3, zt4, zt5, zt6, zt7, zt8, zt9, zt10, zt11, zt12, zt13, e16_2, e16_3, e16_4, e16_10, e16_11, e18_2, e18_10, e18_11, true_and]); (try simp only [zt0, zt1, zt2, zt3, zt4, zt5, zt6, zt7, zt8, zt9, zt10, zt11, zt12, zt13, e16_2, e16_3, e16_4, e16_10, e16_11, e18_2, e18_10, e18_11, true_and] at h2 h3); rw [h2, h3]; exact h1))) (Nat.lt_succ_self _)
    · first | exact qI_rt (by omega) (by omega) ⟨(FrV.trans (Ns := [0, 1, 2, 3, 4, 9, 10, 11]) (FrV.refl (Ls := []) G) f16 (by decide) (by decide)), by ((try have c0 := hq1 13 (by decide)); (try have c0 := hq1 13); (try have c1 := e16_2 13); (try simp only [zt0, zt1, zt2, zt3, zt4, zt5, zt6, zt7, zt8, zt9, zt10, zt11, zt12, zt13] at *) <;> omega)⟩ | exact qI_nf ⟨(FrV.trans (Ns := [0, 1, 2, 3, 4, 9, 10, 11]) (FrV.refl (Ls := []) G) f16 (by decide) (by decide)), by ((try have c0 := hq1 13 (by decide)); (try have c0 := hq1 13); (try have c1 := e16_2 13); (try simp only [zt0, zt1, zt2, zt3, zt4, zt5, zt6, zt7, zt8, zt9, zt10, zt11, zt12, zt13] at *) <;> omega)⟩
  · refine zok_ck (by first | exact ⟨(q0).1, fun e => by cases e⟩ | exact (q0).1) ?_
    obtain ⟨t20, ht20⟩ : ∃ t', t' = tI t r0 (0) (oI (0)) := ⟨_, rfl⟩
    try simp only [zt0, zt1, zt2, zt3, zt4, zt5, zt6, zt7, zt8, zt9, zt10, zt11, zt12, zt13] at ht20
    rw [← ht20]
    have f20 : FrV sh r0 [0] t t20 := by rw [ht20]; exact GI_m q0 (G) (by omega) (fun e => by first | omega | cases e) (fun e => by first | omega | cases e)
    have d20_0 : tg t20 r0 0 = 0 := by rw [ht20]; refine (tg_at (by omega)).trans ?_; first | exact if_pos rfl | exact if_neg (by decide) | (simp only [zt0, zt1, zt2, zt3, zt4, zt5, zt6, zt7, zt8, zt9, zt10, zt11, zt12, zt13, true_and, if_true])
    try simp only [zt0, zt1, zt2, zt3, zt4, zt5, zt6, zt7, zt8, zt9, zt10, zt11, zt12, zt13] at d20_0
    have e20_2 : ∀ k, tg t20 (sr sh r0 2) k = tg t (sr sh r0 2) k := fun k => f20.eq q0 (i := 2) (by decide) (by decide) k
    have e20_3 : ∀ k, tg t20 (sr sh r0 3) k = tg t (sr sh r0 3) k := fun k => f20.eq q0 (i := 3) (by decide) (by decide) k
    have e20_4 : ∀ k, tg t20 (sr sh r0 4) k = tg t (sr sh r0 4) k := fun k => f20.eq q0 (i := 4) (by decide) (by decide) k
    have e20_10 : ∀ k, tg t20 (sr sh r0 10) k = tg t (sr sh r0 10) k := fun k => f20.eq q0 (i := 10) (by decide) (by decide) k
    have e20_11 : ∀ k, tg t20 (sr sh r0 11) k = tg t (sr sh r0 11) k := fun k => f20.eq q0 (i := 11) (by decide) (by decide) k
    refine zok_ck ((q0).1) ?_
    first | refine zok_le (by omega) (fun c21 => ?_) (fun c21 => ?_) | refine zok_if (fun c21 => ?_) (fun c21 => ?_)
    · refine zok_ck ((q0).1) ?_
      have gs22 := (f20.g).1 (x1).toNat (by omega)
      try simp only [zt0, zt1, zt2, zt3, zt4, zt5, zt6, zt7, zt8, zt9, zt10, zt11, zt12, zt13, e20_2, e20_3, e20_4, e20_10, e20_11] at gs22
      refine zok_c0 (s138 (q0) (by omega) (by first | (omega) | ((try simp only [zt0, zt1, zt2, zt3, zt4, zt5, zt6, zt7, zt8, zt9, zt10, zt11, zt12, zt13, e20_2, e20_3, e20_4, e20_10, e20_11]); omega)) (by first | (omega) | ((try simp only [zt0, zt1, zt2, zt3, zt4, zt5, zt6, zt7, zt8, zt9, zt10, zt11, zt12, zt13, e20_2, e20_3, e20_4, e20_10, e20_11]); omega)) (f20.g)) (fun t22 p22 => ?_)
      obtain ⟨f22, p22⟩ := p22
      have e22_2 : ∀ k, tg t22 (sr sh r0 2) k = tg t20 (sr sh r0 2) k := fun k => f22.eq q0 (i := 2) (by decide) (by decide) k
      have e22_10 : ∀ k, tg t22 (sr sh r0 10) k = tg t20 (sr sh r0 10) k := fun k => f22.eq q0 (i := 10) (by decide) (by decide) k
      have e22_11 : ∀ k, tg t22 (sr sh r0 11) k = tg t20 (sr sh r0 11) k := fun k => f22.eq q0 (i := 11) (by decide) (by decide) k
      have d22_0 : tg t22 r0 0 = tg t20 r0 0 := f22.eq q0 (i := 0) (by decide) (by decide) 0
      try simp only [zt0, zt1, zt2, zt3, zt4, zt5, zt6, zt7, zt8, zt9, zt10, zt11, zt12, zt13, e20_2, e20_3, e20_4, e20_10, e20_11, e22_2, e22_10, e22_11] at p22
      simp only [zput_s, zput_n, ti_g, oI_add, oI_sub, oI_mul, zt0, zt1, zt2, zt3, zt4, zt5, zt6, zt7, zt8, zt9, zt10, zt11, zt12, zt13, e20_2, e20_3, e20_4, e20_10, e20_11, e22_2, e22_10, e22_11, b203_30]
      try simp only [zput_s, zput_n, ti_g, oI_add, oI_sub, oI_mul]
      try simp only [zput_s, zput_n, ti_g, oI_add, oI_sub, oI_mul]
      exact l203_32 q0 (by omega) G _ _ _ ((FrV.trans (Ns := [0, 1, 2, 3, 4, 9, 10, 11]) ((FrV.trans (Ns := [0, 1, 2, 3, 4, 9, 10, 11]) (FrV.refl (Ls := []) G) f20 (by decide) (by decide))) f22 (by decide) (by decide))) (by first | omega | ((try simp only [zt0, zt1, zt2, zt3, zt4, zt5, zt6, zt7, zt8, zt9, zt10, zt11, zt12, zt13, e20_2, e20_3, e20_4, e20_10, e20_11, e22_2, e22_10, e22_11, true_and, and_true]); omega)) (fun k hk0 hk => by first | omega | (rcases Classical.em (k = x2) with h | h <;> first | (rw [h]; (try simp only [zt0, zt1, zt2, zt3, zt4, zt5, zt6, zt7, zt8, zt9, zt10, zt11, zt12, zt13, e20_2, e20_3, e20_4, e20_10, e20_11, e22_2, e22_10, e22_11, true_and]); refine ⟨by omega, by omega⟩) | (have h1 := hq1 k hk0 (by omega); have h2 := p22.2.1 (k).toNat (by omega); have h3 := p22.2.2.2 (k).toNat (by omega); (try simp only [zt0, zt1, zt2, zt3, zt4, zt5, zt6, zt7, zt8, zt9, zt10, zt11, zt12, zt13, e20_2, e20_3, e20_4, e20_10, e20_11, e22_2, e22_10, e22_11, true_and]); (try simp only [zt0, zt1, zt2, zt3, zt4, zt5, zt6, zt7, zt8, zt9, zt10, zt11, zt12, zt13, e20_2, e20_3, e20_4, e20_10, e20_11, e22_2, e22_10, e22_11, true_and] at h2 h3); rw [h2, h3]; exact h1))) (Nat.lt_succ_self _)
    · first | exact qI_rt (by omega) (by omega) ⟨(FrV.trans (Ns := [0, 1, 2, 3, 4, 9, 10, 11]) (FrV.refl (Ls := []) G) f20 (by decide) (by decide)), by ((try have c0 := hq1 13 (by decide)); (try have c0 := hq1 13); (try have c1 := e20_2 13); (try simp only [zt0, zt1, zt2, zt3, zt4, zt5, zt6, zt7, zt8, zt9, zt10, zt11, zt12, zt13] at *) <;> omega)⟩ | exact qI_nf ⟨(FrV.trans (Ns := [0, 1, 2, 3, 4, 9, 10, 11]) (FrV.refl (Ls := []) G) f20 (by decide) (by decide)), by ((try have c0 := hq1 13 (by decide)); (try have c0 := hq1 13); (try have c1 := e20_2 13); (try simp only [zt0, zt1, zt2, zt3, zt4, zt5, zt6, zt7, zt8, zt9, zt10, zt11, zt12, zt13] at *) <;> omega)⟩
