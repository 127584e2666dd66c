set_option maxRecDepth 16384
/-! X9_normaliseTo -/
theorem l185_186 {sh : zSh} {t0 : zSt} {MB : Nat} {r0 : Nat} (q0 : zMd sh MB r0) {x1 : Int} (u1 : -2147483648 ≤ x1 ∧ x1 ≤ 2147483647) {x2 : Int} (u2 : -2147483648 ≤ x2 ∧ x2 ≤ 2147483647) {x3 : Int} (u3 : -2147483648 ≤ x3 ∧ x3 ≤ 2147483647) (d1 : 8 ≤ x1 ∧ x1 ≤ 9) (d2 : 0 ≤ x2 ∧ x2 ≤ 7) (G : GI sh r0 t0) : ∀ (n : Nat) (x4 : Int)  (t1 : zSt), FrV sh r0 [0, 1, 2, 3, 4, 9, 10, 11, 12, 13, 14] t0 t1 → (-2147483648 ≤ x4 ∧ x4 ≤ 2147483647) ∧ (tg t1 (sr sh r0 10) 0 ≤ 401) ∧ (tg t1 (sr sh r0 10) 1 ≤ 401) ∧ (tg t1 (sr sh r0 10) 2 ≤ 401) ∧ (tg t1 (sr sh r0 10) 3 ≤ 401) ∧ (tg t1 (sr sh r0 10) 4 ≤ 405) ∧ (tg t1 (sr sh r0 10) 5 ≤ 401) ∧ (tg t1 (sr sh r0 10) 6 ≤ 401) → (∀ k, k ≠ (x1).toNat ∧ k ≠ 12 → tg t1 (sr sh r0 2) k = tg t0 (sr sh r0 2) k) → ((0 : Int)).toNat < n → zok (zev zP 185 186 [some (zR r0), some (zI (oI x1)), some (zI (oI x2)), some (zI (oI x3)), some (zI (oI x4))] [] (sh, t1)) (zq0 (fun t' => FrV sh r0 [0, 1, 2, 3, 4, 9, 10, 11, 12, 13, 14] t0 t' ∧ (∀ k, k ≠ (x1).toNat ∧ k ≠ 12 → tg t' (sr sh r0 2) k = tg t0 (sr sh r0 2) k)) sh) := by
  intro n
  induction n with
  | zero => intro x4  t1 f0 _ _ hm; omega
  | succ n ih =>
    intro x4  t1 f0 hv hq1 hm
    have ha0_1 : (sk sh (sr sh r0 1)).2 = 21000 := by rw [q0.2.2.2.2.1]
    have ha0_2 : (sk sh (sr sh r0 2)).2 = 14 := by rw [q0.2.2.2.2.2.1]
    have ha0_3 : (sk sh (sr sh r0 3)).2 = 98 := by rw [q0.2.2.2.2.2.2.1]
    have ha0_4 : (sk sh (sr sh r0 4)).2 = 98 := by rw [q0.2.2.2.2.2.2.2.1]
    have ha0_8 : (sk sh (sr sh r0 8)).2 = 1500 := by rw [q0.2.2.2.2.2.2.2.2.1]
    have ha0_9 : (sk sh (sr sh r0 9)).2 = 10500 := by rw [q0.2.2.2.2.2.2.2.2.2.1]
    have ha0_10 : (sk sh (sr sh r0 10)).2 = 7 := by rw [q0.2.2.2.2.2.2.2.2.2.2.1]
    have ha0_11 : (sk sh (sr sh r0 11)).2 = 7 := by rw [q0.2.2.2.2.2.2.2.2.2.2.2.1]
    have ha0_12 : (sk sh (sr sh r0 12)).2 = 1500 := by rw [q0.2.2.2.2.2.2.2.2.2.2.2.2.1]
    have ha0_13 : (sk sh (sr sh r0 13)).2 = 1500 := by rw [q0.2.2.2.2.2.2.2.2.2.2.2.2.2.1]
    have ha0_14 : (sk sh (sr sh r0 14)).2 = 20 := by rw [q0.2.2.2.2.2.2.2.2.2.2.2.2.2.2]
    try simp only [zt0, zt1, zt2, zt3, zt4, zt5, zt6, zt7, zt8, zt9, zt10, zt11, zt12, zt13] at hv
    try simp only [zt0, zt1, zt2, zt3, zt4, zt5, zt6, zt7, zt8, zt9, zt10, zt11, zt12, zt13] at hm
    rw [b185_186]
    try simp only [zput_s, zput_n, ti_g, oI_add, oI_sub, oI_mul]
    refine zok_ck ((q0).1) ?_
    have hz72 := zJ7_le (f0.g)
    try simp only [zt0, zt1, zt2, zt3, zt4, zt5, zt6, zt7, zt8, zt9, zt10, zt11, zt12, zt13] at hz72
    refine zok_c0 (s158 (q0) (by omega) (by first | (omega) | ((try simp only [zt0, zt1, zt2, zt3, zt4, zt5, zt6, zt7, zt8, zt9, zt10, zt11, zt12, zt13]); omega)) (by first | (omega) | ((try simp only [zt0, zt1, zt2, zt3, zt4, zt5, zt6, zt7, zt8, zt9, zt10, zt11, zt12, zt13]); omega)) (f0.g)) (fun t2 p2 => ?_)
    obtain ⟨f2, p2⟩ := p2
    have e2_3 : ∀ k, tg t2 (sr sh r0 3) k = tg t1 (sr sh r0 3) k := fun k => f2.eq q0 (i := 3) (by decide) (by decide) k
    have e2_4 : ∀ k, tg t2 (sr sh r0 4) k = tg t1 (sr sh r0 4) k := fun k => f2.eq q0 (i := 4) (by decide) (by decide) k
    have e2_10 : ∀ k, tg t2 (sr sh r0 10) k = tg t1 (sr sh r0 10) k := fun k => f2.eq q0 (i := 10) (by decide) (by decide) k
    have e2_11 : ∀ k, tg t2 (sr sh r0 11) k = tg t1 (sr sh r0 11) k := fun k => f2.eq q0 (i := 11) (by decide) (by decide) k
    try simp only [zt0, zt1, zt2, zt3, zt4, zt5, zt6, zt7, zt8, zt9, zt10, zt11, zt12, zt13, e2_3, e2_4, e2_10, e2_11] at p2
    simp only [zput_s, zput_n, ti_g, oI_add, oI_sub, oI_mul, zt0, zt1, zt2, zt3, zt4, zt5, zt6, zt7, zt8, zt9, zt10, zt11, zt12, zt13, e2_3, e2_4, e2_10, e2_11, b185_191]
    try simp only [zput_s, zput_n, ti_g, oI_add, oI_sub, oI_mul]
    exact q0_rt ⟨(FrV.trans (Ns := [0, 1, 2, 3, 4, 9, 10, 11, 12, 13, 14]) (f0) f2 (by decide) (by decide)), fun k hk => by ((try have c0 := hq1 k hk); (try have c0 := hq1 k); (have c1 := p2.2 k (by omega)); (try simp only [zt0, zt1, zt2, zt3, zt4, zt5, zt6, zt7, zt8, zt9, zt10, zt11, zt12, zt13] at *) <;> omega)⟩
theorem l185_123 {sh : zSh} {t0 : zSt} {MB : Nat} {r0 : Nat} (q0 : zMd sh MB r0) {x1 : Int} (u1 : -2147483648 ≤ x1 ∧ x1 ≤ 2147483647) {x2 : Int} (u2 : -2147483648 ≤ x2 ∧ x2 ≤ 2147483647) {x3 : Int} (u3 : -2147483648 ≤ x3 ∧ x3 ≤ 2147483647) (d1 : 8 ≤ x1 ∧ x1 ≤ 9) (d2 : 0 ≤ x2 ∧ x2 ≤ 7) (G : GI sh r0 t0) : ∀ (n : Nat) (x4 : Int)  (t1 : zSt), FrV sh r0 [0, 1, 2, 3, 4, 9, 10, 11, 12, 13, 14] t0 t1 → (-2147483648 ≤ x4 ∧ x4 ≤ 2147483647) ∧ (tg t1 (sr sh r0 10) 0 ≤ 401) ∧ (tg t1 (sr sh r0 10) 1 ≤ 401) ∧ (tg t1 (sr sh r0 10) 2 ≤ 401) ∧ (tg t1 (sr sh r0 10) 3 ≤ 401) ∧ (tg t1 (sr sh r0 10) 4 ≤ 405) ∧ (tg t1 (sr sh r0 10) 5 ≤ 401) ∧ (tg t1 (sr sh r0 10) 6 ≤ 401) → (∀ k, k ≠ (x1).toNat ∧ k ≠ 12 → tg t1 (sr sh r0 2) k = tg t0 (sr sh r0 2) k) → ((0 : Int)).toNat < n → zok (zev zP 185 123 [some (zR r0), some (zI (oI x1)), some (zI (oI x2)), some (zI (oI x3)), some (zI (oI x4))] [] (sh, t1)) (zq0 (fun t' => FrV sh r0 [0, 1, 2, 3, 4, 9, 10, 11, 12, 13, 14] t0 t' ∧ (∀ k, k ≠ (x1).toNat ∧ k ≠ 12 → tg t' (sr sh r0 2) k = tg t0 (sr sh r0 2) k)) sh) := by
  intro n
  induction n with
  | zero => intro x4  t1 f0 _ _ hm; omega
  | succ n ih =>
    intro x4  t1 f0 hv hq1 hm
    have ha0_1 : (sk sh (sr sh r0 1)).2 = 21000 := by rw [q0.2.2.2.2.1]
    have ha0_2 : (sk sh (sr sh r0 2)).2 = 14 := by rw [q0.2.2.2.2.2.1]
    have ha0_3 : (sk sh (sr sh r0 3)).2 = 98 := by rw [q0.2.2.2.2.2.2.1]
    have ha0_4 : (sk sh (sr sh r0 4)).2 = 98 := by rw [q0.2.2.2.2.2.2.2.1]
    have ha0_8 : (sk sh (sr sh r0 8)).2 = 1500 := by rw [q0.2.2.2.2.2.2.2.2.1]
    have ha0_9 : (sk sh (sr sh r0 9)).2 = 10500 := by rw [q0.2.2.2.2.2.2.2.2.2.1]
    have ha0_10 : (sk sh (sr sh r0 10)).2 = 7 := by rw [q0.2.2.2.2.2.2.2.2.2.2.1]
    have ha0_11 : (sk sh (sr sh r0 11)).2 = 7 := by rw [q0.2.2.2.2.2.2.2.2.2.2.2.1]
    have ha0_12 : (sk sh (sr sh r0 12)).2 = 1500 := by rw [q0.2.2.2.2.2.2.2.2.2.2.2.2.1]
    have ha0_13 : (sk sh (sr sh r0 13)).2 = 1500 := by rw [q0.2.2.2.2.2.2.2.2.2.2.2.2.2.1]
    have ha0_14 : (sk sh (sr sh r0 14)).2 = 20 := by rw [q0.2.2.2.2.2.2.2.2.2.2.2.2.2.2]
    try simp only [zt0, zt1, zt2, zt3, zt4, zt5, zt6, zt7, zt8, zt9, zt10, zt11, zt12, zt13] at hv
    try simp only [zt0, zt1, zt2, zt3, zt4, zt5, zt6, zt7, zt8, zt9, zt10, zt11, zt12, zt13] at hm
    rw [b185_123]
    try simp only [zput_s, zput_n, ti_g, oI_add, oI_sub, oI_mul]
    first | refine zok_ne (by omega) (fun c2 => ?_) (fun c2 => ?_) | refine zok_if (fun c2 => ?_) (fun c2 => ?_)
    · try simp only [zput_s, zput_n, ti_g, oI_add, oI_sub, oI_mul]
      exact l185_186 q0 (by omega) (by omega) (by omega) d1 d2 G _ _ _ (f0) (by first | omega | ((try simp only [zt0, zt1, zt2, zt3, zt4, zt5, zt6, zt7, zt8, zt9, zt10, zt11, zt12, zt13]); omega)) (fun k hk => by ((try have c0 := hq1 k hk); (try have c0 := hq1 k); (try simp only [zt0, zt1, zt2, zt3, zt4, zt5, zt6, zt7, zt8, zt9, zt10, zt11, zt12, zt13] at *) <;> omega)) (Nat.lt_succ_self _)
    · refine zok_ck ((q0).1) ?_
      refine zok_pI (s160 (q0) (by omega) (by omega) (by first | (omega) | ((try simp only [zt0, zt1, zt2, zt3, zt4, zt5, zt6, zt7, zt8, zt9, zt10, zt11, zt12, zt13]); omega)) (f0.g)) (fun y3 u3 p3 => ?_)
      try simp only [zt0, zt1, zt2, zt3, zt4, zt5, zt6, zt7, zt8, zt9, zt10, zt11, zt12, zt13] at p3
      simp only [zput_s, zput_n, ti_g, oI_add, oI_sub, oI_mul, zt0, zt1, zt2, zt3, zt4, zt5, zt6, zt7, zt8, zt9, zt10, zt11, zt12, zt13, b185_138]
      try simp only [zput_s, zput_n, ti_g, oI_add, oI_sub, oI_mul]
      first | refine zok_ne (by omega) (fun c5 => ?_) (fun c5 => ?_) | refine zok_if (fun c5 => ?_) (fun c5 => ?_)
      · try simp only [zput_s, zput_n, ti_g, oI_add, oI_sub, oI_mul]
        exact l185_186 q0 (by omega) (by omega) (by omega) d1 d2 G _ _ _ (f0) (by first | omega | ((try simp only [zt0, zt1, zt2, zt3, zt4, zt5, zt6, zt7, zt8, zt9, zt10, zt11, zt12, zt13]); omega)) (fun k hk => by ((try have c0 := hq1 k hk); (try have c0 := hq1 k); (try simp only [zt0, zt1, zt2, zt3, zt4, zt5, zt6, zt7, zt8, zt9, zt10, zt11, zt12, zt13] at *) <;> omega)) (Nat.lt_succ_self _)
      · refine zok_ck ((q0).1) ?_
        have hz76 := zJ7_le (f0.g)
        try simp only [zt0, zt1, zt2, zt3, zt4, zt5, zt6, zt7, zt8, zt9, zt10, zt11, zt12, zt13] at hz76
        refine zok_c0 (s158 (q0) (by omega) (by first | (omega) | ((try simp only [zt0, zt1, zt2, zt3, zt4, zt5, zt6, zt7, zt8, zt9, zt10, zt11, zt12, zt13]); omega)) (by first | (omega) | ((try simp only [zt0, zt1, zt2, zt3, zt4, zt5, zt6, zt7, zt8, zt9, zt10, zt11, zt12, zt13]); omega)) (f0.g)) (fun t6 p6 => ?_)
        obtain ⟨f6, p6⟩ := p6
        have e6_3 : ∀ k, tg t6 (sr sh r0 3) k = tg t1 (sr sh r0 3) k := fun k => f6.eq q0 (i := 3) (by decide) (by decide) k
        have e6_4 : ∀ k, tg t6 (sr sh r0 4) k = tg t1 (sr sh r0 4) k := fun k => f6.eq q0 (i := 4) (by decide) (by decide) k
        have e6_10 : ∀ k, tg t6 (sr sh r0 10) k = tg t1 (sr sh r0 10) k := fun k => f6.eq q0 (i := 10) (by decide) (by decide) k
        have e6_11 : ∀ k, tg t6 (sr sh r0 11) k = tg t1 (sr sh r0 11) k := fun k => f6.eq q0 (i := 11) (by decide) (by decide) k
        try simp only [zt0, zt1, zt2, zt3, zt4, zt5, zt6, zt7, zt8, zt9, zt10, zt11, zt12, zt13, e6_3, e6_4, e6_10, e6_11] at p6
        simp only [zput_s, zput_n, ti_g, oI_add, oI_sub, oI_mul, zt0, zt1, zt2, zt3, zt4, zt5, zt6, zt7, zt8, zt9, zt10, zt11, zt12, zt13, e6_3, e6_4, e6_10, e6_11, b185_149]
        try simp only [zput_s, zput_n, ti_g, oI_add, oI_sub, oI_mul]
        refine zok_ck ((q0).1) ?_
        refine zok_c0 (s138 (q0) (by omega) (by first | (omega) | ((try simp only [zt0, zt1, zt2, zt3, zt4, zt5, zt6, zt7, zt8, zt9, zt10, zt11, zt12, zt13, e6_3, e6_4, e6_10, e6_11]); omega)) (by first | (omega) | ((try simp only [zt0, zt1, zt2, zt3, zt4, zt5, zt6, zt7, zt8, zt9, zt10, zt11, zt12, zt13, e6_3, e6_4, e6_10, e6_11]); omega)) (f6.g)) (fun t8 p8 => ?_)
        obtain ⟨f8, p8⟩ := p8
        have e8_2 : ∀ k, tg t8 (sr sh r0 2) k = tg t6 (sr sh r0 2) k := fun k => f8.eq q0 (i := 2) (by decide) (by decide) k
        have e8_10 : ∀ k, tg t8 (sr sh r0 10) k = tg t6 (sr sh r0 10) k := fun k => f8.eq q0 (i := 10) (by decide) (by decide) k
        have e8_11 : ∀ k, tg t8 (sr sh r0 11) k = tg t6 (sr sh r0 11) k := fun k => f8.eq q0 (i := 11) (by decide) (by decide) k
        try simp only [zt0, zt1, zt2, zt3, zt4, zt5, zt6, zt7, zt8, zt9, zt10, zt11, zt12, zt13, e6_3, e6_4, e6_10, e6_11, e8_2, e8_10, e8_11] at p8
        simp only [zput_s, zput_n, ti_g, oI_add, oI_sub, oI_mul, zt0, zt1, zt2, zt3, zt4, zt5, zt6, zt7, zt8, zt9, zt10, zt11, zt12, zt13, e6_3, e6_4, e6_10, e6_11, e8_2, e8_10, e8_11, b185_155]
        try simp only [zput_s, zput_n, ti_g, oI_add, oI_sub, oI_mul]
        refine zok_ck ((q0).1) ?_
        refine zok_ck ⟨(by rw [(q0).2.2.2.2.2.2.1]), zin_o (by omega) (by omega) (by omega)⟩ ?_
        try rw [nN_o (a := 86) (by omega) (by omega)]
        try rw [show (86 : Int).toNat = 86 from rfl]
        try simp only [zput_s, zput_n, ti_g, oI_add, oI_sub, oI_mul, zt0, zt1, zt2, zt3, zt4, zt5, zt6, zt7, zt8, zt9, zt10, zt11, zt12, zt13, e6_3, e6_4, e6_10, e6_11, e8_2, e8_10, e8_11]
        have gl10 := And.intro (tg_lo t8 (sr sh r0 3) (86)) (tg_hi t8 (sr sh r0 3) (86))
        have gm10 := (f8.g).2.1 (86) (by omega)
        try simp only [zt0, zt1, zt2, zt3, zt4, zt5, zt6, zt7, zt8, zt9, zt10, zt11, zt12, zt13, e6_3, e6_4, e6_10, e6_11, e8_2, e8_10, e8_11] at gl10
        try simp only [zt0, zt1, zt2, zt3, zt4, zt5, zt6, zt7, zt8, zt9, zt10, zt11, zt12, zt13, e6_3, e6_4, e6_10, e6_11, e8_2, e8_10, e8_11] at gm10
        refine zok_ck ((q0).1) ?_
        refine zok_ck ⟨(by rw [(q0).2.2.2.2.2.2.2.1]), zin_o (by omega) (by omega) (by omega)⟩ ?_
        try rw [nN_o (a := 86) (by omega) (by omega)]
        try rw [show (86 : Int).toNat = 86 from rfl]
        try simp only [zput_s, zput_n, ti_g, oI_add, oI_sub, oI_mul, zt0, zt1, zt2, zt3, zt4, zt5, zt6, zt7, zt8, zt9, zt10, zt11, zt12, zt13, e6_3, e6_4, e6_10, e6_11, e8_2, e8_10, e8_11]
        have gl11 := And.intro (tg_lo t8 (sr sh r0 4) (86)) (tg_hi t8 (sr sh r0 4) (86))
        have gm11 := (f8.g).2.1 (86) (by omega)
        try simp only [zt0, zt1, zt2, zt3, zt4, zt5, zt6, zt7, zt8, zt9, zt10, zt11, zt12, zt13, e6_3, e6_4, e6_10, e6_11, e8_2, e8_10, e8_11] at gl11
        try simp only [zt0, zt1, zt2, zt3, zt4, zt5, zt6, zt7, zt8, zt9, zt10, zt11, zt12, zt13, e6_3, e6_4, e6_10, e6_11, e8_2, e8_10, e8_11] at gm11
        refine zok_ck ((q0).1) ?_
        have gx12 := (f8.g).2.1 86 (by decide)
        try simp only [zt0, zt1, zt2, zt3, zt4, zt5, zt6, zt7, zt8, zt9, zt10, zt11, zt12, zt13, e6_3, e6_4, e6_10, e6_11, e8_2, e8_10, e8_11] at gx12
        refine zok_cI (s142 (q0) (by omega) (by omega) (by omega) (by first | (omega) | ((try simp only [zt0, zt1, zt2, zt3, zt4, zt5, zt6, zt7, zt8, zt9, zt10, zt11, zt12, zt13, e6_3, e6_4, e6_10, e6_11, e8_2, e8_10, e8_11]); omega)) (by first | (omega) | ((try simp only [zt0, zt1, zt2, zt3, zt4, zt5, zt6, zt7, zt8, zt9, zt10, zt11, zt12, zt13, e6_3, e6_4, e6_10, e6_11, e8_2, e8_10, e8_11]); omega)) (by first | (omega) | ((try simp only [zt0, zt1, zt2, zt3, zt4, zt5, zt6, zt7, zt8, zt9, zt10, zt11, zt12, zt13, e6_3, e6_4, e6_10, e6_11, e8_2, e8_10, e8_11]); omega)) (f8.g)) (fun y12 t12 u12 p12 => ?_)
        obtain ⟨f12, p12⟩ := p12
        have e12_2 : ∀ k, tg t12 (sr sh r0 2) k = tg t8 (sr sh r0 2) k := fun k => f12.eq q0 (i := 2) (by decide) (by decide) k
        have e12_3 : ∀ k, tg t12 (sr sh r0 3) k = tg t8 (sr sh r0 3) k := fun k => f12.eq q0 (i := 3) (by decide) (by decide) k
        have e12_4 : ∀ k, tg t12 (sr sh r0 4) k = tg t8 (sr sh r0 4) k := fun k => f12.eq q0 (i := 4) (by decide) (by decide) k
        have e12_10 : ∀ k, tg t12 (sr sh r0 10) k = tg t8 (sr sh r0 10) k := fun k => f12.eq q0 (i := 10) (by decide) (by decide) k
        have e12_11 : ∀ k, tg t12 (sr sh r0 11) k = tg t8 (sr sh r0 11) k := fun k => f12.eq q0 (i := 11) (by decide) (by decide) k
        try simp only [zt0, zt1, zt2, zt3, zt4, zt5, zt6, zt7, zt8, zt9, zt10, zt11, zt12, zt13, e6_3, e6_4, e6_10, e6_11, e8_2, e8_10, e8_11, e12_2, e12_3, e12_4, e12_10, e12_11] at p12
        simp only [zput_s, zput_n, ti_g, oI_add, oI_sub, oI_mul, zt0, zt1, zt2, zt3, zt4, zt5, zt6, zt7, zt8, zt9, zt10, zt11, zt12, zt13, e6_3, e6_4, e6_10, e6_11, e8_2, e8_10, e8_11, e12_2, e12_3, e12_4, e12_10, e12_11, b185_179]
        try simp only [zput_s, zput_n, ti_g, oI_add, oI_sub, oI_mul]
        first | refine zok_eq (by omega) (fun c14 => ?_) (fun c14 => ?_) | refine zok_if (fun c14 => ?_) (fun c14 => ?_)
        · try simp only [zput_s, zput_n, ti_g, oI_add, oI_sub, oI_mul]
          exact l185_186 q0 (by omega) (by omega) (by omega) d1 d2 G _ _ _ ((FrV.trans (Ns := [0, 1, 2, 3, 4, 9, 10, 11, 12, 13, 14]) ((FrV.trans (Ns := [0, 1, 2, 3, 4, 9, 10, 11, 12, 13, 14]) ((FrV.trans (Ns := [0, 1, 2, 3, 4, 9, 10, 11, 12, 13, 14]) (f0) f6 (by decide) (by decide))) f8 (by decide) (by decide))) f12 (by decide) (by decide))) (by first | omega | ((try simp only [zt0, zt1, zt2, zt3, zt4, zt5, zt6, zt7, zt8, zt9, zt10, zt11, zt12, zt13, e6_3, e6_4, e6_10, e6_11, e8_2, e8_10, e8_11, e12_2, e12_3, e12_4, e12_10, e12_11]); omega)) (fun k hk => by ((try have c0 := hq1 k hk); (try have c0 := hq1 k); (have c1 := p6.2 k (by omega)); (have c6 := e8_2 k); (have c9 := e12_2 k); (try simp only [zt0, zt1, zt2, zt3, zt4, zt5, zt6, zt7, zt8, zt9, zt10, zt11, zt12, zt13] at *) <;> omega)) (Nat.lt_succ_self _)
        · refine zok_ck ((q0).1) ?_
          refine zok_c0 (s184 (q0) (f12.g)) (fun t15 p15 => ?_)
          obtain ⟨f15, p15⟩ := p15
          have e15_2 : ∀ k, tg t15 (sr sh r0 2) k = tg t12 (sr sh r0 2) k := fun k => f15.eq q0 (i := 2) (by decide) (by decide) k
          have e15_3 : ∀ k, tg t15 (sr sh r0 3) k = tg t12 (sr sh r0 3) k := fun k => f15.eq q0 (i := 3) (by decide) (by decide) k
          have e15_4 : ∀ k, tg t15 (sr sh r0 4) k = tg t12 (sr sh r0 4) k := fun k => f15.eq q0 (i := 4) (by decide) (by decide) k
          have e15_11 : ∀ k, tg t15 (sr sh r0 11) k = tg t12 (sr sh r0 11) k := fun k => f15.eq q0 (i := 11) (by decide) (by decide) k
          try simp only [zt0, zt1, zt2, zt3, zt4, zt5, zt6, zt7, zt8, zt9, zt10, zt11, zt12, zt13, e6_3, e6_4, e6_10, e6_11, e8_2, e8_10, e8_11, e12_2, e12_3, e12_4, e12_10, e12_11, e15_2, e15_3, e15_4, e15_11] at p15
          have hL15_0 := p15.2 0 (by decide)
          try simp only [zt0, zt1, zt2, zt3, zt4, zt5, zt6, zt7, zt8, zt9, zt10, zt11, zt12, zt13, e6_3, e6_4, e6_10, e6_11, e8_2, e8_10, e8_11, e12_2, e12_3, e12_4, e12_10, e12_11, e15_2, e15_3, e15_4, e15_11] at hL15_0
          have hL15_1 := p15.2 1 (by decide)
          try simp only [zt0, zt1, zt2, zt3, zt4, zt5, zt6, zt7, zt8, zt9, zt10, zt11, zt12, zt13, e6_3, e6_4, e6_10, e6_11, e8_2, e8_10, e8_11, e12_2, e12_3, e12_4, e12_10, e12_11, e15_2, e15_3, e15_4, e15_11] at hL15_1
          have hL15_2 := p15.2 3 (by decide)
          try simp only [zt0, zt1, zt2, zt3, zt4, zt5, zt6, zt7, zt8, zt9, zt10, zt11, zt12, zt13, e6_3, e6_4, e6_10, e6_11, e8_2, e8_10, e8_11, e12_2, e12_3, e12_4, e12_10, e12_11, e15_2, e15_3, e15_4, e15_11] at hL15_2
          have hL15_3 := p15.2 4 (by decide)
          try simp only [zt0, zt1, zt2, zt3, zt4, zt5, zt6, zt7, zt8, zt9, zt10, zt11, zt12, zt13, e6_3, e6_4, e6_10, e6_11, e8_2, e8_10, e8_11, e12_2, e12_3, e12_4, e12_10, e12_11, e15_2, e15_3, e15_4, e15_11] at hL15_3
          have hL15_4 := p15.2 5 (by decide)
          try simp only [zt0, zt1, zt2, zt3, zt4, zt5, zt6, zt7, zt8, zt9, zt10, zt11, zt12, zt13, e6_3, e6_4, e6_10, e6_11, e8_2, e8_10, e8_11, e12_2, e12_3, e12_4, e12_10, e12_11, e15_2, e15_3, e15_4, e15_11] at hL15_4
          have hL15_5 := p15.2 6 (by decide)
          try simp only [zt0, zt1, zt2, zt3, zt4, zt5, zt6, zt7, zt8, zt9, zt10, zt11, zt12, zt13, e6_3, e6_4, e6_10, e6_11, e8_2, e8_10, e8_11, e12_2, e12_3, e12_4, e12_10, e12_11, e15_2, e15_3, e15_4, e15_11] at hL15_5
          try simp only [zput_s, zput_n, ti_g, oI_add, oI_sub, oI_mul]
          exact l185_186 q0 (by omega) (by omega) (by omega) d1 d2 G _ _ _ ((FrV.trans (Ns := [0, 1, 2, 3, 4, 9, 10, 11, 12, 13, 14]) ((FrV.trans (Ns := [0, 1, 2, 3, 4, 9, 10, 11, 12, 13, 14]) ((FrV.trans (Ns := [0, 1, 2, 3, 4, 9, 10, 11, 12, 13, 14]) ((FrV.trans (Ns := [0, 1, 2, 3, 4, 9, 10, 11, 12, 13, 14]) (f0) f6 (by decide) (by decide))) f8 (by decide) (by decide))) f12 (by decide) (by decide))) f15 (by decide) (by decide))) (by first | omega | ((try simp only [zt0, zt1, zt2, zt3, zt4, zt5, zt6, zt7, zt8, zt9, zt10, zt11, zt12, zt13, e6_3, e6_4, e6_10, e6_11, e8_2, e8_10, e8_11, e12_2, e12_3, e12_4, e12_10, e12_11, e15_2, e15_3, e15_4, e15_11]); omega)) (fun k hk => by ((try have c0 := hq1 k hk); (try have c0 := hq1 k); (have c1 := p6.2 k (by omega)); (have c6 := e8_2 k); (have c9 := e12_2 k); (have c15 := e15_2 k); (try simp only [zt0, zt1, zt2, zt3, zt4, zt5, zt6, zt7, zt8, zt9, zt10, zt11, zt12, zt13] at *) <;> omega)) (Nat.lt_succ_self _)
theorem l185_110 {sh : zSh} {t0 : zSt} {MB : Nat} {r0 : Nat} (q0 : zMd sh MB r0) {x1 : Int} (u1 : -2147483648 ≤ x1 ∧ x1 ≤ 2147483647) {x2 : Int} (u2 : -2147483648 ≤ x2 ∧ x2 ≤ 2147483647) {x3 : Int} (u3 : -2147483648 ≤ x3 ∧ x3 ≤ 2147483647) (d1 : 8 ≤ x1 ∧ x1 ≤ 9) (d2 : 0 ≤ x2 ∧ x2 ≤ 7) (G : GI sh r0 t0) : ∀ (n : Nat) (x4 : Int)  (t1 : zSt), FrV sh r0 [0, 1, 2, 3, 4, 9, 10, 11, 12, 13, 14] t0 t1 → (-2147483648 ≤ x4 ∧ x4 ≤ 2147483647) ∧ (tg t1 (sr sh r0 10) 0 ≤ 401) ∧ (tg t1 (sr sh r0 10) 1 ≤ 401) ∧ (tg t1 (sr sh r0 10) 2 ≤ 401) ∧ (tg t1 (sr sh r0 10) 3 ≤ 401) ∧ (tg t1 (sr sh r0 10) 4 ≤ 404) ∧ (tg t1 (sr sh r0 10) 5 ≤ 401) ∧ (tg t1 (sr sh r0 10) 6 ≤ 401) → (∀ k, k ≠ (x1).toNat ∧ k ≠ 12 → tg t1 (sr sh r0 2) k = tg t0 (sr sh r0 2) k) → ((0 : Int)).toNat < n → zok (zev zP 185 110 [some (zR r0), some (zI (oI x1)), some (zI (oI x2)), some (zI (oI x3)), some (zI (oI x4))] [] (sh, t1)) (zq0 (fun t' => FrV sh r0 [0, 1, 2, 3, 4, 9, 10, 11, 12, 13, 14] t0 t' ∧ (∀ k, k ≠ (x1).toNat ∧ k ≠ 12 → tg t' (sr sh r0 2) k = tg t0 (sr sh r0 2) k)) sh) := by
  intro n
  induction n with
  | zero => intro x4  t1 f0 _ _ hm; omega
  | succ n ih =>
    intro x4  t1 f0 hv hq1 hm
    have ha0_1 : (sk sh (sr sh r0 1)).2 = 21000 := by rw [q0.2.2.2.2.1]
    have ha0_2 : (sk sh (sr sh r0 2)).2 = 14 := by rw [q0.2.2.2.2.2.1]
    have ha0_3 : (sk sh (sr sh r0 3)).2 = 98 := by rw [q0.2.2.2.2.2.2.1]
    have ha0_4 : (sk sh (sr sh r0 4)).2 = 98 := by rw [q0.2.2.2.2.2.2.2.1]
    have ha0_8 : (sk sh (sr sh r0 8)).2 = 1500 := by rw [q0.2.2.2.2.2.2.2.2.1]
    have ha0_9 : (sk sh (sr sh r0 9)).2 = 10500 := by rw [q0.2.2.2.2.2.2.2.2.2.1]
    have ha0_10 : (sk sh (sr sh r0 10)).2 = 7 := by rw [q0.2.2.2.2.2.2.2.2.2.2.1]
    have ha0_11 : (sk sh (sr sh r0 11)).2 = 7 := by rw [q0.2.2.2.2.2.2.2.2.2.2.2.1]
    have ha0_12 : (sk sh (sr sh r0 12)).2 = 1500 := by rw [q0.2.2.2.2.2.2.2.2.2.2.2.2.1]
    have ha0_13 : (sk sh (sr sh r0 13)).2 = 1500 := by rw [q0.2.2.2.2.2.2.2.2.2.2.2.2.2.1]
    have ha0_14 : (sk sh (sr sh r0 14)).2 = 20 := by rw [q0.2.2.2.2.2.2.2.2.2.2.2.2.2.2]
    try simp only [zt0, zt1, zt2, zt3, zt4, zt5, zt6, zt7, zt8, zt9, zt10, zt11, zt12, zt13] at hv
    try simp only [zt0, zt1, zt2, zt3, zt4, zt5, zt6, zt7, zt8, zt9, zt10, zt11, zt12, zt13] at hm
    rw [b185_110]
    try simp only [zput_s, zput_n, ti_g, oI_add, oI_sub, oI_mul]
    first | refine zok_ne (by omega) (fun c2 => ?_) (fun c2 => ?_) | refine zok_if (fun c2 => ?_) (fun c2 => ?_)
    · try simp only [zput_s, zput_n, ti_g, oI_add, oI_sub, oI_mul]
      exact l185_123 q0 (by omega) (by omega) (by omega) d1 d2 G _ _ _ (f0) (by first | omega | ((try simp only [zt0, zt1, zt2, zt3, zt4, zt5, zt6, zt7, zt8, zt9, zt10, zt11, zt12, zt13]); omega)) (fun k hk => by ((try have c0 := hq1 k hk); (try have c0 := hq1 k); (try simp only [zt0, zt1, zt2, zt3, zt4, zt5, zt6, zt7, zt8, zt9, zt10, zt11, zt12, zt13] at *) <;> omega)) (Nat.lt_succ_self _)
    · refine zok_ck ((q0).1) ?_
      refine zok_c0 (s182 (q0) (by first | (omega) | ((try simp only [zt0, zt1, zt2, zt3, zt4, zt5, zt6, zt7, zt8, zt9, zt10, zt11, zt12, zt13]); omega)) (f0.g)) (fun t3 p3 => ?_)
      obtain ⟨f3, p3⟩ := p3
      have e3_2 : ∀ k, tg t3 (sr sh r0 2) k = tg t1 (sr sh r0 2) k := fun k => f3.eq q0 (i := 2) (by decide) (by decide) k
      have e3_3 : ∀ k, tg t3 (sr sh r0 3) k = tg t1 (sr sh r0 3) k := fun k => f3.eq q0 (i := 3) (by decide) (by decide) k
      have e3_4 : ∀ k, tg t3 (sr sh r0 4) k = tg t1 (sr sh r0 4) k := fun k => f3.eq q0 (i := 4) (by decide) (by decide) k
      try simp only [zt0, zt1, zt2, zt3, zt4, zt5, zt6, zt7, zt8, zt9, zt10, zt11, zt12, zt13, e3_2, e3_3, e3_4] at p3
      have hL3_0 := p3.2.2 0 (by decide) (by decide)
      try simp only [zt0, zt1, zt2, zt3, zt4, zt5, zt6, zt7, zt8, zt9, zt10, zt11, zt12, zt13, e3_2, e3_3, e3_4] at hL3_0
      have hL3_1 := p3.2.2 1 (by decide) (by decide)
      try simp only [zt0, zt1, zt2, zt3, zt4, zt5, zt6, zt7, zt8, zt9, zt10, zt11, zt12, zt13, e3_2, e3_3, e3_4] at hL3_1
      have hL3_2 := p3.2.2 2 (by decide) (by decide)
      try simp only [zt0, zt1, zt2, zt3, zt4, zt5, zt6, zt7, zt8, zt9, zt10, zt11, zt12, zt13, e3_2, e3_3, e3_4] at hL3_2
      have hL3_3 := p3.2.2 5 (by decide) (by decide)
      try simp only [zt0, zt1, zt2, zt3, zt4, zt5, zt6, zt7, zt8, zt9, zt10, zt11, zt12, zt13, e3_2, e3_3, e3_4] at hL3_3
      have hL3_4 := p3.2.2 6 (by decide) (by decide)
      try simp only [zt0, zt1, zt2, zt3, zt4, zt5, zt6, zt7, zt8, zt9, zt10, zt11, zt12, zt13, e3_2, e3_3, e3_4] at hL3_4
      try simp only [zput_s, zput_n, ti_g, oI_add, oI_sub, oI_mul]
      exact l185_123 q0 (by omega) (by omega) (by omega) d1 d2 G _ _ _ ((FrV.trans (Ns := [0, 1, 2, 3, 4, 9, 10, 11, 12, 13, 14]) (f0) f3 (by decide) (by decide))) (by first | omega | ((try simp only [zt0, zt1, zt2, zt3, zt4, zt5, zt6, zt7, zt8, zt9, zt10, zt11, zt12, zt13, e3_2, e3_3, e3_4]); omega)) (fun k hk => by ((try have c0 := hq1 k hk); (try have c0 := hq1 k); (have c1 := e3_2 k); (try simp only [zt0, zt1, zt2, zt3, zt4, zt5, zt6, zt7, zt8, zt9, zt10, zt11, zt12, zt13] at *) <;> omega)) (Nat.lt_succ_self _)
theorem l185_8 {sh : zSh} {t0 : zSt} {MB : Nat} {r0 : Nat} (q0 : zMd sh MB r0) {x1 : Int} (u1 : -2147483648 ≤ x1 ∧ x1 ≤ 2147483647) {x2 : Int} (u2 : -2147483648 ≤ x2 ∧ x2 ≤ 2147483647) {x3 : Int} (u3 : -2147483648 ≤ x3 ∧ x3 ≤ 2147483647) (d1 : 8 ≤ x1 ∧ x1 ≤ 9) (d2 : 0 ≤ x2 ∧ x2 ≤ 7) (G : GI sh r0 t0) : ∀ (n : Nat) (x4 : Int)  (t1 : zSt), FrV sh r0 [0, 1, 2, 3, 4, 9, 10, 11, 12, 13, 14] t0 t1 → (-2147483648 ≤ x4 ∧ x4 ≤ 2147483647) ∧ (0 ≤ x4 ∧ x4 ≤ 7) → (∀ k, k ≠ (x1).toNat ∧ k ≠ 12 → tg t1 (sr sh r0 2) k = tg t0 (sr sh r0 2) k) → (∀ k : Nat, (k : Int) < x4 → tg t1 (sr sh r0 10) k ≤ 401) → (7 - x4).toNat < n → zok (zev zP 185 8 [some (zR r0), some (zI (oI x1)), some (zI (oI x2)), some (zI (oI x3)), some (zI (oI x4))] [] (sh, t1)) (zq0 (fun t' => FrV sh r0 [0, 1, 2, 3, 4, 9, 10, 11, 12, 13, 14] t0 t' ∧ (∀ k, k ≠ (x1).toNat ∧ k ≠ 12 → tg t' (sr sh r0 2) k = tg t0 (sr sh r0 2) k)) sh) := by
  intro n
  induction n with
  | zero => intro x4  t1 f0 _ _ _ hm; omega
  | succ n ih =>
    intro x4  t1 f0 hv hq1 hq2 hm
    have ha0_1 : (sk sh (sr sh r0 1)).2 = 21000 := by rw [q0.2.2.2.2.1]
    have ha0_2 : (sk sh (sr sh r0 2)).2 = 14 := by rw [q0.2.2.2.2.2.1]
    have ha0_3 : (sk sh (sr sh r0 3)).2 = 98 := by rw [q0.2.2.2.2.2.2.1]
    have ha0_4 : (sk sh (sr sh r0 4)).2 = 98 := by rw [q0.2.2.2.2.2.2.2.1]
    have ha0_8 : (sk sh (sr sh r0 8)).2 = 1500 := by rw [q0.2.2.2.2.2.2.2.2.1]
    have ha0_9 : (sk sh (sr sh r0 9)).2 = 10500 := by rw [q0.2.2.2.2.2.2.2.2.2.1]
    have ha0_10 : (sk sh (sr sh r0 10)).2 = 7 := by rw [q0.2.2.2.2.2.2.2.2.2.2.1]
    have ha0_11 : (sk sh (sr sh r0 11)).2 = 7 := by rw [q0.2.2.2.2.2.2.2.2.2.2.2.1]
    have ha0_12 : (sk sh (sr sh r0 12)).2 = 1500 := by rw [q0.2.2.2.2.2.2.2.2.2.2.2.2.1]
    have ha0_13 : (sk sh (sr sh r0 13)).2 = 1500 := by rw [q0.2.2.2.2.2.2.2.2.2.2.2.2.2.1]
    have ha0_14 : (sk sh (sr sh r0 14)).2 = 20 := by rw [q0.2.2.2.2.2.2.2.2.2.2.2.2.2.2]
    try simp only [zt0, zt1, zt2, zt3, zt4, zt5, zt6, zt7, zt8, zt9, zt10, zt11, zt12, zt13] at hv
    try simp only [zt0, zt1, zt2, zt3, zt4, zt5, zt6, zt7, zt8, zt9, zt10, zt11, zt12, zt13] at hm
    have hA : 7 ≤ x4 → (tg t1 (sr sh r0 10) 0 ≤ 401 ∧ tg t1 (sr sh r0 10) 1 ≤ 401 ∧ tg t1 (sr sh r0 10) 2 ≤ 401 ∧ tg t1 (sr sh r0 10) 3 ≤ 401 ∧ tg t1 (sr sh r0 10) 4 ≤ 401 ∧ tg t1 (sr sh r0 10) 5 ≤ 401 ∧ tg t1 (sr sh r0 10) 6 ≤ 401) := fun h => ⟨hq2 0 (by omega), hq2 1 (by omega), hq2 2 (by omega), hq2 3 (by omega), hq2 4 (by omega), hq2 5 (by omega), hq2 6 (by omega)⟩
    try simp only [zt0, zt1, zt2, zt3, zt4, zt5, zt6, zt7, zt8, zt9, zt10, zt11, zt12, zt13] at hA
    rw [b185_8]
    try simp only [zput_s, zput_n, ti_g, oI_add, oI_sub, oI_mul]
    first | refine zok_le (by omega) (fun c2 => ?_) (fun c2 => ?_) | refine zok_if (fun c2 => ?_) (fun c2 => ?_)
    · first | refine zok_ne (by omega) (fun c3 => ?_) (fun c3 => ?_) | refine zok_if (fun c3 => ?_) (fun c3 => ?_)
      · try simp only [zput_s, zput_n, ti_g, oI_add, oI_sub, oI_mul]
        exact l185_110 q0 (by omega) (by omega) (by omega) d1 d2 G _ _ _ (f0) (by first | omega | ((try simp only [zt0, zt1, zt2, zt3, zt4, zt5, zt6, zt7, zt8, zt9, zt10, zt11, zt12, zt13]); omega)) (fun k hk => by ((try have c0 := hq1 k hk); (try have c0 := hq1 k); (try simp only [zt0, zt1, zt2, zt3, zt4, zt5, zt6, zt7, zt8, zt9, zt10, zt11, zt12, zt13] at *) <;> omega)) (Nat.lt_succ_self _)
      · refine zok_ck ((q0).1) ?_
        refine zok_ck ⟨Or.inr (by rw [(q0).2.2.2.2.2.2.2.2.2.2.2.1]), zin_o (by omega) (by omega) (by omega)⟩ ?_
        try rw [nN_o (a := 0) (by omega) (by omega)]
        try rw [show (0 : Int).toNat = 0 from rfl]
        try simp only [zput_s, zput_n, ti_g, oI_add, oI_sub, oI_mul, zt0, zt1, zt2, zt3, zt4, zt5, zt6, zt7, zt8, zt9, zt10, zt11, zt12, zt13]
        have gl4 := And.intro (tg_lo t1 (sr sh r0 11) (0)) (tg_hi t1 (sr sh r0 11) (0))
        have gm4 := (f0.g).2.2.2.1 (0) (by omega)
        try simp only [zt0, zt1, zt2, zt3, zt4, zt5, zt6, zt7, zt8, zt9, zt10, zt11, zt12, zt13] at gl4
        try simp only [zt0, zt1, zt2, zt3, zt4, zt5, zt6, zt7, zt8, zt9, zt10, zt11, zt12, zt13] at gm4
        first | refine zok_ne (by omega) (fun c5 => ?_) (fun c5 => ?_) | refine zok_if (fun c5 => ?_) (fun c5 => ?_)
        · refine zok_ck ((q0).1) ?_
          refine zok_c0 (s162 (q0) (by first | (omega) | ((try simp only [zt0, zt1, zt2, zt3, zt4, zt5, zt6, zt7, zt8, zt9, zt10, zt11, zt12, zt13]); omega)) (f0.g)) (fun t6 p6 => ?_)
          obtain ⟨f6, p6⟩ := p6
          have e6_2 : ∀ k, tg t6 (sr sh r0 2) k = tg t1 (sr sh r0 2) k := fun k => f6.eq q0 (i := 2) (by decide) (by decide) k
          have e6_3 : ∀ k, tg t6 (sr sh r0 3) k = tg t1 (sr sh r0 3) k := fun k => f6.eq q0 (i := 3) (by decide) (by decide) k
          have e6_4 : ∀ k, tg t6 (sr sh r0 4) k = tg t1 (sr sh r0 4) k := fun k => f6.eq q0 (i := 4) (by decide) (by decide) k
          have e6_11 : ∀ k, tg t6 (sr sh r0 11) k = tg t1 (sr sh r0 11) k := fun k => f6.eq q0 (i := 11) (by decide) (by decide) k
          try simp only [zt0, zt1, zt2, zt3, zt4, zt5, zt6, zt7, zt8, zt9, zt10, zt11, zt12, zt13, e6_2, e6_3, e6_4, e6_11] at p6
          have hL6_0 := p6.2 0 (by decide)
          try simp only [zt0, zt1, zt2, zt3, zt4, zt5, zt6, zt7, zt8, zt9, zt10, zt11, zt12, zt13, e6_2, e6_3, e6_4, e6_11] at hL6_0
          have hL6_1 := p6.2 1 (by decide)
          try simp only [zt0, zt1, zt2, zt3, zt4, zt5, zt6, zt7, zt8, zt9, zt10, zt11, zt12, zt13, e6_2, e6_3, e6_4, e6_11] at hL6_1
          have hL6_2 := p6.2 2 (by decide)
          try simp only [zt0, zt1, zt2, zt3, zt4, zt5, zt6, zt7, zt8, zt9, zt10, zt11, zt12, zt13, e6_2, e6_3, e6_4, e6_11] at hL6_2
          have hL6_3 := p6.2 3 (by decide)
          try simp only [zt0, zt1, zt2, zt3, zt4, zt5, zt6, zt7, zt8, zt9, zt10, zt11, zt12, zt13, e6_2, e6_3, e6_4, e6_11] at hL6_3
          have hL6_4 := p6.2 5 (by decide)
          try simp only [zt0, zt1, zt2, zt3, zt4, zt5, zt6, zt7, zt8, zt9, zt10, zt11, zt12, zt13, e6_2, e6_3, e6_4, e6_11] at hL6_4
          have hL6_5 := p6.2 6 (by decide)
          try simp only [zt0, zt1, zt2, zt3, zt4, zt5, zt6, zt7, zt8, zt9, zt10, zt11, zt12, zt13, e6_2, e6_3, e6_4, e6_11] at hL6_5
          simp only [zput_s, zput_n, ti_g, oI_add, oI_sub, oI_mul, zt0, zt1, zt2, zt3, zt4, zt5, zt6, zt7, zt8, zt9, zt10, zt11, zt12, zt13, e6_2, e6_3, e6_4, e6_11, b185_106]
          try simp only [zput_s, zput_n, ti_g, oI_add, oI_sub, oI_mul]
          refine zok_ck ((q0).1) ?_
          refine zok_c0 (s163 (q0) (by first | (omega) | ((try simp only [zt0, zt1, zt2, zt3, zt4, zt5, zt6, zt7, zt8, zt9, zt10, zt11, zt12, zt13, e6_2, e6_3, e6_4, e6_11]); omega)) (f6.g)) (fun t8 p8 => ?_)
          obtain ⟨f8, p8⟩ := p8
          have e8_2 : ∀ k, tg t8 (sr sh r0 2) k = tg t6 (sr sh r0 2) k := fun k => f8.eq q0 (i := 2) (by decide) (by decide) k
          have e8_3 : ∀ k, tg t8 (sr sh r0 3) k = tg t6 (sr sh r0 3) k := fun k => f8.eq q0 (i := 3) (by decide) (by decide) k
          have e8_4 : ∀ k, tg t8 (sr sh r0 4) k = tg t6 (sr sh r0 4) k := fun k => f8.eq q0 (i := 4) (by decide) (by decide) k
          have e8_11 : ∀ k, tg t8 (sr sh r0 11) k = tg t6 (sr sh r0 11) k := fun k => f8.eq q0 (i := 11) (by decide) (by decide) k
          try simp only [zt0, zt1, zt2, zt3, zt4, zt5, zt6, zt7, zt8, zt9, zt10, zt11, zt12, zt13, e6_2, e6_3, e6_4, e6_11, e8_2, e8_3, e8_4, e8_11] at p8
          have hL8_0 := p8.2 0 (by decide)
          try simp only [zt0, zt1, zt2, zt3, zt4, zt5, zt6, zt7, zt8, zt9, zt10, zt11, zt12, zt13, e6_2, e6_3, e6_4, e6_11, e8_2, e8_3, e8_4, e8_11] at hL8_0
          have hL8_1 := p8.2 1 (by decide)
          try simp only [zt0, zt1, zt2, zt3, zt4, zt5, zt6, zt7, zt8, zt9, zt10, zt11, zt12, zt13, e6_2, e6_3, e6_4, e6_11, e8_2, e8_3, e8_4, e8_11] at hL8_1
          have hL8_2 := p8.2 2 (by decide)
          try simp only [zt0, zt1, zt2, zt3, zt4, zt5, zt6, zt7, zt8, zt9, zt10, zt11, zt12, zt13, e6_2, e6_3, e6_4, e6_11, e8_2, e8_3, e8_4, e8_11] at hL8_2
          have hL8_3 := p8.2 3 (by decide)
          try simp only [zt0, zt1, zt2, zt3, zt4, zt5, zt6, zt7, zt8, zt9, zt10, zt11, zt12, zt13, e6_2, e6_3, e6_4, e6_11, e8_2, e8_3, e8_4, e8_11] at hL8_3
          have hL8_4 := p8.2 5 (by decide)
          try simp only [zt0, zt1, zt2, zt3, zt4, zt5, zt6, zt7, zt8, zt9, zt10, zt11, zt12, zt13, e6_2, e6_3, e6_4, e6_11, e8_2, e8_3, e8_4, e8_11] at hL8_4
          have hL8_5 := p8.2 6 (by decide)
          try simp only [zt0, zt1, zt2, zt3, zt4, zt5, zt6, zt7, zt8, zt9, zt10, zt11, zt12, zt13, e6_2, e6_3, e6_4, e6_11, e8_2, e8_3, e8_4, e8_11] at hL8_5
          try simp only [zput_s, zput_n, ti_g, oI_add, oI_sub, oI_mul]
          exact l185_110 q0 (by omega) (by omega) (by omega) d1 d2 G _ _ _ ((FrV.trans (Ns := [0, 1, 2, 3, 4, 9, 10, 11, 12, 13, 14]) ((FrV.trans (Ns := [0, 1, 2, 3, 4, 9, 10, 11, 12, 13, 14]) (f0) f6 (by decide) (by decide))) f8 (by decide) (by decide))) (by first | omega | ((try simp only [zt0, zt1, zt2, zt3, zt4, zt5, zt6, zt7, zt8, zt9, zt10, zt11, zt12, zt13, e6_2, e6_3, e6_4, e6_11, e8_2, e8_3, e8_4, e8_11]); omega)) (fun k hk => by ((try have c0 := hq1 k hk); (try have c0 := hq1 k); (have c2 := e6_2 k); (have c7 := e8_2 k); (try simp only [zt0, zt1, zt2, zt3, zt4, zt5, zt6, zt7, zt8, zt9, zt10, zt11, zt12, zt13] at *) <;> omega)) (Nat.lt_succ_self _)
        · refine zok_ck ((q0).1) ?_
          refine zok_pI (s160 (q0) (by omega) (by omega) (by first | (omega) | ((try simp only [zt0, zt1, zt2, zt3, zt4, zt5, zt6, zt7, zt8, zt9, zt10, zt11, zt12, zt13]); omega)) (f0.g)) (fun y9 u9 p9 => ?_)
          try simp only [zt0, zt1, zt2, zt3, zt4, zt5, zt6, zt7, zt8, zt9, zt10, zt11, zt12, zt13] at p9
          simp only [zput_s, zput_n, ti_g, oI_add, oI_sub, oI_mul, zt0, zt1, zt2, zt3, zt4, zt5, zt6, zt7, zt8, zt9, zt10, zt11, zt12, zt13, b185_97]
          try simp only [zput_s, zput_n, ti_g, oI_add, oI_sub, oI_mul]
          first | refine zok_ne (by omega) (fun c11 => ?_) (fun c11 => ?_) | refine zok_if (fun c11 => ?_) (fun c11 => ?_)
          · try simp only [zput_s, zput_n, ti_g, oI_add, oI_sub, oI_mul]
            exact l185_110 q0 (by omega) (by omega) (by omega) d1 d2 G _ _ _ (f0) (by first | omega | ((try simp only [zt0, zt1, zt2, zt3, zt4, zt5, zt6, zt7, zt8, zt9, zt10, zt11, zt12, zt13]); omega)) (fun k hk => by ((try have c0 := hq1 k hk); (try have c0 := hq1 k); (try simp only [zt0, zt1, zt2, zt3, zt4, zt5, zt6, zt7, zt8, zt9, zt10, zt11, zt12, zt13] at *) <;> omega)) (Nat.lt_succ_self _)
          · refine zok_ck ((q0).1) ?_
            refine zok_c0 (s162 (q0) (by first | (omega) | ((try simp only [zt0, zt1, zt2, zt3, zt4, zt5, zt6, zt7, zt8, zt9, zt10, zt11, zt12, zt13]); omega)) (f0.g)) (fun t12 p12 => ?_)
            obtain ⟨f12, p12⟩ := p12
            have e12_2 : ∀ k, tg t12 (sr sh r0 2) k = tg t1 (sr sh r0 2) k := fun k => f12.eq q0 (i := 2) (by decide) (by decide) k
            have e12_3 : ∀ k, tg t12 (sr sh r0 3) k = tg t1 (sr sh r0 3) k := fun k => f12.eq q0 (i := 3) (by decide) (by decide) k
            have e12_4 : ∀ k, tg t12 (sr sh r0 4) k = tg t1 (sr sh r0 4) k := fun k => f12.eq q0 (i := 4) (by decide) (by decide) k
            have e12_11 : ∀ k, tg t12 (sr sh r0 11) k = tg t1 (sr sh r0 11) k := fun k => f12.eq q0 (i := 11) (by decide) (by decide) k
            try simp only [zt0, zt1, zt2, zt3, zt4, zt5, zt6, zt7, zt8, zt9, zt10, zt11, zt12, zt13, e12_2, e12_3, e12_4, e12_11] at p12
            have hL12_0 := p12.2 0 (by decide)
            try simp only [zt0, zt1, zt2, zt3, zt4, zt5, zt6, zt7, zt8, zt9, zt10, zt11, zt12, zt13, e12_2, e12_3, e12_4, e12_11] at hL12_0
            have hL12_1 := p12.2 1 (by decide)
            try simp only [zt0, zt1, zt2, zt3, zt4, zt5, zt6, zt7, zt8, zt9, zt10, zt11, zt12, zt13, e12_2, e12_3, e12_4, e12_11] at hL12_1
            have hL12_2 := p12.2 2 (by decide)
            try simp only [zt0, zt1, zt2, zt3, zt4, zt5, zt6, zt7, zt8, zt9, zt10, zt11, zt12, zt13, e12_2, e12_3, e12_4, e12_11] at hL12_2
            have hL12_3 := p12.2 3 (by decide)
            try simp only [zt0, zt1, zt2, zt3, zt4, zt5, zt6, zt7, zt8, zt9, zt10, zt11, zt12, zt13, e12_2, e12_3, e12_4, e12_11] at hL12_3
            have hL12_4 := p12.2 5 (by decide)
            try simp only [zt0, zt1, zt2, zt3, zt4, zt5, zt6, zt7, zt8, zt9, zt10, zt11, zt12, zt13, e12_2, e12_3, e12_4, e12_11] at hL12_4
            have hL12_5 := p12.2 6 (by decide)
            try simp only [zt0, zt1, zt2, zt3, zt4, zt5, zt6, zt7, zt8, zt9, zt10, zt11, zt12, zt13, e12_2, e12_3, e12_4, e12_11] at hL12_5
            simp only [zput_s, zput_n, ti_g, oI_add, oI_sub, oI_mul, zt0, zt1, zt2, zt3, zt4, zt5, zt6, zt7, zt8, zt9, zt10, zt11, zt12, zt13, e12_2, e12_3, e12_4, e12_11, b185_106]
            try simp only [zput_s, zput_n, ti_g, oI_add, oI_sub, oI_mul]
            refine zok_ck ((q0).1) ?_
            refine zok_c0 (s163 (q0) (by first | (omega) | ((try simp only [zt0, zt1, zt2, zt3, zt4, zt5, zt6, zt7, zt8, zt9, zt10, zt11, zt12, zt13, e12_2, e12_3, e12_4, e12_11]); omega)) (f12.g)) (fun t14 p14 => ?_)
            obtain ⟨f14, p14⟩ := p14
            have e14_2 : ∀ k, tg t14 (sr sh r0 2) k = tg t12 (sr sh r0 2) k := fun k => f14.eq q0 (i := 2) (by decide) (by decide) k
            have e14_3 : ∀ k, tg t14 (sr sh r0 3) k = tg t12 (sr sh r0 3) k := fun k => f14.eq q0 (i := 3) (by decide) (by decide) k
            have e14_4 : ∀ k, tg t14 (sr sh r0 4) k = tg t12 (sr sh r0 4) k := fun k => f14.eq q0 (i := 4) (by decide) (by decide) k
            have e14_11 : ∀ k, tg t14 (sr sh r0 11) k = tg t12 (sr sh r0 11) k := fun k => f14.eq q0 (i := 11) (by decide) (by decide) k
            try simp only [zt0, zt1, zt2, zt3, zt4, zt5, zt6, zt7, zt8, zt9, zt10, zt11, zt12, zt13, e12_2, e12_3, e12_4, e12_11, e14_2, e14_3, e14_4, e14_11] at p14
            have hL14_0 := p14.2 0 (by decide)
            try simp only [zt0, zt1, zt2, zt3, zt4, zt5, zt6, zt7, zt8, zt9, zt10, zt11, zt12, zt13, e12_2, e12_3, e12_4, e12_11, e14_2, e14_3, e14_4, e14_11] at hL14_0
            have hL14_1 := p14.2 1 (by decide)
            try simp only [zt0, zt1, zt2, zt3, zt4, zt5, zt6, zt7, zt8, zt9, zt10, zt11, zt12, zt13, e12_2, e12_3, e12_4, e12_11, e14_2, e14_3, e14_4, e14_11] at hL14_1
            have hL14_2 := p14.2 2 (by decide)
            try simp only [zt0, zt1, zt2, zt3, zt4, zt5, zt6, zt7, zt8, zt9, zt10, zt11, zt12, zt13, e12_2, e12_3, e12_4, e12_11, e14_2, e14_3, e14_4, e14_11] at hL14_2
            have hL14_3 := p14.2 3 (by decide)
            try simp only [zt0, zt1, zt2, zt3, zt4, zt5, zt6, zt7, zt8, zt9, zt10, zt11, zt12, zt13, e12_2, e12_3, e12_4, e12_11, e14_2, e14_3, e14_4, e14_11] at hL14_3
            have hL14_4 := p14.2 5 (by decide)
            try simp only [zt0, zt1, zt2, zt3, zt4, zt5, zt6, zt7, zt8, zt9, zt10, zt11, zt12, zt13, e12_2, e12_3, e12_4, e12_11, e14_2, e14_3, e14_4, e14_11] at hL14_4
            have hL14_5 := p14.2 6 (by decide)
            try simp only [zt0, zt1, zt2, zt3, zt4, zt5, zt6, zt7, zt8, zt9, zt10, zt11, zt12, zt13, e12_2, e12_3, e12_4, e12_11, e14_2, e14_3, e14_4, e14_11] at hL14_5
            try simp only [zput_s, zput_n, ti_g, oI_add, oI_sub, oI_mul]
            exact l185_110 q0 (by omega) (by omega) (by omega) d1 d2 G _ _ _ ((FrV.trans (Ns := [0, 1, 2, 3, 4, 9, 10, 11, 12, 13, 14]) ((FrV.trans (Ns := [0, 1, 2, 3, 4, 9, 10, 11, 12, 13, 14]) (f0) f12 (by decide) (by decide))) f14 (by decide) (by decide))) (by first | omega | ((try simp only [zt0, zt1, zt2, zt3, zt4, zt5, zt6, zt7, zt8, zt9, zt10, zt11, zt12, zt13, e12_2, e12_3, e12_4, e12_11, e14_2, e14_3, e14_4, e14_11]); omega)) (fun k hk => by ((try have c0 := hq1 k hk); (try have c0 := hq1 k); (have c2 := e12_2 k); (have c7 := e14_2 k); (try simp only [zt0, zt1, zt2, zt3, zt4, zt5, zt6, zt7, zt8, zt9, zt10, zt11, zt12, zt13] at *) <;> omega)) (Nat.lt_succ_self _)
    · refine zok_ck ((q0).1) ?_
      have gq15_0 : -1 ≤ tg t1 (sr sh r0 3) (7 * x2 + x4).toNat ∧ tg t1 (sr sh r0 3) (7 * x2 + x4).toNat ≤ tg t1 (sr sh r0 4) (7 * x2 + x4).toNat ∧ tg t1 (sr sh r0 4) (7 * x2 + x4).toNat ≤ 400 := by have g := (f0.g).2.1 (7 * x2 + x4).toNat (by omega); exact ⟨g.1, g.2.1, g.2.2.2 (by omega)⟩
      try simp only [zt0, zt1, zt2, zt3, zt4, zt5, zt6, zt7, zt8, zt9, zt10, zt11, zt12, zt13] at gq15_0
      refine zok_c0 (s153 (q0) (by omega) (by omega) (by first | (omega) | ((try simp only [zt0, zt1, zt2, zt3, zt4, zt5, zt6, zt7, zt8, zt9, zt10, zt11, zt12, zt13]); omega)) (by first | (omega) | ((try simp only [zt0, zt1, zt2, zt3, zt4, zt5, zt6, zt7, zt8, zt9, zt10, zt11, zt12, zt13]); omega)) (f0.g)) (fun t15 p15 => ?_)
      obtain ⟨f15, p15⟩ := p15
      have e15_2 : ∀ k, tg t15 (sr sh r0 2) k = tg t1 (sr sh r0 2) k := fun k => f15.eq q0 (i := 2) (by decide) (by decide) k
      have e15_3 : ∀ k, tg t15 (sr sh r0 3) k = tg t1 (sr sh r0 3) k := fun k => f15.eq q0 (i := 3) (by decide) (by decide) k
      have e15_4 : ∀ k, tg t15 (sr sh r0 4) k = tg t1 (sr sh r0 4) k := fun k => f15.eq q0 (i := 4) (by decide) (by decide) k
      try simp only [zt0, zt1, zt2, zt3, zt4, zt5, zt6, zt7, zt8, zt9, zt10, zt11, zt12, zt13, e15_2, e15_3, e15_4] at p15
      simp only [zput_s, zput_n, ti_g, oI_add, oI_sub, oI_mul, zt0, zt1, zt2, zt3, zt4, zt5, zt6, zt7, zt8, zt9, zt10, zt11, zt12, zt13, e15_2, e15_3, e15_4, b185_22]
      try simp only [zput_s, zput_n, ti_g, oI_add, oI_sub, oI_mul]
      first | refine zok_ne (by omega) (fun c17 => ?_) (fun c17 => ?_) | refine zok_if (fun c17 => ?_) (fun c17 => ?_)
      · simp only [zput_s, zput_n, ti_g, oI_add, oI_sub, oI_mul, zt0, zt1, zt2, zt3, zt4, zt5, zt6, zt7, zt8, zt9, zt10, zt11, zt12, zt13, e15_2, e15_3, e15_4, b185_51]
        try simp only [zput_s, zput_n, ti_g, oI_add, oI_sub, oI_mul]
        first | refine zok_ne (by omega) (fun c19 => ?_) (fun c19 => ?_) | refine zok_if (fun c19 => ?_) (fun c19 => ?_)
        · simp only [zput_s, zput_n, ti_g, oI_add, oI_sub, oI_mul, zt0, zt1, zt2, zt3, zt4, zt5, zt6, zt7, zt8, zt9, zt10, zt11, zt12, zt13, e15_2, e15_3, e15_4, b185_69]
          try simp only [zput_s, zput_n, ti_g, oI_add, oI_sub, oI_mul]
          try simp only [zput_s, zput_n, ti_g, oI_add, oI_sub, oI_mul]
          exact ih _ _ ((FrV.trans (Ns := [0, 1, 2, 3, 4, 9, 10, 11, 12, 13, 14]) (f0) f15 (by decide) (by decide))) (by first | omega | ((try simp only [zt0, zt1, zt2, zt3, zt4, zt5, zt6, zt7, zt8, zt9, zt10, zt11, zt12, zt13, e15_2, e15_3, e15_4]); omega)) (fun k hk => by ((try have c0 := hq1 k hk); (try have c0 := hq1 k); (have c3 := e15_2 k); (try simp only [zt0, zt1, zt2, zt3, zt4, zt5, zt6, zt7, zt8, zt9, zt10, zt11, zt12, zt13] at *) <;> omega)) (fun k hk => by first | omega | (rcases Classical.em (k = (x4).toNat) with h | h <;> first | (rw [h]; ((try have c0 := hq0 (x4).toNat (by decide)); (try have c0 := hq0 (x4).toNat); (try have c1 := p15.2.1 (x4).toNat (by omega)); (try simp only [zt0, zt1, zt2, zt3, zt4, zt5, zt6, zt7, zt8, zt9, zt10, zt11, zt12, zt13] at *) <;> omega)) | (have hk2 := hq2 k (by omega); ((try have c0 := hq0 k hk); (try have c0 := hq0 k); (have c1 := p15.2.1 k (by omega)); (try simp only [zt0, zt1, zt2, zt3, zt4, zt5, zt6, zt7, zt8, zt9, zt10, zt11, zt12, zt13] at *) <;> omega)))) (by first | omega | ((try simp only [zt0, zt1, zt2, zt3, zt4, zt5, zt6, zt7, zt8, zt9, zt10, zt11, zt12, zt13, e15_2, e15_3, e15_4]); omega))
        · first | refine zok_le (by omega) (fun c21 => ?_) (fun c21 => ?_) | refine zok_if (fun c21 => ?_) (fun c21 => ?_)
          · simp only [zput_s, zput_n, ti_g, oI_add, oI_sub, oI_mul, zt0, zt1, zt2, zt3, zt4, zt5, zt6, zt7, zt8, zt9, zt10, zt11, zt12, zt13, e15_2, e15_3, e15_4, b185_69]
            try simp only [zput_s, zput_n, ti_g, oI_add, oI_sub, oI_mul]
            try simp only [zput_s, zput_n, ti_g, oI_add, oI_sub, oI_mul]
            exact ih _ _ ((FrV.trans (Ns := [0, 1, 2, 3, 4, 9, 10, 11, 12, 13, 14]) (f0) f15 (by decide) (by decide))) (by first | omega | ((try simp only [zt0, zt1, zt2, zt3, zt4, zt5, zt6, zt7, zt8, zt9, zt10, zt11, zt12, zt13, e15_2, e15_3, e15_4]); omega)) (fun k hk => by ((try have c0 := hq1 k hk); (try have c0 := hq1 k); (have c3 := e15_2 k); (try simp only [zt0, zt1, zt2, zt3, zt4, zt5, zt6, zt7, zt8, zt9, zt10, zt11, zt12, zt13] at *) <;> omega)) (fun k hk => by first | omega | (rcases Classical.em (k = (x4).toNat) with h | h <;> first | (rw [h]; ((try have c0 := hq0 (x4).toNat (by decide)); (try have c0 := hq0 (x4).toNat); (try have c1 := p15.2.1 (x4).toNat (by omega)); (try simp only [zt0, zt1, zt2, zt3, zt4, zt5, zt6, zt7, zt8, zt9, zt10, zt11, zt12, zt13] at *) <;> omega)) | (have hk2 := hq2 k (by omega); ((try have c0 := hq0 k hk); (try have c0 := hq0 k); (have c1 := p15.2.1 k (by omega)); (try simp only [zt0, zt1, zt2, zt3, zt4, zt5, zt6, zt7, zt8, zt9, zt10, zt11, zt12, zt13] at *) <;> omega)))) (by first | omega | ((try simp only [zt0, zt1, zt2, zt3, zt4, zt5, zt6, zt7, zt8, zt9, zt10, zt11, zt12, zt13, e15_2, e15_3, e15_4]); omega))
          · refine zok_ck ((q0).1) ?_
            refine zok_c0 (s179 (q0) (by omega) (by first | (omega) | ((try simp only [zt0, zt1, zt2, zt3, zt4, zt5, zt6, zt7, zt8, zt9, zt10, zt11, zt12, zt13, e15_2, e15_3, e15_4]); omega)) (by first | (omega) | ((try simp only [zt0, zt1, zt2, zt3, zt4, zt5, zt6, zt7, zt8, zt9, zt10, zt11, zt12, zt13, e15_2, e15_3, e15_4]); omega)) (f15.g)) (fun t23 p23 => ?_)
            obtain ⟨f23, p23⟩ := p23
            have e23_2 : ∀ k, tg t23 (sr sh r0 2) k = tg t15 (sr sh r0 2) k := fun k => f23.eq q0 (i := 2) (by decide) (by decide) k
            have e23_3 : ∀ k, tg t23 (sr sh r0 3) k = tg t15 (sr sh r0 3) k := fun k => f23.eq q0 (i := 3) (by decide) (by decide) k
            have e23_4 : ∀ k, tg t23 (sr sh r0 4) k = tg t15 (sr sh r0 4) k := fun k => f23.eq q0 (i := 4) (by decide) (by decide) k
            have e23_11 : ∀ k, tg t23 (sr sh r0 11) k = tg t15 (sr sh r0 11) k := fun k => f23.eq q0 (i := 11) (by decide) (by decide) k
            try simp only [zt0, zt1, zt2, zt3, zt4, zt5, zt6, zt7, zt8, zt9, zt10, zt11, zt12, zt13, e15_2, e15_3, e15_4, e23_2, e23_3, e23_4, e23_11] at p23
            simp only [zput_s, zput_n, ti_g, oI_add, oI_sub, oI_mul, zt0, zt1, zt2, zt3, zt4, zt5, zt6, zt7, zt8, zt9, zt10, zt11, zt12, zt13, e15_2, e15_3, e15_4, e23_2, e23_3, e23_4, e23_11, b185_69]
            try simp only [zput_s, zput_n, ti_g, oI_add, oI_sub, oI_mul]
            try simp only [zput_s, zput_n, ti_g, oI_add, oI_sub, oI_mul]
            exact ih _ _ ((FrV.trans (Ns := [0, 1, 2, 3, 4, 9, 10, 11, 12, 13, 14]) ((FrV.trans (Ns := [0, 1, 2, 3, 4, 9, 10, 11, 12, 13, 14]) (f0) f15 (by decide) (by decide))) f23 (by decide) (by decide))) (by first | omega | ((try simp only [zt0, zt1, zt2, zt3, zt4, zt5, zt6, zt7, zt8, zt9, zt10, zt11, zt12, zt13, e15_2, e15_3, e15_4, e23_2, e23_3, e23_4, e23_11]); omega)) (fun k hk => by ((try have c0 := hq1 k hk); (try have c0 := hq1 k); (have c3 := e15_2 k); (have c7 := e23_2 k); (try simp only [zt0, zt1, zt2, zt3, zt4, zt5, zt6, zt7, zt8, zt9, zt10, zt11, zt12, zt13] at *) <;> omega)) (fun k hk => by first | omega | (rcases Classical.em (k = (x4).toNat) with h | h <;> first | (rw [h]; ((try have c0 := hq0 (x4).toNat (by decide)); (try have c0 := hq0 (x4).toNat); (try have c1 := p15.2.1 (x4).toNat (by omega)); (try have c6 := p23.2 (x4).toNat (by omega)); (try simp only [zt0, zt1, zt2, zt3, zt4, zt5, zt6, zt7, zt8, zt9, zt10, zt11, zt12, zt13] at *) <;> omega)) | (have hk2 := hq2 k (by omega); ((try have c0 := hq0 k hk); (try have c0 := hq0 k); (have c1 := p15.2.1 k (by omega)); (have c6 := p23.2 k (by omega)); (try simp only [zt0, zt1, zt2, zt3, zt4, zt5, zt6, zt7, zt8, zt9, zt10, zt11, zt12, zt13] at *) <;> omega)))) (by first | omega | ((try simp only [zt0, zt1, zt2, zt3, zt4, zt5, zt6, zt7, zt8, zt9, zt10, zt11, zt12, zt13, e15_2, e15_3, e15_4, e23_2, e23_3, e23_4, e23_11]); omega))
      · first | refine zok_eq (by omega) (fun c25 => ?_) (fun c25 => ?_) | refine zok_if (fun c25 => ?_) (fun c25 => ?_)
        · refine zok_ck ((q0).1) ?_
          refine zok_c0 (s177 (q0) (by omega) (by omega) (by first | (omega) | ((try simp only [zt0, zt1, zt2, zt3, zt4, zt5, zt6, zt7, zt8, zt9, zt10, zt11, zt12, zt13, e15_2, e15_3, e15_4]); omega)) (by first | (omega) | ((try simp only [zt0, zt1, zt2, zt3, zt4, zt5, zt6, zt7, zt8, zt9, zt10, zt11, zt12, zt13, e15_2, e15_3, e15_4]); omega)) (f15.g)) (fun t26 p26 => ?_)
          obtain ⟨f26, p26⟩ := p26
          have e26_2 : ∀ k, tg t26 (sr sh r0 2) k = tg t15 (sr sh r0 2) k := fun k => f26.eq q0 (i := 2) (by decide) (by decide) k
          have e26_3 : ∀ k, tg t26 (sr sh r0 3) k = tg t15 (sr sh r0 3) k := fun k => f26.eq q0 (i := 3) (by decide) (by decide) k
          have e26_4 : ∀ k, tg t26 (sr sh r0 4) k = tg t15 (sr sh r0 4) k := fun k => f26.eq q0 (i := 4) (by decide) (by decide) k
          have e26_10 : ∀ k, tg t26 (sr sh r0 10) k = tg t15 (sr sh r0 10) k := fun k => f26.eq q0 (i := 10) (by decide) (by decide) k
          have e26_11 : ∀ k, tg t26 (sr sh r0 11) k = tg t15 (sr sh r0 11) k := fun k => f26.eq q0 (i := 11) (by decide) (by decide) k
          try simp only [zt0, zt1, zt2, zt3, zt4, zt5, zt6, zt7, zt8, zt9, zt10, zt11, zt12, zt13, e15_2, e15_3, e15_4, e26_2, e26_3, e26_4, e26_10, e26_11] at p26
          simp only [zput_s, zput_n, ti_g, oI_add, oI_sub, oI_mul, zt0, zt1, zt2, zt3, zt4, zt5, zt6, zt7, zt8, zt9, zt10, zt11, zt12, zt13, e15_2, e15_3, e15_4, e26_2, e26_3, e26_4, e26_10, e26_11, b185_51]
          try simp only [zput_s, zput_n, ti_g, oI_add, oI_sub, oI_mul]
          first | refine zok_ne (by omega) (fun c28 => ?_) (fun c28 => ?_) | refine zok_if (fun c28 => ?_) (fun c28 => ?_)
          · simp only [zput_s, zput_n, ti_g, oI_add, oI_sub, oI_mul, zt0, zt1, zt2, zt3, zt4, zt5, zt6, zt7, zt8, zt9, zt10, zt11, zt12, zt13, e15_2, e15_3, e15_4, e26_2, e26_3, e26_4, e26_10, e26_11, b185_69]
            try simp only [zput_s, zput_n, ti_g, oI_add, oI_sub, oI_mul]
            try simp only [zput_s, zput_n, ti_g, oI_add, oI_sub, oI_mul]
            exact ih _ _ ((FrV.trans (Ns := [0, 1, 2, 3, 4, 9, 10, 11, 12, 13, 14]) ((FrV.trans (Ns := [0, 1, 2, 3, 4, 9, 10, 11, 12, 13, 14]) (f0) f15 (by decide) (by decide))) f26 (by decide) (by decide))) (by first | omega | ((try simp only [zt0, zt1, zt2, zt3, zt4, zt5, zt6, zt7, zt8, zt9, zt10, zt11, zt12, zt13, e15_2, e15_3, e15_4, e26_2, e26_3, e26_4, e26_10, e26_11]); omega)) (fun k hk => by ((try have c0 := hq1 k hk); (try have c0 := hq1 k); (have c3 := e15_2 k); (have c6 := e26_2 k); (try simp only [zt0, zt1, zt2, zt3, zt4, zt5, zt6, zt7, zt8, zt9, zt10, zt11, zt12, zt13] at *) <;> omega)) (fun k hk => by first | omega | (rcases Classical.em (k = (x4).toNat) with h | h <;> first | (rw [h]; ((try have c0 := hq0 (x4).toNat (by decide)); (try have c0 := hq0 (x4).toNat); (try have c1 := p15.2.1 (x4).toNat (by omega)); (try have c9 := e26_10 (x4).toNat); (try simp only [zt0, zt1, zt2, zt3, zt4, zt5, zt6, zt7, zt8, zt9, zt10, zt11, zt12, zt13] at *) <;> omega)) | (have hk2 := hq2 k (by omega); ((try have c0 := hq0 k hk); (try have c0 := hq0 k); (have c1 := p15.2.1 k (by omega)); (have c9 := e26_10 k); (try simp only [zt0, zt1, zt2, zt3, zt4, zt5, zt6, zt7, zt8, zt9, zt10, zt11, zt12, zt13] at *) <;> omega)))) (by first | omega | ((try simp only [zt0, zt1, zt2, zt3, zt4, zt5, zt6, zt7, zt8, zt9, zt10, zt11, zt12, zt13, e15_2, e15_3, e15_4, e26_2, e26_3, e26_4, e26_10, e26_11]); omega))
          · first | refine zok_le (by omega) (fun c30 => ?_) (fun c30 => ?_) | refine zok_if (fun c30 => ?_) (fun c30 => ?_)
            · simp only [zput_s, zput_n, ti_g, oI_add, oI_sub, oI_mul, zt0, zt1, zt2, zt3, zt4, zt5, zt6, zt7, zt8, zt9, zt10, zt11, zt12, zt13, e15_2, e15_3, e15_4, e26_2, e26_3, e26_4, e26_10, e26_11, b185_69]
              try simp only [zput_s, zput_n, ti_g, oI_add, oI_sub, oI_mul]
              try simp only [zput_s, zput_n, ti_g, oI_add, oI_sub, oI_mul]
              exact ih _ _ ((FrV.trans (Ns := [0, 1, 2, 3, 4, 9, 10, 11, 12, 13, 14]) ((FrV.trans (Ns := [0, 1, 2, 3, 4, 9, 10, 11, 12, 13, 14]) (f0) f15 (by decide) (by decide))) f26 (by decide) (by decide))) (by first | omega | ((try simp only [zt0, zt1, zt2, zt3, zt4, zt5, zt6, zt7, zt8, zt9, zt10, zt11, zt12, zt13, e15_2, e15_3, e15_4, e26_2, e26_3, e26_4, e26_10, e26_11]); omega)) (fun k hk => by ((try have c0 := hq1 k hk); (try have c0 := hq1 k); (have c3 := e15_2 k); (have c6 := e26_2 k); (try simp only [zt0, zt1, zt2, zt3, zt4, zt5, zt6, zt7, zt8, zt9, zt10, zt11, zt12, zt13] at *) <;> omega)) (fun k hk => by first | omega | (rcases Classical.em (k = (x4).toNat) with h | h <;> first | (rw [h]; ((try have c0 := hq0 (x4).toNat (by decide)); (try have c0 := hq0 (x4).toNat); (try have c1 := p15.2.1 (x4).toNat (by omega)); (try have c9 := e26_10 (x4).toNat); (try simp only [zt0, zt1, zt2, zt3, zt4, zt5, zt6, zt7, zt8, zt9, zt10, zt11, zt12, zt13] at *) <;> omega)) | (have hk2 := hq2 k (by omega); ((try have c0 := hq0 k hk); (try have c0 := hq0 k); (have c1 := p15.2.1 k (by omega)); (have c9 := e26_10 k); (try simp only [zt0, zt1, zt2, zt3, zt4, zt5, zt6, zt7, zt8, zt9, zt10, zt11, zt12, zt13] at *) <;> omega)))) (by first | omega | ((try simp only [zt0, zt1, zt2, zt3, zt4, zt5, zt6, zt7, zt8, zt9, zt10, zt11, zt12, zt13, e15_2, e15_3, e15_4, e26_2, e26_3, e26_4, e26_10, e26_11]); omega))
            · refine zok_ck ((q0).1) ?_
              refine zok_c0 (s179 (q0) (by omega) (by first | (omega) | ((try simp only [zt0, zt1, zt2, zt3, zt4, zt5, zt6, zt7, zt8, zt9, zt10, zt11, zt12, zt13, e15_2, e15_3, e15_4, e26_2, e26_3, e26_4, e26_10, e26_11]); omega)) (by first | (omega) | ((try simp only [zt0, zt1, zt2, zt3, zt4, zt5, zt6, zt7, zt8, zt9, zt10, zt11, zt12, zt13, e15_2, e15_3, e15_4, e26_2, e26_3, e26_4, e26_10, e26_11]); omega)) (f26.g)) (fun t32 p32 => ?_)
              obtain ⟨f32, p32⟩ := p32
              have e32_2 : ∀ k, tg t32 (sr sh r0 2) k = tg t26 (sr sh r0 2) k := fun k => f32.eq q0 (i := 2) (by decide) (by decide) k
              have e32_3 : ∀ k, tg t32 (sr sh r0 3) k = tg t26 (sr sh r0 3) k := fun k => f32.eq q0 (i := 3) (by decide) (by decide) k
              have e32_4 : ∀ k, tg t32 (sr sh r0 4) k = tg t26 (sr sh r0 4) k := fun k => f32.eq q0 (i := 4) (by decide) (by decide) k
              have e32_11 : ∀ k, tg t32 (sr sh r0 11) k = tg t26 (sr sh r0 11) k := fun k => f32.eq q0 (i := 11) (by decide) (by decide) k
              try simp only [zt0, zt1, zt2, zt3, zt4, zt5, zt6, zt7, zt8, zt9, zt10, zt11, zt12, zt13, e15_2, e15_3, e15_4, e26_2, e26_3, e26_4, e26_10, e26_11, e32_2, e32_3, e32_4, e32_11] at p32
              simp only [zput_s, zput_n, ti_g, oI_add, oI_sub, oI_mul, zt0, zt1, zt2, zt3, zt4, zt5, zt6, zt7, zt8, zt9, zt10, zt11, zt12, zt13, e15_2, e15_3, e15_4, e26_2, e26_3, e26_4, e26_10, e26_11, e32_2, e32_3, e32_4, e32_11, b185_69]
              try simp only [zput_s, zput_n, ti_g, oI_add, oI_sub, oI_mul]
              try simp only [zput_s, zput_n, ti_g, oI_add, oI_sub, oI_mul]
              exact ih _ _ ((FrV.trans (Ns := [0, 1, 2, 3, 4, 9, 10, 11, 12, 13, 14]) ((FrV.trans (Ns := [0, 1, 2, 3, 4, 9, 10, 11, 12, 13, 14]) ((FrV.trans (Ns := [0, 1, 2, 3, 4, 9, 10, 11, 12, 13, 14]) (f0) f15 (by decide) (by decide))) f26 (by decide) (by decide))) f32 (by decide) (by decide))) (by first | omega | ((try simp only [zt0, zt1, zt2, zt3, zt4, zt5, zt6, zt7, zt8, zt9, zt10, zt11, zt12, zt13, e15_2, e15_3, e15_4, e26_2, e26_3, e26_4, e26_10, e26_11, e32_2, e32_3, e32_4, e32_11]); omega)) (fun k hk => by ((try have c0 := hq1 k hk); (try have c0 := hq1 k); (have c3 := e15_2 k); (have c6 := e26_2 k); (have c12 := e32_2 k); (try simp only [zt0, zt1, zt2, zt3, zt4, zt5, zt6, zt7, zt8, zt9, zt10, zt11, zt12, zt13] at *) <;> omega)) (fun k hk => by first | omega | (rcases Classical.em (k = (x4).toNat) with h | h <;> first | (rw [h]; ((try have c0 := hq0 (x4).toNat (by decide)); (try have c0 := hq0 (x4).toNat); (try have c1 := p15.2.1 (x4).toNat (by omega)); (try have c9 := e26_10 (x4).toNat); (try have c11 := p32.2 (x4).toNat (by omega)); (try simp only [zt0, zt1, zt2, zt3, zt4, zt5, zt6, zt7, zt8, zt9, zt10, zt11, zt12, zt13] at *) <;> omega)) | (have hk2 := hq2 k (by omega); ((try have c0 := hq0 k hk); (try have c0 := hq0 k); (have c1 := p15.2.1 k (by omega)); (have c9 := e26_10 k); (have c11 := p32.2 k (by omega)); (try simp only [zt0, zt1, zt2, zt3, zt4, zt5, zt6, zt7, zt8, zt9, zt10, zt11, zt12, zt13] at *) <;> omega)))) (by first | omega | ((try simp only [zt0, zt1, zt2, zt3, zt4, zt5, zt6, zt7, zt8, zt9, zt10, zt11, zt12, zt13, e15_2, e15_3, e15_4, e26_2, e26_3, e26_4, e26_10, e26_11, e32_2, e32_3, e32_4, e32_11]); omega))
        · first | refine zok_ne (by omega) (fun c34 => ?_) (fun c34 => ?_) | refine zok_if (fun c34 => ?_) (fun c34 => ?_)
          · refine zok_ck ((q0).1) ?_
            refine zok_c0 (s177 (q0) (by omega) (by omega) (by first | (omega) | ((try simp only [zt0, zt1, zt2, zt3, zt4, zt5, zt6, zt7, zt8, zt9, zt10, zt11, zt12, zt13, e15_2, e15_3, e15_4]); omega)) (by first | (omega) | ((try simp only [zt0, zt1, zt2, zt3, zt4, zt5, zt6, zt7, zt8, zt9, zt10, zt11, zt12, zt13, e15_2, e15_3, e15_4]); omega)) (f15.g)) (fun t35 p35 => ?_)
            obtain ⟨f35, p35⟩ := p35
            have e35_2 : ∀ k, tg t35 (sr sh r0 2) k = tg t15 (sr sh r0 2) k := fun k => f35.eq q0 (i := 2) (by decide) (by decide) k
            have e35_3 : ∀ k, tg t35 (sr sh r0 3) k = tg t15 (sr sh r0 3) k := fun k => f35.eq q0 (i := 3) (by decide) (by decide) k
            have e35_4 : ∀ k, tg t35 (sr sh r0 4) k = tg t15 (sr sh r0 4) k := fun k => f35.eq q0 (i := 4) (by decide) (by decide) k
            have e35_10 : ∀ k, tg t35 (sr sh r0 10) k = tg t15 (sr sh r0 10) k := fun k => f35.eq q0 (i := 10) (by decide) (by decide) k
            have e35_11 : ∀ k, tg t35 (sr sh r0 11) k = tg t15 (sr sh r0 11) k := fun k => f35.eq q0 (i := 11) (by decide) (by decide) k
            try simp only [zt0, zt1, zt2, zt3, zt4, zt5, zt6, zt7, zt8, zt9, zt10, zt11, zt12, zt13, e15_2, e15_3, e15_4, e35_2, e35_3, e35_4, e35_10, e35_11] at p35
            simp only [zput_s, zput_n, ti_g, oI_add, oI_sub, oI_mul, zt0, zt1, zt2, zt3, zt4, zt5, zt6, zt7, zt8, zt9, zt10, zt11, zt12, zt13, e15_2, e15_3, e15_4, e35_2, e35_3, e35_4, e35_10, e35_11, b185_51]
            try simp only [zput_s, zput_n, ti_g, oI_add, oI_sub, oI_mul]
            first | refine zok_ne (by omega) (fun c37 => ?_) (fun c37 => ?_) | refine zok_if (fun c37 => ?_) (fun c37 => ?_)
            · simp only [zput_s, zput_n, ti_g, oI_add, oI_sub, oI_mul, zt0, zt1, zt2, zt3, zt4, zt5, zt6, zt7, zt8, zt9, zt10, zt11, zt12, zt13, e15_2, e15_3, e15_4, e35_2, e35_3, e35_4, e35_10, e35_11, b185_69]
              try simp only [zput_s, zput_n, ti_g, oI_add, oI_sub, oI_mul]
              try simp only [zput_s, zput_n, ti_g, oI_add, oI_sub, oI_mul]
              exact ih _ _ ((FrV.trans (Ns := [0, 1, 2, 3, 4, 9, 10, 11, 12, 13, 14]) ((FrV.trans (Ns := [0, 1, 2, 3, 4, 9, 10, 11, 12, 13, 14]) (f0) f15 (by decide) (by decide))) f35 (by decide) (by decide))) (by first | omega | ((try simp only [zt0, zt1, zt2, zt3, zt4, zt5, zt6, zt7, zt8, zt9, zt10, zt11, zt12, zt13, e15_2, e15_3, e15_4, e35_2, e35_3, e35_4, e35_10, e35_11]); omega)) (fun k hk => by ((try have c0 := hq1 k hk); (try have c0 := hq1 k); (have c3 := e15_2 k); (have c6 := e35_2 k); (try simp only [zt0, zt1, zt2, zt3, zt4, zt5, zt6, zt7, zt8, zt9, zt10, zt11, zt12, zt13] at *) <;> omega)) (fun k hk => by first | omega | (rcases Classical.em (k = (x4).toNat) with h | h <;> first | (rw [h]; ((try have c0 := hq0 (x4).toNat (by decide)); (try have c0 := hq0 (x4).toNat); (try have c1 := p15.2.1 (x4).toNat (by omega)); (try have c9 := e35_10 (x4).toNat); (try simp only [zt0, zt1, zt2, zt3, zt4, zt5, zt6, zt7, zt8, zt9, zt10, zt11, zt12, zt13] at *) <;> omega)) | (have hk2 := hq2 k (by omega); ((try have c0 := hq0 k hk); (try have c0 := hq0 k); (have c1 := p15.2.1 k (by omega)); (have c9 := e35_10 k); (try simp only [zt0, zt1, zt2, zt3, zt4, zt5, zt6, zt7, zt8, zt9, zt10, zt11, zt12, zt13] at *) <;> omega)))) (by first | omega | ((try simp only [zt0, zt1, zt2, zt3, zt4, zt5, zt6, zt7, zt8, zt9, zt10, zt11, zt12, zt13, e15_2, e15_3, e15_4, e35_2, e35_3, e35_4, e35_10, e35_11]); omega))
            · first | refine zok_le (by omega) (fun c39 => ?_) (fun c39 => ?_) | refine zok_if (fun c39 => ?_) (fun c39 => ?_)
              · simp only [zput_s, zput_n, ti_g, oI_add, oI_sub, oI_mul, zt0, zt1, zt2, zt3, zt4, zt5, zt6, zt7, zt8, zt9, zt10, zt11, zt12, zt13, e15_2, e15_3, e15_4, e35_2, e35_3, e35_4, e35_10, e35_11, b185_69]
                try simp only [zput_s, zput_n, ti_g, oI_add, oI_sub, oI_mul]
                try simp only [zput_s, zput_n, ti_g, oI_add, oI_sub, oI_mul]
                exact ih _ _ ((FrV.trans (Ns := [0, 1, 2, 3, 4, 9, 10, 11, 12, 13, 14]) ((FrV.trans (Ns := [0, 1, 2, 3, 4, 9, 10, 11, 12, 13, 14]) (f0) f15 (by decide) (by decide))) f35 (by decide) (by decide))) (by first | omega | ((try simp only [zt0, zt1, zt2, zt3, zt4, zt5, zt6, zt7, zt8, zt9, zt10, zt11, zt12, zt13, e15_2, e15_3, e15_4, e35_2, e35_3, e35_4, e35_10, e35_11]); omega)) (fun k hk => by ((try have c0 := hq1 k hk); (try have c0 := hq1 k); (have c3 := e15_2 k); (have c6 := e35_2 k); (try simp only [zt0, zt1, zt2, zt3, zt4, zt5, zt6, zt7, zt8, zt9, zt10, zt11, zt12, zt13] at *) <;> omega)) (fun k hk => by first | omega | (rcases Classical.em (k = (x4).toNat) with h | h <;> first | (rw [h]; ((try have c0 := hq0 (x4).toNat (by decide)); (try have c0 := hq0 (x4).toNat); (try have c1 := p15.2.1 (x4).toNat (by omega)); (try have c9 := e35_10 (x4).toNat); (try simp only [zt0, zt1, zt2, zt3, zt4, zt5, zt6, zt7, zt8, zt9, zt10, zt11, zt12, zt13] at *) <;> omega)) | (have hk2 := hq2 k (by omega); ((try have c0 := hq0 k hk); (try have c0 := hq0 k); (have c1 := p15.2.1 k (by omega)); (have c9 := e35_10 k); (try simp only [zt0, zt1, zt2, zt3, zt4, zt5, zt6, zt7, zt8, zt9, zt10, zt11, zt12, zt13] at *) <;> omega)))) (by first | omega | ((try simp only [zt0, zt1, zt2, zt3, zt4, zt5, zt6, zt7, zt8, zt9, zt10, zt11, zt12, zt13, e15_2, e15_3, e15_4, e35_2, e35_3, e35_4, e35_10, e35_11]); omega))
              · refine zok_ck ((q0).1) ?_
                refine zok_c0 (s179 (q0) (by omega) (by first | (omega) | ((try simp only [zt0, zt1, zt2, zt3, zt4, zt5, zt6, zt7, zt8, zt9, zt10, zt11, zt12, zt13, e15_2, e15_3, e15_4, e35_2, e35_3, e35_4, e35_10, e35_11]); omega)) (by first | (omega) | ((try simp only [zt0, zt1, zt2, zt3, zt4, zt5, zt6, zt7, zt8, zt9, zt10, zt11, zt12, zt13, e15_2, e15_3, e15_4, e35_2, e35_3, e35_4, e35_10, e35_11]); omega)) (f35.g)) (fun t41 p41 => ?_)
                obtain ⟨f41, p41⟩ := p41
                have e41_2 : ∀ k, tg t41 (sr sh r0 2) k = tg t35 (sr sh r0 2) k := fun k => f41.eq q0 (i := 2) (by decide) (by decide) k
                have e41_3 : ∀ k, tg t41 (sr sh r0 3) k = tg t35 (sr sh r0 3) k := fun k => f41.eq q0 (i := 3) (by decide) (by decide) k
                have e41_4 : ∀ k, tg t41 (sr sh r0 4) k = tg t35 (sr sh r0 4) k := fun k => f41.eq q0 (i := 4) (by decide) (by decide) k
                have e41_11 : ∀ k, tg t41 (sr sh r0 11) k = tg t35 (sr sh r0 11) k := fun k => f41.eq q0 (i := 11) (by decide) (by decide) k
                try simp only [zt0, zt1, zt2, zt3, zt4, zt5, zt6, zt7, zt8, zt9, zt10, zt11, zt12, zt13, e15_2, e15_3, e15_4, e35_2, e35_3, e35_4, e35_10, e35_11, e41_2, e41_3, e41_4, e41_11] at p41
                simp only [zput_s, zput_n, ti_g, oI_add, oI_sub, oI_mul, zt0, zt1, zt2, zt3, zt4, zt5, zt6, zt7, zt8, zt9, zt10, zt11, zt12, zt13, e15_2, e15_3, e15_4, e35_2, e35_3, e35_4, e35_10, e35_11, e41_2, e41_3, e41_4, e41_11, b185_69]
                try simp only [zput_s, zput_n, ti_g, oI_add, oI_sub, oI_mul]
                try simp only [zput_s, zput_n, ti_g, oI_add, oI_sub, oI_mul]
                exact ih _ _ ((FrV.trans (Ns := [0, 1, 2, 3, 4, 9, 10, 11, 12, 13, 14]) ((FrV.trans (Ns := [0, 1, 2, 3, 4, 9, 10, 11, 12, 13, 14]) ((FrV.trans (Ns := [0, 1, 2, 3, 4, 9, 10, 11, 12, 13, 14]) (f0) f15 (by decide) (by decide))) f35 (by decide) (by decide))) f41 (by decide) (by decide))) (by first | omega | ((try simp only [zt0, zt1, zt2, zt3, zt4, zt5, zt6, zt7, zt8, zt9, zt10, zt11, zt12, zt13, e15_2, e15_3, e15_4, e35_2, e35_3, e35_4, e35_10, e35_11, e41_2, e41_3, e41_4, e41_11]); omega)) (fun k hk => by ((try have c0 := hq1 k hk); (try have c0 := hq1 k); (have c3 := e15_2 k); (have c6 := e35_2 k); (have c12 := e41_2 k); (try simp only [zt0, zt1, zt2, zt3, zt4, zt5, zt6, zt7, zt8, zt9, zt10, zt11, zt12, zt13] at *) <;> omega)) (fun k hk => by first | omega | (rcases Classical.em (k = (x4).toNat) with h | h <;> first | (rw [h]; ((try have c0 := hq0 (x4).toNat (by decide)); (try have c0 := hq0 (x4).toNat); (try have c1 := p15.2.1 (x4).toNat (by omega)); (try have c9 := e35_10 (x4).toNat); (try have c11 := p41.2 (x4).toNat (by omega)); (try simp only [zt0, zt1, zt2, zt3, zt4, zt5, zt6, zt7, zt8, zt9, zt10, zt11, zt12, zt13] at *) <;> omega)) | (have hk2 := hq2 k (by omega); ((try have c0 := hq0 k hk); (try have c0 := hq0 k); (have c1 := p15.2.1 k (by omega)); (have c9 := e35_10 k); (have c11 := p41.2 k (by omega)); (try simp only [zt0, zt1, zt2, zt3, zt4, zt5, zt6, zt7, zt8, zt9, zt10, zt11, zt12, zt13] at *) <;> omega)))) (by first | omega | ((try simp only [zt0, zt1, zt2, zt3, zt4, zt5, zt6, zt7, zt8, zt9, zt10, zt11, zt12, zt13, e15_2, e15_3, e15_4, e35_2, e35_3, e35_4, e35_10, e35_11, e41_2, e41_3, e41_4, e41_11]); omega))
          · refine zok_ck ((q0).1) ?_
            refine zok_c0 (s177 (q0) (by omega) (by omega) (by first | (omega) | ((try simp only [zt0, zt1, zt2, zt3, zt4, zt5, zt6, zt7, zt8, zt9, zt10, zt11, zt12, zt13, e15_2, e15_3, e15_4]); omega)) (by first | (omega) | ((try simp only [zt0, zt1, zt2, zt3, zt4, zt5, zt6, zt7, zt8, zt9, zt10, zt11, zt12, zt13, e15_2, e15_3, e15_4]); omega)) (f15.g)) (fun t43 p43 => ?_)
            obtain ⟨f43, p43⟩ := p43
            have e43_2 : ∀ k, tg t43 (sr sh r0 2) k = tg t15 (sr sh r0 2) k := fun k => f43.eq q0 (i := 2) (by decide) (by decide) k
            have e43_3 : ∀ k, tg t43 (sr sh r0 3) k = tg t15 (sr sh r0 3) k := fun k => f43.eq q0 (i := 3) (by decide) (by decide) k
            have e43_4 : ∀ k, tg t43 (sr sh r0 4) k = tg t15 (sr sh r0 4) k := fun k => f43.eq q0 (i := 4) (by decide) (by decide) k
            have e43_10 : ∀ k, tg t43 (sr sh r0 10) k = tg t15 (sr sh r0 10) k := fun k => f43.eq q0 (i := 10) (by decide) (by decide) k
            have e43_11 : ∀ k, tg t43 (sr sh r0 11) k = tg t15 (sr sh r0 11) k := fun k => f43.eq q0 (i := 11) (by decide) (by decide) k
            try simp only [zt0, zt1, zt2, zt3, zt4, zt5, zt6, zt7, zt8, zt9, zt10, zt11, zt12, zt13, e15_2, e15_3, e15_4, e43_2, e43_3, e43_4, e43_10, e43_11] at p43
            simp only [zput_s, zput_n, ti_g, oI_add, oI_sub, oI_mul, zt0, zt1, zt2, zt3, zt4, zt5, zt6, zt7, zt8, zt9, zt10, zt11, zt12, zt13, e15_2, e15_3, e15_4, e43_2, e43_3, e43_4, e43_10, e43_11, b185_51]
            try simp only [zput_s, zput_n, ti_g, oI_add, oI_sub, oI_mul]
            first | refine zok_ne (by omega) (fun c45 => ?_) (fun c45 => ?_) | refine zok_if (fun c45 => ?_) (fun c45 => ?_)
            · simp only [zput_s, zput_n, ti_g, oI_add, oI_sub, oI_mul, zt0, zt1, zt2, zt3, zt4, zt5, zt6, zt7, zt8, zt9, zt10, zt11, zt12, zt13, e15_2, e15_3, e15_4, e43_2, e43_3, e43_4, e43_10, e43_11, b185_69]
              try simp only [zput_s, zput_n, ti_g, oI_add, oI_sub, oI_mul]
              try simp only [zput_s, zput_n, ti_g, oI_add, oI_sub, oI_mul]
              exact ih _ _ ((FrV.trans (Ns := [0, 1, 2, 3, 4, 9, 10, 11, 12, 13, 14]) ((FrV.trans (Ns := [0, 1, 2, 3, 4, 9, 10, 11, 12, 13, 14]) (f0) f15 (by decide) (by decide))) f43 (by decide) (by decide))) (by first | omega | ((try simp only [zt0, zt1, zt2, zt3, zt4, zt5, zt6, zt7, zt8, zt9, zt10, zt11, zt12, zt13, e15_2, e15_3, e15_4, e43_2, e43_3, e43_4, e43_10, e43_11]); omega)) (fun k hk => by ((try have c0 := hq1 k hk); (try have c0 := hq1 k); (have c3 := e15_2 k); (have c6 := e43_2 k); (try simp only [zt0, zt1, zt2, zt3, zt4, zt5, zt6, zt7, zt8, zt9, zt10, zt11, zt12, zt13] at *) <;> omega)) (fun k hk => by first | omega | (rcases Classical.em (k = (x4).toNat) with h | h <;> first | (rw [h]; ((try have c0 := hq0 (x4).toNat (by decide)); (try have c0 := hq0 (x4).toNat); (try have c1 := p15.2.1 (x4).toNat (by omega)); (try have c9 := e43_10 (x4).toNat); (try simp only [zt0, zt1, zt2, zt3, zt4, zt5, zt6, zt7, zt8, zt9, zt10, zt11, zt12, zt13] at *) <;> omega)) | (have hk2 := hq2 k (by omega); ((try have c0 := hq0 k hk); (try have c0 := hq0 k); (have c1 := p15.2.1 k (by omega)); (have c9 := e43_10 k); (try simp only [zt0, zt1, zt2, zt3, zt4, zt5, zt6, zt7, zt8, zt9, zt10, zt11, zt12, zt13] at *) <;> omega)))) (by first | omega | ((try simp only [zt0, zt1, zt2, zt3, zt4, zt5, zt6, zt7, zt8, zt9, zt10, zt11, zt12, zt13, e15_2, e15_3, e15_4, e43_2, e43_3, e43_4, e43_10, e43_11]); omega))
            · first | refine zok_le (by omega) (fun c47 => ?_) (fun c47 => ?_) | refine zok_if (fun c47 => ?_) (fun c47 => ?_)
              · simp only [zput_s, zput_n, ti_g, oI_add, oI_sub, oI_mul, zt0, zt1, zt2, zt3, zt4, zt5, zt6, zt7, zt8, zt9, zt10, zt11, zt12, zt13, e15_2, e15_3, e15_4, e43_2, e43_3, e43_4, e43_10, e43_11, b185_69]
                try simp only [zput_s, zput_n, ti_g, oI_add, oI_sub, oI_mul]
                try simp only [zput_s, zput_n, ti_g, oI_add, oI_sub, oI_mul]
                exact ih _ _ ((FrV.trans (Ns := [0, 1, 2, 3, 4, 9, 10, 11, 12, 13, 14]) ((FrV.trans (Ns := [0, 1, 2, 3, 4, 9, 10, 11, 12, 13, 14]) (f0) f15 (by decide) (by decide))) f43 (by decide) (by decide))) (by first | omega | ((try simp only [zt0, zt1, zt2, zt3, zt4, zt5, zt6, zt7, zt8, zt9, zt10, zt11, zt12, zt13, e15_2, e15_3, e15_4, e43_2, e43_3, e43_4, e43_10, e43_11]); omega)) (fun k hk => by ((try have c0 := hq1 k hk); (try have c0 := hq1 k); (have c3 := e15_2 k); (have c6 := e43_2 k); (try simp only [zt0, zt1, zt2, zt3, zt4, zt5, zt6, zt7, zt8, zt9, zt10, zt11, zt12, zt13] at *) <;> omega)) (fun k hk => by first | omega | (rcases Classical.em (k = (x4).toNat) with h | h <;> first | (rw [h]; ((try have c0 := hq0 (x4).toNat (by decide)); (try have c0 := hq0 (x4).toNat); (try have c1 := p15.2.1 (x4).toNat (by omega)); (try have c9 := e43_10 (x4).toNat); (try simp only [zt0, zt1, zt2, zt3, zt4, zt5, zt6, zt7, zt8, zt9, zt10, zt11, zt12, zt13] at *) <;> omega)) | (have hk2 := hq2 k (by omega); ((try have c0 := hq0 k hk); (try have c0 := hq0 k); (have c1 := p15.2.1 k (by omega)); (have c9 := e43_10 k); (try simp only [zt0, zt1, zt2, zt3, zt4, zt5, zt6, zt7, zt8, zt9, zt10, zt11, zt12, zt13] at *) <;> omega)))) (by first | omega | ((try simp only [zt0, zt1, zt2, zt3, zt4, zt5, zt6, zt7, zt8, zt9, zt10, zt11, zt12, zt13, e15_2, e15_3, e15_4, e43_2, e43_3, e43_4, e43_10, e43_11]); omega))
              · refine zok_ck ((q0).1) ?_
                refine zok_c0 (s179 (q0) (by omega) (by first | (omega) | ((try simp only [zt0, zt1, zt2, zt3, zt4, zt5, zt6, zt7, zt8, zt9, zt10, zt11, zt12, zt13, e15_2, e15_3, e15_4, e43_2, e43_3, e43_4, e43_10, e43_11]); omega)) (by first | (omega) | ((try simp only [zt0, zt1, zt2, zt3, zt4, zt5, zt6, zt7, zt8, zt9, zt10, zt11, zt12, zt13, e15_2, e15_3, e15_4, e43_2, e43_3, e43_4, e43_10, e43_11]); omega)) (f43.g)) (fun t49 p49 => ?_)
                obtain ⟨f49, p49⟩ := p49
                have e49_2 : ∀ k, tg t49 (sr sh r0 2) k = tg t43 (sr sh r0 2) k := fun k => f49.eq q0 (i := 2) (by decide) (by decide) k
                have e49_3 : ∀ k, tg t49 (sr sh r0 3) k = tg t43 (sr sh r0 3) k := fun k => f49.eq q0 (i := 3) (by decide) (by decide) k
                have e49_4 : ∀ k, tg t49 (sr sh r0 4) k = tg t43 (sr sh r0 4) k := fun k => f49.eq q0 (i := 4) (by decide) (by decide) k
                have e49_11 : ∀ k, tg t49 (sr sh r0 11) k = tg t43 (sr sh r0 11) k := fun k => f49.eq q0 (i := 11) (by decide) (by decide) k
                try simp only [zt0, zt1, zt2, zt3, zt4, zt5, zt6, zt7, zt8, zt9, zt10, zt11, zt12, zt13, e15_2, e15_3, e15_4, e43_2, e43_3, e43_4, e43_10, e43_11, e49_2, e49_3, e49_4, e49_11] at p49
                simp only [zput_s, zput_n, ti_g, oI_add, oI_sub, oI_mul, zt0, zt1, zt2, zt3, zt4, zt5, zt6, zt7, zt8, zt9, zt10, zt11, zt12, zt13, e15_2, e15_3, e15_4, e43_2, e43_3, e43_4, e43_10, e43_11, e49_2, e49_3, e49_4, e49_11, b185_69]
                try simp only [zput_s, zput_n, ti_g, oI_add, oI_sub, oI_mul]
                try simp only [zput_s, zput_n, ti_g, oI_add, oI_sub, oI_mul]
                exact ih _ _ ((FrV.trans (Ns := [0, 1, 2, 3, 4, 9, 10, 11, 12, 13, 14]) ((FrV.trans (Ns := [0, 1, 2, 3, 4, 9, 10, 11, 12, 13, 14]) ((FrV.trans (Ns := [0, 1, 2, 3, 4, 9, 10, 11, 12, 13, 14]) (f0) f15 (by decide) (by decide))) f43 (by decide) (by decide))) f49 (by decide) (by decide))) (by first | omega | ((try simp only [zt0, zt1, zt2, zt3, zt4, zt5, zt6, zt7, zt8, zt9, zt10, zt11, zt12, zt13, e15_2, e15_3, e15_4, e43_2, e43_3, e43_4, e43_10, e43_11, e49_2, e49_3, e49_4, e49_11]); omega)) (fun k hk => by ((try have c0 := hq1 k hk); (try have c0 := hq1 k); (have c3 := e15_2 k); (have c6 := e43_2 k); (have c12 := e49_2 k); (try simp only [zt0, zt1, zt2, zt3, zt4, zt5, zt6, zt7, zt8, zt9, zt10, zt11, zt12, zt13] at *) <;> omega)) (fun k hk => by first | omega | (rcases Classical.em (k = (x4).toNat) with h | h <;> first | (rw [h]; ((try have c0 := hq0 (x4).toNat (by decide)); (try have c0 := hq0 (x4).toNat); (try have c1 := p15.2.1 (x4).toNat (by omega)); (try have c9 := e43_10 (x4).toNat); (try have c11 := p49.2 (x4).toNat (by omega)); (try simp only [zt0, zt1, zt2, zt3, zt4, zt5, zt6, zt7, zt8, zt9, zt10, zt11, zt12, zt13] at *) <;> omega)) | (have hk2 := hq2 k (by omega); ((try have c0 := hq0 k hk); (try have c0 := hq0 k); (have c1 := p15.2.1 k (by omega)); (have c9 := e43_10 k); (have c11 := p49.2 k (by omega)); (try simp only [zt0, zt1, zt2, zt3, zt4, zt5, zt6, zt7, zt8, zt9, zt10, zt11, zt12, zt13] at *) <;> omega)))) (by first | omega | ((try simp only [zt0, zt1, zt2, zt3, zt4, zt5, zt6, zt7, zt8, zt9, zt10, zt11, zt12, zt13, e15_2, e15_3, e15_4, e43_2, e43_3, e43_4, e43_10, e43_11, e49_2, e49_3, e49_4, e49_11]); omega))
theorem s185 {sh : zSh} {t : zSt} {MB : Nat} {r0 : Nat} (q0 : zMd sh MB r0) {x1 : Int} (u1 : -2147483648 ≤ x1 ∧ x1 ≤ 2147483647) {x2 : Int} (u2 : -2147483648 ≤ x2 ∧ x2 ≤ 2147483647) {x3 : Int} (u3 : -2147483648 ≤ x3 ∧ x3 ≤ 2147483647) (d1 : 8 ≤ x1 ∧ x1 ≤ 9) (d2 : 0 ≤ x2 ∧ x2 ≤ 7) (G : GI sh r0 t) : zok (zcl zP 185 [zR r0, zI (oI x1), zI (oI x2), zI (oI x3)] (sh, t)) (zq0 (fun t' => FrV sh r0 [0, 1, 2, 3, 4, 9, 10, 11, 12, 13, 14] t t' ∧ (∀ k, k ≠ (x1).toNat ∧ k ≠ 12 → tg t' (sr sh r0 2) k = tg t (sr sh r0 2) k)) sh) := by
  have ha0_1 : (sk sh (sr sh r0 1)).2 = 21000 := by rw [q0.2.2.2.2.1]
  have ha0_2 : (sk sh (sr sh r0 2)).2 = 14 := by rw [q0.2.2.2.2.2.1]
  have ha0_3 : (sk sh (sr sh r0 3)).2 = 98 := by rw [q0.2.2.2.2.2.2.1]
  have ha0_4 : (sk sh (sr sh r0 4)).2 = 98 := by rw [q0.2.2.2.2.2.2.2.1]
  have ha0_8 : (sk sh (sr sh r0 8)).2 = 1500 := by rw [q0.2.2.2.2.2.2.2.2.1]
  have ha0_9 : (sk sh (sr sh r0 9)).2 = 10500 := by rw [q0.2.2.2.2.2.2.2.2.2.1]
  have ha0_10 : (sk sh (sr sh r0 10)).2 = 7 := by rw [q0.2.2.2.2.2.2.2.2.2.2.1]
  have ha0_11 : (sk sh (sr sh r0 11)).2 = 7 := by rw [q0.2.2.2.2.2.2.2.2.2.2.2.1]
  have ha0_12 : (sk sh (sr sh r0 12)).2 = 1500 := by rw [q0.2.2.2.2.2.2.2.2.2.2.2.2.1]
  have ha0_13 : (sk sh (sr sh r0 13)).2 = 1500 := by rw [q0.2.2.2.2.2.2.2.2.2.2.2.2.2.1]
  have ha0_14 : (sk sh (sr sh r0 14)).2 = 20 := by rw [q0.2.2.2.2.2.2.2.2.2.2.2.2.2.2]
  have gz := G.1 (x2).toNat (by omega)
  rw [b185_0]
  try simp only [zput_s, zput_n, ti_g, oI_add, oI_sub, oI_mul]
  refine zok_ck ((q0).1) ?_
  refine zok_c0 (s138 (q0) (by omega) (by first | (omega) | ((try simp only [zt0, zt1, zt2, zt3, zt4, zt5, zt6, zt7, zt8, zt9, zt10, zt11, zt12, zt13]); omega)) (by first | (omega) | ((try simp only [zt0, zt1, zt2, zt3, zt4, zt5, zt6, zt7, zt8, zt9, zt10, zt11, zt12, zt13]); omega)) (G)) (fun t52 p52 => ?_)
  obtain ⟨f52, p52⟩ := p52
  have e52_2 : ∀ k, tg t52 (sr sh r0 2) k = tg t (sr sh r0 2) k := fun k => f52.eq q0 (i := 2) (by decide) (by decide) k
  have e52_10 : ∀ k, tg t52 (sr sh r0 10) k = tg t (sr sh r0 10) k := fun k => f52.eq q0 (i := 10) (by decide) (by decide) k
  have e52_11 : ∀ k, tg t52 (sr sh r0 11) k = tg t (sr sh r0 11) k := fun k => f52.eq q0 (i := 11) (by decide) (by decide) k
  try simp only [zt0, zt1, zt2, zt3, zt4, zt5, zt6, zt7, zt8, zt9, zt10, zt11, zt12, zt13, e52_2, e52_10, e52_11] at p52
  simp only [zput_s, zput_n, ti_g, oI_add, oI_sub, oI_mul, zt0, zt1, zt2, zt3, zt4, zt5, zt6, zt7, zt8, zt9, zt10, zt11, zt12, zt13, e52_2, e52_10, e52_11, b185_5]
  try simp only [zput_s, zput_n, ti_g, oI_add, oI_sub, oI_mul]
  try simp only [zput_s, zput_n, ti_g, oI_add, oI_sub, oI_mul]
  exact l185_8 q0 (by omega) (by omega) (by omega) d1 d2 G _ _ _ ((FrV.trans (Ns := [0, 1, 2, 3, 4, 9, 10, 11, 12, 13, 14]) (FrV.refl (Ls := []) G) f52 (by decide) (by decide))) (by first | omega | ((try simp only [zt0, zt1, zt2, zt3, zt4, zt5, zt6, zt7, zt8, zt9, zt10, zt11, zt12, zt13, e52_2, e52_10, e52_11]); omega)) (fun k hk => by ((try have c0 := hq1 k hk); (try have c0 := hq1 k); (have c1 := e52_2 k); (try simp only [zt0, zt1, zt2, zt3, zt4, zt5, zt6, zt7, zt8, zt9, zt10, zt11, zt12, zt13] at *) <;> omega)) (fun k hk => by first | omega | (rcases Classical.em (k = (x4).toNat) with h | h <;> first | (rw [h]; ((try have c0 := hq0 (x4).toNat (by decide)); (try have c0 := hq0 (x4).toNat); (try have c2 := e52_10 (x4).toNat); (try simp only [zt0, zt1, zt2, zt3, zt4, zt5, zt6, zt7, zt8, zt9, zt10, zt11, zt12, zt13] at *) <;> omega)) | (have hk2 := hq2 k (by omega); ((try have c0 := hq0 k hk); (try have c0 := hq0 k); (have c2 := e52_10 k); (try simp only [zt0, zt1, zt2, zt3, zt4, zt5, zt6, zt7, zt8, zt9, zt10, zt11, zt12, zt13] at *) <;> omega)))) (Nat.lt_succ_self _)
/-! X9_normalise -/
theorem s186 {sh : zSh} {t : zSt} {MB : Nat} {r0 : Nat} (q0 : zMd sh MB r0) {x1 : Int} (u1 : -2147483648 ≤ x1 ∧ x1 ≤ 2147483647) {x2 : Int} (u2 : -2147483648 ≤ x2 ∧ x2 ≤ 2147483647) {x3 : Int} (u3 : -2147483648 ≤ x3 ∧ x3 ≤ 2147483647) (G : GI sh r0 t) : zok (zcl zP 186 [zR r0, zI (oI x1), zI (oI x2), zI (oI x3)] (sh, t)) (qI (fun x t' => FrV sh r0 [0, 1, 2, 3, 4, 9, 10, 11, 12, 13, 14] t t' ∧ (tg t' (sr sh r0 2) 13 = tg t (sr sh r0 2) 13)) sh) := by
  have ha0_1 : (sk sh (sr sh r0 1)).2 = 21000 := by rw [q0.2.2.2.2.1]
  have ha0_2 : (sk sh (sr sh r0 2)).2 = 14 := by rw [q0.2.2.2.2.2.1]
  have ha0_3 : (sk sh (sr sh r0 3)).2 = 98 := by rw [q0.2.2.2.2.2.2.1]
  have ha0_4 : (sk sh (sr sh r0 4)).2 = 98 := by rw [q0.2.2.2.2.2.2.2.1]
  have ha0_8 : (sk sh (sr sh r0 8)).2 = 1500 := by rw [q0.2.2.2.2.2.2.2.2.1]
  have ha0_9 : (sk sh (sr sh r0 9)).2 = 10500 := by rw [q0.2.2.2.2.2.2.2.2.2.1]
  have ha0_10 : (sk sh (sr sh r0 10)).2 = 7 := by rw [q0.2.2.2.2.2.2.2.2.2.2.1]
  have ha0_11 : (sk sh (sr sh r0 11)).2 = 7 := by rw [q0.2.2.2.2.2.2.2.2.2.2.2.1]
  have ha0_12 : (sk sh (sr sh r0 12)).2 = 1500 := by rw [q0.2.2.2.2.2.2.2.2.2.2.2.2.1]
  have ha0_13 : (sk sh (sr sh r0 13)).2 = 1500 := by rw [q0.2.2.2.2.2.2.2.2.2.2.2.2.2.1]
  have ha0_14 : (sk sh (sr sh r0 14)).2 = 20 := by rw [q0.2.2.2.2.2.2.2.2.2.2.2.2.2.2]
  rw [b186_0]
  try simp only [zput_s, zput_n, ti_g, oI_add, oI_sub, oI_mul]
  refine zok_pI (s127 (by omega)) (fun y2 u2 p2 => ?_)
  try simp only [zt0, zt1, zt2, zt3, zt4, zt5, zt6, zt7, zt8, zt9, zt10, zt11, zt12, zt13] at p2
  have g3_1 := And.intro (tg_lo (tI t r0 0 (oI 1)) r0 0) (tg_hi (tI t r0 0 (oI 1)) r0 0)
  simp only [zput_s, zput_n, ti_g, oI_add, oI_sub, oI_mul, zt0, zt1, zt2, zt3, zt4, zt5, zt6, zt7, zt8, zt9, zt10, zt11, zt12, zt13, b186_5]
  try simp only [zput_s, zput_n, ti_g, oI_add, oI_sub, oI_mul]
  first | refine zok_eq (by omega) (fun c4 => ?_) (fun c4 => ?_) | refine zok_if (fun c4 => ?_) (fun c4 => ?_)
  · refine zok_ck (by first | exact ⟨(q0).1, fun e => by cases e⟩ | exact (q0).1) ?_
    obtain ⟨t5, ht5⟩ : ∃ t', t' = tI t r0 (0) (oI (1)) := ⟨_, rfl⟩
    try simp only [zt0, zt1, zt2, zt3, zt4, zt5, zt6, zt7, zt8, zt9, zt10, zt11, zt12, zt13] at ht5
    rw [← ht5]
    have f5 : FrV sh r0 [0] t t5 := by rw [ht5]; exact GI_m q0 (G) (by omega) (fun e => by first | omega | cases e) (fun e => by first | omega | cases e)
    have d5_0 : tg t5 r0 0 = 1 := by rw [ht5]; refine (tg_at (by omega)).trans ?_; first | exact if_pos rfl | exact if_neg (by decide) | (simp only [zt0, zt1, zt2, zt3, zt4, zt5, zt6, zt7, zt8, zt9, zt10, zt11, zt12, zt13, true_and, if_true])
    try simp only [zt0, zt1, zt2, zt3, zt4, zt5, zt6, zt7, zt8, zt9, zt10, zt11, zt12, zt13] at d5_0
    have e5_2 : ∀ k, tg t5 (sr sh r0 2) k = tg t (sr sh r0 2) k := fun k => f5.eq q0 (i := 2) (by decide) (by decide) k
    have e5_3 : ∀ k, tg t5 (sr sh r0 3) k = tg t (sr sh r0 3) k := fun k => f5.eq q0 (i := 3) (by decide) (by decide) k
    have e5_4 : ∀ k, tg t5 (sr sh r0 4) k = tg t (sr sh r0 4) k := fun k => f5.eq q0 (i := 4) (by decide) (by decide) k
    have e5_10 : ∀ k, tg t5 (sr sh r0 10) k = tg t (sr sh r0 10) k := fun k => f5.eq q0 (i := 10) (by decide) (by decide) k
    have e5_11 : ∀ k, tg t5 (sr sh r0 11) k = tg t (sr sh r0 11) k := fun k => f5.eq q0 (i := 11) (by decide) (by decide) k
    refine zok_ck ((q0).1) ?_
    first | refine zok_le (by omega) (fun c6 => ?_) (fun c6 => ?_) | refine zok_if (fun c6 => ?_) (fun c6 => ?_)
    · refine zok_ck ((q0).1) ?_
      refine zok_c0 (s185 (q0) (by omega) (by omega) (by omega) (by first | (omega) | ((try simp only [zt0, zt1, zt2, zt3, zt4, zt5, zt6, zt7, zt8, zt9, zt10, zt11, zt12, zt13, e5_2, e5_3, e5_4, e5_10, e5_11]); omega)) (by first | (omega) | ((try simp only [zt0, zt1, zt2, zt3, zt4, zt5, zt6, zt7, zt8, zt9, zt10, zt11, zt12, zt13, e5_2, e5_3, e5_4, e5_10, e5_11]); omega)) (f5.g)) (fun t7 p7 => ?_)
      obtain ⟨f7, p7⟩ := p7
      try simp only [zt0, zt1, zt2, zt3, zt4, zt5, zt6, zt7, zt8, zt9, zt10, zt11, zt12, zt13, e5_2, e5_3, e5_4, e5_10, e5_11] at p7
      simp only [zput_s, zput_n, ti_g, oI_add, oI_sub, oI_mul, zt0, zt1, zt2, zt3, zt4, zt5, zt6, zt7, zt8, zt9, zt10, zt11, zt12, zt13, e5_2, e5_3, e5_4, e5_10, e5_11, b186_54]
      try simp only [zput_s, zput_n, ti_g, oI_add, oI_sub, oI_mul]
      refine zok_ck ((q0).1) ?_
      refine zok_cI (s159 (q0) (by omega) (by omega) (by omega) (by first | (omega) | ((try simp only [zt0, zt1, zt2, zt3, zt4, zt5, zt6, zt7, zt8, zt9, zt10, zt11, zt12, zt13, e5_2, e5_3, e5_4, e5_10, e5_11]); omega)) (by first | (omega) | ((try simp only [zt0, zt1, zt2, zt3, zt4, zt5, zt6, zt7, zt8, zt9, zt10, zt11, zt12, zt13, e5_2, e5_3, e5_4, e5_10, e5_11]); omega)) (by first | (omega) | ((try simp only [zt0, zt1, zt2, zt3, zt4, zt5, zt6, zt7, zt8, zt9, zt10, zt11, zt12, zt13, e5_2, e5_3, e5_4, e5_10, e5_11]); omega)) (f7.g)) (fun y9 t9 u9 p9 => ?_)
      obtain ⟨f9, p9⟩ := p9
      have e9_3 : ∀ k, tg t9 (sr sh r0 3) k = tg t7 (sr sh r0 3) k := fun k => f9.eq q0 (i := 3) (by decide) (by decide) k
      have e9_4 : ∀ k, tg t9 (sr sh r0 4) k = tg t7 (sr sh r0 4) k := fun k => f9.eq q0 (i := 4) (by decide) (by decide) k
      have e9_10 : ∀ k, tg t9 (sr sh r0 10) k = tg t7 (sr sh r0 10) k := fun k => f9.eq q0 (i := 10) (by decide) (by decide) k
      have e9_11 : ∀ k, tg t9 (sr sh r0 11) k = tg t7 (sr sh r0 11) k := fun k => f9.eq q0 (i := 11) (by decide) (by decide) k
      try simp only [zt0, zt1, zt2, zt3, zt4, zt5, zt6, zt7, zt8, zt9, zt10, zt11, zt12, zt13, e5_2, e5_3, e5_4, e5_10, e5_11, e9_3, e9_4, e9_10, e9_11] at p9
      simp only [zput_s, zput_n, ti_g, oI_add, oI_sub, oI_mul, zt0, zt1, zt2, zt3, zt4, zt5, zt6, zt7, zt8, zt9, zt10, zt11, zt12, zt13, e5_2, e5_3, e5_4, e5_10, e5_11, e9_3, e9_4, e9_10, e9_11, b186_62]
      try simp only [zput_s, zput_n, ti_g, oI_add, oI_sub, oI_mul]
      first | exact qI_rt (by omega) (by omega) ⟨(FrV.trans (Ns := [0, 1, 2, 3, 4, 9, 10, 11, 12, 13, 14]) ((FrV.trans (Ns := [0, 1, 2, 3, 4, 9, 10, 11, 12, 13, 14]) ((FrV.trans (Ns := [0, 1, 2, 3, 4, 9, 10, 11, 12, 13, 14]) (FrV.refl (Ls := []) G) f5 (by decide) (by decide))) f7 (by decide) (by decide))) f9 (by decide) (by decide)), by ((try have c0 := hq1 13 (by decide)); (try have c0 := hq1 13); (try have c1 := e5_2 13); (try have c6 := p7 13 (by omega)); (try simp only [zt0, zt1, zt2, zt3, zt4, zt5, zt6, zt7, zt8, zt9, zt10, zt11, zt12, zt13] at *) <;> omega)⟩ | exact qI_nf ⟨(FrV.trans (Ns := [0, 1, 2, 3, 4, 9, 10, 11, 12, 13, 14]) ((FrV.trans (Ns := [0, 1, 2, 3, 4, 9, 10, 11, 12, 13, 14]) ((FrV.trans (Ns := [0, 1, 2, 3, 4, 9, 10, 11, 12, 13, 14]) (FrV.refl (Ls := []) G) f5 (by decide) (by decide))) f7 (by decide) (by decide))) f9 (by decide) (by decide)), by ((try have c0 := hq1 13 (by decide)); (try have c0 := hq1 13); (try have c1 := e5_2 13); (try have c6 := p7 13 (by omega)); (try simp only [zt0, zt1, zt2, zt3, zt4, zt5, zt6, zt7, zt8, zt9, zt10, zt11, zt12, zt13] at *) <;> omega)⟩
    · first | exact qI_rt (by omega) (by omega) ⟨(FrV.trans (Ns := [0, 1, 2, 3, 4, 9, 10, 11, 12, 13, 14]) (FrV.refl (Ls := []) G) f5 (by decide) (by decide)), by ((try have c0 := hq1 13 (by decide)); (try have c0 := hq1 13); (try have c1 := e5_2 13); (try simp only [zt0, zt1, zt2, zt3, zt4, zt5, zt6, zt7, zt8, zt9, zt10, zt11, zt12, zt13] at *) <;> omega)⟩ | exact qI_nf ⟨(FrV.trans (Ns := [0, 1, 2, 3, 4, 9, 10, 11, 12, 13, 14]) (FrV.refl (Ls := []) G) f5 (by decide) (by decide)), by ((try have c0 := hq1 13 (by decide)); (try have c0 := hq1 13); (try have c1 := e5_2 13); (try simp only [zt0, zt1, zt2, zt3, zt4, zt5, zt6, zt7, zt8, zt9, zt10, zt11, zt12, zt13] at *) <;> omega)⟩
  · refine zok_pI (s127 (by omega)) (fun y11 u11 p11 => ?_)
    try simp only [zt0, zt1, zt2, zt3, zt4, zt5, zt6, zt7, zt8, zt9, zt10, zt11, zt12, zt13] at p11
    have g12_1 := And.intro (tg_lo (tI t r0 0 (oI 1)) r0 0) (tg_hi (tI t r0 0 (oI 1)) r0 0)
    simp only [zput_s, zput_n, ti_g, oI_add, oI_sub, oI_mul, zt0, zt1, zt2, zt3, zt4, zt5, zt6, zt7, zt8, zt9, zt10, zt11, zt12, zt13, b186_12]
    try simp only [zput_s, zput_n, ti_g, oI_add, oI_sub, oI_mul]
    first | refine zok_ne (by omega) (fun c13 => ?_) (fun c13 => ?_) | refine zok_if (fun c13 => ?_) (fun c13 => ?_)
    · refine zok_pI (s120 (by omega) (by omega) (by omega)) (fun y14 u14 p14 => ?_)
      try simp only [zt0, zt1, zt2, zt3, zt4, zt5, zt6, zt7, zt8, zt9, zt10, zt11, zt12, zt13] at p14
      have g15_1 := And.intro (tg_lo (tI t r0 0 (oI 2)) r0 0) (tg_hi (tI t r0 0 (oI 2)) r0 0)
      have g15_2 := And.intro (tg_lo (tI t r0 0 (oI 0)) r0 0) (tg_hi (tI t r0 0 (oI 0)) r0 0)
      simp only [zput_s, zput_n, ti_g, oI_add, oI_sub, oI_mul, zt0, zt1, zt2, zt3, zt4, zt5, zt6, zt7, zt8, zt9, zt10, zt11, zt12, zt13, b186_26]
      try simp only [zput_s, zput_n, ti_g, oI_add, oI_sub, oI_mul]
      first | refine zok_eq (by omega) (fun c16 => ?_) (fun c16 => ?_) | refine zok_if (fun c16 => ?_) (fun c16 => ?_)
      · refine zok_ck (by first | exact ⟨(q0).1, fun e => by cases e⟩ | exact (q0).1) ?_
        obtain ⟨t17, ht17⟩ : ∃ t', t' = tI t r0 (0) (oI (2)) := ⟨_, rfl⟩
        try simp only [zt0, zt1, zt2, zt3, zt4, zt5, zt6, zt7, zt8, zt9, zt10, zt11, zt12, zt13] at ht17
        rw [← ht17]
        have f17 : FrV sh r0 [0] t t17 := by rw [ht17]; exact GI_m q0 (G) (by omega) (fun e => by first | omega | cases e) (fun e => by first | omega | cases e)
        have d17_0 : tg t17 r0 0 = 2 := by rw [ht17]; refine (tg_at (by omega)).trans ?_; first | exact if_pos rfl | exact if_neg (by decide) | (simp only [zt0, zt1, zt2, zt3, zt4, zt5, zt6, zt7, zt8, zt9, zt10, zt11, zt12, zt13, true_and, if_true])
        try simp only [zt0, zt1, zt2, zt3, zt4, zt5, zt6, zt7, zt8, zt9, zt10, zt11, zt12, zt13] at d17_0
        have e17_2 : ∀ k, tg t17 (sr sh r0 2) k = tg t (sr sh r0 2) k := fun k => f17.eq q0 (i := 2) (by decide) (by decide) k
        have e17_3 : ∀ k, tg t17 (sr sh r0 3) k = tg t (sr sh r0 3) k := fun k => f17.eq q0 (i := 3) (by decide) (by decide) k
        have e17_4 : ∀ k, tg t17 (sr sh r0 4) k = tg t (sr sh r0 4) k := fun k => f17.eq q0 (i := 4) (by decide) (by decide) k
        have e17_10 : ∀ k, tg t17 (sr sh r0 10) k = tg t (sr sh r0 10) k := fun k => f17.eq q0 (i := 10) (by decide) (by decide) k
        have e17_11 : ∀ k, tg t17 (sr sh r0 11) k = tg t (sr sh r0 11) k := fun k => f17.eq q0 (i := 11) (by decide) (by decide) k
        refine zok_ck ((q0).1) ?_
        first | refine zok_le (by omega) (fun c18 => ?_) (fun c18 => ?_) | refine zok_if (fun c18 => ?_) (fun c18 => ?_)
        · refine zok_ck ((q0).1) ?_
          refine zok_c0 (s185 (q0) (by omega) (by omega) (by omega) (by first | (omega) | ((try simp only [zt0, zt1, zt2, zt3, zt4, zt5, zt6, zt7, zt8, zt9, zt10, zt11, zt12, zt13, e17_2, e17_3, e17_4, e17_10, e17_11]); omega)) (by first | (omega) | ((try simp only [zt0, zt1, zt2, zt3, zt4, zt5, zt6, zt7, zt8, zt9, zt10, zt11, zt12, zt13, e17_2, e17_3, e17_4, e17_10, e17_11]); omega)) (f17.g)) (fun t19 p19 => ?_)
          obtain ⟨f19, p19⟩ := p19
          try simp only [zt0, zt1, zt2, zt3, zt4, zt5, zt6, zt7, zt8, zt9, zt10, zt11, zt12, zt13, e17_2, e17_3, e17_4, e17_10, e17_11] at p19
          simp only [zput_s, zput_n, ti_g, oI_add, oI_sub, oI_mul, zt0, zt1, zt2, zt3, zt4, zt5, zt6, zt7, zt8, zt9, zt10, zt11, zt12, zt13, e17_2, e17_3, e17_4, e17_10, e17_11, b186_54]
          try simp only [zput_s, zput_n, ti_g, oI_add, oI_sub, oI_mul]
          refine zok_ck ((q0).1) ?_
          refine zok_cI (s159 (q0) (by omega) (by omega) (by omega) (by first | (omega) | ((try simp only [zt0, zt1, zt2, zt3, zt4, zt5, zt6, zt7, zt8, zt9, zt10, zt11, zt12, zt13, e17_2, e17_3, e17_4, e17_10, e17_11]); omega)) (by first | (omega) | ((try simp only [zt0, zt1, zt2, zt3, zt4, zt5, zt6, zt7, zt8, zt9, zt10, zt11, zt12, zt13, e17_2, e17_3, e17_4, e17_10, e17_11]); omega)) (by first | (omega) | ((try simp only [zt0, zt1, zt2, zt3, zt4, zt5, zt6, zt7, zt8, zt9, zt10, zt11, zt12, zt13, e17_2, e17_3, e17_4, e17_10, e17_11]); omega)) (f19.g)) (fun y21 t21 u21 p21 => ?_)
          obtain ⟨f21, p21⟩ := p21
          have e21_3 : ∀ k, tg t21 (sr sh r0 3) k = tg t19 (sr sh r0 3) k := fun k => f21.eq q0 (i := 3) (by decide) (by decide) k
          have e21_4 : ∀ k, tg t21 (sr sh r0 4) k = tg t19 (sr sh r0 4) k := fun k => f21.eq q0 (i := 4) (by decide) (by decide) k
          have e21_10 : ∀ k, tg t21 (sr sh r0 10) k = tg t19 (sr sh r0 10) k := fun k => f21.eq q0 (i := 10) (by decide) (by decide) k
          have e21_11 : ∀ k, tg t21 (sr sh r0 11) k = tg t19 (sr sh r0 11) k := fun k => f21.eq q0 (i := 11) (by decide) (by decide) k
          try simp only [zt0, zt1, zt2, zt3, zt4, zt5, zt6, zt7, zt8, zt9, zt10, zt11, zt12, zt13, e17_2, e17_3, e17_4, e17_10, e17_11, e21_3, e21_4, e21_10, e21_11] at p21
          simp only [zput_s, zput_n, ti_g, oI_add, oI_sub, oI_mul, zt0, zt1, zt2, zt3, zt4, zt5, zt6, zt7, zt8, zt9, zt10, zt11, zt12, zt13, e17_2, e17_3, e17_4, e17_10, e17_11, e21_3, e21_4, e21_10, e21_11, b186_62]
          try simp only [zput_s, zput_n, ti_g, oI_add, oI_sub, oI_mul]
          first | exact qI_rt (by omega) (by omega) ⟨(FrV.trans (Ns := [0, 1, 2, 3, 4, 9, 10, 11, 12, 13, 14]) ((FrV.trans (Ns := [0, 1, 2, 3, 4, 9, 10, 11, 12, 13, 14]) ((FrV.trans (Ns := [0, 1, 2, 3, 4, 9, 10, 11, 12, 13, 14]) (FrV.refl (Ls := []) G) f17 (by decide) (by decide))) f19 (by decide) (by decide))) f21 (by decide) (by decide)), by ((try have c0 := hq1 13 (by decide)); (try have c0 := hq1 13); (try have c1 := e17_2 13); (try have c6 := p19 13 (by omega)); (try simp only [zt0, zt1, zt2, zt3, zt4, zt5, zt6, zt7, zt8, zt9, zt10, zt11, zt12, zt13] at *) <;> omega)⟩ | exact qI_nf ⟨(FrV.trans (Ns := [0, 1, 2, 3, 4, 9, 10, 11, 12, 13, 14]) ((FrV.trans (Ns := [0, 1, 2, 3, 4, 9, 10, 11, 12, 13, 14]) ((FrV.trans (Ns := [0, 1, 2, 3, 4, 9, 10, 11, 12, 13, 14]) (FrV.refl (Ls := []) G) f17 (by decide) (by decide))) f19 (by decide) (by decide))) f21 (by decide) (by decide)), by ((try have c0 := hq1 13 (by decide)); (try have c0 := hq1 13); (try have c1 := e17_2 13); (try have c6 := p19 13 (by omega)); (try simp only [zt0, zt1, zt2, zt3, zt4, zt5, zt6, zt7, zt8, zt9, zt10, zt11, zt12, zt13] at *) <;> omega)⟩
        · first | exact qI_rt (by omega) (by omega) ⟨(FrV.trans (Ns := [0, 1, 2, 3, 4, 9, 10, 11, 12, 13, 14]) (FrV.refl (Ls := []) G) f17 (by decide) (by decide)), by ((try have c0 := hq1 13 (by decide)); (try have c0 := hq1 13); (try have c1 := e17_2 13); (try simp only [zt0, zt1, zt2, zt3, zt4, zt5, zt6, zt7, zt8, zt9, zt10, zt11, zt12, zt13] at *) <;> omega)⟩ | exact qI_nf ⟨(FrV.trans (Ns := [0, 1, 2, 3, 4, 9, 10, 11, 12, 13, 14]) (FrV.refl (Ls := []) G) f17 (by decide) (by decide)), by ((try have c0 := hq1 13 (by decide)); (try have c0 := hq1 13); (try have c1 := e17_2 13); (try simp only [zt0, zt1, zt2, zt3, zt4, zt5, zt6, zt7, zt8, zt9, zt10, zt11, zt12, zt13] at *) <;> omega)⟩
      · refine zok_ck (by first | exact ⟨(q0).1, fun e => by cases e⟩ | exact (q0).1) ?_
        obtain ⟨t23, ht23⟩ : ∃ t', t' = tI t r0 (0) (oI (0)) := ⟨_, rfl⟩
        try simp only [zt0, zt1, zt2, zt3, zt4, zt5, zt6, zt7, zt8, zt9, zt10, zt11, zt12, zt13] at ht23
        rw [← ht23]
        have f23 : FrV sh r0 [0] t t23 := by rw [ht23]; exact GI_m q0 (G) (by omega) (fun e => by first | omega | cases e) (fun e => by first | omega | cases e)
        have d23_0 : tg t23 r0 0 = 0 := by rw [ht23]; refine (tg_at (by omega)).trans ?_; first | exact if_pos rfl | exact if_neg (by decide) | (simp only [zt0, zt1, zt2, zt3, zt4, zt5, zt6, zt7, zt8, zt9, zt10, zt11, zt12, zt13, true_and, if_true])
        try simp only [zt0, zt1, zt2, zt3, zt4, zt5, zt6, zt7, zt8, zt9, zt10, zt11, zt12, zt13] at d23_0
        have e23_2 : ∀ k, tg t23 (sr sh r0 2) k = tg t (sr sh r0 2) k := fun k => f23.eq q0 (i := 2) (by decide) (by decide) k
        have e23_3 : ∀ k, tg t23 (sr sh r0 3) k = tg t (sr sh r0 3) k := fun k => f23.eq q0 (i := 3) (by decide) (by decide) k
        have e23_4 : ∀ k, tg t23 (sr sh r0 4) k = tg t (sr sh r0 4) k := fun k => f23.eq q0 (i := 4) (by decide) (by decide) k
        have e23_10 : ∀ k, tg t23 (sr sh r0 10) k = tg t (sr sh r0 10) k := fun k => f23.eq q0 (i := 10) (by decide) (by decide) k
        have e23_11 : ∀ k, tg t23 (sr sh r0 11) k = tg t (sr sh r0 11) k := fun k => f23.eq q0 (i := 11) (by decide) (by decide) k
        refine zok_ck ((q0).1) ?_
        first | refine zok_le (by omega) (fun c24 => ?_) (fun c24 => ?_) | refine zok_if (fun c24 => ?_) (fun c24 => ?_)
        · refine zok_ck ((q0).1) ?_
          refine zok_c0 (s185 (q0) (by omega) (by omega) (by omega) (by first | (omega) | ((try simp only [zt0, zt1, zt2, zt3, zt4, zt5, zt6, zt7, zt8, zt9, zt10, zt11, zt12, zt13, e23_2, e23_3, e23_4, e23_10, e23_11]); omega)) (by first | (omega) | ((try simp only [zt0, zt1, zt2, zt3, zt4, zt5, zt6, zt7, zt8, zt9, zt10, zt11, zt12, zt13, e23_2, e23_3, e23_4, e23_10, e23_11]); omega)) (f23.g)) (fun t25 p25 => ?_)
          obtain ⟨f25, p25⟩ := p25
          try simp only [zt0, zt1, zt2, zt3, zt4, zt5, zt6, zt7, zt8, zt9, zt10, zt11, zt12, zt13, e23_2, e23_3, e23_4, e23_10, e23_11] at p25
          simp only [zput_s, zput_n, ti_g, oI_add, oI_sub, oI_mul, zt0, zt1, zt2, zt3, zt4, zt5, zt6, zt7, zt8, zt9, zt10, zt11, zt12, zt13, e23_2, e23_3, e23_4, e23_10, e23_11, b186_54]
          try simp only [zput_s, zput_n, ti_g, oI_add, oI_sub, oI_mul]
          refine zok_ck ((q0).1) ?_
          refine zok_cI (s159 (q0) (by omega) (by omega) (by omega) (by first | (omega) | ((try simp only [zt0, zt1, zt2, zt3, zt4, zt5, zt6, zt7, zt8, zt9, zt10, zt11, zt12, zt13, e23_2, e23_3, e23_4, e23_10, e23_11]); omega)) (by first | (omega) | ((try simp only [zt0, zt1, zt2, zt3, zt4, zt5, zt6, zt7, zt8, zt9, zt10, zt11, zt12, zt13, e23_2, e23_3, e23_4, e23_10, e23_11]); omega)) (by first | (omega) | ((try simp only [zt0, zt1, zt2, zt3, zt4, zt5, zt6, zt7, zt8, zt9, zt10, zt11, zt12, zt13, e23_2, e23_3, e23_4, e23_10, e23_11]); omega)) (f25.g)) (fun y27 t27 u27 p27 => ?_)
          obtain ⟨f27, p27⟩ := p27
          have e27_3 : ∀ k, tg t27 (sr sh r0 3) k = tg t25 (sr sh r0 3) k := fun k => f27.eq q0 (i := 3) (by decide) (by decide) k
          have e27_4 : ∀ k, tg t27 (sr sh r0 4) k = tg t25 (sr sh r0 4) k := fun k => f27.eq q0 (i := 4) (by decide) (by decide) k
          have e27_10 : ∀ k, tg t27 (sr sh r0 10) k = tg t25 (sr sh r0 10) k := fun k => f27.eq q0 (i := 10) (by decide) (by decide) k
          have e27_11 : ∀ k, tg t27 (sr sh r0 11) k = tg t25 (sr sh r0 11) k := fun k => f27.eq q0 (i := 11) (by decide) (by decide) k
          try simp only [zt0, zt1, zt2, zt3, zt4, zt5, zt6, zt7, zt8, zt9, zt10, zt11, zt12, zt13, e23_2, e23_3, e23_4, e23_10, e23_11, e27_3, e27_4, e27_10, e27_11] at p27
          simp only [zput_s, zput_n, ti_g, oI_add, oI_sub, oI_mul, zt0, zt1, zt2, zt3, zt4, zt5, zt6, zt7, zt8, zt9, zt10, zt11, zt12, zt13, e23_2, e23_3, e23_4, e23_10, e23_11, e27_3, e27_4, e27_10, e27_11, b186_62]
          try simp only [zput_s, zput_n, ti_g, oI_add, oI_sub, oI_mul]
          first | exact qI_rt (by omega) (by omega) ⟨(FrV.trans (Ns := [0, 1, 2, 3, 4, 9, 10, 11, 12, 13, 14]) ((FrV.trans (Ns := [0, 1, 2, 3, 4, 9, 10, 11, 12, 13, 14]) ((FrV.trans (Ns := [0, 1, 2, 3, 4, 9, 10, 11, 12, 13, 14]) (FrV.refl (Ls := []) G) f23 (by decide) (by decide))) f25 (by decide) (by decide))) f27 (by decide) (by decide)), by ((try have c0 := hq1 13 (by decide)); (try have c0 := hq1 13); (try have c1 := e23_2 13); (try have c6 := p25 13 (by omega)); (try simp only [zt0, zt1, zt2, zt3, zt4, zt5, zt6, zt7, zt8, zt9, zt10, zt11, zt12, zt13] at *) <;> omega)⟩ | exact qI_nf ⟨(FrV.trans (Ns := [0, 1, 2, 3, 4, 9, 10, 11, 12, 13, 14]) ((FrV.trans (Ns := [0, 1, 2, 3, 4, 9, 10, 11, 12, 13, 14]) ((FrV.trans (Ns := [0, 1, 2, 3, 4, 9, 10, 11, 12, 13, 14]) (FrV.refl (Ls := []) G) f23 (by decide) (by decide))) f25 (by decide) (by decide))) f27 (by decide) (by decide)), by ((try have c0 := hq1 13 (by decide)); (try have c0 := hq1 13); (try have c1 := e23_2 13); (try have c6 := p25 13 (by omega)); (try simp only [zt0, zt1, zt2, zt3, zt4, zt5, zt6, zt7, zt8, zt9, zt10, zt11, zt12, zt13] at *) <;> omega)⟩
        · first | exact qI_rt (by omega) (by omega) ⟨(FrV.trans (Ns := [0, 1, 2, 3, 4, 9, 10, 11, 12, 13, 14]) (FrV.refl (Ls := []) G) f23 (by decide) (by decide)), by ((try have c0 := hq1 13 (by decide)); (try have c0 := hq1 13); (try have c1 := e23_2 13); (try simp only [zt0, zt1, zt2, zt3, zt4, zt5, zt6, zt7, zt8, zt9, zt10, zt11, zt12, zt13] at *) <;> omega)⟩ | exact qI_nf ⟨(FrV.trans (Ns := [0, 1, 2, 3, 4, 9, 10, 11, 12, 13, 14]) (FrV.refl (Ls := []) G) f23 (by decide) (by decide)), by ((try have c0 := hq1 13 (by decide)); (try have c0 := hq1 13); (try have c1 := e23_2 13); (try simp only [zt0, zt1, zt2, zt3, zt4, zt5, zt6, zt7, zt8, zt9, zt10, zt11, zt12, zt13] at *) <;> omega)⟩
    · refine zok_ck (by first | exact ⟨(q0).1, fun e => by cases e⟩ | exact (q0).1) ?_
      obtain ⟨t29, ht29⟩ : ∃ t', t' = tI t r0 (0) (oI (1)) := ⟨_, rfl⟩
      try simp only [zt0, zt1, zt2, zt3, zt4, zt5, zt6, zt7, zt8, zt9, zt10, zt11, zt12, zt13] at ht29
      rw [← ht29]
      have f29 : FrV sh r0 [0] t t29 := by rw [ht29]; exact GI_m q0 (G) (by omega) (fun e => by first | omega | cases e) (fun e => by first | omega | cases e)
      have d29_0 : tg t29 r0 0 = 1 := by rw [ht29]; refine (tg_at (by omega)).trans ?_; first | exact if_pos rfl | exact if_neg (by decide) | (simp only [zt0, zt1, zt2, zt3, zt4, zt5, zt6, zt7, zt8, zt9, zt10, zt11, zt12, zt13, true_and, if_true])
      try simp only [zt0, zt1, zt2, zt3, zt4, zt5, zt6, zt7, zt8, zt9, zt10, zt11, zt12, zt13] at d29_0
      have e29_2 : ∀ k, tg t29 (sr sh r0 2) k = tg t (sr sh r0 2) k := fun k => f29.eq q0 (i := 2) (by decide) (by decide) k
      have e29_3 : ∀ k, tg t29 (sr sh r0 3) k = tg t (sr sh r0 3) k := fun k => f29.eq q0 (i := 3) (by decide) (by decide) k
      have e29_4 : ∀ k, tg t29 (sr sh r0 4) k = tg t (sr sh r0 4) k := fun k => f29.eq q0 (i := 4) (by decide) (by decide) k
      have e29_10 : ∀ k, tg t29 (sr sh r0 10) k = tg t (sr sh r0 10) k := fun k => f29.eq q0 (i := 10) (by decide) (by decide) k
      have e29_11 : ∀ k, tg t29 (sr sh r0 11) k = tg t (sr sh r0 11) k := fun k => f29.eq q0 (i := 11) (by decide) (by decide) k
      refine zok_ck ((q0).1) ?_
      first | refine zok_le (by omega) (fun c30 => ?_) (fun c30 => ?_) | refine zok_if (fun c30 => ?_) (fun c30 => ?_)
      · refine zok_ck ((q0).1) ?_
        refine zok_c0 (s185 (q0) (by omega) (by omega) (by omega) (by first | (omega) | ((try simp only [zt0, zt1, zt2, zt3, zt4, zt5, zt6, zt7, zt8, zt9, zt10, zt11, zt12, zt13, e29_2, e29_3, e29_4, e29_10, e29_11]); omega)) (by first | (omega) | ((try simp only [zt0, zt1, zt2, zt3, zt4, zt5, zt6, zt7, zt8, zt9, zt10, zt11, zt12, zt13, e29_2, e29_3, e29_4, e29_10, e29_11]); omega)) (f29.g)) (fun t31 p31 => ?_)
        obtain ⟨f31, p31⟩ := p31
        try simp only [zt0, zt1, zt2, zt3, zt4, zt5, zt6, zt7, zt8, zt9, zt10, zt11, zt12, zt13, e29_2, e29_3, e29_4, e29_10, e29_11] at p31
        simp only [zput_s, zput_n, ti_g, oI_add, oI_sub, oI_mul, zt0, zt1, zt2, zt3, zt4, zt5, zt6, zt7, zt8, zt9, zt10, zt11, zt12, zt13, e29_2, e29_3, e29_4, e29_10, e29_11, b186_54]
        try simp only [zput_s, zput_n, ti_g, oI_add, oI_sub, oI_mul]
        refine zok_ck ((q0).1) ?_
        refine zok_cI (s159 (q0) (by omega) (by omega) (by omega) (by first | (omega) | ((try simp only [zt0, zt1, zt2, zt3, zt4, zt5, zt6, zt7, zt8, zt9, zt10, zt11, zt12, zt13, e29_2, e29_3, e29_4, e29_10, e29_11]); omega)) (by first | (omega) | ((try simp only [zt0, zt1, zt2, zt3, zt4, zt5, zt6, zt7, zt8, zt9, zt10, zt11, zt12, zt13, e29_2, e29_3, e29_4, e29_10, e29_11]); omega)) (by first | (omega) | ((try simp only [zt0, zt1, zt2, zt3, zt4, zt5, zt6, zt7, zt8, zt9, zt10, zt11, zt12, zt13, e29_2, e29_3, e29_4, e29_10, e29_11]); omega)) (f31.g)) (fun y33 t33 u33 p33 => ?_)
        obtain ⟨f33, p33⟩ := p33
        have e33_3 : ∀ k, tg t33 (sr sh r0 3) k = tg t31 (sr sh r0 3) k := fun k => f33.eq q0 (i := 3) (by decide) (by decide) k
        have e33_4 : ∀ k, tg t33 (sr sh r0 4) k = tg t31 (sr sh r0 4) k := fun k => f33.eq q0 (i := 4) (by decide) (by decide) k
        have e33_10 : ∀ k, tg t33 (sr sh r0 10) k = tg t31 (sr sh r0 10) k := fun k => f33.eq q0 (i := 10) (by decide) (by decide) k
        have e33_11 : ∀ k, tg t33 (sr sh r0 11) k = tg t31 (sr sh r0 11) k := fun k => f33.eq q0 (i := 11) (by decide) (by decide) k
        try simp only [zt0, zt1, zt2, zt3, zt4, zt5, zt6, zt7, zt8, zt9, zt10, zt11, zt12, zt13, e29_2, e29_3, e29_4, e29_10, e29_11, e33_3, e33_4, e33_10, e33_11] at p33
        simp only [zput_s, zput_n, ti_g, oI_add, oI_sub, oI_mul, zt0, zt1, zt2, zt3, zt4, zt5, zt6, zt7, zt8, zt9, zt10, zt11, zt12, zt13, e29_2, e29_3, e29_4, e29_10, e29_11, e33_3, e33_4, e33_10, e33_11, b186_62]
        try simp only [zput_s, zput_n, ti_g, oI_add, oI_sub, oI_mul]
        first | exact qI_rt (by omega) (by omega) ⟨(FrV.trans (Ns := [0, 1, 2, 3, 4, 9, 10, 11, 12, 13, 14]) ((FrV.trans (Ns := [0, 1, 2, 3, 4, 9, 10, 11, 12, 13, 14]) ((FrV.trans (Ns := [0, 1, 2, 3, 4, 9, 10, 11, 12, 13, 14]) (FrV.refl (Ls := []) G) f29 (by decide) (by decide))) f31 (by decide) (by decide))) f33 (by decide) (by decide)), by ((try have c0 := hq1 13 (by decide)); (try have c0 := hq1 13); (try have c1 := e29_2 13); (try have c6 := p31 13 (by omega)); (try simp only [zt0, zt1, zt2, zt3, zt4, zt5, zt6, zt7, zt8, zt9, zt10, zt11, zt12, zt13] at *) <;> omega)⟩ | exact qI_nf ⟨(FrV.trans (Ns := [0, 1, 2, 3, 4, 9, 10, 11, 12, 13, 14]) ((FrV.trans (Ns := [0, 1, 2, 3, 4, 9, 10, 11, 12, 13, 14]) ((FrV.trans (Ns := [0, 1, 2, 3, 4, 9, 10, 11, 12, 13, 14]) (FrV.refl (Ls := []) G) f29 (by decide) (by decide))) f31 (by decide) (by decide))) f33 (by decide) (by decide)), by ((try have c0 := hq1 13 (by decide)); (try have c0 := hq1 13); (try have c1 := e29_2 13); (try have c6 := p31 13 (by omega)); (try simp only [zt0, zt1, zt2, zt3, zt4, zt5, zt6, zt7, zt8, zt9, zt10, zt11, zt12, zt13] at *) <;> omega)⟩
      · first | exact qI_rt (by omega) (by omega) ⟨(FrV.trans (Ns := [0, 1, 2, 3, 4, 9, 10, 11, 12, 13, 14]) (FrV.refl (Ls := []) G) f29 (by decide) (by decide)), by ((try have c0 := hq1 13 (by decide)); (try have c0 := hq1 13); (try have c1 := e29_2 13); (try simp only [zt0, zt1, zt2, zt3, zt4, zt5, zt6, zt7, zt8, zt9, zt10, zt11, zt12, zt13] at *) <;> omega)⟩ | exact qI_nf ⟨(FrV.trans (Ns := [0, 1, 2, 3, 4, 9, 10, 11, 12, 13, 14]) (FrV.refl (Ls := []) G) f29 (by decide) (by decide)), by ((try have c0 := hq1 13 (by decide)); (try have c0 := hq1 13); (try have c1 := e29_2 13); (try simp only [zt0, zt1, zt2, zt3, zt4, zt5, zt6, zt7, zt8, zt9, zt10, zt11, zt12, zt13] at *) <;> omega)⟩
/-! X9_same -/
theorem s187 {sh : zSh} {t : zSt} {MB : Nat} {r0 : Nat} (q0 : zMd sh MB r0) {x1 : Int} (u1 : -2147483648 ≤ x1 ∧ x1 ≤ 2147483647) {x2 : Int} (u2 : -2147483648 ≤ x2 ∧ x2 ≤ 2147483647) {x3 : Int} (u3 : -2147483648 ≤ x3 ∧ x3 ≤ 2147483647) (G : GI sh r0 t) : zok (zcl zP 187 [zR r0, zI (oI x1), zI (oI x2), zI (oI x3)] (sh, t)) (qI (fun x t' => FrV sh r0 [0, 1, 2, 3, 4, 9, 10, 11, 12, 13, 14] t t' ∧ ((x = 0 ∨ x = 1) ∧ tg t' (sr sh r0 2) 13 = tg t (sr sh r0 2) 13)) sh) := by
  have ha0_1 : (sk sh (sr sh r0 1)).2 = 21000 := by rw [q0.2.2.2.2.1]
  have ha0_2 : (sk sh (sr sh r0 2)).2 = 14 := by rw [q0.2.2.2.2.2.1]
  have ha0_3 : (sk sh (sr sh r0 3)).2 = 98 := by rw [q0.2.2.2.2.2.2.1]
  have ha0_4 : (sk sh (sr sh r0 4)).2 = 98 := by rw [q0.2.2.2.2.2.2.2.1]
  have ha0_8 : (sk sh (sr sh r0 8)).2 = 1500 := by rw [q0.2.2.2.2.2.2.2.2.1]
  have ha0_9 : (sk sh (sr sh r0 9)).2 = 10500 := by rw [q0.2.2.2.2.2.2.2.2.2.1]
  have ha0_10 : (sk sh (sr sh r0 10)).2 = 7 := by rw [q0.2.2.2.2.2.2.2.2.2.2.1]
  have ha0_11 : (sk sh (sr sh r0 11)).2 = 7 := by rw [q0.2.2.2.2.2.2.2.2.2.2.2.1]
  have ha0_12 : (sk sh (sr sh r0 12)).2 = 1500 := by rw [q0.2.2.2.2.2.2.2.2.2.2.2.2.1]
  have ha0_13 : (sk sh (sr sh r0 13)).2 = 1500 := by rw [q0.2.2.2.2.2.2.2.2.2.2.2.2.2.1]
  have ha0_14 : (sk sh (sr sh r0 14)).2 = 20 := by rw [q0.2.2.2.2.2.2.2.2.2.2.2.2.2.2]
  rw [b187_0]
  try simp only [zput_s, zput_n, ti_g, oI_add, oI_sub, oI_mul]
  refine zok_pI (s127 (by omega)) (fun y2 u2 p2 => ?_)
  try simp only [zt0, zt1, zt2, zt3, zt4, zt5, zt6, zt7, zt8, zt9, zt10, zt11, zt12, zt13] at p2
  have g3_1 := And.intro (tg_lo (tI t r0 0 (oI 1)) r0 0) (tg_hi (tI t r0 0 (oI 1)) r0 0)
  simp only [zput_s, zput_n, ti_g, oI_add, oI_sub, oI_mul, zt0, zt1, zt2, zt3, zt4, zt5, zt6, zt7, zt8, zt9, zt10, zt11, zt12, zt13, b187_5]
  try simp only [zput_s, zput_n, ti_g, oI_add, oI_sub, oI_mul]
  first | refine zok_eq (by omega) (fun c4 => ?_) (fun c4 => ?_) | refine zok_if (fun c4 => ?_) (fun c4 => ?_)
  · refine zok_ck (by first | exact ⟨(q0).1, fun e => by cases e⟩ | exact (q0).1) ?_
    obtain ⟨t5, ht5⟩ : ∃ t', t' = tI t r0 (0) (oI (1)) := ⟨_, rfl⟩
    try simp only [zt0, zt1, zt2, zt3, zt4, zt5, zt6, zt7, zt8, zt9, zt10, zt11, zt12, zt13] at ht5
    rw [← ht5]
    have f5 : FrV sh r0 [0] t t5 := by rw [ht5]; exact GI_m q0 (G) (by omega) (fun e => by first | omega | cases e) (fun e => by first | omega | cases e)
    have d5_0 : tg t5 r0 0 = 1 := by rw [ht5]; refine (tg_at (by omega)).trans ?_; first | exact if_pos rfl | exact if_neg (by decide) | (simp only [zt0, zt1, zt2, zt3, zt4, zt5, zt6, zt7, zt8, zt9, zt10, zt11, zt12, zt13, true_and, if_true])
    try simp only [zt0, zt1, zt2, zt3, zt4, zt5, zt6, zt7, zt8, zt9, zt10, zt11, zt12, zt13] at d5_0
    have e5_2 : ∀ k, tg t5 (sr sh r0 2) k = tg t (sr sh r0 2) k := fun k => f5.eq q0 (i := 2) (by decide) (by decide) k
    have e5_3 : ∀ k, tg t5 (sr sh r0 3) k = tg t (sr sh r0 3) k := fun k => f5.eq q0 (i := 3) (by decide) (by decide) k
    have e5_4 : ∀ k, tg t5 (sr sh r0 4) k = tg t (sr sh r0 4) k := fun k => f5.eq q0 (i := 4) (by decide) (by decide) k
    have e5_10 : ∀ k, tg t5 (sr sh r0 10) k = tg t (sr sh r0 10) k := fun k => f5.eq q0 (i := 10) (by decide) (by decide) k
    have e5_11 : ∀ k, tg t5 (sr sh r0 11) k = tg t (sr sh r0 11) k := fun k => f5.eq q0 (i := 11) (by decide) (by decide) k
    refine zok_ck ((q0).1) ?_
    first | refine zok_le (by omega) (fun c6 => ?_) (fun c6 => ?_) | refine zok_if (fun c6 => ?_) (fun c6 => ?_)
    · refine zok_ck ((q0).1) ?_
      refine zok_c0 (s185 (q0) (by omega) (by omega) (by omega) (by first | (omega) | ((try simp only [zt0, zt1, zt2, zt3, zt4, zt5, zt6, zt7, zt8, zt9, zt10, zt11, zt12, zt13, e5_2, e5_3, e5_4, e5_10, e5_11]); omega)) (by first | (omega) | ((try simp only [zt0, zt1, zt2, zt3, zt4, zt5, zt6, zt7, zt8, zt9, zt10, zt11, zt12, zt13, e5_2, e5_3, e5_4, e5_10, e5_11]); omega)) (f5.g)) (fun t7 p7 => ?_)
      obtain ⟨f7, p7⟩ := p7
      try simp only [zt0, zt1, zt2, zt3, zt4, zt5, zt6, zt7, zt8, zt9, zt10, zt11, zt12, zt13, e5_2, e5_3, e5_4, e5_10, e5_11] at p7
      simp only [zput_s, zput_n, ti_g, oI_add, oI_sub, oI_mul, zt0, zt1, zt2, zt3, zt4, zt5, zt6, zt7, zt8, zt9, zt10, zt11, zt12, zt13, e5_2, e5_3, e5_4, e5_10, e5_11, b187_54]
      try simp only [zput_s, zput_n, ti_g, oI_add, oI_sub, oI_mul]
      refine zok_ck ((q0).1) ?_
      refine zok_c0 (s185 (q0) (by omega) (by omega) (by omega) (by first | (omega) | ((try simp only [zt0, zt1, zt2, zt3, zt4, zt5, zt6, zt7, zt8, zt9, zt10, zt11, zt12, zt13, e5_2, e5_3, e5_4, e5_10, e5_11]); omega)) (by first | (omega) | ((try simp only [zt0, zt1, zt2, zt3, zt4, zt5, zt6, zt7, zt8, zt9, zt10, zt11, zt12, zt13, e5_2, e5_3, e5_4, e5_10, e5_11]); omega)) (f7.g)) (fun t9 p9 => ?_)
      obtain ⟨f9, p9⟩ := p9
      try simp only [zt0, zt1, zt2, zt3, zt4, zt5, zt6, zt7, zt8, zt9, zt10, zt11, zt12, zt13, e5_2, e5_3, e5_4, e5_10, e5_11] at p9
      simp only [zput_s, zput_n, ti_g, oI_add, oI_sub, oI_mul, zt0, zt1, zt2, zt3, zt4, zt5, zt6, zt7, zt8, zt9, zt10, zt11, zt12, zt13, e5_2, e5_3, e5_4, e5_10, e5_11, b187_62]
      try simp only [zput_s, zput_n, ti_g, oI_add, oI_sub, oI_mul]
      refine zok_ck ((q0).1) ?_
      refine zok_pI (s132 (q0) (by omega) (by omega) (by first | (omega) | ((try simp only [zt0, zt1, zt2, zt3, zt4, zt5, zt6, zt7, zt8, zt9, zt10, zt11, zt12, zt13, e5_2, e5_3, e5_4, e5_10, e5_11]); omega)) (by first | (omega) | ((try simp only [zt0, zt1, zt2, zt3, zt4, zt5, zt6, zt7, zt8, zt9, zt10, zt11, zt12, zt13, e5_2, e5_3, e5_4, e5_10, e5_11]); omega)) (f9.g)) (fun y11 u11 p11 => ?_)
      try simp only [zt0, zt1, zt2, zt3, zt4, zt5, zt6, zt7, zt8, zt9, zt10, zt11, zt12, zt13, e5_2, e5_3, e5_4, e5_10, e5_11] at p11
      simp only [zput_s, zput_n, ti_g, oI_add, oI_sub, oI_mul, zt0, zt1, zt2, zt3, zt4, zt5, zt6, zt7, zt8, zt9, zt10, zt11, zt12, zt13, e5_2, e5_3, e5_4, e5_10, e5_11, b187_70]
      try simp only [zput_s, zput_n, ti_g, oI_add, oI_sub, oI_mul]
      refine zok_ck (by first | exact fun _ => bool_p (by omega) | exact bool_p (by omega)) ?_
      first | exact qI_rt (by omega) (by omega) ⟨(FrV.trans (Ns := [0, 1, 2, 3, 4, 9, 10, 11, 12, 13, 14]) ((FrV.trans (Ns := [0, 1, 2, 3, 4, 9, 10, 11, 12, 13, 14]) ((FrV.trans (Ns := [0, 1, 2, 3, 4, 9, 10, 11, 12, 13, 14]) (FrV.refl (Ls := []) G) f5 (by decide) (by decide))) f7 (by decide) (by decide))) f9 (by decide) (by decide)), ⟨by omega, by ((try have c0 := hq1 13 (by decide)); (try have c0 := hq1 13); (try have c1 := e5_2 13); (try have c6 := p7 13 (by omega)); (try have c7 := p9 13 (by omega)); (try simp only [zt0, zt1, zt2, zt3, zt4, zt5, zt6, zt7, zt8, zt9, zt10, zt11, zt12, zt13] at *) <;> omega)⟩⟩ | exact qI_nf ⟨(FrV.trans (Ns := [0, 1, 2, 3, 4, 9, 10, 11, 12, 13, 14]) ((FrV.trans (Ns := [0, 1, 2, 3, 4, 9, 10, 11, 12, 13, 14]) ((FrV.trans (Ns := [0, 1, 2, 3, 4, 9, 10, 11, 12, 13, 14]) (FrV.refl (Ls := []) G) f5 (by decide) (by decide))) f7 (by decide) (by decide))) f9 (by decide) (by decide)), ⟨by omega, by ((try have c0 := hq1 13 (by decide)); (try have c0 := hq1 13); (try have c1 := e5_2 13); (try have c6 := p7 13 (by omega)); (try have c7 := p9 13 (by omega)); (try simp only [zt0, zt1, zt2, zt3, zt4, zt5, zt6, zt7, zt8, zt9, zt10, zt11, zt12, zt13] at *) <;> omega)⟩⟩
    · first | exact qI_rt (by omega) (by omega) ⟨(FrV.trans (Ns := [0, 1, 2, 3, 4, 9, 10, 11, 12, 13, 14]) (FrV.refl (Ls := []) G) f5 (by decide) (by decide)), ⟨by omega, by ((try have c0 := hq1 13 (by decide)); (try have c0 := hq1 13); (try have c1 := e5_2 13); (try simp only [zt0, zt1, zt2, zt3, zt4, zt5, zt6, zt7, zt8, zt9, zt10, zt11, zt12, zt13] at *) <;> omega)⟩⟩ | exact qI_nf ⟨(FrV.trans (Ns := [0, 1, 2, 3, 4, 9, 10, 11, 12, 13, 14]) (FrV.refl (Ls := []) G) f5 (by decide) (by decide)), ⟨by omega, by ((try have c0 := hq1 13 (by decide)); (try have c0 := hq1 13); (try have c1 := e5_2 13); (try simp only [zt0, zt1, zt2, zt3, zt4, zt5, zt6, zt7, zt8, zt9, zt10, zt11, zt12, zt13] at *) <;> omega)⟩⟩
  · refine zok_pI (s127 (by omega)) (fun y13 u13 p13 => ?_)
    try simp only [zt0, zt1, zt2, zt3, zt4, zt5, zt6, zt7, zt8, zt9, zt10, zt11, zt12, zt13] at p13
    have g14_1 := And.intro (tg_lo (tI t r0 0 (oI 1)) r0 0) (tg_hi (tI t r0 0 (oI 1)) r0 0)
    simp only [zput_s, zput_n, ti_g, oI_add, oI_sub, oI_mul, zt0, zt1, zt2, zt3, zt4, zt5, zt6, zt7, zt8, zt9, zt10, zt11, zt12, zt13, b187_12]
    try simp only [zput_s, zput_n, ti_g, oI_add, oI_sub, oI_mul]
    first | refine zok_ne (by omega) (fun c15 => ?_) (fun c15 => ?_) | refine zok_if (fun c15 => ?_) (fun c15 => ?_)
    · refine zok_pI (s120 (by omega) (by omega) (by omega)) (fun y16 u16 p16 => ?_)
      try simp only [zt0, zt1, zt2, zt3, zt4, zt5, zt6, zt7, zt8, zt9, zt10, zt11, zt12, zt13] at p16
      have g17_1 := And.intro (tg_lo (tI t r0 0 (oI 2)) r0 0) (tg_hi (tI t r0 0 (oI 2)) r0 0)
      have g17_2 := And.intro (tg_lo (tI t r0 0 (oI 0)) r0 0) (tg_hi (tI t r0 0 (oI 0)) r0 0)
      simp only [zput_s, zput_n, ti_g, oI_add, oI_sub, oI_mul, zt0, zt1, zt2, zt3, zt4, zt5, zt6, zt7, zt8, zt9, zt10, zt11, zt12, zt13, b187_26]
      try simp only [zput_s, zput_n, ti_g, oI_add, oI_sub, oI_mul]
      first | refine zok_eq (by omega) (fun c18 => ?_) (fun c18 => ?_) | refine zok_if (fun c18 => ?_) (fun c18 => ?_)
      · refine zok_ck (by first | exact ⟨(q0).1, fun e => by cases e⟩ | exact (q0).1) ?_
        obtain ⟨t19, ht19⟩ : ∃ t', t' = tI t r0 (0) (oI (2)) := ⟨_, rfl⟩
        try simp only [zt0, zt1, zt2, zt3, zt4, zt5, zt6, zt7, zt8, zt9, zt10, zt11, zt12, zt13] at ht19
        rw [← ht19]
        have f19 : FrV sh r0 [0] t t19 := by rw [ht19]; exact GI_m q0 (G) (by omega) (fun e => by first | omega | cases e) (fun e => by first | omega | cases e)
        have d19_0 : tg t19 r0 0 = 2 := by rw [ht19]; refine (tg_at (by omega)).trans ?_; first | exact if_pos rfl | exact if_neg (by decide) | (simp only [zt0, zt1, zt2, zt3, zt4, zt5, zt6, zt7, zt8, zt9, zt10, zt11, zt12, zt13, true_and, if_true])
        try simp only [zt0, zt1, zt2, zt3, zt4, zt5, zt6, zt7, zt8, zt9, zt10, zt11, zt12, zt13] at d19_0
        have e19_2 : ∀ k, tg t19 (sr sh r0 2) k = tg t (sr sh r0 2) k := fun k => f19.eq q0 (i := 2) (by decide) (by decide) k
        have e19_3 : ∀ k, tg t19 (sr sh r0 3) k = tg t (sr sh r0 3) k := fun k => f19.eq q0 (i := 3) (by decide) (by decide) k
        have e19_4 : ∀ k, tg t19 (sr sh r0 4) k = tg t (sr sh r0 4) k := fun k => f19.eq q0 (i := 4) (by decide) (by decide) k
        have e19_10 : ∀ k, tg t19 (sr sh r0 10) k = tg t (sr sh r0 10) k := fun k => f19.eq q0 (i := 10) (by decide) (by decide) k
        have e19_11 : ∀ k, tg t19 (sr sh r0 11) k = tg t (sr sh r0 11) k := fun k => f19.eq q0 (i := 11) (by decide) (by decide) k
        refine zok_ck ((q0).1) ?_
        first | refine zok_le (by omega) (fun c20 => ?_) (fun c20 => ?_) | refine zok_if (fun c20 => ?_) (fun c20 => ?_)
        · refine zok_ck ((q0).1) ?_
          refine zok_c0 (s185 (q0) (by omega) (by omega) (by omega) (by first | (omega) | ((try simp only [zt0, zt1, zt2, zt3, zt4, zt5, zt6, zt7, zt8, zt9, zt10, zt11, zt12, zt13, e19_2, e19_3, e19_4, e19_10, e19_11]); omega)) (by first | (omega) | ((try simp only [zt0, zt1, zt2, zt3, zt4, zt5, zt6, zt7, zt8, zt9, zt10, zt11, zt12, zt13, e19_2, e19_3, e19_4, e19_10, e19_11]); omega)) (f19.g)) (fun t21 p21 => ?_)
          obtain ⟨f21, p21⟩ := p21
          try simp only [zt0, zt1, zt2, zt3, zt4, zt5, zt6, zt7, zt8, zt9, zt10, zt11, zt12, zt13, e19_2, e19_3, e19_4, e19_10, e19_11] at p21
          simp only [zput_s, zput_n, ti_g, oI_add, oI_sub, oI_mul, zt0, zt1, zt2, zt3, zt4, zt5, zt6, zt7, zt8, zt9, zt10, zt11, zt12, zt13, e19_2, e19_3, e19_4, e19_10, e19_11, b187_54]
          try simp only [zput_s, zput_n, ti_g, oI_add, oI_sub, oI_mul]
          refine zok_ck ((q0).1) ?_
          refine zok_c0 (s185 (q0) (by omega) (by omega) (by omega) (by first | (omega) | ((try simp only [zt0, zt1, zt2, zt3, zt4, zt5, zt6, zt7, zt8, zt9, zt10, zt11, zt12, zt13, e19_2, e19_3, e19_4, e19_10, e19_11]); omega)) (by first | (omega) | ((try simp only [zt0, zt1, zt2, zt3, zt4, zt5, zt6, zt7, zt8, zt9, zt10, zt11, zt12, zt13, e19_2, e19_3, e19_4, e19_10, e19_11]); omega)) (f21.g)) (fun t23 p23 => ?_)
          obtain ⟨f23, p23⟩ := p23
          try simp only [zt0, zt1, zt2, zt3, zt4, zt5, zt6, zt7, zt8, zt9, zt10, zt11, zt12, zt13, e19_2, e19_3, e19_4, e19_10, e19_11] at p23
          simp only [zput_s, zput_n, ti_g, oI_add, oI_sub, oI_mul, zt0, zt1, zt2, zt3, zt4, zt5, zt6, zt7, zt8, zt9, zt10, zt11, zt12, zt13, e19_2, e19_3, e19_4, e19_10, e19_11, b187_62]
          try simp only [zput_s, zput_n, ti_g, oI_add, oI_sub, oI_mul]
          refine zok_ck ((q0).1) ?_
          refine zok_pI (s132 (q0) (by omega) (by omega) (by first | (omega) | ((try simp only [zt0, zt1, zt2, zt3, zt4, zt5, zt6, zt7, zt8, zt9, zt10, zt11, zt12, zt13, e19_2, e19_3, e19_4, e19_10, e19_11]); omega)) (by first | (omega) | ((try simp only [zt0, zt1, zt2, zt3, zt4, zt5, zt6, zt7, zt8, zt9, zt10, zt11, zt12, zt13, e19_2, e19_3, e19_4, e19_10, e19_11]); omega)) (f23.g)) (fun y25 u25 p25 => ?_)
          try simp only [zt0, zt1, zt2, zt3, zt4, zt5, zt6, zt7, zt8, zt9, zt10, zt11, zt12, zt13, e19_2, e19_3, e19_4, e19_10, e19_11] at p25
          simp only [zput_s, zput_n, ti_g, oI_add, oI_sub, oI_mul, zt0, zt1, zt2, zt3, zt4, zt5, zt6, zt7, zt8, zt9, zt10, zt11, zt12, zt13, e19_2, e19_3, e19_4, e19_10, e19_11, b187_70]
          try simp only [zput_s, zput_n, ti_g, oI_add, oI_sub, oI_mul]
          refine zok_ck (by first | exact fun _ => bool_p (by omega) | exact bool_p (by omega)) ?_
          first | exact qI_rt (by omega) (by omega) ⟨(FrV.trans (Ns := [0, 1, 2, 3, 4, 9, 10, 11, 12, 13, 14]) ((FrV.trans (Ns := [0, 1, 2, 3, 4, 9, 10, 11, 12, 13, 14]) ((FrV.trans (Ns := [0, 1, 2, 3, 4, 9, 10, 11, 12, 13, 14]) (FrV.refl (Ls := []) G) f19 (by decide) (by decide))) f21 (by decide) (by decide))) f23 (by decide) (by decide)), ⟨by omega, by ((try have c0 := hq1 13 (by decide)); (try have c0 := hq1 13); (try have c1 := e19_2 13); (try have c6 := p21 13 (by omega)); (try have c7 := p23 13 (by omega)); (try simp only [zt0, zt1, zt2, zt3, zt4, zt5, zt6, zt7, zt8, zt9, zt10, zt11, zt12, zt13] at *) <;> omega)⟩⟩ | exact qI_nf ⟨(FrV.trans (Ns := [0, 1, 2, 3, 4, 9, 10, 11, 12, 13, 14]) ((FrV.trans (Ns := [0, 1, 2, 3, 4, 9, 10, 11, 12, 13, 14]) ((FrV.trans (Ns := [0, 1, 2, 3, 4, 9, 10, 11, 12, 13, 14]) (FrV.refl (Ls := []) G) f19 (by decide) (by decide))) f21 (by decide) (by decide))) f23 (by decide) (by decide)), ⟨by omega, by ((try have c0 := hq1 13 (by decide)); (try have c0 := hq1 13); (try have c1 := e19_2 13); (try have c6 := p21 13 (by omega)); (try have c7 := p23 13 (by omega)); (try simp only [zt0, zt1, zt2, zt3, zt4, zt5, zt6, zt7, zt8, zt9, zt10, zt11, zt12, zt13] at *) <;> omega)⟩⟩
        · first | exact qI_rt (by omega) (by omega) ⟨(FrV.trans (Ns := [0, 1, 2, 3, 4, 9, 10, 11, 12, 13, 14]) (FrV.refl (Ls := []) G) f19 (by decide) (by decide)), ⟨by omega, by ((try have c0 := hq1 13 (by decide)); (try have c0 := hq1 13); (try have c1 := e19_2 13); (try simp only [zt0, zt1, zt2, zt3, zt4, zt5, zt6, zt7, zt8, zt9, zt10, zt11, zt12, zt13] at *) <;> omega)⟩⟩ | exact qI_nf ⟨(FrV.trans (Ns := [0, 1, 2, 3, 4, 9, 10, 11, 12, 13, 14]) (FrV.refl (Ls := []) G) f19 (by decide) (by decide)), ⟨by omega, by ((try have c0 := hq1 13 (by decide)); (try have c0 := hq1 13); (try have c1 := e19_2 13); (try simp only [zt0, zt1, zt2, zt3, zt4, zt5, zt6, zt7, zt8, zt9, zt10, zt11, zt12, zt13] at *) <;> omega)⟩⟩
      · refine zok_ck (by first | exact ⟨(q0).1, fun e => by cases e⟩ | exact (q0).1) ?_
        obtain ⟨t27, ht27⟩ : ∃ t', t' = tI t r0 (0) (oI (0)) := ⟨_, rfl⟩
        try simp only [zt0, zt1, zt2, zt3, zt4, zt5, zt6, zt7, zt8, zt9, zt10, zt11, zt12, zt13] at ht27
        rw [← ht27]
        have f27 : FrV sh r0 [0] t t27 := by rw [ht27]; exact GI_m q0 (G) (by omega) (fun e => by first | omega | cases e) (fun e => by first | omega | cases e)
        have d27_0 : tg t27 r0 0 = 0 := by rw [ht27]; refine (tg_at (by omega)).trans ?_; first | exact if_pos rfl | exact if_neg (by decide) | (simp only [zt0, zt1, zt2, zt3, zt4, zt5, zt6, zt7, zt8, zt9, zt10, zt11, zt12, zt13, true_and, if_true])
        try simp only [zt0, zt1, zt2, zt3, zt4, zt5, zt6, zt7, zt8, zt9, zt10, zt11, zt12, zt13] at d27_0
        have e27_2 : ∀ k, tg t27 (sr sh r0 2) k = tg t (sr sh r0 2) k := fun k => f27.eq q0 (i := 2) (by decide) (by decide) k
        have e27_3 : ∀ k, tg t27 (sr sh r0 3) k = tg t (sr sh r0 3) k := fun k => f27.eq q0 (i := 3) (by decide) (by decide) k
        have e27_4 : ∀ k, tg t27 (sr sh r0 4) k = tg t (sr sh r0 4) k := fun k => f27.eq q0 (i := 4) (by decide) (by decide) k
        have e27_10 : ∀ k, tg t27 (sr sh r0 10) k = tg t (sr sh r0 10) k := fun k => f27.eq q0 (i := 10) (by decide) (by decide) k
        have e27_11 : ∀ k, tg t27 (sr sh r0 11) k = tg t (sr sh r0 11) k := fun k => f27.eq q0 (i := 11) (by decide) (by decide) k
        refine zok_ck ((q0).1) ?_
        first | refine zok_le (by omega) (fun c28 => ?_) (fun c28 => ?_) | refine zok_if (fun c28 => ?_) (fun c28 => ?_)
        · refine zok_ck ((q0).1) ?_
          refine zok_c0 (s185 (q0) (by omega) (by omega) (by omega) (by first | (omega) | ((try simp only [zt0, zt1, zt2, zt3, zt4, zt5, zt6, zt7, zt8, zt9, zt10, zt11, zt12, zt13, e27_2, e27_3, e27_4, e27_10, e27_11]); omega)) (by first | (omega) | ((try simp only [zt0, zt1, zt2, zt3, zt4, zt5, zt6, zt7, zt8, zt9, zt10, zt11, zt12, zt13, e27_2, e27_3, e27_4, e27_10, e27_11]); omega)) (f27.g)) (fun t29 p29 => ?_)
          obtain ⟨f29, p29⟩ := p29
          try simp only [zt0, zt1, zt2, zt3, zt4, zt5, zt6, zt7, zt8, zt9, zt10, zt11, zt12, zt13, e27_2, e27_3, e27_4, e27_10, e27_11] at p29
          simp only [zput_s, zput_n, ti_g, oI_add, oI_sub, oI_mul, zt0, zt1, zt2, zt3, zt4, zt5, zt6, zt7, zt8, zt9, zt10, zt11, zt12, zt13, e27_2, e27_3, e27_4, e27_10, e27_11, b187_54]
          try simp only [zput_s, zput_n, ti_g, oI_add, oI_sub, oI_mul]
          refine zok_ck ((q0).1) ?_
          refine zok_c0 (s185 (q0) (by omega) (by omega) (by omega) (by first | (omega) | ((try simp only [zt0, zt1, zt2, zt3, zt4, zt5, zt6, zt7, zt8, zt9, zt10, zt11, zt12, zt13, e27_2, e27_3, e27_4, e27_10, e27_11]); omega)) (by first | (omega) | ((try simp only [zt0, zt1, zt2, zt3, zt4, zt5, zt6, zt7, zt8, zt9, zt10, zt11, zt12, zt13, e27_2, e27_3, e27_4, e27_10, e27_11]); omega)) (f29.g)) (fun t31 p31 => ?_)
          obtain ⟨f31, p31⟩ := p31
          try simp only [zt0, zt1, zt2, zt3, zt4, zt5, zt6, zt7, zt8, zt9, zt10, zt11, zt12, zt13, e27_2, e27_3, e27_4, e27_10, e27_11] at p31
          simp only [zput_s, zput_n, ti_g, oI_add, oI_sub, oI_mul, zt0, zt1, zt2, zt3, zt4, zt5, zt6, zt7, zt8, zt9, zt10, zt11, zt12, zt13, e27_2, e27_3, e27_4, e27_10, e27_11, b187_62]
          try simp only [zput_s, zput_n, ti_g, oI_add, oI_sub, oI_mul]
          refine zok_ck ((q0).1) ?_
          refine zok_pI (s132 (q0) (by omega) (by omega) (by first | (omega) | ((try simp only [zt0, zt1, zt2, zt3, zt4, zt5, zt6, zt7, zt8, zt9, zt10, zt11, zt12, zt13, e27_2, e27_3, e27_4, e27_10, e27_11]); omega)) (by first | (omega) | ((try simp only [zt0, zt1, zt2, zt3, zt4, zt5, zt6, zt7, zt8, zt9, zt10, zt11, zt12, zt13, e27_2, e27_3, e27_4, e27_10, e27_11]); omega)) (f31.g)) (fun y33 u33 p33 => ?_)
          try simp only [zt0, zt1, zt2, zt3, zt4, zt5, zt6, zt7, zt8, zt9, zt10, zt11, zt12, zt13, e27_2, e27_3, e27_4, e27_10, e27_11] at p33
          simp only [zput_s, zput_n, ti_g, oI_add, oI_sub, oI_mul, zt0, zt1, zt2, zt3, zt4, zt5, zt6, zt7, zt8, zt9, zt10, zt11, zt12, zt13, e27_2, e27_3, e27_4, e27_10, e27_11, b187_70]
          try simp only [zput_s, zput_n, ti_g, oI_add, oI_sub, oI_mul]
          refine zok_ck (by first | exact fun _ => bool_p (by omega) | exact bool_p (by omega)) ?_
          first | exact qI_rt (by omega) (by omega) ⟨(FrV.trans (Ns := [0, 1, 2, 3, 4, 9, 10, 11, 12, 13, 14]) ((FrV.trans (Ns := [0, 1, 2, 3, 4, 9, 10, 11, 12, 13, 14]) ((FrV.trans (Ns := [0, 1, 2, 3, 4, 9, 10, 11, 12, 13, 14]) (FrV.refl (Ls := []) G) f27 (by decide) (by decide))) f29 (by decide) (by decide))) f31 (by decide) (by decide)), ⟨by omega, by ((try have c0 := hq1 13 (by decide)); (try have c0 := hq1 13); (try have c1 := e27_2 13); (try have c6 := p29 13 (by omega)); (try have c7 := p31 13 (by omega)); (try simp only [zt0, zt1, zt2, zt3, zt4, zt5, zt6, zt7, zt8, zt9, zt10, zt11, zt12, zt13] at *) <;> omega)⟩⟩ | exact qI_nf ⟨(FrV.trans (Ns := [0, 1, 2, 3, 4, 9, 10, 11, 12, 13, 14]) ((FrV.trans (Ns := [0, 1, 2, 3, 4, 9, 10, 11, 12, 13, 14]) ((FrV.trans (Ns := [0, 1, 2, 3, 4, 9, 10, 11, 12, 13, 14]) (FrV.refl (Ls := []) G) f27 (by decide) (by decide))) f29 (by decide) (by decide))) f31 (by decide) (by decide)), ⟨by omega, by ((try have c0 := hq1 13 (by decide)); (try have c0 := hq1 13); (try have c1 := e27_2 13); (try have c6 := p29 13 (by omega)); (try have c7 := p31 13 (by omega)); (try simp only [zt0, zt1, zt2, zt3, zt4, zt5, zt6, zt7, zt8, zt9, zt10, zt11, zt12, zt13] at *) <;> omega)⟩⟩
        · first | exact qI_rt (by omega) (by omega) ⟨(FrV.trans (Ns := [0, 1, 2, 3, 4, 9, 10, 11, 12, 13, 14]) (FrV.refl (Ls := []) G) f27 (by decide) (by decide)), ⟨by omega, by ((try have c0 := hq1 13 (by decide)); (try have c0 := hq1 13); (try have c1 := e27_2 13); (try simp only [zt0, zt1, zt2, zt3, zt4, zt5, zt6, zt7, zt8, zt9, zt10, zt11, zt12, zt13] at *) <;> omega)⟩⟩ | exact qI_nf ⟨(FrV.trans (Ns := [0, 1, 2, 3, 4, 9, 10, 11, 12, 13, 14]) (FrV.refl (Ls := []) G) f27 (by decide) (by decide)), ⟨by omega, by ((try have c0 := hq1 13 (by decide)); (try have c0 := hq1 13); (try have c1 := e27_2 13); (try simp only [zt0, zt1, zt2, zt3, zt4, zt5, zt6, zt7, zt8, zt9, zt10, zt11, zt12, zt13] at *) <;> omega)⟩⟩
    · refine zok_ck (by first | exact ⟨(q0).1, fun e => by cases e⟩ | exact (q0).1) ?_
      obtain ⟨t35, ht35⟩ : ∃ t', t' = tI t r0 (0) (oI (1)) := ⟨_, rfl⟩
      try simp only [zt0, zt1, zt2, zt3, zt4, zt5, zt6, zt7, zt8, zt9, zt10, zt11, zt12, zt13] at ht35
      rw [← ht35]
      have f35 : FrV sh r0 [0] t t35 := by rw [ht35]; exact GI_m q0 (G) (by omega) (fun e => by first | omega | cases e) (fun e => by first | omega | cases e)
      have d35_0 : tg t35 r0 0 = 1 := by rw [ht35]; refine (tg_at (by omega)).trans ?_; first | exact if_pos rfl | exact if_neg (by decide) | (simp only [zt0, zt1, zt2, zt3, zt4, zt5, zt6, zt7, zt8, zt9, zt10, zt11, zt12, zt13, true_and, if_true])
      try simp only [zt0, zt1, zt2, zt3, zt4, zt5, zt6, zt7, zt8, zt9, zt10, zt11, zt12, zt13] at d35_0
      have e35_2 : ∀ k, tg t35 (sr sh r0 2) k = tg t (sr sh r0 2) k := fun k => f35.eq q0 (i := 2) (by decide) (by decide) k
      have e35_3 : ∀ k, tg t35 (sr sh r0 3) k = tg t (sr sh r0 3) k := fun k => f35.eq q0 (i := 3) (by decide) (by decide) k
      have e35_4 : ∀ k, tg t35 (sr sh r0 4) k = tg t (sr sh r0 4) k := fun k => f35.eq q0 (i := 4) (by decide) (by decide) k
      have e35_10 : ∀ k, tg t35 (sr sh r0 10) k = tg t (sr sh r0 10) k := fun k => f35.eq q0 (i := 10) (by decide) (by decide) k
      have e35_11 : ∀ k, tg t35 (sr sh r0 11) k = tg t (sr sh r0 11) k := fun k => f35.eq q0 (i := 11) (by decide) (by decide) k
      refine zok_ck ((q0).1) ?_
      first | refine zok_le (by omega) (fun c36 => ?_) (fun c36 => ?_) | refine zok_if (fun c36 => ?_) (fun c36 => ?_)
      · refine zok_ck ((q0).1) ?_
        refine zok_c0 (s185 (q0) (by omega) (by omega) (by omega) (by first | (omega) | ((try simp only [zt0, zt1, zt2, zt3, zt4, zt5, zt6, zt7, zt8, zt9, zt10, zt11, zt12, zt13, e35_2, e35_3, e35_4, e35_10, e35_11]); omega)) (by first | (omega) | ((try simp only [zt0, zt1, zt2, zt3, zt4, zt5, zt6, zt7, zt8, zt9, zt10, zt11, zt12, zt13, e35_2, e35_3, e35_4, e35_10, e35_11]); omega)) (f35.g)) (fun t37 p37 => ?_)
        obtain ⟨f37, p37⟩ := p37
        try simp only [zt0, zt1, zt2, zt3, zt4, zt5, zt6, zt7, zt8, zt9, zt10, zt11, zt12, zt13, e35_2, e35_3, e35_4, e35_10, e35_11] at p37
        simp only [zput_s, zput_n, ti_g, oI_add, oI_sub, oI_mul, zt0, zt1, zt2, zt3, zt4, zt5, zt6, zt7, zt8, zt9, zt10, zt11, zt12, zt13, e35_2, e35_3, e35_4, e35_10, e35_11, b187_54]
        try simp only [zput_s, zput_n, ti_g, oI_add, oI_sub, oI_mul]
        refine zok_ck ((q0).1) ?_
        refine zok_c0 (s185 (q0) (by omega) (by omega) (by omega) (by first | (omega) | ((try simp only [zt0, zt1, zt2, zt3, zt4, zt5, zt6, zt7, zt8, zt9, zt10, zt11, zt12, zt13, e35_2, e35_3, e35_4, e35_10, e35_11]); omega)) (by first | (omega) | ((try simp only [zt0, zt1, zt2, zt3, zt4, zt5, zt6, zt7, zt8, zt9, zt10, zt11, zt12, zt13, e35_2, e35_3, e35_4, e35_10, e35_11]); omega)) (f37.g)) (fun t39 p39 => ?_)
        obtain ⟨f39, p39⟩ := p39
        try simp only [zt0, zt1, zt2, zt3, zt4, zt5, zt6, zt7, zt8, zt9, zt10, zt11, zt12, zt13, e35_2, e35_3, e35_4, e35_10, e35_11] at p39
        simp only [zput_s, zput_n, ti_g, oI_add, oI_sub, oI_mul, zt0, zt1, zt2, zt3, zt4, zt5, zt6, zt7, zt8, zt9, zt10, zt11, zt12, zt13, e35_2, e35_3, e35_4, e35_10, e35_11, b187_62]
        try simp only [zput_s, zput_n, ti_g, oI_add, oI_sub, oI_mul]
        refine zok_ck ((q0).1) ?_
        refine zok_pI (s132 (q0) (by omega) (by omega) (by first | (omega) | ((try simp only [zt0, zt1, zt2, zt3, zt4, zt5, zt6, zt7, zt8, zt9, zt10, zt11, zt12, zt13, e35_2, e35_3, e35_4, e35_10, e35_11]); omega)) (by first | (omega) | ((try simp only [zt0, zt1, zt2, zt3, zt4, zt5, zt6, zt7, zt8, zt9, zt10, zt11, zt12, zt13, e35_2, e35_3, e35_4, e35_10, e35_11]); omega)) (f39.g)) (fun y41 u41 p41 => ?_)
        try simp only [zt0, zt1, zt2, zt3, zt4, zt5, zt6, zt7, zt8, zt9, zt10, zt11, zt12, zt13, e35_2, e35_3, e35_4, e35_10, e35_11] at p41
        simp only [zput_s, zput_n, ti_g, oI_add, oI_sub, oI_mul, zt0, zt1, zt2, zt3, zt4, zt5, zt6, zt7, zt8, zt9, zt10, zt11, zt12, zt13, e35_2, e35_3, e35_4, e35_10, e35_11, b187_70]
        try simp only [zput_s, zput_n, ti_g, oI_add, oI_sub, oI_mul]
        refine zok_ck (by first | exact fun _ => bool_p (by omega) | exact bool_p (by omega)) ?_
        first | exact qI_rt (by omega) (by omega) ⟨(FrV.trans (Ns := [0, 1, 2, 3, 4, 9, 10, 11, 12, 13, 14]) ((FrV.trans (Ns := [0, 1, 2, 3, 4, 9, 10, 11, 12, 13, 14]) ((FrV.trans (Ns := [0, 1, 2, 3, 4, 9, 10, 11, 12, 13, 14]) (FrV.refl (Ls := []) G) f35 (by decide) (by decide))) f37 (by decide) (by decide))) f39 (by decide) (by decide)), ⟨by omega, by ((try have c0 := hq1 13 (by decide)); (try have c0 := hq1 13); (try have c1 := e35_2 13); (try have c6 := p37 13 (by omega)); (try have c7 := p39 13 (by omega)); (try simp only [zt0, zt1, zt2, zt3, zt4, zt5, zt6, zt7, zt8, zt9, zt10, zt11, zt12, zt13] at *) <;> omega)⟩⟩ | exact qI_nf ⟨(FrV.trans (Ns := [0, 1, 2, 3, 4, 9, 10, 11, 12, 13, 14]) ((FrV.trans (Ns := [0, 1, 2, 3, 4, 9, 10, 11, 12, 13, 14]) ((FrV.trans (Ns := [0, 1, 2, 3, 4, 9, 10, 11, 12, 13, 14]) (FrV.refl (Ls := []) G) f35 (by decide) (by decide))) f37 (by decide) (by decide))) f39 (by decide) (by decide)), ⟨by omega, by ((try have c0 := hq1 13 (by decide)); (try have c0 := hq1 13); (try have c1 := e35_2 13); (try have c6 := p37 13 (by omega)); (try have c7 := p39 13 (by omega)); (try simp only [zt0, zt1, zt2, zt3, zt4, zt5, zt6, zt7, zt8, zt9, zt10, zt11, zt12, zt13] at *) <;> omega)⟩⟩
      · first | exact qI_rt (by omega) (by omega) ⟨(FrV.trans (Ns := [0, 1, 2, 3, 4, 9, 10, 11, 12, 13, 14]) (FrV.refl (Ls := []) G) f35 (by decide) (by decide)), ⟨by omega, by ((try have c0 := hq1 13 (by decide)); (try have c0 := hq1 13); (try have c1 := e35_2 13); (try simp only [zt0, zt1, zt2, zt3, zt4, zt5, zt6, zt7, zt8, zt9, zt10, zt11, zt12, zt13] at *) <;> omega)⟩⟩ | exact qI_nf ⟨(FrV.trans (Ns := [0, 1, 2, 3, 4, 9, 10, 11, 12, 13, 14]) (FrV.refl (Ls := []) G) f35 (by decide) (by decide)), ⟨by omega, by ((try have c0 := hq1 13 (by decide)); (try have c0 := hq1 13); (try have c1 := e35_2 13); (try simp only [zt0, zt1, zt2, zt3, zt4, zt5, zt6, zt7, zt8, zt9, zt10, zt11, zt12, zt13] at *) <;> omega)⟩⟩
