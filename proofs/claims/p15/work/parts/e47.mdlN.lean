set_option maxRecDepth 16384
/-! X9_resolveTo -/
theorem l175_143 {sh : zSh} {t0 : zSt} {MB : Nat} {r0 : Nat} (q0 : zMd sh MB r0) {x1 : Int} (u1 : -2147483648 ≤ x1 ∧ x1 ≤ 2147483647) {x2 : Int} (u2 : -2147483648 ≤ x2 ∧ x2 ≤ 2147483647) {x3 : Int} (u3 : -2147483648 ≤ x3 ∧ x3 ≤ 2147483647) {x4 : Int} (u4 : -2147483648 ≤ x4 ∧ x4 ≤ 2147483647) (d1 : 8 ≤ x1 ∧ x1 ≤ 12) (d2 : 0 ≤ x2 ∧ x2 ≤ 7) (d3 : 0 ≤ x3 ∧ x3 ≤ 11) (d4 : tg t0 (sr sh r0 2) (x3).toNat ≤ 400) (G : GI sh r0 t0) : ∀ (n : Nat) (x5 : Int) (x6 : Int) (x7 : Int)  (t1 : zSt), FrV sh r0 [1, 2, 3, 4, 9, 10, 11, 12, 13] t0 t1 → (-2147483648 ≤ x5 ∧ x5 ≤ 2147483647) ∧ (-2147483648 ≤ x6 ∧ x6 ≤ 2147483647) ∧ (-2147483648 ≤ x7 ∧ x7 ≤ 2147483647) ∧ (zSm sh r0 t1 x2 ≤ 400 ∧ zSm sh r0 t1 x3 ≤ 400) ∧ (tg t1 (sr sh r0 10) 0 ≤ (tg t1 (sr sh r0 4) (7 * x2 + 0).toNat - tg t1 (sr sh r0 3) (7 * x2 + 0).toNat) + (tg t1 (sr sh r0 4) (7 * x3 + 0).toNat - tg t1 (sr sh r0 3) (7 * x3 + 0).toNat)) ∧ (tg t1 (sr sh r0 10) 1 ≤ (tg t1 (sr sh r0 4) (7 * x2 + 1).toNat - tg t1 (sr sh r0 3) (7 * x2 + 1).toNat) + (tg t1 (sr sh r0 4) (7 * x3 + 1).toNat - tg t1 (sr sh r0 3) (7 * x3 + 1).toNat)) ∧ (tg t1 (sr sh r0 10) 2 ≤ (tg t1 (sr sh r0 4) (7 * x2 + 2).toNat - tg t1 (sr sh r0 3) (7 * x2 + 2).toNat) + (tg t1 (sr sh r0 4) (7 * x3 + 2).toNat - tg t1 (sr sh r0 3) (7 * x3 + 2).toNat)) ∧ (tg t1 (sr sh r0 10) 3 ≤ (tg t1 (sr sh r0 4) (7 * x2 + 3).toNat - tg t1 (sr sh r0 3) (7 * x2 + 3).toNat) + (tg t1 (sr sh r0 4) (7 * x3 + 3).toNat - tg t1 (sr sh r0 3) (7 * x3 + 3).toNat)) ∧ (tg t1 (sr sh r0 10) 5 ≤ (tg t1 (sr sh r0 4) (7 * x2 + 5).toNat - tg t1 (sr sh r0 3) (7 * x2 + 5).toNat) + (tg t1 (sr sh r0 4) (7 * x3 + 5).toNat - tg t1 (sr sh r0 3) (7 * x3 + 5).toNat)) ∧ (tg t1 (sr sh r0 10) 6 ≤ (tg t1 (sr sh r0 4) (7 * x2 + 6).toNat - tg t1 (sr sh r0 3) (7 * x2 + 6).toNat) + (tg t1 (sr sh r0 4) (7 * x3 + 6).toNat - tg t1 (sr sh r0 3) (7 * x3 + 6).toNat)) → (∀ k, k ≠ (x1).toNat → tg t1 (sr sh r0 2) k = tg t0 (sr sh r0 2) k) → ((0 : Int)).toNat < n → zok (zev zP 175 143 [some (zR r0), some (zI (oI x1)), some (zI (oI x2)), some (zI (oI x3)), some (zI (oI x4)), some (zI (oI x5)), some (zI (oI x6)), some (zI (oI x7))] [] (sh, t1)) (zq0 (fun t' => FrV sh r0 [1, 2, 3, 4, 9, 10, 11, 12, 13] t0 t' ∧ (∀ k, k ≠ (x1).toNat → tg t' (sr sh r0 2) k = tg t0 (sr sh r0 2) k)) sh) := by
  intro n
  induction n with
  | zero => intro x5 x6 x7  t1 f0 _ _ hm; omega
  | succ n ih =>
    intro x5 x6 x7  t1 f0 hv hq1 hm
    have ha0_1 : (sk sh (sr sh r0 1)).2 = 21000 := by rw [q0.2.2.2.2.1]
    have ha0_2 : (sk sh (sr sh r0 2)).2 = 14 := by rw [q0.2.2.2.2.2.1]
    have ha0_3 : (sk sh (sr sh r0 3)).2 = 98 := by rw [q0.2.2.2.2.2.2.1]
    have ha0_4 : (sk sh (sr sh r0 4)).2 = 98 := by rw [q0.2.2.2.2.2.2.2.1]
    have ha0_8 : (sk sh (sr sh r0 8)).2 = 1500 := by rw [q0.2.2.2.2.2.2.2.2.1]
    have ha0_9 : (sk sh (sr sh r0 9)).2 = 10500 := by rw [q0.2.2.2.2.2.2.2.2.2.1]
    have ha0_10 : (sk sh (sr sh r0 10)).2 = 7 := by rw [q0.2.2.2.2.2.2.2.2.2.2.1]
    have ha0_11 : (sk sh (sr sh r0 11)).2 = 7 := by rw [q0.2.2.2.2.2.2.2.2.2.2.2.1]
    have ha0_12 : (sk sh (sr sh r0 12)).2 = 1500 := by rw [q0.2.2.2.2.2.2.2.2.2.2.2.2.1]
    have ha0_13 : (sk sh (sr sh r0 13)).2 = 1500 := by rw [q0.2.2.2.2.2.2.2.2.2.2.2.2.2.1]
    have ha0_14 : (sk sh (sr sh r0 14)).2 = 20 := by rw [q0.2.2.2.2.2.2.2.2.2.2.2.2.2.2]
    try simp only [zt0, zt1, zt2, zt3, zt4, zt5, zt6] at hv
    try simp only [zt0, zt1, zt2, zt3, zt4, zt5, zt6] at hm
    have gbx20 := ((f0.g).2.1 (7 * x2 + 0).toNat (by omega)).2.1
    try simp only [zt0, zt1, zt2, zt3, zt4, zt5, zt6] at gbx20
    have gbx21 := ((f0.g).2.1 (7 * x2 + 1).toNat (by omega)).2.1
    try simp only [zt0, zt1, zt2, zt3, zt4, zt5, zt6] at gbx21
    have gbx22 := ((f0.g).2.1 (7 * x2 + 2).toNat (by omega)).2.1
    try simp only [zt0, zt1, zt2, zt3, zt4, zt5, zt6] at gbx22
    have gbx23 := ((f0.g).2.1 (7 * x2 + 3).toNat (by omega)).2.1
    try simp only [zt0, zt1, zt2, zt3, zt4, zt5, zt6] at gbx23
    have gbx24 := ((f0.g).2.1 (7 * x2 + 4).toNat (by omega)).2.1
    try simp only [zt0, zt1, zt2, zt3, zt4, zt5, zt6] at gbx24
    have gbx25 := ((f0.g).2.1 (7 * x2 + 5).toNat (by omega)).2.1
    try simp only [zt0, zt1, zt2, zt3, zt4, zt5, zt6] at gbx25
    have gbx26 := ((f0.g).2.1 (7 * x2 + 6).toNat (by omega)).2.1
    try simp only [zt0, zt1, zt2, zt3, zt4, zt5, zt6] at gbx26
    have gbx30 := ((f0.g).2.1 (7 * x3 + 0).toNat (by omega)).2.1
    try simp only [zt0, zt1, zt2, zt3, zt4, zt5, zt6] at gbx30
    have gbx31 := ((f0.g).2.1 (7 * x3 + 1).toNat (by omega)).2.1
    try simp only [zt0, zt1, zt2, zt3, zt4, zt5, zt6] at gbx31
    have gbx32 := ((f0.g).2.1 (7 * x3 + 2).toNat (by omega)).2.1
    try simp only [zt0, zt1, zt2, zt3, zt4, zt5, zt6] at gbx32
    have gbx33 := ((f0.g).2.1 (7 * x3 + 3).toNat (by omega)).2.1
    try simp only [zt0, zt1, zt2, zt3, zt4, zt5, zt6] at gbx33
    have gbx34 := ((f0.g).2.1 (7 * x3 + 4).toNat (by omega)).2.1
    try simp only [zt0, zt1, zt2, zt3, zt4, zt5, zt6] at gbx34
    have gbx35 := ((f0.g).2.1 (7 * x3 + 5).toNat (by omega)).2.1
    try simp only [zt0, zt1, zt2, zt3, zt4, zt5, zt6] at gbx35
    have gbx36 := ((f0.g).2.1 (7 * x3 + 6).toNat (by omega)).2.1
    try simp only [zt0, zt1, zt2, zt3, zt4, zt5, zt6] at gbx36
    rw [b175_143]
    try simp only [zput_s, zput_n, ti_g, oI_add, oI_sub, oI_mul]
    first | refine zok_eq (by omega) (fun c2 => ?_) (fun c2 => ?_) | refine zok_if (fun c2 => ?_) (fun c2 => ?_)
    · first | refine zok_ne (by omega) (fun c3 => ?_) (fun c3 => ?_) | refine zok_if (fun c3 => ?_) (fun c3 => ?_)
      · refine zok_ck ((q0).1) ?_
        have gq4_0 : -1 ≤ tg t1 (sr sh r0 3) (7 * x3 + 4).toNat ∧ tg t1 (sr sh r0 3) (7 * x3 + 4).toNat ≤ tg t1 (sr sh r0 4) (7 * x3 + 4).toNat ∧ tg t1 (sr sh r0 4) (7 * x3 + 4).toNat ≤ 400 := by have g := (f0.g).2.1 (7 * x3 + 4).toNat (by omega); exact ⟨g.1, g.2.1, g.2.2.2 (by omega)⟩
        try simp only [zt0, zt1, zt2, zt3, zt4, zt5, zt6] at gq4_0
        refine zok_c0 (s153 (q0) (by omega) (by omega) (by first | (omega) | ((try simp only [zt0, zt1, zt2, zt3, zt4, zt5, zt6]); omega)) (by first | (omega) | ((try simp only [zt0, zt1, zt2, zt3, zt4, zt5, zt6]); omega)) (f0.g)) (fun t4 p4 => ?_)
        obtain ⟨f4, p4⟩ := p4
        have e4_2 : ∀ k, tg t4 (sr sh r0 2) k = tg t1 (sr sh r0 2) k := fun k => f4.eq q0 (i := 2) (by decide) (by decide) k
        have e4_3 : ∀ k, tg t4 (sr sh r0 3) k = tg t1 (sr sh r0 3) k := fun k => f4.eq q0 (i := 3) (by decide) (by decide) k
        have e4_4 : ∀ k, tg t4 (sr sh r0 4) k = tg t1 (sr sh r0 4) k := fun k => f4.eq q0 (i := 4) (by decide) (by decide) k
        try simp only [zt0, zt1, zt2, zt3, zt4, zt5, zt6, e4_2, e4_3, e4_4] at p4
        have hL4_0 := p4.2.1 0 (by decide)
        try simp only [zt0, zt1, zt2, zt3, zt4, zt5, zt6, e4_2, e4_3, e4_4] at hL4_0
        have hL4_1 := p4.2.2.2 0 (by decide)
        try simp only [zt0, zt1, zt2, zt3, zt4, zt5, zt6, e4_2, e4_3, e4_4] at hL4_1
        have hL4_2 := p4.2.1 1 (by decide)
        try simp only [zt0, zt1, zt2, zt3, zt4, zt5, zt6, e4_2, e4_3, e4_4] at hL4_2
        have hL4_3 := p4.2.2.2 1 (by decide)
        try simp only [zt0, zt1, zt2, zt3, zt4, zt5, zt6, e4_2, e4_3, e4_4] at hL4_3
        have hL4_4 := p4.2.1 2 (by decide)
        try simp only [zt0, zt1, zt2, zt3, zt4, zt5, zt6, e4_2, e4_3, e4_4] at hL4_4
        have hL4_5 := p4.2.2.2 2 (by decide)
        try simp only [zt0, zt1, zt2, zt3, zt4, zt5, zt6, e4_2, e4_3, e4_4] at hL4_5
        have hL4_6 := p4.2.1 3 (by decide)
        try simp only [zt0, zt1, zt2, zt3, zt4, zt5, zt6, e4_2, e4_3, e4_4] at hL4_6
        have hL4_7 := p4.2.2.2 3 (by decide)
        try simp only [zt0, zt1, zt2, zt3, zt4, zt5, zt6, e4_2, e4_3, e4_4] at hL4_7
        have hL4_8 := p4.2.1 5 (by decide)
        try simp only [zt0, zt1, zt2, zt3, zt4, zt5, zt6, e4_2, e4_3, e4_4] at hL4_8
        have hL4_9 := p4.2.2.2 5 (by decide)
        try simp only [zt0, zt1, zt2, zt3, zt4, zt5, zt6, e4_2, e4_3, e4_4] at hL4_9
        have hL4_10 := p4.2.1 6 (by decide)
        try simp only [zt0, zt1, zt2, zt3, zt4, zt5, zt6, e4_2, e4_3, e4_4] at hL4_10
        have hL4_11 := p4.2.2.2 6 (by decide)
        try simp only [zt0, zt1, zt2, zt3, zt4, zt5, zt6, e4_2, e4_3, e4_4] at hL4_11
        have zs4_x2 : zSm sh r0 t4 x2 = zSm sh r0 t1 x2 := zSm_eq e4_3 e4_4
        have zs4_x3 : zSm sh r0 t4 x3 = zSm sh r0 t1 x3 := zSm_eq e4_3 e4_4
        simp only [zput_s, zput_n, ti_g, oI_add, oI_sub, oI_mul, zt0, zt1, zt2, zt3, zt4, zt5, zt6, e4_2, e4_3, e4_4, b175_189]
        try simp only [zput_s, zput_n, ti_g, oI_add, oI_sub, oI_mul]
        refine zok_ck ((q0).1) ?_
        refine zok_c0 (s162 (q0) (by first | (omega) | ((try simp only [zt0, zt1, zt2, zt3, zt4, zt5, zt6, e4_2, e4_3, e4_4]); omega)) (f4.g)) (fun t6 p6 => ?_)
        obtain ⟨f6, p6⟩ := p6
        have e6_2 : ∀ k, tg t6 (sr sh r0 2) k = tg t4 (sr sh r0 2) k := fun k => f6.eq q0 (i := 2) (by decide) (by decide) k
        have e6_3 : ∀ k, tg t6 (sr sh r0 3) k = tg t4 (sr sh r0 3) k := fun k => f6.eq q0 (i := 3) (by decide) (by decide) k
        have e6_4 : ∀ k, tg t6 (sr sh r0 4) k = tg t4 (sr sh r0 4) k := fun k => f6.eq q0 (i := 4) (by decide) (by decide) k
        have e6_11 : ∀ k, tg t6 (sr sh r0 11) k = tg t4 (sr sh r0 11) k := fun k => f6.eq q0 (i := 11) (by decide) (by decide) k
        try simp only [zt0, zt1, zt2, zt3, zt4, zt5, zt6, e4_2, e4_3, e4_4, e6_2, e6_3, e6_4, e6_11] at p6
        have hL6_0 := p6.2 0 (by decide)
        try simp only [zt0, zt1, zt2, zt3, zt4, zt5, zt6, e4_2, e4_3, e4_4, e6_2, e6_3, e6_4, e6_11] at hL6_0
        have hL6_1 := p6.2 1 (by decide)
        try simp only [zt0, zt1, zt2, zt3, zt4, zt5, zt6, e4_2, e4_3, e4_4, e6_2, e6_3, e6_4, e6_11] at hL6_1
        have hL6_2 := p6.2 2 (by decide)
        try simp only [zt0, zt1, zt2, zt3, zt4, zt5, zt6, e4_2, e4_3, e4_4, e6_2, e6_3, e6_4, e6_11] at hL6_2
        have hL6_3 := p6.2 3 (by decide)
        try simp only [zt0, zt1, zt2, zt3, zt4, zt5, zt6, e4_2, e4_3, e4_4, e6_2, e6_3, e6_4, e6_11] at hL6_3
        have hL6_4 := p6.2 5 (by decide)
        try simp only [zt0, zt1, zt2, zt3, zt4, zt5, zt6, e4_2, e4_3, e4_4, e6_2, e6_3, e6_4, e6_11] at hL6_4
        have hL6_5 := p6.2 6 (by decide)
        try simp only [zt0, zt1, zt2, zt3, zt4, zt5, zt6, e4_2, e4_3, e4_4, e6_2, e6_3, e6_4, e6_11] at hL6_5
        have zs6_x2 : zSm sh r0 t6 x2 = zSm sh r0 t4 x2 := zSm_eq e6_3 e6_4
        have zs6_x3 : zSm sh r0 t6 x3 = zSm sh r0 t4 x3 := zSm_eq e6_3 e6_4
        simp only [zput_s, zput_n, ti_g, oI_add, oI_sub, oI_mul, zt0, zt1, zt2, zt3, zt4, zt5, zt6, e4_2, e4_3, e4_4, e6_2, e6_3, e6_4, e6_11, b175_193]
        try simp only [zput_s, zput_n, ti_g, oI_add, oI_sub, oI_mul]
        refine zok_ck ((q0).1) ?_
        refine zok_c0 (s163 (q0) (by first | (omega) | ((try simp only [zt0, zt1, zt2, zt3, zt4, zt5, zt6, e4_2, e4_3, e4_4, e6_2, e6_3, e6_4, e6_11]); omega)) (f6.g)) (fun t8 p8 => ?_)
        obtain ⟨f8, p8⟩ := p8
        have e8_2 : ∀ k, tg t8 (sr sh r0 2) k = tg t6 (sr sh r0 2) k := fun k => f8.eq q0 (i := 2) (by decide) (by decide) k
        have e8_3 : ∀ k, tg t8 (sr sh r0 3) k = tg t6 (sr sh r0 3) k := fun k => f8.eq q0 (i := 3) (by decide) (by decide) k
        have e8_4 : ∀ k, tg t8 (sr sh r0 4) k = tg t6 (sr sh r0 4) k := fun k => f8.eq q0 (i := 4) (by decide) (by decide) k
        have e8_11 : ∀ k, tg t8 (sr sh r0 11) k = tg t6 (sr sh r0 11) k := fun k => f8.eq q0 (i := 11) (by decide) (by decide) k
        try simp only [zt0, zt1, zt2, zt3, zt4, zt5, zt6, e4_2, e4_3, e4_4, e6_2, e6_3, e6_4, e6_11, e8_2, e8_3, e8_4, e8_11] at p8
        have hL8_0 := p8.2 0 (by decide)
        try simp only [zt0, zt1, zt2, zt3, zt4, zt5, zt6, e4_2, e4_3, e4_4, e6_2, e6_3, e6_4, e6_11, e8_2, e8_3, e8_4, e8_11] at hL8_0
        have hL8_1 := p8.2 1 (by decide)
        try simp only [zt0, zt1, zt2, zt3, zt4, zt5, zt6, e4_2, e4_3, e4_4, e6_2, e6_3, e6_4, e6_11, e8_2, e8_3, e8_4, e8_11] at hL8_1
        have hL8_2 := p8.2 2 (by decide)
        try simp only [zt0, zt1, zt2, zt3, zt4, zt5, zt6, e4_2, e4_3, e4_4, e6_2, e6_3, e6_4, e6_11, e8_2, e8_3, e8_4, e8_11] at hL8_2
        have hL8_3 := p8.2 3 (by decide)
        try simp only [zt0, zt1, zt2, zt3, zt4, zt5, zt6, e4_2, e4_3, e4_4, e6_2, e6_3, e6_4, e6_11, e8_2, e8_3, e8_4, e8_11] at hL8_3
        have hL8_4 := p8.2 5 (by decide)
        try simp only [zt0, zt1, zt2, zt3, zt4, zt5, zt6, e4_2, e4_3, e4_4, e6_2, e6_3, e6_4, e6_11, e8_2, e8_3, e8_4, e8_11] at hL8_4
        have hL8_5 := p8.2 6 (by decide)
        try simp only [zt0, zt1, zt2, zt3, zt4, zt5, zt6, e4_2, e4_3, e4_4, e6_2, e6_3, e6_4, e6_11, e8_2, e8_3, e8_4, e8_11] at hL8_5
        have zs8_x2 : zSm sh r0 t8 x2 = zSm sh r0 t6 x2 := zSm_eq e8_3 e8_4
        have zs8_x3 : zSm sh r0 t8 x3 = zSm sh r0 t6 x3 := zSm_eq e8_3 e8_4
        simp only [zput_s, zput_n, ti_g, oI_add, oI_sub, oI_mul, zt0, zt1, zt2, zt3, zt4, zt5, zt6, e4_2, e4_3, e4_4, e6_2, e6_3, e6_4, e6_11, e8_2, e8_3, e8_4, e8_11, b175_197]
        try simp only [zput_s, zput_n, ti_g, oI_add, oI_sub, oI_mul]
        refine zok_ck ((q0).1) ?_
        have hz710 := zJ7_le (f8.g)
        try simp only [zt0, zt1, zt2, zt3, zt4, zt5, zt6, e4_2, e4_3, e4_4, e6_2, e6_3, e6_4, e6_11, e8_2, e8_3, e8_4, e8_11] at hz710
        have hx210 : zSm sh r0 t8 x2 = (tg t8 (sr sh r0 4) (7 * x2 + 0).toNat - tg t8 (sr sh r0 3) (7 * x2 + 0).toNat) + (tg t8 (sr sh r0 4) (7 * x2 + 1).toNat - tg t8 (sr sh r0 3) (7 * x2 + 1).toNat) + (tg t8 (sr sh r0 4) (7 * x2 + 2).toNat - tg t8 (sr sh r0 3) (7 * x2 + 2).toNat) + (tg t8 (sr sh r0 4) (7 * x2 + 3).toNat - tg t8 (sr sh r0 3) (7 * x2 + 3).toNat) + (tg t8 (sr sh r0 4) (7 * x2 + 4).toNat - tg t8 (sr sh r0 3) (7 * x2 + 4).toNat) + (tg t8 (sr sh r0 4) (7 * x2 + 5).toNat - tg t8 (sr sh r0 3) (7 * x2 + 5).toNat) + (tg t8 (sr sh r0 4) (7 * x2 + 6).toNat - tg t8 (sr sh r0 3) (7 * x2 + 6).toNat) := rfl
        try simp only [zt0, zt1, zt2, zt3, zt4, zt5, zt6, e4_2, e4_3, e4_4, e6_2, e6_3, e6_4, e6_11, e8_2, e8_3, e8_4, e8_11] at hx210
        have hx310 : zSm sh r0 t8 x3 = (tg t8 (sr sh r0 4) (7 * x3 + 0).toNat - tg t8 (sr sh r0 3) (7 * x3 + 0).toNat) + (tg t8 (sr sh r0 4) (7 * x3 + 1).toNat - tg t8 (sr sh r0 3) (7 * x3 + 1).toNat) + (tg t8 (sr sh r0 4) (7 * x3 + 2).toNat - tg t8 (sr sh r0 3) (7 * x3 + 2).toNat) + (tg t8 (sr sh r0 4) (7 * x3 + 3).toNat - tg t8 (sr sh r0 3) (7 * x3 + 3).toNat) + (tg t8 (sr sh r0 4) (7 * x3 + 4).toNat - tg t8 (sr sh r0 3) (7 * x3 + 4).toNat) + (tg t8 (sr sh r0 4) (7 * x3 + 5).toNat - tg t8 (sr sh r0 3) (7 * x3 + 5).toNat) + (tg t8 (sr sh r0 4) (7 * x3 + 6).toNat - tg t8 (sr sh r0 3) (7 * x3 + 6).toNat) := rfl
        try simp only [zt0, zt1, zt2, zt3, zt4, zt5, zt6, e4_2, e4_3, e4_4, e6_2, e6_3, e6_4, e6_11, e8_2, e8_3, e8_4, e8_11] at hx310
        refine zok_c0 (s158 (q0) (by omega) (by first | (omega) | ((try simp only [zt0, zt1, zt2, zt3, zt4, zt5, zt6, e4_2, e4_3, e4_4, e6_2, e6_3, e6_4, e6_11, e8_2, e8_3, e8_4, e8_11]); omega)) (by first | (omega) | ((try simp only [zt0, zt1, zt2, zt3, zt4, zt5, zt6, e4_2, e4_3, e4_4, e6_2, e6_3, e6_4, e6_11, e8_2, e8_3, e8_4, e8_11]); omega)) (f8.g)) (fun t10 p10 => ?_)
        obtain ⟨f10, p10⟩ := p10
        have e10_3 : ∀ k, tg t10 (sr sh r0 3) k = tg t8 (sr sh r0 3) k := fun k => f10.eq q0 (i := 3) (by decide) (by decide) k
        have e10_4 : ∀ k, tg t10 (sr sh r0 4) k = tg t8 (sr sh r0 4) k := fun k => f10.eq q0 (i := 4) (by decide) (by decide) k
        have e10_10 : ∀ k, tg t10 (sr sh r0 10) k = tg t8 (sr sh r0 10) k := fun k => f10.eq q0 (i := 10) (by decide) (by decide) k
        have e10_11 : ∀ k, tg t10 (sr sh r0 11) k = tg t8 (sr sh r0 11) k := fun k => f10.eq q0 (i := 11) (by decide) (by decide) k
        try simp only [zt0, zt1, zt2, zt3, zt4, zt5, zt6, e4_2, e4_3, e4_4, e6_2, e6_3, e6_4, e6_11, e8_2, e8_3, e8_4, e8_11, e10_3, e10_4, e10_10, e10_11] at p10
        simp only [zput_s, zput_n, ti_g, oI_add, oI_sub, oI_mul, zt0, zt1, zt2, zt3, zt4, zt5, zt6, e4_2, e4_3, e4_4, e6_2, e6_3, e6_4, e6_11, e8_2, e8_3, e8_4, e8_11, e10_3, e10_4, e10_10, e10_11, b175_202]
        try simp only [zput_s, zput_n, ti_g, oI_add, oI_sub, oI_mul]
        exact q0_rt ⟨(FrV.trans (Ns := [1, 2, 3, 4, 9, 10, 11, 12, 13]) ((FrV.trans (Ns := [1, 2, 3, 4, 9, 10, 11, 12, 13]) ((FrV.trans (Ns := [1, 2, 3, 4, 9, 10, 11, 12, 13]) ((FrV.trans (Ns := [1, 2, 3, 4, 9, 10, 11, 12, 13]) (f0) f4 (by decide) (by decide))) f6 (by decide) (by decide))) f8 (by decide) (by decide))) f10 (by decide) (by decide)), fun k hk => by ((try have c0 := hq1 k hk); (try have c0 := hq1 k); (have c3 := e4_2 k); (have c7 := e6_2 k); (have c12 := e8_2 k); (have c16 := p10.2 k (by omega)); (try simp only [zt0, zt1, zt2, zt3, zt4, zt5, zt6] at *) <;> omega)⟩
      · refine zok_ck ((q0).1) ?_
        refine zok_pI (s136 (q0) (by omega) (by omega) (by omega) (by first | (omega) | ((try simp only [zt0, zt1, zt2, zt3, zt4, zt5, zt6]); omega)) (by first | (omega) | ((try simp only [zt0, zt1, zt2, zt3, zt4, zt5, zt6]); omega)) (by first | (omega) | ((try simp only [zt0, zt1, zt2, zt3, zt4, zt5, zt6]); omega)) (f0.g)) (fun y12 u12 p12 => ?_)
        try simp only [zt0, zt1, zt2, zt3, zt4, zt5, zt6] at p12
        simp only [zput_s, zput_n, ti_g, oI_add, oI_sub, oI_mul, zt0, zt1, zt2, zt3, zt4, zt5, zt6, b175_169]
        try simp only [zput_s, zput_n, ti_g, oI_add, oI_sub, oI_mul]
        first | refine zok_eq (by omega) (fun c14 => ?_) (fun c14 => ?_) | refine zok_if (fun c14 => ?_) (fun c14 => ?_)
        · refine zok_ck ((q0).1) ?_
          have gq15_0 : -1 ≤ tg t1 (sr sh r0 3) (7 * x3 + 4).toNat ∧ tg t1 (sr sh r0 3) (7 * x3 + 4).toNat ≤ tg t1 (sr sh r0 4) (7 * x3 + 4).toNat ∧ tg t1 (sr sh r0 4) (7 * x3 + 4).toNat ≤ 400 := by have g := (f0.g).2.1 (7 * x3 + 4).toNat (by omega); exact ⟨g.1, g.2.1, g.2.2.2 (by omega)⟩
          try simp only [zt0, zt1, zt2, zt3, zt4, zt5, zt6] at gq15_0
          refine zok_c0 (s153 (q0) (by omega) (by omega) (by first | (omega) | ((try simp only [zt0, zt1, zt2, zt3, zt4, zt5, zt6]); omega)) (by first | (omega) | ((try simp only [zt0, zt1, zt2, zt3, zt4, zt5, zt6]); omega)) (f0.g)) (fun t15 p15 => ?_)
          obtain ⟨f15, p15⟩ := p15
          have e15_2 : ∀ k, tg t15 (sr sh r0 2) k = tg t1 (sr sh r0 2) k := fun k => f15.eq q0 (i := 2) (by decide) (by decide) k
          have e15_3 : ∀ k, tg t15 (sr sh r0 3) k = tg t1 (sr sh r0 3) k := fun k => f15.eq q0 (i := 3) (by decide) (by decide) k
          have e15_4 : ∀ k, tg t15 (sr sh r0 4) k = tg t1 (sr sh r0 4) k := fun k => f15.eq q0 (i := 4) (by decide) (by decide) k
          try simp only [zt0, zt1, zt2, zt3, zt4, zt5, zt6, e15_2, e15_3, e15_4] at p15
          have hL15_0 := p15.2.1 0 (by decide)
          try simp only [zt0, zt1, zt2, zt3, zt4, zt5, zt6, e15_2, e15_3, e15_4] at hL15_0
          have hL15_1 := p15.2.2.2 0 (by decide)
          try simp only [zt0, zt1, zt2, zt3, zt4, zt5, zt6, e15_2, e15_3, e15_4] at hL15_1
          have hL15_2 := p15.2.1 1 (by decide)
          try simp only [zt0, zt1, zt2, zt3, zt4, zt5, zt6, e15_2, e15_3, e15_4] at hL15_2
          have hL15_3 := p15.2.2.2 1 (by decide)
          try simp only [zt0, zt1, zt2, zt3, zt4, zt5, zt6, e15_2, e15_3, e15_4] at hL15_3
          have hL15_4 := p15.2.1 2 (by decide)
          try simp only [zt0, zt1, zt2, zt3, zt4, zt5, zt6, e15_2, e15_3, e15_4] at hL15_4
          have hL15_5 := p15.2.2.2 2 (by decide)
          try simp only [zt0, zt1, zt2, zt3, zt4, zt5, zt6, e15_2, e15_3, e15_4] at hL15_5
          have hL15_6 := p15.2.1 3 (by decide)
          try simp only [zt0, zt1, zt2, zt3, zt4, zt5, zt6, e15_2, e15_3, e15_4] at hL15_6
          have hL15_7 := p15.2.2.2 3 (by decide)
          try simp only [zt0, zt1, zt2, zt3, zt4, zt5, zt6, e15_2, e15_3, e15_4] at hL15_7
          have hL15_8 := p15.2.1 5 (by decide)
          try simp only [zt0, zt1, zt2, zt3, zt4, zt5, zt6, e15_2, e15_3, e15_4] at hL15_8
          have hL15_9 := p15.2.2.2 5 (by decide)
          try simp only [zt0, zt1, zt2, zt3, zt4, zt5, zt6, e15_2, e15_3, e15_4] at hL15_9
          have hL15_10 := p15.2.1 6 (by decide)
          try simp only [zt0, zt1, zt2, zt3, zt4, zt5, zt6, e15_2, e15_3, e15_4] at hL15_10
          have hL15_11 := p15.2.2.2 6 (by decide)
          try simp only [zt0, zt1, zt2, zt3, zt4, zt5, zt6, e15_2, e15_3, e15_4] at hL15_11
          have zs15_x2 : zSm sh r0 t15 x2 = zSm sh r0 t1 x2 := zSm_eq e15_3 e15_4
          have zs15_x3 : zSm sh r0 t15 x3 = zSm sh r0 t1 x3 := zSm_eq e15_3 e15_4
          simp only [zput_s, zput_n, ti_g, oI_add, oI_sub, oI_mul, zt0, zt1, zt2, zt3, zt4, zt5, zt6, e15_2, e15_3, e15_4, b175_189]
          try simp only [zput_s, zput_n, ti_g, oI_add, oI_sub, oI_mul]
          refine zok_ck ((q0).1) ?_
          refine zok_c0 (s162 (q0) (by first | (omega) | ((try simp only [zt0, zt1, zt2, zt3, zt4, zt5, zt6, e15_2, e15_3, e15_4]); omega)) (f15.g)) (fun t17 p17 => ?_)
          obtain ⟨f17, p17⟩ := p17
          have e17_2 : ∀ k, tg t17 (sr sh r0 2) k = tg t15 (sr sh r0 2) k := fun k => f17.eq q0 (i := 2) (by decide) (by decide) k
          have e17_3 : ∀ k, tg t17 (sr sh r0 3) k = tg t15 (sr sh r0 3) k := fun k => f17.eq q0 (i := 3) (by decide) (by decide) k
          have e17_4 : ∀ k, tg t17 (sr sh r0 4) k = tg t15 (sr sh r0 4) k := fun k => f17.eq q0 (i := 4) (by decide) (by decide) k
          have e17_11 : ∀ k, tg t17 (sr sh r0 11) k = tg t15 (sr sh r0 11) k := fun k => f17.eq q0 (i := 11) (by decide) (by decide) k
          try simp only [zt0, zt1, zt2, zt3, zt4, zt5, zt6, e15_2, e15_3, e15_4, e17_2, e17_3, e17_4, e17_11] at p17
          have hL17_0 := p17.2 0 (by decide)
          try simp only [zt0, zt1, zt2, zt3, zt4, zt5, zt6, e15_2, e15_3, e15_4, e17_2, e17_3, e17_4, e17_11] at hL17_0
          have hL17_1 := p17.2 1 (by decide)
          try simp only [zt0, zt1, zt2, zt3, zt4, zt5, zt6, e15_2, e15_3, e15_4, e17_2, e17_3, e17_4, e17_11] at hL17_1
          have hL17_2 := p17.2 2 (by decide)
          try simp only [zt0, zt1, zt2, zt3, zt4, zt5, zt6, e15_2, e15_3, e15_4, e17_2, e17_3, e17_4, e17_11] at hL17_2
          have hL17_3 := p17.2 3 (by decide)
          try simp only [zt0, zt1, zt2, zt3, zt4, zt5, zt6, e15_2, e15_3, e15_4, e17_2, e17_3, e17_4, e17_11] at hL17_3
          have hL17_4 := p17.2 5 (by decide)
          try simp only [zt0, zt1, zt2, zt3, zt4, zt5, zt6, e15_2, e15_3, e15_4, e17_2, e17_3, e17_4, e17_11] at hL17_4
          have hL17_5 := p17.2 6 (by decide)
          try simp only [zt0, zt1, zt2, zt3, zt4, zt5, zt6, e15_2, e15_3, e15_4, e17_2, e17_3, e17_4, e17_11] at hL17_5
          have zs17_x2 : zSm sh r0 t17 x2 = zSm sh r0 t15 x2 := zSm_eq e17_3 e17_4
          have zs17_x3 : zSm sh r0 t17 x3 = zSm sh r0 t15 x3 := zSm_eq e17_3 e17_4
          simp only [zput_s, zput_n, ti_g, oI_add, oI_sub, oI_mul, zt0, zt1, zt2, zt3, zt4, zt5, zt6, e15_2, e15_3, e15_4, e17_2, e17_3, e17_4, e17_11, b175_193]
          try simp only [zput_s, zput_n, ti_g, oI_add, oI_sub, oI_mul]
          refine zok_ck ((q0).1) ?_
          refine zok_c0 (s163 (q0) (by first | (omega) | ((try simp only [zt0, zt1, zt2, zt3, zt4, zt5, zt6, e15_2, e15_3, e15_4, e17_2, e17_3, e17_4, e17_11]); omega)) (f17.g)) (fun t19 p19 => ?_)
          obtain ⟨f19, p19⟩ := p19
          have e19_2 : ∀ k, tg t19 (sr sh r0 2) k = tg t17 (sr sh r0 2) k := fun k => f19.eq q0 (i := 2) (by decide) (by decide) k
          have e19_3 : ∀ k, tg t19 (sr sh r0 3) k = tg t17 (sr sh r0 3) k := fun k => f19.eq q0 (i := 3) (by decide) (by decide) k
          have e19_4 : ∀ k, tg t19 (sr sh r0 4) k = tg t17 (sr sh r0 4) k := fun k => f19.eq q0 (i := 4) (by decide) (by decide) k
          have e19_11 : ∀ k, tg t19 (sr sh r0 11) k = tg t17 (sr sh r0 11) k := fun k => f19.eq q0 (i := 11) (by decide) (by decide) k
          try simp only [zt0, zt1, zt2, zt3, zt4, zt5, zt6, e15_2, e15_3, e15_4, e17_2, e17_3, e17_4, e17_11, e19_2, e19_3, e19_4, e19_11] at p19
          have hL19_0 := p19.2 0 (by decide)
          try simp only [zt0, zt1, zt2, zt3, zt4, zt5, zt6, e15_2, e15_3, e15_4, e17_2, e17_3, e17_4, e17_11, e19_2, e19_3, e19_4, e19_11] at hL19_0
          have hL19_1 := p19.2 1 (by decide)
          try simp only [zt0, zt1, zt2, zt3, zt4, zt5, zt6, e15_2, e15_3, e15_4, e17_2, e17_3, e17_4, e17_11, e19_2, e19_3, e19_4, e19_11] at hL19_1
          have hL19_2 := p19.2 2 (by decide)
          try simp only [zt0, zt1, zt2, zt3, zt4, zt5, zt6, e15_2, e15_3, e15_4, e17_2, e17_3, e17_4, e17_11, e19_2, e19_3, e19_4, e19_11] at hL19_2
          have hL19_3 := p19.2 3 (by decide)
          try simp only [zt0, zt1, zt2, zt3, zt4, zt5, zt6, e15_2, e15_3, e15_4, e17_2, e17_3, e17_4, e17_11, e19_2, e19_3, e19_4, e19_11] at hL19_3
          have hL19_4 := p19.2 5 (by decide)
          try simp only [zt0, zt1, zt2, zt3, zt4, zt5, zt6, e15_2, e15_3, e15_4, e17_2, e17_3, e17_4, e17_11, e19_2, e19_3, e19_4, e19_11] at hL19_4
          have hL19_5 := p19.2 6 (by decide)
          try simp only [zt0, zt1, zt2, zt3, zt4, zt5, zt6, e15_2, e15_3, e15_4, e17_2, e17_3, e17_4, e17_11, e19_2, e19_3, e19_4, e19_11] at hL19_5
          have zs19_x2 : zSm sh r0 t19 x2 = zSm sh r0 t17 x2 := zSm_eq e19_3 e19_4
          have zs19_x3 : zSm sh r0 t19 x3 = zSm sh r0 t17 x3 := zSm_eq e19_3 e19_4
          simp only [zput_s, zput_n, ti_g, oI_add, oI_sub, oI_mul, zt0, zt1, zt2, zt3, zt4, zt5, zt6, e15_2, e15_3, e15_4, e17_2, e17_3, e17_4, e17_11, e19_2, e19_3, e19_4, e19_11, b175_197]
          try simp only [zput_s, zput_n, ti_g, oI_add, oI_sub, oI_mul]
          refine zok_ck ((q0).1) ?_
          have hz721 := zJ7_le (f19.g)
          try simp only [zt0, zt1, zt2, zt3, zt4, zt5, zt6, e15_2, e15_3, e15_4, e17_2, e17_3, e17_4, e17_11, e19_2, e19_3, e19_4, e19_11] at hz721
          have hx221 : zSm sh r0 t19 x2 = (tg t19 (sr sh r0 4) (7 * x2 + 0).toNat - tg t19 (sr sh r0 3) (7 * x2 + 0).toNat) + (tg t19 (sr sh r0 4) (7 * x2 + 1).toNat - tg t19 (sr sh r0 3) (7 * x2 + 1).toNat) + (tg t19 (sr sh r0 4) (7 * x2 + 2).toNat - tg t19 (sr sh r0 3) (7 * x2 + 2).toNat) + (tg t19 (sr sh r0 4) (7 * x2 + 3).toNat - tg t19 (sr sh r0 3) (7 * x2 + 3).toNat) + (tg t19 (sr sh r0 4) (7 * x2 + 4).toNat - tg t19 (sr sh r0 3) (7 * x2 + 4).toNat) + (tg t19 (sr sh r0 4) (7 * x2 + 5).toNat - tg t19 (sr sh r0 3) (7 * x2 + 5).toNat) + (tg t19 (sr sh r0 4) (7 * x2 + 6).toNat - tg t19 (sr sh r0 3) (7 * x2 + 6).toNat) := rfl
          try simp only [zt0, zt1, zt2, zt3, zt4, zt5, zt6, e15_2, e15_3, e15_4, e17_2, e17_3, e17_4, e17_11, e19_2, e19_3, e19_4, e19_11] at hx221
          have hx321 : zSm sh r0 t19 x3 = (tg t19 (sr sh r0 4) (7 * x3 + 0).toNat - tg t19 (sr sh r0 3) (7 * x3 + 0).toNat) + (tg t19 (sr sh r0 4) (7 * x3 + 1).toNat - tg t19 (sr sh r0 3) (7 * x3 + 1).toNat) + (tg t19 (sr sh r0 4) (7 * x3 + 2).toNat - tg t19 (sr sh r0 3) (7 * x3 + 2).toNat) + (tg t19 (sr sh r0 4) (7 * x3 + 3).toNat - tg t19 (sr sh r0 3) (7 * x3 + 3).toNat) + (tg t19 (sr sh r0 4) (7 * x3 + 4).toNat - tg t19 (sr sh r0 3) (7 * x3 + 4).toNat) + (tg t19 (sr sh r0 4) (7 * x3 + 5).toNat - tg t19 (sr sh r0 3) (7 * x3 + 5).toNat) + (tg t19 (sr sh r0 4) (7 * x3 + 6).toNat - tg t19 (sr sh r0 3) (7 * x3 + 6).toNat) := rfl
          try simp only [zt0, zt1, zt2, zt3, zt4, zt5, zt6, e15_2, e15_3, e15_4, e17_2, e17_3, e17_4, e17_11, e19_2, e19_3, e19_4, e19_11] at hx321
          refine zok_c0 (s158 (q0) (by omega) (by first | (omega) | ((try simp only [zt0, zt1, zt2, zt3, zt4, zt5, zt6, e15_2, e15_3, e15_4, e17_2, e17_3, e17_4, e17_11, e19_2, e19_3, e19_4, e19_11]); omega)) (by first | (omega) | ((try simp only [zt0, zt1, zt2, zt3, zt4, zt5, zt6, e15_2, e15_3, e15_4, e17_2, e17_3, e17_4, e17_11, e19_2, e19_3, e19_4, e19_11]); omega)) (f19.g)) (fun t21 p21 => ?_)
          obtain ⟨f21, p21⟩ := p21
          have e21_3 : ∀ k, tg t21 (sr sh r0 3) k = tg t19 (sr sh r0 3) k := fun k => f21.eq q0 (i := 3) (by decide) (by decide) k
          have e21_4 : ∀ k, tg t21 (sr sh r0 4) k = tg t19 (sr sh r0 4) k := fun k => f21.eq q0 (i := 4) (by decide) (by decide) k
          have e21_10 : ∀ k, tg t21 (sr sh r0 10) k = tg t19 (sr sh r0 10) k := fun k => f21.eq q0 (i := 10) (by decide) (by decide) k
          have e21_11 : ∀ k, tg t21 (sr sh r0 11) k = tg t19 (sr sh r0 11) k := fun k => f21.eq q0 (i := 11) (by decide) (by decide) k
          try simp only [zt0, zt1, zt2, zt3, zt4, zt5, zt6, e15_2, e15_3, e15_4, e17_2, e17_3, e17_4, e17_11, e19_2, e19_3, e19_4, e19_11, e21_3, e21_4, e21_10, e21_11] at p21
          simp only [zput_s, zput_n, ti_g, oI_add, oI_sub, oI_mul, zt0, zt1, zt2, zt3, zt4, zt5, zt6, e15_2, e15_3, e15_4, e17_2, e17_3, e17_4, e17_11, e19_2, e19_3, e19_4, e19_11, e21_3, e21_4, e21_10, e21_11, b175_202]
          try simp only [zput_s, zput_n, ti_g, oI_add, oI_sub, oI_mul]
          exact q0_rt ⟨(FrV.trans (Ns := [1, 2, 3, 4, 9, 10, 11, 12, 13]) ((FrV.trans (Ns := [1, 2, 3, 4, 9, 10, 11, 12, 13]) ((FrV.trans (Ns := [1, 2, 3, 4, 9, 10, 11, 12, 13]) ((FrV.trans (Ns := [1, 2, 3, 4, 9, 10, 11, 12, 13]) (f0) f15 (by decide) (by decide))) f17 (by decide) (by decide))) f19 (by decide) (by decide))) f21 (by decide) (by decide)), fun k hk => by ((try have c0 := hq1 k hk); (try have c0 := hq1 k); (have c3 := e15_2 k); (have c7 := e17_2 k); (have c12 := e19_2 k); (have c16 := p21.2 k (by omega)); (try simp only [zt0, zt1, zt2, zt3, zt4, zt5, zt6] at *) <;> omega)⟩
        · refine zok_ck ((q0).1) ?_
          have gq23_0 : -1 ≤ tg t1 (sr sh r0 3) (7 * x2 + 4).toNat ∧ tg t1 (sr sh r0 3) (7 * x2 + 4).toNat ≤ tg t1 (sr sh r0 4) (7 * x2 + 4).toNat ∧ tg t1 (sr sh r0 4) (7 * x2 + 4).toNat ≤ 400 := by have g := (f0.g).2.1 (7 * x2 + 4).toNat (by omega); exact ⟨g.1, g.2.1, g.2.2.2 (by omega)⟩
          try simp only [zt0, zt1, zt2, zt3, zt4, zt5, zt6] at gq23_0
          have gq23_1 : -1 ≤ tg t1 (sr sh r0 3) (7 * x3 + 4).toNat ∧ tg t1 (sr sh r0 3) (7 * x3 + 4).toNat ≤ tg t1 (sr sh r0 4) (7 * x3 + 4).toNat ∧ tg t1 (sr sh r0 4) (7 * x3 + 4).toNat ≤ 400 := by have g := (f0.g).2.1 (7 * x3 + 4).toNat (by omega); exact ⟨g.1, g.2.1, g.2.2.2 (by omega)⟩
          try simp only [zt0, zt1, zt2, zt3, zt4, zt5, zt6] at gq23_1
          refine zok_c0 (s174 (q0) (by omega) (by omega) (by first | (omega) | ((try simp only [zt0, zt1, zt2, zt3, zt4, zt5, zt6]); omega)) (by first | (omega) | ((try simp only [zt0, zt1, zt2, zt3, zt4, zt5, zt6]); omega)) (f0.g)) (fun t23 p23 => ?_)
          obtain ⟨f23, p23⟩ := p23
          have e23_2 : ∀ k, tg t23 (sr sh r0 2) k = tg t1 (sr sh r0 2) k := fun k => f23.eq q0 (i := 2) (by decide) (by decide) k
          have e23_3 : ∀ k, tg t23 (sr sh r0 3) k = tg t1 (sr sh r0 3) k := fun k => f23.eq q0 (i := 3) (by decide) (by decide) k
          have e23_4 : ∀ k, tg t23 (sr sh r0 4) k = tg t1 (sr sh r0 4) k := fun k => f23.eq q0 (i := 4) (by decide) (by decide) k
          try simp only [zt0, zt1, zt2, zt3, zt4, zt5, zt6, e23_2, e23_3, e23_4] at p23
          have hL23_0 := p23.2.1 0 (by decide)
          try simp only [zt0, zt1, zt2, zt3, zt4, zt5, zt6, e23_2, e23_3, e23_4] at hL23_0
          have hL23_1 := p23.2.1 1 (by decide)
          try simp only [zt0, zt1, zt2, zt3, zt4, zt5, zt6, e23_2, e23_3, e23_4] at hL23_1
          have hL23_2 := p23.2.1 2 (by decide)
          try simp only [zt0, zt1, zt2, zt3, zt4, zt5, zt6, e23_2, e23_3, e23_4] at hL23_2
          have hL23_3 := p23.2.1 3 (by decide)
          try simp only [zt0, zt1, zt2, zt3, zt4, zt5, zt6, e23_2, e23_3, e23_4] at hL23_3
          have hL23_4 := p23.2.1 5 (by decide)
          try simp only [zt0, zt1, zt2, zt3, zt4, zt5, zt6, e23_2, e23_3, e23_4] at hL23_4
          have hL23_5 := p23.2.1 6 (by decide)
          try simp only [zt0, zt1, zt2, zt3, zt4, zt5, zt6, e23_2, e23_3, e23_4] at hL23_5
          have zs23_x2 : zSm sh r0 t23 x2 = zSm sh r0 t1 x2 := zSm_eq e23_3 e23_4
          have zs23_x3 : zSm sh r0 t23 x3 = zSm sh r0 t1 x3 := zSm_eq e23_3 e23_4
          simp only [zput_s, zput_n, ti_g, oI_add, oI_sub, oI_mul, zt0, zt1, zt2, zt3, zt4, zt5, zt6, e23_2, e23_3, e23_4, b175_180]
          try simp only [zput_s, zput_n, ti_g, oI_add, oI_sub, oI_mul]
          simp only [zput_s, zput_n, ti_g, oI_add, oI_sub, oI_mul, zt0, zt1, zt2, zt3, zt4, zt5, zt6, e23_2, e23_3, e23_4, b175_189]
          try simp only [zput_s, zput_n, ti_g, oI_add, oI_sub, oI_mul]
          refine zok_ck ((q0).1) ?_
          refine zok_c0 (s162 (q0) (by first | (omega) | ((try simp only [zt0, zt1, zt2, zt3, zt4, zt5, zt6, e23_2, e23_3, e23_4]); omega)) (f23.g)) (fun t26 p26 => ?_)
          obtain ⟨f26, p26⟩ := p26
          have e26_2 : ∀ k, tg t26 (sr sh r0 2) k = tg t23 (sr sh r0 2) k := fun k => f26.eq q0 (i := 2) (by decide) (by decide) k
          have e26_3 : ∀ k, tg t26 (sr sh r0 3) k = tg t23 (sr sh r0 3) k := fun k => f26.eq q0 (i := 3) (by decide) (by decide) k
          have e26_4 : ∀ k, tg t26 (sr sh r0 4) k = tg t23 (sr sh r0 4) k := fun k => f26.eq q0 (i := 4) (by decide) (by decide) k
          have e26_11 : ∀ k, tg t26 (sr sh r0 11) k = tg t23 (sr sh r0 11) k := fun k => f26.eq q0 (i := 11) (by decide) (by decide) k
          try simp only [zt0, zt1, zt2, zt3, zt4, zt5, zt6, e23_2, e23_3, e23_4, e26_2, e26_3, e26_4, e26_11] at p26
          have hL26_0 := p26.2 0 (by decide)
          try simp only [zt0, zt1, zt2, zt3, zt4, zt5, zt6, e23_2, e23_3, e23_4, e26_2, e26_3, e26_4, e26_11] at hL26_0
          have hL26_1 := p26.2 1 (by decide)
          try simp only [zt0, zt1, zt2, zt3, zt4, zt5, zt6, e23_2, e23_3, e23_4, e26_2, e26_3, e26_4, e26_11] at hL26_1
          have hL26_2 := p26.2 2 (by decide)
          try simp only [zt0, zt1, zt2, zt3, zt4, zt5, zt6, e23_2, e23_3, e23_4, e26_2, e26_3, e26_4, e26_11] at hL26_2
          have hL26_3 := p26.2 3 (by decide)
          try simp only [zt0, zt1, zt2, zt3, zt4, zt5, zt6, e23_2, e23_3, e23_4, e26_2, e26_3, e26_4, e26_11] at hL26_3
          have hL26_4 := p26.2 5 (by decide)
          try simp only [zt0, zt1, zt2, zt3, zt4, zt5, zt6, e23_2, e23_3, e23_4, e26_2, e26_3, e26_4, e26_11] at hL26_4
          have hL26_5 := p26.2 6 (by decide)
          try simp only [zt0, zt1, zt2, zt3, zt4, zt5, zt6, e23_2, e23_3, e23_4, e26_2, e26_3, e26_4, e26_11] at hL26_5
          have zs26_x2 : zSm sh r0 t26 x2 = zSm sh r0 t23 x2 := zSm_eq e26_3 e26_4
          have zs26_x3 : zSm sh r0 t26 x3 = zSm sh r0 t23 x3 := zSm_eq e26_3 e26_4
          simp only [zput_s, zput_n, ti_g, oI_add, oI_sub, oI_mul, zt0, zt1, zt2, zt3, zt4, zt5, zt6, e23_2, e23_3, e23_4, e26_2, e26_3, e26_4, e26_11, b175_193]
          try simp only [zput_s, zput_n, ti_g, oI_add, oI_sub, oI_mul]
          refine zok_ck ((q0).1) ?_
          refine zok_c0 (s163 (q0) (by first | (omega) | ((try simp only [zt0, zt1, zt2, zt3, zt4, zt5, zt6, e23_2, e23_3, e23_4, e26_2, e26_3, e26_4, e26_11]); omega)) (f26.g)) (fun t28 p28 => ?_)
          obtain ⟨f28, p28⟩ := p28
          have e28_2 : ∀ k, tg t28 (sr sh r0 2) k = tg t26 (sr sh r0 2) k := fun k => f28.eq q0 (i := 2) (by decide) (by decide) k
          have e28_3 : ∀ k, tg t28 (sr sh r0 3) k = tg t26 (sr sh r0 3) k := fun k => f28.eq q0 (i := 3) (by decide) (by decide) k
          have e28_4 : ∀ k, tg t28 (sr sh r0 4) k = tg t26 (sr sh r0 4) k := fun k => f28.eq q0 (i := 4) (by decide) (by decide) k
          have e28_11 : ∀ k, tg t28 (sr sh r0 11) k = tg t26 (sr sh r0 11) k := fun k => f28.eq q0 (i := 11) (by decide) (by decide) k
          try simp only [zt0, zt1, zt2, zt3, zt4, zt5, zt6, e23_2, e23_3, e23_4, e26_2, e26_3, e26_4, e26_11, e28_2, e28_3, e28_4, e28_11] at p28
          have hL28_0 := p28.2 0 (by decide)
          try simp only [zt0, zt1, zt2, zt3, zt4, zt5, zt6, e23_2, e23_3, e23_4, e26_2, e26_3, e26_4, e26_11, e28_2, e28_3, e28_4, e28_11] at hL28_0
          have hL28_1 := p28.2 1 (by decide)
          try simp only [zt0, zt1, zt2, zt3, zt4, zt5, zt6, e23_2, e23_3, e23_4, e26_2, e26_3, e26_4, e26_11, e28_2, e28_3, e28_4, e28_11] at hL28_1
          have hL28_2 := p28.2 2 (by decide)
          try simp only [zt0, zt1, zt2, zt3, zt4, zt5, zt6, e23_2, e23_3, e23_4, e26_2, e26_3, e26_4, e26_11, e28_2, e28_3, e28_4, e28_11] at hL28_2
          have hL28_3 := p28.2 3 (by decide)
          try simp only [zt0, zt1, zt2, zt3, zt4, zt5, zt6, e23_2, e23_3, e23_4, e26_2, e26_3, e26_4, e26_11, e28_2, e28_3, e28_4, e28_11] at hL28_3
          have hL28_4 := p28.2 5 (by decide)
          try simp only [zt0, zt1, zt2, zt3, zt4, zt5, zt6, e23_2, e23_3, e23_4, e26_2, e26_3, e26_4, e26_11, e28_2, e28_3, e28_4, e28_11] at hL28_4
          have hL28_5 := p28.2 6 (by decide)
          try simp only [zt0, zt1, zt2, zt3, zt4, zt5, zt6, e23_2, e23_3, e23_4, e26_2, e26_3, e26_4, e26_11, e28_2, e28_3, e28_4, e28_11] at hL28_5
          have zs28_x2 : zSm sh r0 t28 x2 = zSm sh r0 t26 x2 := zSm_eq e28_3 e28_4
          have zs28_x3 : zSm sh r0 t28 x3 = zSm sh r0 t26 x3 := zSm_eq e28_3 e28_4
          simp only [zput_s, zput_n, ti_g, oI_add, oI_sub, oI_mul, zt0, zt1, zt2, zt3, zt4, zt5, zt6, e23_2, e23_3, e23_4, e26_2, e26_3, e26_4, e26_11, e28_2, e28_3, e28_4, e28_11, b175_197]
          try simp only [zput_s, zput_n, ti_g, oI_add, oI_sub, oI_mul]
          refine zok_ck ((q0).1) ?_
          have hz730 := zJ7_le (f28.g)
          try simp only [zt0, zt1, zt2, zt3, zt4, zt5, zt6, e23_2, e23_3, e23_4, e26_2, e26_3, e26_4, e26_11, e28_2, e28_3, e28_4, e28_11] at hz730
          have hx230 : zSm sh r0 t28 x2 = (tg t28 (sr sh r0 4) (7 * x2 + 0).toNat - tg t28 (sr sh r0 3) (7 * x2 + 0).toNat) + (tg t28 (sr sh r0 4) (7 * x2 + 1).toNat - tg t28 (sr sh r0 3) (7 * x2 + 1).toNat) + (tg t28 (sr sh r0 4) (7 * x2 + 2).toNat - tg t28 (sr sh r0 3) (7 * x2 + 2).toNat) + (tg t28 (sr sh r0 4) (7 * x2 + 3).toNat - tg t28 (sr sh r0 3) (7 * x2 + 3).toNat) + (tg t28 (sr sh r0 4) (7 * x2 + 4).toNat - tg t28 (sr sh r0 3) (7 * x2 + 4).toNat) + (tg t28 (sr sh r0 4) (7 * x2 + 5).toNat - tg t28 (sr sh r0 3) (7 * x2 + 5).toNat) + (tg t28 (sr sh r0 4) (7 * x2 + 6).toNat - tg t28 (sr sh r0 3) (7 * x2 + 6).toNat) := rfl
          try simp only [zt0, zt1, zt2, zt3, zt4, zt5, zt6, e23_2, e23_3, e23_4, e26_2, e26_3, e26_4, e26_11, e28_2, e28_3, e28_4, e28_11] at hx230
          have hx330 : zSm sh r0 t28 x3 = (tg t28 (sr sh r0 4) (7 * x3 + 0).toNat - tg t28 (sr sh r0 3) (7 * x3 + 0).toNat) + (tg t28 (sr sh r0 4) (7 * x3 + 1).toNat - tg t28 (sr sh r0 3) (7 * x3 + 1).toNat) + (tg t28 (sr sh r0 4) (7 * x3 + 2).toNat - tg t28 (sr sh r0 3) (7 * x3 + 2).toNat) + (tg t28 (sr sh r0 4) (7 * x3 + 3).toNat - tg t28 (sr sh r0 3) (7 * x3 + 3).toNat) + (tg t28 (sr sh r0 4) (7 * x3 + 4).toNat - tg t28 (sr sh r0 3) (7 * x3 + 4).toNat) + (tg t28 (sr sh r0 4) (7 * x3 + 5).toNat - tg t28 (sr sh r0 3) (7 * x3 + 5).toNat) + (tg t28 (sr sh r0 4) (7 * x3 + 6).toNat - tg t28 (sr sh r0 3) (7 * x3 + 6).toNat) := rfl
          try simp only [zt0, zt1, zt2, zt3, zt4, zt5, zt6, e23_2, e23_3, e23_4, e26_2, e26_3, e26_4, e26_11, e28_2, e28_3, e28_4, e28_11] at hx330
          refine zok_c0 (s158 (q0) (by omega) (by first | (omega) | ((try simp only [zt0, zt1, zt2, zt3, zt4, zt5, zt6, e23_2, e23_3, e23_4, e26_2, e26_3, e26_4, e26_11, e28_2, e28_3, e28_4, e28_11]); omega)) (by first | (omega) | ((try simp only [zt0, zt1, zt2, zt3, zt4, zt5, zt6, e23_2, e23_3, e23_4, e26_2, e26_3, e26_4, e26_11, e28_2, e28_3, e28_4, e28_11]); omega)) (f28.g)) (fun t30 p30 => ?_)
          obtain ⟨f30, p30⟩ := p30
          have e30_3 : ∀ k, tg t30 (sr sh r0 3) k = tg t28 (sr sh r0 3) k := fun k => f30.eq q0 (i := 3) (by decide) (by decide) k
          have e30_4 : ∀ k, tg t30 (sr sh r0 4) k = tg t28 (sr sh r0 4) k := fun k => f30.eq q0 (i := 4) (by decide) (by decide) k
          have e30_10 : ∀ k, tg t30 (sr sh r0 10) k = tg t28 (sr sh r0 10) k := fun k => f30.eq q0 (i := 10) (by decide) (by decide) k
          have e30_11 : ∀ k, tg t30 (sr sh r0 11) k = tg t28 (sr sh r0 11) k := fun k => f30.eq q0 (i := 11) (by decide) (by decide) k
          try simp only [zt0, zt1, zt2, zt3, zt4, zt5, zt6, e23_2, e23_3, e23_4, e26_2, e26_3, e26_4, e26_11, e28_2, e28_3, e28_4, e28_11, e30_3, e30_4, e30_10, e30_11] at p30
          simp only [zput_s, zput_n, ti_g, oI_add, oI_sub, oI_mul, zt0, zt1, zt2, zt3, zt4, zt5, zt6, e23_2, e23_3, e23_4, e26_2, e26_3, e26_4, e26_11, e28_2, e28_3, e28_4, e28_11, e30_3, e30_4, e30_10, e30_11, b175_202]
          try simp only [zput_s, zput_n, ti_g, oI_add, oI_sub, oI_mul]
          exact q0_rt ⟨(FrV.trans (Ns := [1, 2, 3, 4, 9, 10, 11, 12, 13]) ((FrV.trans (Ns := [1, 2, 3, 4, 9, 10, 11, 12, 13]) ((FrV.trans (Ns := [1, 2, 3, 4, 9, 10, 11, 12, 13]) ((FrV.trans (Ns := [1, 2, 3, 4, 9, 10, 11, 12, 13]) (f0) f23 (by decide) (by decide))) f26 (by decide) (by decide))) f28 (by decide) (by decide))) f30 (by decide) (by decide)), fun k hk => by ((try have c0 := hq1 k hk); (try have c0 := hq1 k); (have c3 := e23_2 k); (have c7 := e26_2 k); (have c12 := e28_2 k); (have c16 := p30.2 k (by omega)); (try simp only [zt0, zt1, zt2, zt3, zt4, zt5, zt6] at *) <;> omega)⟩
    · refine zok_ck ((q0).1) ?_
      have gq32_0 : -1 ≤ tg t1 (sr sh r0 3) (7 * x2 + 4).toNat ∧ tg t1 (sr sh r0 3) (7 * x2 + 4).toNat ≤ tg t1 (sr sh r0 4) (7 * x2 + 4).toNat ∧ tg t1 (sr sh r0 4) (7 * x2 + 4).toNat ≤ 400 := by have g := (f0.g).2.1 (7 * x2 + 4).toNat (by omega); exact ⟨g.1, g.2.1, g.2.2.2 (by omega)⟩
      try simp only [zt0, zt1, zt2, zt3, zt4, zt5, zt6] at gq32_0
      refine zok_c0 (s153 (q0) (by omega) (by omega) (by first | (omega) | ((try simp only [zt0, zt1, zt2, zt3, zt4, zt5, zt6]); omega)) (by first | (omega) | ((try simp only [zt0, zt1, zt2, zt3, zt4, zt5, zt6]); omega)) (f0.g)) (fun t32 p32 => ?_)
      obtain ⟨f32, p32⟩ := p32
      have e32_2 : ∀ k, tg t32 (sr sh r0 2) k = tg t1 (sr sh r0 2) k := fun k => f32.eq q0 (i := 2) (by decide) (by decide) k
      have e32_3 : ∀ k, tg t32 (sr sh r0 3) k = tg t1 (sr sh r0 3) k := fun k => f32.eq q0 (i := 3) (by decide) (by decide) k
      have e32_4 : ∀ k, tg t32 (sr sh r0 4) k = tg t1 (sr sh r0 4) k := fun k => f32.eq q0 (i := 4) (by decide) (by decide) k
      try simp only [zt0, zt1, zt2, zt3, zt4, zt5, zt6, e32_2, e32_3, e32_4] at p32
      have hL32_0 := p32.2.1 0 (by decide)
      try simp only [zt0, zt1, zt2, zt3, zt4, zt5, zt6, e32_2, e32_3, e32_4] at hL32_0
      have hL32_1 := p32.2.2.2 0 (by decide)
      try simp only [zt0, zt1, zt2, zt3, zt4, zt5, zt6, e32_2, e32_3, e32_4] at hL32_1
      have hL32_2 := p32.2.1 1 (by decide)
      try simp only [zt0, zt1, zt2, zt3, zt4, zt5, zt6, e32_2, e32_3, e32_4] at hL32_2
      have hL32_3 := p32.2.2.2 1 (by decide)
      try simp only [zt0, zt1, zt2, zt3, zt4, zt5, zt6, e32_2, e32_3, e32_4] at hL32_3
      have hL32_4 := p32.2.1 2 (by decide)
      try simp only [zt0, zt1, zt2, zt3, zt4, zt5, zt6, e32_2, e32_3, e32_4] at hL32_4
      have hL32_5 := p32.2.2.2 2 (by decide)
      try simp only [zt0, zt1, zt2, zt3, zt4, zt5, zt6, e32_2, e32_3, e32_4] at hL32_5
      have hL32_6 := p32.2.1 3 (by decide)
      try simp only [zt0, zt1, zt2, zt3, zt4, zt5, zt6, e32_2, e32_3, e32_4] at hL32_6
      have hL32_7 := p32.2.2.2 3 (by decide)
      try simp only [zt0, zt1, zt2, zt3, zt4, zt5, zt6, e32_2, e32_3, e32_4] at hL32_7
      have hL32_8 := p32.2.1 5 (by decide)
      try simp only [zt0, zt1, zt2, zt3, zt4, zt5, zt6, e32_2, e32_3, e32_4] at hL32_8
      have hL32_9 := p32.2.2.2 5 (by decide)
      try simp only [zt0, zt1, zt2, zt3, zt4, zt5, zt6, e32_2, e32_3, e32_4] at hL32_9
      have hL32_10 := p32.2.1 6 (by decide)
      try simp only [zt0, zt1, zt2, zt3, zt4, zt5, zt6, e32_2, e32_3, e32_4] at hL32_10
      have hL32_11 := p32.2.2.2 6 (by decide)
      try simp only [zt0, zt1, zt2, zt3, zt4, zt5, zt6, e32_2, e32_3, e32_4] at hL32_11
      have zs32_x2 : zSm sh r0 t32 x2 = zSm sh r0 t1 x2 := zSm_eq e32_3 e32_4
      have zs32_x3 : zSm sh r0 t32 x3 = zSm sh r0 t1 x3 := zSm_eq e32_3 e32_4
      simp only [zput_s, zput_n, ti_g, oI_add, oI_sub, oI_mul, zt0, zt1, zt2, zt3, zt4, zt5, zt6, e32_2, e32_3, e32_4, b175_154]
      try simp only [zput_s, zput_n, ti_g, oI_add, oI_sub, oI_mul]
      simp only [zput_s, zput_n, ti_g, oI_add, oI_sub, oI_mul, zt0, zt1, zt2, zt3, zt4, zt5, zt6, e32_2, e32_3, e32_4, b175_193]
      try simp only [zput_s, zput_n, ti_g, oI_add, oI_sub, oI_mul]
      refine zok_ck ((q0).1) ?_
      refine zok_c0 (s163 (q0) (by first | (omega) | ((try simp only [zt0, zt1, zt2, zt3, zt4, zt5, zt6, e32_2, e32_3, e32_4]); omega)) (f32.g)) (fun t35 p35 => ?_)
      obtain ⟨f35, p35⟩ := p35
      have e35_2 : ∀ k, tg t35 (sr sh r0 2) k = tg t32 (sr sh r0 2) k := fun k => f35.eq q0 (i := 2) (by decide) (by decide) k
      have e35_3 : ∀ k, tg t35 (sr sh r0 3) k = tg t32 (sr sh r0 3) k := fun k => f35.eq q0 (i := 3) (by decide) (by decide) k
      have e35_4 : ∀ k, tg t35 (sr sh r0 4) k = tg t32 (sr sh r0 4) k := fun k => f35.eq q0 (i := 4) (by decide) (by decide) k
      have e35_11 : ∀ k, tg t35 (sr sh r0 11) k = tg t32 (sr sh r0 11) k := fun k => f35.eq q0 (i := 11) (by decide) (by decide) k
      try simp only [zt0, zt1, zt2, zt3, zt4, zt5, zt6, e32_2, e32_3, e32_4, e35_2, e35_3, e35_4, e35_11] at p35
      have hL35_0 := p35.2 0 (by decide)
      try simp only [zt0, zt1, zt2, zt3, zt4, zt5, zt6, e32_2, e32_3, e32_4, e35_2, e35_3, e35_4, e35_11] at hL35_0
      have hL35_1 := p35.2 1 (by decide)
      try simp only [zt0, zt1, zt2, zt3, zt4, zt5, zt6, e32_2, e32_3, e32_4, e35_2, e35_3, e35_4, e35_11] at hL35_1
      have hL35_2 := p35.2 2 (by decide)
      try simp only [zt0, zt1, zt2, zt3, zt4, zt5, zt6, e32_2, e32_3, e32_4, e35_2, e35_3, e35_4, e35_11] at hL35_2
      have hL35_3 := p35.2 3 (by decide)
      try simp only [zt0, zt1, zt2, zt3, zt4, zt5, zt6, e32_2, e32_3, e32_4, e35_2, e35_3, e35_4, e35_11] at hL35_3
      have hL35_4 := p35.2 5 (by decide)
      try simp only [zt0, zt1, zt2, zt3, zt4, zt5, zt6, e32_2, e32_3, e32_4, e35_2, e35_3, e35_4, e35_11] at hL35_4
      have hL35_5 := p35.2 6 (by decide)
      try simp only [zt0, zt1, zt2, zt3, zt4, zt5, zt6, e32_2, e32_3, e32_4, e35_2, e35_3, e35_4, e35_11] at hL35_5
      have zs35_x2 : zSm sh r0 t35 x2 = zSm sh r0 t32 x2 := zSm_eq e35_3 e35_4
      have zs35_x3 : zSm sh r0 t35 x3 = zSm sh r0 t32 x3 := zSm_eq e35_3 e35_4
      simp only [zput_s, zput_n, ti_g, oI_add, oI_sub, oI_mul, zt0, zt1, zt2, zt3, zt4, zt5, zt6, e32_2, e32_3, e32_4, e35_2, e35_3, e35_4, e35_11, b175_197]
      try simp only [zput_s, zput_n, ti_g, oI_add, oI_sub, oI_mul]
      refine zok_ck ((q0).1) ?_
      have hz737 := zJ7_le (f35.g)
      try simp only [zt0, zt1, zt2, zt3, zt4, zt5, zt6, e32_2, e32_3, e32_4, e35_2, e35_3, e35_4, e35_11] at hz737
      have hx237 : zSm sh r0 t35 x2 = (tg t35 (sr sh r0 4) (7 * x2 + 0).toNat - tg t35 (sr sh r0 3) (7 * x2 + 0).toNat) + (tg t35 (sr sh r0 4) (7 * x2 + 1).toNat - tg t35 (sr sh r0 3) (7 * x2 + 1).toNat) + (tg t35 (sr sh r0 4) (7 * x2 + 2).toNat - tg t35 (sr sh r0 3) (7 * x2 + 2).toNat) + (tg t35 (sr sh r0 4) (7 * x2 + 3).toNat - tg t35 (sr sh r0 3) (7 * x2 + 3).toNat) + (tg t35 (sr sh r0 4) (7 * x2 + 4).toNat - tg t35 (sr sh r0 3) (7 * x2 + 4).toNat) + (tg t35 (sr sh r0 4) (7 * x2 + 5).toNat - tg t35 (sr sh r0 3) (7 * x2 + 5).toNat) + (tg t35 (sr sh r0 4) (7 * x2 + 6).toNat - tg t35 (sr sh r0 3) (7 * x2 + 6).toNat) := rfl
      try simp only [zt0, zt1, zt2, zt3, zt4, zt5, zt6, e32_2, e32_3, e32_4, e35_2, e35_3, e35_4, e35_11] at hx237
      have hx337 : zSm sh r0 t35 x3 = (tg t35 (sr sh r0 4) (7 * x3 + 0).toNat - tg t35 (sr sh r0 3) (7 * x3 + 0).toNat) + (tg t35 (sr sh r0 4) (7 * x3 + 1).toNat - tg t35 (sr sh r0 3) (7 * x3 + 1).toNat) + (tg t35 (sr sh r0 4) (7 * x3 + 2).toNat - tg t35 (sr sh r0 3) (7 * x3 + 2).toNat) + (tg t35 (sr sh r0 4) (7 * x3 + 3).toNat - tg t35 (sr sh r0 3) (7 * x3 + 3).toNat) + (tg t35 (sr sh r0 4) (7 * x3 + 4).toNat - tg t35 (sr sh r0 3) (7 * x3 + 4).toNat) + (tg t35 (sr sh r0 4) (7 * x3 + 5).toNat - tg t35 (sr sh r0 3) (7 * x3 + 5).toNat) + (tg t35 (sr sh r0 4) (7 * x3 + 6).toNat - tg t35 (sr sh r0 3) (7 * x3 + 6).toNat) := rfl
      try simp only [zt0, zt1, zt2, zt3, zt4, zt5, zt6, e32_2, e32_3, e32_4, e35_2, e35_3, e35_4, e35_11] at hx337
      refine zok_c0 (s158 (q0) (by omega) (by first | (omega) | ((try simp only [zt0, zt1, zt2, zt3, zt4, zt5, zt6, e32_2, e32_3, e32_4, e35_2, e35_3, e35_4, e35_11]); omega)) (by first | (omega) | ((try simp only [zt0, zt1, zt2, zt3, zt4, zt5, zt6, e32_2, e32_3, e32_4, e35_2, e35_3, e35_4, e35_11]); omega)) (f35.g)) (fun t37 p37 => ?_)
      obtain ⟨f37, p37⟩ := p37
      have e37_3 : ∀ k, tg t37 (sr sh r0 3) k = tg t35 (sr sh r0 3) k := fun k => f37.eq q0 (i := 3) (by decide) (by decide) k
      have e37_4 : ∀ k, tg t37 (sr sh r0 4) k = tg t35 (sr sh r0 4) k := fun k => f37.eq q0 (i := 4) (by decide) (by decide) k
      have e37_10 : ∀ k, tg t37 (sr sh r0 10) k = tg t35 (sr sh r0 10) k := fun k => f37.eq q0 (i := 10) (by decide) (by decide) k
      have e37_11 : ∀ k, tg t37 (sr sh r0 11) k = tg t35 (sr sh r0 11) k := fun k => f37.eq q0 (i := 11) (by decide) (by decide) k
      try simp only [zt0, zt1, zt2, zt3, zt4, zt5, zt6, e32_2, e32_3, e32_4, e35_2, e35_3, e35_4, e35_11, e37_3, e37_4, e37_10, e37_11] at p37
      simp only [zput_s, zput_n, ti_g, oI_add, oI_sub, oI_mul, zt0, zt1, zt2, zt3, zt4, zt5, zt6, e32_2, e32_3, e32_4, e35_2, e35_3, e35_4, e35_11, e37_3, e37_4, e37_10, e37_11, b175_202]
      try simp only [zput_s, zput_n, ti_g, oI_add, oI_sub, oI_mul]
      exact q0_rt ⟨(FrV.trans (Ns := [1, 2, 3, 4, 9, 10, 11, 12, 13]) ((FrV.trans (Ns := [1, 2, 3, 4, 9, 10, 11, 12, 13]) ((FrV.trans (Ns := [1, 2, 3, 4, 9, 10, 11, 12, 13]) (f0) f32 (by decide) (by decide))) f35 (by decide) (by decide))) f37 (by decide) (by decide)), fun k hk => by ((try have c0 := hq1 k hk); (try have c0 := hq1 k); (have c3 := e32_2 k); (have c7 := e35_2 k); (have c11 := p37.2 k (by omega)); (try simp only [zt0, zt1, zt2, zt3, zt4, zt5, zt6] at *) <;> omega)⟩
theorem l175_83 {sh : zSh} {t0 : zSt} {MB : Nat} {r0 : Nat} (q0 : zMd sh MB r0) {x1 : Int} (u1 : -2147483648 ≤ x1 ∧ x1 ≤ 2147483647) {x2 : Int} (u2 : -2147483648 ≤ x2 ∧ x2 ≤ 2147483647) {x3 : Int} (u3 : -2147483648 ≤ x3 ∧ x3 ≤ 2147483647) {x4 : Int} (u4 : -2147483648 ≤ x4 ∧ x4 ≤ 2147483647) (d1 : 8 ≤ x1 ∧ x1 ≤ 12) (d2 : 0 ≤ x2 ∧ x2 ≤ 7) (d3 : 0 ≤ x3 ∧ x3 ≤ 11) (d4 : tg t0 (sr sh r0 2) (x3).toNat ≤ 400) (G : GI sh r0 t0) : ∀ (n : Nat) (x5 : Int) (x6 : Int) (x7 : Int)  (t1 : zSt), FrV sh r0 [1, 2, 3, 4, 9, 10, 11, 12, 13] t0 t1 → (-2147483648 ≤ x5 ∧ x5 ≤ 2147483647) ∧ (-2147483648 ≤ x6 ∧ x6 ≤ 2147483647) ∧ (-2147483648 ≤ x7 ∧ x7 ≤ 2147483647) ∧ ((x5 = 0 ∨ x5 = 1) ∧ (x6 = 0 ∨ x6 = 1) ∧ (x7 = 0 ∨ x7 = 1)) ∧ (zSm sh r0 t1 x2 ≤ 400 ∧ zSm sh r0 t1 x3 ≤ 400) → (∀ k, k ≠ (x1).toNat → tg t1 (sr sh r0 2) k = tg t0 (sr sh r0 2) k) → ((0 : Int)).toNat < n → zok (zev zP 175 83 [some (zR r0), some (zI (oI x1)), some (zI (oI x2)), some (zI (oI x3)), some (zI (oI x4)), some (zI (oI x5)), some (zI (oI x6)), some (zI (oI x7))] [] (sh, t1)) (zq0 (fun t' => FrV sh r0 [1, 2, 3, 4, 9, 10, 11, 12, 13] t0 t' ∧ (∀ k, k ≠ (x1).toNat → tg t' (sr sh r0 2) k = tg t0 (sr sh r0 2) k)) sh) := by
  intro n
  induction n with
  | zero => intro x5 x6 x7  t1 f0 _ _ hm; omega
  | succ n ih =>
    intro x5 x6 x7  t1 f0 hv hq1 hm
    have ha0_1 : (sk sh (sr sh r0 1)).2 = 21000 := by rw [q0.2.2.2.2.1]
    have ha0_2 : (sk sh (sr sh r0 2)).2 = 14 := by rw [q0.2.2.2.2.2.1]
    have ha0_3 : (sk sh (sr sh r0 3)).2 = 98 := by rw [q0.2.2.2.2.2.2.1]
    have ha0_4 : (sk sh (sr sh r0 4)).2 = 98 := by rw [q0.2.2.2.2.2.2.2.1]
    have ha0_8 : (sk sh (sr sh r0 8)).2 = 1500 := by rw [q0.2.2.2.2.2.2.2.2.1]
    have ha0_9 : (sk sh (sr sh r0 9)).2 = 10500 := by rw [q0.2.2.2.2.2.2.2.2.2.1]
    have ha0_10 : (sk sh (sr sh r0 10)).2 = 7 := by rw [q0.2.2.2.2.2.2.2.2.2.2.1]
    have ha0_11 : (sk sh (sr sh r0 11)).2 = 7 := by rw [q0.2.2.2.2.2.2.2.2.2.2.2.1]
    have ha0_12 : (sk sh (sr sh r0 12)).2 = 1500 := by rw [q0.2.2.2.2.2.2.2.2.2.2.2.2.1]
    have ha0_13 : (sk sh (sr sh r0 13)).2 = 1500 := by rw [q0.2.2.2.2.2.2.2.2.2.2.2.2.2.1]
    have ha0_14 : (sk sh (sr sh r0 14)).2 = 20 := by rw [q0.2.2.2.2.2.2.2.2.2.2.2.2.2.2]
    try simp only [zt0, zt1, zt2, zt3, zt4, zt5, zt6] at hv
    try simp only [zt0, zt1, zt2, zt3, zt4, zt5, zt6] at hm
    have gbx20 := ((f0.g).2.1 (7 * x2 + 0).toNat (by omega)).2.1
    try simp only [zt0, zt1, zt2, zt3, zt4, zt5, zt6] at gbx20
    have gbx21 := ((f0.g).2.1 (7 * x2 + 1).toNat (by omega)).2.1
    try simp only [zt0, zt1, zt2, zt3, zt4, zt5, zt6] at gbx21
    have gbx22 := ((f0.g).2.1 (7 * x2 + 2).toNat (by omega)).2.1
    try simp only [zt0, zt1, zt2, zt3, zt4, zt5, zt6] at gbx22
    have gbx23 := ((f0.g).2.1 (7 * x2 + 3).toNat (by omega)).2.1
    try simp only [zt0, zt1, zt2, zt3, zt4, zt5, zt6] at gbx23
    have gbx24 := ((f0.g).2.1 (7 * x2 + 4).toNat (by omega)).2.1
    try simp only [zt0, zt1, zt2, zt3, zt4, zt5, zt6] at gbx24
    have gbx25 := ((f0.g).2.1 (7 * x2 + 5).toNat (by omega)).2.1
    try simp only [zt0, zt1, zt2, zt3, zt4, zt5, zt6] at gbx25
    have gbx26 := ((f0.g).2.1 (7 * x2 + 6).toNat (by omega)).2.1
    try simp only [zt0, zt1, zt2, zt3, zt4, zt5, zt6] at gbx26
    have gbx30 := ((f0.g).2.1 (7 * x3 + 0).toNat (by omega)).2.1
    try simp only [zt0, zt1, zt2, zt3, zt4, zt5, zt6] at gbx30
    have gbx31 := ((f0.g).2.1 (7 * x3 + 1).toNat (by omega)).2.1
    try simp only [zt0, zt1, zt2, zt3, zt4, zt5, zt6] at gbx31
    have gbx32 := ((f0.g).2.1 (7 * x3 + 2).toNat (by omega)).2.1
    try simp only [zt0, zt1, zt2, zt3, zt4, zt5, zt6] at gbx32
    have gbx33 := ((f0.g).2.1 (7 * x3 + 3).toNat (by omega)).2.1
    try simp only [zt0, zt1, zt2, zt3, zt4, zt5, zt6] at gbx33
    have gbx34 := ((f0.g).2.1 (7 * x3 + 4).toNat (by omega)).2.1
    try simp only [zt0, zt1, zt2, zt3, zt4, zt5, zt6] at gbx34
    have gbx35 := ((f0.g).2.1 (7 * x3 + 5).toNat (by omega)).2.1
    try simp only [zt0, zt1, zt2, zt3, zt4, zt5, zt6] at gbx35
    have gbx36 := ((f0.g).2.1 (7 * x3 + 6).toNat (by omega)).2.1
    try simp only [zt0, zt1, zt2, zt3, zt4, zt5, zt6] at gbx36
    rw [b175_83]
    try simp only [zput_s, zput_n, ti_g, oI_add, oI_sub, oI_mul]
    first | refine zok_eq (by omega) (fun c2 => ?_) (fun c2 => ?_) | refine zok_if (fun c2 => ?_) (fun c2 => ?_)
    · refine zok_ck ((q0).1) ?_
      have gq3_0 : -1 ≤ tg t1 (sr sh r0 3) (7 * x2 + 0).toNat ∧ tg t1 (sr sh r0 3) (7 * x2 + 0).toNat ≤ tg t1 (sr sh r0 4) (7 * x2 + 0).toNat ∧ tg t1 (sr sh r0 4) (7 * x2 + 0).toNat ≤ 400 := by have g := (f0.g).2.1 (7 * x2 + 0).toNat (by omega); exact ⟨g.1, g.2.1, g.2.2.2 (by omega)⟩
      try simp only [zt0, zt1, zt2, zt3, zt4, zt5, zt6] at gq3_0
      refine zok_c0 (s153 (q0) (by omega) (by omega) (by first | (omega) | ((try simp only [zt0, zt1, zt2, zt3, zt4, zt5, zt6]); omega)) (by first | (omega) | ((try simp only [zt0, zt1, zt2, zt3, zt4, zt5, zt6]); omega)) (f0.g)) (fun t3 p3 => ?_)
      obtain ⟨f3, p3⟩ := p3
      have e3_2 : ∀ k, tg t3 (sr sh r0 2) k = tg t1 (sr sh r0 2) k := fun k => f3.eq q0 (i := 2) (by decide) (by decide) k
      have e3_3 : ∀ k, tg t3 (sr sh r0 3) k = tg t1 (sr sh r0 3) k := fun k => f3.eq q0 (i := 3) (by decide) (by decide) k
      have e3_4 : ∀ k, tg t3 (sr sh r0 4) k = tg t1 (sr sh r0 4) k := fun k => f3.eq q0 (i := 4) (by decide) (by decide) k
      try simp only [zt0, zt1, zt2, zt3, zt4, zt5, zt6, e3_2, e3_3, e3_4] at p3
      have hL3_0 := p3.2.1 1 (by decide)
      try simp only [zt0, zt1, zt2, zt3, zt4, zt5, zt6, e3_2, e3_3, e3_4] at hL3_0
      have hL3_1 := p3.2.2.2 1 (by decide)
      try simp only [zt0, zt1, zt2, zt3, zt4, zt5, zt6, e3_2, e3_3, e3_4] at hL3_1
      have hL3_2 := p3.2.1 2 (by decide)
      try simp only [zt0, zt1, zt2, zt3, zt4, zt5, zt6, e3_2, e3_3, e3_4] at hL3_2
      have hL3_3 := p3.2.2.2 2 (by decide)
      try simp only [zt0, zt1, zt2, zt3, zt4, zt5, zt6, e3_2, e3_3, e3_4] at hL3_3
      have hL3_4 := p3.2.1 3 (by decide)
      try simp only [zt0, zt1, zt2, zt3, zt4, zt5, zt6, e3_2, e3_3, e3_4] at hL3_4
      have hL3_5 := p3.2.2.2 3 (by decide)
      try simp only [zt0, zt1, zt2, zt3, zt4, zt5, zt6, e3_2, e3_3, e3_4] at hL3_5
      have hL3_6 := p3.2.1 4 (by decide)
      try simp only [zt0, zt1, zt2, zt3, zt4, zt5, zt6, e3_2, e3_3, e3_4] at hL3_6
      have hL3_7 := p3.2.2.2 4 (by decide)
      try simp only [zt0, zt1, zt2, zt3, zt4, zt5, zt6, e3_2, e3_3, e3_4] at hL3_7
      have hL3_8 := p3.2.1 5 (by decide)
      try simp only [zt0, zt1, zt2, zt3, zt4, zt5, zt6, e3_2, e3_3, e3_4] at hL3_8
      have hL3_9 := p3.2.2.2 5 (by decide)
      try simp only [zt0, zt1, zt2, zt3, zt4, zt5, zt6, e3_2, e3_3, e3_4] at hL3_9
      have hL3_10 := p3.2.1 6 (by decide)
      try simp only [zt0, zt1, zt2, zt3, zt4, zt5, zt6, e3_2, e3_3, e3_4] at hL3_10
      have hL3_11 := p3.2.2.2 6 (by decide)
      try simp only [zt0, zt1, zt2, zt3, zt4, zt5, zt6, e3_2, e3_3, e3_4] at hL3_11
      have zs3_x2 : zSm sh r0 t3 x2 = zSm sh r0 t1 x2 := zSm_eq e3_3 e3_4
      have zs3_x3 : zSm sh r0 t3 x3 = zSm sh r0 t1 x3 := zSm_eq e3_3 e3_4
      simp only [zput_s, zput_n, ti_g, oI_add, oI_sub, oI_mul, zt0, zt1, zt2, zt3, zt4, zt5, zt6, e3_2, e3_3, e3_4, b175_98]
      try simp only [zput_s, zput_n, ti_g, oI_add, oI_sub, oI_mul]
      first | refine zok_eq (by omega) (fun c5 => ?_) (fun c5 => ?_) | refine zok_if (fun c5 => ?_) (fun c5 => ?_)
      · refine zok_ck ((q0).1) ?_
        have gq6_0 : -1 ≤ tg t3 (sr sh r0 3) (7 * x2 + 1).toNat ∧ tg t3 (sr sh r0 3) (7 * x2 + 1).toNat ≤ tg t3 (sr sh r0 4) (7 * x2 + 1).toNat ∧ tg t3 (sr sh r0 4) (7 * x2 + 1).toNat ≤ 400 := by have g := (f3.g).2.1 (7 * x2 + 1).toNat (by omega); exact ⟨g.1, g.2.1, g.2.2.2 (by omega)⟩
        try simp only [zt0, zt1, zt2, zt3, zt4, zt5, zt6, e3_2, e3_3, e3_4] at gq6_0
        have gq6_1 : -1 ≤ tg t3 (sr sh r0 3) (7 * x2 + 2).toNat ∧ tg t3 (sr sh r0 3) (7 * x2 + 2).toNat ≤ tg t3 (sr sh r0 4) (7 * x2 + 2).toNat ∧ tg t3 (sr sh r0 4) (7 * x2 + 2).toNat ≤ 400 := by have g := (f3.g).2.1 (7 * x2 + 2).toNat (by omega); exact ⟨g.1, g.2.1, g.2.2.2 (by omega)⟩
        try simp only [zt0, zt1, zt2, zt3, zt4, zt5, zt6, e3_2, e3_3, e3_4] at gq6_1
        have gq6_2 : -1 ≤ tg t3 (sr sh r0 3) (7 * x2 + 3).toNat ∧ tg t3 (sr sh r0 3) (7 * x2 + 3).toNat ≤ tg t3 (sr sh r0 4) (7 * x2 + 3).toNat ∧ tg t3 (sr sh r0 4) (7 * x2 + 3).toNat ≤ 400 := by have g := (f3.g).2.1 (7 * x2 + 3).toNat (by omega); exact ⟨g.1, g.2.1, g.2.2.2 (by omega)⟩
        try simp only [zt0, zt1, zt2, zt3, zt4, zt5, zt6, e3_2, e3_3, e3_4] at gq6_2
        refine zok_c0 (s154 (q0) (by omega) (by first | (omega) | ((try simp only [zt0, zt1, zt2, zt3, zt4, zt5, zt6, e3_2, e3_3, e3_4]); omega)) (f3.g)) (fun t6 p6 => ?_)
        obtain ⟨f6, p6⟩ := p6
        have e6_2 : ∀ k, tg t6 (sr sh r0 2) k = tg t3 (sr sh r0 2) k := fun k => f6.eq q0 (i := 2) (by decide) (by decide) k
        have e6_3 : ∀ k, tg t6 (sr sh r0 3) k = tg t3 (sr sh r0 3) k := fun k => f6.eq q0 (i := 3) (by decide) (by decide) k
        have e6_4 : ∀ k, tg t6 (sr sh r0 4) k = tg t3 (sr sh r0 4) k := fun k => f6.eq q0 (i := 4) (by decide) (by decide) k
        try simp only [zt0, zt1, zt2, zt3, zt4, zt5, zt6, e3_2, e3_3, e3_4, e6_2, e6_3, e6_4] at p6
        have hL6_0 := p6.2.2.1 0 (by decide)
        try simp only [zt0, zt1, zt2, zt3, zt4, zt5, zt6, e3_2, e3_3, e3_4, e6_2, e6_3, e6_4] at hL6_0
        have hL6_1 := p6.2.2.2 0 (by decide)
        try simp only [zt0, zt1, zt2, zt3, zt4, zt5, zt6, e3_2, e3_3, e3_4, e6_2, e6_3, e6_4] at hL6_1
        have hL6_2 := p6.2.2.1 4 (by decide)
        try simp only [zt0, zt1, zt2, zt3, zt4, zt5, zt6, e3_2, e3_3, e3_4, e6_2, e6_3, e6_4] at hL6_2
        have hL6_3 := p6.2.2.2 4 (by decide)
        try simp only [zt0, zt1, zt2, zt3, zt4, zt5, zt6, e3_2, e3_3, e3_4, e6_2, e6_3, e6_4] at hL6_3
        have hL6_4 := p6.2.2.1 5 (by decide)
        try simp only [zt0, zt1, zt2, zt3, zt4, zt5, zt6, e3_2, e3_3, e3_4, e6_2, e6_3, e6_4] at hL6_4
        have hL6_5 := p6.2.2.2 5 (by decide)
        try simp only [zt0, zt1, zt2, zt3, zt4, zt5, zt6, e3_2, e3_3, e3_4, e6_2, e6_3, e6_4] at hL6_5
        have hL6_6 := p6.2.2.1 6 (by decide)
        try simp only [zt0, zt1, zt2, zt3, zt4, zt5, zt6, e3_2, e3_3, e3_4, e6_2, e6_3, e6_4] at hL6_6
        have hL6_7 := p6.2.2.2 6 (by decide)
        try simp only [zt0, zt1, zt2, zt3, zt4, zt5, zt6, e3_2, e3_3, e3_4, e6_2, e6_3, e6_4] at hL6_7
        have zs6_x2 : zSm sh r0 t6 x2 = zSm sh r0 t3 x2 := zSm_eq e6_3 e6_4
        have zs6_x3 : zSm sh r0 t6 x3 = zSm sh r0 t3 x3 := zSm_eq e6_3 e6_4
        simp only [zput_s, zput_n, ti_g, oI_add, oI_sub, oI_mul, zt0, zt1, zt2, zt3, zt4, zt5, zt6, e3_2, e3_3, e3_4, e6_2, e6_3, e6_4, b175_112]
        try simp only [zput_s, zput_n, ti_g, oI_add, oI_sub, oI_mul]
        first | refine zok_eq (by omega) (fun c8 => ?_) (fun c8 => ?_) | refine zok_if (fun c8 => ?_) (fun c8 => ?_)
        · refine zok_ck ((q0).1) ?_
          have gq9_0 : -1 ≤ tg t6 (sr sh r0 3) (7 * x3 + 5).toNat ∧ tg t6 (sr sh r0 3) (7 * x3 + 5).toNat ≤ tg t6 (sr sh r0 4) (7 * x3 + 5).toNat ∧ tg t6 (sr sh r0 4) (7 * x3 + 5).toNat ≤ 400 := by have g := (f6.g).2.1 (7 * x3 + 5).toNat (by omega); exact ⟨g.1, g.2.1, g.2.2.2 (by omega)⟩
          try simp only [zt0, zt1, zt2, zt3, zt4, zt5, zt6, e3_2, e3_3, e3_4, e6_2, e6_3, e6_4] at gq9_0
          refine zok_c0 (s153 (q0) (by omega) (by omega) (by first | (omega) | ((try simp only [zt0, zt1, zt2, zt3, zt4, zt5, zt6, e3_2, e3_3, e3_4, e6_2, e6_3, e6_4]); omega)) (by first | (omega) | ((try simp only [zt0, zt1, zt2, zt3, zt4, zt5, zt6, e3_2, e3_3, e3_4, e6_2, e6_3, e6_4]); omega)) (f6.g)) (fun t9 p9 => ?_)
          obtain ⟨f9, p9⟩ := p9
          have e9_2 : ∀ k, tg t9 (sr sh r0 2) k = tg t6 (sr sh r0 2) k := fun k => f9.eq q0 (i := 2) (by decide) (by decide) k
          have e9_3 : ∀ k, tg t9 (sr sh r0 3) k = tg t6 (sr sh r0 3) k := fun k => f9.eq q0 (i := 3) (by decide) (by decide) k
          have e9_4 : ∀ k, tg t9 (sr sh r0 4) k = tg t6 (sr sh r0 4) k := fun k => f9.eq q0 (i := 4) (by decide) (by decide) k
          try simp only [zt0, zt1, zt2, zt3, zt4, zt5, zt6, e3_2, e3_3, e3_4, e6_2, e6_3, e6_4, e9_2, e9_3, e9_4] at p9
          have hL9_0 := p9.2.1 0 (by decide)
          try simp only [zt0, zt1, zt2, zt3, zt4, zt5, zt6, e3_2, e3_3, e3_4, e6_2, e6_3, e6_4, e9_2, e9_3, e9_4] at hL9_0
          have hL9_1 := p9.2.2.2 0 (by decide)
          try simp only [zt0, zt1, zt2, zt3, zt4, zt5, zt6, e3_2, e3_3, e3_4, e6_2, e6_3, e6_4, e9_2, e9_3, e9_4] at hL9_1
          have hL9_2 := p9.2.1 1 (by decide)
          try simp only [zt0, zt1, zt2, zt3, zt4, zt5, zt6, e3_2, e3_3, e3_4, e6_2, e6_3, e6_4, e9_2, e9_3, e9_4] at hL9_2
          have hL9_3 := p9.2.2.2 1 (by decide)
          try simp only [zt0, zt1, zt2, zt3, zt4, zt5, zt6, e3_2, e3_3, e3_4, e6_2, e6_3, e6_4, e9_2, e9_3, e9_4] at hL9_3
          have hL9_4 := p9.2.1 2 (by decide)
          try simp only [zt0, zt1, zt2, zt3, zt4, zt5, zt6, e3_2, e3_3, e3_4, e6_2, e6_3, e6_4, e9_2, e9_3, e9_4] at hL9_4
          have hL9_5 := p9.2.2.2 2 (by decide)
          try simp only [zt0, zt1, zt2, zt3, zt4, zt5, zt6, e3_2, e3_3, e3_4, e6_2, e6_3, e6_4, e9_2, e9_3, e9_4] at hL9_5
          have hL9_6 := p9.2.1 3 (by decide)
          try simp only [zt0, zt1, zt2, zt3, zt4, zt5, zt6, e3_2, e3_3, e3_4, e6_2, e6_3, e6_4, e9_2, e9_3, e9_4] at hL9_6
          have hL9_7 := p9.2.2.2 3 (by decide)
          try simp only [zt0, zt1, zt2, zt3, zt4, zt5, zt6, e3_2, e3_3, e3_4, e6_2, e6_3, e6_4, e9_2, e9_3, e9_4] at hL9_7
          have hL9_8 := p9.2.1 4 (by decide)
          try simp only [zt0, zt1, zt2, zt3, zt4, zt5, zt6, e3_2, e3_3, e3_4, e6_2, e6_3, e6_4, e9_2, e9_3, e9_4] at hL9_8
          have hL9_9 := p9.2.2.2 4 (by decide)
          try simp only [zt0, zt1, zt2, zt3, zt4, zt5, zt6, e3_2, e3_3, e3_4, e6_2, e6_3, e6_4, e9_2, e9_3, e9_4] at hL9_9
          have hL9_10 := p9.2.1 6 (by decide)
          try simp only [zt0, zt1, zt2, zt3, zt4, zt5, zt6, e3_2, e3_3, e3_4, e6_2, e6_3, e6_4, e9_2, e9_3, e9_4] at hL9_10
          have hL9_11 := p9.2.2.2 6 (by decide)
          try simp only [zt0, zt1, zt2, zt3, zt4, zt5, zt6, e3_2, e3_3, e3_4, e6_2, e6_3, e6_4, e9_2, e9_3, e9_4] at hL9_11
          have zs9_x2 : zSm sh r0 t9 x2 = zSm sh r0 t6 x2 := zSm_eq e9_3 e9_4
          have zs9_x3 : zSm sh r0 t9 x3 = zSm sh r0 t6 x3 := zSm_eq e9_3 e9_4
          simp only [zput_s, zput_n, ti_g, oI_add, oI_sub, oI_mul, zt0, zt1, zt2, zt3, zt4, zt5, zt6, e3_2, e3_3, e3_4, e6_2, e6_3, e6_4, e9_2, e9_3, e9_4, b175_136]
          try simp only [zput_s, zput_n, ti_g, oI_add, oI_sub, oI_mul]
          refine zok_ck ((q0).1) ?_
          have gq11_0 : -1 ≤ tg t9 (sr sh r0 3) (7 * x3 + 6).toNat ∧ tg t9 (sr sh r0 3) (7 * x3 + 6).toNat ≤ tg t9 (sr sh r0 4) (7 * x3 + 6).toNat ∧ tg t9 (sr sh r0 4) (7 * x3 + 6).toNat ≤ 400 := by have g := (f9.g).2.1 (7 * x3 + 6).toNat (by omega); exact ⟨g.1, g.2.1, g.2.2.2 (by omega)⟩
          try simp only [zt0, zt1, zt2, zt3, zt4, zt5, zt6, e3_2, e3_3, e3_4, e6_2, e6_3, e6_4, e9_2, e9_3, e9_4] at gq11_0
          refine zok_c0 (s153 (q0) (by omega) (by omega) (by first | (omega) | ((try simp only [zt0, zt1, zt2, zt3, zt4, zt5, zt6, e3_2, e3_3, e3_4, e6_2, e6_3, e6_4, e9_2, e9_3, e9_4]); omega)) (by first | (omega) | ((try simp only [zt0, zt1, zt2, zt3, zt4, zt5, zt6, e3_2, e3_3, e3_4, e6_2, e6_3, e6_4, e9_2, e9_3, e9_4]); omega)) (f9.g)) (fun t11 p11 => ?_)
          obtain ⟨f11, p11⟩ := p11
          have e11_2 : ∀ k, tg t11 (sr sh r0 2) k = tg t9 (sr sh r0 2) k := fun k => f11.eq q0 (i := 2) (by decide) (by decide) k
          have e11_3 : ∀ k, tg t11 (sr sh r0 3) k = tg t9 (sr sh r0 3) k := fun k => f11.eq q0 (i := 3) (by decide) (by decide) k
          have e11_4 : ∀ k, tg t11 (sr sh r0 4) k = tg t9 (sr sh r0 4) k := fun k => f11.eq q0 (i := 4) (by decide) (by decide) k
          try simp only [zt0, zt1, zt2, zt3, zt4, zt5, zt6, e3_2, e3_3, e3_4, e6_2, e6_3, e6_4, e9_2, e9_3, e9_4, e11_2, e11_3, e11_4] at p11
          have hL11_0 := p11.2.1 0 (by decide)
          try simp only [zt0, zt1, zt2, zt3, zt4, zt5, zt6, e3_2, e3_3, e3_4, e6_2, e6_3, e6_4, e9_2, e9_3, e9_4, e11_2, e11_3, e11_4] at hL11_0
          have hL11_1 := p11.2.2.2 0 (by decide)
          try simp only [zt0, zt1, zt2, zt3, zt4, zt5, zt6, e3_2, e3_3, e3_4, e6_2, e6_3, e6_4, e9_2, e9_3, e9_4, e11_2, e11_3, e11_4] at hL11_1
          have hL11_2 := p11.2.1 1 (by decide)
          try simp only [zt0, zt1, zt2, zt3, zt4, zt5, zt6, e3_2, e3_3, e3_4, e6_2, e6_3, e6_4, e9_2, e9_3, e9_4, e11_2, e11_3, e11_4] at hL11_2
          have hL11_3 := p11.2.2.2 1 (by decide)
          try simp only [zt0, zt1, zt2, zt3, zt4, zt5, zt6, e3_2, e3_3, e3_4, e6_2, e6_3, e6_4, e9_2, e9_3, e9_4, e11_2, e11_3, e11_4] at hL11_3
          have hL11_4 := p11.2.1 2 (by decide)
          try simp only [zt0, zt1, zt2, zt3, zt4, zt5, zt6, e3_2, e3_3, e3_4, e6_2, e6_3, e6_4, e9_2, e9_3, e9_4, e11_2, e11_3, e11_4] at hL11_4
          have hL11_5 := p11.2.2.2 2 (by decide)
          try simp only [zt0, zt1, zt2, zt3, zt4, zt5, zt6, e3_2, e3_3, e3_4, e6_2, e6_3, e6_4, e9_2, e9_3, e9_4, e11_2, e11_3, e11_4] at hL11_5
          have hL11_6 := p11.2.1 3 (by decide)
          try simp only [zt0, zt1, zt2, zt3, zt4, zt5, zt6, e3_2, e3_3, e3_4, e6_2, e6_3, e6_4, e9_2, e9_3, e9_4, e11_2, e11_3, e11_4] at hL11_6
          have hL11_7 := p11.2.2.2 3 (by decide)
          try simp only [zt0, zt1, zt2, zt3, zt4, zt5, zt6, e3_2, e3_3, e3_4, e6_2, e6_3, e6_4, e9_2, e9_3, e9_4, e11_2, e11_3, e11_4] at hL11_7
          have hL11_8 := p11.2.1 4 (by decide)
          try simp only [zt0, zt1, zt2, zt3, zt4, zt5, zt6, e3_2, e3_3, e3_4, e6_2, e6_3, e6_4, e9_2, e9_3, e9_4, e11_2, e11_3, e11_4] at hL11_8
          have hL11_9 := p11.2.2.2 4 (by decide)
          try simp only [zt0, zt1, zt2, zt3, zt4, zt5, zt6, e3_2, e3_3, e3_4, e6_2, e6_3, e6_4, e9_2, e9_3, e9_4, e11_2, e11_3, e11_4] at hL11_9
          have hL11_10 := p11.2.1 5 (by decide)
          try simp only [zt0, zt1, zt2, zt3, zt4, zt5, zt6, e3_2, e3_3, e3_4, e6_2, e6_3, e6_4, e9_2, e9_3, e9_4, e11_2, e11_3, e11_4] at hL11_10
          have hL11_11 := p11.2.2.2 5 (by decide)
          try simp only [zt0, zt1, zt2, zt3, zt4, zt5, zt6, e3_2, e3_3, e3_4, e6_2, e6_3, e6_4, e9_2, e9_3, e9_4, e11_2, e11_3, e11_4] at hL11_11
          have zs11_x2 : zSm sh r0 t11 x2 = zSm sh r0 t9 x2 := zSm_eq e11_3 e11_4
          have zs11_x3 : zSm sh r0 t11 x3 = zSm sh r0 t9 x3 := zSm_eq e11_3 e11_4
          try simp only [zput_s, zput_n, ti_g, oI_add, oI_sub, oI_mul]
          exact l175_143 q0 (by omega) (by omega) (by omega) (by omega) d1 d2 d3 d4 G _ _ _ _ _ ((FrV.trans (Ns := [1, 2, 3, 4, 9, 10, 11, 12, 13]) ((FrV.trans (Ns := [1, 2, 3, 4, 9, 10, 11, 12, 13]) ((FrV.trans (Ns := [1, 2, 3, 4, 9, 10, 11, 12, 13]) ((FrV.trans (Ns := [1, 2, 3, 4, 9, 10, 11, 12, 13]) (f0) f3 (by decide) (by decide))) f6 (by decide) (by decide))) f9 (by decide) (by decide))) f11 (by decide) (by decide))) (by first | omega | ((try simp only [zt0, zt1, zt2, zt3, zt4, zt5, zt6, e3_2, e3_3, e3_4, e6_2, e6_3, e6_4, e9_2, e9_3, e9_4, e11_2, e11_3, e11_4]); omega)) (fun k hk => by ((try have c0 := hq1 k hk); (try have c0 := hq1 k); (have c3 := e3_2 k); (have c8 := e6_2 k); (have c13 := e9_2 k); (have c18 := e11_2 k); (try simp only [zt0, zt1, zt2, zt3, zt4, zt5, zt6] at *) <;> omega)) (Nat.lt_succ_self _)
        · refine zok_ck ((q0).1) ?_
          refine zok_pI (s134 (q0) (by omega) (by omega) (by first | (omega) | ((try simp only [zt0, zt1, zt2, zt3, zt4, zt5, zt6, e3_2, e3_3, e3_4, e6_2, e6_3, e6_4]); omega)) (by first | (omega) | ((try simp only [zt0, zt1, zt2, zt3, zt4, zt5, zt6, e3_2, e3_3, e3_4, e6_2, e6_3, e6_4]); omega)) (f6.g)) (fun y12 u12 p12 => ?_)
          try simp only [zt0, zt1, zt2, zt3, zt4, zt5, zt6, e3_2, e3_3, e3_4, e6_2, e6_3, e6_4] at p12
          simp only [zput_s, zput_n, ti_g, oI_add, oI_sub, oI_mul, zt0, zt1, zt2, zt3, zt4, zt5, zt6, e3_2, e3_3, e3_4, e6_2, e6_3, e6_4, b175_125]
          try simp only [zput_s, zput_n, ti_g, oI_add, oI_sub, oI_mul]
          first | refine zok_ne (by omega) (fun c14 => ?_) (fun c14 => ?_) | refine zok_if (fun c14 => ?_) (fun c14 => ?_)
          · refine zok_ck ((q0).1) ?_
            have gq15_0 : -1 ≤ tg t6 (sr sh r0 3) (7 * x3 + 5).toNat ∧ tg t6 (sr sh r0 3) (7 * x3 + 5).toNat ≤ tg t6 (sr sh r0 4) (7 * x3 + 5).toNat ∧ tg t6 (sr sh r0 4) (7 * x3 + 5).toNat ≤ 400 := by have g := (f6.g).2.1 (7 * x3 + 5).toNat (by omega); exact ⟨g.1, g.2.1, g.2.2.2 (by omega)⟩
            try simp only [zt0, zt1, zt2, zt3, zt4, zt5, zt6, e3_2, e3_3, e3_4, e6_2, e6_3, e6_4] at gq15_0
            refine zok_c0 (s153 (q0) (by omega) (by omega) (by first | (omega) | ((try simp only [zt0, zt1, zt2, zt3, zt4, zt5, zt6, e3_2, e3_3, e3_4, e6_2, e6_3, e6_4]); omega)) (by first | (omega) | ((try simp only [zt0, zt1, zt2, zt3, zt4, zt5, zt6, e3_2, e3_3, e3_4, e6_2, e6_3, e6_4]); omega)) (f6.g)) (fun t15 p15 => ?_)
            obtain ⟨f15, p15⟩ := p15
            have e15_2 : ∀ k, tg t15 (sr sh r0 2) k = tg t6 (sr sh r0 2) k := fun k => f15.eq q0 (i := 2) (by decide) (by decide) k
            have e15_3 : ∀ k, tg t15 (sr sh r0 3) k = tg t6 (sr sh r0 3) k := fun k => f15.eq q0 (i := 3) (by decide) (by decide) k
            have e15_4 : ∀ k, tg t15 (sr sh r0 4) k = tg t6 (sr sh r0 4) k := fun k => f15.eq q0 (i := 4) (by decide) (by decide) k
            try simp only [zt0, zt1, zt2, zt3, zt4, zt5, zt6, e3_2, e3_3, e3_4, e6_2, e6_3, e6_4, e15_2, e15_3, e15_4] at p15
            have hL15_0 := p15.2.1 0 (by decide)
            try simp only [zt0, zt1, zt2, zt3, zt4, zt5, zt6, e3_2, e3_3, e3_4, e6_2, e6_3, e6_4, e15_2, e15_3, e15_4] at hL15_0
            have hL15_1 := p15.2.2.2 0 (by decide)
            try simp only [zt0, zt1, zt2, zt3, zt4, zt5, zt6, e3_2, e3_3, e3_4, e6_2, e6_3, e6_4, e15_2, e15_3, e15_4] at hL15_1
            have hL15_2 := p15.2.1 1 (by decide)
            try simp only [zt0, zt1, zt2, zt3, zt4, zt5, zt6, e3_2, e3_3, e3_4, e6_2, e6_3, e6_4, e15_2, e15_3, e15_4] at hL15_2
            have hL15_3 := p15.2.2.2 1 (by decide)
            try simp only [zt0, zt1, zt2, zt3, zt4, zt5, zt6, e3_2, e3_3, e3_4, e6_2, e6_3, e6_4, e15_2, e15_3, e15_4] at hL15_3
            have hL15_4 := p15.2.1 2 (by decide)
            try simp only [zt0, zt1, zt2, zt3, zt4, zt5, zt6, e3_2, e3_3, e3_4, e6_2, e6_3, e6_4, e15_2, e15_3, e15_4] at hL15_4
            have hL15_5 := p15.2.2.2 2 (by decide)
            try simp only [zt0, zt1, zt2, zt3, zt4, zt5, zt6, e3_2, e3_3, e3_4, e6_2, e6_3, e6_4, e15_2, e15_3, e15_4] at hL15_5
            have hL15_6 := p15.2.1 3 (by decide)
            try simp only [zt0, zt1, zt2, zt3, zt4, zt5, zt6, e3_2, e3_3, e3_4, e6_2, e6_3, e6_4, e15_2, e15_3, e15_4] at hL15_6
            have hL15_7 := p15.2.2.2 3 (by decide)
            try simp only [zt0, zt1, zt2, zt3, zt4, zt5, zt6, e3_2, e3_3, e3_4, e6_2, e6_3, e6_4, e15_2, e15_3, e15_4] at hL15_7
            have hL15_8 := p15.2.1 4 (by decide)
            try simp only [zt0, zt1, zt2, zt3, zt4, zt5, zt6, e3_2, e3_3, e3_4, e6_2, e6_3, e6_4, e15_2, e15_3, e15_4] at hL15_8
            have hL15_9 := p15.2.2.2 4 (by decide)
            try simp only [zt0, zt1, zt2, zt3, zt4, zt5, zt6, e3_2, e3_3, e3_4, e6_2, e6_3, e6_4, e15_2, e15_3, e15_4] at hL15_9
            have hL15_10 := p15.2.1 6 (by decide)
            try simp only [zt0, zt1, zt2, zt3, zt4, zt5, zt6, e3_2, e3_3, e3_4, e6_2, e6_3, e6_4, e15_2, e15_3, e15_4] at hL15_10
            have hL15_11 := p15.2.2.2 6 (by decide)
            try simp only [zt0, zt1, zt2, zt3, zt4, zt5, zt6, e3_2, e3_3, e3_4, e6_2, e6_3, e6_4, e15_2, e15_3, e15_4] at hL15_11
            have zs15_x2 : zSm sh r0 t15 x2 = zSm sh r0 t6 x2 := zSm_eq e15_3 e15_4
            have zs15_x3 : zSm sh r0 t15 x3 = zSm sh r0 t6 x3 := zSm_eq e15_3 e15_4
            simp only [zput_s, zput_n, ti_g, oI_add, oI_sub, oI_mul, zt0, zt1, zt2, zt3, zt4, zt5, zt6, e3_2, e3_3, e3_4, e6_2, e6_3, e6_4, e15_2, e15_3, e15_4, b175_136]
            try simp only [zput_s, zput_n, ti_g, oI_add, oI_sub, oI_mul]
            refine zok_ck ((q0).1) ?_
            have gq17_0 : -1 ≤ tg t15 (sr sh r0 3) (7 * x3 + 6).toNat ∧ tg t15 (sr sh r0 3) (7 * x3 + 6).toNat ≤ tg t15 (sr sh r0 4) (7 * x3 + 6).toNat ∧ tg t15 (sr sh r0 4) (7 * x3 + 6).toNat ≤ 400 := by have g := (f15.g).2.1 (7 * x3 + 6).toNat (by omega); exact ⟨g.1, g.2.1, g.2.2.2 (by omega)⟩
            try simp only [zt0, zt1, zt2, zt3, zt4, zt5, zt6, e3_2, e3_3, e3_4, e6_2, e6_3, e6_4, e15_2, e15_3, e15_4] at gq17_0
            refine zok_c0 (s153 (q0) (by omega) (by omega) (by first | (omega) | ((try simp only [zt0, zt1, zt2, zt3, zt4, zt5, zt6, e3_2, e3_3, e3_4, e6_2, e6_3, e6_4, e15_2, e15_3, e15_4]); omega)) (by first | (omega) | ((try simp only [zt0, zt1, zt2, zt3, zt4, zt5, zt6, e3_2, e3_3, e3_4, e6_2, e6_3, e6_4, e15_2, e15_3, e15_4]); omega)) (f15.g)) (fun t17 p17 => ?_)
            obtain ⟨f17, p17⟩ := p17
            have e17_2 : ∀ k, tg t17 (sr sh r0 2) k = tg t15 (sr sh r0 2) k := fun k => f17.eq q0 (i := 2) (by decide) (by decide) k
            have e17_3 : ∀ k, tg t17 (sr sh r0 3) k = tg t15 (sr sh r0 3) k := fun k => f17.eq q0 (i := 3) (by decide) (by decide) k
            have e17_4 : ∀ k, tg t17 (sr sh r0 4) k = tg t15 (sr sh r0 4) k := fun k => f17.eq q0 (i := 4) (by decide) (by decide) k
            try simp only [zt0, zt1, zt2, zt3, zt4, zt5, zt6, e3_2, e3_3, e3_4, e6_2, e6_3, e6_4, e15_2, e15_3, e15_4, e17_2, e17_3, e17_4] at p17
            have hL17_0 := p17.2.1 0 (by decide)
            try simp only [zt0, zt1, zt2, zt3, zt4, zt5, zt6, e3_2, e3_3, e3_4, e6_2, e6_3, e6_4, e15_2, e15_3, e15_4, e17_2, e17_3, e17_4] at hL17_0
            have hL17_1 := p17.2.2.2 0 (by decide)
            try simp only [zt0, zt1, zt2, zt3, zt4, zt5, zt6, e3_2, e3_3, e3_4, e6_2, e6_3, e6_4, e15_2, e15_3, e15_4, e17_2, e17_3, e17_4] at hL17_1
            have hL17_2 := p17.2.1 1 (by decide)
            try simp only [zt0, zt1, zt2, zt3, zt4, zt5, zt6, e3_2, e3_3, e3_4, e6_2, e6_3, e6_4, e15_2, e15_3, e15_4, e17_2, e17_3, e17_4] at hL17_2
            have hL17_3 := p17.2.2.2 1 (by decide)
            try simp only [zt0, zt1, zt2, zt3, zt4, zt5, zt6, e3_2, e3_3, e3_4, e6_2, e6_3, e6_4, e15_2, e15_3, e15_4, e17_2, e17_3, e17_4] at hL17_3
            have hL17_4 := p17.2.1 2 (by decide)
            try simp only [zt0, zt1, zt2, zt3, zt4, zt5, zt6, e3_2, e3_3, e3_4, e6_2, e6_3, e6_4, e15_2, e15_3, e15_4, e17_2, e17_3, e17_4] at hL17_4
            have hL17_5 := p17.2.2.2 2 (by decide)
            try simp only [zt0, zt1, zt2, zt3, zt4, zt5, zt6, e3_2, e3_3, e3_4, e6_2, e6_3, e6_4, e15_2, e15_3, e15_4, e17_2, e17_3, e17_4] at hL17_5
            have hL17_6 := p17.2.1 3 (by decide)
            try simp only [zt0, zt1, zt2, zt3, zt4, zt5, zt6, e3_2, e3_3, e3_4, e6_2, e6_3, e6_4, e15_2, e15_3, e15_4, e17_2, e17_3, e17_4] at hL17_6
            have hL17_7 := p17.2.2.2 3 (by decide)
            try simp only [zt0, zt1, zt2, zt3, zt4, zt5, zt6, e3_2, e3_3, e3_4, e6_2, e6_3, e6_4, e15_2, e15_3, e15_4, e17_2, e17_3, e17_4] at hL17_7
            have hL17_8 := p17.2.1 4 (by decide)
            try simp only [zt0, zt1, zt2, zt3, zt4, zt5, zt6, e3_2, e3_3, e3_4, e6_2, e6_3, e6_4, e15_2, e15_3, e15_4, e17_2, e17_3, e17_4] at hL17_8
            have hL17_9 := p17.2.2.2 4 (by decide)
            try simp only [zt0, zt1, zt2, zt3, zt4, zt5, zt6, e3_2, e3_3, e3_4, e6_2, e6_3, e6_4, e15_2, e15_3, e15_4, e17_2, e17_3, e17_4] at hL17_9
            have hL17_10 := p17.2.1 5 (by decide)
            try simp only [zt0, zt1, zt2, zt3, zt4, zt5, zt6, e3_2, e3_3, e3_4, e6_2, e6_3, e6_4, e15_2, e15_3, e15_4, e17_2, e17_3, e17_4] at hL17_10
            have hL17_11 := p17.2.2.2 5 (by decide)
            try simp only [zt0, zt1, zt2, zt3, zt4, zt5, zt6, e3_2, e3_3, e3_4, e6_2, e6_3, e6_4, e15_2, e15_3, e15_4, e17_2, e17_3, e17_4] at hL17_11
            have zs17_x2 : zSm sh r0 t17 x2 = zSm sh r0 t15 x2 := zSm_eq e17_3 e17_4
            have zs17_x3 : zSm sh r0 t17 x3 = zSm sh r0 t15 x3 := zSm_eq e17_3 e17_4
            try simp only [zput_s, zput_n, ti_g, oI_add, oI_sub, oI_mul]
            exact l175_143 q0 (by omega) (by omega) (by omega) (by omega) d1 d2 d3 d4 G _ _ _ _ _ ((FrV.trans (Ns := [1, 2, 3, 4, 9, 10, 11, 12, 13]) ((FrV.trans (Ns := [1, 2, 3, 4, 9, 10, 11, 12, 13]) ((FrV.trans (Ns := [1, 2, 3, 4, 9, 10, 11, 12, 13]) ((FrV.trans (Ns := [1, 2, 3, 4, 9, 10, 11, 12, 13]) (f0) f3 (by decide) (by decide))) f6 (by decide) (by decide))) f15 (by decide) (by decide))) f17 (by decide) (by decide))) (by first | omega | ((try simp only [zt0, zt1, zt2, zt3, zt4, zt5, zt6, e3_2, e3_3, e3_4, e6_2, e6_3, e6_4, e15_2, e15_3, e15_4, e17_2, e17_3, e17_4]); omega)) (fun k hk => by ((try have c0 := hq1 k hk); (try have c0 := hq1 k); (have c3 := e3_2 k); (have c8 := e6_2 k); (have c13 := e15_2 k); (have c18 := e17_2 k); (try simp only [zt0, zt1, zt2, zt3, zt4, zt5, zt6] at *) <;> omega)) (Nat.lt_succ_self _)
          · refine zok_ck ((q0).1) ?_
            have gq18_0 : -1 ≤ tg t6 (sr sh r0 3) (7 * x2 + 5).toNat ∧ tg t6 (sr sh r0 3) (7 * x2 + 5).toNat ≤ tg t6 (sr sh r0 4) (7 * x2 + 5).toNat ∧ tg t6 (sr sh r0 4) (7 * x2 + 5).toNat ≤ 400 := by have g := (f6.g).2.1 (7 * x2 + 5).toNat (by omega); exact ⟨g.1, g.2.1, g.2.2.2 (by omega)⟩
            try simp only [zt0, zt1, zt2, zt3, zt4, zt5, zt6, e3_2, e3_3, e3_4, e6_2, e6_3, e6_4] at gq18_0
            refine zok_c0 (s153 (q0) (by omega) (by omega) (by first | (omega) | ((try simp only [zt0, zt1, zt2, zt3, zt4, zt5, zt6, e3_2, e3_3, e3_4, e6_2, e6_3, e6_4]); omega)) (by first | (omega) | ((try simp only [zt0, zt1, zt2, zt3, zt4, zt5, zt6, e3_2, e3_3, e3_4, e6_2, e6_3, e6_4]); omega)) (f6.g)) (fun t18 p18 => ?_)
            obtain ⟨f18, p18⟩ := p18
            have e18_2 : ∀ k, tg t18 (sr sh r0 2) k = tg t6 (sr sh r0 2) k := fun k => f18.eq q0 (i := 2) (by decide) (by decide) k
            have e18_3 : ∀ k, tg t18 (sr sh r0 3) k = tg t6 (sr sh r0 3) k := fun k => f18.eq q0 (i := 3) (by decide) (by decide) k
            have e18_4 : ∀ k, tg t18 (sr sh r0 4) k = tg t6 (sr sh r0 4) k := fun k => f18.eq q0 (i := 4) (by decide) (by decide) k
            try simp only [zt0, zt1, zt2, zt3, zt4, zt5, zt6, e3_2, e3_3, e3_4, e6_2, e6_3, e6_4, e18_2, e18_3, e18_4] at p18
            have hL18_0 := p18.2.1 0 (by decide)
            try simp only [zt0, zt1, zt2, zt3, zt4, zt5, zt6, e3_2, e3_3, e3_4, e6_2, e6_3, e6_4, e18_2, e18_3, e18_4] at hL18_0
            have hL18_1 := p18.2.2.2 0 (by decide)
            try simp only [zt0, zt1, zt2, zt3, zt4, zt5, zt6, e3_2, e3_3, e3_4, e6_2, e6_3, e6_4, e18_2, e18_3, e18_4] at hL18_1
            have hL18_2 := p18.2.1 1 (by decide)
            try simp only [zt0, zt1, zt2, zt3, zt4, zt5, zt6, e3_2, e3_3, e3_4, e6_2, e6_3, e6_4, e18_2, e18_3, e18_4] at hL18_2
            have hL18_3 := p18.2.2.2 1 (by decide)
            try simp only [zt0, zt1, zt2, zt3, zt4, zt5, zt6, e3_2, e3_3, e3_4, e6_2, e6_3, e6_4, e18_2, e18_3, e18_4] at hL18_3
            have hL18_4 := p18.2.1 2 (by decide)
            try simp only [zt0, zt1, zt2, zt3, zt4, zt5, zt6, e3_2, e3_3, e3_4, e6_2, e6_3, e6_4, e18_2, e18_3, e18_4] at hL18_4
            have hL18_5 := p18.2.2.2 2 (by decide)
            try simp only [zt0, zt1, zt2, zt3, zt4, zt5, zt6, e3_2, e3_3, e3_4, e6_2, e6_3, e6_4, e18_2, e18_3, e18_4] at hL18_5
            have hL18_6 := p18.2.1 3 (by decide)
            try simp only [zt0, zt1, zt2, zt3, zt4, zt5, zt6, e3_2, e3_3, e3_4, e6_2, e6_3, e6_4, e18_2, e18_3, e18_4] at hL18_6
            have hL18_7 := p18.2.2.2 3 (by decide)
            try simp only [zt0, zt1, zt2, zt3, zt4, zt5, zt6, e3_2, e3_3, e3_4, e6_2, e6_3, e6_4, e18_2, e18_3, e18_4] at hL18_7
            have hL18_8 := p18.2.1 4 (by decide)
            try simp only [zt0, zt1, zt2, zt3, zt4, zt5, zt6, e3_2, e3_3, e3_4, e6_2, e6_3, e6_4, e18_2, e18_3, e18_4] at hL18_8
            have hL18_9 := p18.2.2.2 4 (by decide)
            try simp only [zt0, zt1, zt2, zt3, zt4, zt5, zt6, e3_2, e3_3, e3_4, e6_2, e6_3, e6_4, e18_2, e18_3, e18_4] at hL18_9
            have hL18_10 := p18.2.1 6 (by decide)
            try simp only [zt0, zt1, zt2, zt3, zt4, zt5, zt6, e3_2, e3_3, e3_4, e6_2, e6_3, e6_4, e18_2, e18_3, e18_4] at hL18_10
            have hL18_11 := p18.2.2.2 6 (by decide)
            try simp only [zt0, zt1, zt2, zt3, zt4, zt5, zt6, e3_2, e3_3, e3_4, e6_2, e6_3, e6_4, e18_2, e18_3, e18_4] at hL18_11
            have zs18_x2 : zSm sh r0 t18 x2 = zSm sh r0 t6 x2 := zSm_eq e18_3 e18_4
            have zs18_x3 : zSm sh r0 t18 x3 = zSm sh r0 t6 x3 := zSm_eq e18_3 e18_4
            simp only [zput_s, zput_n, ti_g, oI_add, oI_sub, oI_mul, zt0, zt1, zt2, zt3, zt4, zt5, zt6, e3_2, e3_3, e3_4, e6_2, e6_3, e6_4, e18_2, e18_3, e18_4, b175_136]
            try simp only [zput_s, zput_n, ti_g, oI_add, oI_sub, oI_mul]
            refine zok_ck ((q0).1) ?_
            have gq20_0 : -1 ≤ tg t18 (sr sh r0 3) (7 * x3 + 6).toNat ∧ tg t18 (sr sh r0 3) (7 * x3 + 6).toNat ≤ tg t18 (sr sh r0 4) (7 * x3 + 6).toNat ∧ tg t18 (sr sh r0 4) (7 * x3 + 6).toNat ≤ 400 := by have g := (f18.g).2.1 (7 * x3 + 6).toNat (by omega); exact ⟨g.1, g.2.1, g.2.2.2 (by omega)⟩
            try simp only [zt0, zt1, zt2, zt3, zt4, zt5, zt6, e3_2, e3_3, e3_4, e6_2, e6_3, e6_4, e18_2, e18_3, e18_4] at gq20_0
            refine zok_c0 (s153 (q0) (by omega) (by omega) (by first | (omega) | ((try simp only [zt0, zt1, zt2, zt3, zt4, zt5, zt6, e3_2, e3_3, e3_4, e6_2, e6_3, e6_4, e18_2, e18_3, e18_4]); omega)) (by first | (omega) | ((try simp only [zt0, zt1, zt2, zt3, zt4, zt5, zt6, e3_2, e3_3, e3_4, e6_2, e6_3, e6_4, e18_2, e18_3, e18_4]); omega)) (f18.g)) (fun t20 p20 => ?_)
            obtain ⟨f20, p20⟩ := p20
            have e20_2 : ∀ k, tg t20 (sr sh r0 2) k = tg t18 (sr sh r0 2) k := fun k => f20.eq q0 (i := 2) (by decide) (by decide) k
            have e20_3 : ∀ k, tg t20 (sr sh r0 3) k = tg t18 (sr sh r0 3) k := fun k => f20.eq q0 (i := 3) (by decide) (by decide) k
            have e20_4 : ∀ k, tg t20 (sr sh r0 4) k = tg t18 (sr sh r0 4) k := fun k => f20.eq q0 (i := 4) (by decide) (by decide) k
            try simp only [zt0, zt1, zt2, zt3, zt4, zt5, zt6, e3_2, e3_3, e3_4, e6_2, e6_3, e6_4, e18_2, e18_3, e18_4, e20_2, e20_3, e20_4] at p20
            have hL20_0 := p20.2.1 0 (by decide)
            try simp only [zt0, zt1, zt2, zt3, zt4, zt5, zt6, e3_2, e3_3, e3_4, e6_2, e6_3, e6_4, e18_2, e18_3, e18_4, e20_2, e20_3, e20_4] at hL20_0
            have hL20_1 := p20.2.2.2 0 (by decide)
            try simp only [zt0, zt1, zt2, zt3, zt4, zt5, zt6, e3_2, e3_3, e3_4, e6_2, e6_3, e6_4, e18_2, e18_3, e18_4, e20_2, e20_3, e20_4] at hL20_1
            have hL20_2 := p20.2.1 1 (by decide)
            try simp only [zt0, zt1, zt2, zt3, zt4, zt5, zt6, e3_2, e3_3, e3_4, e6_2, e6_3, e6_4, e18_2, e18_3, e18_4, e20_2, e20_3, e20_4] at hL20_2
            have hL20_3 := p20.2.2.2 1 (by decide)
            try simp only [zt0, zt1, zt2, zt3, zt4, zt5, zt6, e3_2, e3_3, e3_4, e6_2, e6_3, e6_4, e18_2, e18_3, e18_4, e20_2, e20_3, e20_4] at hL20_3
            have hL20_4 := p20.2.1 2 (by decide)
            try simp only [zt0, zt1, zt2, zt3, zt4, zt5, zt6, e3_2, e3_3, e3_4, e6_2, e6_3, e6_4, e18_2, e18_3, e18_4, e20_2, e20_3, e20_4] at hL20_4
            have hL20_5 := p20.2.2.2 2 (by decide)
            try simp only [zt0, zt1, zt2, zt3, zt4, zt5, zt6, e3_2, e3_3, e3_4, e6_2, e6_3, e6_4, e18_2, e18_3, e18_4, e20_2, e20_3, e20_4] at hL20_5
            have hL20_6 := p20.2.1 3 (by decide)
            try simp only [zt0, zt1, zt2, zt3, zt4, zt5, zt6, e3_2, e3_3, e3_4, e6_2, e6_3, e6_4, e18_2, e18_3, e18_4, e20_2, e20_3, e20_4] at hL20_6
            have hL20_7 := p20.2.2.2 3 (by decide)
            try simp only [zt0, zt1, zt2, zt3, zt4, zt5, zt6, e3_2, e3_3, e3_4, e6_2, e6_3, e6_4, e18_2, e18_3, e18_4, e20_2, e20_3, e20_4] at hL20_7
            have hL20_8 := p20.2.1 4 (by decide)
            try simp only [zt0, zt1, zt2, zt3, zt4, zt5, zt6, e3_2, e3_3, e3_4, e6_2, e6_3, e6_4, e18_2, e18_3, e18_4, e20_2, e20_3, e20_4] at hL20_8
            have hL20_9 := p20.2.2.2 4 (by decide)
            try simp only [zt0, zt1, zt2, zt3, zt4, zt5, zt6, e3_2, e3_3, e3_4, e6_2, e6_3, e6_4, e18_2, e18_3, e18_4, e20_2, e20_3, e20_4] at hL20_9
            have hL20_10 := p20.2.1 5 (by decide)
            try simp only [zt0, zt1, zt2, zt3, zt4, zt5, zt6, e3_2, e3_3, e3_4, e6_2, e6_3, e6_4, e18_2, e18_3, e18_4, e20_2, e20_3, e20_4] at hL20_10
            have hL20_11 := p20.2.2.2 5 (by decide)
            try simp only [zt0, zt1, zt2, zt3, zt4, zt5, zt6, e3_2, e3_3, e3_4, e6_2, e6_3, e6_4, e18_2, e18_3, e18_4, e20_2, e20_3, e20_4] at hL20_11
            have zs20_x2 : zSm sh r0 t20 x2 = zSm sh r0 t18 x2 := zSm_eq e20_3 e20_4
            have zs20_x3 : zSm sh r0 t20 x3 = zSm sh r0 t18 x3 := zSm_eq e20_3 e20_4
            try simp only [zput_s, zput_n, ti_g, oI_add, oI_sub, oI_mul]
            exact l175_143 q0 (by omega) (by omega) (by omega) (by omega) d1 d2 d3 d4 G _ _ _ _ _ ((FrV.trans (Ns := [1, 2, 3, 4, 9, 10, 11, 12, 13]) ((FrV.trans (Ns := [1, 2, 3, 4, 9, 10, 11, 12, 13]) ((FrV.trans (Ns := [1, 2, 3, 4, 9, 10, 11, 12, 13]) ((FrV.trans (Ns := [1, 2, 3, 4, 9, 10, 11, 12, 13]) (f0) f3 (by decide) (by decide))) f6 (by decide) (by decide))) f18 (by decide) (by decide))) f20 (by decide) (by decide))) (by first | omega | ((try simp only [zt0, zt1, zt2, zt3, zt4, zt5, zt6, e3_2, e3_3, e3_4, e6_2, e6_3, e6_4, e18_2, e18_3, e18_4, e20_2, e20_3, e20_4]); omega)) (fun k hk => by ((try have c0 := hq1 k hk); (try have c0 := hq1 k); (have c3 := e3_2 k); (have c8 := e6_2 k); (have c13 := e18_2 k); (have c18 := e20_2 k); (try simp only [zt0, zt1, zt2, zt3, zt4, zt5, zt6] at *) <;> omega)) (Nat.lt_succ_self _)
      · refine zok_ck ((q0).1) ?_
        have gq21_0 : -1 ≤ tg t3 (sr sh r0 3) (7 * x3 + 1).toNat ∧ tg t3 (sr sh r0 3) (7 * x3 + 1).toNat ≤ tg t3 (sr sh r0 4) (7 * x3 + 1).toNat ∧ tg t3 (sr sh r0 4) (7 * x3 + 1).toNat ≤ 400 := by have g := (f3.g).2.1 (7 * x3 + 1).toNat (by omega); exact ⟨g.1, g.2.1, g.2.2.2 (by omega)⟩
        try simp only [zt0, zt1, zt2, zt3, zt4, zt5, zt6, e3_2, e3_3, e3_4] at gq21_0
        have gq21_1 : -1 ≤ tg t3 (sr sh r0 3) (7 * x3 + 2).toNat ∧ tg t3 (sr sh r0 3) (7 * x3 + 2).toNat ≤ tg t3 (sr sh r0 4) (7 * x3 + 2).toNat ∧ tg t3 (sr sh r0 4) (7 * x3 + 2).toNat ≤ 400 := by have g := (f3.g).2.1 (7 * x3 + 2).toNat (by omega); exact ⟨g.1, g.2.1, g.2.2.2 (by omega)⟩
        try simp only [zt0, zt1, zt2, zt3, zt4, zt5, zt6, e3_2, e3_3, e3_4] at gq21_1
        have gq21_2 : -1 ≤ tg t3 (sr sh r0 3) (7 * x3 + 3).toNat ∧ tg t3 (sr sh r0 3) (7 * x3 + 3).toNat ≤ tg t3 (sr sh r0 4) (7 * x3 + 3).toNat ∧ tg t3 (sr sh r0 4) (7 * x3 + 3).toNat ≤ 400 := by have g := (f3.g).2.1 (7 * x3 + 3).toNat (by omega); exact ⟨g.1, g.2.1, g.2.2.2 (by omega)⟩
        try simp only [zt0, zt1, zt2, zt3, zt4, zt5, zt6, e3_2, e3_3, e3_4] at gq21_2
        refine zok_c0 (s154 (q0) (by omega) (by first | (omega) | ((try simp only [zt0, zt1, zt2, zt3, zt4, zt5, zt6, e3_2, e3_3, e3_4]); omega)) (f3.g)) (fun t21 p21 => ?_)
        obtain ⟨f21, p21⟩ := p21
        have e21_2 : ∀ k, tg t21 (sr sh r0 2) k = tg t3 (sr sh r0 2) k := fun k => f21.eq q0 (i := 2) (by decide) (by decide) k
        have e21_3 : ∀ k, tg t21 (sr sh r0 3) k = tg t3 (sr sh r0 3) k := fun k => f21.eq q0 (i := 3) (by decide) (by decide) k
        have e21_4 : ∀ k, tg t21 (sr sh r0 4) k = tg t3 (sr sh r0 4) k := fun k => f21.eq q0 (i := 4) (by decide) (by decide) k
        try simp only [zt0, zt1, zt2, zt3, zt4, zt5, zt6, e3_2, e3_3, e3_4, e21_2, e21_3, e21_4] at p21
        have hL21_0 := p21.2.2.1 0 (by decide)
        try simp only [zt0, zt1, zt2, zt3, zt4, zt5, zt6, e3_2, e3_3, e3_4, e21_2, e21_3, e21_4] at hL21_0
        have hL21_1 := p21.2.2.2 0 (by decide)
        try simp only [zt0, zt1, zt2, zt3, zt4, zt5, zt6, e3_2, e3_3, e3_4, e21_2, e21_3, e21_4] at hL21_1
        have hL21_2 := p21.2.2.1 4 (by decide)
        try simp only [zt0, zt1, zt2, zt3, zt4, zt5, zt6, e3_2, e3_3, e3_4, e21_2, e21_3, e21_4] at hL21_2
        have hL21_3 := p21.2.2.2 4 (by decide)
        try simp only [zt0, zt1, zt2, zt3, zt4, zt5, zt6, e3_2, e3_3, e3_4, e21_2, e21_3, e21_4] at hL21_3
        have hL21_4 := p21.2.2.1 5 (by decide)
        try simp only [zt0, zt1, zt2, zt3, zt4, zt5, zt6, e3_2, e3_3, e3_4, e21_2, e21_3, e21_4] at hL21_4
        have hL21_5 := p21.2.2.2 5 (by decide)
        try simp only [zt0, zt1, zt2, zt3, zt4, zt5, zt6, e3_2, e3_3, e3_4, e21_2, e21_3, e21_4] at hL21_5
        have hL21_6 := p21.2.2.1 6 (by decide)
        try simp only [zt0, zt1, zt2, zt3, zt4, zt5, zt6, e3_2, e3_3, e3_4, e21_2, e21_3, e21_4] at hL21_6
        have hL21_7 := p21.2.2.2 6 (by decide)
        try simp only [zt0, zt1, zt2, zt3, zt4, zt5, zt6, e3_2, e3_3, e3_4, e21_2, e21_3, e21_4] at hL21_7
        have zs21_x2 : zSm sh r0 t21 x2 = zSm sh r0 t3 x2 := zSm_eq e21_3 e21_4
        have zs21_x3 : zSm sh r0 t21 x3 = zSm sh r0 t3 x3 := zSm_eq e21_3 e21_4
        simp only [zput_s, zput_n, ti_g, oI_add, oI_sub, oI_mul, zt0, zt1, zt2, zt3, zt4, zt5, zt6, e3_2, e3_3, e3_4, e21_2, e21_3, e21_4, b175_112]
        try simp only [zput_s, zput_n, ti_g, oI_add, oI_sub, oI_mul]
        first | refine zok_eq (by omega) (fun c23 => ?_) (fun c23 => ?_) | refine zok_if (fun c23 => ?_) (fun c23 => ?_)
        · refine zok_ck ((q0).1) ?_
          have gq24_0 : -1 ≤ tg t21 (sr sh r0 3) (7 * x3 + 5).toNat ∧ tg t21 (sr sh r0 3) (7 * x3 + 5).toNat ≤ tg t21 (sr sh r0 4) (7 * x3 + 5).toNat ∧ tg t21 (sr sh r0 4) (7 * x3 + 5).toNat ≤ 400 := by have g := (f21.g).2.1 (7 * x3 + 5).toNat (by omega); exact ⟨g.1, g.2.1, g.2.2.2 (by omega)⟩
          try simp only [zt0, zt1, zt2, zt3, zt4, zt5, zt6, e3_2, e3_3, e3_4, e21_2, e21_3, e21_4] at gq24_0
          refine zok_c0 (s153 (q0) (by omega) (by omega) (by first | (omega) | ((try simp only [zt0, zt1, zt2, zt3, zt4, zt5, zt6, e3_2, e3_3, e3_4, e21_2, e21_3, e21_4]); omega)) (by first | (omega) | ((try simp only [zt0, zt1, zt2, zt3, zt4, zt5, zt6, e3_2, e3_3, e3_4, e21_2, e21_3, e21_4]); omega)) (f21.g)) (fun t24 p24 => ?_)
          obtain ⟨f24, p24⟩ := p24
          have e24_2 : ∀ k, tg t24 (sr sh r0 2) k = tg t21 (sr sh r0 2) k := fun k => f24.eq q0 (i := 2) (by decide) (by decide) k
          have e24_3 : ∀ k, tg t24 (sr sh r0 3) k = tg t21 (sr sh r0 3) k := fun k => f24.eq q0 (i := 3) (by decide) (by decide) k
          have e24_4 : ∀ k, tg t24 (sr sh r0 4) k = tg t21 (sr sh r0 4) k := fun k => f24.eq q0 (i := 4) (by decide) (by decide) k
          try simp only [zt0, zt1, zt2, zt3, zt4, zt5, zt6, e3_2, e3_3, e3_4, e21_2, e21_3, e21_4, e24_2, e24_3, e24_4] at p24
          have hL24_0 := p24.2.1 0 (by decide)
          try simp only [zt0, zt1, zt2, zt3, zt4, zt5, zt6, e3_2, e3_3, e3_4, e21_2, e21_3, e21_4, e24_2, e24_3, e24_4] at hL24_0
          have hL24_1 := p24.2.2.2 0 (by decide)
          try simp only [zt0, zt1, zt2, zt3, zt4, zt5, zt6, e3_2, e3_3, e3_4, e21_2, e21_3, e21_4, e24_2, e24_3, e24_4] at hL24_1
          have hL24_2 := p24.2.1 1 (by decide)
          try simp only [zt0, zt1, zt2, zt3, zt4, zt5, zt6, e3_2, e3_3, e3_4, e21_2, e21_3, e21_4, e24_2, e24_3, e24_4] at hL24_2
          have hL24_3 := p24.2.2.2 1 (by decide)
          try simp only [zt0, zt1, zt2, zt3, zt4, zt5, zt6, e3_2, e3_3, e3_4, e21_2, e21_3, e21_4, e24_2, e24_3, e24_4] at hL24_3
          have hL24_4 := p24.2.1 2 (by decide)
          try simp only [zt0, zt1, zt2, zt3, zt4, zt5, zt6, e3_2, e3_3, e3_4, e21_2, e21_3, e21_4, e24_2, e24_3, e24_4] at hL24_4
          have hL24_5 := p24.2.2.2 2 (by decide)
          try simp only [zt0, zt1, zt2, zt3, zt4, zt5, zt6, e3_2, e3_3, e3_4, e21_2, e21_3, e21_4, e24_2, e24_3, e24_4] at hL24_5
          have hL24_6 := p24.2.1 3 (by decide)
          try simp only [zt0, zt1, zt2, zt3, zt4, zt5, zt6, e3_2, e3_3, e3_4, e21_2, e21_3, e21_4, e24_2, e24_3, e24_4] at hL24_6
          have hL24_7 := p24.2.2.2 3 (by decide)
          try simp only [zt0, zt1, zt2, zt3, zt4, zt5, zt6, e3_2, e3_3, e3_4, e21_2, e21_3, e21_4, e24_2, e24_3, e24_4] at hL24_7
          have hL24_8 := p24.2.1 4 (by decide)
          try simp only [zt0, zt1, zt2, zt3, zt4, zt5, zt6, e3_2, e3_3, e3_4, e21_2, e21_3, e21_4, e24_2, e24_3, e24_4] at hL24_8
          have hL24_9 := p24.2.2.2 4 (by decide)
          try simp only [zt0, zt1, zt2, zt3, zt4, zt5, zt6, e3_2, e3_3, e3_4, e21_2, e21_3, e21_4, e24_2, e24_3, e24_4] at hL24_9
          have hL24_10 := p24.2.1 6 (by decide)
          try simp only [zt0, zt1, zt2, zt3, zt4, zt5, zt6, e3_2, e3_3, e3_4, e21_2, e21_3, e21_4, e24_2, e24_3, e24_4] at hL24_10
          have hL24_11 := p24.2.2.2 6 (by decide)
          try simp only [zt0, zt1, zt2, zt3, zt4, zt5, zt6, e3_2, e3_3, e3_4, e21_2, e21_3, e21_4, e24_2, e24_3, e24_4] at hL24_11
          have zs24_x2 : zSm sh r0 t24 x2 = zSm sh r0 t21 x2 := zSm_eq e24_3 e24_4
          have zs24_x3 : zSm sh r0 t24 x3 = zSm sh r0 t21 x3 := zSm_eq e24_3 e24_4
          simp only [zput_s, zput_n, ti_g, oI_add, oI_sub, oI_mul, zt0, zt1, zt2, zt3, zt4, zt5, zt6, e3_2, e3_3, e3_4, e21_2, e21_3, e21_4, e24_2, e24_3, e24_4, b175_136]
          try simp only [zput_s, zput_n, ti_g, oI_add, oI_sub, oI_mul]
          refine zok_ck ((q0).1) ?_
          have gq26_0 : -1 ≤ tg t24 (sr sh r0 3) (7 * x3 + 6).toNat ∧ tg t24 (sr sh r0 3) (7 * x3 + 6).toNat ≤ tg t24 (sr sh r0 4) (7 * x3 + 6).toNat ∧ tg t24 (sr sh r0 4) (7 * x3 + 6).toNat ≤ 400 := by have g := (f24.g).2.1 (7 * x3 + 6).toNat (by omega); exact ⟨g.1, g.2.1, g.2.2.2 (by omega)⟩
          try simp only [zt0, zt1, zt2, zt3, zt4, zt5, zt6, e3_2, e3_3, e3_4, e21_2, e21_3, e21_4, e24_2, e24_3, e24_4] at gq26_0
          refine zok_c0 (s153 (q0) (by omega) (by omega) (by first | (omega) | ((try simp only [zt0, zt1, zt2, zt3, zt4, zt5, zt6, e3_2, e3_3, e3_4, e21_2, e21_3, e21_4, e24_2, e24_3, e24_4]); omega)) (by first | (omega) | ((try simp only [zt0, zt1, zt2, zt3, zt4, zt5, zt6, e3_2, e3_3, e3_4, e21_2, e21_3, e21_4, e24_2, e24_3, e24_4]); omega)) (f24.g)) (fun t26 p26 => ?_)
          obtain ⟨f26, p26⟩ := p26
          have e26_2 : ∀ k, tg t26 (sr sh r0 2) k = tg t24 (sr sh r0 2) k := fun k => f26.eq q0 (i := 2) (by decide) (by decide) k
          have e26_3 : ∀ k, tg t26 (sr sh r0 3) k = tg t24 (sr sh r0 3) k := fun k => f26.eq q0 (i := 3) (by decide) (by decide) k
          have e26_4 : ∀ k, tg t26 (sr sh r0 4) k = tg t24 (sr sh r0 4) k := fun k => f26.eq q0 (i := 4) (by decide) (by decide) k
          try simp only [zt0, zt1, zt2, zt3, zt4, zt5, zt6, e3_2, e3_3, e3_4, e21_2, e21_3, e21_4, e24_2, e24_3, e24_4, e26_2, e26_3, e26_4] at p26
          have hL26_0 := p26.2.1 0 (by decide)
          try simp only [zt0, zt1, zt2, zt3, zt4, zt5, zt6, e3_2, e3_3, e3_4, e21_2, e21_3, e21_4, e24_2, e24_3, e24_4, e26_2, e26_3, e26_4] at hL26_0
          have hL26_1 := p26.2.2.2 0 (by decide)
          try simp only [zt0, zt1, zt2, zt3, zt4, zt5, zt6, e3_2, e3_3, e3_4, e21_2, e21_3, e21_4, e24_2, e24_3, e24_4, e26_2, e26_3, e26_4] at hL26_1
          have hL26_2 := p26.2.1 1 (by decide)
          try simp only [zt0, zt1, zt2, zt3, zt4, zt5, zt6, e3_2, e3_3, e3_4, e21_2, e21_3, e21_4, e24_2, e24_3, e24_4, e26_2, e26_3, e26_4] at hL26_2
          have hL26_3 := p26.2.2.2 1 (by decide)
          try simp only [zt0, zt1, zt2, zt3, zt4, zt5, zt6, e3_2, e3_3, e3_4, e21_2, e21_3, e21_4, e24_2, e24_3, e24_4, e26_2, e26_3, e26_4] at hL26_3
          have hL26_4 := p26.2.1 2 (by decide)
          try simp only [zt0, zt1, zt2, zt3, zt4, zt5, zt6, e3_2, e3_3, e3_4, e21_2, e21_3, e21_4, e24_2, e24_3, e24_4, e26_2, e26_3, e26_4] at hL26_4
          have hL26_5 := p26.2.2.2 2 (by decide)
          try simp only [zt0, zt1, zt2, zt3, zt4, zt5, zt6, e3_2, e3_3, e3_4, e21_2, e21_3, e21_4, e24_2, e24_3, e24_4, e26_2, e26_3, e26_4] at hL26_5
          have hL26_6 := p26.2.1 3 (by decide)
          try simp only [zt0, zt1, zt2, zt3, zt4, zt5, zt6, e3_2, e3_3, e3_4, e21_2, e21_3, e21_4, e24_2, e24_3, e24_4, e26_2, e26_3, e26_4] at hL26_6
          have hL26_7 := p26.2.2.2 3 (by decide)
          try simp only [zt0, zt1, zt2, zt3, zt4, zt5, zt6, e3_2, e3_3, e3_4, e21_2, e21_3, e21_4, e24_2, e24_3, e24_4, e26_2, e26_3, e26_4] at hL26_7
          have hL26_8 := p26.2.1 4 (by decide)
          try simp only [zt0, zt1, zt2, zt3, zt4, zt5, zt6, e3_2, e3_3, e3_4, e21_2, e21_3, e21_4, e24_2, e24_3, e24_4, e26_2, e26_3, e26_4] at hL26_8
          have hL26_9 := p26.2.2.2 4 (by decide)
          try simp only [zt0, zt1, zt2, zt3, zt4, zt5, zt6, e3_2, e3_3, e3_4, e21_2, e21_3, e21_4, e24_2, e24_3, e24_4, e26_2, e26_3, e26_4] at hL26_9
          have hL26_10 := p26.2.1 5 (by decide)
          try simp only [zt0, zt1, zt2, zt3, zt4, zt5, zt6, e3_2, e3_3, e3_4, e21_2, e21_3, e21_4, e24_2, e24_3, e24_4, e26_2, e26_3, e26_4] at hL26_10
          have hL26_11 := p26.2.2.2 5 (by decide)
          try simp only [zt0, zt1, zt2, zt3, zt4, zt5, zt6, e3_2, e3_3, e3_4, e21_2, e21_3, e21_4, e24_2, e24_3, e24_4, e26_2, e26_3, e26_4] at hL26_11
          have zs26_x2 : zSm sh r0 t26 x2 = zSm sh r0 t24 x2 := zSm_eq e26_3 e26_4
          have zs26_x3 : zSm sh r0 t26 x3 = zSm sh r0 t24 x3 := zSm_eq e26_3 e26_4
          try simp only [zput_s, zput_n, ti_g, oI_add, oI_sub, oI_mul]
          exact l175_143 q0 (by omega) (by omega) (by omega) (by omega) d1 d2 d3 d4 G _ _ _ _ _ ((FrV.trans (Ns := [1, 2, 3, 4, 9, 10, 11, 12, 13]) ((FrV.trans (Ns := [1, 2, 3, 4, 9, 10, 11, 12, 13]) ((FrV.trans (Ns := [1, 2, 3, 4, 9, 10, 11, 12, 13]) ((FrV.trans (Ns := [1, 2, 3, 4, 9, 10, 11, 12, 13]) (f0) f3 (by decide) (by decide))) f21 (by decide) (by decide))) f24 (by decide) (by decide))) f26 (by decide) (by decide))) (by first | omega | ((try simp only [zt0, zt1, zt2, zt3, zt4, zt5, zt6, e3_2, e3_3, e3_4, e21_2, e21_3, e21_4, e24_2, e24_3, e24_4, e26_2, e26_3, e26_4]); omega)) (fun k hk => by ((try have c0 := hq1 k hk); (try have c0 := hq1 k); (have c3 := e3_2 k); (have c8 := e21_2 k); (have c13 := e24_2 k); (have c18 := e26_2 k); (try simp only [zt0, zt1, zt2, zt3, zt4, zt5, zt6] at *) <;> omega)) (Nat.lt_succ_self _)
        · refine zok_ck ((q0).1) ?_
          refine zok_pI (s134 (q0) (by omega) (by omega) (by first | (omega) | ((try simp only [zt0, zt1, zt2, zt3, zt4, zt5, zt6, e3_2, e3_3, e3_4, e21_2, e21_3, e21_4]); omega)) (by first | (omega) | ((try simp only [zt0, zt1, zt2, zt3, zt4, zt5, zt6, e3_2, e3_3, e3_4, e21_2, e21_3, e21_4]); omega)) (f21.g)) (fun y27 u27 p27 => ?_)
          try simp only [zt0, zt1, zt2, zt3, zt4, zt5, zt6, e3_2, e3_3, e3_4, e21_2, e21_3, e21_4] at p27
          simp only [zput_s, zput_n, ti_g, oI_add, oI_sub, oI_mul, zt0, zt1, zt2, zt3, zt4, zt5, zt6, e3_2, e3_3, e3_4, e21_2, e21_3, e21_4, b175_125]
          try simp only [zput_s, zput_n, ti_g, oI_add, oI_sub, oI_mul]
          first | refine zok_ne (by omega) (fun c29 => ?_) (fun c29 => ?_) | refine zok_if (fun c29 => ?_) (fun c29 => ?_)
          · refine zok_ck ((q0).1) ?_
            have gq30_0 : -1 ≤ tg t21 (sr sh r0 3) (7 * x3 + 5).toNat ∧ tg t21 (sr sh r0 3) (7 * x3 + 5).toNat ≤ tg t21 (sr sh r0 4) (7 * x3 + 5).toNat ∧ tg t21 (sr sh r0 4) (7 * x3 + 5).toNat ≤ 400 := by have g := (f21.g).2.1 (7 * x3 + 5).toNat (by omega); exact ⟨g.1, g.2.1, g.2.2.2 (by omega)⟩
            try simp only [zt0, zt1, zt2, zt3, zt4, zt5, zt6, e3_2, e3_3, e3_4, e21_2, e21_3, e21_4] at gq30_0
            refine zok_c0 (s153 (q0) (by omega) (by omega) (by first | (omega) | ((try simp only [zt0, zt1, zt2, zt3, zt4, zt5, zt6, e3_2, e3_3, e3_4, e21_2, e21_3, e21_4]); omega)) (by first | (omega) | ((try simp only [zt0, zt1, zt2, zt3, zt4, zt5, zt6, e3_2, e3_3, e3_4, e21_2, e21_3, e21_4]); omega)) (f21.g)) (fun t30 p30 => ?_)
            obtain ⟨f30, p30⟩ := p30
            have e30_2 : ∀ k, tg t30 (sr sh r0 2) k = tg t21 (sr sh r0 2) k := fun k => f30.eq q0 (i := 2) (by decide) (by decide) k
            have e30_3 : ∀ k, tg t30 (sr sh r0 3) k = tg t21 (sr sh r0 3) k := fun k => f30.eq q0 (i := 3) (by decide) (by decide) k
            have e30_4 : ∀ k, tg t30 (sr sh r0 4) k = tg t21 (sr sh r0 4) k := fun k => f30.eq q0 (i := 4) (by decide) (by decide) k
            try simp only [zt0, zt1, zt2, zt3, zt4, zt5, zt6, e3_2, e3_3, e3_4, e21_2, e21_3, e21_4, e30_2, e30_3, e30_4] at p30
            have hL30_0 := p30.2.1 0 (by decide)
            try simp only [zt0, zt1, zt2, zt3, zt4, zt5, zt6, e3_2, e3_3, e3_4, e21_2, e21_3, e21_4, e30_2, e30_3, e30_4] at hL30_0
            have hL30_1 := p30.2.2.2 0 (by decide)
            try simp only [zt0, zt1, zt2, zt3, zt4, zt5, zt6, e3_2, e3_3, e3_4, e21_2, e21_3, e21_4, e30_2, e30_3, e30_4] at hL30_1
            have hL30_2 := p30.2.1 1 (by decide)
            try simp only [zt0, zt1, zt2, zt3, zt4, zt5, zt6, e3_2, e3_3, e3_4, e21_2, e21_3, e21_4, e30_2, e30_3, e30_4] at hL30_2
            have hL30_3 := p30.2.2.2 1 (by decide)
            try simp only [zt0, zt1, zt2, zt3, zt4, zt5, zt6, e3_2, e3_3, e3_4, e21_2, e21_3, e21_4, e30_2, e30_3, e30_4] at hL30_3
            have hL30_4 := p30.2.1 2 (by decide)
            try simp only [zt0, zt1, zt2, zt3, zt4, zt5, zt6, e3_2, e3_3, e3_4, e21_2, e21_3, e21_4, e30_2, e30_3, e30_4] at hL30_4
            have hL30_5 := p30.2.2.2 2 (by decide)
            try simp only [zt0, zt1, zt2, zt3, zt4, zt5, zt6, e3_2, e3_3, e3_4, e21_2, e21_3, e21_4, e30_2, e30_3, e30_4] at hL30_5
            have hL30_6 := p30.2.1 3 (by decide)
            try simp only [zt0, zt1, zt2, zt3, zt4, zt5, zt6, e3_2, e3_3, e3_4, e21_2, e21_3, e21_4, e30_2, e30_3, e30_4] at hL30_6
            have hL30_7 := p30.2.2.2 3 (by decide)
            try simp only [zt0, zt1, zt2, zt3, zt4, zt5, zt6, e3_2, e3_3, e3_4, e21_2, e21_3, e21_4, e30_2, e30_3, e30_4] at hL30_7
            have hL30_8 := p30.2.1 4 (by decide)
            try simp only [zt0, zt1, zt2, zt3, zt4, zt5, zt6, e3_2, e3_3, e3_4, e21_2, e21_3, e21_4, e30_2, e30_3, e30_4] at hL30_8
            have hL30_9 := p30.2.2.2 4 (by decide)
            try simp only [zt0, zt1, zt2, zt3, zt4, zt5, zt6, e3_2, e3_3, e3_4, e21_2, e21_3, e21_4, e30_2, e30_3, e30_4] at hL30_9
            have hL30_10 := p30.2.1 6 (by decide)
            try simp only [zt0, zt1, zt2, zt3, zt4, zt5, zt6, e3_2, e3_3, e3_4, e21_2, e21_3, e21_4, e30_2, e30_3, e30_4] at hL30_10
            have hL30_11 := p30.2.2.2 6 (by decide)
            try simp only [zt0, zt1, zt2, zt3, zt4, zt5, zt6, e3_2, e3_3, e3_4, e21_2, e21_3, e21_4, e30_2, e30_3, e30_4] at hL30_11
            have zs30_x2 : zSm sh r0 t30 x2 = zSm sh r0 t21 x2 := zSm_eq e30_3 e30_4
            have zs30_x3 : zSm sh r0 t30 x3 = zSm sh r0 t21 x3 := zSm_eq e30_3 e30_4
            simp only [zput_s, zput_n, ti_g, oI_add, oI_sub, oI_mul, zt0, zt1, zt2, zt3, zt4, zt5, zt6, e3_2, e3_3, e3_4, e21_2, e21_3, e21_4, e30_2, e30_3, e30_4, b175_136]
            try simp only [zput_s, zput_n, ti_g, oI_add, oI_sub, oI_mul]
            refine zok_ck ((q0).1) ?_
            have gq32_0 : -1 ≤ tg t30 (sr sh r0 3) (7 * x3 + 6).toNat ∧ tg t30 (sr sh r0 3) (7 * x3 + 6).toNat ≤ tg t30 (sr sh r0 4) (7 * x3 + 6).toNat ∧ tg t30 (sr sh r0 4) (7 * x3 + 6).toNat ≤ 400 := by have g := (f30.g).2.1 (7 * x3 + 6).toNat (by omega); exact ⟨g.1, g.2.1, g.2.2.2 (by omega)⟩
            try simp only [zt0, zt1, zt2, zt3, zt4, zt5, zt6, e3_2, e3_3, e3_4, e21_2, e21_3, e21_4, e30_2, e30_3, e30_4] at gq32_0
            refine zok_c0 (s153 (q0) (by omega) (by omega) (by first | (omega) | ((try simp only [zt0, zt1, zt2, zt3, zt4, zt5, zt6, e3_2, e3_3, e3_4, e21_2, e21_3, e21_4, e30_2, e30_3, e30_4]); omega)) (by first | (omega) | ((try simp only [zt0, zt1, zt2, zt3, zt4, zt5, zt6, e3_2, e3_3, e3_4, e21_2, e21_3, e21_4, e30_2, e30_3, e30_4]); omega)) (f30.g)) (fun t32 p32 => ?_)
            obtain ⟨f32, p32⟩ := p32
            have e32_2 : ∀ k, tg t32 (sr sh r0 2) k = tg t30 (sr sh r0 2) k := fun k => f32.eq q0 (i := 2) (by decide) (by decide) k
            have e32_3 : ∀ k, tg t32 (sr sh r0 3) k = tg t30 (sr sh r0 3) k := fun k => f32.eq q0 (i := 3) (by decide) (by decide) k
            have e32_4 : ∀ k, tg t32 (sr sh r0 4) k = tg t30 (sr sh r0 4) k := fun k => f32.eq q0 (i := 4) (by decide) (by decide) k
            try simp only [zt0, zt1, zt2, zt3, zt4, zt5, zt6, e3_2, e3_3, e3_4, e21_2, e21_3, e21_4, e30_2, e30_3, e30_4, e32_2, e32_3, e32_4] at p32
            have hL32_0 := p32.2.1 0 (by decide)
            try simp only [zt0, zt1, zt2, zt3, zt4, zt5, zt6, e3_2, e3_3, e3_4, e21_2, e21_3, e21_4, e30_2, e30_3, e30_4, e32_2, e32_3, e32_4] at hL32_0
            have hL32_1 := p32.2.2.2 0 (by decide)
            try simp only [zt0, zt1, zt2, zt3, zt4, zt5, zt6, e3_2, e3_3, e3_4, e21_2, e21_3, e21_4, e30_2, e30_3, e30_4, e32_2, e32_3, e32_4] at hL32_1
            have hL32_2 := p32.2.1 1 (by decide)
            try simp only [zt0, zt1, zt2, zt3, zt4, zt5, zt6, e3_2, e3_3, e3_4, e21_2, e21_3, e21_4, e30_2, e30_3, e30_4, e32_2, e32_3, e32_4] at hL32_2
            have hL32_3 := p32.2.2.2 1 (by decide)
            try simp only [zt0, zt1, zt2, zt3, zt4, zt5, zt6, e3_2, e3_3, e3_4, e21_2, e21_3, e21_4, e30_2, e30_3, e30_4, e32_2, e32_3, e32_4] at hL32_3
            have hL32_4 := p32.2.1 2 (by decide)
            try simp only [zt0, zt1, zt2, zt3, zt4, zt5, zt6, e3_2, e3_3, e3_4, e21_2, e21_3, e21_4, e30_2, e30_3, e30_4, e32_2, e32_3, e32_4] at hL32_4
            have hL32_5 := p32.2.2.2 2 (by decide)
            try simp only [zt0, zt1, zt2, zt3, zt4, zt5, zt6, e3_2, e3_3, e3_4, e21_2, e21_3, e21_4, e30_2, e30_3, e30_4, e32_2, e32_3, e32_4] at hL32_5
            have hL32_6 := p32.2.1 3 (by decide)
            try simp only [zt0, zt1, zt2, zt3, zt4, zt5, zt6, e3_2, e3_3, e3_4, e21_2, e21_3, e21_4, e30_2, e30_3, e30_4, e32_2, e32_3, e32_4] at hL32_6
            have hL32_7 := p32.2.2.2 3 (by decide)
            try simp only [zt0, zt1, zt2, zt3, zt4, zt5, zt6, e3_2, e3_3, e3_4, e21_2, e21_3, e21_4, e30_2, e30_3, e30_4, e32_2, e32_3, e32_4] at hL32_7
            have hL32_8 := p32.2.1 4 (by decide)
            try simp only [zt0, zt1, zt2, zt3, zt4, zt5, zt6, e3_2, e3_3, e3_4, e21_2, e21_3, e21_4, e30_2, e30_3, e30_4, e32_2, e32_3, e32_4] at hL32_8
            have hL32_9 := p32.2.2.2 4 (by decide)
            try simp only [zt0, zt1, zt2, zt3, zt4, zt5, zt6, e3_2, e3_3, e3_4, e21_2, e21_3, e21_4, e30_2, e30_3, e30_4, e32_2, e32_3, e32_4] at hL32_9
            have hL32_10 := p32.2.1 5 (by decide)
            try simp only [zt0, zt1, zt2, zt3, zt4, zt5, zt6, e3_2, e3_3, e3_4, e21_2, e21_3, e21_4, e30_2, e30_3, e30_4, e32_2, e32_3, e32_4] at hL32_10
            have hL32_11 := p32.2.2.2 5 (by decide)
            try simp only [zt0, zt1, zt2, zt3, zt4, zt5, zt6, e3_2, e3_3, e3_4, e21_2, e21_3, e21_4, e30_2, e30_3, e30_4, e32_2, e32_3, e32_4] at hL32_11
            have zs32_x2 : zSm sh r0 t32 x2 = zSm sh r0 t30 x2 := zSm_eq e32_3 e32_4
            have zs32_x3 : zSm sh r0 t32 x3 = zSm sh r0 t30 x3 := zSm_eq e32_3 e32_4
            try simp only [zput_s, zput_n, ti_g, oI_add, oI_sub, oI_mul]
            exact l175_143 q0 (by omega) (by omega) (by omega) (by omega) d1 d2 d3 d4 G _ _ _ _ _ ((FrV.trans (Ns := [1, 2, 3, 4, 9, 10, 11, 12, 13]) ((FrV.trans (Ns := [1, 2, 3, 4, 9, 10, 11, 12, 13]) ((FrV.trans (Ns := [1, 2, 3, 4, 9, 10, 11, 12, 13]) ((FrV.trans (Ns := [1, 2, 3, 4, 9, 10, 11, 12, 13]) (f0) f3 (by decide) (by decide))) f21 (by decide) (by decide))) f30 (by decide) (by decide))) f32 (by decide) (by decide))) (by first | omega | ((try simp only [zt0, zt1, zt2, zt3, zt4, zt5, zt6, e3_2, e3_3, e3_4, e21_2, e21_3, e21_4, e30_2, e30_3, e30_4, e32_2, e32_3, e32_4]); omega)) (fun k hk => by ((try have c0 := hq1 k hk); (try have c0 := hq1 k); (have c3 := e3_2 k); (have c8 := e21_2 k); (have c13 := e30_2 k); (have c18 := e32_2 k); (try simp only [zt0, zt1, zt2, zt3, zt4, zt5, zt6] at *) <;> omega)) (Nat.lt_succ_self _)
          · refine zok_ck ((q0).1) ?_
            have gq33_0 : -1 ≤ tg t21 (sr sh r0 3) (7 * x2 + 5).toNat ∧ tg t21 (sr sh r0 3) (7 * x2 + 5).toNat ≤ tg t21 (sr sh r0 4) (7 * x2 + 5).toNat ∧ tg t21 (sr sh r0 4) (7 * x2 + 5).toNat ≤ 400 := by have g := (f21.g).2.1 (7 * x2 + 5).toNat (by omega); exact ⟨g.1, g.2.1, g.2.2.2 (by omega)⟩
            try simp only [zt0, zt1, zt2, zt3, zt4, zt5, zt6, e3_2, e3_3, e3_4, e21_2, e21_3, e21_4] at gq33_0
            refine zok_c0 (s153 (q0) (by omega) (by omega) (by first | (omega) | ((try simp only [zt0, zt1, zt2, zt3, zt4, zt5, zt6, e3_2, e3_3, e3_4, e21_2, e21_3, e21_4]); omega)) (by first | (omega) | ((try simp only [zt0, zt1, zt2, zt3, zt4, zt5, zt6, e3_2, e3_3, e3_4, e21_2, e21_3, e21_4]); omega)) (f21.g)) (fun t33 p33 => ?_)
            obtain ⟨f33, p33⟩ := p33
            have e33_2 : ∀ k, tg t33 (sr sh r0 2) k = tg t21 (sr sh r0 2) k := fun k => f33.eq q0 (i := 2) (by decide) (by decide) k
            have e33_3 : ∀ k, tg t33 (sr sh r0 3) k = tg t21 (sr sh r0 3) k := fun k => f33.eq q0 (i := 3) (by decide) (by decide) k
            have e33_4 : ∀ k, tg t33 (sr sh r0 4) k = tg t21 (sr sh r0 4) k := fun k => f33.eq q0 (i := 4) (by decide) (by decide) k
            try simp only [zt0, zt1, zt2, zt3, zt4, zt5, zt6, e3_2, e3_3, e3_4, e21_2, e21_3, e21_4, e33_2, e33_3, e33_4] at p33
            have hL33_0 := p33.2.1 0 (by decide)
            try simp only [zt0, zt1, zt2, zt3, zt4, zt5, zt6, e3_2, e3_3, e3_4, e21_2, e21_3, e21_4, e33_2, e33_3, e33_4] at hL33_0
            have hL33_1 := p33.2.2.2 0 (by decide)
            try simp only [zt0, zt1, zt2, zt3, zt4, zt5, zt6, e3_2, e3_3, e3_4, e21_2, e21_3, e21_4, e33_2, e33_3, e33_4] at hL33_1
            have hL33_2 := p33.2.1 1 (by decide)
            try simp only [zt0, zt1, zt2, zt3, zt4, zt5, zt6, e3_2, e3_3, e3_4, e21_2, e21_3, e21_4, e33_2, e33_3, e33_4] at hL33_2
            have hL33_3 := p33.2.2.2 1 (by decide)
            try simp only [zt0, zt1, zt2, zt3, zt4, zt5, zt6, e3_2, e3_3, e3_4, e21_2, e21_3, e21_4, e33_2, e33_3, e33_4] at hL33_3
            have hL33_4 := p33.2.1 2 (by decide)
            try simp only [zt0, zt1, zt2, zt3, zt4, zt5, zt6, e3_2, e3_3, e3_4, e21_2, e21_3, e21_4, e33_2, e33_3, e33_4] at hL33_4
            have hL33_5 := p33.2.2.2 2 (by decide)
            try simp only [zt0, zt1, zt2, zt3, zt4, zt5, zt6, e3_2, e3_3, e3_4, e21_2, e21_3, e21_4, e33_2, e33_3, e33_4] at hL33_5
            have hL33_6 := p33.2.1 3 (by decide)
            try simp only [zt0, zt1, zt2, zt3, zt4, zt5, zt6, e3_2, e3_3, e3_4, e21_2, e21_3, e21_4, e33_2, e33_3, e33_4] at hL33_6
            have hL33_7 := p33.2.2.2 3 (by decide)
            try simp only [zt0, zt1, zt2, zt3, zt4, zt5, zt6, e3_2, e3_3, e3_4, e21_2, e21_3, e21_4, e33_2, e33_3, e33_4] at hL33_7
            have hL33_8 := p33.2.1 4 (by decide)
            try simp only [zt0, zt1, zt2, zt3, zt4, zt5, zt6, e3_2, e3_3, e3_4, e21_2, e21_3, e21_4, e33_2, e33_3, e33_4] at hL33_8
            have hL33_9 := p33.2.2.2 4 (by decide)
            try simp only [zt0, zt1, zt2, zt3, zt4, zt5, zt6, e3_2, e3_3, e3_4, e21_2, e21_3, e21_4, e33_2, e33_3, e33_4] at hL33_9
            have hL33_10 := p33.2.1 6 (by decide)
            try simp only [zt0, zt1, zt2, zt3, zt4, zt5, zt6, e3_2, e3_3, e3_4, e21_2, e21_3, e21_4, e33_2, e33_3, e33_4] at hL33_10
            have hL33_11 := p33.2.2.2 6 (by decide)
            try simp only [zt0, zt1, zt2, zt3, zt4, zt5, zt6, e3_2, e3_3, e3_4, e21_2, e21_3, e21_4, e33_2, e33_3, e33_4] at hL33_11
            have zs33_x2 : zSm sh r0 t33 x2 = zSm sh r0 t21 x2 := zSm_eq e33_3 e33_4
            have zs33_x3 : zSm sh r0 t33 x3 = zSm sh r0 t21 x3 := zSm_eq e33_3 e33_4
            simp only [zput_s, zput_n, ti_g, oI_add, oI_sub, oI_mul, zt0, zt1, zt2, zt3, zt4, zt5, zt6, e3_2, e3_3, e3_4, e21_2, e21_3, e21_4, e33_2, e33_3, e33_4, b175_136]
            try simp only [zput_s, zput_n, ti_g, oI_add, oI_sub, oI_mul]
            refine zok_ck ((q0).1) ?_
            have gq35_0 : -1 ≤ tg t33 (sr sh r0 3) (7 * x3 + 6).toNat ∧ tg t33 (sr sh r0 3) (7 * x3 + 6).toNat ≤ tg t33 (sr sh r0 4) (7 * x3 + 6).toNat ∧ tg t33 (sr sh r0 4) (7 * x3 + 6).toNat ≤ 400 := by have g := (f33.g).2.1 (7 * x3 + 6).toNat (by omega); exact ⟨g.1, g.2.1, g.2.2.2 (by omega)⟩
            try simp only [zt0, zt1, zt2, zt3, zt4, zt5, zt6, e3_2, e3_3, e3_4, e21_2, e21_3, e21_4, e33_2, e33_3, e33_4] at gq35_0
            refine zok_c0 (s153 (q0) (by omega) (by omega) (by first | (omega) | ((try simp only [zt0, zt1, zt2, zt3, zt4, zt5, zt6, e3_2, e3_3, e3_4, e21_2, e21_3, e21_4, e33_2, e33_3, e33_4]); omega)) (by first | (omega) | ((try simp only [zt0, zt1, zt2, zt3, zt4, zt5, zt6, e3_2, e3_3, e3_4, e21_2, e21_3, e21_4, e33_2, e33_3, e33_4]); omega)) (f33.g)) (fun t35 p35 => ?_)
            obtain ⟨f35, p35⟩ := p35
            have e35_2 : ∀ k, tg t35 (sr sh r0 2) k = tg t33 (sr sh r0 2) k := fun k => f35.eq q0 (i := 2) (by decide) (by decide) k
            have e35_3 : ∀ k, tg t35 (sr sh r0 3) k = tg t33 (sr sh r0 3) k := fun k => f35.eq q0 (i := 3) (by decide) (by decide) k
            have e35_4 : ∀ k, tg t35 (sr sh r0 4) k = tg t33 (sr sh r0 4) k := fun k => f35.eq q0 (i := 4) (by decide) (by decide) k
            try simp only [zt0, zt1, zt2, zt3, zt4, zt5, zt6, e3_2, e3_3, e3_4, e21_2, e21_3, e21_4, e33_2, e33_3, e33_4, e35_2, e35_3, e35_4] at p35
            have hL35_0 := p35.2.1 0 (by decide)
            try simp only [zt0, zt1, zt2, zt3, zt4, zt5, zt6, e3_2, e3_3, e3_4, e21_2, e21_3, e21_4, e33_2, e33_3, e33_4, e35_2, e35_3, e35_4] at hL35_0
            have hL35_1 := p35.2.2.2 0 (by decide)
            try simp only [zt0, zt1, zt2, zt3, zt4, zt5, zt6, e3_2, e3_3, e3_4, e21_2, e21_3, e21_4, e33_2, e33_3, e33_4, e35_2, e35_3, e35_4] at hL35_1
            have hL35_2 := p35.2.1 1 (by decide)
            try simp only [zt0, zt1, zt2, zt3, zt4, zt5, zt6, e3_2, e3_3, e3_4, e21_2, e21_3, e21_4, e33_2, e33_3, e33_4, e35_2, e35_3, e35_4] at hL35_2
            have hL35_3 := p35.2.2.2 1 (by decide)
            try simp only [zt0, zt1, zt2, zt3, zt4, zt5, zt6, e3_2, e3_3, e3_4, e21_2, e21_3, e21_4, e33_2, e33_3, e33_4, e35_2, e35_3, e35_4] at hL35_3
            have hL35_4 := p35.2.1 2 (by decide)
            try simp only [zt0, zt1, zt2, zt3, zt4, zt5, zt6, e3_2, e3_3, e3_4, e21_2, e21_3, e21_4, e33_2, e33_3, e33_4, e35_2, e35_3, e35_4] at hL35_4
            have hL35_5 := p35.2.2.2 2 (by decide)
            try simp only [zt0, zt1, zt2, zt3, zt4, zt5, zt6, e3_2, e3_3, e3_4, e21_2, e21_3, e21_4, e33_2, e33_3, e33_4, e35_2, e35_3, e35_4] at hL35_5
            have hL35_6 := p35.2.1 3 (by decide)
            try simp only [zt0, zt1, zt2, zt3, zt4, zt5, zt6, e3_2, e3_3, e3_4, e21_2, e21_3, e21_4, e33_2, e33_3, e33_4, e35_2, e35_3, e35_4] at hL35_6
            have hL35_7 := p35.2.2.2 3 (by decide)
            try simp only [zt0, zt1, zt2, zt3, zt4, zt5, zt6, e3_2, e3_3, e3_4, e21_2, e21_3, e21_4, e33_2, e33_3, e33_4, e35_2, e35_3, e35_4] at hL35_7
            have hL35_8 := p35.2.1 4 (by decide)
            try simp only [zt0, zt1, zt2, zt3, zt4, zt5, zt6, e3_2, e3_3, e3_4, e21_2, e21_3, e21_4, e33_2, e33_3, e33_4, e35_2, e35_3, e35_4] at hL35_8
            have hL35_9 := p35.2.2.2 4 (by decide)
            try simp only [zt0, zt1, zt2, zt3, zt4, zt5, zt6, e3_2, e3_3, e3_4, e21_2, e21_3, e21_4, e33_2, e33_3, e33_4, e35_2, e35_3, e35_4] at hL35_9
            have hL35_10 := p35.2.1 5 (by decide)
            try simp only [zt0, zt1, zt2, zt3, zt4, zt5, zt6, e3_2, e3_3, e3_4, e21_2, e21_3, e21_4, e33_2, e33_3, e33_4, e35_2, e35_3, e35_4] at hL35_10
            have hL35_11 := p35.2.2.2 5 (by decide)
            try simp only [zt0, zt1, zt2, zt3, zt4, zt5, zt6, e3_2, e3_3, e3_4, e21_2, e21_3, e21_4, e33_2, e33_3, e33_4, e35_2, e35_3, e35_4] at hL35_11
            have zs35_x2 : zSm sh r0 t35 x2 = zSm sh r0 t33 x2 := zSm_eq e35_3 e35_4
            have zs35_x3 : zSm sh r0 t35 x3 = zSm sh r0 t33 x3 := zSm_eq e35_3 e35_4
            try simp only [zput_s, zput_n, ti_g, oI_add, oI_sub, oI_mul]
            exact l175_143 q0 (by omega) (by omega) (by omega) (by omega) d1 d2 d3 d4 G _ _ _ _ _ ((FrV.trans (Ns := [1, 2, 3, 4, 9, 10, 11, 12, 13]) ((FrV.trans (Ns := [1, 2, 3, 4, 9, 10, 11, 12, 13]) ((FrV.trans (Ns := [1, 2, 3, 4, 9, 10, 11, 12, 13]) ((FrV.trans (Ns := [1, 2, 3, 4, 9, 10, 11, 12, 13]) (f0) f3 (by decide) (by decide))) f21 (by decide) (by decide))) f33 (by decide) (by decide))) f35 (by decide) (by decide))) (by first | omega | ((try simp only [zt0, zt1, zt2, zt3, zt4, zt5, zt6, e3_2, e3_3, e3_4, e21_2, e21_3, e21_4, e33_2, e33_3, e33_4, e35_2, e35_3, e35_4]); omega)) (fun k hk => by ((try have c0 := hq1 k hk); (try have c0 := hq1 k); (have c3 := e3_2 k); (have c8 := e21_2 k); (have c13 := e33_2 k); (have c18 := e35_2 k); (try simp only [zt0, zt1, zt2, zt3, zt4, zt5, zt6] at *) <;> omega)) (Nat.lt_succ_self _)
    · refine zok_ck ((q0).1) ?_
      have gq36_0 : -1 ≤ tg t1 (sr sh r0 3) (7 * x3 + 0).toNat ∧ tg t1 (sr sh r0 3) (7 * x3 + 0).toNat ≤ tg t1 (sr sh r0 4) (7 * x3 + 0).toNat ∧ tg t1 (sr sh r0 4) (7 * x3 + 0).toNat ≤ 400 := by have g := (f0.g).2.1 (7 * x3 + 0).toNat (by omega); exact ⟨g.1, g.2.1, g.2.2.2 (by omega)⟩
      try simp only [zt0, zt1, zt2, zt3, zt4, zt5, zt6] at gq36_0
      refine zok_c0 (s153 (q0) (by omega) (by omega) (by first | (omega) | ((try simp only [zt0, zt1, zt2, zt3, zt4, zt5, zt6]); omega)) (by first | (omega) | ((try simp only [zt0, zt1, zt2, zt3, zt4, zt5, zt6]); omega)) (f0.g)) (fun t36 p36 => ?_)
      obtain ⟨f36, p36⟩ := p36
      have e36_2 : ∀ k, tg t36 (sr sh r0 2) k = tg t1 (sr sh r0 2) k := fun k => f36.eq q0 (i := 2) (by decide) (by decide) k
      have e36_3 : ∀ k, tg t36 (sr sh r0 3) k = tg t1 (sr sh r0 3) k := fun k => f36.eq q0 (i := 3) (by decide) (by decide) k
      have e36_4 : ∀ k, tg t36 (sr sh r0 4) k = tg t1 (sr sh r0 4) k := fun k => f36.eq q0 (i := 4) (by decide) (by decide) k
      try simp only [zt0, zt1, zt2, zt3, zt4, zt5, zt6, e36_2, e36_3, e36_4] at p36
      have hL36_0 := p36.2.1 1 (by decide)
      try simp only [zt0, zt1, zt2, zt3, zt4, zt5, zt6, e36_2, e36_3, e36_4] at hL36_0
      have hL36_1 := p36.2.2.2 1 (by decide)
      try simp only [zt0, zt1, zt2, zt3, zt4, zt5, zt6, e36_2, e36_3, e36_4] at hL36_1
      have hL36_2 := p36.2.1 2 (by decide)
      try simp only [zt0, zt1, zt2, zt3, zt4, zt5, zt6, e36_2, e36_3, e36_4] at hL36_2
      have hL36_3 := p36.2.2.2 2 (by decide)
      try simp only [zt0, zt1, zt2, zt3, zt4, zt5, zt6, e36_2, e36_3, e36_4] at hL36_3
      have hL36_4 := p36.2.1 3 (by decide)
      try simp only [zt0, zt1, zt2, zt3, zt4, zt5, zt6, e36_2, e36_3, e36_4] at hL36_4
      have hL36_5 := p36.2.2.2 3 (by decide)
      try simp only [zt0, zt1, zt2, zt3, zt4, zt5, zt6, e36_2, e36_3, e36_4] at hL36_5
      have hL36_6 := p36.2.1 4 (by decide)
      try simp only [zt0, zt1, zt2, zt3, zt4, zt5, zt6, e36_2, e36_3, e36_4] at hL36_6
      have hL36_7 := p36.2.2.2 4 (by decide)
      try simp only [zt0, zt1, zt2, zt3, zt4, zt5, zt6, e36_2, e36_3, e36_4] at hL36_7
      have hL36_8 := p36.2.1 5 (by decide)
      try simp only [zt0, zt1, zt2, zt3, zt4, zt5, zt6, e36_2, e36_3, e36_4] at hL36_8
      have hL36_9 := p36.2.2.2 5 (by decide)
      try simp only [zt0, zt1, zt2, zt3, zt4, zt5, zt6, e36_2, e36_3, e36_4] at hL36_9
      have hL36_10 := p36.2.1 6 (by decide)
      try simp only [zt0, zt1, zt2, zt3, zt4, zt5, zt6, e36_2, e36_3, e36_4] at hL36_10
      have hL36_11 := p36.2.2.2 6 (by decide)
      try simp only [zt0, zt1, zt2, zt3, zt4, zt5, zt6, e36_2, e36_3, e36_4] at hL36_11
      have zs36_x2 : zSm sh r0 t36 x2 = zSm sh r0 t1 x2 := zSm_eq e36_3 e36_4
      have zs36_x3 : zSm sh r0 t36 x3 = zSm sh r0 t1 x3 := zSm_eq e36_3 e36_4
      simp only [zput_s, zput_n, ti_g, oI_add, oI_sub, oI_mul, zt0, zt1, zt2, zt3, zt4, zt5, zt6, e36_2, e36_3, e36_4, b175_98]
      try simp only [zput_s, zput_n, ti_g, oI_add, oI_sub, oI_mul]
      first | refine zok_eq (by omega) (fun c38 => ?_) (fun c38 => ?_) | refine zok_if (fun c38 => ?_) (fun c38 => ?_)
      · refine zok_ck ((q0).1) ?_
        have gq39_0 : -1 ≤ tg t36 (sr sh r0 3) (7 * x2 + 1).toNat ∧ tg t36 (sr sh r0 3) (7 * x2 + 1).toNat ≤ tg t36 (sr sh r0 4) (7 * x2 + 1).toNat ∧ tg t36 (sr sh r0 4) (7 * x2 + 1).toNat ≤ 400 := by have g := (f36.g).2.1 (7 * x2 + 1).toNat (by omega); exact ⟨g.1, g.2.1, g.2.2.2 (by omega)⟩
        try simp only [zt0, zt1, zt2, zt3, zt4, zt5, zt6, e36_2, e36_3, e36_4] at gq39_0
        have gq39_1 : -1 ≤ tg t36 (sr sh r0 3) (7 * x2 + 2).toNat ∧ tg t36 (sr sh r0 3) (7 * x2 + 2).toNat ≤ tg t36 (sr sh r0 4) (7 * x2 + 2).toNat ∧ tg t36 (sr sh r0 4) (7 * x2 + 2).toNat ≤ 400 := by have g := (f36.g).2.1 (7 * x2 + 2).toNat (by omega); exact ⟨g.1, g.2.1, g.2.2.2 (by omega)⟩
        try simp only [zt0, zt1, zt2, zt3, zt4, zt5, zt6, e36_2, e36_3, e36_4] at gq39_1
        have gq39_2 : -1 ≤ tg t36 (sr sh r0 3) (7 * x2 + 3).toNat ∧ tg t36 (sr sh r0 3) (7 * x2 + 3).toNat ≤ tg t36 (sr sh r0 4) (7 * x2 + 3).toNat ∧ tg t36 (sr sh r0 4) (7 * x2 + 3).toNat ≤ 400 := by have g := (f36.g).2.1 (7 * x2 + 3).toNat (by omega); exact ⟨g.1, g.2.1, g.2.2.2 (by omega)⟩
        try simp only [zt0, zt1, zt2, zt3, zt4, zt5, zt6, e36_2, e36_3, e36_4] at gq39_2
        refine zok_c0 (s154 (q0) (by omega) (by first | (omega) | ((try simp only [zt0, zt1, zt2, zt3, zt4, zt5, zt6, e36_2, e36_3, e36_4]); omega)) (f36.g)) (fun t39 p39 => ?_)
        obtain ⟨f39, p39⟩ := p39
        have e39_2 : ∀ k, tg t39 (sr sh r0 2) k = tg t36 (sr sh r0 2) k := fun k => f39.eq q0 (i := 2) (by decide) (by decide) k
        have e39_3 : ∀ k, tg t39 (sr sh r0 3) k = tg t36 (sr sh r0 3) k := fun k => f39.eq q0 (i := 3) (by decide) (by decide) k
        have e39_4 : ∀ k, tg t39 (sr sh r0 4) k = tg t36 (sr sh r0 4) k := fun k => f39.eq q0 (i := 4) (by decide) (by decide) k
        try simp only [zt0, zt1, zt2, zt3, zt4, zt5, zt6, e36_2, e36_3, e36_4, e39_2, e39_3, e39_4] at p39
        have hL39_0 := p39.2.2.1 0 (by decide)
        try simp only [zt0, zt1, zt2, zt3, zt4, zt5, zt6, e36_2, e36_3, e36_4, e39_2, e39_3, e39_4] at hL39_0
        have hL39_1 := p39.2.2.2 0 (by decide)
        try simp only [zt0, zt1, zt2, zt3, zt4, zt5, zt6, e36_2, e36_3, e36_4, e39_2, e39_3, e39_4] at hL39_1
        have hL39_2 := p39.2.2.1 4 (by decide)
        try simp only [zt0, zt1, zt2, zt3, zt4, zt5, zt6, e36_2, e36_3, e36_4, e39_2, e39_3, e39_4] at hL39_2
        have hL39_3 := p39.2.2.2 4 (by decide)
        try simp only [zt0, zt1, zt2, zt3, zt4, zt5, zt6, e36_2, e36_3, e36_4, e39_2, e39_3, e39_4] at hL39_3
        have hL39_4 := p39.2.2.1 5 (by decide)
        try simp only [zt0, zt1, zt2, zt3, zt4, zt5, zt6, e36_2, e36_3, e36_4, e39_2, e39_3, e39_4] at hL39_4
        have hL39_5 := p39.2.2.2 5 (by decide)
        try simp only [zt0, zt1, zt2, zt3, zt4, zt5, zt6, e36_2, e36_3, e36_4, e39_2, e39_3, e39_4] at hL39_5
        have hL39_6 := p39.2.2.1 6 (by decide)
        try simp only [zt0, zt1, zt2, zt3, zt4, zt5, zt6, e36_2, e36_3, e36_4, e39_2, e39_3, e39_4] at hL39_6
        have hL39_7 := p39.2.2.2 6 (by decide)
        try simp only [zt0, zt1, zt2, zt3, zt4, zt5, zt6, e36_2, e36_3, e36_4, e39_2, e39_3, e39_4] at hL39_7
        have zs39_x2 : zSm sh r0 t39 x2 = zSm sh r0 t36 x2 := zSm_eq e39_3 e39_4
        have zs39_x3 : zSm sh r0 t39 x3 = zSm sh r0 t36 x3 := zSm_eq e39_3 e39_4
        simp only [zput_s, zput_n, ti_g, oI_add, oI_sub, oI_mul, zt0, zt1, zt2, zt3, zt4, zt5, zt6, e36_2, e36_3, e36_4, e39_2, e39_3, e39_4, b175_112]
        try simp only [zput_s, zput_n, ti_g, oI_add, oI_sub, oI_mul]
        first | refine zok_eq (by omega) (fun c41 => ?_) (fun c41 => ?_) | refine zok_if (fun c41 => ?_) (fun c41 => ?_)
        · refine zok_ck ((q0).1) ?_
          have gq42_0 : -1 ≤ tg t39 (sr sh r0 3) (7 * x3 + 5).toNat ∧ tg t39 (sr sh r0 3) (7 * x3 + 5).toNat ≤ tg t39 (sr sh r0 4) (7 * x3 + 5).toNat ∧ tg t39 (sr sh r0 4) (7 * x3 + 5).toNat ≤ 400 := by have g := (f39.g).2.1 (7 * x3 + 5).toNat (by omega); exact ⟨g.1, g.2.1, g.2.2.2 (by omega)⟩
          try simp only [zt0, zt1, zt2, zt3, zt4, zt5, zt6, e36_2, e36_3, e36_4, e39_2, e39_3, e39_4] at gq42_0
          refine zok_c0 (s153 (q0) (by omega) (by omega) (by first | (omega) | ((try simp only [zt0, zt1, zt2, zt3, zt4, zt5, zt6, e36_2, e36_3, e36_4, e39_2, e39_3, e39_4]); omega)) (by first | (omega) | ((try simp only [zt0, zt1, zt2, zt3, zt4, zt5, zt6, e36_2, e36_3, e36_4, e39_2, e39_3, e39_4]); omega)) (f39.g)) (fun t42 p42 => ?_)
          obtain ⟨f42, p42⟩ := p42
          have e42_2 : ∀ k, tg t42 (sr sh r0 2) k = tg t39 (sr sh r0 2) k := fun k => f42.eq q0 (i := 2) (by decide) (by decide) k
          have e42_3 : ∀ k, tg t42 (sr sh r0 3) k = tg t39 (sr sh r0 3) k := fun k => f42.eq q0 (i := 3) (by decide) (by decide) k
          have e42_4 : ∀ k, tg t42 (sr sh r0 4) k = tg t39 (sr sh r0 4) k := fun k => f42.eq q0 (i := 4) (by decide) (by decide) k
          try simp only [zt0, zt1, zt2, zt3, zt4, zt5, zt6, e36_2, e36_3, e36_4, e39_2, e39_3, e39_4, e42_2, e42_3, e42_4] at p42
          have hL42_0 := p42.2.1 0 (by decide)
          try simp only [zt0, zt1, zt2, zt3, zt4, zt5, zt6, e36_2, e36_3, e36_4, e39_2, e39_3, e39_4, e42_2, e42_3, e42_4] at hL42_0
          have hL42_1 := p42.2.2.2 0 (by decide)
          try simp only [zt0, zt1, zt2, zt3, zt4, zt5, zt6, e36_2, e36_3, e36_4, e39_2, e39_3, e39_4, e42_2, e42_3, e42_4] at hL42_1
          have hL42_2 := p42.2.1 1 (by decide)
          try simp only [zt0, zt1, zt2, zt3, zt4, zt5, zt6, e36_2, e36_3, e36_4, e39_2, e39_3, e39_4, e42_2, e42_3, e42_4] at hL42_2
          have hL42_3 := p42.2.2.2 1 (by decide)
          try simp only [zt0, zt1, zt2, zt3, zt4, zt5, zt6, e36_2, e36_3, e36_4, e39_2, e39_3, e39_4, e42_2, e42_3, e42_4] at hL42_3
          have hL42_4 := p42.2.1 2 (by decide)
          try simp only [zt0, zt1, zt2, zt3, zt4, zt5, zt6, e36_2, e36_3, e36_4, e39_2, e39_3, e39_4, e42_2, e42_3, e42_4] at hL42_4
          have hL42_5 := p42.2.2.2 2 (by decide)
          try simp only [zt0, zt1, zt2, zt3, zt4, zt5, zt6, e36_2, e36_3, e36_4, e39_2, e39_3, e39_4, e42_2, e42_3, e42_4] at hL42_5
          have hL42_6 := p42.2.1 3 (by decide)
          try simp only [zt0, zt1, zt2, zt3, zt4, zt5, zt6, e36_2, e36_3, e36_4, e39_2, e39_3, e39_4, e42_2, e42_3, e42_4] at hL42_6
          have hL42_7 := p42.2.2.2 3 (by decide)
          try simp only [zt0, zt1, zt2, zt3, zt4, zt5, zt6, e36_2, e36_3, e36_4, e39_2, e39_3, e39_4, e42_2, e42_3, e42_4] at hL42_7
          have hL42_8 := p42.2.1 4 (by decide)
          try simp only [zt0, zt1, zt2, zt3, zt4, zt5, zt6, e36_2, e36_3, e36_4, e39_2, e39_3, e39_4, e42_2, e42_3, e42_4] at hL42_8
          have hL42_9 := p42.2.2.2 4 (by decide)
          try simp only [zt0, zt1, zt2, zt3, zt4, zt5, zt6, e36_2, e36_3, e36_4, e39_2, e39_3, e39_4, e42_2, e42_3, e42_4] at hL42_9
          have hL42_10 := p42.2.1 6 (by decide)
          try simp only [zt0, zt1, zt2, zt3, zt4, zt5, zt6, e36_2, e36_3, e36_4, e39_2, e39_3, e39_4, e42_2, e42_3, e42_4] at hL42_10
          have hL42_11 := p42.2.2.2 6 (by decide)
          try simp only [zt0, zt1, zt2, zt3, zt4, zt5, zt6, e36_2, e36_3, e36_4, e39_2, e39_3, e39_4, e42_2, e42_3, e42_4] at hL42_11
          have zs42_x2 : zSm sh r0 t42 x2 = zSm sh r0 t39 x2 := zSm_eq e42_3 e42_4
          have zs42_x3 : zSm sh r0 t42 x3 = zSm sh r0 t39 x3 := zSm_eq e42_3 e42_4
          simp only [zput_s, zput_n, ti_g, oI_add, oI_sub, oI_mul, zt0, zt1, zt2, zt3, zt4, zt5, zt6, e36_2, e36_3, e36_4, e39_2, e39_3, e39_4, e42_2, e42_3, e42_4, b175_136]
          try simp only [zput_s, zput_n, ti_g, oI_add, oI_sub, oI_mul]
          refine zok_ck ((q0).1) ?_
          have gq44_0 : -1 ≤ tg t42 (sr sh r0 3) (7 * x3 + 6).toNat ∧ tg t42 (sr sh r0 3) (7 * x3 + 6).toNat ≤ tg t42 (sr sh r0 4) (7 * x3 + 6).toNat ∧ tg t42 (sr sh r0 4) (7 * x3 + 6).toNat ≤ 400 := by have g := (f42.g).2.1 (7 * x3 + 6).toNat (by omega); exact ⟨g.1, g.2.1, g.2.2.2 (by omega)⟩
          try simp only [zt0, zt1, zt2, zt3, zt4, zt5, zt6, e36_2, e36_3, e36_4, e39_2, e39_3, e39_4, e42_2, e42_3, e42_4] at gq44_0
          refine zok_c0 (s153 (q0) (by omega) (by omega) (by first | (omega) | ((try simp only [zt0, zt1, zt2, zt3, zt4, zt5, zt6, e36_2, e36_3, e36_4, e39_2, e39_3, e39_4, e42_2, e42_3, e42_4]); omega)) (by first | (omega) | ((try simp only [zt0, zt1, zt2, zt3, zt4, zt5, zt6, e36_2, e36_3, e36_4, e39_2, e39_3, e39_4, e42_2, e42_3, e42_4]); omega)) (f42.g)) (fun t44 p44 => ?_)
          obtain ⟨f44, p44⟩ := p44
          have e44_2 : ∀ k, tg t44 (sr sh r0 2) k = tg t42 (sr sh r0 2) k := fun k => f44.eq q0 (i := 2) (by decide) (by decide) k
          have e44_3 : ∀ k, tg t44 (sr sh r0 3) k = tg t42 (sr sh r0 3) k := fun k => f44.eq q0 (i := 3) (by decide) (by decide) k
          have e44_4 : ∀ k, tg t44 (sr sh r0 4) k = tg t42 (sr sh r0 4) k := fun k => f44.eq q0 (i := 4) (by decide) (by decide) k
          try simp only [zt0, zt1, zt2, zt3, zt4, zt5, zt6, e36_2, e36_3, e36_4, e39_2, e39_3, e39_4, e42_2, e42_3, e42_4, e44_2, e44_3, e44_4] at p44
          have hL44_0 := p44.2.1 0 (by decide)
          try simp only [zt0, zt1, zt2, zt3, zt4, zt5, zt6, e36_2, e36_3, e36_4, e39_2, e39_3, e39_4, e42_2, e42_3, e42_4, e44_2, e44_3, e44_4] at hL44_0
          have hL44_1 := p44.2.2.2 0 (by decide)
          try simp only [zt0, zt1, zt2, zt3, zt4, zt5, zt6, e36_2, e36_3, e36_4, e39_2, e39_3, e39_4, e42_2, e42_3, e42_4, e44_2, e44_3, e44_4] at hL44_1
          have hL44_2 := p44.2.1 1 (by decide)
          try simp only [zt0, zt1, zt2, zt3, zt4, zt5, zt6, e36_2, e36_3, e36_4, e39_2, e39_3, e39_4, e42_2, e42_3, e42_4, e44_2, e44_3, e44_4] at hL44_2
          have hL44_3 := p44.2.2.2 1 (by decide)
          try simp only [zt0, zt1, zt2, zt3, zt4, zt5, zt6, e36_2, e36_3, e36_4, e39_2, e39_3, e39_4, e42_2, e42_3, e42_4, e44_2, e44_3, e44_4] at hL44_3
          have hL44_4 := p44.2.1 2 (by decide)
          try simp only [zt0, zt1, zt2, zt3, zt4, zt5, zt6, e36_2, e36_3, e36_4, e39_2, e39_3, e39_4, e42_2, e42_3, e42_4, e44_2, e44_3, e44_4] at hL44_4
          have hL44_5 := p44.2.2.2 2 (by decide)
          try simp only [zt0, zt1, zt2, zt3, zt4, zt5, zt6, e36_2, e36_3, e36_4, e39_2, e39_3, e39_4, e42_2, e42_3, e42_4, e44_2, e44_3, e44_4] at hL44_5
          have hL44_6 := p44.2.1 3 (by decide)
          try simp only [zt0, zt1, zt2, zt3, zt4, zt5, zt6, e36_2, e36_3, e36_4, e39_2, e39_3, e39_4, e42_2, e42_3, e42_4, e44_2, e44_3, e44_4] at hL44_6
          have hL44_7 := p44.2.2.2 3 (by decide)
          try simp only [zt0, zt1, zt2, zt3, zt4, zt5, zt6, e36_2, e36_3, e36_4, e39_2, e39_3, e39_4, e42_2, e42_3, e42_4, e44_2, e44_3, e44_4] at hL44_7
          have hL44_8 := p44.2.1 4 (by decide)
          try simp only [zt0, zt1, zt2, zt3, zt4, zt5, zt6, e36_2, e36_3, e36_4, e39_2, e39_3, e39_4, e42_2, e42_3, e42_4, e44_2, e44_3, e44_4] at hL44_8
          have hL44_9 := p44.2.2.2 4 (by decide)
          try simp only [zt0, zt1, zt2, zt3, zt4, zt5, zt6, e36_2, e36_3, e36_4, e39_2, e39_3, e39_4, e42_2, e42_3, e42_4, e44_2, e44_3, e44_4] at hL44_9
          have hL44_10 := p44.2.1 5 (by decide)
          try simp only [zt0, zt1, zt2, zt3, zt4, zt5, zt6, e36_2, e36_3, e36_4, e39_2, e39_3, e39_4, e42_2, e42_3, e42_4, e44_2, e44_3, e44_4] at hL44_10
          have hL44_11 := p44.2.2.2 5 (by decide)
          try simp only [zt0, zt1, zt2, zt3, zt4, zt5, zt6, e36_2, e36_3, e36_4, e39_2, e39_3, e39_4, e42_2, e42_3, e42_4, e44_2, e44_3, e44_4] at hL44_11
          have zs44_x2 : zSm sh r0 t44 x2 = zSm sh r0 t42 x2 := zSm_eq e44_3 e44_4
          have zs44_x3 : zSm sh r0 t44 x3 = zSm sh r0 t42 x3 := zSm_eq e44_3 e44_4
          try simp only [zput_s, zput_n, ti_g, oI_add, oI_sub, oI_mul]
          exact l175_143 q0 (by omega) (by omega) (by omega) (by omega) d1 d2 d3 d4 G _ _ _ _ _ ((FrV.trans (Ns := [1, 2, 3, 4, 9, 10, 11, 12, 13]) ((FrV.trans (Ns := [1, 2, 3, 4, 9, 10, 11, 12, 13]) ((FrV.trans (Ns := [1, 2, 3, 4, 9, 10, 11, 12, 13]) ((FrV.trans (Ns := [1, 2, 3, 4, 9, 10, 11, 12, 13]) (f0) f36 (by decide) (by decide))) f39 (by decide) (by decide))) f42 (by decide) (by decide))) f44 (by decide) (by decide))) (by first | omega | ((try simp only [zt0, zt1, zt2, zt3, zt4, zt5, zt6, e36_2, e36_3, e36_4, e39_2, e39_3, e39_4, e42_2, e42_3, e42_4, e44_2, e44_3, e44_4]); omega)) (fun k hk => by ((try have c0 := hq1 k hk); (try have c0 := hq1 k); (have c3 := e36_2 k); (have c8 := e39_2 k); (have c13 := e42_2 k); (have c18 := e44_2 k); (try simp only [zt0, zt1, zt2, zt3, zt4, zt5, zt6] at *) <;> omega)) (Nat.lt_succ_self _)
        · refine zok_ck ((q0).1) ?_
          refine zok_pI (s134 (q0) (by omega) (by omega) (by first | (omega) | ((try simp only [zt0, zt1, zt2, zt3, zt4, zt5, zt6, e36_2, e36_3, e36_4, e39_2, e39_3, e39_4]); omega)) (by first | (omega) | ((try simp only [zt0, zt1, zt2, zt3, zt4, zt5, zt6, e36_2, e36_3, e36_4, e39_2, e39_3, e39_4]); omega)) (f39.g)) (fun y45 u45 p45 => ?_)
          try simp only [zt0, zt1, zt2, zt3, zt4, zt5, zt6, e36_2, e36_3, e36_4, e39_2, e39_3, e39_4] at p45
          simp only [zput_s, zput_n, ti_g, oI_add, oI_sub, oI_mul, zt0, zt1, zt2, zt3, zt4, zt5, zt6, e36_2, e36_3, e36_4, e39_2, e39_3, e39_4, b175_125]
          try simp only [zput_s, zput_n, ti_g, oI_add, oI_sub, oI_mul]
          first | refine zok_ne (by omega) (fun c47 => ?_) (fun c47 => ?_) | refine zok_if (fun c47 => ?_) (fun c47 => ?_)
          · refine zok_ck ((q0).1) ?_
            have gq48_0 : -1 ≤ tg t39 (sr sh r0 3) (7 * x3 + 5).toNat ∧ tg t39 (sr sh r0 3) (7 * x3 + 5).toNat ≤ tg t39 (sr sh r0 4) (7 * x3 + 5).toNat ∧ tg t39 (sr sh r0 4) (7 * x3 + 5).toNat ≤ 400 := by have g := (f39.g).2.1 (7 * x3 + 5).toNat (by omega); exact ⟨g.1, g.2.1, g.2.2.2 (by omega)⟩
            try simp only [zt0, zt1, zt2, zt3, zt4, zt5, zt6, e36_2, e36_3, e36_4, e39_2, e39_3, e39_4] at gq48_0
            refine zok_c0 (s153 (q0) (by omega) (by omega) (by first | (omega) | ((try simp only [zt0, zt1, zt2, zt3, zt4, zt5, zt6, e36_2, e36_3, e36_4, e39_2, e39_3, e39_4]); omega)) (by first | (omega) | ((try simp only [zt0, zt1, zt2, zt3, zt4, zt5, zt6, e36_2, e36_3, e36_4, e39_2, e39_3, e39_4]); omega)) (f39.g)) (fun t48 p48 => ?_)
            obtain ⟨f48, p48⟩ := p48
            have e48_2 : ∀ k, tg t48 (sr sh r0 2) k = tg t39 (sr sh r0 2) k := fun k => f48.eq q0 (i := 2) (by decide) (by decide) k
            have e48_3 : ∀ k, tg t48 (sr sh r0 3) k = tg t39 (sr sh r0 3) k := fun k => f48.eq q0 (i := 3) (by decide) (by decide) k
            have e48_4 : ∀ k, tg t48 (sr sh r0 4) k = tg t39 (sr sh r0 4) k := fun k => f48.eq q0 (i := 4) (by decide) (by decide) k
            try simp only [zt0, zt1, zt2, zt3, zt4, zt5, zt6, e36_2, e36_3, e36_4, e39_2, e39_3, e39_4, e48_2, e48_3, e48_4] at p48
            have hL48_0 := p48.2.1 0 (by decide)
            try simp only [zt0, zt1, zt2, zt3, zt4, zt5, zt6, e36_2, e36_3, e36_4, e39_2, e39_3, e39_4, e48_2, e48_3, e48_4] at hL48_0
            have hL48_1 := p48.2.2.2 0 (by decide)
            try simp only [zt0, zt1, zt2, zt3, zt4, zt5, zt6, e36_2, e36_3, e36_4, e39_2, e39_3, e39_4, e48_2, e48_3, e48_4] at hL48_1
            have hL48_2 := p48.2.1 1 (by decide)
            try simp only [zt0, zt1, zt2, zt3, zt4, zt5, zt6, e36_2, e36_3, e36_4, e39_2, e39_3, e39_4, e48_2, e48_3, e48_4] at hL48_2
            have hL48_3 := p48.2.2.2 1 (by decide)
            try simp only [zt0, zt1, zt2, zt3, zt4, zt5, zt6, e36_2, e36_3, e36_4, e39_2, e39_3, e39_4, e48_2, e48_3, e48_4] at hL48_3
            have hL48_4 := p48.2.1 2 (by decide)
            try simp only [zt0, zt1, zt2, zt3, zt4, zt5, zt6, e36_2, e36_3, e36_4, e39_2, e39_3, e39_4, e48_2, e48_3, e48_4] at hL48_4
            have hL48_5 := p48.2.2.2 2 (by decide)
            try simp only [zt0, zt1, zt2, zt3, zt4, zt5, zt6, e36_2, e36_3, e36_4, e39_2, e39_3, e39_4, e48_2, e48_3, e48_4] at hL48_5
            have hL48_6 := p48.2.1 3 (by decide)
            try simp only [zt0, zt1, zt2, zt3, zt4, zt5, zt6, e36_2, e36_3, e36_4, e39_2, e39_3, e39_4, e48_2, e48_3, e48_4] at hL48_6
            have hL48_7 := p48.2.2.2 3 (by decide)
            try simp only [zt0, zt1, zt2, zt3, zt4, zt5, zt6, e36_2, e36_3, e36_4, e39_2, e39_3, e39_4, e48_2, e48_3, e48_4] at hL48_7
            have hL48_8 := p48.2.1 4 (by decide)
            try simp only [zt0, zt1, zt2, zt3, zt4, zt5, zt6, e36_2, e36_3, e36_4, e39_2, e39_3, e39_4, e48_2, e48_3, e48_4] at hL48_8
            have hL48_9 := p48.2.2.2 4 (by decide)
            try simp only [zt0, zt1, zt2, zt3, zt4, zt5, zt6, e36_2, e36_3, e36_4, e39_2, e39_3, e39_4, e48_2, e48_3, e48_4] at hL48_9
            have hL48_10 := p48.2.1 6 (by decide)
            try simp only [zt0, zt1, zt2, zt3, zt4, zt5, zt6, e36_2, e36_3, e36_4, e39_2, e39_3, e39_4, e48_2, e48_3, e48_4] at hL48_10
            have hL48_11 := p48.2.2.2 6 (by decide)
            try simp only [zt0, zt1, zt2, zt3, zt4, zt5, zt6, e36_2, e36_3, e36_4, e39_2, e39_3, e39_4, e48_2, e48_3, e48_4] at hL48_11
            have zs48_x2 : zSm sh r0 t48 x2 = zSm sh r0 t39 x2 := zSm_eq e48_3 e48_4
            have zs48_x3 : zSm sh r0 t48 x3 = zSm sh r0 t39 x3 := zSm_eq e48_3 e48_4
            simp only [zput_s, zput_n, ti_g, oI_add, oI_sub, oI_mul, zt0, zt1, zt2, zt3, zt4, zt5, zt6, e36_2, e36_3, e36_4, e39_2, e39_3, e39_4, e48_2, e48_3, e48_4, b175_136]
            try simp only [zput_s, zput_n, ti_g, oI_add, oI_sub, oI_mul]
            refine zok_ck ((q0).1) ?_
            have gq50_0 : -1 ≤ tg t48 (sr sh r0 3) (7 * x3 + 6).toNat ∧ tg t48 (sr sh r0 3) (7 * x3 + 6).toNat ≤ tg t48 (sr sh r0 4) (7 * x3 + 6).toNat ∧ tg t48 (sr sh r0 4) (7 * x3 + 6).toNat ≤ 400 := by have g := (f48.g).2.1 (7 * x3 + 6).toNat (by omega); exact ⟨g.1, g.2.1, g.2.2.2 (by omega)⟩
            try simp only [zt0, zt1, zt2, zt3, zt4, zt5, zt6, e36_2, e36_3, e36_4, e39_2, e39_3, e39_4, e48_2, e48_3, e48_4] at gq50_0
            refine zok_c0 (s153 (q0) (by omega) (by omega) (by first | (omega) | ((try simp only [zt0, zt1, zt2, zt3, zt4, zt5, zt6, e36_2, e36_3, e36_4, e39_2, e39_3, e39_4, e48_2, e48_3, e48_4]); omega)) (by first | (omega) | ((try simp only [zt0, zt1, zt2, zt3, zt4, zt5, zt6, e36_2, e36_3, e36_4, e39_2, e39_3, e39_4, e48_2, e48_3, e48_4]); omega)) (f48.g)) (fun t50 p50 => ?_)
            obtain ⟨f50, p50⟩ := p50
            have e50_2 : ∀ k, tg t50 (sr sh r0 2) k = tg t48 (sr sh r0 2) k := fun k => f50.eq q0 (i := 2) (by decide) (by decide) k
            have e50_3 : ∀ k, tg t50 (sr sh r0 3) k = tg t48 (sr sh r0 3) k := fun k => f50.eq q0 (i := 3) (by decide) (by decide) k
            have e50_4 : ∀ k, tg t50 (sr sh r0 4) k = tg t48 (sr sh r0 4) k := fun k => f50.eq q0 (i := 4) (by decide) (by decide) k
            try simp only [zt0, zt1, zt2, zt3, zt4, zt5, zt6, e36_2, e36_3, e36_4, e39_2, e39_3, e39_4, e48_2, e48_3, e48_4, e50_2, e50_3, e50_4] at p50
            have hL50_0 := p50.2.1 0 (by decide)
            try simp only [zt0, zt1, zt2, zt3, zt4, zt5, zt6, e36_2, e36_3, e36_4, e39_2, e39_3, e39_4, e48_2, e48_3, e48_4, e50_2, e50_3, e50_4] at hL50_0
            have hL50_1 := p50.2.2.2 0 (by decide)
            try simp only [zt0, zt1, zt2, zt3, zt4, zt5, zt6, e36_2, e36_3, e36_4, e39_2, e39_3, e39_4, e48_2, e48_3, e48_4, e50_2, e50_3, e50_4] at hL50_1
            have hL50_2 := p50.2.1 1 (by decide)
            try simp only [zt0, zt1, zt2, zt3, zt4, zt5, zt6, e36_2, e36_3, e36_4, e39_2, e39_3, e39_4, e48_2, e48_3, e48_4, e50_2, e50_3, e50_4] at hL50_2
            have hL50_3 := p50.2.2.2 1 (by decide)
            try simp only [zt0, zt1, zt2, zt3, zt4, zt5, zt6, e36_2, e36_3, e36_4, e39_2, e39_3, e39_4, e48_2, e48_3, e48_4, e50_2, e50_3, e50_4] at hL50_3
            have hL50_4 := p50.2.1 2 (by decide)
            try simp only [zt0, zt1, zt2, zt3, zt4, zt5, zt6, e36_2, e36_3, e36_4, e39_2, e39_3, e39_4, e48_2, e48_3, e48_4, e50_2, e50_3, e50_4] at hL50_4
            have hL50_5 := p50.2.2.2 2 (by decide)
            try simp only [zt0, zt1, zt2, zt3, zt4, zt5, zt6, e36_2, e36_3, e36_4, e39_2, e39_3, e39_4, e48_2, e48_3, e48_4, e50_2, e50_3, e50_4] at hL50_5
            have hL50_6 := p50.2.1 3 (by decide)
            try simp only [zt0, zt1, zt2, zt3, zt4, zt5, zt6, e36_2, e36_3, e36_4, e39_2, e39_3, e39_4, e48_2, e48_3, e48_4, e50_2, e50_3, e50_4] at hL50_6
            have hL50_7 := p50.2.2.2 3 (by decide)
            try simp only [zt0, zt1, zt2, zt3, zt4, zt5, zt6, e36_2, e36_3, e36_4, e39_2, e39_3, e39_4, e48_2, e48_3, e48_4, e50_2, e50_3, e50_4] at hL50_7
            have hL50_8 := p50.2.1 4 (by decide)
            try simp only [zt0, zt1, zt2, zt3, zt4, zt5, zt6, e36_2, e36_3, e36_4, e39_2, e39_3, e39_4, e48_2, e48_3, e48_4, e50_2, e50_3, e50_4] at hL50_8
            have hL50_9 := p50.2.2.2 4 (by decide)
            try simp only [zt0, zt1, zt2, zt3, zt4, zt5, zt6, e36_2, e36_3, e36_4, e39_2, e39_3, e39_4, e48_2, e48_3, e48_4, e50_2, e50_3, e50_4] at hL50_9
            have hL50_10 := p50.2.1 5 (by decide)
            try simp only [zt0, zt1, zt2, zt3, zt4, zt5, zt6, e36_2, e36_3, e36_4, e39_2, e39_3, e39_4, e48_2, e48_3, e48_4, e50_2, e50_3, e50_4] at hL50_10
            have hL50_11 := p50.2.2.2 5 (by decide)
            try simp only [zt0, zt1, zt2, zt3, zt4, zt5, zt6, e36_2, e36_3, e36_4, e39_2, e39_3, e39_4, e48_2, e48_3, e48_4, e50_2, e50_3, e50_4] at hL50_11
            have zs50_x2 : zSm sh r0 t50 x2 = zSm sh r0 t48 x2 := zSm_eq e50_3 e50_4
            have zs50_x3 : zSm sh r0 t50 x3 = zSm sh r0 t48 x3 := zSm_eq e50_3 e50_4
            try simp only [zput_s, zput_n, ti_g, oI_add, oI_sub, oI_mul]
            exact l175_143 q0 (by omega) (by omega) (by omega) (by omega) d1 d2 d3 d4 G _ _ _ _ _ ((FrV.trans (Ns := [1, 2, 3, 4, 9, 10, 11, 12, 13]) ((FrV.trans (Ns := [1, 2, 3, 4, 9, 10, 11, 12, 13]) ((FrV.trans (Ns := [1, 2, 3, 4, 9, 10, 11, 12, 13]) ((FrV.trans (Ns := [1, 2, 3, 4, 9, 10, 11, 12, 13]) (f0) f36 (by decide) (by decide))) f39 (by decide) (by decide))) f48 (by decide) (by decide))) f50 (by decide) (by decide))) (by first | omega | ((try simp only [zt0, zt1, zt2, zt3, zt4, zt5, zt6, e36_2, e36_3, e36_4, e39_2, e39_3, e39_4, e48_2, e48_3, e48_4, e50_2, e50_3, e50_4]); omega)) (fun k hk => by ((try have c0 := hq1 k hk); (try have c0 := hq1 k); (have c3 := e36_2 k); (have c8 := e39_2 k); (have c13 := e48_2 k); (have c18 := e50_2 k); (try simp only [zt0, zt1, zt2, zt3, zt4, zt5, zt6] at *) <;> omega)) (Nat.lt_succ_self _)
          · refine zok_ck ((q0).1) ?_
            have gq51_0 : -1 ≤ tg t39 (sr sh r0 3) (7 * x2 + 5).toNat ∧ tg t39 (sr sh r0 3) (7 * x2 + 5).toNat ≤ tg t39 (sr sh r0 4) (7 * x2 + 5).toNat ∧ tg t39 (sr sh r0 4) (7 * x2 + 5).toNat ≤ 400 := by have g := (f39.g).2.1 (7 * x2 + 5).toNat (by omega); exact ⟨g.1, g.2.1, g.2.2.2 (by omega)⟩
            try simp only [zt0, zt1, zt2, zt3, zt4, zt5, zt6, e36_2, e36_3, e36_4, e39_2, e39_3, e39_4] at gq51_0
            refine zok_c0 (s153 (q0) (by omega) (by omega) (by first | (omega) | ((try simp only [zt0, zt1, zt2, zt3, zt4, zt5, zt6, e36_2, e36_3, e36_4, e39_2, e39_3, e39_4]); omega)) (by first | (omega) | ((try simp only [zt0, zt1, zt2, zt3, zt4, zt5, zt6, e36_2, e36_3, e36_4, e39_2, e39_3, e39_4]); omega)) (f39.g)) (fun t51 p51 => ?_)
            obtain ⟨f51, p51⟩ := p51
            have e51_2 : ∀ k, tg t51 (sr sh r0 2) k = tg t39 (sr sh r0 2) k := fun k => f51.eq q0 (i := 2) (by decide) (by decide) k
            have e51_3 : ∀ k, tg t51 (sr sh r0 3) k = tg t39 (sr sh r0 3) k := fun k => f51.eq q0 (i := 3) (by decide) (by decide) k
            have e51_4 : ∀ k, tg t51 (sr sh r0 4) k = tg t39 (sr sh r0 4) k := fun k => f51.eq q0 (i := 4) (by decide) (by decide) k
            try simp only [zt0, zt1, zt2, zt3, zt4, zt5, zt6, e36_2, e36_3, e36_4, e39_2, e39_3, e39_4, e51_2, e51_3, e51_4] at p51
            have hL51_0 := p51.2.1 0 (by decide)
            try simp only [zt0, zt1, zt2, zt3, zt4, zt5, zt6, e36_2, e36_3, e36_4, e39_2, e39_3, e39_4, e51_2, e51_3, e51_4] at hL51_0
            have hL51_1 := p51.2.2.2 0 (by decide)
            try simp only [zt0, zt1, zt2, zt3, zt4, zt5, zt6, e36_2, e36_3, e36_4, e39_2, e39_3, e39_4, e51_2, e51_3, e51_4] at hL51_1
            have hL51_2 := p51.2.1 1 (by decide)
            try simp only [zt0, zt1, zt2, zt3, zt4, zt5, zt6, e36_2, e36_3, e36_4, e39_2, e39_3, e39_4, e51_2, e51_3, e51_4] at hL51_2
            have hL51_3 := p51.2.2.2 1 (by decide)
            try simp only [zt0, zt1, zt2, zt3, zt4, zt5, zt6, e36_2, e36_3, e36_4, e39_2, e39_3, e39_4, e51_2, e51_3, e51_4] at hL51_3
            have hL51_4 := p51.2.1 2 (by decide)
            try simp only [zt0, zt1, zt2, zt3, zt4, zt5, zt6, e36_2, e36_3, e36_4, e39_2, e39_3, e39_4, e51_2, e51_3, e51_4] at hL51_4
            have hL51_5 := p51.2.2.2 2 (by decide)
            try simp only [zt0, zt1, zt2, zt3, zt4, zt5, zt6, e36_2, e36_3, e36_4, e39_2, e39_3, e39_4, e51_2, e51_3, e51_4] at hL51_5
            have hL51_6 := p51.2.1 3 (by decide)
            try simp only [zt0, zt1, zt2, zt3, zt4, zt5, zt6, e36_2, e36_3, e36_4, e39_2, e39_3, e39_4, e51_2, e51_3, e51_4] at hL51_6
            have hL51_7 := p51.2.2.2 3 (by decide)
            try simp only [zt0, zt1, zt2, zt3, zt4, zt5, zt6, e36_2, e36_3, e36_4, e39_2, e39_3, e39_4, e51_2, e51_3, e51_4] at hL51_7
            have hL51_8 := p51.2.1 4 (by decide)
            try simp only [zt0, zt1, zt2, zt3, zt4, zt5, zt6, e36_2, e36_3, e36_4, e39_2, e39_3, e39_4, e51_2, e51_3, e51_4] at hL51_8
            have hL51_9 := p51.2.2.2 4 (by decide)
            try simp only [zt0, zt1, zt2, zt3, zt4, zt5, zt6, e36_2, e36_3, e36_4, e39_2, e39_3, e39_4, e51_2, e51_3, e51_4] at hL51_9
            have hL51_10 := p51.2.1 6 (by decide)
            try simp only [zt0, zt1, zt2, zt3, zt4, zt5, zt6, e36_2, e36_3, e36_4, e39_2, e39_3, e39_4, e51_2, e51_3, e51_4] at hL51_10
            have hL51_11 := p51.2.2.2 6 (by decide)
            try simp only [zt0, zt1, zt2, zt3, zt4, zt5, zt6, e36_2, e36_3, e36_4, e39_2, e39_3, e39_4, e51_2, e51_3, e51_4] at hL51_11
            have zs51_x2 : zSm sh r0 t51 x2 = zSm sh r0 t39 x2 := zSm_eq e51_3 e51_4
            have zs51_x3 : zSm sh r0 t51 x3 = zSm sh r0 t39 x3 := zSm_eq e51_3 e51_4
            simp only [zput_s, zput_n, ti_g, oI_add, oI_sub, oI_mul, zt0, zt1, zt2, zt3, zt4, zt5, zt6, e36_2, e36_3, e36_4, e39_2, e39_3, e39_4, e51_2, e51_3, e51_4, b175_136]
            try simp only [zput_s, zput_n, ti_g, oI_add, oI_sub, oI_mul]
            refine zok_ck ((q0).1) ?_
            have gq53_0 : -1 ≤ tg t51 (sr sh r0 3) (7 * x3 + 6).toNat ∧ tg t51 (sr sh r0 3) (7 * x3 + 6).toNat ≤ tg t51 (sr sh r0 4) (7 * x3 + 6).toNat ∧ tg t51 (sr sh r0 4) (7 * x3 + 6).toNat ≤ 400 := by have g := (f51.g).2.1 (7 * x3 + 6).toNat (by omega); exact ⟨g.1, g.2.1, g.2.2.2 (by omega)⟩
            try simp only [zt0, zt1, zt2, zt3, zt4, zt5, zt6, e36_2, e36_3, e36_4, e39_2, e39_3, e39_4, e51_2, e51_3, e51_4] at gq53_0
            refine zok_c0 (s153 (q0) (by omega) (by omega) (by first | (omega) | ((try simp only [zt0, zt1, zt2, zt3, zt4, zt5, zt6, e36_2, e36_3, e36_4, e39_2, e39_3, e39_4, e51_2, e51_3, e51_4]); omega)) (by first | (omega) | ((try simp only [zt0, zt1, zt2, zt3, zt4, zt5, zt6, e36_2, e36_3, e36_4, e39_2, e39_3, e39_4, e51_2, e51_3, e51_4]); omega)) (f51.g)) (fun t53 p53 => ?_)
            obtain ⟨f53, p53⟩ := p53
            have e53_2 : ∀ k, tg t53 (sr sh r0 2) k = tg t51 (sr sh r0 2) k := fun k => f53.eq q0 (i := 2) (by decide) (by decide) k
            have e53_3 : ∀ k, tg t53 (sr sh r0 3) k = tg t51 (sr sh r0 3) k := fun k => f53.eq q0 (i := 3) (by decide) (by decide) k
            have e53_4 : ∀ k, tg t53 (sr sh r0 4) k = tg t51 (sr sh r0 4) k := fun k => f53.eq q0 (i := 4) (by decide) (by decide) k
            try simp only [zt0, zt1, zt2, zt3, zt4, zt5, zt6, e36_2, e36_3, e36_4, e39_2, e39_3, e39_4, e51_2, e51_3, e51_4, e53_2, e53_3, e53_4] at p53
            have hL53_0 := p53.2.1 0 (by decide)
            try simp only [zt0, zt1, zt2, zt3, zt4, zt5, zt6, e36_2, e36_3, e36_4, e39_2, e39_3, e39_4, e51_2, e51_3, e51_4, e53_2, e53_3, e53_4] at hL53_0
            have hL53_1 := p53.2.2.2 0 (by decide)
            try simp only [zt0, zt1, zt2, zt3, zt4, zt5, zt6, e36_2, e36_3, e36_4, e39_2, e39_3, e39_4, e51_2, e51_3, e51_4, e53_2, e53_3, e53_4] at hL53_1
            have hL53_2 := p53.2.1 1 (by decide)
            try simp only [zt0, zt1, zt2, zt3, zt4, zt5, zt6, e36_2, e36_3, e36_4, e39_2, e39_3, e39_4, e51_2, e51_3, e51_4, e53_2, e53_3, e53_4] at hL53_2
            have hL53_3 := p53.2.2.2 1 (by decide)
            try simp only [zt0, zt1, zt2, zt3, zt4, zt5, zt6, e36_2, e36_3, e36_4, e39_2, e39_3, e39_4, e51_2, e51_3, e51_4, e53_2, e53_3, e53_4] at hL53_3
            have hL53_4 := p53.2.1 2 (by decide)
            try simp only [zt0, zt1, zt2, zt3, zt4, zt5, zt6, e36_2, e36_3, e36_4, e39_2, e39_3, e39_4, e51_2, e51_3, e51_4, e53_2, e53_3, e53_4] at hL53_4
            have hL53_5 := p53.2.2.2 2 (by decide)
            try simp only [zt0, zt1, zt2, zt3, zt4, zt5, zt6, e36_2, e36_3, e36_4, e39_2, e39_3, e39_4, e51_2, e51_3, e51_4, e53_2, e53_3, e53_4] at hL53_5
            have hL53_6 := p53.2.1 3 (by decide)
            try simp only [zt0, zt1, zt2, zt3, zt4, zt5, zt6, e36_2, e36_3, e36_4, e39_2, e39_3, e39_4, e51_2, e51_3, e51_4, e53_2, e53_3, e53_4] at hL53_6
            have hL53_7 := p53.2.2.2 3 (by decide)
            try simp only [zt0, zt1, zt2, zt3, zt4, zt5, zt6, e36_2, e36_3, e36_4, e39_2, e39_3, e39_4, e51_2, e51_3, e51_4, e53_2, e53_3, e53_4] at hL53_7
            have hL53_8 := p53.2.1 4 (by decide)
            try simp only [zt0, zt1, zt2, zt3, zt4, zt5, zt6, e36_2, e36_3, e36_4, e39_2, e39_3, e39_4, e51_2, e51_3, e51_4, e53_2, e53_3, e53_4] at hL53_8
            have hL53_9 := p53.2.2.2 4 (by decide)
            try simp only [zt0, zt1, zt2, zt3, zt4, zt5, zt6, e36_2, e36_3, e36_4, e39_2, e39_3, e39_4, e51_2, e51_3, e51_4, e53_2, e53_3, e53_4] at hL53_9
            have hL53_10 := p53.2.1 5 (by decide)
            try simp only [zt0, zt1, zt2, zt3, zt4, zt5, zt6, e36_2, e36_3, e36_4, e39_2, e39_3, e39_4, e51_2, e51_3, e51_4, e53_2, e53_3, e53_4] at hL53_10
            have hL53_11 := p53.2.2.2 5 (by decide)
            try simp only [zt0, zt1, zt2, zt3, zt4, zt5, zt6, e36_2, e36_3, e36_4, e39_2, e39_3, e39_4, e51_2, e51_3, e51_4, e53_2, e53_3, e53_4] at hL53_11
            have zs53_x2 : zSm sh r0 t53 x2 = zSm sh r0 t51 x2 := zSm_eq e53_3 e53_4
            have zs53_x3 : zSm sh r0 t53 x3 = zSm sh r0 t51 x3 := zSm_eq e53_3 e53_4
            try simp only [zput_s, zput_n, ti_g, oI_add, oI_sub, oI_mul]
            exact l175_143 q0 (by omega) (by omega) (by omega) (by omega) d1 d2 d3 d4 G _ _ _ _ _ ((FrV.trans (Ns := [1, 2, 3, 4, 9, 10, 11, 12, 13]) ((FrV.trans (Ns := [1, 2, 3, 4, 9, 10, 11, 12, 13]) ((FrV.trans (Ns := [1, 2, 3, 4, 9, 10, 11, 12, 13]) ((FrV.trans (Ns := [1, 2, 3, 4, 9, 10, 11, 12, 13]) (f0) f36 (by decide) (by decide))) f39 (by decide) (by decide))) f51 (by decide) (by decide))) f53 (by decide) (by decide))) (by first | omega | ((try simp only [zt0, zt1, zt2, zt3, zt4, zt5, zt6, e36_2, e36_3, e36_4, e39_2, e39_3, e39_4, e51_2, e51_3, e51_4, e53_2, e53_3, e53_4]); omega)) (fun k hk => by ((try have c0 := hq1 k hk); (try have c0 := hq1 k); (have c3 := e36_2 k); (have c8 := e39_2 k); (have c13 := e51_2 k); (have c18 := e53_2 k); (try simp only [zt0, zt1, zt2, zt3, zt4, zt5, zt6] at *) <;> omega)) (Nat.lt_succ_self _)
      · refine zok_ck ((q0).1) ?_
        have gq54_0 : -1 ≤ tg t36 (sr sh r0 3) (7 * x3 + 1).toNat ∧ tg t36 (sr sh r0 3) (7 * x3 + 1).toNat ≤ tg t36 (sr sh r0 4) (7 * x3 + 1).toNat ∧ tg t36 (sr sh r0 4) (7 * x3 + 1).toNat ≤ 400 := by have g := (f36.g).2.1 (7 * x3 + 1).toNat (by omega); exact ⟨g.1, g.2.1, g.2.2.2 (by omega)⟩
        try simp only [zt0, zt1, zt2, zt3, zt4, zt5, zt6, e36_2, e36_3, e36_4] at gq54_0
        have gq54_1 : -1 ≤ tg t36 (sr sh r0 3) (7 * x3 + 2).toNat ∧ tg t36 (sr sh r0 3) (7 * x3 + 2).toNat ≤ tg t36 (sr sh r0 4) (7 * x3 + 2).toNat ∧ tg t36 (sr sh r0 4) (7 * x3 + 2).toNat ≤ 400 := by have g := (f36.g).2.1 (7 * x3 + 2).toNat (by omega); exact ⟨g.1, g.2.1, g.2.2.2 (by omega)⟩
        try simp only [zt0, zt1, zt2, zt3, zt4, zt5, zt6, e36_2, e36_3, e36_4] at gq54_1
        have gq54_2 : -1 ≤ tg t36 (sr sh r0 3) (7 * x3 + 3).toNat ∧ tg t36 (sr sh r0 3) (7 * x3 + 3).toNat ≤ tg t36 (sr sh r0 4) (7 * x3 + 3).toNat ∧ tg t36 (sr sh r0 4) (7 * x3 + 3).toNat ≤ 400 := by have g := (f36.g).2.1 (7 * x3 + 3).toNat (by omega); exact ⟨g.1, g.2.1, g.2.2.2 (by omega)⟩
        try simp only [zt0, zt1, zt2, zt3, zt4, zt5, zt6, e36_2, e36_3, e36_4] at gq54_2
        refine zok_c0 (s154 (q0) (by omega) (by first | (omega) | ((try simp only [zt0, zt1, zt2, zt3, zt4, zt5, zt6, e36_2, e36_3, e36_4]); omega)) (f36.g)) (fun t54 p54 => ?_)
        obtain ⟨f54, p54⟩ := p54
        have e54_2 : ∀ k, tg t54 (sr sh r0 2) k = tg t36 (sr sh r0 2) k := fun k => f54.eq q0 (i := 2) (by decide) (by decide) k
        have e54_3 : ∀ k, tg t54 (sr sh r0 3) k = tg t36 (sr sh r0 3) k := fun k => f54.eq q0 (i := 3) (by decide) (by decide) k
        have e54_4 : ∀ k, tg t54 (sr sh r0 4) k = tg t36 (sr sh r0 4) k := fun k => f54.eq q0 (i := 4) (by decide) (by decide) k
        try simp only [zt0, zt1, zt2, zt3, zt4, zt5, zt6, e36_2, e36_3, e36_4, e54_2, e54_3, e54_4] at p54
        have hL54_0 := p54.2.2.1 0 (by decide)
        try simp only [zt0, zt1, zt2, zt3, zt4, zt5, zt6, e36_2, e36_3, e36_4, e54_2, e54_3, e54_4] at hL54_0
        have hL54_1 := p54.2.2.2 0 (by decide)
        try simp only [zt0, zt1, zt2, zt3, zt4, zt5, zt6, e36_2, e36_3, e36_4, e54_2, e54_3, e54_4] at hL54_1
        have hL54_2 := p54.2.2.1 4 (by decide)
        try simp only [zt0, zt1, zt2, zt3, zt4, zt5, zt6, e36_2, e36_3, e36_4, e54_2, e54_3, e54_4] at hL54_2
        have hL54_3 := p54.2.2.2 4 (by decide)
        try simp only [zt0, zt1, zt2, zt3, zt4, zt5, zt6, e36_2, e36_3, e36_4, e54_2, e54_3, e54_4] at hL54_3
        have hL54_4 := p54.2.2.1 5 (by decide)
        try simp only [zt0, zt1, zt2, zt3, zt4, zt5, zt6, e36_2, e36_3, e36_4, e54_2, e54_3, e54_4] at hL54_4
        have hL54_5 := p54.2.2.2 5 (by decide)
        try simp only [zt0, zt1, zt2, zt3, zt4, zt5, zt6, e36_2, e36_3, e36_4, e54_2, e54_3, e54_4] at hL54_5
        have hL54_6 := p54.2.2.1 6 (by decide)
        try simp only [zt0, zt1, zt2, zt3, zt4, zt5, zt6, e36_2, e36_3, e36_4, e54_2, e54_3, e54_4] at hL54_6
        have hL54_7 := p54.2.2.2 6 (by decide)
        try simp only [zt0, zt1, zt2, zt3, zt4, zt5, zt6, e36_2, e36_3, e36_4, e54_2, e54_3, e54_4] at hL54_7
        have zs54_x2 : zSm sh r0 t54 x2 = zSm sh r0 t36 x2 := zSm_eq e54_3 e54_4
        have zs54_x3 : zSm sh r0 t54 x3 = zSm sh r0 t36 x3 := zSm_eq e54_3 e54_4
        simp only [zput_s, zput_n, ti_g, oI_add, oI_sub, oI_mul, zt0, zt1, zt2, zt3, zt4, zt5, zt6, e36_2, e36_3, e36_4, e54_2, e54_3, e54_4, b175_112]
        try simp only [zput_s, zput_n, ti_g, oI_add, oI_sub, oI_mul]
        first | refine zok_eq (by omega) (fun c56 => ?_) (fun c56 => ?_) | refine zok_if (fun c56 => ?_) (fun c56 => ?_)
        · refine zok_ck ((q0).1) ?_
          have gq57_0 : -1 ≤ tg t54 (sr sh r0 3) (7 * x3 + 5).toNat ∧ tg t54 (sr sh r0 3) (7 * x3 + 5).toNat ≤ tg t54 (sr sh r0 4) (7 * x3 + 5).toNat ∧ tg t54 (sr sh r0 4) (7 * x3 + 5).toNat ≤ 400 := by have g := (f54.g).2.1 (7 * x3 + 5).toNat (by omega); exact ⟨g.1, g.2.1, g.2.2.2 (by omega)⟩
          try simp only [zt0, zt1, zt2, zt3, zt4, zt5, zt6, e36_2, e36_3, e36_4, e54_2, e54_3, e54_4] at gq57_0
          refine zok_c0 (s153 (q0) (by omega) (by omega) (by first | (omega) | ((try simp only [zt0, zt1, zt2, zt3, zt4, zt5, zt6, e36_2, e36_3, e36_4, e54_2, e54_3, e54_4]); omega)) (by first | (omega) | ((try simp only [zt0, zt1, zt2, zt3, zt4, zt5, zt6, e36_2, e36_3, e36_4, e54_2, e54_3, e54_4]); omega)) (f54.g)) (fun t57 p57 => ?_)
          obtain ⟨f57, p57⟩ := p57
          have e57_2 : ∀ k, tg t57 (sr sh r0 2) k = tg t54 (sr sh r0 2) k := fun k => f57.eq q0 (i := 2) (by decide) (by decide) k
          have e57_3 : ∀ k, tg t57 (sr sh r0 3) k = tg t54 (sr sh r0 3) k := fun k => f57.eq q0 (i := 3) (by decide) (by decide) k
          have e57_4 : ∀ k, tg t57 (sr sh r0 4) k = tg t54 (sr sh r0 4) k := fun k => f57.eq q0 (i := 4) (by decide) (by decide) k
          try simp only [zt0, zt1, zt2, zt3, zt4, zt5, zt6, e36_2, e36_3, e36_4, e54_2, e54_3, e54_4, e57_2, e57_3, e57_4] at p57
          have hL57_0 := p57.2.1 0 (by decide)
          try simp only [zt0, zt1, zt2, zt3, zt4, zt5, zt6, e36_2, e36_3, e36_4, e54_2, e54_3, e54_4, e57_2, e57_3, e57_4] at hL57_0
          have hL57_1 := p57.2.2.2 0 (by decide)
          try simp only [zt0, zt1, zt2, zt3, zt4, zt5, zt6, e36_2, e36_3, e36_4, e54_2, e54_3, e54_4, e57_2, e57_3, e57_4] at hL57_1
          have hL57_2 := p57.2.1 1 (by decide)
          try simp only [zt0, zt1, zt2, zt3, zt4, zt5, zt6, e36_2, e36_3, e36_4, e54_2, e54_3, e54_4, e57_2, e57_3, e57_4] at hL57_2
          have hL57_3 := p57.2.2.2 1 (by decide)
          try simp only [zt0, zt1, zt2, zt3, zt4, zt5, zt6, e36_2, e36_3, e36_4, e54_2, e54_3, e54_4, e57_2, e57_3, e57_4] at hL57_3
          have hL57_4 := p57.2.1 2 (by decide)
          try simp only [zt0, zt1, zt2, zt3, zt4, zt5, zt6, e36_2, e36_3, e36_4, e54_2, e54_3, e54_4, e57_2, e57_3, e57_4] at hL57_4
          have hL57_5 := p57.2.2.2 2 (by decide)
          try simp only [zt0, zt1, zt2, zt3, zt4, zt5, zt6, e36_2, e36_3, e36_4, e54_2, e54_3, e54_4, e57_2, e57_3, e57_4] at hL57_5
          have hL57_6 := p57.2.1 3 (by decide)
          try simp only [zt0, zt1, zt2, zt3, zt4, zt5, zt6, e36_2, e36_3, e36_4, e54_2, e54_3, e54_4, e57_2, e57_3, e57_4] at hL57_6
          have hL57_7 := p57.2.2.2 3 (by decide)
          try simp only [zt0, zt1, zt2, zt3, zt4, zt5, zt6, e36_2, e36_3, e36_4, e54_2, e54_3, e54_4, e57_2, e57_3, e57_4] at hL57_7
          have hL57_8 := p57.2.1 4 (by decide)
          try simp only [zt0, zt1, zt2, zt3, zt4, zt5, zt6, e36_2, e36_3, e36_4, e54_2, e54_3, e54_4, e57_2, e57_3, e57_4] at hL57_8
          have hL57_9 := p57.2.2.2 4 (by decide)
          try simp only [zt0, zt1, zt2, zt3, zt4, zt5, zt6, e36_2, e36_3, e36_4, e54_2, e54_3, e54_4, e57_2, e57_3, e57_4] at hL57_9
          have hL57_10 := p57.2.1 6 (by decide)
          try simp only [zt0, zt1, zt2, zt3, zt4, zt5, zt6, e36_2, e36_3, e36_4, e54_2, e54_3, e54_4, e57_2, e57_3, e57_4] at hL57_10
          have hL57_11 := p57.2.2.2 6 (by decide)
          try simp only [zt0, zt1, zt2, zt3, zt4, zt5, zt6, e36_2, e36_3, e36_4, e54_2, e54_3, e54_4, e57_2, e57_3, e57_4] at hL57_11
          have zs57_x2 : zSm sh r0 t57 x2 = zSm sh r0 t54 x2 := zSm_eq e57_3 e57_4
          have zs57_x3 : zSm sh r0 t57 x3 = zSm sh r0 t54 x3 := zSm_eq e57_3 e57_4
          simp only [zput_s, zput_n, ti_g, oI_add, oI_sub, oI_mul, zt0, zt1, zt2, zt3, zt4, zt5, zt6, e36_2, e36_3, e36_4, e54_2, e54_3, e54_4, e57_2, e57_3, e57_4, b175_136]
          try simp only [zput_s, zput_n, ti_g, oI_add, oI_sub, oI_mul]
          refine zok_ck ((q0).1) ?_
          have gq59_0 : -1 ≤ tg t57 (sr sh r0 3) (7 * x3 + 6).toNat ∧ tg t57 (sr sh r0 3) (7 * x3 + 6).toNat ≤ tg t57 (sr sh r0 4) (7 * x3 + 6).toNat ∧ tg t57 (sr sh r0 4) (7 * x3 + 6).toNat ≤ 400 := by have g := (f57.g).2.1 (7 * x3 + 6).toNat (by omega); exact ⟨g.1, g.2.1, g.2.2.2 (by omega)⟩
          try simp only [zt0, zt1, zt2, zt3, zt4, zt5, zt6, e36_2, e36_3, e36_4, e54_2, e54_3, e54_4, e57_2, e57_3, e57_4] at gq59_0
          refine zok_c0 (s153 (q0) (by omega) (by omega) (by first | (omega) | ((try simp only [zt0, zt1, zt2, zt3, zt4, zt5, zt6, e36_2, e36_3, e36_4, e54_2, e54_3, e54_4, e57_2, e57_3, e57_4]); omega)) (by first | (omega) | ((try simp only [zt0, zt1, zt2, zt3, zt4, zt5, zt6, e36_2, e36_3, e36_4, e54_2, e54_3, e54_4, e57_2, e57_3, e57_4]); omega)) (f57.g)) (fun t59 p59 => ?_)
          obtain ⟨f59, p59⟩ := p59
          have e59_2 : ∀ k, tg t59 (sr sh r0 2) k = tg t57 (sr sh r0 2) k := fun k => f59.eq q0 (i := 2) (by decide) (by decide) k
          have e59_3 : ∀ k, tg t59 (sr sh r0 3) k = tg t57 (sr sh r0 3) k := fun k => f59.eq q0 (i := 3) (by decide) (by decide) k
          have e59_4 : ∀ k, tg t59 (sr sh r0 4) k = tg t57 (sr sh r0 4) k := fun k => f59.eq q0 (i := 4) (by decide) (by decide) k
          try simp only [zt0, zt1, zt2, zt3, zt4, zt5, zt6, e36_2, e36_3, e36_4, e54_2, e54_3, e54_4, e57_2, e57_3, e57_4, e59_2, e59_3, e59_4] at p59
          have hL59_0 := p59.2.1 0 (by decide)
          try simp only [zt0, zt1, zt2, zt3, zt4, zt5, zt6, e36_2, e36_3, e36_4, e54_2, e54_3, e54_4, e57_2, e57_3, e57_4, e59_2, e59_3, e59_4] at hL59_0
          have hL59_1 := p59.2.2.2 0 (by decide)
          try simp only [zt0, zt1, zt2, zt3, zt4, zt5, zt6, e36_2, e36_3, e36_4, e54_2, e54_3, e54_4, e57_2, e57_3, e57_4, e59_2, e59_3, e59_4] at hL59_1
          have hL59_2 := p59.2.1 1 (by decide)
          try simp only [zt0, zt1, zt2, zt3, zt4, zt5, zt6, e36_2, e36_3, e36_4, e54_2, e54_3, e54_4, e57_2, e57_3, e57_4, e59_2, e59_3, e59_4] at hL59_2
          have hL59_3 := p59.2.2.2 1 (by decide)
          try simp only [zt0, zt1, zt2, zt3, zt4, zt5, zt6, e36_2, e36_3, e36_4, e54_2, e54_3, e54_4, e57_2, e57_3, e57_4, e59_2, e59_3, e59_4] at hL59_3
          have hL59_4 := p59.2.1 2 (by decide)
          try simp only [zt0, zt1, zt2, zt3, zt4, zt5, zt6, e36_2, e36_3, e36_4, e54_2, e54_3, e54_4, e57_2, e57_3, e57_4, e59_2, e59_3, e59_4] at hL59_4
          have hL59_5 := p59.2.2.2 2 (by decide)
          try simp only [zt0, zt1, zt2, zt3, zt4, zt5, zt6, e36_2, e36_3, e36_4, e54_2, e54_3, e54_4, e57_2, e57_3, e57_4, e59_2, e59_3, e59_4] at hL59_5
          have hL59_6 := p59.2.1 3 (by decide)
          try simp only [zt0, zt1, zt2, zt3, zt4, zt5, zt6, e36_2, e36_3, e36_4, e54_2, e54_3, e54_4, e57_2, e57_3, e57_4, e59_2, e59_3, e59_4] at hL59_6
          have hL59_7 := p59.2.2.2 3 (by decide)
          try simp only [zt0, zt1, zt2, zt3, zt4, zt5, zt6, e36_2, e36_3, e36_4, e54_2, e54_3, e54_4, e57_2, e57_3, e57_4, e59_2, e59_3, e59_4] at hL59_7
          have hL59_8 := p59.2.1 4 (by decide)
          try simp only [zt0, zt1, zt2, zt3, zt4, zt5, zt6, e36_2, e36_3, e36_4, e54_2, e54_3, e54_4, e57_2, e57_3, e57_4, e59_2, e59_3, e59_4] at hL59_8
          have hL59_9 := p59.2.2.2 4 (by decide)
          try simp only [zt0, zt1, zt2, zt3, zt4, zt5, zt6, e36_2, e36_3, e36_4, e54_2, e54_3, e54_4, e57_2, e57_3, e57_4, e59_2, e59_3, e59_4] at hL59_9
          have hL59_10 := p59.2.1 5 (by decide)
          try simp only [zt0, zt1, zt2, zt3, zt4, zt5, zt6, e36_2, e36_3, e36_4, e54_2, e54_3, e54_4, e57_2, e57_3, e57_4, e59_2, e59_3, e59_4] at hL59_10
          have hL59_11 := p59.2.2.2 5 (by decide)
          try simp only [zt0, zt1, zt2, zt3, zt4, zt5, zt6, e36_2, e36_3, e36_4, e54_2, e54_3, e54_4, e57_2, e57_3, e57_4, e59_2, e59_3, e59_4] at hL59_11
          have zs59_x2 : zSm sh r0 t59 x2 = zSm sh r0 t57 x2 := zSm_eq e59_3 e59_4
          have zs59_x3 : zSm sh r0 t59 x3 = zSm sh r0 t57 x3 := zSm_eq e59_3 e59_4
          try simp only [zput_s, zput_n, ti_g, oI_add, oI_sub, oI_mul]
          exact l175_143 q0 (by omega) (by omega) (by omega) (by omega) d1 d2 d3 d4 G _ _ _ _ _ ((FrV.trans (Ns := [1, 2, 3, 4, 9, 10, 11, 12, 13]) ((FrV.trans (Ns := [1, 2, 3, 4, 9, 10, 11, 12, 13]) ((FrV.trans (Ns := [1, 2, 3, 4, 9, 10, 11, 12, 13]) ((FrV.trans (Ns := [1, 2, 3, 4, 9, 10, 11, 12, 13]) (f0) f36 (by decide) (by decide))) f54 (by decide) (by decide))) f57 (by decide) (by decide))) f59 (by decide) (by decide))) (by first | omega | ((try simp only [zt0, zt1, zt2, zt3, zt4, zt5, zt6, e36_2, e36_3, e36_4, e54_2, e54_3, e54_4, e57_2, e57_3, e57_4, e59_2, e59_3, e59_4]); omega)) (fun k hk => by ((try have c0 := hq1 k hk); (try have c0 := hq1 k); (have c3 := e36_2 k); (have c8 := e54_2 k); (have c13 := e57_2 k); (have c18 := e59_2 k); (try simp only [zt0, zt1, zt2, zt3, zt4, zt5, zt6] at *) <;> omega)) (Nat.lt_succ_self _)
        · refine zok_ck ((q0).1) ?_
          refine zok_pI (s134 (q0) (by omega) (by omega) (by first | (omega) | ((try simp only [zt0, zt1, zt2, zt3, zt4, zt5, zt6, e36_2, e36_3, e36_4, e54_2, e54_3, e54_4]); omega)) (by first | (omega) | ((try simp only [zt0, zt1, zt2, zt3, zt4, zt5, zt6, e36_2, e36_3, e36_4, e54_2, e54_3, e54_4]); omega)) (f54.g)) (fun y60 u60 p60 => ?_)
          try simp only [zt0, zt1, zt2, zt3, zt4, zt5, zt6, e36_2, e36_3, e36_4, e54_2, e54_3, e54_4] at p60
          simp only [zput_s, zput_n, ti_g, oI_add, oI_sub, oI_mul, zt0, zt1, zt2, zt3, zt4, zt5, zt6, e36_2, e36_3, e36_4, e54_2, e54_3, e54_4, b175_125]
          try simp only [zput_s, zput_n, ti_g, oI_add, oI_sub, oI_mul]
          first | refine zok_ne (by omega) (fun c62 => ?_) (fun c62 => ?_) | refine zok_if (fun c62 => ?_) (fun c62 => ?_)
          · refine zok_ck ((q0).1) ?_
            have gq63_0 : -1 ≤ tg t54 (sr sh r0 3) (7 * x3 + 5).toNat ∧ tg t54 (sr sh r0 3) (7 * x3 + 5).toNat ≤ tg t54 (sr sh r0 4) (7 * x3 + 5).toNat ∧ tg t54 (sr sh r0 4) (7 * x3 + 5).toNat ≤ 400 := by have g := (f54.g).2.1 (7 * x3 + 5).toNat (by omega); exact ⟨g.1, g.2.1, g.2.2.2 (by omega)⟩
            try simp only [zt0, zt1, zt2, zt3, zt4, zt5, zt6, e36_2, e36_3, e36_4, e54_2, e54_3, e54_4] at gq63_0
            refine zok_c0 (s153 (q0) (by omega) (by omega) (by first | (omega) | ((try simp only [zt0, zt1, zt2, zt3, zt4, zt5, zt6, e36_2, e36_3, e36_4, e54_2, e54_3, e54_4]); omega)) (by first | (omega) | ((try simp only [zt0, zt1, zt2, zt3, zt4, zt5, zt6, e36_2, e36_3, e36_4, e54_2, e54_3, e54_4]); omega)) (f54.g)) (fun t63 p63 => ?_)
            obtain ⟨f63, p63⟩ := p63
            have e63_2 : ∀ k, tg t63 (sr sh r0 2) k = tg t54 (sr sh r0 2) k := fun k => f63.eq q0 (i := 2) (by decide) (by decide) k
            have e63_3 : ∀ k, tg t63 (sr sh r0 3) k = tg t54 (sr sh r0 3) k := fun k => f63.eq q0 (i := 3) (by decide) (by decide) k
            have e63_4 : ∀ k, tg t63 (sr sh r0 4) k = tg t54 (sr sh r0 4) k := fun k => f63.eq q0 (i := 4) (by decide) (by decide) k
            try simp only [zt0, zt1, zt2, zt3, zt4, zt5, zt6, e36_2, e36_3, e36_4, e54_2, e54_3, e54_4, e63_2, e63_3, e63_4] at p63
            have hL63_0 := p63.2.1 0 (by decide)
            try simp only [zt0, zt1, zt2, zt3, zt4, zt5, zt6, e36_2, e36_3, e36_4, e54_2, e54_3, e54_4, e63_2, e63_3, e63_4] at hL63_0
            have hL63_1 := p63.2.2.2 0 (by decide)
            try simp only [zt0, zt1, zt2, zt3, zt4, zt5, zt6, e36_2, e36_3, e36_4, e54_2, e54_3, e54_4, e63_2, e63_3, e63_4] at hL63_1
            have hL63_2 := p63.2.1 1 (by decide)
            try simp only [zt0, zt1, zt2, zt3, zt4, zt5, zt6, e36_2, e36_3, e36_4, e54_2, e54_3, e54_4, e63_2, e63_3, e63_4] at hL63_2
            have hL63_3 := p63.2.2.2 1 (by decide)
            try simp only [zt0, zt1, zt2, zt3, zt4, zt5, zt6, e36_2, e36_3, e36_4, e54_2, e54_3, e54_4, e63_2, e63_3, e63_4] at hL63_3
            have hL63_4 := p63.2.1 2 (by decide)
            try simp only [zt0, zt1, zt2, zt3, zt4, zt5, zt6, e36_2, e36_3, e36_4, e54_2, e54_3, e54_4, e63_2, e63_3, e63_4] at hL63_4
            have hL63_5 := p63.2.2.2 2 (by decide)
            try simp only [zt0, zt1, zt2, zt3, zt4, zt5, zt6, e36_2, e36_3, e36_4, e54_2, e54_3, e54_4, e63_2, e63_3, e63_4] at hL63_5
            have hL63_6 := p63.2.1 3 (by decide)
            try simp only [zt0, zt1, zt2, zt3, zt4, zt5, zt6, e36_2, e36_3, e36_4, e54_2, e54_3, e54_4, e63_2, e63_3, e63_4] at hL63_6
            have hL63_7 := p63.2.2.2 3 (by decide)
            try simp only [zt0, zt1, zt2, zt3, zt4, zt5, zt6, e36_2, e36_3, e36_4, e54_2, e54_3, e54_4, e63_2, e63_3, e63_4] at hL63_7
            have hL63_8 := p63.2.1 4 (by decide)
            try simp only [zt0, zt1, zt2, zt3, zt4, zt5, zt6, e36_2, e36_3, e36_4, e54_2, e54_3, e54_4, e63_2, e63_3, e63_4] at hL63_8
            have hL63_9 := p63.2.2.2 4 (by decide)
            try simp only [zt0, zt1, zt2, zt3, zt4, zt5, zt6, e36_2, e36_3, e36_4, e54_2, e54_3, e54_4, e63_2, e63_3, e63_4] at hL63_9
            have hL63_10 := p63.2.1 6 (by decide)
            try simp only [zt0, zt1, zt2, zt3, zt4, zt5, zt6, e36_2, e36_3, e36_4, e54_2, e54_3, e54_4, e63_2, e63_3, e63_4] at hL63_10
            have hL63_11 := p63.2.2.2 6 (by decide)
            try simp only [zt0, zt1, zt2, zt3, zt4, zt5, zt6, e36_2, e36_3, e36_4, e54_2, e54_3, e54_4, e63_2, e63_3, e63_4] at hL63_11
            have zs63_x2 : zSm sh r0 t63 x2 = zSm sh r0 t54 x2 := zSm_eq e63_3 e63_4
            have zs63_x3 : zSm sh r0 t63 x3 = zSm sh r0 t54 x3 := zSm_eq e63_3 e63_4
            simp only [zput_s, zput_n, ti_g, oI_add, oI_sub, oI_mul, zt0, zt1, zt2, zt3, zt4, zt5, zt6, e36_2, e36_3, e36_4, e54_2, e54_3, e54_4, e63_2, e63_3, e63_4, b175_136]
            try simp only [zput_s, zput_n, ti_g, oI_add, oI_sub, oI_mul]
            refine zok_ck ((q0).1) ?_
            have gq65_0 : -1 ≤ tg t63 (sr sh r0 3) (7 * x3 + 6).toNat ∧ tg t63 (sr sh r0 3) (7 * x3 + 6).toNat ≤ tg t63 (sr sh r0 4) (7 * x3 + 6).toNat ∧ tg t63 (sr sh r0 4) (7 * x3 + 6).toNat ≤ 400 := by have g := (f63.g).2.1 (7 * x3 + 6).toNat (by omega); exact ⟨g.1, g.2.1, g.2.2.2 (by omega)⟩
            try simp only [zt0, zt1, zt2, zt3, zt4, zt5, zt6, e36_2, e36_3, e36_4, e54_2, e54_3, e54_4, e63_2, e63_3, e63_4] at gq65_0
            refine zok_c0 (s153 (q0) (by omega) (by omega) (by first | (omega) | ((try simp only [zt0, zt1, zt2, zt3, zt4, zt5, zt6, e36_2, e36_3, e36_4, e54_2, e54_3, e54_4, e63_2, e63_3, e63_4]); omega)) (by first | (omega) | ((try simp only [zt0, zt1, zt2, zt3, zt4, zt5, zt6, e36_2, e36_3, e36_4, e54_2, e54_3, e54_4, e63_2, e63_3, e63_4]); omega)) (f63.g)) (fun t65 p65 => ?_)
            obtain ⟨f65, p65⟩ := p65
            have e65_2 : ∀ k, tg t65 (sr sh r0 2) k = tg t63 (sr sh r0 2) k := fun k => f65.eq q0 (i := 2) (by decide) (by decide) k
            have e65_3 : ∀ k, tg t65 (sr sh r0 3) k = tg t63 (sr sh r0 3) k := fun k => f65.eq q0 (i := 3) (by decide) (by decide) k
            have e65_4 : ∀ k, tg t65 (sr sh r0 4) k = tg t63 (sr sh r0 4) k := fun k => f65.eq q0 (i := 4) (by decide) (by decide) k
            try simp only [zt0, zt1, zt2, zt3, zt4, zt5, zt6, e36_2, e36_3, e36_4, e54_2, e54_3, e54_4, e63_2, e63_3, e63_4, e65_2, e65_3, e65_4] at p65
            have hL65_0 := p65.2.1 0 (by decide)
            try simp only [zt0, zt1, zt2, zt3, zt4, zt5, zt6, e36_2, e36_3, e36_4, e54_2, e54_3, e54_4, e63_2, e63_3, e63_4, e65_2, e65_3, e65_4] at hL65_0
            have hL65_1 := p65.2.2.2 0 (by decide)
            try simp only [zt0, zt1, zt2, zt3, zt4, zt5, zt6, e36_2, e36_3, e36_4, e54_2, e54_3, e54_4, e63_2, e63_3, e63_4, e65_2, e65_3, e65_4] at hL65_1
            have hL65_2 := p65.2.1 1 (by decide)
            try simp only [zt0, zt1, zt2, zt3, zt4, zt5, zt6, e36_2, e36_3, e36_4, e54_2, e54_3, e54_4, e63_2, e63_3, e63_4, e65_2, e65_3, e65_4] at hL65_2
            have hL65_3 := p65.2.2.2 1 (by decide)
            try simp only [zt0, zt1, zt2, zt3, zt4, zt5, zt6, e36_2, e36_3, e36_4, e54_2, e54_3, e54_4, e63_2, e63_3, e63_4, e65_2, e65_3, e65_4] at hL65_3
            have hL65_4 := p65.2.1 2 (by decide)
            try simp only [zt0, zt1, zt2, zt3, zt4, zt5, zt6, e36_2, e36_3, e36_4, e54_2, e54_3, e54_4, e63_2, e63_3, e63_4, e65_2, e65_3, e65_4] at hL65_4
            have hL65_5 := p65.2.2.2 2 (by decide)
            try simp only [zt0, zt1, zt2, zt3, zt4, zt5, zt6, e36_2, e36_3, e36_4, e54_2, e54_3, e54_4, e63_2, e63_3, e63_4, e65_2, e65_3, e65_4] at hL65_5
            have hL65_6 := p65.2.1 3 (by decide)
            try simp only [zt0, zt1, zt2, zt3, zt4, zt5, zt6, e36_2, e36_3, e36_4, e54_2, e54_3, e54_4, e63_2, e63_3, e63_4, e65_2, e65_3, e65_4] at hL65_6
            have hL65_7 := p65.2.2.2 3 (by decide)
            try simp only [zt0, zt1, zt2, zt3, zt4, zt5, zt6, e36_2, e36_3, e36_4, e54_2, e54_3, e54_4, e63_2, e63_3, e63_4, e65_2, e65_3, e65_4] at hL65_7
            have hL65_8 := p65.2.1 4 (by decide)
            try simp only [zt0, zt1, zt2, zt3, zt4, zt5, zt6, e36_2, e36_3, e36_4, e54_2, e54_3, e54_4, e63_2, e63_3, e63_4, e65_2, e65_3, e65_4] at hL65_8
            have hL65_9 := p65.2.2.2 4 (by decide)
            try simp only [zt0, zt1, zt2, zt3, zt4, zt5, zt6, e36_2, e36_3, e36_4, e54_2, e54_3, e54_4, e63_2, e63_3, e63_4, e65_2, e65_3, e65_4] at hL65_9
            have hL65_10 := p65.2.1 5 (by decide)
            try simp only [zt0, zt1, zt2, zt3, zt4, zt5, zt6, e36_2, e36_3, e36_4, e54_2, e54_3, e54_4, e63_2, e63_3, e63_4, e65_2, e65_3, e65_4] at hL65_10
            have hL65_11 := p65.2.2.2 5 (by decide)
            try simp only [zt0, zt1, zt2, zt3, zt4, zt5, zt6, e36_2, e36_3, e36_4, e54_2, e54_3, e54_4, e63_2, e63_3, e63_4, e65_2, e65_3, e65_4] at hL65_11
            have zs65_x2 : zSm sh r0 t65 x2 = zSm sh r0 t63 x2 := zSm_eq e65_3 e65_4
            have zs65_x3 : zSm sh r0 t65 x3 = zSm sh r0 t63 x3 := zSm_eq e65_3 e65_4
            try simp only [zput_s, zput_n, ti_g, oI_add, oI_sub, oI_mul]
            exact l175_143 q0 (by omega) (by omega) (by omega) (by omega) d1 d2 d3 d4 G _ _ _ _ _ ((FrV.trans (Ns := [1, 2, 3, 4, 9, 10, 11, 12, 13]) ((FrV.trans (Ns := [1, 2, 3, 4, 9, 10, 11, 12, 13]) ((FrV.trans (Ns := [1, 2, 3, 4, 9, 10, 11, 12, 13]) ((FrV.trans (Ns := [1, 2, 3, 4, 9, 10, 11, 12, 13]) (f0) f36 (by decide) (by decide))) f54 (by decide) (by decide))) f63 (by decide) (by decide))) f65 (by decide) (by decide))) (by first | omega | ((try simp only [zt0, zt1, zt2, zt3, zt4, zt5, zt6, e36_2, e36_3, e36_4, e54_2, e54_3, e54_4, e63_2, e63_3, e63_4, e65_2, e65_3, e65_4]); omega)) (fun k hk => by ((try have c0 := hq1 k hk); (try have c0 := hq1 k); (have c3 := e36_2 k); (have c8 := e54_2 k); (have c13 := e63_2 k); (have c18 := e65_2 k); (try simp only [zt0, zt1, zt2, zt3, zt4, zt5, zt6] at *) <;> omega)) (Nat.lt_succ_self _)
          · refine zok_ck ((q0).1) ?_
            have gq66_0 : -1 ≤ tg t54 (sr sh r0 3) (7 * x2 + 5).toNat ∧ tg t54 (sr sh r0 3) (7 * x2 + 5).toNat ≤ tg t54 (sr sh r0 4) (7 * x2 + 5).toNat ∧ tg t54 (sr sh r0 4) (7 * x2 + 5).toNat ≤ 400 := by have g := (f54.g).2.1 (7 * x2 + 5).toNat (by omega); exact ⟨g.1, g.2.1, g.2.2.2 (by omega)⟩
            try simp only [zt0, zt1, zt2, zt3, zt4, zt5, zt6, e36_2, e36_3, e36_4, e54_2, e54_3, e54_4] at gq66_0
            refine zok_c0 (s153 (q0) (by omega) (by omega) (by first | (omega) | ((try simp only [zt0, zt1, zt2, zt3, zt4, zt5, zt6, e36_2, e36_3, e36_4, e54_2, e54_3, e54_4]); omega)) (by first | (omega) | ((try simp only [zt0, zt1, zt2, zt3, zt4, zt5, zt6, e36_2, e36_3, e36_4, e54_2, e54_3, e54_4]); omega)) (f54.g)) (fun t66 p66 => ?_)
            obtain ⟨f66, p66⟩ := p66
            have e66_2 : ∀ k, tg t66 (sr sh r0 2) k = tg t54 (sr sh r0 2) k := fun k => f66.eq q0 (i := 2) (by decide) (by decide) k
            have e66_3 : ∀ k, tg t66 (sr sh r0 3) k = tg t54 (sr sh r0 3) k := fun k => f66.eq q0 (i := 3) (by decide) (by decide) k
            have e66_4 : ∀ k, tg t66 (sr sh r0 4) k = tg t54 (sr sh r0 4) k := fun k => f66.eq q0 (i := 4) (by decide) (by decide) k
            try simp only [zt0, zt1, zt2, zt3, zt4, zt5, zt6, e36_2, e36_3, e36_4, e54_2, e54_3, e54_4, e66_2, e66_3, e66_4] at p66
            have hL66_0 := p66.2.1 0 (by decide)
            try simp only [zt0, zt1, zt2, zt3, zt4, zt5, zt6, e36_2, e36_3, e36_4, e54_2, e54_3, e54_4, e66_2, e66_3, e66_4] at hL66_0
            have hL66_1 := p66.2.2.2 0 (by decide)
            try simp only [zt0, zt1, zt2, zt3, zt4, zt5, zt6, e36_2, e36_3, e36_4, e54_2, e54_3, e54_4, e66_2, e66_3, e66_4] at hL66_1
            have hL66_2 := p66.2.1 1 (by decide)
            try simp only [zt0, zt1, zt2, zt3, zt4, zt5, zt6, e36_2, e36_3, e36_4, e54_2, e54_3, e54_4, e66_2, e66_3, e66_4] at hL66_2
            have hL66_3 := p66.2.2.2 1 (by decide)
            try simp only [zt0, zt1, zt2, zt3, zt4, zt5, zt6, e36_2, e36_3, e36_4, e54_2, e54_3, e54_4, e66_2, e66_3, e66_4] at hL66_3
            have hL66_4 := p66.2.1 2 (by decide)
            try simp only [zt0, zt1, zt2, zt3, zt4, zt5, zt6, e36_2, e36_3, e36_4, e54_2, e54_3, e54_4, e66_2, e66_3, e66_4] at hL66_4
            have hL66_5 := p66.2.2.2 2 (by decide)
            try simp only [zt0, zt1, zt2, zt3, zt4, zt5, zt6, e36_2, e36_3, e36_4, e54_2, e54_3, e54_4, e66_2, e66_3, e66_4] at hL66_5
            have hL66_6 := p66.2.1 3 (by decide)
            try simp only [zt0, zt1, zt2, zt3, zt4, zt5, zt6, e36_2, e36_3, e36_4, e54_2, e54_3, e54_4, e66_2, e66_3, e66_4] at hL66_6
            have hL66_7 := p66.2.2.2 3 (by decide)
            try simp only [zt0, zt1, zt2, zt3, zt4, zt5, zt6, e36_2, e36_3, e36_4, e54_2, e54_3, e54_4, e66_2, e66_3, e66_4] at hL66_7
            have hL66_8 := p66.2.1 4 (by decide)
            try simp only [zt0, zt1, zt2, zt3, zt4, zt5, zt6, e36_2, e36_3, e36_4, e54_2, e54_3, e54_4, e66_2, e66_3, e66_4] at hL66_8
            have hL66_9 := p66.2.2.2 4 (by decide)
            try simp only [zt0, zt1, zt2, zt3, zt4, zt5, zt6, e36_2, e36_3, e36_4, e54_2, e54_3, e54_4, e66_2, e66_3, e66_4] at hL66_9
            have hL66_10 := p66.2.1 6 (by decide)
            try simp only [zt0, zt1, zt2, zt3, zt4, zt5, zt6, e36_2, e36_3, e36_4, e54_2, e54_3, e54_4, e66_2, e66_3, e66_4] at hL66_10
            have hL66_11 := p66.2.2.2 6 (by decide)
            try simp only [zt0, zt1, zt2, zt3, zt4, zt5, zt6, e36_2, e36_3, e36_4, e54_2, e54_3, e54_4, e66_2, e66_3, e66_4] at hL66_11
            have zs66_x2 : zSm sh r0 t66 x2 = zSm sh r0 t54 x2 := zSm_eq e66_3 e66_4
            have zs66_x3 : zSm sh r0 t66 x3 = zSm sh r0 t54 x3 := zSm_eq e66_3 e66_4
            simp only [zput_s, zput_n, ti_g, oI_add, oI_sub, oI_mul, zt0, zt1, zt2, zt3, zt4, zt5, zt6, e36_2, e36_3, e36_4, e54_2, e54_3, e54_4, e66_2, e66_3, e66_4, b175_136]
            try simp only [zput_s, zput_n, ti_g, oI_add, oI_sub, oI_mul]
            refine zok_ck ((q0).1) ?_
            have gq68_0 : -1 ≤ tg t66 (sr sh r0 3) (7 * x3 + 6).toNat ∧ tg t66 (sr sh r0 3) (7 * x3 + 6).toNat ≤ tg t66 (sr sh r0 4) (7 * x3 + 6).toNat ∧ tg t66 (sr sh r0 4) (7 * x3 + 6).toNat ≤ 400 := by have g := (f66.g).2.1 (7 * x3 + 6).toNat (by omega); exact ⟨g.1, g.2.1, g.2.2.2 (by omega)⟩
            try simp only [zt0, zt1, zt2, zt3, zt4, zt5, zt6, e36_2, e36_3, e36_4, e54_2, e54_3, e54_4, e66_2, e66_3, e66_4] at gq68_0
            refine zok_c0 (s153 (q0) (by omega) (by omega) (by first | (omega) | ((try simp only [zt0, zt1, zt2, zt3, zt4, zt5, zt6, e36_2, e36_3, e36_4, e54_2, e54_3, e54_4, e66_2, e66_3, e66_4]); omega)) (by first | (omega) | ((try simp only [zt0, zt1, zt2, zt3, zt4, zt5, zt6, e36_2, e36_3, e36_4, e54_2, e54_3, e54_4, e66_2, e66_3, e66_4]); omega)) (f66.g)) (fun t68 p68 => ?_)
            obtain ⟨f68, p68⟩ := p68
            have e68_2 : ∀ k, tg t68 (sr sh r0 2) k = tg t66 (sr sh r0 2) k := fun k => f68.eq q0 (i := 2) (by decide) (by decide) k
            have e68_3 : ∀ k, tg t68 (sr sh r0 3) k = tg t66 (sr sh r0 3) k := fun k => f68.eq q0 (i := 3) (by decide) (by decide) k
            have e68_4 : ∀ k, tg t68 (sr sh r0 4) k = tg t66 (sr sh r0 4) k := fun k => f68.eq q0 (i := 4) (by decide) (by decide) k
            try simp only [zt0, zt1, zt2, zt3, zt4, zt5, zt6, e36_2, e36_3, e36_4, e54_2, e54_3, e54_4, e66_2, e66_3, e66_4, e68_2, e68_3, e68_4] at p68
            have hL68_0 := p68.2.1 0 (by decide)
            try simp only [zt0, zt1, zt2, zt3, zt4, zt5, zt6, e36_2, e36_3, e36_4, e54_2, e54_3, e54_4, e66_2, e66_3, e66_4, e68_2, e68_3, e68_4] at hL68_0
            have hL68_1 := p68.2.2.2 0 (by decide)
            try simp only [zt0, zt1, zt2, zt3, zt4, zt5, zt6, e36_2, e36_3, e36_4, e54_2, e54_3, e54_4, e66_2, e66_3, e66_4, e68_2, e68_3, e68_4] at hL68_1
            have hL68_2 := p68.2.1 1 (by decide)
            try simp only [zt0, zt1, zt2, zt3, zt4, zt5, zt6, e36_2, e36_3, e36_4, e54_2, e54_3, e54_4, e66_2, e66_3, e66_4, e68_2, e68_3, e68_4] at hL68_2
            have hL68_3 := p68.2.2.2 1 (by decide)
            try simp only [zt0, zt1, zt2, zt3, zt4, zt5, zt6, e36_2, e36_3, e36_4, e54_2, e54_3, e54_4, e66_2, e66_3, e66_4, e68_2, e68_3, e68_4] at hL68_3
            have hL68_4 := p68.2.1 2 (by decide)
            try simp only [zt0, zt1, zt2, zt3, zt4, zt5, zt6, e36_2, e36_3, e36_4, e54_2, e54_3, e54_4, e66_2, e66_3, e66_4, e68_2, e68_3, e68_4] at hL68_4
            have hL68_5 := p68.2.2.2 2 (by decide)
            try simp only [zt0, zt1, zt2, zt3, zt4, zt5, zt6, e36_2, e36_3, e36_4, e54_2, e54_3, e54_4, e66_2, e66_3, e66_4, e68_2, e68_3, e68_4] at hL68_5
            have hL68_6 := p68.2.1 3 (by decide)
            try simp only [zt0, zt1, zt2, zt3, zt4, zt5, zt6, e36_2, e36_3, e36_4, e54_2, e54_3, e54_4, e66_2, e66_3, e66_4, e68_2, e68_3, e68_4] at hL68_6
            have hL68_7 := p68.2.2.2 3 (by decide)
            try simp only [zt0, zt1, zt2, zt3, zt4, zt5, zt6, e36_2, e36_3, e36_4, e54_2, e54_3, e54_4, e66_2, e66_3, e66_4, e68_2, e68_3, e68_4] at hL68_7
            have hL68_8 := p68.2.1 4 (by decide)
            try simp only [zt0, zt1, zt2, zt3, zt4, zt5, zt6, e36_2, e36_3, e36_4, e54_2, e54_3, e54_4, e66_2, e66_3, e66_4, e68_2, e68_3, e68_4] at hL68_8
            have hL68_9 := p68.2.2.2 4 (by decide)
            try simp only [zt0, zt1, zt2, zt3, zt4, zt5, zt6, e36_2, e36_3, e36_4, e54_2, e54_3, e54_4, e66_2, e66_3, e66_4, e68_2, e68_3, e68_4] at hL68_9
            have hL68_10 := p68.2.1 5 (by decide)
            try simp only [zt0, zt1, zt2, zt3, zt4, zt5, zt6, e36_2, e36_3, e36_4, e54_2, e54_3, e54_4, e66_2, e66_3, e66_4, e68_2, e68_3, e68_4] at hL68_10
            have hL68_11 := p68.2.2.2 5 (by decide)
            try simp only [zt0, zt1, zt2, zt3, zt4, zt5, zt6, e36_2, e36_3, e36_4, e54_2, e54_3, e54_4, e66_2, e66_3, e66_4, e68_2, e68_3, e68_4] at hL68_11
            have zs68_x2 : zSm sh r0 t68 x2 = zSm sh r0 t66 x2 := zSm_eq e68_3 e68_4
            have zs68_x3 : zSm sh r0 t68 x3 = zSm sh r0 t66 x3 := zSm_eq e68_3 e68_4
            try simp only [zput_s, zput_n, ti_g, oI_add, oI_sub, oI_mul]
            exact l175_143 q0 (by omega) (by omega) (by omega) (by omega) d1 d2 d3 d4 G _ _ _ _ _ ((FrV.trans (Ns := [1, 2, 3, 4, 9, 10, 11, 12, 13]) ((FrV.trans (Ns := [1, 2, 3, 4, 9, 10, 11, 12, 13]) ((FrV.trans (Ns := [1, 2, 3, 4, 9, 10, 11, 12, 13]) ((FrV.trans (Ns := [1, 2, 3, 4, 9, 10, 11, 12, 13]) (f0) f36 (by decide) (by decide))) f54 (by decide) (by decide))) f66 (by decide) (by decide))) f68 (by decide) (by decide))) (by first | omega | ((try simp only [zt0, zt1, zt2, zt3, zt4, zt5, zt6, e36_2, e36_3, e36_4, e54_2, e54_3, e54_4, e66_2, e66_3, e66_4, e68_2, e68_3, e68_4]); omega)) (fun k hk => by ((try have c0 := hq1 k hk); (try have c0 := hq1 k); (have c3 := e36_2 k); (have c8 := e54_2 k); (have c13 := e66_2 k); (have c18 := e68_2 k); (try simp only [zt0, zt1, zt2, zt3, zt4, zt5, zt6] at *) <;> omega)) (Nat.lt_succ_self _)
theorem s175 {sh : zSh} {t : zSt} {MB : Nat} {r0 : Nat} (q0 : zMd sh MB r0) {x1 : Int} (u1 : -2147483648 ≤ x1 ∧ x1 ≤ 2147483647) {x2 : Int} (u2 : -2147483648 ≤ x2 ∧ x2 ≤ 2147483647) {x3 : Int} (u3 : -2147483648 ≤ x3 ∧ x3 ≤ 2147483647) {x4 : Int} (u4 : -2147483648 ≤ x4 ∧ x4 ≤ 2147483647) (d1 : 8 ≤ x1 ∧ x1 ≤ 12) (d2 : 0 ≤ x2 ∧ x2 ≤ 7) (d3 : 0 ≤ x3 ∧ x3 ≤ 11) (d4 : tg t (sr sh r0 2) (x3).toNat ≤ 400) (G : GI sh r0 t) : zok (zcl zP 175 [zR r0, zI (oI x1), zI (oI x2), zI (oI x3), zI (oI x4)] (sh, t)) (zq0 (fun t' => FrV sh r0 [1, 2, 3, 4, 9, 10, 11, 12, 13] t t' ∧ (∀ k, k ≠ (x1).toNat → tg t' (sr sh r0 2) k = tg t (sr sh r0 2) k)) sh) := by
  have ha0_1 : (sk sh (sr sh r0 1)).2 = 21000 := by rw [q0.2.2.2.2.1]
  have ha0_2 : (sk sh (sr sh r0 2)).2 = 14 := by rw [q0.2.2.2.2.2.1]
  have ha0_3 : (sk sh (sr sh r0 3)).2 = 98 := by rw [q0.2.2.2.2.2.2.1]
  have ha0_4 : (sk sh (sr sh r0 4)).2 = 98 := by rw [q0.2.2.2.2.2.2.2.1]
  have ha0_8 : (sk sh (sr sh r0 8)).2 = 1500 := by rw [q0.2.2.2.2.2.2.2.2.1]
  have ha0_9 : (sk sh (sr sh r0 9)).2 = 10500 := by rw [q0.2.2.2.2.2.2.2.2.2.1]
  have ha0_10 : (sk sh (sr sh r0 10)).2 = 7 := by rw [q0.2.2.2.2.2.2.2.2.2.2.1]
  have ha0_11 : (sk sh (sr sh r0 11)).2 = 7 := by rw [q0.2.2.2.2.2.2.2.2.2.2.2.1]
  have ha0_12 : (sk sh (sr sh r0 12)).2 = 1500 := by rw [q0.2.2.2.2.2.2.2.2.2.2.2.2.1]
  have ha0_13 : (sk sh (sr sh r0 13)).2 = 1500 := by rw [q0.2.2.2.2.2.2.2.2.2.2.2.2.2.1]
  have ha0_14 : (sk sh (sr sh r0 14)).2 = 20 := by rw [q0.2.2.2.2.2.2.2.2.2.2.2.2.2.2]
  have gz := G.1 (x2).toNat (by omega)
  rw [b175_0]
  try simp only [zput_s, zput_n, ti_g, oI_add, oI_sub, oI_mul]
  refine zok_ck ((q0).1) ?_
  refine zok_c0 (s138 (q0) (by omega) (by first | (omega) | ((try simp only [zt0, zt1, zt2, zt3, zt4, zt5, zt6]); omega)) (by first | (omega) | ((try simp only [zt0, zt1, zt2, zt3, zt4, zt5, zt6]); omega)) (G)) (fun t70 p70 => ?_)
  obtain ⟨f70, p70⟩ := p70
  have e70_2 : ∀ k, tg t70 (sr sh r0 2) k = tg t (sr sh r0 2) k := fun k => f70.eq q0 (i := 2) (by decide) (by decide) k
  have e70_10 : ∀ k, tg t70 (sr sh r0 10) k = tg t (sr sh r0 10) k := fun k => f70.eq q0 (i := 10) (by decide) (by decide) k
  have e70_11 : ∀ k, tg t70 (sr sh r0 11) k = tg t (sr sh r0 11) k := fun k => f70.eq q0 (i := 11) (by decide) (by decide) k
  try simp only [zt0, zt1, zt2, zt3, zt4, zt5, zt6, e70_2, e70_10, e70_11] at p70
  have zc70 : zSm sh r0 t70 x2 ≤ 400 := by unfold zSm; omega
  simp only [zput_s, zput_n, ti_g, oI_add, oI_sub, oI_mul, zt0, zt1, zt2, zt3, zt4, zt5, zt6, e70_2, e70_10, e70_11, b175_5]
  try simp only [zput_s, zput_n, ti_g, oI_add, oI_sub, oI_mul]
  refine zok_ck ((q0).1) ?_
  refine zok_c0 (s138 (q0) (by omega) (by first | (omega) | ((try simp only [zt0, zt1, zt2, zt3, zt4, zt5, zt6, e70_2, e70_10, e70_11]); omega)) (by first | (omega) | ((try simp only [zt0, zt1, zt2, zt3, zt4, zt5, zt6, e70_2, e70_10, e70_11]); omega)) (f70.g)) (fun t72 p72 => ?_)
  obtain ⟨f72, p72⟩ := p72
  have e72_2 : ∀ k, tg t72 (sr sh r0 2) k = tg t70 (sr sh r0 2) k := fun k => f72.eq q0 (i := 2) (by decide) (by decide) k
  have e72_10 : ∀ k, tg t72 (sr sh r0 10) k = tg t70 (sr sh r0 10) k := fun k => f72.eq q0 (i := 10) (by decide) (by decide) k
  have e72_11 : ∀ k, tg t72 (sr sh r0 11) k = tg t70 (sr sh r0 11) k := fun k => f72.eq q0 (i := 11) (by decide) (by decide) k
  try simp only [zt0, zt1, zt2, zt3, zt4, zt5, zt6, e70_2, e70_10, e70_11, e72_2, e72_10, e72_11] at p72
  have zc72 : zSm sh r0 t72 x3 ≤ 400 := by unfold zSm; omega
  have zd72 : zSm sh r0 t72 x2 ≤ 400 := zSm_fr2 p72.1 (by omega) (by omega) (by assumption) zc72
  simp only [zput_s, zput_n, ti_g, oI_add, oI_sub, oI_mul, zt0, zt1, zt2, zt3, zt4, zt5, zt6, e70_2, e70_10, e70_11, e72_2, e72_10, e72_11, b175_10]
  try simp only [zput_s, zput_n, ti_g, oI_add, oI_sub, oI_mul]
  refine zok_ck ((q0).1) ?_
  refine zok_pI (s134 (q0) (by omega) (by omega) (by first | (omega) | ((try simp only [zt0, zt1, zt2, zt3, zt4, zt5, zt6, e70_2, e70_10, e70_11, e72_2, e72_10, e72_11]); omega)) (by first | (omega) | ((try simp only [zt0, zt1, zt2, zt3, zt4, zt5, zt6, e70_2, e70_10, e70_11, e72_2, e72_10, e72_11]); omega)) (f72.g)) (fun y74 u74 p74 => ?_)
  try simp only [zt0, zt1, zt2, zt3, zt4, zt5, zt6, e70_2, e70_10, e70_11, e72_2, e72_10, e72_11] at p74
  simp only [zput_s, zput_n, ti_g, oI_add, oI_sub, oI_mul, zt0, zt1, zt2, zt3, zt4, zt5, zt6, e70_2, e70_10, e70_11, e72_2, e72_10, e72_11, b175_16]
  try simp only [zput_s, zput_n, ti_g, oI_add, oI_sub, oI_mul]
  first | refine zok_eq (by omega) (fun c76 => ?_) (fun c76 => ?_) | refine zok_if (fun c76 => ?_) (fun c76 => ?_)
  · simp only [zput_s, zput_n, ti_g, oI_add, oI_sub, oI_mul, zt0, zt1, zt2, zt3, zt4, zt5, zt6, e70_2, e70_10, e70_11, e72_2, e72_10, e72_11, b175_41]
    try simp only [zput_s, zput_n, ti_g, oI_add, oI_sub, oI_mul]
    refine zok_ck ((q0).1) ?_
    refine zok_pI (s134 (q0) (by omega) (by omega) (by first | (omega) | ((try simp only [zt0, zt1, zt2, zt3, zt4, zt5, zt6, e70_2, e70_10, e70_11, e72_2, e72_10, e72_11]); omega)) (by first | (omega) | ((try simp only [zt0, zt1, zt2, zt3, zt4, zt5, zt6, e70_2, e70_10, e70_11, e72_2, e72_10, e72_11]); omega)) (f72.g)) (fun y78 u78 p78 => ?_)
    try simp only [zt0, zt1, zt2, zt3, zt4, zt5, zt6, e70_2, e70_10, e70_11, e72_2, e72_10, e72_11] at p78
    simp only [zput_s, zput_n, ti_g, oI_add, oI_sub, oI_mul, zt0, zt1, zt2, zt3, zt4, zt5, zt6, e70_2, e70_10, e70_11, e72_2, e72_10, e72_11, b175_52]
    try simp only [zput_s, zput_n, ti_g, oI_add, oI_sub, oI_mul]
    first | refine zok_eq (by omega) (fun c80 => ?_) (fun c80 => ?_) | refine zok_if (fun c80 => ?_) (fun c80 => ?_)
    · simp only [zput_s, zput_n, ti_g, oI_add, oI_sub, oI_mul, zt0, zt1, zt2, zt3, zt4, zt5, zt6, e70_2, e70_10, e70_11, e72_2, e72_10, e72_11, b175_62]
      try simp only [zput_s, zput_n, ti_g, oI_add, oI_sub, oI_mul]
      refine zok_ck ((q0).1) ?_
      refine zok_pI (s135 (q0) (by omega) (by omega) (by first | (omega) | ((try simp only [zt0, zt1, zt2, zt3, zt4, zt5, zt6, e70_2, e70_10, e70_11, e72_2, e72_10, e72_11]); omega)) (by first | (omega) | ((try simp only [zt0, zt1, zt2, zt3, zt4, zt5, zt6, e70_2, e70_10, e70_11, e72_2, e72_10, e72_11]); omega)) (f72.g)) (fun y82 u82 p82 => ?_)
      try simp only [zt0, zt1, zt2, zt3, zt4, zt5, zt6, e70_2, e70_10, e70_11, e72_2, e72_10, e72_11] at p82
      simp only [zput_s, zput_n, ti_g, oI_add, oI_sub, oI_mul, zt0, zt1, zt2, zt3, zt4, zt5, zt6, e70_2, e70_10, e70_11, e72_2, e72_10, e72_11, b175_73]
      try simp only [zput_s, zput_n, ti_g, oI_add, oI_sub, oI_mul]
      first | refine zok_ne (by omega) (fun c84 => ?_) (fun c84 => ?_) | refine zok_if (fun c84 => ?_) (fun c84 => ?_)
      · try simp only [zput_s, zput_n, ti_g, oI_add, oI_sub, oI_mul]
        exact l175_83 q0 (by omega) (by omega) (by omega) (by omega) d1 d2 d3 d4 G _ _ _ _ _ ((FrV.trans (Ns := [1, 2, 3, 4, 9, 10, 11, 12, 13]) ((FrV.trans (Ns := [1, 2, 3, 4, 9, 10, 11, 12, 13]) (FrV.refl (Ls := []) G) f70 (by decide) (by decide))) f72 (by decide) (by decide))) (by first | omega | ((try simp only [zt0, zt1, zt2, zt3, zt4, zt5, zt6, e70_2, e70_10, e70_11, e72_2, e72_10, e72_11]); omega)) (fun k hk => by ((try have c0 := hq1 k hk); (try have c0 := hq1 k); (have c1 := e70_2 k); (have c4 := e72_2 k); (try simp only [zt0, zt1, zt2, zt3, zt4, zt5, zt6] at *) <;> omega)) (Nat.lt_succ_self _)
      · try simp only [zput_s, zput_n, ti_g, oI_add, oI_sub, oI_mul]
        exact l175_83 q0 (by omega) (by omega) (by omega) (by omega) d1 d2 d3 d4 G _ _ _ _ _ ((FrV.trans (Ns := [1, 2, 3, 4, 9, 10, 11, 12, 13]) ((FrV.trans (Ns := [1, 2, 3, 4, 9, 10, 11, 12, 13]) (FrV.refl (Ls := []) G) f70 (by decide) (by decide))) f72 (by decide) (by decide))) (by first | omega | ((try simp only [zt0, zt1, zt2, zt3, zt4, zt5, zt6, e70_2, e70_10, e70_11, e72_2, e72_10, e72_11]); omega)) (fun k hk => by ((try have c0 := hq1 k hk); (try have c0 := hq1 k); (have c1 := e70_2 k); (have c4 := e72_2 k); (try simp only [zt0, zt1, zt2, zt3, zt4, zt5, zt6] at *) <;> omega)) (Nat.lt_succ_self _)
    · simp only [zput_s, zput_n, ti_g, oI_add, oI_sub, oI_mul, zt0, zt1, zt2, zt3, zt4, zt5, zt6, e70_2, e70_10, e70_11, e72_2, e72_10, e72_11, b175_62]
      try simp only [zput_s, zput_n, ti_g, oI_add, oI_sub, oI_mul]
      first | refine zok_ne (by omega) (fun c86 => ?_) (fun c86 => ?_) | refine zok_if (fun c86 => ?_) (fun c86 => ?_)
      · try simp only [zput_s, zput_n, ti_g, oI_add, oI_sub, oI_mul]
        exact l175_83 q0 (by omega) (by omega) (by omega) (by omega) d1 d2 d3 d4 G _ _ _ _ _ ((FrV.trans (Ns := [1, 2, 3, 4, 9, 10, 11, 12, 13]) ((FrV.trans (Ns := [1, 2, 3, 4, 9, 10, 11, 12, 13]) (FrV.refl (Ls := []) G) f70 (by decide) (by decide))) f72 (by decide) (by decide))) (by first | omega | ((try simp only [zt0, zt1, zt2, zt3, zt4, zt5, zt6, e70_2, e70_10, e70_11, e72_2, e72_10, e72_11]); omega)) (fun k hk => by ((try have c0 := hq1 k hk); (try have c0 := hq1 k); (have c1 := e70_2 k); (have c4 := e72_2 k); (try simp only [zt0, zt1, zt2, zt3, zt4, zt5, zt6] at *) <;> omega)) (Nat.lt_succ_self _)
      · refine zok_ck ((q0).1) ?_
        refine zok_pI (s135 (q0) (by omega) (by omega) (by first | (omega) | ((try simp only [zt0, zt1, zt2, zt3, zt4, zt5, zt6, e70_2, e70_10, e70_11, e72_2, e72_10, e72_11]); omega)) (by first | (omega) | ((try simp only [zt0, zt1, zt2, zt3, zt4, zt5, zt6, e70_2, e70_10, e70_11, e72_2, e72_10, e72_11]); omega)) (f72.g)) (fun y87 u87 p87 => ?_)
        try simp only [zt0, zt1, zt2, zt3, zt4, zt5, zt6, e70_2, e70_10, e70_11, e72_2, e72_10, e72_11] at p87
        simp only [zput_s, zput_n, ti_g, oI_add, oI_sub, oI_mul, zt0, zt1, zt2, zt3, zt4, zt5, zt6, e70_2, e70_10, e70_11, e72_2, e72_10, e72_11, b175_73]
        try simp only [zput_s, zput_n, ti_g, oI_add, oI_sub, oI_mul]
        first | refine zok_ne (by omega) (fun c89 => ?_) (fun c89 => ?_) | refine zok_if (fun c89 => ?_) (fun c89 => ?_)
        · try simp only [zput_s, zput_n, ti_g, oI_add, oI_sub, oI_mul]
          exact l175_83 q0 (by omega) (by omega) (by omega) (by omega) d1 d2 d3 d4 G _ _ _ _ _ ((FrV.trans (Ns := [1, 2, 3, 4, 9, 10, 11, 12, 13]) ((FrV.trans (Ns := [1, 2, 3, 4, 9, 10, 11, 12, 13]) (FrV.refl (Ls := []) G) f70 (by decide) (by decide))) f72 (by decide) (by decide))) (by first | omega | ((try simp only [zt0, zt1, zt2, zt3, zt4, zt5, zt6, e70_2, e70_10, e70_11, e72_2, e72_10, e72_11]); omega)) (fun k hk => by ((try have c0 := hq1 k hk); (try have c0 := hq1 k); (have c1 := e70_2 k); (have c4 := e72_2 k); (try simp only [zt0, zt1, zt2, zt3, zt4, zt5, zt6] at *) <;> omega)) (Nat.lt_succ_self _)
        · try simp only [zput_s, zput_n, ti_g, oI_add, oI_sub, oI_mul]
          exact l175_83 q0 (by omega) (by omega) (by omega) (by omega) d1 d2 d3 d4 G _ _ _ _ _ ((FrV.trans (Ns := [1, 2, 3, 4, 9, 10, 11, 12, 13]) ((FrV.trans (Ns := [1, 2, 3, 4, 9, 10, 11, 12, 13]) (FrV.refl (Ls := []) G) f70 (by decide) (by decide))) f72 (by decide) (by decide))) (by first | omega | ((try simp only [zt0, zt1, zt2, zt3, zt4, zt5, zt6, e70_2, e70_10, e70_11, e72_2, e72_10, e72_11]); omega)) (fun k hk => by ((try have c0 := hq1 k hk); (try have c0 := hq1 k); (have c1 := e70_2 k); (have c4 := e72_2 k); (try simp only [zt0, zt1, zt2, zt3, zt4, zt5, zt6] at *) <;> omega)) (Nat.lt_succ_self _)
  · first | refine zok_ne (by omega) (fun c90 => ?_) (fun c90 => ?_) | refine zok_if (fun c90 => ?_) (fun c90 => ?_)
    · simp only [zput_s, zput_n, ti_g, oI_add, oI_sub, oI_mul, zt0, zt1, zt2, zt3, zt4, zt5, zt6, e70_2, e70_10, e70_11, e72_2, e72_10, e72_11, b175_41]
      try simp only [zput_s, zput_n, ti_g, oI_add, oI_sub, oI_mul]
      first | refine zok_ne (by omega) (fun c92 => ?_) (fun c92 => ?_) | refine zok_if (fun c92 => ?_) (fun c92 => ?_)
      · simp only [zput_s, zput_n, ti_g, oI_add, oI_sub, oI_mul, zt0, zt1, zt2, zt3, zt4, zt5, zt6, e70_2, e70_10, e70_11, e72_2, e72_10, e72_11, b175_62]
        try simp only [zput_s, zput_n, ti_g, oI_add, oI_sub, oI_mul]
        first | refine zok_ne (by omega) (fun c94 => ?_) (fun c94 => ?_) | refine zok_if (fun c94 => ?_) (fun c94 => ?_)
        · try simp only [zput_s, zput_n, ti_g, oI_add, oI_sub, oI_mul]
          exact l175_83 q0 (by omega) (by omega) (by omega) (by omega) d1 d2 d3 d4 G _ _ _ _ _ ((FrV.trans (Ns := [1, 2, 3, 4, 9, 10, 11, 12, 13]) ((FrV.trans (Ns := [1, 2, 3, 4, 9, 10, 11, 12, 13]) (FrV.refl (Ls := []) G) f70 (by decide) (by decide))) f72 (by decide) (by decide))) (by first | omega | ((try simp only [zt0, zt1, zt2, zt3, zt4, zt5, zt6, e70_2, e70_10, e70_11, e72_2, e72_10, e72_11]); omega)) (fun k hk => by ((try have c0 := hq1 k hk); (try have c0 := hq1 k); (have c1 := e70_2 k); (have c4 := e72_2 k); (try simp only [zt0, zt1, zt2, zt3, zt4, zt5, zt6] at *) <;> omega)) (Nat.lt_succ_self _)
        · refine zok_ck ((q0).1) ?_
          refine zok_pI (s135 (q0) (by omega) (by omega) (by first | (omega) | ((try simp only [zt0, zt1, zt2, zt3, zt4, zt5, zt6, e70_2, e70_10, e70_11, e72_2, e72_10, e72_11]); omega)) (by first | (omega) | ((try simp only [zt0, zt1, zt2, zt3, zt4, zt5, zt6, e70_2, e70_10, e70_11, e72_2, e72_10, e72_11]); omega)) (f72.g)) (fun y95 u95 p95 => ?_)
          try simp only [zt0, zt1, zt2, zt3, zt4, zt5, zt6, e70_2, e70_10, e70_11, e72_2, e72_10, e72_11] at p95
          simp only [zput_s, zput_n, ti_g, oI_add, oI_sub, oI_mul, zt0, zt1, zt2, zt3, zt4, zt5, zt6, e70_2, e70_10, e70_11, e72_2, e72_10, e72_11, b175_73]
          try simp only [zput_s, zput_n, ti_g, oI_add, oI_sub, oI_mul]
          first | refine zok_ne (by omega) (fun c97 => ?_) (fun c97 => ?_) | refine zok_if (fun c97 => ?_) (fun c97 => ?_)
          · try simp only [zput_s, zput_n, ti_g, oI_add, oI_sub, oI_mul]
            exact l175_83 q0 (by omega) (by omega) (by omega) (by omega) d1 d2 d3 d4 G _ _ _ _ _ ((FrV.trans (Ns := [1, 2, 3, 4, 9, 10, 11, 12, 13]) ((FrV.trans (Ns := [1, 2, 3, 4, 9, 10, 11, 12, 13]) (FrV.refl (Ls := []) G) f70 (by decide) (by decide))) f72 (by decide) (by decide))) (by first | omega | ((try simp only [zt0, zt1, zt2, zt3, zt4, zt5, zt6, e70_2, e70_10, e70_11, e72_2, e72_10, e72_11]); omega)) (fun k hk => by ((try have c0 := hq1 k hk); (try have c0 := hq1 k); (have c1 := e70_2 k); (have c4 := e72_2 k); (try simp only [zt0, zt1, zt2, zt3, zt4, zt5, zt6] at *) <;> omega)) (Nat.lt_succ_self _)
          · try simp only [zput_s, zput_n, ti_g, oI_add, oI_sub, oI_mul]
            exact l175_83 q0 (by omega) (by omega) (by omega) (by omega) d1 d2 d3 d4 G _ _ _ _ _ ((FrV.trans (Ns := [1, 2, 3, 4, 9, 10, 11, 12, 13]) ((FrV.trans (Ns := [1, 2, 3, 4, 9, 10, 11, 12, 13]) (FrV.refl (Ls := []) G) f70 (by decide) (by decide))) f72 (by decide) (by decide))) (by first | omega | ((try simp only [zt0, zt1, zt2, zt3, zt4, zt5, zt6, e70_2, e70_10, e70_11, e72_2, e72_10, e72_11]); omega)) (fun k hk => by ((try have c0 := hq1 k hk); (try have c0 := hq1 k); (have c1 := e70_2 k); (have c4 := e72_2 k); (try simp only [zt0, zt1, zt2, zt3, zt4, zt5, zt6] at *) <;> omega)) (Nat.lt_succ_self _)
      · refine zok_ck ((q0).1) ?_
        refine zok_pI (s134 (q0) (by omega) (by omega) (by first | (omega) | ((try simp only [zt0, zt1, zt2, zt3, zt4, zt5, zt6, e70_2, e70_10, e70_11, e72_2, e72_10, e72_11]); omega)) (by first | (omega) | ((try simp only [zt0, zt1, zt2, zt3, zt4, zt5, zt6, e70_2, e70_10, e70_11, e72_2, e72_10, e72_11]); omega)) (f72.g)) (fun y98 u98 p98 => ?_)
        try simp only [zt0, zt1, zt2, zt3, zt4, zt5, zt6, e70_2, e70_10, e70_11, e72_2, e72_10, e72_11] at p98
        simp only [zput_s, zput_n, ti_g, oI_add, oI_sub, oI_mul, zt0, zt1, zt2, zt3, zt4, zt5, zt6, e70_2, e70_10, e70_11, e72_2, e72_10, e72_11, b175_52]
        try simp only [zput_s, zput_n, ti_g, oI_add, oI_sub, oI_mul]
        first | refine zok_eq (by omega) (fun c100 => ?_) (fun c100 => ?_) | refine zok_if (fun c100 => ?_) (fun c100 => ?_)
        · simp only [zput_s, zput_n, ti_g, oI_add, oI_sub, oI_mul, zt0, zt1, zt2, zt3, zt4, zt5, zt6, e70_2, e70_10, e70_11, e72_2, e72_10, e72_11, b175_62]
          try simp only [zput_s, zput_n, ti_g, oI_add, oI_sub, oI_mul]
          refine zok_ck ((q0).1) ?_
          refine zok_pI (s135 (q0) (by omega) (by omega) (by first | (omega) | ((try simp only [zt0, zt1, zt2, zt3, zt4, zt5, zt6, e70_2, e70_10, e70_11, e72_2, e72_10, e72_11]); omega)) (by first | (omega) | ((try simp only [zt0, zt1, zt2, zt3, zt4, zt5, zt6, e70_2, e70_10, e70_11, e72_2, e72_10, e72_11]); omega)) (f72.g)) (fun y102 u102 p102 => ?_)
          try simp only [zt0, zt1, zt2, zt3, zt4, zt5, zt6, e70_2, e70_10, e70_11, e72_2, e72_10, e72_11] at p102
          simp only [zput_s, zput_n, ti_g, oI_add, oI_sub, oI_mul, zt0, zt1, zt2, zt3, zt4, zt5, zt6, e70_2, e70_10, e70_11, e72_2, e72_10, e72_11, b175_73]
          try simp only [zput_s, zput_n, ti_g, oI_add, oI_sub, oI_mul]
          first | refine zok_ne (by omega) (fun c104 => ?_) (fun c104 => ?_) | refine zok_if (fun c104 => ?_) (fun c104 => ?_)
          · try simp only [zput_s, zput_n, ti_g, oI_add, oI_sub, oI_mul]
            exact l175_83 q0 (by omega) (by omega) (by omega) (by omega) d1 d2 d3 d4 G _ _ _ _ _ ((FrV.trans (Ns := [1, 2, 3, 4, 9, 10, 11, 12, 13]) ((FrV.trans (Ns := [1, 2, 3, 4, 9, 10, 11, 12, 13]) (FrV.refl (Ls := []) G) f70 (by decide) (by decide))) f72 (by decide) (by decide))) (by first | omega | ((try simp only [zt0, zt1, zt2, zt3, zt4, zt5, zt6, e70_2, e70_10, e70_11, e72_2, e72_10, e72_11]); omega)) (fun k hk => by ((try have c0 := hq1 k hk); (try have c0 := hq1 k); (have c1 := e70_2 k); (have c4 := e72_2 k); (try simp only [zt0, zt1, zt2, zt3, zt4, zt5, zt6] at *) <;> omega)) (Nat.lt_succ_self _)
          · try simp only [zput_s, zput_n, ti_g, oI_add, oI_sub, oI_mul]
            exact l175_83 q0 (by omega) (by omega) (by omega) (by omega) d1 d2 d3 d4 G _ _ _ _ _ ((FrV.trans (Ns := [1, 2, 3, 4, 9, 10, 11, 12, 13]) ((FrV.trans (Ns := [1, 2, 3, 4, 9, 10, 11, 12, 13]) (FrV.refl (Ls := []) G) f70 (by decide) (by decide))) f72 (by decide) (by decide))) (by first | omega | ((try simp only [zt0, zt1, zt2, zt3, zt4, zt5, zt6, e70_2, e70_10, e70_11, e72_2, e72_10, e72_11]); omega)) (fun k hk => by ((try have c0 := hq1 k hk); (try have c0 := hq1 k); (have c1 := e70_2 k); (have c4 := e72_2 k); (try simp only [zt0, zt1, zt2, zt3, zt4, zt5, zt6] at *) <;> omega)) (Nat.lt_succ_self _)
        · simp only [zput_s, zput_n, ti_g, oI_add, oI_sub, oI_mul, zt0, zt1, zt2, zt3, zt4, zt5, zt6, e70_2, e70_10, e70_11, e72_2, e72_10, e72_11, b175_62]
          try simp only [zput_s, zput_n, ti_g, oI_add, oI_sub, oI_mul]
          first | refine zok_ne (by omega) (fun c106 => ?_) (fun c106 => ?_) | refine zok_if (fun c106 => ?_) (fun c106 => ?_)
          · try simp only [zput_s, zput_n, ti_g, oI_add, oI_sub, oI_mul]
            exact l175_83 q0 (by omega) (by omega) (by omega) (by omega) d1 d2 d3 d4 G _ _ _ _ _ ((FrV.trans (Ns := [1, 2, 3, 4, 9, 10, 11, 12, 13]) ((FrV.trans (Ns := [1, 2, 3, 4, 9, 10, 11, 12, 13]) (FrV.refl (Ls := []) G) f70 (by decide) (by decide))) f72 (by decide) (by decide))) (by first | omega | ((try simp only [zt0, zt1, zt2, zt3, zt4, zt5, zt6, e70_2, e70_10, e70_11, e72_2, e72_10, e72_11]); omega)) (fun k hk => by ((try have c0 := hq1 k hk); (try have c0 := hq1 k); (have c1 := e70_2 k); (have c4 := e72_2 k); (try simp only [zt0, zt1, zt2, zt3, zt4, zt5, zt6] at *) <;> omega)) (Nat.lt_succ_self _)
          · refine zok_ck ((q0).1) ?_
            refine zok_pI (s135 (q0) (by omega) (by omega) (by first | (omega) | ((try simp only [zt0, zt1, zt2, zt3, zt4, zt5, zt6, e70_2, e70_10, e70_11, e72_2, e72_10, e72_11]); omega)) (by first | (omega) | ((try simp only [zt0, zt1, zt2, zt3, zt4, zt5, zt6, e70_2, e70_10, e70_11, e72_2, e72_10, e72_11]); omega)) (f72.g)) (fun y107 u107 p107 => ?_)
            try simp only [zt0, zt1, zt2, zt3, zt4, zt5, zt6, e70_2, e70_10, e70_11, e72_2, e72_10, e72_11] at p107
            simp only [zput_s, zput_n, ti_g, oI_add, oI_sub, oI_mul, zt0, zt1, zt2, zt3, zt4, zt5, zt6, e70_2, e70_10, e70_11, e72_2, e72_10, e72_11, b175_73]
            try simp only [zput_s, zput_n, ti_g, oI_add, oI_sub, oI_mul]
            first | refine zok_ne (by omega) (fun c109 => ?_) (fun c109 => ?_) | refine zok_if (fun c109 => ?_) (fun c109 => ?_)
            · try simp only [zput_s, zput_n, ti_g, oI_add, oI_sub, oI_mul]
              exact l175_83 q0 (by omega) (by omega) (by omega) (by omega) d1 d2 d3 d4 G _ _ _ _ _ ((FrV.trans (Ns := [1, 2, 3, 4, 9, 10, 11, 12, 13]) ((FrV.trans (Ns := [1, 2, 3, 4, 9, 10, 11, 12, 13]) (FrV.refl (Ls := []) G) f70 (by decide) (by decide))) f72 (by decide) (by decide))) (by first | omega | ((try simp only [zt0, zt1, zt2, zt3, zt4, zt5, zt6, e70_2, e70_10, e70_11, e72_2, e72_10, e72_11]); omega)) (fun k hk => by ((try have c0 := hq1 k hk); (try have c0 := hq1 k); (have c1 := e70_2 k); (have c4 := e72_2 k); (try simp only [zt0, zt1, zt2, zt3, zt4, zt5, zt6] at *) <;> omega)) (Nat.lt_succ_self _)
            · try simp only [zput_s, zput_n, ti_g, oI_add, oI_sub, oI_mul]
              exact l175_83 q0 (by omega) (by omega) (by omega) (by omega) d1 d2 d3 d4 G _ _ _ _ _ ((FrV.trans (Ns := [1, 2, 3, 4, 9, 10, 11, 12, 13]) ((FrV.trans (Ns := [1, 2, 3, 4, 9, 10, 11, 12, 13]) (FrV.refl (Ls := []) G) f70 (by decide) (by decide))) f72 (by decide) (by decide))) (by first | omega | ((try simp only [zt0, zt1, zt2, zt3, zt4, zt5, zt6, e70_2, e70_10, e70_11, e72_2, e72_10, e72_11]); omega)) (fun k hk => by ((try have c0 := hq1 k hk); (try have c0 := hq1 k); (have c1 := e70_2 k); (have c4 := e72_2 k); (try simp only [zt0, zt1, zt2, zt3, zt4, zt5, zt6] at *) <;> omega)) (Nat.lt_succ_self _)
    · refine zok_ck ((q0).1) ?_
      refine zok_pI (s173 (q0) (by omega) (by omega) (by omega) (by first | (omega) | ((try simp only [zt0, zt1, zt2, zt3, zt4, zt5, zt6, e70_2, e70_10, e70_11, e72_2, e72_10, e72_11]); omega)) (by first | (omega) | ((try simp only [zt0, zt1, zt2, zt3, zt4, zt5, zt6, e70_2, e70_10, e70_11, e72_2, e72_10, e72_11]); omega)) (by first | (omega) | ((try simp only [zt0, zt1, zt2, zt3, zt4, zt5, zt6, e70_2, e70_10, e70_11, e72_2, e72_10, e72_11]); omega)) (f72.g)) (fun y110 u110 p110 => ?_)
      try simp only [zt0, zt1, zt2, zt3, zt4, zt5, zt6, e70_2, e70_10, e70_11, e72_2, e72_10, e72_11] at p110
      simp only [zput_s, zput_n, ti_g, oI_add, oI_sub, oI_mul, zt0, zt1, zt2, zt3, zt4, zt5, zt6, e70_2, e70_10, e70_11, e72_2, e72_10, e72_11, b175_31]
      try simp only [zput_s, zput_n, ti_g, oI_add, oI_sub, oI_mul]
      first | refine zok_ne (by omega) (fun c112 => ?_) (fun c112 => ?_) | refine zok_if (fun c112 => ?_) (fun c112 => ?_)
      · simp only [zput_s, zput_n, ti_g, oI_add, oI_sub, oI_mul, zt0, zt1, zt2, zt3, zt4, zt5, zt6, e70_2, e70_10, e70_11, e72_2, e72_10, e72_11, b175_41]
        try simp only [zput_s, zput_n, ti_g, oI_add, oI_sub, oI_mul]
        refine zok_ck ((q0).1) ?_
        refine zok_pI (s134 (q0) (by omega) (by omega) (by first | (omega) | ((try simp only [zt0, zt1, zt2, zt3, zt4, zt5, zt6, e70_2, e70_10, e70_11, e72_2, e72_10, e72_11]); omega)) (by first | (omega) | ((try simp only [zt0, zt1, zt2, zt3, zt4, zt5, zt6, e70_2, e70_10, e70_11, e72_2, e72_10, e72_11]); omega)) (f72.g)) (fun y114 u114 p114 => ?_)
        try simp only [zt0, zt1, zt2, zt3, zt4, zt5, zt6, e70_2, e70_10, e70_11, e72_2, e72_10, e72_11] at p114
        simp only [zput_s, zput_n, ti_g, oI_add, oI_sub, oI_mul, zt0, zt1, zt2, zt3, zt4, zt5, zt6, e70_2, e70_10, e70_11, e72_2, e72_10, e72_11, b175_52]
        try simp only [zput_s, zput_n, ti_g, oI_add, oI_sub, oI_mul]
        first | refine zok_eq (by omega) (fun c116 => ?_) (fun c116 => ?_) | refine zok_if (fun c116 => ?_) (fun c116 => ?_)
        · simp only [zput_s, zput_n, ti_g, oI_add, oI_sub, oI_mul, zt0, zt1, zt2, zt3, zt4, zt5, zt6, e70_2, e70_10, e70_11, e72_2, e72_10, e72_11, b175_62]
          try simp only [zput_s, zput_n, ti_g, oI_add, oI_sub, oI_mul]
          refine zok_ck ((q0).1) ?_
          refine zok_pI (s135 (q0) (by omega) (by omega) (by first | (omega) | ((try simp only [zt0, zt1, zt2, zt3, zt4, zt5, zt6, e70_2, e70_10, e70_11, e72_2, e72_10, e72_11]); omega)) (by first | (omega) | ((try simp only [zt0, zt1, zt2, zt3, zt4, zt5, zt6, e70_2, e70_10, e70_11, e72_2, e72_10, e72_11]); omega)) (f72.g)) (fun y118 u118 p118 => ?_)
          try simp only [zt0, zt1, zt2, zt3, zt4, zt5, zt6, e70_2, e70_10, e70_11, e72_2, e72_10, e72_11] at p118
          simp only [zput_s, zput_n, ti_g, oI_add, oI_sub, oI_mul, zt0, zt1, zt2, zt3, zt4, zt5, zt6, e70_2, e70_10, e70_11, e72_2, e72_10, e72_11, b175_73]
          try simp only [zput_s, zput_n, ti_g, oI_add, oI_sub, oI_mul]
          first | refine zok_ne (by omega) (fun c120 => ?_) (fun c120 => ?_) | refine zok_if (fun c120 => ?_) (fun c120 => ?_)
          · try simp only [zput_s, zput_n, ti_g, oI_add, oI_sub, oI_mul]
            exact l175_83 q0 (by omega) (by omega) (by omega) (by omega) d1 d2 d3 d4 G _ _ _ _ _ ((FrV.trans (Ns := [1, 2, 3, 4, 9, 10, 11, 12, 13]) ((FrV.trans (Ns := [1, 2, 3, 4, 9, 10, 11, 12, 13]) (FrV.refl (Ls := []) G) f70 (by decide) (by decide))) f72 (by decide) (by decide))) (by first | omega | ((try simp only [zt0, zt1, zt2, zt3, zt4, zt5, zt6, e70_2, e70_10, e70_11, e72_2, e72_10, e72_11]); omega)) (fun k hk => by ((try have c0 := hq1 k hk); (try have c0 := hq1 k); (have c1 := e70_2 k); (have c4 := e72_2 k); (try simp only [zt0, zt1, zt2, zt3, zt4, zt5, zt6] at *) <;> omega)) (Nat.lt_succ_self _)
          · try simp only [zput_s, zput_n, ti_g, oI_add, oI_sub, oI_mul]
            exact l175_83 q0 (by omega) (by omega) (by omega) (by omega) d1 d2 d3 d4 G _ _ _ _ _ ((FrV.trans (Ns := [1, 2, 3, 4, 9, 10, 11, 12, 13]) ((FrV.trans (Ns := [1, 2, 3, 4, 9, 10, 11, 12, 13]) (FrV.refl (Ls := []) G) f70 (by decide) (by decide))) f72 (by decide) (by decide))) (by first | omega | ((try simp only [zt0, zt1, zt2, zt3, zt4, zt5, zt6, e70_2, e70_10, e70_11, e72_2, e72_10, e72_11]); omega)) (fun k hk => by ((try have c0 := hq1 k hk); (try have c0 := hq1 k); (have c1 := e70_2 k); (have c4 := e72_2 k); (try simp only [zt0, zt1, zt2, zt3, zt4, zt5, zt6] at *) <;> omega)) (Nat.lt_succ_self _)
        · simp only [zput_s, zput_n, ti_g, oI_add, oI_sub, oI_mul, zt0, zt1, zt2, zt3, zt4, zt5, zt6, e70_2, e70_10, e70_11, e72_2, e72_10, e72_11, b175_62]
          try simp only [zput_s, zput_n, ti_g, oI_add, oI_sub, oI_mul]
          first | refine zok_ne (by omega) (fun c122 => ?_) (fun c122 => ?_) | refine zok_if (fun c122 => ?_) (fun c122 => ?_)
          · try simp only [zput_s, zput_n, ti_g, oI_add, oI_sub, oI_mul]
            exact l175_83 q0 (by omega) (by omega) (by omega) (by omega) d1 d2 d3 d4 G _ _ _ _ _ ((FrV.trans (Ns := [1, 2, 3, 4, 9, 10, 11, 12, 13]) ((FrV.trans (Ns := [1, 2, 3, 4, 9, 10, 11, 12, 13]) (FrV.refl (Ls := []) G) f70 (by decide) (by decide))) f72 (by decide) (by decide))) (by first | omega | ((try simp only [zt0, zt1, zt2, zt3, zt4, zt5, zt6, e70_2, e70_10, e70_11, e72_2, e72_10, e72_11]); omega)) (fun k hk => by ((try have c0 := hq1 k hk); (try have c0 := hq1 k); (have c1 := e70_2 k); (have c4 := e72_2 k); (try simp only [zt0, zt1, zt2, zt3, zt4, zt5, zt6] at *) <;> omega)) (Nat.lt_succ_self _)
          · refine zok_ck ((q0).1) ?_
            refine zok_pI (s135 (q0) (by omega) (by omega) (by first | (omega) | ((try simp only [zt0, zt1, zt2, zt3, zt4, zt5, zt6, e70_2, e70_10, e70_11, e72_2, e72_10, e72_11]); omega)) (by first | (omega) | ((try simp only [zt0, zt1, zt2, zt3, zt4, zt5, zt6, e70_2, e70_10, e70_11, e72_2, e72_10, e72_11]); omega)) (f72.g)) (fun y123 u123 p123 => ?_)
            try simp only [zt0, zt1, zt2, zt3, zt4, zt5, zt6, e70_2, e70_10, e70_11, e72_2, e72_10, e72_11] at p123
            simp only [zput_s, zput_n, ti_g, oI_add, oI_sub, oI_mul, zt0, zt1, zt2, zt3, zt4, zt5, zt6, e70_2, e70_10, e70_11, e72_2, e72_10, e72_11, b175_73]
            try simp only [zput_s, zput_n, ti_g, oI_add, oI_sub, oI_mul]
            first | refine zok_ne (by omega) (fun c125 => ?_) (fun c125 => ?_) | refine zok_if (fun c125 => ?_) (fun c125 => ?_)
            · try simp only [zput_s, zput_n, ti_g, oI_add, oI_sub, oI_mul]
              exact l175_83 q0 (by omega) (by omega) (by omega) (by omega) d1 d2 d3 d4 G _ _ _ _ _ ((FrV.trans (Ns := [1, 2, 3, 4, 9, 10, 11, 12, 13]) ((FrV.trans (Ns := [1, 2, 3, 4, 9, 10, 11, 12, 13]) (FrV.refl (Ls := []) G) f70 (by decide) (by decide))) f72 (by decide) (by decide))) (by first | omega | ((try simp only [zt0, zt1, zt2, zt3, zt4, zt5, zt6, e70_2, e70_10, e70_11, e72_2, e72_10, e72_11]); omega)) (fun k hk => by ((try have c0 := hq1 k hk); (try have c0 := hq1 k); (have c1 := e70_2 k); (have c4 := e72_2 k); (try simp only [zt0, zt1, zt2, zt3, zt4, zt5, zt6] at *) <;> omega)) (Nat.lt_succ_self _)
            · try simp only [zput_s, zput_n, ti_g, oI_add, oI_sub, oI_mul]
              exact l175_83 q0 (by omega) (by omega) (by omega) (by omega) d1 d2 d3 d4 G _ _ _ _ _ ((FrV.trans (Ns := [1, 2, 3, 4, 9, 10, 11, 12, 13]) ((FrV.trans (Ns := [1, 2, 3, 4, 9, 10, 11, 12, 13]) (FrV.refl (Ls := []) G) f70 (by decide) (by decide))) f72 (by decide) (by decide))) (by first | omega | ((try simp only [zt0, zt1, zt2, zt3, zt4, zt5, zt6, e70_2, e70_10, e70_11, e72_2, e72_10, e72_11]); omega)) (fun k hk => by ((try have c0 := hq1 k hk); (try have c0 := hq1 k); (have c1 := e70_2 k); (have c4 := e72_2 k); (try simp only [zt0, zt1, zt2, zt3, zt4, zt5, zt6] at *) <;> omega)) (Nat.lt_succ_self _)
      · simp only [zput_s, zput_n, ti_g, oI_add, oI_sub, oI_mul, zt0, zt1, zt2, zt3, zt4, zt5, zt6, e70_2, e70_10, e70_11, e72_2, e72_10, e72_11, b175_41]
        try simp only [zput_s, zput_n, ti_g, oI_add, oI_sub, oI_mul]
        first | refine zok_ne (by omega) (fun c127 => ?_) (fun c127 => ?_) | refine zok_if (fun c127 => ?_) (fun c127 => ?_)
        · simp only [zput_s, zput_n, ti_g, oI_add, oI_sub, oI_mul, zt0, zt1, zt2, zt3, zt4, zt5, zt6, e70_2, e70_10, e70_11, e72_2, e72_10, e72_11, b175_62]
          try simp only [zput_s, zput_n, ti_g, oI_add, oI_sub, oI_mul]
          first | refine zok_ne (by omega) (fun c129 => ?_) (fun c129 => ?_) | refine zok_if (fun c129 => ?_) (fun c129 => ?_)
          · try simp only [zput_s, zput_n, ti_g, oI_add, oI_sub, oI_mul]
            exact l175_83 q0 (by omega) (by omega) (by omega) (by omega) d1 d2 d3 d4 G _ _ _ _ _ ((FrV.trans (Ns := [1, 2, 3, 4, 9, 10, 11, 12, 13]) ((FrV.trans (Ns := [1, 2, 3, 4, 9, 10, 11, 12, 13]) (FrV.refl (Ls := []) G) f70 (by decide) (by decide))) f72 (by decide) (by decide))) (by first | omega | ((try simp only [zt0, zt1, zt2, zt3, zt4, zt5, zt6, e70_2, e70_10, e70_11, e72_2, e72_10, e72_11]); omega)) (fun k hk => by ((try have c0 := hq1 k hk); (try have c0 := hq1 k); (have c1 := e70_2 k); (have c4 := e72_2 k); (try simp only [zt0, zt1, zt2, zt3, zt4, zt5, zt6] at *) <;> omega)) (Nat.lt_succ_self _)
          · refine zok_ck ((q0).1) ?_
            refine zok_pI (s135 (q0) (by omega) (by omega) (by first | (omega) | ((try simp only [zt0, zt1, zt2, zt3, zt4, zt5, zt6, e70_2, e70_10, e70_11, e72_2, e72_10, e72_11]); omega)) (by first | (omega) | ((try simp only [zt0, zt1, zt2, zt3, zt4, zt5, zt6, e70_2, e70_10, e70_11, e72_2, e72_10, e72_11]); omega)) (f72.g)) (fun y130 u130 p130 => ?_)
            try simp only [zt0, zt1, zt2, zt3, zt4, zt5, zt6, e70_2, e70_10, e70_11, e72_2, e72_10, e72_11] at p130
            simp only [zput_s, zput_n, ti_g, oI_add, oI_sub, oI_mul, zt0, zt1, zt2, zt3, zt4, zt5, zt6, e70_2, e70_10, e70_11, e72_2, e72_10, e72_11, b175_73]
            try simp only [zput_s, zput_n, ti_g, oI_add, oI_sub, oI_mul]
            first | refine zok_ne (by omega) (fun c132 => ?_) (fun c132 => ?_) | refine zok_if (fun c132 => ?_) (fun c132 => ?_)
            · try simp only [zput_s, zput_n, ti_g, oI_add, oI_sub, oI_mul]
              exact l175_83 q0 (by omega) (by omega) (by omega) (by omega) d1 d2 d3 d4 G _ _ _ _ _ ((FrV.trans (Ns := [1, 2, 3, 4, 9, 10, 11, 12, 13]) ((FrV.trans (Ns := [1, 2, 3, 4, 9, 10, 11, 12, 13]) (FrV.refl (Ls := []) G) f70 (by decide) (by decide))) f72 (by decide) (by decide))) (by first | omega | ((try simp only [zt0, zt1, zt2, zt3, zt4, zt5, zt6, e70_2, e70_10, e70_11, e72_2, e72_10, e72_11]); omega)) (fun k hk => by ((try have c0 := hq1 k hk); (try have c0 := hq1 k); (have c1 := e70_2 k); (have c4 := e72_2 k); (try simp only [zt0, zt1, zt2, zt3, zt4, zt5, zt6] at *) <;> omega)) (Nat.lt_succ_self _)
            · try simp only [zput_s, zput_n, ti_g, oI_add, oI_sub, oI_mul]
              exact l175_83 q0 (by omega) (by omega) (by omega) (by omega) d1 d2 d3 d4 G _ _ _ _ _ ((FrV.trans (Ns := [1, 2, 3, 4, 9, 10, 11, 12, 13]) ((FrV.trans (Ns := [1, 2, 3, 4, 9, 10, 11, 12, 13]) (FrV.refl (Ls := []) G) f70 (by decide) (by decide))) f72 (by decide) (by decide))) (by first | omega | ((try simp only [zt0, zt1, zt2, zt3, zt4, zt5, zt6, e70_2, e70_10, e70_11, e72_2, e72_10, e72_11]); omega)) (fun k hk => by ((try have c0 := hq1 k hk); (try have c0 := hq1 k); (have c1 := e70_2 k); (have c4 := e72_2 k); (try simp only [zt0, zt1, zt2, zt3, zt4, zt5, zt6] at *) <;> omega)) (Nat.lt_succ_self _)
        · refine zok_ck ((q0).1) ?_
          refine zok_pI (s134 (q0) (by omega) (by omega) (by first | (omega) | ((try simp only [zt0, zt1, zt2, zt3, zt4, zt5, zt6, e70_2, e70_10, e70_11, e72_2, e72_10, e72_11]); omega)) (by first | (omega) | ((try simp only [zt0, zt1, zt2, zt3, zt4, zt5, zt6, e70_2, e70_10, e70_11, e72_2, e72_10, e72_11]); omega)) (f72.g)) (fun y133 u133 p133 => ?_)
          try simp only [zt0, zt1, zt2, zt3, zt4, zt5, zt6, e70_2, e70_10, e70_11, e72_2, e72_10, e72_11] at p133
          simp only [zput_s, zput_n, ti_g, oI_add, oI_sub, oI_mul, zt0, zt1, zt2, zt3, zt4, zt5, zt6, e70_2, e70_10, e70_11, e72_2, e72_10, e72_11, b175_52]
          try simp only [zput_s, zput_n, ti_g, oI_add, oI_sub, oI_mul]
          first | refine zok_eq (by omega) (fun c135 => ?_) (fun c135 => ?_) | refine zok_if (fun c135 => ?_) (fun c135 => ?_)
          · simp only [zput_s, zput_n, ti_g, oI_add, oI_sub, oI_mul, zt0, zt1, zt2, zt3, zt4, zt5, zt6, e70_2, e70_10, e70_11, e72_2, e72_10, e72_11, b175_62]
            try simp only [zput_s, zput_n, ti_g, oI_add, oI_sub, oI_mul]
            refine zok_ck ((q0).1) ?_
            refine zok_pI (s135 (q0) (by omega) (by omega) (by first | (omega) | ((try simp only [zt0, zt1, zt2, zt3, zt4, zt5, zt6, e70_2, e70_10, e70_11, e72_2, e72_10, e72_11]); omega)) (by first | (omega) | ((try simp only [zt0, zt1, zt2, zt3, zt4, zt5, zt6, e70_2, e70_10, e70_11, e72_2, e72_10, e72_11]); omega)) (f72.g)) (fun y137 u137 p137 => ?_)
            try simp only [zt0, zt1, zt2, zt3, zt4, zt5, zt6, e70_2, e70_10, e70_11, e72_2, e72_10, e72_11] at p137
            simp only [zput_s, zput_n, ti_g, oI_add, oI_sub, oI_mul, zt0, zt1, zt2, zt3, zt4, zt5, zt6, e70_2, e70_10, e70_11, e72_2, e72_10, e72_11, b175_73]
            try simp only [zput_s, zput_n, ti_g, oI_add, oI_sub, oI_mul]
            first | refine zok_ne (by omega) (fun c139 => ?_) (fun c139 => ?_) | refine zok_if (fun c139 => ?_) (fun c139 => ?_)
            · try simp only [zput_s, zput_n, ti_g, oI_add, oI_sub, oI_mul]
              exact l175_83 q0 (by omega) (by omega) (by omega) (by omega) d1 d2 d3 d4 G _ _ _ _ _ ((FrV.trans (Ns := [1, 2, 3, 4, 9, 10, 11, 12, 13]) ((FrV.trans (Ns := [1, 2, 3, 4, 9, 10, 11, 12, 13]) (FrV.refl (Ls := []) G) f70 (by decide) (by decide))) f72 (by decide) (by decide))) (by first | omega | ((try simp only [zt0, zt1, zt2, zt3, zt4, zt5, zt6, e70_2, e70_10, e70_11, e72_2, e72_10, e72_11]); omega)) (fun k hk => by ((try have c0 := hq1 k hk); (try have c0 := hq1 k); (have c1 := e70_2 k); (have c4 := e72_2 k); (try simp only [zt0, zt1, zt2, zt3, zt4, zt5, zt6] at *) <;> omega)) (Nat.lt_succ_self _)
            · try simp only [zput_s, zput_n, ti_g, oI_add, oI_sub, oI_mul]
              exact l175_83 q0 (by omega) (by omega) (by omega) (by omega) d1 d2 d3 d4 G _ _ _ _ _ ((FrV.trans (Ns := [1, 2, 3, 4, 9, 10, 11, 12, 13]) ((FrV.trans (Ns := [1, 2, 3, 4, 9, 10, 11, 12, 13]) (FrV.refl (Ls := []) G) f70 (by decide) (by decide))) f72 (by decide) (by decide))) (by first | omega | ((try simp only [zt0, zt1, zt2, zt3, zt4, zt5, zt6, e70_2, e70_10, e70_11, e72_2, e72_10, e72_11]); omega)) (fun k hk => by ((try have c0 := hq1 k hk); (try have c0 := hq1 k); (have c1 := e70_2 k); (have c4 := e72_2 k); (try simp only [zt0, zt1, zt2, zt3, zt4, zt5, zt6] at *) <;> omega)) (Nat.lt_succ_self _)
          · simp only [zput_s, zput_n, ti_g, oI_add, oI_sub, oI_mul, zt0, zt1, zt2, zt3, zt4, zt5, zt6, e70_2, e70_10, e70_11, e72_2, e72_10, e72_11, b175_62]
            try simp only [zput_s, zput_n, ti_g, oI_add, oI_sub, oI_mul]
            first | refine zok_ne (by omega) (fun c141 => ?_) (fun c141 => ?_) | refine zok_if (fun c141 => ?_) (fun c141 => ?_)
            · try simp only [zput_s, zput_n, ti_g, oI_add, oI_sub, oI_mul]
              exact l175_83 q0 (by omega) (by omega) (by omega) (by omega) d1 d2 d3 d4 G _ _ _ _ _ ((FrV.trans (Ns := [1, 2, 3, 4, 9, 10, 11, 12, 13]) ((FrV.trans (Ns := [1, 2, 3, 4, 9, 10, 11, 12, 13]) (FrV.refl (Ls := []) G) f70 (by decide) (by decide))) f72 (by decide) (by decide))) (by first | omega | ((try simp only [zt0, zt1, zt2, zt3, zt4, zt5, zt6, e70_2, e70_10, e70_11, e72_2, e72_10, e72_11]); omega)) (fun k hk => by ((try have c0 := hq1 k hk); (try have c0 := hq1 k); (have c1 := e70_2 k); (have c4 := e72_2 k); (try simp only [zt0, zt1, zt2, zt3, zt4, zt5, zt6] at *) <;> omega)) (Nat.lt_succ_self _)
            · refine zok_ck ((q0).1) ?_
              refine zok_pI (s135 (q0) (by omega) (by omega) (by first | (omega) | ((try simp only [zt0, zt1, zt2, zt3, zt4, zt5, zt6, e70_2, e70_10, e70_11, e72_2, e72_10, e72_11]); omega)) (by first | (omega) | ((try simp only [zt0, zt1, zt2, zt3, zt4, zt5, zt6, e70_2, e70_10, e70_11, e72_2, e72_10, e72_11]); omega)) (f72.g)) (fun y142 u142 p142 => ?_)
              try simp only [zt0, zt1, zt2, zt3, zt4, zt5, zt6, e70_2, e70_10, e70_11, e72_2, e72_10, e72_11] at p142
              simp only [zput_s, zput_n, ti_g, oI_add, oI_sub, oI_mul, zt0, zt1, zt2, zt3, zt4, zt5, zt6, e70_2, e70_10, e70_11, e72_2, e72_10, e72_11, b175_73]
              try simp only [zput_s, zput_n, ti_g, oI_add, oI_sub, oI_mul]
              first | refine zok_ne (by omega) (fun c144 => ?_) (fun c144 => ?_) | refine zok_if (fun c144 => ?_) (fun c144 => ?_)
              · try simp only [zput_s, zput_n, ti_g, oI_add, oI_sub, oI_mul]
                exact l175_83 q0 (by omega) (by omega) (by omega) (by omega) d1 d2 d3 d4 G _ _ _ _ _ ((FrV.trans (Ns := [1, 2, 3, 4, 9, 10, 11, 12, 13]) ((FrV.trans (Ns := [1, 2, 3, 4, 9, 10, 11, 12, 13]) (FrV.refl (Ls := []) G) f70 (by decide) (by decide))) f72 (by decide) (by decide))) (by first | omega | ((try simp only [zt0, zt1, zt2, zt3, zt4, zt5, zt6, e70_2, e70_10, e70_11, e72_2, e72_10, e72_11]); omega)) (fun k hk => by ((try have c0 := hq1 k hk); (try have c0 := hq1 k); (have c1 := e70_2 k); (have c4 := e72_2 k); (try simp only [zt0, zt1, zt2, zt3, zt4, zt5, zt6] at *) <;> omega)) (Nat.lt_succ_self _)
              · try simp only [zput_s, zput_n, ti_g, oI_add, oI_sub, oI_mul]
                exact l175_83 q0 (by omega) (by omega) (by omega) (by omega) d1 d2 d3 d4 G _ _ _ _ _ ((FrV.trans (Ns := [1, 2, 3, 4, 9, 10, 11, 12, 13]) ((FrV.trans (Ns := [1, 2, 3, 4, 9, 10, 11, 12, 13]) (FrV.refl (Ls := []) G) f70 (by decide) (by decide))) f72 (by decide) (by decide))) (by first | omega | ((try simp only [zt0, zt1, zt2, zt3, zt4, zt5, zt6, e70_2, e70_10, e70_11, e72_2, e72_10, e72_11]); omega)) (fun k hk => by ((try have c0 := hq1 k hk); (try have c0 := hq1 k); (have c1 := e70_2 k); (have c4 := e72_2 k); (try simp only [zt0, zt1, zt2, zt3, zt4, zt5, zt6] at *) <;> omega)) (Nat.lt_succ_self _)
