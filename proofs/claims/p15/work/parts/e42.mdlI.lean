set_option maxRecDepth 16384
/-! X9_layMerged -/
theorem l174_107 {sh : zSh} {t0 : zSt} {MB : Nat} {r0 : Nat} (q0 : zMd sh MB r0) {x1 : Int} (u1 : -2147483648 ≤ x1 ∧ x1 ≤ 2147483647) {x2 : Int} (u2 : -2147483648 ≤ x2 ∧ x2 ≤ 2147483647) (d1 : 0 ≤ x1 ∧ x1 ≤ 13 ∧ x1 ≠ 12) (d2 : 0 ≤ x2 ∧ x2 ≤ 13 ∧ x2 ≠ 12) (G : GI sh r0 t0) : ∀ (n : Nat) (x3 : Int) (x4 : Int)  (t1 : zSt), FrV sh r0 [9, 10, 11] t0 t1 → (-2147483648 ≤ x3 ∧ x3 ≤ 2147483647) ∧ (-2147483648 ≤ x4 ∧ x4 ≤ 2147483647) ∧ (0 ≤ x4 ∧ x4 ≤ (tg t1 (sr sh r0 4) (7 * x2 + 4).toNat - tg t1 (sr sh r0 3) (7 * x2 + 4).toNat)) ∧ (tg t1 (sr sh r0 10) 4 ≤ (tg t1 (sr sh r0 4) (7 * x1 + 4).toNat - tg t1 (sr sh r0 3) (7 * x1 + 4).toNat) + 1 + x4) → (∀ k, k ≠ 4 → tg t1 (sr sh r0 10) k = tg t0 (sr sh r0 10) k) → (∀ k, k ≠ 4 → tg t1 (sr sh r0 11) k = tg t0 (sr sh r0 11) k) → ((tg t1 (sr sh r0 4) (7 * x2 + 4).toNat - tg t1 (sr sh r0 3) (7 * x2 + 4).toNat) - x4).toNat < n → zok (zev zP 174 107 [some (zR r0), some (zI (oI x1)), some (zI (oI x2)), some (zI (oI x3)), some (zI (oI x4))] [] (sh, t1)) (zq0 (fun t' => FrV sh r0 [9, 10, 11] t0 t' ∧ (tg t' (sr sh r0 10) 4 ≤ (tg t0 (sr sh r0 4) (7 * x1 + 4).toNat - tg t0 (sr sh r0 3) (7 * x1 + 4).toNat) + (tg t0 (sr sh r0 4) (7 * x2 + 4).toNat - tg t0 (sr sh r0 3) (7 * x2 + 4).toNat) + 1 ∧ (∀ k, k ≠ 4 → tg t' (sr sh r0 10) k = tg t0 (sr sh r0 10) k) ∧ ∀ k, k ≠ 4 → tg t' (sr sh r0 11) k = tg t0 (sr sh r0 11) k)) sh) := by
  intro n
  induction n with
  | zero => intro x3 x4  t1 f0 _ _ _ hm; omega
  | succ n ih =>
    intro x3 x4  t1 f0 hv hq1 hq2 hm
    have ha0_1 : (sk sh (sr sh r0 1)).2 = 21000 := by rw [q0.2.2.2.2.1]
    have ha0_2 : (sk sh (sr sh r0 2)).2 = 14 := by rw [q0.2.2.2.2.2.1]
    have ha0_3 : (sk sh (sr sh r0 3)).2 = 98 := by rw [q0.2.2.2.2.2.2.1]
    have ha0_4 : (sk sh (sr sh r0 4)).2 = 98 := by rw [q0.2.2.2.2.2.2.2.1]
    have ha0_8 : (sk sh (sr sh r0 8)).2 = 1500 := by rw [q0.2.2.2.2.2.2.2.2.1]
    have ha0_9 : (sk sh (sr sh r0 9)).2 = 10500 := by rw [q0.2.2.2.2.2.2.2.2.2.1]
    have ha0_10 : (sk sh (sr sh r0 10)).2 = 7 := by rw [q0.2.2.2.2.2.2.2.2.2.2.1]
    have ha0_11 : (sk sh (sr sh r0 11)).2 = 7 := by rw [q0.2.2.2.2.2.2.2.2.2.2.2.1]
    have ha0_12 : (sk sh (sr sh r0 12)).2 = 1500 := by rw [q0.2.2.2.2.2.2.2.2.2.2.2.2.1]
    have ha0_13 : (sk sh (sr sh r0 13)).2 = 1500 := by rw [q0.2.2.2.2.2.2.2.2.2.2.2.2.2.1]
    have ha0_14 : (sk sh (sr sh r0 14)).2 = 20 := by rw [q0.2.2.2.2.2.2.2.2.2.2.2.2.2.2]
    have e0_2 : ∀ k, tg t1 (sr sh r0 2) k = tg t0 (sr sh r0 2) k := fun k => f0.eq q0 (i := 2) (by decide) (by decide) k
    have e0_3 : ∀ k, tg t1 (sr sh r0 3) k = tg t0 (sr sh r0 3) k := fun k => f0.eq q0 (i := 3) (by decide) (by decide) k
    have e0_4 : ∀ k, tg t1 (sr sh r0 4) k = tg t0 (sr sh r0 4) k := fun k => f0.eq q0 (i := 4) (by decide) (by decide) k
    try simp only [zt0, zt1, zt2, zt3, zt4, zt5, zt6, zt7, zt8, zt9, zt10, zt11, zt12, zt13, e0_2, e0_3, e0_4] at hv
    try simp only [zt0, zt1, zt2, zt3, zt4, zt5, zt6, zt7, zt8, zt9, zt10, zt11, zt12, zt13, e0_2, e0_3, e0_4] at hm
    have gz := (f0.g).2.1 (7 * x1 + 4).toNat (by omega)
    try simp only [zt0, zt1, zt2, zt3, zt4, zt5, zt6, zt7, zt8, zt9, zt10, zt11, zt12, zt13, e0_2, e0_3, e0_4] at gz
    have gy := (f0.g).2.1 (7 * x2 + 4).toNat (by omega)
    try simp only [zt0, zt1, zt2, zt3, zt4, zt5, zt6, zt7, zt8, zt9, zt10, zt11, zt12, zt13, e0_2, e0_3, e0_4] at gy
    rw [b174_107]
    try simp only [zput_s, zput_n, ti_g, oI_add, oI_sub, oI_mul]
    refine zok_ck ((q0).1) ?_
    refine zok_pI (s135 (q0) (by omega) (by omega) (by first | (omega) | ((try simp only [zt0, zt1, zt2, zt3, zt4, zt5, zt6, zt7, zt8, zt9, zt10, zt11, zt12, zt13, e0_2, e0_3, e0_4]); omega)) (by first | (omega) | ((try simp only [zt0, zt1, zt2, zt3, zt4, zt5, zt6, zt7, zt8, zt9, zt10, zt11, zt12, zt13, e0_2, e0_3, e0_4]); omega)) (f0.g)) (fun y2 u2 p2 => ?_)
    try simp only [zt0, zt1, zt2, zt3, zt4, zt5, zt6, zt7, zt8, zt9, zt10, zt11, zt12, zt13, e0_2, e0_3, e0_4] at p2
    simp only [zput_s, zput_n, ti_g, oI_add, oI_sub, oI_mul, zt0, zt1, zt2, zt3, zt4, zt5, zt6, zt7, zt8, zt9, zt10, zt11, zt12, zt13, e0_2, e0_3, e0_4, b174_115]
    try simp only [zput_s, zput_n, ti_g, oI_add, oI_sub, oI_mul]
    first | refine zok_le (by omega) (fun c4 => ?_) (fun c4 => ?_) | refine zok_if (fun c4 => ?_) (fun c4 => ?_)
    · exact q0_rt ⟨f0, ⟨by omega, fun k hk => by ((try have c0 := hq1 k hk); (try have c0 := hq1 k); (try simp only [zt0, zt1, zt2, zt3, zt4, zt5, zt6, zt7, zt8, zt9, zt10, zt11, zt12, zt13] at *) <;> omega), fun k hk => by ((try have c0 := hq2 k hk); (try have c0 := hq2 k); (try simp only [zt0, zt1, zt2, zt3, zt4, zt5, zt6, zt7, zt8, zt9, zt10, zt11, zt12, zt13] at *) <;> omega)⟩⟩
    · refine zok_ck ((q0).1) ?_
      refine zok_pI (s136 (q0) (by omega) (by omega) (by omega) (by first | (omega) | ((try simp only [zt0, zt1, zt2, zt3, zt4, zt5, zt6, zt7, zt8, zt9, zt10, zt11, zt12, zt13, e0_2, e0_3, e0_4]); omega)) (by first | (omega) | ((try simp only [zt0, zt1, zt2, zt3, zt4, zt5, zt6, zt7, zt8, zt9, zt10, zt11, zt12, zt13, e0_2, e0_3, e0_4]); omega)) (by first | (omega) | ((try simp only [zt0, zt1, zt2, zt3, zt4, zt5, zt6, zt7, zt8, zt9, zt10, zt11, zt12, zt13, e0_2, e0_3, e0_4]); omega)) (f0.g)) (fun y5 u5 p5 => ?_)
      try simp only [zt0, zt1, zt2, zt3, zt4, zt5, zt6, zt7, zt8, zt9, zt10, zt11, zt12, zt13, e0_2, e0_3, e0_4] at p5
      simp only [zput_s, zput_n, ti_g, oI_add, oI_sub, oI_mul, zt0, zt1, zt2, zt3, zt4, zt5, zt6, zt7, zt8, zt9, zt10, zt11, zt12, zt13, e0_2, e0_3, e0_4, b174_128]
      try simp only [zput_s, zput_n, ti_g, oI_add, oI_sub, oI_mul]
      refine zok_ck ((q0).1) ?_
      refine zok_c0 (s152 (q0) (by omega) (by omega) (by first | (omega) | ((try simp only [zt0, zt1, zt2, zt3, zt4, zt5, zt6, zt7, zt8, zt9, zt10, zt11, zt12, zt13, e0_2, e0_3, e0_4]); omega)) (by first | (omega) | ((try simp only [zt0, zt1, zt2, zt3, zt4, zt5, zt6, zt7, zt8, zt9, zt10, zt11, zt12, zt13, e0_2, e0_3, e0_4]); omega)) (f0.g)) (fun t7 p7 => ?_)
      obtain ⟨f7, p7⟩ := p7
      have e7_2 : ∀ k, tg t7 (sr sh r0 2) k = tg t1 (sr sh r0 2) k := fun k => f7.eq q0 (i := 2) (by decide) (by decide) k
      have e7_3 : ∀ k, tg t7 (sr sh r0 3) k = tg t1 (sr sh r0 3) k := fun k => f7.eq q0 (i := 3) (by decide) (by decide) k
      have e7_4 : ∀ k, tg t7 (sr sh r0 4) k = tg t1 (sr sh r0 4) k := fun k => f7.eq q0 (i := 4) (by decide) (by decide) k
      have e7_11 : ∀ k, tg t7 (sr sh r0 11) k = tg t1 (sr sh r0 11) k := fun k => f7.eq q0 (i := 11) (by decide) (by decide) k
      try simp only [zt0, zt1, zt2, zt3, zt4, zt5, zt6, zt7, zt8, zt9, zt10, zt11, zt12, zt13, e0_2, e0_3, e0_4, e7_2, e7_3, e7_4, e7_11] at p7
      simp only [zput_s, zput_n, ti_g, oI_add, oI_sub, oI_mul, zt0, zt1, zt2, zt3, zt4, zt5, zt6, zt7, zt8, zt9, zt10, zt11, zt12, zt13, e0_2, e0_3, e0_4, e7_2, e7_3, e7_4, e7_11, b174_131]
      try simp only [zput_s, zput_n, ti_g, oI_add, oI_sub, oI_mul]
      try simp only [zput_s, zput_n, ti_g, oI_add, oI_sub, oI_mul]
      exact ih _ _ _ ((FrV.trans (Ns := [9, 10, 11]) (f0) f7 (by decide) (by decide))) (by first | omega | ((try simp only [zt0, zt1, zt2, zt3, zt4, zt5, zt6, zt7, zt8, zt9, zt10, zt11, zt12, zt13, e0_2, e0_3, e0_4, e7_2, e7_3, e7_4, e7_11]); omega)) (fun k hk => by ((try have c0 := hq1 k hk); (try have c0 := hq1 k); (have c1 := p7.2 k (by omega)); (try simp only [zt0, zt1, zt2, zt3, zt4, zt5, zt6, zt7, zt8, zt9, zt10, zt11, zt12, zt13] at *) <;> omega)) (fun k hk => by ((try have c0 := hq2 k hk); (try have c0 := hq2 k); (have c5 := e7_11 k); (try simp only [zt0, zt1, zt2, zt3, zt4, zt5, zt6, zt7, zt8, zt9, zt10, zt11, zt12, zt13] at *) <;> omega)) (by first | omega | ((try simp only [zt0, zt1, zt2, zt3, zt4, zt5, zt6, zt7, zt8, zt9, zt10, zt11, zt12, zt13, e0_2, e0_3, e0_4, e7_2, e7_3, e7_4, e7_11]); omega))
theorem l174_59 {sh : zSh} {t0 : zSt} {MB : Nat} {r0 : Nat} (q0 : zMd sh MB r0) {x1 : Int} (u1 : -2147483648 ≤ x1 ∧ x1 ≤ 2147483647) {x2 : Int} (u2 : -2147483648 ≤ x2 ∧ x2 ≤ 2147483647) (d1 : 0 ≤ x1 ∧ x1 ≤ 13 ∧ x1 ≠ 12) (d2 : 0 ≤ x2 ∧ x2 ≤ 13 ∧ x2 ≠ 12) (G : GI sh r0 t0) : ∀ (n : Nat) (x3 : Int) (x4 : Int)  (t1 : zSt), FrV sh r0 [9, 10, 11] t0 t1 → (-2147483648 ≤ x3 ∧ x3 ≤ 2147483647) ∧ (-2147483648 ≤ x4 ∧ x4 ≤ 2147483647) ∧ (-1 ≤ x3 ∧ 0 ≤ x4 ∧ x4 ≤ x3 + 1) ∧ (x3 < (tg t1 (sr sh r0 4) (7 * x1 + 4).toNat - tg t1 (sr sh r0 3) (7 * x1 + 4).toNat)) ∧ (tg t1 (sr sh r0 10) 4 = x4) → (∀ k, k ≠ 4 → tg t1 (sr sh r0 10) k = tg t0 (sr sh r0 10) k) → (∀ k, k ≠ 4 → tg t1 (sr sh r0 11) k = tg t0 (sr sh r0 11) k) → (x3 + 1 - x4).toNat < n → zok (zev zP 174 59 [some (zR r0), some (zI (oI x1)), some (zI (oI x2)), some (zI (oI x3)), some (zI (oI x4))] [] (sh, t1)) (zq0 (fun t' => FrV sh r0 [9, 10, 11] t0 t' ∧ (tg t' (sr sh r0 10) 4 ≤ (tg t0 (sr sh r0 4) (7 * x1 + 4).toNat - tg t0 (sr sh r0 3) (7 * x1 + 4).toNat) + (tg t0 (sr sh r0 4) (7 * x2 + 4).toNat - tg t0 (sr sh r0 3) (7 * x2 + 4).toNat) + 1 ∧ (∀ k, k ≠ 4 → tg t' (sr sh r0 10) k = tg t0 (sr sh r0 10) k) ∧ ∀ k, k ≠ 4 → tg t' (sr sh r0 11) k = tg t0 (sr sh r0 11) k)) sh) := by
  intro n
  induction n with
  | zero => intro x3 x4  t1 f0 _ _ _ hm; omega
  | succ n ih =>
    intro x3 x4  t1 f0 hv hq1 hq2 hm
    have ha0_1 : (sk sh (sr sh r0 1)).2 = 21000 := by rw [q0.2.2.2.2.1]
    have ha0_2 : (sk sh (sr sh r0 2)).2 = 14 := by rw [q0.2.2.2.2.2.1]
    have ha0_3 : (sk sh (sr sh r0 3)).2 = 98 := by rw [q0.2.2.2.2.2.2.1]
    have ha0_4 : (sk sh (sr sh r0 4)).2 = 98 := by rw [q0.2.2.2.2.2.2.2.1]
    have ha0_8 : (sk sh (sr sh r0 8)).2 = 1500 := by rw [q0.2.2.2.2.2.2.2.2.1]
    have ha0_9 : (sk sh (sr sh r0 9)).2 = 10500 := by rw [q0.2.2.2.2.2.2.2.2.2.1]
    have ha0_10 : (sk sh (sr sh r0 10)).2 = 7 := by rw [q0.2.2.2.2.2.2.2.2.2.2.1]
    have ha0_11 : (sk sh (sr sh r0 11)).2 = 7 := by rw [q0.2.2.2.2.2.2.2.2.2.2.2.1]
    have ha0_12 : (sk sh (sr sh r0 12)).2 = 1500 := by rw [q0.2.2.2.2.2.2.2.2.2.2.2.2.1]
    have ha0_13 : (sk sh (sr sh r0 13)).2 = 1500 := by rw [q0.2.2.2.2.2.2.2.2.2.2.2.2.2.1]
    have ha0_14 : (sk sh (sr sh r0 14)).2 = 20 := by rw [q0.2.2.2.2.2.2.2.2.2.2.2.2.2.2]
    have e0_2 : ∀ k, tg t1 (sr sh r0 2) k = tg t0 (sr sh r0 2) k := fun k => f0.eq q0 (i := 2) (by decide) (by decide) k
    have e0_3 : ∀ k, tg t1 (sr sh r0 3) k = tg t0 (sr sh r0 3) k := fun k => f0.eq q0 (i := 3) (by decide) (by decide) k
    have e0_4 : ∀ k, tg t1 (sr sh r0 4) k = tg t0 (sr sh r0 4) k := fun k => f0.eq q0 (i := 4) (by decide) (by decide) k
    try simp only [zt0, zt1, zt2, zt3, zt4, zt5, zt6, zt7, zt8, zt9, zt10, zt11, zt12, zt13, e0_2, e0_3, e0_4] at hv
    try simp only [zt0, zt1, zt2, zt3, zt4, zt5, zt6, zt7, zt8, zt9, zt10, zt11, zt12, zt13, e0_2, e0_3, e0_4] at hm
    have gz := (f0.g).2.1 (7 * x1 + 4).toNat (by omega)
    try simp only [zt0, zt1, zt2, zt3, zt4, zt5, zt6, zt7, zt8, zt9, zt10, zt11, zt12, zt13, e0_2, e0_3, e0_4] at gz
    have gy := (f0.g).2.1 (7 * x2 + 4).toNat (by omega)
    try simp only [zt0, zt1, zt2, zt3, zt4, zt5, zt6, zt7, zt8, zt9, zt10, zt11, zt12, zt13, e0_2, e0_3, e0_4] at gy
    rw [b174_59]
    try simp only [zput_s, zput_n, ti_g, oI_add, oI_sub, oI_mul]
    first | refine zok_lt (by omega) (fun c2 => ?_) (fun c2 => ?_) | refine zok_if (fun c2 => ?_) (fun c2 => ?_)
    · first | refine zok_le (by omega) (fun c3 => ?_) (fun c3 => ?_) | refine zok_if (fun c3 => ?_) (fun c3 => ?_)
      · simp only [zput_s, zput_n, ti_g, oI_add, oI_sub, oI_mul, zt0, zt1, zt2, zt3, zt4, zt5, zt6, zt7, zt8, zt9, zt10, zt11, zt12, zt13, e0_2, e0_3, e0_4, b174_104]
        try simp only [zput_s, zput_n, ti_g, oI_add, oI_sub, oI_mul]
        try simp only [zput_s, zput_n, ti_g, oI_add, oI_sub, oI_mul]
        exact l174_107 q0 (by omega) (by omega) d1 d2 G _ _ _ _ (f0) (by first | omega | ((try simp only [zt0, zt1, zt2, zt3, zt4, zt5, zt6, zt7, zt8, zt9, zt10, zt11, zt12, zt13, e0_2, e0_3, e0_4]); omega)) (fun k hk => by ((try have c0 := hq1 k hk); (try have c0 := hq1 k); (try simp only [zt0, zt1, zt2, zt3, zt4, zt5, zt6, zt7, zt8, zt9, zt10, zt11, zt12, zt13] at *) <;> omega)) (fun k hk => by ((try have c0 := hq2 k hk); (try have c0 := hq2 k); (try simp only [zt0, zt1, zt2, zt3, zt4, zt5, zt6, zt7, zt8, zt9, zt10, zt11, zt12, zt13] at *) <;> omega)) (Nat.lt_succ_self _)
      · refine zok_ck ((q0).1) ?_
        refine zok_pI (s134 (q0) (by omega) (by omega) (by first | (omega) | ((try simp only [zt0, zt1, zt2, zt3, zt4, zt5, zt6, zt7, zt8, zt9, zt10, zt11, zt12, zt13, e0_2, e0_3, e0_4]); omega)) (by first | (omega) | ((try simp only [zt0, zt1, zt2, zt3, zt4, zt5, zt6, zt7, zt8, zt9, zt10, zt11, zt12, zt13, e0_2, e0_3, e0_4]); omega)) (f0.g)) (fun y5 u5 p5 => ?_)
        try simp only [zt0, zt1, zt2, zt3, zt4, zt5, zt6, zt7, zt8, zt9, zt10, zt11, zt12, zt13, e0_2, e0_3, e0_4] at p5
        simp only [zput_s, zput_n, ti_g, oI_add, oI_sub, oI_mul, zt0, zt1, zt2, zt3, zt4, zt5, zt6, zt7, zt8, zt9, zt10, zt11, zt12, zt13, e0_2, e0_3, e0_4, b174_94]
        try simp only [zput_s, zput_n, ti_g, oI_add, oI_sub, oI_mul]
        first | refine zok_eq (by omega) (fun c7 => ?_) (fun c7 => ?_) | refine zok_if (fun c7 => ?_) (fun c7 => ?_)
        · simp only [zput_s, zput_n, ti_g, oI_add, oI_sub, oI_mul, zt0, zt1, zt2, zt3, zt4, zt5, zt6, zt7, zt8, zt9, zt10, zt11, zt12, zt13, e0_2, e0_3, e0_4, b174_104]
          try simp only [zput_s, zput_n, ti_g, oI_add, oI_sub, oI_mul]
          try simp only [zput_s, zput_n, ti_g, oI_add, oI_sub, oI_mul]
          exact l174_107 q0 (by omega) (by omega) d1 d2 G _ _ _ _ (f0) (by first | omega | ((try simp only [zt0, zt1, zt2, zt3, zt4, zt5, zt6, zt7, zt8, zt9, zt10, zt11, zt12, zt13, e0_2, e0_3, e0_4]); omega)) (fun k hk => by ((try have c0 := hq1 k hk); (try have c0 := hq1 k); (try simp only [zt0, zt1, zt2, zt3, zt4, zt5, zt6, zt7, zt8, zt9, zt10, zt11, zt12, zt13] at *) <;> omega)) (fun k hk => by ((try have c0 := hq2 k hk); (try have c0 := hq2 k); (try simp only [zt0, zt1, zt2, zt3, zt4, zt5, zt6, zt7, zt8, zt9, zt10, zt11, zt12, zt13] at *) <;> omega)) (Nat.lt_succ_self _)
        · refine zok_ck ((q0).1) ?_
          refine zok_c0 (s152 (q0) (by omega) (by omega) (by first | (omega) | ((try simp only [zt0, zt1, zt2, zt3, zt4, zt5, zt6, zt7, zt8, zt9, zt10, zt11, zt12, zt13, e0_2, e0_3, e0_4]); omega)) (by first | (omega) | ((try simp only [zt0, zt1, zt2, zt3, zt4, zt5, zt6, zt7, zt8, zt9, zt10, zt11, zt12, zt13, e0_2, e0_3, e0_4]); omega)) (f0.g)) (fun t9 p9 => ?_)
          obtain ⟨f9, p9⟩ := p9
          have e9_2 : ∀ k, tg t9 (sr sh r0 2) k = tg t1 (sr sh r0 2) k := fun k => f9.eq q0 (i := 2) (by decide) (by decide) k
          have e9_3 : ∀ k, tg t9 (sr sh r0 3) k = tg t1 (sr sh r0 3) k := fun k => f9.eq q0 (i := 3) (by decide) (by decide) k
          have e9_4 : ∀ k, tg t9 (sr sh r0 4) k = tg t1 (sr sh r0 4) k := fun k => f9.eq q0 (i := 4) (by decide) (by decide) k
          have e9_11 : ∀ k, tg t9 (sr sh r0 11) k = tg t1 (sr sh r0 11) k := fun k => f9.eq q0 (i := 11) (by decide) (by decide) k
          try simp only [zt0, zt1, zt2, zt3, zt4, zt5, zt6, zt7, zt8, zt9, zt10, zt11, zt12, zt13, e0_2, e0_3, e0_4, e9_2, e9_3, e9_4, e9_11] at p9
          simp only [zput_s, zput_n, ti_g, oI_add, oI_sub, oI_mul, zt0, zt1, zt2, zt3, zt4, zt5, zt6, zt7, zt8, zt9, zt10, zt11, zt12, zt13, e0_2, e0_3, e0_4, e9_2, e9_3, e9_4, e9_11, b174_104]
          try simp only [zput_s, zput_n, ti_g, oI_add, oI_sub, oI_mul]
          try simp only [zput_s, zput_n, ti_g, oI_add, oI_sub, oI_mul]
          exact l174_107 q0 (by omega) (by omega) d1 d2 G _ _ _ _ ((FrV.trans (Ns := [9, 10, 11]) (f0) f9 (by decide) (by decide))) (by first | omega | ((try simp only [zt0, zt1, zt2, zt3, zt4, zt5, zt6, zt7, zt8, zt9, zt10, zt11, zt12, zt13, e0_2, e0_3, e0_4, e9_2, e9_3, e9_4, e9_11]); omega)) (fun k hk => by ((try have c0 := hq1 k hk); (try have c0 := hq1 k); (have c1 := p9.2 k (by omega)); (try simp only [zt0, zt1, zt2, zt3, zt4, zt5, zt6, zt7, zt8, zt9, zt10, zt11, zt12, zt13] at *) <;> omega)) (fun k hk => by ((try have c0 := hq2 k hk); (try have c0 := hq2 k); (have c5 := e9_11 k); (try simp only [zt0, zt1, zt2, zt3, zt4, zt5, zt6, zt7, zt8, zt9, zt10, zt11, zt12, zt13] at *) <;> omega)) (Nat.lt_succ_self _)
    · refine zok_ck ((q0).1) ?_
      refine zok_pI (s136 (q0) (by omega) (by omega) (by omega) (by first | (omega) | ((try simp only [zt0, zt1, zt2, zt3, zt4, zt5, zt6, zt7, zt8, zt9, zt10, zt11, zt12, zt13, e0_2, e0_3, e0_4]); omega)) (by first | (omega) | ((try simp only [zt0, zt1, zt2, zt3, zt4, zt5, zt6, zt7, zt8, zt9, zt10, zt11, zt12, zt13, e0_2, e0_3, e0_4]); omega)) (by first | (omega) | ((try simp only [zt0, zt1, zt2, zt3, zt4, zt5, zt6, zt7, zt8, zt9, zt10, zt11, zt12, zt13, e0_2, e0_3, e0_4]); omega)) (f0.g)) (fun y11 u11 p11 => ?_)
      try simp only [zt0, zt1, zt2, zt3, zt4, zt5, zt6, zt7, zt8, zt9, zt10, zt11, zt12, zt13, e0_2, e0_3, e0_4] at p11
      simp only [zput_s, zput_n, ti_g, oI_add, oI_sub, oI_mul, zt0, zt1, zt2, zt3, zt4, zt5, zt6, zt7, zt8, zt9, zt10, zt11, zt12, zt13, e0_2, e0_3, e0_4, b174_75]
      try simp only [zput_s, zput_n, ti_g, oI_add, oI_sub, oI_mul]
      refine zok_ck ((q0).1) ?_
      refine zok_c0 (s152 (q0) (by omega) (by omega) (by first | (omega) | ((try simp only [zt0, zt1, zt2, zt3, zt4, zt5, zt6, zt7, zt8, zt9, zt10, zt11, zt12, zt13, e0_2, e0_3, e0_4]); omega)) (by first | (omega) | ((try simp only [zt0, zt1, zt2, zt3, zt4, zt5, zt6, zt7, zt8, zt9, zt10, zt11, zt12, zt13, e0_2, e0_3, e0_4]); omega)) (f0.g)) (fun t13 p13 => ?_)
      obtain ⟨f13, p13⟩ := p13
      have e13_2 : ∀ k, tg t13 (sr sh r0 2) k = tg t1 (sr sh r0 2) k := fun k => f13.eq q0 (i := 2) (by decide) (by decide) k
      have e13_3 : ∀ k, tg t13 (sr sh r0 3) k = tg t1 (sr sh r0 3) k := fun k => f13.eq q0 (i := 3) (by decide) (by decide) k
      have e13_4 : ∀ k, tg t13 (sr sh r0 4) k = tg t1 (sr sh r0 4) k := fun k => f13.eq q0 (i := 4) (by decide) (by decide) k
      have e13_11 : ∀ k, tg t13 (sr sh r0 11) k = tg t1 (sr sh r0 11) k := fun k => f13.eq q0 (i := 11) (by decide) (by decide) k
      try simp only [zt0, zt1, zt2, zt3, zt4, zt5, zt6, zt7, zt8, zt9, zt10, zt11, zt12, zt13, e0_2, e0_3, e0_4, e13_2, e13_3, e13_4, e13_11] at p13
      simp only [zput_s, zput_n, ti_g, oI_add, oI_sub, oI_mul, zt0, zt1, zt2, zt3, zt4, zt5, zt6, zt7, zt8, zt9, zt10, zt11, zt12, zt13, e0_2, e0_3, e0_4, e13_2, e13_3, e13_4, e13_11, b174_78]
      try simp only [zput_s, zput_n, ti_g, oI_add, oI_sub, oI_mul]
      try simp only [zput_s, zput_n, ti_g, oI_add, oI_sub, oI_mul]
      exact ih _ _ _ ((FrV.trans (Ns := [9, 10, 11]) (f0) f13 (by decide) (by decide))) (by first | omega | ((try simp only [zt0, zt1, zt2, zt3, zt4, zt5, zt6, zt7, zt8, zt9, zt10, zt11, zt12, zt13, e0_2, e0_3, e0_4, e13_2, e13_3, e13_4, e13_11]); omega)) (fun k hk => by ((try have c0 := hq1 k hk); (try have c0 := hq1 k); (have c1 := p13.2 k (by omega)); (try simp only [zt0, zt1, zt2, zt3, zt4, zt5, zt6, zt7, zt8, zt9, zt10, zt11, zt12, zt13] at *) <;> omega)) (fun k hk => by ((try have c0 := hq2 k hk); (try have c0 := hq2 k); (have c5 := e13_11 k); (try simp only [zt0, zt1, zt2, zt3, zt4, zt5, zt6, zt7, zt8, zt9, zt10, zt11, zt12, zt13] at *) <;> omega)) (by first | omega | ((try simp only [zt0, zt1, zt2, zt3, zt4, zt5, zt6, zt7, zt8, zt9, zt10, zt11, zt12, zt13, e0_2, e0_3, e0_4, e13_2, e13_3, e13_4, e13_11]); omega))
theorem l174_5 {sh : zSh} {t0 : zSt} {MB : Nat} {r0 : Nat} (q0 : zMd sh MB r0) {x1 : Int} (u1 : -2147483648 ≤ x1 ∧ x1 ≤ 2147483647) {x2 : Int} (u2 : -2147483648 ≤ x2 ∧ x2 ≤ 2147483647) (d1 : 0 ≤ x1 ∧ x1 ≤ 13 ∧ x1 ≠ 12) (d2 : 0 ≤ x2 ∧ x2 ≤ 13 ∧ x2 ≠ 12) (G : GI sh r0 t0) : ∀ (n : Nat) (x3 : Int) (x4 : Int)  (t1 : zSt), FrV sh r0 [9, 10, 11] t0 t1 → (-2147483648 ≤ x3 ∧ x3 ≤ 2147483647) ∧ (-2147483648 ≤ x4 ∧ x4 ≤ 2147483647) ∧ (-1 ≤ x3 ∧ x3 < x4 ∧ 0 ≤ x4) ∧ (x3 < (tg t1 (sr sh r0 4) (7 * x1 + 4).toNat - tg t1 (sr sh r0 3) (7 * x1 + 4).toNat)) → (∀ k, k ≠ 4 → tg t1 (sr sh r0 10) k = tg t0 (sr sh r0 10) k) → (∀ k, k ≠ 4 → tg t1 (sr sh r0 11) k = tg t0 (sr sh r0 11) k) → ((tg t1 (sr sh r0 4) (7 * x1 + 4).toNat - tg t1 (sr sh r0 3) (7 * x1 + 4).toNat) - x4).toNat < n → zok (zev zP 174 5 [some (zR r0), some (zI (oI x1)), some (zI (oI x2)), some (zI (oI x3)), some (zI (oI x4))] [] (sh, t1)) (zq0 (fun t' => FrV sh r0 [9, 10, 11] t0 t' ∧ (tg t' (sr sh r0 10) 4 ≤ (tg t0 (sr sh r0 4) (7 * x1 + 4).toNat - tg t0 (sr sh r0 3) (7 * x1 + 4).toNat) + (tg t0 (sr sh r0 4) (7 * x2 + 4).toNat - tg t0 (sr sh r0 3) (7 * x2 + 4).toNat) + 1 ∧ (∀ k, k ≠ 4 → tg t' (sr sh r0 10) k = tg t0 (sr sh r0 10) k) ∧ ∀ k, k ≠ 4 → tg t' (sr sh r0 11) k = tg t0 (sr sh r0 11) k)) sh) := by
  intro n
  induction n with
  | zero => intro x3 x4  t1 f0 _ _ _ hm; omega
  | succ n ih =>
    intro x3 x4  t1 f0 hv hq1 hq2 hm
    have ha0_1 : (sk sh (sr sh r0 1)).2 = 21000 := by rw [q0.2.2.2.2.1]
    have ha0_2 : (sk sh (sr sh r0 2)).2 = 14 := by rw [q0.2.2.2.2.2.1]
    have ha0_3 : (sk sh (sr sh r0 3)).2 = 98 := by rw [q0.2.2.2.2.2.2.1]
    have ha0_4 : (sk sh (sr sh r0 4)).2 = 98 := by rw [q0.2.2.2.2.2.2.2.1]
    have ha0_8 : (sk sh (sr sh r0 8)).2 = 1500 := by rw [q0.2.2.2.2.2.2.2.2.1]
    have ha0_9 : (sk sh (sr sh r0 9)).2 = 10500 := by rw [q0.2.2.2.2.2.2.2.2.2.1]
    have ha0_10 : (sk sh (sr sh r0 10)).2 = 7 := by rw [q0.2.2.2.2.2.2.2.2.2.2.1]
    have ha0_11 : (sk sh (sr sh r0 11)).2 = 7 := by rw [q0.2.2.2.2.2.2.2.2.2.2.2.1]
    have ha0_12 : (sk sh (sr sh r0 12)).2 = 1500 := by rw [q0.2.2.2.2.2.2.2.2.2.2.2.2.1]
    have ha0_13 : (sk sh (sr sh r0 13)).2 = 1500 := by rw [q0.2.2.2.2.2.2.2.2.2.2.2.2.2.1]
    have ha0_14 : (sk sh (sr sh r0 14)).2 = 20 := by rw [q0.2.2.2.2.2.2.2.2.2.2.2.2.2.2]
    have e0_2 : ∀ k, tg t1 (sr sh r0 2) k = tg t0 (sr sh r0 2) k := fun k => f0.eq q0 (i := 2) (by decide) (by decide) k
    have e0_3 : ∀ k, tg t1 (sr sh r0 3) k = tg t0 (sr sh r0 3) k := fun k => f0.eq q0 (i := 3) (by decide) (by decide) k
    have e0_4 : ∀ k, tg t1 (sr sh r0 4) k = tg t0 (sr sh r0 4) k := fun k => f0.eq q0 (i := 4) (by decide) (by decide) k
    try simp only [zt0, zt1, zt2, zt3, zt4, zt5, zt6, zt7, zt8, zt9, zt10, zt11, zt12, zt13, e0_2, e0_3, e0_4] at hv
    try simp only [zt0, zt1, zt2, zt3, zt4, zt5, zt6, zt7, zt8, zt9, zt10, zt11, zt12, zt13, e0_2, e0_3, e0_4] at hm
    have gz := (f0.g).2.1 (7 * x1 + 4).toNat (by omega)
    try simp only [zt0, zt1, zt2, zt3, zt4, zt5, zt6, zt7, zt8, zt9, zt10, zt11, zt12, zt13, e0_2, e0_3, e0_4] at gz
    have gy := (f0.g).2.1 (7 * x2 + 4).toNat (by omega)
    try simp only [zt0, zt1, zt2, zt3, zt4, zt5, zt6, zt7, zt8, zt9, zt10, zt11, zt12, zt13, e0_2, e0_3, e0_4] at gy
    rw [b174_5]
    try simp only [zput_s, zput_n, ti_g, oI_add, oI_sub, oI_mul]
    refine zok_ck ((q0).1) ?_
    refine zok_pI (s135 (q0) (by omega) (by omega) (by first | (omega) | ((try simp only [zt0, zt1, zt2, zt3, zt4, zt5, zt6, zt7, zt8, zt9, zt10, zt11, zt12, zt13, e0_2, e0_3, e0_4]); omega)) (by first | (omega) | ((try simp only [zt0, zt1, zt2, zt3, zt4, zt5, zt6, zt7, zt8, zt9, zt10, zt11, zt12, zt13, e0_2, e0_3, e0_4]); omega)) (f0.g)) (fun y2 u2 p2 => ?_)
    try simp only [zt0, zt1, zt2, zt3, zt4, zt5, zt6, zt7, zt8, zt9, zt10, zt11, zt12, zt13, e0_2, e0_3, e0_4] at p2
    simp only [zput_s, zput_n, ti_g, oI_add, oI_sub, oI_mul, zt0, zt1, zt2, zt3, zt4, zt5, zt6, zt7, zt8, zt9, zt10, zt11, zt12, zt13, e0_2, e0_3, e0_4, b174_13]
    try simp only [zput_s, zput_n, ti_g, oI_add, oI_sub, oI_mul]
    first | refine zok_le (by omega) (fun c4 => ?_) (fun c4 => ?_) | refine zok_if (fun c4 => ?_) (fun c4 => ?_)
    · refine zok_ck ((q0).1) ?_
      refine zok_ck ⟨Or.inr ⟨by rw [(q0).2.2.2.2.2.2.2.2.2.2.2.1], by first | exact bool_p (by omega) | exact Or.inl rfl | exact Or.inr rfl⟩, zin_o (by omega) (by omega) (by omega)⟩ ?_
      try rw [nN_o (a := 4) (by omega) (by omega)]
      try rw [show (4 : Int).toNat = 4 from rfl]
      try simp only [zput_s, zput_n, ti_g, oI_add, oI_sub, oI_mul, zt0, zt1, zt2, zt3, zt4, zt5, zt6, zt7, zt8, zt9, zt10, zt11, zt12, zt13, e0_2, e0_3, e0_4]
      try rw [i8_o (y := 1) (by omega)]
      obtain ⟨t5, ht5⟩ : ∃ t', t' = tI t1 (sr sh r0 11) (4) (oI (1)) := ⟨_, rfl⟩
      try simp only [zt0, zt1, zt2, zt3, zt4, zt5, zt6, zt7, zt8, zt9, zt10, zt11, zt12, zt13, e0_2, e0_3, e0_4] at ht5
      rw [← ht5]
      have f5 : FrV sh r0 [11] t1 t5 := by rw [ht5]; exact GI_lh q0 (f0.g) (by omega)
      have w5 : ∀ k, tg t5 (sr sh r0 11) k = if k = 4 then 1 else tg t1 (sr sh r0 11) k := fun k => by rw [ht5]; refine (tg_at (by omega)).trans ?_; first | rfl | simp only [zt0, zt1, zt2, zt3, zt4, zt5, zt6, zt7, zt8, zt9, zt10, zt11, zt12, zt13, e0_2, e0_3, e0_4, true_and]
      have ws5 : tg t5 (sr sh r0 11) (4) = 1 := by rw [w5, if_pos rfl]
      try simp only [zt0, zt1, zt2, zt3, zt4, zt5, zt6, zt7, zt8, zt9, zt10, zt11, zt12, zt13, e0_2, e0_3, e0_4] at w5
      try simp only [zt0, zt1, zt2, zt3, zt4, zt5, zt6, zt7, zt8, zt9, zt10, zt11, zt12, zt13, e0_2, e0_3, e0_4] at ws5
      have e5_2 : ∀ k, tg t5 (sr sh r0 2) k = tg t1 (sr sh r0 2) k := fun k => f5.eq q0 (i := 2) (by decide) (by decide) k
      have e5_3 : ∀ k, tg t5 (sr sh r0 3) k = tg t1 (sr sh r0 3) k := fun k => f5.eq q0 (i := 3) (by decide) (by decide) k
      have e5_4 : ∀ k, tg t5 (sr sh r0 4) k = tg t1 (sr sh r0 4) k := fun k => f5.eq q0 (i := 4) (by decide) (by decide) k
      have e5_10 : ∀ k, tg t5 (sr sh r0 10) k = tg t1 (sr sh r0 10) k := fun k => f5.eq q0 (i := 10) (by decide) (by decide) k
      refine zok_ck ((q0).1) ?_
      refine zok_ck ⟨(by rw [(q0).2.2.2.2.2.2.2.2.2.2.1]), zin_o (by omega) (by omega) (by omega)⟩ ?_
      try rw [nN_o (a := 4) (by omega) (by omega)]
      try rw [show (4 : Int).toNat = 4 from rfl]
      try simp only [zput_s, zput_n, ti_g, oI_add, oI_sub, oI_mul, zt0, zt1, zt2, zt3, zt4, zt5, zt6, zt7, zt8, zt9, zt10, zt11, zt12, zt13, e0_2, e0_3, e0_4, e5_2, e5_3, e5_4, e5_10]
      obtain ⟨t6, ht6⟩ : ∃ t', t' = tI t5 (sr sh r0 10) (4) (oI (0)) := ⟨_, rfl⟩
      try simp only [zt0, zt1, zt2, zt3, zt4, zt5, zt6, zt7, zt8, zt9, zt10, zt11, zt12, zt13, e0_2, e0_3, e0_4, e5_2, e5_3, e5_4, e5_10] at ht6
      rw [← ht6]
      have f6 : FrV sh r0 [10] t5 t6 := by rw [ht6]; exact GI_ls q0 (f5.g) (by omega) (by omega)
      have w6 : ∀ k, tg t6 (sr sh r0 10) k = if k = 4 then 0 else tg t5 (sr sh r0 10) k := fun k => by rw [ht6]; refine (tg_at (by omega)).trans ?_; first | rfl | simp only [zt0, zt1, zt2, zt3, zt4, zt5, zt6, zt7, zt8, zt9, zt10, zt11, zt12, zt13, e0_2, e0_3, e0_4, e5_2, e5_3, e5_4, e5_10, true_and]
      have ws6 : tg t6 (sr sh r0 10) (4) = 0 := by rw [w6, if_pos rfl]
      try simp only [zt0, zt1, zt2, zt3, zt4, zt5, zt6, zt7, zt8, zt9, zt10, zt11, zt12, zt13, e0_2, e0_3, e0_4, e5_2, e5_3, e5_4, e5_10] at w6
      try simp only [zt0, zt1, zt2, zt3, zt4, zt5, zt6, zt7, zt8, zt9, zt10, zt11, zt12, zt13, e0_2, e0_3, e0_4, e5_2, e5_3, e5_4, e5_10] at ws6
      have e6_2 : ∀ k, tg t6 (sr sh r0 2) k = tg t5 (sr sh r0 2) k := fun k => f6.eq q0 (i := 2) (by decide) (by decide) k
      have e6_3 : ∀ k, tg t6 (sr sh r0 3) k = tg t5 (sr sh r0 3) k := fun k => f6.eq q0 (i := 3) (by decide) (by decide) k
      have e6_4 : ∀ k, tg t6 (sr sh r0 4) k = tg t5 (sr sh r0 4) k := fun k => f6.eq q0 (i := 4) (by decide) (by decide) k
      have e6_11 : ∀ k, tg t6 (sr sh r0 11) k = tg t5 (sr sh r0 11) k := fun k => f6.eq q0 (i := 11) (by decide) (by decide) k
      try simp only [zput_s, zput_n, ti_g, oI_add, oI_sub, oI_mul]
      exact l174_59 q0 (by omega) (by omega) d1 d2 G _ _ _ _ ((FrV.trans (Ns := [9, 10, 11]) ((FrV.trans (Ns := [9, 10, 11]) (f0) f5 (by decide) (by decide))) f6 (by decide) (by decide))) (by first | omega | ((try simp only [zt0, zt1, zt2, zt3, zt4, zt5, zt6, zt7, zt8, zt9, zt10, zt11, zt12, zt13, e0_2, e0_3, e0_4, e5_2, e5_3, e5_4, e5_10, e6_2, e6_3, e6_4, e6_11]); omega)) (fun k hk => by ((try have c0 := hq1 k hk); (try have c0 := hq1 k); (have c5 := e5_10 k); (have c6 := w6 k); (try simp only [zt0, zt1, zt2, zt3, zt4, zt5, zt6, zt7, zt8, zt9, zt10, zt11, zt12, zt13] at *) <;> omega)) (fun k hk => by ((try have c0 := hq2 k hk); (try have c0 := hq2 k); (have c1 := w5 k); (have c10 := e6_11 k); (try simp only [zt0, zt1, zt2, zt3, zt4, zt5, zt6, zt7, zt8, zt9, zt10, zt11, zt12, zt13] at *) <;> omega)) (Nat.lt_succ_self _)
    · refine zok_ck ((q0).1) ?_
      refine zok_pI (s136 (q0) (by omega) (by omega) (by omega) (by first | (omega) | ((try simp only [zt0, zt1, zt2, zt3, zt4, zt5, zt6, zt7, zt8, zt9, zt10, zt11, zt12, zt13, e0_2, e0_3, e0_4]); omega)) (by first | (omega) | ((try simp only [zt0, zt1, zt2, zt3, zt4, zt5, zt6, zt7, zt8, zt9, zt10, zt11, zt12, zt13, e0_2, e0_3, e0_4]); omega)) (by first | (omega) | ((try simp only [zt0, zt1, zt2, zt3, zt4, zt5, zt6, zt7, zt8, zt9, zt10, zt11, zt12, zt13, e0_2, e0_3, e0_4]); omega)) (f0.g)) (fun y7 u7 p7 => ?_)
      try simp only [zt0, zt1, zt2, zt3, zt4, zt5, zt6, zt7, zt8, zt9, zt10, zt11, zt12, zt13, e0_2, e0_3, e0_4] at p7
      simp only [zput_s, zput_n, ti_g, oI_add, oI_sub, oI_mul, zt0, zt1, zt2, zt3, zt4, zt5, zt6, zt7, zt8, zt9, zt10, zt11, zt12, zt13, e0_2, e0_3, e0_4, b174_24]
      try simp only [zput_s, zput_n, ti_g, oI_add, oI_sub, oI_mul]
      first | refine zok_ne (by omega) (fun c9 => ?_) (fun c9 => ?_) | refine zok_if (fun c9 => ?_) (fun c9 => ?_)
      · try simp only [zput_s, zput_n, ti_g, oI_add, oI_sub, oI_mul]
        exact ih _ _ _ (f0) (by first | omega | ((try simp only [zt0, zt1, zt2, zt3, zt4, zt5, zt6, zt7, zt8, zt9, zt10, zt11, zt12, zt13, e0_2, e0_3, e0_4]); omega)) (fun k hk => by ((try have c0 := hq1 k hk); (try have c0 := hq1 k); (try simp only [zt0, zt1, zt2, zt3, zt4, zt5, zt6, zt7, zt8, zt9, zt10, zt11, zt12, zt13] at *) <;> omega)) (fun k hk => by ((try have c0 := hq2 k hk); (try have c0 := hq2 k); (try simp only [zt0, zt1, zt2, zt3, zt4, zt5, zt6, zt7, zt8, zt9, zt10, zt11, zt12, zt13] at *) <;> omega)) (by first | omega | ((try simp only [zt0, zt1, zt2, zt3, zt4, zt5, zt6, zt7, zt8, zt9, zt10, zt11, zt12, zt13, e0_2, e0_3, e0_4]); omega))
      · try simp only [zput_s, zput_n, ti_g, oI_add, oI_sub, oI_mul]
        exact ih _ _ _ (f0) (by first | omega | ((try simp only [zt0, zt1, zt2, zt3, zt4, zt5, zt6, zt7, zt8, zt9, zt10, zt11, zt12, zt13, e0_2, e0_3, e0_4]); omega)) (fun k hk => by ((try have c0 := hq1 k hk); (try have c0 := hq1 k); (try simp only [zt0, zt1, zt2, zt3, zt4, zt5, zt6, zt7, zt8, zt9, zt10, zt11, zt12, zt13] at *) <;> omega)) (fun k hk => by ((try have c0 := hq2 k hk); (try have c0 := hq2 k); (try simp only [zt0, zt1, zt2, zt3, zt4, zt5, zt6, zt7, zt8, zt9, zt10, zt11, zt12, zt13] at *) <;> omega)) (by first | omega | ((try simp only [zt0, zt1, zt2, zt3, zt4, zt5, zt6, zt7, zt8, zt9, zt10, zt11, zt12, zt13, e0_2, e0_3, e0_4]); omega))
theorem s174 {sh : zSh} {t : zSt} {MB : Nat} {r0 : Nat} (q0 : zMd sh MB r0) {x1 : Int} (u1 : -2147483648 ≤ x1 ∧ x1 ≤ 2147483647) {x2 : Int} (u2 : -2147483648 ≤ x2 ∧ x2 ≤ 2147483647) (d1 : 0 ≤ x1 ∧ x1 ≤ 13 ∧ x1 ≠ 12) (d2 : 0 ≤ x2 ∧ x2 ≤ 13 ∧ x2 ≠ 12) (G : GI sh r0 t) : zok (zcl zP 174 [zR r0, zI (oI x1), zI (oI x2)] (sh, t)) (zq0 (fun t' => FrV sh r0 [9, 10, 11] t t' ∧ (tg t' (sr sh r0 10) 4 ≤ (tg t (sr sh r0 4) (7 * x1 + 4).toNat - tg t (sr sh r0 3) (7 * x1 + 4).toNat) + (tg t (sr sh r0 4) (7 * x2 + 4).toNat - tg t (sr sh r0 3) (7 * x2 + 4).toNat) + 1 ∧ (∀ k, k ≠ 4 → tg t' (sr sh r0 10) k = tg t (sr sh r0 10) k) ∧ ∀ k, k ≠ 4 → tg t' (sr sh r0 11) k = tg t (sr sh r0 11) k)) sh) := by
  have ha0_1 : (sk sh (sr sh r0 1)).2 = 21000 := by rw [q0.2.2.2.2.1]
  have ha0_2 : (sk sh (sr sh r0 2)).2 = 14 := by rw [q0.2.2.2.2.2.1]
  have ha0_3 : (sk sh (sr sh r0 3)).2 = 98 := by rw [q0.2.2.2.2.2.2.1]
  have ha0_4 : (sk sh (sr sh r0 4)).2 = 98 := by rw [q0.2.2.2.2.2.2.2.1]
  have ha0_8 : (sk sh (sr sh r0 8)).2 = 1500 := by rw [q0.2.2.2.2.2.2.2.2.1]
  have ha0_9 : (sk sh (sr sh r0 9)).2 = 10500 := by rw [q0.2.2.2.2.2.2.2.2.2.1]
  have ha0_10 : (sk sh (sr sh r0 10)).2 = 7 := by rw [q0.2.2.2.2.2.2.2.2.2.2.1]
  have ha0_11 : (sk sh (sr sh r0 11)).2 = 7 := by rw [q0.2.2.2.2.2.2.2.2.2.2.2.1]
  have ha0_12 : (sk sh (sr sh r0 12)).2 = 1500 := by rw [q0.2.2.2.2.2.2.2.2.2.2.2.2.1]
  have ha0_13 : (sk sh (sr sh r0 13)).2 = 1500 := by rw [q0.2.2.2.2.2.2.2.2.2.2.2.2.2.1]
  have ha0_14 : (sk sh (sr sh r0 14)).2 = 20 := by rw [q0.2.2.2.2.2.2.2.2.2.2.2.2.2.2]
  have gz := G.2.1 (7 * x1 + 4).toNat (by omega)
  have gy := G.2.1 (7 * x2 + 4).toNat (by omega)
  rw [b174_0]
  try simp only [zput_s, zput_n, ti_g, oI_add, oI_sub, oI_mul]
  try simp only [zput_s, zput_n, ti_g, oI_add, oI_sub, oI_mul]
  exact l174_5 q0 (by omega) (by omega) d1 d2 G _ _ _ _ (FrV.refl G) (by first | omega | ((try simp only [zt0, zt1, zt2, zt3, zt4, zt5, zt6, zt7, zt8, zt9, zt10, zt11, zt12, zt13]); omega)) (fun k hk => by ((try have c0 := hq1 k hk); (try have c0 := hq1 k); (try simp only [zt0, zt1, zt2, zt3, zt4, zt5, zt6, zt7, zt8, zt9, zt10, zt11, zt12, zt13] at *) <;> omega)) (fun k hk => by ((try have c0 := hq2 k hk); (try have c0 := hq2 k); (try simp only [zt0, zt1, zt2, zt3, zt4, zt5, zt6, zt7, zt8, zt9, zt10, zt11, zt12, zt13] at *) <;> omega)) (Nat.lt_succ_self _)
/-! X9_turnLetters -/
theorem l177_66 {sh : zSh} {t0 : zSt} {MB : Nat} {r0 : Nat} (q0 : zMd sh MB r0) {x1 : Int} (u1 : -2147483648 ≤ x1 ∧ x1 ≤ 2147483647) {x2 : Int} (u2 : -2147483648 ≤ x2 ∧ x2 ≤ 2147483647) (d1 : 0 ≤ x1 ∧ x1 ≤ 6) (d2 : tg t0 (sr sh r0 10) (x1).toNat ≤ 1400) (G : GI sh r0 t0) : ∀ (n : Nat) (x3 : Int) (o4 : Option zV) (wo4 : zisL o4 = false) (t1 : zSt), FrV sh r0 [9] t0 t1 → (-2147483648 ≤ x3 ∧ x3 ≤ 2147483647) ∧ (0 ≤ x3) → (tg t1 (sr sh r0 10) (x1).toNat - x3).toNat < n → zok (zev zP 177 66 [some (zR r0), some (zI (oI x1)), some (zI (oI x2)), some (zI (oI x3)), o4] [] (sh, t1)) (zq0 (fun t' => FrV sh r0 [9] t0 t' ∧ (True)) sh) := by
  intro n
  induction n with
  | zero => intro x3 o4 wo4 t1 f0 _ hm; omega
  | succ n ih =>
    intro x3 o4 wo4 t1 f0 hv hm
    have ha0_1 : (sk sh (sr sh r0 1)).2 = 21000 := by rw [q0.2.2.2.2.1]
    have ha0_2 : (sk sh (sr sh r0 2)).2 = 14 := by rw [q0.2.2.2.2.2.1]
    have ha0_3 : (sk sh (sr sh r0 3)).2 = 98 := by rw [q0.2.2.2.2.2.2.1]
    have ha0_4 : (sk sh (sr sh r0 4)).2 = 98 := by rw [q0.2.2.2.2.2.2.2.1]
    have ha0_8 : (sk sh (sr sh r0 8)).2 = 1500 := by rw [q0.2.2.2.2.2.2.2.2.1]
    have ha0_9 : (sk sh (sr sh r0 9)).2 = 10500 := by rw [q0.2.2.2.2.2.2.2.2.2.1]
    have ha0_10 : (sk sh (sr sh r0 10)).2 = 7 := by rw [q0.2.2.2.2.2.2.2.2.2.2.1]
    have ha0_11 : (sk sh (sr sh r0 11)).2 = 7 := by rw [q0.2.2.2.2.2.2.2.2.2.2.2.1]
    have ha0_12 : (sk sh (sr sh r0 12)).2 = 1500 := by rw [q0.2.2.2.2.2.2.2.2.2.2.2.2.1]
    have ha0_13 : (sk sh (sr sh r0 13)).2 = 1500 := by rw [q0.2.2.2.2.2.2.2.2.2.2.2.2.2.1]
    have ha0_14 : (sk sh (sr sh r0 14)).2 = 20 := by rw [q0.2.2.2.2.2.2.2.2.2.2.2.2.2.2]
    have e0_2 : ∀ k, tg t1 (sr sh r0 2) k = tg t0 (sr sh r0 2) k := fun k => f0.eq q0 (i := 2) (by decide) (by decide) k
    have e0_3 : ∀ k, tg t1 (sr sh r0 3) k = tg t0 (sr sh r0 3) k := fun k => f0.eq q0 (i := 3) (by decide) (by decide) k
    have e0_4 : ∀ k, tg t1 (sr sh r0 4) k = tg t0 (sr sh r0 4) k := fun k => f0.eq q0 (i := 4) (by decide) (by decide) k
    have e0_10 : ∀ k, tg t1 (sr sh r0 10) k = tg t0 (sr sh r0 10) k := fun k => f0.eq q0 (i := 10) (by decide) (by decide) k
    have e0_11 : ∀ k, tg t1 (sr sh r0 11) k = tg t0 (sr sh r0 11) k := fun k => f0.eq q0 (i := 11) (by decide) (by decide) k
    try simp only [zt0, zt1, zt2, zt3, zt4, zt5, zt6, zt7, zt8, zt9, zt10, zt11, zt12, zt13, e0_2, e0_3, e0_4, e0_10, e0_11] at hv
    try simp only [zt0, zt1, zt2, zt3, zt4, zt5, zt6, zt7, zt8, zt9, zt10, zt11, zt12, zt13, e0_2, e0_3, e0_4, e0_10, e0_11] at hm
    try simp only [zput_s, zput_n, ti_g, oI_add, oI_sub, oI_mul]
    rw [b177_66 (o4 := o4) (wo4 := wo4)]
    try simp only [zput_s, zput_n, ti_g, oI_add, oI_sub, oI_mul]
    refine zok_ck ((q0).1) ?_
    refine zok_ck ⟨(by rw [(q0).2.2.2.2.2.2.2.2.2.2.1]), zin_o (by omega) (by omega) (by omega)⟩ ?_
    try rw [nN_o (a := x1) (by omega) (by omega)]
    try simp only [zput_s, zput_n, ti_g, oI_add, oI_sub, oI_mul, zt0, zt1, zt2, zt3, zt4, zt5, zt6, zt7, zt8, zt9, zt10, zt11, zt12, zt13, e0_2, e0_3, e0_4, e0_10, e0_11]
    have gl2 := And.intro (tg_lo t1 (sr sh r0 10) ((x1).toNat)) (tg_hi t1 (sr sh r0 10) ((x1).toNat))
    have gm2 := (f0.g).2.2.1 ((x1).toNat) (by omega)
    try simp only [zt0, zt1, zt2, zt3, zt4, zt5, zt6, zt7, zt8, zt9, zt10, zt11, zt12, zt13, e0_2, e0_3, e0_4, e0_10, e0_11] at gl2
    try simp only [zt0, zt1, zt2, zt3, zt4, zt5, zt6, zt7, zt8, zt9, zt10, zt11, zt12, zt13, e0_2, e0_3, e0_4, e0_10, e0_11] at gm2
    first | refine zok_le (by omega) (fun c3 => ?_) (fun c3 => ?_) | refine zok_if (fun c3 => ?_) (fun c3 => ?_)
    · exact q0_rt ⟨f0, trivial⟩
    · first | refine zok_le (by omega) (fun c4 => ?_) (fun c4 => ?_) | refine zok_if (fun c4 => ?_) (fun c4 => ?_)
      · exact q0_rt ⟨f0, trivial⟩
      · refine zok_ck ((q0).1) ?_
        refine zok_pI (s178 (q0) (by omega) (by omega) (by first | (omega) | ((try simp only [zt0, zt1, zt2, zt3, zt4, zt5, zt6, zt7, zt8, zt9, zt10, zt11, zt12, zt13, e0_2, e0_3, e0_4, e0_10, e0_11]); omega)) (by first | (omega) | ((try simp only [zt0, zt1, zt2, zt3, zt4, zt5, zt6, zt7, zt8, zt9, zt10, zt11, zt12, zt13, e0_2, e0_3, e0_4, e0_10, e0_11]); omega)) (f0.g)) (fun y5 u5 p5 => ?_)
        try simp only [zt0, zt1, zt2, zt3, zt4, zt5, zt6, zt7, zt8, zt9, zt10, zt11, zt12, zt13, e0_2, e0_3, e0_4, e0_10, e0_11] at p5
        try simp only [zput_s, zput_n, ti_g, oI_add, oI_sub, oI_mul]
        rw [b177_86 (o4 := o4) (wo4 := wo4)]
        try simp only [zput_s, zput_n, ti_g, oI_add, oI_sub, oI_mul]
        first | refine zok_eq (by omega) (fun c7 => ?_) (fun c7 => ?_) | refine zok_if (fun c7 => ?_) (fun c7 => ?_)
        · try simp only [zput_s, zput_n, ti_g, oI_add, oI_sub, oI_mul]
          exact ih _ _ (by first | rfl | assumption) _ (f0) (by first | omega | ((try simp only [zt0, zt1, zt2, zt3, zt4, zt5, zt6, zt7, zt8, zt9, zt10, zt11, zt12, zt13, e0_2, e0_3, e0_4, e0_10, e0_11]); omega)) (by first | omega | ((try simp only [zt0, zt1, zt2, zt3, zt4, zt5, zt6, zt7, zt8, zt9, zt10, zt11, zt12, zt13, e0_2, e0_3, e0_4, e0_10, e0_11]); omega))
        · refine zok_ck ((q0).1) ?_
          refine zok_ck ((q0).1) ?_
          refine zok_pI (s160 (q0) (by omega) (by omega) (by first | (omega) | ((try simp only [zt0, zt1, zt2, zt3, zt4, zt5, zt6, zt7, zt8, zt9, zt10, zt11, zt12, zt13, e0_2, e0_3, e0_4, e0_10, e0_11]); omega)) (f0.g)) (fun y8 u8 p8 => ?_)
          try simp only [zt0, zt1, zt2, zt3, zt4, zt5, zt6, zt7, zt8, zt9, zt10, zt11, zt12, zt13, e0_2, e0_3, e0_4, e0_10, e0_11] at p8
          try simp only [zput_s, zput_n, ti_g, oI_add, oI_sub, oI_mul]
          rw [b177_110 (o4 := o4) (wo4 := wo4)]
          try simp only [zput_s, zput_n, ti_g, oI_add, oI_sub, oI_mul]
          refine zok_pI (s125 (by omega)) (fun y10 u10 p10 => ?_)
          try simp only [zt0, zt1, zt2, zt3, zt4, zt5, zt6, zt7, zt8, zt9, zt10, zt11, zt12, zt13, e0_2, e0_3, e0_4, e0_10, e0_11] at p10
          try simp only [zput_s, zput_n, ti_g, oI_add, oI_sub, oI_mul]
          rw [b177_113 (o4 := o4) (wo4 := wo4)]
          try simp only [zput_s, zput_n, ti_g, oI_add, oI_sub, oI_mul]
          refine zok_pI (s126 (by omega)) (fun y12 u12 p12 => ?_)
          try simp only [zt0, zt1, zt2, zt3, zt4, zt5, zt6, zt7, zt8, zt9, zt10, zt11, zt12, zt13, e0_2, e0_3, e0_4, e0_10, e0_11] at p12
          try simp only [zput_s, zput_n, ti_g, oI_add, oI_sub, oI_mul]
          rw [b177_116 (o4 := o4) (wo4 := wo4)]
          try simp only [zput_s, zput_n, ti_g, oI_add, oI_sub, oI_mul]
          refine zok_ck ⟨(by rw [(q0).2.2.2.2.2.2.2.2.2.1]), zin_o (by omega) (by omega) (by omega)⟩ ?_
          try rw [nN_o (a := (((1500) * (x1)) + (x3)) + (1)) (by omega) (by omega)]
          try simp only [zput_s, zput_n, ti_g, oI_add, oI_sub, oI_mul, zt0, zt1, zt2, zt3, zt4, zt5, zt6, zt7, zt8, zt9, zt10, zt11, zt12, zt13, e0_2, e0_3, e0_4, e0_10, e0_11]
          obtain ⟨t14, ht14⟩ : ∃ t', t' = tI t1 (sr sh r0 9) (((((1500) * (x1)) + (x3)) + (1)).toNat) (oI (y12)) := ⟨_, rfl⟩
          try simp only [zt0, zt1, zt2, zt3, zt4, zt5, zt6, zt7, zt8, zt9, zt10, zt11, zt12, zt13, e0_2, e0_3, e0_4, e0_10, e0_11] at ht14
          rw [← ht14]
          have f14 : FrV sh r0 [9] t1 t14 := by rw [ht14]; exact GI_free q0 (f0.g) (by decide)
          have w14 : ∀ k, tg t14 (sr sh r0 9) k = if k = ((((1500) * (x1)) + (x3)) + (1)).toNat then y12 else tg t1 (sr sh r0 9) k := fun k => by rw [ht14]; refine (tg_at (by omega)).trans ?_; first | rfl | simp only [zt0, zt1, zt2, zt3, zt4, zt5, zt6, zt7, zt8, zt9, zt10, zt11, zt12, zt13, e0_2, e0_3, e0_4, e0_10, e0_11, true_and]
          have ws14 : tg t14 (sr sh r0 9) (((((1500) * (x1)) + (x3)) + (1)).toNat) = y12 := by rw [w14, if_pos rfl]
          try simp only [zt0, zt1, zt2, zt3, zt4, zt5, zt6, zt7, zt8, zt9, zt10, zt11, zt12, zt13, e0_2, e0_3, e0_4, e0_10, e0_11] at w14
          try simp only [zt0, zt1, zt2, zt3, zt4, zt5, zt6, zt7, zt8, zt9, zt10, zt11, zt12, zt13, e0_2, e0_3, e0_4, e0_10, e0_11] at ws14
          have e14_2 : ∀ k, tg t14 (sr sh r0 2) k = tg t1 (sr sh r0 2) k := fun k => f14.eq q0 (i := 2) (by decide) (by decide) k
          have e14_3 : ∀ k, tg t14 (sr sh r0 3) k = tg t1 (sr sh r0 3) k := fun k => f14.eq q0 (i := 3) (by decide) (by decide) k
          have e14_4 : ∀ k, tg t14 (sr sh r0 4) k = tg t1 (sr sh r0 4) k := fun k => f14.eq q0 (i := 4) (by decide) (by decide) k
          have e14_10 : ∀ k, tg t14 (sr sh r0 10) k = tg t1 (sr sh r0 10) k := fun k => f14.eq q0 (i := 10) (by decide) (by decide) k
          have e14_11 : ∀ k, tg t14 (sr sh r0 11) k = tg t1 (sr sh r0 11) k := fun k => f14.eq q0 (i := 11) (by decide) (by decide) k
          refine zok_ck ((q0).1) ?_
          refine zok_ck ((q0).1) ?_
          refine zok_pI (s160 (q0) (by omega) (by omega) (by first | (omega) | ((try simp only [zt0, zt1, zt2, zt3, zt4, zt5, zt6, zt7, zt8, zt9, zt10, zt11, zt12, zt13, e0_2, e0_3, e0_4, e0_10, e0_11, e14_2, e14_3, e14_4, e14_10, e14_11]); omega)) (f14.g)) (fun y15 u15 p15 => ?_)
          try simp only [zt0, zt1, zt2, zt3, zt4, zt5, zt6, zt7, zt8, zt9, zt10, zt11, zt12, zt13, e0_2, e0_3, e0_4, e0_10, e0_11, e14_2, e14_3, e14_4, e14_10, e14_11] at p15
          try simp only [zput_s, zput_n, ti_g, oI_add, oI_sub, oI_mul]
          rw [b177_138 (o4 := o4) (wo4 := wo4)]
          try simp only [zput_s, zput_n, ti_g, oI_add, oI_sub, oI_mul]
          refine zok_pI (s125 (by omega)) (fun y17 u17 p17 => ?_)
          try simp only [zt0, zt1, zt2, zt3, zt4, zt5, zt6, zt7, zt8, zt9, zt10, zt11, zt12, zt13, e0_2, e0_3, e0_4, e0_10, e0_11, e14_2, e14_3, e14_4, e14_10, e14_11] at p17
          try simp only [zput_s, zput_n, ti_g, oI_add, oI_sub, oI_mul]
          rw [b177_141 (o4 := o4) (wo4 := wo4)]
          try simp only [zput_s, zput_n, ti_g, oI_add, oI_sub, oI_mul]
          refine zok_pI (s126 (by omega)) (fun y19 u19 p19 => ?_)
          try simp only [zt0, zt1, zt2, zt3, zt4, zt5, zt6, zt7, zt8, zt9, zt10, zt11, zt12, zt13, e0_2, e0_3, e0_4, e0_10, e0_11, e14_2, e14_3, e14_4, e14_10, e14_11] at p19
          try simp only [zput_s, zput_n, ti_g, oI_add, oI_sub, oI_mul]
          rw [b177_144 (o4 := o4) (wo4 := wo4)]
          try simp only [zput_s, zput_n, ti_g, oI_add, oI_sub, oI_mul]
          refine zok_ck ⟨(by rw [(q0).2.2.2.2.2.2.2.2.2.1]), zin_o (by omega) (by omega) (by omega)⟩ ?_
          try rw [nN_o (a := (((1500) * (x1)) + (x3)) + (2)) (by omega) (by omega)]
          try simp only [zput_s, zput_n, ti_g, oI_add, oI_sub, oI_mul, zt0, zt1, zt2, zt3, zt4, zt5, zt6, zt7, zt8, zt9, zt10, zt11, zt12, zt13, e0_2, e0_3, e0_4, e0_10, e0_11, e14_2, e14_3, e14_4, e14_10, e14_11]
          obtain ⟨t21, ht21⟩ : ∃ t', t' = tI t14 (sr sh r0 9) (((((1500) * (x1)) + (x3)) + (2)).toNat) (oI (y19)) := ⟨_, rfl⟩
          try simp only [zt0, zt1, zt2, zt3, zt4, zt5, zt6, zt7, zt8, zt9, zt10, zt11, zt12, zt13, e0_2, e0_3, e0_4, e0_10, e0_11, e14_2, e14_3, e14_4, e14_10, e14_11] at ht21
          rw [← ht21]
          have f21 : FrV sh r0 [9] t14 t21 := by rw [ht21]; exact GI_free q0 (f14.g) (by decide)
          have w21 : ∀ k, tg t21 (sr sh r0 9) k = if k = ((((1500) * (x1)) + (x3)) + (2)).toNat then y19 else tg t14 (sr sh r0 9) k := fun k => by rw [ht21]; refine (tg_at (by omega)).trans ?_; first | rfl | simp only [zt0, zt1, zt2, zt3, zt4, zt5, zt6, zt7, zt8, zt9, zt10, zt11, zt12, zt13, e0_2, e0_3, e0_4, e0_10, e0_11, e14_2, e14_3, e14_4, e14_10, e14_11, true_and]
          have ws21 : tg t21 (sr sh r0 9) (((((1500) * (x1)) + (x3)) + (2)).toNat) = y19 := by rw [w21, if_pos rfl]
          try simp only [zt0, zt1, zt2, zt3, zt4, zt5, zt6, zt7, zt8, zt9, zt10, zt11, zt12, zt13, e0_2, e0_3, e0_4, e0_10, e0_11, e14_2, e14_3, e14_4, e14_10, e14_11] at w21
          try simp only [zt0, zt1, zt2, zt3, zt4, zt5, zt6, zt7, zt8, zt9, zt10, zt11, zt12, zt13, e0_2, e0_3, e0_4, e0_10, e0_11, e14_2, e14_3, e14_4, e14_10, e14_11] at ws21
          have e21_2 : ∀ k, tg t21 (sr sh r0 2) k = tg t14 (sr sh r0 2) k := fun k => f21.eq q0 (i := 2) (by decide) (by decide) k
          have e21_3 : ∀ k, tg t21 (sr sh r0 3) k = tg t14 (sr sh r0 3) k := fun k => f21.eq q0 (i := 3) (by decide) (by decide) k
          have e21_4 : ∀ k, tg t21 (sr sh r0 4) k = tg t14 (sr sh r0 4) k := fun k => f21.eq q0 (i := 4) (by decide) (by decide) k
          have e21_10 : ∀ k, tg t21 (sr sh r0 10) k = tg t14 (sr sh r0 10) k := fun k => f21.eq q0 (i := 10) (by decide) (by decide) k
          have e21_11 : ∀ k, tg t21 (sr sh r0 11) k = tg t14 (sr sh r0 11) k := fun k => f21.eq q0 (i := 11) (by decide) (by decide) k
          try simp only [zput_s, zput_n, ti_g, oI_add, oI_sub, oI_mul]
          exact ih _ _ (by first | rfl | assumption) _ ((FrV.trans (Ns := [9]) ((FrV.trans (Ns := [9]) (f0) f14 (by decide) (by decide))) f21 (by decide) (by decide))) (by first | omega | ((try simp only [zt0, zt1, zt2, zt3, zt4, zt5, zt6, zt7, zt8, zt9, zt10, zt11, zt12, zt13, e0_2, e0_3, e0_4, e0_10, e0_11, e14_2, e14_3, e14_4, e14_10, e14_11, e21_2, e21_3, e21_4, e21_10, e21_11]); omega)) (by first | omega | ((try simp only [zt0, zt1, zt2, zt3, zt4, zt5, zt6, zt7, zt8, zt9, zt10, zt11, zt12, zt13, e0_2, e0_3, e0_4, e0_10, e0_11, e14_2, e14_3, e14_4, e14_10, e14_11, e21_2, e21_3, e21_4, e21_10, e21_11]); omega))
theorem l177_2 {sh : zSh} {t0 : zSt} {MB : Nat} {r0 : Nat} (q0 : zMd sh MB r0) {x1 : Int} (u1 : -2147483648 ≤ x1 ∧ x1 ≤ 2147483647) {x2 : Int} (u2 : -2147483648 ≤ x2 ∧ x2 ≤ 2147483647) (d1 : 0 ≤ x1 ∧ x1 ≤ 6) (d2 : tg t0 (sr sh r0 10) (x1).toNat ≤ 1400) (G : GI sh r0 t0) : ∀ (n : Nat) (x3 : Int) (o4 : Option zV) (wo4 : zisL o4 = false) (t1 : zSt), FrV sh r0 [9] t0 t1 → (-2147483648 ≤ x3 ∧ x3 ≤ 2147483647) ∧ (0 ≤ x3) → (tg t1 (sr sh r0 10) (x1).toNat - x3).toNat < n → zok (zev zP 177 2 [some (zR r0), some (zI (oI x1)), some (zI (oI x2)), some (zI (oI x3)), o4] [] (sh, t1)) (zq0 (fun t' => FrV sh r0 [9] t0 t' ∧ (True)) sh) := by
  intro n
  induction n with
  | zero => intro x3 o4 wo4 t1 f0 _ hm; omega
  | succ n ih =>
    intro x3 o4 wo4 t1 f0 hv hm
    have ha0_1 : (sk sh (sr sh r0 1)).2 = 21000 := by rw [q0.2.2.2.2.1]
    have ha0_2 : (sk sh (sr sh r0 2)).2 = 14 := by rw [q0.2.2.2.2.2.1]
    have ha0_3 : (sk sh (sr sh r0 3)).2 = 98 := by rw [q0.2.2.2.2.2.2.1]
    have ha0_4 : (sk sh (sr sh r0 4)).2 = 98 := by rw [q0.2.2.2.2.2.2.2.1]
    have ha0_8 : (sk sh (sr sh r0 8)).2 = 1500 := by rw [q0.2.2.2.2.2.2.2.2.1]
    have ha0_9 : (sk sh (sr sh r0 9)).2 = 10500 := by rw [q0.2.2.2.2.2.2.2.2.2.1]
    have ha0_10 : (sk sh (sr sh r0 10)).2 = 7 := by rw [q0.2.2.2.2.2.2.2.2.2.2.1]
    have ha0_11 : (sk sh (sr sh r0 11)).2 = 7 := by rw [q0.2.2.2.2.2.2.2.2.2.2.2.1]
    have ha0_12 : (sk sh (sr sh r0 12)).2 = 1500 := by rw [q0.2.2.2.2.2.2.2.2.2.2.2.2.1]
    have ha0_13 : (sk sh (sr sh r0 13)).2 = 1500 := by rw [q0.2.2.2.2.2.2.2.2.2.2.2.2.2.1]
    have ha0_14 : (sk sh (sr sh r0 14)).2 = 20 := by rw [q0.2.2.2.2.2.2.2.2.2.2.2.2.2.2]
    have e0_2 : ∀ k, tg t1 (sr sh r0 2) k = tg t0 (sr sh r0 2) k := fun k => f0.eq q0 (i := 2) (by decide) (by decide) k
    have e0_3 : ∀ k, tg t1 (sr sh r0 3) k = tg t0 (sr sh r0 3) k := fun k => f0.eq q0 (i := 3) (by decide) (by decide) k
    have e0_4 : ∀ k, tg t1 (sr sh r0 4) k = tg t0 (sr sh r0 4) k := fun k => f0.eq q0 (i := 4) (by decide) (by decide) k
    have e0_10 : ∀ k, tg t1 (sr sh r0 10) k = tg t0 (sr sh r0 10) k := fun k => f0.eq q0 (i := 10) (by decide) (by decide) k
    have e0_11 : ∀ k, tg t1 (sr sh r0 11) k = tg t0 (sr sh r0 11) k := fun k => f0.eq q0 (i := 11) (by decide) (by decide) k
    try simp only [zt0, zt1, zt2, zt3, zt4, zt5, zt6, zt7, zt8, zt9, zt10, zt11, zt12, zt13, e0_2, e0_3, e0_4, e0_10, e0_11] at hv
    try simp only [zt0, zt1, zt2, zt3, zt4, zt5, zt6, zt7, zt8, zt9, zt10, zt11, zt12, zt13, e0_2, e0_3, e0_4, e0_10, e0_11] at hm
    try simp only [zput_s, zput_n, ti_g, oI_add, oI_sub, oI_mul]
    rw [b177_2 (o4 := o4) (wo4 := wo4)]
    try simp only [zput_s, zput_n, ti_g, oI_add, oI_sub, oI_mul]
    refine zok_ck ((q0).1) ?_
    refine zok_ck ⟨(by rw [(q0).2.2.2.2.2.2.2.2.2.2.1]), zin_o (by omega) (by omega) (by omega)⟩ ?_
    try rw [nN_o (a := x1) (by omega) (by omega)]
    try simp only [zput_s, zput_n, ti_g, oI_add, oI_sub, oI_mul, zt0, zt1, zt2, zt3, zt4, zt5, zt6, zt7, zt8, zt9, zt10, zt11, zt12, zt13, e0_2, e0_3, e0_4, e0_10, e0_11]
    have gl2 := And.intro (tg_lo t1 (sr sh r0 10) ((x1).toNat)) (tg_hi t1 (sr sh r0 10) ((x1).toNat))
    have gm2 := (f0.g).2.2.1 ((x1).toNat) (by omega)
    try simp only [zt0, zt1, zt2, zt3, zt4, zt5, zt6, zt7, zt8, zt9, zt10, zt11, zt12, zt13, e0_2, e0_3, e0_4, e0_10, e0_11] at gl2
    try simp only [zt0, zt1, zt2, zt3, zt4, zt5, zt6, zt7, zt8, zt9, zt10, zt11, zt12, zt13, e0_2, e0_3, e0_4, e0_10, e0_11] at gm2
    first | refine zok_le (by omega) (fun c3 => ?_) (fun c3 => ?_) | refine zok_if (fun c3 => ?_) (fun c3 => ?_)
    · try simp only [zput_s, zput_n, ti_g, oI_add, oI_sub, oI_mul]
      exact l177_66 q0 (by omega) (by omega) d1 d2 G _ _ _ (by first | rfl | assumption) _ (f0) (by first | omega | ((try simp only [zt0, zt1, zt2, zt3, zt4, zt5, zt6, zt7, zt8, zt9, zt10, zt11, zt12, zt13, e0_2, e0_3, e0_4, e0_10, e0_11]); omega)) (Nat.lt_succ_self _)
    · refine zok_ck ((q0).1) ?_
      refine zok_pI (s160 (q0) (by omega) (by omega) (by first | (omega) | ((try simp only [zt0, zt1, zt2, zt3, zt4, zt5, zt6, zt7, zt8, zt9, zt10, zt11, zt12, zt13, e0_2, e0_3, e0_4, e0_10, e0_11]); omega)) (f0.g)) (fun y4 u4 p4 => ?_)
      try simp only [zt0, zt1, zt2, zt3, zt4, zt5, zt6, zt7, zt8, zt9, zt10, zt11, zt12, zt13, e0_2, e0_3, e0_4, e0_10, e0_11] at p4
      try simp only [zput_s, zput_n, ti_g, oI_add, oI_sub, oI_mul]
      rw [b177_18 (o4 := o4) (wo4 := wo4)]
      try simp only [zput_s, zput_n, ti_g, oI_add, oI_sub, oI_mul]
      refine zok_ck ((q0).1) ?_
      first | refine zok_eq (by omega) (fun c6 => ?_) (fun c6 => ?_) | refine zok_if (fun c6 => ?_) (fun c6 => ?_)
      · simp only [zput_s, zput_n, ti_g, oI_add, oI_sub, oI_mul, zt0, zt1, zt2, zt3, zt4, zt5, zt6, zt7, zt8, zt9, zt10, zt11, zt12, zt13, e0_2, e0_3, e0_4, e0_10, e0_11, b177_57]
        try simp only [zput_s, zput_n, ti_g, oI_add, oI_sub, oI_mul]
        refine zok_ck ⟨(by rw [(q0).2.2.2.2.2.2.2.2.2.1]), zin_o (by omega) (by omega) (by omega)⟩ ?_
        try rw [nN_o (a := ((1500) * (x1)) + (x3)) (by omega) (by omega)]
        try simp only [zput_s, zput_n, ti_g, oI_add, oI_sub, oI_mul, zt0, zt1, zt2, zt3, zt4, zt5, zt6, zt7, zt8, zt9, zt10, zt11, zt12, zt13, e0_2, e0_3, e0_4, e0_10, e0_11]
        obtain ⟨t8, ht8⟩ : ∃ t', t' = tI t1 (sr sh r0 9) ((((1500) * (x1)) + (x3)).toNat) (oI (y4)) := ⟨_, rfl⟩
        try simp only [zt0, zt1, zt2, zt3, zt4, zt5, zt6, zt7, zt8, zt9, zt10, zt11, zt12, zt13, e0_2, e0_3, e0_4, e0_10, e0_11] at ht8
        rw [← ht8]
        have f8 : FrV sh r0 [9] t1 t8 := by rw [ht8]; exact GI_free q0 (f0.g) (by decide)
        have w8 : ∀ k, tg t8 (sr sh r0 9) k = if k = (((1500) * (x1)) + (x3)).toNat then y4 else tg t1 (sr sh r0 9) k := fun k => by rw [ht8]; refine (tg_at (by omega)).trans ?_; first | rfl | simp only [zt0, zt1, zt2, zt3, zt4, zt5, zt6, zt7, zt8, zt9, zt10, zt11, zt12, zt13, e0_2, e0_3, e0_4, e0_10, e0_11, true_and]
        have ws8 : tg t8 (sr sh r0 9) ((((1500) * (x1)) + (x3)).toNat) = y4 := by rw [w8, if_pos rfl]
        try simp only [zt0, zt1, zt2, zt3, zt4, zt5, zt6, zt7, zt8, zt9, zt10, zt11, zt12, zt13, e0_2, e0_3, e0_4, e0_10, e0_11] at w8
        try simp only [zt0, zt1, zt2, zt3, zt4, zt5, zt6, zt7, zt8, zt9, zt10, zt11, zt12, zt13, e0_2, e0_3, e0_4, e0_10, e0_11] at ws8
        have e8_2 : ∀ k, tg t8 (sr sh r0 2) k = tg t1 (sr sh r0 2) k := fun k => f8.eq q0 (i := 2) (by decide) (by decide) k
        have e8_3 : ∀ k, tg t8 (sr sh r0 3) k = tg t1 (sr sh r0 3) k := fun k => f8.eq q0 (i := 3) (by decide) (by decide) k
        have e8_4 : ∀ k, tg t8 (sr sh r0 4) k = tg t1 (sr sh r0 4) k := fun k => f8.eq q0 (i := 4) (by decide) (by decide) k
        have e8_10 : ∀ k, tg t8 (sr sh r0 10) k = tg t1 (sr sh r0 10) k := fun k => f8.eq q0 (i := 10) (by decide) (by decide) k
        have e8_11 : ∀ k, tg t8 (sr sh r0 11) k = tg t1 (sr sh r0 11) k := fun k => f8.eq q0 (i := 11) (by decide) (by decide) k
        try simp only [zput_s, zput_n, ti_g, oI_add, oI_sub, oI_mul]
        exact ih _ _ (by first | rfl | assumption) _ ((FrV.trans (Ns := [9]) (f0) f8 (by decide) (by decide))) (by first | omega | ((try simp only [zt0, zt1, zt2, zt3, zt4, zt5, zt6, zt7, zt8, zt9, zt10, zt11, zt12, zt13, e0_2, e0_3, e0_4, e0_10, e0_11, e8_2, e8_3, e8_4, e8_10, e8_11]); omega)) (by first | omega | ((try simp only [zt0, zt1, zt2, zt3, zt4, zt5, zt6, zt7, zt8, zt9, zt10, zt11, zt12, zt13, e0_2, e0_3, e0_4, e0_10, e0_11, e8_2, e8_3, e8_4, e8_10, e8_11]); omega))
      · refine zok_pI (s120 (by omega) (by omega) (by omega)) (fun y9 u9 p9 => ?_)
        try simp only [zt0, zt1, zt2, zt3, zt4, zt5, zt6, zt7, zt8, zt9, zt10, zt11, zt12, zt13, e0_2, e0_3, e0_4, e0_10, e0_11] at p9
        simp only [zput_s, zput_n, ti_g, oI_add, oI_sub, oI_mul, zt0, zt1, zt2, zt3, zt4, zt5, zt6, zt7, zt8, zt9, zt10, zt11, zt12, zt13, e0_2, e0_3, e0_4, e0_10, e0_11, b177_44]
        try simp only [zput_s, zput_n, ti_g, oI_add, oI_sub, oI_mul]
        first | refine zok_eq (by omega) (fun c11 => ?_) (fun c11 => ?_) | refine zok_if (fun c11 => ?_) (fun c11 => ?_)
        · simp only [zput_s, zput_n, ti_g, oI_add, oI_sub, oI_mul, zt0, zt1, zt2, zt3, zt4, zt5, zt6, zt7, zt8, zt9, zt10, zt11, zt12, zt13, e0_2, e0_3, e0_4, e0_10, e0_11, b177_57]
          try simp only [zput_s, zput_n, ti_g, oI_add, oI_sub, oI_mul]
          refine zok_ck ⟨(by rw [(q0).2.2.2.2.2.2.2.2.2.1]), zin_o (by omega) (by omega) (by omega)⟩ ?_
          try rw [nN_o (a := ((1500) * (x1)) + (x3)) (by omega) (by omega)]
          try simp only [zput_s, zput_n, ti_g, oI_add, oI_sub, oI_mul, zt0, zt1, zt2, zt3, zt4, zt5, zt6, zt7, zt8, zt9, zt10, zt11, zt12, zt13, e0_2, e0_3, e0_4, e0_10, e0_11]
          obtain ⟨t13, ht13⟩ : ∃ t', t' = tI t1 (sr sh r0 9) ((((1500) * (x1)) + (x3)).toNat) (oI (y4)) := ⟨_, rfl⟩
          try simp only [zt0, zt1, zt2, zt3, zt4, zt5, zt6, zt7, zt8, zt9, zt10, zt11, zt12, zt13, e0_2, e0_3, e0_4, e0_10, e0_11] at ht13
          rw [← ht13]
          have f13 : FrV sh r0 [9] t1 t13 := by rw [ht13]; exact GI_free q0 (f0.g) (by decide)
          have w13 : ∀ k, tg t13 (sr sh r0 9) k = if k = (((1500) * (x1)) + (x3)).toNat then y4 else tg t1 (sr sh r0 9) k := fun k => by rw [ht13]; refine (tg_at (by omega)).trans ?_; first | rfl | simp only [zt0, zt1, zt2, zt3, zt4, zt5, zt6, zt7, zt8, zt9, zt10, zt11, zt12, zt13, e0_2, e0_3, e0_4, e0_10, e0_11, true_and]
          have ws13 : tg t13 (sr sh r0 9) ((((1500) * (x1)) + (x3)).toNat) = y4 := by rw [w13, if_pos rfl]
          try simp only [zt0, zt1, zt2, zt3, zt4, zt5, zt6, zt7, zt8, zt9, zt10, zt11, zt12, zt13, e0_2, e0_3, e0_4, e0_10, e0_11] at w13
          try simp only [zt0, zt1, zt2, zt3, zt4, zt5, zt6, zt7, zt8, zt9, zt10, zt11, zt12, zt13, e0_2, e0_3, e0_4, e0_10, e0_11] at ws13
          have e13_2 : ∀ k, tg t13 (sr sh r0 2) k = tg t1 (sr sh r0 2) k := fun k => f13.eq q0 (i := 2) (by decide) (by decide) k
          have e13_3 : ∀ k, tg t13 (sr sh r0 3) k = tg t1 (sr sh r0 3) k := fun k => f13.eq q0 (i := 3) (by decide) (by decide) k
          have e13_4 : ∀ k, tg t13 (sr sh r0 4) k = tg t1 (sr sh r0 4) k := fun k => f13.eq q0 (i := 4) (by decide) (by decide) k
          have e13_10 : ∀ k, tg t13 (sr sh r0 10) k = tg t1 (sr sh r0 10) k := fun k => f13.eq q0 (i := 10) (by decide) (by decide) k
          have e13_11 : ∀ k, tg t13 (sr sh r0 11) k = tg t1 (sr sh r0 11) k := fun k => f13.eq q0 (i := 11) (by decide) (by decide) k
          try simp only [zput_s, zput_n, ti_g, oI_add, oI_sub, oI_mul]
          exact ih _ _ (by first | rfl | assumption) _ ((FrV.trans (Ns := [9]) (f0) f13 (by decide) (by decide))) (by first | omega | ((try simp only [zt0, zt1, zt2, zt3, zt4, zt5, zt6, zt7, zt8, zt9, zt10, zt11, zt12, zt13, e0_2, e0_3, e0_4, e0_10, e0_11, e13_2, e13_3, e13_4, e13_10, e13_11]); omega)) (by first | omega | ((try simp only [zt0, zt1, zt2, zt3, zt4, zt5, zt6, zt7, zt8, zt9, zt10, zt11, zt12, zt13, e0_2, e0_3, e0_4, e0_10, e0_11, e13_2, e13_3, e13_4, e13_10, e13_11]); omega))
        · simp only [zput_s, zput_n, ti_g, oI_add, oI_sub, oI_mul, zt0, zt1, zt2, zt3, zt4, zt5, zt6, zt7, zt8, zt9, zt10, zt11, zt12, zt13, e0_2, e0_3, e0_4, e0_10, e0_11, b177_57]
          try simp only [zput_s, zput_n, ti_g, oI_add, oI_sub, oI_mul]
          refine zok_ck ⟨(by rw [(q0).2.2.2.2.2.2.2.2.2.1]), zin_o (by omega) (by omega) (by omega)⟩ ?_
          try rw [nN_o (a := ((1500) * (x1)) + (x3)) (by omega) (by omega)]
          try simp only [zput_s, zput_n, ti_g, oI_add, oI_sub, oI_mul, zt0, zt1, zt2, zt3, zt4, zt5, zt6, zt7, zt8, zt9, zt10, zt11, zt12, zt13, e0_2, e0_3, e0_4, e0_10, e0_11]
          obtain ⟨t15, ht15⟩ : ∃ t', t' = tI t1 (sr sh r0 9) ((((1500) * (x1)) + (x3)).toNat) (oI ((y4) + (32))) := ⟨_, rfl⟩
          try simp only [zt0, zt1, zt2, zt3, zt4, zt5, zt6, zt7, zt8, zt9, zt10, zt11, zt12, zt13, e0_2, e0_3, e0_4, e0_10, e0_11] at ht15
          rw [← ht15]
          have f15 : FrV sh r0 [9] t1 t15 := by rw [ht15]; exact GI_free q0 (f0.g) (by decide)
          have w15 : ∀ k, tg t15 (sr sh r0 9) k = if k = (((1500) * (x1)) + (x3)).toNat then (y4) + (32) else tg t1 (sr sh r0 9) k := fun k => by rw [ht15]; refine (tg_at (by omega)).trans ?_; first | rfl | simp only [zt0, zt1, zt2, zt3, zt4, zt5, zt6, zt7, zt8, zt9, zt10, zt11, zt12, zt13, e0_2, e0_3, e0_4, e0_10, e0_11, true_and]
          have ws15 : tg t15 (sr sh r0 9) ((((1500) * (x1)) + (x3)).toNat) = (y4) + (32) := by rw [w15, if_pos rfl]
          try simp only [zt0, zt1, zt2, zt3, zt4, zt5, zt6, zt7, zt8, zt9, zt10, zt11, zt12, zt13, e0_2, e0_3, e0_4, e0_10, e0_11] at w15
          try simp only [zt0, zt1, zt2, zt3, zt4, zt5, zt6, zt7, zt8, zt9, zt10, zt11, zt12, zt13, e0_2, e0_3, e0_4, e0_10, e0_11] at ws15
          have e15_2 : ∀ k, tg t15 (sr sh r0 2) k = tg t1 (sr sh r0 2) k := fun k => f15.eq q0 (i := 2) (by decide) (by decide) k
          have e15_3 : ∀ k, tg t15 (sr sh r0 3) k = tg t1 (sr sh r0 3) k := fun k => f15.eq q0 (i := 3) (by decide) (by decide) k
          have e15_4 : ∀ k, tg t15 (sr sh r0 4) k = tg t1 (sr sh r0 4) k := fun k => f15.eq q0 (i := 4) (by decide) (by decide) k
          have e15_10 : ∀ k, tg t15 (sr sh r0 10) k = tg t1 (sr sh r0 10) k := fun k => f15.eq q0 (i := 10) (by decide) (by decide) k
          have e15_11 : ∀ k, tg t15 (sr sh r0 11) k = tg t1 (sr sh r0 11) k := fun k => f15.eq q0 (i := 11) (by decide) (by decide) k
          try simp only [zput_s, zput_n, ti_g, oI_add, oI_sub, oI_mul]
          exact ih _ _ (by first | rfl | assumption) _ ((FrV.trans (Ns := [9]) (f0) f15 (by decide) (by decide))) (by first | omega | ((try simp only [zt0, zt1, zt2, zt3, zt4, zt5, zt6, zt7, zt8, zt9, zt10, zt11, zt12, zt13, e0_2, e0_3, e0_4, e0_10, e0_11, e15_2, e15_3, e15_4, e15_10, e15_11]); omega)) (by first | omega | ((try simp only [zt0, zt1, zt2, zt3, zt4, zt5, zt6, zt7, zt8, zt9, zt10, zt11, zt12, zt13, e0_2, e0_3, e0_4, e0_10, e0_11, e15_2, e15_3, e15_4, e15_10, e15_11]); omega))
theorem s177 {sh : zSh} {t : zSt} {MB : Nat} {r0 : Nat} (q0 : zMd sh MB r0) {x1 : Int} (u1 : -2147483648 ≤ x1 ∧ x1 ≤ 2147483647) {x2 : Int} (u2 : -2147483648 ≤ x2 ∧ x2 ≤ 2147483647) (d1 : 0 ≤ x1 ∧ x1 ≤ 6) (d2 : tg t (sr sh r0 10) (x1).toNat ≤ 1400) (G : GI sh r0 t) : zok (zcl zP 177 [zR r0, zI (oI x1), zI (oI x2)] (sh, t)) (zq0 (fun t' => FrV sh r0 [9] t t' ∧ (True)) sh) := by
  have ha0_1 : (sk sh (sr sh r0 1)).2 = 21000 := by rw [q0.2.2.2.2.1]
  have ha0_2 : (sk sh (sr sh r0 2)).2 = 14 := by rw [q0.2.2.2.2.2.1]
  have ha0_3 : (sk sh (sr sh r0 3)).2 = 98 := by rw [q0.2.2.2.2.2.2.1]
  have ha0_4 : (sk sh (sr sh r0 4)).2 = 98 := by rw [q0.2.2.2.2.2.2.2.1]
  have ha0_8 : (sk sh (sr sh r0 8)).2 = 1500 := by rw [q0.2.2.2.2.2.2.2.2.1]
  have ha0_9 : (sk sh (sr sh r0 9)).2 = 10500 := by rw [q0.2.2.2.2.2.2.2.2.2.1]
  have ha0_10 : (sk sh (sr sh r0 10)).2 = 7 := by rw [q0.2.2.2.2.2.2.2.2.2.2.1]
  have ha0_11 : (sk sh (sr sh r0 11)).2 = 7 := by rw [q0.2.2.2.2.2.2.2.2.2.2.2.1]
  have ha0_12 : (sk sh (sr sh r0 12)).2 = 1500 := by rw [q0.2.2.2.2.2.2.2.2.2.2.2.2.1]
  have ha0_13 : (sk sh (sr sh r0 13)).2 = 1500 := by rw [q0.2.2.2.2.2.2.2.2.2.2.2.2.2.1]
  have ha0_14 : (sk sh (sr sh r0 14)).2 = 20 := by rw [q0.2.2.2.2.2.2.2.2.2.2.2.2.2.2]
  rw [b177_0]
  try simp only [zput_s, zput_n, ti_g, oI_add, oI_sub, oI_mul]
  try simp only [zput_s, zput_n, ti_g, oI_add, oI_sub, oI_mul]
  exact l177_2 q0 (by omega) (by omega) d1 d2 G _ _ _ (by first | rfl | assumption) _ (FrV.refl G) (by first | omega | ((try simp only [zt0, zt1, zt2, zt3, zt4, zt5, zt6, zt7, zt8, zt9, zt10, zt11, zt12, zt13]); omega)) (Nat.lt_succ_self _)
/-! X9_freeCodes -/
theorem l179_12 {sh : zSh} {t0 : zSt} {MB : Nat} {r0 : Nat} (q0 : zMd sh MB r0) {x1 : Int} (u1 : -2147483648 ≤ x1 ∧ x1 ≤ 2147483647) (d1 : 0 ≤ x1 ∧ x1 ≤ 6) (d2 : tg t0 (sr sh r0 10) (x1).toNat ≤ 1400) (G : GI sh r0 t0) : ∀ (n : Nat) (x2 : Int) (x3 : Int) (x4 : Int) (o5 : Option zV) (o6 : Option zV) (o7 : Option zV) (wo5 : zisL o5 = false) (wo6 : zisL o6 = false) (wo7 : zisL o7 = false) (t1 : zSt), FrV sh r0 [9, 10] t0 t1 → (-2147483648 ≤ x2 ∧ x2 ≤ 2147483647) ∧ (-2147483648 ≤ x3 ∧ x3 ≤ 2147483647) ∧ (-2147483648 ≤ x4 ∧ x4 ≤ 2147483647) ∧ (0 ≤ x4 ∧ x4 ≤ x3 ∧ x4 ≤ x2 ∧ x2 ≤ 1400 ∧ x3 ≤ 1500) ∧ (x2 = tg t0 (sr sh r0 10) (x1).toNat) → (∀ k, k ≠ (x1).toNat → tg t1 (sr sh r0 10) k = tg t0 (sr sh r0 10) k) → (x2 - x3).toNat < n → zok (zev zP 179 12 [some (zR r0), some (zI (oI x1)), some (zI (oI x2)), some (zI (oI x3)), some (zI (oI x4)), o5, o6, o7] [] (sh, t1)) (zq0 (fun t' => FrV sh r0 [9, 10] t0 t' ∧ (tg t' (sr sh r0 10) (x1).toNat ≤ tg t0 (sr sh r0 10) (x1).toNat ∧ ∀ k, k ≠ (x1).toNat → tg t' (sr sh r0 10) k = tg t0 (sr sh r0 10) k)) sh) := by
  intro n
  induction n with
  | zero => intro x2 x3 x4 o5 o6 o7 wo5 wo6 wo7 t1 f0 _ _ hm; omega
  | succ n ih =>
    intro x2 x3 x4 o5 o6 o7 wo5 wo6 wo7 t1 f0 hv hq1 hm
    have ha0_1 : (sk sh (sr sh r0 1)).2 = 21000 := by rw [q0.2.2.2.2.1]
    have ha0_2 : (sk sh (sr sh r0 2)).2 = 14 := by rw [q0.2.2.2.2.2.1]
    have ha0_3 : (sk sh (sr sh r0 3)).2 = 98 := by rw [q0.2.2.2.2.2.2.1]
    have ha0_4 : (sk sh (sr sh r0 4)).2 = 98 := by rw [q0.2.2.2.2.2.2.2.1]
    have ha0_8 : (sk sh (sr sh r0 8)).2 = 1500 := by rw [q0.2.2.2.2.2.2.2.2.1]
    have ha0_9 : (sk sh (sr sh r0 9)).2 = 10500 := by rw [q0.2.2.2.2.2.2.2.2.2.1]
    have ha0_10 : (sk sh (sr sh r0 10)).2 = 7 := by rw [q0.2.2.2.2.2.2.2.2.2.2.1]
    have ha0_11 : (sk sh (sr sh r0 11)).2 = 7 := by rw [q0.2.2.2.2.2.2.2.2.2.2.2.1]
    have ha0_12 : (sk sh (sr sh r0 12)).2 = 1500 := by rw [q0.2.2.2.2.2.2.2.2.2.2.2.2.1]
    have ha0_13 : (sk sh (sr sh r0 13)).2 = 1500 := by rw [q0.2.2.2.2.2.2.2.2.2.2.2.2.2.1]
    have ha0_14 : (sk sh (sr sh r0 14)).2 = 20 := by rw [q0.2.2.2.2.2.2.2.2.2.2.2.2.2.2]
    have e0_2 : ∀ k, tg t1 (sr sh r0 2) k = tg t0 (sr sh r0 2) k := fun k => f0.eq q0 (i := 2) (by decide) (by decide) k
    have e0_3 : ∀ k, tg t1 (sr sh r0 3) k = tg t0 (sr sh r0 3) k := fun k => f0.eq q0 (i := 3) (by decide) (by decide) k
    have e0_4 : ∀ k, tg t1 (sr sh r0 4) k = tg t0 (sr sh r0 4) k := fun k => f0.eq q0 (i := 4) (by decide) (by decide) k
    have e0_11 : ∀ k, tg t1 (sr sh r0 11) k = tg t0 (sr sh r0 11) k := fun k => f0.eq q0 (i := 11) (by decide) (by decide) k
    try simp only [zt0, zt1, zt2, zt3, zt4, zt5, zt6, zt7, zt8, zt9, zt10, zt11, zt12, zt13, e0_2, e0_3, e0_4, e0_11] at hv
    try simp only [zt0, zt1, zt2, zt3, zt4, zt5, zt6, zt7, zt8, zt9, zt10, zt11, zt12, zt13, e0_2, e0_3, e0_4, e0_11] at hm
    try simp only [zput_s, zput_n, ti_g, oI_add, oI_sub, oI_mul]
    rw [b179_12 (o5 := o5) (wo5 := wo5) (o6 := o6) (wo6 := wo6) (o7 := o7) (wo7 := wo7)]
    try simp only [zput_s, zput_n, ti_g, oI_add, oI_sub, oI_mul]
    first | refine zok_le (by omega) (fun c2 => ?_) (fun c2 => ?_) | refine zok_if (fun c2 => ?_) (fun c2 => ?_)
    · refine zok_ck ((q0).1) ?_
      refine zok_ck ⟨(by rw [(q0).2.2.2.2.2.2.2.2.2.2.1]), zin_o (by omega) (by omega) (by omega)⟩ ?_
      try rw [nN_o (a := x1) (by omega) (by omega)]
      try simp only [zput_s, zput_n, ti_g, oI_add, oI_sub, oI_mul, zt0, zt1, zt2, zt3, zt4, zt5, zt6, zt7, zt8, zt9, zt10, zt11, zt12, zt13, e0_2, e0_3, e0_4, e0_11]
      obtain ⟨t3, ht3⟩ : ∃ t', t' = tI t1 (sr sh r0 10) ((x1).toNat) (oI (x4)) := ⟨_, rfl⟩
      try simp only [zt0, zt1, zt2, zt3, zt4, zt5, zt6, zt7, zt8, zt9, zt10, zt11, zt12, zt13, e0_2, e0_3, e0_4, e0_11] at ht3
      rw [← ht3]
      have f3 : FrV sh r0 [10] t1 t3 := by rw [ht3]; exact GI_ls q0 (f0.g) (by omega) (by omega)
      have w3 : ∀ k, tg t3 (sr sh r0 10) k = if k = (x1).toNat then x4 else tg t1 (sr sh r0 10) k := fun k => by rw [ht3]; refine (tg_at (by omega)).trans ?_; first | rfl | simp only [zt0, zt1, zt2, zt3, zt4, zt5, zt6, zt7, zt8, zt9, zt10, zt11, zt12, zt13, e0_2, e0_3, e0_4, e0_11, true_and]
      have ws3 : tg t3 (sr sh r0 10) ((x1).toNat) = x4 := by rw [w3, if_pos rfl]
      try simp only [zt0, zt1, zt2, zt3, zt4, zt5, zt6, zt7, zt8, zt9, zt10, zt11, zt12, zt13, e0_2, e0_3, e0_4, e0_11] at w3
      try simp only [zt0, zt1, zt2, zt3, zt4, zt5, zt6, zt7, zt8, zt9, zt10, zt11, zt12, zt13, e0_2, e0_3, e0_4, e0_11] at ws3
      have e3_2 : ∀ k, tg t3 (sr sh r0 2) k = tg t1 (sr sh r0 2) k := fun k => f3.eq q0 (i := 2) (by decide) (by decide) k
      have e3_3 : ∀ k, tg t3 (sr sh r0 3) k = tg t1 (sr sh r0 3) k := fun k => f3.eq q0 (i := 3) (by decide) (by decide) k
      have e3_4 : ∀ k, tg t3 (sr sh r0 4) k = tg t1 (sr sh r0 4) k := fun k => f3.eq q0 (i := 4) (by decide) (by decide) k
      have e3_9 : ∀ k, tg t3 (sr sh r0 9) k = tg t1 (sr sh r0 9) k := fun k => f3.eq q0 (i := 9) (by decide) (by decide) k
      have e3_11 : ∀ k, tg t3 (sr sh r0 11) k = tg t1 (sr sh r0 11) k := fun k => f3.eq q0 (i := 11) (by decide) (by decide) k
      exact q0_rt ⟨(FrV.trans (Ns := [9, 10]) (f0) f3 (by decide) (by decide)), ⟨by omega, fun k hk => by ((try have c0 := hq1 k hk); (try have c0 := hq1 k); (have c1 := w3 k); (try simp only [zt0, zt1, zt2, zt3, zt4, zt5, zt6, zt7, zt8, zt9, zt10, zt11, zt12, zt13] at *) <;> omega)⟩⟩
    · refine zok_ck ((q0).1) ?_
      refine zok_ck ⟨(by rw [(q0).2.2.2.2.2.2.2.2.2.1]), zin_o (by omega) (by omega) (by omega)⟩ ?_
      try rw [nN_o (a := ((1500) * (x1)) + (x3)) (by omega) (by omega)]
      try simp only [zput_s, zput_n, ti_g, oI_add, oI_sub, oI_mul, zt0, zt1, zt2, zt3, zt4, zt5, zt6, zt7, zt8, zt9, zt10, zt11, zt12, zt13, e0_2, e0_3, e0_4, e0_11]
      have gl4 := And.intro (tg_lo t1 (sr sh r0 9) ((((1500) * (x1)) + (x3)).toNat)) (tg_hi t1 (sr sh r0 9) ((((1500) * (x1)) + (x3)).toNat))
      try simp only [zt0, zt1, zt2, zt3, zt4, zt5, zt6, zt7, zt8, zt9, zt10, zt11, zt12, zt13, e0_2, e0_3, e0_4, e0_11] at gl4
      refine zok_ck ((q0).1) ?_
      refine zok_pI (s178 (q0) (by omega) (by omega) (by first | (omega) | ((try simp only [zt0, zt1, zt2, zt3, zt4, zt5, zt6, zt7, zt8, zt9, zt10, zt11, zt12, zt13, e0_2, e0_3, e0_4, e0_11]); omega)) (by first | (omega) | ((try simp only [zt0, zt1, zt2, zt3, zt4, zt5, zt6, zt7, zt8, zt9, zt10, zt11, zt12, zt13, e0_2, e0_3, e0_4, e0_11]); omega)) (f0.g)) (fun y5 u5 p5 => ?_)
      try simp only [zt0, zt1, zt2, zt3, zt4, zt5, zt6, zt7, zt8, zt9, zt10, zt11, zt12, zt13, e0_2, e0_3, e0_4, e0_11] at p5
      try simp only [zput_s, zput_n, ti_g, oI_add, oI_sub, oI_mul]
      rw [b179_37 (o6 := o6) (wo6 := wo6) (o7 := o7) (wo7 := wo7)]
      try simp only [zput_s, zput_n, ti_g, oI_add, oI_sub, oI_mul]
      first | refine zok_eq (by omega) (fun c7 => ?_) (fun c7 => ?_) | refine zok_if (fun c7 => ?_) (fun c7 => ?_)
      · first | refine zok_lt (by omega) (fun c8 => ?_) (fun c8 => ?_) | refine zok_if (fun c8 => ?_) (fun c8 => ?_)
        · refine zok_ck ((q0).1) ?_
          simp only [zput_s, zput_n, ti_g, oI_add, oI_sub, oI_mul, zt0, zt1, zt2, zt3, zt4, zt5, zt6, zt7, zt8, zt9, zt10, zt11, zt12, zt13, e0_2, e0_3, e0_4, e0_11, b179_116]
          try simp only [zput_s, zput_n, ti_g, oI_add, oI_sub, oI_mul]
          refine zok_ck ⟨(by rw [(q0).2.2.2.2.2.2.2.2.2.1]), zin_o (by omega) (by omega) (by omega)⟩ ?_
          try rw [nN_o (a := ((1500) * (x1)) + (x4)) (by omega) (by omega)]
          try simp only [zput_s, zput_n, ti_g, oI_add, oI_sub, oI_mul, zt0, zt1, zt2, zt3, zt4, zt5, zt6, zt7, zt8, zt9, zt10, zt11, zt12, zt13, e0_2, e0_3, e0_4, e0_11]
          obtain ⟨t10, ht10⟩ : ∃ t', t' = tI t1 (sr sh r0 9) ((((1500) * (x1)) + (x4)).toNat) (oI (tg t1 (sr sh r0 9) ((((1500) * (x1)) + (x3)).toNat))) := ⟨_, rfl⟩
          try simp only [zt0, zt1, zt2, zt3, zt4, zt5, zt6, zt7, zt8, zt9, zt10, zt11, zt12, zt13, e0_2, e0_3, e0_4, e0_11] at ht10
          rw [← ht10]
          have f10 : FrV sh r0 [9] t1 t10 := by rw [ht10]; exact GI_free q0 (f0.g) (by decide)
          have w10 : ∀ k, tg t10 (sr sh r0 9) k = if k = (((1500) * (x1)) + (x4)).toNat then tg t1 (sr sh r0 9) ((((1500) * (x1)) + (x3)).toNat) else tg t1 (sr sh r0 9) k := fun k => by rw [ht10]; refine (tg_at (by omega)).trans ?_; first | rfl | simp only [zt0, zt1, zt2, zt3, zt4, zt5, zt6, zt7, zt8, zt9, zt10, zt11, zt12, zt13, e0_2, e0_3, e0_4, e0_11, true_and]
          have ws10 : tg t10 (sr sh r0 9) ((((1500) * (x1)) + (x4)).toNat) = tg t1 (sr sh r0 9) ((((1500) * (x1)) + (x3)).toNat) := by rw [w10, if_pos rfl]
          try simp only [zt0, zt1, zt2, zt3, zt4, zt5, zt6, zt7, zt8, zt9, zt10, zt11, zt12, zt13, e0_2, e0_3, e0_4, e0_11] at w10
          try simp only [zt0, zt1, zt2, zt3, zt4, zt5, zt6, zt7, zt8, zt9, zt10, zt11, zt12, zt13, e0_2, e0_3, e0_4, e0_11] at ws10
          have e10_2 : ∀ k, tg t10 (sr sh r0 2) k = tg t1 (sr sh r0 2) k := fun k => f10.eq q0 (i := 2) (by decide) (by decide) k
          have e10_3 : ∀ k, tg t10 (sr sh r0 3) k = tg t1 (sr sh r0 3) k := fun k => f10.eq q0 (i := 3) (by decide) (by decide) k
          have e10_4 : ∀ k, tg t10 (sr sh r0 4) k = tg t1 (sr sh r0 4) k := fun k => f10.eq q0 (i := 4) (by decide) (by decide) k
          have e10_10 : ∀ k, tg t10 (sr sh r0 10) k = tg t1 (sr sh r0 10) k := fun k => f10.eq q0 (i := 10) (by decide) (by decide) k
          have e10_11 : ∀ k, tg t10 (sr sh r0 11) k = tg t1 (sr sh r0 11) k := fun k => f10.eq q0 (i := 11) (by decide) (by decide) k
          try simp only [zput_s, zput_n, ti_g, oI_add, oI_sub, oI_mul]
          exact ih _ _ _ _ _ _ (by first | rfl | assumption) (by first | rfl | assumption) (by first | rfl | assumption) _ ((FrV.trans (Ns := [9, 10]) (f0) f10 (by decide) (by decide))) (by first | omega | ((try simp only [zt0, zt1, zt2, zt3, zt4, zt5, zt6, zt7, zt8, zt9, zt10, zt11, zt12, zt13, e0_2, e0_3, e0_4, e0_11, e10_2, e10_3, e10_4, e10_10, e10_11]); omega)) (fun k hk => by ((try have c0 := hq1 k hk); (try have c0 := hq1 k); (have c5 := e10_10 k); (try simp only [zt0, zt1, zt2, zt3, zt4, zt5, zt6, zt7, zt8, zt9, zt10, zt11, zt12, zt13] at *) <;> omega)) (by first | omega | ((try simp only [zt0, zt1, zt2, zt3, zt4, zt5, zt6, zt7, zt8, zt9, zt10, zt11, zt12, zt13, e0_2, e0_3, e0_4, e0_11, e10_2, e10_3, e10_4, e10_10, e10_11]); omega))
        · refine zok_pI (s123 (by omega)) (fun y11 u11 p11 => ?_)
          try simp only [zt0, zt1, zt2, zt3, zt4, zt5, zt6, zt7, zt8, zt9, zt10, zt11, zt12, zt13, e0_2, e0_3, e0_4, e0_11] at p11
          try simp only [zput_s, zput_n, ti_g, oI_add, oI_sub, oI_mul]
          rw [b179_82 (o7 := o7) (wo7 := wo7)]
          try simp only [zput_s, zput_n, ti_g, oI_add, oI_sub, oI_mul]
          first | refine zok_eq (by omega) (fun c13 => ?_) (fun c13 => ?_) | refine zok_if (fun c13 => ?_) (fun c13 => ?_)
          · refine zok_ck ((q0).1) ?_
            simp only [zput_s, zput_n, ti_g, oI_add, oI_sub, oI_mul, zt0, zt1, zt2, zt3, zt4, zt5, zt6, zt7, zt8, zt9, zt10, zt11, zt12, zt13, e0_2, e0_3, e0_4, e0_11, b179_116]
            try simp only [zput_s, zput_n, ti_g, oI_add, oI_sub, oI_mul]
            refine zok_ck ⟨(by rw [(q0).2.2.2.2.2.2.2.2.2.1]), zin_o (by omega) (by omega) (by omega)⟩ ?_
            try rw [nN_o (a := ((1500) * (x1)) + (x4)) (by omega) (by omega)]
            try simp only [zput_s, zput_n, ti_g, oI_add, oI_sub, oI_mul, zt0, zt1, zt2, zt3, zt4, zt5, zt6, zt7, zt8, zt9, zt10, zt11, zt12, zt13, e0_2, e0_3, e0_4, e0_11]
            obtain ⟨t15, ht15⟩ : ∃ t', t' = tI t1 (sr sh r0 9) ((((1500) * (x1)) + (x4)).toNat) (oI (tg t1 (sr sh r0 9) ((((1500) * (x1)) + (x3)).toNat))) := ⟨_, rfl⟩
            try simp only [zt0, zt1, zt2, zt3, zt4, zt5, zt6, zt7, zt8, zt9, zt10, zt11, zt12, zt13, e0_2, e0_3, e0_4, e0_11] at ht15
            rw [← ht15]
            have f15 : FrV sh r0 [9] t1 t15 := by rw [ht15]; exact GI_free q0 (f0.g) (by decide)
            have w15 : ∀ k, tg t15 (sr sh r0 9) k = if k = (((1500) * (x1)) + (x4)).toNat then tg t1 (sr sh r0 9) ((((1500) * (x1)) + (x3)).toNat) else tg t1 (sr sh r0 9) k := fun k => by rw [ht15]; refine (tg_at (by omega)).trans ?_; first | rfl | simp only [zt0, zt1, zt2, zt3, zt4, zt5, zt6, zt7, zt8, zt9, zt10, zt11, zt12, zt13, e0_2, e0_3, e0_4, e0_11, true_and]
            have ws15 : tg t15 (sr sh r0 9) ((((1500) * (x1)) + (x4)).toNat) = tg t1 (sr sh r0 9) ((((1500) * (x1)) + (x3)).toNat) := by rw [w15, if_pos rfl]
            try simp only [zt0, zt1, zt2, zt3, zt4, zt5, zt6, zt7, zt8, zt9, zt10, zt11, zt12, zt13, e0_2, e0_3, e0_4, e0_11] at w15
            try simp only [zt0, zt1, zt2, zt3, zt4, zt5, zt6, zt7, zt8, zt9, zt10, zt11, zt12, zt13, e0_2, e0_3, e0_4, e0_11] at ws15
            have e15_2 : ∀ k, tg t15 (sr sh r0 2) k = tg t1 (sr sh r0 2) k := fun k => f15.eq q0 (i := 2) (by decide) (by decide) k
            have e15_3 : ∀ k, tg t15 (sr sh r0 3) k = tg t1 (sr sh r0 3) k := fun k => f15.eq q0 (i := 3) (by decide) (by decide) k
            have e15_4 : ∀ k, tg t15 (sr sh r0 4) k = tg t1 (sr sh r0 4) k := fun k => f15.eq q0 (i := 4) (by decide) (by decide) k
            have e15_10 : ∀ k, tg t15 (sr sh r0 10) k = tg t1 (sr sh r0 10) k := fun k => f15.eq q0 (i := 10) (by decide) (by decide) k
            have e15_11 : ∀ k, tg t15 (sr sh r0 11) k = tg t1 (sr sh r0 11) k := fun k => f15.eq q0 (i := 11) (by decide) (by decide) k
            try simp only [zput_s, zput_n, ti_g, oI_add, oI_sub, oI_mul]
            exact ih _ _ _ _ _ _ (by first | rfl | assumption) (by first | rfl | assumption) (by first | rfl | assumption) _ ((FrV.trans (Ns := [9, 10]) (f0) f15 (by decide) (by decide))) (by first | omega | ((try simp only [zt0, zt1, zt2, zt3, zt4, zt5, zt6, zt7, zt8, zt9, zt10, zt11, zt12, zt13, e0_2, e0_3, e0_4, e0_11, e15_2, e15_3, e15_4, e15_10, e15_11]); omega)) (fun k hk => by ((try have c0 := hq1 k hk); (try have c0 := hq1 k); (have c5 := e15_10 k); (try simp only [zt0, zt1, zt2, zt3, zt4, zt5, zt6, zt7, zt8, zt9, zt10, zt11, zt12, zt13] at *) <;> omega)) (by first | omega | ((try simp only [zt0, zt1, zt2, zt3, zt4, zt5, zt6, zt7, zt8, zt9, zt10, zt11, zt12, zt13, e0_2, e0_3, e0_4, e0_11, e15_2, e15_3, e15_4, e15_10, e15_11]); omega))
          · refine zok_ck ((q0).1) ?_
            first | refine zok_eq (by omega) (fun c16 => ?_) (fun c16 => ?_) | refine zok_if (fun c16 => ?_) (fun c16 => ?_)
            · simp only [zput_s, zput_n, ti_g, oI_add, oI_sub, oI_mul, zt0, zt1, zt2, zt3, zt4, zt5, zt6, zt7, zt8, zt9, zt10, zt11, zt12, zt13, e0_2, e0_3, e0_4, e0_11, b179_116]
              try simp only [zput_s, zput_n, ti_g, oI_add, oI_sub, oI_mul]
              refine zok_ck ⟨(by rw [(q0).2.2.2.2.2.2.2.2.2.1]), zin_o (by omega) (by omega) (by omega)⟩ ?_
              try rw [nN_o (a := ((1500) * (x1)) + (x4)) (by omega) (by omega)]
              try simp only [zput_s, zput_n, ti_g, oI_add, oI_sub, oI_mul, zt0, zt1, zt2, zt3, zt4, zt5, zt6, zt7, zt8, zt9, zt10, zt11, zt12, zt13, e0_2, e0_3, e0_4, e0_11]
              obtain ⟨t18, ht18⟩ : ∃ t', t' = tI t1 (sr sh r0 9) ((((1500) * (x1)) + (x4)).toNat) (oI (tg t1 (sr sh r0 9) ((((1500) * (x1)) + (x3)).toNat))) := ⟨_, rfl⟩
              try simp only [zt0, zt1, zt2, zt3, zt4, zt5, zt6, zt7, zt8, zt9, zt10, zt11, zt12, zt13, e0_2, e0_3, e0_4, e0_11] at ht18
              rw [← ht18]
              have f18 : FrV sh r0 [9] t1 t18 := by rw [ht18]; exact GI_free q0 (f0.g) (by decide)
              have w18 : ∀ k, tg t18 (sr sh r0 9) k = if k = (((1500) * (x1)) + (x4)).toNat then tg t1 (sr sh r0 9) ((((1500) * (x1)) + (x3)).toNat) else tg t1 (sr sh r0 9) k := fun k => by rw [ht18]; refine (tg_at (by omega)).trans ?_; first | rfl | simp only [zt0, zt1, zt2, zt3, zt4, zt5, zt6, zt7, zt8, zt9, zt10, zt11, zt12, zt13, e0_2, e0_3, e0_4, e0_11, true_and]
              have ws18 : tg t18 (sr sh r0 9) ((((1500) * (x1)) + (x4)).toNat) = tg t1 (sr sh r0 9) ((((1500) * (x1)) + (x3)).toNat) := by rw [w18, if_pos rfl]
              try simp only [zt0, zt1, zt2, zt3, zt4, zt5, zt6, zt7, zt8, zt9, zt10, zt11, zt12, zt13, e0_2, e0_3, e0_4, e0_11] at w18
              try simp only [zt0, zt1, zt2, zt3, zt4, zt5, zt6, zt7, zt8, zt9, zt10, zt11, zt12, zt13, e0_2, e0_3, e0_4, e0_11] at ws18
              have e18_2 : ∀ k, tg t18 (sr sh r0 2) k = tg t1 (sr sh r0 2) k := fun k => f18.eq q0 (i := 2) (by decide) (by decide) k
              have e18_3 : ∀ k, tg t18 (sr sh r0 3) k = tg t1 (sr sh r0 3) k := fun k => f18.eq q0 (i := 3) (by decide) (by decide) k
              have e18_4 : ∀ k, tg t18 (sr sh r0 4) k = tg t1 (sr sh r0 4) k := fun k => f18.eq q0 (i := 4) (by decide) (by decide) k
              have e18_10 : ∀ k, tg t18 (sr sh r0 10) k = tg t1 (sr sh r0 10) k := fun k => f18.eq q0 (i := 10) (by decide) (by decide) k
              have e18_11 : ∀ k, tg t18 (sr sh r0 11) k = tg t1 (sr sh r0 11) k := fun k => f18.eq q0 (i := 11) (by decide) (by decide) k
              first | refine zok_eq (by omega) (fun c19 => ?_) (fun c19 => ?_) | refine zok_if (fun c19 => ?_) (fun c19 => ?_)
              · try simp only [zput_s, zput_n, ti_g, oI_add, oI_sub, oI_mul]
                exact ih _ _ _ _ _ _ (by first | rfl | assumption) (by first | rfl | assumption) (by first | rfl | assumption) _ ((FrV.trans (Ns := [9, 10]) (f0) f18 (by decide) (by decide))) (by first | omega | ((try simp only [zt0, zt1, zt2, zt3, zt4, zt5, zt6, zt7, zt8, zt9, zt10, zt11, zt12, zt13, e0_2, e0_3, e0_4, e0_11, e18_2, e18_3, e18_4, e18_10, e18_11]); omega)) (fun k hk => by ((try have c0 := hq1 k hk); (try have c0 := hq1 k); (have c5 := e18_10 k); (try simp only [zt0, zt1, zt2, zt3, zt4, zt5, zt6, zt7, zt8, zt9, zt10, zt11, zt12, zt13] at *) <;> omega)) (by first | omega | ((try simp only [zt0, zt1, zt2, zt3, zt4, zt5, zt6, zt7, zt8, zt9, zt10, zt11, zt12, zt13, e0_2, e0_3, e0_4, e0_11, e18_2, e18_3, e18_4, e18_10, e18_11]); omega))
              · try simp only [zput_s, zput_n, ti_g, oI_add, oI_sub, oI_mul]
                exact ih _ _ _ _ _ _ (by first | rfl | assumption) (by first | rfl | assumption) (by first | rfl | assumption) _ ((FrV.trans (Ns := [9, 10]) (f0) f18 (by decide) (by decide))) (by first | omega | ((try simp only [zt0, zt1, zt2, zt3, zt4, zt5, zt6, zt7, zt8, zt9, zt10, zt11, zt12, zt13, e0_2, e0_3, e0_4, e0_11, e18_2, e18_3, e18_4, e18_10, e18_11]); omega)) (fun k hk => by ((try have c0 := hq1 k hk); (try have c0 := hq1 k); (have c5 := e18_10 k); (try simp only [zt0, zt1, zt2, zt3, zt4, zt5, zt6, zt7, zt8, zt9, zt10, zt11, zt12, zt13] at *) <;> omega)) (by first | omega | ((try simp only [zt0, zt1, zt2, zt3, zt4, zt5, zt6, zt7, zt8, zt9, zt10, zt11, zt12, zt13, e0_2, e0_3, e0_4, e0_11, e18_2, e18_3, e18_4, e18_10, e18_11]); omega))
            · simp only [zput_s, zput_n, ti_g, oI_add, oI_sub, oI_mul, zt0, zt1, zt2, zt3, zt4, zt5, zt6, zt7, zt8, zt9, zt10, zt11, zt12, zt13, e0_2, e0_3, e0_4, e0_11, b179_116]
              try simp only [zput_s, zput_n, ti_g, oI_add, oI_sub, oI_mul]
              refine zok_ck ⟨(by rw [(q0).2.2.2.2.2.2.2.2.2.1]), zin_o (by omega) (by omega) (by omega)⟩ ?_
              try rw [nN_o (a := ((1500) * (x1)) + (x4)) (by omega) (by omega)]
              try simp only [zput_s, zput_n, ti_g, oI_add, oI_sub, oI_mul, zt0, zt1, zt2, zt3, zt4, zt5, zt6, zt7, zt8, zt9, zt10, zt11, zt12, zt13, e0_2, e0_3, e0_4, e0_11]
              obtain ⟨t21, ht21⟩ : ∃ t', t' = tI t1 (sr sh r0 9) ((((1500) * (x1)) + (x4)).toNat) (oI ((-1))) := ⟨_, rfl⟩
              try simp only [zt0, zt1, zt2, zt3, zt4, zt5, zt6, zt7, zt8, zt9, zt10, zt11, zt12, zt13, e0_2, e0_3, e0_4, e0_11] at ht21
              rw [← ht21]
              have f21 : FrV sh r0 [9] t1 t21 := by rw [ht21]; exact GI_free q0 (f0.g) (by decide)
              have w21 : ∀ k, tg t21 (sr sh r0 9) k = if k = (((1500) * (x1)) + (x4)).toNat then (-1) else tg t1 (sr sh r0 9) k := fun k => by rw [ht21]; refine (tg_at (by omega)).trans ?_; first | rfl | simp only [zt0, zt1, zt2, zt3, zt4, zt5, zt6, zt7, zt8, zt9, zt10, zt11, zt12, zt13, e0_2, e0_3, e0_4, e0_11, true_and]
              have ws21 : tg t21 (sr sh r0 9) ((((1500) * (x1)) + (x4)).toNat) = (-1) := by rw [w21, if_pos rfl]
              try simp only [zt0, zt1, zt2, zt3, zt4, zt5, zt6, zt7, zt8, zt9, zt10, zt11, zt12, zt13, e0_2, e0_3, e0_4, e0_11] at w21
              try simp only [zt0, zt1, zt2, zt3, zt4, zt5, zt6, zt7, zt8, zt9, zt10, zt11, zt12, zt13, e0_2, e0_3, e0_4, e0_11] at ws21
              have e21_2 : ∀ k, tg t21 (sr sh r0 2) k = tg t1 (sr sh r0 2) k := fun k => f21.eq q0 (i := 2) (by decide) (by decide) k
              have e21_3 : ∀ k, tg t21 (sr sh r0 3) k = tg t1 (sr sh r0 3) k := fun k => f21.eq q0 (i := 3) (by decide) (by decide) k
              have e21_4 : ∀ k, tg t21 (sr sh r0 4) k = tg t1 (sr sh r0 4) k := fun k => f21.eq q0 (i := 4) (by decide) (by decide) k
              have e21_10 : ∀ k, tg t21 (sr sh r0 10) k = tg t1 (sr sh r0 10) k := fun k => f21.eq q0 (i := 10) (by decide) (by decide) k
              have e21_11 : ∀ k, tg t21 (sr sh r0 11) k = tg t1 (sr sh r0 11) k := fun k => f21.eq q0 (i := 11) (by decide) (by decide) k
              first | refine zok_eq (by omega) (fun c22 => ?_) (fun c22 => ?_) | refine zok_if (fun c22 => ?_) (fun c22 => ?_)
              · try simp only [zput_s, zput_n, ti_g, oI_add, oI_sub, oI_mul]
                exact ih _ _ _ _ _ _ (by first | rfl | assumption) (by first | rfl | assumption) (by first | rfl | assumption) _ ((FrV.trans (Ns := [9, 10]) (f0) f21 (by decide) (by decide))) (by first | omega | ((try simp only [zt0, zt1, zt2, zt3, zt4, zt5, zt6, zt7, zt8, zt9, zt10, zt11, zt12, zt13, e0_2, e0_3, e0_4, e0_11, e21_2, e21_3, e21_4, e21_10, e21_11]); omega)) (fun k hk => by ((try have c0 := hq1 k hk); (try have c0 := hq1 k); (have c5 := e21_10 k); (try simp only [zt0, zt1, zt2, zt3, zt4, zt5, zt6, zt7, zt8, zt9, zt10, zt11, zt12, zt13] at *) <;> omega)) (by first | omega | ((try simp only [zt0, zt1, zt2, zt3, zt4, zt5, zt6, zt7, zt8, zt9, zt10, zt11, zt12, zt13, e0_2, e0_3, e0_4, e0_11, e21_2, e21_3, e21_4, e21_10, e21_11]); omega))
              · try simp only [zput_s, zput_n, ti_g, oI_add, oI_sub, oI_mul]
                exact ih _ _ _ _ _ _ (by first | rfl | assumption) (by first | rfl | assumption) (by first | rfl | assumption) _ ((FrV.trans (Ns := [9, 10]) (f0) f21 (by decide) (by decide))) (by first | omega | ((try simp only [zt0, zt1, zt2, zt3, zt4, zt5, zt6, zt7, zt8, zt9, zt10, zt11, zt12, zt13, e0_2, e0_3, e0_4, e0_11, e21_2, e21_3, e21_4, e21_10, e21_11]); omega)) (fun k hk => by ((try have c0 := hq1 k hk); (try have c0 := hq1 k); (have c5 := e21_10 k); (try simp only [zt0, zt1, zt2, zt3, zt4, zt5, zt6, zt7, zt8, zt9, zt10, zt11, zt12, zt13] at *) <;> omega)) (by first | omega | ((try simp only [zt0, zt1, zt2, zt3, zt4, zt5, zt6, zt7, zt8, zt9, zt10, zt11, zt12, zt13, e0_2, e0_3, e0_4, e0_11, e21_2, e21_3, e21_4, e21_10, e21_11]); omega))
      · refine zok_ck ((q0).1) ?_
        refine zok_pI (s160 (q0) (by omega) (by omega) (by first | (omega) | ((try simp only [zt0, zt1, zt2, zt3, zt4, zt5, zt6, zt7, zt8, zt9, zt10, zt11, zt12, zt13, e0_2, e0_3, e0_4, e0_11]); omega)) (f0.g)) (fun y23 u23 p23 => ?_)
        try simp only [zt0, zt1, zt2, zt3, zt4, zt5, zt6, zt7, zt8, zt9, zt10, zt11, zt12, zt13, e0_2, e0_3, e0_4, e0_11] at p23
        try simp only [zput_s, zput_n, ti_g, oI_add, oI_sub, oI_mul]
        rw [b179_50 (o6 := o6) (wo6 := wo6) (o7 := o7) (wo7 := wo7)]
        try simp only [zput_s, zput_n, ti_g, oI_add, oI_sub, oI_mul]
        refine zok_pI (s125 (by omega)) (fun y25 u25 p25 => ?_)
        try simp only [zt0, zt1, zt2, zt3, zt4, zt5, zt6, zt7, zt8, zt9, zt10, zt11, zt12, zt13, e0_2, e0_3, e0_4, e0_11] at p25
        try simp only [zput_s, zput_n, ti_g, oI_add, oI_sub, oI_mul]
        rw [b179_53 (o6 := o6) (wo6 := wo6) (o7 := o7) (wo7 := wo7)]
        try simp only [zput_s, zput_n, ti_g, oI_add, oI_sub, oI_mul]
        refine zok_ck ((q0).1) ?_
        refine zok_pI (s160 (q0) (by omega) (by omega) (by first | (omega) | ((try simp only [zt0, zt1, zt2, zt3, zt4, zt5, zt6, zt7, zt8, zt9, zt10, zt11, zt12, zt13, e0_2, e0_3, e0_4, e0_11]); omega)) (f0.g)) (fun y27 u27 p27 => ?_)
        try simp only [zt0, zt1, zt2, zt3, zt4, zt5, zt6, zt7, zt8, zt9, zt10, zt11, zt12, zt13, e0_2, e0_3, e0_4, e0_11] at p27
        try simp only [zput_s, zput_n, ti_g, oI_add, oI_sub, oI_mul]
        rw [b179_62 (o6 := o6) (wo6 := wo6) (o7 := o7) (wo7 := wo7)]
        try simp only [zput_s, zput_n, ti_g, oI_add, oI_sub, oI_mul]
        refine zok_pI (s125 (by omega)) (fun y29 u29 p29 => ?_)
        try simp only [zt0, zt1, zt2, zt3, zt4, zt5, zt6, zt7, zt8, zt9, zt10, zt11, zt12, zt13, e0_2, e0_3, e0_4, e0_11] at p29
        try simp only [zput_s, zput_n, ti_g, oI_add, oI_sub, oI_mul]
        rw [b179_65 (o6 := o6) (wo6 := wo6) (o7 := o7) (wo7 := wo7)]
        try simp only [zput_s, zput_n, ti_g, oI_add, oI_sub, oI_mul]
        first | refine zok_lt (by omega) (fun c31 => ?_) (fun c31 => ?_) | refine zok_if (fun c31 => ?_) (fun c31 => ?_)
        · refine zok_ck ((q0).1) ?_
          simp only [zput_s, zput_n, ti_g, oI_add, oI_sub, oI_mul, zt0, zt1, zt2, zt3, zt4, zt5, zt6, zt7, zt8, zt9, zt10, zt11, zt12, zt13, e0_2, e0_3, e0_4, e0_11, b179_116]
          try simp only [zput_s, zput_n, ti_g, oI_add, oI_sub, oI_mul]
          refine zok_ck ⟨(by rw [(q0).2.2.2.2.2.2.2.2.2.1]), zin_o (by omega) (by omega) (by omega)⟩ ?_
          try rw [nN_o (a := ((1500) * (x1)) + (x4)) (by omega) (by omega)]
          try simp only [zput_s, zput_n, ti_g, oI_add, oI_sub, oI_mul, zt0, zt1, zt2, zt3, zt4, zt5, zt6, zt7, zt8, zt9, zt10, zt11, zt12, zt13, e0_2, e0_3, e0_4, e0_11]
          obtain ⟨t33, ht33⟩ : ∃ t', t' = tI t1 (sr sh r0 9) ((((1500) * (x1)) + (x4)).toNat) (oI (tg t1 (sr sh r0 9) ((((1500) * (x1)) + (x3)).toNat))) := ⟨_, rfl⟩
          try simp only [zt0, zt1, zt2, zt3, zt4, zt5, zt6, zt7, zt8, zt9, zt10, zt11, zt12, zt13, e0_2, e0_3, e0_4, e0_11] at ht33
          rw [← ht33]
          have f33 : FrV sh r0 [9] t1 t33 := by rw [ht33]; exact GI_free q0 (f0.g) (by decide)
          have w33 : ∀ k, tg t33 (sr sh r0 9) k = if k = (((1500) * (x1)) + (x4)).toNat then tg t1 (sr sh r0 9) ((((1500) * (x1)) + (x3)).toNat) else tg t1 (sr sh r0 9) k := fun k => by rw [ht33]; refine (tg_at (by omega)).trans ?_; first | rfl | simp only [zt0, zt1, zt2, zt3, zt4, zt5, zt6, zt7, zt8, zt9, zt10, zt11, zt12, zt13, e0_2, e0_3, e0_4, e0_11, true_and]
          have ws33 : tg t33 (sr sh r0 9) ((((1500) * (x1)) + (x4)).toNat) = tg t1 (sr sh r0 9) ((((1500) * (x1)) + (x3)).toNat) := by rw [w33, if_pos rfl]
          try simp only [zt0, zt1, zt2, zt3, zt4, zt5, zt6, zt7, zt8, zt9, zt10, zt11, zt12, zt13, e0_2, e0_3, e0_4, e0_11] at w33
          try simp only [zt0, zt1, zt2, zt3, zt4, zt5, zt6, zt7, zt8, zt9, zt10, zt11, zt12, zt13, e0_2, e0_3, e0_4, e0_11] at ws33
          have e33_2 : ∀ k, tg t33 (sr sh r0 2) k = tg t1 (sr sh r0 2) k := fun k => f33.eq q0 (i := 2) (by decide) (by decide) k
          have e33_3 : ∀ k, tg t33 (sr sh r0 3) k = tg t1 (sr sh r0 3) k := fun k => f33.eq q0 (i := 3) (by decide) (by decide) k
          have e33_4 : ∀ k, tg t33 (sr sh r0 4) k = tg t1 (sr sh r0 4) k := fun k => f33.eq q0 (i := 4) (by decide) (by decide) k
          have e33_10 : ∀ k, tg t33 (sr sh r0 10) k = tg t1 (sr sh r0 10) k := fun k => f33.eq q0 (i := 10) (by decide) (by decide) k
          have e33_11 : ∀ k, tg t33 (sr sh r0 11) k = tg t1 (sr sh r0 11) k := fun k => f33.eq q0 (i := 11) (by decide) (by decide) k
          try simp only [zput_s, zput_n, ti_g, oI_add, oI_sub, oI_mul]
          exact ih _ _ _ _ _ _ (by first | rfl | assumption) (by first | rfl | assumption) (by first | rfl | assumption) _ ((FrV.trans (Ns := [9, 10]) (f0) f33 (by decide) (by decide))) (by first | omega | ((try simp only [zt0, zt1, zt2, zt3, zt4, zt5, zt6, zt7, zt8, zt9, zt10, zt11, zt12, zt13, e0_2, e0_3, e0_4, e0_11, e33_2, e33_3, e33_4, e33_10, e33_11]); omega)) (fun k hk => by ((try have c0 := hq1 k hk); (try have c0 := hq1 k); (have c5 := e33_10 k); (try simp only [zt0, zt1, zt2, zt3, zt4, zt5, zt6, zt7, zt8, zt9, zt10, zt11, zt12, zt13] at *) <;> omega)) (by first | omega | ((try simp only [zt0, zt1, zt2, zt3, zt4, zt5, zt6, zt7, zt8, zt9, zt10, zt11, zt12, zt13, e0_2, e0_3, e0_4, e0_11, e33_2, e33_3, e33_4, e33_10, e33_11]); omega))
        · refine zok_pI (s123 (by omega)) (fun y34 u34 p34 => ?_)
          try simp only [zt0, zt1, zt2, zt3, zt4, zt5, zt6, zt7, zt8, zt9, zt10, zt11, zt12, zt13, e0_2, e0_3, e0_4, e0_11] at p34
          try simp only [zput_s, zput_n, ti_g, oI_add, oI_sub, oI_mul]
          rw [b179_82 (o7 := o7) (wo7 := wo7)]
          try simp only [zput_s, zput_n, ti_g, oI_add, oI_sub, oI_mul]
          first | refine zok_eq (by omega) (fun c36 => ?_) (fun c36 => ?_) | refine zok_if (fun c36 => ?_) (fun c36 => ?_)
          · refine zok_ck ((q0).1) ?_
            simp only [zput_s, zput_n, ti_g, oI_add, oI_sub, oI_mul, zt0, zt1, zt2, zt3, zt4, zt5, zt6, zt7, zt8, zt9, zt10, zt11, zt12, zt13, e0_2, e0_3, e0_4, e0_11, b179_116]
            try simp only [zput_s, zput_n, ti_g, oI_add, oI_sub, oI_mul]
            refine zok_ck ⟨(by rw [(q0).2.2.2.2.2.2.2.2.2.1]), zin_o (by omega) (by omega) (by omega)⟩ ?_
            try rw [nN_o (a := ((1500) * (x1)) + (x4)) (by omega) (by omega)]
            try simp only [zput_s, zput_n, ti_g, oI_add, oI_sub, oI_mul, zt0, zt1, zt2, zt3, zt4, zt5, zt6, zt7, zt8, zt9, zt10, zt11, zt12, zt13, e0_2, e0_3, e0_4, e0_11]
            obtain ⟨t38, ht38⟩ : ∃ t', t' = tI t1 (sr sh r0 9) ((((1500) * (x1)) + (x4)).toNat) (oI (tg t1 (sr sh r0 9) ((((1500) * (x1)) + (x3)).toNat))) := ⟨_, rfl⟩
            try simp only [zt0, zt1, zt2, zt3, zt4, zt5, zt6, zt7, zt8, zt9, zt10, zt11, zt12, zt13, e0_2, e0_3, e0_4, e0_11] at ht38
            rw [← ht38]
            have f38 : FrV sh r0 [9] t1 t38 := by rw [ht38]; exact GI_free q0 (f0.g) (by decide)
            have w38 : ∀ k, tg t38 (sr sh r0 9) k = if k = (((1500) * (x1)) + (x4)).toNat then tg t1 (sr sh r0 9) ((((1500) * (x1)) + (x3)).toNat) else tg t1 (sr sh r0 9) k := fun k => by rw [ht38]; refine (tg_at (by omega)).trans ?_; first | rfl | simp only [zt0, zt1, zt2, zt3, zt4, zt5, zt6, zt7, zt8, zt9, zt10, zt11, zt12, zt13, e0_2, e0_3, e0_4, e0_11, true_and]
            have ws38 : tg t38 (sr sh r0 9) ((((1500) * (x1)) + (x4)).toNat) = tg t1 (sr sh r0 9) ((((1500) * (x1)) + (x3)).toNat) := by rw [w38, if_pos rfl]
            try simp only [zt0, zt1, zt2, zt3, zt4, zt5, zt6, zt7, zt8, zt9, zt10, zt11, zt12, zt13, e0_2, e0_3, e0_4, e0_11] at w38
            try simp only [zt0, zt1, zt2, zt3, zt4, zt5, zt6, zt7, zt8, zt9, zt10, zt11, zt12, zt13, e0_2, e0_3, e0_4, e0_11] at ws38
            have e38_2 : ∀ k, tg t38 (sr sh r0 2) k = tg t1 (sr sh r0 2) k := fun k => f38.eq q0 (i := 2) (by decide) (by decide) k
            have e38_3 : ∀ k, tg t38 (sr sh r0 3) k = tg t1 (sr sh r0 3) k := fun k => f38.eq q0 (i := 3) (by decide) (by decide) k
            have e38_4 : ∀ k, tg t38 (sr sh r0 4) k = tg t1 (sr sh r0 4) k := fun k => f38.eq q0 (i := 4) (by decide) (by decide) k
            have e38_10 : ∀ k, tg t38 (sr sh r0 10) k = tg t1 (sr sh r0 10) k := fun k => f38.eq q0 (i := 10) (by decide) (by decide) k
            have e38_11 : ∀ k, tg t38 (sr sh r0 11) k = tg t1 (sr sh r0 11) k := fun k => f38.eq q0 (i := 11) (by decide) (by decide) k
            try simp only [zput_s, zput_n, ti_g, oI_add, oI_sub, oI_mul]
            exact ih _ _ _ _ _ _ (by first | rfl | assumption) (by first | rfl | assumption) (by first | rfl | assumption) _ ((FrV.trans (Ns := [9, 10]) (f0) f38 (by decide) (by decide))) (by first | omega | ((try simp only [zt0, zt1, zt2, zt3, zt4, zt5, zt6, zt7, zt8, zt9, zt10, zt11, zt12, zt13, e0_2, e0_3, e0_4, e0_11, e38_2, e38_3, e38_4, e38_10, e38_11]); omega)) (fun k hk => by ((try have c0 := hq1 k hk); (try have c0 := hq1 k); (have c5 := e38_10 k); (try simp only [zt0, zt1, zt2, zt3, zt4, zt5, zt6, zt7, zt8, zt9, zt10, zt11, zt12, zt13] at *) <;> omega)) (by first | omega | ((try simp only [zt0, zt1, zt2, zt3, zt4, zt5, zt6, zt7, zt8, zt9, zt10, zt11, zt12, zt13, e0_2, e0_3, e0_4, e0_11, e38_2, e38_3, e38_4, e38_10, e38_11]); omega))
          · refine zok_ck ((q0).1) ?_
            first | refine zok_eq (by omega) (fun c39 => ?_) (fun c39 => ?_) | refine zok_if (fun c39 => ?_) (fun c39 => ?_)
            · simp only [zput_s, zput_n, ti_g, oI_add, oI_sub, oI_mul, zt0, zt1, zt2, zt3, zt4, zt5, zt6, zt7, zt8, zt9, zt10, zt11, zt12, zt13, e0_2, e0_3, e0_4, e0_11, b179_116]
              try simp only [zput_s, zput_n, ti_g, oI_add, oI_sub, oI_mul]
              refine zok_ck ⟨(by rw [(q0).2.2.2.2.2.2.2.2.2.1]), zin_o (by omega) (by omega) (by omega)⟩ ?_
              try rw [nN_o (a := ((1500) * (x1)) + (x4)) (by omega) (by omega)]
              try simp only [zput_s, zput_n, ti_g, oI_add, oI_sub, oI_mul, zt0, zt1, zt2, zt3, zt4, zt5, zt6, zt7, zt8, zt9, zt10, zt11, zt12, zt13, e0_2, e0_3, e0_4, e0_11]
              obtain ⟨t41, ht41⟩ : ∃ t', t' = tI t1 (sr sh r0 9) ((((1500) * (x1)) + (x4)).toNat) (oI (tg t1 (sr sh r0 9) ((((1500) * (x1)) + (x3)).toNat))) := ⟨_, rfl⟩
              try simp only [zt0, zt1, zt2, zt3, zt4, zt5, zt6, zt7, zt8, zt9, zt10, zt11, zt12, zt13, e0_2, e0_3, e0_4, e0_11] at ht41
              rw [← ht41]
              have f41 : FrV sh r0 [9] t1 t41 := by rw [ht41]; exact GI_free q0 (f0.g) (by decide)
              have w41 : ∀ k, tg t41 (sr sh r0 9) k = if k = (((1500) * (x1)) + (x4)).toNat then tg t1 (sr sh r0 9) ((((1500) * (x1)) + (x3)).toNat) else tg t1 (sr sh r0 9) k := fun k => by rw [ht41]; refine (tg_at (by omega)).trans ?_; first | rfl | simp only [zt0, zt1, zt2, zt3, zt4, zt5, zt6, zt7, zt8, zt9, zt10, zt11, zt12, zt13, e0_2, e0_3, e0_4, e0_11, true_and]
              have ws41 : tg t41 (sr sh r0 9) ((((1500) * (x1)) + (x4)).toNat) = tg t1 (sr sh r0 9) ((((1500) * (x1)) + (x3)).toNat) := by rw [w41, if_pos rfl]
              try simp only [zt0, zt1, zt2, zt3, zt4, zt5, zt6, zt7, zt8, zt9, zt10, zt11, zt12, zt13, e0_2, e0_3, e0_4, e0_11] at w41
              try simp only [zt0, zt1, zt2, zt3, zt4, zt5, zt6, zt7, zt8, zt9, zt10, zt11, zt12, zt13, e0_2, e0_3, e0_4, e0_11] at ws41
              have e41_2 : ∀ k, tg t41 (sr sh r0 2) k = tg t1 (sr sh r0 2) k := fun k => f41.eq q0 (i := 2) (by decide) (by decide) k
              have e41_3 : ∀ k, tg t41 (sr sh r0 3) k = tg t1 (sr sh r0 3) k := fun k => f41.eq q0 (i := 3) (by decide) (by decide) k
              have e41_4 : ∀ k, tg t41 (sr sh r0 4) k = tg t1 (sr sh r0 4) k := fun k => f41.eq q0 (i := 4) (by decide) (by decide) k
              have e41_10 : ∀ k, tg t41 (sr sh r0 10) k = tg t1 (sr sh r0 10) k := fun k => f41.eq q0 (i := 10) (by decide) (by decide) k
              have e41_11 : ∀ k, tg t41 (sr sh r0 11) k = tg t1 (sr sh r0 11) k := fun k => f41.eq q0 (i := 11) (by decide) (by decide) k
              first | refine zok_eq (by omega) (fun c42 => ?_) (fun c42 => ?_) | refine zok_if (fun c42 => ?_) (fun c42 => ?_)
              · try simp only [zput_s, zput_n, ti_g, oI_add, oI_sub, oI_mul]
                exact ih _ _ _ _ _ _ (by first | rfl | assumption) (by first | rfl | assumption) (by first | rfl | assumption) _ ((FrV.trans (Ns := [9, 10]) (f0) f41 (by decide) (by decide))) (by first | omega | ((try simp only [zt0, zt1, zt2, zt3, zt4, zt5, zt6, zt7, zt8, zt9, zt10, zt11, zt12, zt13, e0_2, e0_3, e0_4, e0_11, e41_2, e41_3, e41_4, e41_10, e41_11]); omega)) (fun k hk => by ((try have c0 := hq1 k hk); (try have c0 := hq1 k); (have c5 := e41_10 k); (try simp only [zt0, zt1, zt2, zt3, zt4, zt5, zt6, zt7, zt8, zt9, zt10, zt11, zt12, zt13] at *) <;> omega)) (by first | omega | ((try simp only [zt0, zt1, zt2, zt3, zt4, zt5, zt6, zt7, zt8, zt9, zt10, zt11, zt12, zt13, e0_2, e0_3, e0_4, e0_11, e41_2, e41_3, e41_4, e41_10, e41_11]); omega))
              · try simp only [zput_s, zput_n, ti_g, oI_add, oI_sub, oI_mul]
                exact ih _ _ _ _ _ _ (by first | rfl | assumption) (by first | rfl | assumption) (by first | rfl | assumption) _ ((FrV.trans (Ns := [9, 10]) (f0) f41 (by decide) (by decide))) (by first | omega | ((try simp only [zt0, zt1, zt2, zt3, zt4, zt5, zt6, zt7, zt8, zt9, zt10, zt11, zt12, zt13, e0_2, e0_3, e0_4, e0_11, e41_2, e41_3, e41_4, e41_10, e41_11]); omega)) (fun k hk => by ((try have c0 := hq1 k hk); (try have c0 := hq1 k); (have c5 := e41_10 k); (try simp only [zt0, zt1, zt2, zt3, zt4, zt5, zt6, zt7, zt8, zt9, zt10, zt11, zt12, zt13] at *) <;> omega)) (by first | omega | ((try simp only [zt0, zt1, zt2, zt3, zt4, zt5, zt6, zt7, zt8, zt9, zt10, zt11, zt12, zt13, e0_2, e0_3, e0_4, e0_11, e41_2, e41_3, e41_4, e41_10, e41_11]); omega))
            · simp only [zput_s, zput_n, ti_g, oI_add, oI_sub, oI_mul, zt0, zt1, zt2, zt3, zt4, zt5, zt6, zt7, zt8, zt9, zt10, zt11, zt12, zt13, e0_2, e0_3, e0_4, e0_11, b179_116]
              try simp only [zput_s, zput_n, ti_g, oI_add, oI_sub, oI_mul]
              refine zok_ck ⟨(by rw [(q0).2.2.2.2.2.2.2.2.2.1]), zin_o (by omega) (by omega) (by omega)⟩ ?_
              try rw [nN_o (a := ((1500) * (x1)) + (x4)) (by omega) (by omega)]
              try simp only [zput_s, zput_n, ti_g, oI_add, oI_sub, oI_mul, zt0, zt1, zt2, zt3, zt4, zt5, zt6, zt7, zt8, zt9, zt10, zt11, zt12, zt13, e0_2, e0_3, e0_4, e0_11]
              obtain ⟨t44, ht44⟩ : ∃ t', t' = tI t1 (sr sh r0 9) ((((1500) * (x1)) + (x4)).toNat) (oI (((16) * (y25)) + (y29))) := ⟨_, rfl⟩
              try simp only [zt0, zt1, zt2, zt3, zt4, zt5, zt6, zt7, zt8, zt9, zt10, zt11, zt12, zt13, e0_2, e0_3, e0_4, e0_11] at ht44
              rw [← ht44]
              have f44 : FrV sh r0 [9] t1 t44 := by rw [ht44]; exact GI_free q0 (f0.g) (by decide)
              have w44 : ∀ k, tg t44 (sr sh r0 9) k = if k = (((1500) * (x1)) + (x4)).toNat then ((16) * (y25)) + (y29) else tg t1 (sr sh r0 9) k := fun k => by rw [ht44]; refine (tg_at (by omega)).trans ?_; first | rfl | simp only [zt0, zt1, zt2, zt3, zt4, zt5, zt6, zt7, zt8, zt9, zt10, zt11, zt12, zt13, e0_2, e0_3, e0_4, e0_11, true_and]
              have ws44 : tg t44 (sr sh r0 9) ((((1500) * (x1)) + (x4)).toNat) = ((16) * (y25)) + (y29) := by rw [w44, if_pos rfl]
              try simp only [zt0, zt1, zt2, zt3, zt4, zt5, zt6, zt7, zt8, zt9, zt10, zt11, zt12, zt13, e0_2, e0_3, e0_4, e0_11] at w44
              try simp only [zt0, zt1, zt2, zt3, zt4, zt5, zt6, zt7, zt8, zt9, zt10, zt11, zt12, zt13, e0_2, e0_3, e0_4, e0_11] at ws44
              have e44_2 : ∀ k, tg t44 (sr sh r0 2) k = tg t1 (sr sh r0 2) k := fun k => f44.eq q0 (i := 2) (by decide) (by decide) k
              have e44_3 : ∀ k, tg t44 (sr sh r0 3) k = tg t1 (sr sh r0 3) k := fun k => f44.eq q0 (i := 3) (by decide) (by decide) k
              have e44_4 : ∀ k, tg t44 (sr sh r0 4) k = tg t1 (sr sh r0 4) k := fun k => f44.eq q0 (i := 4) (by decide) (by decide) k
              have e44_10 : ∀ k, tg t44 (sr sh r0 10) k = tg t1 (sr sh r0 10) k := fun k => f44.eq q0 (i := 10) (by decide) (by decide) k
              have e44_11 : ∀ k, tg t44 (sr sh r0 11) k = tg t1 (sr sh r0 11) k := fun k => f44.eq q0 (i := 11) (by decide) (by decide) k
              first | refine zok_eq (by omega) (fun c45 => ?_) (fun c45 => ?_) | refine zok_if (fun c45 => ?_) (fun c45 => ?_)
              · try simp only [zput_s, zput_n, ti_g, oI_add, oI_sub, oI_mul]
                exact ih _ _ _ _ _ _ (by first | rfl | assumption) (by first | rfl | assumption) (by first | rfl | assumption) _ ((FrV.trans (Ns := [9, 10]) (f0) f44 (by decide) (by decide))) (by first | omega | ((try simp only [zt0, zt1, zt2, zt3, zt4, zt5, zt6, zt7, zt8, zt9, zt10, zt11, zt12, zt13, e0_2, e0_3, e0_4, e0_11, e44_2, e44_3, e44_4, e44_10, e44_11]); omega)) (fun k hk => by ((try have c0 := hq1 k hk); (try have c0 := hq1 k); (have c5 := e44_10 k); (try simp only [zt0, zt1, zt2, zt3, zt4, zt5, zt6, zt7, zt8, zt9, zt10, zt11, zt12, zt13] at *) <;> omega)) (by first | omega | ((try simp only [zt0, zt1, zt2, zt3, zt4, zt5, zt6, zt7, zt8, zt9, zt10, zt11, zt12, zt13, e0_2, e0_3, e0_4, e0_11, e44_2, e44_3, e44_4, e44_10, e44_11]); omega))
              · try simp only [zput_s, zput_n, ti_g, oI_add, oI_sub, oI_mul]
                exact ih _ _ _ _ _ _ (by first | rfl | assumption) (by first | rfl | assumption) (by first | rfl | assumption) _ ((FrV.trans (Ns := [9, 10]) (f0) f44 (by decide) (by decide))) (by first | omega | ((try simp only [zt0, zt1, zt2, zt3, zt4, zt5, zt6, zt7, zt8, zt9, zt10, zt11, zt12, zt13, e0_2, e0_3, e0_4, e0_11, e44_2, e44_3, e44_4, e44_10, e44_11]); omega)) (fun k hk => by ((try have c0 := hq1 k hk); (try have c0 := hq1 k); (have c5 := e44_10 k); (try simp only [zt0, zt1, zt2, zt3, zt4, zt5, zt6, zt7, zt8, zt9, zt10, zt11, zt12, zt13] at *) <;> omega)) (by first | omega | ((try simp only [zt0, zt1, zt2, zt3, zt4, zt5, zt6, zt7, zt8, zt9, zt10, zt11, zt12, zt13, e0_2, e0_3, e0_4, e0_11, e44_2, e44_3, e44_4, e44_10, e44_11]); omega))
theorem s179 {sh : zSh} {t : zSt} {MB : Nat} {r0 : Nat} (q0 : zMd sh MB r0) {x1 : Int} (u1 : -2147483648 ≤ x1 ∧ x1 ≤ 2147483647) (d1 : 0 ≤ x1 ∧ x1 ≤ 6) (d2 : tg t (sr sh r0 10) (x1).toNat ≤ 1400) (G : GI sh r0 t) : zok (zcl zP 179 [zR r0, zI (oI x1)] (sh, t)) (zq0 (fun t' => FrV sh r0 [9, 10] t t' ∧ (tg t' (sr sh r0 10) (x1).toNat ≤ tg t (sr sh r0 10) (x1).toNat ∧ ∀ k, k ≠ (x1).toNat → tg t' (sr sh r0 10) k = tg t (sr sh r0 10) k)) sh) := by
  have ha0_1 : (sk sh (sr sh r0 1)).2 = 21000 := by rw [q0.2.2.2.2.1]
  have ha0_2 : (sk sh (sr sh r0 2)).2 = 14 := by rw [q0.2.2.2.2.2.1]
  have ha0_3 : (sk sh (sr sh r0 3)).2 = 98 := by rw [q0.2.2.2.2.2.2.1]
  have ha0_4 : (sk sh (sr sh r0 4)).2 = 98 := by rw [q0.2.2.2.2.2.2.2.1]
  have ha0_8 : (sk sh (sr sh r0 8)).2 = 1500 := by rw [q0.2.2.2.2.2.2.2.2.1]
  have ha0_9 : (sk sh (sr sh r0 9)).2 = 10500 := by rw [q0.2.2.2.2.2.2.2.2.2.1]
  have ha0_10 : (sk sh (sr sh r0 10)).2 = 7 := by rw [q0.2.2.2.2.2.2.2.2.2.2.1]
  have ha0_11 : (sk sh (sr sh r0 11)).2 = 7 := by rw [q0.2.2.2.2.2.2.2.2.2.2.2.1]
  have ha0_12 : (sk sh (sr sh r0 12)).2 = 1500 := by rw [q0.2.2.2.2.2.2.2.2.2.2.2.2.1]
  have ha0_13 : (sk sh (sr sh r0 13)).2 = 1500 := by rw [q0.2.2.2.2.2.2.2.2.2.2.2.2.2.1]
  have ha0_14 : (sk sh (sr sh r0 14)).2 = 20 := by rw [q0.2.2.2.2.2.2.2.2.2.2.2.2.2.2]
  rw [b179_0]
  try simp only [zput_s, zput_n, ti_g, oI_add, oI_sub, oI_mul]
  refine zok_ck ((q0).1) ?_
  refine zok_ck ⟨(by rw [(q0).2.2.2.2.2.2.2.2.2.2.1]), zin_o (by omega) (by omega) (by omega)⟩ ?_
  try rw [nN_o (a := x1) (by omega) (by omega)]
  try simp only [zput_s, zput_n, ti_g, oI_add, oI_sub, oI_mul, zt0, zt1, zt2, zt3, zt4, zt5, zt6, zt7, zt8, zt9, zt10, zt11, zt12, zt13]
  have gl47 := And.intro (tg_lo t (sr sh r0 10) ((x1).toNat)) (tg_hi t (sr sh r0 10) ((x1).toNat))
  have gm47 := (G).2.2.1 ((x1).toNat) (by omega)
  try simp only [zt0, zt1, zt2, zt3, zt4, zt5, zt6, zt7, zt8, zt9, zt10, zt11, zt12, zt13] at gl47
  try simp only [zt0, zt1, zt2, zt3, zt4, zt5, zt6, zt7, zt8, zt9, zt10, zt11, zt12, zt13] at gm47
  try simp only [zput_s, zput_n, ti_g, oI_add, oI_sub, oI_mul]
  exact l179_12 q0 (by omega) d1 d2 G _ _ _ _ _ _ _ (by first | rfl | assumption) (by first | rfl | assumption) (by first | rfl | assumption) _ (FrV.refl G) (by first | omega | ((try simp only [zt0, zt1, zt2, zt3, zt4, zt5, zt6, zt7, zt8, zt9, zt10, zt11, zt12, zt13]); omega)) (fun k hk => by ((try have c0 := hq1 k hk); (try have c0 := hq1 k); (try simp only [zt0, zt1, zt2, zt3, zt4, zt5, zt6, zt7, zt8, zt9, zt10, zt11, zt12, zt13] at *) <;> omega)) (Nat.lt_succ_self _)
/-! X9_dropOwnPort -/
theorem l182_9 {sh : zSh} {t0 : zSt} {MB : Nat} {r0 : Nat} (q0 : zMd sh MB r0) (d1 : tg t0 (sr sh r0 10) 4 ≤ 2000) (G : GI sh r0 t0) : ∀ (n : Nat) (x1 : Int) (v2 : Int32) (x3 : Int)  (t1 : zSt), FrV sh r0 [9, 10, 11] t0 t1 → (-2147483648 ≤ x1 ∧ x1 ≤ 2147483647) ∧ (-2147483648 ≤ x3 ∧ x3 ≤ 2147483647) ∧ (0 ≤ x3) ∧ (tg t1 (sr sh r0 10) 3 = tg t0 (sr sh r0 10) 3 ∧ tg t1 (sr sh r0 10) 4 = tg t0 (sr sh r0 10) 4) → (∀ k, tg t1 (sr sh r0 10) k = tg t0 (sr sh r0 10) k) → (tg t1 (sr sh r0 10) 3 - x3).toNat < n → zok (zev zP 182 9 [some (zR r0), some (zI (oI x1)), some (zI v2), some (zI (oI x3))] [] (sh, t1)) (zq0 (fun t' => FrV sh r0 [9, 10, 11] t0 t' ∧ (tg t' (sr sh r0 10) 3 ≤ tg t0 (sr sh r0 10) 3 ∧ tg t' (sr sh r0 10) 4 ≤ tg t0 (sr sh r0 10) 4 + 1 ∧ ∀ k, k ≠ 3 → k ≠ 4 → tg t' (sr sh r0 10) k = tg t0 (sr sh r0 10) k)) sh) := by
  intro n
  induction n with
  | zero => intro x1 v2 x3  t1 f0 _ _ hm; omega
  | succ n ih =>
    intro x1 v2 x3  t1 f0 hv hq1 hm
    obtain ⟨x2, a2, b2, rfl⟩ := oI_nf v2
    have ha0_1 : (sk sh (sr sh r0 1)).2 = 21000 := by rw [q0.2.2.2.2.1]
    have ha0_2 : (sk sh (sr sh r0 2)).2 = 14 := by rw [q0.2.2.2.2.2.1]
    have ha0_3 : (sk sh (sr sh r0 3)).2 = 98 := by rw [q0.2.2.2.2.2.2.1]
    have ha0_4 : (sk sh (sr sh r0 4)).2 = 98 := by rw [q0.2.2.2.2.2.2.2.1]
    have ha0_8 : (sk sh (sr sh r0 8)).2 = 1500 := by rw [q0.2.2.2.2.2.2.2.2.1]
    have ha0_9 : (sk sh (sr sh r0 9)).2 = 10500 := by rw [q0.2.2.2.2.2.2.2.2.2.1]
    have ha0_10 : (sk sh (sr sh r0 10)).2 = 7 := by rw [q0.2.2.2.2.2.2.2.2.2.2.1]
    have ha0_11 : (sk sh (sr sh r0 11)).2 = 7 := by rw [q0.2.2.2.2.2.2.2.2.2.2.2.1]
    have ha0_12 : (sk sh (sr sh r0 12)).2 = 1500 := by rw [q0.2.2.2.2.2.2.2.2.2.2.2.2.1]
    have ha0_13 : (sk sh (sr sh r0 13)).2 = 1500 := by rw [q0.2.2.2.2.2.2.2.2.2.2.2.2.2.1]
    have ha0_14 : (sk sh (sr sh r0 14)).2 = 20 := by rw [q0.2.2.2.2.2.2.2.2.2.2.2.2.2.2]
    have e0_2 : ∀ k, tg t1 (sr sh r0 2) k = tg t0 (sr sh r0 2) k := fun k => f0.eq q0 (i := 2) (by decide) (by decide) k
    have e0_3 : ∀ k, tg t1 (sr sh r0 3) k = tg t0 (sr sh r0 3) k := fun k => f0.eq q0 (i := 3) (by decide) (by decide) k
    have e0_4 : ∀ k, tg t1 (sr sh r0 4) k = tg t0 (sr sh r0 4) k := fun k => f0.eq q0 (i := 4) (by decide) (by decide) k
    try simp only [zt0, zt1, zt2, zt3, zt4, zt5, zt6, zt7, zt8, zt9, zt10, zt11, zt12, zt13, e0_2, e0_3, e0_4] at hv
    try simp only [zt0, zt1, zt2, zt3, zt4, zt5, zt6, zt7, zt8, zt9, zt10, zt11, zt12, zt13, e0_2, e0_3, e0_4] at hm
    have g3 := ((f0.g).2.2.1 3 (by decide)).1
    try simp only [zt0, zt1, zt2, zt3, zt4, zt5, zt6, zt7, zt8, zt9, zt10, zt11, zt12, zt13, e0_2, e0_3, e0_4] at g3
    rw [b182_9]
    try simp only [zput_s, zput_n, ti_g, oI_add, oI_sub, oI_mul]
    refine zok_ck ((q0).1) ?_
    refine zok_ck ⟨(by rw [(q0).2.2.2.2.2.2.2.2.2.2.1]), zin_o (by omega) (by omega) (by omega)⟩ ?_
    try rw [nN_o (a := 3) (by omega) (by omega)]
    try rw [show (3 : Int).toNat = 3 from rfl]
    try simp only [zput_s, zput_n, ti_g, oI_add, oI_sub, oI_mul, zt0, zt1, zt2, zt3, zt4, zt5, zt6, zt7, zt8, zt9, zt10, zt11, zt12, zt13, e0_2, e0_3, e0_4]
    have gl2 := And.intro (tg_lo t1 (sr sh r0 10) (3)) (tg_hi t1 (sr sh r0 10) (3))
    have gm2 := (f0.g).2.2.1 (3) (by omega)
    try simp only [zt0, zt1, zt2, zt3, zt4, zt5, zt6, zt7, zt8, zt9, zt10, zt11, zt12, zt13, e0_2, e0_3, e0_4] at gl2
    try simp only [zt0, zt1, zt2, zt3, zt4, zt5, zt6, zt7, zt8, zt9, zt10, zt11, zt12, zt13, e0_2, e0_3, e0_4] at gm2
    first | refine zok_le (by omega) (fun c3 => ?_) (fun c3 => ?_) | refine zok_if (fun c3 => ?_) (fun c3 => ?_)
    · refine zok_ck ((q0).1) ?_
      refine zok_ck ⟨(by rw [(q0).2.2.2.2.2.2.2.2.2.2.1]), zin_o (by omega) (by omega) (by omega)⟩ ?_
      try rw [nN_o (a := 3) (by omega) (by omega)]
      try rw [show (3 : Int).toNat = 3 from rfl]
      try simp only [zput_s, zput_n, ti_g, oI_add, oI_sub, oI_mul, zt0, zt1, zt2, zt3, zt4, zt5, zt6, zt7, zt8, zt9, zt10, zt11, zt12, zt13, e0_2, e0_3, e0_4]
      have gl4 := And.intro (tg_lo t1 (sr sh r0 10) (3)) (tg_hi t1 (sr sh r0 10) (3))
      have gm4 := (f0.g).2.2.1 (3) (by omega)
      try simp only [zt0, zt1, zt2, zt3, zt4, zt5, zt6, zt7, zt8, zt9, zt10, zt11, zt12, zt13, e0_2, e0_3, e0_4] at gl4
      try simp only [zt0, zt1, zt2, zt3, zt4, zt5, zt6, zt7, zt8, zt9, zt10, zt11, zt12, zt13, e0_2, e0_3, e0_4] at gm4
      first | refine zok_eq (by omega) (fun c5 => ?_) (fun c5 => ?_) | refine zok_if (fun c5 => ?_) (fun c5 => ?_)
      · simp only [zput_s, zput_n, ti_g, oI_add, oI_sub, oI_mul, zt0, zt1, zt2, zt3, zt4, zt5, zt6, zt7, zt8, zt9, zt10, zt11, zt12, zt13, e0_2, e0_3, e0_4, b182_54]
        try simp only [zput_s, zput_n, ti_g, oI_add, oI_sub, oI_mul]
        refine zok_ck ((q0).1) ?_
        refine zok_ck ⟨Or.inr ⟨by rw [(q0).2.2.2.2.2.2.2.2.2.2.2.1], by first | exact bool_p (by omega) | exact Or.inl rfl | exact Or.inr rfl⟩, zin_o (by omega) (by omega) (by omega)⟩ ?_
        try rw [nN_o (a := 3) (by omega) (by omega)]
        try rw [show (3 : Int).toNat = 3 from rfl]
        try simp only [zput_s, zput_n, ti_g, oI_add, oI_sub, oI_mul, zt0, zt1, zt2, zt3, zt4, zt5, zt6, zt7, zt8, zt9, zt10, zt11, zt12, zt13, e0_2, e0_3, e0_4]
        try rw [i8_o (y := 0) (by omega)]
        obtain ⟨t7, ht7⟩ : ∃ t', t' = tI t1 (sr sh r0 11) (3) (oI (0)) := ⟨_, rfl⟩
        try simp only [zt0, zt1, zt2, zt3, zt4, zt5, zt6, zt7, zt8, zt9, zt10, zt11, zt12, zt13, e0_2, e0_3, e0_4] at ht7
        rw [← ht7]
        have f7 : FrV sh r0 [11] t1 t7 := by rw [ht7]; exact GI_lh q0 (f0.g) (by omega)
        have w7 : ∀ k, tg t7 (sr sh r0 11) k = if k = 3 then 0 else tg t1 (sr sh r0 11) k := fun k => by rw [ht7]; refine (tg_at (by omega)).trans ?_; first | rfl | simp only [zt0, zt1, zt2, zt3, zt4, zt5, zt6, zt7, zt8, zt9, zt10, zt11, zt12, zt13, e0_2, e0_3, e0_4, true_and]
        have ws7 : tg t7 (sr sh r0 11) (3) = 0 := by rw [w7, if_pos rfl]
        try simp only [zt0, zt1, zt2, zt3, zt4, zt5, zt6, zt7, zt8, zt9, zt10, zt11, zt12, zt13, e0_2, e0_3, e0_4] at w7
        try simp only [zt0, zt1, zt2, zt3, zt4, zt5, zt6, zt7, zt8, zt9, zt10, zt11, zt12, zt13, e0_2, e0_3, e0_4] at ws7
        have e7_2 : ∀ k, tg t7 (sr sh r0 2) k = tg t1 (sr sh r0 2) k := fun k => f7.eq q0 (i := 2) (by decide) (by decide) k
        have e7_3 : ∀ k, tg t7 (sr sh r0 3) k = tg t1 (sr sh r0 3) k := fun k => f7.eq q0 (i := 3) (by decide) (by decide) k
        have e7_4 : ∀ k, tg t7 (sr sh r0 4) k = tg t1 (sr sh r0 4) k := fun k => f7.eq q0 (i := 4) (by decide) (by decide) k
        have e7_10 : ∀ k, tg t7 (sr sh r0 10) k = tg t1 (sr sh r0 10) k := fun k => f7.eq q0 (i := 10) (by decide) (by decide) k
        refine zok_ck ((q0).1) ?_
        refine zok_ck ⟨(by rw [(q0).2.2.2.2.2.2.2.2.2.2.1]), zin_o (by omega) (by omega) (by omega)⟩ ?_
        try rw [nN_o (a := 3) (by omega) (by omega)]
        try rw [show (3 : Int).toNat = 3 from rfl]
        try simp only [zput_s, zput_n, ti_g, oI_add, oI_sub, oI_mul, zt0, zt1, zt2, zt3, zt4, zt5, zt6, zt7, zt8, zt9, zt10, zt11, zt12, zt13, e0_2, e0_3, e0_4, e7_2, e7_3, e7_4, e7_10]
        obtain ⟨t8, ht8⟩ : ∃ t', t' = tI t7 (sr sh r0 10) (3) (oI (0)) := ⟨_, rfl⟩
        try simp only [zt0, zt1, zt2, zt3, zt4, zt5, zt6, zt7, zt8, zt9, zt10, zt11, zt12, zt13, e0_2, e0_3, e0_4, e7_2, e7_3, e7_4, e7_10] at ht8
        rw [← ht8]
        have f8 : FrV sh r0 [10] t7 t8 := by rw [ht8]; exact GI_ls q0 (f7.g) (by omega) (by omega)
        have w8 : ∀ k, tg t8 (sr sh r0 10) k = if k = 3 then 0 else tg t7 (sr sh r0 10) k := fun k => by rw [ht8]; refine (tg_at (by omega)).trans ?_; first | rfl | simp only [zt0, zt1, zt2, zt3, zt4, zt5, zt6, zt7, zt8, zt9, zt10, zt11, zt12, zt13, e0_2, e0_3, e0_4, e7_2, e7_3, e7_4, e7_10, true_and]
        have ws8 : tg t8 (sr sh r0 10) (3) = 0 := by rw [w8, if_pos rfl]
        try simp only [zt0, zt1, zt2, zt3, zt4, zt5, zt6, zt7, zt8, zt9, zt10, zt11, zt12, zt13, e0_2, e0_3, e0_4, e7_2, e7_3, e7_4, e7_10] at w8
        try simp only [zt0, zt1, zt2, zt3, zt4, zt5, zt6, zt7, zt8, zt9, zt10, zt11, zt12, zt13, e0_2, e0_3, e0_4, e7_2, e7_3, e7_4, e7_10] at ws8
        have e8_2 : ∀ k, tg t8 (sr sh r0 2) k = tg t7 (sr sh r0 2) k := fun k => f8.eq q0 (i := 2) (by decide) (by decide) k
        have e8_3 : ∀ k, tg t8 (sr sh r0 3) k = tg t7 (sr sh r0 3) k := fun k => f8.eq q0 (i := 3) (by decide) (by decide) k
        have e8_4 : ∀ k, tg t8 (sr sh r0 4) k = tg t7 (sr sh r0 4) k := fun k => f8.eq q0 (i := 4) (by decide) (by decide) k
        have e8_11 : ∀ k, tg t8 (sr sh r0 11) k = tg t7 (sr sh r0 11) k := fun k => f8.eq q0 (i := 11) (by decide) (by decide) k
        simp only [zput_s, zput_n, ti_g, oI_add, oI_sub, oI_mul, zt0, zt1, zt2, zt3, zt4, zt5, zt6, zt7, zt8, zt9, zt10, zt11, zt12, zt13, e0_2, e0_3, e0_4, e7_2, e7_3, e7_4, e7_10, e8_2, e8_3, e8_4, e8_11, b182_68]
        try simp only [zput_s, zput_n, ti_g, oI_add, oI_sub, oI_mul]
        first | refine zok_lt (by omega) (fun c10 => ?_) (fun c10 => ?_) | refine zok_if (fun c10 => ?_) (fun c10 => ?_)
        · simp only [zput_s, zput_n, ti_g, oI_add, oI_sub, oI_mul, zt0, zt1, zt2, zt3, zt4, zt5, zt6, zt7, zt8, zt9, zt10, zt11, zt12, zt13, e0_2, e0_3, e0_4, e7_2, e7_3, e7_4, e7_10, e8_2, e8_3, e8_4, e8_11, b182_97]
          try simp only [zput_s, zput_n, ti_g, oI_add, oI_sub, oI_mul]
          exact q0_rt ⟨(FrV.trans (Ns := [9, 10, 11]) ((FrV.trans (Ns := [9, 10, 11]) (f0) f7 (by decide) (by decide))) f8 (by decide) (by decide)), ⟨by ((try have c0 := hq1 3 (by decide)); (try have c0 := hq1 3); (try have c5 := e7_10 3); (try have c6 := w8 3); (try simp only [zt0, zt1, zt2, zt3, zt4, zt5, zt6, zt7, zt8, zt9, zt10, zt11, zt12, zt13] at *) <;> omega), by ((try have c0 := hq1 4 (by decide)); (try have c0 := hq1 4); (try have c5 := e7_10 4); (try have c6 := w8 4); (try simp only [zt0, zt1, zt2, zt3, zt4, zt5, zt6, zt7, zt8, zt9, zt10, zt11, zt12, zt13] at *) <;> omega), fun k hk hk2 => by ((try have c0 := hq1 k hk); (try have c0 := hq1 k); (have c5 := e7_10 k); (have c6 := w8 k); (try simp only [zt0, zt1, zt2, zt3, zt4, zt5, zt6, zt7, zt8, zt9, zt10, zt11, zt12, zt13] at *) <;> omega)⟩⟩
        · refine zok_ck ((q0).1) ?_
          refine zok_ck ⟨Or.inr (by rw [(q0).2.2.2.2.2.2.2.2.2.2.2.1]), zin_o (by omega) (by omega) (by omega)⟩ ?_
          try rw [nN_o (a := 2) (by omega) (by omega)]
          try rw [show (2 : Int).toNat = 2 from rfl]
          try simp only [zput_s, zput_n, ti_g, oI_add, oI_sub, oI_mul, zt0, zt1, zt2, zt3, zt4, zt5, zt6, zt7, zt8, zt9, zt10, zt11, zt12, zt13, e0_2, e0_3, e0_4, e7_2, e7_3, e7_4, e7_10, e8_2, e8_3, e8_4, e8_11]
          have gl12 := And.intro (tg_lo t8 (sr sh r0 11) (2)) (tg_hi t8 (sr sh r0 11) (2))
          have gm12 := (f8.g).2.2.2.1 (2) (by omega)
          try simp only [zt0, zt1, zt2, zt3, zt4, zt5, zt6, zt7, zt8, zt9, zt10, zt11, zt12, zt13, e0_2, e0_3, e0_4, e7_2, e7_3, e7_4, e7_10, e8_2, e8_3, e8_4, e8_11] at gl12
          try simp only [zt0, zt1, zt2, zt3, zt4, zt5, zt6, zt7, zt8, zt9, zt10, zt11, zt12, zt13, e0_2, e0_3, e0_4, e7_2, e7_3, e7_4, e7_10, e8_2, e8_3, e8_4, e8_11] at gm12
          first | refine zok_eq (by omega) (fun c13 => ?_) (fun c13 => ?_) | refine zok_if (fun c13 => ?_) (fun c13 => ?_)
          · simp only [zput_s, zput_n, ti_g, oI_add, oI_sub, oI_mul, zt0, zt1, zt2, zt3, zt4, zt5, zt6, zt7, zt8, zt9, zt10, zt11, zt12, zt13, e0_2, e0_3, e0_4, e7_2, e7_3, e7_4, e7_10, e8_2, e8_3, e8_4, e8_11, b182_97]
            try simp only [zput_s, zput_n, ti_g, oI_add, oI_sub, oI_mul]
            exact q0_rt ⟨(FrV.trans (Ns := [9, 10, 11]) ((FrV.trans (Ns := [9, 10, 11]) (f0) f7 (by decide) (by decide))) f8 (by decide) (by decide)), ⟨by ((try have c0 := hq1 3 (by decide)); (try have c0 := hq1 3); (try have c5 := e7_10 3); (try have c6 := w8 3); (try simp only [zt0, zt1, zt2, zt3, zt4, zt5, zt6, zt7, zt8, zt9, zt10, zt11, zt12, zt13] at *) <;> omega), by ((try have c0 := hq1 4 (by decide)); (try have c0 := hq1 4); (try have c5 := e7_10 4); (try have c6 := w8 4); (try simp only [zt0, zt1, zt2, zt3, zt4, zt5, zt6, zt7, zt8, zt9, zt10, zt11, zt12, zt13] at *) <;> omega), fun k hk hk2 => by ((try have c0 := hq1 k hk); (try have c0 := hq1 k); (have c5 := e7_10 k); (have c6 := w8 k); (try simp only [zt0, zt1, zt2, zt3, zt4, zt5, zt6, zt7, zt8, zt9, zt10, zt11, zt12, zt13] at *) <;> omega)⟩⟩
          · refine zok_ck ((q0).1) ?_
            refine zok_ck ⟨(by rw [(q0).2.2.2.2.2.2.2.2.2.2.1]), zin_o (by omega) (by omega) (by omega)⟩ ?_
            try rw [nN_o (a := 4) (by omega) (by omega)]
            try rw [show (4 : Int).toNat = 4 from rfl]
            try simp only [zput_s, zput_n, ti_g, oI_add, oI_sub, oI_mul, zt0, zt1, zt2, zt3, zt4, zt5, zt6, zt7, zt8, zt9, zt10, zt11, zt12, zt13, e0_2, e0_3, e0_4, e7_2, e7_3, e7_4, e7_10, e8_2, e8_3, e8_4, e8_11]
            have gl15 := And.intro (tg_lo t8 (sr sh r0 10) (4)) (tg_hi t8 (sr sh r0 10) (4))
            have gm15 := (f8.g).2.2.1 (4) (by omega)
            try simp only [zt0, zt1, zt2, zt3, zt4, zt5, zt6, zt7, zt8, zt9, zt10, zt11, zt12, zt13, e0_2, e0_3, e0_4, e7_2, e7_3, e7_4, e7_10, e8_2, e8_3, e8_4, e8_11] at gl15
            try simp only [zt0, zt1, zt2, zt3, zt4, zt5, zt6, zt7, zt8, zt9, zt10, zt11, zt12, zt13, e0_2, e0_3, e0_4, e7_2, e7_3, e7_4, e7_10, e8_2, e8_3, e8_4, e8_11] at gm15
            first | refine zok_ne (by omega) (fun c16 => ?_) (fun c16 => ?_) | refine zok_if (fun c16 => ?_) (fun c16 => ?_)
            · simp only [zput_s, zput_n, ti_g, oI_add, oI_sub, oI_mul, zt0, zt1, zt2, zt3, zt4, zt5, zt6, zt7, zt8, zt9, zt10, zt11, zt12, zt13, e0_2, e0_3, e0_4, e7_2, e7_3, e7_4, e7_10, e8_2, e8_3, e8_4, e8_11, b182_97]
              try simp only [zput_s, zput_n, ti_g, oI_add, oI_sub, oI_mul]
              exact q0_rt ⟨(FrV.trans (Ns := [9, 10, 11]) ((FrV.trans (Ns := [9, 10, 11]) (f0) f7 (by decide) (by decide))) f8 (by decide) (by decide)), ⟨by ((try have c0 := hq1 3 (by decide)); (try have c0 := hq1 3); (try have c5 := e7_10 3); (try have c6 := w8 3); (try simp only [zt0, zt1, zt2, zt3, zt4, zt5, zt6, zt7, zt8, zt9, zt10, zt11, zt12, zt13] at *) <;> omega), by ((try have c0 := hq1 4 (by decide)); (try have c0 := hq1 4); (try have c5 := e7_10 4); (try have c6 := w8 4); (try simp only [zt0, zt1, zt2, zt3, zt4, zt5, zt6, zt7, zt8, zt9, zt10, zt11, zt12, zt13] at *) <;> omega), fun k hk hk2 => by ((try have c0 := hq1 k hk); (try have c0 := hq1 k); (have c5 := e7_10 k); (have c6 := w8 k); (try simp only [zt0, zt1, zt2, zt3, zt4, zt5, zt6, zt7, zt8, zt9, zt10, zt11, zt12, zt13] at *) <;> omega)⟩⟩
            · refine zok_ck ((q0).1) ?_
              refine zok_c0 (s152 (q0) (by omega) (by omega) (by first | (omega) | ((try simp only [zt0, zt1, zt2, zt3, zt4, zt5, zt6, zt7, zt8, zt9, zt10, zt11, zt12, zt13, e0_2, e0_3, e0_4, e7_2, e7_3, e7_4, e7_10, e8_2, e8_3, e8_4, e8_11]); omega)) (by first | (omega) | ((try simp only [zt0, zt1, zt2, zt3, zt4, zt5, zt6, zt7, zt8, zt9, zt10, zt11, zt12, zt13, e0_2, e0_3, e0_4, e7_2, e7_3, e7_4, e7_10, e8_2, e8_3, e8_4, e8_11]); omega)) (f8.g)) (fun t18 p18 => ?_)
              obtain ⟨f18, p18⟩ := p18
              have e18_2 : ∀ k, tg t18 (sr sh r0 2) k = tg t8 (sr sh r0 2) k := fun k => f18.eq q0 (i := 2) (by decide) (by decide) k
              have e18_3 : ∀ k, tg t18 (sr sh r0 3) k = tg t8 (sr sh r0 3) k := fun k => f18.eq q0 (i := 3) (by decide) (by decide) k
              have e18_4 : ∀ k, tg t18 (sr sh r0 4) k = tg t8 (sr sh r0 4) k := fun k => f18.eq q0 (i := 4) (by decide) (by decide) k
              have e18_11 : ∀ k, tg t18 (sr sh r0 11) k = tg t8 (sr sh r0 11) k := fun k => f18.eq q0 (i := 11) (by decide) (by decide) k
              try simp only [zt0, zt1, zt2, zt3, zt4, zt5, zt6, zt7, zt8, zt9, zt10, zt11, zt12, zt13, e0_2, e0_3, e0_4, e7_2, e7_3, e7_4, e7_10, e8_2, e8_3, e8_4, e8_11, e18_2, e18_3, e18_4, e18_11] at p18
              simp only [zput_s, zput_n, ti_g, oI_add, oI_sub, oI_mul, zt0, zt1, zt2, zt3, zt4, zt5, zt6, zt7, zt8, zt9, zt10, zt11, zt12, zt13, e0_2, e0_3, e0_4, e7_2, e7_3, e7_4, e7_10, e8_2, e8_3, e8_4, e8_11, e18_2, e18_3, e18_4, e18_11, b182_97]
              try simp only [zput_s, zput_n, ti_g, oI_add, oI_sub, oI_mul]
              exact q0_rt ⟨(FrV.trans (Ns := [9, 10, 11]) ((FrV.trans (Ns := [9, 10, 11]) ((FrV.trans (Ns := [9, 10, 11]) (f0) f7 (by decide) (by decide))) f8 (by decide) (by decide))) f18 (by decide) (by decide)), ⟨by ((try have c0 := hq1 3 (by decide)); (try have c0 := hq1 3); (try have c5 := e7_10 3); (try have c6 := w8 3); (try have c11 := p18.2 3 (by omega)); (try simp only [zt0, zt1, zt2, zt3, zt4, zt5, zt6, zt7, zt8, zt9, zt10, zt11, zt12, zt13] at *) <;> omega), by ((try have c0 := hq1 4 (by decide)); (try have c0 := hq1 4); (try have c5 := e7_10 4); (try have c6 := w8 4); (try have c11 := p18.2 4 (by omega)); (try simp only [zt0, zt1, zt2, zt3, zt4, zt5, zt6, zt7, zt8, zt9, zt10, zt11, zt12, zt13] at *) <;> omega), fun k hk hk2 => by ((try have c0 := hq1 k hk); (try have c0 := hq1 k); (have c5 := e7_10 k); (have c6 := w8 k); (have c11 := p18.2 k (by omega)); (try simp only [zt0, zt1, zt2, zt3, zt4, zt5, zt6, zt7, zt8, zt9, zt10, zt11, zt12, zt13] at *) <;> omega)⟩⟩
      · first | refine zok_ne (by omega) (fun c20 => ?_) (fun c20 => ?_) | refine zok_if (fun c20 => ?_) (fun c20 => ?_)
        · simp only [zput_s, zput_n, ti_g, oI_add, oI_sub, oI_mul, zt0, zt1, zt2, zt3, zt4, zt5, zt6, zt7, zt8, zt9, zt10, zt11, zt12, zt13, e0_2, e0_3, e0_4, b182_68]
          try simp only [zput_s, zput_n, ti_g, oI_add, oI_sub, oI_mul]
          first | refine zok_lt (by omega) (fun c22 => ?_) (fun c22 => ?_) | refine zok_if (fun c22 => ?_) (fun c22 => ?_)
          · simp only [zput_s, zput_n, ti_g, oI_add, oI_sub, oI_mul, zt0, zt1, zt2, zt3, zt4, zt5, zt6, zt7, zt8, zt9, zt10, zt11, zt12, zt13, e0_2, e0_3, e0_4, b182_97]
            try simp only [zput_s, zput_n, ti_g, oI_add, oI_sub, oI_mul]
            exact q0_rt ⟨f0, ⟨by ((try have c0 := hq1 3 (by decide)); (try have c0 := hq1 3); (try simp only [zt0, zt1, zt2, zt3, zt4, zt5, zt6, zt7, zt8, zt9, zt10, zt11, zt12, zt13] at *) <;> omega), by ((try have c0 := hq1 4 (by decide)); (try have c0 := hq1 4); (try simp only [zt0, zt1, zt2, zt3, zt4, zt5, zt6, zt7, zt8, zt9, zt10, zt11, zt12, zt13] at *) <;> omega), fun k hk hk2 => by ((try have c0 := hq1 k hk); (try have c0 := hq1 k); (try simp only [zt0, zt1, zt2, zt3, zt4, zt5, zt6, zt7, zt8, zt9, zt10, zt11, zt12, zt13] at *) <;> omega)⟩⟩
          · refine zok_ck ((q0).1) ?_
            refine zok_ck ⟨Or.inr (by rw [(q0).2.2.2.2.2.2.2.2.2.2.2.1]), zin_o (by omega) (by omega) (by omega)⟩ ?_
            try rw [nN_o (a := 2) (by omega) (by omega)]
            try rw [show (2 : Int).toNat = 2 from rfl]
            try simp only [zput_s, zput_n, ti_g, oI_add, oI_sub, oI_mul, zt0, zt1, zt2, zt3, zt4, zt5, zt6, zt7, zt8, zt9, zt10, zt11, zt12, zt13, e0_2, e0_3, e0_4]
            have gl24 := And.intro (tg_lo t1 (sr sh r0 11) (2)) (tg_hi t1 (sr sh r0 11) (2))
            have gm24 := (f0.g).2.2.2.1 (2) (by omega)
            try simp only [zt0, zt1, zt2, zt3, zt4, zt5, zt6, zt7, zt8, zt9, zt10, zt11, zt12, zt13, e0_2, e0_3, e0_4] at gl24
            try simp only [zt0, zt1, zt2, zt3, zt4, zt5, zt6, zt7, zt8, zt9, zt10, zt11, zt12, zt13, e0_2, e0_3, e0_4] at gm24
            first | refine zok_eq (by omega) (fun c25 => ?_) (fun c25 => ?_) | refine zok_if (fun c25 => ?_) (fun c25 => ?_)
            · simp only [zput_s, zput_n, ti_g, oI_add, oI_sub, oI_mul, zt0, zt1, zt2, zt3, zt4, zt5, zt6, zt7, zt8, zt9, zt10, zt11, zt12, zt13, e0_2, e0_3, e0_4, b182_97]
              try simp only [zput_s, zput_n, ti_g, oI_add, oI_sub, oI_mul]
              exact q0_rt ⟨f0, ⟨by ((try have c0 := hq1 3 (by decide)); (try have c0 := hq1 3); (try simp only [zt0, zt1, zt2, zt3, zt4, zt5, zt6, zt7, zt8, zt9, zt10, zt11, zt12, zt13] at *) <;> omega), by ((try have c0 := hq1 4 (by decide)); (try have c0 := hq1 4); (try simp only [zt0, zt1, zt2, zt3, zt4, zt5, zt6, zt7, zt8, zt9, zt10, zt11, zt12, zt13] at *) <;> omega), fun k hk hk2 => by ((try have c0 := hq1 k hk); (try have c0 := hq1 k); (try simp only [zt0, zt1, zt2, zt3, zt4, zt5, zt6, zt7, zt8, zt9, zt10, zt11, zt12, zt13] at *) <;> omega)⟩⟩
            · refine zok_ck ((q0).1) ?_
              refine zok_ck ⟨(by rw [(q0).2.2.2.2.2.2.2.2.2.2.1]), zin_o (by omega) (by omega) (by omega)⟩ ?_
              try rw [nN_o (a := 4) (by omega) (by omega)]
              try rw [show (4 : Int).toNat = 4 from rfl]
              try simp only [zput_s, zput_n, ti_g, oI_add, oI_sub, oI_mul, zt0, zt1, zt2, zt3, zt4, zt5, zt6, zt7, zt8, zt9, zt10, zt11, zt12, zt13, e0_2, e0_3, e0_4]
              have gl27 := And.intro (tg_lo t1 (sr sh r0 10) (4)) (tg_hi t1 (sr sh r0 10) (4))
              have gm27 := (f0.g).2.2.1 (4) (by omega)
              try simp only [zt0, zt1, zt2, zt3, zt4, zt5, zt6, zt7, zt8, zt9, zt10, zt11, zt12, zt13, e0_2, e0_3, e0_4] at gl27
              try simp only [zt0, zt1, zt2, zt3, zt4, zt5, zt6, zt7, zt8, zt9, zt10, zt11, zt12, zt13, e0_2, e0_3, e0_4] at gm27
              first | refine zok_ne (by omega) (fun c28 => ?_) (fun c28 => ?_) | refine zok_if (fun c28 => ?_) (fun c28 => ?_)
              · simp only [zput_s, zput_n, ti_g, oI_add, oI_sub, oI_mul, zt0, zt1, zt2, zt3, zt4, zt5, zt6, zt7, zt8, zt9, zt10, zt11, zt12, zt13, e0_2, e0_3, e0_4, b182_97]
                try simp only [zput_s, zput_n, ti_g, oI_add, oI_sub, oI_mul]
                exact q0_rt ⟨f0, ⟨by ((try have c0 := hq1 3 (by decide)); (try have c0 := hq1 3); (try simp only [zt0, zt1, zt2, zt3, zt4, zt5, zt6, zt7, zt8, zt9, zt10, zt11, zt12, zt13] at *) <;> omega), by ((try have c0 := hq1 4 (by decide)); (try have c0 := hq1 4); (try simp only [zt0, zt1, zt2, zt3, zt4, zt5, zt6, zt7, zt8, zt9, zt10, zt11, zt12, zt13] at *) <;> omega), fun k hk hk2 => by ((try have c0 := hq1 k hk); (try have c0 := hq1 k); (try simp only [zt0, zt1, zt2, zt3, zt4, zt5, zt6, zt7, zt8, zt9, zt10, zt11, zt12, zt13] at *) <;> omega)⟩⟩
              · refine zok_ck ((q0).1) ?_
                refine zok_c0 (s152 (q0) (by omega) (by omega) (by first | (omega) | ((try simp only [zt0, zt1, zt2, zt3, zt4, zt5, zt6, zt7, zt8, zt9, zt10, zt11, zt12, zt13, e0_2, e0_3, e0_4]); omega)) (by first | (omega) | ((try simp only [zt0, zt1, zt2, zt3, zt4, zt5, zt6, zt7, zt8, zt9, zt10, zt11, zt12, zt13, e0_2, e0_3, e0_4]); omega)) (f0.g)) (fun t30 p30 => ?_)
                obtain ⟨f30, p30⟩ := p30
                have e30_2 : ∀ k, tg t30 (sr sh r0 2) k = tg t1 (sr sh r0 2) k := fun k => f30.eq q0 (i := 2) (by decide) (by decide) k
                have e30_3 : ∀ k, tg t30 (sr sh r0 3) k = tg t1 (sr sh r0 3) k := fun k => f30.eq q0 (i := 3) (by decide) (by decide) k
                have e30_4 : ∀ k, tg t30 (sr sh r0 4) k = tg t1 (sr sh r0 4) k := fun k => f30.eq q0 (i := 4) (by decide) (by decide) k
                have e30_11 : ∀ k, tg t30 (sr sh r0 11) k = tg t1 (sr sh r0 11) k := fun k => f30.eq q0 (i := 11) (by decide) (by decide) k
                try simp only [zt0, zt1, zt2, zt3, zt4, zt5, zt6, zt7, zt8, zt9, zt10, zt11, zt12, zt13, e0_2, e0_3, e0_4, e30_2, e30_3, e30_4, e30_11] at p30
                simp only [zput_s, zput_n, ti_g, oI_add, oI_sub, oI_mul, zt0, zt1, zt2, zt3, zt4, zt5, zt6, zt7, zt8, zt9, zt10, zt11, zt12, zt13, e0_2, e0_3, e0_4, e30_2, e30_3, e30_4, e30_11, b182_97]
                try simp only [zput_s, zput_n, ti_g, oI_add, oI_sub, oI_mul]
                exact q0_rt ⟨(FrV.trans (Ns := [9, 10, 11]) (f0) f30 (by decide) (by decide)), ⟨by ((try have c0 := hq1 3 (by decide)); (try have c0 := hq1 3); (try have c1 := p30.2 3 (by omega)); (try simp only [zt0, zt1, zt2, zt3, zt4, zt5, zt6, zt7, zt8, zt9, zt10, zt11, zt12, zt13] at *) <;> omega), by ((try have c0 := hq1 4 (by decide)); (try have c0 := hq1 4); (try have c1 := p30.2 4 (by omega)); (try simp only [zt0, zt1, zt2, zt3, zt4, zt5, zt6, zt7, zt8, zt9, zt10, zt11, zt12, zt13] at *) <;> omega), fun k hk hk2 => by ((try have c0 := hq1 k hk); (try have c0 := hq1 k); (have c1 := p30.2 k (by omega)); (try simp only [zt0, zt1, zt2, zt3, zt4, zt5, zt6, zt7, zt8, zt9, zt10, zt11, zt12, zt13] at *) <;> omega)⟩⟩
        · simp only [zput_s, zput_n, ti_g, oI_add, oI_sub, oI_mul, zt0, zt1, zt2, zt3, zt4, zt5, zt6, zt7, zt8, zt9, zt10, zt11, zt12, zt13, e0_2, e0_3, e0_4, b182_54]
          try simp only [zput_s, zput_n, ti_g, oI_add, oI_sub, oI_mul]
          refine zok_ck ((q0).1) ?_
          refine zok_ck ⟨Or.inr ⟨by rw [(q0).2.2.2.2.2.2.2.2.2.2.2.1], by first | exact bool_p (by omega) | exact Or.inl rfl | exact Or.inr rfl⟩, zin_o (by omega) (by omega) (by omega)⟩ ?_
          try rw [nN_o (a := 3) (by omega) (by omega)]
          try rw [show (3 : Int).toNat = 3 from rfl]
          try simp only [zput_s, zput_n, ti_g, oI_add, oI_sub, oI_mul, zt0, zt1, zt2, zt3, zt4, zt5, zt6, zt7, zt8, zt9, zt10, zt11, zt12, zt13, e0_2, e0_3, e0_4]
          try rw [i8_o (y := 0) (by omega)]
          obtain ⟨t33, ht33⟩ : ∃ t', t' = tI t1 (sr sh r0 11) (3) (oI (0)) := ⟨_, rfl⟩
          try simp only [zt0, zt1, zt2, zt3, zt4, zt5, zt6, zt7, zt8, zt9, zt10, zt11, zt12, zt13, e0_2, e0_3, e0_4] at ht33
          rw [← ht33]
          have f33 : FrV sh r0 [11] t1 t33 := by rw [ht33]; exact GI_lh q0 (f0.g) (by omega)
          have w33 : ∀ k, tg t33 (sr sh r0 11) k = if k = 3 then 0 else tg t1 (sr sh r0 11) k := fun k => by rw [ht33]; refine (tg_at (by omega)).trans ?_; first | rfl | simp only [zt0, zt1, zt2, zt3, zt4, zt5, zt6, zt7, zt8, zt9, zt10, zt11, zt12, zt13, e0_2, e0_3, e0_4, true_and]
          have ws33 : tg t33 (sr sh r0 11) (3) = 0 := by rw [w33, if_pos rfl]
          try simp only [zt0, zt1, zt2, zt3, zt4, zt5, zt6, zt7, zt8, zt9, zt10, zt11, zt12, zt13, e0_2, e0_3, e0_4] at w33
          try simp only [zt0, zt1, zt2, zt3, zt4, zt5, zt6, zt7, zt8, zt9, zt10, zt11, zt12, zt13, e0_2, e0_3, e0_4] at ws33
          have e33_2 : ∀ k, tg t33 (sr sh r0 2) k = tg t1 (sr sh r0 2) k := fun k => f33.eq q0 (i := 2) (by decide) (by decide) k
          have e33_3 : ∀ k, tg t33 (sr sh r0 3) k = tg t1 (sr sh r0 3) k := fun k => f33.eq q0 (i := 3) (by decide) (by decide) k
          have e33_4 : ∀ k, tg t33 (sr sh r0 4) k = tg t1 (sr sh r0 4) k := fun k => f33.eq q0 (i := 4) (by decide) (by decide) k
          have e33_10 : ∀ k, tg t33 (sr sh r0 10) k = tg t1 (sr sh r0 10) k := fun k => f33.eq q0 (i := 10) (by decide) (by decide) k
          refine zok_ck ((q0).1) ?_
          refine zok_ck ⟨(by rw [(q0).2.2.2.2.2.2.2.2.2.2.1]), zin_o (by omega) (by omega) (by omega)⟩ ?_
          try rw [nN_o (a := 3) (by omega) (by omega)]
          try rw [show (3 : Int).toNat = 3 from rfl]
          try simp only [zput_s, zput_n, ti_g, oI_add, oI_sub, oI_mul, zt0, zt1, zt2, zt3, zt4, zt5, zt6, zt7, zt8, zt9, zt10, zt11, zt12, zt13, e0_2, e0_3, e0_4, e33_2, e33_3, e33_4, e33_10]
          obtain ⟨t34, ht34⟩ : ∃ t', t' = tI t33 (sr sh r0 10) (3) (oI (0)) := ⟨_, rfl⟩
          try simp only [zt0, zt1, zt2, zt3, zt4, zt5, zt6, zt7, zt8, zt9, zt10, zt11, zt12, zt13, e0_2, e0_3, e0_4, e33_2, e33_3, e33_4, e33_10] at ht34
          rw [← ht34]
          have f34 : FrV sh r0 [10] t33 t34 := by rw [ht34]; exact GI_ls q0 (f33.g) (by omega) (by omega)
          have w34 : ∀ k, tg t34 (sr sh r0 10) k = if k = 3 then 0 else tg t33 (sr sh r0 10) k := fun k => by rw [ht34]; refine (tg_at (by omega)).trans ?_; first | rfl | simp only [zt0, zt1, zt2, zt3, zt4, zt5, zt6, zt7, zt8, zt9, zt10, zt11, zt12, zt13, e0_2, e0_3, e0_4, e33_2, e33_3, e33_4, e33_10, true_and]
          have ws34 : tg t34 (sr sh r0 10) (3) = 0 := by rw [w34, if_pos rfl]
          try simp only [zt0, zt1, zt2, zt3, zt4, zt5, zt6, zt7, zt8, zt9, zt10, zt11, zt12, zt13, e0_2, e0_3, e0_4, e33_2, e33_3, e33_4, e33_10] at w34
          try simp only [zt0, zt1, zt2, zt3, zt4, zt5, zt6, zt7, zt8, zt9, zt10, zt11, zt12, zt13, e0_2, e0_3, e0_4, e33_2, e33_3, e33_4, e33_10] at ws34
          have e34_2 : ∀ k, tg t34 (sr sh r0 2) k = tg t33 (sr sh r0 2) k := fun k => f34.eq q0 (i := 2) (by decide) (by decide) k
          have e34_3 : ∀ k, tg t34 (sr sh r0 3) k = tg t33 (sr sh r0 3) k := fun k => f34.eq q0 (i := 3) (by decide) (by decide) k
          have e34_4 : ∀ k, tg t34 (sr sh r0 4) k = tg t33 (sr sh r0 4) k := fun k => f34.eq q0 (i := 4) (by decide) (by decide) k
          have e34_11 : ∀ k, tg t34 (sr sh r0 11) k = tg t33 (sr sh r0 11) k := fun k => f34.eq q0 (i := 11) (by decide) (by decide) k
          simp only [zput_s, zput_n, ti_g, oI_add, oI_sub, oI_mul, zt0, zt1, zt2, zt3, zt4, zt5, zt6, zt7, zt8, zt9, zt10, zt11, zt12, zt13, e0_2, e0_3, e0_4, e33_2, e33_3, e33_4, e33_10, e34_2, e34_3, e34_4, e34_11, b182_68]
          try simp only [zput_s, zput_n, ti_g, oI_add, oI_sub, oI_mul]
          first | refine zok_lt (by omega) (fun c36 => ?_) (fun c36 => ?_) | refine zok_if (fun c36 => ?_) (fun c36 => ?_)
          · simp only [zput_s, zput_n, ti_g, oI_add, oI_sub, oI_mul, zt0, zt1, zt2, zt3, zt4, zt5, zt6, zt7, zt8, zt9, zt10, zt11, zt12, zt13, e0_2, e0_3, e0_4, e33_2, e33_3, e33_4, e33_10, e34_2, e34_3, e34_4, e34_11, b182_97]
            try simp only [zput_s, zput_n, ti_g, oI_add, oI_sub, oI_mul]
            exact q0_rt ⟨(FrV.trans (Ns := [9, 10, 11]) ((FrV.trans (Ns := [9, 10, 11]) (f0) f33 (by decide) (by decide))) f34 (by decide) (by decide)), ⟨by ((try have c0 := hq1 3 (by decide)); (try have c0 := hq1 3); (try have c5 := e33_10 3); (try have c6 := w34 3); (try simp only [zt0, zt1, zt2, zt3, zt4, zt5, zt6, zt7, zt8, zt9, zt10, zt11, zt12, zt13] at *) <;> omega), by ((try have c0 := hq1 4 (by decide)); (try have c0 := hq1 4); (try have c5 := e33_10 4); (try have c6 := w34 4); (try simp only [zt0, zt1, zt2, zt3, zt4, zt5, zt6, zt7, zt8, zt9, zt10, zt11, zt12, zt13] at *) <;> omega), fun k hk hk2 => by ((try have c0 := hq1 k hk); (try have c0 := hq1 k); (have c5 := e33_10 k); (have c6 := w34 k); (try simp only [zt0, zt1, zt2, zt3, zt4, zt5, zt6, zt7, zt8, zt9, zt10, zt11, zt12, zt13] at *) <;> omega)⟩⟩
          · refine zok_ck ((q0).1) ?_
            refine zok_ck ⟨Or.inr (by rw [(q0).2.2.2.2.2.2.2.2.2.2.2.1]), zin_o (by omega) (by omega) (by omega)⟩ ?_
            try rw [nN_o (a := 2) (by omega) (by omega)]
            try rw [show (2 : Int).toNat = 2 from rfl]
            try simp only [zput_s, zput_n, ti_g, oI_add, oI_sub, oI_mul, zt0, zt1, zt2, zt3, zt4, zt5, zt6, zt7, zt8, zt9, zt10, zt11, zt12, zt13, e0_2, e0_3, e0_4, e33_2, e33_3, e33_4, e33_10, e34_2, e34_3, e34_4, e34_11]
            have gl38 := And.intro (tg_lo t34 (sr sh r0 11) (2)) (tg_hi t34 (sr sh r0 11) (2))
            have gm38 := (f34.g).2.2.2.1 (2) (by omega)
            try simp only [zt0, zt1, zt2, zt3, zt4, zt5, zt6, zt7, zt8, zt9, zt10, zt11, zt12, zt13, e0_2, e0_3, e0_4, e33_2, e33_3, e33_4, e33_10, e34_2, e34_3, e34_4, e34_11] at gl38
            try simp only [zt0, zt1, zt2, zt3, zt4, zt5, zt6, zt7, zt8, zt9, zt10, zt11, zt12, zt13, e0_2, e0_3, e0_4, e33_2, e33_3, e33_4, e33_10, e34_2, e34_3, e34_4, e34_11] at gm38
            first | refine zok_eq (by omega) (fun c39 => ?_) (fun c39 => ?_) | refine zok_if (fun c39 => ?_) (fun c39 => ?_)
            · simp only [zput_s, zput_n, ti_g, oI_add, oI_sub, oI_mul, zt0, zt1, zt2, zt3, zt4, zt5, zt6, zt7, zt8, zt9, zt10, zt11, zt12, zt13, e0_2, e0_3, e0_4, e33_2, e33_3, e33_4, e33_10, e34_2, e34_3, e34_4, e34_11, b182_97]
              try simp only [zput_s, zput_n, ti_g, oI_add, oI_sub, oI_mul]
              exact q0_rt ⟨(FrV.trans (Ns := [9, 10, 11]) ((FrV.trans (Ns := [9, 10, 11]) (f0) f33 (by decide) (by decide))) f34 (by decide) (by decide)), ⟨by ((try have c0 := hq1 3 (by decide)); (try have c0 := hq1 3); (try have c5 := e33_10 3); (try have c6 := w34 3); (try simp only [zt0, zt1, zt2, zt3, zt4, zt5, zt6, zt7, zt8, zt9, zt10, zt11, zt12, zt13] at *) <;> omega), by ((try have c0 := hq1 4 (by decide)); (try have c0 := hq1 4); (try have c5 := e33_10 4); (try have c6 := w34 4); (try simp only [zt0, zt1, zt2, zt3, zt4, zt5, zt6, zt7, zt8, zt9, zt10, zt11, zt12, zt13] at *) <;> omega), fun k hk hk2 => by ((try have c0 := hq1 k hk); (try have c0 := hq1 k); (have c5 := e33_10 k); (have c6 := w34 k); (try simp only [zt0, zt1, zt2, zt3, zt4, zt5, zt6, zt7, zt8, zt9, zt10, zt11, zt12, zt13] at *) <;> omega)⟩⟩
            · refine zok_ck ((q0).1) ?_
              refine zok_ck ⟨(by rw [(q0).2.2.2.2.2.2.2.2.2.2.1]), zin_o (by omega) (by omega) (by omega)⟩ ?_
              try rw [nN_o (a := 4) (by omega) (by omega)]
              try rw [show (4 : Int).toNat = 4 from rfl]
              try simp only [zput_s, zput_n, ti_g, oI_add, oI_sub, oI_mul, zt0, zt1, zt2, zt3, zt4, zt5, zt6, zt7, zt8, zt9, zt10, zt11, zt12, zt13, e0_2, e0_3, e0_4, e33_2, e33_3, e33_4, e33_10, e34_2, e34_3, e34_4, e34_11]
              have gl41 := And.intro (tg_lo t34 (sr sh r0 10) (4)) (tg_hi t34 (sr sh r0 10) (4))
              have gm41 := (f34.g).2.2.1 (4) (by omega)
              try simp only [zt0, zt1, zt2, zt3, zt4, zt5, zt6, zt7, zt8, zt9, zt10, zt11, zt12, zt13, e0_2, e0_3, e0_4, e33_2, e33_3, e33_4, e33_10, e34_2, e34_3, e34_4, e34_11] at gl41
              try simp only [zt0, zt1, zt2, zt3, zt4, zt5, zt6, zt7, zt8, zt9, zt10, zt11, zt12, zt13, e0_2, e0_3, e0_4, e33_2, e33_3, e33_4, e33_10, e34_2, e34_3, e34_4, e34_11] at gm41
              first | refine zok_ne (by omega) (fun c42 => ?_) (fun c42 => ?_) | refine zok_if (fun c42 => ?_) (fun c42 => ?_)
              · simp only [zput_s, zput_n, ti_g, oI_add, oI_sub, oI_mul, zt0, zt1, zt2, zt3, zt4, zt5, zt6, zt7, zt8, zt9, zt10, zt11, zt12, zt13, e0_2, e0_3, e0_4, e33_2, e33_3, e33_4, e33_10, e34_2, e34_3, e34_4, e34_11, b182_97]
                try simp only [zput_s, zput_n, ti_g, oI_add, oI_sub, oI_mul]
                exact q0_rt ⟨(FrV.trans (Ns := [9, 10, 11]) ((FrV.trans (Ns := [9, 10, 11]) (f0) f33 (by decide) (by decide))) f34 (by decide) (by decide)), ⟨by ((try have c0 := hq1 3 (by decide)); (try have c0 := hq1 3); (try have c5 := e33_10 3); (try have c6 := w34 3); (try simp only [zt0, zt1, zt2, zt3, zt4, zt5, zt6, zt7, zt8, zt9, zt10, zt11, zt12, zt13] at *) <;> omega), by ((try have c0 := hq1 4 (by decide)); (try have c0 := hq1 4); (try have c5 := e33_10 4); (try have c6 := w34 4); (try simp only [zt0, zt1, zt2, zt3, zt4, zt5, zt6, zt7, zt8, zt9, zt10, zt11, zt12, zt13] at *) <;> omega), fun k hk hk2 => by ((try have c0 := hq1 k hk); (try have c0 := hq1 k); (have c5 := e33_10 k); (have c6 := w34 k); (try simp only [zt0, zt1, zt2, zt3, zt4, zt5, zt6, zt7, zt8, zt9, zt10, zt11, zt12, zt13] at *) <;> omega)⟩⟩
              · refine zok_ck ((q0).1) ?_
                refine zok_c0 (s152 (q0) (by omega) (by omega) (by first | (omega) | ((try simp only [zt0, zt1, zt2, zt3, zt4, zt5, zt6, zt7, zt8, zt9, zt10, zt11, zt12, zt13, e0_2, e0_3, e0_4, e33_2, e33_3, e33_4, e33_10, e34_2, e34_3, e34_4, e34_11]); omega)) (by first | (omega) | ((try simp only [zt0, zt1, zt2, zt3, zt4, zt5, zt6, zt7, zt8, zt9, zt10, zt11, zt12, zt13, e0_2, e0_3, e0_4, e33_2, e33_3, e33_4, e33_10, e34_2, e34_3, e34_4, e34_11]); omega)) (f34.g)) (fun t44 p44 => ?_)
                obtain ⟨f44, p44⟩ := p44
                have e44_2 : ∀ k, tg t44 (sr sh r0 2) k = tg t34 (sr sh r0 2) k := fun k => f44.eq q0 (i := 2) (by decide) (by decide) k
                have e44_3 : ∀ k, tg t44 (sr sh r0 3) k = tg t34 (sr sh r0 3) k := fun k => f44.eq q0 (i := 3) (by decide) (by decide) k
                have e44_4 : ∀ k, tg t44 (sr sh r0 4) k = tg t34 (sr sh r0 4) k := fun k => f44.eq q0 (i := 4) (by decide) (by decide) k
                have e44_11 : ∀ k, tg t44 (sr sh r0 11) k = tg t34 (sr sh r0 11) k := fun k => f44.eq q0 (i := 11) (by decide) (by decide) k
                try simp only [zt0, zt1, zt2, zt3, zt4, zt5, zt6, zt7, zt8, zt9, zt10, zt11, zt12, zt13, e0_2, e0_3, e0_4, e33_2, e33_3, e33_4, e33_10, e34_2, e34_3, e34_4, e34_11, e44_2, e44_3, e44_4, e44_11] at p44
                simp only [zput_s, zput_n, ti_g, oI_add, oI_sub, oI_mul, zt0, zt1, zt2, zt3, zt4, zt5, zt6, zt7, zt8, zt9, zt10, zt11, zt12, zt13, e0_2, e0_3, e0_4, e33_2, e33_3, e33_4, e33_10, e34_2, e34_3, e34_4, e34_11, e44_2, e44_3, e44_4, e44_11, b182_97]
                try simp only [zput_s, zput_n, ti_g, oI_add, oI_sub, oI_mul]
                exact q0_rt ⟨(FrV.trans (Ns := [9, 10, 11]) ((FrV.trans (Ns := [9, 10, 11]) ((FrV.trans (Ns := [9, 10, 11]) (f0) f33 (by decide) (by decide))) f34 (by decide) (by decide))) f44 (by decide) (by decide)), ⟨by ((try have c0 := hq1 3 (by decide)); (try have c0 := hq1 3); (try have c5 := e33_10 3); (try have c6 := w34 3); (try have c11 := p44.2 3 (by omega)); (try simp only [zt0, zt1, zt2, zt3, zt4, zt5, zt6, zt7, zt8, zt9, zt10, zt11, zt12, zt13] at *) <;> omega), by ((try have c0 := hq1 4 (by decide)); (try have c0 := hq1 4); (try have c5 := e33_10 4); (try have c6 := w34 4); (try have c11 := p44.2 4 (by omega)); (try simp only [zt0, zt1, zt2, zt3, zt4, zt5, zt6, zt7, zt8, zt9, zt10, zt11, zt12, zt13] at *) <;> omega), fun k hk hk2 => by ((try have c0 := hq1 k hk); (try have c0 := hq1 k); (have c5 := e33_10 k); (have c6 := w34 k); (have c11 := p44.2 k (by omega)); (try simp only [zt0, zt1, zt2, zt3, zt4, zt5, zt6, zt7, zt8, zt9, zt10, zt11, zt12, zt13] at *) <;> omega)⟩⟩
    · refine zok_ck ((q0).1) ?_
      refine zok_pI (s160 (q0) (by omega) (by omega) (by first | (omega) | ((try simp only [zt0, zt1, zt2, zt3, zt4, zt5, zt6, zt7, zt8, zt9, zt10, zt11, zt12, zt13, e0_2, e0_3, e0_4]); omega)) (f0.g)) (fun y46 u46 p46 => ?_)
      try simp only [zt0, zt1, zt2, zt3, zt4, zt5, zt6, zt7, zt8, zt9, zt10, zt11, zt12, zt13, e0_2, e0_3, e0_4] at p46
      simp only [zput_s, zput_n, ti_g, oI_add, oI_sub, oI_mul, zt0, zt1, zt2, zt3, zt4, zt5, zt6, zt7, zt8, zt9, zt10, zt11, zt12, zt13, e0_2, e0_3, e0_4, b182_29]
      try simp only [zput_s, zput_n, ti_g, oI_add, oI_sub, oI_mul]
      try simp only [zput_s, zput_n, ti_g, oI_add, oI_sub, oI_mul]
      exact ih _ _ _ _ (f0) (by first | omega | ((try simp only [zt0, zt1, zt2, zt3, zt4, zt5, zt6, zt7, zt8, zt9, zt10, zt11, zt12, zt13, e0_2, e0_3, e0_4]); omega)) (fun k => by first | rfl | exact hq1 k) (by first | omega | ((try simp only [zt0, zt1, zt2, zt3, zt4, zt5, zt6, zt7, zt8, zt9, zt10, zt11, zt12, zt13, e0_2, e0_3, e0_4]); omega))
theorem s182 {sh : zSh} {t : zSt} {MB : Nat} {r0 : Nat} (q0 : zMd sh MB r0) (d1 : tg t (sr sh r0 10) 4 ≤ 2000) (G : GI sh r0 t) : zok (zcl zP 182 [zR r0] (sh, t)) (zq0 (fun t' => FrV sh r0 [9, 10, 11] t t' ∧ (tg t' (sr sh r0 10) 3 ≤ tg t (sr sh r0 10) 3 ∧ tg t' (sr sh r0 10) 4 ≤ tg t (sr sh r0 10) 4 + 1 ∧ ∀ k, k ≠ 3 → k ≠ 4 → tg t' (sr sh r0 10) k = tg t (sr sh r0 10) k)) sh) := by
  have ha0_1 : (sk sh (sr sh r0 1)).2 = 21000 := by rw [q0.2.2.2.2.1]
  have ha0_2 : (sk sh (sr sh r0 2)).2 = 14 := by rw [q0.2.2.2.2.2.1]
  have ha0_3 : (sk sh (sr sh r0 3)).2 = 98 := by rw [q0.2.2.2.2.2.2.1]
  have ha0_4 : (sk sh (sr sh r0 4)).2 = 98 := by rw [q0.2.2.2.2.2.2.2.1]
  have ha0_8 : (sk sh (sr sh r0 8)).2 = 1500 := by rw [q0.2.2.2.2.2.2.2.2.1]
  have ha0_9 : (sk sh (sr sh r0 9)).2 = 10500 := by rw [q0.2.2.2.2.2.2.2.2.2.1]
  have ha0_10 : (sk sh (sr sh r0 10)).2 = 7 := by rw [q0.2.2.2.2.2.2.2.2.2.2.1]
  have ha0_11 : (sk sh (sr sh r0 11)).2 = 7 := by rw [q0.2.2.2.2.2.2.2.2.2.2.2.1]
  have ha0_12 : (sk sh (sr sh r0 12)).2 = 1500 := by rw [q0.2.2.2.2.2.2.2.2.2.2.2.2.1]
  have ha0_13 : (sk sh (sr sh r0 13)).2 = 1500 := by rw [q0.2.2.2.2.2.2.2.2.2.2.2.2.2.1]
  have ha0_14 : (sk sh (sr sh r0 14)).2 = 20 := by rw [q0.2.2.2.2.2.2.2.2.2.2.2.2.2.2]
  rw [b182_0]
  try simp only [zput_s, zput_n, ti_g, oI_add, oI_sub, oI_mul]
  refine zok_ck ((q0).1) ?_
  refine zok_pI (s181 (q0) (G)) (fun y49 u49 p49 => ?_)
  try simp only [zt0, zt1, zt2, zt3, zt4, zt5, zt6, zt7, zt8, zt9, zt10, zt11, zt12, zt13] at p49
  simp only [zput_s, zput_n, ti_g, oI_add, oI_sub, oI_mul, zt0, zt1, zt2, zt3, zt4, zt5, zt6, zt7, zt8, zt9, zt10, zt11, zt12, zt13, b182_4]
  try simp only [zput_s, zput_n, ti_g, oI_add, oI_sub, oI_mul]
  try simp only [zput_s, zput_n, ti_g, oI_add, oI_sub, oI_mul]
  exact l182_9 q0 d1 G _ _ _ _ _ (FrV.refl G) (by first | omega | ((try simp only [zt0, zt1, zt2, zt3, zt4, zt5, zt6, zt7, zt8, zt9, zt10, zt11, zt12, zt13]); omega)) (fun k => by first | rfl | exact hq1 k) (Nat.lt_succ_self _)
