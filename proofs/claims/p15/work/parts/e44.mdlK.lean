set_option maxRecDepth 16384
/-! X9_layWay -/
theorem l190_232 {sh : zSh} {t0 : zSt} {MB : Nat} {r0 : Nat} (q0 : zMd sh MB r0) {x1 : Int} (u1 : -2147483648 ≤ x1 ∧ x1 ≤ 2147483647) {x2 : Int} (u2 : -2147483648 ≤ x2 ∧ x2 ≤ 2147483647) (d1 : 0 ≤ x1 ∧ x1 ≤ 13 ∧ x1 ≠ 12) (d2 : 0 ≤ x2 ∧ x2 ≤ 13 ∧ x2 ≠ 12) (G : GI sh r0 t0) : ∀ (n : Nat) (x3 : Int) (x4 : Int) (x5 : Int) (v6 : Int32) (x7 : Int) (x8 : Int)  (t1 : zSt), FrV sh r0 [9, 10] t0 t1 → (-2147483648 ≤ x3 ∧ x3 ≤ 2147483647) ∧ (-2147483648 ≤ x4 ∧ x4 ≤ 2147483647) ∧ (-2147483648 ≤ x5 ∧ x5 ≤ 2147483647) ∧ (-2147483648 ≤ x7 ∧ x7 ≤ 2147483647) ∧ (-2147483648 ≤ x8 ∧ x8 ≤ 2147483647) ∧ (0 ≤ x3 ∧ x3 ≤ x8 ∧ x4 ≤ 401 ∧ x5 ≤ 401) ∧ (x8 = x3 ∨ x8 ≤ x5) ∧ (tg t1 (sr sh r0 10) 4 ≤ 1205 + (x8 - x3)) → (∀ k, k ≠ 4 → tg t1 (sr sh r0 10) k = tg t0 (sr sh r0 10) k) → (x5 - x8).toNat < n → zok (zev zP 190 232 [some (zR r0), some (zI (oI x1)), some (zI (oI x2)), some (zI (oI x3)), some (zI (oI x4)), some (zI (oI x5)), some (zI v6), some (zI (oI x7)), some (zI (oI x8))] [] (sh, t1)) (zq0 (fun t' => FrV sh r0 [9, 10] t0 t' ∧ (tg t' (sr sh r0 10) 4 ≤ 1610 ∧ ∀ k, k ≠ 4 → tg t' (sr sh r0 10) k = tg t0 (sr sh r0 10) k)) sh) := by
  intro n
  induction n with
  | zero => intro x3 x4 x5 v6 x7 x8  t1 f0 _ _ hm; omega
  | succ n ih =>
    intro x3 x4 x5 v6 x7 x8  t1 f0 hv hq1 hm
    obtain ⟨x6, a6, b6, rfl⟩ := oI_nf v6
    have ha0_1 : (sk sh (sr sh r0 1)).2 = 21000 := by rw [q0.2.2.2.2.1]
    have ha0_2 : (sk sh (sr sh r0 2)).2 = 14 := by rw [q0.2.2.2.2.2.1]
    have ha0_3 : (sk sh (sr sh r0 3)).2 = 98 := by rw [q0.2.2.2.2.2.2.1]
    have ha0_4 : (sk sh (sr sh r0 4)).2 = 98 := by rw [q0.2.2.2.2.2.2.2.1]
    have ha0_8 : (sk sh (sr sh r0 8)).2 = 1500 := by rw [q0.2.2.2.2.2.2.2.2.1]
    have ha0_9 : (sk sh (sr sh r0 9)).2 = 10500 := by rw [q0.2.2.2.2.2.2.2.2.2.1]
    have ha0_10 : (sk sh (sr sh r0 10)).2 = 7 := by rw [q0.2.2.2.2.2.2.2.2.2.2.1]
    have ha0_11 : (sk sh (sr sh r0 11)).2 = 7 := by rw [q0.2.2.2.2.2.2.2.2.2.2.2.1]
    have ha0_12 : (sk sh (sr sh r0 12)).2 = 1500 := by rw [q0.2.2.2.2.2.2.2.2.2.2.2.2.1]
    have ha0_13 : (sk sh (sr sh r0 13)).2 = 1500 := by rw [q0.2.2.2.2.2.2.2.2.2.2.2.2.2.1]
    have ha0_14 : (sk sh (sr sh r0 14)).2 = 20 := by rw [q0.2.2.2.2.2.2.2.2.2.2.2.2.2.2]
    have e0_2 : ∀ k, tg t1 (sr sh r0 2) k = tg t0 (sr sh r0 2) k := fun k => f0.eq q0 (i := 2) (by decide) (by decide) k
    have e0_3 : ∀ k, tg t1 (sr sh r0 3) k = tg t0 (sr sh r0 3) k := fun k => f0.eq q0 (i := 3) (by decide) (by decide) k
    have e0_4 : ∀ k, tg t1 (sr sh r0 4) k = tg t0 (sr sh r0 4) k := fun k => f0.eq q0 (i := 4) (by decide) (by decide) k
    have e0_11 : ∀ k, tg t1 (sr sh r0 11) k = tg t0 (sr sh r0 11) k := fun k => f0.eq q0 (i := 11) (by decide) (by decide) k
    try simp only [zt0, zt1, zt2, zt3, zt4, zt5, zt6, e0_2, e0_3, e0_4, e0_11] at hv
    try simp only [zt0, zt1, zt2, zt3, zt4, zt5, zt6, e0_2, e0_3, e0_4, e0_11] at hm
    have gz := (f0.g).2.1 (7 * x1 + 4).toNat (by omega)
    try simp only [zt0, zt1, zt2, zt3, zt4, zt5, zt6, e0_2, e0_3, e0_4, e0_11] at gz
    have gy := (f0.g).2.1 (7 * x2 + 4).toNat (by omega)
    try simp only [zt0, zt1, zt2, zt3, zt4, zt5, zt6, e0_2, e0_3, e0_4, e0_11] at gy
    rw [b190_232]
    try simp only [zput_s, zput_n, ti_g, oI_add, oI_sub, oI_mul]
    first | refine zok_le (by omega) (fun c2 => ?_) (fun c2 => ?_) | refine zok_if (fun c2 => ?_) (fun c2 => ?_)
    · exact q0_rt ⟨f0, ⟨by omega, fun k hk => by ((try have c0 := hq1 k hk); (try have c0 := hq1 k); (try simp only [zt0, zt1, zt2, zt3, zt4, zt5, zt6] at *) <;> omega)⟩⟩
    · refine zok_ck ((q0).1) ?_
      refine zok_pI (s136 (q0) (by omega) (by omega) (by omega) (by first | (omega) | ((try simp only [zt0, zt1, zt2, zt3, zt4, zt5, zt6, e0_2, e0_3, e0_4, e0_11]); omega)) (by first | (omega) | ((try simp only [zt0, zt1, zt2, zt3, zt4, zt5, zt6, e0_2, e0_3, e0_4, e0_11]); omega)) (by first | (omega) | ((try simp only [zt0, zt1, zt2, zt3, zt4, zt5, zt6, e0_2, e0_3, e0_4, e0_11]); omega)) (f0.g)) (fun y3 u3 p3 => ?_)
      try simp only [zt0, zt1, zt2, zt3, zt4, zt5, zt6, e0_2, e0_3, e0_4, e0_11] at p3
      simp only [zput_s, zput_n, ti_g, oI_add, oI_sub, oI_mul, zt0, zt1, zt2, zt3, zt4, zt5, zt6, e0_2, e0_3, e0_4, e0_11, b190_249]
      try simp only [zput_s, zput_n, ti_g, oI_add, oI_sub, oI_mul]
      refine zok_ck ((q0).1) ?_
      refine zok_c0 (s152 (q0) (by omega) (by omega) (by first | (omega) | ((try simp only [zt0, zt1, zt2, zt3, zt4, zt5, zt6, e0_2, e0_3, e0_4, e0_11]); omega)) (by first | (omega) | ((try simp only [zt0, zt1, zt2, zt3, zt4, zt5, zt6, e0_2, e0_3, e0_4, e0_11]); omega)) (f0.g)) (fun t5 p5 => ?_)
      obtain ⟨f5, p5⟩ := p5
      have e5_2 : ∀ k, tg t5 (sr sh r0 2) k = tg t1 (sr sh r0 2) k := fun k => f5.eq q0 (i := 2) (by decide) (by decide) k
      have e5_3 : ∀ k, tg t5 (sr sh r0 3) k = tg t1 (sr sh r0 3) k := fun k => f5.eq q0 (i := 3) (by decide) (by decide) k
      have e5_4 : ∀ k, tg t5 (sr sh r0 4) k = tg t1 (sr sh r0 4) k := fun k => f5.eq q0 (i := 4) (by decide) (by decide) k
      have e5_11 : ∀ k, tg t5 (sr sh r0 11) k = tg t1 (sr sh r0 11) k := fun k => f5.eq q0 (i := 11) (by decide) (by decide) k
      try simp only [zt0, zt1, zt2, zt3, zt4, zt5, zt6, e0_2, e0_3, e0_4, e0_11, e5_2, e5_3, e5_4, e5_11] at p5
      simp only [zput_s, zput_n, ti_g, oI_add, oI_sub, oI_mul, zt0, zt1, zt2, zt3, zt4, zt5, zt6, e0_2, e0_3, e0_4, e0_11, e5_2, e5_3, e5_4, e5_11, b190_252]
      try simp only [zput_s, zput_n, ti_g, oI_add, oI_sub, oI_mul]
      try simp only [zput_s, zput_n, ti_g, oI_add, oI_sub, oI_mul]
      exact ih _ _ _ _ _ _ _ ((FrV.trans (Ns := [9, 10]) (f0) f5 (by decide) (by decide))) (by first | omega | ((try simp only [zt0, zt1, zt2, zt3, zt4, zt5, zt6, e0_2, e0_3, e0_4, e0_11, e5_2, e5_3, e5_4, e5_11]); omega)) (fun k hk => by ((try have c0 := hq1 k hk); (try have c0 := hq1 k); (have c1 := p5.2 k (by omega)); (try simp only [zt0, zt1, zt2, zt3, zt4, zt5, zt6] at *) <;> omega)) (by first | omega | ((try simp only [zt0, zt1, zt2, zt3, zt4, zt5, zt6, e0_2, e0_3, e0_4, e0_11, e5_2, e5_3, e5_4, e5_11]); omega))
theorem l190_229 {sh : zSh} {t0 : zSt} {MB : Nat} {r0 : Nat} (q0 : zMd sh MB r0) {x1 : Int} (u1 : -2147483648 ≤ x1 ∧ x1 ≤ 2147483647) {x2 : Int} (u2 : -2147483648 ≤ x2 ∧ x2 ≤ 2147483647) (d1 : 0 ≤ x1 ∧ x1 ≤ 13 ∧ x1 ≠ 12) (d2 : 0 ≤ x2 ∧ x2 ≤ 13 ∧ x2 ≠ 12) (G : GI sh r0 t0) : ∀ (n : Nat) (x3 : Int) (x4 : Int) (x5 : Int) (v6 : Int32) (x7 : Int)  (t1 : zSt), FrV sh r0 [9, 10] t0 t1 → (-2147483648 ≤ x3 ∧ x3 ≤ 2147483647) ∧ (-2147483648 ≤ x4 ∧ x4 ≤ 2147483647) ∧ (-2147483648 ≤ x5 ∧ x5 ≤ 2147483647) ∧ (-2147483648 ≤ x7 ∧ x7 ≤ 2147483647) ∧ (0 ≤ x3 ∧ x3 ≤ x4 ∧ x4 ≤ 401 ∧ x5 ≤ 401) ∧ (tg t1 (sr sh r0 10) 4 ≤ 3 * (x4 - x3) + 2) → (∀ k, k ≠ 4 → tg t1 (sr sh r0 10) k = tg t0 (sr sh r0 10) k) → ((0 : Int)).toNat < n → zok (zev zP 190 229 [some (zR r0), some (zI (oI x1)), some (zI (oI x2)), some (zI (oI x3)), some (zI (oI x4)), some (zI (oI x5)), some (zI v6), some (zI (oI x7)), none] [] (sh, t1)) (zq0 (fun t' => FrV sh r0 [9, 10] t0 t' ∧ (tg t' (sr sh r0 10) 4 ≤ 1610 ∧ ∀ k, k ≠ 4 → tg t' (sr sh r0 10) k = tg t0 (sr sh r0 10) k)) sh) := by
  intro n
  induction n with
  | zero => intro x3 x4 x5 v6 x7  t1 f0 _ _ hm; omega
  | succ n ih =>
    intro x3 x4 x5 v6 x7  t1 f0 hv hq1 hm
    obtain ⟨x6, a6, b6, rfl⟩ := oI_nf v6
    have ha0_1 : (sk sh (sr sh r0 1)).2 = 21000 := by rw [q0.2.2.2.2.1]
    have ha0_2 : (sk sh (sr sh r0 2)).2 = 14 := by rw [q0.2.2.2.2.2.1]
    have ha0_3 : (sk sh (sr sh r0 3)).2 = 98 := by rw [q0.2.2.2.2.2.2.1]
    have ha0_4 : (sk sh (sr sh r0 4)).2 = 98 := by rw [q0.2.2.2.2.2.2.2.1]
    have ha0_8 : (sk sh (sr sh r0 8)).2 = 1500 := by rw [q0.2.2.2.2.2.2.2.2.1]
    have ha0_9 : (sk sh (sr sh r0 9)).2 = 10500 := by rw [q0.2.2.2.2.2.2.2.2.2.1]
    have ha0_10 : (sk sh (sr sh r0 10)).2 = 7 := by rw [q0.2.2.2.2.2.2.2.2.2.2.1]
    have ha0_11 : (sk sh (sr sh r0 11)).2 = 7 := by rw [q0.2.2.2.2.2.2.2.2.2.2.2.1]
    have ha0_12 : (sk sh (sr sh r0 12)).2 = 1500 := by rw [q0.2.2.2.2.2.2.2.2.2.2.2.2.1]
    have ha0_13 : (sk sh (sr sh r0 13)).2 = 1500 := by rw [q0.2.2.2.2.2.2.2.2.2.2.2.2.2.1]
    have ha0_14 : (sk sh (sr sh r0 14)).2 = 20 := by rw [q0.2.2.2.2.2.2.2.2.2.2.2.2.2.2]
    have e0_2 : ∀ k, tg t1 (sr sh r0 2) k = tg t0 (sr sh r0 2) k := fun k => f0.eq q0 (i := 2) (by decide) (by decide) k
    have e0_3 : ∀ k, tg t1 (sr sh r0 3) k = tg t0 (sr sh r0 3) k := fun k => f0.eq q0 (i := 3) (by decide) (by decide) k
    have e0_4 : ∀ k, tg t1 (sr sh r0 4) k = tg t0 (sr sh r0 4) k := fun k => f0.eq q0 (i := 4) (by decide) (by decide) k
    have e0_11 : ∀ k, tg t1 (sr sh r0 11) k = tg t0 (sr sh r0 11) k := fun k => f0.eq q0 (i := 11) (by decide) (by decide) k
    try simp only [zt0, zt1, zt2, zt3, zt4, zt5, zt6, e0_2, e0_3, e0_4, e0_11] at hv
    try simp only [zt0, zt1, zt2, zt3, zt4, zt5, zt6, e0_2, e0_3, e0_4, e0_11] at hm
    have gz := (f0.g).2.1 (7 * x1 + 4).toNat (by omega)
    try simp only [zt0, zt1, zt2, zt3, zt4, zt5, zt6, e0_2, e0_3, e0_4, e0_11] at gz
    have gy := (f0.g).2.1 (7 * x2 + 4).toNat (by omega)
    try simp only [zt0, zt1, zt2, zt3, zt4, zt5, zt6, e0_2, e0_3, e0_4, e0_11] at gy
    rw [b190_229]
    try simp only [zput_s, zput_n, ti_g, oI_add, oI_sub, oI_mul]
    try simp only [zput_s, zput_n, ti_g, oI_add, oI_sub, oI_mul]
    exact l190_232 q0 (by omega) (by omega) d1 d2 G _ _ _ _ _ _ _ _ (f0) (by first | omega | ((try simp only [zt0, zt1, zt2, zt3, zt4, zt5, zt6, e0_2, e0_3, e0_4, e0_11]); omega)) (fun k hk => by ((try have c0 := hq1 k hk); (try have c0 := hq1 k); (try simp only [zt0, zt1, zt2, zt3, zt4, zt5, zt6] at *) <;> omega)) (Nat.lt_succ_self _)
theorem l190_138 {sh : zSh} {t0 : zSt} {MB : Nat} {r0 : Nat} (q0 : zMd sh MB r0) {x1 : Int} (u1 : -2147483648 ≤ x1 ∧ x1 ≤ 2147483647) {x2 : Int} (u2 : -2147483648 ≤ x2 ∧ x2 ≤ 2147483647) (d1 : 0 ≤ x1 ∧ x1 ≤ 13 ∧ x1 ≠ 12) (d2 : 0 ≤ x2 ∧ x2 ≤ 13 ∧ x2 ≠ 12) (G : GI sh r0 t0) : ∀ (n : Nat) (x3 : Int) (x4 : Int) (x5 : Int) (v6 : Int32) (x7 : Int)  (t1 : zSt), FrV sh r0 [9, 10] t0 t1 → (-2147483648 ≤ x3 ∧ x3 ≤ 2147483647) ∧ (-2147483648 ≤ x4 ∧ x4 ≤ 2147483647) ∧ (-2147483648 ≤ x5 ∧ x5 ≤ 2147483647) ∧ (-2147483648 ≤ x7 ∧ x7 ≤ 2147483647) ∧ (0 ≤ x3 ∧ x3 ≤ x4 ∧ x3 ≤ x7 ∧ x4 ≤ 401 ∧ x5 ≤ 401) ∧ (tg t1 (sr sh r0 10) 4 ≤ 3 * (x4 - x3)) → (∀ k, k ≠ 4 → tg t1 (sr sh r0 10) k = tg t0 (sr sh r0 10) k) → (x5 - x7).toNat < n → zok (zev zP 190 138 [some (zR r0), some (zI (oI x1)), some (zI (oI x2)), some (zI (oI x3)), some (zI (oI x4)), some (zI (oI x5)), some (zI v6), some (zI (oI x7)), none] [] (sh, t1)) (zq0 (fun t' => FrV sh r0 [9, 10] t0 t' ∧ (tg t' (sr sh r0 10) 4 ≤ 1610 ∧ ∀ k, k ≠ 4 → tg t' (sr sh r0 10) k = tg t0 (sr sh r0 10) k)) sh) := by
  intro n
  induction n with
  | zero => intro x3 x4 x5 v6 x7  t1 f0 _ _ hm; omega
  | succ n ih =>
    intro x3 x4 x5 v6 x7  t1 f0 hv hq1 hm
    obtain ⟨x6, a6, b6, rfl⟩ := oI_nf v6
    have ha0_1 : (sk sh (sr sh r0 1)).2 = 21000 := by rw [q0.2.2.2.2.1]
    have ha0_2 : (sk sh (sr sh r0 2)).2 = 14 := by rw [q0.2.2.2.2.2.1]
    have ha0_3 : (sk sh (sr sh r0 3)).2 = 98 := by rw [q0.2.2.2.2.2.2.1]
    have ha0_4 : (sk sh (sr sh r0 4)).2 = 98 := by rw [q0.2.2.2.2.2.2.2.1]
    have ha0_8 : (sk sh (sr sh r0 8)).2 = 1500 := by rw [q0.2.2.2.2.2.2.2.2.1]
    have ha0_9 : (sk sh (sr sh r0 9)).2 = 10500 := by rw [q0.2.2.2.2.2.2.2.2.2.1]
    have ha0_10 : (sk sh (sr sh r0 10)).2 = 7 := by rw [q0.2.2.2.2.2.2.2.2.2.2.1]
    have ha0_11 : (sk sh (sr sh r0 11)).2 = 7 := by rw [q0.2.2.2.2.2.2.2.2.2.2.2.1]
    have ha0_12 : (sk sh (sr sh r0 12)).2 = 1500 := by rw [q0.2.2.2.2.2.2.2.2.2.2.2.2.1]
    have ha0_13 : (sk sh (sr sh r0 13)).2 = 1500 := by rw [q0.2.2.2.2.2.2.2.2.2.2.2.2.2.1]
    have ha0_14 : (sk sh (sr sh r0 14)).2 = 20 := by rw [q0.2.2.2.2.2.2.2.2.2.2.2.2.2.2]
    have e0_2 : ∀ k, tg t1 (sr sh r0 2) k = tg t0 (sr sh r0 2) k := fun k => f0.eq q0 (i := 2) (by decide) (by decide) k
    have e0_3 : ∀ k, tg t1 (sr sh r0 3) k = tg t0 (sr sh r0 3) k := fun k => f0.eq q0 (i := 3) (by decide) (by decide) k
    have e0_4 : ∀ k, tg t1 (sr sh r0 4) k = tg t0 (sr sh r0 4) k := fun k => f0.eq q0 (i := 4) (by decide) (by decide) k
    have e0_11 : ∀ k, tg t1 (sr sh r0 11) k = tg t0 (sr sh r0 11) k := fun k => f0.eq q0 (i := 11) (by decide) (by decide) k
    try simp only [zt0, zt1, zt2, zt3, zt4, zt5, zt6, e0_2, e0_3, e0_4, e0_11] at hv
    try simp only [zt0, zt1, zt2, zt3, zt4, zt5, zt6, e0_2, e0_3, e0_4, e0_11] at hm
    have gz := (f0.g).2.1 (7 * x1 + 4).toNat (by omega)
    try simp only [zt0, zt1, zt2, zt3, zt4, zt5, zt6, e0_2, e0_3, e0_4, e0_11] at gz
    have gy := (f0.g).2.1 (7 * x2 + 4).toNat (by omega)
    try simp only [zt0, zt1, zt2, zt3, zt4, zt5, zt6, e0_2, e0_3, e0_4, e0_11] at gy
    rw [b190_138]
    try simp only [zput_s, zput_n, ti_g, oI_add, oI_sub, oI_mul]
    first | refine zok_le (by omega) (fun c2 => ?_) (fun c2 => ?_) | refine zok_if (fun c2 => ?_) (fun c2 => ?_)
    · refine zok_ck ((q0).1) ?_
      refine zok_ck ⟨(by rw [(q0).2.2.2.2.2.2.2.2.2.2.1]), zin_o (by omega) (by omega) (by omega)⟩ ?_
      try rw [nN_o (a := 4) (by omega) (by omega)]
      try rw [show (4 : Int).toNat = 4 from rfl]
      try simp only [zput_s, zput_n, ti_g, oI_add, oI_sub, oI_mul, zt0, zt1, zt2, zt3, zt4, zt5, zt6, e0_2, e0_3, e0_4, e0_11]
      have gl3 := And.intro (tg_lo t1 (sr sh r0 10) (4)) (tg_hi t1 (sr sh r0 10) (4))
      have gm3 := (f0.g).2.2.1 (4) (by omega)
      try simp only [zt0, zt1, zt2, zt3, zt4, zt5, zt6, e0_2, e0_3, e0_4, e0_11] at gl3
      try simp only [zt0, zt1, zt2, zt3, zt4, zt5, zt6, e0_2, e0_3, e0_4, e0_11] at gm3
      first | refine zok_ne (by omega) (fun c4 => ?_) (fun c4 => ?_) | refine zok_if (fun c4 => ?_) (fun c4 => ?_)
      · try simp only [zput_s, zput_n, ti_g, oI_add, oI_sub, oI_mul]
        exact l190_229 q0 (by omega) (by omega) d1 d2 G _ _ _ _ _ _ _ (f0) (by first | omega | ((try simp only [zt0, zt1, zt2, zt3, zt4, zt5, zt6, e0_2, e0_3, e0_4, e0_11]); omega)) (fun k hk => by ((try have c0 := hq1 k hk); (try have c0 := hq1 k); (try simp only [zt0, zt1, zt2, zt3, zt4, zt5, zt6] at *) <;> omega)) (Nat.lt_succ_self _)
      · first | refine zok_eq (by omega) (fun c5 => ?_) (fun c5 => ?_) | refine zok_if (fun c5 => ?_) (fun c5 => ?_)
        · refine zok_ck ((q0).1) ?_
          refine zok_c0 (s152 (q0) (by omega) (by omega) (by first | (omega) | ((try simp only [zt0, zt1, zt2, zt3, zt4, zt5, zt6, e0_2, e0_3, e0_4, e0_11]); omega)) (by first | (omega) | ((try simp only [zt0, zt1, zt2, zt3, zt4, zt5, zt6, e0_2, e0_3, e0_4, e0_11]); omega)) (f0.g)) (fun t6 p6 => ?_)
          obtain ⟨f6, p6⟩ := p6
          have e6_2 : ∀ k, tg t6 (sr sh r0 2) k = tg t1 (sr sh r0 2) k := fun k => f6.eq q0 (i := 2) (by decide) (by decide) k
          have e6_3 : ∀ k, tg t6 (sr sh r0 3) k = tg t1 (sr sh r0 3) k := fun k => f6.eq q0 (i := 3) (by decide) (by decide) k
          have e6_4 : ∀ k, tg t6 (sr sh r0 4) k = tg t1 (sr sh r0 4) k := fun k => f6.eq q0 (i := 4) (by decide) (by decide) k
          have e6_11 : ∀ k, tg t6 (sr sh r0 11) k = tg t1 (sr sh r0 11) k := fun k => f6.eq q0 (i := 11) (by decide) (by decide) k
          try simp only [zt0, zt1, zt2, zt3, zt4, zt5, zt6, e0_2, e0_3, e0_4, e0_11, e6_2, e6_3, e6_4, e6_11] at p6
          simp only [zput_s, zput_n, ti_g, oI_add, oI_sub, oI_mul, zt0, zt1, zt2, zt3, zt4, zt5, zt6, e0_2, e0_3, e0_4, e0_11, e6_2, e6_3, e6_4, e6_11, b190_222]
          try simp only [zput_s, zput_n, ti_g, oI_add, oI_sub, oI_mul]
          refine zok_ck ((q0).1) ?_
          refine zok_c0 (s152 (q0) (by omega) (by omega) (by first | (omega) | ((try simp only [zt0, zt1, zt2, zt3, zt4, zt5, zt6, e0_2, e0_3, e0_4, e0_11, e6_2, e6_3, e6_4, e6_11]); omega)) (by first | (omega) | ((try simp only [zt0, zt1, zt2, zt3, zt4, zt5, zt6, e0_2, e0_3, e0_4, e0_11, e6_2, e6_3, e6_4, e6_11]); omega)) (f6.g)) (fun t8 p8 => ?_)
          obtain ⟨f8, p8⟩ := p8
          have e8_2 : ∀ k, tg t8 (sr sh r0 2) k = tg t6 (sr sh r0 2) k := fun k => f8.eq q0 (i := 2) (by decide) (by decide) k
          have e8_3 : ∀ k, tg t8 (sr sh r0 3) k = tg t6 (sr sh r0 3) k := fun k => f8.eq q0 (i := 3) (by decide) (by decide) k
          have e8_4 : ∀ k, tg t8 (sr sh r0 4) k = tg t6 (sr sh r0 4) k := fun k => f8.eq q0 (i := 4) (by decide) (by decide) k
          have e8_11 : ∀ k, tg t8 (sr sh r0 11) k = tg t6 (sr sh r0 11) k := fun k => f8.eq q0 (i := 11) (by decide) (by decide) k
          try simp only [zt0, zt1, zt2, zt3, zt4, zt5, zt6, e0_2, e0_3, e0_4, e0_11, e6_2, e6_3, e6_4, e6_11, e8_2, e8_3, e8_4, e8_11] at p8
          try simp only [zput_s, zput_n, ti_g, oI_add, oI_sub, oI_mul]
          exact l190_229 q0 (by omega) (by omega) d1 d2 G _ _ _ _ _ _ _ ((FrV.trans (Ns := [9, 10]) ((FrV.trans (Ns := [9, 10]) (f0) f6 (by decide) (by decide))) f8 (by decide) (by decide))) (by first | omega | ((try simp only [zt0, zt1, zt2, zt3, zt4, zt5, zt6, e0_2, e0_3, e0_4, e0_11, e6_2, e6_3, e6_4, e6_11, e8_2, e8_3, e8_4, e8_11]); omega)) (fun k hk => by ((try have c0 := hq1 k hk); (try have c0 := hq1 k); (have c1 := p6.2 k (by omega)); (have c6 := p8.2 k (by omega)); (try simp only [zt0, zt1, zt2, zt3, zt4, zt5, zt6] at *) <;> omega)) (Nat.lt_succ_self _)
        · first | refine zok_eq (by omega) (fun c9 => ?_) (fun c9 => ?_) | refine zok_if (fun c9 => ?_) (fun c9 => ?_)
          · refine zok_ck ((q0).1) ?_
            refine zok_c0 (s152 (q0) (by omega) (by omega) (by first | (omega) | ((try simp only [zt0, zt1, zt2, zt3, zt4, zt5, zt6, e0_2, e0_3, e0_4, e0_11]); omega)) (by first | (omega) | ((try simp only [zt0, zt1, zt2, zt3, zt4, zt5, zt6, e0_2, e0_3, e0_4, e0_11]); omega)) (f0.g)) (fun t10 p10 => ?_)
            obtain ⟨f10, p10⟩ := p10
            have e10_2 : ∀ k, tg t10 (sr sh r0 2) k = tg t1 (sr sh r0 2) k := fun k => f10.eq q0 (i := 2) (by decide) (by decide) k
            have e10_3 : ∀ k, tg t10 (sr sh r0 3) k = tg t1 (sr sh r0 3) k := fun k => f10.eq q0 (i := 3) (by decide) (by decide) k
            have e10_4 : ∀ k, tg t10 (sr sh r0 4) k = tg t1 (sr sh r0 4) k := fun k => f10.eq q0 (i := 4) (by decide) (by decide) k
            have e10_11 : ∀ k, tg t10 (sr sh r0 11) k = tg t1 (sr sh r0 11) k := fun k => f10.eq q0 (i := 11) (by decide) (by decide) k
            try simp only [zt0, zt1, zt2, zt3, zt4, zt5, zt6, e0_2, e0_3, e0_4, e0_11, e10_2, e10_3, e10_4, e10_11] at p10
            simp only [zput_s, zput_n, ti_g, oI_add, oI_sub, oI_mul, zt0, zt1, zt2, zt3, zt4, zt5, zt6, e0_2, e0_3, e0_4, e0_11, e10_2, e10_3, e10_4, e10_11, b190_222]
            try simp only [zput_s, zput_n, ti_g, oI_add, oI_sub, oI_mul]
            refine zok_ck ((q0).1) ?_
            refine zok_c0 (s152 (q0) (by omega) (by omega) (by first | (omega) | ((try simp only [zt0, zt1, zt2, zt3, zt4, zt5, zt6, e0_2, e0_3, e0_4, e0_11, e10_2, e10_3, e10_4, e10_11]); omega)) (by first | (omega) | ((try simp only [zt0, zt1, zt2, zt3, zt4, zt5, zt6, e0_2, e0_3, e0_4, e0_11, e10_2, e10_3, e10_4, e10_11]); omega)) (f10.g)) (fun t12 p12 => ?_)
            obtain ⟨f12, p12⟩ := p12
            have e12_2 : ∀ k, tg t12 (sr sh r0 2) k = tg t10 (sr sh r0 2) k := fun k => f12.eq q0 (i := 2) (by decide) (by decide) k
            have e12_3 : ∀ k, tg t12 (sr sh r0 3) k = tg t10 (sr sh r0 3) k := fun k => f12.eq q0 (i := 3) (by decide) (by decide) k
            have e12_4 : ∀ k, tg t12 (sr sh r0 4) k = tg t10 (sr sh r0 4) k := fun k => f12.eq q0 (i := 4) (by decide) (by decide) k
            have e12_11 : ∀ k, tg t12 (sr sh r0 11) k = tg t10 (sr sh r0 11) k := fun k => f12.eq q0 (i := 11) (by decide) (by decide) k
            try simp only [zt0, zt1, zt2, zt3, zt4, zt5, zt6, e0_2, e0_3, e0_4, e0_11, e10_2, e10_3, e10_4, e10_11, e12_2, e12_3, e12_4, e12_11] at p12
            try simp only [zput_s, zput_n, ti_g, oI_add, oI_sub, oI_mul]
            exact l190_229 q0 (by omega) (by omega) d1 d2 G _ _ _ _ _ _ _ ((FrV.trans (Ns := [9, 10]) ((FrV.trans (Ns := [9, 10]) (f0) f10 (by decide) (by decide))) f12 (by decide) (by decide))) (by first | omega | ((try simp only [zt0, zt1, zt2, zt3, zt4, zt5, zt6, e0_2, e0_3, e0_4, e0_11, e10_2, e10_3, e10_4, e10_11, e12_2, e12_3, e12_4, e12_11]); omega)) (fun k hk => by ((try have c0 := hq1 k hk); (try have c0 := hq1 k); (have c1 := p10.2 k (by omega)); (have c6 := p12.2 k (by omega)); (try simp only [zt0, zt1, zt2, zt3, zt4, zt5, zt6] at *) <;> omega)) (Nat.lt_succ_self _)
          · first | refine zok_eq (by omega) (fun c13 => ?_) (fun c13 => ?_) | refine zok_if (fun c13 => ?_) (fun c13 => ?_)
            · try simp only [zput_s, zput_n, ti_g, oI_add, oI_sub, oI_mul]
              exact l190_229 q0 (by omega) (by omega) d1 d2 G _ _ _ _ _ _ _ (f0) (by first | omega | ((try simp only [zt0, zt1, zt2, zt3, zt4, zt5, zt6, e0_2, e0_3, e0_4, e0_11]); omega)) (fun k hk => by ((try have c0 := hq1 k hk); (try have c0 := hq1 k); (try simp only [zt0, zt1, zt2, zt3, zt4, zt5, zt6] at *) <;> omega)) (Nat.lt_succ_self _)
            · refine zok_ck ((q0).1) ?_
              refine zok_c0 (s152 (q0) (by omega) (by omega) (by first | (omega) | ((try simp only [zt0, zt1, zt2, zt3, zt4, zt5, zt6, e0_2, e0_3, e0_4, e0_11]); omega)) (by first | (omega) | ((try simp only [zt0, zt1, zt2, zt3, zt4, zt5, zt6, e0_2, e0_3, e0_4, e0_11]); omega)) (f0.g)) (fun t14 p14 => ?_)
              obtain ⟨f14, p14⟩ := p14
              have e14_2 : ∀ k, tg t14 (sr sh r0 2) k = tg t1 (sr sh r0 2) k := fun k => f14.eq q0 (i := 2) (by decide) (by decide) k
              have e14_3 : ∀ k, tg t14 (sr sh r0 3) k = tg t1 (sr sh r0 3) k := fun k => f14.eq q0 (i := 3) (by decide) (by decide) k
              have e14_4 : ∀ k, tg t14 (sr sh r0 4) k = tg t1 (sr sh r0 4) k := fun k => f14.eq q0 (i := 4) (by decide) (by decide) k
              have e14_11 : ∀ k, tg t14 (sr sh r0 11) k = tg t1 (sr sh r0 11) k := fun k => f14.eq q0 (i := 11) (by decide) (by decide) k
              try simp only [zt0, zt1, zt2, zt3, zt4, zt5, zt6, e0_2, e0_3, e0_4, e0_11, e14_2, e14_3, e14_4, e14_11] at p14
              simp only [zput_s, zput_n, ti_g, oI_add, oI_sub, oI_mul, zt0, zt1, zt2, zt3, zt4, zt5, zt6, e0_2, e0_3, e0_4, e0_11, e14_2, e14_3, e14_4, e14_11, b190_222]
              try simp only [zput_s, zput_n, ti_g, oI_add, oI_sub, oI_mul]
              refine zok_ck ((q0).1) ?_
              refine zok_c0 (s152 (q0) (by omega) (by omega) (by first | (omega) | ((try simp only [zt0, zt1, zt2, zt3, zt4, zt5, zt6, e0_2, e0_3, e0_4, e0_11, e14_2, e14_3, e14_4, e14_11]); omega)) (by first | (omega) | ((try simp only [zt0, zt1, zt2, zt3, zt4, zt5, zt6, e0_2, e0_3, e0_4, e0_11, e14_2, e14_3, e14_4, e14_11]); omega)) (f14.g)) (fun t16 p16 => ?_)
              obtain ⟨f16, p16⟩ := p16
              have e16_2 : ∀ k, tg t16 (sr sh r0 2) k = tg t14 (sr sh r0 2) k := fun k => f16.eq q0 (i := 2) (by decide) (by decide) k
              have e16_3 : ∀ k, tg t16 (sr sh r0 3) k = tg t14 (sr sh r0 3) k := fun k => f16.eq q0 (i := 3) (by decide) (by decide) k
              have e16_4 : ∀ k, tg t16 (sr sh r0 4) k = tg t14 (sr sh r0 4) k := fun k => f16.eq q0 (i := 4) (by decide) (by decide) k
              have e16_11 : ∀ k, tg t16 (sr sh r0 11) k = tg t14 (sr sh r0 11) k := fun k => f16.eq q0 (i := 11) (by decide) (by decide) k
              try simp only [zt0, zt1, zt2, zt3, zt4, zt5, zt6, e0_2, e0_3, e0_4, e0_11, e14_2, e14_3, e14_4, e14_11, e16_2, e16_3, e16_4, e16_11] at p16
              try simp only [zput_s, zput_n, ti_g, oI_add, oI_sub, oI_mul]
              exact l190_229 q0 (by omega) (by omega) d1 d2 G _ _ _ _ _ _ _ ((FrV.trans (Ns := [9, 10]) ((FrV.trans (Ns := [9, 10]) (f0) f14 (by decide) (by decide))) f16 (by decide) (by decide))) (by first | omega | ((try simp only [zt0, zt1, zt2, zt3, zt4, zt5, zt6, e0_2, e0_3, e0_4, e0_11, e14_2, e14_3, e14_4, e14_11, e16_2, e16_3, e16_4, e16_11]); omega)) (fun k hk => by ((try have c0 := hq1 k hk); (try have c0 := hq1 k); (have c1 := p14.2 k (by omega)); (have c6 := p16.2 k (by omega)); (try simp only [zt0, zt1, zt2, zt3, zt4, zt5, zt6] at *) <;> omega)) (Nat.lt_succ_self _)
    · refine zok_ck ((q0).1) ?_
      refine zok_pI (s136 (q0) (by omega) (by omega) (by omega) (by first | (omega) | ((try simp only [zt0, zt1, zt2, zt3, zt4, zt5, zt6, e0_2, e0_3, e0_4, e0_11]); omega)) (by first | (omega) | ((try simp only [zt0, zt1, zt2, zt3, zt4, zt5, zt6, e0_2, e0_3, e0_4, e0_11]); omega)) (by first | (omega) | ((try simp only [zt0, zt1, zt2, zt3, zt4, zt5, zt6, e0_2, e0_3, e0_4, e0_11]); omega)) (f0.g)) (fun y17 u17 p17 => ?_)
      try simp only [zt0, zt1, zt2, zt3, zt4, zt5, zt6, e0_2, e0_3, e0_4, e0_11] at p17
      simp only [zput_s, zput_n, ti_g, oI_add, oI_sub, oI_mul, zt0, zt1, zt2, zt3, zt4, zt5, zt6, e0_2, e0_3, e0_4, e0_11, b190_153]
      try simp only [zput_s, zput_n, ti_g, oI_add, oI_sub, oI_mul]
      first | refine zok_eq (by omega) (fun c19 => ?_) (fun c19 => ?_) | refine zok_if (fun c19 => ?_) (fun c19 => ?_)
      · refine zok_ck ((q0).1) ?_
        refine zok_ck ⟨(by rw [(q0).2.2.2.2.2.2.2.2.2.2.1]), zin_o (by omega) (by omega) (by omega)⟩ ?_
        try rw [nN_o (a := 4) (by omega) (by omega)]
        try rw [show (4 : Int).toNat = 4 from rfl]
        try simp only [zput_s, zput_n, ti_g, oI_add, oI_sub, oI_mul, zt0, zt1, zt2, zt3, zt4, zt5, zt6, e0_2, e0_3, e0_4, e0_11]
        have gl20 := And.intro (tg_lo t1 (sr sh r0 10) (4)) (tg_hi t1 (sr sh r0 10) (4))
        have gm20 := (f0.g).2.2.1 (4) (by omega)
        try simp only [zt0, zt1, zt2, zt3, zt4, zt5, zt6, e0_2, e0_3, e0_4, e0_11] at gl20
        try simp only [zt0, zt1, zt2, zt3, zt4, zt5, zt6, e0_2, e0_3, e0_4, e0_11] at gm20
        first | refine zok_ne (by omega) (fun c21 => ?_) (fun c21 => ?_) | refine zok_if (fun c21 => ?_) (fun c21 => ?_)
        · try simp only [zput_s, zput_n, ti_g, oI_add, oI_sub, oI_mul]
          exact l190_229 q0 (by omega) (by omega) d1 d2 G _ _ _ _ _ _ _ (f0) (by first | omega | ((try simp only [zt0, zt1, zt2, zt3, zt4, zt5, zt6, e0_2, e0_3, e0_4, e0_11]); omega)) (fun k hk => by ((try have c0 := hq1 k hk); (try have c0 := hq1 k); (try simp only [zt0, zt1, zt2, zt3, zt4, zt5, zt6] at *) <;> omega)) (Nat.lt_succ_self _)
        · first | refine zok_eq (by omega) (fun c22 => ?_) (fun c22 => ?_) | refine zok_if (fun c22 => ?_) (fun c22 => ?_)
          · refine zok_ck ((q0).1) ?_
            refine zok_c0 (s152 (q0) (by omega) (by omega) (by first | (omega) | ((try simp only [zt0, zt1, zt2, zt3, zt4, zt5, zt6, e0_2, e0_3, e0_4, e0_11]); omega)) (by first | (omega) | ((try simp only [zt0, zt1, zt2, zt3, zt4, zt5, zt6, e0_2, e0_3, e0_4, e0_11]); omega)) (f0.g)) (fun t23 p23 => ?_)
            obtain ⟨f23, p23⟩ := p23
            have e23_2 : ∀ k, tg t23 (sr sh r0 2) k = tg t1 (sr sh r0 2) k := fun k => f23.eq q0 (i := 2) (by decide) (by decide) k
            have e23_3 : ∀ k, tg t23 (sr sh r0 3) k = tg t1 (sr sh r0 3) k := fun k => f23.eq q0 (i := 3) (by decide) (by decide) k
            have e23_4 : ∀ k, tg t23 (sr sh r0 4) k = tg t1 (sr sh r0 4) k := fun k => f23.eq q0 (i := 4) (by decide) (by decide) k
            have e23_11 : ∀ k, tg t23 (sr sh r0 11) k = tg t1 (sr sh r0 11) k := fun k => f23.eq q0 (i := 11) (by decide) (by decide) k
            try simp only [zt0, zt1, zt2, zt3, zt4, zt5, zt6, e0_2, e0_3, e0_4, e0_11, e23_2, e23_3, e23_4, e23_11] at p23
            simp only [zput_s, zput_n, ti_g, oI_add, oI_sub, oI_mul, zt0, zt1, zt2, zt3, zt4, zt5, zt6, e0_2, e0_3, e0_4, e0_11, e23_2, e23_3, e23_4, e23_11, b190_222]
            try simp only [zput_s, zput_n, ti_g, oI_add, oI_sub, oI_mul]
            refine zok_ck ((q0).1) ?_
            refine zok_c0 (s152 (q0) (by omega) (by omega) (by first | (omega) | ((try simp only [zt0, zt1, zt2, zt3, zt4, zt5, zt6, e0_2, e0_3, e0_4, e0_11, e23_2, e23_3, e23_4, e23_11]); omega)) (by first | (omega) | ((try simp only [zt0, zt1, zt2, zt3, zt4, zt5, zt6, e0_2, e0_3, e0_4, e0_11, e23_2, e23_3, e23_4, e23_11]); omega)) (f23.g)) (fun t25 p25 => ?_)
            obtain ⟨f25, p25⟩ := p25
            have e25_2 : ∀ k, tg t25 (sr sh r0 2) k = tg t23 (sr sh r0 2) k := fun k => f25.eq q0 (i := 2) (by decide) (by decide) k
            have e25_3 : ∀ k, tg t25 (sr sh r0 3) k = tg t23 (sr sh r0 3) k := fun k => f25.eq q0 (i := 3) (by decide) (by decide) k
            have e25_4 : ∀ k, tg t25 (sr sh r0 4) k = tg t23 (sr sh r0 4) k := fun k => f25.eq q0 (i := 4) (by decide) (by decide) k
            have e25_11 : ∀ k, tg t25 (sr sh r0 11) k = tg t23 (sr sh r0 11) k := fun k => f25.eq q0 (i := 11) (by decide) (by decide) k
            try simp only [zt0, zt1, zt2, zt3, zt4, zt5, zt6, e0_2, e0_3, e0_4, e0_11, e23_2, e23_3, e23_4, e23_11, e25_2, e25_3, e25_4, e25_11] at p25
            try simp only [zput_s, zput_n, ti_g, oI_add, oI_sub, oI_mul]
            exact l190_229 q0 (by omega) (by omega) d1 d2 G _ _ _ _ _ _ _ ((FrV.trans (Ns := [9, 10]) ((FrV.trans (Ns := [9, 10]) (f0) f23 (by decide) (by decide))) f25 (by decide) (by decide))) (by first | omega | ((try simp only [zt0, zt1, zt2, zt3, zt4, zt5, zt6, e0_2, e0_3, e0_4, e0_11, e23_2, e23_3, e23_4, e23_11, e25_2, e25_3, e25_4, e25_11]); omega)) (fun k hk => by ((try have c0 := hq1 k hk); (try have c0 := hq1 k); (have c1 := p23.2 k (by omega)); (have c6 := p25.2 k (by omega)); (try simp only [zt0, zt1, zt2, zt3, zt4, zt5, zt6] at *) <;> omega)) (Nat.lt_succ_self _)
          · first | refine zok_eq (by omega) (fun c26 => ?_) (fun c26 => ?_) | refine zok_if (fun c26 => ?_) (fun c26 => ?_)
            · refine zok_ck ((q0).1) ?_
              refine zok_c0 (s152 (q0) (by omega) (by omega) (by first | (omega) | ((try simp only [zt0, zt1, zt2, zt3, zt4, zt5, zt6, e0_2, e0_3, e0_4, e0_11]); omega)) (by first | (omega) | ((try simp only [zt0, zt1, zt2, zt3, zt4, zt5, zt6, e0_2, e0_3, e0_4, e0_11]); omega)) (f0.g)) (fun t27 p27 => ?_)
              obtain ⟨f27, p27⟩ := p27
              have e27_2 : ∀ k, tg t27 (sr sh r0 2) k = tg t1 (sr sh r0 2) k := fun k => f27.eq q0 (i := 2) (by decide) (by decide) k
              have e27_3 : ∀ k, tg t27 (sr sh r0 3) k = tg t1 (sr sh r0 3) k := fun k => f27.eq q0 (i := 3) (by decide) (by decide) k
              have e27_4 : ∀ k, tg t27 (sr sh r0 4) k = tg t1 (sr sh r0 4) k := fun k => f27.eq q0 (i := 4) (by decide) (by decide) k
              have e27_11 : ∀ k, tg t27 (sr sh r0 11) k = tg t1 (sr sh r0 11) k := fun k => f27.eq q0 (i := 11) (by decide) (by decide) k
              try simp only [zt0, zt1, zt2, zt3, zt4, zt5, zt6, e0_2, e0_3, e0_4, e0_11, e27_2, e27_3, e27_4, e27_11] at p27
              simp only [zput_s, zput_n, ti_g, oI_add, oI_sub, oI_mul, zt0, zt1, zt2, zt3, zt4, zt5, zt6, e0_2, e0_3, e0_4, e0_11, e27_2, e27_3, e27_4, e27_11, b190_222]
              try simp only [zput_s, zput_n, ti_g, oI_add, oI_sub, oI_mul]
              refine zok_ck ((q0).1) ?_
              refine zok_c0 (s152 (q0) (by omega) (by omega) (by first | (omega) | ((try simp only [zt0, zt1, zt2, zt3, zt4, zt5, zt6, e0_2, e0_3, e0_4, e0_11, e27_2, e27_3, e27_4, e27_11]); omega)) (by first | (omega) | ((try simp only [zt0, zt1, zt2, zt3, zt4, zt5, zt6, e0_2, e0_3, e0_4, e0_11, e27_2, e27_3, e27_4, e27_11]); omega)) (f27.g)) (fun t29 p29 => ?_)
              obtain ⟨f29, p29⟩ := p29
              have e29_2 : ∀ k, tg t29 (sr sh r0 2) k = tg t27 (sr sh r0 2) k := fun k => f29.eq q0 (i := 2) (by decide) (by decide) k
              have e29_3 : ∀ k, tg t29 (sr sh r0 3) k = tg t27 (sr sh r0 3) k := fun k => f29.eq q0 (i := 3) (by decide) (by decide) k
              have e29_4 : ∀ k, tg t29 (sr sh r0 4) k = tg t27 (sr sh r0 4) k := fun k => f29.eq q0 (i := 4) (by decide) (by decide) k
              have e29_11 : ∀ k, tg t29 (sr sh r0 11) k = tg t27 (sr sh r0 11) k := fun k => f29.eq q0 (i := 11) (by decide) (by decide) k
              try simp only [zt0, zt1, zt2, zt3, zt4, zt5, zt6, e0_2, e0_3, e0_4, e0_11, e27_2, e27_3, e27_4, e27_11, e29_2, e29_3, e29_4, e29_11] at p29
              try simp only [zput_s, zput_n, ti_g, oI_add, oI_sub, oI_mul]
              exact l190_229 q0 (by omega) (by omega) d1 d2 G _ _ _ _ _ _ _ ((FrV.trans (Ns := [9, 10]) ((FrV.trans (Ns := [9, 10]) (f0) f27 (by decide) (by decide))) f29 (by decide) (by decide))) (by first | omega | ((try simp only [zt0, zt1, zt2, zt3, zt4, zt5, zt6, e0_2, e0_3, e0_4, e0_11, e27_2, e27_3, e27_4, e27_11, e29_2, e29_3, e29_4, e29_11]); omega)) (fun k hk => by ((try have c0 := hq1 k hk); (try have c0 := hq1 k); (have c1 := p27.2 k (by omega)); (have c6 := p29.2 k (by omega)); (try simp only [zt0, zt1, zt2, zt3, zt4, zt5, zt6] at *) <;> omega)) (Nat.lt_succ_self _)
            · first | refine zok_eq (by omega) (fun c30 => ?_) (fun c30 => ?_) | refine zok_if (fun c30 => ?_) (fun c30 => ?_)
              · try simp only [zput_s, zput_n, ti_g, oI_add, oI_sub, oI_mul]
                exact l190_229 q0 (by omega) (by omega) d1 d2 G _ _ _ _ _ _ _ (f0) (by first | omega | ((try simp only [zt0, zt1, zt2, zt3, zt4, zt5, zt6, e0_2, e0_3, e0_4, e0_11]); omega)) (fun k hk => by ((try have c0 := hq1 k hk); (try have c0 := hq1 k); (try simp only [zt0, zt1, zt2, zt3, zt4, zt5, zt6] at *) <;> omega)) (Nat.lt_succ_self _)
              · refine zok_ck ((q0).1) ?_
                refine zok_c0 (s152 (q0) (by omega) (by omega) (by first | (omega) | ((try simp only [zt0, zt1, zt2, zt3, zt4, zt5, zt6, e0_2, e0_3, e0_4, e0_11]); omega)) (by first | (omega) | ((try simp only [zt0, zt1, zt2, zt3, zt4, zt5, zt6, e0_2, e0_3, e0_4, e0_11]); omega)) (f0.g)) (fun t31 p31 => ?_)
                obtain ⟨f31, p31⟩ := p31
                have e31_2 : ∀ k, tg t31 (sr sh r0 2) k = tg t1 (sr sh r0 2) k := fun k => f31.eq q0 (i := 2) (by decide) (by decide) k
                have e31_3 : ∀ k, tg t31 (sr sh r0 3) k = tg t1 (sr sh r0 3) k := fun k => f31.eq q0 (i := 3) (by decide) (by decide) k
                have e31_4 : ∀ k, tg t31 (sr sh r0 4) k = tg t1 (sr sh r0 4) k := fun k => f31.eq q0 (i := 4) (by decide) (by decide) k
                have e31_11 : ∀ k, tg t31 (sr sh r0 11) k = tg t1 (sr sh r0 11) k := fun k => f31.eq q0 (i := 11) (by decide) (by decide) k
                try simp only [zt0, zt1, zt2, zt3, zt4, zt5, zt6, e0_2, e0_3, e0_4, e0_11, e31_2, e31_3, e31_4, e31_11] at p31
                simp only [zput_s, zput_n, ti_g, oI_add, oI_sub, oI_mul, zt0, zt1, zt2, zt3, zt4, zt5, zt6, e0_2, e0_3, e0_4, e0_11, e31_2, e31_3, e31_4, e31_11, b190_222]
                try simp only [zput_s, zput_n, ti_g, oI_add, oI_sub, oI_mul]
                refine zok_ck ((q0).1) ?_
                refine zok_c0 (s152 (q0) (by omega) (by omega) (by first | (omega) | ((try simp only [zt0, zt1, zt2, zt3, zt4, zt5, zt6, e0_2, e0_3, e0_4, e0_11, e31_2, e31_3, e31_4, e31_11]); omega)) (by first | (omega) | ((try simp only [zt0, zt1, zt2, zt3, zt4, zt5, zt6, e0_2, e0_3, e0_4, e0_11, e31_2, e31_3, e31_4, e31_11]); omega)) (f31.g)) (fun t33 p33 => ?_)
                obtain ⟨f33, p33⟩ := p33
                have e33_2 : ∀ k, tg t33 (sr sh r0 2) k = tg t31 (sr sh r0 2) k := fun k => f33.eq q0 (i := 2) (by decide) (by decide) k
                have e33_3 : ∀ k, tg t33 (sr sh r0 3) k = tg t31 (sr sh r0 3) k := fun k => f33.eq q0 (i := 3) (by decide) (by decide) k
                have e33_4 : ∀ k, tg t33 (sr sh r0 4) k = tg t31 (sr sh r0 4) k := fun k => f33.eq q0 (i := 4) (by decide) (by decide) k
                have e33_11 : ∀ k, tg t33 (sr sh r0 11) k = tg t31 (sr sh r0 11) k := fun k => f33.eq q0 (i := 11) (by decide) (by decide) k
                try simp only [zt0, zt1, zt2, zt3, zt4, zt5, zt6, e0_2, e0_3, e0_4, e0_11, e31_2, e31_3, e31_4, e31_11, e33_2, e33_3, e33_4, e33_11] at p33
                try simp only [zput_s, zput_n, ti_g, oI_add, oI_sub, oI_mul]
                exact l190_229 q0 (by omega) (by omega) d1 d2 G _ _ _ _ _ _ _ ((FrV.trans (Ns := [9, 10]) ((FrV.trans (Ns := [9, 10]) (f0) f31 (by decide) (by decide))) f33 (by decide) (by decide))) (by first | omega | ((try simp only [zt0, zt1, zt2, zt3, zt4, zt5, zt6, e0_2, e0_3, e0_4, e0_11, e31_2, e31_3, e31_4, e31_11, e33_2, e33_3, e33_4, e33_11]); omega)) (fun k hk => by ((try have c0 := hq1 k hk); (try have c0 := hq1 k); (have c1 := p31.2 k (by omega)); (have c6 := p33.2 k (by omega)); (try simp only [zt0, zt1, zt2, zt3, zt4, zt5, zt6] at *) <;> omega)) (Nat.lt_succ_self _)
      · first | refine zok_ne (by omega) (fun c34 => ?_) (fun c34 => ?_) | refine zok_if (fun c34 => ?_) (fun c34 => ?_)
        · try simp only [zput_s, zput_n, ti_g, oI_add, oI_sub, oI_mul]
          exact ih _ _ _ _ _ _ (f0) (by first | omega | ((try simp only [zt0, zt1, zt2, zt3, zt4, zt5, zt6, e0_2, e0_3, e0_4, e0_11]); omega)) (fun k hk => by ((try have c0 := hq1 k hk); (try have c0 := hq1 k); (try simp only [zt0, zt1, zt2, zt3, zt4, zt5, zt6] at *) <;> omega)) (by first | omega | ((try simp only [zt0, zt1, zt2, zt3, zt4, zt5, zt6, e0_2, e0_3, e0_4, e0_11]); omega))
        · refine zok_ck ((q0).1) ?_
          refine zok_pI (s136 (q0) (by omega) (by omega) (by omega) (by first | (omega) | ((try simp only [zt0, zt1, zt2, zt3, zt4, zt5, zt6, e0_2, e0_3, e0_4, e0_11]); omega)) (by first | (omega) | ((try simp only [zt0, zt1, zt2, zt3, zt4, zt5, zt6, e0_2, e0_3, e0_4, e0_11]); omega)) (by first | (omega) | ((try simp only [zt0, zt1, zt2, zt3, zt4, zt5, zt6, e0_2, e0_3, e0_4, e0_11]); omega)) (f0.g)) (fun y35 u35 p35 => ?_)
          try simp only [zt0, zt1, zt2, zt3, zt4, zt5, zt6, e0_2, e0_3, e0_4, e0_11] at p35
          simp only [zput_s, zput_n, ti_g, oI_add, oI_sub, oI_mul, zt0, zt1, zt2, zt3, zt4, zt5, zt6, e0_2, e0_3, e0_4, e0_11, b190_171]
          try simp only [zput_s, zput_n, ti_g, oI_add, oI_sub, oI_mul]
          first | refine zok_ne (by omega) (fun c37 => ?_) (fun c37 => ?_) | refine zok_if (fun c37 => ?_) (fun c37 => ?_)
          · try simp only [zput_s, zput_n, ti_g, oI_add, oI_sub, oI_mul]
            exact ih _ _ _ _ _ _ (f0) (by first | omega | ((try simp only [zt0, zt1, zt2, zt3, zt4, zt5, zt6, e0_2, e0_3, e0_4, e0_11]); omega)) (fun k hk => by ((try have c0 := hq1 k hk); (try have c0 := hq1 k); (try simp only [zt0, zt1, zt2, zt3, zt4, zt5, zt6] at *) <;> omega)) (by first | omega | ((try simp only [zt0, zt1, zt2, zt3, zt4, zt5, zt6, e0_2, e0_3, e0_4, e0_11]); omega))
          · try simp only [zput_s, zput_n, ti_g, oI_add, oI_sub, oI_mul]
            exact ih _ _ _ _ _ _ (f0) (by first | omega | ((try simp only [zt0, zt1, zt2, zt3, zt4, zt5, zt6, e0_2, e0_3, e0_4, e0_11]); omega)) (fun k hk => by ((try have c0 := hq1 k hk); (try have c0 := hq1 k); (try simp only [zt0, zt1, zt2, zt3, zt4, zt5, zt6] at *) <;> omega)) (by first | omega | ((try simp only [zt0, zt1, zt2, zt3, zt4, zt5, zt6, e0_2, e0_3, e0_4, e0_11]); omega))
theorem l190_77 {sh : zSh} {t0 : zSt} {MB : Nat} {r0 : Nat} (q0 : zMd sh MB r0) {x1 : Int} (u1 : -2147483648 ≤ x1 ∧ x1 ≤ 2147483647) {x2 : Int} (u2 : -2147483648 ≤ x2 ∧ x2 ≤ 2147483647) (d1 : 0 ≤ x1 ∧ x1 ≤ 13 ∧ x1 ≠ 12) (d2 : 0 ≤ x2 ∧ x2 ≤ 13 ∧ x2 ≠ 12) (G : GI sh r0 t0) : ∀ (n : Nat) (x3 : Int) (x4 : Int) (x5 : Int)  (t1 : zSt), FrV sh r0 [9, 10] t0 t1 → (-2147483648 ≤ x3 ∧ x3 ≤ 2147483647) ∧ (-2147483648 ≤ x4 ∧ x4 ≤ 2147483647) ∧ (-2147483648 ≤ x5 ∧ x5 ≤ 2147483647) ∧ (0 ≤ x3 ∧ x3 ≤ x5 ∧ x5 ≤ x4 ∧ x4 = (tg t1 (sr sh r0 4) (7 * x1 + 4).toNat - tg t1 (sr sh r0 3) (7 * x1 + 4).toNat)) ∧ (tg t1 (sr sh r0 10) 4 ≤ 3 * (x5 - x3)) → (∀ k, k ≠ 4 → tg t1 (sr sh r0 10) k = tg t0 (sr sh r0 10) k) → (x4 - x5).toNat < n → zok (zev zP 190 77 [some (zR r0), some (zI (oI x1)), some (zI (oI x2)), some (zI (oI x3)), some (zI (oI x4)), some (zI (oI x5)), none, none, none] [] (sh, t1)) (zq0 (fun t' => FrV sh r0 [9, 10] t0 t' ∧ (tg t' (sr sh r0 10) 4 ≤ 1610 ∧ ∀ k, k ≠ 4 → tg t' (sr sh r0 10) k = tg t0 (sr sh r0 10) k)) sh) := by
  intro n
  induction n with
  | zero => intro x3 x4 x5  t1 f0 _ _ hm; omega
  | succ n ih =>
    intro x3 x4 x5  t1 f0 hv hq1 hm
    have ha0_1 : (sk sh (sr sh r0 1)).2 = 21000 := by rw [q0.2.2.2.2.1]
    have ha0_2 : (sk sh (sr sh r0 2)).2 = 14 := by rw [q0.2.2.2.2.2.1]
    have ha0_3 : (sk sh (sr sh r0 3)).2 = 98 := by rw [q0.2.2.2.2.2.2.1]
    have ha0_4 : (sk sh (sr sh r0 4)).2 = 98 := by rw [q0.2.2.2.2.2.2.2.1]
    have ha0_8 : (sk sh (sr sh r0 8)).2 = 1500 := by rw [q0.2.2.2.2.2.2.2.2.1]
    have ha0_9 : (sk sh (sr sh r0 9)).2 = 10500 := by rw [q0.2.2.2.2.2.2.2.2.2.1]
    have ha0_10 : (sk sh (sr sh r0 10)).2 = 7 := by rw [q0.2.2.2.2.2.2.2.2.2.2.1]
    have ha0_11 : (sk sh (sr sh r0 11)).2 = 7 := by rw [q0.2.2.2.2.2.2.2.2.2.2.2.1]
    have ha0_12 : (sk sh (sr sh r0 12)).2 = 1500 := by rw [q0.2.2.2.2.2.2.2.2.2.2.2.2.1]
    have ha0_13 : (sk sh (sr sh r0 13)).2 = 1500 := by rw [q0.2.2.2.2.2.2.2.2.2.2.2.2.2.1]
    have ha0_14 : (sk sh (sr sh r0 14)).2 = 20 := by rw [q0.2.2.2.2.2.2.2.2.2.2.2.2.2.2]
    have e0_2 : ∀ k, tg t1 (sr sh r0 2) k = tg t0 (sr sh r0 2) k := fun k => f0.eq q0 (i := 2) (by decide) (by decide) k
    have e0_3 : ∀ k, tg t1 (sr sh r0 3) k = tg t0 (sr sh r0 3) k := fun k => f0.eq q0 (i := 3) (by decide) (by decide) k
    have e0_4 : ∀ k, tg t1 (sr sh r0 4) k = tg t0 (sr sh r0 4) k := fun k => f0.eq q0 (i := 4) (by decide) (by decide) k
    have e0_11 : ∀ k, tg t1 (sr sh r0 11) k = tg t0 (sr sh r0 11) k := fun k => f0.eq q0 (i := 11) (by decide) (by decide) k
    try simp only [zt0, zt1, zt2, zt3, zt4, zt5, zt6, e0_2, e0_3, e0_4, e0_11] at hv
    try simp only [zt0, zt1, zt2, zt3, zt4, zt5, zt6, e0_2, e0_3, e0_4, e0_11] at hm
    have gz := (f0.g).2.1 (7 * x1 + 4).toNat (by omega)
    try simp only [zt0, zt1, zt2, zt3, zt4, zt5, zt6, e0_2, e0_3, e0_4, e0_11] at gz
    have gy := (f0.g).2.1 (7 * x2 + 4).toNat (by omega)
    try simp only [zt0, zt1, zt2, zt3, zt4, zt5, zt6, e0_2, e0_3, e0_4, e0_11] at gy
    rw [b190_77]
    try simp only [zput_s, zput_n, ti_g, oI_add, oI_sub, oI_mul]
    first | refine zok_le (by omega) (fun c2 => ?_) (fun c2 => ?_) | refine zok_if (fun c2 => ?_) (fun c2 => ?_)
    · refine zok_ck ((q0).1) ?_
      refine zok_pI (s135 (q0) (by omega) (by omega) (by first | (omega) | ((try simp only [zt0, zt1, zt2, zt3, zt4, zt5, zt6, e0_2, e0_3, e0_4, e0_11]); omega)) (by first | (omega) | ((try simp only [zt0, zt1, zt2, zt3, zt4, zt5, zt6, e0_2, e0_3, e0_4, e0_11]); omega)) (f0.g)) (fun y3 u3 p3 => ?_)
      try simp only [zt0, zt1, zt2, zt3, zt4, zt5, zt6, e0_2, e0_3, e0_4, e0_11] at p3
      simp only [zput_s, zput_n, ti_g, oI_add, oI_sub, oI_mul, zt0, zt1, zt2, zt3, zt4, zt5, zt6, e0_2, e0_3, e0_4, e0_11, b190_130]
      try simp only [zput_s, zput_n, ti_g, oI_add, oI_sub, oI_mul]
      try simp only [zput_s, zput_n, ti_g, oI_add, oI_sub, oI_mul]
      exact l190_138 q0 (by omega) (by omega) d1 d2 G _ _ _ _ _ _ _ (f0) (by first | omega | ((try simp only [zt0, zt1, zt2, zt3, zt4, zt5, zt6, e0_2, e0_3, e0_4, e0_11]); omega)) (fun k hk => by ((try have c0 := hq1 k hk); (try have c0 := hq1 k); (try simp only [zt0, zt1, zt2, zt3, zt4, zt5, zt6] at *) <;> omega)) (Nat.lt_succ_self _)
    · refine zok_ck ((q0).1) ?_
      refine zok_pI (s136 (q0) (by omega) (by omega) (by omega) (by first | (omega) | ((try simp only [zt0, zt1, zt2, zt3, zt4, zt5, zt6, e0_2, e0_3, e0_4, e0_11]); omega)) (by first | (omega) | ((try simp only [zt0, zt1, zt2, zt3, zt4, zt5, zt6, e0_2, e0_3, e0_4, e0_11]); omega)) (by first | (omega) | ((try simp only [zt0, zt1, zt2, zt3, zt4, zt5, zt6, e0_2, e0_3, e0_4, e0_11]); omega)) (f0.g)) (fun y5 u5 p5 => ?_)
      try simp only [zt0, zt1, zt2, zt3, zt4, zt5, zt6, e0_2, e0_3, e0_4, e0_11] at p5
      simp only [zput_s, zput_n, ti_g, oI_add, oI_sub, oI_mul, zt0, zt1, zt2, zt3, zt4, zt5, zt6, e0_2, e0_3, e0_4, e0_11, b190_92]
      try simp only [zput_s, zput_n, ti_g, oI_add, oI_sub, oI_mul]
      first | refine zok_ne (by omega) (fun c7 => ?_) (fun c7 => ?_) | refine zok_if (fun c7 => ?_) (fun c7 => ?_)
      · simp only [zput_s, zput_n, ti_g, oI_add, oI_sub, oI_mul, zt0, zt1, zt2, zt3, zt4, zt5, zt6, e0_2, e0_3, e0_4, e0_11, b190_118]
        try simp only [zput_s, zput_n, ti_g, oI_add, oI_sub, oI_mul]
        try simp only [zput_s, zput_n, ti_g, oI_add, oI_sub, oI_mul]
        exact ih _ _ _ _ (f0) (by first | omega | ((try simp only [zt0, zt1, zt2, zt3, zt4, zt5, zt6, e0_2, e0_3, e0_4, e0_11]); omega)) (fun k hk => by ((try have c0 := hq1 k hk); (try have c0 := hq1 k); (try simp only [zt0, zt1, zt2, zt3, zt4, zt5, zt6] at *) <;> omega)) (by first | omega | ((try simp only [zt0, zt1, zt2, zt3, zt4, zt5, zt6, e0_2, e0_3, e0_4, e0_11]); omega))
      · refine zok_ck ((q0).1) ?_
        refine zok_c0 (s152 (q0) (by omega) (by omega) (by first | (omega) | ((try simp only [zt0, zt1, zt2, zt3, zt4, zt5, zt6, e0_2, e0_3, e0_4, e0_11]); omega)) (by first | (omega) | ((try simp only [zt0, zt1, zt2, zt3, zt4, zt5, zt6, e0_2, e0_3, e0_4, e0_11]); omega)) (f0.g)) (fun t9 p9 => ?_)
        obtain ⟨f9, p9⟩ := p9
        have e9_2 : ∀ k, tg t9 (sr sh r0 2) k = tg t1 (sr sh r0 2) k := fun k => f9.eq q0 (i := 2) (by decide) (by decide) k
        have e9_3 : ∀ k, tg t9 (sr sh r0 3) k = tg t1 (sr sh r0 3) k := fun k => f9.eq q0 (i := 3) (by decide) (by decide) k
        have e9_4 : ∀ k, tg t9 (sr sh r0 4) k = tg t1 (sr sh r0 4) k := fun k => f9.eq q0 (i := 4) (by decide) (by decide) k
        have e9_11 : ∀ k, tg t9 (sr sh r0 11) k = tg t1 (sr sh r0 11) k := fun k => f9.eq q0 (i := 11) (by decide) (by decide) k
        try simp only [zt0, zt1, zt2, zt3, zt4, zt5, zt6, e0_2, e0_3, e0_4, e0_11, e9_2, e9_3, e9_4, e9_11] at p9
        simp only [zput_s, zput_n, ti_g, oI_add, oI_sub, oI_mul, zt0, zt1, zt2, zt3, zt4, zt5, zt6, e0_2, e0_3, e0_4, e0_11, e9_2, e9_3, e9_4, e9_11, b190_104]
        try simp only [zput_s, zput_n, ti_g, oI_add, oI_sub, oI_mul]
        refine zok_ck ((q0).1) ?_
        refine zok_c0 (s152 (q0) (by omega) (by omega) (by first | (omega) | ((try simp only [zt0, zt1, zt2, zt3, zt4, zt5, zt6, e0_2, e0_3, e0_4, e0_11, e9_2, e9_3, e9_4, e9_11]); omega)) (by first | (omega) | ((try simp only [zt0, zt1, zt2, zt3, zt4, zt5, zt6, e0_2, e0_3, e0_4, e0_11, e9_2, e9_3, e9_4, e9_11]); omega)) (f9.g)) (fun t11 p11 => ?_)
        obtain ⟨f11, p11⟩ := p11
        have e11_2 : ∀ k, tg t11 (sr sh r0 2) k = tg t9 (sr sh r0 2) k := fun k => f11.eq q0 (i := 2) (by decide) (by decide) k
        have e11_3 : ∀ k, tg t11 (sr sh r0 3) k = tg t9 (sr sh r0 3) k := fun k => f11.eq q0 (i := 3) (by decide) (by decide) k
        have e11_4 : ∀ k, tg t11 (sr sh r0 4) k = tg t9 (sr sh r0 4) k := fun k => f11.eq q0 (i := 4) (by decide) (by decide) k
        have e11_11 : ∀ k, tg t11 (sr sh r0 11) k = tg t9 (sr sh r0 11) k := fun k => f11.eq q0 (i := 11) (by decide) (by decide) k
        try simp only [zt0, zt1, zt2, zt3, zt4, zt5, zt6, e0_2, e0_3, e0_4, e0_11, e9_2, e9_3, e9_4, e9_11, e11_2, e11_3, e11_4, e11_11] at p11
        simp only [zput_s, zput_n, ti_g, oI_add, oI_sub, oI_mul, zt0, zt1, zt2, zt3, zt4, zt5, zt6, e0_2, e0_3, e0_4, e0_11, e9_2, e9_3, e9_4, e9_11, e11_2, e11_3, e11_4, e11_11, b190_111]
        try simp only [zput_s, zput_n, ti_g, oI_add, oI_sub, oI_mul]
        refine zok_ck ((q0).1) ?_
        refine zok_c0 (s152 (q0) (by omega) (by omega) (by first | (omega) | ((try simp only [zt0, zt1, zt2, zt3, zt4, zt5, zt6, e0_2, e0_3, e0_4, e0_11, e9_2, e9_3, e9_4, e9_11, e11_2, e11_3, e11_4, e11_11]); omega)) (by first | (omega) | ((try simp only [zt0, zt1, zt2, zt3, zt4, zt5, zt6, e0_2, e0_3, e0_4, e0_11, e9_2, e9_3, e9_4, e9_11, e11_2, e11_3, e11_4, e11_11]); omega)) (f11.g)) (fun t13 p13 => ?_)
        obtain ⟨f13, p13⟩ := p13
        have e13_2 : ∀ k, tg t13 (sr sh r0 2) k = tg t11 (sr sh r0 2) k := fun k => f13.eq q0 (i := 2) (by decide) (by decide) k
        have e13_3 : ∀ k, tg t13 (sr sh r0 3) k = tg t11 (sr sh r0 3) k := fun k => f13.eq q0 (i := 3) (by decide) (by decide) k
        have e13_4 : ∀ k, tg t13 (sr sh r0 4) k = tg t11 (sr sh r0 4) k := fun k => f13.eq q0 (i := 4) (by decide) (by decide) k
        have e13_11 : ∀ k, tg t13 (sr sh r0 11) k = tg t11 (sr sh r0 11) k := fun k => f13.eq q0 (i := 11) (by decide) (by decide) k
        try simp only [zt0, zt1, zt2, zt3, zt4, zt5, zt6, e0_2, e0_3, e0_4, e0_11, e9_2, e9_3, e9_4, e9_11, e11_2, e11_3, e11_4, e11_11, e13_2, e13_3, e13_4, e13_11] at p13
        simp only [zput_s, zput_n, ti_g, oI_add, oI_sub, oI_mul, zt0, zt1, zt2, zt3, zt4, zt5, zt6, e0_2, e0_3, e0_4, e0_11, e9_2, e9_3, e9_4, e9_11, e11_2, e11_3, e11_4, e11_11, e13_2, e13_3, e13_4, e13_11, b190_118]
        try simp only [zput_s, zput_n, ti_g, oI_add, oI_sub, oI_mul]
        try simp only [zput_s, zput_n, ti_g, oI_add, oI_sub, oI_mul]
        exact ih _ _ _ _ ((FrV.trans (Ns := [9, 10]) ((FrV.trans (Ns := [9, 10]) ((FrV.trans (Ns := [9, 10]) (f0) f9 (by decide) (by decide))) f11 (by decide) (by decide))) f13 (by decide) (by decide))) (by first | omega | ((try simp only [zt0, zt1, zt2, zt3, zt4, zt5, zt6, e0_2, e0_3, e0_4, e0_11, e9_2, e9_3, e9_4, e9_11, e11_2, e11_3, e11_4, e11_11, e13_2, e13_3, e13_4, e13_11]); omega)) (fun k hk => by ((try have c0 := hq1 k hk); (try have c0 := hq1 k); (have c1 := p9.2 k (by omega)); (have c6 := p11.2 k (by omega)); (have c11 := p13.2 k (by omega)); (try simp only [zt0, zt1, zt2, zt3, zt4, zt5, zt6] at *) <;> omega)) (by first | omega | ((try simp only [zt0, zt1, zt2, zt3, zt4, zt5, zt6, e0_2, e0_3, e0_4, e0_11, e9_2, e9_3, e9_4, e9_11, e11_2, e11_3, e11_4, e11_11, e13_2, e13_3, e13_4, e13_11]); omega))
theorem l190_13 {sh : zSh} {t0 : zSt} {MB : Nat} {r0 : Nat} (q0 : zMd sh MB r0) {x1 : Int} (u1 : -2147483648 ≤ x1 ∧ x1 ≤ 2147483647) {x2 : Int} (u2 : -2147483648 ≤ x2 ∧ x2 ≤ 2147483647) (d1 : 0 ≤ x1 ∧ x1 ≤ 13 ∧ x1 ≠ 12) (d2 : 0 ≤ x2 ∧ x2 ≤ 13 ∧ x2 ≠ 12) (G : GI sh r0 t0) : ∀ (n : Nat) (x3 : Int) (x4 : Int) (x5 : Int)  (t1 : zSt), FrV sh r0 [9, 10] t0 t1 → (-2147483648 ≤ x3 ∧ x3 ≤ 2147483647) ∧ (-2147483648 ≤ x4 ∧ x4 ≤ 2147483647) ∧ (-2147483648 ≤ x5 ∧ x5 ≤ 2147483647) ∧ (0 ≤ x3 ∧ x3 ≤ x5 ∧ x5 ≤ x4 ∧ x4 = (tg t1 (sr sh r0 4) (7 * x1 + 4).toNat - tg t1 (sr sh r0 3) (7 * x1 + 4).toNat)) → (∀ k, k ≠ 4 → tg t1 (sr sh r0 10) k = tg t0 (sr sh r0 10) k) → (x4 - x5).toNat < n → zok (zev zP 190 13 [some (zR r0), some (zI (oI x1)), some (zI (oI x2)), some (zI (oI x3)), some (zI (oI x4)), some (zI (oI x5)), none, none, none] [] (sh, t1)) (zq0 (fun t' => FrV sh r0 [9, 10] t0 t' ∧ (tg t' (sr sh r0 10) 4 ≤ 1610 ∧ ∀ k, k ≠ 4 → tg t' (sr sh r0 10) k = tg t0 (sr sh r0 10) k)) sh) := by
  intro n
  induction n with
  | zero => intro x3 x4 x5  t1 f0 _ _ hm; omega
  | succ n ih =>
    intro x3 x4 x5  t1 f0 hv hq1 hm
    have ha0_1 : (sk sh (sr sh r0 1)).2 = 21000 := by rw [q0.2.2.2.2.1]
    have ha0_2 : (sk sh (sr sh r0 2)).2 = 14 := by rw [q0.2.2.2.2.2.1]
    have ha0_3 : (sk sh (sr sh r0 3)).2 = 98 := by rw [q0.2.2.2.2.2.2.1]
    have ha0_4 : (sk sh (sr sh r0 4)).2 = 98 := by rw [q0.2.2.2.2.2.2.2.1]
    have ha0_8 : (sk sh (sr sh r0 8)).2 = 1500 := by rw [q0.2.2.2.2.2.2.2.2.1]
    have ha0_9 : (sk sh (sr sh r0 9)).2 = 10500 := by rw [q0.2.2.2.2.2.2.2.2.2.1]
    have ha0_10 : (sk sh (sr sh r0 10)).2 = 7 := by rw [q0.2.2.2.2.2.2.2.2.2.2.1]
    have ha0_11 : (sk sh (sr sh r0 11)).2 = 7 := by rw [q0.2.2.2.2.2.2.2.2.2.2.2.1]
    have ha0_12 : (sk sh (sr sh r0 12)).2 = 1500 := by rw [q0.2.2.2.2.2.2.2.2.2.2.2.2.1]
    have ha0_13 : (sk sh (sr sh r0 13)).2 = 1500 := by rw [q0.2.2.2.2.2.2.2.2.2.2.2.2.2.1]
    have ha0_14 : (sk sh (sr sh r0 14)).2 = 20 := by rw [q0.2.2.2.2.2.2.2.2.2.2.2.2.2.2]
    have e0_2 : ∀ k, tg t1 (sr sh r0 2) k = tg t0 (sr sh r0 2) k := fun k => f0.eq q0 (i := 2) (by decide) (by decide) k
    have e0_3 : ∀ k, tg t1 (sr sh r0 3) k = tg t0 (sr sh r0 3) k := fun k => f0.eq q0 (i := 3) (by decide) (by decide) k
    have e0_4 : ∀ k, tg t1 (sr sh r0 4) k = tg t0 (sr sh r0 4) k := fun k => f0.eq q0 (i := 4) (by decide) (by decide) k
    have e0_11 : ∀ k, tg t1 (sr sh r0 11) k = tg t0 (sr sh r0 11) k := fun k => f0.eq q0 (i := 11) (by decide) (by decide) k
    try simp only [zt0, zt1, zt2, zt3, zt4, zt5, zt6, e0_2, e0_3, e0_4, e0_11] at hv
    try simp only [zt0, zt1, zt2, zt3, zt4, zt5, zt6, e0_2, e0_3, e0_4, e0_11] at hm
    have gz := (f0.g).2.1 (7 * x1 + 4).toNat (by omega)
    try simp only [zt0, zt1, zt2, zt3, zt4, zt5, zt6, e0_2, e0_3, e0_4, e0_11] at gz
    have gy := (f0.g).2.1 (7 * x2 + 4).toNat (by omega)
    try simp only [zt0, zt1, zt2, zt3, zt4, zt5, zt6, e0_2, e0_3, e0_4, e0_11] at gy
    rw [b190_13]
    try simp only [zput_s, zput_n, ti_g, oI_add, oI_sub, oI_mul]
    first | refine zok_le (by omega) (fun c2 => ?_) (fun c2 => ?_) | refine zok_if (fun c2 => ?_) (fun c2 => ?_)
    · refine zok_ck ((q0).1) ?_
      refine zok_ck ⟨(by rw [(q0).2.2.2.2.2.2.2.2.2.2.1]), zin_o (by omega) (by omega) (by omega)⟩ ?_
      try rw [nN_o (a := 4) (by omega) (by omega)]
      try rw [show (4 : Int).toNat = 4 from rfl]
      try simp only [zput_s, zput_n, ti_g, oI_add, oI_sub, oI_mul, zt0, zt1, zt2, zt3, zt4, zt5, zt6, e0_2, e0_3, e0_4, e0_11]
      obtain ⟨t3, ht3⟩ : ∃ t', t' = tI t1 (sr sh r0 10) (4) (oI (0)) := ⟨_, rfl⟩
      try simp only [zt0, zt1, zt2, zt3, zt4, zt5, zt6, e0_2, e0_3, e0_4, e0_11] at ht3
      rw [← ht3]
      have f3 : FrV sh r0 [10] t1 t3 := by rw [ht3]; exact GI_ls q0 (f0.g) (by omega) (by omega)
      have w3 : ∀ k, tg t3 (sr sh r0 10) k = if k = 4 then 0 else tg t1 (sr sh r0 10) k := fun k => by rw [ht3]; refine (tg_at (by omega)).trans ?_; first | rfl | simp only [zt0, zt1, zt2, zt3, zt4, zt5, zt6, e0_2, e0_3, e0_4, e0_11, true_and]
      have ws3 : tg t3 (sr sh r0 10) (4) = 0 := by rw [w3, if_pos rfl]
      try simp only [zt0, zt1, zt2, zt3, zt4, zt5, zt6, e0_2, e0_3, e0_4, e0_11] at w3
      try simp only [zt0, zt1, zt2, zt3, zt4, zt5, zt6, e0_2, e0_3, e0_4, e0_11] at ws3
      have e3_2 : ∀ k, tg t3 (sr sh r0 2) k = tg t1 (sr sh r0 2) k := fun k => f3.eq q0 (i := 2) (by decide) (by decide) k
      have e3_3 : ∀ k, tg t3 (sr sh r0 3) k = tg t1 (sr sh r0 3) k := fun k => f3.eq q0 (i := 3) (by decide) (by decide) k
      have e3_4 : ∀ k, tg t3 (sr sh r0 4) k = tg t1 (sr sh r0 4) k := fun k => f3.eq q0 (i := 4) (by decide) (by decide) k
      have e3_11 : ∀ k, tg t3 (sr sh r0 11) k = tg t1 (sr sh r0 11) k := fun k => f3.eq q0 (i := 11) (by decide) (by decide) k
      try simp only [zput_s, zput_n, ti_g, oI_add, oI_sub, oI_mul]
      exact l190_77 q0 (by omega) (by omega) d1 d2 G _ _ _ _ _ ((FrV.trans (Ns := [9, 10]) (f0) f3 (by decide) (by decide))) (by first | omega | ((try simp only [zt0, zt1, zt2, zt3, zt4, zt5, zt6, e0_2, e0_3, e0_4, e0_11, e3_2, e3_3, e3_4, e3_11]); omega)) (fun k hk => by ((try have c0 := hq1 k hk); (try have c0 := hq1 k); (have c1 := w3 k); (try simp only [zt0, zt1, zt2, zt3, zt4, zt5, zt6] at *) <;> omega)) (Nat.lt_succ_self _)
    · refine zok_ck ((q0).1) ?_
      refine zok_pI (s136 (q0) (by omega) (by omega) (by omega) (by first | (omega) | ((try simp only [zt0, zt1, zt2, zt3, zt4, zt5, zt6, e0_2, e0_3, e0_4, e0_11]); omega)) (by first | (omega) | ((try simp only [zt0, zt1, zt2, zt3, zt4, zt5, zt6, e0_2, e0_3, e0_4, e0_11]); omega)) (by first | (omega) | ((try simp only [zt0, zt1, zt2, zt3, zt4, zt5, zt6, e0_2, e0_3, e0_4, e0_11]); omega)) (f0.g)) (fun y4 u4 p4 => ?_)
      try simp only [zt0, zt1, zt2, zt3, zt4, zt5, zt6, e0_2, e0_3, e0_4, e0_11] at p4
      simp only [zput_s, zput_n, ti_g, oI_add, oI_sub, oI_mul, zt0, zt1, zt2, zt3, zt4, zt5, zt6, e0_2, e0_3, e0_4, e0_11, b190_28]
      try simp only [zput_s, zput_n, ti_g, oI_add, oI_sub, oI_mul]
      refine zok_ck ((q0).1) ?_
      refine zok_pI (s136 (q0) (by omega) (by omega) (by omega) (by first | (omega) | ((try simp only [zt0, zt1, zt2, zt3, zt4, zt5, zt6, e0_2, e0_3, e0_4, e0_11]); omega)) (by first | (omega) | ((try simp only [zt0, zt1, zt2, zt3, zt4, zt5, zt6, e0_2, e0_3, e0_4, e0_11]); omega)) (by first | (omega) | ((try simp only [zt0, zt1, zt2, zt3, zt4, zt5, zt6, e0_2, e0_3, e0_4, e0_11]); omega)) (f0.g)) (fun y6 u6 p6 => ?_)
      try simp only [zt0, zt1, zt2, zt3, zt4, zt5, zt6, e0_2, e0_3, e0_4, e0_11] at p6
      simp only [zput_s, zput_n, ti_g, oI_add, oI_sub, oI_mul, zt0, zt1, zt2, zt3, zt4, zt5, zt6, e0_2, e0_3, e0_4, e0_11, b190_36]
      try simp only [zput_s, zput_n, ti_g, oI_add, oI_sub, oI_mul]
      first | refine zok_ne (by omega) (fun c8 => ?_) (fun c8 => ?_) | refine zok_if (fun c8 => ?_) (fun c8 => ?_)
      · refine zok_ck ((q0).1) ?_
        refine zok_ck ⟨(by rw [(q0).2.2.2.2.2.2.2.2.2.2.1]), zin_o (by omega) (by omega) (by omega)⟩ ?_
        try rw [nN_o (a := 4) (by omega) (by omega)]
        try rw [show (4 : Int).toNat = 4 from rfl]
        try simp only [zput_s, zput_n, ti_g, oI_add, oI_sub, oI_mul, zt0, zt1, zt2, zt3, zt4, zt5, zt6, e0_2, e0_3, e0_4, e0_11]
        obtain ⟨t9, ht9⟩ : ∃ t', t' = tI t1 (sr sh r0 10) (4) (oI (0)) := ⟨_, rfl⟩
        try simp only [zt0, zt1, zt2, zt3, zt4, zt5, zt6, e0_2, e0_3, e0_4, e0_11] at ht9
        rw [← ht9]
        have f9 : FrV sh r0 [10] t1 t9 := by rw [ht9]; exact GI_ls q0 (f0.g) (by omega) (by omega)
        have w9 : ∀ k, tg t9 (sr sh r0 10) k = if k = 4 then 0 else tg t1 (sr sh r0 10) k := fun k => by rw [ht9]; refine (tg_at (by omega)).trans ?_; first | rfl | simp only [zt0, zt1, zt2, zt3, zt4, zt5, zt6, e0_2, e0_3, e0_4, e0_11, true_and]
        have ws9 : tg t9 (sr sh r0 10) (4) = 0 := by rw [w9, if_pos rfl]
        try simp only [zt0, zt1, zt2, zt3, zt4, zt5, zt6, e0_2, e0_3, e0_4, e0_11] at w9
        try simp only [zt0, zt1, zt2, zt3, zt4, zt5, zt6, e0_2, e0_3, e0_4, e0_11] at ws9
        have e9_2 : ∀ k, tg t9 (sr sh r0 2) k = tg t1 (sr sh r0 2) k := fun k => f9.eq q0 (i := 2) (by decide) (by decide) k
        have e9_3 : ∀ k, tg t9 (sr sh r0 3) k = tg t1 (sr sh r0 3) k := fun k => f9.eq q0 (i := 3) (by decide) (by decide) k
        have e9_4 : ∀ k, tg t9 (sr sh r0 4) k = tg t1 (sr sh r0 4) k := fun k => f9.eq q0 (i := 4) (by decide) (by decide) k
        have e9_11 : ∀ k, tg t9 (sr sh r0 11) k = tg t1 (sr sh r0 11) k := fun k => f9.eq q0 (i := 11) (by decide) (by decide) k
        try simp only [zput_s, zput_n, ti_g, oI_add, oI_sub, oI_mul]
        exact l190_77 q0 (by omega) (by omega) d1 d2 G _ _ _ _ _ ((FrV.trans (Ns := [9, 10]) (f0) f9 (by decide) (by decide))) (by first | omega | ((try simp only [zt0, zt1, zt2, zt3, zt4, zt5, zt6, e0_2, e0_3, e0_4, e0_11, e9_2, e9_3, e9_4, e9_11]); omega)) (fun k hk => by ((try have c0 := hq1 k hk); (try have c0 := hq1 k); (have c1 := w9 k); (try simp only [zt0, zt1, zt2, zt3, zt4, zt5, zt6] at *) <;> omega)) (Nat.lt_succ_self _)
      · refine zok_ck ((q0).1) ?_
        refine zok_pI (s136 (q0) (by omega) (by omega) (by omega) (by first | (omega) | ((try simp only [zt0, zt1, zt2, zt3, zt4, zt5, zt6, e0_2, e0_3, e0_4, e0_11]); omega)) (by first | (omega) | ((try simp only [zt0, zt1, zt2, zt3, zt4, zt5, zt6, e0_2, e0_3, e0_4, e0_11]); omega)) (by first | (omega) | ((try simp only [zt0, zt1, zt2, zt3, zt4, zt5, zt6, e0_2, e0_3, e0_4, e0_11]); omega)) (f0.g)) (fun y10 u10 p10 => ?_)
        try simp only [zt0, zt1, zt2, zt3, zt4, zt5, zt6, e0_2, e0_3, e0_4, e0_11] at p10
        simp only [zput_s, zput_n, ti_g, oI_add, oI_sub, oI_mul, zt0, zt1, zt2, zt3, zt4, zt5, zt6, e0_2, e0_3, e0_4, e0_11, b190_47]
        try simp only [zput_s, zput_n, ti_g, oI_add, oI_sub, oI_mul]
        first | refine zok_ne (by omega) (fun c12 => ?_) (fun c12 => ?_) | refine zok_if (fun c12 => ?_) (fun c12 => ?_)
        · try simp only [zput_s, zput_n, ti_g, oI_add, oI_sub, oI_mul]
          exact ih _ _ _ _ (f0) (by first | omega | ((try simp only [zt0, zt1, zt2, zt3, zt4, zt5, zt6, e0_2, e0_3, e0_4, e0_11]); omega)) (fun k hk => by ((try have c0 := hq1 k hk); (try have c0 := hq1 k); (try simp only [zt0, zt1, zt2, zt3, zt4, zt5, zt6] at *) <;> omega)) (by first | omega | ((try simp only [zt0, zt1, zt2, zt3, zt4, zt5, zt6, e0_2, e0_3, e0_4, e0_11]); omega))
        · try simp only [zput_s, zput_n, ti_g, oI_add, oI_sub, oI_mul]
          exact ih _ _ _ _ (f0) (by first | omega | ((try simp only [zt0, zt1, zt2, zt3, zt4, zt5, zt6, e0_2, e0_3, e0_4, e0_11]); omega)) (fun k hk => by ((try have c0 := hq1 k hk); (try have c0 := hq1 k); (try simp only [zt0, zt1, zt2, zt3, zt4, zt5, zt6] at *) <;> omega)) (by first | omega | ((try simp only [zt0, zt1, zt2, zt3, zt4, zt5, zt6, e0_2, e0_3, e0_4, e0_11]); omega))
theorem s190 {sh : zSh} {t : zSt} {MB : Nat} {r0 : Nat} (q0 : zMd sh MB r0) {x1 : Int} (u1 : -2147483648 ≤ x1 ∧ x1 ≤ 2147483647) {x2 : Int} (u2 : -2147483648 ≤ x2 ∧ x2 ≤ 2147483647) (d1 : 0 ≤ x1 ∧ x1 ≤ 13 ∧ x1 ≠ 12) (d2 : 0 ≤ x2 ∧ x2 ≤ 13 ∧ x2 ≠ 12) (G : GI sh r0 t) : zok (zcl zP 190 [zR r0, zI (oI x1), zI (oI x2)] (sh, t)) (zq0 (fun t' => FrV sh r0 [9, 10] t t' ∧ (tg t' (sr sh r0 10) 4 ≤ 1610 ∧ ∀ k, k ≠ 4 → tg t' (sr sh r0 10) k = tg t (sr sh r0 10) k)) sh) := by
  have ha0_1 : (sk sh (sr sh r0 1)).2 = 21000 := by rw [q0.2.2.2.2.1]
  have ha0_2 : (sk sh (sr sh r0 2)).2 = 14 := by rw [q0.2.2.2.2.2.1]
  have ha0_3 : (sk sh (sr sh r0 3)).2 = 98 := by rw [q0.2.2.2.2.2.2.1]
  have ha0_4 : (sk sh (sr sh r0 4)).2 = 98 := by rw [q0.2.2.2.2.2.2.2.1]
  have ha0_8 : (sk sh (sr sh r0 8)).2 = 1500 := by rw [q0.2.2.2.2.2.2.2.2.1]
  have ha0_9 : (sk sh (sr sh r0 9)).2 = 10500 := by rw [q0.2.2.2.2.2.2.2.2.2.1]
  have ha0_10 : (sk sh (sr sh r0 10)).2 = 7 := by rw [q0.2.2.2.2.2.2.2.2.2.2.1]
  have ha0_11 : (sk sh (sr sh r0 11)).2 = 7 := by rw [q0.2.2.2.2.2.2.2.2.2.2.2.1]
  have ha0_12 : (sk sh (sr sh r0 12)).2 = 1500 := by rw [q0.2.2.2.2.2.2.2.2.2.2.2.2.1]
  have ha0_13 : (sk sh (sr sh r0 13)).2 = 1500 := by rw [q0.2.2.2.2.2.2.2.2.2.2.2.2.2.1]
  have ha0_14 : (sk sh (sr sh r0 14)).2 = 20 := by rw [q0.2.2.2.2.2.2.2.2.2.2.2.2.2.2]
  have gz := G.2.1 (7 * x1 + 4).toNat (by omega)
  have gy := G.2.1 (7 * x2 + 4).toNat (by omega)
  rw [b190_0]
  try simp only [zput_s, zput_n, ti_g, oI_add, oI_sub, oI_mul]
  refine zok_ck ((q0).1) ?_
  refine zok_pI (s135 (q0) (by omega) (by omega) (by first | (omega) | ((try simp only [zt0, zt1, zt2, zt3, zt4, zt5, zt6]); omega)) (by first | (omega) | ((try simp only [zt0, zt1, zt2, zt3, zt4, zt5, zt6]); omega)) (G)) (fun y14 u14 p14 => ?_)
  try simp only [zt0, zt1, zt2, zt3, zt4, zt5, zt6] at p14
  simp only [zput_s, zput_n, ti_g, oI_add, oI_sub, oI_mul, zt0, zt1, zt2, zt3, zt4, zt5, zt6, b190_8]
  try simp only [zput_s, zput_n, ti_g, oI_add, oI_sub, oI_mul]
  try simp only [zput_s, zput_n, ti_g, oI_add, oI_sub, oI_mul]
  exact l190_13 q0 (by omega) (by omega) d1 d2 G _ _ _ _ _ (FrV.refl G) (by first | omega | ((try simp only [zt0, zt1, zt2, zt3, zt4, zt5, zt6]); omega)) (fun k hk => by ((try have c0 := hq1 k hk); (try have c0 := hq1 k); (try simp only [zt0, zt1, zt2, zt3, zt4, zt5, zt6] at *) <;> omega)) (Nat.lt_succ_self _)
