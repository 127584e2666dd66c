set_option maxRecDepth 16384
/-! X9_joinLong -/
theorem l202_4 {sh : zSh} {t0 : zSt} {MB : Nat} {r0 : Nat} (q0 : zMd sh MB r0) {x1 : Int} (u1 : -2147483648 ≤ x1 ∧ x1 ≤ 2147483647) (d1 : x1 = 8) (d2 : zJs sh r0 t0 7 ≤ 9000) (G : GI sh r0 t0) : ∀ (n : Nat) (x2 : Int) (x3 : Int)  (t1 : zSt), FrV sh r0 [1, 2] t0 t1 → (-2147483648 ≤ x2 ∧ x2 ≤ 2147483647) ∧ (-2147483648 ≤ x3 ∧ x3 ≤ 2147483647) ∧ (0 ≤ x3 ∧ x3 ≤ 7 ∧ 0 ≤ x2 ∧ x2 ≤ 3000 * x3) → (∀ k, k ≠ (x1).toNat → tg t1 (sr sh r0 2) k = tg t0 (sr sh r0 2) k) → (7 - x3).toNat < n → zok (zev zP 202 4 [some (zR r0), some (zI (oI x1)), some (zI (oI x2)), some (zI (oI x3))] [] (sh, t1)) (zq0 (fun t' => FrV sh r0 [1, 2] t0 t' ∧ (∀ k, k ≠ (x1).toNat → tg t' (sr sh r0 2) k = tg t0 (sr sh r0 2) k)) sh) := by
  intro n
  induction n with
  | zero => intro x2 x3  t1 f0 _ _ hm; omega
  | succ n ih =>
    intro x2 x3  t1 f0 hv hq1 hm
    have ha0_1 : (sk sh (sr sh r0 1)).2 = 21000 := by rw [q0.2.2.2.2.1]
    have ha0_2 : (sk sh (sr sh r0 2)).2 = 14 := by rw [q0.2.2.2.2.2.1]
    have ha0_3 : (sk sh (sr sh r0 3)).2 = 98 := by rw [q0.2.2.2.2.2.2.1]
    have ha0_4 : (sk sh (sr sh r0 4)).2 = 98 := by rw [q0.2.2.2.2.2.2.2.1]
    have ha0_8 : (sk sh (sr sh r0 8)).2 = 1500 := by rw [q0.2.2.2.2.2.2.2.2.1]
    have ha0_9 : (sk sh (sr sh r0 9)).2 = 10500 := by rw [q0.2.2.2.2.2.2.2.2.2.1]
    have ha0_10 : (sk sh (sr sh r0 10)).2 = 7 := by rw [q0.2.2.2.2.2.2.2.2.2.2.1]
    have ha0_11 : (sk sh (sr sh r0 11)).2 = 7 := by rw [q0.2.2.2.2.2.2.2.2.2.2.2.1]
    have ha0_12 : (sk sh (sr sh r0 12)).2 = 1500 := by rw [q0.2.2.2.2.2.2.2.2.2.2.2.2.1]
    have ha0_13 : (sk sh (sr sh r0 13)).2 = 1500 := by rw [q0.2.2.2.2.2.2.2.2.2.2.2.2.2.1]
    have ha0_14 : (sk sh (sr sh r0 14)).2 = 20 := by rw [q0.2.2.2.2.2.2.2.2.2.2.2.2.2.2]
    have e0_3 : ∀ k, tg t1 (sr sh r0 3) k = tg t0 (sr sh r0 3) k := fun k => f0.eq q0 (i := 3) (by decide) (by decide) k
    have e0_4 : ∀ k, tg t1 (sr sh r0 4) k = tg t0 (sr sh r0 4) k := fun k => f0.eq q0 (i := 4) (by decide) (by decide) k
    have e0_10 : ∀ k, tg t1 (sr sh r0 10) k = tg t0 (sr sh r0 10) k := fun k => f0.eq q0 (i := 10) (by decide) (by decide) k
    have e0_11 : ∀ k, tg t1 (sr sh r0 11) k = tg t0 (sr sh r0 11) k := fun k => f0.eq q0 (i := 11) (by decide) (by decide) k
    try simp only [zt0, zt1, zt2, zt3, zt4, zt5, zt6, e0_3, e0_4, e0_10, e0_11] at hv
    try simp only [zt0, zt1, zt2, zt3, zt4, zt5, zt6, e0_3, e0_4, e0_10, e0_11] at hm
    have gz := (f0.g).2.2.1 (x3).toNat
    try simp only [zt0, zt1, zt2, zt3, zt4, zt5, zt6, e0_3, e0_4, e0_10, e0_11] at gz
    rw [b202_4]
    try simp only [zput_s, zput_n, ti_g, oI_add, oI_sub, oI_mul]
    first | refine zok_le (by omega) (fun c2 => ?_) (fun c2 => ?_) | refine zok_if (fun c2 => ?_) (fun c2 => ?_)
    · first | refine zok_le (by omega) (fun c3 => ?_) (fun c3 => ?_) | refine zok_if (fun c3 => ?_) (fun c3 => ?_)
      · refine zok_ck ((q0).1) ?_
        have hc := zJs_eq (sh := sh) (m := r0) e0_10 e0_11 7
        try simp only [zt0, zt1, zt2, zt3, zt4, zt5, zt6, e0_3, e0_4, e0_10, e0_11] at hc
        refine zok_c0 (s158 (q0) (by omega) (by first | (omega) | ((try simp only [zt0, zt1, zt2, zt3, zt4, zt5, zt6, e0_3, e0_4, e0_10, e0_11]); omega)) (by first | (omega) | ((try simp only [zt0, zt1, zt2, zt3, zt4, zt5, zt6, e0_3, e0_4, e0_10, e0_11]); omega)) (f0.g)) (fun t4 p4 => ?_)
        obtain ⟨f4, p4⟩ := p4
        have e4_3 : ∀ k, tg t4 (sr sh r0 3) k = tg t1 (sr sh r0 3) k := fun k => f4.eq q0 (i := 3) (by decide) (by decide) k
        have e4_4 : ∀ k, tg t4 (sr sh r0 4) k = tg t1 (sr sh r0 4) k := fun k => f4.eq q0 (i := 4) (by decide) (by decide) k
        have e4_10 : ∀ k, tg t4 (sr sh r0 10) k = tg t1 (sr sh r0 10) k := fun k => f4.eq q0 (i := 10) (by decide) (by decide) k
        have e4_11 : ∀ k, tg t4 (sr sh r0 11) k = tg t1 (sr sh r0 11) k := fun k => f4.eq q0 (i := 11) (by decide) (by decide) k
        try simp only [zt0, zt1, zt2, zt3, zt4, zt5, zt6, e0_3, e0_4, e0_10, e0_11, e4_3, e4_4, e4_10, e4_11] at p4
        simp only [zput_s, zput_n, ti_g, oI_add, oI_sub, oI_mul, zt0, zt1, zt2, zt3, zt4, zt5, zt6, e0_3, e0_4, e0_10, e0_11, e4_3, e4_4, e4_10, e4_11, b202_49]
        try simp only [zput_s, zput_n, ti_g, oI_add, oI_sub, oI_mul]
        exact q0_rt ⟨(FrV.trans (Ns := [1, 2]) (f0) f4 (by decide) (by decide)), fun k hk => by ((try have c0 := hq1 k hk); (try have c0 := hq1 k); (have c1 := p4.2 k (by omega)); (try simp only [zt0, zt1, zt2, zt3, zt4, zt5, zt6] at *) <;> omega)⟩
      · refine zok_ck ((q0).1) ?_
        refine zok_ck ⟨(by rw [(q0).2.2.2.2.2.1]), zin_o (by omega) (by omega) (by omega)⟩ ?_
        try rw [nN_o (a := x1) (by omega) (by omega)]
        try simp only [zput_s, zput_n, ti_g, oI_add, oI_sub, oI_mul, zt0, zt1, zt2, zt3, zt4, zt5, zt6, e0_3, e0_4, e0_10, e0_11]
        obtain ⟨t6, ht6⟩ : ∃ t', t' = tI t1 (sr sh r0 2) ((x1).toNat) (oI (401)) := ⟨_, rfl⟩
        try simp only [zt0, zt1, zt2, zt3, zt4, zt5, zt6, e0_3, e0_4, e0_10, e0_11] at ht6
        rw [← ht6]
        have f6 : FrV sh r0 [2] t1 t6 := by rw [ht6]; exact GI_sz q0 (f0.g) (by omega) (by omega)
        have w6 : ∀ k, tg t6 (sr sh r0 2) k = if k = (x1).toNat then 401 else tg t1 (sr sh r0 2) k := fun k => by rw [ht6]; refine (tg_at (by omega)).trans ?_; first | rfl | simp only [zt0, zt1, zt2, zt3, zt4, zt5, zt6, e0_3, e0_4, e0_10, e0_11, true_and]
        have ws6 : tg t6 (sr sh r0 2) ((x1).toNat) = 401 := by rw [w6, if_pos rfl]
        try simp only [zt0, zt1, zt2, zt3, zt4, zt5, zt6, e0_3, e0_4, e0_10, e0_11] at w6
        try simp only [zt0, zt1, zt2, zt3, zt4, zt5, zt6, e0_3, e0_4, e0_10, e0_11] at ws6
        have e6_3 : ∀ k, tg t6 (sr sh r0 3) k = tg t1 (sr sh r0 3) k := fun k => f6.eq q0 (i := 3) (by decide) (by decide) k
        have e6_4 : ∀ k, tg t6 (sr sh r0 4) k = tg t1 (sr sh r0 4) k := fun k => f6.eq q0 (i := 4) (by decide) (by decide) k
        have e6_10 : ∀ k, tg t6 (sr sh r0 10) k = tg t1 (sr sh r0 10) k := fun k => f6.eq q0 (i := 10) (by decide) (by decide) k
        have e6_11 : ∀ k, tg t6 (sr sh r0 11) k = tg t1 (sr sh r0 11) k := fun k => f6.eq q0 (i := 11) (by decide) (by decide) k
        simp only [zput_s, zput_n, ti_g, oI_add, oI_sub, oI_mul, zt0, zt1, zt2, zt3, zt4, zt5, zt6, e0_3, e0_4, e0_10, e0_11, e6_3, e6_4, e6_10, e6_11, b202_49]
        try simp only [zput_s, zput_n, ti_g, oI_add, oI_sub, oI_mul]
        exact q0_rt ⟨(FrV.trans (Ns := [1, 2]) (f0) f6 (by decide) (by decide)), fun k hk => by ((try have c0 := hq1 k hk); (try have c0 := hq1 k); (have c1 := w6 k); (try simp only [zt0, zt1, zt2, zt3, zt4, zt5, zt6] at *) <;> omega)⟩
    · refine zok_ck ((q0).1) ?_
      refine zok_ck ⟨(by rw [(q0).2.2.2.2.2.2.2.2.2.2.1]), zin_o (by omega) (by omega) (by omega)⟩ ?_
      try rw [nN_o (a := x3) (by omega) (by omega)]
      try simp only [zput_s, zput_n, ti_g, oI_add, oI_sub, oI_mul, zt0, zt1, zt2, zt3, zt4, zt5, zt6, e0_3, e0_4, e0_10, e0_11]
      have gl8 := And.intro (tg_lo t1 (sr sh r0 10) ((x3).toNat)) (tg_hi t1 (sr sh r0 10) ((x3).toNat))
      have gm8 := (f0.g).2.2.1 ((x3).toNat) (by omega)
      try simp only [zt0, zt1, zt2, zt3, zt4, zt5, zt6, e0_3, e0_4, e0_10, e0_11] at gl8
      try simp only [zt0, zt1, zt2, zt3, zt4, zt5, zt6, e0_3, e0_4, e0_10, e0_11] at gm8
      try simp only [zput_s, zput_n, ti_g, oI_add, oI_sub, oI_mul]
      exact ih _ _ _ (f0) (by first | omega | ((try simp only [zt0, zt1, zt2, zt3, zt4, zt5, zt6, e0_3, e0_4, e0_10, e0_11]); omega)) (fun k hk => by ((try have c0 := hq1 k hk); (try have c0 := hq1 k); (try simp only [zt0, zt1, zt2, zt3, zt4, zt5, zt6] at *) <;> omega)) (by first | omega | ((try simp only [zt0, zt1, zt2, zt3, zt4, zt5, zt6, e0_3, e0_4, e0_10, e0_11]); omega))
theorem s202 {sh : zSh} {t : zSt} {MB : Nat} {r0 : Nat} (q0 : zMd sh MB r0) {x1 : Int} (u1 : -2147483648 ≤ x1 ∧ x1 ≤ 2147483647) (d1 : x1 = 8) (d2 : zJs sh r0 t 7 ≤ 9000) (G : GI sh r0 t) : zok (zcl zP 202 [zR r0, zI (oI x1)] (sh, t)) (zq0 (fun t' => FrV sh r0 [1, 2] t t' ∧ (∀ k, k ≠ (x1).toNat → tg t' (sr sh r0 2) k = tg t (sr sh r0 2) k)) sh) := by
  have ha0_1 : (sk sh (sr sh r0 1)).2 = 21000 := by rw [q0.2.2.2.2.1]
  have ha0_2 : (sk sh (sr sh r0 2)).2 = 14 := by rw [q0.2.2.2.2.2.1]
  have ha0_3 : (sk sh (sr sh r0 3)).2 = 98 := by rw [q0.2.2.2.2.2.2.1]
  have ha0_4 : (sk sh (sr sh r0 4)).2 = 98 := by rw [q0.2.2.2.2.2.2.2.1]
  have ha0_8 : (sk sh (sr sh r0 8)).2 = 1500 := by rw [q0.2.2.2.2.2.2.2.2.1]
  have ha0_9 : (sk sh (sr sh r0 9)).2 = 10500 := by rw [q0.2.2.2.2.2.2.2.2.2.1]
  have ha0_10 : (sk sh (sr sh r0 10)).2 = 7 := by rw [q0.2.2.2.2.2.2.2.2.2.2.1]
  have ha0_11 : (sk sh (sr sh r0 11)).2 = 7 := by rw [q0.2.2.2.2.2.2.2.2.2.2.2.1]
  have ha0_12 : (sk sh (sr sh r0 12)).2 = 1500 := by rw [q0.2.2.2.2.2.2.2.2.2.2.2.2.1]
  have ha0_13 : (sk sh (sr sh r0 13)).2 = 1500 := by rw [q0.2.2.2.2.2.2.2.2.2.2.2.2.2.1]
  have ha0_14 : (sk sh (sr sh r0 14)).2 = 20 := by rw [q0.2.2.2.2.2.2.2.2.2.2.2.2.2.2]
  rw [b202_0]
  try simp only [zput_s, zput_n, ti_g, oI_add, oI_sub, oI_mul]
  try simp only [zput_s, zput_n, ti_g, oI_add, oI_sub, oI_mul]
  exact l202_4 q0 (by omega) d1 d2 G _ _ _ _ (FrV.refl G) (by first | omega | ((try simp only [zt0, zt1, zt2, zt3, zt4, zt5, zt6]); omega)) (fun k hk => by ((try have c0 := hq1 k hk); (try have c0 := hq1 k); (try simp only [zt0, zt1, zt2, zt3, zt4, zt5, zt6] at *) <;> omega)) (Nat.lt_succ_self _)
