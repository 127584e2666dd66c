set_option maxRecDepth 16384
/-! X9_mark -/
theorem s133 {sh : zSh} {t : zSt} {MB : Nat} {r0 : Nat} (q0 : zMd sh MB r0) {x1 : Int} (u1 : -2147483648 ≤ x1 ∧ x1 ≤ 2147483647) {x2 : Int} (u2 : -2147483648 ≤ x2 ∧ x2 ≤ 2147483647) {x3 : Int} (u3 : -2147483648 ≤ x3 ∧ x3 ≤ 2147483647) {x4 : Int} (u4 : -2147483648 ≤ x4 ∧ x4 ≤ 2147483647) (d1 : 0 ≤ x1 ∧ x1 ≤ 13) (d2 : 0 ≤ x2 ∧ x2 ≤ 6) (d3 : -1 ≤ x3 ∧ x3 ≤ x4 ∧ x4 ≤ 3000 ∧ (x1 ≠ 12 → x4 ≤ 400)) (G : GI sh r0 t) : zok (zcl zP 133 [zR r0, zI (oI x1), zI (oI x2), zI (oI x3), zI (oI x4)] (sh, t)) (zq0 (fun t' => FrV sh r0 [3, 4] t t' ∧ ((∀ i, tg t' (sr sh r0 3) i = if i = (7 * x1 + x2).toNat then x3 else tg t (sr sh r0 3) i) ∧ ∀ i, tg t' (sr sh r0 4) i = if i = (7 * x1 + x2).toNat then x4 else tg t (sr sh r0 4) i)) sh) := by
  have h3 := q0.2.2.2.2.2.2.1
  have h4 := q0.2.2.2.2.2.2.2.1
  have a3 : (sk sh (sr sh r0 3)).2 = 98 := by rw [h3]
  have a4 : (sk sh (sr sh r0 4)).2 = 98 := by rw [h4]
  rw [b133_0]
  simp only [oI_mul, oI_add]
  refine zok_ck q0.1 (zok_ck ⟨(by rw [h3]), zin_o (by omega) (by omega) (by omega)⟩ (zok_ck q0.1 (zok_ck ⟨(by rw [h4]), zin_o (by omega) (by omega) (by omega)⟩ ?_)))
  rw [nN_o (a := 7 * x1 + x2) (by omega) (by omega)]
  exact q0_rt (GI_be q0 G (by omega) (by omega))
/-! X9_layNothing -/
theorem l155_2 {sh : zSh} {t0 : zSt} {MB : Nat} {r0 : Nat} (q0 : zMd sh MB r0) (G : GI sh r0 t0) : ∀ (n : Nat) (x1 : Int)  (t1 : zSt), FrV sh r0 [10, 11] t0 t1 → (-2147483648 ≤ x1 ∧ x1 ≤ 2147483647) ∧ (0 ≤ x1 ∧ x1 ≤ 7) → (∀ k : Nat, (k : Int) < x1 → tg t1 (sr sh r0 10) k = 0) → (7 - x1).toNat < n → zok (zev zP 155 2 [some (zR r0), some (zI (oI x1))] [] (sh, t1)) (zq0 (fun t' => FrV sh r0 [10, 11] t0 t' ∧ (∀ k : Nat, k < 7 → tg t' (sr sh r0 10) k = 0)) sh) := by
  intro n
  induction n with
  | zero => intro x1  t1 f0 _ _ hm; omega
  | succ n ih =>
    intro x1  t1 f0 hv hq1 hm
    have ha0_1 : (sk sh (sr sh r0 1)).2 = 21000 := by rw [q0.2.2.2.2.1]
    have ha0_2 : (sk sh (sr sh r0 2)).2 = 14 := by rw [q0.2.2.2.2.2.1]
    have ha0_3 : (sk sh (sr sh r0 3)).2 = 98 := by rw [q0.2.2.2.2.2.2.1]
    have ha0_4 : (sk sh (sr sh r0 4)).2 = 98 := by rw [q0.2.2.2.2.2.2.2.1]
    have ha0_8 : (sk sh (sr sh r0 8)).2 = 1500 := by rw [q0.2.2.2.2.2.2.2.2.1]
    have ha0_9 : (sk sh (sr sh r0 9)).2 = 10500 := by rw [q0.2.2.2.2.2.2.2.2.2.1]
    have ha0_10 : (sk sh (sr sh r0 10)).2 = 7 := by rw [q0.2.2.2.2.2.2.2.2.2.2.1]
    have ha0_11 : (sk sh (sr sh r0 11)).2 = 7 := by rw [q0.2.2.2.2.2.2.2.2.2.2.2.1]
    have ha0_12 : (sk sh (sr sh r0 12)).2 = 1500 := by rw [q0.2.2.2.2.2.2.2.2.2.2.2.2.1]
    have ha0_13 : (sk sh (sr sh r0 13)).2 = 1500 := by rw [q0.2.2.2.2.2.2.2.2.2.2.2.2.2.1]
    have ha0_14 : (sk sh (sr sh r0 14)).2 = 20 := by rw [q0.2.2.2.2.2.2.2.2.2.2.2.2.2.2]
    have e0_2 : ∀ k, tg t1 (sr sh r0 2) k = tg t0 (sr sh r0 2) k := fun k => f0.eq q0 (i := 2) (by decide) (by decide) k
    have e0_3 : ∀ k, tg t1 (sr sh r0 3) k = tg t0 (sr sh r0 3) k := fun k => f0.eq q0 (i := 3) (by decide) (by decide) k
    have e0_4 : ∀ k, tg t1 (sr sh r0 4) k = tg t0 (sr sh r0 4) k := fun k => f0.eq q0 (i := 4) (by decide) (by decide) k
    try simp only [zt0, zt1, zt2, zt3, zt4, zt5, zt6, e0_2, e0_3, e0_4] at hv
    try simp only [zt0, zt1, zt2, zt3, zt4, zt5, zt6, e0_2, e0_3, e0_4] at hm
    rw [b155_2]
    try simp only [zput_s, zput_n, ti_g, oI_add, oI_sub, oI_mul]
    first | refine zok_le (by omega) (fun c2 => ?_) (fun c2 => ?_) | refine zok_if (fun c2 => ?_) (fun c2 => ?_)
    · exact q0_rt ⟨f0, fun k hk => hq1 k (by omega)⟩
    · refine zok_ck ((q0).1) ?_
      first | refine zok_ne (by omega) (fun c3 => ?_) (fun c3 => ?_) | refine zok_if (fun c3 => ?_) (fun c3 => ?_)
      · refine zok_ck ⟨Or.inr ⟨by rw [(q0).2.2.2.2.2.2.2.2.2.2.2.1], by first | exact bool_p (by omega) | exact Or.inl rfl | exact Or.inr rfl⟩, zin_o (by omega) (by omega) (by omega)⟩ ?_
        try rw [nN_o (a := x1) (by omega) (by omega)]
        try simp only [zput_s, zput_n, ti_g, oI_add, oI_sub, oI_mul, zt0, zt1, zt2, zt3, zt4, zt5, zt6, e0_2, e0_3, e0_4]
        try rw [i8_o (y := 0) (by omega)]
        obtain ⟨t4, ht4⟩ : ∃ t', t' = tI t1 (sr sh r0 11) ((x1).toNat) (oI (0)) := ⟨_, rfl⟩
        try simp only [zt0, zt1, zt2, zt3, zt4, zt5, zt6, e0_2, e0_3, e0_4] at ht4
        rw [← ht4]
        have f4 : FrV sh r0 [11] t1 t4 := by rw [ht4]; exact GI_lh q0 (f0.g) (by omega)
        have w4 : ∀ k, tg t4 (sr sh r0 11) k = if k = (x1).toNat then 0 else tg t1 (sr sh r0 11) k := fun k => by rw [ht4]; refine (tg_at (by omega)).trans ?_; first | rfl | simp only [zt0, zt1, zt2, zt3, zt4, zt5, zt6, e0_2, e0_3, e0_4, true_and]
        have ws4 : tg t4 (sr sh r0 11) ((x1).toNat) = 0 := by rw [w4, if_pos rfl]
        try simp only [zt0, zt1, zt2, zt3, zt4, zt5, zt6, e0_2, e0_3, e0_4] at w4
        try simp only [zt0, zt1, zt2, zt3, zt4, zt5, zt6, e0_2, e0_3, e0_4] at ws4
        have e4_2 : ∀ k, tg t4 (sr sh r0 2) k = tg t1 (sr sh r0 2) k := fun k => f4.eq q0 (i := 2) (by decide) (by decide) k
        have e4_3 : ∀ k, tg t4 (sr sh r0 3) k = tg t1 (sr sh r0 3) k := fun k => f4.eq q0 (i := 3) (by decide) (by decide) k
        have e4_4 : ∀ k, tg t4 (sr sh r0 4) k = tg t1 (sr sh r0 4) k := fun k => f4.eq q0 (i := 4) (by decide) (by decide) k
        have e4_10 : ∀ k, tg t4 (sr sh r0 10) k = tg t1 (sr sh r0 10) k := fun k => f4.eq q0 (i := 10) (by decide) (by decide) k
        refine zok_ck ((q0).1) ?_
        refine zok_ck ⟨(by rw [(q0).2.2.2.2.2.2.2.2.2.2.1]), zin_o (by omega) (by omega) (by omega)⟩ ?_
        try rw [nN_o (a := x1) (by omega) (by omega)]
        try simp only [zput_s, zput_n, ti_g, oI_add, oI_sub, oI_mul, zt0, zt1, zt2, zt3, zt4, zt5, zt6, e0_2, e0_3, e0_4, e4_2, e4_3, e4_4, e4_10]
        obtain ⟨t5, ht5⟩ : ∃ t', t' = tI t4 (sr sh r0 10) ((x1).toNat) (oI (0)) := ⟨_, rfl⟩
        try simp only [zt0, zt1, zt2, zt3, zt4, zt5, zt6, e0_2, e0_3, e0_4, e4_2, e4_3, e4_4, e4_10] at ht5
        rw [← ht5]
        have f5 : FrV sh r0 [10] t4 t5 := by rw [ht5]; exact GI_ls q0 (f4.g) (by omega) (by omega)
        have w5 : ∀ k, tg t5 (sr sh r0 10) k = if k = (x1).toNat then 0 else tg t4 (sr sh r0 10) k := fun k => by rw [ht5]; refine (tg_at (by omega)).trans ?_; first | rfl | simp only [zt0, zt1, zt2, zt3, zt4, zt5, zt6, e0_2, e0_3, e0_4, e4_2, e4_3, e4_4, e4_10, true_and]
        have ws5 : tg t5 (sr sh r0 10) ((x1).toNat) = 0 := by rw [w5, if_pos rfl]
        try simp only [zt0, zt1, zt2, zt3, zt4, zt5, zt6, e0_2, e0_3, e0_4, e4_2, e4_3, e4_4, e4_10] at w5
        try simp only [zt0, zt1, zt2, zt3, zt4, zt5, zt6, e0_2, e0_3, e0_4, e4_2, e4_3, e4_4, e4_10] at ws5
        have e5_2 : ∀ k, tg t5 (sr sh r0 2) k = tg t4 (sr sh r0 2) k := fun k => f5.eq q0 (i := 2) (by decide) (by decide) k
        have e5_3 : ∀ k, tg t5 (sr sh r0 3) k = tg t4 (sr sh r0 3) k := fun k => f5.eq q0 (i := 3) (by decide) (by decide) k
        have e5_4 : ∀ k, tg t5 (sr sh r0 4) k = tg t4 (sr sh r0 4) k := fun k => f5.eq q0 (i := 4) (by decide) (by decide) k
        have e5_11 : ∀ k, tg t5 (sr sh r0 11) k = tg t4 (sr sh r0 11) k := fun k => f5.eq q0 (i := 11) (by decide) (by decide) k
        try simp only [zput_s, zput_n, ti_g, oI_add, oI_sub, oI_mul]
        exact ih _ _ ((FrV.trans (Ns := [10, 11]) ((FrV.trans (Ns := [10, 11]) (f0) f4 (by decide) (by decide))) f5 (by decide) (by decide))) (by first | omega | ((try simp only [zt0, zt1, zt2, zt3, zt4, zt5, zt6, e0_2, e0_3, e0_4, e4_2, e4_3, e4_4, e4_10, e5_2, e5_3, e5_4, e5_11]); omega)) (fun k hk => by first | omega | (rcases Classical.em (k = (x1).toNat) with h | h <;> first | (simp only [w4, w5, zt0, zt1, zt2, zt3, zt4, zt5, zt6, e0_2, e0_3, e0_4, e4_2, e4_3, e4_4, e4_10, e5_2, e5_3, e5_4, e5_11, true_and, if_pos h]; done) | (simp only [w4, w5, zt0, zt1, zt2, zt3, zt4, zt5, zt6, e0_2, e0_3, e0_4, e4_2, e4_3, e4_4, e4_10, e5_2, e5_3, e5_4, e5_11, true_and, if_neg h]; exact hq1 k (by omega)))) (by first | omega | ((try simp only [zt0, zt1, zt2, zt3, zt4, zt5, zt6, e0_2, e0_3, e0_4, e4_2, e4_3, e4_4, e4_10, e5_2, e5_3, e5_4, e5_11]); omega))
      · refine zok_ck ⟨Or.inr ⟨by rw [(q0).2.2.2.2.2.2.2.2.2.2.2.1], by first | exact bool_p (by omega) | exact Or.inl rfl | exact Or.inr rfl⟩, zin_o (by omega) (by omega) (by omega)⟩ ?_
        try rw [nN_o (a := x1) (by omega) (by omega)]
        try simp only [zput_s, zput_n, ti_g, oI_add, oI_sub, oI_mul, zt0, zt1, zt2, zt3, zt4, zt5, zt6, e0_2, e0_3, e0_4]
        try rw [i8_o (y := 1) (by omega)]
        obtain ⟨t6, ht6⟩ : ∃ t', t' = tI t1 (sr sh r0 11) ((x1).toNat) (oI (1)) := ⟨_, rfl⟩
        try simp only [zt0, zt1, zt2, zt3, zt4, zt5, zt6, e0_2, e0_3, e0_4] at ht6
        rw [← ht6]
        have f6 : FrV sh r0 [11] t1 t6 := by rw [ht6]; exact GI_lh q0 (f0.g) (by omega)
        have w6 : ∀ k, tg t6 (sr sh r0 11) k = if k = (x1).toNat then 1 else tg t1 (sr sh r0 11) k := fun k => by rw [ht6]; refine (tg_at (by omega)).trans ?_; first | rfl | simp only [zt0, zt1, zt2, zt3, zt4, zt5, zt6, e0_2, e0_3, e0_4, true_and]
        have ws6 : tg t6 (sr sh r0 11) ((x1).toNat) = 1 := by rw [w6, if_pos rfl]
        try simp only [zt0, zt1, zt2, zt3, zt4, zt5, zt6, e0_2, e0_3, e0_4] at w6
        try simp only [zt0, zt1, zt2, zt3, zt4, zt5, zt6, e0_2, e0_3, e0_4] at ws6
        have e6_2 : ∀ k, tg t6 (sr sh r0 2) k = tg t1 (sr sh r0 2) k := fun k => f6.eq q0 (i := 2) (by decide) (by decide) k
        have e6_3 : ∀ k, tg t6 (sr sh r0 3) k = tg t1 (sr sh r0 3) k := fun k => f6.eq q0 (i := 3) (by decide) (by decide) k
        have e6_4 : ∀ k, tg t6 (sr sh r0 4) k = tg t1 (sr sh r0 4) k := fun k => f6.eq q0 (i := 4) (by decide) (by decide) k
        have e6_10 : ∀ k, tg t6 (sr sh r0 10) k = tg t1 (sr sh r0 10) k := fun k => f6.eq q0 (i := 10) (by decide) (by decide) k
        refine zok_ck ((q0).1) ?_
        refine zok_ck ⟨(by rw [(q0).2.2.2.2.2.2.2.2.2.2.1]), zin_o (by omega) (by omega) (by omega)⟩ ?_
        try rw [nN_o (a := x1) (by omega) (by omega)]
        try simp only [zput_s, zput_n, ti_g, oI_add, oI_sub, oI_mul, zt0, zt1, zt2, zt3, zt4, zt5, zt6, e0_2, e0_3, e0_4, e6_2, e6_3, e6_4, e6_10]
        obtain ⟨t7, ht7⟩ : ∃ t', t' = tI t6 (sr sh r0 10) ((x1).toNat) (oI (0)) := ⟨_, rfl⟩
        try simp only [zt0, zt1, zt2, zt3, zt4, zt5, zt6, e0_2, e0_3, e0_4, e6_2, e6_3, e6_4, e6_10] at ht7
        rw [← ht7]
        have f7 : FrV sh r0 [10] t6 t7 := by rw [ht7]; exact GI_ls q0 (f6.g) (by omega) (by omega)
        have w7 : ∀ k, tg t7 (sr sh r0 10) k = if k = (x1).toNat then 0 else tg t6 (sr sh r0 10) k := fun k => by rw [ht7]; refine (tg_at (by omega)).trans ?_; first | rfl | simp only [zt0, zt1, zt2, zt3, zt4, zt5, zt6, e0_2, e0_3, e0_4, e6_2, e6_3, e6_4, e6_10, true_and]
        have ws7 : tg t7 (sr sh r0 10) ((x1).toNat) = 0 := by rw [w7, if_pos rfl]
        try simp only [zt0, zt1, zt2, zt3, zt4, zt5, zt6, e0_2, e0_3, e0_4, e6_2, e6_3, e6_4, e6_10] at w7
        try simp only [zt0, zt1, zt2, zt3, zt4, zt5, zt6, e0_2, e0_3, e0_4, e6_2, e6_3, e6_4, e6_10] at ws7
        have e7_2 : ∀ k, tg t7 (sr sh r0 2) k = tg t6 (sr sh r0 2) k := fun k => f7.eq q0 (i := 2) (by decide) (by decide) k
        have e7_3 : ∀ k, tg t7 (sr sh r0 3) k = tg t6 (sr sh r0 3) k := fun k => f7.eq q0 (i := 3) (by decide) (by decide) k
        have e7_4 : ∀ k, tg t7 (sr sh r0 4) k = tg t6 (sr sh r0 4) k := fun k => f7.eq q0 (i := 4) (by decide) (by decide) k
        have e7_11 : ∀ k, tg t7 (sr sh r0 11) k = tg t6 (sr sh r0 11) k := fun k => f7.eq q0 (i := 11) (by decide) (by decide) k
        try simp only [zput_s, zput_n, ti_g, oI_add, oI_sub, oI_mul]
        exact ih _ _ ((FrV.trans (Ns := [10, 11]) ((FrV.trans (Ns := [10, 11]) (f0) f6 (by decide) (by decide))) f7 (by decide) (by decide))) (by first | omega | ((try simp only [zt0, zt1, zt2, zt3, zt4, zt5, zt6, e0_2, e0_3, e0_4, e6_2, e6_3, e6_4, e6_10, e7_2, e7_3, e7_4, e7_11]); omega)) (fun k hk => by first | omega | (rcases Classical.em (k = (x1).toNat) with h | h <;> first | (simp only [w6, w7, zt0, zt1, zt2, zt3, zt4, zt5, zt6, e0_2, e0_3, e0_4, e6_2, e6_3, e6_4, e6_10, e7_2, e7_3, e7_4, e7_11, true_and, if_pos h]; done) | (simp only [w6, w7, zt0, zt1, zt2, zt3, zt4, zt5, zt6, e0_2, e0_3, e0_4, e6_2, e6_3, e6_4, e6_10, e7_2, e7_3, e7_4, e7_11, true_and, if_neg h]; exact hq1 k (by omega)))) (by first | omega | ((try simp only [zt0, zt1, zt2, zt3, zt4, zt5, zt6, e0_2, e0_3, e0_4, e6_2, e6_3, e6_4, e6_10, e7_2, e7_3, e7_4, e7_11]); omega))
theorem s155 {sh : zSh} {t : zSt} {MB : Nat} {r0 : Nat} (q0 : zMd sh MB r0) (G : GI sh r0 t) : zok (zcl zP 155 [zR r0] (sh, t)) (zq0 (fun t' => FrV sh r0 [10, 11] t t' ∧ (∀ k : Nat, k < 7 → tg t' (sr sh r0 10) k = 0)) sh) := by
  have ha0_1 : (sk sh (sr sh r0 1)).2 = 21000 := by rw [q0.2.2.2.2.1]
  have ha0_2 : (sk sh (sr sh r0 2)).2 = 14 := by rw [q0.2.2.2.2.2.1]
  have ha0_3 : (sk sh (sr sh r0 3)).2 = 98 := by rw [q0.2.2.2.2.2.2.1]
  have ha0_4 : (sk sh (sr sh r0 4)).2 = 98 := by rw [q0.2.2.2.2.2.2.2.1]
  have ha0_8 : (sk sh (sr sh r0 8)).2 = 1500 := by rw [q0.2.2.2.2.2.2.2.2.1]
  have ha0_9 : (sk sh (sr sh r0 9)).2 = 10500 := by rw [q0.2.2.2.2.2.2.2.2.2.1]
  have ha0_10 : (sk sh (sr sh r0 10)).2 = 7 := by rw [q0.2.2.2.2.2.2.2.2.2.2.1]
  have ha0_11 : (sk sh (sr sh r0 11)).2 = 7 := by rw [q0.2.2.2.2.2.2.2.2.2.2.2.1]
  have ha0_12 : (sk sh (sr sh r0 12)).2 = 1500 := by rw [q0.2.2.2.2.2.2.2.2.2.2.2.2.1]
  have ha0_13 : (sk sh (sr sh r0 13)).2 = 1500 := by rw [q0.2.2.2.2.2.2.2.2.2.2.2.2.2.1]
  have ha0_14 : (sk sh (sr sh r0 14)).2 = 20 := by rw [q0.2.2.2.2.2.2.2.2.2.2.2.2.2.2]
  rw [b155_0]
  try simp only [zput_s, zput_n, ti_g, oI_add, oI_sub, oI_mul]
  try simp only [zput_s, zput_n, ti_g, oI_add, oI_sub, oI_mul]
  exact l155_2 q0 G _ _ _ (FrV.refl G) (by first | omega | ((try simp only [zt0, zt1, zt2, zt3, zt4, zt5, zt6]); omega)) (fun k hk => by first | omega | (rcases Classical.em (k = (x1).toNat) with h | h <;> first | (simp only [zt0, zt1, zt2, zt3, zt4, zt5, zt6, true_and, if_pos h]; done) | (simp only [zt0, zt1, zt2, zt3, zt4, zt5, zt6, true_and, if_neg h]; exact hq1 k (by omega)))) (Nat.lt_succ_self _)
/-! X9_layPart -/
theorem l153_34 {sh : zSh} {t0 : zSt} {MB : Nat} {r0 : Nat} (q0 : zMd sh MB r0) {x1 : Int} (u1 : -2147483648 ≤ x1 ∧ x1 ≤ 2147483647) {x2 : Int} (u2 : -2147483648 ≤ x2 ∧ x2 ≤ 2147483647) (d1 : 0 ≤ x1 ∧ x1 ≤ 6) (d2 : 0 ≤ x2 ∧ x2 ≤ 13 ∧ x2 ≠ 12) (G : GI sh r0 t0) : ∀ (n : Nat) (x3 : Int)  (t1 : zSt), FrV sh r0 [9, 10, 11] t0 t1 → (-2147483648 ≤ x3 ∧ x3 ≤ 2147483647) ∧ (0 ≤ x3 ∧ x3 ≤ (tg t1 (sr sh r0 4) (7 * x2 + x1).toNat - tg t1 (sr sh r0 3) (7 * x2 + x1).toNat)) ∧ (tg t1 (sr sh r0 10) (x1).toNat = x3) ∧ (tg t1 (sr sh r0 11) (x1).toNat = 0 ∨ x1 = 4 ∨ 0 ≤ tg t1 (sr sh r0 3) (7 * x2 + x1).toNat) → (∀ k, k ≠ (x1).toNat → tg t1 (sr sh r0 10) k = tg t0 (sr sh r0 10) k) → (∀ k, k ≠ (x1).toNat → tg t1 (sr sh r0 11) k = tg t0 (sr sh r0 11) k) → ((tg t1 (sr sh r0 4) (7 * x2 + x1).toNat - tg t1 (sr sh r0 3) (7 * x2 + x1).toNat) - x3).toNat < n → zok (zev zP 153 34 [some (zR r0), some (zI (oI x1)), some (zI (oI x2)), some (zI (oI x3))] [] (sh, t1)) (zq0 (fun t' => FrV sh r0 [9, 10, 11] t0 t' ∧ (tg t' (sr sh r0 10) (x1).toNat = (tg t0 (sr sh r0 4) (7 * x2 + x1).toNat - tg t0 (sr sh r0 3) (7 * x2 + x1).toNat) ∧ (∀ k, k ≠ (x1).toNat → tg t' (sr sh r0 10) k = tg t0 (sr sh r0 10) k) ∧ (tg t' (sr sh r0 11) (x1).toNat = 0 ∨ x1 = 4 ∨ 0 ≤ tg t0 (sr sh r0 3) (7 * x2 + x1).toNat) ∧ (∀ k, k ≠ (x1).toNat → tg t' (sr sh r0 11) k = tg t0 (sr sh r0 11) k))) sh) := by
  intro n
  induction n with
  | zero => intro x3  t1 f0 _ _ _ hm; omega
  | succ n ih =>
    intro x3  t1 f0 hv hq1 hq2 hm
    have ha0_1 : (sk sh (sr sh r0 1)).2 = 21000 := by rw [q0.2.2.2.2.1]
    have ha0_2 : (sk sh (sr sh r0 2)).2 = 14 := by rw [q0.2.2.2.2.2.1]
    have ha0_3 : (sk sh (sr sh r0 3)).2 = 98 := by rw [q0.2.2.2.2.2.2.1]
    have ha0_4 : (sk sh (sr sh r0 4)).2 = 98 := by rw [q0.2.2.2.2.2.2.2.1]
    have ha0_8 : (sk sh (sr sh r0 8)).2 = 1500 := by rw [q0.2.2.2.2.2.2.2.2.1]
    have ha0_9 : (sk sh (sr sh r0 9)).2 = 10500 := by rw [q0.2.2.2.2.2.2.2.2.2.1]
    have ha0_10 : (sk sh (sr sh r0 10)).2 = 7 := by rw [q0.2.2.2.2.2.2.2.2.2.2.1]
    have ha0_11 : (sk sh (sr sh r0 11)).2 = 7 := by rw [q0.2.2.2.2.2.2.2.2.2.2.2.1]
    have ha0_12 : (sk sh (sr sh r0 12)).2 = 1500 := by rw [q0.2.2.2.2.2.2.2.2.2.2.2.2.1]
    have ha0_13 : (sk sh (sr sh r0 13)).2 = 1500 := by rw [q0.2.2.2.2.2.2.2.2.2.2.2.2.2.1]
    have ha0_14 : (sk sh (sr sh r0 14)).2 = 20 := by rw [q0.2.2.2.2.2.2.2.2.2.2.2.2.2.2]
    have e0_2 : ∀ k, tg t1 (sr sh r0 2) k = tg t0 (sr sh r0 2) k := fun k => f0.eq q0 (i := 2) (by decide) (by decide) k
    have e0_3 : ∀ k, tg t1 (sr sh r0 3) k = tg t0 (sr sh r0 3) k := fun k => f0.eq q0 (i := 3) (by decide) (by decide) k
    have e0_4 : ∀ k, tg t1 (sr sh r0 4) k = tg t0 (sr sh r0 4) k := fun k => f0.eq q0 (i := 4) (by decide) (by decide) k
    try simp only [zt0, zt1, zt2, zt3, zt4, zt5, zt6, e0_2, e0_3, e0_4] at hv
    try simp only [zt0, zt1, zt2, zt3, zt4, zt5, zt6, e0_2, e0_3, e0_4] at hm
    have gz := (f0.g).2.1 (7 * x2 + x1).toNat (by omega)
    try simp only [zt0, zt1, zt2, zt3, zt4, zt5, zt6, e0_2, e0_3, e0_4] at gz
    rw [b153_34]
    try simp only [zput_s, zput_n, ti_g, oI_add, oI_sub, oI_mul]
    refine zok_ck ((q0).1) ?_
    refine zok_pI (s135 (q0) (by omega) (by omega) (by first | (omega) | ((try simp only [zt0, zt1, zt2, zt3, zt4, zt5, zt6, e0_2, e0_3, e0_4]); omega)) (by first | (omega) | ((try simp only [zt0, zt1, zt2, zt3, zt4, zt5, zt6, e0_2, e0_3, e0_4]); omega)) (f0.g)) (fun y2 u2 p2 => ?_)
    try simp only [zt0, zt1, zt2, zt3, zt4, zt5, zt6, e0_2, e0_3, e0_4] at p2
    simp only [zput_s, zput_n, ti_g, oI_add, oI_sub, oI_mul, zt0, zt1, zt2, zt3, zt4, zt5, zt6, e0_2, e0_3, e0_4, b153_41]
    try simp only [zput_s, zput_n, ti_g, oI_add, oI_sub, oI_mul]
    first | refine zok_le (by omega) (fun c4 => ?_) (fun c4 => ?_) | refine zok_if (fun c4 => ?_) (fun c4 => ?_)
    · exact q0_rt ⟨f0, ⟨by omega, hq1, by omega, hq2⟩⟩
    · refine zok_ck ((q0).1) ?_
      refine zok_pI (s136 (q0) (by omega) (by omega) (by omega) (by first | (omega) | ((try simp only [zt0, zt1, zt2, zt3, zt4, zt5, zt6, e0_2, e0_3, e0_4]); omega)) (by first | (omega) | ((try simp only [zt0, zt1, zt2, zt3, zt4, zt5, zt6, e0_2, e0_3, e0_4]); omega)) (by first | (omega) | ((try simp only [zt0, zt1, zt2, zt3, zt4, zt5, zt6, e0_2, e0_3, e0_4]); omega)) (f0.g)) (fun y5 u5 p5 => ?_)
      try simp only [zt0, zt1, zt2, zt3, zt4, zt5, zt6, e0_2, e0_3, e0_4] at p5
      simp only [zput_s, zput_n, ti_g, oI_add, oI_sub, oI_mul, zt0, zt1, zt2, zt3, zt4, zt5, zt6, e0_2, e0_3, e0_4, b153_53]
      try simp only [zput_s, zput_n, ti_g, oI_add, oI_sub, oI_mul]
      refine zok_ck ((q0).1) ?_
      refine zok_c0 (s152 (q0) (by omega) (by omega) (by first | (omega) | ((try simp only [zt0, zt1, zt2, zt3, zt4, zt5, zt6, e0_2, e0_3, e0_4]); omega)) (by first | (omega) | ((try simp only [zt0, zt1, zt2, zt3, zt4, zt5, zt6, e0_2, e0_3, e0_4]); omega)) (f0.g)) (fun t7 p7 => ?_)
      obtain ⟨f7, p7⟩ := p7
      have e7_2 : ∀ k, tg t7 (sr sh r0 2) k = tg t1 (sr sh r0 2) k := fun k => f7.eq q0 (i := 2) (by decide) (by decide) k
      have e7_3 : ∀ k, tg t7 (sr sh r0 3) k = tg t1 (sr sh r0 3) k := fun k => f7.eq q0 (i := 3) (by decide) (by decide) k
      have e7_4 : ∀ k, tg t7 (sr sh r0 4) k = tg t1 (sr sh r0 4) k := fun k => f7.eq q0 (i := 4) (by decide) (by decide) k
      have e7_11 : ∀ k, tg t7 (sr sh r0 11) k = tg t1 (sr sh r0 11) k := fun k => f7.eq q0 (i := 11) (by decide) (by decide) k
      try simp only [zt0, zt1, zt2, zt3, zt4, zt5, zt6, e0_2, e0_3, e0_4, e7_2, e7_3, e7_4, e7_11] at p7
      simp only [zput_s, zput_n, ti_g, oI_add, oI_sub, oI_mul, zt0, zt1, zt2, zt3, zt4, zt5, zt6, e0_2, e0_3, e0_4, e7_2, e7_3, e7_4, e7_11, b153_56]
      try simp only [zput_s, zput_n, ti_g, oI_add, oI_sub, oI_mul]
      try simp only [zput_s, zput_n, ti_g, oI_add, oI_sub, oI_mul]
      exact ih _ _ ((FrV.trans (Ns := [9, 10, 11]) (f0) f7 (by decide) (by decide))) (by first | omega | ((try simp only [zt0, zt1, zt2, zt3, zt4, zt5, zt6, e0_2, e0_3, e0_4, e7_2, e7_3, e7_4, e7_11]); omega)) (fun k hk => by first | exact (p7.2 k hk).trans (hq1 k hk) | simp only [zt0, zt1, zt2, zt3, zt4, zt5, zt6, e0_2, e0_3, e0_4, e7_2, e7_3, e7_4, e7_11, true_and, if_neg hk]) (fun k hk => by first | (simp only [zt0, zt1, zt2, zt3, zt4, zt5, zt6, e0_2, e0_3, e0_4, e7_2, e7_3, e7_4, e7_11, true_and]; exact hq2 k hk) | simp only [zt0, zt1, zt2, zt3, zt4, zt5, zt6, e0_2, e0_3, e0_4, e7_2, e7_3, e7_4, e7_11, true_and, if_neg hk]) (by first | omega | ((try simp only [zt0, zt1, zt2, zt3, zt4, zt5, zt6, e0_2, e0_3, e0_4, e7_2, e7_3, e7_4, e7_11]); omega))
theorem s153 {sh : zSh} {t : zSt} {MB : Nat} {r0 : Nat} (q0 : zMd sh MB r0) {x1 : Int} (u1 : -2147483648 ≤ x1 ∧ x1 ≤ 2147483647) {x2 : Int} (u2 : -2147483648 ≤ x2 ∧ x2 ≤ 2147483647) (d1 : 0 ≤ x1 ∧ x1 ≤ 6) (d2 : 0 ≤ x2 ∧ x2 ≤ 13 ∧ x2 ≠ 12) (G : GI sh r0 t) : zok (zcl zP 153 [zR r0, zI (oI x1), zI (oI x2)] (sh, t)) (zq0 (fun t' => FrV sh r0 [9, 10, 11] t t' ∧ (tg t' (sr sh r0 10) (x1).toNat = (tg t (sr sh r0 4) (7 * x2 + x1).toNat - tg t (sr sh r0 3) (7 * x2 + x1).toNat) ∧ (∀ k, k ≠ (x1).toNat → tg t' (sr sh r0 10) k = tg t (sr sh r0 10) k) ∧ (tg t' (sr sh r0 11) (x1).toNat = 0 ∨ x1 = 4 ∨ 0 ≤ tg t (sr sh r0 3) (7 * x2 + x1).toNat) ∧ (∀ k, k ≠ (x1).toNat → tg t' (sr sh r0 11) k = tg t (sr sh r0 11) k))) sh) := by
  have ha0_1 : (sk sh (sr sh r0 1)).2 = 21000 := by rw [q0.2.2.2.2.1]
  have ha0_2 : (sk sh (sr sh r0 2)).2 = 14 := by rw [q0.2.2.2.2.2.1]
  have ha0_3 : (sk sh (sr sh r0 3)).2 = 98 := by rw [q0.2.2.2.2.2.2.1]
  have ha0_4 : (sk sh (sr sh r0 4)).2 = 98 := by rw [q0.2.2.2.2.2.2.2.1]
  have ha0_8 : (sk sh (sr sh r0 8)).2 = 1500 := by rw [q0.2.2.2.2.2.2.2.2.1]
  have ha0_9 : (sk sh (sr sh r0 9)).2 = 10500 := by rw [q0.2.2.2.2.2.2.2.2.2.1]
  have ha0_10 : (sk sh (sr sh r0 10)).2 = 7 := by rw [q0.2.2.2.2.2.2.2.2.2.2.1]
  have ha0_11 : (sk sh (sr sh r0 11)).2 = 7 := by rw [q0.2.2.2.2.2.2.2.2.2.2.2.1]
  have ha0_12 : (sk sh (sr sh r0 12)).2 = 1500 := by rw [q0.2.2.2.2.2.2.2.2.2.2.2.2.1]
  have ha0_13 : (sk sh (sr sh r0 13)).2 = 1500 := by rw [q0.2.2.2.2.2.2.2.2.2.2.2.2.2.1]
  have ha0_14 : (sk sh (sr sh r0 14)).2 = 20 := by rw [q0.2.2.2.2.2.2.2.2.2.2.2.2.2.2]
  have gz := G.2.1 (7 * x2 + x1).toNat (by omega)
  rw [b153_0]
  try simp only [zput_s, zput_n, ti_g, oI_add, oI_sub, oI_mul]
  refine zok_ck ((q0).1) ?_
  first | refine zok_eq (by omega) (fun c10 => ?_) (fun c10 => ?_) | refine zok_if (fun c10 => ?_) (fun c10 => ?_)
  · refine zok_ck ⟨Or.inr ⟨by rw [(q0).2.2.2.2.2.2.2.2.2.2.2.1], by first | exact bool_p (by omega) | exact Or.inl rfl | exact Or.inr rfl⟩, zin_o (by omega) (by omega) (by omega)⟩ ?_
    try rw [nN_o (a := x1) (by omega) (by omega)]
    try simp only [zput_s, zput_n, ti_g, oI_add, oI_sub, oI_mul, zt0, zt1, zt2, zt3, zt4, zt5, zt6]
    try rw [i8_o (y := 1) (by omega)]
    obtain ⟨t11, ht11⟩ : ∃ t', t' = tI t (sr sh r0 11) ((x1).toNat) (oI (1)) := ⟨_, rfl⟩
    try simp only [zt0, zt1, zt2, zt3, zt4, zt5, zt6] at ht11
    rw [← ht11]
    have f11 : FrV sh r0 [11] t t11 := by rw [ht11]; exact GI_lh q0 (G) (by omega)
    have w11 : ∀ k, tg t11 (sr sh r0 11) k = if k = (x1).toNat then 1 else tg t (sr sh r0 11) k := fun k => by rw [ht11]; refine (tg_at (by omega)).trans ?_; first | rfl | simp only [zt0, zt1, zt2, zt3, zt4, zt5, zt6, true_and]
    have ws11 : tg t11 (sr sh r0 11) ((x1).toNat) = 1 := by rw [w11, if_pos rfl]
    try simp only [zt0, zt1, zt2, zt3, zt4, zt5, zt6] at w11
    try simp only [zt0, zt1, zt2, zt3, zt4, zt5, zt6] at ws11
    have e11_2 : ∀ k, tg t11 (sr sh r0 2) k = tg t (sr sh r0 2) k := fun k => f11.eq q0 (i := 2) (by decide) (by decide) k
    have e11_3 : ∀ k, tg t11 (sr sh r0 3) k = tg t (sr sh r0 3) k := fun k => f11.eq q0 (i := 3) (by decide) (by decide) k
    have e11_4 : ∀ k, tg t11 (sr sh r0 4) k = tg t (sr sh r0 4) k := fun k => f11.eq q0 (i := 4) (by decide) (by decide) k
    have e11_10 : ∀ k, tg t11 (sr sh r0 10) k = tg t (sr sh r0 10) k := fun k => f11.eq q0 (i := 10) (by decide) (by decide) k
    refine zok_ck ((q0).1) ?_
    refine zok_ck ⟨(by rw [(q0).2.2.2.2.2.2.2.2.2.2.1]), zin_o (by omega) (by omega) (by omega)⟩ ?_
    try rw [nN_o (a := x1) (by omega) (by omega)]
    try simp only [zput_s, zput_n, ti_g, oI_add, oI_sub, oI_mul, zt0, zt1, zt2, zt3, zt4, zt5, zt6, e11_2, e11_3, e11_4, e11_10]
    obtain ⟨t12, ht12⟩ : ∃ t', t' = tI t11 (sr sh r0 10) ((x1).toNat) (oI (0)) := ⟨_, rfl⟩
    try simp only [zt0, zt1, zt2, zt3, zt4, zt5, zt6, e11_2, e11_3, e11_4, e11_10] at ht12
    rw [← ht12]
    have f12 : FrV sh r0 [10] t11 t12 := by rw [ht12]; exact GI_ls q0 (f11.g) (by omega) (by omega)
    have w12 : ∀ k, tg t12 (sr sh r0 10) k = if k = (x1).toNat then 0 else tg t11 (sr sh r0 10) k := fun k => by rw [ht12]; refine (tg_at (by omega)).trans ?_; first | rfl | simp only [zt0, zt1, zt2, zt3, zt4, zt5, zt6, e11_2, e11_3, e11_4, e11_10, true_and]
    have ws12 : tg t12 (sr sh r0 10) ((x1).toNat) = 0 := by rw [w12, if_pos rfl]
    try simp only [zt0, zt1, zt2, zt3, zt4, zt5, zt6, e11_2, e11_3, e11_4, e11_10] at w12
    try simp only [zt0, zt1, zt2, zt3, zt4, zt5, zt6, e11_2, e11_3, e11_4, e11_10] at ws12
    have e12_2 : ∀ k, tg t12 (sr sh r0 2) k = tg t11 (sr sh r0 2) k := fun k => f12.eq q0 (i := 2) (by decide) (by decide) k
    have e12_3 : ∀ k, tg t12 (sr sh r0 3) k = tg t11 (sr sh r0 3) k := fun k => f12.eq q0 (i := 3) (by decide) (by decide) k
    have e12_4 : ∀ k, tg t12 (sr sh r0 4) k = tg t11 (sr sh r0 4) k := fun k => f12.eq q0 (i := 4) (by decide) (by decide) k
    have e12_11 : ∀ k, tg t12 (sr sh r0 11) k = tg t11 (sr sh r0 11) k := fun k => f12.eq q0 (i := 11) (by decide) (by decide) k
    try simp only [zput_s, zput_n, ti_g, oI_add, oI_sub, oI_mul]
    exact l153_34 q0 (by omega) (by omega) d1 d2 G _ _ _ ((FrV.trans (Ns := [9, 10, 11]) ((FrV.trans (Ns := [9, 10, 11]) (FrV.refl (Ls := []) G) f11 (by decide) (by decide))) f12 (by decide) (by decide))) (by first | omega | ((try simp only [zt0, zt1, zt2, zt3, zt4, zt5, zt6, e11_2, e11_3, e11_4, e11_10, e12_2, e12_3, e12_4, e12_11]); omega)) (fun k hk => by first | exact (p7.2 k hk).trans (hq1 k hk) | simp only [w11, w12, zt0, zt1, zt2, zt3, zt4, zt5, zt6, e11_2, e11_3, e11_4, e11_10, e12_2, e12_3, e12_4, e12_11, true_and, if_neg hk]) (fun k hk => by first | (simp only [w11, w12, zt0, zt1, zt2, zt3, zt4, zt5, zt6, e11_2, e11_3, e11_4, e11_10, e12_2, e12_3, e12_4, e12_11, true_and]; exact hq2 k hk) | simp only [w11, w12, zt0, zt1, zt2, zt3, zt4, zt5, zt6, e11_2, e11_3, e11_4, e11_10, e12_2, e12_3, e12_4, e12_11, true_and, if_neg hk]) (Nat.lt_succ_self _)
  · refine zok_ck ((q0).1) ?_
    refine zok_pI (s134 (q0) (by omega) (by omega) (by first | (omega) | ((try simp only [zt0, zt1, zt2, zt3, zt4, zt5, zt6]); omega)) (by first | (omega) | ((try simp only [zt0, zt1, zt2, zt3, zt4, zt5, zt6]); omega)) (G)) (fun y13 u13 p13 => ?_)
    try simp only [zt0, zt1, zt2, zt3, zt4, zt5, zt6] at p13
    simp only [zput_s, zput_n, ti_g, oI_add, oI_sub, oI_mul, zt0, zt1, zt2, zt3, zt4, zt5, zt6, b153_16]
    try simp only [zput_s, zput_n, ti_g, oI_add, oI_sub, oI_mul]
    first | refine zok_eq (by omega) (fun c15 => ?_) (fun c15 => ?_) | refine zok_if (fun c15 => ?_) (fun c15 => ?_)
    · refine zok_ck ⟨Or.inr ⟨by rw [(q0).2.2.2.2.2.2.2.2.2.2.2.1], by first | exact bool_p (by omega) | exact Or.inl rfl | exact Or.inr rfl⟩, zin_o (by omega) (by omega) (by omega)⟩ ?_
      try rw [nN_o (a := x1) (by omega) (by omega)]
      try simp only [zput_s, zput_n, ti_g, oI_add, oI_sub, oI_mul, zt0, zt1, zt2, zt3, zt4, zt5, zt6]
      try rw [i8_o (y := 0) (by omega)]
      obtain ⟨t16, ht16⟩ : ∃ t', t' = tI t (sr sh r0 11) ((x1).toNat) (oI (0)) := ⟨_, rfl⟩
      try simp only [zt0, zt1, zt2, zt3, zt4, zt5, zt6] at ht16
      rw [← ht16]
      have f16 : FrV sh r0 [11] t t16 := by rw [ht16]; exact GI_lh q0 (G) (by omega)
      have w16 : ∀ k, tg t16 (sr sh r0 11) k = if k = (x1).toNat then 0 else tg t (sr sh r0 11) k := fun k => by rw [ht16]; refine (tg_at (by omega)).trans ?_; first | rfl | simp only [zt0, zt1, zt2, zt3, zt4, zt5, zt6, true_and]
      have ws16 : tg t16 (sr sh r0 11) ((x1).toNat) = 0 := by rw [w16, if_pos rfl]
      try simp only [zt0, zt1, zt2, zt3, zt4, zt5, zt6] at w16
      try simp only [zt0, zt1, zt2, zt3, zt4, zt5, zt6] at ws16
      have e16_2 : ∀ k, tg t16 (sr sh r0 2) k = tg t (sr sh r0 2) k := fun k => f16.eq q0 (i := 2) (by decide) (by decide) k
      have e16_3 : ∀ k, tg t16 (sr sh r0 3) k = tg t (sr sh r0 3) k := fun k => f16.eq q0 (i := 3) (by decide) (by decide) k
      have e16_4 : ∀ k, tg t16 (sr sh r0 4) k = tg t (sr sh r0 4) k := fun k => f16.eq q0 (i := 4) (by decide) (by decide) k
      have e16_10 : ∀ k, tg t16 (sr sh r0 10) k = tg t (sr sh r0 10) k := fun k => f16.eq q0 (i := 10) (by decide) (by decide) k
      refine zok_ck ((q0).1) ?_
      refine zok_ck ⟨(by rw [(q0).2.2.2.2.2.2.2.2.2.2.1]), zin_o (by omega) (by omega) (by omega)⟩ ?_
      try rw [nN_o (a := x1) (by omega) (by omega)]
      try simp only [zput_s, zput_n, ti_g, oI_add, oI_sub, oI_mul, zt0, zt1, zt2, zt3, zt4, zt5, zt6, e16_2, e16_3, e16_4, e16_10]
      obtain ⟨t17, ht17⟩ : ∃ t', t' = tI t16 (sr sh r0 10) ((x1).toNat) (oI (0)) := ⟨_, rfl⟩
      try simp only [zt0, zt1, zt2, zt3, zt4, zt5, zt6, e16_2, e16_3, e16_4, e16_10] at ht17
      rw [← ht17]
      have f17 : FrV sh r0 [10] t16 t17 := by rw [ht17]; exact GI_ls q0 (f16.g) (by omega) (by omega)
      have w17 : ∀ k, tg t17 (sr sh r0 10) k = if k = (x1).toNat then 0 else tg t16 (sr sh r0 10) k := fun k => by rw [ht17]; refine (tg_at (by omega)).trans ?_; first | rfl | simp only [zt0, zt1, zt2, zt3, zt4, zt5, zt6, e16_2, e16_3, e16_4, e16_10, true_and]
      have ws17 : tg t17 (sr sh r0 10) ((x1).toNat) = 0 := by rw [w17, if_pos rfl]
      try simp only [zt0, zt1, zt2, zt3, zt4, zt5, zt6, e16_2, e16_3, e16_4, e16_10] at w17
      try simp only [zt0, zt1, zt2, zt3, zt4, zt5, zt6, e16_2, e16_3, e16_4, e16_10] at ws17
      have e17_2 : ∀ k, tg t17 (sr sh r0 2) k = tg t16 (sr sh r0 2) k := fun k => f17.eq q0 (i := 2) (by decide) (by decide) k
      have e17_3 : ∀ k, tg t17 (sr sh r0 3) k = tg t16 (sr sh r0 3) k := fun k => f17.eq q0 (i := 3) (by decide) (by decide) k
      have e17_4 : ∀ k, tg t17 (sr sh r0 4) k = tg t16 (sr sh r0 4) k := fun k => f17.eq q0 (i := 4) (by decide) (by decide) k
      have e17_11 : ∀ k, tg t17 (sr sh r0 11) k = tg t16 (sr sh r0 11) k := fun k => f17.eq q0 (i := 11) (by decide) (by decide) k
      try simp only [zput_s, zput_n, ti_g, oI_add, oI_sub, oI_mul]
      exact l153_34 q0 (by omega) (by omega) d1 d2 G _ _ _ ((FrV.trans (Ns := [9, 10, 11]) ((FrV.trans (Ns := [9, 10, 11]) (FrV.refl (Ls := []) G) f16 (by decide) (by decide))) f17 (by decide) (by decide))) (by first | omega | ((try simp only [zt0, zt1, zt2, zt3, zt4, zt5, zt6, e16_2, e16_3, e16_4, e16_10, e17_2, e17_3, e17_4, e17_11]); omega)) (fun k hk => by first | exact (p7.2 k hk).trans (hq1 k hk) | simp only [w16, w17, zt0, zt1, zt2, zt3, zt4, zt5, zt6, e16_2, e16_3, e16_4, e16_10, e17_2, e17_3, e17_4, e17_11, true_and, if_neg hk]) (fun k hk => by first | (simp only [w16, w17, zt0, zt1, zt2, zt3, zt4, zt5, zt6, e16_2, e16_3, e16_4, e16_10, e17_2, e17_3, e17_4, e17_11, true_and]; exact hq2 k hk) | simp only [w16, w17, zt0, zt1, zt2, zt3, zt4, zt5, zt6, e16_2, e16_3, e16_4, e16_10, e17_2, e17_3, e17_4, e17_11, true_and, if_neg hk]) (Nat.lt_succ_self _)
    · refine zok_ck ⟨Or.inr ⟨by rw [(q0).2.2.2.2.2.2.2.2.2.2.2.1], by first | exact bool_p (by omega) | exact Or.inl rfl | exact Or.inr rfl⟩, zin_o (by omega) (by omega) (by omega)⟩ ?_
      try rw [nN_o (a := x1) (by omega) (by omega)]
      try simp only [zput_s, zput_n, ti_g, oI_add, oI_sub, oI_mul, zt0, zt1, zt2, zt3, zt4, zt5, zt6]
      try rw [i8_o (y := 1) (by omega)]
      obtain ⟨t18, ht18⟩ : ∃ t', t' = tI t (sr sh r0 11) ((x1).toNat) (oI (1)) := ⟨_, rfl⟩
      try simp only [zt0, zt1, zt2, zt3, zt4, zt5, zt6] at ht18
      rw [← ht18]
      have f18 : FrV sh r0 [11] t t18 := by rw [ht18]; exact GI_lh q0 (G) (by omega)
      have w18 : ∀ k, tg t18 (sr sh r0 11) k = if k = (x1).toNat then 1 else tg t (sr sh r0 11) k := fun k => by rw [ht18]; refine (tg_at (by omega)).trans ?_; first | rfl | simp only [zt0, zt1, zt2, zt3, zt4, zt5, zt6, true_and]
      have ws18 : tg t18 (sr sh r0 11) ((x1).toNat) = 1 := by rw [w18, if_pos rfl]
      try simp only [zt0, zt1, zt2, zt3, zt4, zt5, zt6] at w18
      try simp only [zt0, zt1, zt2, zt3, zt4, zt5, zt6] at ws18
      have e18_2 : ∀ k, tg t18 (sr sh r0 2) k = tg t (sr sh r0 2) k := fun k => f18.eq q0 (i := 2) (by decide) (by decide) k
      have e18_3 : ∀ k, tg t18 (sr sh r0 3) k = tg t (sr sh r0 3) k := fun k => f18.eq q0 (i := 3) (by decide) (by decide) k
      have e18_4 : ∀ k, tg t18 (sr sh r0 4) k = tg t (sr sh r0 4) k := fun k => f18.eq q0 (i := 4) (by decide) (by decide) k
      have e18_10 : ∀ k, tg t18 (sr sh r0 10) k = tg t (sr sh r0 10) k := fun k => f18.eq q0 (i := 10) (by decide) (by decide) k
      refine zok_ck ((q0).1) ?_
      refine zok_ck ⟨(by rw [(q0).2.2.2.2.2.2.2.2.2.2.1]), zin_o (by omega) (by omega) (by omega)⟩ ?_
      try rw [nN_o (a := x1) (by omega) (by omega)]
      try simp only [zput_s, zput_n, ti_g, oI_add, oI_sub, oI_mul, zt0, zt1, zt2, zt3, zt4, zt5, zt6, e18_2, e18_3, e18_4, e18_10]
      obtain ⟨t19, ht19⟩ : ∃ t', t' = tI t18 (sr sh r0 10) ((x1).toNat) (oI (0)) := ⟨_, rfl⟩
      try simp only [zt0, zt1, zt2, zt3, zt4, zt5, zt6, e18_2, e18_3, e18_4, e18_10] at ht19
      rw [← ht19]
      have f19 : FrV sh r0 [10] t18 t19 := by rw [ht19]; exact GI_ls q0 (f18.g) (by omega) (by omega)
      have w19 : ∀ k, tg t19 (sr sh r0 10) k = if k = (x1).toNat then 0 else tg t18 (sr sh r0 10) k := fun k => by rw [ht19]; refine (tg_at (by omega)).trans ?_; first | rfl | simp only [zt0, zt1, zt2, zt3, zt4, zt5, zt6, e18_2, e18_3, e18_4, e18_10, true_and]
      have ws19 : tg t19 (sr sh r0 10) ((x1).toNat) = 0 := by rw [w19, if_pos rfl]
      try simp only [zt0, zt1, zt2, zt3, zt4, zt5, zt6, e18_2, e18_3, e18_4, e18_10] at w19
      try simp only [zt0, zt1, zt2, zt3, zt4, zt5, zt6, e18_2, e18_3, e18_4, e18_10] at ws19
      have e19_2 : ∀ k, tg t19 (sr sh r0 2) k = tg t18 (sr sh r0 2) k := fun k => f19.eq q0 (i := 2) (by decide) (by decide) k
      have e19_3 : ∀ k, tg t19 (sr sh r0 3) k = tg t18 (sr sh r0 3) k := fun k => f19.eq q0 (i := 3) (by decide) (by decide) k
      have e19_4 : ∀ k, tg t19 (sr sh r0 4) k = tg t18 (sr sh r0 4) k := fun k => f19.eq q0 (i := 4) (by decide) (by decide) k
      have e19_11 : ∀ k, tg t19 (sr sh r0 11) k = tg t18 (sr sh r0 11) k := fun k => f19.eq q0 (i := 11) (by decide) (by decide) k
      try simp only [zput_s, zput_n, ti_g, oI_add, oI_sub, oI_mul]
      exact l153_34 q0 (by omega) (by omega) d1 d2 G _ _ _ ((FrV.trans (Ns := [9, 10, 11]) ((FrV.trans (Ns := [9, 10, 11]) (FrV.refl (Ls := []) G) f18 (by decide) (by decide))) f19 (by decide) (by decide))) (by first | omega | ((try simp only [zt0, zt1, zt2, zt3, zt4, zt5, zt6, e18_2, e18_3, e18_4, e18_10, e19_2, e19_3, e19_4, e19_11]); omega)) (fun k hk => by first | exact (p7.2 k hk).trans (hq1 k hk) | simp only [w18, w19, zt0, zt1, zt2, zt3, zt4, zt5, zt6, e18_2, e18_3, e18_4, e18_10, e19_2, e19_3, e19_4, e19_11, true_and, if_neg hk]) (fun k hk => by first | (simp only [w18, w19, zt0, zt1, zt2, zt3, zt4, zt5, zt6, e18_2, e18_3, e18_4, e18_10, e19_2, e19_3, e19_4, e19_11, true_and]; exact hq2 k hk) | simp only [w18, w19, zt0, zt1, zt2, zt3, zt4, zt5, zt6, e18_2, e18_3, e18_4, e18_10, e19_2, e19_3, e19_4, e19_11, true_and, if_neg hk]) (Nat.lt_succ_self _)
