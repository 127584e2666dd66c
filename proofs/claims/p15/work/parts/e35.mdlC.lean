set_option maxRecDepth 16384
/-! X9_lay -/
theorem s152 {sh : zSh} {t : zSt} {MB : Nat} {r0 : Nat} (q0 : zMd sh MB r0) {x1 : Int} (u1 : -2147483648 ≤ x1 ∧ x1 ≤ 2147483647) {x2 : Int} (u2 : -2147483648 ≤ x2 ∧ x2 ≤ 2147483647) (d1 : 0 ≤ x1 ∧ x1 ≤ 6) (d2 : (x1 ≠ 4 → tg t (sr sh r0 10) (x1).toNat < 1500) ∧ tg t (sr sh r0 10) (x1).toNat < 3000) (G : GI sh r0 t) : zok (zcl zP 152 [zR r0, zI (oI x1), zI (oI x2)] (sh, t)) (zq0 (fun t' => FrV sh r0 [9, 10] t t' ∧ (tg t' (sr sh r0 10) (x1).toNat = tg t (sr sh r0 10) (x1).toNat + 1 ∧ ∀ k, k ≠ (x1).toNat → tg t' (sr sh r0 10) k = tg t (sr sh r0 10) k)) sh) := by
  have ha0_1 : (sk sh (sr sh r0 1)).2 = 21000 := by rw [q0.2.2.2.2.1]
  have ha0_2 : (sk sh (sr sh r0 2)).2 = 14 := by rw [q0.2.2.2.2.2.1]
  have ha0_3 : (sk sh (sr sh r0 3)).2 = 98 := by rw [q0.2.2.2.2.2.2.1]
  have ha0_4 : (sk sh (sr sh r0 4)).2 = 98 := by rw [q0.2.2.2.2.2.2.2.1]
  have ha0_8 : (sk sh (sr sh r0 8)).2 = 1500 := by rw [q0.2.2.2.2.2.2.2.2.1]
  have ha0_9 : (sk sh (sr sh r0 9)).2 = 10500 := by rw [q0.2.2.2.2.2.2.2.2.2.1]
  have ha0_10 : (sk sh (sr sh r0 10)).2 = 7 := by rw [q0.2.2.2.2.2.2.2.2.2.2.1]
  have ha0_11 : (sk sh (sr sh r0 11)).2 = 7 := by rw [q0.2.2.2.2.2.2.2.2.2.2.2.1]
  have ha0_12 : (sk sh (sr sh r0 12)).2 = 1500 := by rw [q0.2.2.2.2.2.2.2.2.2.2.2.2.1]
  have ha0_13 : (sk sh (sr sh r0 13)).2 = 1500 := by rw [q0.2.2.2.2.2.2.2.2.2.2.2.2.2.1]
  have ha0_14 : (sk sh (sr sh r0 14)).2 = 20 := by rw [q0.2.2.2.2.2.2.2.2.2.2.2.2.2.2]
  rw [b152_0]
  try simp only [zput_s, zput_n, ti_g, oI_add, oI_sub, oI_mul]
  refine zok_ck ((q0).1) ?_
  refine zok_ck ((q0).1) ?_
  refine zok_ck ⟨(by rw [(q0).2.2.2.2.2.2.2.2.2.2.1]), zin_o (by omega) (by omega) (by omega)⟩ ?_
  try rw [nN_o (a := x1) (by omega) (by omega)]
  try simp only [zput_s, zput_n, ti_g, oI_add, oI_sub, oI_mul, zt0, zt1, zt2, zt3, zt4, zt5, zt6]
  have gl2 := And.intro (tg_lo t (sr sh r0 10) ((x1).toNat)) (tg_hi t (sr sh r0 10) ((x1).toNat))
  have gm2 := (G).2.2.1 ((x1).toNat) (by omega)
  try simp only [zt0, zt1, zt2, zt3, zt4, zt5, zt6] at gl2
  try simp only [zt0, zt1, zt2, zt3, zt4, zt5, zt6] at gm2
  refine zok_ck ⟨(by rw [(q0).2.2.2.2.2.2.2.2.2.1]), zin_o (by omega) (by omega) (by omega)⟩ ?_
  try rw [nN_o (a := ((1500) * (x1)) + (tg t (sr sh r0 10) ((x1).toNat))) (by omega) (by omega)]
  try simp only [zput_s, zput_n, ti_g, oI_add, oI_sub, oI_mul, zt0, zt1, zt2, zt3, zt4, zt5, zt6]
  obtain ⟨t3, ht3⟩ : ∃ t', t' = tI t (sr sh r0 9) ((((1500) * (x1)) + (tg t (sr sh r0 10) ((x1).toNat))).toNat) (oI (x2)) := ⟨_, rfl⟩
  try simp only [zt0, zt1, zt2, zt3, zt4, zt5, zt6] at ht3
  rw [← ht3]
  have f3 : FrV sh r0 [9] t t3 := by rw [ht3]; exact GI_free q0 (G) (by decide)
  have w3 : ∀ k, tg t3 (sr sh r0 9) k = if k = (((1500) * (x1)) + (tg t (sr sh r0 10) ((x1).toNat))).toNat then x2 else tg t (sr sh r0 9) k := fun k => by rw [ht3]; refine (tg_at (by omega)).trans ?_; first | rfl | simp only [zt0, zt1, zt2, zt3, zt4, zt5, zt6, true_and]
  have ws3 : tg t3 (sr sh r0 9) ((((1500) * (x1)) + (tg t (sr sh r0 10) ((x1).toNat))).toNat) = x2 := by rw [w3, if_pos rfl]
  try simp only [zt0, zt1, zt2, zt3, zt4, zt5, zt6] at w3
  try simp only [zt0, zt1, zt2, zt3, zt4, zt5, zt6] at ws3
  have e3_2 : ∀ k, tg t3 (sr sh r0 2) k = tg t (sr sh r0 2) k := fun k => f3.eq q0 (i := 2) (by decide) (by decide) k
  have e3_3 : ∀ k, tg t3 (sr sh r0 3) k = tg t (sr sh r0 3) k := fun k => f3.eq q0 (i := 3) (by decide) (by decide) k
  have e3_4 : ∀ k, tg t3 (sr sh r0 4) k = tg t (sr sh r0 4) k := fun k => f3.eq q0 (i := 4) (by decide) (by decide) k
  have e3_10 : ∀ k, tg t3 (sr sh r0 10) k = tg t (sr sh r0 10) k := fun k => f3.eq q0 (i := 10) (by decide) (by decide) k
  have e3_11 : ∀ k, tg t3 (sr sh r0 11) k = tg t (sr sh r0 11) k := fun k => f3.eq q0 (i := 11) (by decide) (by decide) k
  refine zok_ck ((q0).1) ?_
  refine zok_ck ⟨(by rw [(q0).2.2.2.2.2.2.2.2.2.2.1]), zin_o (by omega) (by omega) (by omega)⟩ ?_
  try rw [nN_o (a := x1) (by omega) (by omega)]
  try simp only [zput_s, zput_n, ti_g, oI_add, oI_sub, oI_mul, zt0, zt1, zt2, zt3, zt4, zt5, zt6, e3_2, e3_3, e3_4, e3_10, e3_11]
  have gl4 := And.intro (tg_lo t3 (sr sh r0 10) ((x1).toNat)) (tg_hi t3 (sr sh r0 10) ((x1).toNat))
  have gm4 := (f3.g).2.2.1 ((x1).toNat) (by omega)
  try simp only [zt0, zt1, zt2, zt3, zt4, zt5, zt6, e3_2, e3_3, e3_4, e3_10, e3_11] at gl4
  try simp only [zt0, zt1, zt2, zt3, zt4, zt5, zt6, e3_2, e3_3, e3_4, e3_10, e3_11] at gm4
  refine zok_ck ⟨(by rw [(q0).2.2.2.2.2.2.2.2.2.2.1]), zin_o (by omega) (by omega) (by omega)⟩ ?_
  try rw [nN_o (a := x1) (by omega) (by omega)]
  try simp only [zput_s, zput_n, ti_g, oI_add, oI_sub, oI_mul, zt0, zt1, zt2, zt3, zt4, zt5, zt6, e3_2, e3_3, e3_4, e3_10, e3_11]
  obtain ⟨t5, ht5⟩ : ∃ t', t' = tI t3 (sr sh r0 10) ((x1).toNat) (oI ((tg t3 (sr sh r0 10) ((x1).toNat)) + (1))) := ⟨_, rfl⟩
  try simp only [zt0, zt1, zt2, zt3, zt4, zt5, zt6, e3_2, e3_3, e3_4, e3_10, e3_11] at ht5
  rw [← ht5]
  have f5 : FrV sh r0 [10] t3 t5 := by rw [ht5]; exact GI_ls q0 (f3.g) (by omega) (by omega)
  have w5 : ∀ k, tg t5 (sr sh r0 10) k = if k = (x1).toNat then (tg t3 (sr sh r0 10) ((x1).toNat)) + (1) else tg t3 (sr sh r0 10) k := fun k => by rw [ht5]; refine (tg_at (by omega)).trans ?_; first | rfl | simp only [zt0, zt1, zt2, zt3, zt4, zt5, zt6, e3_2, e3_3, e3_4, e3_10, e3_11, true_and]
  have ws5 : tg t5 (sr sh r0 10) ((x1).toNat) = (tg t3 (sr sh r0 10) ((x1).toNat)) + (1) := by rw [w5, if_pos rfl]
  try simp only [zt0, zt1, zt2, zt3, zt4, zt5, zt6, e3_2, e3_3, e3_4, e3_10, e3_11] at w5
  try simp only [zt0, zt1, zt2, zt3, zt4, zt5, zt6, e3_2, e3_3, e3_4, e3_10, e3_11] at ws5
  have e5_2 : ∀ k, tg t5 (sr sh r0 2) k = tg t3 (sr sh r0 2) k := fun k => f5.eq q0 (i := 2) (by decide) (by decide) k
  have e5_3 : ∀ k, tg t5 (sr sh r0 3) k = tg t3 (sr sh r0 3) k := fun k => f5.eq q0 (i := 3) (by decide) (by decide) k
  have e5_4 : ∀ k, tg t5 (sr sh r0 4) k = tg t3 (sr sh r0 4) k := fun k => f5.eq q0 (i := 4) (by decide) (by decide) k
  have e5_9 : ∀ k, tg t5 (sr sh r0 9) k = tg t3 (sr sh r0 9) k := fun k => f5.eq q0 (i := 9) (by decide) (by decide) k
  have e5_11 : ∀ k, tg t5 (sr sh r0 11) k = tg t3 (sr sh r0 11) k := fun k => f5.eq q0 (i := 11) (by decide) (by decide) k
  exact q0_rt ⟨(FrV.trans (Ns := [9, 10]) ((FrV.trans (Ns := [9, 10]) (FrV.refl (Ls := []) G) f3 (by decide) (by decide))) f5 (by decide) (by decide)), ⟨by omega, fun k hk => by simp only [w3, w5, zt0, zt1, zt2, zt3, zt4, zt5, zt6, e3_2, e3_3, e3_4, e3_10, e3_11, e5_2, e5_3, e5_4, e5_9, e5_11, if_neg hk]⟩⟩
/-! X9_put -/
theorem s156 {sh : zSh} {t : zSt} {MB : Nat} {r0 : Nat} (q0 : zMd sh MB r0) {x1 : Int} (u1 : -2147483648 ≤ x1 ∧ x1 ≤ 2147483647) {x2 : Int} (u2 : -2147483648 ≤ x2 ∧ x2 ≤ 2147483647) (d1 : 0 ≤ x1 ∧ x1 ≤ 13) (d2 : (x1 < 8 → tg t (sr sh r0 2) (x1).toNat < 400) ∧ (x1 = 13 → tg t (sr sh r0 2) (x1).toNat < 400) ∧ tg t (sr sh r0 2) (x1).toNat + 1500 * x1 < 21000) (G : GI sh r0 t) : zok (zcl zP 156 [zR r0, zI (oI x1), zI (oI x2)] (sh, t)) (zq0 (fun t' => FrV sh r0 [1, 2] t t' ∧ (tg t' (sr sh r0 2) (x1).toNat = tg t (sr sh r0 2) (x1).toNat + 1 ∧ ∀ k, k ≠ (x1).toNat → tg t' (sr sh r0 2) k = tg t (sr sh r0 2) k)) sh) := by
  have ha0_1 : (sk sh (sr sh r0 1)).2 = 21000 := by rw [q0.2.2.2.2.1]
  have ha0_2 : (sk sh (sr sh r0 2)).2 = 14 := by rw [q0.2.2.2.2.2.1]
  have ha0_3 : (sk sh (sr sh r0 3)).2 = 98 := by rw [q0.2.2.2.2.2.2.1]
  have ha0_4 : (sk sh (sr sh r0 4)).2 = 98 := by rw [q0.2.2.2.2.2.2.2.1]
  have ha0_8 : (sk sh (sr sh r0 8)).2 = 1500 := by rw [q0.2.2.2.2.2.2.2.2.1]
  have ha0_9 : (sk sh (sr sh r0 9)).2 = 10500 := by rw [q0.2.2.2.2.2.2.2.2.2.1]
  have ha0_10 : (sk sh (sr sh r0 10)).2 = 7 := by rw [q0.2.2.2.2.2.2.2.2.2.2.1]
  have ha0_11 : (sk sh (sr sh r0 11)).2 = 7 := by rw [q0.2.2.2.2.2.2.2.2.2.2.2.1]
  have ha0_12 : (sk sh (sr sh r0 12)).2 = 1500 := by rw [q0.2.2.2.2.2.2.2.2.2.2.2.2.1]
  have ha0_13 : (sk sh (sr sh r0 13)).2 = 1500 := by rw [q0.2.2.2.2.2.2.2.2.2.2.2.2.2.1]
  have ha0_14 : (sk sh (sr sh r0 14)).2 = 20 := by rw [q0.2.2.2.2.2.2.2.2.2.2.2.2.2.2]
  rw [b156_0]
  try simp only [zput_s, zput_n, ti_g, oI_add, oI_sub, oI_mul]
  refine zok_ck ((q0).1) ?_
  refine zok_ck ((q0).1) ?_
  refine zok_ck ⟨(by rw [(q0).2.2.2.2.2.1]), zin_o (by omega) (by omega) (by omega)⟩ ?_
  try rw [nN_o (a := x1) (by omega) (by omega)]
  try simp only [zput_s, zput_n, ti_g, oI_add, oI_sub, oI_mul, zt0, zt1, zt2, zt3, zt4, zt5, zt6]
  have gl2 := And.intro (tg_lo t (sr sh r0 2) ((x1).toNat)) (tg_hi t (sr sh r0 2) ((x1).toNat))
  have gm2 := (G).1 ((x1).toNat) (by omega)
  try simp only [zt0, zt1, zt2, zt3, zt4, zt5, zt6] at gl2
  try simp only [zt0, zt1, zt2, zt3, zt4, zt5, zt6] at gm2
  refine zok_ck ⟨(by rw [(q0).2.2.2.2.1]), zin_o (by omega) (by omega) (by omega)⟩ ?_
  try rw [nN_o (a := ((1500) * (x1)) + (tg t (sr sh r0 2) ((x1).toNat))) (by omega) (by omega)]
  try simp only [zput_s, zput_n, ti_g, oI_add, oI_sub, oI_mul, zt0, zt1, zt2, zt3, zt4, zt5, zt6]
  obtain ⟨t3, ht3⟩ : ∃ t', t' = tI t (sr sh r0 1) ((((1500) * (x1)) + (tg t (sr sh r0 2) ((x1).toNat))).toNat) (oI (x2)) := ⟨_, rfl⟩
  try simp only [zt0, zt1, zt2, zt3, zt4, zt5, zt6] at ht3
  rw [← ht3]
  have f3 : FrV sh r0 [1] t t3 := by rw [ht3]; exact GI_free q0 (G) (by decide)
  have w3 : ∀ k, tg t3 (sr sh r0 1) k = if k = (((1500) * (x1)) + (tg t (sr sh r0 2) ((x1).toNat))).toNat then x2 else tg t (sr sh r0 1) k := fun k => by rw [ht3]; refine (tg_at (by omega)).trans ?_; first | rfl | simp only [zt0, zt1, zt2, zt3, zt4, zt5, zt6, true_and]
  have ws3 : tg t3 (sr sh r0 1) ((((1500) * (x1)) + (tg t (sr sh r0 2) ((x1).toNat))).toNat) = x2 := by rw [w3, if_pos rfl]
  try simp only [zt0, zt1, zt2, zt3, zt4, zt5, zt6] at w3
  try simp only [zt0, zt1, zt2, zt3, zt4, zt5, zt6] at ws3
  have e3_2 : ∀ k, tg t3 (sr sh r0 2) k = tg t (sr sh r0 2) k := fun k => f3.eq q0 (i := 2) (by decide) (by decide) k
  have e3_3 : ∀ k, tg t3 (sr sh r0 3) k = tg t (sr sh r0 3) k := fun k => f3.eq q0 (i := 3) (by decide) (by decide) k
  have e3_4 : ∀ k, tg t3 (sr sh r0 4) k = tg t (sr sh r0 4) k := fun k => f3.eq q0 (i := 4) (by decide) (by decide) k
  have e3_10 : ∀ k, tg t3 (sr sh r0 10) k = tg t (sr sh r0 10) k := fun k => f3.eq q0 (i := 10) (by decide) (by decide) k
  have e3_11 : ∀ k, tg t3 (sr sh r0 11) k = tg t (sr sh r0 11) k := fun k => f3.eq q0 (i := 11) (by decide) (by decide) k
  refine zok_ck ((q0).1) ?_
  refine zok_ck ⟨(by rw [(q0).2.2.2.2.2.1]), zin_o (by omega) (by omega) (by omega)⟩ ?_
  try rw [nN_o (a := x1) (by omega) (by omega)]
  try simp only [zput_s, zput_n, ti_g, oI_add, oI_sub, oI_mul, zt0, zt1, zt2, zt3, zt4, zt5, zt6, e3_2, e3_3, e3_4, e3_10, e3_11]
  have gl4 := And.intro (tg_lo t3 (sr sh r0 2) ((x1).toNat)) (tg_hi t3 (sr sh r0 2) ((x1).toNat))
  have gm4 := (f3.g).1 ((x1).toNat) (by omega)
  try simp only [zt0, zt1, zt2, zt3, zt4, zt5, zt6, e3_2, e3_3, e3_4, e3_10, e3_11] at gl4
  try simp only [zt0, zt1, zt2, zt3, zt4, zt5, zt6, e3_2, e3_3, e3_4, e3_10, e3_11] at gm4
  refine zok_ck ⟨(by rw [(q0).2.2.2.2.2.1]), zin_o (by omega) (by omega) (by omega)⟩ ?_
  try rw [nN_o (a := x1) (by omega) (by omega)]
  try simp only [zput_s, zput_n, ti_g, oI_add, oI_sub, oI_mul, zt0, zt1, zt2, zt3, zt4, zt5, zt6, e3_2, e3_3, e3_4, e3_10, e3_11]
  obtain ⟨t5, ht5⟩ : ∃ t', t' = tI t3 (sr sh r0 2) ((x1).toNat) (oI ((tg t3 (sr sh r0 2) ((x1).toNat)) + (1))) := ⟨_, rfl⟩
  try simp only [zt0, zt1, zt2, zt3, zt4, zt5, zt6, e3_2, e3_3, e3_4, e3_10, e3_11] at ht5
  rw [← ht5]
  have f5 : FrV sh r0 [2] t3 t5 := by rw [ht5]; exact GI_sz q0 (f3.g) (by omega) (by omega)
  have w5 : ∀ k, tg t5 (sr sh r0 2) k = if k = (x1).toNat then (tg t3 (sr sh r0 2) ((x1).toNat)) + (1) else tg t3 (sr sh r0 2) k := fun k => by rw [ht5]; refine (tg_at (by omega)).trans ?_; first | rfl | simp only [zt0, zt1, zt2, zt3, zt4, zt5, zt6, e3_2, e3_3, e3_4, e3_10, e3_11, true_and]
  have ws5 : tg t5 (sr sh r0 2) ((x1).toNat) = (tg t3 (sr sh r0 2) ((x1).toNat)) + (1) := by rw [w5, if_pos rfl]
  try simp only [zt0, zt1, zt2, zt3, zt4, zt5, zt6, e3_2, e3_3, e3_4, e3_10, e3_11] at w5
  try simp only [zt0, zt1, zt2, zt3, zt4, zt5, zt6, e3_2, e3_3, e3_4, e3_10, e3_11] at ws5
  have e5_1 : ∀ k, tg t5 (sr sh r0 1) k = tg t3 (sr sh r0 1) k := fun k => f5.eq q0 (i := 1) (by decide) (by decide) k
  have e5_3 : ∀ k, tg t5 (sr sh r0 3) k = tg t3 (sr sh r0 3) k := fun k => f5.eq q0 (i := 3) (by decide) (by decide) k
  have e5_4 : ∀ k, tg t5 (sr sh r0 4) k = tg t3 (sr sh r0 4) k := fun k => f5.eq q0 (i := 4) (by decide) (by decide) k
  have e5_10 : ∀ k, tg t5 (sr sh r0 10) k = tg t3 (sr sh r0 10) k := fun k => f5.eq q0 (i := 10) (by decide) (by decide) k
  have e5_11 : ∀ k, tg t5 (sr sh r0 11) k = tg t3 (sr sh r0 11) k := fun k => f5.eq q0 (i := 11) (by decide) (by decide) k
  exact q0_rt ⟨(FrV.trans (Ns := [1, 2]) ((FrV.trans (Ns := [1, 2]) (FrV.refl (Ls := []) G) f3 (by decide) (by decide))) f5 (by decide) (by decide)), ⟨by omega, fun k hk => by simp only [w3, w5, zt0, zt1, zt2, zt3, zt4, zt5, zt6, e3_2, e3_3, e3_4, e3_10, e3_11, e5_1, e5_3, e5_4, e5_10, e5_11, if_neg hk]⟩⟩
/-! X9_fail -/
theorem s144 {sh : zSh} {t : zSt} {MB : Nat} {r0 : Nat} (q0 : zMd sh MB r0) {x1 : Int} (u1 : -2147483648 ≤ x1 ∧ x1 ≤ 2147483647) {x2 : Int} (u2 : -2147483648 ≤ x2 ∧ x2 ≤ 2147483647) (G : GI sh r0 t) : zok (zcl zP 144 [zR r0, zI (oI x1), zI (oI x2)] (sh, t)) (zq0 (fun t' => FrV sh r0 [0] t t' ∧ (tg t' r0 7 = tg t r0 7 ∧ tg t' r0 15 = tg t r0 15)) sh) := by
  have ha0_1 : (sk sh (sr sh r0 1)).2 = 21000 := by rw [q0.2.2.2.2.1]
  have ha0_2 : (sk sh (sr sh r0 2)).2 = 14 := by rw [q0.2.2.2.2.2.1]
  have ha0_3 : (sk sh (sr sh r0 3)).2 = 98 := by rw [q0.2.2.2.2.2.2.1]
  have ha0_4 : (sk sh (sr sh r0 4)).2 = 98 := by rw [q0.2.2.2.2.2.2.2.1]
  have ha0_8 : (sk sh (sr sh r0 8)).2 = 1500 := by rw [q0.2.2.2.2.2.2.2.2.1]
  have ha0_9 : (sk sh (sr sh r0 9)).2 = 10500 := by rw [q0.2.2.2.2.2.2.2.2.2.1]
  have ha0_10 : (sk sh (sr sh r0 10)).2 = 7 := by rw [q0.2.2.2.2.2.2.2.2.2.2.1]
  have ha0_11 : (sk sh (sr sh r0 11)).2 = 7 := by rw [q0.2.2.2.2.2.2.2.2.2.2.2.1]
  have ha0_12 : (sk sh (sr sh r0 12)).2 = 1500 := by rw [q0.2.2.2.2.2.2.2.2.2.2.2.2.1]
  have ha0_13 : (sk sh (sr sh r0 13)).2 = 1500 := by rw [q0.2.2.2.2.2.2.2.2.2.2.2.2.2.1]
  have ha0_14 : (sk sh (sr sh r0 14)).2 = 20 := by rw [q0.2.2.2.2.2.2.2.2.2.2.2.2.2.2]
  have g1_1 := And.intro (tg_lo t r0 5) (tg_hi t r0 5)
  rw [b144_0]
  try simp only [zput_s, zput_n, ti_g, oI_add, oI_sub, oI_mul]
  refine zok_ck ((q0).1) ?_
  first | refine zok_ne (by omega) (fun c2 => ?_) (fun c2 => ?_) | refine zok_if (fun c2 => ?_) (fun c2 => ?_)
  · exact q0_rt ⟨FrV.refl G, by omega⟩
  · refine zok_ck (by first | exact ⟨(q0).1, fun e => by cases e⟩ | exact (q0).1) ?_
    obtain ⟨t3, ht3⟩ : ∃ t', t' = tI t r0 (5) (oI (x1)) := ⟨_, rfl⟩
    try simp only [zt0, zt1, zt2, zt3, zt4, zt5, zt6] at ht3
    rw [← ht3]
    have f3 : FrV sh r0 [0] t t3 := by rw [ht3]; exact GI_m q0 (G) (by omega) (fun e => by first | omega | cases e) (fun e => by first | omega | cases e)
    have d3_5 : tg t3 r0 5 = x1 := by rw [ht3]; refine (tg_at (by omega)).trans ?_; first | exact if_pos rfl | exact if_neg (by decide) | (simp only [zt0, zt1, zt2, zt3, zt4, zt5, zt6, true_and, if_true])
    have d3_6 : tg t3 r0 6 = tg t r0 6 := by rw [ht3]; refine (tg_at (by omega)).trans ?_; first | exact if_pos rfl | exact if_neg (by decide) | (simp only [zt0, zt1, zt2, zt3, zt4, zt5, zt6, true_and, if_true])
    have d3_7 : tg t3 r0 7 = tg t r0 7 := by rw [ht3]; refine (tg_at (by omega)).trans ?_; first | exact if_pos rfl | exact if_neg (by decide) | (simp only [zt0, zt1, zt2, zt3, zt4, zt5, zt6, true_and, if_true])
    have d3_15 : tg t3 r0 15 = tg t r0 15 := by rw [ht3]; refine (tg_at (by omega)).trans ?_; first | exact if_pos rfl | exact if_neg (by decide) | (simp only [zt0, zt1, zt2, zt3, zt4, zt5, zt6, true_and, if_true])
    try simp only [zt0, zt1, zt2, zt3, zt4, zt5, zt6] at d3_5
    try simp only [zt0, zt1, zt2, zt3, zt4, zt5, zt6] at d3_6
    try simp only [zt0, zt1, zt2, zt3, zt4, zt5, zt6] at d3_7
    try simp only [zt0, zt1, zt2, zt3, zt4, zt5, zt6] at d3_15
    have e3_2 : ∀ k, tg t3 (sr sh r0 2) k = tg t (sr sh r0 2) k := fun k => f3.eq q0 (i := 2) (by decide) (by decide) k
    have e3_3 : ∀ k, tg t3 (sr sh r0 3) k = tg t (sr sh r0 3) k := fun k => f3.eq q0 (i := 3) (by decide) (by decide) k
    have e3_4 : ∀ k, tg t3 (sr sh r0 4) k = tg t (sr sh r0 4) k := fun k => f3.eq q0 (i := 4) (by decide) (by decide) k
    have e3_10 : ∀ k, tg t3 (sr sh r0 10) k = tg t (sr sh r0 10) k := fun k => f3.eq q0 (i := 10) (by decide) (by decide) k
    have e3_11 : ∀ k, tg t3 (sr sh r0 11) k = tg t (sr sh r0 11) k := fun k => f3.eq q0 (i := 11) (by decide) (by decide) k
    refine zok_ck (by first | exact ⟨(q0).1, fun e => by cases e⟩ | exact (q0).1) ?_
    obtain ⟨t4, ht4⟩ : ∃ t', t' = tI t3 r0 (6) (oI (x2)) := ⟨_, rfl⟩
    try simp only [zt0, zt1, zt2, zt3, zt4, zt5, zt6, e3_2, e3_3, e3_4, e3_10, e3_11] at ht4
    rw [← ht4]
    have f4 : FrV sh r0 [0] t3 t4 := by rw [ht4]; exact GI_m q0 (f3.g) (by omega) (fun e => by first | omega | cases e) (fun e => by first | omega | cases e)
    have d4_5 : tg t4 r0 5 = tg t3 r0 5 := by rw [ht4]; refine (tg_at (by omega)).trans ?_; first | exact if_pos rfl | exact if_neg (by decide) | (simp only [zt0, zt1, zt2, zt3, zt4, zt5, zt6, e3_2, e3_3, e3_4, e3_10, e3_11, true_and, if_true])
    have d4_6 : tg t4 r0 6 = x2 := by rw [ht4]; refine (tg_at (by omega)).trans ?_; first | exact if_pos rfl | exact if_neg (by decide) | (simp only [zt0, zt1, zt2, zt3, zt4, zt5, zt6, e3_2, e3_3, e3_4, e3_10, e3_11, true_and, if_true])
    have d4_7 : tg t4 r0 7 = tg t3 r0 7 := by rw [ht4]; refine (tg_at (by omega)).trans ?_; first | exact if_pos rfl | exact if_neg (by decide) | (simp only [zt0, zt1, zt2, zt3, zt4, zt5, zt6, e3_2, e3_3, e3_4, e3_10, e3_11, true_and, if_true])
    have d4_15 : tg t4 r0 15 = tg t3 r0 15 := by rw [ht4]; refine (tg_at (by omega)).trans ?_; first | exact if_pos rfl | exact if_neg (by decide) | (simp only [zt0, zt1, zt2, zt3, zt4, zt5, zt6, e3_2, e3_3, e3_4, e3_10, e3_11, true_and, if_true])
    try simp only [zt0, zt1, zt2, zt3, zt4, zt5, zt6, e3_2, e3_3, e3_4, e3_10, e3_11] at d4_5
    try simp only [zt0, zt1, zt2, zt3, zt4, zt5, zt6, e3_2, e3_3, e3_4, e3_10, e3_11] at d4_6
    try simp only [zt0, zt1, zt2, zt3, zt4, zt5, zt6, e3_2, e3_3, e3_4, e3_10, e3_11] at d4_7
    try simp only [zt0, zt1, zt2, zt3, zt4, zt5, zt6, e3_2, e3_3, e3_4, e3_10, e3_11] at d4_15
    have e4_2 : ∀ k, tg t4 (sr sh r0 2) k = tg t3 (sr sh r0 2) k := fun k => f4.eq q0 (i := 2) (by decide) (by decide) k
    have e4_3 : ∀ k, tg t4 (sr sh r0 3) k = tg t3 (sr sh r0 3) k := fun k => f4.eq q0 (i := 3) (by decide) (by decide) k
    have e4_4 : ∀ k, tg t4 (sr sh r0 4) k = tg t3 (sr sh r0 4) k := fun k => f4.eq q0 (i := 4) (by decide) (by decide) k
    have e4_10 : ∀ k, tg t4 (sr sh r0 10) k = tg t3 (sr sh r0 10) k := fun k => f4.eq q0 (i := 10) (by decide) (by decide) k
    have e4_11 : ∀ k, tg t4 (sr sh r0 11) k = tg t3 (sr sh r0 11) k := fun k => f4.eq q0 (i := 11) (by decide) (by decide) k
    exact q0_rt ⟨(FrV.trans (Ns := [0]) ((FrV.trans (Ns := [0]) (FrV.refl (Ls := []) G) f3 (by decide) (by decide))) f4 (by decide) (by decide)), by omega⟩
/-! X9_addGroup -/
theorem s141 {sh : zSh} {t : zSt} {MB : Nat} {r0 : Nat} (q0 : zMd sh MB r0) {x1 : Int} (u1 : -2147483648 ≤ x1 ∧ x1 ≤ 2147483647) (d1 : tg t r0 15 < 100000) (G : GI sh r0 t) : zok (zcl zP 141 [zR r0, zI (oI x1)] (sh, t)) (zq0 (fun t' => FrV sh r0 [0, 14] t t' ∧ (tg t' r0 15 = tg t r0 15 + 1 ∧ tg t' r0 7 = tg t r0 7)) sh) := by
  have ha0_1 : (sk sh (sr sh r0 1)).2 = 21000 := by rw [q0.2.2.2.2.1]
  have ha0_2 : (sk sh (sr sh r0 2)).2 = 14 := by rw [q0.2.2.2.2.2.1]
  have ha0_3 : (sk sh (sr sh r0 3)).2 = 98 := by rw [q0.2.2.2.2.2.2.1]
  have ha0_4 : (sk sh (sr sh r0 4)).2 = 98 := by rw [q0.2.2.2.2.2.2.2.1]
  have ha0_8 : (sk sh (sr sh r0 8)).2 = 1500 := by rw [q0.2.2.2.2.2.2.2.2.1]
  have ha0_9 : (sk sh (sr sh r0 9)).2 = 10500 := by rw [q0.2.2.2.2.2.2.2.2.2.1]
  have ha0_10 : (sk sh (sr sh r0 10)).2 = 7 := by rw [q0.2.2.2.2.2.2.2.2.2.2.1]
  have ha0_11 : (sk sh (sr sh r0 11)).2 = 7 := by rw [q0.2.2.2.2.2.2.2.2.2.2.2.1]
  have ha0_12 : (sk sh (sr sh r0 12)).2 = 1500 := by rw [q0.2.2.2.2.2.2.2.2.2.2.2.2.1]
  have ha0_13 : (sk sh (sr sh r0 13)).2 = 1500 := by rw [q0.2.2.2.2.2.2.2.2.2.2.2.2.2.1]
  have ha0_14 : (sk sh (sr sh r0 14)).2 = 20 := by rw [q0.2.2.2.2.2.2.2.2.2.2.2.2.2.2]
  have g1_1 := And.intro (tg_lo t r0 15) (tg_hi t r0 15)
  have gf1_1 := (G).2.2.2.2
  have g1_2 := And.intro (tg_lo (tI t (sr sh r0 14) (nN (ti t r0 15)) (oI x1)) r0 15) (tg_hi (tI t (sr sh r0 14) (nN (ti t r0 15)) (oI x1)) r0 15)
  rw [b141_0]
  try simp only [zput_s, zput_n, ti_g, oI_add, oI_sub, oI_mul]
  refine zok_ck ((q0).1) ?_
  first | refine zok_le (by omega) (fun c2 => ?_) (fun c2 => ?_) | refine zok_if (fun c2 => ?_) (fun c2 => ?_)
  · refine zok_ck ((q0).1) ?_
    refine zok_ck (by first | exact ⟨(q0).1, fun e => by cases e⟩ | exact (q0).1) ?_
    obtain ⟨t3, ht3⟩ : ∃ t', t' = tI t r0 (15) (oI ((tg t r0 15) + (1))) := ⟨_, rfl⟩
    try simp only [zt0, zt1, zt2, zt3, zt4, zt5, zt6] at ht3
    rw [← ht3]
    have f3 : FrV sh r0 [0] t t3 := by rw [ht3]; exact GI_m q0 (G) (by omega) (fun e => by first | omega | cases e) (fun e => by first | omega | cases e)
    have d3_7 : tg t3 r0 7 = tg t r0 7 := by rw [ht3]; refine (tg_at (by omega)).trans ?_; first | exact if_pos rfl | exact if_neg (by decide) | (simp only [zt0, zt1, zt2, zt3, zt4, zt5, zt6, true_and, if_true])
    have d3_15 : tg t3 r0 15 = (tg t r0 15) + (1) := by rw [ht3]; refine (tg_at (by omega)).trans ?_; first | exact if_pos rfl | exact if_neg (by decide) | (simp only [zt0, zt1, zt2, zt3, zt4, zt5, zt6, true_and, if_true])
    try simp only [zt0, zt1, zt2, zt3, zt4, zt5, zt6] at d3_7
    try simp only [zt0, zt1, zt2, zt3, zt4, zt5, zt6] at d3_15
    have e3_2 : ∀ k, tg t3 (sr sh r0 2) k = tg t (sr sh r0 2) k := fun k => f3.eq q0 (i := 2) (by decide) (by decide) k
    have e3_3 : ∀ k, tg t3 (sr sh r0 3) k = tg t (sr sh r0 3) k := fun k => f3.eq q0 (i := 3) (by decide) (by decide) k
    have e3_4 : ∀ k, tg t3 (sr sh r0 4) k = tg t (sr sh r0 4) k := fun k => f3.eq q0 (i := 4) (by decide) (by decide) k
    have e3_10 : ∀ k, tg t3 (sr sh r0 10) k = tg t (sr sh r0 10) k := fun k => f3.eq q0 (i := 10) (by decide) (by decide) k
    have e3_11 : ∀ k, tg t3 (sr sh r0 11) k = tg t (sr sh r0 11) k := fun k => f3.eq q0 (i := 11) (by decide) (by decide) k
    have e3_14 : ∀ k, tg t3 (sr sh r0 14) k = tg t (sr sh r0 14) k := fun k => f3.eq q0 (i := 14) (by decide) (by decide) k
    exact q0_rt ⟨(FrV.trans (Ns := [0, 14]) (FrV.refl (Ls := []) G) f3 (by decide) (by decide)), by omega⟩
  · refine zok_ck ((q0).1) ?_
    refine zok_ck ((q0).1) ?_
    refine zok_ck ⟨(by rw [(q0).2.2.2.2.2.2.2.2.2.2.2.2.2.2]), zin_o (by omega) (by omega) (by omega)⟩ ?_
    try rw [nN_o (a := tg t r0 15) (by omega) (by omega)]
    try simp only [zput_s, zput_n, ti_g, oI_add, oI_sub, oI_mul, zt0, zt1, zt2, zt3, zt4, zt5, zt6]
    obtain ⟨t4, ht4⟩ : ∃ t', t' = tI t (sr sh r0 14) ((tg t r0 15).toNat) (oI (x1)) := ⟨_, rfl⟩
    try simp only [zt0, zt1, zt2, zt3, zt4, zt5, zt6] at ht4
    rw [← ht4]
    have f4 : FrV sh r0 [14] t t4 := by rw [ht4]; exact GI_free q0 (G) (by decide)
    have w4 : ∀ k, tg t4 (sr sh r0 14) k = if k = (tg t r0 15).toNat then x1 else tg t (sr sh r0 14) k := fun k => by rw [ht4]; refine (tg_at (by omega)).trans ?_; first | rfl | simp only [zt0, zt1, zt2, zt3, zt4, zt5, zt6, true_and]
    have ws4 : tg t4 (sr sh r0 14) ((tg t r0 15).toNat) = x1 := by rw [w4, if_pos rfl]
    try simp only [zt0, zt1, zt2, zt3, zt4, zt5, zt6] at w4
    try simp only [zt0, zt1, zt2, zt3, zt4, zt5, zt6] at ws4
    have e4_2 : ∀ k, tg t4 (sr sh r0 2) k = tg t (sr sh r0 2) k := fun k => f4.eq q0 (i := 2) (by decide) (by decide) k
    have e4_3 : ∀ k, tg t4 (sr sh r0 3) k = tg t (sr sh r0 3) k := fun k => f4.eq q0 (i := 3) (by decide) (by decide) k
    have e4_4 : ∀ k, tg t4 (sr sh r0 4) k = tg t (sr sh r0 4) k := fun k => f4.eq q0 (i := 4) (by decide) (by decide) k
    have e4_10 : ∀ k, tg t4 (sr sh r0 10) k = tg t (sr sh r0 10) k := fun k => f4.eq q0 (i := 10) (by decide) (by decide) k
    have e4_11 : ∀ k, tg t4 (sr sh r0 11) k = tg t (sr sh r0 11) k := fun k => f4.eq q0 (i := 11) (by decide) (by decide) k
    have d4_7 : tg t4 r0 7 = tg t r0 7 := f4.eq q0 (i := 0) (by decide) (by decide) 7
    have d4_15 : tg t4 r0 15 = tg t r0 15 := f4.eq q0 (i := 0) (by decide) (by decide) 15
    refine zok_ck ((q0).1) ?_
    refine zok_ck (by first | exact ⟨(q0).1, fun e => by cases e⟩ | exact (q0).1) ?_
    obtain ⟨t5, ht5⟩ : ∃ t', t' = tI t4 r0 (15) (oI ((tg t4 r0 15) + (1))) := ⟨_, rfl⟩
    try simp only [zt0, zt1, zt2, zt3, zt4, zt5, zt6, e4_2, e4_3, e4_4, e4_10, e4_11] at ht5
    rw [← ht5]
    have f5 : FrV sh r0 [0] t4 t5 := by rw [ht5]; exact GI_m q0 (f4.g) (by omega) (fun e => by first | omega | cases e) (fun e => by first | omega | cases e)
    have d5_7 : tg t5 r0 7 = tg t4 r0 7 := by rw [ht5]; refine (tg_at (by omega)).trans ?_; first | exact if_pos rfl | exact if_neg (by decide) | (simp only [zt0, zt1, zt2, zt3, zt4, zt5, zt6, e4_2, e4_3, e4_4, e4_10, e4_11, true_and, if_true])
    have d5_15 : tg t5 r0 15 = (tg t4 r0 15) + (1) := by rw [ht5]; refine (tg_at (by omega)).trans ?_; first | exact if_pos rfl | exact if_neg (by decide) | (simp only [zt0, zt1, zt2, zt3, zt4, zt5, zt6, e4_2, e4_3, e4_4, e4_10, e4_11, true_and, if_true])
    try simp only [zt0, zt1, zt2, zt3, zt4, zt5, zt6, e4_2, e4_3, e4_4, e4_10, e4_11] at d5_7
    try simp only [zt0, zt1, zt2, zt3, zt4, zt5, zt6, e4_2, e4_3, e4_4, e4_10, e4_11] at d5_15
    have e5_2 : ∀ k, tg t5 (sr sh r0 2) k = tg t4 (sr sh r0 2) k := fun k => f5.eq q0 (i := 2) (by decide) (by decide) k
    have e5_3 : ∀ k, tg t5 (sr sh r0 3) k = tg t4 (sr sh r0 3) k := fun k => f5.eq q0 (i := 3) (by decide) (by decide) k
    have e5_4 : ∀ k, tg t5 (sr sh r0 4) k = tg t4 (sr sh r0 4) k := fun k => f5.eq q0 (i := 4) (by decide) (by decide) k
    have e5_10 : ∀ k, tg t5 (sr sh r0 10) k = tg t4 (sr sh r0 10) k := fun k => f5.eq q0 (i := 10) (by decide) (by decide) k
    have e5_11 : ∀ k, tg t5 (sr sh r0 11) k = tg t4 (sr sh r0 11) k := fun k => f5.eq q0 (i := 11) (by decide) (by decide) k
    have e5_14 : ∀ k, tg t5 (sr sh r0 14) k = tg t4 (sr sh r0 14) k := fun k => f5.eq q0 (i := 14) (by decide) (by decide) k
    exact q0_rt ⟨(FrV.trans (Ns := [0, 14]) ((FrV.trans (Ns := [0, 14]) (FrV.refl (Ls := []) G) f4 (by decide) (by decide))) f5 (by decide) (by decide)), by omega⟩
/-! X9_thrown -/
theorem s119 {sh : zSh} {t : zSt} {MB : Nat} {r0 : Nat} (q0 : zMd sh MB r0) (G : GI sh r0 t) : zok (zcl zP 119 [zR r0] (sh, t)) (qI (fun x t' => t' = t ∧ (x = tg t r0 0)) sh) := by
  have ha0_1 : (sk sh (sr sh r0 1)).2 = 21000 := by rw [q0.2.2.2.2.1]
  have ha0_2 : (sk sh (sr sh r0 2)).2 = 14 := by rw [q0.2.2.2.2.2.1]
  have ha0_3 : (sk sh (sr sh r0 3)).2 = 98 := by rw [q0.2.2.2.2.2.2.1]
  have ha0_4 : (sk sh (sr sh r0 4)).2 = 98 := by rw [q0.2.2.2.2.2.2.2.1]
  have ha0_8 : (sk sh (sr sh r0 8)).2 = 1500 := by rw [q0.2.2.2.2.2.2.2.2.1]
  have ha0_9 : (sk sh (sr sh r0 9)).2 = 10500 := by rw [q0.2.2.2.2.2.2.2.2.2.1]
  have ha0_10 : (sk sh (sr sh r0 10)).2 = 7 := by rw [q0.2.2.2.2.2.2.2.2.2.2.1]
  have ha0_11 : (sk sh (sr sh r0 11)).2 = 7 := by rw [q0.2.2.2.2.2.2.2.2.2.2.2.1]
  have ha0_12 : (sk sh (sr sh r0 12)).2 = 1500 := by rw [q0.2.2.2.2.2.2.2.2.2.2.2.2.1]
  have ha0_13 : (sk sh (sr sh r0 13)).2 = 1500 := by rw [q0.2.2.2.2.2.2.2.2.2.2.2.2.2.1]
  have ha0_14 : (sk sh (sr sh r0 14)).2 = 20 := by rw [q0.2.2.2.2.2.2.2.2.2.2.2.2.2.2]
  have g1_1 := And.intro (tg_lo t r0 0) (tg_hi t r0 0)
  rw [b119_0]
  try simp only [zput_s, zput_n, ti_g, oI_add, oI_sub, oI_mul]
  refine zok_ck ((q0).1) ?_
  first | exact qI_rt (by omega) (by omega) ⟨rfl, by omega⟩ | exact qI_nf ⟨rfl, by omega⟩
