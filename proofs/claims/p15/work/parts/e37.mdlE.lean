set_option maxRecDepth 16384
/-! X9_layAuthority -/
theorem s154 {sh : zSh} {t : zSt} {MB : Nat} {r0 : Nat} (q0 : zMd sh MB r0) {x1 : Int} (u1 : -2147483648 ≤ x1 ∧ x1 ≤ 2147483647) (d1 : 0 ≤ x1 ∧ x1 ≤ 13 ∧ x1 ≠ 12) (G : GI sh r0 t) : zok (zcl zP 154 [zR r0, zI (oI x1)] (sh, t)) (zq0 (fun t' => FrV sh r0 [9, 10, 11] t t' ∧ ((tg t' (sr sh r0 10) 1 = (tg t (sr sh r0 4) (7 * x1 + 1).toNat - tg t (sr sh r0 3) (7 * x1 + 1).toNat) ∧ tg t' (sr sh r0 10) 2 = (tg t (sr sh r0 4) (7 * x1 + 2).toNat - tg t (sr sh r0 3) (7 * x1 + 2).toNat) ∧ tg t' (sr sh r0 10) 3 = (tg t (sr sh r0 4) (7 * x1 + 3).toNat - tg t (sr sh r0 3) (7 * x1 + 3).toNat)) ∧ ((tg t' (sr sh r0 11) 1 = 0 ∨ 0 ≤ tg t (sr sh r0 3) (7 * x1 + 1).toNat) ∧ (tg t' (sr sh r0 11) 2 = 0 ∨ 0 ≤ tg t (sr sh r0 3) (7 * x1 + 2).toNat) ∧ (tg t' (sr sh r0 11) 3 = 0 ∨ 0 ≤ tg t (sr sh r0 3) (7 * x1 + 3).toNat)) ∧ (∀ k, k = 0 ∨ 4 ≤ k → tg t' (sr sh r0 10) k = tg t (sr sh r0 10) k) ∧ ∀ k, k = 0 ∨ 4 ≤ k → tg t' (sr sh r0 11) k = tg t (sr sh r0 11) k)) sh) := by
  have ha0_1 : (sk sh (sr sh r0 1)).2 = 21000 := by rw [q0.2.2.2.2.1]
  have ha0_2 : (sk sh (sr sh r0 2)).2 = 14 := by rw [q0.2.2.2.2.2.1]
  have ha0_3 : (sk sh (sr sh r0 3)).2 = 98 := by rw [q0.2.2.2.2.2.2.1]
  have ha0_4 : (sk sh (sr sh r0 4)).2 = 98 := by rw [q0.2.2.2.2.2.2.2.1]
  have ha0_8 : (sk sh (sr sh r0 8)).2 = 1500 := by rw [q0.2.2.2.2.2.2.2.2.1]
  have ha0_9 : (sk sh (sr sh r0 9)).2 = 10500 := by rw [q0.2.2.2.2.2.2.2.2.2.1]
  have ha0_10 : (sk sh (sr sh r0 10)).2 = 7 := by rw [q0.2.2.2.2.2.2.2.2.2.2.1]
  have ha0_11 : (sk sh (sr sh r0 11)).2 = 7 := by rw [q0.2.2.2.2.2.2.2.2.2.2.2.1]
  have ha0_12 : (sk sh (sr sh r0 12)).2 = 1500 := by rw [q0.2.2.2.2.2.2.2.2.2.2.2.2.1]
  have ha0_13 : (sk sh (sr sh r0 13)).2 = 1500 := by rw [q0.2.2.2.2.2.2.2.2.2.2.2.2.2.1]
  have ha0_14 : (sk sh (sr sh r0 14)).2 = 20 := by rw [q0.2.2.2.2.2.2.2.2.2.2.2.2.2.2]
  rw [b154_0]
  try simp only [zput_s, zput_n, ti_g, oI_add, oI_sub, oI_mul]
  refine zok_ck ((q0).1) ?_
  refine zok_c0 (s153 (q0) (by omega) (by omega) (by first | (omega) | ((try simp only [zt0, zt1, zt2, zt3, zt4, zt5, zt6]); omega)) (by first | (omega) | ((try simp only [zt0, zt1, zt2, zt3, zt4, zt5, zt6]); omega)) (G)) (fun t2 p2 => ?_)
  obtain ⟨f2, p2⟩ := p2
  have e2_2 : ∀ k, tg t2 (sr sh r0 2) k = tg t (sr sh r0 2) k := fun k => f2.eq q0 (i := 2) (by decide) (by decide) k
  have e2_3 : ∀ k, tg t2 (sr sh r0 3) k = tg t (sr sh r0 3) k := fun k => f2.eq q0 (i := 3) (by decide) (by decide) k
  have e2_4 : ∀ k, tg t2 (sr sh r0 4) k = tg t (sr sh r0 4) k := fun k => f2.eq q0 (i := 4) (by decide) (by decide) k
  try simp only [zt0, zt1, zt2, zt3, zt4, zt5, zt6, e2_2, e2_3, e2_4] at p2
  have hL2_0 := p2.2.1 0 (by decide)
  try simp only [zt0, zt1, zt2, zt3, zt4, zt5, zt6, e2_2, e2_3, e2_4] at hL2_0
  have hL2_1 := p2.2.2.2 0 (by decide)
  try simp only [zt0, zt1, zt2, zt3, zt4, zt5, zt6, e2_2, e2_3, e2_4] at hL2_1
  have hL2_2 := p2.2.1 2 (by decide)
  try simp only [zt0, zt1, zt2, zt3, zt4, zt5, zt6, e2_2, e2_3, e2_4] at hL2_2
  have hL2_3 := p2.2.2.2 2 (by decide)
  try simp only [zt0, zt1, zt2, zt3, zt4, zt5, zt6, e2_2, e2_3, e2_4] at hL2_3
  have hL2_4 := p2.2.1 3 (by decide)
  try simp only [zt0, zt1, zt2, zt3, zt4, zt5, zt6, e2_2, e2_3, e2_4] at hL2_4
  have hL2_5 := p2.2.2.2 3 (by decide)
  try simp only [zt0, zt1, zt2, zt3, zt4, zt5, zt6, e2_2, e2_3, e2_4] at hL2_5
  have hL2_6 := p2.2.1 4 (by decide)
  try simp only [zt0, zt1, zt2, zt3, zt4, zt5, zt6, e2_2, e2_3, e2_4] at hL2_6
  have hL2_7 := p2.2.2.2 4 (by decide)
  try simp only [zt0, zt1, zt2, zt3, zt4, zt5, zt6, e2_2, e2_3, e2_4] at hL2_7
  have hL2_8 := p2.2.1 5 (by decide)
  try simp only [zt0, zt1, zt2, zt3, zt4, zt5, zt6, e2_2, e2_3, e2_4] at hL2_8
  have hL2_9 := p2.2.2.2 5 (by decide)
  try simp only [zt0, zt1, zt2, zt3, zt4, zt5, zt6, e2_2, e2_3, e2_4] at hL2_9
  have hL2_10 := p2.2.1 6 (by decide)
  try simp only [zt0, zt1, zt2, zt3, zt4, zt5, zt6, e2_2, e2_3, e2_4] at hL2_10
  have hL2_11 := p2.2.2.2 6 (by decide)
  try simp only [zt0, zt1, zt2, zt3, zt4, zt5, zt6, e2_2, e2_3, e2_4] at hL2_11
  simp only [zput_s, zput_n, ti_g, oI_add, oI_sub, oI_mul, zt0, zt1, zt2, zt3, zt4, zt5, zt6, e2_2, e2_3, e2_4, b154_6]
  try simp only [zput_s, zput_n, ti_g, oI_add, oI_sub, oI_mul]
  refine zok_ck ((q0).1) ?_
  refine zok_c0 (s153 (q0) (by omega) (by omega) (by first | (omega) | ((try simp only [zt0, zt1, zt2, zt3, zt4, zt5, zt6, e2_2, e2_3, e2_4]); omega)) (by first | (omega) | ((try simp only [zt0, zt1, zt2, zt3, zt4, zt5, zt6, e2_2, e2_3, e2_4]); omega)) (f2.g)) (fun t4 p4 => ?_)
  obtain ⟨f4, p4⟩ := p4
  have e4_2 : ∀ k, tg t4 (sr sh r0 2) k = tg t2 (sr sh r0 2) k := fun k => f4.eq q0 (i := 2) (by decide) (by decide) k
  have e4_3 : ∀ k, tg t4 (sr sh r0 3) k = tg t2 (sr sh r0 3) k := fun k => f4.eq q0 (i := 3) (by decide) (by decide) k
  have e4_4 : ∀ k, tg t4 (sr sh r0 4) k = tg t2 (sr sh r0 4) k := fun k => f4.eq q0 (i := 4) (by decide) (by decide) k
  try simp only [zt0, zt1, zt2, zt3, zt4, zt5, zt6, e2_2, e2_3, e2_4, e4_2, e4_3, e4_4] at p4
  have hL4_0 := p4.2.1 0 (by decide)
  try simp only [zt0, zt1, zt2, zt3, zt4, zt5, zt6, e2_2, e2_3, e2_4, e4_2, e4_3, e4_4] at hL4_0
  have hL4_1 := p4.2.2.2 0 (by decide)
  try simp only [zt0, zt1, zt2, zt3, zt4, zt5, zt6, e2_2, e2_3, e2_4, e4_2, e4_3, e4_4] at hL4_1
  have hL4_2 := p4.2.1 1 (by decide)
  try simp only [zt0, zt1, zt2, zt3, zt4, zt5, zt6, e2_2, e2_3, e2_4, e4_2, e4_3, e4_4] at hL4_2
  have hL4_3 := p4.2.2.2 1 (by decide)
  try simp only [zt0, zt1, zt2, zt3, zt4, zt5, zt6, e2_2, e2_3, e2_4, e4_2, e4_3, e4_4] at hL4_3
  have hL4_4 := p4.2.1 3 (by decide)
  try simp only [zt0, zt1, zt2, zt3, zt4, zt5, zt6, e2_2, e2_3, e2_4, e4_2, e4_3, e4_4] at hL4_4
  have hL4_5 := p4.2.2.2 3 (by decide)
  try simp only [zt0, zt1, zt2, zt3, zt4, zt5, zt6, e2_2, e2_3, e2_4, e4_2, e4_3, e4_4] at hL4_5
  have hL4_6 := p4.2.1 4 (by decide)
  try simp only [zt0, zt1, zt2, zt3, zt4, zt5, zt6, e2_2, e2_3, e2_4, e4_2, e4_3, e4_4] at hL4_6
  have hL4_7 := p4.2.2.2 4 (by decide)
  try simp only [zt0, zt1, zt2, zt3, zt4, zt5, zt6, e2_2, e2_3, e2_4, e4_2, e4_3, e4_4] at hL4_7
  have hL4_8 := p4.2.1 5 (by decide)
  try simp only [zt0, zt1, zt2, zt3, zt4, zt5, zt6, e2_2, e2_3, e2_4, e4_2, e4_3, e4_4] at hL4_8
  have hL4_9 := p4.2.2.2 5 (by decide)
  try simp only [zt0, zt1, zt2, zt3, zt4, zt5, zt6, e2_2, e2_3, e2_4, e4_2, e4_3, e4_4] at hL4_9
  have hL4_10 := p4.2.1 6 (by decide)
  try simp only [zt0, zt1, zt2, zt3, zt4, zt5, zt6, e2_2, e2_3, e2_4, e4_2, e4_3, e4_4] at hL4_10
  have hL4_11 := p4.2.2.2 6 (by decide)
  try simp only [zt0, zt1, zt2, zt3, zt4, zt5, zt6, e2_2, e2_3, e2_4, e4_2, e4_3, e4_4] at hL4_11
  simp only [zput_s, zput_n, ti_g, oI_add, oI_sub, oI_mul, zt0, zt1, zt2, zt3, zt4, zt5, zt6, e2_2, e2_3, e2_4, e4_2, e4_3, e4_4, b154_12]
  try simp only [zput_s, zput_n, ti_g, oI_add, oI_sub, oI_mul]
  refine zok_ck ((q0).1) ?_
  refine zok_c0 (s153 (q0) (by omega) (by omega) (by first | (omega) | ((try simp only [zt0, zt1, zt2, zt3, zt4, zt5, zt6, e2_2, e2_3, e2_4, e4_2, e4_3, e4_4]); omega)) (by first | (omega) | ((try simp only [zt0, zt1, zt2, zt3, zt4, zt5, zt6, e2_2, e2_3, e2_4, e4_2, e4_3, e4_4]); omega)) (f4.g)) (fun t6 p6 => ?_)
  obtain ⟨f6, p6⟩ := p6
  have e6_2 : ∀ k, tg t6 (sr sh r0 2) k = tg t4 (sr sh r0 2) k := fun k => f6.eq q0 (i := 2) (by decide) (by decide) k
  have e6_3 : ∀ k, tg t6 (sr sh r0 3) k = tg t4 (sr sh r0 3) k := fun k => f6.eq q0 (i := 3) (by decide) (by decide) k
  have e6_4 : ∀ k, tg t6 (sr sh r0 4) k = tg t4 (sr sh r0 4) k := fun k => f6.eq q0 (i := 4) (by decide) (by decide) k
  try simp only [zt0, zt1, zt2, zt3, zt4, zt5, zt6, e2_2, e2_3, e2_4, e4_2, e4_3, e4_4, e6_2, e6_3, e6_4] at p6
  have hL6_0 := p6.2.1 0 (by decide)
  try simp only [zt0, zt1, zt2, zt3, zt4, zt5, zt6, e2_2, e2_3, e2_4, e4_2, e4_3, e4_4, e6_2, e6_3, e6_4] at hL6_0
  have hL6_1 := p6.2.2.2 0 (by decide)
  try simp only [zt0, zt1, zt2, zt3, zt4, zt5, zt6, e2_2, e2_3, e2_4, e4_2, e4_3, e4_4, e6_2, e6_3, e6_4] at hL6_1
  have hL6_2 := p6.2.1 1 (by decide)
  try simp only [zt0, zt1, zt2, zt3, zt4, zt5, zt6, e2_2, e2_3, e2_4, e4_2, e4_3, e4_4, e6_2, e6_3, e6_4] at hL6_2
  have hL6_3 := p6.2.2.2 1 (by decide)
  try simp only [zt0, zt1, zt2, zt3, zt4, zt5, zt6, e2_2, e2_3, e2_4, e4_2, e4_3, e4_4, e6_2, e6_3, e6_4] at hL6_3
  have hL6_4 := p6.2.1 2 (by decide)
  try simp only [zt0, zt1, zt2, zt3, zt4, zt5, zt6, e2_2, e2_3, e2_4, e4_2, e4_3, e4_4, e6_2, e6_3, e6_4] at hL6_4
  have hL6_5 := p6.2.2.2 2 (by decide)
  try simp only [zt0, zt1, zt2, zt3, zt4, zt5, zt6, e2_2, e2_3, e2_4, e4_2, e4_3, e4_4, e6_2, e6_3, e6_4] at hL6_5
  have hL6_6 := p6.2.1 4 (by decide)
  try simp only [zt0, zt1, zt2, zt3, zt4, zt5, zt6, e2_2, e2_3, e2_4, e4_2, e4_3, e4_4, e6_2, e6_3, e6_4] at hL6_6
  have hL6_7 := p6.2.2.2 4 (by decide)
  try simp only [zt0, zt1, zt2, zt3, zt4, zt5, zt6, e2_2, e2_3, e2_4, e4_2, e4_3, e4_4, e6_2, e6_3, e6_4] at hL6_7
  have hL6_8 := p6.2.1 5 (by decide)
  try simp only [zt0, zt1, zt2, zt3, zt4, zt5, zt6, e2_2, e2_3, e2_4, e4_2, e4_3, e4_4, e6_2, e6_3, e6_4] at hL6_8
  have hL6_9 := p6.2.2.2 5 (by decide)
  try simp only [zt0, zt1, zt2, zt3, zt4, zt5, zt6, e2_2, e2_3, e2_4, e4_2, e4_3, e4_4, e6_2, e6_3, e6_4] at hL6_9
  have hL6_10 := p6.2.1 6 (by decide)
  try simp only [zt0, zt1, zt2, zt3, zt4, zt5, zt6, e2_2, e2_3, e2_4, e4_2, e4_3, e4_4, e6_2, e6_3, e6_4] at hL6_10
  have hL6_11 := p6.2.2.2 6 (by decide)
  try simp only [zt0, zt1, zt2, zt3, zt4, zt5, zt6, e2_2, e2_3, e2_4, e4_2, e4_3, e4_4, e6_2, e6_3, e6_4] at hL6_11
  simp only [zput_s, zput_n, ti_g, oI_add, oI_sub, oI_mul, zt0, zt1, zt2, zt3, zt4, zt5, zt6, e2_2, e2_3, e2_4, e4_2, e4_3, e4_4, e6_2, e6_3, e6_4, b154_18]
  try simp only [zput_s, zput_n, ti_g, oI_add, oI_sub, oI_mul]
  exact q0_rt ⟨(FrV.trans (Ns := [9, 10, 11]) ((FrV.trans (Ns := [9, 10, 11]) ((FrV.trans (Ns := [9, 10, 11]) (FrV.refl (Ls := []) G) f2 (by decide) (by decide))) f4 (by decide) (by decide))) f6 (by decide) (by decide)), ⟨by omega, by omega, fun k hk => by have h1 := p2.2.1 k (by omega); have h2 := p4.2.1 k (by omega); have h3 := p6.2.1 k (by omega); omega, fun k hk => by have h1 := p2.2.2.2 k (by omega); have h2 := p4.2.2.2 k (by omega); have h3 := p6.2.2.2 k (by omega); omega⟩⟩
/-! X9_putLaid -/
theorem l157_2 {sh : zSh} {t0 : zSt} {MB : Nat} {r0 : Nat} (q0 : zMd sh MB r0) {x1 : Int} (u1 : -2147483648 ≤ x1 ∧ x1 ≤ 2147483647) {x2 : Int} (u2 : -2147483648 ≤ x2 ∧ x2 ≤ 2147483647) (d1 : 0 ≤ x1 ∧ x1 ≤ 13) (d2 : 0 ≤ x2 ∧ x2 ≤ 6) (d3 : (x1 < 8 → tg t0 (sr sh r0 2) (x1).toNat + tg t0 (sr sh r0 10) (x2).toNat ≤ 400) ∧ (x1 = 13 → tg t0 (sr sh r0 2) (x1).toNat + tg t0 (sr sh r0 10) (x2).toNat ≤ 400) ∧ tg t0 (sr sh r0 2) (x1).toNat + tg t0 (sr sh r0 10) (x2).toNat + 1500 * x1 ≤ 21000) (G : GI sh r0 t0) : ∀ (n : Nat) (x3 : Int)  (t1 : zSt), FrV sh r0 [1, 2] t0 t1 → (-2147483648 ≤ x3 ∧ x3 ≤ 2147483647) ∧ (0 ≤ x3 ∧ x3 ≤ tg t1 (sr sh r0 10) (x2).toNat) ∧ (tg t1 (sr sh r0 2) (x1).toNat = tg t0 (sr sh r0 2) (x1).toNat + x3) → (∀ k, k ≠ (x1).toNat → tg t1 (sr sh r0 2) k = tg t0 (sr sh r0 2) k) → (tg t1 (sr sh r0 10) (x2).toNat - x3).toNat < n → zok (zev zP 157 2 [some (zR r0), some (zI (oI x1)), some (zI (oI x2)), some (zI (oI x3))] [] (sh, t1)) (zq0 (fun t' => FrV sh r0 [1, 2] t0 t' ∧ (tg t' (sr sh r0 2) (x1).toNat = tg t0 (sr sh r0 2) (x1).toNat + tg t0 (sr sh r0 10) (x2).toNat ∧ ∀ k, k ≠ (x1).toNat → tg t' (sr sh r0 2) k = tg t0 (sr sh r0 2) k)) sh) := by
  intro n
  induction n with
  | zero => intro x3  t1 f0 _ _ hm; omega
  | succ n ih =>
    intro x3  t1 f0 hv hq1 hm
    have ha0_1 : (sk sh (sr sh r0 1)).2 = 21000 := by rw [q0.2.2.2.2.1]
    have ha0_2 : (sk sh (sr sh r0 2)).2 = 14 := by rw [q0.2.2.2.2.2.1]
    have ha0_3 : (sk sh (sr sh r0 3)).2 = 98 := by rw [q0.2.2.2.2.2.2.1]
    have ha0_4 : (sk sh (sr sh r0 4)).2 = 98 := by rw [q0.2.2.2.2.2.2.2.1]
    have ha0_8 : (sk sh (sr sh r0 8)).2 = 1500 := by rw [q0.2.2.2.2.2.2.2.2.1]
    have ha0_9 : (sk sh (sr sh r0 9)).2 = 10500 := by rw [q0.2.2.2.2.2.2.2.2.2.1]
    have ha0_10 : (sk sh (sr sh r0 10)).2 = 7 := by rw [q0.2.2.2.2.2.2.2.2.2.2.1]
    have ha0_11 : (sk sh (sr sh r0 11)).2 = 7 := by rw [q0.2.2.2.2.2.2.2.2.2.2.2.1]
    have ha0_12 : (sk sh (sr sh r0 12)).2 = 1500 := by rw [q0.2.2.2.2.2.2.2.2.2.2.2.2.1]
    have ha0_13 : (sk sh (sr sh r0 13)).2 = 1500 := by rw [q0.2.2.2.2.2.2.2.2.2.2.2.2.2.1]
    have ha0_14 : (sk sh (sr sh r0 14)).2 = 20 := by rw [q0.2.2.2.2.2.2.2.2.2.2.2.2.2.2]
    have e0_3 : ∀ k, tg t1 (sr sh r0 3) k = tg t0 (sr sh r0 3) k := fun k => f0.eq q0 (i := 3) (by decide) (by decide) k
    have e0_4 : ∀ k, tg t1 (sr sh r0 4) k = tg t0 (sr sh r0 4) k := fun k => f0.eq q0 (i := 4) (by decide) (by decide) k
    have e0_9 : ∀ k, tg t1 (sr sh r0 9) k = tg t0 (sr sh r0 9) k := fun k => f0.eq q0 (i := 9) (by decide) (by decide) k
    have e0_10 : ∀ k, tg t1 (sr sh r0 10) k = tg t0 (sr sh r0 10) k := fun k => f0.eq q0 (i := 10) (by decide) (by decide) k
    have e0_11 : ∀ k, tg t1 (sr sh r0 11) k = tg t0 (sr sh r0 11) k := fun k => f0.eq q0 (i := 11) (by decide) (by decide) k
    try simp only [zt0, zt1, zt2, zt3, zt4, zt5, zt6, e0_3, e0_4, e0_9, e0_10, e0_11] at hv
    try simp only [zt0, zt1, zt2, zt3, zt4, zt5, zt6, e0_3, e0_4, e0_9, e0_10, e0_11] at hm
    have gz := (f0.g).2.2.1 (x2).toNat (by omega)
    try simp only [zt0, zt1, zt2, zt3, zt4, zt5, zt6, e0_3, e0_4, e0_9, e0_10, e0_11] at gz
    rw [b157_2]
    try simp only [zput_s, zput_n, ti_g, oI_add, oI_sub, oI_mul]
    refine zok_ck ((q0).1) ?_
    refine zok_ck ⟨(by rw [(q0).2.2.2.2.2.2.2.2.2.2.1]), zin_o (by omega) (by omega) (by omega)⟩ ?_
    try rw [nN_o (a := x2) (by omega) (by omega)]
    try simp only [zput_s, zput_n, ti_g, oI_add, oI_sub, oI_mul, zt0, zt1, zt2, zt3, zt4, zt5, zt6, e0_3, e0_4, e0_9, e0_10, e0_11]
    have gl2 := And.intro (tg_lo t1 (sr sh r0 10) ((x2).toNat)) (tg_hi t1 (sr sh r0 10) ((x2).toNat))
    have gm2 := (f0.g).2.2.1 ((x2).toNat) (by omega)
    try simp only [zt0, zt1, zt2, zt3, zt4, zt5, zt6, e0_3, e0_4, e0_9, e0_10, e0_11] at gl2
    try simp only [zt0, zt1, zt2, zt3, zt4, zt5, zt6, e0_3, e0_4, e0_9, e0_10, e0_11] at gm2
    first | refine zok_le (by omega) (fun c3 => ?_) (fun c3 => ?_) | refine zok_if (fun c3 => ?_) (fun c3 => ?_)
    · exact q0_rt ⟨f0, ⟨by omega, hq1⟩⟩
    · refine zok_ck ((q0).1) ?_
      refine zok_ck ⟨(by rw [(q0).2.2.2.2.2.2.2.2.2.1]), zin_o (by omega) (by omega) (by omega)⟩ ?_
      try rw [nN_o (a := ((1500) * (x2)) + (x3)) (by omega) (by omega)]
      try simp only [zput_s, zput_n, ti_g, oI_add, oI_sub, oI_mul, zt0, zt1, zt2, zt3, zt4, zt5, zt6, e0_3, e0_4, e0_9, e0_10, e0_11]
      have gl4 := And.intro (tg_lo t1 (sr sh r0 9) ((((1500) * (x2)) + (x3)).toNat)) (tg_hi t1 (sr sh r0 9) ((((1500) * (x2)) + (x3)).toNat))
      try simp only [zt0, zt1, zt2, zt3, zt4, zt5, zt6, e0_3, e0_4, e0_9, e0_10, e0_11] at gl4
      refine zok_ck ((q0).1) ?_
      refine zok_c0 (s156 (q0) (by omega) (by omega) (by first | (omega) | ((try simp only [zt0, zt1, zt2, zt3, zt4, zt5, zt6, e0_3, e0_4, e0_9, e0_10, e0_11]); omega)) (by first | (omega) | ((try simp only [zt0, zt1, zt2, zt3, zt4, zt5, zt6, e0_3, e0_4, e0_9, e0_10, e0_11]); omega)) (f0.g)) (fun t5 p5 => ?_)
      obtain ⟨f5, p5⟩ := p5
      have e5_3 : ∀ k, tg t5 (sr sh r0 3) k = tg t1 (sr sh r0 3) k := fun k => f5.eq q0 (i := 3) (by decide) (by decide) k
      have e5_4 : ∀ k, tg t5 (sr sh r0 4) k = tg t1 (sr sh r0 4) k := fun k => f5.eq q0 (i := 4) (by decide) (by decide) k
      have e5_9 : ∀ k, tg t5 (sr sh r0 9) k = tg t1 (sr sh r0 9) k := fun k => f5.eq q0 (i := 9) (by decide) (by decide) k
      have e5_10 : ∀ k, tg t5 (sr sh r0 10) k = tg t1 (sr sh r0 10) k := fun k => f5.eq q0 (i := 10) (by decide) (by decide) k
      have e5_11 : ∀ k, tg t5 (sr sh r0 11) k = tg t1 (sr sh r0 11) k := fun k => f5.eq q0 (i := 11) (by decide) (by decide) k
      try simp only [zt0, zt1, zt2, zt3, zt4, zt5, zt6, e0_3, e0_4, e0_9, e0_10, e0_11, e5_3, e5_4, e5_9, e5_10, e5_11] at p5
      simp only [zput_s, zput_n, ti_g, oI_add, oI_sub, oI_mul, zt0, zt1, zt2, zt3, zt4, zt5, zt6, e0_3, e0_4, e0_9, e0_10, e0_11, e5_3, e5_4, e5_9, e5_10, e5_11, b157_29]
      try simp only [zput_s, zput_n, ti_g, oI_add, oI_sub, oI_mul]
      try simp only [zput_s, zput_n, ti_g, oI_add, oI_sub, oI_mul]
      exact ih _ _ ((FrV.trans (Ns := [1, 2]) (f0) f5 (by decide) (by decide))) (by first | omega | ((try simp only [zt0, zt1, zt2, zt3, zt4, zt5, zt6, e0_3, e0_4, e0_9, e0_10, e0_11, e5_3, e5_4, e5_9, e5_10, e5_11]); omega)) (fun k hk => by first | exact (p5.2 k hk).trans (hq1 k hk) | rfl | simp only [zt0, zt1, zt2, zt3, zt4, zt5, zt6, e0_3, e0_4, e0_9, e0_10, e0_11, e5_3, e5_4, e5_9, e5_10, e5_11, true_and, if_neg hk]) (by first | omega | ((try simp only [zt0, zt1, zt2, zt3, zt4, zt5, zt6, e0_3, e0_4, e0_9, e0_10, e0_11, e5_3, e5_4, e5_9, e5_10, e5_11]); omega))
theorem s157 {sh : zSh} {t : zSt} {MB : Nat} {r0 : Nat} (q0 : zMd sh MB r0) {x1 : Int} (u1 : -2147483648 ≤ x1 ∧ x1 ≤ 2147483647) {x2 : Int} (u2 : -2147483648 ≤ x2 ∧ x2 ≤ 2147483647) (d1 : 0 ≤ x1 ∧ x1 ≤ 13) (d2 : 0 ≤ x2 ∧ x2 ≤ 6) (d3 : (x1 < 8 → tg t (sr sh r0 2) (x1).toNat + tg t (sr sh r0 10) (x2).toNat ≤ 400) ∧ (x1 = 13 → tg t (sr sh r0 2) (x1).toNat + tg t (sr sh r0 10) (x2).toNat ≤ 400) ∧ tg t (sr sh r0 2) (x1).toNat + tg t (sr sh r0 10) (x2).toNat + 1500 * x1 ≤ 21000) (G : GI sh r0 t) : zok (zcl zP 157 [zR r0, zI (oI x1), zI (oI x2)] (sh, t)) (zq0 (fun t' => FrV sh r0 [1, 2] t t' ∧ (tg t' (sr sh r0 2) (x1).toNat = tg t (sr sh r0 2) (x1).toNat + tg t (sr sh r0 10) (x2).toNat ∧ ∀ k, k ≠ (x1).toNat → tg t' (sr sh r0 2) k = tg t (sr sh r0 2) k)) sh) := by
  have ha0_1 : (sk sh (sr sh r0 1)).2 = 21000 := by rw [q0.2.2.2.2.1]
  have ha0_2 : (sk sh (sr sh r0 2)).2 = 14 := by rw [q0.2.2.2.2.2.1]
  have ha0_3 : (sk sh (sr sh r0 3)).2 = 98 := by rw [q0.2.2.2.2.2.2.1]
  have ha0_4 : (sk sh (sr sh r0 4)).2 = 98 := by rw [q0.2.2.2.2.2.2.2.1]
  have ha0_8 : (sk sh (sr sh r0 8)).2 = 1500 := by rw [q0.2.2.2.2.2.2.2.2.1]
  have ha0_9 : (sk sh (sr sh r0 9)).2 = 10500 := by rw [q0.2.2.2.2.2.2.2.2.2.1]
  have ha0_10 : (sk sh (sr sh r0 10)).2 = 7 := by rw [q0.2.2.2.2.2.2.2.2.2.2.1]
  have ha0_11 : (sk sh (sr sh r0 11)).2 = 7 := by rw [q0.2.2.2.2.2.2.2.2.2.2.2.1]
  have ha0_12 : (sk sh (sr sh r0 12)).2 = 1500 := by rw [q0.2.2.2.2.2.2.2.2.2.2.2.2.1]
  have ha0_13 : (sk sh (sr sh r0 13)).2 = 1500 := by rw [q0.2.2.2.2.2.2.2.2.2.2.2.2.2.1]
  have ha0_14 : (sk sh (sr sh r0 14)).2 = 20 := by rw [q0.2.2.2.2.2.2.2.2.2.2.2.2.2.2]
  have gz := G.2.2.1 (x2).toNat (by omega)
  have gy := G.1 (x1).toNat (by omega)
  rw [b157_0]
  try simp only [zput_s, zput_n, ti_g, oI_add, oI_sub, oI_mul]
  try simp only [zput_s, zput_n, ti_g, oI_add, oI_sub, oI_mul]
  exact l157_2 q0 (by omega) (by omega) d1 d2 d3 G _ _ _ (FrV.refl G) (by first | omega | ((try simp only [zt0, zt1, zt2, zt3, zt4, zt5, zt6]); omega)) (fun k hk => by first | exact (p5.2 k hk).trans (hq1 k hk) | rfl | simp only [zt0, zt1, zt2, zt3, zt4, zt5, zt6, true_and, if_neg hk]) (Nat.lt_succ_self _)
/-! X9_copyRow -/
theorem l131_14 {sh : zSh} {t0 : zSt} {MB : Nat} {r0 : Nat} (q0 : zMd sh MB r0) {x1 : Int} (u1 : -2147483648 ≤ x1 ∧ x1 ≤ 2147483647) {x2 : Int} (u2 : -2147483648 ≤ x2 ∧ x2 ≤ 2147483647) (d1 : 0 ≤ x1 ∧ x1 ≤ 13) (d2 : 0 ≤ x2 ∧ x2 ≤ 13) (d3 : (x2 < 8 → tg t0 (sr sh r0 2) (x1).toNat ≤ 400) ∧ (x2 = 13 → tg t0 (sr sh r0 2) (x1).toNat ≤ 400) ∧ tg t0 (sr sh r0 2) (x1).toNat + 1500 * x2 ≤ 21000) (G : GI sh r0 t0) : ∀ (n : Nat) (x3 : Int)  (t1 : zSt), FrV sh r0 [1, 2] t0 t1 → (-2147483648 ≤ x3 ∧ x3 ≤ 2147483647) ∧ (0 ≤ x3) ∧ (tg t1 (sr sh r0 2) (x2).toNat = tg t0 (sr sh r0 2) (x1).toNat) → (∀ k, k ≠ (x2).toNat → tg t1 (sr sh r0 2) k = tg t0 (sr sh r0 2) k) → (tg t0 (sr sh r0 2) (x1).toNat - x3).toNat < n → zok (zev zP 131 14 [some (zR r0), some (zI (oI x1)), some (zI (oI x2)), some (zI (oI x3))] [] (sh, t1)) (zq0 (fun t' => FrV sh r0 [1, 2] t0 t' ∧ (tg t' (sr sh r0 2) (x2).toNat = tg t0 (sr sh r0 2) (x1).toNat ∧ ∀ k, k ≠ (x2).toNat → tg t' (sr sh r0 2) k = tg t0 (sr sh r0 2) k)) sh) := by
  intro n
  induction n with
  | zero => intro x3  t1 f0 _ _ hm; omega
  | succ n ih =>
    intro x3  t1 f0 hv hq1 hm
    have ha0_1 : (sk sh (sr sh r0 1)).2 = 21000 := by rw [q0.2.2.2.2.1]
    have ha0_2 : (sk sh (sr sh r0 2)).2 = 14 := by rw [q0.2.2.2.2.2.1]
    have ha0_3 : (sk sh (sr sh r0 3)).2 = 98 := by rw [q0.2.2.2.2.2.2.1]
    have ha0_4 : (sk sh (sr sh r0 4)).2 = 98 := by rw [q0.2.2.2.2.2.2.2.1]
    have ha0_8 : (sk sh (sr sh r0 8)).2 = 1500 := by rw [q0.2.2.2.2.2.2.2.2.1]
    have ha0_9 : (sk sh (sr sh r0 9)).2 = 10500 := by rw [q0.2.2.2.2.2.2.2.2.2.1]
    have ha0_10 : (sk sh (sr sh r0 10)).2 = 7 := by rw [q0.2.2.2.2.2.2.2.2.2.2.1]
    have ha0_11 : (sk sh (sr sh r0 11)).2 = 7 := by rw [q0.2.2.2.2.2.2.2.2.2.2.2.1]
    have ha0_12 : (sk sh (sr sh r0 12)).2 = 1500 := by rw [q0.2.2.2.2.2.2.2.2.2.2.2.2.1]
    have ha0_13 : (sk sh (sr sh r0 13)).2 = 1500 := by rw [q0.2.2.2.2.2.2.2.2.2.2.2.2.2.1]
    have ha0_14 : (sk sh (sr sh r0 14)).2 = 20 := by rw [q0.2.2.2.2.2.2.2.2.2.2.2.2.2.2]
    have e0_3 : ∀ k, tg t1 (sr sh r0 3) k = tg t0 (sr sh r0 3) k := fun k => f0.eq q0 (i := 3) (by decide) (by decide) k
    have e0_4 : ∀ k, tg t1 (sr sh r0 4) k = tg t0 (sr sh r0 4) k := fun k => f0.eq q0 (i := 4) (by decide) (by decide) k
    have e0_10 : ∀ k, tg t1 (sr sh r0 10) k = tg t0 (sr sh r0 10) k := fun k => f0.eq q0 (i := 10) (by decide) (by decide) k
    have e0_11 : ∀ k, tg t1 (sr sh r0 11) k = tg t0 (sr sh r0 11) k := fun k => f0.eq q0 (i := 11) (by decide) (by decide) k
    try simp only [zt0, zt1, zt2, zt3, zt4, zt5, zt6, e0_3, e0_4, e0_10, e0_11] at hv
    try simp only [zt0, zt1, zt2, zt3, zt4, zt5, zt6, e0_3, e0_4, e0_10, e0_11] at hm
    have gy := (f0.g).1 (x2).toNat (by omega)
    try simp only [zt0, zt1, zt2, zt3, zt4, zt5, zt6, e0_3, e0_4, e0_10, e0_11] at gy
    have gx := (f0.g).1 (x1).toNat (by omega)
    try simp only [zt0, zt1, zt2, zt3, zt4, zt5, zt6, e0_3, e0_4, e0_10, e0_11] at gx
    have hx : tg t1 (sr sh r0 2) (x1).toNat = tg t0 (sr sh r0 2) (x1).toNat := by rcases Classical.em ((x1).toNat = (x2).toNat) with h | h <;> first | exact hq1 _ h | (rw [h] at hv ⊢; omega)
    try simp only [zt0, zt1, zt2, zt3, zt4, zt5, zt6, e0_3, e0_4, e0_10, e0_11] at hx
    rw [b131_14]
    try simp only [zput_s, zput_n, ti_g, oI_add, oI_sub, oI_mul]
    refine zok_ck ((q0).1) ?_
    refine zok_ck ⟨(by rw [(q0).2.2.2.2.2.1]), zin_o (by omega) (by omega) (by omega)⟩ ?_
    try rw [nN_o (a := x1) (by omega) (by omega)]
    try simp only [zput_s, zput_n, ti_g, oI_add, oI_sub, oI_mul, zt0, zt1, zt2, zt3, zt4, zt5, zt6, e0_3, e0_4, e0_10, e0_11]
    have gl2 := And.intro (tg_lo t1 (sr sh r0 2) ((x1).toNat)) (tg_hi t1 (sr sh r0 2) ((x1).toNat))
    have gm2 := (f0.g).1 ((x1).toNat) (by omega)
    try simp only [zt0, zt1, zt2, zt3, zt4, zt5, zt6, e0_3, e0_4, e0_10, e0_11] at gl2
    try simp only [zt0, zt1, zt2, zt3, zt4, zt5, zt6, e0_3, e0_4, e0_10, e0_11] at gm2
    first | refine zok_le (by omega) (fun c3 => ?_) (fun c3 => ?_) | refine zok_if (fun c3 => ?_) (fun c3 => ?_)
    · exact q0_rt ⟨f0, ⟨by omega, hq1⟩⟩
    · refine zok_ck ((q0).1) ?_
      refine zok_ck ((q0).1) ?_
      refine zok_ck ⟨(by rw [(q0).2.2.2.2.1]), zin_o (by omega) (by omega) (by omega)⟩ ?_
      try rw [nN_o (a := ((1500) * (x1)) + (x3)) (by omega) (by omega)]
      try simp only [zput_s, zput_n, ti_g, oI_add, oI_sub, oI_mul, zt0, zt1, zt2, zt3, zt4, zt5, zt6, e0_3, e0_4, e0_10, e0_11]
      have gl4 := And.intro (tg_lo t1 (sr sh r0 1) ((((1500) * (x1)) + (x3)).toNat)) (tg_hi t1 (sr sh r0 1) ((((1500) * (x1)) + (x3)).toNat))
      try simp only [zt0, zt1, zt2, zt3, zt4, zt5, zt6, e0_3, e0_4, e0_10, e0_11] at gl4
      simp only [zput_s, zput_n, ti_g, oI_add, oI_sub, oI_mul, zt0, zt1, zt2, zt3, zt4, zt5, zt6, e0_3, e0_4, e0_10, e0_11, b131_47]
      try simp only [zput_s, zput_n, ti_g, oI_add, oI_sub, oI_mul]
      refine zok_ck ⟨(by rw [(q0).2.2.2.2.1]), zin_o (by omega) (by omega) (by omega)⟩ ?_
      try rw [nN_o (a := ((1500) * (x2)) + (x3)) (by omega) (by omega)]
      try simp only [zput_s, zput_n, ti_g, oI_add, oI_sub, oI_mul, zt0, zt1, zt2, zt3, zt4, zt5, zt6, e0_3, e0_4, e0_10, e0_11]
      obtain ⟨t6, ht6⟩ : ∃ t', t' = tI t1 (sr sh r0 1) ((((1500) * (x2)) + (x3)).toNat) (oI (tg t1 (sr sh r0 1) ((((1500) * (x1)) + (x3)).toNat))) := ⟨_, rfl⟩
      try simp only [zt0, zt1, zt2, zt3, zt4, zt5, zt6, e0_3, e0_4, e0_10, e0_11] at ht6
      rw [← ht6]
      have f6 : FrV sh r0 [1] t1 t6 := by rw [ht6]; exact GI_free q0 (f0.g) (by decide)
      have w6 : ∀ k, tg t6 (sr sh r0 1) k = if k = (((1500) * (x2)) + (x3)).toNat then tg t1 (sr sh r0 1) ((((1500) * (x1)) + (x3)).toNat) else tg t1 (sr sh r0 1) k := fun k => by rw [ht6]; refine (tg_at (by omega)).trans ?_; first | rfl | simp only [zt0, zt1, zt2, zt3, zt4, zt5, zt6, e0_3, e0_4, e0_10, e0_11, true_and]
      have ws6 : tg t6 (sr sh r0 1) ((((1500) * (x2)) + (x3)).toNat) = tg t1 (sr sh r0 1) ((((1500) * (x1)) + (x3)).toNat) := by rw [w6, if_pos rfl]
      try simp only [zt0, zt1, zt2, zt3, zt4, zt5, zt6, e0_3, e0_4, e0_10, e0_11] at w6
      try simp only [zt0, zt1, zt2, zt3, zt4, zt5, zt6, e0_3, e0_4, e0_10, e0_11] at ws6
      have e6_2 : ∀ k, tg t6 (sr sh r0 2) k = tg t1 (sr sh r0 2) k := fun k => f6.eq q0 (i := 2) (by decide) (by decide) k
      have e6_3 : ∀ k, tg t6 (sr sh r0 3) k = tg t1 (sr sh r0 3) k := fun k => f6.eq q0 (i := 3) (by decide) (by decide) k
      have e6_4 : ∀ k, tg t6 (sr sh r0 4) k = tg t1 (sr sh r0 4) k := fun k => f6.eq q0 (i := 4) (by decide) (by decide) k
      have e6_10 : ∀ k, tg t6 (sr sh r0 10) k = tg t1 (sr sh r0 10) k := fun k => f6.eq q0 (i := 10) (by decide) (by decide) k
      have e6_11 : ∀ k, tg t6 (sr sh r0 11) k = tg t1 (sr sh r0 11) k := fun k => f6.eq q0 (i := 11) (by decide) (by decide) k
      try simp only [zput_s, zput_n, ti_g, oI_add, oI_sub, oI_mul]
      exact ih _ _ ((FrV.trans (Ns := [1, 2]) (f0) f6 (by decide) (by decide))) (by first | omega | ((try simp only [zt0, zt1, zt2, zt3, zt4, zt5, zt6, e0_3, e0_4, e0_10, e0_11, e6_2, e6_3, e6_4, e6_10, e6_11]); omega)) (fun k hk => by first | (simp only [w6, zt0, zt1, zt2, zt3, zt4, zt5, zt6, e0_3, e0_4, e0_10, e0_11, e6_2, e6_3, e6_4, e6_10, e6_11, true_and]; exact hq1 k hk) | rfl | simp only [w6, zt0, zt1, zt2, zt3, zt4, zt5, zt6, e0_3, e0_4, e0_10, e0_11, e6_2, e6_3, e6_4, e6_10, e6_11, true_and, if_neg hk]) (by first | omega | ((try simp only [zt0, zt1, zt2, zt3, zt4, zt5, zt6, e0_3, e0_4, e0_10, e0_11, e6_2, e6_3, e6_4, e6_10, e6_11]); omega))
theorem s131 {sh : zSh} {t : zSt} {MB : Nat} {r0 : Nat} (q0 : zMd sh MB r0) {x1 : Int} (u1 : -2147483648 ≤ x1 ∧ x1 ≤ 2147483647) {x2 : Int} (u2 : -2147483648 ≤ x2 ∧ x2 ≤ 2147483647) (d1 : 0 ≤ x1 ∧ x1 ≤ 13) (d2 : 0 ≤ x2 ∧ x2 ≤ 13) (d3 : (x2 < 8 → tg t (sr sh r0 2) (x1).toNat ≤ 400) ∧ (x2 = 13 → tg t (sr sh r0 2) (x1).toNat ≤ 400) ∧ tg t (sr sh r0 2) (x1).toNat + 1500 * x2 ≤ 21000) (G : GI sh r0 t) : zok (zcl zP 131 [zR r0, zI (oI x1), zI (oI x2)] (sh, t)) (zq0 (fun t' => FrV sh r0 [1, 2] t t' ∧ (tg t' (sr sh r0 2) (x2).toNat = tg t (sr sh r0 2) (x1).toNat ∧ ∀ k, k ≠ (x2).toNat → tg t' (sr sh r0 2) k = tg t (sr sh r0 2) k)) sh) := by
  have ha0_1 : (sk sh (sr sh r0 1)).2 = 21000 := by rw [q0.2.2.2.2.1]
  have ha0_2 : (sk sh (sr sh r0 2)).2 = 14 := by rw [q0.2.2.2.2.2.1]
  have ha0_3 : (sk sh (sr sh r0 3)).2 = 98 := by rw [q0.2.2.2.2.2.2.1]
  have ha0_4 : (sk sh (sr sh r0 4)).2 = 98 := by rw [q0.2.2.2.2.2.2.2.1]
  have ha0_8 : (sk sh (sr sh r0 8)).2 = 1500 := by rw [q0.2.2.2.2.2.2.2.2.1]
  have ha0_9 : (sk sh (sr sh r0 9)).2 = 10500 := by rw [q0.2.2.2.2.2.2.2.2.2.1]
  have ha0_10 : (sk sh (sr sh r0 10)).2 = 7 := by rw [q0.2.2.2.2.2.2.2.2.2.2.1]
  have ha0_11 : (sk sh (sr sh r0 11)).2 = 7 := by rw [q0.2.2.2.2.2.2.2.2.2.2.2.1]
  have ha0_12 : (sk sh (sr sh r0 12)).2 = 1500 := by rw [q0.2.2.2.2.2.2.2.2.2.2.2.2.1]
  have ha0_13 : (sk sh (sr sh r0 13)).2 = 1500 := by rw [q0.2.2.2.2.2.2.2.2.2.2.2.2.2.1]
  have ha0_14 : (sk sh (sr sh r0 14)).2 = 20 := by rw [q0.2.2.2.2.2.2.2.2.2.2.2.2.2.2]
  have gy := G.1 (x1).toNat (by omega)
  rw [b131_0]
  try simp only [zput_s, zput_n, ti_g, oI_add, oI_sub, oI_mul]
  refine zok_ck ((q0).1) ?_
  refine zok_ck ((q0).1) ?_
  refine zok_ck ⟨(by rw [(q0).2.2.2.2.2.1]), zin_o (by omega) (by omega) (by omega)⟩ ?_
  try rw [nN_o (a := x1) (by omega) (by omega)]
  try simp only [zput_s, zput_n, ti_g, oI_add, oI_sub, oI_mul, zt0, zt1, zt2, zt3, zt4, zt5, zt6]
  have gl8 := And.intro (tg_lo t (sr sh r0 2) ((x1).toNat)) (tg_hi t (sr sh r0 2) ((x1).toNat))
  have gm8 := (G).1 ((x1).toNat) (by omega)
  try simp only [zt0, zt1, zt2, zt3, zt4, zt5, zt6] at gl8
  try simp only [zt0, zt1, zt2, zt3, zt4, zt5, zt6] at gm8
  simp only [zput_s, zput_n, ti_g, oI_add, oI_sub, oI_mul, zt0, zt1, zt2, zt3, zt4, zt5, zt6, b131_11]
  try simp only [zput_s, zput_n, ti_g, oI_add, oI_sub, oI_mul]
  refine zok_ck ⟨(by rw [(q0).2.2.2.2.2.1]), zin_o (by omega) (by omega) (by omega)⟩ ?_
  try rw [nN_o (a := x2) (by omega) (by omega)]
  try simp only [zput_s, zput_n, ti_g, oI_add, oI_sub, oI_mul, zt0, zt1, zt2, zt3, zt4, zt5, zt6]
  obtain ⟨t10, ht10⟩ : ∃ t', t' = tI t (sr sh r0 2) ((x2).toNat) (oI (tg t (sr sh r0 2) ((x1).toNat))) := ⟨_, rfl⟩
  try simp only [zt0, zt1, zt2, zt3, zt4, zt5, zt6] at ht10
  rw [← ht10]
  have f10 : FrV sh r0 [2] t t10 := by rw [ht10]; exact GI_sz q0 (G) (by omega) (by omega)
  have w10 : ∀ k, tg t10 (sr sh r0 2) k = if k = (x2).toNat then tg t (sr sh r0 2) ((x1).toNat) else tg t (sr sh r0 2) k := fun k => by rw [ht10]; refine (tg_at (by omega)).trans ?_; first | rfl | simp only [zt0, zt1, zt2, zt3, zt4, zt5, zt6, true_and]
  have ws10 : tg t10 (sr sh r0 2) ((x2).toNat) = tg t (sr sh r0 2) ((x1).toNat) := by rw [w10, if_pos rfl]
  try simp only [zt0, zt1, zt2, zt3, zt4, zt5, zt6] at w10
  try simp only [zt0, zt1, zt2, zt3, zt4, zt5, zt6] at ws10
  have e10_1 : ∀ k, tg t10 (sr sh r0 1) k = tg t (sr sh r0 1) k := fun k => f10.eq q0 (i := 1) (by decide) (by decide) k
  have e10_3 : ∀ k, tg t10 (sr sh r0 3) k = tg t (sr sh r0 3) k := fun k => f10.eq q0 (i := 3) (by decide) (by decide) k
  have e10_4 : ∀ k, tg t10 (sr sh r0 4) k = tg t (sr sh r0 4) k := fun k => f10.eq q0 (i := 4) (by decide) (by decide) k
  have e10_10 : ∀ k, tg t10 (sr sh r0 10) k = tg t (sr sh r0 10) k := fun k => f10.eq q0 (i := 10) (by decide) (by decide) k
  have e10_11 : ∀ k, tg t10 (sr sh r0 11) k = tg t (sr sh r0 11) k := fun k => f10.eq q0 (i := 11) (by decide) (by decide) k
  try simp only [zput_s, zput_n, ti_g, oI_add, oI_sub, oI_mul]
  exact l131_14 q0 (by omega) (by omega) d1 d2 d3 G _ _ _ ((FrV.trans (Ns := [1, 2]) (FrV.refl (Ls := []) G) f10 (by decide) (by decide))) (by first | omega | ((try simp only [zt0, zt1, zt2, zt3, zt4, zt5, zt6, e10_1, e10_3, e10_4, e10_10, e10_11]); omega)) (fun k hk => by first | (simp only [w10, zt0, zt1, zt2, zt3, zt4, zt5, zt6, e10_1, e10_3, e10_4, e10_10, e10_11, true_and]; exact hq1 k hk) | rfl | simp only [w10, zt0, zt1, zt2, zt3, zt4, zt5, zt6, e10_1, e10_3, e10_4, e10_10, e10_11, true_and, if_neg hk]) (Nat.lt_succ_self _)
/-! X9_keep -/
theorem s159 {sh : zSh} {t : zSt} {MB : Nat} {r0 : Nat} (q0 : zMd sh MB r0) {x1 : Int} (u1 : -2147483648 ≤ x1 ∧ x1 ≤ 2147483647) {x2 : Int} (u2 : -2147483648 ≤ x2 ∧ x2 ≤ 2147483647) {x3 : Int} (u3 : -2147483648 ≤ x3 ∧ x3 ≤ 2147483647) (d1 : 0 ≤ x1 ∧ x1 ≤ 7) (d2 : 8 ≤ x2 ∧ x2 ≤ 12) (d3 : 0 < x3) (G : GI sh r0 t) : zok (zcl zP 159 [zR r0, zI (oI x1), zI (oI x2), zI (oI x3)] (sh, t)) (qI (fun x t' => FrV sh r0 [0, 1, 2] t t' ∧ (tg t' (sr sh r0 2) 13 = tg t (sr sh r0 2) 13)) sh) := by
  have ha0_1 : (sk sh (sr sh r0 1)).2 = 21000 := by rw [q0.2.2.2.2.1]
  have ha0_2 : (sk sh (sr sh r0 2)).2 = 14 := by rw [q0.2.2.2.2.2.1]
  have ha0_3 : (sk sh (sr sh r0 3)).2 = 98 := by rw [q0.2.2.2.2.2.2.1]
  have ha0_4 : (sk sh (sr sh r0 4)).2 = 98 := by rw [q0.2.2.2.2.2.2.2.1]
  have ha0_8 : (sk sh (sr sh r0 8)).2 = 1500 := by rw [q0.2.2.2.2.2.2.2.2.1]
  have ha0_9 : (sk sh (sr sh r0 9)).2 = 10500 := by rw [q0.2.2.2.2.2.2.2.2.2.1]
  have ha0_10 : (sk sh (sr sh r0 10)).2 = 7 := by rw [q0.2.2.2.2.2.2.2.2.2.2.1]
  have ha0_11 : (sk sh (sr sh r0 11)).2 = 7 := by rw [q0.2.2.2.2.2.2.2.2.2.2.2.1]
  have ha0_12 : (sk sh (sr sh r0 12)).2 = 1500 := by rw [q0.2.2.2.2.2.2.2.2.2.2.2.2.1]
  have ha0_13 : (sk sh (sr sh r0 13)).2 = 1500 := by rw [q0.2.2.2.2.2.2.2.2.2.2.2.2.2.1]
  have ha0_14 : (sk sh (sr sh r0 14)).2 = 20 := by rw [q0.2.2.2.2.2.2.2.2.2.2.2.2.2.2]
  have gy := G.1 (x2).toNat (by omega)
  have g1_1 := And.intro (tg_lo (tI t r0 0 (oI 0)) r0 0) (tg_hi (tI t r0 0 (oI 0)) r0 0)
  have g1_2 := And.intro (tg_lo (tI t r0 0 (oI x3)) r0 0) (tg_hi (tI t r0 0 (oI x3)) r0 0)
  rw [b159_0]
  try simp only [zput_s, zput_n, ti_g, oI_add, oI_sub, oI_mul]
  refine zok_ck ((q0).1) ?_
  refine zok_ck ⟨(by rw [(q0).2.2.2.2.2.1]), zin_o (by omega) (by omega) (by omega)⟩ ?_
  try rw [nN_o (a := x2) (by omega) (by omega)]
  try simp only [zput_s, zput_n, ti_g, oI_add, oI_sub, oI_mul, zt0, zt1, zt2, zt3, zt4, zt5, zt6]
  have gl2 := And.intro (tg_lo t (sr sh r0 2) ((x2).toNat)) (tg_hi t (sr sh r0 2) ((x2).toNat))
  have gm2 := (G).1 ((x2).toNat) (by omega)
  try simp only [zt0, zt1, zt2, zt3, zt4, zt5, zt6] at gl2
  try simp only [zt0, zt1, zt2, zt3, zt4, zt5, zt6] at gm2
  first | refine zok_le (by omega) (fun c3 => ?_) (fun c3 => ?_) | refine zok_if (fun c3 => ?_) (fun c3 => ?_)
  · refine zok_ck (by first | exact ⟨(q0).1, fun e => by cases e⟩ | exact (q0).1) ?_
    obtain ⟨t4, ht4⟩ : ∃ t', t' = tI t r0 (0) (oI (0)) := ⟨_, rfl⟩
    try simp only [zt0, zt1, zt2, zt3, zt4, zt5, zt6] at ht4
    rw [← ht4]
    have f4 : FrV sh r0 [0] t t4 := by rw [ht4]; exact GI_m q0 (G) (by omega) (fun e => by first | omega | cases e) (fun e => by first | omega | cases e)
    have d4_0 : tg t4 r0 0 = 0 := by rw [ht4]; refine (tg_at (by omega)).trans ?_; first | exact if_pos rfl | exact if_neg (by decide) | (simp only [zt0, zt1, zt2, zt3, zt4, zt5, zt6, true_and, if_true])
    try simp only [zt0, zt1, zt2, zt3, zt4, zt5, zt6] at d4_0
    have e4_2 : ∀ k, tg t4 (sr sh r0 2) k = tg t (sr sh r0 2) k := fun k => f4.eq q0 (i := 2) (by decide) (by decide) k
    have e4_3 : ∀ k, tg t4 (sr sh r0 3) k = tg t (sr sh r0 3) k := fun k => f4.eq q0 (i := 3) (by decide) (by decide) k
    have e4_4 : ∀ k, tg t4 (sr sh r0 4) k = tg t (sr sh r0 4) k := fun k => f4.eq q0 (i := 4) (by decide) (by decide) k
    have e4_10 : ∀ k, tg t4 (sr sh r0 10) k = tg t (sr sh r0 10) k := fun k => f4.eq q0 (i := 10) (by decide) (by decide) k
    have e4_11 : ∀ k, tg t4 (sr sh r0 11) k = tg t (sr sh r0 11) k := fun k => f4.eq q0 (i := 11) (by decide) (by decide) k
    refine zok_ck ((q0).1) ?_
    first | refine zok_le (by omega) (fun c5 => ?_) (fun c5 => ?_) | refine zok_if (fun c5 => ?_) (fun c5 => ?_)
    · refine zok_ck ((q0).1) ?_
      refine zok_c0 (s131 (q0) (by omega) (by omega) (by first | (omega) | ((try simp only [zt0, zt1, zt2, zt3, zt4, zt5, zt6, e4_2, e4_3, e4_4, e4_10, e4_11]); omega)) (by first | (omega) | ((try simp only [zt0, zt1, zt2, zt3, zt4, zt5, zt6, e4_2, e4_3, e4_4, e4_10, e4_11]); omega)) (by first | (omega) | ((try simp only [zt0, zt1, zt2, zt3, zt4, zt5, zt6, e4_2, e4_3, e4_4, e4_10, e4_11]); omega)) (f4.g)) (fun t6 p6 => ?_)
      obtain ⟨f6, p6⟩ := p6
      have e6_3 : ∀ k, tg t6 (sr sh r0 3) k = tg t4 (sr sh r0 3) k := fun k => f6.eq q0 (i := 3) (by decide) (by decide) k
      have e6_4 : ∀ k, tg t6 (sr sh r0 4) k = tg t4 (sr sh r0 4) k := fun k => f6.eq q0 (i := 4) (by decide) (by decide) k
      have e6_10 : ∀ k, tg t6 (sr sh r0 10) k = tg t4 (sr sh r0 10) k := fun k => f6.eq q0 (i := 10) (by decide) (by decide) k
      have e6_11 : ∀ k, tg t6 (sr sh r0 11) k = tg t4 (sr sh r0 11) k := fun k => f6.eq q0 (i := 11) (by decide) (by decide) k
      have d6_0 : tg t6 r0 0 = tg t4 r0 0 := f6.eq q0 (i := 0) (by decide) (by decide) 0
      try simp only [zt0, zt1, zt2, zt3, zt4, zt5, zt6, e4_2, e4_3, e4_4, e4_10, e4_11, e6_3, e6_4, e6_10, e6_11] at p6
      simp only [zput_s, zput_n, ti_g, oI_add, oI_sub, oI_mul, zt0, zt1, zt2, zt3, zt4, zt5, zt6, e4_2, e4_3, e4_4, e4_10, e4_11, e6_3, e6_4, e6_10, e6_11, b159_36]
      try simp only [zput_s, zput_n, ti_g, oI_add, oI_sub, oI_mul]
      refine zok_ck ((q0).1) ?_
      refine zok_ck ⟨(by rw [(q0).2.2.2.2.2.1]), zin_o (by omega) (by omega) (by omega)⟩ ?_
      try rw [nN_o (a := x1) (by omega) (by omega)]
      try simp only [zput_s, zput_n, ti_g, oI_add, oI_sub, oI_mul, zt0, zt1, zt2, zt3, zt4, zt5, zt6, e4_2, e4_3, e4_4, e4_10, e4_11, e6_3, e6_4, e6_10, e6_11]
      have gl8 := And.intro (tg_lo t6 (sr sh r0 2) ((x1).toNat)) (tg_hi t6 (sr sh r0 2) ((x1).toNat))
      have gm8 := (f6.g).1 ((x1).toNat) (by omega)
      try simp only [zt0, zt1, zt2, zt3, zt4, zt5, zt6, e4_2, e4_3, e4_4, e4_10, e4_11, e6_3, e6_4, e6_10, e6_11] at gl8
      try simp only [zt0, zt1, zt2, zt3, zt4, zt5, zt6, e4_2, e4_3, e4_4, e4_10, e4_11, e6_3, e6_4, e6_10, e6_11] at gm8
      first | exact qI_rt (by omega) (by omega) ⟨(FrV.trans (Ns := [0, 1, 2]) ((FrV.trans (Ns := [0, 1, 2]) (FrV.refl (Ls := []) G) f4 (by decide) (by decide))) f6 (by decide) (by decide)), by first | omega | (simp only [zt0, zt1, zt2, zt3, zt4, zt5, zt6, e4_2, e4_3, e4_4, e4_10, e4_11, e6_3, e6_4, e6_10, e6_11]; done) | ((try simp only [zt0, zt1, zt2, zt3, zt4, zt5, zt6, e4_2, e4_3, e4_4, e4_10, e4_11, e6_3, e6_4, e6_10, e6_11]); omega) | (have h := p6.2 13 (by omega); (try simp only [zt0, zt1, zt2, zt3, zt4, zt5, zt6, e4_2, e4_3, e4_4, e4_10, e4_11, e6_3, e6_4, e6_10, e6_11] at h); omega) | ((try simp only [zt0, zt1, zt2, zt3, zt4, zt5, zt6, e4_2, e4_3, e4_4, e4_10, e4_11, e6_3, e6_4, e6_10, e6_11]); exact p6.2 13 (by omega))⟩ | exact qI_nf ⟨(FrV.trans (Ns := [0, 1, 2]) ((FrV.trans (Ns := [0, 1, 2]) (FrV.refl (Ls := []) G) f4 (by decide) (by decide))) f6 (by decide) (by decide)), by first | omega | (simp only [zt0, zt1, zt2, zt3, zt4, zt5, zt6, e4_2, e4_3, e4_4, e4_10, e4_11, e6_3, e6_4, e6_10, e6_11]; done) | ((try simp only [zt0, zt1, zt2, zt3, zt4, zt5, zt6, e4_2, e4_3, e4_4, e4_10, e4_11, e6_3, e6_4, e6_10, e6_11]); omega) | (have h := p6.2 13 (by omega); (try simp only [zt0, zt1, zt2, zt3, zt4, zt5, zt6, e4_2, e4_3, e4_4, e4_10, e4_11, e6_3, e6_4, e6_10, e6_11] at h); omega) | ((try simp only [zt0, zt1, zt2, zt3, zt4, zt5, zt6, e4_2, e4_3, e4_4, e4_10, e4_11, e6_3, e6_4, e6_10, e6_11]); exact p6.2 13 (by omega))⟩
    · first | exact qI_rt (by omega) (by omega) ⟨(FrV.trans (Ns := [0, 1, 2]) (FrV.refl (Ls := []) G) f4 (by decide) (by decide)), by first | omega | (simp only [zt0, zt1, zt2, zt3, zt4, zt5, zt6, e4_2, e4_3, e4_4, e4_10, e4_11]; done) | ((try simp only [zt0, zt1, zt2, zt3, zt4, zt5, zt6, e4_2, e4_3, e4_4, e4_10, e4_11]); omega) | (have h := V1.2 13 (by omega); (try simp only [zt0, zt1, zt2, zt3, zt4, zt5, zt6, e4_2, e4_3, e4_4, e4_10, e4_11] at h); omega) | ((try simp only [zt0, zt1, zt2, zt3, zt4, zt5, zt6, e4_2, e4_3, e4_4, e4_10, e4_11]); exact V1.2 13 (by omega))⟩ | exact qI_nf ⟨(FrV.trans (Ns := [0, 1, 2]) (FrV.refl (Ls := []) G) f4 (by decide) (by decide)), by first | omega | (simp only [zt0, zt1, zt2, zt3, zt4, zt5, zt6, e4_2, e4_3, e4_4, e4_10, e4_11]; done) | ((try simp only [zt0, zt1, zt2, zt3, zt4, zt5, zt6, e4_2, e4_3, e4_4, e4_10, e4_11]); omega) | (have h := V1.2 13 (by omega); (try simp only [zt0, zt1, zt2, zt3, zt4, zt5, zt6, e4_2, e4_3, e4_4, e4_10, e4_11] at h); omega) | ((try simp only [zt0, zt1, zt2, zt3, zt4, zt5, zt6, e4_2, e4_3, e4_4, e4_10, e4_11]); exact V1.2 13 (by omega))⟩
  · refine zok_ck (by first | exact ⟨(q0).1, fun e => by cases e⟩ | exact (q0).1) ?_
    obtain ⟨t9, ht9⟩ : ∃ t', t' = tI t r0 (0) (oI (x3)) := ⟨_, rfl⟩
    try simp only [zt0, zt1, zt2, zt3, zt4, zt5, zt6] at ht9
    rw [← ht9]
    have f9 : FrV sh r0 [0] t t9 := by rw [ht9]; exact GI_m q0 (G) (by omega) (fun e => by first | omega | cases e) (fun e => by first | omega | cases e)
    have d9_0 : tg t9 r0 0 = x3 := by rw [ht9]; refine (tg_at (by omega)).trans ?_; first | exact if_pos rfl | exact if_neg (by decide) | (simp only [zt0, zt1, zt2, zt3, zt4, zt5, zt6, true_and, if_true])
    try simp only [zt0, zt1, zt2, zt3, zt4, zt5, zt6] at d9_0
    have e9_2 : ∀ k, tg t9 (sr sh r0 2) k = tg t (sr sh r0 2) k := fun k => f9.eq q0 (i := 2) (by decide) (by decide) k
    have e9_3 : ∀ k, tg t9 (sr sh r0 3) k = tg t (sr sh r0 3) k := fun k => f9.eq q0 (i := 3) (by decide) (by decide) k
    have e9_4 : ∀ k, tg t9 (sr sh r0 4) k = tg t (sr sh r0 4) k := fun k => f9.eq q0 (i := 4) (by decide) (by decide) k
    have e9_10 : ∀ k, tg t9 (sr sh r0 10) k = tg t (sr sh r0 10) k := fun k => f9.eq q0 (i := 10) (by decide) (by decide) k
    have e9_11 : ∀ k, tg t9 (sr sh r0 11) k = tg t (sr sh r0 11) k := fun k => f9.eq q0 (i := 11) (by decide) (by decide) k
    refine zok_ck ((q0).1) ?_
    first | refine zok_le (by omega) (fun c10 => ?_) (fun c10 => ?_) | refine zok_if (fun c10 => ?_) (fun c10 => ?_)
    · refine zok_ck ((q0).1) ?_
      refine zok_c0 (s131 (q0) (by omega) (by omega) (by first | (omega) | ((try simp only [zt0, zt1, zt2, zt3, zt4, zt5, zt6, e9_2, e9_3, e9_4, e9_10, e9_11]); omega)) (by first | (omega) | ((try simp only [zt0, zt1, zt2, zt3, zt4, zt5, zt6, e9_2, e9_3, e9_4, e9_10, e9_11]); omega)) (by first | (omega) | ((try simp only [zt0, zt1, zt2, zt3, zt4, zt5, zt6, e9_2, e9_3, e9_4, e9_10, e9_11]); omega)) (f9.g)) (fun t11 p11 => ?_)
      obtain ⟨f11, p11⟩ := p11
      have e11_3 : ∀ k, tg t11 (sr sh r0 3) k = tg t9 (sr sh r0 3) k := fun k => f11.eq q0 (i := 3) (by decide) (by decide) k
      have e11_4 : ∀ k, tg t11 (sr sh r0 4) k = tg t9 (sr sh r0 4) k := fun k => f11.eq q0 (i := 4) (by decide) (by decide) k
      have e11_10 : ∀ k, tg t11 (sr sh r0 10) k = tg t9 (sr sh r0 10) k := fun k => f11.eq q0 (i := 10) (by decide) (by decide) k
      have e11_11 : ∀ k, tg t11 (sr sh r0 11) k = tg t9 (sr sh r0 11) k := fun k => f11.eq q0 (i := 11) (by decide) (by decide) k
      have d11_0 : tg t11 r0 0 = tg t9 r0 0 := f11.eq q0 (i := 0) (by decide) (by decide) 0
      try simp only [zt0, zt1, zt2, zt3, zt4, zt5, zt6, e9_2, e9_3, e9_4, e9_10, e9_11, e11_3, e11_4, e11_10, e11_11] at p11
      simp only [zput_s, zput_n, ti_g, oI_add, oI_sub, oI_mul, zt0, zt1, zt2, zt3, zt4, zt5, zt6, e9_2, e9_3, e9_4, e9_10, e9_11, e11_3, e11_4, e11_10, e11_11, b159_36]
      try simp only [zput_s, zput_n, ti_g, oI_add, oI_sub, oI_mul]
      refine zok_ck ((q0).1) ?_
      refine zok_ck ⟨(by rw [(q0).2.2.2.2.2.1]), zin_o (by omega) (by omega) (by omega)⟩ ?_
      try rw [nN_o (a := x1) (by omega) (by omega)]
      try simp only [zput_s, zput_n, ti_g, oI_add, oI_sub, oI_mul, zt0, zt1, zt2, zt3, zt4, zt5, zt6, e9_2, e9_3, e9_4, e9_10, e9_11, e11_3, e11_4, e11_10, e11_11]
      have gl13 := And.intro (tg_lo t11 (sr sh r0 2) ((x1).toNat)) (tg_hi t11 (sr sh r0 2) ((x1).toNat))
      have gm13 := (f11.g).1 ((x1).toNat) (by omega)
      try simp only [zt0, zt1, zt2, zt3, zt4, zt5, zt6, e9_2, e9_3, e9_4, e9_10, e9_11, e11_3, e11_4, e11_10, e11_11] at gl13
      try simp only [zt0, zt1, zt2, zt3, zt4, zt5, zt6, e9_2, e9_3, e9_4, e9_10, e9_11, e11_3, e11_4, e11_10, e11_11] at gm13
      first | exact qI_rt (by omega) (by omega) ⟨(FrV.trans (Ns := [0, 1, 2]) ((FrV.trans (Ns := [0, 1, 2]) (FrV.refl (Ls := []) G) f9 (by decide) (by decide))) f11 (by decide) (by decide)), by first | omega | (simp only [zt0, zt1, zt2, zt3, zt4, zt5, zt6, e9_2, e9_3, e9_4, e9_10, e9_11, e11_3, e11_4, e11_10, e11_11]; done) | ((try simp only [zt0, zt1, zt2, zt3, zt4, zt5, zt6, e9_2, e9_3, e9_4, e9_10, e9_11, e11_3, e11_4, e11_10, e11_11]); omega) | (have h := p11.2 13 (by omega); (try simp only [zt0, zt1, zt2, zt3, zt4, zt5, zt6, e9_2, e9_3, e9_4, e9_10, e9_11, e11_3, e11_4, e11_10, e11_11] at h); omega) | ((try simp only [zt0, zt1, zt2, zt3, zt4, zt5, zt6, e9_2, e9_3, e9_4, e9_10, e9_11, e11_3, e11_4, e11_10, e11_11]); exact p11.2 13 (by omega))⟩ | exact qI_nf ⟨(FrV.trans (Ns := [0, 1, 2]) ((FrV.trans (Ns := [0, 1, 2]) (FrV.refl (Ls := []) G) f9 (by decide) (by decide))) f11 (by decide) (by decide)), by first | omega | (simp only [zt0, zt1, zt2, zt3, zt4, zt5, zt6, e9_2, e9_3, e9_4, e9_10, e9_11, e11_3, e11_4, e11_10, e11_11]; done) | ((try simp only [zt0, zt1, zt2, zt3, zt4, zt5, zt6, e9_2, e9_3, e9_4, e9_10, e9_11, e11_3, e11_4, e11_10, e11_11]); omega) | (have h := p11.2 13 (by omega); (try simp only [zt0, zt1, zt2, zt3, zt4, zt5, zt6, e9_2, e9_3, e9_4, e9_10, e9_11, e11_3, e11_4, e11_10, e11_11] at h); omega) | ((try simp only [zt0, zt1, zt2, zt3, zt4, zt5, zt6, e9_2, e9_3, e9_4, e9_10, e9_11, e11_3, e11_4, e11_10, e11_11]); exact p11.2 13 (by omega))⟩
    · first | exact qI_rt (by omega) (by omega) ⟨(FrV.trans (Ns := [0, 1, 2]) (FrV.refl (Ls := []) G) f9 (by decide) (by decide)), by first | omega | (simp only [zt0, zt1, zt2, zt3, zt4, zt5, zt6, e9_2, e9_3, e9_4, e9_10, e9_11]; done) | ((try simp only [zt0, zt1, zt2, zt3, zt4, zt5, zt6, e9_2, e9_3, e9_4, e9_10, e9_11]); omega) | (have h := V1.2 13 (by omega); (try simp only [zt0, zt1, zt2, zt3, zt4, zt5, zt6, e9_2, e9_3, e9_4, e9_10, e9_11] at h); omega) | ((try simp only [zt0, zt1, zt2, zt3, zt4, zt5, zt6, e9_2, e9_3, e9_4, e9_10, e9_11]); exact V1.2 13 (by omega))⟩ | exact qI_nf ⟨(FrV.trans (Ns := [0, 1, 2]) (FrV.refl (Ls := []) G) f9 (by decide) (by decide)), by first | omega | (simp only [zt0, zt1, zt2, zt3, zt4, zt5, zt6, e9_2, e9_3, e9_4, e9_10, e9_11]; done) | ((try simp only [zt0, zt1, zt2, zt3, zt4, zt5, zt6, e9_2, e9_3, e9_4, e9_10, e9_11]); omega) | (have h := V1.2 13 (by omega); (try simp only [zt0, zt1, zt2, zt3, zt4, zt5, zt6, e9_2, e9_3, e9_4, e9_10, e9_11] at h); omega) | ((try simp only [zt0, zt1, zt2, zt3, zt4, zt5, zt6, e9_2, e9_3, e9_4, e9_10, e9_11]); exact V1.2 13 (by omega))⟩
