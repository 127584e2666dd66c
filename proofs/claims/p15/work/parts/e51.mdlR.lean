set_option maxRecDepth 16384
/-! X9_segment -/
theorem l200_56 {sh : zSh} {t0 : zSt} {MB : Nat} {r0 : Nat} (q0 : zMd sh MB r0) {x1 : Int} (u1 : -2147483648 ≤ x1 ∧ x1 ≤ 2147483647) {x2 : Int} (u2 : -2147483648 ≤ x2 ∧ x2 ≤ 2147483647) (G : GI sh r0 t0) : ∀ (n : Nat)   (t1 : zSt), FrV sh r0 [0, 3, 4, 8] t0 t1 → (0 ≤ x1 ∧ x1 ≤ 7) ∧ (0 ≤ x2 ∧ x2 ≤ zkn (zpa sh r0 t1 x1 4) 47 (zrz sh r0 t1 x1) ((tg t1 (sr sh r0 4) (7 * x1 + 4).toNat - tg t1 (sr sh r0 3) (7 * x1 + 4).toNat) - zrz sh r0 t1 x1).toNat) ∧ (tg t1 (sr sh r0 2) 13 = tg t0 (sr sh r0 2) 13) → ((0 : Int)).toNat < n → zok (zev zP 200 56 [some (zR r0), some (zI (oI x1)), some (zI (oI x2)), none] [] (sh, t1)) (qI (fun x t' => FrV sh r0 [0, 3, 4, 8] t0 t' ∧ (tg t' (sr sh r0 2) 13 = tg t0 (sr sh r0 2) 13)) sh) := by
  intro n
  induction n with
  | zero => intro   t1 f0 _ hm; omega
  | succ n ih =>
    intro   t1 f0 hv hm
    have ha0_1 : (sk sh (sr sh r0 1)).2 = 21000 := by rw [q0.2.2.2.2.1]
    have ha0_2 : (sk sh (sr sh r0 2)).2 = 14 := by rw [q0.2.2.2.2.2.1]
    have ha0_3 : (sk sh (sr sh r0 3)).2 = 98 := by rw [q0.2.2.2.2.2.2.1]
    have ha0_4 : (sk sh (sr sh r0 4)).2 = 98 := by rw [q0.2.2.2.2.2.2.2.1]
    have ha0_8 : (sk sh (sr sh r0 8)).2 = 1500 := by rw [q0.2.2.2.2.2.2.2.2.1]
    have ha0_9 : (sk sh (sr sh r0 9)).2 = 10500 := by rw [q0.2.2.2.2.2.2.2.2.2.1]
    have ha0_10 : (sk sh (sr sh r0 10)).2 = 7 := by rw [q0.2.2.2.2.2.2.2.2.2.2.1]
    have ha0_11 : (sk sh (sr sh r0 11)).2 = 7 := by rw [q0.2.2.2.2.2.2.2.2.2.2.2.1]
    have ha0_12 : (sk sh (sr sh r0 12)).2 = 1500 := by rw [q0.2.2.2.2.2.2.2.2.2.2.2.2.1]
    have ha0_13 : (sk sh (sr sh r0 13)).2 = 1500 := by rw [q0.2.2.2.2.2.2.2.2.2.2.2.2.2.1]
    have ha0_14 : (sk sh (sr sh r0 14)).2 = 20 := by rw [q0.2.2.2.2.2.2.2.2.2.2.2.2.2.2]
    have e0_1 : ∀ k, tg t1 (sr sh r0 1) k = tg t0 (sr sh r0 1) k := fun k => f0.eq q0 (i := 1) (by decide) (by decide) k
    have e0_2 : ∀ k, tg t1 (sr sh r0 2) k = tg t0 (sr sh r0 2) k := fun k => f0.eq q0 (i := 2) (by decide) (by decide) k
    have e0_10 : ∀ k, tg t1 (sr sh r0 10) k = tg t0 (sr sh r0 10) k := fun k => f0.eq q0 (i := 10) (by decide) (by decide) k
    have e0_11 : ∀ k, tg t1 (sr sh r0 11) k = tg t0 (sr sh r0 11) k := fun k => f0.eq q0 (i := 11) (by decide) (by decide) k
    try simp only [zt0, zt1, zt2, zt3, zt4, zt5, zt6, zt7, zt8, zt9, zt10, zt11, zt12, zt13, e0_1, e0_2, e0_10, e0_11] at hv
    try simp only [zt0, zt1, zt2, zt3, zt4, zt5, zt6, zt7, zt8, zt9, zt10, zt11, zt12, zt13, e0_1, e0_2, e0_10, e0_11] at hm
    rw [b200_56]
    try simp only [zput_s, zput_n, ti_g, oI_add, oI_sub, oI_mul]
    refine zok_ck ((q0).1) ?_
    have gr2 := zro_le sh r0 t1 x1
    try simp only [zt0, zt1, zt2, zt3, zt4, zt5, zt6, zt7, zt8, zt9, zt10, zt11, zt12, zt13, e0_1, e0_2, e0_10, e0_11] at gr2
    refine zok_pI (s193 (q0) (by omega) (by first | (omega) | ((try simp only [zt0, zt1, zt2, zt3, zt4, zt5, zt6, zt7, zt8, zt9, zt10, zt11, zt12, zt13, e0_1, e0_2, e0_10, e0_11]); omega)) (f0.g)) (fun y2 u2 p2 => ?_)
    obtain ⟨rfl, p2⟩ := p2
    try simp only [zt0, zt1, zt2, zt3, zt4, zt5, zt6, zt7, zt8, zt9, zt10, zt11, zt12, zt13, e0_1, e0_2, e0_10, e0_11] at p2
    simp only [zput_s, zput_n, ti_g, oI_add, oI_sub, oI_mul, zt0, zt1, zt2, zt3, zt4, zt5, zt6, zt7, zt8, zt9, zt10, zt11, zt12, zt13, e0_1, e0_2, e0_10, e0_11, b200_64]
    try simp only [zput_s, zput_n, ti_g, oI_add, oI_sub, oI_mul]
    refine zok_ck ((q0).1) ?_
    have gd4 := (f0.g).2.1 (7 * x1 + 4).toNat (by omega)
    try simp only [zt0, zt1, zt2, zt3, zt4, zt5, zt6, zt7, zt8, zt9, zt10, zt11, zt12, zt13, e0_1, e0_2, e0_10, e0_11] at gd4
    have gd24 := gd4.2.2.2 (by omega)
    try simp only [zt0, zt1, zt2, zt3, zt4, zt5, zt6, zt7, zt8, zt9, zt10, zt11, zt12, zt13, e0_1, e0_2, e0_10, e0_11] at gd24
    refine zok_pI (s197 (q0) (by omega) (by omega) (by omega) (by omega) (by omega) (by first | (omega) | ((try simp only [zt0, zt1, zt2, zt3, zt4, zt5, zt6, zt7, zt8, zt9, zt10, zt11, zt12, zt13, e0_1, e0_2, e0_10, e0_11]); omega)) (by first | (omega) | ((try simp only [zt0, zt1, zt2, zt3, zt4, zt5, zt6, zt7, zt8, zt9, zt10, zt11, zt12, zt13, e0_1, e0_2, e0_10, e0_11]); omega)) (by first | (omega) | ((try simp only [zt0, zt1, zt2, zt3, zt4, zt5, zt6, zt7, zt8, zt9, zt10, zt11, zt12, zt13, e0_1, e0_2, e0_10, e0_11]); omega)) (by first | (omega) | ((try simp only [zt0, zt1, zt2, zt3, zt4, zt5, zt6, zt7, zt8, zt9, zt10, zt11, zt12, zt13, e0_1, e0_2, e0_10, e0_11]); omega)) (f0.g)) (fun y4 u4 p4 => ?_)
    try simp only [zt0, zt1, zt2, zt3, zt4, zt5, zt6, zt7, zt8, zt9, zt10, zt11, zt12, zt13, e0_1, e0_2, e0_10, e0_11] at p4
    simp only [zput_s, zput_n, ti_g, oI_add, oI_sub, oI_mul, zt0, zt1, zt2, zt3, zt4, zt5, zt6, zt7, zt8, zt9, zt10, zt11, zt12, zt13, e0_1, e0_2, e0_10, e0_11, b200_70]
    try simp only [zput_s, zput_n, ti_g, oI_add, oI_sub, oI_mul]
    refine zok_ck ((q0).1) ?_
    refine zok_pI (s198 (q0) (by omega) (by omega) (by omega) (by omega) (by first | (omega) | ((try simp only [zt0, zt1, zt2, zt3, zt4, zt5, zt6, zt7, zt8, zt9, zt10, zt11, zt12, zt13, e0_1, e0_2, e0_10, e0_11]); omega)) (by first | (omega) | ((try simp only [zt0, zt1, zt2, zt3, zt4, zt5, zt6, zt7, zt8, zt9, zt10, zt11, zt12, zt13, e0_1, e0_2, e0_10, e0_11]); omega)) (by first | (omega) | ((try simp only [zt0, zt1, zt2, zt3, zt4, zt5, zt6, zt7, zt8, zt9, zt10, zt11, zt12, zt13, e0_1, e0_2, e0_10, e0_11]); omega)) (f0.g)) (fun y6 u6 p6 => ?_)
    try simp only [zt0, zt1, zt2, zt3, zt4, zt5, zt6, zt7, zt8, zt9, zt10, zt11, zt12, zt13, e0_1, e0_2, e0_10, e0_11] at p6
    simp only [zput_s, zput_n, ti_g, oI_add, oI_sub, oI_mul, zt0, zt1, zt2, zt3, zt4, zt5, zt6, zt7, zt8, zt9, zt10, zt11, zt12, zt13, e0_1, e0_2, e0_10, e0_11, b200_84]
    try simp only [zput_s, zput_n, ti_g, oI_add, oI_sub, oI_mul]
    refine zok_ck ((q0).1) ?_
    have gd8 := (f0.g).2.1 (7 * x1 + 4).toNat (by omega)
    try simp only [zt0, zt1, zt2, zt3, zt4, zt5, zt6, zt7, zt8, zt9, zt10, zt11, zt12, zt13, e0_1, e0_2, e0_10, e0_11] at gd8
    have gd28 := gd8.2.2.2 (by omega)
    try simp only [zt0, zt1, zt2, zt3, zt4, zt5, zt6, zt7, zt8, zt9, zt10, zt11, zt12, zt13, e0_1, e0_2, e0_10, e0_11] at gd28
    refine zok_cI (s199 (q0) (by omega) (by omega) (by omega) (by omega) (by first | (omega) | ((try simp only [zt0, zt1, zt2, zt3, zt4, zt5, zt6, zt7, zt8, zt9, zt10, zt11, zt12, zt13, e0_1, e0_2, e0_10, e0_11]); omega)) (by first | (omega) | ((try simp only [zt0, zt1, zt2, zt3, zt4, zt5, zt6, zt7, zt8, zt9, zt10, zt11, zt12, zt13, e0_1, e0_2, e0_10, e0_11]); omega)) (by first | (omega) | ((try simp only [zt0, zt1, zt2, zt3, zt4, zt5, zt6, zt7, zt8, zt9, zt10, zt11, zt12, zt13, e0_1, e0_2, e0_10, e0_11]); omega)) (by first | (omega) | ((try simp only [zt0, zt1, zt2, zt3, zt4, zt5, zt6, zt7, zt8, zt9, zt10, zt11, zt12, zt13, e0_1, e0_2, e0_10, e0_11]); omega)) (f0.g)) (fun y8 t8 u8 p8 => ?_)
    obtain ⟨f8, p8⟩ := p8
    have e8_1 : ∀ k, tg t8 (sr sh r0 1) k = tg t1 (sr sh r0 1) k := fun k => f8.eq q0 (i := 1) (by decide) (by decide) k
    have e8_2 : ∀ k, tg t8 (sr sh r0 2) k = tg t1 (sr sh r0 2) k := fun k => f8.eq q0 (i := 2) (by decide) (by decide) k
    have e8_3 : ∀ k, tg t8 (sr sh r0 3) k = tg t1 (sr sh r0 3) k := fun k => f8.eq q0 (i := 3) (by decide) (by decide) k
    have e8_4 : ∀ k, tg t8 (sr sh r0 4) k = tg t1 (sr sh r0 4) k := fun k => f8.eq q0 (i := 4) (by decide) (by decide) k
    have e8_10 : ∀ k, tg t8 (sr sh r0 10) k = tg t1 (sr sh r0 10) k := fun k => f8.eq q0 (i := 10) (by decide) (by decide) k
    have e8_11 : ∀ k, tg t8 (sr sh r0 11) k = tg t1 (sr sh r0 11) k := fun k => f8.eq q0 (i := 11) (by decide) (by decide) k
    have z8p : ∀ r p, zpa sh r0 t8 r p = zpa sh r0 t1 r p := zpa_eq e8_1 e8_2 e8_3 e8_4
    have z8r : ∀ r, zrz sh r0 t8 r = zrz sh r0 t1 r := fun r => by unfold zrz; rw [z8p]
    try simp only [zt0, zt1, zt2, zt3, zt4, zt5, zt6, zt7, zt8, zt9, zt10, zt11, zt12, zt13, e0_1, e0_2, e0_10, e0_11, e8_1, e8_2, e8_3, e8_4, e8_10, e8_11, z8p, z8r] at p8
    simp only [zput_s, zput_n, ti_g, oI_add, oI_sub, oI_mul, zt0, zt1, zt2, zt3, zt4, zt5, zt6, zt7, zt8, zt9, zt10, zt11, zt12, zt13, e0_1, e0_2, e0_10, e0_11, e8_1, e8_2, e8_3, e8_4, e8_10, e8_11, z8p, z8r, b200_87]
    try simp only [zput_s, zput_n, ti_g, oI_add, oI_sub, oI_mul]
    first | exact qI_rt (by omega) (by omega) ⟨(FrV.trans (Ns := [0, 3, 4, 8]) (f0) f8 (by decide) (by decide)), by ((try have c0 := hq1 13 (by decide)); (try have c0 := hq1 13); (try have c2 := e0_2 13); (try have c6 := e8_2 13); (try simp only [zt0, zt1, zt2, zt3, zt4, zt5, zt6, zt7, zt8, zt9, zt10, zt11, zt12, zt13] at *) <;> omega)⟩ | exact qI_nf ⟨(FrV.trans (Ns := [0, 3, 4, 8]) (f0) f8 (by decide) (by decide)), by ((try have c0 := hq1 13 (by decide)); (try have c0 := hq1 13); (try have c2 := e0_2 13); (try have c6 := e8_2 13); (try simp only [zt0, zt1, zt2, zt3, zt4, zt5, zt6, zt7, zt8, zt9, zt10, zt11, zt12, zt13] at *) <;> omega)⟩
theorem s200 {sh : zSh} {t : zSt} {MB : Nat} {r0 : Nat} (q0 : zMd sh MB r0) {x1 : Int} (u1 : -2147483648 ≤ x1 ∧ x1 ≤ 2147483647) {x2 : Int} (u2 : -2147483648 ≤ x2 ∧ x2 ≤ 2147483647) (G : GI sh r0 t) : zok (zcl zP 200 [zR r0, zI (oI x1), zI (oI x2)] (sh, t)) (qI (fun x t' => FrV sh r0 [0, 3, 4, 8] t t' ∧ (tg t' (sr sh r0 2) 13 = tg t (sr sh r0 2) 13)) sh) := by
  have ha0_1 : (sk sh (sr sh r0 1)).2 = 21000 := by rw [q0.2.2.2.2.1]
  have ha0_2 : (sk sh (sr sh r0 2)).2 = 14 := by rw [q0.2.2.2.2.2.1]
  have ha0_3 : (sk sh (sr sh r0 3)).2 = 98 := by rw [q0.2.2.2.2.2.2.1]
  have ha0_4 : (sk sh (sr sh r0 4)).2 = 98 := by rw [q0.2.2.2.2.2.2.2.1]
  have ha0_8 : (sk sh (sr sh r0 8)).2 = 1500 := by rw [q0.2.2.2.2.2.2.2.2.1]
  have ha0_9 : (sk sh (sr sh r0 9)).2 = 10500 := by rw [q0.2.2.2.2.2.2.2.2.2.1]
  have ha0_10 : (sk sh (sr sh r0 10)).2 = 7 := by rw [q0.2.2.2.2.2.2.2.2.2.2.1]
  have ha0_11 : (sk sh (sr sh r0 11)).2 = 7 := by rw [q0.2.2.2.2.2.2.2.2.2.2.2.1]
  have ha0_12 : (sk sh (sr sh r0 12)).2 = 1500 := by rw [q0.2.2.2.2.2.2.2.2.2.2.2.2.1]
  have ha0_13 : (sk sh (sr sh r0 13)).2 = 1500 := by rw [q0.2.2.2.2.2.2.2.2.2.2.2.2.2.1]
  have ha0_14 : (sk sh (sr sh r0 14)).2 = 20 := by rw [q0.2.2.2.2.2.2.2.2.2.2.2.2.2.2]
  rw [b200_0]
  try simp only [zput_s, zput_n, ti_g, oI_add, oI_sub, oI_mul]
  refine zok_pI (s127 (by omega)) (fun y11 u11 p11 => ?_)
  try simp only [zt0, zt1, zt2, zt3, zt4, zt5, zt6, zt7, zt8, zt9, zt10, zt11, zt12, zt13] at p11
  have g12_1 := And.intro (tg_lo (tI t r0 0 (oI 1)) r0 0) (tg_hi (tI t r0 0 (oI 1)) r0 0)
  have g12_2 := And.intro (tg_lo (tI t r0 0 (oI 0)) r0 0) (tg_hi (tI t r0 0 (oI 0)) r0 0)
  simp only [zput_s, zput_n, ti_g, oI_add, oI_sub, oI_mul, zt0, zt1, zt2, zt3, zt4, zt5, zt6, zt7, zt8, zt9, zt10, zt11, zt12, zt13, b200_5]
  try simp only [zput_s, zput_n, ti_g, oI_add, oI_sub, oI_mul]
  first | refine zok_eq (by omega) (fun c13 => ?_) (fun c13 => ?_) | refine zok_if (fun c13 => ?_) (fun c13 => ?_)
  · refine zok_ck (by first | exact ⟨(q0).1, fun e => by cases e⟩ | exact (q0).1) ?_
    obtain ⟨t14, ht14⟩ : ∃ t', t' = tI t r0 (0) (oI (1)) := ⟨_, rfl⟩
    try simp only [zt0, zt1, zt2, zt3, zt4, zt5, zt6, zt7, zt8, zt9, zt10, zt11, zt12, zt13] at ht14
    rw [← ht14]
    have f14 : FrV sh r0 [0] t t14 := by rw [ht14]; exact GI_m q0 (G) (by omega) (fun e => by first | omega | cases e) (fun e => by first | omega | cases e)
    have d14_0 : tg t14 r0 0 = 1 := by rw [ht14]; refine (tg_at (by omega)).trans ?_; first | exact if_pos rfl | exact if_neg (by decide) | (simp only [zt0, zt1, zt2, zt3, zt4, zt5, zt6, zt7, zt8, zt9, zt10, zt11, zt12, zt13, true_and, if_true])
    try simp only [zt0, zt1, zt2, zt3, zt4, zt5, zt6, zt7, zt8, zt9, zt10, zt11, zt12, zt13] at d14_0
    have e14_1 : ∀ k, tg t14 (sr sh r0 1) k = tg t (sr sh r0 1) k := fun k => f14.eq q0 (i := 1) (by decide) (by decide) k
    have e14_2 : ∀ k, tg t14 (sr sh r0 2) k = tg t (sr sh r0 2) k := fun k => f14.eq q0 (i := 2) (by decide) (by decide) k
    have e14_3 : ∀ k, tg t14 (sr sh r0 3) k = tg t (sr sh r0 3) k := fun k => f14.eq q0 (i := 3) (by decide) (by decide) k
    have e14_4 : ∀ k, tg t14 (sr sh r0 4) k = tg t (sr sh r0 4) k := fun k => f14.eq q0 (i := 4) (by decide) (by decide) k
    have e14_10 : ∀ k, tg t14 (sr sh r0 10) k = tg t (sr sh r0 10) k := fun k => f14.eq q0 (i := 10) (by decide) (by decide) k
    have e14_11 : ∀ k, tg t14 (sr sh r0 11) k = tg t (sr sh r0 11) k := fun k => f14.eq q0 (i := 11) (by decide) (by decide) k
    have z14p : ∀ r p, zpa sh r0 t14 r p = zpa sh r0 t r p := zpa_eq e14_1 e14_2 e14_3 e14_4
    have z14r : ∀ r, zrz sh r0 t14 r = zrz sh r0 t r := fun r => by unfold zrz; rw [z14p]
    refine zok_ck ((q0).1) ?_
    first | refine zok_ne (by omega) (fun c15 => ?_) (fun c15 => ?_) | refine zok_if (fun c15 => ?_) (fun c15 => ?_)
    · refine zok_ck ((q0).1) ?_
      first | refine zok_le (by omega) (fun c16 => ?_) (fun c16 => ?_) | refine zok_if (fun c16 => ?_) (fun c16 => ?_)
      · try simp only [zput_s, zput_n, ti_g, oI_add, oI_sub, oI_mul]
        exact l200_56 q0 (by omega) (by omega) G _ _ ((FrV.trans (Ns := [0, 3, 4, 8]) (FrV.refl (Ls := []) G) f14 (by decide) (by decide))) (by first | omega | ((try simp only [zt0, zt1, zt2, zt3, zt4, zt5, zt6, zt7, zt8, zt9, zt10, zt11, zt12, zt13, e14_1, e14_2, e14_3, e14_4, e14_10, e14_11, z14p, z14r, true_and, and_true]); omega)) (Nat.lt_succ_self _)
      · first | exact qI_rt (by omega) (by omega) ⟨(FrV.trans (Ns := [0, 3, 4, 8]) (FrV.refl (Ls := []) G) f14 (by decide) (by decide)), by ((try have c0 := hq1 13 (by decide)); (try have c0 := hq1 13); (try have c2 := e14_2 13); (try simp only [zt0, zt1, zt2, zt3, zt4, zt5, zt6, zt7, zt8, zt9, zt10, zt11, zt12, zt13] at *) <;> omega)⟩ | exact qI_nf ⟨(FrV.trans (Ns := [0, 3, 4, 8]) (FrV.refl (Ls := []) G) f14 (by decide) (by decide)), by ((try have c0 := hq1 13 (by decide)); (try have c0 := hq1 13); (try have c2 := e14_2 13); (try simp only [zt0, zt1, zt2, zt3, zt4, zt5, zt6, zt7, zt8, zt9, zt10, zt11, zt12, zt13] at *) <;> omega)⟩
    · refine zok_ck ((q0).1) ?_
      refine zok_cI (s195 (q0) (by omega) (by first | (omega) | ((try simp only [zt0, zt1, zt2, zt3, zt4, zt5, zt6, zt7, zt8, zt9, zt10, zt11, zt12, zt13, e14_1, e14_2, e14_3, e14_4, e14_10, e14_11, z14p, z14r]); omega)) (f14.g)) (fun y17 t17 u17 p17 => ?_)
      obtain ⟨f17, p17⟩ := p17
      have e17_1 : ∀ k, tg t17 (sr sh r0 1) k = tg t14 (sr sh r0 1) k := fun k => f17.eq q0 (i := 1) (by decide) (by decide) k
      have e17_2 : ∀ k, tg t17 (sr sh r0 2) k = tg t14 (sr sh r0 2) k := fun k => f17.eq q0 (i := 2) (by decide) (by decide) k
      have e17_10 : ∀ k, tg t17 (sr sh r0 10) k = tg t14 (sr sh r0 10) k := fun k => f17.eq q0 (i := 10) (by decide) (by decide) k
      have e17_11 : ∀ k, tg t17 (sr sh r0 11) k = tg t14 (sr sh r0 11) k := fun k => f17.eq q0 (i := 11) (by decide) (by decide) k
      have d17_0 : tg t17 r0 0 = tg t14 r0 0 := f17.eq q0 (i := 0) (by decide) (by decide) 0
      try simp only [zt0, zt1, zt2, zt3, zt4, zt5, zt6, zt7, zt8, zt9, zt10, zt11, zt12, zt13, e14_1, e14_2, e14_3, e14_4, e14_10, e14_11, z14p, z14r, e17_1, e17_2, e17_10, e17_11] at p17
      simp only [zput_s, zput_n, ti_g, oI_add, oI_sub, oI_mul, zt0, zt1, zt2, zt3, zt4, zt5, zt6, zt7, zt8, zt9, zt10, zt11, zt12, zt13, e14_1, e14_2, e14_3, e14_4, e14_10, e14_11, z14p, z14r, e17_1, e17_2, e17_10, e17_11, b200_31]
      try simp only [zput_s, zput_n, ti_g, oI_add, oI_sub, oI_mul]
      refine zok_pI (s120 (by omega) (by omega) (by omega)) (fun y19 u19 p19 => ?_)
      try simp only [zt0, zt1, zt2, zt3, zt4, zt5, zt6, zt7, zt8, zt9, zt10, zt11, zt12, zt13, e14_1, e14_2, e14_3, e14_4, e14_10, e14_11, z14p, z14r, e17_1, e17_2, e17_10, e17_11] at p19
      have g20_1 := And.intro (tg_lo (tI t17 r0 0 (oI 2)) r0 0) (tg_hi (tI t17 r0 0 (oI 2)) r0 0)
      have g20_2 := And.intro (tg_lo (tI t17 r0 0 (oI 0)) r0 0) (tg_hi (tI t17 r0 0 (oI 0)) r0 0)
      simp only [zput_s, zput_n, ti_g, oI_add, oI_sub, oI_mul, zt0, zt1, zt2, zt3, zt4, zt5, zt6, zt7, zt8, zt9, zt10, zt11, zt12, zt13, e14_1, e14_2, e14_3, e14_4, e14_10, e14_11, z14p, z14r, e17_1, e17_2, e17_10, e17_11, b200_36]
      try simp only [zput_s, zput_n, ti_g, oI_add, oI_sub, oI_mul]
      first | refine zok_eq (by omega) (fun c21 => ?_) (fun c21 => ?_) | refine zok_if (fun c21 => ?_) (fun c21 => ?_)
      · refine zok_ck (by first | exact ⟨(q0).1, fun e => by cases e⟩ | exact (q0).1) ?_
        obtain ⟨t22, ht22⟩ : ∃ t', t' = tI t17 r0 (0) (oI (2)) := ⟨_, rfl⟩
        try simp only [zt0, zt1, zt2, zt3, zt4, zt5, zt6, zt7, zt8, zt9, zt10, zt11, zt12, zt13, e14_1, e14_2, e14_3, e14_4, e14_10, e14_11, z14p, z14r, e17_1, e17_2, e17_10, e17_11] at ht22
        rw [← ht22]
        have f22 : FrV sh r0 [0] t17 t22 := by rw [ht22]; exact GI_m q0 (f17.g) (by omega) (fun e => by first | omega | cases e) (fun e => by first | omega | cases e)
        have d22_0 : tg t22 r0 0 = 2 := by rw [ht22]; refine (tg_at (by omega)).trans ?_; first | exact if_pos rfl | exact if_neg (by decide) | (simp only [zt0, zt1, zt2, zt3, zt4, zt5, zt6, zt7, zt8, zt9, zt10, zt11, zt12, zt13, e14_1, e14_2, e14_3, e14_4, e14_10, e14_11, z14p, z14r, e17_1, e17_2, e17_10, e17_11, true_and, if_true])
        try simp only [zt0, zt1, zt2, zt3, zt4, zt5, zt6, zt7, zt8, zt9, zt10, zt11, zt12, zt13, e14_1, e14_2, e14_3, e14_4, e14_10, e14_11, z14p, z14r, e17_1, e17_2, e17_10, e17_11] at d22_0
        have e22_1 : ∀ k, tg t22 (sr sh r0 1) k = tg t17 (sr sh r0 1) k := fun k => f22.eq q0 (i := 1) (by decide) (by decide) k
        have e22_2 : ∀ k, tg t22 (sr sh r0 2) k = tg t17 (sr sh r0 2) k := fun k => f22.eq q0 (i := 2) (by decide) (by decide) k
        have e22_3 : ∀ k, tg t22 (sr sh r0 3) k = tg t17 (sr sh r0 3) k := fun k => f22.eq q0 (i := 3) (by decide) (by decide) k
        have e22_4 : ∀ k, tg t22 (sr sh r0 4) k = tg t17 (sr sh r0 4) k := fun k => f22.eq q0 (i := 4) (by decide) (by decide) k
        have e22_10 : ∀ k, tg t22 (sr sh r0 10) k = tg t17 (sr sh r0 10) k := fun k => f22.eq q0 (i := 10) (by decide) (by decide) k
        have e22_11 : ∀ k, tg t22 (sr sh r0 11) k = tg t17 (sr sh r0 11) k := fun k => f22.eq q0 (i := 11) (by decide) (by decide) k
        have z22p : ∀ r p, zpa sh r0 t22 r p = zpa sh r0 t17 r p := zpa_eq e22_1 e22_2 e22_3 e22_4
        have z22r : ∀ r, zrz sh r0 t22 r = zrz sh r0 t17 r := fun r => by unfold zrz; rw [z22p]
        refine zok_ck ((q0).1) ?_
        first | refine zok_le (by omega) (fun c23 => ?_) (fun c23 => ?_) | refine zok_if (fun c23 => ?_) (fun c23 => ?_)
        · try simp only [zput_s, zput_n, ti_g, oI_add, oI_sub, oI_mul]
          exact l200_56 q0 (by omega) (by omega) G _ _ ((FrV.trans (Ns := [0, 3, 4, 8]) ((FrV.trans (Ns := [0, 3, 4, 8]) ((FrV.trans (Ns := [0, 3, 4, 8]) (FrV.refl (Ls := []) G) f14 (by decide) (by decide))) f17 (by decide) (by decide))) f22 (by decide) (by decide))) (by first | omega | ((try simp only [zt0, zt1, zt2, zt3, zt4, zt5, zt6, zt7, zt8, zt9, zt10, zt11, zt12, zt13, e14_1, e14_2, e14_3, e14_4, e14_10, e14_11, z14p, z14r, e17_1, e17_2, e17_10, e17_11, e22_1, e22_2, e22_3, e22_4, e22_10, e22_11, z22p, z22r, true_and, and_true]); omega)) (Nat.lt_succ_self _)
        · first | exact qI_rt (by omega) (by omega) ⟨(FrV.trans (Ns := [0, 3, 4, 8]) ((FrV.trans (Ns := [0, 3, 4, 8]) ((FrV.trans (Ns := [0, 3, 4, 8]) (FrV.refl (Ls := []) G) f14 (by decide) (by decide))) f17 (by decide) (by decide))) f22 (by decide) (by decide)), by ((try have c0 := hq1 13 (by decide)); (try have c0 := hq1 13); (try have c2 := e14_2 13); (try have c8 := e17_2 13); (try have c12 := e22_2 13); (try simp only [zt0, zt1, zt2, zt3, zt4, zt5, zt6, zt7, zt8, zt9, zt10, zt11, zt12, zt13] at *) <;> omega)⟩ | exact qI_nf ⟨(FrV.trans (Ns := [0, 3, 4, 8]) ((FrV.trans (Ns := [0, 3, 4, 8]) ((FrV.trans (Ns := [0, 3, 4, 8]) (FrV.refl (Ls := []) G) f14 (by decide) (by decide))) f17 (by decide) (by decide))) f22 (by decide) (by decide)), by ((try have c0 := hq1 13 (by decide)); (try have c0 := hq1 13); (try have c2 := e14_2 13); (try have c8 := e17_2 13); (try have c12 := e22_2 13); (try simp only [zt0, zt1, zt2, zt3, zt4, zt5, zt6, zt7, zt8, zt9, zt10, zt11, zt12, zt13] at *) <;> omega)⟩
      · refine zok_ck (by first | exact ⟨(q0).1, fun e => by cases e⟩ | exact (q0).1) ?_
        obtain ⟨t24, ht24⟩ : ∃ t', t' = tI t17 r0 (0) (oI (0)) := ⟨_, rfl⟩
        try simp only [zt0, zt1, zt2, zt3, zt4, zt5, zt6, zt7, zt8, zt9, zt10, zt11, zt12, zt13, e14_1, e14_2, e14_3, e14_4, e14_10, e14_11, z14p, z14r, e17_1, e17_2, e17_10, e17_11] at ht24
        rw [← ht24]
        have f24 : FrV sh r0 [0] t17 t24 := by rw [ht24]; exact GI_m q0 (f17.g) (by omega) (fun e => by first | omega | cases e) (fun e => by first | omega | cases e)
        have d24_0 : tg t24 r0 0 = 0 := by rw [ht24]; refine (tg_at (by omega)).trans ?_; first | exact if_pos rfl | exact if_neg (by decide) | (simp only [zt0, zt1, zt2, zt3, zt4, zt5, zt6, zt7, zt8, zt9, zt10, zt11, zt12, zt13, e14_1, e14_2, e14_3, e14_4, e14_10, e14_11, z14p, z14r, e17_1, e17_2, e17_10, e17_11, true_and, if_true])
        try simp only [zt0, zt1, zt2, zt3, zt4, zt5, zt6, zt7, zt8, zt9, zt10, zt11, zt12, zt13, e14_1, e14_2, e14_3, e14_4, e14_10, e14_11, z14p, z14r, e17_1, e17_2, e17_10, e17_11] at d24_0
        have e24_1 : ∀ k, tg t24 (sr sh r0 1) k = tg t17 (sr sh r0 1) k := fun k => f24.eq q0 (i := 1) (by decide) (by decide) k
        have e24_2 : ∀ k, tg t24 (sr sh r0 2) k = tg t17 (sr sh r0 2) k := fun k => f24.eq q0 (i := 2) (by decide) (by decide) k
        have e24_3 : ∀ k, tg t24 (sr sh r0 3) k = tg t17 (sr sh r0 3) k := fun k => f24.eq q0 (i := 3) (by decide) (by decide) k
        have e24_4 : ∀ k, tg t24 (sr sh r0 4) k = tg t17 (sr sh r0 4) k := fun k => f24.eq q0 (i := 4) (by decide) (by decide) k
        have e24_10 : ∀ k, tg t24 (sr sh r0 10) k = tg t17 (sr sh r0 10) k := fun k => f24.eq q0 (i := 10) (by decide) (by decide) k
        have e24_11 : ∀ k, tg t24 (sr sh r0 11) k = tg t17 (sr sh r0 11) k := fun k => f24.eq q0 (i := 11) (by decide) (by decide) k
        have z24p : ∀ r p, zpa sh r0 t24 r p = zpa sh r0 t17 r p := zpa_eq e24_1 e24_2 e24_3 e24_4
        have z24r : ∀ r, zrz sh r0 t24 r = zrz sh r0 t17 r := fun r => by unfold zrz; rw [z24p]
        refine zok_ck ((q0).1) ?_
        first | refine zok_le (by omega) (fun c25 => ?_) (fun c25 => ?_) | refine zok_if (fun c25 => ?_) (fun c25 => ?_)
        · try simp only [zput_s, zput_n, ti_g, oI_add, oI_sub, oI_mul]
          exact l200_56 q0 (by omega) (by omega) G _ _ ((FrV.trans (Ns := [0, 3, 4, 8]) ((FrV.trans (Ns := [0, 3, 4, 8]) ((FrV.trans (Ns := [0, 3, 4, 8]) (FrV.refl (Ls := []) G) f14 (by decide) (by decide))) f17 (by decide) (by decide))) f24 (by decide) (by decide))) (by first | omega | ((try simp only [zt0, zt1, zt2, zt3, zt4, zt5, zt6, zt7, zt8, zt9, zt10, zt11, zt12, zt13, e14_1, e14_2, e14_3, e14_4, e14_10, e14_11, z14p, z14r, e17_1, e17_2, e17_10, e17_11, e24_1, e24_2, e24_3, e24_4, e24_10, e24_11, z24p, z24r, true_and, and_true]); omega)) (Nat.lt_succ_self _)
        · first | exact qI_rt (by omega) (by omega) ⟨(FrV.trans (Ns := [0, 3, 4, 8]) ((FrV.trans (Ns := [0, 3, 4, 8]) ((FrV.trans (Ns := [0, 3, 4, 8]) (FrV.refl (Ls := []) G) f14 (by decide) (by decide))) f17 (by decide) (by decide))) f24 (by decide) (by decide)), by ((try have c0 := hq1 13 (by decide)); (try have c0 := hq1 13); (try have c2 := e14_2 13); (try have c8 := e17_2 13); (try have c12 := e24_2 13); (try simp only [zt0, zt1, zt2, zt3, zt4, zt5, zt6, zt7, zt8, zt9, zt10, zt11, zt12, zt13] at *) <;> omega)⟩ | exact qI_nf ⟨(FrV.trans (Ns := [0, 3, 4, 8]) ((FrV.trans (Ns := [0, 3, 4, 8]) ((FrV.trans (Ns := [0, 3, 4, 8]) (FrV.refl (Ls := []) G) f14 (by decide) (by decide))) f17 (by decide) (by decide))) f24 (by decide) (by decide)), by ((try have c0 := hq1 13 (by decide)); (try have c0 := hq1 13); (try have c2 := e14_2 13); (try have c8 := e17_2 13); (try have c12 := e24_2 13); (try simp only [zt0, zt1, zt2, zt3, zt4, zt5, zt6, zt7, zt8, zt9, zt10, zt11, zt12, zt13] at *) <;> omega)⟩
  · refine zok_ck (by first | exact ⟨(q0).1, fun e => by cases e⟩ | exact (q0).1) ?_
    obtain ⟨t26, ht26⟩ : ∃ t', t' = tI t r0 (0) (oI (0)) := ⟨_, rfl⟩
    try simp only [zt0, zt1, zt2, zt3, zt4, zt5, zt6, zt7, zt8, zt9, zt10, zt11, zt12, zt13] at ht26
    rw [← ht26]
    have f26 : FrV sh r0 [0] t t26 := by rw [ht26]; exact GI_m q0 (G) (by omega) (fun e => by first | omega | cases e) (fun e => by first | omega | cases e)
    have d26_0 : tg t26 r0 0 = 0 := by rw [ht26]; refine (tg_at (by omega)).trans ?_; first | exact if_pos rfl | exact if_neg (by decide) | (simp only [zt0, zt1, zt2, zt3, zt4, zt5, zt6, zt7, zt8, zt9, zt10, zt11, zt12, zt13, true_and, if_true])
    try simp only [zt0, zt1, zt2, zt3, zt4, zt5, zt6, zt7, zt8, zt9, zt10, zt11, zt12, zt13] at d26_0
    have e26_1 : ∀ k, tg t26 (sr sh r0 1) k = tg t (sr sh r0 1) k := fun k => f26.eq q0 (i := 1) (by decide) (by decide) k
    have e26_2 : ∀ k, tg t26 (sr sh r0 2) k = tg t (sr sh r0 2) k := fun k => f26.eq q0 (i := 2) (by decide) (by decide) k
    have e26_3 : ∀ k, tg t26 (sr sh r0 3) k = tg t (sr sh r0 3) k := fun k => f26.eq q0 (i := 3) (by decide) (by decide) k
    have e26_4 : ∀ k, tg t26 (sr sh r0 4) k = tg t (sr sh r0 4) k := fun k => f26.eq q0 (i := 4) (by decide) (by decide) k
    have e26_10 : ∀ k, tg t26 (sr sh r0 10) k = tg t (sr sh r0 10) k := fun k => f26.eq q0 (i := 10) (by decide) (by decide) k
    have e26_11 : ∀ k, tg t26 (sr sh r0 11) k = tg t (sr sh r0 11) k := fun k => f26.eq q0 (i := 11) (by decide) (by decide) k
    have z26p : ∀ r p, zpa sh r0 t26 r p = zpa sh r0 t r p := zpa_eq e26_1 e26_2 e26_3 e26_4
    have z26r : ∀ r, zrz sh r0 t26 r = zrz sh r0 t r := fun r => by unfold zrz; rw [z26p]
    refine zok_ck ((q0).1) ?_
    first | refine zok_ne (by omega) (fun c27 => ?_) (fun c27 => ?_) | refine zok_if (fun c27 => ?_) (fun c27 => ?_)
    · refine zok_ck ((q0).1) ?_
      first | refine zok_le (by omega) (fun c28 => ?_) (fun c28 => ?_) | refine zok_if (fun c28 => ?_) (fun c28 => ?_)
      · try simp only [zput_s, zput_n, ti_g, oI_add, oI_sub, oI_mul]
        exact l200_56 q0 (by omega) (by omega) G _ _ ((FrV.trans (Ns := [0, 3, 4, 8]) (FrV.refl (Ls := []) G) f26 (by decide) (by decide))) (by first | omega | ((try simp only [zt0, zt1, zt2, zt3, zt4, zt5, zt6, zt7, zt8, zt9, zt10, zt11, zt12, zt13, e26_1, e26_2, e26_3, e26_4, e26_10, e26_11, z26p, z26r, true_and, and_true]); omega)) (Nat.lt_succ_self _)
      · first | exact qI_rt (by omega) (by omega) ⟨(FrV.trans (Ns := [0, 3, 4, 8]) (FrV.refl (Ls := []) G) f26 (by decide) (by decide)), by ((try have c0 := hq1 13 (by decide)); (try have c0 := hq1 13); (try have c2 := e26_2 13); (try simp only [zt0, zt1, zt2, zt3, zt4, zt5, zt6, zt7, zt8, zt9, zt10, zt11, zt12, zt13] at *) <;> omega)⟩ | exact qI_nf ⟨(FrV.trans (Ns := [0, 3, 4, 8]) (FrV.refl (Ls := []) G) f26 (by decide) (by decide)), by ((try have c0 := hq1 13 (by decide)); (try have c0 := hq1 13); (try have c2 := e26_2 13); (try simp only [zt0, zt1, zt2, zt3, zt4, zt5, zt6, zt7, zt8, zt9, zt10, zt11, zt12, zt13] at *) <;> omega)⟩
    · refine zok_ck ((q0).1) ?_
      refine zok_cI (s195 (q0) (by omega) (by first | (omega) | ((try simp only [zt0, zt1, zt2, zt3, zt4, zt5, zt6, zt7, zt8, zt9, zt10, zt11, zt12, zt13, e26_1, e26_2, e26_3, e26_4, e26_10, e26_11, z26p, z26r]); omega)) (f26.g)) (fun y29 t29 u29 p29 => ?_)
      obtain ⟨f29, p29⟩ := p29
      have e29_1 : ∀ k, tg t29 (sr sh r0 1) k = tg t26 (sr sh r0 1) k := fun k => f29.eq q0 (i := 1) (by decide) (by decide) k
      have e29_2 : ∀ k, tg t29 (sr sh r0 2) k = tg t26 (sr sh r0 2) k := fun k => f29.eq q0 (i := 2) (by decide) (by decide) k
      have e29_10 : ∀ k, tg t29 (sr sh r0 10) k = tg t26 (sr sh r0 10) k := fun k => f29.eq q0 (i := 10) (by decide) (by decide) k
      have e29_11 : ∀ k, tg t29 (sr sh r0 11) k = tg t26 (sr sh r0 11) k := fun k => f29.eq q0 (i := 11) (by decide) (by decide) k
      have d29_0 : tg t29 r0 0 = tg t26 r0 0 := f29.eq q0 (i := 0) (by decide) (by decide) 0
      try simp only [zt0, zt1, zt2, zt3, zt4, zt5, zt6, zt7, zt8, zt9, zt10, zt11, zt12, zt13, e26_1, e26_2, e26_3, e26_4, e26_10, e26_11, z26p, z26r, e29_1, e29_2, e29_10, e29_11] at p29
      simp only [zput_s, zput_n, ti_g, oI_add, oI_sub, oI_mul, zt0, zt1, zt2, zt3, zt4, zt5, zt6, zt7, zt8, zt9, zt10, zt11, zt12, zt13, e26_1, e26_2, e26_3, e26_4, e26_10, e26_11, z26p, z26r, e29_1, e29_2, e29_10, e29_11, b200_31]
      try simp only [zput_s, zput_n, ti_g, oI_add, oI_sub, oI_mul]
      refine zok_pI (s120 (by omega) (by omega) (by omega)) (fun y31 u31 p31 => ?_)
      try simp only [zt0, zt1, zt2, zt3, zt4, zt5, zt6, zt7, zt8, zt9, zt10, zt11, zt12, zt13, e26_1, e26_2, e26_3, e26_4, e26_10, e26_11, z26p, z26r, e29_1, e29_2, e29_10, e29_11] at p31
      have g32_1 := And.intro (tg_lo (tI t29 r0 0 (oI 2)) r0 0) (tg_hi (tI t29 r0 0 (oI 2)) r0 0)
      have g32_2 := And.intro (tg_lo (tI t29 r0 0 (oI 0)) r0 0) (tg_hi (tI t29 r0 0 (oI 0)) r0 0)
      simp only [zput_s, zput_n, ti_g, oI_add, oI_sub, oI_mul, zt0, zt1, zt2, zt3, zt4, zt5, zt6, zt7, zt8, zt9, zt10, zt11, zt12, zt13, e26_1, e26_2, e26_3, e26_4, e26_10, e26_11, z26p, z26r, e29_1, e29_2, e29_10, e29_11, b200_36]
      try simp only [zput_s, zput_n, ti_g, oI_add, oI_sub, oI_mul]
      first | refine zok_eq (by omega) (fun c33 => ?_) (fun c33 => ?_) | refine zok_if (fun c33 => ?_) (fun c33 => ?_)
      · refine zok_ck (by first | exact ⟨(q0).1, fun e => by cases e⟩ | exact (q0).1) ?_
        obtain ⟨t34, ht34⟩ : ∃ t', t' = tI t29 r0 (0) (oI (2)) := ⟨_, rfl⟩
        try simp only [zt0, zt1, zt2, zt3, zt4, zt5, zt6, zt7, zt8, zt9, zt10, zt11, zt12, zt13, e26_1, e26_2, e26_3, e26_4, e26_10, e26_11, z26p, z26r, e29_1, e29_2, e29_10, e29_11] at ht34
        rw [← ht34]
        have f34 : FrV sh r0 [0] t29 t34 := by rw [ht34]; exact GI_m q0 (f29.g) (by omega) (fun e => by first | omega | cases e) (fun e => by first | omega | cases e)
        have d34_0 : tg t34 r0 0 = 2 := by rw [ht34]; refine (tg_at (by omega)).trans ?_; first | exact if_pos rfl | exact if_neg (by decide) | (simp only [zt0, zt1, zt2, zt3, zt4, zt5, zt6, zt7, zt8, zt9, zt10, zt11, zt12, zt13, e26_1, e26_2, e26_3, e26_4, e26_10, e26_11, z26p, z26r, e29_1, e29_2, e29_10, e29_11, true_and, if_true])
        try simp only [zt0, zt1, zt2, zt3, zt4, zt5, zt6, zt7, zt8, zt9, zt10, zt11, zt12, zt13, e26_1, e26_2, e26_3, e26_4, e26_10, e26_11, z26p, z26r, e29_1, e29_2, e29_10, e29_11] at d34_0
        have e34_1 : ∀ k, tg t34 (sr sh r0 1) k = tg t29 (sr sh r0 1) k := fun k => f34.eq q0 (i := 1) (by decide) (by decide) k
        have e34_2 : ∀ k, tg t34 (sr sh r0 2) k = tg t29 (sr sh r0 2) k := fun k => f34.eq q0 (i := 2) (by decide) (by decide) k
        have e34_3 : ∀ k, tg t34 (sr sh r0 3) k = tg t29 (sr sh r0 3) k := fun k => f34.eq q0 (i := 3) (by decide) (by decide) k
        have e34_4 : ∀ k, tg t34 (sr sh r0 4) k = tg t29 (sr sh r0 4) k := fun k => f34.eq q0 (i := 4) (by decide) (by decide) k
        have e34_10 : ∀ k, tg t34 (sr sh r0 10) k = tg t29 (sr sh r0 10) k := fun k => f34.eq q0 (i := 10) (by decide) (by decide) k
        have e34_11 : ∀ k, tg t34 (sr sh r0 11) k = tg t29 (sr sh r0 11) k := fun k => f34.eq q0 (i := 11) (by decide) (by decide) k
        have z34p : ∀ r p, zpa sh r0 t34 r p = zpa sh r0 t29 r p := zpa_eq e34_1 e34_2 e34_3 e34_4
        have z34r : ∀ r, zrz sh r0 t34 r = zrz sh r0 t29 r := fun r => by unfold zrz; rw [z34p]
        refine zok_ck ((q0).1) ?_
        first | refine zok_le (by omega) (fun c35 => ?_) (fun c35 => ?_) | refine zok_if (fun c35 => ?_) (fun c35 => ?_)
        · try simp only [zput_s, zput_n, ti_g, oI_add, oI_sub, oI_mul]
          exact l200_56 q0 (by omega) (by omega) G _ _ ((FrV.trans (Ns := [0, 3, 4, 8]) ((FrV.trans (Ns := [0, 3, 4, 8]) ((FrV.trans (Ns := [0, 3, 4, 8]) (FrV.refl (Ls := []) G) f26 (by decide) (by decide))) f29 (by decide) (by decide))) f34 (by decide) (by decide))) (by first | omega | ((try simp only [zt0, zt1, zt2, zt3, zt4, zt5, zt6, zt7, zt8, zt9, zt10, zt11, zt12, zt13, e26_1, e26_2, e26_3, e26_4, e26_10, e26_11, z26p, z26r, e29_1, e29_2, e29_10, e29_11, e34_1, e34_2, e34_3, e34_4, e34_10, e34_11, z34p, z34r, true_and, and_true]); omega)) (Nat.lt_succ_self _)
        · first | exact qI_rt (by omega) (by omega) ⟨(FrV.trans (Ns := [0, 3, 4, 8]) ((FrV.trans (Ns := [0, 3, 4, 8]) ((FrV.trans (Ns := [0, 3, 4, 8]) (FrV.refl (Ls := []) G) f26 (by decide) (by decide))) f29 (by decide) (by decide))) f34 (by decide) (by decide)), by ((try have c0 := hq1 13 (by decide)); (try have c0 := hq1 13); (try have c2 := e26_2 13); (try have c8 := e29_2 13); (try have c12 := e34_2 13); (try simp only [zt0, zt1, zt2, zt3, zt4, zt5, zt6, zt7, zt8, zt9, zt10, zt11, zt12, zt13] at *) <;> omega)⟩ | exact qI_nf ⟨(FrV.trans (Ns := [0, 3, 4, 8]) ((FrV.trans (Ns := [0, 3, 4, 8]) ((FrV.trans (Ns := [0, 3, 4, 8]) (FrV.refl (Ls := []) G) f26 (by decide) (by decide))) f29 (by decide) (by decide))) f34 (by decide) (by decide)), by ((try have c0 := hq1 13 (by decide)); (try have c0 := hq1 13); (try have c2 := e26_2 13); (try have c8 := e29_2 13); (try have c12 := e34_2 13); (try simp only [zt0, zt1, zt2, zt3, zt4, zt5, zt6, zt7, zt8, zt9, zt10, zt11, zt12, zt13] at *) <;> omega)⟩
      · refine zok_ck (by first | exact ⟨(q0).1, fun e => by cases e⟩ | exact (q0).1) ?_
        obtain ⟨t36, ht36⟩ : ∃ t', t' = tI t29 r0 (0) (oI (0)) := ⟨_, rfl⟩
        try simp only [zt0, zt1, zt2, zt3, zt4, zt5, zt6, zt7, zt8, zt9, zt10, zt11, zt12, zt13, e26_1, e26_2, e26_3, e26_4, e26_10, e26_11, z26p, z26r, e29_1, e29_2, e29_10, e29_11] at ht36
        rw [← ht36]
        have f36 : FrV sh r0 [0] t29 t36 := by rw [ht36]; exact GI_m q0 (f29.g) (by omega) (fun e => by first | omega | cases e) (fun e => by first | omega | cases e)
        have d36_0 : tg t36 r0 0 = 0 := by rw [ht36]; refine (tg_at (by omega)).trans ?_; first | exact if_pos rfl | exact if_neg (by decide) | (simp only [zt0, zt1, zt2, zt3, zt4, zt5, zt6, zt7, zt8, zt9, zt10, zt11, zt12, zt13, e26_1, e26_2, e26_3, e26_4, e26_10, e26_11, z26p, z26r, e29_1, e29_2, e29_10, e29_11, true_and, if_true])
        try simp only [zt0, zt1, zt2, zt3, zt4, zt5, zt6, zt7, zt8, zt9, zt10, zt11, zt12, zt13, e26_1, e26_2, e26_3, e26_4, e26_10, e26_11, z26p, z26r, e29_1, e29_2, e29_10, e29_11] at d36_0
        have e36_1 : ∀ k, tg t36 (sr sh r0 1) k = tg t29 (sr sh r0 1) k := fun k => f36.eq q0 (i := 1) (by decide) (by decide) k
        have e36_2 : ∀ k, tg t36 (sr sh r0 2) k = tg t29 (sr sh r0 2) k := fun k => f36.eq q0 (i := 2) (by decide) (by decide) k
        have e36_3 : ∀ k, tg t36 (sr sh r0 3) k = tg t29 (sr sh r0 3) k := fun k => f36.eq q0 (i := 3) (by decide) (by decide) k
        have e36_4 : ∀ k, tg t36 (sr sh r0 4) k = tg t29 (sr sh r0 4) k := fun k => f36.eq q0 (i := 4) (by decide) (by decide) k
        have e36_10 : ∀ k, tg t36 (sr sh r0 10) k = tg t29 (sr sh r0 10) k := fun k => f36.eq q0 (i := 10) (by decide) (by decide) k
        have e36_11 : ∀ k, tg t36 (sr sh r0 11) k = tg t29 (sr sh r0 11) k := fun k => f36.eq q0 (i := 11) (by decide) (by decide) k
        have z36p : ∀ r p, zpa sh r0 t36 r p = zpa sh r0 t29 r p := zpa_eq e36_1 e36_2 e36_3 e36_4
        have z36r : ∀ r, zrz sh r0 t36 r = zrz sh r0 t29 r := fun r => by unfold zrz; rw [z36p]
        refine zok_ck ((q0).1) ?_
        first | refine zok_le (by omega) (fun c37 => ?_) (fun c37 => ?_) | refine zok_if (fun c37 => ?_) (fun c37 => ?_)
        · try simp only [zput_s, zput_n, ti_g, oI_add, oI_sub, oI_mul]
          exact l200_56 q0 (by omega) (by omega) G _ _ ((FrV.trans (Ns := [0, 3, 4, 8]) ((FrV.trans (Ns := [0, 3, 4, 8]) ((FrV.trans (Ns := [0, 3, 4, 8]) (FrV.refl (Ls := []) G) f26 (by decide) (by decide))) f29 (by decide) (by decide))) f36 (by decide) (by decide))) (by first | omega | ((try simp only [zt0, zt1, zt2, zt3, zt4, zt5, zt6, zt7, zt8, zt9, zt10, zt11, zt12, zt13, e26_1, e26_2, e26_3, e26_4, e26_10, e26_11, z26p, z26r, e29_1, e29_2, e29_10, e29_11, e36_1, e36_2, e36_3, e36_4, e36_10, e36_11, z36p, z36r, true_and, and_true]); omega)) (Nat.lt_succ_self _)
        · first | exact qI_rt (by omega) (by omega) ⟨(FrV.trans (Ns := [0, 3, 4, 8]) ((FrV.trans (Ns := [0, 3, 4, 8]) ((FrV.trans (Ns := [0, 3, 4, 8]) (FrV.refl (Ls := []) G) f26 (by decide) (by decide))) f29 (by decide) (by decide))) f36 (by decide) (by decide)), by ((try have c0 := hq1 13 (by decide)); (try have c0 := hq1 13); (try have c2 := e26_2 13); (try have c8 := e29_2 13); (try have c12 := e36_2 13); (try simp only [zt0, zt1, zt2, zt3, zt4, zt5, zt6, zt7, zt8, zt9, zt10, zt11, zt12, zt13] at *) <;> omega)⟩ | exact qI_nf ⟨(FrV.trans (Ns := [0, 3, 4, 8]) ((FrV.trans (Ns := [0, 3, 4, 8]) ((FrV.trans (Ns := [0, 3, 4, 8]) (FrV.refl (Ls := []) G) f26 (by decide) (by decide))) f29 (by decide) (by decide))) f36 (by decide) (by decide)), by ((try have c0 := hq1 13 (by decide)); (try have c0 := hq1 13); (try have c2 := e26_2 13); (try have c8 := e29_2 13); (try have c12 := e36_2 13); (try simp only [zt0, zt1, zt2, zt3, zt4, zt5, zt6, zt7, zt8, zt9, zt10, zt11, zt12, zt13] at *) <;> omega)⟩
/-! X9_pair -/
theorem l206_56 {sh : zSh} {t0 : zSt} {MB : Nat} {r0 : Nat} (q0 : zMd sh MB r0) {x1 : Int} (u1 : -2147483648 ≤ x1 ∧ x1 ≤ 2147483647) {x2 : Int} (u2 : -2147483648 ≤ x2 ∧ x2 ≤ 2147483647) {x3 : Int} (u3 : -2147483648 ≤ x3 ∧ x3 ≤ 2147483647) (G : GI sh r0 t0) : ∀ (n : Nat)   (t1 : zSt), FrV sh r0 [0, 3, 4, 8] t0 t1 → (0 ≤ x1 ∧ x1 ≤ 7) ∧ (0 ≤ x2 ∧ x2 ≤ zkn (zpa sh r0 t1 x1 5) 38 0 ((tg t1 (sr sh r0 4) (7 * x1 + 5).toNat - tg t1 (sr sh r0 3) (7 * x1 + 5).toNat) - 0).toNat) ∧ (tg t1 (sr sh r0 2) 13 = tg t0 (sr sh r0 2) 13) → ((0 : Int)).toNat < n → zok (zev zP 206 56 [some (zR r0), some (zI (oI x1)), some (zI (oI x2)), some (zI (oI x3)), none, none, none] [] (sh, t1)) (qI (fun x t' => FrV sh r0 [0, 3, 4, 8] t0 t' ∧ (tg t' (sr sh r0 2) 13 = tg t0 (sr sh r0 2) 13)) sh) := by
  intro n
  induction n with
  | zero => intro   t1 f0 _ hm; omega
  | succ n ih =>
    intro   t1 f0 hv hm
    have ha0_1 : (sk sh (sr sh r0 1)).2 = 21000 := by rw [q0.2.2.2.2.1]
    have ha0_2 : (sk sh (sr sh r0 2)).2 = 14 := by rw [q0.2.2.2.2.2.1]
    have ha0_3 : (sk sh (sr sh r0 3)).2 = 98 := by rw [q0.2.2.2.2.2.2.1]
    have ha0_4 : (sk sh (sr sh r0 4)).2 = 98 := by rw [q0.2.2.2.2.2.2.2.1]
    have ha0_8 : (sk sh (sr sh r0 8)).2 = 1500 := by rw [q0.2.2.2.2.2.2.2.2.1]
    have ha0_9 : (sk sh (sr sh r0 9)).2 = 10500 := by rw [q0.2.2.2.2.2.2.2.2.2.1]
    have ha0_10 : (sk sh (sr sh r0 10)).2 = 7 := by rw [q0.2.2.2.2.2.2.2.2.2.2.1]
    have ha0_11 : (sk sh (sr sh r0 11)).2 = 7 := by rw [q0.2.2.2.2.2.2.2.2.2.2.2.1]
    have ha0_12 : (sk sh (sr sh r0 12)).2 = 1500 := by rw [q0.2.2.2.2.2.2.2.2.2.2.2.2.1]
    have ha0_13 : (sk sh (sr sh r0 13)).2 = 1500 := by rw [q0.2.2.2.2.2.2.2.2.2.2.2.2.2.1]
    have ha0_14 : (sk sh (sr sh r0 14)).2 = 20 := by rw [q0.2.2.2.2.2.2.2.2.2.2.2.2.2.2]
    have e0_1 : ∀ k, tg t1 (sr sh r0 1) k = tg t0 (sr sh r0 1) k := fun k => f0.eq q0 (i := 1) (by decide) (by decide) k
    have e0_2 : ∀ k, tg t1 (sr sh r0 2) k = tg t0 (sr sh r0 2) k := fun k => f0.eq q0 (i := 2) (by decide) (by decide) k
    have e0_10 : ∀ k, tg t1 (sr sh r0 10) k = tg t0 (sr sh r0 10) k := fun k => f0.eq q0 (i := 10) (by decide) (by decide) k
    have e0_11 : ∀ k, tg t1 (sr sh r0 11) k = tg t0 (sr sh r0 11) k := fun k => f0.eq q0 (i := 11) (by decide) (by decide) k
    try simp only [zt0, zt1, zt2, zt3, zt4, zt5, zt6, zt7, zt8, zt9, zt10, zt11, zt12, zt13, e0_1, e0_2, e0_10, e0_11] at hv
    try simp only [zt0, zt1, zt2, zt3, zt4, zt5, zt6, zt7, zt8, zt9, zt10, zt11, zt12, zt13, e0_1, e0_2, e0_10, e0_11] at hm
    rw [b206_56]
    try simp only [zput_s, zput_n, ti_g, oI_add, oI_sub, oI_mul]
    refine zok_ck ((q0).1) ?_
    have gd2 := (f0.g).2.1 (7 * x1 + 5).toNat (by omega)
    try simp only [zt0, zt1, zt2, zt3, zt4, zt5, zt6, zt7, zt8, zt9, zt10, zt11, zt12, zt13, e0_1, e0_2, e0_10, e0_11] at gd2
    have gd22 := gd2.2.2.2 (by omega)
    try simp only [zt0, zt1, zt2, zt3, zt4, zt5, zt6, zt7, zt8, zt9, zt10, zt11, zt12, zt13, e0_1, e0_2, e0_10, e0_11] at gd22
    refine zok_pI (s197 (q0) (by omega) (by omega) (by omega) (by omega) (by omega) (by first | (omega) | ((try simp only [zt0, zt1, zt2, zt3, zt4, zt5, zt6, zt7, zt8, zt9, zt10, zt11, zt12, zt13, e0_1, e0_2, e0_10, e0_11]); omega)) (by first | (omega) | ((try simp only [zt0, zt1, zt2, zt3, zt4, zt5, zt6, zt7, zt8, zt9, zt10, zt11, zt12, zt13, e0_1, e0_2, e0_10, e0_11]); omega)) (by first | (omega) | ((try simp only [zt0, zt1, zt2, zt3, zt4, zt5, zt6, zt7, zt8, zt9, zt10, zt11, zt12, zt13, e0_1, e0_2, e0_10, e0_11]); omega)) (by first | (omega) | ((try simp only [zt0, zt1, zt2, zt3, zt4, zt5, zt6, zt7, zt8, zt9, zt10, zt11, zt12, zt13, e0_1, e0_2, e0_10, e0_11]); omega)) (f0.g)) (fun y2 u2 p2 => ?_)
    try simp only [zt0, zt1, zt2, zt3, zt4, zt5, zt6, zt7, zt8, zt9, zt10, zt11, zt12, zt13, e0_1, e0_2, e0_10, e0_11] at p2
    simp only [zput_s, zput_n, ti_g, oI_add, oI_sub, oI_mul, zt0, zt1, zt2, zt3, zt4, zt5, zt6, zt7, zt8, zt9, zt10, zt11, zt12, zt13, e0_1, e0_2, e0_10, e0_11, b206_66]
    try simp only [zput_s, zput_n, ti_g, oI_add, oI_sub, oI_mul]
    refine zok_ck ((q0).1) ?_
    have gd4 := (f0.g).2.1 (7 * x1 + 5).toNat (by omega)
    try simp only [zt0, zt1, zt2, zt3, zt4, zt5, zt6, zt7, zt8, zt9, zt10, zt11, zt12, zt13, e0_1, e0_2, e0_10, e0_11] at gd4
    have gd24 := gd4.2.2.2 (by omega)
    try simp only [zt0, zt1, zt2, zt3, zt4, zt5, zt6, zt7, zt8, zt9, zt10, zt11, zt12, zt13, e0_1, e0_2, e0_10, e0_11] at gd24
    refine zok_pI (s198 (q0) (by omega) (by omega) (by omega) (by omega) (by first | (omega) | ((try simp only [zt0, zt1, zt2, zt3, zt4, zt5, zt6, zt7, zt8, zt9, zt10, zt11, zt12, zt13, e0_1, e0_2, e0_10, e0_11]); omega)) (by first | (omega) | ((try simp only [zt0, zt1, zt2, zt3, zt4, zt5, zt6, zt7, zt8, zt9, zt10, zt11, zt12, zt13, e0_1, e0_2, e0_10, e0_11]); omega)) (by first | (omega) | ((try simp only [zt0, zt1, zt2, zt3, zt4, zt5, zt6, zt7, zt8, zt9, zt10, zt11, zt12, zt13, e0_1, e0_2, e0_10, e0_11]); omega)) (f0.g)) (fun y4 u4 p4 => ?_)
    try simp only [zt0, zt1, zt2, zt3, zt4, zt5, zt6, zt7, zt8, zt9, zt10, zt11, zt12, zt13, e0_1, e0_2, e0_10, e0_11] at p4
    simp only [zput_s, zput_n, ti_g, oI_add, oI_sub, oI_mul, zt0, zt1, zt2, zt3, zt4, zt5, zt6, zt7, zt8, zt9, zt10, zt11, zt12, zt13, e0_1, e0_2, e0_10, e0_11, b206_78]
    try simp only [zput_s, zput_n, ti_g, oI_add, oI_sub, oI_mul]
    refine zok_ck ((q0).1) ?_
    have gd6 := (f0.g).2.1 (7 * x1 + 5).toNat (by omega)
    try simp only [zt0, zt1, zt2, zt3, zt4, zt5, zt6, zt7, zt8, zt9, zt10, zt11, zt12, zt13, e0_1, e0_2, e0_10, e0_11] at gd6
    have gd26 := gd6.2.2.2 (by omega)
    try simp only [zt0, zt1, zt2, zt3, zt4, zt5, zt6, zt7, zt8, zt9, zt10, zt11, zt12, zt13, e0_1, e0_2, e0_10, e0_11] at gd26
    refine zok_pI (s198 (q0) (by omega) (by omega) (by omega) (by omega) (by first | (omega) | ((try simp only [zt0, zt1, zt2, zt3, zt4, zt5, zt6, zt7, zt8, zt9, zt10, zt11, zt12, zt13, e0_1, e0_2, e0_10, e0_11]); omega)) (by first | (omega) | ((try simp only [zt0, zt1, zt2, zt3, zt4, zt5, zt6, zt7, zt8, zt9, zt10, zt11, zt12, zt13, e0_1, e0_2, e0_10, e0_11]); omega)) (by first | (omega) | ((try simp only [zt0, zt1, zt2, zt3, zt4, zt5, zt6, zt7, zt8, zt9, zt10, zt11, zt12, zt13, e0_1, e0_2, e0_10, e0_11]); omega)) (f0.g)) (fun y6 u6 p6 => ?_)
    try simp only [zt0, zt1, zt2, zt3, zt4, zt5, zt6, zt7, zt8, zt9, zt10, zt11, zt12, zt13, e0_1, e0_2, e0_10, e0_11] at p6
    simp only [zput_s, zput_n, ti_g, oI_add, oI_sub, oI_mul, zt0, zt1, zt2, zt3, zt4, zt5, zt6, zt7, zt8, zt9, zt10, zt11, zt12, zt13, e0_1, e0_2, e0_10, e0_11, b206_90]
    try simp only [zput_s, zput_n, ti_g, oI_add, oI_sub, oI_mul]
    first | refine zok_le (by omega) (fun c8 => ?_) (fun c8 => ?_) | refine zok_if (fun c8 => ?_) (fun c8 => ?_)
    · simp only [zput_s, zput_n, ti_g, oI_add, oI_sub, oI_mul, zt0, zt1, zt2, zt3, zt4, zt5, zt6, zt7, zt8, zt9, zt10, zt11, zt12, zt13, e0_1, e0_2, e0_10, e0_11, b206_106]
      try simp only [zput_s, zput_n, ti_g, oI_add, oI_sub, oI_mul]
      first | refine zok_eq (by omega) (fun c10 => ?_) (fun c10 => ?_) | refine zok_if (fun c10 => ?_) (fun c10 => ?_)
      · simp only [zput_s, zput_n, ti_g, oI_add, oI_sub, oI_mul, zt0, zt1, zt2, zt3, zt4, zt5, zt6, zt7, zt8, zt9, zt10, zt11, zt12, zt13, e0_1, e0_2, e0_10, e0_11, b206_126]
        try simp only [zput_s, zput_n, ti_g, oI_add, oI_sub, oI_mul]
        first | refine zok_eq (by omega) (fun c12 => ?_) (fun c12 => ?_) | refine zok_if (fun c12 => ?_) (fun c12 => ?_)
        · refine zok_ck ((q0).1) ?_
          have gd13 := (f0.g).2.1 (7 * x1 + 5).toNat (by omega)
          try simp only [zt0, zt1, zt2, zt3, zt4, zt5, zt6, zt7, zt8, zt9, zt10, zt11, zt12, zt13, e0_1, e0_2, e0_10, e0_11] at gd13
          have gd213 := gd13.2.2.2 (by omega)
          try simp only [zt0, zt1, zt2, zt3, zt4, zt5, zt6, zt7, zt8, zt9, zt10, zt11, zt12, zt13, e0_1, e0_2, e0_10, e0_11] at gd213
          refine zok_cI (s199 (q0) (by omega) (by omega) (by omega) (by omega) (by first | (omega) | ((try simp only [zt0, zt1, zt2, zt3, zt4, zt5, zt6, zt7, zt8, zt9, zt10, zt11, zt12, zt13, e0_1, e0_2, e0_10, e0_11]); omega)) (by first | (omega) | ((try simp only [zt0, zt1, zt2, zt3, zt4, zt5, zt6, zt7, zt8, zt9, zt10, zt11, zt12, zt13, e0_1, e0_2, e0_10, e0_11]); omega)) (by first | (omega) | ((try simp only [zt0, zt1, zt2, zt3, zt4, zt5, zt6, zt7, zt8, zt9, zt10, zt11, zt12, zt13, e0_1, e0_2, e0_10, e0_11]); omega)) (by first | (omega) | ((try simp only [zt0, zt1, zt2, zt3, zt4, zt5, zt6, zt7, zt8, zt9, zt10, zt11, zt12, zt13, e0_1, e0_2, e0_10, e0_11]); omega)) (f0.g)) (fun y13 t13 u13 p13 => ?_)
          obtain ⟨f13, p13⟩ := p13
          have e13_1 : ∀ k, tg t13 (sr sh r0 1) k = tg t1 (sr sh r0 1) k := fun k => f13.eq q0 (i := 1) (by decide) (by decide) k
          have e13_2 : ∀ k, tg t13 (sr sh r0 2) k = tg t1 (sr sh r0 2) k := fun k => f13.eq q0 (i := 2) (by decide) (by decide) k
          have e13_3 : ∀ k, tg t13 (sr sh r0 3) k = tg t1 (sr sh r0 3) k := fun k => f13.eq q0 (i := 3) (by decide) (by decide) k
          have e13_4 : ∀ k, tg t13 (sr sh r0 4) k = tg t1 (sr sh r0 4) k := fun k => f13.eq q0 (i := 4) (by decide) (by decide) k
          have e13_10 : ∀ k, tg t13 (sr sh r0 10) k = tg t1 (sr sh r0 10) k := fun k => f13.eq q0 (i := 10) (by decide) (by decide) k
          have e13_11 : ∀ k, tg t13 (sr sh r0 11) k = tg t1 (sr sh r0 11) k := fun k => f13.eq q0 (i := 11) (by decide) (by decide) k
          have z13p : ∀ r p, zpa sh r0 t13 r p = zpa sh r0 t1 r p := zpa_eq e13_1 e13_2 e13_3 e13_4
          have z13r : ∀ r, zrz sh r0 t13 r = zrz sh r0 t1 r := fun r => by unfold zrz; rw [z13p]
          try simp only [zt0, zt1, zt2, zt3, zt4, zt5, zt6, zt7, zt8, zt9, zt10, zt11, zt12, zt13, e0_1, e0_2, e0_10, e0_11, e13_1, e13_2, e13_3, e13_4, e13_10, e13_11, z13p, z13r] at p13
          simp only [zput_s, zput_n, ti_g, oI_add, oI_sub, oI_mul, zt0, zt1, zt2, zt3, zt4, zt5, zt6, zt7, zt8, zt9, zt10, zt11, zt12, zt13, e0_1, e0_2, e0_10, e0_11, e13_1, e13_2, e13_3, e13_4, e13_10, e13_11, z13p, z13r, b206_155]
          try simp only [zput_s, zput_n, ti_g, oI_add, oI_sub, oI_mul]
          first | exact qI_rt (by omega) (by omega) ⟨(FrV.trans (Ns := [0, 3, 4, 8]) (f0) f13 (by decide) (by decide)), by ((try have c0 := hq1 13 (by decide)); (try have c0 := hq1 13); (try have c2 := e0_2 13); (try have c6 := e13_2 13); (try simp only [zt0, zt1, zt2, zt3, zt4, zt5, zt6, zt7, zt8, zt9, zt10, zt11, zt12, zt13] at *) <;> omega)⟩ | exact qI_nf ⟨(FrV.trans (Ns := [0, 3, 4, 8]) (f0) f13 (by decide) (by decide)), by ((try have c0 := hq1 13 (by decide)); (try have c0 := hq1 13); (try have c2 := e0_2 13); (try have c6 := e13_2 13); (try simp only [zt0, zt1, zt2, zt3, zt4, zt5, zt6, zt7, zt8, zt9, zt10, zt11, zt12, zt13] at *) <;> omega)⟩
        · refine zok_ck ((q0).1) ?_
          have gd15 := (f0.g).2.1 (7 * x1 + 5).toNat (by omega)
          try simp only [zt0, zt1, zt2, zt3, zt4, zt5, zt6, zt7, zt8, zt9, zt10, zt11, zt12, zt13, e0_1, e0_2, e0_10, e0_11] at gd15
          have gd215 := gd15.2.2.2 (by omega)
          try simp only [zt0, zt1, zt2, zt3, zt4, zt5, zt6, zt7, zt8, zt9, zt10, zt11, zt12, zt13, e0_1, e0_2, e0_10, e0_11] at gd215
          refine zok_cI (s199 (q0) (by omega) (by omega) (by omega) (by omega) (by first | (omega) | ((try simp only [zt0, zt1, zt2, zt3, zt4, zt5, zt6, zt7, zt8, zt9, zt10, zt11, zt12, zt13, e0_1, e0_2, e0_10, e0_11]); omega)) (by first | (omega) | ((try simp only [zt0, zt1, zt2, zt3, zt4, zt5, zt6, zt7, zt8, zt9, zt10, zt11, zt12, zt13, e0_1, e0_2, e0_10, e0_11]); omega)) (by first | (omega) | ((try simp only [zt0, zt1, zt2, zt3, zt4, zt5, zt6, zt7, zt8, zt9, zt10, zt11, zt12, zt13, e0_1, e0_2, e0_10, e0_11]); omega)) (by first | (omega) | ((try simp only [zt0, zt1, zt2, zt3, zt4, zt5, zt6, zt7, zt8, zt9, zt10, zt11, zt12, zt13, e0_1, e0_2, e0_10, e0_11]); omega)) (f0.g)) (fun y15 t15 u15 p15 => ?_)
          obtain ⟨f15, p15⟩ := p15
          have e15_1 : ∀ k, tg t15 (sr sh r0 1) k = tg t1 (sr sh r0 1) k := fun k => f15.eq q0 (i := 1) (by decide) (by decide) k
          have e15_2 : ∀ k, tg t15 (sr sh r0 2) k = tg t1 (sr sh r0 2) k := fun k => f15.eq q0 (i := 2) (by decide) (by decide) k
          have e15_3 : ∀ k, tg t15 (sr sh r0 3) k = tg t1 (sr sh r0 3) k := fun k => f15.eq q0 (i := 3) (by decide) (by decide) k
          have e15_4 : ∀ k, tg t15 (sr sh r0 4) k = tg t1 (sr sh r0 4) k := fun k => f15.eq q0 (i := 4) (by decide) (by decide) k
          have e15_10 : ∀ k, tg t15 (sr sh r0 10) k = tg t1 (sr sh r0 10) k := fun k => f15.eq q0 (i := 10) (by decide) (by decide) k
          have e15_11 : ∀ k, tg t15 (sr sh r0 11) k = tg t1 (sr sh r0 11) k := fun k => f15.eq q0 (i := 11) (by decide) (by decide) k
          have z15p : ∀ r p, zpa sh r0 t15 r p = zpa sh r0 t1 r p := zpa_eq e15_1 e15_2 e15_3 e15_4
          have z15r : ∀ r, zrz sh r0 t15 r = zrz sh r0 t1 r := fun r => by unfold zrz; rw [z15p]
          try simp only [zt0, zt1, zt2, zt3, zt4, zt5, zt6, zt7, zt8, zt9, zt10, zt11, zt12, zt13, e0_1, e0_2, e0_10, e0_11, e15_1, e15_2, e15_3, e15_4, e15_10, e15_11, z15p, z15r] at p15
          simp only [zput_s, zput_n, ti_g, oI_add, oI_sub, oI_mul, zt0, zt1, zt2, zt3, zt4, zt5, zt6, zt7, zt8, zt9, zt10, zt11, zt12, zt13, e0_1, e0_2, e0_10, e0_11, e15_1, e15_2, e15_3, e15_4, e15_10, e15_11, z15p, z15r, b206_142]
          try simp only [zput_s, zput_n, ti_g, oI_add, oI_sub, oI_mul]
          simp only [zput_s, zput_n, ti_g, oI_add, oI_sub, oI_mul, zt0, zt1, zt2, zt3, zt4, zt5, zt6, zt7, zt8, zt9, zt10, zt11, zt12, zt13, e0_1, e0_2, e0_10, e0_11, e15_1, e15_2, e15_3, e15_4, e15_10, e15_11, z15p, z15r, b206_155]
          try simp only [zput_s, zput_n, ti_g, oI_add, oI_sub, oI_mul]
          first | exact qI_rt (by omega) (by omega) ⟨(FrV.trans (Ns := [0, 3, 4, 8]) (f0) f15 (by decide) (by decide)), by ((try have c0 := hq1 13 (by decide)); (try have c0 := hq1 13); (try have c2 := e0_2 13); (try have c6 := e15_2 13); (try simp only [zt0, zt1, zt2, zt3, zt4, zt5, zt6, zt7, zt8, zt9, zt10, zt11, zt12, zt13] at *) <;> omega)⟩ | exact qI_nf ⟨(FrV.trans (Ns := [0, 3, 4, 8]) (f0) f15 (by decide) (by decide)), by ((try have c0 := hq1 13 (by decide)); (try have c0 := hq1 13); (try have c2 := e0_2 13); (try have c6 := e15_2 13); (try simp only [zt0, zt1, zt2, zt3, zt4, zt5, zt6, zt7, zt8, zt9, zt10, zt11, zt12, zt13] at *) <;> omega)⟩
      · refine zok_ck (by first | exact ⟨(q0).1, fun e => by cases e⟩ | exact (q0).1) ?_
        obtain ⟨t18, ht18⟩ : ∃ t', t' = tI t1 r0 (7) (oI (0)) := ⟨_, rfl⟩
        try simp only [zt0, zt1, zt2, zt3, zt4, zt5, zt6, zt7, zt8, zt9, zt10, zt11, zt12, zt13, e0_1, e0_2, e0_10, e0_11] at ht18
        rw [← ht18]
        have f18 : FrV sh r0 [0] t1 t18 := by rw [ht18]; exact GI_m q0 (f0.g) (by omega) (fun e => by first | omega | cases e) (fun e => by first | omega | cases e)
        have d18_0 : tg t18 r0 0 = tg t1 r0 0 := by rw [ht18]; refine (tg_at (by omega)).trans ?_; first | exact if_pos rfl | exact if_neg (by decide) | (simp only [zt0, zt1, zt2, zt3, zt4, zt5, zt6, zt7, zt8, zt9, zt10, zt11, zt12, zt13, e0_1, e0_2, e0_10, e0_11, true_and, if_true])
        have d18_7 : tg t18 r0 7 = 0 := by rw [ht18]; refine (tg_at (by omega)).trans ?_; first | exact if_pos rfl | exact if_neg (by decide) | (simp only [zt0, zt1, zt2, zt3, zt4, zt5, zt6, zt7, zt8, zt9, zt10, zt11, zt12, zt13, e0_1, e0_2, e0_10, e0_11, true_and, if_true])
        try simp only [zt0, zt1, zt2, zt3, zt4, zt5, zt6, zt7, zt8, zt9, zt10, zt11, zt12, zt13, e0_1, e0_2, e0_10, e0_11] at d18_0
        try simp only [zt0, zt1, zt2, zt3, zt4, zt5, zt6, zt7, zt8, zt9, zt10, zt11, zt12, zt13, e0_1, e0_2, e0_10, e0_11] at d18_7
        have e18_1 : ∀ k, tg t18 (sr sh r0 1) k = tg t1 (sr sh r0 1) k := fun k => f18.eq q0 (i := 1) (by decide) (by decide) k
        have e18_2 : ∀ k, tg t18 (sr sh r0 2) k = tg t1 (sr sh r0 2) k := fun k => f18.eq q0 (i := 2) (by decide) (by decide) k
        have e18_3 : ∀ k, tg t18 (sr sh r0 3) k = tg t1 (sr sh r0 3) k := fun k => f18.eq q0 (i := 3) (by decide) (by decide) k
        have e18_4 : ∀ k, tg t18 (sr sh r0 4) k = tg t1 (sr sh r0 4) k := fun k => f18.eq q0 (i := 4) (by decide) (by decide) k
        have e18_10 : ∀ k, tg t18 (sr sh r0 10) k = tg t1 (sr sh r0 10) k := fun k => f18.eq q0 (i := 10) (by decide) (by decide) k
        have e18_11 : ∀ k, tg t18 (sr sh r0 11) k = tg t1 (sr sh r0 11) k := fun k => f18.eq q0 (i := 11) (by decide) (by decide) k
        have z18p : ∀ r p, zpa sh r0 t18 r p = zpa sh r0 t1 r p := zpa_eq e18_1 e18_2 e18_3 e18_4
        have z18r : ∀ r, zrz sh r0 t18 r = zrz sh r0 t1 r := fun r => by unfold zrz; rw [z18p]
        first | exact qI_rt (by omega) (by omega) ⟨(FrV.trans (Ns := [0, 3, 4, 8]) (f0) f18 (by decide) (by decide)), by ((try have c0 := hq1 13 (by decide)); (try have c0 := hq1 13); (try have c2 := e0_2 13); (try have c6 := e18_2 13); (try simp only [zt0, zt1, zt2, zt3, zt4, zt5, zt6, zt7, zt8, zt9, zt10, zt11, zt12, zt13] at *) <;> omega)⟩ | exact qI_nf ⟨(FrV.trans (Ns := [0, 3, 4, 8]) (f0) f18 (by decide) (by decide)), by ((try have c0 := hq1 13 (by decide)); (try have c0 := hq1 13); (try have c2 := e0_2 13); (try have c6 := e18_2 13); (try simp only [zt0, zt1, zt2, zt3, zt4, zt5, zt6, zt7, zt8, zt9, zt10, zt11, zt12, zt13] at *) <;> omega)⟩
    · simp only [zput_s, zput_n, ti_g, oI_add, oI_sub, oI_mul, zt0, zt1, zt2, zt3, zt4, zt5, zt6, zt7, zt8, zt9, zt10, zt11, zt12, zt13, e0_1, e0_2, e0_10, e0_11, b206_106]
      try simp only [zput_s, zput_n, ti_g, oI_add, oI_sub, oI_mul]
      first | refine zok_eq (by omega) (fun c20 => ?_) (fun c20 => ?_) | refine zok_if (fun c20 => ?_) (fun c20 => ?_)
      · simp only [zput_s, zput_n, ti_g, oI_add, oI_sub, oI_mul, zt0, zt1, zt2, zt3, zt4, zt5, zt6, zt7, zt8, zt9, zt10, zt11, zt12, zt13, e0_1, e0_2, e0_10, e0_11, b206_126]
        try simp only [zput_s, zput_n, ti_g, oI_add, oI_sub, oI_mul]
        first | refine zok_eq (by omega) (fun c22 => ?_) (fun c22 => ?_) | refine zok_if (fun c22 => ?_) (fun c22 => ?_)
        · refine zok_ck ((q0).1) ?_
          have gd23 := (f0.g).2.1 (7 * x1 + 5).toNat (by omega)
          try simp only [zt0, zt1, zt2, zt3, zt4, zt5, zt6, zt7, zt8, zt9, zt10, zt11, zt12, zt13, e0_1, e0_2, e0_10, e0_11] at gd23
          have gd223 := gd23.2.2.2 (by omega)
          try simp only [zt0, zt1, zt2, zt3, zt4, zt5, zt6, zt7, zt8, zt9, zt10, zt11, zt12, zt13, e0_1, e0_2, e0_10, e0_11] at gd223
          refine zok_cI (s199 (q0) (by omega) (by omega) (by omega) (by omega) (by first | (omega) | ((try simp only [zt0, zt1, zt2, zt3, zt4, zt5, zt6, zt7, zt8, zt9, zt10, zt11, zt12, zt13, e0_1, e0_2, e0_10, e0_11]); omega)) (by first | (omega) | ((try simp only [zt0, zt1, zt2, zt3, zt4, zt5, zt6, zt7, zt8, zt9, zt10, zt11, zt12, zt13, e0_1, e0_2, e0_10, e0_11]); omega)) (by first | (omega) | ((try simp only [zt0, zt1, zt2, zt3, zt4, zt5, zt6, zt7, zt8, zt9, zt10, zt11, zt12, zt13, e0_1, e0_2, e0_10, e0_11]); omega)) (by first | (omega) | ((try simp only [zt0, zt1, zt2, zt3, zt4, zt5, zt6, zt7, zt8, zt9, zt10, zt11, zt12, zt13, e0_1, e0_2, e0_10, e0_11]); omega)) (f0.g)) (fun y23 t23 u23 p23 => ?_)
          obtain ⟨f23, p23⟩ := p23
          have e23_1 : ∀ k, tg t23 (sr sh r0 1) k = tg t1 (sr sh r0 1) k := fun k => f23.eq q0 (i := 1) (by decide) (by decide) k
          have e23_2 : ∀ k, tg t23 (sr sh r0 2) k = tg t1 (sr sh r0 2) k := fun k => f23.eq q0 (i := 2) (by decide) (by decide) k
          have e23_3 : ∀ k, tg t23 (sr sh r0 3) k = tg t1 (sr sh r0 3) k := fun k => f23.eq q0 (i := 3) (by decide) (by decide) k
          have e23_4 : ∀ k, tg t23 (sr sh r0 4) k = tg t1 (sr sh r0 4) k := fun k => f23.eq q0 (i := 4) (by decide) (by decide) k
          have e23_10 : ∀ k, tg t23 (sr sh r0 10) k = tg t1 (sr sh r0 10) k := fun k => f23.eq q0 (i := 10) (by decide) (by decide) k
          have e23_11 : ∀ k, tg t23 (sr sh r0 11) k = tg t1 (sr sh r0 11) k := fun k => f23.eq q0 (i := 11) (by decide) (by decide) k
          have z23p : ∀ r p, zpa sh r0 t23 r p = zpa sh r0 t1 r p := zpa_eq e23_1 e23_2 e23_3 e23_4
          have z23r : ∀ r, zrz sh r0 t23 r = zrz sh r0 t1 r := fun r => by unfold zrz; rw [z23p]
          try simp only [zt0, zt1, zt2, zt3, zt4, zt5, zt6, zt7, zt8, zt9, zt10, zt11, zt12, zt13, e0_1, e0_2, e0_10, e0_11, e23_1, e23_2, e23_3, e23_4, e23_10, e23_11, z23p, z23r] at p23
          simp only [zput_s, zput_n, ti_g, oI_add, oI_sub, oI_mul, zt0, zt1, zt2, zt3, zt4, zt5, zt6, zt7, zt8, zt9, zt10, zt11, zt12, zt13, e0_1, e0_2, e0_10, e0_11, e23_1, e23_2, e23_3, e23_4, e23_10, e23_11, z23p, z23r, b206_155]
          try simp only [zput_s, zput_n, ti_g, oI_add, oI_sub, oI_mul]
          first | exact qI_rt (by omega) (by omega) ⟨(FrV.trans (Ns := [0, 3, 4, 8]) (f0) f23 (by decide) (by decide)), by ((try have c0 := hq1 13 (by decide)); (try have c0 := hq1 13); (try have c2 := e0_2 13); (try have c6 := e23_2 13); (try simp only [zt0, zt1, zt2, zt3, zt4, zt5, zt6, zt7, zt8, zt9, zt10, zt11, zt12, zt13] at *) <;> omega)⟩ | exact qI_nf ⟨(FrV.trans (Ns := [0, 3, 4, 8]) (f0) f23 (by decide) (by decide)), by ((try have c0 := hq1 13 (by decide)); (try have c0 := hq1 13); (try have c2 := e0_2 13); (try have c6 := e23_2 13); (try simp only [zt0, zt1, zt2, zt3, zt4, zt5, zt6, zt7, zt8, zt9, zt10, zt11, zt12, zt13] at *) <;> omega)⟩
        · refine zok_ck ((q0).1) ?_
          have gd25 := (f0.g).2.1 (7 * x1 + 5).toNat (by omega)
          try simp only [zt0, zt1, zt2, zt3, zt4, zt5, zt6, zt7, zt8, zt9, zt10, zt11, zt12, zt13, e0_1, e0_2, e0_10, e0_11] at gd25
          have gd225 := gd25.2.2.2 (by omega)
          try simp only [zt0, zt1, zt2, zt3, zt4, zt5, zt6, zt7, zt8, zt9, zt10, zt11, zt12, zt13, e0_1, e0_2, e0_10, e0_11] at gd225
          refine zok_cI (s199 (q0) (by omega) (by omega) (by omega) (by omega) (by first | (omega) | ((try simp only [zt0, zt1, zt2, zt3, zt4, zt5, zt6, zt7, zt8, zt9, zt10, zt11, zt12, zt13, e0_1, e0_2, e0_10, e0_11]); omega)) (by first | (omega) | ((try simp only [zt0, zt1, zt2, zt3, zt4, zt5, zt6, zt7, zt8, zt9, zt10, zt11, zt12, zt13, e0_1, e0_2, e0_10, e0_11]); omega)) (by first | (omega) | ((try simp only [zt0, zt1, zt2, zt3, zt4, zt5, zt6, zt7, zt8, zt9, zt10, zt11, zt12, zt13, e0_1, e0_2, e0_10, e0_11]); omega)) (by first | (omega) | ((try simp only [zt0, zt1, zt2, zt3, zt4, zt5, zt6, zt7, zt8, zt9, zt10, zt11, zt12, zt13, e0_1, e0_2, e0_10, e0_11]); omega)) (f0.g)) (fun y25 t25 u25 p25 => ?_)
          obtain ⟨f25, p25⟩ := p25
          have e25_1 : ∀ k, tg t25 (sr sh r0 1) k = tg t1 (sr sh r0 1) k := fun k => f25.eq q0 (i := 1) (by decide) (by decide) k
          have e25_2 : ∀ k, tg t25 (sr sh r0 2) k = tg t1 (sr sh r0 2) k := fun k => f25.eq q0 (i := 2) (by decide) (by decide) k
          have e25_3 : ∀ k, tg t25 (sr sh r0 3) k = tg t1 (sr sh r0 3) k := fun k => f25.eq q0 (i := 3) (by decide) (by decide) k
          have e25_4 : ∀ k, tg t25 (sr sh r0 4) k = tg t1 (sr sh r0 4) k := fun k => f25.eq q0 (i := 4) (by decide) (by decide) k
          have e25_10 : ∀ k, tg t25 (sr sh r0 10) k = tg t1 (sr sh r0 10) k := fun k => f25.eq q0 (i := 10) (by decide) (by decide) k
          have e25_11 : ∀ k, tg t25 (sr sh r0 11) k = tg t1 (sr sh r0 11) k := fun k => f25.eq q0 (i := 11) (by decide) (by decide) k
          have z25p : ∀ r p, zpa sh r0 t25 r p = zpa sh r0 t1 r p := zpa_eq e25_1 e25_2 e25_3 e25_4
          have z25r : ∀ r, zrz sh r0 t25 r = zrz sh r0 t1 r := fun r => by unfold zrz; rw [z25p]
          try simp only [zt0, zt1, zt2, zt3, zt4, zt5, zt6, zt7, zt8, zt9, zt10, zt11, zt12, zt13, e0_1, e0_2, e0_10, e0_11, e25_1, e25_2, e25_3, e25_4, e25_10, e25_11, z25p, z25r] at p25
          simp only [zput_s, zput_n, ti_g, oI_add, oI_sub, oI_mul, zt0, zt1, zt2, zt3, zt4, zt5, zt6, zt7, zt8, zt9, zt10, zt11, zt12, zt13, e0_1, e0_2, e0_10, e0_11, e25_1, e25_2, e25_3, e25_4, e25_10, e25_11, z25p, z25r, b206_142]
          try simp only [zput_s, zput_n, ti_g, oI_add, oI_sub, oI_mul]
          simp only [zput_s, zput_n, ti_g, oI_add, oI_sub, oI_mul, zt0, zt1, zt2, zt3, zt4, zt5, zt6, zt7, zt8, zt9, zt10, zt11, zt12, zt13, e0_1, e0_2, e0_10, e0_11, e25_1, e25_2, e25_3, e25_4, e25_10, e25_11, z25p, z25r, b206_155]
          try simp only [zput_s, zput_n, ti_g, oI_add, oI_sub, oI_mul]
          first | exact qI_rt (by omega) (by omega) ⟨(FrV.trans (Ns := [0, 3, 4, 8]) (f0) f25 (by decide) (by decide)), by ((try have c0 := hq1 13 (by decide)); (try have c0 := hq1 13); (try have c2 := e0_2 13); (try have c6 := e25_2 13); (try simp only [zt0, zt1, zt2, zt3, zt4, zt5, zt6, zt7, zt8, zt9, zt10, zt11, zt12, zt13] at *) <;> omega)⟩ | exact qI_nf ⟨(FrV.trans (Ns := [0, 3, 4, 8]) (f0) f25 (by decide) (by decide)), by ((try have c0 := hq1 13 (by decide)); (try have c0 := hq1 13); (try have c2 := e0_2 13); (try have c6 := e25_2 13); (try simp only [zt0, zt1, zt2, zt3, zt4, zt5, zt6, zt7, zt8, zt9, zt10, zt11, zt12, zt13] at *) <;> omega)⟩
      · first | refine zok_ne (by omega) (fun c28 => ?_) (fun c28 => ?_) | refine zok_if (fun c28 => ?_) (fun c28 => ?_)
        · simp only [zput_s, zput_n, ti_g, oI_add, oI_sub, oI_mul, zt0, zt1, zt2, zt3, zt4, zt5, zt6, zt7, zt8, zt9, zt10, zt11, zt12, zt13, e0_1, e0_2, e0_10, e0_11, b206_126]
          try simp only [zput_s, zput_n, ti_g, oI_add, oI_sub, oI_mul]
          first | refine zok_eq (by omega) (fun c30 => ?_) (fun c30 => ?_) | refine zok_if (fun c30 => ?_) (fun c30 => ?_)
          · refine zok_ck ((q0).1) ?_
            have gd31 := (f0.g).2.1 (7 * x1 + 5).toNat (by omega)
            try simp only [zt0, zt1, zt2, zt3, zt4, zt5, zt6, zt7, zt8, zt9, zt10, zt11, zt12, zt13, e0_1, e0_2, e0_10, e0_11] at gd31
            have gd231 := gd31.2.2.2 (by omega)
            try simp only [zt0, zt1, zt2, zt3, zt4, zt5, zt6, zt7, zt8, zt9, zt10, zt11, zt12, zt13, e0_1, e0_2, e0_10, e0_11] at gd231
            refine zok_cI (s199 (q0) (by omega) (by omega) (by omega) (by omega) (by first | (omega) | ((try simp only [zt0, zt1, zt2, zt3, zt4, zt5, zt6, zt7, zt8, zt9, zt10, zt11, zt12, zt13, e0_1, e0_2, e0_10, e0_11]); omega)) (by first | (omega) | ((try simp only [zt0, zt1, zt2, zt3, zt4, zt5, zt6, zt7, zt8, zt9, zt10, zt11, zt12, zt13, e0_1, e0_2, e0_10, e0_11]); omega)) (by first | (omega) | ((try simp only [zt0, zt1, zt2, zt3, zt4, zt5, zt6, zt7, zt8, zt9, zt10, zt11, zt12, zt13, e0_1, e0_2, e0_10, e0_11]); omega)) (by first | (omega) | ((try simp only [zt0, zt1, zt2, zt3, zt4, zt5, zt6, zt7, zt8, zt9, zt10, zt11, zt12, zt13, e0_1, e0_2, e0_10, e0_11]); omega)) (f0.g)) (fun y31 t31 u31 p31 => ?_)
            obtain ⟨f31, p31⟩ := p31
            have e31_1 : ∀ k, tg t31 (sr sh r0 1) k = tg t1 (sr sh r0 1) k := fun k => f31.eq q0 (i := 1) (by decide) (by decide) k
            have e31_2 : ∀ k, tg t31 (sr sh r0 2) k = tg t1 (sr sh r0 2) k := fun k => f31.eq q0 (i := 2) (by decide) (by decide) k
            have e31_3 : ∀ k, tg t31 (sr sh r0 3) k = tg t1 (sr sh r0 3) k := fun k => f31.eq q0 (i := 3) (by decide) (by decide) k
            have e31_4 : ∀ k, tg t31 (sr sh r0 4) k = tg t1 (sr sh r0 4) k := fun k => f31.eq q0 (i := 4) (by decide) (by decide) k
            have e31_10 : ∀ k, tg t31 (sr sh r0 10) k = tg t1 (sr sh r0 10) k := fun k => f31.eq q0 (i := 10) (by decide) (by decide) k
            have e31_11 : ∀ k, tg t31 (sr sh r0 11) k = tg t1 (sr sh r0 11) k := fun k => f31.eq q0 (i := 11) (by decide) (by decide) k
            have z31p : ∀ r p, zpa sh r0 t31 r p = zpa sh r0 t1 r p := zpa_eq e31_1 e31_2 e31_3 e31_4
            have z31r : ∀ r, zrz sh r0 t31 r = zrz sh r0 t1 r := fun r => by unfold zrz; rw [z31p]
            try simp only [zt0, zt1, zt2, zt3, zt4, zt5, zt6, zt7, zt8, zt9, zt10, zt11, zt12, zt13, e0_1, e0_2, e0_10, e0_11, e31_1, e31_2, e31_3, e31_4, e31_10, e31_11, z31p, z31r] at p31
            simp only [zput_s, zput_n, ti_g, oI_add, oI_sub, oI_mul, zt0, zt1, zt2, zt3, zt4, zt5, zt6, zt7, zt8, zt9, zt10, zt11, zt12, zt13, e0_1, e0_2, e0_10, e0_11, e31_1, e31_2, e31_3, e31_4, e31_10, e31_11, z31p, z31r, b206_155]
            try simp only [zput_s, zput_n, ti_g, oI_add, oI_sub, oI_mul]
            first | exact qI_rt (by omega) (by omega) ⟨(FrV.trans (Ns := [0, 3, 4, 8]) (f0) f31 (by decide) (by decide)), by ((try have c0 := hq1 13 (by decide)); (try have c0 := hq1 13); (try have c2 := e0_2 13); (try have c6 := e31_2 13); (try simp only [zt0, zt1, zt2, zt3, zt4, zt5, zt6, zt7, zt8, zt9, zt10, zt11, zt12, zt13] at *) <;> omega)⟩ | exact qI_nf ⟨(FrV.trans (Ns := [0, 3, 4, 8]) (f0) f31 (by decide) (by decide)), by ((try have c0 := hq1 13 (by decide)); (try have c0 := hq1 13); (try have c2 := e0_2 13); (try have c6 := e31_2 13); (try simp only [zt0, zt1, zt2, zt3, zt4, zt5, zt6, zt7, zt8, zt9, zt10, zt11, zt12, zt13] at *) <;> omega)⟩
          · refine zok_ck ((q0).1) ?_
            have gd33 := (f0.g).2.1 (7 * x1 + 5).toNat (by omega)
            try simp only [zt0, zt1, zt2, zt3, zt4, zt5, zt6, zt7, zt8, zt9, zt10, zt11, zt12, zt13, e0_1, e0_2, e0_10, e0_11] at gd33
            have gd233 := gd33.2.2.2 (by omega)
            try simp only [zt0, zt1, zt2, zt3, zt4, zt5, zt6, zt7, zt8, zt9, zt10, zt11, zt12, zt13, e0_1, e0_2, e0_10, e0_11] at gd233
            refine zok_cI (s199 (q0) (by omega) (by omega) (by omega) (by omega) (by first | (omega) | ((try simp only [zt0, zt1, zt2, zt3, zt4, zt5, zt6, zt7, zt8, zt9, zt10, zt11, zt12, zt13, e0_1, e0_2, e0_10, e0_11]); omega)) (by first | (omega) | ((try simp only [zt0, zt1, zt2, zt3, zt4, zt5, zt6, zt7, zt8, zt9, zt10, zt11, zt12, zt13, e0_1, e0_2, e0_10, e0_11]); omega)) (by first | (omega) | ((try simp only [zt0, zt1, zt2, zt3, zt4, zt5, zt6, zt7, zt8, zt9, zt10, zt11, zt12, zt13, e0_1, e0_2, e0_10, e0_11]); omega)) (by first | (omega) | ((try simp only [zt0, zt1, zt2, zt3, zt4, zt5, zt6, zt7, zt8, zt9, zt10, zt11, zt12, zt13, e0_1, e0_2, e0_10, e0_11]); omega)) (f0.g)) (fun y33 t33 u33 p33 => ?_)
            obtain ⟨f33, p33⟩ := p33
            have e33_1 : ∀ k, tg t33 (sr sh r0 1) k = tg t1 (sr sh r0 1) k := fun k => f33.eq q0 (i := 1) (by decide) (by decide) k
            have e33_2 : ∀ k, tg t33 (sr sh r0 2) k = tg t1 (sr sh r0 2) k := fun k => f33.eq q0 (i := 2) (by decide) (by decide) k
            have e33_3 : ∀ k, tg t33 (sr sh r0 3) k = tg t1 (sr sh r0 3) k := fun k => f33.eq q0 (i := 3) (by decide) (by decide) k
            have e33_4 : ∀ k, tg t33 (sr sh r0 4) k = tg t1 (sr sh r0 4) k := fun k => f33.eq q0 (i := 4) (by decide) (by decide) k
            have e33_10 : ∀ k, tg t33 (sr sh r0 10) k = tg t1 (sr sh r0 10) k := fun k => f33.eq q0 (i := 10) (by decide) (by decide) k
            have e33_11 : ∀ k, tg t33 (sr sh r0 11) k = tg t1 (sr sh r0 11) k := fun k => f33.eq q0 (i := 11) (by decide) (by decide) k
            have z33p : ∀ r p, zpa sh r0 t33 r p = zpa sh r0 t1 r p := zpa_eq e33_1 e33_2 e33_3 e33_4
            have z33r : ∀ r, zrz sh r0 t33 r = zrz sh r0 t1 r := fun r => by unfold zrz; rw [z33p]
            try simp only [zt0, zt1, zt2, zt3, zt4, zt5, zt6, zt7, zt8, zt9, zt10, zt11, zt12, zt13, e0_1, e0_2, e0_10, e0_11, e33_1, e33_2, e33_3, e33_4, e33_10, e33_11, z33p, z33r] at p33
            simp only [zput_s, zput_n, ti_g, oI_add, oI_sub, oI_mul, zt0, zt1, zt2, zt3, zt4, zt5, zt6, zt7, zt8, zt9, zt10, zt11, zt12, zt13, e0_1, e0_2, e0_10, e0_11, e33_1, e33_2, e33_3, e33_4, e33_10, e33_11, z33p, z33r, b206_142]
            try simp only [zput_s, zput_n, ti_g, oI_add, oI_sub, oI_mul]
            simp only [zput_s, zput_n, ti_g, oI_add, oI_sub, oI_mul, zt0, zt1, zt2, zt3, zt4, zt5, zt6, zt7, zt8, zt9, zt10, zt11, zt12, zt13, e0_1, e0_2, e0_10, e0_11, e33_1, e33_2, e33_3, e33_4, e33_10, e33_11, z33p, z33r, b206_155]
            try simp only [zput_s, zput_n, ti_g, oI_add, oI_sub, oI_mul]
            first | exact qI_rt (by omega) (by omega) ⟨(FrV.trans (Ns := [0, 3, 4, 8]) (f0) f33 (by decide) (by decide)), by ((try have c0 := hq1 13 (by decide)); (try have c0 := hq1 13); (try have c2 := e0_2 13); (try have c6 := e33_2 13); (try simp only [zt0, zt1, zt2, zt3, zt4, zt5, zt6, zt7, zt8, zt9, zt10, zt11, zt12, zt13] at *) <;> omega)⟩ | exact qI_nf ⟨(FrV.trans (Ns := [0, 3, 4, 8]) (f0) f33 (by decide) (by decide)), by ((try have c0 := hq1 13 (by decide)); (try have c0 := hq1 13); (try have c2 := e0_2 13); (try have c6 := e33_2 13); (try simp only [zt0, zt1, zt2, zt3, zt4, zt5, zt6, zt7, zt8, zt9, zt10, zt11, zt12, zt13] at *) <;> omega)⟩
        · refine zok_ck (by first | exact ⟨(q0).1, fun e => by cases e⟩ | exact (q0).1) ?_
          obtain ⟨t36, ht36⟩ : ∃ t', t' = tI t1 r0 (7) (oI (0)) := ⟨_, rfl⟩
          try simp only [zt0, zt1, zt2, zt3, zt4, zt5, zt6, zt7, zt8, zt9, zt10, zt11, zt12, zt13, e0_1, e0_2, e0_10, e0_11] at ht36
          rw [← ht36]
          have f36 : FrV sh r0 [0] t1 t36 := by rw [ht36]; exact GI_m q0 (f0.g) (by omega) (fun e => by first | omega | cases e) (fun e => by first | omega | cases e)
          have d36_0 : tg t36 r0 0 = tg t1 r0 0 := by rw [ht36]; refine (tg_at (by omega)).trans ?_; first | exact if_pos rfl | exact if_neg (by decide) | (simp only [zt0, zt1, zt2, zt3, zt4, zt5, zt6, zt7, zt8, zt9, zt10, zt11, zt12, zt13, e0_1, e0_2, e0_10, e0_11, true_and, if_true])
          have d36_7 : tg t36 r0 7 = 0 := by rw [ht36]; refine (tg_at (by omega)).trans ?_; first | exact if_pos rfl | exact if_neg (by decide) | (simp only [zt0, zt1, zt2, zt3, zt4, zt5, zt6, zt7, zt8, zt9, zt10, zt11, zt12, zt13, e0_1, e0_2, e0_10, e0_11, true_and, if_true])
          try simp only [zt0, zt1, zt2, zt3, zt4, zt5, zt6, zt7, zt8, zt9, zt10, zt11, zt12, zt13, e0_1, e0_2, e0_10, e0_11] at d36_0
          try simp only [zt0, zt1, zt2, zt3, zt4, zt5, zt6, zt7, zt8, zt9, zt10, zt11, zt12, zt13, e0_1, e0_2, e0_10, e0_11] at d36_7
          have e36_1 : ∀ k, tg t36 (sr sh r0 1) k = tg t1 (sr sh r0 1) k := fun k => f36.eq q0 (i := 1) (by decide) (by decide) k
          have e36_2 : ∀ k, tg t36 (sr sh r0 2) k = tg t1 (sr sh r0 2) k := fun k => f36.eq q0 (i := 2) (by decide) (by decide) k
          have e36_3 : ∀ k, tg t36 (sr sh r0 3) k = tg t1 (sr sh r0 3) k := fun k => f36.eq q0 (i := 3) (by decide) (by decide) k
          have e36_4 : ∀ k, tg t36 (sr sh r0 4) k = tg t1 (sr sh r0 4) k := fun k => f36.eq q0 (i := 4) (by decide) (by decide) k
          have e36_10 : ∀ k, tg t36 (sr sh r0 10) k = tg t1 (sr sh r0 10) k := fun k => f36.eq q0 (i := 10) (by decide) (by decide) k
          have e36_11 : ∀ k, tg t36 (sr sh r0 11) k = tg t1 (sr sh r0 11) k := fun k => f36.eq q0 (i := 11) (by decide) (by decide) k
          have z36p : ∀ r p, zpa sh r0 t36 r p = zpa sh r0 t1 r p := zpa_eq e36_1 e36_2 e36_3 e36_4
          have z36r : ∀ r, zrz sh r0 t36 r = zrz sh r0 t1 r := fun r => by unfold zrz; rw [z36p]
          first | exact qI_rt (by omega) (by omega) ⟨(FrV.trans (Ns := [0, 3, 4, 8]) (f0) f36 (by decide) (by decide)), by ((try have c0 := hq1 13 (by decide)); (try have c0 := hq1 13); (try have c2 := e0_2 13); (try have c6 := e36_2 13); (try simp only [zt0, zt1, zt2, zt3, zt4, zt5, zt6, zt7, zt8, zt9, zt10, zt11, zt12, zt13] at *) <;> omega)⟩ | exact qI_nf ⟨(FrV.trans (Ns := [0, 3, 4, 8]) (f0) f36 (by decide) (by decide)), by ((try have c0 := hq1 13 (by decide)); (try have c0 := hq1 13); (try have c2 := e0_2 13); (try have c6 := e36_2 13); (try simp only [zt0, zt1, zt2, zt3, zt4, zt5, zt6, zt7, zt8, zt9, zt10, zt11, zt12, zt13] at *) <;> omega)⟩
theorem s206 {sh : zSh} {t : zSt} {MB : Nat} {r0 : Nat} (q0 : zMd sh MB r0) {x1 : Int} (u1 : -2147483648 ≤ x1 ∧ x1 ≤ 2147483647) {x2 : Int} (u2 : -2147483648 ≤ x2 ∧ x2 ≤ 2147483647) {x3 : Int} (u3 : -2147483648 ≤ x3 ∧ x3 ≤ 2147483647) (G : GI sh r0 t) : zok (zcl zP 206 [zR r0, zI (oI x1), zI (oI x2), zI (oI x3)] (sh, t)) (qI (fun x t' => FrV sh r0 [0, 3, 4, 8] t t' ∧ (tg t' (sr sh r0 2) 13 = tg t (sr sh r0 2) 13)) sh) := by
  have ha0_1 : (sk sh (sr sh r0 1)).2 = 21000 := by rw [q0.2.2.2.2.1]
  have ha0_2 : (sk sh (sr sh r0 2)).2 = 14 := by rw [q0.2.2.2.2.2.1]
  have ha0_3 : (sk sh (sr sh r0 3)).2 = 98 := by rw [q0.2.2.2.2.2.2.1]
  have ha0_4 : (sk sh (sr sh r0 4)).2 = 98 := by rw [q0.2.2.2.2.2.2.2.1]
  have ha0_8 : (sk sh (sr sh r0 8)).2 = 1500 := by rw [q0.2.2.2.2.2.2.2.2.1]
  have ha0_9 : (sk sh (sr sh r0 9)).2 = 10500 := by rw [q0.2.2.2.2.2.2.2.2.2.1]
  have ha0_10 : (sk sh (sr sh r0 10)).2 = 7 := by rw [q0.2.2.2.2.2.2.2.2.2.2.1]
  have ha0_11 : (sk sh (sr sh r0 11)).2 = 7 := by rw [q0.2.2.2.2.2.2.2.2.2.2.2.1]
  have ha0_12 : (sk sh (sr sh r0 12)).2 = 1500 := by rw [q0.2.2.2.2.2.2.2.2.2.2.2.2.1]
  have ha0_13 : (sk sh (sr sh r0 13)).2 = 1500 := by rw [q0.2.2.2.2.2.2.2.2.2.2.2.2.2.1]
  have ha0_14 : (sk sh (sr sh r0 14)).2 = 20 := by rw [q0.2.2.2.2.2.2.2.2.2.2.2.2.2.2]
  rw [b206_0]
  try simp only [zput_s, zput_n, ti_g, oI_add, oI_sub, oI_mul]
  refine zok_pI (s127 (by omega)) (fun y38 u38 p38 => ?_)
  try simp only [zt0, zt1, zt2, zt3, zt4, zt5, zt6, zt7, zt8, zt9, zt10, zt11, zt12, zt13] at p38
  simp only [zput_s, zput_n, ti_g, oI_add, oI_sub, oI_mul, zt0, zt1, zt2, zt3, zt4, zt5, zt6, zt7, zt8, zt9, zt10, zt11, zt12, zt13, b206_5]
  try simp only [zput_s, zput_n, ti_g, oI_add, oI_sub, oI_mul]
  first | refine zok_eq (by omega) (fun c40 => ?_) (fun c40 => ?_) | refine zok_if (fun c40 => ?_) (fun c40 => ?_)
  · have g41_1 := And.intro (tg_lo (tI t r0 0 (oI 1)) r0 0) (tg_hi (tI t r0 0 (oI 1)) r0 0)
    simp only [zput_s, zput_n, ti_g, oI_add, oI_sub, oI_mul, zt0, zt1, zt2, zt3, zt4, zt5, zt6, zt7, zt8, zt9, zt10, zt11, zt12, zt13, b206_13]
    try simp only [zput_s, zput_n, ti_g, oI_add, oI_sub, oI_mul]
    refine zok_ck (by first | exact ⟨(q0).1, fun e => by cases e⟩ | exact (q0).1) ?_
    obtain ⟨t42, ht42⟩ : ∃ t', t' = tI t r0 (0) (oI (1)) := ⟨_, rfl⟩
    try simp only [zt0, zt1, zt2, zt3, zt4, zt5, zt6, zt7, zt8, zt9, zt10, zt11, zt12, zt13] at ht42
    rw [← ht42]
    have f42 : FrV sh r0 [0] t t42 := by rw [ht42]; exact GI_m q0 (G) (by omega) (fun e => by first | omega | cases e) (fun e => by first | omega | cases e)
    have d42_0 : tg t42 r0 0 = 1 := by rw [ht42]; refine (tg_at (by omega)).trans ?_; first | exact if_pos rfl | exact if_neg (by decide) | (simp only [zt0, zt1, zt2, zt3, zt4, zt5, zt6, zt7, zt8, zt9, zt10, zt11, zt12, zt13, true_and, if_true])
    have d42_7 : tg t42 r0 7 = tg t r0 7 := by rw [ht42]; refine (tg_at (by omega)).trans ?_; first | exact if_pos rfl | exact if_neg (by decide) | (simp only [zt0, zt1, zt2, zt3, zt4, zt5, zt6, zt7, zt8, zt9, zt10, zt11, zt12, zt13, true_and, if_true])
    try simp only [zt0, zt1, zt2, zt3, zt4, zt5, zt6, zt7, zt8, zt9, zt10, zt11, zt12, zt13] at d42_0
    try simp only [zt0, zt1, zt2, zt3, zt4, zt5, zt6, zt7, zt8, zt9, zt10, zt11, zt12, zt13] at d42_7
    have e42_1 : ∀ k, tg t42 (sr sh r0 1) k = tg t (sr sh r0 1) k := fun k => f42.eq q0 (i := 1) (by decide) (by decide) k
    have e42_2 : ∀ k, tg t42 (sr sh r0 2) k = tg t (sr sh r0 2) k := fun k => f42.eq q0 (i := 2) (by decide) (by decide) k
    have e42_3 : ∀ k, tg t42 (sr sh r0 3) k = tg t (sr sh r0 3) k := fun k => f42.eq q0 (i := 3) (by decide) (by decide) k
    have e42_4 : ∀ k, tg t42 (sr sh r0 4) k = tg t (sr sh r0 4) k := fun k => f42.eq q0 (i := 4) (by decide) (by decide) k
    have e42_10 : ∀ k, tg t42 (sr sh r0 10) k = tg t (sr sh r0 10) k := fun k => f42.eq q0 (i := 10) (by decide) (by decide) k
    have e42_11 : ∀ k, tg t42 (sr sh r0 11) k = tg t (sr sh r0 11) k := fun k => f42.eq q0 (i := 11) (by decide) (by decide) k
    have z42p : ∀ r p, zpa sh r0 t42 r p = zpa sh r0 t r p := zpa_eq e42_1 e42_2 e42_3 e42_4
    have z42r : ∀ r, zrz sh r0 t42 r = zrz sh r0 t r := fun r => by unfold zrz; rw [z42p]
    refine zok_ck ((q0).1) ?_
    first | refine zok_ne (by omega) (fun c43 => ?_) (fun c43 => ?_) | refine zok_if (fun c43 => ?_) (fun c43 => ?_)
    · have g44_1 := And.intro (tg_lo t42 r0 0) (tg_hi t42 r0 0)
      simp only [zput_s, zput_n, ti_g, oI_add, oI_sub, oI_mul, zt0, zt1, zt2, zt3, zt4, zt5, zt6, zt7, zt8, zt9, zt10, zt11, zt12, zt13, e42_1, e42_2, e42_3, e42_4, e42_10, e42_11, z42p, z42r, b206_47]
      try simp only [zput_s, zput_n, ti_g, oI_add, oI_sub, oI_mul]
      refine zok_ck ((q0).1) ?_
      first | refine zok_le (by omega) (fun c45 => ?_) (fun c45 => ?_) | refine zok_if (fun c45 => ?_) (fun c45 => ?_)
      · try simp only [zput_s, zput_n, ti_g, oI_add, oI_sub, oI_mul]
        exact l206_56 q0 (by omega) (by omega) (by omega) G _ _ ((FrV.trans (Ns := [0, 3, 4, 8]) (FrV.refl (Ls := []) G) f42 (by decide) (by decide))) (by first | omega | ((try simp only [zt0, zt1, zt2, zt3, zt4, zt5, zt6, zt7, zt8, zt9, zt10, zt11, zt12, zt13, e42_1, e42_2, e42_3, e42_4, e42_10, e42_11, z42p, z42r, true_and, and_true]); omega)) (Nat.lt_succ_self _)
      · first | exact qI_rt (by omega) (by omega) ⟨(FrV.trans (Ns := [0, 3, 4, 8]) (FrV.refl (Ls := []) G) f42 (by decide) (by decide)), by ((try have c0 := hq1 13 (by decide)); (try have c0 := hq1 13); (try have c2 := e42_2 13); (try simp only [zt0, zt1, zt2, zt3, zt4, zt5, zt6, zt7, zt8, zt9, zt10, zt11, zt12, zt13] at *) <;> omega)⟩ | exact qI_nf ⟨(FrV.trans (Ns := [0, 3, 4, 8]) (FrV.refl (Ls := []) G) f42 (by decide) (by decide)), by ((try have c0 := hq1 13 (by decide)); (try have c0 := hq1 13); (try have c2 := e42_2 13); (try simp only [zt0, zt1, zt2, zt3, zt4, zt5, zt6, zt7, zt8, zt9, zt10, zt11, zt12, zt13] at *) <;> omega)⟩
    · refine zok_ck ((q0).1) ?_
      refine zok_cI (s204 (q0) (by omega) (by first | (omega) | ((try simp only [zt0, zt1, zt2, zt3, zt4, zt5, zt6, zt7, zt8, zt9, zt10, zt11, zt12, zt13, e42_1, e42_2, e42_3, e42_4, e42_10, e42_11, z42p, z42r]); omega)) (f42.g)) (fun y46 t46 u46 p46 => ?_)
      obtain ⟨f46, p46⟩ := p46
      have e46_1 : ∀ k, tg t46 (sr sh r0 1) k = tg t42 (sr sh r0 1) k := fun k => f46.eq q0 (i := 1) (by decide) (by decide) k
      have e46_2 : ∀ k, tg t46 (sr sh r0 2) k = tg t42 (sr sh r0 2) k := fun k => f46.eq q0 (i := 2) (by decide) (by decide) k
      have e46_10 : ∀ k, tg t46 (sr sh r0 10) k = tg t42 (sr sh r0 10) k := fun k => f46.eq q0 (i := 10) (by decide) (by decide) k
      have e46_11 : ∀ k, tg t46 (sr sh r0 11) k = tg t42 (sr sh r0 11) k := fun k => f46.eq q0 (i := 11) (by decide) (by decide) k
      have d46_0 : tg t46 r0 0 = tg t42 r0 0 := f46.eq q0 (i := 0) (by decide) (by decide) 0
      have d46_7 : tg t46 r0 7 = tg t42 r0 7 := f46.eq q0 (i := 0) (by decide) (by decide) 7
      try simp only [zt0, zt1, zt2, zt3, zt4, zt5, zt6, zt7, zt8, zt9, zt10, zt11, zt12, zt13, e42_1, e42_2, e42_3, e42_4, e42_10, e42_11, z42p, z42r, e46_1, e46_2, e46_10, e46_11] at p46
      simp only [zput_s, zput_n, ti_g, oI_add, oI_sub, oI_mul, zt0, zt1, zt2, zt3, zt4, zt5, zt6, zt7, zt8, zt9, zt10, zt11, zt12, zt13, e42_1, e42_2, e42_3, e42_4, e42_10, e42_11, z42p, z42r, e46_1, e46_2, e46_10, e46_11, b206_31]
      try simp only [zput_s, zput_n, ti_g, oI_add, oI_sub, oI_mul]
      refine zok_pI (s120 (by omega) (by omega) (by omega)) (fun y48 u48 p48 => ?_)
      try simp only [zt0, zt1, zt2, zt3, zt4, zt5, zt6, zt7, zt8, zt9, zt10, zt11, zt12, zt13, e42_1, e42_2, e42_3, e42_4, e42_10, e42_11, z42p, z42r, e46_1, e46_2, e46_10, e46_11] at p48
      simp only [zput_s, zput_n, ti_g, oI_add, oI_sub, oI_mul, zt0, zt1, zt2, zt3, zt4, zt5, zt6, zt7, zt8, zt9, zt10, zt11, zt12, zt13, e42_1, e42_2, e42_3, e42_4, e42_10, e42_11, z42p, z42r, e46_1, e46_2, e46_10, e46_11, b206_36]
      try simp only [zput_s, zput_n, ti_g, oI_add, oI_sub, oI_mul]
      first | refine zok_eq (by omega) (fun c50 => ?_) (fun c50 => ?_) | refine zok_if (fun c50 => ?_) (fun c50 => ?_)
      · simp only [zput_s, zput_n, ti_g, oI_add, oI_sub, oI_mul, zt0, zt1, zt2, zt3, zt4, zt5, zt6, zt7, zt8, zt9, zt10, zt11, zt12, zt13, e42_1, e42_2, e42_3, e42_4, e42_10, e42_11, z42p, z42r, e46_1, e46_2, e46_10, e46_11, b206_44]
        try simp only [zput_s, zput_n, ti_g, oI_add, oI_sub, oI_mul]
        refine zok_ck (by first | exact ⟨(q0).1, fun e => by cases e⟩ | exact (q0).1) ?_
        obtain ⟨t52, ht52⟩ : ∃ t', t' = tI t46 r0 (0) (oI (2)) := ⟨_, rfl⟩
        try simp only [zt0, zt1, zt2, zt3, zt4, zt5, zt6, zt7, zt8, zt9, zt10, zt11, zt12, zt13, e42_1, e42_2, e42_3, e42_4, e42_10, e42_11, z42p, z42r, e46_1, e46_2, e46_10, e46_11] at ht52
        rw [← ht52]
        have f52 : FrV sh r0 [0] t46 t52 := by rw [ht52]; exact GI_m q0 (f46.g) (by omega) (fun e => by first | omega | cases e) (fun e => by first | omega | cases e)
        have d52_0 : tg t52 r0 0 = 2 := by rw [ht52]; refine (tg_at (by omega)).trans ?_; first | exact if_pos rfl | exact if_neg (by decide) | (simp only [zt0, zt1, zt2, zt3, zt4, zt5, zt6, zt7, zt8, zt9, zt10, zt11, zt12, zt13, e42_1, e42_2, e42_3, e42_4, e42_10, e42_11, z42p, z42r, e46_1, e46_2, e46_10, e46_11, true_and, if_true])
        have d52_7 : tg t52 r0 7 = tg t46 r0 7 := by rw [ht52]; refine (tg_at (by omega)).trans ?_; first | exact if_pos rfl | exact if_neg (by decide) | (simp only [zt0, zt1, zt2, zt3, zt4, zt5, zt6, zt7, zt8, zt9, zt10, zt11, zt12, zt13, e42_1, e42_2, e42_3, e42_4, e42_10, e42_11, z42p, z42r, e46_1, e46_2, e46_10, e46_11, true_and, if_true])
        try simp only [zt0, zt1, zt2, zt3, zt4, zt5, zt6, zt7, zt8, zt9, zt10, zt11, zt12, zt13, e42_1, e42_2, e42_3, e42_4, e42_10, e42_11, z42p, z42r, e46_1, e46_2, e46_10, e46_11] at d52_0
        try simp only [zt0, zt1, zt2, zt3, zt4, zt5, zt6, zt7, zt8, zt9, zt10, zt11, zt12, zt13, e42_1, e42_2, e42_3, e42_4, e42_10, e42_11, z42p, z42r, e46_1, e46_2, e46_10, e46_11] at d52_7
        have e52_1 : ∀ k, tg t52 (sr sh r0 1) k = tg t46 (sr sh r0 1) k := fun k => f52.eq q0 (i := 1) (by decide) (by decide) k
        have e52_2 : ∀ k, tg t52 (sr sh r0 2) k = tg t46 (sr sh r0 2) k := fun k => f52.eq q0 (i := 2) (by decide) (by decide) k
        have e52_3 : ∀ k, tg t52 (sr sh r0 3) k = tg t46 (sr sh r0 3) k := fun k => f52.eq q0 (i := 3) (by decide) (by decide) k
        have e52_4 : ∀ k, tg t52 (sr sh r0 4) k = tg t46 (sr sh r0 4) k := fun k => f52.eq q0 (i := 4) (by decide) (by decide) k
        have e52_10 : ∀ k, tg t52 (sr sh r0 10) k = tg t46 (sr sh r0 10) k := fun k => f52.eq q0 (i := 10) (by decide) (by decide) k
        have e52_11 : ∀ k, tg t52 (sr sh r0 11) k = tg t46 (sr sh r0 11) k := fun k => f52.eq q0 (i := 11) (by decide) (by decide) k
        have z52p : ∀ r p, zpa sh r0 t52 r p = zpa sh r0 t46 r p := zpa_eq e52_1 e52_2 e52_3 e52_4
        have z52r : ∀ r, zrz sh r0 t52 r = zrz sh r0 t46 r := fun r => by unfold zrz; rw [z52p]
        have g53_1 := And.intro (tg_lo t52 r0 0) (tg_hi t52 r0 0)
        simp only [zput_s, zput_n, ti_g, oI_add, oI_sub, oI_mul, zt0, zt1, zt2, zt3, zt4, zt5, zt6, zt7, zt8, zt9, zt10, zt11, zt12, zt13, e42_1, e42_2, e42_3, e42_4, e42_10, e42_11, z42p, z42r, e46_1, e46_2, e46_10, e46_11, e52_1, e52_2, e52_3, e52_4, e52_10, e52_11, z52p, z52r, b206_47]
        try simp only [zput_s, zput_n, ti_g, oI_add, oI_sub, oI_mul]
        refine zok_ck ((q0).1) ?_
        first | refine zok_le (by omega) (fun c54 => ?_) (fun c54 => ?_) | refine zok_if (fun c54 => ?_) (fun c54 => ?_)
        · try simp only [zput_s, zput_n, ti_g, oI_add, oI_sub, oI_mul]
          exact l206_56 q0 (by omega) (by omega) (by omega) G _ _ ((FrV.trans (Ns := [0, 3, 4, 8]) ((FrV.trans (Ns := [0, 3, 4, 8]) ((FrV.trans (Ns := [0, 3, 4, 8]) (FrV.refl (Ls := []) G) f42 (by decide) (by decide))) f46 (by decide) (by decide))) f52 (by decide) (by decide))) (by first | omega | ((try simp only [zt0, zt1, zt2, zt3, zt4, zt5, zt6, zt7, zt8, zt9, zt10, zt11, zt12, zt13, e42_1, e42_2, e42_3, e42_4, e42_10, e42_11, z42p, z42r, e46_1, e46_2, e46_10, e46_11, e52_1, e52_2, e52_3, e52_4, e52_10, e52_11, z52p, z52r, true_and, and_true]); omega)) (Nat.lt_succ_self _)
        · first | exact qI_rt (by omega) (by omega) ⟨(FrV.trans (Ns := [0, 3, 4, 8]) ((FrV.trans (Ns := [0, 3, 4, 8]) ((FrV.trans (Ns := [0, 3, 4, 8]) (FrV.refl (Ls := []) G) f42 (by decide) (by decide))) f46 (by decide) (by decide))) f52 (by decide) (by decide)), by ((try have c0 := hq1 13 (by decide)); (try have c0 := hq1 13); (try have c2 := e42_2 13); (try have c8 := e46_2 13); (try have c12 := e52_2 13); (try simp only [zt0, zt1, zt2, zt3, zt4, zt5, zt6, zt7, zt8, zt9, zt10, zt11, zt12, zt13] at *) <;> omega)⟩ | exact qI_nf ⟨(FrV.trans (Ns := [0, 3, 4, 8]) ((FrV.trans (Ns := [0, 3, 4, 8]) ((FrV.trans (Ns := [0, 3, 4, 8]) (FrV.refl (Ls := []) G) f42 (by decide) (by decide))) f46 (by decide) (by decide))) f52 (by decide) (by decide)), by ((try have c0 := hq1 13 (by decide)); (try have c0 := hq1 13); (try have c2 := e42_2 13); (try have c8 := e46_2 13); (try have c12 := e52_2 13); (try simp only [zt0, zt1, zt2, zt3, zt4, zt5, zt6, zt7, zt8, zt9, zt10, zt11, zt12, zt13] at *) <;> omega)⟩
      · simp only [zput_s, zput_n, ti_g, oI_add, oI_sub, oI_mul, zt0, zt1, zt2, zt3, zt4, zt5, zt6, zt7, zt8, zt9, zt10, zt11, zt12, zt13, e42_1, e42_2, e42_3, e42_4, e42_10, e42_11, z42p, z42r, e46_1, e46_2, e46_10, e46_11, b206_44]
        try simp only [zput_s, zput_n, ti_g, oI_add, oI_sub, oI_mul]
        refine zok_ck (by first | exact ⟨(q0).1, fun e => by cases e⟩ | exact (q0).1) ?_
        obtain ⟨t56, ht56⟩ : ∃ t', t' = tI t46 r0 (0) (oI (0)) := ⟨_, rfl⟩
        try simp only [zt0, zt1, zt2, zt3, zt4, zt5, zt6, zt7, zt8, zt9, zt10, zt11, zt12, zt13, e42_1, e42_2, e42_3, e42_4, e42_10, e42_11, z42p, z42r, e46_1, e46_2, e46_10, e46_11] at ht56
        rw [← ht56]
        have f56 : FrV sh r0 [0] t46 t56 := by rw [ht56]; exact GI_m q0 (f46.g) (by omega) (fun e => by first | omega | cases e) (fun e => by first | omega | cases e)
        have d56_0 : tg t56 r0 0 = 0 := by rw [ht56]; refine (tg_at (by omega)).trans ?_; first | exact if_pos rfl | exact if_neg (by decide) | (simp only [zt0, zt1, zt2, zt3, zt4, zt5, zt6, zt7, zt8, zt9, zt10, zt11, zt12, zt13, e42_1, e42_2, e42_3, e42_4, e42_10, e42_11, z42p, z42r, e46_1, e46_2, e46_10, e46_11, true_and, if_true])
        have d56_7 : tg t56 r0 7 = tg t46 r0 7 := by rw [ht56]; refine (tg_at (by omega)).trans ?_; first | exact if_pos rfl | exact if_neg (by decide) | (simp only [zt0, zt1, zt2, zt3, zt4, zt5, zt6, zt7, zt8, zt9, zt10, zt11, zt12, zt13, e42_1, e42_2, e42_3, e42_4, e42_10, e42_11, z42p, z42r, e46_1, e46_2, e46_10, e46_11, true_and, if_true])
        try simp only [zt0, zt1, zt2, zt3, zt4, zt5, zt6, zt7, zt8, zt9, zt10, zt11, zt12, zt13, e42_1, e42_2, e42_3, e42_4, e42_10, e42_11, z42p, z42r, e46_1, e46_2, e46_10, e46_11] at d56_0
        try simp only [zt0, zt1, zt2, zt3, zt4, zt5, zt6, zt7, zt8, zt9, zt10, zt11, zt12, zt13, e42_1, e42_2, e42_3, e42_4, e42_10, e42_11, z42p, z42r, e46_1, e46_2, e46_10, e46_11] at d56_7
        have e56_1 : ∀ k, tg t56 (sr sh r0 1) k = tg t46 (sr sh r0 1) k := fun k => f56.eq q0 (i := 1) (by decide) (by decide) k
        have e56_2 : ∀ k, tg t56 (sr sh r0 2) k = tg t46 (sr sh r0 2) k := fun k => f56.eq q0 (i := 2) (by decide) (by decide) k
        have e56_3 : ∀ k, tg t56 (sr sh r0 3) k = tg t46 (sr sh r0 3) k := fun k => f56.eq q0 (i := 3) (by decide) (by decide) k
        have e56_4 : ∀ k, tg t56 (sr sh r0 4) k = tg t46 (sr sh r0 4) k := fun k => f56.eq q0 (i := 4) (by decide) (by decide) k
        have e56_10 : ∀ k, tg t56 (sr sh r0 10) k = tg t46 (sr sh r0 10) k := fun k => f56.eq q0 (i := 10) (by decide) (by decide) k
        have e56_11 : ∀ k, tg t56 (sr sh r0 11) k = tg t46 (sr sh r0 11) k := fun k => f56.eq q0 (i := 11) (by decide) (by decide) k
        have z56p : ∀ r p, zpa sh r0 t56 r p = zpa sh r0 t46 r p := zpa_eq e56_1 e56_2 e56_3 e56_4
        have z56r : ∀ r, zrz sh r0 t56 r = zrz sh r0 t46 r := fun r => by unfold zrz; rw [z56p]
        have g57_1 := And.intro (tg_lo t56 r0 0) (tg_hi t56 r0 0)
        simp only [zput_s, zput_n, ti_g, oI_add, oI_sub, oI_mul, zt0, zt1, zt2, zt3, zt4, zt5, zt6, zt7, zt8, zt9, zt10, zt11, zt12, zt13, e42_1, e42_2, e42_3, e42_4, e42_10, e42_11, z42p, z42r, e46_1, e46_2, e46_10, e46_11, e56_1, e56_2, e56_3, e56_4, e56_10, e56_11, z56p, z56r, b206_47]
        try simp only [zput_s, zput_n, ti_g, oI_add, oI_sub, oI_mul]
        refine zok_ck ((q0).1) ?_
        first | refine zok_le (by omega) (fun c58 => ?_) (fun c58 => ?_) | refine zok_if (fun c58 => ?_) (fun c58 => ?_)
        · try simp only [zput_s, zput_n, ti_g, oI_add, oI_sub, oI_mul]
          exact l206_56 q0 (by omega) (by omega) (by omega) G _ _ ((FrV.trans (Ns := [0, 3, 4, 8]) ((FrV.trans (Ns := [0, 3, 4, 8]) ((FrV.trans (Ns := [0, 3, 4, 8]) (FrV.refl (Ls := []) G) f42 (by decide) (by decide))) f46 (by decide) (by decide))) f56 (by decide) (by decide))) (by first | omega | ((try simp only [zt0, zt1, zt2, zt3, zt4, zt5, zt6, zt7, zt8, zt9, zt10, zt11, zt12, zt13, e42_1, e42_2, e42_3, e42_4, e42_10, e42_11, z42p, z42r, e46_1, e46_2, e46_10, e46_11, e56_1, e56_2, e56_3, e56_4, e56_10, e56_11, z56p, z56r, true_and, and_true]); omega)) (Nat.lt_succ_self _)
        · first | exact qI_rt (by omega) (by omega) ⟨(FrV.trans (Ns := [0, 3, 4, 8]) ((FrV.trans (Ns := [0, 3, 4, 8]) ((FrV.trans (Ns := [0, 3, 4, 8]) (FrV.refl (Ls := []) G) f42 (by decide) (by decide))) f46 (by decide) (by decide))) f56 (by decide) (by decide)), by ((try have c0 := hq1 13 (by decide)); (try have c0 := hq1 13); (try have c2 := e42_2 13); (try have c8 := e46_2 13); (try have c12 := e56_2 13); (try simp only [zt0, zt1, zt2, zt3, zt4, zt5, zt6, zt7, zt8, zt9, zt10, zt11, zt12, zt13] at *) <;> omega)⟩ | exact qI_nf ⟨(FrV.trans (Ns := [0, 3, 4, 8]) ((FrV.trans (Ns := [0, 3, 4, 8]) ((FrV.trans (Ns := [0, 3, 4, 8]) (FrV.refl (Ls := []) G) f42 (by decide) (by decide))) f46 (by decide) (by decide))) f56 (by decide) (by decide)), by ((try have c0 := hq1 13 (by decide)); (try have c0 := hq1 13); (try have c2 := e42_2 13); (try have c8 := e46_2 13); (try have c12 := e56_2 13); (try simp only [zt0, zt1, zt2, zt3, zt4, zt5, zt6, zt7, zt8, zt9, zt10, zt11, zt12, zt13] at *) <;> omega)⟩
  · have g59_1 := And.intro (tg_lo (tI t r0 0 (oI 0)) r0 0) (tg_hi (tI t r0 0 (oI 0)) r0 0)
    simp only [zput_s, zput_n, ti_g, oI_add, oI_sub, oI_mul, zt0, zt1, zt2, zt3, zt4, zt5, zt6, zt7, zt8, zt9, zt10, zt11, zt12, zt13, b206_13]
    try simp only [zput_s, zput_n, ti_g, oI_add, oI_sub, oI_mul]
    refine zok_ck (by first | exact ⟨(q0).1, fun e => by cases e⟩ | exact (q0).1) ?_
    obtain ⟨t60, ht60⟩ : ∃ t', t' = tI t r0 (0) (oI (0)) := ⟨_, rfl⟩
    try simp only [zt0, zt1, zt2, zt3, zt4, zt5, zt6, zt7, zt8, zt9, zt10, zt11, zt12, zt13] at ht60
    rw [← ht60]
    have f60 : FrV sh r0 [0] t t60 := by rw [ht60]; exact GI_m q0 (G) (by omega) (fun e => by first | omega | cases e) (fun e => by first | omega | cases e)
    have d60_0 : tg t60 r0 0 = 0 := by rw [ht60]; refine (tg_at (by omega)).trans ?_; first | exact if_pos rfl | exact if_neg (by decide) | (simp only [zt0, zt1, zt2, zt3, zt4, zt5, zt6, zt7, zt8, zt9, zt10, zt11, zt12, zt13, true_and, if_true])
    have d60_7 : tg t60 r0 7 = tg t r0 7 := by rw [ht60]; refine (tg_at (by omega)).trans ?_; first | exact if_pos rfl | exact if_neg (by decide) | (simp only [zt0, zt1, zt2, zt3, zt4, zt5, zt6, zt7, zt8, zt9, zt10, zt11, zt12, zt13, true_and, if_true])
    try simp only [zt0, zt1, zt2, zt3, zt4, zt5, zt6, zt7, zt8, zt9, zt10, zt11, zt12, zt13] at d60_0
    try simp only [zt0, zt1, zt2, zt3, zt4, zt5, zt6, zt7, zt8, zt9, zt10, zt11, zt12, zt13] at d60_7
    have e60_1 : ∀ k, tg t60 (sr sh r0 1) k = tg t (sr sh r0 1) k := fun k => f60.eq q0 (i := 1) (by decide) (by decide) k
    have e60_2 : ∀ k, tg t60 (sr sh r0 2) k = tg t (sr sh r0 2) k := fun k => f60.eq q0 (i := 2) (by decide) (by decide) k
    have e60_3 : ∀ k, tg t60 (sr sh r0 3) k = tg t (sr sh r0 3) k := fun k => f60.eq q0 (i := 3) (by decide) (by decide) k
    have e60_4 : ∀ k, tg t60 (sr sh r0 4) k = tg t (sr sh r0 4) k := fun k => f60.eq q0 (i := 4) (by decide) (by decide) k
    have e60_10 : ∀ k, tg t60 (sr sh r0 10) k = tg t (sr sh r0 10) k := fun k => f60.eq q0 (i := 10) (by decide) (by decide) k
    have e60_11 : ∀ k, tg t60 (sr sh r0 11) k = tg t (sr sh r0 11) k := fun k => f60.eq q0 (i := 11) (by decide) (by decide) k
    have z60p : ∀ r p, zpa sh r0 t60 r p = zpa sh r0 t r p := zpa_eq e60_1 e60_2 e60_3 e60_4
    have z60r : ∀ r, zrz sh r0 t60 r = zrz sh r0 t r := fun r => by unfold zrz; rw [z60p]
    refine zok_ck ((q0).1) ?_
    first | refine zok_ne (by omega) (fun c61 => ?_) (fun c61 => ?_) | refine zok_if (fun c61 => ?_) (fun c61 => ?_)
    · have g62_1 := And.intro (tg_lo t60 r0 0) (tg_hi t60 r0 0)
      simp only [zput_s, zput_n, ti_g, oI_add, oI_sub, oI_mul, zt0, zt1, zt2, zt3, zt4, zt5, zt6, zt7, zt8, zt9, zt10, zt11, zt12, zt13, e60_1, e60_2, e60_3, e60_4, e60_10, e60_11, z60p, z60r, b206_47]
      try simp only [zput_s, zput_n, ti_g, oI_add, oI_sub, oI_mul]
      refine zok_ck ((q0).1) ?_
      first | refine zok_le (by omega) (fun c63 => ?_) (fun c63 => ?_) | refine zok_if (fun c63 => ?_) (fun c63 => ?_)
      · try simp only [zput_s, zput_n, ti_g, oI_add, oI_sub, oI_mul]
        exact l206_56 q0 (by omega) (by omega) (by omega) G _ _ ((FrV.trans (Ns := [0, 3, 4, 8]) (FrV.refl (Ls := []) G) f60 (by decide) (by decide))) (by first | omega | ((try simp only [zt0, zt1, zt2, zt3, zt4, zt5, zt6, zt7, zt8, zt9, zt10, zt11, zt12, zt13, e60_1, e60_2, e60_3, e60_4, e60_10, e60_11, z60p, z60r, true_and, and_true]); omega)) (Nat.lt_succ_self _)
      · first | exact qI_rt (by omega) (by omega) ⟨(FrV.trans (Ns := [0, 3, 4, 8]) (FrV.refl (Ls := []) G) f60 (by decide) (by decide)), by ((try have c0 := hq1 13 (by decide)); (try have c0 := hq1 13); (try have c2 := e60_2 13); (try simp only [zt0, zt1, zt2, zt3, zt4, zt5, zt6, zt7, zt8, zt9, zt10, zt11, zt12, zt13] at *) <;> omega)⟩ | exact qI_nf ⟨(FrV.trans (Ns := [0, 3, 4, 8]) (FrV.refl (Ls := []) G) f60 (by decide) (by decide)), by ((try have c0 := hq1 13 (by decide)); (try have c0 := hq1 13); (try have c2 := e60_2 13); (try simp only [zt0, zt1, zt2, zt3, zt4, zt5, zt6, zt7, zt8, zt9, zt10, zt11, zt12, zt13] at *) <;> omega)⟩
    · refine zok_ck ((q0).1) ?_
      refine zok_cI (s204 (q0) (by omega) (by first | (omega) | ((try simp only [zt0, zt1, zt2, zt3, zt4, zt5, zt6, zt7, zt8, zt9, zt10, zt11, zt12, zt13, e60_1, e60_2, e60_3, e60_4, e60_10, e60_11, z60p, z60r]); omega)) (f60.g)) (fun y64 t64 u64 p64 => ?_)
      obtain ⟨f64, p64⟩ := p64
      have e64_1 : ∀ k, tg t64 (sr sh r0 1) k = tg t60 (sr sh r0 1) k := fun k => f64.eq q0 (i := 1) (by decide) (by decide) k
      have e64_2 : ∀ k, tg t64 (sr sh r0 2) k = tg t60 (sr sh r0 2) k := fun k => f64.eq q0 (i := 2) (by decide) (by decide) k
      have e64_10 : ∀ k, tg t64 (sr sh r0 10) k = tg t60 (sr sh r0 10) k := fun k => f64.eq q0 (i := 10) (by decide) (by decide) k
      have e64_11 : ∀ k, tg t64 (sr sh r0 11) k = tg t60 (sr sh r0 11) k := fun k => f64.eq q0 (i := 11) (by decide) (by decide) k
      have d64_0 : tg t64 r0 0 = tg t60 r0 0 := f64.eq q0 (i := 0) (by decide) (by decide) 0
      have d64_7 : tg t64 r0 7 = tg t60 r0 7 := f64.eq q0 (i := 0) (by decide) (by decide) 7
      try simp only [zt0, zt1, zt2, zt3, zt4, zt5, zt6, zt7, zt8, zt9, zt10, zt11, zt12, zt13, e60_1, e60_2, e60_3, e60_4, e60_10, e60_11, z60p, z60r, e64_1, e64_2, e64_10, e64_11] at p64
      simp only [zput_s, zput_n, ti_g, oI_add, oI_sub, oI_mul, zt0, zt1, zt2, zt3, zt4, zt5, zt6, zt7, zt8, zt9, zt10, zt11, zt12, zt13, e60_1, e60_2, e60_3, e60_4, e60_10, e60_11, z60p, z60r, e64_1, e64_2, e64_10, e64_11, b206_31]
      try simp only [zput_s, zput_n, ti_g, oI_add, oI_sub, oI_mul]
      refine zok_pI (s120 (by omega) (by omega) (by omega)) (fun y66 u66 p66 => ?_)
      try simp only [zt0, zt1, zt2, zt3, zt4, zt5, zt6, zt7, zt8, zt9, zt10, zt11, zt12, zt13, e60_1, e60_2, e60_3, e60_4, e60_10, e60_11, z60p, z60r, e64_1, e64_2, e64_10, e64_11] at p66
      simp only [zput_s, zput_n, ti_g, oI_add, oI_sub, oI_mul, zt0, zt1, zt2, zt3, zt4, zt5, zt6, zt7, zt8, zt9, zt10, zt11, zt12, zt13, e60_1, e60_2, e60_3, e60_4, e60_10, e60_11, z60p, z60r, e64_1, e64_2, e64_10, e64_11, b206_36]
      try simp only [zput_s, zput_n, ti_g, oI_add, oI_sub, oI_mul]
      first | refine zok_eq (by omega) (fun c68 => ?_) (fun c68 => ?_) | refine zok_if (fun c68 => ?_) (fun c68 => ?_)
      · simp only [zput_s, zput_n, ti_g, oI_add, oI_sub, oI_mul, zt0, zt1, zt2, zt3, zt4, zt5, zt6, zt7, zt8, zt9, zt10, zt11, zt12, zt13, e60_1, e60_2, e60_3, e60_4, e60_10, e60_11, z60p, z60r, e64_1, e64_2, e64_10, e64_11, b206_44]
        try simp only [zput_s, zput_n, ti_g, oI_add, oI_sub, oI_mul]
        refine zok_ck (by first | exact ⟨(q0).1, fun e => by cases e⟩ | exact (q0).1) ?_
        obtain ⟨t70, ht70⟩ : ∃ t', t' = tI t64 r0 (0) (oI (2)) := ⟨_, rfl⟩
        try simp only [zt0, zt1, zt2, zt3, zt4, zt5, zt6, zt7, zt8, zt9, zt10, zt11, zt12, zt13, e60_1, e60_2, e60_3, e60_4, e60_10, e60_11, z60p, z60r, e64_1, e64_2, e64_10, e64_11] at ht70
        rw [← ht70]
        have f70 : FrV sh r0 [0] t64 t70 := by rw [ht70]; exact GI_m q0 (f64.g) (by omega) (fun e => by first | omega | cases e) (fun e => by first | omega | cases e)
        have d70_0 : tg t70 r0 0 = 2 := by rw [ht70]; refine (tg_at (by omega)).trans ?_; first | exact if_pos rfl | exact if_neg (by decide) | (simp only [zt0, zt1, zt2, zt3, zt4, zt5, zt6, zt7, zt8, zt9, zt10, zt11, zt12, zt13, e60_1, e60_2, e60_3, e60_4, e60_10, e60_11, z60p, z60r, e64_1, e64_2, e64_10, e64_11, true_and, if_true])
        have d70_7 : tg t70 r0 7 = tg t64 r0 7 := by rw [ht70]; refine (tg_at (by omega)).trans ?_; first | exact if_pos rfl | exact if_neg (by decide) | (simp only [zt0, zt1, zt2, zt3, zt4, zt5, zt6, zt7, zt8, zt9, zt10, zt11, zt12, zt13, e60_1, e60_2, e60_3, e60_4, e60_10, e60_11, z60p, z60r, e64_1, e64_2, e64_10, e64_11, true_and, if_true])
        try simp only [zt0, zt1, zt2, zt3, zt4, zt5, zt6, zt7, zt8, zt9, zt10, zt11, zt12, zt13, e60_1, e60_2, e60_3, e60_4, e60_10, e60_11, z60p, z60r, e64_1, e64_2, e64_10, e64_11] at d70_0
        try simp only [zt0, zt1, zt2, zt3, zt4, zt5, zt6, zt7, zt8, zt9, zt10, zt11, zt12, zt13, e60_1, e60_2, e60_3, e60_4, e60_10, e60_11, z60p, z60r, e64_1, e64_2, e64_10, e64_11] at d70_7
        have e70_1 : ∀ k, tg t70 (sr sh r0 1) k = tg t64 (sr sh r0 1) k := fun k => f70.eq q0 (i := 1) (by decide) (by decide) k
        have e70_2 : ∀ k, tg t70 (sr sh r0 2) k = tg t64 (sr sh r0 2) k := fun k => f70.eq q0 (i := 2) (by decide) (by decide) k
        have e70_3 : ∀ k, tg t70 (sr sh r0 3) k = tg t64 (sr sh r0 3) k := fun k => f70.eq q0 (i := 3) (by decide) (by decide) k
        have e70_4 : ∀ k, tg t70 (sr sh r0 4) k = tg t64 (sr sh r0 4) k := fun k => f70.eq q0 (i := 4) (by decide) (by decide) k
        have e70_10 : ∀ k, tg t70 (sr sh r0 10) k = tg t64 (sr sh r0 10) k := fun k => f70.eq q0 (i := 10) (by decide) (by decide) k
        have e70_11 : ∀ k, tg t70 (sr sh r0 11) k = tg t64 (sr sh r0 11) k := fun k => f70.eq q0 (i := 11) (by decide) (by decide) k
        have z70p : ∀ r p, zpa sh r0 t70 r p = zpa sh r0 t64 r p := zpa_eq e70_1 e70_2 e70_3 e70_4
        have z70r : ∀ r, zrz sh r0 t70 r = zrz sh r0 t64 r := fun r => by unfold zrz; rw [z70p]
        have g71_1 := And.intro (tg_lo t70 r0 0) (tg_hi t70 r0 0)
        simp only [zput_s, zput_n, ti_g, oI_add, oI_sub, oI_mul, zt0, zt1, zt2, zt3, zt4, zt5, zt6, zt7, zt8, zt9, zt10, zt11, zt12, zt13, e60_1, e60_2, e60_3, e60_4, e60_10, e60_11, z60p, z60r, e64_1, e64_2, e64_10, e64_11, e70_1, e70_2, e70_3, e70_4, e70_10, e70_11, z70p, z70r, b206_47]
        try simp only [zput_s, zput_n, ti_g, oI_add, oI_sub, oI_mul]
        refine zok_ck ((q0).1) ?_
        first | refine zok_le (by omega) (fun c72 => ?_) (fun c72 => ?_) | refine zok_if (fun c72 => ?_) (fun c72 => ?_)
        · try simp only [zput_s, zput_n, ti_g, oI_add, oI_sub, oI_mul]
          exact l206_56 q0 (by omega) (by omega) (by omega) G _ _ ((FrV.trans (Ns := [0, 3, 4, 8]) ((FrV.trans (Ns := [0, 3, 4, 8]) ((FrV.trans (Ns := [0, 3, 4, 8]) (FrV.refl (Ls := []) G) f60 (by decide) (by decide))) f64 (by decide) (by decide))) f70 (by decide) (by decide))) (by first | omega | ((try simp only [zt0, zt1, zt2, zt3, zt4, zt5, zt6, zt7, zt8, zt9, zt10, zt11, zt12, zt13, e60_1, e60_2, e60_3, e60_4, e60_10, e60_11, z60p, z60r, e64_1, e64_2, e64_10, e64_11, e70_1, e70_2, e70_3, e70_4, e70_10, e70_11, z70p, z70r, true_and, and_true]); omega)) (Nat.lt_succ_self _)
        · first | exact qI_rt (by omega) (by omega) ⟨(FrV.trans (Ns := [0, 3, 4, 8]) ((FrV.trans (Ns := [0, 3, 4, 8]) ((FrV.trans (Ns := [0, 3, 4, 8]) (FrV.refl (Ls := []) G) f60 (by decide) (by decide))) f64 (by decide) (by decide))) f70 (by decide) (by decide)), by ((try have c0 := hq1 13 (by decide)); (try have c0 := hq1 13); (try have c2 := e60_2 13); (try have c8 := e64_2 13); (try have c12 := e70_2 13); (try simp only [zt0, zt1, zt2, zt3, zt4, zt5, zt6, zt7, zt8, zt9, zt10, zt11, zt12, zt13] at *) <;> omega)⟩ | exact qI_nf ⟨(FrV.trans (Ns := [0, 3, 4, 8]) ((FrV.trans (Ns := [0, 3, 4, 8]) ((FrV.trans (Ns := [0, 3, 4, 8]) (FrV.refl (Ls := []) G) f60 (by decide) (by decide))) f64 (by decide) (by decide))) f70 (by decide) (by decide)), by ((try have c0 := hq1 13 (by decide)); (try have c0 := hq1 13); (try have c2 := e60_2 13); (try have c8 := e64_2 13); (try have c12 := e70_2 13); (try simp only [zt0, zt1, zt2, zt3, zt4, zt5, zt6, zt7, zt8, zt9, zt10, zt11, zt12, zt13] at *) <;> omega)⟩
      · simp only [zput_s, zput_n, ti_g, oI_add, oI_sub, oI_mul, zt0, zt1, zt2, zt3, zt4, zt5, zt6, zt7, zt8, zt9, zt10, zt11, zt12, zt13, e60_1, e60_2, e60_3, e60_4, e60_10, e60_11, z60p, z60r, e64_1, e64_2, e64_10, e64_11, b206_44]
        try simp only [zput_s, zput_n, ti_g, oI_add, oI_sub, oI_mul]
        refine zok_ck (by first | exact ⟨(q0).1, fun e => by cases e⟩ | exact (q0).1) ?_
        obtain ⟨t74, ht74⟩ : ∃ t', t' = tI t64 r0 (0) (oI (0)) := ⟨_, rfl⟩
        try simp only [zt0, zt1, zt2, zt3, zt4, zt5, zt6, zt7, zt8, zt9, zt10, zt11, zt12, zt13, e60_1, e60_2, e60_3, e60_4, e60_10, e60_11, z60p, z60r, e64_1, e64_2, e64_10, e64_11] at ht74
        rw [← ht74]
        have f74 : FrV sh r0 [0] t64 t74 := by rw [ht74]; exact GI_m q0 (f64.g) (by omega) (fun e => by first | omega | cases e) (fun e => by first | omega | cases e)
        have d74_0 : tg t74 r0 0 = 0 := by rw [ht74]; refine (tg_at (by omega)).trans ?_; first | exact if_pos rfl | exact if_neg (by decide) | (simp only [zt0, zt1, zt2, zt3, zt4, zt5, zt6, zt7, zt8, zt9, zt10, zt11, zt12, zt13, e60_1, e60_2, e60_3, e60_4, e60_10, e60_11, z60p, z60r, e64_1, e64_2, e64_10, e64_11, true_and, if_true])
        have d74_7 : tg t74 r0 7 = tg t64 r0 7 := by rw [ht74]; refine (tg_at (by omega)).trans ?_; first | exact if_pos rfl | exact if_neg (by decide) | (simp only [zt0, zt1, zt2, zt3, zt4, zt5, zt6, zt7, zt8, zt9, zt10, zt11, zt12, zt13, e60_1, e60_2, e60_3, e60_4, e60_10, e60_11, z60p, z60r, e64_1, e64_2, e64_10, e64_11, true_and, if_true])
        try simp only [zt0, zt1, zt2, zt3, zt4, zt5, zt6, zt7, zt8, zt9, zt10, zt11, zt12, zt13, e60_1, e60_2, e60_3, e60_4, e60_10, e60_11, z60p, z60r, e64_1, e64_2, e64_10, e64_11] at d74_0
        try simp only [zt0, zt1, zt2, zt3, zt4, zt5, zt6, zt7, zt8, zt9, zt10, zt11, zt12, zt13, e60_1, e60_2, e60_3, e60_4, e60_10, e60_11, z60p, z60r, e64_1, e64_2, e64_10, e64_11] at d74_7
        have e74_1 : ∀ k, tg t74 (sr sh r0 1) k = tg t64 (sr sh r0 1) k := fun k => f74.eq q0 (i := 1) (by decide) (by decide) k
        have e74_2 : ∀ k, tg t74 (sr sh r0 2) k = tg t64 (sr sh r0 2) k := fun k => f74.eq q0 (i := 2) (by decide) (by decide) k
        have e74_3 : ∀ k, tg t74 (sr sh r0 3) k = tg t64 (sr sh r0 3) k := fun k => f74.eq q0 (i := 3) (by decide) (by decide) k
        have e74_4 : ∀ k, tg t74 (sr sh r0 4) k = tg t64 (sr sh r0 4) k := fun k => f74.eq q0 (i := 4) (by decide) (by decide) k
        have e74_10 : ∀ k, tg t74 (sr sh r0 10) k = tg t64 (sr sh r0 10) k := fun k => f74.eq q0 (i := 10) (by decide) (by decide) k
        have e74_11 : ∀ k, tg t74 (sr sh r0 11) k = tg t64 (sr sh r0 11) k := fun k => f74.eq q0 (i := 11) (by decide) (by decide) k
        have z74p : ∀ r p, zpa sh r0 t74 r p = zpa sh r0 t64 r p := zpa_eq e74_1 e74_2 e74_3 e74_4
        have z74r : ∀ r, zrz sh r0 t74 r = zrz sh r0 t64 r := fun r => by unfold zrz; rw [z74p]
        have g75_1 := And.intro (tg_lo t74 r0 0) (tg_hi t74 r0 0)
        simp only [zput_s, zput_n, ti_g, oI_add, oI_sub, oI_mul, zt0, zt1, zt2, zt3, zt4, zt5, zt6, zt7, zt8, zt9, zt10, zt11, zt12, zt13, e60_1, e60_2, e60_3, e60_4, e60_10, e60_11, z60p, z60r, e64_1, e64_2, e64_10, e64_11, e74_1, e74_2, e74_3, e74_4, e74_10, e74_11, z74p, z74r, b206_47]
        try simp only [zput_s, zput_n, ti_g, oI_add, oI_sub, oI_mul]
        refine zok_ck ((q0).1) ?_
        first | refine zok_le (by omega) (fun c76 => ?_) (fun c76 => ?_) | refine zok_if (fun c76 => ?_) (fun c76 => ?_)
        · try simp only [zput_s, zput_n, ti_g, oI_add, oI_sub, oI_mul]
          exact l206_56 q0 (by omega) (by omega) (by omega) G _ _ ((FrV.trans (Ns := [0, 3, 4, 8]) ((FrV.trans (Ns := [0, 3, 4, 8]) ((FrV.trans (Ns := [0, 3, 4, 8]) (FrV.refl (Ls := []) G) f60 (by decide) (by decide))) f64 (by decide) (by decide))) f74 (by decide) (by decide))) (by first | omega | ((try simp only [zt0, zt1, zt2, zt3, zt4, zt5, zt6, zt7, zt8, zt9, zt10, zt11, zt12, zt13, e60_1, e60_2, e60_3, e60_4, e60_10, e60_11, z60p, z60r, e64_1, e64_2, e64_10, e64_11, e74_1, e74_2, e74_3, e74_4, e74_10, e74_11, z74p, z74r, true_and, and_true]); omega)) (Nat.lt_succ_self _)
        · first | exact qI_rt (by omega) (by omega) ⟨(FrV.trans (Ns := [0, 3, 4, 8]) ((FrV.trans (Ns := [0, 3, 4, 8]) ((FrV.trans (Ns := [0, 3, 4, 8]) (FrV.refl (Ls := []) G) f60 (by decide) (by decide))) f64 (by decide) (by decide))) f74 (by decide) (by decide)), by ((try have c0 := hq1 13 (by decide)); (try have c0 := hq1 13); (try have c2 := e60_2 13); (try have c8 := e64_2 13); (try have c12 := e74_2 13); (try simp only [zt0, zt1, zt2, zt3, zt4, zt5, zt6, zt7, zt8, zt9, zt10, zt11, zt12, zt13] at *) <;> omega)⟩ | exact qI_nf ⟨(FrV.trans (Ns := [0, 3, 4, 8]) ((FrV.trans (Ns := [0, 3, 4, 8]) ((FrV.trans (Ns := [0, 3, 4, 8]) (FrV.refl (Ls := []) G) f60 (by decide) (by decide))) f64 (by decide) (by decide))) f74 (by decide) (by decide)), by ((try have c0 := hq1 13 (by decide)); (try have c0 := hq1 13); (try have c2 := e60_2 13); (try have c8 := e64_2 13); (try have c12 := e74_2 13); (try simp only [zt0, zt1, zt2, zt3, zt4, zt5, zt6, zt7, zt8, zt9, zt10, zt11, zt12, zt13] at *) <;> omega)⟩
