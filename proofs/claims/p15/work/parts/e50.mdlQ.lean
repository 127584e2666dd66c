set_option maxRecDepth 16384
/-! X9_countIn -/
theorem l194_6 {sh : zSh} {t : zSt} {MB : Nat} {r0 : Nat} (q0 : zMd sh MB r0) {x1 : Int} (u1 : -2147483648 ≤ x1 ∧ x1 ≤ 2147483647) {x2 : Int} (u2 : -2147483648 ≤ x2 ∧ x2 ≤ 2147483647) {x3 : Int} (u3 : -2147483648 ≤ x3 ∧ x3 ≤ 2147483647) {x4 : Int} (u4 : -2147483648 ≤ x4 ∧ x4 ≤ 2147483647) (d1 : 0 ≤ x1 ∧ x1 ≤ 13) (d2 : 0 ≤ x2 ∧ x2 ≤ 6) (d3 : 0 ≤ x3 ∧ x3 ≤ 1000000) (G : GI sh r0 t) : ∀ (n : Nat) (x5 : Int) (x6 : Int) , (-2147483648 ≤ x5 ∧ x5 ≤ 2147483647) ∧ (-2147483648 ≤ x6 ∧ x6 ≤ 2147483647) ∧ (x3 ≤ x6 ∧ (x6 ≤ (tg t (sr sh r0 4) (7 * x1 + x2).toNat - tg t (sr sh r0 3) (7 * x1 + x2).toNat) ∨ x6 = x3)) ∧ (x5 = 1 + zkn (zpa sh r0 t x1 x2) x4 x3 (x6 - x3).toNat) → ((tg t (sr sh r0 4) (7 * x1 + x2).toNat - tg t (sr sh r0 3) (7 * x1 + x2).toNat) - x6).toNat < n → zok (zev zP 194 6 [some (zR r0), some (zI (oI x1)), some (zI (oI x2)), some (zI (oI x3)), some (zI (oI x4)), some (zI (oI x5)), some (zI (oI x6))] [] (sh, t)) (qI (fun x t' => t' = t ∧ (x = 1 + zkn (zpa sh r0 t x1 x2) x4 x3 ((tg t (sr sh r0 4) (7 * x1 + x2).toNat - tg t (sr sh r0 3) (7 * x1 + x2).toNat) - x3).toNat ∧ 1 ≤ x)) sh) := by
  intro n
  induction n with
  | zero => intro x5 x6  _ hm; omega
  | succ n ih =>
    intro x5 x6  hv hm
    have ha0_1 : (sk sh (sr sh r0 1)).2 = 21000 := by rw [q0.2.2.2.2.1]
    have ha0_2 : (sk sh (sr sh r0 2)).2 = 14 := by rw [q0.2.2.2.2.2.1]
    have ha0_3 : (sk sh (sr sh r0 3)).2 = 98 := by rw [q0.2.2.2.2.2.2.1]
    have ha0_4 : (sk sh (sr sh r0 4)).2 = 98 := by rw [q0.2.2.2.2.2.2.2.1]
    have ha0_8 : (sk sh (sr sh r0 8)).2 = 1500 := by rw [q0.2.2.2.2.2.2.2.2.1]
    have ha0_9 : (sk sh (sr sh r0 9)).2 = 10500 := by rw [q0.2.2.2.2.2.2.2.2.2.1]
    have ha0_10 : (sk sh (sr sh r0 10)).2 = 7 := by rw [q0.2.2.2.2.2.2.2.2.2.2.1]
    have ha0_11 : (sk sh (sr sh r0 11)).2 = 7 := by rw [q0.2.2.2.2.2.2.2.2.2.2.2.1]
    have ha0_12 : (sk sh (sr sh r0 12)).2 = 1500 := by rw [q0.2.2.2.2.2.2.2.2.2.2.2.2.1]
    have ha0_13 : (sk sh (sr sh r0 13)).2 = 1500 := by rw [q0.2.2.2.2.2.2.2.2.2.2.2.2.2.1]
    have ha0_14 : (sk sh (sr sh r0 14)).2 = 20 := by rw [q0.2.2.2.2.2.2.2.2.2.2.2.2.2.2]
    have hc := zkn_s (zpa sh r0 t x1 x2) x4 x3 (k := x6)
    try simp only [zt0, zt1, zt2, zt3, zt4, zt5, zt6, zt7, zt8, zt9, zt10, zt11, zt12, zt13] at hc
    have hn := zkn_nn (zpa sh r0 t x1 x2) x4 x3 (x6 - x3).toNat
    try simp only [zt0, zt1, zt2, zt3, zt4, zt5, zt6, zt7, zt8, zt9, zt10, zt11, zt12, zt13] at hn
    have hx : (x6 - x3).toNat = ((tg t (sr sh r0 4) (7 * x1 + x2).toNat - tg t (sr sh r0 3) (7 * x1 + x2).toNat) - x3).toNat → zkn (zpa sh r0 t x1 x2) x4 x3 (x6 - x3).toNat = zkn (zpa sh r0 t x1 x2) x4 x3 ((tg t (sr sh r0 4) (7 * x1 + x2).toNat - tg t (sr sh r0 3) (7 * x1 + x2).toNat) - x3).toNat := fun h => by rw [h]
    try simp only [zt0, zt1, zt2, zt3, zt4, zt5, zt6, zt7, zt8, zt9, zt10, zt11, zt12, zt13] at hx
    rw [b194_6]
    try simp only [zput_s, zput_n, ti_g, oI_add, oI_sub, oI_mul]
    refine zok_ck ((q0).1) ?_
    refine zok_pI (s135 (q0) (by omega) (by omega) (by first | (omega) | ((try simp only [zt0, zt1, zt2, zt3, zt4, zt5, zt6, zt7, zt8, zt9, zt10, zt11, zt12, zt13]); omega)) (by first | (omega) | ((try simp only [zt0, zt1, zt2, zt3, zt4, zt5, zt6, zt7, zt8, zt9, zt10, zt11, zt12, zt13]); omega)) (G)) (fun y2 u2 p2 => ?_)
    try simp only [zt0, zt1, zt2, zt3, zt4, zt5, zt6, zt7, zt8, zt9, zt10, zt11, zt12, zt13] at p2
    simp only [zput_s, zput_n, ti_g, oI_add, oI_sub, oI_mul, zt0, zt1, zt2, zt3, zt4, zt5, zt6, zt7, zt8, zt9, zt10, zt11, zt12, zt13, b194_14]
    try simp only [zput_s, zput_n, ti_g, oI_add, oI_sub, oI_mul]
    first | refine zok_le (by omega) (fun c4 => ?_) (fun c4 => ?_) | refine zok_if (fun c4 => ?_) (fun c4 => ?_)
    · first | exact qI_rt (by omega) (by omega) ⟨rfl, by omega⟩ | exact qI_nf ⟨rfl, by omega⟩
    · refine zok_ck ((q0).1) ?_
      refine zok_pI (s136 (q0) (by omega) (by omega) (by omega) (by first | (omega) | ((try simp only [zt0, zt1, zt2, zt3, zt4, zt5, zt6, zt7, zt8, zt9, zt10, zt11, zt12, zt13]); omega)) (by first | (omega) | ((try simp only [zt0, zt1, zt2, zt3, zt4, zt5, zt6, zt7, zt8, zt9, zt10, zt11, zt12, zt13]); omega)) (by first | (omega) | ((try simp only [zt0, zt1, zt2, zt3, zt4, zt5, zt6, zt7, zt8, zt9, zt10, zt11, zt12, zt13]); omega)) (G)) (fun y5 u5 p5 => ?_)
      try simp only [zt0, zt1, zt2, zt3, zt4, zt5, zt6, zt7, zt8, zt9, zt10, zt11, zt12, zt13] at p5
      simp only [zput_s, zput_n, ti_g, oI_add, oI_sub, oI_mul, zt0, zt1, zt2, zt3, zt4, zt5, zt6, zt7, zt8, zt9, zt10, zt11, zt12, zt13, b194_27]
      try simp only [zput_s, zput_n, ti_g, oI_add, oI_sub, oI_mul]
      first | refine zok_ne (by omega) (fun c7 => ?_) (fun c7 => ?_) | refine zok_if (fun c7 => ?_) (fun c7 => ?_)
      · try simp only [zput_s, zput_n, ti_g, oI_add, oI_sub, oI_mul]
        exact ih _ _ (by first | omega | ((try simp only [zt0, zt1, zt2, zt3, zt4, zt5, zt6, zt7, zt8, zt9, zt10, zt11, zt12, zt13, true_and, and_true]); omega)) (by first | omega | ((try simp only [zt0, zt1, zt2, zt3, zt4, zt5, zt6, zt7, zt8, zt9, zt10, zt11, zt12, zt13, true_and, and_true]); omega))
      · try simp only [zput_s, zput_n, ti_g, oI_add, oI_sub, oI_mul]
        exact ih _ _ (by first | omega | ((try simp only [zt0, zt1, zt2, zt3, zt4, zt5, zt6, zt7, zt8, zt9, zt10, zt11, zt12, zt13, true_and, and_true]); omega)) (by first | omega | ((try simp only [zt0, zt1, zt2, zt3, zt4, zt5, zt6, zt7, zt8, zt9, zt10, zt11, zt12, zt13, true_and, and_true]); omega))
theorem s194 {sh : zSh} {t : zSt} {MB : Nat} {r0 : Nat} (q0 : zMd sh MB r0) {x1 : Int} (u1 : -2147483648 ≤ x1 ∧ x1 ≤ 2147483647) {x2 : Int} (u2 : -2147483648 ≤ x2 ∧ x2 ≤ 2147483647) {x3 : Int} (u3 : -2147483648 ≤ x3 ∧ x3 ≤ 2147483647) {x4 : Int} (u4 : -2147483648 ≤ x4 ∧ x4 ≤ 2147483647) (d1 : 0 ≤ x1 ∧ x1 ≤ 13) (d2 : 0 ≤ x2 ∧ x2 ≤ 6) (d3 : 0 ≤ x3 ∧ x3 ≤ 1000000) (G : GI sh r0 t) : zok (zcl zP 194 [zR r0, zI (oI x1), zI (oI x2), zI (oI x3), zI (oI x4)] (sh, t)) (qI (fun x t' => t' = t ∧ (x = 1 + zkn (zpa sh r0 t x1 x2) x4 x3 ((tg t (sr sh r0 4) (7 * x1 + x2).toNat - tg t (sr sh r0 3) (7 * x1 + x2).toNat) - x3).toNat ∧ 1 ≤ x)) sh) := by
  have ha0_1 : (sk sh (sr sh r0 1)).2 = 21000 := by rw [q0.2.2.2.2.1]
  have ha0_2 : (sk sh (sr sh r0 2)).2 = 14 := by rw [q0.2.2.2.2.2.1]
  have ha0_3 : (sk sh (sr sh r0 3)).2 = 98 := by rw [q0.2.2.2.2.2.2.1]
  have ha0_4 : (sk sh (sr sh r0 4)).2 = 98 := by rw [q0.2.2.2.2.2.2.2.1]
  have ha0_8 : (sk sh (sr sh r0 8)).2 = 1500 := by rw [q0.2.2.2.2.2.2.2.2.1]
  have ha0_9 : (sk sh (sr sh r0 9)).2 = 10500 := by rw [q0.2.2.2.2.2.2.2.2.2.1]
  have ha0_10 : (sk sh (sr sh r0 10)).2 = 7 := by rw [q0.2.2.2.2.2.2.2.2.2.2.1]
  have ha0_11 : (sk sh (sr sh r0 11)).2 = 7 := by rw [q0.2.2.2.2.2.2.2.2.2.2.2.1]
  have ha0_12 : (sk sh (sr sh r0 12)).2 = 1500 := by rw [q0.2.2.2.2.2.2.2.2.2.2.2.2.1]
  have ha0_13 : (sk sh (sr sh r0 13)).2 = 1500 := by rw [q0.2.2.2.2.2.2.2.2.2.2.2.2.2.1]
  have ha0_14 : (sk sh (sr sh r0 14)).2 = 20 := by rw [q0.2.2.2.2.2.2.2.2.2.2.2.2.2.2]
  have h0 : zkn (zpa sh r0 t x1 x2) x4 x3 (x3 - x3).toNat = 0 := by rw [show (x3 - x3).toNat = 0 by omega]; rfl
  rw [b194_0]
  try simp only [zput_s, zput_n, ti_g, oI_add, oI_sub, oI_mul]
  try simp only [zput_s, zput_n, ti_g, oI_add, oI_sub, oI_mul]
  exact l194_6 q0 (by omega) (by omega) (by omega) (by omega) d1 d2 d3 G _ _ _ (by first | omega | ((try simp only [zt0, zt1, zt2, zt3, zt4, zt5, zt6, zt7, zt8, zt9, zt10, zt11, zt12, zt13, true_and, and_true]); omega)) (Nat.lt_succ_self _)
/-! X9_behind -/
theorem l197_7 {sh : zSh} {t : zSt} {MB : Nat} {r0 : Nat} (q0 : zMd sh MB r0) {x1 : Int} (u1 : -2147483648 ≤ x1 ∧ x1 ≤ 2147483647) {x2 : Int} (u2 : -2147483648 ≤ x2 ∧ x2 ≤ 2147483647) {x3 : Int} (u3 : -2147483648 ≤ x3 ∧ x3 ≤ 2147483647) {x4 : Int} (u4 : -2147483648 ≤ x4 ∧ x4 ≤ 2147483647) {x5 : Int} (u5 : -2147483648 ≤ x5 ∧ x5 ≤ 2147483647) (d1 : 0 ≤ x1 ∧ x1 ≤ 13) (d2 : 0 ≤ x2 ∧ x2 ≤ 6) (d3 : 0 ≤ x3 ∧ x3 ≤ 1000000) (d5 : 0 ≤ x5 ∧ x5 ≤ zkn (zpa sh r0 t x1 x2) x4 x3 ((tg t (sr sh r0 4) (7 * x1 + x2).toNat - tg t (sr sh r0 3) (7 * x1 + x2).toNat) - x3).toNat) (G : GI sh r0 t) : ∀ (n : Nat) (x6 : Int) (x7 : Int) , (-2147483648 ≤ x6 ∧ x6 ≤ 2147483647) ∧ (-2147483648 ≤ x7 ∧ x7 ≤ 2147483647) ∧ (x3 ≤ x6 ∧ (x6 ≤ (tg t (sr sh r0 4) (7 * x1 + x2).toNat - tg t (sr sh r0 3) (7 * x1 + x2).toNat) ∨ x6 = x3)) ∧ (x7 = x5 - zkn (zpa sh r0 t x1 x2) x4 x3 (x6 - x3).toNat) → ((tg t (sr sh r0 4) (7 * x1 + x2).toNat - tg t (sr sh r0 3) (7 * x1 + x2).toNat) - x6).toNat < n → zok (zev zP 197 7 [some (zR r0), some (zI (oI x1)), some (zI (oI x2)), some (zI (oI x3)), some (zI (oI x4)), some (zI (oI x5)), some (zI (oI x6)), some (zI (oI x7))] [] (sh, t)) (qI (fun x t' => t' = t ∧ (x3 ≤ x ∧ (x ≤ (tg t (sr sh r0 4) (7 * x1 + x2).toNat - tg t (sr sh r0 3) (7 * x1 + x2).toNat) ∨ x = x3))) sh) := by
  intro n
  induction n with
  | zero => intro x6 x7  _ hm; omega
  | succ n ih =>
    intro x6 x7  hv hm
    have ha0_1 : (sk sh (sr sh r0 1)).2 = 21000 := by rw [q0.2.2.2.2.1]
    have ha0_2 : (sk sh (sr sh r0 2)).2 = 14 := by rw [q0.2.2.2.2.2.1]
    have ha0_3 : (sk sh (sr sh r0 3)).2 = 98 := by rw [q0.2.2.2.2.2.2.1]
    have ha0_4 : (sk sh (sr sh r0 4)).2 = 98 := by rw [q0.2.2.2.2.2.2.2.1]
    have ha0_8 : (sk sh (sr sh r0 8)).2 = 1500 := by rw [q0.2.2.2.2.2.2.2.2.1]
    have ha0_9 : (sk sh (sr sh r0 9)).2 = 10500 := by rw [q0.2.2.2.2.2.2.2.2.2.1]
    have ha0_10 : (sk sh (sr sh r0 10)).2 = 7 := by rw [q0.2.2.2.2.2.2.2.2.2.2.1]
    have ha0_11 : (sk sh (sr sh r0 11)).2 = 7 := by rw [q0.2.2.2.2.2.2.2.2.2.2.2.1]
    have ha0_12 : (sk sh (sr sh r0 12)).2 = 1500 := by rw [q0.2.2.2.2.2.2.2.2.2.2.2.2.1]
    have ha0_13 : (sk sh (sr sh r0 13)).2 = 1500 := by rw [q0.2.2.2.2.2.2.2.2.2.2.2.2.2.1]
    have ha0_14 : (sk sh (sr sh r0 14)).2 = 20 := by rw [q0.2.2.2.2.2.2.2.2.2.2.2.2.2.2]
    have hc := zkn_s (zpa sh r0 t x1 x2) x4 x3 (k := x6)
    try simp only [zt0, zt1, zt2, zt3, zt4, zt5, zt6, zt7, zt8, zt9, zt10, zt11, zt12, zt13] at hc
    have hn := zkn_nn (zpa sh r0 t x1 x2) x4 x3 (x6 - x3).toNat
    try simp only [zt0, zt1, zt2, zt3, zt4, zt5, zt6, zt7, zt8, zt9, zt10, zt11, zt12, zt13] at hn
    have hm : (tg t (sr sh r0 4) (7 * x1 + x2).toNat - tg t (sr sh r0 3) (7 * x1 + x2).toNat) ≤ x6 → zkn (zpa sh r0 t x1 x2) x4 x3 ((tg t (sr sh r0 4) (7 * x1 + x2).toNat - tg t (sr sh r0 3) (7 * x1 + x2).toNat) - x3).toNat ≤ zkn (zpa sh r0 t x1 x2) x4 x3 (x6 - x3).toNat := fun h => zkn_mono _ _ _ (by omega)
    try simp only [zt0, zt1, zt2, zt3, zt4, zt5, zt6, zt7, zt8, zt9, zt10, zt11, zt12, zt13] at hm
    have gz := G.2.1 (7 * x1 + x2).toNat (by omega)
    try simp only [zt0, zt1, zt2, zt3, zt4, zt5, zt6, zt7, zt8, zt9, zt10, zt11, zt12, zt13] at gz
    rw [b197_7]
    try simp only [zput_s, zput_n, ti_g, oI_add, oI_sub, oI_mul]
    first | refine zok_le (by omega) (fun c2 => ?_) (fun c2 => ?_) | refine zok_if (fun c2 => ?_) (fun c2 => ?_)
    · first | exact qI_rt (by omega) (by omega) ⟨rfl, by omega⟩ | exact qI_nf ⟨rfl, by omega⟩
    · refine zok_ck ((q0).1) ?_
      refine zok_pI (s136 (q0) (by omega) (by omega) (by omega) (by first | (omega) | ((try simp only [zt0, zt1, zt2, zt3, zt4, zt5, zt6, zt7, zt8, zt9, zt10, zt11, zt12, zt13]); omega)) (by first | (omega) | ((try simp only [zt0, zt1, zt2, zt3, zt4, zt5, zt6, zt7, zt8, zt9, zt10, zt11, zt12, zt13]); omega)) (by first | (omega) | ((try simp only [zt0, zt1, zt2, zt3, zt4, zt5, zt6, zt7, zt8, zt9, zt10, zt11, zt12, zt13]); omega)) (G)) (fun y3 u3 p3 => ?_)
      try simp only [zt0, zt1, zt2, zt3, zt4, zt5, zt6, zt7, zt8, zt9, zt10, zt11, zt12, zt13] at p3
      simp only [zput_s, zput_n, ti_g, oI_add, oI_sub, oI_mul, zt0, zt1, zt2, zt3, zt4, zt5, zt6, zt7, zt8, zt9, zt10, zt11, zt12, zt13, b197_22]
      try simp only [zput_s, zput_n, ti_g, oI_add, oI_sub, oI_mul]
      first | refine zok_ne (by omega) (fun c5 => ?_) (fun c5 => ?_) | refine zok_if (fun c5 => ?_) (fun c5 => ?_)
      · try simp only [zput_s, zput_n, ti_g, oI_add, oI_sub, oI_mul]
        exact ih _ _ (by first | omega | ((try simp only [zt0, zt1, zt2, zt3, zt4, zt5, zt6, zt7, zt8, zt9, zt10, zt11, zt12, zt13, true_and, and_true]); omega)) (by first | omega | ((try simp only [zt0, zt1, zt2, zt3, zt4, zt5, zt6, zt7, zt8, zt9, zt10, zt11, zt12, zt13, true_and, and_true]); omega))
      · try simp only [zput_s, zput_n, ti_g, oI_add, oI_sub, oI_mul]
        exact ih _ _ (by first | omega | ((try simp only [zt0, zt1, zt2, zt3, zt4, zt5, zt6, zt7, zt8, zt9, zt10, zt11, zt12, zt13, true_and, and_true]); omega)) (by first | omega | ((try simp only [zt0, zt1, zt2, zt3, zt4, zt5, zt6, zt7, zt8, zt9, zt10, zt11, zt12, zt13, true_and, and_true]); omega))
theorem s197 {sh : zSh} {t : zSt} {MB : Nat} {r0 : Nat} (q0 : zMd sh MB r0) {x1 : Int} (u1 : -2147483648 ≤ x1 ∧ x1 ≤ 2147483647) {x2 : Int} (u2 : -2147483648 ≤ x2 ∧ x2 ≤ 2147483647) {x3 : Int} (u3 : -2147483648 ≤ x3 ∧ x3 ≤ 2147483647) {x4 : Int} (u4 : -2147483648 ≤ x4 ∧ x4 ≤ 2147483647) {x5 : Int} (u5 : -2147483648 ≤ x5 ∧ x5 ≤ 2147483647) (d1 : 0 ≤ x1 ∧ x1 ≤ 13) (d2 : 0 ≤ x2 ∧ x2 ≤ 6) (d3 : 0 ≤ x3 ∧ x3 ≤ 1000000) (d5 : 0 ≤ x5 ∧ x5 ≤ zkn (zpa sh r0 t x1 x2) x4 x3 ((tg t (sr sh r0 4) (7 * x1 + x2).toNat - tg t (sr sh r0 3) (7 * x1 + x2).toNat) - x3).toNat) (G : GI sh r0 t) : zok (zcl zP 197 [zR r0, zI (oI x1), zI (oI x2), zI (oI x3), zI (oI x4), zI (oI x5)] (sh, t)) (qI (fun x t' => t' = t ∧ (x3 ≤ x ∧ (x ≤ (tg t (sr sh r0 4) (7 * x1 + x2).toNat - tg t (sr sh r0 3) (7 * x1 + x2).toNat) ∨ x = x3))) sh) := by
  have ha0_1 : (sk sh (sr sh r0 1)).2 = 21000 := by rw [q0.2.2.2.2.1]
  have ha0_2 : (sk sh (sr sh r0 2)).2 = 14 := by rw [q0.2.2.2.2.2.1]
  have ha0_3 : (sk sh (sr sh r0 3)).2 = 98 := by rw [q0.2.2.2.2.2.2.1]
  have ha0_4 : (sk sh (sr sh r0 4)).2 = 98 := by rw [q0.2.2.2.2.2.2.2.1]
  have ha0_8 : (sk sh (sr sh r0 8)).2 = 1500 := by rw [q0.2.2.2.2.2.2.2.2.1]
  have ha0_9 : (sk sh (sr sh r0 9)).2 = 10500 := by rw [q0.2.2.2.2.2.2.2.2.2.1]
  have ha0_10 : (sk sh (sr sh r0 10)).2 = 7 := by rw [q0.2.2.2.2.2.2.2.2.2.2.1]
  have ha0_11 : (sk sh (sr sh r0 11)).2 = 7 := by rw [q0.2.2.2.2.2.2.2.2.2.2.2.1]
  have ha0_12 : (sk sh (sr sh r0 12)).2 = 1500 := by rw [q0.2.2.2.2.2.2.2.2.2.2.2.2.1]
  have ha0_13 : (sk sh (sr sh r0 13)).2 = 1500 := by rw [q0.2.2.2.2.2.2.2.2.2.2.2.2.2.1]
  have ha0_14 : (sk sh (sr sh r0 14)).2 = 20 := by rw [q0.2.2.2.2.2.2.2.2.2.2.2.2.2.2]
  have h0 : zkn (zpa sh r0 t x1 x2) x4 x3 (x3 - x3).toNat = 0 := by rw [show (x3 - x3).toNat = 0 by omega]; rfl
  rw [b197_0]
  try simp only [zput_s, zput_n, ti_g, oI_add, oI_sub, oI_mul]
  try simp only [zput_s, zput_n, ti_g, oI_add, oI_sub, oI_mul]
  exact l197_7 q0 (by omega) (by omega) (by omega) (by omega) (by omega) d1 d2 d3 d5 G _ _ _ (by first | omega | ((try simp only [zt0, zt1, zt2, zt3, zt4, zt5, zt6, zt7, zt8, zt9, zt10, zt11, zt12, zt13, true_and, and_true]); omega)) (Nat.lt_succ_self _)
/-! X9_segmentsOf -/
theorem s195 {sh : zSh} {t : zSt} {MB : Nat} {r0 : Nat} (q0 : zMd sh MB r0) {x1 : Int} (u1 : -2147483648 ≤ x1 ∧ x1 ≤ 2147483647) (d1 : 0 ≤ x1 ∧ x1 ≤ 7) (G : GI sh r0 t) : zok (zcl zP 195 [zR r0, zI (oI x1)] (sh, t)) (qI (fun x t' => FrV sh r0 [3, 4] t t' ∧ (0 ≤ x ∧ (x = 0 ∨ x = 1 + zkn (zpa sh r0 t' x1 4) 47 (zrz sh r0 t' x1) ((tg t' (sr sh r0 4) (7 * x1 + 4).toNat - tg t' (sr sh r0 3) (7 * x1 + 4).toNat) - zrz sh r0 t' x1).toNat))) sh) := by
  have ha0_1 : (sk sh (sr sh r0 1)).2 = 21000 := by rw [q0.2.2.2.2.1]
  have ha0_2 : (sk sh (sr sh r0 2)).2 = 14 := by rw [q0.2.2.2.2.2.1]
  have ha0_3 : (sk sh (sr sh r0 3)).2 = 98 := by rw [q0.2.2.2.2.2.2.1]
  have ha0_4 : (sk sh (sr sh r0 4)).2 = 98 := by rw [q0.2.2.2.2.2.2.2.1]
  have ha0_8 : (sk sh (sr sh r0 8)).2 = 1500 := by rw [q0.2.2.2.2.2.2.2.2.1]
  have ha0_9 : (sk sh (sr sh r0 9)).2 = 10500 := by rw [q0.2.2.2.2.2.2.2.2.2.1]
  have ha0_10 : (sk sh (sr sh r0 10)).2 = 7 := by rw [q0.2.2.2.2.2.2.2.2.2.2.1]
  have ha0_11 : (sk sh (sr sh r0 11)).2 = 7 := by rw [q0.2.2.2.2.2.2.2.2.2.2.2.1]
  have ha0_12 : (sk sh (sr sh r0 12)).2 = 1500 := by rw [q0.2.2.2.2.2.2.2.2.2.2.2.2.1]
  have ha0_13 : (sk sh (sr sh r0 13)).2 = 1500 := by rw [q0.2.2.2.2.2.2.2.2.2.2.2.2.2.1]
  have ha0_14 : (sk sh (sr sh r0 14)).2 = 20 := by rw [q0.2.2.2.2.2.2.2.2.2.2.2.2.2.2]
  have gz := G.1 (x1).toNat (by omega)
  rw [b195_0]
  try simp only [zput_s, zput_n, ti_g, oI_add, oI_sub, oI_mul]
  refine zok_ck ((q0).1) ?_
  refine zok_c0 (s138 (q0) (by omega) (by first | (omega) | ((try simp only [zt0, zt1, zt2, zt3, zt4, zt5, zt6, zt7, zt8, zt9, zt10, zt11, zt12, zt13]); omega)) (by first | (omega) | ((try simp only [zt0, zt1, zt2, zt3, zt4, zt5, zt6, zt7, zt8, zt9, zt10, zt11, zt12, zt13]); omega)) (G)) (fun t2 p2 => ?_)
  obtain ⟨f2, p2⟩ := p2
  have e2_2 : ∀ k, tg t2 (sr sh r0 2) k = tg t (sr sh r0 2) k := fun k => f2.eq q0 (i := 2) (by decide) (by decide) k
  have e2_10 : ∀ k, tg t2 (sr sh r0 10) k = tg t (sr sh r0 10) k := fun k => f2.eq q0 (i := 10) (by decide) (by decide) k
  have e2_11 : ∀ k, tg t2 (sr sh r0 11) k = tg t (sr sh r0 11) k := fun k => f2.eq q0 (i := 11) (by decide) (by decide) k
  try simp only [zt0, zt1, zt2, zt3, zt4, zt5, zt6, zt7, zt8, zt9, zt10, zt11, zt12, zt13, e2_2, e2_10, e2_11] at p2
  simp only [zput_s, zput_n, ti_g, oI_add, oI_sub, oI_mul, zt0, zt1, zt2, zt3, zt4, zt5, zt6, zt7, zt8, zt9, zt10, zt11, zt12, zt13, e2_2, e2_10, e2_11, b195_5]
  try simp only [zput_s, zput_n, ti_g, oI_add, oI_sub, oI_mul]
  refine zok_ck ((q0).1) ?_
  refine zok_pI (s135 (q0) (by omega) (by omega) (by first | (omega) | ((try simp only [zt0, zt1, zt2, zt3, zt4, zt5, zt6, zt7, zt8, zt9, zt10, zt11, zt12, zt13, e2_2, e2_10, e2_11]); omega)) (by first | (omega) | ((try simp only [zt0, zt1, zt2, zt3, zt4, zt5, zt6, zt7, zt8, zt9, zt10, zt11, zt12, zt13, e2_2, e2_10, e2_11]); omega)) (f2.g)) (fun y4 u4 p4 => ?_)
  try simp only [zt0, zt1, zt2, zt3, zt4, zt5, zt6, zt7, zt8, zt9, zt10, zt11, zt12, zt13, e2_2, e2_10, e2_11] at p4
  simp only [zput_s, zput_n, ti_g, oI_add, oI_sub, oI_mul, zt0, zt1, zt2, zt3, zt4, zt5, zt6, zt7, zt8, zt9, zt10, zt11, zt12, zt13, e2_2, e2_10, e2_11, b195_11]
  try simp only [zput_s, zput_n, ti_g, oI_add, oI_sub, oI_mul]
  first | refine zok_ne (by omega) (fun c6 => ?_) (fun c6 => ?_) | refine zok_if (fun c6 => ?_) (fun c6 => ?_)
  · refine zok_ck ((q0).1) ?_
    refine zok_pI (s193 (q0) (by omega) (by first | (omega) | ((try simp only [zt0, zt1, zt2, zt3, zt4, zt5, zt6, zt7, zt8, zt9, zt10, zt11, zt12, zt13, e2_2, e2_10, e2_11]); omega)) (f2.g)) (fun y7 u7 p7 => ?_)
    obtain ⟨rfl, p7⟩ := p7
    try simp only [zt0, zt1, zt2, zt3, zt4, zt5, zt6, zt7, zt8, zt9, zt10, zt11, zt12, zt13, e2_2, e2_10, e2_11] at p7
    simp only [zput_s, zput_n, ti_g, oI_add, oI_sub, oI_mul, zt0, zt1, zt2, zt3, zt4, zt5, zt6, zt7, zt8, zt9, zt10, zt11, zt12, zt13, e2_2, e2_10, e2_11, b195_26]
    try simp only [zput_s, zput_n, ti_g, oI_add, oI_sub, oI_mul]
    refine zok_ck ((q0).1) ?_
    refine zok_pI (s194 (q0) (by omega) (by omega) (by omega) (by omega) (by first | (omega) | ((try simp only [zt0, zt1, zt2, zt3, zt4, zt5, zt6, zt7, zt8, zt9, zt10, zt11, zt12, zt13, e2_2, e2_10, e2_11]); omega)) (by first | (omega) | ((try simp only [zt0, zt1, zt2, zt3, zt4, zt5, zt6, zt7, zt8, zt9, zt10, zt11, zt12, zt13, e2_2, e2_10, e2_11]); omega)) (by first | (omega) | ((try simp only [zt0, zt1, zt2, zt3, zt4, zt5, zt6, zt7, zt8, zt9, zt10, zt11, zt12, zt13, e2_2, e2_10, e2_11]); omega)) (f2.g)) (fun y9 u9 p9 => ?_)
    try simp only [zt0, zt1, zt2, zt3, zt4, zt5, zt6, zt7, zt8, zt9, zt10, zt11, zt12, zt13, e2_2, e2_10, e2_11] at p9
    simp only [zput_s, zput_n, ti_g, oI_add, oI_sub, oI_mul, zt0, zt1, zt2, zt3, zt4, zt5, zt6, zt7, zt8, zt9, zt10, zt11, zt12, zt13, e2_2, e2_10, e2_11, b195_31]
    try simp only [zput_s, zput_n, ti_g, oI_add, oI_sub, oI_mul]
    first | exact qI_rt (by omega) (by omega) ⟨(FrV.trans (Ns := [3, 4]) (FrV.refl (Ls := []) G) f2 (by decide) (by decide)), by omega⟩ | exact qI_nf ⟨(FrV.trans (Ns := [3, 4]) (FrV.refl (Ls := []) G) f2 (by decide) (by decide)), by omega⟩
  · simp only [zput_s, zput_n, ti_g, oI_add, oI_sub, oI_mul, zt0, zt1, zt2, zt3, zt4, zt5, zt6, zt7, zt8, zt9, zt10, zt11, zt12, zt13, e2_2, e2_10, e2_11, b195_31]
    try simp only [zput_s, zput_n, ti_g, oI_add, oI_sub, oI_mul]
    first | exact qI_rt (by omega) (by omega) ⟨(FrV.trans (Ns := [3, 4]) (FrV.refl (Ls := []) G) f2 (by decide) (by decide)), by omega⟩ | exact qI_nf ⟨(FrV.trans (Ns := [3, 4]) (FrV.refl (Ls := []) G) f2 (by decide) (by decide)), by omega⟩
/-! X9_segments -/
theorem s196 {sh : zSh} {t : zSt} {MB : Nat} {r0 : Nat} (q0 : zMd sh MB r0) {x1 : Int} (u1 : -2147483648 ≤ x1 ∧ x1 ≤ 2147483647) (G : GI sh r0 t) : zok (zcl zP 196 [zR r0, zI (oI x1)] (sh, t)) (qI (fun x t' => FrV sh r0 [0, 3, 4] t t' ∧ (tg t' (sr sh r0 2) 13 = tg t (sr sh r0 2) 13)) sh) := by
  have ha0_1 : (sk sh (sr sh r0 1)).2 = 21000 := by rw [q0.2.2.2.2.1]
  have ha0_2 : (sk sh (sr sh r0 2)).2 = 14 := by rw [q0.2.2.2.2.2.1]
  have ha0_3 : (sk sh (sr sh r0 3)).2 = 98 := by rw [q0.2.2.2.2.2.2.1]
  have ha0_4 : (sk sh (sr sh r0 4)).2 = 98 := by rw [q0.2.2.2.2.2.2.2.1]
  have ha0_8 : (sk sh (sr sh r0 8)).2 = 1500 := by rw [q0.2.2.2.2.2.2.2.2.1]
  have ha0_9 : (sk sh (sr sh r0 9)).2 = 10500 := by rw [q0.2.2.2.2.2.2.2.2.2.1]
  have ha0_10 : (sk sh (sr sh r0 10)).2 = 7 := by rw [q0.2.2.2.2.2.2.2.2.2.2.1]
  have ha0_11 : (sk sh (sr sh r0 11)).2 = 7 := by rw [q0.2.2.2.2.2.2.2.2.2.2.2.1]
  have ha0_12 : (sk sh (sr sh r0 12)).2 = 1500 := by rw [q0.2.2.2.2.2.2.2.2.2.2.2.2.1]
  have ha0_13 : (sk sh (sr sh r0 13)).2 = 1500 := by rw [q0.2.2.2.2.2.2.2.2.2.2.2.2.2.1]
  have ha0_14 : (sk sh (sr sh r0 14)).2 = 20 := by rw [q0.2.2.2.2.2.2.2.2.2.2.2.2.2.2]
  rw [b196_0]
  try simp only [zput_s, zput_n, ti_g, oI_add, oI_sub, oI_mul]
  refine zok_pI (s127 (by omega)) (fun y2 u2 p2 => ?_)
  try simp only [zt0, zt1, zt2, zt3, zt4, zt5, zt6, zt7, zt8, zt9, zt10, zt11, zt12, zt13] at p2
  have g3_1 := And.intro (tg_lo (tI t r0 0 (oI 1)) r0 0) (tg_hi (tI t r0 0 (oI 1)) r0 0)
  have g3_2 := And.intro (tg_lo (tI t r0 0 (oI 0)) r0 0) (tg_hi (tI t r0 0 (oI 0)) r0 0)
  simp only [zput_s, zput_n, ti_g, oI_add, oI_sub, oI_mul, zt0, zt1, zt2, zt3, zt4, zt5, zt6, zt7, zt8, zt9, zt10, zt11, zt12, zt13, b196_5]
  try simp only [zput_s, zput_n, ti_g, oI_add, oI_sub, oI_mul]
  first | refine zok_eq (by omega) (fun c4 => ?_) (fun c4 => ?_) | refine zok_if (fun c4 => ?_) (fun c4 => ?_)
  · refine zok_ck (by first | exact ⟨(q0).1, fun e => by cases e⟩ | exact (q0).1) ?_
    obtain ⟨t5, ht5⟩ : ∃ t', t' = tI t r0 (0) (oI (1)) := ⟨_, rfl⟩
    try simp only [zt0, zt1, zt2, zt3, zt4, zt5, zt6, zt7, zt8, zt9, zt10, zt11, zt12, zt13] at ht5
    rw [← ht5]
    have f5 : FrV sh r0 [0] t t5 := by rw [ht5]; exact GI_m q0 (G) (by omega) (fun e => by first | omega | cases e) (fun e => by first | omega | cases e)
    have d5_0 : tg t5 r0 0 = 1 := by rw [ht5]; refine (tg_at (by omega)).trans ?_; first | exact if_pos rfl | exact if_neg (by decide) | (simp only [zt0, zt1, zt2, zt3, zt4, zt5, zt6, zt7, zt8, zt9, zt10, zt11, zt12, zt13, true_and, if_true])
    try simp only [zt0, zt1, zt2, zt3, zt4, zt5, zt6, zt7, zt8, zt9, zt10, zt11, zt12, zt13] at d5_0
    have e5_2 : ∀ k, tg t5 (sr sh r0 2) k = tg t (sr sh r0 2) k := fun k => f5.eq q0 (i := 2) (by decide) (by decide) k
    have e5_3 : ∀ k, tg t5 (sr sh r0 3) k = tg t (sr sh r0 3) k := fun k => f5.eq q0 (i := 3) (by decide) (by decide) k
    have e5_4 : ∀ k, tg t5 (sr sh r0 4) k = tg t (sr sh r0 4) k := fun k => f5.eq q0 (i := 4) (by decide) (by decide) k
    have e5_10 : ∀ k, tg t5 (sr sh r0 10) k = tg t (sr sh r0 10) k := fun k => f5.eq q0 (i := 10) (by decide) (by decide) k
    have e5_11 : ∀ k, tg t5 (sr sh r0 11) k = tg t (sr sh r0 11) k := fun k => f5.eq q0 (i := 11) (by decide) (by decide) k
    refine zok_ck ((q0).1) ?_
    first | refine zok_le (by omega) (fun c6 => ?_) (fun c6 => ?_) | refine zok_if (fun c6 => ?_) (fun c6 => ?_)
    · refine zok_ck ((q0).1) ?_
      refine zok_cI (s195 (q0) (by omega) (by first | (omega) | ((try simp only [zt0, zt1, zt2, zt3, zt4, zt5, zt6, zt7, zt8, zt9, zt10, zt11, zt12, zt13, e5_2, e5_3, e5_4, e5_10, e5_11]); omega)) (f5.g)) (fun y7 t7 u7 p7 => ?_)
      obtain ⟨f7, p7⟩ := p7
      have e7_2 : ∀ k, tg t7 (sr sh r0 2) k = tg t5 (sr sh r0 2) k := fun k => f7.eq q0 (i := 2) (by decide) (by decide) k
      have e7_10 : ∀ k, tg t7 (sr sh r0 10) k = tg t5 (sr sh r0 10) k := fun k => f7.eq q0 (i := 10) (by decide) (by decide) k
      have e7_11 : ∀ k, tg t7 (sr sh r0 11) k = tg t5 (sr sh r0 11) k := fun k => f7.eq q0 (i := 11) (by decide) (by decide) k
      have d7_0 : tg t7 r0 0 = tg t5 r0 0 := f7.eq q0 (i := 0) (by decide) (by decide) 0
      try simp only [zt0, zt1, zt2, zt3, zt4, zt5, zt6, zt7, zt8, zt9, zt10, zt11, zt12, zt13, e5_2, e5_3, e5_4, e5_10, e5_11, e7_2, e7_10, e7_11] at p7
      simp only [zput_s, zput_n, ti_g, oI_add, oI_sub, oI_mul, zt0, zt1, zt2, zt3, zt4, zt5, zt6, zt7, zt8, zt9, zt10, zt11, zt12, zt13, e5_2, e5_3, e5_4, e5_10, e5_11, e7_2, e7_10, e7_11, b196_32]
      try simp only [zput_s, zput_n, ti_g, oI_add, oI_sub, oI_mul]
      first | exact qI_rt (by omega) (by omega) ⟨(FrV.trans (Ns := [0, 3, 4]) ((FrV.trans (Ns := [0, 3, 4]) (FrV.refl (Ls := []) G) f5 (by decide) (by decide))) f7 (by decide) (by decide)), by ((try have c0 := hq1 13 (by decide)); (try have c0 := hq1 13); (try have c1 := e5_2 13); (try have c6 := e7_2 13); (try simp only [zt0, zt1, zt2, zt3, zt4, zt5, zt6, zt7, zt8, zt9, zt10, zt11, zt12, zt13] at *) <;> omega)⟩ | exact qI_nf ⟨(FrV.trans (Ns := [0, 3, 4]) ((FrV.trans (Ns := [0, 3, 4]) (FrV.refl (Ls := []) G) f5 (by decide) (by decide))) f7 (by decide) (by decide)), by ((try have c0 := hq1 13 (by decide)); (try have c0 := hq1 13); (try have c1 := e5_2 13); (try have c6 := e7_2 13); (try simp only [zt0, zt1, zt2, zt3, zt4, zt5, zt6, zt7, zt8, zt9, zt10, zt11, zt12, zt13] at *) <;> omega)⟩
    · simp only [zput_s, zput_n, ti_g, oI_add, oI_sub, oI_mul, zt0, zt1, zt2, zt3, zt4, zt5, zt6, zt7, zt8, zt9, zt10, zt11, zt12, zt13, e5_2, e5_3, e5_4, e5_10, e5_11, b196_32]
      try simp only [zput_s, zput_n, ti_g, oI_add, oI_sub, oI_mul]
      first | exact qI_rt (by omega) (by omega) ⟨(FrV.trans (Ns := [0, 3, 4]) (FrV.refl (Ls := []) G) f5 (by decide) (by decide)), by ((try have c0 := hq1 13 (by decide)); (try have c0 := hq1 13); (try have c1 := e5_2 13); (try simp only [zt0, zt1, zt2, zt3, zt4, zt5, zt6, zt7, zt8, zt9, zt10, zt11, zt12, zt13] at *) <;> omega)⟩ | exact qI_nf ⟨(FrV.trans (Ns := [0, 3, 4]) (FrV.refl (Ls := []) G) f5 (by decide) (by decide)), by ((try have c0 := hq1 13 (by decide)); (try have c0 := hq1 13); (try have c1 := e5_2 13); (try simp only [zt0, zt1, zt2, zt3, zt4, zt5, zt6, zt7, zt8, zt9, zt10, zt11, zt12, zt13] at *) <;> omega)⟩
  · refine zok_ck (by first | exact ⟨(q0).1, fun e => by cases e⟩ | exact (q0).1) ?_
    obtain ⟨t10, ht10⟩ : ∃ t', t' = tI t r0 (0) (oI (0)) := ⟨_, rfl⟩
    try simp only [zt0, zt1, zt2, zt3, zt4, zt5, zt6, zt7, zt8, zt9, zt10, zt11, zt12, zt13] at ht10
    rw [← ht10]
    have f10 : FrV sh r0 [0] t t10 := by rw [ht10]; exact GI_m q0 (G) (by omega) (fun e => by first | omega | cases e) (fun e => by first | omega | cases e)
    have d10_0 : tg t10 r0 0 = 0 := by rw [ht10]; refine (tg_at (by omega)).trans ?_; first | exact if_pos rfl | exact if_neg (by decide) | (simp only [zt0, zt1, zt2, zt3, zt4, zt5, zt6, zt7, zt8, zt9, zt10, zt11, zt12, zt13, true_and, if_true])
    try simp only [zt0, zt1, zt2, zt3, zt4, zt5, zt6, zt7, zt8, zt9, zt10, zt11, zt12, zt13] at d10_0
    have e10_2 : ∀ k, tg t10 (sr sh r0 2) k = tg t (sr sh r0 2) k := fun k => f10.eq q0 (i := 2) (by decide) (by decide) k
    have e10_3 : ∀ k, tg t10 (sr sh r0 3) k = tg t (sr sh r0 3) k := fun k => f10.eq q0 (i := 3) (by decide) (by decide) k
    have e10_4 : ∀ k, tg t10 (sr sh r0 4) k = tg t (sr sh r0 4) k := fun k => f10.eq q0 (i := 4) (by decide) (by decide) k
    have e10_10 : ∀ k, tg t10 (sr sh r0 10) k = tg t (sr sh r0 10) k := fun k => f10.eq q0 (i := 10) (by decide) (by decide) k
    have e10_11 : ∀ k, tg t10 (sr sh r0 11) k = tg t (sr sh r0 11) k := fun k => f10.eq q0 (i := 11) (by decide) (by decide) k
    refine zok_ck ((q0).1) ?_
    first | refine zok_le (by omega) (fun c11 => ?_) (fun c11 => ?_) | refine zok_if (fun c11 => ?_) (fun c11 => ?_)
    · refine zok_ck ((q0).1) ?_
      refine zok_cI (s195 (q0) (by omega) (by first | (omega) | ((try simp only [zt0, zt1, zt2, zt3, zt4, zt5, zt6, zt7, zt8, zt9, zt10, zt11, zt12, zt13, e10_2, e10_3, e10_4, e10_10, e10_11]); omega)) (f10.g)) (fun y12 t12 u12 p12 => ?_)
      obtain ⟨f12, p12⟩ := p12
      have e12_2 : ∀ k, tg t12 (sr sh r0 2) k = tg t10 (sr sh r0 2) k := fun k => f12.eq q0 (i := 2) (by decide) (by decide) k
      have e12_10 : ∀ k, tg t12 (sr sh r0 10) k = tg t10 (sr sh r0 10) k := fun k => f12.eq q0 (i := 10) (by decide) (by decide) k
      have e12_11 : ∀ k, tg t12 (sr sh r0 11) k = tg t10 (sr sh r0 11) k := fun k => f12.eq q0 (i := 11) (by decide) (by decide) k
      have d12_0 : tg t12 r0 0 = tg t10 r0 0 := f12.eq q0 (i := 0) (by decide) (by decide) 0
      try simp only [zt0, zt1, zt2, zt3, zt4, zt5, zt6, zt7, zt8, zt9, zt10, zt11, zt12, zt13, e10_2, e10_3, e10_4, e10_10, e10_11, e12_2, e12_10, e12_11] at p12
      simp only [zput_s, zput_n, ti_g, oI_add, oI_sub, oI_mul, zt0, zt1, zt2, zt3, zt4, zt5, zt6, zt7, zt8, zt9, zt10, zt11, zt12, zt13, e10_2, e10_3, e10_4, e10_10, e10_11, e12_2, e12_10, e12_11, b196_32]
      try simp only [zput_s, zput_n, ti_g, oI_add, oI_sub, oI_mul]
      first | exact qI_rt (by omega) (by omega) ⟨(FrV.trans (Ns := [0, 3, 4]) ((FrV.trans (Ns := [0, 3, 4]) (FrV.refl (Ls := []) G) f10 (by decide) (by decide))) f12 (by decide) (by decide)), by ((try have c0 := hq1 13 (by decide)); (try have c0 := hq1 13); (try have c1 := e10_2 13); (try have c6 := e12_2 13); (try simp only [zt0, zt1, zt2, zt3, zt4, zt5, zt6, zt7, zt8, zt9, zt10, zt11, zt12, zt13] at *) <;> omega)⟩ | exact qI_nf ⟨(FrV.trans (Ns := [0, 3, 4]) ((FrV.trans (Ns := [0, 3, 4]) (FrV.refl (Ls := []) G) f10 (by decide) (by decide))) f12 (by decide) (by decide)), by ((try have c0 := hq1 13 (by decide)); (try have c0 := hq1 13); (try have c1 := e10_2 13); (try have c6 := e12_2 13); (try simp only [zt0, zt1, zt2, zt3, zt4, zt5, zt6, zt7, zt8, zt9, zt10, zt11, zt12, zt13] at *) <;> omega)⟩
    · simp only [zput_s, zput_n, ti_g, oI_add, oI_sub, oI_mul, zt0, zt1, zt2, zt3, zt4, zt5, zt6, zt7, zt8, zt9, zt10, zt11, zt12, zt13, e10_2, e10_3, e10_4, e10_10, e10_11, b196_32]
      try simp only [zput_s, zput_n, ti_g, oI_add, oI_sub, oI_mul]
      first | exact qI_rt (by omega) (by omega) ⟨(FrV.trans (Ns := [0, 3, 4]) (FrV.refl (Ls := []) G) f10 (by decide) (by decide)), by ((try have c0 := hq1 13 (by decide)); (try have c0 := hq1 13); (try have c1 := e10_2 13); (try simp only [zt0, zt1, zt2, zt3, zt4, zt5, zt6, zt7, zt8, zt9, zt10, zt11, zt12, zt13] at *) <;> omega)⟩ | exact qI_nf ⟨(FrV.trans (Ns := [0, 3, 4]) (FrV.refl (Ls := []) G) f10 (by decide) (by decide)), by ((try have c0 := hq1 13 (by decide)); (try have c0 := hq1 13); (try have c1 := e10_2 13); (try simp only [zt0, zt1, zt2, zt3, zt4, zt5, zt6, zt7, zt8, zt9, zt10, zt11, zt12, zt13] at *) <;> omega)⟩
/-! X9_decode -/
theorem l199_24 {sh : zSh} {t0 : zSt} {MB : Nat} {r0 : Nat} (q0 : zMd sh MB r0) {x1 : Int} (u1 : -2147483648 ≤ x1 ∧ x1 ≤ 2147483647) {x2 : Int} (u2 : -2147483648 ≤ x2 ∧ x2 ≤ 2147483647) {x3 : Int} (u3 : -2147483648 ≤ x3 ∧ x3 ≤ 2147483647) {x4 : Int} (u4 : -2147483648 ≤ x4 ∧ x4 ≤ 2147483647) (d1 : 0 ≤ x1 ∧ x1 ≤ 7) (d2 : 0 ≤ x2 ∧ x2 ≤ 6) (d3 : 0 ≤ x3 ∧ x3 ≤ 1000) (d4 : -1000 ≤ x4 ∧ x4 ≤ 1000) (G : GI sh r0 t0) : ∀ (n : Nat) (x5 : Int) (x6 : Int) (o7 : Option zV) (wo7 : zisL o7 = false) (t1 : zSt), FrV sh r0 [0, 8] t0 t1 → (-2147483648 ≤ x5 ∧ x5 ≤ 2147483647) ∧ (-2147483648 ≤ x6 ∧ x6 ≤ 2147483647) ∧ (-1 ≤ x5 ∧ x5 ≤ 400 ∧ x5 + x3 ≤ x6 ∧ x6 ≤ 3000) ∧ (0 ≤ tg t1 r0 7 ∧ tg t1 r0 7 ≤ x6 - x5 - x3) → (x5 + x4 - x6).toNat < n → zok (zev zP 199 24 [some (zR r0), some (zI (oI x1)), some (zI (oI x2)), some (zI (oI x3)), some (zI (oI x4)), some (zI (oI x5)), some (zI (oI x6)), o7] [] (sh, t1)) (qI (fun x t' => FrV sh r0 [0, 8] t0 t' ∧ (True)) sh) := by
  intro n
  induction n with
  | zero => intro x5 x6 o7 wo7 t1 f0 _ hm; omega
  | succ n ih =>
    intro x5 x6 o7 wo7 t1 f0 hv hm
    have ha0_1 : (sk sh (sr sh r0 1)).2 = 21000 := by rw [q0.2.2.2.2.1]
    have ha0_2 : (sk sh (sr sh r0 2)).2 = 14 := by rw [q0.2.2.2.2.2.1]
    have ha0_3 : (sk sh (sr sh r0 3)).2 = 98 := by rw [q0.2.2.2.2.2.2.1]
    have ha0_4 : (sk sh (sr sh r0 4)).2 = 98 := by rw [q0.2.2.2.2.2.2.2.1]
    have ha0_8 : (sk sh (sr sh r0 8)).2 = 1500 := by rw [q0.2.2.2.2.2.2.2.2.1]
    have ha0_9 : (sk sh (sr sh r0 9)).2 = 10500 := by rw [q0.2.2.2.2.2.2.2.2.2.1]
    have ha0_10 : (sk sh (sr sh r0 10)).2 = 7 := by rw [q0.2.2.2.2.2.2.2.2.2.2.1]
    have ha0_11 : (sk sh (sr sh r0 11)).2 = 7 := by rw [q0.2.2.2.2.2.2.2.2.2.2.2.1]
    have ha0_12 : (sk sh (sr sh r0 12)).2 = 1500 := by rw [q0.2.2.2.2.2.2.2.2.2.2.2.2.1]
    have ha0_13 : (sk sh (sr sh r0 13)).2 = 1500 := by rw [q0.2.2.2.2.2.2.2.2.2.2.2.2.2.1]
    have ha0_14 : (sk sh (sr sh r0 14)).2 = 20 := by rw [q0.2.2.2.2.2.2.2.2.2.2.2.2.2.2]
    have e0_2 : ∀ k, tg t1 (sr sh r0 2) k = tg t0 (sr sh r0 2) k := fun k => f0.eq q0 (i := 2) (by decide) (by decide) k
    have e0_3 : ∀ k, tg t1 (sr sh r0 3) k = tg t0 (sr sh r0 3) k := fun k => f0.eq q0 (i := 3) (by decide) (by decide) k
    have e0_4 : ∀ k, tg t1 (sr sh r0 4) k = tg t0 (sr sh r0 4) k := fun k => f0.eq q0 (i := 4) (by decide) (by decide) k
    have e0_10 : ∀ k, tg t1 (sr sh r0 10) k = tg t0 (sr sh r0 10) k := fun k => f0.eq q0 (i := 10) (by decide) (by decide) k
    have e0_11 : ∀ k, tg t1 (sr sh r0 11) k = tg t0 (sr sh r0 11) k := fun k => f0.eq q0 (i := 11) (by decide) (by decide) k
    try simp only [zt0, zt1, zt2, zt3, zt4, zt5, zt6, zt7, zt8, zt9, zt10, zt11, zt12, zt13, e0_2, e0_3, e0_4, e0_10, e0_11] at hv
    try simp only [zt0, zt1, zt2, zt3, zt4, zt5, zt6, zt7, zt8, zt9, zt10, zt11, zt12, zt13, e0_2, e0_3, e0_4, e0_10, e0_11] at hm
    have g1_1 := And.intro (tg_lo t1 r0 7) (tg_hi t1 r0 7)
    have gf1_1 := (f0.g).2.2.2.2
    try simp only [zput_s, zput_n, ti_g, oI_add, oI_sub, oI_mul]
    rw [b199_24 (o7 := o7) (wo7 := wo7)]
    try simp only [zput_s, zput_n, ti_g, oI_add, oI_sub, oI_mul]
    first | refine zok_le (by omega) (fun c2 => ?_) (fun c2 => ?_) | refine zok_if (fun c2 => ?_) (fun c2 => ?_)
    · refine zok_ck ((q0).1) ?_
      first | exact qI_rt (by omega) (by omega) ⟨f0, trivial⟩ | exact qI_nf ⟨f0, trivial⟩
    · refine zok_ck ((q0).1) ?_
      refine zok_pI (s130 (q0) (by omega) (by omega) (by first | (omega) | ((try simp only [zt0, zt1, zt2, zt3, zt4, zt5, zt6, zt7, zt8, zt9, zt10, zt11, zt12, zt13, e0_2, e0_3, e0_4, e0_10, e0_11]); omega)) (by first | (omega) | ((try simp only [zt0, zt1, zt2, zt3, zt4, zt5, zt6, zt7, zt8, zt9, zt10, zt11, zt12, zt13, e0_2, e0_3, e0_4, e0_10, e0_11]); omega)) (f0.g)) (fun y3 u3 p3 => ?_)
      try simp only [zt0, zt1, zt2, zt3, zt4, zt5, zt6, zt7, zt8, zt9, zt10, zt11, zt12, zt13, e0_2, e0_3, e0_4, e0_10, e0_11] at p3
      have g4_1 := And.intro (tg_lo t1 r0 7) (tg_hi t1 r0 7)
      have gf4_1 := (f0.g).2.2.2.2
      try simp only [zput_s, zput_n, ti_g, oI_add, oI_sub, oI_mul]
      rw [b199_41 (o7 := o7) (wo7 := wo7)]
      try simp only [zput_s, zput_n, ti_g, oI_add, oI_sub, oI_mul]
      refine zok_ck ((q0).1) ?_
      refine zok_ck ((q0).1) ?_
      first | refine zok_eq (by omega) (fun c5 => ?_) (fun c5 => ?_) | refine zok_if (fun c5 => ?_) (fun c5 => ?_)
      · refine zok_ck ((q0).1) ?_
        refine zok_pI (s128 (q0) (by omega) (by omega) (by first | (omega) | ((try simp only [zt0, zt1, zt2, zt3, zt4, zt5, zt6, zt7, zt8, zt9, zt10, zt11, zt12, zt13, e0_2, e0_3, e0_4, e0_10, e0_11]); omega)) (f0.g)) (fun y6 u6 p6 => ?_)
        try simp only [zt0, zt1, zt2, zt3, zt4, zt5, zt6, zt7, zt8, zt9, zt10, zt11, zt12, zt13, e0_2, e0_3, e0_4, e0_10, e0_11] at p6
        have g7_1 := And.intro (tg_lo (tI t1 (sr sh r0 8) (nN (ti t1 r0 7)) (oI y6)) r0 7) (tg_hi (tI t1 (sr sh r0 8) (nN (ti t1 r0 7)) (oI y6)) r0 7)
        simp only [zput_s, zput_n, ti_g, oI_add, oI_sub, oI_mul, zt0, zt1, zt2, zt3, zt4, zt5, zt6, zt7, zt8, zt9, zt10, zt11, zt12, zt13, e0_2, e0_3, e0_4, e0_10, e0_11, b199_94]
        try simp only [zput_s, zput_n, ti_g, oI_add, oI_sub, oI_mul]
        refine zok_ck ⟨(by rw [(q0).2.2.2.2.2.2.2.2.1]), zin_o (by omega) (by omega) (by omega)⟩ ?_
        try rw [nN_o (a := tg t1 r0 7) (by omega) (by omega)]
        try simp only [zput_s, zput_n, ti_g, oI_add, oI_sub, oI_mul, zt0, zt1, zt2, zt3, zt4, zt5, zt6, zt7, zt8, zt9, zt10, zt11, zt12, zt13, e0_2, e0_3, e0_4, e0_10, e0_11]
        obtain ⟨t8, ht8⟩ : ∃ t', t' = tI t1 (sr sh r0 8) ((tg t1 r0 7).toNat) (oI (y6)) := ⟨_, rfl⟩
        try simp only [zt0, zt1, zt2, zt3, zt4, zt5, zt6, zt7, zt8, zt9, zt10, zt11, zt12, zt13, e0_2, e0_3, e0_4, e0_10, e0_11] at ht8
        rw [← ht8]
        have f8 : FrV sh r0 [8] t1 t8 := by rw [ht8]; exact GI_free q0 (f0.g) (by decide)
        have w8 : ∀ k, tg t8 (sr sh r0 8) k = if k = (tg t1 r0 7).toNat then y6 else tg t1 (sr sh r0 8) k := fun k => by rw [ht8]; refine (tg_at (by omega)).trans ?_; first | rfl | simp only [zt0, zt1, zt2, zt3, zt4, zt5, zt6, zt7, zt8, zt9, zt10, zt11, zt12, zt13, e0_2, e0_3, e0_4, e0_10, e0_11, true_and]
        have ws8 : tg t8 (sr sh r0 8) ((tg t1 r0 7).toNat) = y6 := by rw [w8, if_pos rfl]
        try simp only [zt0, zt1, zt2, zt3, zt4, zt5, zt6, zt7, zt8, zt9, zt10, zt11, zt12, zt13, e0_2, e0_3, e0_4, e0_10, e0_11] at w8
        try simp only [zt0, zt1, zt2, zt3, zt4, zt5, zt6, zt7, zt8, zt9, zt10, zt11, zt12, zt13, e0_2, e0_3, e0_4, e0_10, e0_11] at ws8
        have e8_2 : ∀ k, tg t8 (sr sh r0 2) k = tg t1 (sr sh r0 2) k := fun k => f8.eq q0 (i := 2) (by decide) (by decide) k
        have e8_3 : ∀ k, tg t8 (sr sh r0 3) k = tg t1 (sr sh r0 3) k := fun k => f8.eq q0 (i := 3) (by decide) (by decide) k
        have e8_4 : ∀ k, tg t8 (sr sh r0 4) k = tg t1 (sr sh r0 4) k := fun k => f8.eq q0 (i := 4) (by decide) (by decide) k
        have e8_10 : ∀ k, tg t8 (sr sh r0 10) k = tg t1 (sr sh r0 10) k := fun k => f8.eq q0 (i := 10) (by decide) (by decide) k
        have e8_11 : ∀ k, tg t8 (sr sh r0 11) k = tg t1 (sr sh r0 11) k := fun k => f8.eq q0 (i := 11) (by decide) (by decide) k
        have d8_7 : tg t8 r0 7 = tg t1 r0 7 := f8.eq q0 (i := 0) (by decide) (by decide) 7
        refine zok_ck ((q0).1) ?_
        refine zok_ck (by first | exact ⟨(q0).1, fun e => by cases e⟩ | exact (q0).1) ?_
        obtain ⟨t9, ht9⟩ : ∃ t', t' = tI t8 r0 (7) (oI ((tg t8 r0 7) + (1))) := ⟨_, rfl⟩
        try simp only [zt0, zt1, zt2, zt3, zt4, zt5, zt6, zt7, zt8, zt9, zt10, zt11, zt12, zt13, e0_2, e0_3, e0_4, e0_10, e0_11, e8_2, e8_3, e8_4, e8_10, e8_11] at ht9
        rw [← ht9]
        have f9 : FrV sh r0 [0] t8 t9 := by rw [ht9]; exact GI_m q0 (f8.g) (by omega) (fun e => by first | omega | cases e) (fun e => by first | omega | cases e)
        have d9_7 : tg t9 r0 7 = (tg t8 r0 7) + (1) := by rw [ht9]; refine (tg_at (by omega)).trans ?_; first | exact if_pos rfl | exact if_neg (by decide) | (simp only [zt0, zt1, zt2, zt3, zt4, zt5, zt6, zt7, zt8, zt9, zt10, zt11, zt12, zt13, e0_2, e0_3, e0_4, e0_10, e0_11, e8_2, e8_3, e8_4, e8_10, e8_11, true_and, if_true])
        try simp only [zt0, zt1, zt2, zt3, zt4, zt5, zt6, zt7, zt8, zt9, zt10, zt11, zt12, zt13, e0_2, e0_3, e0_4, e0_10, e0_11, e8_2, e8_3, e8_4, e8_10, e8_11] at d9_7
        have e9_2 : ∀ k, tg t9 (sr sh r0 2) k = tg t8 (sr sh r0 2) k := fun k => f9.eq q0 (i := 2) (by decide) (by decide) k
        have e9_3 : ∀ k, tg t9 (sr sh r0 3) k = tg t8 (sr sh r0 3) k := fun k => f9.eq q0 (i := 3) (by decide) (by decide) k
        have e9_4 : ∀ k, tg t9 (sr sh r0 4) k = tg t8 (sr sh r0 4) k := fun k => f9.eq q0 (i := 4) (by decide) (by decide) k
        have e9_8 : ∀ k, tg t9 (sr sh r0 8) k = tg t8 (sr sh r0 8) k := fun k => f9.eq q0 (i := 8) (by decide) (by decide) k
        have e9_10 : ∀ k, tg t9 (sr sh r0 10) k = tg t8 (sr sh r0 10) k := fun k => f9.eq q0 (i := 10) (by decide) (by decide) k
        have e9_11 : ∀ k, tg t9 (sr sh r0 11) k = tg t8 (sr sh r0 11) k := fun k => f9.eq q0 (i := 11) (by decide) (by decide) k
        first | refine zok_eq (by omega) (fun c10 => ?_) (fun c10 => ?_) | refine zok_if (fun c10 => ?_) (fun c10 => ?_)
        · try simp only [zput_s, zput_n, ti_g, oI_add, oI_sub, oI_mul]
          exact ih _ _ _ (by first | rfl | assumption) _ ((FrV.trans (Ns := [0, 8]) ((FrV.trans (Ns := [0, 8]) (f0) f8 (by decide) (by decide))) f9 (by decide) (by decide))) (by first | omega | ((try simp only [zt0, zt1, zt2, zt3, zt4, zt5, zt6, zt7, zt8, zt9, zt10, zt11, zt12, zt13, e0_2, e0_3, e0_4, e0_10, e0_11, e8_2, e8_3, e8_4, e8_10, e8_11, e9_2, e9_3, e9_4, e9_8, e9_10, e9_11, true_and, and_true]); omega)) (by first | omega | ((try simp only [zt0, zt1, zt2, zt3, zt4, zt5, zt6, zt7, zt8, zt9, zt10, zt11, zt12, zt13, e0_2, e0_3, e0_4, e0_10, e0_11, e8_2, e8_3, e8_4, e8_10, e8_11, e9_2, e9_3, e9_4, e9_8, e9_10, e9_11, true_and, and_true]); omega))
        · try simp only [zput_s, zput_n, ti_g, oI_add, oI_sub, oI_mul]
          exact ih _ _ _ (by first | rfl | assumption) _ ((FrV.trans (Ns := [0, 8]) ((FrV.trans (Ns := [0, 8]) (f0) f8 (by decide) (by decide))) f9 (by decide) (by decide))) (by first | omega | ((try simp only [zt0, zt1, zt2, zt3, zt4, zt5, zt6, zt7, zt8, zt9, zt10, zt11, zt12, zt13, e0_2, e0_3, e0_4, e0_10, e0_11, e8_2, e8_3, e8_4, e8_10, e8_11, e9_2, e9_3, e9_4, e9_8, e9_10, e9_11, true_and, and_true]); omega)) (by first | omega | ((try simp only [zt0, zt1, zt2, zt3, zt4, zt5, zt6, zt7, zt8, zt9, zt10, zt11, zt12, zt13, e0_2, e0_3, e0_4, e0_10, e0_11, e8_2, e8_3, e8_4, e8_10, e8_11, e9_2, e9_3, e9_4, e9_8, e9_10, e9_11, true_and, and_true]); omega))
      · refine zok_ck ((q0).1) ?_
        refine zok_pI (s128 (q0) (by omega) (by omega) (by first | (omega) | ((try simp only [zt0, zt1, zt2, zt3, zt4, zt5, zt6, zt7, zt8, zt9, zt10, zt11, zt12, zt13, e0_2, e0_3, e0_4, e0_10, e0_11]); omega)) (f0.g)) (fun y11 u11 p11 => ?_)
        try simp only [zt0, zt1, zt2, zt3, zt4, zt5, zt6, zt7, zt8, zt9, zt10, zt11, zt12, zt13, e0_2, e0_3, e0_4, e0_10, e0_11] at p11
        simp only [zput_s, zput_n, ti_g, oI_add, oI_sub, oI_mul, zt0, zt1, zt2, zt3, zt4, zt5, zt6, zt7, zt8, zt9, zt10, zt11, zt12, zt13, e0_2, e0_3, e0_4, e0_10, e0_11, b199_67]
        try simp only [zput_s, zput_n, ti_g, oI_add, oI_sub, oI_mul]
        refine zok_pI (s125 (by omega)) (fun y13 u13 p13 => ?_)
        try simp only [zt0, zt1, zt2, zt3, zt4, zt5, zt6, zt7, zt8, zt9, zt10, zt11, zt12, zt13, e0_2, e0_3, e0_4, e0_10, e0_11] at p13
        simp only [zput_s, zput_n, ti_g, oI_add, oI_sub, oI_mul, zt0, zt1, zt2, zt3, zt4, zt5, zt6, zt7, zt8, zt9, zt10, zt11, zt12, zt13, e0_2, e0_3, e0_4, e0_10, e0_11, b199_70]
        try simp only [zput_s, zput_n, ti_g, oI_add, oI_sub, oI_mul]
        refine zok_ck ((q0).1) ?_
        refine zok_pI (s128 (q0) (by omega) (by omega) (by first | (omega) | ((try simp only [zt0, zt1, zt2, zt3, zt4, zt5, zt6, zt7, zt8, zt9, zt10, zt11, zt12, zt13, e0_2, e0_3, e0_4, e0_10, e0_11]); omega)) (f0.g)) (fun y15 u15 p15 => ?_)
        try simp only [zt0, zt1, zt2, zt3, zt4, zt5, zt6, zt7, zt8, zt9, zt10, zt11, zt12, zt13, e0_2, e0_3, e0_4, e0_10, e0_11] at p15
        simp only [zput_s, zput_n, ti_g, oI_add, oI_sub, oI_mul, zt0, zt1, zt2, zt3, zt4, zt5, zt6, zt7, zt8, zt9, zt10, zt11, zt12, zt13, e0_2, e0_3, e0_4, e0_10, e0_11, b199_80]
        try simp only [zput_s, zput_n, ti_g, oI_add, oI_sub, oI_mul]
        refine zok_pI (s125 (by omega)) (fun y17 u17 p17 => ?_)
        try simp only [zt0, zt1, zt2, zt3, zt4, zt5, zt6, zt7, zt8, zt9, zt10, zt11, zt12, zt13, e0_2, e0_3, e0_4, e0_10, e0_11] at p17
        simp only [zput_s, zput_n, ti_g, oI_add, oI_sub, oI_mul, zt0, zt1, zt2, zt3, zt4, zt5, zt6, zt7, zt8, zt9, zt10, zt11, zt12, zt13, e0_2, e0_3, e0_4, e0_10, e0_11, b199_83]
        try simp only [zput_s, zput_n, ti_g, oI_add, oI_sub, oI_mul]
        have g19_1 := And.intro (tg_lo (tI t1 (sr sh r0 8) (nN (ti t1 r0 7)) (((oI 16) * (oI y13)) + (oI y17))) r0 7) (tg_hi (tI t1 (sr sh r0 8) (nN (ti t1 r0 7)) (((oI 16) * (oI y13)) + (oI y17))) r0 7)
        simp only [zput_s, zput_n, ti_g, oI_add, oI_sub, oI_mul, zt0, zt1, zt2, zt3, zt4, zt5, zt6, zt7, zt8, zt9, zt10, zt11, zt12, zt13, e0_2, e0_3, e0_4, e0_10, e0_11, b199_94]
        try simp only [zput_s, zput_n, ti_g, oI_add, oI_sub, oI_mul]
        refine zok_ck ⟨(by rw [(q0).2.2.2.2.2.2.2.2.1]), zin_o (by omega) (by omega) (by omega)⟩ ?_
        try rw [nN_o (a := tg t1 r0 7) (by omega) (by omega)]
        try simp only [zput_s, zput_n, ti_g, oI_add, oI_sub, oI_mul, zt0, zt1, zt2, zt3, zt4, zt5, zt6, zt7, zt8, zt9, zt10, zt11, zt12, zt13, e0_2, e0_3, e0_4, e0_10, e0_11]
        obtain ⟨t20, ht20⟩ : ∃ t', t' = tI t1 (sr sh r0 8) ((tg t1 r0 7).toNat) (oI (((16) * (y13)) + (y17))) := ⟨_, rfl⟩
        try simp only [zt0, zt1, zt2, zt3, zt4, zt5, zt6, zt7, zt8, zt9, zt10, zt11, zt12, zt13, e0_2, e0_3, e0_4, e0_10, e0_11] at ht20
        rw [← ht20]
        have f20 : FrV sh r0 [8] t1 t20 := by rw [ht20]; exact GI_free q0 (f0.g) (by decide)
        have w20 : ∀ k, tg t20 (sr sh r0 8) k = if k = (tg t1 r0 7).toNat then ((16) * (y13)) + (y17) else tg t1 (sr sh r0 8) k := fun k => by rw [ht20]; refine (tg_at (by omega)).trans ?_; first | rfl | simp only [zt0, zt1, zt2, zt3, zt4, zt5, zt6, zt7, zt8, zt9, zt10, zt11, zt12, zt13, e0_2, e0_3, e0_4, e0_10, e0_11, true_and]
        have ws20 : tg t20 (sr sh r0 8) ((tg t1 r0 7).toNat) = ((16) * (y13)) + (y17) := by rw [w20, if_pos rfl]
        try simp only [zt0, zt1, zt2, zt3, zt4, zt5, zt6, zt7, zt8, zt9, zt10, zt11, zt12, zt13, e0_2, e0_3, e0_4, e0_10, e0_11] at w20
        try simp only [zt0, zt1, zt2, zt3, zt4, zt5, zt6, zt7, zt8, zt9, zt10, zt11, zt12, zt13, e0_2, e0_3, e0_4, e0_10, e0_11] at ws20
        have e20_2 : ∀ k, tg t20 (sr sh r0 2) k = tg t1 (sr sh r0 2) k := fun k => f20.eq q0 (i := 2) (by decide) (by decide) k
        have e20_3 : ∀ k, tg t20 (sr sh r0 3) k = tg t1 (sr sh r0 3) k := fun k => f20.eq q0 (i := 3) (by decide) (by decide) k
        have e20_4 : ∀ k, tg t20 (sr sh r0 4) k = tg t1 (sr sh r0 4) k := fun k => f20.eq q0 (i := 4) (by decide) (by decide) k
        have e20_10 : ∀ k, tg t20 (sr sh r0 10) k = tg t1 (sr sh r0 10) k := fun k => f20.eq q0 (i := 10) (by decide) (by decide) k
        have e20_11 : ∀ k, tg t20 (sr sh r0 11) k = tg t1 (sr sh r0 11) k := fun k => f20.eq q0 (i := 11) (by decide) (by decide) k
        have d20_7 : tg t20 r0 7 = tg t1 r0 7 := f20.eq q0 (i := 0) (by decide) (by decide) 7
        refine zok_ck ((q0).1) ?_
        refine zok_ck (by first | exact ⟨(q0).1, fun e => by cases e⟩ | exact (q0).1) ?_
        obtain ⟨t21, ht21⟩ : ∃ t', t' = tI t20 r0 (7) (oI ((tg t20 r0 7) + (1))) := ⟨_, rfl⟩
        try simp only [zt0, zt1, zt2, zt3, zt4, zt5, zt6, zt7, zt8, zt9, zt10, zt11, zt12, zt13, e0_2, e0_3, e0_4, e0_10, e0_11, e20_2, e20_3, e20_4, e20_10, e20_11] at ht21
        rw [← ht21]
        have f21 : FrV sh r0 [0] t20 t21 := by rw [ht21]; exact GI_m q0 (f20.g) (by omega) (fun e => by first | omega | cases e) (fun e => by first | omega | cases e)
        have d21_7 : tg t21 r0 7 = (tg t20 r0 7) + (1) := by rw [ht21]; refine (tg_at (by omega)).trans ?_; first | exact if_pos rfl | exact if_neg (by decide) | (simp only [zt0, zt1, zt2, zt3, zt4, zt5, zt6, zt7, zt8, zt9, zt10, zt11, zt12, zt13, e0_2, e0_3, e0_4, e0_10, e0_11, e20_2, e20_3, e20_4, e20_10, e20_11, true_and, if_true])
        try simp only [zt0, zt1, zt2, zt3, zt4, zt5, zt6, zt7, zt8, zt9, zt10, zt11, zt12, zt13, e0_2, e0_3, e0_4, e0_10, e0_11, e20_2, e20_3, e20_4, e20_10, e20_11] at d21_7
        have e21_2 : ∀ k, tg t21 (sr sh r0 2) k = tg t20 (sr sh r0 2) k := fun k => f21.eq q0 (i := 2) (by decide) (by decide) k
        have e21_3 : ∀ k, tg t21 (sr sh r0 3) k = tg t20 (sr sh r0 3) k := fun k => f21.eq q0 (i := 3) (by decide) (by decide) k
        have e21_4 : ∀ k, tg t21 (sr sh r0 4) k = tg t20 (sr sh r0 4) k := fun k => f21.eq q0 (i := 4) (by decide) (by decide) k
        have e21_8 : ∀ k, tg t21 (sr sh r0 8) k = tg t20 (sr sh r0 8) k := fun k => f21.eq q0 (i := 8) (by decide) (by decide) k
        have e21_10 : ∀ k, tg t21 (sr sh r0 10) k = tg t20 (sr sh r0 10) k := fun k => f21.eq q0 (i := 10) (by decide) (by decide) k
        have e21_11 : ∀ k, tg t21 (sr sh r0 11) k = tg t20 (sr sh r0 11) k := fun k => f21.eq q0 (i := 11) (by decide) (by decide) k
        first | refine zok_eq (by omega) (fun c22 => ?_) (fun c22 => ?_) | refine zok_if (fun c22 => ?_) (fun c22 => ?_)
        · try simp only [zput_s, zput_n, ti_g, oI_add, oI_sub, oI_mul]
          exact ih _ _ _ (by first | rfl | assumption) _ ((FrV.trans (Ns := [0, 8]) ((FrV.trans (Ns := [0, 8]) (f0) f20 (by decide) (by decide))) f21 (by decide) (by decide))) (by first | omega | ((try simp only [zt0, zt1, zt2, zt3, zt4, zt5, zt6, zt7, zt8, zt9, zt10, zt11, zt12, zt13, e0_2, e0_3, e0_4, e0_10, e0_11, e20_2, e20_3, e20_4, e20_10, e20_11, e21_2, e21_3, e21_4, e21_8, e21_10, e21_11, true_and, and_true]); omega)) (by first | omega | ((try simp only [zt0, zt1, zt2, zt3, zt4, zt5, zt6, zt7, zt8, zt9, zt10, zt11, zt12, zt13, e0_2, e0_3, e0_4, e0_10, e0_11, e20_2, e20_3, e20_4, e20_10, e20_11, e21_2, e21_3, e21_4, e21_8, e21_10, e21_11, true_and, and_true]); omega))
        · try simp only [zput_s, zput_n, ti_g, oI_add, oI_sub, oI_mul]
          exact ih _ _ _ (by first | rfl | assumption) _ ((FrV.trans (Ns := [0, 8]) ((FrV.trans (Ns := [0, 8]) (f0) f20 (by decide) (by decide))) f21 (by decide) (by decide))) (by first | omega | ((try simp only [zt0, zt1, zt2, zt3, zt4, zt5, zt6, zt7, zt8, zt9, zt10, zt11, zt12, zt13, e0_2, e0_3, e0_4, e0_10, e0_11, e20_2, e20_3, e20_4, e20_10, e20_11, e21_2, e21_3, e21_4, e21_8, e21_10, e21_11, true_and, and_true]); omega)) (by first | omega | ((try simp only [zt0, zt1, zt2, zt3, zt4, zt5, zt6, zt7, zt8, zt9, zt10, zt11, zt12, zt13, e0_2, e0_3, e0_4, e0_10, e0_11, e20_2, e20_3, e20_4, e20_10, e20_11, e21_2, e21_3, e21_4, e21_8, e21_10, e21_11, true_and, and_true]); omega))
theorem s199 {sh : zSh} {t : zSt} {MB : Nat} {r0 : Nat} (q0 : zMd sh MB r0) {x1 : Int} (u1 : -2147483648 ≤ x1 ∧ x1 ≤ 2147483647) {x2 : Int} (u2 : -2147483648 ≤ x2 ∧ x2 ≤ 2147483647) {x3 : Int} (u3 : -2147483648 ≤ x3 ∧ x3 ≤ 2147483647) {x4 : Int} (u4 : -2147483648 ≤ x4 ∧ x4 ≤ 2147483647) (d1 : 0 ≤ x1 ∧ x1 ≤ 7) (d2 : 0 ≤ x2 ∧ x2 ≤ 6) (d3 : 0 ≤ x3 ∧ x3 ≤ 1000) (d4 : -1000 ≤ x4 ∧ x4 ≤ 1000) (G : GI sh r0 t) : zok (zcl zP 199 [zR r0, zI (oI x1), zI (oI x2), zI (oI x3), zI (oI x4)] (sh, t)) (qI (fun x t' => FrV sh r0 [0, 8] t t' ∧ (True)) sh) := by
  have ha0_1 : (sk sh (sr sh r0 1)).2 = 21000 := by rw [q0.2.2.2.2.1]
  have ha0_2 : (sk sh (sr sh r0 2)).2 = 14 := by rw [q0.2.2.2.2.2.1]
  have ha0_3 : (sk sh (sr sh r0 3)).2 = 98 := by rw [q0.2.2.2.2.2.2.1]
  have ha0_4 : (sk sh (sr sh r0 4)).2 = 98 := by rw [q0.2.2.2.2.2.2.2.1]
  have ha0_8 : (sk sh (sr sh r0 8)).2 = 1500 := by rw [q0.2.2.2.2.2.2.2.2.1]
  have ha0_9 : (sk sh (sr sh r0 9)).2 = 10500 := by rw [q0.2.2.2.2.2.2.2.2.2.1]
  have ha0_10 : (sk sh (sr sh r0 10)).2 = 7 := by rw [q0.2.2.2.2.2.2.2.2.2.2.1]
  have ha0_11 : (sk sh (sr sh r0 11)).2 = 7 := by rw [q0.2.2.2.2.2.2.2.2.2.2.2.1]
  have ha0_12 : (sk sh (sr sh r0 12)).2 = 1500 := by rw [q0.2.2.2.2.2.2.2.2.2.2.2.2.1]
  have ha0_13 : (sk sh (sr sh r0 13)).2 = 1500 := by rw [q0.2.2.2.2.2.2.2.2.2.2.2.2.2.1]
  have ha0_14 : (sk sh (sr sh r0 14)).2 = 20 := by rw [q0.2.2.2.2.2.2.2.2.2.2.2.2.2.2]
  have gz0 := G.2.1 (7 * x1 + x2).toNat (by omega)
  have gz := gz0.2.2.2 (by omega)
  rw [b199_0]
  try simp only [zput_s, zput_n, ti_g, oI_add, oI_sub, oI_mul]
  refine zok_ck ((q0).1) ?_
  refine zok_ck ⟨(by rw [(q0).2.2.2.2.2.2.1]), zin_o (by omega) (by omega) (by omega)⟩ ?_
  try rw [nN_o (a := ((7) * (x1)) + (x2)) (by omega) (by omega)]
  try simp only [zput_s, zput_n, ti_g, oI_add, oI_sub, oI_mul, zt0, zt1, zt2, zt3, zt4, zt5, zt6, zt7, zt8, zt9, zt10, zt11, zt12, zt13]
  have gl24 := And.intro (tg_lo t (sr sh r0 3) ((((7) * (x1)) + (x2)).toNat)) (tg_hi t (sr sh r0 3) ((((7) * (x1)) + (x2)).toNat))
  have gm24 := (G).2.1 ((((7) * (x1)) + (x2)).toNat) (by omega)
  try simp only [zt0, zt1, zt2, zt3, zt4, zt5, zt6, zt7, zt8, zt9, zt10, zt11, zt12, zt13] at gl24
  try simp only [zt0, zt1, zt2, zt3, zt4, zt5, zt6, zt7, zt8, zt9, zt10, zt11, zt12, zt13] at gm24
  refine zok_ck (by first | exact ⟨(q0).1, fun e => by cases e⟩ | exact (q0).1) ?_
  obtain ⟨t25, ht25⟩ : ∃ t', t' = tI t r0 (7) (oI (0)) := ⟨_, rfl⟩
  try simp only [zt0, zt1, zt2, zt3, zt4, zt5, zt6, zt7, zt8, zt9, zt10, zt11, zt12, zt13] at ht25
  rw [← ht25]
  have f25 : FrV sh r0 [0] t t25 := by rw [ht25]; exact GI_m q0 (G) (by omega) (fun e => by first | omega | cases e) (fun e => by first | omega | cases e)
  have d25_7 : tg t25 r0 7 = 0 := by rw [ht25]; refine (tg_at (by omega)).trans ?_; first | exact if_pos rfl | exact if_neg (by decide) | (simp only [zt0, zt1, zt2, zt3, zt4, zt5, zt6, zt7, zt8, zt9, zt10, zt11, zt12, zt13, true_and, if_true])
  try simp only [zt0, zt1, zt2, zt3, zt4, zt5, zt6, zt7, zt8, zt9, zt10, zt11, zt12, zt13] at d25_7
  have e25_2 : ∀ k, tg t25 (sr sh r0 2) k = tg t (sr sh r0 2) k := fun k => f25.eq q0 (i := 2) (by decide) (by decide) k
  have e25_3 : ∀ k, tg t25 (sr sh r0 3) k = tg t (sr sh r0 3) k := fun k => f25.eq q0 (i := 3) (by decide) (by decide) k
  have e25_4 : ∀ k, tg t25 (sr sh r0 4) k = tg t (sr sh r0 4) k := fun k => f25.eq q0 (i := 4) (by decide) (by decide) k
  have e25_8 : ∀ k, tg t25 (sr sh r0 8) k = tg t (sr sh r0 8) k := fun k => f25.eq q0 (i := 8) (by decide) (by decide) k
  have e25_10 : ∀ k, tg t25 (sr sh r0 10) k = tg t (sr sh r0 10) k := fun k => f25.eq q0 (i := 10) (by decide) (by decide) k
  have e25_11 : ∀ k, tg t25 (sr sh r0 11) k = tg t (sr sh r0 11) k := fun k => f25.eq q0 (i := 11) (by decide) (by decide) k
  try simp only [zput_s, zput_n, ti_g, oI_add, oI_sub, oI_mul]
  exact l199_24 q0 (by omega) (by omega) (by omega) (by omega) d1 d2 d3 d4 G _ _ _ _ (by first | rfl | assumption) _ ((FrV.trans (Ns := [0, 8]) (FrV.refl (Ls := []) G) f25 (by decide) (by decide))) (by first | omega | ((try simp only [zt0, zt1, zt2, zt3, zt4, zt5, zt6, zt7, zt8, zt9, zt10, zt11, zt12, zt13, e25_2, e25_3, e25_4, e25_8, e25_10, e25_11, true_and, and_true]); omega)) (Nat.lt_succ_self _)
/-! X9_pairsOf -/
theorem s204 {sh : zSh} {t : zSt} {MB : Nat} {r0 : Nat} (q0 : zMd sh MB r0) {x1 : Int} (u1 : -2147483648 ≤ x1 ∧ x1 ≤ 2147483647) (d1 : 0 ≤ x1 ∧ x1 ≤ 7) (G : GI sh r0 t) : zok (zcl zP 204 [zR r0, zI (oI x1)] (sh, t)) (qI (fun x t' => FrV sh r0 [3, 4] t t' ∧ (0 ≤ x ∧ (x = 0 ∨ x = 1 + zkn (zpa sh r0 t' x1 5) 38 0 ((tg t' (sr sh r0 4) (7 * x1 + 5).toNat - tg t' (sr sh r0 3) (7 * x1 + 5).toNat) - 0).toNat))) sh) := by
  have ha0_1 : (sk sh (sr sh r0 1)).2 = 21000 := by rw [q0.2.2.2.2.1]
  have ha0_2 : (sk sh (sr sh r0 2)).2 = 14 := by rw [q0.2.2.2.2.2.1]
  have ha0_3 : (sk sh (sr sh r0 3)).2 = 98 := by rw [q0.2.2.2.2.2.2.1]
  have ha0_4 : (sk sh (sr sh r0 4)).2 = 98 := by rw [q0.2.2.2.2.2.2.2.1]
  have ha0_8 : (sk sh (sr sh r0 8)).2 = 1500 := by rw [q0.2.2.2.2.2.2.2.2.1]
  have ha0_9 : (sk sh (sr sh r0 9)).2 = 10500 := by rw [q0.2.2.2.2.2.2.2.2.2.1]
  have ha0_10 : (sk sh (sr sh r0 10)).2 = 7 := by rw [q0.2.2.2.2.2.2.2.2.2.2.1]
  have ha0_11 : (sk sh (sr sh r0 11)).2 = 7 := by rw [q0.2.2.2.2.2.2.2.2.2.2.2.1]
  have ha0_12 : (sk sh (sr sh r0 12)).2 = 1500 := by rw [q0.2.2.2.2.2.2.2.2.2.2.2.2.1]
  have ha0_13 : (sk sh (sr sh r0 13)).2 = 1500 := by rw [q0.2.2.2.2.2.2.2.2.2.2.2.2.2.1]
  have ha0_14 : (sk sh (sr sh r0 14)).2 = 20 := by rw [q0.2.2.2.2.2.2.2.2.2.2.2.2.2.2]
  have gz := G.1 (x1).toNat (by omega)
  rw [b204_0]
  try simp only [zput_s, zput_n, ti_g, oI_add, oI_sub, oI_mul]
  refine zok_ck ((q0).1) ?_
  refine zok_c0 (s138 (q0) (by omega) (by first | (omega) | ((try simp only [zt0, zt1, zt2, zt3, zt4, zt5, zt6, zt7, zt8, zt9, zt10, zt11, zt12, zt13]); omega)) (by first | (omega) | ((try simp only [zt0, zt1, zt2, zt3, zt4, zt5, zt6, zt7, zt8, zt9, zt10, zt11, zt12, zt13]); omega)) (G)) (fun t2 p2 => ?_)
  obtain ⟨f2, p2⟩ := p2
  have e2_2 : ∀ k, tg t2 (sr sh r0 2) k = tg t (sr sh r0 2) k := fun k => f2.eq q0 (i := 2) (by decide) (by decide) k
  have e2_10 : ∀ k, tg t2 (sr sh r0 10) k = tg t (sr sh r0 10) k := fun k => f2.eq q0 (i := 10) (by decide) (by decide) k
  have e2_11 : ∀ k, tg t2 (sr sh r0 11) k = tg t (sr sh r0 11) k := fun k => f2.eq q0 (i := 11) (by decide) (by decide) k
  try simp only [zt0, zt1, zt2, zt3, zt4, zt5, zt6, zt7, zt8, zt9, zt10, zt11, zt12, zt13, e2_2, e2_10, e2_11] at p2
  simp only [zput_s, zput_n, ti_g, oI_add, oI_sub, oI_mul, zt0, zt1, zt2, zt3, zt4, zt5, zt6, zt7, zt8, zt9, zt10, zt11, zt12, zt13, e2_2, e2_10, e2_11, b204_5]
  try simp only [zput_s, zput_n, ti_g, oI_add, oI_sub, oI_mul]
  refine zok_ck ((q0).1) ?_
  refine zok_pI (s134 (q0) (by omega) (by omega) (by first | (omega) | ((try simp only [zt0, zt1, zt2, zt3, zt4, zt5, zt6, zt7, zt8, zt9, zt10, zt11, zt12, zt13, e2_2, e2_10, e2_11]); omega)) (by first | (omega) | ((try simp only [zt0, zt1, zt2, zt3, zt4, zt5, zt6, zt7, zt8, zt9, zt10, zt11, zt12, zt13, e2_2, e2_10, e2_11]); omega)) (f2.g)) (fun y4 u4 p4 => ?_)
  try simp only [zt0, zt1, zt2, zt3, zt4, zt5, zt6, zt7, zt8, zt9, zt10, zt11, zt12, zt13, e2_2, e2_10, e2_11] at p4
  simp only [zput_s, zput_n, ti_g, oI_add, oI_sub, oI_mul, zt0, zt1, zt2, zt3, zt4, zt5, zt6, zt7, zt8, zt9, zt10, zt11, zt12, zt13, e2_2, e2_10, e2_11, b204_11]
  try simp only [zput_s, zput_n, ti_g, oI_add, oI_sub, oI_mul]
  first | refine zok_eq (by omega) (fun c6 => ?_) (fun c6 => ?_) | refine zok_if (fun c6 => ?_) (fun c6 => ?_)
  · first | exact qI_rt (by omega) (by omega) ⟨(FrV.trans (Ns := [3, 4]) (FrV.refl (Ls := []) G) f2 (by decide) (by decide)), by omega⟩ | exact qI_nf ⟨(FrV.trans (Ns := [3, 4]) (FrV.refl (Ls := []) G) f2 (by decide) (by decide)), by omega⟩
  · refine zok_ck ((q0).1) ?_
    refine zok_pI (s194 (q0) (by omega) (by omega) (by omega) (by omega) (by first | (omega) | ((try simp only [zt0, zt1, zt2, zt3, zt4, zt5, zt6, zt7, zt8, zt9, zt10, zt11, zt12, zt13, e2_2, e2_10, e2_11]); omega)) (by first | (omega) | ((try simp only [zt0, zt1, zt2, zt3, zt4, zt5, zt6, zt7, zt8, zt9, zt10, zt11, zt12, zt13, e2_2, e2_10, e2_11]); omega)) (by first | (omega) | ((try simp only [zt0, zt1, zt2, zt3, zt4, zt5, zt6, zt7, zt8, zt9, zt10, zt11, zt12, zt13, e2_2, e2_10, e2_11]); omega)) (f2.g)) (fun y7 u7 p7 => ?_)
    try simp only [zt0, zt1, zt2, zt3, zt4, zt5, zt6, zt7, zt8, zt9, zt10, zt11, zt12, zt13, e2_2, e2_10, e2_11] at p7
    simp only [zput_s, zput_n, ti_g, oI_add, oI_sub, oI_mul, zt0, zt1, zt2, zt3, zt4, zt5, zt6, zt7, zt8, zt9, zt10, zt11, zt12, zt13, e2_2, e2_10, e2_11, b204_23]
    try simp only [zput_s, zput_n, ti_g, oI_add, oI_sub, oI_mul]
    first | exact qI_rt (by omega) (by omega) ⟨(FrV.trans (Ns := [3, 4]) (FrV.refl (Ls := []) G) f2 (by decide) (by decide)), by omega⟩ | exact qI_nf ⟨(FrV.trans (Ns := [3, 4]) (FrV.refl (Ls := []) G) f2 (by decide) (by decide)), by omega⟩
/-! X9_pairs -/
theorem s205 {sh : zSh} {t : zSt} {MB : Nat} {r0 : Nat} (q0 : zMd sh MB r0) {x1 : Int} (u1 : -2147483648 ≤ x1 ∧ x1 ≤ 2147483647) (G : GI sh r0 t) : zok (zcl zP 205 [zR r0, zI (oI x1)] (sh, t)) (qI (fun x t' => FrV sh r0 [0, 3, 4] t t' ∧ (tg t' (sr sh r0 2) 13 = tg t (sr sh r0 2) 13)) sh) := by
  have ha0_1 : (sk sh (sr sh r0 1)).2 = 21000 := by rw [q0.2.2.2.2.1]
  have ha0_2 : (sk sh (sr sh r0 2)).2 = 14 := by rw [q0.2.2.2.2.2.1]
  have ha0_3 : (sk sh (sr sh r0 3)).2 = 98 := by rw [q0.2.2.2.2.2.2.1]
  have ha0_4 : (sk sh (sr sh r0 4)).2 = 98 := by rw [q0.2.2.2.2.2.2.2.1]
  have ha0_8 : (sk sh (sr sh r0 8)).2 = 1500 := by rw [q0.2.2.2.2.2.2.2.2.1]
  have ha0_9 : (sk sh (sr sh r0 9)).2 = 10500 := by rw [q0.2.2.2.2.2.2.2.2.2.1]
  have ha0_10 : (sk sh (sr sh r0 10)).2 = 7 := by rw [q0.2.2.2.2.2.2.2.2.2.2.1]
  have ha0_11 : (sk sh (sr sh r0 11)).2 = 7 := by rw [q0.2.2.2.2.2.2.2.2.2.2.2.1]
  have ha0_12 : (sk sh (sr sh r0 12)).2 = 1500 := by rw [q0.2.2.2.2.2.2.2.2.2.2.2.2.1]
  have ha0_13 : (sk sh (sr sh r0 13)).2 = 1500 := by rw [q0.2.2.2.2.2.2.2.2.2.2.2.2.2.1]
  have ha0_14 : (sk sh (sr sh r0 14)).2 = 20 := by rw [q0.2.2.2.2.2.2.2.2.2.2.2.2.2.2]
  rw [b205_0]
  try simp only [zput_s, zput_n, ti_g, oI_add, oI_sub, oI_mul]
  refine zok_pI (s127 (by omega)) (fun y2 u2 p2 => ?_)
  try simp only [zt0, zt1, zt2, zt3, zt4, zt5, zt6, zt7, zt8, zt9, zt10, zt11, zt12, zt13] at p2
  have g3_1 := And.intro (tg_lo (tI t r0 0 (oI 1)) r0 0) (tg_hi (tI t r0 0 (oI 1)) r0 0)
  have g3_2 := And.intro (tg_lo (tI t r0 0 (oI 0)) r0 0) (tg_hi (tI t r0 0 (oI 0)) r0 0)
  simp only [zput_s, zput_n, ti_g, oI_add, oI_sub, oI_mul, zt0, zt1, zt2, zt3, zt4, zt5, zt6, zt7, zt8, zt9, zt10, zt11, zt12, zt13, b205_5]
  try simp only [zput_s, zput_n, ti_g, oI_add, oI_sub, oI_mul]
  first | refine zok_eq (by omega) (fun c4 => ?_) (fun c4 => ?_) | refine zok_if (fun c4 => ?_) (fun c4 => ?_)
  · refine zok_ck (by first | exact ⟨(q0).1, fun e => by cases e⟩ | exact (q0).1) ?_
    obtain ⟨t5, ht5⟩ : ∃ t', t' = tI t r0 (0) (oI (1)) := ⟨_, rfl⟩
    try simp only [zt0, zt1, zt2, zt3, zt4, zt5, zt6, zt7, zt8, zt9, zt10, zt11, zt12, zt13] at ht5
    rw [← ht5]
    have f5 : FrV sh r0 [0] t t5 := by rw [ht5]; exact GI_m q0 (G) (by omega) (fun e => by first | omega | cases e) (fun e => by first | omega | cases e)
    have d5_0 : tg t5 r0 0 = 1 := by rw [ht5]; refine (tg_at (by omega)).trans ?_; first | exact if_pos rfl | exact if_neg (by decide) | (simp only [zt0, zt1, zt2, zt3, zt4, zt5, zt6, zt7, zt8, zt9, zt10, zt11, zt12, zt13, true_and, if_true])
    try simp only [zt0, zt1, zt2, zt3, zt4, zt5, zt6, zt7, zt8, zt9, zt10, zt11, zt12, zt13] at d5_0
    have e5_2 : ∀ k, tg t5 (sr sh r0 2) k = tg t (sr sh r0 2) k := fun k => f5.eq q0 (i := 2) (by decide) (by decide) k
    have e5_3 : ∀ k, tg t5 (sr sh r0 3) k = tg t (sr sh r0 3) k := fun k => f5.eq q0 (i := 3) (by decide) (by decide) k
    have e5_4 : ∀ k, tg t5 (sr sh r0 4) k = tg t (sr sh r0 4) k := fun k => f5.eq q0 (i := 4) (by decide) (by decide) k
    have e5_10 : ∀ k, tg t5 (sr sh r0 10) k = tg t (sr sh r0 10) k := fun k => f5.eq q0 (i := 10) (by decide) (by decide) k
    have e5_11 : ∀ k, tg t5 (sr sh r0 11) k = tg t (sr sh r0 11) k := fun k => f5.eq q0 (i := 11) (by decide) (by decide) k
    refine zok_ck ((q0).1) ?_
    first | refine zok_le (by omega) (fun c6 => ?_) (fun c6 => ?_) | refine zok_if (fun c6 => ?_) (fun c6 => ?_)
    · refine zok_ck ((q0).1) ?_
      refine zok_cI (s204 (q0) (by omega) (by first | (omega) | ((try simp only [zt0, zt1, zt2, zt3, zt4, zt5, zt6, zt7, zt8, zt9, zt10, zt11, zt12, zt13, e5_2, e5_3, e5_4, e5_10, e5_11]); omega)) (f5.g)) (fun y7 t7 u7 p7 => ?_)
      obtain ⟨f7, p7⟩ := p7
      have e7_2 : ∀ k, tg t7 (sr sh r0 2) k = tg t5 (sr sh r0 2) k := fun k => f7.eq q0 (i := 2) (by decide) (by decide) k
      have e7_10 : ∀ k, tg t7 (sr sh r0 10) k = tg t5 (sr sh r0 10) k := fun k => f7.eq q0 (i := 10) (by decide) (by decide) k
      have e7_11 : ∀ k, tg t7 (sr sh r0 11) k = tg t5 (sr sh r0 11) k := fun k => f7.eq q0 (i := 11) (by decide) (by decide) k
      have d7_0 : tg t7 r0 0 = tg t5 r0 0 := f7.eq q0 (i := 0) (by decide) (by decide) 0
      try simp only [zt0, zt1, zt2, zt3, zt4, zt5, zt6, zt7, zt8, zt9, zt10, zt11, zt12, zt13, e5_2, e5_3, e5_4, e5_10, e5_11, e7_2, e7_10, e7_11] at p7
      simp only [zput_s, zput_n, ti_g, oI_add, oI_sub, oI_mul, zt0, zt1, zt2, zt3, zt4, zt5, zt6, zt7, zt8, zt9, zt10, zt11, zt12, zt13, e5_2, e5_3, e5_4, e5_10, e5_11, e7_2, e7_10, e7_11, b205_32]
      try simp only [zput_s, zput_n, ti_g, oI_add, oI_sub, oI_mul]
      first | exact qI_rt (by omega) (by omega) ⟨(FrV.trans (Ns := [0, 3, 4]) ((FrV.trans (Ns := [0, 3, 4]) (FrV.refl (Ls := []) G) f5 (by decide) (by decide))) f7 (by decide) (by decide)), by ((try have c0 := hq1 13 (by decide)); (try have c0 := hq1 13); (try have c1 := e5_2 13); (try have c6 := e7_2 13); (try simp only [zt0, zt1, zt2, zt3, zt4, zt5, zt6, zt7, zt8, zt9, zt10, zt11, zt12, zt13] at *) <;> omega)⟩ | exact qI_nf ⟨(FrV.trans (Ns := [0, 3, 4]) ((FrV.trans (Ns := [0, 3, 4]) (FrV.refl (Ls := []) G) f5 (by decide) (by decide))) f7 (by decide) (by decide)), by ((try have c0 := hq1 13 (by decide)); (try have c0 := hq1 13); (try have c1 := e5_2 13); (try have c6 := e7_2 13); (try simp only [zt0, zt1, zt2, zt3, zt4, zt5, zt6, zt7, zt8, zt9, zt10, zt11, zt12, zt13] at *) <;> omega)⟩
    · simp only [zput_s, zput_n, ti_g, oI_add, oI_sub, oI_mul, zt0, zt1, zt2, zt3, zt4, zt5, zt6, zt7, zt8, zt9, zt10, zt11, zt12, zt13, e5_2, e5_3, e5_4, e5_10, e5_11, b205_32]
      try simp only [zput_s, zput_n, ti_g, oI_add, oI_sub, oI_mul]
      first | exact qI_rt (by omega) (by omega) ⟨(FrV.trans (Ns := [0, 3, 4]) (FrV.refl (Ls := []) G) f5 (by decide) (by decide)), by ((try have c0 := hq1 13 (by decide)); (try have c0 := hq1 13); (try have c1 := e5_2 13); (try simp only [zt0, zt1, zt2, zt3, zt4, zt5, zt6, zt7, zt8, zt9, zt10, zt11, zt12, zt13] at *) <;> omega)⟩ | exact qI_nf ⟨(FrV.trans (Ns := [0, 3, 4]) (FrV.refl (Ls := []) G) f5 (by decide) (by decide)), by ((try have c0 := hq1 13 (by decide)); (try have c0 := hq1 13); (try have c1 := e5_2 13); (try simp only [zt0, zt1, zt2, zt3, zt4, zt5, zt6, zt7, zt8, zt9, zt10, zt11, zt12, zt13] at *) <;> omega)⟩
  · refine zok_ck (by first | exact ⟨(q0).1, fun e => by cases e⟩ | exact (q0).1) ?_
    obtain ⟨t10, ht10⟩ : ∃ t', t' = tI t r0 (0) (oI (0)) := ⟨_, rfl⟩
    try simp only [zt0, zt1, zt2, zt3, zt4, zt5, zt6, zt7, zt8, zt9, zt10, zt11, zt12, zt13] at ht10
    rw [← ht10]
    have f10 : FrV sh r0 [0] t t10 := by rw [ht10]; exact GI_m q0 (G) (by omega) (fun e => by first | omega | cases e) (fun e => by first | omega | cases e)
    have d10_0 : tg t10 r0 0 = 0 := by rw [ht10]; refine (tg_at (by omega)).trans ?_; first | exact if_pos rfl | exact if_neg (by decide) | (simp only [zt0, zt1, zt2, zt3, zt4, zt5, zt6, zt7, zt8, zt9, zt10, zt11, zt12, zt13, true_and, if_true])
    try simp only [zt0, zt1, zt2, zt3, zt4, zt5, zt6, zt7, zt8, zt9, zt10, zt11, zt12, zt13] at d10_0
    have e10_2 : ∀ k, tg t10 (sr sh r0 2) k = tg t (sr sh r0 2) k := fun k => f10.eq q0 (i := 2) (by decide) (by decide) k
    have e10_3 : ∀ k, tg t10 (sr sh r0 3) k = tg t (sr sh r0 3) k := fun k => f10.eq q0 (i := 3) (by decide) (by decide) k
    have e10_4 : ∀ k, tg t10 (sr sh r0 4) k = tg t (sr sh r0 4) k := fun k => f10.eq q0 (i := 4) (by decide) (by decide) k
    have e10_10 : ∀ k, tg t10 (sr sh r0 10) k = tg t (sr sh r0 10) k := fun k => f10.eq q0 (i := 10) (by decide) (by decide) k
    have e10_11 : ∀ k, tg t10 (sr sh r0 11) k = tg t (sr sh r0 11) k := fun k => f10.eq q0 (i := 11) (by decide) (by decide) k
    refine zok_ck ((q0).1) ?_
    first | refine zok_le (by omega) (fun c11 => ?_) (fun c11 => ?_) | refine zok_if (fun c11 => ?_) (fun c11 => ?_)
    · refine zok_ck ((q0).1) ?_
      refine zok_cI (s204 (q0) (by omega) (by first | (omega) | ((try simp only [zt0, zt1, zt2, zt3, zt4, zt5, zt6, zt7, zt8, zt9, zt10, zt11, zt12, zt13, e10_2, e10_3, e10_4, e10_10, e10_11]); omega)) (f10.g)) (fun y12 t12 u12 p12 => ?_)
      obtain ⟨f12, p12⟩ := p12
      have e12_2 : ∀ k, tg t12 (sr sh r0 2) k = tg t10 (sr sh r0 2) k := fun k => f12.eq q0 (i := 2) (by decide) (by decide) k
      have e12_10 : ∀ k, tg t12 (sr sh r0 10) k = tg t10 (sr sh r0 10) k := fun k => f12.eq q0 (i := 10) (by decide) (by decide) k
      have e12_11 : ∀ k, tg t12 (sr sh r0 11) k = tg t10 (sr sh r0 11) k := fun k => f12.eq q0 (i := 11) (by decide) (by decide) k
      have d12_0 : tg t12 r0 0 = tg t10 r0 0 := f12.eq q0 (i := 0) (by decide) (by decide) 0
      try simp only [zt0, zt1, zt2, zt3, zt4, zt5, zt6, zt7, zt8, zt9, zt10, zt11, zt12, zt13, e10_2, e10_3, e10_4, e10_10, e10_11, e12_2, e12_10, e12_11] at p12
      simp only [zput_s, zput_n, ti_g, oI_add, oI_sub, oI_mul, zt0, zt1, zt2, zt3, zt4, zt5, zt6, zt7, zt8, zt9, zt10, zt11, zt12, zt13, e10_2, e10_3, e10_4, e10_10, e10_11, e12_2, e12_10, e12_11, b205_32]
      try simp only [zput_s, zput_n, ti_g, oI_add, oI_sub, oI_mul]
      first | exact qI_rt (by omega) (by omega) ⟨(FrV.trans (Ns := [0, 3, 4]) ((FrV.trans (Ns := [0, 3, 4]) (FrV.refl (Ls := []) G) f10 (by decide) (by decide))) f12 (by decide) (by decide)), by ((try have c0 := hq1 13 (by decide)); (try have c0 := hq1 13); (try have c1 := e10_2 13); (try have c6 := e12_2 13); (try simp only [zt0, zt1, zt2, zt3, zt4, zt5, zt6, zt7, zt8, zt9, zt10, zt11, zt12, zt13] at *) <;> omega)⟩ | exact qI_nf ⟨(FrV.trans (Ns := [0, 3, 4]) ((FrV.trans (Ns := [0, 3, 4]) (FrV.refl (Ls := []) G) f10 (by decide) (by decide))) f12 (by decide) (by decide)), by ((try have c0 := hq1 13 (by decide)); (try have c0 := hq1 13); (try have c1 := e10_2 13); (try have c6 := e12_2 13); (try simp only [zt0, zt1, zt2, zt3, zt4, zt5, zt6, zt7, zt8, zt9, zt10, zt11, zt12, zt13] at *) <;> omega)⟩
    · simp only [zput_s, zput_n, ti_g, oI_add, oI_sub, oI_mul, zt0, zt1, zt2, zt3, zt4, zt5, zt6, zt7, zt8, zt9, zt10, zt11, zt12, zt13, e10_2, e10_3, e10_4, e10_10, e10_11, b205_32]
      try simp only [zput_s, zput_n, ti_g, oI_add, oI_sub, oI_mul]
      first | exact qI_rt (by omega) (by omega) ⟨(FrV.trans (Ns := [0, 3, 4]) (FrV.refl (Ls := []) G) f10 (by decide) (by decide)), by ((try have c0 := hq1 13 (by decide)); (try have c0 := hq1 13); (try have c1 := e10_2 13); (try simp only [zt0, zt1, zt2, zt3, zt4, zt5, zt6, zt7, zt8, zt9, zt10, zt11, zt12, zt13] at *) <;> omega)⟩ | exact qI_nf ⟨(FrV.trans (Ns := [0, 3, 4]) (FrV.refl (Ls := []) G) f10 (by decide) (by decide)), by ((try have c0 := hq1 13 (by decide)); (try have c0 := hq1 13); (try have c1 := e10_2 13); (try simp only [zt0, zt1, zt2, zt3, zt4, zt5, zt6, zt7, zt8, zt9, zt10, zt11, zt12, zt13] at *) <;> omega)⟩
