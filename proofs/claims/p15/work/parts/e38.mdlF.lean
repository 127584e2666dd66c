set_option maxRecDepth 16384
/-! X9_isFuture -/
theorem l143_59 {sh : zSh} {t : zSt} {MB : Nat} {r0 : Nat} (q0 : zMd sh MB r0) {x1 : Int} (u1 : -2147483648 ≤ x1 ∧ x1 ≤ 2147483647) {x2 : Int} (u2 : -2147483648 ≤ x2 ∧ x2 ≤ 2147483647) {x3 : Int} (u3 : -2147483648 ≤ x3 ∧ x3 ≤ 2147483647) (d1 : 0 ≤ x1 ∧ x1 ≤ 13) (d2 : 0 ≤ x2 ∧ x2 ≤ 4000) (d3 : -2 ≤ x3 ∧ x3 ≤ 4000) (G : GI sh r0 t) : ∀ (n : Nat) (x4 : Int) (x5 : Int) (x6 : Int) (o7 : Option zV) (wo7 : zisL o7 = false), (-2147483648 ≤ x4 ∧ x4 ≤ 2147483647) ∧ (-2147483648 ≤ x5 ∧ x5 ≤ 2147483647) ∧ (-2147483648 ≤ x6 ∧ x6 ≤ 2147483647) ∧ (x2 + 1 ≤ x6) ∧ (x5 = 0 ∨ x5 = 1) → (x3 - x6).toNat < n → zok (zev zP 143 59 [some (zR r0), some (zI (oI x1)), some (zI (oI x2)), some (zI (oI x3)), some (zI (oI x4)), some (zI (oI x5)), some (zI (oI x6)), o7] [] (sh, t)) (qI (fun x t' => t' = t ∧ (x = 0 ∨ x = 1)) sh) := by
  intro n
  induction n with
  | zero => intro x4 x5 x6 o7 wo7 _ hm; omega
  | succ n ih =>
    intro x4 x5 x6 o7 wo7 hv hm
    have ha0_1 : (sk sh (sr sh r0 1)).2 = 21000 := by rw [q0.2.2.2.2.1]
    have ha0_2 : (sk sh (sr sh r0 2)).2 = 14 := by rw [q0.2.2.2.2.2.1]
    have ha0_3 : (sk sh (sr sh r0 3)).2 = 98 := by rw [q0.2.2.2.2.2.2.1]
    have ha0_4 : (sk sh (sr sh r0 4)).2 = 98 := by rw [q0.2.2.2.2.2.2.2.1]
    have ha0_8 : (sk sh (sr sh r0 8)).2 = 1500 := by rw [q0.2.2.2.2.2.2.2.2.1]
    have ha0_9 : (sk sh (sr sh r0 9)).2 = 10500 := by rw [q0.2.2.2.2.2.2.2.2.2.1]
    have ha0_10 : (sk sh (sr sh r0 10)).2 = 7 := by rw [q0.2.2.2.2.2.2.2.2.2.2.1]
    have ha0_11 : (sk sh (sr sh r0 11)).2 = 7 := by rw [q0.2.2.2.2.2.2.2.2.2.2.2.1]
    have ha0_12 : (sk sh (sr sh r0 12)).2 = 1500 := by rw [q0.2.2.2.2.2.2.2.2.2.2.2.2.1]
    have ha0_13 : (sk sh (sr sh r0 13)).2 = 1500 := by rw [q0.2.2.2.2.2.2.2.2.2.2.2.2.2.1]
    have ha0_14 : (sk sh (sr sh r0 14)).2 = 20 := by rw [q0.2.2.2.2.2.2.2.2.2.2.2.2.2.2]
    try simp only [zput_s, zput_n, ti_g, oI_add, oI_sub, oI_mul]
    rw [b143_59 (o7 := o7) (wo7 := wo7)]
    try simp only [zput_s, zput_n, ti_g, oI_add, oI_sub, oI_mul]
    first | refine zok_le (by omega) (fun c2 => ?_) (fun c2 => ?_) | refine zok_if (fun c2 => ?_) (fun c2 => ?_)
    · refine zok_ck (by first | exact fun _ => bool_p (by omega) | exact bool_p (by omega)) ?_
      first | exact qI_rt (by omega) (by omega) ⟨rfl, by omega⟩ | exact qI_nf ⟨rfl, by omega⟩
    · refine zok_ck ((q0).1) ?_
      refine zok_pI (s128 (q0) (by omega) (by omega) (by first | (omega) | ((try simp only [zt0, zt1, zt2, zt3, zt4, zt5, zt6]); omega)) (G)) (fun y3 u3 p3 => ?_)
      try simp only [zt0, zt1, zt2, zt3, zt4, zt5, zt6] at p3
      try simp only [zput_s, zput_n, ti_g, oI_add, oI_sub, oI_mul]
      rw [b143_72 (o7 := o7) (wo7 := wo7)]
      try simp only [zput_s, zput_n, ti_g, oI_add, oI_sub, oI_mul]
      first | refine zok_eq (by omega) (fun c5 => ?_) (fun c5 => ?_) | refine zok_if (fun c5 => ?_) (fun c5 => ?_)
      · try simp only [zput_s, zput_n, ti_g, oI_add, oI_sub, oI_mul]
        exact ih _ _ _ _ (by first | rfl | assumption) (by first | omega | ((try simp only [zt0, zt1, zt2, zt3, zt4, zt5, zt6]); omega)) (by first | omega | ((try simp only [zt0, zt1, zt2, zt3, zt4, zt5, zt6]); omega))
      · first | refine zok_le (by omega) (fun c6 => ?_) (fun c6 => ?_) | refine zok_if (fun c6 => ?_) (fun c6 => ?_)
        · refine zok_pI (s123 (by omega)) (fun y7 u7 p7 => ?_)
          try simp only [zt0, zt1, zt2, zt3, zt4, zt5, zt6] at p7
          simp only [zput_s, zput_n, ti_g, oI_add, oI_sub, oI_mul, zt0, zt1, zt2, zt3, zt4, zt5, zt6, b143_102]
          try simp only [zput_s, zput_n, ti_g, oI_add, oI_sub, oI_mul]
          first | refine zok_ne (by omega) (fun c9 => ?_) (fun c9 => ?_) | refine zok_if (fun c9 => ?_) (fun c9 => ?_)
          · try simp only [zput_s, zput_n, ti_g, oI_add, oI_sub, oI_mul]
            exact ih _ _ _ _ (by first | rfl | assumption) (by first | omega | ((try simp only [zt0, zt1, zt2, zt3, zt4, zt5, zt6]); omega)) (by first | omega | ((try simp only [zt0, zt1, zt2, zt3, zt4, zt5, zt6]); omega))
          · refine zok_pI (s124 (by omega)) (fun y10 u10 p10 => ?_)
            try simp only [zt0, zt1, zt2, zt3, zt4, zt5, zt6] at p10
            simp only [zput_s, zput_n, ti_g, oI_add, oI_sub, oI_mul, zt0, zt1, zt2, zt3, zt4, zt5, zt6, b143_110]
            try simp only [zput_s, zput_n, ti_g, oI_add, oI_sub, oI_mul]
            first | refine zok_ne (by omega) (fun c12 => ?_) (fun c12 => ?_) | refine zok_if (fun c12 => ?_) (fun c12 => ?_)
            · try simp only [zput_s, zput_n, ti_g, oI_add, oI_sub, oI_mul]
              exact ih _ _ _ _ (by first | rfl | assumption) (by first | omega | ((try simp only [zt0, zt1, zt2, zt3, zt4, zt5, zt6]); omega)) (by first | omega | ((try simp only [zt0, zt1, zt2, zt3, zt4, zt5, zt6]); omega))
            · first | refine zok_ne (by omega) (fun c13 => ?_) (fun c13 => ?_) | refine zok_if (fun c13 => ?_) (fun c13 => ?_)
              · try simp only [zput_s, zput_n, ti_g, oI_add, oI_sub, oI_mul]
                exact ih _ _ _ _ (by first | rfl | assumption) (by first | omega | ((try simp only [zt0, zt1, zt2, zt3, zt4, zt5, zt6]); omega)) (by first | omega | ((try simp only [zt0, zt1, zt2, zt3, zt4, zt5, zt6]); omega))
              · try simp only [zput_s, zput_n, ti_g, oI_add, oI_sub, oI_mul]
                exact ih _ _ _ _ (by first | rfl | assumption) (by first | omega | ((try simp only [zt0, zt1, zt2, zt3, zt4, zt5, zt6]); omega)) (by first | omega | ((try simp only [zt0, zt1, zt2, zt3, zt4, zt5, zt6]); omega))
        · refine zok_pI (s125 (by omega)) (fun y14 u14 p14 => ?_)
          try simp only [zt0, zt1, zt2, zt3, zt4, zt5, zt6] at p14
          simp only [zput_s, zput_n, ti_g, oI_add, oI_sub, oI_mul, zt0, zt1, zt2, zt3, zt4, zt5, zt6, b143_91]
          try simp only [zput_s, zput_n, ti_g, oI_add, oI_sub, oI_mul]
          first | refine zok_lt (by omega) (fun c16 => ?_) (fun c16 => ?_) | refine zok_if (fun c16 => ?_) (fun c16 => ?_)
          · try simp only [zput_s, zput_n, ti_g, oI_add, oI_sub, oI_mul]
            exact ih _ _ _ _ (by first | rfl | assumption) (by first | omega | ((try simp only [zt0, zt1, zt2, zt3, zt4, zt5, zt6]); omega)) (by first | omega | ((try simp only [zt0, zt1, zt2, zt3, zt4, zt5, zt6]); omega))
          · try simp only [zput_s, zput_n, ti_g, oI_add, oI_sub, oI_mul]
            exact ih _ _ _ _ (by first | rfl | assumption) (by first | omega | ((try simp only [zt0, zt1, zt2, zt3, zt4, zt5, zt6]); omega)) (by first | omega | ((try simp only [zt0, zt1, zt2, zt3, zt4, zt5, zt6]); omega))
theorem s143 {sh : zSh} {t : zSt} {MB : Nat} {r0 : Nat} (q0 : zMd sh MB r0) {x1 : Int} (u1 : -2147483648 ≤ x1 ∧ x1 ≤ 2147483647) {x2 : Int} (u2 : -2147483648 ≤ x2 ∧ x2 ≤ 2147483647) {x3 : Int} (u3 : -2147483648 ≤ x3 ∧ x3 ≤ 2147483647) (d1 : 0 ≤ x1 ∧ x1 ≤ 13) (d2 : 0 ≤ x2 ∧ x2 ≤ 4000) (d3 : -2 ≤ x3 ∧ x3 ≤ 4000) (G : GI sh r0 t) : zok (zcl zP 143 [zR r0, zI (oI x1), zI (oI x2), zI (oI x3)] (sh, t)) (qI (fun x t' => t' = t ∧ (x = 0 ∨ x = 1)) sh) := by
  have ha0_1 : (sk sh (sr sh r0 1)).2 = 21000 := by rw [q0.2.2.2.2.1]
  have ha0_2 : (sk sh (sr sh r0 2)).2 = 14 := by rw [q0.2.2.2.2.2.1]
  have ha0_3 : (sk sh (sr sh r0 3)).2 = 98 := by rw [q0.2.2.2.2.2.2.1]
  have ha0_4 : (sk sh (sr sh r0 4)).2 = 98 := by rw [q0.2.2.2.2.2.2.2.1]
  have ha0_8 : (sk sh (sr sh r0 8)).2 = 1500 := by rw [q0.2.2.2.2.2.2.2.2.1]
  have ha0_9 : (sk sh (sr sh r0 9)).2 = 10500 := by rw [q0.2.2.2.2.2.2.2.2.2.1]
  have ha0_10 : (sk sh (sr sh r0 10)).2 = 7 := by rw [q0.2.2.2.2.2.2.2.2.2.2.1]
  have ha0_11 : (sk sh (sr sh r0 11)).2 = 7 := by rw [q0.2.2.2.2.2.2.2.2.2.2.2.1]
  have ha0_12 : (sk sh (sr sh r0 12)).2 = 1500 := by rw [q0.2.2.2.2.2.2.2.2.2.2.2.2.1]
  have ha0_13 : (sk sh (sr sh r0 13)).2 = 1500 := by rw [q0.2.2.2.2.2.2.2.2.2.2.2.2.2.1]
  have ha0_14 : (sk sh (sr sh r0 14)).2 = 20 := by rw [q0.2.2.2.2.2.2.2.2.2.2.2.2.2.2]
  rw [b143_0]
  try simp only [zput_s, zput_n, ti_g, oI_add, oI_sub, oI_mul]
  refine zok_ck ((q0).1) ?_
  refine zok_pI (s129 (q0) (by omega) (by omega) (by omega) (by omega) (by first | (omega) | ((try simp only [zt0, zt1, zt2, zt3, zt4, zt5, zt6]); omega)) (by first | (omega) | ((try simp only [zt0, zt1, zt2, zt3, zt4, zt5, zt6]); omega)) (G)) (fun y18 u18 p18 => ?_)
  try simp only [zt0, zt1, zt2, zt3, zt4, zt5, zt6] at p18
  simp only [zput_s, zput_n, ti_g, oI_add, oI_sub, oI_mul, zt0, zt1, zt2, zt3, zt4, zt5, zt6, b143_9]
  try simp only [zput_s, zput_n, ti_g, oI_add, oI_sub, oI_mul]
  refine zok_ck ((q0).1) ?_
  refine zok_pI (s128 (q0) (by omega) (by omega) (by first | (omega) | ((try simp only [zt0, zt1, zt2, zt3, zt4, zt5, zt6]); omega)) (G)) (fun y20 u20 p20 => ?_)
  try simp only [zt0, zt1, zt2, zt3, zt4, zt5, zt6] at p20
  simp only [zput_s, zput_n, ti_g, oI_add, oI_sub, oI_mul, zt0, zt1, zt2, zt3, zt4, zt5, zt6, b143_17]
  try simp only [zput_s, zput_n, ti_g, oI_add, oI_sub, oI_mul]
  first | refine zok_eq (by omega) (fun c22 => ?_) (fun c22 => ?_) | refine zok_if (fun c22 => ?_) (fun c22 => ?_)
  · first | refine zok_lt (by omega) (fun c23 => ?_) (fun c23 => ?_) | refine zok_if (fun c23 => ?_) (fun c23 => ?_)
    · first | exact qI_rt (by omega) (by omega) ⟨rfl, by omega⟩ | exact qI_nf ⟨rfl, by omega⟩
    · first | refine zok_lt (by omega) (fun c24 => ?_) (fun c24 => ?_) | refine zok_if (fun c24 => ?_) (fun c24 => ?_)
      · try simp only [zput_s, zput_n, ti_g, oI_add, oI_sub, oI_mul]
        exact l143_59 q0 (by omega) (by omega) (by omega) d1 d2 d3 G _ _ _ _ _ (by first | rfl | assumption) (by first | omega | ((try simp only [zt0, zt1, zt2, zt3, zt4, zt5, zt6]); omega)) (Nat.lt_succ_self _)
      · first | exact qI_rt (by omega) (by omega) ⟨rfl, by omega⟩ | exact qI_nf ⟨rfl, by omega⟩
  · refine zok_ck ((q0).1) ?_
    refine zok_pI (s128 (q0) (by omega) (by omega) (by first | (omega) | ((try simp only [zt0, zt1, zt2, zt3, zt4, zt5, zt6]); omega)) (G)) (fun y25 u25 p25 => ?_)
    try simp only [zt0, zt1, zt2, zt3, zt4, zt5, zt6] at p25
    simp only [zput_s, zput_n, ti_g, oI_add, oI_sub, oI_mul, zt0, zt1, zt2, zt3, zt4, zt5, zt6, b143_28]
    try simp only [zput_s, zput_n, ti_g, oI_add, oI_sub, oI_mul]
    first | refine zok_ne (by omega) (fun c27 => ?_) (fun c27 => ?_) | refine zok_if (fun c27 => ?_) (fun c27 => ?_)
    · first | exact qI_rt (by omega) (by omega) ⟨rfl, by omega⟩ | exact qI_nf ⟨rfl, by omega⟩
    · first | refine zok_lt (by omega) (fun c28 => ?_) (fun c28 => ?_) | refine zok_if (fun c28 => ?_) (fun c28 => ?_)
      · first | exact qI_rt (by omega) (by omega) ⟨rfl, by omega⟩ | exact qI_nf ⟨rfl, by omega⟩
      · first | refine zok_lt (by omega) (fun c29 => ?_) (fun c29 => ?_) | refine zok_if (fun c29 => ?_) (fun c29 => ?_)
        · try simp only [zput_s, zput_n, ti_g, oI_add, oI_sub, oI_mul]
          exact l143_59 q0 (by omega) (by omega) (by omega) d1 d2 d3 G _ _ _ _ _ (by first | rfl | assumption) (by first | omega | ((try simp only [zt0, zt1, zt2, zt3, zt4, zt5, zt6]); omega)) (Nat.lt_succ_self _)
        · first | exact qI_rt (by omega) (by omega) ⟨rfl, by omega⟩ | exact qI_nf ⟨rfl, by omega⟩
/-! X9_takesGroups -/
theorem l140_J {sh : zSh} {t0 : zSt} {MB : Nat} {r0 : Nat} (q0 : zMd sh MB r0) {x1 : Int} (u1 : -2147483648 ≤ x1 ∧ x1 ≤ 2147483647) {x2 : Int} (u2 : -2147483648 ≤ x2 ∧ x2 ≤ 2147483647) {x3 : Int} (u3 : -2147483648 ≤ x3 ∧ x3 ≤ 2147483647) {x4 : Int} (u4 : -2147483648 ≤ x4 ∧ x4 ≤ 2147483647) (d1 : 0 ≤ x1 ∧ x1 ≤ 13) (d2 : 0 ≤ x2 ∧ x2 ≤ 4000) (d3 : -2 ≤ x3 ∧ x3 ≤ 4000) (d4 : tg t0 r0 15 ≤ 20000) (G : GI sh r0 t0) : ∀ (n : Nat), (∀ (x5 : Int) (o6 : Option zV) (o7 : Option zV) (o8 : Option zV) (o9 : Option zV) (wo6 : zisL o6 = false) (wo7 : zisL o7 = false) (wo8 : zisL o8 = false) (wo9 : zisL o9 = false) (t1 : zSt), FrV sh r0 [0, 14] t0 t1 → (-2147483648 ≤ x5 ∧ x5 ≤ 2147483647) ∧ (x2 ≤ x5 ∧ (x5 ≤ x3 + 1 ∨ x5 = x2)) ∧ (tg t0 r0 15 ≤ tg t1 r0 15 ∧ tg t1 r0 15 ≤ tg t0 r0 15 + 2 * (x5 - x2)) → (10000 * (x3 - x5) + 9000).toNat < n → zok (zev zP 140 3 [some (zR r0), some (zI (oI x1)), some (zI (oI x2)), some (zI (oI x3)), some (zI (oI x4)), some (zI (oI x5)), o6, o7, o8, o9] [] (sh, t1)) (qI (fun x t' => FrV sh r0 [0, 14] t0 t' ∧ ((x = 0 ∨ x = 1) ∧ tg t0 r0 15 ≤ tg t' r0 15 ∧ tg t' r0 15 ≤ tg t0 r0 15 + 10000 ∧ (x = 1 → tg t' r0 15 ≤ 8))) sh)) ∧ (∀ (x5 : Int) (x6 : Int) (v7 : Int32) (x8 : Int) (o9 : Option zV) (wo9 : zisL o9 = false) (t1 : zSt), FrV sh r0 [0, 14] t0 t1 → (-2147483648 ≤ x5 ∧ x5 ≤ 2147483647) ∧ (-2147483648 ≤ x6 ∧ x6 ≤ 2147483647) ∧ (-2147483648 ≤ x8 ∧ x8 ≤ 2147483647) ∧ (x2 ≤ x5 ∧ x5 < x3 ∧ x5 ≤ x6 ∧ x6 ≤ x3 ∧ x5 ≤ x8 ∧ (x8 ≤ x6 ∨ x8 = x5)) ∧ (tg t0 r0 15 ≤ tg t1 r0 15 ∧ tg t1 r0 15 ≤ tg t0 r0 15 + 2 * (x5 - x2)) → (10000 * (x3 - x5) + (x6 - x8)).toNat < n → zok (zev zP 140 75 [some (zR r0), some (zI (oI x1)), some (zI (oI x2)), some (zI (oI x3)), some (zI (oI x4)), some (zI (oI x5)), some (zI (oI x6)), some (zI v7), some (zI (oI x8)), o9] [] (sh, t1)) (qI (fun x t' => FrV sh r0 [0, 14] t0 t' ∧ ((x = 0 ∨ x = 1) ∧ tg t0 r0 15 ≤ tg t' r0 15 ∧ tg t' r0 15 ≤ tg t0 r0 15 + 10000 ∧ (x = 1 → tg t' r0 15 ≤ 8))) sh)) := by
  intro n
  induction n with
  | zero => exact ⟨(by intro x5 o6 o7 o8 o9 wo6 wo7 wo8 wo9 t1 f0 _ hm; omega), (by intro x5 x6 v7 x8 o9 wo9 t1 f0 _ hm; omega)⟩
  | succ n ih =>
    refine ⟨?_, ?_⟩
    · intro x5 o6 o7 o8 o9 wo6 wo7 wo8 wo9 t1 f0 hv hm
      have ha0_1 : (sk sh (sr sh r0 1)).2 = 21000 := by rw [q0.2.2.2.2.1]
      have ha0_2 : (sk sh (sr sh r0 2)).2 = 14 := by rw [q0.2.2.2.2.2.1]
      have ha0_3 : (sk sh (sr sh r0 3)).2 = 98 := by rw [q0.2.2.2.2.2.2.1]
      have ha0_4 : (sk sh (sr sh r0 4)).2 = 98 := by rw [q0.2.2.2.2.2.2.2.1]
      have ha0_8 : (sk sh (sr sh r0 8)).2 = 1500 := by rw [q0.2.2.2.2.2.2.2.2.1]
      have ha0_9 : (sk sh (sr sh r0 9)).2 = 10500 := by rw [q0.2.2.2.2.2.2.2.2.2.1]
      have ha0_10 : (sk sh (sr sh r0 10)).2 = 7 := by rw [q0.2.2.2.2.2.2.2.2.2.2.1]
      have ha0_11 : (sk sh (sr sh r0 11)).2 = 7 := by rw [q0.2.2.2.2.2.2.2.2.2.2.2.1]
      have ha0_12 : (sk sh (sr sh r0 12)).2 = 1500 := by rw [q0.2.2.2.2.2.2.2.2.2.2.2.2.1]
      have ha0_13 : (sk sh (sr sh r0 13)).2 = 1500 := by rw [q0.2.2.2.2.2.2.2.2.2.2.2.2.2.1]
      have ha0_14 : (sk sh (sr sh r0 14)).2 = 20 := by rw [q0.2.2.2.2.2.2.2.2.2.2.2.2.2.2]
      have e0_2 : ∀ k, tg t1 (sr sh r0 2) k = tg t0 (sr sh r0 2) k := fun k => f0.eq q0 (i := 2) (by decide) (by decide) k
      have e0_3 : ∀ k, tg t1 (sr sh r0 3) k = tg t0 (sr sh r0 3) k := fun k => f0.eq q0 (i := 3) (by decide) (by decide) k
      have e0_4 : ∀ k, tg t1 (sr sh r0 4) k = tg t0 (sr sh r0 4) k := fun k => f0.eq q0 (i := 4) (by decide) (by decide) k
      have e0_10 : ∀ k, tg t1 (sr sh r0 10) k = tg t0 (sr sh r0 10) k := fun k => f0.eq q0 (i := 10) (by decide) (by decide) k
      have e0_11 : ∀ k, tg t1 (sr sh r0 11) k = tg t0 (sr sh r0 11) k := fun k => f0.eq q0 (i := 11) (by decide) (by decide) k
      try simp only [zt0, zt1, zt2, zt3, zt4, zt5, zt6, e0_2, e0_3, e0_4, e0_10, e0_11] at hv
      try simp only [zt0, zt1, zt2, zt3, zt4, zt5, zt6, e0_2, e0_3, e0_4, e0_10, e0_11] at hm
      have g1_1 := And.intro (tg_lo t1 r0 15) (tg_hi t1 r0 15)
      have gf1_1 := (f0.g).2.2.2.2
      try simp only [zput_s, zput_n, ti_g, oI_add, oI_sub, oI_mul]
      rw [b140_3 (o6 := o6) (wo6 := wo6) (o7 := o7) (wo7 := wo7) (o8 := o8) (wo8 := wo8) (o9 := o9) (wo9 := wo9)]
      try simp only [zput_s, zput_n, ti_g, oI_add, oI_sub, oI_mul]
      first | refine zok_le (by omega) (fun c2 => ?_) (fun c2 => ?_) | refine zok_if (fun c2 => ?_) (fun c2 => ?_)
      · refine zok_ck ((q0).1) ?_
        first | refine zok_lt (by omega) (fun c3 => ?_) (fun c3 => ?_) | refine zok_if (fun c3 => ?_) (fun c3 => ?_)
        · first | exact qI_rt (by omega) (by omega) ⟨f0, by omega⟩ | exact qI_nf ⟨f0, by omega⟩
        · first | exact qI_rt (by omega) (by omega) ⟨f0, by omega⟩ | exact qI_nf ⟨f0, by omega⟩
      · refine zok_ck ((q0).1) ?_
        refine zok_pI (s129 (q0) (by omega) (by omega) (by omega) (by omega) (by first | (omega) | ((try simp only [zt0, zt1, zt2, zt3, zt4, zt5, zt6, e0_2, e0_3, e0_4, e0_10, e0_11]); omega)) (by first | (omega) | ((try simp only [zt0, zt1, zt2, zt3, zt4, zt5, zt6, e0_2, e0_3, e0_4, e0_10, e0_11]); omega)) (f0.g)) (fun y4 u4 p4 => ?_)
        try simp only [zt0, zt1, zt2, zt3, zt4, zt5, zt6, e0_2, e0_3, e0_4, e0_10, e0_11] at p4
        try simp only [zput_s, zput_n, ti_g, oI_add, oI_sub, oI_mul]
        rw [b140_19 (o6 := o6) (wo6 := wo6) (o7 := o7) (wo7 := wo7) (o8 := o8) (wo8 := wo8) (o9 := o9) (wo9 := wo9)]
        try simp only [zput_s, zput_n, ti_g, oI_add, oI_sub, oI_mul]
        first | refine zok_eq (by omega) (fun c6 => ?_) (fun c6 => ?_) | refine zok_if (fun c6 => ?_) (fun c6 => ?_)
        · try simp only [zput_s, zput_n, ti_g, oI_add, oI_sub, oI_mul]
          exact ih.2 _ _ _ _ _ (by first | rfl | assumption) _ (f0) (by first | omega | ((try simp only [zt0, zt1, zt2, zt3, zt4, zt5, zt6, e0_2, e0_3, e0_4, e0_10, e0_11]); omega)) (by first | omega | ((try simp only [zt0, zt1, zt2, zt3, zt4, zt5, zt6, e0_2, e0_3, e0_4, e0_10, e0_11]); omega))
        · first | refine zok_ne (by omega) (fun c7 => ?_) (fun c7 => ?_) | refine zok_if (fun c7 => ?_) (fun c7 => ?_)
          · try simp only [zput_s, zput_n, ti_g, oI_add, oI_sub, oI_mul]
            exact ih.2 _ _ _ _ _ (by first | rfl | assumption) _ (f0) (by first | omega | ((try simp only [zt0, zt1, zt2, zt3, zt4, zt5, zt6, e0_2, e0_3, e0_4, e0_10, e0_11]); omega)) (by first | omega | ((try simp only [zt0, zt1, zt2, zt3, zt4, zt5, zt6, e0_2, e0_3, e0_4, e0_10, e0_11]); omega))
          · refine zok_ck ((q0).1) ?_
            refine zok_cI (s139 (q0) (by omega) (by omega) (by omega) (by first | (omega) | ((try simp only [zt0, zt1, zt2, zt3, zt4, zt5, zt6, e0_2, e0_3, e0_4, e0_10, e0_11]); omega)) (by first | (omega) | ((try simp only [zt0, zt1, zt2, zt3, zt4, zt5, zt6, e0_2, e0_3, e0_4, e0_10, e0_11]); omega)) (by first | (omega) | ((try simp only [zt0, zt1, zt2, zt3, zt4, zt5, zt6, e0_2, e0_3, e0_4, e0_10, e0_11]); omega)) (f0.g)) (fun y8 t8 u8 p8 => ?_)
            obtain ⟨f8, p8⟩ := p8
            have e8_2 : ∀ k, tg t8 (sr sh r0 2) k = tg t1 (sr sh r0 2) k := fun k => f8.eq q0 (i := 2) (by decide) (by decide) k
            have e8_3 : ∀ k, tg t8 (sr sh r0 3) k = tg t1 (sr sh r0 3) k := fun k => f8.eq q0 (i := 3) (by decide) (by decide) k
            have e8_4 : ∀ k, tg t8 (sr sh r0 4) k = tg t1 (sr sh r0 4) k := fun k => f8.eq q0 (i := 4) (by decide) (by decide) k
            have e8_10 : ∀ k, tg t8 (sr sh r0 10) k = tg t1 (sr sh r0 10) k := fun k => f8.eq q0 (i := 10) (by decide) (by decide) k
            have e8_11 : ∀ k, tg t8 (sr sh r0 11) k = tg t1 (sr sh r0 11) k := fun k => f8.eq q0 (i := 11) (by decide) (by decide) k
            try simp only [zt0, zt1, zt2, zt3, zt4, zt5, zt6, e0_2, e0_3, e0_4, e0_10, e0_11, e8_2, e8_3, e8_4, e8_10, e8_11] at p8
            have g9_1 := And.intro (tg_lo t8 r0 16) (tg_hi t8 r0 16)
            try simp only [zput_s, zput_n, ti_g, oI_add, oI_sub, oI_mul]
            rw [b140_40 (o7 := o7) (wo7 := wo7) (o8 := o8) (wo8 := wo8) (o9 := o9) (wo9 := wo9)]
            try simp only [zput_s, zput_n, ti_g, oI_add, oI_sub, oI_mul]
            first | refine zok_eq (by omega) (fun c10 => ?_) (fun c10 => ?_) | refine zok_if (fun c10 => ?_) (fun c10 => ?_)
            · try simp only [zput_s, zput_n, ti_g, oI_add, oI_sub, oI_mul]
              exact ih.2 _ _ _ _ _ (by first | rfl | assumption) _ ((FrV.trans (Ns := [0, 14]) (f0) f8 (by decide) (by decide))) (by first | omega | ((try simp only [zt0, zt1, zt2, zt3, zt4, zt5, zt6, e0_2, e0_3, e0_4, e0_10, e0_11, e8_2, e8_3, e8_4, e8_10, e8_11]); omega)) (by first | omega | ((try simp only [zt0, zt1, zt2, zt3, zt4, zt5, zt6, e0_2, e0_3, e0_4, e0_10, e0_11, e8_2, e8_3, e8_4, e8_10, e8_11]); omega))
            · refine zok_ck ((q0).1) ?_
              refine zok_ck ((q0).1) ?_
              obtain ⟨w11, wa11, wb11, we11⟩ := oI_nf ((Int32.toUInt32 (ti t8 r0 16) >>> (Int32.toUInt32 (oI 16) &&& Int32.toUInt32 31)).toInt32)
              try simp only [zput_s, zput_n, ti_g, oI_add, oI_sub, oI_mul] at we11
              try rw [we11]
              refine zok_c0 (s141 (q0) (by omega) (by first | (omega) | ((try simp only [zt0, zt1, zt2, zt3, zt4, zt5, zt6, e0_2, e0_3, e0_4, e0_10, e0_11, e8_2, e8_3, e8_4, e8_10, e8_11]); omega)) (f8.g)) (fun t12 p12 => ?_)
              obtain ⟨f12, p12⟩ := p12
              have e12_2 : ∀ k, tg t12 (sr sh r0 2) k = tg t8 (sr sh r0 2) k := fun k => f12.eq q0 (i := 2) (by decide) (by decide) k
              have e12_3 : ∀ k, tg t12 (sr sh r0 3) k = tg t8 (sr sh r0 3) k := fun k => f12.eq q0 (i := 3) (by decide) (by decide) k
              have e12_4 : ∀ k, tg t12 (sr sh r0 4) k = tg t8 (sr sh r0 4) k := fun k => f12.eq q0 (i := 4) (by decide) (by decide) k
              have e12_10 : ∀ k, tg t12 (sr sh r0 10) k = tg t8 (sr sh r0 10) k := fun k => f12.eq q0 (i := 10) (by decide) (by decide) k
              have e12_11 : ∀ k, tg t12 (sr sh r0 11) k = tg t8 (sr sh r0 11) k := fun k => f12.eq q0 (i := 11) (by decide) (by decide) k
              try simp only [zt0, zt1, zt2, zt3, zt4, zt5, zt6, e0_2, e0_3, e0_4, e0_10, e0_11, e8_2, e8_3, e8_4, e8_10, e8_11, e12_2, e12_3, e12_4, e12_10, e12_11] at p12
              have g13_1 := And.intro (tg_lo t12 r0 16) (tg_hi t12 r0 16)
              try simp only [zput_s, zput_n, ti_g, oI_add, oI_sub, oI_mul]
              rw [b140_54 (o7 := o7) (wo7 := wo7) (o8 := o8) (wo8 := wo8) (o9 := o9) (wo9 := wo9)]
              try simp only [zput_s, zput_n, ti_g, oI_add, oI_sub, oI_mul]
              refine zok_ck ((q0).1) ?_
              refine zok_ck ((q0).1) ?_
              obtain ⟨w14, wa14, wb14, we14⟩ := oI_nf ((ti t12 r0 16) &&& (oI 65535))
              try simp only [zput_s, zput_n, ti_g, oI_add, oI_sub, oI_mul] at we14
              try rw [we14]
              refine zok_c0 (s141 (q0) (by omega) (by first | (omega) | ((try simp only [zt0, zt1, zt2, zt3, zt4, zt5, zt6, e0_2, e0_3, e0_4, e0_10, e0_11, e8_2, e8_3, e8_4, e8_10, e8_11, e12_2, e12_3, e12_4, e12_10, e12_11]); omega)) (f12.g)) (fun t15 p15 => ?_)
              obtain ⟨f15, p15⟩ := p15
              have e15_2 : ∀ k, tg t15 (sr sh r0 2) k = tg t12 (sr sh r0 2) k := fun k => f15.eq q0 (i := 2) (by decide) (by decide) k
              have e15_3 : ∀ k, tg t15 (sr sh r0 3) k = tg t12 (sr sh r0 3) k := fun k => f15.eq q0 (i := 3) (by decide) (by decide) k
              have e15_4 : ∀ k, tg t15 (sr sh r0 4) k = tg t12 (sr sh r0 4) k := fun k => f15.eq q0 (i := 4) (by decide) (by decide) k
              have e15_10 : ∀ k, tg t15 (sr sh r0 10) k = tg t12 (sr sh r0 10) k := fun k => f15.eq q0 (i := 10) (by decide) (by decide) k
              have e15_11 : ∀ k, tg t15 (sr sh r0 11) k = tg t12 (sr sh r0 11) k := fun k => f15.eq q0 (i := 11) (by decide) (by decide) k
              try simp only [zt0, zt1, zt2, zt3, zt4, zt5, zt6, e0_2, e0_3, e0_4, e0_10, e0_11, e8_2, e8_3, e8_4, e8_10, e8_11, e12_2, e12_3, e12_4, e12_10, e12_11, e15_2, e15_3, e15_4, e15_10, e15_11] at p15
              try simp only [zput_s, zput_n, ti_g, oI_add, oI_sub, oI_mul]
              rw [b140_65 (o7 := o7) (wo7 := wo7) (o8 := o8) (wo8 := wo8) (o9 := o9) (wo9 := wo9)]
              try simp only [zput_s, zput_n, ti_g, oI_add, oI_sub, oI_mul]
              try simp only [zput_s, zput_n, ti_g, oI_add, oI_sub, oI_mul]
              rw [b140_141 (o7 := o7) (wo7 := wo7) (o8 := o8) (wo8 := wo8) (o9 := o9) (wo9 := wo9)]
              try simp only [zput_s, zput_n, ti_g, oI_add, oI_sub, oI_mul]
              first | refine zok_ne (by omega) (fun c18 => ?_) (fun c18 => ?_) | refine zok_if (fun c18 => ?_) (fun c18 => ?_)
              · try simp only [zput_s, zput_n, ti_g, oI_add, oI_sub, oI_mul]
                exact ih.1 _ _ _ _ _ (by first | rfl | assumption) (by first | rfl | assumption) (by first | rfl | assumption) (by first | rfl | assumption) _ ((FrV.trans (Ns := [0, 14]) ((FrV.trans (Ns := [0, 14]) ((FrV.trans (Ns := [0, 14]) (f0) f8 (by decide) (by decide))) f12 (by decide) (by decide))) f15 (by decide) (by decide))) (by first | omega | ((try simp only [zt0, zt1, zt2, zt3, zt4, zt5, zt6, e0_2, e0_3, e0_4, e0_10, e0_11, e8_2, e8_3, e8_4, e8_10, e8_11, e12_2, e12_3, e12_4, e12_10, e12_11, e15_2, e15_3, e15_4, e15_10, e15_11]); omega)) (by first | omega | ((try simp only [zt0, zt1, zt2, zt3, zt4, zt5, zt6, e0_2, e0_3, e0_4, e0_10, e0_11, e8_2, e8_3, e8_4, e8_10, e8_11, e12_2, e12_3, e12_4, e12_10, e12_11, e15_2, e15_3, e15_4, e15_10, e15_11]); omega))
              · first | exact qI_rt (by omega) (by omega) ⟨(FrV.trans (Ns := [0, 14]) ((FrV.trans (Ns := [0, 14]) ((FrV.trans (Ns := [0, 14]) (f0) f8 (by decide) (by decide))) f12 (by decide) (by decide))) f15 (by decide) (by decide)), by omega⟩ | exact qI_nf ⟨(FrV.trans (Ns := [0, 14]) ((FrV.trans (Ns := [0, 14]) ((FrV.trans (Ns := [0, 14]) (f0) f8 (by decide) (by decide))) f12 (by decide) (by decide))) f15 (by decide) (by decide)), by omega⟩
    · intro x5 x6 v7 x8 o9 wo9 t1 f0 hv hm
      obtain ⟨x7, a7, b7, rfl⟩ := oI_nf v7
      have ha0_1 : (sk sh (sr sh r0 1)).2 = 21000 := by rw [q0.2.2.2.2.1]
      have ha0_2 : (sk sh (sr sh r0 2)).2 = 14 := by rw [q0.2.2.2.2.2.1]
      have ha0_3 : (sk sh (sr sh r0 3)).2 = 98 := by rw [q0.2.2.2.2.2.2.1]
      have ha0_4 : (sk sh (sr sh r0 4)).2 = 98 := by rw [q0.2.2.2.2.2.2.2.1]
      have ha0_8 : (sk sh (sr sh r0 8)).2 = 1500 := by rw [q0.2.2.2.2.2.2.2.2.1]
      have ha0_9 : (sk sh (sr sh r0 9)).2 = 10500 := by rw [q0.2.2.2.2.2.2.2.2.2.1]
      have ha0_10 : (sk sh (sr sh r0 10)).2 = 7 := by rw [q0.2.2.2.2.2.2.2.2.2.2.1]
      have ha0_11 : (sk sh (sr sh r0 11)).2 = 7 := by rw [q0.2.2.2.2.2.2.2.2.2.2.2.1]
      have ha0_12 : (sk sh (sr sh r0 12)).2 = 1500 := by rw [q0.2.2.2.2.2.2.2.2.2.2.2.2.1]
      have ha0_13 : (sk sh (sr sh r0 13)).2 = 1500 := by rw [q0.2.2.2.2.2.2.2.2.2.2.2.2.2.1]
      have ha0_14 : (sk sh (sr sh r0 14)).2 = 20 := by rw [q0.2.2.2.2.2.2.2.2.2.2.2.2.2.2]
      have e0_2 : ∀ k, tg t1 (sr sh r0 2) k = tg t0 (sr sh r0 2) k := fun k => f0.eq q0 (i := 2) (by decide) (by decide) k
      have e0_3 : ∀ k, tg t1 (sr sh r0 3) k = tg t0 (sr sh r0 3) k := fun k => f0.eq q0 (i := 3) (by decide) (by decide) k
      have e0_4 : ∀ k, tg t1 (sr sh r0 4) k = tg t0 (sr sh r0 4) k := fun k => f0.eq q0 (i := 4) (by decide) (by decide) k
      have e0_10 : ∀ k, tg t1 (sr sh r0 10) k = tg t0 (sr sh r0 10) k := fun k => f0.eq q0 (i := 10) (by decide) (by decide) k
      have e0_11 : ∀ k, tg t1 (sr sh r0 11) k = tg t0 (sr sh r0 11) k := fun k => f0.eq q0 (i := 11) (by decide) (by decide) k
      try simp only [zt0, zt1, zt2, zt3, zt4, zt5, zt6, e0_2, e0_3, e0_4, e0_10, e0_11] at hv
      try simp only [zt0, zt1, zt2, zt3, zt4, zt5, zt6, e0_2, e0_3, e0_4, e0_10, e0_11] at hm
      try simp only [zput_s, zput_n, ti_g, oI_add, oI_sub, oI_mul]
      rw [b140_75 (o9 := o9) (wo9 := wo9)]
      try simp only [zput_s, zput_n, ti_g, oI_add, oI_sub, oI_mul]
      first | refine zok_le (by omega) (fun c2 => ?_) (fun c2 => ?_) | refine zok_if (fun c2 => ?_) (fun c2 => ?_)
      · first | refine zok_ne (by omega) (fun c3 => ?_) (fun c3 => ?_) | refine zok_if (fun c3 => ?_) (fun c3 => ?_)
        · refine zok_ck ((q0).1) ?_
          refine zok_c0 (s141 (q0) (by omega) (by first | (omega) | ((try simp only [zt0, zt1, zt2, zt3, zt4, zt5, zt6, e0_2, e0_3, e0_4, e0_10, e0_11]); omega)) (f0.g)) (fun t4 p4 => ?_)
          obtain ⟨f4, p4⟩ := p4
          have e4_2 : ∀ k, tg t4 (sr sh r0 2) k = tg t1 (sr sh r0 2) k := fun k => f4.eq q0 (i := 2) (by decide) (by decide) k
          have e4_3 : ∀ k, tg t4 (sr sh r0 3) k = tg t1 (sr sh r0 3) k := fun k => f4.eq q0 (i := 3) (by decide) (by decide) k
          have e4_4 : ∀ k, tg t4 (sr sh r0 4) k = tg t1 (sr sh r0 4) k := fun k => f4.eq q0 (i := 4) (by decide) (by decide) k
          have e4_10 : ∀ k, tg t4 (sr sh r0 10) k = tg t1 (sr sh r0 10) k := fun k => f4.eq q0 (i := 10) (by decide) (by decide) k
          have e4_11 : ∀ k, tg t4 (sr sh r0 11) k = tg t1 (sr sh r0 11) k := fun k => f4.eq q0 (i := 11) (by decide) (by decide) k
          try simp only [zt0, zt1, zt2, zt3, zt4, zt5, zt6, e0_2, e0_3, e0_4, e0_10, e0_11, e4_2, e4_3, e4_4, e4_10, e4_11] at p4
          try simp only [zput_s, zput_n, ti_g, oI_add, oI_sub, oI_mul]
          rw [b140_141 (o7 := some (zI (oI (x7)))) (wo7 := rfl) (o8 := some (zI (oI (x8)))) (wo8 := rfl) (o9 := o9) (wo9 := wo9)]
          try simp only [zput_s, zput_n, ti_g, oI_add, oI_sub, oI_mul]
          first | refine zok_ne (by omega) (fun c6 => ?_) (fun c6 => ?_) | refine zok_if (fun c6 => ?_) (fun c6 => ?_)
          · try simp only [zput_s, zput_n, ti_g, oI_add, oI_sub, oI_mul]
            exact ih.1 _ _ _ _ _ (by first | rfl | assumption) (by first | rfl | assumption) (by first | rfl | assumption) (by first | rfl | assumption) _ ((FrV.trans (Ns := [0, 14]) (f0) f4 (by decide) (by decide))) (by first | omega | ((try simp only [zt0, zt1, zt2, zt3, zt4, zt5, zt6, e0_2, e0_3, e0_4, e0_10, e0_11, e4_2, e4_3, e4_4, e4_10, e4_11]); omega)) (by first | omega | ((try simp only [zt0, zt1, zt2, zt3, zt4, zt5, zt6, e0_2, e0_3, e0_4, e0_10, e0_11, e4_2, e4_3, e4_4, e4_10, e4_11]); omega))
          · first | exact qI_rt (by omega) (by omega) ⟨(FrV.trans (Ns := [0, 14]) (f0) f4 (by decide) (by decide)), by omega⟩ | exact qI_nf ⟨(FrV.trans (Ns := [0, 14]) (f0) f4 (by decide) (by decide)), by omega⟩
        · first | exact qI_rt (by omega) (by omega) ⟨f0, by omega⟩ | exact qI_nf ⟨f0, by omega⟩
      · refine zok_ck ((q0).1) ?_
        refine zok_pI (s128 (q0) (by omega) (by omega) (by first | (omega) | ((try simp only [zt0, zt1, zt2, zt3, zt4, zt5, zt6, e0_2, e0_3, e0_4, e0_10, e0_11]); omega)) (f0.g)) (fun y7 u7 p7 => ?_)
        try simp only [zt0, zt1, zt2, zt3, zt4, zt5, zt6, e0_2, e0_3, e0_4, e0_10, e0_11] at p7
        try simp only [zput_s, zput_n, ti_g, oI_add, oI_sub, oI_mul]
        rw [b140_89 (o9 := o9) (wo9 := wo9)]
        try simp only [zput_s, zput_n, ti_g, oI_add, oI_sub, oI_mul]
        refine zok_pI (s125 (by omega)) (fun y9 u9 p9 => ?_)
        try simp only [zt0, zt1, zt2, zt3, zt4, zt5, zt6, e0_2, e0_3, e0_4, e0_10, e0_11] at p9
        try simp only [zput_s, zput_n, ti_g, oI_add, oI_sub, oI_mul]
        rw [b140_92 (o9 := o9) (wo9 := wo9)]
        try simp only [zput_s, zput_n, ti_g, oI_add, oI_sub, oI_mul]
        first | refine zok_lt (by omega) (fun c11 => ?_) (fun c11 => ?_) | refine zok_if (fun c11 => ?_) (fun c11 => ?_)
        · first | exact qI_rt (by omega) (by omega) ⟨f0, by omega⟩ | exact qI_nf ⟨f0, by omega⟩
        · first | refine zok_le (by omega) (fun c12 => ?_) (fun c12 => ?_) | refine zok_if (fun c12 => ?_) (fun c12 => ?_)
          · try simp only [zput_s, zput_n, ti_g, oI_add, oI_sub, oI_mul]
            exact ih.2 _ _ _ _ _ (by first | rfl | assumption) _ (f0) (by first | omega | ((try simp only [zt0, zt1, zt2, zt3, zt4, zt5, zt6, e0_2, e0_3, e0_4, e0_10, e0_11]); omega)) (by first | omega | ((try simp only [zt0, zt1, zt2, zt3, zt4, zt5, zt6, e0_2, e0_3, e0_4, e0_10, e0_11]); omega))
          · first | exact qI_rt (by omega) (by omega) ⟨f0, by omega⟩ | exact qI_nf ⟨f0, by omega⟩
theorem l140_3 {sh : zSh} {t0 : zSt} {MB : Nat} {r0 : Nat} (q0 : zMd sh MB r0) {x1 : Int} (u1 : -2147483648 ≤ x1 ∧ x1 ≤ 2147483647) {x2 : Int} (u2 : -2147483648 ≤ x2 ∧ x2 ≤ 2147483647) {x3 : Int} (u3 : -2147483648 ≤ x3 ∧ x3 ≤ 2147483647) {x4 : Int} (u4 : -2147483648 ≤ x4 ∧ x4 ≤ 2147483647) (d1 : 0 ≤ x1 ∧ x1 ≤ 13) (d2 : 0 ≤ x2 ∧ x2 ≤ 4000) (d3 : -2 ≤ x3 ∧ x3 ≤ 4000) (d4 : tg t0 r0 15 ≤ 20000) (G : GI sh r0 t0) : ∀ (n : Nat) (x5 : Int) (o6 : Option zV) (o7 : Option zV) (o8 : Option zV) (o9 : Option zV) (wo6 : zisL o6 = false) (wo7 : zisL o7 = false) (wo8 : zisL o8 = false) (wo9 : zisL o9 = false) (t1 : zSt), FrV sh r0 [0, 14] t0 t1 → (-2147483648 ≤ x5 ∧ x5 ≤ 2147483647) ∧ (x2 ≤ x5 ∧ (x5 ≤ x3 + 1 ∨ x5 = x2)) ∧ (tg t0 r0 15 ≤ tg t1 r0 15 ∧ tg t1 r0 15 ≤ tg t0 r0 15 + 2 * (x5 - x2)) → (10000 * (x3 - x5) + 9000).toNat < n → zok (zev zP 140 3 [some (zR r0), some (zI (oI x1)), some (zI (oI x2)), some (zI (oI x3)), some (zI (oI x4)), some (zI (oI x5)), o6, o7, o8, o9] [] (sh, t1)) (qI (fun x t' => FrV sh r0 [0, 14] t0 t' ∧ ((x = 0 ∨ x = 1) ∧ tg t0 r0 15 ≤ tg t' r0 15 ∧ tg t' r0 15 ≤ tg t0 r0 15 + 10000 ∧ (x = 1 → tg t' r0 15 ≤ 8))) sh) := fun n => (l140_J  q0 u1 u2 u3 u4 d1 d2 d3 d4 G n).1
theorem l140_75 {sh : zSh} {t0 : zSt} {MB : Nat} {r0 : Nat} (q0 : zMd sh MB r0) {x1 : Int} (u1 : -2147483648 ≤ x1 ∧ x1 ≤ 2147483647) {x2 : Int} (u2 : -2147483648 ≤ x2 ∧ x2 ≤ 2147483647) {x3 : Int} (u3 : -2147483648 ≤ x3 ∧ x3 ≤ 2147483647) {x4 : Int} (u4 : -2147483648 ≤ x4 ∧ x4 ≤ 2147483647) (d1 : 0 ≤ x1 ∧ x1 ≤ 13) (d2 : 0 ≤ x2 ∧ x2 ≤ 4000) (d3 : -2 ≤ x3 ∧ x3 ≤ 4000) (d4 : tg t0 r0 15 ≤ 20000) (G : GI sh r0 t0) : ∀ (n : Nat) (x5 : Int) (x6 : Int) (v7 : Int32) (x8 : Int) (o9 : Option zV) (wo9 : zisL o9 = false) (t1 : zSt), FrV sh r0 [0, 14] t0 t1 → (-2147483648 ≤ x5 ∧ x5 ≤ 2147483647) ∧ (-2147483648 ≤ x6 ∧ x6 ≤ 2147483647) ∧ (-2147483648 ≤ x8 ∧ x8 ≤ 2147483647) ∧ (x2 ≤ x5 ∧ x5 < x3 ∧ x5 ≤ x6 ∧ x6 ≤ x3 ∧ x5 ≤ x8 ∧ (x8 ≤ x6 ∨ x8 = x5)) ∧ (tg t0 r0 15 ≤ tg t1 r0 15 ∧ tg t1 r0 15 ≤ tg t0 r0 15 + 2 * (x5 - x2)) → (10000 * (x3 - x5) + (x6 - x8)).toNat < n → zok (zev zP 140 75 [some (zR r0), some (zI (oI x1)), some (zI (oI x2)), some (zI (oI x3)), some (zI (oI x4)), some (zI (oI x5)), some (zI (oI x6)), some (zI v7), some (zI (oI x8)), o9] [] (sh, t1)) (qI (fun x t' => FrV sh r0 [0, 14] t0 t' ∧ ((x = 0 ∨ x = 1) ∧ tg t0 r0 15 ≤ tg t' r0 15 ∧ tg t' r0 15 ≤ tg t0 r0 15 + 10000 ∧ (x = 1 → tg t' r0 15 ≤ 8))) sh) := fun n => (l140_J  q0 u1 u2 u3 u4 d1 d2 d3 d4 G n).2
theorem s140 {sh : zSh} {t : zSt} {MB : Nat} {r0 : Nat} (q0 : zMd sh MB r0) {x1 : Int} (u1 : -2147483648 ≤ x1 ∧ x1 ≤ 2147483647) {x2 : Int} (u2 : -2147483648 ≤ x2 ∧ x2 ≤ 2147483647) {x3 : Int} (u3 : -2147483648 ≤ x3 ∧ x3 ≤ 2147483647) {x4 : Int} (u4 : -2147483648 ≤ x4 ∧ x4 ≤ 2147483647) (d1 : 0 ≤ x1 ∧ x1 ≤ 13) (d2 : 0 ≤ x2 ∧ x2 ≤ 4000) (d3 : -2 ≤ x3 ∧ x3 ≤ 4000) (d4 : tg t r0 15 ≤ 20000) (G : GI sh r0 t) : zok (zcl zP 140 [zR r0, zI (oI x1), zI (oI x2), zI (oI x3), zI (oI x4)] (sh, t)) (qI (fun x t' => FrV sh r0 [0, 14] t t' ∧ ((x = 0 ∨ x = 1) ∧ tg t r0 15 ≤ tg t' r0 15 ∧ tg t' r0 15 ≤ tg t r0 15 + 10000 ∧ (x = 1 → tg t' r0 15 ≤ 8))) sh) := by
  have ha0_1 : (sk sh (sr sh r0 1)).2 = 21000 := by rw [q0.2.2.2.2.1]
  have ha0_2 : (sk sh (sr sh r0 2)).2 = 14 := by rw [q0.2.2.2.2.2.1]
  have ha0_3 : (sk sh (sr sh r0 3)).2 = 98 := by rw [q0.2.2.2.2.2.2.1]
  have ha0_4 : (sk sh (sr sh r0 4)).2 = 98 := by rw [q0.2.2.2.2.2.2.2.1]
  have ha0_8 : (sk sh (sr sh r0 8)).2 = 1500 := by rw [q0.2.2.2.2.2.2.2.2.1]
  have ha0_9 : (sk sh (sr sh r0 9)).2 = 10500 := by rw [q0.2.2.2.2.2.2.2.2.2.1]
  have ha0_10 : (sk sh (sr sh r0 10)).2 = 7 := by rw [q0.2.2.2.2.2.2.2.2.2.2.1]
  have ha0_11 : (sk sh (sr sh r0 11)).2 = 7 := by rw [q0.2.2.2.2.2.2.2.2.2.2.2.1]
  have ha0_12 : (sk sh (sr sh r0 12)).2 = 1500 := by rw [q0.2.2.2.2.2.2.2.2.2.2.2.2.1]
  have ha0_13 : (sk sh (sr sh r0 13)).2 = 1500 := by rw [q0.2.2.2.2.2.2.2.2.2.2.2.2.2.1]
  have ha0_14 : (sk sh (sr sh r0 14)).2 = 20 := by rw [q0.2.2.2.2.2.2.2.2.2.2.2.2.2.2]
  rw [b140_0]
  try simp only [zput_s, zput_n, ti_g, oI_add, oI_sub, oI_mul]
  try simp only [zput_s, zput_n, ti_g, oI_add, oI_sub, oI_mul]
  exact l140_3 q0 (by omega) (by omega) (by omega) (by omega) d1 d2 d3 d4 G _ _ _ _ _ _ (by first | rfl | assumption) (by first | rfl | assumption) (by first | rfl | assumption) (by first | rfl | assumption) _ (FrV.refl G) (by first | omega | ((try simp only [zt0, zt1, zt2, zt3, zt4, zt5, zt6]); omega)) (Nat.lt_succ_self _)
/-! X9_isSix -/
theorem l142_137 {sh : zSh} {t0 : zSt} {MB : Nat} {r0 : Nat} (q0 : zMd sh MB r0) {x1 : Int} (u1 : -2147483648 ≤ x1 ∧ x1 ≤ 2147483647) {x2 : Int} (u2 : -2147483648 ≤ x2 ∧ x2 ≤ 2147483647) {x3 : Int} (u3 : -2147483648 ≤ x3 ∧ x3 ≤ 2147483647) (d1 : 0 ≤ x1 ∧ x1 ≤ 13) (d2 : 0 ≤ x2 ∧ x2 ≤ 4000) (d3 : -2 ≤ x3 ∧ x3 ≤ 4000) (G : GI sh r0 t0) : ∀ (n : Nat) (x4 : Int) (x5 : Int) (x6 : Int) (x7 : Int) (o8 : Option zV) (wo8 : zisL o8 = false) (t1 : zSt), FrV sh r0 [0, 14] t0 t1 → (-2147483648 ≤ x4 ∧ x4 ≤ 2147483647) ∧ (-2147483648 ≤ x5 ∧ x5 ≤ 2147483647) ∧ (-2147483648 ≤ x6 ∧ x6 ≤ 2147483647) ∧ (-2147483648 ≤ x7 ∧ x7 ≤ 2147483647) ∧ (0 ≤ x5 ∧ x5 ≤ x6 ∧ x6 ≤ 7 ∧ -1 ≤ x7 ∧ x7 ≤ 7) → (x7 - x5 + 1).toNat < n → zok (zev zP 142 137 [some (zR r0), some (zI (oI x1)), some (zI (oI x2)), some (zI (oI x3)), some (zI (oI x4)), some (zI (oI x5)), some (zI (oI x6)), some (zI (oI x7)), o8] [] (sh, t1)) (qI (fun x t' => FrV sh r0 [0, 14] t0 t' ∧ (x = 0 ∨ x = 1)) sh) := by
  intro n
  induction n with
  | zero => intro x4 x5 x6 x7 o8 wo8 t1 f0 _ hm; omega
  | succ n ih =>
    intro x4 x5 x6 x7 o8 wo8 t1 f0 hv hm
    have ha0_1 : (sk sh (sr sh r0 1)).2 = 21000 := by rw [q0.2.2.2.2.1]
    have ha0_2 : (sk sh (sr sh r0 2)).2 = 14 := by rw [q0.2.2.2.2.2.1]
    have ha0_3 : (sk sh (sr sh r0 3)).2 = 98 := by rw [q0.2.2.2.2.2.2.1]
    have ha0_4 : (sk sh (sr sh r0 4)).2 = 98 := by rw [q0.2.2.2.2.2.2.2.1]
    have ha0_8 : (sk sh (sr sh r0 8)).2 = 1500 := by rw [q0.2.2.2.2.2.2.2.2.1]
    have ha0_9 : (sk sh (sr sh r0 9)).2 = 10500 := by rw [q0.2.2.2.2.2.2.2.2.2.1]
    have ha0_10 : (sk sh (sr sh r0 10)).2 = 7 := by rw [q0.2.2.2.2.2.2.2.2.2.2.1]
    have ha0_11 : (sk sh (sr sh r0 11)).2 = 7 := by rw [q0.2.2.2.2.2.2.2.2.2.2.2.1]
    have ha0_12 : (sk sh (sr sh r0 12)).2 = 1500 := by rw [q0.2.2.2.2.2.2.2.2.2.2.2.2.1]
    have ha0_13 : (sk sh (sr sh r0 13)).2 = 1500 := by rw [q0.2.2.2.2.2.2.2.2.2.2.2.2.2.1]
    have ha0_14 : (sk sh (sr sh r0 14)).2 = 20 := by rw [q0.2.2.2.2.2.2.2.2.2.2.2.2.2.2]
    have e0_2 : ∀ k, tg t1 (sr sh r0 2) k = tg t0 (sr sh r0 2) k := fun k => f0.eq q0 (i := 2) (by decide) (by decide) k
    have e0_3 : ∀ k, tg t1 (sr sh r0 3) k = tg t0 (sr sh r0 3) k := fun k => f0.eq q0 (i := 3) (by decide) (by decide) k
    have e0_4 : ∀ k, tg t1 (sr sh r0 4) k = tg t0 (sr sh r0 4) k := fun k => f0.eq q0 (i := 4) (by decide) (by decide) k
    have e0_10 : ∀ k, tg t1 (sr sh r0 10) k = tg t0 (sr sh r0 10) k := fun k => f0.eq q0 (i := 10) (by decide) (by decide) k
    have e0_11 : ∀ k, tg t1 (sr sh r0 11) k = tg t0 (sr sh r0 11) k := fun k => f0.eq q0 (i := 11) (by decide) (by decide) k
    try simp only [zt0, zt1, zt2, zt3, zt4, zt5, zt6, e0_2, e0_3, e0_4, e0_10, e0_11] at hv
    try simp only [zt0, zt1, zt2, zt3, zt4, zt5, zt6, e0_2, e0_3, e0_4, e0_10, e0_11] at hm
    try simp only [zput_s, zput_n, ti_g, oI_add, oI_sub, oI_mul]
    rw [b142_137 (o8 := o8) (wo8 := wo8)]
    try simp only [zput_s, zput_n, ti_g, oI_add, oI_sub, oI_mul]
    first | refine zok_lt (by omega) (fun c2 => ?_) (fun c2 => ?_) | refine zok_if (fun c2 => ?_) (fun c2 => ?_)
    · first | exact qI_rt (by omega) (by omega) ⟨f0, by omega⟩ | exact qI_nf ⟨f0, by omega⟩
    · refine zok_ck ((q0).1) ?_
      first | refine zok_lt (by omega) (fun c3 => ?_) (fun c3 => ?_) | refine zok_if (fun c3 => ?_) (fun c3 => ?_)
      · simp only [zput_s, zput_n, ti_g, oI_add, oI_sub, oI_mul, zt0, zt1, zt2, zt3, zt4, zt5, zt6, e0_2, e0_3, e0_4, e0_10, e0_11, b142_178]
        try simp only [zput_s, zput_n, ti_g, oI_add, oI_sub, oI_mul]
        refine zok_ck ⟨(by rw [(q0).2.2.2.2.2.2.2.2.2.2.2.2.2.2]), zin_o (by omega) (by omega) (by omega)⟩ ?_
        try rw [nN_o (a := x7) (by omega) (by omega)]
        try simp only [zput_s, zput_n, ti_g, oI_add, oI_sub, oI_mul, zt0, zt1, zt2, zt3, zt4, zt5, zt6, e0_2, e0_3, e0_4, e0_10, e0_11]
        obtain ⟨t5, ht5⟩ : ∃ t', t' = tI t1 (sr sh r0 14) ((x7).toNat) (oI (0)) := ⟨_, rfl⟩
        try simp only [zt0, zt1, zt2, zt3, zt4, zt5, zt6, e0_2, e0_3, e0_4, e0_10, e0_11] at ht5
        rw [← ht5]
        have f5 : FrV sh r0 [14] t1 t5 := by rw [ht5]; exact GI_free q0 (f0.g) (by decide)
        have w5 : ∀ k, tg t5 (sr sh r0 14) k = if k = (x7).toNat then 0 else tg t1 (sr sh r0 14) k := fun k => by rw [ht5]; refine (tg_at (by omega)).trans ?_; first | rfl | simp only [zt0, zt1, zt2, zt3, zt4, zt5, zt6, e0_2, e0_3, e0_4, e0_10, e0_11, true_and]
        have ws5 : tg t5 (sr sh r0 14) ((x7).toNat) = 0 := by rw [w5, if_pos rfl]
        try simp only [zt0, zt1, zt2, zt3, zt4, zt5, zt6, e0_2, e0_3, e0_4, e0_10, e0_11] at w5
        try simp only [zt0, zt1, zt2, zt3, zt4, zt5, zt6, e0_2, e0_3, e0_4, e0_10, e0_11] at ws5
        have e5_2 : ∀ k, tg t5 (sr sh r0 2) k = tg t1 (sr sh r0 2) k := fun k => f5.eq q0 (i := 2) (by decide) (by decide) k
        have e5_3 : ∀ k, tg t5 (sr sh r0 3) k = tg t1 (sr sh r0 3) k := fun k => f5.eq q0 (i := 3) (by decide) (by decide) k
        have e5_4 : ∀ k, tg t5 (sr sh r0 4) k = tg t1 (sr sh r0 4) k := fun k => f5.eq q0 (i := 4) (by decide) (by decide) k
        have e5_10 : ∀ k, tg t5 (sr sh r0 10) k = tg t1 (sr sh r0 10) k := fun k => f5.eq q0 (i := 10) (by decide) (by decide) k
        have e5_11 : ∀ k, tg t5 (sr sh r0 11) k = tg t1 (sr sh r0 11) k := fun k => f5.eq q0 (i := 11) (by decide) (by decide) k
        have d5_15 : tg t5 r0 15 = tg t1 r0 15 := f5.eq q0 (i := 0) (by decide) (by decide) 15
        try simp only [zput_s, zput_n, ti_g, oI_add, oI_sub, oI_mul]
        exact ih _ _ _ _ _ (by first | rfl | assumption) _ ((FrV.trans (Ns := [0, 14]) (f0) f5 (by decide) (by decide))) (by first | omega | ((try simp only [zt0, zt1, zt2, zt3, zt4, zt5, zt6, e0_2, e0_3, e0_4, e0_10, e0_11, e5_2, e5_3, e5_4, e5_10, e5_11]); omega)) (by first | omega | ((try simp only [zt0, zt1, zt2, zt3, zt4, zt5, zt6, e0_2, e0_3, e0_4, e0_10, e0_11, e5_2, e5_3, e5_4, e5_10, e5_11]); omega))
      · refine zok_ck ((q0).1) ?_
        refine zok_ck ⟨(by rw [(q0).2.2.2.2.2.2.2.2.2.2.2.2.2.2]), zin_o (by omega) (by omega) (by omega)⟩ ?_
        try rw [nN_o (a := (x7) - ((8) - (x6))) (by omega) (by omega)]
        try simp only [zput_s, zput_n, ti_g, oI_add, oI_sub, oI_mul, zt0, zt1, zt2, zt3, zt4, zt5, zt6, e0_2, e0_3, e0_4, e0_10, e0_11]
        have gl6 := And.intro (tg_lo t1 (sr sh r0 14) (((x7) - ((8) - (x6))).toNat)) (tg_hi t1 (sr sh r0 14) (((x7) - ((8) - (x6))).toNat))
        try simp only [zt0, zt1, zt2, zt3, zt4, zt5, zt6, e0_2, e0_3, e0_4, e0_10, e0_11] at gl6
        simp only [zput_s, zput_n, ti_g, oI_add, oI_sub, oI_mul, zt0, zt1, zt2, zt3, zt4, zt5, zt6, e0_2, e0_3, e0_4, e0_10, e0_11, b142_178]
        try simp only [zput_s, zput_n, ti_g, oI_add, oI_sub, oI_mul]
        refine zok_ck ⟨(by rw [(q0).2.2.2.2.2.2.2.2.2.2.2.2.2.2]), zin_o (by omega) (by omega) (by omega)⟩ ?_
        try rw [nN_o (a := x7) (by omega) (by omega)]
        try simp only [zput_s, zput_n, ti_g, oI_add, oI_sub, oI_mul, zt0, zt1, zt2, zt3, zt4, zt5, zt6, e0_2, e0_3, e0_4, e0_10, e0_11]
        obtain ⟨t8, ht8⟩ : ∃ t', t' = tI t1 (sr sh r0 14) ((x7).toNat) (oI (tg t1 (sr sh r0 14) (((x7) - ((8) - (x6))).toNat))) := ⟨_, rfl⟩
        try simp only [zt0, zt1, zt2, zt3, zt4, zt5, zt6, e0_2, e0_3, e0_4, e0_10, e0_11] at ht8
        rw [← ht8]
        have f8 : FrV sh r0 [14] t1 t8 := by rw [ht8]; exact GI_free q0 (f0.g) (by decide)
        have w8 : ∀ k, tg t8 (sr sh r0 14) k = if k = (x7).toNat then tg t1 (sr sh r0 14) (((x7) - ((8) - (x6))).toNat) else tg t1 (sr sh r0 14) k := fun k => by rw [ht8]; refine (tg_at (by omega)).trans ?_; first | rfl | simp only [zt0, zt1, zt2, zt3, zt4, zt5, zt6, e0_2, e0_3, e0_4, e0_10, e0_11, true_and]
        have ws8 : tg t8 (sr sh r0 14) ((x7).toNat) = tg t1 (sr sh r0 14) (((x7) - ((8) - (x6))).toNat) := by rw [w8, if_pos rfl]
        try simp only [zt0, zt1, zt2, zt3, zt4, zt5, zt6, e0_2, e0_3, e0_4, e0_10, e0_11] at w8
        try simp only [zt0, zt1, zt2, zt3, zt4, zt5, zt6, e0_2, e0_3, e0_4, e0_10, e0_11] at ws8
        have e8_2 : ∀ k, tg t8 (sr sh r0 2) k = tg t1 (sr sh r0 2) k := fun k => f8.eq q0 (i := 2) (by decide) (by decide) k
        have e8_3 : ∀ k, tg t8 (sr sh r0 3) k = tg t1 (sr sh r0 3) k := fun k => f8.eq q0 (i := 3) (by decide) (by decide) k
        have e8_4 : ∀ k, tg t8 (sr sh r0 4) k = tg t1 (sr sh r0 4) k := fun k => f8.eq q0 (i := 4) (by decide) (by decide) k
        have e8_10 : ∀ k, tg t8 (sr sh r0 10) k = tg t1 (sr sh r0 10) k := fun k => f8.eq q0 (i := 10) (by decide) (by decide) k
        have e8_11 : ∀ k, tg t8 (sr sh r0 11) k = tg t1 (sr sh r0 11) k := fun k => f8.eq q0 (i := 11) (by decide) (by decide) k
        have d8_15 : tg t8 r0 15 = tg t1 r0 15 := f8.eq q0 (i := 0) (by decide) (by decide) 15
        try simp only [zput_s, zput_n, ti_g, oI_add, oI_sub, oI_mul]
        exact ih _ _ _ _ _ (by first | rfl | assumption) _ ((FrV.trans (Ns := [0, 14]) (f0) f8 (by decide) (by decide))) (by first | omega | ((try simp only [zt0, zt1, zt2, zt3, zt4, zt5, zt6, e0_2, e0_3, e0_4, e0_10, e0_11, e8_2, e8_3, e8_4, e8_10, e8_11]); omega)) (by first | omega | ((try simp only [zt0, zt1, zt2, zt3, zt4, zt5, zt6, e0_2, e0_3, e0_4, e0_10, e0_11, e8_2, e8_3, e8_4, e8_10, e8_11]); omega))
theorem l142_8 {sh : zSh} {t0 : zSt} {MB : Nat} {r0 : Nat} (q0 : zMd sh MB r0) {x1 : Int} (u1 : -2147483648 ≤ x1 ∧ x1 ≤ 2147483647) {x2 : Int} (u2 : -2147483648 ≤ x2 ∧ x2 ≤ 2147483647) {x3 : Int} (u3 : -2147483648 ≤ x3 ∧ x3 ≤ 2147483647) (d1 : 0 ≤ x1 ∧ x1 ≤ 13) (d2 : 0 ≤ x2 ∧ x2 ≤ 4000) (d3 : -2 ≤ x3 ∧ x3 ≤ 4000) (G : GI sh r0 t0) : ∀ (n : Nat) (x4 : Int)  (t1 : zSt), FrV sh r0 [0, 14] t0 t1 → (-2147483648 ≤ x4 ∧ x4 ≤ 2147483647) ∧ (x2 ≤ x4 ∧ (x4 ≤ x3 - 1 ∨ x4 = x2)) ∧ (tg t1 r0 15 = 0) → (x3 - 1 - x4).toNat < n → zok (zev zP 142 8 [some (zR r0), some (zI (oI x1)), some (zI (oI x2)), some (zI (oI x3)), some (zI (oI x4)), none, none, none, none] [] (sh, t1)) (qI (fun x t' => FrV sh r0 [0, 14] t0 t' ∧ (x = 0 ∨ x = 1)) sh) := by
  intro n
  induction n with
  | zero => intro x4  t1 f0 _ hm; omega
  | succ n ih =>
    intro x4  t1 f0 hv hm
    have ha0_1 : (sk sh (sr sh r0 1)).2 = 21000 := by rw [q0.2.2.2.2.1]
    have ha0_2 : (sk sh (sr sh r0 2)).2 = 14 := by rw [q0.2.2.2.2.2.1]
    have ha0_3 : (sk sh (sr sh r0 3)).2 = 98 := by rw [q0.2.2.2.2.2.2.1]
    have ha0_4 : (sk sh (sr sh r0 4)).2 = 98 := by rw [q0.2.2.2.2.2.2.2.1]
    have ha0_8 : (sk sh (sr sh r0 8)).2 = 1500 := by rw [q0.2.2.2.2.2.2.2.2.1]
    have ha0_9 : (sk sh (sr sh r0 9)).2 = 10500 := by rw [q0.2.2.2.2.2.2.2.2.2.1]
    have ha0_10 : (sk sh (sr sh r0 10)).2 = 7 := by rw [q0.2.2.2.2.2.2.2.2.2.2.1]
    have ha0_11 : (sk sh (sr sh r0 11)).2 = 7 := by rw [q0.2.2.2.2.2.2.2.2.2.2.2.1]
    have ha0_12 : (sk sh (sr sh r0 12)).2 = 1500 := by rw [q0.2.2.2.2.2.2.2.2.2.2.2.2.1]
    have ha0_13 : (sk sh (sr sh r0 13)).2 = 1500 := by rw [q0.2.2.2.2.2.2.2.2.2.2.2.2.2.1]
    have ha0_14 : (sk sh (sr sh r0 14)).2 = 20 := by rw [q0.2.2.2.2.2.2.2.2.2.2.2.2.2.2]
    have e0_2 : ∀ k, tg t1 (sr sh r0 2) k = tg t0 (sr sh r0 2) k := fun k => f0.eq q0 (i := 2) (by decide) (by decide) k
    have e0_3 : ∀ k, tg t1 (sr sh r0 3) k = tg t0 (sr sh r0 3) k := fun k => f0.eq q0 (i := 3) (by decide) (by decide) k
    have e0_4 : ∀ k, tg t1 (sr sh r0 4) k = tg t0 (sr sh r0 4) k := fun k => f0.eq q0 (i := 4) (by decide) (by decide) k
    have e0_10 : ∀ k, tg t1 (sr sh r0 10) k = tg t0 (sr sh r0 10) k := fun k => f0.eq q0 (i := 10) (by decide) (by decide) k
    have e0_11 : ∀ k, tg t1 (sr sh r0 11) k = tg t0 (sr sh r0 11) k := fun k => f0.eq q0 (i := 11) (by decide) (by decide) k
    try simp only [zt0, zt1, zt2, zt3, zt4, zt5, zt6, e0_2, e0_3, e0_4, e0_10, e0_11] at hv
    try simp only [zt0, zt1, zt2, zt3, zt4, zt5, zt6, e0_2, e0_3, e0_4, e0_10, e0_11] at hm
    rw [b142_8]
    try simp only [zput_s, zput_n, ti_g, oI_add, oI_sub, oI_mul]
    first | refine zok_le (by omega) (fun c2 => ?_) (fun c2 => ?_) | refine zok_if (fun c2 => ?_) (fun c2 => ?_)
    · first | refine zok_lt (by omega) (fun c3 => ?_) (fun c3 => ?_) | refine zok_if (fun c3 => ?_) (fun c3 => ?_)
      · refine zok_ck ((q0).1) ?_
        refine zok_cI (s140 (q0) (by omega) (by omega) (by omega) (by omega) (by first | (omega) | ((try simp only [zt0, zt1, zt2, zt3, zt4, zt5, zt6, e0_2, e0_3, e0_4, e0_10, e0_11]); omega)) (by first | (omega) | ((try simp only [zt0, zt1, zt2, zt3, zt4, zt5, zt6, e0_2, e0_3, e0_4, e0_10, e0_11]); omega)) (by first | (omega) | ((try simp only [zt0, zt1, zt2, zt3, zt4, zt5, zt6, e0_2, e0_3, e0_4, e0_10, e0_11]); omega)) (by first | (omega) | ((try simp only [zt0, zt1, zt2, zt3, zt4, zt5, zt6, e0_2, e0_3, e0_4, e0_10, e0_11]); omega)) (f0.g)) (fun y4 t4 u4 p4 => ?_)
        obtain ⟨f4, p4⟩ := p4
        have e4_2 : ∀ k, tg t4 (sr sh r0 2) k = tg t1 (sr sh r0 2) k := fun k => f4.eq q0 (i := 2) (by decide) (by decide) k
        have e4_3 : ∀ k, tg t4 (sr sh r0 3) k = tg t1 (sr sh r0 3) k := fun k => f4.eq q0 (i := 3) (by decide) (by decide) k
        have e4_4 : ∀ k, tg t4 (sr sh r0 4) k = tg t1 (sr sh r0 4) k := fun k => f4.eq q0 (i := 4) (by decide) (by decide) k
        have e4_10 : ∀ k, tg t4 (sr sh r0 10) k = tg t1 (sr sh r0 10) k := fun k => f4.eq q0 (i := 10) (by decide) (by decide) k
        have e4_11 : ∀ k, tg t4 (sr sh r0 11) k = tg t1 (sr sh r0 11) k := fun k => f4.eq q0 (i := 11) (by decide) (by decide) k
        try simp only [zt0, zt1, zt2, zt3, zt4, zt5, zt6, e0_2, e0_3, e0_4, e0_10, e0_11, e4_2, e4_3, e4_4, e4_10, e4_11] at p4
        have g5_1 := And.intro (tg_lo t4 r0 15) (tg_hi t4 r0 15)
        have gf5_1 := (f4.g).2.2.2.2
        simp only [zput_s, zput_n, ti_g, oI_add, oI_sub, oI_mul, zt0, zt1, zt2, zt3, zt4, zt5, zt6, e0_2, e0_3, e0_4, e0_10, e0_11, e4_2, e4_3, e4_4, e4_10, e4_11, b142_91]
        try simp only [zput_s, zput_n, ti_g, oI_add, oI_sub, oI_mul]
        first | refine zok_ne (by omega) (fun c6 => ?_) (fun c6 => ?_) | refine zok_if (fun c6 => ?_) (fun c6 => ?_)
        · refine zok_ck ((q0).1) ?_
          refine zok_ck ((q0).1) ?_
          refine zok_cI (s140 (q0) (by omega) (by omega) (by omega) (by omega) (by first | (omega) | ((try simp only [zt0, zt1, zt2, zt3, zt4, zt5, zt6, e0_2, e0_3, e0_4, e0_10, e0_11, e4_2, e4_3, e4_4, e4_10, e4_11]); omega)) (by first | (omega) | ((try simp only [zt0, zt1, zt2, zt3, zt4, zt5, zt6, e0_2, e0_3, e0_4, e0_10, e0_11, e4_2, e4_3, e4_4, e4_10, e4_11]); omega)) (by first | (omega) | ((try simp only [zt0, zt1, zt2, zt3, zt4, zt5, zt6, e0_2, e0_3, e0_4, e0_10, e0_11, e4_2, e4_3, e4_4, e4_10, e4_11]); omega)) (by first | (omega) | ((try simp only [zt0, zt1, zt2, zt3, zt4, zt5, zt6, e0_2, e0_3, e0_4, e0_10, e0_11, e4_2, e4_3, e4_4, e4_10, e4_11]); omega)) (f4.g)) (fun y7 t7 u7 p7 => ?_)
          obtain ⟨f7, p7⟩ := p7
          have e7_2 : ∀ k, tg t7 (sr sh r0 2) k = tg t4 (sr sh r0 2) k := fun k => f7.eq q0 (i := 2) (by decide) (by decide) k
          have e7_3 : ∀ k, tg t7 (sr sh r0 3) k = tg t4 (sr sh r0 3) k := fun k => f7.eq q0 (i := 3) (by decide) (by decide) k
          have e7_4 : ∀ k, tg t7 (sr sh r0 4) k = tg t4 (sr sh r0 4) k := fun k => f7.eq q0 (i := 4) (by decide) (by decide) k
          have e7_10 : ∀ k, tg t7 (sr sh r0 10) k = tg t4 (sr sh r0 10) k := fun k => f7.eq q0 (i := 10) (by decide) (by decide) k
          have e7_11 : ∀ k, tg t7 (sr sh r0 11) k = tg t4 (sr sh r0 11) k := fun k => f7.eq q0 (i := 11) (by decide) (by decide) k
          try simp only [zt0, zt1, zt2, zt3, zt4, zt5, zt6, e0_2, e0_3, e0_4, e0_10, e0_11, e4_2, e4_3, e4_4, e4_10, e4_11, e7_2, e7_3, e7_4, e7_10, e7_11] at p7
          have g8_1 := And.intro (tg_lo t7 r0 15) (tg_hi t7 r0 15)
          have gf8_1 := (f7.g).2.2.2.2
          simp only [zput_s, zput_n, ti_g, oI_add, oI_sub, oI_mul, zt0, zt1, zt2, zt3, zt4, zt5, zt6, e0_2, e0_3, e0_4, e0_10, e0_11, e4_2, e4_3, e4_4, e4_10, e4_11, e7_2, e7_3, e7_4, e7_10, e7_11, b142_113]
          try simp only [zput_s, zput_n, ti_g, oI_add, oI_sub, oI_mul]
          first | refine zok_eq (by omega) (fun c9 => ?_) (fun c9 => ?_) | refine zok_if (fun c9 => ?_) (fun c9 => ?_)
          · first | exact qI_rt (by omega) (by omega) ⟨(FrV.trans (Ns := [0, 14]) ((FrV.trans (Ns := [0, 14]) (f0) f4 (by decide) (by decide))) f7 (by decide) (by decide)), by omega⟩ | exact qI_nf ⟨(FrV.trans (Ns := [0, 14]) ((FrV.trans (Ns := [0, 14]) (f0) f4 (by decide) (by decide))) f7 (by decide) (by decide)), by omega⟩
          · refine zok_ck ((q0).1) ?_
            first | refine zok_le (by omega) (fun c10 => ?_) (fun c10 => ?_) | refine zok_if (fun c10 => ?_) (fun c10 => ?_)
            · refine zok_ck ((q0).1) ?_
              try simp only [zput_s, zput_n, ti_g, oI_add, oI_sub, oI_mul]
              exact l142_137 q0 (by omega) (by omega) (by omega) d1 d2 d3 G _ _ _ _ _ _ (by first | rfl | assumption) _ ((FrV.trans (Ns := [0, 14]) ((FrV.trans (Ns := [0, 14]) (f0) f4 (by decide) (by decide))) f7 (by decide) (by decide))) (by first | omega | ((try simp only [zt0, zt1, zt2, zt3, zt4, zt5, zt6, e0_2, e0_3, e0_4, e0_10, e0_11, e4_2, e4_3, e4_4, e4_10, e4_11, e7_2, e7_3, e7_4, e7_10, e7_11]); omega)) (Nat.lt_succ_self _)
            · first | exact qI_rt (by omega) (by omega) ⟨(FrV.trans (Ns := [0, 14]) ((FrV.trans (Ns := [0, 14]) (f0) f4 (by decide) (by decide))) f7 (by decide) (by decide)), by omega⟩ | exact qI_nf ⟨(FrV.trans (Ns := [0, 14]) ((FrV.trans (Ns := [0, 14]) (f0) f4 (by decide) (by decide))) f7 (by decide) (by decide)), by omega⟩
        · first | exact qI_rt (by omega) (by omega) ⟨(FrV.trans (Ns := [0, 14]) (f0) f4 (by decide) (by decide)), by omega⟩ | exact qI_nf ⟨(FrV.trans (Ns := [0, 14]) (f0) f4 (by decide) (by decide)), by omega⟩
      · refine zok_ck ((q0).1) ?_
        refine zok_cI (s140 (q0) (by omega) (by omega) (by omega) (by omega) (by first | (omega) | ((try simp only [zt0, zt1, zt2, zt3, zt4, zt5, zt6, e0_2, e0_3, e0_4, e0_10, e0_11]); omega)) (by first | (omega) | ((try simp only [zt0, zt1, zt2, zt3, zt4, zt5, zt6, e0_2, e0_3, e0_4, e0_10, e0_11]); omega)) (by first | (omega) | ((try simp only [zt0, zt1, zt2, zt3, zt4, zt5, zt6, e0_2, e0_3, e0_4, e0_10, e0_11]); omega)) (by first | (omega) | ((try simp only [zt0, zt1, zt2, zt3, zt4, zt5, zt6, e0_2, e0_3, e0_4, e0_10, e0_11]); omega)) (f0.g)) (fun y11 t11 u11 p11 => ?_)
        obtain ⟨f11, p11⟩ := p11
        have e11_2 : ∀ k, tg t11 (sr sh r0 2) k = tg t1 (sr sh r0 2) k := fun k => f11.eq q0 (i := 2) (by decide) (by decide) k
        have e11_3 : ∀ k, tg t11 (sr sh r0 3) k = tg t1 (sr sh r0 3) k := fun k => f11.eq q0 (i := 3) (by decide) (by decide) k
        have e11_4 : ∀ k, tg t11 (sr sh r0 4) k = tg t1 (sr sh r0 4) k := fun k => f11.eq q0 (i := 4) (by decide) (by decide) k
        have e11_10 : ∀ k, tg t11 (sr sh r0 10) k = tg t1 (sr sh r0 10) k := fun k => f11.eq q0 (i := 10) (by decide) (by decide) k
        have e11_11 : ∀ k, tg t11 (sr sh r0 11) k = tg t1 (sr sh r0 11) k := fun k => f11.eq q0 (i := 11) (by decide) (by decide) k
        try simp only [zt0, zt1, zt2, zt3, zt4, zt5, zt6, e0_2, e0_3, e0_4, e0_10, e0_11, e11_2, e11_3, e11_4, e11_10, e11_11] at p11
        have g12_1 := And.intro (tg_lo t11 r0 15) (tg_hi t11 r0 15)
        have gf12_1 := (f11.g).2.2.2.2
        simp only [zput_s, zput_n, ti_g, oI_add, oI_sub, oI_mul, zt0, zt1, zt2, zt3, zt4, zt5, zt6, e0_2, e0_3, e0_4, e0_10, e0_11, e11_2, e11_3, e11_4, e11_10, e11_11, b142_64]
        try simp only [zput_s, zput_n, ti_g, oI_add, oI_sub, oI_mul]
        first | refine zok_eq (by omega) (fun c13 => ?_) (fun c13 => ?_) | refine zok_if (fun c13 => ?_) (fun c13 => ?_)
        · first | exact qI_rt (by omega) (by omega) ⟨(FrV.trans (Ns := [0, 14]) (f0) f11 (by decide) (by decide)), by omega⟩ | exact qI_nf ⟨(FrV.trans (Ns := [0, 14]) (f0) f11 (by decide) (by decide)), by omega⟩
        · refine zok_ck ((q0).1) ?_
          first | refine zok_ne (by omega) (fun c14 => ?_) (fun c14 => ?_) | refine zok_if (fun c14 => ?_) (fun c14 => ?_)
          · first | exact qI_rt (by omega) (by omega) ⟨(FrV.trans (Ns := [0, 14]) (f0) f11 (by decide) (by decide)), by omega⟩ | exact qI_nf ⟨(FrV.trans (Ns := [0, 14]) (f0) f11 (by decide) (by decide)), by omega⟩
          · first | exact qI_rt (by omega) (by omega) ⟨(FrV.trans (Ns := [0, 14]) (f0) f11 (by decide) (by decide)), by omega⟩ | exact qI_nf ⟨(FrV.trans (Ns := [0, 14]) (f0) f11 (by decide) (by decide)), by omega⟩
    · refine zok_ck ((q0).1) ?_
      refine zok_pI (s128 (q0) (by omega) (by omega) (by first | (omega) | ((try simp only [zt0, zt1, zt2, zt3, zt4, zt5, zt6, e0_2, e0_3, e0_4, e0_10, e0_11]); omega)) (f0.g)) (fun y15 u15 p15 => ?_)
      try simp only [zt0, zt1, zt2, zt3, zt4, zt5, zt6, e0_2, e0_3, e0_4, e0_10, e0_11] at p15
      simp only [zput_s, zput_n, ti_g, oI_add, oI_sub, oI_mul, zt0, zt1, zt2, zt3, zt4, zt5, zt6, e0_2, e0_3, e0_4, e0_10, e0_11, b142_23]
      try simp only [zput_s, zput_n, ti_g, oI_add, oI_sub, oI_mul]
      first | refine zok_ne (by omega) (fun c17 => ?_) (fun c17 => ?_) | refine zok_if (fun c17 => ?_) (fun c17 => ?_)
      · try simp only [zput_s, zput_n, ti_g, oI_add, oI_sub, oI_mul]
        exact ih _ _ (f0) (by first | omega | ((try simp only [zt0, zt1, zt2, zt3, zt4, zt5, zt6, e0_2, e0_3, e0_4, e0_10, e0_11]); omega)) (by first | omega | ((try simp only [zt0, zt1, zt2, zt3, zt4, zt5, zt6, e0_2, e0_3, e0_4, e0_10, e0_11]); omega))
      · refine zok_ck ((q0).1) ?_
        refine zok_pI (s128 (q0) (by omega) (by omega) (by first | (omega) | ((try simp only [zt0, zt1, zt2, zt3, zt4, zt5, zt6, e0_2, e0_3, e0_4, e0_10, e0_11]); omega)) (f0.g)) (fun y18 u18 p18 => ?_)
        try simp only [zt0, zt1, zt2, zt3, zt4, zt5, zt6, e0_2, e0_3, e0_4, e0_10, e0_11] at p18
        simp only [zput_s, zput_n, ti_g, oI_add, oI_sub, oI_mul, zt0, zt1, zt2, zt3, zt4, zt5, zt6, e0_2, e0_3, e0_4, e0_10, e0_11, b142_37]
        try simp only [zput_s, zput_n, ti_g, oI_add, oI_sub, oI_mul]
        first | refine zok_eq (by omega) (fun c20 => ?_) (fun c20 => ?_) | refine zok_if (fun c20 => ?_) (fun c20 => ?_)
        · first | refine zok_lt (by omega) (fun c21 => ?_) (fun c21 => ?_) | refine zok_if (fun c21 => ?_) (fun c21 => ?_)
          · refine zok_ck ((q0).1) ?_
            refine zok_cI (s140 (q0) (by omega) (by omega) (by omega) (by omega) (by first | (omega) | ((try simp only [zt0, zt1, zt2, zt3, zt4, zt5, zt6, e0_2, e0_3, e0_4, e0_10, e0_11]); omega)) (by first | (omega) | ((try simp only [zt0, zt1, zt2, zt3, zt4, zt5, zt6, e0_2, e0_3, e0_4, e0_10, e0_11]); omega)) (by first | (omega) | ((try simp only [zt0, zt1, zt2, zt3, zt4, zt5, zt6, e0_2, e0_3, e0_4, e0_10, e0_11]); omega)) (by first | (omega) | ((try simp only [zt0, zt1, zt2, zt3, zt4, zt5, zt6, e0_2, e0_3, e0_4, e0_10, e0_11]); omega)) (f0.g)) (fun y22 t22 u22 p22 => ?_)
            obtain ⟨f22, p22⟩ := p22
            have e22_2 : ∀ k, tg t22 (sr sh r0 2) k = tg t1 (sr sh r0 2) k := fun k => f22.eq q0 (i := 2) (by decide) (by decide) k
            have e22_3 : ∀ k, tg t22 (sr sh r0 3) k = tg t1 (sr sh r0 3) k := fun k => f22.eq q0 (i := 3) (by decide) (by decide) k
            have e22_4 : ∀ k, tg t22 (sr sh r0 4) k = tg t1 (sr sh r0 4) k := fun k => f22.eq q0 (i := 4) (by decide) (by decide) k
            have e22_10 : ∀ k, tg t22 (sr sh r0 10) k = tg t1 (sr sh r0 10) k := fun k => f22.eq q0 (i := 10) (by decide) (by decide) k
            have e22_11 : ∀ k, tg t22 (sr sh r0 11) k = tg t1 (sr sh r0 11) k := fun k => f22.eq q0 (i := 11) (by decide) (by decide) k
            try simp only [zt0, zt1, zt2, zt3, zt4, zt5, zt6, e0_2, e0_3, e0_4, e0_10, e0_11, e22_2, e22_3, e22_4, e22_10, e22_11] at p22
            have g23_1 := And.intro (tg_lo t22 r0 15) (tg_hi t22 r0 15)
            have gf23_1 := (f22.g).2.2.2.2
            simp only [zput_s, zput_n, ti_g, oI_add, oI_sub, oI_mul, zt0, zt1, zt2, zt3, zt4, zt5, zt6, e0_2, e0_3, e0_4, e0_10, e0_11, e22_2, e22_3, e22_4, e22_10, e22_11, b142_91]
            try simp only [zput_s, zput_n, ti_g, oI_add, oI_sub, oI_mul]
            first | refine zok_ne (by omega) (fun c24 => ?_) (fun c24 => ?_) | refine zok_if (fun c24 => ?_) (fun c24 => ?_)
            · refine zok_ck ((q0).1) ?_
              refine zok_ck ((q0).1) ?_
              refine zok_cI (s140 (q0) (by omega) (by omega) (by omega) (by omega) (by first | (omega) | ((try simp only [zt0, zt1, zt2, zt3, zt4, zt5, zt6, e0_2, e0_3, e0_4, e0_10, e0_11, e22_2, e22_3, e22_4, e22_10, e22_11]); omega)) (by first | (omega) | ((try simp only [zt0, zt1, zt2, zt3, zt4, zt5, zt6, e0_2, e0_3, e0_4, e0_10, e0_11, e22_2, e22_3, e22_4, e22_10, e22_11]); omega)) (by first | (omega) | ((try simp only [zt0, zt1, zt2, zt3, zt4, zt5, zt6, e0_2, e0_3, e0_4, e0_10, e0_11, e22_2, e22_3, e22_4, e22_10, e22_11]); omega)) (by first | (omega) | ((try simp only [zt0, zt1, zt2, zt3, zt4, zt5, zt6, e0_2, e0_3, e0_4, e0_10, e0_11, e22_2, e22_3, e22_4, e22_10, e22_11]); omega)) (f22.g)) (fun y25 t25 u25 p25 => ?_)
              obtain ⟨f25, p25⟩ := p25
              have e25_2 : ∀ k, tg t25 (sr sh r0 2) k = tg t22 (sr sh r0 2) k := fun k => f25.eq q0 (i := 2) (by decide) (by decide) k
              have e25_3 : ∀ k, tg t25 (sr sh r0 3) k = tg t22 (sr sh r0 3) k := fun k => f25.eq q0 (i := 3) (by decide) (by decide) k
              have e25_4 : ∀ k, tg t25 (sr sh r0 4) k = tg t22 (sr sh r0 4) k := fun k => f25.eq q0 (i := 4) (by decide) (by decide) k
              have e25_10 : ∀ k, tg t25 (sr sh r0 10) k = tg t22 (sr sh r0 10) k := fun k => f25.eq q0 (i := 10) (by decide) (by decide) k
              have e25_11 : ∀ k, tg t25 (sr sh r0 11) k = tg t22 (sr sh r0 11) k := fun k => f25.eq q0 (i := 11) (by decide) (by decide) k
              try simp only [zt0, zt1, zt2, zt3, zt4, zt5, zt6, e0_2, e0_3, e0_4, e0_10, e0_11, e22_2, e22_3, e22_4, e22_10, e22_11, e25_2, e25_3, e25_4, e25_10, e25_11] at p25
              have g26_1 := And.intro (tg_lo t25 r0 15) (tg_hi t25 r0 15)
              have gf26_1 := (f25.g).2.2.2.2
              simp only [zput_s, zput_n, ti_g, oI_add, oI_sub, oI_mul, zt0, zt1, zt2, zt3, zt4, zt5, zt6, e0_2, e0_3, e0_4, e0_10, e0_11, e22_2, e22_3, e22_4, e22_10, e22_11, e25_2, e25_3, e25_4, e25_10, e25_11, b142_113]
              try simp only [zput_s, zput_n, ti_g, oI_add, oI_sub, oI_mul]
              first | refine zok_eq (by omega) (fun c27 => ?_) (fun c27 => ?_) | refine zok_if (fun c27 => ?_) (fun c27 => ?_)
              · first | exact qI_rt (by omega) (by omega) ⟨(FrV.trans (Ns := [0, 14]) ((FrV.trans (Ns := [0, 14]) (f0) f22 (by decide) (by decide))) f25 (by decide) (by decide)), by omega⟩ | exact qI_nf ⟨(FrV.trans (Ns := [0, 14]) ((FrV.trans (Ns := [0, 14]) (f0) f22 (by decide) (by decide))) f25 (by decide) (by decide)), by omega⟩
              · refine zok_ck ((q0).1) ?_
                first | refine zok_le (by omega) (fun c28 => ?_) (fun c28 => ?_) | refine zok_if (fun c28 => ?_) (fun c28 => ?_)
                · refine zok_ck ((q0).1) ?_
                  try simp only [zput_s, zput_n, ti_g, oI_add, oI_sub, oI_mul]
                  exact l142_137 q0 (by omega) (by omega) (by omega) d1 d2 d3 G _ _ _ _ _ _ (by first | rfl | assumption) _ ((FrV.trans (Ns := [0, 14]) ((FrV.trans (Ns := [0, 14]) (f0) f22 (by decide) (by decide))) f25 (by decide) (by decide))) (by first | omega | ((try simp only [zt0, zt1, zt2, zt3, zt4, zt5, zt6, e0_2, e0_3, e0_4, e0_10, e0_11, e22_2, e22_3, e22_4, e22_10, e22_11, e25_2, e25_3, e25_4, e25_10, e25_11]); omega)) (Nat.lt_succ_self _)
                · first | exact qI_rt (by omega) (by omega) ⟨(FrV.trans (Ns := [0, 14]) ((FrV.trans (Ns := [0, 14]) (f0) f22 (by decide) (by decide))) f25 (by decide) (by decide)), by omega⟩ | exact qI_nf ⟨(FrV.trans (Ns := [0, 14]) ((FrV.trans (Ns := [0, 14]) (f0) f22 (by decide) (by decide))) f25 (by decide) (by decide)), by omega⟩
            · first | exact qI_rt (by omega) (by omega) ⟨(FrV.trans (Ns := [0, 14]) (f0) f22 (by decide) (by decide)), by omega⟩ | exact qI_nf ⟨(FrV.trans (Ns := [0, 14]) (f0) f22 (by decide) (by decide)), by omega⟩
          · refine zok_ck ((q0).1) ?_
            refine zok_cI (s140 (q0) (by omega) (by omega) (by omega) (by omega) (by first | (omega) | ((try simp only [zt0, zt1, zt2, zt3, zt4, zt5, zt6, e0_2, e0_3, e0_4, e0_10, e0_11]); omega)) (by first | (omega) | ((try simp only [zt0, zt1, zt2, zt3, zt4, zt5, zt6, e0_2, e0_3, e0_4, e0_10, e0_11]); omega)) (by first | (omega) | ((try simp only [zt0, zt1, zt2, zt3, zt4, zt5, zt6, e0_2, e0_3, e0_4, e0_10, e0_11]); omega)) (by first | (omega) | ((try simp only [zt0, zt1, zt2, zt3, zt4, zt5, zt6, e0_2, e0_3, e0_4, e0_10, e0_11]); omega)) (f0.g)) (fun y29 t29 u29 p29 => ?_)
            obtain ⟨f29, p29⟩ := p29
            have e29_2 : ∀ k, tg t29 (sr sh r0 2) k = tg t1 (sr sh r0 2) k := fun k => f29.eq q0 (i := 2) (by decide) (by decide) k
            have e29_3 : ∀ k, tg t29 (sr sh r0 3) k = tg t1 (sr sh r0 3) k := fun k => f29.eq q0 (i := 3) (by decide) (by decide) k
            have e29_4 : ∀ k, tg t29 (sr sh r0 4) k = tg t1 (sr sh r0 4) k := fun k => f29.eq q0 (i := 4) (by decide) (by decide) k
            have e29_10 : ∀ k, tg t29 (sr sh r0 10) k = tg t1 (sr sh r0 10) k := fun k => f29.eq q0 (i := 10) (by decide) (by decide) k
            have e29_11 : ∀ k, tg t29 (sr sh r0 11) k = tg t1 (sr sh r0 11) k := fun k => f29.eq q0 (i := 11) (by decide) (by decide) k
            try simp only [zt0, zt1, zt2, zt3, zt4, zt5, zt6, e0_2, e0_3, e0_4, e0_10, e0_11, e29_2, e29_3, e29_4, e29_10, e29_11] at p29
            have g30_1 := And.intro (tg_lo t29 r0 15) (tg_hi t29 r0 15)
            have gf30_1 := (f29.g).2.2.2.2
            simp only [zput_s, zput_n, ti_g, oI_add, oI_sub, oI_mul, zt0, zt1, zt2, zt3, zt4, zt5, zt6, e0_2, e0_3, e0_4, e0_10, e0_11, e29_2, e29_3, e29_4, e29_10, e29_11, b142_64]
            try simp only [zput_s, zput_n, ti_g, oI_add, oI_sub, oI_mul]
            first | refine zok_eq (by omega) (fun c31 => ?_) (fun c31 => ?_) | refine zok_if (fun c31 => ?_) (fun c31 => ?_)
            · first | exact qI_rt (by omega) (by omega) ⟨(FrV.trans (Ns := [0, 14]) (f0) f29 (by decide) (by decide)), by omega⟩ | exact qI_nf ⟨(FrV.trans (Ns := [0, 14]) (f0) f29 (by decide) (by decide)), by omega⟩
            · refine zok_ck ((q0).1) ?_
              first | refine zok_ne (by omega) (fun c32 => ?_) (fun c32 => ?_) | refine zok_if (fun c32 => ?_) (fun c32 => ?_)
              · first | exact qI_rt (by omega) (by omega) ⟨(FrV.trans (Ns := [0, 14]) (f0) f29 (by decide) (by decide)), by omega⟩ | exact qI_nf ⟨(FrV.trans (Ns := [0, 14]) (f0) f29 (by decide) (by decide)), by omega⟩
              · first | exact qI_rt (by omega) (by omega) ⟨(FrV.trans (Ns := [0, 14]) (f0) f29 (by decide) (by decide)), by omega⟩ | exact qI_nf ⟨(FrV.trans (Ns := [0, 14]) (f0) f29 (by decide) (by decide)), by omega⟩
        · try simp only [zput_s, zput_n, ti_g, oI_add, oI_sub, oI_mul]
          exact ih _ _ (f0) (by first | omega | ((try simp only [zt0, zt1, zt2, zt3, zt4, zt5, zt6, e0_2, e0_3, e0_4, e0_10, e0_11]); omega)) (by first | omega | ((try simp only [zt0, zt1, zt2, zt3, zt4, zt5, zt6, e0_2, e0_3, e0_4, e0_10, e0_11]); omega))
theorem s142 {sh : zSh} {t : zSt} {MB : Nat} {r0 : Nat} (q0 : zMd sh MB r0) {x1 : Int} (u1 : -2147483648 ≤ x1 ∧ x1 ≤ 2147483647) {x2 : Int} (u2 : -2147483648 ≤ x2 ∧ x2 ≤ 2147483647) {x3 : Int} (u3 : -2147483648 ≤ x3 ∧ x3 ≤ 2147483647) (d1 : 0 ≤ x1 ∧ x1 ≤ 13) (d2 : 0 ≤ x2 ∧ x2 ≤ 4000) (d3 : -2 ≤ x3 ∧ x3 ≤ 4000) (G : GI sh r0 t) : zok (zcl zP 142 [zR r0, zI (oI x1), zI (oI x2), zI (oI x3)] (sh, t)) (qI (fun x t' => FrV sh r0 [0, 14] t t' ∧ (x = 0 ∨ x = 1)) sh) := by
  have ha0_1 : (sk sh (sr sh r0 1)).2 = 21000 := by rw [q0.2.2.2.2.1]
  have ha0_2 : (sk sh (sr sh r0 2)).2 = 14 := by rw [q0.2.2.2.2.2.1]
  have ha0_3 : (sk sh (sr sh r0 3)).2 = 98 := by rw [q0.2.2.2.2.2.2.1]
  have ha0_4 : (sk sh (sr sh r0 4)).2 = 98 := by rw [q0.2.2.2.2.2.2.2.1]
  have ha0_8 : (sk sh (sr sh r0 8)).2 = 1500 := by rw [q0.2.2.2.2.2.2.2.2.1]
  have ha0_9 : (sk sh (sr sh r0 9)).2 = 10500 := by rw [q0.2.2.2.2.2.2.2.2.2.1]
  have ha0_10 : (sk sh (sr sh r0 10)).2 = 7 := by rw [q0.2.2.2.2.2.2.2.2.2.2.1]
  have ha0_11 : (sk sh (sr sh r0 11)).2 = 7 := by rw [q0.2.2.2.2.2.2.2.2.2.2.2.1]
  have ha0_12 : (sk sh (sr sh r0 12)).2 = 1500 := by rw [q0.2.2.2.2.2.2.2.2.2.2.2.2.1]
  have ha0_13 : (sk sh (sr sh r0 13)).2 = 1500 := by rw [q0.2.2.2.2.2.2.2.2.2.2.2.2.2.1]
  have ha0_14 : (sk sh (sr sh r0 14)).2 = 20 := by rw [q0.2.2.2.2.2.2.2.2.2.2.2.2.2.2]
  rw [b142_0]
  try simp only [zput_s, zput_n, ti_g, oI_add, oI_sub, oI_mul]
  refine zok_ck (by first | exact ⟨(q0).1, fun e => by cases e⟩ | exact (q0).1) ?_
  obtain ⟨t34, ht34⟩ : ∃ t', t' = tI t r0 (15) (oI (0)) := ⟨_, rfl⟩
  try simp only [zt0, zt1, zt2, zt3, zt4, zt5, zt6] at ht34
  rw [← ht34]
  have f34 : FrV sh r0 [0] t t34 := by rw [ht34]; exact GI_m q0 (G) (by omega) (fun e => by first | omega | cases e) (fun e => by first | omega | cases e)
  have d34_15 : tg t34 r0 15 = 0 := by rw [ht34]; refine (tg_at (by omega)).trans ?_; first | exact if_pos rfl | exact if_neg (by decide) | (simp only [zt0, zt1, zt2, zt3, zt4, zt5, zt6, true_and, if_true])
  try simp only [zt0, zt1, zt2, zt3, zt4, zt5, zt6] at d34_15
  have e34_2 : ∀ k, tg t34 (sr sh r0 2) k = tg t (sr sh r0 2) k := fun k => f34.eq q0 (i := 2) (by decide) (by decide) k
  have e34_3 : ∀ k, tg t34 (sr sh r0 3) k = tg t (sr sh r0 3) k := fun k => f34.eq q0 (i := 3) (by decide) (by decide) k
  have e34_4 : ∀ k, tg t34 (sr sh r0 4) k = tg t (sr sh r0 4) k := fun k => f34.eq q0 (i := 4) (by decide) (by decide) k
  have e34_10 : ∀ k, tg t34 (sr sh r0 10) k = tg t (sr sh r0 10) k := fun k => f34.eq q0 (i := 10) (by decide) (by decide) k
  have e34_11 : ∀ k, tg t34 (sr sh r0 11) k = tg t (sr sh r0 11) k := fun k => f34.eq q0 (i := 11) (by decide) (by decide) k
  have e34_14 : ∀ k, tg t34 (sr sh r0 14) k = tg t (sr sh r0 14) k := fun k => f34.eq q0 (i := 14) (by decide) (by decide) k
  try simp only [zput_s, zput_n, ti_g, oI_add, oI_sub, oI_mul]
  exact l142_8 q0 (by omega) (by omega) (by omega) d1 d2 d3 G _ _ _ ((FrV.trans (Ns := [0, 14]) (FrV.refl (Ls := []) G) f34 (by decide) (by decide))) (by first | omega | ((try simp only [zt0, zt1, zt2, zt3, zt4, zt5, zt6, e34_2, e34_3, e34_4, e34_10, e34_11, e34_14]); omega)) (Nat.lt_succ_self _)
/-! X9_lookAtScheme -/
theorem l146_26 {sh : zSh} {t0 : zSt} {MB : Nat} {r0 : Nat} (q0 : zMd sh MB r0) {x1 : Int} (u1 : -2147483648 ≤ x1 ∧ x1 ≤ 2147483647) (d1 : 0 ≤ x1 ∧ x1 ≤ 13) (G : GI sh r0 t0) : ∀ (n : Nat) (x2 : Int) (o3 : Option zV) (wo3 : zisL o3 = false) (t1 : zSt), FrV sh r0 [0] t0 t1 → (-2147483648 ≤ x2 ∧ x2 ≤ 2147483647) ∧ (0 ≤ x2) → (tg t1 (sr sh r0 4) (7 * x1).toNat - x2).toNat < n → zok (zev zP 146 26 [some (zR r0), some (zI (oI x1)), some (zI (oI x2)), o3] [] (sh, t1)) (zq0 (fun t' => FrV sh r0 [0] t0 t' ∧ (True)) sh) := by
  intro n
  induction n with
  | zero => intro x2 o3 wo3 t1 f0 _ hm; omega
  | succ n ih =>
    intro x2 o3 wo3 t1 f0 hv hm
    have ha0_1 : (sk sh (sr sh r0 1)).2 = 21000 := by rw [q0.2.2.2.2.1]
    have ha0_2 : (sk sh (sr sh r0 2)).2 = 14 := by rw [q0.2.2.2.2.2.1]
    have ha0_3 : (sk sh (sr sh r0 3)).2 = 98 := by rw [q0.2.2.2.2.2.2.1]
    have ha0_4 : (sk sh (sr sh r0 4)).2 = 98 := by rw [q0.2.2.2.2.2.2.2.1]
    have ha0_8 : (sk sh (sr sh r0 8)).2 = 1500 := by rw [q0.2.2.2.2.2.2.2.2.1]
    have ha0_9 : (sk sh (sr sh r0 9)).2 = 10500 := by rw [q0.2.2.2.2.2.2.2.2.2.1]
    have ha0_10 : (sk sh (sr sh r0 10)).2 = 7 := by rw [q0.2.2.2.2.2.2.2.2.2.2.1]
    have ha0_11 : (sk sh (sr sh r0 11)).2 = 7 := by rw [q0.2.2.2.2.2.2.2.2.2.2.2.1]
    have ha0_12 : (sk sh (sr sh r0 12)).2 = 1500 := by rw [q0.2.2.2.2.2.2.2.2.2.2.2.2.1]
    have ha0_13 : (sk sh (sr sh r0 13)).2 = 1500 := by rw [q0.2.2.2.2.2.2.2.2.2.2.2.2.2.1]
    have ha0_14 : (sk sh (sr sh r0 14)).2 = 20 := by rw [q0.2.2.2.2.2.2.2.2.2.2.2.2.2.2]
    have e0_2 : ∀ k, tg t1 (sr sh r0 2) k = tg t0 (sr sh r0 2) k := fun k => f0.eq q0 (i := 2) (by decide) (by decide) k
    have e0_3 : ∀ k, tg t1 (sr sh r0 3) k = tg t0 (sr sh r0 3) k := fun k => f0.eq q0 (i := 3) (by decide) (by decide) k
    have e0_4 : ∀ k, tg t1 (sr sh r0 4) k = tg t0 (sr sh r0 4) k := fun k => f0.eq q0 (i := 4) (by decide) (by decide) k
    have e0_10 : ∀ k, tg t1 (sr sh r0 10) k = tg t0 (sr sh r0 10) k := fun k => f0.eq q0 (i := 10) (by decide) (by decide) k
    have e0_11 : ∀ k, tg t1 (sr sh r0 11) k = tg t0 (sr sh r0 11) k := fun k => f0.eq q0 (i := 11) (by decide) (by decide) k
    try simp only [zt0, zt1, zt2, zt3, zt4, zt5, zt6, e0_2, e0_3, e0_4, e0_10, e0_11] at hv
    try simp only [zt0, zt1, zt2, zt3, zt4, zt5, zt6, e0_2, e0_3, e0_4, e0_10, e0_11] at hm
    have gz := (f0.g).2.1 (7 * x1).toNat (by omega)
    try simp only [zt0, zt1, zt2, zt3, zt4, zt5, zt6, e0_2, e0_3, e0_4, e0_10, e0_11] at gz
    try simp only [zput_s, zput_n, ti_g, oI_add, oI_sub, oI_mul]
    rw [b146_26 (o3 := o3) (wo3 := wo3)]
    try simp only [zput_s, zput_n, ti_g, oI_add, oI_sub, oI_mul]
    refine zok_ck ((q0).1) ?_
    refine zok_ck ⟨(by rw [(q0).2.2.2.2.2.2.2.1]), zin_o (by omega) (by omega) (by omega)⟩ ?_
    try rw [nN_o (a := (7) * (x1)) (by omega) (by omega)]
    try simp only [zput_s, zput_n, ti_g, oI_add, oI_sub, oI_mul, zt0, zt1, zt2, zt3, zt4, zt5, zt6, e0_2, e0_3, e0_4, e0_10, e0_11]
    have gl2 := And.intro (tg_lo t1 (sr sh r0 4) (((7) * (x1)).toNat)) (tg_hi t1 (sr sh r0 4) (((7) * (x1)).toNat))
    have gm2 := (f0.g).2.1 (((7) * (x1)).toNat) (by omega)
    try simp only [zt0, zt1, zt2, zt3, zt4, zt5, zt6, e0_2, e0_3, e0_4, e0_10, e0_11] at gl2
    try simp only [zt0, zt1, zt2, zt3, zt4, zt5, zt6, e0_2, e0_3, e0_4, e0_10, e0_11] at gm2
    first | refine zok_le (by omega) (fun c3 => ?_) (fun c3 => ?_) | refine zok_if (fun c3 => ?_) (fun c3 => ?_)
    · exact q0_rt ⟨f0, trivial⟩
    · refine zok_ck ((q0).1) ?_
      refine zok_pI (s128 (q0) (by omega) (by omega) (by first | (omega) | ((try simp only [zt0, zt1, zt2, zt3, zt4, zt5, zt6, e0_2, e0_3, e0_4, e0_10, e0_11]); omega)) (f0.g)) (fun y4 u4 p4 => ?_)
      try simp only [zt0, zt1, zt2, zt3, zt4, zt5, zt6, e0_2, e0_3, e0_4, e0_10, e0_11] at p4
      try simp only [zput_s, zput_n, ti_g, oI_add, oI_sub, oI_mul]
      rw [b146_45 (o3 := o3) (wo3 := wo3)]
      try simp only [zput_s, zput_n, ti_g, oI_add, oI_sub, oI_mul]
      refine zok_pI (s122 (by omega)) (fun y6 u6 p6 => ?_)
      try simp only [zt0, zt1, zt2, zt3, zt4, zt5, zt6, e0_2, e0_3, e0_4, e0_10, e0_11] at p6
      simp only [zput_s, zput_n, ti_g, oI_add, oI_sub, oI_mul, zt0, zt1, zt2, zt3, zt4, zt5, zt6, e0_2, e0_3, e0_4, e0_10, e0_11, b146_50]
      try simp only [zput_s, zput_n, ti_g, oI_add, oI_sub, oI_mul]
      first | refine zok_ne (by omega) (fun c8 => ?_) (fun c8 => ?_) | refine zok_if (fun c8 => ?_) (fun c8 => ?_)
      · simp only [zput_s, zput_n, ti_g, oI_add, oI_sub, oI_mul, zt0, zt1, zt2, zt3, zt4, zt5, zt6, e0_2, e0_3, e0_4, e0_10, e0_11, b146_88]
        try simp only [zput_s, zput_n, ti_g, oI_add, oI_sub, oI_mul]
        try simp only [zput_s, zput_n, ti_g, oI_add, oI_sub, oI_mul]
        exact ih _ _ (by first | rfl | assumption) _ (f0) (by first | omega | ((try simp only [zt0, zt1, zt2, zt3, zt4, zt5, zt6, e0_2, e0_3, e0_4, e0_10, e0_11]); omega)) (by first | omega | ((try simp only [zt0, zt1, zt2, zt3, zt4, zt5, zt6, e0_2, e0_3, e0_4, e0_10, e0_11]); omega))
      · first | refine zok_eq (by omega) (fun c10 => ?_) (fun c10 => ?_) | refine zok_if (fun c10 => ?_) (fun c10 => ?_)
        · refine zok_ck ((q0).1) ?_
          refine zok_c0 (s144 (q0) (by omega) (by omega) (f0.g)) (fun t11 p11 => ?_)
          obtain ⟨f11, p11⟩ := p11
          have e11_2 : ∀ k, tg t11 (sr sh r0 2) k = tg t1 (sr sh r0 2) k := fun k => f11.eq q0 (i := 2) (by decide) (by decide) k
          have e11_3 : ∀ k, tg t11 (sr sh r0 3) k = tg t1 (sr sh r0 3) k := fun k => f11.eq q0 (i := 3) (by decide) (by decide) k
          have e11_4 : ∀ k, tg t11 (sr sh r0 4) k = tg t1 (sr sh r0 4) k := fun k => f11.eq q0 (i := 4) (by decide) (by decide) k
          have e11_10 : ∀ k, tg t11 (sr sh r0 10) k = tg t1 (sr sh r0 10) k := fun k => f11.eq q0 (i := 10) (by decide) (by decide) k
          have e11_11 : ∀ k, tg t11 (sr sh r0 11) k = tg t1 (sr sh r0 11) k := fun k => f11.eq q0 (i := 11) (by decide) (by decide) k
          try simp only [zt0, zt1, zt2, zt3, zt4, zt5, zt6, e0_2, e0_3, e0_4, e0_10, e0_11, e11_2, e11_3, e11_4, e11_10, e11_11] at p11
          simp only [zput_s, zput_n, ti_g, oI_add, oI_sub, oI_mul, zt0, zt1, zt2, zt3, zt4, zt5, zt6, e0_2, e0_3, e0_4, e0_10, e0_11, e11_2, e11_3, e11_4, e11_10, e11_11, b146_88]
          try simp only [zput_s, zput_n, ti_g, oI_add, oI_sub, oI_mul]
          try simp only [zput_s, zput_n, ti_g, oI_add, oI_sub, oI_mul]
          exact ih _ _ (by first | rfl | assumption) _ ((FrV.trans (Ns := [0]) (f0) f11 (by decide) (by decide))) (by first | omega | ((try simp only [zt0, zt1, zt2, zt3, zt4, zt5, zt6, e0_2, e0_3, e0_4, e0_10, e0_11, e11_2, e11_3, e11_4, e11_10, e11_11]); omega)) (by first | omega | ((try simp only [zt0, zt1, zt2, zt3, zt4, zt5, zt6, e0_2, e0_3, e0_4, e0_10, e0_11, e11_2, e11_3, e11_4, e11_10, e11_11]); omega))
        · refine zok_pI (s121 (by omega)) (fun y13 u13 p13 => ?_)
          try simp only [zt0, zt1, zt2, zt3, zt4, zt5, zt6, e0_2, e0_3, e0_4, e0_10, e0_11] at p13
          simp only [zput_s, zput_n, ti_g, oI_add, oI_sub, oI_mul, zt0, zt1, zt2, zt3, zt4, zt5, zt6, e0_2, e0_3, e0_4, e0_10, e0_11, b146_61]
          try simp only [zput_s, zput_n, ti_g, oI_add, oI_sub, oI_mul]
          first | refine zok_ne (by omega) (fun c15 => ?_) (fun c15 => ?_) | refine zok_if (fun c15 => ?_) (fun c15 => ?_)
          · simp only [zput_s, zput_n, ti_g, oI_add, oI_sub, oI_mul, zt0, zt1, zt2, zt3, zt4, zt5, zt6, e0_2, e0_3, e0_4, e0_10, e0_11, b146_88]
            try simp only [zput_s, zput_n, ti_g, oI_add, oI_sub, oI_mul]
            try simp only [zput_s, zput_n, ti_g, oI_add, oI_sub, oI_mul]
            exact ih _ _ (by first | rfl | assumption) _ (f0) (by first | omega | ((try simp only [zt0, zt1, zt2, zt3, zt4, zt5, zt6, e0_2, e0_3, e0_4, e0_10, e0_11]); omega)) (by first | omega | ((try simp only [zt0, zt1, zt2, zt3, zt4, zt5, zt6, e0_2, e0_3, e0_4, e0_10, e0_11]); omega))
          · first | refine zok_eq (by omega) (fun c17 => ?_) (fun c17 => ?_) | refine zok_if (fun c17 => ?_) (fun c17 => ?_)
            · simp only [zput_s, zput_n, ti_g, oI_add, oI_sub, oI_mul, zt0, zt1, zt2, zt3, zt4, zt5, zt6, e0_2, e0_3, e0_4, e0_10, e0_11, b146_88]
              try simp only [zput_s, zput_n, ti_g, oI_add, oI_sub, oI_mul]
              try simp only [zput_s, zput_n, ti_g, oI_add, oI_sub, oI_mul]
              exact ih _ _ (by first | rfl | assumption) _ (f0) (by first | omega | ((try simp only [zt0, zt1, zt2, zt3, zt4, zt5, zt6, e0_2, e0_3, e0_4, e0_10, e0_11]); omega)) (by first | omega | ((try simp only [zt0, zt1, zt2, zt3, zt4, zt5, zt6, e0_2, e0_3, e0_4, e0_10, e0_11]); omega))
            · first | refine zok_eq (by omega) (fun c19 => ?_) (fun c19 => ?_) | refine zok_if (fun c19 => ?_) (fun c19 => ?_)
              · simp only [zput_s, zput_n, ti_g, oI_add, oI_sub, oI_mul, zt0, zt1, zt2, zt3, zt4, zt5, zt6, e0_2, e0_3, e0_4, e0_10, e0_11, b146_88]
                try simp only [zput_s, zput_n, ti_g, oI_add, oI_sub, oI_mul]
                try simp only [zput_s, zput_n, ti_g, oI_add, oI_sub, oI_mul]
                exact ih _ _ (by first | rfl | assumption) _ (f0) (by first | omega | ((try simp only [zt0, zt1, zt2, zt3, zt4, zt5, zt6, e0_2, e0_3, e0_4, e0_10, e0_11]); omega)) (by first | omega | ((try simp only [zt0, zt1, zt2, zt3, zt4, zt5, zt6, e0_2, e0_3, e0_4, e0_10, e0_11]); omega))
              · first | refine zok_eq (by omega) (fun c21 => ?_) (fun c21 => ?_) | refine zok_if (fun c21 => ?_) (fun c21 => ?_)
                · simp only [zput_s, zput_n, ti_g, oI_add, oI_sub, oI_mul, zt0, zt1, zt2, zt3, zt4, zt5, zt6, e0_2, e0_3, e0_4, e0_10, e0_11, b146_88]
                  try simp only [zput_s, zput_n, ti_g, oI_add, oI_sub, oI_mul]
                  try simp only [zput_s, zput_n, ti_g, oI_add, oI_sub, oI_mul]
                  exact ih _ _ (by first | rfl | assumption) _ (f0) (by first | omega | ((try simp only [zt0, zt1, zt2, zt3, zt4, zt5, zt6, e0_2, e0_3, e0_4, e0_10, e0_11]); omega)) (by first | omega | ((try simp only [zt0, zt1, zt2, zt3, zt4, zt5, zt6, e0_2, e0_3, e0_4, e0_10, e0_11]); omega))
                · refine zok_ck ((q0).1) ?_
                  refine zok_c0 (s144 (q0) (by omega) (by omega) (f0.g)) (fun t23 p23 => ?_)
                  obtain ⟨f23, p23⟩ := p23
                  have e23_2 : ∀ k, tg t23 (sr sh r0 2) k = tg t1 (sr sh r0 2) k := fun k => f23.eq q0 (i := 2) (by decide) (by decide) k
                  have e23_3 : ∀ k, tg t23 (sr sh r0 3) k = tg t1 (sr sh r0 3) k := fun k => f23.eq q0 (i := 3) (by decide) (by decide) k
                  have e23_4 : ∀ k, tg t23 (sr sh r0 4) k = tg t1 (sr sh r0 4) k := fun k => f23.eq q0 (i := 4) (by decide) (by decide) k
                  have e23_10 : ∀ k, tg t23 (sr sh r0 10) k = tg t1 (sr sh r0 10) k := fun k => f23.eq q0 (i := 10) (by decide) (by decide) k
                  have e23_11 : ∀ k, tg t23 (sr sh r0 11) k = tg t1 (sr sh r0 11) k := fun k => f23.eq q0 (i := 11) (by decide) (by decide) k
                  try simp only [zt0, zt1, zt2, zt3, zt4, zt5, zt6, e0_2, e0_3, e0_4, e0_10, e0_11, e23_2, e23_3, e23_4, e23_10, e23_11] at p23
                  simp only [zput_s, zput_n, ti_g, oI_add, oI_sub, oI_mul, zt0, zt1, zt2, zt3, zt4, zt5, zt6, e0_2, e0_3, e0_4, e0_10, e0_11, e23_2, e23_3, e23_4, e23_10, e23_11, b146_88]
                  try simp only [zput_s, zput_n, ti_g, oI_add, oI_sub, oI_mul]
                  try simp only [zput_s, zput_n, ti_g, oI_add, oI_sub, oI_mul]
                  exact ih _ _ (by first | rfl | assumption) _ ((FrV.trans (Ns := [0]) (f0) f23 (by decide) (by decide))) (by first | omega | ((try simp only [zt0, zt1, zt2, zt3, zt4, zt5, zt6, e0_2, e0_3, e0_4, e0_10, e0_11, e23_2, e23_3, e23_4, e23_10, e23_11]); omega)) (by first | omega | ((try simp only [zt0, zt1, zt2, zt3, zt4, zt5, zt6, e0_2, e0_3, e0_4, e0_10, e0_11, e23_2, e23_3, e23_4, e23_10, e23_11]); omega))
theorem s146 {sh : zSh} {t : zSt} {MB : Nat} {r0 : Nat} (q0 : zMd sh MB r0) {x1 : Int} (u1 : -2147483648 ≤ x1 ∧ x1 ≤ 2147483647) (d1 : 0 ≤ x1 ∧ x1 ≤ 13) (G : GI sh r0 t) : zok (zcl zP 146 [zR r0, zI (oI x1)] (sh, t)) (zq0 (fun t' => FrV sh r0 [0] t t' ∧ (True)) sh) := by
  have ha0_1 : (sk sh (sr sh r0 1)).2 = 21000 := by rw [q0.2.2.2.2.1]
  have ha0_2 : (sk sh (sr sh r0 2)).2 = 14 := by rw [q0.2.2.2.2.2.1]
  have ha0_3 : (sk sh (sr sh r0 3)).2 = 98 := by rw [q0.2.2.2.2.2.2.1]
  have ha0_4 : (sk sh (sr sh r0 4)).2 = 98 := by rw [q0.2.2.2.2.2.2.2.1]
  have ha0_8 : (sk sh (sr sh r0 8)).2 = 1500 := by rw [q0.2.2.2.2.2.2.2.2.1]
  have ha0_9 : (sk sh (sr sh r0 9)).2 = 10500 := by rw [q0.2.2.2.2.2.2.2.2.2.1]
  have ha0_10 : (sk sh (sr sh r0 10)).2 = 7 := by rw [q0.2.2.2.2.2.2.2.2.2.2.1]
  have ha0_11 : (sk sh (sr sh r0 11)).2 = 7 := by rw [q0.2.2.2.2.2.2.2.2.2.2.2.1]
  have ha0_12 : (sk sh (sr sh r0 12)).2 = 1500 := by rw [q0.2.2.2.2.2.2.2.2.2.2.2.2.1]
  have ha0_13 : (sk sh (sr sh r0 13)).2 = 1500 := by rw [q0.2.2.2.2.2.2.2.2.2.2.2.2.2.1]
  have ha0_14 : (sk sh (sr sh r0 14)).2 = 20 := by rw [q0.2.2.2.2.2.2.2.2.2.2.2.2.2.2]
  rw [b146_0]
  try simp only [zput_s, zput_n, ti_g, oI_add, oI_sub, oI_mul]
  refine zok_ck ((q0).1) ?_
  refine zok_pI (s134 (q0) (by omega) (by omega) (by first | (omega) | ((try simp only [zt0, zt1, zt2, zt3, zt4, zt5, zt6]); omega)) (by first | (omega) | ((try simp only [zt0, zt1, zt2, zt3, zt4, zt5, zt6]); omega)) (G)) (fun y26 u26 p26 => ?_)
  try simp only [zt0, zt1, zt2, zt3, zt4, zt5, zt6] at p26
  simp only [zput_s, zput_n, ti_g, oI_add, oI_sub, oI_mul, zt0, zt1, zt2, zt3, zt4, zt5, zt6, b146_6]
  try simp only [zput_s, zput_n, ti_g, oI_add, oI_sub, oI_mul]
  first | refine zok_eq (by omega) (fun c28 => ?_) (fun c28 => ?_) | refine zok_if (fun c28 => ?_) (fun c28 => ?_)
  · simp only [zput_s, zput_n, ti_g, oI_add, oI_sub, oI_mul, zt0, zt1, zt2, zt3, zt4, zt5, zt6, b146_24]
    try simp only [zput_s, zput_n, ti_g, oI_add, oI_sub, oI_mul]
    try simp only [zput_s, zput_n, ti_g, oI_add, oI_sub, oI_mul]
    exact l146_26 q0 (by omega) d1 G _ _ _ (by first | rfl | assumption) _ (FrV.refl G) (by first | omega | ((try simp only [zt0, zt1, zt2, zt3, zt4, zt5, zt6]); omega)) (Nat.lt_succ_self _)
  · refine zok_ck ((q0).1) ?_
    refine zok_pI (s135 (q0) (by omega) (by omega) (by first | (omega) | ((try simp only [zt0, zt1, zt2, zt3, zt4, zt5, zt6]); omega)) (by first | (omega) | ((try simp only [zt0, zt1, zt2, zt3, zt4, zt5, zt6]); omega)) (G)) (fun y30 u30 p30 => ?_)
    try simp only [zt0, zt1, zt2, zt3, zt4, zt5, zt6] at p30
    simp only [zput_s, zput_n, ti_g, oI_add, oI_sub, oI_mul, zt0, zt1, zt2, zt3, zt4, zt5, zt6, b146_15]
    try simp only [zput_s, zput_n, ti_g, oI_add, oI_sub, oI_mul]
    first | refine zok_ne (by omega) (fun c32 => ?_) (fun c32 => ?_) | refine zok_if (fun c32 => ?_) (fun c32 => ?_)
    · simp only [zput_s, zput_n, ti_g, oI_add, oI_sub, oI_mul, zt0, zt1, zt2, zt3, zt4, zt5, zt6, b146_24]
      try simp only [zput_s, zput_n, ti_g, oI_add, oI_sub, oI_mul]
      try simp only [zput_s, zput_n, ti_g, oI_add, oI_sub, oI_mul]
      exact l146_26 q0 (by omega) d1 G _ _ _ (by first | rfl | assumption) _ (FrV.refl G) (by first | omega | ((try simp only [zt0, zt1, zt2, zt3, zt4, zt5, zt6]); omega)) (Nat.lt_succ_self _)
    · refine zok_ck ((q0).1) ?_
      refine zok_c0 (s144 (q0) (by omega) (by omega) (G)) (fun t34 p34 => ?_)
      obtain ⟨f34, p34⟩ := p34
      have e34_2 : ∀ k, tg t34 (sr sh r0 2) k = tg t (sr sh r0 2) k := fun k => f34.eq q0 (i := 2) (by decide) (by decide) k
      have e34_3 : ∀ k, tg t34 (sr sh r0 3) k = tg t (sr sh r0 3) k := fun k => f34.eq q0 (i := 3) (by decide) (by decide) k
      have e34_4 : ∀ k, tg t34 (sr sh r0 4) k = tg t (sr sh r0 4) k := fun k => f34.eq q0 (i := 4) (by decide) (by decide) k
      have e34_10 : ∀ k, tg t34 (sr sh r0 10) k = tg t (sr sh r0 10) k := fun k => f34.eq q0 (i := 10) (by decide) (by decide) k
      have e34_11 : ∀ k, tg t34 (sr sh r0 11) k = tg t (sr sh r0 11) k := fun k => f34.eq q0 (i := 11) (by decide) (by decide) k
      try simp only [zt0, zt1, zt2, zt3, zt4, zt5, zt6, e34_2, e34_3, e34_4, e34_10, e34_11] at p34
      simp only [zput_s, zput_n, ti_g, oI_add, oI_sub, oI_mul, zt0, zt1, zt2, zt3, zt4, zt5, zt6, e34_2, e34_3, e34_4, e34_10, e34_11, b146_24]
      try simp only [zput_s, zput_n, ti_g, oI_add, oI_sub, oI_mul]
      try simp only [zput_s, zput_n, ti_g, oI_add, oI_sub, oI_mul]
      exact l146_26 q0 (by omega) d1 G _ _ _ (by first | rfl | assumption) _ ((FrV.trans (Ns := [0]) (FrV.refl (Ls := []) G) f34 (by decide) (by decide))) (by first | omega | ((try simp only [zt0, zt1, zt2, zt3, zt4, zt5, zt6, e34_2, e34_3, e34_4, e34_10, e34_11]); omega)) (Nat.lt_succ_self _)
/-! X9_lookAtBytes -/
theorem l148_J {sh : zSh} {t0 : zSt} {MB : Nat} {r0 : Nat} (q0 : zMd sh MB r0) {x1 : Int} (u1 : -2147483648 ≤ x1 ∧ x1 ≤ 2147483647) (d1 : 0 ≤ x1 ∧ x1 ≤ 13) (G : GI sh r0 t0) : ∀ (n : Nat), (∀ (x2 : Int) (o3 : Option zV) (o4 : Option zV) (o5 : Option zV) (o6 : Option zV) (wo3 : zisL o3 = false) (wo4 : zisL o4 = false) (wo5 : zisL o5 = false) (wo6 : zisL o6 = false) (t1 : zSt), FrV sh r0 [0] t0 t1 → (-2147483648 ≤ x2 ∧ x2 ≤ 2147483647) ∧ (1 ≤ x2 ∧ x2 ≤ 7) → (10000 * (7 - x2) + 5).toNat < n → zok (zev zP 148 46 [some (zR r0), some (zI (oI x1)), some (zI (oI x2)), o3, o4, o5, o6] [] (sh, t1)) (zq0 (fun t' => FrV sh r0 [0] t0 t' ∧ (True)) sh)) ∧ (∀ (x2 : Int) (x3 : Int) (x4 : Int) (x5 : Int) (o6 : Option zV) (wo6 : zisL o6 = false) (t1 : zSt), FrV sh r0 [0] t0 t1 → (-2147483648 ≤ x2 ∧ x2 ≤ 2147483647) ∧ (-2147483648 ≤ x3 ∧ x3 ≤ 2147483647) ∧ (-2147483648 ≤ x4 ∧ x4 ≤ 2147483647) ∧ (-2147483648 ≤ x5 ∧ x5 ≤ 2147483647) ∧ (1 ≤ x2 ∧ x2 ≤ 6) ∧ (x4 ≤ 4000) ∧ (-1 ≤ x5 ∧ x5 ≤ 4003) → (10000 * (6 - x2) + 6 + (4100 - x5)).toNat < n → zok (zev zP 148 108 [some (zR r0), some (zI (oI x1)), some (zI (oI x2)), some (zI (oI x3)), some (zI (oI x4)), some (zI (oI x5)), o6] [] (sh, t1)) (zq0 (fun t' => FrV sh r0 [0] t0 t' ∧ (True)) sh)) := by
  intro n
  induction n with
  | zero => exact ⟨(by intro x2 o3 o4 o5 o6 wo3 wo4 wo5 wo6 t1 f0 _ hm; omega), (by intro x2 x3 x4 x5 o6 wo6 t1 f0 _ hm; omega)⟩
  | succ n ih =>
    refine ⟨?_, ?_⟩
    · intro x2 o3 o4 o5 o6 wo3 wo4 wo5 wo6 t1 f0 hv hm
      have ha0_1 : (sk sh (sr sh r0 1)).2 = 21000 := by rw [q0.2.2.2.2.1]
      have ha0_2 : (sk sh (sr sh r0 2)).2 = 14 := by rw [q0.2.2.2.2.2.1]
      have ha0_3 : (sk sh (sr sh r0 3)).2 = 98 := by rw [q0.2.2.2.2.2.2.1]
      have ha0_4 : (sk sh (sr sh r0 4)).2 = 98 := by rw [q0.2.2.2.2.2.2.2.1]
      have ha0_8 : (sk sh (sr sh r0 8)).2 = 1500 := by rw [q0.2.2.2.2.2.2.2.2.1]
      have ha0_9 : (sk sh (sr sh r0 9)).2 = 10500 := by rw [q0.2.2.2.2.2.2.2.2.2.1]
      have ha0_10 : (sk sh (sr sh r0 10)).2 = 7 := by rw [q0.2.2.2.2.2.2.2.2.2.2.1]
      have ha0_11 : (sk sh (sr sh r0 11)).2 = 7 := by rw [q0.2.2.2.2.2.2.2.2.2.2.2.1]
      have ha0_12 : (sk sh (sr sh r0 12)).2 = 1500 := by rw [q0.2.2.2.2.2.2.2.2.2.2.2.2.1]
      have ha0_13 : (sk sh (sr sh r0 13)).2 = 1500 := by rw [q0.2.2.2.2.2.2.2.2.2.2.2.2.2.1]
      have ha0_14 : (sk sh (sr sh r0 14)).2 = 20 := by rw [q0.2.2.2.2.2.2.2.2.2.2.2.2.2.2]
      have e0_2 : ∀ k, tg t1 (sr sh r0 2) k = tg t0 (sr sh r0 2) k := fun k => f0.eq q0 (i := 2) (by decide) (by decide) k
      have e0_3 : ∀ k, tg t1 (sr sh r0 3) k = tg t0 (sr sh r0 3) k := fun k => f0.eq q0 (i := 3) (by decide) (by decide) k
      have e0_4 : ∀ k, tg t1 (sr sh r0 4) k = tg t0 (sr sh r0 4) k := fun k => f0.eq q0 (i := 4) (by decide) (by decide) k
      have e0_10 : ∀ k, tg t1 (sr sh r0 10) k = tg t0 (sr sh r0 10) k := fun k => f0.eq q0 (i := 10) (by decide) (by decide) k
      have e0_11 : ∀ k, tg t1 (sr sh r0 11) k = tg t0 (sr sh r0 11) k := fun k => f0.eq q0 (i := 11) (by decide) (by decide) k
      try simp only [zt0, zt1, zt2, zt3, zt4, zt5, zt6, e0_2, e0_3, e0_4, e0_10, e0_11] at hv
      try simp only [zt0, zt1, zt2, zt3, zt4, zt5, zt6, e0_2, e0_3, e0_4, e0_10, e0_11] at hm
      have gz := (f0.g).2.1 (7 * x1 + 2).toNat (by omega)
      try simp only [zt0, zt1, zt2, zt3, zt4, zt5, zt6, e0_2, e0_3, e0_4, e0_10, e0_11] at gz
      have g1_1 := And.intro (tg_lo t1 r0 5) (tg_hi t1 r0 5)
      try simp only [zput_s, zput_n, ti_g, oI_add, oI_sub, oI_mul]
      rw [b148_46 (o3 := o3) (wo3 := wo3) (o4 := o4) (wo4 := wo4) (o5 := o5) (wo5 := wo5) (o6 := o6) (wo6 := wo6)]
      try simp only [zput_s, zput_n, ti_g, oI_add, oI_sub, oI_mul]
      first | refine zok_le (by omega) (fun c2 => ?_) (fun c2 => ?_) | refine zok_if (fun c2 => ?_) (fun c2 => ?_)
      · exact q0_rt ⟨f0, trivial⟩
      · refine zok_ck ((q0).1) ?_
        first | refine zok_ne (by omega) (fun c3 => ?_) (fun c3 => ?_) | refine zok_if (fun c3 => ?_) (fun c3 => ?_)
        · exact q0_rt ⟨f0, trivial⟩
        · first | refine zok_ne (by omega) (fun c4 => ?_) (fun c4 => ?_) | refine zok_if (fun c4 => ?_) (fun c4 => ?_)
          · first | refine zok_lt (by omega) (fun c5 => ?_) (fun c5 => ?_) | refine zok_if (fun c5 => ?_) (fun c5 => ?_)
            · refine zok_ck ((q0).1) ?_
              refine zok_ck ⟨(by rw [(q0).2.2.2.2.2.2.2.1]), zin_o (by omega) (by omega) (by omega)⟩ ?_
              try rw [nN_o (a := ((7) * (x1)) + (x2)) (by omega) (by omega)]
              try simp only [zput_s, zput_n, ti_g, oI_add, oI_sub, oI_mul, zt0, zt1, zt2, zt3, zt4, zt5, zt6, e0_2, e0_3, e0_4, e0_10, e0_11]
              have gl6 := And.intro (tg_lo t1 (sr sh r0 4) ((((7) * (x1)) + (x2)).toNat)) (tg_hi t1 (sr sh r0 4) ((((7) * (x1)) + (x2)).toNat))
              have gm6 := (f0.g).2.1 ((((7) * (x1)) + (x2)).toNat) (by omega)
              try simp only [zt0, zt1, zt2, zt3, zt4, zt5, zt6, e0_2, e0_3, e0_4, e0_10, e0_11] at gl6
              try simp only [zt0, zt1, zt2, zt3, zt4, zt5, zt6, e0_2, e0_3, e0_4, e0_10, e0_11] at gm6
              refine zok_ck ((q0).1) ?_
              refine zok_ck ⟨(by rw [(q0).2.2.2.2.2.2.1]), zin_o (by omega) (by omega) (by omega)⟩ ?_
              try rw [nN_o (a := ((7) * (x1)) + (x2)) (by omega) (by omega)]
              try simp only [zput_s, zput_n, ti_g, oI_add, oI_sub, oI_mul, zt0, zt1, zt2, zt3, zt4, zt5, zt6, e0_2, e0_3, e0_4, e0_10, e0_11]
              have gl7 := And.intro (tg_lo t1 (sr sh r0 3) ((((7) * (x1)) + (x2)).toNat)) (tg_hi t1 (sr sh r0 3) ((((7) * (x1)) + (x2)).toNat))
              have gm7 := (f0.g).2.1 ((((7) * (x1)) + (x2)).toNat) (by omega)
              try simp only [zt0, zt1, zt2, zt3, zt4, zt5, zt6, e0_2, e0_3, e0_4, e0_10, e0_11] at gl7
              try simp only [zt0, zt1, zt2, zt3, zt4, zt5, zt6, e0_2, e0_3, e0_4, e0_10, e0_11] at gm7
              try simp only [zput_s, zput_n, ti_g, oI_add, oI_sub, oI_mul]
              exact ih.2 _ _ _ _ _ (by first | rfl | assumption) _ (f0) (by first | omega | ((try simp only [zt0, zt1, zt2, zt3, zt4, zt5, zt6, e0_2, e0_3, e0_4, e0_10, e0_11]); omega)) (by first | omega | ((try simp only [zt0, zt1, zt2, zt3, zt4, zt5, zt6, e0_2, e0_3, e0_4, e0_10, e0_11]); omega))
            · refine zok_ck ((q0).1) ?_
              refine zok_ck ⟨(by rw [(q0).2.2.2.2.2.2.1]), zin_o (by omega) (by omega) (by omega)⟩ ?_
              try rw [nN_o (a := ((7) * (x1)) + (x2)) (by omega) (by omega)]
              try simp only [zput_s, zput_n, ti_g, oI_add, oI_sub, oI_mul, zt0, zt1, zt2, zt3, zt4, zt5, zt6, e0_2, e0_3, e0_4, e0_10, e0_11]
              have gl8 := And.intro (tg_lo t1 (sr sh r0 3) ((((7) * (x1)) + (x2)).toNat)) (tg_hi t1 (sr sh r0 3) ((((7) * (x1)) + (x2)).toNat))
              have gm8 := (f0.g).2.1 ((((7) * (x1)) + (x2)).toNat) (by omega)
              try simp only [zt0, zt1, zt2, zt3, zt4, zt5, zt6, e0_2, e0_3, e0_4, e0_10, e0_11] at gl8
              try simp only [zt0, zt1, zt2, zt3, zt4, zt5, zt6, e0_2, e0_3, e0_4, e0_10, e0_11] at gm8
              try simp only [zput_s, zput_n, ti_g, oI_add, oI_sub, oI_mul]
              exact ih.2 _ _ _ _ _ (by first | rfl | assumption) _ (f0) (by first | omega | ((try simp only [zt0, zt1, zt2, zt3, zt4, zt5, zt6, e0_2, e0_3, e0_4, e0_10, e0_11]); omega)) (by first | omega | ((try simp only [zt0, zt1, zt2, zt3, zt4, zt5, zt6, e0_2, e0_3, e0_4, e0_10, e0_11]); omega))
          · refine zok_ck ((q0).1) ?_
            refine zok_pI (s147 (q0) (by omega) (by first | (omega) | ((try simp only [zt0, zt1, zt2, zt3, zt4, zt5, zt6, e0_2, e0_3, e0_4, e0_10, e0_11]); omega)) (f0.g)) (fun y9 u9 p9 => ?_)
            try simp only [zt0, zt1, zt2, zt3, zt4, zt5, zt6, e0_2, e0_3, e0_4, e0_10, e0_11] at p9
            try simp only [zput_s, zput_n, ti_g, oI_add, oI_sub, oI_mul]
            rw [b148_69 (o3 := o3) (wo3 := wo3) (o4 := o4) (wo4 := wo4) (o5 := o5) (wo5 := wo5) (o6 := o6) (wo6 := wo6)]
            try simp only [zput_s, zput_n, ti_g, oI_add, oI_sub, oI_mul]
            first | refine zok_lt (by omega) (fun c11 => ?_) (fun c11 => ?_) | refine zok_if (fun c11 => ?_) (fun c11 => ?_)
            · refine zok_ck ((q0).1) ?_
              refine zok_ck ⟨(by rw [(q0).2.2.2.2.2.2.2.1]), zin_o (by omega) (by omega) (by omega)⟩ ?_
              try rw [nN_o (a := ((7) * (x1)) + (x2)) (by omega) (by omega)]
              try simp only [zput_s, zput_n, ti_g, oI_add, oI_sub, oI_mul, zt0, zt1, zt2, zt3, zt4, zt5, zt6, e0_2, e0_3, e0_4, e0_10, e0_11]
              have gl12 := And.intro (tg_lo t1 (sr sh r0 4) ((((7) * (x1)) + (x2)).toNat)) (tg_hi t1 (sr sh r0 4) ((((7) * (x1)) + (x2)).toNat))
              have gm12 := (f0.g).2.1 ((((7) * (x1)) + (x2)).toNat) (by omega)
              try simp only [zt0, zt1, zt2, zt3, zt4, zt5, zt6, e0_2, e0_3, e0_4, e0_10, e0_11] at gl12
              try simp only [zt0, zt1, zt2, zt3, zt4, zt5, zt6, e0_2, e0_3, e0_4, e0_10, e0_11] at gm12
              refine zok_ck ((q0).1) ?_
              refine zok_ck ⟨(by rw [(q0).2.2.2.2.2.2.1]), zin_o (by omega) (by omega) (by omega)⟩ ?_
              try rw [nN_o (a := ((7) * (x1)) + (x2)) (by omega) (by omega)]
              try simp only [zput_s, zput_n, ti_g, oI_add, oI_sub, oI_mul, zt0, zt1, zt2, zt3, zt4, zt5, zt6, e0_2, e0_3, e0_4, e0_10, e0_11]
              have gl13 := And.intro (tg_lo t1 (sr sh r0 3) ((((7) * (x1)) + (x2)).toNat)) (tg_hi t1 (sr sh r0 3) ((((7) * (x1)) + (x2)).toNat))
              have gm13 := (f0.g).2.1 ((((7) * (x1)) + (x2)).toNat) (by omega)
              try simp only [zt0, zt1, zt2, zt3, zt4, zt5, zt6, e0_2, e0_3, e0_4, e0_10, e0_11] at gl13
              try simp only [zt0, zt1, zt2, zt3, zt4, zt5, zt6, e0_2, e0_3, e0_4, e0_10, e0_11] at gm13
              try simp only [zput_s, zput_n, ti_g, oI_add, oI_sub, oI_mul]
              exact ih.2 _ _ _ _ _ (by first | rfl | assumption) _ (f0) (by first | omega | ((try simp only [zt0, zt1, zt2, zt3, zt4, zt5, zt6, e0_2, e0_3, e0_4, e0_10, e0_11]); omega)) (by first | omega | ((try simp only [zt0, zt1, zt2, zt3, zt4, zt5, zt6, e0_2, e0_3, e0_4, e0_10, e0_11]); omega))
            · refine zok_ck ((q0).1) ?_
              refine zok_ck ⟨(by rw [(q0).2.2.2.2.2.2.1]), zin_o (by omega) (by omega) (by omega)⟩ ?_
              try rw [nN_o (a := ((7) * (x1)) + (x2)) (by omega) (by omega)]
              try simp only [zput_s, zput_n, ti_g, oI_add, oI_sub, oI_mul, zt0, zt1, zt2, zt3, zt4, zt5, zt6, e0_2, e0_3, e0_4, e0_10, e0_11]
              have gl14 := And.intro (tg_lo t1 (sr sh r0 3) ((((7) * (x1)) + (x2)).toNat)) (tg_hi t1 (sr sh r0 3) ((((7) * (x1)) + (x2)).toNat))
              have gm14 := (f0.g).2.1 ((((7) * (x1)) + (x2)).toNat) (by omega)
              try simp only [zt0, zt1, zt2, zt3, zt4, zt5, zt6, e0_2, e0_3, e0_4, e0_10, e0_11] at gl14
              try simp only [zt0, zt1, zt2, zt3, zt4, zt5, zt6, e0_2, e0_3, e0_4, e0_10, e0_11] at gm14
              try simp only [zput_s, zput_n, ti_g, oI_add, oI_sub, oI_mul]
              exact ih.2 _ _ _ _ _ (by first | rfl | assumption) _ (f0) (by first | omega | ((try simp only [zt0, zt1, zt2, zt3, zt4, zt5, zt6, e0_2, e0_3, e0_4, e0_10, e0_11]); omega)) (by first | omega | ((try simp only [zt0, zt1, zt2, zt3, zt4, zt5, zt6, e0_2, e0_3, e0_4, e0_10, e0_11]); omega))
    · intro x2 x3 x4 x5 o6 wo6 t1 f0 hv hm
      have ha0_1 : (sk sh (sr sh r0 1)).2 = 21000 := by rw [q0.2.2.2.2.1]
      have ha0_2 : (sk sh (sr sh r0 2)).2 = 14 := by rw [q0.2.2.2.2.2.1]
      have ha0_3 : (sk sh (sr sh r0 3)).2 = 98 := by rw [q0.2.2.2.2.2.2.1]
      have ha0_4 : (sk sh (sr sh r0 4)).2 = 98 := by rw [q0.2.2.2.2.2.2.2.1]
      have ha0_8 : (sk sh (sr sh r0 8)).2 = 1500 := by rw [q0.2.2.2.2.2.2.2.2.1]
      have ha0_9 : (sk sh (sr sh r0 9)).2 = 10500 := by rw [q0.2.2.2.2.2.2.2.2.2.1]
      have ha0_10 : (sk sh (sr sh r0 10)).2 = 7 := by rw [q0.2.2.2.2.2.2.2.2.2.2.1]
      have ha0_11 : (sk sh (sr sh r0 11)).2 = 7 := by rw [q0.2.2.2.2.2.2.2.2.2.2.2.1]
      have ha0_12 : (sk sh (sr sh r0 12)).2 = 1500 := by rw [q0.2.2.2.2.2.2.2.2.2.2.2.2.1]
      have ha0_13 : (sk sh (sr sh r0 13)).2 = 1500 := by rw [q0.2.2.2.2.2.2.2.2.2.2.2.2.2.1]
      have ha0_14 : (sk sh (sr sh r0 14)).2 = 20 := by rw [q0.2.2.2.2.2.2.2.2.2.2.2.2.2.2]
      have e0_2 : ∀ k, tg t1 (sr sh r0 2) k = tg t0 (sr sh r0 2) k := fun k => f0.eq q0 (i := 2) (by decide) (by decide) k
      have e0_3 : ∀ k, tg t1 (sr sh r0 3) k = tg t0 (sr sh r0 3) k := fun k => f0.eq q0 (i := 3) (by decide) (by decide) k
      have e0_4 : ∀ k, tg t1 (sr sh r0 4) k = tg t0 (sr sh r0 4) k := fun k => f0.eq q0 (i := 4) (by decide) (by decide) k
      have e0_10 : ∀ k, tg t1 (sr sh r0 10) k = tg t0 (sr sh r0 10) k := fun k => f0.eq q0 (i := 10) (by decide) (by decide) k
      have e0_11 : ∀ k, tg t1 (sr sh r0 11) k = tg t0 (sr sh r0 11) k := fun k => f0.eq q0 (i := 11) (by decide) (by decide) k
      try simp only [zt0, zt1, zt2, zt3, zt4, zt5, zt6, e0_2, e0_3, e0_4, e0_10, e0_11] at hv
      try simp only [zt0, zt1, zt2, zt3, zt4, zt5, zt6, e0_2, e0_3, e0_4, e0_10, e0_11] at hm
      try simp only [zput_s, zput_n, ti_g, oI_add, oI_sub, oI_mul]
      rw [b148_108 (o6 := o6) (wo6 := wo6)]
      try simp only [zput_s, zput_n, ti_g, oI_add, oI_sub, oI_mul]
      first | refine zok_le (by omega) (fun c2 => ?_) (fun c2 => ?_) | refine zok_if (fun c2 => ?_) (fun c2 => ?_)
      · try simp only [zput_s, zput_n, ti_g, oI_add, oI_sub, oI_mul]
        exact ih.1 _ _ _ _ _ (by first | rfl | assumption) (by first | rfl | assumption) (by first | rfl | assumption) (by first | rfl | assumption) _ (f0) (by first | omega | ((try simp only [zt0, zt1, zt2, zt3, zt4, zt5, zt6, e0_2, e0_3, e0_4, e0_10, e0_11]); omega)) (by first | omega | ((try simp only [zt0, zt1, zt2, zt3, zt4, zt5, zt6, e0_2, e0_3, e0_4, e0_10, e0_11]); omega))
      · first | refine zok_eq (by omega) (fun c3 => ?_) (fun c3 => ?_) | refine zok_if (fun c3 => ?_) (fun c3 => ?_)
        · refine zok_ck ((q0).1) ?_
          refine zok_pI (s128 (q0) (by omega) (by omega) (by first | (omega) | ((try simp only [zt0, zt1, zt2, zt3, zt4, zt5, zt6, e0_2, e0_3, e0_4, e0_10, e0_11]); omega)) (f0.g)) (fun y4 u4 p4 => ?_)
          try simp only [zt0, zt1, zt2, zt3, zt4, zt5, zt6, e0_2, e0_3, e0_4, e0_10, e0_11] at p4
          simp only [zput_s, zput_n, ti_g, oI_add, oI_sub, oI_mul, zt0, zt1, zt2, zt3, zt4, zt5, zt6, e0_2, e0_3, e0_4, e0_10, e0_11, b148_150]
          try simp only [zput_s, zput_n, ti_g, oI_add, oI_sub, oI_mul]
          refine zok_pI (s145 (by omega) (by omega)) (fun y6 u6 p6 => ?_)
          try simp only [zt0, zt1, zt2, zt3, zt4, zt5, zt6, e0_2, e0_3, e0_4, e0_10, e0_11] at p6
          simp only [zput_s, zput_n, ti_g, oI_add, oI_sub, oI_mul, zt0, zt1, zt2, zt3, zt4, zt5, zt6, e0_2, e0_3, e0_4, e0_10, e0_11, b148_153]
          try simp only [zput_s, zput_n, ti_g, oI_add, oI_sub, oI_mul]
          first | refine zok_ne (by omega) (fun c8 => ?_) (fun c8 => ?_) | refine zok_if (fun c8 => ?_) (fun c8 => ?_)
          · simp only [zput_s, zput_n, ti_g, oI_add, oI_sub, oI_mul, zt0, zt1, zt2, zt3, zt4, zt5, zt6, e0_2, e0_3, e0_4, e0_10, e0_11, b148_163]
            try simp only [zput_s, zput_n, ti_g, oI_add, oI_sub, oI_mul]
            try simp only [zput_s, zput_n, ti_g, oI_add, oI_sub, oI_mul]
            exact ih.2 _ _ _ _ _ (by first | rfl | assumption) _ (f0) (by first | omega | ((try simp only [zt0, zt1, zt2, zt3, zt4, zt5, zt6, e0_2, e0_3, e0_4, e0_10, e0_11]); omega)) (by first | omega | ((try simp only [zt0, zt1, zt2, zt3, zt4, zt5, zt6, e0_2, e0_3, e0_4, e0_10, e0_11]); omega))
          · refine zok_ck ((q0).1) ?_
            refine zok_c0 (s144 (q0) (by omega) (by omega) (f0.g)) (fun t10 p10 => ?_)
            obtain ⟨f10, p10⟩ := p10
            have e10_2 : ∀ k, tg t10 (sr sh r0 2) k = tg t1 (sr sh r0 2) k := fun k => f10.eq q0 (i := 2) (by decide) (by decide) k
            have e10_3 : ∀ k, tg t10 (sr sh r0 3) k = tg t1 (sr sh r0 3) k := fun k => f10.eq q0 (i := 3) (by decide) (by decide) k
            have e10_4 : ∀ k, tg t10 (sr sh r0 4) k = tg t1 (sr sh r0 4) k := fun k => f10.eq q0 (i := 4) (by decide) (by decide) k
            have e10_10 : ∀ k, tg t10 (sr sh r0 10) k = tg t1 (sr sh r0 10) k := fun k => f10.eq q0 (i := 10) (by decide) (by decide) k
            have e10_11 : ∀ k, tg t10 (sr sh r0 11) k = tg t1 (sr sh r0 11) k := fun k => f10.eq q0 (i := 11) (by decide) (by decide) k
            try simp only [zt0, zt1, zt2, zt3, zt4, zt5, zt6, e0_2, e0_3, e0_4, e0_10, e0_11, e10_2, e10_3, e10_4, e10_10, e10_11] at p10
            simp only [zput_s, zput_n, ti_g, oI_add, oI_sub, oI_mul, zt0, zt1, zt2, zt3, zt4, zt5, zt6, e0_2, e0_3, e0_4, e0_10, e0_11, e10_2, e10_3, e10_4, e10_10, e10_11, b148_163]
            try simp only [zput_s, zput_n, ti_g, oI_add, oI_sub, oI_mul]
            try simp only [zput_s, zput_n, ti_g, oI_add, oI_sub, oI_mul]
            exact ih.2 _ _ _ _ _ (by first | rfl | assumption) _ ((FrV.trans (Ns := [0]) (f0) f10 (by decide) (by decide))) (by first | omega | ((try simp only [zt0, zt1, zt2, zt3, zt4, zt5, zt6, e0_2, e0_3, e0_4, e0_10, e0_11, e10_2, e10_3, e10_4, e10_10, e10_11]); omega)) (by first | omega | ((try simp only [zt0, zt1, zt2, zt3, zt4, zt5, zt6, e0_2, e0_3, e0_4, e0_10, e0_11, e10_2, e10_3, e10_4, e10_10, e10_11]); omega))
        · refine zok_ck ((q0).1) ?_
          refine zok_pI (s130 (q0) (by omega) (by omega) (by first | (omega) | ((try simp only [zt0, zt1, zt2, zt3, zt4, zt5, zt6, e0_2, e0_3, e0_4, e0_10, e0_11]); omega)) (by first | (omega) | ((try simp only [zt0, zt1, zt2, zt3, zt4, zt5, zt6, e0_2, e0_3, e0_4, e0_10, e0_11]); omega)) (f0.g)) (fun y12 u12 p12 => ?_)
          try simp only [zt0, zt1, zt2, zt3, zt4, zt5, zt6, e0_2, e0_3, e0_4, e0_10, e0_11] at p12
          try simp only [zput_s, zput_n, ti_g, oI_add, oI_sub, oI_mul]
          rw [b148_127 (o6 := o6) (wo6 := wo6)]
          try simp only [zput_s, zput_n, ti_g, oI_add, oI_sub, oI_mul]
          first | refine zok_eq (by omega) (fun c14 => ?_) (fun c14 => ?_) | refine zok_if (fun c14 => ?_) (fun c14 => ?_)
          · refine zok_ck ((q0).1) ?_
            refine zok_pI (s128 (q0) (by omega) (by omega) (by first | (omega) | ((try simp only [zt0, zt1, zt2, zt3, zt4, zt5, zt6, e0_2, e0_3, e0_4, e0_10, e0_11]); omega)) (f0.g)) (fun y15 u15 p15 => ?_)
            try simp only [zt0, zt1, zt2, zt3, zt4, zt5, zt6, e0_2, e0_3, e0_4, e0_10, e0_11] at p15
            simp only [zput_s, zput_n, ti_g, oI_add, oI_sub, oI_mul, zt0, zt1, zt2, zt3, zt4, zt5, zt6, e0_2, e0_3, e0_4, e0_10, e0_11, b148_150]
            try simp only [zput_s, zput_n, ti_g, oI_add, oI_sub, oI_mul]
            refine zok_pI (s145 (by omega) (by omega)) (fun y17 u17 p17 => ?_)
            try simp only [zt0, zt1, zt2, zt3, zt4, zt5, zt6, e0_2, e0_3, e0_4, e0_10, e0_11] at p17
            simp only [zput_s, zput_n, ti_g, oI_add, oI_sub, oI_mul, zt0, zt1, zt2, zt3, zt4, zt5, zt6, e0_2, e0_3, e0_4, e0_10, e0_11, b148_153]
            try simp only [zput_s, zput_n, ti_g, oI_add, oI_sub, oI_mul]
            first | refine zok_ne (by omega) (fun c19 => ?_) (fun c19 => ?_) | refine zok_if (fun c19 => ?_) (fun c19 => ?_)
            · simp only [zput_s, zput_n, ti_g, oI_add, oI_sub, oI_mul, zt0, zt1, zt2, zt3, zt4, zt5, zt6, e0_2, e0_3, e0_4, e0_10, e0_11, b148_163]
              try simp only [zput_s, zput_n, ti_g, oI_add, oI_sub, oI_mul]
              try simp only [zput_s, zput_n, ti_g, oI_add, oI_sub, oI_mul]
              exact ih.2 _ _ _ _ _ (by first | rfl | assumption) _ (f0) (by first | omega | ((try simp only [zt0, zt1, zt2, zt3, zt4, zt5, zt6, e0_2, e0_3, e0_4, e0_10, e0_11]); omega)) (by first | omega | ((try simp only [zt0, zt1, zt2, zt3, zt4, zt5, zt6, e0_2, e0_3, e0_4, e0_10, e0_11]); omega))
            · refine zok_ck ((q0).1) ?_
              refine zok_c0 (s144 (q0) (by omega) (by omega) (f0.g)) (fun t21 p21 => ?_)
              obtain ⟨f21, p21⟩ := p21
              have e21_2 : ∀ k, tg t21 (sr sh r0 2) k = tg t1 (sr sh r0 2) k := fun k => f21.eq q0 (i := 2) (by decide) (by decide) k
              have e21_3 : ∀ k, tg t21 (sr sh r0 3) k = tg t1 (sr sh r0 3) k := fun k => f21.eq q0 (i := 3) (by decide) (by decide) k
              have e21_4 : ∀ k, tg t21 (sr sh r0 4) k = tg t1 (sr sh r0 4) k := fun k => f21.eq q0 (i := 4) (by decide) (by decide) k
              have e21_10 : ∀ k, tg t21 (sr sh r0 10) k = tg t1 (sr sh r0 10) k := fun k => f21.eq q0 (i := 10) (by decide) (by decide) k
              have e21_11 : ∀ k, tg t21 (sr sh r0 11) k = tg t1 (sr sh r0 11) k := fun k => f21.eq q0 (i := 11) (by decide) (by decide) k
              try simp only [zt0, zt1, zt2, zt3, zt4, zt5, zt6, e0_2, e0_3, e0_4, e0_10, e0_11, e21_2, e21_3, e21_4, e21_10, e21_11] at p21
              simp only [zput_s, zput_n, ti_g, oI_add, oI_sub, oI_mul, zt0, zt1, zt2, zt3, zt4, zt5, zt6, e0_2, e0_3, e0_4, e0_10, e0_11, e21_2, e21_3, e21_4, e21_10, e21_11, b148_163]
              try simp only [zput_s, zput_n, ti_g, oI_add, oI_sub, oI_mul]
              try simp only [zput_s, zput_n, ti_g, oI_add, oI_sub, oI_mul]
              exact ih.2 _ _ _ _ _ (by first | rfl | assumption) _ ((FrV.trans (Ns := [0]) (f0) f21 (by decide) (by decide))) (by first | omega | ((try simp only [zt0, zt1, zt2, zt3, zt4, zt5, zt6, e0_2, e0_3, e0_4, e0_10, e0_11, e21_2, e21_3, e21_4, e21_10, e21_11]); omega)) (by first | omega | ((try simp only [zt0, zt1, zt2, zt3, zt4, zt5, zt6, e0_2, e0_3, e0_4, e0_10, e0_11, e21_2, e21_3, e21_4, e21_10, e21_11]); omega))
          · first | refine zok_ne (by omega) (fun c23 => ?_) (fun c23 => ?_) | refine zok_if (fun c23 => ?_) (fun c23 => ?_)
            · simp only [zput_s, zput_n, ti_g, oI_add, oI_sub, oI_mul, zt0, zt1, zt2, zt3, zt4, zt5, zt6, e0_2, e0_3, e0_4, e0_10, e0_11, b148_163]
              try simp only [zput_s, zput_n, ti_g, oI_add, oI_sub, oI_mul]
              first | refine zok_eq (by omega) (fun c25 => ?_) (fun c25 => ?_) | refine zok_if (fun c25 => ?_) (fun c25 => ?_)
              · try simp only [zput_s, zput_n, ti_g, oI_add, oI_sub, oI_mul]
                exact ih.2 _ _ _ _ _ (by first | rfl | assumption) _ (f0) (by first | omega | ((try simp only [zt0, zt1, zt2, zt3, zt4, zt5, zt6, e0_2, e0_3, e0_4, e0_10, e0_11]); omega)) (by first | omega | ((try simp only [zt0, zt1, zt2, zt3, zt4, zt5, zt6, e0_2, e0_3, e0_4, e0_10, e0_11]); omega))
              · try simp only [zput_s, zput_n, ti_g, oI_add, oI_sub, oI_mul]
                exact ih.2 _ _ _ _ _ (by first | rfl | assumption) _ (f0) (by first | omega | ((try simp only [zt0, zt1, zt2, zt3, zt4, zt5, zt6, e0_2, e0_3, e0_4, e0_10, e0_11]); omega)) (by first | omega | ((try simp only [zt0, zt1, zt2, zt3, zt4, zt5, zt6, e0_2, e0_3, e0_4, e0_10, e0_11]); omega))
            · refine zok_ck ((q0).1) ?_
              refine zok_pI (s128 (q0) (by omega) (by omega) (by first | (omega) | ((try simp only [zt0, zt1, zt2, zt3, zt4, zt5, zt6, e0_2, e0_3, e0_4, e0_10, e0_11]); omega)) (f0.g)) (fun y26 u26 p26 => ?_)
              try simp only [zt0, zt1, zt2, zt3, zt4, zt5, zt6, e0_2, e0_3, e0_4, e0_10, e0_11] at p26
              simp only [zput_s, zput_n, ti_g, oI_add, oI_sub, oI_mul, zt0, zt1, zt2, zt3, zt4, zt5, zt6, e0_2, e0_3, e0_4, e0_10, e0_11, b148_150]
              try simp only [zput_s, zput_n, ti_g, oI_add, oI_sub, oI_mul]
              refine zok_pI (s145 (by omega) (by omega)) (fun y28 u28 p28 => ?_)
              try simp only [zt0, zt1, zt2, zt3, zt4, zt5, zt6, e0_2, e0_3, e0_4, e0_10, e0_11] at p28
              simp only [zput_s, zput_n, ti_g, oI_add, oI_sub, oI_mul, zt0, zt1, zt2, zt3, zt4, zt5, zt6, e0_2, e0_3, e0_4, e0_10, e0_11, b148_153]
              try simp only [zput_s, zput_n, ti_g, oI_add, oI_sub, oI_mul]
              first | refine zok_ne (by omega) (fun c30 => ?_) (fun c30 => ?_) | refine zok_if (fun c30 => ?_) (fun c30 => ?_)
              · simp only [zput_s, zput_n, ti_g, oI_add, oI_sub, oI_mul, zt0, zt1, zt2, zt3, zt4, zt5, zt6, e0_2, e0_3, e0_4, e0_10, e0_11, b148_163]
                try simp only [zput_s, zput_n, ti_g, oI_add, oI_sub, oI_mul]
                first | refine zok_eq (by omega) (fun c32 => ?_) (fun c32 => ?_) | refine zok_if (fun c32 => ?_) (fun c32 => ?_)
                · try simp only [zput_s, zput_n, ti_g, oI_add, oI_sub, oI_mul]
                  exact ih.2 _ _ _ _ _ (by first | rfl | assumption) _ (f0) (by first | omega | ((try simp only [zt0, zt1, zt2, zt3, zt4, zt5, zt6, e0_2, e0_3, e0_4, e0_10, e0_11]); omega)) (by first | omega | ((try simp only [zt0, zt1, zt2, zt3, zt4, zt5, zt6, e0_2, e0_3, e0_4, e0_10, e0_11]); omega))
                · try simp only [zput_s, zput_n, ti_g, oI_add, oI_sub, oI_mul]
                  exact ih.2 _ _ _ _ _ (by first | rfl | assumption) _ (f0) (by first | omega | ((try simp only [zt0, zt1, zt2, zt3, zt4, zt5, zt6, e0_2, e0_3, e0_4, e0_10, e0_11]); omega)) (by first | omega | ((try simp only [zt0, zt1, zt2, zt3, zt4, zt5, zt6, e0_2, e0_3, e0_4, e0_10, e0_11]); omega))
              · refine zok_ck ((q0).1) ?_
                refine zok_c0 (s144 (q0) (by omega) (by omega) (f0.g)) (fun t33 p33 => ?_)
                obtain ⟨f33, p33⟩ := p33
                have e33_2 : ∀ k, tg t33 (sr sh r0 2) k = tg t1 (sr sh r0 2) k := fun k => f33.eq q0 (i := 2) (by decide) (by decide) k
                have e33_3 : ∀ k, tg t33 (sr sh r0 3) k = tg t1 (sr sh r0 3) k := fun k => f33.eq q0 (i := 3) (by decide) (by decide) k
                have e33_4 : ∀ k, tg t33 (sr sh r0 4) k = tg t1 (sr sh r0 4) k := fun k => f33.eq q0 (i := 4) (by decide) (by decide) k
                have e33_10 : ∀ k, tg t33 (sr sh r0 10) k = tg t1 (sr sh r0 10) k := fun k => f33.eq q0 (i := 10) (by decide) (by decide) k
                have e33_11 : ∀ k, tg t33 (sr sh r0 11) k = tg t1 (sr sh r0 11) k := fun k => f33.eq q0 (i := 11) (by decide) (by decide) k
                try simp only [zt0, zt1, zt2, zt3, zt4, zt5, zt6, e0_2, e0_3, e0_4, e0_10, e0_11, e33_2, e33_3, e33_4, e33_10, e33_11] at p33
                simp only [zput_s, zput_n, ti_g, oI_add, oI_sub, oI_mul, zt0, zt1, zt2, zt3, zt4, zt5, zt6, e0_2, e0_3, e0_4, e0_10, e0_11, e33_2, e33_3, e33_4, e33_10, e33_11, b148_163]
                try simp only [zput_s, zput_n, ti_g, oI_add, oI_sub, oI_mul]
                first | refine zok_eq (by omega) (fun c35 => ?_) (fun c35 => ?_) | refine zok_if (fun c35 => ?_) (fun c35 => ?_)
                · try simp only [zput_s, zput_n, ti_g, oI_add, oI_sub, oI_mul]
                  exact ih.2 _ _ _ _ _ (by first | rfl | assumption) _ ((FrV.trans (Ns := [0]) (f0) f33 (by decide) (by decide))) (by first | omega | ((try simp only [zt0, zt1, zt2, zt3, zt4, zt5, zt6, e0_2, e0_3, e0_4, e0_10, e0_11, e33_2, e33_3, e33_4, e33_10, e33_11]); omega)) (by first | omega | ((try simp only [zt0, zt1, zt2, zt3, zt4, zt5, zt6, e0_2, e0_3, e0_4, e0_10, e0_11, e33_2, e33_3, e33_4, e33_10, e33_11]); omega))
                · try simp only [zput_s, zput_n, ti_g, oI_add, oI_sub, oI_mul]
                  exact ih.2 _ _ _ _ _ (by first | rfl | assumption) _ ((FrV.trans (Ns := [0]) (f0) f33 (by decide) (by decide))) (by first | omega | ((try simp only [zt0, zt1, zt2, zt3, zt4, zt5, zt6, e0_2, e0_3, e0_4, e0_10, e0_11, e33_2, e33_3, e33_4, e33_10, e33_11]); omega)) (by first | omega | ((try simp only [zt0, zt1, zt2, zt3, zt4, zt5, zt6, e0_2, e0_3, e0_4, e0_10, e0_11, e33_2, e33_3, e33_4, e33_10, e33_11]); omega))
theorem l148_46 {sh : zSh} {t0 : zSt} {MB : Nat} {r0 : Nat} (q0 : zMd sh MB r0) {x1 : Int} (u1 : -2147483648 ≤ x1 ∧ x1 ≤ 2147483647) (d1 : 0 ≤ x1 ∧ x1 ≤ 13) (G : GI sh r0 t0) : ∀ (n : Nat) (x2 : Int) (o3 : Option zV) (o4 : Option zV) (o5 : Option zV) (o6 : Option zV) (wo3 : zisL o3 = false) (wo4 : zisL o4 = false) (wo5 : zisL o5 = false) (wo6 : zisL o6 = false) (t1 : zSt), FrV sh r0 [0] t0 t1 → (-2147483648 ≤ x2 ∧ x2 ≤ 2147483647) ∧ (1 ≤ x2 ∧ x2 ≤ 7) → (10000 * (7 - x2) + 5).toNat < n → zok (zev zP 148 46 [some (zR r0), some (zI (oI x1)), some (zI (oI x2)), o3, o4, o5, o6] [] (sh, t1)) (zq0 (fun t' => FrV sh r0 [0] t0 t' ∧ (True)) sh) := fun n => (l148_J  q0 u1 d1 G n).1
theorem l148_108 {sh : zSh} {t0 : zSt} {MB : Nat} {r0 : Nat} (q0 : zMd sh MB r0) {x1 : Int} (u1 : -2147483648 ≤ x1 ∧ x1 ≤ 2147483647) (d1 : 0 ≤ x1 ∧ x1 ≤ 13) (G : GI sh r0 t0) : ∀ (n : Nat) (x2 : Int) (x3 : Int) (x4 : Int) (x5 : Int) (o6 : Option zV) (wo6 : zisL o6 = false) (t1 : zSt), FrV sh r0 [0] t0 t1 → (-2147483648 ≤ x2 ∧ x2 ≤ 2147483647) ∧ (-2147483648 ≤ x3 ∧ x3 ≤ 2147483647) ∧ (-2147483648 ≤ x4 ∧ x4 ≤ 2147483647) ∧ (-2147483648 ≤ x5 ∧ x5 ≤ 2147483647) ∧ (1 ≤ x2 ∧ x2 ≤ 6) ∧ (x4 ≤ 4000) ∧ (-1 ≤ x5 ∧ x5 ≤ 4003) → (10000 * (6 - x2) + 6 + (4100 - x5)).toNat < n → zok (zev zP 148 108 [some (zR r0), some (zI (oI x1)), some (zI (oI x2)), some (zI (oI x3)), some (zI (oI x4)), some (zI (oI x5)), o6] [] (sh, t1)) (zq0 (fun t' => FrV sh r0 [0] t0 t' ∧ (True)) sh) := fun n => (l148_J  q0 u1 d1 G n).2
theorem l148_2 {sh : zSh} {t0 : zSt} {MB : Nat} {r0 : Nat} (q0 : zMd sh MB r0) {x1 : Int} (u1 : -2147483648 ≤ x1 ∧ x1 ≤ 2147483647) (d1 : 0 ≤ x1 ∧ x1 ≤ 13) (G : GI sh r0 t0) : ∀ (n : Nat) (x2 : Int)  (t1 : zSt), FrV sh r0 [0] t0 t1 → (-2147483648 ≤ x2 ∧ x2 ≤ 2147483647) ∧ (0 ≤ x2) → (tg t1 (sr sh r0 2) (x1).toNat - x2).toNat < n → zok (zev zP 148 2 [some (zR r0), some (zI (oI x1)), some (zI (oI x2)), none, none, none, none] [] (sh, t1)) (zq0 (fun t' => FrV sh r0 [0] t0 t' ∧ (True)) sh) := by
  intro n
  induction n with
  | zero => intro x2  t1 f0 _ hm; omega
  | succ n ih =>
    intro x2  t1 f0 hv hm
    have ha0_1 : (sk sh (sr sh r0 1)).2 = 21000 := by rw [q0.2.2.2.2.1]
    have ha0_2 : (sk sh (sr sh r0 2)).2 = 14 := by rw [q0.2.2.2.2.2.1]
    have ha0_3 : (sk sh (sr sh r0 3)).2 = 98 := by rw [q0.2.2.2.2.2.2.1]
    have ha0_4 : (sk sh (sr sh r0 4)).2 = 98 := by rw [q0.2.2.2.2.2.2.2.1]
    have ha0_8 : (sk sh (sr sh r0 8)).2 = 1500 := by rw [q0.2.2.2.2.2.2.2.2.1]
    have ha0_9 : (sk sh (sr sh r0 9)).2 = 10500 := by rw [q0.2.2.2.2.2.2.2.2.2.1]
    have ha0_10 : (sk sh (sr sh r0 10)).2 = 7 := by rw [q0.2.2.2.2.2.2.2.2.2.2.1]
    have ha0_11 : (sk sh (sr sh r0 11)).2 = 7 := by rw [q0.2.2.2.2.2.2.2.2.2.2.2.1]
    have ha0_12 : (sk sh (sr sh r0 12)).2 = 1500 := by rw [q0.2.2.2.2.2.2.2.2.2.2.2.2.1]
    have ha0_13 : (sk sh (sr sh r0 13)).2 = 1500 := by rw [q0.2.2.2.2.2.2.2.2.2.2.2.2.2.1]
    have ha0_14 : (sk sh (sr sh r0 14)).2 = 20 := by rw [q0.2.2.2.2.2.2.2.2.2.2.2.2.2.2]
    have e0_2 : ∀ k, tg t1 (sr sh r0 2) k = tg t0 (sr sh r0 2) k := fun k => f0.eq q0 (i := 2) (by decide) (by decide) k
    have e0_3 : ∀ k, tg t1 (sr sh r0 3) k = tg t0 (sr sh r0 3) k := fun k => f0.eq q0 (i := 3) (by decide) (by decide) k
    have e0_4 : ∀ k, tg t1 (sr sh r0 4) k = tg t0 (sr sh r0 4) k := fun k => f0.eq q0 (i := 4) (by decide) (by decide) k
    have e0_10 : ∀ k, tg t1 (sr sh r0 10) k = tg t0 (sr sh r0 10) k := fun k => f0.eq q0 (i := 10) (by decide) (by decide) k
    have e0_11 : ∀ k, tg t1 (sr sh r0 11) k = tg t0 (sr sh r0 11) k := fun k => f0.eq q0 (i := 11) (by decide) (by decide) k
    try simp only [zt0, zt1, zt2, zt3, zt4, zt5, zt6, e0_2, e0_3, e0_4, e0_10, e0_11] at hv
    try simp only [zt0, zt1, zt2, zt3, zt4, zt5, zt6, e0_2, e0_3, e0_4, e0_10, e0_11] at hm
    have gz := (f0.g).1 (x1).toNat (by omega)
    try simp only [zt0, zt1, zt2, zt3, zt4, zt5, zt6, e0_2, e0_3, e0_4, e0_10, e0_11] at gz
    rw [b148_2]
    try simp only [zput_s, zput_n, ti_g, oI_add, oI_sub, oI_mul]
    refine zok_ck ((q0).1) ?_
    refine zok_ck ⟨(by rw [(q0).2.2.2.2.2.1]), zin_o (by omega) (by omega) (by omega)⟩ ?_
    try rw [nN_o (a := x1) (by omega) (by omega)]
    try simp only [zput_s, zput_n, ti_g, oI_add, oI_sub, oI_mul, zt0, zt1, zt2, zt3, zt4, zt5, zt6, e0_2, e0_3, e0_4, e0_10, e0_11]
    have gl2 := And.intro (tg_lo t1 (sr sh r0 2) ((x1).toNat)) (tg_hi t1 (sr sh r0 2) ((x1).toNat))
    have gm2 := (f0.g).1 ((x1).toNat) (by omega)
    try simp only [zt0, zt1, zt2, zt3, zt4, zt5, zt6, e0_2, e0_3, e0_4, e0_10, e0_11] at gl2
    try simp only [zt0, zt1, zt2, zt3, zt4, zt5, zt6, e0_2, e0_3, e0_4, e0_10, e0_11] at gm2
    first | refine zok_le (by omega) (fun c3 => ?_) (fun c3 => ?_) | refine zok_if (fun c3 => ?_) (fun c3 => ?_)
    · try simp only [zput_s, zput_n, ti_g, oI_add, oI_sub, oI_mul]
      exact l148_46 q0 (by omega) d1 G _ _ _ _ _ _ (by first | rfl | assumption) (by first | rfl | assumption) (by first | rfl | assumption) (by first | rfl | assumption) _ (f0) (by first | omega | ((try simp only [zt0, zt1, zt2, zt3, zt4, zt5, zt6, e0_2, e0_3, e0_4, e0_10, e0_11]); omega)) (Nat.lt_succ_self _)
    · refine zok_ck ((q0).1) ?_
      refine zok_pI (s128 (q0) (by omega) (by omega) (by first | (omega) | ((try simp only [zt0, zt1, zt2, zt3, zt4, zt5, zt6, e0_2, e0_3, e0_4, e0_10, e0_11]); omega)) (f0.g)) (fun y4 u4 p4 => ?_)
      try simp only [zt0, zt1, zt2, zt3, zt4, zt5, zt6, e0_2, e0_3, e0_4, e0_10, e0_11] at p4
      simp only [zput_s, zput_n, ti_g, oI_add, oI_sub, oI_mul, zt0, zt1, zt2, zt3, zt4, zt5, zt6, e0_2, e0_3, e0_4, e0_10, e0_11, b148_18]
      try simp only [zput_s, zput_n, ti_g, oI_add, oI_sub, oI_mul]
      first | refine zok_ne (by omega) (fun c6 => ?_) (fun c6 => ?_) | refine zok_if (fun c6 => ?_) (fun c6 => ?_)
      · simp only [zput_s, zput_n, ti_g, oI_add, oI_sub, oI_mul, zt0, zt1, zt2, zt3, zt4, zt5, zt6, e0_2, e0_3, e0_4, e0_10, e0_11, b148_38]
        try simp only [zput_s, zput_n, ti_g, oI_add, oI_sub, oI_mul]
        try simp only [zput_s, zput_n, ti_g, oI_add, oI_sub, oI_mul]
        exact ih _ _ (f0) (by first | omega | ((try simp only [zt0, zt1, zt2, zt3, zt4, zt5, zt6, e0_2, e0_3, e0_4, e0_10, e0_11]); omega)) (by first | omega | ((try simp only [zt0, zt1, zt2, zt3, zt4, zt5, zt6, e0_2, e0_3, e0_4, e0_10, e0_11]); omega))
      · refine zok_ck ((q0).1) ?_
        refine zok_pI (s130 (q0) (by omega) (by omega) (by first | (omega) | ((try simp only [zt0, zt1, zt2, zt3, zt4, zt5, zt6, e0_2, e0_3, e0_4, e0_10, e0_11]); omega)) (by first | (omega) | ((try simp only [zt0, zt1, zt2, zt3, zt4, zt5, zt6, e0_2, e0_3, e0_4, e0_10, e0_11]); omega)) (f0.g)) (fun y8 u8 p8 => ?_)
        try simp only [zt0, zt1, zt2, zt3, zt4, zt5, zt6, e0_2, e0_3, e0_4, e0_10, e0_11] at p8
        simp only [zput_s, zput_n, ti_g, oI_add, oI_sub, oI_mul, zt0, zt1, zt2, zt3, zt4, zt5, zt6, e0_2, e0_3, e0_4, e0_10, e0_11, b148_29]
        try simp only [zput_s, zput_n, ti_g, oI_add, oI_sub, oI_mul]
        first | refine zok_ne (by omega) (fun c10 => ?_) (fun c10 => ?_) | refine zok_if (fun c10 => ?_) (fun c10 => ?_)
        · simp only [zput_s, zput_n, ti_g, oI_add, oI_sub, oI_mul, zt0, zt1, zt2, zt3, zt4, zt5, zt6, e0_2, e0_3, e0_4, e0_10, e0_11, b148_38]
          try simp only [zput_s, zput_n, ti_g, oI_add, oI_sub, oI_mul]
          try simp only [zput_s, zput_n, ti_g, oI_add, oI_sub, oI_mul]
          exact ih _ _ (f0) (by first | omega | ((try simp only [zt0, zt1, zt2, zt3, zt4, zt5, zt6, e0_2, e0_3, e0_4, e0_10, e0_11]); omega)) (by first | omega | ((try simp only [zt0, zt1, zt2, zt3, zt4, zt5, zt6, e0_2, e0_3, e0_4, e0_10, e0_11]); omega))
        · refine zok_ck ((q0).1) ?_
          refine zok_c0 (s144 (q0) (by omega) (by omega) (f0.g)) (fun t12 p12 => ?_)
          obtain ⟨f12, p12⟩ := p12
          have e12_2 : ∀ k, tg t12 (sr sh r0 2) k = tg t1 (sr sh r0 2) k := fun k => f12.eq q0 (i := 2) (by decide) (by decide) k
          have e12_3 : ∀ k, tg t12 (sr sh r0 3) k = tg t1 (sr sh r0 3) k := fun k => f12.eq q0 (i := 3) (by decide) (by decide) k
          have e12_4 : ∀ k, tg t12 (sr sh r0 4) k = tg t1 (sr sh r0 4) k := fun k => f12.eq q0 (i := 4) (by decide) (by decide) k
          have e12_10 : ∀ k, tg t12 (sr sh r0 10) k = tg t1 (sr sh r0 10) k := fun k => f12.eq q0 (i := 10) (by decide) (by decide) k
          have e12_11 : ∀ k, tg t12 (sr sh r0 11) k = tg t1 (sr sh r0 11) k := fun k => f12.eq q0 (i := 11) (by decide) (by decide) k
          try simp only [zt0, zt1, zt2, zt3, zt4, zt5, zt6, e0_2, e0_3, e0_4, e0_10, e0_11, e12_2, e12_3, e12_4, e12_10, e12_11] at p12
          simp only [zput_s, zput_n, ti_g, oI_add, oI_sub, oI_mul, zt0, zt1, zt2, zt3, zt4, zt5, zt6, e0_2, e0_3, e0_4, e0_10, e0_11, e12_2, e12_3, e12_4, e12_10, e12_11, b148_38]
          try simp only [zput_s, zput_n, ti_g, oI_add, oI_sub, oI_mul]
          try simp only [zput_s, zput_n, ti_g, oI_add, oI_sub, oI_mul]
          exact ih _ _ ((FrV.trans (Ns := [0]) (f0) f12 (by decide) (by decide))) (by first | omega | ((try simp only [zt0, zt1, zt2, zt3, zt4, zt5, zt6, e0_2, e0_3, e0_4, e0_10, e0_11, e12_2, e12_3, e12_4, e12_10, e12_11]); omega)) (by first | omega | ((try simp only [zt0, zt1, zt2, zt3, zt4, zt5, zt6, e0_2, e0_3, e0_4, e0_10, e0_11, e12_2, e12_3, e12_4, e12_10, e12_11]); omega))
theorem s148 {sh : zSh} {t : zSt} {MB : Nat} {r0 : Nat} (q0 : zMd sh MB r0) {x1 : Int} (u1 : -2147483648 ≤ x1 ∧ x1 ≤ 2147483647) (d1 : 0 ≤ x1 ∧ x1 ≤ 13) (G : GI sh r0 t) : zok (zcl zP 148 [zR r0, zI (oI x1)] (sh, t)) (zq0 (fun t' => FrV sh r0 [0] t t' ∧ (True)) sh) := by
  have ha0_1 : (sk sh (sr sh r0 1)).2 = 21000 := by rw [q0.2.2.2.2.1]
  have ha0_2 : (sk sh (sr sh r0 2)).2 = 14 := by rw [q0.2.2.2.2.2.1]
  have ha0_3 : (sk sh (sr sh r0 3)).2 = 98 := by rw [q0.2.2.2.2.2.2.1]
  have ha0_4 : (sk sh (sr sh r0 4)).2 = 98 := by rw [q0.2.2.2.2.2.2.2.1]
  have ha0_8 : (sk sh (sr sh r0 8)).2 = 1500 := by rw [q0.2.2.2.2.2.2.2.2.1]
  have ha0_9 : (sk sh (sr sh r0 9)).2 = 10500 := by rw [q0.2.2.2.2.2.2.2.2.2.1]
  have ha0_10 : (sk sh (sr sh r0 10)).2 = 7 := by rw [q0.2.2.2.2.2.2.2.2.2.2.1]
  have ha0_11 : (sk sh (sr sh r0 11)).2 = 7 := by rw [q0.2.2.2.2.2.2.2.2.2.2.2.1]
  have ha0_12 : (sk sh (sr sh r0 12)).2 = 1500 := by rw [q0.2.2.2.2.2.2.2.2.2.2.2.2.1]
  have ha0_13 : (sk sh (sr sh r0 13)).2 = 1500 := by rw [q0.2.2.2.2.2.2.2.2.2.2.2.2.2.1]
  have ha0_14 : (sk sh (sr sh r0 14)).2 = 20 := by rw [q0.2.2.2.2.2.2.2.2.2.2.2.2.2.2]
  rw [b148_0]
  try simp only [zput_s, zput_n, ti_g, oI_add, oI_sub, oI_mul]
  try simp only [zput_s, zput_n, ti_g, oI_add, oI_sub, oI_mul]
  exact l148_2 q0 (by omega) d1 G _ _ _ (FrV.refl G) (by first | omega | ((try simp only [zt0, zt1, zt2, zt3, zt4, zt5, zt6]); omega)) (Nat.lt_succ_self _)
/-! X9_lookAtHost -/
theorem s149 {sh : zSh} {t : zSt} {MB : Nat} {r0 : Nat} (q0 : zMd sh MB r0) {x1 : Int} (u1 : -2147483648 ≤ x1 ∧ x1 ≤ 2147483647) (d1 : 0 ≤ x1 ∧ x1 ≤ 13) (d2 : tg t (sr sh r0 2) (x1).toNat ≤ 400) (G : GI sh r0 t) : zok (zcl zP 149 [zR r0, zI (oI x1)] (sh, t)) (zq0 (fun t' => FrV sh r0 [0, 14] t t' ∧ (True)) sh) := by
  have ha0_1 : (sk sh (sr sh r0 1)).2 = 21000 := by rw [q0.2.2.2.2.1]
  have ha0_2 : (sk sh (sr sh r0 2)).2 = 14 := by rw [q0.2.2.2.2.2.1]
  have ha0_3 : (sk sh (sr sh r0 3)).2 = 98 := by rw [q0.2.2.2.2.2.2.1]
  have ha0_4 : (sk sh (sr sh r0 4)).2 = 98 := by rw [q0.2.2.2.2.2.2.2.1]
  have ha0_8 : (sk sh (sr sh r0 8)).2 = 1500 := by rw [q0.2.2.2.2.2.2.2.2.1]
  have ha0_9 : (sk sh (sr sh r0 9)).2 = 10500 := by rw [q0.2.2.2.2.2.2.2.2.2.1]
  have ha0_10 : (sk sh (sr sh r0 10)).2 = 7 := by rw [q0.2.2.2.2.2.2.2.2.2.2.1]
  have ha0_11 : (sk sh (sr sh r0 11)).2 = 7 := by rw [q0.2.2.2.2.2.2.2.2.2.2.2.1]
  have ha0_12 : (sk sh (sr sh r0 12)).2 = 1500 := by rw [q0.2.2.2.2.2.2.2.2.2.2.2.2.1]
  have ha0_13 : (sk sh (sr sh r0 13)).2 = 1500 := by rw [q0.2.2.2.2.2.2.2.2.2.2.2.2.2.1]
  have ha0_14 : (sk sh (sr sh r0 14)).2 = 20 := by rw [q0.2.2.2.2.2.2.2.2.2.2.2.2.2.2]
  have gz := G.2.1 (7 * x1 + 2).toNat (by omega)
  rw [b149_0]
  try simp only [zput_s, zput_n, ti_g, oI_add, oI_sub, oI_mul]
  refine zok_ck ((q0).1) ?_
  refine zok_pI (s147 (q0) (by omega) (by first | (omega) | ((try simp only [zt0, zt1, zt2, zt3, zt4, zt5, zt6]); omega)) (G)) (fun y2 u2 p2 => ?_)
  try simp only [zt0, zt1, zt2, zt3, zt4, zt5, zt6] at p2
  have g3_1 := And.intro (tg_lo t r0 5) (tg_hi t r0 5)
  simp only [zput_s, zput_n, ti_g, oI_add, oI_sub, oI_mul, zt0, zt1, zt2, zt3, zt4, zt5, zt6, b149_5]
  try simp only [zput_s, zput_n, ti_g, oI_add, oI_sub, oI_mul]
  first | refine zok_lt (by omega) (fun c4 => ?_) (fun c4 => ?_) | refine zok_if (fun c4 => ?_) (fun c4 => ?_)
  · try simp only [zput_s, zput_n, ti_g, oI_add, oI_sub, oI_mul]
    rw [b149_106 (o3 := none) (wo3 := rfl) (o4 := none) (wo4 := rfl)]
    try simp only [zput_s, zput_n, ti_g, oI_add, oI_sub, oI_mul]
    exact q0_rt ⟨FrV.refl G, trivial⟩
  · refine zok_ck ((q0).1) ?_
    first | refine zok_ne (by omega) (fun c6 => ?_) (fun c6 => ?_) | refine zok_if (fun c6 => ?_) (fun c6 => ?_)
    · try simp only [zput_s, zput_n, ti_g, oI_add, oI_sub, oI_mul]
      rw [b149_106 (o3 := none) (wo3 := rfl) (o4 := none) (wo4 := rfl)]
      try simp only [zput_s, zput_n, ti_g, oI_add, oI_sub, oI_mul]
      exact q0_rt ⟨FrV.refl G, trivial⟩
    · refine zok_ck ((q0).1) ?_
      refine zok_ck ⟨(by rw [(q0).2.2.2.2.2.1]), zin_o (by omega) (by omega) (by omega)⟩ ?_
      try rw [nN_o (a := x1) (by omega) (by omega)]
      try simp only [zput_s, zput_n, ti_g, oI_add, oI_sub, oI_mul, zt0, zt1, zt2, zt3, zt4, zt5, zt6]
      have gl8 := And.intro (tg_lo t (sr sh r0 2) ((x1).toNat)) (tg_hi t (sr sh r0 2) ((x1).toNat))
      have gm8 := (G).1 ((x1).toNat) (by omega)
      try simp only [zt0, zt1, zt2, zt3, zt4, zt5, zt6] at gl8
      try simp only [zt0, zt1, zt2, zt3, zt4, zt5, zt6] at gm8
      refine zok_ck ((q0).1) ?_
      refine zok_pI (s129 (q0) (by omega) (by omega) (by omega) (by omega) (by first | (omega) | ((try simp only [zt0, zt1, zt2, zt3, zt4, zt5, zt6]); omega)) (by first | (omega) | ((try simp only [zt0, zt1, zt2, zt3, zt4, zt5, zt6]); omega)) (G)) (fun y9 u9 p9 => ?_)
      try simp only [zt0, zt1, zt2, zt3, zt4, zt5, zt6] at p9
      simp only [zput_s, zput_n, ti_g, oI_add, oI_sub, oI_mul, zt0, zt1, zt2, zt3, zt4, zt5, zt6, b149_31]
      try simp only [zput_s, zput_n, ti_g, oI_add, oI_sub, oI_mul]
      refine zok_ck ((q0).1) ?_
      refine zok_ck ⟨(by rw [(q0).2.2.2.2.2.2.1]), zin_o (by omega) (by omega) (by omega)⟩ ?_
      try rw [nN_o (a := ((7) * (x1)) + (2)) (by omega) (by omega)]
      try simp only [zput_s, zput_n, ti_g, oI_add, oI_sub, oI_mul, zt0, zt1, zt2, zt3, zt4, zt5, zt6]
      have gl11 := And.intro (tg_lo t (sr sh r0 3) ((((7) * (x1)) + (2)).toNat)) (tg_hi t (sr sh r0 3) ((((7) * (x1)) + (2)).toNat))
      have gm11 := (G).2.1 ((((7) * (x1)) + (2)).toNat) (by omega)
      try simp only [zt0, zt1, zt2, zt3, zt4, zt5, zt6] at gl11
      try simp only [zt0, zt1, zt2, zt3, zt4, zt5, zt6] at gm11
      first | refine zok_ne (by omega) (fun c12 => ?_) (fun c12 => ?_) | refine zok_if (fun c12 => ?_) (fun c12 => ?_)
      · simp only [zput_s, zput_n, ti_g, oI_add, oI_sub, oI_mul, zt0, zt1, zt2, zt3, zt4, zt5, zt6, b149_68]
        try simp only [zput_s, zput_n, ti_g, oI_add, oI_sub, oI_mul]
        simp only [zput_s, zput_n, ti_g, oI_add, oI_sub, oI_mul, zt0, zt1, zt2, zt3, zt4, zt5, zt6, b149_69]
        try simp only [zput_s, zput_n, ti_g, oI_add, oI_sub, oI_mul]
        simp only [zput_s, zput_n, ti_g, oI_add, oI_sub, oI_mul, zt0, zt1, zt2, zt3, zt4, zt5, zt6, b149_100]
        try simp only [zput_s, zput_n, ti_g, oI_add, oI_sub, oI_mul]
        refine zok_ck ((q0).1) ?_
        refine zok_c0 (s144 (q0) (by omega) (by omega) (G)) (fun t16 p16 => ?_)
        obtain ⟨f16, p16⟩ := p16
        have e16_2 : ∀ k, tg t16 (sr sh r0 2) k = tg t (sr sh r0 2) k := fun k => f16.eq q0 (i := 2) (by decide) (by decide) k
        have e16_3 : ∀ k, tg t16 (sr sh r0 3) k = tg t (sr sh r0 3) k := fun k => f16.eq q0 (i := 3) (by decide) (by decide) k
        have e16_4 : ∀ k, tg t16 (sr sh r0 4) k = tg t (sr sh r0 4) k := fun k => f16.eq q0 (i := 4) (by decide) (by decide) k
        have e16_10 : ∀ k, tg t16 (sr sh r0 10) k = tg t (sr sh r0 10) k := fun k => f16.eq q0 (i := 10) (by decide) (by decide) k
        have e16_11 : ∀ k, tg t16 (sr sh r0 11) k = tg t (sr sh r0 11) k := fun k => f16.eq q0 (i := 11) (by decide) (by decide) k
        try simp only [zt0, zt1, zt2, zt3, zt4, zt5, zt6, e16_2, e16_3, e16_4, e16_10, e16_11] at p16
        try simp only [zput_s, zput_n, ti_g, oI_add, oI_sub, oI_mul]
        rw [b149_106 (o3 := some (zI (oI (y9)))) (wo3 := rfl) (o4 := some (zI (oI (0)))) (wo4 := rfl)]
        try simp only [zput_s, zput_n, ti_g, oI_add, oI_sub, oI_mul]
        exact q0_rt ⟨(FrV.trans (Ns := [0, 14]) (FrV.refl (Ls := []) G) f16 (by decide) (by decide)), trivial⟩
      · refine zok_ck ((q0).1) ?_
        refine zok_ck ⟨(by rw [(q0).2.2.2.2.2.2.2.1]), zin_o (by omega) (by omega) (by omega)⟩ ?_
        try rw [nN_o (a := ((7) * (x1)) + (2)) (by omega) (by omega)]
        try simp only [zput_s, zput_n, ti_g, oI_add, oI_sub, oI_mul, zt0, zt1, zt2, zt3, zt4, zt5, zt6]
        have gl18 := And.intro (tg_lo t (sr sh r0 4) ((((7) * (x1)) + (2)).toNat)) (tg_hi t (sr sh r0 4) ((((7) * (x1)) + (2)).toNat))
        have gm18 := (G).2.1 ((((7) * (x1)) + (2)).toNat) (by omega)
        try simp only [zt0, zt1, zt2, zt3, zt4, zt5, zt6] at gl18
        try simp only [zt0, zt1, zt2, zt3, zt4, zt5, zt6] at gm18
        first | refine zok_ne (by omega) (fun c19 => ?_) (fun c19 => ?_) | refine zok_if (fun c19 => ?_) (fun c19 => ?_)
        · simp only [zput_s, zput_n, ti_g, oI_add, oI_sub, oI_mul, zt0, zt1, zt2, zt3, zt4, zt5, zt6, b149_68]
          try simp only [zput_s, zput_n, ti_g, oI_add, oI_sub, oI_mul]
          simp only [zput_s, zput_n, ti_g, oI_add, oI_sub, oI_mul, zt0, zt1, zt2, zt3, zt4, zt5, zt6, b149_69]
          try simp only [zput_s, zput_n, ti_g, oI_add, oI_sub, oI_mul]
          simp only [zput_s, zput_n, ti_g, oI_add, oI_sub, oI_mul, zt0, zt1, zt2, zt3, zt4, zt5, zt6, b149_100]
          try simp only [zput_s, zput_n, ti_g, oI_add, oI_sub, oI_mul]
          refine zok_ck ((q0).1) ?_
          refine zok_c0 (s144 (q0) (by omega) (by omega) (G)) (fun t23 p23 => ?_)
          obtain ⟨f23, p23⟩ := p23
          have e23_2 : ∀ k, tg t23 (sr sh r0 2) k = tg t (sr sh r0 2) k := fun k => f23.eq q0 (i := 2) (by decide) (by decide) k
          have e23_3 : ∀ k, tg t23 (sr sh r0 3) k = tg t (sr sh r0 3) k := fun k => f23.eq q0 (i := 3) (by decide) (by decide) k
          have e23_4 : ∀ k, tg t23 (sr sh r0 4) k = tg t (sr sh r0 4) k := fun k => f23.eq q0 (i := 4) (by decide) (by decide) k
          have e23_10 : ∀ k, tg t23 (sr sh r0 10) k = tg t (sr sh r0 10) k := fun k => f23.eq q0 (i := 10) (by decide) (by decide) k
          have e23_11 : ∀ k, tg t23 (sr sh r0 11) k = tg t (sr sh r0 11) k := fun k => f23.eq q0 (i := 11) (by decide) (by decide) k
          try simp only [zt0, zt1, zt2, zt3, zt4, zt5, zt6, e23_2, e23_3, e23_4, e23_10, e23_11] at p23
          try simp only [zput_s, zput_n, ti_g, oI_add, oI_sub, oI_mul]
          rw [b149_106 (o3 := some (zI (oI (y9)))) (wo3 := rfl) (o4 := some (zI (oI (0)))) (wo4 := rfl)]
          try simp only [zput_s, zput_n, ti_g, oI_add, oI_sub, oI_mul]
          exact q0_rt ⟨(FrV.trans (Ns := [0, 14]) (FrV.refl (Ls := []) G) f23 (by decide) (by decide)), trivial⟩
        · simp only [zput_s, zput_n, ti_g, oI_add, oI_sub, oI_mul, zt0, zt1, zt2, zt3, zt4, zt5, zt6, b149_69]
          try simp only [zput_s, zput_n, ti_g, oI_add, oI_sub, oI_mul]
          first | refine zok_eq (by omega) (fun c26 => ?_) (fun c26 => ?_) | refine zok_if (fun c26 => ?_) (fun c26 => ?_)
          · simp only [zput_s, zput_n, ti_g, oI_add, oI_sub, oI_mul, zt0, zt1, zt2, zt3, zt4, zt5, zt6, b149_100]
            try simp only [zput_s, zput_n, ti_g, oI_add, oI_sub, oI_mul]
            refine zok_ck ((q0).1) ?_
            refine zok_c0 (s144 (q0) (by omega) (by omega) (G)) (fun t28 p28 => ?_)
            obtain ⟨f28, p28⟩ := p28
            have e28_2 : ∀ k, tg t28 (sr sh r0 2) k = tg t (sr sh r0 2) k := fun k => f28.eq q0 (i := 2) (by decide) (by decide) k
            have e28_3 : ∀ k, tg t28 (sr sh r0 3) k = tg t (sr sh r0 3) k := fun k => f28.eq q0 (i := 3) (by decide) (by decide) k
            have e28_4 : ∀ k, tg t28 (sr sh r0 4) k = tg t (sr sh r0 4) k := fun k => f28.eq q0 (i := 4) (by decide) (by decide) k
            have e28_10 : ∀ k, tg t28 (sr sh r0 10) k = tg t (sr sh r0 10) k := fun k => f28.eq q0 (i := 10) (by decide) (by decide) k
            have e28_11 : ∀ k, tg t28 (sr sh r0 11) k = tg t (sr sh r0 11) k := fun k => f28.eq q0 (i := 11) (by decide) (by decide) k
            try simp only [zt0, zt1, zt2, zt3, zt4, zt5, zt6, e28_2, e28_3, e28_4, e28_10, e28_11] at p28
            try simp only [zput_s, zput_n, ti_g, oI_add, oI_sub, oI_mul]
            rw [b149_106 (o3 := some (zI (oI (y9)))) (wo3 := rfl) (o4 := some (zI (oI (1)))) (wo4 := rfl)]
            try simp only [zput_s, zput_n, ti_g, oI_add, oI_sub, oI_mul]
            exact q0_rt ⟨(FrV.trans (Ns := [0, 14]) (FrV.refl (Ls := []) G) f28 (by decide) (by decide)), trivial⟩
          · refine zok_ck ((q0).1) ?_
            refine zok_cI (s142 (q0) (by omega) (by omega) (by omega) (by first | (omega) | ((try simp only [zt0, zt1, zt2, zt3, zt4, zt5, zt6]); omega)) (by first | (omega) | ((try simp only [zt0, zt1, zt2, zt3, zt4, zt5, zt6]); omega)) (by first | (omega) | ((try simp only [zt0, zt1, zt2, zt3, zt4, zt5, zt6]); omega)) (G)) (fun y30 t30 u30 p30 => ?_)
            obtain ⟨f30, p30⟩ := p30
            have e30_2 : ∀ k, tg t30 (sr sh r0 2) k = tg t (sr sh r0 2) k := fun k => f30.eq q0 (i := 2) (by decide) (by decide) k
            have e30_3 : ∀ k, tg t30 (sr sh r0 3) k = tg t (sr sh r0 3) k := fun k => f30.eq q0 (i := 3) (by decide) (by decide) k
            have e30_4 : ∀ k, tg t30 (sr sh r0 4) k = tg t (sr sh r0 4) k := fun k => f30.eq q0 (i := 4) (by decide) (by decide) k
            have e30_10 : ∀ k, tg t30 (sr sh r0 10) k = tg t (sr sh r0 10) k := fun k => f30.eq q0 (i := 10) (by decide) (by decide) k
            have e30_11 : ∀ k, tg t30 (sr sh r0 11) k = tg t (sr sh r0 11) k := fun k => f30.eq q0 (i := 11) (by decide) (by decide) k
            try simp only [zt0, zt1, zt2, zt3, zt4, zt5, zt6, e30_2, e30_3, e30_4, e30_10, e30_11] at p30
            simp only [zput_s, zput_n, ti_g, oI_add, oI_sub, oI_mul, zt0, zt1, zt2, zt3, zt4, zt5, zt6, e30_2, e30_3, e30_4, e30_10, e30_11, b149_85]
            try simp only [zput_s, zput_n, ti_g, oI_add, oI_sub, oI_mul]
            first | refine zok_ne (by omega) (fun c32 => ?_) (fun c32 => ?_) | refine zok_if (fun c32 => ?_) (fun c32 => ?_)
            · try simp only [zput_s, zput_n, ti_g, oI_add, oI_sub, oI_mul]
              rw [b149_106 (o3 := some (zI (oI (y9)))) (wo3 := rfl) (o4 := some (zI (oI (1)))) (wo4 := rfl)]
              try simp only [zput_s, zput_n, ti_g, oI_add, oI_sub, oI_mul]
              exact q0_rt ⟨(FrV.trans (Ns := [0, 14]) (FrV.refl (Ls := []) G) f30 (by decide) (by decide)), trivial⟩
            · refine zok_ck ((q0).1) ?_
              refine zok_pI (s143 (q0) (by omega) (by omega) (by omega) (by first | (omega) | ((try simp only [zt0, zt1, zt2, zt3, zt4, zt5, zt6, e30_2, e30_3, e30_4, e30_10, e30_11]); omega)) (by first | (omega) | ((try simp only [zt0, zt1, zt2, zt3, zt4, zt5, zt6, e30_2, e30_3, e30_4, e30_10, e30_11]); omega)) (by first | (omega) | ((try simp only [zt0, zt1, zt2, zt3, zt4, zt5, zt6, e30_2, e30_3, e30_4, e30_10, e30_11]); omega)) (f30.g)) (fun y34 u34 p34 => ?_)
              try simp only [zt0, zt1, zt2, zt3, zt4, zt5, zt6, e30_2, e30_3, e30_4, e30_10, e30_11] at p34
              simp only [zput_s, zput_n, ti_g, oI_add, oI_sub, oI_mul, zt0, zt1, zt2, zt3, zt4, zt5, zt6, e30_2, e30_3, e30_4, e30_10, e30_11, b149_97]
              try simp only [zput_s, zput_n, ti_g, oI_add, oI_sub, oI_mul]
              first | refine zok_ne (by omega) (fun c36 => ?_) (fun c36 => ?_) | refine zok_if (fun c36 => ?_) (fun c36 => ?_)
              · try simp only [zput_s, zput_n, ti_g, oI_add, oI_sub, oI_mul]
                rw [b149_106 (o3 := some (zI (oI (y9)))) (wo3 := rfl) (o4 := some (zI (oI (1)))) (wo4 := rfl)]
                try simp only [zput_s, zput_n, ti_g, oI_add, oI_sub, oI_mul]
                exact q0_rt ⟨(FrV.trans (Ns := [0, 14]) (FrV.refl (Ls := []) G) f30 (by decide) (by decide)), trivial⟩
              · simp only [zput_s, zput_n, ti_g, oI_add, oI_sub, oI_mul, zt0, zt1, zt2, zt3, zt4, zt5, zt6, e30_2, e30_3, e30_4, e30_10, e30_11, b149_100]
                try simp only [zput_s, zput_n, ti_g, oI_add, oI_sub, oI_mul]
                refine zok_ck ((q0).1) ?_
                refine zok_c0 (s144 (q0) (by omega) (by omega) (f30.g)) (fun t39 p39 => ?_)
                obtain ⟨f39, p39⟩ := p39
                have e39_2 : ∀ k, tg t39 (sr sh r0 2) k = tg t30 (sr sh r0 2) k := fun k => f39.eq q0 (i := 2) (by decide) (by decide) k
                have e39_3 : ∀ k, tg t39 (sr sh r0 3) k = tg t30 (sr sh r0 3) k := fun k => f39.eq q0 (i := 3) (by decide) (by decide) k
                have e39_4 : ∀ k, tg t39 (sr sh r0 4) k = tg t30 (sr sh r0 4) k := fun k => f39.eq q0 (i := 4) (by decide) (by decide) k
                have e39_10 : ∀ k, tg t39 (sr sh r0 10) k = tg t30 (sr sh r0 10) k := fun k => f39.eq q0 (i := 10) (by decide) (by decide) k
                have e39_11 : ∀ k, tg t39 (sr sh r0 11) k = tg t30 (sr sh r0 11) k := fun k => f39.eq q0 (i := 11) (by decide) (by decide) k
                try simp only [zt0, zt1, zt2, zt3, zt4, zt5, zt6, e30_2, e30_3, e30_4, e30_10, e30_11, e39_2, e39_3, e39_4, e39_10, e39_11] at p39
                try simp only [zput_s, zput_n, ti_g, oI_add, oI_sub, oI_mul]
                rw [b149_106 (o3 := some (zI (oI (y9)))) (wo3 := rfl) (o4 := some (zI (oI (1)))) (wo4 := rfl)]
                try simp only [zput_s, zput_n, ti_g, oI_add, oI_sub, oI_mul]
                exact q0_rt ⟨(FrV.trans (Ns := [0, 14]) ((FrV.trans (Ns := [0, 14]) (FrV.refl (Ls := []) G) f30 (by decide) (by decide))) f39 (by decide) (by decide)), trivial⟩
