set_option maxRecDepth 16384
/-! X7_isLetter -/
theorem s84 {sh : zSh} {x0 : Int} (u0 : -2147483648 ≤ x0 ∧ x0 ≤ 2147483647) {t : zSt} : zok (zcl zP 84 [zI (oI x0)] (sh, t)) (qI (fun x t' => t' = t ∧ (x = 0 ∨ x = 1)) sh) := by
  rw [b84_0]
  try simp only [zput_s, zput_n, ti_g, oI_add, oI_sub, oI_mul]
  first | refine zok_lt (by omega) (fun c2 => ?_) (fun c2 => ?_) | refine zok_if (fun c2 => ?_) (fun c2 => ?_)
  · first | refine zok_lt (by omega) (fun c3 => ?_) (fun c3 => ?_) | refine zok_if (fun c3 => ?_) (fun c3 => ?_)
    · first | exact qI_rt (by omega) (by omega) ⟨rfl, by omega⟩ | exact qI_nf ⟨rfl, by omega⟩
    · first | refine zok_lt (by omega) (fun c4 => ?_) (fun c4 => ?_) | refine zok_if (fun c4 => ?_) (fun c4 => ?_)
      · first | exact qI_rt (by omega) (by omega) ⟨rfl, by omega⟩ | exact qI_nf ⟨rfl, by omega⟩
      · first | exact qI_rt (by omega) (by omega) ⟨rfl, by omega⟩ | exact qI_nf ⟨rfl, by omega⟩
  · first | refine zok_le (by omega) (fun c5 => ?_) (fun c5 => ?_) | refine zok_if (fun c5 => ?_) (fun c5 => ?_)
    · first | exact qI_rt (by omega) (by omega) ⟨rfl, by omega⟩ | exact qI_nf ⟨rfl, by omega⟩
    · first | refine zok_lt (by omega) (fun c6 => ?_) (fun c6 => ?_) | refine zok_if (fun c6 => ?_) (fun c6 => ?_)
      · first | exact qI_rt (by omega) (by omega) ⟨rfl, by omega⟩ | exact qI_nf ⟨rfl, by omega⟩
      · first | refine zok_lt (by omega) (fun c7 => ?_) (fun c7 => ?_) | refine zok_if (fun c7 => ?_) (fun c7 => ?_)
        · first | exact qI_rt (by omega) (by omega) ⟨rfl, by omega⟩ | exact qI_nf ⟨rfl, by omega⟩
        · first | exact qI_rt (by omega) (by omega) ⟨rfl, by omega⟩ | exact qI_nf ⟨rfl, by omega⟩
/-! X7_isDigit -/
theorem s85 {sh : zSh} {x0 : Int} (u0 : -2147483648 ≤ x0 ∧ x0 ≤ 2147483647) {t : zSt} : zok (zcl zP 85 [zI (oI x0)] (sh, t)) (qI (fun x t' => t' = t ∧ (x = 0 ∨ x = 1)) sh) := by
  rw [b85_0]
  try simp only [zput_s, zput_n, ti_g, oI_add, oI_sub, oI_mul]
  first | refine zok_lt (by omega) (fun c2 => ?_) (fun c2 => ?_) | refine zok_if (fun c2 => ?_) (fun c2 => ?_)
  · first | exact qI_rt (by omega) (by omega) ⟨rfl, by omega⟩ | exact qI_nf ⟨rfl, by omega⟩
  · first | refine zok_lt (by omega) (fun c3 => ?_) (fun c3 => ?_) | refine zok_if (fun c3 => ?_) (fun c3 => ?_)
    · first | exact qI_rt (by omega) (by omega) ⟨rfl, by omega⟩ | exact qI_nf ⟨rfl, by omega⟩
    · first | exact qI_rt (by omega) (by omega) ⟨rfl, by omega⟩ | exact qI_nf ⟨rfl, by omega⟩
/-! X7_isFree -/
theorem s86 {sh : zSh} {x0 : Int} (u0 : -2147483648 ≤ x0 ∧ x0 ≤ 2147483647) {t : zSt} : zok (zcl zP 86 [zI (oI x0)] (sh, t)) (qI (fun x t' => t' = t ∧ (x = 0 ∨ x = 1)) sh) := by
  rw [b86_0]
  try simp only [zput_s, zput_n, ti_g, oI_add, oI_sub, oI_mul]
  refine zok_pI (s84 (by omega)) (fun y2 u2 p2 => ?_)
  simp only [zput_s, zput_n, ti_g, oI_add, oI_sub, oI_mul, b86_4]
  try simp only [zput_s, zput_n, ti_g, oI_add, oI_sub, oI_mul]
  first | refine zok_ne (by omega) (fun c4 => ?_) (fun c4 => ?_) | refine zok_if (fun c4 => ?_) (fun c4 => ?_)
  · first | exact qI_rt (by omega) (by omega) ⟨rfl, by omega⟩ | exact qI_nf ⟨rfl, by omega⟩
  · refine zok_pI (s85 (by omega)) (fun y5 u5 p5 => ?_)
    simp only [zput_s, zput_n, ti_g, oI_add, oI_sub, oI_mul, b86_11]
    try simp only [zput_s, zput_n, ti_g, oI_add, oI_sub, oI_mul]
    first | refine zok_ne (by omega) (fun c7 => ?_) (fun c7 => ?_) | refine zok_if (fun c7 => ?_) (fun c7 => ?_)
    · first | exact qI_rt (by omega) (by omega) ⟨rfl, by omega⟩ | exact qI_nf ⟨rfl, by omega⟩
    · first | refine zok_eq (by omega) (fun c8 => ?_) (fun c8 => ?_) | refine zok_if (fun c8 => ?_) (fun c8 => ?_)
      · first | exact qI_rt (by omega) (by omega) ⟨rfl, by omega⟩ | exact qI_nf ⟨rfl, by omega⟩
      · first | refine zok_eq (by omega) (fun c9 => ?_) (fun c9 => ?_) | refine zok_if (fun c9 => ?_) (fun c9 => ?_)
        · first | exact qI_rt (by omega) (by omega) ⟨rfl, by omega⟩ | exact qI_nf ⟨rfl, by omega⟩
        · first | refine zok_eq (by omega) (fun c10 => ?_) (fun c10 => ?_) | refine zok_if (fun c10 => ?_) (fun c10 => ?_)
          · first | exact qI_rt (by omega) (by omega) ⟨rfl, by omega⟩ | exact qI_nf ⟨rfl, by omega⟩
          · first | refine zok_ne (by omega) (fun c11 => ?_) (fun c11 => ?_) | refine zok_if (fun c11 => ?_) (fun c11 => ?_)
            · first | exact qI_rt (by omega) (by omega) ⟨rfl, by omega⟩ | exact qI_nf ⟨rfl, by omega⟩
            · first | exact qI_rt (by omega) (by omega) ⟨rfl, by omega⟩ | exact qI_nf ⟨rfl, by omega⟩
/-! X7_digitOf -/
theorem s88 {sh : zSh} {x0 : Int} (u0 : -2147483648 ≤ x0 ∧ x0 ≤ 2147483647) {t : zSt} : zok (zcl zP 88 [zI (oI x0)] (sh, t)) (qI (fun x t' => t' = t ∧ (-1 ≤ x ∧ x ≤ 15 ∧ (x ≠ -1 → 0 ≤ x))) sh) := by
  rw [b88_0]
  try simp only [zput_s, zput_n, ti_g, oI_add, oI_sub, oI_mul]
  first | refine zok_lt (by omega) (fun c2 => ?_) (fun c2 => ?_) | refine zok_if (fun c2 => ?_) (fun c2 => ?_)
  · simp only [zput_s, zput_n, ti_g, oI_add, oI_sub, oI_mul, b88_17]
    try simp only [zput_s, zput_n, ti_g, oI_add, oI_sub, oI_mul]
    first | refine zok_lt (by omega) (fun c4 => ?_) (fun c4 => ?_) | refine zok_if (fun c4 => ?_) (fun c4 => ?_)
    · simp only [zput_s, zput_n, ti_g, oI_add, oI_sub, oI_mul, b88_37]
      try simp only [zput_s, zput_n, ti_g, oI_add, oI_sub, oI_mul]
      first | refine zok_lt (by omega) (fun c6 => ?_) (fun c6 => ?_) | refine zok_if (fun c6 => ?_) (fun c6 => ?_)
      · simp only [zput_s, zput_n, ti_g, oI_add, oI_sub, oI_mul, b88_59]
        try simp only [zput_s, zput_n, ti_g, oI_add, oI_sub, oI_mul]
        simp only [zput_s, zput_n, ti_g, oI_add, oI_sub, oI_mul, b88_60]
        try simp only [zput_s, zput_n, ti_g, oI_add, oI_sub, oI_mul]
        first | exact qI_rt (by omega) (by omega) ⟨rfl, by omega⟩ | exact qI_nf ⟨rfl, by omega⟩
      · first | refine zok_lt (by omega) (fun c9 => ?_) (fun c9 => ?_) | refine zok_if (fun c9 => ?_) (fun c9 => ?_)
        · simp only [zput_s, zput_n, ti_g, oI_add, oI_sub, oI_mul, b88_59]
          try simp only [zput_s, zput_n, ti_g, oI_add, oI_sub, oI_mul]
          simp only [zput_s, zput_n, ti_g, oI_add, oI_sub, oI_mul, b88_60]
          try simp only [zput_s, zput_n, ti_g, oI_add, oI_sub, oI_mul]
          first | exact qI_rt (by omega) (by omega) ⟨rfl, by omega⟩ | exact qI_nf ⟨rfl, by omega⟩
        · simp only [zput_s, zput_n, ti_g, oI_add, oI_sub, oI_mul, b88_60]
          try simp only [zput_s, zput_n, ti_g, oI_add, oI_sub, oI_mul]
          first | exact qI_rt (by omega) (by omega) ⟨rfl, by omega⟩ | exact qI_nf ⟨rfl, by omega⟩
    · first | refine zok_lt (by omega) (fun c13 => ?_) (fun c13 => ?_) | refine zok_if (fun c13 => ?_) (fun c13 => ?_)
      · simp only [zput_s, zput_n, ti_g, oI_add, oI_sub, oI_mul, b88_37]
        try simp only [zput_s, zput_n, ti_g, oI_add, oI_sub, oI_mul]
        first | refine zok_lt (by omega) (fun c15 => ?_) (fun c15 => ?_) | refine zok_if (fun c15 => ?_) (fun c15 => ?_)
        · simp only [zput_s, zput_n, ti_g, oI_add, oI_sub, oI_mul, b88_59]
          try simp only [zput_s, zput_n, ti_g, oI_add, oI_sub, oI_mul]
          simp only [zput_s, zput_n, ti_g, oI_add, oI_sub, oI_mul, b88_60]
          try simp only [zput_s, zput_n, ti_g, oI_add, oI_sub, oI_mul]
          first | exact qI_rt (by omega) (by omega) ⟨rfl, by omega⟩ | exact qI_nf ⟨rfl, by omega⟩
        · first | refine zok_lt (by omega) (fun c18 => ?_) (fun c18 => ?_) | refine zok_if (fun c18 => ?_) (fun c18 => ?_)
          · simp only [zput_s, zput_n, ti_g, oI_add, oI_sub, oI_mul, b88_59]
            try simp only [zput_s, zput_n, ti_g, oI_add, oI_sub, oI_mul]
            simp only [zput_s, zput_n, ti_g, oI_add, oI_sub, oI_mul, b88_60]
            try simp only [zput_s, zput_n, ti_g, oI_add, oI_sub, oI_mul]
            first | exact qI_rt (by omega) (by omega) ⟨rfl, by omega⟩ | exact qI_nf ⟨rfl, by omega⟩
          · simp only [zput_s, zput_n, ti_g, oI_add, oI_sub, oI_mul, b88_60]
            try simp only [zput_s, zput_n, ti_g, oI_add, oI_sub, oI_mul]
            first | exact qI_rt (by omega) (by omega) ⟨rfl, by omega⟩ | exact qI_nf ⟨rfl, by omega⟩
      · first | exact qI_rt (by omega) (by omega) ⟨rfl, by omega⟩ | exact qI_nf ⟨rfl, by omega⟩
  · first | refine zok_lt (by omega) (fun c22 => ?_) (fun c22 => ?_) | refine zok_if (fun c22 => ?_) (fun c22 => ?_)
    · simp only [zput_s, zput_n, ti_g, oI_add, oI_sub, oI_mul, b88_17]
      try simp only [zput_s, zput_n, ti_g, oI_add, oI_sub, oI_mul]
      first | refine zok_lt (by omega) (fun c24 => ?_) (fun c24 => ?_) | refine zok_if (fun c24 => ?_) (fun c24 => ?_)
      · simp only [zput_s, zput_n, ti_g, oI_add, oI_sub, oI_mul, b88_37]
        try simp only [zput_s, zput_n, ti_g, oI_add, oI_sub, oI_mul]
        first | refine zok_lt (by omega) (fun c26 => ?_) (fun c26 => ?_) | refine zok_if (fun c26 => ?_) (fun c26 => ?_)
        · simp only [zput_s, zput_n, ti_g, oI_add, oI_sub, oI_mul, b88_59]
          try simp only [zput_s, zput_n, ti_g, oI_add, oI_sub, oI_mul]
          simp only [zput_s, zput_n, ti_g, oI_add, oI_sub, oI_mul, b88_60]
          try simp only [zput_s, zput_n, ti_g, oI_add, oI_sub, oI_mul]
          first | exact qI_rt (by omega) (by omega) ⟨rfl, by omega⟩ | exact qI_nf ⟨rfl, by omega⟩
        · first | refine zok_lt (by omega) (fun c29 => ?_) (fun c29 => ?_) | refine zok_if (fun c29 => ?_) (fun c29 => ?_)
          · simp only [zput_s, zput_n, ti_g, oI_add, oI_sub, oI_mul, b88_59]
            try simp only [zput_s, zput_n, ti_g, oI_add, oI_sub, oI_mul]
            simp only [zput_s, zput_n, ti_g, oI_add, oI_sub, oI_mul, b88_60]
            try simp only [zput_s, zput_n, ti_g, oI_add, oI_sub, oI_mul]
            first | exact qI_rt (by omega) (by omega) ⟨rfl, by omega⟩ | exact qI_nf ⟨rfl, by omega⟩
          · simp only [zput_s, zput_n, ti_g, oI_add, oI_sub, oI_mul, b88_60]
            try simp only [zput_s, zput_n, ti_g, oI_add, oI_sub, oI_mul]
            first | exact qI_rt (by omega) (by omega) ⟨rfl, by omega⟩ | exact qI_nf ⟨rfl, by omega⟩
      · first | refine zok_lt (by omega) (fun c33 => ?_) (fun c33 => ?_) | refine zok_if (fun c33 => ?_) (fun c33 => ?_)
        · simp only [zput_s, zput_n, ti_g, oI_add, oI_sub, oI_mul, b88_37]
          try simp only [zput_s, zput_n, ti_g, oI_add, oI_sub, oI_mul]
          first | refine zok_lt (by omega) (fun c35 => ?_) (fun c35 => ?_) | refine zok_if (fun c35 => ?_) (fun c35 => ?_)
          · simp only [zput_s, zput_n, ti_g, oI_add, oI_sub, oI_mul, b88_59]
            try simp only [zput_s, zput_n, ti_g, oI_add, oI_sub, oI_mul]
            simp only [zput_s, zput_n, ti_g, oI_add, oI_sub, oI_mul, b88_60]
            try simp only [zput_s, zput_n, ti_g, oI_add, oI_sub, oI_mul]
            first | exact qI_rt (by omega) (by omega) ⟨rfl, by omega⟩ | exact qI_nf ⟨rfl, by omega⟩
          · first | refine zok_lt (by omega) (fun c38 => ?_) (fun c38 => ?_) | refine zok_if (fun c38 => ?_) (fun c38 => ?_)
            · simp only [zput_s, zput_n, ti_g, oI_add, oI_sub, oI_mul, b88_59]
              try simp only [zput_s, zput_n, ti_g, oI_add, oI_sub, oI_mul]
              simp only [zput_s, zput_n, ti_g, oI_add, oI_sub, oI_mul, b88_60]
              try simp only [zput_s, zput_n, ti_g, oI_add, oI_sub, oI_mul]
              first | exact qI_rt (by omega) (by omega) ⟨rfl, by omega⟩ | exact qI_nf ⟨rfl, by omega⟩
            · simp only [zput_s, zput_n, ti_g, oI_add, oI_sub, oI_mul, b88_60]
              try simp only [zput_s, zput_n, ti_g, oI_add, oI_sub, oI_mul]
              first | exact qI_rt (by omega) (by omega) ⟨rfl, by omega⟩ | exact qI_nf ⟨rfl, by omega⟩
        · first | exact qI_rt (by omega) (by omega) ⟨rfl, by omega⟩ | exact qI_nf ⟨rfl, by omega⟩
    · first | exact qI_rt (by omega) (by omega) ⟨rfl, by omega⟩ | exact qI_nf ⟨rfl, by omega⟩
/-! X7_small -/
theorem s89 {sh : zSh} {x0 : Int} (u0 : -2147483648 ≤ x0 ∧ x0 ≤ 2147483647) {t : zSt} : zok (zcl zP 89 [zI (oI x0)] (sh, t)) (qI (fun x t' => t' = t ∧ (True)) sh) := by
  rw [b89_0]
  try simp only [zput_s, zput_n, ti_g, oI_add, oI_sub, oI_mul]
  first | refine zok_lt (by omega) (fun c2 => ?_) (fun c2 => ?_) | refine zok_if (fun c2 => ?_) (fun c2 => ?_)
  · first | exact qI_rt (by omega) (by omega) ⟨rfl, trivial⟩ | exact qI_nf ⟨rfl, trivial⟩
  · first | refine zok_lt (by omega) (fun c3 => ?_) (fun c3 => ?_) | refine zok_if (fun c3 => ?_) (fun c3 => ?_)
    · first | exact qI_rt (by omega) (by omega) ⟨rfl, trivial⟩ | exact qI_nf ⟨rfl, trivial⟩
    · first | exact qI_rt (by omega) (by omega) ⟨rfl, trivial⟩ | exact qI_nf ⟨rfl, trivial⟩
/-! X7_great -/
theorem s90 {sh : zSh} {x0 : Int} (u0 : -2147483648 ≤ x0 ∧ x0 ≤ 2147483647) {t : zSt} : zok (zcl zP 90 [zI (oI x0)] (sh, t)) (qI (fun x t' => t' = t ∧ (True)) sh) := by
  rw [b90_0]
  try simp only [zput_s, zput_n, ti_g, oI_add, oI_sub, oI_mul]
  first | refine zok_lt (by omega) (fun c2 => ?_) (fun c2 => ?_) | refine zok_if (fun c2 => ?_) (fun c2 => ?_)
  · first | exact qI_rt (by omega) (by omega) ⟨rfl, trivial⟩ | exact qI_nf ⟨rfl, trivial⟩
  · first | refine zok_lt (by omega) (fun c3 => ?_) (fun c3 => ?_) | refine zok_if (fun c3 => ?_) (fun c3 => ?_)
    · first | exact qI_rt (by omega) (by omega) ⟨rfl, trivial⟩ | exact qI_nf ⟨rfl, trivial⟩
    · first | exact qI_rt (by omega) (by omega) ⟨rfl, trivial⟩ | exact qI_nf ⟨rfl, trivial⟩
/-! X7_digit -/
theorem s91 {sh : zSh} {x0 : Int} (u0 : -2147483648 ≤ x0 ∧ x0 ≤ 2147483647) {x1 : Int} (u1 : -2147483648 ≤ x1 ∧ x1 ≤ 2147483647) {t : zSt} : zok (zcl zP 91 [zI (oI x0), zI (oI x1)] (sh, t)) (qI (fun x t' => t' = t ∧ (True)) sh) := by
  rw [b91_0]
  try simp only [zput_s, zput_n, ti_g, oI_add, oI_sub, oI_mul]
  first | refine zok_le (by omega) (fun c2 => ?_) (fun c2 => ?_) | refine zok_if (fun c2 => ?_) (fun c2 => ?_)
  · first | refine zok_eq (by omega) (fun c3 => ?_) (fun c3 => ?_) | refine zok_if (fun c3 => ?_) (fun c3 => ?_)
    · first | exact qI_rt (by omega) (by omega) ⟨rfl, trivial⟩ | exact qI_nf ⟨rfl, trivial⟩
    · first | exact qI_rt (by omega) (by omega) ⟨rfl, trivial⟩ | exact qI_nf ⟨rfl, trivial⟩
  · first | exact qI_rt (by omega) (by omega) ⟨rfl, trivial⟩ | exact qI_nf ⟨rfl, trivial⟩
/-! X6_addText -/
theorem l60_2 {sh : zSh} {r0 : Nat} (q0 : zRow sh r0) {k1 : Nat} (v1 : 0 < k1 ∧ k1 ≤ ztx.length) {t0 : zSt} (hR : RS sh t0) : ∀ (n : Nat) (x2 : Int)  (t1 : zSt), FrR sh r0 t0 t1 → (-2147483648 ≤ x2 ∧ x2 ≤ 2147483647) ∧ (0 ≤ x2) → (6 - x2).toNat < n → zok (zev zP 60 2 [some (zR r0), some (zX k1), some (zI (oI x2))] [] (sh, t1)) (zq0 (fun t' => FrR sh r0 t0 t' ∧ (True)) sh) := by
  intro n
  induction n with
  | zero => intro x2  t1 f0 _ hm; omega
  | succ n ih =>
    intro x2  t1 f0 hv hm
    have hz0 := RS_sz (f0.rs) q0
    have z1_k1 := ztx_len (k1 - 1)
    simp only [zput_s, zput_n, ti_g, oI_add, oI_sub, oI_mul, b60_2]
    try simp only [zput_s, zput_n, ti_g, oI_add, oI_sub, oI_mul]
    refine zok_ck ⟨v1.1, v1.2, Nat.le_of_ble_eq_true rfl⟩ ?_
    first | refine zok_le (by omega) (fun c2 => ?_) (fun c2 => ?_) | refine zok_if (fun c2 => ?_) (fun c2 => ?_)
    · exact q0_rt ⟨f0, trivial⟩
    · have zc2 := ztx_ch (k1 - 1) (nN ((oI x2)))
      refine zok_ck ⟨v1.1, v1.2, Nat.le_of_ble_eq_true rfl, zin_o (by omega) (by omega) (by omega)⟩ ?_
      refine zok_ck ((q0).1) ?_
      obtain ⟨w3, wa3, wb3, we3⟩ := oI_nf (oI (((ztx.getD (k1 - 1) []).getD (nN (oI x2)) 0 : Nat) : Int))
      try simp only [zput_s, zput_n, ti_g, oI_add, oI_sub, oI_mul] at we3
      try rw [we3]
      refine zok_c0 (s59 (q0) (f0.rs)) (fun t4 p4 => ?_)
      obtain ⟨f4, p4⟩ := p4
      simp only [zput_s, zput_n, ti_g, oI_add, oI_sub, oI_mul, b60_19]
      try simp only [zput_s, zput_n, ti_g, oI_add, oI_sub, oI_mul]
      try simp only [zput_s, zput_n, ti_g, oI_add, oI_sub, oI_mul]
      exact ih _ _ ((f0).trans (f4)) (by omega) (by omega)
theorem s60 {sh : zSh} {r0 : Nat} (q0 : zRow sh r0) {k1 : Nat} (v1 : 0 < k1 ∧ k1 ≤ ztx.length) {t : zSt} (hR : RS sh t) : zok (zcl zP 60 [zR r0, zX k1] (sh, t)) (zq0 (fun t' => FrR sh r0 t t' ∧ (True)) sh) := by
  have hz0 := RS_sz (hR) q0
  rw [b60_0]
  try simp only [zput_s, zput_n, ti_g, oI_add, oI_sub, oI_mul]
  try simp only [zput_s, zput_n, ti_g, oI_add, oI_sub, oI_mul]
  exact l60_2 q0 v1 hR _ _ _ (FrR.refl hR) (by omega) (Nat.lt_succ_self _)
/-! X6_copy -/
theorem s64 {sh : zSh} {r0 : Nat} (q0 : zRow sh r0) {r1 : Nat} (q1 : zRow sh r1) {t : zSt} (hR : RS sh t) : zok (zcl zP 64 [zR r0, zR r1] (sh, t)) (zq0 (fun t' => FrR sh r0 t t' ∧ (True)) sh) := by
  have hz0 := RS_sz (hR) q0
  have hz1 := RS_sz (hR) q1
  rw [b64_0]
  try simp only [zput_s, zput_n, ti_g, oI_add, oI_sub, oI_mul]
  refine zok_ck ((q0).1) ?_
  refine zok_c0 (s62 (q0) (hR)) (fun t2 p2 => ?_)
  obtain ⟨f2, p2⟩ := p2
  have g3_1 := RS_sz ((f2).rs) (q1)
  simp only [zput_s, zput_n, ti_g, oI_add, oI_sub, oI_mul, b64_4]
  try simp only [zput_s, zput_n, ti_g, oI_add, oI_sub, oI_mul]
  refine zok_ck ((q1).1) ?_
  refine zok_ck ((q0).1) ?_
  refine zok_c0 (s61 (q0) (q1) (by omega) (by omega) ((f2).rs)) (fun t4 p4 => ?_)
  obtain ⟨f4, p4⟩ := p4
  have g5_1 := RS_sz (((f2).trans (f4)).rs) (q1)
  simp only [zput_s, zput_n, ti_g, oI_add, oI_sub, oI_mul, b64_14]
  try simp only [zput_s, zput_n, ti_g, oI_add, oI_sub, oI_mul]
  refine zok_ck ((q1).1) ?_
  refine zok_ck (by first | exact ⟨(q0).1, fun _ => bool_p (by omega)⟩ | exact ⟨(q0).1, bool_p (by omega)⟩ | exact (q0).1) ?_
  exact q0_rt ⟨((f2).trans (f4)).trans (FrR_I (((f2).trans (f4)).rs) (q0) (by omega) (by omega) ⟨(fun e => by first | omega | cases e), (fun e => by first | omega | cases e)⟩), trivial⟩
/-! X6_become -/
theorem s65 {sh : zSh} {r0 : Nat} (q0 : zRow sh r0) {k1 : Nat} (v1 : 0 < k1 ∧ k1 ≤ ztx.length) {t : zSt} (hR : RS sh t) : zok (zcl zP 65 [zR r0, zX k1] (sh, t)) (zq0 (fun t' => FrR sh r0 t t' ∧ (True)) sh) := by
  have hz0 := RS_sz (hR) q0
  rw [b65_0]
  try simp only [zput_s, zput_n, ti_g, oI_add, oI_sub, oI_mul]
  refine zok_ck ((q0).1) ?_
  refine zok_c0 (s62 (q0) (hR)) (fun t2 p2 => ?_)
  obtain ⟨f2, p2⟩ := p2
  simp only [zput_s, zput_n, ti_g, oI_add, oI_sub, oI_mul, b65_4]
  try simp only [zput_s, zput_n, ti_g, oI_add, oI_sub, oI_mul]
  refine zok_ck ((q0).1) ?_
  refine zok_c0 (s60 (q0) v1 ((f2).rs)) (fun t4 p4 => ?_)
  obtain ⟨f4, p4⟩ := p4
  simp only [zput_s, zput_n, ti_g, oI_add, oI_sub, oI_mul, b65_9]
  try simp only [zput_s, zput_n, ti_g, oI_add, oI_sub, oI_mul]
  refine zok_ck (by first | exact ⟨(q0).1, fun _ => Or.inr rfl⟩ | exact ⟨(q0).1, Or.inr rfl⟩ | exact (q0).1) ?_
  exact q0_rt ⟨((f2).trans (f4)).trans (FrR_I (((f2).trans (f4)).rs) (q0) (by omega) (by omega) ⟨(fun e => by first | omega | cases e), (fun e => by first | omega | cases e)⟩), trivial⟩
/-! X6_matches -/
theorem l66_26 {sh : zSh} {r0 : Nat} (q0 : zRow sh r0) {r1 : Nat} (q1 : zRow sh r1) {t : zSt} (hR : RS sh t) : ∀ (n : Nat) (x2 : Int) , (-2147483648 ≤ x2 ∧ x2 ≤ 2147483647) ∧ (0 ≤ x2) → (tg t r0 1 - x2).toNat < n → zok (zev zP 66 26 [some (zR r0), some (zR r1), some (zI (oI x2))] [] (sh, t)) (qI (fun x t' => t' = t ∧ (x = 0 ∨ x = 1)) sh) := by
  intro n
  induction n with
  | zero => intro x2  _ hm; omega
  | succ n ih =>
    intro x2  hv hm
    have hz0 := RS_sz (hR) q0
    have hz1 := RS_sz (hR) q1
    have g1_1 := RS_sz (hR) (q0)
    simp only [zput_s, zput_n, ti_g, oI_add, oI_sub, oI_mul, b66_26]
    try simp only [zput_s, zput_n, ti_g, oI_add, oI_sub, oI_mul]
    refine zok_ck ((q0).1) ?_
    first | refine zok_le (by omega) (fun c2 => ?_) (fun c2 => ?_) | refine zok_if (fun c2 => ?_) (fun c2 => ?_)
    · first | exact qI_rt (by omega) (by omega) ⟨rfl, by omega⟩ | exact qI_nf ⟨rfl, by omega⟩
    · refine zok_ck ((q0).1) ?_
      refine zok_pI (s57 (q0) (by omega) (hR)) (fun y3 u3 p3 => ?_)
      simp only [zput_s, zput_n, ti_g, oI_add, oI_sub, oI_mul, b66_39]
      try simp only [zput_s, zput_n, ti_g, oI_add, oI_sub, oI_mul]
      refine zok_ck ((q1).1) ?_
      refine zok_pI (s57 (q1) (by omega) (hR)) (fun y5 u5 p5 => ?_)
      simp only [zput_s, zput_n, ti_g, oI_add, oI_sub, oI_mul, b66_44]
      try simp only [zput_s, zput_n, ti_g, oI_add, oI_sub, oI_mul]
      first | refine zok_eq (by omega) (fun c7 => ?_) (fun c7 => ?_) | refine zok_if (fun c7 => ?_) (fun c7 => ?_)
      · try simp only [zput_s, zput_n, ti_g, oI_add, oI_sub, oI_mul]
        exact ih _ (by omega) (by omega)
      · first | exact qI_rt (by omega) (by omega) ⟨rfl, by omega⟩ | exact qI_nf ⟨rfl, by omega⟩
theorem s66 {sh : zSh} {r0 : Nat} (q0 : zRow sh r0) {r1 : Nat} (q1 : zRow sh r1) {t : zSt} (hR : RS sh t) : zok (zcl zP 66 [zR r0, zR r1] (sh, t)) (qI (fun x t' => t' = t ∧ (x = 0 ∨ x = 1)) sh) := by
  have hz0 := RS_sz (hR) q0
  have hz1 := RS_sz (hR) q1
  have g8_1 := RS_sz (hR) (q0)
  have g8_2 := RS_sz (hR) (q1)
  rw [b66_0]
  try simp only [zput_s, zput_n, ti_g, oI_add, oI_sub, oI_mul]
  refine zok_ck ((q0).1) ?_
  refine zok_ck ((q1).1) ?_
  first | refine zok_ne (by omega) (fun c9 => ?_) (fun c9 => ?_) | refine zok_if (fun c9 => ?_) (fun c9 => ?_)
  · first | exact qI_rt (by omega) (by omega) ⟨rfl, by omega⟩ | exact qI_nf ⟨rfl, by omega⟩
  · refine zok_ck ((q0).1) ?_
    refine zok_ck ((q1).1) ?_
    first | refine zok_eq (by omega) (fun c10 => ?_) (fun c10 => ?_) | refine zok_if (fun c10 => ?_) (fun c10 => ?_)
    · try simp only [zput_s, zput_n, ti_g, oI_add, oI_sub, oI_mul]
      exact l66_26 q0 q1 hR _ _ (by omega) (Nat.lt_succ_self _)
    · first | exact qI_rt (by omega) (by omega) ⟨rfl, by omega⟩ | exact qI_nf ⟨rfl, by omega⟩
/-! X6_isText -/
theorem l67_15 {sh : zSh} {r0 : Nat} (q0 : zRow sh r0) {k1 : Nat} (v1 : 0 < k1 ∧ k1 ≤ ztx.length) {t : zSt} (hR : RS sh t) : ∀ (n : Nat) (x2 : Int) , (-2147483648 ≤ x2 ∧ x2 ≤ 2147483647) ∧ (0 ≤ x2) → (6 - x2).toNat < n → zok (zev zP 67 15 [some (zR r0), some (zX k1), some (zI (oI x2))] [] (sh, t)) (qI (fun x t' => t' = t ∧ (x = 0 ∨ x = 1)) sh) := by
  intro n
  induction n with
  | zero => intro x2  _ hm; omega
  | succ n ih =>
    intro x2  hv hm
    have hz0 := RS_sz (hR) q0
    have z1_k1 := ztx_len (k1 - 1)
    simp only [zput_s, zput_n, ti_g, oI_add, oI_sub, oI_mul, b67_15]
    try simp only [zput_s, zput_n, ti_g, oI_add, oI_sub, oI_mul]
    refine zok_ck ⟨v1.1, v1.2, Nat.le_of_ble_eq_true rfl⟩ ?_
    first | refine zok_le (by omega) (fun c2 => ?_) (fun c2 => ?_) | refine zok_if (fun c2 => ?_) (fun c2 => ?_)
    · first | exact qI_rt (by omega) (by omega) ⟨rfl, by omega⟩ | exact qI_nf ⟨rfl, by omega⟩
    · refine zok_ck ((q0).1) ?_
      refine zok_pI (s57 (q0) (by omega) (hR)) (fun y3 u3 p3 => ?_)
      simp only [zput_s, zput_n, ti_g, oI_add, oI_sub, oI_mul, b67_28]
      try simp only [zput_s, zput_n, ti_g, oI_add, oI_sub, oI_mul]
      have zc4 := ztx_ch (k1 - 1) (nN ((oI x2)))
      refine zok_ck ⟨v1.1, v1.2, Nat.le_of_ble_eq_true rfl, zin_o (by omega) (by omega) (by omega)⟩ ?_
      first | refine zok_eq (by omega) (fun c5 => ?_) (fun c5 => ?_) | refine zok_if (fun c5 => ?_) (fun c5 => ?_)
      · try simp only [zput_s, zput_n, ti_g, oI_add, oI_sub, oI_mul]
        exact ih _ (by omega) (by omega)
      · first | exact qI_rt (by omega) (by omega) ⟨rfl, by omega⟩ | exact qI_nf ⟨rfl, by omega⟩
theorem s67 {sh : zSh} {r0 : Nat} (q0 : zRow sh r0) {k1 : Nat} (v1 : 0 < k1 ∧ k1 ≤ ztx.length) {t : zSt} (hR : RS sh t) : zok (zcl zP 67 [zR r0, zX k1] (sh, t)) (qI (fun x t' => t' = t ∧ (x = 0 ∨ x = 1)) sh) := by
  have hz0 := RS_sz (hR) q0
  have g6_1 := RS_sz (hR) (q0)
  have z6_k1 := ztx_len (k1 - 1)
  rw [b67_0]
  try simp only [zput_s, zput_n, ti_g, oI_add, oI_sub, oI_mul]
  refine zok_ck ((q0).1) ?_
  refine zok_ck ⟨v1.1, v1.2, Nat.le_of_ble_eq_true rfl⟩ ?_
  first | refine zok_eq (by omega) (fun c7 => ?_) (fun c7 => ?_) | refine zok_if (fun c7 => ?_) (fun c7 => ?_)
  · try simp only [zput_s, zput_n, ti_g, oI_add, oI_sub, oI_mul]
    exact l67_15 q0 v1 hR _ _ (by omega) (Nat.lt_succ_self _)
  · first | exact qI_rt (by omega) (by omega) ⟨rfl, by omega⟩ | exact qI_nf ⟨rfl, by omega⟩
/-! X6_find -/
theorem l68_3 {sh : zSh} {r0 : Nat} (q0 : zRow sh r0) {x1 : Int} (u1 : -2147483648 ≤ x1 ∧ x1 ≤ 2147483647) {x2 : Int} (u2 : -2147483648 ≤ x2 ∧ x2 ≤ 2147483647) {x3 : Int} (u3 : -2147483648 ≤ x3 ∧ x3 ≤ 2147483647) (d1 : 0 ≤ x1) {t : zSt} (hR : RS sh t) : ∀ (n : Nat) (x4 : Int) , (-2147483648 ≤ x4 ∧ x4 ≤ 2147483647) ∧ (x2 ≤ x4) → (x3 - x4).toNat < n → zok (zev zP 68 3 [some (zR r0), some (zI (oI x1)), some (zI (oI x2)), some (zI (oI x3)), some (zI (oI x4))] [] (sh, t)) (qI (fun x t' => t' = t ∧ ((0 ≤ x ∧ x2 ≤ x ∧ x < x3 ∧ x < tg t r0 1) ∨ x = x3)) sh) := by
  intro n
  induction n with
  | zero => intro x4  _ hm; omega
  | succ n ih =>
    intro x4  hv hm
    have hz0 := RS_sz (hR) q0
    simp only [zput_s, zput_n, ti_g, oI_add, oI_sub, oI_mul, b68_3]
    try simp only [zput_s, zput_n, ti_g, oI_add, oI_sub, oI_mul]
    first | refine zok_le (by omega) (fun c2 => ?_) (fun c2 => ?_) | refine zok_if (fun c2 => ?_) (fun c2 => ?_)
    · first | exact qI_rt (by omega) (by omega) ⟨rfl, by omega⟩ | exact qI_nf ⟨rfl, by omega⟩
    · refine zok_ck ((q0).1) ?_
      refine zok_pI (s57 (q0) (by omega) (hR)) (fun y3 u3 p3 => ?_)
      simp only [zput_s, zput_n, ti_g, oI_add, oI_sub, oI_mul, b68_15]
      try simp only [zput_s, zput_n, ti_g, oI_add, oI_sub, oI_mul]
      first | refine zok_ne (by omega) (fun c5 => ?_) (fun c5 => ?_) | refine zok_if (fun c5 => ?_) (fun c5 => ?_)
      · try simp only [zput_s, zput_n, ti_g, oI_add, oI_sub, oI_mul]
        exact ih _ (by omega) (by omega)
      · first | exact qI_rt (by omega) (by omega) ⟨rfl, by omega⟩ | exact qI_nf ⟨rfl, by omega⟩
theorem s68 {sh : zSh} {r0 : Nat} (q0 : zRow sh r0) {x1 : Int} (u1 : -2147483648 ≤ x1 ∧ x1 ≤ 2147483647) {x2 : Int} (u2 : -2147483648 ≤ x2 ∧ x2 ≤ 2147483647) {x3 : Int} (u3 : -2147483648 ≤ x3 ∧ x3 ≤ 2147483647) (d1 : 0 ≤ x1) {t : zSt} (hR : RS sh t) : zok (zcl zP 68 [zR r0, zI (oI x1), zI (oI x2), zI (oI x3)] (sh, t)) (qI (fun x t' => t' = t ∧ ((0 ≤ x ∧ x2 ≤ x ∧ x < x3 ∧ x < tg t r0 1) ∨ x = x3)) sh) := by
  have hz0 := RS_sz (hR) q0
  rw [b68_0]
  try simp only [zput_s, zput_n, ti_g, oI_add, oI_sub, oI_mul]
  try simp only [zput_s, zput_n, ti_g, oI_add, oI_sub, oI_mul]
  exact l68_3 q0 (by omega) (by omega) (by omega) d1 hR _ _ (by omega) (Nat.lt_succ_self _)
/-! X6_findLast -/
theorem l69_5 {sh : zSh} {r0 : Nat} (q0 : zRow sh r0) {x1 : Int} (u1 : -2147483648 ≤ x1 ∧ x1 ≤ 2147483647) {x2 : Int} (u2 : -2147483648 ≤ x2 ∧ x2 ≤ 2147483647) {x3 : Int} (u3 : -2147483648 ≤ x3 ∧ x3 ≤ 2147483647) (d2 : 0 ≤ x2) (d3 : -2147483647 ≤ x3) {t : zSt} (hR : RS sh t) : ∀ (n : Nat) (x4 : Int) , (-2147483648 ≤ x4 ∧ x4 ≤ 2147483647) ∧ (x4 < x3) → (x4 - x2 + 1).toNat < n → zok (zev zP 69 5 [some (zR r0), some (zI (oI x1)), some (zI (oI x2)), some (zI (oI x3)), some (zI (oI x4))] [] (sh, t)) (qI (fun x t' => t' = t ∧ ((x2 ≤ x ∧ x < x3) ∨ x = -1)) sh) := by
  intro n
  induction n with
  | zero => intro x4  _ hm; omega
  | succ n ih =>
    intro x4  hv hm
    have hz0 := RS_sz (hR) q0
    simp only [zput_s, zput_n, ti_g, oI_add, oI_sub, oI_mul, b69_5]
    try simp only [zput_s, zput_n, ti_g, oI_add, oI_sub, oI_mul]
    first | refine zok_lt (by omega) (fun c2 => ?_) (fun c2 => ?_) | refine zok_if (fun c2 => ?_) (fun c2 => ?_)
    · first | exact qI_rt (by omega) (by omega) ⟨rfl, by omega⟩ | exact qI_nf ⟨rfl, by omega⟩
    · refine zok_ck ((q0).1) ?_
      refine zok_pI (s57 (q0) (by omega) (hR)) (fun y3 u3 p3 => ?_)
      simp only [zput_s, zput_n, ti_g, oI_add, oI_sub, oI_mul, b69_17]
      try simp only [zput_s, zput_n, ti_g, oI_add, oI_sub, oI_mul]
      first | refine zok_ne (by omega) (fun c5 => ?_) (fun c5 => ?_) | refine zok_if (fun c5 => ?_) (fun c5 => ?_)
      · try simp only [zput_s, zput_n, ti_g, oI_add, oI_sub, oI_mul]
        exact ih _ (by omega) (by omega)
      · first | exact qI_rt (by omega) (by omega) ⟨rfl, by omega⟩ | exact qI_nf ⟨rfl, by omega⟩
theorem s69 {sh : zSh} {r0 : Nat} (q0 : zRow sh r0) {x1 : Int} (u1 : -2147483648 ≤ x1 ∧ x1 ≤ 2147483647) {x2 : Int} (u2 : -2147483648 ≤ x2 ∧ x2 ≤ 2147483647) {x3 : Int} (u3 : -2147483648 ≤ x3 ∧ x3 ≤ 2147483647) (d2 : 0 ≤ x2) (d3 : -2147483647 ≤ x3) {t : zSt} (hR : RS sh t) : zok (zcl zP 69 [zR r0, zI (oI x1), zI (oI x2), zI (oI x3)] (sh, t)) (qI (fun x t' => t' = t ∧ ((x2 ≤ x ∧ x < x3) ∨ x = -1)) sh) := by
  have hz0 := RS_sz (hR) q0
  rw [b69_0]
  try simp only [zput_s, zput_n, ti_g, oI_add, oI_sub, oI_mul]
  try simp only [zput_s, zput_n, ti_g, oI_add, oI_sub, oI_mul]
  exact l69_5 q0 (by omega) (by omega) (by omega) d2 d3 hR _ _ (by omega) (Nat.lt_succ_self _)
/-! X6_count -/
theorem l70_5 {sh : zSh} {r0 : Nat} (q0 : zRow sh r0) {x1 : Int} (u1 : -2147483648 ≤ x1 ∧ x1 ≤ 2147483647) {x2 : Int} (u2 : -2147483648 ≤ x2 ∧ x2 ≤ 2147483647) (d2 : 0 ≤ x2) {t : zSt} (hR : RS sh t) : ∀ (n : Nat) (x3 : Int) (x4 : Int) , (-2147483648 ≤ x3 ∧ x3 ≤ 2147483647) ∧ (-2147483648 ≤ x4 ∧ x4 ≤ 2147483647) ∧ (0 ≤ x3) ∧ (0 ≤ x2) ∧ (x2 ≤ x4) ∧ (x3 ≤ 100000) ∧ ((x4 ≤ tg t r0 1 → x3 ≤ x4) ∧ (tg t r0 1 < x4 → x3 = 0)) → (tg t r0 1 - x4).toNat < n → zok (zev zP 70 5 [some (zR r0), some (zI (oI x1)), some (zI (oI x2)), some (zI (oI x3)), some (zI (oI x4))] [] (sh, t)) (qI (fun x t' => t' = t ∧ (0 ≤ x ∧ x ≤ 100000)) sh) := by
  intro n
  induction n with
  | zero => intro x3 x4  _ hm; omega
  | succ n ih =>
    intro x3 x4  hv hm
    have hz0 := RS_sz (hR) q0
    have g1_1 := RS_sz (hR) (q0)
    simp only [zput_s, zput_n, ti_g, oI_add, oI_sub, oI_mul, b70_5]
    try simp only [zput_s, zput_n, ti_g, oI_add, oI_sub, oI_mul]
    refine zok_ck ((q0).1) ?_
    first | refine zok_le (by omega) (fun c2 => ?_) (fun c2 => ?_) | refine zok_if (fun c2 => ?_) (fun c2 => ?_)
    · first | exact qI_rt (by omega) (by omega) ⟨rfl, by omega⟩ | exact qI_nf ⟨rfl, by omega⟩
    · refine zok_ck ((q0).1) ?_
      refine zok_pI (s57 (q0) (by omega) (hR)) (fun y3 u3 p3 => ?_)
      simp only [zput_s, zput_n, ti_g, oI_add, oI_sub, oI_mul, b70_20]
      try simp only [zput_s, zput_n, ti_g, oI_add, oI_sub, oI_mul]
      first | refine zok_ne (by omega) (fun c5 => ?_) (fun c5 => ?_) | refine zok_if (fun c5 => ?_) (fun c5 => ?_)
      · try simp only [zput_s, zput_n, ti_g, oI_add, oI_sub, oI_mul]
        exact ih _ _ (by omega) (by omega)
      · try simp only [zput_s, zput_n, ti_g, oI_add, oI_sub, oI_mul]
        exact ih _ _ (by omega) (by omega)
theorem s70 {sh : zSh} {r0 : Nat} (q0 : zRow sh r0) {x1 : Int} (u1 : -2147483648 ≤ x1 ∧ x1 ≤ 2147483647) {x2 : Int} (u2 : -2147483648 ≤ x2 ∧ x2 ≤ 2147483647) (d2 : 0 ≤ x2) {t : zSt} (hR : RS sh t) : zok (zcl zP 70 [zR r0, zI (oI x1), zI (oI x2)] (sh, t)) (qI (fun x t' => t' = t ∧ (0 ≤ x ∧ x ≤ 100000)) sh) := by
  have hz0 := RS_sz (hR) q0
  rw [b70_0]
  try simp only [zput_s, zput_n, ti_g, oI_add, oI_sub, oI_mul]
  try simp only [zput_s, zput_n, ti_g, oI_add, oI_sub, oI_mul]
  exact l70_5 q0 (by omega) (by omega) d2 hR _ _ _ (by omega) (Nat.lt_succ_self _)
/-! X6_startOfPiece -/
theorem l71_6 {sh : zSh} {r0 : Nat} (q0 : zRow sh r0) {x1 : Int} (u1 : -2147483648 ≤ x1 ∧ x1 ≤ 2147483647) {x2 : Int} (u2 : -2147483648 ≤ x2 ∧ x2 ≤ 2147483647) {x3 : Int} (u3 : -2147483648 ≤ x3 ∧ x3 ≤ 2147483647) (d1 : 0 ≤ x1) {t : zSt} (hR : RS sh t) : ∀ (n : Nat) (v4 : Int32) (x5 : Int) , (-2147483648 ≤ x5 ∧ x5 ≤ 2147483647) ∧ (0 ≤ x5) → (x2 - x5).toNat < n → zok (zev zP 71 6 [some (zR r0), some (zI (oI x1)), some (zI (oI x2)), some (zI (oI x3)), some (zI v4), some (zI (oI x5))] [] (sh, t)) (qI (fun x t' => t' = t ∧ (True)) sh) := by
  intro n
  induction n with
  | zero => intro v4 x5  _ hm; omega
  | succ n ih =>
    intro v4 x5  hv hm
    obtain ⟨x4, a4, b4, rfl⟩ := oI_nf v4
    have hz0 := RS_sz (hR) q0
    have g1_1 := RS_sz (hR) (q0)
    simp only [zput_s, zput_n, ti_g, oI_add, oI_sub, oI_mul, b71_6]
    try simp only [zput_s, zput_n, ti_g, oI_add, oI_sub, oI_mul]
    first | refine zok_le (by omega) (fun c2 => ?_) (fun c2 => ?_) | refine zok_if (fun c2 => ?_) (fun c2 => ?_)
    · first | exact qI_rt (by omega) (by omega) ⟨rfl, trivial⟩ | exact qI_nf ⟨rfl, trivial⟩
    · refine zok_ck ((q0).1) ?_
      refine zok_ck ((q0).1) ?_
      refine zok_pI (s68 (q0) (by omega) (by omega) (by omega) (by omega) (hR)) (fun y3 u3 p3 => ?_)
      simp only [zput_s, zput_n, ti_g, oI_add, oI_sub, oI_mul, b71_23]
      try simp only [zput_s, zput_n, ti_g, oI_add, oI_sub, oI_mul]
      try simp only [zput_s, zput_n, ti_g, oI_add, oI_sub, oI_mul]
      exact ih _ _ (by omega) (by omega)
theorem s71 {sh : zSh} {r0 : Nat} (q0 : zRow sh r0) {x1 : Int} (u1 : -2147483648 ≤ x1 ∧ x1 ≤ 2147483647) {x2 : Int} (u2 : -2147483648 ≤ x2 ∧ x2 ≤ 2147483647) {x3 : Int} (u3 : -2147483648 ≤ x3 ∧ x3 ≤ 2147483647) (d1 : 0 ≤ x1) {t : zSt} (hR : RS sh t) : zok (zcl zP 71 [zR r0, zI (oI x1), zI (oI x2), zI (oI x3)] (sh, t)) (qI (fun x t' => t' = t ∧ (True)) sh) := by
  have hz0 := RS_sz (hR) q0
  rw [b71_0]
  try simp only [zput_s, zput_n, ti_g, oI_add, oI_sub, oI_mul]
  try simp only [zput_s, zput_n, ti_g, oI_add, oI_sub, oI_mul]
  exact l71_6 q0 (by omega) (by omega) (by omega) d1 hR _ _ _ (by omega) (Nat.lt_succ_self _)
/-! X6_codeAt -/
theorem s72 {sh : zSh} {r0 : Nat} (q0 : zRow sh r0) {x1 : Int} (u1 : -2147483648 ≤ x1 ∧ x1 ≤ 2147483647) {t : zSt} (hR : RS sh t) : zok (zcl zP 72 [zR r0, zI (oI x1)] (sh, t)) (qI (fun x t' => t' = t ∧ (-1 ≤ x ∧ x ≤ 255)) sh) := by
  have hz0 := RS_sz (hR) q0
  rw [b72_0]
  try simp only [zput_s, zput_n, ti_g, oI_add, oI_sub, oI_mul]
  refine zok_ck ((q0).1) ?_
  refine zok_pI (s57 (q0) (by omega) (hR)) (fun y2 u2 p2 => ?_)
  simp only [zput_s, zput_n, ti_g, oI_add, oI_sub, oI_mul, b72_5]
  try simp only [zput_s, zput_n, ti_g, oI_add, oI_sub, oI_mul]
  first | refine zok_eq (by omega) (fun c4 => ?_) (fun c4 => ?_) | refine zok_if (fun c4 => ?_) (fun c4 => ?_)
  · refine zok_ck ((q0).1) ?_
    refine zok_pI (s57 (q0) (by omega) (hR)) (fun y5 u5 p5 => ?_)
    simp only [zput_s, zput_n, ti_g, oI_add, oI_sub, oI_mul, b72_19]
    try simp only [zput_s, zput_n, ti_g, oI_add, oI_sub, oI_mul]
    refine zok_pI (s88 (by omega)) (fun y7 u7 p7 => ?_)
    simp only [zput_s, zput_n, ti_g, oI_add, oI_sub, oI_mul, b72_22]
    try simp only [zput_s, zput_n, ti_g, oI_add, oI_sub, oI_mul]
    refine zok_ck ((q0).1) ?_
    refine zok_pI (s57 (q0) (by omega) (hR)) (fun y9 u9 p9 => ?_)
    simp only [zput_s, zput_n, ti_g, oI_add, oI_sub, oI_mul, b72_30]
    try simp only [zput_s, zput_n, ti_g, oI_add, oI_sub, oI_mul]
    refine zok_pI (s88 (by omega)) (fun y11 u11 p11 => ?_)
    simp only [zput_s, zput_n, ti_g, oI_add, oI_sub, oI_mul, b72_33]
    try simp only [zput_s, zput_n, ti_g, oI_add, oI_sub, oI_mul]
    first | refine zok_eq (by omega) (fun c13 => ?_) (fun c13 => ?_) | refine zok_if (fun c13 => ?_) (fun c13 => ?_)
    · first | exact qI_rt (by omega) (by omega) ⟨rfl, by omega⟩ | exact qI_nf ⟨rfl, by omega⟩
    · first | refine zok_ne (by omega) (fun c14 => ?_) (fun c14 => ?_) | refine zok_if (fun c14 => ?_) (fun c14 => ?_)
      · first | exact qI_rt (by omega) (by omega) ⟨rfl, by omega⟩ | exact qI_nf ⟨rfl, by omega⟩
      · first | exact qI_rt (by omega) (by omega) ⟨rfl, by omega⟩ | exact qI_nf ⟨rfl, by omega⟩
  · first | exact qI_rt (by omega) (by omega) ⟨rfl, by omega⟩ | exact qI_nf ⟨rfl, by omega⟩
/-! X6_addDecoded -/
theorem l73_3 {sh : zSh} {r0 : Nat} (q0 : zRow sh r0) {r1 : Nat} (q1 : zRow sh r1) {x2 : Int} (u2 : -2147483648 ≤ x2 ∧ x2 ≤ 2147483647) {x3 : Int} (u3 : -2147483648 ≤ x3 ∧ x3 ≤ 2147483647) (d3 : x3 ≤ 100000) (dn : r0 ≠ r1) {t0 : zSt} (hR : RS sh t0) : ∀ (n : Nat) (x4 : Int) (o5 : Option zV) (wo5 : zisL o5 = false) (t1 : zSt), FrR sh r0 t0 t1 → (-2147483648 ≤ x4 ∧ x4 ≤ 2147483647) → (x3 - x4).toNat < n → zok (zev zP 73 3 [some (zR r0), some (zR r1), some (zI (oI x2)), some (zI (oI x3)), some (zI (oI x4)), o5] [] (sh, t1)) (zq0 (fun t' => FrR sh r0 t0 t' ∧ (True)) sh) := by
  intro n
  induction n with
  | zero => intro x4 o5 wo5 t1 f0 _ hm; omega
  | succ n ih =>
    intro x4 o5 wo5 t1 f0 hv hm
    have hz0 := RS_sz (f0.rs) q0
    have hz1 := RS_sz (f0.rs) q1
    try simp only [zput_s, zput_n, ti_g, oI_add, oI_sub, oI_mul]
    rw [b73_3 (o5 := o5) (wo5 := wo5)]
    try simp only [zput_s, zput_n, ti_g, oI_add, oI_sub, oI_mul]
    first | refine zok_le (by omega) (fun c2 => ?_) (fun c2 => ?_) | refine zok_if (fun c2 => ?_) (fun c2 => ?_)
    · exact q0_rt ⟨f0, trivial⟩
    · refine zok_ck ((q1).1) ?_
      refine zok_pI (s72 (q1) (by omega) (f0.rs)) (fun y3 u3 p3 => ?_)
      try simp only [zput_s, zput_n, ti_g, oI_add, oI_sub, oI_mul]
      rw [b73_15 (o5 := o5) (wo5 := wo5)]
      try simp only [zput_s, zput_n, ti_g, oI_add, oI_sub, oI_mul]
      first | refine zok_ne (by omega) (fun c5 => ?_) (fun c5 => ?_) | refine zok_if (fun c5 => ?_) (fun c5 => ?_)
      · refine zok_ck ((q0).1) ?_
        refine zok_c0 (s59 (q0) (f0.rs)) (fun t6 p6 => ?_)
        obtain ⟨f6, p6⟩ := p6
        simp only [zput_s, zput_n, ti_g, oI_add, oI_sub, oI_mul, b73_38]
        try simp only [zput_s, zput_n, ti_g, oI_add, oI_sub, oI_mul]
        first | refine zok_ne (by omega) (fun c8 => ?_) (fun c8 => ?_) | refine zok_if (fun c8 => ?_) (fun c8 => ?_)
        · try simp only [zput_s, zput_n, ti_g, oI_add, oI_sub, oI_mul]
          exact ih _ _ rfl _ ((f0).trans (f6)) (by omega) (by omega)
        · try simp only [zput_s, zput_n, ti_g, oI_add, oI_sub, oI_mul]
          exact ih _ _ rfl _ ((f0).trans (f6)) (by omega) (by omega)
      · refine zok_ck ((q1).1) ?_
        refine zok_pI (s57 (q1) (by omega) (f0.rs)) (fun y9 u9 p9 => ?_)
        simp only [zput_s, zput_n, ti_g, oI_add, oI_sub, oI_mul, b73_30]
        try simp only [zput_s, zput_n, ti_g, oI_add, oI_sub, oI_mul]
        refine zok_ck ((q0).1) ?_
        refine zok_c0 (s59 (q0) (f0.rs)) (fun t11 p11 => ?_)
        obtain ⟨f11, p11⟩ := p11
        simp only [zput_s, zput_n, ti_g, oI_add, oI_sub, oI_mul, b73_38]
        try simp only [zput_s, zput_n, ti_g, oI_add, oI_sub, oI_mul]
        first | refine zok_ne (by omega) (fun c13 => ?_) (fun c13 => ?_) | refine zok_if (fun c13 => ?_) (fun c13 => ?_)
        · try simp only [zput_s, zput_n, ti_g, oI_add, oI_sub, oI_mul]
          exact ih _ _ rfl _ ((f0).trans (f11)) (by omega) (by omega)
        · try simp only [zput_s, zput_n, ti_g, oI_add, oI_sub, oI_mul]
          exact ih _ _ rfl _ ((f0).trans (f11)) (by omega) (by omega)
theorem s73 {sh : zSh} {r0 : Nat} (q0 : zRow sh r0) {r1 : Nat} (q1 : zRow sh r1) {x2 : Int} (u2 : -2147483648 ≤ x2 ∧ x2 ≤ 2147483647) {x3 : Int} (u3 : -2147483648 ≤ x3 ∧ x3 ≤ 2147483647) (d3 : x3 ≤ 100000) (dn : r0 ≠ r1) {t : zSt} (hR : RS sh t) : zok (zcl zP 73 [zR r0, zR r1, zI (oI x2), zI (oI x3)] (sh, t)) (zq0 (fun t' => FrR sh r0 t t' ∧ (True)) sh) := by
  have hz0 := RS_sz (hR) q0
  have hz1 := RS_sz (hR) q1
  rw [b73_0]
  try simp only [zput_s, zput_n, ti_g, oI_add, oI_sub, oI_mul]
  try simp only [zput_s, zput_n, ti_g, oI_add, oI_sub, oI_mul]
  exact l73_3 q0 q1 (by omega) (by omega) d3 dn hR _ _ _ rfl _ (FrR.refl hR) (by omega) (Nat.lt_succ_self _)
