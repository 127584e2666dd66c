set_option maxRecDepth 16384
/-! X0_group -/
theorem s3 {sh : zSh} {T MB : Nat} (F : zCl sh T MB) {r0 : Nat} (q0 : zAd sh T MB r0) {x1 : Int} (u1 : -2147483648 ≤ x1 ∧ x1 ≤ 2147483647) {t : zSt} (hR : RS sh t) : zok (zcl zP 3 [zR r0, zI (oI x1)] (sh, t)) (qI (fun x t' => t' = t ∧ (True)) sh) := by
  have ha0 : (sk sh (sr sh r0 0)).2 = 8 := by rw [q0.2.2.1]
  rw [b3_0]
  try simp only [zput_s, zput_n, ti_g, oI_add, oI_sub, oI_mul]
  first | refine zok_lt (by omega) (fun c2 => ?_) (fun c2 => ?_) | refine zok_if (fun c2 => ?_) (fun c2 => ?_)
  · first | exact qI_rt (by omega) (by omega) ⟨rfl, trivial⟩ | exact qI_nf ⟨rfl, trivial⟩
  · refine zok_ck ((q0).1) ?_
    refine zok_ck (by rw [(q0).2.2.1]; decide) ?_
    first | refine zok_le (by omega) (fun c3 => ?_) (fun c3 => ?_) | refine zok_if (fun c3 => ?_) (fun c3 => ?_)
    · first | exact qI_rt (by omega) (by omega) ⟨rfl, trivial⟩ | exact qI_nf ⟨rfl, trivial⟩
    · refine zok_ck ((q0).1) ?_
      refine zok_ck ⟨(by rw [(q0).2.2.1]), zin_o (by omega) (by omega) (by omega)⟩ ?_
      first | exact qI_rt (by omega) (by omega) ⟨rfl, trivial⟩ | exact qI_nf ⟨rfl, trivial⟩
/-! X0_setGroup -/
theorem s4 {sh : zSh} {T MB : Nat} (F : zCl sh T MB) {r0 : Nat} (q0 : zAd sh T MB r0) {x1 : Int} (u1 : -2147483648 ≤ x1 ∧ x1 ≤ 2147483647) {x2 : Int} (u2 : -2147483648 ≤ x2 ∧ x2 ≤ 2147483647) {t : zSt} (hR : RS sh t) : zok (zcl zP 4 [zR r0, zI (oI x1), zI (oI x2)] (sh, t)) (zq0 (fun t' => FrC sh T MB t t' ∧ (True)) sh) := by
  have ha0 : (sk sh (sr sh r0 0)).2 = 8 := by rw [q0.2.2.1]
  rw [b4_0]
  try simp only [zput_s, zput_n, ti_g, oI_add, oI_sub, oI_mul]
  first | refine zok_lt (by omega) (fun c2 => ?_) (fun c2 => ?_) | refine zok_if (fun c2 => ?_) (fun c2 => ?_)
  · exact q0_rt ⟨FrC.refl hR, trivial⟩
  · refine zok_ck ((q0).1) ?_
    refine zok_ck (by rw [(q0).2.2.1]; decide) ?_
    first | refine zok_le (by omega) (fun c3 => ?_) (fun c3 => ?_) | refine zok_if (fun c3 => ?_) (fun c3 => ?_)
    · exact q0_rt ⟨FrC.refl hR, trivial⟩
    · refine zok_ck ((q0).1) ?_
      refine zok_ck ⟨(by rw [(q0).2.2.1]), zin_o (by omega) (by omega) (by omega)⟩ ?_
      exact q0_rt ⟨FrC_I F (hR) ((q0).2.2.2) (by rw [(q0).2.2.1]; decide) (by rw [(q0).2.2.1]; intro h; cases h), trivial⟩
/-! X0_bits -/
theorem s2 {sh : zSh} {T MB : Nat} (F : zCl sh T MB) {r0 : Nat} (q0 : zAd sh T MB r0) {x1 : Int} (u1 : -2147483648 ≤ x1 ∧ x1 ≤ 2147483647) (d1 : 0 ≤ x1 ∧ x1 ≤ 3) {t : zSt} (hR : RS sh t) : zok (zcl zP 2 [zR r0, zI (oI x1)] (sh, t)) (qI (fun x t' => t' = t ∧ (True)) sh) := by
  have ha0 : (sk sh (sr sh r0 0)).2 = 8 := by rw [q0.2.2.1]
  rw [b2_0]
  try simp only [zput_s, zput_n, ti_g, oI_add, oI_sub, oI_mul]
  refine zok_ck ((q0).1) ?_
  refine zok_pI (s3 F (q0) (by omega) (hR)) (fun y2 u2 p2 => ?_)
  simp only [zput_s, zput_n, ti_g, oI_add, oI_sub, oI_mul, b2_7]
  try simp only [zput_s, zput_n, ti_g, oI_add, oI_sub, oI_mul]
  refine zok_ck ((q0).1) ?_
  obtain ⟨w4, wa4, wb4, we4⟩ := oI_nf ((oI y2) <<< ((oI 16) &&& 31))
  try simp only [zput_s, zput_n, ti_g, oI_add, oI_sub, oI_mul] at we4
  try rw [we4]
  refine zok_pI (s3 F (q0) (by omega) (hR)) (fun y5 u5 p5 => ?_)
  simp only [zput_s, zput_n, ti_g, oI_add, oI_sub, oI_mul, b2_19]
  try simp only [zput_s, zput_n, ti_g, oI_add, oI_sub, oI_mul]
  first | exact qI_rt (by omega) (by omega) ⟨rfl, trivial⟩ | exact qI_nf ⟨rfl, trivial⟩
/-! X0_isFuture -/
theorem l5_66 {sh : zSh} {T MB : Nat} (F : zCl sh T MB) {r0 : Nat} (q0 : zRw sh T MB r0) {x1 : Int} (u1 : -2147483648 ≤ x1 ∧ x1 ≤ 2147483647) {x2 : Int} (u2 : -2147483648 ≤ x2 ∧ x2 ≤ 2147483647) (d1 : 0 ≤ x1 ∧ x1 ≤ 200000) (d2 : -1 ≤ x2 ∧ x2 ≤ 200000) {t : zSt} (hR : RS sh t) : ∀ (n : Nat) (x3 : Int) (x4 : Int) (o5 : Option zV) (wo5 : zisL o5 = false), (-2147483648 ≤ x3 ∧ x3 ≤ 2147483647) ∧ (-2147483648 ≤ x4 ∧ x4 ≤ 2147483647) ∧ (x1 < x2 ∧ x1 ≤ x3 ∧ x3 ≤ x2) ∧ (x1 ≤ x4) → (x2 - x4).toNat < n → zok (zev zP 5 66 [some (zR r0), some (zI (oI x1)), some (zI (oI x2)), some (zI (oI x3)), some (zI (oI x4)), o5] [] (sh, t)) (qI (fun x t' => t' = t ∧ (x = 0 ∨ x = 1)) sh) := by
  intro n
  induction n with
  | zero => intro x3 x4 o5 wo5 _ hm; omega
  | succ n ih =>
    intro x3 x4 o5 wo5 hv hm
    have hz0 := RS_sz (hR) q0.1
    try simp only [zput_s, zput_n, ti_g, oI_add, oI_sub, oI_mul]
    rw [b5_66 (o5 := o5) (wo5 := wo5)]
    try simp only [zput_s, zput_n, ti_g, oI_add, oI_sub, oI_mul]
    first | refine zok_le (by omega) (fun c2 => ?_) (fun c2 => ?_) | refine zok_if (fun c2 => ?_) (fun c2 => ?_)
    · first | refine zok_le (by omega) (fun c3 => ?_) (fun c3 => ?_) | refine zok_if (fun c3 => ?_) (fun c3 => ?_)
      · first | exact qI_rt (by omega) (by omega) ⟨rfl, by omega⟩ | exact qI_nf ⟨rfl, by omega⟩
      · first | refine zok_le (by omega) (fun c4 => ?_) (fun c4 => ?_) | refine zok_if (fun c4 => ?_) (fun c4 => ?_)
        · first | exact qI_rt (by omega) (by omega) ⟨rfl, by omega⟩ | exact qI_nf ⟨rfl, by omega⟩
        · first | exact qI_rt (by omega) (by omega) ⟨rfl, by omega⟩ | exact qI_nf ⟨rfl, by omega⟩
    · refine zok_ck (((q0).1).1) ?_
      refine zok_pI (s57 ((q0).1) (by omega) (hR)) (fun y5 u5 p5 => ?_)
      try simp only [zput_s, zput_n, ti_g, oI_add, oI_sub, oI_mul]
      rw [b5_78 (o5 := o5) (wo5 := wo5)]
      try simp only [zput_s, zput_n, ti_g, oI_add, oI_sub, oI_mul]
      refine zok_pI (s86 (by omega)) (fun y7 u7 p7 => ?_)
      simp only [zput_s, zput_n, ti_g, oI_add, oI_sub, oI_mul, b5_85]
      try simp only [zput_s, zput_n, ti_g, oI_add, oI_sub, oI_mul]
      first | refine zok_ne (by omega) (fun c9 => ?_) (fun c9 => ?_) | refine zok_if (fun c9 => ?_) (fun c9 => ?_)
      · try simp only [zput_s, zput_n, ti_g, oI_add, oI_sub, oI_mul]
        exact ih _ _ _ rfl (by omega) (by omega)
      · refine zok_pI (s87 (by omega)) (fun y10 u10 p10 => ?_)
        simp only [zput_s, zput_n, ti_g, oI_add, oI_sub, oI_mul, b5_93]
        try simp only [zput_s, zput_n, ti_g, oI_add, oI_sub, oI_mul]
        first | refine zok_ne (by omega) (fun c12 => ?_) (fun c12 => ?_) | refine zok_if (fun c12 => ?_) (fun c12 => ?_)
        · try simp only [zput_s, zput_n, ti_g, oI_add, oI_sub, oI_mul]
          exact ih _ _ _ rfl (by omega) (by omega)
        · first | refine zok_eq (by omega) (fun c13 => ?_) (fun c13 => ?_) | refine zok_if (fun c13 => ?_) (fun c13 => ?_)
          · try simp only [zput_s, zput_n, ti_g, oI_add, oI_sub, oI_mul]
            exact ih _ _ _ rfl (by omega) (by omega)
          · first | exact qI_rt (by omega) (by omega) ⟨rfl, by omega⟩ | exact qI_nf ⟨rfl, by omega⟩
theorem l5_34 {sh : zSh} {T MB : Nat} (F : zCl sh T MB) {r0 : Nat} (q0 : zRw sh T MB r0) {x1 : Int} (u1 : -2147483648 ≤ x1 ∧ x1 ≤ 2147483647) {x2 : Int} (u2 : -2147483648 ≤ x2 ∧ x2 ≤ 2147483647) (d1 : 0 ≤ x1 ∧ x1 ≤ 200000) (d2 : -1 ≤ x2 ∧ x2 ≤ 200000) {t : zSt} (hR : RS sh t) : ∀ (n : Nat) (x3 : Int) (x4 : Int) , (-2147483648 ≤ x3 ∧ x3 ≤ 2147483647) ∧ (-2147483648 ≤ x4 ∧ x4 ≤ 2147483647) ∧ (x1 < x2 ∧ x1 ≤ x3 ∧ x3 ≤ x2) ∧ (x1 ≤ x4) → (x3 - x4).toNat < n → zok (zev zP 5 34 [some (zR r0), some (zI (oI x1)), some (zI (oI x2)), some (zI (oI x3)), some (zI (oI x4)), none] [] (sh, t)) (qI (fun x t' => t' = t ∧ (x = 0 ∨ x = 1)) sh) := by
  intro n
  induction n with
  | zero => intro x3 x4  _ hm; omega
  | succ n ih =>
    intro x3 x4  hv hm
    have hz0 := RS_sz (hR) q0.1
    simp only [zput_s, zput_n, ti_g, oI_add, oI_sub, oI_mul, b5_34]
    try simp only [zput_s, zput_n, ti_g, oI_add, oI_sub, oI_mul]
    first | refine zok_le (by omega) (fun c2 => ?_) (fun c2 => ?_) | refine zok_if (fun c2 => ?_) (fun c2 => ?_)
    · try simp only [zput_s, zput_n, ti_g, oI_add, oI_sub, oI_mul]
      exact l5_66 F q0 (by omega) (by omega) d1 d2 hR _ _ _ _ rfl (by omega) (Nat.lt_succ_self _)
    · refine zok_ck (((q0).1).1) ?_
      refine zok_pI (s57 ((q0).1) (by omega) (hR)) (fun y3 u3 p3 => ?_)
      simp only [zput_s, zput_n, ti_g, oI_add, oI_sub, oI_mul, b5_46]
      try simp only [zput_s, zput_n, ti_g, oI_add, oI_sub, oI_mul]
      refine zok_pI (s88 (by omega)) (fun y5 u5 p5 => ?_)
      simp only [zput_s, zput_n, ti_g, oI_add, oI_sub, oI_mul, b5_49]
      try simp only [zput_s, zput_n, ti_g, oI_add, oI_sub, oI_mul]
      first | refine zok_ne (by omega) (fun c7 => ?_) (fun c7 => ?_) | refine zok_if (fun c7 => ?_) (fun c7 => ?_)
      · try simp only [zput_s, zput_n, ti_g, oI_add, oI_sub, oI_mul]
        exact ih _ _ (by omega) (by omega)
      · first | exact qI_rt (by omega) (by omega) ⟨rfl, by omega⟩ | exact qI_nf ⟨rfl, by omega⟩
theorem s5 {sh : zSh} {T MB : Nat} (F : zCl sh T MB) {r0 : Nat} (q0 : zRw sh T MB r0) {x1 : Int} (u1 : -2147483648 ≤ x1 ∧ x1 ≤ 2147483647) {x2 : Int} (u2 : -2147483648 ≤ x2 ∧ x2 ≤ 2147483647) (d1 : 0 ≤ x1 ∧ x1 ≤ 200000) (d2 : -1 ≤ x2 ∧ x2 ≤ 200000) {t : zSt} (hR : RS sh t) : zok (zcl zP 5 [zR r0, zI (oI x1), zI (oI x2)] (sh, t)) (qI (fun x t' => t' = t ∧ (x = 0 ∨ x = 1)) sh) := by
  have hz0 := RS_sz (hR) q0.1
  rw [b5_0]
  try simp only [zput_s, zput_n, ti_g, oI_add, oI_sub, oI_mul]
  first | refine zok_le (by omega) (fun c9 => ?_) (fun c9 => ?_) | refine zok_if (fun c9 => ?_) (fun c9 => ?_)
  · first | exact qI_rt (by omega) (by omega) ⟨rfl, by omega⟩ | exact qI_nf ⟨rfl, by omega⟩
  · refine zok_ck (((q0).1).1) ?_
    refine zok_pI (s57 ((q0).1) (by omega) (hR)) (fun y10 u10 p10 => ?_)
    simp only [zput_s, zput_n, ti_g, oI_add, oI_sub, oI_mul, b5_10]
    try simp only [zput_s, zput_n, ti_g, oI_add, oI_sub, oI_mul]
    refine zok_pI (s89 (by omega)) (fun y12 u12 p12 => ?_)
    simp only [zput_s, zput_n, ti_g, oI_add, oI_sub, oI_mul, b5_13]
    try simp only [zput_s, zput_n, ti_g, oI_add, oI_sub, oI_mul]
    first | refine zok_eq (by omega) (fun c14 => ?_) (fun c14 => ?_) | refine zok_if (fun c14 => ?_) (fun c14 => ?_)
    · refine zok_ck (((q0).1).1) ?_
      refine zok_pI (s68 ((q0).1) (by omega) (by omega) (by omega) (by omega) (hR)) (fun y15 u15 p15 => ?_)
      simp only [zput_s, zput_n, ti_g, oI_add, oI_sub, oI_mul, b5_28]
      try simp only [zput_s, zput_n, ti_g, oI_add, oI_sub, oI_mul]
      try simp only [zput_s, zput_n, ti_g, oI_add, oI_sub, oI_mul]
      exact l5_34 F q0 (by omega) (by omega) d1 d2 hR _ _ _ (by omega) (Nat.lt_succ_self _)
    · first | exact qI_rt (by omega) (by omega) ⟨rfl, by omega⟩ | exact qI_nf ⟨rfl, by omega⟩
/-! X0_numberUpTo255 -/
theorem l7_37 {sh : zSh} {T MB : Nat} (F : zCl sh T MB) {r0 : Nat} (q0 : zRw sh T MB r0) {x1 : Int} (u1 : -2147483648 ≤ x1 ∧ x1 ≤ 2147483647) {x2 : Int} (u2 : -2147483648 ≤ x2 ∧ x2 ≤ 2147483647) (d1 : 0 ≤ x1 ∧ x1 ≤ 200001) (d2 : -1 ≤ x2 ∧ x2 ≤ 200000) {t : zSt} (hR : RS sh t) : ∀ (n : Nat) (x3 : Int) (v4 : Int32) (x5 : Int) (o6 : Option zV) (wo6 : zisL o6 = false), (-2147483648 ≤ x3 ∧ x3 ≤ 2147483647) ∧ (-2147483648 ≤ x5 ∧ x5 ≤ 2147483647) → (x2 - x5).toNat < n → zok (zev zP 7 37 [some (zR r0), some (zI (oI x1)), some (zI (oI x2)), some (zI (oI x3)), some (zI v4), some (zI (oI x5)), o6] [] (sh, t)) (qI (fun x t' => t' = t ∧ (True)) sh) := by
  intro n
  induction n with
  | zero => intro x3 v4 x5 o6 wo6 _ hm; omega
  | succ n ih =>
    intro x3 v4 x5 o6 wo6 hv hm
    obtain ⟨x4, a4, b4, rfl⟩ := oI_nf v4
    have hz0 := RS_sz (hR) q0.1
    try simp only [zput_s, zput_n, ti_g, oI_add, oI_sub, oI_mul]
    rw [b7_37 (o6 := o6) (wo6 := wo6)]
    try simp only [zput_s, zput_n, ti_g, oI_add, oI_sub, oI_mul]
    first | refine zok_le (by omega) (fun c2 => ?_) (fun c2 => ?_) | refine zok_if (fun c2 => ?_) (fun c2 => ?_)
    · first | refine zok_lt (by omega) (fun c3 => ?_) (fun c3 => ?_) | refine zok_if (fun c3 => ?_) (fun c3 => ?_)
      · first | exact qI_rt (by omega) (by omega) ⟨rfl, trivial⟩ | exact qI_nf ⟨rfl, trivial⟩
      · first | exact qI_rt (by omega) (by omega) ⟨rfl, trivial⟩ | exact qI_nf ⟨rfl, trivial⟩
    · refine zok_ck (((q0).1).1) ?_
      refine zok_pI (s57 ((q0).1) (by omega) (hR)) (fun y4 u4 p4 => ?_)
      try simp only [zput_s, zput_n, ti_g, oI_add, oI_sub, oI_mul]
      rw [b7_49 (o6 := o6) (wo6 := wo6)]
      try simp only [zput_s, zput_n, ti_g, oI_add, oI_sub, oI_mul]
      refine zok_pI (s85 (by omega)) (fun y6 u6 p6 => ?_)
      simp only [zput_s, zput_n, ti_g, oI_add, oI_sub, oI_mul, b7_56]
      try simp only [zput_s, zput_n, ti_g, oI_add, oI_sub, oI_mul]
      first | refine zok_ne (by omega) (fun c8 => ?_) (fun c8 => ?_) | refine zok_if (fun c8 => ?_) (fun c8 => ?_)
      · try simp only [zput_s, zput_n, ti_g, oI_add, oI_sub, oI_mul]
        exact ih _ _ _ _ rfl (by omega) (by omega)
      · first | exact qI_rt (by omega) (by omega) ⟨rfl, trivial⟩ | exact qI_nf ⟨rfl, trivial⟩
theorem s7 {sh : zSh} {T MB : Nat} (F : zCl sh T MB) {r0 : Nat} (q0 : zRw sh T MB r0) {x1 : Int} (u1 : -2147483648 ≤ x1 ∧ x1 ≤ 2147483647) {x2 : Int} (u2 : -2147483648 ≤ x2 ∧ x2 ≤ 2147483647) (d1 : 0 ≤ x1 ∧ x1 ≤ 200001) (d2 : -1 ≤ x2 ∧ x2 ≤ 200000) {t : zSt} (hR : RS sh t) : zok (zcl zP 7 [zR r0, zI (oI x1), zI (oI x2)] (sh, t)) (qI (fun x t' => t' = t ∧ (True)) sh) := by
  have hz0 := RS_sz (hR) q0.1
  rw [b7_0]
  try simp only [zput_s, zput_n, ti_g, oI_add, oI_sub, oI_mul]
  first | refine zok_lt (by omega) (fun c10 => ?_) (fun c10 => ?_) | refine zok_if (fun c10 => ?_) (fun c10 => ?_)
  · first | exact qI_rt (by omega) (by omega) ⟨rfl, trivial⟩ | exact qI_nf ⟨rfl, trivial⟩
  · first | refine zok_lt (by omega) (fun c11 => ?_) (fun c11 => ?_) | refine zok_if (fun c11 => ?_) (fun c11 => ?_)
    · first | exact qI_rt (by omega) (by omega) ⟨rfl, trivial⟩ | exact qI_nf ⟨rfl, trivial⟩
    · first | refine zok_le (by omega) (fun c12 => ?_) (fun c12 => ?_) | refine zok_if (fun c12 => ?_) (fun c12 => ?_)
      · try simp only [zput_s, zput_n, ti_g, oI_add, oI_sub, oI_mul]
        exact l7_37 F q0 (by omega) (by omega) d1 d2 hR _ _ _ _ _ rfl (by omega) (Nat.lt_succ_self _)
      · refine zok_ck (((q0).1).1) ?_
        refine zok_pI (s57 ((q0).1) (by omega) (hR)) (fun y13 u13 p13 => ?_)
        simp only [zput_s, zput_n, ti_g, oI_add, oI_sub, oI_mul, b7_24]
        try simp only [zput_s, zput_n, ti_g, oI_add, oI_sub, oI_mul]
        first | refine zok_ne (by omega) (fun c15 => ?_) (fun c15 => ?_) | refine zok_if (fun c15 => ?_) (fun c15 => ?_)
        · try simp only [zput_s, zput_n, ti_g, oI_add, oI_sub, oI_mul]
          exact l7_37 F q0 (by omega) (by omega) d1 d2 hR _ _ _ _ _ rfl (by omega) (Nat.lt_succ_self _)
        · first | exact qI_rt (by omega) (by omega) ⟨rfl, trivial⟩ | exact qI_nf ⟨rfl, trivial⟩
/-! X0_takeFour -/
theorem l6_9 {sh : zSh} {T MB : Nat} (F : zCl sh T MB) {r0 : Nat} (q0 : zAd sh T MB r0) {r1 : Nat} (q1 : zRw sh T MB r1) {x2 : Int} (u2 : -2147483648 ≤ x2 ∧ x2 ≤ 2147483647) {x3 : Int} (u3 : -2147483648 ≤ x3 ∧ x3 ≤ 2147483647) {x4 : Int} (u4 : -2147483648 ≤ x4 ∧ x4 ≤ 2147483647) (d2 : 0 ≤ x2 ∧ x2 ≤ 200000) (d3 : -1 ≤ x3 ∧ x3 ≤ 200000) (d4 : 0 ≤ x4 ∧ x4 ≤ 20) {t0 : zSt} (hR : RS sh t0) : ∀ (n : Nat) (v5 : Int32) (x6 : Int) (x7 : Int) (o8 : Option zV) (o9 : Option zV) (wo8 : zisL o8 = false) (wo9 : zisL o9 = false) (t1 : zSt), FrC sh T MB t0 t1 → (-2147483648 ≤ x6 ∧ x6 ≤ 2147483647) ∧ (-2147483648 ≤ x7 ∧ x7 ≤ 2147483647) ∧ (0 ≤ x7 ∧ x7 ≤ 4) ∧ (0 ≤ x6 ∧ x6 ≤ 200001) → (4 - x7).toNat < n → zok (zev zP 6 9 [some (zR r0), some (zR r1), some (zI (oI x2)), some (zI (oI x3)), some (zI (oI x4)), some (zI v5), some (zI (oI x6)), some (zI (oI x7)), o8, o9] [] (sh, t1)) (qI (fun x t' => FrC sh T MB t0 t' ∧ (x = 0 ∨ x = 1)) sh) := by
  intro n
  induction n with
  | zero => intro v5 x6 x7 o8 o9 wo8 wo9 t1 f0 _ hm; omega
  | succ n ih =>
    intro v5 x6 x7 o8 o9 wo8 wo9 t1 f0 hv hm
    obtain ⟨x5, a5, b5, rfl⟩ := oI_nf v5
    have ha0 : (sk sh (sr sh r0 0)).2 = 8 := by rw [q0.2.2.1]
    have hz1 := RS_sz (f0.rs) q1.1
    try simp only [zput_s, zput_n, ti_g, oI_add, oI_sub, oI_mul]
    rw [b6_9 (o8 := o8) (wo8 := wo8) (o9 := o9) (wo9 := wo9)]
    try simp only [zput_s, zput_n, ti_g, oI_add, oI_sub, oI_mul]
    first | refine zok_le (by omega) (fun c2 => ?_) (fun c2 => ?_) | refine zok_if (fun c2 => ?_) (fun c2 => ?_)
    · refine zok_ck ((q0).1) ?_
      obtain ⟨w3, wa3, wb3, we3⟩ := oI_nf ((Int32.toUInt32 (oI x5) >>> (Int32.toUInt32 (oI 16) &&& Int32.toUInt32 31)).toInt32)
      try simp only [zput_s, zput_n, ti_g, oI_add, oI_sub, oI_mul] at we3
      try rw [we3]
      refine zok_c0 (s4 F (q0) (by omega) (by omega) (f0.rs)) (fun t4 p4 => ?_)
      obtain ⟨f4, p4⟩ := p4
      try simp only [zput_s, zput_n, ti_g, oI_add, oI_sub, oI_mul]
      rw [b6_87 (o8 := o8) (wo8 := wo8) (o9 := o9) (wo9 := wo9)]
      try simp only [zput_s, zput_n, ti_g, oI_add, oI_sub, oI_mul]
      refine zok_ck ((q0).1) ?_
      obtain ⟨w6, wa6, wb6, we6⟩ := oI_nf ((oI x5) &&& (oI 65535))
      try simp only [zput_s, zput_n, ti_g, oI_add, oI_sub, oI_mul] at we6
      try rw [we6]
      refine zok_c0 (s4 F (q0) (by omega) (by omega) (((f0).trans (f4)).rs)) (fun t7 p7 => ?_)
      obtain ⟨f7, p7⟩ := p7
      try simp only [zput_s, zput_n, ti_g, oI_add, oI_sub, oI_mul]
      rw [b6_100 (o8 := o8) (wo8 := wo8) (o9 := o9) (wo9 := wo9)]
      try simp only [zput_s, zput_n, ti_g, oI_add, oI_sub, oI_mul]
      refine zok_ck ((q0).1) ?_
      refine zok_ck (by rw [(q0).2.2.1]; decide) ?_
      first | refine zok_lt (by omega) (fun c9 => ?_) (fun c9 => ?_) | refine zok_if (fun c9 => ?_) (fun c9 => ?_)
      · first | exact qI_rt (by omega) (by omega) ⟨((f0).trans (f4)).trans (f7), by omega⟩ | exact qI_nf ⟨((f0).trans (f4)).trans (f7), by omega⟩
      · first | exact qI_rt (by omega) (by omega) ⟨((f0).trans (f4)).trans (f7), by omega⟩ | exact qI_nf ⟨((f0).trans (f4)).trans (f7), by omega⟩
    · first | refine zok_le (by omega) (fun c10 => ?_) (fun c10 => ?_) | refine zok_if (fun c10 => ?_) (fun c10 => ?_)
      · refine zok_pI (s7 F (q1) (by omega) (by omega) (by omega) (by omega) (f0.rs)) (fun y11 u11 p11 => ?_)
        try simp only [zput_s, zput_n, ti_g, oI_add, oI_sub, oI_mul]
        rw [b6_44 (o9 := o9) (wo9 := wo9)]
        try simp only [zput_s, zput_n, ti_g, oI_add, oI_sub, oI_mul]
        first | refine zok_ne (by omega) (fun c13 => ?_) (fun c13 => ?_) | refine zok_if (fun c13 => ?_) (fun c13 => ?_)
        · obtain ⟨w14, wa14, wb14, we14⟩ := oI_nf (((oI x5) <<< ((oI 8) &&& 31)) ||| (oI y11))
          try simp only [zput_s, zput_n, ti_g, oI_add, oI_sub, oI_mul] at we14
          try rw [we14]
          try simp only [zput_s, zput_n, ti_g, oI_add, oI_sub, oI_mul]
          exact ih _ _ _ _ _ rfl rfl _ (f0) (by omega) (by omega)
        · first | exact qI_rt (by omega) (by omega) ⟨f0, by omega⟩ | exact qI_nf ⟨f0, by omega⟩
      · refine zok_ck (((q1).1).1) ?_
        refine zok_pI (s68 ((q1).1) (by omega) (by omega) (by omega) (by omega) (f0.rs)) (fun y15 u15 p15 => ?_)
        try simp only [zput_s, zput_n, ti_g, oI_add, oI_sub, oI_mul]
        rw [b6_30 (o8 := o8) (wo8 := wo8) (o9 := o9) (wo9 := wo9)]
        try simp only [zput_s, zput_n, ti_g, oI_add, oI_sub, oI_mul]
        refine zok_pI (s7 F (q1) (by omega) (by omega) (by omega) (by omega) (f0.rs)) (fun y17 u17 p17 => ?_)
        try simp only [zput_s, zput_n, ti_g, oI_add, oI_sub, oI_mul]
        rw [b6_44 (o9 := o9) (wo9 := wo9)]
        try simp only [zput_s, zput_n, ti_g, oI_add, oI_sub, oI_mul]
        first | refine zok_ne (by omega) (fun c19 => ?_) (fun c19 => ?_) | refine zok_if (fun c19 => ?_) (fun c19 => ?_)
        · obtain ⟨w20, wa20, wb20, we20⟩ := oI_nf (((oI x5) <<< ((oI 8) &&& 31)) ||| (oI y17))
          try simp only [zput_s, zput_n, ti_g, oI_add, oI_sub, oI_mul] at we20
          try rw [we20]
          try simp only [zput_s, zput_n, ti_g, oI_add, oI_sub, oI_mul]
          exact ih _ _ _ _ _ rfl rfl _ (f0) (by omega) (by omega)
        · first | exact qI_rt (by omega) (by omega) ⟨f0, by omega⟩ | exact qI_nf ⟨f0, by omega⟩
theorem s6 {sh : zSh} {T MB : Nat} (F : zCl sh T MB) {r0 : Nat} (q0 : zAd sh T MB r0) {r1 : Nat} (q1 : zRw sh T MB r1) {x2 : Int} (u2 : -2147483648 ≤ x2 ∧ x2 ≤ 2147483647) {x3 : Int} (u3 : -2147483648 ≤ x3 ∧ x3 ≤ 2147483647) {x4 : Int} (u4 : -2147483648 ≤ x4 ∧ x4 ≤ 2147483647) (d2 : 0 ≤ x2 ∧ x2 ≤ 200000) (d3 : -1 ≤ x3 ∧ x3 ≤ 200000) (d4 : 0 ≤ x4 ∧ x4 ≤ 20) {t : zSt} (hR : RS sh t) : zok (zcl zP 6 [zR r0, zR r1, zI (oI x2), zI (oI x3), zI (oI x4)] (sh, t)) (qI (fun x t' => FrC sh T MB t t' ∧ (x = 0 ∨ x = 1)) sh) := by
  have ha0 : (sk sh (sr sh r0 0)).2 = 8 := by rw [q0.2.2.1]
  have hz1 := RS_sz (hR) q1.1
  rw [b6_0]
  try simp only [zput_s, zput_n, ti_g, oI_add, oI_sub, oI_mul]
  try simp only [zput_s, zput_n, ti_g, oI_add, oI_sub, oI_mul]
  exact l6_9 F q0 q1 (by omega) (by omega) (by omega) d2 d3 d4 hR _ _ _ _ _ _ rfl rfl _ (FrC.refl hR) (by omega) (Nat.lt_succ_self _)
/-! X0_isGap -/
theorem s9 {sh : zSh} {T MB : Nat} (F : zCl sh T MB) {r0 : Nat} (q0 : zRw sh T MB r0) {x1 : Int} (u1 : -2147483648 ≤ x1 ∧ x1 ≤ 2147483647) {x2 : Int} (u2 : -2147483648 ≤ x2 ∧ x2 ≤ 2147483647) (d1 : -1 ≤ x1 ∧ x1 ≤ 400000) {t : zSt} (hR : RS sh t) : zok (zcl zP 9 [zR r0, zI (oI x1), zI (oI x2)] (sh, t)) (qI (fun x t' => t' = t ∧ (x = 0 ∨ x = 1)) sh) := by
  have hz0 := RS_sz (hR) q0.1
  rw [b9_0]
  try simp only [zput_s, zput_n, ti_g, oI_add, oI_sub, oI_mul]
  first | refine zok_lt (by omega) (fun c2 => ?_) (fun c2 => ?_) | refine zok_if (fun c2 => ?_) (fun c2 => ?_)
  · first | exact qI_rt (by omega) (by omega) ⟨rfl, by omega⟩ | exact qI_nf ⟨rfl, by omega⟩
  · refine zok_ck (((q0).1).1) ?_
    refine zok_pI (s57 ((q0).1) (by omega) (hR)) (fun y3 u3 p3 => ?_)
    simp only [zput_s, zput_n, ti_g, oI_add, oI_sub, oI_mul, b9_12]
    try simp only [zput_s, zput_n, ti_g, oI_add, oI_sub, oI_mul]
    first | refine zok_ne (by omega) (fun c5 => ?_) (fun c5 => ?_) | refine zok_if (fun c5 => ?_) (fun c5 => ?_)
    · first | exact qI_rt (by omega) (by omega) ⟨rfl, by omega⟩ | exact qI_nf ⟨rfl, by omega⟩
    · refine zok_ck (((q0).1).1) ?_
      refine zok_pI (s57 ((q0).1) (by omega) (hR)) (fun y6 u6 p6 => ?_)
      simp only [zput_s, zput_n, ti_g, oI_add, oI_sub, oI_mul, b9_24]
      try simp only [zput_s, zput_n, ti_g, oI_add, oI_sub, oI_mul]
      first | refine zok_ne (by omega) (fun c8 => ?_) (fun c8 => ?_) | refine zok_if (fun c8 => ?_) (fun c8 => ?_)
      · first | exact qI_rt (by omega) (by omega) ⟨rfl, by omega⟩ | exact qI_nf ⟨rfl, by omega⟩
      · first | exact qI_rt (by omega) (by omega) ⟨rfl, by omega⟩ | exact qI_nf ⟨rfl, by omega⟩
/-! X0_takeGroup -/
theorem l10_22 {sh : zSh} {T MB : Nat} (F : zCl sh T MB) {r0 : Nat} (q0 : zAd sh T MB r0) {r1 : Nat} (q1 : zRw sh T MB r1) {x2 : Int} (u2 : -2147483648 ≤ x2 ∧ x2 ≤ 2147483647) {x3 : Int} (u3 : -2147483648 ≤ x3 ∧ x3 ≤ 2147483647) {x4 : Int} (u4 : -2147483648 ≤ x4 ∧ x4 ≤ 2147483647) (d2 : 0 ≤ x2 ∧ x2 ≤ 200001) (d3 : -1 ≤ x3 ∧ x3 ≤ 200000) (d4 : 0 ≤ x4 ∧ x4 ≤ 20) {t0 : zSt} (hR : RS sh t0) : ∀ (n : Nat) (v5 : Int32) (x6 : Int) (o7 : Option zV) (wo7 : zisL o7 = false) (t1 : zSt), FrC sh T MB t0 t1 → (-2147483648 ≤ x6 ∧ x6 ≤ 2147483647) → (x3 - x6).toNat < n → zok (zev zP 10 22 [some (zR r0), some (zR r1), some (zI (oI x2)), some (zI (oI x3)), some (zI (oI x4)), some (zI v5), some (zI (oI x6)), o7] [] (sh, t1)) (qI (fun x t' => FrC sh T MB t0 t' ∧ (x = 0 ∨ x = 1)) sh) := by
  intro n
  induction n with
  | zero => intro v5 x6 o7 wo7 t1 f0 _ hm; omega
  | succ n ih =>
    intro v5 x6 o7 wo7 t1 f0 hv hm
    obtain ⟨x5, a5, b5, rfl⟩ := oI_nf v5
    have ha0 : (sk sh (sr sh r0 0)).2 = 8 := by rw [q0.2.2.1]
    have hz1 := RS_sz (f0.rs) q1.1
    try simp only [zput_s, zput_n, ti_g, oI_add, oI_sub, oI_mul]
    rw [b10_22 (o7 := o7) (wo7 := wo7)]
    try simp only [zput_s, zput_n, ti_g, oI_add, oI_sub, oI_mul]
    first | refine zok_le (by omega) (fun c2 => ?_) (fun c2 => ?_) | refine zok_if (fun c2 => ?_) (fun c2 => ?_)
    · refine zok_ck ((q0).1) ?_
      refine zok_c0 (s4 F (q0) (by omega) (by omega) (f0.rs)) (fun t3 p3 => ?_)
      obtain ⟨f3, p3⟩ := p3
      try simp only [zput_s, zput_n, ti_g, oI_add, oI_sub, oI_mul]
      rw [b10_71 (o7 := o7) (wo7 := wo7)]
      try simp only [zput_s, zput_n, ti_g, oI_add, oI_sub, oI_mul]
      refine zok_ck ((q0).1) ?_
      refine zok_ck (by rw [(q0).2.2.1]; decide) ?_
      first | refine zok_le (by omega) (fun c5 => ?_) (fun c5 => ?_) | refine zok_if (fun c5 => ?_) (fun c5 => ?_)
      · first | exact qI_rt (by omega) (by omega) ⟨(f0).trans (f3), by omega⟩ | exact qI_nf ⟨(f0).trans (f3), by omega⟩
      · first | exact qI_rt (by omega) (by omega) ⟨(f0).trans (f3), by omega⟩ | exact qI_nf ⟨(f0).trans (f3), by omega⟩
    · refine zok_ck (((q1).1).1) ?_
      refine zok_pI (s57 ((q1).1) (by omega) (f0.rs)) (fun y6 u6 p6 => ?_)
      try simp only [zput_s, zput_n, ti_g, oI_add, oI_sub, oI_mul]
      rw [b10_34 (o7 := o7) (wo7 := wo7)]
      try simp only [zput_s, zput_n, ti_g, oI_add, oI_sub, oI_mul]
      refine zok_pI (s88 (by omega)) (fun y8 u8 p8 => ?_)
      try simp only [zput_s, zput_n, ti_g, oI_add, oI_sub, oI_mul]
      rw [b10_37 (o7 := o7) (wo7 := wo7)]
      try simp only [zput_s, zput_n, ti_g, oI_add, oI_sub, oI_mul]
      first | refine zok_ne (by omega) (fun c10 => ?_) (fun c10 => ?_) | refine zok_if (fun c10 => ?_) (fun c10 => ?_)
      · try simp only [zput_s, zput_n, ti_g, oI_add, oI_sub, oI_mul]
        exact ih _ _ _ rfl _ (f0) (by omega) (by omega)
      · first | exact qI_rt (by omega) (by omega) ⟨f0, by omega⟩ | exact qI_nf ⟨f0, by omega⟩
theorem s10 {sh : zSh} {T MB : Nat} (F : zCl sh T MB) {r0 : Nat} (q0 : zAd sh T MB r0) {r1 : Nat} (q1 : zRw sh T MB r1) {x2 : Int} (u2 : -2147483648 ≤ x2 ∧ x2 ≤ 2147483647) {x3 : Int} (u3 : -2147483648 ≤ x3 ∧ x3 ≤ 2147483647) {x4 : Int} (u4 : -2147483648 ≤ x4 ∧ x4 ≤ 2147483647) (d2 : 0 ≤ x2 ∧ x2 ≤ 200001) (d3 : -1 ≤ x3 ∧ x3 ≤ 200000) (d4 : 0 ≤ x4 ∧ x4 ≤ 20) {t : zSt} (hR : RS sh t) : zok (zcl zP 10 [zR r0, zR r1, zI (oI x2), zI (oI x3), zI (oI x4)] (sh, t)) (qI (fun x t' => FrC sh T MB t t' ∧ (x = 0 ∨ x = 1)) sh) := by
  have ha0 : (sk sh (sr sh r0 0)).2 = 8 := by rw [q0.2.2.1]
  have hz1 := RS_sz (hR) q1.1
  rw [b10_0]
  try simp only [zput_s, zput_n, ti_g, oI_add, oI_sub, oI_mul]
  first | refine zok_lt (by omega) (fun c12 => ?_) (fun c12 => ?_) | refine zok_if (fun c12 => ?_) (fun c12 => ?_)
  · first | exact qI_rt (by omega) (by omega) ⟨FrC.refl hR, by omega⟩ | exact qI_nf ⟨FrC.refl hR, by omega⟩
  · first | refine zok_le (by omega) (fun c13 => ?_) (fun c13 => ?_) | refine zok_if (fun c13 => ?_) (fun c13 => ?_)
    · try simp only [zput_s, zput_n, ti_g, oI_add, oI_sub, oI_mul]
      exact l10_22 F q0 q1 (by omega) (by omega) (by omega) d2 d3 d4 hR _ _ _ _ rfl _ (FrC.refl hR) (by omega) (Nat.lt_succ_self _)
    · first | exact qI_rt (by omega) (by omega) ⟨FrC.refl hR, by omega⟩ | exact qI_nf ⟨FrC.refl hR, by omega⟩
/-! X0_spread -/
theorem l11_49 {sh : zSh} {T MB : Nat} (F : zCl sh T MB) {r0 : Nat} (q0 : zAd sh T MB r0) {x1 : Int} (u1 : -2147483648 ≤ x1 ∧ x1 ≤ 2147483647) {x2 : Int} (u2 : -2147483648 ≤ x2 ∧ x2 ≤ 2147483647) (d1 : 0 ≤ x1 ∧ x1 ≤ 10) (d2 : 0 ≤ x2 ∧ x2 ≤ 10) {t0 : zSt} (hR : RS sh t0) : ∀ (n : Nat) (x3 : Int) (x4 : Int)  (t1 : zSt), FrC sh T MB t0 t1 → (-2147483648 ≤ x3 ∧ x3 ≤ 2147483647) ∧ (-2147483648 ≤ x4 ∧ x4 ≤ 2147483647) ∧ (1 ≤ x3 ∧ x3 ≤ 8) ∧ (0 ≤ x4) → (x2 + x3 - x4).toNat < n → zok (zev zP 11 49 [some (zR r0), some (zI (oI x1)), some (zI (oI x2)), some (zI (oI x3)), some (zI (oI x4))] [] (sh, t1)) (qI (fun x t' => FrC sh T MB t0 t' ∧ (x = 0 ∨ x = 1)) sh) := by
  intro n
  induction n with
  | zero => intro x3 x4  t1 f0 _ hm; omega
  | succ n ih =>
    intro x3 x4  t1 f0 hv hm
    have ha0 : (sk sh (sr sh r0 0)).2 = 8 := by rw [q0.2.2.1]
    simp only [zput_s, zput_n, ti_g, oI_add, oI_sub, oI_mul, b11_49]
    try simp only [zput_s, zput_n, ti_g, oI_add, oI_sub, oI_mul]
    first | refine zok_le (by omega) (fun c2 => ?_) (fun c2 => ?_) | refine zok_if (fun c2 => ?_) (fun c2 => ?_)
    · first | exact qI_rt (by omega) (by omega) ⟨f0, by omega⟩ | exact qI_nf ⟨f0, by omega⟩
    · refine zok_ck ((q0).1) ?_
      refine zok_c0 (s4 F (q0) (by omega) (by omega) (f0.rs)) (fun t3 p3 => ?_)
      obtain ⟨f3, p3⟩ := p3
      simp only [zput_s, zput_n, ti_g, oI_add, oI_sub, oI_mul, b11_64]
      try simp only [zput_s, zput_n, ti_g, oI_add, oI_sub, oI_mul]
      try simp only [zput_s, zput_n, ti_g, oI_add, oI_sub, oI_mul]
      exact ih _ _ _ ((f0).trans (f3)) (by omega) (by omega)
theorem l11_20 {sh : zSh} {T MB : Nat} (F : zCl sh T MB) {r0 : Nat} (q0 : zAd sh T MB r0) {x1 : Int} (u1 : -2147483648 ≤ x1 ∧ x1 ≤ 2147483647) {x2 : Int} (u2 : -2147483648 ≤ x2 ∧ x2 ≤ 2147483647) (d1 : 0 ≤ x1 ∧ x1 ≤ 10) (d2 : 0 ≤ x2 ∧ x2 ≤ 10) {t0 : zSt} (hR : RS sh t0) : ∀ (n : Nat) (x3 : Int) (x4 : Int)  (t1 : zSt), FrC sh T MB t0 t1 → (-2147483648 ≤ x3 ∧ x3 ≤ 2147483647) ∧ (-2147483648 ≤ x4 ∧ x4 ≤ 2147483647) ∧ (1 ≤ x3 ∧ x3 ≤ 8) ∧ (-1 ≤ x4 ∧ x4 ≤ 10) → (x4 - x2 + 1).toNat < n → zok (zev zP 11 20 [some (zR r0), some (zI (oI x1)), some (zI (oI x2)), some (zI (oI x3)), some (zI (oI x4))] [] (sh, t1)) (qI (fun x t' => FrC sh T MB t0 t' ∧ (x = 0 ∨ x = 1)) sh) := by
  intro n
  induction n with
  | zero => intro x3 x4  t1 f0 _ hm; omega
  | succ n ih =>
    intro x3 x4  t1 f0 hv hm
    have ha0 : (sk sh (sr sh r0 0)).2 = 8 := by rw [q0.2.2.1]
    simp only [zput_s, zput_n, ti_g, oI_add, oI_sub, oI_mul, b11_20]
    try simp only [zput_s, zput_n, ti_g, oI_add, oI_sub, oI_mul]
    first | refine zok_lt (by omega) (fun c2 => ?_) (fun c2 => ?_) | refine zok_if (fun c2 => ?_) (fun c2 => ?_)
    · try simp only [zput_s, zput_n, ti_g, oI_add, oI_sub, oI_mul]
      exact l11_49 F q0 (by omega) (by omega) d1 d2 hR _ _ _ _ (f0) (by omega) (Nat.lt_succ_self _)
    · refine zok_ck ((q0).1) ?_
      refine zok_pI (s3 F (q0) (by omega) (f0.rs)) (fun y3 u3 p3 => ?_)
      simp only [zput_s, zput_n, ti_g, oI_add, oI_sub, oI_mul, b11_37]
      try simp only [zput_s, zput_n, ti_g, oI_add, oI_sub, oI_mul]
      refine zok_ck ((q0).1) ?_
      refine zok_c0 (s4 F (q0) (by omega) (by omega) (f0.rs)) (fun t5 p5 => ?_)
      obtain ⟨f5, p5⟩ := p5
      simp only [zput_s, zput_n, ti_g, oI_add, oI_sub, oI_mul, b11_40]
      try simp only [zput_s, zput_n, ti_g, oI_add, oI_sub, oI_mul]
      try simp only [zput_s, zput_n, ti_g, oI_add, oI_sub, oI_mul]
      exact ih _ _ _ ((f0).trans (f5)) (by omega) (by omega)
theorem s11 {sh : zSh} {T MB : Nat} (F : zCl sh T MB) {r0 : Nat} (q0 : zAd sh T MB r0) {x1 : Int} (u1 : -2147483648 ≤ x1 ∧ x1 ≤ 2147483647) {x2 : Int} (u2 : -2147483648 ≤ x2 ∧ x2 ≤ 2147483647) (d1 : 0 ≤ x1 ∧ x1 ≤ 10) (d2 : 0 ≤ x2 ∧ x2 ≤ 10) {t : zSt} (hR : RS sh t) : zok (zcl zP 11 [zR r0, zI (oI x1), zI (oI x2)] (sh, t)) (qI (fun x t' => FrC sh T MB t t' ∧ (x = 0 ∨ x = 1)) sh) := by
  have ha0 : (sk sh (sr sh r0 0)).2 = 8 := by rw [q0.2.2.1]
  rw [b11_0]
  try simp only [zput_s, zput_n, ti_g, oI_add, oI_sub, oI_mul]
  refine zok_ck ((q0).1) ?_
  refine zok_ck (by rw [(q0).2.2.1]; decide) ?_
  first | refine zok_le (by omega) (fun c8 => ?_) (fun c8 => ?_) | refine zok_if (fun c8 => ?_) (fun c8 => ?_)
  · try simp only [zput_s, zput_n, ti_g, oI_add, oI_sub, oI_mul]
    exact l11_20 F q0 (by omega) (by omega) d1 d2 hR _ _ _ _ (FrC.refl hR) (by omega) (Nat.lt_succ_self _)
  · first | exact qI_rt (by omega) (by omega) ⟨FrC.refl hR, by omega⟩ | exact qI_nf ⟨FrC.refl hR, by omega⟩
/-! X0_takeSix -/
theorem l8_33 {sh : zSh} {T MB : Nat} (F : zCl sh T MB) {r0 : Nat} (q0 : zAd sh T MB r0) {r1 : Nat} (q1 : zRw sh T MB r1) {x2 : Int} (u2 : -2147483648 ≤ x2 ∧ x2 ≤ 2147483647) {x3 : Int} (u3 : -2147483648 ≤ x3 ∧ x3 ≤ 2147483647) (d2 : 0 ≤ x2 ∧ x2 ≤ 200000) (d3 : -1 ≤ x3 ∧ x3 ≤ 200000) {t0 : zSt} (hR : RS sh t0) : ∀ (n : Nat) (x4 : Int) (x5 : Int) (x6 : Int) (o7 : Option zV) (o8 : Option zV) (o9 : Option zV) (o10 : Option zV) (wo7 : zisL o7 = false) (wo8 : zisL o8 = false) (wo9 : zisL o9 = false) (wo10 : zisL o10 = false) (t1 : zSt), FrC sh T MB t0 t1 → (-2147483648 ≤ x4 ∧ x4 ≤ 2147483647) ∧ (-2147483648 ≤ x5 ∧ x5 ≤ 2147483647) ∧ (-2147483648 ≤ x6 ∧ x6 ≤ 2147483647) ∧ (0 ≤ x4 ∧ x4 ≤ 9) ∧ (-1 ≤ x5 ∧ x5 ≤ 9) ∧ (0 ≤ x6 ∧ x6 ≤ 200005) → (8 - x4).toNat < n → zok (zev zP 8 33 [some (zR r0), some (zR r1), some (zI (oI x2)), some (zI (oI x3)), some (zI (oI x4)), some (zI (oI x5)), some (zI (oI x6)), o7, o8, o9, o10] [] (sh, t1)) (qI (fun x t' => FrC sh T MB t0 t' ∧ (x = 0 ∨ x = 1)) sh) := by
  intro n
  induction n with
  | zero => intro x4 x5 x6 o7 o8 o9 o10 wo7 wo8 wo9 wo10 t1 f0 _ hm; omega
  | succ n ih =>
    intro x4 x5 x6 o7 o8 o9 o10 wo7 wo8 wo9 wo10 t1 f0 hv hm
    have ha0 : (sk sh (sr sh r0 0)).2 = 8 := by rw [q0.2.2.1]
    have hz1 := RS_sz (f0.rs) q1.1
    try simp only [zput_s, zput_n, ti_g, oI_add, oI_sub, oI_mul]
    rw [b8_33 (o7 := o7) (wo7 := wo7) (o8 := o8) (wo8 := wo8) (o9 := o9) (wo9 := wo9) (o10 := o10) (wo10 := wo10)]
    try simp only [zput_s, zput_n, ti_g, oI_add, oI_sub, oI_mul]
    first | refine zok_le (by omega) (fun c2 => ?_) (fun c2 => ?_) | refine zok_if (fun c2 => ?_) (fun c2 => ?_)
    · try simp only [zput_s, zput_n, ti_g, oI_add, oI_sub, oI_mul]
      rw [b8_201 (o7 := o7) (wo7 := wo7) (o8 := o8) (wo8 := wo8) (o9 := o9) (wo9 := wo9) (o10 := o10) (wo10 := wo10)]
      try simp only [zput_s, zput_n, ti_g, oI_add, oI_sub, oI_mul]
      first | refine zok_lt (by omega) (fun c4 => ?_) (fun c4 => ?_) | refine zok_if (fun c4 => ?_) (fun c4 => ?_)
      · try simp only [zput_s, zput_n, ti_g, oI_add, oI_sub, oI_mul]
        rw [b8_241 (o7 := o7) (wo7 := wo7) (o8 := o8) (wo8 := wo8) (o9 := o9) (wo9 := wo9) (o10 := o10) (wo10 := wo10)]
        try simp only [zput_s, zput_n, ti_g, oI_add, oI_sub, oI_mul]
        try simp only [zput_s, zput_n, ti_g, oI_add, oI_sub, oI_mul]
        rw [b8_242 (o7 := o7) (wo7 := wo7) (o8 := o8) (wo8 := wo8) (o9 := o9) (wo9 := wo9) (o10 := o10) (wo10 := wo10)]
        try simp only [zput_s, zput_n, ti_g, oI_add, oI_sub, oI_mul]
        first | exact qI_rt (by omega) (by omega) ⟨f0, by omega⟩ | exact qI_nf ⟨f0, by omega⟩
      · first | refine zok_ne (by omega) (fun c7 => ?_) (fun c7 => ?_) | refine zok_if (fun c7 => ?_) (fun c7 => ?_)
        · refine zok_ck ((q0).1) ?_
          refine zok_cI (s11 F (q0) (by omega) (by omega) (by omega) (by omega) (f0.rs)) (fun y8 t8 u8 p8 => ?_)
          obtain ⟨f8, p8⟩ := p8
          try simp only [zput_s, zput_n, ti_g, oI_add, oI_sub, oI_mul]
          rw [b8_234 (o7 := o7) (wo7 := wo7) (o8 := o8) (wo8 := wo8) (o9 := o9) (wo9 := wo9) (o10 := o10) (wo10 := wo10)]
          try simp only [zput_s, zput_n, ti_g, oI_add, oI_sub, oI_mul]
          first | refine zok_eq (by omega) (fun c10 => ?_) (fun c10 => ?_) | refine zok_if (fun c10 => ?_) (fun c10 => ?_)
          · try simp only [zput_s, zput_n, ti_g, oI_add, oI_sub, oI_mul]
            rw [b8_241 (o7 := o7) (wo7 := wo7) (o8 := o8) (wo8 := wo8) (o9 := o9) (wo9 := wo9) (o10 := o10) (wo10 := wo10)]
            try simp only [zput_s, zput_n, ti_g, oI_add, oI_sub, oI_mul]
            try simp only [zput_s, zput_n, ti_g, oI_add, oI_sub, oI_mul]
            rw [b8_242 (o7 := o7) (wo7 := wo7) (o8 := o8) (wo8 := wo8) (o9 := o9) (wo9 := wo9) (o10 := o10) (wo10 := wo10)]
            try simp only [zput_s, zput_n, ti_g, oI_add, oI_sub, oI_mul]
            first | exact qI_rt (by omega) (by omega) ⟨(f0).trans (f8), by omega⟩ | exact qI_nf ⟨(f0).trans (f8), by omega⟩
          · try simp only [zput_s, zput_n, ti_g, oI_add, oI_sub, oI_mul]
            rw [b8_237 (o7 := o7) (wo7 := wo7) (o8 := o8) (wo8 := wo8) (o9 := o9) (wo9 := wo9) (o10 := o10) (wo10 := wo10)]
            try simp only [zput_s, zput_n, ti_g, oI_add, oI_sub, oI_mul]
            try simp only [zput_s, zput_n, ti_g, oI_add, oI_sub, oI_mul]
            rw [b8_242 (o7 := o7) (wo7 := wo7) (o8 := o8) (wo8 := wo8) (o9 := o9) (wo9 := wo9) (o10 := o10) (wo10 := wo10)]
            try simp only [zput_s, zput_n, ti_g, oI_add, oI_sub, oI_mul]
            first | exact qI_rt (by omega) (by omega) ⟨(f0).trans (f8), by omega⟩ | exact qI_nf ⟨(f0).trans (f8), by omega⟩
        · refine zok_ck ((q0).1) ?_
          refine zok_ck (by rw [(q0).2.2.1]; decide) ?_
          first | refine zok_ne (by omega) (fun c15 => ?_) (fun c15 => ?_) | refine zok_if (fun c15 => ?_) (fun c15 => ?_)
          · try simp only [zput_s, zput_n, ti_g, oI_add, oI_sub, oI_mul]
            rw [b8_241 (o7 := o7) (wo7 := wo7) (o8 := o8) (wo8 := wo8) (o9 := o9) (wo9 := wo9) (o10 := o10) (wo10 := wo10)]
            try simp only [zput_s, zput_n, ti_g, oI_add, oI_sub, oI_mul]
            try simp only [zput_s, zput_n, ti_g, oI_add, oI_sub, oI_mul]
            rw [b8_242 (o7 := o7) (wo7 := wo7) (o8 := o8) (wo8 := wo8) (o9 := o9) (wo9 := wo9) (o10 := o10) (wo10 := wo10)]
            try simp only [zput_s, zput_n, ti_g, oI_add, oI_sub, oI_mul]
            first | exact qI_rt (by omega) (by omega) ⟨f0, by omega⟩ | exact qI_nf ⟨f0, by omega⟩
          · try simp only [zput_s, zput_n, ti_g, oI_add, oI_sub, oI_mul]
            rw [b8_237 (o7 := o7) (wo7 := wo7) (o8 := o8) (wo8 := wo8) (o9 := o9) (wo9 := wo9) (o10 := o10) (wo10 := wo10)]
            try simp only [zput_s, zput_n, ti_g, oI_add, oI_sub, oI_mul]
            try simp only [zput_s, zput_n, ti_g, oI_add, oI_sub, oI_mul]
            rw [b8_242 (o7 := o7) (wo7 := wo7) (o8 := o8) (wo8 := wo8) (o9 := o9) (wo9 := wo9) (o10 := o10) (wo10 := wo10)]
            try simp only [zput_s, zput_n, ti_g, oI_add, oI_sub, oI_mul]
            first | exact qI_rt (by omega) (by omega) ⟨f0, by omega⟩ | exact qI_nf ⟨f0, by omega⟩
    · refine zok_ck ((q0).1) ?_
      refine zok_ck (by rw [(q0).2.2.1]; decide) ?_
      first | refine zok_le (by omega) (fun c20 => ?_) (fun c20 => ?_) | refine zok_if (fun c20 => ?_) (fun c20 => ?_)
      · try simp only [zput_s, zput_n, ti_g, oI_add, oI_sub, oI_mul]
        rw [b8_201 (o7 := o7) (wo7 := wo7) (o8 := o8) (wo8 := wo8) (o9 := o9) (wo9 := wo9) (o10 := o10) (wo10 := wo10)]
        try simp only [zput_s, zput_n, ti_g, oI_add, oI_sub, oI_mul]
        first | refine zok_lt (by omega) (fun c22 => ?_) (fun c22 => ?_) | refine zok_if (fun c22 => ?_) (fun c22 => ?_)
        · try simp only [zput_s, zput_n, ti_g, oI_add, oI_sub, oI_mul]
          rw [b8_241 (o7 := o7) (wo7 := wo7) (o8 := o8) (wo8 := wo8) (o9 := o9) (wo9 := wo9) (o10 := o10) (wo10 := wo10)]
          try simp only [zput_s, zput_n, ti_g, oI_add, oI_sub, oI_mul]
          try simp only [zput_s, zput_n, ti_g, oI_add, oI_sub, oI_mul]
          rw [b8_242 (o7 := o7) (wo7 := wo7) (o8 := o8) (wo8 := wo8) (o9 := o9) (wo9 := wo9) (o10 := o10) (wo10 := wo10)]
          try simp only [zput_s, zput_n, ti_g, oI_add, oI_sub, oI_mul]
          first | exact qI_rt (by omega) (by omega) ⟨f0, by omega⟩ | exact qI_nf ⟨f0, by omega⟩
        · first | refine zok_ne (by omega) (fun c25 => ?_) (fun c25 => ?_) | refine zok_if (fun c25 => ?_) (fun c25 => ?_)
          · refine zok_ck ((q0).1) ?_
            refine zok_cI (s11 F (q0) (by omega) (by omega) (by omega) (by omega) (f0.rs)) (fun y26 t26 u26 p26 => ?_)
            obtain ⟨f26, p26⟩ := p26
            try simp only [zput_s, zput_n, ti_g, oI_add, oI_sub, oI_mul]
            rw [b8_234 (o7 := o7) (wo7 := wo7) (o8 := o8) (wo8 := wo8) (o9 := o9) (wo9 := wo9) (o10 := o10) (wo10 := wo10)]
            try simp only [zput_s, zput_n, ti_g, oI_add, oI_sub, oI_mul]
            first | refine zok_eq (by omega) (fun c28 => ?_) (fun c28 => ?_) | refine zok_if (fun c28 => ?_) (fun c28 => ?_)
            · try simp only [zput_s, zput_n, ti_g, oI_add, oI_sub, oI_mul]
              rw [b8_241 (o7 := o7) (wo7 := wo7) (o8 := o8) (wo8 := wo8) (o9 := o9) (wo9 := wo9) (o10 := o10) (wo10 := wo10)]
              try simp only [zput_s, zput_n, ti_g, oI_add, oI_sub, oI_mul]
              try simp only [zput_s, zput_n, ti_g, oI_add, oI_sub, oI_mul]
              rw [b8_242 (o7 := o7) (wo7 := wo7) (o8 := o8) (wo8 := wo8) (o9 := o9) (wo9 := wo9) (o10 := o10) (wo10 := wo10)]
              try simp only [zput_s, zput_n, ti_g, oI_add, oI_sub, oI_mul]
              first | exact qI_rt (by omega) (by omega) ⟨(f0).trans (f26), by omega⟩ | exact qI_nf ⟨(f0).trans (f26), by omega⟩
            · try simp only [zput_s, zput_n, ti_g, oI_add, oI_sub, oI_mul]
              rw [b8_237 (o7 := o7) (wo7 := wo7) (o8 := o8) (wo8 := wo8) (o9 := o9) (wo9 := wo9) (o10 := o10) (wo10 := wo10)]
              try simp only [zput_s, zput_n, ti_g, oI_add, oI_sub, oI_mul]
              try simp only [zput_s, zput_n, ti_g, oI_add, oI_sub, oI_mul]
              rw [b8_242 (o7 := o7) (wo7 := wo7) (o8 := o8) (wo8 := wo8) (o9 := o9) (wo9 := wo9) (o10 := o10) (wo10 := wo10)]
              try simp only [zput_s, zput_n, ti_g, oI_add, oI_sub, oI_mul]
              first | exact qI_rt (by omega) (by omega) ⟨(f0).trans (f26), by omega⟩ | exact qI_nf ⟨(f0).trans (f26), by omega⟩
          · refine zok_ck ((q0).1) ?_
            refine zok_ck (by rw [(q0).2.2.1]; decide) ?_
            first | refine zok_ne (by omega) (fun c33 => ?_) (fun c33 => ?_) | refine zok_if (fun c33 => ?_) (fun c33 => ?_)
            · try simp only [zput_s, zput_n, ti_g, oI_add, oI_sub, oI_mul]
              rw [b8_241 (o7 := o7) (wo7 := wo7) (o8 := o8) (wo8 := wo8) (o9 := o9) (wo9 := wo9) (o10 := o10) (wo10 := wo10)]
              try simp only [zput_s, zput_n, ti_g, oI_add, oI_sub, oI_mul]
              try simp only [zput_s, zput_n, ti_g, oI_add, oI_sub, oI_mul]
              rw [b8_242 (o7 := o7) (wo7 := wo7) (o8 := o8) (wo8 := wo8) (o9 := o9) (wo9 := wo9) (o10 := o10) (wo10 := wo10)]
              try simp only [zput_s, zput_n, ti_g, oI_add, oI_sub, oI_mul]
              first | exact qI_rt (by omega) (by omega) ⟨f0, by omega⟩ | exact qI_nf ⟨f0, by omega⟩
            · try simp only [zput_s, zput_n, ti_g, oI_add, oI_sub, oI_mul]
              rw [b8_237 (o7 := o7) (wo7 := wo7) (o8 := o8) (wo8 := wo8) (o9 := o9) (wo9 := wo9) (o10 := o10) (wo10 := wo10)]
              try simp only [zput_s, zput_n, ti_g, oI_add, oI_sub, oI_mul]
              try simp only [zput_s, zput_n, ti_g, oI_add, oI_sub, oI_mul]
              rw [b8_242 (o7 := o7) (wo7 := wo7) (o8 := o8) (wo8 := wo8) (o9 := o9) (wo9 := wo9) (o10 := o10) (wo10 := wo10)]
              try simp only [zput_s, zput_n, ti_g, oI_add, oI_sub, oI_mul]
              first | exact qI_rt (by omega) (by omega) ⟨f0, by omega⟩ | exact qI_nf ⟨f0, by omega⟩
      · refine zok_ck (((q1).1).1) ?_
        refine zok_pI (s68 ((q1).1) (by omega) (by omega) (by omega) (by omega) (f0.rs)) (fun y38 u38 p38 => ?_)
        try simp only [zput_s, zput_n, ti_g, oI_add, oI_sub, oI_mul]
        rw [b8_58 (o7 := o7) (wo7 := wo7) (o8 := o8) (wo8 := wo8) (o9 := o9) (wo9 := wo9) (o10 := o10) (wo10 := wo10)]
        try simp only [zput_s, zput_n, ti_g, oI_add, oI_sub, oI_mul]
        first | refine zok_ne (by omega) (fun c40 => ?_) (fun c40 => ?_) | refine zok_if (fun c40 => ?_) (fun c40 => ?_)
        · try simp only [zput_s, zput_n, ti_g, oI_add, oI_sub, oI_mul]
          rw [b8_83 (o8 := o8) (wo8 := wo8) (o9 := o9) (wo9 := wo9) (o10 := o10) (wo10 := wo10)]
          try simp only [zput_s, zput_n, ti_g, oI_add, oI_sub, oI_mul]
          try simp only [zput_s, zput_n, ti_g, oI_add, oI_sub, oI_mul]
          rw [b8_84 (o8 := o8) (wo8 := wo8) (o9 := o9) (wo9 := wo9) (o10 := o10) (wo10 := wo10)]
          try simp only [zput_s, zput_n, ti_g, oI_add, oI_sub, oI_mul]
          refine zok_ck ((q0).1) ?_
          refine zok_cI (s10 F (q0) (q1) (by omega) (by omega) (by omega) (by omega) (by omega) (by omega) (f0.rs)) (fun y43 t43 u43 p43 => ?_)
          obtain ⟨f43, p43⟩ := p43
          try simp only [zput_s, zput_n, ti_g, oI_add, oI_sub, oI_mul]
          rw [b8_115 (o9 := o9) (wo9 := wo9) (o10 := o10) (wo10 := wo10)]
          try simp only [zput_s, zput_n, ti_g, oI_add, oI_sub, oI_mul]
          first | refine zok_eq (by omega) (fun c45 => ?_) (fun c45 => ?_) | refine zok_if (fun c45 => ?_) (fun c45 => ?_)
          · try simp only [zput_s, zput_n, ti_g, oI_add, oI_sub, oI_mul]
            rw [b8_137 (o10 := o10) (wo10 := wo10)]
            try simp only [zput_s, zput_n, ti_g, oI_add, oI_sub, oI_mul]
            try simp only [zput_s, zput_n, ti_g, oI_add, oI_sub, oI_mul]
            rw [b8_138 (o10 := o10) (wo10 := wo10)]
            try simp only [zput_s, zput_n, ti_g, oI_add, oI_sub, oI_mul]
            first | refine zok_eq (by omega) (fun c48 => ?_) (fun c48 => ?_) | refine zok_if (fun c48 => ?_) (fun c48 => ?_)
            · simp only [zput_s, zput_n, ti_g, oI_add, oI_sub, oI_mul, b8_158]
              try simp only [zput_s, zput_n, ti_g, oI_add, oI_sub, oI_mul]
              first | exact qI_rt (by omega) (by omega) ⟨(f0).trans (f43), by omega⟩ | exact qI_nf ⟨(f0).trans (f43), by omega⟩
            · first | refine zok_ne (by omega) (fun c50 => ?_) (fun c50 => ?_) | refine zok_if (fun c50 => ?_) (fun c50 => ?_)
              · simp only [zput_s, zput_n, ti_g, oI_add, oI_sub, oI_mul, b8_172]
                try simp only [zput_s, zput_n, ti_g, oI_add, oI_sub, oI_mul]
                refine zok_pI (s9 F (q1) (by omega) (by omega) (by omega) (((f0).trans (f43)).rs)) (fun y52 u52 p52 => ?_)
                simp only [zput_s, zput_n, ti_g, oI_add, oI_sub, oI_mul, b8_188]
                try simp only [zput_s, zput_n, ti_g, oI_add, oI_sub, oI_mul]
                first | refine zok_eq (by omega) (fun c54 => ?_) (fun c54 => ?_) | refine zok_if (fun c54 => ?_) (fun c54 => ?_)
                · simp only [zput_s, zput_n, ti_g, oI_add, oI_sub, oI_mul, b8_198]
                  try simp only [zput_s, zput_n, ti_g, oI_add, oI_sub, oI_mul]
                  try simp only [zput_s, zput_n, ti_g, oI_add, oI_sub, oI_mul]
                  exact ih _ _ _ _ _ _ _ rfl rfl rfl rfl _ ((f0).trans (f43)) (by omega) (by omega)
                · simp only [zput_s, zput_n, ti_g, oI_add, oI_sub, oI_mul, b8_198]
                  try simp only [zput_s, zput_n, ti_g, oI_add, oI_sub, oI_mul]
                  try simp only [zput_s, zput_n, ti_g, oI_add, oI_sub, oI_mul]
                  exact ih _ _ _ _ _ _ _ rfl rfl rfl rfl _ ((f0).trans (f43)) (by omega) (by omega)
              · simp only [zput_s, zput_n, ti_g, oI_add, oI_sub, oI_mul, b8_158]
                try simp only [zput_s, zput_n, ti_g, oI_add, oI_sub, oI_mul]
                first | exact qI_rt (by omega) (by omega) ⟨(f0).trans (f43), by omega⟩ | exact qI_nf ⟨(f0).trans (f43), by omega⟩
          · refine zok_pI (s9 F (q1) (by omega) (by omega) (by omega) (((f0).trans (f43)).rs)) (fun y58 u58 p58 => ?_)
            try simp only [zput_s, zput_n, ti_g, oI_add, oI_sub, oI_mul]
            rw [b8_130 (o10 := o10) (wo10 := wo10)]
            try simp only [zput_s, zput_n, ti_g, oI_add, oI_sub, oI_mul]
            first | refine zok_eq (by omega) (fun c60 => ?_) (fun c60 => ?_) | refine zok_if (fun c60 => ?_) (fun c60 => ?_)
            · try simp only [zput_s, zput_n, ti_g, oI_add, oI_sub, oI_mul]
              rw [b8_137 (o10 := o10) (wo10 := wo10)]
              try simp only [zput_s, zput_n, ti_g, oI_add, oI_sub, oI_mul]
              try simp only [zput_s, zput_n, ti_g, oI_add, oI_sub, oI_mul]
              rw [b8_138 (o10 := o10) (wo10 := wo10)]
              try simp only [zput_s, zput_n, ti_g, oI_add, oI_sub, oI_mul]
              first | refine zok_eq (by omega) (fun c63 => ?_) (fun c63 => ?_) | refine zok_if (fun c63 => ?_) (fun c63 => ?_)
              · simp only [zput_s, zput_n, ti_g, oI_add, oI_sub, oI_mul, b8_158]
                try simp only [zput_s, zput_n, ti_g, oI_add, oI_sub, oI_mul]
                first | exact qI_rt (by omega) (by omega) ⟨(f0).trans (f43), by omega⟩ | exact qI_nf ⟨(f0).trans (f43), by omega⟩
              · first | refine zok_ne (by omega) (fun c65 => ?_) (fun c65 => ?_) | refine zok_if (fun c65 => ?_) (fun c65 => ?_)
                · simp only [zput_s, zput_n, ti_g, oI_add, oI_sub, oI_mul, b8_172]
                  try simp only [zput_s, zput_n, ti_g, oI_add, oI_sub, oI_mul]
                  refine zok_pI (s9 F (q1) (by omega) (by omega) (by omega) (((f0).trans (f43)).rs)) (fun y67 u67 p67 => ?_)
                  simp only [zput_s, zput_n, ti_g, oI_add, oI_sub, oI_mul, b8_188]
                  try simp only [zput_s, zput_n, ti_g, oI_add, oI_sub, oI_mul]
                  first | refine zok_eq (by omega) (fun c69 => ?_) (fun c69 => ?_) | refine zok_if (fun c69 => ?_) (fun c69 => ?_)
                  · simp only [zput_s, zput_n, ti_g, oI_add, oI_sub, oI_mul, b8_198]
                    try simp only [zput_s, zput_n, ti_g, oI_add, oI_sub, oI_mul]
                    try simp only [zput_s, zput_n, ti_g, oI_add, oI_sub, oI_mul]
                    exact ih _ _ _ _ _ _ _ rfl rfl rfl rfl _ ((f0).trans (f43)) (by omega) (by omega)
                  · simp only [zput_s, zput_n, ti_g, oI_add, oI_sub, oI_mul, b8_198]
                    try simp only [zput_s, zput_n, ti_g, oI_add, oI_sub, oI_mul]
                    try simp only [zput_s, zput_n, ti_g, oI_add, oI_sub, oI_mul]
                    exact ih _ _ _ _ _ _ _ rfl rfl rfl rfl _ ((f0).trans (f43)) (by omega) (by omega)
                · simp only [zput_s, zput_n, ti_g, oI_add, oI_sub, oI_mul, b8_158]
                  try simp only [zput_s, zput_n, ti_g, oI_add, oI_sub, oI_mul]
                  first | exact qI_rt (by omega) (by omega) ⟨(f0).trans (f43), by omega⟩ | exact qI_nf ⟨(f0).trans (f43), by omega⟩
            · try simp only [zput_s, zput_n, ti_g, oI_add, oI_sub, oI_mul]
              rw [b8_138 (o10 := o10) (wo10 := wo10)]
              try simp only [zput_s, zput_n, ti_g, oI_add, oI_sub, oI_mul]
              first | refine zok_eq (by omega) (fun c74 => ?_) (fun c74 => ?_) | refine zok_if (fun c74 => ?_) (fun c74 => ?_)
              · simp only [zput_s, zput_n, ti_g, oI_add, oI_sub, oI_mul, b8_158]
                try simp only [zput_s, zput_n, ti_g, oI_add, oI_sub, oI_mul]
                first | exact qI_rt (by omega) (by omega) ⟨(f0).trans (f43), by omega⟩ | exact qI_nf ⟨(f0).trans (f43), by omega⟩
              · first | refine zok_ne (by omega) (fun c76 => ?_) (fun c76 => ?_) | refine zok_if (fun c76 => ?_) (fun c76 => ?_)
                · simp only [zput_s, zput_n, ti_g, oI_add, oI_sub, oI_mul, b8_158]
                  try simp only [zput_s, zput_n, ti_g, oI_add, oI_sub, oI_mul]
                  first | exact qI_rt (by omega) (by omega) ⟨(f0).trans (f43), by omega⟩ | exact qI_nf ⟨(f0).trans (f43), by omega⟩
                · first | refine zok_ne (by omega) (fun c78 => ?_) (fun c78 => ?_) | refine zok_if (fun c78 => ?_) (fun c78 => ?_)
                  · simp only [zput_s, zput_n, ti_g, oI_add, oI_sub, oI_mul, b8_172]
                    try simp only [zput_s, zput_n, ti_g, oI_add, oI_sub, oI_mul]
                    refine zok_pI (s9 F (q1) (by omega) (by omega) (by omega) (((f0).trans (f43)).rs)) (fun y80 u80 p80 => ?_)
                    simp only [zput_s, zput_n, ti_g, oI_add, oI_sub, oI_mul, b8_188]
                    try simp only [zput_s, zput_n, ti_g, oI_add, oI_sub, oI_mul]
                    first | refine zok_eq (by omega) (fun c82 => ?_) (fun c82 => ?_) | refine zok_if (fun c82 => ?_) (fun c82 => ?_)
                    · simp only [zput_s, zput_n, ti_g, oI_add, oI_sub, oI_mul, b8_198]
                      try simp only [zput_s, zput_n, ti_g, oI_add, oI_sub, oI_mul]
                      try simp only [zput_s, zput_n, ti_g, oI_add, oI_sub, oI_mul]
                      exact ih _ _ _ _ _ _ _ rfl rfl rfl rfl _ ((f0).trans (f43)) (by omega) (by omega)
                    · simp only [zput_s, zput_n, ti_g, oI_add, oI_sub, oI_mul, b8_198]
                      try simp only [zput_s, zput_n, ti_g, oI_add, oI_sub, oI_mul]
                      try simp only [zput_s, zput_n, ti_g, oI_add, oI_sub, oI_mul]
                      exact ih _ _ _ _ _ _ _ rfl rfl rfl rfl _ ((f0).trans (f43)) (by omega) (by omega)
                  · simp only [zput_s, zput_n, ti_g, oI_add, oI_sub, oI_mul, b8_158]
                    try simp only [zput_s, zput_n, ti_g, oI_add, oI_sub, oI_mul]
                    first | exact qI_rt (by omega) (by omega) ⟨(f0).trans (f43), by omega⟩ | exact qI_nf ⟨(f0).trans (f43), by omega⟩
        · refine zok_ck (((q1).1).1) ?_
          refine zok_pI (s68 ((q1).1) (by omega) (by omega) (by omega) (by omega) (f0.rs)) (fun y86 u86 p86 => ?_)
          try simp only [zput_s, zput_n, ti_g, oI_add, oI_sub, oI_mul]
          rw [b8_75 (o8 := o8) (wo8 := wo8) (o9 := o9) (wo9 := wo9) (o10 := o10) (wo10 := wo10)]
          try simp only [zput_s, zput_n, ti_g, oI_add, oI_sub, oI_mul]
          first | refine zok_le (by omega) (fun c88 => ?_) (fun c88 => ?_) | refine zok_if (fun c88 => ?_) (fun c88 => ?_)
          · try simp only [zput_s, zput_n, ti_g, oI_add, oI_sub, oI_mul]
            rw [b8_83 (o8 := o8) (wo8 := wo8) (o9 := o9) (wo9 := wo9) (o10 := o10) (wo10 := wo10)]
            try simp only [zput_s, zput_n, ti_g, oI_add, oI_sub, oI_mul]
            try simp only [zput_s, zput_n, ti_g, oI_add, oI_sub, oI_mul]
            rw [b8_84 (o8 := o8) (wo8 := wo8) (o9 := o9) (wo9 := wo9) (o10 := o10) (wo10 := wo10)]
            try simp only [zput_s, zput_n, ti_g, oI_add, oI_sub, oI_mul]
            refine zok_ck ((q0).1) ?_
            refine zok_cI (s10 F (q0) (q1) (by omega) (by omega) (by omega) (by omega) (by omega) (by omega) (f0.rs)) (fun y91 t91 u91 p91 => ?_)
            obtain ⟨f91, p91⟩ := p91
            try simp only [zput_s, zput_n, ti_g, oI_add, oI_sub, oI_mul]
            rw [b8_115 (o9 := o9) (wo9 := wo9) (o10 := o10) (wo10 := wo10)]
            try simp only [zput_s, zput_n, ti_g, oI_add, oI_sub, oI_mul]
            first | refine zok_eq (by omega) (fun c93 => ?_) (fun c93 => ?_) | refine zok_if (fun c93 => ?_) (fun c93 => ?_)
            · try simp only [zput_s, zput_n, ti_g, oI_add, oI_sub, oI_mul]
              rw [b8_137 (o10 := o10) (wo10 := wo10)]
              try simp only [zput_s, zput_n, ti_g, oI_add, oI_sub, oI_mul]
              try simp only [zput_s, zput_n, ti_g, oI_add, oI_sub, oI_mul]
              rw [b8_138 (o10 := o10) (wo10 := wo10)]
              try simp only [zput_s, zput_n, ti_g, oI_add, oI_sub, oI_mul]
              first | refine zok_eq (by omega) (fun c96 => ?_) (fun c96 => ?_) | refine zok_if (fun c96 => ?_) (fun c96 => ?_)
              · simp only [zput_s, zput_n, ti_g, oI_add, oI_sub, oI_mul, b8_158]
                try simp only [zput_s, zput_n, ti_g, oI_add, oI_sub, oI_mul]
                first | exact qI_rt (by omega) (by omega) ⟨(f0).trans (f91), by omega⟩ | exact qI_nf ⟨(f0).trans (f91), by omega⟩
              · first | refine zok_ne (by omega) (fun c98 => ?_) (fun c98 => ?_) | refine zok_if (fun c98 => ?_) (fun c98 => ?_)
                · simp only [zput_s, zput_n, ti_g, oI_add, oI_sub, oI_mul, b8_172]
                  try simp only [zput_s, zput_n, ti_g, oI_add, oI_sub, oI_mul]
                  refine zok_pI (s9 F (q1) (by omega) (by omega) (by omega) (((f0).trans (f91)).rs)) (fun y100 u100 p100 => ?_)
                  simp only [zput_s, zput_n, ti_g, oI_add, oI_sub, oI_mul, b8_188]
                  try simp only [zput_s, zput_n, ti_g, oI_add, oI_sub, oI_mul]
                  first | refine zok_eq (by omega) (fun c102 => ?_) (fun c102 => ?_) | refine zok_if (fun c102 => ?_) (fun c102 => ?_)
                  · simp only [zput_s, zput_n, ti_g, oI_add, oI_sub, oI_mul, b8_198]
                    try simp only [zput_s, zput_n, ti_g, oI_add, oI_sub, oI_mul]
                    try simp only [zput_s, zput_n, ti_g, oI_add, oI_sub, oI_mul]
                    exact ih _ _ _ _ _ _ _ rfl rfl rfl rfl _ ((f0).trans (f91)) (by omega) (by omega)
                  · simp only [zput_s, zput_n, ti_g, oI_add, oI_sub, oI_mul, b8_198]
                    try simp only [zput_s, zput_n, ti_g, oI_add, oI_sub, oI_mul]
                    try simp only [zput_s, zput_n, ti_g, oI_add, oI_sub, oI_mul]
                    exact ih _ _ _ _ _ _ _ rfl rfl rfl rfl _ ((f0).trans (f91)) (by omega) (by omega)
                · simp only [zput_s, zput_n, ti_g, oI_add, oI_sub, oI_mul, b8_158]
                  try simp only [zput_s, zput_n, ti_g, oI_add, oI_sub, oI_mul]
                  first | exact qI_rt (by omega) (by omega) ⟨(f0).trans (f91), by omega⟩ | exact qI_nf ⟨(f0).trans (f91), by omega⟩
            · refine zok_pI (s9 F (q1) (by omega) (by omega) (by omega) (((f0).trans (f91)).rs)) (fun y106 u106 p106 => ?_)
              try simp only [zput_s, zput_n, ti_g, oI_add, oI_sub, oI_mul]
              rw [b8_130 (o10 := o10) (wo10 := wo10)]
              try simp only [zput_s, zput_n, ti_g, oI_add, oI_sub, oI_mul]
              first | refine zok_eq (by omega) (fun c108 => ?_) (fun c108 => ?_) | refine zok_if (fun c108 => ?_) (fun c108 => ?_)
              · try simp only [zput_s, zput_n, ti_g, oI_add, oI_sub, oI_mul]
                rw [b8_137 (o10 := o10) (wo10 := wo10)]
                try simp only [zput_s, zput_n, ti_g, oI_add, oI_sub, oI_mul]
                try simp only [zput_s, zput_n, ti_g, oI_add, oI_sub, oI_mul]
                rw [b8_138 (o10 := o10) (wo10 := wo10)]
                try simp only [zput_s, zput_n, ti_g, oI_add, oI_sub, oI_mul]
                first | refine zok_eq (by omega) (fun c111 => ?_) (fun c111 => ?_) | refine zok_if (fun c111 => ?_) (fun c111 => ?_)
                · simp only [zput_s, zput_n, ti_g, oI_add, oI_sub, oI_mul, b8_158]
                  try simp only [zput_s, zput_n, ti_g, oI_add, oI_sub, oI_mul]
                  first | exact qI_rt (by omega) (by omega) ⟨(f0).trans (f91), by omega⟩ | exact qI_nf ⟨(f0).trans (f91), by omega⟩
                · first | refine zok_ne (by omega) (fun c113 => ?_) (fun c113 => ?_) | refine zok_if (fun c113 => ?_) (fun c113 => ?_)
                  · simp only [zput_s, zput_n, ti_g, oI_add, oI_sub, oI_mul, b8_172]
                    try simp only [zput_s, zput_n, ti_g, oI_add, oI_sub, oI_mul]
                    refine zok_pI (s9 F (q1) (by omega) (by omega) (by omega) (((f0).trans (f91)).rs)) (fun y115 u115 p115 => ?_)
                    simp only [zput_s, zput_n, ti_g, oI_add, oI_sub, oI_mul, b8_188]
                    try simp only [zput_s, zput_n, ti_g, oI_add, oI_sub, oI_mul]
                    first | refine zok_eq (by omega) (fun c117 => ?_) (fun c117 => ?_) | refine zok_if (fun c117 => ?_) (fun c117 => ?_)
                    · simp only [zput_s, zput_n, ti_g, oI_add, oI_sub, oI_mul, b8_198]
                      try simp only [zput_s, zput_n, ti_g, oI_add, oI_sub, oI_mul]
                      try simp only [zput_s, zput_n, ti_g, oI_add, oI_sub, oI_mul]
                      exact ih _ _ _ _ _ _ _ rfl rfl rfl rfl _ ((f0).trans (f91)) (by omega) (by omega)
                    · simp only [zput_s, zput_n, ti_g, oI_add, oI_sub, oI_mul, b8_198]
                      try simp only [zput_s, zput_n, ti_g, oI_add, oI_sub, oI_mul]
                      try simp only [zput_s, zput_n, ti_g, oI_add, oI_sub, oI_mul]
                      exact ih _ _ _ _ _ _ _ rfl rfl rfl rfl _ ((f0).trans (f91)) (by omega) (by omega)
                  · simp only [zput_s, zput_n, ti_g, oI_add, oI_sub, oI_mul, b8_158]
                    try simp only [zput_s, zput_n, ti_g, oI_add, oI_sub, oI_mul]
                    first | exact qI_rt (by omega) (by omega) ⟨(f0).trans (f91), by omega⟩ | exact qI_nf ⟨(f0).trans (f91), by omega⟩
              · try simp only [zput_s, zput_n, ti_g, oI_add, oI_sub, oI_mul]
                rw [b8_138 (o10 := o10) (wo10 := wo10)]
                try simp only [zput_s, zput_n, ti_g, oI_add, oI_sub, oI_mul]
                first | refine zok_eq (by omega) (fun c122 => ?_) (fun c122 => ?_) | refine zok_if (fun c122 => ?_) (fun c122 => ?_)
                · simp only [zput_s, zput_n, ti_g, oI_add, oI_sub, oI_mul, b8_158]
                  try simp only [zput_s, zput_n, ti_g, oI_add, oI_sub, oI_mul]
                  first | exact qI_rt (by omega) (by omega) ⟨(f0).trans (f91), by omega⟩ | exact qI_nf ⟨(f0).trans (f91), by omega⟩
                · first | refine zok_ne (by omega) (fun c124 => ?_) (fun c124 => ?_) | refine zok_if (fun c124 => ?_) (fun c124 => ?_)
                  · simp only [zput_s, zput_n, ti_g, oI_add, oI_sub, oI_mul, b8_158]
                    try simp only [zput_s, zput_n, ti_g, oI_add, oI_sub, oI_mul]
                    first | exact qI_rt (by omega) (by omega) ⟨(f0).trans (f91), by omega⟩ | exact qI_nf ⟨(f0).trans (f91), by omega⟩
                  · first | refine zok_ne (by omega) (fun c126 => ?_) (fun c126 => ?_) | refine zok_if (fun c126 => ?_) (fun c126 => ?_)
                    · simp only [zput_s, zput_n, ti_g, oI_add, oI_sub, oI_mul, b8_172]
                      try simp only [zput_s, zput_n, ti_g, oI_add, oI_sub, oI_mul]
                      refine zok_pI (s9 F (q1) (by omega) (by omega) (by omega) (((f0).trans (f91)).rs)) (fun y128 u128 p128 => ?_)
                      simp only [zput_s, zput_n, ti_g, oI_add, oI_sub, oI_mul, b8_188]
                      try simp only [zput_s, zput_n, ti_g, oI_add, oI_sub, oI_mul]
                      first | refine zok_eq (by omega) (fun c130 => ?_) (fun c130 => ?_) | refine zok_if (fun c130 => ?_) (fun c130 => ?_)
                      · simp only [zput_s, zput_n, ti_g, oI_add, oI_sub, oI_mul, b8_198]
                        try simp only [zput_s, zput_n, ti_g, oI_add, oI_sub, oI_mul]
                        try simp only [zput_s, zput_n, ti_g, oI_add, oI_sub, oI_mul]
                        exact ih _ _ _ _ _ _ _ rfl rfl rfl rfl _ ((f0).trans (f91)) (by omega) (by omega)
                      · simp only [zput_s, zput_n, ti_g, oI_add, oI_sub, oI_mul, b8_198]
                        try simp only [zput_s, zput_n, ti_g, oI_add, oI_sub, oI_mul]
                        try simp only [zput_s, zput_n, ti_g, oI_add, oI_sub, oI_mul]
                        exact ih _ _ _ _ _ _ _ rfl rfl rfl rfl _ ((f0).trans (f91)) (by omega) (by omega)
                    · simp only [zput_s, zput_n, ti_g, oI_add, oI_sub, oI_mul, b8_158]
                      try simp only [zput_s, zput_n, ti_g, oI_add, oI_sub, oI_mul]
                      first | exact qI_rt (by omega) (by omega) ⟨(f0).trans (f91), by omega⟩ | exact qI_nf ⟨(f0).trans (f91), by omega⟩
          · try simp only [zput_s, zput_n, ti_g, oI_add, oI_sub, oI_mul]
            rw [b8_84 (o8 := o8) (wo8 := wo8) (o9 := o9) (wo9 := wo9) (o10 := o10) (wo10 := wo10)]
            try simp only [zput_s, zput_n, ti_g, oI_add, oI_sub, oI_mul]
            first | refine zok_eq (by omega) (fun c135 => ?_) (fun c135 => ?_) | refine zok_if (fun c135 => ?_) (fun c135 => ?_)
            · refine zok_ck ((q0).1) ?_
              refine zok_cI (s10 F (q0) (q1) (by omega) (by omega) (by omega) (by omega) (by omega) (by omega) (f0.rs)) (fun y136 t136 u136 p136 => ?_)
              obtain ⟨f136, p136⟩ := p136
              try simp only [zput_s, zput_n, ti_g, oI_add, oI_sub, oI_mul]
              rw [b8_115 (o9 := o9) (wo9 := wo9) (o10 := o10) (wo10 := wo10)]
              try simp only [zput_s, zput_n, ti_g, oI_add, oI_sub, oI_mul]
              first | refine zok_eq (by omega) (fun c138 => ?_) (fun c138 => ?_) | refine zok_if (fun c138 => ?_) (fun c138 => ?_)
              · try simp only [zput_s, zput_n, ti_g, oI_add, oI_sub, oI_mul]
                rw [b8_137 (o10 := o10) (wo10 := wo10)]
                try simp only [zput_s, zput_n, ti_g, oI_add, oI_sub, oI_mul]
                try simp only [zput_s, zput_n, ti_g, oI_add, oI_sub, oI_mul]
                rw [b8_138 (o10 := o10) (wo10 := wo10)]
                try simp only [zput_s, zput_n, ti_g, oI_add, oI_sub, oI_mul]
                first | refine zok_eq (by omega) (fun c141 => ?_) (fun c141 => ?_) | refine zok_if (fun c141 => ?_) (fun c141 => ?_)
                · simp only [zput_s, zput_n, ti_g, oI_add, oI_sub, oI_mul, b8_158]
                  try simp only [zput_s, zput_n, ti_g, oI_add, oI_sub, oI_mul]
                  first | exact qI_rt (by omega) (by omega) ⟨(f0).trans (f136), by omega⟩ | exact qI_nf ⟨(f0).trans (f136), by omega⟩
                · first | refine zok_ne (by omega) (fun c143 => ?_) (fun c143 => ?_) | refine zok_if (fun c143 => ?_) (fun c143 => ?_)
                  · first | refine zok_eq (by omega) (fun c144 => ?_) (fun c144 => ?_) | refine zok_if (fun c144 => ?_) (fun c144 => ?_)
                    · simp only [zput_s, zput_n, ti_g, oI_add, oI_sub, oI_mul, b8_172]
                      try simp only [zput_s, zput_n, ti_g, oI_add, oI_sub, oI_mul]
                      refine zok_pI (s9 F (q1) (by omega) (by omega) (by omega) (((f0).trans (f136)).rs)) (fun y146 u146 p146 => ?_)
                      simp only [zput_s, zput_n, ti_g, oI_add, oI_sub, oI_mul, b8_188]
                      try simp only [zput_s, zput_n, ti_g, oI_add, oI_sub, oI_mul]
                      first | refine zok_eq (by omega) (fun c148 => ?_) (fun c148 => ?_) | refine zok_if (fun c148 => ?_) (fun c148 => ?_)
                      · simp only [zput_s, zput_n, ti_g, oI_add, oI_sub, oI_mul, b8_198]
                        try simp only [zput_s, zput_n, ti_g, oI_add, oI_sub, oI_mul]
                        try simp only [zput_s, zput_n, ti_g, oI_add, oI_sub, oI_mul]
                        exact ih _ _ _ _ _ _ _ rfl rfl rfl rfl _ ((f0).trans (f136)) (by omega) (by omega)
                      · simp only [zput_s, zput_n, ti_g, oI_add, oI_sub, oI_mul, b8_198]
                        try simp only [zput_s, zput_n, ti_g, oI_add, oI_sub, oI_mul]
                        try simp only [zput_s, zput_n, ti_g, oI_add, oI_sub, oI_mul]
                        exact ih _ _ _ _ _ _ _ rfl rfl rfl rfl _ ((f0).trans (f136)) (by omega) (by omega)
                    · simp only [zput_s, zput_n, ti_g, oI_add, oI_sub, oI_mul, b8_172]
                      try simp only [zput_s, zput_n, ti_g, oI_add, oI_sub, oI_mul]
                      refine zok_pI (s9 F (q1) (by omega) (by omega) (by omega) (((f0).trans (f136)).rs)) (fun y152 u152 p152 => ?_)
                      simp only [zput_s, zput_n, ti_g, oI_add, oI_sub, oI_mul, b8_188]
                      try simp only [zput_s, zput_n, ti_g, oI_add, oI_sub, oI_mul]
                      first | refine zok_eq (by omega) (fun c154 => ?_) (fun c154 => ?_) | refine zok_if (fun c154 => ?_) (fun c154 => ?_)
                      · simp only [zput_s, zput_n, ti_g, oI_add, oI_sub, oI_mul, b8_198]
                        try simp only [zput_s, zput_n, ti_g, oI_add, oI_sub, oI_mul]
                        try simp only [zput_s, zput_n, ti_g, oI_add, oI_sub, oI_mul]
                        exact ih _ _ _ _ _ _ _ rfl rfl rfl rfl _ ((f0).trans (f136)) (by omega) (by omega)
                      · simp only [zput_s, zput_n, ti_g, oI_add, oI_sub, oI_mul, b8_198]
                        try simp only [zput_s, zput_n, ti_g, oI_add, oI_sub, oI_mul]
                        try simp only [zput_s, zput_n, ti_g, oI_add, oI_sub, oI_mul]
                        exact ih _ _ _ _ _ _ _ rfl rfl rfl rfl _ ((f0).trans (f136)) (by omega) (by omega)
                  · simp only [zput_s, zput_n, ti_g, oI_add, oI_sub, oI_mul, b8_158]
                    try simp only [zput_s, zput_n, ti_g, oI_add, oI_sub, oI_mul]
                    first | exact qI_rt (by omega) (by omega) ⟨(f0).trans (f136), by omega⟩ | exact qI_nf ⟨(f0).trans (f136), by omega⟩
              · refine zok_pI (s9 F (q1) (by omega) (by omega) (by omega) (((f0).trans (f136)).rs)) (fun y158 u158 p158 => ?_)
                try simp only [zput_s, zput_n, ti_g, oI_add, oI_sub, oI_mul]
                rw [b8_130 (o10 := o10) (wo10 := wo10)]
                try simp only [zput_s, zput_n, ti_g, oI_add, oI_sub, oI_mul]
                first | refine zok_eq (by omega) (fun c160 => ?_) (fun c160 => ?_) | refine zok_if (fun c160 => ?_) (fun c160 => ?_)
                · try simp only [zput_s, zput_n, ti_g, oI_add, oI_sub, oI_mul]
                  rw [b8_137 (o10 := o10) (wo10 := wo10)]
                  try simp only [zput_s, zput_n, ti_g, oI_add, oI_sub, oI_mul]
                  try simp only [zput_s, zput_n, ti_g, oI_add, oI_sub, oI_mul]
                  rw [b8_138 (o10 := o10) (wo10 := wo10)]
                  try simp only [zput_s, zput_n, ti_g, oI_add, oI_sub, oI_mul]
                  first | refine zok_eq (by omega) (fun c163 => ?_) (fun c163 => ?_) | refine zok_if (fun c163 => ?_) (fun c163 => ?_)
                  · simp only [zput_s, zput_n, ti_g, oI_add, oI_sub, oI_mul, b8_158]
                    try simp only [zput_s, zput_n, ti_g, oI_add, oI_sub, oI_mul]
                    first | exact qI_rt (by omega) (by omega) ⟨(f0).trans (f136), by omega⟩ | exact qI_nf ⟨(f0).trans (f136), by omega⟩
                  · first | refine zok_ne (by omega) (fun c165 => ?_) (fun c165 => ?_) | refine zok_if (fun c165 => ?_) (fun c165 => ?_)
                    · first | refine zok_eq (by omega) (fun c166 => ?_) (fun c166 => ?_) | refine zok_if (fun c166 => ?_) (fun c166 => ?_)
                      · simp only [zput_s, zput_n, ti_g, oI_add, oI_sub, oI_mul, b8_172]
                        try simp only [zput_s, zput_n, ti_g, oI_add, oI_sub, oI_mul]
                        refine zok_pI (s9 F (q1) (by omega) (by omega) (by omega) (((f0).trans (f136)).rs)) (fun y168 u168 p168 => ?_)
                        simp only [zput_s, zput_n, ti_g, oI_add, oI_sub, oI_mul, b8_188]
                        try simp only [zput_s, zput_n, ti_g, oI_add, oI_sub, oI_mul]
                        first | refine zok_eq (by omega) (fun c170 => ?_) (fun c170 => ?_) | refine zok_if (fun c170 => ?_) (fun c170 => ?_)
                        · simp only [zput_s, zput_n, ti_g, oI_add, oI_sub, oI_mul, b8_198]
                          try simp only [zput_s, zput_n, ti_g, oI_add, oI_sub, oI_mul]
                          try simp only [zput_s, zput_n, ti_g, oI_add, oI_sub, oI_mul]
                          exact ih _ _ _ _ _ _ _ rfl rfl rfl rfl _ ((f0).trans (f136)) (by omega) (by omega)
                        · simp only [zput_s, zput_n, ti_g, oI_add, oI_sub, oI_mul, b8_198]
                          try simp only [zput_s, zput_n, ti_g, oI_add, oI_sub, oI_mul]
                          try simp only [zput_s, zput_n, ti_g, oI_add, oI_sub, oI_mul]
                          exact ih _ _ _ _ _ _ _ rfl rfl rfl rfl _ ((f0).trans (f136)) (by omega) (by omega)
                      · simp only [zput_s, zput_n, ti_g, oI_add, oI_sub, oI_mul, b8_172]
                        try simp only [zput_s, zput_n, ti_g, oI_add, oI_sub, oI_mul]
                        refine zok_pI (s9 F (q1) (by omega) (by omega) (by omega) (((f0).trans (f136)).rs)) (fun y174 u174 p174 => ?_)
                        simp only [zput_s, zput_n, ti_g, oI_add, oI_sub, oI_mul, b8_188]
                        try simp only [zput_s, zput_n, ti_g, oI_add, oI_sub, oI_mul]
                        first | refine zok_eq (by omega) (fun c176 => ?_) (fun c176 => ?_) | refine zok_if (fun c176 => ?_) (fun c176 => ?_)
                        · simp only [zput_s, zput_n, ti_g, oI_add, oI_sub, oI_mul, b8_198]
                          try simp only [zput_s, zput_n, ti_g, oI_add, oI_sub, oI_mul]
                          try simp only [zput_s, zput_n, ti_g, oI_add, oI_sub, oI_mul]
                          exact ih _ _ _ _ _ _ _ rfl rfl rfl rfl _ ((f0).trans (f136)) (by omega) (by omega)
                        · simp only [zput_s, zput_n, ti_g, oI_add, oI_sub, oI_mul, b8_198]
                          try simp only [zput_s, zput_n, ti_g, oI_add, oI_sub, oI_mul]
                          try simp only [zput_s, zput_n, ti_g, oI_add, oI_sub, oI_mul]
                          exact ih _ _ _ _ _ _ _ rfl rfl rfl rfl _ ((f0).trans (f136)) (by omega) (by omega)
                    · simp only [zput_s, zput_n, ti_g, oI_add, oI_sub, oI_mul, b8_158]
                      try simp only [zput_s, zput_n, ti_g, oI_add, oI_sub, oI_mul]
                      first | exact qI_rt (by omega) (by omega) ⟨(f0).trans (f136), by omega⟩ | exact qI_nf ⟨(f0).trans (f136), by omega⟩
                · try simp only [zput_s, zput_n, ti_g, oI_add, oI_sub, oI_mul]
                  rw [b8_138 (o10 := o10) (wo10 := wo10)]
                  try simp only [zput_s, zput_n, ti_g, oI_add, oI_sub, oI_mul]
                  first | refine zok_eq (by omega) (fun c181 => ?_) (fun c181 => ?_) | refine zok_if (fun c181 => ?_) (fun c181 => ?_)
                  · simp only [zput_s, zput_n, ti_g, oI_add, oI_sub, oI_mul, b8_158]
                    try simp only [zput_s, zput_n, ti_g, oI_add, oI_sub, oI_mul]
                    first | exact qI_rt (by omega) (by omega) ⟨(f0).trans (f136), by omega⟩ | exact qI_nf ⟨(f0).trans (f136), by omega⟩
                  · first | refine zok_ne (by omega) (fun c183 => ?_) (fun c183 => ?_) | refine zok_if (fun c183 => ?_) (fun c183 => ?_)
                    · simp only [zput_s, zput_n, ti_g, oI_add, oI_sub, oI_mul, b8_158]
                      try simp only [zput_s, zput_n, ti_g, oI_add, oI_sub, oI_mul]
                      first | exact qI_rt (by omega) (by omega) ⟨(f0).trans (f136), by omega⟩ | exact qI_nf ⟨(f0).trans (f136), by omega⟩
                    · first | refine zok_ne (by omega) (fun c185 => ?_) (fun c185 => ?_) | refine zok_if (fun c185 => ?_) (fun c185 => ?_)
                      · first | refine zok_eq (by omega) (fun c186 => ?_) (fun c186 => ?_) | refine zok_if (fun c186 => ?_) (fun c186 => ?_)
                        · simp only [zput_s, zput_n, ti_g, oI_add, oI_sub, oI_mul, b8_172]
                          try simp only [zput_s, zput_n, ti_g, oI_add, oI_sub, oI_mul]
                          refine zok_pI (s9 F (q1) (by omega) (by omega) (by omega) (((f0).trans (f136)).rs)) (fun y188 u188 p188 => ?_)
                          simp only [zput_s, zput_n, ti_g, oI_add, oI_sub, oI_mul, b8_188]
                          try simp only [zput_s, zput_n, ti_g, oI_add, oI_sub, oI_mul]
                          first | refine zok_eq (by omega) (fun c190 => ?_) (fun c190 => ?_) | refine zok_if (fun c190 => ?_) (fun c190 => ?_)
                          · simp only [zput_s, zput_n, ti_g, oI_add, oI_sub, oI_mul, b8_198]
                            try simp only [zput_s, zput_n, ti_g, oI_add, oI_sub, oI_mul]
                            try simp only [zput_s, zput_n, ti_g, oI_add, oI_sub, oI_mul]
                            exact ih _ _ _ _ _ _ _ rfl rfl rfl rfl _ ((f0).trans (f136)) (by omega) (by omega)
                          · simp only [zput_s, zput_n, ti_g, oI_add, oI_sub, oI_mul, b8_198]
                            try simp only [zput_s, zput_n, ti_g, oI_add, oI_sub, oI_mul]
                            try simp only [zput_s, zput_n, ti_g, oI_add, oI_sub, oI_mul]
                            exact ih _ _ _ _ _ _ _ rfl rfl rfl rfl _ ((f0).trans (f136)) (by omega) (by omega)
                        · simp only [zput_s, zput_n, ti_g, oI_add, oI_sub, oI_mul, b8_172]
                          try simp only [zput_s, zput_n, ti_g, oI_add, oI_sub, oI_mul]
                          refine zok_pI (s9 F (q1) (by omega) (by omega) (by omega) (((f0).trans (f136)).rs)) (fun y194 u194 p194 => ?_)
                          simp only [zput_s, zput_n, ti_g, oI_add, oI_sub, oI_mul, b8_188]
                          try simp only [zput_s, zput_n, ti_g, oI_add, oI_sub, oI_mul]
                          first | refine zok_eq (by omega) (fun c196 => ?_) (fun c196 => ?_) | refine zok_if (fun c196 => ?_) (fun c196 => ?_)
                          · simp only [zput_s, zput_n, ti_g, oI_add, oI_sub, oI_mul, b8_198]
                            try simp only [zput_s, zput_n, ti_g, oI_add, oI_sub, oI_mul]
                            try simp only [zput_s, zput_n, ti_g, oI_add, oI_sub, oI_mul]
                            exact ih _ _ _ _ _ _ _ rfl rfl rfl rfl _ ((f0).trans (f136)) (by omega) (by omega)
                          · simp only [zput_s, zput_n, ti_g, oI_add, oI_sub, oI_mul, b8_198]
                            try simp only [zput_s, zput_n, ti_g, oI_add, oI_sub, oI_mul]
                            try simp only [zput_s, zput_n, ti_g, oI_add, oI_sub, oI_mul]
                            exact ih _ _ _ _ _ _ _ rfl rfl rfl rfl _ ((f0).trans (f136)) (by omega) (by omega)
                      · simp only [zput_s, zput_n, ti_g, oI_add, oI_sub, oI_mul, b8_158]
                        try simp only [zput_s, zput_n, ti_g, oI_add, oI_sub, oI_mul]
                        first | exact qI_rt (by omega) (by omega) ⟨(f0).trans (f136), by omega⟩ | exact qI_nf ⟨(f0).trans (f136), by omega⟩
            · refine zok_ck ((q0).1) ?_
              refine zok_cI (s6 F (q0) (q1) (by omega) (by omega) (by omega) (by omega) (by omega) (by omega) (f0.rs)) (fun y200 t200 u200 p200 => ?_)
              obtain ⟨f200, p200⟩ := p200
              try simp only [zput_s, zput_n, ti_g, oI_add, oI_sub, oI_mul]
              rw [b8_101 (o9 := o9) (wo9 := wo9) (o10 := o10) (wo10 := wo10)]
              try simp only [zput_s, zput_n, ti_g, oI_add, oI_sub, oI_mul]
              try simp only [zput_s, zput_n, ti_g, oI_add, oI_sub, oI_mul]
              rw [b8_115 (o9 := o9) (wo9 := wo9) (o10 := o10) (wo10 := wo10)]
              try simp only [zput_s, zput_n, ti_g, oI_add, oI_sub, oI_mul]
              first | refine zok_eq (by omega) (fun c203 => ?_) (fun c203 => ?_) | refine zok_if (fun c203 => ?_) (fun c203 => ?_)
              · try simp only [zput_s, zput_n, ti_g, oI_add, oI_sub, oI_mul]
                rw [b8_137 (o10 := o10) (wo10 := wo10)]
                try simp only [zput_s, zput_n, ti_g, oI_add, oI_sub, oI_mul]
                try simp only [zput_s, zput_n, ti_g, oI_add, oI_sub, oI_mul]
                rw [b8_138 (o10 := o10) (wo10 := wo10)]
                try simp only [zput_s, zput_n, ti_g, oI_add, oI_sub, oI_mul]
                first | refine zok_eq (by omega) (fun c206 => ?_) (fun c206 => ?_) | refine zok_if (fun c206 => ?_) (fun c206 => ?_)
                · simp only [zput_s, zput_n, ti_g, oI_add, oI_sub, oI_mul, b8_158]
                  try simp only [zput_s, zput_n, ti_g, oI_add, oI_sub, oI_mul]
                  first | exact qI_rt (by omega) (by omega) ⟨(f0).trans (f200), by omega⟩ | exact qI_nf ⟨(f0).trans (f200), by omega⟩
                · first | refine zok_ne (by omega) (fun c208 => ?_) (fun c208 => ?_) | refine zok_if (fun c208 => ?_) (fun c208 => ?_)
                  · first | refine zok_eq (by omega) (fun c209 => ?_) (fun c209 => ?_) | refine zok_if (fun c209 => ?_) (fun c209 => ?_)
                    · simp only [zput_s, zput_n, ti_g, oI_add, oI_sub, oI_mul, b8_172]
                      try simp only [zput_s, zput_n, ti_g, oI_add, oI_sub, oI_mul]
                      refine zok_pI (s9 F (q1) (by omega) (by omega) (by omega) (((f0).trans (f200)).rs)) (fun y211 u211 p211 => ?_)
                      simp only [zput_s, zput_n, ti_g, oI_add, oI_sub, oI_mul, b8_188]
                      try simp only [zput_s, zput_n, ti_g, oI_add, oI_sub, oI_mul]
                      first | refine zok_eq (by omega) (fun c213 => ?_) (fun c213 => ?_) | refine zok_if (fun c213 => ?_) (fun c213 => ?_)
                      · simp only [zput_s, zput_n, ti_g, oI_add, oI_sub, oI_mul, b8_198]
                        try simp only [zput_s, zput_n, ti_g, oI_add, oI_sub, oI_mul]
                        try simp only [zput_s, zput_n, ti_g, oI_add, oI_sub, oI_mul]
                        exact ih _ _ _ _ _ _ _ rfl rfl rfl rfl _ ((f0).trans (f200)) (by omega) (by omega)
                      · simp only [zput_s, zput_n, ti_g, oI_add, oI_sub, oI_mul, b8_198]
                        try simp only [zput_s, zput_n, ti_g, oI_add, oI_sub, oI_mul]
                        try simp only [zput_s, zput_n, ti_g, oI_add, oI_sub, oI_mul]
                        exact ih _ _ _ _ _ _ _ rfl rfl rfl rfl _ ((f0).trans (f200)) (by omega) (by omega)
                    · simp only [zput_s, zput_n, ti_g, oI_add, oI_sub, oI_mul, b8_172]
                      try simp only [zput_s, zput_n, ti_g, oI_add, oI_sub, oI_mul]
                      refine zok_pI (s9 F (q1) (by omega) (by omega) (by omega) (((f0).trans (f200)).rs)) (fun y217 u217 p217 => ?_)
                      simp only [zput_s, zput_n, ti_g, oI_add, oI_sub, oI_mul, b8_188]
                      try simp only [zput_s, zput_n, ti_g, oI_add, oI_sub, oI_mul]
                      first | refine zok_eq (by omega) (fun c219 => ?_) (fun c219 => ?_) | refine zok_if (fun c219 => ?_) (fun c219 => ?_)
                      · simp only [zput_s, zput_n, ti_g, oI_add, oI_sub, oI_mul, b8_198]
                        try simp only [zput_s, zput_n, ti_g, oI_add, oI_sub, oI_mul]
                        try simp only [zput_s, zput_n, ti_g, oI_add, oI_sub, oI_mul]
                        exact ih _ _ _ _ _ _ _ rfl rfl rfl rfl _ ((f0).trans (f200)) (by omega) (by omega)
                      · simp only [zput_s, zput_n, ti_g, oI_add, oI_sub, oI_mul, b8_198]
                        try simp only [zput_s, zput_n, ti_g, oI_add, oI_sub, oI_mul]
                        try simp only [zput_s, zput_n, ti_g, oI_add, oI_sub, oI_mul]
                        exact ih _ _ _ _ _ _ _ rfl rfl rfl rfl _ ((f0).trans (f200)) (by omega) (by omega)
                  · simp only [zput_s, zput_n, ti_g, oI_add, oI_sub, oI_mul, b8_158]
                    try simp only [zput_s, zput_n, ti_g, oI_add, oI_sub, oI_mul]
                    first | exact qI_rt (by omega) (by omega) ⟨(f0).trans (f200), by omega⟩ | exact qI_nf ⟨(f0).trans (f200), by omega⟩
              · refine zok_pI (s9 F (q1) (by omega) (by omega) (by omega) (((f0).trans (f200)).rs)) (fun y223 u223 p223 => ?_)
                try simp only [zput_s, zput_n, ti_g, oI_add, oI_sub, oI_mul]
                rw [b8_130 (o10 := o10) (wo10 := wo10)]
                try simp only [zput_s, zput_n, ti_g, oI_add, oI_sub, oI_mul]
                first | refine zok_eq (by omega) (fun c225 => ?_) (fun c225 => ?_) | refine zok_if (fun c225 => ?_) (fun c225 => ?_)
                · try simp only [zput_s, zput_n, ti_g, oI_add, oI_sub, oI_mul]
                  rw [b8_137 (o10 := o10) (wo10 := wo10)]
                  try simp only [zput_s, zput_n, ti_g, oI_add, oI_sub, oI_mul]
                  try simp only [zput_s, zput_n, ti_g, oI_add, oI_sub, oI_mul]
                  rw [b8_138 (o10 := o10) (wo10 := wo10)]
                  try simp only [zput_s, zput_n, ti_g, oI_add, oI_sub, oI_mul]
                  first | refine zok_eq (by omega) (fun c228 => ?_) (fun c228 => ?_) | refine zok_if (fun c228 => ?_) (fun c228 => ?_)
                  · simp only [zput_s, zput_n, ti_g, oI_add, oI_sub, oI_mul, b8_158]
                    try simp only [zput_s, zput_n, ti_g, oI_add, oI_sub, oI_mul]
                    first | exact qI_rt (by omega) (by omega) ⟨(f0).trans (f200), by omega⟩ | exact qI_nf ⟨(f0).trans (f200), by omega⟩
                  · first | refine zok_ne (by omega) (fun c230 => ?_) (fun c230 => ?_) | refine zok_if (fun c230 => ?_) (fun c230 => ?_)
                    · first | refine zok_eq (by omega) (fun c231 => ?_) (fun c231 => ?_) | refine zok_if (fun c231 => ?_) (fun c231 => ?_)
                      · simp only [zput_s, zput_n, ti_g, oI_add, oI_sub, oI_mul, b8_172]
                        try simp only [zput_s, zput_n, ti_g, oI_add, oI_sub, oI_mul]
                        refine zok_pI (s9 F (q1) (by omega) (by omega) (by omega) (((f0).trans (f200)).rs)) (fun y233 u233 p233 => ?_)
                        simp only [zput_s, zput_n, ti_g, oI_add, oI_sub, oI_mul, b8_188]
                        try simp only [zput_s, zput_n, ti_g, oI_add, oI_sub, oI_mul]
                        first | refine zok_eq (by omega) (fun c235 => ?_) (fun c235 => ?_) | refine zok_if (fun c235 => ?_) (fun c235 => ?_)
                        · simp only [zput_s, zput_n, ti_g, oI_add, oI_sub, oI_mul, b8_198]
                          try simp only [zput_s, zput_n, ti_g, oI_add, oI_sub, oI_mul]
                          try simp only [zput_s, zput_n, ti_g, oI_add, oI_sub, oI_mul]
                          exact ih _ _ _ _ _ _ _ rfl rfl rfl rfl _ ((f0).trans (f200)) (by omega) (by omega)
                        · simp only [zput_s, zput_n, ti_g, oI_add, oI_sub, oI_mul, b8_198]
                          try simp only [zput_s, zput_n, ti_g, oI_add, oI_sub, oI_mul]
                          try simp only [zput_s, zput_n, ti_g, oI_add, oI_sub, oI_mul]
                          exact ih _ _ _ _ _ _ _ rfl rfl rfl rfl _ ((f0).trans (f200)) (by omega) (by omega)
                      · simp only [zput_s, zput_n, ti_g, oI_add, oI_sub, oI_mul, b8_172]
                        try simp only [zput_s, zput_n, ti_g, oI_add, oI_sub, oI_mul]
                        refine zok_pI (s9 F (q1) (by omega) (by omega) (by omega) (((f0).trans (f200)).rs)) (fun y239 u239 p239 => ?_)
                        simp only [zput_s, zput_n, ti_g, oI_add, oI_sub, oI_mul, b8_188]
                        try simp only [zput_s, zput_n, ti_g, oI_add, oI_sub, oI_mul]
                        first | refine zok_eq (by omega) (fun c241 => ?_) (fun c241 => ?_) | refine zok_if (fun c241 => ?_) (fun c241 => ?_)
                        · simp only [zput_s, zput_n, ti_g, oI_add, oI_sub, oI_mul, b8_198]
                          try simp only [zput_s, zput_n, ti_g, oI_add, oI_sub, oI_mul]
                          try simp only [zput_s, zput_n, ti_g, oI_add, oI_sub, oI_mul]
                          exact ih _ _ _ _ _ _ _ rfl rfl rfl rfl _ ((f0).trans (f200)) (by omega) (by omega)
                        · simp only [zput_s, zput_n, ti_g, oI_add, oI_sub, oI_mul, b8_198]
                          try simp only [zput_s, zput_n, ti_g, oI_add, oI_sub, oI_mul]
                          try simp only [zput_s, zput_n, ti_g, oI_add, oI_sub, oI_mul]
                          exact ih _ _ _ _ _ _ _ rfl rfl rfl rfl _ ((f0).trans (f200)) (by omega) (by omega)
                    · simp only [zput_s, zput_n, ti_g, oI_add, oI_sub, oI_mul, b8_158]
                      try simp only [zput_s, zput_n, ti_g, oI_add, oI_sub, oI_mul]
                      first | exact qI_rt (by omega) (by omega) ⟨(f0).trans (f200), by omega⟩ | exact qI_nf ⟨(f0).trans (f200), by omega⟩
                · try simp only [zput_s, zput_n, ti_g, oI_add, oI_sub, oI_mul]
                  rw [b8_138 (o10 := o10) (wo10 := wo10)]
                  try simp only [zput_s, zput_n, ti_g, oI_add, oI_sub, oI_mul]
                  first | refine zok_eq (by omega) (fun c246 => ?_) (fun c246 => ?_) | refine zok_if (fun c246 => ?_) (fun c246 => ?_)
                  · simp only [zput_s, zput_n, ti_g, oI_add, oI_sub, oI_mul, b8_158]
                    try simp only [zput_s, zput_n, ti_g, oI_add, oI_sub, oI_mul]
                    first | exact qI_rt (by omega) (by omega) ⟨(f0).trans (f200), by omega⟩ | exact qI_nf ⟨(f0).trans (f200), by omega⟩
                  · first | refine zok_ne (by omega) (fun c248 => ?_) (fun c248 => ?_) | refine zok_if (fun c248 => ?_) (fun c248 => ?_)
                    · simp only [zput_s, zput_n, ti_g, oI_add, oI_sub, oI_mul, b8_158]
                      try simp only [zput_s, zput_n, ti_g, oI_add, oI_sub, oI_mul]
                      first | exact qI_rt (by omega) (by omega) ⟨(f0).trans (f200), by omega⟩ | exact qI_nf ⟨(f0).trans (f200), by omega⟩
                    · first | refine zok_ne (by omega) (fun c250 => ?_) (fun c250 => ?_) | refine zok_if (fun c250 => ?_) (fun c250 => ?_)
                      · first | refine zok_eq (by omega) (fun c251 => ?_) (fun c251 => ?_) | refine zok_if (fun c251 => ?_) (fun c251 => ?_)
                        · simp only [zput_s, zput_n, ti_g, oI_add, oI_sub, oI_mul, b8_172]
                          try simp only [zput_s, zput_n, ti_g, oI_add, oI_sub, oI_mul]
                          refine zok_pI (s9 F (q1) (by omega) (by omega) (by omega) (((f0).trans (f200)).rs)) (fun y253 u253 p253 => ?_)
                          simp only [zput_s, zput_n, ti_g, oI_add, oI_sub, oI_mul, b8_188]
                          try simp only [zput_s, zput_n, ti_g, oI_add, oI_sub, oI_mul]
                          first | refine zok_eq (by omega) (fun c255 => ?_) (fun c255 => ?_) | refine zok_if (fun c255 => ?_) (fun c255 => ?_)
                          · simp only [zput_s, zput_n, ti_g, oI_add, oI_sub, oI_mul, b8_198]
                            try simp only [zput_s, zput_n, ti_g, oI_add, oI_sub, oI_mul]
                            try simp only [zput_s, zput_n, ti_g, oI_add, oI_sub, oI_mul]
                            exact ih _ _ _ _ _ _ _ rfl rfl rfl rfl _ ((f0).trans (f200)) (by omega) (by omega)
                          · simp only [zput_s, zput_n, ti_g, oI_add, oI_sub, oI_mul, b8_198]
                            try simp only [zput_s, zput_n, ti_g, oI_add, oI_sub, oI_mul]
                            try simp only [zput_s, zput_n, ti_g, oI_add, oI_sub, oI_mul]
                            exact ih _ _ _ _ _ _ _ rfl rfl rfl rfl _ ((f0).trans (f200)) (by omega) (by omega)
                        · simp only [zput_s, zput_n, ti_g, oI_add, oI_sub, oI_mul, b8_172]
                          try simp only [zput_s, zput_n, ti_g, oI_add, oI_sub, oI_mul]
                          refine zok_pI (s9 F (q1) (by omega) (by omega) (by omega) (((f0).trans (f200)).rs)) (fun y259 u259 p259 => ?_)
                          simp only [zput_s, zput_n, ti_g, oI_add, oI_sub, oI_mul, b8_188]
                          try simp only [zput_s, zput_n, ti_g, oI_add, oI_sub, oI_mul]
                          first | refine zok_eq (by omega) (fun c261 => ?_) (fun c261 => ?_) | refine zok_if (fun c261 => ?_) (fun c261 => ?_)
                          · simp only [zput_s, zput_n, ti_g, oI_add, oI_sub, oI_mul, b8_198]
                            try simp only [zput_s, zput_n, ti_g, oI_add, oI_sub, oI_mul]
                            try simp only [zput_s, zput_n, ti_g, oI_add, oI_sub, oI_mul]
                            exact ih _ _ _ _ _ _ _ rfl rfl rfl rfl _ ((f0).trans (f200)) (by omega) (by omega)
                          · simp only [zput_s, zput_n, ti_g, oI_add, oI_sub, oI_mul, b8_198]
                            try simp only [zput_s, zput_n, ti_g, oI_add, oI_sub, oI_mul]
                            try simp only [zput_s, zput_n, ti_g, oI_add, oI_sub, oI_mul]
                            exact ih _ _ _ _ _ _ _ rfl rfl rfl rfl _ ((f0).trans (f200)) (by omega) (by omega)
                      · simp only [zput_s, zput_n, ti_g, oI_add, oI_sub, oI_mul, b8_158]
                        try simp only [zput_s, zput_n, ti_g, oI_add, oI_sub, oI_mul]
                        first | exact qI_rt (by omega) (by omega) ⟨(f0).trans (f200), by omega⟩ | exact qI_nf ⟨(f0).trans (f200), by omega⟩
theorem s8 {sh : zSh} {T MB : Nat} (F : zCl sh T MB) {r0 : Nat} (q0 : zAd sh T MB r0) {r1 : Nat} (q1 : zRw sh T MB r1) {x2 : Int} (u2 : -2147483648 ≤ x2 ∧ x2 ≤ 2147483647) {x3 : Int} (u3 : -2147483648 ≤ x3 ∧ x3 ≤ 2147483647) (d2 : 0 ≤ x2 ∧ x2 ≤ 200000) (d3 : -1 ≤ x3 ∧ x3 ≤ 200000) {t : zSt} (hR : RS sh t) : zok (zcl zP 8 [zR r0, zR r1, zI (oI x2), zI (oI x3)] (sh, t)) (qI (fun x t' => FrC sh T MB t t' ∧ (x = 0 ∨ x = 1)) sh) := by
  have ha0 : (sk sh (sr sh r0 0)).2 = 8 := by rw [q0.2.2.1]
  have hz1 := RS_sz (hR) q1.1
  rw [b8_0]
  try simp only [zput_s, zput_n, ti_g, oI_add, oI_sub, oI_mul]
  refine zok_pI (s9 F (q1) (by omega) (by omega) (by omega) (hR)) (fun y266 u266 p266 => ?_)
  simp only [zput_s, zput_n, ti_g, oI_add, oI_sub, oI_mul, b8_9]
  try simp only [zput_s, zput_n, ti_g, oI_add, oI_sub, oI_mul]
  first | refine zok_eq (by omega) (fun c268 => ?_) (fun c268 => ?_) | refine zok_if (fun c268 => ?_) (fun c268 => ?_)
  · simp only [zput_s, zput_n, ti_g, oI_add, oI_sub, oI_mul, b8_17]
    try simp only [zput_s, zput_n, ti_g, oI_add, oI_sub, oI_mul]
    first | refine zok_ne (by omega) (fun c270 => ?_) (fun c270 => ?_) | refine zok_if (fun c270 => ?_) (fun c270 => ?_)
    · simp only [zput_s, zput_n, ti_g, oI_add, oI_sub, oI_mul, b8_31]
      try simp only [zput_s, zput_n, ti_g, oI_add, oI_sub, oI_mul]
      try simp only [zput_s, zput_n, ti_g, oI_add, oI_sub, oI_mul]
      exact l8_33 F q0 q1 (by omega) (by omega) d2 d3 hR _ _ _ _ _ _ _ _ rfl rfl rfl rfl _ (FrC.refl hR) (by omega) (Nat.lt_succ_self _)
    · simp only [zput_s, zput_n, ti_g, oI_add, oI_sub, oI_mul, b8_31]
      try simp only [zput_s, zput_n, ti_g, oI_add, oI_sub, oI_mul]
      try simp only [zput_s, zput_n, ti_g, oI_add, oI_sub, oI_mul]
      exact l8_33 F q0 q1 (by omega) (by omega) d2 d3 hR _ _ _ _ _ _ _ _ rfl rfl rfl rfl _ (FrC.refl hR) (by omega) (Nat.lt_succ_self _)
  · simp only [zput_s, zput_n, ti_g, oI_add, oI_sub, oI_mul, b8_17]
    try simp only [zput_s, zput_n, ti_g, oI_add, oI_sub, oI_mul]
    simp only [zput_s, zput_n, ti_g, oI_add, oI_sub, oI_mul, b8_31]
    try simp only [zput_s, zput_n, ti_g, oI_add, oI_sub, oI_mul]
    try simp only [zput_s, zput_n, ti_g, oI_add, oI_sub, oI_mul]
    exact l8_33 F q0 q1 (by omega) (by omega) d2 d3 hR _ _ _ _ _ _ _ _ rfl rfl rfl rfl _ (FrC.refl hR) (by omega) (Nat.lt_succ_self _)
/-! X0_kindOf -/
theorem s1 {sh : zSh} {T MB : Nat} (F : zCl sh T MB) {r0 : Nat} (q0 : zAd sh T MB r0) {r1 : Nat} (q1 : zRw sh T MB r1) {t : zSt} (hR : RS sh t) : zok (zcl zP 1 [zR r0, zR r1] (sh, t)) (qI (fun x t' => FrC sh T MB t t' ∧ (0 ≤ x ∧ x ≤ 4)) sh) := by
  have ha0 : (sk sh (sr sh r0 0)).2 = 8 := by rw [q0.2.2.1]
  have hz1 := RS_sz (hR) q1.1
  have g1_1 := RS_sz (hR) ((q1).1)
  rw [b1_0]
  try simp only [zput_s, zput_n, ti_g, oI_add, oI_sub, oI_mul]
  refine zok_ck (((q1).1).1) ?_
  first | refine zok_ne (by omega) (fun c2 => ?_) (fun c2 => ?_) | refine zok_if (fun c2 => ?_) (fun c2 => ?_)
  · refine zok_ck (((q1).1).1) ?_
    refine zok_pI (s57 ((q1).1) (by omega) (hR)) (fun y3 u3 p3 => ?_)
    have g4_1 := RS_sz (hR) ((q1).1)
    simp only [zput_s, zput_n, ti_g, oI_add, oI_sub, oI_mul, b1_14]
    try simp only [zput_s, zput_n, ti_g, oI_add, oI_sub, oI_mul]
    first | refine zok_ne (by omega) (fun c5 => ?_) (fun c5 => ?_) | refine zok_if (fun c5 => ?_) (fun c5 => ?_)
    · refine zok_ck (((q1).1).1) ?_
      refine zok_ck ((q0).1) ?_
      refine zok_cI (s6 F (q0) (q1) (by omega) (by omega) (by omega) (by omega) (by omega) (by omega) (hR)) (fun y6 t6 u6 p6 => ?_)
      obtain ⟨f6, p6⟩ := p6
      simp only [zput_s, zput_n, ti_g, oI_add, oI_sub, oI_mul, b1_51]
      try simp only [zput_s, zput_n, ti_g, oI_add, oI_sub, oI_mul]
      first | refine zok_eq (by omega) (fun c8 => ?_) (fun c8 => ?_) | refine zok_if (fun c8 => ?_) (fun c8 => ?_)
      · first | exact qI_rt (by omega) (by omega) ⟨f6, by omega⟩ | exact qI_nf ⟨f6, by omega⟩
      · first | exact qI_rt (by omega) (by omega) ⟨f6, by omega⟩ | exact qI_nf ⟨f6, by omega⟩
    · refine zok_ck (((q1).1).1) ?_
      refine zok_ck ((q0).1) ?_
      refine zok_cI (s8 F (q0) (q1) (by omega) (by omega) (by omega) (by omega) (hR)) (fun y9 t9 u9 p9 => ?_)
      obtain ⟨f9, p9⟩ := p9
      simp only [zput_s, zput_n, ti_g, oI_add, oI_sub, oI_mul, b1_31]
      try simp only [zput_s, zput_n, ti_g, oI_add, oI_sub, oI_mul]
      first | refine zok_eq (by omega) (fun c11 => ?_) (fun c11 => ?_) | refine zok_if (fun c11 => ?_) (fun c11 => ?_)
      · first | exact qI_rt (by omega) (by omega) ⟨f9, by omega⟩ | exact qI_nf ⟨f9, by omega⟩
      · first | exact qI_rt (by omega) (by omega) ⟨f9, by omega⟩ | exact qI_nf ⟨f9, by omega⟩
  · first | exact qI_rt (by omega) (by omega) ⟨FrC.refl hR, by omega⟩ | exact qI_nf ⟨FrC.refl hR, by omega⟩
/-! X0_rowAt -/
theorem l15_4 {sh : zSh} {T MB : Nat} (F : zCl sh T MB) {r0 : Nat} (q0 : zAd sh T MB r0) {x1 : Int} (u1 : -2147483648 ≤ x1 ∧ x1 ≤ 2147483647) (d1 : 0 ≤ x1 ∧ x1 ≤ 8) {t : zSt} (hR : RS sh t) : ∀ (n : Nat) (x2 : Int) (x3 : Int) , (-2147483648 ≤ x2 ∧ x2 ≤ 2147483647) ∧ (-2147483648 ≤ x3 ∧ x3 ≤ 2147483647) ∧ (x1 ≤ x3 ∧ x2 = x3 - x1) ∧ (x3 ≤ 8) → (8 - x3).toNat < n → zok (zev zP 15 4 [some (zR r0), some (zI (oI x1)), some (zI (oI x2)), some (zI (oI x3))] [] (sh, t)) (qI (fun x t' => t' = t ∧ (0 ≤ x ∧ x ≤ 8)) sh) := by
  intro n
  induction n with
  | zero => intro x2 x3  _ hm; omega
  | succ n ih =>
    intro x2 x3  hv hm
    have ha0 : (sk sh (sr sh r0 0)).2 = 8 := by rw [q0.2.2.1]
    simp only [zput_s, zput_n, ti_g, oI_add, oI_sub, oI_mul, b15_4]
    try simp only [zput_s, zput_n, ti_g, oI_add, oI_sub, oI_mul]
    refine zok_ck ((q0).1) ?_
    refine zok_ck (by rw [(q0).2.2.1]; decide) ?_
    first | refine zok_le (by omega) (fun c2 => ?_) (fun c2 => ?_) | refine zok_if (fun c2 => ?_) (fun c2 => ?_)
    · first | exact qI_rt (by omega) (by omega) ⟨rfl, by omega⟩ | exact qI_nf ⟨rfl, by omega⟩
    · refine zok_ck ((q0).1) ?_
      refine zok_pI (s3 F (q0) (by omega) (hR)) (fun y3 u3 p3 => ?_)
      simp only [zput_s, zput_n, ti_g, oI_add, oI_sub, oI_mul, b15_18]
      try simp only [zput_s, zput_n, ti_g, oI_add, oI_sub, oI_mul]
      first | refine zok_ne (by omega) (fun c5 => ?_) (fun c5 => ?_) | refine zok_if (fun c5 => ?_) (fun c5 => ?_)
      · first | exact qI_rt (by omega) (by omega) ⟨rfl, by omega⟩ | exact qI_nf ⟨rfl, by omega⟩
      · try simp only [zput_s, zput_n, ti_g, oI_add, oI_sub, oI_mul]
        exact ih _ _ (by omega) (by omega)
theorem s15 {sh : zSh} {T MB : Nat} (F : zCl sh T MB) {r0 : Nat} (q0 : zAd sh T MB r0) {x1 : Int} (u1 : -2147483648 ≤ x1 ∧ x1 ≤ 2147483647) (d1 : 0 ≤ x1 ∧ x1 ≤ 8) {t : zSt} (hR : RS sh t) : zok (zcl zP 15 [zR r0, zI (oI x1)] (sh, t)) (qI (fun x t' => t' = t ∧ (0 ≤ x ∧ x ≤ 8)) sh) := by
  have ha0 : (sk sh (sr sh r0 0)).2 = 8 := by rw [q0.2.2.1]
  rw [b15_0]
  try simp only [zput_s, zput_n, ti_g, oI_add, oI_sub, oI_mul]
  try simp only [zput_s, zput_n, ti_g, oI_add, oI_sub, oI_mul]
  exact l15_4 F q0 (by omega) d1 hR _ _ _ (by omega) (Nat.lt_succ_self _)
/-! X0_longestRow -/
theorem l14_10 {sh : zSh} {T MB : Nat} (F : zCl sh T MB) {r0 : Nat} (q0 : zAd sh T MB r0) {t : zSt} (hR : RS sh t) : ∀ (n : Nat) (x1 : Int) (x2 : Int) (x3 : Int) (o4 : Option zV) (wo4 : zisL o4 = false), (-2147483648 ≤ x1 ∧ x1 ≤ 2147483647) ∧ (-2147483648 ≤ x2 ∧ x2 ≤ 2147483647) ∧ (-2147483648 ≤ x3 ∧ x3 ≤ 2147483647) ∧ (0 ≤ x1 ∧ x1 ≤ 8) ∧ (0 ≤ x3) → (8 - x3).toNat < n → zok (zev zP 14 10 [some (zR r0), some (zI (oI x1)), some (zI (oI x2)), some (zI (oI x3)), o4] [] (sh, t)) (qI (fun x t' => t' = t ∧ (0 ≤ x ∧ x ≤ 8)) sh) := by
  intro n
  induction n with
  | zero => intro x1 x2 x3 o4 wo4 _ hm; omega
  | succ n ih =>
    intro x1 x2 x3 o4 wo4 hv hm
    have ha0 : (sk sh (sr sh r0 0)).2 = 8 := by rw [q0.2.2.1]
    try simp only [zput_s, zput_n, ti_g, oI_add, oI_sub, oI_mul]
    rw [b14_10 (o4 := o4) (wo4 := wo4)]
    try simp only [zput_s, zput_n, ti_g, oI_add, oI_sub, oI_mul]
    refine zok_ck ((q0).1) ?_
    refine zok_ck (by rw [(q0).2.2.1]; decide) ?_
    first | refine zok_le (by omega) (fun c2 => ?_) (fun c2 => ?_) | refine zok_if (fun c2 => ?_) (fun c2 => ?_)
    · first | exact qI_rt (by omega) (by omega) ⟨rfl, by omega⟩ | exact qI_nf ⟨rfl, by omega⟩
    · refine zok_ck ((q0).1) ?_
      refine zok_pI (s15 F (q0) (by omega) (by omega) (hR)) (fun y3 u3 p3 => ?_)
      try simp only [zput_s, zput_n, ti_g, oI_add, oI_sub, oI_mul]
      rw [b14_24 (o4 := o4) (wo4 := wo4)]
      try simp only [zput_s, zput_n, ti_g, oI_add, oI_sub, oI_mul]
      first | refine zok_le (by omega) (fun c5 => ?_) (fun c5 => ?_) | refine zok_if (fun c5 => ?_) (fun c5 => ?_)
      · try simp only [zput_s, zput_n, ti_g, oI_add, oI_sub, oI_mul]
        exact ih _ _ _ _ rfl (by omega) (by omega)
      · try simp only [zput_s, zput_n, ti_g, oI_add, oI_sub, oI_mul]
        exact ih _ _ _ _ rfl (by omega) (by omega)
theorem s14 {sh : zSh} {T MB : Nat} (F : zCl sh T MB) {r0 : Nat} (q0 : zAd sh T MB r0) {t : zSt} (hR : RS sh t) : zok (zcl zP 14 [zR r0] (sh, t)) (qI (fun x t' => t' = t ∧ (0 ≤ x ∧ x ≤ 8)) sh) := by
  have ha0 : (sk sh (sr sh r0 0)).2 = 8 := by rw [q0.2.2.1]
  rw [b14_0]
  try simp only [zput_s, zput_n, ti_g, oI_add, oI_sub, oI_mul]
  refine zok_ck ((q0).1) ?_
  refine zok_ck (by rw [(q0).2.2.1]; decide) ?_
  try simp only [zput_s, zput_n, ti_g, oI_add, oI_sub, oI_mul]
  exact l14_10 F q0 hR _ _ _ _ _ rfl (by omega) (Nat.lt_succ_self _)
/-! X0_addGroup -/
theorem l13_5 {sh : zSh} {T MB : Nat} (F : zCl sh T MB) {r0 : Nat} (q0 : zRw sh T MB r0) {x1 : Int} (u1 : -2147483648 ≤ x1 ∧ x1 ≤ 2147483647) {t0 : zSt} (hR : RS sh t0) : ∀ (n : Nat) (x2 : Int) (x3 : Int) (o4 : Option zV) (wo4 : zisL o4 = false) (t1 : zSt), FrC sh T MB t0 t1 → (-2147483648 ≤ x2 ∧ x2 ≤ 2147483647) ∧ (-2147483648 ≤ x3 ∧ x3 ≤ 2147483647) ∧ (-4 ≤ x3 ∧ x3 ≤ 12) → (x3 + 4).toNat < n → zok (zev zP 13 5 [some (zR r0), some (zI (oI x1)), some (zI (oI x2)), some (zI (oI x3)), o4] [] (sh, t1)) (zq0 (fun t' => FrC sh T MB t0 t' ∧ (True)) sh) := by
  intro n
  induction n with
  | zero => intro x2 x3 o4 wo4 t1 f0 _ hm; omega
  | succ n ih =>
    intro x2 x3 o4 wo4 t1 f0 hv hm
    have hz0 := RS_sz (f0.rs) q0.1
    try simp only [zput_s, zput_n, ti_g, oI_add, oI_sub, oI_mul]
    rw [b13_5 (o4 := o4) (wo4 := wo4)]
    try simp only [zput_s, zput_n, ti_g, oI_add, oI_sub, oI_mul]
    first | refine zok_lt (by omega) (fun c2 => ?_) (fun c2 => ?_) | refine zok_if (fun c2 => ?_) (fun c2 => ?_)
    · exact q0_rt ⟨f0, trivial⟩
    · first | refine zok_ne (by omega) (fun c3 => ?_) (fun c3 => ?_) | refine zok_if (fun c3 => ?_) (fun c3 => ?_)
      · first | refine zok_eq (by omega) (fun c4 => ?_) (fun c4 => ?_) | refine zok_if (fun c4 => ?_) (fun c4 => ?_)
        · obtain ⟨w5, wa5, wb5, we5⟩ := oI_nf (((oI x1) >>> ((oI x3) &&& 31)) &&& (oI 15))
          try simp only [zput_s, zput_n, ti_g, oI_add, oI_sub, oI_mul] at we5
          try rw [we5]
          simp only [zput_s, zput_n, ti_g, oI_add, oI_sub, oI_mul, b13_50]
          try simp only [zput_s, zput_n, ti_g, oI_add, oI_sub, oI_mul]
          try simp only [zput_s, zput_n, ti_g, oI_add, oI_sub, oI_mul]
          exact ih _ _ _ rfl _ (f0) (by omega) (by omega)
        · obtain ⟨w7, wa7, wb7, we7⟩ := oI_nf (((oI x1) >>> ((oI x3) &&& 31)) &&& (oI 15))
          try simp only [zput_s, zput_n, ti_g, oI_add, oI_sub, oI_mul] at we7
          try rw [we7]
          refine zok_pI (s91 (by omega) (by omega)) (fun y8 u8 p8 => ?_)
          simp only [zput_s, zput_n, ti_g, oI_add, oI_sub, oI_mul, b13_47]
          try simp only [zput_s, zput_n, ti_g, oI_add, oI_sub, oI_mul]
          refine zok_ck (((q0).1).1) ?_
          refine zok_c0 (s59 ((q0).1) (f0.rs)) (fun t10 p10 => ?_)
          obtain ⟨f10, p10⟩ := p10
          simp only [zput_s, zput_n, ti_g, oI_add, oI_sub, oI_mul, b13_50]
          try simp only [zput_s, zput_n, ti_g, oI_add, oI_sub, oI_mul]
          try simp only [zput_s, zput_n, ti_g, oI_add, oI_sub, oI_mul]
          exact ih _ _ _ rfl _ ((f0).trans ((f10).toC F (q0))) (by omega) (by omega)
      · first | refine zok_lt (by omega) (fun c12 => ?_) (fun c12 => ?_) | refine zok_if (fun c12 => ?_) (fun c12 => ?_)
        · first | refine zok_eq (by omega) (fun c13 => ?_) (fun c13 => ?_) | refine zok_if (fun c13 => ?_) (fun c13 => ?_)
          · obtain ⟨w14, wa14, wb14, we14⟩ := oI_nf (((oI x1) >>> ((oI x3) &&& 31)) &&& (oI 15))
            try simp only [zput_s, zput_n, ti_g, oI_add, oI_sub, oI_mul] at we14
            try rw [we14]
            simp only [zput_s, zput_n, ti_g, oI_add, oI_sub, oI_mul, b13_50]
            try simp only [zput_s, zput_n, ti_g, oI_add, oI_sub, oI_mul]
            try simp only [zput_s, zput_n, ti_g, oI_add, oI_sub, oI_mul]
            exact ih _ _ _ rfl _ (f0) (by omega) (by omega)
          · obtain ⟨w16, wa16, wb16, we16⟩ := oI_nf (((oI x1) >>> ((oI x3) &&& 31)) &&& (oI 15))
            try simp only [zput_s, zput_n, ti_g, oI_add, oI_sub, oI_mul] at we16
            try rw [we16]
            refine zok_pI (s91 (by omega) (by omega)) (fun y17 u17 p17 => ?_)
            simp only [zput_s, zput_n, ti_g, oI_add, oI_sub, oI_mul, b13_47]
            try simp only [zput_s, zput_n, ti_g, oI_add, oI_sub, oI_mul]
            refine zok_ck (((q0).1).1) ?_
            refine zok_c0 (s59 ((q0).1) (f0.rs)) (fun t19 p19 => ?_)
            obtain ⟨f19, p19⟩ := p19
            simp only [zput_s, zput_n, ti_g, oI_add, oI_sub, oI_mul, b13_50]
            try simp only [zput_s, zput_n, ti_g, oI_add, oI_sub, oI_mul]
            try simp only [zput_s, zput_n, ti_g, oI_add, oI_sub, oI_mul]
            exact ih _ _ _ rfl _ ((f0).trans ((f19).toC F (q0))) (by omega) (by omega)
        · first | refine zok_ne (by omega) (fun c21 => ?_) (fun c21 => ?_) | refine zok_if (fun c21 => ?_) (fun c21 => ?_)
          · obtain ⟨w22, wa22, wb22, we22⟩ := oI_nf (((oI x1) >>> ((oI x3) &&& 31)) &&& (oI 15))
            try simp only [zput_s, zput_n, ti_g, oI_add, oI_sub, oI_mul] at we22
            try rw [we22]
            simp only [zput_s, zput_n, ti_g, oI_add, oI_sub, oI_mul, b13_50]
            try simp only [zput_s, zput_n, ti_g, oI_add, oI_sub, oI_mul]
            try simp only [zput_s, zput_n, ti_g, oI_add, oI_sub, oI_mul]
            exact ih _ _ _ rfl _ (f0) (by omega) (by omega)
          · first | refine zok_eq (by omega) (fun c24 => ?_) (fun c24 => ?_) | refine zok_if (fun c24 => ?_) (fun c24 => ?_)
            · obtain ⟨w25, wa25, wb25, we25⟩ := oI_nf (((oI x1) >>> ((oI x3) &&& 31)) &&& (oI 15))
              try simp only [zput_s, zput_n, ti_g, oI_add, oI_sub, oI_mul] at we25
              try rw [we25]
              simp only [zput_s, zput_n, ti_g, oI_add, oI_sub, oI_mul, b13_50]
              try simp only [zput_s, zput_n, ti_g, oI_add, oI_sub, oI_mul]
              try simp only [zput_s, zput_n, ti_g, oI_add, oI_sub, oI_mul]
              exact ih _ _ _ rfl _ (f0) (by omega) (by omega)
            · obtain ⟨w27, wa27, wb27, we27⟩ := oI_nf (((oI x1) >>> ((oI x3) &&& 31)) &&& (oI 15))
              try simp only [zput_s, zput_n, ti_g, oI_add, oI_sub, oI_mul] at we27
              try rw [we27]
              refine zok_pI (s91 (by omega) (by omega)) (fun y28 u28 p28 => ?_)
              simp only [zput_s, zput_n, ti_g, oI_add, oI_sub, oI_mul, b13_47]
              try simp only [zput_s, zput_n, ti_g, oI_add, oI_sub, oI_mul]
              refine zok_ck (((q0).1).1) ?_
              refine zok_c0 (s59 ((q0).1) (f0.rs)) (fun t30 p30 => ?_)
              obtain ⟨f30, p30⟩ := p30
              simp only [zput_s, zput_n, ti_g, oI_add, oI_sub, oI_mul, b13_50]
              try simp only [zput_s, zput_n, ti_g, oI_add, oI_sub, oI_mul]
              try simp only [zput_s, zput_n, ti_g, oI_add, oI_sub, oI_mul]
              exact ih _ _ _ rfl _ ((f0).trans ((f30).toC F (q0))) (by omega) (by omega)
theorem s13 {sh : zSh} {T MB : Nat} (F : zCl sh T MB) {r0 : Nat} (q0 : zRw sh T MB r0) {x1 : Int} (u1 : -2147483648 ≤ x1 ∧ x1 ≤ 2147483647) {t : zSt} (hR : RS sh t) : zok (zcl zP 13 [zR r0, zI (oI x1)] (sh, t)) (zq0 (fun t' => FrC sh T MB t t' ∧ (True)) sh) := by
  have hz0 := RS_sz (hR) q0.1
  rw [b13_0]
  try simp only [zput_s, zput_n, ti_g, oI_add, oI_sub, oI_mul]
  try simp only [zput_s, zput_n, ti_g, oI_add, oI_sub, oI_mul]
  exact l13_5 F q0 (by omega) hR _ _ _ _ rfl _ (FrC.refl hR) (by omega) (Nat.lt_succ_self _)
/-! X0_rewriteSix -/
theorem l12_48 {sh : zSh} {T MB : Nat} (F : zCl sh T MB) {r0 : Nat} (q0 : zAd sh T MB r0) {r1 : Nat} (q1 : zRw sh T MB r1) {t0 : zSt} (hR : RS sh t0) : ∀ (n : Nat) (x2 : Int) (x3 : Int) (x4 : Int)  (t1 : zSt), FrC sh T MB t0 t1 → (-2147483648 ≤ x2 ∧ x2 ≤ 2147483647) ∧ (-2147483648 ≤ x3 ∧ x3 ≤ 2147483647) ∧ (-2147483648 ≤ x4 ∧ x4 ≤ 2147483647) ∧ (0 ≤ x4) ∧ (0 ≤ x2 ∧ x2 ≤ 8) ∧ (0 ≤ x3 ∧ x3 ≤ 16) → (8 - x4).toNat < n → zok (zev zP 12 48 [some (zR r0), some (zR r1), some (zI (oI x2)), some (zI (oI x3)), some (zI (oI x4))] [] (sh, t1)) (zq0 (fun t' => FrC sh T MB t0 t' ∧ (True)) sh) := by
  intro n
  induction n with
  | zero => intro x2 x3 x4  t1 f0 _ hm; omega
  | succ n ih =>
    intro x2 x3 x4  t1 f0 hv hm
    have ha0 : (sk sh (sr sh r0 0)).2 = 8 := by rw [q0.2.2.1]
    have hz1 := RS_sz (f0.rs) q1.1
    simp only [zput_s, zput_n, ti_g, oI_add, oI_sub, oI_mul, b12_48]
    try simp only [zput_s, zput_n, ti_g, oI_add, oI_sub, oI_mul]
    refine zok_ck ((q0).1) ?_
    refine zok_ck (by rw [(q0).2.2.1]; decide) ?_
    first | refine zok_le (by omega) (fun c2 => ?_) (fun c2 => ?_) | refine zok_if (fun c2 => ?_) (fun c2 => ?_)
    · refine zok_ck (((q1).1).1) ?_
      refine zok_c0 (s59 ((q1).1) (f0.rs)) (fun t3 p3 => ?_)
      obtain ⟨f3, p3⟩ := p3
      simp only [zput_s, zput_n, ti_g, oI_add, oI_sub, oI_mul, b12_124]
      try simp only [zput_s, zput_n, ti_g, oI_add, oI_sub, oI_mul]
      exact q0_rt ⟨(f0).trans ((f3).toC F (q1)), trivial⟩
    · first | refine zok_ne (by omega) (fun c5 => ?_) (fun c5 => ?_) | refine zok_if (fun c5 => ?_) (fun c5 => ?_)
      · first | refine zok_lt (by omega) (fun c6 => ?_) (fun c6 => ?_) | refine zok_if (fun c6 => ?_) (fun c6 => ?_)
        · first | refine zok_le (by omega) (fun c7 => ?_) (fun c7 => ?_) | refine zok_if (fun c7 => ?_) (fun c7 => ?_)
          · simp only [zput_s, zput_n, ti_g, oI_add, oI_sub, oI_mul, b12_102]
            try simp only [zput_s, zput_n, ti_g, oI_add, oI_sub, oI_mul]
            refine zok_ck ((q0).1) ?_
            refine zok_pI (s3 F (q0) (by omega) (f0.rs)) (fun y9 u9 p9 => ?_)
            simp only [zput_s, zput_n, ti_g, oI_add, oI_sub, oI_mul, b12_109]
            try simp only [zput_s, zput_n, ti_g, oI_add, oI_sub, oI_mul]
            refine zok_c0 (s13 F (q1) (by omega) (f0.rs)) (fun t11 p11 => ?_)
            obtain ⟨f11, p11⟩ := p11
            simp only [zput_s, zput_n, ti_g, oI_add, oI_sub, oI_mul, b12_112]
            try simp only [zput_s, zput_n, ti_g, oI_add, oI_sub, oI_mul]
            try simp only [zput_s, zput_n, ti_g, oI_add, oI_sub, oI_mul]
            exact ih _ _ _ _ ((f0).trans (f11)) (by omega) (by omega)
          · first | refine zok_eq (by omega) (fun c13 => ?_) (fun c13 => ?_) | refine zok_if (fun c13 => ?_) (fun c13 => ?_)
            · simp only [zput_s, zput_n, ti_g, oI_add, oI_sub, oI_mul, b12_102]
              try simp only [zput_s, zput_n, ti_g, oI_add, oI_sub, oI_mul]
              refine zok_ck ((q0).1) ?_
              refine zok_pI (s3 F (q0) (by omega) (f0.rs)) (fun y15 u15 p15 => ?_)
              simp only [zput_s, zput_n, ti_g, oI_add, oI_sub, oI_mul, b12_109]
              try simp only [zput_s, zput_n, ti_g, oI_add, oI_sub, oI_mul]
              refine zok_c0 (s13 F (q1) (by omega) (f0.rs)) (fun t17 p17 => ?_)
              obtain ⟨f17, p17⟩ := p17
              simp only [zput_s, zput_n, ti_g, oI_add, oI_sub, oI_mul, b12_112]
              try simp only [zput_s, zput_n, ti_g, oI_add, oI_sub, oI_mul]
              try simp only [zput_s, zput_n, ti_g, oI_add, oI_sub, oI_mul]
              exact ih _ _ _ _ ((f0).trans (f17)) (by omega) (by omega)
            · refine zok_ck (((q1).1).1) ?_
              refine zok_c0 (s59 ((q1).1) (f0.rs)) (fun t19 p19 => ?_)
              obtain ⟨f19, p19⟩ := p19
              simp only [zput_s, zput_n, ti_g, oI_add, oI_sub, oI_mul, b12_102]
              try simp only [zput_s, zput_n, ti_g, oI_add, oI_sub, oI_mul]
              refine zok_ck ((q0).1) ?_
              refine zok_pI (s3 F (q0) (by omega) (((f0).trans ((f19).toC F (q1))).rs)) (fun y21 u21 p21 => ?_)
              simp only [zput_s, zput_n, ti_g, oI_add, oI_sub, oI_mul, b12_109]
              try simp only [zput_s, zput_n, ti_g, oI_add, oI_sub, oI_mul]
              refine zok_c0 (s13 F (q1) (by omega) (((f0).trans ((f19).toC F (q1))).rs)) (fun t23 p23 => ?_)
              obtain ⟨f23, p23⟩ := p23
              simp only [zput_s, zput_n, ti_g, oI_add, oI_sub, oI_mul, b12_112]
              try simp only [zput_s, zput_n, ti_g, oI_add, oI_sub, oI_mul]
              try simp only [zput_s, zput_n, ti_g, oI_add, oI_sub, oI_mul]
              exact ih _ _ _ _ (((f0).trans ((f19).toC F (q1))).trans (f23)) (by omega) (by omega)
        · first | refine zok_lt (by omega) (fun c25 => ?_) (fun c25 => ?_) | refine zok_if (fun c25 => ?_) (fun c25 => ?_)
          · simp only [zput_s, zput_n, ti_g, oI_add, oI_sub, oI_mul, b12_112]
            try simp only [zput_s, zput_n, ti_g, oI_add, oI_sub, oI_mul]
            try simp only [zput_s, zput_n, ti_g, oI_add, oI_sub, oI_mul]
            exact ih _ _ _ _ (f0) (by omega) (by omega)
          · first | refine zok_le (by omega) (fun c27 => ?_) (fun c27 => ?_) | refine zok_if (fun c27 => ?_) (fun c27 => ?_)
            · simp only [zput_s, zput_n, ti_g, oI_add, oI_sub, oI_mul, b12_102]
              try simp only [zput_s, zput_n, ti_g, oI_add, oI_sub, oI_mul]
              refine zok_ck ((q0).1) ?_
              refine zok_pI (s3 F (q0) (by omega) (f0.rs)) (fun y29 u29 p29 => ?_)
              simp only [zput_s, zput_n, ti_g, oI_add, oI_sub, oI_mul, b12_109]
              try simp only [zput_s, zput_n, ti_g, oI_add, oI_sub, oI_mul]
              refine zok_c0 (s13 F (q1) (by omega) (f0.rs)) (fun t31 p31 => ?_)
              obtain ⟨f31, p31⟩ := p31
              simp only [zput_s, zput_n, ti_g, oI_add, oI_sub, oI_mul, b12_112]
              try simp only [zput_s, zput_n, ti_g, oI_add, oI_sub, oI_mul]
              try simp only [zput_s, zput_n, ti_g, oI_add, oI_sub, oI_mul]
              exact ih _ _ _ _ ((f0).trans (f31)) (by omega) (by omega)
            · first | refine zok_eq (by omega) (fun c33 => ?_) (fun c33 => ?_) | refine zok_if (fun c33 => ?_) (fun c33 => ?_)
              · simp only [zput_s, zput_n, ti_g, oI_add, oI_sub, oI_mul, b12_102]
                try simp only [zput_s, zput_n, ti_g, oI_add, oI_sub, oI_mul]
                refine zok_ck ((q0).1) ?_
                refine zok_pI (s3 F (q0) (by omega) (f0.rs)) (fun y35 u35 p35 => ?_)
                simp only [zput_s, zput_n, ti_g, oI_add, oI_sub, oI_mul, b12_109]
                try simp only [zput_s, zput_n, ti_g, oI_add, oI_sub, oI_mul]
                refine zok_c0 (s13 F (q1) (by omega) (f0.rs)) (fun t37 p37 => ?_)
                obtain ⟨f37, p37⟩ := p37
                simp only [zput_s, zput_n, ti_g, oI_add, oI_sub, oI_mul, b12_112]
                try simp only [zput_s, zput_n, ti_g, oI_add, oI_sub, oI_mul]
                try simp only [zput_s, zput_n, ti_g, oI_add, oI_sub, oI_mul]
                exact ih _ _ _ _ ((f0).trans (f37)) (by omega) (by omega)
              · refine zok_ck (((q1).1).1) ?_
                refine zok_c0 (s59 ((q1).1) (f0.rs)) (fun t39 p39 => ?_)
                obtain ⟨f39, p39⟩ := p39
                simp only [zput_s, zput_n, ti_g, oI_add, oI_sub, oI_mul, b12_102]
                try simp only [zput_s, zput_n, ti_g, oI_add, oI_sub, oI_mul]
                refine zok_ck ((q0).1) ?_
                refine zok_pI (s3 F (q0) (by omega) (((f0).trans ((f39).toC F (q1))).rs)) (fun y41 u41 p41 => ?_)
                simp only [zput_s, zput_n, ti_g, oI_add, oI_sub, oI_mul, b12_109]
                try simp only [zput_s, zput_n, ti_g, oI_add, oI_sub, oI_mul]
                refine zok_c0 (s13 F (q1) (by omega) (((f0).trans ((f39).toC F (q1))).rs)) (fun t43 p43 => ?_)
                obtain ⟨f43, p43⟩ := p43
                simp only [zput_s, zput_n, ti_g, oI_add, oI_sub, oI_mul, b12_112]
                try simp only [zput_s, zput_n, ti_g, oI_add, oI_sub, oI_mul]
                try simp only [zput_s, zput_n, ti_g, oI_add, oI_sub, oI_mul]
                exact ih _ _ _ _ (((f0).trans ((f39).toC F (q1))).trans (f43)) (by omega) (by omega)
      · refine zok_ck (((q1).1).1) ?_
        refine zok_c0 (s60 ((q1).1) ⟨Nat.le_of_ble_eq_true rfl, Nat.le_of_ble_eq_true rfl⟩ (f0.rs)) (fun t45 p45 => ?_)
        obtain ⟨f45, p45⟩ := p45
        simp only [zput_s, zput_n, ti_g, oI_add, oI_sub, oI_mul, b12_70]
        try simp only [zput_s, zput_n, ti_g, oI_add, oI_sub, oI_mul]
        simp only [zput_s, zput_n, ti_g, oI_add, oI_sub, oI_mul, b12_112]
        try simp only [zput_s, zput_n, ti_g, oI_add, oI_sub, oI_mul]
        try simp only [zput_s, zput_n, ti_g, oI_add, oI_sub, oI_mul]
        exact ih _ _ _ _ ((f0).trans ((f45).toC F (q1))) (by omega) (by omega)
theorem s12 {sh : zSh} {T MB : Nat} (F : zCl sh T MB) {r0 : Nat} (q0 : zAd sh T MB r0) {r1 : Nat} (q1 : zRw sh T MB r1) {t : zSt} (hR : RS sh t) : zok (zcl zP 12 [zR r0, zR r1] (sh, t)) (zq0 (fun t' => FrC sh T MB t t' ∧ (True)) sh) := by
  have ha0 : (sk sh (sr sh r0 0)).2 = 8 := by rw [q0.2.2.1]
  have hz1 := RS_sz (hR) q1.1
  rw [b12_0]
  try simp only [zput_s, zput_n, ti_g, oI_add, oI_sub, oI_mul]
  refine zok_ck (((q1).1).1) ?_
  refine zok_pI (s57 ((q1).1) (by omega) (hR)) (fun y49 u49 p49 => ?_)
  have g50_1 := RS_sz (hR) ((q1).1)
  simp only [zput_s, zput_n, ti_g, oI_add, oI_sub, oI_mul, b12_5]
  try simp only [zput_s, zput_n, ti_g, oI_add, oI_sub, oI_mul]
  first | refine zok_ne (by omega) (fun c51 => ?_) (fun c51 => ?_) | refine zok_if (fun c51 => ?_) (fun c51 => ?_)
  · exact q0_rt ⟨FrC.refl hR, trivial⟩
  · refine zok_ck (((q1).1).1) ?_
    refine zok_ck ((q0).1) ?_
    refine zok_cI (s8 F (q0) (q1) (by omega) (by omega) (by omega) (by omega) (hR)) (fun y52 t52 u52 p52 => ?_)
    obtain ⟨f52, p52⟩ := p52
    simp only [zput_s, zput_n, ti_g, oI_add, oI_sub, oI_mul, b12_22]
    try simp only [zput_s, zput_n, ti_g, oI_add, oI_sub, oI_mul]
    first | refine zok_ne (by omega) (fun c54 => ?_) (fun c54 => ?_) | refine zok_if (fun c54 => ?_) (fun c54 => ?_)
    · refine zok_ck ((q0).1) ?_
      refine zok_pI (s14 F (q0) ((f52).rs)) (fun y55 u55 p55 => ?_)
      simp only [zput_s, zput_n, ti_g, oI_add, oI_sub, oI_mul, b12_30]
      try simp only [zput_s, zput_n, ti_g, oI_add, oI_sub, oI_mul]
      refine zok_ck ((q0).1) ?_
      refine zok_pI (s15 F (q0) (by omega) (by omega) ((f52).rs)) (fun y57 u57 p57 => ?_)
      simp only [zput_s, zput_n, ti_g, oI_add, oI_sub, oI_mul, b12_37]
      try simp only [zput_s, zput_n, ti_g, oI_add, oI_sub, oI_mul]
      refine zok_ck (((q1).1).1) ?_
      refine zok_c0 (s65 ((q1).1) ⟨Nat.le_of_ble_eq_true rfl, Nat.le_of_ble_eq_true rfl⟩ ((f52).rs)) (fun t59 p59 => ?_)
      obtain ⟨f59, p59⟩ := p59
      simp only [zput_s, zput_n, ti_g, oI_add, oI_sub, oI_mul, b12_45]
      try simp only [zput_s, zput_n, ti_g, oI_add, oI_sub, oI_mul]
      try simp only [zput_s, zput_n, ti_g, oI_add, oI_sub, oI_mul]
      exact l12_48 F q0 q1 hR _ _ _ _ _ ((f52).trans ((f59).toC F (q1))) (by omega) (Nat.lt_succ_self _)
    · exact q0_rt ⟨f52, trivial⟩
/-! X2_row -/
theorem s22 {sh : zSh} {T MB : Nat} (F : zCl sh T MB) {r0 : Nat} (q0 : zPt sh T MB r0) {x1 : Int} (u1 : -2147483648 ≤ x1 ∧ x1 ≤ 2147483647) {t : zSt} (hR : RS sh t) : zok (zcl zP 22 [zR r0, zI (oI x1)] (sh, t)) (qR (fun x t' => t' = t ∧ (zRw sh T MB x)) sh) := by
  rw [b22_0]
  try simp only [zput_s, zput_n, ti_g, oI_add, oI_sub, oI_mul]
  simp only [zput_s, zput_n, ti_g, oI_add, oI_sub, oI_mul, b22_1]
  try simp only [zput_s, zput_n, ti_g, oI_add, oI_sub, oI_mul]
  first | refine zok_eq (by omega) (fun c3 => ?_) (fun c3 => ?_) | refine zok_if (fun c3 => ?_) (fun c3 => ?_)
  · refine zok_ck ((q0).1) ?_
    exact qR_rt ⟨rfl, q0.2 0 (by decide)⟩
  · first | refine zok_eq (by omega) (fun c4 => ?_) (fun c4 => ?_) | refine zok_if (fun c4 => ?_) (fun c4 => ?_)
    · refine zok_ck ((q0).1) ?_
      exact qR_rt ⟨rfl, q0.2 1 (by decide)⟩
    · first | refine zok_eq (by omega) (fun c5 => ?_) (fun c5 => ?_) | refine zok_if (fun c5 => ?_) (fun c5 => ?_)
      · refine zok_ck ((q0).1) ?_
        exact qR_rt ⟨rfl, q0.2 2 (by decide)⟩
      · first | refine zok_eq (by omega) (fun c6 => ?_) (fun c6 => ?_) | refine zok_if (fun c6 => ?_) (fun c6 => ?_)
        · refine zok_ck ((q0).1) ?_
          exact qR_rt ⟨rfl, q0.2 3 (by decide)⟩
        · first | refine zok_eq (by omega) (fun c7 => ?_) (fun c7 => ?_) | refine zok_if (fun c7 => ?_) (fun c7 => ?_)
          · refine zok_ck ((q0).1) ?_
            exact qR_rt ⟨rfl, q0.2 4 (by decide)⟩
          · first | refine zok_eq (by omega) (fun c8 => ?_) (fun c8 => ?_) | refine zok_if (fun c8 => ?_) (fun c8 => ?_)
            · refine zok_ck ((q0).1) ?_
              exact qR_rt ⟨rfl, q0.2 5 (by decide)⟩
            · refine zok_ck ((q0).1) ?_
              exact qR_rt ⟨rfl, q0.2 6 (by decide)⟩
/-! X2_clear -/
theorem l23_2 {sh : zSh} {T MB : Nat} (F : zCl sh T MB) {r0 : Nat} (q0 : zPt sh T MB r0) {t0 : zSt} (hR : RS sh t0) : ∀ (n : Nat) (x1 : Int)  (t1 : zSt), FrC sh T MB t0 t1 → (-2147483648 ≤ x1 ∧ x1 ≤ 2147483647) ∧ (0 ≤ x1) → (7 - x1).toNat < n → zok (zev zP 23 2 [some (zR r0), some (zI (oI x1))] [] (sh, t1)) (zq0 (fun t' => FrC sh T MB t0 t' ∧ (True)) sh) := by
  intro n
  induction n with
  | zero => intro x1  t1 f0 _ hm; omega
  | succ n ih =>
    intro x1  t1 f0 hv hm
    simp only [zput_s, zput_n, ti_g, oI_add, oI_sub, oI_mul, b23_2]
    try simp only [zput_s, zput_n, ti_g, oI_add, oI_sub, oI_mul]
    first | refine zok_le (by omega) (fun c2 => ?_) (fun c2 => ?_) | refine zok_if (fun c2 => ?_) (fun c2 => ?_)
    · refine zok_ck ((q0).1) ?_
      refine zok_ck (by first | exact ⟨((q0.2 4 (by decide)).1).1, fun _ => Or.inr rfl⟩ | exact ⟨((q0.2 4 (by decide)).1).1, Or.inr rfl⟩ | exact ((q0.2 4 (by decide)).1).1) ?_
      exact q0_rt ⟨(f0).trans ((FrR_I (f0.rs) ((q0.2 4 (by decide)).1) (by omega) (by omega) ⟨(fun e => by first | omega | cases e), (fun e => by first | omega | cases e)⟩).toC F (q0.2 4 (by decide))), trivial⟩
    · refine zok_ck ((q0).1) ?_
      refine zok_pR (s22 F (q0) (by omega) (f0.rs)) (fun y4 p4 => ?_)
      simp only [zput_s, zput_n, ti_g, oI_add, oI_sub, oI_mul, b23_13]
      try simp only [zput_s, zput_n, ti_g, oI_add, oI_sub, oI_mul]
      refine zok_ck (((p4).1).1) ?_
      refine zok_c0 (s62 ((p4).1) (f0.rs)) (fun t6 p6 => ?_)
      obtain ⟨f6, p6⟩ := p6
      simp only [zput_s, zput_n, ti_g, oI_add, oI_sub, oI_mul, b23_16]
      try simp only [zput_s, zput_n, ti_g, oI_add, oI_sub, oI_mul]
      try simp only [zput_s, zput_n, ti_g, oI_add, oI_sub, oI_mul]
      exact ih _ _ ((f0).trans ((f6).toC F (p4))) (by omega) (by omega)
theorem s23 {sh : zSh} {T MB : Nat} (F : zCl sh T MB) {r0 : Nat} (q0 : zPt sh T MB r0) {t : zSt} (hR : RS sh t) : zok (zcl zP 23 [zR r0] (sh, t)) (zq0 (fun t' => FrC sh T MB t t' ∧ (True)) sh) := by
  rw [b23_0]
  try simp only [zput_s, zput_n, ti_g, oI_add, oI_sub, oI_mul]
  try simp only [zput_s, zput_n, ti_g, oI_add, oI_sub, oI_mul]
  exact l23_2 F q0 hR _ _ _ (FrC.refl hR) (by omega) (Nat.lt_succ_self _)
/-! X2_copy -/
theorem l24_2 {sh : zSh} {T MB : Nat} (F : zCl sh T MB) {r0 : Nat} (q0 : zPt sh T MB r0) {r1 : Nat} (q1 : zPt sh T MB r1) {t0 : zSt} (hR : RS sh t0) : ∀ (n : Nat) (x2 : Int)  (t1 : zSt), FrC sh T MB t0 t1 → (-2147483648 ≤ x2 ∧ x2 ≤ 2147483647) ∧ (0 ≤ x2) → (7 - x2).toNat < n → zok (zev zP 24 2 [some (zR r0), some (zR r1), some (zI (oI x2))] [] (sh, t1)) (zq0 (fun t' => FrC sh T MB t0 t' ∧ (True)) sh) := by
  intro n
  induction n with
  | zero => intro x2  t1 f0 _ hm; omega
  | succ n ih =>
    intro x2  t1 f0 hv hm
    simp only [zput_s, zput_n, ti_g, oI_add, oI_sub, oI_mul, b24_2]
    try simp only [zput_s, zput_n, ti_g, oI_add, oI_sub, oI_mul]
    first | refine zok_le (by omega) (fun c2 => ?_) (fun c2 => ?_) | refine zok_if (fun c2 => ?_) (fun c2 => ?_)
    · exact q0_rt ⟨f0, trivial⟩
    · refine zok_ck ((q0).1) ?_
      refine zok_pR (s22 F (q0) (by omega) (f0.rs)) (fun y3 p3 => ?_)
      simp only [zput_s, zput_n, ti_g, oI_add, oI_sub, oI_mul, b24_13]
      try simp only [zput_s, zput_n, ti_g, oI_add, oI_sub, oI_mul]
      refine zok_ck ((q1).1) ?_
      refine zok_pR (s22 F (q1) (by omega) (f0.rs)) (fun y5 p5 => ?_)
      simp only [zput_s, zput_n, ti_g, oI_add, oI_sub, oI_mul, b24_18]
      try simp only [zput_s, zput_n, ti_g, oI_add, oI_sub, oI_mul]
      refine zok_ck (((p3).1).1) ?_
      refine zok_c0 (s64 ((p3).1) ((p5).1) (f0.rs)) (fun t7 p7 => ?_)
      obtain ⟨f7, p7⟩ := p7
      simp only [zput_s, zput_n, ti_g, oI_add, oI_sub, oI_mul, b24_21]
      try simp only [zput_s, zput_n, ti_g, oI_add, oI_sub, oI_mul]
      try simp only [zput_s, zput_n, ti_g, oI_add, oI_sub, oI_mul]
      exact ih _ _ ((f0).trans ((f7).toC F (p3))) (by omega) (by omega)
theorem s24 {sh : zSh} {T MB : Nat} (F : zCl sh T MB) {r0 : Nat} (q0 : zPt sh T MB r0) {r1 : Nat} (q1 : zPt sh T MB r1) {t : zSt} (hR : RS sh t) : zok (zcl zP 24 [zR r0, zR r1] (sh, t)) (zq0 (fun t' => FrC sh T MB t t' ∧ (True)) sh) := by
  rw [b24_0]
  try simp only [zput_s, zput_n, ti_g, oI_add, oI_sub, oI_mul]
  try simp only [zput_s, zput_n, ti_g, oI_add, oI_sub, oI_mul]
  exact l24_2 F q0 q1 hR _ _ _ (FrC.refl hR) (by omega) (Nat.lt_succ_self _)
/-! X2_copyAuthority -/
theorem s25 {sh : zSh} {T MB : Nat} (F : zCl sh T MB) {r0 : Nat} (q0 : zPt sh T MB r0) {r1 : Nat} (q1 : zPt sh T MB r1) {t : zSt} (hR : RS sh t) : zok (zcl zP 25 [zR r0, zR r1] (sh, t)) (zq0 (fun t' => FrC sh T MB t t' ∧ (True)) sh) := by
  rw [b25_0]
  try simp only [zput_s, zput_n, ti_g, oI_add, oI_sub, oI_mul]
  refine zok_ck ((q0).1) ?_
  refine zok_ck ((q1).1) ?_
  refine zok_ck (((q0.2 1 (by decide)).1).1) ?_
  refine zok_c0 (s64 ((q0.2 1 (by decide)).1) ((q1.2 1 (by decide)).1) (hR)) (fun t2 p2 => ?_)
  obtain ⟨f2, p2⟩ := p2
  simp only [zput_s, zput_n, ti_g, oI_add, oI_sub, oI_mul, b25_11]
  try simp only [zput_s, zput_n, ti_g, oI_add, oI_sub, oI_mul]
  refine zok_ck ((q0).1) ?_
  refine zok_ck ((q1).1) ?_
  refine zok_ck (((q0.2 2 (by decide)).1).1) ?_
  refine zok_c0 (s64 ((q0.2 2 (by decide)).1) ((q1.2 2 (by decide)).1) (((f2).toC F (q0.2 1 (by decide))).rs)) (fun t4 p4 => ?_)
  obtain ⟨f4, p4⟩ := p4
  simp only [zput_s, zput_n, ti_g, oI_add, oI_sub, oI_mul, b25_22]
  try simp only [zput_s, zput_n, ti_g, oI_add, oI_sub, oI_mul]
  refine zok_ck ((q0).1) ?_
  refine zok_ck ((q1).1) ?_
  refine zok_ck (((q0.2 3 (by decide)).1).1) ?_
  refine zok_c0 (s64 ((q0.2 3 (by decide)).1) ((q1.2 3 (by decide)).1) ((((f2).toC F (q0.2 1 (by decide))).trans ((f4).toC F (q0.2 2 (by decide)))).rs)) (fun t6 p6 => ?_)
  obtain ⟨f6, p6⟩ := p6
  simp only [zput_s, zput_n, ti_g, oI_add, oI_sub, oI_mul, b25_33]
  try simp only [zput_s, zput_n, ti_g, oI_add, oI_sub, oI_mul]
  exact q0_rt ⟨(((f2).toC F (q0.2 1 (by decide))).trans ((f4).toC F (q0.2 2 (by decide)))).trans ((f6).toC F (q0.2 3 (by decide))), trivial⟩
/-! X2_matches -/
theorem l26_2 {sh : zSh} {T MB : Nat} (F : zCl sh T MB) {r0 : Nat} (q0 : zPt sh T MB r0) {r1 : Nat} (q1 : zPt sh T MB r1) {t : zSt} (hR : RS sh t) : ∀ (n : Nat) (x2 : Int) , (-2147483648 ≤ x2 ∧ x2 ≤ 2147483647) ∧ (0 ≤ x2) → (7 - x2).toNat < n → zok (zev zP 26 2 [some (zR r0), some (zR r1), some (zI (oI x2))] [] (sh, t)) (qI (fun x t' => t' = t ∧ (x = 0 ∨ x = 1)) sh) := by
  intro n
  induction n with
  | zero => intro x2  _ hm; omega
  | succ n ih =>
    intro x2  hv hm
    simp only [zput_s, zput_n, ti_g, oI_add, oI_sub, oI_mul, b26_2]
    try simp only [zput_s, zput_n, ti_g, oI_add, oI_sub, oI_mul]
    first | refine zok_le (by omega) (fun c2 => ?_) (fun c2 => ?_) | refine zok_if (fun c2 => ?_) (fun c2 => ?_)
    · first | exact qI_rt (by omega) (by omega) ⟨rfl, by omega⟩ | exact qI_nf ⟨rfl, by omega⟩
    · refine zok_ck ((q0).1) ?_
      refine zok_pR (s22 F (q0) (by omega) (hR)) (fun y3 p3 => ?_)
      simp only [zput_s, zput_n, ti_g, oI_add, oI_sub, oI_mul, b26_13]
      try simp only [zput_s, zput_n, ti_g, oI_add, oI_sub, oI_mul]
      refine zok_ck ((q1).1) ?_
      refine zok_pR (s22 F (q1) (by omega) (hR)) (fun y5 p5 => ?_)
      simp only [zput_s, zput_n, ti_g, oI_add, oI_sub, oI_mul, b26_18]
      try simp only [zput_s, zput_n, ti_g, oI_add, oI_sub, oI_mul]
      refine zok_ck (((p3).1).1) ?_
      refine zok_pI (s66 ((p3).1) ((p5).1) (hR)) (fun y7 u7 p7 => ?_)
      simp only [zput_s, zput_n, ti_g, oI_add, oI_sub, oI_mul, b26_21]
      try simp only [zput_s, zput_n, ti_g, oI_add, oI_sub, oI_mul]
      first | refine zok_ne (by omega) (fun c9 => ?_) (fun c9 => ?_) | refine zok_if (fun c9 => ?_) (fun c9 => ?_)
      · try simp only [zput_s, zput_n, ti_g, oI_add, oI_sub, oI_mul]
        exact ih _ (by omega) (by omega)
      · first | exact qI_rt (by omega) (by omega) ⟨rfl, by omega⟩ | exact qI_nf ⟨rfl, by omega⟩
theorem s26 {sh : zSh} {T MB : Nat} (F : zCl sh T MB) {r0 : Nat} (q0 : zPt sh T MB r0) {r1 : Nat} (q1 : zPt sh T MB r1) {t : zSt} (hR : RS sh t) : zok (zcl zP 26 [zR r0, zR r1] (sh, t)) (qI (fun x t' => t' = t ∧ (x = 0 ∨ x = 1)) sh) := by
  rw [b26_0]
  try simp only [zput_s, zput_n, ti_g, oI_add, oI_sub, oI_mul]
  try simp only [zput_s, zput_n, ti_g, oI_add, oI_sub, oI_mul]
  exact l26_2 F q0 q1 hR _ _ (by omega) (Nat.lt_succ_self _)
/-! X2_length -/
theorem l27_18 {sh : zSh} {T MB : Nat} (F : zCl sh T MB) {r0 : Nat} (q0 : zPt sh T MB r0) {t : zSt} (hR : RS sh t) : ∀ (n : Nat) (x1 : Int) (x2 : Int) (o3 : Option zV) (o4 : Option zV) (wo3 : zisL o3 = false) (wo4 : zisL o4 = false), (-2147483648 ≤ x1 ∧ x1 ≤ 2147483647) ∧ (-2147483648 ≤ x2 ∧ x2 ≤ 2147483647) ∧ (0 ≤ x2 ∧ x2 ≤ 7) ∧ (0 ≤ x1 ∧ x1 ≤ 2 + 100001 * x2) → (7 - x2).toNat < n → zok (zev zP 27 18 [some (zR r0), some (zI (oI x1)), some (zI (oI x2)), o3, o4] [] (sh, t)) (qI (fun x t' => t' = t ∧ (0 ≤ x ∧ x ≤ 1000000)) sh) := by
  intro n
  induction n with
  | zero => intro x1 x2 o3 o4 wo3 wo4 _ hm; omega
  | succ n ih =>
    intro x1 x2 o3 o4 wo3 wo4 hv hm
    try simp only [zput_s, zput_n, ti_g, oI_add, oI_sub, oI_mul]
    rw [b27_18 (o3 := o3) (wo3 := wo3) (o4 := o4) (wo4 := wo4)]
    try simp only [zput_s, zput_n, ti_g, oI_add, oI_sub, oI_mul]
    first | refine zok_le (by omega) (fun c2 => ?_) (fun c2 => ?_) | refine zok_if (fun c2 => ?_) (fun c2 => ?_)
    · first | exact qI_rt (by omega) (by omega) ⟨rfl, by omega⟩ | exact qI_nf ⟨rfl, by omega⟩
    · refine zok_ck ((q0).1) ?_
      refine zok_pR (s22 F (q0) (by omega) (hR)) (fun y3 p3 => ?_)
      have g4_1 := RS_sz (hR) ((p3).1)
      try simp only [zput_s, zput_n, ti_g, oI_add, oI_sub, oI_mul]
      rw [b27_29 (o3 := o3) (wo3 := wo3) (o4 := o4) (wo4 := wo4)]
      try simp only [zput_s, zput_n, ti_g, oI_add, oI_sub, oI_mul]
      first | refine zok_eq (by omega) (fun c5 => ?_) (fun c5 => ?_) | refine zok_if (fun c5 => ?_) (fun c5 => ?_)
      · try simp only [zput_s, zput_n, ti_g, oI_add, oI_sub, oI_mul]
        rw [b27_51 (o4 := o4) (wo4 := wo4)]
        try simp only [zput_s, zput_n, ti_g, oI_add, oI_sub, oI_mul]
        have g7_1 := RS_sz (hR) ((p3).1)
        try simp only [zput_s, zput_n, ti_g, oI_add, oI_sub, oI_mul]
        rw [b27_52 (o4 := o4) (wo4 := wo4)]
        try simp only [zput_s, zput_n, ti_g, oI_add, oI_sub, oI_mul]
        refine zok_ck (((p3).1).1) ?_
        simp only [zput_s, zput_n, ti_g, oI_add, oI_sub, oI_mul, b27_69]
        try simp only [zput_s, zput_n, ti_g, oI_add, oI_sub, oI_mul]
        try simp only [zput_s, zput_n, ti_g, oI_add, oI_sub, oI_mul]
        exact ih _ _ _ _ rfl rfl (by omega) (by omega)
      · first | refine zok_eq (by omega) (fun c9 => ?_) (fun c9 => ?_) | refine zok_if (fun c9 => ?_) (fun c9 => ?_)
        · try simp only [zput_s, zput_n, ti_g, oI_add, oI_sub, oI_mul]
          rw [b27_51 (o4 := o4) (wo4 := wo4)]
          try simp only [zput_s, zput_n, ti_g, oI_add, oI_sub, oI_mul]
          have g11_1 := RS_sz (hR) ((p3).1)
          try simp only [zput_s, zput_n, ti_g, oI_add, oI_sub, oI_mul]
          rw [b27_52 (o4 := o4) (wo4 := wo4)]
          try simp only [zput_s, zput_n, ti_g, oI_add, oI_sub, oI_mul]
          refine zok_ck (((p3).1).1) ?_
          simp only [zput_s, zput_n, ti_g, oI_add, oI_sub, oI_mul, b27_69]
          try simp only [zput_s, zput_n, ti_g, oI_add, oI_sub, oI_mul]
          try simp only [zput_s, zput_n, ti_g, oI_add, oI_sub, oI_mul]
          exact ih _ _ _ _ rfl rfl (by omega) (by omega)
        · refine zok_ck (((p3).1).1) ?_
          first | refine zok_eq (by omega) (fun c13 => ?_) (fun c13 => ?_) | refine zok_if (fun c13 => ?_) (fun c13 => ?_)
          · try simp only [zput_s, zput_n, ti_g, oI_add, oI_sub, oI_mul]
            rw [b27_51 (o4 := o4) (wo4 := wo4)]
            try simp only [zput_s, zput_n, ti_g, oI_add, oI_sub, oI_mul]
            have g15_1 := RS_sz (hR) ((p3).1)
            try simp only [zput_s, zput_n, ti_g, oI_add, oI_sub, oI_mul]
            rw [b27_52 (o4 := o4) (wo4 := wo4)]
            try simp only [zput_s, zput_n, ti_g, oI_add, oI_sub, oI_mul]
            refine zok_ck (((p3).1).1) ?_
            simp only [zput_s, zput_n, ti_g, oI_add, oI_sub, oI_mul, b27_69]
            try simp only [zput_s, zput_n, ti_g, oI_add, oI_sub, oI_mul]
            try simp only [zput_s, zput_n, ti_g, oI_add, oI_sub, oI_mul]
            exact ih _ _ _ _ rfl rfl (by omega) (by omega)
          · have g17_1 := RS_sz (hR) ((p3).1)
            try simp only [zput_s, zput_n, ti_g, oI_add, oI_sub, oI_mul]
            rw [b27_52 (o4 := o4) (wo4 := wo4)]
            try simp only [zput_s, zput_n, ti_g, oI_add, oI_sub, oI_mul]
            refine zok_ck (((p3).1).1) ?_
            first | refine zok_eq (by omega) (fun c18 => ?_) (fun c18 => ?_) | refine zok_if (fun c18 => ?_) (fun c18 => ?_)
            · simp only [zput_s, zput_n, ti_g, oI_add, oI_sub, oI_mul, b27_69]
              try simp only [zput_s, zput_n, ti_g, oI_add, oI_sub, oI_mul]
              try simp only [zput_s, zput_n, ti_g, oI_add, oI_sub, oI_mul]
              exact ih _ _ _ _ rfl rfl (by omega) (by omega)
            · simp only [zput_s, zput_n, ti_g, oI_add, oI_sub, oI_mul, b27_69]
              try simp only [zput_s, zput_n, ti_g, oI_add, oI_sub, oI_mul]
              try simp only [zput_s, zput_n, ti_g, oI_add, oI_sub, oI_mul]
              exact ih _ _ _ _ rfl rfl (by omega) (by omega)
theorem s27 {sh : zSh} {T MB : Nat} (F : zCl sh T MB) {r0 : Nat} (q0 : zPt sh T MB r0) {t : zSt} (hR : RS sh t) : zok (zcl zP 27 [zR r0] (sh, t)) (qI (fun x t' => t' = t ∧ (0 ≤ x ∧ x ≤ 1000000)) sh) := by
  have g21_1 := RS_sz (hR) ((q0.2 2 (by decide)).1)
  rw [b27_0]
  try simp only [zput_s, zput_n, ti_g, oI_add, oI_sub, oI_mul]
  refine zok_ck ((q0).1) ?_
  refine zok_ck (((q0.2 2 (by decide)).1).1) ?_
  first | refine zok_eq (by omega) (fun c22 => ?_) (fun c22 => ?_) | refine zok_if (fun c22 => ?_) (fun c22 => ?_)
  · simp only [zput_s, zput_n, ti_g, oI_add, oI_sub, oI_mul, b27_15]
    try simp only [zput_s, zput_n, ti_g, oI_add, oI_sub, oI_mul]
    try simp only [zput_s, zput_n, ti_g, oI_add, oI_sub, oI_mul]
    exact l27_18 F q0 hR _ _ _ _ _ rfl rfl (by omega) (Nat.lt_succ_self _)
  · simp only [zput_s, zput_n, ti_g, oI_add, oI_sub, oI_mul, b27_15]
    try simp only [zput_s, zput_n, ti_g, oI_add, oI_sub, oI_mul]
    try simp only [zput_s, zput_n, ti_g, oI_add, oI_sub, oI_mul]
    exact l27_18 F q0 hR _ _ _ _ _ rfl rfl (by omega) (Nat.lt_succ_self _)
/-! X2_addWithMark -/
theorem s29 {sh : zSh} {T MB : Nat} (F : zCl sh T MB) {r0 : Nat} (q0 : zRw sh T MB r0) {r1 : Nat} (q1 : zRw sh T MB r1) {x2 : Int} (u2 : -2147483648 ≤ x2 ∧ x2 ≤ 2147483647) {x3 : Int} (u3 : -2147483648 ≤ x3 ∧ x3 ≤ 2147483647) {t : zSt} (hR : RS sh t) : zok (zcl zP 29 [zR r0, zR r1, zI (oI x2), zI (oI x3)] (sh, t)) (zq0 (fun t' => FrC sh T MB t t' ∧ (True)) sh) := by
  have hz0 := RS_sz (hR) q0.1
  have hz1 := RS_sz (hR) q1.1
  have g1_1 := RS_sz (hR) ((q1).1)
  rw [b29_0]
  try simp only [zput_s, zput_n, ti_g, oI_add, oI_sub, oI_mul]
  refine zok_ck (((q1).1).1) ?_
  first | refine zok_ne (by omega) (fun c2 => ?_) (fun c2 => ?_) | refine zok_if (fun c2 => ?_) (fun c2 => ?_)
  · first | refine zok_eq (by omega) (fun c3 => ?_) (fun c3 => ?_) | refine zok_if (fun c3 => ?_) (fun c3 => ?_)
    · have g4_1 := RS_sz (hR) ((q1).1)
      simp only [zput_s, zput_n, ti_g, oI_add, oI_sub, oI_mul, b29_18]
      try simp only [zput_s, zput_n, ti_g, oI_add, oI_sub, oI_mul]
      refine zok_ck (((q1).1).1) ?_
      refine zok_ck (((q0).1).1) ?_
      refine zok_c0 (s61 ((q0).1) ((q1).1) (by omega) (by omega) (hR)) (fun t5 p5 => ?_)
      obtain ⟨f5, p5⟩ := p5
      simp only [zput_s, zput_n, ti_g, oI_add, oI_sub, oI_mul, b29_28]
      try simp only [zput_s, zput_n, ti_g, oI_add, oI_sub, oI_mul]
      first | refine zok_eq (by omega) (fun c7 => ?_) (fun c7 => ?_) | refine zok_if (fun c7 => ?_) (fun c7 => ?_)
      · simp only [zput_s, zput_n, ti_g, oI_add, oI_sub, oI_mul, b29_38]
        try simp only [zput_s, zput_n, ti_g, oI_add, oI_sub, oI_mul]
        exact q0_rt ⟨(f5).toC F (q0), trivial⟩
      · refine zok_ck (((q0).1).1) ?_
        refine zok_c0 (s59 ((q0).1) (((f5).toC F (q0)).rs)) (fun t9 p9 => ?_)
        obtain ⟨f9, p9⟩ := p9
        simp only [zput_s, zput_n, ti_g, oI_add, oI_sub, oI_mul, b29_38]
        try simp only [zput_s, zput_n, ti_g, oI_add, oI_sub, oI_mul]
        exact q0_rt ⟨((f5).toC F (q0)).trans ((f9).toC F (q0)), trivial⟩
    · refine zok_ck (((q0).1).1) ?_
      refine zok_c0 (s59 ((q0).1) (hR)) (fun t11 p11 => ?_)
      obtain ⟨f11, p11⟩ := p11
      have g12_1 := RS_sz (((f11).toC F (q0)).rs) ((q1).1)
      simp only [zput_s, zput_n, ti_g, oI_add, oI_sub, oI_mul, b29_18]
      try simp only [zput_s, zput_n, ti_g, oI_add, oI_sub, oI_mul]
      refine zok_ck (((q1).1).1) ?_
      refine zok_ck (((q0).1).1) ?_
      refine zok_c0 (s61 ((q0).1) ((q1).1) (by omega) (by omega) (((f11).toC F (q0)).rs)) (fun t13 p13 => ?_)
      obtain ⟨f13, p13⟩ := p13
      simp only [zput_s, zput_n, ti_g, oI_add, oI_sub, oI_mul, b29_28]
      try simp only [zput_s, zput_n, ti_g, oI_add, oI_sub, oI_mul]
      first | refine zok_eq (by omega) (fun c15 => ?_) (fun c15 => ?_) | refine zok_if (fun c15 => ?_) (fun c15 => ?_)
      · simp only [zput_s, zput_n, ti_g, oI_add, oI_sub, oI_mul, b29_38]
        try simp only [zput_s, zput_n, ti_g, oI_add, oI_sub, oI_mul]
        exact q0_rt ⟨((f11).toC F (q0)).trans ((f13).toC F (q0)), trivial⟩
      · refine zok_ck (((q0).1).1) ?_
        refine zok_c0 (s59 ((q0).1) ((((f11).toC F (q0)).trans ((f13).toC F (q0))).rs)) (fun t17 p17 => ?_)
        obtain ⟨f17, p17⟩ := p17
        simp only [zput_s, zput_n, ti_g, oI_add, oI_sub, oI_mul, b29_38]
        try simp only [zput_s, zput_n, ti_g, oI_add, oI_sub, oI_mul]
        exact q0_rt ⟨(((f11).toC F (q0)).trans ((f13).toC F (q0))).trans ((f17).toC F (q0)), trivial⟩
  · exact q0_rt ⟨FrC.refl hR, trivial⟩
/-! X2_compose -/
theorem s28 {sh : zSh} {T MB : Nat} (F : zCl sh T MB) {r0 : Nat} (q0 : zPt sh T MB r0) {r1 : Nat} (q1 : zRw sh T MB r1) {t : zSt} (hR : RS sh t) : zok (zcl zP 28 [zR r0, zR r1] (sh, t)) (zq0 (fun t' => FrC sh T MB t t' ∧ (True)) sh) := by
  have hz1 := RS_sz (hR) q1.1
  rw [b28_0]
  try simp only [zput_s, zput_n, ti_g, oI_add, oI_sub, oI_mul]
  refine zok_ck (((q1).1).1) ?_
  refine zok_c0 (s62 ((q1).1) (hR)) (fun t2 p2 => ?_)
  obtain ⟨f2, p2⟩ := p2
  simp only [zput_s, zput_n, ti_g, oI_add, oI_sub, oI_mul, b28_4]
  try simp only [zput_s, zput_n, ti_g, oI_add, oI_sub, oI_mul]
  refine zok_ck ((q0).1) ?_
  refine zok_c0 (s29 F (q1) (q0.2 0 (by decide)) (by omega) (by omega) (((f2).toC F (q1)).rs)) (fun t4 p4 => ?_)
  obtain ⟨f4, p4⟩ := p4
  have g5_1 := RS_sz ((((f2).toC F (q1)).trans (f4)).rs) ((q0.2 2 (by decide)).1)
  simp only [zput_s, zput_n, ti_g, oI_add, oI_sub, oI_mul, b28_15]
  try simp only [zput_s, zput_n, ti_g, oI_add, oI_sub, oI_mul]
  refine zok_ck ((q0).1) ?_
  refine zok_ck (((q0.2 2 (by decide)).1).1) ?_
  first | refine zok_eq (by omega) (fun c6 => ?_) (fun c6 => ?_) | refine zok_if (fun c6 => ?_) (fun c6 => ?_)
  · simp only [zput_s, zput_n, ti_g, oI_add, oI_sub, oI_mul, b28_31]
    try simp only [zput_s, zput_n, ti_g, oI_add, oI_sub, oI_mul]
    refine zok_ck ((q0).1) ?_
    refine zok_c0 (s29 F (q1) (q0.2 1 (by decide)) (by omega) (by omega) ((((f2).toC F (q1)).trans (f4)).rs)) (fun t8 p8 => ?_)
    obtain ⟨f8, p8⟩ := p8
    simp only [zput_s, zput_n, ti_g, oI_add, oI_sub, oI_mul, b28_42]
    try simp only [zput_s, zput_n, ti_g, oI_add, oI_sub, oI_mul]
    refine zok_ck ((q0).1) ?_
    refine zok_c0 (s29 F (q1) (q0.2 2 (by decide)) (by omega) (by omega) (((((f2).toC F (q1)).trans (f4)).trans (f8)).rs)) (fun t10 p10 => ?_)
    obtain ⟨f10, p10⟩ := p10
    simp only [zput_s, zput_n, ti_g, oI_add, oI_sub, oI_mul, b28_52]
    try simp only [zput_s, zput_n, ti_g, oI_add, oI_sub, oI_mul]
    refine zok_ck ((q0).1) ?_
    refine zok_c0 (s29 F (q1) (q0.2 3 (by decide)) (by omega) (by omega) ((((((f2).toC F (q1)).trans (f4)).trans (f8)).trans (f10)).rs)) (fun t12 p12 => ?_)
    obtain ⟨f12, p12⟩ := p12
    simp only [zput_s, zput_n, ti_g, oI_add, oI_sub, oI_mul, b28_63]
    try simp only [zput_s, zput_n, ti_g, oI_add, oI_sub, oI_mul]
    refine zok_ck ((q0).1) ?_
    refine zok_c0 (s29 F (q1) (q0.2 4 (by decide)) (by omega) (by omega) (((((((f2).toC F (q1)).trans (f4)).trans (f8)).trans (f10)).trans (f12)).rs)) (fun t14 p14 => ?_)
    obtain ⟨f14, p14⟩ := p14
    simp only [zput_s, zput_n, ti_g, oI_add, oI_sub, oI_mul, b28_73]
    try simp only [zput_s, zput_n, ti_g, oI_add, oI_sub, oI_mul]
    refine zok_ck ((q0).1) ?_
    refine zok_c0 (s29 F (q1) (q0.2 5 (by decide)) (by omega) (by omega) ((((((((f2).toC F (q1)).trans (f4)).trans (f8)).trans (f10)).trans (f12)).trans (f14)).rs)) (fun t16 p16 => ?_)
    obtain ⟨f16, p16⟩ := p16
    simp only [zput_s, zput_n, ti_g, oI_add, oI_sub, oI_mul, b28_84]
    try simp only [zput_s, zput_n, ti_g, oI_add, oI_sub, oI_mul]
    refine zok_ck ((q0).1) ?_
    refine zok_c0 (s29 F (q1) (q0.2 6 (by decide)) (by omega) (by omega) (((((((((f2).toC F (q1)).trans (f4)).trans (f8)).trans (f10)).trans (f12)).trans (f14)).trans (f16)).rs)) (fun t18 p18 => ?_)
    obtain ⟨f18, p18⟩ := p18
    simp only [zput_s, zput_n, ti_g, oI_add, oI_sub, oI_mul, b28_95]
    try simp only [zput_s, zput_n, ti_g, oI_add, oI_sub, oI_mul]
    exact q0_rt ⟨((((((((f2).toC F (q1)).trans (f4)).trans (f8)).trans (f10)).trans (f12)).trans (f14)).trans (f16)).trans (f18), trivial⟩
  · refine zok_ck (((q1).1).1) ?_
    refine zok_c0 (s60 ((q1).1) ⟨Nat.le_of_ble_eq_true rfl, Nat.le_of_ble_eq_true rfl⟩ ((((f2).toC F (q1)).trans (f4)).rs)) (fun t20 p20 => ?_)
    obtain ⟨f20, p20⟩ := p20
    simp only [zput_s, zput_n, ti_g, oI_add, oI_sub, oI_mul, b28_31]
    try simp only [zput_s, zput_n, ti_g, oI_add, oI_sub, oI_mul]
    refine zok_ck ((q0).1) ?_
    refine zok_c0 (s29 F (q1) (q0.2 1 (by decide)) (by omega) (by omega) (((((f2).toC F (q1)).trans (f4)).trans ((f20).toC F (q1))).rs)) (fun t22 p22 => ?_)
    obtain ⟨f22, p22⟩ := p22
    simp only [zput_s, zput_n, ti_g, oI_add, oI_sub, oI_mul, b28_42]
    try simp only [zput_s, zput_n, ti_g, oI_add, oI_sub, oI_mul]
    refine zok_ck ((q0).1) ?_
    refine zok_c0 (s29 F (q1) (q0.2 2 (by decide)) (by omega) (by omega) ((((((f2).toC F (q1)).trans (f4)).trans ((f20).toC F (q1))).trans (f22)).rs)) (fun t24 p24 => ?_)
    obtain ⟨f24, p24⟩ := p24
    simp only [zput_s, zput_n, ti_g, oI_add, oI_sub, oI_mul, b28_52]
    try simp only [zput_s, zput_n, ti_g, oI_add, oI_sub, oI_mul]
    refine zok_ck ((q0).1) ?_
    refine zok_c0 (s29 F (q1) (q0.2 3 (by decide)) (by omega) (by omega) (((((((f2).toC F (q1)).trans (f4)).trans ((f20).toC F (q1))).trans (f22)).trans (f24)).rs)) (fun t26 p26 => ?_)
    obtain ⟨f26, p26⟩ := p26
    simp only [zput_s, zput_n, ti_g, oI_add, oI_sub, oI_mul, b28_63]
    try simp only [zput_s, zput_n, ti_g, oI_add, oI_sub, oI_mul]
    refine zok_ck ((q0).1) ?_
    refine zok_c0 (s29 F (q1) (q0.2 4 (by decide)) (by omega) (by omega) ((((((((f2).toC F (q1)).trans (f4)).trans ((f20).toC F (q1))).trans (f22)).trans (f24)).trans (f26)).rs)) (fun t28 p28 => ?_)
    obtain ⟨f28, p28⟩ := p28
    simp only [zput_s, zput_n, ti_g, oI_add, oI_sub, oI_mul, b28_73]
    try simp only [zput_s, zput_n, ti_g, oI_add, oI_sub, oI_mul]
    refine zok_ck ((q0).1) ?_
    refine zok_c0 (s29 F (q1) (q0.2 5 (by decide)) (by omega) (by omega) (((((((((f2).toC F (q1)).trans (f4)).trans ((f20).toC F (q1))).trans (f22)).trans (f24)).trans (f26)).trans (f28)).rs)) (fun t30 p30 => ?_)
    obtain ⟨f30, p30⟩ := p30
    simp only [zput_s, zput_n, ti_g, oI_add, oI_sub, oI_mul, b28_84]
    try simp only [zput_s, zput_n, ti_g, oI_add, oI_sub, oI_mul]
    refine zok_ck ((q0).1) ?_
    refine zok_c0 (s29 F (q1) (q0.2 6 (by decide)) (by omega) (by omega) ((((((((((f2).toC F (q1)).trans (f4)).trans ((f20).toC F (q1))).trans (f22)).trans (f24)).trans (f26)).trans (f28)).trans (f30)).rs)) (fun t32 p32 => ?_)
    obtain ⟨f32, p32⟩ := p32
    simp only [zput_s, zput_n, ti_g, oI_add, oI_sub, oI_mul, b28_95]
    try simp only [zput_s, zput_n, ti_g, oI_add, oI_sub, oI_mul]
    exact q0_rt ⟨(((((((((f2).toC F (q1)).trans (f4)).trans ((f20).toC F (q1))).trans (f22)).trans (f24)).trans (f26)).trans (f28)).trans (f30)).trans (f32), trivial⟩
/-! X2_guardPath -/
theorem s30 {sh : zSh} {T MB : Nat} (F : zCl sh T MB) {r0 : Nat} (q0 : zPt sh T MB r0) {t : zSt} (hR : RS sh t) : zok (zcl zP 30 [zR r0] (sh, t)) (zq0 (fun t' => FrC sh T MB t t' ∧ (True)) sh) := by
  have g1_1 := RS_sz (hR) ((q0.2 2 (by decide)).1)
  rw [b30_0]
  try simp only [zput_s, zput_n, ti_g, oI_add, oI_sub, oI_mul]
  refine zok_ck ((q0).1) ?_
  refine zok_ck (((q0.2 2 (by decide)).1).1) ?_
  first | refine zok_ne (by omega) (fun c2 => ?_) (fun c2 => ?_) | refine zok_if (fun c2 => ?_) (fun c2 => ?_)
  · simp only [zput_s, zput_n, ti_g, oI_add, oI_sub, oI_mul, b30_45]
    try simp only [zput_s, zput_n, ti_g, oI_add, oI_sub, oI_mul]
    exact q0_rt ⟨FrC.refl hR, trivial⟩
  · refine zok_ck ((q0).1) ?_
    refine zok_ck (((q0.2 4 (by decide)).1).1) ?_
    refine zok_pI (s57 ((q0.2 4 (by decide)).1) (by omega) (hR)) (fun y4 u4 p4 => ?_)
    simp only [zput_s, zput_n, ti_g, oI_add, oI_sub, oI_mul, b30_18]
    try simp only [zput_s, zput_n, ti_g, oI_add, oI_sub, oI_mul]
    first | refine zok_ne (by omega) (fun c6 => ?_) (fun c6 => ?_) | refine zok_if (fun c6 => ?_) (fun c6 => ?_)
    · simp only [zput_s, zput_n, ti_g, oI_add, oI_sub, oI_mul, b30_45]
      try simp only [zput_s, zput_n, ti_g, oI_add, oI_sub, oI_mul]
      exact q0_rt ⟨FrC.refl hR, trivial⟩
    · refine zok_ck ((q0).1) ?_
      refine zok_ck (((q0.2 4 (by decide)).1).1) ?_
      refine zok_pI (s57 ((q0.2 4 (by decide)).1) (by omega) (hR)) (fun y8 u8 p8 => ?_)
      simp only [zput_s, zput_n, ti_g, oI_add, oI_sub, oI_mul, b30_31]
      try simp only [zput_s, zput_n, ti_g, oI_add, oI_sub, oI_mul]
      first | refine zok_ne (by omega) (fun c10 => ?_) (fun c10 => ?_) | refine zok_if (fun c10 => ?_) (fun c10 => ?_)
      · simp only [zput_s, zput_n, ti_g, oI_add, oI_sub, oI_mul, b30_45]
        try simp only [zput_s, zput_n, ti_g, oI_add, oI_sub, oI_mul]
        exact q0_rt ⟨FrC.refl hR, trivial⟩
      · refine zok_ck ((q0).1) ?_
        refine zok_ck (((q0.2 4 (by decide)).1).1) ?_
        refine zok_c0 (s83 ((q0.2 4 (by decide)).1) ⟨Nat.le_of_ble_eq_true rfl, Nat.le_of_ble_eq_true rfl⟩ (hR)) (fun t12 p12 => ?_)
        obtain ⟨f12, p12⟩ := p12
        simp only [zput_s, zput_n, ti_g, oI_add, oI_sub, oI_mul, b30_45]
        try simp only [zput_s, zput_n, ti_g, oI_add, oI_sub, oI_mul]
        exact q0_rt ⟨(f12).toC F (q0.2 4 (by decide)), trivial⟩
/-! X2_portNumber -/
theorem s31 {sh : zSh} {T MB : Nat} (F : zCl sh T MB) {r0 : Nat} (q0 : zPt sh T MB r0) {t : zSt} (hR : RS sh t) : zok (zcl zP 31 [zR r0] (sh, t)) (qI (fun x t' => t' = t ∧ (True)) sh) := by
  have g1_1 := RS_sz (hR) ((q0.2 3 (by decide)).1)
  rw [b31_0]
  try simp only [zput_s, zput_n, ti_g, oI_add, oI_sub, oI_mul]
  refine zok_ck ((q0).1) ?_
  refine zok_ck (((q0.2 3 (by decide)).1).1) ?_
  first | refine zok_eq (by omega) (fun c2 => ?_) (fun c2 => ?_) | refine zok_if (fun c2 => ?_) (fun c2 => ?_)
  · first | exact qI_rt (by omega) (by omega) ⟨rfl, trivial⟩ | exact qI_nf ⟨rfl, trivial⟩
  · refine zok_ck ((q0).1) ?_
    refine zok_ck (((q0.2 3 (by decide)).1).1) ?_
    first | refine zok_le (by omega) (fun c3 => ?_) (fun c3 => ?_) | refine zok_if (fun c3 => ?_) (fun c3 => ?_)
    · first | exact qI_rt (by omega) (by omega) ⟨rfl, trivial⟩ | exact qI_nf ⟨rfl, trivial⟩
    · refine zok_ck ((q0).1) ?_
      refine zok_ck ((q0).1) ?_
      refine zok_ck (((q0.2 3 (by decide)).1).1) ?_
      refine zok_ck (((q0.2 3 (by decide)).1).1) ?_
      refine zok_pI (s79 ((q0.2 3 (by decide)).1) (by omega) (by omega) (hR)) (fun y4 u4 p4 => ?_)
      simp only [zput_s, zput_n, ti_g, oI_add, oI_sub, oI_mul, b31_35]
      try simp only [zput_s, zput_n, ti_g, oI_add, oI_sub, oI_mul]
      first | exact qI_rt (by omega) (by omega) ⟨rfl, trivial⟩ | exact qI_nf ⟨rfl, trivial⟩
/-! X2_segmentCount -/
theorem s32 {sh : zSh} {T MB : Nat} (F : zCl sh T MB) {r0 : Nat} (q0 : zPt sh T MB r0) {t : zSt} (hR : RS sh t) : zok (zcl zP 32 [zR r0] (sh, t)) (qI (fun x t' => t' = t ∧ (0 ≤ x ∧ x ≤ 100001)) sh) := by
  have g1_1 := RS_sz (hR) ((q0.2 4 (by decide)).1)
  rw [b32_0]
  try simp only [zput_s, zput_n, ti_g, oI_add, oI_sub, oI_mul]
  refine zok_ck ((q0).1) ?_
  refine zok_ck (((q0.2 4 (by decide)).1).1) ?_
  first | refine zok_ne (by omega) (fun c2 => ?_) (fun c2 => ?_) | refine zok_if (fun c2 => ?_) (fun c2 => ?_)
  · refine zok_ck ((q0).1) ?_
    refine zok_ck (((q0.2 4 (by decide)).1).1) ?_
    refine zok_pI (s70 ((q0.2 4 (by decide)).1) (by omega) (by omega) (by omega) (hR)) (fun y3 u3 p3 => ?_)
    simp only [zput_s, zput_n, ti_g, oI_add, oI_sub, oI_mul, b32_24]
    try simp only [zput_s, zput_n, ti_g, oI_add, oI_sub, oI_mul]
    first | exact qI_rt (by omega) (by omega) ⟨rfl, by omega⟩ | exact qI_nf ⟨rfl, by omega⟩
  · first | exact qI_rt (by omega) (by omega) ⟨rfl, by omega⟩ | exact qI_nf ⟨rfl, by omega⟩
/-! X2_pairCount -/
theorem s33 {sh : zSh} {T MB : Nat} (F : zCl sh T MB) {r0 : Nat} (q0 : zPt sh T MB r0) {t : zSt} (hR : RS sh t) : zok (zcl zP 33 [zR r0] (sh, t)) (qI (fun x t' => t' = t ∧ (0 ≤ x ∧ x ≤ 100001)) sh) := by
  have g1_1 := RS_sz (hR) ((q0.2 5 (by decide)).1)
  rw [b33_0]
  try simp only [zput_s, zput_n, ti_g, oI_add, oI_sub, oI_mul]
  refine zok_ck ((q0).1) ?_
  refine zok_ck (((q0.2 5 (by decide)).1).1) ?_
  first | refine zok_eq (by omega) (fun c2 => ?_) (fun c2 => ?_) | refine zok_if (fun c2 => ?_) (fun c2 => ?_)
  · first | exact qI_rt (by omega) (by omega) ⟨rfl, by omega⟩ | exact qI_nf ⟨rfl, by omega⟩
  · refine zok_ck ((q0).1) ?_
    refine zok_ck (((q0.2 5 (by decide)).1).1) ?_
    refine zok_pI (s70 ((q0.2 5 (by decide)).1) (by omega) (by omega) (by omega) (hR)) (fun y3 u3 p3 => ?_)
    simp only [zput_s, zput_n, ti_g, oI_add, oI_sub, oI_mul, b33_20]
    try simp only [zput_s, zput_n, ti_g, oI_add, oI_sub, oI_mul]
    first | exact qI_rt (by omega) (by omega) ⟨rfl, by omega⟩ | exact qI_nf ⟨rfl, by omega⟩
