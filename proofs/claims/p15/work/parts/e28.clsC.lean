set_option maxRecDepth 16384
/-! X4_sharedBeginning -/
theorem l51_17 {sh : zSh} {T MB : Nat} (F : zCl sh T MB) {r0 : Nat} (q0 : zRw sh T MB r0) {r1 : Nat} (q1 : zRw sh T MB r1) {t : zSt} (hR : RS sh t) : ∀ (n : Nat) (x2 : Int) (x3 : Int) (x4 : Int) , (-2147483648 ≤ x2 ∧ x2 ≤ 2147483647) ∧ (-2147483648 ≤ x3 ∧ x3 ≤ 2147483647) ∧ (-2147483648 ≤ x4 ∧ x4 ≤ 2147483647) ∧ (0 ≤ x2 ∧ x2 ≤ x4 ∧ x4 ≤ 100000 ∧ x3 ≤ 100000) → (x3 - x4).toNat < n → zok (zev zP 51 17 [some (zR r0), some (zR r1), some (zI (oI x2)), some (zI (oI x3)), some (zI (oI x4))] [] (sh, t)) (qI (fun x t' => t' = t ∧ (0 ≤ x ∧ x ≤ 100000)) sh) := by
  intro n
  induction n with
  | zero => intro x2 x3 x4  _ hm; omega
  | succ n ih =>
    intro x2 x3 x4  hv hm
    have hz0 := RS_sz (hR) q0.1
    have hz1 := RS_sz (hR) q1.1
    simp only [zput_s, zput_n, ti_g, oI_add, oI_sub, oI_mul, b51_17]
    try simp only [zput_s, zput_n, ti_g, oI_add, oI_sub, oI_mul]
    first | refine zok_le (by omega) (fun c2 => ?_) (fun c2 => ?_) | refine zok_if (fun c2 => ?_) (fun c2 => ?_)
    · first | exact qI_rt (by omega) (by omega) ⟨rfl, by omega⟩ | exact qI_nf ⟨rfl, by omega⟩
    · refine zok_ck (((q0).1).1) ?_
      refine zok_pI (s57 ((q0).1) (by omega) (hR)) (fun y3 u3 p3 => ?_)
      simp only [zput_s, zput_n, ti_g, oI_add, oI_sub, oI_mul, b51_29]
      try simp only [zput_s, zput_n, ti_g, oI_add, oI_sub, oI_mul]
      refine zok_ck (((q1).1).1) ?_
      refine zok_pI (s57 ((q1).1) (by omega) (hR)) (fun y5 u5 p5 => ?_)
      simp only [zput_s, zput_n, ti_g, oI_add, oI_sub, oI_mul, b51_35]
      try simp only [zput_s, zput_n, ti_g, oI_add, oI_sub, oI_mul]
      first | refine zok_ne (by omega) (fun c7 => ?_) (fun c7 => ?_) | refine zok_if (fun c7 => ?_) (fun c7 => ?_)
      · first | exact qI_rt (by omega) (by omega) ⟨rfl, by omega⟩ | exact qI_nf ⟨rfl, by omega⟩
      · refine zok_ck (((q0).1).1) ?_
        refine zok_pI (s57 ((q0).1) (by omega) (hR)) (fun y8 u8 p8 => ?_)
        simp only [zput_s, zput_n, ti_g, oI_add, oI_sub, oI_mul, b51_44]
        try simp only [zput_s, zput_n, ti_g, oI_add, oI_sub, oI_mul]
        first | refine zok_ne (by omega) (fun c10 => ?_) (fun c10 => ?_) | refine zok_if (fun c10 => ?_) (fun c10 => ?_)
        · try simp only [zput_s, zput_n, ti_g, oI_add, oI_sub, oI_mul]
          exact ih _ _ _ (by omega) (by omega)
        · try simp only [zput_s, zput_n, ti_g, oI_add, oI_sub, oI_mul]
          exact ih _ _ _ (by omega) (by omega)
theorem s51 {sh : zSh} {T MB : Nat} (F : zCl sh T MB) {r0 : Nat} (q0 : zRw sh T MB r0) {r1 : Nat} (q1 : zRw sh T MB r1) {t : zSt} (hR : RS sh t) : zok (zcl zP 51 [zR r0, zR r1] (sh, t)) (qI (fun x t' => t' = t ∧ (0 ≤ x ∧ x ≤ 100000)) sh) := by
  have hz0 := RS_sz (hR) q0.1
  have hz1 := RS_sz (hR) q1.1
  have g11_1 := RS_sz (hR) ((q0).1)
  have g11_2 := RS_sz (hR) ((q1).1)
  rw [b51_0]
  try simp only [zput_s, zput_n, ti_g, oI_add, oI_sub, oI_mul]
  refine zok_ck (((q0).1).1) ?_
  refine zok_ck (((q1).1).1) ?_
  obtain ⟨w12, wr12, we12⟩ := oI_mm (tg t r1 1) (tg t r0 1) (tg t r1 1) (tg t r0 1) (by omega)
  try simp only [zput_s, zput_n, ti_g, oI_add, oI_sub, oI_mul] at we12
  try rw [we12]
  try simp only [zput_s, zput_n, ti_g, oI_add, oI_sub, oI_mul]
  exact l51_17 F q0 q1 hR _ _ _ _ (by omega) (Nat.lt_succ_self _)
/-! X4_needsPoint -/
theorem s52 {sh : zSh} {T MB : Nat} (F : zCl sh T MB) {r0 : Nat} (q0 : zRw sh T MB r0) {x1 : Int} (u1 : -2147483648 ≤ x1 ∧ x1 ≤ 2147483647) (d1 : 0 ≤ x1 ∧ x1 ≤ 200000) {t : zSt} (hR : RS sh t) : zok (zcl zP 52 [zR r0, zI (oI x1)] (sh, t)) (qI (fun x t' => t' = t ∧ (x = 0 ∨ x = 1)) sh) := by
  have hz0 := RS_sz (hR) q0.1
  have g1_1 := RS_sz (hR) ((q0).1)
  rw [b52_0]
  try simp only [zput_s, zput_n, ti_g, oI_add, oI_sub, oI_mul]
  refine zok_ck (((q0).1).1) ?_
  refine zok_ck (((q0).1).1) ?_
  refine zok_pI (s68 ((q0).1) (by omega) (by omega) (by omega) (by omega) (hR)) (fun y2 u2 p2 => ?_)
  simp only [zput_s, zput_n, ti_g, oI_add, oI_sub, oI_mul, b52_11]
  try simp only [zput_s, zput_n, ti_g, oI_add, oI_sub, oI_mul]
  first | refine zok_eq (by omega) (fun c4 => ?_) (fun c4 => ?_) | refine zok_if (fun c4 => ?_) (fun c4 => ?_)
  · first | exact qI_rt (by omega) (by omega) ⟨rfl, by omega⟩ | exact qI_nf ⟨rfl, by omega⟩
  · refine zok_ck (((q0).1).1) ?_
    refine zok_pI (s68 ((q0).1) (by omega) (by omega) (by omega) (by omega) (hR)) (fun y5 u5 p5 => ?_)
    simp only [zput_s, zput_n, ti_g, oI_add, oI_sub, oI_mul, b52_25]
    try simp only [zput_s, zput_n, ti_g, oI_add, oI_sub, oI_mul]
    first | refine zok_le (by omega) (fun c7 => ?_) (fun c7 => ?_) | refine zok_if (fun c7 => ?_) (fun c7 => ?_)
    · first | exact qI_rt (by omega) (by omega) ⟨rfl, by omega⟩ | exact qI_nf ⟨rfl, by omega⟩
    · first | exact qI_rt (by omega) (by omega) ⟨rfl, by omega⟩ | exact qI_nf ⟨rfl, by omega⟩
/-! X4_climb -/
theorem l50_18 {sh : zSh} {T MB : Nat} (F : zCl sh T MB) {r0 : Nat} (q0 : zRw sh T MB r0) {r1 : Nat} (q1 : zRw sh T MB r1) {r2 : Nat} (q2 : zRw sh T MB r2) {t0 : zSt} (hR : RS sh t0) : ∀ (n : Nat) (x3 : Int) (x4 : Int) (x5 : Int)  (t1 : zSt), FrC sh T MB t0 t1 → (-2147483648 ≤ x3 ∧ x3 ≤ 2147483647) ∧ (-2147483648 ≤ x4 ∧ x4 ≤ 2147483647) ∧ (-2147483648 ≤ x5 ∧ x5 ≤ 2147483647) ∧ (0 ≤ x3 ∧ x3 ≤ 100000) → (x4 - x5).toNat < n → zok (zev zP 50 18 [some (zR r0), some (zR r1), some (zR r2), some (zI (oI x3)), some (zI (oI x4)), some (zI (oI x5))] [] (sh, t1)) (zq0 (fun t' => FrC sh T MB t0 t' ∧ (True)) sh) := by
  intro n
  induction n with
  | zero => intro x3 x4 x5  t1 f0 _ hm; omega
  | succ n ih =>
    intro x3 x4 x5  t1 f0 hv hm
    have hz0 := RS_sz (f0.rs) q0.1
    have hz1 := RS_sz (f0.rs) q1.1
    have hz2 := RS_sz (f0.rs) q2.1
    simp only [zput_s, zput_n, ti_g, oI_add, oI_sub, oI_mul, b50_18]
    try simp only [zput_s, zput_n, ti_g, oI_add, oI_sub, oI_mul]
    first | refine zok_le (by omega) (fun c2 => ?_) (fun c2 => ?_) | refine zok_if (fun c2 => ?_) (fun c2 => ?_)
    · first | refine zok_ne (by omega) (fun c3 => ?_) (fun c3 => ?_) | refine zok_if (fun c3 => ?_) (fun c3 => ?_)
      · have g4_1 := RS_sz (f0.rs) ((q2).1)
        simp only [zput_s, zput_n, ti_g, oI_add, oI_sub, oI_mul, b50_56]
        try simp only [zput_s, zput_n, ti_g, oI_add, oI_sub, oI_mul]
        refine zok_ck (((q2).1).1) ?_
        refine zok_ck (((q0).1).1) ?_
        refine zok_c0 (s61 ((q0).1) ((q2).1) (by omega) (by omega) (f0.rs)) (fun t5 p5 => ?_)
        obtain ⟨f5, p5⟩ := p5
        simp only [zput_s, zput_n, ti_g, oI_add, oI_sub, oI_mul, b50_66]
        try simp only [zput_s, zput_n, ti_g, oI_add, oI_sub, oI_mul]
        exact q0_rt ⟨(f0).trans ((f5).toC F (q0)), trivial⟩
      · refine zok_pI (s52 F (q2) (by omega) (by omega) (f0.rs)) (fun y7 u7 p7 => ?_)
        simp only [zput_s, zput_n, ti_g, oI_add, oI_sub, oI_mul, b50_47]
        try simp only [zput_s, zput_n, ti_g, oI_add, oI_sub, oI_mul]
        first | refine zok_eq (by omega) (fun c9 => ?_) (fun c9 => ?_) | refine zok_if (fun c9 => ?_) (fun c9 => ?_)
        · have g10_1 := RS_sz (f0.rs) ((q2).1)
          simp only [zput_s, zput_n, ti_g, oI_add, oI_sub, oI_mul, b50_56]
          try simp only [zput_s, zput_n, ti_g, oI_add, oI_sub, oI_mul]
          refine zok_ck (((q2).1).1) ?_
          refine zok_ck (((q0).1).1) ?_
          refine zok_c0 (s61 ((q0).1) ((q2).1) (by omega) (by omega) (f0.rs)) (fun t11 p11 => ?_)
          obtain ⟨f11, p11⟩ := p11
          simp only [zput_s, zput_n, ti_g, oI_add, oI_sub, oI_mul, b50_66]
          try simp only [zput_s, zput_n, ti_g, oI_add, oI_sub, oI_mul]
          exact q0_rt ⟨(f0).trans ((f11).toC F (q0)), trivial⟩
        · refine zok_ck (((q0).1).1) ?_
          refine zok_c0 (s60 ((q0).1) ⟨Nat.le_of_ble_eq_true rfl, Nat.le_of_ble_eq_true rfl⟩ (f0.rs)) (fun t13 p13 => ?_)
          obtain ⟨f13, p13⟩ := p13
          have g14_1 := RS_sz (((f0).trans ((f13).toC F (q0))).rs) ((q2).1)
          simp only [zput_s, zput_n, ti_g, oI_add, oI_sub, oI_mul, b50_56]
          try simp only [zput_s, zput_n, ti_g, oI_add, oI_sub, oI_mul]
          refine zok_ck (((q2).1).1) ?_
          refine zok_ck (((q0).1).1) ?_
          refine zok_c0 (s61 ((q0).1) ((q2).1) (by omega) (by omega) (((f0).trans ((f13).toC F (q0))).rs)) (fun t15 p15 => ?_)
          obtain ⟨f15, p15⟩ := p15
          simp only [zput_s, zput_n, ti_g, oI_add, oI_sub, oI_mul, b50_66]
          try simp only [zput_s, zput_n, ti_g, oI_add, oI_sub, oI_mul]
          exact q0_rt ⟨((f0).trans ((f13).toC F (q0))).trans ((f15).toC F (q0)), trivial⟩
    · refine zok_ck (((q0).1).1) ?_
      refine zok_c0 (s60 ((q0).1) ⟨Nat.le_of_ble_eq_true rfl, Nat.le_of_ble_eq_true rfl⟩ (f0.rs)) (fun t17 p17 => ?_)
      obtain ⟨f17, p17⟩ := p17
      simp only [zput_s, zput_n, ti_g, oI_add, oI_sub, oI_mul, b50_31]
      try simp only [zput_s, zput_n, ti_g, oI_add, oI_sub, oI_mul]
      try simp only [zput_s, zput_n, ti_g, oI_add, oI_sub, oI_mul]
      exact ih _ _ _ _ ((f0).trans ((f17).toC F (q0))) (by omega) (by omega)
theorem s50 {sh : zSh} {T MB : Nat} (F : zCl sh T MB) {r0 : Nat} (q0 : zRw sh T MB r0) {r1 : Nat} (q1 : zRw sh T MB r1) {r2 : Nat} (q2 : zRw sh T MB r2) {t : zSt} (hR : RS sh t) : zok (zcl zP 50 [zR r0, zR r1, zR r2] (sh, t)) (zq0 (fun t' => FrC sh T MB t t' ∧ (True)) sh) := by
  have hz0 := RS_sz (hR) q0.1
  have hz1 := RS_sz (hR) q1.1
  have hz2 := RS_sz (hR) q2.1
  rw [b50_0]
  try simp only [zput_s, zput_n, ti_g, oI_add, oI_sub, oI_mul]
  refine zok_pI (s51 F (q1) (q2) (hR)) (fun y20 u20 p20 => ?_)
  simp only [zput_s, zput_n, ti_g, oI_add, oI_sub, oI_mul, b50_5]
  try simp only [zput_s, zput_n, ti_g, oI_add, oI_sub, oI_mul]
  refine zok_ck (((q1).1).1) ?_
  refine zok_pI (s70 ((q1).1) (by omega) (by omega) (by omega) (hR)) (fun y22 u22 p22 => ?_)
  simp only [zput_s, zput_n, ti_g, oI_add, oI_sub, oI_mul, b50_13]
  try simp only [zput_s, zput_n, ti_g, oI_add, oI_sub, oI_mul]
  try simp only [zput_s, zput_n, ti_g, oI_add, oI_sub, oI_mul]
  exact l50_18 F q0 q1 q2 hR _ _ _ _ _ (FrC.refl hR) (by omega) (Nat.lt_succ_self _)
/-! X4_make -/
theorem s49 {sh : zSh} {T MB : Nat} (F : zCl sh T MB) {r0 : Nat} (q0 : zPt sh T MB r0) {x1 : Int} (u1 : -2147483648 ≤ x1 ∧ x1 ≤ 2147483647) {r2 : Nat} (q2 : zPt sh T MB r2) {r3 : Nat} (q3 : zPt sh T MB r3) {t : zSt} (hR : RS sh t) : zok (zcl zP 49 [zR r0, zI (oI x1), zR r2, zR r3] (sh, t)) (zq0 (fun t' => FrC sh T MB t t' ∧ (True)) sh) := by
  rw [b49_0]
  try simp only [zput_s, zput_n, ti_g, oI_add, oI_sub, oI_mul]
  refine zok_ck ((q0).1) ?_
  refine zok_c0 (s23 F (q0) (hR)) (fun t2 p2 => ?_)
  obtain ⟨f2, p2⟩ := p2
  simp only [zput_s, zput_n, ti_g, oI_add, oI_sub, oI_mul, b49_4]
  try simp only [zput_s, zput_n, ti_g, oI_add, oI_sub, oI_mul]
  refine zok_ck ((q0).1) ?_
  refine zok_ck ((q3).1) ?_
  refine zok_ck (((q0.2 6 (by decide)).1).1) ?_
  refine zok_c0 (s64 ((q0.2 6 (by decide)).1) ((q3.2 6 (by decide)).1) ((f2).rs)) (fun t4 p4 => ?_)
  obtain ⟨f4, p4⟩ := p4
  simp only [zput_s, zput_n, ti_g, oI_add, oI_sub, oI_mul, b49_15]
  try simp only [zput_s, zput_n, ti_g, oI_add, oI_sub, oI_mul]
  first | refine zok_lt (by omega) (fun c6 => ?_) (fun c6 => ?_) | refine zok_if (fun c6 => ?_) (fun c6 => ?_)
  · simp only [zput_s, zput_n, ti_g, oI_add, oI_sub, oI_mul, b49_31]
    try simp only [zput_s, zput_n, ti_g, oI_add, oI_sub, oI_mul]
    first | refine zok_ne (by omega) (fun c8 => ?_) (fun c8 => ?_) | refine zok_if (fun c8 => ?_) (fun c8 => ?_)
    · simp only [zput_s, zput_n, ti_g, oI_add, oI_sub, oI_mul, b49_51]
      try simp only [zput_s, zput_n, ti_g, oI_add, oI_sub, oI_mul]
      first | refine zok_lt (by omega) (fun c10 => ?_) (fun c10 => ?_) | refine zok_if (fun c10 => ?_) (fun c10 => ?_)
      · simp only [zput_s, zput_n, ti_g, oI_add, oI_sub, oI_mul, b49_67]
        try simp only [zput_s, zput_n, ti_g, oI_add, oI_sub, oI_mul]
        first | refine zok_lt (by omega) (fun c12 => ?_) (fun c12 => ?_) | refine zok_if (fun c12 => ?_) (fun c12 => ?_)
        · simp only [zput_s, zput_n, ti_g, oI_add, oI_sub, oI_mul, b49_77]
          try simp only [zput_s, zput_n, ti_g, oI_add, oI_sub, oI_mul]
          first | refine zok_lt (by omega) (fun c14 => ?_) (fun c14 => ?_) | refine zok_if (fun c14 => ?_) (fun c14 => ?_)
          · simp only [zput_s, zput_n, ti_g, oI_add, oI_sub, oI_mul, b49_93]
            try simp only [zput_s, zput_n, ti_g, oI_add, oI_sub, oI_mul]
            exact q0_rt ⟨(f2).trans ((f4).toC F (q0.2 6 (by decide))), trivial⟩
          · refine zok_ck ((q0).1) ?_
            refine zok_ck ((q3).1) ?_
            refine zok_ck (((q0.2 0 (by decide)).1).1) ?_
            refine zok_c0 (s64 ((q0.2 0 (by decide)).1) ((q3.2 0 (by decide)).1) (((f2).trans ((f4).toC F (q0.2 6 (by decide)))).rs)) (fun t16 p16 => ?_)
            obtain ⟨f16, p16⟩ := p16
            simp only [zput_s, zput_n, ti_g, oI_add, oI_sub, oI_mul, b49_93]
            try simp only [zput_s, zput_n, ti_g, oI_add, oI_sub, oI_mul]
            exact q0_rt ⟨((f2).trans ((f4).toC F (q0.2 6 (by decide)))).trans ((f16).toC F (q0.2 0 (by decide))), trivial⟩
        · refine zok_ck ((q0).1) ?_
          refine zok_c0 (s25 F (q0) (q3) (((f2).trans ((f4).toC F (q0.2 6 (by decide)))).rs)) (fun t18 p18 => ?_)
          obtain ⟨f18, p18⟩ := p18
          simp only [zput_s, zput_n, ti_g, oI_add, oI_sub, oI_mul, b49_77]
          try simp only [zput_s, zput_n, ti_g, oI_add, oI_sub, oI_mul]
          first | refine zok_lt (by omega) (fun c20 => ?_) (fun c20 => ?_) | refine zok_if (fun c20 => ?_) (fun c20 => ?_)
          · simp only [zput_s, zput_n, ti_g, oI_add, oI_sub, oI_mul, b49_93]
            try simp only [zput_s, zput_n, ti_g, oI_add, oI_sub, oI_mul]
            exact q0_rt ⟨((f2).trans ((f4).toC F (q0.2 6 (by decide)))).trans (f18), trivial⟩
          · refine zok_ck ((q0).1) ?_
            refine zok_ck ((q3).1) ?_
            refine zok_ck (((q0.2 0 (by decide)).1).1) ?_
            refine zok_c0 (s64 ((q0.2 0 (by decide)).1) ((q3.2 0 (by decide)).1) ((((f2).trans ((f4).toC F (q0.2 6 (by decide)))).trans (f18)).rs)) (fun t22 p22 => ?_)
            obtain ⟨f22, p22⟩ := p22
            simp only [zput_s, zput_n, ti_g, oI_add, oI_sub, oI_mul, b49_93]
            try simp only [zput_s, zput_n, ti_g, oI_add, oI_sub, oI_mul]
            exact q0_rt ⟨(((f2).trans ((f4).toC F (q0.2 6 (by decide)))).trans (f18)).trans ((f22).toC F (q0.2 0 (by decide))), trivial⟩
      · refine zok_ck ((q0).1) ?_
        refine zok_ck ((q3).1) ?_
        refine zok_ck (((q0.2 4 (by decide)).1).1) ?_
        refine zok_c0 (s64 ((q0.2 4 (by decide)).1) ((q3.2 4 (by decide)).1) (((f2).trans ((f4).toC F (q0.2 6 (by decide)))).rs)) (fun t24 p24 => ?_)
        obtain ⟨f24, p24⟩ := p24
        simp only [zput_s, zput_n, ti_g, oI_add, oI_sub, oI_mul, b49_67]
        try simp only [zput_s, zput_n, ti_g, oI_add, oI_sub, oI_mul]
        first | refine zok_lt (by omega) (fun c26 => ?_) (fun c26 => ?_) | refine zok_if (fun c26 => ?_) (fun c26 => ?_)
        · simp only [zput_s, zput_n, ti_g, oI_add, oI_sub, oI_mul, b49_77]
          try simp only [zput_s, zput_n, ti_g, oI_add, oI_sub, oI_mul]
          first | refine zok_lt (by omega) (fun c28 => ?_) (fun c28 => ?_) | refine zok_if (fun c28 => ?_) (fun c28 => ?_)
          · simp only [zput_s, zput_n, ti_g, oI_add, oI_sub, oI_mul, b49_93]
            try simp only [zput_s, zput_n, ti_g, oI_add, oI_sub, oI_mul]
            exact q0_rt ⟨((f2).trans ((f4).toC F (q0.2 6 (by decide)))).trans ((f24).toC F (q0.2 4 (by decide))), trivial⟩
          · refine zok_ck ((q0).1) ?_
            refine zok_ck ((q3).1) ?_
            refine zok_ck (((q0.2 0 (by decide)).1).1) ?_
            refine zok_c0 (s64 ((q0.2 0 (by decide)).1) ((q3.2 0 (by decide)).1) ((((f2).trans ((f4).toC F (q0.2 6 (by decide)))).trans ((f24).toC F (q0.2 4 (by decide)))).rs)) (fun t30 p30 => ?_)
            obtain ⟨f30, p30⟩ := p30
            simp only [zput_s, zput_n, ti_g, oI_add, oI_sub, oI_mul, b49_93]
            try simp only [zput_s, zput_n, ti_g, oI_add, oI_sub, oI_mul]
            exact q0_rt ⟨(((f2).trans ((f4).toC F (q0.2 6 (by decide)))).trans ((f24).toC F (q0.2 4 (by decide)))).trans ((f30).toC F (q0.2 0 (by decide))), trivial⟩
        · refine zok_ck ((q0).1) ?_
          refine zok_c0 (s25 F (q0) (q3) ((((f2).trans ((f4).toC F (q0.2 6 (by decide)))).trans ((f24).toC F (q0.2 4 (by decide)))).rs)) (fun t32 p32 => ?_)
          obtain ⟨f32, p32⟩ := p32
          simp only [zput_s, zput_n, ti_g, oI_add, oI_sub, oI_mul, b49_77]
          try simp only [zput_s, zput_n, ti_g, oI_add, oI_sub, oI_mul]
          first | refine zok_lt (by omega) (fun c34 => ?_) (fun c34 => ?_) | refine zok_if (fun c34 => ?_) (fun c34 => ?_)
          · simp only [zput_s, zput_n, ti_g, oI_add, oI_sub, oI_mul, b49_93]
            try simp only [zput_s, zput_n, ti_g, oI_add, oI_sub, oI_mul]
            exact q0_rt ⟨(((f2).trans ((f4).toC F (q0.2 6 (by decide)))).trans ((f24).toC F (q0.2 4 (by decide)))).trans (f32), trivial⟩
          · refine zok_ck ((q0).1) ?_
            refine zok_ck ((q3).1) ?_
            refine zok_ck (((q0.2 0 (by decide)).1).1) ?_
            refine zok_c0 (s64 ((q0.2 0 (by decide)).1) ((q3.2 0 (by decide)).1) (((((f2).trans ((f4).toC F (q0.2 6 (by decide)))).trans ((f24).toC F (q0.2 4 (by decide)))).trans (f32)).rs)) (fun t36 p36 => ?_)
            obtain ⟨f36, p36⟩ := p36
            simp only [zput_s, zput_n, ti_g, oI_add, oI_sub, oI_mul, b49_93]
            try simp only [zput_s, zput_n, ti_g, oI_add, oI_sub, oI_mul]
            exact q0_rt ⟨((((f2).trans ((f4).toC F (q0.2 6 (by decide)))).trans ((f24).toC F (q0.2 4 (by decide)))).trans (f32)).trans ((f36).toC F (q0.2 0 (by decide))), trivial⟩
    · refine zok_ck ((q0).1) ?_
      refine zok_ck ((q2).1) ?_
      refine zok_ck ((q3).1) ?_
      refine zok_c0 (s50 F (q0.2 4 (by decide)) (q2.2 4 (by decide)) (q3.2 4 (by decide)) (((f2).trans ((f4).toC F (q0.2 6 (by decide)))).rs)) (fun t38 p38 => ?_)
      obtain ⟨f38, p38⟩ := p38
      simp only [zput_s, zput_n, ti_g, oI_add, oI_sub, oI_mul, b49_51]
      try simp only [zput_s, zput_n, ti_g, oI_add, oI_sub, oI_mul]
      first | refine zok_lt (by omega) (fun c40 => ?_) (fun c40 => ?_) | refine zok_if (fun c40 => ?_) (fun c40 => ?_)
      · simp only [zput_s, zput_n, ti_g, oI_add, oI_sub, oI_mul, b49_67]
        try simp only [zput_s, zput_n, ti_g, oI_add, oI_sub, oI_mul]
        first | refine zok_lt (by omega) (fun c42 => ?_) (fun c42 => ?_) | refine zok_if (fun c42 => ?_) (fun c42 => ?_)
        · simp only [zput_s, zput_n, ti_g, oI_add, oI_sub, oI_mul, b49_77]
          try simp only [zput_s, zput_n, ti_g, oI_add, oI_sub, oI_mul]
          first | refine zok_lt (by omega) (fun c44 => ?_) (fun c44 => ?_) | refine zok_if (fun c44 => ?_) (fun c44 => ?_)
          · simp only [zput_s, zput_n, ti_g, oI_add, oI_sub, oI_mul, b49_93]
            try simp only [zput_s, zput_n, ti_g, oI_add, oI_sub, oI_mul]
            exact q0_rt ⟨((f2).trans ((f4).toC F (q0.2 6 (by decide)))).trans (f38), trivial⟩
          · refine zok_ck ((q0).1) ?_
            refine zok_ck ((q3).1) ?_
            refine zok_ck (((q0.2 0 (by decide)).1).1) ?_
            refine zok_c0 (s64 ((q0.2 0 (by decide)).1) ((q3.2 0 (by decide)).1) ((((f2).trans ((f4).toC F (q0.2 6 (by decide)))).trans (f38)).rs)) (fun t46 p46 => ?_)
            obtain ⟨f46, p46⟩ := p46
            simp only [zput_s, zput_n, ti_g, oI_add, oI_sub, oI_mul, b49_93]
            try simp only [zput_s, zput_n, ti_g, oI_add, oI_sub, oI_mul]
            exact q0_rt ⟨(((f2).trans ((f4).toC F (q0.2 6 (by decide)))).trans (f38)).trans ((f46).toC F (q0.2 0 (by decide))), trivial⟩
        · refine zok_ck ((q0).1) ?_
          refine zok_c0 (s25 F (q0) (q3) ((((f2).trans ((f4).toC F (q0.2 6 (by decide)))).trans (f38)).rs)) (fun t48 p48 => ?_)
          obtain ⟨f48, p48⟩ := p48
          simp only [zput_s, zput_n, ti_g, oI_add, oI_sub, oI_mul, b49_77]
          try simp only [zput_s, zput_n, ti_g, oI_add, oI_sub, oI_mul]
          first | refine zok_lt (by omega) (fun c50 => ?_) (fun c50 => ?_) | refine zok_if (fun c50 => ?_) (fun c50 => ?_)
          · simp only [zput_s, zput_n, ti_g, oI_add, oI_sub, oI_mul, b49_93]
            try simp only [zput_s, zput_n, ti_g, oI_add, oI_sub, oI_mul]
            exact q0_rt ⟨(((f2).trans ((f4).toC F (q0.2 6 (by decide)))).trans (f38)).trans (f48), trivial⟩
          · refine zok_ck ((q0).1) ?_
            refine zok_ck ((q3).1) ?_
            refine zok_ck (((q0.2 0 (by decide)).1).1) ?_
            refine zok_c0 (s64 ((q0.2 0 (by decide)).1) ((q3.2 0 (by decide)).1) (((((f2).trans ((f4).toC F (q0.2 6 (by decide)))).trans (f38)).trans (f48)).rs)) (fun t52 p52 => ?_)
            obtain ⟨f52, p52⟩ := p52
            simp only [zput_s, zput_n, ti_g, oI_add, oI_sub, oI_mul, b49_93]
            try simp only [zput_s, zput_n, ti_g, oI_add, oI_sub, oI_mul]
            exact q0_rt ⟨((((f2).trans ((f4).toC F (q0.2 6 (by decide)))).trans (f38)).trans (f48)).trans ((f52).toC F (q0.2 0 (by decide))), trivial⟩
      · refine zok_ck ((q0).1) ?_
        refine zok_ck ((q3).1) ?_
        refine zok_ck (((q0.2 4 (by decide)).1).1) ?_
        refine zok_c0 (s64 ((q0.2 4 (by decide)).1) ((q3.2 4 (by decide)).1) ((((f2).trans ((f4).toC F (q0.2 6 (by decide)))).trans (f38)).rs)) (fun t54 p54 => ?_)
        obtain ⟨f54, p54⟩ := p54
        simp only [zput_s, zput_n, ti_g, oI_add, oI_sub, oI_mul, b49_67]
        try simp only [zput_s, zput_n, ti_g, oI_add, oI_sub, oI_mul]
        first | refine zok_lt (by omega) (fun c56 => ?_) (fun c56 => ?_) | refine zok_if (fun c56 => ?_) (fun c56 => ?_)
        · simp only [zput_s, zput_n, ti_g, oI_add, oI_sub, oI_mul, b49_77]
          try simp only [zput_s, zput_n, ti_g, oI_add, oI_sub, oI_mul]
          first | refine zok_lt (by omega) (fun c58 => ?_) (fun c58 => ?_) | refine zok_if (fun c58 => ?_) (fun c58 => ?_)
          · simp only [zput_s, zput_n, ti_g, oI_add, oI_sub, oI_mul, b49_93]
            try simp only [zput_s, zput_n, ti_g, oI_add, oI_sub, oI_mul]
            exact q0_rt ⟨(((f2).trans ((f4).toC F (q0.2 6 (by decide)))).trans (f38)).trans ((f54).toC F (q0.2 4 (by decide))), trivial⟩
          · refine zok_ck ((q0).1) ?_
            refine zok_ck ((q3).1) ?_
            refine zok_ck (((q0.2 0 (by decide)).1).1) ?_
            refine zok_c0 (s64 ((q0.2 0 (by decide)).1) ((q3.2 0 (by decide)).1) (((((f2).trans ((f4).toC F (q0.2 6 (by decide)))).trans (f38)).trans ((f54).toC F (q0.2 4 (by decide)))).rs)) (fun t60 p60 => ?_)
            obtain ⟨f60, p60⟩ := p60
            simp only [zput_s, zput_n, ti_g, oI_add, oI_sub, oI_mul, b49_93]
            try simp only [zput_s, zput_n, ti_g, oI_add, oI_sub, oI_mul]
            exact q0_rt ⟨((((f2).trans ((f4).toC F (q0.2 6 (by decide)))).trans (f38)).trans ((f54).toC F (q0.2 4 (by decide)))).trans ((f60).toC F (q0.2 0 (by decide))), trivial⟩
        · refine zok_ck ((q0).1) ?_
          refine zok_c0 (s25 F (q0) (q3) (((((f2).trans ((f4).toC F (q0.2 6 (by decide)))).trans (f38)).trans ((f54).toC F (q0.2 4 (by decide)))).rs)) (fun t62 p62 => ?_)
          obtain ⟨f62, p62⟩ := p62
          simp only [zput_s, zput_n, ti_g, oI_add, oI_sub, oI_mul, b49_77]
          try simp only [zput_s, zput_n, ti_g, oI_add, oI_sub, oI_mul]
          first | refine zok_lt (by omega) (fun c64 => ?_) (fun c64 => ?_) | refine zok_if (fun c64 => ?_) (fun c64 => ?_)
          · simp only [zput_s, zput_n, ti_g, oI_add, oI_sub, oI_mul, b49_93]
            try simp only [zput_s, zput_n, ti_g, oI_add, oI_sub, oI_mul]
            exact q0_rt ⟨((((f2).trans ((f4).toC F (q0.2 6 (by decide)))).trans (f38)).trans ((f54).toC F (q0.2 4 (by decide)))).trans (f62), trivial⟩
          · refine zok_ck ((q0).1) ?_
            refine zok_ck ((q3).1) ?_
            refine zok_ck (((q0.2 0 (by decide)).1).1) ?_
            refine zok_c0 (s64 ((q0.2 0 (by decide)).1) ((q3.2 0 (by decide)).1) ((((((f2).trans ((f4).toC F (q0.2 6 (by decide)))).trans (f38)).trans ((f54).toC F (q0.2 4 (by decide)))).trans (f62)).rs)) (fun t66 p66 => ?_)
            obtain ⟨f66, p66⟩ := p66
            simp only [zput_s, zput_n, ti_g, oI_add, oI_sub, oI_mul, b49_93]
            try simp only [zput_s, zput_n, ti_g, oI_add, oI_sub, oI_mul]
            exact q0_rt ⟨(((((f2).trans ((f4).toC F (q0.2 6 (by decide)))).trans (f38)).trans ((f54).toC F (q0.2 4 (by decide)))).trans (f62)).trans ((f66).toC F (q0.2 0 (by decide))), trivial⟩
  · refine zok_ck ((q0).1) ?_
    refine zok_ck ((q3).1) ?_
    refine zok_ck (((q0.2 5 (by decide)).1).1) ?_
    refine zok_c0 (s64 ((q0.2 5 (by decide)).1) ((q3.2 5 (by decide)).1) (((f2).trans ((f4).toC F (q0.2 6 (by decide)))).rs)) (fun t68 p68 => ?_)
    obtain ⟨f68, p68⟩ := p68
    simp only [zput_s, zput_n, ti_g, oI_add, oI_sub, oI_mul, b49_31]
    try simp only [zput_s, zput_n, ti_g, oI_add, oI_sub, oI_mul]
    first | refine zok_ne (by omega) (fun c70 => ?_) (fun c70 => ?_) | refine zok_if (fun c70 => ?_) (fun c70 => ?_)
    · simp only [zput_s, zput_n, ti_g, oI_add, oI_sub, oI_mul, b49_51]
      try simp only [zput_s, zput_n, ti_g, oI_add, oI_sub, oI_mul]
      first | refine zok_lt (by omega) (fun c72 => ?_) (fun c72 => ?_) | refine zok_if (fun c72 => ?_) (fun c72 => ?_)
      · simp only [zput_s, zput_n, ti_g, oI_add, oI_sub, oI_mul, b49_67]
        try simp only [zput_s, zput_n, ti_g, oI_add, oI_sub, oI_mul]
        first | refine zok_lt (by omega) (fun c74 => ?_) (fun c74 => ?_) | refine zok_if (fun c74 => ?_) (fun c74 => ?_)
        · simp only [zput_s, zput_n, ti_g, oI_add, oI_sub, oI_mul, b49_77]
          try simp only [zput_s, zput_n, ti_g, oI_add, oI_sub, oI_mul]
          first | refine zok_lt (by omega) (fun c76 => ?_) (fun c76 => ?_) | refine zok_if (fun c76 => ?_) (fun c76 => ?_)
          · simp only [zput_s, zput_n, ti_g, oI_add, oI_sub, oI_mul, b49_93]
            try simp only [zput_s, zput_n, ti_g, oI_add, oI_sub, oI_mul]
            exact q0_rt ⟨((f2).trans ((f4).toC F (q0.2 6 (by decide)))).trans ((f68).toC F (q0.2 5 (by decide))), trivial⟩
          · refine zok_ck ((q0).1) ?_
            refine zok_ck ((q3).1) ?_
            refine zok_ck (((q0.2 0 (by decide)).1).1) ?_
            refine zok_c0 (s64 ((q0.2 0 (by decide)).1) ((q3.2 0 (by decide)).1) ((((f2).trans ((f4).toC F (q0.2 6 (by decide)))).trans ((f68).toC F (q0.2 5 (by decide)))).rs)) (fun t78 p78 => ?_)
            obtain ⟨f78, p78⟩ := p78
            simp only [zput_s, zput_n, ti_g, oI_add, oI_sub, oI_mul, b49_93]
            try simp only [zput_s, zput_n, ti_g, oI_add, oI_sub, oI_mul]
            exact q0_rt ⟨(((f2).trans ((f4).toC F (q0.2 6 (by decide)))).trans ((f68).toC F (q0.2 5 (by decide)))).trans ((f78).toC F (q0.2 0 (by decide))), trivial⟩
        · refine zok_ck ((q0).1) ?_
          refine zok_c0 (s25 F (q0) (q3) ((((f2).trans ((f4).toC F (q0.2 6 (by decide)))).trans ((f68).toC F (q0.2 5 (by decide)))).rs)) (fun t80 p80 => ?_)
          obtain ⟨f80, p80⟩ := p80
          simp only [zput_s, zput_n, ti_g, oI_add, oI_sub, oI_mul, b49_77]
          try simp only [zput_s, zput_n, ti_g, oI_add, oI_sub, oI_mul]
          first | refine zok_lt (by omega) (fun c82 => ?_) (fun c82 => ?_) | refine zok_if (fun c82 => ?_) (fun c82 => ?_)
          · simp only [zput_s, zput_n, ti_g, oI_add, oI_sub, oI_mul, b49_93]
            try simp only [zput_s, zput_n, ti_g, oI_add, oI_sub, oI_mul]
            exact q0_rt ⟨(((f2).trans ((f4).toC F (q0.2 6 (by decide)))).trans ((f68).toC F (q0.2 5 (by decide)))).trans (f80), trivial⟩
          · refine zok_ck ((q0).1) ?_
            refine zok_ck ((q3).1) ?_
            refine zok_ck (((q0.2 0 (by decide)).1).1) ?_
            refine zok_c0 (s64 ((q0.2 0 (by decide)).1) ((q3.2 0 (by decide)).1) (((((f2).trans ((f4).toC F (q0.2 6 (by decide)))).trans ((f68).toC F (q0.2 5 (by decide)))).trans (f80)).rs)) (fun t84 p84 => ?_)
            obtain ⟨f84, p84⟩ := p84
            simp only [zput_s, zput_n, ti_g, oI_add, oI_sub, oI_mul, b49_93]
            try simp only [zput_s, zput_n, ti_g, oI_add, oI_sub, oI_mul]
            exact q0_rt ⟨((((f2).trans ((f4).toC F (q0.2 6 (by decide)))).trans ((f68).toC F (q0.2 5 (by decide)))).trans (f80)).trans ((f84).toC F (q0.2 0 (by decide))), trivial⟩
      · refine zok_ck ((q0).1) ?_
        refine zok_ck ((q3).1) ?_
        refine zok_ck (((q0.2 4 (by decide)).1).1) ?_
        refine zok_c0 (s64 ((q0.2 4 (by decide)).1) ((q3.2 4 (by decide)).1) ((((f2).trans ((f4).toC F (q0.2 6 (by decide)))).trans ((f68).toC F (q0.2 5 (by decide)))).rs)) (fun t86 p86 => ?_)
        obtain ⟨f86, p86⟩ := p86
        simp only [zput_s, zput_n, ti_g, oI_add, oI_sub, oI_mul, b49_67]
        try simp only [zput_s, zput_n, ti_g, oI_add, oI_sub, oI_mul]
        first | refine zok_lt (by omega) (fun c88 => ?_) (fun c88 => ?_) | refine zok_if (fun c88 => ?_) (fun c88 => ?_)
        · simp only [zput_s, zput_n, ti_g, oI_add, oI_sub, oI_mul, b49_77]
          try simp only [zput_s, zput_n, ti_g, oI_add, oI_sub, oI_mul]
          first | refine zok_lt (by omega) (fun c90 => ?_) (fun c90 => ?_) | refine zok_if (fun c90 => ?_) (fun c90 => ?_)
          · simp only [zput_s, zput_n, ti_g, oI_add, oI_sub, oI_mul, b49_93]
            try simp only [zput_s, zput_n, ti_g, oI_add, oI_sub, oI_mul]
            exact q0_rt ⟨(((f2).trans ((f4).toC F (q0.2 6 (by decide)))).trans ((f68).toC F (q0.2 5 (by decide)))).trans ((f86).toC F (q0.2 4 (by decide))), trivial⟩
          · refine zok_ck ((q0).1) ?_
            refine zok_ck ((q3).1) ?_
            refine zok_ck (((q0.2 0 (by decide)).1).1) ?_
            refine zok_c0 (s64 ((q0.2 0 (by decide)).1) ((q3.2 0 (by decide)).1) (((((f2).trans ((f4).toC F (q0.2 6 (by decide)))).trans ((f68).toC F (q0.2 5 (by decide)))).trans ((f86).toC F (q0.2 4 (by decide)))).rs)) (fun t92 p92 => ?_)
            obtain ⟨f92, p92⟩ := p92
            simp only [zput_s, zput_n, ti_g, oI_add, oI_sub, oI_mul, b49_93]
            try simp only [zput_s, zput_n, ti_g, oI_add, oI_sub, oI_mul]
            exact q0_rt ⟨((((f2).trans ((f4).toC F (q0.2 6 (by decide)))).trans ((f68).toC F (q0.2 5 (by decide)))).trans ((f86).toC F (q0.2 4 (by decide)))).trans ((f92).toC F (q0.2 0 (by decide))), trivial⟩
        · refine zok_ck ((q0).1) ?_
          refine zok_c0 (s25 F (q0) (q3) (((((f2).trans ((f4).toC F (q0.2 6 (by decide)))).trans ((f68).toC F (q0.2 5 (by decide)))).trans ((f86).toC F (q0.2 4 (by decide)))).rs)) (fun t94 p94 => ?_)
          obtain ⟨f94, p94⟩ := p94
          simp only [zput_s, zput_n, ti_g, oI_add, oI_sub, oI_mul, b49_77]
          try simp only [zput_s, zput_n, ti_g, oI_add, oI_sub, oI_mul]
          first | refine zok_lt (by omega) (fun c96 => ?_) (fun c96 => ?_) | refine zok_if (fun c96 => ?_) (fun c96 => ?_)
          · simp only [zput_s, zput_n, ti_g, oI_add, oI_sub, oI_mul, b49_93]
            try simp only [zput_s, zput_n, ti_g, oI_add, oI_sub, oI_mul]
            exact q0_rt ⟨((((f2).trans ((f4).toC F (q0.2 6 (by decide)))).trans ((f68).toC F (q0.2 5 (by decide)))).trans ((f86).toC F (q0.2 4 (by decide)))).trans (f94), trivial⟩
          · refine zok_ck ((q0).1) ?_
            refine zok_ck ((q3).1) ?_
            refine zok_ck (((q0.2 0 (by decide)).1).1) ?_
            refine zok_c0 (s64 ((q0.2 0 (by decide)).1) ((q3.2 0 (by decide)).1) ((((((f2).trans ((f4).toC F (q0.2 6 (by decide)))).trans ((f68).toC F (q0.2 5 (by decide)))).trans ((f86).toC F (q0.2 4 (by decide)))).trans (f94)).rs)) (fun t98 p98 => ?_)
            obtain ⟨f98, p98⟩ := p98
            simp only [zput_s, zput_n, ti_g, oI_add, oI_sub, oI_mul, b49_93]
            try simp only [zput_s, zput_n, ti_g, oI_add, oI_sub, oI_mul]
            exact q0_rt ⟨(((((f2).trans ((f4).toC F (q0.2 6 (by decide)))).trans ((f68).toC F (q0.2 5 (by decide)))).trans ((f86).toC F (q0.2 4 (by decide)))).trans (f94)).trans ((f98).toC F (q0.2 0 (by decide))), trivial⟩
    · refine zok_ck ((q0).1) ?_
      refine zok_ck ((q2).1) ?_
      refine zok_ck ((q3).1) ?_
      refine zok_c0 (s50 F (q0.2 4 (by decide)) (q2.2 4 (by decide)) (q3.2 4 (by decide)) ((((f2).trans ((f4).toC F (q0.2 6 (by decide)))).trans ((f68).toC F (q0.2 5 (by decide)))).rs)) (fun t100 p100 => ?_)
      obtain ⟨f100, p100⟩ := p100
      simp only [zput_s, zput_n, ti_g, oI_add, oI_sub, oI_mul, b49_51]
      try simp only [zput_s, zput_n, ti_g, oI_add, oI_sub, oI_mul]
      first | refine zok_lt (by omega) (fun c102 => ?_) (fun c102 => ?_) | refine zok_if (fun c102 => ?_) (fun c102 => ?_)
      · simp only [zput_s, zput_n, ti_g, oI_add, oI_sub, oI_mul, b49_67]
        try simp only [zput_s, zput_n, ti_g, oI_add, oI_sub, oI_mul]
        first | refine zok_lt (by omega) (fun c104 => ?_) (fun c104 => ?_) | refine zok_if (fun c104 => ?_) (fun c104 => ?_)
        · simp only [zput_s, zput_n, ti_g, oI_add, oI_sub, oI_mul, b49_77]
          try simp only [zput_s, zput_n, ti_g, oI_add, oI_sub, oI_mul]
          first | refine zok_lt (by omega) (fun c106 => ?_) (fun c106 => ?_) | refine zok_if (fun c106 => ?_) (fun c106 => ?_)
          · simp only [zput_s, zput_n, ti_g, oI_add, oI_sub, oI_mul, b49_93]
            try simp only [zput_s, zput_n, ti_g, oI_add, oI_sub, oI_mul]
            exact q0_rt ⟨(((f2).trans ((f4).toC F (q0.2 6 (by decide)))).trans ((f68).toC F (q0.2 5 (by decide)))).trans (f100), trivial⟩
          · refine zok_ck ((q0).1) ?_
            refine zok_ck ((q3).1) ?_
            refine zok_ck (((q0.2 0 (by decide)).1).1) ?_
            refine zok_c0 (s64 ((q0.2 0 (by decide)).1) ((q3.2 0 (by decide)).1) (((((f2).trans ((f4).toC F (q0.2 6 (by decide)))).trans ((f68).toC F (q0.2 5 (by decide)))).trans (f100)).rs)) (fun t108 p108 => ?_)
            obtain ⟨f108, p108⟩ := p108
            simp only [zput_s, zput_n, ti_g, oI_add, oI_sub, oI_mul, b49_93]
            try simp only [zput_s, zput_n, ti_g, oI_add, oI_sub, oI_mul]
            exact q0_rt ⟨((((f2).trans ((f4).toC F (q0.2 6 (by decide)))).trans ((f68).toC F (q0.2 5 (by decide)))).trans (f100)).trans ((f108).toC F (q0.2 0 (by decide))), trivial⟩
        · refine zok_ck ((q0).1) ?_
          refine zok_c0 (s25 F (q0) (q3) (((((f2).trans ((f4).toC F (q0.2 6 (by decide)))).trans ((f68).toC F (q0.2 5 (by decide)))).trans (f100)).rs)) (fun t110 p110 => ?_)
          obtain ⟨f110, p110⟩ := p110
          simp only [zput_s, zput_n, ti_g, oI_add, oI_sub, oI_mul, b49_77]
          try simp only [zput_s, zput_n, ti_g, oI_add, oI_sub, oI_mul]
          first | refine zok_lt (by omega) (fun c112 => ?_) (fun c112 => ?_) | refine zok_if (fun c112 => ?_) (fun c112 => ?_)
          · simp only [zput_s, zput_n, ti_g, oI_add, oI_sub, oI_mul, b49_93]
            try simp only [zput_s, zput_n, ti_g, oI_add, oI_sub, oI_mul]
            exact q0_rt ⟨((((f2).trans ((f4).toC F (q0.2 6 (by decide)))).trans ((f68).toC F (q0.2 5 (by decide)))).trans (f100)).trans (f110), trivial⟩
          · refine zok_ck ((q0).1) ?_
            refine zok_ck ((q3).1) ?_
            refine zok_ck (((q0.2 0 (by decide)).1).1) ?_
            refine zok_c0 (s64 ((q0.2 0 (by decide)).1) ((q3.2 0 (by decide)).1) ((((((f2).trans ((f4).toC F (q0.2 6 (by decide)))).trans ((f68).toC F (q0.2 5 (by decide)))).trans (f100)).trans (f110)).rs)) (fun t114 p114 => ?_)
            obtain ⟨f114, p114⟩ := p114
            simp only [zput_s, zput_n, ti_g, oI_add, oI_sub, oI_mul, b49_93]
            try simp only [zput_s, zput_n, ti_g, oI_add, oI_sub, oI_mul]
            exact q0_rt ⟨(((((f2).trans ((f4).toC F (q0.2 6 (by decide)))).trans ((f68).toC F (q0.2 5 (by decide)))).trans (f100)).trans (f110)).trans ((f114).toC F (q0.2 0 (by decide))), trivial⟩
      · refine zok_ck ((q0).1) ?_
        refine zok_ck ((q3).1) ?_
        refine zok_ck (((q0.2 4 (by decide)).1).1) ?_
        refine zok_c0 (s64 ((q0.2 4 (by decide)).1) ((q3.2 4 (by decide)).1) (((((f2).trans ((f4).toC F (q0.2 6 (by decide)))).trans ((f68).toC F (q0.2 5 (by decide)))).trans (f100)).rs)) (fun t116 p116 => ?_)
        obtain ⟨f116, p116⟩ := p116
        simp only [zput_s, zput_n, ti_g, oI_add, oI_sub, oI_mul, b49_67]
        try simp only [zput_s, zput_n, ti_g, oI_add, oI_sub, oI_mul]
        first | refine zok_lt (by omega) (fun c118 => ?_) (fun c118 => ?_) | refine zok_if (fun c118 => ?_) (fun c118 => ?_)
        · simp only [zput_s, zput_n, ti_g, oI_add, oI_sub, oI_mul, b49_77]
          try simp only [zput_s, zput_n, ti_g, oI_add, oI_sub, oI_mul]
          first | refine zok_lt (by omega) (fun c120 => ?_) (fun c120 => ?_) | refine zok_if (fun c120 => ?_) (fun c120 => ?_)
          · simp only [zput_s, zput_n, ti_g, oI_add, oI_sub, oI_mul, b49_93]
            try simp only [zput_s, zput_n, ti_g, oI_add, oI_sub, oI_mul]
            exact q0_rt ⟨((((f2).trans ((f4).toC F (q0.2 6 (by decide)))).trans ((f68).toC F (q0.2 5 (by decide)))).trans (f100)).trans ((f116).toC F (q0.2 4 (by decide))), trivial⟩
          · refine zok_ck ((q0).1) ?_
            refine zok_ck ((q3).1) ?_
            refine zok_ck (((q0.2 0 (by decide)).1).1) ?_
            refine zok_c0 (s64 ((q0.2 0 (by decide)).1) ((q3.2 0 (by decide)).1) ((((((f2).trans ((f4).toC F (q0.2 6 (by decide)))).trans ((f68).toC F (q0.2 5 (by decide)))).trans (f100)).trans ((f116).toC F (q0.2 4 (by decide)))).rs)) (fun t122 p122 => ?_)
            obtain ⟨f122, p122⟩ := p122
            simp only [zput_s, zput_n, ti_g, oI_add, oI_sub, oI_mul, b49_93]
            try simp only [zput_s, zput_n, ti_g, oI_add, oI_sub, oI_mul]
            exact q0_rt ⟨(((((f2).trans ((f4).toC F (q0.2 6 (by decide)))).trans ((f68).toC F (q0.2 5 (by decide)))).trans (f100)).trans ((f116).toC F (q0.2 4 (by decide)))).trans ((f122).toC F (q0.2 0 (by decide))), trivial⟩
        · refine zok_ck ((q0).1) ?_
          refine zok_c0 (s25 F (q0) (q3) ((((((f2).trans ((f4).toC F (q0.2 6 (by decide)))).trans ((f68).toC F (q0.2 5 (by decide)))).trans (f100)).trans ((f116).toC F (q0.2 4 (by decide)))).rs)) (fun t124 p124 => ?_)
          obtain ⟨f124, p124⟩ := p124
          simp only [zput_s, zput_n, ti_g, oI_add, oI_sub, oI_mul, b49_77]
          try simp only [zput_s, zput_n, ti_g, oI_add, oI_sub, oI_mul]
          first | refine zok_lt (by omega) (fun c126 => ?_) (fun c126 => ?_) | refine zok_if (fun c126 => ?_) (fun c126 => ?_)
          · simp only [zput_s, zput_n, ti_g, oI_add, oI_sub, oI_mul, b49_93]
            try simp only [zput_s, zput_n, ti_g, oI_add, oI_sub, oI_mul]
            exact q0_rt ⟨(((((f2).trans ((f4).toC F (q0.2 6 (by decide)))).trans ((f68).toC F (q0.2 5 (by decide)))).trans (f100)).trans ((f116).toC F (q0.2 4 (by decide)))).trans (f124), trivial⟩
          · refine zok_ck ((q0).1) ?_
            refine zok_ck ((q3).1) ?_
            refine zok_ck (((q0.2 0 (by decide)).1).1) ?_
            refine zok_c0 (s64 ((q0.2 0 (by decide)).1) ((q3.2 0 (by decide)).1) (((((((f2).trans ((f4).toC F (q0.2 6 (by decide)))).trans ((f68).toC F (q0.2 5 (by decide)))).trans (f100)).trans ((f116).toC F (q0.2 4 (by decide)))).trans (f124)).rs)) (fun t128 p128 => ?_)
            obtain ⟨f128, p128⟩ := p128
            simp only [zput_s, zput_n, ti_g, oI_add, oI_sub, oI_mul, b49_93]
            try simp only [zput_s, zput_n, ti_g, oI_add, oI_sub, oI_mul]
            exact q0_rt ⟨((((((f2).trans ((f4).toC F (q0.2 6 (by decide)))).trans ((f68).toC F (q0.2 5 (by decide)))).trans (f100)).trans ((f116).toC F (q0.2 4 (by decide)))).trans (f124)).trans ((f128).toC F (q0.2 0 (by decide))), trivial⟩
/-! X5_merge -/
theorem s55 {sh : zSh} {T MB : Nat} (F : zCl sh T MB) {r0 : Nat} (q0 : zRw sh T MB r0) {r1 : Nat} (q1 : zPt sh T MB r1) {r2 : Nat} (q2 : zRw sh T MB r2) {t : zSt} (hR : RS sh t) : zok (zcl zP 55 [zR r0, zR r1, zR r2] (sh, t)) (zq0 (fun t' => FrC sh T MB t t' ∧ (True)) sh) := by
  have hz0 := RS_sz (hR) q0.1
  have hz2 := RS_sz (hR) q2.1
  have g1_1 := RS_sz (hR) ((q1.2 4 (by decide)).1)
  rw [b55_0]
  try simp only [zput_s, zput_n, ti_g, oI_add, oI_sub, oI_mul]
  refine zok_ck ((q1).1) ?_
  refine zok_ck ((q1).1) ?_
  refine zok_ck (((q1.2 4 (by decide)).1).1) ?_
  refine zok_ck (((q1.2 4 (by decide)).1).1) ?_
  refine zok_pI (s69 ((q1.2 4 (by decide)).1) (by omega) (by omega) (by omega) (by omega) (by omega) (hR)) (fun y2 u2 p2 => ?_)
  simp only [zput_s, zput_n, ti_g, oI_add, oI_sub, oI_mul, b55_17]
  try simp only [zput_s, zput_n, ti_g, oI_add, oI_sub, oI_mul]
  refine zok_ck (((q0).1).1) ?_
  refine zok_c0 (s62 ((q0).1) (hR)) (fun t4 p4 => ?_)
  obtain ⟨f4, p4⟩ := p4
  simp only [zput_s, zput_n, ti_g, oI_add, oI_sub, oI_mul, b55_24]
  try simp only [zput_s, zput_n, ti_g, oI_add, oI_sub, oI_mul]
  refine zok_ck (by first | exact ⟨((q0).1).1, fun _ => Or.inr rfl⟩ | exact ⟨((q0).1).1, Or.inr rfl⟩ | exact ((q0).1).1) ?_
  refine zok_ck ((q1).1) ?_
  refine zok_ck (((q0).1).1) ?_
  refine zok_c0 (s61 ((q0).1) ((q1.2 4 (by decide)).1) (by omega) (by omega) ((((f4).toC F (q0)).trans ((FrR_I (((f4).toC F (q0)).rs) ((q0).1) (by omega) (by omega) ⟨(fun e => by first | omega | cases e), (fun e => by first | omega | cases e)⟩).toC F (q0))).rs)) (fun t7 p7 => ?_)
  obtain ⟨f7, p7⟩ := p7
  have g8_1 := RS_sz (((((f4).toC F (q0)).trans ((FrR_I (((f4).toC F (q0)).rs) ((q0).1) (by omega) (by omega) ⟨(fun e => by first | omega | cases e), (fun e => by first | omega | cases e)⟩).toC F (q0))).trans ((f7).toC F (q0))).rs) ((q1.2 2 (by decide)).1)
  simp only [zput_s, zput_n, ti_g, oI_add, oI_sub, oI_mul, b55_39]
  try simp only [zput_s, zput_n, ti_g, oI_add, oI_sub, oI_mul]
  first | refine zok_ne (by omega) (fun c9 => ?_) (fun c9 => ?_) | refine zok_if (fun c9 => ?_) (fun c9 => ?_)
  · have g10_1 := RS_sz (((((f4).toC F (q0)).trans ((FrR_I (((f4).toC F (q0)).rs) ((q0).1) (by omega) (by omega) ⟨(fun e => by first | omega | cases e), (fun e => by first | omega | cases e)⟩).toC F (q0))).trans ((f7).toC F (q0))).rs) ((q2).1)
    simp only [zput_s, zput_n, ti_g, oI_add, oI_sub, oI_mul, b55_59]
    try simp only [zput_s, zput_n, ti_g, oI_add, oI_sub, oI_mul]
    refine zok_ck (((q2).1).1) ?_
    refine zok_ck (((q0).1).1) ?_
    refine zok_c0 (s61 ((q0).1) ((q2).1) (by omega) (by omega) (((((f4).toC F (q0)).trans ((FrR_I (((f4).toC F (q0)).rs) ((q0).1) (by omega) (by omega) ⟨(fun e => by first | omega | cases e), (fun e => by first | omega | cases e)⟩).toC F (q0))).trans ((f7).toC F (q0))).rs)) (fun t11 p11 => ?_)
    obtain ⟨f11, p11⟩ := p11
    simp only [zput_s, zput_n, ti_g, oI_add, oI_sub, oI_mul, b55_69]
    try simp only [zput_s, zput_n, ti_g, oI_add, oI_sub, oI_mul]
    exact q0_rt ⟨((((f4).toC F (q0)).trans ((FrR_I (((f4).toC F (q0)).rs) ((q0).1) (by omega) (by omega) ⟨(fun e => by first | omega | cases e), (fun e => by first | omega | cases e)⟩).toC F (q0))).trans ((f7).toC F (q0))).trans ((f11).toC F (q0)), trivial⟩
  · refine zok_ck ((q1).1) ?_
    refine zok_ck (((q1.2 2 (by decide)).1).1) ?_
    first | refine zok_eq (by omega) (fun c13 => ?_) (fun c13 => ?_) | refine zok_if (fun c13 => ?_) (fun c13 => ?_)
    · have g14_1 := RS_sz (((((f4).toC F (q0)).trans ((FrR_I (((f4).toC F (q0)).rs) ((q0).1) (by omega) (by omega) ⟨(fun e => by first | omega | cases e), (fun e => by first | omega | cases e)⟩).toC F (q0))).trans ((f7).toC F (q0))).rs) ((q2).1)
      simp only [zput_s, zput_n, ti_g, oI_add, oI_sub, oI_mul, b55_59]
      try simp only [zput_s, zput_n, ti_g, oI_add, oI_sub, oI_mul]
      refine zok_ck (((q2).1).1) ?_
      refine zok_ck (((q0).1).1) ?_
      refine zok_c0 (s61 ((q0).1) ((q2).1) (by omega) (by omega) (((((f4).toC F (q0)).trans ((FrR_I (((f4).toC F (q0)).rs) ((q0).1) (by omega) (by omega) ⟨(fun e => by first | omega | cases e), (fun e => by first | omega | cases e)⟩).toC F (q0))).trans ((f7).toC F (q0))).rs)) (fun t15 p15 => ?_)
      obtain ⟨f15, p15⟩ := p15
      simp only [zput_s, zput_n, ti_g, oI_add, oI_sub, oI_mul, b55_69]
      try simp only [zput_s, zput_n, ti_g, oI_add, oI_sub, oI_mul]
      exact q0_rt ⟨((((f4).toC F (q0)).trans ((FrR_I (((f4).toC F (q0)).rs) ((q0).1) (by omega) (by omega) ⟨(fun e => by first | omega | cases e), (fun e => by first | omega | cases e)⟩).toC F (q0))).trans ((f7).toC F (q0))).trans ((f15).toC F (q0)), trivial⟩
    · refine zok_ck (((q0).1).1) ?_
      refine zok_c0 (s59 ((q0).1) (((((f4).toC F (q0)).trans ((FrR_I (((f4).toC F (q0)).rs) ((q0).1) (by omega) (by omega) ⟨(fun e => by first | omega | cases e), (fun e => by first | omega | cases e)⟩).toC F (q0))).trans ((f7).toC F (q0))).rs)) (fun t17 p17 => ?_)
      obtain ⟨f17, p17⟩ := p17
      have g18_1 := RS_sz ((((((f4).toC F (q0)).trans ((FrR_I (((f4).toC F (q0)).rs) ((q0).1) (by omega) (by omega) ⟨(fun e => by first | omega | cases e), (fun e => by first | omega | cases e)⟩).toC F (q0))).trans ((f7).toC F (q0))).trans ((f17).toC F (q0))).rs) ((q2).1)
      simp only [zput_s, zput_n, ti_g, oI_add, oI_sub, oI_mul, b55_59]
      try simp only [zput_s, zput_n, ti_g, oI_add, oI_sub, oI_mul]
      refine zok_ck (((q2).1).1) ?_
      refine zok_ck (((q0).1).1) ?_
      refine zok_c0 (s61 ((q0).1) ((q2).1) (by omega) (by omega) ((((((f4).toC F (q0)).trans ((FrR_I (((f4).toC F (q0)).rs) ((q0).1) (by omega) (by omega) ⟨(fun e => by first | omega | cases e), (fun e => by first | omega | cases e)⟩).toC F (q0))).trans ((f7).toC F (q0))).trans ((f17).toC F (q0))).rs)) (fun t19 p19 => ?_)
      obtain ⟨f19, p19⟩ := p19
      simp only [zput_s, zput_n, ti_g, oI_add, oI_sub, oI_mul, b55_69]
      try simp only [zput_s, zput_n, ti_g, oI_add, oI_sub, oI_mul]
      exact q0_rt ⟨(((((f4).toC F (q0)).trans ((FrR_I (((f4).toC F (q0)).rs) ((q0).1) (by omega) (by omega) ⟨(fun e => by first | omega | cases e), (fun e => by first | omega | cases e)⟩).toC F (q0))).trans ((f7).toC F (q0))).trans ((f17).toC F (q0))).trans ((f19).toC F (q0)), trivial⟩
/-! X5_makeBehindScheme -/
theorem s54 {sh : zSh} {T MB : Nat} (F : zCl sh T MB) {r0 : Nat} (q0 : zPt sh T MB r0) {r1 : Nat} (q1 : zPt sh T MB r1) {r2 : Nat} (q2 : zPt sh T MB r2) {t : zSt} (hR : RS sh t) : zok (zcl zP 54 [zR r0, zR r1, zR r2] (sh, t)) (zq0 (fun t' => FrC sh T MB t t' ∧ (True)) sh) := by
  have g1_1 := RS_sz (hR) ((q2.2 2 (by decide)).1)
  rw [b54_0]
  try simp only [zput_s, zput_n, ti_g, oI_add, oI_sub, oI_mul]
  refine zok_ck ((q2).1) ?_
  refine zok_ck (((q2.2 2 (by decide)).1).1) ?_
  first | refine zok_eq (by omega) (fun c2 => ?_) (fun c2 => ?_) | refine zok_if (fun c2 => ?_) (fun c2 => ?_)
  · refine zok_ck ((q0).1) ?_
    refine zok_c0 (s25 F (q0) (q1) (hR)) (fun t3 p3 => ?_)
    obtain ⟨f3, p3⟩ := p3
    have g4_1 := RS_sz ((f3).rs) ((q2.2 4 (by decide)).1)
    simp only [zput_s, zput_n, ti_g, oI_add, oI_sub, oI_mul, b54_21]
    try simp only [zput_s, zput_n, ti_g, oI_add, oI_sub, oI_mul]
    first | refine zok_ne (by omega) (fun c5 => ?_) (fun c5 => ?_) | refine zok_if (fun c5 => ?_) (fun c5 => ?_)
    · refine zok_ck ((q0).1) ?_
      refine zok_ck ((q2).1) ?_
      refine zok_ck (((q0.2 5 (by decide)).1).1) ?_
      refine zok_c0 (s64 ((q0.2 5 (by decide)).1) ((q2.2 5 (by decide)).1) ((f3).rs)) (fun t6 p6 => ?_)
      obtain ⟨f6, p6⟩ := p6
      simp only [zput_s, zput_n, ti_g, oI_add, oI_sub, oI_mul, b54_86]
      try simp only [zput_s, zput_n, ti_g, oI_add, oI_sub, oI_mul]
      first | refine zok_ne (by omega) (fun c8 => ?_) (fun c8 => ?_) | refine zok_if (fun c8 => ?_) (fun c8 => ?_)
      · refine zok_ck ((q0).1) ?_
        refine zok_ck ((q2).1) ?_
        refine zok_ck (((q0.2 4 (by decide)).1).1) ?_
        refine zok_c0 (s64 ((q0.2 4 (by decide)).1) ((q2.2 4 (by decide)).1) (((f3).trans ((f6).toC F (q0.2 5 (by decide)))).rs)) (fun t9 p9 => ?_)
        obtain ⟨f9, p9⟩ := p9
        simp only [zput_s, zput_n, ti_g, oI_add, oI_sub, oI_mul, b54_114]
        try simp only [zput_s, zput_n, ti_g, oI_add, oI_sub, oI_mul]
        simp only [zput_s, zput_n, ti_g, oI_add, oI_sub, oI_mul, b54_129]
        try simp only [zput_s, zput_n, ti_g, oI_add, oI_sub, oI_mul]
        refine zok_ck ((q0).1) ?_
        refine zok_ck (((q0.2 4 (by decide)).1).1) ?_
        refine zok_c0 (s80 ((q0.2 4 (by decide)).1) ((((f3).trans ((f6).toC F (q0.2 5 (by decide)))).trans ((f9).toC F (q0.2 4 (by decide)))).rs)) (fun t12 p12 => ?_)
        obtain ⟨f12, p12⟩ := p12
        simp only [zput_s, zput_n, ti_g, oI_add, oI_sub, oI_mul, b54_136]
        try simp only [zput_s, zput_n, ti_g, oI_add, oI_sub, oI_mul]
        exact q0_rt ⟨(((f3).trans ((f6).toC F (q0.2 5 (by decide)))).trans ((f9).toC F (q0.2 4 (by decide)))).trans ((f12).toC F (q0.2 4 (by decide))), trivial⟩
      · refine zok_ck ((q2).1) ?_
        refine zok_ck (((q2.2 4 (by decide)).1).1) ?_
        refine zok_pI (s57 ((q2.2 4 (by decide)).1) (by omega) (((f3).trans ((f6).toC F (q0.2 5 (by decide)))).rs)) (fun y14 u14 p14 => ?_)
        simp only [zput_s, zput_n, ti_g, oI_add, oI_sub, oI_mul, b54_98]
        try simp only [zput_s, zput_n, ti_g, oI_add, oI_sub, oI_mul]
        first | refine zok_ne (by omega) (fun c16 => ?_) (fun c16 => ?_) | refine zok_if (fun c16 => ?_) (fun c16 => ?_)
        · refine zok_ck ((q0).1) ?_
          refine zok_ck ((q2).1) ?_
          refine zok_c0 (s55 F (q0.2 4 (by decide)) (q1) (q2.2 4 (by decide)) (((f3).trans ((f6).toC F (q0.2 5 (by decide)))).rs)) (fun t17 p17 => ?_)
          obtain ⟨f17, p17⟩ := p17
          simp only [zput_s, zput_n, ti_g, oI_add, oI_sub, oI_mul, b54_129]
          try simp only [zput_s, zput_n, ti_g, oI_add, oI_sub, oI_mul]
          refine zok_ck ((q0).1) ?_
          refine zok_ck (((q0.2 4 (by decide)).1).1) ?_
          refine zok_c0 (s80 ((q0.2 4 (by decide)).1) ((((f3).trans ((f6).toC F (q0.2 5 (by decide)))).trans (f17)).rs)) (fun t19 p19 => ?_)
          obtain ⟨f19, p19⟩ := p19
          simp only [zput_s, zput_n, ti_g, oI_add, oI_sub, oI_mul, b54_136]
          try simp only [zput_s, zput_n, ti_g, oI_add, oI_sub, oI_mul]
          exact q0_rt ⟨(((f3).trans ((f6).toC F (q0.2 5 (by decide)))).trans (f17)).trans ((f19).toC F (q0.2 4 (by decide))), trivial⟩
        · refine zok_ck ((q0).1) ?_
          refine zok_ck ((q2).1) ?_
          refine zok_ck (((q0.2 4 (by decide)).1).1) ?_
          refine zok_c0 (s64 ((q0.2 4 (by decide)).1) ((q2.2 4 (by decide)).1) (((f3).trans ((f6).toC F (q0.2 5 (by decide)))).rs)) (fun t21 p21 => ?_)
          obtain ⟨f21, p21⟩ := p21
          simp only [zput_s, zput_n, ti_g, oI_add, oI_sub, oI_mul, b54_114]
          try simp only [zput_s, zput_n, ti_g, oI_add, oI_sub, oI_mul]
          simp only [zput_s, zput_n, ti_g, oI_add, oI_sub, oI_mul, b54_129]
          try simp only [zput_s, zput_n, ti_g, oI_add, oI_sub, oI_mul]
          refine zok_ck ((q0).1) ?_
          refine zok_ck (((q0.2 4 (by decide)).1).1) ?_
          refine zok_c0 (s80 ((q0.2 4 (by decide)).1) ((((f3).trans ((f6).toC F (q0.2 5 (by decide)))).trans ((f21).toC F (q0.2 4 (by decide)))).rs)) (fun t24 p24 => ?_)
          obtain ⟨f24, p24⟩ := p24
          simp only [zput_s, zput_n, ti_g, oI_add, oI_sub, oI_mul, b54_136]
          try simp only [zput_s, zput_n, ti_g, oI_add, oI_sub, oI_mul]
          exact q0_rt ⟨(((f3).trans ((f6).toC F (q0.2 5 (by decide)))).trans ((f21).toC F (q0.2 4 (by decide)))).trans ((f24).toC F (q0.2 4 (by decide))), trivial⟩
    · refine zok_ck ((q2).1) ?_
      refine zok_ck (((q2.2 4 (by decide)).1).1) ?_
      first | refine zok_ne (by omega) (fun c26 => ?_) (fun c26 => ?_) | refine zok_if (fun c26 => ?_) (fun c26 => ?_)
      · refine zok_ck ((q0).1) ?_
        refine zok_ck ((q2).1) ?_
        refine zok_ck (((q0.2 5 (by decide)).1).1) ?_
        refine zok_c0 (s64 ((q0.2 5 (by decide)).1) ((q2.2 5 (by decide)).1) ((f3).rs)) (fun t27 p27 => ?_)
        obtain ⟨f27, p27⟩ := p27
        simp only [zput_s, zput_n, ti_g, oI_add, oI_sub, oI_mul, b54_86]
        try simp only [zput_s, zput_n, ti_g, oI_add, oI_sub, oI_mul]
        first | refine zok_ne (by omega) (fun c29 => ?_) (fun c29 => ?_) | refine zok_if (fun c29 => ?_) (fun c29 => ?_)
        · refine zok_ck ((q0).1) ?_
          refine zok_ck ((q2).1) ?_
          refine zok_ck (((q0.2 4 (by decide)).1).1) ?_
          refine zok_c0 (s64 ((q0.2 4 (by decide)).1) ((q2.2 4 (by decide)).1) (((f3).trans ((f27).toC F (q0.2 5 (by decide)))).rs)) (fun t30 p30 => ?_)
          obtain ⟨f30, p30⟩ := p30
          simp only [zput_s, zput_n, ti_g, oI_add, oI_sub, oI_mul, b54_114]
          try simp only [zput_s, zput_n, ti_g, oI_add, oI_sub, oI_mul]
          simp only [zput_s, zput_n, ti_g, oI_add, oI_sub, oI_mul, b54_129]
          try simp only [zput_s, zput_n, ti_g, oI_add, oI_sub, oI_mul]
          refine zok_ck ((q0).1) ?_
          refine zok_ck (((q0.2 4 (by decide)).1).1) ?_
          refine zok_c0 (s80 ((q0.2 4 (by decide)).1) ((((f3).trans ((f27).toC F (q0.2 5 (by decide)))).trans ((f30).toC F (q0.2 4 (by decide)))).rs)) (fun t33 p33 => ?_)
          obtain ⟨f33, p33⟩ := p33
          simp only [zput_s, zput_n, ti_g, oI_add, oI_sub, oI_mul, b54_136]
          try simp only [zput_s, zput_n, ti_g, oI_add, oI_sub, oI_mul]
          exact q0_rt ⟨(((f3).trans ((f27).toC F (q0.2 5 (by decide)))).trans ((f30).toC F (q0.2 4 (by decide)))).trans ((f33).toC F (q0.2 4 (by decide))), trivial⟩
        · refine zok_ck ((q2).1) ?_
          refine zok_ck (((q2.2 4 (by decide)).1).1) ?_
          refine zok_pI (s57 ((q2.2 4 (by decide)).1) (by omega) (((f3).trans ((f27).toC F (q0.2 5 (by decide)))).rs)) (fun y35 u35 p35 => ?_)
          simp only [zput_s, zput_n, ti_g, oI_add, oI_sub, oI_mul, b54_98]
          try simp only [zput_s, zput_n, ti_g, oI_add, oI_sub, oI_mul]
          first | refine zok_ne (by omega) (fun c37 => ?_) (fun c37 => ?_) | refine zok_if (fun c37 => ?_) (fun c37 => ?_)
          · refine zok_ck ((q0).1) ?_
            refine zok_ck ((q2).1) ?_
            refine zok_c0 (s55 F (q0.2 4 (by decide)) (q1) (q2.2 4 (by decide)) (((f3).trans ((f27).toC F (q0.2 5 (by decide)))).rs)) (fun t38 p38 => ?_)
            obtain ⟨f38, p38⟩ := p38
            simp only [zput_s, zput_n, ti_g, oI_add, oI_sub, oI_mul, b54_129]
            try simp only [zput_s, zput_n, ti_g, oI_add, oI_sub, oI_mul]
            refine zok_ck ((q0).1) ?_
            refine zok_ck (((q0.2 4 (by decide)).1).1) ?_
            refine zok_c0 (s80 ((q0.2 4 (by decide)).1) ((((f3).trans ((f27).toC F (q0.2 5 (by decide)))).trans (f38)).rs)) (fun t40 p40 => ?_)
            obtain ⟨f40, p40⟩ := p40
            simp only [zput_s, zput_n, ti_g, oI_add, oI_sub, oI_mul, b54_136]
            try simp only [zput_s, zput_n, ti_g, oI_add, oI_sub, oI_mul]
            exact q0_rt ⟨(((f3).trans ((f27).toC F (q0.2 5 (by decide)))).trans (f38)).trans ((f40).toC F (q0.2 4 (by decide))), trivial⟩
          · refine zok_ck ((q0).1) ?_
            refine zok_ck ((q2).1) ?_
            refine zok_ck (((q0.2 4 (by decide)).1).1) ?_
            refine zok_c0 (s64 ((q0.2 4 (by decide)).1) ((q2.2 4 (by decide)).1) (((f3).trans ((f27).toC F (q0.2 5 (by decide)))).rs)) (fun t42 p42 => ?_)
            obtain ⟨f42, p42⟩ := p42
            simp only [zput_s, zput_n, ti_g, oI_add, oI_sub, oI_mul, b54_114]
            try simp only [zput_s, zput_n, ti_g, oI_add, oI_sub, oI_mul]
            simp only [zput_s, zput_n, ti_g, oI_add, oI_sub, oI_mul, b54_129]
            try simp only [zput_s, zput_n, ti_g, oI_add, oI_sub, oI_mul]
            refine zok_ck ((q0).1) ?_
            refine zok_ck (((q0.2 4 (by decide)).1).1) ?_
            refine zok_c0 (s80 ((q0.2 4 (by decide)).1) ((((f3).trans ((f27).toC F (q0.2 5 (by decide)))).trans ((f42).toC F (q0.2 4 (by decide)))).rs)) (fun t45 p45 => ?_)
            obtain ⟨f45, p45⟩ := p45
            simp only [zput_s, zput_n, ti_g, oI_add, oI_sub, oI_mul, b54_136]
            try simp only [zput_s, zput_n, ti_g, oI_add, oI_sub, oI_mul]
            exact q0_rt ⟨(((f3).trans ((f27).toC F (q0.2 5 (by decide)))).trans ((f42).toC F (q0.2 4 (by decide)))).trans ((f45).toC F (q0.2 4 (by decide))), trivial⟩
      · refine zok_ck ((q0).1) ?_
        refine zok_ck ((q1).1) ?_
        refine zok_ck (((q0.2 4 (by decide)).1).1) ?_
        refine zok_c0 (s64 ((q0.2 4 (by decide)).1) ((q1.2 4 (by decide)).1) ((f3).rs)) (fun t47 p47 => ?_)
        obtain ⟨f47, p47⟩ := p47
        have g48_1 := RS_sz (((f3).trans ((f47).toC F (q0.2 4 (by decide)))).rs) ((q2.2 5 (by decide)).1)
        simp only [zput_s, zput_n, ti_g, oI_add, oI_sub, oI_mul, b54_46]
        try simp only [zput_s, zput_n, ti_g, oI_add, oI_sub, oI_mul]
        refine zok_ck ((q0).1) ?_
        refine zok_ck ((q2).1) ?_
        refine zok_ck (((q2.2 5 (by decide)).1).1) ?_
        first | refine zok_eq (by omega) (fun c49 => ?_) (fun c49 => ?_) | refine zok_if (fun c49 => ?_) (fun c49 => ?_)
        · refine zok_ck ((q1).1) ?_
          refine zok_ck (((q0.2 5 (by decide)).1).1) ?_
          refine zok_c0 (s64 ((q0.2 5 (by decide)).1) ((q1.2 5 (by decide)).1) (((f3).trans ((f47).toC F (q0.2 4 (by decide)))).rs)) (fun t50 p50 => ?_)
          obtain ⟨f50, p50⟩ := p50
          simp only [zput_s, zput_n, ti_g, oI_add, oI_sub, oI_mul, b54_74]
          try simp only [zput_s, zput_n, ti_g, oI_add, oI_sub, oI_mul]
          exact q0_rt ⟨((f3).trans ((f47).toC F (q0.2 4 (by decide)))).trans ((f50).toC F (q0.2 5 (by decide))), trivial⟩
        · refine zok_ck ((q2).1) ?_
          refine zok_ck (((q0.2 5 (by decide)).1).1) ?_
          refine zok_c0 (s64 ((q0.2 5 (by decide)).1) ((q2.2 5 (by decide)).1) (((f3).trans ((f47).toC F (q0.2 4 (by decide)))).rs)) (fun t52 p52 => ?_)
          obtain ⟨f52, p52⟩ := p52
          simp only [zput_s, zput_n, ti_g, oI_add, oI_sub, oI_mul, b54_74]
          try simp only [zput_s, zput_n, ti_g, oI_add, oI_sub, oI_mul]
          exact q0_rt ⟨((f3).trans ((f47).toC F (q0.2 4 (by decide)))).trans ((f52).toC F (q0.2 5 (by decide))), trivial⟩
  · refine zok_ck ((q0).1) ?_
    refine zok_c0 (s25 F (q0) (q2) (hR)) (fun t54 p54 => ?_)
    obtain ⟨f54, p54⟩ := p54
    have g55_1 := RS_sz ((f54).rs) ((q2.2 4 (by decide)).1)
    simp only [zput_s, zput_n, ti_g, oI_add, oI_sub, oI_mul, b54_21]
    try simp only [zput_s, zput_n, ti_g, oI_add, oI_sub, oI_mul]
    first | refine zok_ne (by omega) (fun c56 => ?_) (fun c56 => ?_) | refine zok_if (fun c56 => ?_) (fun c56 => ?_)
    · refine zok_ck ((q0).1) ?_
      refine zok_ck ((q2).1) ?_
      refine zok_ck (((q0.2 5 (by decide)).1).1) ?_
      refine zok_c0 (s64 ((q0.2 5 (by decide)).1) ((q2.2 5 (by decide)).1) ((f54).rs)) (fun t57 p57 => ?_)
      obtain ⟨f57, p57⟩ := p57
      simp only [zput_s, zput_n, ti_g, oI_add, oI_sub, oI_mul, b54_86]
      try simp only [zput_s, zput_n, ti_g, oI_add, oI_sub, oI_mul]
      first | refine zok_ne (by omega) (fun c59 => ?_) (fun c59 => ?_) | refine zok_if (fun c59 => ?_) (fun c59 => ?_)
      · refine zok_ck ((q0).1) ?_
        refine zok_ck ((q2).1) ?_
        refine zok_ck (((q0.2 4 (by decide)).1).1) ?_
        refine zok_c0 (s64 ((q0.2 4 (by decide)).1) ((q2.2 4 (by decide)).1) (((f54).trans ((f57).toC F (q0.2 5 (by decide)))).rs)) (fun t60 p60 => ?_)
        obtain ⟨f60, p60⟩ := p60
        simp only [zput_s, zput_n, ti_g, oI_add, oI_sub, oI_mul, b54_114]
        try simp only [zput_s, zput_n, ti_g, oI_add, oI_sub, oI_mul]
        simp only [zput_s, zput_n, ti_g, oI_add, oI_sub, oI_mul, b54_129]
        try simp only [zput_s, zput_n, ti_g, oI_add, oI_sub, oI_mul]
        refine zok_ck ((q0).1) ?_
        refine zok_ck (((q0.2 4 (by decide)).1).1) ?_
        refine zok_c0 (s80 ((q0.2 4 (by decide)).1) ((((f54).trans ((f57).toC F (q0.2 5 (by decide)))).trans ((f60).toC F (q0.2 4 (by decide)))).rs)) (fun t63 p63 => ?_)
        obtain ⟨f63, p63⟩ := p63
        simp only [zput_s, zput_n, ti_g, oI_add, oI_sub, oI_mul, b54_136]
        try simp only [zput_s, zput_n, ti_g, oI_add, oI_sub, oI_mul]
        exact q0_rt ⟨(((f54).trans ((f57).toC F (q0.2 5 (by decide)))).trans ((f60).toC F (q0.2 4 (by decide)))).trans ((f63).toC F (q0.2 4 (by decide))), trivial⟩
      · refine zok_ck ((q2).1) ?_
        refine zok_ck (((q2.2 4 (by decide)).1).1) ?_
        refine zok_pI (s57 ((q2.2 4 (by decide)).1) (by omega) (((f54).trans ((f57).toC F (q0.2 5 (by decide)))).rs)) (fun y65 u65 p65 => ?_)
        simp only [zput_s, zput_n, ti_g, oI_add, oI_sub, oI_mul, b54_98]
        try simp only [zput_s, zput_n, ti_g, oI_add, oI_sub, oI_mul]
        first | refine zok_ne (by omega) (fun c67 => ?_) (fun c67 => ?_) | refine zok_if (fun c67 => ?_) (fun c67 => ?_)
        · refine zok_ck ((q0).1) ?_
          refine zok_ck ((q2).1) ?_
          refine zok_c0 (s55 F (q0.2 4 (by decide)) (q1) (q2.2 4 (by decide)) (((f54).trans ((f57).toC F (q0.2 5 (by decide)))).rs)) (fun t68 p68 => ?_)
          obtain ⟨f68, p68⟩ := p68
          simp only [zput_s, zput_n, ti_g, oI_add, oI_sub, oI_mul, b54_129]
          try simp only [zput_s, zput_n, ti_g, oI_add, oI_sub, oI_mul]
          refine zok_ck ((q0).1) ?_
          refine zok_ck (((q0.2 4 (by decide)).1).1) ?_
          refine zok_c0 (s80 ((q0.2 4 (by decide)).1) ((((f54).trans ((f57).toC F (q0.2 5 (by decide)))).trans (f68)).rs)) (fun t70 p70 => ?_)
          obtain ⟨f70, p70⟩ := p70
          simp only [zput_s, zput_n, ti_g, oI_add, oI_sub, oI_mul, b54_136]
          try simp only [zput_s, zput_n, ti_g, oI_add, oI_sub, oI_mul]
          exact q0_rt ⟨(((f54).trans ((f57).toC F (q0.2 5 (by decide)))).trans (f68)).trans ((f70).toC F (q0.2 4 (by decide))), trivial⟩
        · refine zok_ck ((q0).1) ?_
          refine zok_ck ((q2).1) ?_
          refine zok_ck (((q0.2 4 (by decide)).1).1) ?_
          refine zok_c0 (s64 ((q0.2 4 (by decide)).1) ((q2.2 4 (by decide)).1) (((f54).trans ((f57).toC F (q0.2 5 (by decide)))).rs)) (fun t72 p72 => ?_)
          obtain ⟨f72, p72⟩ := p72
          simp only [zput_s, zput_n, ti_g, oI_add, oI_sub, oI_mul, b54_114]
          try simp only [zput_s, zput_n, ti_g, oI_add, oI_sub, oI_mul]
          simp only [zput_s, zput_n, ti_g, oI_add, oI_sub, oI_mul, b54_129]
          try simp only [zput_s, zput_n, ti_g, oI_add, oI_sub, oI_mul]
          refine zok_ck ((q0).1) ?_
          refine zok_ck (((q0.2 4 (by decide)).1).1) ?_
          refine zok_c0 (s80 ((q0.2 4 (by decide)).1) ((((f54).trans ((f57).toC F (q0.2 5 (by decide)))).trans ((f72).toC F (q0.2 4 (by decide)))).rs)) (fun t75 p75 => ?_)
          obtain ⟨f75, p75⟩ := p75
          simp only [zput_s, zput_n, ti_g, oI_add, oI_sub, oI_mul, b54_136]
          try simp only [zput_s, zput_n, ti_g, oI_add, oI_sub, oI_mul]
          exact q0_rt ⟨(((f54).trans ((f57).toC F (q0.2 5 (by decide)))).trans ((f72).toC F (q0.2 4 (by decide)))).trans ((f75).toC F (q0.2 4 (by decide))), trivial⟩
    · refine zok_ck ((q2).1) ?_
      refine zok_ck (((q2.2 4 (by decide)).1).1) ?_
      first | refine zok_ne (by omega) (fun c77 => ?_) (fun c77 => ?_) | refine zok_if (fun c77 => ?_) (fun c77 => ?_)
      · refine zok_ck ((q0).1) ?_
        refine zok_ck ((q2).1) ?_
        refine zok_ck (((q0.2 5 (by decide)).1).1) ?_
        refine zok_c0 (s64 ((q0.2 5 (by decide)).1) ((q2.2 5 (by decide)).1) ((f54).rs)) (fun t78 p78 => ?_)
        obtain ⟨f78, p78⟩ := p78
        simp only [zput_s, zput_n, ti_g, oI_add, oI_sub, oI_mul, b54_86]
        try simp only [zput_s, zput_n, ti_g, oI_add, oI_sub, oI_mul]
        first | refine zok_ne (by omega) (fun c80 => ?_) (fun c80 => ?_) | refine zok_if (fun c80 => ?_) (fun c80 => ?_)
        · refine zok_ck ((q0).1) ?_
          refine zok_ck ((q2).1) ?_
          refine zok_ck (((q0.2 4 (by decide)).1).1) ?_
          refine zok_c0 (s64 ((q0.2 4 (by decide)).1) ((q2.2 4 (by decide)).1) (((f54).trans ((f78).toC F (q0.2 5 (by decide)))).rs)) (fun t81 p81 => ?_)
          obtain ⟨f81, p81⟩ := p81
          simp only [zput_s, zput_n, ti_g, oI_add, oI_sub, oI_mul, b54_114]
          try simp only [zput_s, zput_n, ti_g, oI_add, oI_sub, oI_mul]
          simp only [zput_s, zput_n, ti_g, oI_add, oI_sub, oI_mul, b54_129]
          try simp only [zput_s, zput_n, ti_g, oI_add, oI_sub, oI_mul]
          refine zok_ck ((q0).1) ?_
          refine zok_ck (((q0.2 4 (by decide)).1).1) ?_
          refine zok_c0 (s80 ((q0.2 4 (by decide)).1) ((((f54).trans ((f78).toC F (q0.2 5 (by decide)))).trans ((f81).toC F (q0.2 4 (by decide)))).rs)) (fun t84 p84 => ?_)
          obtain ⟨f84, p84⟩ := p84
          simp only [zput_s, zput_n, ti_g, oI_add, oI_sub, oI_mul, b54_136]
          try simp only [zput_s, zput_n, ti_g, oI_add, oI_sub, oI_mul]
          exact q0_rt ⟨(((f54).trans ((f78).toC F (q0.2 5 (by decide)))).trans ((f81).toC F (q0.2 4 (by decide)))).trans ((f84).toC F (q0.2 4 (by decide))), trivial⟩
        · refine zok_ck ((q2).1) ?_
          refine zok_ck (((q2.2 4 (by decide)).1).1) ?_
          refine zok_pI (s57 ((q2.2 4 (by decide)).1) (by omega) (((f54).trans ((f78).toC F (q0.2 5 (by decide)))).rs)) (fun y86 u86 p86 => ?_)
          simp only [zput_s, zput_n, ti_g, oI_add, oI_sub, oI_mul, b54_98]
          try simp only [zput_s, zput_n, ti_g, oI_add, oI_sub, oI_mul]
          first | refine zok_ne (by omega) (fun c88 => ?_) (fun c88 => ?_) | refine zok_if (fun c88 => ?_) (fun c88 => ?_)
          · refine zok_ck ((q0).1) ?_
            refine zok_ck ((q2).1) ?_
            refine zok_c0 (s55 F (q0.2 4 (by decide)) (q1) (q2.2 4 (by decide)) (((f54).trans ((f78).toC F (q0.2 5 (by decide)))).rs)) (fun t89 p89 => ?_)
            obtain ⟨f89, p89⟩ := p89
            simp only [zput_s, zput_n, ti_g, oI_add, oI_sub, oI_mul, b54_129]
            try simp only [zput_s, zput_n, ti_g, oI_add, oI_sub, oI_mul]
            refine zok_ck ((q0).1) ?_
            refine zok_ck (((q0.2 4 (by decide)).1).1) ?_
            refine zok_c0 (s80 ((q0.2 4 (by decide)).1) ((((f54).trans ((f78).toC F (q0.2 5 (by decide)))).trans (f89)).rs)) (fun t91 p91 => ?_)
            obtain ⟨f91, p91⟩ := p91
            simp only [zput_s, zput_n, ti_g, oI_add, oI_sub, oI_mul, b54_136]
            try simp only [zput_s, zput_n, ti_g, oI_add, oI_sub, oI_mul]
            exact q0_rt ⟨(((f54).trans ((f78).toC F (q0.2 5 (by decide)))).trans (f89)).trans ((f91).toC F (q0.2 4 (by decide))), trivial⟩
          · refine zok_ck ((q0).1) ?_
            refine zok_ck ((q2).1) ?_
            refine zok_ck (((q0.2 4 (by decide)).1).1) ?_
            refine zok_c0 (s64 ((q0.2 4 (by decide)).1) ((q2.2 4 (by decide)).1) (((f54).trans ((f78).toC F (q0.2 5 (by decide)))).rs)) (fun t93 p93 => ?_)
            obtain ⟨f93, p93⟩ := p93
            simp only [zput_s, zput_n, ti_g, oI_add, oI_sub, oI_mul, b54_114]
            try simp only [zput_s, zput_n, ti_g, oI_add, oI_sub, oI_mul]
            simp only [zput_s, zput_n, ti_g, oI_add, oI_sub, oI_mul, b54_129]
            try simp only [zput_s, zput_n, ti_g, oI_add, oI_sub, oI_mul]
            refine zok_ck ((q0).1) ?_
            refine zok_ck (((q0.2 4 (by decide)).1).1) ?_
            refine zok_c0 (s80 ((q0.2 4 (by decide)).1) ((((f54).trans ((f78).toC F (q0.2 5 (by decide)))).trans ((f93).toC F (q0.2 4 (by decide)))).rs)) (fun t96 p96 => ?_)
            obtain ⟨f96, p96⟩ := p96
            simp only [zput_s, zput_n, ti_g, oI_add, oI_sub, oI_mul, b54_136]
            try simp only [zput_s, zput_n, ti_g, oI_add, oI_sub, oI_mul]
            exact q0_rt ⟨(((f54).trans ((f78).toC F (q0.2 5 (by decide)))).trans ((f93).toC F (q0.2 4 (by decide)))).trans ((f96).toC F (q0.2 4 (by decide))), trivial⟩
      · refine zok_ck ((q0).1) ?_
        refine zok_ck ((q1).1) ?_
        refine zok_ck (((q0.2 4 (by decide)).1).1) ?_
        refine zok_c0 (s64 ((q0.2 4 (by decide)).1) ((q1.2 4 (by decide)).1) ((f54).rs)) (fun t98 p98 => ?_)
        obtain ⟨f98, p98⟩ := p98
        have g99_1 := RS_sz (((f54).trans ((f98).toC F (q0.2 4 (by decide)))).rs) ((q2.2 5 (by decide)).1)
        simp only [zput_s, zput_n, ti_g, oI_add, oI_sub, oI_mul, b54_46]
        try simp only [zput_s, zput_n, ti_g, oI_add, oI_sub, oI_mul]
        refine zok_ck ((q0).1) ?_
        refine zok_ck ((q2).1) ?_
        refine zok_ck (((q2.2 5 (by decide)).1).1) ?_
        first | refine zok_eq (by omega) (fun c100 => ?_) (fun c100 => ?_) | refine zok_if (fun c100 => ?_) (fun c100 => ?_)
        · refine zok_ck ((q1).1) ?_
          refine zok_ck (((q0.2 5 (by decide)).1).1) ?_
          refine zok_c0 (s64 ((q0.2 5 (by decide)).1) ((q1.2 5 (by decide)).1) (((f54).trans ((f98).toC F (q0.2 4 (by decide)))).rs)) (fun t101 p101 => ?_)
          obtain ⟨f101, p101⟩ := p101
          simp only [zput_s, zput_n, ti_g, oI_add, oI_sub, oI_mul, b54_74]
          try simp only [zput_s, zput_n, ti_g, oI_add, oI_sub, oI_mul]
          exact q0_rt ⟨((f54).trans ((f98).toC F (q0.2 4 (by decide)))).trans ((f101).toC F (q0.2 5 (by decide))), trivial⟩
        · refine zok_ck ((q2).1) ?_
          refine zok_ck (((q0.2 5 (by decide)).1).1) ?_
          refine zok_c0 (s64 ((q0.2 5 (by decide)).1) ((q2.2 5 (by decide)).1) (((f54).trans ((f98).toC F (q0.2 4 (by decide)))).rs)) (fun t103 p103 => ?_)
          obtain ⟨f103, p103⟩ := p103
          simp only [zput_s, zput_n, ti_g, oI_add, oI_sub, oI_mul, b54_74]
          try simp only [zput_s, zput_n, ti_g, oI_add, oI_sub, oI_mul]
          exact q0_rt ⟨((f54).trans ((f98).toC F (q0.2 4 (by decide)))).trans ((f103).toC F (q0.2 5 (by decide))), trivial⟩
/-! X5_make -/
theorem s53 {sh : zSh} {T MB : Nat} (F : zCl sh T MB) {r0 : Nat} (q0 : zPt sh T MB r0) {r1 : Nat} (q1 : zPt sh T MB r1) {r2 : Nat} (q2 : zPt sh T MB r2) {x3 : Int} (u3 : -2147483648 ≤ x3 ∧ x3 ≤ 2147483647) {t : zSt} (hR : RS sh t) : zok (zcl zP 53 [zR r0, zR r1, zR r2, zI (oI x3)] (sh, t)) (zq0 (fun t' => FrC sh T MB t t' ∧ (True)) sh) := by
  have g1_1 := RS_sz (hR) ((q2.2 0 (by decide)).1)
  rw [b53_0]
  try simp only [zput_s, zput_n, ti_g, oI_add, oI_sub, oI_mul]
  refine zok_ck ((q2).1) ?_
  refine zok_ck (((q2.2 0 (by decide)).1).1) ?_
  first | refine zok_eq (by omega) (fun c2 => ?_) (fun c2 => ?_) | refine zok_if (fun c2 => ?_) (fun c2 => ?_)
  · refine zok_ck ((q0).1) ?_
    refine zok_ck ((q1).1) ?_
    refine zok_ck (((q0.2 0 (by decide)).1).1) ?_
    refine zok_c0 (s64 ((q0.2 0 (by decide)).1) ((q1.2 0 (by decide)).1) (hR)) (fun t3 p3 => ?_)
    obtain ⟨f3, p3⟩ := p3
    simp only [zput_s, zput_n, ti_g, oI_add, oI_sub, oI_mul, b53_56]
    try simp only [zput_s, zput_n, ti_g, oI_add, oI_sub, oI_mul]
    refine zok_c0 (s54 F (q0) (q1) (q2) (((f3).toC F (q0.2 0 (by decide))).rs)) (fun t5 p5 => ?_)
    obtain ⟨f5, p5⟩ := p5
    simp only [zput_s, zput_n, ti_g, oI_add, oI_sub, oI_mul, b53_62]
    try simp only [zput_s, zput_n, ti_g, oI_add, oI_sub, oI_mul]
    refine zok_ck ((q0).1) ?_
    refine zok_ck ((q2).1) ?_
    refine zok_ck (((q0.2 6 (by decide)).1).1) ?_
    refine zok_c0 (s64 ((q0.2 6 (by decide)).1) ((q2.2 6 (by decide)).1) ((((f3).toC F (q0.2 0 (by decide))).trans (f5)).rs)) (fun t7 p7 => ?_)
    obtain ⟨f7, p7⟩ := p7
    simp only [zput_s, zput_n, ti_g, oI_add, oI_sub, oI_mul, b53_73]
    try simp only [zput_s, zput_n, ti_g, oI_add, oI_sub, oI_mul]
    refine zok_ck ((q0).1) ?_
    refine zok_c0 (s30 F (q0) (((((f3).toC F (q0.2 0 (by decide))).trans (f5)).trans ((f7).toC F (q0.2 6 (by decide)))).rs)) (fun t9 p9 => ?_)
    obtain ⟨f9, p9⟩ := p9
    simp only [zput_s, zput_n, ti_g, oI_add, oI_sub, oI_mul, b53_77]
    try simp only [zput_s, zput_n, ti_g, oI_add, oI_sub, oI_mul]
    exact q0_rt ⟨((((f3).toC F (q0.2 0 (by decide))).trans (f5)).trans ((f7).toC F (q0.2 6 (by decide)))).trans (f9), trivial⟩
  · first | refine zok_ne (by omega) (fun c11 => ?_) (fun c11 => ?_) | refine zok_if (fun c11 => ?_) (fun c11 => ?_)
    · refine zok_ck ((q0).1) ?_
      refine zok_c0 (s24 F (q0) (q2) (hR)) (fun t12 p12 => ?_)
      obtain ⟨f12, p12⟩ := p12
      simp only [zput_s, zput_n, ti_g, oI_add, oI_sub, oI_mul, b53_35]
      try simp only [zput_s, zput_n, ti_g, oI_add, oI_sub, oI_mul]
      refine zok_ck ((q0).1) ?_
      refine zok_ck (((q0.2 4 (by decide)).1).1) ?_
      refine zok_c0 (s80 ((q0.2 4 (by decide)).1) ((f12).rs)) (fun t14 p14 => ?_)
      obtain ⟨f14, p14⟩ := p14
      simp only [zput_s, zput_n, ti_g, oI_add, oI_sub, oI_mul, b53_42]
      try simp only [zput_s, zput_n, ti_g, oI_add, oI_sub, oI_mul]
      simp only [zput_s, zput_n, ti_g, oI_add, oI_sub, oI_mul, b53_73]
      try simp only [zput_s, zput_n, ti_g, oI_add, oI_sub, oI_mul]
      refine zok_ck ((q0).1) ?_
      refine zok_c0 (s30 F (q0) (((f12).trans ((f14).toC F (q0.2 4 (by decide)))).rs)) (fun t17 p17 => ?_)
      obtain ⟨f17, p17⟩ := p17
      simp only [zput_s, zput_n, ti_g, oI_add, oI_sub, oI_mul, b53_77]
      try simp only [zput_s, zput_n, ti_g, oI_add, oI_sub, oI_mul]
      exact q0_rt ⟨((f12).trans ((f14).toC F (q0.2 4 (by decide)))).trans (f17), trivial⟩
    · refine zok_ck ((q1).1) ?_
      refine zok_ck (((q2.2 0 (by decide)).1).1) ?_
      refine zok_pI (s66 ((q2.2 0 (by decide)).1) ((q1.2 0 (by decide)).1) (hR)) (fun y19 u19 p19 => ?_)
      simp only [zput_s, zput_n, ti_g, oI_add, oI_sub, oI_mul, b53_27]
      try simp only [zput_s, zput_n, ti_g, oI_add, oI_sub, oI_mul]
      first | refine zok_ne (by omega) (fun c21 => ?_) (fun c21 => ?_) | refine zok_if (fun c21 => ?_) (fun c21 => ?_)
      · refine zok_ck ((q0).1) ?_
        refine zok_ck ((q1).1) ?_
        refine zok_ck (((q0.2 0 (by decide)).1).1) ?_
        refine zok_c0 (s64 ((q0.2 0 (by decide)).1) ((q1.2 0 (by decide)).1) (hR)) (fun t22 p22 => ?_)
        obtain ⟨f22, p22⟩ := p22
        simp only [zput_s, zput_n, ti_g, oI_add, oI_sub, oI_mul, b53_56]
        try simp only [zput_s, zput_n, ti_g, oI_add, oI_sub, oI_mul]
        refine zok_c0 (s54 F (q0) (q1) (q2) (((f22).toC F (q0.2 0 (by decide))).rs)) (fun t24 p24 => ?_)
        obtain ⟨f24, p24⟩ := p24
        simp only [zput_s, zput_n, ti_g, oI_add, oI_sub, oI_mul, b53_62]
        try simp only [zput_s, zput_n, ti_g, oI_add, oI_sub, oI_mul]
        refine zok_ck ((q0).1) ?_
        refine zok_ck ((q2).1) ?_
        refine zok_ck (((q0.2 6 (by decide)).1).1) ?_
        refine zok_c0 (s64 ((q0.2 6 (by decide)).1) ((q2.2 6 (by decide)).1) ((((f22).toC F (q0.2 0 (by decide))).trans (f24)).rs)) (fun t26 p26 => ?_)
        obtain ⟨f26, p26⟩ := p26
        simp only [zput_s, zput_n, ti_g, oI_add, oI_sub, oI_mul, b53_73]
        try simp only [zput_s, zput_n, ti_g, oI_add, oI_sub, oI_mul]
        refine zok_ck ((q0).1) ?_
        refine zok_c0 (s30 F (q0) (((((f22).toC F (q0.2 0 (by decide))).trans (f24)).trans ((f26).toC F (q0.2 6 (by decide)))).rs)) (fun t28 p28 => ?_)
        obtain ⟨f28, p28⟩ := p28
        simp only [zput_s, zput_n, ti_g, oI_add, oI_sub, oI_mul, b53_77]
        try simp only [zput_s, zput_n, ti_g, oI_add, oI_sub, oI_mul]
        exact q0_rt ⟨((((f22).toC F (q0.2 0 (by decide))).trans (f24)).trans ((f26).toC F (q0.2 6 (by decide)))).trans (f28), trivial⟩
      · refine zok_ck ((q0).1) ?_
        refine zok_c0 (s24 F (q0) (q2) (hR)) (fun t30 p30 => ?_)
        obtain ⟨f30, p30⟩ := p30
        simp only [zput_s, zput_n, ti_g, oI_add, oI_sub, oI_mul, b53_35]
        try simp only [zput_s, zput_n, ti_g, oI_add, oI_sub, oI_mul]
        refine zok_ck ((q0).1) ?_
        refine zok_ck (((q0.2 4 (by decide)).1).1) ?_
        refine zok_c0 (s80 ((q0.2 4 (by decide)).1) ((f30).rs)) (fun t32 p32 => ?_)
        obtain ⟨f32, p32⟩ := p32
        simp only [zput_s, zput_n, ti_g, oI_add, oI_sub, oI_mul, b53_42]
        try simp only [zput_s, zput_n, ti_g, oI_add, oI_sub, oI_mul]
        simp only [zput_s, zput_n, ti_g, oI_add, oI_sub, oI_mul, b53_73]
        try simp only [zput_s, zput_n, ti_g, oI_add, oI_sub, oI_mul]
        refine zok_ck ((q0).1) ?_
        refine zok_c0 (s30 F (q0) (((f30).trans ((f32).toC F (q0.2 4 (by decide)))).rs)) (fun t35 p35 => ?_)
        obtain ⟨f35, p35⟩ := p35
        simp only [zput_s, zput_n, ti_g, oI_add, oI_sub, oI_mul, b53_77]
        try simp only [zput_s, zput_n, ti_g, oI_add, oI_sub, oI_mul]
        exact q0_rt ⟨((f30).trans ((f32).toC F (q0.2 4 (by decide)))).trans (f35), trivial⟩
/-! X1_ownPort -/
theorem s20 {sh : zSh} {T MB : Nat} (F : zCl sh T MB) {r0 : Nat} (q0 : zRw sh T MB r0) {t : zSt} (hR : RS sh t) : zok (zcl zP 20 [zR r0] (sh, t)) (qI (fun x t' => t' = t ∧ (True)) sh) := by
  have hz0 := RS_sz (hR) q0.1
  rw [b20_0]
  try simp only [zput_s, zput_n, ti_g, oI_add, oI_sub, oI_mul]
  refine zok_ck (((q0).1).1) ?_
  refine zok_pI (s67 ((q0).1) ⟨Nat.le_of_ble_eq_true rfl, Nat.le_of_ble_eq_true rfl⟩ (hR)) (fun y2 u2 p2 => ?_)
  simp only [zput_s, zput_n, ti_g, oI_add, oI_sub, oI_mul, b20_6]
  try simp only [zput_s, zput_n, ti_g, oI_add, oI_sub, oI_mul]
  first | refine zok_ne (by omega) (fun c4 => ?_) (fun c4 => ?_) | refine zok_if (fun c4 => ?_) (fun c4 => ?_)
  · first | exact qI_rt (by omega) (by omega) ⟨rfl, trivial⟩ | exact qI_nf ⟨rfl, trivial⟩
  · refine zok_ck (((q0).1).1) ?_
    refine zok_pI (s67 ((q0).1) ⟨Nat.le_of_ble_eq_true rfl, Nat.le_of_ble_eq_true rfl⟩ (hR)) (fun y5 u5 p5 => ?_)
    simp only [zput_s, zput_n, ti_g, oI_add, oI_sub, oI_mul, b20_15]
    try simp only [zput_s, zput_n, ti_g, oI_add, oI_sub, oI_mul]
    first | refine zok_eq (by omega) (fun c7 => ?_) (fun c7 => ?_) | refine zok_if (fun c7 => ?_) (fun c7 => ?_)
    · refine zok_ck (((q0).1).1) ?_
      refine zok_pI (s67 ((q0).1) ⟨Nat.le_of_ble_eq_true rfl, Nat.le_of_ble_eq_true rfl⟩ (hR)) (fun y8 u8 p8 => ?_)
      simp only [zput_s, zput_n, ti_g, oI_add, oI_sub, oI_mul, b20_27]
      try simp only [zput_s, zput_n, ti_g, oI_add, oI_sub, oI_mul]
      first | refine zok_ne (by omega) (fun c10 => ?_) (fun c10 => ?_) | refine zok_if (fun c10 => ?_) (fun c10 => ?_)
      · first | exact qI_rt (by omega) (by omega) ⟨rfl, trivial⟩ | exact qI_nf ⟨rfl, trivial⟩
      · refine zok_ck (((q0).1).1) ?_
        refine zok_pI (s67 ((q0).1) ⟨Nat.le_of_ble_eq_true rfl, Nat.le_of_ble_eq_true rfl⟩ (hR)) (fun y11 u11 p11 => ?_)
        simp only [zput_s, zput_n, ti_g, oI_add, oI_sub, oI_mul, b20_36]
        try simp only [zput_s, zput_n, ti_g, oI_add, oI_sub, oI_mul]
        first | refine zok_eq (by omega) (fun c13 => ?_) (fun c13 => ?_) | refine zok_if (fun c13 => ?_) (fun c13 => ?_)
        · refine zok_ck (((q0).1).1) ?_
          refine zok_pI (s67 ((q0).1) ⟨Nat.le_of_ble_eq_true rfl, Nat.le_of_ble_eq_true rfl⟩ (hR)) (fun y14 u14 p14 => ?_)
          simp only [zput_s, zput_n, ti_g, oI_add, oI_sub, oI_mul, b20_49]
          try simp only [zput_s, zput_n, ti_g, oI_add, oI_sub, oI_mul]
          first | refine zok_eq (by omega) (fun c16 => ?_) (fun c16 => ?_) | refine zok_if (fun c16 => ?_) (fun c16 => ?_)
          · first | exact qI_rt (by omega) (by omega) ⟨rfl, trivial⟩ | exact qI_nf ⟨rfl, trivial⟩
          · first | exact qI_rt (by omega) (by omega) ⟨rfl, trivial⟩ | exact qI_nf ⟨rfl, trivial⟩
        · first | exact qI_rt (by omega) (by omega) ⟨rfl, trivial⟩ | exact qI_nf ⟨rfl, trivial⟩
    · first | exact qI_rt (by omega) (by omega) ⟨rfl, trivial⟩ | exact qI_nf ⟨rfl, trivial⟩
/-! X1_dropPort -/
theorem s19 {sh : zSh} {T MB : Nat} (F : zCl sh T MB) {r0 : Nat} (q0 : zPt sh T MB r0) {t : zSt} (hR : RS sh t) : zok (zcl zP 19 [zR r0] (sh, t)) (zq0 (fun t' => FrC sh T MB t t' ∧ (True)) sh) := by
  rw [b19_0]
  try simp only [zput_s, zput_n, ti_g, oI_add, oI_sub, oI_mul]
  refine zok_ck ((q0).1) ?_
  refine zok_pI (s20 F (q0.2 0 (by decide)) (hR)) (fun y2 u2 p2 => ?_)
  have g3_1 := RS_sz (hR) ((q0.2 3 (by decide)).1)
  simp only [zput_s, zput_n, ti_g, oI_add, oI_sub, oI_mul, b19_7]
  try simp only [zput_s, zput_n, ti_g, oI_add, oI_sub, oI_mul]
  refine zok_ck ((q0).1) ?_
  refine zok_ck (((q0.2 3 (by decide)).1).1) ?_
  first | refine zok_eq (by omega) (fun c4 => ?_) (fun c4 => ?_) | refine zok_if (fun c4 => ?_) (fun c4 => ?_)
  · first | refine zok_eq (by omega) (fun c5 => ?_) (fun c5 => ?_) | refine zok_if (fun c5 => ?_) (fun c5 => ?_)
    · have g6_1 := RS_sz (hR) ((q0.2 2 (by decide)).1)
      have g6_2 := RS_sz (hR) ((q0.2 4 (by decide)).1)
      simp only [zput_s, zput_n, ti_g, oI_add, oI_sub, oI_mul, b19_48]
      try simp only [zput_s, zput_n, ti_g, oI_add, oI_sub, oI_mul]
      first | refine zok_eq (by omega) (fun c7 => ?_) (fun c7 => ?_) | refine zok_if (fun c7 => ?_) (fun c7 => ?_)
      · simp only [zput_s, zput_n, ti_g, oI_add, oI_sub, oI_mul, b19_82]
        try simp only [zput_s, zput_n, ti_g, oI_add, oI_sub, oI_mul]
        exact q0_rt ⟨FrC.refl hR, trivial⟩
      · refine zok_ck ((q0).1) ?_
        refine zok_ck (((q0.2 2 (by decide)).1).1) ?_
        first | refine zok_eq (by omega) (fun c9 => ?_) (fun c9 => ?_) | refine zok_if (fun c9 => ?_) (fun c9 => ?_)
        · simp only [zput_s, zput_n, ti_g, oI_add, oI_sub, oI_mul, b19_82]
          try simp only [zput_s, zput_n, ti_g, oI_add, oI_sub, oI_mul]
          exact q0_rt ⟨FrC.refl hR, trivial⟩
        · refine zok_ck ((q0).1) ?_
          refine zok_ck (((q0.2 4 (by decide)).1).1) ?_
          first | refine zok_ne (by omega) (fun c11 => ?_) (fun c11 => ?_) | refine zok_if (fun c11 => ?_) (fun c11 => ?_)
          · simp only [zput_s, zput_n, ti_g, oI_add, oI_sub, oI_mul, b19_82]
            try simp only [zput_s, zput_n, ti_g, oI_add, oI_sub, oI_mul]
            exact q0_rt ⟨FrC.refl hR, trivial⟩
          · refine zok_ck ((q0).1) ?_
            refine zok_ck (((q0.2 4 (by decide)).1).1) ?_
            refine zok_c0 (s59 ((q0.2 4 (by decide)).1) (hR)) (fun t13 p13 => ?_)
            obtain ⟨f13, p13⟩ := p13
            simp only [zput_s, zput_n, ti_g, oI_add, oI_sub, oI_mul, b19_82]
            try simp only [zput_s, zput_n, ti_g, oI_add, oI_sub, oI_mul]
            exact q0_rt ⟨(f13).toC F (q0.2 4 (by decide)), trivial⟩
    · refine zok_ck ((q0).1) ?_
      refine zok_ck (((q0.2 3 (by decide)).1).1) ?_
      refine zok_c0 (s62 ((q0.2 3 (by decide)).1) (hR)) (fun t15 p15 => ?_)
      obtain ⟨f15, p15⟩ := p15
      have g16_1 := RS_sz (((f15).toC F (q0.2 3 (by decide))).rs) ((q0.2 2 (by decide)).1)
      have g16_2 := RS_sz (((f15).toC F (q0.2 3 (by decide))).rs) ((q0.2 4 (by decide)).1)
      simp only [zput_s, zput_n, ti_g, oI_add, oI_sub, oI_mul, b19_48]
      try simp only [zput_s, zput_n, ti_g, oI_add, oI_sub, oI_mul]
      first | refine zok_eq (by omega) (fun c17 => ?_) (fun c17 => ?_) | refine zok_if (fun c17 => ?_) (fun c17 => ?_)
      · simp only [zput_s, zput_n, ti_g, oI_add, oI_sub, oI_mul, b19_82]
        try simp only [zput_s, zput_n, ti_g, oI_add, oI_sub, oI_mul]
        exact q0_rt ⟨(f15).toC F (q0.2 3 (by decide)), trivial⟩
      · refine zok_ck ((q0).1) ?_
        refine zok_ck (((q0.2 2 (by decide)).1).1) ?_
        first | refine zok_eq (by omega) (fun c19 => ?_) (fun c19 => ?_) | refine zok_if (fun c19 => ?_) (fun c19 => ?_)
        · simp only [zput_s, zput_n, ti_g, oI_add, oI_sub, oI_mul, b19_82]
          try simp only [zput_s, zput_n, ti_g, oI_add, oI_sub, oI_mul]
          exact q0_rt ⟨(f15).toC F (q0.2 3 (by decide)), trivial⟩
        · refine zok_ck ((q0).1) ?_
          refine zok_ck (((q0.2 4 (by decide)).1).1) ?_
          first | refine zok_ne (by omega) (fun c21 => ?_) (fun c21 => ?_) | refine zok_if (fun c21 => ?_) (fun c21 => ?_)
          · simp only [zput_s, zput_n, ti_g, oI_add, oI_sub, oI_mul, b19_82]
            try simp only [zput_s, zput_n, ti_g, oI_add, oI_sub, oI_mul]
            exact q0_rt ⟨(f15).toC F (q0.2 3 (by decide)), trivial⟩
          · refine zok_ck ((q0).1) ?_
            refine zok_ck (((q0.2 4 (by decide)).1).1) ?_
            refine zok_c0 (s59 ((q0.2 4 (by decide)).1) (((f15).toC F (q0.2 3 (by decide))).rs)) (fun t23 p23 => ?_)
            obtain ⟨f23, p23⟩ := p23
            simp only [zput_s, zput_n, ti_g, oI_add, oI_sub, oI_mul, b19_82]
            try simp only [zput_s, zput_n, ti_g, oI_add, oI_sub, oI_mul]
            exact q0_rt ⟨((f15).toC F (q0.2 3 (by decide))).trans ((f23).toC F (q0.2 4 (by decide))), trivial⟩
  · first | refine zok_eq (by omega) (fun c25 => ?_) (fun c25 => ?_) | refine zok_if (fun c25 => ?_) (fun c25 => ?_)
    · have g26_1 := RS_sz (hR) ((q0.2 2 (by decide)).1)
      have g26_2 := RS_sz (hR) ((q0.2 4 (by decide)).1)
      simp only [zput_s, zput_n, ti_g, oI_add, oI_sub, oI_mul, b19_48]
      try simp only [zput_s, zput_n, ti_g, oI_add, oI_sub, oI_mul]
      first | refine zok_eq (by omega) (fun c27 => ?_) (fun c27 => ?_) | refine zok_if (fun c27 => ?_) (fun c27 => ?_)
      · simp only [zput_s, zput_n, ti_g, oI_add, oI_sub, oI_mul, b19_82]
        try simp only [zput_s, zput_n, ti_g, oI_add, oI_sub, oI_mul]
        exact q0_rt ⟨FrC.refl hR, trivial⟩
      · refine zok_ck ((q0).1) ?_
        refine zok_ck (((q0.2 2 (by decide)).1).1) ?_
        first | refine zok_eq (by omega) (fun c29 => ?_) (fun c29 => ?_) | refine zok_if (fun c29 => ?_) (fun c29 => ?_)
        · simp only [zput_s, zput_n, ti_g, oI_add, oI_sub, oI_mul, b19_82]
          try simp only [zput_s, zput_n, ti_g, oI_add, oI_sub, oI_mul]
          exact q0_rt ⟨FrC.refl hR, trivial⟩
        · refine zok_ck ((q0).1) ?_
          refine zok_ck (((q0.2 4 (by decide)).1).1) ?_
          first | refine zok_ne (by omega) (fun c31 => ?_) (fun c31 => ?_) | refine zok_if (fun c31 => ?_) (fun c31 => ?_)
          · simp only [zput_s, zput_n, ti_g, oI_add, oI_sub, oI_mul, b19_82]
            try simp only [zput_s, zput_n, ti_g, oI_add, oI_sub, oI_mul]
            exact q0_rt ⟨FrC.refl hR, trivial⟩
          · refine zok_ck ((q0).1) ?_
            refine zok_ck (((q0.2 4 (by decide)).1).1) ?_
            refine zok_c0 (s59 ((q0.2 4 (by decide)).1) (hR)) (fun t33 p33 => ?_)
            obtain ⟨f33, p33⟩ := p33
            simp only [zput_s, zput_n, ti_g, oI_add, oI_sub, oI_mul, b19_82]
            try simp only [zput_s, zput_n, ti_g, oI_add, oI_sub, oI_mul]
            exact q0_rt ⟨(f33).toC F (q0.2 4 (by decide)), trivial⟩
    · refine zok_ck ((q0).1) ?_
      refine zok_pI (s31 F (q0) (hR)) (fun y35 u35 p35 => ?_)
      simp only [zput_s, zput_n, ti_g, oI_add, oI_sub, oI_mul, b19_27]
      try simp only [zput_s, zput_n, ti_g, oI_add, oI_sub, oI_mul]
      first | refine zok_ne (by omega) (fun c37 => ?_) (fun c37 => ?_) | refine zok_if (fun c37 => ?_) (fun c37 => ?_)
      · have g38_1 := RS_sz (hR) ((q0.2 2 (by decide)).1)
        have g38_2 := RS_sz (hR) ((q0.2 4 (by decide)).1)
        simp only [zput_s, zput_n, ti_g, oI_add, oI_sub, oI_mul, b19_48]
        try simp only [zput_s, zput_n, ti_g, oI_add, oI_sub, oI_mul]
        first | refine zok_eq (by omega) (fun c39 => ?_) (fun c39 => ?_) | refine zok_if (fun c39 => ?_) (fun c39 => ?_)
        · simp only [zput_s, zput_n, ti_g, oI_add, oI_sub, oI_mul, b19_82]
          try simp only [zput_s, zput_n, ti_g, oI_add, oI_sub, oI_mul]
          exact q0_rt ⟨FrC.refl hR, trivial⟩
        · refine zok_ck ((q0).1) ?_
          refine zok_ck (((q0.2 2 (by decide)).1).1) ?_
          first | refine zok_eq (by omega) (fun c41 => ?_) (fun c41 => ?_) | refine zok_if (fun c41 => ?_) (fun c41 => ?_)
          · simp only [zput_s, zput_n, ti_g, oI_add, oI_sub, oI_mul, b19_82]
            try simp only [zput_s, zput_n, ti_g, oI_add, oI_sub, oI_mul]
            exact q0_rt ⟨FrC.refl hR, trivial⟩
          · refine zok_ck ((q0).1) ?_
            refine zok_ck (((q0.2 4 (by decide)).1).1) ?_
            first | refine zok_ne (by omega) (fun c43 => ?_) (fun c43 => ?_) | refine zok_if (fun c43 => ?_) (fun c43 => ?_)
            · simp only [zput_s, zput_n, ti_g, oI_add, oI_sub, oI_mul, b19_82]
              try simp only [zput_s, zput_n, ti_g, oI_add, oI_sub, oI_mul]
              exact q0_rt ⟨FrC.refl hR, trivial⟩
            · refine zok_ck ((q0).1) ?_
              refine zok_ck (((q0.2 4 (by decide)).1).1) ?_
              refine zok_c0 (s59 ((q0.2 4 (by decide)).1) (hR)) (fun t45 p45 => ?_)
              obtain ⟨f45, p45⟩ := p45
              simp only [zput_s, zput_n, ti_g, oI_add, oI_sub, oI_mul, b19_82]
              try simp only [zput_s, zput_n, ti_g, oI_add, oI_sub, oI_mul]
              exact q0_rt ⟨(f45).toC F (q0.2 4 (by decide)), trivial⟩
      · first | refine zok_eq (by omega) (fun c47 => ?_) (fun c47 => ?_) | refine zok_if (fun c47 => ?_) (fun c47 => ?_)
        · have g48_1 := RS_sz (hR) ((q0.2 2 (by decide)).1)
          have g48_2 := RS_sz (hR) ((q0.2 4 (by decide)).1)
          simp only [zput_s, zput_n, ti_g, oI_add, oI_sub, oI_mul, b19_48]
          try simp only [zput_s, zput_n, ti_g, oI_add, oI_sub, oI_mul]
          first | refine zok_eq (by omega) (fun c49 => ?_) (fun c49 => ?_) | refine zok_if (fun c49 => ?_) (fun c49 => ?_)
          · simp only [zput_s, zput_n, ti_g, oI_add, oI_sub, oI_mul, b19_82]
            try simp only [zput_s, zput_n, ti_g, oI_add, oI_sub, oI_mul]
            exact q0_rt ⟨FrC.refl hR, trivial⟩
          · refine zok_ck ((q0).1) ?_
            refine zok_ck (((q0.2 2 (by decide)).1).1) ?_
            first | refine zok_eq (by omega) (fun c51 => ?_) (fun c51 => ?_) | refine zok_if (fun c51 => ?_) (fun c51 => ?_)
            · simp only [zput_s, zput_n, ti_g, oI_add, oI_sub, oI_mul, b19_82]
              try simp only [zput_s, zput_n, ti_g, oI_add, oI_sub, oI_mul]
              exact q0_rt ⟨FrC.refl hR, trivial⟩
            · refine zok_ck ((q0).1) ?_
              refine zok_ck (((q0.2 4 (by decide)).1).1) ?_
              first | refine zok_ne (by omega) (fun c53 => ?_) (fun c53 => ?_) | refine zok_if (fun c53 => ?_) (fun c53 => ?_)
              · simp only [zput_s, zput_n, ti_g, oI_add, oI_sub, oI_mul, b19_82]
                try simp only [zput_s, zput_n, ti_g, oI_add, oI_sub, oI_mul]
                exact q0_rt ⟨FrC.refl hR, trivial⟩
              · refine zok_ck ((q0).1) ?_
                refine zok_ck (((q0.2 4 (by decide)).1).1) ?_
                refine zok_c0 (s59 ((q0.2 4 (by decide)).1) (hR)) (fun t55 p55 => ?_)
                obtain ⟨f55, p55⟩ := p55
                simp only [zput_s, zput_n, ti_g, oI_add, oI_sub, oI_mul, b19_82]
                try simp only [zput_s, zput_n, ti_g, oI_add, oI_sub, oI_mul]
                exact q0_rt ⟨(f55).toC F (q0.2 4 (by decide)), trivial⟩
        · refine zok_ck ((q0).1) ?_
          refine zok_ck (((q0.2 3 (by decide)).1).1) ?_
          refine zok_c0 (s62 ((q0.2 3 (by decide)).1) (hR)) (fun t57 p57 => ?_)
          obtain ⟨f57, p57⟩ := p57
          have g58_1 := RS_sz (((f57).toC F (q0.2 3 (by decide))).rs) ((q0.2 2 (by decide)).1)
          have g58_2 := RS_sz (((f57).toC F (q0.2 3 (by decide))).rs) ((q0.2 4 (by decide)).1)
          simp only [zput_s, zput_n, ti_g, oI_add, oI_sub, oI_mul, b19_48]
          try simp only [zput_s, zput_n, ti_g, oI_add, oI_sub, oI_mul]
          first | refine zok_eq (by omega) (fun c59 => ?_) (fun c59 => ?_) | refine zok_if (fun c59 => ?_) (fun c59 => ?_)
          · simp only [zput_s, zput_n, ti_g, oI_add, oI_sub, oI_mul, b19_82]
            try simp only [zput_s, zput_n, ti_g, oI_add, oI_sub, oI_mul]
            exact q0_rt ⟨(f57).toC F (q0.2 3 (by decide)), trivial⟩
          · refine zok_ck ((q0).1) ?_
            refine zok_ck (((q0.2 2 (by decide)).1).1) ?_
            first | refine zok_eq (by omega) (fun c61 => ?_) (fun c61 => ?_) | refine zok_if (fun c61 => ?_) (fun c61 => ?_)
            · simp only [zput_s, zput_n, ti_g, oI_add, oI_sub, oI_mul, b19_82]
              try simp only [zput_s, zput_n, ti_g, oI_add, oI_sub, oI_mul]
              exact q0_rt ⟨(f57).toC F (q0.2 3 (by decide)), trivial⟩
            · refine zok_ck ((q0).1) ?_
              refine zok_ck (((q0.2 4 (by decide)).1).1) ?_
              first | refine zok_ne (by omega) (fun c63 => ?_) (fun c63 => ?_) | refine zok_if (fun c63 => ?_) (fun c63 => ?_)
              · simp only [zput_s, zput_n, ti_g, oI_add, oI_sub, oI_mul, b19_82]
                try simp only [zput_s, zput_n, ti_g, oI_add, oI_sub, oI_mul]
                exact q0_rt ⟨(f57).toC F (q0.2 3 (by decide)), trivial⟩
              · refine zok_ck ((q0).1) ?_
                refine zok_ck (((q0.2 4 (by decide)).1).1) ?_
                refine zok_c0 (s59 ((q0.2 4 (by decide)).1) (((f57).toC F (q0.2 3 (by decide))).rs)) (fun t65 p65 => ?_)
                obtain ⟨f65, p65⟩ := p65
                simp only [zput_s, zput_n, ti_g, oI_add, oI_sub, oI_mul, b19_82]
                try simp only [zput_s, zput_n, ti_g, oI_add, oI_sub, oI_mul]
                exact q0_rt ⟨((f57).toC F (q0.2 3 (by decide))).trans ((f65).toC F (q0.2 4 (by decide))), trivial⟩
/-! X1_freeCodes -/
theorem l18_2 {sh : zSh} {T MB : Nat} (F : zCl sh T MB) {r0 : Nat} (q0 : zPt sh T MB r0) {t0 : zSt} (hR : RS sh t0) : ∀ (n : Nat) (x1 : Int)  (t1 : zSt), FrC sh T MB t0 t1 → (-2147483648 ≤ x1 ∧ x1 ≤ 2147483647) ∧ (0 ≤ x1) → (7 - x1).toNat < n → zok (zev zP 18 2 [some (zR r0), some (zI (oI x1))] [] (sh, t1)) (zq0 (fun t' => FrC sh T MB t0 t' ∧ (True)) sh) := by
  intro n
  induction n with
  | zero => intro x1  t1 f0 _ hm; omega
  | succ n ih =>
    intro x1  t1 f0 hv hm
    simp only [zput_s, zput_n, ti_g, oI_add, oI_sub, oI_mul, b18_2]
    try simp only [zput_s, zput_n, ti_g, oI_add, oI_sub, oI_mul]
    first | refine zok_le (by omega) (fun c2 => ?_) (fun c2 => ?_) | refine zok_if (fun c2 => ?_) (fun c2 => ?_)
    · exact q0_rt ⟨f0, trivial⟩
    · refine zok_ck ((q0).1) ?_
      refine zok_pR (s22 F (q0) (by omega) (f0.rs)) (fun y3 p3 => ?_)
      simp only [zput_s, zput_n, ti_g, oI_add, oI_sub, oI_mul, b18_13]
      try simp only [zput_s, zput_n, ti_g, oI_add, oI_sub, oI_mul]
      refine zok_ck (((p3).1).1) ?_
      refine zok_c0 (s78 ((p3).1) (f0.rs)) (fun t5 p5 => ?_)
      obtain ⟨f5, p5⟩ := p5
      simp only [zput_s, zput_n, ti_g, oI_add, oI_sub, oI_mul, b18_16]
      try simp only [zput_s, zput_n, ti_g, oI_add, oI_sub, oI_mul]
      try simp only [zput_s, zput_n, ti_g, oI_add, oI_sub, oI_mul]
      exact ih _ _ ((f0).trans ((f5).toC F (p3))) (by omega) (by omega)
theorem s18 {sh : zSh} {T MB : Nat} (F : zCl sh T MB) {r0 : Nat} (q0 : zPt sh T MB r0) {t : zSt} (hR : RS sh t) : zok (zcl zP 18 [zR r0] (sh, t)) (zq0 (fun t' => FrC sh T MB t t' ∧ (True)) sh) := by
  rw [b18_0]
  try simp only [zput_s, zput_n, ti_g, oI_add, oI_sub, oI_mul]
  try simp only [zput_s, zput_n, ti_g, oI_add, oI_sub, oI_mul]
  exact l18_2 F q0 hR _ _ _ (FrC.refl hR) (by omega) (Nat.lt_succ_self _)
/-! X1_setLetters -/
theorem l17_16 {sh : zSh} {T MB : Nat} (F : zCl sh T MB) {r0 : Nat} (q0 : zPt sh T MB r0) {t0 : zSt} (hR : RS sh t0) : ∀ (n : Nat) (x1 : Int)  (t1 : zSt), FrC sh T MB t0 t1 → (-2147483648 ≤ x1 ∧ x1 ≤ 2147483647) ∧ (0 ≤ x1) → (7 - x1).toNat < n → zok (zev zP 17 16 [some (zR r0), some (zI (oI x1))] [] (sh, t1)) (zq0 (fun t' => FrC sh T MB t0 t' ∧ (True)) sh) := by
  intro n
  induction n with
  | zero => intro x1  t1 f0 _ hm; omega
  | succ n ih =>
    intro x1  t1 f0 hv hm
    simp only [zput_s, zput_n, ti_g, oI_add, oI_sub, oI_mul, b17_16]
    try simp only [zput_s, zput_n, ti_g, oI_add, oI_sub, oI_mul]
    first | refine zok_le (by omega) (fun c2 => ?_) (fun c2 => ?_) | refine zok_if (fun c2 => ?_) (fun c2 => ?_)
    · exact q0_rt ⟨f0, trivial⟩
    · refine zok_ck ((q0).1) ?_
      refine zok_pR (s22 F (q0) (by omega) (f0.rs)) (fun y3 p3 => ?_)
      simp only [zput_s, zput_n, ti_g, oI_add, oI_sub, oI_mul, b17_27]
      try simp only [zput_s, zput_n, ti_g, oI_add, oI_sub, oI_mul]
      refine zok_ck (((p3).1).1) ?_
      refine zok_c0 (s77 ((p3).1) (f0.rs)) (fun t5 p5 => ?_)
      obtain ⟨f5, p5⟩ := p5
      simp only [zput_s, zput_n, ti_g, oI_add, oI_sub, oI_mul, b17_30]
      try simp only [zput_s, zput_n, ti_g, oI_add, oI_sub, oI_mul]
      try simp only [zput_s, zput_n, ti_g, oI_add, oI_sub, oI_mul]
      exact ih _ _ ((f0).trans ((f5).toC F (p3))) (by omega) (by omega)
theorem s17 {sh : zSh} {T MB : Nat} (F : zCl sh T MB) {r0 : Nat} (q0 : zPt sh T MB r0) {t : zSt} (hR : RS sh t) : zok (zcl zP 17 [zR r0] (sh, t)) (zq0 (fun t' => FrC sh T MB t t' ∧ (True)) sh) := by
  rw [b17_0]
  try simp only [zput_s, zput_n, ti_g, oI_add, oI_sub, oI_mul]
  refine zok_ck ((q0).1) ?_
  refine zok_ck (((q0.2 0 (by decide)).1).1) ?_
  refine zok_c0 (s76 ((q0.2 0 (by decide)).1) (hR)) (fun t8 p8 => ?_)
  obtain ⟨f8, p8⟩ := p8
  simp only [zput_s, zput_n, ti_g, oI_add, oI_sub, oI_mul, b17_7]
  try simp only [zput_s, zput_n, ti_g, oI_add, oI_sub, oI_mul]
  refine zok_ck ((q0).1) ?_
  refine zok_ck (((q0.2 2 (by decide)).1).1) ?_
  refine zok_c0 (s76 ((q0.2 2 (by decide)).1) (((f8).toC F (q0.2 0 (by decide))).rs)) (fun t10 p10 => ?_)
  obtain ⟨f10, p10⟩ := p10
  simp only [zput_s, zput_n, ti_g, oI_add, oI_sub, oI_mul, b17_14]
  try simp only [zput_s, zput_n, ti_g, oI_add, oI_sub, oI_mul]
  try simp only [zput_s, zput_n, ti_g, oI_add, oI_sub, oI_mul]
  exact l17_16 F q0 hR _ _ _ (((f8).toC F (q0.2 0 (by decide))).trans ((f10).toC F (q0.2 2 (by decide)))) (by omega) (Nat.lt_succ_self _)
/-! X1_make -/
theorem s16 {sh : zSh} {T MB : Nat} (F : zCl sh T MB) {r0 : Nat} (q0 : zPt sh T MB r0) {r1 : Nat} (q1 : zPt sh T MB r1) {x2 : Int} (u2 : -2147483648 ≤ x2 ∧ x2 ≤ 2147483647) {r3 : Nat} (q3 : zAd sh T MB r3) {t : zSt} (hR : RS sh t) : zok (zcl zP 16 [zR r0, zR r1, zI (oI x2), zR r3] (sh, t)) (zq0 (fun t' => FrC sh T MB t t' ∧ (True)) sh) := by
  have ha3 : (sk sh (sr sh r3 0)).2 = 8 := by rw [q3.2.2.1]
  rw [b16_0]
  try simp only [zput_s, zput_n, ti_g, oI_add, oI_sub, oI_mul]
  refine zok_ck ((q0).1) ?_
  refine zok_c0 (s24 F (q0) (q1) (hR)) (fun t2 p2 => ?_)
  obtain ⟨f2, p2⟩ := p2
  simp only [zput_s, zput_n, ti_g, oI_add, oI_sub, oI_mul, b16_5]
  try simp only [zput_s, zput_n, ti_g, oI_add, oI_sub, oI_mul]
  first | refine zok_eq (by omega) (fun c4 => ?_) (fun c4 => ?_) | refine zok_if (fun c4 => ?_) (fun c4 => ?_)
  · simp only [zput_s, zput_n, ti_g, oI_add, oI_sub, oI_mul, b16_15]
    try simp only [zput_s, zput_n, ti_g, oI_add, oI_sub, oI_mul]
    first | refine zok_eq (by omega) (fun c6 => ?_) (fun c6 => ?_) | refine zok_if (fun c6 => ?_) (fun c6 => ?_)
    · have g7_1 := RS_sz ((f2).rs) ((q0.2 0 (by decide)).1)
      simp only [zput_s, zput_n, ti_g, oI_add, oI_sub, oI_mul, b16_25]
      try simp only [zput_s, zput_n, ti_g, oI_add, oI_sub, oI_mul]
      first | refine zok_eq (by omega) (fun c8 => ?_) (fun c8 => ?_) | refine zok_if (fun c8 => ?_) (fun c8 => ?_)
      · simp only [zput_s, zput_n, ti_g, oI_add, oI_sub, oI_mul, b16_65]
        try simp only [zput_s, zput_n, ti_g, oI_add, oI_sub, oI_mul]
        first | refine zok_eq (by omega) (fun c10 => ?_) (fun c10 => ?_) | refine zok_if (fun c10 => ?_) (fun c10 => ?_)
        · simp only [zput_s, zput_n, ti_g, oI_add, oI_sub, oI_mul, b16_76]
          try simp only [zput_s, zput_n, ti_g, oI_add, oI_sub, oI_mul]
          first | refine zok_eq (by omega) (fun c12 => ?_) (fun c12 => ?_) | refine zok_if (fun c12 => ?_) (fun c12 => ?_)
          · simp only [zput_s, zput_n, ti_g, oI_add, oI_sub, oI_mul, b16_91]
            try simp only [zput_s, zput_n, ti_g, oI_add, oI_sub, oI_mul]
            exact q0_rt ⟨f2, trivial⟩
          · refine zok_ck ((q0).1) ?_
            refine zok_ck ((q3).1) ?_
            refine zok_c0 (s12 F (q3) (q0.2 2 (by decide)) ((f2).rs)) (fun t14 p14 => ?_)
            obtain ⟨f14, p14⟩ := p14
            simp only [zput_s, zput_n, ti_g, oI_add, oI_sub, oI_mul, b16_91]
            try simp only [zput_s, zput_n, ti_g, oI_add, oI_sub, oI_mul]
            exact q0_rt ⟨(f2).trans (f14), trivial⟩
        · refine zok_c0 (s19 F (q0) ((f2).rs)) (fun t16 p16 => ?_)
          obtain ⟨f16, p16⟩ := p16
          simp only [zput_s, zput_n, ti_g, oI_add, oI_sub, oI_mul, b16_76]
          try simp only [zput_s, zput_n, ti_g, oI_add, oI_sub, oI_mul]
          first | refine zok_eq (by omega) (fun c18 => ?_) (fun c18 => ?_) | refine zok_if (fun c18 => ?_) (fun c18 => ?_)
          · simp only [zput_s, zput_n, ti_g, oI_add, oI_sub, oI_mul, b16_91]
            try simp only [zput_s, zput_n, ti_g, oI_add, oI_sub, oI_mul]
            exact q0_rt ⟨(f2).trans (f16), trivial⟩
          · refine zok_ck ((q0).1) ?_
            refine zok_ck ((q3).1) ?_
            refine zok_c0 (s12 F (q3) (q0.2 2 (by decide)) (((f2).trans (f16)).rs)) (fun t20 p20 => ?_)
            obtain ⟨f20, p20⟩ := p20
            simp only [zput_s, zput_n, ti_g, oI_add, oI_sub, oI_mul, b16_91]
            try simp only [zput_s, zput_n, ti_g, oI_add, oI_sub, oI_mul]
            exact q0_rt ⟨((f2).trans (f16)).trans (f20), trivial⟩
      · refine zok_ck ((q0).1) ?_
        refine zok_ck (((q0.2 0 (by decide)).1).1) ?_
        first | refine zok_ne (by omega) (fun c22 => ?_) (fun c22 => ?_) | refine zok_if (fun c22 => ?_) (fun c22 => ?_)
        · refine zok_ck ((q0).1) ?_
          refine zok_ck (((q0.2 4 (by decide)).1).1) ?_
          refine zok_c0 (s80 ((q0.2 4 (by decide)).1) ((f2).rs)) (fun t23 p23 => ?_)
          obtain ⟨f23, p23⟩ := p23
          simp only [zput_s, zput_n, ti_g, oI_add, oI_sub, oI_mul, b16_61]
          try simp only [zput_s, zput_n, ti_g, oI_add, oI_sub, oI_mul]
          refine zok_ck ((q0).1) ?_
          refine zok_c0 (s30 F (q0) (((f2).trans ((f23).toC F (q0.2 4 (by decide)))).rs)) (fun t25 p25 => ?_)
          obtain ⟨f25, p25⟩ := p25
          simp only [zput_s, zput_n, ti_g, oI_add, oI_sub, oI_mul, b16_65]
          try simp only [zput_s, zput_n, ti_g, oI_add, oI_sub, oI_mul]
          first | refine zok_eq (by omega) (fun c27 => ?_) (fun c27 => ?_) | refine zok_if (fun c27 => ?_) (fun c27 => ?_)
          · simp only [zput_s, zput_n, ti_g, oI_add, oI_sub, oI_mul, b16_76]
            try simp only [zput_s, zput_n, ti_g, oI_add, oI_sub, oI_mul]
            first | refine zok_eq (by omega) (fun c29 => ?_) (fun c29 => ?_) | refine zok_if (fun c29 => ?_) (fun c29 => ?_)
            · simp only [zput_s, zput_n, ti_g, oI_add, oI_sub, oI_mul, b16_91]
              try simp only [zput_s, zput_n, ti_g, oI_add, oI_sub, oI_mul]
              exact q0_rt ⟨((f2).trans ((f23).toC F (q0.2 4 (by decide)))).trans (f25), trivial⟩
            · refine zok_ck ((q0).1) ?_
              refine zok_ck ((q3).1) ?_
              refine zok_c0 (s12 F (q3) (q0.2 2 (by decide)) ((((f2).trans ((f23).toC F (q0.2 4 (by decide)))).trans (f25)).rs)) (fun t31 p31 => ?_)
              obtain ⟨f31, p31⟩ := p31
              simp only [zput_s, zput_n, ti_g, oI_add, oI_sub, oI_mul, b16_91]
              try simp only [zput_s, zput_n, ti_g, oI_add, oI_sub, oI_mul]
              exact q0_rt ⟨(((f2).trans ((f23).toC F (q0.2 4 (by decide)))).trans (f25)).trans (f31), trivial⟩
          · refine zok_c0 (s19 F (q0) ((((f2).trans ((f23).toC F (q0.2 4 (by decide)))).trans (f25)).rs)) (fun t33 p33 => ?_)
            obtain ⟨f33, p33⟩ := p33
            simp only [zput_s, zput_n, ti_g, oI_add, oI_sub, oI_mul, b16_76]
            try simp only [zput_s, zput_n, ti_g, oI_add, oI_sub, oI_mul]
            first | refine zok_eq (by omega) (fun c35 => ?_) (fun c35 => ?_) | refine zok_if (fun c35 => ?_) (fun c35 => ?_)
            · simp only [zput_s, zput_n, ti_g, oI_add, oI_sub, oI_mul, b16_91]
              try simp only [zput_s, zput_n, ti_g, oI_add, oI_sub, oI_mul]
              exact q0_rt ⟨(((f2).trans ((f23).toC F (q0.2 4 (by decide)))).trans (f25)).trans (f33), trivial⟩
            · refine zok_ck ((q0).1) ?_
              refine zok_ck ((q3).1) ?_
              refine zok_c0 (s12 F (q3) (q0.2 2 (by decide)) (((((f2).trans ((f23).toC F (q0.2 4 (by decide)))).trans (f25)).trans (f33)).rs)) (fun t37 p37 => ?_)
              obtain ⟨f37, p37⟩ := p37
              simp only [zput_s, zput_n, ti_g, oI_add, oI_sub, oI_mul, b16_91]
              try simp only [zput_s, zput_n, ti_g, oI_add, oI_sub, oI_mul]
              exact q0_rt ⟨((((f2).trans ((f23).toC F (q0.2 4 (by decide)))).trans (f25)).trans (f33)).trans (f37), trivial⟩
        · refine zok_ck ((q0).1) ?_
          refine zok_ck (((q0.2 4 (by decide)).1).1) ?_
          refine zok_pI (s57 ((q0.2 4 (by decide)).1) (by omega) ((f2).rs)) (fun y39 u39 p39 => ?_)
          simp only [zput_s, zput_n, ti_g, oI_add, oI_sub, oI_mul, b16_49]
          try simp only [zput_s, zput_n, ti_g, oI_add, oI_sub, oI_mul]
          first | refine zok_ne (by omega) (fun c41 => ?_) (fun c41 => ?_) | refine zok_if (fun c41 => ?_) (fun c41 => ?_)
          · simp only [zput_s, zput_n, ti_g, oI_add, oI_sub, oI_mul, b16_65]
            try simp only [zput_s, zput_n, ti_g, oI_add, oI_sub, oI_mul]
            first | refine zok_eq (by omega) (fun c43 => ?_) (fun c43 => ?_) | refine zok_if (fun c43 => ?_) (fun c43 => ?_)
            · simp only [zput_s, zput_n, ti_g, oI_add, oI_sub, oI_mul, b16_76]
              try simp only [zput_s, zput_n, ti_g, oI_add, oI_sub, oI_mul]
              first | refine zok_eq (by omega) (fun c45 => ?_) (fun c45 => ?_) | refine zok_if (fun c45 => ?_) (fun c45 => ?_)
              · simp only [zput_s, zput_n, ti_g, oI_add, oI_sub, oI_mul, b16_91]
                try simp only [zput_s, zput_n, ti_g, oI_add, oI_sub, oI_mul]
                exact q0_rt ⟨f2, trivial⟩
              · refine zok_ck ((q0).1) ?_
                refine zok_ck ((q3).1) ?_
                refine zok_c0 (s12 F (q3) (q0.2 2 (by decide)) ((f2).rs)) (fun t47 p47 => ?_)
                obtain ⟨f47, p47⟩ := p47
                simp only [zput_s, zput_n, ti_g, oI_add, oI_sub, oI_mul, b16_91]
                try simp only [zput_s, zput_n, ti_g, oI_add, oI_sub, oI_mul]
                exact q0_rt ⟨(f2).trans (f47), trivial⟩
            · refine zok_c0 (s19 F (q0) ((f2).rs)) (fun t49 p49 => ?_)
              obtain ⟨f49, p49⟩ := p49
              simp only [zput_s, zput_n, ti_g, oI_add, oI_sub, oI_mul, b16_76]
              try simp only [zput_s, zput_n, ti_g, oI_add, oI_sub, oI_mul]
              first | refine zok_eq (by omega) (fun c51 => ?_) (fun c51 => ?_) | refine zok_if (fun c51 => ?_) (fun c51 => ?_)
              · simp only [zput_s, zput_n, ti_g, oI_add, oI_sub, oI_mul, b16_91]
                try simp only [zput_s, zput_n, ti_g, oI_add, oI_sub, oI_mul]
                exact q0_rt ⟨(f2).trans (f49), trivial⟩
              · refine zok_ck ((q0).1) ?_
                refine zok_ck ((q3).1) ?_
                refine zok_c0 (s12 F (q3) (q0.2 2 (by decide)) (((f2).trans (f49)).rs)) (fun t53 p53 => ?_)
                obtain ⟨f53, p53⟩ := p53
                simp only [zput_s, zput_n, ti_g, oI_add, oI_sub, oI_mul, b16_91]
                try simp only [zput_s, zput_n, ti_g, oI_add, oI_sub, oI_mul]
                exact q0_rt ⟨((f2).trans (f49)).trans (f53), trivial⟩
          · refine zok_ck ((q0).1) ?_
            refine zok_ck (((q0.2 4 (by decide)).1).1) ?_
            refine zok_c0 (s80 ((q0.2 4 (by decide)).1) ((f2).rs)) (fun t55 p55 => ?_)
            obtain ⟨f55, p55⟩ := p55
            simp only [zput_s, zput_n, ti_g, oI_add, oI_sub, oI_mul, b16_61]
            try simp only [zput_s, zput_n, ti_g, oI_add, oI_sub, oI_mul]
            refine zok_ck ((q0).1) ?_
            refine zok_c0 (s30 F (q0) (((f2).trans ((f55).toC F (q0.2 4 (by decide)))).rs)) (fun t57 p57 => ?_)
            obtain ⟨f57, p57⟩ := p57
            simp only [zput_s, zput_n, ti_g, oI_add, oI_sub, oI_mul, b16_65]
            try simp only [zput_s, zput_n, ti_g, oI_add, oI_sub, oI_mul]
            first | refine zok_eq (by omega) (fun c59 => ?_) (fun c59 => ?_) | refine zok_if (fun c59 => ?_) (fun c59 => ?_)
            · simp only [zput_s, zput_n, ti_g, oI_add, oI_sub, oI_mul, b16_76]
              try simp only [zput_s, zput_n, ti_g, oI_add, oI_sub, oI_mul]
              first | refine zok_eq (by omega) (fun c61 => ?_) (fun c61 => ?_) | refine zok_if (fun c61 => ?_) (fun c61 => ?_)
              · simp only [zput_s, zput_n, ti_g, oI_add, oI_sub, oI_mul, b16_91]
                try simp only [zput_s, zput_n, ti_g, oI_add, oI_sub, oI_mul]
                exact q0_rt ⟨((f2).trans ((f55).toC F (q0.2 4 (by decide)))).trans (f57), trivial⟩
              · refine zok_ck ((q0).1) ?_
                refine zok_ck ((q3).1) ?_
                refine zok_c0 (s12 F (q3) (q0.2 2 (by decide)) ((((f2).trans ((f55).toC F (q0.2 4 (by decide)))).trans (f57)).rs)) (fun t63 p63 => ?_)
                obtain ⟨f63, p63⟩ := p63
                simp only [zput_s, zput_n, ti_g, oI_add, oI_sub, oI_mul, b16_91]
                try simp only [zput_s, zput_n, ti_g, oI_add, oI_sub, oI_mul]
                exact q0_rt ⟨(((f2).trans ((f55).toC F (q0.2 4 (by decide)))).trans (f57)).trans (f63), trivial⟩
            · refine zok_c0 (s19 F (q0) ((((f2).trans ((f55).toC F (q0.2 4 (by decide)))).trans (f57)).rs)) (fun t65 p65 => ?_)
              obtain ⟨f65, p65⟩ := p65
              simp only [zput_s, zput_n, ti_g, oI_add, oI_sub, oI_mul, b16_76]
              try simp only [zput_s, zput_n, ti_g, oI_add, oI_sub, oI_mul]
              first | refine zok_eq (by omega) (fun c67 => ?_) (fun c67 => ?_) | refine zok_if (fun c67 => ?_) (fun c67 => ?_)
              · simp only [zput_s, zput_n, ti_g, oI_add, oI_sub, oI_mul, b16_91]
                try simp only [zput_s, zput_n, ti_g, oI_add, oI_sub, oI_mul]
                exact q0_rt ⟨(((f2).trans ((f55).toC F (q0.2 4 (by decide)))).trans (f57)).trans (f65), trivial⟩
              · refine zok_ck ((q0).1) ?_
                refine zok_ck ((q3).1) ?_
                refine zok_c0 (s12 F (q3) (q0.2 2 (by decide)) (((((f2).trans ((f55).toC F (q0.2 4 (by decide)))).trans (f57)).trans (f65)).rs)) (fun t69 p69 => ?_)
                obtain ⟨f69, p69⟩ := p69
                simp only [zput_s, zput_n, ti_g, oI_add, oI_sub, oI_mul, b16_91]
                try simp only [zput_s, zput_n, ti_g, oI_add, oI_sub, oI_mul]
                exact q0_rt ⟨((((f2).trans ((f55).toC F (q0.2 4 (by decide)))).trans (f57)).trans (f65)).trans (f69), trivial⟩
    · refine zok_c0 (s18 F (q0) ((f2).rs)) (fun t71 p71 => ?_)
      obtain ⟨f71, p71⟩ := p71
      have g72_1 := RS_sz (((f2).trans (f71)).rs) ((q0.2 0 (by decide)).1)
      simp only [zput_s, zput_n, ti_g, oI_add, oI_sub, oI_mul, b16_25]
      try simp only [zput_s, zput_n, ti_g, oI_add, oI_sub, oI_mul]
      first | refine zok_eq (by omega) (fun c73 => ?_) (fun c73 => ?_) | refine zok_if (fun c73 => ?_) (fun c73 => ?_)
      · simp only [zput_s, zput_n, ti_g, oI_add, oI_sub, oI_mul, b16_65]
        try simp only [zput_s, zput_n, ti_g, oI_add, oI_sub, oI_mul]
        first | refine zok_eq (by omega) (fun c75 => ?_) (fun c75 => ?_) | refine zok_if (fun c75 => ?_) (fun c75 => ?_)
        · simp only [zput_s, zput_n, ti_g, oI_add, oI_sub, oI_mul, b16_76]
          try simp only [zput_s, zput_n, ti_g, oI_add, oI_sub, oI_mul]
          first | refine zok_eq (by omega) (fun c77 => ?_) (fun c77 => ?_) | refine zok_if (fun c77 => ?_) (fun c77 => ?_)
          · simp only [zput_s, zput_n, ti_g, oI_add, oI_sub, oI_mul, b16_91]
            try simp only [zput_s, zput_n, ti_g, oI_add, oI_sub, oI_mul]
            exact q0_rt ⟨(f2).trans (f71), trivial⟩
          · refine zok_ck ((q0).1) ?_
            refine zok_ck ((q3).1) ?_
            refine zok_c0 (s12 F (q3) (q0.2 2 (by decide)) (((f2).trans (f71)).rs)) (fun t79 p79 => ?_)
            obtain ⟨f79, p79⟩ := p79
            simp only [zput_s, zput_n, ti_g, oI_add, oI_sub, oI_mul, b16_91]
            try simp only [zput_s, zput_n, ti_g, oI_add, oI_sub, oI_mul]
            exact q0_rt ⟨((f2).trans (f71)).trans (f79), trivial⟩
        · refine zok_c0 (s19 F (q0) (((f2).trans (f71)).rs)) (fun t81 p81 => ?_)
          obtain ⟨f81, p81⟩ := p81
          simp only [zput_s, zput_n, ti_g, oI_add, oI_sub, oI_mul, b16_76]
          try simp only [zput_s, zput_n, ti_g, oI_add, oI_sub, oI_mul]
          first | refine zok_eq (by omega) (fun c83 => ?_) (fun c83 => ?_) | refine zok_if (fun c83 => ?_) (fun c83 => ?_)
          · simp only [zput_s, zput_n, ti_g, oI_add, oI_sub, oI_mul, b16_91]
            try simp only [zput_s, zput_n, ti_g, oI_add, oI_sub, oI_mul]
            exact q0_rt ⟨((f2).trans (f71)).trans (f81), trivial⟩
          · refine zok_ck ((q0).1) ?_
            refine zok_ck ((q3).1) ?_
            refine zok_c0 (s12 F (q3) (q0.2 2 (by decide)) ((((f2).trans (f71)).trans (f81)).rs)) (fun t85 p85 => ?_)
            obtain ⟨f85, p85⟩ := p85
            simp only [zput_s, zput_n, ti_g, oI_add, oI_sub, oI_mul, b16_91]
            try simp only [zput_s, zput_n, ti_g, oI_add, oI_sub, oI_mul]
            exact q0_rt ⟨(((f2).trans (f71)).trans (f81)).trans (f85), trivial⟩
      · refine zok_ck ((q0).1) ?_
        refine zok_ck (((q0.2 0 (by decide)).1).1) ?_
        first | refine zok_ne (by omega) (fun c87 => ?_) (fun c87 => ?_) | refine zok_if (fun c87 => ?_) (fun c87 => ?_)
        · refine zok_ck ((q0).1) ?_
          refine zok_ck (((q0.2 4 (by decide)).1).1) ?_
          refine zok_c0 (s80 ((q0.2 4 (by decide)).1) (((f2).trans (f71)).rs)) (fun t88 p88 => ?_)
          obtain ⟨f88, p88⟩ := p88
          simp only [zput_s, zput_n, ti_g, oI_add, oI_sub, oI_mul, b16_61]
          try simp only [zput_s, zput_n, ti_g, oI_add, oI_sub, oI_mul]
          refine zok_ck ((q0).1) ?_
          refine zok_c0 (s30 F (q0) ((((f2).trans (f71)).trans ((f88).toC F (q0.2 4 (by decide)))).rs)) (fun t90 p90 => ?_)
          obtain ⟨f90, p90⟩ := p90
          simp only [zput_s, zput_n, ti_g, oI_add, oI_sub, oI_mul, b16_65]
          try simp only [zput_s, zput_n, ti_g, oI_add, oI_sub, oI_mul]
          first | refine zok_eq (by omega) (fun c92 => ?_) (fun c92 => ?_) | refine zok_if (fun c92 => ?_) (fun c92 => ?_)
          · simp only [zput_s, zput_n, ti_g, oI_add, oI_sub, oI_mul, b16_76]
            try simp only [zput_s, zput_n, ti_g, oI_add, oI_sub, oI_mul]
            first | refine zok_eq (by omega) (fun c94 => ?_) (fun c94 => ?_) | refine zok_if (fun c94 => ?_) (fun c94 => ?_)
            · simp only [zput_s, zput_n, ti_g, oI_add, oI_sub, oI_mul, b16_91]
              try simp only [zput_s, zput_n, ti_g, oI_add, oI_sub, oI_mul]
              exact q0_rt ⟨(((f2).trans (f71)).trans ((f88).toC F (q0.2 4 (by decide)))).trans (f90), trivial⟩
            · refine zok_ck ((q0).1) ?_
              refine zok_ck ((q3).1) ?_
              refine zok_c0 (s12 F (q3) (q0.2 2 (by decide)) (((((f2).trans (f71)).trans ((f88).toC F (q0.2 4 (by decide)))).trans (f90)).rs)) (fun t96 p96 => ?_)
              obtain ⟨f96, p96⟩ := p96
              simp only [zput_s, zput_n, ti_g, oI_add, oI_sub, oI_mul, b16_91]
              try simp only [zput_s, zput_n, ti_g, oI_add, oI_sub, oI_mul]
              exact q0_rt ⟨((((f2).trans (f71)).trans ((f88).toC F (q0.2 4 (by decide)))).trans (f90)).trans (f96), trivial⟩
          · refine zok_c0 (s19 F (q0) (((((f2).trans (f71)).trans ((f88).toC F (q0.2 4 (by decide)))).trans (f90)).rs)) (fun t98 p98 => ?_)
            obtain ⟨f98, p98⟩ := p98
            simp only [zput_s, zput_n, ti_g, oI_add, oI_sub, oI_mul, b16_76]
            try simp only [zput_s, zput_n, ti_g, oI_add, oI_sub, oI_mul]
            first | refine zok_eq (by omega) (fun c100 => ?_) (fun c100 => ?_) | refine zok_if (fun c100 => ?_) (fun c100 => ?_)
            · simp only [zput_s, zput_n, ti_g, oI_add, oI_sub, oI_mul, b16_91]
              try simp only [zput_s, zput_n, ti_g, oI_add, oI_sub, oI_mul]
              exact q0_rt ⟨((((f2).trans (f71)).trans ((f88).toC F (q0.2 4 (by decide)))).trans (f90)).trans (f98), trivial⟩
            · refine zok_ck ((q0).1) ?_
              refine zok_ck ((q3).1) ?_
              refine zok_c0 (s12 F (q3) (q0.2 2 (by decide)) ((((((f2).trans (f71)).trans ((f88).toC F (q0.2 4 (by decide)))).trans (f90)).trans (f98)).rs)) (fun t102 p102 => ?_)
              obtain ⟨f102, p102⟩ := p102
              simp only [zput_s, zput_n, ti_g, oI_add, oI_sub, oI_mul, b16_91]
              try simp only [zput_s, zput_n, ti_g, oI_add, oI_sub, oI_mul]
              exact q0_rt ⟨(((((f2).trans (f71)).trans ((f88).toC F (q0.2 4 (by decide)))).trans (f90)).trans (f98)).trans (f102), trivial⟩
        · refine zok_ck ((q0).1) ?_
          refine zok_ck (((q0.2 4 (by decide)).1).1) ?_
          refine zok_pI (s57 ((q0.2 4 (by decide)).1) (by omega) (((f2).trans (f71)).rs)) (fun y104 u104 p104 => ?_)
          simp only [zput_s, zput_n, ti_g, oI_add, oI_sub, oI_mul, b16_49]
          try simp only [zput_s, zput_n, ti_g, oI_add, oI_sub, oI_mul]
          first | refine zok_ne (by omega) (fun c106 => ?_) (fun c106 => ?_) | refine zok_if (fun c106 => ?_) (fun c106 => ?_)
          · simp only [zput_s, zput_n, ti_g, oI_add, oI_sub, oI_mul, b16_65]
            try simp only [zput_s, zput_n, ti_g, oI_add, oI_sub, oI_mul]
            first | refine zok_eq (by omega) (fun c108 => ?_) (fun c108 => ?_) | refine zok_if (fun c108 => ?_) (fun c108 => ?_)
            · simp only [zput_s, zput_n, ti_g, oI_add, oI_sub, oI_mul, b16_76]
              try simp only [zput_s, zput_n, ti_g, oI_add, oI_sub, oI_mul]
              first | refine zok_eq (by omega) (fun c110 => ?_) (fun c110 => ?_) | refine zok_if (fun c110 => ?_) (fun c110 => ?_)
              · simp only [zput_s, zput_n, ti_g, oI_add, oI_sub, oI_mul, b16_91]
                try simp only [zput_s, zput_n, ti_g, oI_add, oI_sub, oI_mul]
                exact q0_rt ⟨(f2).trans (f71), trivial⟩
              · refine zok_ck ((q0).1) ?_
                refine zok_ck ((q3).1) ?_
                refine zok_c0 (s12 F (q3) (q0.2 2 (by decide)) (((f2).trans (f71)).rs)) (fun t112 p112 => ?_)
                obtain ⟨f112, p112⟩ := p112
                simp only [zput_s, zput_n, ti_g, oI_add, oI_sub, oI_mul, b16_91]
                try simp only [zput_s, zput_n, ti_g, oI_add, oI_sub, oI_mul]
                exact q0_rt ⟨((f2).trans (f71)).trans (f112), trivial⟩
            · refine zok_c0 (s19 F (q0) (((f2).trans (f71)).rs)) (fun t114 p114 => ?_)
              obtain ⟨f114, p114⟩ := p114
              simp only [zput_s, zput_n, ti_g, oI_add, oI_sub, oI_mul, b16_76]
              try simp only [zput_s, zput_n, ti_g, oI_add, oI_sub, oI_mul]
              first | refine zok_eq (by omega) (fun c116 => ?_) (fun c116 => ?_) | refine zok_if (fun c116 => ?_) (fun c116 => ?_)
              · simp only [zput_s, zput_n, ti_g, oI_add, oI_sub, oI_mul, b16_91]
                try simp only [zput_s, zput_n, ti_g, oI_add, oI_sub, oI_mul]
                exact q0_rt ⟨((f2).trans (f71)).trans (f114), trivial⟩
              · refine zok_ck ((q0).1) ?_
                refine zok_ck ((q3).1) ?_
                refine zok_c0 (s12 F (q3) (q0.2 2 (by decide)) ((((f2).trans (f71)).trans (f114)).rs)) (fun t118 p118 => ?_)
                obtain ⟨f118, p118⟩ := p118
                simp only [zput_s, zput_n, ti_g, oI_add, oI_sub, oI_mul, b16_91]
                try simp only [zput_s, zput_n, ti_g, oI_add, oI_sub, oI_mul]
                exact q0_rt ⟨(((f2).trans (f71)).trans (f114)).trans (f118), trivial⟩
          · refine zok_ck ((q0).1) ?_
            refine zok_ck (((q0.2 4 (by decide)).1).1) ?_
            refine zok_c0 (s80 ((q0.2 4 (by decide)).1) (((f2).trans (f71)).rs)) (fun t120 p120 => ?_)
            obtain ⟨f120, p120⟩ := p120
            simp only [zput_s, zput_n, ti_g, oI_add, oI_sub, oI_mul, b16_61]
            try simp only [zput_s, zput_n, ti_g, oI_add, oI_sub, oI_mul]
            refine zok_ck ((q0).1) ?_
            refine zok_c0 (s30 F (q0) ((((f2).trans (f71)).trans ((f120).toC F (q0.2 4 (by decide)))).rs)) (fun t122 p122 => ?_)
            obtain ⟨f122, p122⟩ := p122
            simp only [zput_s, zput_n, ti_g, oI_add, oI_sub, oI_mul, b16_65]
            try simp only [zput_s, zput_n, ti_g, oI_add, oI_sub, oI_mul]
            first | refine zok_eq (by omega) (fun c124 => ?_) (fun c124 => ?_) | refine zok_if (fun c124 => ?_) (fun c124 => ?_)
            · simp only [zput_s, zput_n, ti_g, oI_add, oI_sub, oI_mul, b16_76]
              try simp only [zput_s, zput_n, ti_g, oI_add, oI_sub, oI_mul]
              first | refine zok_eq (by omega) (fun c126 => ?_) (fun c126 => ?_) | refine zok_if (fun c126 => ?_) (fun c126 => ?_)
              · simp only [zput_s, zput_n, ti_g, oI_add, oI_sub, oI_mul, b16_91]
                try simp only [zput_s, zput_n, ti_g, oI_add, oI_sub, oI_mul]
                exact q0_rt ⟨(((f2).trans (f71)).trans ((f120).toC F (q0.2 4 (by decide)))).trans (f122), trivial⟩
              · refine zok_ck ((q0).1) ?_
                refine zok_ck ((q3).1) ?_
                refine zok_c0 (s12 F (q3) (q0.2 2 (by decide)) (((((f2).trans (f71)).trans ((f120).toC F (q0.2 4 (by decide)))).trans (f122)).rs)) (fun t128 p128 => ?_)
                obtain ⟨f128, p128⟩ := p128
                simp only [zput_s, zput_n, ti_g, oI_add, oI_sub, oI_mul, b16_91]
                try simp only [zput_s, zput_n, ti_g, oI_add, oI_sub, oI_mul]
                exact q0_rt ⟨((((f2).trans (f71)).trans ((f120).toC F (q0.2 4 (by decide)))).trans (f122)).trans (f128), trivial⟩
            · refine zok_c0 (s19 F (q0) (((((f2).trans (f71)).trans ((f120).toC F (q0.2 4 (by decide)))).trans (f122)).rs)) (fun t130 p130 => ?_)
              obtain ⟨f130, p130⟩ := p130
              simp only [zput_s, zput_n, ti_g, oI_add, oI_sub, oI_mul, b16_76]
              try simp only [zput_s, zput_n, ti_g, oI_add, oI_sub, oI_mul]
              first | refine zok_eq (by omega) (fun c132 => ?_) (fun c132 => ?_) | refine zok_if (fun c132 => ?_) (fun c132 => ?_)
              · simp only [zput_s, zput_n, ti_g, oI_add, oI_sub, oI_mul, b16_91]
                try simp only [zput_s, zput_n, ti_g, oI_add, oI_sub, oI_mul]
                exact q0_rt ⟨((((f2).trans (f71)).trans ((f120).toC F (q0.2 4 (by decide)))).trans (f122)).trans (f130), trivial⟩
              · refine zok_ck ((q0).1) ?_
                refine zok_ck ((q3).1) ?_
                refine zok_c0 (s12 F (q3) (q0.2 2 (by decide)) ((((((f2).trans (f71)).trans ((f120).toC F (q0.2 4 (by decide)))).trans (f122)).trans (f130)).rs)) (fun t134 p134 => ?_)
                obtain ⟨f134, p134⟩ := p134
                simp only [zput_s, zput_n, ti_g, oI_add, oI_sub, oI_mul, b16_91]
                try simp only [zput_s, zput_n, ti_g, oI_add, oI_sub, oI_mul]
                exact q0_rt ⟨(((((f2).trans (f71)).trans ((f120).toC F (q0.2 4 (by decide)))).trans (f122)).trans (f130)).trans (f134), trivial⟩
  · refine zok_c0 (s17 F (q0) ((f2).rs)) (fun t136 p136 => ?_)
    obtain ⟨f136, p136⟩ := p136
    simp only [zput_s, zput_n, ti_g, oI_add, oI_sub, oI_mul, b16_15]
    try simp only [zput_s, zput_n, ti_g, oI_add, oI_sub, oI_mul]
    first | refine zok_eq (by omega) (fun c138 => ?_) (fun c138 => ?_) | refine zok_if (fun c138 => ?_) (fun c138 => ?_)
    · have g139_1 := RS_sz (((f2).trans (f136)).rs) ((q0.2 0 (by decide)).1)
      simp only [zput_s, zput_n, ti_g, oI_add, oI_sub, oI_mul, b16_25]
      try simp only [zput_s, zput_n, ti_g, oI_add, oI_sub, oI_mul]
      first | refine zok_eq (by omega) (fun c140 => ?_) (fun c140 => ?_) | refine zok_if (fun c140 => ?_) (fun c140 => ?_)
      · simp only [zput_s, zput_n, ti_g, oI_add, oI_sub, oI_mul, b16_65]
        try simp only [zput_s, zput_n, ti_g, oI_add, oI_sub, oI_mul]
        first | refine zok_eq (by omega) (fun c142 => ?_) (fun c142 => ?_) | refine zok_if (fun c142 => ?_) (fun c142 => ?_)
        · simp only [zput_s, zput_n, ti_g, oI_add, oI_sub, oI_mul, b16_76]
          try simp only [zput_s, zput_n, ti_g, oI_add, oI_sub, oI_mul]
          first | refine zok_eq (by omega) (fun c144 => ?_) (fun c144 => ?_) | refine zok_if (fun c144 => ?_) (fun c144 => ?_)
          · simp only [zput_s, zput_n, ti_g, oI_add, oI_sub, oI_mul, b16_91]
            try simp only [zput_s, zput_n, ti_g, oI_add, oI_sub, oI_mul]
            exact q0_rt ⟨(f2).trans (f136), trivial⟩
          · refine zok_ck ((q0).1) ?_
            refine zok_ck ((q3).1) ?_
            refine zok_c0 (s12 F (q3) (q0.2 2 (by decide)) (((f2).trans (f136)).rs)) (fun t146 p146 => ?_)
            obtain ⟨f146, p146⟩ := p146
            simp only [zput_s, zput_n, ti_g, oI_add, oI_sub, oI_mul, b16_91]
            try simp only [zput_s, zput_n, ti_g, oI_add, oI_sub, oI_mul]
            exact q0_rt ⟨((f2).trans (f136)).trans (f146), trivial⟩
        · refine zok_c0 (s19 F (q0) (((f2).trans (f136)).rs)) (fun t148 p148 => ?_)
          obtain ⟨f148, p148⟩ := p148
          simp only [zput_s, zput_n, ti_g, oI_add, oI_sub, oI_mul, b16_76]
          try simp only [zput_s, zput_n, ti_g, oI_add, oI_sub, oI_mul]
          first | refine zok_eq (by omega) (fun c150 => ?_) (fun c150 => ?_) | refine zok_if (fun c150 => ?_) (fun c150 => ?_)
          · simp only [zput_s, zput_n, ti_g, oI_add, oI_sub, oI_mul, b16_91]
            try simp only [zput_s, zput_n, ti_g, oI_add, oI_sub, oI_mul]
            exact q0_rt ⟨((f2).trans (f136)).trans (f148), trivial⟩
          · refine zok_ck ((q0).1) ?_
            refine zok_ck ((q3).1) ?_
            refine zok_c0 (s12 F (q3) (q0.2 2 (by decide)) ((((f2).trans (f136)).trans (f148)).rs)) (fun t152 p152 => ?_)
            obtain ⟨f152, p152⟩ := p152
            simp only [zput_s, zput_n, ti_g, oI_add, oI_sub, oI_mul, b16_91]
            try simp only [zput_s, zput_n, ti_g, oI_add, oI_sub, oI_mul]
            exact q0_rt ⟨(((f2).trans (f136)).trans (f148)).trans (f152), trivial⟩
      · refine zok_ck ((q0).1) ?_
        refine zok_ck (((q0.2 0 (by decide)).1).1) ?_
        first | refine zok_ne (by omega) (fun c154 => ?_) (fun c154 => ?_) | refine zok_if (fun c154 => ?_) (fun c154 => ?_)
        · refine zok_ck ((q0).1) ?_
          refine zok_ck (((q0.2 4 (by decide)).1).1) ?_
          refine zok_c0 (s80 ((q0.2 4 (by decide)).1) (((f2).trans (f136)).rs)) (fun t155 p155 => ?_)
          obtain ⟨f155, p155⟩ := p155
          simp only [zput_s, zput_n, ti_g, oI_add, oI_sub, oI_mul, b16_61]
          try simp only [zput_s, zput_n, ti_g, oI_add, oI_sub, oI_mul]
          refine zok_ck ((q0).1) ?_
          refine zok_c0 (s30 F (q0) ((((f2).trans (f136)).trans ((f155).toC F (q0.2 4 (by decide)))).rs)) (fun t157 p157 => ?_)
          obtain ⟨f157, p157⟩ := p157
          simp only [zput_s, zput_n, ti_g, oI_add, oI_sub, oI_mul, b16_65]
          try simp only [zput_s, zput_n, ti_g, oI_add, oI_sub, oI_mul]
          first | refine zok_eq (by omega) (fun c159 => ?_) (fun c159 => ?_) | refine zok_if (fun c159 => ?_) (fun c159 => ?_)
          · simp only [zput_s, zput_n, ti_g, oI_add, oI_sub, oI_mul, b16_76]
            try simp only [zput_s, zput_n, ti_g, oI_add, oI_sub, oI_mul]
            first | refine zok_eq (by omega) (fun c161 => ?_) (fun c161 => ?_) | refine zok_if (fun c161 => ?_) (fun c161 => ?_)
            · simp only [zput_s, zput_n, ti_g, oI_add, oI_sub, oI_mul, b16_91]
              try simp only [zput_s, zput_n, ti_g, oI_add, oI_sub, oI_mul]
              exact q0_rt ⟨(((f2).trans (f136)).trans ((f155).toC F (q0.2 4 (by decide)))).trans (f157), trivial⟩
            · refine zok_ck ((q0).1) ?_
              refine zok_ck ((q3).1) ?_
              refine zok_c0 (s12 F (q3) (q0.2 2 (by decide)) (((((f2).trans (f136)).trans ((f155).toC F (q0.2 4 (by decide)))).trans (f157)).rs)) (fun t163 p163 => ?_)
              obtain ⟨f163, p163⟩ := p163
              simp only [zput_s, zput_n, ti_g, oI_add, oI_sub, oI_mul, b16_91]
              try simp only [zput_s, zput_n, ti_g, oI_add, oI_sub, oI_mul]
              exact q0_rt ⟨((((f2).trans (f136)).trans ((f155).toC F (q0.2 4 (by decide)))).trans (f157)).trans (f163), trivial⟩
          · refine zok_c0 (s19 F (q0) (((((f2).trans (f136)).trans ((f155).toC F (q0.2 4 (by decide)))).trans (f157)).rs)) (fun t165 p165 => ?_)
            obtain ⟨f165, p165⟩ := p165
            simp only [zput_s, zput_n, ti_g, oI_add, oI_sub, oI_mul, b16_76]
            try simp only [zput_s, zput_n, ti_g, oI_add, oI_sub, oI_mul]
            first | refine zok_eq (by omega) (fun c167 => ?_) (fun c167 => ?_) | refine zok_if (fun c167 => ?_) (fun c167 => ?_)
            · simp only [zput_s, zput_n, ti_g, oI_add, oI_sub, oI_mul, b16_91]
              try simp only [zput_s, zput_n, ti_g, oI_add, oI_sub, oI_mul]
              exact q0_rt ⟨((((f2).trans (f136)).trans ((f155).toC F (q0.2 4 (by decide)))).trans (f157)).trans (f165), trivial⟩
            · refine zok_ck ((q0).1) ?_
              refine zok_ck ((q3).1) ?_
              refine zok_c0 (s12 F (q3) (q0.2 2 (by decide)) ((((((f2).trans (f136)).trans ((f155).toC F (q0.2 4 (by decide)))).trans (f157)).trans (f165)).rs)) (fun t169 p169 => ?_)
              obtain ⟨f169, p169⟩ := p169
              simp only [zput_s, zput_n, ti_g, oI_add, oI_sub, oI_mul, b16_91]
              try simp only [zput_s, zput_n, ti_g, oI_add, oI_sub, oI_mul]
              exact q0_rt ⟨(((((f2).trans (f136)).trans ((f155).toC F (q0.2 4 (by decide)))).trans (f157)).trans (f165)).trans (f169), trivial⟩
        · refine zok_ck ((q0).1) ?_
          refine zok_ck (((q0.2 4 (by decide)).1).1) ?_
          refine zok_pI (s57 ((q0.2 4 (by decide)).1) (by omega) (((f2).trans (f136)).rs)) (fun y171 u171 p171 => ?_)
          simp only [zput_s, zput_n, ti_g, oI_add, oI_sub, oI_mul, b16_49]
          try simp only [zput_s, zput_n, ti_g, oI_add, oI_sub, oI_mul]
          first | refine zok_ne (by omega) (fun c173 => ?_) (fun c173 => ?_) | refine zok_if (fun c173 => ?_) (fun c173 => ?_)
          · simp only [zput_s, zput_n, ti_g, oI_add, oI_sub, oI_mul, b16_65]
            try simp only [zput_s, zput_n, ti_g, oI_add, oI_sub, oI_mul]
            first | refine zok_eq (by omega) (fun c175 => ?_) (fun c175 => ?_) | refine zok_if (fun c175 => ?_) (fun c175 => ?_)
            · simp only [zput_s, zput_n, ti_g, oI_add, oI_sub, oI_mul, b16_76]
              try simp only [zput_s, zput_n, ti_g, oI_add, oI_sub, oI_mul]
              first | refine zok_eq (by omega) (fun c177 => ?_) (fun c177 => ?_) | refine zok_if (fun c177 => ?_) (fun c177 => ?_)
              · simp only [zput_s, zput_n, ti_g, oI_add, oI_sub, oI_mul, b16_91]
                try simp only [zput_s, zput_n, ti_g, oI_add, oI_sub, oI_mul]
                exact q0_rt ⟨(f2).trans (f136), trivial⟩
              · refine zok_ck ((q0).1) ?_
                refine zok_ck ((q3).1) ?_
                refine zok_c0 (s12 F (q3) (q0.2 2 (by decide)) (((f2).trans (f136)).rs)) (fun t179 p179 => ?_)
                obtain ⟨f179, p179⟩ := p179
                simp only [zput_s, zput_n, ti_g, oI_add, oI_sub, oI_mul, b16_91]
                try simp only [zput_s, zput_n, ti_g, oI_add, oI_sub, oI_mul]
                exact q0_rt ⟨((f2).trans (f136)).trans (f179), trivial⟩
            · refine zok_c0 (s19 F (q0) (((f2).trans (f136)).rs)) (fun t181 p181 => ?_)
              obtain ⟨f181, p181⟩ := p181
              simp only [zput_s, zput_n, ti_g, oI_add, oI_sub, oI_mul, b16_76]
              try simp only [zput_s, zput_n, ti_g, oI_add, oI_sub, oI_mul]
              first | refine zok_eq (by omega) (fun c183 => ?_) (fun c183 => ?_) | refine zok_if (fun c183 => ?_) (fun c183 => ?_)
              · simp only [zput_s, zput_n, ti_g, oI_add, oI_sub, oI_mul, b16_91]
                try simp only [zput_s, zput_n, ti_g, oI_add, oI_sub, oI_mul]
                exact q0_rt ⟨((f2).trans (f136)).trans (f181), trivial⟩
              · refine zok_ck ((q0).1) ?_
                refine zok_ck ((q3).1) ?_
                refine zok_c0 (s12 F (q3) (q0.2 2 (by decide)) ((((f2).trans (f136)).trans (f181)).rs)) (fun t185 p185 => ?_)
                obtain ⟨f185, p185⟩ := p185
                simp only [zput_s, zput_n, ti_g, oI_add, oI_sub, oI_mul, b16_91]
                try simp only [zput_s, zput_n, ti_g, oI_add, oI_sub, oI_mul]
                exact q0_rt ⟨(((f2).trans (f136)).trans (f181)).trans (f185), trivial⟩
          · refine zok_ck ((q0).1) ?_
            refine zok_ck (((q0.2 4 (by decide)).1).1) ?_
            refine zok_c0 (s80 ((q0.2 4 (by decide)).1) (((f2).trans (f136)).rs)) (fun t187 p187 => ?_)
            obtain ⟨f187, p187⟩ := p187
            simp only [zput_s, zput_n, ti_g, oI_add, oI_sub, oI_mul, b16_61]
            try simp only [zput_s, zput_n, ti_g, oI_add, oI_sub, oI_mul]
            refine zok_ck ((q0).1) ?_
            refine zok_c0 (s30 F (q0) ((((f2).trans (f136)).trans ((f187).toC F (q0.2 4 (by decide)))).rs)) (fun t189 p189 => ?_)
            obtain ⟨f189, p189⟩ := p189
            simp only [zput_s, zput_n, ti_g, oI_add, oI_sub, oI_mul, b16_65]
            try simp only [zput_s, zput_n, ti_g, oI_add, oI_sub, oI_mul]
            first | refine zok_eq (by omega) (fun c191 => ?_) (fun c191 => ?_) | refine zok_if (fun c191 => ?_) (fun c191 => ?_)
            · simp only [zput_s, zput_n, ti_g, oI_add, oI_sub, oI_mul, b16_76]
              try simp only [zput_s, zput_n, ti_g, oI_add, oI_sub, oI_mul]
              first | refine zok_eq (by omega) (fun c193 => ?_) (fun c193 => ?_) | refine zok_if (fun c193 => ?_) (fun c193 => ?_)
              · simp only [zput_s, zput_n, ti_g, oI_add, oI_sub, oI_mul, b16_91]
                try simp only [zput_s, zput_n, ti_g, oI_add, oI_sub, oI_mul]
                exact q0_rt ⟨(((f2).trans (f136)).trans ((f187).toC F (q0.2 4 (by decide)))).trans (f189), trivial⟩
              · refine zok_ck ((q0).1) ?_
                refine zok_ck ((q3).1) ?_
                refine zok_c0 (s12 F (q3) (q0.2 2 (by decide)) (((((f2).trans (f136)).trans ((f187).toC F (q0.2 4 (by decide)))).trans (f189)).rs)) (fun t195 p195 => ?_)
                obtain ⟨f195, p195⟩ := p195
                simp only [zput_s, zput_n, ti_g, oI_add, oI_sub, oI_mul, b16_91]
                try simp only [zput_s, zput_n, ti_g, oI_add, oI_sub, oI_mul]
                exact q0_rt ⟨((((f2).trans (f136)).trans ((f187).toC F (q0.2 4 (by decide)))).trans (f189)).trans (f195), trivial⟩
            · refine zok_c0 (s19 F (q0) (((((f2).trans (f136)).trans ((f187).toC F (q0.2 4 (by decide)))).trans (f189)).rs)) (fun t197 p197 => ?_)
              obtain ⟨f197, p197⟩ := p197
              simp only [zput_s, zput_n, ti_g, oI_add, oI_sub, oI_mul, b16_76]
              try simp only [zput_s, zput_n, ti_g, oI_add, oI_sub, oI_mul]
              first | refine zok_eq (by omega) (fun c199 => ?_) (fun c199 => ?_) | refine zok_if (fun c199 => ?_) (fun c199 => ?_)
              · simp only [zput_s, zput_n, ti_g, oI_add, oI_sub, oI_mul, b16_91]
                try simp only [zput_s, zput_n, ti_g, oI_add, oI_sub, oI_mul]
                exact q0_rt ⟨((((f2).trans (f136)).trans ((f187).toC F (q0.2 4 (by decide)))).trans (f189)).trans (f197), trivial⟩
              · refine zok_ck ((q0).1) ?_
                refine zok_ck ((q3).1) ?_
                refine zok_c0 (s12 F (q3) (q0.2 2 (by decide)) ((((((f2).trans (f136)).trans ((f187).toC F (q0.2 4 (by decide)))).trans (f189)).trans (f197)).rs)) (fun t201 p201 => ?_)
                obtain ⟨f201, p201⟩ := p201
                simp only [zput_s, zput_n, ti_g, oI_add, oI_sub, oI_mul, b16_91]
                try simp only [zput_s, zput_n, ti_g, oI_add, oI_sub, oI_mul]
                exact q0_rt ⟨(((((f2).trans (f136)).trans ((f187).toC F (q0.2 4 (by decide)))).trans (f189)).trans (f197)).trans (f201), trivial⟩
    · refine zok_c0 (s18 F (q0) (((f2).trans (f136)).rs)) (fun t203 p203 => ?_)
      obtain ⟨f203, p203⟩ := p203
      have g204_1 := RS_sz ((((f2).trans (f136)).trans (f203)).rs) ((q0.2 0 (by decide)).1)
      simp only [zput_s, zput_n, ti_g, oI_add, oI_sub, oI_mul, b16_25]
      try simp only [zput_s, zput_n, ti_g, oI_add, oI_sub, oI_mul]
      first | refine zok_eq (by omega) (fun c205 => ?_) (fun c205 => ?_) | refine zok_if (fun c205 => ?_) (fun c205 => ?_)
      · simp only [zput_s, zput_n, ti_g, oI_add, oI_sub, oI_mul, b16_65]
        try simp only [zput_s, zput_n, ti_g, oI_add, oI_sub, oI_mul]
        first | refine zok_eq (by omega) (fun c207 => ?_) (fun c207 => ?_) | refine zok_if (fun c207 => ?_) (fun c207 => ?_)
        · simp only [zput_s, zput_n, ti_g, oI_add, oI_sub, oI_mul, b16_76]
          try simp only [zput_s, zput_n, ti_g, oI_add, oI_sub, oI_mul]
          first | refine zok_eq (by omega) (fun c209 => ?_) (fun c209 => ?_) | refine zok_if (fun c209 => ?_) (fun c209 => ?_)
          · simp only [zput_s, zput_n, ti_g, oI_add, oI_sub, oI_mul, b16_91]
            try simp only [zput_s, zput_n, ti_g, oI_add, oI_sub, oI_mul]
            exact q0_rt ⟨((f2).trans (f136)).trans (f203), trivial⟩
          · refine zok_ck ((q0).1) ?_
            refine zok_ck ((q3).1) ?_
            refine zok_c0 (s12 F (q3) (q0.2 2 (by decide)) ((((f2).trans (f136)).trans (f203)).rs)) (fun t211 p211 => ?_)
            obtain ⟨f211, p211⟩ := p211
            simp only [zput_s, zput_n, ti_g, oI_add, oI_sub, oI_mul, b16_91]
            try simp only [zput_s, zput_n, ti_g, oI_add, oI_sub, oI_mul]
            exact q0_rt ⟨(((f2).trans (f136)).trans (f203)).trans (f211), trivial⟩
        · refine zok_c0 (s19 F (q0) ((((f2).trans (f136)).trans (f203)).rs)) (fun t213 p213 => ?_)
          obtain ⟨f213, p213⟩ := p213
          simp only [zput_s, zput_n, ti_g, oI_add, oI_sub, oI_mul, b16_76]
          try simp only [zput_s, zput_n, ti_g, oI_add, oI_sub, oI_mul]
          first | refine zok_eq (by omega) (fun c215 => ?_) (fun c215 => ?_) | refine zok_if (fun c215 => ?_) (fun c215 => ?_)
          · simp only [zput_s, zput_n, ti_g, oI_add, oI_sub, oI_mul, b16_91]
            try simp only [zput_s, zput_n, ti_g, oI_add, oI_sub, oI_mul]
            exact q0_rt ⟨(((f2).trans (f136)).trans (f203)).trans (f213), trivial⟩
          · refine zok_ck ((q0).1) ?_
            refine zok_ck ((q3).1) ?_
            refine zok_c0 (s12 F (q3) (q0.2 2 (by decide)) (((((f2).trans (f136)).trans (f203)).trans (f213)).rs)) (fun t217 p217 => ?_)
            obtain ⟨f217, p217⟩ := p217
            simp only [zput_s, zput_n, ti_g, oI_add, oI_sub, oI_mul, b16_91]
            try simp only [zput_s, zput_n, ti_g, oI_add, oI_sub, oI_mul]
            exact q0_rt ⟨((((f2).trans (f136)).trans (f203)).trans (f213)).trans (f217), trivial⟩
      · refine zok_ck ((q0).1) ?_
        refine zok_ck (((q0.2 0 (by decide)).1).1) ?_
        first | refine zok_ne (by omega) (fun c219 => ?_) (fun c219 => ?_) | refine zok_if (fun c219 => ?_) (fun c219 => ?_)
        · refine zok_ck ((q0).1) ?_
          refine zok_ck (((q0.2 4 (by decide)).1).1) ?_
          refine zok_c0 (s80 ((q0.2 4 (by decide)).1) ((((f2).trans (f136)).trans (f203)).rs)) (fun t220 p220 => ?_)
          obtain ⟨f220, p220⟩ := p220
          simp only [zput_s, zput_n, ti_g, oI_add, oI_sub, oI_mul, b16_61]
          try simp only [zput_s, zput_n, ti_g, oI_add, oI_sub, oI_mul]
          refine zok_ck ((q0).1) ?_
          refine zok_c0 (s30 F (q0) (((((f2).trans (f136)).trans (f203)).trans ((f220).toC F (q0.2 4 (by decide)))).rs)) (fun t222 p222 => ?_)
          obtain ⟨f222, p222⟩ := p222
          simp only [zput_s, zput_n, ti_g, oI_add, oI_sub, oI_mul, b16_65]
          try simp only [zput_s, zput_n, ti_g, oI_add, oI_sub, oI_mul]
          first | refine zok_eq (by omega) (fun c224 => ?_) (fun c224 => ?_) | refine zok_if (fun c224 => ?_) (fun c224 => ?_)
          · simp only [zput_s, zput_n, ti_g, oI_add, oI_sub, oI_mul, b16_76]
            try simp only [zput_s, zput_n, ti_g, oI_add, oI_sub, oI_mul]
            first | refine zok_eq (by omega) (fun c226 => ?_) (fun c226 => ?_) | refine zok_if (fun c226 => ?_) (fun c226 => ?_)
            · simp only [zput_s, zput_n, ti_g, oI_add, oI_sub, oI_mul, b16_91]
              try simp only [zput_s, zput_n, ti_g, oI_add, oI_sub, oI_mul]
              exact q0_rt ⟨((((f2).trans (f136)).trans (f203)).trans ((f220).toC F (q0.2 4 (by decide)))).trans (f222), trivial⟩
            · refine zok_ck ((q0).1) ?_
              refine zok_ck ((q3).1) ?_
              refine zok_c0 (s12 F (q3) (q0.2 2 (by decide)) ((((((f2).trans (f136)).trans (f203)).trans ((f220).toC F (q0.2 4 (by decide)))).trans (f222)).rs)) (fun t228 p228 => ?_)
              obtain ⟨f228, p228⟩ := p228
              simp only [zput_s, zput_n, ti_g, oI_add, oI_sub, oI_mul, b16_91]
              try simp only [zput_s, zput_n, ti_g, oI_add, oI_sub, oI_mul]
              exact q0_rt ⟨(((((f2).trans (f136)).trans (f203)).trans ((f220).toC F (q0.2 4 (by decide)))).trans (f222)).trans (f228), trivial⟩
          · refine zok_c0 (s19 F (q0) ((((((f2).trans (f136)).trans (f203)).trans ((f220).toC F (q0.2 4 (by decide)))).trans (f222)).rs)) (fun t230 p230 => ?_)
            obtain ⟨f230, p230⟩ := p230
            simp only [zput_s, zput_n, ti_g, oI_add, oI_sub, oI_mul, b16_76]
            try simp only [zput_s, zput_n, ti_g, oI_add, oI_sub, oI_mul]
            first | refine zok_eq (by omega) (fun c232 => ?_) (fun c232 => ?_) | refine zok_if (fun c232 => ?_) (fun c232 => ?_)
            · simp only [zput_s, zput_n, ti_g, oI_add, oI_sub, oI_mul, b16_91]
              try simp only [zput_s, zput_n, ti_g, oI_add, oI_sub, oI_mul]
              exact q0_rt ⟨(((((f2).trans (f136)).trans (f203)).trans ((f220).toC F (q0.2 4 (by decide)))).trans (f222)).trans (f230), trivial⟩
            · refine zok_ck ((q0).1) ?_
              refine zok_ck ((q3).1) ?_
              refine zok_c0 (s12 F (q3) (q0.2 2 (by decide)) (((((((f2).trans (f136)).trans (f203)).trans ((f220).toC F (q0.2 4 (by decide)))).trans (f222)).trans (f230)).rs)) (fun t234 p234 => ?_)
              obtain ⟨f234, p234⟩ := p234
              simp only [zput_s, zput_n, ti_g, oI_add, oI_sub, oI_mul, b16_91]
              try simp only [zput_s, zput_n, ti_g, oI_add, oI_sub, oI_mul]
              exact q0_rt ⟨((((((f2).trans (f136)).trans (f203)).trans ((f220).toC F (q0.2 4 (by decide)))).trans (f222)).trans (f230)).trans (f234), trivial⟩
        · refine zok_ck ((q0).1) ?_
          refine zok_ck (((q0.2 4 (by decide)).1).1) ?_
          refine zok_pI (s57 ((q0.2 4 (by decide)).1) (by omega) ((((f2).trans (f136)).trans (f203)).rs)) (fun y236 u236 p236 => ?_)
          simp only [zput_s, zput_n, ti_g, oI_add, oI_sub, oI_mul, b16_49]
          try simp only [zput_s, zput_n, ti_g, oI_add, oI_sub, oI_mul]
          first | refine zok_ne (by omega) (fun c238 => ?_) (fun c238 => ?_) | refine zok_if (fun c238 => ?_) (fun c238 => ?_)
          · simp only [zput_s, zput_n, ti_g, oI_add, oI_sub, oI_mul, b16_65]
            try simp only [zput_s, zput_n, ti_g, oI_add, oI_sub, oI_mul]
            first | refine zok_eq (by omega) (fun c240 => ?_) (fun c240 => ?_) | refine zok_if (fun c240 => ?_) (fun c240 => ?_)
            · simp only [zput_s, zput_n, ti_g, oI_add, oI_sub, oI_mul, b16_76]
              try simp only [zput_s, zput_n, ti_g, oI_add, oI_sub, oI_mul]
              first | refine zok_eq (by omega) (fun c242 => ?_) (fun c242 => ?_) | refine zok_if (fun c242 => ?_) (fun c242 => ?_)
              · simp only [zput_s, zput_n, ti_g, oI_add, oI_sub, oI_mul, b16_91]
                try simp only [zput_s, zput_n, ti_g, oI_add, oI_sub, oI_mul]
                exact q0_rt ⟨((f2).trans (f136)).trans (f203), trivial⟩
              · refine zok_ck ((q0).1) ?_
                refine zok_ck ((q3).1) ?_
                refine zok_c0 (s12 F (q3) (q0.2 2 (by decide)) ((((f2).trans (f136)).trans (f203)).rs)) (fun t244 p244 => ?_)
                obtain ⟨f244, p244⟩ := p244
                simp only [zput_s, zput_n, ti_g, oI_add, oI_sub, oI_mul, b16_91]
                try simp only [zput_s, zput_n, ti_g, oI_add, oI_sub, oI_mul]
                exact q0_rt ⟨(((f2).trans (f136)).trans (f203)).trans (f244), trivial⟩
            · refine zok_c0 (s19 F (q0) ((((f2).trans (f136)).trans (f203)).rs)) (fun t246 p246 => ?_)
              obtain ⟨f246, p246⟩ := p246
              simp only [zput_s, zput_n, ti_g, oI_add, oI_sub, oI_mul, b16_76]
              try simp only [zput_s, zput_n, ti_g, oI_add, oI_sub, oI_mul]
              first | refine zok_eq (by omega) (fun c248 => ?_) (fun c248 => ?_) | refine zok_if (fun c248 => ?_) (fun c248 => ?_)
              · simp only [zput_s, zput_n, ti_g, oI_add, oI_sub, oI_mul, b16_91]
                try simp only [zput_s, zput_n, ti_g, oI_add, oI_sub, oI_mul]
                exact q0_rt ⟨(((f2).trans (f136)).trans (f203)).trans (f246), trivial⟩
              · refine zok_ck ((q0).1) ?_
                refine zok_ck ((q3).1) ?_
                refine zok_c0 (s12 F (q3) (q0.2 2 (by decide)) (((((f2).trans (f136)).trans (f203)).trans (f246)).rs)) (fun t250 p250 => ?_)
                obtain ⟨f250, p250⟩ := p250
                simp only [zput_s, zput_n, ti_g, oI_add, oI_sub, oI_mul, b16_91]
                try simp only [zput_s, zput_n, ti_g, oI_add, oI_sub, oI_mul]
                exact q0_rt ⟨((((f2).trans (f136)).trans (f203)).trans (f246)).trans (f250), trivial⟩
          · refine zok_ck ((q0).1) ?_
            refine zok_ck (((q0.2 4 (by decide)).1).1) ?_
            refine zok_c0 (s80 ((q0.2 4 (by decide)).1) ((((f2).trans (f136)).trans (f203)).rs)) (fun t252 p252 => ?_)
            obtain ⟨f252, p252⟩ := p252
            simp only [zput_s, zput_n, ti_g, oI_add, oI_sub, oI_mul, b16_61]
            try simp only [zput_s, zput_n, ti_g, oI_add, oI_sub, oI_mul]
            refine zok_ck ((q0).1) ?_
            refine zok_c0 (s30 F (q0) (((((f2).trans (f136)).trans (f203)).trans ((f252).toC F (q0.2 4 (by decide)))).rs)) (fun t254 p254 => ?_)
            obtain ⟨f254, p254⟩ := p254
            simp only [zput_s, zput_n, ti_g, oI_add, oI_sub, oI_mul, b16_65]
            try simp only [zput_s, zput_n, ti_g, oI_add, oI_sub, oI_mul]
            first | refine zok_eq (by omega) (fun c256 => ?_) (fun c256 => ?_) | refine zok_if (fun c256 => ?_) (fun c256 => ?_)
            · simp only [zput_s, zput_n, ti_g, oI_add, oI_sub, oI_mul, b16_76]
              try simp only [zput_s, zput_n, ti_g, oI_add, oI_sub, oI_mul]
              first | refine zok_eq (by omega) (fun c258 => ?_) (fun c258 => ?_) | refine zok_if (fun c258 => ?_) (fun c258 => ?_)
              · simp only [zput_s, zput_n, ti_g, oI_add, oI_sub, oI_mul, b16_91]
                try simp only [zput_s, zput_n, ti_g, oI_add, oI_sub, oI_mul]
                exact q0_rt ⟨((((f2).trans (f136)).trans (f203)).trans ((f252).toC F (q0.2 4 (by decide)))).trans (f254), trivial⟩
              · refine zok_ck ((q0).1) ?_
                refine zok_ck ((q3).1) ?_
                refine zok_c0 (s12 F (q3) (q0.2 2 (by decide)) ((((((f2).trans (f136)).trans (f203)).trans ((f252).toC F (q0.2 4 (by decide)))).trans (f254)).rs)) (fun t260 p260 => ?_)
                obtain ⟨f260, p260⟩ := p260
                simp only [zput_s, zput_n, ti_g, oI_add, oI_sub, oI_mul, b16_91]
                try simp only [zput_s, zput_n, ti_g, oI_add, oI_sub, oI_mul]
                exact q0_rt ⟨(((((f2).trans (f136)).trans (f203)).trans ((f252).toC F (q0.2 4 (by decide)))).trans (f254)).trans (f260), trivial⟩
            · refine zok_c0 (s19 F (q0) ((((((f2).trans (f136)).trans (f203)).trans ((f252).toC F (q0.2 4 (by decide)))).trans (f254)).rs)) (fun t262 p262 => ?_)
              obtain ⟨f262, p262⟩ := p262
              simp only [zput_s, zput_n, ti_g, oI_add, oI_sub, oI_mul, b16_76]
              try simp only [zput_s, zput_n, ti_g, oI_add, oI_sub, oI_mul]
              first | refine zok_eq (by omega) (fun c264 => ?_) (fun c264 => ?_) | refine zok_if (fun c264 => ?_) (fun c264 => ?_)
              · simp only [zput_s, zput_n, ti_g, oI_add, oI_sub, oI_mul, b16_91]
                try simp only [zput_s, zput_n, ti_g, oI_add, oI_sub, oI_mul]
                exact q0_rt ⟨(((((f2).trans (f136)).trans (f203)).trans ((f252).toC F (q0.2 4 (by decide)))).trans (f254)).trans (f262), trivial⟩
              · refine zok_ck ((q0).1) ?_
                refine zok_ck ((q3).1) ?_
                refine zok_c0 (s12 F (q3) (q0.2 2 (by decide)) (((((((f2).trans (f136)).trans (f203)).trans ((f252).toC F (q0.2 4 (by decide)))).trans (f254)).trans (f262)).rs)) (fun t266 p266 => ?_)
                obtain ⟨f266, p266⟩ := p266
                simp only [zput_s, zput_n, ti_g, oI_add, oI_sub, oI_mul, b16_91]
                try simp only [zput_s, zput_n, ti_g, oI_add, oI_sub, oI_mul]
                exact q0_rt ⟨((((((f2).trans (f136)).trans (f203)).trans ((f252).toC F (q0.2 4 (by decide)))).trans (f254)).trans (f262)).trans (f266), trivial⟩
