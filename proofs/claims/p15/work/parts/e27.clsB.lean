set_option maxRecDepth 16384
/-! X3_setRange -/
theorem s38 {sh : zSh} {T MB : Nat} (F : zCl sh T MB) {r0 : Nat} (q0 : zRd sh T MB r0) {x1 : Int} (u1 : -2147483648 ≤ x1 ∧ x1 ≤ 2147483647) {x2 : Int} (u2 : -2147483648 ≤ x2 ∧ x2 ≤ 2147483647) {x3 : Int} (u3 : -2147483648 ≤ x3 ∧ x3 ≤ 2147483647) (d2 : -1 ≤ x2 ∧ x2 ≤ 200000) (d3 : -1 ≤ x3 ∧ x3 ≤ 200000) {t : zSt} (hR : RS sh t) : zok (zcl zP 38 [zR r0, zI (oI x1), zI (oI x2), zI (oI x3)] (sh, t)) (zq0 (fun t' => FrC sh T MB t t' ∧ (True)) sh) := by
  have ha0 : (sk sh (sr sh r0 0)).2 = 7 := by rw [q0.2.2.1]
  have hb0 : (sk sh (sr sh r0 1)).2 = 7 := by rw [q0.2.2.2.2.1]
  rw [b38_0]
  try simp only [zput_s, zput_n, ti_g, oI_add, oI_sub, oI_mul]
  first | refine zok_lt (by omega) (fun c2 => ?_) (fun c2 => ?_) | refine zok_if (fun c2 => ?_) (fun c2 => ?_)
  · exact q0_rt ⟨FrC.refl hR, trivial⟩
  · refine zok_ck ((q0).1) ?_
    refine zok_ck (by rw [(q0).2.2.1]; decide) ?_
    first | refine zok_le (by omega) (fun c3 => ?_) (fun c3 => ?_) | refine zok_if (fun c3 => ?_) (fun c3 => ?_)
    · exact q0_rt ⟨FrC.refl hR, trivial⟩
    · refine zok_ck ((q0).1) ?_
      refine zok_ck (by rw [(q0).2.2.2.2.1]; decide) ?_
      first | refine zok_le (by omega) (fun c4 => ?_) (fun c4 => ?_) | refine zok_if (fun c4 => ?_) (fun c4 => ?_)
      · exact q0_rt ⟨FrC.refl hR, trivial⟩
      · refine zok_ck ((q0).1) ?_
        refine zok_ck ⟨(by rw [(q0).2.2.1]), zin_o (by omega) (by omega) (by omega)⟩ ?_
        refine zok_ck ((q0).1) ?_
        refine zok_ck ⟨(by rw [(q0).2.2.2.2.1]), zin_o (by omega) (by omega) (by omega)⟩ ?_
        exact q0_rt ⟨(FrC_I F (hR) ((q0).2.2.2.1) (by rw [(q0).2.2.1]; decide) (fun _ => by rw [oI_toInt (by omega) (by omega)]; omega)).trans (FrC_I F ((FrC_I F (hR) ((q0).2.2.2.1) (by rw [(q0).2.2.1]; decide) (fun _ => by rw [oI_toInt (by omega) (by omega)]; omega)).rs) ((q0).2.2.2.2.2) (by rw [(q0).2.2.2.2.1]; decide) (fun _ => by rw [oI_toInt (by omega) (by omega)]; omega)), trivial⟩
/-! X3_startOf -/
theorem s39 {sh : zSh} {T MB : Nat} (F : zCl sh T MB) {r0 : Nat} (q0 : zRd sh T MB r0) {x1 : Int} (u1 : -2147483648 ≤ x1 ∧ x1 ≤ 2147483647) {t : zSt} (hR : RS sh t) : zok (zcl zP 39 [zR r0, zI (oI x1)] (sh, t)) (qI (fun x t' => t' = t ∧ (-1 ≤ x ∧ x ≤ 200000)) sh) := by
  have ha0 : (sk sh (sr sh r0 0)).2 = 7 := by rw [q0.2.2.1]
  rw [b39_0]
  try simp only [ti_g, oI_add]
  refine zok_lt (by omega) (fun c => qI_rt (by omega) (by omega) ⟨rfl, by omega⟩) (fun c => zok_ck q0.1 (zok_ck (by rw [q0.2.2.1]; decide) (zok_le (by omega) (fun c => qI_rt (by omega) (by omega) ⟨rfl, by omega⟩) (fun c2 => zok_ck q0.1 (zok_ck ⟨(by rw [q0.2.2.1]), zin_o (by omega) (by omega) (by omega)⟩ ?_)))))
  have := hR.2 _ q0.2.2.1 x1.toNat (by omega)
  rw [show nN (oI x1) = x1.toNat from nN_o (by omega) (by omega)]
  exact qI_rt (by omega) (by omega) ⟨rfl, this⟩
/-! X3_endOf -/
theorem s40 {sh : zSh} {T MB : Nat} (F : zCl sh T MB) {r0 : Nat} (q0 : zRd sh T MB r0) {x1 : Int} (u1 : -2147483648 ≤ x1 ∧ x1 ≤ 2147483647) {t : zSt} (hR : RS sh t) : zok (zcl zP 40 [zR r0, zI (oI x1)] (sh, t)) (qI (fun x t' => t' = t ∧ (-1 ≤ x ∧ x ≤ 200000)) sh) := by
  have ha0 : (sk sh (sr sh r0 1)).2 = 7 := by rw [q0.2.2.2.2.1]
  rw [b40_0]
  try simp only [ti_g, oI_add]
  refine zok_lt (by omega) (fun c => qI_rt (by omega) (by omega) ⟨rfl, by omega⟩) (fun c => zok_ck q0.1 (zok_ck (by rw [q0.2.2.2.2.1]; decide) (zok_le (by omega) (fun c => qI_rt (by omega) (by omega) ⟨rfl, by omega⟩) (fun c2 => zok_ck q0.1 (zok_ck ⟨(by rw [q0.2.2.2.2.1]), zin_o (by omega) (by omega) (by omega)⟩ ?_)))))
  have := hR.2 _ q0.2.2.2.2.1 x1.toNat (by omega)
  rw [show nN (oI x1) = x1.toNat from nN_o (by omega) (by omega)]
  exact qI_rt (by omega) (by omega) ⟨rfl, this⟩
/-! X3_lastOpenColon -/
theorem l37_8 {sh : zSh} {T MB : Nat} (F : zCl sh T MB) {r0 : Nat} (q0 : zRw sh T MB r0) {x1 : Int} (u1 : -2147483648 ≤ x1 ∧ x1 ≤ 2147483647) {x2 : Int} (u2 : -2147483648 ≤ x2 ∧ x2 ≤ 2147483647) (d1 : 0 ≤ x1 ∧ x1 ≤ 200000) (d2 : 0 ≤ x2 ∧ x2 ≤ 200000) {t : zSt} (hR : RS sh t) : ∀ (n : Nat) (x3 : Int) (x4 : Int) (x5 : Int) (o6 : Option zV) (wo6 : zisL o6 = false), (-2147483648 ≤ x3 ∧ x3 ≤ 2147483647) ∧ (-2147483648 ≤ x4 ∧ x4 ≤ 2147483647) ∧ (-2147483648 ≤ x5 ∧ x5 ≤ 2147483647) ∧ (x3 = -1 ∨ (x1 ≤ x3 ∧ x3 < x2)) ∧ (x1 ≤ x5) → (x2 - x5).toNat < n → zok (zev zP 37 8 [some (zR r0), some (zI (oI x1)), some (zI (oI x2)), some (zI (oI x3)), some (zI (oI x4)), some (zI (oI x5)), o6] [] (sh, t)) (qI (fun x t' => t' = t ∧ (x = -1 ∨ (x1 ≤ x ∧ x < x2))) sh) := by
  intro n
  induction n with
  | zero => intro x3 x4 x5 o6 wo6 _ hm; omega
  | succ n ih =>
    intro x3 x4 x5 o6 wo6 hv hm
    have hz0 := RS_sz (hR) q0.1
    try simp only [zput_s, zput_n, ti_g, oI_add, oI_sub, oI_mul]
    rw [b37_8 (o6 := o6) (wo6 := wo6)]
    try simp only [zput_s, zput_n, ti_g, oI_add, oI_sub, oI_mul]
    first | refine zok_le (by omega) (fun c2 => ?_) (fun c2 => ?_) | refine zok_if (fun c2 => ?_) (fun c2 => ?_)
    · first | exact qI_rt (by omega) (by omega) ⟨rfl, by omega⟩ | exact qI_nf ⟨rfl, by omega⟩
    · refine zok_ck (((q0).1).1) ?_
      refine zok_pI (s57 ((q0).1) (by omega) (hR)) (fun y3 u3 p3 => ?_)
      try simp only [zput_s, zput_n, ti_g, oI_add, oI_sub, oI_mul]
      rw [b37_20 (o6 := o6) (wo6 := wo6)]
      try simp only [zput_s, zput_n, ti_g, oI_add, oI_sub, oI_mul]
      first | refine zok_ne (by omega) (fun c5 => ?_) (fun c5 => ?_) | refine zok_if (fun c5 => ?_) (fun c5 => ?_)
      · first | refine zok_ne (by omega) (fun c6 => ?_) (fun c6 => ?_) | refine zok_if (fun c6 => ?_) (fun c6 => ?_)
        · first | refine zok_ne (by omega) (fun c7 => ?_) (fun c7 => ?_) | refine zok_if (fun c7 => ?_) (fun c7 => ?_)
          · try simp only [zput_s, zput_n, ti_g, oI_add, oI_sub, oI_mul]
            exact ih _ _ _ _ rfl (by omega) (by omega)
          · first | refine zok_ne (by omega) (fun c8 => ?_) (fun c8 => ?_) | refine zok_if (fun c8 => ?_) (fun c8 => ?_)
            · try simp only [zput_s, zput_n, ti_g, oI_add, oI_sub, oI_mul]
              exact ih _ _ _ _ rfl (by omega) (by omega)
            · try simp only [zput_s, zput_n, ti_g, oI_add, oI_sub, oI_mul]
              exact ih _ _ _ _ rfl (by omega) (by omega)
        · try simp only [zput_s, zput_n, ti_g, oI_add, oI_sub, oI_mul]
          exact ih _ _ _ _ rfl (by omega) (by omega)
      · try simp only [zput_s, zput_n, ti_g, oI_add, oI_sub, oI_mul]
        exact ih _ _ _ _ rfl (by omega) (by omega)
theorem s37 {sh : zSh} {T MB : Nat} (F : zCl sh T MB) {r0 : Nat} (q0 : zRw sh T MB r0) {x1 : Int} (u1 : -2147483648 ≤ x1 ∧ x1 ≤ 2147483647) {x2 : Int} (u2 : -2147483648 ≤ x2 ∧ x2 ≤ 2147483647) (d1 : 0 ≤ x1 ∧ x1 ≤ 200000) (d2 : 0 ≤ x2 ∧ x2 ≤ 200000) {t : zSt} (hR : RS sh t) : zok (zcl zP 37 [zR r0, zI (oI x1), zI (oI x2)] (sh, t)) (qI (fun x t' => t' = t ∧ (x = -1 ∨ (x1 ≤ x ∧ x < x2))) sh) := by
  have hz0 := RS_sz (hR) q0.1
  rw [b37_0]
  try simp only [zput_s, zput_n, ti_g, oI_add, oI_sub, oI_mul]
  try simp only [zput_s, zput_n, ti_g, oI_add, oI_sub, oI_mul]
  exact l37_8 F q0 (by omega) (by omega) d1 d2 hR _ _ _ _ _ rfl (by omega) (Nat.lt_succ_self _)
/-! X3_markAuthority -/
theorem s36 {sh : zSh} {T MB : Nat} (F : zCl sh T MB) {r0 : Nat} (q0 : zRd sh T MB r0) {r1 : Nat} (q1 : zRw sh T MB r1) {x2 : Int} (u2 : -2147483648 ≤ x2 ∧ x2 ≤ 2147483647) {x3 : Int} (u3 : -2147483648 ≤ x3 ∧ x3 ≤ 2147483647) (d2 : 0 ≤ x2 ∧ x2 ≤ 200000) (d3 : 0 ≤ x3 ∧ x3 ≤ 200000) {t : zSt} (hR : RS sh t) : zok (zcl zP 36 [zR r0, zR r1, zI (oI x2), zI (oI x3)] (sh, t)) (zq0 (fun t' => FrC sh T MB t t' ∧ (True)) sh) := by
  have ha0 : (sk sh (sr sh r0 0)).2 = 7 := by rw [q0.2.2.1]
  have hb0 : (sk sh (sr sh r0 1)).2 = 7 := by rw [q0.2.2.2.2.1]
  have hz1 := RS_sz (hR) q1.1
  rw [b36_0]
  try simp only [zput_s, zput_n, ti_g, oI_add, oI_sub, oI_mul]
  refine zok_ck (((q1).1).1) ?_
  refine zok_pI (s69 ((q1).1) (by omega) (by omega) (by omega) (by omega) (by omega) (hR)) (fun y2 u2 p2 => ?_)
  simp only [zput_s, zput_n, ti_g, oI_add, oI_sub, oI_mul, b36_8]
  try simp only [zput_s, zput_n, ti_g, oI_add, oI_sub, oI_mul]
  first | refine zok_eq (by omega) (fun c4 => ?_) (fun c4 => ?_) | refine zok_if (fun c4 => ?_) (fun c4 => ?_)
  · simp only [zput_s, zput_n, ti_g, oI_add, oI_sub, oI_mul, b36_24]
    try simp only [zput_s, zput_n, ti_g, oI_add, oI_sub, oI_mul]
    first | refine zok_ne (by omega) (fun c6 => ?_) (fun c6 => ?_) | refine zok_if (fun c6 => ?_) (fun c6 => ?_)
    · refine zok_pI (s37 F (q1) (by omega) (by omega) (by omega) (by omega) (hR)) (fun y7 u7 p7 => ?_)
      simp only [zput_s, zput_n, ti_g, oI_add, oI_sub, oI_mul, b36_47]
      try simp only [zput_s, zput_n, ti_g, oI_add, oI_sub, oI_mul]
      first | refine zok_eq (by omega) (fun c9 => ?_) (fun c9 => ?_) | refine zok_if (fun c9 => ?_) (fun c9 => ?_)
      · simp only [zput_s, zput_n, ti_g, oI_add, oI_sub, oI_mul, b36_65]
        try simp only [zput_s, zput_n, ti_g, oI_add, oI_sub, oI_mul]
        first | refine zok_ne (by omega) (fun c11 => ?_) (fun c11 => ?_) | refine zok_if (fun c11 => ?_) (fun c11 => ?_)
        · refine zok_ck ((q0).1) ?_
          refine zok_c0 (s38 F (q0) (by omega) (by omega) (by omega) (by omega) (by omega) (hR)) (fun t12 p12 => ?_)
          obtain ⟨f12, p12⟩ := p12
          simp only [zput_s, zput_n, ti_g, oI_add, oI_sub, oI_mul, b36_84]
          try simp only [zput_s, zput_n, ti_g, oI_add, oI_sub, oI_mul]
          exact q0_rt ⟨f12, trivial⟩
        · refine zok_ck ((q0).1) ?_
          refine zok_c0 (s38 F (q0) (by omega) (by omega) (by omega) (by omega) (by omega) (hR)) (fun t14 p14 => ?_)
          obtain ⟨f14, p14⟩ := p14
          simp only [zput_s, zput_n, ti_g, oI_add, oI_sub, oI_mul, b36_84]
          try simp only [zput_s, zput_n, ti_g, oI_add, oI_sub, oI_mul]
          exact q0_rt ⟨f14, trivial⟩
      · refine zok_ck ((q0).1) ?_
        refine zok_c0 (s38 F (q0) (by omega) (by omega) (by omega) (by omega) (by omega) (hR)) (fun t16 p16 => ?_)
        obtain ⟨f16, p16⟩ := p16
        simp only [zput_s, zput_n, ti_g, oI_add, oI_sub, oI_mul, b36_65]
        try simp only [zput_s, zput_n, ti_g, oI_add, oI_sub, oI_mul]
        first | refine zok_ne (by omega) (fun c18 => ?_) (fun c18 => ?_) | refine zok_if (fun c18 => ?_) (fun c18 => ?_)
        · refine zok_ck ((q0).1) ?_
          refine zok_c0 (s38 F (q0) (by omega) (by omega) (by omega) (by omega) (by omega) ((f16).rs)) (fun t19 p19 => ?_)
          obtain ⟨f19, p19⟩ := p19
          simp only [zput_s, zput_n, ti_g, oI_add, oI_sub, oI_mul, b36_84]
          try simp only [zput_s, zput_n, ti_g, oI_add, oI_sub, oI_mul]
          exact q0_rt ⟨(f16).trans (f19), trivial⟩
        · refine zok_ck ((q0).1) ?_
          refine zok_c0 (s38 F (q0) (by omega) (by omega) (by omega) (by omega) (by omega) ((f16).rs)) (fun t21 p21 => ?_)
          obtain ⟨f21, p21⟩ := p21
          simp only [zput_s, zput_n, ti_g, oI_add, oI_sub, oI_mul, b36_84]
          try simp only [zput_s, zput_n, ti_g, oI_add, oI_sub, oI_mul]
          exact q0_rt ⟨(f16).trans (f21), trivial⟩
    · refine zok_pI (s37 F (q1) (by omega) (by omega) (by omega) (by omega) (hR)) (fun y23 u23 p23 => ?_)
      simp only [zput_s, zput_n, ti_g, oI_add, oI_sub, oI_mul, b36_47]
      try simp only [zput_s, zput_n, ti_g, oI_add, oI_sub, oI_mul]
      first | refine zok_eq (by omega) (fun c25 => ?_) (fun c25 => ?_) | refine zok_if (fun c25 => ?_) (fun c25 => ?_)
      · simp only [zput_s, zput_n, ti_g, oI_add, oI_sub, oI_mul, b36_65]
        try simp only [zput_s, zput_n, ti_g, oI_add, oI_sub, oI_mul]
        first | refine zok_ne (by omega) (fun c27 => ?_) (fun c27 => ?_) | refine zok_if (fun c27 => ?_) (fun c27 => ?_)
        · refine zok_ck ((q0).1) ?_
          refine zok_c0 (s38 F (q0) (by omega) (by omega) (by omega) (by omega) (by omega) (hR)) (fun t28 p28 => ?_)
          obtain ⟨f28, p28⟩ := p28
          simp only [zput_s, zput_n, ti_g, oI_add, oI_sub, oI_mul, b36_84]
          try simp only [zput_s, zput_n, ti_g, oI_add, oI_sub, oI_mul]
          exact q0_rt ⟨f28, trivial⟩
        · refine zok_ck ((q0).1) ?_
          refine zok_c0 (s38 F (q0) (by omega) (by omega) (by omega) (by omega) (by omega) (hR)) (fun t30 p30 => ?_)
          obtain ⟨f30, p30⟩ := p30
          simp only [zput_s, zput_n, ti_g, oI_add, oI_sub, oI_mul, b36_84]
          try simp only [zput_s, zput_n, ti_g, oI_add, oI_sub, oI_mul]
          exact q0_rt ⟨f30, trivial⟩
      · refine zok_ck ((q0).1) ?_
        refine zok_c0 (s38 F (q0) (by omega) (by omega) (by omega) (by omega) (by omega) (hR)) (fun t32 p32 => ?_)
        obtain ⟨f32, p32⟩ := p32
        simp only [zput_s, zput_n, ti_g, oI_add, oI_sub, oI_mul, b36_65]
        try simp only [zput_s, zput_n, ti_g, oI_add, oI_sub, oI_mul]
        first | refine zok_ne (by omega) (fun c34 => ?_) (fun c34 => ?_) | refine zok_if (fun c34 => ?_) (fun c34 => ?_)
        · refine zok_ck ((q0).1) ?_
          refine zok_c0 (s38 F (q0) (by omega) (by omega) (by omega) (by omega) (by omega) ((f32).rs)) (fun t35 p35 => ?_)
          obtain ⟨f35, p35⟩ := p35
          simp only [zput_s, zput_n, ti_g, oI_add, oI_sub, oI_mul, b36_84]
          try simp only [zput_s, zput_n, ti_g, oI_add, oI_sub, oI_mul]
          exact q0_rt ⟨(f32).trans (f35), trivial⟩
        · refine zok_ck ((q0).1) ?_
          refine zok_c0 (s38 F (q0) (by omega) (by omega) (by omega) (by omega) (by omega) ((f32).rs)) (fun t37 p37 => ?_)
          obtain ⟨f37, p37⟩ := p37
          simp only [zput_s, zput_n, ti_g, oI_add, oI_sub, oI_mul, b36_84]
          try simp only [zput_s, zput_n, ti_g, oI_add, oI_sub, oI_mul]
          exact q0_rt ⟨(f32).trans (f37), trivial⟩
  · refine zok_ck ((q0).1) ?_
    refine zok_c0 (s38 F (q0) (by omega) (by omega) (by omega) (by omega) (by omega) (hR)) (fun t39 p39 => ?_)
    obtain ⟨f39, p39⟩ := p39
    simp only [zput_s, zput_n, ti_g, oI_add, oI_sub, oI_mul, b36_24]
    try simp only [zput_s, zput_n, ti_g, oI_add, oI_sub, oI_mul]
    first | refine zok_ne (by omega) (fun c41 => ?_) (fun c41 => ?_) | refine zok_if (fun c41 => ?_) (fun c41 => ?_)
    · refine zok_pI (s37 F (q1) (by omega) (by omega) (by omega) (by omega) ((f39).rs)) (fun y42 u42 p42 => ?_)
      simp only [zput_s, zput_n, ti_g, oI_add, oI_sub, oI_mul, b36_47]
      try simp only [zput_s, zput_n, ti_g, oI_add, oI_sub, oI_mul]
      first | refine zok_eq (by omega) (fun c44 => ?_) (fun c44 => ?_) | refine zok_if (fun c44 => ?_) (fun c44 => ?_)
      · simp only [zput_s, zput_n, ti_g, oI_add, oI_sub, oI_mul, b36_65]
        try simp only [zput_s, zput_n, ti_g, oI_add, oI_sub, oI_mul]
        first | refine zok_ne (by omega) (fun c46 => ?_) (fun c46 => ?_) | refine zok_if (fun c46 => ?_) (fun c46 => ?_)
        · refine zok_ck ((q0).1) ?_
          refine zok_c0 (s38 F (q0) (by omega) (by omega) (by omega) (by omega) (by omega) ((f39).rs)) (fun t47 p47 => ?_)
          obtain ⟨f47, p47⟩ := p47
          simp only [zput_s, zput_n, ti_g, oI_add, oI_sub, oI_mul, b36_84]
          try simp only [zput_s, zput_n, ti_g, oI_add, oI_sub, oI_mul]
          exact q0_rt ⟨(f39).trans (f47), trivial⟩
        · refine zok_ck ((q0).1) ?_
          refine zok_c0 (s38 F (q0) (by omega) (by omega) (by omega) (by omega) (by omega) ((f39).rs)) (fun t49 p49 => ?_)
          obtain ⟨f49, p49⟩ := p49
          simp only [zput_s, zput_n, ti_g, oI_add, oI_sub, oI_mul, b36_84]
          try simp only [zput_s, zput_n, ti_g, oI_add, oI_sub, oI_mul]
          exact q0_rt ⟨(f39).trans (f49), trivial⟩
      · refine zok_ck ((q0).1) ?_
        refine zok_c0 (s38 F (q0) (by omega) (by omega) (by omega) (by omega) (by omega) ((f39).rs)) (fun t51 p51 => ?_)
        obtain ⟨f51, p51⟩ := p51
        simp only [zput_s, zput_n, ti_g, oI_add, oI_sub, oI_mul, b36_65]
        try simp only [zput_s, zput_n, ti_g, oI_add, oI_sub, oI_mul]
        first | refine zok_ne (by omega) (fun c53 => ?_) (fun c53 => ?_) | refine zok_if (fun c53 => ?_) (fun c53 => ?_)
        · refine zok_ck ((q0).1) ?_
          refine zok_c0 (s38 F (q0) (by omega) (by omega) (by omega) (by omega) (by omega) (((f39).trans (f51)).rs)) (fun t54 p54 => ?_)
          obtain ⟨f54, p54⟩ := p54
          simp only [zput_s, zput_n, ti_g, oI_add, oI_sub, oI_mul, b36_84]
          try simp only [zput_s, zput_n, ti_g, oI_add, oI_sub, oI_mul]
          exact q0_rt ⟨((f39).trans (f51)).trans (f54), trivial⟩
        · refine zok_ck ((q0).1) ?_
          refine zok_c0 (s38 F (q0) (by omega) (by omega) (by omega) (by omega) (by omega) (((f39).trans (f51)).rs)) (fun t56 p56 => ?_)
          obtain ⟨f56, p56⟩ := p56
          simp only [zput_s, zput_n, ti_g, oI_add, oI_sub, oI_mul, b36_84]
          try simp only [zput_s, zput_n, ti_g, oI_add, oI_sub, oI_mul]
          exact q0_rt ⟨((f39).trans (f51)).trans (f56), trivial⟩
    · refine zok_pI (s37 F (q1) (by omega) (by omega) (by omega) (by omega) ((f39).rs)) (fun y58 u58 p58 => ?_)
      simp only [zput_s, zput_n, ti_g, oI_add, oI_sub, oI_mul, b36_47]
      try simp only [zput_s, zput_n, ti_g, oI_add, oI_sub, oI_mul]
      first | refine zok_eq (by omega) (fun c60 => ?_) (fun c60 => ?_) | refine zok_if (fun c60 => ?_) (fun c60 => ?_)
      · simp only [zput_s, zput_n, ti_g, oI_add, oI_sub, oI_mul, b36_65]
        try simp only [zput_s, zput_n, ti_g, oI_add, oI_sub, oI_mul]
        first | refine zok_ne (by omega) (fun c62 => ?_) (fun c62 => ?_) | refine zok_if (fun c62 => ?_) (fun c62 => ?_)
        · refine zok_ck ((q0).1) ?_
          refine zok_c0 (s38 F (q0) (by omega) (by omega) (by omega) (by omega) (by omega) ((f39).rs)) (fun t63 p63 => ?_)
          obtain ⟨f63, p63⟩ := p63
          simp only [zput_s, zput_n, ti_g, oI_add, oI_sub, oI_mul, b36_84]
          try simp only [zput_s, zput_n, ti_g, oI_add, oI_sub, oI_mul]
          exact q0_rt ⟨(f39).trans (f63), trivial⟩
        · refine zok_ck ((q0).1) ?_
          refine zok_c0 (s38 F (q0) (by omega) (by omega) (by omega) (by omega) (by omega) ((f39).rs)) (fun t65 p65 => ?_)
          obtain ⟨f65, p65⟩ := p65
          simp only [zput_s, zput_n, ti_g, oI_add, oI_sub, oI_mul, b36_84]
          try simp only [zput_s, zput_n, ti_g, oI_add, oI_sub, oI_mul]
          exact q0_rt ⟨(f39).trans (f65), trivial⟩
      · refine zok_ck ((q0).1) ?_
        refine zok_c0 (s38 F (q0) (by omega) (by omega) (by omega) (by omega) (by omega) ((f39).rs)) (fun t67 p67 => ?_)
        obtain ⟨f67, p67⟩ := p67
        simp only [zput_s, zput_n, ti_g, oI_add, oI_sub, oI_mul, b36_65]
        try simp only [zput_s, zput_n, ti_g, oI_add, oI_sub, oI_mul]
        first | refine zok_ne (by omega) (fun c69 => ?_) (fun c69 => ?_) | refine zok_if (fun c69 => ?_) (fun c69 => ?_)
        · refine zok_ck ((q0).1) ?_
          refine zok_c0 (s38 F (q0) (by omega) (by omega) (by omega) (by omega) (by omega) (((f39).trans (f67)).rs)) (fun t70 p70 => ?_)
          obtain ⟨f70, p70⟩ := p70
          simp only [zput_s, zput_n, ti_g, oI_add, oI_sub, oI_mul, b36_84]
          try simp only [zput_s, zput_n, ti_g, oI_add, oI_sub, oI_mul]
          exact q0_rt ⟨((f39).trans (f67)).trans (f70), trivial⟩
        · refine zok_ck ((q0).1) ?_
          refine zok_c0 (s38 F (q0) (by omega) (by omega) (by omega) (by omega) (by omega) (((f39).trans (f67)).rs)) (fun t72 p72 => ?_)
          obtain ⟨f72, p72⟩ := p72
          simp only [zput_s, zput_n, ti_g, oI_add, oI_sub, oI_mul, b36_84]
          try simp only [zput_s, zput_n, ti_g, oI_add, oI_sub, oI_mul]
          exact q0_rt ⟨((f39).trans (f67)).trans (f72), trivial⟩
/-! X3_mark -/
theorem l35_2 {sh : zSh} {T MB : Nat} (F : zCl sh T MB) {r0 : Nat} (q0 : zRd sh T MB r0) {r1 : Nat} (q1 : zRw sh T MB r1) {t0 : zSt} (hR : RS sh t0) : ∀ (n : Nat) (x2 : Int)  (t1 : zSt), FrC sh T MB t0 t1 → (-2147483648 ≤ x2 ∧ x2 ≤ 2147483647) ∧ (0 ≤ x2) → (7 - x2).toNat < n → zok (zev zP 35 2 [some (zR r0), some (zR r1), some (zI (oI x2)), none, none, none, none, none] [] (sh, t1)) (zq0 (fun t' => FrC sh T MB t0 t' ∧ (True)) sh) := by
  intro n
  induction n with
  | zero => intro x2  t1 f0 _ hm; omega
  | succ n ih =>
    intro x2  t1 f0 hv hm
    have ha0 : (sk sh (sr sh r0 0)).2 = 7 := by rw [q0.2.2.1]
    have hb0 : (sk sh (sr sh r0 1)).2 = 7 := by rw [q0.2.2.2.2.1]
    have hz1 := RS_sz (f0.rs) q1.1
    have g1_1 := RS_sz (f0.rs) ((q1).1)
    simp only [zput_s, zput_n, ti_g, oI_add, oI_sub, oI_mul, b35_2]
    try simp only [zput_s, zput_n, ti_g, oI_add, oI_sub, oI_mul]
    first | refine zok_le (by omega) (fun c2 => ?_) (fun c2 => ?_) | refine zok_if (fun c2 => ?_) (fun c2 => ?_)
    · refine zok_ck (((q1).1).1) ?_
      refine zok_ck (((q1).1).1) ?_
      refine zok_pI (s68 ((q1).1) (by omega) (by omega) (by omega) (by omega) (f0.rs)) (fun y3 u3 p3 => ?_)
      have g4_1 := RS_sz (f0.rs) ((q1).1)
      simp only [zput_s, zput_n, ti_g, oI_add, oI_sub, oI_mul, b35_32]
      try simp only [zput_s, zput_n, ti_g, oI_add, oI_sub, oI_mul]
      refine zok_ck (((q1).1).1) ?_
      first | refine zok_le (by omega) (fun c5 => ?_) (fun c5 => ?_) | refine zok_if (fun c5 => ?_) (fun c5 => ?_)
      · simp only [zput_s, zput_n, ti_g, oI_add, oI_sub, oI_mul, b35_54]
        try simp only [zput_s, zput_n, ti_g, oI_add, oI_sub, oI_mul]
        refine zok_ck (((q1).1).1) ?_
        refine zok_pI (s68 ((q1).1) (by omega) (by omega) (by omega) (by omega) (f0.rs)) (fun y7 u7 p7 => ?_)
        simp only [zput_s, zput_n, ti_g, oI_add, oI_sub, oI_mul, b35_62]
        try simp only [zput_s, zput_n, ti_g, oI_add, oI_sub, oI_mul]
        first | refine zok_le (by omega) (fun c9 => ?_) (fun c9 => ?_) | refine zok_if (fun c9 => ?_) (fun c9 => ?_)
        · simp only [zput_s, zput_n, ti_g, oI_add, oI_sub, oI_mul, b35_77]
          try simp only [zput_s, zput_n, ti_g, oI_add, oI_sub, oI_mul]
          refine zok_ck (((q1).1).1) ?_
          refine zok_pI (s68 ((q1).1) (by omega) (by omega) (by omega) (by omega) (f0.rs)) (fun y11 u11 p11 => ?_)
          simp only [zput_s, zput_n, ti_g, oI_add, oI_sub, oI_mul, b35_85]
          try simp only [zput_s, zput_n, ti_g, oI_add, oI_sub, oI_mul]
          refine zok_ck (((q1).1).1) ?_
          refine zok_pI (s68 ((q1).1) (by omega) (by omega) (by omega) (by omega) (f0.rs)) (fun y13 u13 p13 => ?_)
          simp only [zput_s, zput_n, ti_g, oI_add, oI_sub, oI_mul, b35_96]
          try simp only [zput_s, zput_n, ti_g, oI_add, oI_sub, oI_mul]
          first | refine zok_le (by omega) (fun c15 => ?_) (fun c15 => ?_) | refine zok_if (fun c15 => ?_) (fun c15 => ?_)
          · first | refine zok_lt (by omega) (fun c16 => ?_) (fun c16 => ?_) | refine zok_if (fun c16 => ?_) (fun c16 => ?_)
            · try simp only [zput_s, zput_n, ti_g, oI_add, oI_sub, oI_mul]
              rw [b35_180 (o7 := none) (wo7 := rfl)]
              try simp only [zput_s, zput_n, ti_g, oI_add, oI_sub, oI_mul]
              refine zok_ck ((q0).1) ?_
              refine zok_c0 (s38 F (q0) (by omega) (by omega) (by omega) (by omega) (by omega) (f0.rs)) (fun t18 p18 => ?_)
              obtain ⟨f18, p18⟩ := p18
              try simp only [zput_s, zput_n, ti_g, oI_add, oI_sub, oI_mul]
              rw [b35_188 (o7 := none) (wo7 := rfl)]
              try simp only [zput_s, zput_n, ti_g, oI_add, oI_sub, oI_mul]
              exact q0_rt ⟨(f0).trans (f18), trivial⟩
            · refine zok_ck (((q1).1).1) ?_
              refine zok_pI (s57 ((q1).1) (by omega) (f0.rs)) (fun y20 u20 p20 => ?_)
              simp only [zput_s, zput_n, ti_g, oI_add, oI_sub, oI_mul, b35_136]
              try simp only [zput_s, zput_n, ti_g, oI_add, oI_sub, oI_mul]
              first | refine zok_ne (by omega) (fun c22 => ?_) (fun c22 => ?_) | refine zok_if (fun c22 => ?_) (fun c22 => ?_)
              · try simp only [zput_s, zput_n, ti_g, oI_add, oI_sub, oI_mul]
                rw [b35_180 (o7 := none) (wo7 := rfl)]
                try simp only [zput_s, zput_n, ti_g, oI_add, oI_sub, oI_mul]
                refine zok_ck ((q0).1) ?_
                refine zok_c0 (s38 F (q0) (by omega) (by omega) (by omega) (by omega) (by omega) (f0.rs)) (fun t24 p24 => ?_)
                obtain ⟨f24, p24⟩ := p24
                try simp only [zput_s, zput_n, ti_g, oI_add, oI_sub, oI_mul]
                rw [b35_188 (o7 := none) (wo7 := rfl)]
                try simp only [zput_s, zput_n, ti_g, oI_add, oI_sub, oI_mul]
                exact q0_rt ⟨(f0).trans (f24), trivial⟩
              · refine zok_ck (((q1).1).1) ?_
                refine zok_pI (s57 ((q1).1) (by omega) (f0.rs)) (fun y26 u26 p26 => ?_)
                simp only [zput_s, zput_n, ti_g, oI_add, oI_sub, oI_mul, b35_149]
                try simp only [zput_s, zput_n, ti_g, oI_add, oI_sub, oI_mul]
                first | refine zok_ne (by omega) (fun c28 => ?_) (fun c28 => ?_) | refine zok_if (fun c28 => ?_) (fun c28 => ?_)
                · try simp only [zput_s, zput_n, ti_g, oI_add, oI_sub, oI_mul]
                  rw [b35_180 (o7 := none) (wo7 := rfl)]
                  try simp only [zput_s, zput_n, ti_g, oI_add, oI_sub, oI_mul]
                  refine zok_ck ((q0).1) ?_
                  refine zok_c0 (s38 F (q0) (by omega) (by omega) (by omega) (by omega) (by omega) (f0.rs)) (fun t30 p30 => ?_)
                  obtain ⟨f30, p30⟩ := p30
                  try simp only [zput_s, zput_n, ti_g, oI_add, oI_sub, oI_mul]
                  rw [b35_188 (o7 := none) (wo7 := rfl)]
                  try simp only [zput_s, zput_n, ti_g, oI_add, oI_sub, oI_mul]
                  exact q0_rt ⟨(f0).trans (f30), trivial⟩
                · refine zok_ck (((q1).1).1) ?_
                  refine zok_pI (s68 ((q1).1) (by omega) (by omega) (by omega) (by omega) (f0.rs)) (fun y32 u32 p32 => ?_)
                  simp only [zput_s, zput_n, ti_g, oI_add, oI_sub, oI_mul, b35_169]
                  try simp only [zput_s, zput_n, ti_g, oI_add, oI_sub, oI_mul]
                  refine zok_ck ((q0).1) ?_
                  refine zok_c0 (s36 F (q0) (q1) (by omega) (by omega) (by omega) (by omega) (f0.rs)) (fun t34 p34 => ?_)
                  obtain ⟨f34, p34⟩ := p34
                  try simp only [zput_s, zput_n, ti_g, oI_add, oI_sub, oI_mul]
                  rw [b35_180 (o7 := some (zI (oI ((0) + (2))))) (wo7 := rfl)]
                  try simp only [zput_s, zput_n, ti_g, oI_add, oI_sub, oI_mul]
                  refine zok_ck ((q0).1) ?_
                  refine zok_c0 (s38 F (q0) (by omega) (by omega) (by omega) (by omega) (by omega) (((f0).trans (f34)).rs)) (fun t36 p36 => ?_)
                  obtain ⟨f36, p36⟩ := p36
                  try simp only [zput_s, zput_n, ti_g, oI_add, oI_sub, oI_mul]
                  rw [b35_188 (o7 := some (zI (oI ((0) + (2))))) (wo7 := rfl)]
                  try simp only [zput_s, zput_n, ti_g, oI_add, oI_sub, oI_mul]
                  exact q0_rt ⟨((f0).trans (f34)).trans (f36), trivial⟩
          · refine zok_ck ((q0).1) ?_
            refine zok_c0 (s38 F (q0) (by omega) (by omega) (by omega) (by omega) (by omega) (f0.rs)) (fun t38 p38 => ?_)
            obtain ⟨f38, p38⟩ := p38
            simp only [zput_s, zput_n, ti_g, oI_add, oI_sub, oI_mul, b35_116]
            try simp only [zput_s, zput_n, ti_g, oI_add, oI_sub, oI_mul]
            first | refine zok_lt (by omega) (fun c40 => ?_) (fun c40 => ?_) | refine zok_if (fun c40 => ?_) (fun c40 => ?_)
            · try simp only [zput_s, zput_n, ti_g, oI_add, oI_sub, oI_mul]
              rw [b35_180 (o7 := none) (wo7 := rfl)]
              try simp only [zput_s, zput_n, ti_g, oI_add, oI_sub, oI_mul]
              refine zok_ck ((q0).1) ?_
              refine zok_c0 (s38 F (q0) (by omega) (by omega) (by omega) (by omega) (by omega) (((f0).trans (f38)).rs)) (fun t42 p42 => ?_)
              obtain ⟨f42, p42⟩ := p42
              try simp only [zput_s, zput_n, ti_g, oI_add, oI_sub, oI_mul]
              rw [b35_188 (o7 := none) (wo7 := rfl)]
              try simp only [zput_s, zput_n, ti_g, oI_add, oI_sub, oI_mul]
              exact q0_rt ⟨((f0).trans (f38)).trans (f42), trivial⟩
            · refine zok_ck (((q1).1).1) ?_
              refine zok_pI (s57 ((q1).1) (by omega) (((f0).trans (f38)).rs)) (fun y44 u44 p44 => ?_)
              simp only [zput_s, zput_n, ti_g, oI_add, oI_sub, oI_mul, b35_136]
              try simp only [zput_s, zput_n, ti_g, oI_add, oI_sub, oI_mul]
              first | refine zok_ne (by omega) (fun c46 => ?_) (fun c46 => ?_) | refine zok_if (fun c46 => ?_) (fun c46 => ?_)
              · try simp only [zput_s, zput_n, ti_g, oI_add, oI_sub, oI_mul]
                rw [b35_180 (o7 := none) (wo7 := rfl)]
                try simp only [zput_s, zput_n, ti_g, oI_add, oI_sub, oI_mul]
                refine zok_ck ((q0).1) ?_
                refine zok_c0 (s38 F (q0) (by omega) (by omega) (by omega) (by omega) (by omega) (((f0).trans (f38)).rs)) (fun t48 p48 => ?_)
                obtain ⟨f48, p48⟩ := p48
                try simp only [zput_s, zput_n, ti_g, oI_add, oI_sub, oI_mul]
                rw [b35_188 (o7 := none) (wo7 := rfl)]
                try simp only [zput_s, zput_n, ti_g, oI_add, oI_sub, oI_mul]
                exact q0_rt ⟨((f0).trans (f38)).trans (f48), trivial⟩
              · refine zok_ck (((q1).1).1) ?_
                refine zok_pI (s57 ((q1).1) (by omega) (((f0).trans (f38)).rs)) (fun y50 u50 p50 => ?_)
                simp only [zput_s, zput_n, ti_g, oI_add, oI_sub, oI_mul, b35_149]
                try simp only [zput_s, zput_n, ti_g, oI_add, oI_sub, oI_mul]
                first | refine zok_ne (by omega) (fun c52 => ?_) (fun c52 => ?_) | refine zok_if (fun c52 => ?_) (fun c52 => ?_)
                · try simp only [zput_s, zput_n, ti_g, oI_add, oI_sub, oI_mul]
                  rw [b35_180 (o7 := none) (wo7 := rfl)]
                  try simp only [zput_s, zput_n, ti_g, oI_add, oI_sub, oI_mul]
                  refine zok_ck ((q0).1) ?_
                  refine zok_c0 (s38 F (q0) (by omega) (by omega) (by omega) (by omega) (by omega) (((f0).trans (f38)).rs)) (fun t54 p54 => ?_)
                  obtain ⟨f54, p54⟩ := p54
                  try simp only [zput_s, zput_n, ti_g, oI_add, oI_sub, oI_mul]
                  rw [b35_188 (o7 := none) (wo7 := rfl)]
                  try simp only [zput_s, zput_n, ti_g, oI_add, oI_sub, oI_mul]
                  exact q0_rt ⟨((f0).trans (f38)).trans (f54), trivial⟩
                · refine zok_ck (((q1).1).1) ?_
                  refine zok_pI (s68 ((q1).1) (by omega) (by omega) (by omega) (by omega) (((f0).trans (f38)).rs)) (fun y56 u56 p56 => ?_)
                  simp only [zput_s, zput_n, ti_g, oI_add, oI_sub, oI_mul, b35_169]
                  try simp only [zput_s, zput_n, ti_g, oI_add, oI_sub, oI_mul]
                  refine zok_ck ((q0).1) ?_
                  refine zok_c0 (s36 F (q0) (q1) (by omega) (by omega) (by omega) (by omega) (((f0).trans (f38)).rs)) (fun t58 p58 => ?_)
                  obtain ⟨f58, p58⟩ := p58
                  try simp only [zput_s, zput_n, ti_g, oI_add, oI_sub, oI_mul]
                  rw [b35_180 (o7 := some (zI (oI (((y13) + (1)) + (2))))) (wo7 := rfl)]
                  try simp only [zput_s, zput_n, ti_g, oI_add, oI_sub, oI_mul]
                  refine zok_ck ((q0).1) ?_
                  refine zok_c0 (s38 F (q0) (by omega) (by omega) (by omega) (by omega) (by omega) ((((f0).trans (f38)).trans (f58)).rs)) (fun t60 p60 => ?_)
                  obtain ⟨f60, p60⟩ := p60
                  try simp only [zput_s, zput_n, ti_g, oI_add, oI_sub, oI_mul]
                  rw [b35_188 (o7 := some (zI (oI (((y13) + (1)) + (2))))) (wo7 := rfl)]
                  try simp only [zput_s, zput_n, ti_g, oI_add, oI_sub, oI_mul]
                  exact q0_rt ⟨(((f0).trans (f38)).trans (f58)).trans (f60), trivial⟩
        · refine zok_ck ((q0).1) ?_
          refine zok_c0 (s38 F (q0) (by omega) (by omega) (by omega) (by omega) (by omega) (f0.rs)) (fun t62 p62 => ?_)
          obtain ⟨f62, p62⟩ := p62
          simp only [zput_s, zput_n, ti_g, oI_add, oI_sub, oI_mul, b35_77]
          try simp only [zput_s, zput_n, ti_g, oI_add, oI_sub, oI_mul]
          refine zok_ck (((q1).1).1) ?_
          refine zok_pI (s68 ((q1).1) (by omega) (by omega) (by omega) (by omega) (((f0).trans (f62)).rs)) (fun y64 u64 p64 => ?_)
          simp only [zput_s, zput_n, ti_g, oI_add, oI_sub, oI_mul, b35_85]
          try simp only [zput_s, zput_n, ti_g, oI_add, oI_sub, oI_mul]
          refine zok_ck (((q1).1).1) ?_
          refine zok_pI (s68 ((q1).1) (by omega) (by omega) (by omega) (by omega) (((f0).trans (f62)).rs)) (fun y66 u66 p66 => ?_)
          simp only [zput_s, zput_n, ti_g, oI_add, oI_sub, oI_mul, b35_96]
          try simp only [zput_s, zput_n, ti_g, oI_add, oI_sub, oI_mul]
          first | refine zok_le (by omega) (fun c68 => ?_) (fun c68 => ?_) | refine zok_if (fun c68 => ?_) (fun c68 => ?_)
          · first | refine zok_lt (by omega) (fun c69 => ?_) (fun c69 => ?_) | refine zok_if (fun c69 => ?_) (fun c69 => ?_)
            · try simp only [zput_s, zput_n, ti_g, oI_add, oI_sub, oI_mul]
              rw [b35_180 (o7 := none) (wo7 := rfl)]
              try simp only [zput_s, zput_n, ti_g, oI_add, oI_sub, oI_mul]
              refine zok_ck ((q0).1) ?_
              refine zok_c0 (s38 F (q0) (by omega) (by omega) (by omega) (by omega) (by omega) (((f0).trans (f62)).rs)) (fun t71 p71 => ?_)
              obtain ⟨f71, p71⟩ := p71
              try simp only [zput_s, zput_n, ti_g, oI_add, oI_sub, oI_mul]
              rw [b35_188 (o7 := none) (wo7 := rfl)]
              try simp only [zput_s, zput_n, ti_g, oI_add, oI_sub, oI_mul]
              exact q0_rt ⟨((f0).trans (f62)).trans (f71), trivial⟩
            · refine zok_ck (((q1).1).1) ?_
              refine zok_pI (s57 ((q1).1) (by omega) (((f0).trans (f62)).rs)) (fun y73 u73 p73 => ?_)
              simp only [zput_s, zput_n, ti_g, oI_add, oI_sub, oI_mul, b35_136]
              try simp only [zput_s, zput_n, ti_g, oI_add, oI_sub, oI_mul]
              first | refine zok_ne (by omega) (fun c75 => ?_) (fun c75 => ?_) | refine zok_if (fun c75 => ?_) (fun c75 => ?_)
              · try simp only [zput_s, zput_n, ti_g, oI_add, oI_sub, oI_mul]
                rw [b35_180 (o7 := none) (wo7 := rfl)]
                try simp only [zput_s, zput_n, ti_g, oI_add, oI_sub, oI_mul]
                refine zok_ck ((q0).1) ?_
                refine zok_c0 (s38 F (q0) (by omega) (by omega) (by omega) (by omega) (by omega) (((f0).trans (f62)).rs)) (fun t77 p77 => ?_)
                obtain ⟨f77, p77⟩ := p77
                try simp only [zput_s, zput_n, ti_g, oI_add, oI_sub, oI_mul]
                rw [b35_188 (o7 := none) (wo7 := rfl)]
                try simp only [zput_s, zput_n, ti_g, oI_add, oI_sub, oI_mul]
                exact q0_rt ⟨((f0).trans (f62)).trans (f77), trivial⟩
              · refine zok_ck (((q1).1).1) ?_
                refine zok_pI (s57 ((q1).1) (by omega) (((f0).trans (f62)).rs)) (fun y79 u79 p79 => ?_)
                simp only [zput_s, zput_n, ti_g, oI_add, oI_sub, oI_mul, b35_149]
                try simp only [zput_s, zput_n, ti_g, oI_add, oI_sub, oI_mul]
                first | refine zok_ne (by omega) (fun c81 => ?_) (fun c81 => ?_) | refine zok_if (fun c81 => ?_) (fun c81 => ?_)
                · try simp only [zput_s, zput_n, ti_g, oI_add, oI_sub, oI_mul]
                  rw [b35_180 (o7 := none) (wo7 := rfl)]
                  try simp only [zput_s, zput_n, ti_g, oI_add, oI_sub, oI_mul]
                  refine zok_ck ((q0).1) ?_
                  refine zok_c0 (s38 F (q0) (by omega) (by omega) (by omega) (by omega) (by omega) (((f0).trans (f62)).rs)) (fun t83 p83 => ?_)
                  obtain ⟨f83, p83⟩ := p83
                  try simp only [zput_s, zput_n, ti_g, oI_add, oI_sub, oI_mul]
                  rw [b35_188 (o7 := none) (wo7 := rfl)]
                  try simp only [zput_s, zput_n, ti_g, oI_add, oI_sub, oI_mul]
                  exact q0_rt ⟨((f0).trans (f62)).trans (f83), trivial⟩
                · refine zok_ck (((q1).1).1) ?_
                  refine zok_pI (s68 ((q1).1) (by omega) (by omega) (by omega) (by omega) (((f0).trans (f62)).rs)) (fun y85 u85 p85 => ?_)
                  simp only [zput_s, zput_n, ti_g, oI_add, oI_sub, oI_mul, b35_169]
                  try simp only [zput_s, zput_n, ti_g, oI_add, oI_sub, oI_mul]
                  refine zok_ck ((q0).1) ?_
                  refine zok_c0 (s36 F (q0) (q1) (by omega) (by omega) (by omega) (by omega) (((f0).trans (f62)).rs)) (fun t87 p87 => ?_)
                  obtain ⟨f87, p87⟩ := p87
                  try simp only [zput_s, zput_n, ti_g, oI_add, oI_sub, oI_mul]
                  rw [b35_180 (o7 := some (zI (oI ((0) + (2))))) (wo7 := rfl)]
                  try simp only [zput_s, zput_n, ti_g, oI_add, oI_sub, oI_mul]
                  refine zok_ck ((q0).1) ?_
                  refine zok_c0 (s38 F (q0) (by omega) (by omega) (by omega) (by omega) (by omega) ((((f0).trans (f62)).trans (f87)).rs)) (fun t89 p89 => ?_)
                  obtain ⟨f89, p89⟩ := p89
                  try simp only [zput_s, zput_n, ti_g, oI_add, oI_sub, oI_mul]
                  rw [b35_188 (o7 := some (zI (oI ((0) + (2))))) (wo7 := rfl)]
                  try simp only [zput_s, zput_n, ti_g, oI_add, oI_sub, oI_mul]
                  exact q0_rt ⟨(((f0).trans (f62)).trans (f87)).trans (f89), trivial⟩
          · refine zok_ck ((q0).1) ?_
            refine zok_c0 (s38 F (q0) (by omega) (by omega) (by omega) (by omega) (by omega) (((f0).trans (f62)).rs)) (fun t91 p91 => ?_)
            obtain ⟨f91, p91⟩ := p91
            simp only [zput_s, zput_n, ti_g, oI_add, oI_sub, oI_mul, b35_116]
            try simp only [zput_s, zput_n, ti_g, oI_add, oI_sub, oI_mul]
            first | refine zok_lt (by omega) (fun c93 => ?_) (fun c93 => ?_) | refine zok_if (fun c93 => ?_) (fun c93 => ?_)
            · try simp only [zput_s, zput_n, ti_g, oI_add, oI_sub, oI_mul]
              rw [b35_180 (o7 := none) (wo7 := rfl)]
              try simp only [zput_s, zput_n, ti_g, oI_add, oI_sub, oI_mul]
              refine zok_ck ((q0).1) ?_
              refine zok_c0 (s38 F (q0) (by omega) (by omega) (by omega) (by omega) (by omega) ((((f0).trans (f62)).trans (f91)).rs)) (fun t95 p95 => ?_)
              obtain ⟨f95, p95⟩ := p95
              try simp only [zput_s, zput_n, ti_g, oI_add, oI_sub, oI_mul]
              rw [b35_188 (o7 := none) (wo7 := rfl)]
              try simp only [zput_s, zput_n, ti_g, oI_add, oI_sub, oI_mul]
              exact q0_rt ⟨(((f0).trans (f62)).trans (f91)).trans (f95), trivial⟩
            · refine zok_ck (((q1).1).1) ?_
              refine zok_pI (s57 ((q1).1) (by omega) ((((f0).trans (f62)).trans (f91)).rs)) (fun y97 u97 p97 => ?_)
              simp only [zput_s, zput_n, ti_g, oI_add, oI_sub, oI_mul, b35_136]
              try simp only [zput_s, zput_n, ti_g, oI_add, oI_sub, oI_mul]
              first | refine zok_ne (by omega) (fun c99 => ?_) (fun c99 => ?_) | refine zok_if (fun c99 => ?_) (fun c99 => ?_)
              · try simp only [zput_s, zput_n, ti_g, oI_add, oI_sub, oI_mul]
                rw [b35_180 (o7 := none) (wo7 := rfl)]
                try simp only [zput_s, zput_n, ti_g, oI_add, oI_sub, oI_mul]
                refine zok_ck ((q0).1) ?_
                refine zok_c0 (s38 F (q0) (by omega) (by omega) (by omega) (by omega) (by omega) ((((f0).trans (f62)).trans (f91)).rs)) (fun t101 p101 => ?_)
                obtain ⟨f101, p101⟩ := p101
                try simp only [zput_s, zput_n, ti_g, oI_add, oI_sub, oI_mul]
                rw [b35_188 (o7 := none) (wo7 := rfl)]
                try simp only [zput_s, zput_n, ti_g, oI_add, oI_sub, oI_mul]
                exact q0_rt ⟨(((f0).trans (f62)).trans (f91)).trans (f101), trivial⟩
              · refine zok_ck (((q1).1).1) ?_
                refine zok_pI (s57 ((q1).1) (by omega) ((((f0).trans (f62)).trans (f91)).rs)) (fun y103 u103 p103 => ?_)
                simp only [zput_s, zput_n, ti_g, oI_add, oI_sub, oI_mul, b35_149]
                try simp only [zput_s, zput_n, ti_g, oI_add, oI_sub, oI_mul]
                first | refine zok_ne (by omega) (fun c105 => ?_) (fun c105 => ?_) | refine zok_if (fun c105 => ?_) (fun c105 => ?_)
                · try simp only [zput_s, zput_n, ti_g, oI_add, oI_sub, oI_mul]
                  rw [b35_180 (o7 := none) (wo7 := rfl)]
                  try simp only [zput_s, zput_n, ti_g, oI_add, oI_sub, oI_mul]
                  refine zok_ck ((q0).1) ?_
                  refine zok_c0 (s38 F (q0) (by omega) (by omega) (by omega) (by omega) (by omega) ((((f0).trans (f62)).trans (f91)).rs)) (fun t107 p107 => ?_)
                  obtain ⟨f107, p107⟩ := p107
                  try simp only [zput_s, zput_n, ti_g, oI_add, oI_sub, oI_mul]
                  rw [b35_188 (o7 := none) (wo7 := rfl)]
                  try simp only [zput_s, zput_n, ti_g, oI_add, oI_sub, oI_mul]
                  exact q0_rt ⟨(((f0).trans (f62)).trans (f91)).trans (f107), trivial⟩
                · refine zok_ck (((q1).1).1) ?_
                  refine zok_pI (s68 ((q1).1) (by omega) (by omega) (by omega) (by omega) ((((f0).trans (f62)).trans (f91)).rs)) (fun y109 u109 p109 => ?_)
                  simp only [zput_s, zput_n, ti_g, oI_add, oI_sub, oI_mul, b35_169]
                  try simp only [zput_s, zput_n, ti_g, oI_add, oI_sub, oI_mul]
                  refine zok_ck ((q0).1) ?_
                  refine zok_c0 (s36 F (q0) (q1) (by omega) (by omega) (by omega) (by omega) ((((f0).trans (f62)).trans (f91)).rs)) (fun t111 p111 => ?_)
                  obtain ⟨f111, p111⟩ := p111
                  try simp only [zput_s, zput_n, ti_g, oI_add, oI_sub, oI_mul]
                  rw [b35_180 (o7 := some (zI (oI (((y66) + (1)) + (2))))) (wo7 := rfl)]
                  try simp only [zput_s, zput_n, ti_g, oI_add, oI_sub, oI_mul]
                  refine zok_ck ((q0).1) ?_
                  refine zok_c0 (s38 F (q0) (by omega) (by omega) (by omega) (by omega) (by omega) (((((f0).trans (f62)).trans (f91)).trans (f111)).rs)) (fun t113 p113 => ?_)
                  obtain ⟨f113, p113⟩ := p113
                  try simp only [zput_s, zput_n, ti_g, oI_add, oI_sub, oI_mul]
                  rw [b35_188 (o7 := some (zI (oI (((y66) + (1)) + (2))))) (wo7 := rfl)]
                  try simp only [zput_s, zput_n, ti_g, oI_add, oI_sub, oI_mul]
                  exact q0_rt ⟨((((f0).trans (f62)).trans (f91)).trans (f111)).trans (f113), trivial⟩
      · refine zok_ck (((q1).1).1) ?_
        refine zok_ck ((q0).1) ?_
        refine zok_c0 (s38 F (q0) (by omega) (by omega) (by omega) (by omega) (by omega) (f0.rs)) (fun t115 p115 => ?_)
        obtain ⟨f115, p115⟩ := p115
        simp only [zput_s, zput_n, ti_g, oI_add, oI_sub, oI_mul, b35_54]
        try simp only [zput_s, zput_n, ti_g, oI_add, oI_sub, oI_mul]
        refine zok_ck (((q1).1).1) ?_
        refine zok_pI (s68 ((q1).1) (by omega) (by omega) (by omega) (by omega) (((f0).trans (f115)).rs)) (fun y117 u117 p117 => ?_)
        simp only [zput_s, zput_n, ti_g, oI_add, oI_sub, oI_mul, b35_62]
        try simp only [zput_s, zput_n, ti_g, oI_add, oI_sub, oI_mul]
        first | refine zok_le (by omega) (fun c119 => ?_) (fun c119 => ?_) | refine zok_if (fun c119 => ?_) (fun c119 => ?_)
        · simp only [zput_s, zput_n, ti_g, oI_add, oI_sub, oI_mul, b35_77]
          try simp only [zput_s, zput_n, ti_g, oI_add, oI_sub, oI_mul]
          refine zok_ck (((q1).1).1) ?_
          refine zok_pI (s68 ((q1).1) (by omega) (by omega) (by omega) (by omega) (((f0).trans (f115)).rs)) (fun y121 u121 p121 => ?_)
          simp only [zput_s, zput_n, ti_g, oI_add, oI_sub, oI_mul, b35_85]
          try simp only [zput_s, zput_n, ti_g, oI_add, oI_sub, oI_mul]
          refine zok_ck (((q1).1).1) ?_
          refine zok_pI (s68 ((q1).1) (by omega) (by omega) (by omega) (by omega) (((f0).trans (f115)).rs)) (fun y123 u123 p123 => ?_)
          simp only [zput_s, zput_n, ti_g, oI_add, oI_sub, oI_mul, b35_96]
          try simp only [zput_s, zput_n, ti_g, oI_add, oI_sub, oI_mul]
          first | refine zok_le (by omega) (fun c125 => ?_) (fun c125 => ?_) | refine zok_if (fun c125 => ?_) (fun c125 => ?_)
          · first | refine zok_lt (by omega) (fun c126 => ?_) (fun c126 => ?_) | refine zok_if (fun c126 => ?_) (fun c126 => ?_)
            · try simp only [zput_s, zput_n, ti_g, oI_add, oI_sub, oI_mul]
              rw [b35_180 (o7 := none) (wo7 := rfl)]
              try simp only [zput_s, zput_n, ti_g, oI_add, oI_sub, oI_mul]
              refine zok_ck ((q0).1) ?_
              refine zok_c0 (s38 F (q0) (by omega) (by omega) (by omega) (by omega) (by omega) (((f0).trans (f115)).rs)) (fun t128 p128 => ?_)
              obtain ⟨f128, p128⟩ := p128
              try simp only [zput_s, zput_n, ti_g, oI_add, oI_sub, oI_mul]
              rw [b35_188 (o7 := none) (wo7 := rfl)]
              try simp only [zput_s, zput_n, ti_g, oI_add, oI_sub, oI_mul]
              exact q0_rt ⟨((f0).trans (f115)).trans (f128), trivial⟩
            · refine zok_ck (((q1).1).1) ?_
              refine zok_pI (s57 ((q1).1) (by omega) (((f0).trans (f115)).rs)) (fun y130 u130 p130 => ?_)
              simp only [zput_s, zput_n, ti_g, oI_add, oI_sub, oI_mul, b35_136]
              try simp only [zput_s, zput_n, ti_g, oI_add, oI_sub, oI_mul]
              first | refine zok_ne (by omega) (fun c132 => ?_) (fun c132 => ?_) | refine zok_if (fun c132 => ?_) (fun c132 => ?_)
              · try simp only [zput_s, zput_n, ti_g, oI_add, oI_sub, oI_mul]
                rw [b35_180 (o7 := none) (wo7 := rfl)]
                try simp only [zput_s, zput_n, ti_g, oI_add, oI_sub, oI_mul]
                refine zok_ck ((q0).1) ?_
                refine zok_c0 (s38 F (q0) (by omega) (by omega) (by omega) (by omega) (by omega) (((f0).trans (f115)).rs)) (fun t134 p134 => ?_)
                obtain ⟨f134, p134⟩ := p134
                try simp only [zput_s, zput_n, ti_g, oI_add, oI_sub, oI_mul]
                rw [b35_188 (o7 := none) (wo7 := rfl)]
                try simp only [zput_s, zput_n, ti_g, oI_add, oI_sub, oI_mul]
                exact q0_rt ⟨((f0).trans (f115)).trans (f134), trivial⟩
              · refine zok_ck (((q1).1).1) ?_
                refine zok_pI (s57 ((q1).1) (by omega) (((f0).trans (f115)).rs)) (fun y136 u136 p136 => ?_)
                simp only [zput_s, zput_n, ti_g, oI_add, oI_sub, oI_mul, b35_149]
                try simp only [zput_s, zput_n, ti_g, oI_add, oI_sub, oI_mul]
                first | refine zok_ne (by omega) (fun c138 => ?_) (fun c138 => ?_) | refine zok_if (fun c138 => ?_) (fun c138 => ?_)
                · try simp only [zput_s, zput_n, ti_g, oI_add, oI_sub, oI_mul]
                  rw [b35_180 (o7 := none) (wo7 := rfl)]
                  try simp only [zput_s, zput_n, ti_g, oI_add, oI_sub, oI_mul]
                  refine zok_ck ((q0).1) ?_
                  refine zok_c0 (s38 F (q0) (by omega) (by omega) (by omega) (by omega) (by omega) (((f0).trans (f115)).rs)) (fun t140 p140 => ?_)
                  obtain ⟨f140, p140⟩ := p140
                  try simp only [zput_s, zput_n, ti_g, oI_add, oI_sub, oI_mul]
                  rw [b35_188 (o7 := none) (wo7 := rfl)]
                  try simp only [zput_s, zput_n, ti_g, oI_add, oI_sub, oI_mul]
                  exact q0_rt ⟨((f0).trans (f115)).trans (f140), trivial⟩
                · refine zok_ck (((q1).1).1) ?_
                  refine zok_pI (s68 ((q1).1) (by omega) (by omega) (by omega) (by omega) (((f0).trans (f115)).rs)) (fun y142 u142 p142 => ?_)
                  simp only [zput_s, zput_n, ti_g, oI_add, oI_sub, oI_mul, b35_169]
                  try simp only [zput_s, zput_n, ti_g, oI_add, oI_sub, oI_mul]
                  refine zok_ck ((q0).1) ?_
                  refine zok_c0 (s36 F (q0) (q1) (by omega) (by omega) (by omega) (by omega) (((f0).trans (f115)).rs)) (fun t144 p144 => ?_)
                  obtain ⟨f144, p144⟩ := p144
                  try simp only [zput_s, zput_n, ti_g, oI_add, oI_sub, oI_mul]
                  rw [b35_180 (o7 := some (zI (oI ((0) + (2))))) (wo7 := rfl)]
                  try simp only [zput_s, zput_n, ti_g, oI_add, oI_sub, oI_mul]
                  refine zok_ck ((q0).1) ?_
                  refine zok_c0 (s38 F (q0) (by omega) (by omega) (by omega) (by omega) (by omega) ((((f0).trans (f115)).trans (f144)).rs)) (fun t146 p146 => ?_)
                  obtain ⟨f146, p146⟩ := p146
                  try simp only [zput_s, zput_n, ti_g, oI_add, oI_sub, oI_mul]
                  rw [b35_188 (o7 := some (zI (oI ((0) + (2))))) (wo7 := rfl)]
                  try simp only [zput_s, zput_n, ti_g, oI_add, oI_sub, oI_mul]
                  exact q0_rt ⟨(((f0).trans (f115)).trans (f144)).trans (f146), trivial⟩
          · refine zok_ck ((q0).1) ?_
            refine zok_c0 (s38 F (q0) (by omega) (by omega) (by omega) (by omega) (by omega) (((f0).trans (f115)).rs)) (fun t148 p148 => ?_)
            obtain ⟨f148, p148⟩ := p148
            simp only [zput_s, zput_n, ti_g, oI_add, oI_sub, oI_mul, b35_116]
            try simp only [zput_s, zput_n, ti_g, oI_add, oI_sub, oI_mul]
            first | refine zok_lt (by omega) (fun c150 => ?_) (fun c150 => ?_) | refine zok_if (fun c150 => ?_) (fun c150 => ?_)
            · try simp only [zput_s, zput_n, ti_g, oI_add, oI_sub, oI_mul]
              rw [b35_180 (o7 := none) (wo7 := rfl)]
              try simp only [zput_s, zput_n, ti_g, oI_add, oI_sub, oI_mul]
              refine zok_ck ((q0).1) ?_
              refine zok_c0 (s38 F (q0) (by omega) (by omega) (by omega) (by omega) (by omega) ((((f0).trans (f115)).trans (f148)).rs)) (fun t152 p152 => ?_)
              obtain ⟨f152, p152⟩ := p152
              try simp only [zput_s, zput_n, ti_g, oI_add, oI_sub, oI_mul]
              rw [b35_188 (o7 := none) (wo7 := rfl)]
              try simp only [zput_s, zput_n, ti_g, oI_add, oI_sub, oI_mul]
              exact q0_rt ⟨(((f0).trans (f115)).trans (f148)).trans (f152), trivial⟩
            · refine zok_ck (((q1).1).1) ?_
              refine zok_pI (s57 ((q1).1) (by omega) ((((f0).trans (f115)).trans (f148)).rs)) (fun y154 u154 p154 => ?_)
              simp only [zput_s, zput_n, ti_g, oI_add, oI_sub, oI_mul, b35_136]
              try simp only [zput_s, zput_n, ti_g, oI_add, oI_sub, oI_mul]
              first | refine zok_ne (by omega) (fun c156 => ?_) (fun c156 => ?_) | refine zok_if (fun c156 => ?_) (fun c156 => ?_)
              · try simp only [zput_s, zput_n, ti_g, oI_add, oI_sub, oI_mul]
                rw [b35_180 (o7 := none) (wo7 := rfl)]
                try simp only [zput_s, zput_n, ti_g, oI_add, oI_sub, oI_mul]
                refine zok_ck ((q0).1) ?_
                refine zok_c0 (s38 F (q0) (by omega) (by omega) (by omega) (by omega) (by omega) ((((f0).trans (f115)).trans (f148)).rs)) (fun t158 p158 => ?_)
                obtain ⟨f158, p158⟩ := p158
                try simp only [zput_s, zput_n, ti_g, oI_add, oI_sub, oI_mul]
                rw [b35_188 (o7 := none) (wo7 := rfl)]
                try simp only [zput_s, zput_n, ti_g, oI_add, oI_sub, oI_mul]
                exact q0_rt ⟨(((f0).trans (f115)).trans (f148)).trans (f158), trivial⟩
              · refine zok_ck (((q1).1).1) ?_
                refine zok_pI (s57 ((q1).1) (by omega) ((((f0).trans (f115)).trans (f148)).rs)) (fun y160 u160 p160 => ?_)
                simp only [zput_s, zput_n, ti_g, oI_add, oI_sub, oI_mul, b35_149]
                try simp only [zput_s, zput_n, ti_g, oI_add, oI_sub, oI_mul]
                first | refine zok_ne (by omega) (fun c162 => ?_) (fun c162 => ?_) | refine zok_if (fun c162 => ?_) (fun c162 => ?_)
                · try simp only [zput_s, zput_n, ti_g, oI_add, oI_sub, oI_mul]
                  rw [b35_180 (o7 := none) (wo7 := rfl)]
                  try simp only [zput_s, zput_n, ti_g, oI_add, oI_sub, oI_mul]
                  refine zok_ck ((q0).1) ?_
                  refine zok_c0 (s38 F (q0) (by omega) (by omega) (by omega) (by omega) (by omega) ((((f0).trans (f115)).trans (f148)).rs)) (fun t164 p164 => ?_)
                  obtain ⟨f164, p164⟩ := p164
                  try simp only [zput_s, zput_n, ti_g, oI_add, oI_sub, oI_mul]
                  rw [b35_188 (o7 := none) (wo7 := rfl)]
                  try simp only [zput_s, zput_n, ti_g, oI_add, oI_sub, oI_mul]
                  exact q0_rt ⟨(((f0).trans (f115)).trans (f148)).trans (f164), trivial⟩
                · refine zok_ck (((q1).1).1) ?_
                  refine zok_pI (s68 ((q1).1) (by omega) (by omega) (by omega) (by omega) ((((f0).trans (f115)).trans (f148)).rs)) (fun y166 u166 p166 => ?_)
                  simp only [zput_s, zput_n, ti_g, oI_add, oI_sub, oI_mul, b35_169]
                  try simp only [zput_s, zput_n, ti_g, oI_add, oI_sub, oI_mul]
                  refine zok_ck ((q0).1) ?_
                  refine zok_c0 (s36 F (q0) (q1) (by omega) (by omega) (by omega) (by omega) ((((f0).trans (f115)).trans (f148)).rs)) (fun t168 p168 => ?_)
                  obtain ⟨f168, p168⟩ := p168
                  try simp only [zput_s, zput_n, ti_g, oI_add, oI_sub, oI_mul]
                  rw [b35_180 (o7 := some (zI (oI (((y123) + (1)) + (2))))) (wo7 := rfl)]
                  try simp only [zput_s, zput_n, ti_g, oI_add, oI_sub, oI_mul]
                  refine zok_ck ((q0).1) ?_
                  refine zok_c0 (s38 F (q0) (by omega) (by omega) (by omega) (by omega) (by omega) (((((f0).trans (f115)).trans (f148)).trans (f168)).rs)) (fun t170 p170 => ?_)
                  obtain ⟨f170, p170⟩ := p170
                  try simp only [zput_s, zput_n, ti_g, oI_add, oI_sub, oI_mul]
                  rw [b35_188 (o7 := some (zI (oI (((y123) + (1)) + (2))))) (wo7 := rfl)]
                  try simp only [zput_s, zput_n, ti_g, oI_add, oI_sub, oI_mul]
                  exact q0_rt ⟨((((f0).trans (f115)).trans (f148)).trans (f168)).trans (f170), trivial⟩
        · refine zok_ck ((q0).1) ?_
          refine zok_c0 (s38 F (q0) (by omega) (by omega) (by omega) (by omega) (by omega) (((f0).trans (f115)).rs)) (fun t172 p172 => ?_)
          obtain ⟨f172, p172⟩ := p172
          simp only [zput_s, zput_n, ti_g, oI_add, oI_sub, oI_mul, b35_77]
          try simp only [zput_s, zput_n, ti_g, oI_add, oI_sub, oI_mul]
          refine zok_ck (((q1).1).1) ?_
          refine zok_pI (s68 ((q1).1) (by omega) (by omega) (by omega) (by omega) ((((f0).trans (f115)).trans (f172)).rs)) (fun y174 u174 p174 => ?_)
          simp only [zput_s, zput_n, ti_g, oI_add, oI_sub, oI_mul, b35_85]
          try simp only [zput_s, zput_n, ti_g, oI_add, oI_sub, oI_mul]
          refine zok_ck (((q1).1).1) ?_
          refine zok_pI (s68 ((q1).1) (by omega) (by omega) (by omega) (by omega) ((((f0).trans (f115)).trans (f172)).rs)) (fun y176 u176 p176 => ?_)
          simp only [zput_s, zput_n, ti_g, oI_add, oI_sub, oI_mul, b35_96]
          try simp only [zput_s, zput_n, ti_g, oI_add, oI_sub, oI_mul]
          first | refine zok_le (by omega) (fun c178 => ?_) (fun c178 => ?_) | refine zok_if (fun c178 => ?_) (fun c178 => ?_)
          · first | refine zok_lt (by omega) (fun c179 => ?_) (fun c179 => ?_) | refine zok_if (fun c179 => ?_) (fun c179 => ?_)
            · try simp only [zput_s, zput_n, ti_g, oI_add, oI_sub, oI_mul]
              rw [b35_180 (o7 := none) (wo7 := rfl)]
              try simp only [zput_s, zput_n, ti_g, oI_add, oI_sub, oI_mul]
              refine zok_ck ((q0).1) ?_
              refine zok_c0 (s38 F (q0) (by omega) (by omega) (by omega) (by omega) (by omega) ((((f0).trans (f115)).trans (f172)).rs)) (fun t181 p181 => ?_)
              obtain ⟨f181, p181⟩ := p181
              try simp only [zput_s, zput_n, ti_g, oI_add, oI_sub, oI_mul]
              rw [b35_188 (o7 := none) (wo7 := rfl)]
              try simp only [zput_s, zput_n, ti_g, oI_add, oI_sub, oI_mul]
              exact q0_rt ⟨(((f0).trans (f115)).trans (f172)).trans (f181), trivial⟩
            · refine zok_ck (((q1).1).1) ?_
              refine zok_pI (s57 ((q1).1) (by omega) ((((f0).trans (f115)).trans (f172)).rs)) (fun y183 u183 p183 => ?_)
              simp only [zput_s, zput_n, ti_g, oI_add, oI_sub, oI_mul, b35_136]
              try simp only [zput_s, zput_n, ti_g, oI_add, oI_sub, oI_mul]
              first | refine zok_ne (by omega) (fun c185 => ?_) (fun c185 => ?_) | refine zok_if (fun c185 => ?_) (fun c185 => ?_)
              · try simp only [zput_s, zput_n, ti_g, oI_add, oI_sub, oI_mul]
                rw [b35_180 (o7 := none) (wo7 := rfl)]
                try simp only [zput_s, zput_n, ti_g, oI_add, oI_sub, oI_mul]
                refine zok_ck ((q0).1) ?_
                refine zok_c0 (s38 F (q0) (by omega) (by omega) (by omega) (by omega) (by omega) ((((f0).trans (f115)).trans (f172)).rs)) (fun t187 p187 => ?_)
                obtain ⟨f187, p187⟩ := p187
                try simp only [zput_s, zput_n, ti_g, oI_add, oI_sub, oI_mul]
                rw [b35_188 (o7 := none) (wo7 := rfl)]
                try simp only [zput_s, zput_n, ti_g, oI_add, oI_sub, oI_mul]
                exact q0_rt ⟨(((f0).trans (f115)).trans (f172)).trans (f187), trivial⟩
              · refine zok_ck (((q1).1).1) ?_
                refine zok_pI (s57 ((q1).1) (by omega) ((((f0).trans (f115)).trans (f172)).rs)) (fun y189 u189 p189 => ?_)
                simp only [zput_s, zput_n, ti_g, oI_add, oI_sub, oI_mul, b35_149]
                try simp only [zput_s, zput_n, ti_g, oI_add, oI_sub, oI_mul]
                first | refine zok_ne (by omega) (fun c191 => ?_) (fun c191 => ?_) | refine zok_if (fun c191 => ?_) (fun c191 => ?_)
                · try simp only [zput_s, zput_n, ti_g, oI_add, oI_sub, oI_mul]
                  rw [b35_180 (o7 := none) (wo7 := rfl)]
                  try simp only [zput_s, zput_n, ti_g, oI_add, oI_sub, oI_mul]
                  refine zok_ck ((q0).1) ?_
                  refine zok_c0 (s38 F (q0) (by omega) (by omega) (by omega) (by omega) (by omega) ((((f0).trans (f115)).trans (f172)).rs)) (fun t193 p193 => ?_)
                  obtain ⟨f193, p193⟩ := p193
                  try simp only [zput_s, zput_n, ti_g, oI_add, oI_sub, oI_mul]
                  rw [b35_188 (o7 := none) (wo7 := rfl)]
                  try simp only [zput_s, zput_n, ti_g, oI_add, oI_sub, oI_mul]
                  exact q0_rt ⟨(((f0).trans (f115)).trans (f172)).trans (f193), trivial⟩
                · refine zok_ck (((q1).1).1) ?_
                  refine zok_pI (s68 ((q1).1) (by omega) (by omega) (by omega) (by omega) ((((f0).trans (f115)).trans (f172)).rs)) (fun y195 u195 p195 => ?_)
                  simp only [zput_s, zput_n, ti_g, oI_add, oI_sub, oI_mul, b35_169]
                  try simp only [zput_s, zput_n, ti_g, oI_add, oI_sub, oI_mul]
                  refine zok_ck ((q0).1) ?_
                  refine zok_c0 (s36 F (q0) (q1) (by omega) (by omega) (by omega) (by omega) ((((f0).trans (f115)).trans (f172)).rs)) (fun t197 p197 => ?_)
                  obtain ⟨f197, p197⟩ := p197
                  try simp only [zput_s, zput_n, ti_g, oI_add, oI_sub, oI_mul]
                  rw [b35_180 (o7 := some (zI (oI ((0) + (2))))) (wo7 := rfl)]
                  try simp only [zput_s, zput_n, ti_g, oI_add, oI_sub, oI_mul]
                  refine zok_ck ((q0).1) ?_
                  refine zok_c0 (s38 F (q0) (by omega) (by omega) (by omega) (by omega) (by omega) (((((f0).trans (f115)).trans (f172)).trans (f197)).rs)) (fun t199 p199 => ?_)
                  obtain ⟨f199, p199⟩ := p199
                  try simp only [zput_s, zput_n, ti_g, oI_add, oI_sub, oI_mul]
                  rw [b35_188 (o7 := some (zI (oI ((0) + (2))))) (wo7 := rfl)]
                  try simp only [zput_s, zput_n, ti_g, oI_add, oI_sub, oI_mul]
                  exact q0_rt ⟨((((f0).trans (f115)).trans (f172)).trans (f197)).trans (f199), trivial⟩
          · refine zok_ck ((q0).1) ?_
            refine zok_c0 (s38 F (q0) (by omega) (by omega) (by omega) (by omega) (by omega) ((((f0).trans (f115)).trans (f172)).rs)) (fun t201 p201 => ?_)
            obtain ⟨f201, p201⟩ := p201
            simp only [zput_s, zput_n, ti_g, oI_add, oI_sub, oI_mul, b35_116]
            try simp only [zput_s, zput_n, ti_g, oI_add, oI_sub, oI_mul]
            first | refine zok_lt (by omega) (fun c203 => ?_) (fun c203 => ?_) | refine zok_if (fun c203 => ?_) (fun c203 => ?_)
            · try simp only [zput_s, zput_n, ti_g, oI_add, oI_sub, oI_mul]
              rw [b35_180 (o7 := none) (wo7 := rfl)]
              try simp only [zput_s, zput_n, ti_g, oI_add, oI_sub, oI_mul]
              refine zok_ck ((q0).1) ?_
              refine zok_c0 (s38 F (q0) (by omega) (by omega) (by omega) (by omega) (by omega) (((((f0).trans (f115)).trans (f172)).trans (f201)).rs)) (fun t205 p205 => ?_)
              obtain ⟨f205, p205⟩ := p205
              try simp only [zput_s, zput_n, ti_g, oI_add, oI_sub, oI_mul]
              rw [b35_188 (o7 := none) (wo7 := rfl)]
              try simp only [zput_s, zput_n, ti_g, oI_add, oI_sub, oI_mul]
              exact q0_rt ⟨((((f0).trans (f115)).trans (f172)).trans (f201)).trans (f205), trivial⟩
            · refine zok_ck (((q1).1).1) ?_
              refine zok_pI (s57 ((q1).1) (by omega) (((((f0).trans (f115)).trans (f172)).trans (f201)).rs)) (fun y207 u207 p207 => ?_)
              simp only [zput_s, zput_n, ti_g, oI_add, oI_sub, oI_mul, b35_136]
              try simp only [zput_s, zput_n, ti_g, oI_add, oI_sub, oI_mul]
              first | refine zok_ne (by omega) (fun c209 => ?_) (fun c209 => ?_) | refine zok_if (fun c209 => ?_) (fun c209 => ?_)
              · try simp only [zput_s, zput_n, ti_g, oI_add, oI_sub, oI_mul]
                rw [b35_180 (o7 := none) (wo7 := rfl)]
                try simp only [zput_s, zput_n, ti_g, oI_add, oI_sub, oI_mul]
                refine zok_ck ((q0).1) ?_
                refine zok_c0 (s38 F (q0) (by omega) (by omega) (by omega) (by omega) (by omega) (((((f0).trans (f115)).trans (f172)).trans (f201)).rs)) (fun t211 p211 => ?_)
                obtain ⟨f211, p211⟩ := p211
                try simp only [zput_s, zput_n, ti_g, oI_add, oI_sub, oI_mul]
                rw [b35_188 (o7 := none) (wo7 := rfl)]
                try simp only [zput_s, zput_n, ti_g, oI_add, oI_sub, oI_mul]
                exact q0_rt ⟨((((f0).trans (f115)).trans (f172)).trans (f201)).trans (f211), trivial⟩
              · refine zok_ck (((q1).1).1) ?_
                refine zok_pI (s57 ((q1).1) (by omega) (((((f0).trans (f115)).trans (f172)).trans (f201)).rs)) (fun y213 u213 p213 => ?_)
                simp only [zput_s, zput_n, ti_g, oI_add, oI_sub, oI_mul, b35_149]
                try simp only [zput_s, zput_n, ti_g, oI_add, oI_sub, oI_mul]
                first | refine zok_ne (by omega) (fun c215 => ?_) (fun c215 => ?_) | refine zok_if (fun c215 => ?_) (fun c215 => ?_)
                · try simp only [zput_s, zput_n, ti_g, oI_add, oI_sub, oI_mul]
                  rw [b35_180 (o7 := none) (wo7 := rfl)]
                  try simp only [zput_s, zput_n, ti_g, oI_add, oI_sub, oI_mul]
                  refine zok_ck ((q0).1) ?_
                  refine zok_c0 (s38 F (q0) (by omega) (by omega) (by omega) (by omega) (by omega) (((((f0).trans (f115)).trans (f172)).trans (f201)).rs)) (fun t217 p217 => ?_)
                  obtain ⟨f217, p217⟩ := p217
                  try simp only [zput_s, zput_n, ti_g, oI_add, oI_sub, oI_mul]
                  rw [b35_188 (o7 := none) (wo7 := rfl)]
                  try simp only [zput_s, zput_n, ti_g, oI_add, oI_sub, oI_mul]
                  exact q0_rt ⟨((((f0).trans (f115)).trans (f172)).trans (f201)).trans (f217), trivial⟩
                · refine zok_ck (((q1).1).1) ?_
                  refine zok_pI (s68 ((q1).1) (by omega) (by omega) (by omega) (by omega) (((((f0).trans (f115)).trans (f172)).trans (f201)).rs)) (fun y219 u219 p219 => ?_)
                  simp only [zput_s, zput_n, ti_g, oI_add, oI_sub, oI_mul, b35_169]
                  try simp only [zput_s, zput_n, ti_g, oI_add, oI_sub, oI_mul]
                  refine zok_ck ((q0).1) ?_
                  refine zok_c0 (s36 F (q0) (q1) (by omega) (by omega) (by omega) (by omega) (((((f0).trans (f115)).trans (f172)).trans (f201)).rs)) (fun t221 p221 => ?_)
                  obtain ⟨f221, p221⟩ := p221
                  try simp only [zput_s, zput_n, ti_g, oI_add, oI_sub, oI_mul]
                  rw [b35_180 (o7 := some (zI (oI (((y176) + (1)) + (2))))) (wo7 := rfl)]
                  try simp only [zput_s, zput_n, ti_g, oI_add, oI_sub, oI_mul]
                  refine zok_ck ((q0).1) ?_
                  refine zok_c0 (s38 F (q0) (by omega) (by omega) (by omega) (by omega) (by omega) ((((((f0).trans (f115)).trans (f172)).trans (f201)).trans (f221)).rs)) (fun t223 p223 => ?_)
                  obtain ⟨f223, p223⟩ := p223
                  try simp only [zput_s, zput_n, ti_g, oI_add, oI_sub, oI_mul]
                  rw [b35_188 (o7 := some (zI (oI (((y176) + (1)) + (2))))) (wo7 := rfl)]
                  try simp only [zput_s, zput_n, ti_g, oI_add, oI_sub, oI_mul]
                  exact q0_rt ⟨(((((f0).trans (f115)).trans (f172)).trans (f201)).trans (f221)).trans (f223), trivial⟩
    · refine zok_ck ((q0).1) ?_
      refine zok_c0 (s38 F (q0) (by omega) (by omega) (by omega) (by omega) (by omega) (f0.rs)) (fun t225 p225 => ?_)
      obtain ⟨f225, p225⟩ := p225
      simp only [zput_s, zput_n, ti_g, oI_add, oI_sub, oI_mul, b35_15]
      try simp only [zput_s, zput_n, ti_g, oI_add, oI_sub, oI_mul]
      try simp only [zput_s, zput_n, ti_g, oI_add, oI_sub, oI_mul]
      exact ih _ _ ((f0).trans (f225)) (by omega) (by omega)
theorem s35 {sh : zSh} {T MB : Nat} (F : zCl sh T MB) {r0 : Nat} (q0 : zRd sh T MB r0) {r1 : Nat} (q1 : zRw sh T MB r1) {t : zSt} (hR : RS sh t) : zok (zcl zP 35 [zR r0, zR r1] (sh, t)) (zq0 (fun t' => FrC sh T MB t t' ∧ (True)) sh) := by
  have ha0 : (sk sh (sr sh r0 0)).2 = 7 := by rw [q0.2.2.1]
  have hb0 : (sk sh (sr sh r0 1)).2 = 7 := by rw [q0.2.2.2.2.1]
  have hz1 := RS_sz (hR) q1.1
  rw [b35_0]
  try simp only [zput_s, zput_n, ti_g, oI_add, oI_sub, oI_mul]
  try simp only [zput_s, zput_n, ti_g, oI_add, oI_sub, oI_mul]
  exact l35_2 F q0 q1 hR _ _ _ (FrC.refl hR) (by omega) (Nat.lt_succ_self _)
/-! X3_fill -/
theorem l41_2 {sh : zSh} {T MB : Nat} (F : zCl sh T MB) {r0 : Nat} (q0 : zRd sh T MB r0) {r1 : Nat} (q1 : zPt sh T MB r1) {r2 : Nat} (q2 : zRw sh T MB r2) {t0 : zSt} (hR : RS sh t0) : ∀ (n : Nat) (x3 : Int) (o4 : Option zV) (o5 : Option zV) (wo4 : zisL o4 = false) (wo5 : zisL o5 = false) (t1 : zSt), FrC sh T MB t0 t1 → (-2147483648 ≤ x3 ∧ x3 ≤ 2147483647) ∧ (0 ≤ x3) → (7 - x3).toNat < n → zok (zev zP 41 2 [some (zR r0), some (zR r1), some (zR r2), some (zI (oI x3)), o4, o5] [] (sh, t1)) (zq0 (fun t' => FrC sh T MB t0 t' ∧ (True)) sh) := by
  intro n
  induction n with
  | zero => intro x3 o4 o5 wo4 wo5 t1 f0 _ hm; omega
  | succ n ih =>
    intro x3 o4 o5 wo4 wo5 t1 f0 hv hm
    have ha0 : (sk sh (sr sh r0 0)).2 = 7 := by rw [q0.2.2.1]
    have hb0 : (sk sh (sr sh r0 1)).2 = 7 := by rw [q0.2.2.2.2.1]
    have hz2 := RS_sz (f0.rs) q2.1
    try simp only [zput_s, zput_n, ti_g, oI_add, oI_sub, oI_mul]
    rw [b41_2 (o4 := o4) (wo4 := wo4) (o5 := o5) (wo5 := wo5)]
    try simp only [zput_s, zput_n, ti_g, oI_add, oI_sub, oI_mul]
    first | refine zok_le (by omega) (fun c2 => ?_) (fun c2 => ?_) | refine zok_if (fun c2 => ?_) (fun c2 => ?_)
    · exact q0_rt ⟨f0, trivial⟩
    · refine zok_ck ((q1).1) ?_
      refine zok_pR (s22 F (q1) (by omega) (f0.rs)) (fun y3 p3 => ?_)
      try simp only [zput_s, zput_n, ti_g, oI_add, oI_sub, oI_mul]
      rw [b41_13 (o4 := o4) (wo4 := wo4) (o5 := o5) (wo5 := wo5)]
      try simp only [zput_s, zput_n, ti_g, oI_add, oI_sub, oI_mul]
      refine zok_ck ((q0).1) ?_
      refine zok_pI (s39 F (q0) (by omega) (f0.rs)) (fun y5 u5 p5 => ?_)
      try simp only [zput_s, zput_n, ti_g, oI_add, oI_sub, oI_mul]
      rw [b41_20 (o5 := o5) (wo5 := wo5)]
      try simp only [zput_s, zput_n, ti_g, oI_add, oI_sub, oI_mul]
      refine zok_ck (((p3).1).1) ?_
      refine zok_c0 (s62 ((p3).1) (f0.rs)) (fun t7 p7 => ?_)
      obtain ⟨f7, p7⟩ := p7
      simp only [zput_s, zput_n, ti_g, oI_add, oI_sub, oI_mul, b41_27]
      try simp only [zput_s, zput_n, ti_g, oI_add, oI_sub, oI_mul]
      first | refine zok_eq (by omega) (fun c9 => ?_) (fun c9 => ?_) | refine zok_if (fun c9 => ?_) (fun c9 => ?_)
      · refine zok_ck (by first | exact ⟨((p3).1).1, fun _ => Or.inl rfl⟩ | exact ⟨((p3).1).1, Or.inl rfl⟩ | exact ((p3).1).1) ?_
        refine zok_ck ((q0).1) ?_
        refine zok_pI (s40 F (q0) (by omega) ((((f0).trans ((f7).toC F (p3))).trans ((FrR_I (((f0).trans ((f7).toC F (p3))).rs) ((p3).1) (by omega) (by omega) ⟨(fun e => by first | omega | cases e), (fun e => by first | omega | cases e)⟩).toC F (p3))).rs)) (fun y11 u11 p11 => ?_)
        simp only [zput_s, zput_n, ti_g, oI_add, oI_sub, oI_mul, b41_53]
        try simp only [zput_s, zput_n, ti_g, oI_add, oI_sub, oI_mul]
        refine zok_ck (((p3).1).1) ?_
        refine zok_c0 (s61 ((p3).1) ((q2).1) (by omega) (by omega) ((((f0).trans ((f7).toC F (p3))).trans ((FrR_I (((f0).trans ((f7).toC F (p3))).rs) ((p3).1) (by omega) (by omega) ⟨(fun e => by first | omega | cases e), (fun e => by first | omega | cases e)⟩).toC F (p3))).rs)) (fun t13 p13 => ?_)
        obtain ⟨f13, p13⟩ := p13
        simp only [zput_s, zput_n, ti_g, oI_add, oI_sub, oI_mul, b41_56]
        try simp only [zput_s, zput_n, ti_g, oI_add, oI_sub, oI_mul]
        try simp only [zput_s, zput_n, ti_g, oI_add, oI_sub, oI_mul]
        exact ih _ _ _ rfl rfl _ ((((f0).trans ((f7).toC F (p3))).trans ((FrR_I (((f0).trans ((f7).toC F (p3))).rs) ((p3).1) (by omega) (by omega) ⟨(fun e => by first | omega | cases e), (fun e => by first | omega | cases e)⟩).toC F (p3))).trans ((f13).toC F (p3))) (by omega) (by omega)
      · refine zok_ck (by first | exact ⟨((p3).1).1, fun _ => Or.inr rfl⟩ | exact ⟨((p3).1).1, Or.inr rfl⟩ | exact ((p3).1).1) ?_
        refine zok_ck ((q0).1) ?_
        refine zok_pI (s40 F (q0) (by omega) ((((f0).trans ((f7).toC F (p3))).trans ((FrR_I (((f0).trans ((f7).toC F (p3))).rs) ((p3).1) (by omega) (by omega) ⟨(fun e => by first | omega | cases e), (fun e => by first | omega | cases e)⟩).toC F (p3))).rs)) (fun y16 u16 p16 => ?_)
        simp only [zput_s, zput_n, ti_g, oI_add, oI_sub, oI_mul, b41_53]
        try simp only [zput_s, zput_n, ti_g, oI_add, oI_sub, oI_mul]
        refine zok_ck (((p3).1).1) ?_
        refine zok_c0 (s61 ((p3).1) ((q2).1) (by omega) (by omega) ((((f0).trans ((f7).toC F (p3))).trans ((FrR_I (((f0).trans ((f7).toC F (p3))).rs) ((p3).1) (by omega) (by omega) ⟨(fun e => by first | omega | cases e), (fun e => by first | omega | cases e)⟩).toC F (p3))).rs)) (fun t18 p18 => ?_)
        obtain ⟨f18, p18⟩ := p18
        simp only [zput_s, zput_n, ti_g, oI_add, oI_sub, oI_mul, b41_56]
        try simp only [zput_s, zput_n, ti_g, oI_add, oI_sub, oI_mul]
        try simp only [zput_s, zput_n, ti_g, oI_add, oI_sub, oI_mul]
        exact ih _ _ _ rfl rfl _ ((((f0).trans ((f7).toC F (p3))).trans ((FrR_I (((f0).trans ((f7).toC F (p3))).rs) ((p3).1) (by omega) (by omega) ⟨(fun e => by first | omega | cases e), (fun e => by first | omega | cases e)⟩).toC F (p3))).trans ((f18).toC F (p3))) (by omega) (by omega)
theorem s41 {sh : zSh} {T MB : Nat} (F : zCl sh T MB) {r0 : Nat} (q0 : zRd sh T MB r0) {r1 : Nat} (q1 : zPt sh T MB r1) {r2 : Nat} (q2 : zRw sh T MB r2) {t : zSt} (hR : RS sh t) : zok (zcl zP 41 [zR r0, zR r1, zR r2] (sh, t)) (zq0 (fun t' => FrC sh T MB t t' ∧ (True)) sh) := by
  have ha0 : (sk sh (sr sh r0 0)).2 = 7 := by rw [q0.2.2.1]
  have hb0 : (sk sh (sr sh r0 1)).2 = 7 := by rw [q0.2.2.2.2.1]
  have hz2 := RS_sz (hR) q2.1
  rw [b41_0]
  try simp only [zput_s, zput_n, ti_g, oI_add, oI_sub, oI_mul]
  try simp only [zput_s, zput_n, ti_g, oI_add, oI_sub, oI_mul]
  exact l41_2 F q0 q1 q2 hR _ _ _ _ rfl rfl _ (FrC.refl hR) (by omega) (Nat.lt_succ_self _)
/-! X3_tell -/
theorem s43 {sh : zSh} {T MB : Nat} (F : zCl sh T MB) {r0 : Nat} (q0 : zRd sh T MB r0) {x1 : Int} (u1 : -2147483648 ≤ x1 ∧ x1 ≤ 2147483647) {x2 : Int} (u2 : -2147483648 ≤ x2 ∧ x2 ≤ 2147483647) {t : zSt} (hR : RS sh t) : zok (zcl zP 43 [zR r0, zI (oI x1), zI (oI x2)] (sh, t)) (qI (fun x t' => FrC sh T MB t t' ∧ (x = 1)) sh) := by
  have ha0 : (sk sh (sr sh r0 0)).2 = 7 := by rw [q0.2.2.1]
  have hb0 : (sk sh (sr sh r0 1)).2 = 7 := by rw [q0.2.2.2.2.1]
  rw [b43_0]
  try simp only [zput_s, zput_n, ti_g, oI_add, oI_sub, oI_mul]
  refine zok_ck (by first | exact ⟨(q0).1, fun e => by cases e⟩ | exact (q0).1) ?_
  refine zok_ck (by first | exact ⟨(q0).1, fun e => by cases e⟩ | exact (q0).1) ?_
  first | exact qI_rt (by omega) (by omega) ⟨(FrC_I F (hR) ((q0).2.1) (by rw [(q0).1]; decide) (by rw [(q0).1]; intro h; cases h)).trans (FrC_I F ((FrC_I F (hR) ((q0).2.1) (by rw [(q0).1]; decide) (by rw [(q0).1]; intro h; cases h)).rs) ((q0).2.1) (by rw [(q0).1]; decide) (by rw [(q0).1]; intro h; cases h)), by omega⟩ | exact qI_nf ⟨(FrC_I F (hR) ((q0).2.1) (by rw [(q0).1]; decide) (by rw [(q0).1]; intro h; cases h)).trans (FrC_I F ((FrC_I F (hR) ((q0).2.1) (by rw [(q0).1]; decide) (by rw [(q0).1]; intro h; cases h)).rs) ((q0).2.1) (by rw [(q0).1]; decide) (by rw [(q0).1]; intro h; cases h)), by omega⟩
/-! X3_isSchemeWrong -/
theorem l44_8 {sh : zSh} {T MB : Nat} (F : zCl sh T MB) {r0 : Nat} (q0 : zRd sh T MB r0) {r1 : Nat} (q1 : zRw sh T MB r1) {t0 : zSt} (hR : RS sh t0) : ∀ (n : Nat) (x2 : Int) (x3 : Int) (o4 : Option zV) (o5 : Option zV) (wo4 : zisL o4 = false) (wo5 : zisL o5 = false) (t1 : zSt), FrC sh T MB t0 t1 → (-2147483648 ≤ x2 ∧ x2 ≤ 2147483647) ∧ (-2147483648 ≤ x3 ∧ x3 ≤ 2147483647) ∧ (0 ≤ x3) → (x2 - x3).toNat < n → zok (zev zP 44 8 [some (zR r0), some (zR r1), some (zI (oI x2)), some (zI (oI x3)), o4, o5] [] (sh, t1)) (qI (fun x t' => FrC sh T MB t0 t' ∧ (x = 0 ∨ x = 1)) sh) := by
  intro n
  induction n with
  | zero => intro x2 x3 o4 o5 wo4 wo5 t1 f0 _ hm; omega
  | succ n ih =>
    intro x2 x3 o4 o5 wo4 wo5 t1 f0 hv hm
    have ha0 : (sk sh (sr sh r0 0)).2 = 7 := by rw [q0.2.2.1]
    have hb0 : (sk sh (sr sh r0 1)).2 = 7 := by rw [q0.2.2.2.2.1]
    have hz1 := RS_sz (f0.rs) q1.1
    try simp only [zput_s, zput_n, ti_g, oI_add, oI_sub, oI_mul]
    rw [b44_8 (o4 := o4) (wo4 := wo4) (o5 := o5) (wo5 := wo5)]
    try simp only [zput_s, zput_n, ti_g, oI_add, oI_sub, oI_mul]
    first | refine zok_le (by omega) (fun c2 => ?_) (fun c2 => ?_) | refine zok_if (fun c2 => ?_) (fun c2 => ?_)
    · first | refine zok_ne (by omega) (fun c3 => ?_) (fun c3 => ?_) | refine zok_if (fun c3 => ?_) (fun c3 => ?_)
      · first | exact qI_rt (by omega) (by omega) ⟨f0, by omega⟩ | exact qI_nf ⟨f0, by omega⟩
      · refine zok_ck ((q0).1) ?_
        refine zok_cI (s43 F (q0) (by omega) (by omega) (f0.rs)) (fun y4 t4 u4 p4 => ?_)
        obtain ⟨f4, p4⟩ := p4
        try simp only [zput_s, zput_n, ti_g, oI_add, oI_sub, oI_mul]
        rw [b44_96 (o4 := o4) (wo4 := wo4) (o5 := o5) (wo5 := wo5)]
        try simp only [zput_s, zput_n, ti_g, oI_add, oI_sub, oI_mul]
        first | refine zok_eq (by omega) (fun c6 => ?_) (fun c6 => ?_) | refine zok_if (fun c6 => ?_) (fun c6 => ?_)
        · first | exact qI_rt (by omega) (by omega) ⟨(f0).trans (f4), by omega⟩ | exact qI_nf ⟨(f0).trans (f4), by omega⟩
        · first | exact qI_rt (by omega) (by omega) ⟨(f0).trans (f4), by omega⟩ | exact qI_nf ⟨(f0).trans (f4), by omega⟩
    · refine zok_ck (((q1).1).1) ?_
      refine zok_pI (s57 ((q1).1) (by omega) (f0.rs)) (fun y7 u7 p7 => ?_)
      try simp only [zput_s, zput_n, ti_g, oI_add, oI_sub, oI_mul]
      rw [b44_18 (o4 := o4) (wo4 := wo4) (o5 := o5) (wo5 := wo5)]
      try simp only [zput_s, zput_n, ti_g, oI_add, oI_sub, oI_mul]
      refine zok_pI (s85 (by omega)) (fun y9 u9 p9 => ?_)
      try simp only [zput_s, zput_n, ti_g, oI_add, oI_sub, oI_mul]
      rw [b44_25 (o5 := o5) (wo5 := wo5)]
      try simp only [zput_s, zput_n, ti_g, oI_add, oI_sub, oI_mul]
      first | refine zok_ne (by omega) (fun c11 => ?_) (fun c11 => ?_) | refine zok_if (fun c11 => ?_) (fun c11 => ?_)
      · refine zok_pI (s84 (by omega)) (fun y12 u12 p12 => ?_)
        simp only [zput_s, zput_n, ti_g, oI_add, oI_sub, oI_mul, b44_61]
        try simp only [zput_s, zput_n, ti_g, oI_add, oI_sub, oI_mul]
        first | refine zok_ne (by omega) (fun c14 => ?_) (fun c14 => ?_) | refine zok_if (fun c14 => ?_) (fun c14 => ?_)
        · try simp only [zput_s, zput_n, ti_g, oI_add, oI_sub, oI_mul]
          exact ih _ _ _ _ rfl rfl _ (f0) (by omega) (by omega)
        · first | refine zok_eq (by omega) (fun c15 => ?_) (fun c15 => ?_) | refine zok_if (fun c15 => ?_) (fun c15 => ?_)
          · refine zok_ck ((q0).1) ?_
            refine zok_cI (s43 F (q0) (by omega) (by omega) (f0.rs)) (fun y16 t16 u16 p16 => ?_)
            obtain ⟨f16, p16⟩ := p16
            simp only [zput_s, zput_n, ti_g, oI_add, oI_sub, oI_mul, b44_79]
            try simp only [zput_s, zput_n, ti_g, oI_add, oI_sub, oI_mul]
            refine zok_ck (by first | exact fun _ => bool_p (by omega) | exact bool_p (by omega)) ?_
            first | exact qI_rt (by omega) (by omega) ⟨(f0).trans (f16), by omega⟩ | exact qI_nf ⟨(f0).trans (f16), by omega⟩
          · first | refine zok_ne (by omega) (fun c18 => ?_) (fun c18 => ?_) | refine zok_if (fun c18 => ?_) (fun c18 => ?_)
            · try simp only [zput_s, zput_n, ti_g, oI_add, oI_sub, oI_mul]
              exact ih _ _ _ _ rfl rfl _ (f0) (by omega) (by omega)
            · refine zok_ck ((q0).1) ?_
              refine zok_cI (s43 F (q0) (by omega) (by omega) (f0.rs)) (fun y19 t19 u19 p19 => ?_)
              obtain ⟨f19, p19⟩ := p19
              simp only [zput_s, zput_n, ti_g, oI_add, oI_sub, oI_mul, b44_79]
              try simp only [zput_s, zput_n, ti_g, oI_add, oI_sub, oI_mul]
              refine zok_ck (by first | exact fun _ => bool_p (by omega) | exact bool_p (by omega)) ?_
              first | exact qI_rt (by omega) (by omega) ⟨(f0).trans (f19), by omega⟩ | exact qI_nf ⟨(f0).trans (f19), by omega⟩
      · first | refine zok_eq (by omega) (fun c21 => ?_) (fun c21 => ?_) | refine zok_if (fun c21 => ?_) (fun c21 => ?_)
        · refine zok_pI (s84 (by omega)) (fun y22 u22 p22 => ?_)
          simp only [zput_s, zput_n, ti_g, oI_add, oI_sub, oI_mul, b44_61]
          try simp only [zput_s, zput_n, ti_g, oI_add, oI_sub, oI_mul]
          first | refine zok_ne (by omega) (fun c24 => ?_) (fun c24 => ?_) | refine zok_if (fun c24 => ?_) (fun c24 => ?_)
          · try simp only [zput_s, zput_n, ti_g, oI_add, oI_sub, oI_mul]
            exact ih _ _ _ _ rfl rfl _ (f0) (by omega) (by omega)
          · first | refine zok_eq (by omega) (fun c25 => ?_) (fun c25 => ?_) | refine zok_if (fun c25 => ?_) (fun c25 => ?_)
            · refine zok_ck ((q0).1) ?_
              refine zok_cI (s43 F (q0) (by omega) (by omega) (f0.rs)) (fun y26 t26 u26 p26 => ?_)
              obtain ⟨f26, p26⟩ := p26
              simp only [zput_s, zput_n, ti_g, oI_add, oI_sub, oI_mul, b44_79]
              try simp only [zput_s, zput_n, ti_g, oI_add, oI_sub, oI_mul]
              refine zok_ck (by first | exact fun _ => bool_p (by omega) | exact bool_p (by omega)) ?_
              first | exact qI_rt (by omega) (by omega) ⟨(f0).trans (f26), by omega⟩ | exact qI_nf ⟨(f0).trans (f26), by omega⟩
            · first | refine zok_ne (by omega) (fun c28 => ?_) (fun c28 => ?_) | refine zok_if (fun c28 => ?_) (fun c28 => ?_)
              · try simp only [zput_s, zput_n, ti_g, oI_add, oI_sub, oI_mul]
                exact ih _ _ _ _ rfl rfl _ (f0) (by omega) (by omega)
              · refine zok_ck ((q0).1) ?_
                refine zok_cI (s43 F (q0) (by omega) (by omega) (f0.rs)) (fun y29 t29 u29 p29 => ?_)
                obtain ⟨f29, p29⟩ := p29
                simp only [zput_s, zput_n, ti_g, oI_add, oI_sub, oI_mul, b44_79]
                try simp only [zput_s, zput_n, ti_g, oI_add, oI_sub, oI_mul]
                refine zok_ck (by first | exact fun _ => bool_p (by omega) | exact bool_p (by omega)) ?_
                first | exact qI_rt (by omega) (by omega) ⟨(f0).trans (f29), by omega⟩ | exact qI_nf ⟨(f0).trans (f29), by omega⟩
        · first | refine zok_eq (by omega) (fun c31 => ?_) (fun c31 => ?_) | refine zok_if (fun c31 => ?_) (fun c31 => ?_)
          · refine zok_pI (s84 (by omega)) (fun y32 u32 p32 => ?_)
            simp only [zput_s, zput_n, ti_g, oI_add, oI_sub, oI_mul, b44_61]
            try simp only [zput_s, zput_n, ti_g, oI_add, oI_sub, oI_mul]
            first | refine zok_ne (by omega) (fun c34 => ?_) (fun c34 => ?_) | refine zok_if (fun c34 => ?_) (fun c34 => ?_)
            · try simp only [zput_s, zput_n, ti_g, oI_add, oI_sub, oI_mul]
              exact ih _ _ _ _ rfl rfl _ (f0) (by omega) (by omega)
            · first | refine zok_eq (by omega) (fun c35 => ?_) (fun c35 => ?_) | refine zok_if (fun c35 => ?_) (fun c35 => ?_)
              · refine zok_ck ((q0).1) ?_
                refine zok_cI (s43 F (q0) (by omega) (by omega) (f0.rs)) (fun y36 t36 u36 p36 => ?_)
                obtain ⟨f36, p36⟩ := p36
                simp only [zput_s, zput_n, ti_g, oI_add, oI_sub, oI_mul, b44_79]
                try simp only [zput_s, zput_n, ti_g, oI_add, oI_sub, oI_mul]
                refine zok_ck (by first | exact fun _ => bool_p (by omega) | exact bool_p (by omega)) ?_
                first | exact qI_rt (by omega) (by omega) ⟨(f0).trans (f36), by omega⟩ | exact qI_nf ⟨(f0).trans (f36), by omega⟩
              · first | refine zok_ne (by omega) (fun c38 => ?_) (fun c38 => ?_) | refine zok_if (fun c38 => ?_) (fun c38 => ?_)
                · try simp only [zput_s, zput_n, ti_g, oI_add, oI_sub, oI_mul]
                  exact ih _ _ _ _ rfl rfl _ (f0) (by omega) (by omega)
                · refine zok_ck ((q0).1) ?_
                  refine zok_cI (s43 F (q0) (by omega) (by omega) (f0.rs)) (fun y39 t39 u39 p39 => ?_)
                  obtain ⟨f39, p39⟩ := p39
                  simp only [zput_s, zput_n, ti_g, oI_add, oI_sub, oI_mul, b44_79]
                  try simp only [zput_s, zput_n, ti_g, oI_add, oI_sub, oI_mul]
                  refine zok_ck (by first | exact fun _ => bool_p (by omega) | exact bool_p (by omega)) ?_
                  first | exact qI_rt (by omega) (by omega) ⟨(f0).trans (f39), by omega⟩ | exact qI_nf ⟨(f0).trans (f39), by omega⟩
          · first | refine zok_ne (by omega) (fun c41 => ?_) (fun c41 => ?_) | refine zok_if (fun c41 => ?_) (fun c41 => ?_)
            · refine zok_pI (s84 (by omega)) (fun y42 u42 p42 => ?_)
              simp only [zput_s, zput_n, ti_g, oI_add, oI_sub, oI_mul, b44_61]
              try simp only [zput_s, zput_n, ti_g, oI_add, oI_sub, oI_mul]
              first | refine zok_ne (by omega) (fun c44 => ?_) (fun c44 => ?_) | refine zok_if (fun c44 => ?_) (fun c44 => ?_)
              · try simp only [zput_s, zput_n, ti_g, oI_add, oI_sub, oI_mul]
                exact ih _ _ _ _ rfl rfl _ (f0) (by omega) (by omega)
              · first | refine zok_eq (by omega) (fun c45 => ?_) (fun c45 => ?_) | refine zok_if (fun c45 => ?_) (fun c45 => ?_)
                · refine zok_ck ((q0).1) ?_
                  refine zok_cI (s43 F (q0) (by omega) (by omega) (f0.rs)) (fun y46 t46 u46 p46 => ?_)
                  obtain ⟨f46, p46⟩ := p46
                  simp only [zput_s, zput_n, ti_g, oI_add, oI_sub, oI_mul, b44_79]
                  try simp only [zput_s, zput_n, ti_g, oI_add, oI_sub, oI_mul]
                  refine zok_ck (by first | exact fun _ => bool_p (by omega) | exact bool_p (by omega)) ?_
                  first | exact qI_rt (by omega) (by omega) ⟨(f0).trans (f46), by omega⟩ | exact qI_nf ⟨(f0).trans (f46), by omega⟩
                · refine zok_ck ((q0).1) ?_
                  refine zok_cI (s43 F (q0) (by omega) (by omega) (f0.rs)) (fun y48 t48 u48 p48 => ?_)
                  obtain ⟨f48, p48⟩ := p48
                  simp only [zput_s, zput_n, ti_g, oI_add, oI_sub, oI_mul, b44_79]
                  try simp only [zput_s, zput_n, ti_g, oI_add, oI_sub, oI_mul]
                  refine zok_ck (by first | exact fun _ => bool_p (by omega) | exact bool_p (by omega)) ?_
                  first | exact qI_rt (by omega) (by omega) ⟨(f0).trans (f48), by omega⟩ | exact qI_nf ⟨(f0).trans (f48), by omega⟩
            · refine zok_pI (s84 (by omega)) (fun y50 u50 p50 => ?_)
              simp only [zput_s, zput_n, ti_g, oI_add, oI_sub, oI_mul, b44_61]
              try simp only [zput_s, zput_n, ti_g, oI_add, oI_sub, oI_mul]
              first | refine zok_ne (by omega) (fun c52 => ?_) (fun c52 => ?_) | refine zok_if (fun c52 => ?_) (fun c52 => ?_)
              · try simp only [zput_s, zput_n, ti_g, oI_add, oI_sub, oI_mul]
                exact ih _ _ _ _ rfl rfl _ (f0) (by omega) (by omega)
              · first | refine zok_eq (by omega) (fun c53 => ?_) (fun c53 => ?_) | refine zok_if (fun c53 => ?_) (fun c53 => ?_)
                · refine zok_ck ((q0).1) ?_
                  refine zok_cI (s43 F (q0) (by omega) (by omega) (f0.rs)) (fun y54 t54 u54 p54 => ?_)
                  obtain ⟨f54, p54⟩ := p54
                  simp only [zput_s, zput_n, ti_g, oI_add, oI_sub, oI_mul, b44_79]
                  try simp only [zput_s, zput_n, ti_g, oI_add, oI_sub, oI_mul]
                  refine zok_ck (by first | exact fun _ => bool_p (by omega) | exact bool_p (by omega)) ?_
                  first | exact qI_rt (by omega) (by omega) ⟨(f0).trans (f54), by omega⟩ | exact qI_nf ⟨(f0).trans (f54), by omega⟩
                · first | refine zok_ne (by omega) (fun c56 => ?_) (fun c56 => ?_) | refine zok_if (fun c56 => ?_) (fun c56 => ?_)
                  · try simp only [zput_s, zput_n, ti_g, oI_add, oI_sub, oI_mul]
                    exact ih _ _ _ _ rfl rfl _ (f0) (by omega) (by omega)
                  · refine zok_ck ((q0).1) ?_
                    refine zok_cI (s43 F (q0) (by omega) (by omega) (f0.rs)) (fun y57 t57 u57 p57 => ?_)
                    obtain ⟨f57, p57⟩ := p57
                    simp only [zput_s, zput_n, ti_g, oI_add, oI_sub, oI_mul, b44_79]
                    try simp only [zput_s, zput_n, ti_g, oI_add, oI_sub, oI_mul]
                    refine zok_ck (by first | exact fun _ => bool_p (by omega) | exact bool_p (by omega)) ?_
                    first | exact qI_rt (by omega) (by omega) ⟨(f0).trans (f57), by omega⟩ | exact qI_nf ⟨(f0).trans (f57), by omega⟩
theorem s44 {sh : zSh} {T MB : Nat} (F : zCl sh T MB) {r0 : Nat} (q0 : zRd sh T MB r0) {r1 : Nat} (q1 : zRw sh T MB r1) {t : zSt} (hR : RS sh t) : zok (zcl zP 44 [zR r0, zR r1] (sh, t)) (qI (fun x t' => FrC sh T MB t t' ∧ (x = 0 ∨ x = 1)) sh) := by
  have ha0 : (sk sh (sr sh r0 0)).2 = 7 := by rw [q0.2.2.1]
  have hb0 : (sk sh (sr sh r0 1)).2 = 7 := by rw [q0.2.2.2.2.1]
  have hz1 := RS_sz (hR) q1.1
  rw [b44_0]
  try simp only [zput_s, zput_n, ti_g, oI_add, oI_sub, oI_mul]
  refine zok_ck ((q0).1) ?_
  refine zok_pI (s40 F (q0) (by omega) (hR)) (fun y60 u60 p60 => ?_)
  simp only [zput_s, zput_n, ti_g, oI_add, oI_sub, oI_mul, b44_5]
  try simp only [zput_s, zput_n, ti_g, oI_add, oI_sub, oI_mul]
  try simp only [zput_s, zput_n, ti_g, oI_add, oI_sub, oI_mul]
  exact l44_8 F q0 q1 hR _ _ _ _ _ rfl rfl _ (FrC.refl hR) (by omega) (Nat.lt_succ_self _)
/-! X3_isCodeWrong -/
theorem l45_2 {sh : zSh} {T MB : Nat} (F : zCl sh T MB) {r0 : Nat} (q0 : zRd sh T MB r0) {r1 : Nat} (q1 : zRw sh T MB r1) {t0 : zSt} (hR : RS sh t0) : ∀ (n : Nat) (x2 : Int)  (t1 : zSt), FrC sh T MB t0 t1 → (-2147483648 ≤ x2 ∧ x2 ≤ 2147483647) ∧ (0 ≤ x2) → (tg t1 r1 1 - x2).toNat < n → zok (zev zP 45 2 [some (zR r0), some (zR r1), some (zI (oI x2))] [] (sh, t1)) (qI (fun x t' => FrC sh T MB t0 t' ∧ (x = 0 ∨ x = 1)) sh) := by
  intro n
  induction n with
  | zero => intro x2  t1 f0 _ hm; omega
  | succ n ih =>
    intro x2  t1 f0 hv hm
    have ha0 : (sk sh (sr sh r0 0)).2 = 7 := by rw [q0.2.2.1]
    have hb0 : (sk sh (sr sh r0 1)).2 = 7 := by rw [q0.2.2.2.2.1]
    have hz1 := RS_sz (f0.rs) q1.1
    have g1_1 := RS_sz (f0.rs) ((q1).1)
    simp only [zput_s, zput_n, ti_g, oI_add, oI_sub, oI_mul, b45_2]
    try simp only [zput_s, zput_n, ti_g, oI_add, oI_sub, oI_mul]
    refine zok_ck (((q1).1).1) ?_
    first | refine zok_le (by omega) (fun c2 => ?_) (fun c2 => ?_) | refine zok_if (fun c2 => ?_) (fun c2 => ?_)
    · first | exact qI_rt (by omega) (by omega) ⟨f0, by omega⟩ | exact qI_nf ⟨f0, by omega⟩
    · refine zok_ck (((q1).1).1) ?_
      refine zok_pI (s57 ((q1).1) (by omega) (f0.rs)) (fun y3 u3 p3 => ?_)
      simp only [zput_s, zput_n, ti_g, oI_add, oI_sub, oI_mul, b45_15]
      try simp only [zput_s, zput_n, ti_g, oI_add, oI_sub, oI_mul]
      first | refine zok_ne (by omega) (fun c5 => ?_) (fun c5 => ?_) | refine zok_if (fun c5 => ?_) (fun c5 => ?_)
      · try simp only [zput_s, zput_n, ti_g, oI_add, oI_sub, oI_mul]
        exact ih _ _ (f0) (by omega) (by omega)
      · refine zok_ck (((q1).1).1) ?_
        refine zok_pI (s72 ((q1).1) (by omega) (f0.rs)) (fun y6 u6 p6 => ?_)
        simp only [zput_s, zput_n, ti_g, oI_add, oI_sub, oI_mul, b45_25]
        try simp only [zput_s, zput_n, ti_g, oI_add, oI_sub, oI_mul]
        first | refine zok_ne (by omega) (fun c8 => ?_) (fun c8 => ?_) | refine zok_if (fun c8 => ?_) (fun c8 => ?_)
        · try simp only [zput_s, zput_n, ti_g, oI_add, oI_sub, oI_mul]
          exact ih _ _ (f0) (by omega) (by omega)
        · refine zok_ck ((q0).1) ?_
          refine zok_cI (s43 F (q0) (by omega) (by omega) (f0.rs)) (fun y9 t9 u9 p9 => ?_)
          obtain ⟨f9, p9⟩ := p9
          simp only [zput_s, zput_n, ti_g, oI_add, oI_sub, oI_mul, b45_35]
          try simp only [zput_s, zput_n, ti_g, oI_add, oI_sub, oI_mul]
          refine zok_ck (by first | exact fun _ => bool_p (by omega) | exact bool_p (by omega)) ?_
          first | exact qI_rt (by omega) (by omega) ⟨(f0).trans (f9), by omega⟩ | exact qI_nf ⟨(f0).trans (f9), by omega⟩
theorem s45 {sh : zSh} {T MB : Nat} (F : zCl sh T MB) {r0 : Nat} (q0 : zRd sh T MB r0) {r1 : Nat} (q1 : zRw sh T MB r1) {t : zSt} (hR : RS sh t) : zok (zcl zP 45 [zR r0, zR r1] (sh, t)) (qI (fun x t' => FrC sh T MB t t' ∧ (x = 0 ∨ x = 1)) sh) := by
  have ha0 : (sk sh (sr sh r0 0)).2 = 7 := by rw [q0.2.2.1]
  have hb0 : (sk sh (sr sh r0 1)).2 = 7 := by rw [q0.2.2.2.2.1]
  have hz1 := RS_sz (hR) q1.1
  rw [b45_0]
  try simp only [zput_s, zput_n, ti_g, oI_add, oI_sub, oI_mul]
  try simp only [zput_s, zput_n, ti_g, oI_add, oI_sub, oI_mul]
  exact l45_2 F q0 q1 hR _ _ _ (FrC.refl hR) (by omega) (Nat.lt_succ_self _)
/-! X3_isByteWrong -/
theorem l46_J {sh : zSh} {T MB : Nat} (F : zCl sh T MB) {r0 : Nat} (q0 : zRd sh T MB r0) {r1 : Nat} (q1 : zRw sh T MB r1) {t0 : zSt} (hR : RS sh t0) : ∀ (n : Nat), (∀ (x2 : Int) (o3 : Option zV) (o4 : Option zV) (wo3 : zisL o3 = false) (wo4 : zisL o4 = false) (t1 : zSt), FrC sh T MB t0 t1 → (-2147483648 ≤ x2 ∧ x2 ≤ 2147483647) ∧ (0 ≤ x2 ∧ x2 ≤ 7) → ((7 - x2) * 1099511627776 + 68719476736).toNat < n → zok (zev zP 46 2 [some (zR r0), some (zR r1), some (zI (oI x2)), o3, o4] [] (sh, t1)) (qI (fun x t' => FrC sh T MB t0 t' ∧ (x = 0 ∨ x = 1)) sh)) ∧ (∀ (x2 : Int) (x3 : Int) (x4 : Int)  (t1 : zSt), FrC sh T MB t0 t1 → (-2147483648 ≤ x2 ∧ x2 ≤ 2147483647) ∧ (-2147483648 ≤ x3 ∧ x3 ≤ 2147483647) ∧ (-2147483648 ≤ x4 ∧ x4 ≤ 2147483647) ∧ (0 ≤ x2 ∧ x2 < 7) → ((7 - x2) * 1099511627776 + (x3 - x4) + 17179869184).toNat < n → zok (zev zP 46 39 [some (zR r0), some (zR r1), some (zI (oI x2)), some (zI (oI x3)), some (zI (oI x4))] [] (sh, t1)) (qI (fun x t' => FrC sh T MB t0 t' ∧ (x = 0 ∨ x = 1)) sh)) := by
  intro n
  induction n with
  | zero => exact ⟨(by intro x2 o3 o4 wo3 wo4 t1 f0 _ hm; omega), (by intro x2 x3 x4  t1 f0 _ hm; omega)⟩
  | succ n ih =>
    refine ⟨?_, ?_⟩
    · intro x2 o3 o4 wo3 wo4 t1 f0 hv hm
      have ha0 : (sk sh (sr sh r0 0)).2 = 7 := by rw [q0.2.2.1]
      have hb0 : (sk sh (sr sh r0 1)).2 = 7 := by rw [q0.2.2.2.2.1]
      have hz1 := RS_sz (f0.rs) q1.1
      try simp only [zput_s, zput_n, ti_g, oI_add, oI_sub, oI_mul]
      rw [b46_2 (o3 := o3) (wo3 := wo3) (o4 := o4) (wo4 := wo4)]
      try simp only [zput_s, zput_n, ti_g, oI_add, oI_sub, oI_mul]
      first | refine zok_le (by omega) (fun c2 => ?_) (fun c2 => ?_) | refine zok_if (fun c2 => ?_) (fun c2 => ?_)
      · first | exact qI_rt (by omega) (by omega) ⟨f0, by omega⟩ | exact qI_nf ⟨f0, by omega⟩
      · refine zok_ck ((q0).1) ?_
        refine zok_pI (s40 F (q0) (by omega) (f0.rs)) (fun y3 u3 p3 => ?_)
        try simp only [zput_s, zput_n, ti_g, oI_add, oI_sub, oI_mul]
        rw [b46_13 (o3 := o3) (wo3 := wo3) (o4 := o4) (wo4 := wo4)]
        try simp only [zput_s, zput_n, ti_g, oI_add, oI_sub, oI_mul]
        first | refine zok_ne (by omega) (fun c5 => ?_) (fun c5 => ?_) | refine zok_if (fun c5 => ?_) (fun c5 => ?_)
        · refine zok_ck ((q0).1) ?_
          refine zok_pI (s39 F (q0) (by omega) (f0.rs)) (fun y6 u6 p6 => ?_)
          try simp only [zput_s, zput_n, ti_g, oI_add, oI_sub, oI_mul]
          rw [b46_37 (o4 := o4) (wo4 := wo4)]
          try simp only [zput_s, zput_n, ti_g, oI_add, oI_sub, oI_mul]
          try simp only [zput_s, zput_n, ti_g, oI_add, oI_sub, oI_mul]
          exact ih.2 _ _ _ _ (f0) (by omega) (by omega)
        · refine zok_ck ((q0).1) ?_
          refine zok_pI (s39 F (q0) (by omega) (f0.rs)) (fun y8 u8 p8 => ?_)
          try simp only [zput_s, zput_n, ti_g, oI_add, oI_sub, oI_mul]
          rw [b46_27 (o4 := o4) (wo4 := wo4)]
          try simp only [zput_s, zput_n, ti_g, oI_add, oI_sub, oI_mul]
          refine zok_ck (((q1).1).1) ?_
          refine zok_pI (s68 ((q1).1) (by omega) (by omega) (by omega) (by omega) (f0.rs)) (fun y10 u10 p10 => ?_)
          try simp only [zput_s, zput_n, ti_g, oI_add, oI_sub, oI_mul]
          rw [b46_31 (o4 := o4) (wo4 := wo4)]
          try simp only [zput_s, zput_n, ti_g, oI_add, oI_sub, oI_mul]
          refine zok_ck ((q0).1) ?_
          refine zok_pI (s39 F (q0) (by omega) (f0.rs)) (fun y12 u12 p12 => ?_)
          try simp only [zput_s, zput_n, ti_g, oI_add, oI_sub, oI_mul]
          rw [b46_37 (o4 := o4) (wo4 := wo4)]
          try simp only [zput_s, zput_n, ti_g, oI_add, oI_sub, oI_mul]
          try simp only [zput_s, zput_n, ti_g, oI_add, oI_sub, oI_mul]
          exact ih.2 _ _ _ _ (f0) (by omega) (by omega)
    · intro x2 x3 x4  t1 f0 hv hm
      have ha0 : (sk sh (sr sh r0 0)).2 = 7 := by rw [q0.2.2.1]
      have hb0 : (sk sh (sr sh r0 1)).2 = 7 := by rw [q0.2.2.2.2.1]
      have hz1 := RS_sz (f0.rs) q1.1
      simp only [zput_s, zput_n, ti_g, oI_add, oI_sub, oI_mul, b46_39]
      try simp only [zput_s, zput_n, ti_g, oI_add, oI_sub, oI_mul]
      first | refine zok_le (by omega) (fun c2 => ?_) (fun c2 => ?_) | refine zok_if (fun c2 => ?_) (fun c2 => ?_)
      · try simp only [zput_s, zput_n, ti_g, oI_add, oI_sub, oI_mul]
        exact ih.1 _ _ _ rfl rfl _ (f0) (by omega) (by omega)
      · refine zok_ck (((q1).1).1) ?_
        refine zok_pI (s57 ((q1).1) (by omega) (f0.rs)) (fun y3 u3 p3 => ?_)
        simp only [zput_s, zput_n, ti_g, oI_add, oI_sub, oI_mul, b46_51]
        try simp only [zput_s, zput_n, ti_g, oI_add, oI_sub, oI_mul]
        refine zok_pI (s92 (by omega) (by omega)) (fun y5 u5 p5 => ?_)
        simp only [zput_s, zput_n, ti_g, oI_add, oI_sub, oI_mul, b46_55]
        try simp only [zput_s, zput_n, ti_g, oI_add, oI_sub, oI_mul]
        first | refine zok_ne (by omega) (fun c7 => ?_) (fun c7 => ?_) | refine zok_if (fun c7 => ?_) (fun c7 => ?_)
        · try simp only [zput_s, zput_n, ti_g, oI_add, oI_sub, oI_mul]
          exact ih.2 _ _ _ _ (f0) (by omega) (by omega)
        · refine zok_ck ((q0).1) ?_
          refine zok_cI (s43 F (q0) (by omega) (by omega) (f0.rs)) (fun y8 t8 u8 p8 => ?_)
          obtain ⟨f8, p8⟩ := p8
          simp only [zput_s, zput_n, ti_g, oI_add, oI_sub, oI_mul, b46_65]
          try simp only [zput_s, zput_n, ti_g, oI_add, oI_sub, oI_mul]
          refine zok_ck (by first | exact fun _ => bool_p (by omega) | exact bool_p (by omega)) ?_
          first | exact qI_rt (by omega) (by omega) ⟨(f0).trans (f8), by omega⟩ | exact qI_nf ⟨(f0).trans (f8), by omega⟩
theorem l46_2 {sh : zSh} {T MB : Nat} (F : zCl sh T MB) {r0 : Nat} (q0 : zRd sh T MB r0) {r1 : Nat} (q1 : zRw sh T MB r1) {t0 : zSt} (hR : RS sh t0) : ∀ (n : Nat) (x2 : Int) (o3 : Option zV) (o4 : Option zV) (wo3 : zisL o3 = false) (wo4 : zisL o4 = false) (t1 : zSt), FrC sh T MB t0 t1 → (-2147483648 ≤ x2 ∧ x2 ≤ 2147483647) ∧ (0 ≤ x2 ∧ x2 ≤ 7) → ((7 - x2) * 1099511627776 + 68719476736).toNat < n → zok (zev zP 46 2 [some (zR r0), some (zR r1), some (zI (oI x2)), o3, o4] [] (sh, t1)) (qI (fun x t' => FrC sh T MB t0 t' ∧ (x = 0 ∨ x = 1)) sh) := fun n => (l46_J F q0 q1  hR n).1
theorem l46_39 {sh : zSh} {T MB : Nat} (F : zCl sh T MB) {r0 : Nat} (q0 : zRd sh T MB r0) {r1 : Nat} (q1 : zRw sh T MB r1) {t0 : zSt} (hR : RS sh t0) : ∀ (n : Nat) (x2 : Int) (x3 : Int) (x4 : Int)  (t1 : zSt), FrC sh T MB t0 t1 → (-2147483648 ≤ x2 ∧ x2 ≤ 2147483647) ∧ (-2147483648 ≤ x3 ∧ x3 ≤ 2147483647) ∧ (-2147483648 ≤ x4 ∧ x4 ≤ 2147483647) ∧ (0 ≤ x2 ∧ x2 < 7) → ((7 - x2) * 1099511627776 + (x3 - x4) + 17179869184).toNat < n → zok (zev zP 46 39 [some (zR r0), some (zR r1), some (zI (oI x2)), some (zI (oI x3)), some (zI (oI x4))] [] (sh, t1)) (qI (fun x t' => FrC sh T MB t0 t' ∧ (x = 0 ∨ x = 1)) sh) := fun n => (l46_J F q0 q1  hR n).2
theorem s46 {sh : zSh} {T MB : Nat} (F : zCl sh T MB) {r0 : Nat} (q0 : zRd sh T MB r0) {r1 : Nat} (q1 : zRw sh T MB r1) {t : zSt} (hR : RS sh t) : zok (zcl zP 46 [zR r0, zR r1] (sh, t)) (qI (fun x t' => FrC sh T MB t t' ∧ (x = 0 ∨ x = 1)) sh) := by
  have ha0 : (sk sh (sr sh r0 0)).2 = 7 := by rw [q0.2.2.1]
  have hb0 : (sk sh (sr sh r0 1)).2 = 7 := by rw [q0.2.2.2.2.1]
  have hz1 := RS_sz (hR) q1.1
  rw [b46_0]
  try simp only [zput_s, zput_n, ti_g, oI_add, oI_sub, oI_mul]
  try simp only [zput_s, zput_n, ti_g, oI_add, oI_sub, oI_mul]
  exact l46_2 F q0 q1 hR _ _ _ _ rfl rfl _ (FrC.refl hR) (by omega) (Nat.lt_succ_self _)
/-! X3_isBracketWrong -/
theorem s47 {sh : zSh} {T MB : Nat} (F : zCl sh T MB) {r0 : Nat} (q0 : zRd sh T MB r0) {r1 : Nat} (q1 : zRw sh T MB r1) {r2 : Nat} (q2 : zAd sh T MB r2) {t : zSt} (hR : RS sh t) : zok (zcl zP 47 [zR r0, zR r1, zR r2] (sh, t)) (qI (fun x t' => FrC sh T MB t t' ∧ (x = 0 ∨ x = 1)) sh) := by
  have ha0 : (sk sh (sr sh r0 0)).2 = 7 := by rw [q0.2.2.1]
  have hb0 : (sk sh (sr sh r0 1)).2 = 7 := by rw [q0.2.2.2.2.1]
  have hz1 := RS_sz (hR) q1.1
  have ha2 : (sk sh (sr sh r2 0)).2 = 8 := by rw [q2.2.2.1]
  rw [b47_0]
  try simp only [zput_s, zput_n, ti_g, oI_add, oI_sub, oI_mul]
  refine zok_ck ((q0).1) ?_
  refine zok_pI (s39 F (q0) (by omega) (hR)) (fun y2 u2 p2 => ?_)
  simp only [zput_s, zput_n, ti_g, oI_add, oI_sub, oI_mul, b47_5]
  try simp only [zput_s, zput_n, ti_g, oI_add, oI_sub, oI_mul]
  refine zok_ck ((q0).1) ?_
  refine zok_pI (s40 F (q0) (by omega) (hR)) (fun y4 u4 p4 => ?_)
  simp only [zput_s, zput_n, ti_g, oI_add, oI_sub, oI_mul, b47_11]
  try simp only [zput_s, zput_n, ti_g, oI_add, oI_sub, oI_mul]
  refine zok_ck (((q1).1).1) ?_
  refine zok_pI (s68 ((q1).1) (by omega) (by omega) (by omega) (by omega) (hR)) (fun y6 u6 p6 => ?_)
  simp only [zput_s, zput_n, ti_g, oI_add, oI_sub, oI_mul, b47_22]
  try simp only [zput_s, zput_n, ti_g, oI_add, oI_sub, oI_mul]
  first | refine zok_ne (by omega) (fun c8 => ?_) (fun c8 => ?_) | refine zok_if (fun c8 => ?_) (fun c8 => ?_)
  · refine zok_ck (((q1).1).1) ?_
    refine zok_pI (s68 ((q1).1) (by omega) (by omega) (by omega) (by omega) (hR)) (fun y9 u9 p9 => ?_)
    simp only [zput_s, zput_n, ti_g, oI_add, oI_sub, oI_mul, b47_43]
    try simp only [zput_s, zput_n, ti_g, oI_add, oI_sub, oI_mul]
    first | refine zok_ne (by omega) (fun c11 => ?_) (fun c11 => ?_) | refine zok_if (fun c11 => ?_) (fun c11 => ?_)
    · refine zok_ck ((q2).1) ?_
      refine zok_cI (s8 F (q2) (q1) (by omega) (by omega) (by omega) (by omega) (hR)) (fun y12 t12 u12 p12 => ?_)
      obtain ⟨f12, p12⟩ := p12
      simp only [zput_s, zput_n, ti_g, oI_add, oI_sub, oI_mul, b47_78]
      try simp only [zput_s, zput_n, ti_g, oI_add, oI_sub, oI_mul]
      first | refine zok_ne (by omega) (fun c14 => ?_) (fun c14 => ?_) | refine zok_if (fun c14 => ?_) (fun c14 => ?_)
      · refine zok_ck ((q0).1) ?_
        refine zok_cI (s43 F (q0) (by omega) (by omega) ((f12).rs)) (fun y15 t15 u15 p15 => ?_)
        obtain ⟨f15, p15⟩ := p15
        simp only [zput_s, zput_n, ti_g, oI_add, oI_sub, oI_mul, b47_118]
        try simp only [zput_s, zput_n, ti_g, oI_add, oI_sub, oI_mul]
        first | refine zok_eq (by omega) (fun c17 => ?_) (fun c17 => ?_) | refine zok_if (fun c17 => ?_) (fun c17 => ?_)
        · first | exact qI_rt (by omega) (by omega) ⟨(f12).trans (f15), by omega⟩ | exact qI_nf ⟨(f12).trans (f15), by omega⟩
        · first | exact qI_rt (by omega) (by omega) ⟨(f12).trans (f15), by omega⟩ | exact qI_nf ⟨(f12).trans (f15), by omega⟩
      · refine zok_pI (s5 F (q1) (by omega) (by omega) (by omega) (by omega) ((f12).rs)) (fun y18 u18 p18 => ?_)
        simp only [zput_s, zput_n, ti_g, oI_add, oI_sub, oI_mul, b47_91]
        try simp only [zput_s, zput_n, ti_g, oI_add, oI_sub, oI_mul]
        first | refine zok_eq (by omega) (fun c20 => ?_) (fun c20 => ?_) | refine zok_if (fun c20 => ?_) (fun c20 => ?_)
        · refine zok_ck ((q0).1) ?_
          refine zok_cI (s43 F (q0) (by omega) (by omega) ((f12).rs)) (fun y21 t21 u21 p21 => ?_)
          obtain ⟨f21, p21⟩ := p21
          simp only [zput_s, zput_n, ti_g, oI_add, oI_sub, oI_mul, b47_118]
          try simp only [zput_s, zput_n, ti_g, oI_add, oI_sub, oI_mul]
          first | refine zok_eq (by omega) (fun c23 => ?_) (fun c23 => ?_) | refine zok_if (fun c23 => ?_) (fun c23 => ?_)
          · first | exact qI_rt (by omega) (by omega) ⟨(f12).trans (f21), by omega⟩ | exact qI_nf ⟨(f12).trans (f21), by omega⟩
          · first | exact qI_rt (by omega) (by omega) ⟨(f12).trans (f21), by omega⟩ | exact qI_nf ⟨(f12).trans (f21), by omega⟩
        · refine zok_ck ((q0).1) ?_
          refine zok_cI (s43 F (q0) (by omega) (by omega) ((f12).rs)) (fun y24 t24 u24 p24 => ?_)
          obtain ⟨f24, p24⟩ := p24
          simp only [zput_s, zput_n, ti_g, oI_add, oI_sub, oI_mul, b47_118]
          try simp only [zput_s, zput_n, ti_g, oI_add, oI_sub, oI_mul]
          first | refine zok_eq (by omega) (fun c26 => ?_) (fun c26 => ?_) | refine zok_if (fun c26 => ?_) (fun c26 => ?_)
          · first | exact qI_rt (by omega) (by omega) ⟨(f12).trans (f24), by omega⟩ | exact qI_nf ⟨(f12).trans (f24), by omega⟩
          · first | exact qI_rt (by omega) (by omega) ⟨(f12).trans (f24), by omega⟩ | exact qI_nf ⟨(f12).trans (f24), by omega⟩
    · first | refine zok_ne (by omega) (fun c27 => ?_) (fun c27 => ?_) | refine zok_if (fun c27 => ?_) (fun c27 => ?_)
      · refine zok_ck ((q2).1) ?_
        refine zok_cI (s8 F (q2) (q1) (by omega) (by omega) (by omega) (by omega) (hR)) (fun y28 t28 u28 p28 => ?_)
        obtain ⟨f28, p28⟩ := p28
        simp only [zput_s, zput_n, ti_g, oI_add, oI_sub, oI_mul, b47_78]
        try simp only [zput_s, zput_n, ti_g, oI_add, oI_sub, oI_mul]
        first | refine zok_ne (by omega) (fun c30 => ?_) (fun c30 => ?_) | refine zok_if (fun c30 => ?_) (fun c30 => ?_)
        · refine zok_ck ((q0).1) ?_
          refine zok_cI (s43 F (q0) (by omega) (by omega) ((f28).rs)) (fun y31 t31 u31 p31 => ?_)
          obtain ⟨f31, p31⟩ := p31
          simp only [zput_s, zput_n, ti_g, oI_add, oI_sub, oI_mul, b47_118]
          try simp only [zput_s, zput_n, ti_g, oI_add, oI_sub, oI_mul]
          first | refine zok_eq (by omega) (fun c33 => ?_) (fun c33 => ?_) | refine zok_if (fun c33 => ?_) (fun c33 => ?_)
          · first | exact qI_rt (by omega) (by omega) ⟨(f28).trans (f31), by omega⟩ | exact qI_nf ⟨(f28).trans (f31), by omega⟩
          · first | exact qI_rt (by omega) (by omega) ⟨(f28).trans (f31), by omega⟩ | exact qI_nf ⟨(f28).trans (f31), by omega⟩
        · refine zok_pI (s5 F (q1) (by omega) (by omega) (by omega) (by omega) ((f28).rs)) (fun y34 u34 p34 => ?_)
          simp only [zput_s, zput_n, ti_g, oI_add, oI_sub, oI_mul, b47_91]
          try simp only [zput_s, zput_n, ti_g, oI_add, oI_sub, oI_mul]
          first | refine zok_eq (by omega) (fun c36 => ?_) (fun c36 => ?_) | refine zok_if (fun c36 => ?_) (fun c36 => ?_)
          · refine zok_ck ((q0).1) ?_
            refine zok_cI (s43 F (q0) (by omega) (by omega) ((f28).rs)) (fun y37 t37 u37 p37 => ?_)
            obtain ⟨f37, p37⟩ := p37
            simp only [zput_s, zput_n, ti_g, oI_add, oI_sub, oI_mul, b47_118]
            try simp only [zput_s, zput_n, ti_g, oI_add, oI_sub, oI_mul]
            first | refine zok_eq (by omega) (fun c39 => ?_) (fun c39 => ?_) | refine zok_if (fun c39 => ?_) (fun c39 => ?_)
            · first | exact qI_rt (by omega) (by omega) ⟨(f28).trans (f37), by omega⟩ | exact qI_nf ⟨(f28).trans (f37), by omega⟩
            · first | exact qI_rt (by omega) (by omega) ⟨(f28).trans (f37), by omega⟩ | exact qI_nf ⟨(f28).trans (f37), by omega⟩
          · refine zok_ck ((q0).1) ?_
            refine zok_cI (s43 F (q0) (by omega) (by omega) ((f28).rs)) (fun y40 t40 u40 p40 => ?_)
            obtain ⟨f40, p40⟩ := p40
            simp only [zput_s, zput_n, ti_g, oI_add, oI_sub, oI_mul, b47_118]
            try simp only [zput_s, zput_n, ti_g, oI_add, oI_sub, oI_mul]
            first | refine zok_eq (by omega) (fun c42 => ?_) (fun c42 => ?_) | refine zok_if (fun c42 => ?_) (fun c42 => ?_)
            · first | exact qI_rt (by omega) (by omega) ⟨(f28).trans (f40), by omega⟩ | exact qI_nf ⟨(f28).trans (f40), by omega⟩
            · first | exact qI_rt (by omega) (by omega) ⟨(f28).trans (f40), by omega⟩ | exact qI_nf ⟨(f28).trans (f40), by omega⟩
      · refine zok_ck ((q2).1) ?_
        refine zok_cI (s8 F (q2) (q1) (by omega) (by omega) (by omega) (by omega) (hR)) (fun y43 t43 u43 p43 => ?_)
        obtain ⟨f43, p43⟩ := p43
        simp only [zput_s, zput_n, ti_g, oI_add, oI_sub, oI_mul, b47_78]
        try simp only [zput_s, zput_n, ti_g, oI_add, oI_sub, oI_mul]
        first | refine zok_ne (by omega) (fun c45 => ?_) (fun c45 => ?_) | refine zok_if (fun c45 => ?_) (fun c45 => ?_)
        · first | refine zok_eq (by omega) (fun c46 => ?_) (fun c46 => ?_) | refine zok_if (fun c46 => ?_) (fun c46 => ?_)
          · refine zok_ck ((q0).1) ?_
            refine zok_cI (s43 F (q0) (by omega) (by omega) ((f43).rs)) (fun y47 t47 u47 p47 => ?_)
            obtain ⟨f47, p47⟩ := p47
            simp only [zput_s, zput_n, ti_g, oI_add, oI_sub, oI_mul, b47_118]
            try simp only [zput_s, zput_n, ti_g, oI_add, oI_sub, oI_mul]
            first | refine zok_eq (by omega) (fun c49 => ?_) (fun c49 => ?_) | refine zok_if (fun c49 => ?_) (fun c49 => ?_)
            · first | exact qI_rt (by omega) (by omega) ⟨(f43).trans (f47), by omega⟩ | exact qI_nf ⟨(f43).trans (f47), by omega⟩
            · first | exact qI_rt (by omega) (by omega) ⟨(f43).trans (f47), by omega⟩ | exact qI_nf ⟨(f43).trans (f47), by omega⟩
          · first | refine zok_ne (by omega) (fun c50 => ?_) (fun c50 => ?_) | refine zok_if (fun c50 => ?_) (fun c50 => ?_)
            · first | exact qI_rt (by omega) (by omega) ⟨f43, by omega⟩ | exact qI_nf ⟨f43, by omega⟩
            · refine zok_ck ((q0).1) ?_
              refine zok_cI (s43 F (q0) (by omega) (by omega) ((f43).rs)) (fun y51 t51 u51 p51 => ?_)
              obtain ⟨f51, p51⟩ := p51
              simp only [zput_s, zput_n, ti_g, oI_add, oI_sub, oI_mul, b47_118]
              try simp only [zput_s, zput_n, ti_g, oI_add, oI_sub, oI_mul]
              first | refine zok_eq (by omega) (fun c53 => ?_) (fun c53 => ?_) | refine zok_if (fun c53 => ?_) (fun c53 => ?_)
              · first | exact qI_rt (by omega) (by omega) ⟨(f43).trans (f51), by omega⟩ | exact qI_nf ⟨(f43).trans (f51), by omega⟩
              · first | exact qI_rt (by omega) (by omega) ⟨(f43).trans (f51), by omega⟩ | exact qI_nf ⟨(f43).trans (f51), by omega⟩
        · refine zok_pI (s5 F (q1) (by omega) (by omega) (by omega) (by omega) ((f43).rs)) (fun y54 u54 p54 => ?_)
          simp only [zput_s, zput_n, ti_g, oI_add, oI_sub, oI_mul, b47_91]
          try simp only [zput_s, zput_n, ti_g, oI_add, oI_sub, oI_mul]
          first | refine zok_eq (by omega) (fun c56 => ?_) (fun c56 => ?_) | refine zok_if (fun c56 => ?_) (fun c56 => ?_)
          · first | refine zok_eq (by omega) (fun c57 => ?_) (fun c57 => ?_) | refine zok_if (fun c57 => ?_) (fun c57 => ?_)
            · refine zok_ck ((q0).1) ?_
              refine zok_cI (s43 F (q0) (by omega) (by omega) ((f43).rs)) (fun y58 t58 u58 p58 => ?_)
              obtain ⟨f58, p58⟩ := p58
              simp only [zput_s, zput_n, ti_g, oI_add, oI_sub, oI_mul, b47_118]
              try simp only [zput_s, zput_n, ti_g, oI_add, oI_sub, oI_mul]
              first | refine zok_eq (by omega) (fun c60 => ?_) (fun c60 => ?_) | refine zok_if (fun c60 => ?_) (fun c60 => ?_)
              · first | exact qI_rt (by omega) (by omega) ⟨(f43).trans (f58), by omega⟩ | exact qI_nf ⟨(f43).trans (f58), by omega⟩
              · first | exact qI_rt (by omega) (by omega) ⟨(f43).trans (f58), by omega⟩ | exact qI_nf ⟨(f43).trans (f58), by omega⟩
            · refine zok_ck ((q0).1) ?_
              refine zok_cI (s43 F (q0) (by omega) (by omega) ((f43).rs)) (fun y61 t61 u61 p61 => ?_)
              obtain ⟨f61, p61⟩ := p61
              simp only [zput_s, zput_n, ti_g, oI_add, oI_sub, oI_mul, b47_118]
              try simp only [zput_s, zput_n, ti_g, oI_add, oI_sub, oI_mul]
              first | refine zok_eq (by omega) (fun c63 => ?_) (fun c63 => ?_) | refine zok_if (fun c63 => ?_) (fun c63 => ?_)
              · first | exact qI_rt (by omega) (by omega) ⟨(f43).trans (f61), by omega⟩ | exact qI_nf ⟨(f43).trans (f61), by omega⟩
              · first | exact qI_rt (by omega) (by omega) ⟨(f43).trans (f61), by omega⟩ | exact qI_nf ⟨(f43).trans (f61), by omega⟩
          · first | refine zok_eq (by omega) (fun c64 => ?_) (fun c64 => ?_) | refine zok_if (fun c64 => ?_) (fun c64 => ?_)
            · refine zok_ck ((q0).1) ?_
              refine zok_cI (s43 F (q0) (by omega) (by omega) ((f43).rs)) (fun y65 t65 u65 p65 => ?_)
              obtain ⟨f65, p65⟩ := p65
              simp only [zput_s, zput_n, ti_g, oI_add, oI_sub, oI_mul, b47_118]
              try simp only [zput_s, zput_n, ti_g, oI_add, oI_sub, oI_mul]
              first | refine zok_eq (by omega) (fun c67 => ?_) (fun c67 => ?_) | refine zok_if (fun c67 => ?_) (fun c67 => ?_)
              · first | exact qI_rt (by omega) (by omega) ⟨(f43).trans (f65), by omega⟩ | exact qI_nf ⟨(f43).trans (f65), by omega⟩
              · first | exact qI_rt (by omega) (by omega) ⟨(f43).trans (f65), by omega⟩ | exact qI_nf ⟨(f43).trans (f65), by omega⟩
            · first | refine zok_ne (by omega) (fun c68 => ?_) (fun c68 => ?_) | refine zok_if (fun c68 => ?_) (fun c68 => ?_)
              · first | exact qI_rt (by omega) (by omega) ⟨f43, by omega⟩ | exact qI_nf ⟨f43, by omega⟩
              · refine zok_ck ((q0).1) ?_
                refine zok_cI (s43 F (q0) (by omega) (by omega) ((f43).rs)) (fun y69 t69 u69 p69 => ?_)
                obtain ⟨f69, p69⟩ := p69
                simp only [zput_s, zput_n, ti_g, oI_add, oI_sub, oI_mul, b47_118]
                try simp only [zput_s, zput_n, ti_g, oI_add, oI_sub, oI_mul]
                first | refine zok_eq (by omega) (fun c71 => ?_) (fun c71 => ?_) | refine zok_if (fun c71 => ?_) (fun c71 => ?_)
                · first | exact qI_rt (by omega) (by omega) ⟨(f43).trans (f69), by omega⟩ | exact qI_nf ⟨(f43).trans (f69), by omega⟩
                · first | exact qI_rt (by omega) (by omega) ⟨(f43).trans (f69), by omega⟩ | exact qI_nf ⟨(f43).trans (f69), by omega⟩
  · first | exact qI_rt (by omega) (by omega) ⟨FrC.refl hR, by omega⟩ | exact qI_nf ⟨FrC.refl hR, by omega⟩
/-! X3_isPortWrong -/
theorem s48 {sh : zSh} {T MB : Nat} (F : zCl sh T MB) {r0 : Nat} (q0 : zRd sh T MB r0) {r1 : Nat} (q1 : zRw sh T MB r1) {t : zSt} (hR : RS sh t) : zok (zcl zP 48 [zR r0, zR r1] (sh, t)) (qI (fun x t' => FrC sh T MB t t' ∧ (x = 0 ∨ x = 1)) sh) := by
  have ha0 : (sk sh (sr sh r0 0)).2 = 7 := by rw [q0.2.2.1]
  have hb0 : (sk sh (sr sh r0 1)).2 = 7 := by rw [q0.2.2.2.2.1]
  have hz1 := RS_sz (hR) q1.1
  rw [b48_0]
  try simp only [zput_s, zput_n, ti_g, oI_add, oI_sub, oI_mul]
  refine zok_ck ((q0).1) ?_
  refine zok_pI (s39 F (q0) (by omega) (hR)) (fun y2 u2 p2 => ?_)
  simp only [zput_s, zput_n, ti_g, oI_add, oI_sub, oI_mul, b48_5]
  try simp only [zput_s, zput_n, ti_g, oI_add, oI_sub, oI_mul]
  refine zok_ck ((q0).1) ?_
  refine zok_pI (s40 F (q0) (by omega) (hR)) (fun y4 u4 p4 => ?_)
  simp only [zput_s, zput_n, ti_g, oI_add, oI_sub, oI_mul, b48_11]
  try simp only [zput_s, zput_n, ti_g, oI_add, oI_sub, oI_mul]
  first | refine zok_lt (by omega) (fun c6 => ?_) (fun c6 => ?_) | refine zok_if (fun c6 => ?_) (fun c6 => ?_)
  · first | refine zok_eq (by omega) (fun c7 => ?_) (fun c7 => ?_) | refine zok_if (fun c7 => ?_) (fun c7 => ?_)
    · first | exact qI_rt (by omega) (by omega) ⟨FrC.refl hR, by omega⟩ | exact qI_nf ⟨FrC.refl hR, by omega⟩
    · refine zok_ck ((q0).1) ?_
      refine zok_cI (s43 F (q0) (by omega) (by omega) (hR)) (fun y8 t8 u8 p8 => ?_)
      obtain ⟨f8, p8⟩ := p8
      simp only [zput_s, zput_n, ti_g, oI_add, oI_sub, oI_mul, b48_48]
      try simp only [zput_s, zput_n, ti_g, oI_add, oI_sub, oI_mul]
      first | refine zok_eq (by omega) (fun c10 => ?_) (fun c10 => ?_) | refine zok_if (fun c10 => ?_) (fun c10 => ?_)
      · first | exact qI_rt (by omega) (by omega) ⟨f8, by omega⟩ | exact qI_nf ⟨f8, by omega⟩
      · first | exact qI_rt (by omega) (by omega) ⟨f8, by omega⟩ | exact qI_nf ⟨f8, by omega⟩
  · refine zok_ck (((q1).1).1) ?_
    refine zok_pI (s79 ((q1).1) (by omega) (by omega) (hR)) (fun y11 u11 p11 => ?_)
    simp only [zput_s, zput_n, ti_g, oI_add, oI_sub, oI_mul, b48_25]
    try simp only [zput_s, zput_n, ti_g, oI_add, oI_sub, oI_mul]
    first | refine zok_le (by omega) (fun c13 => ?_) (fun c13 => ?_) | refine zok_if (fun c13 => ?_) (fun c13 => ?_)
    · first | exact qI_rt (by omega) (by omega) ⟨FrC.refl hR, by omega⟩ | exact qI_nf ⟨FrC.refl hR, by omega⟩
    · first | refine zok_eq (by omega) (fun c14 => ?_) (fun c14 => ?_) | refine zok_if (fun c14 => ?_) (fun c14 => ?_)
      · first | exact qI_rt (by omega) (by omega) ⟨FrC.refl hR, by omega⟩ | exact qI_nf ⟨FrC.refl hR, by omega⟩
      · refine zok_ck ((q0).1) ?_
        refine zok_cI (s43 F (q0) (by omega) (by omega) (hR)) (fun y15 t15 u15 p15 => ?_)
        obtain ⟨f15, p15⟩ := p15
        simp only [zput_s, zput_n, ti_g, oI_add, oI_sub, oI_mul, b48_48]
        try simp only [zput_s, zput_n, ti_g, oI_add, oI_sub, oI_mul]
        first | refine zok_eq (by omega) (fun c17 => ?_) (fun c17 => ?_) | refine zok_if (fun c17 => ?_) (fun c17 => ?_)
        · first | exact qI_rt (by omega) (by omega) ⟨f15, by omega⟩ | exact qI_nf ⟨f15, by omega⟩
        · first | exact qI_rt (by omega) (by omega) ⟨f15, by omega⟩ | exact qI_nf ⟨f15, by omega⟩
/-! X3_isFaulty -/
theorem s42 {sh : zSh} {T MB : Nat} (F : zCl sh T MB) {r0 : Nat} (q0 : zRd sh T MB r0) {r1 : Nat} (q1 : zRw sh T MB r1) {r2 : Nat} (q2 : zAd sh T MB r2) {t : zSt} (hR : RS sh t) : zok (zcl zP 42 [zR r0, zR r1, zR r2] (sh, t)) (qI (fun x t' => FrC sh T MB t t' ∧ (x = 0 ∨ x = 1)) sh) := by
  have ha0 : (sk sh (sr sh r0 0)).2 = 7 := by rw [q0.2.2.1]
  have hb0 : (sk sh (sr sh r0 1)).2 = 7 := by rw [q0.2.2.2.2.1]
  have hz1 := RS_sz (hR) q1.1
  have ha2 : (sk sh (sr sh r2 0)).2 = 8 := by rw [q2.2.2.1]
  rw [b42_0]
  try simp only [zput_s, zput_n, ti_g, oI_add, oI_sub, oI_mul]
  refine zok_ck ((q0).1) ?_
  refine zok_cI (s44 F (q0) (q1) (hR)) (fun y2 t2 u2 p2 => ?_)
  obtain ⟨f2, p2⟩ := p2
  simp only [zput_s, zput_n, ti_g, oI_add, oI_sub, oI_mul, b42_5]
  try simp only [zput_s, zput_n, ti_g, oI_add, oI_sub, oI_mul]
  first | refine zok_ne (by omega) (fun c4 => ?_) (fun c4 => ?_) | refine zok_if (fun c4 => ?_) (fun c4 => ?_)
  · first | exact qI_rt (by omega) (by omega) ⟨f2, by omega⟩ | exact qI_nf ⟨f2, by omega⟩
  · refine zok_ck ((q0).1) ?_
    refine zok_cI (s45 F (q0) (q1) ((f2).rs)) (fun y5 t5 u5 p5 => ?_)
    obtain ⟨f5, p5⟩ := p5
    simp only [zput_s, zput_n, ti_g, oI_add, oI_sub, oI_mul, b42_13]
    try simp only [zput_s, zput_n, ti_g, oI_add, oI_sub, oI_mul]
    first | refine zok_ne (by omega) (fun c7 => ?_) (fun c7 => ?_) | refine zok_if (fun c7 => ?_) (fun c7 => ?_)
    · first | exact qI_rt (by omega) (by omega) ⟨(f2).trans (f5), by omega⟩ | exact qI_nf ⟨(f2).trans (f5), by omega⟩
    · refine zok_ck ((q0).1) ?_
      refine zok_cI (s46 F (q0) (q1) (((f2).trans (f5)).rs)) (fun y8 t8 u8 p8 => ?_)
      obtain ⟨f8, p8⟩ := p8
      simp only [zput_s, zput_n, ti_g, oI_add, oI_sub, oI_mul, b42_21]
      try simp only [zput_s, zput_n, ti_g, oI_add, oI_sub, oI_mul]
      first | refine zok_ne (by omega) (fun c10 => ?_) (fun c10 => ?_) | refine zok_if (fun c10 => ?_) (fun c10 => ?_)
      · first | exact qI_rt (by omega) (by omega) ⟨((f2).trans (f5)).trans (f8), by omega⟩ | exact qI_nf ⟨((f2).trans (f5)).trans (f8), by omega⟩
      · refine zok_ck ((q0).1) ?_
        refine zok_cI (s47 F (q0) (q1) (q2) ((((f2).trans (f5)).trans (f8)).rs)) (fun y11 t11 u11 p11 => ?_)
        obtain ⟨f11, p11⟩ := p11
        simp only [zput_s, zput_n, ti_g, oI_add, oI_sub, oI_mul, b42_30]
        try simp only [zput_s, zput_n, ti_g, oI_add, oI_sub, oI_mul]
        first | refine zok_ne (by omega) (fun c13 => ?_) (fun c13 => ?_) | refine zok_if (fun c13 => ?_) (fun c13 => ?_)
        · first | exact qI_rt (by omega) (by omega) ⟨(((f2).trans (f5)).trans (f8)).trans (f11), by omega⟩ | exact qI_nf ⟨(((f2).trans (f5)).trans (f8)).trans (f11), by omega⟩
        · refine zok_ck ((q0).1) ?_
          refine zok_cI (s48 F (q0) (q1) (((((f2).trans (f5)).trans (f8)).trans (f11)).rs)) (fun y14 t14 u14 p14 => ?_)
          obtain ⟨f14, p14⟩ := p14
          simp only [zput_s, zput_n, ti_g, oI_add, oI_sub, oI_mul, b42_38]
          try simp only [zput_s, zput_n, ti_g, oI_add, oI_sub, oI_mul]
          first | refine zok_eq (by omega) (fun c16 => ?_) (fun c16 => ?_) | refine zok_if (fun c16 => ?_) (fun c16 => ?_)
          · first | exact qI_rt (by omega) (by omega) ⟨((((f2).trans (f5)).trans (f8)).trans (f11)).trans (f14), by omega⟩ | exact qI_nf ⟨((((f2).trans (f5)).trans (f8)).trans (f11)).trans (f14), by omega⟩
          · first | exact qI_rt (by omega) (by omega) ⟨((((f2).trans (f5)).trans (f8)).trans (f11)).trans (f14), by omega⟩ | exact qI_nf ⟨((((f2).trans (f5)).trans (f8)).trans (f11)).trans (f14), by omega⟩
