set_option maxRecDepth 16384
/-! X8_fault -/
theorem s96 {sh : zSh} {T MB : Nat} (F : zCl sh T MB) {r0 : Nat} (q0 : zLL sh T MB r0) {x1 : Int} (u1 : -2147483648 ≤ x1 ∧ x1 ≤ 2147483647) {t : zSt} (hR : RS sh t) : zok (zcl zP 96 [zR r0, zI (oI x1)] (sh, t)) (qI (fun x t' => t' = t ∧ (True)) sh) := by
  have ha0 : (sk sh (sr sh r0 3)).2 = 8 := by rw [q0.2.2.2.2.2.1.1]
  have g1_1 : -2147483648 ≤ tg t r0 10 ∧ tg t r0 10 ≤ 2147483647 := ⟨tg_lo _ _ _, tg_hi _ _ _⟩
  have g1_2 : -2147483648 ≤ tg t r0 11 ∧ tg t r0 11 ≤ 2147483647 := ⟨tg_lo _ _ _, tg_hi _ _ _⟩
  rw [b96_0]
  try simp only [zput_s, zput_n, ti_g, oI_add, oI_sub, oI_mul]
  first | refine zok_eq (by omega) (fun c2 => ?_) (fun c2 => ?_) | refine zok_if (fun c2 => ?_) (fun c2 => ?_)
  · refine zok_ck ((q0).1) ?_
    first | exact qI_rt (by omega) (by omega) ⟨rfl, trivial⟩ | exact qI_nf ⟨rfl, trivial⟩
  · refine zok_ck ((q0).1) ?_
    first | exact qI_rt (by omega) (by omega) ⟨rfl, trivial⟩ | exact qI_nf ⟨rfl, trivial⟩
/-! X8_word -/
theorem l112_18 {sh : zSh} {T MB : Nat} (F : zCl sh T MB) {r0 : Nat} (q0 : zLL sh T MB r0) {x1 : Int} (u1 : -2147483648 ≤ x1 ∧ x1 ≤ 2147483647) {t : zSt} (hR : RS sh t) : ∀ (n : Nat) (l2 : Int64) (x4 : Int) , (-2147483648 ≤ x4 ∧ x4 ≤ 2147483647) ∧ (0 ≤ x1 ∧ x1 ≤ 50) ∧ (-1 ≤ x4 ∧ x4 ≤ 7) → (x4 + 1).toNat < n → zok (zev zP 112 18 [some (zR r0), some (zI (oI x1)), some (zL l2), none, some (zI (oI x4))] [] (sh, t)) (qL (fun x t' => t' = t ∧ (True)) sh) := by
  intro n
  induction n with
  | zero => intro l2 x4  _ hm; omega
  | succ n ih =>
    intro l2 x4  hv hm
    have ha0 : (sk sh (sr sh r0 3)).2 = 8 := by rw [q0.2.2.2.2.2.1.1]
    simp only [zput_s, zput_n, ti_g, oI_add, oI_sub, oI_mul, b112_18]
    try simp only [zput_s, zput_n, ti_g, oI_add, oI_sub, oI_mul]
    first | refine zok_lt (by omega) (fun c2 => ?_) (fun c2 => ?_) | refine zok_if (fun c2 => ?_) (fun c2 => ?_)
    · exact qL_rt ⟨rfl, trivial⟩
    · refine zok_ck ((q0).1) ?_
      refine zok_ck (((q0.2.2.2.2.1).1).1) ?_
      refine zok_pI (s57 ((q0.2.2.2.2.1).1) (by omega) (hR)) (fun y3 u3 p3 => ?_)
      simp only [zput_s, zput_n, ti_g, oI_add, oI_sub, oI_mul, b112_41]
      try simp only [zput_s, zput_n, ti_g, oI_add, oI_sub, oI_mul]
      try simp only [zput_s, zput_n, ti_g, oI_add, oI_sub, oI_mul]
      exact ih _ _ (by omega) (by omega)
theorem s112 {sh : zSh} {T MB : Nat} (F : zCl sh T MB) {r0 : Nat} (q0 : zLL sh T MB r0) {x1 : Int} (u1 : -2147483648 ≤ x1 ∧ x1 ≤ 2147483647) {t : zSt} (hR : RS sh t) : zok (zcl zP 112 [zR r0, zI (oI x1)] (sh, t)) (qL (fun x t' => t' = t ∧ (True)) sh) := by
  have ha0 : (sk sh (sr sh r0 3)).2 = 8 := by rw [q0.2.2.2.2.2.1.1]
  rw [b112_0]
  try simp only [zput_s, zput_n, ti_g, oI_add, oI_sub, oI_mul]
  first | refine zok_lt (by omega) (fun c6 => ?_) (fun c6 => ?_) | refine zok_if (fun c6 => ?_) (fun c6 => ?_)
  · exact qL_rt ⟨rfl, trivial⟩
  · first | refine zok_le (by omega) (fun c7 => ?_) (fun c7 => ?_) | refine zok_if (fun c7 => ?_) (fun c7 => ?_)
    · try simp only [zput_s, zput_n, ti_g, oI_add, oI_sub, oI_mul]
      exact l112_18 F q0 (by omega) hR _ _ _ (by omega) (Nat.lt_succ_self _)
    · exact qL_rt ⟨rfl, trivial⟩
/-! X8_write -/
theorem s97 {sh : zSh} {T MB : Nat} (F : zCl sh T MB) {r0 : Nat} (q0 : zLL sh T MB r0) {x1 : Int} (u1 : -2147483648 ≤ x1 ∧ x1 ≤ 2147483647) {t : zSt} (hR : RS sh t) : zok (zcl zP 97 [zR r0, zI (oI x1)] (sh, t)) (zqE (qI (fun x t' => FrC sh T MB t t' ∧ (True)) sh) [2] (fun t' => FrC sh T MB t t') sh) := by
  have ha0 : (sk sh (sr sh r0 3)).2 = 8 := by rw [q0.2.2.2.2.2.1.1]
  rw [b97_0]
  try simp only [zput_s, zput_n, ti_g, oI_add, oI_sub, oI_mul]
  refine zok_ck ((q0).1) ?_
  refine zok_qR (s113 F (q0) (by omega) (hR)) (fun E t' hE hX => ⟨by simp only [List.mem_cons, List.not_mem_nil, or_false] at hE ⊢; omega, by rw [hX.1]; exact FrC.refl hR⟩) (fun y2 p2 => ?_)
  have hq2_4 := p2.2 4 (by decide)
  have hr2_4 := And.intro (Ne.symm hq2_4.1) (Ne.symm hq2_4.2)
  have hq2_5 := p2.2 5 (by decide)
  have hr2_5 := And.intro (Ne.symm hq2_5.1) (Ne.symm hq2_5.2)
  simp only [zput_s, zput_n, ti_g, oI_add, oI_sub, oI_mul, b97_5]
  try simp only [zput_s, zput_n, ti_g, oI_add, oI_sub, oI_mul]
  refine zok_ck ((q0).1) ?_
  refine zok_ck ((p2.1).1) ?_
  refine zok_c0 (s28 F (p2.1) (q0.2.2.2.2.1) (hR)) (fun t4 p4 => ?_)
  obtain ⟨f4, p4⟩ := p4
  have g5_1 := RS_sz ((f4).rs) ((q0.2.2.2.2.1).1)
  simp only [zput_s, zput_n, ti_g, oI_add, oI_sub, oI_mul, b97_14]
  try simp only [zput_s, zput_n, ti_g, oI_add, oI_sub, oI_mul]
  refine zok_ck ((q0).1) ?_
  refine zok_ck (((q0.2.2.2.2.1).1).1) ?_
  refine zok_l ?_
  first | exact qI_rt (by omega) (by omega) ⟨f4, trivial⟩ | exact qI_nf ⟨f4, trivial⟩
/-! X8_part -/
theorem s98 {sh : zSh} {T MB : Nat} (F : zCl sh T MB) {r0 : Nat} (q0 : zLL sh T MB r0) {x1 : Int} (u1 : -2147483648 ≤ x1 ∧ x1 ≤ 2147483647) {x2 : Int} (u2 : -2147483648 ≤ x2 ∧ x2 ≤ 2147483647) {t : zSt} (hR : RS sh t) : zok (zcl zP 98 [zR r0, zI (oI x1), zI (oI x2)] (sh, t)) (zqE (qI (fun x t' => FrC sh T MB t t' ∧ (True)) sh) [2, 0] (fun t' => FrC sh T MB t t') sh) := by
  have ha0 : (sk sh (sr sh r0 3)).2 = 8 := by rw [q0.2.2.2.2.2.1.1]
  rw [b98_0]
  try simp only [zput_s, zput_n, ti_g, oI_add, oI_sub, oI_mul]
  refine zok_ck ((q0).1) ?_
  refine zok_qR (s113 F (q0) (by omega) (hR)) (fun E t' hE hX => ⟨by simp only [List.mem_cons, List.not_mem_nil, or_false] at hE ⊢; omega, by rw [hX.1]; exact FrC.refl hR⟩) (fun y2 p2 => ?_)
  have hq2_4 := p2.2 4 (by decide)
  have hr2_4 := And.intro (Ne.symm hq2_4.1) (Ne.symm hq2_4.2)
  have hq2_5 := p2.2 5 (by decide)
  have hr2_5 := And.intro (Ne.symm hq2_5.1) (Ne.symm hq2_5.2)
  simp only [zput_s, zput_n, ti_g, oI_add, oI_sub, oI_mul, b98_5]
  try simp only [zput_s, zput_n, ti_g, oI_add, oI_sub, oI_mul]
  first | refine zok_lt (by omega) (fun c4 => ?_) (fun c4 => ?_) | refine zok_if (fun c4 => ?_) (fun c4 => ?_)
  · exact zok_th (by decide) (FrC.refl hR)
  · first | refine zok_lt (by omega) (fun c5 => ?_) (fun c5 => ?_) | refine zok_if (fun c5 => ?_) (fun c5 => ?_)
    · refine zok_ck ((p2.1).1) ?_
      refine zok_pR (s22 F (p2.1) (by omega) (hR)) (fun y6 p6 => ?_)
      simp only [zput_s, zput_n, ti_g, oI_add, oI_sub, oI_mul, b98_29]
      try simp only [zput_s, zput_n, ti_g, oI_add, oI_sub, oI_mul]
      refine zok_ck ((q0).1) ?_
      refine zok_ck (((q0.2.2.2.2.1).1).1) ?_
      refine zok_c0 (s64 ((q0.2.2.2.2.1).1) ((p6).1) (hR)) (fun t8 p8 => ?_)
      obtain ⟨f8, p8⟩ := p8
      have g9_1 := RS_sz (((f8).toC F (q0.2.2.2.2.1)).rs) ((p6).1)
      simp only [zput_s, zput_n, ti_g, oI_add, oI_sub, oI_mul, b98_40]
      try simp only [zput_s, zput_n, ti_g, oI_add, oI_sub, oI_mul]
      refine zok_ck (((p6).1).1) ?_
      first | refine zok_eq (by omega) (fun c10 => ?_) (fun c10 => ?_) | refine zok_if (fun c10 => ?_) (fun c10 => ?_)
      · refine zok_l ?_
        first | exact qI_rt (by omega) (by omega) ⟨(f8).toC F (q0.2.2.2.2.1), trivial⟩ | exact qI_nf ⟨(f8).toC F (q0.2.2.2.2.1), trivial⟩
      · refine zok_ck (((p6).1).1) ?_
        refine zok_l ?_
        first | exact qI_rt (by omega) (by omega) ⟨(f8).toC F (q0.2.2.2.2.1), trivial⟩ | exact qI_nf ⟨(f8).toC F (q0.2.2.2.2.1), trivial⟩
    · exact zok_th (by decide) (FrC.refl hR)
/-! X8_host -/
theorem s99 {sh : zSh} {T MB : Nat} (F : zCl sh T MB) {r0 : Nat} (q0 : zLL sh T MB r0) {x1 : Int} (u1 : -2147483648 ≤ x1 ∧ x1 ≤ 2147483647) {t : zSt} (hR : RS sh t) : zok (zcl zP 99 [zR r0, zI (oI x1)] (sh, t)) (zqE (qI (fun x t' => FrC sh T MB t t' ∧ (True)) sh) [2] (fun t' => FrC sh T MB t t') sh) := by
  have ha0 : (sk sh (sr sh r0 3)).2 = 8 := by rw [q0.2.2.2.2.2.1.1]
  rw [b99_0]
  try simp only [zput_s, zput_n, ti_g, oI_add, oI_sub, oI_mul]
  refine zok_ck ((q0).1) ?_
  refine zok_ck ((q0).1) ?_
  refine zok_qR (s113 F (q0) (by omega) (hR)) (fun E t' hE hX => ⟨by simp only [List.mem_cons, List.not_mem_nil, or_false] at hE ⊢; omega, by rw [hX.1]; exact FrC.refl hR⟩) (fun y2 p2 => ?_)
  have hq2_4 := p2.2 4 (by decide)
  have hr2_4 := And.intro (Ne.symm hq2_4.1) (Ne.symm hq2_4.2)
  have hq2_5 := p2.2 5 (by decide)
  have hr2_5 := And.intro (Ne.symm hq2_5.1) (Ne.symm hq2_5.2)
  simp only [zput_s, zput_n, ti_g, oI_add, oI_sub, oI_mul, b99_9]
  try simp only [zput_s, zput_n, ti_g, oI_add, oI_sub, oI_mul]
  refine zok_ck ((p2.1).1) ?_
  refine zok_ck ((q0.2.2.2.2.2.2.2.2.1).1) ?_
  refine zok_cI (s1 F (q0.2.2.2.2.2.2.2.2.1) (p2.1.2 2 (by decide)) (hR)) (fun y4 t4 u4 p4 => ?_)
  obtain ⟨f4, p4⟩ := p4
  simp only [zput_s, zput_n, ti_g, oI_add, oI_sub, oI_mul, b99_15]
  try simp only [zput_s, zput_n, ti_g, oI_add, oI_sub, oI_mul]
  refine zok_l ?_
  first | exact qI_rt (by omega) (by omega) ⟨f4, trivial⟩ | exact qI_nf ⟨f4, trivial⟩
/-! X8_address -/
theorem s100 {sh : zSh} {T MB : Nat} (F : zCl sh T MB) {r0 : Nat} (q0 : zLL sh T MB r0) {x1 : Int} (u1 : -2147483648 ≤ x1 ∧ x1 ≤ 2147483647) {x2 : Int} (u2 : -2147483648 ≤ x2 ∧ x2 ≤ 2147483647) {t : zSt} (hR : RS sh t) : zok (zcl zP 100 [zR r0, zI (oI x1), zI (oI x2)] (sh, t)) (zqE (qI (fun x t' => FrC sh T MB t t' ∧ (True)) sh) [2, 1, 0] (fun t' => FrC sh T MB t t') sh) := by
  have ha0 : (sk sh (sr sh r0 3)).2 = 8 := by rw [q0.2.2.2.2.2.1.1]
  rw [b100_0]
  try simp only [zput_s, zput_n, ti_g, oI_add, oI_sub, oI_mul]
  refine zok_ck ((q0).1) ?_
  refine zok_ck ((q0).1) ?_
  refine zok_qR (s113 F (q0) (by omega) (hR)) (fun E t' hE hX => ⟨by simp only [List.mem_cons, List.not_mem_nil, or_false] at hE ⊢; omega, by rw [hX.1]; exact FrC.refl hR⟩) (fun y2 p2 => ?_)
  have hq2_4 := p2.2 4 (by decide)
  have hr2_4 := And.intro (Ne.symm hq2_4.1) (Ne.symm hq2_4.2)
  have hq2_5 := p2.2 5 (by decide)
  have hr2_5 := And.intro (Ne.symm hq2_5.1) (Ne.symm hq2_5.2)
  simp only [zput_s, zput_n, ti_g, oI_add, oI_sub, oI_mul, b100_9]
  try simp only [zput_s, zput_n, ti_g, oI_add, oI_sub, oI_mul]
  refine zok_ck ((p2.1).1) ?_
  refine zok_ck ((q0.2.2.2.2.2.2.2.2.1).1) ?_
  refine zok_cI (s1 F (q0.2.2.2.2.2.2.2.2.1) (p2.1.2 2 (by decide)) (hR)) (fun y4 t4 u4 p4 => ?_)
  obtain ⟨f4, p4⟩ := p4
  simp only [zput_s, zput_n, ti_g, oI_add, oI_sub, oI_mul, b100_15]
  try simp only [zput_s, zput_n, ti_g, oI_add, oI_sub, oI_mul]
  first | refine zok_eq (by omega) (fun c6 => ?_) (fun c6 => ?_) | refine zok_if (fun c6 => ?_) (fun c6 => ?_)
  · first | refine zok_lt (by omega) (fun c7 => ?_) (fun c7 => ?_) | refine zok_if (fun c7 => ?_) (fun c7 => ?_)
    · exact zok_th (by decide) (f4)
    · first | refine zok_ne (by omega) (fun c8 => ?_) (fun c8 => ?_) | refine zok_if (fun c8 => ?_) (fun c8 => ?_)
      · first | refine zok_le (by omega) (fun c9 => ?_) (fun c9 => ?_) | refine zok_if (fun c9 => ?_) (fun c9 => ?_)
        · refine zok_ck ((q0).1) ?_
          refine zok_ck ((q0.2.2.2.2.2.2.2.2.1).1) ?_
          refine zok_pI (s2 F (q0.2.2.2.2.2.2.2.2.1) (by omega) (by omega) ((f4).rs)) (fun y10 u10 p10 => ?_)
          simp only [zput_s, zput_n, ti_g, oI_add, oI_sub, oI_mul, b100_68]
          try simp only [zput_s, zput_n, ti_g, oI_add, oI_sub, oI_mul]
          refine zok_l ?_
          first | exact qI_rt (by omega) (by omega) ⟨f4, trivial⟩ | exact qI_nf ⟨f4, trivial⟩
        · exact zok_th (by decide) (f4)
      · first | refine zok_le (by omega) (fun c12 => ?_) (fun c12 => ?_) | refine zok_if (fun c12 => ?_) (fun c12 => ?_)
        · refine zok_ck ((q0).1) ?_
          refine zok_ck ((q0.2.2.2.2.2.2.2.2.1).1) ?_
          refine zok_pI (s2 F (q0.2.2.2.2.2.2.2.2.1) (by omega) (by omega) ((f4).rs)) (fun y13 u13 p13 => ?_)
          simp only [zput_s, zput_n, ti_g, oI_add, oI_sub, oI_mul, b100_68]
          try simp only [zput_s, zput_n, ti_g, oI_add, oI_sub, oI_mul]
          refine zok_l ?_
          first | exact qI_rt (by omega) (by omega) ⟨f4, trivial⟩ | exact qI_nf ⟨f4, trivial⟩
        · exact zok_th (by decide) (f4)
  · first | refine zok_eq (by omega) (fun c15 => ?_) (fun c15 => ?_) | refine zok_if (fun c15 => ?_) (fun c15 => ?_)
    · first | refine zok_lt (by omega) (fun c16 => ?_) (fun c16 => ?_) | refine zok_if (fun c16 => ?_) (fun c16 => ?_)
      · exact zok_th (by decide) (f4)
      · first | refine zok_ne (by omega) (fun c17 => ?_) (fun c17 => ?_) | refine zok_if (fun c17 => ?_) (fun c17 => ?_)
        · first | refine zok_le (by omega) (fun c18 => ?_) (fun c18 => ?_) | refine zok_if (fun c18 => ?_) (fun c18 => ?_)
          · refine zok_ck ((q0).1) ?_
            refine zok_ck ((q0.2.2.2.2.2.2.2.2.1).1) ?_
            refine zok_pI (s2 F (q0.2.2.2.2.2.2.2.2.1) (by omega) (by omega) ((f4).rs)) (fun y19 u19 p19 => ?_)
            simp only [zput_s, zput_n, ti_g, oI_add, oI_sub, oI_mul, b100_68]
            try simp only [zput_s, zput_n, ti_g, oI_add, oI_sub, oI_mul]
            refine zok_l ?_
            first | exact qI_rt (by omega) (by omega) ⟨f4, trivial⟩ | exact qI_nf ⟨f4, trivial⟩
          · exact zok_th (by decide) (f4)
        · first | refine zok_le (by omega) (fun c21 => ?_) (fun c21 => ?_) | refine zok_if (fun c21 => ?_) (fun c21 => ?_)
          · refine zok_ck ((q0).1) ?_
            refine zok_ck ((q0.2.2.2.2.2.2.2.2.1).1) ?_
            refine zok_pI (s2 F (q0.2.2.2.2.2.2.2.2.1) (by omega) (by omega) ((f4).rs)) (fun y22 u22 p22 => ?_)
            simp only [zput_s, zput_n, ti_g, oI_add, oI_sub, oI_mul, b100_68]
            try simp only [zput_s, zput_n, ti_g, oI_add, oI_sub, oI_mul]
            refine zok_l ?_
            first | exact qI_rt (by omega) (by omega) ⟨f4, trivial⟩ | exact qI_nf ⟨f4, trivial⟩
          · exact zok_th (by decide) (f4)
    · exact zok_th (by decide) (f4)
/-! X8_port -/
theorem s101 {sh : zSh} {T MB : Nat} (F : zCl sh T MB) {r0 : Nat} (q0 : zLL sh T MB r0) {x1 : Int} (u1 : -2147483648 ≤ x1 ∧ x1 ≤ 2147483647) {t : zSt} (hR : RS sh t) : zok (zcl zP 101 [zR r0, zI (oI x1)] (sh, t)) (zqE (qI (fun x t' => FrC sh T MB t t' ∧ (True)) sh) [2] (fun t' => FrC sh T MB t t') sh) := by
  have ha0 : (sk sh (sr sh r0 3)).2 = 8 := by rw [q0.2.2.2.2.2.1.1]
  rw [b101_0]
  try simp only [zput_s, zput_n, ti_g, oI_add, oI_sub, oI_mul]
  refine zok_ck ((q0).1) ?_
  refine zok_qR (s113 F (q0) (by omega) (hR)) (fun E t' hE hX => ⟨by simp only [List.mem_cons, List.not_mem_nil, or_false] at hE ⊢; omega, by rw [hX.1]; exact FrC.refl hR⟩) (fun y2 p2 => ?_)
  have hq2_4 := p2.2 4 (by decide)
  have hr2_4 := And.intro (Ne.symm hq2_4.1) (Ne.symm hq2_4.2)
  have hq2_5 := p2.2 5 (by decide)
  have hr2_5 := And.intro (Ne.symm hq2_5.1) (Ne.symm hq2_5.2)
  simp only [zput_s, zput_n, ti_g, oI_add, oI_sub, oI_mul, b101_5]
  try simp only [zput_s, zput_n, ti_g, oI_add, oI_sub, oI_mul]
  refine zok_ck ((p2.1).1) ?_
  refine zok_pI (s31 F (p2.1) (hR)) (fun y4 u4 p4 => ?_)
  simp only [zput_s, zput_n, ti_g, oI_add, oI_sub, oI_mul, b101_8]
  try simp only [zput_s, zput_n, ti_g, oI_add, oI_sub, oI_mul]
  refine zok_l ?_
  first | exact qI_rt (by omega) (by omega) ⟨FrC.refl hR, trivial⟩ | exact qI_nf ⟨FrC.refl hR, trivial⟩
/-! X8_readsBack -/
theorem s117 {sh : zSh} {T MB : Nat} (F : zCl sh T MB) {r0 : Nat} (q0 : zLL sh T MB r0) {t : zSt} (hR : RS sh t) : zok (zcl zP 117 [zR r0] (sh, t)) (qI (fun x t' => FrC sh T MB t t' ∧ (x = 0 ∨ x = 1)) sh) := by
  have ha0 : (sk sh (sr sh r0 3)).2 = 8 := by rw [q0.2.2.2.2.2.1.1]
  rw [b117_0]
  try simp only [zput_s, zput_n, ti_g, oI_add, oI_sub, oI_mul]
  refine zok_ck ((q0).1) ?_
  refine zok_ck ((q0).1) ?_
  refine zok_ck ((q0.2.2.2.2.2.2.2.2.2.2.1).1) ?_
  refine zok_c0 (s28 F (q0.2.2.2.2.2.2.2.2.2.2.1) (q0.2.2.2.2.2.2.2.1) (hR)) (fun t2 p2 => ?_)
  obtain ⟨f2, p2⟩ := p2
  simp only [zput_s, zput_n, ti_g, oI_add, oI_sub, oI_mul, b117_11]
  try simp only [zput_s, zput_n, ti_g, oI_add, oI_sub, oI_mul]
  refine zok_ck ((q0).1) ?_
  refine zok_ck ((q0).1) ?_
  refine zok_ck ((q0.2.2.2.2.2.2.1).1) ?_
  refine zok_c0 (s35 F (q0.2.2.2.2.2.2.1) (q0.2.2.2.2.2.2.2.1) ((f2).rs)) (fun t4 p4 => ?_)
  obtain ⟨f4, p4⟩ := p4
  simp only [zput_s, zput_n, ti_g, oI_add, oI_sub, oI_mul, b117_22]
  try simp only [zput_s, zput_n, ti_g, oI_add, oI_sub, oI_mul]
  refine zok_ck ((q0).1) ?_
  refine zok_ck ((q0).1) ?_
  refine zok_ck ((q0).1) ?_
  refine zok_ck ((q0.2.2.2.2.2.2.1).1) ?_
  refine zok_c0 (s41 F (q0.2.2.2.2.2.2.1) (q0.2.2.2.2.2.2.2.2.2.2.2) (q0.2.2.2.2.2.2.2.1) (((f2).trans (f4)).rs)) (fun t6 p6 => ?_)
  obtain ⟨f6, p6⟩ := p6
  simp only [zput_s, zput_n, ti_g, oI_add, oI_sub, oI_mul, b117_37]
  try simp only [zput_s, zput_n, ti_g, oI_add, oI_sub, oI_mul]
  refine zok_ck ((q0).1) ?_
  refine zok_ck ((q0).1) ?_
  refine zok_ck ((q0.2.2.2.2.2.2.2.2.2.2.2).1) ?_
  refine zok_pI (s26 F (q0.2.2.2.2.2.2.2.2.2.2.2) (q0.2.2.2.2.2.2.2.2.2.2.1) ((((f2).trans (f4)).trans (f6)).rs)) (fun y8 u8 p8 => ?_)
  simp only [zput_s, zput_n, ti_g, oI_add, oI_sub, oI_mul, b117_48]
  try simp only [zput_s, zput_n, ti_g, oI_add, oI_sub, oI_mul]
  refine zok_ck (by first | exact fun _ => bool_p (by omega) | exact bool_p (by omega)) ?_
  first | exact qI_rt (by omega) (by omega) ⟨((f2).trans (f4)).trans (f6), by omega⟩ | exact qI_nf ⟨((f2).trans (f4)).trans (f6), by omega⟩
/-! X8_shortestWay -/
theorem l116_10 {sh : zSh} {T MB : Nat} (F : zCl sh T MB) {r0 : Nat} (q0 : zLL sh T MB r0) {r1 : Nat} (q1 : zPt sh T MB r1) {r2 : Nat} (q2 : zPt sh T MB r2) {t0 : zSt} (hR : RS sh t0) : ∀ (n : Nat) (x3 : Int) (x4 : Int) (x5 : Int) (o6 : Option zV) (wo6 : zisL o6 = false) (t1 : zSt), FrC sh T MB t0 t1 → (-2147483648 ≤ x3 ∧ x3 ≤ 2147483647) ∧ (-2147483648 ≤ x4 ∧ x4 ≤ 2147483647) ∧ (-2147483648 ≤ x5 ∧ x5 ≤ 2147483647) ∧ (-1 ≤ x3 ∧ x3 ≤ 5) ∧ (0 ≤ x5) → (6 - x5).toNat < n → zok (zev zP 116 10 [some (zR r0), some (zR r1), some (zR r2), some (zI (oI x3)), some (zI (oI x4)), some (zI (oI x5)), o6] [] (sh, t1)) (qI (fun x t' => FrC sh T MB t0 t' ∧ (-1 ≤ x ∧ x ≤ 5)) sh) := by
  intro n
  induction n with
  | zero => intro x3 x4 x5 o6 wo6 t1 f0 _ hm; omega
  | succ n ih =>
    intro x3 x4 x5 o6 wo6 t1 f0 hv hm
    have ha0 : (sk sh (sr sh r0 3)).2 = 8 := by rw [q0.2.2.2.2.2.1.1]
    try simp only [zput_s, zput_n, ti_g, oI_add, oI_sub, oI_mul]
    rw [b116_10 (o6 := o6) (wo6 := wo6)]
    try simp only [zput_s, zput_n, ti_g, oI_add, oI_sub, oI_mul]
    first | refine zok_le (by omega) (fun c2 => ?_) (fun c2 => ?_) | refine zok_if (fun c2 => ?_) (fun c2 => ?_)
    · first | exact qI_rt (by omega) (by omega) ⟨f0, by omega⟩ | exact qI_nf ⟨f0, by omega⟩
    · refine zok_ck ((q0).1) ?_
      refine zok_c0 (s49 F (q0.2.2.2.2.2.2.2.2.2.2.1) (by omega) (q1) (q2) (f0.rs)) (fun t3 p3 => ?_)
      obtain ⟨f3, p3⟩ := p3
      try simp only [zput_s, zput_n, ti_g, oI_add, oI_sub, oI_mul]
      rw [b116_28 (o6 := o6) (wo6 := wo6)]
      try simp only [zput_s, zput_n, ti_g, oI_add, oI_sub, oI_mul]
      refine zok_ck ((q0).1) ?_
      refine zok_ck ((q0.2.2.2.2.2.2.2.2.2.2.1).1) ?_
      refine zok_pI (s27 F (q0.2.2.2.2.2.2.2.2.2.2.1) (((f0).trans (f3)).rs)) (fun y5 u5 p5 => ?_)
      try simp only [zput_s, zput_n, ti_g, oI_add, oI_sub, oI_mul]
      rw [b116_35 (o6 := o6) (wo6 := wo6)]
      try simp only [zput_s, zput_n, ti_g, oI_add, oI_sub, oI_mul]
      first | refine zok_le (by omega) (fun c7 => ?_) (fun c7 => ?_) | refine zok_if (fun c7 => ?_) (fun c7 => ?_)
      · try simp only [zput_s, zput_n, ti_g, oI_add, oI_sub, oI_mul]
        exact ih _ _ _ _ rfl _ ((f0).trans (f3)) (by omega) (by omega)
      · refine zok_ck ((q0).1) ?_
        refine zok_cI (s117 F (q0) (((f0).trans (f3)).rs)) (fun y8 t8 u8 p8 => ?_)
        obtain ⟨f8, p8⟩ := p8
        simp only [zput_s, zput_n, ti_g, oI_add, oI_sub, oI_mul, b116_48]
        try simp only [zput_s, zput_n, ti_g, oI_add, oI_sub, oI_mul]
        first | refine zok_eq (by omega) (fun c10 => ?_) (fun c10 => ?_) | refine zok_if (fun c10 => ?_) (fun c10 => ?_)
        · try simp only [zput_s, zput_n, ti_g, oI_add, oI_sub, oI_mul]
          exact ih _ _ _ _ rfl _ (((f0).trans (f3)).trans (f8)) (by omega) (by omega)
        · refine zok_ck ((q0).1) ?_
          refine zok_ck ((q0).1) ?_
          refine zok_c0 (s53 F (q0.2.2.2.2.2.2.2.2.2.1) (q1) (q0.2.2.2.2.2.2.2.2.2.2.1) (by omega) ((((f0).trans (f3)).trans (f8)).rs)) (fun t11 p11 => ?_)
          obtain ⟨f11, p11⟩ := p11
          simp only [zput_s, zput_n, ti_g, oI_add, oI_sub, oI_mul, b116_64]
          try simp only [zput_s, zput_n, ti_g, oI_add, oI_sub, oI_mul]
          refine zok_ck ((q0).1) ?_
          refine zok_ck ((q0.2.2.2.2.2.2.2.2.2.1).1) ?_
          refine zok_pI (s26 F (q0.2.2.2.2.2.2.2.2.2.1) (q2) (((((f0).trans (f3)).trans (f8)).trans (f11)).rs)) (fun y13 u13 p13 => ?_)
          simp only [zput_s, zput_n, ti_g, oI_add, oI_sub, oI_mul, b116_72]
          try simp only [zput_s, zput_n, ti_g, oI_add, oI_sub, oI_mul]
          first | refine zok_eq (by omega) (fun c15 => ?_) (fun c15 => ?_) | refine zok_if (fun c15 => ?_) (fun c15 => ?_)
          · try simp only [zput_s, zput_n, ti_g, oI_add, oI_sub, oI_mul]
            exact ih _ _ _ _ rfl _ ((((f0).trans (f3)).trans (f8)).trans (f11)) (by omega) (by omega)
          · try simp only [zput_s, zput_n, ti_g, oI_add, oI_sub, oI_mul]
            exact ih _ _ _ _ rfl _ ((((f0).trans (f3)).trans (f8)).trans (f11)) (by omega) (by omega)
theorem s116 {sh : zSh} {T MB : Nat} (F : zCl sh T MB) {r0 : Nat} (q0 : zLL sh T MB r0) {r1 : Nat} (q1 : zPt sh T MB r1) {r2 : Nat} (q2 : zPt sh T MB r2) {t : zSt} (hR : RS sh t) : zok (zcl zP 116 [zR r0, zR r1, zR r2] (sh, t)) (qI (fun x t' => FrC sh T MB t t' ∧ (-1 ≤ x ∧ x ≤ 5)) sh) := by
  have ha0 : (sk sh (sr sh r0 3)).2 = 8 := by rw [q0.2.2.2.2.2.1.1]
  rw [b116_0]
  try simp only [zput_s, zput_n, ti_g, oI_add, oI_sub, oI_mul]
  try simp only [zput_s, zput_n, ti_g, oI_add, oI_sub, oI_mul]
  exact l116_10 F q0 q1 q2 hR _ _ _ _ _ rfl _ (FrC.refl hR) (by omega) (Nat.lt_succ_self _)
/-! X8_resolve -/
theorem s102 {sh : zSh} {T MB : Nat} (F : zCl sh T MB) {r0 : Nat} (q0 : zLL sh T MB r0) {x1 : Int} (u1 : -2147483648 ≤ x1 ∧ x1 ≤ 2147483647) {x2 : Int} (u2 : -2147483648 ≤ x2 ∧ x2 ≤ 2147483647) {x3 : Int} (u3 : -2147483648 ≤ x3 ∧ x3 ≤ 2147483647) {x4 : Int} (u4 : -2147483648 ≤ x4 ∧ x4 ≤ 2147483647) {t : zSt} (hR : RS sh t) : zok (zcl zP 102 [zR r0, zI (oI x1), zI (oI x2), zI (oI x3), zI (oI x4)] (sh, t)) (zqE (qI (fun x t' => FrC sh T MB t t' ∧ (True)) sh) [2, 1, 3] (fun t' => FrC sh T MB t t') sh) := by
  have ha0 : (sk sh (sr sh r0 3)).2 = 8 := by rw [q0.2.2.2.2.2.1.1]
  rw [b102_0]
  try simp only [zput_s, zput_n, ti_g, oI_add, oI_sub, oI_mul]
  refine zok_ck ((q0).1) ?_
  refine zok_qR (s113 F (q0) (by omega) (hR)) (fun E t' hE hX => ⟨by simp only [List.mem_cons, List.not_mem_nil, or_false] at hE ⊢; omega, by rw [hX.1]; exact FrC.refl hR⟩) (fun y2 p2 => ?_)
  have hq2_4 := p2.2 4 (by decide)
  have hr2_4 := And.intro (Ne.symm hq2_4.1) (Ne.symm hq2_4.2)
  have hq2_5 := p2.2 5 (by decide)
  have hr2_5 := And.intro (Ne.symm hq2_5.1) (Ne.symm hq2_5.2)
  simp only [zput_s, zput_n, ti_g, oI_add, oI_sub, oI_mul, b102_5]
  try simp only [zput_s, zput_n, ti_g, oI_add, oI_sub, oI_mul]
  refine zok_ck ((q0).1) ?_
  refine zok_qR (s113 F (q0) (by omega) (hR)) (fun E t' hE hX => ⟨by simp only [List.mem_cons, List.not_mem_nil, or_false] at hE ⊢; omega, by rw [hX.1]; exact FrC.refl hR⟩) (fun y4 p4 => ?_)
  have hq4_4 := p4.2 4 (by decide)
  have hr4_4 := And.intro (Ne.symm hq4_4.1) (Ne.symm hq4_4.2)
  have hq4_5 := p4.2 5 (by decide)
  have hr4_5 := And.intro (Ne.symm hq4_5.1) (Ne.symm hq4_5.2)
  simp only [zput_s, zput_n, ti_g, oI_add, oI_sub, oI_mul, b102_12]
  try simp only [zput_s, zput_n, ti_g, oI_add, oI_sub, oI_mul]
  refine zok_ck ((q0).1) ?_
  refine zok_qR (s113 F (q0) (by omega) (hR)) (fun E t' hE hX => ⟨by simp only [List.mem_cons, List.not_mem_nil, or_false] at hE ⊢; omega, by rw [hX.1]; exact FrC.refl hR⟩) (fun y6 p6 => ?_)
  have hq6_4 := p6.2 4 (by decide)
  have hr6_4 := And.intro (Ne.symm hq6_4.1) (Ne.symm hq6_4.2)
  have hq6_5 := p6.2 5 (by decide)
  have hr6_5 := And.intro (Ne.symm hq6_5.1) (Ne.symm hq6_5.2)
  have g7_1 := RS_sz (hR) ((p4.1.2 0 (by decide)).1)
  simp only [zput_s, zput_n, ti_g, oI_add, oI_sub, oI_mul, b102_19]
  try simp only [zput_s, zput_n, ti_g, oI_add, oI_sub, oI_mul]
  refine zok_ck ((p4.1).1) ?_
  refine zok_ck (((p4.1.2 0 (by decide)).1).1) ?_
  first | refine zok_ne (by omega) (fun c8 => ?_) (fun c8 => ?_) | refine zok_if (fun c8 => ?_) (fun c8 => ?_)
  · refine zok_ck ((q0).1) ?_
    refine zok_c0 (s53 F (q0.2.2.2.2.2.2.2.2.2.1) (p4.1) (p6.1) (by omega) (hR)) (fun t9 p9 => ?_)
    obtain ⟨f9, p9⟩ := p9
    simp only [zput_s, zput_n, ti_g, oI_add, oI_sub, oI_mul, b102_53]
    try simp only [zput_s, zput_n, ti_g, oI_add, oI_sub, oI_mul]
    refine zok_ck ((q0).1) ?_
    refine zok_ck ((q0.2.2.2.2.2.2.2.2.2.1).1) ?_
    refine zok_pI (s27 F (q0.2.2.2.2.2.2.2.2.2.1) ((f9).rs)) (fun y11 u11 p11 => ?_)
    simp only [zput_s, zput_n, ti_g, oI_add, oI_sub, oI_mul, b102_60]
    try simp only [zput_s, zput_n, ti_g, oI_add, oI_sub, oI_mul]
    first | refine zok_le (by omega) (fun c13 => ?_) (fun c13 => ?_) | refine zok_if (fun c13 => ?_) (fun c13 => ?_)
    · refine zok_ck ((q0).1) ?_
      refine zok_ck ((p2.1).1) ?_
      refine zok_c0 (s24 F (p2.1) (q0.2.2.2.2.2.2.2.2.2.1) ((f9).rs)) (fun t14 p14 => ?_)
      obtain ⟨f14, p14⟩ := p14
      simp only [zput_s, zput_n, ti_g, oI_add, oI_sub, oI_mul, b102_83]
      try simp only [zput_s, zput_n, ti_g, oI_add, oI_sub, oI_mul]
      refine zok_ck ((p2.1).1) ?_
      refine zok_pI (s27 F (p2.1) (((f9).trans (f14)).rs)) (fun y16 u16 p16 => ?_)
      simp only [zput_s, zput_n, ti_g, oI_add, oI_sub, oI_mul, b102_88]
      try simp only [zput_s, zput_n, ti_g, oI_add, oI_sub, oI_mul]
      refine zok_l ?_
      first | exact qI_rt (by omega) (by omega) ⟨(f9).trans (f14), trivial⟩ | exact qI_nf ⟨(f9).trans (f14), trivial⟩
    · exact zok_th (by decide) (f9)
  · exact zok_th (by decide) (FrC.refl hR)
/-! X8_normalise -/
theorem s103 {sh : zSh} {T MB : Nat} (F : zCl sh T MB) {r0 : Nat} (q0 : zLL sh T MB r0) {x1 : Int} (u1 : -2147483648 ≤ x1 ∧ x1 ≤ 2147483647) {x2 : Int} (u2 : -2147483648 ≤ x2 ∧ x2 ≤ 2147483647) {x3 : Int} (u3 : -2147483648 ≤ x3 ∧ x3 ≤ 2147483647) {t : zSt} (hR : RS sh t) : zok (zcl zP 103 [zR r0, zI (oI x1), zI (oI x2), zI (oI x3)] (sh, t)) (zqE (qI (fun x t' => FrC sh T MB t t' ∧ (True)) sh) [2, 0, 3] (fun t' => FrC sh T MB t t') sh) := by
  have ha0 : (sk sh (sr sh r0 3)).2 = 8 := by rw [q0.2.2.2.2.2.1.1]
  rw [b103_0]
  try simp only [zput_s, zput_n, ti_g, oI_add, oI_sub, oI_mul]
  refine zok_ck ((q0).1) ?_
  refine zok_qR (s113 F (q0) (by omega) (hR)) (fun E t' hE hX => ⟨by simp only [List.mem_cons, List.not_mem_nil, or_false] at hE ⊢; omega, by rw [hX.1]; exact FrC.refl hR⟩) (fun y2 p2 => ?_)
  have hq2_4 := p2.2 4 (by decide)
  have hr2_4 := And.intro (Ne.symm hq2_4.1) (Ne.symm hq2_4.2)
  have hq2_5 := p2.2 5 (by decide)
  have hr2_5 := And.intro (Ne.symm hq2_5.1) (Ne.symm hq2_5.2)
  simp only [zput_s, zput_n, ti_g, oI_add, oI_sub, oI_mul, b103_5]
  try simp only [zput_s, zput_n, ti_g, oI_add, oI_sub, oI_mul]
  refine zok_ck ((q0).1) ?_
  refine zok_qR (s113 F (q0) (by omega) (hR)) (fun E t' hE hX => ⟨by simp only [List.mem_cons, List.not_mem_nil, or_false] at hE ⊢; omega, by rw [hX.1]; exact FrC.refl hR⟩) (fun y4 p4 => ?_)
  have hq4_4 := p4.2 4 (by decide)
  have hr4_4 := And.intro (Ne.symm hq4_4.1) (Ne.symm hq4_4.2)
  have hq4_5 := p4.2 5 (by decide)
  have hr4_5 := And.intro (Ne.symm hq4_5.1) (Ne.symm hq4_5.2)
  simp only [zput_s, zput_n, ti_g, oI_add, oI_sub, oI_mul, b103_12]
  try simp only [zput_s, zput_n, ti_g, oI_add, oI_sub, oI_mul]
  refine zok_q0 (s114 F (by omega) (hR)) (fun E t' hE hX => ⟨by simp only [List.mem_cons, List.not_mem_nil, or_false] at hE ⊢; omega, by rw [hX]; exact FrC.refl hR⟩) (fun p6 => ?_)
  simp only [zput_s, zput_n, ti_g, oI_add, oI_sub, oI_mul, b103_18]
  try simp only [zput_s, zput_n, ti_g, oI_add, oI_sub, oI_mul]
  refine zok_ck ((q0).1) ?_
  refine zok_ck ((q0).1) ?_
  refine zok_c0 (s16 F (q0.2.2.2.2.2.2.2.2.2.1) (p4.1) (by omega) (q0.2.2.2.2.2.2.2.2.1) (hR)) (fun t8 p8 => ?_)
  obtain ⟨f8, p8⟩ := p8
  simp only [zput_s, zput_n, ti_g, oI_add, oI_sub, oI_mul, b103_32]
  try simp only [zput_s, zput_n, ti_g, oI_add, oI_sub, oI_mul]
  refine zok_ck ((q0).1) ?_
  refine zok_ck ((q0.2.2.2.2.2.2.2.2.2.1).1) ?_
  refine zok_pI (s27 F (q0.2.2.2.2.2.2.2.2.2.1) ((f8).rs)) (fun y10 u10 p10 => ?_)
  simp only [zput_s, zput_n, ti_g, oI_add, oI_sub, oI_mul, b103_39]
  try simp only [zput_s, zput_n, ti_g, oI_add, oI_sub, oI_mul]
  first | refine zok_le (by omega) (fun c12 => ?_) (fun c12 => ?_) | refine zok_if (fun c12 => ?_) (fun c12 => ?_)
  · refine zok_ck ((q0).1) ?_
    refine zok_ck ((p2.1).1) ?_
    refine zok_c0 (s24 F (p2.1) (q0.2.2.2.2.2.2.2.2.2.1) ((f8).rs)) (fun t13 p13 => ?_)
    obtain ⟨f13, p13⟩ := p13
    simp only [zput_s, zput_n, ti_g, oI_add, oI_sub, oI_mul, b103_62]
    try simp only [zput_s, zput_n, ti_g, oI_add, oI_sub, oI_mul]
    refine zok_ck ((p2.1).1) ?_
    refine zok_pI (s27 F (p2.1) (((f8).trans (f13)).rs)) (fun y15 u15 p15 => ?_)
    simp only [zput_s, zput_n, ti_g, oI_add, oI_sub, oI_mul, b103_67]
    try simp only [zput_s, zput_n, ti_g, oI_add, oI_sub, oI_mul]
    refine zok_l ?_
    first | exact qI_rt (by omega) (by omega) ⟨(f8).trans (f13), trivial⟩ | exact qI_nf ⟨(f8).trans (f13), trivial⟩
  · exact zok_th (by decide) (f8)
/-! X8_relate -/
theorem s104 {sh : zSh} {T MB : Nat} (F : zCl sh T MB) {r0 : Nat} (q0 : zLL sh T MB r0) {x1 : Int} (u1 : -2147483648 ≤ x1 ∧ x1 ≤ 2147483647) {x2 : Int} (u2 : -2147483648 ≤ x2 ∧ x2 ≤ 2147483647) {x3 : Int} (u3 : -2147483648 ≤ x3 ∧ x3 ≤ 2147483647) {t : zSt} (hR : RS sh t) : zok (zcl zP 104 [zR r0, zI (oI x1), zI (oI x2), zI (oI x3)] (sh, t)) (zqE (qI (fun x t' => FrC sh T MB t t' ∧ (True)) sh) [2, 1, 3] (fun t' => FrC sh T MB t t') sh) := by
  have ha0 : (sk sh (sr sh r0 3)).2 = 8 := by rw [q0.2.2.2.2.2.1.1]
  rw [b104_0]
  try simp only [zput_s, zput_n, ti_g, oI_add, oI_sub, oI_mul]
  refine zok_ck ((q0).1) ?_
  refine zok_qR (s113 F (q0) (by omega) (hR)) (fun E t' hE hX => ⟨by simp only [List.mem_cons, List.not_mem_nil, or_false] at hE ⊢; omega, by rw [hX.1]; exact FrC.refl hR⟩) (fun y2 p2 => ?_)
  have hq2_4 := p2.2 4 (by decide)
  have hr2_4 := And.intro (Ne.symm hq2_4.1) (Ne.symm hq2_4.2)
  have hq2_5 := p2.2 5 (by decide)
  have hr2_5 := And.intro (Ne.symm hq2_5.1) (Ne.symm hq2_5.2)
  simp only [zput_s, zput_n, ti_g, oI_add, oI_sub, oI_mul, b104_5]
  try simp only [zput_s, zput_n, ti_g, oI_add, oI_sub, oI_mul]
  refine zok_ck ((q0).1) ?_
  refine zok_qR (s113 F (q0) (by omega) (hR)) (fun E t' hE hX => ⟨by simp only [List.mem_cons, List.not_mem_nil, or_false] at hE ⊢; omega, by rw [hX.1]; exact FrC.refl hR⟩) (fun y4 p4 => ?_)
  have hq4_4 := p4.2 4 (by decide)
  have hr4_4 := And.intro (Ne.symm hq4_4.1) (Ne.symm hq4_4.2)
  have hq4_5 := p4.2 5 (by decide)
  have hr4_5 := And.intro (Ne.symm hq4_5.1) (Ne.symm hq4_5.2)
  simp only [zput_s, zput_n, ti_g, oI_add, oI_sub, oI_mul, b104_12]
  try simp only [zput_s, zput_n, ti_g, oI_add, oI_sub, oI_mul]
  refine zok_ck ((q0).1) ?_
  refine zok_qR (s113 F (q0) (by omega) (hR)) (fun E t' hE hX => ⟨by simp only [List.mem_cons, List.not_mem_nil, or_false] at hE ⊢; omega, by rw [hX.1]; exact FrC.refl hR⟩) (fun y6 p6 => ?_)
  have hq6_4 := p6.2 4 (by decide)
  have hr6_4 := And.intro (Ne.symm hq6_4.1) (Ne.symm hq6_4.2)
  have hq6_5 := p6.2 5 (by decide)
  have hr6_5 := And.intro (Ne.symm hq6_5.1) (Ne.symm hq6_5.2)
  have g7_1 := RS_sz (hR) ((p4.1.2 0 (by decide)).1)
  have g7_2 := RS_sz (hR) ((p6.1.2 0 (by decide)).1)
  simp only [zput_s, zput_n, ti_g, oI_add, oI_sub, oI_mul, b104_19]
  try simp only [zput_s, zput_n, ti_g, oI_add, oI_sub, oI_mul]
  refine zok_ck ((p4.1).1) ?_
  refine zok_ck (((p4.1.2 0 (by decide)).1).1) ?_
  first | refine zok_eq (by omega) (fun c8 => ?_) (fun c8 => ?_) | refine zok_if (fun c8 => ?_) (fun c8 => ?_)
  · exact zok_th (by decide) (FrC.refl hR)
  · refine zok_ck ((p6.1).1) ?_
    refine zok_ck (((p6.1.2 0 (by decide)).1).1) ?_
    first | refine zok_ne (by omega) (fun c9 => ?_) (fun c9 => ?_) | refine zok_if (fun c9 => ?_) (fun c9 => ?_)
    · refine zok_ck ((q0).1) ?_
      refine zok_cI (s116 F (q0) (p4.1) (p6.1) (hR)) (fun y10 t10 u10 p10 => ?_)
      obtain ⟨f10, p10⟩ := p10
      simp only [zput_s, zput_n, ti_g, oI_add, oI_sub, oI_mul, b104_59]
      try simp only [zput_s, zput_n, ti_g, oI_add, oI_sub, oI_mul]
      first | refine zok_ne (by omega) (fun c12 => ?_) (fun c12 => ?_) | refine zok_if (fun c12 => ?_) (fun c12 => ?_)
      · refine zok_ck ((q0).1) ?_
        refine zok_c0 (s49 F (q0.2.2.2.2.2.2.2.2.2.2.1) (by omega) (p4.1) (p6.1) ((f10).rs)) (fun t13 p13 => ?_)
        obtain ⟨f13, p13⟩ := p13
        simp only [zput_s, zput_n, ti_g, oI_add, oI_sub, oI_mul, b104_88]
        try simp only [zput_s, zput_n, ti_g, oI_add, oI_sub, oI_mul]
        refine zok_ck ((q0).1) ?_
        refine zok_ck ((p2.1).1) ?_
        refine zok_c0 (s24 F (p2.1) (q0.2.2.2.2.2.2.2.2.2.2.1) (((f10).trans (f13)).rs)) (fun t15 p15 => ?_)
        obtain ⟨f15, p15⟩ := p15
        simp only [zput_s, zput_n, ti_g, oI_add, oI_sub, oI_mul, b104_97]
        try simp only [zput_s, zput_n, ti_g, oI_add, oI_sub, oI_mul]
        refine zok_ck ((p2.1).1) ?_
        refine zok_pI (s27 F (p2.1) ((((f10).trans (f13)).trans (f15)).rs)) (fun y17 u17 p17 => ?_)
        simp only [zput_s, zput_n, ti_g, oI_add, oI_sub, oI_mul, b104_102]
        try simp only [zput_s, zput_n, ti_g, oI_add, oI_sub, oI_mul]
        refine zok_l ?_
        first | exact qI_rt (by omega) (by omega) ⟨((f10).trans (f13)).trans (f15), trivial⟩ | exact qI_nf ⟨((f10).trans (f13)).trans (f15), trivial⟩
      · exact zok_th (by decide) (f10)
    · exact zok_th (by decide) (FrC.refl hR)
/-! X8_same -/
theorem s105 {sh : zSh} {T MB : Nat} (F : zCl sh T MB) {r0 : Nat} (q0 : zLL sh T MB r0) {x1 : Int} (u1 : -2147483648 ≤ x1 ∧ x1 ≤ 2147483647) {x2 : Int} (u2 : -2147483648 ≤ x2 ∧ x2 ≤ 2147483647) {x3 : Int} (u3 : -2147483648 ≤ x3 ∧ x3 ≤ 2147483647) {t : zSt} (hR : RS sh t) : zok (zcl zP 105 [zR r0, zI (oI x1), zI (oI x2), zI (oI x3)] (sh, t)) (zqE (qI (fun x t' => FrC sh T MB t t' ∧ (x = 0 ∨ x = 1)) sh) [2, 0] (fun t' => FrC sh T MB t t') sh) := by
  have ha0 : (sk sh (sr sh r0 3)).2 = 8 := by rw [q0.2.2.2.2.2.1.1]
  rw [b105_0]
  try simp only [zput_s, zput_n, ti_g, oI_add, oI_sub, oI_mul]
  refine zok_ck ((q0).1) ?_
  refine zok_qR (s113 F (q0) (by omega) (hR)) (fun E t' hE hX => ⟨by simp only [List.mem_cons, List.not_mem_nil, or_false] at hE ⊢; omega, by rw [hX.1]; exact FrC.refl hR⟩) (fun y2 p2 => ?_)
  have hq2_4 := p2.2 4 (by decide)
  have hr2_4 := And.intro (Ne.symm hq2_4.1) (Ne.symm hq2_4.2)
  have hq2_5 := p2.2 5 (by decide)
  have hr2_5 := And.intro (Ne.symm hq2_5.1) (Ne.symm hq2_5.2)
  simp only [zput_s, zput_n, ti_g, oI_add, oI_sub, oI_mul, b105_5]
  try simp only [zput_s, zput_n, ti_g, oI_add, oI_sub, oI_mul]
  refine zok_ck ((q0).1) ?_
  refine zok_qR (s113 F (q0) (by omega) (hR)) (fun E t' hE hX => ⟨by simp only [List.mem_cons, List.not_mem_nil, or_false] at hE ⊢; omega, by rw [hX.1]; exact FrC.refl hR⟩) (fun y4 p4 => ?_)
  have hq4_4 := p4.2 4 (by decide)
  have hr4_4 := And.intro (Ne.symm hq4_4.1) (Ne.symm hq4_4.2)
  have hq4_5 := p4.2 5 (by decide)
  have hr4_5 := And.intro (Ne.symm hq4_5.1) (Ne.symm hq4_5.2)
  simp only [zput_s, zput_n, ti_g, oI_add, oI_sub, oI_mul, b105_12]
  try simp only [zput_s, zput_n, ti_g, oI_add, oI_sub, oI_mul]
  refine zok_q0 (s114 F (by omega) (hR)) (fun E t' hE hX => ⟨by simp only [List.mem_cons, List.not_mem_nil, or_false] at hE ⊢; omega, by rw [hX]; exact FrC.refl hR⟩) (fun p6 => ?_)
  simp only [zput_s, zput_n, ti_g, oI_add, oI_sub, oI_mul, b105_18]
  try simp only [zput_s, zput_n, ti_g, oI_add, oI_sub, oI_mul]
  refine zok_ck ((q0).1) ?_
  refine zok_ck ((q0).1) ?_
  refine zok_c0 (s16 F (q0.2.2.2.2.2.2.2.2.2.1) (p2.1) (by omega) (q0.2.2.2.2.2.2.2.2.1) (hR)) (fun t8 p8 => ?_)
  obtain ⟨f8, p8⟩ := p8
  simp only [zput_s, zput_n, ti_g, oI_add, oI_sub, oI_mul, b105_32]
  try simp only [zput_s, zput_n, ti_g, oI_add, oI_sub, oI_mul]
  refine zok_ck ((q0).1) ?_
  refine zok_ck ((q0).1) ?_
  refine zok_c0 (s16 F (q0.2.2.2.2.2.2.2.2.2.2.2) (p4.1) (by omega) (q0.2.2.2.2.2.2.2.2.1) ((f8).rs)) (fun t10 p10 => ?_)
  obtain ⟨f10, p10⟩ := p10
  simp only [zput_s, zput_n, ti_g, oI_add, oI_sub, oI_mul, b105_46]
  try simp only [zput_s, zput_n, ti_g, oI_add, oI_sub, oI_mul]
  refine zok_ck ((q0).1) ?_
  refine zok_ck ((q0).1) ?_
  refine zok_ck ((q0.2.2.2.2.2.2.2.2.2.1).1) ?_
  refine zok_pI (s26 F (q0.2.2.2.2.2.2.2.2.2.1) (q0.2.2.2.2.2.2.2.2.2.2.2) (((f8).trans (f10)).rs)) (fun y12 u12 p12 => ?_)
  simp only [zput_s, zput_n, ti_g, oI_add, oI_sub, oI_mul, b105_57]
  try simp only [zput_s, zput_n, ti_g, oI_add, oI_sub, oI_mul]
  refine zok_ck (by first | exact fun _ => bool_p (by omega) | exact bool_p (by omega)) ?_
  refine zok_l ?_
  first | exact qI_rt (by omega) (by omega) ⟨(f8).trans (f10), by omega⟩ | exact qI_nf ⟨(f8).trans (f10), by omega⟩
/-! X8_segments -/
theorem s106 {sh : zSh} {T MB : Nat} (F : zCl sh T MB) {r0 : Nat} (q0 : zLL sh T MB r0) {x1 : Int} (u1 : -2147483648 ≤ x1 ∧ x1 ≤ 2147483647) {t : zSt} (hR : RS sh t) : zok (zcl zP 106 [zR r0, zI (oI x1)] (sh, t)) (zqE (qI (fun x t' => FrC sh T MB t t' ∧ (True)) sh) [2] (fun t' => FrC sh T MB t t') sh) := by
  have ha0 : (sk sh (sr sh r0 3)).2 = 8 := by rw [q0.2.2.2.2.2.1.1]
  rw [b106_0]
  try simp only [zput_s, zput_n, ti_g, oI_add, oI_sub, oI_mul]
  refine zok_ck ((q0).1) ?_
  refine zok_qR (s113 F (q0) (by omega) (hR)) (fun E t' hE hX => ⟨by simp only [List.mem_cons, List.not_mem_nil, or_false] at hE ⊢; omega, by rw [hX.1]; exact FrC.refl hR⟩) (fun y2 p2 => ?_)
  have hq2_4 := p2.2 4 (by decide)
  have hr2_4 := And.intro (Ne.symm hq2_4.1) (Ne.symm hq2_4.2)
  have hq2_5 := p2.2 5 (by decide)
  have hr2_5 := And.intro (Ne.symm hq2_5.1) (Ne.symm hq2_5.2)
  simp only [zput_s, zput_n, ti_g, oI_add, oI_sub, oI_mul, b106_5]
  try simp only [zput_s, zput_n, ti_g, oI_add, oI_sub, oI_mul]
  refine zok_ck ((p2.1).1) ?_
  refine zok_pI (s32 F (p2.1) (hR)) (fun y4 u4 p4 => ?_)
  simp only [zput_s, zput_n, ti_g, oI_add, oI_sub, oI_mul, b106_8]
  try simp only [zput_s, zput_n, ti_g, oI_add, oI_sub, oI_mul]
  refine zok_l ?_
  first | exact qI_rt (by omega) (by omega) ⟨FrC.refl hR, trivial⟩ | exact qI_nf ⟨FrC.refl hR, trivial⟩
/-! X8_segment -/
theorem s107 {sh : zSh} {T MB : Nat} (F : zCl sh T MB) {r0 : Nat} (q0 : zLL sh T MB r0) {x1 : Int} (u1 : -2147483648 ≤ x1 ∧ x1 ≤ 2147483647) {x2 : Int} (u2 : -2147483648 ≤ x2 ∧ x2 ≤ 2147483647) {t : zSt} (hR : RS sh t) : zok (zcl zP 107 [zR r0, zI (oI x1), zI (oI x2)] (sh, t)) (zqE (qI (fun x t' => FrC sh T MB t t' ∧ (True)) sh) [2, 0] (fun t' => FrC sh T MB t t') sh) := by
  have ha0 : (sk sh (sr sh r0 3)).2 = 8 := by rw [q0.2.2.2.2.2.1.1]
  rw [b107_0]
  try simp only [zput_s, zput_n, ti_g, oI_add, oI_sub, oI_mul]
  refine zok_ck ((q0).1) ?_
  refine zok_qR (s113 F (q0) (by omega) (hR)) (fun E t' hE hX => ⟨by simp only [List.mem_cons, List.not_mem_nil, or_false] at hE ⊢; omega, by rw [hX.1]; exact FrC.refl hR⟩) (fun y2 p2 => ?_)
  have hq2_4 := p2.2 4 (by decide)
  have hr2_4 := And.intro (Ne.symm hq2_4.1) (Ne.symm hq2_4.2)
  have hq2_5 := p2.2 5 (by decide)
  have hr2_5 := And.intro (Ne.symm hq2_5.1) (Ne.symm hq2_5.2)
  simp only [zput_s, zput_n, ti_g, oI_add, oI_sub, oI_mul, b107_5]
  try simp only [zput_s, zput_n, ti_g, oI_add, oI_sub, oI_mul]
  first | refine zok_lt (by omega) (fun c4 => ?_) (fun c4 => ?_) | refine zok_if (fun c4 => ?_) (fun c4 => ?_)
  · exact zok_th (by decide) (FrC.refl hR)
  · refine zok_ck ((p2.1).1) ?_
    refine zok_pI (s32 F (p2.1) (hR)) (fun y5 u5 p5 => ?_)
    simp only [zput_s, zput_n, ti_g, oI_add, oI_sub, oI_mul, b107_15]
    try simp only [zput_s, zput_n, ti_g, oI_add, oI_sub, oI_mul]
    first | refine zok_lt (by omega) (fun c7 => ?_) (fun c7 => ?_) | refine zok_if (fun c7 => ?_) (fun c7 => ?_)
    · refine zok_ck ((p2.1).1) ?_
      refine zok_ck (((p2.1.2 4 (by decide)).1).1) ?_
      refine zok_pI (s57 ((p2.1.2 4 (by decide)).1) (by omega) (hR)) (fun y8 u8 p8 => ?_)
      simp only [zput_s, zput_n, ti_g, oI_add, oI_sub, oI_mul, b107_43]
      try simp only [zput_s, zput_n, ti_g, oI_add, oI_sub, oI_mul]
      first | refine zok_ne (by omega) (fun c10 => ?_) (fun c10 => ?_) | refine zok_if (fun c10 => ?_) (fun c10 => ?_)
      · refine zok_ck (((p2.1.2 4 (by decide)).1).1) ?_
        refine zok_pI (s71 ((p2.1.2 4 (by decide)).1) (by omega) (by omega) (by omega) (by omega) (hR)) (fun y11 u11 p11 => ?_)
        simp only [zput_s, zput_n, ti_g, oI_add, oI_sub, oI_mul, b107_56]
        try simp only [zput_s, zput_n, ti_g, oI_add, oI_sub, oI_mul]
        refine zok_ck ((q0).1) ?_
        refine zok_ck (((q0.2.2.2.2.1).1).1) ?_
        refine zok_c0 (s62 ((q0.2.2.2.2.1).1) (hR)) (fun t13 p13 => ?_)
        obtain ⟨f13, p13⟩ := p13
        have g14_1 := RS_sz (((f13).toC F (q0.2.2.2.2.1)).rs) ((p2.1.2 4 (by decide)).1)
        simp only [zput_s, zput_n, ti_g, oI_add, oI_sub, oI_mul, b107_65]
        try simp only [zput_s, zput_n, ti_g, oI_add, oI_sub, oI_mul]
        refine zok_ck ((q0).1) ?_
        refine zok_ck (((p2.1.2 4 (by decide)).1).1) ?_
        refine zok_ck (((p2.1.2 4 (by decide)).1).1) ?_
        refine zok_pI (s68 ((p2.1.2 4 (by decide)).1) (by omega) (by omega) (by omega) (by omega) (((f13).toC F (q0.2.2.2.2.1)).rs)) (fun y15 u15 p15 => ?_)
        simp only [zput_s, zput_n, ti_g, oI_add, oI_sub, oI_mul, b107_87]
        try simp only [zput_s, zput_n, ti_g, oI_add, oI_sub, oI_mul]
        refine zok_ck (((q0.2.2.2.2.1).1).1) ?_
        refine zok_c0 (s73 ((q0.2.2.2.2.1).1) ((p2.1.2 4 (by decide)).1) (by omega) (by omega) (by first | omega | assumption | exact And.left (by assumption) | exact And.right (by assumption)) (by first | omega | assumption | exact And.left (by assumption) | exact And.right (by assumption)) (((f13).toC F (q0.2.2.2.2.1)).rs)) (fun t17 p17 => ?_)
        obtain ⟨f17, p17⟩ := p17
        have g18_1 := RS_sz ((((f13).toC F (q0.2.2.2.2.1)).trans ((f17).toC F (q0.2.2.2.2.1))).rs) ((q0.2.2.2.2.1).1)
        simp only [zput_s, zput_n, ti_g, oI_add, oI_sub, oI_mul, b107_90]
        try simp only [zput_s, zput_n, ti_g, oI_add, oI_sub, oI_mul]
        refine zok_ck ((q0).1) ?_
        refine zok_ck (((q0.2.2.2.2.1).1).1) ?_
        refine zok_l ?_
        first | exact qI_rt (by omega) (by omega) ⟨((f13).toC F (q0.2.2.2.2.1)).trans ((f17).toC F (q0.2.2.2.2.1)), trivial⟩ | exact qI_nf ⟨((f13).toC F (q0.2.2.2.2.1)).trans ((f17).toC F (q0.2.2.2.2.1)), trivial⟩
      · refine zok_ck (((p2.1.2 4 (by decide)).1).1) ?_
        refine zok_pI (s71 ((p2.1.2 4 (by decide)).1) (by omega) (by omega) (by omega) (by omega) (hR)) (fun y19 u19 p19 => ?_)
        simp only [zput_s, zput_n, ti_g, oI_add, oI_sub, oI_mul, b107_56]
        try simp only [zput_s, zput_n, ti_g, oI_add, oI_sub, oI_mul]
        refine zok_ck ((q0).1) ?_
        refine zok_ck (((q0.2.2.2.2.1).1).1) ?_
        refine zok_c0 (s62 ((q0.2.2.2.2.1).1) (hR)) (fun t21 p21 => ?_)
        obtain ⟨f21, p21⟩ := p21
        have g22_1 := RS_sz (((f21).toC F (q0.2.2.2.2.1)).rs) ((p2.1.2 4 (by decide)).1)
        simp only [zput_s, zput_n, ti_g, oI_add, oI_sub, oI_mul, b107_65]
        try simp only [zput_s, zput_n, ti_g, oI_add, oI_sub, oI_mul]
        refine zok_ck ((q0).1) ?_
        refine zok_ck (((p2.1.2 4 (by decide)).1).1) ?_
        refine zok_ck (((p2.1.2 4 (by decide)).1).1) ?_
        refine zok_pI (s68 ((p2.1.2 4 (by decide)).1) (by omega) (by omega) (by omega) (by omega) (((f21).toC F (q0.2.2.2.2.1)).rs)) (fun y23 u23 p23 => ?_)
        simp only [zput_s, zput_n, ti_g, oI_add, oI_sub, oI_mul, b107_87]
        try simp only [zput_s, zput_n, ti_g, oI_add, oI_sub, oI_mul]
        refine zok_ck (((q0.2.2.2.2.1).1).1) ?_
        refine zok_c0 (s73 ((q0.2.2.2.2.1).1) ((p2.1.2 4 (by decide)).1) (by omega) (by omega) (by first | omega | assumption | exact And.left (by assumption) | exact And.right (by assumption)) (by first | omega | assumption | exact And.left (by assumption) | exact And.right (by assumption)) (((f21).toC F (q0.2.2.2.2.1)).rs)) (fun t25 p25 => ?_)
        obtain ⟨f25, p25⟩ := p25
        have g26_1 := RS_sz ((((f21).toC F (q0.2.2.2.2.1)).trans ((f25).toC F (q0.2.2.2.2.1))).rs) ((q0.2.2.2.2.1).1)
        simp only [zput_s, zput_n, ti_g, oI_add, oI_sub, oI_mul, b107_90]
        try simp only [zput_s, zput_n, ti_g, oI_add, oI_sub, oI_mul]
        refine zok_ck ((q0).1) ?_
        refine zok_ck (((q0.2.2.2.2.1).1).1) ?_
        refine zok_l ?_
        first | exact qI_rt (by omega) (by omega) ⟨((f21).toC F (q0.2.2.2.2.1)).trans ((f25).toC F (q0.2.2.2.2.1)), trivial⟩ | exact qI_nf ⟨((f21).toC F (q0.2.2.2.2.1)).trans ((f25).toC F (q0.2.2.2.2.1)), trivial⟩
    · exact zok_th (by decide) (FrC.refl hR)
/-! X8_ascend -/
theorem s109 {sh : zSh} {T MB : Nat} (F : zCl sh T MB) {r0 : Nat} (q0 : zLL sh T MB r0) {x1 : Int} (u1 : -2147483648 ≤ x1 ∧ x1 ≤ 2147483647) {t : zSt} (hR : RS sh t) : zok (zcl zP 109 [zR r0, zI (oI x1)] (sh, t)) (zqE (qI (fun x t' => FrC sh T MB t t' ∧ (True)) sh) [2] (fun t' => FrC sh T MB t t') sh) := by
  have ha0 : (sk sh (sr sh r0 3)).2 = 8 := by rw [q0.2.2.2.2.2.1.1]
  rw [b109_0]
  try simp only [zput_s, zput_n, ti_g, oI_add, oI_sub, oI_mul]
  refine zok_ck ((q0).1) ?_
  refine zok_qR (s113 F (q0) (by omega) (hR)) (fun E t' hE hX => ⟨by simp only [List.mem_cons, List.not_mem_nil, or_false] at hE ⊢; omega, by rw [hX.1]; exact FrC.refl hR⟩) (fun y2 p2 => ?_)
  have hq2_4 := p2.2 4 (by decide)
  have hr2_4 := And.intro (Ne.symm hq2_4.1) (Ne.symm hq2_4.2)
  have hq2_5 := p2.2 5 (by decide)
  have hr2_5 := And.intro (Ne.symm hq2_5.1) (Ne.symm hq2_5.2)
  have g3_1 := RS_sz (hR) ((p2.1.2 4 (by decide)).1)
  simp only [zput_s, zput_n, ti_g, oI_add, oI_sub, oI_mul, b109_5]
  try simp only [zput_s, zput_n, ti_g, oI_add, oI_sub, oI_mul]
  refine zok_ck ((p2.1).1) ?_
  refine zok_ck (((p2.1.2 4 (by decide)).1).1) ?_
  refine zok_ck (((p2.1.2 4 (by decide)).1).1) ?_
  refine zok_pI (s69 ((p2.1.2 4 (by decide)).1) (by omega) (by omega) (by omega) (by omega) (by omega) (hR)) (fun y4 u4 p4 => ?_)
  have g5_1 := RS_sz (hR) ((p2.1.2 4 (by decide)).1)
  simp only [zput_s, zput_n, ti_g, oI_add, oI_sub, oI_mul, b109_22]
  try simp only [zput_s, zput_n, ti_g, oI_add, oI_sub, oI_mul]
  refine zok_ck (((p2.1.2 4 (by decide)).1).1) ?_
  first | refine zok_ne (by omega) (fun c6 => ?_) (fun c6 => ?_) | refine zok_if (fun c6 => ?_) (fun c6 => ?_)
  · first | refine zok_ne (by omega) (fun c7 => ?_) (fun c7 => ?_) | refine zok_if (fun c7 => ?_) (fun c7 => ?_)
    · refine zok_ck (((p2.1.2 4 (by decide)).1).1) ?_
      refine zok_c0 (s63 ((p2.1.2 4 (by decide)).1) (by omega) (hR)) (fun t8 p8 => ?_)
      obtain ⟨f8, p8⟩ := p8
      simp only [zput_s, zput_n, ti_g, oI_add, oI_sub, oI_mul, b109_76]
      try simp only [zput_s, zput_n, ti_g, oI_add, oI_sub, oI_mul]
      refine zok_ck ((p2.1).1) ?_
      refine zok_pI (s27 F (p2.1) (((f8).toC F (p2.1.2 4 (by decide))).rs)) (fun y10 u10 p10 => ?_)
      simp only [zput_s, zput_n, ti_g, oI_add, oI_sub, oI_mul, b109_80]
      try simp only [zput_s, zput_n, ti_g, oI_add, oI_sub, oI_mul]
      refine zok_l ?_
      first | exact qI_rt (by omega) (by omega) ⟨(f8).toC F (p2.1.2 4 (by decide)), trivial⟩ | exact qI_nf ⟨(f8).toC F (p2.1.2 4 (by decide)), trivial⟩
    · refine zok_ck (((p2.1.2 4 (by decide)).1).1) ?_
      refine zok_pI (s57 ((p2.1.2 4 (by decide)).1) (by omega) (hR)) (fun y12 u12 p12 => ?_)
      simp only [zput_s, zput_n, ti_g, oI_add, oI_sub, oI_mul, b109_62]
      try simp only [zput_s, zput_n, ti_g, oI_add, oI_sub, oI_mul]
      first | refine zok_ne (by omega) (fun c14 => ?_) (fun c14 => ?_) | refine zok_if (fun c14 => ?_) (fun c14 => ?_)
      · refine zok_ck (((p2.1.2 4 (by decide)).1).1) ?_
        refine zok_c0 (s63 ((p2.1.2 4 (by decide)).1) (by omega) (hR)) (fun t15 p15 => ?_)
        obtain ⟨f15, p15⟩ := p15
        simp only [zput_s, zput_n, ti_g, oI_add, oI_sub, oI_mul, b109_76]
        try simp only [zput_s, zput_n, ti_g, oI_add, oI_sub, oI_mul]
        refine zok_ck ((p2.1).1) ?_
        refine zok_pI (s27 F (p2.1) (((f15).toC F (p2.1.2 4 (by decide))).rs)) (fun y17 u17 p17 => ?_)
        simp only [zput_s, zput_n, ti_g, oI_add, oI_sub, oI_mul, b109_80]
        try simp only [zput_s, zput_n, ti_g, oI_add, oI_sub, oI_mul]
        refine zok_l ?_
        first | exact qI_rt (by omega) (by omega) ⟨(f15).toC F (p2.1.2 4 (by decide)), trivial⟩ | exact qI_nf ⟨(f15).toC F (p2.1.2 4 (by decide)), trivial⟩
      · refine zok_ck (((p2.1.2 4 (by decide)).1).1) ?_
        refine zok_c0 (s63 ((p2.1.2 4 (by decide)).1) (by omega) (hR)) (fun t19 p19 => ?_)
        obtain ⟨f19, p19⟩ := p19
        simp only [zput_s, zput_n, ti_g, oI_add, oI_sub, oI_mul, b109_76]
        try simp only [zput_s, zput_n, ti_g, oI_add, oI_sub, oI_mul]
        refine zok_ck ((p2.1).1) ?_
        refine zok_pI (s27 F (p2.1) (((f19).toC F (p2.1.2 4 (by decide))).rs)) (fun y21 u21 p21 => ?_)
        simp only [zput_s, zput_n, ti_g, oI_add, oI_sub, oI_mul, b109_80]
        try simp only [zput_s, zput_n, ti_g, oI_add, oI_sub, oI_mul]
        refine zok_l ?_
        first | exact qI_rt (by omega) (by omega) ⟨(f19).toC F (p2.1.2 4 (by decide)), trivial⟩ | exact qI_nf ⟨(f19).toC F (p2.1.2 4 (by decide)), trivial⟩
  · refine zok_ck (((p2.1.2 4 (by decide)).1).1) ?_
    refine zok_pI (s69 ((p2.1.2 4 (by decide)).1) (by omega) (by omega) (by omega) (by omega) (by omega) (hR)) (fun y23 u23 p23 => ?_)
    simp only [zput_s, zput_n, ti_g, oI_add, oI_sub, oI_mul, b109_48]
    try simp only [zput_s, zput_n, ti_g, oI_add, oI_sub, oI_mul]
    first | refine zok_ne (by omega) (fun c25 => ?_) (fun c25 => ?_) | refine zok_if (fun c25 => ?_) (fun c25 => ?_)
    · refine zok_ck (((p2.1.2 4 (by decide)).1).1) ?_
      refine zok_c0 (s63 ((p2.1.2 4 (by decide)).1) (by omega) (hR)) (fun t26 p26 => ?_)
      obtain ⟨f26, p26⟩ := p26
      simp only [zput_s, zput_n, ti_g, oI_add, oI_sub, oI_mul, b109_76]
      try simp only [zput_s, zput_n, ti_g, oI_add, oI_sub, oI_mul]
      refine zok_ck ((p2.1).1) ?_
      refine zok_pI (s27 F (p2.1) (((f26).toC F (p2.1.2 4 (by decide))).rs)) (fun y28 u28 p28 => ?_)
      simp only [zput_s, zput_n, ti_g, oI_add, oI_sub, oI_mul, b109_80]
      try simp only [zput_s, zput_n, ti_g, oI_add, oI_sub, oI_mul]
      refine zok_l ?_
      first | exact qI_rt (by omega) (by omega) ⟨(f26).toC F (p2.1.2 4 (by decide)), trivial⟩ | exact qI_nf ⟨(f26).toC F (p2.1.2 4 (by decide)), trivial⟩
    · refine zok_ck (((p2.1.2 4 (by decide)).1).1) ?_
      refine zok_pI (s57 ((p2.1.2 4 (by decide)).1) (by omega) (hR)) (fun y30 u30 p30 => ?_)
      simp only [zput_s, zput_n, ti_g, oI_add, oI_sub, oI_mul, b109_62]
      try simp only [zput_s, zput_n, ti_g, oI_add, oI_sub, oI_mul]
      first | refine zok_ne (by omega) (fun c32 => ?_) (fun c32 => ?_) | refine zok_if (fun c32 => ?_) (fun c32 => ?_)
      · refine zok_ck (((p2.1.2 4 (by decide)).1).1) ?_
        refine zok_c0 (s63 ((p2.1.2 4 (by decide)).1) (by omega) (hR)) (fun t33 p33 => ?_)
        obtain ⟨f33, p33⟩ := p33
        simp only [zput_s, zput_n, ti_g, oI_add, oI_sub, oI_mul, b109_76]
        try simp only [zput_s, zput_n, ti_g, oI_add, oI_sub, oI_mul]
        refine zok_ck ((p2.1).1) ?_
        refine zok_pI (s27 F (p2.1) (((f33).toC F (p2.1.2 4 (by decide))).rs)) (fun y35 u35 p35 => ?_)
        simp only [zput_s, zput_n, ti_g, oI_add, oI_sub, oI_mul, b109_80]
        try simp only [zput_s, zput_n, ti_g, oI_add, oI_sub, oI_mul]
        refine zok_l ?_
        first | exact qI_rt (by omega) (by omega) ⟨(f33).toC F (p2.1.2 4 (by decide)), trivial⟩ | exact qI_nf ⟨(f33).toC F (p2.1.2 4 (by decide)), trivial⟩
      · refine zok_ck (((p2.1.2 4 (by decide)).1).1) ?_
        refine zok_c0 (s63 ((p2.1.2 4 (by decide)).1) (by omega) (hR)) (fun t37 p37 => ?_)
        obtain ⟨f37, p37⟩ := p37
        simp only [zput_s, zput_n, ti_g, oI_add, oI_sub, oI_mul, b109_76]
        try simp only [zput_s, zput_n, ti_g, oI_add, oI_sub, oI_mul]
        refine zok_ck ((p2.1).1) ?_
        refine zok_pI (s27 F (p2.1) (((f37).toC F (p2.1.2 4 (by decide))).rs)) (fun y39 u39 p39 => ?_)
        simp only [zput_s, zput_n, ti_g, oI_add, oI_sub, oI_mul, b109_80]
        try simp only [zput_s, zput_n, ti_g, oI_add, oI_sub, oI_mul]
        refine zok_l ?_
        first | exact qI_rt (by omega) (by omega) ⟨(f37).toC F (p2.1.2 4 (by decide)), trivial⟩ | exact qI_nf ⟨(f37).toC F (p2.1.2 4 (by decide)), trivial⟩
/-! X8_pairs -/
theorem s110 {sh : zSh} {T MB : Nat} (F : zCl sh T MB) {r0 : Nat} (q0 : zLL sh T MB r0) {x1 : Int} (u1 : -2147483648 ≤ x1 ∧ x1 ≤ 2147483647) {t : zSt} (hR : RS sh t) : zok (zcl zP 110 [zR r0, zI (oI x1)] (sh, t)) (zqE (qI (fun x t' => FrC sh T MB t t' ∧ (True)) sh) [2] (fun t' => FrC sh T MB t t') sh) := by
  have ha0 : (sk sh (sr sh r0 3)).2 = 8 := by rw [q0.2.2.2.2.2.1.1]
  rw [b110_0]
  try simp only [zput_s, zput_n, ti_g, oI_add, oI_sub, oI_mul]
  refine zok_ck ((q0).1) ?_
  refine zok_qR (s113 F (q0) (by omega) (hR)) (fun E t' hE hX => ⟨by simp only [List.mem_cons, List.not_mem_nil, or_false] at hE ⊢; omega, by rw [hX.1]; exact FrC.refl hR⟩) (fun y2 p2 => ?_)
  have hq2_4 := p2.2 4 (by decide)
  have hr2_4 := And.intro (Ne.symm hq2_4.1) (Ne.symm hq2_4.2)
  have hq2_5 := p2.2 5 (by decide)
  have hr2_5 := And.intro (Ne.symm hq2_5.1) (Ne.symm hq2_5.2)
  simp only [zput_s, zput_n, ti_g, oI_add, oI_sub, oI_mul, b110_5]
  try simp only [zput_s, zput_n, ti_g, oI_add, oI_sub, oI_mul]
  refine zok_ck ((p2.1).1) ?_
  refine zok_pI (s33 F (p2.1) (hR)) (fun y4 u4 p4 => ?_)
  simp only [zput_s, zput_n, ti_g, oI_add, oI_sub, oI_mul, b110_8]
  try simp only [zput_s, zput_n, ti_g, oI_add, oI_sub, oI_mul]
  refine zok_l ?_
  first | exact qI_rt (by omega) (by omega) ⟨FrC.refl hR, trivial⟩ | exact qI_nf ⟨FrC.refl hR, trivial⟩
/-! X8_pair -/
theorem s111 {sh : zSh} {T MB : Nat} (F : zCl sh T MB) {r0 : Nat} (q0 : zLL sh T MB r0) {x1 : Int} (u1 : -2147483648 ≤ x1 ∧ x1 ≤ 2147483647) {x2 : Int} (u2 : -2147483648 ≤ x2 ∧ x2 ≤ 2147483647) {x3 : Int} (u3 : -2147483648 ≤ x3 ∧ x3 ≤ 2147483647) {t : zSt} (hR : RS sh t) : zok (zcl zP 111 [zR r0, zI (oI x1), zI (oI x2), zI (oI x3)] (sh, t)) (zqE (qI (fun x t' => FrC sh T MB t t' ∧ (True)) sh) [2, 0] (fun t' => FrC sh T MB t t') sh) := by
  have ha0 : (sk sh (sr sh r0 3)).2 = 8 := by rw [q0.2.2.2.2.2.1.1]
  rw [b111_0]
  try simp only [zput_s, zput_n, ti_g, oI_add, oI_sub, oI_mul]
  refine zok_ck ((q0).1) ?_
  refine zok_qR (s113 F (q0) (by omega) (hR)) (fun E t' hE hX => ⟨by simp only [List.mem_cons, List.not_mem_nil, or_false] at hE ⊢; omega, by rw [hX.1]; exact FrC.refl hR⟩) (fun y2 p2 => ?_)
  have hq2_4 := p2.2 4 (by decide)
  have hr2_4 := And.intro (Ne.symm hq2_4.1) (Ne.symm hq2_4.2)
  have hq2_5 := p2.2 5 (by decide)
  have hr2_5 := And.intro (Ne.symm hq2_5.1) (Ne.symm hq2_5.2)
  simp only [zput_s, zput_n, ti_g, oI_add, oI_sub, oI_mul, b111_5]
  try simp only [zput_s, zput_n, ti_g, oI_add, oI_sub, oI_mul]
  first | refine zok_lt (by omega) (fun c4 => ?_) (fun c4 => ?_) | refine zok_if (fun c4 => ?_) (fun c4 => ?_)
  · exact zok_th (by decide) (FrC.refl hR)
  · refine zok_ck ((p2.1).1) ?_
    refine zok_pI (s33 F (p2.1) (hR)) (fun y5 u5 p5 => ?_)
    simp only [zput_s, zput_n, ti_g, oI_add, oI_sub, oI_mul, b111_17]
    try simp only [zput_s, zput_n, ti_g, oI_add, oI_sub, oI_mul]
    first | refine zok_lt (by omega) (fun c7 => ?_) (fun c7 => ?_) | refine zok_if (fun c7 => ?_) (fun c7 => ?_)
    · refine zok_ck ((p2.1).1) ?_
      refine zok_ck (((p2.1.2 5 (by decide)).1).1) ?_
      refine zok_pI (s71 ((p2.1.2 5 (by decide)).1) (by omega) (by omega) (by omega) (by omega) (hR)) (fun y8 u8 p8 => ?_)
      have g9_1 := RS_sz (hR) ((p2.1.2 5 (by decide)).1)
      simp only [zput_s, zput_n, ti_g, oI_add, oI_sub, oI_mul, b111_44]
      try simp only [zput_s, zput_n, ti_g, oI_add, oI_sub, oI_mul]
      refine zok_ck (((p2.1.2 5 (by decide)).1).1) ?_
      refine zok_ck (((p2.1.2 5 (by decide)).1).1) ?_
      refine zok_pI (s68 ((p2.1.2 5 (by decide)).1) (by omega) (by omega) (by omega) (by omega) (hR)) (fun y10 u10 p10 => ?_)
      simp only [zput_s, zput_n, ti_g, oI_add, oI_sub, oI_mul, b111_60]
      try simp only [zput_s, zput_n, ti_g, oI_add, oI_sub, oI_mul]
      refine zok_ck (((p2.1.2 5 (by decide)).1).1) ?_
      refine zok_pI (s68 ((p2.1.2 5 (by decide)).1) (by omega) (by omega) (by omega) (by omega) (hR)) (fun y12 u12 p12 => ?_)
      simp only [zput_s, zput_n, ti_g, oI_add, oI_sub, oI_mul, b111_73]
      try simp only [zput_s, zput_n, ti_g, oI_add, oI_sub, oI_mul]
      refine zok_ck ((q0).1) ?_
      refine zok_ck (((q0.2.2.2.2.1).1).1) ?_
      refine zok_c0 (s62 ((q0.2.2.2.2.1).1) (hR)) (fun t14 p14 => ?_)
      obtain ⟨f14, p14⟩ := p14
      simp only [zput_s, zput_n, ti_g, oI_add, oI_sub, oI_mul, b111_82]
      try simp only [zput_s, zput_n, ti_g, oI_add, oI_sub, oI_mul]
      first | refine zok_ne (by omega) (fun c16 => ?_) (fun c16 => ?_) | refine zok_if (fun c16 => ?_) (fun c16 => ?_)
      · refine zok_ck ((q0).1) ?_
        refine zok_ck (((q0.2.2.2.2.1).1).1) ?_
        refine zok_c0 (s73 ((q0.2.2.2.2.1).1) ((p2.1.2 5 (by decide)).1) (by omega) (by omega) (by first | omega | assumption | exact And.left (by assumption) | exact And.right (by assumption)) (by first | omega | assumption | exact And.left (by assumption) | exact And.right (by assumption)) (((f14).toC F (q0.2.2.2.2.1)).rs)) (fun t17 p17 => ?_)
        obtain ⟨f17, p17⟩ := p17
        have g18_1 := RS_sz ((((f14).toC F (q0.2.2.2.2.1)).trans ((f17).toC F (q0.2.2.2.2.1))).rs) ((q0.2.2.2.2.1).1)
        simp only [zput_s, zput_n, ti_g, oI_add, oI_sub, oI_mul, b111_122]
        try simp only [zput_s, zput_n, ti_g, oI_add, oI_sub, oI_mul]
        first | refine zok_le (by omega) (fun c19 => ?_) (fun c19 => ?_) | refine zok_if (fun c19 => ?_) (fun c19 => ?_)
        · refine zok_l ?_
          first | exact qI_rt (by omega) (by omega) ⟨((f14).toC F (q0.2.2.2.2.1)).trans ((f17).toC F (q0.2.2.2.2.1)), trivial⟩ | exact qI_nf ⟨((f14).toC F (q0.2.2.2.2.1)).trans ((f17).toC F (q0.2.2.2.2.1)), trivial⟩
        · refine zok_ck ((q0).1) ?_
          refine zok_ck (((q0.2.2.2.2.1).1).1) ?_
          refine zok_l ?_
          first | exact qI_rt (by omega) (by omega) ⟨((f14).toC F (q0.2.2.2.2.1)).trans ((f17).toC F (q0.2.2.2.2.1)), trivial⟩ | exact qI_nf ⟨((f14).toC F (q0.2.2.2.2.1)).trans ((f17).toC F (q0.2.2.2.2.1)), trivial⟩
      · refine zok_ck ((q0).1) ?_
        refine zok_ck (((q0.2.2.2.2.1).1).1) ?_
        refine zok_c0 (s73 ((q0.2.2.2.2.1).1) ((p2.1.2 5 (by decide)).1) (by omega) (by omega) (by first | omega | assumption | exact And.left (by assumption) | exact And.right (by assumption)) (by first | omega | assumption | exact And.left (by assumption) | exact And.right (by assumption)) (((f14).toC F (q0.2.2.2.2.1)).rs)) (fun t20 p20 => ?_)
        obtain ⟨f20, p20⟩ := p20
        have g21_1 := RS_sz ((((f14).toC F (q0.2.2.2.2.1)).trans ((f20).toC F (q0.2.2.2.2.1))).rs) ((q0.2.2.2.2.1).1)
        simp only [zput_s, zput_n, ti_g, oI_add, oI_sub, oI_mul, b111_99]
        try simp only [zput_s, zput_n, ti_g, oI_add, oI_sub, oI_mul]
        refine zok_ck ((q0).1) ?_
        refine zok_ck (((q0.2.2.2.2.1).1).1) ?_
        refine zok_l ?_
        first | exact qI_rt (by omega) (by omega) ⟨((f14).toC F (q0.2.2.2.2.1)).trans ((f20).toC F (q0.2.2.2.2.1)), trivial⟩ | exact qI_nf ⟨((f14).toC F (q0.2.2.2.2.1)).trans ((f20).toC F (q0.2.2.2.2.1)), trivial⟩
    · exact zok_th (by decide) (FrC.refl hR)
/-! X8_read -/
theorem s95 {sh : zSh} {T MB : Nat} (F : zCl sh T MB) {r0 : Nat} (q0 : zLL sh T MB r0) {x1 : Int} (u1 : -2147483648 ≤ x1 ∧ x1 ≤ 2147483647) {t : zSt} (hR : RS sh t) : zok (zcl zP 95 [zR r0, zI (oI x1)] (sh, t)) (zqE (qI (fun x t' => Fr7M sh MB t t' ∧ (tg t' T 1 = 0)) sh) [2, 0] (fun t' => Fr7M sh MB t t' ∧ (tg t' T 1 = 0)) sh) := by
  have ha0 : (sk sh (sr sh r0 3)).2 = 8 := by rw [q0.2.2.2.2.2.1.1]
  rw [b95_0]
  try simp only [zput_s, zput_n, ti_g, oI_add, oI_sub, oI_mul]
  refine zok_ck ((q0).1) ?_
  refine zok_cR (s115 F (q0) (hR)) (fun y2 t2 p2 => ?_)
  obtain ⟨f2, p2⟩ := p2
  obtain ⟨rfl, p2⟩ := p2
  simp only [zput_s, zput_n, ti_g, oI_add, oI_sub, oI_mul, b95_4]
  try simp only [zput_s, zput_n, ti_g, oI_add, oI_sub, oI_mul]
  refine zok_ck (by first | exact ⟨(q0).1, fun e => by cases e⟩ | exact (q0).1) ?_
  refine zok_ck (by first | exact ⟨(q0).1, fun e => by cases e⟩ | exact (q0).1) ?_
  refine zok_ck ((q0).1) ?_
  refine zok_qR (s113 F (q0) (by omega) ((((f2).trans (FrC.toM (FrC_I F ((f2).rs) ((q0).2.1) (by rw [(q0).1]; decide) (by rw [(q0).1]; intro h; cases h)))).trans (FrC.toM (FrC_I F (((f2).trans (FrC.toM (FrC_I F ((f2).rs) ((q0).2.1) (by rw [(q0).1]; decide) (by rw [(q0).1]; intro h; cases h)))).rs) ((q0).2.1) (by rw [(q0).1]; decide) (by rw [(q0).1]; intro h; cases h)))).rs)) (fun E t' hE hX => ⟨by simp only [List.mem_cons, List.not_mem_nil, or_false] at hE ⊢; omega, ⟨by rw [hX.1]; exact ((f2).trans (FrC.toM (FrC_I F ((f2).rs) ((q0).2.1) (by rw [(q0).1]; decide) (by rw [(q0).1]; intro h; cases h)))).trans (FrC.toM (FrC_I F (((f2).trans (FrC.toM (FrC_I F ((f2).rs) ((q0).2.1) (by rw [(q0).1]; decide) (by rw [(q0).1]; intro h; cases h)))).rs) ((q0).2.1) (by rw [(q0).1]; decide) (by rw [(q0).1]; intro h; cases h))), by rw [hX.1]; exact (FrC.tp ((FrC_I F ((f2).rs) ((q0).2.1) (by rw [(q0).1]; decide) (by rw [(q0).1]; intro h; cases h)).trans (FrC_I F (((f2).trans (FrC.toM (FrC_I F ((f2).rs) ((q0).2.1) (by rw [(q0).1]; decide) (by rw [(q0).1]; intro h; cases h)))).rs) ((q0).2.1) (by rw [(q0).1]; decide) (by rw [(q0).1]; intro h; cases h)))).trans p2⟩⟩) (fun y6 p6 => ?_)
  have hq6_4 := p6.2 4 (by decide)
  have hr6_4 := And.intro (Ne.symm hq6_4.1) (Ne.symm hq6_4.2)
  have hq6_5 := p6.2 5 (by decide)
  have hr6_5 := And.intro (Ne.symm hq6_5.1) (Ne.symm hq6_5.2)
  simp only [zput_s, zput_n, ti_g, oI_add, oI_sub, oI_mul, b95_20]
  try simp only [zput_s, zput_n, ti_g, oI_add, oI_sub, oI_mul]
  refine zok_ck ((q0).1) ?_
  refine zok_ck ((q0.2.2.2.2.2.2.1).1) ?_
  refine zok_c0 (s35 F (q0.2.2.2.2.2.2.1) (q0.2.2.2.1) ((((f2).trans (FrC.toM (FrC_I F ((f2).rs) ((q0).2.1) (by rw [(q0).1]; decide) (by rw [(q0).1]; intro h; cases h)))).trans (FrC.toM (FrC_I F (((f2).trans (FrC.toM (FrC_I F ((f2).rs) ((q0).2.1) (by rw [(q0).1]; decide) (by rw [(q0).1]; intro h; cases h)))).rs) ((q0).2.1) (by rw [(q0).1]; decide) (by rw [(q0).1]; intro h; cases h)))).rs)) (fun t8 p8 => ?_)
  obtain ⟨f8, p8⟩ := p8
  simp only [zput_s, zput_n, ti_g, oI_add, oI_sub, oI_mul, b95_29]
  try simp only [zput_s, zput_n, ti_g, oI_add, oI_sub, oI_mul]
  refine zok_ck ((q0).1) ?_
  refine zok_ck ((q0).1) ?_
  refine zok_ck ((q0.2.2.2.2.2.2.1).1) ?_
  refine zok_cI (s42 F (q0.2.2.2.2.2.2.1) (q0.2.2.2.1) (q0.2.2.2.2.2.2.2.2.1) (((((f2).trans (FrC.toM (FrC_I F ((f2).rs) ((q0).2.1) (by rw [(q0).1]; decide) (by rw [(q0).1]; intro h; cases h)))).trans (FrC.toM (FrC_I F (((f2).trans (FrC.toM (FrC_I F ((f2).rs) ((q0).2.1) (by rw [(q0).1]; decide) (by rw [(q0).1]; intro h; cases h)))).rs) ((q0).2.1) (by rw [(q0).1]; decide) (by rw [(q0).1]; intro h; cases h)))).trans (FrC.toM (f8))).rs)) (fun y10 t10 u10 p10 => ?_)
  obtain ⟨f10, p10⟩ := p10
  have g11_1 : -2147483648 ≤ tg t10 (sr sh r0 4) 2 ∧ tg t10 (sr sh r0 4) 2 ≤ 2147483647 := ⟨tg_lo _ _ _, tg_hi _ _ _⟩
  have g11_2 : -2147483648 ≤ tg (tI t10 r0 10 (ti t10 (sr sh r0 4) 2)) (sr sh r0 4) 3 ∧ tg (tI t10 r0 10 (ti t10 (sr sh r0 4) 2)) (sr sh r0 4) 3 ≤ 2147483647 := ⟨tg_lo _ _ _, tg_hi _ _ _⟩
  simp only [zput_s, zput_n, ti_g, oI_add, oI_sub, oI_mul, b95_41]
  try simp only [zput_s, zput_n, ti_g, oI_add, oI_sub, oI_mul]
  first | refine zok_eq (by omega) (fun c12 => ?_) (fun c12 => ?_) | refine zok_if (fun c12 => ?_) (fun c12 => ?_)
  · refine zok_ck ((q0).1) ?_
    refine zok_ck ((q0.2.2.2.2.2.2.1).1) ?_
    refine zok_c0 (s41 F (q0.2.2.2.2.2.2.1) (p6.1) (q0.2.2.2.1) ((((((f2).trans (FrC.toM (FrC_I F ((f2).rs) ((q0).2.1) (by rw [(q0).1]; decide) (by rw [(q0).1]; intro h; cases h)))).trans (FrC.toM (FrC_I F (((f2).trans (FrC.toM (FrC_I F ((f2).rs) ((q0).2.1) (by rw [(q0).1]; decide) (by rw [(q0).1]; intro h; cases h)))).rs) ((q0).2.1) (by rw [(q0).1]; decide) (by rw [(q0).1]; intro h; cases h)))).trans (FrC.toM (f8))).trans (FrC.toM (f10))).rs)) (fun t13 p13 => ?_)
    obtain ⟨f13, p13⟩ := p13
    simp only [zput_s, zput_n, ti_g, oI_add, oI_sub, oI_mul, b95_83]
    try simp only [zput_s, zput_n, ti_g, oI_add, oI_sub, oI_mul]
    refine zok_ck ((p6.1).1) ?_
    refine zok_pI (s27 F (p6.1) (((((((f2).trans (FrC.toM (FrC_I F ((f2).rs) ((q0).2.1) (by rw [(q0).1]; decide) (by rw [(q0).1]; intro h; cases h)))).trans (FrC.toM (FrC_I F (((f2).trans (FrC.toM (FrC_I F ((f2).rs) ((q0).2.1) (by rw [(q0).1]; decide) (by rw [(q0).1]; intro h; cases h)))).rs) ((q0).2.1) (by rw [(q0).1]; decide) (by rw [(q0).1]; intro h; cases h)))).trans (FrC.toM (f8))).trans (FrC.toM (f10))).trans (FrC.toM (f13))).rs)) (fun y15 u15 p15 => ?_)
    simp only [zput_s, zput_n, ti_g, oI_add, oI_sub, oI_mul, b95_87]
    try simp only [zput_s, zput_n, ti_g, oI_add, oI_sub, oI_mul]
    refine zok_l ?_
    first | exact qI_rt (by omega) (by omega) ⟨(((((f2).trans (FrC.toM (FrC_I F ((f2).rs) ((q0).2.1) (by rw [(q0).1]; decide) (by rw [(q0).1]; intro h; cases h)))).trans (FrC.toM (FrC_I F (((f2).trans (FrC.toM (FrC_I F ((f2).rs) ((q0).2.1) (by rw [(q0).1]; decide) (by rw [(q0).1]; intro h; cases h)))).rs) ((q0).2.1) (by rw [(q0).1]; decide) (by rw [(q0).1]; intro h; cases h)))).trans (FrC.toM (f8))).trans (FrC.toM (f10))).trans (FrC.toM (f13)), (FrC.tp (((((FrC_I F ((f2).rs) ((q0).2.1) (by rw [(q0).1]; decide) (by rw [(q0).1]; intro h; cases h)).trans (FrC_I F (((f2).trans (FrC.toM (FrC_I F ((f2).rs) ((q0).2.1) (by rw [(q0).1]; decide) (by rw [(q0).1]; intro h; cases h)))).rs) ((q0).2.1) (by rw [(q0).1]; decide) (by rw [(q0).1]; intro h; cases h))).trans (f8)).trans (f10)).trans (f13))).trans p2⟩ | exact qI_nf ⟨(((((f2).trans (FrC.toM (FrC_I F ((f2).rs) ((q0).2.1) (by rw [(q0).1]; decide) (by rw [(q0).1]; intro h; cases h)))).trans (FrC.toM (FrC_I F (((f2).trans (FrC.toM (FrC_I F ((f2).rs) ((q0).2.1) (by rw [(q0).1]; decide) (by rw [(q0).1]; intro h; cases h)))).rs) ((q0).2.1) (by rw [(q0).1]; decide) (by rw [(q0).1]; intro h; cases h)))).trans (FrC.toM (f8))).trans (FrC.toM (f10))).trans (FrC.toM (f13)), (FrC.tp (((((FrC_I F ((f2).rs) ((q0).2.1) (by rw [(q0).1]; decide) (by rw [(q0).1]; intro h; cases h)).trans (FrC_I F (((f2).trans (FrC.toM (FrC_I F ((f2).rs) ((q0).2.1) (by rw [(q0).1]; decide) (by rw [(q0).1]; intro h; cases h)))).rs) ((q0).2.1) (by rw [(q0).1]; decide) (by rw [(q0).1]; intro h; cases h))).trans (f8)).trans (f10)).trans (f13))).trans p2⟩
  · refine zok_ck ((q0).1) ?_
    refine zok_ck ((q0.2.2.2.2.2.2.1).1) ?_
    refine zok_ck (by first | exact ⟨(q0).1, fun e => by cases e⟩ | exact (q0).1) ?_
    refine zok_ck ((q0).1) ?_
    refine zok_ck ((q0.2.2.2.2.2.2.1).1) ?_
    refine zok_ck (by first | exact ⟨(q0).1, fun e => by cases e⟩ | exact (q0).1) ?_
    exact zok_th (by decide) (⟨((((((f2).trans (FrC.toM (FrC_I F ((f2).rs) ((q0).2.1) (by rw [(q0).1]; decide) (by rw [(q0).1]; intro h; cases h)))).trans (FrC.toM (FrC_I F (((f2).trans (FrC.toM (FrC_I F ((f2).rs) ((q0).2.1) (by rw [(q0).1]; decide) (by rw [(q0).1]; intro h; cases h)))).rs) ((q0).2.1) (by rw [(q0).1]; decide) (by rw [(q0).1]; intro h; cases h)))).trans (FrC.toM (f8))).trans (FrC.toM (f10))).trans (FrC.toM (FrC_I F ((((((f2).trans (FrC.toM (FrC_I F ((f2).rs) ((q0).2.1) (by rw [(q0).1]; decide) (by rw [(q0).1]; intro h; cases h)))).trans (FrC.toM (FrC_I F (((f2).trans (FrC.toM (FrC_I F ((f2).rs) ((q0).2.1) (by rw [(q0).1]; decide) (by rw [(q0).1]; intro h; cases h)))).rs) ((q0).2.1) (by rw [(q0).1]; decide) (by rw [(q0).1]; intro h; cases h)))).trans (FrC.toM (f8))).trans (FrC.toM (f10))).rs) ((q0).2.1) (by rw [(q0).1]; decide) (by rw [(q0).1]; intro h; cases h)))).trans (FrC.toM (FrC_I F (((((((f2).trans (FrC.toM (FrC_I F ((f2).rs) ((q0).2.1) (by rw [(q0).1]; decide) (by rw [(q0).1]; intro h; cases h)))).trans (FrC.toM (FrC_I F (((f2).trans (FrC.toM (FrC_I F ((f2).rs) ((q0).2.1) (by rw [(q0).1]; decide) (by rw [(q0).1]; intro h; cases h)))).rs) ((q0).2.1) (by rw [(q0).1]; decide) (by rw [(q0).1]; intro h; cases h)))).trans (FrC.toM (f8))).trans (FrC.toM (f10))).trans (FrC.toM (FrC_I F ((((((f2).trans (FrC.toM (FrC_I F ((f2).rs) ((q0).2.1) (by rw [(q0).1]; decide) (by rw [(q0).1]; intro h; cases h)))).trans (FrC.toM (FrC_I F (((f2).trans (FrC.toM (FrC_I F ((f2).rs) ((q0).2.1) (by rw [(q0).1]; decide) (by rw [(q0).1]; intro h; cases h)))).rs) ((q0).2.1) (by rw [(q0).1]; decide) (by rw [(q0).1]; intro h; cases h)))).trans (FrC.toM (f8))).trans (FrC.toM (f10))).rs) ((q0).2.1) (by rw [(q0).1]; decide) (by rw [(q0).1]; intro h; cases h)))).rs) ((q0).2.1) (by rw [(q0).1]; decide) (by rw [(q0).1]; intro h; cases h))), (FrC.tp ((((((FrC_I F ((f2).rs) ((q0).2.1) (by rw [(q0).1]; decide) (by rw [(q0).1]; intro h; cases h)).trans (FrC_I F (((f2).trans (FrC.toM (FrC_I F ((f2).rs) ((q0).2.1) (by rw [(q0).1]; decide) (by rw [(q0).1]; intro h; cases h)))).rs) ((q0).2.1) (by rw [(q0).1]; decide) (by rw [(q0).1]; intro h; cases h))).trans (f8)).trans (f10)).trans (FrC_I F ((((((f2).trans (FrC.toM (FrC_I F ((f2).rs) ((q0).2.1) (by rw [(q0).1]; decide) (by rw [(q0).1]; intro h; cases h)))).trans (FrC.toM (FrC_I F (((f2).trans (FrC.toM (FrC_I F ((f2).rs) ((q0).2.1) (by rw [(q0).1]; decide) (by rw [(q0).1]; intro h; cases h)))).rs) ((q0).2.1) (by rw [(q0).1]; decide) (by rw [(q0).1]; intro h; cases h)))).trans (FrC.toM (f8))).trans (FrC.toM (f10))).rs) ((q0).2.1) (by rw [(q0).1]; decide) (by rw [(q0).1]; intro h; cases h))).trans (FrC_I F (((((((f2).trans (FrC.toM (FrC_I F ((f2).rs) ((q0).2.1) (by rw [(q0).1]; decide) (by rw [(q0).1]; intro h; cases h)))).trans (FrC.toM (FrC_I F (((f2).trans (FrC.toM (FrC_I F ((f2).rs) ((q0).2.1) (by rw [(q0).1]; decide) (by rw [(q0).1]; intro h; cases h)))).rs) ((q0).2.1) (by rw [(q0).1]; decide) (by rw [(q0).1]; intro h; cases h)))).trans (FrC.toM (f8))).trans (FrC.toM (f10))).trans (FrC.toM (FrC_I F ((((((f2).trans (FrC.toM (FrC_I F ((f2).rs) ((q0).2.1) (by rw [(q0).1]; decide) (by rw [(q0).1]; intro h; cases h)))).trans (FrC.toM (FrC_I F (((f2).trans (FrC.toM (FrC_I F ((f2).rs) ((q0).2.1) (by rw [(q0).1]; decide) (by rw [(q0).1]; intro h; cases h)))).rs) ((q0).2.1) (by rw [(q0).1]; decide) (by rw [(q0).1]; intro h; cases h)))).trans (FrC.toM (f8))).trans (FrC.toM (f10))).rs) ((q0).2.1) (by rw [(q0).1]; decide) (by rw [(q0).1]; intro h; cases h)))).rs) ((q0).2.1) (by rw [(q0).1]; decide) (by rw [(q0).1]; intro h; cases h)))).trans p2⟩)
/-! X8_descend -/
theorem s108 {sh : zSh} {T MB : Nat} (F : zCl sh T MB) {r0 : Nat} (q0 : zLL sh T MB r0) {x1 : Int} (u1 : -2147483648 ≤ x1 ∧ x1 ≤ 2147483647) {t : zSt} (hR : RS sh t) : zok (zcl zP 108 [zR r0, zI (oI x1)] (sh, t)) (zqE (qI (fun x t' => Fr7M sh MB t t' ∧ (tg t' T 1 = 0)) sh) [2, 3] (fun t' => Fr7M sh MB t t' ∧ (tg t' T 1 = 0)) sh) := by
  have ha0 : (sk sh (sr sh r0 3)).2 = 8 := by rw [q0.2.2.2.2.2.1.1]
  rw [b108_0]
  try simp only [zput_s, zput_n, ti_g, oI_add, oI_sub, oI_mul]
  refine zok_ck ((q0).1) ?_
  refine zok_cR (s115 F (q0) (hR)) (fun y2 t2 p2 => ?_)
  obtain ⟨f2, p2⟩ := p2
  obtain ⟨rfl, p2⟩ := p2
  simp only [zput_s, zput_n, ti_g, oI_add, oI_sub, oI_mul, b108_4]
  try simp only [zput_s, zput_n, ti_g, oI_add, oI_sub, oI_mul]
  refine zok_ck ((q0).1) ?_
  refine zok_qR (s113 F (q0) (by omega) ((f2).rs)) (fun E t' hE hX => ⟨by simp only [List.mem_cons, List.not_mem_nil, or_false] at hE ⊢; omega, ⟨by rw [hX.1]; exact f2, by rw [hX.1]; exact p2⟩⟩) (fun y4 p4 => ?_)
  have hq4_4 := p4.2 4 (by decide)
  have hr4_4 := And.intro (Ne.symm hq4_4.1) (Ne.symm hq4_4.2)
  have hq4_5 := p4.2 5 (by decide)
  have hr4_5 := And.intro (Ne.symm hq4_5.1) (Ne.symm hq4_5.2)
  have g5_1 := RS_sz ((f2).rs) ((p4.1.2 4 (by decide)).1)
  have g5_2 := RS_sz ((f2).rs) ((p4.1.2 2 (by decide)).1)
  simp only [zput_s, zput_n, ti_g, oI_add, oI_sub, oI_mul, b108_10]
  try simp only [zput_s, zput_n, ti_g, oI_add, oI_sub, oI_mul]
  refine zok_ck ((p4.1).1) ?_
  refine zok_ck (((p4.1.2 4 (by decide)).1).1) ?_
  first | refine zok_ne (by omega) (fun c6 => ?_) (fun c6 => ?_) | refine zok_if (fun c6 => ?_) (fun c6 => ?_)
  · refine zok_ck (((p4.1.2 4 (by decide)).1).1) ?_
    refine zok_ck (((p4.1.2 4 (by decide)).1).1) ?_
    refine zok_pI (s57 ((p4.1.2 4 (by decide)).1) (by omega) ((f2).rs)) (fun y7 u7 p7 => ?_)
    simp only [zput_s, zput_n, ti_g, oI_add, oI_sub, oI_mul, b108_47]
    try simp only [zput_s, zput_n, ti_g, oI_add, oI_sub, oI_mul]
    first | refine zok_eq (by omega) (fun c9 => ?_) (fun c9 => ?_) | refine zok_if (fun c9 => ?_) (fun c9 => ?_)
    · refine zok_ck (((q0.2.2.2.1).1).1) ?_
      refine zok_pI (s74 ((q0.2.2.2.1).1) ((f2).rs)) (fun y10 u10 p10 => ?_)
      simp only [zput_s, zput_n, ti_g, oI_add, oI_sub, oI_mul, b108_63]
      try simp only [zput_s, zput_n, ti_g, oI_add, oI_sub, oI_mul]
      refine zok_ck ((p4.1).1) ?_
      refine zok_pI (s27 F (p4.1) ((f2).rs)) (fun y12 u12 p12 => ?_)
      simp only [zput_s, zput_n, ti_g, oI_add, oI_sub, oI_mul, b108_80]
      try simp only [zput_s, zput_n, ti_g, oI_add, oI_sub, oI_mul]
      first | refine zok_le (by omega) (fun c14 => ?_) (fun c14 => ?_) | refine zok_if (fun c14 => ?_) (fun c14 => ?_)
      · simp only [zput_s, zput_n, ti_g, oI_add, oI_sub, oI_mul, b108_109]
        try simp only [zput_s, zput_n, ti_g, oI_add, oI_sub, oI_mul]
        refine zok_ck (((p4.1.2 4 (by decide)).1).1) ?_
        refine zok_c0 (s75 ((p4.1.2 4 (by decide)).1) ((q0.2.2.2.1).1) (by first | omega | assumption | exact And.left (by assumption) | exact And.right (by assumption)) ((f2).rs)) (fun t16 p16 => ?_)
        obtain ⟨f16, p16⟩ := p16
        simp only [zput_s, zput_n, ti_g, oI_add, oI_sub, oI_mul, b108_115]
        try simp only [zput_s, zput_n, ti_g, oI_add, oI_sub, oI_mul]
        refine zok_ck ((p4.1).1) ?_
        refine zok_pI (s27 F (p4.1) (((f2).trans (FrC.toM ((f16).toC F (p4.1.2 4 (by decide))))).rs)) (fun y18 u18 p18 => ?_)
        simp only [zput_s, zput_n, ti_g, oI_add, oI_sub, oI_mul, b108_119]
        try simp only [zput_s, zput_n, ti_g, oI_add, oI_sub, oI_mul]
        refine zok_l ?_
        first | exact qI_rt (by omega) (by omega) ⟨(f2).trans (FrC.toM ((f16).toC F (p4.1.2 4 (by decide)))), (FrC.tp ((f16).toC F (p4.1.2 4 (by decide)))).trans p2⟩ | exact qI_nf ⟨(f2).trans (FrC.toM ((f16).toC F (p4.1.2 4 (by decide)))), (FrC.tp ((f16).toC F (p4.1.2 4 (by decide)))).trans p2⟩
      · exact zok_th (by decide) (⟨f2, p2⟩)
    · refine zok_ck (((q0.2.2.2.1).1).1) ?_
      refine zok_pI (s74 ((q0.2.2.2.1).1) ((f2).rs)) (fun y20 u20 p20 => ?_)
      simp only [zput_s, zput_n, ti_g, oI_add, oI_sub, oI_mul, b108_63]
      try simp only [zput_s, zput_n, ti_g, oI_add, oI_sub, oI_mul]
      first | refine zok_eq (by omega) (fun c22 => ?_) (fun c22 => ?_) | refine zok_if (fun c22 => ?_) (fun c22 => ?_)
      · refine zok_ck ((p4.1).1) ?_
        refine zok_pI (s27 F (p4.1) ((f2).rs)) (fun y23 u23 p23 => ?_)
        simp only [zput_s, zput_n, ti_g, oI_add, oI_sub, oI_mul, b108_80]
        try simp only [zput_s, zput_n, ti_g, oI_add, oI_sub, oI_mul]
        first | refine zok_le (by omega) (fun c25 => ?_) (fun c25 => ?_) | refine zok_if (fun c25 => ?_) (fun c25 => ?_)
        · first | refine zok_eq (by omega) (fun c26 => ?_) (fun c26 => ?_) | refine zok_if (fun c26 => ?_) (fun c26 => ?_)
          · simp only [zput_s, zput_n, ti_g, oI_add, oI_sub, oI_mul, b108_109]
            try simp only [zput_s, zput_n, ti_g, oI_add, oI_sub, oI_mul]
            refine zok_ck (((p4.1.2 4 (by decide)).1).1) ?_
            refine zok_c0 (s75 ((p4.1.2 4 (by decide)).1) ((q0.2.2.2.1).1) (by first | omega | assumption | exact And.left (by assumption) | exact And.right (by assumption)) ((f2).rs)) (fun t28 p28 => ?_)
            obtain ⟨f28, p28⟩ := p28
            simp only [zput_s, zput_n, ti_g, oI_add, oI_sub, oI_mul, b108_115]
            try simp only [zput_s, zput_n, ti_g, oI_add, oI_sub, oI_mul]
            refine zok_ck ((p4.1).1) ?_
            refine zok_pI (s27 F (p4.1) (((f2).trans (FrC.toM ((f28).toC F (p4.1.2 4 (by decide))))).rs)) (fun y30 u30 p30 => ?_)
            simp only [zput_s, zput_n, ti_g, oI_add, oI_sub, oI_mul, b108_119]
            try simp only [zput_s, zput_n, ti_g, oI_add, oI_sub, oI_mul]
            refine zok_l ?_
            first | exact qI_rt (by omega) (by omega) ⟨(f2).trans (FrC.toM ((f28).toC F (p4.1.2 4 (by decide)))), (FrC.tp ((f28).toC F (p4.1.2 4 (by decide)))).trans p2⟩ | exact qI_nf ⟨(f2).trans (FrC.toM ((f28).toC F (p4.1.2 4 (by decide)))), (FrC.tp ((f28).toC F (p4.1.2 4 (by decide)))).trans p2⟩
          · refine zok_ck (((p4.1.2 4 (by decide)).1).1) ?_
            refine zok_c0 (s59 ((p4.1.2 4 (by decide)).1) ((f2).rs)) (fun t32 p32 => ?_)
            obtain ⟨f32, p32⟩ := p32
            simp only [zput_s, zput_n, ti_g, oI_add, oI_sub, oI_mul, b108_109]
            try simp only [zput_s, zput_n, ti_g, oI_add, oI_sub, oI_mul]
            refine zok_ck (((p4.1.2 4 (by decide)).1).1) ?_
            refine zok_c0 (s75 ((p4.1.2 4 (by decide)).1) ((q0.2.2.2.1).1) (by first | omega | assumption | exact And.left (by assumption) | exact And.right (by assumption)) (((f2).trans (FrC.toM ((f32).toC F (p4.1.2 4 (by decide))))).rs)) (fun t34 p34 => ?_)
            obtain ⟨f34, p34⟩ := p34
            simp only [zput_s, zput_n, ti_g, oI_add, oI_sub, oI_mul, b108_115]
            try simp only [zput_s, zput_n, ti_g, oI_add, oI_sub, oI_mul]
            refine zok_ck ((p4.1).1) ?_
            refine zok_pI (s27 F (p4.1) ((((f2).trans (FrC.toM ((f32).toC F (p4.1.2 4 (by decide))))).trans (FrC.toM ((f34).toC F (p4.1.2 4 (by decide))))).rs)) (fun y36 u36 p36 => ?_)
            simp only [zput_s, zput_n, ti_g, oI_add, oI_sub, oI_mul, b108_119]
            try simp only [zput_s, zput_n, ti_g, oI_add, oI_sub, oI_mul]
            refine zok_l ?_
            first | exact qI_rt (by omega) (by omega) ⟨((f2).trans (FrC.toM ((f32).toC F (p4.1.2 4 (by decide))))).trans (FrC.toM ((f34).toC F (p4.1.2 4 (by decide)))), (FrC.tp (((f32).toC F (p4.1.2 4 (by decide))).trans ((f34).toC F (p4.1.2 4 (by decide))))).trans p2⟩ | exact qI_nf ⟨((f2).trans (FrC.toM ((f32).toC F (p4.1.2 4 (by decide))))).trans (FrC.toM ((f34).toC F (p4.1.2 4 (by decide)))), (FrC.tp (((f32).toC F (p4.1.2 4 (by decide))).trans ((f34).toC F (p4.1.2 4 (by decide))))).trans p2⟩
        · exact zok_th (by decide) (⟨f2, p2⟩)
      · refine zok_ck ((p4.1).1) ?_
        refine zok_pI (s27 F (p4.1) ((f2).rs)) (fun y38 u38 p38 => ?_)
        simp only [zput_s, zput_n, ti_g, oI_add, oI_sub, oI_mul, b108_80]
        try simp only [zput_s, zput_n, ti_g, oI_add, oI_sub, oI_mul]
        first | refine zok_le (by omega) (fun c40 => ?_) (fun c40 => ?_) | refine zok_if (fun c40 => ?_) (fun c40 => ?_)
        · first | refine zok_eq (by omega) (fun c41 => ?_) (fun c41 => ?_) | refine zok_if (fun c41 => ?_) (fun c41 => ?_)
          · simp only [zput_s, zput_n, ti_g, oI_add, oI_sub, oI_mul, b108_109]
            try simp only [zput_s, zput_n, ti_g, oI_add, oI_sub, oI_mul]
            refine zok_ck (((p4.1.2 4 (by decide)).1).1) ?_
            refine zok_c0 (s75 ((p4.1.2 4 (by decide)).1) ((q0.2.2.2.1).1) (by first | omega | assumption | exact And.left (by assumption) | exact And.right (by assumption)) ((f2).rs)) (fun t43 p43 => ?_)
            obtain ⟨f43, p43⟩ := p43
            simp only [zput_s, zput_n, ti_g, oI_add, oI_sub, oI_mul, b108_115]
            try simp only [zput_s, zput_n, ti_g, oI_add, oI_sub, oI_mul]
            refine zok_ck ((p4.1).1) ?_
            refine zok_pI (s27 F (p4.1) (((f2).trans (FrC.toM ((f43).toC F (p4.1.2 4 (by decide))))).rs)) (fun y45 u45 p45 => ?_)
            simp only [zput_s, zput_n, ti_g, oI_add, oI_sub, oI_mul, b108_119]
            try simp only [zput_s, zput_n, ti_g, oI_add, oI_sub, oI_mul]
            refine zok_l ?_
            first | exact qI_rt (by omega) (by omega) ⟨(f2).trans (FrC.toM ((f43).toC F (p4.1.2 4 (by decide)))), (FrC.tp ((f43).toC F (p4.1.2 4 (by decide)))).trans p2⟩ | exact qI_nf ⟨(f2).trans (FrC.toM ((f43).toC F (p4.1.2 4 (by decide)))), (FrC.tp ((f43).toC F (p4.1.2 4 (by decide)))).trans p2⟩
          · refine zok_ck (((p4.1.2 4 (by decide)).1).1) ?_
            refine zok_c0 (s59 ((p4.1.2 4 (by decide)).1) ((f2).rs)) (fun t47 p47 => ?_)
            obtain ⟨f47, p47⟩ := p47
            simp only [zput_s, zput_n, ti_g, oI_add, oI_sub, oI_mul, b108_109]
            try simp only [zput_s, zput_n, ti_g, oI_add, oI_sub, oI_mul]
            refine zok_ck (((p4.1.2 4 (by decide)).1).1) ?_
            refine zok_c0 (s75 ((p4.1.2 4 (by decide)).1) ((q0.2.2.2.1).1) (by first | omega | assumption | exact And.left (by assumption) | exact And.right (by assumption)) (((f2).trans (FrC.toM ((f47).toC F (p4.1.2 4 (by decide))))).rs)) (fun t49 p49 => ?_)
            obtain ⟨f49, p49⟩ := p49
            simp only [zput_s, zput_n, ti_g, oI_add, oI_sub, oI_mul, b108_115]
            try simp only [zput_s, zput_n, ti_g, oI_add, oI_sub, oI_mul]
            refine zok_ck ((p4.1).1) ?_
            refine zok_pI (s27 F (p4.1) ((((f2).trans (FrC.toM ((f47).toC F (p4.1.2 4 (by decide))))).trans (FrC.toM ((f49).toC F (p4.1.2 4 (by decide))))).rs)) (fun y51 u51 p51 => ?_)
            simp only [zput_s, zput_n, ti_g, oI_add, oI_sub, oI_mul, b108_119]
            try simp only [zput_s, zput_n, ti_g, oI_add, oI_sub, oI_mul]
            refine zok_l ?_
            first | exact qI_rt (by omega) (by omega) ⟨((f2).trans (FrC.toM ((f47).toC F (p4.1.2 4 (by decide))))).trans (FrC.toM ((f49).toC F (p4.1.2 4 (by decide)))), (FrC.tp (((f47).toC F (p4.1.2 4 (by decide))).trans ((f49).toC F (p4.1.2 4 (by decide))))).trans p2⟩ | exact qI_nf ⟨((f2).trans (FrC.toM ((f47).toC F (p4.1.2 4 (by decide))))).trans (FrC.toM ((f49).toC F (p4.1.2 4 (by decide)))), (FrC.tp (((f47).toC F (p4.1.2 4 (by decide))).trans ((f49).toC F (p4.1.2 4 (by decide))))).trans p2⟩
        · exact zok_th (by decide) (⟨f2, p2⟩)
  · refine zok_ck ((p4.1).1) ?_
    refine zok_ck (((p4.1.2 2 (by decide)).1).1) ?_
    refine zok_ck (((q0.2.2.2.1).1).1) ?_
    refine zok_pI (s74 ((q0.2.2.2.1).1) ((f2).rs)) (fun y53 u53 p53 => ?_)
    simp only [zput_s, zput_n, ti_g, oI_add, oI_sub, oI_mul, b108_63]
    try simp only [zput_s, zput_n, ti_g, oI_add, oI_sub, oI_mul]
    first | refine zok_eq (by omega) (fun c55 => ?_) (fun c55 => ?_) | refine zok_if (fun c55 => ?_) (fun c55 => ?_)
    · refine zok_ck ((p4.1).1) ?_
      refine zok_pI (s27 F (p4.1) ((f2).rs)) (fun y56 u56 p56 => ?_)
      simp only [zput_s, zput_n, ti_g, oI_add, oI_sub, oI_mul, b108_80]
      try simp only [zput_s, zput_n, ti_g, oI_add, oI_sub, oI_mul]
      first | refine zok_le (by omega) (fun c58 => ?_) (fun c58 => ?_) | refine zok_if (fun c58 => ?_) (fun c58 => ?_)
      · first | refine zok_eq (by omega) (fun c59 => ?_) (fun c59 => ?_) | refine zok_if (fun c59 => ?_) (fun c59 => ?_)
        · simp only [zput_s, zput_n, ti_g, oI_add, oI_sub, oI_mul, b108_109]
          try simp only [zput_s, zput_n, ti_g, oI_add, oI_sub, oI_mul]
          refine zok_ck (((p4.1.2 4 (by decide)).1).1) ?_
          refine zok_c0 (s75 ((p4.1.2 4 (by decide)).1) ((q0.2.2.2.1).1) (by first | omega | assumption | exact And.left (by assumption) | exact And.right (by assumption)) ((f2).rs)) (fun t61 p61 => ?_)
          obtain ⟨f61, p61⟩ := p61
          simp only [zput_s, zput_n, ti_g, oI_add, oI_sub, oI_mul, b108_115]
          try simp only [zput_s, zput_n, ti_g, oI_add, oI_sub, oI_mul]
          refine zok_ck ((p4.1).1) ?_
          refine zok_pI (s27 F (p4.1) (((f2).trans (FrC.toM ((f61).toC F (p4.1.2 4 (by decide))))).rs)) (fun y63 u63 p63 => ?_)
          simp only [zput_s, zput_n, ti_g, oI_add, oI_sub, oI_mul, b108_119]
          try simp only [zput_s, zput_n, ti_g, oI_add, oI_sub, oI_mul]
          refine zok_l ?_
          first | exact qI_rt (by omega) (by omega) ⟨(f2).trans (FrC.toM ((f61).toC F (p4.1.2 4 (by decide)))), (FrC.tp ((f61).toC F (p4.1.2 4 (by decide)))).trans p2⟩ | exact qI_nf ⟨(f2).trans (FrC.toM ((f61).toC F (p4.1.2 4 (by decide)))), (FrC.tp ((f61).toC F (p4.1.2 4 (by decide)))).trans p2⟩
        · refine zok_ck (((p4.1.2 4 (by decide)).1).1) ?_
          refine zok_c0 (s59 ((p4.1.2 4 (by decide)).1) ((f2).rs)) (fun t65 p65 => ?_)
          obtain ⟨f65, p65⟩ := p65
          simp only [zput_s, zput_n, ti_g, oI_add, oI_sub, oI_mul, b108_109]
          try simp only [zput_s, zput_n, ti_g, oI_add, oI_sub, oI_mul]
          refine zok_ck (((p4.1.2 4 (by decide)).1).1) ?_
          refine zok_c0 (s75 ((p4.1.2 4 (by decide)).1) ((q0.2.2.2.1).1) (by first | omega | assumption | exact And.left (by assumption) | exact And.right (by assumption)) (((f2).trans (FrC.toM ((f65).toC F (p4.1.2 4 (by decide))))).rs)) (fun t67 p67 => ?_)
          obtain ⟨f67, p67⟩ := p67
          simp only [zput_s, zput_n, ti_g, oI_add, oI_sub, oI_mul, b108_115]
          try simp only [zput_s, zput_n, ti_g, oI_add, oI_sub, oI_mul]
          refine zok_ck ((p4.1).1) ?_
          refine zok_pI (s27 F (p4.1) ((((f2).trans (FrC.toM ((f65).toC F (p4.1.2 4 (by decide))))).trans (FrC.toM ((f67).toC F (p4.1.2 4 (by decide))))).rs)) (fun y69 u69 p69 => ?_)
          simp only [zput_s, zput_n, ti_g, oI_add, oI_sub, oI_mul, b108_119]
          try simp only [zput_s, zput_n, ti_g, oI_add, oI_sub, oI_mul]
          refine zok_l ?_
          first | exact qI_rt (by omega) (by omega) ⟨((f2).trans (FrC.toM ((f65).toC F (p4.1.2 4 (by decide))))).trans (FrC.toM ((f67).toC F (p4.1.2 4 (by decide)))), (FrC.tp (((f65).toC F (p4.1.2 4 (by decide))).trans ((f67).toC F (p4.1.2 4 (by decide))))).trans p2⟩ | exact qI_nf ⟨((f2).trans (FrC.toM ((f65).toC F (p4.1.2 4 (by decide))))).trans (FrC.toM ((f67).toC F (p4.1.2 4 (by decide)))), (FrC.tp (((f65).toC F (p4.1.2 4 (by decide))).trans ((f67).toC F (p4.1.2 4 (by decide))))).trans p2⟩
      · exact zok_th (by decide) (⟨f2, p2⟩)
    · refine zok_ck ((p4.1).1) ?_
      refine zok_pI (s27 F (p4.1) ((f2).rs)) (fun y71 u71 p71 => ?_)
      simp only [zput_s, zput_n, ti_g, oI_add, oI_sub, oI_mul, b108_80]
      try simp only [zput_s, zput_n, ti_g, oI_add, oI_sub, oI_mul]
      first | refine zok_le (by omega) (fun c73 => ?_) (fun c73 => ?_) | refine zok_if (fun c73 => ?_) (fun c73 => ?_)
      · first | refine zok_eq (by omega) (fun c74 => ?_) (fun c74 => ?_) | refine zok_if (fun c74 => ?_) (fun c74 => ?_)
        · simp only [zput_s, zput_n, ti_g, oI_add, oI_sub, oI_mul, b108_109]
          try simp only [zput_s, zput_n, ti_g, oI_add, oI_sub, oI_mul]
          refine zok_ck (((p4.1.2 4 (by decide)).1).1) ?_
          refine zok_c0 (s75 ((p4.1.2 4 (by decide)).1) ((q0.2.2.2.1).1) (by first | omega | assumption | exact And.left (by assumption) | exact And.right (by assumption)) ((f2).rs)) (fun t76 p76 => ?_)
          obtain ⟨f76, p76⟩ := p76
          simp only [zput_s, zput_n, ti_g, oI_add, oI_sub, oI_mul, b108_115]
          try simp only [zput_s, zput_n, ti_g, oI_add, oI_sub, oI_mul]
          refine zok_ck ((p4.1).1) ?_
          refine zok_pI (s27 F (p4.1) (((f2).trans (FrC.toM ((f76).toC F (p4.1.2 4 (by decide))))).rs)) (fun y78 u78 p78 => ?_)
          simp only [zput_s, zput_n, ti_g, oI_add, oI_sub, oI_mul, b108_119]
          try simp only [zput_s, zput_n, ti_g, oI_add, oI_sub, oI_mul]
          refine zok_l ?_
          first | exact qI_rt (by omega) (by omega) ⟨(f2).trans (FrC.toM ((f76).toC F (p4.1.2 4 (by decide)))), (FrC.tp ((f76).toC F (p4.1.2 4 (by decide)))).trans p2⟩ | exact qI_nf ⟨(f2).trans (FrC.toM ((f76).toC F (p4.1.2 4 (by decide)))), (FrC.tp ((f76).toC F (p4.1.2 4 (by decide)))).trans p2⟩
        · refine zok_ck (((p4.1.2 4 (by decide)).1).1) ?_
          refine zok_c0 (s59 ((p4.1.2 4 (by decide)).1) ((f2).rs)) (fun t80 p80 => ?_)
          obtain ⟨f80, p80⟩ := p80
          simp only [zput_s, zput_n, ti_g, oI_add, oI_sub, oI_mul, b108_109]
          try simp only [zput_s, zput_n, ti_g, oI_add, oI_sub, oI_mul]
          refine zok_ck (((p4.1.2 4 (by decide)).1).1) ?_
          refine zok_c0 (s75 ((p4.1.2 4 (by decide)).1) ((q0.2.2.2.1).1) (by first | omega | assumption | exact And.left (by assumption) | exact And.right (by assumption)) (((f2).trans (FrC.toM ((f80).toC F (p4.1.2 4 (by decide))))).rs)) (fun t82 p82 => ?_)
          obtain ⟨f82, p82⟩ := p82
          simp only [zput_s, zput_n, ti_g, oI_add, oI_sub, oI_mul, b108_115]
          try simp only [zput_s, zput_n, ti_g, oI_add, oI_sub, oI_mul]
          refine zok_ck ((p4.1).1) ?_
          refine zok_pI (s27 F (p4.1) ((((f2).trans (FrC.toM ((f80).toC F (p4.1.2 4 (by decide))))).trans (FrC.toM ((f82).toC F (p4.1.2 4 (by decide))))).rs)) (fun y84 u84 p84 => ?_)
          simp only [zput_s, zput_n, ti_g, oI_add, oI_sub, oI_mul, b108_119]
          try simp only [zput_s, zput_n, ti_g, oI_add, oI_sub, oI_mul]
          refine zok_l ?_
          first | exact qI_rt (by omega) (by omega) ⟨((f2).trans (FrC.toM ((f80).toC F (p4.1.2 4 (by decide))))).trans (FrC.toM ((f82).toC F (p4.1.2 4 (by decide)))), (FrC.tp (((f80).toC F (p4.1.2 4 (by decide))).trans ((f82).toC F (p4.1.2 4 (by decide))))).trans p2⟩ | exact qI_nf ⟨((f2).trans (FrC.toM ((f80).toC F (p4.1.2 4 (by decide))))).trans (FrC.toM ((f82).toC F (p4.1.2 4 (by decide)))), (FrC.tp (((f80).toC F (p4.1.2 4 (by decide))).trans ((f82).toC F (p4.1.2 4 (by decide))))).trans p2⟩
      · exact zok_th (by decide) (⟨f2, p2⟩)
