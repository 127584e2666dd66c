set_option maxRecDepth 16384
/-! X9_removeDots -/
theorem l162_J213 {sh : zSh} {t0 : zSt} {MB : Nat} {r0 : Nat} (q0 : zMd sh MB r0) (d1 : tg t0 (sr sh r0 10) 4 ≤ 1400) (G : GI sh r0 t0) : ∀ (n : Nat), (∀ (x1 : Int) (x2 : Int) (x3 : Int) (x4 : Int) (v5 : Int32) (x6 : Int) (o7 : Option zV) (o8 : Option zV) (wo7 : zisL o7 = false) (wo8 : zisL o8 = false) (t1 : zSt), FrV sh r0 [9, 10, 12, 13] t0 t1 → (-2147483648 ≤ x1 ∧ x1 ≤ 2147483647) ∧ (-2147483648 ≤ x2 ∧ x2 ≤ 2147483647) ∧ (-2147483648 ≤ x3 ∧ x3 ≤ 2147483647) ∧ (-2147483648 ≤ x4 ∧ x4 ≤ 2147483647) ∧ (-2147483648 ≤ x6 ∧ x6 ≤ 2147483647) ∧ (0 ≤ x4 ∧ x4 ≤ 1401 ∧ 0 ≤ x1 ∧ x1 ≤ 1400 ∧ x1 = tg t0 (sr sh r0 10) 4 ∧ 0 ≤ x6 ∧ x6 ≤ x4 ∧ 0 ≤ x2) ∧ (tg t1 (sr sh r0 10) 4 ≤ x1 + 1) ∧ (x6 < x4 → tg t1 (sr sh r0 10) 4 ≤ tg t1 (sr sh r0 12) (x6).toNat) → (∀ i : Nat, (i : Int) < x4 → x2 ≤ tg t1 (sr sh r0 12) i ∧ tg t1 (sr sh r0 12) i ≤ tg t1 (sr sh r0 13) i ∧ tg t1 (sr sh r0 13) i ≤ x1) → (∀ i : Nat, (i : Int) + 1 < x4 → tg t1 (sr sh r0 13) i + 1 ≤ tg t1 (sr sh r0 12) (i + 1)) → (∀ k, k ≠ 4 → tg t1 (sr sh r0 10) k = tg t0 (sr sh r0 10) k) → (10000 * (x4 - x6) + 9000).toNat < n → zok (zev zP 162 213 [some (zR r0), some (zI (oI x1)), some (zI (oI x2)), some (zI (oI x3)), some (zI (oI x4)), some (zI v5), some (zI (oI x6)), o7, o8] [] (sh, t1)) (zq0 (fun t' => FrV sh r0 [9, 10, 12, 13] t0 t' ∧ (tg t' (sr sh r0 10) 4 ≤ tg t0 (sr sh r0 10) 4 + 1 ∧ ∀ k, k ≠ 4 → tg t' (sr sh r0 10) k = tg t0 (sr sh r0 10) k)) sh)) ∧ (∀ (x1 : Int) (x2 : Int) (x3 : Int) (x4 : Int) (v5 : Int32) (x6 : Int) (x7 : Int) (o8 : Option zV) (wo8 : zisL o8 = false) (t1 : zSt), FrV sh r0 [9, 10, 12, 13] t0 t1 → (-2147483648 ≤ x1 ∧ x1 ≤ 2147483647) ∧ (-2147483648 ≤ x2 ∧ x2 ≤ 2147483647) ∧ (-2147483648 ≤ x3 ∧ x3 ≤ 2147483647) ∧ (-2147483648 ≤ x4 ∧ x4 ≤ 2147483647) ∧ (-2147483648 ≤ x6 ∧ x6 ≤ 2147483647) ∧ (-2147483648 ≤ x7 ∧ x7 ≤ 2147483647) ∧ (0 ≤ x4 ∧ x4 ≤ 1401 ∧ 0 ≤ x1 ∧ x1 ≤ 1400 ∧ x1 = tg t0 (sr sh r0 10) 4 ∧ 0 ≤ x6 ∧ x6 ≤ x4 ∧ 0 ≤ x2 ∧ x6 < x4) ∧ (tg t1 (sr sh r0 10) 4 ≤ x7 ∧ 0 ≤ x7 ∧ x7 ≤ tg t1 (sr sh r0 13) (x6).toNat) → (∀ i : Nat, (i : Int) < x4 → x2 ≤ tg t1 (sr sh r0 12) i ∧ tg t1 (sr sh r0 12) i ≤ tg t1 (sr sh r0 13) i ∧ tg t1 (sr sh r0 13) i ≤ x1) → (∀ i : Nat, (i : Int) + 1 < x4 → tg t1 (sr sh r0 13) i + 1 ≤ tg t1 (sr sh r0 12) (i + 1)) → (∀ k, k ≠ 4 → tg t1 (sr sh r0 10) k = tg t0 (sr sh r0 10) k) → (10000 * (x4 - x6) + 3000 - x7).toNat < n → zok (zev zP 162 229 [some (zR r0), some (zI (oI x1)), some (zI (oI x2)), some (zI (oI x3)), some (zI (oI x4)), some (zI v5), some (zI (oI x6)), some (zI (oI x7)), o8] [] (sh, t1)) (zq0 (fun t' => FrV sh r0 [9, 10, 12, 13] t0 t' ∧ (tg t' (sr sh r0 10) 4 ≤ tg t0 (sr sh r0 10) 4 + 1 ∧ ∀ k, k ≠ 4 → tg t' (sr sh r0 10) k = tg t0 (sr sh r0 10) k)) sh)) := by
  intro n
  induction n with
  | zero => exact ⟨(by intro x1 x2 x3 x4 v5 x6 o7 o8 wo7 wo8 t1 f0 _ _ _ _ hm; omega), (by intro x1 x2 x3 x4 v5 x6 x7 o8 wo8 t1 f0 _ _ _ _ hm; omega)⟩
  | succ n ih =>
    refine ⟨?_, ?_⟩
    · intro x1 x2 x3 x4 v5 x6 o7 o8 wo7 wo8 t1 f0 hv hq1 hq2 hq3 hm
      obtain ⟨x5, a5, b5, rfl⟩ := oI_nf v5
      have ha0_1 : (sk sh (sr sh r0 1)).2 = 21000 := by rw [q0.2.2.2.2.1]
      have ha0_2 : (sk sh (sr sh r0 2)).2 = 14 := by rw [q0.2.2.2.2.2.1]
      have ha0_3 : (sk sh (sr sh r0 3)).2 = 98 := by rw [q0.2.2.2.2.2.2.1]
      have ha0_4 : (sk sh (sr sh r0 4)).2 = 98 := by rw [q0.2.2.2.2.2.2.2.1]
      have ha0_8 : (sk sh (sr sh r0 8)).2 = 1500 := by rw [q0.2.2.2.2.2.2.2.2.1]
      have ha0_9 : (sk sh (sr sh r0 9)).2 = 10500 := by rw [q0.2.2.2.2.2.2.2.2.2.1]
      have ha0_10 : (sk sh (sr sh r0 10)).2 = 7 := by rw [q0.2.2.2.2.2.2.2.2.2.2.1]
      have ha0_11 : (sk sh (sr sh r0 11)).2 = 7 := by rw [q0.2.2.2.2.2.2.2.2.2.2.2.1]
      have ha0_12 : (sk sh (sr sh r0 12)).2 = 1500 := by rw [q0.2.2.2.2.2.2.2.2.2.2.2.2.1]
      have ha0_13 : (sk sh (sr sh r0 13)).2 = 1500 := by rw [q0.2.2.2.2.2.2.2.2.2.2.2.2.2.1]
      have ha0_14 : (sk sh (sr sh r0 14)).2 = 20 := by rw [q0.2.2.2.2.2.2.2.2.2.2.2.2.2.2]
      have e0_2 : ∀ k, tg t1 (sr sh r0 2) k = tg t0 (sr sh r0 2) k := fun k => f0.eq q0 (i := 2) (by decide) (by decide) k
      have e0_3 : ∀ k, tg t1 (sr sh r0 3) k = tg t0 (sr sh r0 3) k := fun k => f0.eq q0 (i := 3) (by decide) (by decide) k
      have e0_4 : ∀ k, tg t1 (sr sh r0 4) k = tg t0 (sr sh r0 4) k := fun k => f0.eq q0 (i := 4) (by decide) (by decide) k
      have e0_11 : ∀ k, tg t1 (sr sh r0 11) k = tg t0 (sr sh r0 11) k := fun k => f0.eq q0 (i := 11) (by decide) (by decide) k
      try simp only [zt0, zt1, zt2, zt3, zt4, zt5, zt6, e0_2, e0_3, e0_4, e0_11] at hv
      try simp only [zt0, zt1, zt2, zt3, zt4, zt5, zt6, e0_2, e0_3, e0_4, e0_11] at hm
      have hi1 := hq1 (x6).toNat
      try simp only [zt0, zt1, zt2, zt3, zt4, zt5, zt6, e0_2, e0_3, e0_4, e0_11] at hi1
      have hi2 := hq2 (x6).toNat
      try simp only [zt0, zt1, zt2, zt3, zt4, zt5, zt6, e0_2, e0_3, e0_4, e0_11] at hi2
      try simp only [zput_s, zput_n, ti_g, oI_add, oI_sub, oI_mul]
      rw [b162_213 (o7 := o7) (wo7 := wo7) (o8 := o8) (wo8 := wo8)]
      try simp only [zput_s, zput_n, ti_g, oI_add, oI_sub, oI_mul]
      first | refine zok_le (by omega) (fun c2 => ?_) (fun c2 => ?_) | refine zok_if (fun c2 => ?_) (fun c2 => ?_)
      · exact q0_rt ⟨f0, ⟨by omega, hq3⟩⟩
      · refine zok_ck ((q0).1) ?_
        refine zok_ck ⟨(by rw [(q0).2.2.2.2.2.2.2.2.2.2.2.2.1]), zin_o (by omega) (by omega) (by omega)⟩ ?_
        try rw [nN_o (a := x6) (by omega) (by omega)]
        try simp only [zput_s, zput_n, ti_g, oI_add, oI_sub, oI_mul, zt0, zt1, zt2, zt3, zt4, zt5, zt6, e0_2, e0_3, e0_4, e0_11]
        have gl3 := And.intro (tg_lo t1 (sr sh r0 12) ((x6).toNat)) (tg_hi t1 (sr sh r0 12) ((x6).toNat))
        try simp only [zt0, zt1, zt2, zt3, zt4, zt5, zt6, e0_2, e0_3, e0_4, e0_11] at gl3
        try simp only [zput_s, zput_n, ti_g, oI_add, oI_sub, oI_mul]
        exact ih.2 _ _ _ _ _ _ _ _ (by first | rfl | assumption) _ (f0) (by first | omega | ((try simp only [zt0, zt1, zt2, zt3, zt4, zt5, zt6, e0_2, e0_3, e0_4, e0_11]); omega)) (fun i hi => by have h := hq1 i; (try simp only [zt0, zt1, zt2, zt3, zt4, zt5, zt6, e0_2, e0_3, e0_4, e0_11, true_and]); omega) (fun i hi => by have h := hq2 i; (try simp only [zt0, zt1, zt2, zt3, zt4, zt5, zt6, e0_2, e0_3, e0_4, e0_11, true_and]); omega) (fun k hk => by ((try have c0 := hq3 k hk); (try have c0 := hq3 k); (try simp only [zt0, zt1, zt2, zt3, zt4, zt5, zt6] at *) <;> omega)) (by first | omega | ((try simp only [zt0, zt1, zt2, zt3, zt4, zt5, zt6, e0_2, e0_3, e0_4, e0_11]); omega))
    · intro x1 x2 x3 x4 v5 x6 x7 o8 wo8 t1 f0 hv hq1 hq2 hq3 hm
      obtain ⟨x5, a5, b5, rfl⟩ := oI_nf v5
      have ha0_1 : (sk sh (sr sh r0 1)).2 = 21000 := by rw [q0.2.2.2.2.1]
      have ha0_2 : (sk sh (sr sh r0 2)).2 = 14 := by rw [q0.2.2.2.2.2.1]
      have ha0_3 : (sk sh (sr sh r0 3)).2 = 98 := by rw [q0.2.2.2.2.2.2.1]
      have ha0_4 : (sk sh (sr sh r0 4)).2 = 98 := by rw [q0.2.2.2.2.2.2.2.1]
      have ha0_8 : (sk sh (sr sh r0 8)).2 = 1500 := by rw [q0.2.2.2.2.2.2.2.2.1]
      have ha0_9 : (sk sh (sr sh r0 9)).2 = 10500 := by rw [q0.2.2.2.2.2.2.2.2.2.1]
      have ha0_10 : (sk sh (sr sh r0 10)).2 = 7 := by rw [q0.2.2.2.2.2.2.2.2.2.2.1]
      have ha0_11 : (sk sh (sr sh r0 11)).2 = 7 := by rw [q0.2.2.2.2.2.2.2.2.2.2.2.1]
      have ha0_12 : (sk sh (sr sh r0 12)).2 = 1500 := by rw [q0.2.2.2.2.2.2.2.2.2.2.2.2.1]
      have ha0_13 : (sk sh (sr sh r0 13)).2 = 1500 := by rw [q0.2.2.2.2.2.2.2.2.2.2.2.2.2.1]
      have ha0_14 : (sk sh (sr sh r0 14)).2 = 20 := by rw [q0.2.2.2.2.2.2.2.2.2.2.2.2.2.2]
      have e0_2 : ∀ k, tg t1 (sr sh r0 2) k = tg t0 (sr sh r0 2) k := fun k => f0.eq q0 (i := 2) (by decide) (by decide) k
      have e0_3 : ∀ k, tg t1 (sr sh r0 3) k = tg t0 (sr sh r0 3) k := fun k => f0.eq q0 (i := 3) (by decide) (by decide) k
      have e0_4 : ∀ k, tg t1 (sr sh r0 4) k = tg t0 (sr sh r0 4) k := fun k => f0.eq q0 (i := 4) (by decide) (by decide) k
      have e0_11 : ∀ k, tg t1 (sr sh r0 11) k = tg t0 (sr sh r0 11) k := fun k => f0.eq q0 (i := 11) (by decide) (by decide) k
      try simp only [zt0, zt1, zt2, zt3, zt4, zt5, zt6, e0_2, e0_3, e0_4, e0_11] at hv
      try simp only [zt0, zt1, zt2, zt3, zt4, zt5, zt6, e0_2, e0_3, e0_4, e0_11] at hm
      have hi1 := hq1 (x6).toNat
      try simp only [zt0, zt1, zt2, zt3, zt4, zt5, zt6, e0_2, e0_3, e0_4, e0_11] at hi1
      have hi2 := hq2 (x6).toNat
      try simp only [zt0, zt1, zt2, zt3, zt4, zt5, zt6, e0_2, e0_3, e0_4, e0_11] at hi2
      have hi3 : ((x6).toNat + 1) = (x6 + 1).toNat := by omega
      try simp only [zt0, zt1, zt2, zt3, zt4, zt5, zt6, e0_2, e0_3, e0_4, e0_11] at hi3
      rw [hi3] at hi2
      try simp only [zput_s, zput_n, ti_g, oI_add, oI_sub, oI_mul]
      rw [b162_229 (o8 := o8) (wo8 := wo8)]
      try simp only [zput_s, zput_n, ti_g, oI_add, oI_sub, oI_mul]
      refine zok_ck ((q0).1) ?_
      refine zok_ck ⟨(by rw [(q0).2.2.2.2.2.2.2.2.2.2.2.2.2.1]), zin_o (by omega) (by omega) (by omega)⟩ ?_
      try rw [nN_o (a := x6) (by omega) (by omega)]
      try simp only [zput_s, zput_n, ti_g, oI_add, oI_sub, oI_mul, zt0, zt1, zt2, zt3, zt4, zt5, zt6, e0_2, e0_3, e0_4, e0_11]
      have gl2 := And.intro (tg_lo t1 (sr sh r0 13) ((x6).toNat)) (tg_hi t1 (sr sh r0 13) ((x6).toNat))
      try simp only [zt0, zt1, zt2, zt3, zt4, zt5, zt6, e0_2, e0_3, e0_4, e0_11] at gl2
      first | refine zok_le (by omega) (fun c3 => ?_) (fun c3 => ?_) | refine zok_if (fun c3 => ?_) (fun c3 => ?_)
      · first | refine zok_lt (by omega) (fun c4 => ?_) (fun c4 => ?_) | refine zok_if (fun c4 => ?_) (fun c4 => ?_)
        · try simp only [zput_s, zput_n, ti_g, oI_add, oI_sub, oI_mul]
          rw [b162_277 (o8 := o8) (wo8 := wo8)]
          try simp only [zput_s, zput_n, ti_g, oI_add, oI_sub, oI_mul]
          refine zok_ck ((q0).1) ?_
          refine zok_c0 (s152 (q0) (by omega) (by omega) (by first | (omega) | ((try simp only [zt0, zt1, zt2, zt3, zt4, zt5, zt6, e0_2, e0_3, e0_4, e0_11]); omega)) (by first | (omega) | ((try simp only [zt0, zt1, zt2, zt3, zt4, zt5, zt6, e0_2, e0_3, e0_4, e0_11]); omega)) (f0.g)) (fun t6 p6 => ?_)
          obtain ⟨f6, p6⟩ := p6
          have e6_2 : ∀ k, tg t6 (sr sh r0 2) k = tg t1 (sr sh r0 2) k := fun k => f6.eq q0 (i := 2) (by decide) (by decide) k
          have e6_3 : ∀ k, tg t6 (sr sh r0 3) k = tg t1 (sr sh r0 3) k := fun k => f6.eq q0 (i := 3) (by decide) (by decide) k
          have e6_4 : ∀ k, tg t6 (sr sh r0 4) k = tg t1 (sr sh r0 4) k := fun k => f6.eq q0 (i := 4) (by decide) (by decide) k
          have e6_11 : ∀ k, tg t6 (sr sh r0 11) k = tg t1 (sr sh r0 11) k := fun k => f6.eq q0 (i := 11) (by decide) (by decide) k
          have e6_12 : ∀ k, tg t6 (sr sh r0 12) k = tg t1 (sr sh r0 12) k := fun k => f6.eq q0 (i := 12) (by decide) (by decide) k
          have e6_13 : ∀ k, tg t6 (sr sh r0 13) k = tg t1 (sr sh r0 13) k := fun k => f6.eq q0 (i := 13) (by decide) (by decide) k
          try simp only [zt0, zt1, zt2, zt3, zt4, zt5, zt6, e0_2, e0_3, e0_4, e0_11, e6_2, e6_3, e6_4, e6_11, e6_12, e6_13] at p6
          try simp only [zput_s, zput_n, ti_g, oI_add, oI_sub, oI_mul]
          rw [b162_284 (o8 := o8) (wo8 := wo8)]
          try simp only [zput_s, zput_n, ti_g, oI_add, oI_sub, oI_mul]
          try simp only [zput_s, zput_n, ti_g, oI_add, oI_sub, oI_mul]
          exact ih.1 _ _ _ _ _ _ _ _ (by first | rfl | assumption) (by first | rfl | assumption) _ ((FrV.trans (Ns := [9, 10, 12, 13]) (f0) f6 (by decide) (by decide))) (by first | omega | ((try simp only [zt0, zt1, zt2, zt3, zt4, zt5, zt6, e0_2, e0_3, e0_4, e0_11, e6_2, e6_3, e6_4, e6_11, e6_12, e6_13]); omega)) (fun i hi => by have h := hq1 i; (try simp only [zt0, zt1, zt2, zt3, zt4, zt5, zt6, e0_2, e0_3, e0_4, e0_11, e6_2, e6_3, e6_4, e6_11, e6_12, e6_13, true_and]); omega) (fun i hi => by have h := hq2 i; (try simp only [zt0, zt1, zt2, zt3, zt4, zt5, zt6, e0_2, e0_3, e0_4, e0_11, e6_2, e6_3, e6_4, e6_11, e6_12, e6_13, true_and]); omega) (fun k hk => by ((try have c0 := hq3 k hk); (try have c0 := hq3 k); (have c1 := p6.2 k (by omega)); (try simp only [zt0, zt1, zt2, zt3, zt4, zt5, zt6] at *) <;> omega)) (by first | omega | ((try simp only [zt0, zt1, zt2, zt3, zt4, zt5, zt6, e0_2, e0_3, e0_4, e0_11, e6_2, e6_3, e6_4, e6_11, e6_12, e6_13]); omega))
        · first | refine zok_ne (by omega) (fun c8 => ?_) (fun c8 => ?_) | refine zok_if (fun c8 => ?_) (fun c8 => ?_)
          · try simp only [zput_s, zput_n, ti_g, oI_add, oI_sub, oI_mul]
            rw [b162_284 (o8 := o8) (wo8 := wo8)]
            try simp only [zput_s, zput_n, ti_g, oI_add, oI_sub, oI_mul]
            try simp only [zput_s, zput_n, ti_g, oI_add, oI_sub, oI_mul]
            exact ih.1 _ _ _ _ _ _ _ _ (by first | rfl | assumption) (by first | rfl | assumption) _ (f0) (by first | omega | ((try simp only [zt0, zt1, zt2, zt3, zt4, zt5, zt6, e0_2, e0_3, e0_4, e0_11]); omega)) (fun i hi => by have h := hq1 i; (try simp only [zt0, zt1, zt2, zt3, zt4, zt5, zt6, e0_2, e0_3, e0_4, e0_11, true_and]); omega) (fun i hi => by have h := hq2 i; (try simp only [zt0, zt1, zt2, zt3, zt4, zt5, zt6, e0_2, e0_3, e0_4, e0_11, true_and]); omega) (fun k hk => by ((try have c0 := hq3 k hk); (try have c0 := hq3 k); (try simp only [zt0, zt1, zt2, zt3, zt4, zt5, zt6] at *) <;> omega)) (by first | omega | ((try simp only [zt0, zt1, zt2, zt3, zt4, zt5, zt6, e0_2, e0_3, e0_4, e0_11]); omega))
          · try simp only [zput_s, zput_n, ti_g, oI_add, oI_sub, oI_mul]
            rw [b162_277 (o8 := o8) (wo8 := wo8)]
            try simp only [zput_s, zput_n, ti_g, oI_add, oI_sub, oI_mul]
            refine zok_ck ((q0).1) ?_
            refine zok_c0 (s152 (q0) (by omega) (by omega) (by first | (omega) | ((try simp only [zt0, zt1, zt2, zt3, zt4, zt5, zt6, e0_2, e0_3, e0_4, e0_11]); omega)) (by first | (omega) | ((try simp only [zt0, zt1, zt2, zt3, zt4, zt5, zt6, e0_2, e0_3, e0_4, e0_11]); omega)) (f0.g)) (fun t11 p11 => ?_)
            obtain ⟨f11, p11⟩ := p11
            have e11_2 : ∀ k, tg t11 (sr sh r0 2) k = tg t1 (sr sh r0 2) k := fun k => f11.eq q0 (i := 2) (by decide) (by decide) k
            have e11_3 : ∀ k, tg t11 (sr sh r0 3) k = tg t1 (sr sh r0 3) k := fun k => f11.eq q0 (i := 3) (by decide) (by decide) k
            have e11_4 : ∀ k, tg t11 (sr sh r0 4) k = tg t1 (sr sh r0 4) k := fun k => f11.eq q0 (i := 4) (by decide) (by decide) k
            have e11_11 : ∀ k, tg t11 (sr sh r0 11) k = tg t1 (sr sh r0 11) k := fun k => f11.eq q0 (i := 11) (by decide) (by decide) k
            have e11_12 : ∀ k, tg t11 (sr sh r0 12) k = tg t1 (sr sh r0 12) k := fun k => f11.eq q0 (i := 12) (by decide) (by decide) k
            have e11_13 : ∀ k, tg t11 (sr sh r0 13) k = tg t1 (sr sh r0 13) k := fun k => f11.eq q0 (i := 13) (by decide) (by decide) k
            try simp only [zt0, zt1, zt2, zt3, zt4, zt5, zt6, e0_2, e0_3, e0_4, e0_11, e11_2, e11_3, e11_4, e11_11, e11_12, e11_13] at p11
            try simp only [zput_s, zput_n, ti_g, oI_add, oI_sub, oI_mul]
            rw [b162_284 (o8 := o8) (wo8 := wo8)]
            try simp only [zput_s, zput_n, ti_g, oI_add, oI_sub, oI_mul]
            try simp only [zput_s, zput_n, ti_g, oI_add, oI_sub, oI_mul]
            exact ih.1 _ _ _ _ _ _ _ _ (by first | rfl | assumption) (by first | rfl | assumption) _ ((FrV.trans (Ns := [9, 10, 12, 13]) (f0) f11 (by decide) (by decide))) (by first | omega | ((try simp only [zt0, zt1, zt2, zt3, zt4, zt5, zt6, e0_2, e0_3, e0_4, e0_11, e11_2, e11_3, e11_4, e11_11, e11_12, e11_13]); omega)) (fun i hi => by have h := hq1 i; (try simp only [zt0, zt1, zt2, zt3, zt4, zt5, zt6, e0_2, e0_3, e0_4, e0_11, e11_2, e11_3, e11_4, e11_11, e11_12, e11_13, true_and]); omega) (fun i hi => by have h := hq2 i; (try simp only [zt0, zt1, zt2, zt3, zt4, zt5, zt6, e0_2, e0_3, e0_4, e0_11, e11_2, e11_3, e11_4, e11_11, e11_12, e11_13, true_and]); omega) (fun k hk => by ((try have c0 := hq3 k hk); (try have c0 := hq3 k); (have c1 := p11.2 k (by omega)); (try simp only [zt0, zt1, zt2, zt3, zt4, zt5, zt6] at *) <;> omega)) (by first | omega | ((try simp only [zt0, zt1, zt2, zt3, zt4, zt5, zt6, e0_2, e0_3, e0_4, e0_11, e11_2, e11_3, e11_4, e11_11, e11_12, e11_13]); omega))
      · refine zok_ck ((q0).1) ?_
        refine zok_ck ⟨(by rw [(q0).2.2.2.2.2.2.2.2.2.1]), zin_o (by omega) (by omega) (by omega)⟩ ?_
        try rw [nN_o (a := (6000) + (x7)) (by omega) (by omega)]
        try simp only [zput_s, zput_n, ti_g, oI_add, oI_sub, oI_mul, zt0, zt1, zt2, zt3, zt4, zt5, zt6, e0_2, e0_3, e0_4, e0_11]
        have gl13 := And.intro (tg_lo t1 (sr sh r0 9) (((6000) + (x7)).toNat)) (tg_hi t1 (sr sh r0 9) (((6000) + (x7)).toNat))
        try simp only [zt0, zt1, zt2, zt3, zt4, zt5, zt6, e0_2, e0_3, e0_4, e0_11] at gl13
        refine zok_ck ((q0).1) ?_
        refine zok_c0 (s152 (q0) (by omega) (by omega) (by first | (omega) | ((try simp only [zt0, zt1, zt2, zt3, zt4, zt5, zt6, e0_2, e0_3, e0_4, e0_11]); omega)) (by first | (omega) | ((try simp only [zt0, zt1, zt2, zt3, zt4, zt5, zt6, e0_2, e0_3, e0_4, e0_11]); omega)) (f0.g)) (fun t14 p14 => ?_)
        obtain ⟨f14, p14⟩ := p14
        have e14_2 : ∀ k, tg t14 (sr sh r0 2) k = tg t1 (sr sh r0 2) k := fun k => f14.eq q0 (i := 2) (by decide) (by decide) k
        have e14_3 : ∀ k, tg t14 (sr sh r0 3) k = tg t1 (sr sh r0 3) k := fun k => f14.eq q0 (i := 3) (by decide) (by decide) k
        have e14_4 : ∀ k, tg t14 (sr sh r0 4) k = tg t1 (sr sh r0 4) k := fun k => f14.eq q0 (i := 4) (by decide) (by decide) k
        have e14_11 : ∀ k, tg t14 (sr sh r0 11) k = tg t1 (sr sh r0 11) k := fun k => f14.eq q0 (i := 11) (by decide) (by decide) k
        have e14_12 : ∀ k, tg t14 (sr sh r0 12) k = tg t1 (sr sh r0 12) k := fun k => f14.eq q0 (i := 12) (by decide) (by decide) k
        have e14_13 : ∀ k, tg t14 (sr sh r0 13) k = tg t1 (sr sh r0 13) k := fun k => f14.eq q0 (i := 13) (by decide) (by decide) k
        try simp only [zt0, zt1, zt2, zt3, zt4, zt5, zt6, e0_2, e0_3, e0_4, e0_11, e14_2, e14_3, e14_4, e14_11, e14_12, e14_13] at p14
        try simp only [zput_s, zput_n, ti_g, oI_add, oI_sub, oI_mul]
        rw [b162_257 (o8 := o8) (wo8 := wo8)]
        try simp only [zput_s, zput_n, ti_g, oI_add, oI_sub, oI_mul]
        try simp only [zput_s, zput_n, ti_g, oI_add, oI_sub, oI_mul]
        exact ih.2 _ _ _ _ _ _ _ _ (by first | rfl | assumption) _ ((FrV.trans (Ns := [9, 10, 12, 13]) (f0) f14 (by decide) (by decide))) (by first | omega | ((try simp only [zt0, zt1, zt2, zt3, zt4, zt5, zt6, e0_2, e0_3, e0_4, e0_11, e14_2, e14_3, e14_4, e14_11, e14_12, e14_13]); omega)) (fun i hi => by have h := hq1 i; (try simp only [zt0, zt1, zt2, zt3, zt4, zt5, zt6, e0_2, e0_3, e0_4, e0_11, e14_2, e14_3, e14_4, e14_11, e14_12, e14_13, true_and]); omega) (fun i hi => by have h := hq2 i; (try simp only [zt0, zt1, zt2, zt3, zt4, zt5, zt6, e0_2, e0_3, e0_4, e0_11, e14_2, e14_3, e14_4, e14_11, e14_12, e14_13, true_and]); omega) (fun k hk => by ((try have c0 := hq3 k hk); (try have c0 := hq3 k); (have c1 := p14.2 k (by omega)); (try simp only [zt0, zt1, zt2, zt3, zt4, zt5, zt6] at *) <;> omega)) (by first | omega | ((try simp only [zt0, zt1, zt2, zt3, zt4, zt5, zt6, e0_2, e0_3, e0_4, e0_11, e14_2, e14_3, e14_4, e14_11, e14_12, e14_13]); omega))
theorem l162_213 {sh : zSh} {t0 : zSt} {MB : Nat} {r0 : Nat} (q0 : zMd sh MB r0) (d1 : tg t0 (sr sh r0 10) 4 ≤ 1400) (G : GI sh r0 t0) : ∀ (n : Nat) (x1 : Int) (x2 : Int) (x3 : Int) (x4 : Int) (v5 : Int32) (x6 : Int) (o7 : Option zV) (o8 : Option zV) (wo7 : zisL o7 = false) (wo8 : zisL o8 = false) (t1 : zSt), FrV sh r0 [9, 10, 12, 13] t0 t1 → (-2147483648 ≤ x1 ∧ x1 ≤ 2147483647) ∧ (-2147483648 ≤ x2 ∧ x2 ≤ 2147483647) ∧ (-2147483648 ≤ x3 ∧ x3 ≤ 2147483647) ∧ (-2147483648 ≤ x4 ∧ x4 ≤ 2147483647) ∧ (-2147483648 ≤ x6 ∧ x6 ≤ 2147483647) ∧ (0 ≤ x4 ∧ x4 ≤ 1401 ∧ 0 ≤ x1 ∧ x1 ≤ 1400 ∧ x1 = tg t0 (sr sh r0 10) 4 ∧ 0 ≤ x6 ∧ x6 ≤ x4 ∧ 0 ≤ x2) ∧ (tg t1 (sr sh r0 10) 4 ≤ x1 + 1) ∧ (x6 < x4 → tg t1 (sr sh r0 10) 4 ≤ tg t1 (sr sh r0 12) (x6).toNat) → (∀ i : Nat, (i : Int) < x4 → x2 ≤ tg t1 (sr sh r0 12) i ∧ tg t1 (sr sh r0 12) i ≤ tg t1 (sr sh r0 13) i ∧ tg t1 (sr sh r0 13) i ≤ x1) → (∀ i : Nat, (i : Int) + 1 < x4 → tg t1 (sr sh r0 13) i + 1 ≤ tg t1 (sr sh r0 12) (i + 1)) → (∀ k, k ≠ 4 → tg t1 (sr sh r0 10) k = tg t0 (sr sh r0 10) k) → (10000 * (x4 - x6) + 9000).toNat < n → zok (zev zP 162 213 [some (zR r0), some (zI (oI x1)), some (zI (oI x2)), some (zI (oI x3)), some (zI (oI x4)), some (zI v5), some (zI (oI x6)), o7, o8] [] (sh, t1)) (zq0 (fun t' => FrV sh r0 [9, 10, 12, 13] t0 t' ∧ (tg t' (sr sh r0 10) 4 ≤ tg t0 (sr sh r0 10) 4 + 1 ∧ ∀ k, k ≠ 4 → tg t' (sr sh r0 10) k = tg t0 (sr sh r0 10) k)) sh) := fun n => (l162_J213  q0 d1 G n).1
theorem l162_229 {sh : zSh} {t0 : zSt} {MB : Nat} {r0 : Nat} (q0 : zMd sh MB r0) (d1 : tg t0 (sr sh r0 10) 4 ≤ 1400) (G : GI sh r0 t0) : ∀ (n : Nat) (x1 : Int) (x2 : Int) (x3 : Int) (x4 : Int) (v5 : Int32) (x6 : Int) (x7 : Int) (o8 : Option zV) (wo8 : zisL o8 = false) (t1 : zSt), FrV sh r0 [9, 10, 12, 13] t0 t1 → (-2147483648 ≤ x1 ∧ x1 ≤ 2147483647) ∧ (-2147483648 ≤ x2 ∧ x2 ≤ 2147483647) ∧ (-2147483648 ≤ x3 ∧ x3 ≤ 2147483647) ∧ (-2147483648 ≤ x4 ∧ x4 ≤ 2147483647) ∧ (-2147483648 ≤ x6 ∧ x6 ≤ 2147483647) ∧ (-2147483648 ≤ x7 ∧ x7 ≤ 2147483647) ∧ (0 ≤ x4 ∧ x4 ≤ 1401 ∧ 0 ≤ x1 ∧ x1 ≤ 1400 ∧ x1 = tg t0 (sr sh r0 10) 4 ∧ 0 ≤ x6 ∧ x6 ≤ x4 ∧ 0 ≤ x2 ∧ x6 < x4) ∧ (tg t1 (sr sh r0 10) 4 ≤ x7 ∧ 0 ≤ x7 ∧ x7 ≤ tg t1 (sr sh r0 13) (x6).toNat) → (∀ i : Nat, (i : Int) < x4 → x2 ≤ tg t1 (sr sh r0 12) i ∧ tg t1 (sr sh r0 12) i ≤ tg t1 (sr sh r0 13) i ∧ tg t1 (sr sh r0 13) i ≤ x1) → (∀ i : Nat, (i : Int) + 1 < x4 → tg t1 (sr sh r0 13) i + 1 ≤ tg t1 (sr sh r0 12) (i + 1)) → (∀ k, k ≠ 4 → tg t1 (sr sh r0 10) k = tg t0 (sr sh r0 10) k) → (10000 * (x4 - x6) + 3000 - x7).toNat < n → zok (zev zP 162 229 [some (zR r0), some (zI (oI x1)), some (zI (oI x2)), some (zI (oI x3)), some (zI (oI x4)), some (zI v5), some (zI (oI x6)), some (zI (oI x7)), o8] [] (sh, t1)) (zq0 (fun t' => FrV sh r0 [9, 10, 12, 13] t0 t' ∧ (tg t' (sr sh r0 10) 4 ≤ tg t0 (sr sh r0 10) 4 + 1 ∧ ∀ k, k ≠ 4 → tg t' (sr sh r0 10) k = tg t0 (sr sh r0 10) k)) sh) := fun n => (l162_J213  q0 d1 G n).2
theorem l162_J40 {sh : zSh} {t0 : zSt} {MB : Nat} {r0 : Nat} (q0 : zMd sh MB r0) (d1 : tg t0 (sr sh r0 10) 4 ≤ 1400) (G : GI sh r0 t0) : ∀ (n : Nat), (∀ (x1 : Int) (x2 : Int) (x3 : Int) (x4 : Int) (v5 : Int32) (o6 : Option zV) (o7 : Option zV) (o8 : Option zV) (wo6 : zisL o6 = false) (wo7 : zisL o7 = false) (wo8 : zisL o8 = false) (t1 : zSt), FrV sh r0 [9, 10, 12, 13] t0 t1 → (-2147483648 ≤ x1 ∧ x1 ≤ 2147483647) ∧ (-2147483648 ≤ x2 ∧ x2 ≤ 2147483647) ∧ (-2147483648 ≤ x3 ∧ x3 ≤ 2147483647) ∧ (-2147483648 ≤ x4 ∧ x4 ≤ 2147483647) ∧ (0 ≤ x3 ∧ 0 ≤ x4 ∧ x4 ≤ x3 ∧ 0 ≤ x2 ∧ x2 ≤ 1 ∧ x2 ≤ x3 ∧ 0 ≤ x1 ∧ x1 ≤ 1400 ∧ x1 = tg t0 (sr sh r0 10) 4 ∧ x3 ≤ x1 + 1) → (∀ i : Nat, (i : Int) < x4 → x2 ≤ tg t1 (sr sh r0 12) i ∧ tg t1 (sr sh r0 12) i ≤ tg t1 (sr sh r0 13) i ∧ tg t1 (sr sh r0 13) i ≤ x1 ∧ tg t1 (sr sh r0 13) i + 1 ≤ x3) → (∀ i : Nat, (i : Int) + 1 < x4 → tg t1 (sr sh r0 13) i + 1 ≤ tg t1 (sr sh r0 12) (i + 1)) → (∀ k : Nat, tg t1 (sr sh r0 10) k = tg t0 (sr sh r0 10) k) → (2 * (x1 - x3) + 2).toNat < n → zok (zev zP 162 40 [some (zR r0), some (zI (oI x1)), some (zI (oI x2)), some (zI (oI x3)), some (zI (oI x4)), some (zI v5), o6, o7, o8] [] (sh, t1)) (zq0 (fun t' => FrV sh r0 [9, 10, 12, 13] t0 t' ∧ (tg t' (sr sh r0 10) 4 ≤ tg t0 (sr sh r0 10) 4 + 1 ∧ ∀ k, k ≠ 4 → tg t' (sr sh r0 10) k = tg t0 (sr sh r0 10) k)) sh)) ∧ (∀ (x1 : Int) (x2 : Int) (x3 : Int) (x4 : Int) (v5 : Int32) (x6 : Int) (x7 : Int) (x8 : Int)  (t1 : zSt), FrV sh r0 [9, 10, 12, 13] t0 t1 → (-2147483648 ≤ x1 ∧ x1 ≤ 2147483647) ∧ (-2147483648 ≤ x2 ∧ x2 ≤ 2147483647) ∧ (-2147483648 ≤ x3 ∧ x3 ≤ 2147483647) ∧ (-2147483648 ≤ x4 ∧ x4 ≤ 2147483647) ∧ (-2147483648 ≤ x6 ∧ x6 ≤ 2147483647) ∧ (-2147483648 ≤ x7 ∧ x7 ≤ 2147483647) ∧ (-2147483648 ≤ x8 ∧ x8 ≤ 2147483647) ∧ (0 ≤ x3 ∧ 0 ≤ x4 ∧ x4 ≤ x3 ∧ 0 ≤ x2 ∧ x2 ≤ 1 ∧ x2 ≤ x3 ∧ 0 ≤ x1 ∧ x1 ≤ 1400 ∧ x1 = tg t0 (sr sh r0 10) 4 ∧ x3 ≤ x1 ∧ x3 ≤ x6 ∧ x6 ≤ x1) → (∀ i : Nat, (i : Int) < x4 → x2 ≤ tg t1 (sr sh r0 12) i ∧ tg t1 (sr sh r0 12) i ≤ tg t1 (sr sh r0 13) i ∧ tg t1 (sr sh r0 13) i ≤ x1 ∧ tg t1 (sr sh r0 13) i + 1 ≤ x3) → (∀ i : Nat, (i : Int) + 1 < x4 → tg t1 (sr sh r0 13) i + 1 ≤ tg t1 (sr sh r0 12) (i + 1)) → (∀ k : Nat, tg t1 (sr sh r0 10) k = tg t0 (sr sh r0 10) k) → (2 * (x1 - x3) + 1).toNat < n → zok (zev zP 162 119 [some (zR r0), some (zI (oI x1)), some (zI (oI x2)), some (zI (oI x3)), some (zI (oI x4)), some (zI v5), some (zI (oI x6)), some (zI (oI x7)), some (zI (oI x8))] [] (sh, t1)) (zq0 (fun t' => FrV sh r0 [9, 10, 12, 13] t0 t' ∧ (tg t' (sr sh r0 10) 4 ≤ tg t0 (sr sh r0 10) 4 + 1 ∧ ∀ k, k ≠ 4 → tg t' (sr sh r0 10) k = tg t0 (sr sh r0 10) k)) sh)) := by
  intro n
  induction n with
  | zero => exact ⟨(by intro x1 x2 x3 x4 v5 o6 o7 o8 wo6 wo7 wo8 t1 f0 _ _ _ _ hm; omega), (by intro x1 x2 x3 x4 v5 x6 x7 x8  t1 f0 _ _ _ _ hm; omega)⟩
  | succ n ih =>
    refine ⟨?_, ?_⟩
    · intro x1 x2 x3 x4 v5 o6 o7 o8 wo6 wo7 wo8 t1 f0 hv hq1 hq2 hq3 hm
      obtain ⟨x5, a5, b5, rfl⟩ := oI_nf v5
      have ha0_1 : (sk sh (sr sh r0 1)).2 = 21000 := by rw [q0.2.2.2.2.1]
      have ha0_2 : (sk sh (sr sh r0 2)).2 = 14 := by rw [q0.2.2.2.2.2.1]
      have ha0_3 : (sk sh (sr sh r0 3)).2 = 98 := by rw [q0.2.2.2.2.2.2.1]
      have ha0_4 : (sk sh (sr sh r0 4)).2 = 98 := by rw [q0.2.2.2.2.2.2.2.1]
      have ha0_8 : (sk sh (sr sh r0 8)).2 = 1500 := by rw [q0.2.2.2.2.2.2.2.2.1]
      have ha0_9 : (sk sh (sr sh r0 9)).2 = 10500 := by rw [q0.2.2.2.2.2.2.2.2.2.1]
      have ha0_10 : (sk sh (sr sh r0 10)).2 = 7 := by rw [q0.2.2.2.2.2.2.2.2.2.2.1]
      have ha0_11 : (sk sh (sr sh r0 11)).2 = 7 := by rw [q0.2.2.2.2.2.2.2.2.2.2.2.1]
      have ha0_12 : (sk sh (sr sh r0 12)).2 = 1500 := by rw [q0.2.2.2.2.2.2.2.2.2.2.2.2.1]
      have ha0_13 : (sk sh (sr sh r0 13)).2 = 1500 := by rw [q0.2.2.2.2.2.2.2.2.2.2.2.2.2.1]
      have ha0_14 : (sk sh (sr sh r0 14)).2 = 20 := by rw [q0.2.2.2.2.2.2.2.2.2.2.2.2.2.2]
      have e0_2 : ∀ k, tg t1 (sr sh r0 2) k = tg t0 (sr sh r0 2) k := fun k => f0.eq q0 (i := 2) (by decide) (by decide) k
      have e0_3 : ∀ k, tg t1 (sr sh r0 3) k = tg t0 (sr sh r0 3) k := fun k => f0.eq q0 (i := 3) (by decide) (by decide) k
      have e0_4 : ∀ k, tg t1 (sr sh r0 4) k = tg t0 (sr sh r0 4) k := fun k => f0.eq q0 (i := 4) (by decide) (by decide) k
      have e0_11 : ∀ k, tg t1 (sr sh r0 11) k = tg t0 (sr sh r0 11) k := fun k => f0.eq q0 (i := 11) (by decide) (by decide) k
      try simp only [zt0, zt1, zt2, zt3, zt4, zt5, zt6, e0_2, e0_3, e0_4, e0_11] at hv
      try simp only [zt0, zt1, zt2, zt3, zt4, zt5, zt6, e0_2, e0_3, e0_4, e0_11] at hm
      have hi1 := hq1 0
      try simp only [zt0, zt1, zt2, zt3, zt4, zt5, zt6, e0_2, e0_3, e0_4, e0_11] at hi1
      have hL := hq3 4
      try simp only [zt0, zt1, zt2, zt3, zt4, zt5, zt6, e0_2, e0_3, e0_4, e0_11] at hL
      try simp only [zput_s, zput_n, ti_g, oI_add, oI_sub, oI_mul]
      rw [b162_40 (o6 := o6) (wo6 := wo6) (o7 := o7) (wo7 := wo7) (o8 := o8) (wo8 := wo8)]
      try simp only [zput_s, zput_n, ti_g, oI_add, oI_sub, oI_mul]
      first | refine zok_lt (by omega) (fun c2 => ?_) (fun c2 => ?_) | refine zok_if (fun c2 => ?_) (fun c2 => ?_)
      · refine zok_ck ((q0).1) ?_
        refine zok_ck ⟨(by rw [(q0).2.2.2.2.2.2.2.2.2.2.1]), zin_o (by omega) (by omega) (by omega)⟩ ?_
        try rw [nN_o (a := 4) (by omega) (by omega)]
        try rw [show (4 : Int).toNat = 4 from rfl]
        try simp only [zput_s, zput_n, ti_g, oI_add, oI_sub, oI_mul, zt0, zt1, zt2, zt3, zt4, zt5, zt6, e0_2, e0_3, e0_4, e0_11]
        obtain ⟨t3, ht3⟩ : ∃ t', t' = tI t1 (sr sh r0 10) (4) (oI (0)) := ⟨_, rfl⟩
        try simp only [zt0, zt1, zt2, zt3, zt4, zt5, zt6, e0_2, e0_3, e0_4, e0_11] at ht3
        rw [← ht3]
        have f3 : FrV sh r0 [10] t1 t3 := by rw [ht3]; exact GI_ls q0 (f0.g) (by omega) (by omega)
        have w3 : ∀ k, tg t3 (sr sh r0 10) k = if k = 4 then 0 else tg t1 (sr sh r0 10) k := fun k => by rw [ht3]; refine (tg_at (by omega)).trans ?_; first | rfl | simp only [zt0, zt1, zt2, zt3, zt4, zt5, zt6, e0_2, e0_3, e0_4, e0_11, true_and]
        have ws3 : tg t3 (sr sh r0 10) (4) = 0 := by rw [w3, if_pos rfl]
        try simp only [zt0, zt1, zt2, zt3, zt4, zt5, zt6, e0_2, e0_3, e0_4, e0_11] at w3
        try simp only [zt0, zt1, zt2, zt3, zt4, zt5, zt6, e0_2, e0_3, e0_4, e0_11] at ws3
        have e3_2 : ∀ k, tg t3 (sr sh r0 2) k = tg t1 (sr sh r0 2) k := fun k => f3.eq q0 (i := 2) (by decide) (by decide) k
        have e3_3 : ∀ k, tg t3 (sr sh r0 3) k = tg t1 (sr sh r0 3) k := fun k => f3.eq q0 (i := 3) (by decide) (by decide) k
        have e3_4 : ∀ k, tg t3 (sr sh r0 4) k = tg t1 (sr sh r0 4) k := fun k => f3.eq q0 (i := 4) (by decide) (by decide) k
        have e3_9 : ∀ k, tg t3 (sr sh r0 9) k = tg t1 (sr sh r0 9) k := fun k => f3.eq q0 (i := 9) (by decide) (by decide) k
        have e3_11 : ∀ k, tg t3 (sr sh r0 11) k = tg t1 (sr sh r0 11) k := fun k => f3.eq q0 (i := 11) (by decide) (by decide) k
        have e3_12 : ∀ k, tg t3 (sr sh r0 12) k = tg t1 (sr sh r0 12) k := fun k => f3.eq q0 (i := 12) (by decide) (by decide) k
        have e3_13 : ∀ k, tg t3 (sr sh r0 13) k = tg t1 (sr sh r0 13) k := fun k => f3.eq q0 (i := 13) (by decide) (by decide) k
        first | refine zok_eq (by omega) (fun c4 => ?_) (fun c4 => ?_) | refine zok_if (fun c4 => ?_) (fun c4 => ?_)
        · try simp only [zput_s, zput_n, ti_g, oI_add, oI_sub, oI_mul]
          rw [b162_210 (o6 := o6) (wo6 := wo6) (o7 := o7) (wo7 := wo7) (o8 := o8) (wo8 := wo8)]
          try simp only [zput_s, zput_n, ti_g, oI_add, oI_sub, oI_mul]
          try simp only [zput_s, zput_n, ti_g, oI_add, oI_sub, oI_mul]
          exact l162_213 q0 d1 G _ _ _ _ _ _ _ _ _ (by first | rfl | assumption) (by first | rfl | assumption) _ ((FrV.trans (Ns := [9, 10, 12, 13]) (f0) f3 (by decide) (by decide))) (by first | omega | ((try simp only [zt0, zt1, zt2, zt3, zt4, zt5, zt6, e0_2, e0_3, e0_4, e0_11, e3_2, e3_3, e3_4, e3_9, e3_11, e3_12, e3_13]); omega)) (fun i hi => by have h := hq1 i; (try simp only [w3, zt0, zt1, zt2, zt3, zt4, zt5, zt6, e0_2, e0_3, e0_4, e0_11, e3_2, e3_3, e3_4, e3_9, e3_11, e3_12, e3_13, true_and]); omega) (fun i hi => by have h := hq2 i; (try simp only [w3, zt0, zt1, zt2, zt3, zt4, zt5, zt6, e0_2, e0_3, e0_4, e0_11, e3_2, e3_3, e3_4, e3_9, e3_11, e3_12, e3_13, true_and]); omega) (fun k hk => by ((try have c0 := hq3 k hk); (try have c0 := hq3 k); (have c1 := w3 k); (try simp only [zt0, zt1, zt2, zt3, zt4, zt5, zt6] at *) <;> omega)) (Nat.lt_succ_self _)
        · refine zok_ck ((q0).1) ?_
          refine zok_c0 (s152 (q0) (by omega) (by omega) (by first | (omega) | ((try simp only [zt0, zt1, zt2, zt3, zt4, zt5, zt6, e0_2, e0_3, e0_4, e0_11, e3_2, e3_3, e3_4, e3_9, e3_11, e3_12, e3_13]); omega)) (by first | (omega) | ((try simp only [zt0, zt1, zt2, zt3, zt4, zt5, zt6, e0_2, e0_3, e0_4, e0_11, e3_2, e3_3, e3_4, e3_9, e3_11, e3_12, e3_13]); omega)) (f3.g)) (fun t6 p6 => ?_)
          obtain ⟨f6, p6⟩ := p6
          have e6_2 : ∀ k, tg t6 (sr sh r0 2) k = tg t3 (sr sh r0 2) k := fun k => f6.eq q0 (i := 2) (by decide) (by decide) k
          have e6_3 : ∀ k, tg t6 (sr sh r0 3) k = tg t3 (sr sh r0 3) k := fun k => f6.eq q0 (i := 3) (by decide) (by decide) k
          have e6_4 : ∀ k, tg t6 (sr sh r0 4) k = tg t3 (sr sh r0 4) k := fun k => f6.eq q0 (i := 4) (by decide) (by decide) k
          have e6_11 : ∀ k, tg t6 (sr sh r0 11) k = tg t3 (sr sh r0 11) k := fun k => f6.eq q0 (i := 11) (by decide) (by decide) k
          have e6_12 : ∀ k, tg t6 (sr sh r0 12) k = tg t3 (sr sh r0 12) k := fun k => f6.eq q0 (i := 12) (by decide) (by decide) k
          have e6_13 : ∀ k, tg t6 (sr sh r0 13) k = tg t3 (sr sh r0 13) k := fun k => f6.eq q0 (i := 13) (by decide) (by decide) k
          try simp only [zt0, zt1, zt2, zt3, zt4, zt5, zt6, e0_2, e0_3, e0_4, e0_11, e3_2, e3_3, e3_4, e3_9, e3_11, e3_12, e3_13, e6_2, e6_3, e6_4, e6_11, e6_12, e6_13] at p6
          try simp only [zput_s, zput_n, ti_g, oI_add, oI_sub, oI_mul]
          rw [b162_210 (o6 := o6) (wo6 := wo6) (o7 := o7) (wo7 := wo7) (o8 := o8) (wo8 := wo8)]
          try simp only [zput_s, zput_n, ti_g, oI_add, oI_sub, oI_mul]
          try simp only [zput_s, zput_n, ti_g, oI_add, oI_sub, oI_mul]
          exact l162_213 q0 d1 G _ _ _ _ _ _ _ _ _ (by first | rfl | assumption) (by first | rfl | assumption) _ ((FrV.trans (Ns := [9, 10, 12, 13]) ((FrV.trans (Ns := [9, 10, 12, 13]) (f0) f3 (by decide) (by decide))) f6 (by decide) (by decide))) (by first | omega | ((try simp only [zt0, zt1, zt2, zt3, zt4, zt5, zt6, e0_2, e0_3, e0_4, e0_11, e3_2, e3_3, e3_4, e3_9, e3_11, e3_12, e3_13, e6_2, e6_3, e6_4, e6_11, e6_12, e6_13]); omega)) (fun i hi => by have h := hq1 i; (try simp only [w3, zt0, zt1, zt2, zt3, zt4, zt5, zt6, e0_2, e0_3, e0_4, e0_11, e3_2, e3_3, e3_4, e3_9, e3_11, e3_12, e3_13, e6_2, e6_3, e6_4, e6_11, e6_12, e6_13, true_and]); omega) (fun i hi => by have h := hq2 i; (try simp only [w3, zt0, zt1, zt2, zt3, zt4, zt5, zt6, e0_2, e0_3, e0_4, e0_11, e3_2, e3_3, e3_4, e3_9, e3_11, e3_12, e3_13, e6_2, e6_3, e6_4, e6_11, e6_12, e6_13, true_and]); omega) (fun k hk => by ((try have c0 := hq3 k hk); (try have c0 := hq3 k); (have c1 := w3 k); (have c9 := p6.2 k (by omega)); (try simp only [zt0, zt1, zt2, zt3, zt4, zt5, zt6] at *) <;> omega)) (Nat.lt_succ_self _)
      · refine zok_ck ((q0).1) ?_
        refine zok_pI (s161 (q0) (by omega) (by omega) (by first | (omega) | ((try simp only [zt0, zt1, zt2, zt3, zt4, zt5, zt6, e0_2, e0_3, e0_4, e0_11]); omega)) (f0.g)) (fun y8 u8 p8 => ?_)
        try simp only [zt0, zt1, zt2, zt3, zt4, zt5, zt6, e0_2, e0_3, e0_4, e0_11] at p8
        try simp only [zput_s, zput_n, ti_g, oI_add, oI_sub, oI_mul]
        rw [b162_52 (o6 := o6) (wo6 := wo6) (o7 := o7) (wo7 := wo7) (o8 := o8) (wo8 := wo8)]
        try simp only [zput_s, zput_n, ti_g, oI_add, oI_sub, oI_mul]
        first | refine zok_ne (by omega) (fun c10 => ?_) (fun c10 => ?_) | refine zok_if (fun c10 => ?_) (fun c10 => ?_)
        · try simp only [zput_s, zput_n, ti_g, oI_add, oI_sub, oI_mul]
          rw [b162_77 (o7 := o7) (wo7 := wo7) (o8 := o8) (wo8 := wo8)]
          try simp only [zput_s, zput_n, ti_g, oI_add, oI_sub, oI_mul]
          try simp only [zput_s, zput_n, ti_g, oI_add, oI_sub, oI_mul]
          rw [b162_78 (o7 := o7) (wo7 := wo7) (o8 := o8) (wo8 := wo8)]
          try simp only [zput_s, zput_n, ti_g, oI_add, oI_sub, oI_mul]
          first | refine zok_ne (by omega) (fun c13 => ?_) (fun c13 => ?_) | refine zok_if (fun c13 => ?_) (fun c13 => ?_)
          · try simp only [zput_s, zput_n, ti_g, oI_add, oI_sub, oI_mul]
            rw [b162_116 (o8 := o8) (wo8 := wo8)]
            try simp only [zput_s, zput_n, ti_g, oI_add, oI_sub, oI_mul]
            try simp only [zput_s, zput_n, ti_g, oI_add, oI_sub, oI_mul]
            rw [b162_117 (o8 := o8) (wo8 := wo8)]
            try simp only [zput_s, zput_n, ti_g, oI_add, oI_sub, oI_mul]
            try simp only [zput_s, zput_n, ti_g, oI_add, oI_sub, oI_mul]
            exact ih.2 _ _ _ _ _ _ _ _ _ (f0) (by first | omega | ((try simp only [zt0, zt1, zt2, zt3, zt4, zt5, zt6, e0_2, e0_3, e0_4, e0_11]); omega)) (fun i hi => by first | (have h := hq1 i; (try simp only [zt0, zt1, zt2, zt3, zt4, zt5, zt6, e0_2, e0_3, e0_4, e0_11, true_and]); omega) | omega) (fun i hi => by first | (have h := hq2 i; have h2 := hq1 i; (try simp only [zt0, zt1, zt2, zt3, zt4, zt5, zt6, e0_2, e0_3, e0_4, e0_11, true_and]); omega) | omega) (fun k => by first | rfl | exact hq3 k | (simp only [zt0, zt1, zt2, zt3, zt4, zt5, zt6, e0_2, e0_3, e0_4, e0_11, true_and]; exact hq3 k)) (by first | omega | ((try simp only [zt0, zt1, zt2, zt3, zt4, zt5, zt6, e0_2, e0_3, e0_4, e0_11]); omega))
          · refine zok_ck ((q0).1) ?_
            refine zok_pI (s160 (q0) (by omega) (by omega) (by first | (omega) | ((try simp only [zt0, zt1, zt2, zt3, zt4, zt5, zt6, e0_2, e0_3, e0_4, e0_11]); omega)) (f0.g)) (fun y16 u16 p16 => ?_)
            try simp only [zt0, zt1, zt2, zt3, zt4, zt5, zt6, e0_2, e0_3, e0_4, e0_11] at p16
            try simp only [zput_s, zput_n, ti_g, oI_add, oI_sub, oI_mul]
            rw [b162_94 (o8 := o8) (wo8 := wo8)]
            try simp only [zput_s, zput_n, ti_g, oI_add, oI_sub, oI_mul]
            first | refine zok_ne (by omega) (fun c18 => ?_) (fun c18 => ?_) | refine zok_if (fun c18 => ?_) (fun c18 => ?_)
            · try simp only [zput_s, zput_n, ti_g, oI_add, oI_sub, oI_mul]
              rw [b162_116 (o8 := o8) (wo8 := wo8)]
              try simp only [zput_s, zput_n, ti_g, oI_add, oI_sub, oI_mul]
              try simp only [zput_s, zput_n, ti_g, oI_add, oI_sub, oI_mul]
              rw [b162_117 (o8 := o8) (wo8 := wo8)]
              try simp only [zput_s, zput_n, ti_g, oI_add, oI_sub, oI_mul]
              try simp only [zput_s, zput_n, ti_g, oI_add, oI_sub, oI_mul]
              exact ih.2 _ _ _ _ _ _ _ _ _ (f0) (by first | omega | ((try simp only [zt0, zt1, zt2, zt3, zt4, zt5, zt6, e0_2, e0_3, e0_4, e0_11]); omega)) (fun i hi => by first | (have h := hq1 i; (try simp only [zt0, zt1, zt2, zt3, zt4, zt5, zt6, e0_2, e0_3, e0_4, e0_11, true_and]); omega) | omega) (fun i hi => by first | (have h := hq2 i; have h2 := hq1 i; (try simp only [zt0, zt1, zt2, zt3, zt4, zt5, zt6, e0_2, e0_3, e0_4, e0_11, true_and]); omega) | omega) (fun k => by first | rfl | exact hq3 k | (simp only [zt0, zt1, zt2, zt3, zt4, zt5, zt6, e0_2, e0_3, e0_4, e0_11, true_and]; exact hq3 k)) (by first | omega | ((try simp only [zt0, zt1, zt2, zt3, zt4, zt5, zt6, e0_2, e0_3, e0_4, e0_11]); omega))
            · refine zok_ck ((q0).1) ?_
              refine zok_pI (s160 (q0) (by omega) (by omega) (by first | (omega) | ((try simp only [zt0, zt1, zt2, zt3, zt4, zt5, zt6, e0_2, e0_3, e0_4, e0_11]); omega)) (f0.g)) (fun y21 u21 p21 => ?_)
              try simp only [zt0, zt1, zt2, zt3, zt4, zt5, zt6, e0_2, e0_3, e0_4, e0_11] at p21
              try simp only [zput_s, zput_n, ti_g, oI_add, oI_sub, oI_mul]
              rw [b162_107 (o8 := o8) (wo8 := wo8)]
              try simp only [zput_s, zput_n, ti_g, oI_add, oI_sub, oI_mul]
              first | refine zok_ne (by omega) (fun c23 => ?_) (fun c23 => ?_) | refine zok_if (fun c23 => ?_) (fun c23 => ?_)
              · try simp only [zput_s, zput_n, ti_g, oI_add, oI_sub, oI_mul]
                rw [b162_116 (o8 := o8) (wo8 := wo8)]
                try simp only [zput_s, zput_n, ti_g, oI_add, oI_sub, oI_mul]
                try simp only [zput_s, zput_n, ti_g, oI_add, oI_sub, oI_mul]
                rw [b162_117 (o8 := o8) (wo8 := wo8)]
                try simp only [zput_s, zput_n, ti_g, oI_add, oI_sub, oI_mul]
                try simp only [zput_s, zput_n, ti_g, oI_add, oI_sub, oI_mul]
                exact ih.2 _ _ _ _ _ _ _ _ _ (f0) (by first | omega | ((try simp only [zt0, zt1, zt2, zt3, zt4, zt5, zt6, e0_2, e0_3, e0_4, e0_11]); omega)) (fun i hi => by first | (have h := hq1 i; (try simp only [zt0, zt1, zt2, zt3, zt4, zt5, zt6, e0_2, e0_3, e0_4, e0_11, true_and]); omega) | omega) (fun i hi => by first | (have h := hq2 i; have h2 := hq1 i; (try simp only [zt0, zt1, zt2, zt3, zt4, zt5, zt6, e0_2, e0_3, e0_4, e0_11, true_and]); omega) | omega) (fun k => by first | rfl | exact hq3 k | (simp only [zt0, zt1, zt2, zt3, zt4, zt5, zt6, e0_2, e0_3, e0_4, e0_11, true_and]; exact hq3 k)) (by first | omega | ((try simp only [zt0, zt1, zt2, zt3, zt4, zt5, zt6, e0_2, e0_3, e0_4, e0_11]); omega))
              · try simp only [zput_s, zput_n, ti_g, oI_add, oI_sub, oI_mul]
                rw [b162_117 (o8 := o8) (wo8 := wo8)]
                try simp only [zput_s, zput_n, ti_g, oI_add, oI_sub, oI_mul]
                try simp only [zput_s, zput_n, ti_g, oI_add, oI_sub, oI_mul]
                exact ih.2 _ _ _ _ _ _ _ _ _ (f0) (by first | omega | ((try simp only [zt0, zt1, zt2, zt3, zt4, zt5, zt6, e0_2, e0_3, e0_4, e0_11]); omega)) (fun i hi => by first | (have h := hq1 i; (try simp only [zt0, zt1, zt2, zt3, zt4, zt5, zt6, e0_2, e0_3, e0_4, e0_11, true_and]); omega) | omega) (fun i hi => by first | (have h := hq2 i; have h2 := hq1 i; (try simp only [zt0, zt1, zt2, zt3, zt4, zt5, zt6, e0_2, e0_3, e0_4, e0_11, true_and]); omega) | omega) (fun k => by first | rfl | exact hq3 k | (simp only [zt0, zt1, zt2, zt3, zt4, zt5, zt6, e0_2, e0_3, e0_4, e0_11, true_and]; exact hq3 k)) (by first | omega | ((try simp only [zt0, zt1, zt2, zt3, zt4, zt5, zt6, e0_2, e0_3, e0_4, e0_11]); omega))
        · refine zok_ck ((q0).1) ?_
          refine zok_pI (s160 (q0) (by omega) (by omega) (by first | (omega) | ((try simp only [zt0, zt1, zt2, zt3, zt4, zt5, zt6, e0_2, e0_3, e0_4, e0_11]); omega)) (f0.g)) (fun y27 u27 p27 => ?_)
          try simp only [zt0, zt1, zt2, zt3, zt4, zt5, zt6, e0_2, e0_3, e0_4, e0_11] at p27
          try simp only [zput_s, zput_n, ti_g, oI_add, oI_sub, oI_mul]
          rw [b162_68 (o7 := o7) (wo7 := wo7) (o8 := o8) (wo8 := wo8)]
          try simp only [zput_s, zput_n, ti_g, oI_add, oI_sub, oI_mul]
          first | refine zok_ne (by omega) (fun c29 => ?_) (fun c29 => ?_) | refine zok_if (fun c29 => ?_) (fun c29 => ?_)
          · try simp only [zput_s, zput_n, ti_g, oI_add, oI_sub, oI_mul]
            rw [b162_77 (o7 := o7) (wo7 := wo7) (o8 := o8) (wo8 := wo8)]
            try simp only [zput_s, zput_n, ti_g, oI_add, oI_sub, oI_mul]
            try simp only [zput_s, zput_n, ti_g, oI_add, oI_sub, oI_mul]
            rw [b162_78 (o7 := o7) (wo7 := wo7) (o8 := o8) (wo8 := wo8)]
            try simp only [zput_s, zput_n, ti_g, oI_add, oI_sub, oI_mul]
            first | refine zok_ne (by omega) (fun c32 => ?_) (fun c32 => ?_) | refine zok_if (fun c32 => ?_) (fun c32 => ?_)
            · try simp only [zput_s, zput_n, ti_g, oI_add, oI_sub, oI_mul]
              rw [b162_116 (o8 := o8) (wo8 := wo8)]
              try simp only [zput_s, zput_n, ti_g, oI_add, oI_sub, oI_mul]
              try simp only [zput_s, zput_n, ti_g, oI_add, oI_sub, oI_mul]
              rw [b162_117 (o8 := o8) (wo8 := wo8)]
              try simp only [zput_s, zput_n, ti_g, oI_add, oI_sub, oI_mul]
              try simp only [zput_s, zput_n, ti_g, oI_add, oI_sub, oI_mul]
              exact ih.2 _ _ _ _ _ _ _ _ _ (f0) (by first | omega | ((try simp only [zt0, zt1, zt2, zt3, zt4, zt5, zt6, e0_2, e0_3, e0_4, e0_11]); omega)) (fun i hi => by first | (have h := hq1 i; (try simp only [zt0, zt1, zt2, zt3, zt4, zt5, zt6, e0_2, e0_3, e0_4, e0_11, true_and]); omega) | omega) (fun i hi => by first | (have h := hq2 i; have h2 := hq1 i; (try simp only [zt0, zt1, zt2, zt3, zt4, zt5, zt6, e0_2, e0_3, e0_4, e0_11, true_and]); omega) | omega) (fun k => by first | rfl | exact hq3 k | (simp only [zt0, zt1, zt2, zt3, zt4, zt5, zt6, e0_2, e0_3, e0_4, e0_11, true_and]; exact hq3 k)) (by first | omega | ((try simp only [zt0, zt1, zt2, zt3, zt4, zt5, zt6, e0_2, e0_3, e0_4, e0_11]); omega))
            · refine zok_ck ((q0).1) ?_
              refine zok_pI (s160 (q0) (by omega) (by omega) (by first | (omega) | ((try simp only [zt0, zt1, zt2, zt3, zt4, zt5, zt6, e0_2, e0_3, e0_4, e0_11]); omega)) (f0.g)) (fun y35 u35 p35 => ?_)
              try simp only [zt0, zt1, zt2, zt3, zt4, zt5, zt6, e0_2, e0_3, e0_4, e0_11] at p35
              try simp only [zput_s, zput_n, ti_g, oI_add, oI_sub, oI_mul]
              rw [b162_94 (o8 := o8) (wo8 := wo8)]
              try simp only [zput_s, zput_n, ti_g, oI_add, oI_sub, oI_mul]
              first | refine zok_ne (by omega) (fun c37 => ?_) (fun c37 => ?_) | refine zok_if (fun c37 => ?_) (fun c37 => ?_)
              · try simp only [zput_s, zput_n, ti_g, oI_add, oI_sub, oI_mul]
                rw [b162_116 (o8 := o8) (wo8 := wo8)]
                try simp only [zput_s, zput_n, ti_g, oI_add, oI_sub, oI_mul]
                try simp only [zput_s, zput_n, ti_g, oI_add, oI_sub, oI_mul]
                rw [b162_117 (o8 := o8) (wo8 := wo8)]
                try simp only [zput_s, zput_n, ti_g, oI_add, oI_sub, oI_mul]
                try simp only [zput_s, zput_n, ti_g, oI_add, oI_sub, oI_mul]
                exact ih.2 _ _ _ _ _ _ _ _ _ (f0) (by first | omega | ((try simp only [zt0, zt1, zt2, zt3, zt4, zt5, zt6, e0_2, e0_3, e0_4, e0_11]); omega)) (fun i hi => by first | (have h := hq1 i; (try simp only [zt0, zt1, zt2, zt3, zt4, zt5, zt6, e0_2, e0_3, e0_4, e0_11, true_and]); omega) | omega) (fun i hi => by first | (have h := hq2 i; have h2 := hq1 i; (try simp only [zt0, zt1, zt2, zt3, zt4, zt5, zt6, e0_2, e0_3, e0_4, e0_11, true_and]); omega) | omega) (fun k => by first | rfl | exact hq3 k | (simp only [zt0, zt1, zt2, zt3, zt4, zt5, zt6, e0_2, e0_3, e0_4, e0_11, true_and]; exact hq3 k)) (by first | omega | ((try simp only [zt0, zt1, zt2, zt3, zt4, zt5, zt6, e0_2, e0_3, e0_4, e0_11]); omega))
              · refine zok_ck ((q0).1) ?_
                refine zok_pI (s160 (q0) (by omega) (by omega) (by first | (omega) | ((try simp only [zt0, zt1, zt2, zt3, zt4, zt5, zt6, e0_2, e0_3, e0_4, e0_11]); omega)) (f0.g)) (fun y40 u40 p40 => ?_)
                try simp only [zt0, zt1, zt2, zt3, zt4, zt5, zt6, e0_2, e0_3, e0_4, e0_11] at p40
                try simp only [zput_s, zput_n, ti_g, oI_add, oI_sub, oI_mul]
                rw [b162_107 (o8 := o8) (wo8 := wo8)]
                try simp only [zput_s, zput_n, ti_g, oI_add, oI_sub, oI_mul]
                first | refine zok_ne (by omega) (fun c42 => ?_) (fun c42 => ?_) | refine zok_if (fun c42 => ?_) (fun c42 => ?_)
                · try simp only [zput_s, zput_n, ti_g, oI_add, oI_sub, oI_mul]
                  rw [b162_116 (o8 := o8) (wo8 := wo8)]
                  try simp only [zput_s, zput_n, ti_g, oI_add, oI_sub, oI_mul]
                  try simp only [zput_s, zput_n, ti_g, oI_add, oI_sub, oI_mul]
                  rw [b162_117 (o8 := o8) (wo8 := wo8)]
                  try simp only [zput_s, zput_n, ti_g, oI_add, oI_sub, oI_mul]
                  try simp only [zput_s, zput_n, ti_g, oI_add, oI_sub, oI_mul]
                  exact ih.2 _ _ _ _ _ _ _ _ _ (f0) (by first | omega | ((try simp only [zt0, zt1, zt2, zt3, zt4, zt5, zt6, e0_2, e0_3, e0_4, e0_11]); omega)) (fun i hi => by first | (have h := hq1 i; (try simp only [zt0, zt1, zt2, zt3, zt4, zt5, zt6, e0_2, e0_3, e0_4, e0_11, true_and]); omega) | omega) (fun i hi => by first | (have h := hq2 i; have h2 := hq1 i; (try simp only [zt0, zt1, zt2, zt3, zt4, zt5, zt6, e0_2, e0_3, e0_4, e0_11, true_and]); omega) | omega) (fun k => by first | rfl | exact hq3 k | (simp only [zt0, zt1, zt2, zt3, zt4, zt5, zt6, e0_2, e0_3, e0_4, e0_11, true_and]; exact hq3 k)) (by first | omega | ((try simp only [zt0, zt1, zt2, zt3, zt4, zt5, zt6, e0_2, e0_3, e0_4, e0_11]); omega))
                · try simp only [zput_s, zput_n, ti_g, oI_add, oI_sub, oI_mul]
                  rw [b162_117 (o8 := o8) (wo8 := wo8)]
                  try simp only [zput_s, zput_n, ti_g, oI_add, oI_sub, oI_mul]
                  try simp only [zput_s, zput_n, ti_g, oI_add, oI_sub, oI_mul]
                  exact ih.2 _ _ _ _ _ _ _ _ _ (f0) (by first | omega | ((try simp only [zt0, zt1, zt2, zt3, zt4, zt5, zt6, e0_2, e0_3, e0_4, e0_11]); omega)) (fun i hi => by first | (have h := hq1 i; (try simp only [zt0, zt1, zt2, zt3, zt4, zt5, zt6, e0_2, e0_3, e0_4, e0_11, true_and]); omega) | omega) (fun i hi => by first | (have h := hq2 i; have h2 := hq1 i; (try simp only [zt0, zt1, zt2, zt3, zt4, zt5, zt6, e0_2, e0_3, e0_4, e0_11, true_and]); omega) | omega) (fun k => by first | rfl | exact hq3 k | (simp only [zt0, zt1, zt2, zt3, zt4, zt5, zt6, e0_2, e0_3, e0_4, e0_11, true_and]; exact hq3 k)) (by first | omega | ((try simp only [zt0, zt1, zt2, zt3, zt4, zt5, zt6, e0_2, e0_3, e0_4, e0_11]); omega))
          · try simp only [zput_s, zput_n, ti_g, oI_add, oI_sub, oI_mul]
            rw [b162_78 (o7 := o7) (wo7 := wo7) (o8 := o8) (wo8 := wo8)]
            try simp only [zput_s, zput_n, ti_g, oI_add, oI_sub, oI_mul]
            first | refine zok_ne (by omega) (fun c47 => ?_) (fun c47 => ?_) | refine zok_if (fun c47 => ?_) (fun c47 => ?_)
            · try simp only [zput_s, zput_n, ti_g, oI_add, oI_sub, oI_mul]
              rw [b162_116 (o8 := o8) (wo8 := wo8)]
              try simp only [zput_s, zput_n, ti_g, oI_add, oI_sub, oI_mul]
              try simp only [zput_s, zput_n, ti_g, oI_add, oI_sub, oI_mul]
              rw [b162_117 (o8 := o8) (wo8 := wo8)]
              try simp only [zput_s, zput_n, ti_g, oI_add, oI_sub, oI_mul]
              try simp only [zput_s, zput_n, ti_g, oI_add, oI_sub, oI_mul]
              exact ih.2 _ _ _ _ _ _ _ _ _ (f0) (by first | omega | ((try simp only [zt0, zt1, zt2, zt3, zt4, zt5, zt6, e0_2, e0_3, e0_4, e0_11]); omega)) (fun i hi => by first | (have h := hq1 i; (try simp only [zt0, zt1, zt2, zt3, zt4, zt5, zt6, e0_2, e0_3, e0_4, e0_11, true_and]); omega) | omega) (fun i hi => by first | (have h := hq2 i; have h2 := hq1 i; (try simp only [zt0, zt1, zt2, zt3, zt4, zt5, zt6, e0_2, e0_3, e0_4, e0_11, true_and]); omega) | omega) (fun k => by first | rfl | exact hq3 k | (simp only [zt0, zt1, zt2, zt3, zt4, zt5, zt6, e0_2, e0_3, e0_4, e0_11, true_and]; exact hq3 k)) (by first | omega | ((try simp only [zt0, zt1, zt2, zt3, zt4, zt5, zt6, e0_2, e0_3, e0_4, e0_11]); omega))
            · refine zok_ck ((q0).1) ?_
              refine zok_pI (s160 (q0) (by omega) (by omega) (by first | (omega) | ((try simp only [zt0, zt1, zt2, zt3, zt4, zt5, zt6, e0_2, e0_3, e0_4, e0_11]); omega)) (f0.g)) (fun y50 u50 p50 => ?_)
              try simp only [zt0, zt1, zt2, zt3, zt4, zt5, zt6, e0_2, e0_3, e0_4, e0_11] at p50
              try simp only [zput_s, zput_n, ti_g, oI_add, oI_sub, oI_mul]
              rw [b162_94 (o8 := o8) (wo8 := wo8)]
              try simp only [zput_s, zput_n, ti_g, oI_add, oI_sub, oI_mul]
              first | refine zok_ne (by omega) (fun c52 => ?_) (fun c52 => ?_) | refine zok_if (fun c52 => ?_) (fun c52 => ?_)
              · try simp only [zput_s, zput_n, ti_g, oI_add, oI_sub, oI_mul]
                rw [b162_116 (o8 := o8) (wo8 := wo8)]
                try simp only [zput_s, zput_n, ti_g, oI_add, oI_sub, oI_mul]
                try simp only [zput_s, zput_n, ti_g, oI_add, oI_sub, oI_mul]
                rw [b162_117 (o8 := o8) (wo8 := wo8)]
                try simp only [zput_s, zput_n, ti_g, oI_add, oI_sub, oI_mul]
                try simp only [zput_s, zput_n, ti_g, oI_add, oI_sub, oI_mul]
                exact ih.2 _ _ _ _ _ _ _ _ _ (f0) (by first | omega | ((try simp only [zt0, zt1, zt2, zt3, zt4, zt5, zt6, e0_2, e0_3, e0_4, e0_11]); omega)) (fun i hi => by first | (have h := hq1 i; (try simp only [zt0, zt1, zt2, zt3, zt4, zt5, zt6, e0_2, e0_3, e0_4, e0_11, true_and]); omega) | omega) (fun i hi => by first | (have h := hq2 i; have h2 := hq1 i; (try simp only [zt0, zt1, zt2, zt3, zt4, zt5, zt6, e0_2, e0_3, e0_4, e0_11, true_and]); omega) | omega) (fun k => by first | rfl | exact hq3 k | (simp only [zt0, zt1, zt2, zt3, zt4, zt5, zt6, e0_2, e0_3, e0_4, e0_11, true_and]; exact hq3 k)) (by first | omega | ((try simp only [zt0, zt1, zt2, zt3, zt4, zt5, zt6, e0_2, e0_3, e0_4, e0_11]); omega))
              · refine zok_ck ((q0).1) ?_
                refine zok_pI (s160 (q0) (by omega) (by omega) (by first | (omega) | ((try simp only [zt0, zt1, zt2, zt3, zt4, zt5, zt6, e0_2, e0_3, e0_4, e0_11]); omega)) (f0.g)) (fun y55 u55 p55 => ?_)
                try simp only [zt0, zt1, zt2, zt3, zt4, zt5, zt6, e0_2, e0_3, e0_4, e0_11] at p55
                try simp only [zput_s, zput_n, ti_g, oI_add, oI_sub, oI_mul]
                rw [b162_107 (o8 := o8) (wo8 := wo8)]
                try simp only [zput_s, zput_n, ti_g, oI_add, oI_sub, oI_mul]
                first | refine zok_ne (by omega) (fun c57 => ?_) (fun c57 => ?_) | refine zok_if (fun c57 => ?_) (fun c57 => ?_)
                · try simp only [zput_s, zput_n, ti_g, oI_add, oI_sub, oI_mul]
                  rw [b162_116 (o8 := o8) (wo8 := wo8)]
                  try simp only [zput_s, zput_n, ti_g, oI_add, oI_sub, oI_mul]
                  try simp only [zput_s, zput_n, ti_g, oI_add, oI_sub, oI_mul]
                  rw [b162_117 (o8 := o8) (wo8 := wo8)]
                  try simp only [zput_s, zput_n, ti_g, oI_add, oI_sub, oI_mul]
                  try simp only [zput_s, zput_n, ti_g, oI_add, oI_sub, oI_mul]
                  exact ih.2 _ _ _ _ _ _ _ _ _ (f0) (by first | omega | ((try simp only [zt0, zt1, zt2, zt3, zt4, zt5, zt6, e0_2, e0_3, e0_4, e0_11]); omega)) (fun i hi => by first | (have h := hq1 i; (try simp only [zt0, zt1, zt2, zt3, zt4, zt5, zt6, e0_2, e0_3, e0_4, e0_11, true_and]); omega) | omega) (fun i hi => by first | (have h := hq2 i; have h2 := hq1 i; (try simp only [zt0, zt1, zt2, zt3, zt4, zt5, zt6, e0_2, e0_3, e0_4, e0_11, true_and]); omega) | omega) (fun k => by first | rfl | exact hq3 k | (simp only [zt0, zt1, zt2, zt3, zt4, zt5, zt6, e0_2, e0_3, e0_4, e0_11, true_and]; exact hq3 k)) (by first | omega | ((try simp only [zt0, zt1, zt2, zt3, zt4, zt5, zt6, e0_2, e0_3, e0_4, e0_11]); omega))
                · try simp only [zput_s, zput_n, ti_g, oI_add, oI_sub, oI_mul]
                  rw [b162_117 (o8 := o8) (wo8 := wo8)]
                  try simp only [zput_s, zput_n, ti_g, oI_add, oI_sub, oI_mul]
                  try simp only [zput_s, zput_n, ti_g, oI_add, oI_sub, oI_mul]
                  exact ih.2 _ _ _ _ _ _ _ _ _ (f0) (by first | omega | ((try simp only [zt0, zt1, zt2, zt3, zt4, zt5, zt6, e0_2, e0_3, e0_4, e0_11]); omega)) (fun i hi => by first | (have h := hq1 i; (try simp only [zt0, zt1, zt2, zt3, zt4, zt5, zt6, e0_2, e0_3, e0_4, e0_11, true_and]); omega) | omega) (fun i hi => by first | (have h := hq2 i; have h2 := hq1 i; (try simp only [zt0, zt1, zt2, zt3, zt4, zt5, zt6, e0_2, e0_3, e0_4, e0_11, true_and]); omega) | omega) (fun k => by first | rfl | exact hq3 k | (simp only [zt0, zt1, zt2, zt3, zt4, zt5, zt6, e0_2, e0_3, e0_4, e0_11, true_and]; exact hq3 k)) (by first | omega | ((try simp only [zt0, zt1, zt2, zt3, zt4, zt5, zt6, e0_2, e0_3, e0_4, e0_11]); omega))
    · intro x1 x2 x3 x4 v5 x6 x7 x8  t1 f0 hv hq1 hq2 hq3 hm
      obtain ⟨x5, a5, b5, rfl⟩ := oI_nf v5
      have ha0_1 : (sk sh (sr sh r0 1)).2 = 21000 := by rw [q0.2.2.2.2.1]
      have ha0_2 : (sk sh (sr sh r0 2)).2 = 14 := by rw [q0.2.2.2.2.2.1]
      have ha0_3 : (sk sh (sr sh r0 3)).2 = 98 := by rw [q0.2.2.2.2.2.2.1]
      have ha0_4 : (sk sh (sr sh r0 4)).2 = 98 := by rw [q0.2.2.2.2.2.2.2.1]
      have ha0_8 : (sk sh (sr sh r0 8)).2 = 1500 := by rw [q0.2.2.2.2.2.2.2.2.1]
      have ha0_9 : (sk sh (sr sh r0 9)).2 = 10500 := by rw [q0.2.2.2.2.2.2.2.2.2.1]
      have ha0_10 : (sk sh (sr sh r0 10)).2 = 7 := by rw [q0.2.2.2.2.2.2.2.2.2.2.1]
      have ha0_11 : (sk sh (sr sh r0 11)).2 = 7 := by rw [q0.2.2.2.2.2.2.2.2.2.2.2.1]
      have ha0_12 : (sk sh (sr sh r0 12)).2 = 1500 := by rw [q0.2.2.2.2.2.2.2.2.2.2.2.2.1]
      have ha0_13 : (sk sh (sr sh r0 13)).2 = 1500 := by rw [q0.2.2.2.2.2.2.2.2.2.2.2.2.2.1]
      have ha0_14 : (sk sh (sr sh r0 14)).2 = 20 := by rw [q0.2.2.2.2.2.2.2.2.2.2.2.2.2.2]
      have e0_2 : ∀ k, tg t1 (sr sh r0 2) k = tg t0 (sr sh r0 2) k := fun k => f0.eq q0 (i := 2) (by decide) (by decide) k
      have e0_3 : ∀ k, tg t1 (sr sh r0 3) k = tg t0 (sr sh r0 3) k := fun k => f0.eq q0 (i := 3) (by decide) (by decide) k
      have e0_4 : ∀ k, tg t1 (sr sh r0 4) k = tg t0 (sr sh r0 4) k := fun k => f0.eq q0 (i := 4) (by decide) (by decide) k
      have e0_11 : ∀ k, tg t1 (sr sh r0 11) k = tg t0 (sr sh r0 11) k := fun k => f0.eq q0 (i := 11) (by decide) (by decide) k
      try simp only [zt0, zt1, zt2, zt3, zt4, zt5, zt6, e0_2, e0_3, e0_4, e0_11] at hv
      try simp only [zt0, zt1, zt2, zt3, zt4, zt5, zt6, e0_2, e0_3, e0_4, e0_11] at hm
      have hL := hq3 4
      try simp only [zt0, zt1, zt2, zt3, zt4, zt5, zt6, e0_2, e0_3, e0_4, e0_11] at hL
      rw [b162_119]
      try simp only [zput_s, zput_n, ti_g, oI_add, oI_sub, oI_mul]
      first | refine zok_ne (by omega) (fun c2 => ?_) (fun c2 => ?_) | refine zok_if (fun c2 => ?_) (fun c2 => ?_)
      · simp only [zput_s, zput_n, ti_g, oI_add, oI_sub, oI_mul, zt0, zt1, zt2, zt3, zt4, zt5, zt6, e0_2, e0_3, e0_4, e0_11, b162_133]
        try simp only [zput_s, zput_n, ti_g, oI_add, oI_sub, oI_mul]
        simp only [zput_s, zput_n, ti_g, oI_add, oI_sub, oI_mul, zt0, zt1, zt2, zt3, zt4, zt5, zt6, e0_2, e0_3, e0_4, e0_11, b162_134]
        try simp only [zput_s, zput_n, ti_g, oI_add, oI_sub, oI_mul]
        first | refine zok_eq (by omega) (fun c5 => ?_) (fun c5 => ?_) | refine zok_if (fun c5 => ?_) (fun c5 => ?_)
        · first | refine zok_ne (by omega) (fun c6 => ?_) (fun c6 => ?_) | refine zok_if (fun c6 => ?_) (fun c6 => ?_)
          · simp only [zput_s, zput_n, ti_g, oI_add, oI_sub, oI_mul, zt0, zt1, zt2, zt3, zt4, zt5, zt6, e0_2, e0_3, e0_4, e0_11, b162_184]
            try simp only [zput_s, zput_n, ti_g, oI_add, oI_sub, oI_mul]
            try simp only [zput_s, zput_n, ti_g, oI_add, oI_sub, oI_mul]
            exact ih.1 _ _ _ _ _ _ _ _ (by first | rfl | assumption) (by first | rfl | assumption) (by first | rfl | assumption) _ (f0) (by first | omega | ((try simp only [zt0, zt1, zt2, zt3, zt4, zt5, zt6, e0_2, e0_3, e0_4, e0_11]); omega)) (fun i hi => by first | (have h := hq1 i; (try simp only [zt0, zt1, zt2, zt3, zt4, zt5, zt6, e0_2, e0_3, e0_4, e0_11, true_and]); omega) | omega) (fun i hi => by first | (have h := hq2 i; have h2 := hq1 i; (try simp only [zt0, zt1, zt2, zt3, zt4, zt5, zt6, e0_2, e0_3, e0_4, e0_11, true_and]); omega) | omega) (fun k => by first | rfl | exact hq3 k | (simp only [zt0, zt1, zt2, zt3, zt4, zt5, zt6, e0_2, e0_3, e0_4, e0_11, true_and]; exact hq3 k)) (by first | omega | ((try simp only [zt0, zt1, zt2, zt3, zt4, zt5, zt6, e0_2, e0_3, e0_4, e0_11]); omega))
          · refine zok_ck ((q0).1) ?_
            refine zok_ck ⟨(by rw [(q0).2.2.2.2.2.2.2.2.2.2.2.2.1]), zin_o (by omega) (by omega) (by omega)⟩ ?_
            try rw [nN_o (a := x4) (by omega) (by omega)]
            try simp only [zput_s, zput_n, ti_g, oI_add, oI_sub, oI_mul, zt0, zt1, zt2, zt3, zt4, zt5, zt6, e0_2, e0_3, e0_4, e0_11]
            obtain ⟨t8, ht8⟩ : ∃ t', t' = tI t1 (sr sh r0 12) ((x4).toNat) (oI (x3)) := ⟨_, rfl⟩
            try simp only [zt0, zt1, zt2, zt3, zt4, zt5, zt6, e0_2, e0_3, e0_4, e0_11] at ht8
            rw [← ht8]
            have f8 : FrV sh r0 [12] t1 t8 := by rw [ht8]; exact GI_free q0 (f0.g) (by decide)
            have w8 : ∀ k, tg t8 (sr sh r0 12) k = if k = (x4).toNat then x3 else tg t1 (sr sh r0 12) k := fun k => by rw [ht8]; refine (tg_at (by omega)).trans ?_; first | rfl | simp only [zt0, zt1, zt2, zt3, zt4, zt5, zt6, e0_2, e0_3, e0_4, e0_11, true_and]
            have ws8 : tg t8 (sr sh r0 12) ((x4).toNat) = x3 := by rw [w8, if_pos rfl]
            try simp only [zt0, zt1, zt2, zt3, zt4, zt5, zt6, e0_2, e0_3, e0_4, e0_11] at w8
            try simp only [zt0, zt1, zt2, zt3, zt4, zt5, zt6, e0_2, e0_3, e0_4, e0_11] at ws8
            have e8_2 : ∀ k, tg t8 (sr sh r0 2) k = tg t1 (sr sh r0 2) k := fun k => f8.eq q0 (i := 2) (by decide) (by decide) k
            have e8_3 : ∀ k, tg t8 (sr sh r0 3) k = tg t1 (sr sh r0 3) k := fun k => f8.eq q0 (i := 3) (by decide) (by decide) k
            have e8_4 : ∀ k, tg t8 (sr sh r0 4) k = tg t1 (sr sh r0 4) k := fun k => f8.eq q0 (i := 4) (by decide) (by decide) k
            have e8_9 : ∀ k, tg t8 (sr sh r0 9) k = tg t1 (sr sh r0 9) k := fun k => f8.eq q0 (i := 9) (by decide) (by decide) k
            have e8_10 : ∀ k, tg t8 (sr sh r0 10) k = tg t1 (sr sh r0 10) k := fun k => f8.eq q0 (i := 10) (by decide) (by decide) k
            have e8_11 : ∀ k, tg t8 (sr sh r0 11) k = tg t1 (sr sh r0 11) k := fun k => f8.eq q0 (i := 11) (by decide) (by decide) k
            have e8_13 : ∀ k, tg t8 (sr sh r0 13) k = tg t1 (sr sh r0 13) k := fun k => f8.eq q0 (i := 13) (by decide) (by decide) k
            refine zok_ck ((q0).1) ?_
            refine zok_ck ⟨(by rw [(q0).2.2.2.2.2.2.2.2.2.2.2.2.2.1]), zin_o (by omega) (by omega) (by omega)⟩ ?_
            try rw [nN_o (a := x4) (by omega) (by omega)]
            try simp only [zput_s, zput_n, ti_g, oI_add, oI_sub, oI_mul, zt0, zt1, zt2, zt3, zt4, zt5, zt6, e0_2, e0_3, e0_4, e0_11, e8_2, e8_3, e8_4, e8_9, e8_10, e8_11, e8_13]
            obtain ⟨t9, ht9⟩ : ∃ t', t' = tI t8 (sr sh r0 13) ((x4).toNat) (oI (x6)) := ⟨_, rfl⟩
            try simp only [zt0, zt1, zt2, zt3, zt4, zt5, zt6, e0_2, e0_3, e0_4, e0_11, e8_2, e8_3, e8_4, e8_9, e8_10, e8_11, e8_13] at ht9
            rw [← ht9]
            have f9 : FrV sh r0 [13] t8 t9 := by rw [ht9]; exact GI_free q0 (f8.g) (by decide)
            have w9 : ∀ k, tg t9 (sr sh r0 13) k = if k = (x4).toNat then x6 else tg t8 (sr sh r0 13) k := fun k => by rw [ht9]; refine (tg_at (by omega)).trans ?_; first | rfl | simp only [zt0, zt1, zt2, zt3, zt4, zt5, zt6, e0_2, e0_3, e0_4, e0_11, e8_2, e8_3, e8_4, e8_9, e8_10, e8_11, e8_13, true_and]
            have ws9 : tg t9 (sr sh r0 13) ((x4).toNat) = x6 := by rw [w9, if_pos rfl]
            try simp only [zt0, zt1, zt2, zt3, zt4, zt5, zt6, e0_2, e0_3, e0_4, e0_11, e8_2, e8_3, e8_4, e8_9, e8_10, e8_11, e8_13] at w9
            try simp only [zt0, zt1, zt2, zt3, zt4, zt5, zt6, e0_2, e0_3, e0_4, e0_11, e8_2, e8_3, e8_4, e8_9, e8_10, e8_11, e8_13] at ws9
            have e9_2 : ∀ k, tg t9 (sr sh r0 2) k = tg t8 (sr sh r0 2) k := fun k => f9.eq q0 (i := 2) (by decide) (by decide) k
            have e9_3 : ∀ k, tg t9 (sr sh r0 3) k = tg t8 (sr sh r0 3) k := fun k => f9.eq q0 (i := 3) (by decide) (by decide) k
            have e9_4 : ∀ k, tg t9 (sr sh r0 4) k = tg t8 (sr sh r0 4) k := fun k => f9.eq q0 (i := 4) (by decide) (by decide) k
            have e9_9 : ∀ k, tg t9 (sr sh r0 9) k = tg t8 (sr sh r0 9) k := fun k => f9.eq q0 (i := 9) (by decide) (by decide) k
            have e9_10 : ∀ k, tg t9 (sr sh r0 10) k = tg t8 (sr sh r0 10) k := fun k => f9.eq q0 (i := 10) (by decide) (by decide) k
            have e9_11 : ∀ k, tg t9 (sr sh r0 11) k = tg t8 (sr sh r0 11) k := fun k => f9.eq q0 (i := 11) (by decide) (by decide) k
            have e9_12 : ∀ k, tg t9 (sr sh r0 12) k = tg t8 (sr sh r0 12) k := fun k => f9.eq q0 (i := 12) (by decide) (by decide) k
            simp only [zput_s, zput_n, ti_g, oI_add, oI_sub, oI_mul, zt0, zt1, zt2, zt3, zt4, zt5, zt6, e0_2, e0_3, e0_4, e0_11, e8_2, e8_3, e8_4, e8_9, e8_10, e8_11, e8_13, e9_2, e9_3, e9_4, e9_9, e9_10, e9_11, e9_12, b162_184]
            try simp only [zput_s, zput_n, ti_g, oI_add, oI_sub, oI_mul]
            try simp only [zput_s, zput_n, ti_g, oI_add, oI_sub, oI_mul]
            exact ih.1 _ _ _ _ _ _ _ _ (by first | rfl | assumption) (by first | rfl | assumption) (by first | rfl | assumption) _ ((FrV.trans (Ns := [9, 10, 12, 13]) ((FrV.trans (Ns := [9, 10, 12, 13]) (f0) f8 (by decide) (by decide))) f9 (by decide) (by decide))) (by first | omega | ((try simp only [zt0, zt1, zt2, zt3, zt4, zt5, zt6, e0_2, e0_3, e0_4, e0_11, e8_2, e8_3, e8_4, e8_9, e8_10, e8_11, e8_13, e9_2, e9_3, e9_4, e9_9, e9_10, e9_11, e9_12]); omega)) (fun i hi => by first | (have h := hq1 i; (try simp only [w8, w9, zt0, zt1, zt2, zt3, zt4, zt5, zt6, e0_2, e0_3, e0_4, e0_11, e8_2, e8_3, e8_4, e8_9, e8_10, e8_11, e8_13, e9_2, e9_3, e9_4, e9_9, e9_10, e9_11, e9_12, true_and]); omega) | omega) (fun i hi => by first | (have h := hq2 i; have h2 := hq1 i; (try simp only [w8, w9, zt0, zt1, zt2, zt3, zt4, zt5, zt6, e0_2, e0_3, e0_4, e0_11, e8_2, e8_3, e8_4, e8_9, e8_10, e8_11, e8_13, e9_2, e9_3, e9_4, e9_9, e9_10, e9_11, e9_12, true_and]); omega) | omega) (fun k => by first | rfl | exact hq3 k | (simp only [w8, w9, zt0, zt1, zt2, zt3, zt4, zt5, zt6, e0_2, e0_3, e0_4, e0_11, e8_2, e8_3, e8_4, e8_9, e8_10, e8_11, e8_13, e9_2, e9_3, e9_4, e9_9, e9_10, e9_11, e9_12, true_and]; exact hq3 k)) (by first | omega | ((try simp only [zt0, zt1, zt2, zt3, zt4, zt5, zt6, e0_2, e0_3, e0_4, e0_11, e8_2, e8_3, e8_4, e8_9, e8_10, e8_11, e8_13, e9_2, e9_3, e9_4, e9_9, e9_10, e9_11, e9_12]); omega))
        · first | refine zok_le (by omega) (fun c11 => ?_) (fun c11 => ?_) | refine zok_if (fun c11 => ?_) (fun c11 => ?_)
          · simp only [zput_s, zput_n, ti_g, oI_add, oI_sub, oI_mul, zt0, zt1, zt2, zt3, zt4, zt5, zt6, e0_2, e0_3, e0_4, e0_11, b162_154]
            try simp only [zput_s, zput_n, ti_g, oI_add, oI_sub, oI_mul]
            simp only [zput_s, zput_n, ti_g, oI_add, oI_sub, oI_mul, zt0, zt1, zt2, zt3, zt4, zt5, zt6, e0_2, e0_3, e0_4, e0_11, b162_184]
            try simp only [zput_s, zput_n, ti_g, oI_add, oI_sub, oI_mul]
            try simp only [zput_s, zput_n, ti_g, oI_add, oI_sub, oI_mul]
            exact ih.1 _ _ _ _ _ _ _ _ (by first | rfl | assumption) (by first | rfl | assumption) (by first | rfl | assumption) _ (f0) (by first | omega | ((try simp only [zt0, zt1, zt2, zt3, zt4, zt5, zt6, e0_2, e0_3, e0_4, e0_11]); omega)) (fun i hi => by first | (have h := hq1 i; (try simp only [zt0, zt1, zt2, zt3, zt4, zt5, zt6, e0_2, e0_3, e0_4, e0_11, true_and]); omega) | omega) (fun i hi => by first | (have h := hq2 i; have h2 := hq1 i; (try simp only [zt0, zt1, zt2, zt3, zt4, zt5, zt6, e0_2, e0_3, e0_4, e0_11, true_and]); omega) | omega) (fun k => by first | rfl | exact hq3 k | (simp only [zt0, zt1, zt2, zt3, zt4, zt5, zt6, e0_2, e0_3, e0_4, e0_11, true_and]; exact hq3 k)) (by first | omega | ((try simp only [zt0, zt1, zt2, zt3, zt4, zt5, zt6, e0_2, e0_3, e0_4, e0_11]); omega))
          · simp only [zput_s, zput_n, ti_g, oI_add, oI_sub, oI_mul, zt0, zt1, zt2, zt3, zt4, zt5, zt6, e0_2, e0_3, e0_4, e0_11, b162_154]
            try simp only [zput_s, zput_n, ti_g, oI_add, oI_sub, oI_mul]
            simp only [zput_s, zput_n, ti_g, oI_add, oI_sub, oI_mul, zt0, zt1, zt2, zt3, zt4, zt5, zt6, e0_2, e0_3, e0_4, e0_11, b162_184]
            try simp only [zput_s, zput_n, ti_g, oI_add, oI_sub, oI_mul]
            try simp only [zput_s, zput_n, ti_g, oI_add, oI_sub, oI_mul]
            exact ih.1 _ _ _ _ _ _ _ _ (by first | rfl | assumption) (by first | rfl | assumption) (by first | rfl | assumption) _ (f0) (by first | omega | ((try simp only [zt0, zt1, zt2, zt3, zt4, zt5, zt6, e0_2, e0_3, e0_4, e0_11]); omega)) (fun i hi => by first | (have h := hq1 i; (try simp only [zt0, zt1, zt2, zt3, zt4, zt5, zt6, e0_2, e0_3, e0_4, e0_11, true_and]); omega) | omega) (fun i hi => by first | (have h := hq2 i; have h2 := hq1 i; (try simp only [zt0, zt1, zt2, zt3, zt4, zt5, zt6, e0_2, e0_3, e0_4, e0_11, true_and]); omega) | omega) (fun k => by first | rfl | exact hq3 k | (simp only [zt0, zt1, zt2, zt3, zt4, zt5, zt6, e0_2, e0_3, e0_4, e0_11, true_and]; exact hq3 k)) (by first | omega | ((try simp only [zt0, zt1, zt2, zt3, zt4, zt5, zt6, e0_2, e0_3, e0_4, e0_11]); omega))
      · first | refine zok_ne (by omega) (fun c16 => ?_) (fun c16 => ?_) | refine zok_if (fun c16 => ?_) (fun c16 => ?_)
        · simp only [zput_s, zput_n, ti_g, oI_add, oI_sub, oI_mul, zt0, zt1, zt2, zt3, zt4, zt5, zt6, e0_2, e0_3, e0_4, e0_11, b162_133]
          try simp only [zput_s, zput_n, ti_g, oI_add, oI_sub, oI_mul]
          simp only [zput_s, zput_n, ti_g, oI_add, oI_sub, oI_mul, zt0, zt1, zt2, zt3, zt4, zt5, zt6, e0_2, e0_3, e0_4, e0_11, b162_134]
          try simp only [zput_s, zput_n, ti_g, oI_add, oI_sub, oI_mul]
          first | refine zok_eq (by omega) (fun c19 => ?_) (fun c19 => ?_) | refine zok_if (fun c19 => ?_) (fun c19 => ?_)
          · first | refine zok_ne (by omega) (fun c20 => ?_) (fun c20 => ?_) | refine zok_if (fun c20 => ?_) (fun c20 => ?_)
            · simp only [zput_s, zput_n, ti_g, oI_add, oI_sub, oI_mul, zt0, zt1, zt2, zt3, zt4, zt5, zt6, e0_2, e0_3, e0_4, e0_11, b162_184]
              try simp only [zput_s, zput_n, ti_g, oI_add, oI_sub, oI_mul]
              try simp only [zput_s, zput_n, ti_g, oI_add, oI_sub, oI_mul]
              exact ih.1 _ _ _ _ _ _ _ _ (by first | rfl | assumption) (by first | rfl | assumption) (by first | rfl | assumption) _ (f0) (by first | omega | ((try simp only [zt0, zt1, zt2, zt3, zt4, zt5, zt6, e0_2, e0_3, e0_4, e0_11]); omega)) (fun i hi => by first | (have h := hq1 i; (try simp only [zt0, zt1, zt2, zt3, zt4, zt5, zt6, e0_2, e0_3, e0_4, e0_11, true_and]); omega) | omega) (fun i hi => by first | (have h := hq2 i; have h2 := hq1 i; (try simp only [zt0, zt1, zt2, zt3, zt4, zt5, zt6, e0_2, e0_3, e0_4, e0_11, true_and]); omega) | omega) (fun k => by first | rfl | exact hq3 k | (simp only [zt0, zt1, zt2, zt3, zt4, zt5, zt6, e0_2, e0_3, e0_4, e0_11, true_and]; exact hq3 k)) (by first | omega | ((try simp only [zt0, zt1, zt2, zt3, zt4, zt5, zt6, e0_2, e0_3, e0_4, e0_11]); omega))
            · refine zok_ck ((q0).1) ?_
              refine zok_ck ⟨(by rw [(q0).2.2.2.2.2.2.2.2.2.2.2.2.1]), zin_o (by omega) (by omega) (by omega)⟩ ?_
              try rw [nN_o (a := x4) (by omega) (by omega)]
              try simp only [zput_s, zput_n, ti_g, oI_add, oI_sub, oI_mul, zt0, zt1, zt2, zt3, zt4, zt5, zt6, e0_2, e0_3, e0_4, e0_11]
              obtain ⟨t22, ht22⟩ : ∃ t', t' = tI t1 (sr sh r0 12) ((x4).toNat) (oI (x3)) := ⟨_, rfl⟩
              try simp only [zt0, zt1, zt2, zt3, zt4, zt5, zt6, e0_2, e0_3, e0_4, e0_11] at ht22
              rw [← ht22]
              have f22 : FrV sh r0 [12] t1 t22 := by rw [ht22]; exact GI_free q0 (f0.g) (by decide)
              have w22 : ∀ k, tg t22 (sr sh r0 12) k = if k = (x4).toNat then x3 else tg t1 (sr sh r0 12) k := fun k => by rw [ht22]; refine (tg_at (by omega)).trans ?_; first | rfl | simp only [zt0, zt1, zt2, zt3, zt4, zt5, zt6, e0_2, e0_3, e0_4, e0_11, true_and]
              have ws22 : tg t22 (sr sh r0 12) ((x4).toNat) = x3 := by rw [w22, if_pos rfl]
              try simp only [zt0, zt1, zt2, zt3, zt4, zt5, zt6, e0_2, e0_3, e0_4, e0_11] at w22
              try simp only [zt0, zt1, zt2, zt3, zt4, zt5, zt6, e0_2, e0_3, e0_4, e0_11] at ws22
              have e22_2 : ∀ k, tg t22 (sr sh r0 2) k = tg t1 (sr sh r0 2) k := fun k => f22.eq q0 (i := 2) (by decide) (by decide) k
              have e22_3 : ∀ k, tg t22 (sr sh r0 3) k = tg t1 (sr sh r0 3) k := fun k => f22.eq q0 (i := 3) (by decide) (by decide) k
              have e22_4 : ∀ k, tg t22 (sr sh r0 4) k = tg t1 (sr sh r0 4) k := fun k => f22.eq q0 (i := 4) (by decide) (by decide) k
              have e22_9 : ∀ k, tg t22 (sr sh r0 9) k = tg t1 (sr sh r0 9) k := fun k => f22.eq q0 (i := 9) (by decide) (by decide) k
              have e22_10 : ∀ k, tg t22 (sr sh r0 10) k = tg t1 (sr sh r0 10) k := fun k => f22.eq q0 (i := 10) (by decide) (by decide) k
              have e22_11 : ∀ k, tg t22 (sr sh r0 11) k = tg t1 (sr sh r0 11) k := fun k => f22.eq q0 (i := 11) (by decide) (by decide) k
              have e22_13 : ∀ k, tg t22 (sr sh r0 13) k = tg t1 (sr sh r0 13) k := fun k => f22.eq q0 (i := 13) (by decide) (by decide) k
              refine zok_ck ((q0).1) ?_
              refine zok_ck ⟨(by rw [(q0).2.2.2.2.2.2.2.2.2.2.2.2.2.1]), zin_o (by omega) (by omega) (by omega)⟩ ?_
              try rw [nN_o (a := x4) (by omega) (by omega)]
              try simp only [zput_s, zput_n, ti_g, oI_add, oI_sub, oI_mul, zt0, zt1, zt2, zt3, zt4, zt5, zt6, e0_2, e0_3, e0_4, e0_11, e22_2, e22_3, e22_4, e22_9, e22_10, e22_11, e22_13]
              obtain ⟨t23, ht23⟩ : ∃ t', t' = tI t22 (sr sh r0 13) ((x4).toNat) (oI (x6)) := ⟨_, rfl⟩
              try simp only [zt0, zt1, zt2, zt3, zt4, zt5, zt6, e0_2, e0_3, e0_4, e0_11, e22_2, e22_3, e22_4, e22_9, e22_10, e22_11, e22_13] at ht23
              rw [← ht23]
              have f23 : FrV sh r0 [13] t22 t23 := by rw [ht23]; exact GI_free q0 (f22.g) (by decide)
              have w23 : ∀ k, tg t23 (sr sh r0 13) k = if k = (x4).toNat then x6 else tg t22 (sr sh r0 13) k := fun k => by rw [ht23]; refine (tg_at (by omega)).trans ?_; first | rfl | simp only [zt0, zt1, zt2, zt3, zt4, zt5, zt6, e0_2, e0_3, e0_4, e0_11, e22_2, e22_3, e22_4, e22_9, e22_10, e22_11, e22_13, true_and]
              have ws23 : tg t23 (sr sh r0 13) ((x4).toNat) = x6 := by rw [w23, if_pos rfl]
              try simp only [zt0, zt1, zt2, zt3, zt4, zt5, zt6, e0_2, e0_3, e0_4, e0_11, e22_2, e22_3, e22_4, e22_9, e22_10, e22_11, e22_13] at w23
              try simp only [zt0, zt1, zt2, zt3, zt4, zt5, zt6, e0_2, e0_3, e0_4, e0_11, e22_2, e22_3, e22_4, e22_9, e22_10, e22_11, e22_13] at ws23
              have e23_2 : ∀ k, tg t23 (sr sh r0 2) k = tg t22 (sr sh r0 2) k := fun k => f23.eq q0 (i := 2) (by decide) (by decide) k
              have e23_3 : ∀ k, tg t23 (sr sh r0 3) k = tg t22 (sr sh r0 3) k := fun k => f23.eq q0 (i := 3) (by decide) (by decide) k
              have e23_4 : ∀ k, tg t23 (sr sh r0 4) k = tg t22 (sr sh r0 4) k := fun k => f23.eq q0 (i := 4) (by decide) (by decide) k
              have e23_9 : ∀ k, tg t23 (sr sh r0 9) k = tg t22 (sr sh r0 9) k := fun k => f23.eq q0 (i := 9) (by decide) (by decide) k
              have e23_10 : ∀ k, tg t23 (sr sh r0 10) k = tg t22 (sr sh r0 10) k := fun k => f23.eq q0 (i := 10) (by decide) (by decide) k
              have e23_11 : ∀ k, tg t23 (sr sh r0 11) k = tg t22 (sr sh r0 11) k := fun k => f23.eq q0 (i := 11) (by decide) (by decide) k
              have e23_12 : ∀ k, tg t23 (sr sh r0 12) k = tg t22 (sr sh r0 12) k := fun k => f23.eq q0 (i := 12) (by decide) (by decide) k
              simp only [zput_s, zput_n, ti_g, oI_add, oI_sub, oI_mul, zt0, zt1, zt2, zt3, zt4, zt5, zt6, e0_2, e0_3, e0_4, e0_11, e22_2, e22_3, e22_4, e22_9, e22_10, e22_11, e22_13, e23_2, e23_3, e23_4, e23_9, e23_10, e23_11, e23_12, b162_184]
              try simp only [zput_s, zput_n, ti_g, oI_add, oI_sub, oI_mul]
              try simp only [zput_s, zput_n, ti_g, oI_add, oI_sub, oI_mul]
              exact ih.1 _ _ _ _ _ _ _ _ (by first | rfl | assumption) (by first | rfl | assumption) (by first | rfl | assumption) _ ((FrV.trans (Ns := [9, 10, 12, 13]) ((FrV.trans (Ns := [9, 10, 12, 13]) (f0) f22 (by decide) (by decide))) f23 (by decide) (by decide))) (by first | omega | ((try simp only [zt0, zt1, zt2, zt3, zt4, zt5, zt6, e0_2, e0_3, e0_4, e0_11, e22_2, e22_3, e22_4, e22_9, e22_10, e22_11, e22_13, e23_2, e23_3, e23_4, e23_9, e23_10, e23_11, e23_12]); omega)) (fun i hi => by first | (have h := hq1 i; (try simp only [w22, w23, zt0, zt1, zt2, zt3, zt4, zt5, zt6, e0_2, e0_3, e0_4, e0_11, e22_2, e22_3, e22_4, e22_9, e22_10, e22_11, e22_13, e23_2, e23_3, e23_4, e23_9, e23_10, e23_11, e23_12, true_and]); omega) | omega) (fun i hi => by first | (have h := hq2 i; have h2 := hq1 i; (try simp only [w22, w23, zt0, zt1, zt2, zt3, zt4, zt5, zt6, e0_2, e0_3, e0_4, e0_11, e22_2, e22_3, e22_4, e22_9, e22_10, e22_11, e22_13, e23_2, e23_3, e23_4, e23_9, e23_10, e23_11, e23_12, true_and]); omega) | omega) (fun k => by first | rfl | exact hq3 k | (simp only [w22, w23, zt0, zt1, zt2, zt3, zt4, zt5, zt6, e0_2, e0_3, e0_4, e0_11, e22_2, e22_3, e22_4, e22_9, e22_10, e22_11, e22_13, e23_2, e23_3, e23_4, e23_9, e23_10, e23_11, e23_12, true_and]; exact hq3 k)) (by first | omega | ((try simp only [zt0, zt1, zt2, zt3, zt4, zt5, zt6, e0_2, e0_3, e0_4, e0_11, e22_2, e22_3, e22_4, e22_9, e22_10, e22_11, e22_13, e23_2, e23_3, e23_4, e23_9, e23_10, e23_11, e23_12]); omega))
          · first | refine zok_le (by omega) (fun c25 => ?_) (fun c25 => ?_) | refine zok_if (fun c25 => ?_) (fun c25 => ?_)
            · simp only [zput_s, zput_n, ti_g, oI_add, oI_sub, oI_mul, zt0, zt1, zt2, zt3, zt4, zt5, zt6, e0_2, e0_3, e0_4, e0_11, b162_154]
              try simp only [zput_s, zput_n, ti_g, oI_add, oI_sub, oI_mul]
              simp only [zput_s, zput_n, ti_g, oI_add, oI_sub, oI_mul, zt0, zt1, zt2, zt3, zt4, zt5, zt6, e0_2, e0_3, e0_4, e0_11, b162_184]
              try simp only [zput_s, zput_n, ti_g, oI_add, oI_sub, oI_mul]
              try simp only [zput_s, zput_n, ti_g, oI_add, oI_sub, oI_mul]
              exact ih.1 _ _ _ _ _ _ _ _ (by first | rfl | assumption) (by first | rfl | assumption) (by first | rfl | assumption) _ (f0) (by first | omega | ((try simp only [zt0, zt1, zt2, zt3, zt4, zt5, zt6, e0_2, e0_3, e0_4, e0_11]); omega)) (fun i hi => by first | (have h := hq1 i; (try simp only [zt0, zt1, zt2, zt3, zt4, zt5, zt6, e0_2, e0_3, e0_4, e0_11, true_and]); omega) | omega) (fun i hi => by first | (have h := hq2 i; have h2 := hq1 i; (try simp only [zt0, zt1, zt2, zt3, zt4, zt5, zt6, e0_2, e0_3, e0_4, e0_11, true_and]); omega) | omega) (fun k => by first | rfl | exact hq3 k | (simp only [zt0, zt1, zt2, zt3, zt4, zt5, zt6, e0_2, e0_3, e0_4, e0_11, true_and]; exact hq3 k)) (by first | omega | ((try simp only [zt0, zt1, zt2, zt3, zt4, zt5, zt6, e0_2, e0_3, e0_4, e0_11]); omega))
            · simp only [zput_s, zput_n, ti_g, oI_add, oI_sub, oI_mul, zt0, zt1, zt2, zt3, zt4, zt5, zt6, e0_2, e0_3, e0_4, e0_11, b162_154]
              try simp only [zput_s, zput_n, ti_g, oI_add, oI_sub, oI_mul]
              simp only [zput_s, zput_n, ti_g, oI_add, oI_sub, oI_mul, zt0, zt1, zt2, zt3, zt4, zt5, zt6, e0_2, e0_3, e0_4, e0_11, b162_184]
              try simp only [zput_s, zput_n, ti_g, oI_add, oI_sub, oI_mul]
              try simp only [zput_s, zput_n, ti_g, oI_add, oI_sub, oI_mul]
              exact ih.1 _ _ _ _ _ _ _ _ (by first | rfl | assumption) (by first | rfl | assumption) (by first | rfl | assumption) _ (f0) (by first | omega | ((try simp only [zt0, zt1, zt2, zt3, zt4, zt5, zt6, e0_2, e0_3, e0_4, e0_11]); omega)) (fun i hi => by first | (have h := hq1 i; (try simp only [zt0, zt1, zt2, zt3, zt4, zt5, zt6, e0_2, e0_3, e0_4, e0_11, true_and]); omega) | omega) (fun i hi => by first | (have h := hq2 i; have h2 := hq1 i; (try simp only [zt0, zt1, zt2, zt3, zt4, zt5, zt6, e0_2, e0_3, e0_4, e0_11, true_and]); omega) | omega) (fun k => by first | rfl | exact hq3 k | (simp only [zt0, zt1, zt2, zt3, zt4, zt5, zt6, e0_2, e0_3, e0_4, e0_11, true_and]; exact hq3 k)) (by first | omega | ((try simp only [zt0, zt1, zt2, zt3, zt4, zt5, zt6, e0_2, e0_3, e0_4, e0_11]); omega))
        · simp only [zput_s, zput_n, ti_g, oI_add, oI_sub, oI_mul, zt0, zt1, zt2, zt3, zt4, zt5, zt6, e0_2, e0_3, e0_4, e0_11, b162_134]
          try simp only [zput_s, zput_n, ti_g, oI_add, oI_sub, oI_mul]
          first | refine zok_eq (by omega) (fun c31 => ?_) (fun c31 => ?_) | refine zok_if (fun c31 => ?_) (fun c31 => ?_)
          · first | refine zok_ne (by omega) (fun c32 => ?_) (fun c32 => ?_) | refine zok_if (fun c32 => ?_) (fun c32 => ?_)
            · simp only [zput_s, zput_n, ti_g, oI_add, oI_sub, oI_mul, zt0, zt1, zt2, zt3, zt4, zt5, zt6, e0_2, e0_3, e0_4, e0_11, b162_184]
              try simp only [zput_s, zput_n, ti_g, oI_add, oI_sub, oI_mul]
              try simp only [zput_s, zput_n, ti_g, oI_add, oI_sub, oI_mul]
              exact ih.1 _ _ _ _ _ _ _ _ (by first | rfl | assumption) (by first | rfl | assumption) (by first | rfl | assumption) _ (f0) (by first | omega | ((try simp only [zt0, zt1, zt2, zt3, zt4, zt5, zt6, e0_2, e0_3, e0_4, e0_11]); omega)) (fun i hi => by first | (have h := hq1 i; (try simp only [zt0, zt1, zt2, zt3, zt4, zt5, zt6, e0_2, e0_3, e0_4, e0_11, true_and]); omega) | omega) (fun i hi => by first | (have h := hq2 i; have h2 := hq1 i; (try simp only [zt0, zt1, zt2, zt3, zt4, zt5, zt6, e0_2, e0_3, e0_4, e0_11, true_and]); omega) | omega) (fun k => by first | rfl | exact hq3 k | (simp only [zt0, zt1, zt2, zt3, zt4, zt5, zt6, e0_2, e0_3, e0_4, e0_11, true_and]; exact hq3 k)) (by first | omega | ((try simp only [zt0, zt1, zt2, zt3, zt4, zt5, zt6, e0_2, e0_3, e0_4, e0_11]); omega))
            · refine zok_ck ((q0).1) ?_
              refine zok_ck ⟨(by rw [(q0).2.2.2.2.2.2.2.2.2.2.2.2.1]), zin_o (by omega) (by omega) (by omega)⟩ ?_
              try rw [nN_o (a := x4) (by omega) (by omega)]
              try simp only [zput_s, zput_n, ti_g, oI_add, oI_sub, oI_mul, zt0, zt1, zt2, zt3, zt4, zt5, zt6, e0_2, e0_3, e0_4, e0_11]
              obtain ⟨t34, ht34⟩ : ∃ t', t' = tI t1 (sr sh r0 12) ((x4).toNat) (oI (x3)) := ⟨_, rfl⟩
              try simp only [zt0, zt1, zt2, zt3, zt4, zt5, zt6, e0_2, e0_3, e0_4, e0_11] at ht34
              rw [← ht34]
              have f34 : FrV sh r0 [12] t1 t34 := by rw [ht34]; exact GI_free q0 (f0.g) (by decide)
              have w34 : ∀ k, tg t34 (sr sh r0 12) k = if k = (x4).toNat then x3 else tg t1 (sr sh r0 12) k := fun k => by rw [ht34]; refine (tg_at (by omega)).trans ?_; first | rfl | simp only [zt0, zt1, zt2, zt3, zt4, zt5, zt6, e0_2, e0_3, e0_4, e0_11, true_and]
              have ws34 : tg t34 (sr sh r0 12) ((x4).toNat) = x3 := by rw [w34, if_pos rfl]
              try simp only [zt0, zt1, zt2, zt3, zt4, zt5, zt6, e0_2, e0_3, e0_4, e0_11] at w34
              try simp only [zt0, zt1, zt2, zt3, zt4, zt5, zt6, e0_2, e0_3, e0_4, e0_11] at ws34
              have e34_2 : ∀ k, tg t34 (sr sh r0 2) k = tg t1 (sr sh r0 2) k := fun k => f34.eq q0 (i := 2) (by decide) (by decide) k
              have e34_3 : ∀ k, tg t34 (sr sh r0 3) k = tg t1 (sr sh r0 3) k := fun k => f34.eq q0 (i := 3) (by decide) (by decide) k
              have e34_4 : ∀ k, tg t34 (sr sh r0 4) k = tg t1 (sr sh r0 4) k := fun k => f34.eq q0 (i := 4) (by decide) (by decide) k
              have e34_9 : ∀ k, tg t34 (sr sh r0 9) k = tg t1 (sr sh r0 9) k := fun k => f34.eq q0 (i := 9) (by decide) (by decide) k
              have e34_10 : ∀ k, tg t34 (sr sh r0 10) k = tg t1 (sr sh r0 10) k := fun k => f34.eq q0 (i := 10) (by decide) (by decide) k
              have e34_11 : ∀ k, tg t34 (sr sh r0 11) k = tg t1 (sr sh r0 11) k := fun k => f34.eq q0 (i := 11) (by decide) (by decide) k
              have e34_13 : ∀ k, tg t34 (sr sh r0 13) k = tg t1 (sr sh r0 13) k := fun k => f34.eq q0 (i := 13) (by decide) (by decide) k
              refine zok_ck ((q0).1) ?_
              refine zok_ck ⟨(by rw [(q0).2.2.2.2.2.2.2.2.2.2.2.2.2.1]), zin_o (by omega) (by omega) (by omega)⟩ ?_
              try rw [nN_o (a := x4) (by omega) (by omega)]
              try simp only [zput_s, zput_n, ti_g, oI_add, oI_sub, oI_mul, zt0, zt1, zt2, zt3, zt4, zt5, zt6, e0_2, e0_3, e0_4, e0_11, e34_2, e34_3, e34_4, e34_9, e34_10, e34_11, e34_13]
              obtain ⟨t35, ht35⟩ : ∃ t', t' = tI t34 (sr sh r0 13) ((x4).toNat) (oI (x6)) := ⟨_, rfl⟩
              try simp only [zt0, zt1, zt2, zt3, zt4, zt5, zt6, e0_2, e0_3, e0_4, e0_11, e34_2, e34_3, e34_4, e34_9, e34_10, e34_11, e34_13] at ht35
              rw [← ht35]
              have f35 : FrV sh r0 [13] t34 t35 := by rw [ht35]; exact GI_free q0 (f34.g) (by decide)
              have w35 : ∀ k, tg t35 (sr sh r0 13) k = if k = (x4).toNat then x6 else tg t34 (sr sh r0 13) k := fun k => by rw [ht35]; refine (tg_at (by omega)).trans ?_; first | rfl | simp only [zt0, zt1, zt2, zt3, zt4, zt5, zt6, e0_2, e0_3, e0_4, e0_11, e34_2, e34_3, e34_4, e34_9, e34_10, e34_11, e34_13, true_and]
              have ws35 : tg t35 (sr sh r0 13) ((x4).toNat) = x6 := by rw [w35, if_pos rfl]
              try simp only [zt0, zt1, zt2, zt3, zt4, zt5, zt6, e0_2, e0_3, e0_4, e0_11, e34_2, e34_3, e34_4, e34_9, e34_10, e34_11, e34_13] at w35
              try simp only [zt0, zt1, zt2, zt3, zt4, zt5, zt6, e0_2, e0_3, e0_4, e0_11, e34_2, e34_3, e34_4, e34_9, e34_10, e34_11, e34_13] at ws35
              have e35_2 : ∀ k, tg t35 (sr sh r0 2) k = tg t34 (sr sh r0 2) k := fun k => f35.eq q0 (i := 2) (by decide) (by decide) k
              have e35_3 : ∀ k, tg t35 (sr sh r0 3) k = tg t34 (sr sh r0 3) k := fun k => f35.eq q0 (i := 3) (by decide) (by decide) k
              have e35_4 : ∀ k, tg t35 (sr sh r0 4) k = tg t34 (sr sh r0 4) k := fun k => f35.eq q0 (i := 4) (by decide) (by decide) k
              have e35_9 : ∀ k, tg t35 (sr sh r0 9) k = tg t34 (sr sh r0 9) k := fun k => f35.eq q0 (i := 9) (by decide) (by decide) k
              have e35_10 : ∀ k, tg t35 (sr sh r0 10) k = tg t34 (sr sh r0 10) k := fun k => f35.eq q0 (i := 10) (by decide) (by decide) k
              have e35_11 : ∀ k, tg t35 (sr sh r0 11) k = tg t34 (sr sh r0 11) k := fun k => f35.eq q0 (i := 11) (by decide) (by decide) k
              have e35_12 : ∀ k, tg t35 (sr sh r0 12) k = tg t34 (sr sh r0 12) k := fun k => f35.eq q0 (i := 12) (by decide) (by decide) k
              simp only [zput_s, zput_n, ti_g, oI_add, oI_sub, oI_mul, zt0, zt1, zt2, zt3, zt4, zt5, zt6, e0_2, e0_3, e0_4, e0_11, e34_2, e34_3, e34_4, e34_9, e34_10, e34_11, e34_13, e35_2, e35_3, e35_4, e35_9, e35_10, e35_11, e35_12, b162_184]
              try simp only [zput_s, zput_n, ti_g, oI_add, oI_sub, oI_mul]
              try simp only [zput_s, zput_n, ti_g, oI_add, oI_sub, oI_mul]
              exact ih.1 _ _ _ _ _ _ _ _ (by first | rfl | assumption) (by first | rfl | assumption) (by first | rfl | assumption) _ ((FrV.trans (Ns := [9, 10, 12, 13]) ((FrV.trans (Ns := [9, 10, 12, 13]) (f0) f34 (by decide) (by decide))) f35 (by decide) (by decide))) (by first | omega | ((try simp only [zt0, zt1, zt2, zt3, zt4, zt5, zt6, e0_2, e0_3, e0_4, e0_11, e34_2, e34_3, e34_4, e34_9, e34_10, e34_11, e34_13, e35_2, e35_3, e35_4, e35_9, e35_10, e35_11, e35_12]); omega)) (fun i hi => by first | (have h := hq1 i; (try simp only [w34, w35, zt0, zt1, zt2, zt3, zt4, zt5, zt6, e0_2, e0_3, e0_4, e0_11, e34_2, e34_3, e34_4, e34_9, e34_10, e34_11, e34_13, e35_2, e35_3, e35_4, e35_9, e35_10, e35_11, e35_12, true_and]); omega) | omega) (fun i hi => by first | (have h := hq2 i; have h2 := hq1 i; (try simp only [w34, w35, zt0, zt1, zt2, zt3, zt4, zt5, zt6, e0_2, e0_3, e0_4, e0_11, e34_2, e34_3, e34_4, e34_9, e34_10, e34_11, e34_13, e35_2, e35_3, e35_4, e35_9, e35_10, e35_11, e35_12, true_and]); omega) | omega) (fun k => by first | rfl | exact hq3 k | (simp only [w34, w35, zt0, zt1, zt2, zt3, zt4, zt5, zt6, e0_2, e0_3, e0_4, e0_11, e34_2, e34_3, e34_4, e34_9, e34_10, e34_11, e34_13, e35_2, e35_3, e35_4, e35_9, e35_10, e35_11, e35_12, true_and]; exact hq3 k)) (by first | omega | ((try simp only [zt0, zt1, zt2, zt3, zt4, zt5, zt6, e0_2, e0_3, e0_4, e0_11, e34_2, e34_3, e34_4, e34_9, e34_10, e34_11, e34_13, e35_2, e35_3, e35_4, e35_9, e35_10, e35_11, e35_12]); omega))
          · first | refine zok_le (by omega) (fun c37 => ?_) (fun c37 => ?_) | refine zok_if (fun c37 => ?_) (fun c37 => ?_)
            · simp only [zput_s, zput_n, ti_g, oI_add, oI_sub, oI_mul, zt0, zt1, zt2, zt3, zt4, zt5, zt6, e0_2, e0_3, e0_4, e0_11, b162_154]
              try simp only [zput_s, zput_n, ti_g, oI_add, oI_sub, oI_mul]
              simp only [zput_s, zput_n, ti_g, oI_add, oI_sub, oI_mul, zt0, zt1, zt2, zt3, zt4, zt5, zt6, e0_2, e0_3, e0_4, e0_11, b162_184]
              try simp only [zput_s, zput_n, ti_g, oI_add, oI_sub, oI_mul]
              try simp only [zput_s, zput_n, ti_g, oI_add, oI_sub, oI_mul]
              exact ih.1 _ _ _ _ _ _ _ _ (by first | rfl | assumption) (by first | rfl | assumption) (by first | rfl | assumption) _ (f0) (by first | omega | ((try simp only [zt0, zt1, zt2, zt3, zt4, zt5, zt6, e0_2, e0_3, e0_4, e0_11]); omega)) (fun i hi => by first | (have h := hq1 i; (try simp only [zt0, zt1, zt2, zt3, zt4, zt5, zt6, e0_2, e0_3, e0_4, e0_11, true_and]); omega) | omega) (fun i hi => by first | (have h := hq2 i; have h2 := hq1 i; (try simp only [zt0, zt1, zt2, zt3, zt4, zt5, zt6, e0_2, e0_3, e0_4, e0_11, true_and]); omega) | omega) (fun k => by first | rfl | exact hq3 k | (simp only [zt0, zt1, zt2, zt3, zt4, zt5, zt6, e0_2, e0_3, e0_4, e0_11, true_and]; exact hq3 k)) (by first | omega | ((try simp only [zt0, zt1, zt2, zt3, zt4, zt5, zt6, e0_2, e0_3, e0_4, e0_11]); omega))
            · simp only [zput_s, zput_n, ti_g, oI_add, oI_sub, oI_mul, zt0, zt1, zt2, zt3, zt4, zt5, zt6, e0_2, e0_3, e0_4, e0_11, b162_154]
              try simp only [zput_s, zput_n, ti_g, oI_add, oI_sub, oI_mul]
              simp only [zput_s, zput_n, ti_g, oI_add, oI_sub, oI_mul, zt0, zt1, zt2, zt3, zt4, zt5, zt6, e0_2, e0_3, e0_4, e0_11, b162_184]
              try simp only [zput_s, zput_n, ti_g, oI_add, oI_sub, oI_mul]
              try simp only [zput_s, zput_n, ti_g, oI_add, oI_sub, oI_mul]
              exact ih.1 _ _ _ _ _ _ _ _ (by first | rfl | assumption) (by first | rfl | assumption) (by first | rfl | assumption) _ (f0) (by first | omega | ((try simp only [zt0, zt1, zt2, zt3, zt4, zt5, zt6, e0_2, e0_3, e0_4, e0_11]); omega)) (fun i hi => by first | (have h := hq1 i; (try simp only [zt0, zt1, zt2, zt3, zt4, zt5, zt6, e0_2, e0_3, e0_4, e0_11, true_and]); omega) | omega) (fun i hi => by first | (have h := hq2 i; have h2 := hq1 i; (try simp only [zt0, zt1, zt2, zt3, zt4, zt5, zt6, e0_2, e0_3, e0_4, e0_11, true_and]); omega) | omega) (fun k => by first | rfl | exact hq3 k | (simp only [zt0, zt1, zt2, zt3, zt4, zt5, zt6, e0_2, e0_3, e0_4, e0_11, true_and]; exact hq3 k)) (by first | omega | ((try simp only [zt0, zt1, zt2, zt3, zt4, zt5, zt6, e0_2, e0_3, e0_4, e0_11]); omega))
theorem l162_40 {sh : zSh} {t0 : zSt} {MB : Nat} {r0 : Nat} (q0 : zMd sh MB r0) (d1 : tg t0 (sr sh r0 10) 4 ≤ 1400) (G : GI sh r0 t0) : ∀ (n : Nat) (x1 : Int) (x2 : Int) (x3 : Int) (x4 : Int) (v5 : Int32) (o6 : Option zV) (o7 : Option zV) (o8 : Option zV) (wo6 : zisL o6 = false) (wo7 : zisL o7 = false) (wo8 : zisL o8 = false) (t1 : zSt), FrV sh r0 [9, 10, 12, 13] t0 t1 → (-2147483648 ≤ x1 ∧ x1 ≤ 2147483647) ∧ (-2147483648 ≤ x2 ∧ x2 ≤ 2147483647) ∧ (-2147483648 ≤ x3 ∧ x3 ≤ 2147483647) ∧ (-2147483648 ≤ x4 ∧ x4 ≤ 2147483647) ∧ (0 ≤ x3 ∧ 0 ≤ x4 ∧ x4 ≤ x3 ∧ 0 ≤ x2 ∧ x2 ≤ 1 ∧ x2 ≤ x3 ∧ 0 ≤ x1 ∧ x1 ≤ 1400 ∧ x1 = tg t0 (sr sh r0 10) 4 ∧ x3 ≤ x1 + 1) → (∀ i : Nat, (i : Int) < x4 → x2 ≤ tg t1 (sr sh r0 12) i ∧ tg t1 (sr sh r0 12) i ≤ tg t1 (sr sh r0 13) i ∧ tg t1 (sr sh r0 13) i ≤ x1 ∧ tg t1 (sr sh r0 13) i + 1 ≤ x3) → (∀ i : Nat, (i : Int) + 1 < x4 → tg t1 (sr sh r0 13) i + 1 ≤ tg t1 (sr sh r0 12) (i + 1)) → (∀ k : Nat, tg t1 (sr sh r0 10) k = tg t0 (sr sh r0 10) k) → (2 * (x1 - x3) + 2).toNat < n → zok (zev zP 162 40 [some (zR r0), some (zI (oI x1)), some (zI (oI x2)), some (zI (oI x3)), some (zI (oI x4)), some (zI v5), o6, o7, o8] [] (sh, t1)) (zq0 (fun t' => FrV sh r0 [9, 10, 12, 13] t0 t' ∧ (tg t' (sr sh r0 10) 4 ≤ tg t0 (sr sh r0 10) 4 + 1 ∧ ∀ k, k ≠ 4 → tg t' (sr sh r0 10) k = tg t0 (sr sh r0 10) k)) sh) := fun n => (l162_J40  q0 d1 G n).1
theorem l162_119 {sh : zSh} {t0 : zSt} {MB : Nat} {r0 : Nat} (q0 : zMd sh MB r0) (d1 : tg t0 (sr sh r0 10) 4 ≤ 1400) (G : GI sh r0 t0) : ∀ (n : Nat) (x1 : Int) (x2 : Int) (x3 : Int) (x4 : Int) (v5 : Int32) (x6 : Int) (x7 : Int) (x8 : Int)  (t1 : zSt), FrV sh r0 [9, 10, 12, 13] t0 t1 → (-2147483648 ≤ x1 ∧ x1 ≤ 2147483647) ∧ (-2147483648 ≤ x2 ∧ x2 ≤ 2147483647) ∧ (-2147483648 ≤ x3 ∧ x3 ≤ 2147483647) ∧ (-2147483648 ≤ x4 ∧ x4 ≤ 2147483647) ∧ (-2147483648 ≤ x6 ∧ x6 ≤ 2147483647) ∧ (-2147483648 ≤ x7 ∧ x7 ≤ 2147483647) ∧ (-2147483648 ≤ x8 ∧ x8 ≤ 2147483647) ∧ (0 ≤ x3 ∧ 0 ≤ x4 ∧ x4 ≤ x3 ∧ 0 ≤ x2 ∧ x2 ≤ 1 ∧ x2 ≤ x3 ∧ 0 ≤ x1 ∧ x1 ≤ 1400 ∧ x1 = tg t0 (sr sh r0 10) 4 ∧ x3 ≤ x1 ∧ x3 ≤ x6 ∧ x6 ≤ x1) → (∀ i : Nat, (i : Int) < x4 → x2 ≤ tg t1 (sr sh r0 12) i ∧ tg t1 (sr sh r0 12) i ≤ tg t1 (sr sh r0 13) i ∧ tg t1 (sr sh r0 13) i ≤ x1 ∧ tg t1 (sr sh r0 13) i + 1 ≤ x3) → (∀ i : Nat, (i : Int) + 1 < x4 → tg t1 (sr sh r0 13) i + 1 ≤ tg t1 (sr sh r0 12) (i + 1)) → (∀ k : Nat, tg t1 (sr sh r0 10) k = tg t0 (sr sh r0 10) k) → (2 * (x1 - x3) + 1).toNat < n → zok (zev zP 162 119 [some (zR r0), some (zI (oI x1)), some (zI (oI x2)), some (zI (oI x3)), some (zI (oI x4)), some (zI v5), some (zI (oI x6)), some (zI (oI x7)), some (zI (oI x8))] [] (sh, t1)) (zq0 (fun t' => FrV sh r0 [9, 10, 12, 13] t0 t' ∧ (tg t' (sr sh r0 10) 4 ≤ tg t0 (sr sh r0 10) 4 + 1 ∧ ∀ k, k ≠ 4 → tg t' (sr sh r0 10) k = tg t0 (sr sh r0 10) k)) sh) := fun n => (l162_J40  q0 d1 G n).2
theorem s162 {sh : zSh} {t : zSt} {MB : Nat} {r0 : Nat} (q0 : zMd sh MB r0) (d1 : tg t (sr sh r0 10) 4 ≤ 1400) (G : GI sh r0 t) : zok (zcl zP 162 [zR r0] (sh, t)) (zq0 (fun t' => FrV sh r0 [9, 10, 12, 13] t t' ∧ (tg t' (sr sh r0 10) 4 ≤ tg t (sr sh r0 10) 4 + 1 ∧ ∀ k, k ≠ 4 → tg t' (sr sh r0 10) k = tg t (sr sh r0 10) k)) sh) := by
  have ha0_1 : (sk sh (sr sh r0 1)).2 = 21000 := by rw [q0.2.2.2.2.1]
  have ha0_2 : (sk sh (sr sh r0 2)).2 = 14 := by rw [q0.2.2.2.2.2.1]
  have ha0_3 : (sk sh (sr sh r0 3)).2 = 98 := by rw [q0.2.2.2.2.2.2.1]
  have ha0_4 : (sk sh (sr sh r0 4)).2 = 98 := by rw [q0.2.2.2.2.2.2.2.1]
  have ha0_8 : (sk sh (sr sh r0 8)).2 = 1500 := by rw [q0.2.2.2.2.2.2.2.2.1]
  have ha0_9 : (sk sh (sr sh r0 9)).2 = 10500 := by rw [q0.2.2.2.2.2.2.2.2.2.1]
  have ha0_10 : (sk sh (sr sh r0 10)).2 = 7 := by rw [q0.2.2.2.2.2.2.2.2.2.2.1]
  have ha0_11 : (sk sh (sr sh r0 11)).2 = 7 := by rw [q0.2.2.2.2.2.2.2.2.2.2.2.1]
  have ha0_12 : (sk sh (sr sh r0 12)).2 = 1500 := by rw [q0.2.2.2.2.2.2.2.2.2.2.2.2.1]
  have ha0_13 : (sk sh (sr sh r0 13)).2 = 1500 := by rw [q0.2.2.2.2.2.2.2.2.2.2.2.2.2.1]
  have ha0_14 : (sk sh (sr sh r0 14)).2 = 20 := by rw [q0.2.2.2.2.2.2.2.2.2.2.2.2.2.2]
  rw [b162_0]
  try simp only [zput_s, zput_n, ti_g, oI_add, oI_sub, oI_mul]
  refine zok_ck ((q0).1) ?_
  refine zok_ck ⟨(by rw [(q0).2.2.2.2.2.2.2.2.2.2.1]), zin_o (by omega) (by omega) (by omega)⟩ ?_
  try rw [nN_o (a := 4) (by omega) (by omega)]
  try rw [show (4 : Int).toNat = 4 from rfl]
  try simp only [zput_s, zput_n, ti_g, oI_add, oI_sub, oI_mul, zt0, zt1, zt2, zt3, zt4, zt5, zt6]
  have gl43 := And.intro (tg_lo t (sr sh r0 10) (4)) (tg_hi t (sr sh r0 10) (4))
  have gm43 := (G).2.2.1 (4) (by omega)
  try simp only [zt0, zt1, zt2, zt3, zt4, zt5, zt6] at gl43
  try simp only [zt0, zt1, zt2, zt3, zt4, zt5, zt6] at gm43
  refine zok_ck ((q0).1) ?_
  refine zok_pI (s160 (q0) (by omega) (by omega) (by first | (omega) | ((try simp only [zt0, zt1, zt2, zt3, zt4, zt5, zt6]); omega)) (G)) (fun y44 u44 p44 => ?_)
  try simp only [zt0, zt1, zt2, zt3, zt4, zt5, zt6] at p44
  simp only [zput_s, zput_n, ti_g, oI_add, oI_sub, oI_mul, zt0, zt1, zt2, zt3, zt4, zt5, zt6, b162_13]
  try simp only [zput_s, zput_n, ti_g, oI_add, oI_sub, oI_mul]
  first | refine zok_ne (by omega) (fun c46 => ?_) (fun c46 => ?_) | refine zok_if (fun c46 => ?_) (fun c46 => ?_)
  · simp only [zput_s, zput_n, ti_g, oI_add, oI_sub, oI_mul, zt0, zt1, zt2, zt3, zt4, zt5, zt6, b162_23]
    try simp only [zput_s, zput_n, ti_g, oI_add, oI_sub, oI_mul]
    simp only [zput_s, zput_n, ti_g, oI_add, oI_sub, oI_mul, zt0, zt1, zt2, zt3, zt4, zt5, zt6, b162_33]
    try simp only [zput_s, zput_n, ti_g, oI_add, oI_sub, oI_mul]
    try simp only [zput_s, zput_n, ti_g, oI_add, oI_sub, oI_mul]
    exact l162_40 q0 d1 G _ _ _ _ _ _ _ _ _ (by first | rfl | assumption) (by first | rfl | assumption) (by first | rfl | assumption) _ (FrV.refl G) (by first | omega | ((try simp only [zt0, zt1, zt2, zt3, zt4, zt5, zt6]); omega)) (fun i hi => by first | (have h := hq1 i; (try simp only [zt0, zt1, zt2, zt3, zt4, zt5, zt6, true_and]); omega) | omega) (fun i hi => by first | (have h := hq2 i; have h2 := hq1 i; (try simp only [zt0, zt1, zt2, zt3, zt4, zt5, zt6, true_and]); omega) | omega) (fun k => by first | rfl | exact hq3 k | (simp only [zt0, zt1, zt2, zt3, zt4, zt5, zt6, true_and]; exact hq3 k)) (Nat.lt_succ_self _)
  · simp only [zput_s, zput_n, ti_g, oI_add, oI_sub, oI_mul, zt0, zt1, zt2, zt3, zt4, zt5, zt6, b162_23]
    try simp only [zput_s, zput_n, ti_g, oI_add, oI_sub, oI_mul]
    first | refine zok_eq (by omega) (fun c50 => ?_) (fun c50 => ?_) | refine zok_if (fun c50 => ?_) (fun c50 => ?_)
    · simp only [zput_s, zput_n, ti_g, oI_add, oI_sub, oI_mul, zt0, zt1, zt2, zt3, zt4, zt5, zt6, b162_33]
      try simp only [zput_s, zput_n, ti_g, oI_add, oI_sub, oI_mul]
      try simp only [zput_s, zput_n, ti_g, oI_add, oI_sub, oI_mul]
      exact l162_40 q0 d1 G _ _ _ _ _ _ _ _ _ (by first | rfl | assumption) (by first | rfl | assumption) (by first | rfl | assumption) _ (FrV.refl G) (by first | omega | ((try simp only [zt0, zt1, zt2, zt3, zt4, zt5, zt6]); omega)) (fun i hi => by first | (have h := hq1 i; (try simp only [zt0, zt1, zt2, zt3, zt4, zt5, zt6, true_and]); omega) | omega) (fun i hi => by first | (have h := hq2 i; have h2 := hq1 i; (try simp only [zt0, zt1, zt2, zt3, zt4, zt5, zt6, true_and]); omega) | omega) (fun k => by first | rfl | exact hq3 k | (simp only [zt0, zt1, zt2, zt3, zt4, zt5, zt6, true_and]; exact hq3 k)) (Nat.lt_succ_self _)
    · simp only [zput_s, zput_n, ti_g, oI_add, oI_sub, oI_mul, zt0, zt1, zt2, zt3, zt4, zt5, zt6, b162_33]
      try simp only [zput_s, zput_n, ti_g, oI_add, oI_sub, oI_mul]
      try simp only [zput_s, zput_n, ti_g, oI_add, oI_sub, oI_mul]
      exact l162_40 q0 d1 G _ _ _ _ _ _ _ _ _ (by first | rfl | assumption) (by first | rfl | assumption) (by first | rfl | assumption) _ (FrV.refl G) (by first | omega | ((try simp only [zt0, zt1, zt2, zt3, zt4, zt5, zt6]); omega)) (fun i hi => by first | (have h := hq1 i; (try simp only [zt0, zt1, zt2, zt3, zt4, zt5, zt6, true_and]); omega) | omega) (fun i hi => by first | (have h := hq2 i; have h2 := hq1 i; (try simp only [zt0, zt1, zt2, zt3, zt4, zt5, zt6, true_and]); omega) | omega) (fun k => by first | rfl | exact hq3 k | (simp only [zt0, zt1, zt2, zt3, zt4, zt5, zt6, true_and]; exact hq3 k)) (Nat.lt_succ_self _)
