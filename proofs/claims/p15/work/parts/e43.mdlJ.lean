set_option maxRecDepth 16384
/-! X9_layGroups -/
theorem l184_J70 {sh : zSh} {t0 : zSt} {MB : Nat} {r0 : Nat} (q0 : zMd sh MB r0) (G : GI sh r0 t0) : ∀ (n : Nat), (∀ (x1 : Int) (x2 : Int) (x3 : Int) (o4 : Option zV) (o5 : Option zV) (o6 : Option zV) (o7 : Option zV) (wo4 : zisL o4 = false) (wo5 : zisL o5 = false) (wo6 : zisL o6 = false) (wo7 : zisL o7 = false) (t1 : zSt), FrV sh r0 [9, 10] t0 t1 → (-2147483648 ≤ x1 ∧ x1 ≤ 2147483647) ∧ (-2147483648 ≤ x2 ∧ x2 ≤ 2147483647) ∧ (-2147483648 ≤ x3 ∧ x3 ≤ 2147483647) ∧ (0 ≤ x1 ∧ x1 ≤ 7 ∧ 0 ≤ x2 ∧ x1 + x2 ≤ 8 ∧ 0 ≤ x3 ∧ x3 ≤ 8) ∧ (tg t1 (sr sh r0 10) 2 ≤ 6 * x3 + 1) → (∀ k, k ≠ 2 → tg t1 (sr sh r0 10) k = tg t0 (sr sh r0 10) k) → (10000 * (8 - x3) + 9000).toNat < n → zok (zev zP 184 70 [some (zR r0), some (zI (oI x1)), some (zI (oI x2)), some (zI (oI x3)), o4, o5, o6, o7] [] (sh, t1)) (zq0 (fun t' => FrV sh r0 [9, 10] t0 t' ∧ (tg t' (sr sh r0 10) 2 ≤ 100 ∧ ∀ k, k ≠ 2 → tg t' (sr sh r0 10) k = tg t0 (sr sh r0 10) k)) sh)) ∧ (∀ (x1 : Int) (x2 : Int) (x3 : Int) (x4 : Int) (o5 : Option zV) (o6 : Option zV) (o7 : Option zV) (wo5 : zisL o5 = false) (wo6 : zisL o6 = false) (wo7 : zisL o7 = false) (t1 : zSt), FrV sh r0 [9, 10] t0 t1 → (-2147483648 ≤ x1 ∧ x1 ≤ 2147483647) ∧ (-2147483648 ≤ x2 ∧ x2 ≤ 2147483647) ∧ (-2147483648 ≤ x3 ∧ x3 ≤ 2147483647) ∧ (-2147483648 ≤ x4 ∧ x4 ≤ 2147483647) ∧ (0 ≤ x1 ∧ x1 ≤ 7 ∧ 0 ≤ x2 ∧ x1 + x2 ≤ 8 ∧ 0 ≤ x3 ∧ x3 ≤ 7) ∧ (tg t1 (sr sh r0 10) 2 ≤ 6 * x3 + 2) → (∀ k, k ≠ 2 → tg t1 (sr sh r0 10) k = tg t0 (sr sh r0 10) k) → (10000 * (8 - x3) + 8000).toNat < n → zok (zev zP 184 149 [some (zR r0), some (zI (oI x1)), some (zI (oI x2)), some (zI (oI x3)), some (zI (oI x4)), o5, o6, o7] [] (sh, t1)) (zq0 (fun t' => FrV sh r0 [9, 10] t0 t' ∧ (tg t' (sr sh r0 10) 2 ≤ 100 ∧ ∀ k, k ≠ 2 → tg t' (sr sh r0 10) k = tg t0 (sr sh r0 10) k)) sh)) ∧ (∀ (x1 : Int) (x2 : Int) (x3 : Int) (x4 : Int) (v5 : Int32) (x6 : Int) (o7 : Option zV) (wo7 : zisL o7 = false) (t1 : zSt), FrV sh r0 [9, 10] t0 t1 → (-2147483648 ≤ x1 ∧ x1 ≤ 2147483647) ∧ (-2147483648 ≤ x2 ∧ x2 ≤ 2147483647) ∧ (-2147483648 ≤ x3 ∧ x3 ≤ 2147483647) ∧ (-2147483648 ≤ x4 ∧ x4 ≤ 2147483647) ∧ (-2147483648 ≤ x6 ∧ x6 ≤ 2147483647) ∧ (0 ≤ x1 ∧ x1 ≤ 7 ∧ 0 ≤ x2 ∧ x1 + x2 ≤ 8 ∧ 0 ≤ x3 ∧ x3 ≤ 7) ∧ (0 ≤ x6 ∧ x6 ≤ 4096 ∧ tg t1 (sr sh r0 10) 2 + zdg x6 ≤ 6 * x3 + 6) → (∀ k, k ≠ 2 → tg t1 (sr sh r0 10) k = tg t0 (sr sh r0 10) k) → (10000 * (8 - x3) + 100 + x6).toNat < n → zok (zev zP 184 200 [some (zR r0), some (zI (oI x1)), some (zI (oI x2)), some (zI (oI x3)), some (zI (oI x4)), some (zI v5), some (zI (oI x6)), o7] [] (sh, t1)) (zq0 (fun t' => FrV sh r0 [9, 10] t0 t' ∧ (tg t' (sr sh r0 10) 2 ≤ 100 ∧ ∀ k, k ≠ 2 → tg t' (sr sh r0 10) k = tg t0 (sr sh r0 10) k)) sh)) ∧ (∀ (x1 : Int) (x2 : Int) (x3 : Int) (x4 : Int) (o5 : Option zV) (o6 : Option zV) (o7 : Option zV) (wo5 : zisL o5 = false) (wo6 : zisL o6 = false) (wo7 : zisL o7 = false) (t1 : zSt), FrV sh r0 [9, 10] t0 t1 → (-2147483648 ≤ x1 ∧ x1 ≤ 2147483647) ∧ (-2147483648 ≤ x2 ∧ x2 ≤ 2147483647) ∧ (-2147483648 ≤ x3 ∧ x3 ≤ 2147483647) ∧ (-2147483648 ≤ x4 ∧ x4 ≤ 2147483647) ∧ (0 ≤ x1 ∧ x1 ≤ 7 ∧ 0 ≤ x2 ∧ x1 + x2 ≤ 8 ∧ 0 ≤ x3 ∧ x3 ≤ 7) ∧ (tg t1 (sr sh r0 10) 2 ≤ 6 * x3 + 6) → (∀ k, k ≠ 2 → tg t1 (sr sh r0 10) k = tg t0 (sr sh r0 10) k) → (10000 * (8 - x3) + 50).toNat < n → zok (zev zP 184 250 [some (zR r0), some (zI (oI x1)), some (zI (oI x2)), some (zI (oI x3)), some (zI (oI x4)), o5, o6, o7] [] (sh, t1)) (zq0 (fun t' => FrV sh r0 [9, 10] t0 t' ∧ (tg t' (sr sh r0 10) 2 ≤ 100 ∧ ∀ k, k ≠ 2 → tg t' (sr sh r0 10) k = tg t0 (sr sh r0 10) k)) sh)) := by
  intro n
  induction n with
  | zero => exact ⟨(by intro x1 x2 x3 o4 o5 o6 o7 wo4 wo5 wo6 wo7 t1 f0 _ _ hm; omega), (by intro x1 x2 x3 x4 o5 o6 o7 wo5 wo6 wo7 t1 f0 _ _ hm; omega), (by intro x1 x2 x3 x4 v5 x6 o7 wo7 t1 f0 _ _ hm; omega), (by intro x1 x2 x3 x4 o5 o6 o7 wo5 wo6 wo7 t1 f0 _ _ hm; omega)⟩
  | succ n ih =>
    refine ⟨?_, ?_⟩
    · intro x1 x2 x3 o4 o5 o6 o7 wo4 wo5 wo6 wo7 t1 f0 hv hq1 hm
      have ha0_1 : (sk sh (sr sh r0 1)).2 = 21000 := by rw [q0.2.2.2.2.1]
      have ha0_2 : (sk sh (sr sh r0 2)).2 = 14 := by rw [q0.2.2.2.2.2.1]
      have ha0_3 : (sk sh (sr sh r0 3)).2 = 98 := by rw [q0.2.2.2.2.2.2.1]
      have ha0_4 : (sk sh (sr sh r0 4)).2 = 98 := by rw [q0.2.2.2.2.2.2.2.1]
      have ha0_8 : (sk sh (sr sh r0 8)).2 = 1500 := by rw [q0.2.2.2.2.2.2.2.2.1]
      have ha0_9 : (sk sh (sr sh r0 9)).2 = 10500 := by rw [q0.2.2.2.2.2.2.2.2.2.1]
      have ha0_10 : (sk sh (sr sh r0 10)).2 = 7 := by rw [q0.2.2.2.2.2.2.2.2.2.2.1]
      have ha0_11 : (sk sh (sr sh r0 11)).2 = 7 := by rw [q0.2.2.2.2.2.2.2.2.2.2.2.1]
      have ha0_12 : (sk sh (sr sh r0 12)).2 = 1500 := by rw [q0.2.2.2.2.2.2.2.2.2.2.2.2.1]
      have ha0_13 : (sk sh (sr sh r0 13)).2 = 1500 := by rw [q0.2.2.2.2.2.2.2.2.2.2.2.2.2.1]
      have ha0_14 : (sk sh (sr sh r0 14)).2 = 20 := by rw [q0.2.2.2.2.2.2.2.2.2.2.2.2.2.2]
      have e0_2 : ∀ k, tg t1 (sr sh r0 2) k = tg t0 (sr sh r0 2) k := fun k => f0.eq q0 (i := 2) (by decide) (by decide) k
      have e0_3 : ∀ k, tg t1 (sr sh r0 3) k = tg t0 (sr sh r0 3) k := fun k => f0.eq q0 (i := 3) (by decide) (by decide) k
      have e0_4 : ∀ k, tg t1 (sr sh r0 4) k = tg t0 (sr sh r0 4) k := fun k => f0.eq q0 (i := 4) (by decide) (by decide) k
      have e0_11 : ∀ k, tg t1 (sr sh r0 11) k = tg t0 (sr sh r0 11) k := fun k => f0.eq q0 (i := 11) (by decide) (by decide) k
      have e0_14 : ∀ k, tg t1 (sr sh r0 14) k = tg t0 (sr sh r0 14) k := fun k => f0.eq q0 (i := 14) (by decide) (by decide) k
      try simp only [zt0, zt1, zt2, zt3, zt4, zt5, zt6, zt7, zt8, zt9, zt10, zt11, zt12, zt13, e0_2, e0_3, e0_4, e0_11, e0_14] at hv
      try simp only [zt0, zt1, zt2, zt3, zt4, zt5, zt6, zt7, zt8, zt9, zt10, zt11, zt12, zt13, e0_2, e0_3, e0_4, e0_11, e0_14] at hm
      try simp only [zput_s, zput_n, ti_g, oI_add, oI_sub, oI_mul]
      rw [b184_70 (o4 := o4) (wo4 := wo4) (o5 := o5) (wo5 := wo5) (o6 := o6) (wo6 := wo6) (o7 := o7) (wo7 := wo7)]
      try simp only [zput_s, zput_n, ti_g, oI_add, oI_sub, oI_mul]
      first | refine zok_le (by omega) (fun c2 => ?_) (fun c2 => ?_) | refine zok_if (fun c2 => ?_) (fun c2 => ?_)
      · refine zok_ck ((q0).1) ?_
        refine zok_c0 (s152 (q0) (by omega) (by omega) (by first | (omega) | ((try simp only [zt0, zt1, zt2, zt3, zt4, zt5, zt6, zt7, zt8, zt9, zt10, zt11, zt12, zt13, e0_2, e0_3, e0_4, e0_11, e0_14]); omega)) (by first | (omega) | ((try simp only [zt0, zt1, zt2, zt3, zt4, zt5, zt6, zt7, zt8, zt9, zt10, zt11, zt12, zt13, e0_2, e0_3, e0_4, e0_11, e0_14]); omega)) (f0.g)) (fun t3 p3 => ?_)
        obtain ⟨f3, p3⟩ := p3
        have e3_2 : ∀ k, tg t3 (sr sh r0 2) k = tg t1 (sr sh r0 2) k := fun k => f3.eq q0 (i := 2) (by decide) (by decide) k
        have e3_3 : ∀ k, tg t3 (sr sh r0 3) k = tg t1 (sr sh r0 3) k := fun k => f3.eq q0 (i := 3) (by decide) (by decide) k
        have e3_4 : ∀ k, tg t3 (sr sh r0 4) k = tg t1 (sr sh r0 4) k := fun k => f3.eq q0 (i := 4) (by decide) (by decide) k
        have e3_11 : ∀ k, tg t3 (sr sh r0 11) k = tg t1 (sr sh r0 11) k := fun k => f3.eq q0 (i := 11) (by decide) (by decide) k
        have e3_14 : ∀ k, tg t3 (sr sh r0 14) k = tg t1 (sr sh r0 14) k := fun k => f3.eq q0 (i := 14) (by decide) (by decide) k
        try simp only [zt0, zt1, zt2, zt3, zt4, zt5, zt6, zt7, zt8, zt9, zt10, zt11, zt12, zt13, e0_2, e0_3, e0_4, e0_11, e0_14, e3_2, e3_3, e3_4, e3_11, e3_14] at p3
        try simp only [zput_s, zput_n, ti_g, oI_add, oI_sub, oI_mul]
        rw [b184_263 (o4 := o4) (wo4 := wo4) (o5 := o5) (wo5 := wo5) (o6 := o6) (wo6 := wo6) (o7 := o7) (wo7 := wo7)]
        try simp only [zput_s, zput_n, ti_g, oI_add, oI_sub, oI_mul]
        exact q0_rt ⟨(FrV.trans (Ns := [9, 10]) (f0) f3 (by decide) (by decide)), ⟨by omega, fun k hk => by ((try have c0 := hq1 k hk); (try have c0 := hq1 k); (have c1 := p3.2 k (by omega)); (try simp only [zt0, zt1, zt2, zt3, zt4, zt5, zt6, zt7, zt8, zt9, zt10, zt11, zt12, zt13] at *) <;> omega)⟩⟩
      · first | refine zok_lt (by omega) (fun c5 => ?_) (fun c5 => ?_) | refine zok_if (fun c5 => ?_) (fun c5 => ?_)
        · try simp only [zput_s, zput_n, ti_g, oI_add, oI_sub, oI_mul]
          rw [b184_92 (o4 := o4) (wo4 := wo4) (o5 := o5) (wo5 := wo5) (o6 := o6) (wo6 := wo6) (o7 := o7) (wo7 := wo7)]
          try simp only [zput_s, zput_n, ti_g, oI_add, oI_sub, oI_mul]
          try simp only [zput_s, zput_n, ti_g, oI_add, oI_sub, oI_mul]
          rw [b184_93 (o4 := o4) (wo4 := wo4) (o5 := o5) (wo5 := wo5) (o6 := o6) (wo6 := wo6) (o7 := o7) (wo7 := wo7)]
          try simp only [zput_s, zput_n, ti_g, oI_add, oI_sub, oI_mul]
          try simp only [zput_s, zput_n, ti_g, oI_add, oI_sub, oI_mul]
          rw [b184_122 (o5 := o5) (wo5 := wo5) (o6 := o6) (wo6 := wo6) (o7 := o7) (wo7 := wo7)]
          try simp only [zput_s, zput_n, ti_g, oI_add, oI_sub, oI_mul]
          first | refine zok_le (by omega) (fun c9 => ?_) (fun c9 => ?_) | refine zok_if (fun c9 => ?_) (fun c9 => ?_)
          · try simp only [zput_s, zput_n, ti_g, oI_add, oI_sub, oI_mul]
            exact ih.2.1 _ _ _ _ _ _ _ (by first | rfl | assumption) (by first | rfl | assumption) (by first | rfl | assumption) _ (f0) (by first | omega | ((try simp only [zt0, zt1, zt2, zt3, zt4, zt5, zt6, zt7, zt8, zt9, zt10, zt11, zt12, zt13, e0_2, e0_3, e0_4, e0_11, e0_14]); omega)) (fun k hk => by ((try have c0 := hq1 k hk); (try have c0 := hq1 k); (try simp only [zt0, zt1, zt2, zt3, zt4, zt5, zt6, zt7, zt8, zt9, zt10, zt11, zt12, zt13] at *) <;> omega)) (by first | omega | ((try simp only [zt0, zt1, zt2, zt3, zt4, zt5, zt6, zt7, zt8, zt9, zt10, zt11, zt12, zt13, e0_2, e0_3, e0_4, e0_11, e0_14]); omega))
          · first | refine zok_le (by omega) (fun c10 => ?_) (fun c10 => ?_) | refine zok_if (fun c10 => ?_) (fun c10 => ?_)
            · try simp only [zput_s, zput_n, ti_g, oI_add, oI_sub, oI_mul]
              rw [b184_142 (o5 := o5) (wo5 := wo5) (o6 := o6) (wo6 := wo6) (o7 := o7) (wo7 := wo7)]
              try simp only [zput_s, zput_n, ti_g, oI_add, oI_sub, oI_mul]
              refine zok_ck ((q0).1) ?_
              refine zok_c0 (s152 (q0) (by omega) (by omega) (by first | (omega) | ((try simp only [zt0, zt1, zt2, zt3, zt4, zt5, zt6, zt7, zt8, zt9, zt10, zt11, zt12, zt13, e0_2, e0_3, e0_4, e0_11, e0_14]); omega)) (by first | (omega) | ((try simp only [zt0, zt1, zt2, zt3, zt4, zt5, zt6, zt7, zt8, zt9, zt10, zt11, zt12, zt13, e0_2, e0_3, e0_4, e0_11, e0_14]); omega)) (f0.g)) (fun t12 p12 => ?_)
              obtain ⟨f12, p12⟩ := p12
              have e12_2 : ∀ k, tg t12 (sr sh r0 2) k = tg t1 (sr sh r0 2) k := fun k => f12.eq q0 (i := 2) (by decide) (by decide) k
              have e12_3 : ∀ k, tg t12 (sr sh r0 3) k = tg t1 (sr sh r0 3) k := fun k => f12.eq q0 (i := 3) (by decide) (by decide) k
              have e12_4 : ∀ k, tg t12 (sr sh r0 4) k = tg t1 (sr sh r0 4) k := fun k => f12.eq q0 (i := 4) (by decide) (by decide) k
              have e12_11 : ∀ k, tg t12 (sr sh r0 11) k = tg t1 (sr sh r0 11) k := fun k => f12.eq q0 (i := 11) (by decide) (by decide) k
              have e12_14 : ∀ k, tg t12 (sr sh r0 14) k = tg t1 (sr sh r0 14) k := fun k => f12.eq q0 (i := 14) (by decide) (by decide) k
              try simp only [zt0, zt1, zt2, zt3, zt4, zt5, zt6, zt7, zt8, zt9, zt10, zt11, zt12, zt13, e0_2, e0_3, e0_4, e0_11, e0_14, e12_2, e12_3, e12_4, e12_11, e12_14] at p12
              try simp only [zput_s, zput_n, ti_g, oI_add, oI_sub, oI_mul]
              exact ih.2.1 _ _ _ _ _ _ _ (by first | rfl | assumption) (by first | rfl | assumption) (by first | rfl | assumption) _ ((FrV.trans (Ns := [9, 10]) (f0) f12 (by decide) (by decide))) (by first | omega | ((try simp only [zt0, zt1, zt2, zt3, zt4, zt5, zt6, zt7, zt8, zt9, zt10, zt11, zt12, zt13, e0_2, e0_3, e0_4, e0_11, e0_14, e12_2, e12_3, e12_4, e12_11, e12_14]); omega)) (fun k hk => by ((try have c0 := hq1 k hk); (try have c0 := hq1 k); (have c1 := p12.2 k (by omega)); (try simp only [zt0, zt1, zt2, zt3, zt4, zt5, zt6, zt7, zt8, zt9, zt10, zt11, zt12, zt13] at *) <;> omega)) (by first | omega | ((try simp only [zt0, zt1, zt2, zt3, zt4, zt5, zt6, zt7, zt8, zt9, zt10, zt11, zt12, zt13, e0_2, e0_3, e0_4, e0_11, e0_14, e12_2, e12_3, e12_4, e12_11, e12_14]); omega))
            · first | refine zok_eq (by omega) (fun c13 => ?_) (fun c13 => ?_) | refine zok_if (fun c13 => ?_) (fun c13 => ?_)
              · try simp only [zput_s, zput_n, ti_g, oI_add, oI_sub, oI_mul]
                exact ih.2.1 _ _ _ _ _ _ _ (by first | rfl | assumption) (by first | rfl | assumption) (by first | rfl | assumption) _ (f0) (by first | omega | ((try simp only [zt0, zt1, zt2, zt3, zt4, zt5, zt6, zt7, zt8, zt9, zt10, zt11, zt12, zt13, e0_2, e0_3, e0_4, e0_11, e0_14]); omega)) (fun k hk => by ((try have c0 := hq1 k hk); (try have c0 := hq1 k); (try simp only [zt0, zt1, zt2, zt3, zt4, zt5, zt6, zt7, zt8, zt9, zt10, zt11, zt12, zt13] at *) <;> omega)) (by first | omega | ((try simp only [zt0, zt1, zt2, zt3, zt4, zt5, zt6, zt7, zt8, zt9, zt10, zt11, zt12, zt13, e0_2, e0_3, e0_4, e0_11, e0_14]); omega))
              · try simp only [zput_s, zput_n, ti_g, oI_add, oI_sub, oI_mul]
                rw [b184_142 (o5 := o5) (wo5 := wo5) (o6 := o6) (wo6 := wo6) (o7 := o7) (wo7 := wo7)]
                try simp only [zput_s, zput_n, ti_g, oI_add, oI_sub, oI_mul]
                refine zok_ck ((q0).1) ?_
                refine zok_c0 (s152 (q0) (by omega) (by omega) (by first | (omega) | ((try simp only [zt0, zt1, zt2, zt3, zt4, zt5, zt6, zt7, zt8, zt9, zt10, zt11, zt12, zt13, e0_2, e0_3, e0_4, e0_11, e0_14]); omega)) (by first | (omega) | ((try simp only [zt0, zt1, zt2, zt3, zt4, zt5, zt6, zt7, zt8, zt9, zt10, zt11, zt12, zt13, e0_2, e0_3, e0_4, e0_11, e0_14]); omega)) (f0.g)) (fun t15 p15 => ?_)
                obtain ⟨f15, p15⟩ := p15
                have e15_2 : ∀ k, tg t15 (sr sh r0 2) k = tg t1 (sr sh r0 2) k := fun k => f15.eq q0 (i := 2) (by decide) (by decide) k
                have e15_3 : ∀ k, tg t15 (sr sh r0 3) k = tg t1 (sr sh r0 3) k := fun k => f15.eq q0 (i := 3) (by decide) (by decide) k
                have e15_4 : ∀ k, tg t15 (sr sh r0 4) k = tg t1 (sr sh r0 4) k := fun k => f15.eq q0 (i := 4) (by decide) (by decide) k
                have e15_11 : ∀ k, tg t15 (sr sh r0 11) k = tg t1 (sr sh r0 11) k := fun k => f15.eq q0 (i := 11) (by decide) (by decide) k
                have e15_14 : ∀ k, tg t15 (sr sh r0 14) k = tg t1 (sr sh r0 14) k := fun k => f15.eq q0 (i := 14) (by decide) (by decide) k
                try simp only [zt0, zt1, zt2, zt3, zt4, zt5, zt6, zt7, zt8, zt9, zt10, zt11, zt12, zt13, e0_2, e0_3, e0_4, e0_11, e0_14, e15_2, e15_3, e15_4, e15_11, e15_14] at p15
                try simp only [zput_s, zput_n, ti_g, oI_add, oI_sub, oI_mul]
                exact ih.2.1 _ _ _ _ _ _ _ (by first | rfl | assumption) (by first | rfl | assumption) (by first | rfl | assumption) _ ((FrV.trans (Ns := [9, 10]) (f0) f15 (by decide) (by decide))) (by first | omega | ((try simp only [zt0, zt1, zt2, zt3, zt4, zt5, zt6, zt7, zt8, zt9, zt10, zt11, zt12, zt13, e0_2, e0_3, e0_4, e0_11, e0_14, e15_2, e15_3, e15_4, e15_11, e15_14]); omega)) (fun k hk => by ((try have c0 := hq1 k hk); (try have c0 := hq1 k); (have c1 := p15.2 k (by omega)); (try simp only [zt0, zt1, zt2, zt3, zt4, zt5, zt6, zt7, zt8, zt9, zt10, zt11, zt12, zt13] at *) <;> omega)) (by first | omega | ((try simp only [zt0, zt1, zt2, zt3, zt4, zt5, zt6, zt7, zt8, zt9, zt10, zt11, zt12, zt13, e0_2, e0_3, e0_4, e0_11, e0_14, e15_2, e15_3, e15_4, e15_11, e15_14]); omega))
        · first | refine zok_le (by omega) (fun c16 => ?_) (fun c16 => ?_) | refine zok_if (fun c16 => ?_) (fun c16 => ?_)
          · try simp only [zput_s, zput_n, ti_g, oI_add, oI_sub, oI_mul]
            rw [b184_92 (o4 := o4) (wo4 := wo4) (o5 := o5) (wo5 := wo5) (o6 := o6) (wo6 := wo6) (o7 := o7) (wo7 := wo7)]
            try simp only [zput_s, zput_n, ti_g, oI_add, oI_sub, oI_mul]
            try simp only [zput_s, zput_n, ti_g, oI_add, oI_sub, oI_mul]
            rw [b184_93 (o4 := o4) (wo4 := wo4) (o5 := o5) (wo5 := wo5) (o6 := o6) (wo6 := wo6) (o7 := o7) (wo7 := wo7)]
            try simp only [zput_s, zput_n, ti_g, oI_add, oI_sub, oI_mul]
            try simp only [zput_s, zput_n, ti_g, oI_add, oI_sub, oI_mul]
            rw [b184_122 (o5 := o5) (wo5 := wo5) (o6 := o6) (wo6 := wo6) (o7 := o7) (wo7 := wo7)]
            try simp only [zput_s, zput_n, ti_g, oI_add, oI_sub, oI_mul]
            first | refine zok_le (by omega) (fun c20 => ?_) (fun c20 => ?_) | refine zok_if (fun c20 => ?_) (fun c20 => ?_)
            · try simp only [zput_s, zput_n, ti_g, oI_add, oI_sub, oI_mul]
              exact ih.2.1 _ _ _ _ _ _ _ (by first | rfl | assumption) (by first | rfl | assumption) (by first | rfl | assumption) _ (f0) (by first | omega | ((try simp only [zt0, zt1, zt2, zt3, zt4, zt5, zt6, zt7, zt8, zt9, zt10, zt11, zt12, zt13, e0_2, e0_3, e0_4, e0_11, e0_14]); omega)) (fun k hk => by ((try have c0 := hq1 k hk); (try have c0 := hq1 k); (try simp only [zt0, zt1, zt2, zt3, zt4, zt5, zt6, zt7, zt8, zt9, zt10, zt11, zt12, zt13] at *) <;> omega)) (by first | omega | ((try simp only [zt0, zt1, zt2, zt3, zt4, zt5, zt6, zt7, zt8, zt9, zt10, zt11, zt12, zt13, e0_2, e0_3, e0_4, e0_11, e0_14]); omega))
            · first | refine zok_le (by omega) (fun c21 => ?_) (fun c21 => ?_) | refine zok_if (fun c21 => ?_) (fun c21 => ?_)
              · try simp only [zput_s, zput_n, ti_g, oI_add, oI_sub, oI_mul]
                rw [b184_142 (o5 := o5) (wo5 := wo5) (o6 := o6) (wo6 := wo6) (o7 := o7) (wo7 := wo7)]
                try simp only [zput_s, zput_n, ti_g, oI_add, oI_sub, oI_mul]
                refine zok_ck ((q0).1) ?_
                refine zok_c0 (s152 (q0) (by omega) (by omega) (by first | (omega) | ((try simp only [zt0, zt1, zt2, zt3, zt4, zt5, zt6, zt7, zt8, zt9, zt10, zt11, zt12, zt13, e0_2, e0_3, e0_4, e0_11, e0_14]); omega)) (by first | (omega) | ((try simp only [zt0, zt1, zt2, zt3, zt4, zt5, zt6, zt7, zt8, zt9, zt10, zt11, zt12, zt13, e0_2, e0_3, e0_4, e0_11, e0_14]); omega)) (f0.g)) (fun t23 p23 => ?_)
                obtain ⟨f23, p23⟩ := p23
                have e23_2 : ∀ k, tg t23 (sr sh r0 2) k = tg t1 (sr sh r0 2) k := fun k => f23.eq q0 (i := 2) (by decide) (by decide) k
                have e23_3 : ∀ k, tg t23 (sr sh r0 3) k = tg t1 (sr sh r0 3) k := fun k => f23.eq q0 (i := 3) (by decide) (by decide) k
                have e23_4 : ∀ k, tg t23 (sr sh r0 4) k = tg t1 (sr sh r0 4) k := fun k => f23.eq q0 (i := 4) (by decide) (by decide) k
                have e23_11 : ∀ k, tg t23 (sr sh r0 11) k = tg t1 (sr sh r0 11) k := fun k => f23.eq q0 (i := 11) (by decide) (by decide) k
                have e23_14 : ∀ k, tg t23 (sr sh r0 14) k = tg t1 (sr sh r0 14) k := fun k => f23.eq q0 (i := 14) (by decide) (by decide) k
                try simp only [zt0, zt1, zt2, zt3, zt4, zt5, zt6, zt7, zt8, zt9, zt10, zt11, zt12, zt13, e0_2, e0_3, e0_4, e0_11, e0_14, e23_2, e23_3, e23_4, e23_11, e23_14] at p23
                try simp only [zput_s, zput_n, ti_g, oI_add, oI_sub, oI_mul]
                exact ih.2.1 _ _ _ _ _ _ _ (by first | rfl | assumption) (by first | rfl | assumption) (by first | rfl | assumption) _ ((FrV.trans (Ns := [9, 10]) (f0) f23 (by decide) (by decide))) (by first | omega | ((try simp only [zt0, zt1, zt2, zt3, zt4, zt5, zt6, zt7, zt8, zt9, zt10, zt11, zt12, zt13, e0_2, e0_3, e0_4, e0_11, e0_14, e23_2, e23_3, e23_4, e23_11, e23_14]); omega)) (fun k hk => by ((try have c0 := hq1 k hk); (try have c0 := hq1 k); (have c1 := p23.2 k (by omega)); (try simp only [zt0, zt1, zt2, zt3, zt4, zt5, zt6, zt7, zt8, zt9, zt10, zt11, zt12, zt13] at *) <;> omega)) (by first | omega | ((try simp only [zt0, zt1, zt2, zt3, zt4, zt5, zt6, zt7, zt8, zt9, zt10, zt11, zt12, zt13, e0_2, e0_3, e0_4, e0_11, e0_14, e23_2, e23_3, e23_4, e23_11, e23_14]); omega))
              · first | refine zok_eq (by omega) (fun c24 => ?_) (fun c24 => ?_) | refine zok_if (fun c24 => ?_) (fun c24 => ?_)
                · try simp only [zput_s, zput_n, ti_g, oI_add, oI_sub, oI_mul]
                  exact ih.2.1 _ _ _ _ _ _ _ (by first | rfl | assumption) (by first | rfl | assumption) (by first | rfl | assumption) _ (f0) (by first | omega | ((try simp only [zt0, zt1, zt2, zt3, zt4, zt5, zt6, zt7, zt8, zt9, zt10, zt11, zt12, zt13, e0_2, e0_3, e0_4, e0_11, e0_14]); omega)) (fun k hk => by ((try have c0 := hq1 k hk); (try have c0 := hq1 k); (try simp only [zt0, zt1, zt2, zt3, zt4, zt5, zt6, zt7, zt8, zt9, zt10, zt11, zt12, zt13] at *) <;> omega)) (by first | omega | ((try simp only [zt0, zt1, zt2, zt3, zt4, zt5, zt6, zt7, zt8, zt9, zt10, zt11, zt12, zt13, e0_2, e0_3, e0_4, e0_11, e0_14]); omega))
                · try simp only [zput_s, zput_n, ti_g, oI_add, oI_sub, oI_mul]
                  rw [b184_142 (o5 := o5) (wo5 := wo5) (o6 := o6) (wo6 := wo6) (o7 := o7) (wo7 := wo7)]
                  try simp only [zput_s, zput_n, ti_g, oI_add, oI_sub, oI_mul]
                  refine zok_ck ((q0).1) ?_
                  refine zok_c0 (s152 (q0) (by omega) (by omega) (by first | (omega) | ((try simp only [zt0, zt1, zt2, zt3, zt4, zt5, zt6, zt7, zt8, zt9, zt10, zt11, zt12, zt13, e0_2, e0_3, e0_4, e0_11, e0_14]); omega)) (by first | (omega) | ((try simp only [zt0, zt1, zt2, zt3, zt4, zt5, zt6, zt7, zt8, zt9, zt10, zt11, zt12, zt13, e0_2, e0_3, e0_4, e0_11, e0_14]); omega)) (f0.g)) (fun t26 p26 => ?_)
                  obtain ⟨f26, p26⟩ := p26
                  have e26_2 : ∀ k, tg t26 (sr sh r0 2) k = tg t1 (sr sh r0 2) k := fun k => f26.eq q0 (i := 2) (by decide) (by decide) k
                  have e26_3 : ∀ k, tg t26 (sr sh r0 3) k = tg t1 (sr sh r0 3) k := fun k => f26.eq q0 (i := 3) (by decide) (by decide) k
                  have e26_4 : ∀ k, tg t26 (sr sh r0 4) k = tg t1 (sr sh r0 4) k := fun k => f26.eq q0 (i := 4) (by decide) (by decide) k
                  have e26_11 : ∀ k, tg t26 (sr sh r0 11) k = tg t1 (sr sh r0 11) k := fun k => f26.eq q0 (i := 11) (by decide) (by decide) k
                  have e26_14 : ∀ k, tg t26 (sr sh r0 14) k = tg t1 (sr sh r0 14) k := fun k => f26.eq q0 (i := 14) (by decide) (by decide) k
                  try simp only [zt0, zt1, zt2, zt3, zt4, zt5, zt6, zt7, zt8, zt9, zt10, zt11, zt12, zt13, e0_2, e0_3, e0_4, e0_11, e0_14, e26_2, e26_3, e26_4, e26_11, e26_14] at p26
                  try simp only [zput_s, zput_n, ti_g, oI_add, oI_sub, oI_mul]
                  exact ih.2.1 _ _ _ _ _ _ _ (by first | rfl | assumption) (by first | rfl | assumption) (by first | rfl | assumption) _ ((FrV.trans (Ns := [9, 10]) (f0) f26 (by decide) (by decide))) (by first | omega | ((try simp only [zt0, zt1, zt2, zt3, zt4, zt5, zt6, zt7, zt8, zt9, zt10, zt11, zt12, zt13, e0_2, e0_3, e0_4, e0_11, e0_14, e26_2, e26_3, e26_4, e26_11, e26_14]); omega)) (fun k hk => by ((try have c0 := hq1 k hk); (try have c0 := hq1 k); (have c1 := p26.2 k (by omega)); (try simp only [zt0, zt1, zt2, zt3, zt4, zt5, zt6, zt7, zt8, zt9, zt10, zt11, zt12, zt13] at *) <;> omega)) (by first | omega | ((try simp only [zt0, zt1, zt2, zt3, zt4, zt5, zt6, zt7, zt8, zt9, zt10, zt11, zt12, zt13, e0_2, e0_3, e0_4, e0_11, e0_14, e26_2, e26_3, e26_4, e26_11, e26_14]); omega))
          · try simp only [zput_s, zput_n, ti_g, oI_add, oI_sub, oI_mul]
            rw [b184_93 (o4 := o4) (wo4 := wo4) (o5 := o5) (wo5 := wo5) (o6 := o6) (wo6 := wo6) (o7 := o7) (wo7 := wo7)]
            try simp only [zput_s, zput_n, ti_g, oI_add, oI_sub, oI_mul]
            first | refine zok_eq (by omega) (fun c28 => ?_) (fun c28 => ?_) | refine zok_if (fun c28 => ?_) (fun c28 => ?_)
            · try simp only [zput_s, zput_n, ti_g, oI_add, oI_sub, oI_mul]
              rw [b184_122 (o5 := o5) (wo5 := wo5) (o6 := o6) (wo6 := wo6) (o7 := o7) (wo7 := wo7)]
              try simp only [zput_s, zput_n, ti_g, oI_add, oI_sub, oI_mul]
              first | refine zok_ne (by omega) (fun c30 => ?_) (fun c30 => ?_) | refine zok_if (fun c30 => ?_) (fun c30 => ?_)
              · try simp only [zput_s, zput_n, ti_g, oI_add, oI_sub, oI_mul]
                exact ih.2.2.2 _ _ _ _ _ _ _ (by first | rfl | assumption) (by first | rfl | assumption) (by first | rfl | assumption) _ (f0) (by first | omega | ((try simp only [zt0, zt1, zt2, zt3, zt4, zt5, zt6, zt7, zt8, zt9, zt10, zt11, zt12, zt13, e0_2, e0_3, e0_4, e0_11, e0_14]); omega)) (fun k hk => by ((try have c0 := hq1 k hk); (try have c0 := hq1 k); (try simp only [zt0, zt1, zt2, zt3, zt4, zt5, zt6, zt7, zt8, zt9, zt10, zt11, zt12, zt13] at *) <;> omega)) (by first | omega | ((try simp only [zt0, zt1, zt2, zt3, zt4, zt5, zt6, zt7, zt8, zt9, zt10, zt11, zt12, zt13, e0_2, e0_3, e0_4, e0_11, e0_14]); omega))
              · first | refine zok_le (by omega) (fun c31 => ?_) (fun c31 => ?_) | refine zok_if (fun c31 => ?_) (fun c31 => ?_)
                · try simp only [zput_s, zput_n, ti_g, oI_add, oI_sub, oI_mul]
                  exact ih.2.1 _ _ _ _ _ _ _ (by first | rfl | assumption) (by first | rfl | assumption) (by first | rfl | assumption) _ (f0) (by first | omega | ((try simp only [zt0, zt1, zt2, zt3, zt4, zt5, zt6, zt7, zt8, zt9, zt10, zt11, zt12, zt13, e0_2, e0_3, e0_4, e0_11, e0_14]); omega)) (fun k hk => by ((try have c0 := hq1 k hk); (try have c0 := hq1 k); (try simp only [zt0, zt1, zt2, zt3, zt4, zt5, zt6, zt7, zt8, zt9, zt10, zt11, zt12, zt13] at *) <;> omega)) (by first | omega | ((try simp only [zt0, zt1, zt2, zt3, zt4, zt5, zt6, zt7, zt8, zt9, zt10, zt11, zt12, zt13, e0_2, e0_3, e0_4, e0_11, e0_14]); omega))
                · first | refine zok_le (by omega) (fun c32 => ?_) (fun c32 => ?_) | refine zok_if (fun c32 => ?_) (fun c32 => ?_)
                  · try simp only [zput_s, zput_n, ti_g, oI_add, oI_sub, oI_mul]
                    rw [b184_142 (o5 := o5) (wo5 := wo5) (o6 := o6) (wo6 := wo6) (o7 := o7) (wo7 := wo7)]
                    try simp only [zput_s, zput_n, ti_g, oI_add, oI_sub, oI_mul]
                    refine zok_ck ((q0).1) ?_
                    refine zok_c0 (s152 (q0) (by omega) (by omega) (by first | (omega) | ((try simp only [zt0, zt1, zt2, zt3, zt4, zt5, zt6, zt7, zt8, zt9, zt10, zt11, zt12, zt13, e0_2, e0_3, e0_4, e0_11, e0_14]); omega)) (by first | (omega) | ((try simp only [zt0, zt1, zt2, zt3, zt4, zt5, zt6, zt7, zt8, zt9, zt10, zt11, zt12, zt13, e0_2, e0_3, e0_4, e0_11, e0_14]); omega)) (f0.g)) (fun t34 p34 => ?_)
                    obtain ⟨f34, p34⟩ := p34
                    have e34_2 : ∀ k, tg t34 (sr sh r0 2) k = tg t1 (sr sh r0 2) k := fun k => f34.eq q0 (i := 2) (by decide) (by decide) k
                    have e34_3 : ∀ k, tg t34 (sr sh r0 3) k = tg t1 (sr sh r0 3) k := fun k => f34.eq q0 (i := 3) (by decide) (by decide) k
                    have e34_4 : ∀ k, tg t34 (sr sh r0 4) k = tg t1 (sr sh r0 4) k := fun k => f34.eq q0 (i := 4) (by decide) (by decide) k
                    have e34_11 : ∀ k, tg t34 (sr sh r0 11) k = tg t1 (sr sh r0 11) k := fun k => f34.eq q0 (i := 11) (by decide) (by decide) k
                    have e34_14 : ∀ k, tg t34 (sr sh r0 14) k = tg t1 (sr sh r0 14) k := fun k => f34.eq q0 (i := 14) (by decide) (by decide) k
                    try simp only [zt0, zt1, zt2, zt3, zt4, zt5, zt6, zt7, zt8, zt9, zt10, zt11, zt12, zt13, e0_2, e0_3, e0_4, e0_11, e0_14, e34_2, e34_3, e34_4, e34_11, e34_14] at p34
                    try simp only [zput_s, zput_n, ti_g, oI_add, oI_sub, oI_mul]
                    exact ih.2.1 _ _ _ _ _ _ _ (by first | rfl | assumption) (by first | rfl | assumption) (by first | rfl | assumption) _ ((FrV.trans (Ns := [9, 10]) (f0) f34 (by decide) (by decide))) (by first | omega | ((try simp only [zt0, zt1, zt2, zt3, zt4, zt5, zt6, zt7, zt8, zt9, zt10, zt11, zt12, zt13, e0_2, e0_3, e0_4, e0_11, e0_14, e34_2, e34_3, e34_4, e34_11, e34_14]); omega)) (fun k hk => by ((try have c0 := hq1 k hk); (try have c0 := hq1 k); (have c1 := p34.2 k (by omega)); (try simp only [zt0, zt1, zt2, zt3, zt4, zt5, zt6, zt7, zt8, zt9, zt10, zt11, zt12, zt13] at *) <;> omega)) (by first | omega | ((try simp only [zt0, zt1, zt2, zt3, zt4, zt5, zt6, zt7, zt8, zt9, zt10, zt11, zt12, zt13, e0_2, e0_3, e0_4, e0_11, e0_14, e34_2, e34_3, e34_4, e34_11, e34_14]); omega))
                  · first | refine zok_eq (by omega) (fun c35 => ?_) (fun c35 => ?_) | refine zok_if (fun c35 => ?_) (fun c35 => ?_)
                    · try simp only [zput_s, zput_n, ti_g, oI_add, oI_sub, oI_mul]
                      exact ih.2.1 _ _ _ _ _ _ _ (by first | rfl | assumption) (by first | rfl | assumption) (by first | rfl | assumption) _ (f0) (by first | omega | ((try simp only [zt0, zt1, zt2, zt3, zt4, zt5, zt6, zt7, zt8, zt9, zt10, zt11, zt12, zt13, e0_2, e0_3, e0_4, e0_11, e0_14]); omega)) (fun k hk => by ((try have c0 := hq1 k hk); (try have c0 := hq1 k); (try simp only [zt0, zt1, zt2, zt3, zt4, zt5, zt6, zt7, zt8, zt9, zt10, zt11, zt12, zt13] at *) <;> omega)) (by first | omega | ((try simp only [zt0, zt1, zt2, zt3, zt4, zt5, zt6, zt7, zt8, zt9, zt10, zt11, zt12, zt13, e0_2, e0_3, e0_4, e0_11, e0_14]); omega))
                    · try simp only [zput_s, zput_n, ti_g, oI_add, oI_sub, oI_mul]
                      rw [b184_142 (o5 := o5) (wo5 := wo5) (o6 := o6) (wo6 := wo6) (o7 := o7) (wo7 := wo7)]
                      try simp only [zput_s, zput_n, ti_g, oI_add, oI_sub, oI_mul]
                      refine zok_ck ((q0).1) ?_
                      refine zok_c0 (s152 (q0) (by omega) (by omega) (by first | (omega) | ((try simp only [zt0, zt1, zt2, zt3, zt4, zt5, zt6, zt7, zt8, zt9, zt10, zt11, zt12, zt13, e0_2, e0_3, e0_4, e0_11, e0_14]); omega)) (by first | (omega) | ((try simp only [zt0, zt1, zt2, zt3, zt4, zt5, zt6, zt7, zt8, zt9, zt10, zt11, zt12, zt13, e0_2, e0_3, e0_4, e0_11, e0_14]); omega)) (f0.g)) (fun t37 p37 => ?_)
                      obtain ⟨f37, p37⟩ := p37
                      have e37_2 : ∀ k, tg t37 (sr sh r0 2) k = tg t1 (sr sh r0 2) k := fun k => f37.eq q0 (i := 2) (by decide) (by decide) k
                      have e37_3 : ∀ k, tg t37 (sr sh r0 3) k = tg t1 (sr sh r0 3) k := fun k => f37.eq q0 (i := 3) (by decide) (by decide) k
                      have e37_4 : ∀ k, tg t37 (sr sh r0 4) k = tg t1 (sr sh r0 4) k := fun k => f37.eq q0 (i := 4) (by decide) (by decide) k
                      have e37_11 : ∀ k, tg t37 (sr sh r0 11) k = tg t1 (sr sh r0 11) k := fun k => f37.eq q0 (i := 11) (by decide) (by decide) k
                      have e37_14 : ∀ k, tg t37 (sr sh r0 14) k = tg t1 (sr sh r0 14) k := fun k => f37.eq q0 (i := 14) (by decide) (by decide) k
                      try simp only [zt0, zt1, zt2, zt3, zt4, zt5, zt6, zt7, zt8, zt9, zt10, zt11, zt12, zt13, e0_2, e0_3, e0_4, e0_11, e0_14, e37_2, e37_3, e37_4, e37_11, e37_14] at p37
                      try simp only [zput_s, zput_n, ti_g, oI_add, oI_sub, oI_mul]
                      exact ih.2.1 _ _ _ _ _ _ _ (by first | rfl | assumption) (by first | rfl | assumption) (by first | rfl | assumption) _ ((FrV.trans (Ns := [9, 10]) (f0) f37 (by decide) (by decide))) (by first | omega | ((try simp only [zt0, zt1, zt2, zt3, zt4, zt5, zt6, zt7, zt8, zt9, zt10, zt11, zt12, zt13, e0_2, e0_3, e0_4, e0_11, e0_14, e37_2, e37_3, e37_4, e37_11, e37_14]); omega)) (fun k hk => by ((try have c0 := hq1 k hk); (try have c0 := hq1 k); (have c1 := p37.2 k (by omega)); (try simp only [zt0, zt1, zt2, zt3, zt4, zt5, zt6, zt7, zt8, zt9, zt10, zt11, zt12, zt13] at *) <;> omega)) (by first | omega | ((try simp only [zt0, zt1, zt2, zt3, zt4, zt5, zt6, zt7, zt8, zt9, zt10, zt11, zt12, zt13, e0_2, e0_3, e0_4, e0_11, e0_14, e37_2, e37_3, e37_4, e37_11, e37_14]); omega))
            · first | refine zok_ne (by omega) (fun c38 => ?_) (fun c38 => ?_) | refine zok_if (fun c38 => ?_) (fun c38 => ?_)
              · try simp only [zput_s, zput_n, ti_g, oI_add, oI_sub, oI_mul]
                rw [b184_122 (o5 := o5) (wo5 := wo5) (o6 := o6) (wo6 := wo6) (o7 := o7) (wo7 := wo7)]
                try simp only [zput_s, zput_n, ti_g, oI_add, oI_sub, oI_mul]
                first | refine zok_ne (by omega) (fun c40 => ?_) (fun c40 => ?_) | refine zok_if (fun c40 => ?_) (fun c40 => ?_)
                · try simp only [zput_s, zput_n, ti_g, oI_add, oI_sub, oI_mul]
                  exact ih.2.2.2 _ _ _ _ _ _ _ (by first | rfl | assumption) (by first | rfl | assumption) (by first | rfl | assumption) _ (f0) (by first | omega | ((try simp only [zt0, zt1, zt2, zt3, zt4, zt5, zt6, zt7, zt8, zt9, zt10, zt11, zt12, zt13, e0_2, e0_3, e0_4, e0_11, e0_14]); omega)) (fun k hk => by ((try have c0 := hq1 k hk); (try have c0 := hq1 k); (try simp only [zt0, zt1, zt2, zt3, zt4, zt5, zt6, zt7, zt8, zt9, zt10, zt11, zt12, zt13] at *) <;> omega)) (by first | omega | ((try simp only [zt0, zt1, zt2, zt3, zt4, zt5, zt6, zt7, zt8, zt9, zt10, zt11, zt12, zt13, e0_2, e0_3, e0_4, e0_11, e0_14]); omega))
                · first | refine zok_le (by omega) (fun c41 => ?_) (fun c41 => ?_) | refine zok_if (fun c41 => ?_) (fun c41 => ?_)
                  · try simp only [zput_s, zput_n, ti_g, oI_add, oI_sub, oI_mul]
                    exact ih.2.1 _ _ _ _ _ _ _ (by first | rfl | assumption) (by first | rfl | assumption) (by first | rfl | assumption) _ (f0) (by first | omega | ((try simp only [zt0, zt1, zt2, zt3, zt4, zt5, zt6, zt7, zt8, zt9, zt10, zt11, zt12, zt13, e0_2, e0_3, e0_4, e0_11, e0_14]); omega)) (fun k hk => by ((try have c0 := hq1 k hk); (try have c0 := hq1 k); (try simp only [zt0, zt1, zt2, zt3, zt4, zt5, zt6, zt7, zt8, zt9, zt10, zt11, zt12, zt13] at *) <;> omega)) (by first | omega | ((try simp only [zt0, zt1, zt2, zt3, zt4, zt5, zt6, zt7, zt8, zt9, zt10, zt11, zt12, zt13, e0_2, e0_3, e0_4, e0_11, e0_14]); omega))
                  · first | refine zok_le (by omega) (fun c42 => ?_) (fun c42 => ?_) | refine zok_if (fun c42 => ?_) (fun c42 => ?_)
                    · try simp only [zput_s, zput_n, ti_g, oI_add, oI_sub, oI_mul]
                      rw [b184_142 (o5 := o5) (wo5 := wo5) (o6 := o6) (wo6 := wo6) (o7 := o7) (wo7 := wo7)]
                      try simp only [zput_s, zput_n, ti_g, oI_add, oI_sub, oI_mul]
                      refine zok_ck ((q0).1) ?_
                      refine zok_c0 (s152 (q0) (by omega) (by omega) (by first | (omega) | ((try simp only [zt0, zt1, zt2, zt3, zt4, zt5, zt6, zt7, zt8, zt9, zt10, zt11, zt12, zt13, e0_2, e0_3, e0_4, e0_11, e0_14]); omega)) (by first | (omega) | ((try simp only [zt0, zt1, zt2, zt3, zt4, zt5, zt6, zt7, zt8, zt9, zt10, zt11, zt12, zt13, e0_2, e0_3, e0_4, e0_11, e0_14]); omega)) (f0.g)) (fun t44 p44 => ?_)
                      obtain ⟨f44, p44⟩ := p44
                      have e44_2 : ∀ k, tg t44 (sr sh r0 2) k = tg t1 (sr sh r0 2) k := fun k => f44.eq q0 (i := 2) (by decide) (by decide) k
                      have e44_3 : ∀ k, tg t44 (sr sh r0 3) k = tg t1 (sr sh r0 3) k := fun k => f44.eq q0 (i := 3) (by decide) (by decide) k
                      have e44_4 : ∀ k, tg t44 (sr sh r0 4) k = tg t1 (sr sh r0 4) k := fun k => f44.eq q0 (i := 4) (by decide) (by decide) k
                      have e44_11 : ∀ k, tg t44 (sr sh r0 11) k = tg t1 (sr sh r0 11) k := fun k => f44.eq q0 (i := 11) (by decide) (by decide) k
                      have e44_14 : ∀ k, tg t44 (sr sh r0 14) k = tg t1 (sr sh r0 14) k := fun k => f44.eq q0 (i := 14) (by decide) (by decide) k
                      try simp only [zt0, zt1, zt2, zt3, zt4, zt5, zt6, zt7, zt8, zt9, zt10, zt11, zt12, zt13, e0_2, e0_3, e0_4, e0_11, e0_14, e44_2, e44_3, e44_4, e44_11, e44_14] at p44
                      try simp only [zput_s, zput_n, ti_g, oI_add, oI_sub, oI_mul]
                      exact ih.2.1 _ _ _ _ _ _ _ (by first | rfl | assumption) (by first | rfl | assumption) (by first | rfl | assumption) _ ((FrV.trans (Ns := [9, 10]) (f0) f44 (by decide) (by decide))) (by first | omega | ((try simp only [zt0, zt1, zt2, zt3, zt4, zt5, zt6, zt7, zt8, zt9, zt10, zt11, zt12, zt13, e0_2, e0_3, e0_4, e0_11, e0_14, e44_2, e44_3, e44_4, e44_11, e44_14]); omega)) (fun k hk => by ((try have c0 := hq1 k hk); (try have c0 := hq1 k); (have c1 := p44.2 k (by omega)); (try simp only [zt0, zt1, zt2, zt3, zt4, zt5, zt6, zt7, zt8, zt9, zt10, zt11, zt12, zt13] at *) <;> omega)) (by first | omega | ((try simp only [zt0, zt1, zt2, zt3, zt4, zt5, zt6, zt7, zt8, zt9, zt10, zt11, zt12, zt13, e0_2, e0_3, e0_4, e0_11, e0_14, e44_2, e44_3, e44_4, e44_11, e44_14]); omega))
                    · first | refine zok_eq (by omega) (fun c45 => ?_) (fun c45 => ?_) | refine zok_if (fun c45 => ?_) (fun c45 => ?_)
                      · try simp only [zput_s, zput_n, ti_g, oI_add, oI_sub, oI_mul]
                        exact ih.2.1 _ _ _ _ _ _ _ (by first | rfl | assumption) (by first | rfl | assumption) (by first | rfl | assumption) _ (f0) (by first | omega | ((try simp only [zt0, zt1, zt2, zt3, zt4, zt5, zt6, zt7, zt8, zt9, zt10, zt11, zt12, zt13, e0_2, e0_3, e0_4, e0_11, e0_14]); omega)) (fun k hk => by ((try have c0 := hq1 k hk); (try have c0 := hq1 k); (try simp only [zt0, zt1, zt2, zt3, zt4, zt5, zt6, zt7, zt8, zt9, zt10, zt11, zt12, zt13] at *) <;> omega)) (by first | omega | ((try simp only [zt0, zt1, zt2, zt3, zt4, zt5, zt6, zt7, zt8, zt9, zt10, zt11, zt12, zt13, e0_2, e0_3, e0_4, e0_11, e0_14]); omega))
                      · try simp only [zput_s, zput_n, ti_g, oI_add, oI_sub, oI_mul]
                        rw [b184_142 (o5 := o5) (wo5 := wo5) (o6 := o6) (wo6 := wo6) (o7 := o7) (wo7 := wo7)]
                        try simp only [zput_s, zput_n, ti_g, oI_add, oI_sub, oI_mul]
                        refine zok_ck ((q0).1) ?_
                        refine zok_c0 (s152 (q0) (by omega) (by omega) (by first | (omega) | ((try simp only [zt0, zt1, zt2, zt3, zt4, zt5, zt6, zt7, zt8, zt9, zt10, zt11, zt12, zt13, e0_2, e0_3, e0_4, e0_11, e0_14]); omega)) (by first | (omega) | ((try simp only [zt0, zt1, zt2, zt3, zt4, zt5, zt6, zt7, zt8, zt9, zt10, zt11, zt12, zt13, e0_2, e0_3, e0_4, e0_11, e0_14]); omega)) (f0.g)) (fun t47 p47 => ?_)
                        obtain ⟨f47, p47⟩ := p47
                        have e47_2 : ∀ k, tg t47 (sr sh r0 2) k = tg t1 (sr sh r0 2) k := fun k => f47.eq q0 (i := 2) (by decide) (by decide) k
                        have e47_3 : ∀ k, tg t47 (sr sh r0 3) k = tg t1 (sr sh r0 3) k := fun k => f47.eq q0 (i := 3) (by decide) (by decide) k
                        have e47_4 : ∀ k, tg t47 (sr sh r0 4) k = tg t1 (sr sh r0 4) k := fun k => f47.eq q0 (i := 4) (by decide) (by decide) k
                        have e47_11 : ∀ k, tg t47 (sr sh r0 11) k = tg t1 (sr sh r0 11) k := fun k => f47.eq q0 (i := 11) (by decide) (by decide) k
                        have e47_14 : ∀ k, tg t47 (sr sh r0 14) k = tg t1 (sr sh r0 14) k := fun k => f47.eq q0 (i := 14) (by decide) (by decide) k
                        try simp only [zt0, zt1, zt2, zt3, zt4, zt5, zt6, zt7, zt8, zt9, zt10, zt11, zt12, zt13, e0_2, e0_3, e0_4, e0_11, e0_14, e47_2, e47_3, e47_4, e47_11, e47_14] at p47
                        try simp only [zput_s, zput_n, ti_g, oI_add, oI_sub, oI_mul]
                        exact ih.2.1 _ _ _ _ _ _ _ (by first | rfl | assumption) (by first | rfl | assumption) (by first | rfl | assumption) _ ((FrV.trans (Ns := [9, 10]) (f0) f47 (by decide) (by decide))) (by first | omega | ((try simp only [zt0, zt1, zt2, zt3, zt4, zt5, zt6, zt7, zt8, zt9, zt10, zt11, zt12, zt13, e0_2, e0_3, e0_4, e0_11, e0_14, e47_2, e47_3, e47_4, e47_11, e47_14]); omega)) (fun k hk => by ((try have c0 := hq1 k hk); (try have c0 := hq1 k); (have c1 := p47.2 k (by omega)); (try simp only [zt0, zt1, zt2, zt3, zt4, zt5, zt6, zt7, zt8, zt9, zt10, zt11, zt12, zt13] at *) <;> omega)) (by first | omega | ((try simp only [zt0, zt1, zt2, zt3, zt4, zt5, zt6, zt7, zt8, zt9, zt10, zt11, zt12, zt13, e0_2, e0_3, e0_4, e0_11, e0_14, e47_2, e47_3, e47_4, e47_11, e47_14]); omega))
              · refine zok_ck ((q0).1) ?_
                refine zok_c0 (s152 (q0) (by omega) (by omega) (by first | (omega) | ((try simp only [zt0, zt1, zt2, zt3, zt4, zt5, zt6, zt7, zt8, zt9, zt10, zt11, zt12, zt13, e0_2, e0_3, e0_4, e0_11, e0_14]); omega)) (by first | (omega) | ((try simp only [zt0, zt1, zt2, zt3, zt4, zt5, zt6, zt7, zt8, zt9, zt10, zt11, zt12, zt13, e0_2, e0_3, e0_4, e0_11, e0_14]); omega)) (f0.g)) (fun t48 p48 => ?_)
                obtain ⟨f48, p48⟩ := p48
                have e48_2 : ∀ k, tg t48 (sr sh r0 2) k = tg t1 (sr sh r0 2) k := fun k => f48.eq q0 (i := 2) (by decide) (by decide) k
                have e48_3 : ∀ k, tg t48 (sr sh r0 3) k = tg t1 (sr sh r0 3) k := fun k => f48.eq q0 (i := 3) (by decide) (by decide) k
                have e48_4 : ∀ k, tg t48 (sr sh r0 4) k = tg t1 (sr sh r0 4) k := fun k => f48.eq q0 (i := 4) (by decide) (by decide) k
                have e48_11 : ∀ k, tg t48 (sr sh r0 11) k = tg t1 (sr sh r0 11) k := fun k => f48.eq q0 (i := 11) (by decide) (by decide) k
                have e48_14 : ∀ k, tg t48 (sr sh r0 14) k = tg t1 (sr sh r0 14) k := fun k => f48.eq q0 (i := 14) (by decide) (by decide) k
                try simp only [zt0, zt1, zt2, zt3, zt4, zt5, zt6, zt7, zt8, zt9, zt10, zt11, zt12, zt13, e0_2, e0_3, e0_4, e0_11, e0_14, e48_2, e48_3, e48_4, e48_11, e48_14] at p48
                try simp only [zput_s, zput_n, ti_g, oI_add, oI_sub, oI_mul]
                rw [b184_112 (o5 := o5) (wo5 := wo5) (o6 := o6) (wo6 := wo6) (o7 := o7) (wo7 := wo7)]
                try simp only [zput_s, zput_n, ti_g, oI_add, oI_sub, oI_mul]
                refine zok_ck ((q0).1) ?_
                refine zok_c0 (s152 (q0) (by omega) (by omega) (by first | (omega) | ((try simp only [zt0, zt1, zt2, zt3, zt4, zt5, zt6, zt7, zt8, zt9, zt10, zt11, zt12, zt13, e0_2, e0_3, e0_4, e0_11, e0_14, e48_2, e48_3, e48_4, e48_11, e48_14]); omega)) (by first | (omega) | ((try simp only [zt0, zt1, zt2, zt3, zt4, zt5, zt6, zt7, zt8, zt9, zt10, zt11, zt12, zt13, e0_2, e0_3, e0_4, e0_11, e0_14, e48_2, e48_3, e48_4, e48_11, e48_14]); omega)) (f48.g)) (fun t50 p50 => ?_)
                obtain ⟨f50, p50⟩ := p50
                have e50_2 : ∀ k, tg t50 (sr sh r0 2) k = tg t48 (sr sh r0 2) k := fun k => f50.eq q0 (i := 2) (by decide) (by decide) k
                have e50_3 : ∀ k, tg t50 (sr sh r0 3) k = tg t48 (sr sh r0 3) k := fun k => f50.eq q0 (i := 3) (by decide) (by decide) k
                have e50_4 : ∀ k, tg t50 (sr sh r0 4) k = tg t48 (sr sh r0 4) k := fun k => f50.eq q0 (i := 4) (by decide) (by decide) k
                have e50_11 : ∀ k, tg t50 (sr sh r0 11) k = tg t48 (sr sh r0 11) k := fun k => f50.eq q0 (i := 11) (by decide) (by decide) k
                have e50_14 : ∀ k, tg t50 (sr sh r0 14) k = tg t48 (sr sh r0 14) k := fun k => f50.eq q0 (i := 14) (by decide) (by decide) k
                try simp only [zt0, zt1, zt2, zt3, zt4, zt5, zt6, zt7, zt8, zt9, zt10, zt11, zt12, zt13, e0_2, e0_3, e0_4, e0_11, e0_14, e48_2, e48_3, e48_4, e48_11, e48_14, e50_2, e50_3, e50_4, e50_11, e50_14] at p50
                try simp only [zput_s, zput_n, ti_g, oI_add, oI_sub, oI_mul]
                rw [b184_119 (o5 := o5) (wo5 := wo5) (o6 := o6) (wo6 := wo6) (o7 := o7) (wo7 := wo7)]
                try simp only [zput_s, zput_n, ti_g, oI_add, oI_sub, oI_mul]
                try simp only [zput_s, zput_n, ti_g, oI_add, oI_sub, oI_mul]
                exact ih.2.2.2 _ _ _ _ _ _ _ (by first | rfl | assumption) (by first | rfl | assumption) (by first | rfl | assumption) _ ((FrV.trans (Ns := [9, 10]) ((FrV.trans (Ns := [9, 10]) (f0) f48 (by decide) (by decide))) f50 (by decide) (by decide))) (by first | omega | ((try simp only [zt0, zt1, zt2, zt3, zt4, zt5, zt6, zt7, zt8, zt9, zt10, zt11, zt12, zt13, e0_2, e0_3, e0_4, e0_11, e0_14, e48_2, e48_3, e48_4, e48_11, e48_14, e50_2, e50_3, e50_4, e50_11, e50_14]); omega)) (fun k hk => by ((try have c0 := hq1 k hk); (try have c0 := hq1 k); (have c1 := p48.2 k (by omega)); (have c7 := p50.2 k (by omega)); (try simp only [zt0, zt1, zt2, zt3, zt4, zt5, zt6, zt7, zt8, zt9, zt10, zt11, zt12, zt13] at *) <;> omega)) (by first | omega | ((try simp only [zt0, zt1, zt2, zt3, zt4, zt5, zt6, zt7, zt8, zt9, zt10, zt11, zt12, zt13, e0_2, e0_3, e0_4, e0_11, e0_14, e48_2, e48_3, e48_4, e48_11, e48_14, e50_2, e50_3, e50_4, e50_11, e50_14]); omega))
    refine ⟨?_, ?_⟩
    · intro x1 x2 x3 x4 o5 o6 o7 wo5 wo6 wo7 t1 f0 hv hq1 hm
      have ha0_1 : (sk sh (sr sh r0 1)).2 = 21000 := by rw [q0.2.2.2.2.1]
      have ha0_2 : (sk sh (sr sh r0 2)).2 = 14 := by rw [q0.2.2.2.2.2.1]
      have ha0_3 : (sk sh (sr sh r0 3)).2 = 98 := by rw [q0.2.2.2.2.2.2.1]
      have ha0_4 : (sk sh (sr sh r0 4)).2 = 98 := by rw [q0.2.2.2.2.2.2.2.1]
      have ha0_8 : (sk sh (sr sh r0 8)).2 = 1500 := by rw [q0.2.2.2.2.2.2.2.2.1]
      have ha0_9 : (sk sh (sr sh r0 9)).2 = 10500 := by rw [q0.2.2.2.2.2.2.2.2.2.1]
      have ha0_10 : (sk sh (sr sh r0 10)).2 = 7 := by rw [q0.2.2.2.2.2.2.2.2.2.2.1]
      have ha0_11 : (sk sh (sr sh r0 11)).2 = 7 := by rw [q0.2.2.2.2.2.2.2.2.2.2.2.1]
      have ha0_12 : (sk sh (sr sh r0 12)).2 = 1500 := by rw [q0.2.2.2.2.2.2.2.2.2.2.2.2.1]
      have ha0_13 : (sk sh (sr sh r0 13)).2 = 1500 := by rw [q0.2.2.2.2.2.2.2.2.2.2.2.2.2.1]
      have ha0_14 : (sk sh (sr sh r0 14)).2 = 20 := by rw [q0.2.2.2.2.2.2.2.2.2.2.2.2.2.2]
      have e0_2 : ∀ k, tg t1 (sr sh r0 2) k = tg t0 (sr sh r0 2) k := fun k => f0.eq q0 (i := 2) (by decide) (by decide) k
      have e0_3 : ∀ k, tg t1 (sr sh r0 3) k = tg t0 (sr sh r0 3) k := fun k => f0.eq q0 (i := 3) (by decide) (by decide) k
      have e0_4 : ∀ k, tg t1 (sr sh r0 4) k = tg t0 (sr sh r0 4) k := fun k => f0.eq q0 (i := 4) (by decide) (by decide) k
      have e0_11 : ∀ k, tg t1 (sr sh r0 11) k = tg t0 (sr sh r0 11) k := fun k => f0.eq q0 (i := 11) (by decide) (by decide) k
      have e0_14 : ∀ k, tg t1 (sr sh r0 14) k = tg t0 (sr sh r0 14) k := fun k => f0.eq q0 (i := 14) (by decide) (by decide) k
      try simp only [zt0, zt1, zt2, zt3, zt4, zt5, zt6, zt7, zt8, zt9, zt10, zt11, zt12, zt13, e0_2, e0_3, e0_4, e0_11, e0_14] at hv
      try simp only [zt0, zt1, zt2, zt3, zt4, zt5, zt6, zt7, zt8, zt9, zt10, zt11, zt12, zt13, e0_2, e0_3, e0_4, e0_11, e0_14] at hm
      have hz1 := zdg_le 1
      try simp only [zt0, zt1, zt2, zt3, zt4, zt5, zt6, zt7, zt8, zt9, zt10, zt11, zt12, zt13, e0_2, e0_3, e0_4, e0_11, e0_14] at hz1
      have hz2 := zdg_le 16
      try simp only [zt0, zt1, zt2, zt3, zt4, zt5, zt6, zt7, zt8, zt9, zt10, zt11, zt12, zt13, e0_2, e0_3, e0_4, e0_11, e0_14] at hz2
      have hz3 := zdg_le 256
      try simp only [zt0, zt1, zt2, zt3, zt4, zt5, zt6, zt7, zt8, zt9, zt10, zt11, zt12, zt13, e0_2, e0_3, e0_4, e0_11, e0_14] at hz3
      have hz4 := zdg_le 4096
      try simp only [zt0, zt1, zt2, zt3, zt4, zt5, zt6, zt7, zt8, zt9, zt10, zt11, zt12, zt13, e0_2, e0_3, e0_4, e0_11, e0_14] at hz4
      try simp only [zput_s, zput_n, ti_g, oI_add, oI_sub, oI_mul]
      rw [b184_149 (o5 := o5) (wo5 := wo5) (o6 := o6) (wo6 := wo6) (o7 := o7) (wo7 := wo7)]
      try simp only [zput_s, zput_n, ti_g, oI_add, oI_sub, oI_mul]
      refine zok_ck ((q0).1) ?_
      refine zok_ck ⟨(by rw [(q0).2.2.2.2.2.2.2.2.2.2.2.2.2.2]), zin_o (by omega) (by omega) (by omega)⟩ ?_
      try rw [nN_o (a := x3) (by omega) (by omega)]
      try simp only [zput_s, zput_n, ti_g, oI_add, oI_sub, oI_mul, zt0, zt1, zt2, zt3, zt4, zt5, zt6, zt7, zt8, zt9, zt10, zt11, zt12, zt13, e0_2, e0_3, e0_4, e0_11, e0_14]
      have gl2 := And.intro (tg_lo t1 (sr sh r0 14) ((x3).toNat)) (tg_hi t1 (sr sh r0 14) ((x3).toNat))
      try simp only [zt0, zt1, zt2, zt3, zt4, zt5, zt6, zt7, zt8, zt9, zt10, zt11, zt12, zt13, e0_2, e0_3, e0_4, e0_11, e0_14] at gl2
      first | refine zok_le (by omega) (fun c3 => ?_) (fun c3 => ?_) | refine zok_if (fun c3 => ?_) (fun c3 => ?_)
      · first | refine zok_le (by omega) (fun c4 => ?_) (fun c4 => ?_) | refine zok_if (fun c4 => ?_) (fun c4 => ?_)
        · first | refine zok_le (by omega) (fun c5 => ?_) (fun c5 => ?_) | refine zok_if (fun c5 => ?_) (fun c5 => ?_)
          · try simp only [zput_s, zput_n, ti_g, oI_add, oI_sub, oI_mul]
            rw [b184_198 (o6 := o6) (wo6 := wo6) (o7 := o7) (wo7 := wo7)]
            try simp only [zput_s, zput_n, ti_g, oI_add, oI_sub, oI_mul]
            try simp only [zput_s, zput_n, ti_g, oI_add, oI_sub, oI_mul]
            exact ih.2.2.1 _ _ _ _ _ _ _ (by first | rfl | assumption) _ (f0) (by first | omega | ((try simp only [zt0, zt1, zt2, zt3, zt4, zt5, zt6, zt7, zt8, zt9, zt10, zt11, zt12, zt13, e0_2, e0_3, e0_4, e0_11, e0_14]); omega)) (fun k hk => by ((try have c0 := hq1 k hk); (try have c0 := hq1 k); (try simp only [zt0, zt1, zt2, zt3, zt4, zt5, zt6, zt7, zt8, zt9, zt10, zt11, zt12, zt13] at *) <;> omega)) (by first | omega | ((try simp only [zt0, zt1, zt2, zt3, zt4, zt5, zt6, zt7, zt8, zt9, zt10, zt11, zt12, zt13, e0_2, e0_3, e0_4, e0_11, e0_14]); omega))
          · try simp only [zput_s, zput_n, ti_g, oI_add, oI_sub, oI_mul]
            rw [b184_198 (o6 := o6) (wo6 := wo6) (o7 := o7) (wo7 := wo7)]
            try simp only [zput_s, zput_n, ti_g, oI_add, oI_sub, oI_mul]
            try simp only [zput_s, zput_n, ti_g, oI_add, oI_sub, oI_mul]
            exact ih.2.2.1 _ _ _ _ _ _ _ (by first | rfl | assumption) _ (f0) (by first | omega | ((try simp only [zt0, zt1, zt2, zt3, zt4, zt5, zt6, zt7, zt8, zt9, zt10, zt11, zt12, zt13, e0_2, e0_3, e0_4, e0_11, e0_14]); omega)) (fun k hk => by ((try have c0 := hq1 k hk); (try have c0 := hq1 k); (try simp only [zt0, zt1, zt2, zt3, zt4, zt5, zt6, zt7, zt8, zt9, zt10, zt11, zt12, zt13] at *) <;> omega)) (by first | omega | ((try simp only [zt0, zt1, zt2, zt3, zt4, zt5, zt6, zt7, zt8, zt9, zt10, zt11, zt12, zt13, e0_2, e0_3, e0_4, e0_11, e0_14]); omega))
        · try simp only [zput_s, zput_n, ti_g, oI_add, oI_sub, oI_mul]
          rw [b184_198 (o6 := o6) (wo6 := wo6) (o7 := o7) (wo7 := wo7)]
          try simp only [zput_s, zput_n, ti_g, oI_add, oI_sub, oI_mul]
          try simp only [zput_s, zput_n, ti_g, oI_add, oI_sub, oI_mul]
          exact ih.2.2.1 _ _ _ _ _ _ _ (by first | rfl | assumption) _ (f0) (by first | omega | ((try simp only [zt0, zt1, zt2, zt3, zt4, zt5, zt6, zt7, zt8, zt9, zt10, zt11, zt12, zt13, e0_2, e0_3, e0_4, e0_11, e0_14]); omega)) (fun k hk => by ((try have c0 := hq1 k hk); (try have c0 := hq1 k); (try simp only [zt0, zt1, zt2, zt3, zt4, zt5, zt6, zt7, zt8, zt9, zt10, zt11, zt12, zt13] at *) <;> omega)) (by first | omega | ((try simp only [zt0, zt1, zt2, zt3, zt4, zt5, zt6, zt7, zt8, zt9, zt10, zt11, zt12, zt13, e0_2, e0_3, e0_4, e0_11, e0_14]); omega))
      · try simp only [zput_s, zput_n, ti_g, oI_add, oI_sub, oI_mul]
        rw [b184_198 (o6 := o6) (wo6 := wo6) (o7 := o7) (wo7 := wo7)]
        try simp only [zput_s, zput_n, ti_g, oI_add, oI_sub, oI_mul]
        try simp only [zput_s, zput_n, ti_g, oI_add, oI_sub, oI_mul]
        exact ih.2.2.1 _ _ _ _ _ _ _ (by first | rfl | assumption) _ (f0) (by first | omega | ((try simp only [zt0, zt1, zt2, zt3, zt4, zt5, zt6, zt7, zt8, zt9, zt10, zt11, zt12, zt13, e0_2, e0_3, e0_4, e0_11, e0_14]); omega)) (fun k hk => by ((try have c0 := hq1 k hk); (try have c0 := hq1 k); (try simp only [zt0, zt1, zt2, zt3, zt4, zt5, zt6, zt7, zt8, zt9, zt10, zt11, zt12, zt13] at *) <;> omega)) (by first | omega | ((try simp only [zt0, zt1, zt2, zt3, zt4, zt5, zt6, zt7, zt8, zt9, zt10, zt11, zt12, zt13, e0_2, e0_3, e0_4, e0_11, e0_14]); omega))
    refine ⟨?_, ?_⟩
    · intro x1 x2 x3 x4 v5 x6 o7 wo7 t1 f0 hv hq1 hm
      obtain ⟨x5, a5, b5, rfl⟩ := oI_nf v5
      have ha0_1 : (sk sh (sr sh r0 1)).2 = 21000 := by rw [q0.2.2.2.2.1]
      have ha0_2 : (sk sh (sr sh r0 2)).2 = 14 := by rw [q0.2.2.2.2.2.1]
      have ha0_3 : (sk sh (sr sh r0 3)).2 = 98 := by rw [q0.2.2.2.2.2.2.1]
      have ha0_4 : (sk sh (sr sh r0 4)).2 = 98 := by rw [q0.2.2.2.2.2.2.2.1]
      have ha0_8 : (sk sh (sr sh r0 8)).2 = 1500 := by rw [q0.2.2.2.2.2.2.2.2.1]
      have ha0_9 : (sk sh (sr sh r0 9)).2 = 10500 := by rw [q0.2.2.2.2.2.2.2.2.2.1]
      have ha0_10 : (sk sh (sr sh r0 10)).2 = 7 := by rw [q0.2.2.2.2.2.2.2.2.2.2.1]
      have ha0_11 : (sk sh (sr sh r0 11)).2 = 7 := by rw [q0.2.2.2.2.2.2.2.2.2.2.2.1]
      have ha0_12 : (sk sh (sr sh r0 12)).2 = 1500 := by rw [q0.2.2.2.2.2.2.2.2.2.2.2.2.1]
      have ha0_13 : (sk sh (sr sh r0 13)).2 = 1500 := by rw [q0.2.2.2.2.2.2.2.2.2.2.2.2.2.1]
      have ha0_14 : (sk sh (sr sh r0 14)).2 = 20 := by rw [q0.2.2.2.2.2.2.2.2.2.2.2.2.2.2]
      have e0_2 : ∀ k, tg t1 (sr sh r0 2) k = tg t0 (sr sh r0 2) k := fun k => f0.eq q0 (i := 2) (by decide) (by decide) k
      have e0_3 : ∀ k, tg t1 (sr sh r0 3) k = tg t0 (sr sh r0 3) k := fun k => f0.eq q0 (i := 3) (by decide) (by decide) k
      have e0_4 : ∀ k, tg t1 (sr sh r0 4) k = tg t0 (sr sh r0 4) k := fun k => f0.eq q0 (i := 4) (by decide) (by decide) k
      have e0_11 : ∀ k, tg t1 (sr sh r0 11) k = tg t0 (sr sh r0 11) k := fun k => f0.eq q0 (i := 11) (by decide) (by decide) k
      have e0_14 : ∀ k, tg t1 (sr sh r0 14) k = tg t0 (sr sh r0 14) k := fun k => f0.eq q0 (i := 14) (by decide) (by decide) k
      try simp only [zt0, zt1, zt2, zt3, zt4, zt5, zt6, zt7, zt8, zt9, zt10, zt11, zt12, zt13, e0_2, e0_3, e0_4, e0_11, e0_14] at hv
      try simp only [zt0, zt1, zt2, zt3, zt4, zt5, zt6, zt7, zt8, zt9, zt10, zt11, zt12, zt13, e0_2, e0_3, e0_4, e0_11, e0_14] at hm
      have hN := zdg_nn x6
      try simp only [zt0, zt1, zt2, zt3, zt4, zt5, zt6, zt7, zt8, zt9, zt10, zt11, zt12, zt13, e0_2, e0_3, e0_4, e0_11, e0_14] at hN
      have hD : 0 < x6 → zdg (x6 / 16) + 1 ≤ zdg x6 := fun h => zdg_dv h (by omega)
      try simp only [zt0, zt1, zt2, zt3, zt4, zt5, zt6, zt7, zt8, zt9, zt10, zt11, zt12, zt13, e0_2, e0_3, e0_4, e0_11, e0_14] at hD
      try simp only [zput_s, zput_n, ti_g, oI_add, oI_sub, oI_mul]
      rw [b184_200 (o7 := o7) (wo7 := wo7)]
      try simp only [zput_s, zput_n, ti_g, oI_add, oI_sub, oI_mul]
      first | refine zok_le (by omega) (fun c2 => ?_) (fun c2 => ?_) | refine zok_if (fun c2 => ?_) (fun c2 => ?_)
      · try simp only [zput_s, zput_n, ti_g, oI_add, oI_sub, oI_mul]
        exact ih.2.2.2 _ _ _ _ _ _ _ (by first | rfl | assumption) (by first | rfl | assumption) (by first | rfl | assumption) _ (f0) (by first | omega | ((try simp only [zt0, zt1, zt2, zt3, zt4, zt5, zt6, zt7, zt8, zt9, zt10, zt11, zt12, zt13, e0_2, e0_3, e0_4, e0_11, e0_14]); omega)) (fun k hk => by ((try have c0 := hq1 k hk); (try have c0 := hq1 k); (try simp only [zt0, zt1, zt2, zt3, zt4, zt5, zt6, zt7, zt8, zt9, zt10, zt11, zt12, zt13] at *) <;> omega)) (by first | omega | ((try simp only [zt0, zt1, zt2, zt3, zt4, zt5, zt6, zt7, zt8, zt9, zt10, zt11, zt12, zt13, e0_2, e0_3, e0_4, e0_11, e0_14]); omega))
      · refine zok_ck (fun c => by have h := (oI_eq (a := x6) (b := 0) (by omega) (by omega) (by omega) (by omega)).mp c; omega) ?_
        refine zok_ck (fun c => by have h := (oI_eq (a := 16) (b := 0) (by omega) (by omega) (by omega) (by omega)).mp c; omega) ?_
        obtain ⟨w3, wa3, wb3, we3⟩ := oI_nf (((oI x5) / (oI x6)) - ((oI x5) / (oI x6)) / (oI 16) * (oI 16))
        try simp only [zput_s, zput_n, ti_g, oI_add, oI_sub, oI_mul] at we3
        try rw [we3]
        simp only [zput_s, zput_n, ti_g, oI_add, oI_sub, oI_mul, zt0, zt1, zt2, zt3, zt4, zt5, zt6, zt7, zt8, zt9, zt10, zt11, zt12, zt13, e0_2, e0_3, e0_4, e0_11, e0_14, b184_215]
        try simp only [zput_s, zput_n, ti_g, oI_add, oI_sub, oI_mul]
        first | refine zok_le (by omega) (fun c5 => ?_) (fun c5 => ?_) | refine zok_if (fun c5 => ?_) (fun c5 => ?_)
        · obtain ⟨w6, wa6, wb6, we6⟩ := oI_nf (oI ((87) + (w3)))
          rw [we6]
          simp only [zput_s, zput_n, ti_g, oI_add, oI_sub, oI_mul, zt0, zt1, zt2, zt3, zt4, zt5, zt6, zt7, zt8, zt9, zt10, zt11, zt12, zt13, e0_2, e0_3, e0_4, e0_11, e0_14, b184_237]
          try simp only [zput_s, zput_n, ti_g, oI_add, oI_sub, oI_mul]
          refine zok_ck ((q0).1) ?_
          refine zok_c0 (s152 (q0) (by omega) (by omega) (by first | (omega) | ((try simp only [zt0, zt1, zt2, zt3, zt4, zt5, zt6, zt7, zt8, zt9, zt10, zt11, zt12, zt13, e0_2, e0_3, e0_4, e0_11, e0_14]); omega)) (by first | (omega) | ((try simp only [zt0, zt1, zt2, zt3, zt4, zt5, zt6, zt7, zt8, zt9, zt10, zt11, zt12, zt13, e0_2, e0_3, e0_4, e0_11, e0_14]); omega)) (f0.g)) (fun t8 p8 => ?_)
          obtain ⟨f8, p8⟩ := p8
          have e8_2 : ∀ k, tg t8 (sr sh r0 2) k = tg t1 (sr sh r0 2) k := fun k => f8.eq q0 (i := 2) (by decide) (by decide) k
          have e8_3 : ∀ k, tg t8 (sr sh r0 3) k = tg t1 (sr sh r0 3) k := fun k => f8.eq q0 (i := 3) (by decide) (by decide) k
          have e8_4 : ∀ k, tg t8 (sr sh r0 4) k = tg t1 (sr sh r0 4) k := fun k => f8.eq q0 (i := 4) (by decide) (by decide) k
          have e8_11 : ∀ k, tg t8 (sr sh r0 11) k = tg t1 (sr sh r0 11) k := fun k => f8.eq q0 (i := 11) (by decide) (by decide) k
          have e8_14 : ∀ k, tg t8 (sr sh r0 14) k = tg t1 (sr sh r0 14) k := fun k => f8.eq q0 (i := 14) (by decide) (by decide) k
          try simp only [zt0, zt1, zt2, zt3, zt4, zt5, zt6, zt7, zt8, zt9, zt10, zt11, zt12, zt13, e0_2, e0_3, e0_4, e0_11, e0_14, e8_2, e8_3, e8_4, e8_11, e8_14] at p8
          simp only [zput_s, zput_n, ti_g, oI_add, oI_sub, oI_mul, zt0, zt1, zt2, zt3, zt4, zt5, zt6, zt7, zt8, zt9, zt10, zt11, zt12, zt13, e0_2, e0_3, e0_4, e0_11, e0_14, e8_2, e8_3, e8_4, e8_11, e8_14, b184_240]
          try simp only [zput_s, zput_n, ti_g, oI_add, oI_sub, oI_mul]
          refine zok_ck (fun c => by have h := (oI_eq (a := 16) (b := 0) (by omega) (by omega) (by omega) (by omega)).mp c; omega) ?_
          obtain ⟨wa10, we10⟩ := oI_dv (x6) (16) (by omega) (by omega)
          try rw [we10]
          try simp only [zput_s, zput_n, ti_g, oI_add, oI_sub, oI_mul]
          exact ih.2.2.1 _ _ _ _ _ _ _ (by first | rfl | assumption) _ ((FrV.trans (Ns := [9, 10]) (f0) f8 (by decide) (by decide))) (by first | omega | ((try simp only [zt0, zt1, zt2, zt3, zt4, zt5, zt6, zt7, zt8, zt9, zt10, zt11, zt12, zt13, e0_2, e0_3, e0_4, e0_11, e0_14, e8_2, e8_3, e8_4, e8_11, e8_14]); omega)) (fun k hk => by ((try have c0 := hq1 k hk); (try have c0 := hq1 k); (have c1 := p8.2 k (by omega)); (try simp only [zt0, zt1, zt2, zt3, zt4, zt5, zt6, zt7, zt8, zt9, zt10, zt11, zt12, zt13] at *) <;> omega)) (by first | omega | ((try simp only [zt0, zt1, zt2, zt3, zt4, zt5, zt6, zt7, zt8, zt9, zt10, zt11, zt12, zt13, e0_2, e0_3, e0_4, e0_11, e0_14, e8_2, e8_3, e8_4, e8_11, e8_14]); omega))
        · obtain ⟨w11, wa11, wb11, we11⟩ := oI_nf (oI ((48) + (w3)))
          rw [we11]
          simp only [zput_s, zput_n, ti_g, oI_add, oI_sub, oI_mul, zt0, zt1, zt2, zt3, zt4, zt5, zt6, zt7, zt8, zt9, zt10, zt11, zt12, zt13, e0_2, e0_3, e0_4, e0_11, e0_14, b184_237]
          try simp only [zput_s, zput_n, ti_g, oI_add, oI_sub, oI_mul]
          refine zok_ck ((q0).1) ?_
          refine zok_c0 (s152 (q0) (by omega) (by omega) (by first | (omega) | ((try simp only [zt0, zt1, zt2, zt3, zt4, zt5, zt6, zt7, zt8, zt9, zt10, zt11, zt12, zt13, e0_2, e0_3, e0_4, e0_11, e0_14]); omega)) (by first | (omega) | ((try simp only [zt0, zt1, zt2, zt3, zt4, zt5, zt6, zt7, zt8, zt9, zt10, zt11, zt12, zt13, e0_2, e0_3, e0_4, e0_11, e0_14]); omega)) (f0.g)) (fun t13 p13 => ?_)
          obtain ⟨f13, p13⟩ := p13
          have e13_2 : ∀ k, tg t13 (sr sh r0 2) k = tg t1 (sr sh r0 2) k := fun k => f13.eq q0 (i := 2) (by decide) (by decide) k
          have e13_3 : ∀ k, tg t13 (sr sh r0 3) k = tg t1 (sr sh r0 3) k := fun k => f13.eq q0 (i := 3) (by decide) (by decide) k
          have e13_4 : ∀ k, tg t13 (sr sh r0 4) k = tg t1 (sr sh r0 4) k := fun k => f13.eq q0 (i := 4) (by decide) (by decide) k
          have e13_11 : ∀ k, tg t13 (sr sh r0 11) k = tg t1 (sr sh r0 11) k := fun k => f13.eq q0 (i := 11) (by decide) (by decide) k
          have e13_14 : ∀ k, tg t13 (sr sh r0 14) k = tg t1 (sr sh r0 14) k := fun k => f13.eq q0 (i := 14) (by decide) (by decide) k
          try simp only [zt0, zt1, zt2, zt3, zt4, zt5, zt6, zt7, zt8, zt9, zt10, zt11, zt12, zt13, e0_2, e0_3, e0_4, e0_11, e0_14, e13_2, e13_3, e13_4, e13_11, e13_14] at p13
          simp only [zput_s, zput_n, ti_g, oI_add, oI_sub, oI_mul, zt0, zt1, zt2, zt3, zt4, zt5, zt6, zt7, zt8, zt9, zt10, zt11, zt12, zt13, e0_2, e0_3, e0_4, e0_11, e0_14, e13_2, e13_3, e13_4, e13_11, e13_14, b184_240]
          try simp only [zput_s, zput_n, ti_g, oI_add, oI_sub, oI_mul]
          refine zok_ck (fun c => by have h := (oI_eq (a := 16) (b := 0) (by omega) (by omega) (by omega) (by omega)).mp c; omega) ?_
          obtain ⟨wa15, we15⟩ := oI_dv (x6) (16) (by omega) (by omega)
          try rw [we15]
          try simp only [zput_s, zput_n, ti_g, oI_add, oI_sub, oI_mul]
          exact ih.2.2.1 _ _ _ _ _ _ _ (by first | rfl | assumption) _ ((FrV.trans (Ns := [9, 10]) (f0) f13 (by decide) (by decide))) (by first | omega | ((try simp only [zt0, zt1, zt2, zt3, zt4, zt5, zt6, zt7, zt8, zt9, zt10, zt11, zt12, zt13, e0_2, e0_3, e0_4, e0_11, e0_14, e13_2, e13_3, e13_4, e13_11, e13_14]); omega)) (fun k hk => by ((try have c0 := hq1 k hk); (try have c0 := hq1 k); (have c1 := p13.2 k (by omega)); (try simp only [zt0, zt1, zt2, zt3, zt4, zt5, zt6, zt7, zt8, zt9, zt10, zt11, zt12, zt13] at *) <;> omega)) (by first | omega | ((try simp only [zt0, zt1, zt2, zt3, zt4, zt5, zt6, zt7, zt8, zt9, zt10, zt11, zt12, zt13, e0_2, e0_3, e0_4, e0_11, e0_14, e13_2, e13_3, e13_4, e13_11, e13_14]); omega))
    · intro x1 x2 x3 x4 o5 o6 o7 wo5 wo6 wo7 t1 f0 hv hq1 hm
      have ha0_1 : (sk sh (sr sh r0 1)).2 = 21000 := by rw [q0.2.2.2.2.1]
      have ha0_2 : (sk sh (sr sh r0 2)).2 = 14 := by rw [q0.2.2.2.2.2.1]
      have ha0_3 : (sk sh (sr sh r0 3)).2 = 98 := by rw [q0.2.2.2.2.2.2.1]
      have ha0_4 : (sk sh (sr sh r0 4)).2 = 98 := by rw [q0.2.2.2.2.2.2.2.1]
      have ha0_8 : (sk sh (sr sh r0 8)).2 = 1500 := by rw [q0.2.2.2.2.2.2.2.2.1]
      have ha0_9 : (sk sh (sr sh r0 9)).2 = 10500 := by rw [q0.2.2.2.2.2.2.2.2.2.1]
      have ha0_10 : (sk sh (sr sh r0 10)).2 = 7 := by rw [q0.2.2.2.2.2.2.2.2.2.2.1]
      have ha0_11 : (sk sh (sr sh r0 11)).2 = 7 := by rw [q0.2.2.2.2.2.2.2.2.2.2.2.1]
      have ha0_12 : (sk sh (sr sh r0 12)).2 = 1500 := by rw [q0.2.2.2.2.2.2.2.2.2.2.2.2.1]
      have ha0_13 : (sk sh (sr sh r0 13)).2 = 1500 := by rw [q0.2.2.2.2.2.2.2.2.2.2.2.2.2.1]
      have ha0_14 : (sk sh (sr sh r0 14)).2 = 20 := by rw [q0.2.2.2.2.2.2.2.2.2.2.2.2.2.2]
      have e0_2 : ∀ k, tg t1 (sr sh r0 2) k = tg t0 (sr sh r0 2) k := fun k => f0.eq q0 (i := 2) (by decide) (by decide) k
      have e0_3 : ∀ k, tg t1 (sr sh r0 3) k = tg t0 (sr sh r0 3) k := fun k => f0.eq q0 (i := 3) (by decide) (by decide) k
      have e0_4 : ∀ k, tg t1 (sr sh r0 4) k = tg t0 (sr sh r0 4) k := fun k => f0.eq q0 (i := 4) (by decide) (by decide) k
      have e0_11 : ∀ k, tg t1 (sr sh r0 11) k = tg t0 (sr sh r0 11) k := fun k => f0.eq q0 (i := 11) (by decide) (by decide) k
      have e0_14 : ∀ k, tg t1 (sr sh r0 14) k = tg t0 (sr sh r0 14) k := fun k => f0.eq q0 (i := 14) (by decide) (by decide) k
      try simp only [zt0, zt1, zt2, zt3, zt4, zt5, zt6, zt7, zt8, zt9, zt10, zt11, zt12, zt13, e0_2, e0_3, e0_4, e0_11, e0_14] at hv
      try simp only [zt0, zt1, zt2, zt3, zt4, zt5, zt6, zt7, zt8, zt9, zt10, zt11, zt12, zt13, e0_2, e0_3, e0_4, e0_11, e0_14] at hm
      try simp only [zput_s, zput_n, ti_g, oI_add, oI_sub, oI_mul]
      rw [b184_250 (o5 := o5) (wo5 := wo5) (o6 := o6) (wo6 := wo6) (o7 := o7) (wo7 := wo7)]
      try simp only [zput_s, zput_n, ti_g, oI_add, oI_sub, oI_mul]
      try simp only [zput_s, zput_n, ti_g, oI_add, oI_sub, oI_mul]
      exact ih.1 _ _ _ _ _ _ _ (by first | rfl | assumption) (by first | rfl | assumption) (by first | rfl | assumption) (by first | rfl | assumption) _ (f0) (by first | omega | ((try simp only [zt0, zt1, zt2, zt3, zt4, zt5, zt6, zt7, zt8, zt9, zt10, zt11, zt12, zt13, e0_2, e0_3, e0_4, e0_11, e0_14]); omega)) (fun k hk => by ((try have c0 := hq1 k hk); (try have c0 := hq1 k); (try simp only [zt0, zt1, zt2, zt3, zt4, zt5, zt6, zt7, zt8, zt9, zt10, zt11, zt12, zt13] at *) <;> omega)) (by first | omega | ((try simp only [zt0, zt1, zt2, zt3, zt4, zt5, zt6, zt7, zt8, zt9, zt10, zt11, zt12, zt13, e0_2, e0_3, e0_4, e0_11, e0_14]); omega))
theorem l184_70 {sh : zSh} {t0 : zSt} {MB : Nat} {r0 : Nat} (q0 : zMd sh MB r0) (G : GI sh r0 t0) : ∀ (n : Nat) (x1 : Int) (x2 : Int) (x3 : Int) (o4 : Option zV) (o5 : Option zV) (o6 : Option zV) (o7 : Option zV) (wo4 : zisL o4 = false) (wo5 : zisL o5 = false) (wo6 : zisL o6 = false) (wo7 : zisL o7 = false) (t1 : zSt), FrV sh r0 [9, 10] t0 t1 → (-2147483648 ≤ x1 ∧ x1 ≤ 2147483647) ∧ (-2147483648 ≤ x2 ∧ x2 ≤ 2147483647) ∧ (-2147483648 ≤ x3 ∧ x3 ≤ 2147483647) ∧ (0 ≤ x1 ∧ x1 ≤ 7 ∧ 0 ≤ x2 ∧ x1 + x2 ≤ 8 ∧ 0 ≤ x3 ∧ x3 ≤ 8) ∧ (tg t1 (sr sh r0 10) 2 ≤ 6 * x3 + 1) → (∀ k, k ≠ 2 → tg t1 (sr sh r0 10) k = tg t0 (sr sh r0 10) k) → (10000 * (8 - x3) + 9000).toNat < n → zok (zev zP 184 70 [some (zR r0), some (zI (oI x1)), some (zI (oI x2)), some (zI (oI x3)), o4, o5, o6, o7] [] (sh, t1)) (zq0 (fun t' => FrV sh r0 [9, 10] t0 t' ∧ (tg t' (sr sh r0 10) 2 ≤ 100 ∧ ∀ k, k ≠ 2 → tg t' (sr sh r0 10) k = tg t0 (sr sh r0 10) k)) sh) := fun n => (l184_J70  q0  G n).1
theorem l184_149 {sh : zSh} {t0 : zSt} {MB : Nat} {r0 : Nat} (q0 : zMd sh MB r0) (G : GI sh r0 t0) : ∀ (n : Nat) (x1 : Int) (x2 : Int) (x3 : Int) (x4 : Int) (o5 : Option zV) (o6 : Option zV) (o7 : Option zV) (wo5 : zisL o5 = false) (wo6 : zisL o6 = false) (wo7 : zisL o7 = false) (t1 : zSt), FrV sh r0 [9, 10] t0 t1 → (-2147483648 ≤ x1 ∧ x1 ≤ 2147483647) ∧ (-2147483648 ≤ x2 ∧ x2 ≤ 2147483647) ∧ (-2147483648 ≤ x3 ∧ x3 ≤ 2147483647) ∧ (-2147483648 ≤ x4 ∧ x4 ≤ 2147483647) ∧ (0 ≤ x1 ∧ x1 ≤ 7 ∧ 0 ≤ x2 ∧ x1 + x2 ≤ 8 ∧ 0 ≤ x3 ∧ x3 ≤ 7) ∧ (tg t1 (sr sh r0 10) 2 ≤ 6 * x3 + 2) → (∀ k, k ≠ 2 → tg t1 (sr sh r0 10) k = tg t0 (sr sh r0 10) k) → (10000 * (8 - x3) + 8000).toNat < n → zok (zev zP 184 149 [some (zR r0), some (zI (oI x1)), some (zI (oI x2)), some (zI (oI x3)), some (zI (oI x4)), o5, o6, o7] [] (sh, t1)) (zq0 (fun t' => FrV sh r0 [9, 10] t0 t' ∧ (tg t' (sr sh r0 10) 2 ≤ 100 ∧ ∀ k, k ≠ 2 → tg t' (sr sh r0 10) k = tg t0 (sr sh r0 10) k)) sh) := fun n => (l184_J70  q0  G n).2.1
theorem l184_200 {sh : zSh} {t0 : zSt} {MB : Nat} {r0 : Nat} (q0 : zMd sh MB r0) (G : GI sh r0 t0) : ∀ (n : Nat) (x1 : Int) (x2 : Int) (x3 : Int) (x4 : Int) (v5 : Int32) (x6 : Int) (o7 : Option zV) (wo7 : zisL o7 = false) (t1 : zSt), FrV sh r0 [9, 10] t0 t1 → (-2147483648 ≤ x1 ∧ x1 ≤ 2147483647) ∧ (-2147483648 ≤ x2 ∧ x2 ≤ 2147483647) ∧ (-2147483648 ≤ x3 ∧ x3 ≤ 2147483647) ∧ (-2147483648 ≤ x4 ∧ x4 ≤ 2147483647) ∧ (-2147483648 ≤ x6 ∧ x6 ≤ 2147483647) ∧ (0 ≤ x1 ∧ x1 ≤ 7 ∧ 0 ≤ x2 ∧ x1 + x2 ≤ 8 ∧ 0 ≤ x3 ∧ x3 ≤ 7) ∧ (0 ≤ x6 ∧ x6 ≤ 4096 ∧ tg t1 (sr sh r0 10) 2 + zdg x6 ≤ 6 * x3 + 6) → (∀ k, k ≠ 2 → tg t1 (sr sh r0 10) k = tg t0 (sr sh r0 10) k) → (10000 * (8 - x3) + 100 + x6).toNat < n → zok (zev zP 184 200 [some (zR r0), some (zI (oI x1)), some (zI (oI x2)), some (zI (oI x3)), some (zI (oI x4)), some (zI v5), some (zI (oI x6)), o7] [] (sh, t1)) (zq0 (fun t' => FrV sh r0 [9, 10] t0 t' ∧ (tg t' (sr sh r0 10) 2 ≤ 100 ∧ ∀ k, k ≠ 2 → tg t' (sr sh r0 10) k = tg t0 (sr sh r0 10) k)) sh) := fun n => (l184_J70  q0  G n).2.2.1
theorem l184_250 {sh : zSh} {t0 : zSt} {MB : Nat} {r0 : Nat} (q0 : zMd sh MB r0) (G : GI sh r0 t0) : ∀ (n : Nat) (x1 : Int) (x2 : Int) (x3 : Int) (x4 : Int) (o5 : Option zV) (o6 : Option zV) (o7 : Option zV) (wo5 : zisL o5 = false) (wo6 : zisL o6 = false) (wo7 : zisL o7 = false) (t1 : zSt), FrV sh r0 [9, 10] t0 t1 → (-2147483648 ≤ x1 ∧ x1 ≤ 2147483647) ∧ (-2147483648 ≤ x2 ∧ x2 ≤ 2147483647) ∧ (-2147483648 ≤ x3 ∧ x3 ≤ 2147483647) ∧ (-2147483648 ≤ x4 ∧ x4 ≤ 2147483647) ∧ (0 ≤ x1 ∧ x1 ≤ 7 ∧ 0 ≤ x2 ∧ x1 + x2 ≤ 8 ∧ 0 ≤ x3 ∧ x3 ≤ 7) ∧ (tg t1 (sr sh r0 10) 2 ≤ 6 * x3 + 6) → (∀ k, k ≠ 2 → tg t1 (sr sh r0 10) k = tg t0 (sr sh r0 10) k) → (10000 * (8 - x3) + 50).toNat < n → zok (zev zP 184 250 [some (zR r0), some (zI (oI x1)), some (zI (oI x2)), some (zI (oI x3)), some (zI (oI x4)), o5, o6, o7] [] (sh, t1)) (zq0 (fun t' => FrV sh r0 [9, 10] t0 t' ∧ (tg t' (sr sh r0 10) 2 ≤ 100 ∧ ∀ k, k ≠ 2 → tg t' (sr sh r0 10) k = tg t0 (sr sh r0 10) k)) sh) := fun n => (l184_J70  q0  G n).2.2.2
theorem l184_4 {sh : zSh} {t0 : zSt} {MB : Nat} {r0 : Nat} (q0 : zMd sh MB r0) (G : GI sh r0 t0) : ∀ (n : Nat) (x1 : Int) (x2 : Int)  (t1 : zSt), FrV sh r0 [9, 10] t0 t1 → (-2147483648 ≤ x1 ∧ x1 ≤ 2147483647) ∧ (-2147483648 ≤ x2 ∧ x2 ≤ 2147483647) ∧ (0 ≤ x1 ∧ x1 ≤ 7 ∧ 1 ≤ x2 ∧ x2 ≤ 8) → (∀ k, k ≠ 2 → tg t1 (sr sh r0 10) k = tg t0 (sr sh r0 10) k) → (8 - x2).toNat < n → zok (zev zP 184 4 [some (zR r0), some (zI (oI x1)), some (zI (oI x2)), none, none, none, none, none] [] (sh, t1)) (zq0 (fun t' => FrV sh r0 [9, 10] t0 t' ∧ (tg t' (sr sh r0 10) 2 ≤ 100 ∧ ∀ k, k ≠ 2 → tg t' (sr sh r0 10) k = tg t0 (sr sh r0 10) k)) sh) := by
  intro n
  induction n with
  | zero => intro x1 x2  t1 f0 _ _ hm; omega
  | succ n ih =>
    intro x1 x2  t1 f0 hv hq1 hm
    have ha0_1 : (sk sh (sr sh r0 1)).2 = 21000 := by rw [q0.2.2.2.2.1]
    have ha0_2 : (sk sh (sr sh r0 2)).2 = 14 := by rw [q0.2.2.2.2.2.1]
    have ha0_3 : (sk sh (sr sh r0 3)).2 = 98 := by rw [q0.2.2.2.2.2.2.1]
    have ha0_4 : (sk sh (sr sh r0 4)).2 = 98 := by rw [q0.2.2.2.2.2.2.2.1]
    have ha0_8 : (sk sh (sr sh r0 8)).2 = 1500 := by rw [q0.2.2.2.2.2.2.2.2.1]
    have ha0_9 : (sk sh (sr sh r0 9)).2 = 10500 := by rw [q0.2.2.2.2.2.2.2.2.2.1]
    have ha0_10 : (sk sh (sr sh r0 10)).2 = 7 := by rw [q0.2.2.2.2.2.2.2.2.2.2.1]
    have ha0_11 : (sk sh (sr sh r0 11)).2 = 7 := by rw [q0.2.2.2.2.2.2.2.2.2.2.2.1]
    have ha0_12 : (sk sh (sr sh r0 12)).2 = 1500 := by rw [q0.2.2.2.2.2.2.2.2.2.2.2.2.1]
    have ha0_13 : (sk sh (sr sh r0 13)).2 = 1500 := by rw [q0.2.2.2.2.2.2.2.2.2.2.2.2.2.1]
    have ha0_14 : (sk sh (sr sh r0 14)).2 = 20 := by rw [q0.2.2.2.2.2.2.2.2.2.2.2.2.2.2]
    have e0_2 : ∀ k, tg t1 (sr sh r0 2) k = tg t0 (sr sh r0 2) k := fun k => f0.eq q0 (i := 2) (by decide) (by decide) k
    have e0_3 : ∀ k, tg t1 (sr sh r0 3) k = tg t0 (sr sh r0 3) k := fun k => f0.eq q0 (i := 3) (by decide) (by decide) k
    have e0_4 : ∀ k, tg t1 (sr sh r0 4) k = tg t0 (sr sh r0 4) k := fun k => f0.eq q0 (i := 4) (by decide) (by decide) k
    have e0_11 : ∀ k, tg t1 (sr sh r0 11) k = tg t0 (sr sh r0 11) k := fun k => f0.eq q0 (i := 11) (by decide) (by decide) k
    have e0_14 : ∀ k, tg t1 (sr sh r0 14) k = tg t0 (sr sh r0 14) k := fun k => f0.eq q0 (i := 14) (by decide) (by decide) k
    try simp only [zt0, zt1, zt2, zt3, zt4, zt5, zt6, zt7, zt8, zt9, zt10, zt11, zt12, zt13, e0_2, e0_3, e0_4, e0_11, e0_14] at hv
    try simp only [zt0, zt1, zt2, zt3, zt4, zt5, zt6, zt7, zt8, zt9, zt10, zt11, zt12, zt13, e0_2, e0_3, e0_4, e0_11, e0_14] at hm
    rw [b184_4]
    try simp only [zput_s, zput_n, ti_g, oI_add, oI_sub, oI_mul]
    first | refine zok_le (by omega) (fun c2 => ?_) (fun c2 => ?_) | refine zok_if (fun c2 => ?_) (fun c2 => ?_)
    · refine zok_ck ((q0).1) ?_
      refine zok_pI (s183 (q0) (by omega) (by first | (omega) | ((try simp only [zt0, zt1, zt2, zt3, zt4, zt5, zt6, zt7, zt8, zt9, zt10, zt11, zt12, zt13, e0_2, e0_3, e0_4, e0_11, e0_14]); omega)) (f0.g)) (fun y3 u3 p3 => ?_)
      try simp only [zt0, zt1, zt2, zt3, zt4, zt5, zt6, zt7, zt8, zt9, zt10, zt11, zt12, zt13, e0_2, e0_3, e0_4, e0_11, e0_14] at p3
      simp only [zput_s, zput_n, ti_g, oI_add, oI_sub, oI_mul, zt0, zt1, zt2, zt3, zt4, zt5, zt6, zt7, zt8, zt9, zt10, zt11, zt12, zt13, e0_2, e0_3, e0_4, e0_11, e0_14, b184_40]
      try simp only [zput_s, zput_n, ti_g, oI_add, oI_sub, oI_mul]
      first | refine zok_le (by omega) (fun c5 => ?_) (fun c5 => ?_) | refine zok_if (fun c5 => ?_) (fun c5 => ?_)
      · simp only [zput_s, zput_n, ti_g, oI_add, oI_sub, oI_mul, zt0, zt1, zt2, zt3, zt4, zt5, zt6, zt7, zt8, zt9, zt10, zt11, zt12, zt13, e0_2, e0_3, e0_4, e0_11, e0_14, b184_53]
        try simp only [zput_s, zput_n, ti_g, oI_add, oI_sub, oI_mul]
        refine zok_ck ((q0).1) ?_
        refine zok_ck ⟨(by rw [(q0).2.2.2.2.2.2.2.2.2.2.1]), zin_o (by omega) (by omega) (by omega)⟩ ?_
        try rw [nN_o (a := 2) (by omega) (by omega)]
        try rw [show (2 : Int).toNat = 2 from rfl]
        try simp only [zput_s, zput_n, ti_g, oI_add, oI_sub, oI_mul, zt0, zt1, zt2, zt3, zt4, zt5, zt6, zt7, zt8, zt9, zt10, zt11, zt12, zt13, e0_2, e0_3, e0_4, e0_11, e0_14]
        obtain ⟨t7, ht7⟩ : ∃ t', t' = tI t1 (sr sh r0 10) (2) (oI (0)) := ⟨_, rfl⟩
        try simp only [zt0, zt1, zt2, zt3, zt4, zt5, zt6, zt7, zt8, zt9, zt10, zt11, zt12, zt13, e0_2, e0_3, e0_4, e0_11, e0_14] at ht7
        rw [← ht7]
        have f7 : FrV sh r0 [10] t1 t7 := by rw [ht7]; exact GI_ls q0 (f0.g) (by omega) (by omega)
        have w7 : ∀ k, tg t7 (sr sh r0 10) k = if k = 2 then 0 else tg t1 (sr sh r0 10) k := fun k => by rw [ht7]; refine (tg_at (by omega)).trans ?_; first | rfl | simp only [zt0, zt1, zt2, zt3, zt4, zt5, zt6, zt7, zt8, zt9, zt10, zt11, zt12, zt13, e0_2, e0_3, e0_4, e0_11, e0_14, true_and]
        have ws7 : tg t7 (sr sh r0 10) (2) = 0 := by rw [w7, if_pos rfl]
        try simp only [zt0, zt1, zt2, zt3, zt4, zt5, zt6, zt7, zt8, zt9, zt10, zt11, zt12, zt13, e0_2, e0_3, e0_4, e0_11, e0_14] at w7
        try simp only [zt0, zt1, zt2, zt3, zt4, zt5, zt6, zt7, zt8, zt9, zt10, zt11, zt12, zt13, e0_2, e0_3, e0_4, e0_11, e0_14] at ws7
        have e7_2 : ∀ k, tg t7 (sr sh r0 2) k = tg t1 (sr sh r0 2) k := fun k => f7.eq q0 (i := 2) (by decide) (by decide) k
        have e7_3 : ∀ k, tg t7 (sr sh r0 3) k = tg t1 (sr sh r0 3) k := fun k => f7.eq q0 (i := 3) (by decide) (by decide) k
        have e7_4 : ∀ k, tg t7 (sr sh r0 4) k = tg t1 (sr sh r0 4) k := fun k => f7.eq q0 (i := 4) (by decide) (by decide) k
        have e7_11 : ∀ k, tg t7 (sr sh r0 11) k = tg t1 (sr sh r0 11) k := fun k => f7.eq q0 (i := 11) (by decide) (by decide) k
        have e7_14 : ∀ k, tg t7 (sr sh r0 14) k = tg t1 (sr sh r0 14) k := fun k => f7.eq q0 (i := 14) (by decide) (by decide) k
        refine zok_ck ((q0).1) ?_
        refine zok_c0 (s152 (q0) (by omega) (by omega) (by first | (omega) | ((try simp only [zt0, zt1, zt2, zt3, zt4, zt5, zt6, zt7, zt8, zt9, zt10, zt11, zt12, zt13, e0_2, e0_3, e0_4, e0_11, e0_14, e7_2, e7_3, e7_4, e7_11, e7_14]); omega)) (by first | (omega) | ((try simp only [zt0, zt1, zt2, zt3, zt4, zt5, zt6, zt7, zt8, zt9, zt10, zt11, zt12, zt13, e0_2, e0_3, e0_4, e0_11, e0_14, e7_2, e7_3, e7_4, e7_11, e7_14]); omega)) (f7.g)) (fun t8 p8 => ?_)
        obtain ⟨f8, p8⟩ := p8
        have e8_2 : ∀ k, tg t8 (sr sh r0 2) k = tg t7 (sr sh r0 2) k := fun k => f8.eq q0 (i := 2) (by decide) (by decide) k
        have e8_3 : ∀ k, tg t8 (sr sh r0 3) k = tg t7 (sr sh r0 3) k := fun k => f8.eq q0 (i := 3) (by decide) (by decide) k
        have e8_4 : ∀ k, tg t8 (sr sh r0 4) k = tg t7 (sr sh r0 4) k := fun k => f8.eq q0 (i := 4) (by decide) (by decide) k
        have e8_11 : ∀ k, tg t8 (sr sh r0 11) k = tg t7 (sr sh r0 11) k := fun k => f8.eq q0 (i := 11) (by decide) (by decide) k
        have e8_14 : ∀ k, tg t8 (sr sh r0 14) k = tg t7 (sr sh r0 14) k := fun k => f8.eq q0 (i := 14) (by decide) (by decide) k
        try simp only [zt0, zt1, zt2, zt3, zt4, zt5, zt6, zt7, zt8, zt9, zt10, zt11, zt12, zt13, e0_2, e0_3, e0_4, e0_11, e0_14, e7_2, e7_3, e7_4, e7_11, e7_14, e8_2, e8_3, e8_4, e8_11, e8_14] at p8
        simp only [zput_s, zput_n, ti_g, oI_add, oI_sub, oI_mul, zt0, zt1, zt2, zt3, zt4, zt5, zt6, zt7, zt8, zt9, zt10, zt11, zt12, zt13, e0_2, e0_3, e0_4, e0_11, e0_14, e7_2, e7_3, e7_4, e7_11, e7_14, e8_2, e8_3, e8_4, e8_11, e8_14, b184_68]
        try simp only [zput_s, zput_n, ti_g, oI_add, oI_sub, oI_mul]
        try simp only [zput_s, zput_n, ti_g, oI_add, oI_sub, oI_mul]
        exact l184_70 q0 G _ _ _ _ _ _ _ _ (by first | rfl | assumption) (by first | rfl | assumption) (by first | rfl | assumption) (by first | rfl | assumption) _ ((FrV.trans (Ns := [9, 10]) ((FrV.trans (Ns := [9, 10]) (f0) f7 (by decide) (by decide))) f8 (by decide) (by decide))) (by first | omega | ((try simp only [zt0, zt1, zt2, zt3, zt4, zt5, zt6, zt7, zt8, zt9, zt10, zt11, zt12, zt13, e0_2, e0_3, e0_4, e0_11, e0_14, e7_2, e7_3, e7_4, e7_11, e7_14, e8_2, e8_3, e8_4, e8_11, e8_14]); omega)) (fun k hk => by ((try have c0 := hq1 k hk); (try have c0 := hq1 k); (have c1 := w7 k); (have c7 := p8.2 k (by omega)); (try simp only [zt0, zt1, zt2, zt3, zt4, zt5, zt6, zt7, zt8, zt9, zt10, zt11, zt12, zt13] at *) <;> omega)) (Nat.lt_succ_self _)
      · refine zok_ck ((q0).1) ?_
        refine zok_pI (s183 (q0) (by omega) (by first | (omega) | ((try simp only [zt0, zt1, zt2, zt3, zt4, zt5, zt6, zt7, zt8, zt9, zt10, zt11, zt12, zt13, e0_2, e0_3, e0_4, e0_11, e0_14]); omega)) (f0.g)) (fun y10 u10 p10 => ?_)
        try simp only [zt0, zt1, zt2, zt3, zt4, zt5, zt6, zt7, zt8, zt9, zt10, zt11, zt12, zt13, e0_2, e0_3, e0_4, e0_11, e0_14] at p10
        simp only [zput_s, zput_n, ti_g, oI_add, oI_sub, oI_mul, zt0, zt1, zt2, zt3, zt4, zt5, zt6, zt7, zt8, zt9, zt10, zt11, zt12, zt13, e0_2, e0_3, e0_4, e0_11, e0_14, b184_49]
        try simp only [zput_s, zput_n, ti_g, oI_add, oI_sub, oI_mul]
        simp only [zput_s, zput_n, ti_g, oI_add, oI_sub, oI_mul, zt0, zt1, zt2, zt3, zt4, zt5, zt6, zt7, zt8, zt9, zt10, zt11, zt12, zt13, e0_2, e0_3, e0_4, e0_11, e0_14, b184_53]
        try simp only [zput_s, zput_n, ti_g, oI_add, oI_sub, oI_mul]
        refine zok_ck ((q0).1) ?_
        refine zok_ck ⟨(by rw [(q0).2.2.2.2.2.2.2.2.2.2.1]), zin_o (by omega) (by omega) (by omega)⟩ ?_
        try rw [nN_o (a := 2) (by omega) (by omega)]
        try rw [show (2 : Int).toNat = 2 from rfl]
        try simp only [zput_s, zput_n, ti_g, oI_add, oI_sub, oI_mul, zt0, zt1, zt2, zt3, zt4, zt5, zt6, zt7, zt8, zt9, zt10, zt11, zt12, zt13, e0_2, e0_3, e0_4, e0_11, e0_14]
        obtain ⟨t13, ht13⟩ : ∃ t', t' = tI t1 (sr sh r0 10) (2) (oI (0)) := ⟨_, rfl⟩
        try simp only [zt0, zt1, zt2, zt3, zt4, zt5, zt6, zt7, zt8, zt9, zt10, zt11, zt12, zt13, e0_2, e0_3, e0_4, e0_11, e0_14] at ht13
        rw [← ht13]
        have f13 : FrV sh r0 [10] t1 t13 := by rw [ht13]; exact GI_ls q0 (f0.g) (by omega) (by omega)
        have w13 : ∀ k, tg t13 (sr sh r0 10) k = if k = 2 then 0 else tg t1 (sr sh r0 10) k := fun k => by rw [ht13]; refine (tg_at (by omega)).trans ?_; first | rfl | simp only [zt0, zt1, zt2, zt3, zt4, zt5, zt6, zt7, zt8, zt9, zt10, zt11, zt12, zt13, e0_2, e0_3, e0_4, e0_11, e0_14, true_and]
        have ws13 : tg t13 (sr sh r0 10) (2) = 0 := by rw [w13, if_pos rfl]
        try simp only [zt0, zt1, zt2, zt3, zt4, zt5, zt6, zt7, zt8, zt9, zt10, zt11, zt12, zt13, e0_2, e0_3, e0_4, e0_11, e0_14] at w13
        try simp only [zt0, zt1, zt2, zt3, zt4, zt5, zt6, zt7, zt8, zt9, zt10, zt11, zt12, zt13, e0_2, e0_3, e0_4, e0_11, e0_14] at ws13
        have e13_2 : ∀ k, tg t13 (sr sh r0 2) k = tg t1 (sr sh r0 2) k := fun k => f13.eq q0 (i := 2) (by decide) (by decide) k
        have e13_3 : ∀ k, tg t13 (sr sh r0 3) k = tg t1 (sr sh r0 3) k := fun k => f13.eq q0 (i := 3) (by decide) (by decide) k
        have e13_4 : ∀ k, tg t13 (sr sh r0 4) k = tg t1 (sr sh r0 4) k := fun k => f13.eq q0 (i := 4) (by decide) (by decide) k
        have e13_11 : ∀ k, tg t13 (sr sh r0 11) k = tg t1 (sr sh r0 11) k := fun k => f13.eq q0 (i := 11) (by decide) (by decide) k
        have e13_14 : ∀ k, tg t13 (sr sh r0 14) k = tg t1 (sr sh r0 14) k := fun k => f13.eq q0 (i := 14) (by decide) (by decide) k
        refine zok_ck ((q0).1) ?_
        refine zok_c0 (s152 (q0) (by omega) (by omega) (by first | (omega) | ((try simp only [zt0, zt1, zt2, zt3, zt4, zt5, zt6, zt7, zt8, zt9, zt10, zt11, zt12, zt13, e0_2, e0_3, e0_4, e0_11, e0_14, e13_2, e13_3, e13_4, e13_11, e13_14]); omega)) (by first | (omega) | ((try simp only [zt0, zt1, zt2, zt3, zt4, zt5, zt6, zt7, zt8, zt9, zt10, zt11, zt12, zt13, e0_2, e0_3, e0_4, e0_11, e0_14, e13_2, e13_3, e13_4, e13_11, e13_14]); omega)) (f13.g)) (fun t14 p14 => ?_)
        obtain ⟨f14, p14⟩ := p14
        have e14_2 : ∀ k, tg t14 (sr sh r0 2) k = tg t13 (sr sh r0 2) k := fun k => f14.eq q0 (i := 2) (by decide) (by decide) k
        have e14_3 : ∀ k, tg t14 (sr sh r0 3) k = tg t13 (sr sh r0 3) k := fun k => f14.eq q0 (i := 3) (by decide) (by decide) k
        have e14_4 : ∀ k, tg t14 (sr sh r0 4) k = tg t13 (sr sh r0 4) k := fun k => f14.eq q0 (i := 4) (by decide) (by decide) k
        have e14_11 : ∀ k, tg t14 (sr sh r0 11) k = tg t13 (sr sh r0 11) k := fun k => f14.eq q0 (i := 11) (by decide) (by decide) k
        have e14_14 : ∀ k, tg t14 (sr sh r0 14) k = tg t13 (sr sh r0 14) k := fun k => f14.eq q0 (i := 14) (by decide) (by decide) k
        try simp only [zt0, zt1, zt2, zt3, zt4, zt5, zt6, zt7, zt8, zt9, zt10, zt11, zt12, zt13, e0_2, e0_3, e0_4, e0_11, e0_14, e13_2, e13_3, e13_4, e13_11, e13_14, e14_2, e14_3, e14_4, e14_11, e14_14] at p14
        simp only [zput_s, zput_n, ti_g, oI_add, oI_sub, oI_mul, zt0, zt1, zt2, zt3, zt4, zt5, zt6, zt7, zt8, zt9, zt10, zt11, zt12, zt13, e0_2, e0_3, e0_4, e0_11, e0_14, e13_2, e13_3, e13_4, e13_11, e13_14, e14_2, e14_3, e14_4, e14_11, e14_14, b184_68]
        try simp only [zput_s, zput_n, ti_g, oI_add, oI_sub, oI_mul]
        try simp only [zput_s, zput_n, ti_g, oI_add, oI_sub, oI_mul]
        exact l184_70 q0 G _ _ _ _ _ _ _ _ (by first | rfl | assumption) (by first | rfl | assumption) (by first | rfl | assumption) (by first | rfl | assumption) _ ((FrV.trans (Ns := [9, 10]) ((FrV.trans (Ns := [9, 10]) (f0) f13 (by decide) (by decide))) f14 (by decide) (by decide))) (by first | omega | ((try simp only [zt0, zt1, zt2, zt3, zt4, zt5, zt6, zt7, zt8, zt9, zt10, zt11, zt12, zt13, e0_2, e0_3, e0_4, e0_11, e0_14, e13_2, e13_3, e13_4, e13_11, e13_14, e14_2, e14_3, e14_4, e14_11, e14_14]); omega)) (fun k hk => by ((try have c0 := hq1 k hk); (try have c0 := hq1 k); (have c1 := w13 k); (have c7 := p14.2 k (by omega)); (try simp only [zt0, zt1, zt2, zt3, zt4, zt5, zt6, zt7, zt8, zt9, zt10, zt11, zt12, zt13] at *) <;> omega)) (Nat.lt_succ_self _)
    · refine zok_ck ((q0).1) ?_
      refine zok_pI (s183 (q0) (by omega) (by first | (omega) | ((try simp only [zt0, zt1, zt2, zt3, zt4, zt5, zt6, zt7, zt8, zt9, zt10, zt11, zt12, zt13, e0_2, e0_3, e0_4, e0_11, e0_14]); omega)) (f0.g)) (fun y16 u16 p16 => ?_)
      try simp only [zt0, zt1, zt2, zt3, zt4, zt5, zt6, zt7, zt8, zt9, zt10, zt11, zt12, zt13, e0_2, e0_3, e0_4, e0_11, e0_14] at p16
      simp only [zput_s, zput_n, ti_g, oI_add, oI_sub, oI_mul, zt0, zt1, zt2, zt3, zt4, zt5, zt6, zt7, zt8, zt9, zt10, zt11, zt12, zt13, e0_2, e0_3, e0_4, e0_11, e0_14, b184_15]
      try simp only [zput_s, zput_n, ti_g, oI_add, oI_sub, oI_mul]
      refine zok_ck ((q0).1) ?_
      refine zok_pI (s183 (q0) (by omega) (by first | (omega) | ((try simp only [zt0, zt1, zt2, zt3, zt4, zt5, zt6, zt7, zt8, zt9, zt10, zt11, zt12, zt13, e0_2, e0_3, e0_4, e0_11, e0_14]); omega)) (f0.g)) (fun y18 u18 p18 => ?_)
      try simp only [zt0, zt1, zt2, zt3, zt4, zt5, zt6, zt7, zt8, zt9, zt10, zt11, zt12, zt13, e0_2, e0_3, e0_4, e0_11, e0_14] at p18
      simp only [zput_s, zput_n, ti_g, oI_add, oI_sub, oI_mul, zt0, zt1, zt2, zt3, zt4, zt5, zt6, zt7, zt8, zt9, zt10, zt11, zt12, zt13, e0_2, e0_3, e0_4, e0_11, e0_14, b184_20]
      try simp only [zput_s, zput_n, ti_g, oI_add, oI_sub, oI_mul]
      first | refine zok_le (by omega) (fun c20 => ?_) (fun c20 => ?_) | refine zok_if (fun c20 => ?_) (fun c20 => ?_)
      · simp only [zput_s, zput_n, ti_g, oI_add, oI_sub, oI_mul, zt0, zt1, zt2, zt3, zt4, zt5, zt6, zt7, zt8, zt9, zt10, zt11, zt12, zt13, e0_2, e0_3, e0_4, e0_11, e0_14, b184_28]
        try simp only [zput_s, zput_n, ti_g, oI_add, oI_sub, oI_mul]
        try simp only [zput_s, zput_n, ti_g, oI_add, oI_sub, oI_mul]
        exact ih _ _ _ (f0) (by first | omega | ((try simp only [zt0, zt1, zt2, zt3, zt4, zt5, zt6, zt7, zt8, zt9, zt10, zt11, zt12, zt13, e0_2, e0_3, e0_4, e0_11, e0_14]); omega)) (fun k hk => by ((try have c0 := hq1 k hk); (try have c0 := hq1 k); (try simp only [zt0, zt1, zt2, zt3, zt4, zt5, zt6, zt7, zt8, zt9, zt10, zt11, zt12, zt13] at *) <;> omega)) (by first | omega | ((try simp only [zt0, zt1, zt2, zt3, zt4, zt5, zt6, zt7, zt8, zt9, zt10, zt11, zt12, zt13, e0_2, e0_3, e0_4, e0_11, e0_14]); omega))
      · simp only [zput_s, zput_n, ti_g, oI_add, oI_sub, oI_mul, zt0, zt1, zt2, zt3, zt4, zt5, zt6, zt7, zt8, zt9, zt10, zt11, zt12, zt13, e0_2, e0_3, e0_4, e0_11, e0_14, b184_28]
        try simp only [zput_s, zput_n, ti_g, oI_add, oI_sub, oI_mul]
        try simp only [zput_s, zput_n, ti_g, oI_add, oI_sub, oI_mul]
        exact ih _ _ _ (f0) (by first | omega | ((try simp only [zt0, zt1, zt2, zt3, zt4, zt5, zt6, zt7, zt8, zt9, zt10, zt11, zt12, zt13, e0_2, e0_3, e0_4, e0_11, e0_14]); omega)) (fun k hk => by ((try have c0 := hq1 k hk); (try have c0 := hq1 k); (try simp only [zt0, zt1, zt2, zt3, zt4, zt5, zt6, zt7, zt8, zt9, zt10, zt11, zt12, zt13] at *) <;> omega)) (by first | omega | ((try simp only [zt0, zt1, zt2, zt3, zt4, zt5, zt6, zt7, zt8, zt9, zt10, zt11, zt12, zt13, e0_2, e0_3, e0_4, e0_11, e0_14]); omega))
theorem s184 {sh : zSh} {t : zSt} {MB : Nat} {r0 : Nat} (q0 : zMd sh MB r0) (G : GI sh r0 t) : zok (zcl zP 184 [zR r0] (sh, t)) (zq0 (fun t' => FrV sh r0 [9, 10] t t' ∧ (tg t' (sr sh r0 10) 2 ≤ 100 ∧ ∀ k, k ≠ 2 → tg t' (sr sh r0 10) k = tg t (sr sh r0 10) k)) sh) := by
  have ha0_1 : (sk sh (sr sh r0 1)).2 = 21000 := by rw [q0.2.2.2.2.1]
  have ha0_2 : (sk sh (sr sh r0 2)).2 = 14 := by rw [q0.2.2.2.2.2.1]
  have ha0_3 : (sk sh (sr sh r0 3)).2 = 98 := by rw [q0.2.2.2.2.2.2.1]
  have ha0_4 : (sk sh (sr sh r0 4)).2 = 98 := by rw [q0.2.2.2.2.2.2.2.1]
  have ha0_8 : (sk sh (sr sh r0 8)).2 = 1500 := by rw [q0.2.2.2.2.2.2.2.2.1]
  have ha0_9 : (sk sh (sr sh r0 9)).2 = 10500 := by rw [q0.2.2.2.2.2.2.2.2.2.1]
  have ha0_10 : (sk sh (sr sh r0 10)).2 = 7 := by rw [q0.2.2.2.2.2.2.2.2.2.2.1]
  have ha0_11 : (sk sh (sr sh r0 11)).2 = 7 := by rw [q0.2.2.2.2.2.2.2.2.2.2.2.1]
  have ha0_12 : (sk sh (sr sh r0 12)).2 = 1500 := by rw [q0.2.2.2.2.2.2.2.2.2.2.2.2.1]
  have ha0_13 : (sk sh (sr sh r0 13)).2 = 1500 := by rw [q0.2.2.2.2.2.2.2.2.2.2.2.2.2.1]
  have ha0_14 : (sk sh (sr sh r0 14)).2 = 20 := by rw [q0.2.2.2.2.2.2.2.2.2.2.2.2.2.2]
  rw [b184_0]
  try simp only [zput_s, zput_n, ti_g, oI_add, oI_sub, oI_mul]
  try simp only [zput_s, zput_n, ti_g, oI_add, oI_sub, oI_mul]
  exact l184_4 q0 G _ _ _ _ (FrV.refl G) (by first | omega | ((try simp only [zt0, zt1, zt2, zt3, zt4, zt5, zt6, zt7, zt8, zt9, zt10, zt11, zt12, zt13]); omega)) (fun k hk => by ((try have c0 := hq1 k hk); (try have c0 := hq1 k); (try simp only [zt0, zt1, zt2, zt3, zt4, zt5, zt6, zt7, zt8, zt9, zt10, zt11, zt12, zt13] at *) <;> omega)) (Nat.lt_succ_self _)
