set_option maxRecDepth 16384
/-! X9_layOffer -/
theorem l191_63 {sh : zSh} {t0 : zSt} {MB : Nat} {r0 : Nat} (q0 : zMd sh MB r0) {x1 : Int} (u1 : -2147483648 ≤ x1 ∧ x1 ≤ 2147483647) {x2 : Int} (u2 : -2147483648 ≤ x2 ∧ x2 ≤ 2147483647) {x3 : Int} (u3 : -2147483648 ≤ x3 ∧ x3 ≤ 2147483647) (d2 : 0 ≤ x2 ∧ x2 ≤ 7) (d3 : 0 ≤ x3 ∧ x3 ≤ 7) (G : GI sh r0 t0) : ∀ (n : Nat)   (t1 : zSt), FrV sh r0 [3, 4, 9, 10, 11] t0 t1 → (tg t1 (sr sh r0 10) 0 ≤ 401) ∧ (tg t1 (sr sh r0 10) 1 ≤ 401) ∧ (tg t1 (sr sh r0 10) 2 ≤ 401) ∧ (tg t1 (sr sh r0 10) 3 ≤ 401) ∧ (tg t1 (sr sh r0 10) 4 ≤ 1610) ∧ (tg t1 (sr sh r0 10) 5 ≤ 401) ∧ (tg t1 (sr sh r0 10) 6 ≤ 401) → ((0 : Int)).toNat < n → zok (zev zP 191 63 [some (zR r0), some (zI (oI x1)), some (zI (oI x2)), some (zI (oI x3))] [] (sh, t1)) (zq0 (fun t' => FrV sh r0 [3, 4, 9, 10, 11] t0 t' ∧ (tg t' (sr sh r0 10) 0 ≤ 401 ∧ tg t' (sr sh r0 10) 1 ≤ 401 ∧ tg t' (sr sh r0 10) 2 ≤ 401 ∧ tg t' (sr sh r0 10) 3 ≤ 401 ∧ tg t' (sr sh r0 10) 4 ≤ 1610 ∧ tg t' (sr sh r0 10) 5 ≤ 401 ∧ tg t' (sr sh r0 10) 6 ≤ 401)) sh) := by
  intro n
  induction n with
  | zero => intro   t1 f0 _ hm; omega
  | succ n ih =>
    intro   t1 f0 hv hm
    have ha0_1 : (sk sh (sr sh r0 1)).2 = 21000 := by rw [q0.2.2.2.2.1]
    have ha0_2 : (sk sh (sr sh r0 2)).2 = 14 := by rw [q0.2.2.2.2.2.1]
    have ha0_3 : (sk sh (sr sh r0 3)).2 = 98 := by rw [q0.2.2.2.2.2.2.1]
    have ha0_4 : (sk sh (sr sh r0 4)).2 = 98 := by rw [q0.2.2.2.2.2.2.2.1]
    have ha0_8 : (sk sh (sr sh r0 8)).2 = 1500 := by rw [q0.2.2.2.2.2.2.2.2.1]
    have ha0_9 : (sk sh (sr sh r0 9)).2 = 10500 := by rw [q0.2.2.2.2.2.2.2.2.2.1]
    have ha0_10 : (sk sh (sr sh r0 10)).2 = 7 := by rw [q0.2.2.2.2.2.2.2.2.2.2.1]
    have ha0_11 : (sk sh (sr sh r0 11)).2 = 7 := by rw [q0.2.2.2.2.2.2.2.2.2.2.2.1]
    have ha0_12 : (sk sh (sr sh r0 12)).2 = 1500 := by rw [q0.2.2.2.2.2.2.2.2.2.2.2.2.1]
    have ha0_13 : (sk sh (sr sh r0 13)).2 = 1500 := by rw [q0.2.2.2.2.2.2.2.2.2.2.2.2.2.1]
    have ha0_14 : (sk sh (sr sh r0 14)).2 = 20 := by rw [q0.2.2.2.2.2.2.2.2.2.2.2.2.2.2]
    have e0_2 : ∀ k, tg t1 (sr sh r0 2) k = tg t0 (sr sh r0 2) k := fun k => f0.eq q0 (i := 2) (by decide) (by decide) k
    try simp only [zt0, zt1, zt2, zt3, zt4, zt5, zt6, zt7, zt8, zt9, zt10, zt11, zt12, zt13, e0_2] at hv
    try simp only [zt0, zt1, zt2, zt3, zt4, zt5, zt6, zt7, zt8, zt9, zt10, zt11, zt12, zt13, e0_2] at hm
    rw [b191_63]
    try simp only [zput_s, zput_n, ti_g, oI_add, oI_sub, oI_mul]
    first | refine zok_le (by omega) (fun c2 => ?_) (fun c2 => ?_) | refine zok_if (fun c2 => ?_) (fun c2 => ?_)
    · simp only [zput_s, zput_n, ti_g, oI_add, oI_sub, oI_mul, zt0, zt1, zt2, zt3, zt4, zt5, zt6, zt7, zt8, zt9, zt10, zt11, zt12, zt13, e0_2, b191_74]
      try simp only [zput_s, zput_n, ti_g, oI_add, oI_sub, oI_mul]
      exact q0_rt ⟨f0, by omega⟩
    · refine zok_ck ((q0).1) ?_
      have gq4_0 : -1 ≤ tg t1 (sr sh r0 3) (7 * x3 + 0).toNat ∧ tg t1 (sr sh r0 3) (7 * x3 + 0).toNat ≤ tg t1 (sr sh r0 4) (7 * x3 + 0).toNat ∧ tg t1 (sr sh r0 4) (7 * x3 + 0).toNat ≤ 400 := by have g := (f0.g).2.1 (7 * x3 + 0).toNat (by omega); exact ⟨g.1, g.2.1, g.2.2.2 (by omega)⟩
      try simp only [zt0, zt1, zt2, zt3, zt4, zt5, zt6, zt7, zt8, zt9, zt10, zt11, zt12, zt13, e0_2] at gq4_0
      refine zok_c0 (s153 (q0) (by omega) (by omega) (by first | (omega) | ((try simp only [zt0, zt1, zt2, zt3, zt4, zt5, zt6, zt7, zt8, zt9, zt10, zt11, zt12, zt13, e0_2]); omega)) (by first | (omega) | ((try simp only [zt0, zt1, zt2, zt3, zt4, zt5, zt6, zt7, zt8, zt9, zt10, zt11, zt12, zt13, e0_2]); omega)) (f0.g)) (fun t4 p4 => ?_)
      obtain ⟨f4, p4⟩ := p4
      have e4_2 : ∀ k, tg t4 (sr sh r0 2) k = tg t1 (sr sh r0 2) k := fun k => f4.eq q0 (i := 2) (by decide) (by decide) k
      have e4_3 : ∀ k, tg t4 (sr sh r0 3) k = tg t1 (sr sh r0 3) k := fun k => f4.eq q0 (i := 3) (by decide) (by decide) k
      have e4_4 : ∀ k, tg t4 (sr sh r0 4) k = tg t1 (sr sh r0 4) k := fun k => f4.eq q0 (i := 4) (by decide) (by decide) k
      try simp only [zt0, zt1, zt2, zt3, zt4, zt5, zt6, zt7, zt8, zt9, zt10, zt11, zt12, zt13, e0_2, e4_2, e4_3, e4_4] at p4
      have hL4_0 := p4.2.1 1 (by decide)
      try simp only [zt0, zt1, zt2, zt3, zt4, zt5, zt6, zt7, zt8, zt9, zt10, zt11, zt12, zt13, e0_2, e4_2, e4_3, e4_4] at hL4_0
      have hL4_1 := p4.2.2.2 1 (by decide)
      try simp only [zt0, zt1, zt2, zt3, zt4, zt5, zt6, zt7, zt8, zt9, zt10, zt11, zt12, zt13, e0_2, e4_2, e4_3, e4_4] at hL4_1
      have hL4_2 := p4.2.1 2 (by decide)
      try simp only [zt0, zt1, zt2, zt3, zt4, zt5, zt6, zt7, zt8, zt9, zt10, zt11, zt12, zt13, e0_2, e4_2, e4_3, e4_4] at hL4_2
      have hL4_3 := p4.2.2.2 2 (by decide)
      try simp only [zt0, zt1, zt2, zt3, zt4, zt5, zt6, zt7, zt8, zt9, zt10, zt11, zt12, zt13, e0_2, e4_2, e4_3, e4_4] at hL4_3
      have hL4_4 := p4.2.1 3 (by decide)
      try simp only [zt0, zt1, zt2, zt3, zt4, zt5, zt6, zt7, zt8, zt9, zt10, zt11, zt12, zt13, e0_2, e4_2, e4_3, e4_4] at hL4_4
      have hL4_5 := p4.2.2.2 3 (by decide)
      try simp only [zt0, zt1, zt2, zt3, zt4, zt5, zt6, zt7, zt8, zt9, zt10, zt11, zt12, zt13, e0_2, e4_2, e4_3, e4_4] at hL4_5
      have hL4_6 := p4.2.1 4 (by decide)
      try simp only [zt0, zt1, zt2, zt3, zt4, zt5, zt6, zt7, zt8, zt9, zt10, zt11, zt12, zt13, e0_2, e4_2, e4_3, e4_4] at hL4_6
      have hL4_7 := p4.2.2.2 4 (by decide)
      try simp only [zt0, zt1, zt2, zt3, zt4, zt5, zt6, zt7, zt8, zt9, zt10, zt11, zt12, zt13, e0_2, e4_2, e4_3, e4_4] at hL4_7
      have hL4_8 := p4.2.1 5 (by decide)
      try simp only [zt0, zt1, zt2, zt3, zt4, zt5, zt6, zt7, zt8, zt9, zt10, zt11, zt12, zt13, e0_2, e4_2, e4_3, e4_4] at hL4_8
      have hL4_9 := p4.2.2.2 5 (by decide)
      try simp only [zt0, zt1, zt2, zt3, zt4, zt5, zt6, zt7, zt8, zt9, zt10, zt11, zt12, zt13, e0_2, e4_2, e4_3, e4_4] at hL4_9
      have hL4_10 := p4.2.1 6 (by decide)
      try simp only [zt0, zt1, zt2, zt3, zt4, zt5, zt6, zt7, zt8, zt9, zt10, zt11, zt12, zt13, e0_2, e4_2, e4_3, e4_4] at hL4_10
      have hL4_11 := p4.2.2.2 6 (by decide)
      try simp only [zt0, zt1, zt2, zt3, zt4, zt5, zt6, zt7, zt8, zt9, zt10, zt11, zt12, zt13, e0_2, e4_2, e4_3, e4_4] at hL4_11
      simp only [zput_s, zput_n, ti_g, oI_add, oI_sub, oI_mul, zt0, zt1, zt2, zt3, zt4, zt5, zt6, zt7, zt8, zt9, zt10, zt11, zt12, zt13, e0_2, e4_2, e4_3, e4_4, b191_74]
      try simp only [zput_s, zput_n, ti_g, oI_add, oI_sub, oI_mul]
      exact q0_rt ⟨(FrV.trans (Ns := [3, 4, 9, 10, 11]) (f0) f4 (by decide) (by decide)), by omega⟩
theorem l191_53 {sh : zSh} {t0 : zSt} {MB : Nat} {r0 : Nat} (q0 : zMd sh MB r0) {x1 : Int} (u1 : -2147483648 ≤ x1 ∧ x1 ≤ 2147483647) {x2 : Int} (u2 : -2147483648 ≤ x2 ∧ x2 ≤ 2147483647) {x3 : Int} (u3 : -2147483648 ≤ x3 ∧ x3 ≤ 2147483647) (d2 : 0 ≤ x2 ∧ x2 ≤ 7) (d3 : 0 ≤ x3 ∧ x3 ≤ 7) (G : GI sh r0 t0) : ∀ (n : Nat)   (t1 : zSt), FrV sh r0 [3, 4, 9, 10, 11] t0 t1 → (tg t1 (sr sh r0 10) 0 ≤ 401) ∧ (tg t1 (sr sh r0 10) 1 ≤ 401) ∧ (tg t1 (sr sh r0 10) 2 ≤ 401) ∧ (tg t1 (sr sh r0 10) 3 ≤ 401) ∧ (tg t1 (sr sh r0 10) 4 ≤ 1610) ∧ (tg t1 (sr sh r0 10) 5 ≤ 401) ∧ (tg t1 (sr sh r0 10) 6 ≤ 401) → ((0 : Int)).toNat < n → zok (zev zP 191 53 [some (zR r0), some (zI (oI x1)), some (zI (oI x2)), some (zI (oI x3))] [] (sh, t1)) (zq0 (fun t' => FrV sh r0 [3, 4, 9, 10, 11] t0 t' ∧ (tg t' (sr sh r0 10) 0 ≤ 401 ∧ tg t' (sr sh r0 10) 1 ≤ 401 ∧ tg t' (sr sh r0 10) 2 ≤ 401 ∧ tg t' (sr sh r0 10) 3 ≤ 401 ∧ tg t' (sr sh r0 10) 4 ≤ 1610 ∧ tg t' (sr sh r0 10) 5 ≤ 401 ∧ tg t' (sr sh r0 10) 6 ≤ 401)) sh) := by
  intro n
  induction n with
  | zero => intro   t1 f0 _ hm; omega
  | succ n ih =>
    intro   t1 f0 hv hm
    have ha0_1 : (sk sh (sr sh r0 1)).2 = 21000 := by rw [q0.2.2.2.2.1]
    have ha0_2 : (sk sh (sr sh r0 2)).2 = 14 := by rw [q0.2.2.2.2.2.1]
    have ha0_3 : (sk sh (sr sh r0 3)).2 = 98 := by rw [q0.2.2.2.2.2.2.1]
    have ha0_4 : (sk sh (sr sh r0 4)).2 = 98 := by rw [q0.2.2.2.2.2.2.2.1]
    have ha0_8 : (sk sh (sr sh r0 8)).2 = 1500 := by rw [q0.2.2.2.2.2.2.2.2.1]
    have ha0_9 : (sk sh (sr sh r0 9)).2 = 10500 := by rw [q0.2.2.2.2.2.2.2.2.2.1]
    have ha0_10 : (sk sh (sr sh r0 10)).2 = 7 := by rw [q0.2.2.2.2.2.2.2.2.2.2.1]
    have ha0_11 : (sk sh (sr sh r0 11)).2 = 7 := by rw [q0.2.2.2.2.2.2.2.2.2.2.2.1]
    have ha0_12 : (sk sh (sr sh r0 12)).2 = 1500 := by rw [q0.2.2.2.2.2.2.2.2.2.2.2.2.1]
    have ha0_13 : (sk sh (sr sh r0 13)).2 = 1500 := by rw [q0.2.2.2.2.2.2.2.2.2.2.2.2.2.1]
    have ha0_14 : (sk sh (sr sh r0 14)).2 = 20 := by rw [q0.2.2.2.2.2.2.2.2.2.2.2.2.2.2]
    have e0_2 : ∀ k, tg t1 (sr sh r0 2) k = tg t0 (sr sh r0 2) k := fun k => f0.eq q0 (i := 2) (by decide) (by decide) k
    try simp only [zt0, zt1, zt2, zt3, zt4, zt5, zt6, zt7, zt8, zt9, zt10, zt11, zt12, zt13, e0_2] at hv
    try simp only [zt0, zt1, zt2, zt3, zt4, zt5, zt6, zt7, zt8, zt9, zt10, zt11, zt12, zt13, e0_2] at hm
    rw [b191_53]
    try simp only [zput_s, zput_n, ti_g, oI_add, oI_sub, oI_mul]
    first | refine zok_le (by omega) (fun c2 => ?_) (fun c2 => ?_) | refine zok_if (fun c2 => ?_) (fun c2 => ?_)
    · try simp only [zput_s, zput_n, ti_g, oI_add, oI_sub, oI_mul]
      exact l191_63 q0 (by omega) (by omega) (by omega) d2 d3 G _ _ (f0) (by first | omega | ((try simp only [zt0, zt1, zt2, zt3, zt4, zt5, zt6, zt7, zt8, zt9, zt10, zt11, zt12, zt13, e0_2]); omega)) (Nat.lt_succ_self _)
    · refine zok_ck ((q0).1) ?_
      have gq3_0 : -1 ≤ tg t1 (sr sh r0 3) (7 * x3 + 1).toNat ∧ tg t1 (sr sh r0 3) (7 * x3 + 1).toNat ≤ tg t1 (sr sh r0 4) (7 * x3 + 1).toNat ∧ tg t1 (sr sh r0 4) (7 * x3 + 1).toNat ≤ 400 := by have g := (f0.g).2.1 (7 * x3 + 1).toNat (by omega); exact ⟨g.1, g.2.1, g.2.2.2 (by omega)⟩
      try simp only [zt0, zt1, zt2, zt3, zt4, zt5, zt6, zt7, zt8, zt9, zt10, zt11, zt12, zt13, e0_2] at gq3_0
      have gq3_1 : -1 ≤ tg t1 (sr sh r0 3) (7 * x3 + 2).toNat ∧ tg t1 (sr sh r0 3) (7 * x3 + 2).toNat ≤ tg t1 (sr sh r0 4) (7 * x3 + 2).toNat ∧ tg t1 (sr sh r0 4) (7 * x3 + 2).toNat ≤ 400 := by have g := (f0.g).2.1 (7 * x3 + 2).toNat (by omega); exact ⟨g.1, g.2.1, g.2.2.2 (by omega)⟩
      try simp only [zt0, zt1, zt2, zt3, zt4, zt5, zt6, zt7, zt8, zt9, zt10, zt11, zt12, zt13, e0_2] at gq3_1
      have gq3_2 : -1 ≤ tg t1 (sr sh r0 3) (7 * x3 + 3).toNat ∧ tg t1 (sr sh r0 3) (7 * x3 + 3).toNat ≤ tg t1 (sr sh r0 4) (7 * x3 + 3).toNat ∧ tg t1 (sr sh r0 4) (7 * x3 + 3).toNat ≤ 400 := by have g := (f0.g).2.1 (7 * x3 + 3).toNat (by omega); exact ⟨g.1, g.2.1, g.2.2.2 (by omega)⟩
      try simp only [zt0, zt1, zt2, zt3, zt4, zt5, zt6, zt7, zt8, zt9, zt10, zt11, zt12, zt13, e0_2] at gq3_2
      refine zok_c0 (s154 (q0) (by omega) (by first | (omega) | ((try simp only [zt0, zt1, zt2, zt3, zt4, zt5, zt6, zt7, zt8, zt9, zt10, zt11, zt12, zt13, e0_2]); omega)) (f0.g)) (fun t3 p3 => ?_)
      obtain ⟨f3, p3⟩ := p3
      have e3_2 : ∀ k, tg t3 (sr sh r0 2) k = tg t1 (sr sh r0 2) k := fun k => f3.eq q0 (i := 2) (by decide) (by decide) k
      have e3_3 : ∀ k, tg t3 (sr sh r0 3) k = tg t1 (sr sh r0 3) k := fun k => f3.eq q0 (i := 3) (by decide) (by decide) k
      have e3_4 : ∀ k, tg t3 (sr sh r0 4) k = tg t1 (sr sh r0 4) k := fun k => f3.eq q0 (i := 4) (by decide) (by decide) k
      try simp only [zt0, zt1, zt2, zt3, zt4, zt5, zt6, zt7, zt8, zt9, zt10, zt11, zt12, zt13, e0_2, e3_2, e3_3, e3_4] at p3
      have hL3_0 := p3.2.2.1 0 (by decide)
      try simp only [zt0, zt1, zt2, zt3, zt4, zt5, zt6, zt7, zt8, zt9, zt10, zt11, zt12, zt13, e0_2, e3_2, e3_3, e3_4] at hL3_0
      have hL3_1 := p3.2.2.2 0 (by decide)
      try simp only [zt0, zt1, zt2, zt3, zt4, zt5, zt6, zt7, zt8, zt9, zt10, zt11, zt12, zt13, e0_2, e3_2, e3_3, e3_4] at hL3_1
      have hL3_2 := p3.2.2.1 4 (by decide)
      try simp only [zt0, zt1, zt2, zt3, zt4, zt5, zt6, zt7, zt8, zt9, zt10, zt11, zt12, zt13, e0_2, e3_2, e3_3, e3_4] at hL3_2
      have hL3_3 := p3.2.2.2 4 (by decide)
      try simp only [zt0, zt1, zt2, zt3, zt4, zt5, zt6, zt7, zt8, zt9, zt10, zt11, zt12, zt13, e0_2, e3_2, e3_3, e3_4] at hL3_3
      have hL3_4 := p3.2.2.1 5 (by decide)
      try simp only [zt0, zt1, zt2, zt3, zt4, zt5, zt6, zt7, zt8, zt9, zt10, zt11, zt12, zt13, e0_2, e3_2, e3_3, e3_4] at hL3_4
      have hL3_5 := p3.2.2.2 5 (by decide)
      try simp only [zt0, zt1, zt2, zt3, zt4, zt5, zt6, zt7, zt8, zt9, zt10, zt11, zt12, zt13, e0_2, e3_2, e3_3, e3_4] at hL3_5
      have hL3_6 := p3.2.2.1 6 (by decide)
      try simp only [zt0, zt1, zt2, zt3, zt4, zt5, zt6, zt7, zt8, zt9, zt10, zt11, zt12, zt13, e0_2, e3_2, e3_3, e3_4] at hL3_6
      have hL3_7 := p3.2.2.2 6 (by decide)
      try simp only [zt0, zt1, zt2, zt3, zt4, zt5, zt6, zt7, zt8, zt9, zt10, zt11, zt12, zt13, e0_2, e3_2, e3_3, e3_4] at hL3_7
      try simp only [zput_s, zput_n, ti_g, oI_add, oI_sub, oI_mul]
      exact l191_63 q0 (by omega) (by omega) (by omega) d2 d3 G _ _ ((FrV.trans (Ns := [3, 4, 9, 10, 11]) (f0) f3 (by decide) (by decide))) (by first | omega | ((try simp only [zt0, zt1, zt2, zt3, zt4, zt5, zt6, zt7, zt8, zt9, zt10, zt11, zt12, zt13, e0_2, e3_2, e3_3, e3_4]); omega)) (Nat.lt_succ_self _)
theorem l191_42 {sh : zSh} {t0 : zSt} {MB : Nat} {r0 : Nat} (q0 : zMd sh MB r0) {x1 : Int} (u1 : -2147483648 ≤ x1 ∧ x1 ≤ 2147483647) {x2 : Int} (u2 : -2147483648 ≤ x2 ∧ x2 ≤ 2147483647) {x3 : Int} (u3 : -2147483648 ≤ x3 ∧ x3 ≤ 2147483647) (d2 : 0 ≤ x2 ∧ x2 ≤ 7) (d3 : 0 ≤ x3 ∧ x3 ≤ 7) (G : GI sh r0 t0) : ∀ (n : Nat)   (t1 : zSt), FrV sh r0 [3, 4, 9, 10, 11] t0 t1 → (tg t1 (sr sh r0 10) 0 ≤ 401) ∧ (tg t1 (sr sh r0 10) 1 ≤ 401) ∧ (tg t1 (sr sh r0 10) 2 ≤ 401) ∧ (tg t1 (sr sh r0 10) 3 ≤ 401) ∧ (tg t1 (sr sh r0 10) 4 ≤ 1610) ∧ (tg t1 (sr sh r0 10) 5 ≤ 401) ∧ (tg t1 (sr sh r0 10) 6 ≤ 401) → ((0 : Int)).toNat < n → zok (zev zP 191 42 [some (zR r0), some (zI (oI x1)), some (zI (oI x2)), some (zI (oI x3))] [] (sh, t1)) (zq0 (fun t' => FrV sh r0 [3, 4, 9, 10, 11] t0 t' ∧ (tg t' (sr sh r0 10) 0 ≤ 401 ∧ tg t' (sr sh r0 10) 1 ≤ 401 ∧ tg t' (sr sh r0 10) 2 ≤ 401 ∧ tg t' (sr sh r0 10) 3 ≤ 401 ∧ tg t' (sr sh r0 10) 4 ≤ 1610 ∧ tg t' (sr sh r0 10) 5 ≤ 401 ∧ tg t' (sr sh r0 10) 6 ≤ 401)) sh) := by
  intro n
  induction n with
  | zero => intro   t1 f0 _ hm; omega
  | succ n ih =>
    intro   t1 f0 hv hm
    have ha0_1 : (sk sh (sr sh r0 1)).2 = 21000 := by rw [q0.2.2.2.2.1]
    have ha0_2 : (sk sh (sr sh r0 2)).2 = 14 := by rw [q0.2.2.2.2.2.1]
    have ha0_3 : (sk sh (sr sh r0 3)).2 = 98 := by rw [q0.2.2.2.2.2.2.1]
    have ha0_4 : (sk sh (sr sh r0 4)).2 = 98 := by rw [q0.2.2.2.2.2.2.2.1]
    have ha0_8 : (sk sh (sr sh r0 8)).2 = 1500 := by rw [q0.2.2.2.2.2.2.2.2.1]
    have ha0_9 : (sk sh (sr sh r0 9)).2 = 10500 := by rw [q0.2.2.2.2.2.2.2.2.2.1]
    have ha0_10 : (sk sh (sr sh r0 10)).2 = 7 := by rw [q0.2.2.2.2.2.2.2.2.2.2.1]
    have ha0_11 : (sk sh (sr sh r0 11)).2 = 7 := by rw [q0.2.2.2.2.2.2.2.2.2.2.2.1]
    have ha0_12 : (sk sh (sr sh r0 12)).2 = 1500 := by rw [q0.2.2.2.2.2.2.2.2.2.2.2.2.1]
    have ha0_13 : (sk sh (sr sh r0 13)).2 = 1500 := by rw [q0.2.2.2.2.2.2.2.2.2.2.2.2.2.1]
    have ha0_14 : (sk sh (sr sh r0 14)).2 = 20 := by rw [q0.2.2.2.2.2.2.2.2.2.2.2.2.2.2]
    have e0_2 : ∀ k, tg t1 (sr sh r0 2) k = tg t0 (sr sh r0 2) k := fun k => f0.eq q0 (i := 2) (by decide) (by decide) k
    try simp only [zt0, zt1, zt2, zt3, zt4, zt5, zt6, zt7, zt8, zt9, zt10, zt11, zt12, zt13, e0_2] at hv
    try simp only [zt0, zt1, zt2, zt3, zt4, zt5, zt6, zt7, zt8, zt9, zt10, zt11, zt12, zt13, e0_2] at hm
    rw [b191_42]
    try simp only [zput_s, zput_n, ti_g, oI_add, oI_sub, oI_mul]
    first | refine zok_le (by omega) (fun c2 => ?_) (fun c2 => ?_) | refine zok_if (fun c2 => ?_) (fun c2 => ?_)
    · try simp only [zput_s, zput_n, ti_g, oI_add, oI_sub, oI_mul]
      exact l191_53 q0 (by omega) (by omega) (by omega) d2 d3 G _ _ (f0) (by first | omega | ((try simp only [zt0, zt1, zt2, zt3, zt4, zt5, zt6, zt7, zt8, zt9, zt10, zt11, zt12, zt13, e0_2]); omega)) (Nat.lt_succ_self _)
    · refine zok_ck ((q0).1) ?_
      have gq3_0 : -1 ≤ tg t1 (sr sh r0 3) (7 * x3 + 4).toNat ∧ tg t1 (sr sh r0 3) (7 * x3 + 4).toNat ≤ tg t1 (sr sh r0 4) (7 * x3 + 4).toNat ∧ tg t1 (sr sh r0 4) (7 * x3 + 4).toNat ≤ 400 := by have g := (f0.g).2.1 (7 * x3 + 4).toNat (by omega); exact ⟨g.1, g.2.1, g.2.2.2 (by omega)⟩
      try simp only [zt0, zt1, zt2, zt3, zt4, zt5, zt6, zt7, zt8, zt9, zt10, zt11, zt12, zt13, e0_2] at gq3_0
      refine zok_c0 (s153 (q0) (by omega) (by omega) (by first | (omega) | ((try simp only [zt0, zt1, zt2, zt3, zt4, zt5, zt6, zt7, zt8, zt9, zt10, zt11, zt12, zt13, e0_2]); omega)) (by first | (omega) | ((try simp only [zt0, zt1, zt2, zt3, zt4, zt5, zt6, zt7, zt8, zt9, zt10, zt11, zt12, zt13, e0_2]); omega)) (f0.g)) (fun t3 p3 => ?_)
      obtain ⟨f3, p3⟩ := p3
      have e3_2 : ∀ k, tg t3 (sr sh r0 2) k = tg t1 (sr sh r0 2) k := fun k => f3.eq q0 (i := 2) (by decide) (by decide) k
      have e3_3 : ∀ k, tg t3 (sr sh r0 3) k = tg t1 (sr sh r0 3) k := fun k => f3.eq q0 (i := 3) (by decide) (by decide) k
      have e3_4 : ∀ k, tg t3 (sr sh r0 4) k = tg t1 (sr sh r0 4) k := fun k => f3.eq q0 (i := 4) (by decide) (by decide) k
      try simp only [zt0, zt1, zt2, zt3, zt4, zt5, zt6, zt7, zt8, zt9, zt10, zt11, zt12, zt13, e0_2, e3_2, e3_3, e3_4] at p3
      have hL3_0 := p3.2.1 0 (by decide)
      try simp only [zt0, zt1, zt2, zt3, zt4, zt5, zt6, zt7, zt8, zt9, zt10, zt11, zt12, zt13, e0_2, e3_2, e3_3, e3_4] at hL3_0
      have hL3_1 := p3.2.2.2 0 (by decide)
      try simp only [zt0, zt1, zt2, zt3, zt4, zt5, zt6, zt7, zt8, zt9, zt10, zt11, zt12, zt13, e0_2, e3_2, e3_3, e3_4] at hL3_1
      have hL3_2 := p3.2.1 1 (by decide)
      try simp only [zt0, zt1, zt2, zt3, zt4, zt5, zt6, zt7, zt8, zt9, zt10, zt11, zt12, zt13, e0_2, e3_2, e3_3, e3_4] at hL3_2
      have hL3_3 := p3.2.2.2 1 (by decide)
      try simp only [zt0, zt1, zt2, zt3, zt4, zt5, zt6, zt7, zt8, zt9, zt10, zt11, zt12, zt13, e0_2, e3_2, e3_3, e3_4] at hL3_3
      have hL3_4 := p3.2.1 2 (by decide)
      try simp only [zt0, zt1, zt2, zt3, zt4, zt5, zt6, zt7, zt8, zt9, zt10, zt11, zt12, zt13, e0_2, e3_2, e3_3, e3_4] at hL3_4
      have hL3_5 := p3.2.2.2 2 (by decide)
      try simp only [zt0, zt1, zt2, zt3, zt4, zt5, zt6, zt7, zt8, zt9, zt10, zt11, zt12, zt13, e0_2, e3_2, e3_3, e3_4] at hL3_5
      have hL3_6 := p3.2.1 3 (by decide)
      try simp only [zt0, zt1, zt2, zt3, zt4, zt5, zt6, zt7, zt8, zt9, zt10, zt11, zt12, zt13, e0_2, e3_2, e3_3, e3_4] at hL3_6
      have hL3_7 := p3.2.2.2 3 (by decide)
      try simp only [zt0, zt1, zt2, zt3, zt4, zt5, zt6, zt7, zt8, zt9, zt10, zt11, zt12, zt13, e0_2, e3_2, e3_3, e3_4] at hL3_7
      have hL3_8 := p3.2.1 5 (by decide)
      try simp only [zt0, zt1, zt2, zt3, zt4, zt5, zt6, zt7, zt8, zt9, zt10, zt11, zt12, zt13, e0_2, e3_2, e3_3, e3_4] at hL3_8
      have hL3_9 := p3.2.2.2 5 (by decide)
      try simp only [zt0, zt1, zt2, zt3, zt4, zt5, zt6, zt7, zt8, zt9, zt10, zt11, zt12, zt13, e0_2, e3_2, e3_3, e3_4] at hL3_9
      have hL3_10 := p3.2.1 6 (by decide)
      try simp only [zt0, zt1, zt2, zt3, zt4, zt5, zt6, zt7, zt8, zt9, zt10, zt11, zt12, zt13, e0_2, e3_2, e3_3, e3_4] at hL3_10
      have hL3_11 := p3.2.2.2 6 (by decide)
      try simp only [zt0, zt1, zt2, zt3, zt4, zt5, zt6, zt7, zt8, zt9, zt10, zt11, zt12, zt13, e0_2, e3_2, e3_3, e3_4] at hL3_11
      try simp only [zput_s, zput_n, ti_g, oI_add, oI_sub, oI_mul]
      exact l191_53 q0 (by omega) (by omega) (by omega) d2 d3 G _ _ ((FrV.trans (Ns := [3, 4, 9, 10, 11]) (f0) f3 (by decide) (by decide))) (by first | omega | ((try simp only [zt0, zt1, zt2, zt3, zt4, zt5, zt6, zt7, zt8, zt9, zt10, zt11, zt12, zt13, e0_2, e3_2, e3_3, e3_4]); omega)) (Nat.lt_succ_self _)
theorem l191_31 {sh : zSh} {t0 : zSt} {MB : Nat} {r0 : Nat} (q0 : zMd sh MB r0) {x1 : Int} (u1 : -2147483648 ≤ x1 ∧ x1 ≤ 2147483647) {x2 : Int} (u2 : -2147483648 ≤ x2 ∧ x2 ≤ 2147483647) {x3 : Int} (u3 : -2147483648 ≤ x3 ∧ x3 ≤ 2147483647) (d2 : 0 ≤ x2 ∧ x2 ≤ 7) (d3 : 0 ≤ x3 ∧ x3 ≤ 7) (G : GI sh r0 t0) : ∀ (n : Nat)   (t1 : zSt), FrV sh r0 [3, 4, 9, 10, 11] t0 t1 → (tg t1 (sr sh r0 10) 0 ≤ 401) ∧ (tg t1 (sr sh r0 10) 1 ≤ 401) ∧ (tg t1 (sr sh r0 10) 2 ≤ 401) ∧ (tg t1 (sr sh r0 10) 3 ≤ 401) ∧ (tg t1 (sr sh r0 10) 4 ≤ 1610) ∧ (tg t1 (sr sh r0 10) 5 ≤ 401) ∧ (tg t1 (sr sh r0 10) 6 ≤ 401) → ((0 : Int)).toNat < n → zok (zev zP 191 31 [some (zR r0), some (zI (oI x1)), some (zI (oI x2)), some (zI (oI x3))] [] (sh, t1)) (zq0 (fun t' => FrV sh r0 [3, 4, 9, 10, 11] t0 t' ∧ (tg t' (sr sh r0 10) 0 ≤ 401 ∧ tg t' (sr sh r0 10) 1 ≤ 401 ∧ tg t' (sr sh r0 10) 2 ≤ 401 ∧ tg t' (sr sh r0 10) 3 ≤ 401 ∧ tg t' (sr sh r0 10) 4 ≤ 1610 ∧ tg t' (sr sh r0 10) 5 ≤ 401 ∧ tg t' (sr sh r0 10) 6 ≤ 401)) sh) := by
  intro n
  induction n with
  | zero => intro   t1 f0 _ hm; omega
  | succ n ih =>
    intro   t1 f0 hv hm
    have ha0_1 : (sk sh (sr sh r0 1)).2 = 21000 := by rw [q0.2.2.2.2.1]
    have ha0_2 : (sk sh (sr sh r0 2)).2 = 14 := by rw [q0.2.2.2.2.2.1]
    have ha0_3 : (sk sh (sr sh r0 3)).2 = 98 := by rw [q0.2.2.2.2.2.2.1]
    have ha0_4 : (sk sh (sr sh r0 4)).2 = 98 := by rw [q0.2.2.2.2.2.2.2.1]
    have ha0_8 : (sk sh (sr sh r0 8)).2 = 1500 := by rw [q0.2.2.2.2.2.2.2.2.1]
    have ha0_9 : (sk sh (sr sh r0 9)).2 = 10500 := by rw [q0.2.2.2.2.2.2.2.2.2.1]
    have ha0_10 : (sk sh (sr sh r0 10)).2 = 7 := by rw [q0.2.2.2.2.2.2.2.2.2.2.1]
    have ha0_11 : (sk sh (sr sh r0 11)).2 = 7 := by rw [q0.2.2.2.2.2.2.2.2.2.2.2.1]
    have ha0_12 : (sk sh (sr sh r0 12)).2 = 1500 := by rw [q0.2.2.2.2.2.2.2.2.2.2.2.2.1]
    have ha0_13 : (sk sh (sr sh r0 13)).2 = 1500 := by rw [q0.2.2.2.2.2.2.2.2.2.2.2.2.2.1]
    have ha0_14 : (sk sh (sr sh r0 14)).2 = 20 := by rw [q0.2.2.2.2.2.2.2.2.2.2.2.2.2.2]
    have e0_2 : ∀ k, tg t1 (sr sh r0 2) k = tg t0 (sr sh r0 2) k := fun k => f0.eq q0 (i := 2) (by decide) (by decide) k
    try simp only [zt0, zt1, zt2, zt3, zt4, zt5, zt6, zt7, zt8, zt9, zt10, zt11, zt12, zt13, e0_2] at hv
    try simp only [zt0, zt1, zt2, zt3, zt4, zt5, zt6, zt7, zt8, zt9, zt10, zt11, zt12, zt13, e0_2] at hm
    rw [b191_31]
    try simp only [zput_s, zput_n, ti_g, oI_add, oI_sub, oI_mul]
    first | refine zok_ne (by omega) (fun c2 => ?_) (fun c2 => ?_) | refine zok_if (fun c2 => ?_) (fun c2 => ?_)
    · try simp only [zput_s, zput_n, ti_g, oI_add, oI_sub, oI_mul]
      exact l191_42 q0 (by omega) (by omega) (by omega) d2 d3 G _ _ (f0) (by first | omega | ((try simp only [zt0, zt1, zt2, zt3, zt4, zt5, zt6, zt7, zt8, zt9, zt10, zt11, zt12, zt13, e0_2]); omega)) (Nat.lt_succ_self _)
    · refine zok_ck ((q0).1) ?_
      refine zok_c0 (s190 (q0) (by omega) (by omega) (by first | (omega) | ((try simp only [zt0, zt1, zt2, zt3, zt4, zt5, zt6, zt7, zt8, zt9, zt10, zt11, zt12, zt13, e0_2]); omega)) (by first | (omega) | ((try simp only [zt0, zt1, zt2, zt3, zt4, zt5, zt6, zt7, zt8, zt9, zt10, zt11, zt12, zt13, e0_2]); omega)) (f0.g)) (fun t3 p3 => ?_)
      obtain ⟨f3, p3⟩ := p3
      have e3_2 : ∀ k, tg t3 (sr sh r0 2) k = tg t1 (sr sh r0 2) k := fun k => f3.eq q0 (i := 2) (by decide) (by decide) k
      have e3_3 : ∀ k, tg t3 (sr sh r0 3) k = tg t1 (sr sh r0 3) k := fun k => f3.eq q0 (i := 3) (by decide) (by decide) k
      have e3_4 : ∀ k, tg t3 (sr sh r0 4) k = tg t1 (sr sh r0 4) k := fun k => f3.eq q0 (i := 4) (by decide) (by decide) k
      have e3_11 : ∀ k, tg t3 (sr sh r0 11) k = tg t1 (sr sh r0 11) k := fun k => f3.eq q0 (i := 11) (by decide) (by decide) k
      try simp only [zt0, zt1, zt2, zt3, zt4, zt5, zt6, zt7, zt8, zt9, zt10, zt11, zt12, zt13, e0_2, e3_2, e3_3, e3_4, e3_11] at p3
      have hL3_0 := p3.2 0 (by decide)
      try simp only [zt0, zt1, zt2, zt3, zt4, zt5, zt6, zt7, zt8, zt9, zt10, zt11, zt12, zt13, e0_2, e3_2, e3_3, e3_4, e3_11] at hL3_0
      have hL3_1 := p3.2 1 (by decide)
      try simp only [zt0, zt1, zt2, zt3, zt4, zt5, zt6, zt7, zt8, zt9, zt10, zt11, zt12, zt13, e0_2, e3_2, e3_3, e3_4, e3_11] at hL3_1
      have hL3_2 := p3.2 2 (by decide)
      try simp only [zt0, zt1, zt2, zt3, zt4, zt5, zt6, zt7, zt8, zt9, zt10, zt11, zt12, zt13, e0_2, e3_2, e3_3, e3_4, e3_11] at hL3_2
      have hL3_3 := p3.2 3 (by decide)
      try simp only [zt0, zt1, zt2, zt3, zt4, zt5, zt6, zt7, zt8, zt9, zt10, zt11, zt12, zt13, e0_2, e3_2, e3_3, e3_4, e3_11] at hL3_3
      have hL3_4 := p3.2 5 (by decide)
      try simp only [zt0, zt1, zt2, zt3, zt4, zt5, zt6, zt7, zt8, zt9, zt10, zt11, zt12, zt13, e0_2, e3_2, e3_3, e3_4, e3_11] at hL3_4
      have hL3_5 := p3.2 6 (by decide)
      try simp only [zt0, zt1, zt2, zt3, zt4, zt5, zt6, zt7, zt8, zt9, zt10, zt11, zt12, zt13, e0_2, e3_2, e3_3, e3_4, e3_11] at hL3_5
      try simp only [zput_s, zput_n, ti_g, oI_add, oI_sub, oI_mul]
      exact l191_42 q0 (by omega) (by omega) (by omega) d2 d3 G _ _ ((FrV.trans (Ns := [3, 4, 9, 10, 11]) (f0) f3 (by decide) (by decide))) (by first | omega | ((try simp only [zt0, zt1, zt2, zt3, zt4, zt5, zt6, zt7, zt8, zt9, zt10, zt11, zt12, zt13, e0_2, e3_2, e3_3, e3_4, e3_11]); omega)) (Nat.lt_succ_self _)
theorem s191 {sh : zSh} {t : zSt} {MB : Nat} {r0 : Nat} (q0 : zMd sh MB r0) {x1 : Int} (u1 : -2147483648 ≤ x1 ∧ x1 ≤ 2147483647) {x2 : Int} (u2 : -2147483648 ≤ x2 ∧ x2 ≤ 2147483647) {x3 : Int} (u3 : -2147483648 ≤ x3 ∧ x3 ≤ 2147483647) (d2 : 0 ≤ x2 ∧ x2 ≤ 7) (d3 : 0 ≤ x3 ∧ x3 ≤ 7) (G : GI sh r0 t) : zok (zcl zP 191 [zR r0, zI (oI x1), zI (oI x2), zI (oI x3)] (sh, t)) (zq0 (fun t' => FrV sh r0 [3, 4, 9, 10, 11] t t' ∧ (tg t' (sr sh r0 10) 0 ≤ 401 ∧ tg t' (sr sh r0 10) 1 ≤ 401 ∧ tg t' (sr sh r0 10) 2 ≤ 401 ∧ tg t' (sr sh r0 10) 3 ≤ 401 ∧ tg t' (sr sh r0 10) 4 ≤ 1610 ∧ tg t' (sr sh r0 10) 5 ≤ 401 ∧ tg t' (sr sh r0 10) 6 ≤ 401)) sh) := by
  have ha0_1 : (sk sh (sr sh r0 1)).2 = 21000 := by rw [q0.2.2.2.2.1]
  have ha0_2 : (sk sh (sr sh r0 2)).2 = 14 := by rw [q0.2.2.2.2.2.1]
  have ha0_3 : (sk sh (sr sh r0 3)).2 = 98 := by rw [q0.2.2.2.2.2.2.1]
  have ha0_4 : (sk sh (sr sh r0 4)).2 = 98 := by rw [q0.2.2.2.2.2.2.2.1]
  have ha0_8 : (sk sh (sr sh r0 8)).2 = 1500 := by rw [q0.2.2.2.2.2.2.2.2.1]
  have ha0_9 : (sk sh (sr sh r0 9)).2 = 10500 := by rw [q0.2.2.2.2.2.2.2.2.2.1]
  have ha0_10 : (sk sh (sr sh r0 10)).2 = 7 := by rw [q0.2.2.2.2.2.2.2.2.2.2.1]
  have ha0_11 : (sk sh (sr sh r0 11)).2 = 7 := by rw [q0.2.2.2.2.2.2.2.2.2.2.2.1]
  have ha0_12 : (sk sh (sr sh r0 12)).2 = 1500 := by rw [q0.2.2.2.2.2.2.2.2.2.2.2.2.1]
  have ha0_13 : (sk sh (sr sh r0 13)).2 = 1500 := by rw [q0.2.2.2.2.2.2.2.2.2.2.2.2.2.1]
  have ha0_14 : (sk sh (sr sh r0 14)).2 = 20 := by rw [q0.2.2.2.2.2.2.2.2.2.2.2.2.2.2]
  have gz := G.1 (x2).toNat (by omega)
  have gy := G.1 (x3).toNat (by omega)
  rw [b191_0]
  try simp only [zput_s, zput_n, ti_g, oI_add, oI_sub, oI_mul]
  refine zok_ck ((q0).1) ?_
  refine zok_c0 (s138 (q0) (by omega) (by first | (omega) | ((try simp only [zt0, zt1, zt2, zt3, zt4, zt5, zt6, zt7, zt8, zt9, zt10, zt11, zt12, zt13]); omega)) (by first | (omega) | ((try simp only [zt0, zt1, zt2, zt3, zt4, zt5, zt6, zt7, zt8, zt9, zt10, zt11, zt12, zt13]); omega)) (G)) (fun t5 p5 => ?_)
  obtain ⟨f5, p5⟩ := p5
  have e5_2 : ∀ k, tg t5 (sr sh r0 2) k = tg t (sr sh r0 2) k := fun k => f5.eq q0 (i := 2) (by decide) (by decide) k
  have e5_10 : ∀ k, tg t5 (sr sh r0 10) k = tg t (sr sh r0 10) k := fun k => f5.eq q0 (i := 10) (by decide) (by decide) k
  have e5_11 : ∀ k, tg t5 (sr sh r0 11) k = tg t (sr sh r0 11) k := fun k => f5.eq q0 (i := 11) (by decide) (by decide) k
  try simp only [zt0, zt1, zt2, zt3, zt4, zt5, zt6, zt7, zt8, zt9, zt10, zt11, zt12, zt13, e5_2, e5_10, e5_11] at p5
  simp only [zput_s, zput_n, ti_g, oI_add, oI_sub, oI_mul, zt0, zt1, zt2, zt3, zt4, zt5, zt6, zt7, zt8, zt9, zt10, zt11, zt12, zt13, e5_2, e5_10, e5_11, b191_5]
  try simp only [zput_s, zput_n, ti_g, oI_add, oI_sub, oI_mul]
  refine zok_ck ((q0).1) ?_
  refine zok_c0 (s138 (q0) (by omega) (by first | (omega) | ((try simp only [zt0, zt1, zt2, zt3, zt4, zt5, zt6, zt7, zt8, zt9, zt10, zt11, zt12, zt13, e5_2, e5_10, e5_11]); omega)) (by first | (omega) | ((try simp only [zt0, zt1, zt2, zt3, zt4, zt5, zt6, zt7, zt8, zt9, zt10, zt11, zt12, zt13, e5_2, e5_10, e5_11]); omega)) (f5.g)) (fun t7 p7 => ?_)
  obtain ⟨f7, p7⟩ := p7
  have e7_2 : ∀ k, tg t7 (sr sh r0 2) k = tg t5 (sr sh r0 2) k := fun k => f7.eq q0 (i := 2) (by decide) (by decide) k
  have e7_10 : ∀ k, tg t7 (sr sh r0 10) k = tg t5 (sr sh r0 10) k := fun k => f7.eq q0 (i := 10) (by decide) (by decide) k
  have e7_11 : ∀ k, tg t7 (sr sh r0 11) k = tg t5 (sr sh r0 11) k := fun k => f7.eq q0 (i := 11) (by decide) (by decide) k
  try simp only [zt0, zt1, zt2, zt3, zt4, zt5, zt6, zt7, zt8, zt9, zt10, zt11, zt12, zt13, e5_2, e5_10, e5_11, e7_2, e7_10, e7_11] at p7
  simp only [zput_s, zput_n, ti_g, oI_add, oI_sub, oI_mul, zt0, zt1, zt2, zt3, zt4, zt5, zt6, zt7, zt8, zt9, zt10, zt11, zt12, zt13, e5_2, e5_10, e5_11, e7_2, e7_10, e7_11, b191_10]
  try simp only [zput_s, zput_n, ti_g, oI_add, oI_sub, oI_mul]
  refine zok_ck ((q0).1) ?_
  refine zok_c0 (s155 (q0) (f7.g)) (fun t9 p9 => ?_)
  obtain ⟨f9, p9⟩ := p9
  have e9_2 : ∀ k, tg t9 (sr sh r0 2) k = tg t7 (sr sh r0 2) k := fun k => f9.eq q0 (i := 2) (by decide) (by decide) k
  have e9_3 : ∀ k, tg t9 (sr sh r0 3) k = tg t7 (sr sh r0 3) k := fun k => f9.eq q0 (i := 3) (by decide) (by decide) k
  have e9_4 : ∀ k, tg t9 (sr sh r0 4) k = tg t7 (sr sh r0 4) k := fun k => f9.eq q0 (i := 4) (by decide) (by decide) k
  try simp only [zt0, zt1, zt2, zt3, zt4, zt5, zt6, zt7, zt8, zt9, zt10, zt11, zt12, zt13, e5_2, e5_10, e5_11, e7_2, e7_10, e7_11, e9_2, e9_3, e9_4] at p9
  have hL9_0 := p9 0 (by decide)
  try simp only [zt0, zt1, zt2, zt3, zt4, zt5, zt6, zt7, zt8, zt9, zt10, zt11, zt12, zt13, e5_2, e5_10, e5_11, e7_2, e7_10, e7_11, e9_2, e9_3, e9_4] at hL9_0
  have hL9_1 := p9 1 (by decide)
  try simp only [zt0, zt1, zt2, zt3, zt4, zt5, zt6, zt7, zt8, zt9, zt10, zt11, zt12, zt13, e5_2, e5_10, e5_11, e7_2, e7_10, e7_11, e9_2, e9_3, e9_4] at hL9_1
  have hL9_2 := p9 2 (by decide)
  try simp only [zt0, zt1, zt2, zt3, zt4, zt5, zt6, zt7, zt8, zt9, zt10, zt11, zt12, zt13, e5_2, e5_10, e5_11, e7_2, e7_10, e7_11, e9_2, e9_3, e9_4] at hL9_2
  have hL9_3 := p9 3 (by decide)
  try simp only [zt0, zt1, zt2, zt3, zt4, zt5, zt6, zt7, zt8, zt9, zt10, zt11, zt12, zt13, e5_2, e5_10, e5_11, e7_2, e7_10, e7_11, e9_2, e9_3, e9_4] at hL9_3
  have hL9_4 := p9 4 (by decide)
  try simp only [zt0, zt1, zt2, zt3, zt4, zt5, zt6, zt7, zt8, zt9, zt10, zt11, zt12, zt13, e5_2, e5_10, e5_11, e7_2, e7_10, e7_11, e9_2, e9_3, e9_4] at hL9_4
  have hL9_5 := p9 5 (by decide)
  try simp only [zt0, zt1, zt2, zt3, zt4, zt5, zt6, zt7, zt8, zt9, zt10, zt11, zt12, zt13, e5_2, e5_10, e5_11, e7_2, e7_10, e7_11, e9_2, e9_3, e9_4] at hL9_5
  have hL9_6 := p9 6 (by decide)
  try simp only [zt0, zt1, zt2, zt3, zt4, zt5, zt6, zt7, zt8, zt9, zt10, zt11, zt12, zt13, e5_2, e5_10, e5_11, e7_2, e7_10, e7_11, e9_2, e9_3, e9_4] at hL9_6
  simp only [zput_s, zput_n, ti_g, oI_add, oI_sub, oI_mul, zt0, zt1, zt2, zt3, zt4, zt5, zt6, zt7, zt8, zt9, zt10, zt11, zt12, zt13, e5_2, e5_10, e5_11, e7_2, e7_10, e7_11, e9_2, e9_3, e9_4, b191_14]
  try simp only [zput_s, zput_n, ti_g, oI_add, oI_sub, oI_mul]
  refine zok_ck ((q0).1) ?_
  have gq11_0 : -1 ≤ tg t9 (sr sh r0 3) (7 * x3 + 6).toNat ∧ tg t9 (sr sh r0 3) (7 * x3 + 6).toNat ≤ tg t9 (sr sh r0 4) (7 * x3 + 6).toNat ∧ tg t9 (sr sh r0 4) (7 * x3 + 6).toNat ≤ 400 := by have g := (f9.g).2.1 (7 * x3 + 6).toNat (by omega); exact ⟨g.1, g.2.1, g.2.2.2 (by omega)⟩
  try simp only [zt0, zt1, zt2, zt3, zt4, zt5, zt6, zt7, zt8, zt9, zt10, zt11, zt12, zt13, e5_2, e5_10, e5_11, e7_2, e7_10, e7_11, e9_2, e9_3, e9_4] at gq11_0
  refine zok_c0 (s153 (q0) (by omega) (by omega) (by first | (omega) | ((try simp only [zt0, zt1, zt2, zt3, zt4, zt5, zt6, zt7, zt8, zt9, zt10, zt11, zt12, zt13, e5_2, e5_10, e5_11, e7_2, e7_10, e7_11, e9_2, e9_3, e9_4]); omega)) (by first | (omega) | ((try simp only [zt0, zt1, zt2, zt3, zt4, zt5, zt6, zt7, zt8, zt9, zt10, zt11, zt12, zt13, e5_2, e5_10, e5_11, e7_2, e7_10, e7_11, e9_2, e9_3, e9_4]); omega)) (f9.g)) (fun t11 p11 => ?_)
  obtain ⟨f11, p11⟩ := p11
  have e11_2 : ∀ k, tg t11 (sr sh r0 2) k = tg t9 (sr sh r0 2) k := fun k => f11.eq q0 (i := 2) (by decide) (by decide) k
  have e11_3 : ∀ k, tg t11 (sr sh r0 3) k = tg t9 (sr sh r0 3) k := fun k => f11.eq q0 (i := 3) (by decide) (by decide) k
  have e11_4 : ∀ k, tg t11 (sr sh r0 4) k = tg t9 (sr sh r0 4) k := fun k => f11.eq q0 (i := 4) (by decide) (by decide) k
  try simp only [zt0, zt1, zt2, zt3, zt4, zt5, zt6, zt7, zt8, zt9, zt10, zt11, zt12, zt13, e5_2, e5_10, e5_11, e7_2, e7_10, e7_11, e9_2, e9_3, e9_4, e11_2, e11_3, e11_4] at p11
  have hL11_0 := p11.2.1 0 (by decide)
  try simp only [zt0, zt1, zt2, zt3, zt4, zt5, zt6, zt7, zt8, zt9, zt10, zt11, zt12, zt13, e5_2, e5_10, e5_11, e7_2, e7_10, e7_11, e9_2, e9_3, e9_4, e11_2, e11_3, e11_4] at hL11_0
  have hL11_1 := p11.2.2.2 0 (by decide)
  try simp only [zt0, zt1, zt2, zt3, zt4, zt5, zt6, zt7, zt8, zt9, zt10, zt11, zt12, zt13, e5_2, e5_10, e5_11, e7_2, e7_10, e7_11, e9_2, e9_3, e9_4, e11_2, e11_3, e11_4] at hL11_1
  have hL11_2 := p11.2.1 1 (by decide)
  try simp only [zt0, zt1, zt2, zt3, zt4, zt5, zt6, zt7, zt8, zt9, zt10, zt11, zt12, zt13, e5_2, e5_10, e5_11, e7_2, e7_10, e7_11, e9_2, e9_3, e9_4, e11_2, e11_3, e11_4] at hL11_2
  have hL11_3 := p11.2.2.2 1 (by decide)
  try simp only [zt0, zt1, zt2, zt3, zt4, zt5, zt6, zt7, zt8, zt9, zt10, zt11, zt12, zt13, e5_2, e5_10, e5_11, e7_2, e7_10, e7_11, e9_2, e9_3, e9_4, e11_2, e11_3, e11_4] at hL11_3
  have hL11_4 := p11.2.1 2 (by decide)
  try simp only [zt0, zt1, zt2, zt3, zt4, zt5, zt6, zt7, zt8, zt9, zt10, zt11, zt12, zt13, e5_2, e5_10, e5_11, e7_2, e7_10, e7_11, e9_2, e9_3, e9_4, e11_2, e11_3, e11_4] at hL11_4
  have hL11_5 := p11.2.2.2 2 (by decide)
  try simp only [zt0, zt1, zt2, zt3, zt4, zt5, zt6, zt7, zt8, zt9, zt10, zt11, zt12, zt13, e5_2, e5_10, e5_11, e7_2, e7_10, e7_11, e9_2, e9_3, e9_4, e11_2, e11_3, e11_4] at hL11_5
  have hL11_6 := p11.2.1 3 (by decide)
  try simp only [zt0, zt1, zt2, zt3, zt4, zt5, zt6, zt7, zt8, zt9, zt10, zt11, zt12, zt13, e5_2, e5_10, e5_11, e7_2, e7_10, e7_11, e9_2, e9_3, e9_4, e11_2, e11_3, e11_4] at hL11_6
  have hL11_7 := p11.2.2.2 3 (by decide)
  try simp only [zt0, zt1, zt2, zt3, zt4, zt5, zt6, zt7, zt8, zt9, zt10, zt11, zt12, zt13, e5_2, e5_10, e5_11, e7_2, e7_10, e7_11, e9_2, e9_3, e9_4, e11_2, e11_3, e11_4] at hL11_7
  have hL11_8 := p11.2.1 4 (by decide)
  try simp only [zt0, zt1, zt2, zt3, zt4, zt5, zt6, zt7, zt8, zt9, zt10, zt11, zt12, zt13, e5_2, e5_10, e5_11, e7_2, e7_10, e7_11, e9_2, e9_3, e9_4, e11_2, e11_3, e11_4] at hL11_8
  have hL11_9 := p11.2.2.2 4 (by decide)
  try simp only [zt0, zt1, zt2, zt3, zt4, zt5, zt6, zt7, zt8, zt9, zt10, zt11, zt12, zt13, e5_2, e5_10, e5_11, e7_2, e7_10, e7_11, e9_2, e9_3, e9_4, e11_2, e11_3, e11_4] at hL11_9
  have hL11_10 := p11.2.1 5 (by decide)
  try simp only [zt0, zt1, zt2, zt3, zt4, zt5, zt6, zt7, zt8, zt9, zt10, zt11, zt12, zt13, e5_2, e5_10, e5_11, e7_2, e7_10, e7_11, e9_2, e9_3, e9_4, e11_2, e11_3, e11_4] at hL11_10
  have hL11_11 := p11.2.2.2 5 (by decide)
  try simp only [zt0, zt1, zt2, zt3, zt4, zt5, zt6, zt7, zt8, zt9, zt10, zt11, zt12, zt13, e5_2, e5_10, e5_11, e7_2, e7_10, e7_11, e9_2, e9_3, e9_4, e11_2, e11_3, e11_4] at hL11_11
  simp only [zput_s, zput_n, ti_g, oI_add, oI_sub, oI_mul, zt0, zt1, zt2, zt3, zt4, zt5, zt6, zt7, zt8, zt9, zt10, zt11, zt12, zt13, e5_2, e5_10, e5_11, e7_2, e7_10, e7_11, e9_2, e9_3, e9_4, e11_2, e11_3, e11_4, b191_21]
  try simp only [zput_s, zput_n, ti_g, oI_add, oI_sub, oI_mul]
  first | refine zok_le (by omega) (fun c13 => ?_) (fun c13 => ?_) | refine zok_if (fun c13 => ?_) (fun c13 => ?_)
  · try simp only [zput_s, zput_n, ti_g, oI_add, oI_sub, oI_mul]
    exact l191_31 q0 (by omega) (by omega) (by omega) d2 d3 G _ _ ((FrV.trans (Ns := [3, 4, 9, 10, 11]) ((FrV.trans (Ns := [3, 4, 9, 10, 11]) ((FrV.trans (Ns := [3, 4, 9, 10, 11]) ((FrV.trans (Ns := [3, 4, 9, 10, 11]) (FrV.refl (Ls := []) G) f5 (by decide) (by decide))) f7 (by decide) (by decide))) f9 (by decide) (by decide))) f11 (by decide) (by decide))) (by first | omega | ((try simp only [zt0, zt1, zt2, zt3, zt4, zt5, zt6, zt7, zt8, zt9, zt10, zt11, zt12, zt13, e5_2, e5_10, e5_11, e7_2, e7_10, e7_11, e9_2, e9_3, e9_4, e11_2, e11_3, e11_4]); omega)) (Nat.lt_succ_self _)
  · refine zok_ck ((q0).1) ?_
    have gq14_0 : -1 ≤ tg t11 (sr sh r0 3) (7 * x3 + 5).toNat ∧ tg t11 (sr sh r0 3) (7 * x3 + 5).toNat ≤ tg t11 (sr sh r0 4) (7 * x3 + 5).toNat ∧ tg t11 (sr sh r0 4) (7 * x3 + 5).toNat ≤ 400 := by have g := (f11.g).2.1 (7 * x3 + 5).toNat (by omega); exact ⟨g.1, g.2.1, g.2.2.2 (by omega)⟩
    try simp only [zt0, zt1, zt2, zt3, zt4, zt5, zt6, zt7, zt8, zt9, zt10, zt11, zt12, zt13, e5_2, e5_10, e5_11, e7_2, e7_10, e7_11, e9_2, e9_3, e9_4, e11_2, e11_3, e11_4] at gq14_0
    refine zok_c0 (s153 (q0) (by omega) (by omega) (by first | (omega) | ((try simp only [zt0, zt1, zt2, zt3, zt4, zt5, zt6, zt7, zt8, zt9, zt10, zt11, zt12, zt13, e5_2, e5_10, e5_11, e7_2, e7_10, e7_11, e9_2, e9_3, e9_4, e11_2, e11_3, e11_4]); omega)) (by first | (omega) | ((try simp only [zt0, zt1, zt2, zt3, zt4, zt5, zt6, zt7, zt8, zt9, zt10, zt11, zt12, zt13, e5_2, e5_10, e5_11, e7_2, e7_10, e7_11, e9_2, e9_3, e9_4, e11_2, e11_3, e11_4]); omega)) (f11.g)) (fun t14 p14 => ?_)
    obtain ⟨f14, p14⟩ := p14
    have e14_2 : ∀ k, tg t14 (sr sh r0 2) k = tg t11 (sr sh r0 2) k := fun k => f14.eq q0 (i := 2) (by decide) (by decide) k
    have e14_3 : ∀ k, tg t14 (sr sh r0 3) k = tg t11 (sr sh r0 3) k := fun k => f14.eq q0 (i := 3) (by decide) (by decide) k
    have e14_4 : ∀ k, tg t14 (sr sh r0 4) k = tg t11 (sr sh r0 4) k := fun k => f14.eq q0 (i := 4) (by decide) (by decide) k
    try simp only [zt0, zt1, zt2, zt3, zt4, zt5, zt6, zt7, zt8, zt9, zt10, zt11, zt12, zt13, e5_2, e5_10, e5_11, e7_2, e7_10, e7_11, e9_2, e9_3, e9_4, e11_2, e11_3, e11_4, e14_2, e14_3, e14_4] at p14
    have hL14_0 := p14.2.1 0 (by decide)
    try simp only [zt0, zt1, zt2, zt3, zt4, zt5, zt6, zt7, zt8, zt9, zt10, zt11, zt12, zt13, e5_2, e5_10, e5_11, e7_2, e7_10, e7_11, e9_2, e9_3, e9_4, e11_2, e11_3, e11_4, e14_2, e14_3, e14_4] at hL14_0
    have hL14_1 := p14.2.2.2 0 (by decide)
    try simp only [zt0, zt1, zt2, zt3, zt4, zt5, zt6, zt7, zt8, zt9, zt10, zt11, zt12, zt13, e5_2, e5_10, e5_11, e7_2, e7_10, e7_11, e9_2, e9_3, e9_4, e11_2, e11_3, e11_4, e14_2, e14_3, e14_4] at hL14_1
    have hL14_2 := p14.2.1 1 (by decide)
    try simp only [zt0, zt1, zt2, zt3, zt4, zt5, zt6, zt7, zt8, zt9, zt10, zt11, zt12, zt13, e5_2, e5_10, e5_11, e7_2, e7_10, e7_11, e9_2, e9_3, e9_4, e11_2, e11_3, e11_4, e14_2, e14_3, e14_4] at hL14_2
    have hL14_3 := p14.2.2.2 1 (by decide)
    try simp only [zt0, zt1, zt2, zt3, zt4, zt5, zt6, zt7, zt8, zt9, zt10, zt11, zt12, zt13, e5_2, e5_10, e5_11, e7_2, e7_10, e7_11, e9_2, e9_3, e9_4, e11_2, e11_3, e11_4, e14_2, e14_3, e14_4] at hL14_3
    have hL14_4 := p14.2.1 2 (by decide)
    try simp only [zt0, zt1, zt2, zt3, zt4, zt5, zt6, zt7, zt8, zt9, zt10, zt11, zt12, zt13, e5_2, e5_10, e5_11, e7_2, e7_10, e7_11, e9_2, e9_3, e9_4, e11_2, e11_3, e11_4, e14_2, e14_3, e14_4] at hL14_4
    have hL14_5 := p14.2.2.2 2 (by decide)
    try simp only [zt0, zt1, zt2, zt3, zt4, zt5, zt6, zt7, zt8, zt9, zt10, zt11, zt12, zt13, e5_2, e5_10, e5_11, e7_2, e7_10, e7_11, e9_2, e9_3, e9_4, e11_2, e11_3, e11_4, e14_2, e14_3, e14_4] at hL14_5
    have hL14_6 := p14.2.1 3 (by decide)
    try simp only [zt0, zt1, zt2, zt3, zt4, zt5, zt6, zt7, zt8, zt9, zt10, zt11, zt12, zt13, e5_2, e5_10, e5_11, e7_2, e7_10, e7_11, e9_2, e9_3, e9_4, e11_2, e11_3, e11_4, e14_2, e14_3, e14_4] at hL14_6
    have hL14_7 := p14.2.2.2 3 (by decide)
    try simp only [zt0, zt1, zt2, zt3, zt4, zt5, zt6, zt7, zt8, zt9, zt10, zt11, zt12, zt13, e5_2, e5_10, e5_11, e7_2, e7_10, e7_11, e9_2, e9_3, e9_4, e11_2, e11_3, e11_4, e14_2, e14_3, e14_4] at hL14_7
    have hL14_8 := p14.2.1 4 (by decide)
    try simp only [zt0, zt1, zt2, zt3, zt4, zt5, zt6, zt7, zt8, zt9, zt10, zt11, zt12, zt13, e5_2, e5_10, e5_11, e7_2, e7_10, e7_11, e9_2, e9_3, e9_4, e11_2, e11_3, e11_4, e14_2, e14_3, e14_4] at hL14_8
    have hL14_9 := p14.2.2.2 4 (by decide)
    try simp only [zt0, zt1, zt2, zt3, zt4, zt5, zt6, zt7, zt8, zt9, zt10, zt11, zt12, zt13, e5_2, e5_10, e5_11, e7_2, e7_10, e7_11, e9_2, e9_3, e9_4, e11_2, e11_3, e11_4, e14_2, e14_3, e14_4] at hL14_9
    have hL14_10 := p14.2.1 6 (by decide)
    try simp only [zt0, zt1, zt2, zt3, zt4, zt5, zt6, zt7, zt8, zt9, zt10, zt11, zt12, zt13, e5_2, e5_10, e5_11, e7_2, e7_10, e7_11, e9_2, e9_3, e9_4, e11_2, e11_3, e11_4, e14_2, e14_3, e14_4] at hL14_10
    have hL14_11 := p14.2.2.2 6 (by decide)
    try simp only [zt0, zt1, zt2, zt3, zt4, zt5, zt6, zt7, zt8, zt9, zt10, zt11, zt12, zt13, e5_2, e5_10, e5_11, e7_2, e7_10, e7_11, e9_2, e9_3, e9_4, e11_2, e11_3, e11_4, e14_2, e14_3, e14_4] at hL14_11
    try simp only [zput_s, zput_n, ti_g, oI_add, oI_sub, oI_mul]
    exact l191_31 q0 (by omega) (by omega) (by omega) d2 d3 G _ _ ((FrV.trans (Ns := [3, 4, 9, 10, 11]) ((FrV.trans (Ns := [3, 4, 9, 10, 11]) ((FrV.trans (Ns := [3, 4, 9, 10, 11]) ((FrV.trans (Ns := [3, 4, 9, 10, 11]) ((FrV.trans (Ns := [3, 4, 9, 10, 11]) (FrV.refl (Ls := []) G) f5 (by decide) (by decide))) f7 (by decide) (by decide))) f9 (by decide) (by decide))) f11 (by decide) (by decide))) f14 (by decide) (by decide))) (by first | omega | ((try simp only [zt0, zt1, zt2, zt3, zt4, zt5, zt6, zt7, zt8, zt9, zt10, zt11, zt12, zt13, e5_2, e5_10, e5_11, e7_2, e7_10, e7_11, e9_2, e9_3, e9_4, e11_2, e11_3, e11_4, e14_2, e14_3, e14_4]); omega)) (Nat.lt_succ_self _)
/-! X9_holds -/
theorem l188_51 {sh : zSh} {t0 : zSt} {MB : Nat} {r0 : Nat} (q0 : zMd sh MB r0) (d1 : zJs sh r0 t0 7 ≤ 4500) (G : GI sh r0 t0) : ∀ (n : Nat) (x1 : Int) (x2 : Int) (x3 : Int) (x4 : Int)  (t1 : zSt), FrV sh r0 [0, 1, 2, 3, 4, 14] t0 t1 → (-2147483648 ≤ x1 ∧ x1 ≤ 2147483647) ∧ (-2147483648 ≤ x2 ∧ x2 ≤ 2147483647) ∧ (-2147483648 ≤ x3 ∧ x3 ≤ 2147483647) ∧ (-2147483648 ≤ x4 ∧ x4 ≤ 2147483647) ∧ (x3 = 0 ∨ x3 = 1) ∧ (0 ≤ x4 ∧ x4 ≤ 7) ∧ (tg t1 (sr sh r0 2) 11 ≤ 400) → (∀ k, k ≠ 11 → tg t1 (sr sh r0 2) k = tg t0 (sr sh r0 2) k) → (7 - x4).toNat < n → zok (zev zP 188 51 [some (zR r0), some (zI (oI x1)), some (zI (oI x2)), some (zI (oI x3)), some (zI (oI x4))] [] (sh, t1)) (qI (fun x t' => FrV sh r0 [0, 1, 2, 3, 4, 14] t0 t' ∧ ((x = 0 ∨ x = 1) ∧ (x = 1 → tg t' (sr sh r0 2) 11 ≤ 400) ∧ ∀ k, k ≠ 11 → tg t' (sr sh r0 2) k = tg t0 (sr sh r0 2) k)) sh) := by
  intro n
  induction n with
  | zero => intro x1 x2 x3 x4  t1 f0 _ _ hm; omega
  | succ n ih =>
    intro x1 x2 x3 x4  t1 f0 hv hq1 hm
    have ha0_1 : (sk sh (sr sh r0 1)).2 = 21000 := by rw [q0.2.2.2.2.1]
    have ha0_2 : (sk sh (sr sh r0 2)).2 = 14 := by rw [q0.2.2.2.2.2.1]
    have ha0_3 : (sk sh (sr sh r0 3)).2 = 98 := by rw [q0.2.2.2.2.2.2.1]
    have ha0_4 : (sk sh (sr sh r0 4)).2 = 98 := by rw [q0.2.2.2.2.2.2.2.1]
    have ha0_8 : (sk sh (sr sh r0 8)).2 = 1500 := by rw [q0.2.2.2.2.2.2.2.2.1]
    have ha0_9 : (sk sh (sr sh r0 9)).2 = 10500 := by rw [q0.2.2.2.2.2.2.2.2.2.1]
    have ha0_10 : (sk sh (sr sh r0 10)).2 = 7 := by rw [q0.2.2.2.2.2.2.2.2.2.2.1]
    have ha0_11 : (sk sh (sr sh r0 11)).2 = 7 := by rw [q0.2.2.2.2.2.2.2.2.2.2.2.1]
    have ha0_12 : (sk sh (sr sh r0 12)).2 = 1500 := by rw [q0.2.2.2.2.2.2.2.2.2.2.2.2.1]
    have ha0_13 : (sk sh (sr sh r0 13)).2 = 1500 := by rw [q0.2.2.2.2.2.2.2.2.2.2.2.2.2.1]
    have ha0_14 : (sk sh (sr sh r0 14)).2 = 20 := by rw [q0.2.2.2.2.2.2.2.2.2.2.2.2.2.2]
    have e0_10 : ∀ k, tg t1 (sr sh r0 10) k = tg t0 (sr sh r0 10) k := fun k => f0.eq q0 (i := 10) (by decide) (by decide) k
    have e0_11 : ∀ k, tg t1 (sr sh r0 11) k = tg t0 (sr sh r0 11) k := fun k => f0.eq q0 (i := 11) (by decide) (by decide) k
    try simp only [zt0, zt1, zt2, zt3, zt4, zt5, zt6, zt7, zt8, zt9, zt10, zt11, zt12, zt13, e0_10, e0_11] at hv
    try simp only [zt0, zt1, zt2, zt3, zt4, zt5, zt6, zt7, zt8, zt9, zt10, zt11, zt12, zt13, e0_10, e0_11] at hm
    rw [b188_51]
    try simp only [zput_s, zput_n, ti_g, oI_add, oI_sub, oI_mul]
    first | refine zok_le (by omega) (fun c2 => ?_) (fun c2 => ?_) | refine zok_if (fun c2 => ?_) (fun c2 => ?_)
    · refine zok_ck (by first | exact fun _ => bool_p (by omega) | exact bool_p (by omega)) ?_
      first | exact qI_rt (by omega) (by omega) ⟨f0, ⟨by omega, by omega, fun k hk => by ((try have c0 := hq1 k hk); (try have c0 := hq1 k); (try simp only [zt0, zt1, zt2, zt3, zt4, zt5, zt6, zt7, zt8, zt9, zt10, zt11, zt12, zt13] at *) <;> omega)⟩⟩ | exact qI_nf ⟨f0, ⟨by omega, by omega, fun k hk => by ((try have c0 := hq1 k hk); (try have c0 := hq1 k); (try simp only [zt0, zt1, zt2, zt3, zt4, zt5, zt6, zt7, zt8, zt9, zt10, zt11, zt12, zt13] at *) <;> omega)⟩⟩
    · first | refine zok_eq (by omega) (fun c3 => ?_) (fun c3 => ?_) | refine zok_if (fun c3 => ?_) (fun c3 => ?_)
      · refine zok_ck (by first | exact fun _ => bool_p (by omega) | exact bool_p (by omega)) ?_
        first | exact qI_rt (by omega) (by omega) ⟨f0, ⟨by omega, by omega, fun k hk => by ((try have c0 := hq1 k hk); (try have c0 := hq1 k); (try simp only [zt0, zt1, zt2, zt3, zt4, zt5, zt6, zt7, zt8, zt9, zt10, zt11, zt12, zt13] at *) <;> omega)⟩⟩ | exact qI_nf ⟨f0, ⟨by omega, by omega, fun k hk => by ((try have c0 := hq1 k hk); (try have c0 := hq1 k); (try simp only [zt0, zt1, zt2, zt3, zt4, zt5, zt6, zt7, zt8, zt9, zt10, zt11, zt12, zt13] at *) <;> omega)⟩⟩
      · refine zok_ck ((q0).1) ?_
        refine zok_pI (s134 (q0) (by omega) (by omega) (by first | (omega) | ((try simp only [zt0, zt1, zt2, zt3, zt4, zt5, zt6, zt7, zt8, zt9, zt10, zt11, zt12, zt13, e0_10, e0_11]); omega)) (by first | (omega) | ((try simp only [zt0, zt1, zt2, zt3, zt4, zt5, zt6, zt7, zt8, zt9, zt10, zt11, zt12, zt13, e0_10, e0_11]); omega)) (f0.g)) (fun y4 u4 p4 => ?_)
        try simp only [zt0, zt1, zt2, zt3, zt4, zt5, zt6, zt7, zt8, zt9, zt10, zt11, zt12, zt13, e0_10, e0_11] at p4
        simp only [zput_s, zput_n, ti_g, oI_add, oI_sub, oI_mul, zt0, zt1, zt2, zt3, zt4, zt5, zt6, zt7, zt8, zt9, zt10, zt11, zt12, zt13, e0_10, e0_11, b188_70]
        try simp only [zput_s, zput_n, ti_g, oI_add, oI_sub, oI_mul]
        refine zok_ck ((q0).1) ?_
        refine zok_ck ⟨Or.inr (by rw [(q0).2.2.2.2.2.2.2.2.2.2.2.1]), zin_o (by omega) (by omega) (by omega)⟩ ?_
        try rw [nN_o (a := x4) (by omega) (by omega)]
        try simp only [zput_s, zput_n, ti_g, oI_add, oI_sub, oI_mul, zt0, zt1, zt2, zt3, zt4, zt5, zt6, zt7, zt8, zt9, zt10, zt11, zt12, zt13, e0_10, e0_11]
        have gl6 := And.intro (tg_lo t1 (sr sh r0 11) ((x4).toNat)) (tg_hi t1 (sr sh r0 11) ((x4).toNat))
        have gm6 := (f0.g).2.2.2.1 ((x4).toNat) (by omega)
        try simp only [zt0, zt1, zt2, zt3, zt4, zt5, zt6, zt7, zt8, zt9, zt10, zt11, zt12, zt13, e0_10, e0_11] at gl6
        try simp only [zt0, zt1, zt2, zt3, zt4, zt5, zt6, zt7, zt8, zt9, zt10, zt11, zt12, zt13, e0_10, e0_11] at gm6
        first | refine zok_ne (by omega) (fun c7 => ?_) (fun c7 => ?_) | refine zok_if (fun c7 => ?_) (fun c7 => ?_)
        · try simp only [zput_s, zput_n, ti_g, oI_add, oI_sub, oI_mul]
          exact ih _ _ _ _ _ (f0) (by first | omega | ((try simp only [zt0, zt1, zt2, zt3, zt4, zt5, zt6, zt7, zt8, zt9, zt10, zt11, zt12, zt13, e0_10, e0_11]); omega)) (fun k hk => by ((try have c0 := hq1 k hk); (try have c0 := hq1 k); (try simp only [zt0, zt1, zt2, zt3, zt4, zt5, zt6, zt7, zt8, zt9, zt10, zt11, zt12, zt13] at *) <;> omega)) (by first | omega | ((try simp only [zt0, zt1, zt2, zt3, zt4, zt5, zt6, zt7, zt8, zt9, zt10, zt11, zt12, zt13, e0_10, e0_11]); omega))
        · refine zok_ck ((q0).1) ?_
          refine zok_ck ⟨Or.inr (by rw [(q0).2.2.2.2.2.2.2.2.2.2.2.1]), zin_o (by omega) (by omega) (by omega)⟩ ?_
          try rw [nN_o (a := x4) (by omega) (by omega)]
          try simp only [zput_s, zput_n, ti_g, oI_add, oI_sub, oI_mul, zt0, zt1, zt2, zt3, zt4, zt5, zt6, zt7, zt8, zt9, zt10, zt11, zt12, zt13, e0_10, e0_11]
          have gl8 := And.intro (tg_lo t1 (sr sh r0 11) ((x4).toNat)) (tg_hi t1 (sr sh r0 11) ((x4).toNat))
          have gm8 := (f0.g).2.2.2.1 ((x4).toNat) (by omega)
          try simp only [zt0, zt1, zt2, zt3, zt4, zt5, zt6, zt7, zt8, zt9, zt10, zt11, zt12, zt13, e0_10, e0_11] at gl8
          try simp only [zt0, zt1, zt2, zt3, zt4, zt5, zt6, zt7, zt8, zt9, zt10, zt11, zt12, zt13, e0_10, e0_11] at gm8
          first | refine zok_eq (by omega) (fun c9 => ?_) (fun c9 => ?_) | refine zok_if (fun c9 => ?_) (fun c9 => ?_)
          · try simp only [zput_s, zput_n, ti_g, oI_add, oI_sub, oI_mul]
            exact ih _ _ _ _ _ (f0) (by first | omega | ((try simp only [zt0, zt1, zt2, zt3, zt4, zt5, zt6, zt7, zt8, zt9, zt10, zt11, zt12, zt13, e0_10, e0_11]); omega)) (fun k hk => by ((try have c0 := hq1 k hk); (try have c0 := hq1 k); (try simp only [zt0, zt1, zt2, zt3, zt4, zt5, zt6, zt7, zt8, zt9, zt10, zt11, zt12, zt13] at *) <;> omega)) (by first | omega | ((try simp only [zt0, zt1, zt2, zt3, zt4, zt5, zt6, zt7, zt8, zt9, zt10, zt11, zt12, zt13, e0_10, e0_11]); omega))
          · refine zok_ck ((q0).1) ?_
            refine zok_pI (s135 (q0) (by omega) (by omega) (by first | (omega) | ((try simp only [zt0, zt1, zt2, zt3, zt4, zt5, zt6, zt7, zt8, zt9, zt10, zt11, zt12, zt13, e0_10, e0_11]); omega)) (by first | (omega) | ((try simp only [zt0, zt1, zt2, zt3, zt4, zt5, zt6, zt7, zt8, zt9, zt10, zt11, zt12, zt13, e0_10, e0_11]); omega)) (f0.g)) (fun y10 u10 p10 => ?_)
            try simp only [zt0, zt1, zt2, zt3, zt4, zt5, zt6, zt7, zt8, zt9, zt10, zt11, zt12, zt13, e0_10, e0_11] at p10
            simp only [zput_s, zput_n, ti_g, oI_add, oI_sub, oI_mul, zt0, zt1, zt2, zt3, zt4, zt5, zt6, zt7, zt8, zt9, zt10, zt11, zt12, zt13, e0_10, e0_11, b188_98]
            try simp only [zput_s, zput_n, ti_g, oI_add, oI_sub, oI_mul]
            refine zok_ck ((q0).1) ?_
            refine zok_ck ⟨(by rw [(q0).2.2.2.2.2.2.2.2.2.2.1]), zin_o (by omega) (by omega) (by omega)⟩ ?_
            try rw [nN_o (a := x4) (by omega) (by omega)]
            try simp only [zput_s, zput_n, ti_g, oI_add, oI_sub, oI_mul, zt0, zt1, zt2, zt3, zt4, zt5, zt6, zt7, zt8, zt9, zt10, zt11, zt12, zt13, e0_10, e0_11]
            have gl12 := And.intro (tg_lo t1 (sr sh r0 10) ((x4).toNat)) (tg_hi t1 (sr sh r0 10) ((x4).toNat))
            have gm12 := (f0.g).2.2.1 ((x4).toNat) (by omega)
            try simp only [zt0, zt1, zt2, zt3, zt4, zt5, zt6, zt7, zt8, zt9, zt10, zt11, zt12, zt13, e0_10, e0_11] at gl12
            try simp only [zt0, zt1, zt2, zt3, zt4, zt5, zt6, zt7, zt8, zt9, zt10, zt11, zt12, zt13, e0_10, e0_11] at gm12
            first | refine zok_ne (by omega) (fun c13 => ?_) (fun c13 => ?_) | refine zok_if (fun c13 => ?_) (fun c13 => ?_)
            · try simp only [zput_s, zput_n, ti_g, oI_add, oI_sub, oI_mul]
              exact ih _ _ _ _ _ (f0) (by first | omega | ((try simp only [zt0, zt1, zt2, zt3, zt4, zt5, zt6, zt7, zt8, zt9, zt10, zt11, zt12, zt13, e0_10, e0_11]); omega)) (fun k hk => by ((try have c0 := hq1 k hk); (try have c0 := hq1 k); (try simp only [zt0, zt1, zt2, zt3, zt4, zt5, zt6, zt7, zt8, zt9, zt10, zt11, zt12, zt13] at *) <;> omega)) (by first | omega | ((try simp only [zt0, zt1, zt2, zt3, zt4, zt5, zt6, zt7, zt8, zt9, zt10, zt11, zt12, zt13, e0_10, e0_11]); omega))
            · try simp only [zput_s, zput_n, ti_g, oI_add, oI_sub, oI_mul]
              exact ih _ _ _ _ _ (f0) (by first | omega | ((try simp only [zt0, zt1, zt2, zt3, zt4, zt5, zt6, zt7, zt8, zt9, zt10, zt11, zt12, zt13, e0_10, e0_11]); omega)) (fun k hk => by ((try have c0 := hq1 k hk); (try have c0 := hq1 k); (try simp only [zt0, zt1, zt2, zt3, zt4, zt5, zt6, zt7, zt8, zt9, zt10, zt11, zt12, zt13] at *) <;> omega)) (by first | omega | ((try simp only [zt0, zt1, zt2, zt3, zt4, zt5, zt6, zt7, zt8, zt9, zt10, zt11, zt12, zt13, e0_10, e0_11]); omega))
theorem s188 {sh : zSh} {t : zSt} {MB : Nat} {r0 : Nat} (q0 : zMd sh MB r0) (d1 : zJs sh r0 t 7 ≤ 4500) (G : GI sh r0 t) : zok (zcl zP 188 [zR r0] (sh, t)) (qI (fun x t' => FrV sh r0 [0, 1, 2, 3, 4, 14] t t' ∧ ((x = 0 ∨ x = 1) ∧ (x = 1 → tg t' (sr sh r0 2) 11 ≤ 400) ∧ ∀ k, k ≠ 11 → tg t' (sr sh r0 2) k = tg t (sr sh r0 2) k)) sh) := by
  have ha0_1 : (sk sh (sr sh r0 1)).2 = 21000 := by rw [q0.2.2.2.2.1]
  have ha0_2 : (sk sh (sr sh r0 2)).2 = 14 := by rw [q0.2.2.2.2.2.1]
  have ha0_3 : (sk sh (sr sh r0 3)).2 = 98 := by rw [q0.2.2.2.2.2.2.1]
  have ha0_4 : (sk sh (sr sh r0 4)).2 = 98 := by rw [q0.2.2.2.2.2.2.2.1]
  have ha0_8 : (sk sh (sr sh r0 8)).2 = 1500 := by rw [q0.2.2.2.2.2.2.2.2.1]
  have ha0_9 : (sk sh (sr sh r0 9)).2 = 10500 := by rw [q0.2.2.2.2.2.2.2.2.2.1]
  have ha0_10 : (sk sh (sr sh r0 10)).2 = 7 := by rw [q0.2.2.2.2.2.2.2.2.2.2.1]
  have ha0_11 : (sk sh (sr sh r0 11)).2 = 7 := by rw [q0.2.2.2.2.2.2.2.2.2.2.2.1]
  have ha0_12 : (sk sh (sr sh r0 12)).2 = 1500 := by rw [q0.2.2.2.2.2.2.2.2.2.2.2.2.1]
  have ha0_13 : (sk sh (sr sh r0 13)).2 = 1500 := by rw [q0.2.2.2.2.2.2.2.2.2.2.2.2.2.1]
  have ha0_14 : (sk sh (sr sh r0 14)).2 = 20 := by rw [q0.2.2.2.2.2.2.2.2.2.2.2.2.2.2]
  rw [b188_0]
  try simp only [zput_s, zput_n, ti_g, oI_add, oI_sub, oI_mul]
  refine zok_ck ((q0).1) ?_
  refine zok_c0 (s158 (q0) (by omega) (by first | (omega) | ((try simp only [zt0, zt1, zt2, zt3, zt4, zt5, zt6, zt7, zt8, zt9, zt10, zt11, zt12, zt13]); omega)) (by first | (omega) | ((try simp only [zt0, zt1, zt2, zt3, zt4, zt5, zt6, zt7, zt8, zt9, zt10, zt11, zt12, zt13]); omega)) (G)) (fun t15 p15 => ?_)
  obtain ⟨f15, p15⟩ := p15
  have e15_3 : ∀ k, tg t15 (sr sh r0 3) k = tg t (sr sh r0 3) k := fun k => f15.eq q0 (i := 3) (by decide) (by decide) k
  have e15_4 : ∀ k, tg t15 (sr sh r0 4) k = tg t (sr sh r0 4) k := fun k => f15.eq q0 (i := 4) (by decide) (by decide) k
  have e15_10 : ∀ k, tg t15 (sr sh r0 10) k = tg t (sr sh r0 10) k := fun k => f15.eq q0 (i := 10) (by decide) (by decide) k
  have e15_11 : ∀ k, tg t15 (sr sh r0 11) k = tg t (sr sh r0 11) k := fun k => f15.eq q0 (i := 11) (by decide) (by decide) k
  have d15_5 : tg t15 r0 5 = tg t r0 5 := f15.eq q0 (i := 0) (by decide) (by decide) 5
  have d15_6 : tg t15 r0 6 = tg t r0 6 := f15.eq q0 (i := 0) (by decide) (by decide) 6
  try simp only [zt0, zt1, zt2, zt3, zt4, zt5, zt6, zt7, zt8, zt9, zt10, zt11, zt12, zt13, e15_3, e15_4, e15_10, e15_11] at p15
  have g16_1 := And.intro (tg_lo t15 r0 5) (tg_hi t15 r0 5)
  have g16_2 := And.intro (tg_lo t15 r0 6) (tg_hi t15 r0 6)
  simp only [zput_s, zput_n, ti_g, oI_add, oI_sub, oI_mul, zt0, zt1, zt2, zt3, zt4, zt5, zt6, zt7, zt8, zt9, zt10, zt11, zt12, zt13, e15_3, e15_4, e15_10, e15_11, b188_6]
  try simp only [zput_s, zput_n, ti_g, oI_add, oI_sub, oI_mul]
  refine zok_ck ((q0).1) ?_
  refine zok_ck ⟨(by rw [(q0).2.2.2.2.2.1]), zin_o (by omega) (by omega) (by omega)⟩ ?_
  try rw [nN_o (a := 11) (by omega) (by omega)]
  try rw [show (11 : Int).toNat = 11 from rfl]
  try simp only [zput_s, zput_n, ti_g, oI_add, oI_sub, oI_mul, zt0, zt1, zt2, zt3, zt4, zt5, zt6, zt7, zt8, zt9, zt10, zt11, zt12, zt13, e15_3, e15_4, e15_10, e15_11]
  have gl17 := And.intro (tg_lo t15 (sr sh r0 2) (11)) (tg_hi t15 (sr sh r0 2) (11))
  have gm17 := (f15.g).1 (11) (by omega)
  try simp only [zt0, zt1, zt2, zt3, zt4, zt5, zt6, zt7, zt8, zt9, zt10, zt11, zt12, zt13, e15_3, e15_4, e15_10, e15_11] at gl17
  try simp only [zt0, zt1, zt2, zt3, zt4, zt5, zt6, zt7, zt8, zt9, zt10, zt11, zt12, zt13, e15_3, e15_4, e15_10, e15_11] at gm17
  first | refine zok_le (by omega) (fun c18 => ?_) (fun c18 => ?_) | refine zok_if (fun c18 => ?_) (fun c18 => ?_)
  · refine zok_ck ((q0).1) ?_
    refine zok_ck ((q0).1) ?_
    refine zok_ck ((q0).1) ?_
    refine zok_cI (s151 (q0) (by omega) (by first | (omega) | ((try simp only [zt0, zt1, zt2, zt3, zt4, zt5, zt6, zt7, zt8, zt9, zt10, zt11, zt12, zt13, e15_3, e15_4, e15_10, e15_11]); omega)) (by first | (omega) | ((try simp only [zt0, zt1, zt2, zt3, zt4, zt5, zt6, zt7, zt8, zt9, zt10, zt11, zt12, zt13, e15_3, e15_4, e15_10, e15_11]); omega)) (f15.g)) (fun y19 t19 u19 p19 => ?_)
    obtain ⟨f19, p19⟩ := p19
    have e19_2 : ∀ k, tg t19 (sr sh r0 2) k = tg t15 (sr sh r0 2) k := fun k => f19.eq q0 (i := 2) (by decide) (by decide) k
    have e19_10 : ∀ k, tg t19 (sr sh r0 10) k = tg t15 (sr sh r0 10) k := fun k => f19.eq q0 (i := 10) (by decide) (by decide) k
    have e19_11 : ∀ k, tg t19 (sr sh r0 11) k = tg t15 (sr sh r0 11) k := fun k => f19.eq q0 (i := 11) (by decide) (by decide) k
    try simp only [zt0, zt1, zt2, zt3, zt4, zt5, zt6, zt7, zt8, zt9, zt10, zt11, zt12, zt13, e15_3, e15_4, e15_10, e15_11, e19_2, e19_10, e19_11] at p19
    simp only [zput_s, zput_n, ti_g, oI_add, oI_sub, oI_mul, zt0, zt1, zt2, zt3, zt4, zt5, zt6, zt7, zt8, zt9, zt10, zt11, zt12, zt13, e15_3, e15_4, e15_10, e15_11, e19_2, e19_10, e19_11, b188_37]
    try simp only [zput_s, zput_n, ti_g, oI_add, oI_sub, oI_mul]
    refine zok_ck (by first | exact ⟨(q0).1, fun e => by cases e⟩ | exact (q0).1) ?_
    obtain ⟨t21, ht21⟩ : ∃ t', t' = tI t19 r0 (5) (oI (tg t15 r0 5)) := ⟨_, rfl⟩
    try simp only [zt0, zt1, zt2, zt3, zt4, zt5, zt6, zt7, zt8, zt9, zt10, zt11, zt12, zt13, e15_3, e15_4, e15_10, e15_11, e19_2, e19_10, e19_11] at ht21
    rw [← ht21]
    have f21 : FrV sh r0 [0] t19 t21 := by rw [ht21]; exact GI_m q0 (f19.g) (by omega) (fun e => by first | omega | cases e) (fun e => by first | omega | cases e)
    have d21_5 : tg t21 r0 5 = tg t15 r0 5 := by rw [ht21]; refine (tg_at (by omega)).trans ?_; first | exact if_pos rfl | exact if_neg (by decide) | (simp only [zt0, zt1, zt2, zt3, zt4, zt5, zt6, zt7, zt8, zt9, zt10, zt11, zt12, zt13, e15_3, e15_4, e15_10, e15_11, e19_2, e19_10, e19_11, true_and, if_true])
    have d21_6 : tg t21 r0 6 = tg t19 r0 6 := by rw [ht21]; refine (tg_at (by omega)).trans ?_; first | exact if_pos rfl | exact if_neg (by decide) | (simp only [zt0, zt1, zt2, zt3, zt4, zt5, zt6, zt7, zt8, zt9, zt10, zt11, zt12, zt13, e15_3, e15_4, e15_10, e15_11, e19_2, e19_10, e19_11, true_and, if_true])
    try simp only [zt0, zt1, zt2, zt3, zt4, zt5, zt6, zt7, zt8, zt9, zt10, zt11, zt12, zt13, e15_3, e15_4, e15_10, e15_11, e19_2, e19_10, e19_11] at d21_5
    try simp only [zt0, zt1, zt2, zt3, zt4, zt5, zt6, zt7, zt8, zt9, zt10, zt11, zt12, zt13, e15_3, e15_4, e15_10, e15_11, e19_2, e19_10, e19_11] at d21_6
    have e21_2 : ∀ k, tg t21 (sr sh r0 2) k = tg t19 (sr sh r0 2) k := fun k => f21.eq q0 (i := 2) (by decide) (by decide) k
    have e21_3 : ∀ k, tg t21 (sr sh r0 3) k = tg t19 (sr sh r0 3) k := fun k => f21.eq q0 (i := 3) (by decide) (by decide) k
    have e21_4 : ∀ k, tg t21 (sr sh r0 4) k = tg t19 (sr sh r0 4) k := fun k => f21.eq q0 (i := 4) (by decide) (by decide) k
    have e21_10 : ∀ k, tg t21 (sr sh r0 10) k = tg t19 (sr sh r0 10) k := fun k => f21.eq q0 (i := 10) (by decide) (by decide) k
    have e21_11 : ∀ k, tg t21 (sr sh r0 11) k = tg t19 (sr sh r0 11) k := fun k => f21.eq q0 (i := 11) (by decide) (by decide) k
    refine zok_ck (by first | exact ⟨(q0).1, fun e => by cases e⟩ | exact (q0).1) ?_
    obtain ⟨t22, ht22⟩ : ∃ t', t' = tI t21 r0 (6) (oI (tg t15 r0 6)) := ⟨_, rfl⟩
    try simp only [zt0, zt1, zt2, zt3, zt4, zt5, zt6, zt7, zt8, zt9, zt10, zt11, zt12, zt13, e15_3, e15_4, e15_10, e15_11, e19_2, e19_10, e19_11, e21_2, e21_3, e21_4, e21_10, e21_11] at ht22
    rw [← ht22]
    have f22 : FrV sh r0 [0] t21 t22 := by rw [ht22]; exact GI_m q0 (f21.g) (by omega) (fun e => by first | omega | cases e) (fun e => by first | omega | cases e)
    have d22_5 : tg t22 r0 5 = tg t21 r0 5 := by rw [ht22]; refine (tg_at (by omega)).trans ?_; first | exact if_pos rfl | exact if_neg (by decide) | (simp only [zt0, zt1, zt2, zt3, zt4, zt5, zt6, zt7, zt8, zt9, zt10, zt11, zt12, zt13, e15_3, e15_4, e15_10, e15_11, e19_2, e19_10, e19_11, e21_2, e21_3, e21_4, e21_10, e21_11, true_and, if_true])
    have d22_6 : tg t22 r0 6 = tg t15 r0 6 := by rw [ht22]; refine (tg_at (by omega)).trans ?_; first | exact if_pos rfl | exact if_neg (by decide) | (simp only [zt0, zt1, zt2, zt3, zt4, zt5, zt6, zt7, zt8, zt9, zt10, zt11, zt12, zt13, e15_3, e15_4, e15_10, e15_11, e19_2, e19_10, e19_11, e21_2, e21_3, e21_4, e21_10, e21_11, true_and, if_true])
    try simp only [zt0, zt1, zt2, zt3, zt4, zt5, zt6, zt7, zt8, zt9, zt10, zt11, zt12, zt13, e15_3, e15_4, e15_10, e15_11, e19_2, e19_10, e19_11, e21_2, e21_3, e21_4, e21_10, e21_11] at d22_5
    try simp only [zt0, zt1, zt2, zt3, zt4, zt5, zt6, zt7, zt8, zt9, zt10, zt11, zt12, zt13, e15_3, e15_4, e15_10, e15_11, e19_2, e19_10, e19_11, e21_2, e21_3, e21_4, e21_10, e21_11] at d22_6
    have e22_2 : ∀ k, tg t22 (sr sh r0 2) k = tg t21 (sr sh r0 2) k := fun k => f22.eq q0 (i := 2) (by decide) (by decide) k
    have e22_3 : ∀ k, tg t22 (sr sh r0 3) k = tg t21 (sr sh r0 3) k := fun k => f22.eq q0 (i := 3) (by decide) (by decide) k
    have e22_4 : ∀ k, tg t22 (sr sh r0 4) k = tg t21 (sr sh r0 4) k := fun k => f22.eq q0 (i := 4) (by decide) (by decide) k
    have e22_10 : ∀ k, tg t22 (sr sh r0 10) k = tg t21 (sr sh r0 10) k := fun k => f22.eq q0 (i := 10) (by decide) (by decide) k
    have e22_11 : ∀ k, tg t22 (sr sh r0 11) k = tg t21 (sr sh r0 11) k := fun k => f22.eq q0 (i := 11) (by decide) (by decide) k
    try simp only [zput_s, zput_n, ti_g, oI_add, oI_sub, oI_mul]
    exact l188_51 q0 d1 G _ _ _ _ _ _ ((FrV.trans (Ns := [0, 1, 2, 3, 4, 14]) ((FrV.trans (Ns := [0, 1, 2, 3, 4, 14]) ((FrV.trans (Ns := [0, 1, 2, 3, 4, 14]) ((FrV.trans (Ns := [0, 1, 2, 3, 4, 14]) (FrV.refl (Ls := []) G) f15 (by decide) (by decide))) f19 (by decide) (by decide))) f21 (by decide) (by decide))) f22 (by decide) (by decide))) (by first | omega | ((try simp only [zt0, zt1, zt2, zt3, zt4, zt5, zt6, zt7, zt8, zt9, zt10, zt11, zt12, zt13, e15_3, e15_4, e15_10, e15_11, e19_2, e19_10, e19_11, e21_2, e21_3, e21_4, e21_10, e21_11, e22_2, e22_3, e22_4, e22_10, e22_11]); omega)) (fun k hk => by ((try have c0 := hq1 k hk); (try have c0 := hq1 k); (have c1 := p15.2 k (by omega)); (have c6 := e19_2 k); (have c9 := e21_2 k); (have c14 := e22_2 k); (try simp only [zt0, zt1, zt2, zt3, zt4, zt5, zt6, zt7, zt8, zt9, zt10, zt11, zt12, zt13] at *) <;> omega)) (Nat.lt_succ_self _)
  · first | exact qI_rt (by omega) (by omega) ⟨(FrV.trans (Ns := [0, 1, 2, 3, 4, 14]) (FrV.refl (Ls := []) G) f15 (by decide) (by decide)), ⟨by omega, by omega, fun k hk => by ((try have c0 := hq1 k hk); (try have c0 := hq1 k); (have c1 := p15.2 k (by omega)); (try simp only [zt0, zt1, zt2, zt3, zt4, zt5, zt6, zt7, zt8, zt9, zt10, zt11, zt12, zt13] at *) <;> omega)⟩⟩ | exact qI_nf ⟨(FrV.trans (Ns := [0, 1, 2, 3, 4, 14]) (FrV.refl (Ls := []) G) f15 (by decide) (by decide)), ⟨by omega, by omega, fun k hk => by ((try have c0 := hq1 k hk); (try have c0 := hq1 k); (have c1 := p15.2 k (by omega)); (try simp only [zt0, zt1, zt2, zt3, zt4, zt5, zt6, zt7, zt8, zt9, zt10, zt11, zt12, zt13] at *) <;> omega)⟩⟩
