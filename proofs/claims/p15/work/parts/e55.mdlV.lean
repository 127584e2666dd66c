set_option maxRecDepth 16384
/-! X9_part -/
theorem l168_69 {sh : zSh} {t0 : zSt} {MB : Nat} {r0 : Nat} (q0 : zMd sh MB r0) {x1 : Int} (u1 : -2147483648 ≤ x1 ∧ x1 ≤ 2147483647) {x2 : Int} (u2 : -2147483648 ≤ x2 ∧ x2 ≤ 2147483647) (G : GI sh r0 t0) : ∀ (n : Nat) (x3 : Int)  (t1 : zSt), FrV sh r0 [0, 3, 4, 8] t0 t1 → (-2147483648 ≤ x3 ∧ x3 ≤ 2147483647) ∧ (0 ≤ x1 ∧ x1 ≤ 7 ∧ 0 ≤ x2 ∧ x2 ≤ 6 ∧ 0 ≤ x3) ∧ (tg t1 r0 7 ≤ 401) ∧ (tg t1 (sr sh r0 2) 13 = tg t0 (sr sh r0 2) 13) → (tg t1 r0 7 - x3).toNat < n → zok (zev zP 168 69 [some (zR r0), some (zI (oI x1)), some (zI (oI x2)), some (zI (oI x3))] [] (sh, t1)) (qI (fun x t' => FrV sh r0 [0, 3, 4, 8] t0 t' ∧ (tg t' (sr sh r0 2) 13 = tg t0 (sr sh r0 2) 13)) sh) := by
  intro n
  induction n with
  | zero => intro x3  t1 f0 _ hm; omega
  | succ n ih =>
    intro x3  t1 f0 hv hm
    have ha0_1 : (sk sh (sr sh r0 1)).2 = 21000 := by rw [q0.2.2.2.2.1]
    have ha0_2 : (sk sh (sr sh r0 2)).2 = 14 := by rw [q0.2.2.2.2.2.1]
    have ha0_3 : (sk sh (sr sh r0 3)).2 = 98 := by rw [q0.2.2.2.2.2.2.1]
    have ha0_4 : (sk sh (sr sh r0 4)).2 = 98 := by rw [q0.2.2.2.2.2.2.2.1]
    have ha0_8 : (sk sh (sr sh r0 8)).2 = 1500 := by rw [q0.2.2.2.2.2.2.2.2.1]
    have ha0_9 : (sk sh (sr sh r0 9)).2 = 10500 := by rw [q0.2.2.2.2.2.2.2.2.2.1]
    have ha0_10 : (sk sh (sr sh r0 10)).2 = 7 := by rw [q0.2.2.2.2.2.2.2.2.2.2.1]
    have ha0_11 : (sk sh (sr sh r0 11)).2 = 7 := by rw [q0.2.2.2.2.2.2.2.2.2.2.2.1]
    have ha0_12 : (sk sh (sr sh r0 12)).2 = 1500 := by rw [q0.2.2.2.2.2.2.2.2.2.2.2.2.1]
    have ha0_13 : (sk sh (sr sh r0 13)).2 = 1500 := by rw [q0.2.2.2.2.2.2.2.2.2.2.2.2.2.1]
    have ha0_14 : (sk sh (sr sh r0 14)).2 = 20 := by rw [q0.2.2.2.2.2.2.2.2.2.2.2.2.2.2]
    have e0_2 : ∀ k, tg t1 (sr sh r0 2) k = tg t0 (sr sh r0 2) k := fun k => f0.eq q0 (i := 2) (by decide) (by decide) k
    have e0_10 : ∀ k, tg t1 (sr sh r0 10) k = tg t0 (sr sh r0 10) k := fun k => f0.eq q0 (i := 10) (by decide) (by decide) k
    have e0_11 : ∀ k, tg t1 (sr sh r0 11) k = tg t0 (sr sh r0 11) k := fun k => f0.eq q0 (i := 11) (by decide) (by decide) k
    try simp only [zt0, zt1, zt2, zt3, zt4, zt5, zt6, zt7, zt8, zt9, zt10, zt11, zt12, zt13, e0_2, e0_10, e0_11] at hv
    try simp only [zt0, zt1, zt2, zt3, zt4, zt5, zt6, zt7, zt8, zt9, zt10, zt11, zt12, zt13, e0_2, e0_10, e0_11] at hm
    have g1_1 := And.intro (tg_lo t1 r0 7) (tg_hi t1 r0 7)
    have gf1_1 := (f0.g).2.2.2.2
    rw [b168_69]
    try simp only [zput_s, zput_n, ti_g, oI_add, oI_sub, oI_mul]
    refine zok_ck ((q0).1) ?_
    first | refine zok_le (by omega) (fun c2 => ?_) (fun c2 => ?_) | refine zok_if (fun c2 => ?_) (fun c2 => ?_)
    · refine zok_ck ((q0).1) ?_
      refine zok_pI (s134 (q0) (by omega) (by omega) (by first | (omega) | ((try simp only [zt0, zt1, zt2, zt3, zt4, zt5, zt6, zt7, zt8, zt9, zt10, zt11, zt12, zt13, e0_2, e0_10, e0_11]); omega)) (by first | (omega) | ((try simp only [zt0, zt1, zt2, zt3, zt4, zt5, zt6, zt7, zt8, zt9, zt10, zt11, zt12, zt13, e0_2, e0_10, e0_11]); omega)) (f0.g)) (fun y3 u3 p3 => ?_)
      try simp only [zt0, zt1, zt2, zt3, zt4, zt5, zt6, zt7, zt8, zt9, zt10, zt11, zt12, zt13, e0_2, e0_10, e0_11] at p3
      have g4_1 := And.intro (tg_lo t1 r0 7) (tg_hi t1 r0 7)
      have gf4_1 := (f0.g).2.2.2.2
      simp only [zput_s, zput_n, ti_g, oI_add, oI_sub, oI_mul, zt0, zt1, zt2, zt3, zt4, zt5, zt6, zt7, zt8, zt9, zt10, zt11, zt12, zt13, e0_2, e0_10, e0_11, b168_102]
      try simp only [zput_s, zput_n, ti_g, oI_add, oI_sub, oI_mul]
      first | refine zok_eq (by omega) (fun c5 => ?_) (fun c5 => ?_) | refine zok_if (fun c5 => ?_) (fun c5 => ?_)
      · first | exact qI_rt (by omega) (by omega) ⟨f0, by ((try have c0 := hq1 13 (by decide)); (try have c0 := hq1 13); (try have c1 := e0_2 13); (try simp only [zt0, zt1, zt2, zt3, zt4, zt5, zt6, zt7, zt8, zt9, zt10, zt11, zt12, zt13] at *) <;> omega)⟩ | exact qI_nf ⟨f0, by ((try have c0 := hq1 13 (by decide)); (try have c0 := hq1 13); (try have c1 := e0_2 13); (try simp only [zt0, zt1, zt2, zt3, zt4, zt5, zt6, zt7, zt8, zt9, zt10, zt11, zt12, zt13] at *) <;> omega)⟩
      · refine zok_ck ((q0).1) ?_
        first | exact qI_rt (by omega) (by omega) ⟨f0, by ((try have c0 := hq1 13 (by decide)); (try have c0 := hq1 13); (try have c1 := e0_2 13); (try simp only [zt0, zt1, zt2, zt3, zt4, zt5, zt6, zt7, zt8, zt9, zt10, zt11, zt12, zt13] at *) <;> omega)⟩ | exact qI_nf ⟨f0, by ((try have c0 := hq1 13 (by decide)); (try have c0 := hq1 13); (try have c1 := e0_2 13); (try simp only [zt0, zt1, zt2, zt3, zt4, zt5, zt6, zt7, zt8, zt9, zt10, zt11, zt12, zt13] at *) <;> omega)⟩
    · refine zok_ck ((q0).1) ?_
      refine zok_ck ((q0).1) ?_
      refine zok_pI (s136 (q0) (by omega) (by omega) (by omega) (by first | (omega) | ((try simp only [zt0, zt1, zt2, zt3, zt4, zt5, zt6, zt7, zt8, zt9, zt10, zt11, zt12, zt13, e0_2, e0_10, e0_11]); omega)) (by first | (omega) | ((try simp only [zt0, zt1, zt2, zt3, zt4, zt5, zt6, zt7, zt8, zt9, zt10, zt11, zt12, zt13, e0_2, e0_10, e0_11]); omega)) (by first | (omega) | ((try simp only [zt0, zt1, zt2, zt3, zt4, zt5, zt6, zt7, zt8, zt9, zt10, zt11, zt12, zt13, e0_2, e0_10, e0_11]); omega)) (f0.g)) (fun y6 u6 p6 => ?_)
      try simp only [zt0, zt1, zt2, zt3, zt4, zt5, zt6, zt7, zt8, zt9, zt10, zt11, zt12, zt13, e0_2, e0_10, e0_11] at p6
      simp only [zput_s, zput_n, ti_g, oI_add, oI_sub, oI_mul, zt0, zt1, zt2, zt3, zt4, zt5, zt6, zt7, zt8, zt9, zt10, zt11, zt12, zt13, e0_2, e0_10, e0_11, b168_89]
      try simp only [zput_s, zput_n, ti_g, oI_add, oI_sub, oI_mul]
      refine zok_ck ⟨(by rw [(q0).2.2.2.2.2.2.2.2.1]), zin_o (by omega) (by omega) (by omega)⟩ ?_
      try rw [nN_o (a := x3) (by omega) (by omega)]
      try simp only [zput_s, zput_n, ti_g, oI_add, oI_sub, oI_mul, zt0, zt1, zt2, zt3, zt4, zt5, zt6, zt7, zt8, zt9, zt10, zt11, zt12, zt13, e0_2, e0_10, e0_11]
      obtain ⟨t8, ht8⟩ : ∃ t', t' = tI t1 (sr sh r0 8) ((x3).toNat) (oI (y6)) := ⟨_, rfl⟩
      try simp only [zt0, zt1, zt2, zt3, zt4, zt5, zt6, zt7, zt8, zt9, zt10, zt11, zt12, zt13, e0_2, e0_10, e0_11] at ht8
      rw [← ht8]
      have f8 : FrV sh r0 [8] t1 t8 := by rw [ht8]; exact GI_free q0 (f0.g) (by decide)
      have w8 : ∀ k, tg t8 (sr sh r0 8) k = if k = (x3).toNat then y6 else tg t1 (sr sh r0 8) k := fun k => by rw [ht8]; refine (tg_at (by omega)).trans ?_; first | rfl | simp only [zt0, zt1, zt2, zt3, zt4, zt5, zt6, zt7, zt8, zt9, zt10, zt11, zt12, zt13, e0_2, e0_10, e0_11, true_and]
      have ws8 : tg t8 (sr sh r0 8) ((x3).toNat) = y6 := by rw [w8, if_pos rfl]
      try simp only [zt0, zt1, zt2, zt3, zt4, zt5, zt6, zt7, zt8, zt9, zt10, zt11, zt12, zt13, e0_2, e0_10, e0_11] at w8
      try simp only [zt0, zt1, zt2, zt3, zt4, zt5, zt6, zt7, zt8, zt9, zt10, zt11, zt12, zt13, e0_2, e0_10, e0_11] at ws8
      have e8_2 : ∀ k, tg t8 (sr sh r0 2) k = tg t1 (sr sh r0 2) k := fun k => f8.eq q0 (i := 2) (by decide) (by decide) k
      have e8_3 : ∀ k, tg t8 (sr sh r0 3) k = tg t1 (sr sh r0 3) k := fun k => f8.eq q0 (i := 3) (by decide) (by decide) k
      have e8_4 : ∀ k, tg t8 (sr sh r0 4) k = tg t1 (sr sh r0 4) k := fun k => f8.eq q0 (i := 4) (by decide) (by decide) k
      have e8_10 : ∀ k, tg t8 (sr sh r0 10) k = tg t1 (sr sh r0 10) k := fun k => f8.eq q0 (i := 10) (by decide) (by decide) k
      have e8_11 : ∀ k, tg t8 (sr sh r0 11) k = tg t1 (sr sh r0 11) k := fun k => f8.eq q0 (i := 11) (by decide) (by decide) k
      have d8_0 : tg t8 r0 0 = tg t1 r0 0 := f8.eq q0 (i := 0) (by decide) (by decide) 0
      have d8_7 : tg t8 r0 7 = tg t1 r0 7 := f8.eq q0 (i := 0) (by decide) (by decide) 7
      try simp only [zput_s, zput_n, ti_g, oI_add, oI_sub, oI_mul]
      exact ih _ _ ((FrV.trans (Ns := [0, 3, 4, 8]) (f0) f8 (by decide) (by decide))) (by first | omega | ((try simp only [zt0, zt1, zt2, zt3, zt4, zt5, zt6, zt7, zt8, zt9, zt10, zt11, zt12, zt13, e0_2, e0_10, e0_11, e8_2, e8_3, e8_4, e8_10, e8_11, true_and, and_true]); omega)) (by first | omega | ((try simp only [zt0, zt1, zt2, zt3, zt4, zt5, zt6, zt7, zt8, zt9, zt10, zt11, zt12, zt13, e0_2, e0_10, e0_11, e8_2, e8_3, e8_4, e8_10, e8_11, true_and, and_true]); omega))
theorem l168_39 {sh : zSh} {t0 : zSt} {MB : Nat} {r0 : Nat} (q0 : zMd sh MB r0) {x1 : Int} (u1 : -2147483648 ≤ x1 ∧ x1 ≤ 2147483647) {x2 : Int} (u2 : -2147483648 ≤ x2 ∧ x2 ≤ 2147483647) (G : GI sh r0 t0) : ∀ (n : Nat)   (t1 : zSt), FrV sh r0 [0, 3, 4, 8] t0 t1 → (0 ≤ x1 ∧ x1 ≤ 7) ∧ (0 ≤ x2 ∧ x2 ≤ 6) ∧ (tg t1 (sr sh r0 2) 13 = tg t0 (sr sh r0 2) 13) → ((0 : Int)).toNat < n → zok (zev zP 168 39 [some (zR r0), some (zI (oI x1)), some (zI (oI x2)), none] [] (sh, t1)) (qI (fun x t' => FrV sh r0 [0, 3, 4, 8] t0 t' ∧ (tg t' (sr sh r0 2) 13 = tg t0 (sr sh r0 2) 13)) sh) := by
  intro n
  induction n with
  | zero => intro   t1 f0 _ hm; omega
  | succ n ih =>
    intro   t1 f0 hv hm
    have ha0_1 : (sk sh (sr sh r0 1)).2 = 21000 := by rw [q0.2.2.2.2.1]
    have ha0_2 : (sk sh (sr sh r0 2)).2 = 14 := by rw [q0.2.2.2.2.2.1]
    have ha0_3 : (sk sh (sr sh r0 3)).2 = 98 := by rw [q0.2.2.2.2.2.2.1]
    have ha0_4 : (sk sh (sr sh r0 4)).2 = 98 := by rw [q0.2.2.2.2.2.2.2.1]
    have ha0_8 : (sk sh (sr sh r0 8)).2 = 1500 := by rw [q0.2.2.2.2.2.2.2.2.1]
    have ha0_9 : (sk sh (sr sh r0 9)).2 = 10500 := by rw [q0.2.2.2.2.2.2.2.2.2.1]
    have ha0_10 : (sk sh (sr sh r0 10)).2 = 7 := by rw [q0.2.2.2.2.2.2.2.2.2.2.1]
    have ha0_11 : (sk sh (sr sh r0 11)).2 = 7 := by rw [q0.2.2.2.2.2.2.2.2.2.2.2.1]
    have ha0_12 : (sk sh (sr sh r0 12)).2 = 1500 := by rw [q0.2.2.2.2.2.2.2.2.2.2.2.2.1]
    have ha0_13 : (sk sh (sr sh r0 13)).2 = 1500 := by rw [q0.2.2.2.2.2.2.2.2.2.2.2.2.2.1]
    have ha0_14 : (sk sh (sr sh r0 14)).2 = 20 := by rw [q0.2.2.2.2.2.2.2.2.2.2.2.2.2.2]
    have e0_2 : ∀ k, tg t1 (sr sh r0 2) k = tg t0 (sr sh r0 2) k := fun k => f0.eq q0 (i := 2) (by decide) (by decide) k
    have e0_10 : ∀ k, tg t1 (sr sh r0 10) k = tg t0 (sr sh r0 10) k := fun k => f0.eq q0 (i := 10) (by decide) (by decide) k
    have e0_11 : ∀ k, tg t1 (sr sh r0 11) k = tg t0 (sr sh r0 11) k := fun k => f0.eq q0 (i := 11) (by decide) (by decide) k
    try simp only [zt0, zt1, zt2, zt3, zt4, zt5, zt6, zt7, zt8, zt9, zt10, zt11, zt12, zt13, e0_2, e0_10, e0_11] at hv
    try simp only [zt0, zt1, zt2, zt3, zt4, zt5, zt6, zt7, zt8, zt9, zt10, zt11, zt12, zt13, e0_2, e0_10, e0_11] at hm
    rw [b168_39]
    try simp only [zput_s, zput_n, ti_g, oI_add, oI_sub, oI_mul]
    refine zok_ck ((q0).1) ?_
    have gs2 := (f0.g).1 (x1).toNat
    try simp only [zt0, zt1, zt2, zt3, zt4, zt5, zt6, zt7, zt8, zt9, zt10, zt11, zt12, zt13, e0_2, e0_10, e0_11] at gs2
    refine zok_c0 (s138 (q0) (by omega) (by first | (omega) | ((try simp only [zt0, zt1, zt2, zt3, zt4, zt5, zt6, zt7, zt8, zt9, zt10, zt11, zt12, zt13, e0_2, e0_10, e0_11]); omega)) (by first | (omega) | ((try simp only [zt0, zt1, zt2, zt3, zt4, zt5, zt6, zt7, zt8, zt9, zt10, zt11, zt12, zt13, e0_2, e0_10, e0_11]); omega)) (f0.g)) (fun t2 p2 => ?_)
    obtain ⟨f2, p2⟩ := p2
    have e2_2 : ∀ k, tg t2 (sr sh r0 2) k = tg t1 (sr sh r0 2) k := fun k => f2.eq q0 (i := 2) (by decide) (by decide) k
    have e2_8 : ∀ k, tg t2 (sr sh r0 8) k = tg t1 (sr sh r0 8) k := fun k => f2.eq q0 (i := 8) (by decide) (by decide) k
    have e2_10 : ∀ k, tg t2 (sr sh r0 10) k = tg t1 (sr sh r0 10) k := fun k => f2.eq q0 (i := 10) (by decide) (by decide) k
    have e2_11 : ∀ k, tg t2 (sr sh r0 11) k = tg t1 (sr sh r0 11) k := fun k => f2.eq q0 (i := 11) (by decide) (by decide) k
    have d2_0 : tg t2 r0 0 = tg t1 r0 0 := f2.eq q0 (i := 0) (by decide) (by decide) 0
    have d2_7 : tg t2 r0 7 = tg t1 r0 7 := f2.eq q0 (i := 0) (by decide) (by decide) 7
    try simp only [zt0, zt1, zt2, zt3, zt4, zt5, zt6, zt7, zt8, zt9, zt10, zt11, zt12, zt13, e0_2, e0_10, e0_11, e2_2, e2_8, e2_10, e2_11] at p2
    simp only [zput_s, zput_n, ti_g, oI_add, oI_sub, oI_mul, zt0, zt1, zt2, zt3, zt4, zt5, zt6, zt7, zt8, zt9, zt10, zt11, zt12, zt13, e0_2, e0_10, e0_11, e2_2, e2_8, e2_10, e2_11, b168_44]
    try simp only [zput_s, zput_n, ti_g, oI_add, oI_sub, oI_mul]
    refine zok_ck ((q0).1) ?_
    refine zok_pI (s134 (q0) (by omega) (by omega) (by first | (omega) | ((try simp only [zt0, zt1, zt2, zt3, zt4, zt5, zt6, zt7, zt8, zt9, zt10, zt11, zt12, zt13, e0_2, e0_10, e0_11, e2_2, e2_8, e2_10, e2_11]); omega)) (by first | (omega) | ((try simp only [zt0, zt1, zt2, zt3, zt4, zt5, zt6, zt7, zt8, zt9, zt10, zt11, zt12, zt13, e0_2, e0_10, e0_11, e2_2, e2_8, e2_10, e2_11]); omega)) (f2.g)) (fun y4 u4 p4 => ?_)
    try simp only [zt0, zt1, zt2, zt3, zt4, zt5, zt6, zt7, zt8, zt9, zt10, zt11, zt12, zt13, e0_2, e0_10, e0_11, e2_2, e2_8, e2_10, e2_11] at p4
    simp only [zput_s, zput_n, ti_g, oI_add, oI_sub, oI_mul, zt0, zt1, zt2, zt3, zt4, zt5, zt6, zt7, zt8, zt9, zt10, zt11, zt12, zt13, e0_2, e0_10, e0_11, e2_2, e2_8, e2_10, e2_11, b168_51]
    try simp only [zput_s, zput_n, ti_g, oI_add, oI_sub, oI_mul]
    first | refine zok_eq (by omega) (fun c6 => ?_) (fun c6 => ?_) | refine zok_if (fun c6 => ?_) (fun c6 => ?_)
    · refine zok_ck (by first | exact ⟨(q0).1, fun e => by cases e⟩ | exact (q0).1) ?_
      obtain ⟨t7, ht7⟩ : ∃ t', t' = tI t2 r0 (7) (oI (0)) := ⟨_, rfl⟩
      try simp only [zt0, zt1, zt2, zt3, zt4, zt5, zt6, zt7, zt8, zt9, zt10, zt11, zt12, zt13, e0_2, e0_10, e0_11, e2_2, e2_8, e2_10, e2_11] at ht7
      rw [← ht7]
      have f7 : FrV sh r0 [0] t2 t7 := by rw [ht7]; exact GI_m q0 (f2.g) (by omega) (fun e => by first | omega | cases e) (fun e => by first | omega | cases e)
      have d7_0 : tg t7 r0 0 = tg t2 r0 0 := by rw [ht7]; refine (tg_at (by omega)).trans ?_; first | exact if_pos rfl | exact if_neg (by decide) | (simp only [zt0, zt1, zt2, zt3, zt4, zt5, zt6, zt7, zt8, zt9, zt10, zt11, zt12, zt13, e0_2, e0_10, e0_11, e2_2, e2_8, e2_10, e2_11, true_and, if_true])
      have d7_7 : tg t7 r0 7 = 0 := by rw [ht7]; refine (tg_at (by omega)).trans ?_; first | exact if_pos rfl | exact if_neg (by decide) | (simp only [zt0, zt1, zt2, zt3, zt4, zt5, zt6, zt7, zt8, zt9, zt10, zt11, zt12, zt13, e0_2, e0_10, e0_11, e2_2, e2_8, e2_10, e2_11, true_and, if_true])
      try simp only [zt0, zt1, zt2, zt3, zt4, zt5, zt6, zt7, zt8, zt9, zt10, zt11, zt12, zt13, e0_2, e0_10, e0_11, e2_2, e2_8, e2_10, e2_11] at d7_0
      try simp only [zt0, zt1, zt2, zt3, zt4, zt5, zt6, zt7, zt8, zt9, zt10, zt11, zt12, zt13, e0_2, e0_10, e0_11, e2_2, e2_8, e2_10, e2_11] at d7_7
      have e7_2 : ∀ k, tg t7 (sr sh r0 2) k = tg t2 (sr sh r0 2) k := fun k => f7.eq q0 (i := 2) (by decide) (by decide) k
      have e7_3 : ∀ k, tg t7 (sr sh r0 3) k = tg t2 (sr sh r0 3) k := fun k => f7.eq q0 (i := 3) (by decide) (by decide) k
      have e7_4 : ∀ k, tg t7 (sr sh r0 4) k = tg t2 (sr sh r0 4) k := fun k => f7.eq q0 (i := 4) (by decide) (by decide) k
      have e7_8 : ∀ k, tg t7 (sr sh r0 8) k = tg t2 (sr sh r0 8) k := fun k => f7.eq q0 (i := 8) (by decide) (by decide) k
      have e7_10 : ∀ k, tg t7 (sr sh r0 10) k = tg t2 (sr sh r0 10) k := fun k => f7.eq q0 (i := 10) (by decide) (by decide) k
      have e7_11 : ∀ k, tg t7 (sr sh r0 11) k = tg t2 (sr sh r0 11) k := fun k => f7.eq q0 (i := 11) (by decide) (by decide) k
      try simp only [zput_s, zput_n, ti_g, oI_add, oI_sub, oI_mul]
      exact l168_69 q0 (by omega) (by omega) G _ _ _ ((FrV.trans (Ns := [0, 3, 4, 8]) ((FrV.trans (Ns := [0, 3, 4, 8]) (f0) f2 (by decide) (by decide))) f7 (by decide) (by decide))) (by first | omega | ((try simp only [zt0, zt1, zt2, zt3, zt4, zt5, zt6, zt7, zt8, zt9, zt10, zt11, zt12, zt13, e0_2, e0_10, e0_11, e2_2, e2_8, e2_10, e2_11, e7_2, e7_3, e7_4, e7_8, e7_10, e7_11, true_and, and_true]); omega)) (Nat.lt_succ_self _)
    · refine zok_ck ((q0).1) ?_
      have gd8 := (f2.g).2.1 (7 * x1 + x2).toNat (by omega)
      try simp only [zt0, zt1, zt2, zt3, zt4, zt5, zt6, zt7, zt8, zt9, zt10, zt11, zt12, zt13, e0_2, e0_10, e0_11, e2_2, e2_8, e2_10, e2_11] at gd8
      have gd28 := gd8.2.2.2 (by omega)
      try simp only [zt0, zt1, zt2, zt3, zt4, zt5, zt6, zt7, zt8, zt9, zt10, zt11, zt12, zt13, e0_2, e0_10, e0_11, e2_2, e2_8, e2_10, e2_11] at gd28
      refine zok_pI (s135 (q0) (by omega) (by omega) (by first | (omega) | ((try simp only [zt0, zt1, zt2, zt3, zt4, zt5, zt6, zt7, zt8, zt9, zt10, zt11, zt12, zt13, e0_2, e0_10, e0_11, e2_2, e2_8, e2_10, e2_11]); omega)) (by first | (omega) | ((try simp only [zt0, zt1, zt2, zt3, zt4, zt5, zt6, zt7, zt8, zt9, zt10, zt11, zt12, zt13, e0_2, e0_10, e0_11, e2_2, e2_8, e2_10, e2_11]); omega)) (f2.g)) (fun y8 u8 p8 => ?_)
      try simp only [zt0, zt1, zt2, zt3, zt4, zt5, zt6, zt7, zt8, zt9, zt10, zt11, zt12, zt13, e0_2, e0_10, e0_11, e2_2, e2_8, e2_10, e2_11] at p8
      simp only [zput_s, zput_n, ti_g, oI_add, oI_sub, oI_mul, zt0, zt1, zt2, zt3, zt4, zt5, zt6, zt7, zt8, zt9, zt10, zt11, zt12, zt13, e0_2, e0_10, e0_11, e2_2, e2_8, e2_10, e2_11, b168_60]
      try simp only [zput_s, zput_n, ti_g, oI_add, oI_sub, oI_mul]
      refine zok_ck (by first | exact ⟨(q0).1, fun e => by cases e⟩ | exact (q0).1) ?_
      obtain ⟨t10, ht10⟩ : ∃ t', t' = tI t2 r0 (7) (oI (y8)) := ⟨_, rfl⟩
      try simp only [zt0, zt1, zt2, zt3, zt4, zt5, zt6, zt7, zt8, zt9, zt10, zt11, zt12, zt13, e0_2, e0_10, e0_11, e2_2, e2_8, e2_10, e2_11] at ht10
      rw [← ht10]
      have f10 : FrV sh r0 [0] t2 t10 := by rw [ht10]; exact GI_m q0 (f2.g) (by omega) (fun e => by first | omega | cases e) (fun e => by first | omega | cases e)
      have d10_0 : tg t10 r0 0 = tg t2 r0 0 := by rw [ht10]; refine (tg_at (by omega)).trans ?_; first | exact if_pos rfl | exact if_neg (by decide) | (simp only [zt0, zt1, zt2, zt3, zt4, zt5, zt6, zt7, zt8, zt9, zt10, zt11, zt12, zt13, e0_2, e0_10, e0_11, e2_2, e2_8, e2_10, e2_11, true_and, if_true])
      have d10_7 : tg t10 r0 7 = y8 := by rw [ht10]; refine (tg_at (by omega)).trans ?_; first | exact if_pos rfl | exact if_neg (by decide) | (simp only [zt0, zt1, zt2, zt3, zt4, zt5, zt6, zt7, zt8, zt9, zt10, zt11, zt12, zt13, e0_2, e0_10, e0_11, e2_2, e2_8, e2_10, e2_11, true_and, if_true])
      try simp only [zt0, zt1, zt2, zt3, zt4, zt5, zt6, zt7, zt8, zt9, zt10, zt11, zt12, zt13, e0_2, e0_10, e0_11, e2_2, e2_8, e2_10, e2_11] at d10_0
      try simp only [zt0, zt1, zt2, zt3, zt4, zt5, zt6, zt7, zt8, zt9, zt10, zt11, zt12, zt13, e0_2, e0_10, e0_11, e2_2, e2_8, e2_10, e2_11] at d10_7
      have e10_2 : ∀ k, tg t10 (sr sh r0 2) k = tg t2 (sr sh r0 2) k := fun k => f10.eq q0 (i := 2) (by decide) (by decide) k
      have e10_3 : ∀ k, tg t10 (sr sh r0 3) k = tg t2 (sr sh r0 3) k := fun k => f10.eq q0 (i := 3) (by decide) (by decide) k
      have e10_4 : ∀ k, tg t10 (sr sh r0 4) k = tg t2 (sr sh r0 4) k := fun k => f10.eq q0 (i := 4) (by decide) (by decide) k
      have e10_8 : ∀ k, tg t10 (sr sh r0 8) k = tg t2 (sr sh r0 8) k := fun k => f10.eq q0 (i := 8) (by decide) (by decide) k
      have e10_10 : ∀ k, tg t10 (sr sh r0 10) k = tg t2 (sr sh r0 10) k := fun k => f10.eq q0 (i := 10) (by decide) (by decide) k
      have e10_11 : ∀ k, tg t10 (sr sh r0 11) k = tg t2 (sr sh r0 11) k := fun k => f10.eq q0 (i := 11) (by decide) (by decide) k
      try simp only [zput_s, zput_n, ti_g, oI_add, oI_sub, oI_mul]
      exact l168_69 q0 (by omega) (by omega) G _ _ _ ((FrV.trans (Ns := [0, 3, 4, 8]) ((FrV.trans (Ns := [0, 3, 4, 8]) (f0) f2 (by decide) (by decide))) f10 (by decide) (by decide))) (by first | omega | ((try simp only [zt0, zt1, zt2, zt3, zt4, zt5, zt6, zt7, zt8, zt9, zt10, zt11, zt12, zt13, e0_2, e0_10, e0_11, e2_2, e2_8, e2_10, e2_11, e10_2, e10_3, e10_4, e10_8, e10_10, e10_11, true_and, and_true]); omega)) (Nat.lt_succ_self _)
theorem s168 {sh : zSh} {t : zSt} {MB : Nat} {r0 : Nat} (q0 : zMd sh MB r0) {x1 : Int} (u1 : -2147483648 ≤ x1 ∧ x1 ≤ 2147483647) {x2 : Int} (u2 : -2147483648 ≤ x2 ∧ x2 ≤ 2147483647) (G : GI sh r0 t) : zok (zcl zP 168 [zR r0, zI (oI x1), zI (oI x2)] (sh, t)) (qI (fun x t' => FrV sh r0 [0, 3, 4, 8] t t' ∧ (tg t' (sr sh r0 2) 13 = tg t (sr sh r0 2) 13)) sh) := by
  have ha0_1 : (sk sh (sr sh r0 1)).2 = 21000 := by rw [q0.2.2.2.2.1]
  have ha0_2 : (sk sh (sr sh r0 2)).2 = 14 := by rw [q0.2.2.2.2.2.1]
  have ha0_3 : (sk sh (sr sh r0 3)).2 = 98 := by rw [q0.2.2.2.2.2.2.1]
  have ha0_4 : (sk sh (sr sh r0 4)).2 = 98 := by rw [q0.2.2.2.2.2.2.2.1]
  have ha0_8 : (sk sh (sr sh r0 8)).2 = 1500 := by rw [q0.2.2.2.2.2.2.2.2.1]
  have ha0_9 : (sk sh (sr sh r0 9)).2 = 10500 := by rw [q0.2.2.2.2.2.2.2.2.2.1]
  have ha0_10 : (sk sh (sr sh r0 10)).2 = 7 := by rw [q0.2.2.2.2.2.2.2.2.2.2.1]
  have ha0_11 : (sk sh (sr sh r0 11)).2 = 7 := by rw [q0.2.2.2.2.2.2.2.2.2.2.2.1]
  have ha0_12 : (sk sh (sr sh r0 12)).2 = 1500 := by rw [q0.2.2.2.2.2.2.2.2.2.2.2.2.1]
  have ha0_13 : (sk sh (sr sh r0 13)).2 = 1500 := by rw [q0.2.2.2.2.2.2.2.2.2.2.2.2.2.1]
  have ha0_14 : (sk sh (sr sh r0 14)).2 = 20 := by rw [q0.2.2.2.2.2.2.2.2.2.2.2.2.2.2]
  rw [b168_0]
  try simp only [zput_s, zput_n, ti_g, oI_add, oI_sub, oI_mul]
  refine zok_pI (s127 (by omega)) (fun y12 u12 p12 => ?_)
  try simp only [zt0, zt1, zt2, zt3, zt4, zt5, zt6, zt7, zt8, zt9, zt10, zt11, zt12, zt13] at p12
  have g13_1 := And.intro (tg_lo (tI t r0 0 (oI 1)) r0 0) (tg_hi (tI t r0 0 (oI 1)) r0 0)
  simp only [zput_s, zput_n, ti_g, oI_add, oI_sub, oI_mul, zt0, zt1, zt2, zt3, zt4, zt5, zt6, zt7, zt8, zt9, zt10, zt11, zt12, zt13, b168_5]
  try simp only [zput_s, zput_n, ti_g, oI_add, oI_sub, oI_mul]
  first | refine zok_ne (by omega) (fun c14 => ?_) (fun c14 => ?_) | refine zok_if (fun c14 => ?_) (fun c14 => ?_)
  · refine zok_pI (s120 (by omega) (by omega) (by omega)) (fun y15 u15 p15 => ?_)
    try simp only [zt0, zt1, zt2, zt3, zt4, zt5, zt6, zt7, zt8, zt9, zt10, zt11, zt12, zt13] at p15
    have g16_1 := And.intro (tg_lo (tI t r0 0 (oI 2)) r0 0) (tg_hi (tI t r0 0 (oI 2)) r0 0)
    have g16_2 := And.intro (tg_lo (tI t r0 0 (oI 0)) r0 0) (tg_hi (tI t r0 0 (oI 0)) r0 0)
    simp only [zput_s, zput_n, ti_g, oI_add, oI_sub, oI_mul, zt0, zt1, zt2, zt3, zt4, zt5, zt6, zt7, zt8, zt9, zt10, zt11, zt12, zt13, b168_19]
    try simp only [zput_s, zput_n, ti_g, oI_add, oI_sub, oI_mul]
    first | refine zok_eq (by omega) (fun c17 => ?_) (fun c17 => ?_) | refine zok_if (fun c17 => ?_) (fun c17 => ?_)
    · refine zok_ck (by first | exact ⟨(q0).1, fun e => by cases e⟩ | exact (q0).1) ?_
      obtain ⟨t18, ht18⟩ : ∃ t', t' = tI t r0 (0) (oI (2)) := ⟨_, rfl⟩
      try simp only [zt0, zt1, zt2, zt3, zt4, zt5, zt6, zt7, zt8, zt9, zt10, zt11, zt12, zt13] at ht18
      rw [← ht18]
      have f18 : FrV sh r0 [0] t t18 := by rw [ht18]; exact GI_m q0 (G) (by omega) (fun e => by first | omega | cases e) (fun e => by first | omega | cases e)
      have d18_0 : tg t18 r0 0 = 2 := by rw [ht18]; refine (tg_at (by omega)).trans ?_; first | exact if_pos rfl | exact if_neg (by decide) | (simp only [zt0, zt1, zt2, zt3, zt4, zt5, zt6, zt7, zt8, zt9, zt10, zt11, zt12, zt13, true_and, if_true])
      have d18_7 : tg t18 r0 7 = tg t r0 7 := by rw [ht18]; refine (tg_at (by omega)).trans ?_; first | exact if_pos rfl | exact if_neg (by decide) | (simp only [zt0, zt1, zt2, zt3, zt4, zt5, zt6, zt7, zt8, zt9, zt10, zt11, zt12, zt13, true_and, if_true])
      try simp only [zt0, zt1, zt2, zt3, zt4, zt5, zt6, zt7, zt8, zt9, zt10, zt11, zt12, zt13] at d18_0
      try simp only [zt0, zt1, zt2, zt3, zt4, zt5, zt6, zt7, zt8, zt9, zt10, zt11, zt12, zt13] at d18_7
      have e18_2 : ∀ k, tg t18 (sr sh r0 2) k = tg t (sr sh r0 2) k := fun k => f18.eq q0 (i := 2) (by decide) (by decide) k
      have e18_3 : ∀ k, tg t18 (sr sh r0 3) k = tg t (sr sh r0 3) k := fun k => f18.eq q0 (i := 3) (by decide) (by decide) k
      have e18_4 : ∀ k, tg t18 (sr sh r0 4) k = tg t (sr sh r0 4) k := fun k => f18.eq q0 (i := 4) (by decide) (by decide) k
      have e18_8 : ∀ k, tg t18 (sr sh r0 8) k = tg t (sr sh r0 8) k := fun k => f18.eq q0 (i := 8) (by decide) (by decide) k
      have e18_10 : ∀ k, tg t18 (sr sh r0 10) k = tg t (sr sh r0 10) k := fun k => f18.eq q0 (i := 10) (by decide) (by decide) k
      have e18_11 : ∀ k, tg t18 (sr sh r0 11) k = tg t (sr sh r0 11) k := fun k => f18.eq q0 (i := 11) (by decide) (by decide) k
      refine zok_ck ((q0).1) ?_
      first | refine zok_le (by omega) (fun c19 => ?_) (fun c19 => ?_) | refine zok_if (fun c19 => ?_) (fun c19 => ?_)
      · try simp only [zput_s, zput_n, ti_g, oI_add, oI_sub, oI_mul]
        exact l168_39 q0 (by omega) (by omega) G _ _ ((FrV.trans (Ns := [0, 3, 4, 8]) (FrV.refl (Ls := []) G) f18 (by decide) (by decide))) (by first | omega | ((try simp only [zt0, zt1, zt2, zt3, zt4, zt5, zt6, zt7, zt8, zt9, zt10, zt11, zt12, zt13, e18_2, e18_3, e18_4, e18_8, e18_10, e18_11, true_and, and_true]); omega)) (Nat.lt_succ_self _)
      · first | exact qI_rt (by omega) (by omega) ⟨(FrV.trans (Ns := [0, 3, 4, 8]) (FrV.refl (Ls := []) G) f18 (by decide) (by decide)), by ((try have c0 := hq1 13 (by decide)); (try have c0 := hq1 13); (try have c1 := e18_2 13); (try simp only [zt0, zt1, zt2, zt3, zt4, zt5, zt6, zt7, zt8, zt9, zt10, zt11, zt12, zt13] at *) <;> omega)⟩ | exact qI_nf ⟨(FrV.trans (Ns := [0, 3, 4, 8]) (FrV.refl (Ls := []) G) f18 (by decide) (by decide)), by ((try have c0 := hq1 13 (by decide)); (try have c0 := hq1 13); (try have c1 := e18_2 13); (try simp only [zt0, zt1, zt2, zt3, zt4, zt5, zt6, zt7, zt8, zt9, zt10, zt11, zt12, zt13] at *) <;> omega)⟩
    · refine zok_ck (by first | exact ⟨(q0).1, fun e => by cases e⟩ | exact (q0).1) ?_
      obtain ⟨t20, ht20⟩ : ∃ t', t' = tI t r0 (0) (oI (0)) := ⟨_, rfl⟩
      try simp only [zt0, zt1, zt2, zt3, zt4, zt5, zt6, zt7, zt8, zt9, zt10, zt11, zt12, zt13] at ht20
      rw [← ht20]
      have f20 : FrV sh r0 [0] t t20 := by rw [ht20]; exact GI_m q0 (G) (by omega) (fun e => by first | omega | cases e) (fun e => by first | omega | cases e)
      have d20_0 : tg t20 r0 0 = 0 := by rw [ht20]; refine (tg_at (by omega)).trans ?_; first | exact if_pos rfl | exact if_neg (by decide) | (simp only [zt0, zt1, zt2, zt3, zt4, zt5, zt6, zt7, zt8, zt9, zt10, zt11, zt12, zt13, true_and, if_true])
      have d20_7 : tg t20 r0 7 = tg t r0 7 := by rw [ht20]; refine (tg_at (by omega)).trans ?_; first | exact if_pos rfl | exact if_neg (by decide) | (simp only [zt0, zt1, zt2, zt3, zt4, zt5, zt6, zt7, zt8, zt9, zt10, zt11, zt12, zt13, true_and, if_true])
      try simp only [zt0, zt1, zt2, zt3, zt4, zt5, zt6, zt7, zt8, zt9, zt10, zt11, zt12, zt13] at d20_0
      try simp only [zt0, zt1, zt2, zt3, zt4, zt5, zt6, zt7, zt8, zt9, zt10, zt11, zt12, zt13] at d20_7
      have e20_2 : ∀ k, tg t20 (sr sh r0 2) k = tg t (sr sh r0 2) k := fun k => f20.eq q0 (i := 2) (by decide) (by decide) k
      have e20_3 : ∀ k, tg t20 (sr sh r0 3) k = tg t (sr sh r0 3) k := fun k => f20.eq q0 (i := 3) (by decide) (by decide) k
      have e20_4 : ∀ k, tg t20 (sr sh r0 4) k = tg t (sr sh r0 4) k := fun k => f20.eq q0 (i := 4) (by decide) (by decide) k
      have e20_8 : ∀ k, tg t20 (sr sh r0 8) k = tg t (sr sh r0 8) k := fun k => f20.eq q0 (i := 8) (by decide) (by decide) k
      have e20_10 : ∀ k, tg t20 (sr sh r0 10) k = tg t (sr sh r0 10) k := fun k => f20.eq q0 (i := 10) (by decide) (by decide) k
      have e20_11 : ∀ k, tg t20 (sr sh r0 11) k = tg t (sr sh r0 11) k := fun k => f20.eq q0 (i := 11) (by decide) (by decide) k
      refine zok_ck ((q0).1) ?_
      first | refine zok_le (by omega) (fun c21 => ?_) (fun c21 => ?_) | refine zok_if (fun c21 => ?_) (fun c21 => ?_)
      · try simp only [zput_s, zput_n, ti_g, oI_add, oI_sub, oI_mul]
        exact l168_39 q0 (by omega) (by omega) G _ _ ((FrV.trans (Ns := [0, 3, 4, 8]) (FrV.refl (Ls := []) G) f20 (by decide) (by decide))) (by first | omega | ((try simp only [zt0, zt1, zt2, zt3, zt4, zt5, zt6, zt7, zt8, zt9, zt10, zt11, zt12, zt13, e20_2, e20_3, e20_4, e20_8, e20_10, e20_11, true_and, and_true]); omega)) (Nat.lt_succ_self _)
      · first | exact qI_rt (by omega) (by omega) ⟨(FrV.trans (Ns := [0, 3, 4, 8]) (FrV.refl (Ls := []) G) f20 (by decide) (by decide)), by ((try have c0 := hq1 13 (by decide)); (try have c0 := hq1 13); (try have c1 := e20_2 13); (try simp only [zt0, zt1, zt2, zt3, zt4, zt5, zt6, zt7, zt8, zt9, zt10, zt11, zt12, zt13] at *) <;> omega)⟩ | exact qI_nf ⟨(FrV.trans (Ns := [0, 3, 4, 8]) (FrV.refl (Ls := []) G) f20 (by decide) (by decide)), by ((try have c0 := hq1 13 (by decide)); (try have c0 := hq1 13); (try have c1 := e20_2 13); (try simp only [zt0, zt1, zt2, zt3, zt4, zt5, zt6, zt7, zt8, zt9, zt10, zt11, zt12, zt13] at *) <;> omega)⟩
  · refine zok_ck (by first | exact ⟨(q0).1, fun e => by cases e⟩ | exact (q0).1) ?_
    obtain ⟨t22, ht22⟩ : ∃ t', t' = tI t r0 (0) (oI (1)) := ⟨_, rfl⟩
    try simp only [zt0, zt1, zt2, zt3, zt4, zt5, zt6, zt7, zt8, zt9, zt10, zt11, zt12, zt13] at ht22
    rw [← ht22]
    have f22 : FrV sh r0 [0] t t22 := by rw [ht22]; exact GI_m q0 (G) (by omega) (fun e => by first | omega | cases e) (fun e => by first | omega | cases e)
    have d22_0 : tg t22 r0 0 = 1 := by rw [ht22]; refine (tg_at (by omega)).trans ?_; first | exact if_pos rfl | exact if_neg (by decide) | (simp only [zt0, zt1, zt2, zt3, zt4, zt5, zt6, zt7, zt8, zt9, zt10, zt11, zt12, zt13, true_and, if_true])
    have d22_7 : tg t22 r0 7 = tg t r0 7 := by rw [ht22]; refine (tg_at (by omega)).trans ?_; first | exact if_pos rfl | exact if_neg (by decide) | (simp only [zt0, zt1, zt2, zt3, zt4, zt5, zt6, zt7, zt8, zt9, zt10, zt11, zt12, zt13, true_and, if_true])
    try simp only [zt0, zt1, zt2, zt3, zt4, zt5, zt6, zt7, zt8, zt9, zt10, zt11, zt12, zt13] at d22_0
    try simp only [zt0, zt1, zt2, zt3, zt4, zt5, zt6, zt7, zt8, zt9, zt10, zt11, zt12, zt13] at d22_7
    have e22_2 : ∀ k, tg t22 (sr sh r0 2) k = tg t (sr sh r0 2) k := fun k => f22.eq q0 (i := 2) (by decide) (by decide) k
    have e22_3 : ∀ k, tg t22 (sr sh r0 3) k = tg t (sr sh r0 3) k := fun k => f22.eq q0 (i := 3) (by decide) (by decide) k
    have e22_4 : ∀ k, tg t22 (sr sh r0 4) k = tg t (sr sh r0 4) k := fun k => f22.eq q0 (i := 4) (by decide) (by decide) k
    have e22_8 : ∀ k, tg t22 (sr sh r0 8) k = tg t (sr sh r0 8) k := fun k => f22.eq q0 (i := 8) (by decide) (by decide) k
    have e22_10 : ∀ k, tg t22 (sr sh r0 10) k = tg t (sr sh r0 10) k := fun k => f22.eq q0 (i := 10) (by decide) (by decide) k
    have e22_11 : ∀ k, tg t22 (sr sh r0 11) k = tg t (sr sh r0 11) k := fun k => f22.eq q0 (i := 11) (by decide) (by decide) k
    refine zok_ck ((q0).1) ?_
    first | refine zok_le (by omega) (fun c23 => ?_) (fun c23 => ?_) | refine zok_if (fun c23 => ?_) (fun c23 => ?_)
    · try simp only [zput_s, zput_n, ti_g, oI_add, oI_sub, oI_mul]
      exact l168_39 q0 (by omega) (by omega) G _ _ ((FrV.trans (Ns := [0, 3, 4, 8]) (FrV.refl (Ls := []) G) f22 (by decide) (by decide))) (by first | omega | ((try simp only [zt0, zt1, zt2, zt3, zt4, zt5, zt6, zt7, zt8, zt9, zt10, zt11, zt12, zt13, e22_2, e22_3, e22_4, e22_8, e22_10, e22_11, true_and, and_true]); omega)) (Nat.lt_succ_self _)
    · first | exact qI_rt (by omega) (by omega) ⟨(FrV.trans (Ns := [0, 3, 4, 8]) (FrV.refl (Ls := []) G) f22 (by decide) (by decide)), by ((try have c0 := hq1 13 (by decide)); (try have c0 := hq1 13); (try have c1 := e22_2 13); (try simp only [zt0, zt1, zt2, zt3, zt4, zt5, zt6, zt7, zt8, zt9, zt10, zt11, zt12, zt13] at *) <;> omega)⟩ | exact qI_nf ⟨(FrV.trans (Ns := [0, 3, 4, 8]) (FrV.refl (Ls := []) G) f22 (by decide) (by decide)), by ((try have c0 := hq1 13 (by decide)); (try have c0 := hq1 13); (try have c1 := e22_2 13); (try simp only [zt0, zt1, zt2, zt3, zt4, zt5, zt6, zt7, zt8, zt9, zt10, zt11, zt12, zt13] at *) <;> omega)⟩
/-! X9_address -/
theorem l171_81 {sh : zSh} {t0 : zSt} {MB : Nat} {r0 : Nat} (q0 : zMd sh MB r0) {x1 : Int} (u1 : -2147483648 ≤ x1 ∧ x1 ≤ 2147483647) {x2 : Int} (u2 : -2147483648 ≤ x2 ∧ x2 ≤ 2147483647) (G : GI sh r0 t0) : ∀ (n : Nat) (x3 : Int)  (t1 : zSt), FrV sh r0 [0, 3, 4, 14] t0 t1 → (-2147483648 ≤ x3 ∧ x3 ≤ 2147483647) ∧ ((x3 = 2 ∧ x2 = 0) ∨ (x3 = 3 ∧ 0 ≤ x2 ∧ x2 ≤ 3)) ∧ (tg t1 (sr sh r0 2) 13 = tg t0 (sr sh r0 2) 13) → ((0 : Int)).toNat < n → zok (zev zP 171 81 [some (zR r0), some (zI (oI x1)), some (zI (oI x2)), some (zI (oI x3))] [] (sh, t1)) (qI (fun x t' => FrV sh r0 [0, 3, 4, 14] t0 t' ∧ (tg t' (sr sh r0 2) 13 = tg t0 (sr sh r0 2) 13)) sh) := by
  intro n
  induction n with
  | zero => intro x3  t1 f0 _ hm; omega
  | succ n ih =>
    intro x3  t1 f0 hv hm
    have ha0_1 : (sk sh (sr sh r0 1)).2 = 21000 := by rw [q0.2.2.2.2.1]
    have ha0_2 : (sk sh (sr sh r0 2)).2 = 14 := by rw [q0.2.2.2.2.2.1]
    have ha0_3 : (sk sh (sr sh r0 3)).2 = 98 := by rw [q0.2.2.2.2.2.2.1]
    have ha0_4 : (sk sh (sr sh r0 4)).2 = 98 := by rw [q0.2.2.2.2.2.2.2.1]
    have ha0_8 : (sk sh (sr sh r0 8)).2 = 1500 := by rw [q0.2.2.2.2.2.2.2.2.1]
    have ha0_9 : (sk sh (sr sh r0 9)).2 = 10500 := by rw [q0.2.2.2.2.2.2.2.2.2.1]
    have ha0_10 : (sk sh (sr sh r0 10)).2 = 7 := by rw [q0.2.2.2.2.2.2.2.2.2.2.1]
    have ha0_11 : (sk sh (sr sh r0 11)).2 = 7 := by rw [q0.2.2.2.2.2.2.2.2.2.2.2.1]
    have ha0_12 : (sk sh (sr sh r0 12)).2 = 1500 := by rw [q0.2.2.2.2.2.2.2.2.2.2.2.2.1]
    have ha0_13 : (sk sh (sr sh r0 13)).2 = 1500 := by rw [q0.2.2.2.2.2.2.2.2.2.2.2.2.2.1]
    have ha0_14 : (sk sh (sr sh r0 14)).2 = 20 := by rw [q0.2.2.2.2.2.2.2.2.2.2.2.2.2.2]
    have e0_2 : ∀ k, tg t1 (sr sh r0 2) k = tg t0 (sr sh r0 2) k := fun k => f0.eq q0 (i := 2) (by decide) (by decide) k
    have e0_10 : ∀ k, tg t1 (sr sh r0 10) k = tg t0 (sr sh r0 10) k := fun k => f0.eq q0 (i := 10) (by decide) (by decide) k
    have e0_11 : ∀ k, tg t1 (sr sh r0 11) k = tg t0 (sr sh r0 11) k := fun k => f0.eq q0 (i := 11) (by decide) (by decide) k
    try simp only [zt0, zt1, zt2, zt3, zt4, zt5, zt6, zt7, zt8, zt9, zt10, zt11, zt12, zt13, e0_2, e0_10, e0_11] at hv
    try simp only [zt0, zt1, zt2, zt3, zt4, zt5, zt6, zt7, zt8, zt9, zt10, zt11, zt12, zt13, e0_2, e0_10, e0_11] at hm
    have g1_1 := And.intro (tg_lo t1 r0 16) (tg_hi t1 r0 16)
    rw [b171_81]
    try simp only [zput_s, zput_n, ti_g, oI_add, oI_sub, oI_mul]
    first | refine zok_ne (by omega) (fun c2 => ?_) (fun c2 => ?_) | refine zok_if (fun c2 => ?_) (fun c2 => ?_)
    · refine zok_ck ((q0).1) ?_
      refine zok_ck ⟨(by rw [(q0).2.2.2.2.2.2.2.2.2.2.2.2.2.2]), zin_o (by omega) (by omega) (by omega)⟩ ?_
      try rw [nN_o (a := (2) * (x2)) (by omega) (by omega)]
      try simp only [zput_s, zput_n, ti_g, oI_add, oI_sub, oI_mul, zt0, zt1, zt2, zt3, zt4, zt5, zt6, zt7, zt8, zt9, zt10, zt11, zt12, zt13, e0_2, e0_10, e0_11]
      have gl3 := And.intro (tg_lo t1 (sr sh r0 14) (((2) * (x2)).toNat)) (tg_hi t1 (sr sh r0 14) (((2) * (x2)).toNat))
      try simp only [zt0, zt1, zt2, zt3, zt4, zt5, zt6, zt7, zt8, zt9, zt10, zt11, zt12, zt13, e0_2, e0_10, e0_11] at gl3
      refine zok_ck ((q0).1) ?_
      refine zok_ck ⟨(by rw [(q0).2.2.2.2.2.2.2.2.2.2.2.2.2.2]), zin_o (by omega) (by omega) (by omega)⟩ ?_
      try rw [nN_o (a := ((2) * (x2)) + (1)) (by omega) (by omega)]
      try simp only [zput_s, zput_n, ti_g, oI_add, oI_sub, oI_mul, zt0, zt1, zt2, zt3, zt4, zt5, zt6, zt7, zt8, zt9, zt10, zt11, zt12, zt13, e0_2, e0_10, e0_11]
      have gl4 := And.intro (tg_lo t1 (sr sh r0 14) ((((2) * (x2)) + (1)).toNat)) (tg_hi t1 (sr sh r0 14) ((((2) * (x2)) + (1)).toNat))
      try simp only [zt0, zt1, zt2, zt3, zt4, zt5, zt6, zt7, zt8, zt9, zt10, zt11, zt12, zt13, e0_2, e0_10, e0_11] at gl4
      first | exact qI_rt (by omega) (by omega) ⟨f0, by ((try have c0 := hq1 13 (by decide)); (try have c0 := hq1 13); (try have c1 := e0_2 13); (try simp only [zt0, zt1, zt2, zt3, zt4, zt5, zt6, zt7, zt8, zt9, zt10, zt11, zt12, zt13] at *) <;> omega)⟩ | exact qI_nf ⟨f0, by ((try have c0 := hq1 13 (by decide)); (try have c0 := hq1 13); (try have c1 := e0_2 13); (try simp only [zt0, zt1, zt2, zt3, zt4, zt5, zt6, zt7, zt8, zt9, zt10, zt11, zt12, zt13] at *) <;> omega)⟩
    · refine zok_ck ((q0).1) ?_
      first | exact qI_rt (by omega) (by omega) ⟨f0, by ((try have c0 := hq1 13 (by decide)); (try have c0 := hq1 13); (try have c1 := e0_2 13); (try simp only [zt0, zt1, zt2, zt3, zt4, zt5, zt6, zt7, zt8, zt9, zt10, zt11, zt12, zt13] at *) <;> omega)⟩ | exact qI_nf ⟨f0, by ((try have c0 := hq1 13 (by decide)); (try have c0 := hq1 13); (try have c1 := e0_2 13); (try simp only [zt0, zt1, zt2, zt3, zt4, zt5, zt6, zt7, zt8, zt9, zt10, zt11, zt12, zt13] at *) <;> omega)⟩
theorem l171_25 {sh : zSh} {t0 : zSt} {MB : Nat} {r0 : Nat} (q0 : zMd sh MB r0) {x1 : Int} (u1 : -2147483648 ≤ x1 ∧ x1 ≤ 2147483647) {x2 : Int} (u2 : -2147483648 ≤ x2 ∧ x2 ≤ 2147483647) (G : GI sh r0 t0) : ∀ (n : Nat)   (t1 : zSt), FrV sh r0 [0, 3, 4, 14] t0 t1 → (0 ≤ x1 ∧ x1 ≤ 7) ∧ (tg t1 (sr sh r0 2) 13 = tg t0 (sr sh r0 2) 13) → ((0 : Int)).toNat < n → zok (zev zP 171 25 [some (zR r0), some (zI (oI x1)), some (zI (oI x2)), none] [] (sh, t1)) (qI (fun x t' => FrV sh r0 [0, 3, 4, 14] t0 t' ∧ (tg t' (sr sh r0 2) 13 = tg t0 (sr sh r0 2) 13)) sh) := by
  intro n
  induction n with
  | zero => intro   t1 f0 _ hm; omega
  | succ n ih =>
    intro   t1 f0 hv hm
    have ha0_1 : (sk sh (sr sh r0 1)).2 = 21000 := by rw [q0.2.2.2.2.1]
    have ha0_2 : (sk sh (sr sh r0 2)).2 = 14 := by rw [q0.2.2.2.2.2.1]
    have ha0_3 : (sk sh (sr sh r0 3)).2 = 98 := by rw [q0.2.2.2.2.2.2.1]
    have ha0_4 : (sk sh (sr sh r0 4)).2 = 98 := by rw [q0.2.2.2.2.2.2.2.1]
    have ha0_8 : (sk sh (sr sh r0 8)).2 = 1500 := by rw [q0.2.2.2.2.2.2.2.2.1]
    have ha0_9 : (sk sh (sr sh r0 9)).2 = 10500 := by rw [q0.2.2.2.2.2.2.2.2.2.1]
    have ha0_10 : (sk sh (sr sh r0 10)).2 = 7 := by rw [q0.2.2.2.2.2.2.2.2.2.2.1]
    have ha0_11 : (sk sh (sr sh r0 11)).2 = 7 := by rw [q0.2.2.2.2.2.2.2.2.2.2.2.1]
    have ha0_12 : (sk sh (sr sh r0 12)).2 = 1500 := by rw [q0.2.2.2.2.2.2.2.2.2.2.2.2.1]
    have ha0_13 : (sk sh (sr sh r0 13)).2 = 1500 := by rw [q0.2.2.2.2.2.2.2.2.2.2.2.2.2.1]
    have ha0_14 : (sk sh (sr sh r0 14)).2 = 20 := by rw [q0.2.2.2.2.2.2.2.2.2.2.2.2.2.2]
    have e0_2 : ∀ k, tg t1 (sr sh r0 2) k = tg t0 (sr sh r0 2) k := fun k => f0.eq q0 (i := 2) (by decide) (by decide) k
    have e0_10 : ∀ k, tg t1 (sr sh r0 10) k = tg t0 (sr sh r0 10) k := fun k => f0.eq q0 (i := 10) (by decide) (by decide) k
    have e0_11 : ∀ k, tg t1 (sr sh r0 11) k = tg t0 (sr sh r0 11) k := fun k => f0.eq q0 (i := 11) (by decide) (by decide) k
    try simp only [zt0, zt1, zt2, zt3, zt4, zt5, zt6, zt7, zt8, zt9, zt10, zt11, zt12, zt13, e0_2, e0_10, e0_11] at hv
    try simp only [zt0, zt1, zt2, zt3, zt4, zt5, zt6, zt7, zt8, zt9, zt10, zt11, zt12, zt13, e0_2, e0_10, e0_11] at hm
    rw [b171_25]
    try simp only [zput_s, zput_n, ti_g, oI_add, oI_sub, oI_mul]
    refine zok_ck ((q0).1) ?_
    refine zok_cI (s169 (q0) (by omega) (by first | (omega) | ((try simp only [zt0, zt1, zt2, zt3, zt4, zt5, zt6, zt7, zt8, zt9, zt10, zt11, zt12, zt13, e0_2, e0_10, e0_11]); omega)) (f0.g)) (fun y2 t2 u2 p2 => ?_)
    obtain ⟨f2, p2⟩ := p2
    have e2_2 : ∀ k, tg t2 (sr sh r0 2) k = tg t1 (sr sh r0 2) k := fun k => f2.eq q0 (i := 2) (by decide) (by decide) k
    have e2_10 : ∀ k, tg t2 (sr sh r0 10) k = tg t1 (sr sh r0 10) k := fun k => f2.eq q0 (i := 10) (by decide) (by decide) k
    have e2_11 : ∀ k, tg t2 (sr sh r0 11) k = tg t1 (sr sh r0 11) k := fun k => f2.eq q0 (i := 11) (by decide) (by decide) k
    try simp only [zt0, zt1, zt2, zt3, zt4, zt5, zt6, zt7, zt8, zt9, zt10, zt11, zt12, zt13, e0_2, e0_10, e0_11, e2_2, e2_10, e2_11] at p2
    have g3_1 := And.intro (tg_lo (tI t2 r0 0 (oI 2)) r0 0) (tg_hi (tI t2 r0 0 (oI 2)) r0 0)
    simp only [zput_s, zput_n, ti_g, oI_add, oI_sub, oI_mul, zt0, zt1, zt2, zt3, zt4, zt5, zt6, zt7, zt8, zt9, zt10, zt11, zt12, zt13, e0_2, e0_10, e0_11, e2_2, e2_10, e2_11, b171_30]
    try simp only [zput_s, zput_n, ti_g, oI_add, oI_sub, oI_mul]
    first | refine zok_lt (by omega) (fun c4 => ?_) (fun c4 => ?_) | refine zok_if (fun c4 => ?_) (fun c4 => ?_)
    · refine zok_ck (by first | exact ⟨(q0).1, fun e => by cases e⟩ | exact (q0).1) ?_
      obtain ⟨t5, ht5⟩ : ∃ t', t' = tI t2 r0 (0) (oI (2)) := ⟨_, rfl⟩
      try simp only [zt0, zt1, zt2, zt3, zt4, zt5, zt6, zt7, zt8, zt9, zt10, zt11, zt12, zt13, e0_2, e0_10, e0_11, e2_2, e2_10, e2_11] at ht5
      rw [← ht5]
      have f5 : FrV sh r0 [0] t2 t5 := by rw [ht5]; exact GI_m q0 (f2.g) (by omega) (fun e => by first | omega | cases e) (fun e => by first | omega | cases e)
      have d5_0 : tg t5 r0 0 = 2 := by rw [ht5]; refine (tg_at (by omega)).trans ?_; first | exact if_pos rfl | exact if_neg (by decide) | (simp only [zt0, zt1, zt2, zt3, zt4, zt5, zt6, zt7, zt8, zt9, zt10, zt11, zt12, zt13, e0_2, e0_10, e0_11, e2_2, e2_10, e2_11, true_and, if_true])
      have d5_16 : tg t5 r0 16 = tg t2 r0 16 := by rw [ht5]; refine (tg_at (by omega)).trans ?_; first | exact if_pos rfl | exact if_neg (by decide) | (simp only [zt0, zt1, zt2, zt3, zt4, zt5, zt6, zt7, zt8, zt9, zt10, zt11, zt12, zt13, e0_2, e0_10, e0_11, e2_2, e2_10, e2_11, true_and, if_true])
      try simp only [zt0, zt1, zt2, zt3, zt4, zt5, zt6, zt7, zt8, zt9, zt10, zt11, zt12, zt13, e0_2, e0_10, e0_11, e2_2, e2_10, e2_11] at d5_0
      try simp only [zt0, zt1, zt2, zt3, zt4, zt5, zt6, zt7, zt8, zt9, zt10, zt11, zt12, zt13, e0_2, e0_10, e0_11, e2_2, e2_10, e2_11] at d5_16
      have e5_2 : ∀ k, tg t5 (sr sh r0 2) k = tg t2 (sr sh r0 2) k := fun k => f5.eq q0 (i := 2) (by decide) (by decide) k
      have e5_3 : ∀ k, tg t5 (sr sh r0 3) k = tg t2 (sr sh r0 3) k := fun k => f5.eq q0 (i := 3) (by decide) (by decide) k
      have e5_4 : ∀ k, tg t5 (sr sh r0 4) k = tg t2 (sr sh r0 4) k := fun k => f5.eq q0 (i := 4) (by decide) (by decide) k
      have e5_10 : ∀ k, tg t5 (sr sh r0 10) k = tg t2 (sr sh r0 10) k := fun k => f5.eq q0 (i := 10) (by decide) (by decide) k
      have e5_11 : ∀ k, tg t5 (sr sh r0 11) k = tg t2 (sr sh r0 11) k := fun k => f5.eq q0 (i := 11) (by decide) (by decide) k
      have e5_14 : ∀ k, tg t5 (sr sh r0 14) k = tg t2 (sr sh r0 14) k := fun k => f5.eq q0 (i := 14) (by decide) (by decide) k
      refine zok_ck ((q0).1) ?_
      first | refine zok_le (by omega) (fun c6 => ?_) (fun c6 => ?_) | refine zok_if (fun c6 => ?_) (fun c6 => ?_)
      · try simp only [zput_s, zput_n, ti_g, oI_add, oI_sub, oI_mul]
        exact l171_81 q0 (by omega) (by omega) G _ _ _ ((FrV.trans (Ns := [0, 3, 4, 14]) ((FrV.trans (Ns := [0, 3, 4, 14]) (f0) f2 (by decide) (by decide))) f5 (by decide) (by decide))) (by first | omega | ((try simp only [zt0, zt1, zt2, zt3, zt4, zt5, zt6, zt7, zt8, zt9, zt10, zt11, zt12, zt13, e0_2, e0_10, e0_11, e2_2, e2_10, e2_11, e5_2, e5_3, e5_4, e5_10, e5_11, e5_14, true_and, and_true]); omega)) (Nat.lt_succ_self _)
      · first | exact qI_rt (by omega) (by omega) ⟨(FrV.trans (Ns := [0, 3, 4, 14]) ((FrV.trans (Ns := [0, 3, 4, 14]) (f0) f2 (by decide) (by decide))) f5 (by decide) (by decide)), by ((try have c0 := hq1 13 (by decide)); (try have c0 := hq1 13); (try have c1 := e0_2 13); (try have c4 := e2_2 13); (try have c7 := e5_2 13); (try simp only [zt0, zt1, zt2, zt3, zt4, zt5, zt6, zt7, zt8, zt9, zt10, zt11, zt12, zt13] at *) <;> omega)⟩ | exact qI_nf ⟨(FrV.trans (Ns := [0, 3, 4, 14]) ((FrV.trans (Ns := [0, 3, 4, 14]) (f0) f2 (by decide) (by decide))) f5 (by decide) (by decide)), by ((try have c0 := hq1 13 (by decide)); (try have c0 := hq1 13); (try have c1 := e0_2 13); (try have c4 := e2_2 13); (try have c7 := e5_2 13); (try simp only [zt0, zt1, zt2, zt3, zt4, zt5, zt6, zt7, zt8, zt9, zt10, zt11, zt12, zt13] at *) <;> omega)⟩
    · first | refine zok_le (by omega) (fun c7 => ?_) (fun c7 => ?_) | refine zok_if (fun c7 => ?_) (fun c7 => ?_)
      · first | refine zok_ne (by omega) (fun c8 => ?_) (fun c8 => ?_) | refine zok_if (fun c8 => ?_) (fun c8 => ?_)
        · refine zok_pI (s120 (by omega) (by omega) (by omega)) (fun y9 u9 p9 => ?_)
          try simp only [zt0, zt1, zt2, zt3, zt4, zt5, zt6, zt7, zt8, zt9, zt10, zt11, zt12, zt13, e0_2, e0_10, e0_11, e2_2, e2_10, e2_11] at p9
          have g10_1 := And.intro (tg_lo (tI t2 r0 0 (oI 3)) r0 0) (tg_hi (tI t2 r0 0 (oI 3)) r0 0)
          have g10_2 := And.intro (tg_lo (tI t2 r0 0 (oI 0)) r0 0) (tg_hi (tI t2 r0 0 (oI 0)) r0 0)
          simp only [zput_s, zput_n, ti_g, oI_add, oI_sub, oI_mul, zt0, zt1, zt2, zt3, zt4, zt5, zt6, zt7, zt8, zt9, zt10, zt11, zt12, zt13, e0_2, e0_10, e0_11, e2_2, e2_10, e2_11, b171_61]
          try simp only [zput_s, zput_n, ti_g, oI_add, oI_sub, oI_mul]
          first | refine zok_eq (by omega) (fun c11 => ?_) (fun c11 => ?_) | refine zok_if (fun c11 => ?_) (fun c11 => ?_)
          · refine zok_ck (by first | exact ⟨(q0).1, fun e => by cases e⟩ | exact (q0).1) ?_
            obtain ⟨t12, ht12⟩ : ∃ t', t' = tI t2 r0 (0) (oI (3)) := ⟨_, rfl⟩
            try simp only [zt0, zt1, zt2, zt3, zt4, zt5, zt6, zt7, zt8, zt9, zt10, zt11, zt12, zt13, e0_2, e0_10, e0_11, e2_2, e2_10, e2_11] at ht12
            rw [← ht12]
            have f12 : FrV sh r0 [0] t2 t12 := by rw [ht12]; exact GI_m q0 (f2.g) (by omega) (fun e => by first | omega | cases e) (fun e => by first | omega | cases e)
            have d12_0 : tg t12 r0 0 = 3 := by rw [ht12]; refine (tg_at (by omega)).trans ?_; first | exact if_pos rfl | exact if_neg (by decide) | (simp only [zt0, zt1, zt2, zt3, zt4, zt5, zt6, zt7, zt8, zt9, zt10, zt11, zt12, zt13, e0_2, e0_10, e0_11, e2_2, e2_10, e2_11, true_and, if_true])
            have d12_16 : tg t12 r0 16 = tg t2 r0 16 := by rw [ht12]; refine (tg_at (by omega)).trans ?_; first | exact if_pos rfl | exact if_neg (by decide) | (simp only [zt0, zt1, zt2, zt3, zt4, zt5, zt6, zt7, zt8, zt9, zt10, zt11, zt12, zt13, e0_2, e0_10, e0_11, e2_2, e2_10, e2_11, true_and, if_true])
            try simp only [zt0, zt1, zt2, zt3, zt4, zt5, zt6, zt7, zt8, zt9, zt10, zt11, zt12, zt13, e0_2, e0_10, e0_11, e2_2, e2_10, e2_11] at d12_0
            try simp only [zt0, zt1, zt2, zt3, zt4, zt5, zt6, zt7, zt8, zt9, zt10, zt11, zt12, zt13, e0_2, e0_10, e0_11, e2_2, e2_10, e2_11] at d12_16
            have e12_2 : ∀ k, tg t12 (sr sh r0 2) k = tg t2 (sr sh r0 2) k := fun k => f12.eq q0 (i := 2) (by decide) (by decide) k
            have e12_3 : ∀ k, tg t12 (sr sh r0 3) k = tg t2 (sr sh r0 3) k := fun k => f12.eq q0 (i := 3) (by decide) (by decide) k
            have e12_4 : ∀ k, tg t12 (sr sh r0 4) k = tg t2 (sr sh r0 4) k := fun k => f12.eq q0 (i := 4) (by decide) (by decide) k
            have e12_10 : ∀ k, tg t12 (sr sh r0 10) k = tg t2 (sr sh r0 10) k := fun k => f12.eq q0 (i := 10) (by decide) (by decide) k
            have e12_11 : ∀ k, tg t12 (sr sh r0 11) k = tg t2 (sr sh r0 11) k := fun k => f12.eq q0 (i := 11) (by decide) (by decide) k
            have e12_14 : ∀ k, tg t12 (sr sh r0 14) k = tg t2 (sr sh r0 14) k := fun k => f12.eq q0 (i := 14) (by decide) (by decide) k
            refine zok_ck ((q0).1) ?_
            first | refine zok_le (by omega) (fun c13 => ?_) (fun c13 => ?_) | refine zok_if (fun c13 => ?_) (fun c13 => ?_)
            · try simp only [zput_s, zput_n, ti_g, oI_add, oI_sub, oI_mul]
              exact l171_81 q0 (by omega) (by omega) G _ _ _ ((FrV.trans (Ns := [0, 3, 4, 14]) ((FrV.trans (Ns := [0, 3, 4, 14]) (f0) f2 (by decide) (by decide))) f12 (by decide) (by decide))) (by first | omega | ((try simp only [zt0, zt1, zt2, zt3, zt4, zt5, zt6, zt7, zt8, zt9, zt10, zt11, zt12, zt13, e0_2, e0_10, e0_11, e2_2, e2_10, e2_11, e12_2, e12_3, e12_4, e12_10, e12_11, e12_14, true_and, and_true]); omega)) (Nat.lt_succ_self _)
            · first | exact qI_rt (by omega) (by omega) ⟨(FrV.trans (Ns := [0, 3, 4, 14]) ((FrV.trans (Ns := [0, 3, 4, 14]) (f0) f2 (by decide) (by decide))) f12 (by decide) (by decide)), by ((try have c0 := hq1 13 (by decide)); (try have c0 := hq1 13); (try have c1 := e0_2 13); (try have c4 := e2_2 13); (try have c7 := e12_2 13); (try simp only [zt0, zt1, zt2, zt3, zt4, zt5, zt6, zt7, zt8, zt9, zt10, zt11, zt12, zt13] at *) <;> omega)⟩ | exact qI_nf ⟨(FrV.trans (Ns := [0, 3, 4, 14]) ((FrV.trans (Ns := [0, 3, 4, 14]) (f0) f2 (by decide) (by decide))) f12 (by decide) (by decide)), by ((try have c0 := hq1 13 (by decide)); (try have c0 := hq1 13); (try have c1 := e0_2 13); (try have c4 := e2_2 13); (try have c7 := e12_2 13); (try simp only [zt0, zt1, zt2, zt3, zt4, zt5, zt6, zt7, zt8, zt9, zt10, zt11, zt12, zt13] at *) <;> omega)⟩
          · refine zok_ck (by first | exact ⟨(q0).1, fun e => by cases e⟩ | exact (q0).1) ?_
            obtain ⟨t14, ht14⟩ : ∃ t', t' = tI t2 r0 (0) (oI (0)) := ⟨_, rfl⟩
            try simp only [zt0, zt1, zt2, zt3, zt4, zt5, zt6, zt7, zt8, zt9, zt10, zt11, zt12, zt13, e0_2, e0_10, e0_11, e2_2, e2_10, e2_11] at ht14
            rw [← ht14]
            have f14 : FrV sh r0 [0] t2 t14 := by rw [ht14]; exact GI_m q0 (f2.g) (by omega) (fun e => by first | omega | cases e) (fun e => by first | omega | cases e)
            have d14_0 : tg t14 r0 0 = 0 := by rw [ht14]; refine (tg_at (by omega)).trans ?_; first | exact if_pos rfl | exact if_neg (by decide) | (simp only [zt0, zt1, zt2, zt3, zt4, zt5, zt6, zt7, zt8, zt9, zt10, zt11, zt12, zt13, e0_2, e0_10, e0_11, e2_2, e2_10, e2_11, true_and, if_true])
            have d14_16 : tg t14 r0 16 = tg t2 r0 16 := by rw [ht14]; refine (tg_at (by omega)).trans ?_; first | exact if_pos rfl | exact if_neg (by decide) | (simp only [zt0, zt1, zt2, zt3, zt4, zt5, zt6, zt7, zt8, zt9, zt10, zt11, zt12, zt13, e0_2, e0_10, e0_11, e2_2, e2_10, e2_11, true_and, if_true])
            try simp only [zt0, zt1, zt2, zt3, zt4, zt5, zt6, zt7, zt8, zt9, zt10, zt11, zt12, zt13, e0_2, e0_10, e0_11, e2_2, e2_10, e2_11] at d14_0
            try simp only [zt0, zt1, zt2, zt3, zt4, zt5, zt6, zt7, zt8, zt9, zt10, zt11, zt12, zt13, e0_2, e0_10, e0_11, e2_2, e2_10, e2_11] at d14_16
            have e14_2 : ∀ k, tg t14 (sr sh r0 2) k = tg t2 (sr sh r0 2) k := fun k => f14.eq q0 (i := 2) (by decide) (by decide) k
            have e14_3 : ∀ k, tg t14 (sr sh r0 3) k = tg t2 (sr sh r0 3) k := fun k => f14.eq q0 (i := 3) (by decide) (by decide) k
            have e14_4 : ∀ k, tg t14 (sr sh r0 4) k = tg t2 (sr sh r0 4) k := fun k => f14.eq q0 (i := 4) (by decide) (by decide) k
            have e14_10 : ∀ k, tg t14 (sr sh r0 10) k = tg t2 (sr sh r0 10) k := fun k => f14.eq q0 (i := 10) (by decide) (by decide) k
            have e14_11 : ∀ k, tg t14 (sr sh r0 11) k = tg t2 (sr sh r0 11) k := fun k => f14.eq q0 (i := 11) (by decide) (by decide) k
            have e14_14 : ∀ k, tg t14 (sr sh r0 14) k = tg t2 (sr sh r0 14) k := fun k => f14.eq q0 (i := 14) (by decide) (by decide) k
            refine zok_ck ((q0).1) ?_
            first | refine zok_le (by omega) (fun c15 => ?_) (fun c15 => ?_) | refine zok_if (fun c15 => ?_) (fun c15 => ?_)
            · try simp only [zput_s, zput_n, ti_g, oI_add, oI_sub, oI_mul]
              exact l171_81 q0 (by omega) (by omega) G _ _ _ ((FrV.trans (Ns := [0, 3, 4, 14]) ((FrV.trans (Ns := [0, 3, 4, 14]) (f0) f2 (by decide) (by decide))) f14 (by decide) (by decide))) (by first | omega | ((try simp only [zt0, zt1, zt2, zt3, zt4, zt5, zt6, zt7, zt8, zt9, zt10, zt11, zt12, zt13, e0_2, e0_10, e0_11, e2_2, e2_10, e2_11, e14_2, e14_3, e14_4, e14_10, e14_11, e14_14, true_and, and_true]); omega)) (Nat.lt_succ_self _)
            · first | exact qI_rt (by omega) (by omega) ⟨(FrV.trans (Ns := [0, 3, 4, 14]) ((FrV.trans (Ns := [0, 3, 4, 14]) (f0) f2 (by decide) (by decide))) f14 (by decide) (by decide)), by ((try have c0 := hq1 13 (by decide)); (try have c0 := hq1 13); (try have c1 := e0_2 13); (try have c4 := e2_2 13); (try have c7 := e14_2 13); (try simp only [zt0, zt1, zt2, zt3, zt4, zt5, zt6, zt7, zt8, zt9, zt10, zt11, zt12, zt13] at *) <;> omega)⟩ | exact qI_nf ⟨(FrV.trans (Ns := [0, 3, 4, 14]) ((FrV.trans (Ns := [0, 3, 4, 14]) (f0) f2 (by decide) (by decide))) f14 (by decide) (by decide)), by ((try have c0 := hq1 13 (by decide)); (try have c0 := hq1 13); (try have c1 := e0_2 13); (try have c4 := e2_2 13); (try have c7 := e14_2 13); (try simp only [zt0, zt1, zt2, zt3, zt4, zt5, zt6, zt7, zt8, zt9, zt10, zt11, zt12, zt13] at *) <;> omega)⟩
        · refine zok_pI (s120 (by omega) (by omega) (by omega)) (fun y16 u16 p16 => ?_)
          try simp only [zt0, zt1, zt2, zt3, zt4, zt5, zt6, zt7, zt8, zt9, zt10, zt11, zt12, zt13, e0_2, e0_10, e0_11, e2_2, e2_10, e2_11] at p16
          have g17_1 := And.intro (tg_lo (tI t2 r0 0 (oI 3)) r0 0) (tg_hi (tI t2 r0 0 (oI 3)) r0 0)
          have g17_2 := And.intro (tg_lo (tI t2 r0 0 (oI 0)) r0 0) (tg_hi (tI t2 r0 0 (oI 0)) r0 0)
          simp only [zput_s, zput_n, ti_g, oI_add, oI_sub, oI_mul, zt0, zt1, zt2, zt3, zt4, zt5, zt6, zt7, zt8, zt9, zt10, zt11, zt12, zt13, e0_2, e0_10, e0_11, e2_2, e2_10, e2_11, b171_61]
          try simp only [zput_s, zput_n, ti_g, oI_add, oI_sub, oI_mul]
          first | refine zok_eq (by omega) (fun c18 => ?_) (fun c18 => ?_) | refine zok_if (fun c18 => ?_) (fun c18 => ?_)
          · refine zok_ck (by first | exact ⟨(q0).1, fun e => by cases e⟩ | exact (q0).1) ?_
            obtain ⟨t19, ht19⟩ : ∃ t', t' = tI t2 r0 (0) (oI (3)) := ⟨_, rfl⟩
            try simp only [zt0, zt1, zt2, zt3, zt4, zt5, zt6, zt7, zt8, zt9, zt10, zt11, zt12, zt13, e0_2, e0_10, e0_11, e2_2, e2_10, e2_11] at ht19
            rw [← ht19]
            have f19 : FrV sh r0 [0] t2 t19 := by rw [ht19]; exact GI_m q0 (f2.g) (by omega) (fun e => by first | omega | cases e) (fun e => by first | omega | cases e)
            have d19_0 : tg t19 r0 0 = 3 := by rw [ht19]; refine (tg_at (by omega)).trans ?_; first | exact if_pos rfl | exact if_neg (by decide) | (simp only [zt0, zt1, zt2, zt3, zt4, zt5, zt6, zt7, zt8, zt9, zt10, zt11, zt12, zt13, e0_2, e0_10, e0_11, e2_2, e2_10, e2_11, true_and, if_true])
            have d19_16 : tg t19 r0 16 = tg t2 r0 16 := by rw [ht19]; refine (tg_at (by omega)).trans ?_; first | exact if_pos rfl | exact if_neg (by decide) | (simp only [zt0, zt1, zt2, zt3, zt4, zt5, zt6, zt7, zt8, zt9, zt10, zt11, zt12, zt13, e0_2, e0_10, e0_11, e2_2, e2_10, e2_11, true_and, if_true])
            try simp only [zt0, zt1, zt2, zt3, zt4, zt5, zt6, zt7, zt8, zt9, zt10, zt11, zt12, zt13, e0_2, e0_10, e0_11, e2_2, e2_10, e2_11] at d19_0
            try simp only [zt0, zt1, zt2, zt3, zt4, zt5, zt6, zt7, zt8, zt9, zt10, zt11, zt12, zt13, e0_2, e0_10, e0_11, e2_2, e2_10, e2_11] at d19_16
            have e19_2 : ∀ k, tg t19 (sr sh r0 2) k = tg t2 (sr sh r0 2) k := fun k => f19.eq q0 (i := 2) (by decide) (by decide) k
            have e19_3 : ∀ k, tg t19 (sr sh r0 3) k = tg t2 (sr sh r0 3) k := fun k => f19.eq q0 (i := 3) (by decide) (by decide) k
            have e19_4 : ∀ k, tg t19 (sr sh r0 4) k = tg t2 (sr sh r0 4) k := fun k => f19.eq q0 (i := 4) (by decide) (by decide) k
            have e19_10 : ∀ k, tg t19 (sr sh r0 10) k = tg t2 (sr sh r0 10) k := fun k => f19.eq q0 (i := 10) (by decide) (by decide) k
            have e19_11 : ∀ k, tg t19 (sr sh r0 11) k = tg t2 (sr sh r0 11) k := fun k => f19.eq q0 (i := 11) (by decide) (by decide) k
            have e19_14 : ∀ k, tg t19 (sr sh r0 14) k = tg t2 (sr sh r0 14) k := fun k => f19.eq q0 (i := 14) (by decide) (by decide) k
            refine zok_ck ((q0).1) ?_
            first | refine zok_le (by omega) (fun c20 => ?_) (fun c20 => ?_) | refine zok_if (fun c20 => ?_) (fun c20 => ?_)
            · try simp only [zput_s, zput_n, ti_g, oI_add, oI_sub, oI_mul]
              exact l171_81 q0 (by omega) (by omega) G _ _ _ ((FrV.trans (Ns := [0, 3, 4, 14]) ((FrV.trans (Ns := [0, 3, 4, 14]) (f0) f2 (by decide) (by decide))) f19 (by decide) (by decide))) (by first | omega | ((try simp only [zt0, zt1, zt2, zt3, zt4, zt5, zt6, zt7, zt8, zt9, zt10, zt11, zt12, zt13, e0_2, e0_10, e0_11, e2_2, e2_10, e2_11, e19_2, e19_3, e19_4, e19_10, e19_11, e19_14, true_and, and_true]); omega)) (Nat.lt_succ_self _)
            · first | exact qI_rt (by omega) (by omega) ⟨(FrV.trans (Ns := [0, 3, 4, 14]) ((FrV.trans (Ns := [0, 3, 4, 14]) (f0) f2 (by decide) (by decide))) f19 (by decide) (by decide)), by ((try have c0 := hq1 13 (by decide)); (try have c0 := hq1 13); (try have c1 := e0_2 13); (try have c4 := e2_2 13); (try have c7 := e19_2 13); (try simp only [zt0, zt1, zt2, zt3, zt4, zt5, zt6, zt7, zt8, zt9, zt10, zt11, zt12, zt13] at *) <;> omega)⟩ | exact qI_nf ⟨(FrV.trans (Ns := [0, 3, 4, 14]) ((FrV.trans (Ns := [0, 3, 4, 14]) (f0) f2 (by decide) (by decide))) f19 (by decide) (by decide)), by ((try have c0 := hq1 13 (by decide)); (try have c0 := hq1 13); (try have c1 := e0_2 13); (try have c4 := e2_2 13); (try have c7 := e19_2 13); (try simp only [zt0, zt1, zt2, zt3, zt4, zt5, zt6, zt7, zt8, zt9, zt10, zt11, zt12, zt13] at *) <;> omega)⟩
          · refine zok_ck (by first | exact ⟨(q0).1, fun e => by cases e⟩ | exact (q0).1) ?_
            obtain ⟨t21, ht21⟩ : ∃ t', t' = tI t2 r0 (0) (oI (0)) := ⟨_, rfl⟩
            try simp only [zt0, zt1, zt2, zt3, zt4, zt5, zt6, zt7, zt8, zt9, zt10, zt11, zt12, zt13, e0_2, e0_10, e0_11, e2_2, e2_10, e2_11] at ht21
            rw [← ht21]
            have f21 : FrV sh r0 [0] t2 t21 := by rw [ht21]; exact GI_m q0 (f2.g) (by omega) (fun e => by first | omega | cases e) (fun e => by first | omega | cases e)
            have d21_0 : tg t21 r0 0 = 0 := by rw [ht21]; refine (tg_at (by omega)).trans ?_; first | exact if_pos rfl | exact if_neg (by decide) | (simp only [zt0, zt1, zt2, zt3, zt4, zt5, zt6, zt7, zt8, zt9, zt10, zt11, zt12, zt13, e0_2, e0_10, e0_11, e2_2, e2_10, e2_11, true_and, if_true])
            have d21_16 : tg t21 r0 16 = tg t2 r0 16 := by rw [ht21]; refine (tg_at (by omega)).trans ?_; first | exact if_pos rfl | exact if_neg (by decide) | (simp only [zt0, zt1, zt2, zt3, zt4, zt5, zt6, zt7, zt8, zt9, zt10, zt11, zt12, zt13, e0_2, e0_10, e0_11, e2_2, e2_10, e2_11, true_and, if_true])
            try simp only [zt0, zt1, zt2, zt3, zt4, zt5, zt6, zt7, zt8, zt9, zt10, zt11, zt12, zt13, e0_2, e0_10, e0_11, e2_2, e2_10, e2_11] at d21_0
            try simp only [zt0, zt1, zt2, zt3, zt4, zt5, zt6, zt7, zt8, zt9, zt10, zt11, zt12, zt13, e0_2, e0_10, e0_11, e2_2, e2_10, e2_11] at d21_16
            have e21_2 : ∀ k, tg t21 (sr sh r0 2) k = tg t2 (sr sh r0 2) k := fun k => f21.eq q0 (i := 2) (by decide) (by decide) k
            have e21_3 : ∀ k, tg t21 (sr sh r0 3) k = tg t2 (sr sh r0 3) k := fun k => f21.eq q0 (i := 3) (by decide) (by decide) k
            have e21_4 : ∀ k, tg t21 (sr sh r0 4) k = tg t2 (sr sh r0 4) k := fun k => f21.eq q0 (i := 4) (by decide) (by decide) k
            have e21_10 : ∀ k, tg t21 (sr sh r0 10) k = tg t2 (sr sh r0 10) k := fun k => f21.eq q0 (i := 10) (by decide) (by decide) k
            have e21_11 : ∀ k, tg t21 (sr sh r0 11) k = tg t2 (sr sh r0 11) k := fun k => f21.eq q0 (i := 11) (by decide) (by decide) k
            have e21_14 : ∀ k, tg t21 (sr sh r0 14) k = tg t2 (sr sh r0 14) k := fun k => f21.eq q0 (i := 14) (by decide) (by decide) k
            refine zok_ck ((q0).1) ?_
            first | refine zok_le (by omega) (fun c22 => ?_) (fun c22 => ?_) | refine zok_if (fun c22 => ?_) (fun c22 => ?_)
            · try simp only [zput_s, zput_n, ti_g, oI_add, oI_sub, oI_mul]
              exact l171_81 q0 (by omega) (by omega) G _ _ _ ((FrV.trans (Ns := [0, 3, 4, 14]) ((FrV.trans (Ns := [0, 3, 4, 14]) (f0) f2 (by decide) (by decide))) f21 (by decide) (by decide))) (by first | omega | ((try simp only [zt0, zt1, zt2, zt3, zt4, zt5, zt6, zt7, zt8, zt9, zt10, zt11, zt12, zt13, e0_2, e0_10, e0_11, e2_2, e2_10, e2_11, e21_2, e21_3, e21_4, e21_10, e21_11, e21_14, true_and, and_true]); omega)) (Nat.lt_succ_self _)
            · first | exact qI_rt (by omega) (by omega) ⟨(FrV.trans (Ns := [0, 3, 4, 14]) ((FrV.trans (Ns := [0, 3, 4, 14]) (f0) f2 (by decide) (by decide))) f21 (by decide) (by decide)), by ((try have c0 := hq1 13 (by decide)); (try have c0 := hq1 13); (try have c1 := e0_2 13); (try have c4 := e2_2 13); (try have c7 := e21_2 13); (try simp only [zt0, zt1, zt2, zt3, zt4, zt5, zt6, zt7, zt8, zt9, zt10, zt11, zt12, zt13] at *) <;> omega)⟩ | exact qI_nf ⟨(FrV.trans (Ns := [0, 3, 4, 14]) ((FrV.trans (Ns := [0, 3, 4, 14]) (f0) f2 (by decide) (by decide))) f21 (by decide) (by decide)), by ((try have c0 := hq1 13 (by decide)); (try have c0 := hq1 13); (try have c1 := e0_2 13); (try have c4 := e2_2 13); (try have c7 := e21_2 13); (try simp only [zt0, zt1, zt2, zt3, zt4, zt5, zt6, zt7, zt8, zt9, zt10, zt11, zt12, zt13] at *) <;> omega)⟩
      · refine zok_ck (by first | exact ⟨(q0).1, fun e => by cases e⟩ | exact (q0).1) ?_
        obtain ⟨t23, ht23⟩ : ∃ t', t' = tI t2 r0 (0) (oI (2)) := ⟨_, rfl⟩
        try simp only [zt0, zt1, zt2, zt3, zt4, zt5, zt6, zt7, zt8, zt9, zt10, zt11, zt12, zt13, e0_2, e0_10, e0_11, e2_2, e2_10, e2_11] at ht23
        rw [← ht23]
        have f23 : FrV sh r0 [0] t2 t23 := by rw [ht23]; exact GI_m q0 (f2.g) (by omega) (fun e => by first | omega | cases e) (fun e => by first | omega | cases e)
        have d23_0 : tg t23 r0 0 = 2 := by rw [ht23]; refine (tg_at (by omega)).trans ?_; first | exact if_pos rfl | exact if_neg (by decide) | (simp only [zt0, zt1, zt2, zt3, zt4, zt5, zt6, zt7, zt8, zt9, zt10, zt11, zt12, zt13, e0_2, e0_10, e0_11, e2_2, e2_10, e2_11, true_and, if_true])
        have d23_16 : tg t23 r0 16 = tg t2 r0 16 := by rw [ht23]; refine (tg_at (by omega)).trans ?_; first | exact if_pos rfl | exact if_neg (by decide) | (simp only [zt0, zt1, zt2, zt3, zt4, zt5, zt6, zt7, zt8, zt9, zt10, zt11, zt12, zt13, e0_2, e0_10, e0_11, e2_2, e2_10, e2_11, true_and, if_true])
        try simp only [zt0, zt1, zt2, zt3, zt4, zt5, zt6, zt7, zt8, zt9, zt10, zt11, zt12, zt13, e0_2, e0_10, e0_11, e2_2, e2_10, e2_11] at d23_0
        try simp only [zt0, zt1, zt2, zt3, zt4, zt5, zt6, zt7, zt8, zt9, zt10, zt11, zt12, zt13, e0_2, e0_10, e0_11, e2_2, e2_10, e2_11] at d23_16
        have e23_2 : ∀ k, tg t23 (sr sh r0 2) k = tg t2 (sr sh r0 2) k := fun k => f23.eq q0 (i := 2) (by decide) (by decide) k
        have e23_3 : ∀ k, tg t23 (sr sh r0 3) k = tg t2 (sr sh r0 3) k := fun k => f23.eq q0 (i := 3) (by decide) (by decide) k
        have e23_4 : ∀ k, tg t23 (sr sh r0 4) k = tg t2 (sr sh r0 4) k := fun k => f23.eq q0 (i := 4) (by decide) (by decide) k
        have e23_10 : ∀ k, tg t23 (sr sh r0 10) k = tg t2 (sr sh r0 10) k := fun k => f23.eq q0 (i := 10) (by decide) (by decide) k
        have e23_11 : ∀ k, tg t23 (sr sh r0 11) k = tg t2 (sr sh r0 11) k := fun k => f23.eq q0 (i := 11) (by decide) (by decide) k
        have e23_14 : ∀ k, tg t23 (sr sh r0 14) k = tg t2 (sr sh r0 14) k := fun k => f23.eq q0 (i := 14) (by decide) (by decide) k
        refine zok_ck ((q0).1) ?_
        first | refine zok_le (by omega) (fun c24 => ?_) (fun c24 => ?_) | refine zok_if (fun c24 => ?_) (fun c24 => ?_)
        · try simp only [zput_s, zput_n, ti_g, oI_add, oI_sub, oI_mul]
          exact l171_81 q0 (by omega) (by omega) G _ _ _ ((FrV.trans (Ns := [0, 3, 4, 14]) ((FrV.trans (Ns := [0, 3, 4, 14]) (f0) f2 (by decide) (by decide))) f23 (by decide) (by decide))) (by first | omega | ((try simp only [zt0, zt1, zt2, zt3, zt4, zt5, zt6, zt7, zt8, zt9, zt10, zt11, zt12, zt13, e0_2, e0_10, e0_11, e2_2, e2_10, e2_11, e23_2, e23_3, e23_4, e23_10, e23_11, e23_14, true_and, and_true]); omega)) (Nat.lt_succ_self _)
        · first | exact qI_rt (by omega) (by omega) ⟨(FrV.trans (Ns := [0, 3, 4, 14]) ((FrV.trans (Ns := [0, 3, 4, 14]) (f0) f2 (by decide) (by decide))) f23 (by decide) (by decide)), by ((try have c0 := hq1 13 (by decide)); (try have c0 := hq1 13); (try have c1 := e0_2 13); (try have c4 := e2_2 13); (try have c7 := e23_2 13); (try simp only [zt0, zt1, zt2, zt3, zt4, zt5, zt6, zt7, zt8, zt9, zt10, zt11, zt12, zt13] at *) <;> omega)⟩ | exact qI_nf ⟨(FrV.trans (Ns := [0, 3, 4, 14]) ((FrV.trans (Ns := [0, 3, 4, 14]) (f0) f2 (by decide) (by decide))) f23 (by decide) (by decide)), by ((try have c0 := hq1 13 (by decide)); (try have c0 := hq1 13); (try have c1 := e0_2 13); (try have c4 := e2_2 13); (try have c7 := e23_2 13); (try simp only [zt0, zt1, zt2, zt3, zt4, zt5, zt6, zt7, zt8, zt9, zt10, zt11, zt12, zt13] at *) <;> omega)⟩
theorem s171 {sh : zSh} {t : zSt} {MB : Nat} {r0 : Nat} (q0 : zMd sh MB r0) {x1 : Int} (u1 : -2147483648 ≤ x1 ∧ x1 ≤ 2147483647) {x2 : Int} (u2 : -2147483648 ≤ x2 ∧ x2 ≤ 2147483647) (G : GI sh r0 t) : zok (zcl zP 171 [zR r0, zI (oI x1), zI (oI x2)] (sh, t)) (qI (fun x t' => FrV sh r0 [0, 3, 4, 14] t t' ∧ (tg t' (sr sh r0 2) 13 = tg t (sr sh r0 2) 13)) sh) := by
  have ha0_1 : (sk sh (sr sh r0 1)).2 = 21000 := by rw [q0.2.2.2.2.1]
  have ha0_2 : (sk sh (sr sh r0 2)).2 = 14 := by rw [q0.2.2.2.2.2.1]
  have ha0_3 : (sk sh (sr sh r0 3)).2 = 98 := by rw [q0.2.2.2.2.2.2.1]
  have ha0_4 : (sk sh (sr sh r0 4)).2 = 98 := by rw [q0.2.2.2.2.2.2.2.1]
  have ha0_8 : (sk sh (sr sh r0 8)).2 = 1500 := by rw [q0.2.2.2.2.2.2.2.2.1]
  have ha0_9 : (sk sh (sr sh r0 9)).2 = 10500 := by rw [q0.2.2.2.2.2.2.2.2.2.1]
  have ha0_10 : (sk sh (sr sh r0 10)).2 = 7 := by rw [q0.2.2.2.2.2.2.2.2.2.2.1]
  have ha0_11 : (sk sh (sr sh r0 11)).2 = 7 := by rw [q0.2.2.2.2.2.2.2.2.2.2.2.1]
  have ha0_12 : (sk sh (sr sh r0 12)).2 = 1500 := by rw [q0.2.2.2.2.2.2.2.2.2.2.2.2.1]
  have ha0_13 : (sk sh (sr sh r0 13)).2 = 1500 := by rw [q0.2.2.2.2.2.2.2.2.2.2.2.2.2.1]
  have ha0_14 : (sk sh (sr sh r0 14)).2 = 20 := by rw [q0.2.2.2.2.2.2.2.2.2.2.2.2.2.2]
  rw [b171_0]
  try simp only [zput_s, zput_n, ti_g, oI_add, oI_sub, oI_mul]
  refine zok_pI (s127 (by omega)) (fun y26 u26 p26 => ?_)
  try simp only [zt0, zt1, zt2, zt3, zt4, zt5, zt6, zt7, zt8, zt9, zt10, zt11, zt12, zt13] at p26
  have g27_1 := And.intro (tg_lo (tI t r0 0 (oI 1)) r0 0) (tg_hi (tI t r0 0 (oI 1)) r0 0)
  have g27_2 := And.intro (tg_lo (tI t r0 0 (oI 0)) r0 0) (tg_hi (tI t r0 0 (oI 0)) r0 0)
  simp only [zput_s, zput_n, ti_g, oI_add, oI_sub, oI_mul, zt0, zt1, zt2, zt3, zt4, zt5, zt6, zt7, zt8, zt9, zt10, zt11, zt12, zt13, b171_5]
  try simp only [zput_s, zput_n, ti_g, oI_add, oI_sub, oI_mul]
  first | refine zok_eq (by omega) (fun c28 => ?_) (fun c28 => ?_) | refine zok_if (fun c28 => ?_) (fun c28 => ?_)
  · refine zok_ck (by first | exact ⟨(q0).1, fun e => by cases e⟩ | exact (q0).1) ?_
    obtain ⟨t29, ht29⟩ : ∃ t', t' = tI t r0 (0) (oI (1)) := ⟨_, rfl⟩
    try simp only [zt0, zt1, zt2, zt3, zt4, zt5, zt6, zt7, zt8, zt9, zt10, zt11, zt12, zt13] at ht29
    rw [← ht29]
    have f29 : FrV sh r0 [0] t t29 := by rw [ht29]; exact GI_m q0 (G) (by omega) (fun e => by first | omega | cases e) (fun e => by first | omega | cases e)
    have d29_0 : tg t29 r0 0 = 1 := by rw [ht29]; refine (tg_at (by omega)).trans ?_; first | exact if_pos rfl | exact if_neg (by decide) | (simp only [zt0, zt1, zt2, zt3, zt4, zt5, zt6, zt7, zt8, zt9, zt10, zt11, zt12, zt13, true_and, if_true])
    have d29_16 : tg t29 r0 16 = tg t r0 16 := by rw [ht29]; refine (tg_at (by omega)).trans ?_; first | exact if_pos rfl | exact if_neg (by decide) | (simp only [zt0, zt1, zt2, zt3, zt4, zt5, zt6, zt7, zt8, zt9, zt10, zt11, zt12, zt13, true_and, if_true])
    try simp only [zt0, zt1, zt2, zt3, zt4, zt5, zt6, zt7, zt8, zt9, zt10, zt11, zt12, zt13] at d29_0
    try simp only [zt0, zt1, zt2, zt3, zt4, zt5, zt6, zt7, zt8, zt9, zt10, zt11, zt12, zt13] at d29_16
    have e29_2 : ∀ k, tg t29 (sr sh r0 2) k = tg t (sr sh r0 2) k := fun k => f29.eq q0 (i := 2) (by decide) (by decide) k
    have e29_3 : ∀ k, tg t29 (sr sh r0 3) k = tg t (sr sh r0 3) k := fun k => f29.eq q0 (i := 3) (by decide) (by decide) k
    have e29_4 : ∀ k, tg t29 (sr sh r0 4) k = tg t (sr sh r0 4) k := fun k => f29.eq q0 (i := 4) (by decide) (by decide) k
    have e29_10 : ∀ k, tg t29 (sr sh r0 10) k = tg t (sr sh r0 10) k := fun k => f29.eq q0 (i := 10) (by decide) (by decide) k
    have e29_11 : ∀ k, tg t29 (sr sh r0 11) k = tg t (sr sh r0 11) k := fun k => f29.eq q0 (i := 11) (by decide) (by decide) k
    have e29_14 : ∀ k, tg t29 (sr sh r0 14) k = tg t (sr sh r0 14) k := fun k => f29.eq q0 (i := 14) (by decide) (by decide) k
    refine zok_ck ((q0).1) ?_
    first | refine zok_le (by omega) (fun c30 => ?_) (fun c30 => ?_) | refine zok_if (fun c30 => ?_) (fun c30 => ?_)
    · try simp only [zput_s, zput_n, ti_g, oI_add, oI_sub, oI_mul]
      exact l171_25 q0 (by omega) (by omega) G _ _ ((FrV.trans (Ns := [0, 3, 4, 14]) (FrV.refl (Ls := []) G) f29 (by decide) (by decide))) (by first | omega | ((try simp only [zt0, zt1, zt2, zt3, zt4, zt5, zt6, zt7, zt8, zt9, zt10, zt11, zt12, zt13, e29_2, e29_3, e29_4, e29_10, e29_11, e29_14, true_and, and_true]); omega)) (Nat.lt_succ_self _)
    · first | exact qI_rt (by omega) (by omega) ⟨(FrV.trans (Ns := [0, 3, 4, 14]) (FrV.refl (Ls := []) G) f29 (by decide) (by decide)), by ((try have c0 := hq1 13 (by decide)); (try have c0 := hq1 13); (try have c1 := e29_2 13); (try simp only [zt0, zt1, zt2, zt3, zt4, zt5, zt6, zt7, zt8, zt9, zt10, zt11, zt12, zt13] at *) <;> omega)⟩ | exact qI_nf ⟨(FrV.trans (Ns := [0, 3, 4, 14]) (FrV.refl (Ls := []) G) f29 (by decide) (by decide)), by ((try have c0 := hq1 13 (by decide)); (try have c0 := hq1 13); (try have c1 := e29_2 13); (try simp only [zt0, zt1, zt2, zt3, zt4, zt5, zt6, zt7, zt8, zt9, zt10, zt11, zt12, zt13] at *) <;> omega)⟩
  · refine zok_ck (by first | exact ⟨(q0).1, fun e => by cases e⟩ | exact (q0).1) ?_
    obtain ⟨t31, ht31⟩ : ∃ t', t' = tI t r0 (0) (oI (0)) := ⟨_, rfl⟩
    try simp only [zt0, zt1, zt2, zt3, zt4, zt5, zt6, zt7, zt8, zt9, zt10, zt11, zt12, zt13] at ht31
    rw [← ht31]
    have f31 : FrV sh r0 [0] t t31 := by rw [ht31]; exact GI_m q0 (G) (by omega) (fun e => by first | omega | cases e) (fun e => by first | omega | cases e)
    have d31_0 : tg t31 r0 0 = 0 := by rw [ht31]; refine (tg_at (by omega)).trans ?_; first | exact if_pos rfl | exact if_neg (by decide) | (simp only [zt0, zt1, zt2, zt3, zt4, zt5, zt6, zt7, zt8, zt9, zt10, zt11, zt12, zt13, true_and, if_true])
    have d31_16 : tg t31 r0 16 = tg t r0 16 := by rw [ht31]; refine (tg_at (by omega)).trans ?_; first | exact if_pos rfl | exact if_neg (by decide) | (simp only [zt0, zt1, zt2, zt3, zt4, zt5, zt6, zt7, zt8, zt9, zt10, zt11, zt12, zt13, true_and, if_true])
    try simp only [zt0, zt1, zt2, zt3, zt4, zt5, zt6, zt7, zt8, zt9, zt10, zt11, zt12, zt13] at d31_0
    try simp only [zt0, zt1, zt2, zt3, zt4, zt5, zt6, zt7, zt8, zt9, zt10, zt11, zt12, zt13] at d31_16
    have e31_2 : ∀ k, tg t31 (sr sh r0 2) k = tg t (sr sh r0 2) k := fun k => f31.eq q0 (i := 2) (by decide) (by decide) k
    have e31_3 : ∀ k, tg t31 (sr sh r0 3) k = tg t (sr sh r0 3) k := fun k => f31.eq q0 (i := 3) (by decide) (by decide) k
    have e31_4 : ∀ k, tg t31 (sr sh r0 4) k = tg t (sr sh r0 4) k := fun k => f31.eq q0 (i := 4) (by decide) (by decide) k
    have e31_10 : ∀ k, tg t31 (sr sh r0 10) k = tg t (sr sh r0 10) k := fun k => f31.eq q0 (i := 10) (by decide) (by decide) k
    have e31_11 : ∀ k, tg t31 (sr sh r0 11) k = tg t (sr sh r0 11) k := fun k => f31.eq q0 (i := 11) (by decide) (by decide) k
    have e31_14 : ∀ k, tg t31 (sr sh r0 14) k = tg t (sr sh r0 14) k := fun k => f31.eq q0 (i := 14) (by decide) (by decide) k
    refine zok_ck ((q0).1) ?_
    first | refine zok_le (by omega) (fun c32 => ?_) (fun c32 => ?_) | refine zok_if (fun c32 => ?_) (fun c32 => ?_)
    · try simp only [zput_s, zput_n, ti_g, oI_add, oI_sub, oI_mul]
      exact l171_25 q0 (by omega) (by omega) G _ _ ((FrV.trans (Ns := [0, 3, 4, 14]) (FrV.refl (Ls := []) G) f31 (by decide) (by decide))) (by first | omega | ((try simp only [zt0, zt1, zt2, zt3, zt4, zt5, zt6, zt7, zt8, zt9, zt10, zt11, zt12, zt13, e31_2, e31_3, e31_4, e31_10, e31_11, e31_14, true_and, and_true]); omega)) (Nat.lt_succ_self _)
    · first | exact qI_rt (by omega) (by omega) ⟨(FrV.trans (Ns := [0, 3, 4, 14]) (FrV.refl (Ls := []) G) f31 (by decide) (by decide)), by ((try have c0 := hq1 13 (by decide)); (try have c0 := hq1 13); (try have c1 := e31_2 13); (try simp only [zt0, zt1, zt2, zt3, zt4, zt5, zt6, zt7, zt8, zt9, zt10, zt11, zt12, zt13] at *) <;> omega)⟩ | exact qI_nf ⟨(FrV.trans (Ns := [0, 3, 4, 14]) (FrV.refl (Ls := []) G) f31 (by decide) (by decide)), by ((try have c0 := hq1 13 (by decide)); (try have c0 := hq1 13); (try have c1 := e31_2 13); (try simp only [zt0, zt1, zt2, zt3, zt4, zt5, zt6, zt7, zt8, zt9, zt10, zt11, zt12, zt13] at *) <;> omega)⟩
