set_option maxRecDepth 16384
/-! X9_cutAuthority -/
theorem l137_68 {sh : zSh} {t0 : zSt} {MB : Nat} {r0 : Nat} (q0 : zMd sh MB r0) {x1 : Int} (u1 : -2147483648 ≤ x1 ∧ x1 ≤ 2147483647) {x2 : Int} (u2 : -2147483648 ≤ x2 ∧ x2 ≤ 2147483647) {x3 : Int} (u3 : -2147483648 ≤ x3 ∧ x3 ≤ 2147483647) (d1 : 0 ≤ x1 ∧ x1 ≤ 13) (d2 : 0 ≤ x2 ∧ x2 ≤ x3 ∧ x3 ≤ 3000 ∧ (x1 ≠ 12 → x3 ≤ 400)) (d3 : (tg t0 (sr sh r0 3) (7 * x1 + 1).toNat = -1 ∧ tg t0 (sr sh r0 4) (7 * x1 + 1).toNat = -1) ∧ tg t0 (sr sh r0 3) (7 * x1 + 3).toNat = -1 ∧ tg t0 (sr sh r0 4) (7 * x1 + 3).toNat = -1) (G : GI sh r0 t0) : ∀ (n : Nat) (x4 : Int) (x5 : Int) (v6 : Int32) (x7 : Int) (o8 : Option zV) (wo8 : zisL o8 = false) (t1 : zSt), FrV sh r0 [3, 4] t0 t1 → (-2147483648 ≤ x4 ∧ x4 ≤ 2147483647) ∧ (-2147483648 ≤ x5 ∧ x5 ≤ 2147483647) ∧ (-2147483648 ≤ x7 ∧ x7 ≤ 2147483647) ∧ (x2 ≤ x4 ∧ x4 ≤ x3 ∧ x4 ≤ x7 ∧ x7 ≤ x3 ∧ (x5 = x3 ∨ (x4 ≤ x5 ∧ x5 < x7))) ∧ ((tg t1 (sr sh r0 3) (7 * x1 + 1).toNat = -1 ∧ tg t1 (sr sh r0 4) (7 * x1 + 1).toNat = -1 ∧ x2 ≤ x4) ∨ (0 ≤ tg t1 (sr sh r0 3) (7 * x1 + 1).toNat ∧ tg t1 (sr sh r0 4) (7 * x1 + 1).toNat - tg t1 (sr sh r0 3) (7 * x1 + 1).toNat + 1 ≤ x4 - x2)) ∧ (tg t1 (sr sh r0 3) (7 * x1 + 3).toNat = -1 ∧ tg t1 (sr sh r0 4) (7 * x1 + 3).toNat = -1) → (∀ i : Nat, ((i : Int) ≠ 7 * x1 + 1 ∧ (i : Int) ≠ 7 * x1 + 2 ∧ (i : Int) ≠ 7 * x1 + 3) → tg t1 (sr sh r0 3) i = tg t0 (sr sh r0 3) i ∧ tg t1 (sr sh r0 4) i = tg t0 (sr sh r0 4) i) → (x3 - x7).toNat < n → zok (zev zP 137 68 [some (zR r0), some (zI (oI x1)), some (zI (oI x2)), some (zI (oI x3)), some (zI (oI x4)), some (zI (oI x5)), some (zI v6), some (zI (oI x7)), o8] [] (sh, t1)) (zq0 (fun t' => FrV sh r0 [3, 4] t0 t' ∧ ((∀ i : Nat, ((i : Int) ≠ 7 * x1 + 1 ∧ (i : Int) ≠ 7 * x1 + 2 ∧ (i : Int) ≠ 7 * x1 + 3) → tg t' (sr sh r0 3) i = tg t0 (sr sh r0 3) i ∧ tg t' (sr sh r0 4) i = tg t0 (sr sh r0 4) i) ∧ zU (tg t' (sr sh r0 3) (7 * x1 + 1).toNat) (tg t' (sr sh r0 4) (7 * x1 + 1).toNat) (tg t' (sr sh r0 3) (7 * x1 + 2).toNat) (tg t' (sr sh r0 4) (7 * x1 + 2).toNat) + zP1 (tg t' (sr sh r0 3) (7 * x1 + 3).toNat) (tg t' (sr sh r0 4) (7 * x1 + 3).toNat) ≤ x3 - x2 + 2 ∧ (tg t' (sr sh r0 4) (7 * x1 + 1).toNat - tg t' (sr sh r0 3) (7 * x1 + 1).toNat) + (tg t' (sr sh r0 4) (7 * x1 + 2).toNat - tg t' (sr sh r0 3) (7 * x1 + 2).toNat) ≤ zU (tg t' (sr sh r0 3) (7 * x1 + 1).toNat) (tg t' (sr sh r0 4) (7 * x1 + 1).toNat) (tg t' (sr sh r0 3) (7 * x1 + 2).toNat) (tg t' (sr sh r0 4) (7 * x1 + 2).toNat) ∧ (tg t' (sr sh r0 4) (7 * x1 + 3).toNat - tg t' (sr sh r0 3) (7 * x1 + 3).toNat) ≤ zP1 (tg t' (sr sh r0 3) (7 * x1 + 3).toNat) (tg t' (sr sh r0 4) (7 * x1 + 3).toNat))) sh) := by
  intro n
  induction n with
  | zero => intro x4 x5 v6 x7 o8 wo8 t1 f0 _ _ hm; omega
  | succ n ih =>
    intro x4 x5 v6 x7 o8 wo8 t1 f0 hv hq1 hm
    obtain ⟨x6, a6, b6, rfl⟩ := oI_nf v6
    have ha0_1 : (sk sh (sr sh r0 1)).2 = 21000 := by rw [q0.2.2.2.2.1]
    have ha0_2 : (sk sh (sr sh r0 2)).2 = 14 := by rw [q0.2.2.2.2.2.1]
    have ha0_3 : (sk sh (sr sh r0 3)).2 = 98 := by rw [q0.2.2.2.2.2.2.1]
    have ha0_4 : (sk sh (sr sh r0 4)).2 = 98 := by rw [q0.2.2.2.2.2.2.2.1]
    have ha0_8 : (sk sh (sr sh r0 8)).2 = 1500 := by rw [q0.2.2.2.2.2.2.2.2.1]
    have ha0_9 : (sk sh (sr sh r0 9)).2 = 10500 := by rw [q0.2.2.2.2.2.2.2.2.2.1]
    have ha0_10 : (sk sh (sr sh r0 10)).2 = 7 := by rw [q0.2.2.2.2.2.2.2.2.2.2.1]
    have ha0_11 : (sk sh (sr sh r0 11)).2 = 7 := by rw [q0.2.2.2.2.2.2.2.2.2.2.2.1]
    have ha0_12 : (sk sh (sr sh r0 12)).2 = 1500 := by rw [q0.2.2.2.2.2.2.2.2.2.2.2.2.1]
    have ha0_13 : (sk sh (sr sh r0 13)).2 = 1500 := by rw [q0.2.2.2.2.2.2.2.2.2.2.2.2.2.1]
    have ha0_14 : (sk sh (sr sh r0 14)).2 = 20 := by rw [q0.2.2.2.2.2.2.2.2.2.2.2.2.2.2]
    have e0_2 : ∀ k, tg t1 (sr sh r0 2) k = tg t0 (sr sh r0 2) k := fun k => f0.eq q0 (i := 2) (by decide) (by decide) k
    have e0_10 : ∀ k, tg t1 (sr sh r0 10) k = tg t0 (sr sh r0 10) k := fun k => f0.eq q0 (i := 10) (by decide) (by decide) k
    have e0_11 : ∀ k, tg t1 (sr sh r0 11) k = tg t0 (sr sh r0 11) k := fun k => f0.eq q0 (i := 11) (by decide) (by decide) k
    try simp only [zt0, zt1, zt2, zt3, zt4, zt5, zt6, e0_2, e0_10, e0_11] at hv
    try simp only [zt0, zt1, zt2, zt3, zt4, zt5, zt6, e0_2, e0_10, e0_11] at hm
    try simp only [zput_s, zput_n, ti_g, oI_add, oI_sub, oI_mul]
    rw [b137_68 (o8 := o8) (wo8 := wo8)]
    try simp only [zput_s, zput_n, ti_g, oI_add, oI_sub, oI_mul]
    first | refine zok_le (by omega) (fun c2 => ?_) (fun c2 => ?_) | refine zok_if (fun c2 => ?_) (fun c2 => ?_)
    · refine zok_ck ((q0).1) ?_
      refine zok_c0 (s133 (q0) (by omega) (by omega) (by omega) (by omega) (by first | (omega) | ((try simp only [zt0, zt1, zt2, zt3, zt4, zt5, zt6, e0_2, e0_10, e0_11]); omega)) (by first | (omega) | ((try simp only [zt0, zt1, zt2, zt3, zt4, zt5, zt6, e0_2, e0_10, e0_11]); omega)) (by first | (omega) | ((try simp only [zt0, zt1, zt2, zt3, zt4, zt5, zt6, e0_2, e0_10, e0_11]); omega)) (f0.g)) (fun t3 p3 => ?_)
      obtain ⟨f3, p3⟩ := p3
      have e3_2 : ∀ k, tg t3 (sr sh r0 2) k = tg t1 (sr sh r0 2) k := fun k => f3.eq q0 (i := 2) (by decide) (by decide) k
      have e3_10 : ∀ k, tg t3 (sr sh r0 10) k = tg t1 (sr sh r0 10) k := fun k => f3.eq q0 (i := 10) (by decide) (by decide) k
      have e3_11 : ∀ k, tg t3 (sr sh r0 11) k = tg t1 (sr sh r0 11) k := fun k => f3.eq q0 (i := 11) (by decide) (by decide) k
      try simp only [zt0, zt1, zt2, zt3, zt4, zt5, zt6, e0_2, e0_10, e0_11, e3_2, e3_10, e3_11] at p3
      have hb3_1 : tg t3 (sr sh r0 3) (7 * x1 + 1).toNat = tg t1 (sr sh r0 3) (7 * x1 + 1).toNat ∧ tg t3 (sr sh r0 4) (7 * x1 + 1).toNat = tg t1 (sr sh r0 4) (7 * x1 + 1).toNat := ⟨((p3.1 _).trans (if_neg (by omega))).trans ((⟨rfl, rfl⟩ : tg t1 (sr sh r0 3) (7 * x1 + 1).toNat = tg t1 (sr sh r0 3) (7 * x1 + 1).toNat ∧ tg t1 (sr sh r0 4) (7 * x1 + 1).toNat = tg t1 (sr sh r0 4) (7 * x1 + 1).toNat)).1, ((p3.2 _).trans (if_neg (by omega))).trans ((⟨rfl, rfl⟩ : tg t1 (sr sh r0 3) (7 * x1 + 1).toNat = tg t1 (sr sh r0 3) (7 * x1 + 1).toNat ∧ tg t1 (sr sh r0 4) (7 * x1 + 1).toNat = tg t1 (sr sh r0 4) (7 * x1 + 1).toNat)).2⟩
      have hb3_2 : tg t3 (sr sh r0 3) (7 * x1 + 2).toNat = x4 ∧ tg t3 (sr sh r0 4) (7 * x1 + 2).toNat = x5 := by refine ⟨((p3.1 _).trans (if_pos rfl)).trans ?_, ((p3.2 _).trans (if_pos rfl)).trans ?_⟩ <;> first | rfl | simp only [zt0, zt1, zt2, zt3, zt4, zt5, zt6, e0_2, e0_10, e0_11, e3_2, e3_10, e3_11, true_and]
      try simp only [zt0, zt1, zt2, zt3, zt4, zt5, zt6, e0_2, e0_10, e0_11, e3_2, e3_10, e3_11, true_and] at hb3_2
      have hb3_3 : tg t3 (sr sh r0 3) (7 * x1 + 3).toNat = -1 ∧ tg t3 (sr sh r0 4) (7 * x1 + 3).toNat = -1 := ⟨((p3.1 _).trans (if_neg (by omega))).trans ((⟨by omega, by omega⟩ : tg t1 (sr sh r0 3) (7 * x1 + 3).toNat = -1 ∧ tg t1 (sr sh r0 4) (7 * x1 + 3).toNat = -1)).1, ((p3.2 _).trans (if_neg (by omega))).trans ((⟨by omega, by omega⟩ : tg t1 (sr sh r0 3) (7 * x1 + 3).toNat = -1 ∧ tg t1 (sr sh r0 4) (7 * x1 + 3).toNat = -1)).2⟩
      have ho3 : ∀ i : Nat, ((i : Int) ≠ 7 * x1 + 1 ∧ (i : Int) ≠ 7 * x1 + 2 ∧ (i : Int) ≠ 7 * x1 + 3) → tg t3 (sr sh r0 3) i = tg t0 (sr sh r0 3) i ∧ tg t3 (sr sh r0 4) i = tg t0 (sr sh r0 4) i := fun i hi => ⟨((p3.1 _).trans (if_neg (by omega))).trans (hq1 i hi).1, ((p3.2 _).trans (if_neg (by omega))).trans (hq1 i hi).2⟩
      try simp only [zput_s, zput_n, ti_g, oI_add, oI_sub, oI_mul]
      rw [b137_146 (o8 := o8) (wo8 := wo8)]
      try simp only [zput_s, zput_n, ti_g, oI_add, oI_sub, oI_mul]
      first | refine zok_le (by omega) (fun c5 => ?_) (fun c5 => ?_) | refine zok_if (fun c5 => ?_) (fun c5 => ?_)
      · try simp only [zput_s, zput_n, ti_g, oI_add, oI_sub, oI_mul]
        rw [b137_163 (o8 := o8) (wo8 := wo8)]
        try simp only [zput_s, zput_n, ti_g, oI_add, oI_sub, oI_mul]
        exact q0_rt ⟨(FrV.trans (Ns := [3, 4]) (f0) f3 (by decide) (by decide)), ⟨ho3, by unfold zU zP1; omega, by unfold zU; omega, by unfold zP1; omega⟩⟩
      · refine zok_ck ((q0).1) ?_
        refine zok_c0 (s133 (q0) (by omega) (by omega) (by omega) (by omega) (by first | (omega) | ((try simp only [zt0, zt1, zt2, zt3, zt4, zt5, zt6, e0_2, e0_10, e0_11, e3_2, e3_10, e3_11]); omega)) (by first | (omega) | ((try simp only [zt0, zt1, zt2, zt3, zt4, zt5, zt6, e0_2, e0_10, e0_11, e3_2, e3_10, e3_11]); omega)) (by first | (omega) | ((try simp only [zt0, zt1, zt2, zt3, zt4, zt5, zt6, e0_2, e0_10, e0_11, e3_2, e3_10, e3_11]); omega)) (f3.g)) (fun t7 p7 => ?_)
        obtain ⟨f7, p7⟩ := p7
        have e7_2 : ∀ k, tg t7 (sr sh r0 2) k = tg t3 (sr sh r0 2) k := fun k => f7.eq q0 (i := 2) (by decide) (by decide) k
        have e7_10 : ∀ k, tg t7 (sr sh r0 10) k = tg t3 (sr sh r0 10) k := fun k => f7.eq q0 (i := 10) (by decide) (by decide) k
        have e7_11 : ∀ k, tg t7 (sr sh r0 11) k = tg t3 (sr sh r0 11) k := fun k => f7.eq q0 (i := 11) (by decide) (by decide) k
        try simp only [zt0, zt1, zt2, zt3, zt4, zt5, zt6, e0_2, e0_10, e0_11, e3_2, e3_10, e3_11, e7_2, e7_10, e7_11] at p7
        have hb7_1 : tg t7 (sr sh r0 3) (7 * x1 + 1).toNat = tg t1 (sr sh r0 3) (7 * x1 + 1).toNat ∧ tg t7 (sr sh r0 4) (7 * x1 + 1).toNat = tg t1 (sr sh r0 4) (7 * x1 + 1).toNat := ⟨((p7.1 _).trans (if_neg (by omega))).trans (hb3_1).1, ((p7.2 _).trans (if_neg (by omega))).trans (hb3_1).2⟩
        have hb7_2 : tg t7 (sr sh r0 3) (7 * x1 + 2).toNat = x4 ∧ tg t7 (sr sh r0 4) (7 * x1 + 2).toNat = x5 := ⟨((p7.1 _).trans (if_neg (by omega))).trans (hb3_2).1, ((p7.2 _).trans (if_neg (by omega))).trans (hb3_2).2⟩
        have hb7_3 : tg t7 (sr sh r0 3) (7 * x1 + 3).toNat = (x5) + (1) ∧ tg t7 (sr sh r0 4) (7 * x1 + 3).toNat = x3 := by refine ⟨((p7.1 _).trans (if_pos rfl)).trans ?_, ((p7.2 _).trans (if_pos rfl)).trans ?_⟩ <;> first | rfl | simp only [zt0, zt1, zt2, zt3, zt4, zt5, zt6, e0_2, e0_10, e0_11, e3_2, e3_10, e3_11, e7_2, e7_10, e7_11, true_and]
        try simp only [zt0, zt1, zt2, zt3, zt4, zt5, zt6, e0_2, e0_10, e0_11, e3_2, e3_10, e3_11, e7_2, e7_10, e7_11, true_and] at hb7_3
        have ho7 : ∀ i : Nat, ((i : Int) ≠ 7 * x1 + 1 ∧ (i : Int) ≠ 7 * x1 + 2 ∧ (i : Int) ≠ 7 * x1 + 3) → tg t7 (sr sh r0 3) i = tg t0 (sr sh r0 3) i ∧ tg t7 (sr sh r0 4) i = tg t0 (sr sh r0 4) i := fun i hi => ⟨((p7.1 _).trans (if_neg (by omega))).trans (ho3 i hi).1, ((p7.2 _).trans (if_neg (by omega))).trans (ho3 i hi).2⟩
        try simp only [zput_s, zput_n, ti_g, oI_add, oI_sub, oI_mul]
        rw [b137_163 (o8 := o8) (wo8 := wo8)]
        try simp only [zput_s, zput_n, ti_g, oI_add, oI_sub, oI_mul]
        exact q0_rt ⟨(FrV.trans (Ns := [3, 4]) ((FrV.trans (Ns := [3, 4]) (f0) f3 (by decide) (by decide))) f7 (by decide) (by decide)), ⟨ho7, by unfold zU zP1; omega, by unfold zU; omega, by unfold zP1; omega⟩⟩
    · refine zok_ck ((q0).1) ?_
      refine zok_pI (s128 (q0) (by omega) (by omega) (by first | (omega) | ((try simp only [zt0, zt1, zt2, zt3, zt4, zt5, zt6, e0_2, e0_10, e0_11]); omega)) (f0.g)) (fun y9 u9 p9 => ?_)
      try simp only [zt0, zt1, zt2, zt3, zt4, zt5, zt6, e0_2, e0_10, e0_11] at p9
      try simp only [zput_s, zput_n, ti_g, oI_add, oI_sub, oI_mul]
      rw [b137_81 (o8 := o8) (wo8 := wo8)]
      try simp only [zput_s, zput_n, ti_g, oI_add, oI_sub, oI_mul]
      first | refine zok_ne (by omega) (fun c11 => ?_) (fun c11 => ?_) | refine zok_if (fun c11 => ?_) (fun c11 => ?_)
      · first | refine zok_ne (by omega) (fun c12 => ?_) (fun c12 => ?_) | refine zok_if (fun c12 => ?_) (fun c12 => ?_)
        · simp only [zput_s, zput_n, ti_g, oI_add, oI_sub, oI_mul, zt0, zt1, zt2, zt3, zt4, zt5, zt6, e0_2, e0_10, e0_11, b137_107]
          try simp only [zput_s, zput_n, ti_g, oI_add, oI_sub, oI_mul]
          first | refine zok_ne (by omega) (fun c14 => ?_) (fun c14 => ?_) | refine zok_if (fun c14 => ?_) (fun c14 => ?_)
          · simp only [zput_s, zput_n, ti_g, oI_add, oI_sub, oI_mul, zt0, zt1, zt2, zt3, zt4, zt5, zt6, e0_2, e0_10, e0_11, b137_126]
            try simp only [zput_s, zput_n, ti_g, oI_add, oI_sub, oI_mul]
            simp only [zput_s, zput_n, ti_g, oI_add, oI_sub, oI_mul, zt0, zt1, zt2, zt3, zt4, zt5, zt6, e0_2, e0_10, e0_11, b137_128]
            try simp only [zput_s, zput_n, ti_g, oI_add, oI_sub, oI_mul]
            try simp only [zput_s, zput_n, ti_g, oI_add, oI_sub, oI_mul]
            exact ih _ _ _ _ _ (by first | rfl | assumption) _ (f0) (by first | omega | ((try simp only [zt0, zt1, zt2, zt3, zt4, zt5, zt6, e0_2, e0_10, e0_11]); omega)) (by first | exact hq1 | exact hq1) (by first | omega | ((try simp only [zt0, zt1, zt2, zt3, zt4, zt5, zt6, e0_2, e0_10, e0_11]); omega))
          · first | refine zok_ne (by omega) (fun c17 => ?_) (fun c17 => ?_) | refine zok_if (fun c17 => ?_) (fun c17 => ?_)
            · simp only [zput_s, zput_n, ti_g, oI_add, oI_sub, oI_mul, zt0, zt1, zt2, zt3, zt4, zt5, zt6, e0_2, e0_10, e0_11, b137_126]
              try simp only [zput_s, zput_n, ti_g, oI_add, oI_sub, oI_mul]
              simp only [zput_s, zput_n, ti_g, oI_add, oI_sub, oI_mul, zt0, zt1, zt2, zt3, zt4, zt5, zt6, e0_2, e0_10, e0_11, b137_128]
              try simp only [zput_s, zput_n, ti_g, oI_add, oI_sub, oI_mul]
              try simp only [zput_s, zput_n, ti_g, oI_add, oI_sub, oI_mul]
              exact ih _ _ _ _ _ (by first | rfl | assumption) _ (f0) (by first | omega | ((try simp only [zt0, zt1, zt2, zt3, zt4, zt5, zt6, e0_2, e0_10, e0_11]); omega)) (by first | exact hq1 | exact hq1) (by first | omega | ((try simp only [zt0, zt1, zt2, zt3, zt4, zt5, zt6, e0_2, e0_10, e0_11]); omega))
            · simp only [zput_s, zput_n, ti_g, oI_add, oI_sub, oI_mul, zt0, zt1, zt2, zt3, zt4, zt5, zt6, e0_2, e0_10, e0_11, b137_128]
              try simp only [zput_s, zput_n, ti_g, oI_add, oI_sub, oI_mul]
              try simp only [zput_s, zput_n, ti_g, oI_add, oI_sub, oI_mul]
              exact ih _ _ _ _ _ (by first | rfl | assumption) _ (f0) (by first | omega | ((try simp only [zt0, zt1, zt2, zt3, zt4, zt5, zt6, e0_2, e0_10, e0_11]); omega)) (by first | exact hq1 | exact hq1) (by first | omega | ((try simp only [zt0, zt1, zt2, zt3, zt4, zt5, zt6, e0_2, e0_10, e0_11]); omega))
        · simp only [zput_s, zput_n, ti_g, oI_add, oI_sub, oI_mul, zt0, zt1, zt2, zt3, zt4, zt5, zt6, e0_2, e0_10, e0_11, b137_107]
          try simp only [zput_s, zput_n, ti_g, oI_add, oI_sub, oI_mul]
          first | refine zok_ne (by omega) (fun c22 => ?_) (fun c22 => ?_) | refine zok_if (fun c22 => ?_) (fun c22 => ?_)
          · simp only [zput_s, zput_n, ti_g, oI_add, oI_sub, oI_mul, zt0, zt1, zt2, zt3, zt4, zt5, zt6, e0_2, e0_10, e0_11, b137_126]
            try simp only [zput_s, zput_n, ti_g, oI_add, oI_sub, oI_mul]
            simp only [zput_s, zput_n, ti_g, oI_add, oI_sub, oI_mul, zt0, zt1, zt2, zt3, zt4, zt5, zt6, e0_2, e0_10, e0_11, b137_128]
            try simp only [zput_s, zput_n, ti_g, oI_add, oI_sub, oI_mul]
            try simp only [zput_s, zput_n, ti_g, oI_add, oI_sub, oI_mul]
            exact ih _ _ _ _ _ (by first | rfl | assumption) _ (f0) (by first | omega | ((try simp only [zt0, zt1, zt2, zt3, zt4, zt5, zt6, e0_2, e0_10, e0_11]); omega)) (by first | exact hq1 | exact hq1) (by first | omega | ((try simp only [zt0, zt1, zt2, zt3, zt4, zt5, zt6, e0_2, e0_10, e0_11]); omega))
          · simp only [zput_s, zput_n, ti_g, oI_add, oI_sub, oI_mul, zt0, zt1, zt2, zt3, zt4, zt5, zt6, e0_2, e0_10, e0_11, b137_128]
            try simp only [zput_s, zput_n, ti_g, oI_add, oI_sub, oI_mul]
            try simp only [zput_s, zput_n, ti_g, oI_add, oI_sub, oI_mul]
            exact ih _ _ _ _ _ (by first | rfl | assumption) _ (f0) (by first | omega | ((try simp only [zt0, zt1, zt2, zt3, zt4, zt5, zt6, e0_2, e0_10, e0_11]); omega)) (by first | exact hq1 | exact hq1) (by first | omega | ((try simp only [zt0, zt1, zt2, zt3, zt4, zt5, zt6, e0_2, e0_10, e0_11]); omega))
      · simp only [zput_s, zput_n, ti_g, oI_add, oI_sub, oI_mul, zt0, zt1, zt2, zt3, zt4, zt5, zt6, e0_2, e0_10, e0_11, b137_107]
        try simp only [zput_s, zput_n, ti_g, oI_add, oI_sub, oI_mul]
        first | refine zok_ne (by omega) (fun c27 => ?_) (fun c27 => ?_) | refine zok_if (fun c27 => ?_) (fun c27 => ?_)
        · simp only [zput_s, zput_n, ti_g, oI_add, oI_sub, oI_mul, zt0, zt1, zt2, zt3, zt4, zt5, zt6, e0_2, e0_10, e0_11, b137_126]
          try simp only [zput_s, zput_n, ti_g, oI_add, oI_sub, oI_mul]
          simp only [zput_s, zput_n, ti_g, oI_add, oI_sub, oI_mul, zt0, zt1, zt2, zt3, zt4, zt5, zt6, e0_2, e0_10, e0_11, b137_128]
          try simp only [zput_s, zput_n, ti_g, oI_add, oI_sub, oI_mul]
          try simp only [zput_s, zput_n, ti_g, oI_add, oI_sub, oI_mul]
          exact ih _ _ _ _ _ (by first | rfl | assumption) _ (f0) (by first | omega | ((try simp only [zt0, zt1, zt2, zt3, zt4, zt5, zt6, e0_2, e0_10, e0_11]); omega)) (by first | exact hq1 | exact hq1) (by first | omega | ((try simp only [zt0, zt1, zt2, zt3, zt4, zt5, zt6, e0_2, e0_10, e0_11]); omega))
        · first | refine zok_ne (by omega) (fun c30 => ?_) (fun c30 => ?_) | refine zok_if (fun c30 => ?_) (fun c30 => ?_)
          · simp only [zput_s, zput_n, ti_g, oI_add, oI_sub, oI_mul, zt0, zt1, zt2, zt3, zt4, zt5, zt6, e0_2, e0_10, e0_11, b137_126]
            try simp only [zput_s, zput_n, ti_g, oI_add, oI_sub, oI_mul]
            simp only [zput_s, zput_n, ti_g, oI_add, oI_sub, oI_mul, zt0, zt1, zt2, zt3, zt4, zt5, zt6, e0_2, e0_10, e0_11, b137_128]
            try simp only [zput_s, zput_n, ti_g, oI_add, oI_sub, oI_mul]
            try simp only [zput_s, zput_n, ti_g, oI_add, oI_sub, oI_mul]
            exact ih _ _ _ _ _ (by first | rfl | assumption) _ (f0) (by first | omega | ((try simp only [zt0, zt1, zt2, zt3, zt4, zt5, zt6, e0_2, e0_10, e0_11]); omega)) (by first | exact hq1 | exact hq1) (by first | omega | ((try simp only [zt0, zt1, zt2, zt3, zt4, zt5, zt6, e0_2, e0_10, e0_11]); omega))
          · simp only [zput_s, zput_n, ti_g, oI_add, oI_sub, oI_mul, zt0, zt1, zt2, zt3, zt4, zt5, zt6, e0_2, e0_10, e0_11, b137_128]
            try simp only [zput_s, zput_n, ti_g, oI_add, oI_sub, oI_mul]
            try simp only [zput_s, zput_n, ti_g, oI_add, oI_sub, oI_mul]
            exact ih _ _ _ _ _ (by first | rfl | assumption) _ (f0) (by first | omega | ((try simp only [zt0, zt1, zt2, zt3, zt4, zt5, zt6, e0_2, e0_10, e0_11]); omega)) (by first | exact hq1 | exact hq1) (by first | omega | ((try simp only [zt0, zt1, zt2, zt3, zt4, zt5, zt6, e0_2, e0_10, e0_11]); omega))
theorem l137_6 {sh : zSh} {t0 : zSt} {MB : Nat} {r0 : Nat} (q0 : zMd sh MB r0) {x1 : Int} (u1 : -2147483648 ≤ x1 ∧ x1 ≤ 2147483647) {x2 : Int} (u2 : -2147483648 ≤ x2 ∧ x2 ≤ 2147483647) {x3 : Int} (u3 : -2147483648 ≤ x3 ∧ x3 ≤ 2147483647) (d1 : 0 ≤ x1 ∧ x1 ≤ 13) (d2 : 0 ≤ x2 ∧ x2 ≤ x3 ∧ x3 ≤ 3000 ∧ (x1 ≠ 12 → x3 ≤ 400)) (d3 : (tg t0 (sr sh r0 3) (7 * x1 + 1).toNat = -1 ∧ tg t0 (sr sh r0 4) (7 * x1 + 1).toNat = -1) ∧ tg t0 (sr sh r0 3) (7 * x1 + 3).toNat = -1 ∧ tg t0 (sr sh r0 4) (7 * x1 + 3).toNat = -1) (G : GI sh r0 t0) : ∀ (n : Nat) (x4 : Int) (x5 : Int)  (t1 : zSt), FrV sh r0 [3, 4] t0 t1 → (-2147483648 ≤ x4 ∧ x4 ≤ 2147483647) ∧ (-2147483648 ≤ x5 ∧ x5 ≤ 2147483647) ∧ (x2 ≤ x4 ∧ x4 ≤ x5 ∧ x5 ≤ x3) → (∀ i : Nat, tg t1 (sr sh r0 3) i = tg t0 (sr sh r0 3) i ∧ tg t1 (sr sh r0 4) i = tg t0 (sr sh r0 4) i) → (x3 - x5).toNat < n → zok (zev zP 137 6 [some (zR r0), some (zI (oI x1)), some (zI (oI x2)), some (zI (oI x3)), some (zI (oI x4)), some (zI (oI x5)), none, none, none] [] (sh, t1)) (zq0 (fun t' => FrV sh r0 [3, 4] t0 t' ∧ ((∀ i : Nat, ((i : Int) ≠ 7 * x1 + 1 ∧ (i : Int) ≠ 7 * x1 + 2 ∧ (i : Int) ≠ 7 * x1 + 3) → tg t' (sr sh r0 3) i = tg t0 (sr sh r0 3) i ∧ tg t' (sr sh r0 4) i = tg t0 (sr sh r0 4) i) ∧ zU (tg t' (sr sh r0 3) (7 * x1 + 1).toNat) (tg t' (sr sh r0 4) (7 * x1 + 1).toNat) (tg t' (sr sh r0 3) (7 * x1 + 2).toNat) (tg t' (sr sh r0 4) (7 * x1 + 2).toNat) + zP1 (tg t' (sr sh r0 3) (7 * x1 + 3).toNat) (tg t' (sr sh r0 4) (7 * x1 + 3).toNat) ≤ x3 - x2 + 2 ∧ (tg t' (sr sh r0 4) (7 * x1 + 1).toNat - tg t' (sr sh r0 3) (7 * x1 + 1).toNat) + (tg t' (sr sh r0 4) (7 * x1 + 2).toNat - tg t' (sr sh r0 3) (7 * x1 + 2).toNat) ≤ zU (tg t' (sr sh r0 3) (7 * x1 + 1).toNat) (tg t' (sr sh r0 4) (7 * x1 + 1).toNat) (tg t' (sr sh r0 3) (7 * x1 + 2).toNat) (tg t' (sr sh r0 4) (7 * x1 + 2).toNat) ∧ (tg t' (sr sh r0 4) (7 * x1 + 3).toNat - tg t' (sr sh r0 3) (7 * x1 + 3).toNat) ≤ zP1 (tg t' (sr sh r0 3) (7 * x1 + 3).toNat) (tg t' (sr sh r0 4) (7 * x1 + 3).toNat))) sh) := by
  intro n
  induction n with
  | zero => intro x4 x5  t1 f0 _ _ hm; omega
  | succ n ih =>
    intro x4 x5  t1 f0 hv hq1 hm
    have ha0_1 : (sk sh (sr sh r0 1)).2 = 21000 := by rw [q0.2.2.2.2.1]
    have ha0_2 : (sk sh (sr sh r0 2)).2 = 14 := by rw [q0.2.2.2.2.2.1]
    have ha0_3 : (sk sh (sr sh r0 3)).2 = 98 := by rw [q0.2.2.2.2.2.2.1]
    have ha0_4 : (sk sh (sr sh r0 4)).2 = 98 := by rw [q0.2.2.2.2.2.2.2.1]
    have ha0_8 : (sk sh (sr sh r0 8)).2 = 1500 := by rw [q0.2.2.2.2.2.2.2.2.1]
    have ha0_9 : (sk sh (sr sh r0 9)).2 = 10500 := by rw [q0.2.2.2.2.2.2.2.2.2.1]
    have ha0_10 : (sk sh (sr sh r0 10)).2 = 7 := by rw [q0.2.2.2.2.2.2.2.2.2.2.1]
    have ha0_11 : (sk sh (sr sh r0 11)).2 = 7 := by rw [q0.2.2.2.2.2.2.2.2.2.2.2.1]
    have ha0_12 : (sk sh (sr sh r0 12)).2 = 1500 := by rw [q0.2.2.2.2.2.2.2.2.2.2.2.2.1]
    have ha0_13 : (sk sh (sr sh r0 13)).2 = 1500 := by rw [q0.2.2.2.2.2.2.2.2.2.2.2.2.2.1]
    have ha0_14 : (sk sh (sr sh r0 14)).2 = 20 := by rw [q0.2.2.2.2.2.2.2.2.2.2.2.2.2.2]
    have e0_2 : ∀ k, tg t1 (sr sh r0 2) k = tg t0 (sr sh r0 2) k := fun k => f0.eq q0 (i := 2) (by decide) (by decide) k
    have e0_10 : ∀ k, tg t1 (sr sh r0 10) k = tg t0 (sr sh r0 10) k := fun k => f0.eq q0 (i := 10) (by decide) (by decide) k
    have e0_11 : ∀ k, tg t1 (sr sh r0 11) k = tg t0 (sr sh r0 11) k := fun k => f0.eq q0 (i := 11) (by decide) (by decide) k
    try simp only [zt0, zt1, zt2, zt3, zt4, zt5, zt6, e0_2, e0_10, e0_11] at hv
    try simp only [zt0, zt1, zt2, zt3, zt4, zt5, zt6, e0_2, e0_10, e0_11] at hm
    have hz1 := hq1 (7 * x1 + 1).toNat
    try simp only [zt0, zt1, zt2, zt3, zt4, zt5, zt6, e0_2, e0_10, e0_11] at hz1
    have hz3 := hq1 (7 * x1 + 3).toNat
    try simp only [zt0, zt1, zt2, zt3, zt4, zt5, zt6, e0_2, e0_10, e0_11] at hz3
    rw [b137_6]
    try simp only [zput_s, zput_n, ti_g, oI_add, oI_sub, oI_mul]
    first | refine zok_le (by omega) (fun c2 => ?_) (fun c2 => ?_) | refine zok_if (fun c2 => ?_) (fun c2 => ?_)
    · first | refine zok_le (by omega) (fun c3 => ?_) (fun c3 => ?_) | refine zok_if (fun c3 => ?_) (fun c3 => ?_)
      · simp only [zput_s, zput_n, ti_g, oI_add, oI_sub, oI_mul, zt0, zt1, zt2, zt3, zt4, zt5, zt6, e0_2, e0_10, e0_11, b137_58]
        try simp only [zput_s, zput_n, ti_g, oI_add, oI_sub, oI_mul]
        try simp only [zput_s, zput_n, ti_g, oI_add, oI_sub, oI_mul]
        exact l137_68 q0 (by omega) (by omega) (by omega) d1 d2 d3 G _ _ _ _ _ _ (by first | rfl | assumption) _ (f0) (by first | omega | ((try simp only [zt0, zt1, zt2, zt3, zt4, zt5, zt6, e0_2, e0_10, e0_11]); omega)) (by first | exact (fun (i : Nat) _ => hq1 i) | exact hq1) (Nat.lt_succ_self _)
      · refine zok_ck ((q0).1) ?_
        refine zok_c0 (s133 (q0) (by omega) (by omega) (by omega) (by omega) (by first | (omega) | ((try simp only [zt0, zt1, zt2, zt3, zt4, zt5, zt6, e0_2, e0_10, e0_11]); omega)) (by first | (omega) | ((try simp only [zt0, zt1, zt2, zt3, zt4, zt5, zt6, e0_2, e0_10, e0_11]); omega)) (by first | (omega) | ((try simp only [zt0, zt1, zt2, zt3, zt4, zt5, zt6, e0_2, e0_10, e0_11]); omega)) (f0.g)) (fun t5 p5 => ?_)
        obtain ⟨f5, p5⟩ := p5
        have e5_2 : ∀ k, tg t5 (sr sh r0 2) k = tg t1 (sr sh r0 2) k := fun k => f5.eq q0 (i := 2) (by decide) (by decide) k
        have e5_10 : ∀ k, tg t5 (sr sh r0 10) k = tg t1 (sr sh r0 10) k := fun k => f5.eq q0 (i := 10) (by decide) (by decide) k
        have e5_11 : ∀ k, tg t5 (sr sh r0 11) k = tg t1 (sr sh r0 11) k := fun k => f5.eq q0 (i := 11) (by decide) (by decide) k
        try simp only [zt0, zt1, zt2, zt3, zt4, zt5, zt6, e0_2, e0_10, e0_11, e5_2, e5_10, e5_11] at p5
        have hb5_1 : tg t5 (sr sh r0 3) (7 * x1 + 1).toNat = x2 ∧ tg t5 (sr sh r0 4) (7 * x1 + 1).toNat = (x4) - (1) := by refine ⟨((p5.1 _).trans (if_pos rfl)).trans ?_, ((p5.2 _).trans (if_pos rfl)).trans ?_⟩ <;> first | rfl | simp only [zt0, zt1, zt2, zt3, zt4, zt5, zt6, e0_2, e0_10, e0_11, e5_2, e5_10, e5_11, true_and]
        try simp only [zt0, zt1, zt2, zt3, zt4, zt5, zt6, e0_2, e0_10, e0_11, e5_2, e5_10, e5_11, true_and] at hb5_1
        have hb5_2 : tg t5 (sr sh r0 3) (7 * x1 + 2).toNat = tg t1 (sr sh r0 3) (7 * x1 + 2).toNat ∧ tg t5 (sr sh r0 4) (7 * x1 + 2).toNat = tg t1 (sr sh r0 4) (7 * x1 + 2).toNat := ⟨((p5.1 _).trans (if_neg (by omega))).trans ((⟨rfl, rfl⟩ : tg t1 (sr sh r0 3) (7 * x1 + 2).toNat = tg t1 (sr sh r0 3) (7 * x1 + 2).toNat ∧ tg t1 (sr sh r0 4) (7 * x1 + 2).toNat = tg t1 (sr sh r0 4) (7 * x1 + 2).toNat)).1, ((p5.2 _).trans (if_neg (by omega))).trans ((⟨rfl, rfl⟩ : tg t1 (sr sh r0 3) (7 * x1 + 2).toNat = tg t1 (sr sh r0 3) (7 * x1 + 2).toNat ∧ tg t1 (sr sh r0 4) (7 * x1 + 2).toNat = tg t1 (sr sh r0 4) (7 * x1 + 2).toNat)).2⟩
        have hb5_3 : tg t5 (sr sh r0 3) (7 * x1 + 3).toNat = -1 ∧ tg t5 (sr sh r0 4) (7 * x1 + 3).toNat = -1 := ⟨((p5.1 _).trans (if_neg (by omega))).trans ((⟨(hq1 _).1.trans d3.2.1, (hq1 _).2.trans d3.2.2⟩ : tg t1 (sr sh r0 3) (7 * x1 + 3).toNat = -1 ∧ tg t1 (sr sh r0 4) (7 * x1 + 3).toNat = -1)).1, ((p5.2 _).trans (if_neg (by omega))).trans ((⟨(hq1 _).1.trans d3.2.1, (hq1 _).2.trans d3.2.2⟩ : tg t1 (sr sh r0 3) (7 * x1 + 3).toNat = -1 ∧ tg t1 (sr sh r0 4) (7 * x1 + 3).toNat = -1)).2⟩
        have ho5 : ∀ i : Nat, ((i : Int) ≠ 7 * x1 + 1 ∧ (i : Int) ≠ 7 * x1 + 2 ∧ (i : Int) ≠ 7 * x1 + 3) → tg t5 (sr sh r0 3) i = tg t0 (sr sh r0 3) i ∧ tg t5 (sr sh r0 4) i = tg t0 (sr sh r0 4) i := fun i hi => ⟨((p5.1 _).trans (if_neg (by omega))).trans ((fun (i : Nat) _ => hq1 i) i hi).1, ((p5.2 _).trans (if_neg (by omega))).trans ((fun (i : Nat) _ => hq1 i) i hi).2⟩
        simp only [zput_s, zput_n, ti_g, oI_add, oI_sub, oI_mul, zt0, zt1, zt2, zt3, zt4, zt5, zt6, e0_2, e0_10, e0_11, e5_2, e5_10, e5_11, b137_58]
        try simp only [zput_s, zput_n, ti_g, oI_add, oI_sub, oI_mul]
        try simp only [zput_s, zput_n, ti_g, oI_add, oI_sub, oI_mul]
        exact l137_68 q0 (by omega) (by omega) (by omega) d1 d2 d3 G _ _ _ _ _ _ (by first | rfl | assumption) _ ((FrV.trans (Ns := [3, 4]) (f0) f5 (by decide) (by decide))) (by first | omega | ((try simp only [zt0, zt1, zt2, zt3, zt4, zt5, zt6, e0_2, e0_10, e0_11, e5_2, e5_10, e5_11]); omega)) (by first | exact ho5 | exact hq1) (Nat.lt_succ_self _)
    · refine zok_ck ((q0).1) ?_
      refine zok_pI (s128 (q0) (by omega) (by omega) (by first | (omega) | ((try simp only [zt0, zt1, zt2, zt3, zt4, zt5, zt6, e0_2, e0_10, e0_11]); omega)) (f0.g)) (fun y7 u7 p7 => ?_)
      try simp only [zt0, zt1, zt2, zt3, zt4, zt5, zt6, e0_2, e0_10, e0_11] at p7
      simp only [zput_s, zput_n, ti_g, oI_add, oI_sub, oI_mul, zt0, zt1, zt2, zt3, zt4, zt5, zt6, e0_2, e0_10, e0_11, b137_19]
      try simp only [zput_s, zput_n, ti_g, oI_add, oI_sub, oI_mul]
      first | refine zok_ne (by omega) (fun c9 => ?_) (fun c9 => ?_) | refine zok_if (fun c9 => ?_) (fun c9 => ?_)
      · simp only [zput_s, zput_n, ti_g, oI_add, oI_sub, oI_mul, zt0, zt1, zt2, zt3, zt4, zt5, zt6, e0_2, e0_10, e0_11, b137_33]
        try simp only [zput_s, zput_n, ti_g, oI_add, oI_sub, oI_mul]
        try simp only [zput_s, zput_n, ti_g, oI_add, oI_sub, oI_mul]
        exact ih _ _ _ (f0) (by first | omega | ((try simp only [zt0, zt1, zt2, zt3, zt4, zt5, zt6, e0_2, e0_10, e0_11]); omega)) (by first | exact hq1 | exact fun i => ⟨rfl, rfl⟩) (by first | omega | ((try simp only [zt0, zt1, zt2, zt3, zt4, zt5, zt6, e0_2, e0_10, e0_11]); omega))
      · simp only [zput_s, zput_n, ti_g, oI_add, oI_sub, oI_mul, zt0, zt1, zt2, zt3, zt4, zt5, zt6, e0_2, e0_10, e0_11, b137_33]
        try simp only [zput_s, zput_n, ti_g, oI_add, oI_sub, oI_mul]
        try simp only [zput_s, zput_n, ti_g, oI_add, oI_sub, oI_mul]
        exact ih _ _ _ (f0) (by first | omega | ((try simp only [zt0, zt1, zt2, zt3, zt4, zt5, zt6, e0_2, e0_10, e0_11]); omega)) (by first | exact hq1 | exact fun i => ⟨rfl, rfl⟩) (by first | omega | ((try simp only [zt0, zt1, zt2, zt3, zt4, zt5, zt6, e0_2, e0_10, e0_11]); omega))
theorem s137 {sh : zSh} {t : zSt} {MB : Nat} {r0 : Nat} (q0 : zMd sh MB r0) {x1 : Int} (u1 : -2147483648 ≤ x1 ∧ x1 ≤ 2147483647) {x2 : Int} (u2 : -2147483648 ≤ x2 ∧ x2 ≤ 2147483647) {x3 : Int} (u3 : -2147483648 ≤ x3 ∧ x3 ≤ 2147483647) (d1 : 0 ≤ x1 ∧ x1 ≤ 13) (d2 : 0 ≤ x2 ∧ x2 ≤ x3 ∧ x3 ≤ 3000 ∧ (x1 ≠ 12 → x3 ≤ 400)) (d3 : (tg t (sr sh r0 3) (7 * x1 + 1).toNat = -1 ∧ tg t (sr sh r0 4) (7 * x1 + 1).toNat = -1) ∧ tg t (sr sh r0 3) (7 * x1 + 3).toNat = -1 ∧ tg t (sr sh r0 4) (7 * x1 + 3).toNat = -1) (G : GI sh r0 t) : zok (zcl zP 137 [zR r0, zI (oI x1), zI (oI x2), zI (oI x3)] (sh, t)) (zq0 (fun t' => FrV sh r0 [3, 4] t t' ∧ ((∀ i : Nat, ((i : Int) ≠ 7 * x1 + 1 ∧ (i : Int) ≠ 7 * x1 + 2 ∧ (i : Int) ≠ 7 * x1 + 3) → tg t' (sr sh r0 3) i = tg t (sr sh r0 3) i ∧ tg t' (sr sh r0 4) i = tg t (sr sh r0 4) i) ∧ zU (tg t' (sr sh r0 3) (7 * x1 + 1).toNat) (tg t' (sr sh r0 4) (7 * x1 + 1).toNat) (tg t' (sr sh r0 3) (7 * x1 + 2).toNat) (tg t' (sr sh r0 4) (7 * x1 + 2).toNat) + zP1 (tg t' (sr sh r0 3) (7 * x1 + 3).toNat) (tg t' (sr sh r0 4) (7 * x1 + 3).toNat) ≤ x3 - x2 + 2 ∧ (tg t' (sr sh r0 4) (7 * x1 + 1).toNat - tg t' (sr sh r0 3) (7 * x1 + 1).toNat) + (tg t' (sr sh r0 4) (7 * x1 + 2).toNat - tg t' (sr sh r0 3) (7 * x1 + 2).toNat) ≤ zU (tg t' (sr sh r0 3) (7 * x1 + 1).toNat) (tg t' (sr sh r0 4) (7 * x1 + 1).toNat) (tg t' (sr sh r0 3) (7 * x1 + 2).toNat) (tg t' (sr sh r0 4) (7 * x1 + 2).toNat) ∧ (tg t' (sr sh r0 4) (7 * x1 + 3).toNat - tg t' (sr sh r0 3) (7 * x1 + 3).toNat) ≤ zP1 (tg t' (sr sh r0 3) (7 * x1 + 3).toNat) (tg t' (sr sh r0 4) (7 * x1 + 3).toNat))) sh) := by
  have ha0_1 : (sk sh (sr sh r0 1)).2 = 21000 := by rw [q0.2.2.2.2.1]
  have ha0_2 : (sk sh (sr sh r0 2)).2 = 14 := by rw [q0.2.2.2.2.2.1]
  have ha0_3 : (sk sh (sr sh r0 3)).2 = 98 := by rw [q0.2.2.2.2.2.2.1]
  have ha0_4 : (sk sh (sr sh r0 4)).2 = 98 := by rw [q0.2.2.2.2.2.2.2.1]
  have ha0_8 : (sk sh (sr sh r0 8)).2 = 1500 := by rw [q0.2.2.2.2.2.2.2.2.1]
  have ha0_9 : (sk sh (sr sh r0 9)).2 = 10500 := by rw [q0.2.2.2.2.2.2.2.2.2.1]
  have ha0_10 : (sk sh (sr sh r0 10)).2 = 7 := by rw [q0.2.2.2.2.2.2.2.2.2.2.1]
  have ha0_11 : (sk sh (sr sh r0 11)).2 = 7 := by rw [q0.2.2.2.2.2.2.2.2.2.2.2.1]
  have ha0_12 : (sk sh (sr sh r0 12)).2 = 1500 := by rw [q0.2.2.2.2.2.2.2.2.2.2.2.2.1]
  have ha0_13 : (sk sh (sr sh r0 13)).2 = 1500 := by rw [q0.2.2.2.2.2.2.2.2.2.2.2.2.2.1]
  have ha0_14 : (sk sh (sr sh r0 14)).2 = 20 := by rw [q0.2.2.2.2.2.2.2.2.2.2.2.2.2.2]
  rw [b137_0]
  try simp only [zput_s, zput_n, ti_g, oI_add, oI_sub, oI_mul]
  try simp only [zput_s, zput_n, ti_g, oI_add, oI_sub, oI_mul]
  exact l137_6 q0 (by omega) (by omega) (by omega) d1 d2 d3 G _ _ _ _ (FrV.refl G) (by first | omega | ((try simp only [zt0, zt1, zt2, zt3, zt4, zt5, zt6]); omega)) (by first | exact hq1 | exact fun i => ⟨rfl, rfl⟩) (Nat.lt_succ_self _)
