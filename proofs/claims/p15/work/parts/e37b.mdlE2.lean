set_option maxRecDepth 16384
/-! X9_isFour -/
theorem l139_17 {sh : zSh} {t0 : zSt} {MB : Nat} {r0 : Nat} (q0 : zMd sh MB r0) {x1 : Int} (u1 : -2147483648 ≤ x1 ∧ x1 ≤ 2147483647) {x2 : Int} (u2 : -2147483648 ≤ x2 ∧ x2 ≤ 2147483647) {x3 : Int} (u3 : -2147483648 ≤ x3 ∧ x3 ≤ 2147483647) (d1 : 0 ≤ x1 ∧ x1 ≤ 13) (d2 : -1 ≤ x2 ∧ x2 ≤ 4000) (d3 : -1 ≤ x3 ∧ x3 ≤ 4000) (G : GI sh r0 t0) : ∀ (n : Nat) (x4 : Int) (v5 : Int32) (x6 : Int) (x7 : Int) (o8 : Option zV) (wo8 : zisL o8 = false) (t1 : zSt), FrV sh r0 [0] t0 t1 → (-2147483648 ≤ x4 ∧ x4 ≤ 2147483647) ∧ (-2147483648 ≤ x6 ∧ x6 ≤ 2147483647) ∧ (-2147483648 ≤ x7 ∧ x7 ≤ 2147483647) ∧ (x2 ≤ x7 ∧ 0 ≤ x6 ∧ x6 ≤ x7 - x2) ∧ (0 ≤ x4 ∧ x4 ≤ 4) ∧ (tg t1 r0 7 = tg t0 r0 7 ∧ tg t1 r0 15 = tg t0 r0 15) → (x3 + 1 - x7).toNat < n → zok (zev zP 139 17 [some (zR r0), some (zI (oI x1)), some (zI (oI x2)), some (zI (oI x3)), some (zI (oI x4)), some (zI v5), some (zI (oI x6)), some (zI (oI x7)), o8] [] (sh, t1)) (qI (fun x t' => FrV sh r0 [0] t0 t' ∧ ((x = 0 ∨ x = 1) ∧ tg t' r0 7 = tg t0 r0 7 ∧ tg t' r0 15 = tg t0 r0 15)) sh) := by
  intro n
  induction n with
  | zero => intro x4 v5 x6 x7 o8 wo8 t1 f0 _ hm; omega
  | succ n ih =>
    intro x4 v5 x6 x7 o8 wo8 t1 f0 hv hm
    obtain ⟨x5, a5, b5, rfl⟩ := oI_nf v5
    have ha0_1 : (sk sh (sr sh r0 1)).2 = 21000 := by rw [q0.2.2.2.2.1]
    have ha0_2 : (sk sh (sr sh r0 2)).2 = 14 := by rw [q0.2.2.2.2.2.1]
    have ha0_3 : (sk sh (sr sh r0 3)).2 = 98 := by rw [q0.2.2.2.2.2.2.1]
    have ha0_4 : (sk sh (sr sh r0 4)).2 = 98 := by rw [q0.2.2.2.2.2.2.2.1]
    have ha0_8 : (sk sh (sr sh r0 8)).2 = 1500 := by rw [q0.2.2.2.2.2.2.2.2.1]
    have ha0_9 : (sk sh (sr sh r0 9)).2 = 10500 := by rw [q0.2.2.2.2.2.2.2.2.2.1]
    have ha0_10 : (sk sh (sr sh r0 10)).2 = 7 := by rw [q0.2.2.2.2.2.2.2.2.2.2.1]
    have ha0_11 : (sk sh (sr sh r0 11)).2 = 7 := by rw [q0.2.2.2.2.2.2.2.2.2.2.2.1]
    have ha0_12 : (sk sh (sr sh r0 12)).2 = 1500 := by rw [q0.2.2.2.2.2.2.2.2.2.2.2.2.1]
    have ha0_13 : (sk sh (sr sh r0 13)).2 = 1500 := by rw [q0.2.2.2.2.2.2.2.2.2.2.2.2.2.1]
    have ha0_14 : (sk sh (sr sh r0 14)).2 = 20 := by rw [q0.2.2.2.2.2.2.2.2.2.2.2.2.2.2]
    have e0_2 : ∀ k, tg t1 (sr sh r0 2) k = tg t0 (sr sh r0 2) k := fun k => f0.eq q0 (i := 2) (by decide) (by decide) k
    have e0_3 : ∀ k, tg t1 (sr sh r0 3) k = tg t0 (sr sh r0 3) k := fun k => f0.eq q0 (i := 3) (by decide) (by decide) k
    have e0_4 : ∀ k, tg t1 (sr sh r0 4) k = tg t0 (sr sh r0 4) k := fun k => f0.eq q0 (i := 4) (by decide) (by decide) k
    have e0_10 : ∀ k, tg t1 (sr sh r0 10) k = tg t0 (sr sh r0 10) k := fun k => f0.eq q0 (i := 10) (by decide) (by decide) k
    have e0_11 : ∀ k, tg t1 (sr sh r0 11) k = tg t0 (sr sh r0 11) k := fun k => f0.eq q0 (i := 11) (by decide) (by decide) k
    try simp only [zt0, zt1, zt2, zt3, zt4, zt5, zt6, e0_2, e0_3, e0_4, e0_10, e0_11] at hv
    try simp only [zt0, zt1, zt2, zt3, zt4, zt5, zt6, e0_2, e0_3, e0_4, e0_10, e0_11] at hm
    try simp only [zput_s, zput_n, ti_g, oI_add, oI_sub, oI_mul]
    rw [b139_17 (o8 := o8) (wo8 := wo8)]
    try simp only [zput_s, zput_n, ti_g, oI_add, oI_sub, oI_mul]
    first | refine zok_lt (by omega) (fun c2 => ?_) (fun c2 => ?_) | refine zok_if (fun c2 => ?_) (fun c2 => ?_)
    · first | refine zok_ne (by omega) (fun c3 => ?_) (fun c3 => ?_) | refine zok_if (fun c3 => ?_) (fun c3 => ?_)
      · try simp only [zput_s, zput_n, ti_g, oI_add, oI_sub, oI_mul]
        rw [b139_181 (o8 := o8) (wo8 := wo8)]
        try simp only [zput_s, zput_n, ti_g, oI_add, oI_sub, oI_mul]
        first | exact qI_rt (by omega) (by omega) ⟨f0, by omega⟩ | exact qI_nf ⟨f0, by omega⟩
      · try simp only [zput_s, zput_n, ti_g, oI_add, oI_sub, oI_mul]
        rw [b139_181 (o8 := o8) (wo8 := wo8)]
        try simp only [zput_s, zput_n, ti_g, oI_add, oI_sub, oI_mul]
        first | exact qI_rt (by omega) (by omega) ⟨f0, by omega⟩ | exact qI_nf ⟨f0, by omega⟩
    · first | refine zok_le (by omega) (fun c6 => ?_) (fun c6 => ?_) | refine zok_if (fun c6 => ?_) (fun c6 => ?_)
      · obtain ⟨g7, hg7⟩ : ∃ g : Int, g = 46 := ⟨_, rfl⟩
        rw [← hg7]
        try simp only [zput_s, zput_n, ti_g, oI_add, oI_sub, oI_mul]
        rw [b139_41 (o8 := o8) (wo8 := wo8)]
        try simp only [zput_s, zput_n, ti_g, oI_add, oI_sub, oI_mul]
        first | refine zok_ne (by omega) (fun c9 => ?_) (fun c9 => ?_) | refine zok_if (fun c9 => ?_) (fun c9 => ?_)
        · refine zok_pI (s121 (by omega)) (fun y10 u10 p10 => ?_)
          try simp only [zt0, zt1, zt2, zt3, zt4, zt5, zt6, e0_2, e0_3, e0_4, e0_10, e0_11] at p10
          simp only [zput_s, zput_n, ti_g, oI_add, oI_sub, oI_mul, zt0, zt1, zt2, zt3, zt4, zt5, zt6, e0_2, e0_3, e0_4, e0_10, e0_11, b139_129]
          try simp only [zput_s, zput_n, ti_g, oI_add, oI_sub, oI_mul]
          first | refine zok_eq (by omega) (fun c12 => ?_) (fun c12 => ?_) | refine zok_if (fun c12 => ?_) (fun c12 => ?_)
          · first | exact qI_rt (by omega) (by omega) ⟨f0, by omega⟩ | exact qI_nf ⟨f0, by omega⟩
          · first | refine zok_le (by omega) (fun c13 => ?_) (fun c13 => ?_) | refine zok_if (fun c13 => ?_) (fun c13 => ?_)
            · simp only [zput_s, zput_n, ti_g, oI_add, oI_sub, oI_mul, zt0, zt1, zt2, zt3, zt4, zt5, zt6, e0_2, e0_3, e0_4, e0_10, e0_11, b139_154]
              try simp only [zput_s, zput_n, ti_g, oI_add, oI_sub, oI_mul]
              simp only [zput_s, zput_n, ti_g, oI_add, oI_sub, oI_mul, zt0, zt1, zt2, zt3, zt4, zt5, zt6, e0_2, e0_3, e0_4, e0_10, e0_11, b139_164]
              try simp only [zput_s, zput_n, ti_g, oI_add, oI_sub, oI_mul]
              try simp only [zput_s, zput_n, ti_g, oI_add, oI_sub, oI_mul]
              exact ih _ _ _ _ _ (by first | rfl | assumption) _ (f0) (by first | omega | ((try simp only [zt0, zt1, zt2, zt3, zt4, zt5, zt6, e0_2, e0_3, e0_4, e0_10, e0_11]); omega)) (by first | omega | ((try simp only [zt0, zt1, zt2, zt3, zt4, zt5, zt6, e0_2, e0_3, e0_4, e0_10, e0_11]); omega))
            · simp only [zput_s, zput_n, ti_g, oI_add, oI_sub, oI_mul, zt0, zt1, zt2, zt3, zt4, zt5, zt6, e0_2, e0_3, e0_4, e0_10, e0_11, b139_154]
              try simp only [zput_s, zput_n, ti_g, oI_add, oI_sub, oI_mul]
              simp only [zput_s, zput_n, ti_g, oI_add, oI_sub, oI_mul, zt0, zt1, zt2, zt3, zt4, zt5, zt6, e0_2, e0_3, e0_4, e0_10, e0_11, b139_164]
              try simp only [zput_s, zput_n, ti_g, oI_add, oI_sub, oI_mul]
              try simp only [zput_s, zput_n, ti_g, oI_add, oI_sub, oI_mul]
              exact ih _ _ _ _ _ (by first | rfl | assumption) _ (f0) (by first | omega | ((try simp only [zt0, zt1, zt2, zt3, zt4, zt5, zt6, e0_2, e0_3, e0_4, e0_10, e0_11]); omega)) (by first | omega | ((try simp only [zt0, zt1, zt2, zt3, zt4, zt5, zt6, e0_2, e0_3, e0_4, e0_10, e0_11]); omega))
        · first | refine zok_eq (by omega) (fun c18 => ?_) (fun c18 => ?_) | refine zok_if (fun c18 => ?_) (fun c18 => ?_)
          · simp only [zput_s, zput_n, ti_g, oI_add, oI_sub, oI_mul, zt0, zt1, zt2, zt3, zt4, zt5, zt6, e0_2, e0_3, e0_4, e0_10, e0_11, b139_96]
            try simp only [zput_s, zput_n, ti_g, oI_add, oI_sub, oI_mul]
            first | exact qI_rt (by omega) (by omega) ⟨f0, by omega⟩ | exact qI_nf ⟨f0, by omega⟩
          · first | refine zok_lt (by omega) (fun c20 => ?_) (fun c20 => ?_) | refine zok_if (fun c20 => ?_) (fun c20 => ?_)
            · simp only [zput_s, zput_n, ti_g, oI_add, oI_sub, oI_mul, zt0, zt1, zt2, zt3, zt4, zt5, zt6, e0_2, e0_3, e0_4, e0_10, e0_11, b139_96]
              try simp only [zput_s, zput_n, ti_g, oI_add, oI_sub, oI_mul]
              first | exact qI_rt (by omega) (by omega) ⟨f0, by omega⟩ | exact qI_nf ⟨f0, by omega⟩
            · first | refine zok_lt (by omega) (fun c22 => ?_) (fun c22 => ?_) | refine zok_if (fun c22 => ?_) (fun c22 => ?_)
              · simp only [zput_s, zput_n, ti_g, oI_add, oI_sub, oI_mul, zt0, zt1, zt2, zt3, zt4, zt5, zt6, e0_2, e0_3, e0_4, e0_10, e0_11, b139_96]
                try simp only [zput_s, zput_n, ti_g, oI_add, oI_sub, oI_mul]
                first | exact qI_rt (by omega) (by omega) ⟨f0, by omega⟩ | exact qI_nf ⟨f0, by omega⟩
              · first | refine zok_le (by omega) (fun c24 => ?_) (fun c24 => ?_) | refine zok_if (fun c24 => ?_) (fun c24 => ?_)
                · have g25_1 := And.intro (tg_lo t1 r0 16) (tg_hi t1 r0 16)
                  simp only [zput_s, zput_n, ti_g, oI_add, oI_sub, oI_mul, zt0, zt1, zt2, zt3, zt4, zt5, zt6, e0_2, e0_3, e0_4, e0_10, e0_11, b139_90]
                  try simp only [zput_s, zput_n, ti_g, oI_add, oI_sub, oI_mul]
                  first | refine zok_ne (by omega) (fun c26 => ?_) (fun c26 => ?_) | refine zok_if (fun c26 => ?_) (fun c26 => ?_)
                  · refine zok_ck ((q0).1) ?_
                    obtain ⟨w27, wa27, wb27, we27⟩ := oI_nf (((ti t1 r0 16) <<< ((oI 8) &&& 31)) ||| (oI x5))
                    try simp only [zput_s, zput_n, ti_g, oI_add, oI_sub, oI_mul] at we27
                    try rw [we27]
                    simp only [zput_s, zput_n, ti_g, oI_add, oI_sub, oI_mul, zt0, zt1, zt2, zt3, zt4, zt5, zt6, e0_2, e0_3, e0_4, e0_10, e0_11, b139_109]
                    try simp only [zput_s, zput_n, ti_g, oI_add, oI_sub, oI_mul]
                    refine zok_ck (by first | exact ⟨(q0).1, fun e => by cases e⟩ | exact (q0).1) ?_
                    obtain ⟨t29, ht29⟩ : ∃ t', t' = tI t1 r0 (16) (oI (w27)) := ⟨_, rfl⟩
                    try simp only [zt0, zt1, zt2, zt3, zt4, zt5, zt6, e0_2, e0_3, e0_4, e0_10, e0_11] at ht29
                    rw [← ht29]
                    have f29 : FrV sh r0 [0] t1 t29 := by rw [ht29]; exact GI_m q0 (f0.g) (by omega) (fun e => by first | omega | cases e) (fun e => by first | omega | cases e)
                    have d29_7 : tg t29 r0 7 = tg t1 r0 7 := by rw [ht29]; refine (tg_at (by omega)).trans ?_; first | exact if_pos rfl | exact if_neg (by decide) | (simp only [zt0, zt1, zt2, zt3, zt4, zt5, zt6, e0_2, e0_3, e0_4, e0_10, e0_11, true_and, if_true])
                    have d29_15 : tg t29 r0 15 = tg t1 r0 15 := by rw [ht29]; refine (tg_at (by omega)).trans ?_; first | exact if_pos rfl | exact if_neg (by decide) | (simp only [zt0, zt1, zt2, zt3, zt4, zt5, zt6, e0_2, e0_3, e0_4, e0_10, e0_11, true_and, if_true])
                    have d29_16 : tg t29 r0 16 = w27 := by rw [ht29]; refine (tg_at (by omega)).trans ?_; first | exact if_pos rfl | exact if_neg (by decide) | (simp only [zt0, zt1, zt2, zt3, zt4, zt5, zt6, e0_2, e0_3, e0_4, e0_10, e0_11, true_and, if_true])
                    try simp only [zt0, zt1, zt2, zt3, zt4, zt5, zt6, e0_2, e0_3, e0_4, e0_10, e0_11] at d29_7
                    try simp only [zt0, zt1, zt2, zt3, zt4, zt5, zt6, e0_2, e0_3, e0_4, e0_10, e0_11] at d29_15
                    try simp only [zt0, zt1, zt2, zt3, zt4, zt5, zt6, e0_2, e0_3, e0_4, e0_10, e0_11] at d29_16
                    have e29_2 : ∀ k, tg t29 (sr sh r0 2) k = tg t1 (sr sh r0 2) k := fun k => f29.eq q0 (i := 2) (by decide) (by decide) k
                    have e29_3 : ∀ k, tg t29 (sr sh r0 3) k = tg t1 (sr sh r0 3) k := fun k => f29.eq q0 (i := 3) (by decide) (by decide) k
                    have e29_4 : ∀ k, tg t29 (sr sh r0 4) k = tg t1 (sr sh r0 4) k := fun k => f29.eq q0 (i := 4) (by decide) (by decide) k
                    have e29_10 : ∀ k, tg t29 (sr sh r0 10) k = tg t1 (sr sh r0 10) k := fun k => f29.eq q0 (i := 10) (by decide) (by decide) k
                    have e29_11 : ∀ k, tg t29 (sr sh r0 11) k = tg t1 (sr sh r0 11) k := fun k => f29.eq q0 (i := 11) (by decide) (by decide) k
                    simp only [zput_s, zput_n, ti_g, oI_add, oI_sub, oI_mul, zt0, zt1, zt2, zt3, zt4, zt5, zt6, e0_2, e0_3, e0_4, e0_10, e0_11, e29_2, e29_3, e29_4, e29_10, e29_11, b139_164]
                    try simp only [zput_s, zput_n, ti_g, oI_add, oI_sub, oI_mul]
                    try simp only [zput_s, zput_n, ti_g, oI_add, oI_sub, oI_mul]
                    exact ih _ _ _ _ _ (by first | rfl | assumption) _ ((FrV.trans (Ns := [0]) (f0) f29 (by decide) (by decide))) (by first | omega | ((try simp only [zt0, zt1, zt2, zt3, zt4, zt5, zt6, e0_2, e0_3, e0_4, e0_10, e0_11, e29_2, e29_3, e29_4, e29_10, e29_11]); omega)) (by first | omega | ((try simp only [zt0, zt1, zt2, zt3, zt4, zt5, zt6, e0_2, e0_3, e0_4, e0_10, e0_11, e29_2, e29_3, e29_4, e29_10, e29_11]); omega))
                  · simp only [zput_s, zput_n, ti_g, oI_add, oI_sub, oI_mul, zt0, zt1, zt2, zt3, zt4, zt5, zt6, e0_2, e0_3, e0_4, e0_10, e0_11, b139_96]
                    try simp only [zput_s, zput_n, ti_g, oI_add, oI_sub, oI_mul]
                    first | exact qI_rt (by omega) (by omega) ⟨f0, by omega⟩ | exact qI_nf ⟨f0, by omega⟩
                · refine zok_ck ((q0).1) ?_
                  refine zok_pI (s128 (q0) (by omega) (by omega) (by first | (omega) | ((try simp only [zt0, zt1, zt2, zt3, zt4, zt5, zt6, e0_2, e0_3, e0_4, e0_10, e0_11]); omega)) (f0.g)) (fun y32 u32 p32 => ?_)
                  try simp only [zt0, zt1, zt2, zt3, zt4, zt5, zt6, e0_2, e0_3, e0_4, e0_10, e0_11] at p32
                  simp only [zput_s, zput_n, ti_g, oI_add, oI_sub, oI_mul, zt0, zt1, zt2, zt3, zt4, zt5, zt6, e0_2, e0_3, e0_4, e0_10, e0_11, b139_85]
                  try simp only [zput_s, zput_n, ti_g, oI_add, oI_sub, oI_mul]
                  first | refine zok_eq (by omega) (fun c34 => ?_) (fun c34 => ?_) | refine zok_if (fun c34 => ?_) (fun c34 => ?_)
                  · simp only [zput_s, zput_n, ti_g, oI_add, oI_sub, oI_mul, zt0, zt1, zt2, zt3, zt4, zt5, zt6, e0_2, e0_3, e0_4, e0_10, e0_11, b139_96]
                    try simp only [zput_s, zput_n, ti_g, oI_add, oI_sub, oI_mul]
                    first | exact qI_rt (by omega) (by omega) ⟨f0, by omega⟩ | exact qI_nf ⟨f0, by omega⟩
                  · have g36_1 := And.intro (tg_lo t1 r0 16) (tg_hi t1 r0 16)
                    simp only [zput_s, zput_n, ti_g, oI_add, oI_sub, oI_mul, zt0, zt1, zt2, zt3, zt4, zt5, zt6, e0_2, e0_3, e0_4, e0_10, e0_11, b139_90]
                    try simp only [zput_s, zput_n, ti_g, oI_add, oI_sub, oI_mul]
                    first | refine zok_ne (by omega) (fun c37 => ?_) (fun c37 => ?_) | refine zok_if (fun c37 => ?_) (fun c37 => ?_)
                    · refine zok_ck ((q0).1) ?_
                      obtain ⟨w38, wa38, wb38, we38⟩ := oI_nf (((ti t1 r0 16) <<< ((oI 8) &&& 31)) ||| (oI x5))
                      try simp only [zput_s, zput_n, ti_g, oI_add, oI_sub, oI_mul] at we38
                      try rw [we38]
                      simp only [zput_s, zput_n, ti_g, oI_add, oI_sub, oI_mul, zt0, zt1, zt2, zt3, zt4, zt5, zt6, e0_2, e0_3, e0_4, e0_10, e0_11, b139_109]
                      try simp only [zput_s, zput_n, ti_g, oI_add, oI_sub, oI_mul]
                      refine zok_ck (by first | exact ⟨(q0).1, fun e => by cases e⟩ | exact (q0).1) ?_
                      obtain ⟨t40, ht40⟩ : ∃ t', t' = tI t1 r0 (16) (oI (w38)) := ⟨_, rfl⟩
                      try simp only [zt0, zt1, zt2, zt3, zt4, zt5, zt6, e0_2, e0_3, e0_4, e0_10, e0_11] at ht40
                      rw [← ht40]
                      have f40 : FrV sh r0 [0] t1 t40 := by rw [ht40]; exact GI_m q0 (f0.g) (by omega) (fun e => by first | omega | cases e) (fun e => by first | omega | cases e)
                      have d40_7 : tg t40 r0 7 = tg t1 r0 7 := by rw [ht40]; refine (tg_at (by omega)).trans ?_; first | exact if_pos rfl | exact if_neg (by decide) | (simp only [zt0, zt1, zt2, zt3, zt4, zt5, zt6, e0_2, e0_3, e0_4, e0_10, e0_11, true_and, if_true])
                      have d40_15 : tg t40 r0 15 = tg t1 r0 15 := by rw [ht40]; refine (tg_at (by omega)).trans ?_; first | exact if_pos rfl | exact if_neg (by decide) | (simp only [zt0, zt1, zt2, zt3, zt4, zt5, zt6, e0_2, e0_3, e0_4, e0_10, e0_11, true_and, if_true])
                      have d40_16 : tg t40 r0 16 = w38 := by rw [ht40]; refine (tg_at (by omega)).trans ?_; first | exact if_pos rfl | exact if_neg (by decide) | (simp only [zt0, zt1, zt2, zt3, zt4, zt5, zt6, e0_2, e0_3, e0_4, e0_10, e0_11, true_and, if_true])
                      try simp only [zt0, zt1, zt2, zt3, zt4, zt5, zt6, e0_2, e0_3, e0_4, e0_10, e0_11] at d40_7
                      try simp only [zt0, zt1, zt2, zt3, zt4, zt5, zt6, e0_2, e0_3, e0_4, e0_10, e0_11] at d40_15
                      try simp only [zt0, zt1, zt2, zt3, zt4, zt5, zt6, e0_2, e0_3, e0_4, e0_10, e0_11] at d40_16
                      have e40_2 : ∀ k, tg t40 (sr sh r0 2) k = tg t1 (sr sh r0 2) k := fun k => f40.eq q0 (i := 2) (by decide) (by decide) k
                      have e40_3 : ∀ k, tg t40 (sr sh r0 3) k = tg t1 (sr sh r0 3) k := fun k => f40.eq q0 (i := 3) (by decide) (by decide) k
                      have e40_4 : ∀ k, tg t40 (sr sh r0 4) k = tg t1 (sr sh r0 4) k := fun k => f40.eq q0 (i := 4) (by decide) (by decide) k
                      have e40_10 : ∀ k, tg t40 (sr sh r0 10) k = tg t1 (sr sh r0 10) k := fun k => f40.eq q0 (i := 10) (by decide) (by decide) k
                      have e40_11 : ∀ k, tg t40 (sr sh r0 11) k = tg t1 (sr sh r0 11) k := fun k => f40.eq q0 (i := 11) (by decide) (by decide) k
                      simp only [zput_s, zput_n, ti_g, oI_add, oI_sub, oI_mul, zt0, zt1, zt2, zt3, zt4, zt5, zt6, e0_2, e0_3, e0_4, e0_10, e0_11, e40_2, e40_3, e40_4, e40_10, e40_11, b139_164]
                      try simp only [zput_s, zput_n, ti_g, oI_add, oI_sub, oI_mul]
                      try simp only [zput_s, zput_n, ti_g, oI_add, oI_sub, oI_mul]
                      exact ih _ _ _ _ _ (by first | rfl | assumption) _ ((FrV.trans (Ns := [0]) (f0) f40 (by decide) (by decide))) (by first | omega | ((try simp only [zt0, zt1, zt2, zt3, zt4, zt5, zt6, e0_2, e0_3, e0_4, e0_10, e0_11, e40_2, e40_3, e40_4, e40_10, e40_11]); omega)) (by first | omega | ((try simp only [zt0, zt1, zt2, zt3, zt4, zt5, zt6, e0_2, e0_3, e0_4, e0_10, e0_11, e40_2, e40_3, e40_4, e40_10, e40_11]); omega))
                    · simp only [zput_s, zput_n, ti_g, oI_add, oI_sub, oI_mul, zt0, zt1, zt2, zt3, zt4, zt5, zt6, e0_2, e0_3, e0_4, e0_10, e0_11, b139_96]
                      try simp only [zput_s, zput_n, ti_g, oI_add, oI_sub, oI_mul]
                      first | exact qI_rt (by omega) (by omega) ⟨f0, by omega⟩ | exact qI_nf ⟨f0, by omega⟩
      · refine zok_ck ((q0).1) ?_
        refine zok_pI (s128 (q0) (by omega) (by omega) (by first | (omega) | ((try simp only [zt0, zt1, zt2, zt3, zt4, zt5, zt6, e0_2, e0_3, e0_4, e0_10, e0_11]); omega)) (f0.g)) (fun y43 u43 p43 => ?_)
        try simp only [zt0, zt1, zt2, zt3, zt4, zt5, zt6, e0_2, e0_3, e0_4, e0_10, e0_11] at p43
        try simp only [zput_s, zput_n, ti_g, oI_add, oI_sub, oI_mul]
        rw [b139_36 (o8 := o8) (wo8 := wo8)]
        try simp only [zput_s, zput_n, ti_g, oI_add, oI_sub, oI_mul]
        try simp only [zput_s, zput_n, ti_g, oI_add, oI_sub, oI_mul]
        rw [b139_41 (o8 := o8) (wo8 := wo8)]
        try simp only [zput_s, zput_n, ti_g, oI_add, oI_sub, oI_mul]
        first | refine zok_ne (by omega) (fun c46 => ?_) (fun c46 => ?_) | refine zok_if (fun c46 => ?_) (fun c46 => ?_)
        · refine zok_pI (s121 (by omega)) (fun y47 u47 p47 => ?_)
          try simp only [zt0, zt1, zt2, zt3, zt4, zt5, zt6, e0_2, e0_3, e0_4, e0_10, e0_11] at p47
          simp only [zput_s, zput_n, ti_g, oI_add, oI_sub, oI_mul, zt0, zt1, zt2, zt3, zt4, zt5, zt6, e0_2, e0_3, e0_4, e0_10, e0_11, b139_129]
          try simp only [zput_s, zput_n, ti_g, oI_add, oI_sub, oI_mul]
          first | refine zok_eq (by omega) (fun c49 => ?_) (fun c49 => ?_) | refine zok_if (fun c49 => ?_) (fun c49 => ?_)
          · first | exact qI_rt (by omega) (by omega) ⟨f0, by omega⟩ | exact qI_nf ⟨f0, by omega⟩
          · first | refine zok_le (by omega) (fun c50 => ?_) (fun c50 => ?_) | refine zok_if (fun c50 => ?_) (fun c50 => ?_)
            · simp only [zput_s, zput_n, ti_g, oI_add, oI_sub, oI_mul, zt0, zt1, zt2, zt3, zt4, zt5, zt6, e0_2, e0_3, e0_4, e0_10, e0_11, b139_154]
              try simp only [zput_s, zput_n, ti_g, oI_add, oI_sub, oI_mul]
              simp only [zput_s, zput_n, ti_g, oI_add, oI_sub, oI_mul, zt0, zt1, zt2, zt3, zt4, zt5, zt6, e0_2, e0_3, e0_4, e0_10, e0_11, b139_164]
              try simp only [zput_s, zput_n, ti_g, oI_add, oI_sub, oI_mul]
              try simp only [zput_s, zput_n, ti_g, oI_add, oI_sub, oI_mul]
              exact ih _ _ _ _ _ (by first | rfl | assumption) _ (f0) (by first | omega | ((try simp only [zt0, zt1, zt2, zt3, zt4, zt5, zt6, e0_2, e0_3, e0_4, e0_10, e0_11]); omega)) (by first | omega | ((try simp only [zt0, zt1, zt2, zt3, zt4, zt5, zt6, e0_2, e0_3, e0_4, e0_10, e0_11]); omega))
            · simp only [zput_s, zput_n, ti_g, oI_add, oI_sub, oI_mul, zt0, zt1, zt2, zt3, zt4, zt5, zt6, e0_2, e0_3, e0_4, e0_10, e0_11, b139_154]
              try simp only [zput_s, zput_n, ti_g, oI_add, oI_sub, oI_mul]
              simp only [zput_s, zput_n, ti_g, oI_add, oI_sub, oI_mul, zt0, zt1, zt2, zt3, zt4, zt5, zt6, e0_2, e0_3, e0_4, e0_10, e0_11, b139_164]
              try simp only [zput_s, zput_n, ti_g, oI_add, oI_sub, oI_mul]
              try simp only [zput_s, zput_n, ti_g, oI_add, oI_sub, oI_mul]
              exact ih _ _ _ _ _ (by first | rfl | assumption) _ (f0) (by first | omega | ((try simp only [zt0, zt1, zt2, zt3, zt4, zt5, zt6, e0_2, e0_3, e0_4, e0_10, e0_11]); omega)) (by first | omega | ((try simp only [zt0, zt1, zt2, zt3, zt4, zt5, zt6, e0_2, e0_3, e0_4, e0_10, e0_11]); omega))
        · first | refine zok_eq (by omega) (fun c55 => ?_) (fun c55 => ?_) | refine zok_if (fun c55 => ?_) (fun c55 => ?_)
          · simp only [zput_s, zput_n, ti_g, oI_add, oI_sub, oI_mul, zt0, zt1, zt2, zt3, zt4, zt5, zt6, e0_2, e0_3, e0_4, e0_10, e0_11, b139_96]
            try simp only [zput_s, zput_n, ti_g, oI_add, oI_sub, oI_mul]
            first | exact qI_rt (by omega) (by omega) ⟨f0, by omega⟩ | exact qI_nf ⟨f0, by omega⟩
          · first | refine zok_lt (by omega) (fun c57 => ?_) (fun c57 => ?_) | refine zok_if (fun c57 => ?_) (fun c57 => ?_)
            · simp only [zput_s, zput_n, ti_g, oI_add, oI_sub, oI_mul, zt0, zt1, zt2, zt3, zt4, zt5, zt6, e0_2, e0_3, e0_4, e0_10, e0_11, b139_96]
              try simp only [zput_s, zput_n, ti_g, oI_add, oI_sub, oI_mul]
              first | exact qI_rt (by omega) (by omega) ⟨f0, by omega⟩ | exact qI_nf ⟨f0, by omega⟩
            · first | refine zok_lt (by omega) (fun c59 => ?_) (fun c59 => ?_) | refine zok_if (fun c59 => ?_) (fun c59 => ?_)
              · simp only [zput_s, zput_n, ti_g, oI_add, oI_sub, oI_mul, zt0, zt1, zt2, zt3, zt4, zt5, zt6, e0_2, e0_3, e0_4, e0_10, e0_11, b139_96]
                try simp only [zput_s, zput_n, ti_g, oI_add, oI_sub, oI_mul]
                first | exact qI_rt (by omega) (by omega) ⟨f0, by omega⟩ | exact qI_nf ⟨f0, by omega⟩
              · first | refine zok_le (by omega) (fun c61 => ?_) (fun c61 => ?_) | refine zok_if (fun c61 => ?_) (fun c61 => ?_)
                · have g62_1 := And.intro (tg_lo t1 r0 16) (tg_hi t1 r0 16)
                  simp only [zput_s, zput_n, ti_g, oI_add, oI_sub, oI_mul, zt0, zt1, zt2, zt3, zt4, zt5, zt6, e0_2, e0_3, e0_4, e0_10, e0_11, b139_90]
                  try simp only [zput_s, zput_n, ti_g, oI_add, oI_sub, oI_mul]
                  first | refine zok_ne (by omega) (fun c63 => ?_) (fun c63 => ?_) | refine zok_if (fun c63 => ?_) (fun c63 => ?_)
                  · refine zok_ck ((q0).1) ?_
                    obtain ⟨w64, wa64, wb64, we64⟩ := oI_nf (((ti t1 r0 16) <<< ((oI 8) &&& 31)) ||| (oI x5))
                    try simp only [zput_s, zput_n, ti_g, oI_add, oI_sub, oI_mul] at we64
                    try rw [we64]
                    simp only [zput_s, zput_n, ti_g, oI_add, oI_sub, oI_mul, zt0, zt1, zt2, zt3, zt4, zt5, zt6, e0_2, e0_3, e0_4, e0_10, e0_11, b139_109]
                    try simp only [zput_s, zput_n, ti_g, oI_add, oI_sub, oI_mul]
                    refine zok_ck (by first | exact ⟨(q0).1, fun e => by cases e⟩ | exact (q0).1) ?_
                    obtain ⟨t66, ht66⟩ : ∃ t', t' = tI t1 r0 (16) (oI (w64)) := ⟨_, rfl⟩
                    try simp only [zt0, zt1, zt2, zt3, zt4, zt5, zt6, e0_2, e0_3, e0_4, e0_10, e0_11] at ht66
                    rw [← ht66]
                    have f66 : FrV sh r0 [0] t1 t66 := by rw [ht66]; exact GI_m q0 (f0.g) (by omega) (fun e => by first | omega | cases e) (fun e => by first | omega | cases e)
                    have d66_7 : tg t66 r0 7 = tg t1 r0 7 := by rw [ht66]; refine (tg_at (by omega)).trans ?_; first | exact if_pos rfl | exact if_neg (by decide) | (simp only [zt0, zt1, zt2, zt3, zt4, zt5, zt6, e0_2, e0_3, e0_4, e0_10, e0_11, true_and, if_true])
                    have d66_15 : tg t66 r0 15 = tg t1 r0 15 := by rw [ht66]; refine (tg_at (by omega)).trans ?_; first | exact if_pos rfl | exact if_neg (by decide) | (simp only [zt0, zt1, zt2, zt3, zt4, zt5, zt6, e0_2, e0_3, e0_4, e0_10, e0_11, true_and, if_true])
                    have d66_16 : tg t66 r0 16 = w64 := by rw [ht66]; refine (tg_at (by omega)).trans ?_; first | exact if_pos rfl | exact if_neg (by decide) | (simp only [zt0, zt1, zt2, zt3, zt4, zt5, zt6, e0_2, e0_3, e0_4, e0_10, e0_11, true_and, if_true])
                    try simp only [zt0, zt1, zt2, zt3, zt4, zt5, zt6, e0_2, e0_3, e0_4, e0_10, e0_11] at d66_7
                    try simp only [zt0, zt1, zt2, zt3, zt4, zt5, zt6, e0_2, e0_3, e0_4, e0_10, e0_11] at d66_15
                    try simp only [zt0, zt1, zt2, zt3, zt4, zt5, zt6, e0_2, e0_3, e0_4, e0_10, e0_11] at d66_16
                    have e66_2 : ∀ k, tg t66 (sr sh r0 2) k = tg t1 (sr sh r0 2) k := fun k => f66.eq q0 (i := 2) (by decide) (by decide) k
                    have e66_3 : ∀ k, tg t66 (sr sh r0 3) k = tg t1 (sr sh r0 3) k := fun k => f66.eq q0 (i := 3) (by decide) (by decide) k
                    have e66_4 : ∀ k, tg t66 (sr sh r0 4) k = tg t1 (sr sh r0 4) k := fun k => f66.eq q0 (i := 4) (by decide) (by decide) k
                    have e66_10 : ∀ k, tg t66 (sr sh r0 10) k = tg t1 (sr sh r0 10) k := fun k => f66.eq q0 (i := 10) (by decide) (by decide) k
                    have e66_11 : ∀ k, tg t66 (sr sh r0 11) k = tg t1 (sr sh r0 11) k := fun k => f66.eq q0 (i := 11) (by decide) (by decide) k
                    simp only [zput_s, zput_n, ti_g, oI_add, oI_sub, oI_mul, zt0, zt1, zt2, zt3, zt4, zt5, zt6, e0_2, e0_3, e0_4, e0_10, e0_11, e66_2, e66_3, e66_4, e66_10, e66_11, b139_164]
                    try simp only [zput_s, zput_n, ti_g, oI_add, oI_sub, oI_mul]
                    try simp only [zput_s, zput_n, ti_g, oI_add, oI_sub, oI_mul]
                    exact ih _ _ _ _ _ (by first | rfl | assumption) _ ((FrV.trans (Ns := [0]) (f0) f66 (by decide) (by decide))) (by first | omega | ((try simp only [zt0, zt1, zt2, zt3, zt4, zt5, zt6, e0_2, e0_3, e0_4, e0_10, e0_11, e66_2, e66_3, e66_4, e66_10, e66_11]); omega)) (by first | omega | ((try simp only [zt0, zt1, zt2, zt3, zt4, zt5, zt6, e0_2, e0_3, e0_4, e0_10, e0_11, e66_2, e66_3, e66_4, e66_10, e66_11]); omega))
                  · simp only [zput_s, zput_n, ti_g, oI_add, oI_sub, oI_mul, zt0, zt1, zt2, zt3, zt4, zt5, zt6, e0_2, e0_3, e0_4, e0_10, e0_11, b139_96]
                    try simp only [zput_s, zput_n, ti_g, oI_add, oI_sub, oI_mul]
                    first | exact qI_rt (by omega) (by omega) ⟨f0, by omega⟩ | exact qI_nf ⟨f0, by omega⟩
                · refine zok_ck ((q0).1) ?_
                  refine zok_pI (s128 (q0) (by omega) (by omega) (by first | (omega) | ((try simp only [zt0, zt1, zt2, zt3, zt4, zt5, zt6, e0_2, e0_3, e0_4, e0_10, e0_11]); omega)) (f0.g)) (fun y69 u69 p69 => ?_)
                  try simp only [zt0, zt1, zt2, zt3, zt4, zt5, zt6, e0_2, e0_3, e0_4, e0_10, e0_11] at p69
                  simp only [zput_s, zput_n, ti_g, oI_add, oI_sub, oI_mul, zt0, zt1, zt2, zt3, zt4, zt5, zt6, e0_2, e0_3, e0_4, e0_10, e0_11, b139_85]
                  try simp only [zput_s, zput_n, ti_g, oI_add, oI_sub, oI_mul]
                  first | refine zok_eq (by omega) (fun c71 => ?_) (fun c71 => ?_) | refine zok_if (fun c71 => ?_) (fun c71 => ?_)
                  · simp only [zput_s, zput_n, ti_g, oI_add, oI_sub, oI_mul, zt0, zt1, zt2, zt3, zt4, zt5, zt6, e0_2, e0_3, e0_4, e0_10, e0_11, b139_96]
                    try simp only [zput_s, zput_n, ti_g, oI_add, oI_sub, oI_mul]
                    first | exact qI_rt (by omega) (by omega) ⟨f0, by omega⟩ | exact qI_nf ⟨f0, by omega⟩
                  · have g73_1 := And.intro (tg_lo t1 r0 16) (tg_hi t1 r0 16)
                    simp only [zput_s, zput_n, ti_g, oI_add, oI_sub, oI_mul, zt0, zt1, zt2, zt3, zt4, zt5, zt6, e0_2, e0_3, e0_4, e0_10, e0_11, b139_90]
                    try simp only [zput_s, zput_n, ti_g, oI_add, oI_sub, oI_mul]
                    first | refine zok_ne (by omega) (fun c74 => ?_) (fun c74 => ?_) | refine zok_if (fun c74 => ?_) (fun c74 => ?_)
                    · refine zok_ck ((q0).1) ?_
                      obtain ⟨w75, wa75, wb75, we75⟩ := oI_nf (((ti t1 r0 16) <<< ((oI 8) &&& 31)) ||| (oI x5))
                      try simp only [zput_s, zput_n, ti_g, oI_add, oI_sub, oI_mul] at we75
                      try rw [we75]
                      simp only [zput_s, zput_n, ti_g, oI_add, oI_sub, oI_mul, zt0, zt1, zt2, zt3, zt4, zt5, zt6, e0_2, e0_3, e0_4, e0_10, e0_11, b139_109]
                      try simp only [zput_s, zput_n, ti_g, oI_add, oI_sub, oI_mul]
                      refine zok_ck (by first | exact ⟨(q0).1, fun e => by cases e⟩ | exact (q0).1) ?_
                      obtain ⟨t77, ht77⟩ : ∃ t', t' = tI t1 r0 (16) (oI (w75)) := ⟨_, rfl⟩
                      try simp only [zt0, zt1, zt2, zt3, zt4, zt5, zt6, e0_2, e0_3, e0_4, e0_10, e0_11] at ht77
                      rw [← ht77]
                      have f77 : FrV sh r0 [0] t1 t77 := by rw [ht77]; exact GI_m q0 (f0.g) (by omega) (fun e => by first | omega | cases e) (fun e => by first | omega | cases e)
                      have d77_7 : tg t77 r0 7 = tg t1 r0 7 := by rw [ht77]; refine (tg_at (by omega)).trans ?_; first | exact if_pos rfl | exact if_neg (by decide) | (simp only [zt0, zt1, zt2, zt3, zt4, zt5, zt6, e0_2, e0_3, e0_4, e0_10, e0_11, true_and, if_true])
                      have d77_15 : tg t77 r0 15 = tg t1 r0 15 := by rw [ht77]; refine (tg_at (by omega)).trans ?_; first | exact if_pos rfl | exact if_neg (by decide) | (simp only [zt0, zt1, zt2, zt3, zt4, zt5, zt6, e0_2, e0_3, e0_4, e0_10, e0_11, true_and, if_true])
                      have d77_16 : tg t77 r0 16 = w75 := by rw [ht77]; refine (tg_at (by omega)).trans ?_; first | exact if_pos rfl | exact if_neg (by decide) | (simp only [zt0, zt1, zt2, zt3, zt4, zt5, zt6, e0_2, e0_3, e0_4, e0_10, e0_11, true_and, if_true])
                      try simp only [zt0, zt1, zt2, zt3, zt4, zt5, zt6, e0_2, e0_3, e0_4, e0_10, e0_11] at d77_7
                      try simp only [zt0, zt1, zt2, zt3, zt4, zt5, zt6, e0_2, e0_3, e0_4, e0_10, e0_11] at d77_15
                      try simp only [zt0, zt1, zt2, zt3, zt4, zt5, zt6, e0_2, e0_3, e0_4, e0_10, e0_11] at d77_16
                      have e77_2 : ∀ k, tg t77 (sr sh r0 2) k = tg t1 (sr sh r0 2) k := fun k => f77.eq q0 (i := 2) (by decide) (by decide) k
                      have e77_3 : ∀ k, tg t77 (sr sh r0 3) k = tg t1 (sr sh r0 3) k := fun k => f77.eq q0 (i := 3) (by decide) (by decide) k
                      have e77_4 : ∀ k, tg t77 (sr sh r0 4) k = tg t1 (sr sh r0 4) k := fun k => f77.eq q0 (i := 4) (by decide) (by decide) k
                      have e77_10 : ∀ k, tg t77 (sr sh r0 10) k = tg t1 (sr sh r0 10) k := fun k => f77.eq q0 (i := 10) (by decide) (by decide) k
                      have e77_11 : ∀ k, tg t77 (sr sh r0 11) k = tg t1 (sr sh r0 11) k := fun k => f77.eq q0 (i := 11) (by decide) (by decide) k
                      simp only [zput_s, zput_n, ti_g, oI_add, oI_sub, oI_mul, zt0, zt1, zt2, zt3, zt4, zt5, zt6, e0_2, e0_3, e0_4, e0_10, e0_11, e77_2, e77_3, e77_4, e77_10, e77_11, b139_164]
                      try simp only [zput_s, zput_n, ti_g, oI_add, oI_sub, oI_mul]
                      try simp only [zput_s, zput_n, ti_g, oI_add, oI_sub, oI_mul]
                      exact ih _ _ _ _ _ (by first | rfl | assumption) _ ((FrV.trans (Ns := [0]) (f0) f77 (by decide) (by decide))) (by first | omega | ((try simp only [zt0, zt1, zt2, zt3, zt4, zt5, zt6, e0_2, e0_3, e0_4, e0_10, e0_11, e77_2, e77_3, e77_4, e77_10, e77_11]); omega)) (by first | omega | ((try simp only [zt0, zt1, zt2, zt3, zt4, zt5, zt6, e0_2, e0_3, e0_4, e0_10, e0_11, e77_2, e77_3, e77_4, e77_10, e77_11]); omega))
                    · simp only [zput_s, zput_n, ti_g, oI_add, oI_sub, oI_mul, zt0, zt1, zt2, zt3, zt4, zt5, zt6, e0_2, e0_3, e0_4, e0_10, e0_11, b139_96]
                      try simp only [zput_s, zput_n, ti_g, oI_add, oI_sub, oI_mul]
                      first | exact qI_rt (by omega) (by omega) ⟨f0, by omega⟩ | exact qI_nf ⟨f0, by omega⟩
theorem s139 {sh : zSh} {t : zSt} {MB : Nat} {r0 : Nat} (q0 : zMd sh MB r0) {x1 : Int} (u1 : -2147483648 ≤ x1 ∧ x1 ≤ 2147483647) {x2 : Int} (u2 : -2147483648 ≤ x2 ∧ x2 ≤ 2147483647) {x3 : Int} (u3 : -2147483648 ≤ x3 ∧ x3 ≤ 2147483647) (d1 : 0 ≤ x1 ∧ x1 ≤ 13) (d2 : -1 ≤ x2 ∧ x2 ≤ 4000) (d3 : -1 ≤ x3 ∧ x3 ≤ 4000) (G : GI sh r0 t) : zok (zcl zP 139 [zR r0, zI (oI x1), zI (oI x2), zI (oI x3)] (sh, t)) (qI (fun x t' => FrV sh r0 [0] t t' ∧ ((x = 0 ∨ x = 1) ∧ tg t' r0 7 = tg t r0 7 ∧ tg t' r0 15 = tg t r0 15)) sh) := by
  have ha0_1 : (sk sh (sr sh r0 1)).2 = 21000 := by rw [q0.2.2.2.2.1]
  have ha0_2 : (sk sh (sr sh r0 2)).2 = 14 := by rw [q0.2.2.2.2.2.1]
  have ha0_3 : (sk sh (sr sh r0 3)).2 = 98 := by rw [q0.2.2.2.2.2.2.1]
  have ha0_4 : (sk sh (sr sh r0 4)).2 = 98 := by rw [q0.2.2.2.2.2.2.2.1]
  have ha0_8 : (sk sh (sr sh r0 8)).2 = 1500 := by rw [q0.2.2.2.2.2.2.2.2.1]
  have ha0_9 : (sk sh (sr sh r0 9)).2 = 10500 := by rw [q0.2.2.2.2.2.2.2.2.2.1]
  have ha0_10 : (sk sh (sr sh r0 10)).2 = 7 := by rw [q0.2.2.2.2.2.2.2.2.2.2.1]
  have ha0_11 : (sk sh (sr sh r0 11)).2 = 7 := by rw [q0.2.2.2.2.2.2.2.2.2.2.2.1]
  have ha0_12 : (sk sh (sr sh r0 12)).2 = 1500 := by rw [q0.2.2.2.2.2.2.2.2.2.2.2.2.1]
  have ha0_13 : (sk sh (sr sh r0 13)).2 = 1500 := by rw [q0.2.2.2.2.2.2.2.2.2.2.2.2.2.1]
  have ha0_14 : (sk sh (sr sh r0 14)).2 = 20 := by rw [q0.2.2.2.2.2.2.2.2.2.2.2.2.2.2]
  rw [b139_0]
  try simp only [zput_s, zput_n, ti_g, oI_add, oI_sub, oI_mul]
  refine zok_ck (by first | exact ⟨(q0).1, fun e => by cases e⟩ | exact (q0).1) ?_
  obtain ⟨t81, ht81⟩ : ∃ t', t' = tI t r0 (16) (oI (0)) := ⟨_, rfl⟩
  try simp only [zt0, zt1, zt2, zt3, zt4, zt5, zt6] at ht81
  rw [← ht81]
  have f81 : FrV sh r0 [0] t t81 := by rw [ht81]; exact GI_m q0 (G) (by omega) (fun e => by first | omega | cases e) (fun e => by first | omega | cases e)
  have d81_7 : tg t81 r0 7 = tg t r0 7 := by rw [ht81]; refine (tg_at (by omega)).trans ?_; first | exact if_pos rfl | exact if_neg (by decide) | (simp only [zt0, zt1, zt2, zt3, zt4, zt5, zt6, true_and, if_true])
  have d81_15 : tg t81 r0 15 = tg t r0 15 := by rw [ht81]; refine (tg_at (by omega)).trans ?_; first | exact if_pos rfl | exact if_neg (by decide) | (simp only [zt0, zt1, zt2, zt3, zt4, zt5, zt6, true_and, if_true])
  have d81_16 : tg t81 r0 16 = 0 := by rw [ht81]; refine (tg_at (by omega)).trans ?_; first | exact if_pos rfl | exact if_neg (by decide) | (simp only [zt0, zt1, zt2, zt3, zt4, zt5, zt6, true_and, if_true])
  try simp only [zt0, zt1, zt2, zt3, zt4, zt5, zt6] at d81_7
  try simp only [zt0, zt1, zt2, zt3, zt4, zt5, zt6] at d81_15
  try simp only [zt0, zt1, zt2, zt3, zt4, zt5, zt6] at d81_16
  have e81_2 : ∀ k, tg t81 (sr sh r0 2) k = tg t (sr sh r0 2) k := fun k => f81.eq q0 (i := 2) (by decide) (by decide) k
  have e81_3 : ∀ k, tg t81 (sr sh r0 3) k = tg t (sr sh r0 3) k := fun k => f81.eq q0 (i := 3) (by decide) (by decide) k
  have e81_4 : ∀ k, tg t81 (sr sh r0 4) k = tg t (sr sh r0 4) k := fun k => f81.eq q0 (i := 4) (by decide) (by decide) k
  have e81_10 : ∀ k, tg t81 (sr sh r0 10) k = tg t (sr sh r0 10) k := fun k => f81.eq q0 (i := 10) (by decide) (by decide) k
  have e81_11 : ∀ k, tg t81 (sr sh r0 11) k = tg t (sr sh r0 11) k := fun k => f81.eq q0 (i := 11) (by decide) (by decide) k
  try simp only [zput_s, zput_n, ti_g, oI_add, oI_sub, oI_mul]
  exact l139_17 q0 (by omega) (by omega) (by omega) d1 d2 d3 G _ _ _ _ _ _ (by first | rfl | assumption) _ ((FrV.trans (Ns := [0]) (FrV.refl (Ls := []) G) f81 (by decide) (by decide))) (by first | omega | ((try simp only [zt0, zt1, zt2, zt3, zt4, zt5, zt6, e81_2, e81_3, e81_4, e81_10, e81_11]); omega)) (Nat.lt_succ_self _)
