set_option maxRecDepth 16384
/-! X9_isSameRow -/
theorem l132_24 {sh : zSh} {t : zSt} {MB : Nat} {r0 : Nat} (q0 : zMd sh MB r0) {x1 : Int} (u1 : -2147483648 ≤ x1 ∧ x1 ≤ 2147483647) {x2 : Int} (u2 : -2147483648 ≤ x2 ∧ x2 ≤ 2147483647) (d1 : 0 ≤ x1 ∧ x1 ≤ 13) (d2 : 0 ≤ x2 ∧ x2 ≤ 13) (G : GI sh r0 t) : ∀ (n : Nat) (x3 : Int) (x4 : Int) , (-2147483648 ≤ x3 ∧ x3 ≤ 2147483647) ∧ (-2147483648 ≤ x4 ∧ x4 ≤ 2147483647) ∧ (0 ≤ x4) ∧ (x3 = 0 ∨ (x3 = 1 ∧ tg t (sr sh r0 2) (x1).toNat = tg t (sr sh r0 2) (x2).toNat)) → (tg t (sr sh r0 2) (x1).toNat - x4).toNat < n → zok (zev zP 132 24 [some (zR r0), some (zI (oI x1)), some (zI (oI x2)), some (zI (oI x3)), some (zI (oI x4))] [] (sh, t)) (qI (fun x t' => t' = t ∧ (x = 0 ∨ x = 1)) sh) := by
  intro n
  induction n with
  | zero => intro x3 x4  _ hm; omega
  | succ n ih =>
    intro x3 x4  hv hm
    have ha0_1 : (sk sh (sr sh r0 1)).2 = 21000 := by rw [q0.2.2.2.2.1]
    have ha0_2 : (sk sh (sr sh r0 2)).2 = 14 := by rw [q0.2.2.2.2.2.1]
    have ha0_3 : (sk sh (sr sh r0 3)).2 = 98 := by rw [q0.2.2.2.2.2.2.1]
    have ha0_4 : (sk sh (sr sh r0 4)).2 = 98 := by rw [q0.2.2.2.2.2.2.2.1]
    have ha0_8 : (sk sh (sr sh r0 8)).2 = 1500 := by rw [q0.2.2.2.2.2.2.2.2.1]
    have ha0_9 : (sk sh (sr sh r0 9)).2 = 10500 := by rw [q0.2.2.2.2.2.2.2.2.2.1]
    have ha0_10 : (sk sh (sr sh r0 10)).2 = 7 := by rw [q0.2.2.2.2.2.2.2.2.2.2.1]
    have ha0_11 : (sk sh (sr sh r0 11)).2 = 7 := by rw [q0.2.2.2.2.2.2.2.2.2.2.2.1]
    have ha0_12 : (sk sh (sr sh r0 12)).2 = 1500 := by rw [q0.2.2.2.2.2.2.2.2.2.2.2.2.1]
    have ha0_13 : (sk sh (sr sh r0 13)).2 = 1500 := by rw [q0.2.2.2.2.2.2.2.2.2.2.2.2.2.1]
    have ha0_14 : (sk sh (sr sh r0 14)).2 = 20 := by rw [q0.2.2.2.2.2.2.2.2.2.2.2.2.2.2]
    have gz := G.1 (x2).toNat (by omega)
    try simp only [zt0, zt1, zt2, zt3, zt4, zt5, zt6, zt7, zt8, zt9, zt10, zt11, zt12, zt13] at gz
    rw [b132_24]
    try simp only [zput_s, zput_n, ti_g, oI_add, oI_sub, oI_mul]
    refine zok_ck ((q0).1) ?_
    refine zok_ck ⟨(by rw [(q0).2.2.2.2.2.1]), zin_o (by omega) (by omega) (by omega)⟩ ?_
    try rw [nN_o (a := x1) (by omega) (by omega)]
    try simp only [zput_s, zput_n, ti_g, oI_add, oI_sub, oI_mul, zt0, zt1, zt2, zt3, zt4, zt5, zt6, zt7, zt8, zt9, zt10, zt11, zt12, zt13]
    have gl2 := And.intro (tg_lo t (sr sh r0 2) ((x1).toNat)) (tg_hi t (sr sh r0 2) ((x1).toNat))
    have gm2 := (G).1 ((x1).toNat) (by omega)
    try simp only [zt0, zt1, zt2, zt3, zt4, zt5, zt6, zt7, zt8, zt9, zt10, zt11, zt12, zt13] at gl2
    try simp only [zt0, zt1, zt2, zt3, zt4, zt5, zt6, zt7, zt8, zt9, zt10, zt11, zt12, zt13] at gm2
    first | refine zok_le (by omega) (fun c3 => ?_) (fun c3 => ?_) | refine zok_if (fun c3 => ?_) (fun c3 => ?_)
    · refine zok_ck (by first | exact fun _ => bool_p (by omega) | exact bool_p (by omega)) ?_
      first | exact qI_rt (by omega) (by omega) ⟨rfl, by omega⟩ | exact qI_nf ⟨rfl, by omega⟩
    · first | refine zok_eq (by omega) (fun c4 => ?_) (fun c4 => ?_) | refine zok_if (fun c4 => ?_) (fun c4 => ?_)
      · refine zok_ck (by first | exact fun _ => bool_p (by omega) | exact bool_p (by omega)) ?_
        first | exact qI_rt (by omega) (by omega) ⟨rfl, by omega⟩ | exact qI_nf ⟨rfl, by omega⟩
      · refine zok_ck ((q0).1) ?_
        refine zok_ck ⟨(by rw [(q0).2.2.2.2.1]), zin_o (by omega) (by omega) (by omega)⟩ ?_
        try rw [nN_o (a := ((1500) * (x1)) + (x4)) (by omega) (by omega)]
        try simp only [zput_s, zput_n, ti_g, oI_add, oI_sub, oI_mul, zt0, zt1, zt2, zt3, zt4, zt5, zt6, zt7, zt8, zt9, zt10, zt11, zt12, zt13]
        have gl5 := And.intro (tg_lo t (sr sh r0 1) ((((1500) * (x1)) + (x4)).toNat)) (tg_hi t (sr sh r0 1) ((((1500) * (x1)) + (x4)).toNat))
        try simp only [zt0, zt1, zt2, zt3, zt4, zt5, zt6, zt7, zt8, zt9, zt10, zt11, zt12, zt13] at gl5
        refine zok_ck ((q0).1) ?_
        refine zok_ck ⟨(by rw [(q0).2.2.2.2.1]), zin_o (by omega) (by omega) (by omega)⟩ ?_
        try rw [nN_o (a := ((1500) * (x2)) + (x4)) (by omega) (by omega)]
        try simp only [zput_s, zput_n, ti_g, oI_add, oI_sub, oI_mul, zt0, zt1, zt2, zt3, zt4, zt5, zt6, zt7, zt8, zt9, zt10, zt11, zt12, zt13]
        have gl6 := And.intro (tg_lo t (sr sh r0 1) ((((1500) * (x2)) + (x4)).toNat)) (tg_hi t (sr sh r0 1) ((((1500) * (x2)) + (x4)).toNat))
        try simp only [zt0, zt1, zt2, zt3, zt4, zt5, zt6, zt7, zt8, zt9, zt10, zt11, zt12, zt13] at gl6
        first | refine zok_ne (by omega) (fun c7 => ?_) (fun c7 => ?_) | refine zok_if (fun c7 => ?_) (fun c7 => ?_)
        · try simp only [zput_s, zput_n, ti_g, oI_add, oI_sub, oI_mul]
          exact ih _ _ (by first | omega | ((try simp only [zt0, zt1, zt2, zt3, zt4, zt5, zt6, zt7, zt8, zt9, zt10, zt11, zt12, zt13]); omega)) (by first | omega | ((try simp only [zt0, zt1, zt2, zt3, zt4, zt5, zt6, zt7, zt8, zt9, zt10, zt11, zt12, zt13]); omega))
        · try simp only [zput_s, zput_n, ti_g, oI_add, oI_sub, oI_mul]
          exact ih _ _ (by first | omega | ((try simp only [zt0, zt1, zt2, zt3, zt4, zt5, zt6, zt7, zt8, zt9, zt10, zt11, zt12, zt13]); omega)) (by first | omega | ((try simp only [zt0, zt1, zt2, zt3, zt4, zt5, zt6, zt7, zt8, zt9, zt10, zt11, zt12, zt13]); omega))
theorem s132 {sh : zSh} {t : zSt} {MB : Nat} {r0 : Nat} (q0 : zMd sh MB r0) {x1 : Int} (u1 : -2147483648 ≤ x1 ∧ x1 ≤ 2147483647) {x2 : Int} (u2 : -2147483648 ≤ x2 ∧ x2 ≤ 2147483647) (d1 : 0 ≤ x1 ∧ x1 ≤ 13) (d2 : 0 ≤ x2 ∧ x2 ≤ 13) (G : GI sh r0 t) : zok (zcl zP 132 [zR r0, zI (oI x1), zI (oI x2)] (sh, t)) (qI (fun x t' => t' = t ∧ (x = 0 ∨ x = 1)) sh) := by
  have ha0_1 : (sk sh (sr sh r0 1)).2 = 21000 := by rw [q0.2.2.2.2.1]
  have ha0_2 : (sk sh (sr sh r0 2)).2 = 14 := by rw [q0.2.2.2.2.2.1]
  have ha0_3 : (sk sh (sr sh r0 3)).2 = 98 := by rw [q0.2.2.2.2.2.2.1]
  have ha0_4 : (sk sh (sr sh r0 4)).2 = 98 := by rw [q0.2.2.2.2.2.2.2.1]
  have ha0_8 : (sk sh (sr sh r0 8)).2 = 1500 := by rw [q0.2.2.2.2.2.2.2.2.1]
  have ha0_9 : (sk sh (sr sh r0 9)).2 = 10500 := by rw [q0.2.2.2.2.2.2.2.2.2.1]
  have ha0_10 : (sk sh (sr sh r0 10)).2 = 7 := by rw [q0.2.2.2.2.2.2.2.2.2.2.1]
  have ha0_11 : (sk sh (sr sh r0 11)).2 = 7 := by rw [q0.2.2.2.2.2.2.2.2.2.2.2.1]
  have ha0_12 : (sk sh (sr sh r0 12)).2 = 1500 := by rw [q0.2.2.2.2.2.2.2.2.2.2.2.2.1]
  have ha0_13 : (sk sh (sr sh r0 13)).2 = 1500 := by rw [q0.2.2.2.2.2.2.2.2.2.2.2.2.2.1]
  have ha0_14 : (sk sh (sr sh r0 14)).2 = 20 := by rw [q0.2.2.2.2.2.2.2.2.2.2.2.2.2.2]
  rw [b132_0]
  try simp only [zput_s, zput_n, ti_g, oI_add, oI_sub, oI_mul]
  refine zok_ck ((q0).1) ?_
  refine zok_ck ⟨(by rw [(q0).2.2.2.2.2.1]), zin_o (by omega) (by omega) (by omega)⟩ ?_
  try rw [nN_o (a := x1) (by omega) (by omega)]
  try simp only [zput_s, zput_n, ti_g, oI_add, oI_sub, oI_mul, zt0, zt1, zt2, zt3, zt4, zt5, zt6, zt7, zt8, zt9, zt10, zt11, zt12, zt13]
  have gl9 := And.intro (tg_lo t (sr sh r0 2) ((x1).toNat)) (tg_hi t (sr sh r0 2) ((x1).toNat))
  have gm9 := (G).1 ((x1).toNat) (by omega)
  try simp only [zt0, zt1, zt2, zt3, zt4, zt5, zt6, zt7, zt8, zt9, zt10, zt11, zt12, zt13] at gl9
  try simp only [zt0, zt1, zt2, zt3, zt4, zt5, zt6, zt7, zt8, zt9, zt10, zt11, zt12, zt13] at gm9
  refine zok_ck ((q0).1) ?_
  refine zok_ck ⟨(by rw [(q0).2.2.2.2.2.1]), zin_o (by omega) (by omega) (by omega)⟩ ?_
  try rw [nN_o (a := x2) (by omega) (by omega)]
  try simp only [zput_s, zput_n, ti_g, oI_add, oI_sub, oI_mul, zt0, zt1, zt2, zt3, zt4, zt5, zt6, zt7, zt8, zt9, zt10, zt11, zt12, zt13]
  have gl10 := And.intro (tg_lo t (sr sh r0 2) ((x2).toNat)) (tg_hi t (sr sh r0 2) ((x2).toNat))
  have gm10 := (G).1 ((x2).toNat) (by omega)
  try simp only [zt0, zt1, zt2, zt3, zt4, zt5, zt6, zt7, zt8, zt9, zt10, zt11, zt12, zt13] at gl10
  try simp only [zt0, zt1, zt2, zt3, zt4, zt5, zt6, zt7, zt8, zt9, zt10, zt11, zt12, zt13] at gm10
  first | refine zok_ne (by omega) (fun c11 => ?_) (fun c11 => ?_) | refine zok_if (fun c11 => ?_) (fun c11 => ?_)
  · try simp only [zput_s, zput_n, ti_g, oI_add, oI_sub, oI_mul]
    exact l132_24 q0 (by omega) (by omega) d1 d2 G _ _ _ (by first | omega | ((try simp only [zt0, zt1, zt2, zt3, zt4, zt5, zt6, zt7, zt8, zt9, zt10, zt11, zt12, zt13]); omega)) (Nat.lt_succ_self _)
  · try simp only [zput_s, zput_n, ti_g, oI_add, oI_sub, oI_mul]
    exact l132_24 q0 (by omega) (by omega) d1 d2 G _ _ _ (by first | omega | ((try simp only [zt0, zt1, zt2, zt3, zt4, zt5, zt6, zt7, zt8, zt9, zt10, zt11, zt12, zt13]); omega)) (Nat.lt_succ_self _)
/-! X9_isSamePart -/
theorem l173_40 {sh : zSh} {t : zSt} {MB : Nat} {r0 : Nat} (q0 : zMd sh MB r0) {x1 : Int} (u1 : -2147483648 ≤ x1 ∧ x1 ≤ 2147483647) {x2 : Int} (u2 : -2147483648 ≤ x2 ∧ x2 ≤ 2147483647) {x3 : Int} (u3 : -2147483648 ≤ x3 ∧ x3 ≤ 2147483647) (d1 : 0 ≤ x1 ∧ x1 ≤ 13) (d2 : 0 ≤ x2 ∧ x2 ≤ 13) (d3 : 0 ≤ x3 ∧ x3 ≤ 6) (G : GI sh r0 t) : ∀ (n : Nat) (x4 : Int) (x5 : Int) , (-2147483648 ≤ x4 ∧ x4 ≤ 2147483647) ∧ (-2147483648 ≤ x5 ∧ x5 ≤ 2147483647) ∧ (0 ≤ x5) ∧ (x4 = 0 ∨ x4 = 1) → ((tg t (sr sh r0 4) (7 * x1 + x3).toNat - tg t (sr sh r0 3) (7 * x1 + x3).toNat) - x5).toNat < n → zok (zev zP 173 40 [some (zR r0), some (zI (oI x1)), some (zI (oI x2)), some (zI (oI x3)), some (zI (oI x4)), some (zI (oI x5))] [] (sh, t)) (qI (fun x t' => t' = t ∧ (x = 0 ∨ x = 1)) sh) := by
  intro n
  induction n with
  | zero => intro x4 x5  _ hm; omega
  | succ n ih =>
    intro x4 x5  hv hm
    have ha0_1 : (sk sh (sr sh r0 1)).2 = 21000 := by rw [q0.2.2.2.2.1]
    have ha0_2 : (sk sh (sr sh r0 2)).2 = 14 := by rw [q0.2.2.2.2.2.1]
    have ha0_3 : (sk sh (sr sh r0 3)).2 = 98 := by rw [q0.2.2.2.2.2.2.1]
    have ha0_4 : (sk sh (sr sh r0 4)).2 = 98 := by rw [q0.2.2.2.2.2.2.2.1]
    have ha0_8 : (sk sh (sr sh r0 8)).2 = 1500 := by rw [q0.2.2.2.2.2.2.2.2.1]
    have ha0_9 : (sk sh (sr sh r0 9)).2 = 10500 := by rw [q0.2.2.2.2.2.2.2.2.2.1]
    have ha0_10 : (sk sh (sr sh r0 10)).2 = 7 := by rw [q0.2.2.2.2.2.2.2.2.2.2.1]
    have ha0_11 : (sk sh (sr sh r0 11)).2 = 7 := by rw [q0.2.2.2.2.2.2.2.2.2.2.2.1]
    have ha0_12 : (sk sh (sr sh r0 12)).2 = 1500 := by rw [q0.2.2.2.2.2.2.2.2.2.2.2.2.1]
    have ha0_13 : (sk sh (sr sh r0 13)).2 = 1500 := by rw [q0.2.2.2.2.2.2.2.2.2.2.2.2.2.1]
    have ha0_14 : (sk sh (sr sh r0 14)).2 = 20 := by rw [q0.2.2.2.2.2.2.2.2.2.2.2.2.2.2]
    rw [b173_40]
    try simp only [zput_s, zput_n, ti_g, oI_add, oI_sub, oI_mul]
    refine zok_ck ((q0).1) ?_
    refine zok_pI (s135 (q0) (by omega) (by omega) (by first | (omega) | ((try simp only [zt0, zt1, zt2, zt3, zt4, zt5, zt6, zt7, zt8, zt9, zt10, zt11, zt12, zt13]); omega)) (by first | (omega) | ((try simp only [zt0, zt1, zt2, zt3, zt4, zt5, zt6, zt7, zt8, zt9, zt10, zt11, zt12, zt13]); omega)) (G)) (fun y2 u2 p2 => ?_)
    try simp only [zt0, zt1, zt2, zt3, zt4, zt5, zt6, zt7, zt8, zt9, zt10, zt11, zt12, zt13] at p2
    simp only [zput_s, zput_n, ti_g, oI_add, oI_sub, oI_mul, zt0, zt1, zt2, zt3, zt4, zt5, zt6, zt7, zt8, zt9, zt10, zt11, zt12, zt13, b173_48]
    try simp only [zput_s, zput_n, ti_g, oI_add, oI_sub, oI_mul]
    first | refine zok_le (by omega) (fun c4 => ?_) (fun c4 => ?_) | refine zok_if (fun c4 => ?_) (fun c4 => ?_)
    · refine zok_ck (by first | exact fun _ => bool_p (by omega) | exact bool_p (by omega)) ?_
      first | exact qI_rt (by omega) (by omega) ⟨rfl, by omega⟩ | exact qI_nf ⟨rfl, by omega⟩
    · first | refine zok_eq (by omega) (fun c5 => ?_) (fun c5 => ?_) | refine zok_if (fun c5 => ?_) (fun c5 => ?_)
      · refine zok_ck (by first | exact fun _ => bool_p (by omega) | exact bool_p (by omega)) ?_
        first | exact qI_rt (by omega) (by omega) ⟨rfl, by omega⟩ | exact qI_nf ⟨rfl, by omega⟩
      · refine zok_ck ((q0).1) ?_
        refine zok_pI (s136 (q0) (by omega) (by omega) (by omega) (by first | (omega) | ((try simp only [zt0, zt1, zt2, zt3, zt4, zt5, zt6, zt7, zt8, zt9, zt10, zt11, zt12, zt13]); omega)) (by first | (omega) | ((try simp only [zt0, zt1, zt2, zt3, zt4, zt5, zt6, zt7, zt8, zt9, zt10, zt11, zt12, zt13]); omega)) (by first | (omega) | ((try simp only [zt0, zt1, zt2, zt3, zt4, zt5, zt6, zt7, zt8, zt9, zt10, zt11, zt12, zt13]); omega)) (G)) (fun y6 u6 p6 => ?_)
        try simp only [zt0, zt1, zt2, zt3, zt4, zt5, zt6, zt7, zt8, zt9, zt10, zt11, zt12, zt13] at p6
        simp only [zput_s, zput_n, ti_g, oI_add, oI_sub, oI_mul, zt0, zt1, zt2, zt3, zt4, zt5, zt6, zt7, zt8, zt9, zt10, zt11, zt12, zt13, b173_64]
        try simp only [zput_s, zput_n, ti_g, oI_add, oI_sub, oI_mul]
        refine zok_ck ((q0).1) ?_
        refine zok_pI (s136 (q0) (by omega) (by omega) (by omega) (by first | (omega) | ((try simp only [zt0, zt1, zt2, zt3, zt4, zt5, zt6, zt7, zt8, zt9, zt10, zt11, zt12, zt13]); omega)) (by first | (omega) | ((try simp only [zt0, zt1, zt2, zt3, zt4, zt5, zt6, zt7, zt8, zt9, zt10, zt11, zt12, zt13]); omega)) (by first | (omega) | ((try simp only [zt0, zt1, zt2, zt3, zt4, zt5, zt6, zt7, zt8, zt9, zt10, zt11, zt12, zt13]); omega)) (G)) (fun y8 u8 p8 => ?_)
        try simp only [zt0, zt1, zt2, zt3, zt4, zt5, zt6, zt7, zt8, zt9, zt10, zt11, zt12, zt13] at p8
        simp only [zput_s, zput_n, ti_g, oI_add, oI_sub, oI_mul, zt0, zt1, zt2, zt3, zt4, zt5, zt6, zt7, zt8, zt9, zt10, zt11, zt12, zt13, b173_72]
        try simp only [zput_s, zput_n, ti_g, oI_add, oI_sub, oI_mul]
        first | refine zok_ne (by omega) (fun c10 => ?_) (fun c10 => ?_) | refine zok_if (fun c10 => ?_) (fun c10 => ?_)
        · try simp only [zput_s, zput_n, ti_g, oI_add, oI_sub, oI_mul]
          exact ih _ _ (by first | omega | ((try simp only [zt0, zt1, zt2, zt3, zt4, zt5, zt6, zt7, zt8, zt9, zt10, zt11, zt12, zt13]); omega)) (by first | omega | ((try simp only [zt0, zt1, zt2, zt3, zt4, zt5, zt6, zt7, zt8, zt9, zt10, zt11, zt12, zt13]); omega))
        · try simp only [zput_s, zput_n, ti_g, oI_add, oI_sub, oI_mul]
          exact ih _ _ (by first | omega | ((try simp only [zt0, zt1, zt2, zt3, zt4, zt5, zt6, zt7, zt8, zt9, zt10, zt11, zt12, zt13]); omega)) (by first | omega | ((try simp only [zt0, zt1, zt2, zt3, zt4, zt5, zt6, zt7, zt8, zt9, zt10, zt11, zt12, zt13]); omega))
theorem s173 {sh : zSh} {t : zSt} {MB : Nat} {r0 : Nat} (q0 : zMd sh MB r0) {x1 : Int} (u1 : -2147483648 ≤ x1 ∧ x1 ≤ 2147483647) {x2 : Int} (u2 : -2147483648 ≤ x2 ∧ x2 ≤ 2147483647) {x3 : Int} (u3 : -2147483648 ≤ x3 ∧ x3 ≤ 2147483647) (d1 : 0 ≤ x1 ∧ x1 ≤ 13) (d2 : 0 ≤ x2 ∧ x2 ≤ 13) (d3 : 0 ≤ x3 ∧ x3 ≤ 6) (G : GI sh r0 t) : zok (zcl zP 173 [zR r0, zI (oI x1), zI (oI x2), zI (oI x3)] (sh, t)) (qI (fun x t' => t' = t ∧ (x = 0 ∨ x = 1)) sh) := by
  have ha0_1 : (sk sh (sr sh r0 1)).2 = 21000 := by rw [q0.2.2.2.2.1]
  have ha0_2 : (sk sh (sr sh r0 2)).2 = 14 := by rw [q0.2.2.2.2.2.1]
  have ha0_3 : (sk sh (sr sh r0 3)).2 = 98 := by rw [q0.2.2.2.2.2.2.1]
  have ha0_4 : (sk sh (sr sh r0 4)).2 = 98 := by rw [q0.2.2.2.2.2.2.2.1]
  have ha0_8 : (sk sh (sr sh r0 8)).2 = 1500 := by rw [q0.2.2.2.2.2.2.2.2.1]
  have ha0_9 : (sk sh (sr sh r0 9)).2 = 10500 := by rw [q0.2.2.2.2.2.2.2.2.2.1]
  have ha0_10 : (sk sh (sr sh r0 10)).2 = 7 := by rw [q0.2.2.2.2.2.2.2.2.2.2.1]
  have ha0_11 : (sk sh (sr sh r0 11)).2 = 7 := by rw [q0.2.2.2.2.2.2.2.2.2.2.2.1]
  have ha0_12 : (sk sh (sr sh r0 12)).2 = 1500 := by rw [q0.2.2.2.2.2.2.2.2.2.2.2.2.1]
  have ha0_13 : (sk sh (sr sh r0 13)).2 = 1500 := by rw [q0.2.2.2.2.2.2.2.2.2.2.2.2.2.1]
  have ha0_14 : (sk sh (sr sh r0 14)).2 = 20 := by rw [q0.2.2.2.2.2.2.2.2.2.2.2.2.2.2]
  rw [b173_0]
  try simp only [zput_s, zput_n, ti_g, oI_add, oI_sub, oI_mul]
  refine zok_ck ((q0).1) ?_
  refine zok_pI (s134 (q0) (by omega) (by omega) (by first | (omega) | ((try simp only [zt0, zt1, zt2, zt3, zt4, zt5, zt6, zt7, zt8, zt9, zt10, zt11, zt12, zt13]); omega)) (by first | (omega) | ((try simp only [zt0, zt1, zt2, zt3, zt4, zt5, zt6, zt7, zt8, zt9, zt10, zt11, zt12, zt13]); omega)) (G)) (fun y12 u12 p12 => ?_)
  try simp only [zt0, zt1, zt2, zt3, zt4, zt5, zt6, zt7, zt8, zt9, zt10, zt11, zt12, zt13] at p12
  simp only [zput_s, zput_n, ti_g, oI_add, oI_sub, oI_mul, zt0, zt1, zt2, zt3, zt4, zt5, zt6, zt7, zt8, zt9, zt10, zt11, zt12, zt13, b173_6]
  try simp only [zput_s, zput_n, ti_g, oI_add, oI_sub, oI_mul]
  refine zok_ck ((q0).1) ?_
  refine zok_pI (s134 (q0) (by omega) (by omega) (by first | (omega) | ((try simp only [zt0, zt1, zt2, zt3, zt4, zt5, zt6, zt7, zt8, zt9, zt10, zt11, zt12, zt13]); omega)) (by first | (omega) | ((try simp only [zt0, zt1, zt2, zt3, zt4, zt5, zt6, zt7, zt8, zt9, zt10, zt11, zt12, zt13]); omega)) (G)) (fun y14 u14 p14 => ?_)
  try simp only [zt0, zt1, zt2, zt3, zt4, zt5, zt6, zt7, zt8, zt9, zt10, zt11, zt12, zt13] at p14
  simp only [zput_s, zput_n, ti_g, oI_add, oI_sub, oI_mul, zt0, zt1, zt2, zt3, zt4, zt5, zt6, zt7, zt8, zt9, zt10, zt11, zt12, zt13, b173_12]
  try simp only [zput_s, zput_n, ti_g, oI_add, oI_sub, oI_mul]
  first | refine zok_ne (by omega) (fun c16 => ?_) (fun c16 => ?_) | refine zok_if (fun c16 => ?_) (fun c16 => ?_)
  · try simp only [zput_s, zput_n, ti_g, oI_add, oI_sub, oI_mul]
    exact l173_40 q0 (by omega) (by omega) (by omega) d1 d2 d3 G _ _ _ (by first | omega | ((try simp only [zt0, zt1, zt2, zt3, zt4, zt5, zt6, zt7, zt8, zt9, zt10, zt11, zt12, zt13]); omega)) (Nat.lt_succ_self _)
  · refine zok_ck ((q0).1) ?_
    refine zok_pI (s135 (q0) (by omega) (by omega) (by first | (omega) | ((try simp only [zt0, zt1, zt2, zt3, zt4, zt5, zt6, zt7, zt8, zt9, zt10, zt11, zt12, zt13]); omega)) (by first | (omega) | ((try simp only [zt0, zt1, zt2, zt3, zt4, zt5, zt6, zt7, zt8, zt9, zt10, zt11, zt12, zt13]); omega)) (G)) (fun y17 u17 p17 => ?_)
    try simp only [zt0, zt1, zt2, zt3, zt4, zt5, zt6, zt7, zt8, zt9, zt10, zt11, zt12, zt13] at p17
    simp only [zput_s, zput_n, ti_g, oI_add, oI_sub, oI_mul, zt0, zt1, zt2, zt3, zt4, zt5, zt6, zt7, zt8, zt9, zt10, zt11, zt12, zt13, b173_21]
    try simp only [zput_s, zput_n, ti_g, oI_add, oI_sub, oI_mul]
    refine zok_ck ((q0).1) ?_
    refine zok_pI (s135 (q0) (by omega) (by omega) (by first | (omega) | ((try simp only [zt0, zt1, zt2, zt3, zt4, zt5, zt6, zt7, zt8, zt9, zt10, zt11, zt12, zt13]); omega)) (by first | (omega) | ((try simp only [zt0, zt1, zt2, zt3, zt4, zt5, zt6, zt7, zt8, zt9, zt10, zt11, zt12, zt13]); omega)) (G)) (fun y19 u19 p19 => ?_)
    try simp only [zt0, zt1, zt2, zt3, zt4, zt5, zt6, zt7, zt8, zt9, zt10, zt11, zt12, zt13] at p19
    simp only [zput_s, zput_n, ti_g, oI_add, oI_sub, oI_mul, zt0, zt1, zt2, zt3, zt4, zt5, zt6, zt7, zt8, zt9, zt10, zt11, zt12, zt13, b173_27]
    try simp only [zput_s, zput_n, ti_g, oI_add, oI_sub, oI_mul]
    first | refine zok_ne (by omega) (fun c21 => ?_) (fun c21 => ?_) | refine zok_if (fun c21 => ?_) (fun c21 => ?_)
    · try simp only [zput_s, zput_n, ti_g, oI_add, oI_sub, oI_mul]
      exact l173_40 q0 (by omega) (by omega) (by omega) d1 d2 d3 G _ _ _ (by first | omega | ((try simp only [zt0, zt1, zt2, zt3, zt4, zt5, zt6, zt7, zt8, zt9, zt10, zt11, zt12, zt13]); omega)) (Nat.lt_succ_self _)
    · try simp only [zput_s, zput_n, ti_g, oI_add, oI_sub, oI_mul]
      exact l173_40 q0 (by omega) (by omega) (by omega) d1 d2 d3 G _ _ _ (by first | omega | ((try simp only [zt0, zt1, zt2, zt3, zt4, zt5, zt6, zt7, zt8, zt9, zt10, zt11, zt12, zt13]); omega)) (Nat.lt_succ_self _)
/-! X9_nextIn -/
theorem l198_3 {sh : zSh} {t : zSt} {MB : Nat} {r0 : Nat} (q0 : zMd sh MB r0) {x1 : Int} (u1 : -2147483648 ≤ x1 ∧ x1 ≤ 2147483647) {x2 : Int} (u2 : -2147483648 ≤ x2 ∧ x2 ≤ 2147483647) {x3 : Int} (u3 : -2147483648 ≤ x3 ∧ x3 ≤ 2147483647) {x4 : Int} (u4 : -2147483648 ≤ x4 ∧ x4 ≤ 2147483647) (d1 : 0 ≤ x1 ∧ x1 ≤ 13) (d2 : 0 ≤ x2 ∧ x2 ≤ 6) (d3 : 0 ≤ x3 ∧ x3 ≤ 1000000) (G : GI sh r0 t) : ∀ (n : Nat) (x5 : Int) , (-2147483648 ≤ x5 ∧ x5 ≤ 2147483647) ∧ (x3 ≤ x5 ∧ (x5 ≤ (tg t (sr sh r0 4) (7 * x1 + x2).toNat - tg t (sr sh r0 3) (7 * x1 + x2).toNat) ∨ x5 = x3)) → ((tg t (sr sh r0 4) (7 * x1 + x2).toNat - tg t (sr sh r0 3) (7 * x1 + x2).toNat) - x5).toNat < n → zok (zev zP 198 3 [some (zR r0), some (zI (oI x1)), some (zI (oI x2)), some (zI (oI x3)), some (zI (oI x4)), some (zI (oI x5))] [] (sh, t)) (qI (fun x t' => t' = t ∧ (x3 ≤ x ∧ (x ≤ (tg t (sr sh r0 4) (7 * x1 + x2).toNat - tg t (sr sh r0 3) (7 * x1 + x2).toNat) ∨ x = x3))) sh) := by
  intro n
  induction n with
  | zero => intro x5  _ hm; omega
  | succ n ih =>
    intro x5  hv hm
    have ha0_1 : (sk sh (sr sh r0 1)).2 = 21000 := by rw [q0.2.2.2.2.1]
    have ha0_2 : (sk sh (sr sh r0 2)).2 = 14 := by rw [q0.2.2.2.2.2.1]
    have ha0_3 : (sk sh (sr sh r0 3)).2 = 98 := by rw [q0.2.2.2.2.2.2.1]
    have ha0_4 : (sk sh (sr sh r0 4)).2 = 98 := by rw [q0.2.2.2.2.2.2.2.1]
    have ha0_8 : (sk sh (sr sh r0 8)).2 = 1500 := by rw [q0.2.2.2.2.2.2.2.2.1]
    have ha0_9 : (sk sh (sr sh r0 9)).2 = 10500 := by rw [q0.2.2.2.2.2.2.2.2.2.1]
    have ha0_10 : (sk sh (sr sh r0 10)).2 = 7 := by rw [q0.2.2.2.2.2.2.2.2.2.2.1]
    have ha0_11 : (sk sh (sr sh r0 11)).2 = 7 := by rw [q0.2.2.2.2.2.2.2.2.2.2.2.1]
    have ha0_12 : (sk sh (sr sh r0 12)).2 = 1500 := by rw [q0.2.2.2.2.2.2.2.2.2.2.2.2.1]
    have ha0_13 : (sk sh (sr sh r0 13)).2 = 1500 := by rw [q0.2.2.2.2.2.2.2.2.2.2.2.2.2.1]
    have ha0_14 : (sk sh (sr sh r0 14)).2 = 20 := by rw [q0.2.2.2.2.2.2.2.2.2.2.2.2.2.2]
    rw [b198_3]
    try simp only [zput_s, zput_n, ti_g, oI_add, oI_sub, oI_mul]
    refine zok_ck ((q0).1) ?_
    refine zok_pI (s135 (q0) (by omega) (by omega) (by first | (omega) | ((try simp only [zt0, zt1, zt2, zt3, zt4, zt5, zt6, zt7, zt8, zt9, zt10, zt11, zt12, zt13]); omega)) (by first | (omega) | ((try simp only [zt0, zt1, zt2, zt3, zt4, zt5, zt6, zt7, zt8, zt9, zt10, zt11, zt12, zt13]); omega)) (G)) (fun y2 u2 p2 => ?_)
    try simp only [zt0, zt1, zt2, zt3, zt4, zt5, zt6, zt7, zt8, zt9, zt10, zt11, zt12, zt13] at p2
    simp only [zput_s, zput_n, ti_g, oI_add, oI_sub, oI_mul, zt0, zt1, zt2, zt3, zt4, zt5, zt6, zt7, zt8, zt9, zt10, zt11, zt12, zt13, b198_11]
    try simp only [zput_s, zput_n, ti_g, oI_add, oI_sub, oI_mul]
    first | refine zok_le (by omega) (fun c4 => ?_) (fun c4 => ?_) | refine zok_if (fun c4 => ?_) (fun c4 => ?_)
    · first | exact qI_rt (by omega) (by omega) ⟨rfl, by omega⟩ | exact qI_nf ⟨rfl, by omega⟩
    · refine zok_ck ((q0).1) ?_
      refine zok_pI (s136 (q0) (by omega) (by omega) (by omega) (by first | (omega) | ((try simp only [zt0, zt1, zt2, zt3, zt4, zt5, zt6, zt7, zt8, zt9, zt10, zt11, zt12, zt13]); omega)) (by first | (omega) | ((try simp only [zt0, zt1, zt2, zt3, zt4, zt5, zt6, zt7, zt8, zt9, zt10, zt11, zt12, zt13]); omega)) (by first | (omega) | ((try simp only [zt0, zt1, zt2, zt3, zt4, zt5, zt6, zt7, zt8, zt9, zt10, zt11, zt12, zt13]); omega)) (G)) (fun y5 u5 p5 => ?_)
      try simp only [zt0, zt1, zt2, zt3, zt4, zt5, zt6, zt7, zt8, zt9, zt10, zt11, zt12, zt13] at p5
      simp only [zput_s, zput_n, ti_g, oI_add, oI_sub, oI_mul, zt0, zt1, zt2, zt3, zt4, zt5, zt6, zt7, zt8, zt9, zt10, zt11, zt12, zt13, b198_22]
      try simp only [zput_s, zput_n, ti_g, oI_add, oI_sub, oI_mul]
      first | refine zok_eq (by omega) (fun c7 => ?_) (fun c7 => ?_) | refine zok_if (fun c7 => ?_) (fun c7 => ?_)
      · first | exact qI_rt (by omega) (by omega) ⟨rfl, by omega⟩ | exact qI_nf ⟨rfl, by omega⟩
      · try simp only [zput_s, zput_n, ti_g, oI_add, oI_sub, oI_mul]
        exact ih _ (by first | omega | ((try simp only [zt0, zt1, zt2, zt3, zt4, zt5, zt6, zt7, zt8, zt9, zt10, zt11, zt12, zt13]); omega)) (by first | omega | ((try simp only [zt0, zt1, zt2, zt3, zt4, zt5, zt6, zt7, zt8, zt9, zt10, zt11, zt12, zt13]); omega))
theorem s198 {sh : zSh} {t : zSt} {MB : Nat} {r0 : Nat} (q0 : zMd sh MB r0) {x1 : Int} (u1 : -2147483648 ≤ x1 ∧ x1 ≤ 2147483647) {x2 : Int} (u2 : -2147483648 ≤ x2 ∧ x2 ≤ 2147483647) {x3 : Int} (u3 : -2147483648 ≤ x3 ∧ x3 ≤ 2147483647) {x4 : Int} (u4 : -2147483648 ≤ x4 ∧ x4 ≤ 2147483647) (d1 : 0 ≤ x1 ∧ x1 ≤ 13) (d2 : 0 ≤ x2 ∧ x2 ≤ 6) (d3 : 0 ≤ x3 ∧ x3 ≤ 1000000) (G : GI sh r0 t) : zok (zcl zP 198 [zR r0, zI (oI x1), zI (oI x2), zI (oI x3), zI (oI x4)] (sh, t)) (qI (fun x t' => t' = t ∧ (x3 ≤ x ∧ (x ≤ (tg t (sr sh r0 4) (7 * x1 + x2).toNat - tg t (sr sh r0 3) (7 * x1 + x2).toNat) ∨ x = x3))) sh) := by
  have ha0_1 : (sk sh (sr sh r0 1)).2 = 21000 := by rw [q0.2.2.2.2.1]
  have ha0_2 : (sk sh (sr sh r0 2)).2 = 14 := by rw [q0.2.2.2.2.2.1]
  have ha0_3 : (sk sh (sr sh r0 3)).2 = 98 := by rw [q0.2.2.2.2.2.2.1]
  have ha0_4 : (sk sh (sr sh r0 4)).2 = 98 := by rw [q0.2.2.2.2.2.2.2.1]
  have ha0_8 : (sk sh (sr sh r0 8)).2 = 1500 := by rw [q0.2.2.2.2.2.2.2.2.1]
  have ha0_9 : (sk sh (sr sh r0 9)).2 = 10500 := by rw [q0.2.2.2.2.2.2.2.2.2.1]
  have ha0_10 : (sk sh (sr sh r0 10)).2 = 7 := by rw [q0.2.2.2.2.2.2.2.2.2.2.1]
  have ha0_11 : (sk sh (sr sh r0 11)).2 = 7 := by rw [q0.2.2.2.2.2.2.2.2.2.2.2.1]
  have ha0_12 : (sk sh (sr sh r0 12)).2 = 1500 := by rw [q0.2.2.2.2.2.2.2.2.2.2.2.2.1]
  have ha0_13 : (sk sh (sr sh r0 13)).2 = 1500 := by rw [q0.2.2.2.2.2.2.2.2.2.2.2.2.2.1]
  have ha0_14 : (sk sh (sr sh r0 14)).2 = 20 := by rw [q0.2.2.2.2.2.2.2.2.2.2.2.2.2.2]
  rw [b198_0]
  try simp only [zput_s, zput_n, ti_g, oI_add, oI_sub, oI_mul]
  try simp only [zput_s, zput_n, ti_g, oI_add, oI_sub, oI_mul]
  exact l198_3 q0 (by omega) (by omega) (by omega) (by omega) d1 d2 d3 G _ _ (by first | omega | ((try simp only [zt0, zt1, zt2, zt3, zt4, zt5, zt6, zt7, zt8, zt9, zt10, zt11, zt12, zt13]); omega)) (Nat.lt_succ_self _)
/-! X9_numberOf -/
theorem l150_5 {sh : zSh} {t : zSt} {MB : Nat} {r0 : Nat} (q0 : zMd sh MB r0) {x1 : Int} (u1 : -2147483648 ≤ x1 ∧ x1 ≤ 2147483647) {x2 : Int} (u2 : -2147483648 ≤ x2 ∧ x2 ≤ 2147483647) (d1 : 0 ≤ x1 ∧ x1 ≤ 13) (d2 : 0 ≤ x2 ∧ x2 ≤ 6) (G : GI sh r0 t) : ∀ (n : Nat) (v3 : Int32) (x4 : Int) , (-2147483648 ≤ x4 ∧ x4 ≤ 2147483647) ∧ (0 ≤ x4) → (6 - x4).toNat < n → zok (zev zP 150 5 [some (zR r0), some (zI (oI x1)), some (zI (oI x2)), some (zI v3), some (zI (oI x4))] [] (sh, t)) (qI (fun x t' => t' = t ∧ (True)) sh) := by
  intro n
  induction n with
  | zero => intro v3 x4  _ hm; omega
  | succ n ih =>
    intro v3 x4  hv hm
    obtain ⟨x3, a3, b3, rfl⟩ := oI_nf v3
    have ha0_1 : (sk sh (sr sh r0 1)).2 = 21000 := by rw [q0.2.2.2.2.1]
    have ha0_2 : (sk sh (sr sh r0 2)).2 = 14 := by rw [q0.2.2.2.2.2.1]
    have ha0_3 : (sk sh (sr sh r0 3)).2 = 98 := by rw [q0.2.2.2.2.2.2.1]
    have ha0_4 : (sk sh (sr sh r0 4)).2 = 98 := by rw [q0.2.2.2.2.2.2.2.1]
    have ha0_8 : (sk sh (sr sh r0 8)).2 = 1500 := by rw [q0.2.2.2.2.2.2.2.2.1]
    have ha0_9 : (sk sh (sr sh r0 9)).2 = 10500 := by rw [q0.2.2.2.2.2.2.2.2.2.1]
    have ha0_10 : (sk sh (sr sh r0 10)).2 = 7 := by rw [q0.2.2.2.2.2.2.2.2.2.2.1]
    have ha0_11 : (sk sh (sr sh r0 11)).2 = 7 := by rw [q0.2.2.2.2.2.2.2.2.2.2.2.1]
    have ha0_12 : (sk sh (sr sh r0 12)).2 = 1500 := by rw [q0.2.2.2.2.2.2.2.2.2.2.2.2.1]
    have ha0_13 : (sk sh (sr sh r0 13)).2 = 1500 := by rw [q0.2.2.2.2.2.2.2.2.2.2.2.2.2.1]
    have ha0_14 : (sk sh (sr sh r0 14)).2 = 20 := by rw [q0.2.2.2.2.2.2.2.2.2.2.2.2.2.2]
    rw [b150_5]
    try simp only [zput_s, zput_n, ti_g, oI_add, oI_sub, oI_mul]
    refine zok_ck ((q0).1) ?_
    refine zok_pI (s135 (q0) (by omega) (by omega) (by first | (omega) | ((try simp only [zt0, zt1, zt2, zt3, zt4, zt5, zt6, zt7, zt8, zt9, zt10, zt11, zt12, zt13]); omega)) (by first | (omega) | ((try simp only [zt0, zt1, zt2, zt3, zt4, zt5, zt6, zt7, zt8, zt9, zt10, zt11, zt12, zt13]); omega)) (G)) (fun y2 u2 p2 => ?_)
    try simp only [zt0, zt1, zt2, zt3, zt4, zt5, zt6, zt7, zt8, zt9, zt10, zt11, zt12, zt13] at p2
    simp only [zput_s, zput_n, ti_g, oI_add, oI_sub, oI_mul, zt0, zt1, zt2, zt3, zt4, zt5, zt6, zt7, zt8, zt9, zt10, zt11, zt12, zt13, b150_13]
    try simp only [zput_s, zput_n, ti_g, oI_add, oI_sub, oI_mul]
    first | refine zok_le (by omega) (fun c4 => ?_) (fun c4 => ?_) | refine zok_if (fun c4 => ?_) (fun c4 => ?_)
    · first | exact qI_rt (by omega) (by omega) ⟨rfl, trivial⟩ | exact qI_nf ⟨rfl, trivial⟩
    · first | refine zok_le (by omega) (fun c5 => ?_) (fun c5 => ?_) | refine zok_if (fun c5 => ?_) (fun c5 => ?_)
      · first | exact qI_rt (by omega) (by omega) ⟨rfl, trivial⟩ | exact qI_nf ⟨rfl, trivial⟩
      · refine zok_ck ((q0).1) ?_
        refine zok_pI (s136 (q0) (by omega) (by omega) (by omega) (by first | (omega) | ((try simp only [zt0, zt1, zt2, zt3, zt4, zt5, zt6, zt7, zt8, zt9, zt10, zt11, zt12, zt13]); omega)) (by first | (omega) | ((try simp only [zt0, zt1, zt2, zt3, zt4, zt5, zt6, zt7, zt8, zt9, zt10, zt11, zt12, zt13]); omega)) (by first | (omega) | ((try simp only [zt0, zt1, zt2, zt3, zt4, zt5, zt6, zt7, zt8, zt9, zt10, zt11, zt12, zt13]); omega)) (G)) (fun y6 u6 p6 => ?_)
        try simp only [zt0, zt1, zt2, zt3, zt4, zt5, zt6, zt7, zt8, zt9, zt10, zt11, zt12, zt13] at p6
        simp only [zput_s, zput_n, ti_g, oI_add, oI_sub, oI_mul, zt0, zt1, zt2, zt3, zt4, zt5, zt6, zt7, zt8, zt9, zt10, zt11, zt12, zt13, b150_35]
        try simp only [zput_s, zput_n, ti_g, oI_add, oI_sub, oI_mul]
        try simp only [zput_s, zput_n, ti_g, oI_add, oI_sub, oI_mul]
        exact ih _ _ (by first | omega | ((try simp only [zt0, zt1, zt2, zt3, zt4, zt5, zt6, zt7, zt8, zt9, zt10, zt11, zt12, zt13]); omega)) (by first | omega | ((try simp only [zt0, zt1, zt2, zt3, zt4, zt5, zt6, zt7, zt8, zt9, zt10, zt11, zt12, zt13]); omega))
theorem s150 {sh : zSh} {t : zSt} {MB : Nat} {r0 : Nat} (q0 : zMd sh MB r0) {x1 : Int} (u1 : -2147483648 ≤ x1 ∧ x1 ≤ 2147483647) {x2 : Int} (u2 : -2147483648 ≤ x2 ∧ x2 ≤ 2147483647) (d1 : 0 ≤ x1 ∧ x1 ≤ 13) (d2 : 0 ≤ x2 ∧ x2 ≤ 6) (G : GI sh r0 t) : zok (zcl zP 150 [zR r0, zI (oI x1), zI (oI x2)] (sh, t)) (qI (fun x t' => t' = t ∧ (True)) sh) := by
  have ha0_1 : (sk sh (sr sh r0 1)).2 = 21000 := by rw [q0.2.2.2.2.1]
  have ha0_2 : (sk sh (sr sh r0 2)).2 = 14 := by rw [q0.2.2.2.2.2.1]
  have ha0_3 : (sk sh (sr sh r0 3)).2 = 98 := by rw [q0.2.2.2.2.2.2.1]
  have ha0_4 : (sk sh (sr sh r0 4)).2 = 98 := by rw [q0.2.2.2.2.2.2.2.1]
  have ha0_8 : (sk sh (sr sh r0 8)).2 = 1500 := by rw [q0.2.2.2.2.2.2.2.2.1]
  have ha0_9 : (sk sh (sr sh r0 9)).2 = 10500 := by rw [q0.2.2.2.2.2.2.2.2.2.1]
  have ha0_10 : (sk sh (sr sh r0 10)).2 = 7 := by rw [q0.2.2.2.2.2.2.2.2.2.2.1]
  have ha0_11 : (sk sh (sr sh r0 11)).2 = 7 := by rw [q0.2.2.2.2.2.2.2.2.2.2.2.1]
  have ha0_12 : (sk sh (sr sh r0 12)).2 = 1500 := by rw [q0.2.2.2.2.2.2.2.2.2.2.2.2.1]
  have ha0_13 : (sk sh (sr sh r0 13)).2 = 1500 := by rw [q0.2.2.2.2.2.2.2.2.2.2.2.2.2.1]
  have ha0_14 : (sk sh (sr sh r0 14)).2 = 20 := by rw [q0.2.2.2.2.2.2.2.2.2.2.2.2.2.2]
  rw [b150_0]
  try simp only [zput_s, zput_n, ti_g, oI_add, oI_sub, oI_mul]
  try simp only [zput_s, zput_n, ti_g, oI_add, oI_sub, oI_mul]
  exact l150_5 q0 (by omega) (by omega) d1 d2 G _ _ _ (by first | omega | ((try simp only [zt0, zt1, zt2, zt3, zt4, zt5, zt6, zt7, zt8, zt9, zt10, zt11, zt12, zt13]); omega)) (Nat.lt_succ_self _)
/-! X9_rootOf -/
theorem s193 {sh : zSh} {t : zSt} {MB : Nat} {r0 : Nat} (q0 : zMd sh MB r0) {x1 : Int} (u1 : -2147483648 ≤ x1 ∧ x1 ≤ 2147483647) (d1 : 0 ≤ x1 ∧ x1 ≤ 13) (G : GI sh r0 t) : zok (zcl zP 193 [zR r0, zI (oI x1)] (sh, t)) (qI (fun x t' => t' = t ∧ (x = zrz sh r0 t x1 ∧ 0 ≤ x ∧ x ≤ 1)) sh) := by
  have ha0_1 : (sk sh (sr sh r0 1)).2 = 21000 := by rw [q0.2.2.2.2.1]
  have ha0_2 : (sk sh (sr sh r0 2)).2 = 14 := by rw [q0.2.2.2.2.2.1]
  have ha0_3 : (sk sh (sr sh r0 3)).2 = 98 := by rw [q0.2.2.2.2.2.2.1]
  have ha0_4 : (sk sh (sr sh r0 4)).2 = 98 := by rw [q0.2.2.2.2.2.2.2.1]
  have ha0_8 : (sk sh (sr sh r0 8)).2 = 1500 := by rw [q0.2.2.2.2.2.2.2.2.1]
  have ha0_9 : (sk sh (sr sh r0 9)).2 = 10500 := by rw [q0.2.2.2.2.2.2.2.2.2.1]
  have ha0_10 : (sk sh (sr sh r0 10)).2 = 7 := by rw [q0.2.2.2.2.2.2.2.2.2.2.1]
  have ha0_11 : (sk sh (sr sh r0 11)).2 = 7 := by rw [q0.2.2.2.2.2.2.2.2.2.2.2.1]
  have ha0_12 : (sk sh (sr sh r0 12)).2 = 1500 := by rw [q0.2.2.2.2.2.2.2.2.2.2.2.2.1]
  have ha0_13 : (sk sh (sr sh r0 13)).2 = 1500 := by rw [q0.2.2.2.2.2.2.2.2.2.2.2.2.2.1]
  have ha0_14 : (sk sh (sr sh r0 14)).2 = 20 := by rw [q0.2.2.2.2.2.2.2.2.2.2.2.2.2.2]
  rw [b193_0]
  try simp only [zput_s, zput_n, ti_g, oI_add, oI_sub, oI_mul]
  refine zok_ck ((q0).1) ?_
  refine zok_pI (s136 (q0) (by omega) (by omega) (by omega) (by first | (omega) | ((try simp only [zt0, zt1, zt2, zt3, zt4, zt5, zt6, zt7, zt8, zt9, zt10, zt11, zt12, zt13]); omega)) (by first | (omega) | ((try simp only [zt0, zt1, zt2, zt3, zt4, zt5, zt6, zt7, zt8, zt9, zt10, zt11, zt12, zt13]); omega)) (by first | (omega) | ((try simp only [zt0, zt1, zt2, zt3, zt4, zt5, zt6, zt7, zt8, zt9, zt10, zt11, zt12, zt13]); omega)) (G)) (fun y2 u2 p2 => ?_)
  try simp only [zt0, zt1, zt2, zt3, zt4, zt5, zt6, zt7, zt8, zt9, zt10, zt11, zt12, zt13] at p2
  simp only [zput_s, zput_n, ti_g, oI_add, oI_sub, oI_mul, zt0, zt1, zt2, zt3, zt4, zt5, zt6, zt7, zt8, zt9, zt10, zt11, zt12, zt13, b193_7]
  try simp only [zput_s, zput_n, ti_g, oI_add, oI_sub, oI_mul]
  first | refine zok_ne (by omega) (fun c4 => ?_) (fun c4 => ?_) | refine zok_if (fun c4 => ?_) (fun c4 => ?_)
  · first | exact qI_rt (by omega) (by omega) ⟨rfl, by unfold zrz; omega⟩ | exact qI_nf ⟨rfl, by unfold zrz; omega⟩
  · first | exact qI_rt (by omega) (by omega) ⟨rfl, by unfold zrz; omega⟩ | exact qI_nf ⟨rfl, by unfold zrz; omega⟩
/-! X9_laidAt -/
theorem s160 {sh : zSh} {t : zSt} {MB : Nat} {r0 : Nat} (q0 : zMd sh MB r0) {x1 : Int} (u1 : -2147483648 ≤ x1 ∧ x1 ≤ 2147483647) {x2 : Int} (u2 : -2147483648 ≤ x2 ∧ x2 ≤ 2147483647) (d1 : 0 ≤ x1 ∧ x1 ≤ 6) (G : GI sh r0 t) : zok (zcl zP 160 [zR r0, zI (oI x1), zI (oI x2)] (sh, t)) (qI (fun x t' => t' = t ∧ (True)) sh) := by
  have ha0_1 : (sk sh (sr sh r0 1)).2 = 21000 := by rw [q0.2.2.2.2.1]
  have ha0_2 : (sk sh (sr sh r0 2)).2 = 14 := by rw [q0.2.2.2.2.2.1]
  have ha0_3 : (sk sh (sr sh r0 3)).2 = 98 := by rw [q0.2.2.2.2.2.2.1]
  have ha0_4 : (sk sh (sr sh r0 4)).2 = 98 := by rw [q0.2.2.2.2.2.2.2.1]
  have ha0_8 : (sk sh (sr sh r0 8)).2 = 1500 := by rw [q0.2.2.2.2.2.2.2.2.1]
  have ha0_9 : (sk sh (sr sh r0 9)).2 = 10500 := by rw [q0.2.2.2.2.2.2.2.2.2.1]
  have ha0_10 : (sk sh (sr sh r0 10)).2 = 7 := by rw [q0.2.2.2.2.2.2.2.2.2.2.1]
  have ha0_11 : (sk sh (sr sh r0 11)).2 = 7 := by rw [q0.2.2.2.2.2.2.2.2.2.2.2.1]
  have ha0_12 : (sk sh (sr sh r0 12)).2 = 1500 := by rw [q0.2.2.2.2.2.2.2.2.2.2.2.2.1]
  have ha0_13 : (sk sh (sr sh r0 13)).2 = 1500 := by rw [q0.2.2.2.2.2.2.2.2.2.2.2.2.2.1]
  have ha0_14 : (sk sh (sr sh r0 14)).2 = 20 := by rw [q0.2.2.2.2.2.2.2.2.2.2.2.2.2.2]
  rw [b160_0]
  try simp only [zput_s, zput_n, ti_g, oI_add, oI_sub, oI_mul]
  first | refine zok_lt (by omega) (fun c2 => ?_) (fun c2 => ?_) | refine zok_if (fun c2 => ?_) (fun c2 => ?_)
  · first | exact qI_rt (by omega) (by omega) ⟨rfl, trivial⟩ | exact qI_nf ⟨rfl, trivial⟩
  · refine zok_ck ((q0).1) ?_
    refine zok_ck ⟨(by rw [(q0).2.2.2.2.2.2.2.2.2.2.1]), zin_o (by omega) (by omega) (by omega)⟩ ?_
    try rw [nN_o (a := x1) (by omega) (by omega)]
    try simp only [zput_s, zput_n, ti_g, oI_add, oI_sub, oI_mul, zt0, zt1, zt2, zt3, zt4, zt5, zt6, zt7, zt8, zt9, zt10, zt11, zt12, zt13]
    have gl3 := And.intro (tg_lo t (sr sh r0 10) ((x1).toNat)) (tg_hi t (sr sh r0 10) ((x1).toNat))
    have gm3 := (G).2.2.1 ((x1).toNat) (by omega)
    try simp only [zt0, zt1, zt2, zt3, zt4, zt5, zt6, zt7, zt8, zt9, zt10, zt11, zt12, zt13] at gl3
    try simp only [zt0, zt1, zt2, zt3, zt4, zt5, zt6, zt7, zt8, zt9, zt10, zt11, zt12, zt13] at gm3
    first | refine zok_le (by omega) (fun c4 => ?_) (fun c4 => ?_) | refine zok_if (fun c4 => ?_) (fun c4 => ?_)
    · first | exact qI_rt (by omega) (by omega) ⟨rfl, trivial⟩ | exact qI_nf ⟨rfl, trivial⟩
    · refine zok_ck ((q0).1) ?_
      refine zok_ck ⟨(by rw [(q0).2.2.2.2.2.2.2.2.2.1]), zin_o (by omega) (by omega) (by omega)⟩ ?_
      try rw [nN_o (a := ((1500) * (x1)) + (x2)) (by omega) (by omega)]
      try simp only [zput_s, zput_n, ti_g, oI_add, oI_sub, oI_mul, zt0, zt1, zt2, zt3, zt4, zt5, zt6, zt7, zt8, zt9, zt10, zt11, zt12, zt13]
      have gl5 := And.intro (tg_lo t (sr sh r0 9) ((((1500) * (x1)) + (x2)).toNat)) (tg_hi t (sr sh r0 9) ((((1500) * (x1)) + (x2)).toNat))
      try simp only [zt0, zt1, zt2, zt3, zt4, zt5, zt6, zt7, zt8, zt9, zt10, zt11, zt12, zt13] at gl5
      first | exact qI_rt (by omega) (by omega) ⟨rfl, trivial⟩ | exact qI_nf ⟨rfl, trivial⟩
/-! X9_laidFind -/
theorem l161_2 {sh : zSh} {t : zSt} {MB : Nat} {r0 : Nat} (q0 : zMd sh MB r0) {x1 : Int} (u1 : -2147483648 ≤ x1 ∧ x1 ≤ 2147483647) {x2 : Int} (u2 : -2147483648 ≤ x2 ∧ x2 ≤ 2147483647) (d2 : 0 ≤ x2 ∧ x2 ≤ 1000000) (G : GI sh r0 t) : ∀ (n : Nat) (x3 : Int) , (-2147483648 ≤ x3 ∧ x3 ≤ 2147483647) ∧ (x2 ≤ x3 ∧ (x3 ≤ tg t (sr sh r0 10) 4 ∨ x3 = x2)) → (tg t (sr sh r0 10) 4 - x3).toNat < n → zok (zev zP 161 2 [some (zR r0), some (zI (oI x1)), some (zI (oI x2)), some (zI (oI x3))] [] (sh, t)) (qI (fun x t' => t' = t ∧ (x2 ≤ x ∧ (x ≤ tg t (sr sh r0 10) 4 ∨ x = x2))) sh) := by
  intro n
  induction n with
  | zero => intro x3  _ hm; omega
  | succ n ih =>
    intro x3  hv hm
    have ha0_1 : (sk sh (sr sh r0 1)).2 = 21000 := by rw [q0.2.2.2.2.1]
    have ha0_2 : (sk sh (sr sh r0 2)).2 = 14 := by rw [q0.2.2.2.2.2.1]
    have ha0_3 : (sk sh (sr sh r0 3)).2 = 98 := by rw [q0.2.2.2.2.2.2.1]
    have ha0_4 : (sk sh (sr sh r0 4)).2 = 98 := by rw [q0.2.2.2.2.2.2.2.1]
    have ha0_8 : (sk sh (sr sh r0 8)).2 = 1500 := by rw [q0.2.2.2.2.2.2.2.2.1]
    have ha0_9 : (sk sh (sr sh r0 9)).2 = 10500 := by rw [q0.2.2.2.2.2.2.2.2.2.1]
    have ha0_10 : (sk sh (sr sh r0 10)).2 = 7 := by rw [q0.2.2.2.2.2.2.2.2.2.2.1]
    have ha0_11 : (sk sh (sr sh r0 11)).2 = 7 := by rw [q0.2.2.2.2.2.2.2.2.2.2.2.1]
    have ha0_12 : (sk sh (sr sh r0 12)).2 = 1500 := by rw [q0.2.2.2.2.2.2.2.2.2.2.2.2.1]
    have ha0_13 : (sk sh (sr sh r0 13)).2 = 1500 := by rw [q0.2.2.2.2.2.2.2.2.2.2.2.2.2.1]
    have ha0_14 : (sk sh (sr sh r0 14)).2 = 20 := by rw [q0.2.2.2.2.2.2.2.2.2.2.2.2.2.2]
    rw [b161_2]
    try simp only [zput_s, zput_n, ti_g, oI_add, oI_sub, oI_mul]
    refine zok_ck ((q0).1) ?_
    refine zok_ck ⟨(by rw [(q0).2.2.2.2.2.2.2.2.2.2.1]), zin_o (by omega) (by omega) (by omega)⟩ ?_
    try rw [nN_o (a := 4) (by omega) (by omega)]
    try rw [show (4 : Int).toNat = 4 from rfl]
    try simp only [zput_s, zput_n, ti_g, oI_add, oI_sub, oI_mul, zt0, zt1, zt2, zt3, zt4, zt5, zt6, zt7, zt8, zt9, zt10, zt11, zt12, zt13]
    have gl2 := And.intro (tg_lo t (sr sh r0 10) (4)) (tg_hi t (sr sh r0 10) (4))
    have gm2 := (G).2.2.1 (4) (by omega)
    try simp only [zt0, zt1, zt2, zt3, zt4, zt5, zt6, zt7, zt8, zt9, zt10, zt11, zt12, zt13] at gl2
    try simp only [zt0, zt1, zt2, zt3, zt4, zt5, zt6, zt7, zt8, zt9, zt10, zt11, zt12, zt13] at gm2
    first | refine zok_le (by omega) (fun c3 => ?_) (fun c3 => ?_) | refine zok_if (fun c3 => ?_) (fun c3 => ?_)
    · first | exact qI_rt (by omega) (by omega) ⟨rfl, by omega⟩ | exact qI_nf ⟨rfl, by omega⟩
    · refine zok_ck ((q0).1) ?_
      refine zok_ck ⟨(by rw [(q0).2.2.2.2.2.2.2.2.2.1]), zin_o (by omega) (by omega) (by omega)⟩ ?_
      try rw [nN_o (a := (6000) + (x3)) (by omega) (by omega)]
      try simp only [zput_s, zput_n, ti_g, oI_add, oI_sub, oI_mul, zt0, zt1, zt2, zt3, zt4, zt5, zt6, zt7, zt8, zt9, zt10, zt11, zt12, zt13]
      have gl4 := And.intro (tg_lo t (sr sh r0 9) (((6000) + (x3)).toNat)) (tg_hi t (sr sh r0 9) (((6000) + (x3)).toNat))
      try simp only [zt0, zt1, zt2, zt3, zt4, zt5, zt6, zt7, zt8, zt9, zt10, zt11, zt12, zt13] at gl4
      first | refine zok_eq (by omega) (fun c5 => ?_) (fun c5 => ?_) | refine zok_if (fun c5 => ?_) (fun c5 => ?_)
      · first | exact qI_rt (by omega) (by omega) ⟨rfl, by omega⟩ | exact qI_nf ⟨rfl, by omega⟩
      · try simp only [zput_s, zput_n, ti_g, oI_add, oI_sub, oI_mul]
        exact ih _ (by first | omega | ((try simp only [zt0, zt1, zt2, zt3, zt4, zt5, zt6, zt7, zt8, zt9, zt10, zt11, zt12, zt13]); omega)) (by first | omega | ((try simp only [zt0, zt1, zt2, zt3, zt4, zt5, zt6, zt7, zt8, zt9, zt10, zt11, zt12, zt13]); omega))
theorem s161 {sh : zSh} {t : zSt} {MB : Nat} {r0 : Nat} (q0 : zMd sh MB r0) {x1 : Int} (u1 : -2147483648 ≤ x1 ∧ x1 ≤ 2147483647) {x2 : Int} (u2 : -2147483648 ≤ x2 ∧ x2 ≤ 2147483647) (d2 : 0 ≤ x2 ∧ x2 ≤ 1000000) (G : GI sh r0 t) : zok (zcl zP 161 [zR r0, zI (oI x1), zI (oI x2)] (sh, t)) (qI (fun x t' => t' = t ∧ (x2 ≤ x ∧ (x ≤ tg t (sr sh r0 10) 4 ∨ x = x2))) sh) := by
  have ha0_1 : (sk sh (sr sh r0 1)).2 = 21000 := by rw [q0.2.2.2.2.1]
  have ha0_2 : (sk sh (sr sh r0 2)).2 = 14 := by rw [q0.2.2.2.2.2.1]
  have ha0_3 : (sk sh (sr sh r0 3)).2 = 98 := by rw [q0.2.2.2.2.2.2.1]
  have ha0_4 : (sk sh (sr sh r0 4)).2 = 98 := by rw [q0.2.2.2.2.2.2.2.1]
  have ha0_8 : (sk sh (sr sh r0 8)).2 = 1500 := by rw [q0.2.2.2.2.2.2.2.2.1]
  have ha0_9 : (sk sh (sr sh r0 9)).2 = 10500 := by rw [q0.2.2.2.2.2.2.2.2.2.1]
  have ha0_10 : (sk sh (sr sh r0 10)).2 = 7 := by rw [q0.2.2.2.2.2.2.2.2.2.2.1]
  have ha0_11 : (sk sh (sr sh r0 11)).2 = 7 := by rw [q0.2.2.2.2.2.2.2.2.2.2.2.1]
  have ha0_12 : (sk sh (sr sh r0 12)).2 = 1500 := by rw [q0.2.2.2.2.2.2.2.2.2.2.2.2.1]
  have ha0_13 : (sk sh (sr sh r0 13)).2 = 1500 := by rw [q0.2.2.2.2.2.2.2.2.2.2.2.2.2.1]
  have ha0_14 : (sk sh (sr sh r0 14)).2 = 20 := by rw [q0.2.2.2.2.2.2.2.2.2.2.2.2.2.2]
  rw [b161_0]
  try simp only [zput_s, zput_n, ti_g, oI_add, oI_sub, oI_mul]
  try simp only [zput_s, zput_n, ti_g, oI_add, oI_sub, oI_mul]
  exact l161_2 q0 (by omega) (by omega) d2 G _ _ (by first | omega | ((try simp only [zt0, zt1, zt2, zt3, zt4, zt5, zt6, zt7, zt8, zt9, zt10, zt11, zt12, zt13]); omega)) (Nat.lt_succ_self _)
/-! X9_isLaidCode -/
theorem s178 {sh : zSh} {t : zSt} {MB : Nat} {r0 : Nat} (q0 : zMd sh MB r0) {x1 : Int} (u1 : -2147483648 ≤ x1 ∧ x1 ≤ 2147483647) {x2 : Int} (u2 : -2147483648 ≤ x2 ∧ x2 ≤ 2147483647) (d1 : 0 ≤ x1 ∧ x1 ≤ 6) (d2 : -1 ≤ x2 ∧ x2 ≤ 1000000) (G : GI sh r0 t) : zok (zcl zP 178 [zR r0, zI (oI x1), zI (oI x2)] (sh, t)) (qI (fun x t' => t' = t ∧ (x = 0 ∨ x = 1)) sh) := by
  have ha0_1 : (sk sh (sr sh r0 1)).2 = 21000 := by rw [q0.2.2.2.2.1]
  have ha0_2 : (sk sh (sr sh r0 2)).2 = 14 := by rw [q0.2.2.2.2.2.1]
  have ha0_3 : (sk sh (sr sh r0 3)).2 = 98 := by rw [q0.2.2.2.2.2.2.1]
  have ha0_4 : (sk sh (sr sh r0 4)).2 = 98 := by rw [q0.2.2.2.2.2.2.2.1]
  have ha0_8 : (sk sh (sr sh r0 8)).2 = 1500 := by rw [q0.2.2.2.2.2.2.2.2.1]
  have ha0_9 : (sk sh (sr sh r0 9)).2 = 10500 := by rw [q0.2.2.2.2.2.2.2.2.2.1]
  have ha0_10 : (sk sh (sr sh r0 10)).2 = 7 := by rw [q0.2.2.2.2.2.2.2.2.2.2.1]
  have ha0_11 : (sk sh (sr sh r0 11)).2 = 7 := by rw [q0.2.2.2.2.2.2.2.2.2.2.2.1]
  have ha0_12 : (sk sh (sr sh r0 12)).2 = 1500 := by rw [q0.2.2.2.2.2.2.2.2.2.2.2.2.1]
  have ha0_13 : (sk sh (sr sh r0 13)).2 = 1500 := by rw [q0.2.2.2.2.2.2.2.2.2.2.2.2.2.1]
  have ha0_14 : (sk sh (sr sh r0 14)).2 = 20 := by rw [q0.2.2.2.2.2.2.2.2.2.2.2.2.2.2]
  rw [b178_0]
  try simp only [zput_s, zput_n, ti_g, oI_add, oI_sub, oI_mul]
  refine zok_ck ((q0).1) ?_
  refine zok_pI (s160 (q0) (by omega) (by omega) (by first | (omega) | ((try simp only [zt0, zt1, zt2, zt3, zt4, zt5, zt6, zt7, zt8, zt9, zt10, zt11, zt12, zt13]); omega)) (G)) (fun y2 u2 p2 => ?_)
  try simp only [zt0, zt1, zt2, zt3, zt4, zt5, zt6, zt7, zt8, zt9, zt10, zt11, zt12, zt13] at p2
  simp only [zput_s, zput_n, ti_g, oI_add, oI_sub, oI_mul, zt0, zt1, zt2, zt3, zt4, zt5, zt6, zt7, zt8, zt9, zt10, zt11, zt12, zt13, b178_6]
  try simp only [zput_s, zput_n, ti_g, oI_add, oI_sub, oI_mul]
  first | refine zok_ne (by omega) (fun c4 => ?_) (fun c4 => ?_) | refine zok_if (fun c4 => ?_) (fun c4 => ?_)
  · first | exact qI_rt (by omega) (by omega) ⟨rfl, by omega⟩ | exact qI_nf ⟨rfl, by omega⟩
  · refine zok_ck ((q0).1) ?_
    refine zok_pI (s160 (q0) (by omega) (by omega) (by first | (omega) | ((try simp only [zt0, zt1, zt2, zt3, zt4, zt5, zt6, zt7, zt8, zt9, zt10, zt11, zt12, zt13]); omega)) (G)) (fun y5 u5 p5 => ?_)
    try simp only [zt0, zt1, zt2, zt3, zt4, zt5, zt6, zt7, zt8, zt9, zt10, zt11, zt12, zt13] at p5
    simp only [zput_s, zput_n, ti_g, oI_add, oI_sub, oI_mul, zt0, zt1, zt2, zt3, zt4, zt5, zt6, zt7, zt8, zt9, zt10, zt11, zt12, zt13, b178_19]
    try simp only [zput_s, zput_n, ti_g, oI_add, oI_sub, oI_mul]
    refine zok_pI (s125 (by omega)) (fun y7 u7 p7 => ?_)
    try simp only [zt0, zt1, zt2, zt3, zt4, zt5, zt6, zt7, zt8, zt9, zt10, zt11, zt12, zt13] at p7
    simp only [zput_s, zput_n, ti_g, oI_add, oI_sub, oI_mul, zt0, zt1, zt2, zt3, zt4, zt5, zt6, zt7, zt8, zt9, zt10, zt11, zt12, zt13, b178_22]
    try simp only [zput_s, zput_n, ti_g, oI_add, oI_sub, oI_mul]
    first | refine zok_lt (by omega) (fun c9 => ?_) (fun c9 => ?_) | refine zok_if (fun c9 => ?_) (fun c9 => ?_)
    · first | exact qI_rt (by omega) (by omega) ⟨rfl, by omega⟩ | exact qI_nf ⟨rfl, by omega⟩
    · refine zok_ck ((q0).1) ?_
      refine zok_pI (s160 (q0) (by omega) (by omega) (by first | (omega) | ((try simp only [zt0, zt1, zt2, zt3, zt4, zt5, zt6, zt7, zt8, zt9, zt10, zt11, zt12, zt13]); omega)) (G)) (fun y10 u10 p10 => ?_)
      try simp only [zt0, zt1, zt2, zt3, zt4, zt5, zt6, zt7, zt8, zt9, zt10, zt11, zt12, zt13] at p10
      simp only [zput_s, zput_n, ti_g, oI_add, oI_sub, oI_mul, zt0, zt1, zt2, zt3, zt4, zt5, zt6, zt7, zt8, zt9, zt10, zt11, zt12, zt13, b178_33]
      try simp only [zput_s, zput_n, ti_g, oI_add, oI_sub, oI_mul]
      refine zok_pI (s125 (by omega)) (fun y12 u12 p12 => ?_)
      try simp only [zt0, zt1, zt2, zt3, zt4, zt5, zt6, zt7, zt8, zt9, zt10, zt11, zt12, zt13] at p12
      simp only [zput_s, zput_n, ti_g, oI_add, oI_sub, oI_mul, zt0, zt1, zt2, zt3, zt4, zt5, zt6, zt7, zt8, zt9, zt10, zt11, zt12, zt13, b178_36]
      try simp only [zput_s, zput_n, ti_g, oI_add, oI_sub, oI_mul]
      first | refine zok_lt (by omega) (fun c14 => ?_) (fun c14 => ?_) | refine zok_if (fun c14 => ?_) (fun c14 => ?_)
      · first | exact qI_rt (by omega) (by omega) ⟨rfl, by omega⟩ | exact qI_nf ⟨rfl, by omega⟩
      · first | exact qI_rt (by omega) (by omega) ⟨rfl, by omega⟩ | exact qI_nf ⟨rfl, by omega⟩
/-! X9_isLaidScheme -/
theorem s180 {sh : zSh} {t : zSt} {MB : Nat} {r0 : Nat} (q0 : zMd sh MB r0) {x1 : Int} (u1 : -2147483648 ≤ x1 ∧ x1 ≤ 2147483647) {x2 : Int} (u2 : -2147483648 ≤ x2 ∧ x2 ≤ 2147483647) {x3 : Int} (u3 : -2147483648 ≤ x3 ∧ x3 ≤ 2147483647) {x4 : Int} (u4 : -2147483648 ≤ x4 ∧ x4 ≤ 2147483647) {x5 : Int} (u5 : -2147483648 ≤ x5 ∧ x5 ≤ 2147483647) (G : GI sh r0 t) : zok (zcl zP 180 [zR r0, zI (oI x1), zI (oI x2), zI (oI x3), zI (oI x4), zI (oI x5)] (sh, t)) (qI (fun x t' => t' = t ∧ (x = 0 ∨ x = 1)) sh) := by
  have ha0_1 : (sk sh (sr sh r0 1)).2 = 21000 := by rw [q0.2.2.2.2.1]
  have ha0_2 : (sk sh (sr sh r0 2)).2 = 14 := by rw [q0.2.2.2.2.2.1]
  have ha0_3 : (sk sh (sr sh r0 3)).2 = 98 := by rw [q0.2.2.2.2.2.2.1]
  have ha0_4 : (sk sh (sr sh r0 4)).2 = 98 := by rw [q0.2.2.2.2.2.2.2.1]
  have ha0_8 : (sk sh (sr sh r0 8)).2 = 1500 := by rw [q0.2.2.2.2.2.2.2.2.1]
  have ha0_9 : (sk sh (sr sh r0 9)).2 = 10500 := by rw [q0.2.2.2.2.2.2.2.2.2.1]
  have ha0_10 : (sk sh (sr sh r0 10)).2 = 7 := by rw [q0.2.2.2.2.2.2.2.2.2.2.1]
  have ha0_11 : (sk sh (sr sh r0 11)).2 = 7 := by rw [q0.2.2.2.2.2.2.2.2.2.2.2.1]
  have ha0_12 : (sk sh (sr sh r0 12)).2 = 1500 := by rw [q0.2.2.2.2.2.2.2.2.2.2.2.2.1]
  have ha0_13 : (sk sh (sr sh r0 13)).2 = 1500 := by rw [q0.2.2.2.2.2.2.2.2.2.2.2.2.2.1]
  have ha0_14 : (sk sh (sr sh r0 14)).2 = 20 := by rw [q0.2.2.2.2.2.2.2.2.2.2.2.2.2.2]
  rw [b180_0]
  try simp only [zput_s, zput_n, ti_g, oI_add, oI_sub, oI_mul]
  first | refine zok_le (by omega) (fun c2 => ?_) (fun c2 => ?_) | refine zok_if (fun c2 => ?_) (fun c2 => ?_)
  · first | refine zok_le (by omega) (fun c3 => ?_) (fun c3 => ?_) | refine zok_if (fun c3 => ?_) (fun c3 => ?_)
    · first | refine zok_le (by omega) (fun c4 => ?_) (fun c4 => ?_) | refine zok_if (fun c4 => ?_) (fun c4 => ?_)
      · simp only [zput_s, zput_n, ti_g, oI_add, oI_sub, oI_mul, zt0, zt1, zt2, zt3, zt4, zt5, zt6, zt7, zt8, zt9, zt10, zt11, zt12, zt13, b180_27]
        try simp only [zput_s, zput_n, ti_g, oI_add, oI_sub, oI_mul]
        refine zok_ck ((q0).1) ?_
        refine zok_ck ⟨Or.inr (by rw [(q0).2.2.2.2.2.2.2.2.2.2.2.1]), zin_o (by omega) (by omega) (by omega)⟩ ?_
        try rw [nN_o (a := 0) (by omega) (by omega)]
        try rw [show (0 : Int).toNat = 0 from rfl]
        try simp only [zput_s, zput_n, ti_g, oI_add, oI_sub, oI_mul, zt0, zt1, zt2, zt3, zt4, zt5, zt6, zt7, zt8, zt9, zt10, zt11, zt12, zt13]
        have gl6 := And.intro (tg_lo t (sr sh r0 11) (0)) (tg_hi t (sr sh r0 11) (0))
        have gm6 := (G).2.2.2.1 (0) (by omega)
        try simp only [zt0, zt1, zt2, zt3, zt4, zt5, zt6, zt7, zt8, zt9, zt10, zt11, zt12, zt13] at gl6
        try simp only [zt0, zt1, zt2, zt3, zt4, zt5, zt6, zt7, zt8, zt9, zt10, zt11, zt12, zt13] at gm6
        first | refine zok_eq (by omega) (fun c7 => ?_) (fun c7 => ?_) | refine zok_if (fun c7 => ?_) (fun c7 => ?_)
        · simp only [zput_s, zput_n, ti_g, oI_add, oI_sub, oI_mul, zt0, zt1, zt2, zt3, zt4, zt5, zt6, zt7, zt8, zt9, zt10, zt11, zt12, zt13, b180_73]
          try simp only [zput_s, zput_n, ti_g, oI_add, oI_sub, oI_mul]
          simp only [zput_s, zput_n, ti_g, oI_add, oI_sub, oI_mul, zt0, zt1, zt2, zt3, zt4, zt5, zt6, zt7, zt8, zt9, zt10, zt11, zt12, zt13, b180_74]
          try simp only [zput_s, zput_n, ti_g, oI_add, oI_sub, oI_mul]
          simp only [zput_s, zput_n, ti_g, oI_add, oI_sub, oI_mul, zt0, zt1, zt2, zt3, zt4, zt5, zt6, zt7, zt8, zt9, zt10, zt11, zt12, zt13, b180_115]
          try simp only [zput_s, zput_n, ti_g, oI_add, oI_sub, oI_mul]
          simp only [zput_s, zput_n, ti_g, oI_add, oI_sub, oI_mul, zt0, zt1, zt2, zt3, zt4, zt5, zt6, zt7, zt8, zt9, zt10, zt11, zt12, zt13, b180_116]
          try simp only [zput_s, zput_n, ti_g, oI_add, oI_sub, oI_mul]
          simp only [zput_s, zput_n, ti_g, oI_add, oI_sub, oI_mul, zt0, zt1, zt2, zt3, zt4, zt5, zt6, zt7, zt8, zt9, zt10, zt11, zt12, zt13, b180_143]
          try simp only [zput_s, zput_n, ti_g, oI_add, oI_sub, oI_mul]
          simp only [zput_s, zput_n, ti_g, oI_add, oI_sub, oI_mul, zt0, zt1, zt2, zt3, zt4, zt5, zt6, zt7, zt8, zt9, zt10, zt11, zt12, zt13, b180_144]
          try simp only [zput_s, zput_n, ti_g, oI_add, oI_sub, oI_mul]
          first | exact qI_rt (by omega) (by omega) ⟨rfl, by omega⟩ | exact qI_nf ⟨rfl, by omega⟩
        · refine zok_ck ((q0).1) ?_
          refine zok_ck ⟨(by rw [(q0).2.2.2.2.2.2.2.2.2.2.1]), zin_o (by omega) (by omega) (by omega)⟩ ?_
          try rw [nN_o (a := 0) (by omega) (by omega)]
          try rw [show (0 : Int).toNat = 0 from rfl]
          try simp only [zput_s, zput_n, ti_g, oI_add, oI_sub, oI_mul, zt0, zt1, zt2, zt3, zt4, zt5, zt6, zt7, zt8, zt9, zt10, zt11, zt12, zt13]
          have gl14 := And.intro (tg_lo t (sr sh r0 10) (0)) (tg_hi t (sr sh r0 10) (0))
          have gm14 := (G).2.2.1 (0) (by omega)
          try simp only [zt0, zt1, zt2, zt3, zt4, zt5, zt6, zt7, zt8, zt9, zt10, zt11, zt12, zt13] at gl14
          try simp only [zt0, zt1, zt2, zt3, zt4, zt5, zt6, zt7, zt8, zt9, zt10, zt11, zt12, zt13] at gm14
          first | refine zok_ne (by omega) (fun c15 => ?_) (fun c15 => ?_) | refine zok_if (fun c15 => ?_) (fun c15 => ?_)
          · simp only [zput_s, zput_n, ti_g, oI_add, oI_sub, oI_mul, zt0, zt1, zt2, zt3, zt4, zt5, zt6, zt7, zt8, zt9, zt10, zt11, zt12, zt13, b180_73]
            try simp only [zput_s, zput_n, ti_g, oI_add, oI_sub, oI_mul]
            simp only [zput_s, zput_n, ti_g, oI_add, oI_sub, oI_mul, zt0, zt1, zt2, zt3, zt4, zt5, zt6, zt7, zt8, zt9, zt10, zt11, zt12, zt13, b180_74]
            try simp only [zput_s, zput_n, ti_g, oI_add, oI_sub, oI_mul]
            simp only [zput_s, zput_n, ti_g, oI_add, oI_sub, oI_mul, zt0, zt1, zt2, zt3, zt4, zt5, zt6, zt7, zt8, zt9, zt10, zt11, zt12, zt13, b180_115]
            try simp only [zput_s, zput_n, ti_g, oI_add, oI_sub, oI_mul]
            simp only [zput_s, zput_n, ti_g, oI_add, oI_sub, oI_mul, zt0, zt1, zt2, zt3, zt4, zt5, zt6, zt7, zt8, zt9, zt10, zt11, zt12, zt13, b180_116]
            try simp only [zput_s, zput_n, ti_g, oI_add, oI_sub, oI_mul]
            simp only [zput_s, zput_n, ti_g, oI_add, oI_sub, oI_mul, zt0, zt1, zt2, zt3, zt4, zt5, zt6, zt7, zt8, zt9, zt10, zt11, zt12, zt13, b180_143]
            try simp only [zput_s, zput_n, ti_g, oI_add, oI_sub, oI_mul]
            simp only [zput_s, zput_n, ti_g, oI_add, oI_sub, oI_mul, zt0, zt1, zt2, zt3, zt4, zt5, zt6, zt7, zt8, zt9, zt10, zt11, zt12, zt13, b180_144]
            try simp only [zput_s, zput_n, ti_g, oI_add, oI_sub, oI_mul]
            first | exact qI_rt (by omega) (by omega) ⟨rfl, by omega⟩ | exact qI_nf ⟨rfl, by omega⟩
          · refine zok_ck ((q0).1) ?_
            refine zok_pI (s160 (q0) (by omega) (by omega) (by first | (omega) | ((try simp only [zt0, zt1, zt2, zt3, zt4, zt5, zt6, zt7, zt8, zt9, zt10, zt11, zt12, zt13]); omega)) (G)) (fun y22 u22 p22 => ?_)
            try simp only [zt0, zt1, zt2, zt3, zt4, zt5, zt6, zt7, zt8, zt9, zt10, zt11, zt12, zt13] at p22
            simp only [zput_s, zput_n, ti_g, oI_add, oI_sub, oI_mul, zt0, zt1, zt2, zt3, zt4, zt5, zt6, zt7, zt8, zt9, zt10, zt11, zt12, zt13, b180_55]
            try simp only [zput_s, zput_n, ti_g, oI_add, oI_sub, oI_mul]
            first | refine zok_ne (by omega) (fun c24 => ?_) (fun c24 => ?_) | refine zok_if (fun c24 => ?_) (fun c24 => ?_)
            · simp only [zput_s, zput_n, ti_g, oI_add, oI_sub, oI_mul, zt0, zt1, zt2, zt3, zt4, zt5, zt6, zt7, zt8, zt9, zt10, zt11, zt12, zt13, b180_73]
              try simp only [zput_s, zput_n, ti_g, oI_add, oI_sub, oI_mul]
              simp only [zput_s, zput_n, ti_g, oI_add, oI_sub, oI_mul, zt0, zt1, zt2, zt3, zt4, zt5, zt6, zt7, zt8, zt9, zt10, zt11, zt12, zt13, b180_74]
              try simp only [zput_s, zput_n, ti_g, oI_add, oI_sub, oI_mul]
              simp only [zput_s, zput_n, ti_g, oI_add, oI_sub, oI_mul, zt0, zt1, zt2, zt3, zt4, zt5, zt6, zt7, zt8, zt9, zt10, zt11, zt12, zt13, b180_115]
              try simp only [zput_s, zput_n, ti_g, oI_add, oI_sub, oI_mul]
              simp only [zput_s, zput_n, ti_g, oI_add, oI_sub, oI_mul, zt0, zt1, zt2, zt3, zt4, zt5, zt6, zt7, zt8, zt9, zt10, zt11, zt12, zt13, b180_116]
              try simp only [zput_s, zput_n, ti_g, oI_add, oI_sub, oI_mul]
              simp only [zput_s, zput_n, ti_g, oI_add, oI_sub, oI_mul, zt0, zt1, zt2, zt3, zt4, zt5, zt6, zt7, zt8, zt9, zt10, zt11, zt12, zt13, b180_143]
              try simp only [zput_s, zput_n, ti_g, oI_add, oI_sub, oI_mul]
              simp only [zput_s, zput_n, ti_g, oI_add, oI_sub, oI_mul, zt0, zt1, zt2, zt3, zt4, zt5, zt6, zt7, zt8, zt9, zt10, zt11, zt12, zt13, b180_144]
              try simp only [zput_s, zput_n, ti_g, oI_add, oI_sub, oI_mul]
              first | exact qI_rt (by omega) (by omega) ⟨rfl, by omega⟩ | exact qI_nf ⟨rfl, by omega⟩
            · refine zok_ck ((q0).1) ?_
              refine zok_pI (s160 (q0) (by omega) (by omega) (by first | (omega) | ((try simp only [zt0, zt1, zt2, zt3, zt4, zt5, zt6, zt7, zt8, zt9, zt10, zt11, zt12, zt13]); omega)) (G)) (fun y31 u31 p31 => ?_)
              try simp only [zt0, zt1, zt2, zt3, zt4, zt5, zt6, zt7, zt8, zt9, zt10, zt11, zt12, zt13] at p31
              simp only [zput_s, zput_n, ti_g, oI_add, oI_sub, oI_mul, zt0, zt1, zt2, zt3, zt4, zt5, zt6, zt7, zt8, zt9, zt10, zt11, zt12, zt13, b180_65]
              try simp only [zput_s, zput_n, ti_g, oI_add, oI_sub, oI_mul]
              first | refine zok_ne (by omega) (fun c33 => ?_) (fun c33 => ?_) | refine zok_if (fun c33 => ?_) (fun c33 => ?_)
              · simp only [zput_s, zput_n, ti_g, oI_add, oI_sub, oI_mul, zt0, zt1, zt2, zt3, zt4, zt5, zt6, zt7, zt8, zt9, zt10, zt11, zt12, zt13, b180_73]
                try simp only [zput_s, zput_n, ti_g, oI_add, oI_sub, oI_mul]
                simp only [zput_s, zput_n, ti_g, oI_add, oI_sub, oI_mul, zt0, zt1, zt2, zt3, zt4, zt5, zt6, zt7, zt8, zt9, zt10, zt11, zt12, zt13, b180_74]
                try simp only [zput_s, zput_n, ti_g, oI_add, oI_sub, oI_mul]
                simp only [zput_s, zput_n, ti_g, oI_add, oI_sub, oI_mul, zt0, zt1, zt2, zt3, zt4, zt5, zt6, zt7, zt8, zt9, zt10, zt11, zt12, zt13, b180_115]
                try simp only [zput_s, zput_n, ti_g, oI_add, oI_sub, oI_mul]
                simp only [zput_s, zput_n, ti_g, oI_add, oI_sub, oI_mul, zt0, zt1, zt2, zt3, zt4, zt5, zt6, zt7, zt8, zt9, zt10, zt11, zt12, zt13, b180_116]
                try simp only [zput_s, zput_n, ti_g, oI_add, oI_sub, oI_mul]
                simp only [zput_s, zput_n, ti_g, oI_add, oI_sub, oI_mul, zt0, zt1, zt2, zt3, zt4, zt5, zt6, zt7, zt8, zt9, zt10, zt11, zt12, zt13, b180_143]
                try simp only [zput_s, zput_n, ti_g, oI_add, oI_sub, oI_mul]
                simp only [zput_s, zput_n, ti_g, oI_add, oI_sub, oI_mul, zt0, zt1, zt2, zt3, zt4, zt5, zt6, zt7, zt8, zt9, zt10, zt11, zt12, zt13, b180_144]
                try simp only [zput_s, zput_n, ti_g, oI_add, oI_sub, oI_mul]
                first | exact qI_rt (by omega) (by omega) ⟨rfl, by omega⟩ | exact qI_nf ⟨rfl, by omega⟩
              · simp only [zput_s, zput_n, ti_g, oI_add, oI_sub, oI_mul, zt0, zt1, zt2, zt3, zt4, zt5, zt6, zt7, zt8, zt9, zt10, zt11, zt12, zt13, b180_74]
                try simp only [zput_s, zput_n, ti_g, oI_add, oI_sub, oI_mul]
                first | refine zok_eq (by omega) (fun c41 => ?_) (fun c41 => ?_) | refine zok_if (fun c41 => ?_) (fun c41 => ?_)
                · simp only [zput_s, zput_n, ti_g, oI_add, oI_sub, oI_mul, zt0, zt1, zt2, zt3, zt4, zt5, zt6, zt7, zt8, zt9, zt10, zt11, zt12, zt13, b180_115]
                  try simp only [zput_s, zput_n, ti_g, oI_add, oI_sub, oI_mul]
                  simp only [zput_s, zput_n, ti_g, oI_add, oI_sub, oI_mul, zt0, zt1, zt2, zt3, zt4, zt5, zt6, zt7, zt8, zt9, zt10, zt11, zt12, zt13, b180_116]
                  try simp only [zput_s, zput_n, ti_g, oI_add, oI_sub, oI_mul]
                  simp only [zput_s, zput_n, ti_g, oI_add, oI_sub, oI_mul, zt0, zt1, zt2, zt3, zt4, zt5, zt6, zt7, zt8, zt9, zt10, zt11, zt12, zt13, b180_143]
                  try simp only [zput_s, zput_n, ti_g, oI_add, oI_sub, oI_mul]
                  simp only [zput_s, zput_n, ti_g, oI_add, oI_sub, oI_mul, zt0, zt1, zt2, zt3, zt4, zt5, zt6, zt7, zt8, zt9, zt10, zt11, zt12, zt13, b180_144]
                  try simp only [zput_s, zput_n, ti_g, oI_add, oI_sub, oI_mul]
                  first | exact qI_rt (by omega) (by omega) ⟨rfl, by omega⟩ | exact qI_nf ⟨rfl, by omega⟩
                · first | refine zok_eq (by omega) (fun c46 => ?_) (fun c46 => ?_) | refine zok_if (fun c46 => ?_) (fun c46 => ?_)
                  · simp only [zput_s, zput_n, ti_g, oI_add, oI_sub, oI_mul, zt0, zt1, zt2, zt3, zt4, zt5, zt6, zt7, zt8, zt9, zt10, zt11, zt12, zt13, b180_95]
                    try simp only [zput_s, zput_n, ti_g, oI_add, oI_sub, oI_mul]
                    first | refine zok_eq (by omega) (fun c48 => ?_) (fun c48 => ?_) | refine zok_if (fun c48 => ?_) (fun c48 => ?_)
                    · simp only [zput_s, zput_n, ti_g, oI_add, oI_sub, oI_mul, zt0, zt1, zt2, zt3, zt4, zt5, zt6, zt7, zt8, zt9, zt10, zt11, zt12, zt13, b180_111]
                      try simp only [zput_s, zput_n, ti_g, oI_add, oI_sub, oI_mul]
                      simp only [zput_s, zput_n, ti_g, oI_add, oI_sub, oI_mul, zt0, zt1, zt2, zt3, zt4, zt5, zt6, zt7, zt8, zt9, zt10, zt11, zt12, zt13, b180_116]
                      try simp only [zput_s, zput_n, ti_g, oI_add, oI_sub, oI_mul]
                      first | refine zok_eq (by omega) (fun c51 => ?_) (fun c51 => ?_) | refine zok_if (fun c51 => ?_) (fun c51 => ?_)
                      · simp only [zput_s, zput_n, ti_g, oI_add, oI_sub, oI_mul, zt0, zt1, zt2, zt3, zt4, zt5, zt6, zt7, zt8, zt9, zt10, zt11, zt12, zt13, b180_143]
                        try simp only [zput_s, zput_n, ti_g, oI_add, oI_sub, oI_mul]
                        simp only [zput_s, zput_n, ti_g, oI_add, oI_sub, oI_mul, zt0, zt1, zt2, zt3, zt4, zt5, zt6, zt7, zt8, zt9, zt10, zt11, zt12, zt13, b180_144]
                        try simp only [zput_s, zput_n, ti_g, oI_add, oI_sub, oI_mul]
                        first | exact qI_rt (by omega) (by omega) ⟨rfl, by omega⟩ | exact qI_nf ⟨rfl, by omega⟩
                      · first | refine zok_eq (by omega) (fun c54 => ?_) (fun c54 => ?_) | refine zok_if (fun c54 => ?_) (fun c54 => ?_)
                        · simp only [zput_s, zput_n, ti_g, oI_add, oI_sub, oI_mul, zt0, zt1, zt2, zt3, zt4, zt5, zt6, zt7, zt8, zt9, zt10, zt11, zt12, zt13, b180_139]
                          try simp only [zput_s, zput_n, ti_g, oI_add, oI_sub, oI_mul]
                          simp only [zput_s, zput_n, ti_g, oI_add, oI_sub, oI_mul, zt0, zt1, zt2, zt3, zt4, zt5, zt6, zt7, zt8, zt9, zt10, zt11, zt12, zt13, b180_144]
                          try simp only [zput_s, zput_n, ti_g, oI_add, oI_sub, oI_mul]
                          first | exact qI_rt (by omega) (by omega) ⟨rfl, by omega⟩ | exact qI_nf ⟨rfl, by omega⟩
                        · refine zok_ck ((q0).1) ?_
                          refine zok_pI (s160 (q0) (by omega) (by omega) (by first | (omega) | ((try simp only [zt0, zt1, zt2, zt3, zt4, zt5, zt6, zt7, zt8, zt9, zt10, zt11, zt12, zt13]); omega)) (G)) (fun y57 u57 p57 => ?_)
                          try simp only [zt0, zt1, zt2, zt3, zt4, zt5, zt6, zt7, zt8, zt9, zt10, zt11, zt12, zt13] at p57
                          simp only [zput_s, zput_n, ti_g, oI_add, oI_sub, oI_mul, zt0, zt1, zt2, zt3, zt4, zt5, zt6, zt7, zt8, zt9, zt10, zt11, zt12, zt13, b180_134]
                          try simp only [zput_s, zput_n, ti_g, oI_add, oI_sub, oI_mul]
                          first | refine zok_ne (by omega) (fun c59 => ?_) (fun c59 => ?_) | refine zok_if (fun c59 => ?_) (fun c59 => ?_)
                          · simp only [zput_s, zput_n, ti_g, oI_add, oI_sub, oI_mul, zt0, zt1, zt2, zt3, zt4, zt5, zt6, zt7, zt8, zt9, zt10, zt11, zt12, zt13, b180_143]
                            try simp only [zput_s, zput_n, ti_g, oI_add, oI_sub, oI_mul]
                            simp only [zput_s, zput_n, ti_g, oI_add, oI_sub, oI_mul, zt0, zt1, zt2, zt3, zt4, zt5, zt6, zt7, zt8, zt9, zt10, zt11, zt12, zt13, b180_144]
                            try simp only [zput_s, zput_n, ti_g, oI_add, oI_sub, oI_mul]
                            first | exact qI_rt (by omega) (by omega) ⟨rfl, by omega⟩ | exact qI_nf ⟨rfl, by omega⟩
                          · simp only [zput_s, zput_n, ti_g, oI_add, oI_sub, oI_mul, zt0, zt1, zt2, zt3, zt4, zt5, zt6, zt7, zt8, zt9, zt10, zt11, zt12, zt13, b180_139]
                            try simp only [zput_s, zput_n, ti_g, oI_add, oI_sub, oI_mul]
                            simp only [zput_s, zput_n, ti_g, oI_add, oI_sub, oI_mul, zt0, zt1, zt2, zt3, zt4, zt5, zt6, zt7, zt8, zt9, zt10, zt11, zt12, zt13, b180_144]
                            try simp only [zput_s, zput_n, ti_g, oI_add, oI_sub, oI_mul]
                            first | exact qI_rt (by omega) (by omega) ⟨rfl, by omega⟩ | exact qI_nf ⟨rfl, by omega⟩
                    · refine zok_ck ((q0).1) ?_
                      refine zok_pI (s160 (q0) (by omega) (by omega) (by first | (omega) | ((try simp only [zt0, zt1, zt2, zt3, zt4, zt5, zt6, zt7, zt8, zt9, zt10, zt11, zt12, zt13]); omega)) (G)) (fun y64 u64 p64 => ?_)
                      try simp only [zt0, zt1, zt2, zt3, zt4, zt5, zt6, zt7, zt8, zt9, zt10, zt11, zt12, zt13] at p64
                      simp only [zput_s, zput_n, ti_g, oI_add, oI_sub, oI_mul, zt0, zt1, zt2, zt3, zt4, zt5, zt6, zt7, zt8, zt9, zt10, zt11, zt12, zt13, b180_106]
                      try simp only [zput_s, zput_n, ti_g, oI_add, oI_sub, oI_mul]
                      first | refine zok_ne (by omega) (fun c66 => ?_) (fun c66 => ?_) | refine zok_if (fun c66 => ?_) (fun c66 => ?_)
                      · simp only [zput_s, zput_n, ti_g, oI_add, oI_sub, oI_mul, zt0, zt1, zt2, zt3, zt4, zt5, zt6, zt7, zt8, zt9, zt10, zt11, zt12, zt13, b180_115]
                        try simp only [zput_s, zput_n, ti_g, oI_add, oI_sub, oI_mul]
                        simp only [zput_s, zput_n, ti_g, oI_add, oI_sub, oI_mul, zt0, zt1, zt2, zt3, zt4, zt5, zt6, zt7, zt8, zt9, zt10, zt11, zt12, zt13, b180_116]
                        try simp only [zput_s, zput_n, ti_g, oI_add, oI_sub, oI_mul]
                        simp only [zput_s, zput_n, ti_g, oI_add, oI_sub, oI_mul, zt0, zt1, zt2, zt3, zt4, zt5, zt6, zt7, zt8, zt9, zt10, zt11, zt12, zt13, b180_143]
                        try simp only [zput_s, zput_n, ti_g, oI_add, oI_sub, oI_mul]
                        simp only [zput_s, zput_n, ti_g, oI_add, oI_sub, oI_mul, zt0, zt1, zt2, zt3, zt4, zt5, zt6, zt7, zt8, zt9, zt10, zt11, zt12, zt13, b180_144]
                        try simp only [zput_s, zput_n, ti_g, oI_add, oI_sub, oI_mul]
                        first | exact qI_rt (by omega) (by omega) ⟨rfl, by omega⟩ | exact qI_nf ⟨rfl, by omega⟩
                      · simp only [zput_s, zput_n, ti_g, oI_add, oI_sub, oI_mul, zt0, zt1, zt2, zt3, zt4, zt5, zt6, zt7, zt8, zt9, zt10, zt11, zt12, zt13, b180_111]
                        try simp only [zput_s, zput_n, ti_g, oI_add, oI_sub, oI_mul]
                        simp only [zput_s, zput_n, ti_g, oI_add, oI_sub, oI_mul, zt0, zt1, zt2, zt3, zt4, zt5, zt6, zt7, zt8, zt9, zt10, zt11, zt12, zt13, b180_116]
                        try simp only [zput_s, zput_n, ti_g, oI_add, oI_sub, oI_mul]
                        first | refine zok_eq (by omega) (fun c73 => ?_) (fun c73 => ?_) | refine zok_if (fun c73 => ?_) (fun c73 => ?_)
                        · simp only [zput_s, zput_n, ti_g, oI_add, oI_sub, oI_mul, zt0, zt1, zt2, zt3, zt4, zt5, zt6, zt7, zt8, zt9, zt10, zt11, zt12, zt13, b180_143]
                          try simp only [zput_s, zput_n, ti_g, oI_add, oI_sub, oI_mul]
                          simp only [zput_s, zput_n, ti_g, oI_add, oI_sub, oI_mul, zt0, zt1, zt2, zt3, zt4, zt5, zt6, zt7, zt8, zt9, zt10, zt11, zt12, zt13, b180_144]
                          try simp only [zput_s, zput_n, ti_g, oI_add, oI_sub, oI_mul]
                          first | exact qI_rt (by omega) (by omega) ⟨rfl, by omega⟩ | exact qI_nf ⟨rfl, by omega⟩
                        · first | refine zok_eq (by omega) (fun c76 => ?_) (fun c76 => ?_) | refine zok_if (fun c76 => ?_) (fun c76 => ?_)
                          · simp only [zput_s, zput_n, ti_g, oI_add, oI_sub, oI_mul, zt0, zt1, zt2, zt3, zt4, zt5, zt6, zt7, zt8, zt9, zt10, zt11, zt12, zt13, b180_139]
                            try simp only [zput_s, zput_n, ti_g, oI_add, oI_sub, oI_mul]
                            simp only [zput_s, zput_n, ti_g, oI_add, oI_sub, oI_mul, zt0, zt1, zt2, zt3, zt4, zt5, zt6, zt7, zt8, zt9, zt10, zt11, zt12, zt13, b180_144]
                            try simp only [zput_s, zput_n, ti_g, oI_add, oI_sub, oI_mul]
                            first | exact qI_rt (by omega) (by omega) ⟨rfl, by omega⟩ | exact qI_nf ⟨rfl, by omega⟩
                          · refine zok_ck ((q0).1) ?_
                            refine zok_pI (s160 (q0) (by omega) (by omega) (by first | (omega) | ((try simp only [zt0, zt1, zt2, zt3, zt4, zt5, zt6, zt7, zt8, zt9, zt10, zt11, zt12, zt13]); omega)) (G)) (fun y79 u79 p79 => ?_)
                            try simp only [zt0, zt1, zt2, zt3, zt4, zt5, zt6, zt7, zt8, zt9, zt10, zt11, zt12, zt13] at p79
                            simp only [zput_s, zput_n, ti_g, oI_add, oI_sub, oI_mul, zt0, zt1, zt2, zt3, zt4, zt5, zt6, zt7, zt8, zt9, zt10, zt11, zt12, zt13, b180_134]
                            try simp only [zput_s, zput_n, ti_g, oI_add, oI_sub, oI_mul]
                            first | refine zok_ne (by omega) (fun c81 => ?_) (fun c81 => ?_) | refine zok_if (fun c81 => ?_) (fun c81 => ?_)
                            · simp only [zput_s, zput_n, ti_g, oI_add, oI_sub, oI_mul, zt0, zt1, zt2, zt3, zt4, zt5, zt6, zt7, zt8, zt9, zt10, zt11, zt12, zt13, b180_143]
                              try simp only [zput_s, zput_n, ti_g, oI_add, oI_sub, oI_mul]
                              simp only [zput_s, zput_n, ti_g, oI_add, oI_sub, oI_mul, zt0, zt1, zt2, zt3, zt4, zt5, zt6, zt7, zt8, zt9, zt10, zt11, zt12, zt13, b180_144]
                              try simp only [zput_s, zput_n, ti_g, oI_add, oI_sub, oI_mul]
                              first | exact qI_rt (by omega) (by omega) ⟨rfl, by omega⟩ | exact qI_nf ⟨rfl, by omega⟩
                            · simp only [zput_s, zput_n, ti_g, oI_add, oI_sub, oI_mul, zt0, zt1, zt2, zt3, zt4, zt5, zt6, zt7, zt8, zt9, zt10, zt11, zt12, zt13, b180_139]
                              try simp only [zput_s, zput_n, ti_g, oI_add, oI_sub, oI_mul]
                              simp only [zput_s, zput_n, ti_g, oI_add, oI_sub, oI_mul, zt0, zt1, zt2, zt3, zt4, zt5, zt6, zt7, zt8, zt9, zt10, zt11, zt12, zt13, b180_144]
                              try simp only [zput_s, zput_n, ti_g, oI_add, oI_sub, oI_mul]
                              first | exact qI_rt (by omega) (by omega) ⟨rfl, by omega⟩ | exact qI_nf ⟨rfl, by omega⟩
                  · refine zok_ck ((q0).1) ?_
                    refine zok_pI (s160 (q0) (by omega) (by omega) (by first | (omega) | ((try simp only [zt0, zt1, zt2, zt3, zt4, zt5, zt6, zt7, zt8, zt9, zt10, zt11, zt12, zt13]); omega)) (G)) (fun y86 u86 p86 => ?_)
                    try simp only [zt0, zt1, zt2, zt3, zt4, zt5, zt6, zt7, zt8, zt9, zt10, zt11, zt12, zt13] at p86
                    simp only [zput_s, zput_n, ti_g, oI_add, oI_sub, oI_mul, zt0, zt1, zt2, zt3, zt4, zt5, zt6, zt7, zt8, zt9, zt10, zt11, zt12, zt13, b180_91]
                    try simp only [zput_s, zput_n, ti_g, oI_add, oI_sub, oI_mul]
                    first | refine zok_ne (by omega) (fun c88 => ?_) (fun c88 => ?_) | refine zok_if (fun c88 => ?_) (fun c88 => ?_)
                    · simp only [zput_s, zput_n, ti_g, oI_add, oI_sub, oI_mul, zt0, zt1, zt2, zt3, zt4, zt5, zt6, zt7, zt8, zt9, zt10, zt11, zt12, zt13, b180_115]
                      try simp only [zput_s, zput_n, ti_g, oI_add, oI_sub, oI_mul]
                      simp only [zput_s, zput_n, ti_g, oI_add, oI_sub, oI_mul, zt0, zt1, zt2, zt3, zt4, zt5, zt6, zt7, zt8, zt9, zt10, zt11, zt12, zt13, b180_116]
                      try simp only [zput_s, zput_n, ti_g, oI_add, oI_sub, oI_mul]
                      simp only [zput_s, zput_n, ti_g, oI_add, oI_sub, oI_mul, zt0, zt1, zt2, zt3, zt4, zt5, zt6, zt7, zt8, zt9, zt10, zt11, zt12, zt13, b180_143]
                      try simp only [zput_s, zput_n, ti_g, oI_add, oI_sub, oI_mul]
                      simp only [zput_s, zput_n, ti_g, oI_add, oI_sub, oI_mul, zt0, zt1, zt2, zt3, zt4, zt5, zt6, zt7, zt8, zt9, zt10, zt11, zt12, zt13, b180_144]
                      try simp only [zput_s, zput_n, ti_g, oI_add, oI_sub, oI_mul]
                      first | exact qI_rt (by omega) (by omega) ⟨rfl, by omega⟩ | exact qI_nf ⟨rfl, by omega⟩
                    · simp only [zput_s, zput_n, ti_g, oI_add, oI_sub, oI_mul, zt0, zt1, zt2, zt3, zt4, zt5, zt6, zt7, zt8, zt9, zt10, zt11, zt12, zt13, b180_95]
                      try simp only [zput_s, zput_n, ti_g, oI_add, oI_sub, oI_mul]
                      first | refine zok_eq (by omega) (fun c94 => ?_) (fun c94 => ?_) | refine zok_if (fun c94 => ?_) (fun c94 => ?_)
                      · simp only [zput_s, zput_n, ti_g, oI_add, oI_sub, oI_mul, zt0, zt1, zt2, zt3, zt4, zt5, zt6, zt7, zt8, zt9, zt10, zt11, zt12, zt13, b180_111]
                        try simp only [zput_s, zput_n, ti_g, oI_add, oI_sub, oI_mul]
                        simp only [zput_s, zput_n, ti_g, oI_add, oI_sub, oI_mul, zt0, zt1, zt2, zt3, zt4, zt5, zt6, zt7, zt8, zt9, zt10, zt11, zt12, zt13, b180_116]
                        try simp only [zput_s, zput_n, ti_g, oI_add, oI_sub, oI_mul]
                        first | refine zok_eq (by omega) (fun c97 => ?_) (fun c97 => ?_) | refine zok_if (fun c97 => ?_) (fun c97 => ?_)
                        · simp only [zput_s, zput_n, ti_g, oI_add, oI_sub, oI_mul, zt0, zt1, zt2, zt3, zt4, zt5, zt6, zt7, zt8, zt9, zt10, zt11, zt12, zt13, b180_143]
                          try simp only [zput_s, zput_n, ti_g, oI_add, oI_sub, oI_mul]
                          simp only [zput_s, zput_n, ti_g, oI_add, oI_sub, oI_mul, zt0, zt1, zt2, zt3, zt4, zt5, zt6, zt7, zt8, zt9, zt10, zt11, zt12, zt13, b180_144]
                          try simp only [zput_s, zput_n, ti_g, oI_add, oI_sub, oI_mul]
                          first | exact qI_rt (by omega) (by omega) ⟨rfl, by omega⟩ | exact qI_nf ⟨rfl, by omega⟩
                        · first | refine zok_eq (by omega) (fun c100 => ?_) (fun c100 => ?_) | refine zok_if (fun c100 => ?_) (fun c100 => ?_)
                          · simp only [zput_s, zput_n, ti_g, oI_add, oI_sub, oI_mul, zt0, zt1, zt2, zt3, zt4, zt5, zt6, zt7, zt8, zt9, zt10, zt11, zt12, zt13, b180_139]
                            try simp only [zput_s, zput_n, ti_g, oI_add, oI_sub, oI_mul]
                            simp only [zput_s, zput_n, ti_g, oI_add, oI_sub, oI_mul, zt0, zt1, zt2, zt3, zt4, zt5, zt6, zt7, zt8, zt9, zt10, zt11, zt12, zt13, b180_144]
                            try simp only [zput_s, zput_n, ti_g, oI_add, oI_sub, oI_mul]
                            first | exact qI_rt (by omega) (by omega) ⟨rfl, by omega⟩ | exact qI_nf ⟨rfl, by omega⟩
                          · refine zok_ck ((q0).1) ?_
                            refine zok_pI (s160 (q0) (by omega) (by omega) (by first | (omega) | ((try simp only [zt0, zt1, zt2, zt3, zt4, zt5, zt6, zt7, zt8, zt9, zt10, zt11, zt12, zt13]); omega)) (G)) (fun y103 u103 p103 => ?_)
                            try simp only [zt0, zt1, zt2, zt3, zt4, zt5, zt6, zt7, zt8, zt9, zt10, zt11, zt12, zt13] at p103
                            simp only [zput_s, zput_n, ti_g, oI_add, oI_sub, oI_mul, zt0, zt1, zt2, zt3, zt4, zt5, zt6, zt7, zt8, zt9, zt10, zt11, zt12, zt13, b180_134]
                            try simp only [zput_s, zput_n, ti_g, oI_add, oI_sub, oI_mul]
                            first | refine zok_ne (by omega) (fun c105 => ?_) (fun c105 => ?_) | refine zok_if (fun c105 => ?_) (fun c105 => ?_)
                            · simp only [zput_s, zput_n, ti_g, oI_add, oI_sub, oI_mul, zt0, zt1, zt2, zt3, zt4, zt5, zt6, zt7, zt8, zt9, zt10, zt11, zt12, zt13, b180_143]
                              try simp only [zput_s, zput_n, ti_g, oI_add, oI_sub, oI_mul]
                              simp only [zput_s, zput_n, ti_g, oI_add, oI_sub, oI_mul, zt0, zt1, zt2, zt3, zt4, zt5, zt6, zt7, zt8, zt9, zt10, zt11, zt12, zt13, b180_144]
                              try simp only [zput_s, zput_n, ti_g, oI_add, oI_sub, oI_mul]
                              first | exact qI_rt (by omega) (by omega) ⟨rfl, by omega⟩ | exact qI_nf ⟨rfl, by omega⟩
                            · simp only [zput_s, zput_n, ti_g, oI_add, oI_sub, oI_mul, zt0, zt1, zt2, zt3, zt4, zt5, zt6, zt7, zt8, zt9, zt10, zt11, zt12, zt13, b180_139]
                              try simp only [zput_s, zput_n, ti_g, oI_add, oI_sub, oI_mul]
                              simp only [zput_s, zput_n, ti_g, oI_add, oI_sub, oI_mul, zt0, zt1, zt2, zt3, zt4, zt5, zt6, zt7, zt8, zt9, zt10, zt11, zt12, zt13, b180_144]
                              try simp only [zput_s, zput_n, ti_g, oI_add, oI_sub, oI_mul]
                              first | exact qI_rt (by omega) (by omega) ⟨rfl, by omega⟩ | exact qI_nf ⟨rfl, by omega⟩
                      · refine zok_ck ((q0).1) ?_
                        refine zok_pI (s160 (q0) (by omega) (by omega) (by first | (omega) | ((try simp only [zt0, zt1, zt2, zt3, zt4, zt5, zt6, zt7, zt8, zt9, zt10, zt11, zt12, zt13]); omega)) (G)) (fun y110 u110 p110 => ?_)
                        try simp only [zt0, zt1, zt2, zt3, zt4, zt5, zt6, zt7, zt8, zt9, zt10, zt11, zt12, zt13] at p110
                        simp only [zput_s, zput_n, ti_g, oI_add, oI_sub, oI_mul, zt0, zt1, zt2, zt3, zt4, zt5, zt6, zt7, zt8, zt9, zt10, zt11, zt12, zt13, b180_106]
                        try simp only [zput_s, zput_n, ti_g, oI_add, oI_sub, oI_mul]
                        first | refine zok_ne (by omega) (fun c112 => ?_) (fun c112 => ?_) | refine zok_if (fun c112 => ?_) (fun c112 => ?_)
                        · simp only [zput_s, zput_n, ti_g, oI_add, oI_sub, oI_mul, zt0, zt1, zt2, zt3, zt4, zt5, zt6, zt7, zt8, zt9, zt10, zt11, zt12, zt13, b180_115]
                          try simp only [zput_s, zput_n, ti_g, oI_add, oI_sub, oI_mul]
                          simp only [zput_s, zput_n, ti_g, oI_add, oI_sub, oI_mul, zt0, zt1, zt2, zt3, zt4, zt5, zt6, zt7, zt8, zt9, zt10, zt11, zt12, zt13, b180_116]
                          try simp only [zput_s, zput_n, ti_g, oI_add, oI_sub, oI_mul]
                          simp only [zput_s, zput_n, ti_g, oI_add, oI_sub, oI_mul, zt0, zt1, zt2, zt3, zt4, zt5, zt6, zt7, zt8, zt9, zt10, zt11, zt12, zt13, b180_143]
                          try simp only [zput_s, zput_n, ti_g, oI_add, oI_sub, oI_mul]
                          simp only [zput_s, zput_n, ti_g, oI_add, oI_sub, oI_mul, zt0, zt1, zt2, zt3, zt4, zt5, zt6, zt7, zt8, zt9, zt10, zt11, zt12, zt13, b180_144]
                          try simp only [zput_s, zput_n, ti_g, oI_add, oI_sub, oI_mul]
                          first | exact qI_rt (by omega) (by omega) ⟨rfl, by omega⟩ | exact qI_nf ⟨rfl, by omega⟩
                        · simp only [zput_s, zput_n, ti_g, oI_add, oI_sub, oI_mul, zt0, zt1, zt2, zt3, zt4, zt5, zt6, zt7, zt8, zt9, zt10, zt11, zt12, zt13, b180_111]
                          try simp only [zput_s, zput_n, ti_g, oI_add, oI_sub, oI_mul]
                          simp only [zput_s, zput_n, ti_g, oI_add, oI_sub, oI_mul, zt0, zt1, zt2, zt3, zt4, zt5, zt6, zt7, zt8, zt9, zt10, zt11, zt12, zt13, b180_116]
                          try simp only [zput_s, zput_n, ti_g, oI_add, oI_sub, oI_mul]
                          first | refine zok_eq (by omega) (fun c119 => ?_) (fun c119 => ?_) | refine zok_if (fun c119 => ?_) (fun c119 => ?_)
                          · simp only [zput_s, zput_n, ti_g, oI_add, oI_sub, oI_mul, zt0, zt1, zt2, zt3, zt4, zt5, zt6, zt7, zt8, zt9, zt10, zt11, zt12, zt13, b180_143]
                            try simp only [zput_s, zput_n, ti_g, oI_add, oI_sub, oI_mul]
                            simp only [zput_s, zput_n, ti_g, oI_add, oI_sub, oI_mul, zt0, zt1, zt2, zt3, zt4, zt5, zt6, zt7, zt8, zt9, zt10, zt11, zt12, zt13, b180_144]
                            try simp only [zput_s, zput_n, ti_g, oI_add, oI_sub, oI_mul]
                            first | exact qI_rt (by omega) (by omega) ⟨rfl, by omega⟩ | exact qI_nf ⟨rfl, by omega⟩
                          · first | refine zok_eq (by omega) (fun c122 => ?_) (fun c122 => ?_) | refine zok_if (fun c122 => ?_) (fun c122 => ?_)
                            · simp only [zput_s, zput_n, ti_g, oI_add, oI_sub, oI_mul, zt0, zt1, zt2, zt3, zt4, zt5, zt6, zt7, zt8, zt9, zt10, zt11, zt12, zt13, b180_139]
                              try simp only [zput_s, zput_n, ti_g, oI_add, oI_sub, oI_mul]
                              simp only [zput_s, zput_n, ti_g, oI_add, oI_sub, oI_mul, zt0, zt1, zt2, zt3, zt4, zt5, zt6, zt7, zt8, zt9, zt10, zt11, zt12, zt13, b180_144]
                              try simp only [zput_s, zput_n, ti_g, oI_add, oI_sub, oI_mul]
                              first | exact qI_rt (by omega) (by omega) ⟨rfl, by omega⟩ | exact qI_nf ⟨rfl, by omega⟩
                            · refine zok_ck ((q0).1) ?_
                              refine zok_pI (s160 (q0) (by omega) (by omega) (by first | (omega) | ((try simp only [zt0, zt1, zt2, zt3, zt4, zt5, zt6, zt7, zt8, zt9, zt10, zt11, zt12, zt13]); omega)) (G)) (fun y125 u125 p125 => ?_)
                              try simp only [zt0, zt1, zt2, zt3, zt4, zt5, zt6, zt7, zt8, zt9, zt10, zt11, zt12, zt13] at p125
                              simp only [zput_s, zput_n, ti_g, oI_add, oI_sub, oI_mul, zt0, zt1, zt2, zt3, zt4, zt5, zt6, zt7, zt8, zt9, zt10, zt11, zt12, zt13, b180_134]
                              try simp only [zput_s, zput_n, ti_g, oI_add, oI_sub, oI_mul]
                              first | refine zok_ne (by omega) (fun c127 => ?_) (fun c127 => ?_) | refine zok_if (fun c127 => ?_) (fun c127 => ?_)
                              · simp only [zput_s, zput_n, ti_g, oI_add, oI_sub, oI_mul, zt0, zt1, zt2, zt3, zt4, zt5, zt6, zt7, zt8, zt9, zt10, zt11, zt12, zt13, b180_143]
                                try simp only [zput_s, zput_n, ti_g, oI_add, oI_sub, oI_mul]
                                simp only [zput_s, zput_n, ti_g, oI_add, oI_sub, oI_mul, zt0, zt1, zt2, zt3, zt4, zt5, zt6, zt7, zt8, zt9, zt10, zt11, zt12, zt13, b180_144]
                                try simp only [zput_s, zput_n, ti_g, oI_add, oI_sub, oI_mul]
                                first | exact qI_rt (by omega) (by omega) ⟨rfl, by omega⟩ | exact qI_nf ⟨rfl, by omega⟩
                              · simp only [zput_s, zput_n, ti_g, oI_add, oI_sub, oI_mul, zt0, zt1, zt2, zt3, zt4, zt5, zt6, zt7, zt8, zt9, zt10, zt11, zt12, zt13, b180_139]
                                try simp only [zput_s, zput_n, ti_g, oI_add, oI_sub, oI_mul]
                                simp only [zput_s, zput_n, ti_g, oI_add, oI_sub, oI_mul, zt0, zt1, zt2, zt3, zt4, zt5, zt6, zt7, zt8, zt9, zt10, zt11, zt12, zt13, b180_144]
                                try simp only [zput_s, zput_n, ti_g, oI_add, oI_sub, oI_mul]
                                first | exact qI_rt (by omega) (by omega) ⟨rfl, by omega⟩ | exact qI_nf ⟨rfl, by omega⟩
      · simp only [zput_s, zput_n, ti_g, oI_add, oI_sub, oI_mul, zt0, zt1, zt2, zt3, zt4, zt5, zt6, zt7, zt8, zt9, zt10, zt11, zt12, zt13, b180_27]
        try simp only [zput_s, zput_n, ti_g, oI_add, oI_sub, oI_mul]
        refine zok_ck ((q0).1) ?_
        refine zok_ck ⟨Or.inr (by rw [(q0).2.2.2.2.2.2.2.2.2.2.2.1]), zin_o (by omega) (by omega) (by omega)⟩ ?_
        try rw [nN_o (a := 0) (by omega) (by omega)]
        try rw [show (0 : Int).toNat = 0 from rfl]
        try simp only [zput_s, zput_n, ti_g, oI_add, oI_sub, oI_mul, zt0, zt1, zt2, zt3, zt4, zt5, zt6, zt7, zt8, zt9, zt10, zt11, zt12, zt13]
        have gl133 := And.intro (tg_lo t (sr sh r0 11) (0)) (tg_hi t (sr sh r0 11) (0))
        have gm133 := (G).2.2.2.1 (0) (by omega)
        try simp only [zt0, zt1, zt2, zt3, zt4, zt5, zt6, zt7, zt8, zt9, zt10, zt11, zt12, zt13] at gl133
        try simp only [zt0, zt1, zt2, zt3, zt4, zt5, zt6, zt7, zt8, zt9, zt10, zt11, zt12, zt13] at gm133
        first | refine zok_eq (by omega) (fun c134 => ?_) (fun c134 => ?_) | refine zok_if (fun c134 => ?_) (fun c134 => ?_)
        · simp only [zput_s, zput_n, ti_g, oI_add, oI_sub, oI_mul, zt0, zt1, zt2, zt3, zt4, zt5, zt6, zt7, zt8, zt9, zt10, zt11, zt12, zt13, b180_73]
          try simp only [zput_s, zput_n, ti_g, oI_add, oI_sub, oI_mul]
          simp only [zput_s, zput_n, ti_g, oI_add, oI_sub, oI_mul, zt0, zt1, zt2, zt3, zt4, zt5, zt6, zt7, zt8, zt9, zt10, zt11, zt12, zt13, b180_74]
          try simp only [zput_s, zput_n, ti_g, oI_add, oI_sub, oI_mul]
          simp only [zput_s, zput_n, ti_g, oI_add, oI_sub, oI_mul, zt0, zt1, zt2, zt3, zt4, zt5, zt6, zt7, zt8, zt9, zt10, zt11, zt12, zt13, b180_115]
          try simp only [zput_s, zput_n, ti_g, oI_add, oI_sub, oI_mul]
          simp only [zput_s, zput_n, ti_g, oI_add, oI_sub, oI_mul, zt0, zt1, zt2, zt3, zt4, zt5, zt6, zt7, zt8, zt9, zt10, zt11, zt12, zt13, b180_116]
          try simp only [zput_s, zput_n, ti_g, oI_add, oI_sub, oI_mul]
          simp only [zput_s, zput_n, ti_g, oI_add, oI_sub, oI_mul, zt0, zt1, zt2, zt3, zt4, zt5, zt6, zt7, zt8, zt9, zt10, zt11, zt12, zt13, b180_143]
          try simp only [zput_s, zput_n, ti_g, oI_add, oI_sub, oI_mul]
          simp only [zput_s, zput_n, ti_g, oI_add, oI_sub, oI_mul, zt0, zt1, zt2, zt3, zt4, zt5, zt6, zt7, zt8, zt9, zt10, zt11, zt12, zt13, b180_144]
          try simp only [zput_s, zput_n, ti_g, oI_add, oI_sub, oI_mul]
          first | exact qI_rt (by omega) (by omega) ⟨rfl, by omega⟩ | exact qI_nf ⟨rfl, by omega⟩
        · refine zok_ck ((q0).1) ?_
          refine zok_ck ⟨(by rw [(q0).2.2.2.2.2.2.2.2.2.2.1]), zin_o (by omega) (by omega) (by omega)⟩ ?_
          try rw [nN_o (a := 0) (by omega) (by omega)]
          try rw [show (0 : Int).toNat = 0 from rfl]
          try simp only [zput_s, zput_n, ti_g, oI_add, oI_sub, oI_mul, zt0, zt1, zt2, zt3, zt4, zt5, zt6, zt7, zt8, zt9, zt10, zt11, zt12, zt13]
          have gl141 := And.intro (tg_lo t (sr sh r0 10) (0)) (tg_hi t (sr sh r0 10) (0))
          have gm141 := (G).2.2.1 (0) (by omega)
          try simp only [zt0, zt1, zt2, zt3, zt4, zt5, zt6, zt7, zt8, zt9, zt10, zt11, zt12, zt13] at gl141
          try simp only [zt0, zt1, zt2, zt3, zt4, zt5, zt6, zt7, zt8, zt9, zt10, zt11, zt12, zt13] at gm141
          first | refine zok_ne (by omega) (fun c142 => ?_) (fun c142 => ?_) | refine zok_if (fun c142 => ?_) (fun c142 => ?_)
          · simp only [zput_s, zput_n, ti_g, oI_add, oI_sub, oI_mul, zt0, zt1, zt2, zt3, zt4, zt5, zt6, zt7, zt8, zt9, zt10, zt11, zt12, zt13, b180_73]
            try simp only [zput_s, zput_n, ti_g, oI_add, oI_sub, oI_mul]
            simp only [zput_s, zput_n, ti_g, oI_add, oI_sub, oI_mul, zt0, zt1, zt2, zt3, zt4, zt5, zt6, zt7, zt8, zt9, zt10, zt11, zt12, zt13, b180_74]
            try simp only [zput_s, zput_n, ti_g, oI_add, oI_sub, oI_mul]
            simp only [zput_s, zput_n, ti_g, oI_add, oI_sub, oI_mul, zt0, zt1, zt2, zt3, zt4, zt5, zt6, zt7, zt8, zt9, zt10, zt11, zt12, zt13, b180_115]
            try simp only [zput_s, zput_n, ti_g, oI_add, oI_sub, oI_mul]
            simp only [zput_s, zput_n, ti_g, oI_add, oI_sub, oI_mul, zt0, zt1, zt2, zt3, zt4, zt5, zt6, zt7, zt8, zt9, zt10, zt11, zt12, zt13, b180_116]
            try simp only [zput_s, zput_n, ti_g, oI_add, oI_sub, oI_mul]
            simp only [zput_s, zput_n, ti_g, oI_add, oI_sub, oI_mul, zt0, zt1, zt2, zt3, zt4, zt5, zt6, zt7, zt8, zt9, zt10, zt11, zt12, zt13, b180_143]
            try simp only [zput_s, zput_n, ti_g, oI_add, oI_sub, oI_mul]
            simp only [zput_s, zput_n, ti_g, oI_add, oI_sub, oI_mul, zt0, zt1, zt2, zt3, zt4, zt5, zt6, zt7, zt8, zt9, zt10, zt11, zt12, zt13, b180_144]
            try simp only [zput_s, zput_n, ti_g, oI_add, oI_sub, oI_mul]
            first | exact qI_rt (by omega) (by omega) ⟨rfl, by omega⟩ | exact qI_nf ⟨rfl, by omega⟩
          · refine zok_ck ((q0).1) ?_
            refine zok_pI (s160 (q0) (by omega) (by omega) (by first | (omega) | ((try simp only [zt0, zt1, zt2, zt3, zt4, zt5, zt6, zt7, zt8, zt9, zt10, zt11, zt12, zt13]); omega)) (G)) (fun y149 u149 p149 => ?_)
            try simp only [zt0, zt1, zt2, zt3, zt4, zt5, zt6, zt7, zt8, zt9, zt10, zt11, zt12, zt13] at p149
            simp only [zput_s, zput_n, ti_g, oI_add, oI_sub, oI_mul, zt0, zt1, zt2, zt3, zt4, zt5, zt6, zt7, zt8, zt9, zt10, zt11, zt12, zt13, b180_55]
            try simp only [zput_s, zput_n, ti_g, oI_add, oI_sub, oI_mul]
            first | refine zok_ne (by omega) (fun c151 => ?_) (fun c151 => ?_) | refine zok_if (fun c151 => ?_) (fun c151 => ?_)
            · simp only [zput_s, zput_n, ti_g, oI_add, oI_sub, oI_mul, zt0, zt1, zt2, zt3, zt4, zt5, zt6, zt7, zt8, zt9, zt10, zt11, zt12, zt13, b180_73]
              try simp only [zput_s, zput_n, ti_g, oI_add, oI_sub, oI_mul]
              simp only [zput_s, zput_n, ti_g, oI_add, oI_sub, oI_mul, zt0, zt1, zt2, zt3, zt4, zt5, zt6, zt7, zt8, zt9, zt10, zt11, zt12, zt13, b180_74]
              try simp only [zput_s, zput_n, ti_g, oI_add, oI_sub, oI_mul]
              simp only [zput_s, zput_n, ti_g, oI_add, oI_sub, oI_mul, zt0, zt1, zt2, zt3, zt4, zt5, zt6, zt7, zt8, zt9, zt10, zt11, zt12, zt13, b180_115]
              try simp only [zput_s, zput_n, ti_g, oI_add, oI_sub, oI_mul]
              simp only [zput_s, zput_n, ti_g, oI_add, oI_sub, oI_mul, zt0, zt1, zt2, zt3, zt4, zt5, zt6, zt7, zt8, zt9, zt10, zt11, zt12, zt13, b180_116]
              try simp only [zput_s, zput_n, ti_g, oI_add, oI_sub, oI_mul]
              simp only [zput_s, zput_n, ti_g, oI_add, oI_sub, oI_mul, zt0, zt1, zt2, zt3, zt4, zt5, zt6, zt7, zt8, zt9, zt10, zt11, zt12, zt13, b180_143]
              try simp only [zput_s, zput_n, ti_g, oI_add, oI_sub, oI_mul]
              simp only [zput_s, zput_n, ti_g, oI_add, oI_sub, oI_mul, zt0, zt1, zt2, zt3, zt4, zt5, zt6, zt7, zt8, zt9, zt10, zt11, zt12, zt13, b180_144]
              try simp only [zput_s, zput_n, ti_g, oI_add, oI_sub, oI_mul]
              first | exact qI_rt (by omega) (by omega) ⟨rfl, by omega⟩ | exact qI_nf ⟨rfl, by omega⟩
            · refine zok_ck ((q0).1) ?_
              refine zok_pI (s160 (q0) (by omega) (by omega) (by first | (omega) | ((try simp only [zt0, zt1, zt2, zt3, zt4, zt5, zt6, zt7, zt8, zt9, zt10, zt11, zt12, zt13]); omega)) (G)) (fun y158 u158 p158 => ?_)
              try simp only [zt0, zt1, zt2, zt3, zt4, zt5, zt6, zt7, zt8, zt9, zt10, zt11, zt12, zt13] at p158
              simp only [zput_s, zput_n, ti_g, oI_add, oI_sub, oI_mul, zt0, zt1, zt2, zt3, zt4, zt5, zt6, zt7, zt8, zt9, zt10, zt11, zt12, zt13, b180_65]
              try simp only [zput_s, zput_n, ti_g, oI_add, oI_sub, oI_mul]
              first | refine zok_ne (by omega) (fun c160 => ?_) (fun c160 => ?_) | refine zok_if (fun c160 => ?_) (fun c160 => ?_)
              · simp only [zput_s, zput_n, ti_g, oI_add, oI_sub, oI_mul, zt0, zt1, zt2, zt3, zt4, zt5, zt6, zt7, zt8, zt9, zt10, zt11, zt12, zt13, b180_73]
                try simp only [zput_s, zput_n, ti_g, oI_add, oI_sub, oI_mul]
                simp only [zput_s, zput_n, ti_g, oI_add, oI_sub, oI_mul, zt0, zt1, zt2, zt3, zt4, zt5, zt6, zt7, zt8, zt9, zt10, zt11, zt12, zt13, b180_74]
                try simp only [zput_s, zput_n, ti_g, oI_add, oI_sub, oI_mul]
                simp only [zput_s, zput_n, ti_g, oI_add, oI_sub, oI_mul, zt0, zt1, zt2, zt3, zt4, zt5, zt6, zt7, zt8, zt9, zt10, zt11, zt12, zt13, b180_115]
                try simp only [zput_s, zput_n, ti_g, oI_add, oI_sub, oI_mul]
                simp only [zput_s, zput_n, ti_g, oI_add, oI_sub, oI_mul, zt0, zt1, zt2, zt3, zt4, zt5, zt6, zt7, zt8, zt9, zt10, zt11, zt12, zt13, b180_116]
                try simp only [zput_s, zput_n, ti_g, oI_add, oI_sub, oI_mul]
                simp only [zput_s, zput_n, ti_g, oI_add, oI_sub, oI_mul, zt0, zt1, zt2, zt3, zt4, zt5, zt6, zt7, zt8, zt9, zt10, zt11, zt12, zt13, b180_143]
                try simp only [zput_s, zput_n, ti_g, oI_add, oI_sub, oI_mul]
                simp only [zput_s, zput_n, ti_g, oI_add, oI_sub, oI_mul, zt0, zt1, zt2, zt3, zt4, zt5, zt6, zt7, zt8, zt9, zt10, zt11, zt12, zt13, b180_144]
                try simp only [zput_s, zput_n, ti_g, oI_add, oI_sub, oI_mul]
                first | exact qI_rt (by omega) (by omega) ⟨rfl, by omega⟩ | exact qI_nf ⟨rfl, by omega⟩
              · simp only [zput_s, zput_n, ti_g, oI_add, oI_sub, oI_mul, zt0, zt1, zt2, zt3, zt4, zt5, zt6, zt7, zt8, zt9, zt10, zt11, zt12, zt13, b180_74]
                try simp only [zput_s, zput_n, ti_g, oI_add, oI_sub, oI_mul]
                first | refine zok_eq (by omega) (fun c168 => ?_) (fun c168 => ?_) | refine zok_if (fun c168 => ?_) (fun c168 => ?_)
                · simp only [zput_s, zput_n, ti_g, oI_add, oI_sub, oI_mul, zt0, zt1, zt2, zt3, zt4, zt5, zt6, zt7, zt8, zt9, zt10, zt11, zt12, zt13, b180_115]
                  try simp only [zput_s, zput_n, ti_g, oI_add, oI_sub, oI_mul]
                  simp only [zput_s, zput_n, ti_g, oI_add, oI_sub, oI_mul, zt0, zt1, zt2, zt3, zt4, zt5, zt6, zt7, zt8, zt9, zt10, zt11, zt12, zt13, b180_116]
                  try simp only [zput_s, zput_n, ti_g, oI_add, oI_sub, oI_mul]
                  simp only [zput_s, zput_n, ti_g, oI_add, oI_sub, oI_mul, zt0, zt1, zt2, zt3, zt4, zt5, zt6, zt7, zt8, zt9, zt10, zt11, zt12, zt13, b180_143]
                  try simp only [zput_s, zput_n, ti_g, oI_add, oI_sub, oI_mul]
                  simp only [zput_s, zput_n, ti_g, oI_add, oI_sub, oI_mul, zt0, zt1, zt2, zt3, zt4, zt5, zt6, zt7, zt8, zt9, zt10, zt11, zt12, zt13, b180_144]
                  try simp only [zput_s, zput_n, ti_g, oI_add, oI_sub, oI_mul]
                  first | exact qI_rt (by omega) (by omega) ⟨rfl, by omega⟩ | exact qI_nf ⟨rfl, by omega⟩
                · first | refine zok_eq (by omega) (fun c173 => ?_) (fun c173 => ?_) | refine zok_if (fun c173 => ?_) (fun c173 => ?_)
                  · simp only [zput_s, zput_n, ti_g, oI_add, oI_sub, oI_mul, zt0, zt1, zt2, zt3, zt4, zt5, zt6, zt7, zt8, zt9, zt10, zt11, zt12, zt13, b180_95]
                    try simp only [zput_s, zput_n, ti_g, oI_add, oI_sub, oI_mul]
                    first | refine zok_eq (by omega) (fun c175 => ?_) (fun c175 => ?_) | refine zok_if (fun c175 => ?_) (fun c175 => ?_)
                    · simp only [zput_s, zput_n, ti_g, oI_add, oI_sub, oI_mul, zt0, zt1, zt2, zt3, zt4, zt5, zt6, zt7, zt8, zt9, zt10, zt11, zt12, zt13, b180_111]
                      try simp only [zput_s, zput_n, ti_g, oI_add, oI_sub, oI_mul]
                      simp only [zput_s, zput_n, ti_g, oI_add, oI_sub, oI_mul, zt0, zt1, zt2, zt3, zt4, zt5, zt6, zt7, zt8, zt9, zt10, zt11, zt12, zt13, b180_116]
                      try simp only [zput_s, zput_n, ti_g, oI_add, oI_sub, oI_mul]
                      first | refine zok_eq (by omega) (fun c178 => ?_) (fun c178 => ?_) | refine zok_if (fun c178 => ?_) (fun c178 => ?_)
                      · simp only [zput_s, zput_n, ti_g, oI_add, oI_sub, oI_mul, zt0, zt1, zt2, zt3, zt4, zt5, zt6, zt7, zt8, zt9, zt10, zt11, zt12, zt13, b180_143]
                        try simp only [zput_s, zput_n, ti_g, oI_add, oI_sub, oI_mul]
                        simp only [zput_s, zput_n, ti_g, oI_add, oI_sub, oI_mul, zt0, zt1, zt2, zt3, zt4, zt5, zt6, zt7, zt8, zt9, zt10, zt11, zt12, zt13, b180_144]
                        try simp only [zput_s, zput_n, ti_g, oI_add, oI_sub, oI_mul]
                        first | exact qI_rt (by omega) (by omega) ⟨rfl, by omega⟩ | exact qI_nf ⟨rfl, by omega⟩
                      · first | refine zok_eq (by omega) (fun c181 => ?_) (fun c181 => ?_) | refine zok_if (fun c181 => ?_) (fun c181 => ?_)
                        · simp only [zput_s, zput_n, ti_g, oI_add, oI_sub, oI_mul, zt0, zt1, zt2, zt3, zt4, zt5, zt6, zt7, zt8, zt9, zt10, zt11, zt12, zt13, b180_139]
                          try simp only [zput_s, zput_n, ti_g, oI_add, oI_sub, oI_mul]
                          simp only [zput_s, zput_n, ti_g, oI_add, oI_sub, oI_mul, zt0, zt1, zt2, zt3, zt4, zt5, zt6, zt7, zt8, zt9, zt10, zt11, zt12, zt13, b180_144]
                          try simp only [zput_s, zput_n, ti_g, oI_add, oI_sub, oI_mul]
                          first | exact qI_rt (by omega) (by omega) ⟨rfl, by omega⟩ | exact qI_nf ⟨rfl, by omega⟩
                        · refine zok_ck ((q0).1) ?_
                          refine zok_pI (s160 (q0) (by omega) (by omega) (by first | (omega) | ((try simp only [zt0, zt1, zt2, zt3, zt4, zt5, zt6, zt7, zt8, zt9, zt10, zt11, zt12, zt13]); omega)) (G)) (fun y184 u184 p184 => ?_)
                          try simp only [zt0, zt1, zt2, zt3, zt4, zt5, zt6, zt7, zt8, zt9, zt10, zt11, zt12, zt13] at p184
                          simp only [zput_s, zput_n, ti_g, oI_add, oI_sub, oI_mul, zt0, zt1, zt2, zt3, zt4, zt5, zt6, zt7, zt8, zt9, zt10, zt11, zt12, zt13, b180_134]
                          try simp only [zput_s, zput_n, ti_g, oI_add, oI_sub, oI_mul]
                          first | refine zok_ne (by omega) (fun c186 => ?_) (fun c186 => ?_) | refine zok_if (fun c186 => ?_) (fun c186 => ?_)
                          · simp only [zput_s, zput_n, ti_g, oI_add, oI_sub, oI_mul, zt0, zt1, zt2, zt3, zt4, zt5, zt6, zt7, zt8, zt9, zt10, zt11, zt12, zt13, b180_143]
                            try simp only [zput_s, zput_n, ti_g, oI_add, oI_sub, oI_mul]
                            simp only [zput_s, zput_n, ti_g, oI_add, oI_sub, oI_mul, zt0, zt1, zt2, zt3, zt4, zt5, zt6, zt7, zt8, zt9, zt10, zt11, zt12, zt13, b180_144]
                            try simp only [zput_s, zput_n, ti_g, oI_add, oI_sub, oI_mul]
                            first | exact qI_rt (by omega) (by omega) ⟨rfl, by omega⟩ | exact qI_nf ⟨rfl, by omega⟩
                          · simp only [zput_s, zput_n, ti_g, oI_add, oI_sub, oI_mul, zt0, zt1, zt2, zt3, zt4, zt5, zt6, zt7, zt8, zt9, zt10, zt11, zt12, zt13, b180_139]
                            try simp only [zput_s, zput_n, ti_g, oI_add, oI_sub, oI_mul]
                            simp only [zput_s, zput_n, ti_g, oI_add, oI_sub, oI_mul, zt0, zt1, zt2, zt3, zt4, zt5, zt6, zt7, zt8, zt9, zt10, zt11, zt12, zt13, b180_144]
                            try simp only [zput_s, zput_n, ti_g, oI_add, oI_sub, oI_mul]
                            first | exact qI_rt (by omega) (by omega) ⟨rfl, by omega⟩ | exact qI_nf ⟨rfl, by omega⟩
                    · refine zok_ck ((q0).1) ?_
                      refine zok_pI (s160 (q0) (by omega) (by omega) (by first | (omega) | ((try simp only [zt0, zt1, zt2, zt3, zt4, zt5, zt6, zt7, zt8, zt9, zt10, zt11, zt12, zt13]); omega)) (G)) (fun y191 u191 p191 => ?_)
                      try simp only [zt0, zt1, zt2, zt3, zt4, zt5, zt6, zt7, zt8, zt9, zt10, zt11, zt12, zt13] at p191
                      simp only [zput_s, zput_n, ti_g, oI_add, oI_sub, oI_mul, zt0, zt1, zt2, zt3, zt4, zt5, zt6, zt7, zt8, zt9, zt10, zt11, zt12, zt13, b180_106]
                      try simp only [zput_s, zput_n, ti_g, oI_add, oI_sub, oI_mul]
                      first | refine zok_ne (by omega) (fun c193 => ?_) (fun c193 => ?_) | refine zok_if (fun c193 => ?_) (fun c193 => ?_)
                      · simp only [zput_s, zput_n, ti_g, oI_add, oI_sub, oI_mul, zt0, zt1, zt2, zt3, zt4, zt5, zt6, zt7, zt8, zt9, zt10, zt11, zt12, zt13, b180_115]
                        try simp only [zput_s, zput_n, ti_g, oI_add, oI_sub, oI_mul]
                        simp only [zput_s, zput_n, ti_g, oI_add, oI_sub, oI_mul, zt0, zt1, zt2, zt3, zt4, zt5, zt6, zt7, zt8, zt9, zt10, zt11, zt12, zt13, b180_116]
                        try simp only [zput_s, zput_n, ti_g, oI_add, oI_sub, oI_mul]
                        simp only [zput_s, zput_n, ti_g, oI_add, oI_sub, oI_mul, zt0, zt1, zt2, zt3, zt4, zt5, zt6, zt7, zt8, zt9, zt10, zt11, zt12, zt13, b180_143]
                        try simp only [zput_s, zput_n, ti_g, oI_add, oI_sub, oI_mul]
                        simp only [zput_s, zput_n, ti_g, oI_add, oI_sub, oI_mul, zt0, zt1, zt2, zt3, zt4, zt5, zt6, zt7, zt8, zt9, zt10, zt11, zt12, zt13, b180_144]
                        try simp only [zput_s, zput_n, ti_g, oI_add, oI_sub, oI_mul]
                        first | exact qI_rt (by omega) (by omega) ⟨rfl, by omega⟩ | exact qI_nf ⟨rfl, by omega⟩
                      · simp only [zput_s, zput_n, ti_g, oI_add, oI_sub, oI_mul, zt0, zt1, zt2, zt3, zt4, zt5, zt6, zt7, zt8, zt9, zt10, zt11, zt12, zt13, b180_111]
                        try simp only [zput_s, zput_n, ti_g, oI_add, oI_sub, oI_mul]
                        simp only [zput_s, zput_n, ti_g, oI_add, oI_sub, oI_mul, zt0, zt1, zt2, zt3, zt4, zt5, zt6, zt7, zt8, zt9, zt10, zt11, zt12, zt13, b180_116]
                        try simp only [zput_s, zput_n, ti_g, oI_add, oI_sub, oI_mul]
                        first | refine zok_eq (by omega) (fun c200 => ?_) (fun c200 => ?_) | refine zok_if (fun c200 => ?_) (fun c200 => ?_)
                        · simp only [zput_s, zput_n, ti_g, oI_add, oI_sub, oI_mul, zt0, zt1, zt2, zt3, zt4, zt5, zt6, zt7, zt8, zt9, zt10, zt11, zt12, zt13, b180_143]
                          try simp only [zput_s, zput_n, ti_g, oI_add, oI_sub, oI_mul]
                          simp only [zput_s, zput_n, ti_g, oI_add, oI_sub, oI_mul, zt0, zt1, zt2, zt3, zt4, zt5, zt6, zt7, zt8, zt9, zt10, zt11, zt12, zt13, b180_144]
                          try simp only [zput_s, zput_n, ti_g, oI_add, oI_sub, oI_mul]
                          first | exact qI_rt (by omega) (by omega) ⟨rfl, by omega⟩ | exact qI_nf ⟨rfl, by omega⟩
                        · first | refine zok_eq (by omega) (fun c203 => ?_) (fun c203 => ?_) | refine zok_if (fun c203 => ?_) (fun c203 => ?_)
                          · simp only [zput_s, zput_n, ti_g, oI_add, oI_sub, oI_mul, zt0, zt1, zt2, zt3, zt4, zt5, zt6, zt7, zt8, zt9, zt10, zt11, zt12, zt13, b180_139]
                            try simp only [zput_s, zput_n, ti_g, oI_add, oI_sub, oI_mul]
                            simp only [zput_s, zput_n, ti_g, oI_add, oI_sub, oI_mul, zt0, zt1, zt2, zt3, zt4, zt5, zt6, zt7, zt8, zt9, zt10, zt11, zt12, zt13, b180_144]
                            try simp only [zput_s, zput_n, ti_g, oI_add, oI_sub, oI_mul]
                            first | exact qI_rt (by omega) (by omega) ⟨rfl, by omega⟩ | exact qI_nf ⟨rfl, by omega⟩
                          · refine zok_ck ((q0).1) ?_
                            refine zok_pI (s160 (q0) (by omega) (by omega) (by first | (omega) | ((try simp only [zt0, zt1, zt2, zt3, zt4, zt5, zt6, zt7, zt8, zt9, zt10, zt11, zt12, zt13]); omega)) (G)) (fun y206 u206 p206 => ?_)
                            try simp only [zt0, zt1, zt2, zt3, zt4, zt5, zt6, zt7, zt8, zt9, zt10, zt11, zt12, zt13] at p206
                            simp only [zput_s, zput_n, ti_g, oI_add, oI_sub, oI_mul, zt0, zt1, zt2, zt3, zt4, zt5, zt6, zt7, zt8, zt9, zt10, zt11, zt12, zt13, b180_134]
                            try simp only [zput_s, zput_n, ti_g, oI_add, oI_sub, oI_mul]
                            first | refine zok_ne (by omega) (fun c208 => ?_) (fun c208 => ?_) | refine zok_if (fun c208 => ?_) (fun c208 => ?_)
                            · simp only [zput_s, zput_n, ti_g, oI_add, oI_sub, oI_mul, zt0, zt1, zt2, zt3, zt4, zt5, zt6, zt7, zt8, zt9, zt10, zt11, zt12, zt13, b180_143]
                              try simp only [zput_s, zput_n, ti_g, oI_add, oI_sub, oI_mul]
                              simp only [zput_s, zput_n, ti_g, oI_add, oI_sub, oI_mul, zt0, zt1, zt2, zt3, zt4, zt5, zt6, zt7, zt8, zt9, zt10, zt11, zt12, zt13, b180_144]
                              try simp only [zput_s, zput_n, ti_g, oI_add, oI_sub, oI_mul]
                              first | exact qI_rt (by omega) (by omega) ⟨rfl, by omega⟩ | exact qI_nf ⟨rfl, by omega⟩
                            · simp only [zput_s, zput_n, ti_g, oI_add, oI_sub, oI_mul, zt0, zt1, zt2, zt3, zt4, zt5, zt6, zt7, zt8, zt9, zt10, zt11, zt12, zt13, b180_139]
                              try simp only [zput_s, zput_n, ti_g, oI_add, oI_sub, oI_mul]
                              simp only [zput_s, zput_n, ti_g, oI_add, oI_sub, oI_mul, zt0, zt1, zt2, zt3, zt4, zt5, zt6, zt7, zt8, zt9, zt10, zt11, zt12, zt13, b180_144]
                              try simp only [zput_s, zput_n, ti_g, oI_add, oI_sub, oI_mul]
                              first | exact qI_rt (by omega) (by omega) ⟨rfl, by omega⟩ | exact qI_nf ⟨rfl, by omega⟩
                  · refine zok_ck ((q0).1) ?_
                    refine zok_pI (s160 (q0) (by omega) (by omega) (by first | (omega) | ((try simp only [zt0, zt1, zt2, zt3, zt4, zt5, zt6, zt7, zt8, zt9, zt10, zt11, zt12, zt13]); omega)) (G)) (fun y213 u213 p213 => ?_)
                    try simp only [zt0, zt1, zt2, zt3, zt4, zt5, zt6, zt7, zt8, zt9, zt10, zt11, zt12, zt13] at p213
                    simp only [zput_s, zput_n, ti_g, oI_add, oI_sub, oI_mul, zt0, zt1, zt2, zt3, zt4, zt5, zt6, zt7, zt8, zt9, zt10, zt11, zt12, zt13, b180_91]
                    try simp only [zput_s, zput_n, ti_g, oI_add, oI_sub, oI_mul]
                    first | refine zok_ne (by omega) (fun c215 => ?_) (fun c215 => ?_) | refine zok_if (fun c215 => ?_) (fun c215 => ?_)
                    · simp only [zput_s, zput_n, ti_g, oI_add, oI_sub, oI_mul, zt0, zt1, zt2, zt3, zt4, zt5, zt6, zt7, zt8, zt9, zt10, zt11, zt12, zt13, b180_115]
                      try simp only [zput_s, zput_n, ti_g, oI_add, oI_sub, oI_mul]
                      simp only [zput_s, zput_n, ti_g, oI_add, oI_sub, oI_mul, zt0, zt1, zt2, zt3, zt4, zt5, zt6, zt7, zt8, zt9, zt10, zt11, zt12, zt13, b180_116]
                      try simp only [zput_s, zput_n, ti_g, oI_add, oI_sub, oI_mul]
                      simp only [zput_s, zput_n, ti_g, oI_add, oI_sub, oI_mul, zt0, zt1, zt2, zt3, zt4, zt5, zt6, zt7, zt8, zt9, zt10, zt11, zt12, zt13, b180_143]
                      try simp only [zput_s, zput_n, ti_g, oI_add, oI_sub, oI_mul]
                      simp only [zput_s, zput_n, ti_g, oI_add, oI_sub, oI_mul, zt0, zt1, zt2, zt3, zt4, zt5, zt6, zt7, zt8, zt9, zt10, zt11, zt12, zt13, b180_144]
                      try simp only [zput_s, zput_n, ti_g, oI_add, oI_sub, oI_mul]
                      first | exact qI_rt (by omega) (by omega) ⟨rfl, by omega⟩ | exact qI_nf ⟨rfl, by omega⟩
                    · simp only [zput_s, zput_n, ti_g, oI_add, oI_sub, oI_mul, zt0, zt1, zt2, zt3, zt4, zt5, zt6, zt7, zt8, zt9, zt10, zt11, zt12, zt13, b180_95]
                      try simp only [zput_s, zput_n, ti_g, oI_add, oI_sub, oI_mul]
                      first | refine zok_eq (by omega) (fun c221 => ?_) (fun c221 => ?_) | refine zok_if (fun c221 => ?_) (fun c221 => ?_)
                      · simp only [zput_s, zput_n, ti_g, oI_add, oI_sub, oI_mul, zt0, zt1, zt2, zt3, zt4, zt5, zt6, zt7, zt8, zt9, zt10, zt11, zt12, zt13, b180_111]
                        try simp only [zput_s, zput_n, ti_g, oI_add, oI_sub, oI_mul]
                        simp only [zput_s, zput_n, ti_g, oI_add, oI_sub, oI_mul, zt0, zt1, zt2, zt3, zt4, zt5, zt6, zt7, zt8, zt9, zt10, zt11, zt12, zt13, b180_116]
                        try simp only [zput_s, zput_n, ti_g, oI_add, oI_sub, oI_mul]
                        first | refine zok_eq (by omega) (fun c224 => ?_) (fun c224 => ?_) | refine zok_if (fun c224 => ?_) (fun c224 => ?_)
                        · simp only [zput_s, zput_n, ti_g, oI_add, oI_sub, oI_mul, zt0, zt1, zt2, zt3, zt4, zt5, zt6, zt7, zt8, zt9, zt10, zt11, zt12, zt13, b180_143]
                          try simp only [zput_s, zput_n, ti_g, oI_add, oI_sub, oI_mul]
                          simp only [zput_s, zput_n, ti_g, oI_add, oI_sub, oI_mul, zt0, zt1, zt2, zt3, zt4, zt5, zt6, zt7, zt8, zt9, zt10, zt11, zt12, zt13, b180_144]
                          try simp only [zput_s, zput_n, ti_g, oI_add, oI_sub, oI_mul]
                          first | exact qI_rt (by omega) (by omega) ⟨rfl, by omega⟩ | exact qI_nf ⟨rfl, by omega⟩
                        · first | refine zok_eq (by omega) (fun c227 => ?_) (fun c227 => ?_) | refine zok_if (fun c227 => ?_) (fun c227 => ?_)
                          · simp only [zput_s, zput_n, ti_g, oI_add, oI_sub, oI_mul, zt0, zt1, zt2, zt3, zt4, zt5, zt6, zt7, zt8, zt9, zt10, zt11, zt12, zt13, b180_139]
                            try simp only [zput_s, zput_n, ti_g, oI_add, oI_sub, oI_mul]
                            simp only [zput_s, zput_n, ti_g, oI_add, oI_sub, oI_mul, zt0, zt1, zt2, zt3, zt4, zt5, zt6, zt7, zt8, zt9, zt10, zt11, zt12, zt13, b180_144]
                            try simp only [zput_s, zput_n, ti_g, oI_add, oI_sub, oI_mul]
                            first | exact qI_rt (by omega) (by omega) ⟨rfl, by omega⟩ | exact qI_nf ⟨rfl, by omega⟩
                          · refine zok_ck ((q0).1) ?_
                            refine zok_pI (s160 (q0) (by omega) (by omega) (by first | (omega) | ((try simp only [zt0, zt1, zt2, zt3, zt4, zt5, zt6, zt7, zt8, zt9, zt10, zt11, zt12, zt13]); omega)) (G)) (fun y230 u230 p230 => ?_)
                            try simp only [zt0, zt1, zt2, zt3, zt4, zt5, zt6, zt7, zt8, zt9, zt10, zt11, zt12, zt13] at p230
                            simp only [zput_s, zput_n, ti_g, oI_add, oI_sub, oI_mul, zt0, zt1, zt2, zt3, zt4, zt5, zt6, zt7, zt8, zt9, zt10, zt11, zt12, zt13, b180_134]
                            try simp only [zput_s, zput_n, ti_g, oI_add, oI_sub, oI_mul]
                            first | refine zok_ne (by omega) (fun c232 => ?_) (fun c232 => ?_) | refine zok_if (fun c232 => ?_) (fun c232 => ?_)
                            · simp only [zput_s, zput_n, ti_g, oI_add, oI_sub, oI_mul, zt0, zt1, zt2, zt3, zt4, zt5, zt6, zt7, zt8, zt9, zt10, zt11, zt12, zt13, b180_143]
                              try simp only [zput_s, zput_n, ti_g, oI_add, oI_sub, oI_mul]
                              simp only [zput_s, zput_n, ti_g, oI_add, oI_sub, oI_mul, zt0, zt1, zt2, zt3, zt4, zt5, zt6, zt7, zt8, zt9, zt10, zt11, zt12, zt13, b180_144]
                              try simp only [zput_s, zput_n, ti_g, oI_add, oI_sub, oI_mul]
                              first | exact qI_rt (by omega) (by omega) ⟨rfl, by omega⟩ | exact qI_nf ⟨rfl, by omega⟩
                            · simp only [zput_s, zput_n, ti_g, oI_add, oI_sub, oI_mul, zt0, zt1, zt2, zt3, zt4, zt5, zt6, zt7, zt8, zt9, zt10, zt11, zt12, zt13, b180_139]
                              try simp only [zput_s, zput_n, ti_g, oI_add, oI_sub, oI_mul]
                              simp only [zput_s, zput_n, ti_g, oI_add, oI_sub, oI_mul, zt0, zt1, zt2, zt3, zt4, zt5, zt6, zt7, zt8, zt9, zt10, zt11, zt12, zt13, b180_144]
                              try simp only [zput_s, zput_n, ti_g, oI_add, oI_sub, oI_mul]
                              first | exact qI_rt (by omega) (by omega) ⟨rfl, by omega⟩ | exact qI_nf ⟨rfl, by omega⟩
                      · refine zok_ck ((q0).1) ?_
                        refine zok_pI (s160 (q0) (by omega) (by omega) (by first | (omega) | ((try simp only [zt0, zt1, zt2, zt3, zt4, zt5, zt6, zt7, zt8, zt9, zt10, zt11, zt12, zt13]); omega)) (G)) (fun y237 u237 p237 => ?_)
                        try simp only [zt0, zt1, zt2, zt3, zt4, zt5, zt6, zt7, zt8, zt9, zt10, zt11, zt12, zt13] at p237
                        simp only [zput_s, zput_n, ti_g, oI_add, oI_sub, oI_mul, zt0, zt1, zt2, zt3, zt4, zt5, zt6, zt7, zt8, zt9, zt10, zt11, zt12, zt13, b180_106]
                        try simp only [zput_s, zput_n, ti_g, oI_add, oI_sub, oI_mul]
                        first | refine zok_ne (by omega) (fun c239 => ?_) (fun c239 => ?_) | refine zok_if (fun c239 => ?_) (fun c239 => ?_)
                        · simp only [zput_s, zput_n, ti_g, oI_add, oI_sub, oI_mul, zt0, zt1, zt2, zt3, zt4, zt5, zt6, zt7, zt8, zt9, zt10, zt11, zt12, zt13, b180_115]
                          try simp only [zput_s, zput_n, ti_g, oI_add, oI_sub, oI_mul]
                          simp only [zput_s, zput_n, ti_g, oI_add, oI_sub, oI_mul, zt0, zt1, zt2, zt3, zt4, zt5, zt6, zt7, zt8, zt9, zt10, zt11, zt12, zt13, b180_116]
                          try simp only [zput_s, zput_n, ti_g, oI_add, oI_sub, oI_mul]
                          simp only [zput_s, zput_n, ti_g, oI_add, oI_sub, oI_mul, zt0, zt1, zt2, zt3, zt4, zt5, zt6, zt7, zt8, zt9, zt10, zt11, zt12, zt13, b180_143]
                          try simp only [zput_s, zput_n, ti_g, oI_add, oI_sub, oI_mul]
                          simp only [zput_s, zput_n, ti_g, oI_add, oI_sub, oI_mul, zt0, zt1, zt2, zt3, zt4, zt5, zt6, zt7, zt8, zt9, zt10, zt11, zt12, zt13, b180_144]
                          try simp only [zput_s, zput_n, ti_g, oI_add, oI_sub, oI_mul]
                          first | exact qI_rt (by omega) (by omega) ⟨rfl, by omega⟩ | exact qI_nf ⟨rfl, by omega⟩
                        · simp only [zput_s, zput_n, ti_g, oI_add, oI_sub, oI_mul, zt0, zt1, zt2, zt3, zt4, zt5, zt6, zt7, zt8, zt9, zt10, zt11, zt12, zt13, b180_111]
                          try simp only [zput_s, zput_n, ti_g, oI_add, oI_sub, oI_mul]
                          simp only [zput_s, zput_n, ti_g, oI_add, oI_sub, oI_mul, zt0, zt1, zt2, zt3, zt4, zt5, zt6, zt7, zt8, zt9, zt10, zt11, zt12, zt13, b180_116]
                          try simp only [zput_s, zput_n, ti_g, oI_add, oI_sub, oI_mul]
                          first | refine zok_eq (by omega) (fun c246 => ?_) (fun c246 => ?_) | refine zok_if (fun c246 => ?_) (fun c246 => ?_)
                          · simp only [zput_s, zput_n, ti_g, oI_add, oI_sub, oI_mul, zt0, zt1, zt2, zt3, zt4, zt5, zt6, zt7, zt8, zt9, zt10, zt11, zt12, zt13, b180_143]
                            try simp only [zput_s, zput_n, ti_g, oI_add, oI_sub, oI_mul]
                            simp only [zput_s, zput_n, ti_g, oI_add, oI_sub, oI_mul, zt0, zt1, zt2, zt3, zt4, zt5, zt6, zt7, zt8, zt9, zt10, zt11, zt12, zt13, b180_144]
                            try simp only [zput_s, zput_n, ti_g, oI_add, oI_sub, oI_mul]
                            first | exact qI_rt (by omega) (by omega) ⟨rfl, by omega⟩ | exact qI_nf ⟨rfl, by omega⟩
                          · first | refine zok_eq (by omega) (fun c249 => ?_) (fun c249 => ?_) | refine zok_if (fun c249 => ?_) (fun c249 => ?_)
                            · simp only [zput_s, zput_n, ti_g, oI_add, oI_sub, oI_mul, zt0, zt1, zt2, zt3, zt4, zt5, zt6, zt7, zt8, zt9, zt10, zt11, zt12, zt13, b180_139]
                              try simp only [zput_s, zput_n, ti_g, oI_add, oI_sub, oI_mul]
                              simp only [zput_s, zput_n, ti_g, oI_add, oI_sub, oI_mul, zt0, zt1, zt2, zt3, zt4, zt5, zt6, zt7, zt8, zt9, zt10, zt11, zt12, zt13, b180_144]
                              try simp only [zput_s, zput_n, ti_g, oI_add, oI_sub, oI_mul]
                              first | exact qI_rt (by omega) (by omega) ⟨rfl, by omega⟩ | exact qI_nf ⟨rfl, by omega⟩
                            · refine zok_ck ((q0).1) ?_
                              refine zok_pI (s160 (q0) (by omega) (by omega) (by first | (omega) | ((try simp only [zt0, zt1, zt2, zt3, zt4, zt5, zt6, zt7, zt8, zt9, zt10, zt11, zt12, zt13]); omega)) (G)) (fun y252 u252 p252 => ?_)
                              try simp only [zt0, zt1, zt2, zt3, zt4, zt5, zt6, zt7, zt8, zt9, zt10, zt11, zt12, zt13] at p252
                              simp only [zput_s, zput_n, ti_g, oI_add, oI_sub, oI_mul, zt0, zt1, zt2, zt3, zt4, zt5, zt6, zt7, zt8, zt9, zt10, zt11, zt12, zt13, b180_134]
                              try simp only [zput_s, zput_n, ti_g, oI_add, oI_sub, oI_mul]
                              first | refine zok_ne (by omega) (fun c254 => ?_) (fun c254 => ?_) | refine zok_if (fun c254 => ?_) (fun c254 => ?_)
                              · simp only [zput_s, zput_n, ti_g, oI_add, oI_sub, oI_mul, zt0, zt1, zt2, zt3, zt4, zt5, zt6, zt7, zt8, zt9, zt10, zt11, zt12, zt13, b180_143]
                                try simp only [zput_s, zput_n, ti_g, oI_add, oI_sub, oI_mul]
                                simp only [zput_s, zput_n, ti_g, oI_add, oI_sub, oI_mul, zt0, zt1, zt2, zt3, zt4, zt5, zt6, zt7, zt8, zt9, zt10, zt11, zt12, zt13, b180_144]
                                try simp only [zput_s, zput_n, ti_g, oI_add, oI_sub, oI_mul]
                                first | exact qI_rt (by omega) (by omega) ⟨rfl, by omega⟩ | exact qI_nf ⟨rfl, by omega⟩
                              · simp only [zput_s, zput_n, ti_g, oI_add, oI_sub, oI_mul, zt0, zt1, zt2, zt3, zt4, zt5, zt6, zt7, zt8, zt9, zt10, zt11, zt12, zt13, b180_139]
                                try simp only [zput_s, zput_n, ti_g, oI_add, oI_sub, oI_mul]
                                simp only [zput_s, zput_n, ti_g, oI_add, oI_sub, oI_mul, zt0, zt1, zt2, zt3, zt4, zt5, zt6, zt7, zt8, zt9, zt10, zt11, zt12, zt13, b180_144]
                                try simp only [zput_s, zput_n, ti_g, oI_add, oI_sub, oI_mul]
                                first | exact qI_rt (by omega) (by omega) ⟨rfl, by omega⟩ | exact qI_nf ⟨rfl, by omega⟩
    · simp only [zput_s, zput_n, ti_g, oI_add, oI_sub, oI_mul, zt0, zt1, zt2, zt3, zt4, zt5, zt6, zt7, zt8, zt9, zt10, zt11, zt12, zt13, b180_27]
      try simp only [zput_s, zput_n, ti_g, oI_add, oI_sub, oI_mul]
      refine zok_ck ((q0).1) ?_
      refine zok_ck ⟨Or.inr (by rw [(q0).2.2.2.2.2.2.2.2.2.2.2.1]), zin_o (by omega) (by omega) (by omega)⟩ ?_
      try rw [nN_o (a := 0) (by omega) (by omega)]
      try rw [show (0 : Int).toNat = 0 from rfl]
      try simp only [zput_s, zput_n, ti_g, oI_add, oI_sub, oI_mul, zt0, zt1, zt2, zt3, zt4, zt5, zt6, zt7, zt8, zt9, zt10, zt11, zt12, zt13]
      have gl260 := And.intro (tg_lo t (sr sh r0 11) (0)) (tg_hi t (sr sh r0 11) (0))
      have gm260 := (G).2.2.2.1 (0) (by omega)
      try simp only [zt0, zt1, zt2, zt3, zt4, zt5, zt6, zt7, zt8, zt9, zt10, zt11, zt12, zt13] at gl260
      try simp only [zt0, zt1, zt2, zt3, zt4, zt5, zt6, zt7, zt8, zt9, zt10, zt11, zt12, zt13] at gm260
      first | refine zok_eq (by omega) (fun c261 => ?_) (fun c261 => ?_) | refine zok_if (fun c261 => ?_) (fun c261 => ?_)
      · simp only [zput_s, zput_n, ti_g, oI_add, oI_sub, oI_mul, zt0, zt1, zt2, zt3, zt4, zt5, zt6, zt7, zt8, zt9, zt10, zt11, zt12, zt13, b180_73]
        try simp only [zput_s, zput_n, ti_g, oI_add, oI_sub, oI_mul]
        simp only [zput_s, zput_n, ti_g, oI_add, oI_sub, oI_mul, zt0, zt1, zt2, zt3, zt4, zt5, zt6, zt7, zt8, zt9, zt10, zt11, zt12, zt13, b180_74]
        try simp only [zput_s, zput_n, ti_g, oI_add, oI_sub, oI_mul]
        simp only [zput_s, zput_n, ti_g, oI_add, oI_sub, oI_mul, zt0, zt1, zt2, zt3, zt4, zt5, zt6, zt7, zt8, zt9, zt10, zt11, zt12, zt13, b180_115]
        try simp only [zput_s, zput_n, ti_g, oI_add, oI_sub, oI_mul]
        simp only [zput_s, zput_n, ti_g, oI_add, oI_sub, oI_mul, zt0, zt1, zt2, zt3, zt4, zt5, zt6, zt7, zt8, zt9, zt10, zt11, zt12, zt13, b180_116]
        try simp only [zput_s, zput_n, ti_g, oI_add, oI_sub, oI_mul]
        simp only [zput_s, zput_n, ti_g, oI_add, oI_sub, oI_mul, zt0, zt1, zt2, zt3, zt4, zt5, zt6, zt7, zt8, zt9, zt10, zt11, zt12, zt13, b180_143]
        try simp only [zput_s, zput_n, ti_g, oI_add, oI_sub, oI_mul]
        simp only [zput_s, zput_n, ti_g, oI_add, oI_sub, oI_mul, zt0, zt1, zt2, zt3, zt4, zt5, zt6, zt7, zt8, zt9, zt10, zt11, zt12, zt13, b180_144]
        try simp only [zput_s, zput_n, ti_g, oI_add, oI_sub, oI_mul]
        first | exact qI_rt (by omega) (by omega) ⟨rfl, by omega⟩ | exact qI_nf ⟨rfl, by omega⟩
      · refine zok_ck ((q0).1) ?_
        refine zok_ck ⟨(by rw [(q0).2.2.2.2.2.2.2.2.2.2.1]), zin_o (by omega) (by omega) (by omega)⟩ ?_
        try rw [nN_o (a := 0) (by omega) (by omega)]
        try rw [show (0 : Int).toNat = 0 from rfl]
        try simp only [zput_s, zput_n, ti_g, oI_add, oI_sub, oI_mul, zt0, zt1, zt2, zt3, zt4, zt5, zt6, zt7, zt8, zt9, zt10, zt11, zt12, zt13]
        have gl268 := And.intro (tg_lo t (sr sh r0 10) (0)) (tg_hi t (sr sh r0 10) (0))
        have gm268 := (G).2.2.1 (0) (by omega)
        try simp only [zt0, zt1, zt2, zt3, zt4, zt5, zt6, zt7, zt8, zt9, zt10, zt11, zt12, zt13] at gl268
        try simp only [zt0, zt1, zt2, zt3, zt4, zt5, zt6, zt7, zt8, zt9, zt10, zt11, zt12, zt13] at gm268
        first | refine zok_ne (by omega) (fun c269 => ?_) (fun c269 => ?_) | refine zok_if (fun c269 => ?_) (fun c269 => ?_)
        · simp only [zput_s, zput_n, ti_g, oI_add, oI_sub, oI_mul, zt0, zt1, zt2, zt3, zt4, zt5, zt6, zt7, zt8, zt9, zt10, zt11, zt12, zt13, b180_73]
          try simp only [zput_s, zput_n, ti_g, oI_add, oI_sub, oI_mul]
          simp only [zput_s, zput_n, ti_g, oI_add, oI_sub, oI_mul, zt0, zt1, zt2, zt3, zt4, zt5, zt6, zt7, zt8, zt9, zt10, zt11, zt12, zt13, b180_74]
          try simp only [zput_s, zput_n, ti_g, oI_add, oI_sub, oI_mul]
          simp only [zput_s, zput_n, ti_g, oI_add, oI_sub, oI_mul, zt0, zt1, zt2, zt3, zt4, zt5, zt6, zt7, zt8, zt9, zt10, zt11, zt12, zt13, b180_115]
          try simp only [zput_s, zput_n, ti_g, oI_add, oI_sub, oI_mul]
          simp only [zput_s, zput_n, ti_g, oI_add, oI_sub, oI_mul, zt0, zt1, zt2, zt3, zt4, zt5, zt6, zt7, zt8, zt9, zt10, zt11, zt12, zt13, b180_116]
          try simp only [zput_s, zput_n, ti_g, oI_add, oI_sub, oI_mul]
          simp only [zput_s, zput_n, ti_g, oI_add, oI_sub, oI_mul, zt0, zt1, zt2, zt3, zt4, zt5, zt6, zt7, zt8, zt9, zt10, zt11, zt12, zt13, b180_143]
          try simp only [zput_s, zput_n, ti_g, oI_add, oI_sub, oI_mul]
          simp only [zput_s, zput_n, ti_g, oI_add, oI_sub, oI_mul, zt0, zt1, zt2, zt3, zt4, zt5, zt6, zt7, zt8, zt9, zt10, zt11, zt12, zt13, b180_144]
          try simp only [zput_s, zput_n, ti_g, oI_add, oI_sub, oI_mul]
          first | exact qI_rt (by omega) (by omega) ⟨rfl, by omega⟩ | exact qI_nf ⟨rfl, by omega⟩
        · refine zok_ck ((q0).1) ?_
          refine zok_pI (s160 (q0) (by omega) (by omega) (by first | (omega) | ((try simp only [zt0, zt1, zt2, zt3, zt4, zt5, zt6, zt7, zt8, zt9, zt10, zt11, zt12, zt13]); omega)) (G)) (fun y276 u276 p276 => ?_)
          try simp only [zt0, zt1, zt2, zt3, zt4, zt5, zt6, zt7, zt8, zt9, zt10, zt11, zt12, zt13] at p276
          simp only [zput_s, zput_n, ti_g, oI_add, oI_sub, oI_mul, zt0, zt1, zt2, zt3, zt4, zt5, zt6, zt7, zt8, zt9, zt10, zt11, zt12, zt13, b180_55]
          try simp only [zput_s, zput_n, ti_g, oI_add, oI_sub, oI_mul]
          first | refine zok_ne (by omega) (fun c278 => ?_) (fun c278 => ?_) | refine zok_if (fun c278 => ?_) (fun c278 => ?_)
          · simp only [zput_s, zput_n, ti_g, oI_add, oI_sub, oI_mul, zt0, zt1, zt2, zt3, zt4, zt5, zt6, zt7, zt8, zt9, zt10, zt11, zt12, zt13, b180_73]
            try simp only [zput_s, zput_n, ti_g, oI_add, oI_sub, oI_mul]
            simp only [zput_s, zput_n, ti_g, oI_add, oI_sub, oI_mul, zt0, zt1, zt2, zt3, zt4, zt5, zt6, zt7, zt8, zt9, zt10, zt11, zt12, zt13, b180_74]
            try simp only [zput_s, zput_n, ti_g, oI_add, oI_sub, oI_mul]
            simp only [zput_s, zput_n, ti_g, oI_add, oI_sub, oI_mul, zt0, zt1, zt2, zt3, zt4, zt5, zt6, zt7, zt8, zt9, zt10, zt11, zt12, zt13, b180_115]
            try simp only [zput_s, zput_n, ti_g, oI_add, oI_sub, oI_mul]
            simp only [zput_s, zput_n, ti_g, oI_add, oI_sub, oI_mul, zt0, zt1, zt2, zt3, zt4, zt5, zt6, zt7, zt8, zt9, zt10, zt11, zt12, zt13, b180_116]
            try simp only [zput_s, zput_n, ti_g, oI_add, oI_sub, oI_mul]
            simp only [zput_s, zput_n, ti_g, oI_add, oI_sub, oI_mul, zt0, zt1, zt2, zt3, zt4, zt5, zt6, zt7, zt8, zt9, zt10, zt11, zt12, zt13, b180_143]
            try simp only [zput_s, zput_n, ti_g, oI_add, oI_sub, oI_mul]
            simp only [zput_s, zput_n, ti_g, oI_add, oI_sub, oI_mul, zt0, zt1, zt2, zt3, zt4, zt5, zt6, zt7, zt8, zt9, zt10, zt11, zt12, zt13, b180_144]
            try simp only [zput_s, zput_n, ti_g, oI_add, oI_sub, oI_mul]
            first | exact qI_rt (by omega) (by omega) ⟨rfl, by omega⟩ | exact qI_nf ⟨rfl, by omega⟩
          · refine zok_ck ((q0).1) ?_
            refine zok_pI (s160 (q0) (by omega) (by omega) (by first | (omega) | ((try simp only [zt0, zt1, zt2, zt3, zt4, zt5, zt6, zt7, zt8, zt9, zt10, zt11, zt12, zt13]); omega)) (G)) (fun y285 u285 p285 => ?_)
            try simp only [zt0, zt1, zt2, zt3, zt4, zt5, zt6, zt7, zt8, zt9, zt10, zt11, zt12, zt13] at p285
            simp only [zput_s, zput_n, ti_g, oI_add, oI_sub, oI_mul, zt0, zt1, zt2, zt3, zt4, zt5, zt6, zt7, zt8, zt9, zt10, zt11, zt12, zt13, b180_65]
            try simp only [zput_s, zput_n, ti_g, oI_add, oI_sub, oI_mul]
            first | refine zok_ne (by omega) (fun c287 => ?_) (fun c287 => ?_) | refine zok_if (fun c287 => ?_) (fun c287 => ?_)
            · simp only [zput_s, zput_n, ti_g, oI_add, oI_sub, oI_mul, zt0, zt1, zt2, zt3, zt4, zt5, zt6, zt7, zt8, zt9, zt10, zt11, zt12, zt13, b180_73]
              try simp only [zput_s, zput_n, ti_g, oI_add, oI_sub, oI_mul]
              simp only [zput_s, zput_n, ti_g, oI_add, oI_sub, oI_mul, zt0, zt1, zt2, zt3, zt4, zt5, zt6, zt7, zt8, zt9, zt10, zt11, zt12, zt13, b180_74]
              try simp only [zput_s, zput_n, ti_g, oI_add, oI_sub, oI_mul]
              simp only [zput_s, zput_n, ti_g, oI_add, oI_sub, oI_mul, zt0, zt1, zt2, zt3, zt4, zt5, zt6, zt7, zt8, zt9, zt10, zt11, zt12, zt13, b180_115]
              try simp only [zput_s, zput_n, ti_g, oI_add, oI_sub, oI_mul]
              simp only [zput_s, zput_n, ti_g, oI_add, oI_sub, oI_mul, zt0, zt1, zt2, zt3, zt4, zt5, zt6, zt7, zt8, zt9, zt10, zt11, zt12, zt13, b180_116]
              try simp only [zput_s, zput_n, ti_g, oI_add, oI_sub, oI_mul]
              simp only [zput_s, zput_n, ti_g, oI_add, oI_sub, oI_mul, zt0, zt1, zt2, zt3, zt4, zt5, zt6, zt7, zt8, zt9, zt10, zt11, zt12, zt13, b180_143]
              try simp only [zput_s, zput_n, ti_g, oI_add, oI_sub, oI_mul]
              simp only [zput_s, zput_n, ti_g, oI_add, oI_sub, oI_mul, zt0, zt1, zt2, zt3, zt4, zt5, zt6, zt7, zt8, zt9, zt10, zt11, zt12, zt13, b180_144]
              try simp only [zput_s, zput_n, ti_g, oI_add, oI_sub, oI_mul]
              first | exact qI_rt (by omega) (by omega) ⟨rfl, by omega⟩ | exact qI_nf ⟨rfl, by omega⟩
            · simp only [zput_s, zput_n, ti_g, oI_add, oI_sub, oI_mul, zt0, zt1, zt2, zt3, zt4, zt5, zt6, zt7, zt8, zt9, zt10, zt11, zt12, zt13, b180_74]
              try simp only [zput_s, zput_n, ti_g, oI_add, oI_sub, oI_mul]
              first | refine zok_eq (by omega) (fun c295 => ?_) (fun c295 => ?_) | refine zok_if (fun c295 => ?_) (fun c295 => ?_)
              · simp only [zput_s, zput_n, ti_g, oI_add, oI_sub, oI_mul, zt0, zt1, zt2, zt3, zt4, zt5, zt6, zt7, zt8, zt9, zt10, zt11, zt12, zt13, b180_115]
                try simp only [zput_s, zput_n, ti_g, oI_add, oI_sub, oI_mul]
                simp only [zput_s, zput_n, ti_g, oI_add, oI_sub, oI_mul, zt0, zt1, zt2, zt3, zt4, zt5, zt6, zt7, zt8, zt9, zt10, zt11, zt12, zt13, b180_116]
                try simp only [zput_s, zput_n, ti_g, oI_add, oI_sub, oI_mul]
                simp only [zput_s, zput_n, ti_g, oI_add, oI_sub, oI_mul, zt0, zt1, zt2, zt3, zt4, zt5, zt6, zt7, zt8, zt9, zt10, zt11, zt12, zt13, b180_143]
                try simp only [zput_s, zput_n, ti_g, oI_add, oI_sub, oI_mul]
                simp only [zput_s, zput_n, ti_g, oI_add, oI_sub, oI_mul, zt0, zt1, zt2, zt3, zt4, zt5, zt6, zt7, zt8, zt9, zt10, zt11, zt12, zt13, b180_144]
                try simp only [zput_s, zput_n, ti_g, oI_add, oI_sub, oI_mul]
                first | exact qI_rt (by omega) (by omega) ⟨rfl, by omega⟩ | exact qI_nf ⟨rfl, by omega⟩
              · first | refine zok_eq (by omega) (fun c300 => ?_) (fun c300 => ?_) | refine zok_if (fun c300 => ?_) (fun c300 => ?_)
                · simp only [zput_s, zput_n, ti_g, oI_add, oI_sub, oI_mul, zt0, zt1, zt2, zt3, zt4, zt5, zt6, zt7, zt8, zt9, zt10, zt11, zt12, zt13, b180_95]
                  try simp only [zput_s, zput_n, ti_g, oI_add, oI_sub, oI_mul]
                  first | refine zok_eq (by omega) (fun c302 => ?_) (fun c302 => ?_) | refine zok_if (fun c302 => ?_) (fun c302 => ?_)
                  · simp only [zput_s, zput_n, ti_g, oI_add, oI_sub, oI_mul, zt0, zt1, zt2, zt3, zt4, zt5, zt6, zt7, zt8, zt9, zt10, zt11, zt12, zt13, b180_111]
                    try simp only [zput_s, zput_n, ti_g, oI_add, oI_sub, oI_mul]
                    simp only [zput_s, zput_n, ti_g, oI_add, oI_sub, oI_mul, zt0, zt1, zt2, zt3, zt4, zt5, zt6, zt7, zt8, zt9, zt10, zt11, zt12, zt13, b180_116]
                    try simp only [zput_s, zput_n, ti_g, oI_add, oI_sub, oI_mul]
                    first | refine zok_eq (by omega) (fun c305 => ?_) (fun c305 => ?_) | refine zok_if (fun c305 => ?_) (fun c305 => ?_)
                    · simp only [zput_s, zput_n, ti_g, oI_add, oI_sub, oI_mul, zt0, zt1, zt2, zt3, zt4, zt5, zt6, zt7, zt8, zt9, zt10, zt11, zt12, zt13, b180_143]
                      try simp only [zput_s, zput_n, ti_g, oI_add, oI_sub, oI_mul]
                      simp only [zput_s, zput_n, ti_g, oI_add, oI_sub, oI_mul, zt0, zt1, zt2, zt3, zt4, zt5, zt6, zt7, zt8, zt9, zt10, zt11, zt12, zt13, b180_144]
                      try simp only [zput_s, zput_n, ti_g, oI_add, oI_sub, oI_mul]
                      first | exact qI_rt (by omega) (by omega) ⟨rfl, by omega⟩ | exact qI_nf ⟨rfl, by omega⟩
                    · first | refine zok_eq (by omega) (fun c308 => ?_) (fun c308 => ?_) | refine zok_if (fun c308 => ?_) (fun c308 => ?_)
                      · simp only [zput_s, zput_n, ti_g, oI_add, oI_sub, oI_mul, zt0, zt1, zt2, zt3, zt4, zt5, zt6, zt7, zt8, zt9, zt10, zt11, zt12, zt13, b180_139]
                        try simp only [zput_s, zput_n, ti_g, oI_add, oI_sub, oI_mul]
                        simp only [zput_s, zput_n, ti_g, oI_add, oI_sub, oI_mul, zt0, zt1, zt2, zt3, zt4, zt5, zt6, zt7, zt8, zt9, zt10, zt11, zt12, zt13, b180_144]
                        try simp only [zput_s, zput_n, ti_g, oI_add, oI_sub, oI_mul]
                        first | exact qI_rt (by omega) (by omega) ⟨rfl, by omega⟩ | exact qI_nf ⟨rfl, by omega⟩
                      · refine zok_ck ((q0).1) ?_
                        refine zok_pI (s160 (q0) (by omega) (by omega) (by first | (omega) | ((try simp only [zt0, zt1, zt2, zt3, zt4, zt5, zt6, zt7, zt8, zt9, zt10, zt11, zt12, zt13]); omega)) (G)) (fun y311 u311 p311 => ?_)
                        try simp only [zt0, zt1, zt2, zt3, zt4, zt5, zt6, zt7, zt8, zt9, zt10, zt11, zt12, zt13] at p311
                        simp only [zput_s, zput_n, ti_g, oI_add, oI_sub, oI_mul, zt0, zt1, zt2, zt3, zt4, zt5, zt6, zt7, zt8, zt9, zt10, zt11, zt12, zt13, b180_134]
                        try simp only [zput_s, zput_n, ti_g, oI_add, oI_sub, oI_mul]
                        first | refine zok_ne (by omega) (fun c313 => ?_) (fun c313 => ?_) | refine zok_if (fun c313 => ?_) (fun c313 => ?_)
                        · simp only [zput_s, zput_n, ti_g, oI_add, oI_sub, oI_mul, zt0, zt1, zt2, zt3, zt4, zt5, zt6, zt7, zt8, zt9, zt10, zt11, zt12, zt13, b180_143]
                          try simp only [zput_s, zput_n, ti_g, oI_add, oI_sub, oI_mul]
                          simp only [zput_s, zput_n, ti_g, oI_add, oI_sub, oI_mul, zt0, zt1, zt2, zt3, zt4, zt5, zt6, zt7, zt8, zt9, zt10, zt11, zt12, zt13, b180_144]
                          try simp only [zput_s, zput_n, ti_g, oI_add, oI_sub, oI_mul]
                          first | exact qI_rt (by omega) (by omega) ⟨rfl, by omega⟩ | exact qI_nf ⟨rfl, by omega⟩
                        · simp only [zput_s, zput_n, ti_g, oI_add, oI_sub, oI_mul, zt0, zt1, zt2, zt3, zt4, zt5, zt6, zt7, zt8, zt9, zt10, zt11, zt12, zt13, b180_139]
                          try simp only [zput_s, zput_n, ti_g, oI_add, oI_sub, oI_mul]
                          simp only [zput_s, zput_n, ti_g, oI_add, oI_sub, oI_mul, zt0, zt1, zt2, zt3, zt4, zt5, zt6, zt7, zt8, zt9, zt10, zt11, zt12, zt13, b180_144]
                          try simp only [zput_s, zput_n, ti_g, oI_add, oI_sub, oI_mul]
                          first | exact qI_rt (by omega) (by omega) ⟨rfl, by omega⟩ | exact qI_nf ⟨rfl, by omega⟩
                  · refine zok_ck ((q0).1) ?_
                    refine zok_pI (s160 (q0) (by omega) (by omega) (by first | (omega) | ((try simp only [zt0, zt1, zt2, zt3, zt4, zt5, zt6, zt7, zt8, zt9, zt10, zt11, zt12, zt13]); omega)) (G)) (fun y318 u318 p318 => ?_)
                    try simp only [zt0, zt1, zt2, zt3, zt4, zt5, zt6, zt7, zt8, zt9, zt10, zt11, zt12, zt13] at p318
                    simp only [zput_s, zput_n, ti_g, oI_add, oI_sub, oI_mul, zt0, zt1, zt2, zt3, zt4, zt5, zt6, zt7, zt8, zt9, zt10, zt11, zt12, zt13, b180_106]
                    try simp only [zput_s, zput_n, ti_g, oI_add, oI_sub, oI_mul]
                    first | refine zok_ne (by omega) (fun c320 => ?_) (fun c320 => ?_) | refine zok_if (fun c320 => ?_) (fun c320 => ?_)
                    · simp only [zput_s, zput_n, ti_g, oI_add, oI_sub, oI_mul, zt0, zt1, zt2, zt3, zt4, zt5, zt6, zt7, zt8, zt9, zt10, zt11, zt12, zt13, b180_115]
                      try simp only [zput_s, zput_n, ti_g, oI_add, oI_sub, oI_mul]
                      simp only [zput_s, zput_n, ti_g, oI_add, oI_sub, oI_mul, zt0, zt1, zt2, zt3, zt4, zt5, zt6, zt7, zt8, zt9, zt10, zt11, zt12, zt13, b180_116]
                      try simp only [zput_s, zput_n, ti_g, oI_add, oI_sub, oI_mul]
                      simp only [zput_s, zput_n, ti_g, oI_add, oI_sub, oI_mul, zt0, zt1, zt2, zt3, zt4, zt5, zt6, zt7, zt8, zt9, zt10, zt11, zt12, zt13, b180_143]
                      try simp only [zput_s, zput_n, ti_g, oI_add, oI_sub, oI_mul]
                      simp only [zput_s, zput_n, ti_g, oI_add, oI_sub, oI_mul, zt0, zt1, zt2, zt3, zt4, zt5, zt6, zt7, zt8, zt9, zt10, zt11, zt12, zt13, b180_144]
                      try simp only [zput_s, zput_n, ti_g, oI_add, oI_sub, oI_mul]
                      first | exact qI_rt (by omega) (by omega) ⟨rfl, by omega⟩ | exact qI_nf ⟨rfl, by omega⟩
                    · simp only [zput_s, zput_n, ti_g, oI_add, oI_sub, oI_mul, zt0, zt1, zt2, zt3, zt4, zt5, zt6, zt7, zt8, zt9, zt10, zt11, zt12, zt13, b180_111]
                      try simp only [zput_s, zput_n, ti_g, oI_add, oI_sub, oI_mul]
                      simp only [zput_s, zput_n, ti_g, oI_add, oI_sub, oI_mul, zt0, zt1, zt2, zt3, zt4, zt5, zt6, zt7, zt8, zt9, zt10, zt11, zt12, zt13, b180_116]
                      try simp only [zput_s, zput_n, ti_g, oI_add, oI_sub, oI_mul]
                      first | refine zok_eq (by omega) (fun c327 => ?_) (fun c327 => ?_) | refine zok_if (fun c327 => ?_) (fun c327 => ?_)
                      · simp only [zput_s, zput_n, ti_g, oI_add, oI_sub, oI_mul, zt0, zt1, zt2, zt3, zt4, zt5, zt6, zt7, zt8, zt9, zt10, zt11, zt12, zt13, b180_143]
                        try simp only [zput_s, zput_n, ti_g, oI_add, oI_sub, oI_mul]
                        simp only [zput_s, zput_n, ti_g, oI_add, oI_sub, oI_mul, zt0, zt1, zt2, zt3, zt4, zt5, zt6, zt7, zt8, zt9, zt10, zt11, zt12, zt13, b180_144]
                        try simp only [zput_s, zput_n, ti_g, oI_add, oI_sub, oI_mul]
                        first | exact qI_rt (by omega) (by omega) ⟨rfl, by omega⟩ | exact qI_nf ⟨rfl, by omega⟩
                      · first | refine zok_eq (by omega) (fun c330 => ?_) (fun c330 => ?_) | refine zok_if (fun c330 => ?_) (fun c330 => ?_)
                        · simp only [zput_s, zput_n, ti_g, oI_add, oI_sub, oI_mul, zt0, zt1, zt2, zt3, zt4, zt5, zt6, zt7, zt8, zt9, zt10, zt11, zt12, zt13, b180_139]
                          try simp only [zput_s, zput_n, ti_g, oI_add, oI_sub, oI_mul]
                          simp only [zput_s, zput_n, ti_g, oI_add, oI_sub, oI_mul, zt0, zt1, zt2, zt3, zt4, zt5, zt6, zt7, zt8, zt9, zt10, zt11, zt12, zt13, b180_144]
                          try simp only [zput_s, zput_n, ti_g, oI_add, oI_sub, oI_mul]
                          first | exact qI_rt (by omega) (by omega) ⟨rfl, by omega⟩ | exact qI_nf ⟨rfl, by omega⟩
                        · refine zok_ck ((q0).1) ?_
                          refine zok_pI (s160 (q0) (by omega) (by omega) (by first | (omega) | ((try simp only [zt0, zt1, zt2, zt3, zt4, zt5, zt6, zt7, zt8, zt9, zt10, zt11, zt12, zt13]); omega)) (G)) (fun y333 u333 p333 => ?_)
                          try simp only [zt0, zt1, zt2, zt3, zt4, zt5, zt6, zt7, zt8, zt9, zt10, zt11, zt12, zt13] at p333
                          simp only [zput_s, zput_n, ti_g, oI_add, oI_sub, oI_mul, zt0, zt1, zt2, zt3, zt4, zt5, zt6, zt7, zt8, zt9, zt10, zt11, zt12, zt13, b180_134]
                          try simp only [zput_s, zput_n, ti_g, oI_add, oI_sub, oI_mul]
                          first | refine zok_ne (by omega) (fun c335 => ?_) (fun c335 => ?_) | refine zok_if (fun c335 => ?_) (fun c335 => ?_)
                          · simp only [zput_s, zput_n, ti_g, oI_add, oI_sub, oI_mul, zt0, zt1, zt2, zt3, zt4, zt5, zt6, zt7, zt8, zt9, zt10, zt11, zt12, zt13, b180_143]
                            try simp only [zput_s, zput_n, ti_g, oI_add, oI_sub, oI_mul]
                            simp only [zput_s, zput_n, ti_g, oI_add, oI_sub, oI_mul, zt0, zt1, zt2, zt3, zt4, zt5, zt6, zt7, zt8, zt9, zt10, zt11, zt12, zt13, b180_144]
                            try simp only [zput_s, zput_n, ti_g, oI_add, oI_sub, oI_mul]
                            first | exact qI_rt (by omega) (by omega) ⟨rfl, by omega⟩ | exact qI_nf ⟨rfl, by omega⟩
                          · simp only [zput_s, zput_n, ti_g, oI_add, oI_sub, oI_mul, zt0, zt1, zt2, zt3, zt4, zt5, zt6, zt7, zt8, zt9, zt10, zt11, zt12, zt13, b180_139]
                            try simp only [zput_s, zput_n, ti_g, oI_add, oI_sub, oI_mul]
                            simp only [zput_s, zput_n, ti_g, oI_add, oI_sub, oI_mul, zt0, zt1, zt2, zt3, zt4, zt5, zt6, zt7, zt8, zt9, zt10, zt11, zt12, zt13, b180_144]
                            try simp only [zput_s, zput_n, ti_g, oI_add, oI_sub, oI_mul]
                            first | exact qI_rt (by omega) (by omega) ⟨rfl, by omega⟩ | exact qI_nf ⟨rfl, by omega⟩
                · refine zok_ck ((q0).1) ?_
                  refine zok_pI (s160 (q0) (by omega) (by omega) (by first | (omega) | ((try simp only [zt0, zt1, zt2, zt3, zt4, zt5, zt6, zt7, zt8, zt9, zt10, zt11, zt12, zt13]); omega)) (G)) (fun y340 u340 p340 => ?_)
                  try simp only [zt0, zt1, zt2, zt3, zt4, zt5, zt6, zt7, zt8, zt9, zt10, zt11, zt12, zt13] at p340
                  simp only [zput_s, zput_n, ti_g, oI_add, oI_sub, oI_mul, zt0, zt1, zt2, zt3, zt4, zt5, zt6, zt7, zt8, zt9, zt10, zt11, zt12, zt13, b180_91]
                  try simp only [zput_s, zput_n, ti_g, oI_add, oI_sub, oI_mul]
                  first | refine zok_ne (by omega) (fun c342 => ?_) (fun c342 => ?_) | refine zok_if (fun c342 => ?_) (fun c342 => ?_)
                  · simp only [zput_s, zput_n, ti_g, oI_add, oI_sub, oI_mul, zt0, zt1, zt2, zt3, zt4, zt5, zt6, zt7, zt8, zt9, zt10, zt11, zt12, zt13, b180_115]
                    try simp only [zput_s, zput_n, ti_g, oI_add, oI_sub, oI_mul]
                    simp only [zput_s, zput_n, ti_g, oI_add, oI_sub, oI_mul, zt0, zt1, zt2, zt3, zt4, zt5, zt6, zt7, zt8, zt9, zt10, zt11, zt12, zt13, b180_116]
                    try simp only [zput_s, zput_n, ti_g, oI_add, oI_sub, oI_mul]
                    simp only [zput_s, zput_n, ti_g, oI_add, oI_sub, oI_mul, zt0, zt1, zt2, zt3, zt4, zt5, zt6, zt7, zt8, zt9, zt10, zt11, zt12, zt13, b180_143]
                    try simp only [zput_s, zput_n, ti_g, oI_add, oI_sub, oI_mul]
                    simp only [zput_s, zput_n, ti_g, oI_add, oI_sub, oI_mul, zt0, zt1, zt2, zt3, zt4, zt5, zt6, zt7, zt8, zt9, zt10, zt11, zt12, zt13, b180_144]
                    try simp only [zput_s, zput_n, ti_g, oI_add, oI_sub, oI_mul]
                    first | exact qI_rt (by omega) (by omega) ⟨rfl, by omega⟩ | exact qI_nf ⟨rfl, by omega⟩
                  · simp only [zput_s, zput_n, ti_g, oI_add, oI_sub, oI_mul, zt0, zt1, zt2, zt3, zt4, zt5, zt6, zt7, zt8, zt9, zt10, zt11, zt12, zt13, b180_95]
                    try simp only [zput_s, zput_n, ti_g, oI_add, oI_sub, oI_mul]
                    first | refine zok_eq (by omega) (fun c348 => ?_) (fun c348 => ?_) | refine zok_if (fun c348 => ?_) (fun c348 => ?_)
                    · simp only [zput_s, zput_n, ti_g, oI_add, oI_sub, oI_mul, zt0, zt1, zt2, zt3, zt4, zt5, zt6, zt7, zt8, zt9, zt10, zt11, zt12, zt13, b180_111]
                      try simp only [zput_s, zput_n, ti_g, oI_add, oI_sub, oI_mul]
                      simp only [zput_s, zput_n, ti_g, oI_add, oI_sub, oI_mul, zt0, zt1, zt2, zt3, zt4, zt5, zt6, zt7, zt8, zt9, zt10, zt11, zt12, zt13, b180_116]
                      try simp only [zput_s, zput_n, ti_g, oI_add, oI_sub, oI_mul]
                      first | refine zok_eq (by omega) (fun c351 => ?_) (fun c351 => ?_) | refine zok_if (fun c351 => ?_) (fun c351 => ?_)
                      · simp only [zput_s, zput_n, ti_g, oI_add, oI_sub, oI_mul, zt0, zt1, zt2, zt3, zt4, zt5, zt6, zt7, zt8, zt9, zt10, zt11, zt12, zt13, b180_143]
                        try simp only [zput_s, zput_n, ti_g, oI_add, oI_sub, oI_mul]
                        simp only [zput_s, zput_n, ti_g, oI_add, oI_sub, oI_mul, zt0, zt1, zt2, zt3, zt4, zt5, zt6, zt7, zt8, zt9, zt10, zt11, zt12, zt13, b180_144]
                        try simp only [zput_s, zput_n, ti_g, oI_add, oI_sub, oI_mul]
                        first | exact qI_rt (by omega) (by omega) ⟨rfl, by omega⟩ | exact qI_nf ⟨rfl, by omega⟩
                      · first | refine zok_eq (by omega) (fun c354 => ?_) (fun c354 => ?_) | refine zok_if (fun c354 => ?_) (fun c354 => ?_)
                        · simp only [zput_s, zput_n, ti_g, oI_add, oI_sub, oI_mul, zt0, zt1, zt2, zt3, zt4, zt5, zt6, zt7, zt8, zt9, zt10, zt11, zt12, zt13, b180_139]
                          try simp only [zput_s, zput_n, ti_g, oI_add, oI_sub, oI_mul]
                          simp only [zput_s, zput_n, ti_g, oI_add, oI_sub, oI_mul, zt0, zt1, zt2, zt3, zt4, zt5, zt6, zt7, zt8, zt9, zt10, zt11, zt12, zt13, b180_144]
                          try simp only [zput_s, zput_n, ti_g, oI_add, oI_sub, oI_mul]
                          first | exact qI_rt (by omega) (by omega) ⟨rfl, by omega⟩ | exact qI_nf ⟨rfl, by omega⟩
                        · refine zok_ck ((q0).1) ?_
                          refine zok_pI (s160 (q0) (by omega) (by omega) (by first | (omega) | ((try simp only [zt0, zt1, zt2, zt3, zt4, zt5, zt6, zt7, zt8, zt9, zt10, zt11, zt12, zt13]); omega)) (G)) (fun y357 u357 p357 => ?_)
                          try simp only [zt0, zt1, zt2, zt3, zt4, zt5, zt6, zt7, zt8, zt9, zt10, zt11, zt12, zt13] at p357
                          simp only [zput_s, zput_n, ti_g, oI_add, oI_sub, oI_mul, zt0, zt1, zt2, zt3, zt4, zt5, zt6, zt7, zt8, zt9, zt10, zt11, zt12, zt13, b180_134]
                          try simp only [zput_s, zput_n, ti_g, oI_add, oI_sub, oI_mul]
                          first | refine zok_ne (by omega) (fun c359 => ?_) (fun c359 => ?_) | refine zok_if (fun c359 => ?_) (fun c359 => ?_)
                          · simp only [zput_s, zput_n, ti_g, oI_add, oI_sub, oI_mul, zt0, zt1, zt2, zt3, zt4, zt5, zt6, zt7, zt8, zt9, zt10, zt11, zt12, zt13, b180_143]
                            try simp only [zput_s, zput_n, ti_g, oI_add, oI_sub, oI_mul]
                            simp only [zput_s, zput_n, ti_g, oI_add, oI_sub, oI_mul, zt0, zt1, zt2, zt3, zt4, zt5, zt6, zt7, zt8, zt9, zt10, zt11, zt12, zt13, b180_144]
                            try simp only [zput_s, zput_n, ti_g, oI_add, oI_sub, oI_mul]
                            first | exact qI_rt (by omega) (by omega) ⟨rfl, by omega⟩ | exact qI_nf ⟨rfl, by omega⟩
                          · simp only [zput_s, zput_n, ti_g, oI_add, oI_sub, oI_mul, zt0, zt1, zt2, zt3, zt4, zt5, zt6, zt7, zt8, zt9, zt10, zt11, zt12, zt13, b180_139]
                            try simp only [zput_s, zput_n, ti_g, oI_add, oI_sub, oI_mul]
                            simp only [zput_s, zput_n, ti_g, oI_add, oI_sub, oI_mul, zt0, zt1, zt2, zt3, zt4, zt5, zt6, zt7, zt8, zt9, zt10, zt11, zt12, zt13, b180_144]
                            try simp only [zput_s, zput_n, ti_g, oI_add, oI_sub, oI_mul]
                            first | exact qI_rt (by omega) (by omega) ⟨rfl, by omega⟩ | exact qI_nf ⟨rfl, by omega⟩
                    · refine zok_ck ((q0).1) ?_
                      refine zok_pI (s160 (q0) (by omega) (by omega) (by first | (omega) | ((try simp only [zt0, zt1, zt2, zt3, zt4, zt5, zt6, zt7, zt8, zt9, zt10, zt11, zt12, zt13]); omega)) (G)) (fun y364 u364 p364 => ?_)
                      try simp only [zt0, zt1, zt2, zt3, zt4, zt5, zt6, zt7, zt8, zt9, zt10, zt11, zt12, zt13] at p364
                      simp only [zput_s, zput_n, ti_g, oI_add, oI_sub, oI_mul, zt0, zt1, zt2, zt3, zt4, zt5, zt6, zt7, zt8, zt9, zt10, zt11, zt12, zt13, b180_106]
                      try simp only [zput_s, zput_n, ti_g, oI_add, oI_sub, oI_mul]
                      first | refine zok_ne (by omega) (fun c366 => ?_) (fun c366 => ?_) | refine zok_if (fun c366 => ?_) (fun c366 => ?_)
                      · simp only [zput_s, zput_n, ti_g, oI_add, oI_sub, oI_mul, zt0, zt1, zt2, zt3, zt4, zt5, zt6, zt7, zt8, zt9, zt10, zt11, zt12, zt13, b180_115]
                        try simp only [zput_s, zput_n, ti_g, oI_add, oI_sub, oI_mul]
                        simp only [zput_s, zput_n, ti_g, oI_add, oI_sub, oI_mul, zt0, zt1, zt2, zt3, zt4, zt5, zt6, zt7, zt8, zt9, zt10, zt11, zt12, zt13, b180_116]
                        try simp only [zput_s, zput_n, ti_g, oI_add, oI_sub, oI_mul]
                        simp only [zput_s, zput_n, ti_g, oI_add, oI_sub, oI_mul, zt0, zt1, zt2, zt3, zt4, zt5, zt6, zt7, zt8, zt9, zt10, zt11, zt12, zt13, b180_143]
                        try simp only [zput_s, zput_n, ti_g, oI_add, oI_sub, oI_mul]
                        simp only [zput_s, zput_n, ti_g, oI_add, oI_sub, oI_mul, zt0, zt1, zt2, zt3, zt4, zt5, zt6, zt7, zt8, zt9, zt10, zt11, zt12, zt13, b180_144]
                        try simp only [zput_s, zput_n, ti_g, oI_add, oI_sub, oI_mul]
                        first | exact qI_rt (by omega) (by omega) ⟨rfl, by omega⟩ | exact qI_nf ⟨rfl, by omega⟩
                      · simp only [zput_s, zput_n, ti_g, oI_add, oI_sub, oI_mul, zt0, zt1, zt2, zt3, zt4, zt5, zt6, zt7, zt8, zt9, zt10, zt11, zt12, zt13, b180_111]
                        try simp only [zput_s, zput_n, ti_g, oI_add, oI_sub, oI_mul]
                        simp only [zput_s, zput_n, ti_g, oI_add, oI_sub, oI_mul, zt0, zt1, zt2, zt3, zt4, zt5, zt6, zt7, zt8, zt9, zt10, zt11, zt12, zt13, b180_116]
                        try simp only [zput_s, zput_n, ti_g, oI_add, oI_sub, oI_mul]
                        first | refine zok_eq (by omega) (fun c373 => ?_) (fun c373 => ?_) | refine zok_if (fun c373 => ?_) (fun c373 => ?_)
                        · simp only [zput_s, zput_n, ti_g, oI_add, oI_sub, oI_mul, zt0, zt1, zt2, zt3, zt4, zt5, zt6, zt7, zt8, zt9, zt10, zt11, zt12, zt13, b180_143]
                          try simp only [zput_s, zput_n, ti_g, oI_add, oI_sub, oI_mul]
                          simp only [zput_s, zput_n, ti_g, oI_add, oI_sub, oI_mul, zt0, zt1, zt2, zt3, zt4, zt5, zt6, zt7, zt8, zt9, zt10, zt11, zt12, zt13, b180_144]
                          try simp only [zput_s, zput_n, ti_g, oI_add, oI_sub, oI_mul]
                          first | exact qI_rt (by omega) (by omega) ⟨rfl, by omega⟩ | exact qI_nf ⟨rfl, by omega⟩
                        · first | refine zok_eq (by omega) (fun c376 => ?_) (fun c376 => ?_) | refine zok_if (fun c376 => ?_) (fun c376 => ?_)
                          · simp only [zput_s, zput_n, ti_g, oI_add, oI_sub, oI_mul, zt0, zt1, zt2, zt3, zt4, zt5, zt6, zt7, zt8, zt9, zt10, zt11, zt12, zt13, b180_139]
                            try simp only [zput_s, zput_n, ti_g, oI_add, oI_sub, oI_mul]
                            simp only [zput_s, zput_n, ti_g, oI_add, oI_sub, oI_mul, zt0, zt1, zt2, zt3, zt4, zt5, zt6, zt7, zt8, zt9, zt10, zt11, zt12, zt13, b180_144]
                            try simp only [zput_s, zput_n, ti_g, oI_add, oI_sub, oI_mul]
                            first | exact qI_rt (by omega) (by omega) ⟨rfl, by omega⟩ | exact qI_nf ⟨rfl, by omega⟩
                          · refine zok_ck ((q0).1) ?_
                            refine zok_pI (s160 (q0) (by omega) (by omega) (by first | (omega) | ((try simp only [zt0, zt1, zt2, zt3, zt4, zt5, zt6, zt7, zt8, zt9, zt10, zt11, zt12, zt13]); omega)) (G)) (fun y379 u379 p379 => ?_)
                            try simp only [zt0, zt1, zt2, zt3, zt4, zt5, zt6, zt7, zt8, zt9, zt10, zt11, zt12, zt13] at p379
                            simp only [zput_s, zput_n, ti_g, oI_add, oI_sub, oI_mul, zt0, zt1, zt2, zt3, zt4, zt5, zt6, zt7, zt8, zt9, zt10, zt11, zt12, zt13, b180_134]
                            try simp only [zput_s, zput_n, ti_g, oI_add, oI_sub, oI_mul]
                            first | refine zok_ne (by omega) (fun c381 => ?_) (fun c381 => ?_) | refine zok_if (fun c381 => ?_) (fun c381 => ?_)
                            · simp only [zput_s, zput_n, ti_g, oI_add, oI_sub, oI_mul, zt0, zt1, zt2, zt3, zt4, zt5, zt6, zt7, zt8, zt9, zt10, zt11, zt12, zt13, b180_143]
                              try simp only [zput_s, zput_n, ti_g, oI_add, oI_sub, oI_mul]
                              simp only [zput_s, zput_n, ti_g, oI_add, oI_sub, oI_mul, zt0, zt1, zt2, zt3, zt4, zt5, zt6, zt7, zt8, zt9, zt10, zt11, zt12, zt13, b180_144]
                              try simp only [zput_s, zput_n, ti_g, oI_add, oI_sub, oI_mul]
                              first | exact qI_rt (by omega) (by omega) ⟨rfl, by omega⟩ | exact qI_nf ⟨rfl, by omega⟩
                            · simp only [zput_s, zput_n, ti_g, oI_add, oI_sub, oI_mul, zt0, zt1, zt2, zt3, zt4, zt5, zt6, zt7, zt8, zt9, zt10, zt11, zt12, zt13, b180_139]
                              try simp only [zput_s, zput_n, ti_g, oI_add, oI_sub, oI_mul]
                              simp only [zput_s, zput_n, ti_g, oI_add, oI_sub, oI_mul, zt0, zt1, zt2, zt3, zt4, zt5, zt6, zt7, zt8, zt9, zt10, zt11, zt12, zt13, b180_144]
                              try simp only [zput_s, zput_n, ti_g, oI_add, oI_sub, oI_mul]
                              first | exact qI_rt (by omega) (by omega) ⟨rfl, by omega⟩ | exact qI_nf ⟨rfl, by omega⟩
  · simp only [zput_s, zput_n, ti_g, oI_add, oI_sub, oI_mul, zt0, zt1, zt2, zt3, zt4, zt5, zt6, zt7, zt8, zt9, zt10, zt11, zt12, zt13, b180_27]
    try simp only [zput_s, zput_n, ti_g, oI_add, oI_sub, oI_mul]
    refine zok_ck ((q0).1) ?_
    refine zok_ck ⟨Or.inr (by rw [(q0).2.2.2.2.2.2.2.2.2.2.2.1]), zin_o (by omega) (by omega) (by omega)⟩ ?_
    try rw [nN_o (a := 0) (by omega) (by omega)]
    try rw [show (0 : Int).toNat = 0 from rfl]
    try simp only [zput_s, zput_n, ti_g, oI_add, oI_sub, oI_mul, zt0, zt1, zt2, zt3, zt4, zt5, zt6, zt7, zt8, zt9, zt10, zt11, zt12, zt13]
    have gl387 := And.intro (tg_lo t (sr sh r0 11) (0)) (tg_hi t (sr sh r0 11) (0))
    have gm387 := (G).2.2.2.1 (0) (by omega)
    try simp only [zt0, zt1, zt2, zt3, zt4, zt5, zt6, zt7, zt8, zt9, zt10, zt11, zt12, zt13] at gl387
    try simp only [zt0, zt1, zt2, zt3, zt4, zt5, zt6, zt7, zt8, zt9, zt10, zt11, zt12, zt13] at gm387
    first | refine zok_eq (by omega) (fun c388 => ?_) (fun c388 => ?_) | refine zok_if (fun c388 => ?_) (fun c388 => ?_)
    · simp only [zput_s, zput_n, ti_g, oI_add, oI_sub, oI_mul, zt0, zt1, zt2, zt3, zt4, zt5, zt6, zt7, zt8, zt9, zt10, zt11, zt12, zt13, b180_73]
      try simp only [zput_s, zput_n, ti_g, oI_add, oI_sub, oI_mul]
      simp only [zput_s, zput_n, ti_g, oI_add, oI_sub, oI_mul, zt0, zt1, zt2, zt3, zt4, zt5, zt6, zt7, zt8, zt9, zt10, zt11, zt12, zt13, b180_74]
      try simp only [zput_s, zput_n, ti_g, oI_add, oI_sub, oI_mul]
      simp only [zput_s, zput_n, ti_g, oI_add, oI_sub, oI_mul, zt0, zt1, zt2, zt3, zt4, zt5, zt6, zt7, zt8, zt9, zt10, zt11, zt12, zt13, b180_115]
      try simp only [zput_s, zput_n, ti_g, oI_add, oI_sub, oI_mul]
      simp only [zput_s, zput_n, ti_g, oI_add, oI_sub, oI_mul, zt0, zt1, zt2, zt3, zt4, zt5, zt6, zt7, zt8, zt9, zt10, zt11, zt12, zt13, b180_116]
      try simp only [zput_s, zput_n, ti_g, oI_add, oI_sub, oI_mul]
      simp only [zput_s, zput_n, ti_g, oI_add, oI_sub, oI_mul, zt0, zt1, zt2, zt3, zt4, zt5, zt6, zt7, zt8, zt9, zt10, zt11, zt12, zt13, b180_143]
      try simp only [zput_s, zput_n, ti_g, oI_add, oI_sub, oI_mul]
      simp only [zput_s, zput_n, ti_g, oI_add, oI_sub, oI_mul, zt0, zt1, zt2, zt3, zt4, zt5, zt6, zt7, zt8, zt9, zt10, zt11, zt12, zt13, b180_144]
      try simp only [zput_s, zput_n, ti_g, oI_add, oI_sub, oI_mul]
      first | exact qI_rt (by omega) (by omega) ⟨rfl, by omega⟩ | exact qI_nf ⟨rfl, by omega⟩
    · refine zok_ck ((q0).1) ?_
      refine zok_ck ⟨(by rw [(q0).2.2.2.2.2.2.2.2.2.2.1]), zin_o (by omega) (by omega) (by omega)⟩ ?_
      try rw [nN_o (a := 0) (by omega) (by omega)]
      try rw [show (0 : Int).toNat = 0 from rfl]
      try simp only [zput_s, zput_n, ti_g, oI_add, oI_sub, oI_mul, zt0, zt1, zt2, zt3, zt4, zt5, zt6, zt7, zt8, zt9, zt10, zt11, zt12, zt13]
      have gl395 := And.intro (tg_lo t (sr sh r0 10) (0)) (tg_hi t (sr sh r0 10) (0))
      have gm395 := (G).2.2.1 (0) (by omega)
      try simp only [zt0, zt1, zt2, zt3, zt4, zt5, zt6, zt7, zt8, zt9, zt10, zt11, zt12, zt13] at gl395
      try simp only [zt0, zt1, zt2, zt3, zt4, zt5, zt6, zt7, zt8, zt9, zt10, zt11, zt12, zt13] at gm395
      first | refine zok_ne (by omega) (fun c396 => ?_) (fun c396 => ?_) | refine zok_if (fun c396 => ?_) (fun c396 => ?_)
      · simp only [zput_s, zput_n, ti_g, oI_add, oI_sub, oI_mul, zt0, zt1, zt2, zt3, zt4, zt5, zt6, zt7, zt8, zt9, zt10, zt11, zt12, zt13, b180_73]
        try simp only [zput_s, zput_n, ti_g, oI_add, oI_sub, oI_mul]
        simp only [zput_s, zput_n, ti_g, oI_add, oI_sub, oI_mul, zt0, zt1, zt2, zt3, zt4, zt5, zt6, zt7, zt8, zt9, zt10, zt11, zt12, zt13, b180_74]
        try simp only [zput_s, zput_n, ti_g, oI_add, oI_sub, oI_mul]
        simp only [zput_s, zput_n, ti_g, oI_add, oI_sub, oI_mul, zt0, zt1, zt2, zt3, zt4, zt5, zt6, zt7, zt8, zt9, zt10, zt11, zt12, zt13, b180_115]
        try simp only [zput_s, zput_n, ti_g, oI_add, oI_sub, oI_mul]
        simp only [zput_s, zput_n, ti_g, oI_add, oI_sub, oI_mul, zt0, zt1, zt2, zt3, zt4, zt5, zt6, zt7, zt8, zt9, zt10, zt11, zt12, zt13, b180_116]
        try simp only [zput_s, zput_n, ti_g, oI_add, oI_sub, oI_mul]
        simp only [zput_s, zput_n, ti_g, oI_add, oI_sub, oI_mul, zt0, zt1, zt2, zt3, zt4, zt5, zt6, zt7, zt8, zt9, zt10, zt11, zt12, zt13, b180_143]
        try simp only [zput_s, zput_n, ti_g, oI_add, oI_sub, oI_mul]
        simp only [zput_s, zput_n, ti_g, oI_add, oI_sub, oI_mul, zt0, zt1, zt2, zt3, zt4, zt5, zt6, zt7, zt8, zt9, zt10, zt11, zt12, zt13, b180_144]
        try simp only [zput_s, zput_n, ti_g, oI_add, oI_sub, oI_mul]
        first | exact qI_rt (by omega) (by omega) ⟨rfl, by omega⟩ | exact qI_nf ⟨rfl, by omega⟩
      · refine zok_ck ((q0).1) ?_
        refine zok_pI (s160 (q0) (by omega) (by omega) (by first | (omega) | ((try simp only [zt0, zt1, zt2, zt3, zt4, zt5, zt6, zt7, zt8, zt9, zt10, zt11, zt12, zt13]); omega)) (G)) (fun y403 u403 p403 => ?_)
        try simp only [zt0, zt1, zt2, zt3, zt4, zt5, zt6, zt7, zt8, zt9, zt10, zt11, zt12, zt13] at p403
        simp only [zput_s, zput_n, ti_g, oI_add, oI_sub, oI_mul, zt0, zt1, zt2, zt3, zt4, zt5, zt6, zt7, zt8, zt9, zt10, zt11, zt12, zt13, b180_55]
        try simp only [zput_s, zput_n, ti_g, oI_add, oI_sub, oI_mul]
        first | refine zok_ne (by omega) (fun c405 => ?_) (fun c405 => ?_) | refine zok_if (fun c405 => ?_) (fun c405 => ?_)
        · simp only [zput_s, zput_n, ti_g, oI_add, oI_sub, oI_mul, zt0, zt1, zt2, zt3, zt4, zt5, zt6, zt7, zt8, zt9, zt10, zt11, zt12, zt13, b180_73]
          try simp only [zput_s, zput_n, ti_g, oI_add, oI_sub, oI_mul]
          simp only [zput_s, zput_n, ti_g, oI_add, oI_sub, oI_mul, zt0, zt1, zt2, zt3, zt4, zt5, zt6, zt7, zt8, zt9, zt10, zt11, zt12, zt13, b180_74]
          try simp only [zput_s, zput_n, ti_g, oI_add, oI_sub, oI_mul]
          simp only [zput_s, zput_n, ti_g, oI_add, oI_sub, oI_mul, zt0, zt1, zt2, zt3, zt4, zt5, zt6, zt7, zt8, zt9, zt10, zt11, zt12, zt13, b180_115]
          try simp only [zput_s, zput_n, ti_g, oI_add, oI_sub, oI_mul]
          simp only [zput_s, zput_n, ti_g, oI_add, oI_sub, oI_mul, zt0, zt1, zt2, zt3, zt4, zt5, zt6, zt7, zt8, zt9, zt10, zt11, zt12, zt13, b180_116]
          try simp only [zput_s, zput_n, ti_g, oI_add, oI_sub, oI_mul]
          simp only [zput_s, zput_n, ti_g, oI_add, oI_sub, oI_mul, zt0, zt1, zt2, zt3, zt4, zt5, zt6, zt7, zt8, zt9, zt10, zt11, zt12, zt13, b180_143]
          try simp only [zput_s, zput_n, ti_g, oI_add, oI_sub, oI_mul]
          simp only [zput_s, zput_n, ti_g, oI_add, oI_sub, oI_mul, zt0, zt1, zt2, zt3, zt4, zt5, zt6, zt7, zt8, zt9, zt10, zt11, zt12, zt13, b180_144]
          try simp only [zput_s, zput_n, ti_g, oI_add, oI_sub, oI_mul]
          first | exact qI_rt (by omega) (by omega) ⟨rfl, by omega⟩ | exact qI_nf ⟨rfl, by omega⟩
        · refine zok_ck ((q0).1) ?_
          refine zok_pI (s160 (q0) (by omega) (by omega) (by first | (omega) | ((try simp only [zt0, zt1, zt2, zt3, zt4, zt5, zt6, zt7, zt8, zt9, zt10, zt11, zt12, zt13]); omega)) (G)) (fun y412 u412 p412 => ?_)
          try simp only [zt0, zt1, zt2, zt3, zt4, zt5, zt6, zt7, zt8, zt9, zt10, zt11, zt12, zt13] at p412
          simp only [zput_s, zput_n, ti_g, oI_add, oI_sub, oI_mul, zt0, zt1, zt2, zt3, zt4, zt5, zt6, zt7, zt8, zt9, zt10, zt11, zt12, zt13, b180_65]
          try simp only [zput_s, zput_n, ti_g, oI_add, oI_sub, oI_mul]
          first | refine zok_ne (by omega) (fun c414 => ?_) (fun c414 => ?_) | refine zok_if (fun c414 => ?_) (fun c414 => ?_)
          · simp only [zput_s, zput_n, ti_g, oI_add, oI_sub, oI_mul, zt0, zt1, zt2, zt3, zt4, zt5, zt6, zt7, zt8, zt9, zt10, zt11, zt12, zt13, b180_73]
            try simp only [zput_s, zput_n, ti_g, oI_add, oI_sub, oI_mul]
            simp only [zput_s, zput_n, ti_g, oI_add, oI_sub, oI_mul, zt0, zt1, zt2, zt3, zt4, zt5, zt6, zt7, zt8, zt9, zt10, zt11, zt12, zt13, b180_74]
            try simp only [zput_s, zput_n, ti_g, oI_add, oI_sub, oI_mul]
            simp only [zput_s, zput_n, ti_g, oI_add, oI_sub, oI_mul, zt0, zt1, zt2, zt3, zt4, zt5, zt6, zt7, zt8, zt9, zt10, zt11, zt12, zt13, b180_115]
            try simp only [zput_s, zput_n, ti_g, oI_add, oI_sub, oI_mul]
            simp only [zput_s, zput_n, ti_g, oI_add, oI_sub, oI_mul, zt0, zt1, zt2, zt3, zt4, zt5, zt6, zt7, zt8, zt9, zt10, zt11, zt12, zt13, b180_116]
            try simp only [zput_s, zput_n, ti_g, oI_add, oI_sub, oI_mul]
            simp only [zput_s, zput_n, ti_g, oI_add, oI_sub, oI_mul, zt0, zt1, zt2, zt3, zt4, zt5, zt6, zt7, zt8, zt9, zt10, zt11, zt12, zt13, b180_143]
            try simp only [zput_s, zput_n, ti_g, oI_add, oI_sub, oI_mul]
            simp only [zput_s, zput_n, ti_g, oI_add, oI_sub, oI_mul, zt0, zt1, zt2, zt3, zt4, zt5, zt6, zt7, zt8, zt9, zt10, zt11, zt12, zt13, b180_144]
            try simp only [zput_s, zput_n, ti_g, oI_add, oI_sub, oI_mul]
            first | exact qI_rt (by omega) (by omega) ⟨rfl, by omega⟩ | exact qI_nf ⟨rfl, by omega⟩
          · simp only [zput_s, zput_n, ti_g, oI_add, oI_sub, oI_mul, zt0, zt1, zt2, zt3, zt4, zt5, zt6, zt7, zt8, zt9, zt10, zt11, zt12, zt13, b180_74]
            try simp only [zput_s, zput_n, ti_g, oI_add, oI_sub, oI_mul]
            first | refine zok_eq (by omega) (fun c422 => ?_) (fun c422 => ?_) | refine zok_if (fun c422 => ?_) (fun c422 => ?_)
            · simp only [zput_s, zput_n, ti_g, oI_add, oI_sub, oI_mul, zt0, zt1, zt2, zt3, zt4, zt5, zt6, zt7, zt8, zt9, zt10, zt11, zt12, zt13, b180_115]
              try simp only [zput_s, zput_n, ti_g, oI_add, oI_sub, oI_mul]
              simp only [zput_s, zput_n, ti_g, oI_add, oI_sub, oI_mul, zt0, zt1, zt2, zt3, zt4, zt5, zt6, zt7, zt8, zt9, zt10, zt11, zt12, zt13, b180_116]
              try simp only [zput_s, zput_n, ti_g, oI_add, oI_sub, oI_mul]
              simp only [zput_s, zput_n, ti_g, oI_add, oI_sub, oI_mul, zt0, zt1, zt2, zt3, zt4, zt5, zt6, zt7, zt8, zt9, zt10, zt11, zt12, zt13, b180_143]
              try simp only [zput_s, zput_n, ti_g, oI_add, oI_sub, oI_mul]
              simp only [zput_s, zput_n, ti_g, oI_add, oI_sub, oI_mul, zt0, zt1, zt2, zt3, zt4, zt5, zt6, zt7, zt8, zt9, zt10, zt11, zt12, zt13, b180_144]
              try simp only [zput_s, zput_n, ti_g, oI_add, oI_sub, oI_mul]
              first | exact qI_rt (by omega) (by omega) ⟨rfl, by omega⟩ | exact qI_nf ⟨rfl, by omega⟩
            · first | refine zok_eq (by omega) (fun c427 => ?_) (fun c427 => ?_) | refine zok_if (fun c427 => ?_) (fun c427 => ?_)
              · simp only [zput_s, zput_n, ti_g, oI_add, oI_sub, oI_mul, zt0, zt1, zt2, zt3, zt4, zt5, zt6, zt7, zt8, zt9, zt10, zt11, zt12, zt13, b180_95]
                try simp only [zput_s, zput_n, ti_g, oI_add, oI_sub, oI_mul]
                first | refine zok_eq (by omega) (fun c429 => ?_) (fun c429 => ?_) | refine zok_if (fun c429 => ?_) (fun c429 => ?_)
                · simp only [zput_s, zput_n, ti_g, oI_add, oI_sub, oI_mul, zt0, zt1, zt2, zt3, zt4, zt5, zt6, zt7, zt8, zt9, zt10, zt11, zt12, zt13, b180_111]
                  try simp only [zput_s, zput_n, ti_g, oI_add, oI_sub, oI_mul]
                  simp only [zput_s, zput_n, ti_g, oI_add, oI_sub, oI_mul, zt0, zt1, zt2, zt3, zt4, zt5, zt6, zt7, zt8, zt9, zt10, zt11, zt12, zt13, b180_116]
                  try simp only [zput_s, zput_n, ti_g, oI_add, oI_sub, oI_mul]
                  first | refine zok_eq (by omega) (fun c432 => ?_) (fun c432 => ?_) | refine zok_if (fun c432 => ?_) (fun c432 => ?_)
                  · simp only [zput_s, zput_n, ti_g, oI_add, oI_sub, oI_mul, zt0, zt1, zt2, zt3, zt4, zt5, zt6, zt7, zt8, zt9, zt10, zt11, zt12, zt13, b180_143]
                    try simp only [zput_s, zput_n, ti_g, oI_add, oI_sub, oI_mul]
                    simp only [zput_s, zput_n, ti_g, oI_add, oI_sub, oI_mul, zt0, zt1, zt2, zt3, zt4, zt5, zt6, zt7, zt8, zt9, zt10, zt11, zt12, zt13, b180_144]
                    try simp only [zput_s, zput_n, ti_g, oI_add, oI_sub, oI_mul]
                    first | exact qI_rt (by omega) (by omega) ⟨rfl, by omega⟩ | exact qI_nf ⟨rfl, by omega⟩
                  · first | refine zok_eq (by omega) (fun c435 => ?_) (fun c435 => ?_) | refine zok_if (fun c435 => ?_) (fun c435 => ?_)
                    · simp only [zput_s, zput_n, ti_g, oI_add, oI_sub, oI_mul, zt0, zt1, zt2, zt3, zt4, zt5, zt6, zt7, zt8, zt9, zt10, zt11, zt12, zt13, b180_139]
                      try simp only [zput_s, zput_n, ti_g, oI_add, oI_sub, oI_mul]
                      simp only [zput_s, zput_n, ti_g, oI_add, oI_sub, oI_mul, zt0, zt1, zt2, zt3, zt4, zt5, zt6, zt7, zt8, zt9, zt10, zt11, zt12, zt13, b180_144]
                      try simp only [zput_s, zput_n, ti_g, oI_add, oI_sub, oI_mul]
                      first | exact qI_rt (by omega) (by omega) ⟨rfl, by omega⟩ | exact qI_nf ⟨rfl, by omega⟩
                    · refine zok_ck ((q0).1) ?_
                      refine zok_pI (s160 (q0) (by omega) (by omega) (by first | (omega) | ((try simp only [zt0, zt1, zt2, zt3, zt4, zt5, zt6, zt7, zt8, zt9, zt10, zt11, zt12, zt13]); omega)) (G)) (fun y438 u438 p438 => ?_)
                      try simp only [zt0, zt1, zt2, zt3, zt4, zt5, zt6, zt7, zt8, zt9, zt10, zt11, zt12, zt13] at p438
                      simp only [zput_s, zput_n, ti_g, oI_add, oI_sub, oI_mul, zt0, zt1, zt2, zt3, zt4, zt5, zt6, zt7, zt8, zt9, zt10, zt11, zt12, zt13, b180_134]
                      try simp only [zput_s, zput_n, ti_g, oI_add, oI_sub, oI_mul]
                      first | refine zok_ne (by omega) (fun c440 => ?_) (fun c440 => ?_) | refine zok_if (fun c440 => ?_) (fun c440 => ?_)
                      · simp only [zput_s, zput_n, ti_g, oI_add, oI_sub, oI_mul, zt0, zt1, zt2, zt3, zt4, zt5, zt6, zt7, zt8, zt9, zt10, zt11, zt12, zt13, b180_143]
                        try simp only [zput_s, zput_n, ti_g, oI_add, oI_sub, oI_mul]
                        simp only [zput_s, zput_n, ti_g, oI_add, oI_sub, oI_mul, zt0, zt1, zt2, zt3, zt4, zt5, zt6, zt7, zt8, zt9, zt10, zt11, zt12, zt13, b180_144]
                        try simp only [zput_s, zput_n, ti_g, oI_add, oI_sub, oI_mul]
                        first | exact qI_rt (by omega) (by omega) ⟨rfl, by omega⟩ | exact qI_nf ⟨rfl, by omega⟩
                      · simp only [zput_s, zput_n, ti_g, oI_add, oI_sub, oI_mul, zt0, zt1, zt2, zt3, zt4, zt5, zt6, zt7, zt8, zt9, zt10, zt11, zt12, zt13, b180_139]
                        try simp only [zput_s, zput_n, ti_g, oI_add, oI_sub, oI_mul]
                        simp only [zput_s, zput_n, ti_g, oI_add, oI_sub, oI_mul, zt0, zt1, zt2, zt3, zt4, zt5, zt6, zt7, zt8, zt9, zt10, zt11, zt12, zt13, b180_144]
                        try simp only [zput_s, zput_n, ti_g, oI_add, oI_sub, oI_mul]
                        first | exact qI_rt (by omega) (by omega) ⟨rfl, by omega⟩ | exact qI_nf ⟨rfl, by omega⟩
                · refine zok_ck ((q0).1) ?_
                  refine zok_pI (s160 (q0) (by omega) (by omega) (by first | (omega) | ((try simp only [zt0, zt1, zt2, zt3, zt4, zt5, zt6, zt7, zt8, zt9, zt10, zt11, zt12, zt13]); omega)) (G)) (fun y445 u445 p445 => ?_)
                  try simp only [zt0, zt1, zt2, zt3, zt4, zt5, zt6, zt7, zt8, zt9, zt10, zt11, zt12, zt13] at p445
                  simp only [zput_s, zput_n, ti_g, oI_add, oI_sub, oI_mul, zt0, zt1, zt2, zt3, zt4, zt5, zt6, zt7, zt8, zt9, zt10, zt11, zt12, zt13, b180_106]
                  try simp only [zput_s, zput_n, ti_g, oI_add, oI_sub, oI_mul]
                  first | refine zok_ne (by omega) (fun c447 => ?_) (fun c447 => ?_) | refine zok_if (fun c447 => ?_) (fun c447 => ?_)
                  · simp only [zput_s, zput_n, ti_g, oI_add, oI_sub, oI_mul, zt0, zt1, zt2, zt3, zt4, zt5, zt6, zt7, zt8, zt9, zt10, zt11, zt12, zt13, b180_115]
                    try simp only [zput_s, zput_n, ti_g, oI_add, oI_sub, oI_mul]
                    simp only [zput_s, zput_n, ti_g, oI_add, oI_sub, oI_mul, zt0, zt1, zt2, zt3, zt4, zt5, zt6, zt7, zt8, zt9, zt10, zt11, zt12, zt13, b180_116]
                    try simp only [zput_s, zput_n, ti_g, oI_add, oI_sub, oI_mul]
                    simp only [zput_s, zput_n, ti_g, oI_add, oI_sub, oI_mul, zt0, zt1, zt2, zt3, zt4, zt5, zt6, zt7, zt8, zt9, zt10, zt11, zt12, zt13, b180_143]
                    try simp only [zput_s, zput_n, ti_g, oI_add, oI_sub, oI_mul]
                    simp only [zput_s, zput_n, ti_g, oI_add, oI_sub, oI_mul, zt0, zt1, zt2, zt3, zt4, zt5, zt6, zt7, zt8, zt9, zt10, zt11, zt12, zt13, b180_144]
                    try simp only [zput_s, zput_n, ti_g, oI_add, oI_sub, oI_mul]
                    first | exact qI_rt (by omega) (by omega) ⟨rfl, by omega⟩ | exact qI_nf ⟨rfl, by omega⟩
                  · simp only [zput_s, zput_n, ti_g, oI_add, oI_sub, oI_mul, zt0, zt1, zt2, zt3, zt4, zt5, zt6, zt7, zt8, zt9, zt10, zt11, zt12, zt13, b180_111]
                    try simp only [zput_s, zput_n, ti_g, oI_add, oI_sub, oI_mul]
                    simp only [zput_s, zput_n, ti_g, oI_add, oI_sub, oI_mul, zt0, zt1, zt2, zt3, zt4, zt5, zt6, zt7, zt8, zt9, zt10, zt11, zt12, zt13, b180_116]
                    try simp only [zput_s, zput_n, ti_g, oI_add, oI_sub, oI_mul]
                    first | refine zok_eq (by omega) (fun c454 => ?_) (fun c454 => ?_) | refine zok_if (fun c454 => ?_) (fun c454 => ?_)
                    · simp only [zput_s, zput_n, ti_g, oI_add, oI_sub, oI_mul, zt0, zt1, zt2, zt3, zt4, zt5, zt6, zt7, zt8, zt9, zt10, zt11, zt12, zt13, b180_143]
                      try simp only [zput_s, zput_n, ti_g, oI_add, oI_sub, oI_mul]
                      simp only [zput_s, zput_n, ti_g, oI_add, oI_sub, oI_mul, zt0, zt1, zt2, zt3, zt4, zt5, zt6, zt7, zt8, zt9, zt10, zt11, zt12, zt13, b180_144]
                      try simp only [zput_s, zput_n, ti_g, oI_add, oI_sub, oI_mul]
                      first | exact qI_rt (by omega) (by omega) ⟨rfl, by omega⟩ | exact qI_nf ⟨rfl, by omega⟩
                    · first | refine zok_eq (by omega) (fun c457 => ?_) (fun c457 => ?_) | refine zok_if (fun c457 => ?_) (fun c457 => ?_)
                      · simp only [zput_s, zput_n, ti_g, oI_add, oI_sub, oI_mul, zt0, zt1, zt2, zt3, zt4, zt5, zt6, zt7, zt8, zt9, zt10, zt11, zt12, zt13, b180_139]
                        try simp only [zput_s, zput_n, ti_g, oI_add, oI_sub, oI_mul]
                        simp only [zput_s, zput_n, ti_g, oI_add, oI_sub, oI_mul, zt0, zt1, zt2, zt3, zt4, zt5, zt6, zt7, zt8, zt9, zt10, zt11, zt12, zt13, b180_144]
                        try simp only [zput_s, zput_n, ti_g, oI_add, oI_sub, oI_mul]
                        first | exact qI_rt (by omega) (by omega) ⟨rfl, by omega⟩ | exact qI_nf ⟨rfl, by omega⟩
                      · refine zok_ck ((q0).1) ?_
                        refine zok_pI (s160 (q0) (by omega) (by omega) (by first | (omega) | ((try simp only [zt0, zt1, zt2, zt3, zt4, zt5, zt6, zt7, zt8, zt9, zt10, zt11, zt12, zt13]); omega)) (G)) (fun y460 u460 p460 => ?_)
                        try simp only [zt0, zt1, zt2, zt3, zt4, zt5, zt6, zt7, zt8, zt9, zt10, zt11, zt12, zt13] at p460
                        simp only [zput_s, zput_n, ti_g, oI_add, oI_sub, oI_mul, zt0, zt1, zt2, zt3, zt4, zt5, zt6, zt7, zt8, zt9, zt10, zt11, zt12, zt13, b180_134]
                        try simp only [zput_s, zput_n, ti_g, oI_add, oI_sub, oI_mul]
                        first | refine zok_ne (by omega) (fun c462 => ?_) (fun c462 => ?_) | refine zok_if (fun c462 => ?_) (fun c462 => ?_)
                        · simp only [zput_s, zput_n, ti_g, oI_add, oI_sub, oI_mul, zt0, zt1, zt2, zt3, zt4, zt5, zt6, zt7, zt8, zt9, zt10, zt11, zt12, zt13, b180_143]
                          try simp only [zput_s, zput_n, ti_g, oI_add, oI_sub, oI_mul]
                          simp only [zput_s, zput_n, ti_g, oI_add, oI_sub, oI_mul, zt0, zt1, zt2, zt3, zt4, zt5, zt6, zt7, zt8, zt9, zt10, zt11, zt12, zt13, b180_144]
                          try simp only [zput_s, zput_n, ti_g, oI_add, oI_sub, oI_mul]
                          first | exact qI_rt (by omega) (by omega) ⟨rfl, by omega⟩ | exact qI_nf ⟨rfl, by omega⟩
                        · simp only [zput_s, zput_n, ti_g, oI_add, oI_sub, oI_mul, zt0, zt1, zt2, zt3, zt4, zt5, zt6, zt7, zt8, zt9, zt10, zt11, zt12, zt13, b180_139]
                          try simp only [zput_s, zput_n, ti_g, oI_add, oI_sub, oI_mul]
                          simp only [zput_s, zput_n, ti_g, oI_add, oI_sub, oI_mul, zt0, zt1, zt2, zt3, zt4, zt5, zt6, zt7, zt8, zt9, zt10, zt11, zt12, zt13, b180_144]
                          try simp only [zput_s, zput_n, ti_g, oI_add, oI_sub, oI_mul]
                          first | exact qI_rt (by omega) (by omega) ⟨rfl, by omega⟩ | exact qI_nf ⟨rfl, by omega⟩
              · refine zok_ck ((q0).1) ?_
                refine zok_pI (s160 (q0) (by omega) (by omega) (by first | (omega) | ((try simp only [zt0, zt1, zt2, zt3, zt4, zt5, zt6, zt7, zt8, zt9, zt10, zt11, zt12, zt13]); omega)) (G)) (fun y467 u467 p467 => ?_)
                try simp only [zt0, zt1, zt2, zt3, zt4, zt5, zt6, zt7, zt8, zt9, zt10, zt11, zt12, zt13] at p467
                simp only [zput_s, zput_n, ti_g, oI_add, oI_sub, oI_mul, zt0, zt1, zt2, zt3, zt4, zt5, zt6, zt7, zt8, zt9, zt10, zt11, zt12, zt13, b180_91]
                try simp only [zput_s, zput_n, ti_g, oI_add, oI_sub, oI_mul]
                first | refine zok_ne (by omega) (fun c469 => ?_) (fun c469 => ?_) | refine zok_if (fun c469 => ?_) (fun c469 => ?_)
                · simp only [zput_s, zput_n, ti_g, oI_add, oI_sub, oI_mul, zt0, zt1, zt2, zt3, zt4, zt5, zt6, zt7, zt8, zt9, zt10, zt11, zt12, zt13, b180_115]
                  try simp only [zput_s, zput_n, ti_g, oI_add, oI_sub, oI_mul]
                  simp only [zput_s, zput_n, ti_g, oI_add, oI_sub, oI_mul, zt0, zt1, zt2, zt3, zt4, zt5, zt6, zt7, zt8, zt9, zt10, zt11, zt12, zt13, b180_116]
                  try simp only [zput_s, zput_n, ti_g, oI_add, oI_sub, oI_mul]
                  simp only [zput_s, zput_n, ti_g, oI_add, oI_sub, oI_mul, zt0, zt1, zt2, zt3, zt4, zt5, zt6, zt7, zt8, zt9, zt10, zt11, zt12, zt13, b180_143]
                  try simp only [zput_s, zput_n, ti_g, oI_add, oI_sub, oI_mul]
                  simp only [zput_s, zput_n, ti_g, oI_add, oI_sub, oI_mul, zt0, zt1, zt2, zt3, zt4, zt5, zt6, zt7, zt8, zt9, zt10, zt11, zt12, zt13, b180_144]
                  try simp only [zput_s, zput_n, ti_g, oI_add, oI_sub, oI_mul]
                  first | exact qI_rt (by omega) (by omega) ⟨rfl, by omega⟩ | exact qI_nf ⟨rfl, by omega⟩
                · simp only [zput_s, zput_n, ti_g, oI_add, oI_sub, oI_mul, zt0, zt1, zt2, zt3, zt4, zt5, zt6, zt7, zt8, zt9, zt10, zt11, zt12, zt13, b180_95]
                  try simp only [zput_s, zput_n, ti_g, oI_add, oI_sub, oI_mul]
                  first | refine zok_eq (by omega) (fun c475 => ?_) (fun c475 => ?_) | refine zok_if (fun c475 => ?_) (fun c475 => ?_)
                  · simp only [zput_s, zput_n, ti_g, oI_add, oI_sub, oI_mul, zt0, zt1, zt2, zt3, zt4, zt5, zt6, zt7, zt8, zt9, zt10, zt11, zt12, zt13, b180_111]
                    try simp only [zput_s, zput_n, ti_g, oI_add, oI_sub, oI_mul]
                    simp only [zput_s, zput_n, ti_g, oI_add, oI_sub, oI_mul, zt0, zt1, zt2, zt3, zt4, zt5, zt6, zt7, zt8, zt9, zt10, zt11, zt12, zt13, b180_116]
                    try simp only [zput_s, zput_n, ti_g, oI_add, oI_sub, oI_mul]
                    first | refine zok_eq (by omega) (fun c478 => ?_) (fun c478 => ?_) | refine zok_if (fun c478 => ?_) (fun c478 => ?_)
                    · simp only [zput_s, zput_n, ti_g, oI_add, oI_sub, oI_mul, zt0, zt1, zt2, zt3, zt4, zt5, zt6, zt7, zt8, zt9, zt10, zt11, zt12, zt13, b180_143]
                      try simp only [zput_s, zput_n, ti_g, oI_add, oI_sub, oI_mul]
                      simp only [zput_s, zput_n, ti_g, oI_add, oI_sub, oI_mul, zt0, zt1, zt2, zt3, zt4, zt5, zt6, zt7, zt8, zt9, zt10, zt11, zt12, zt13, b180_144]
                      try simp only [zput_s, zput_n, ti_g, oI_add, oI_sub, oI_mul]
                      first | exact qI_rt (by omega) (by omega) ⟨rfl, by omega⟩ | exact qI_nf ⟨rfl, by omega⟩
                    · first | refine zok_eq (by omega) (fun c481 => ?_) (fun c481 => ?_) | refine zok_if (fun c481 => ?_) (fun c481 => ?_)
                      · simp only [zput_s, zput_n, ti_g, oI_add, oI_sub, oI_mul, zt0, zt1, zt2, zt3, zt4, zt5, zt6, zt7, zt8, zt9, zt10, zt11, zt12, zt13, b180_139]
                        try simp only [zput_s, zput_n, ti_g, oI_add, oI_sub, oI_mul]
                        simp only [zput_s, zput_n, ti_g, oI_add, oI_sub, oI_mul, zt0, zt1, zt2, zt3, zt4, zt5, zt6, zt7, zt8, zt9, zt10, zt11, zt12, zt13, b180_144]
                        try simp only [zput_s, zput_n, ti_g, oI_add, oI_sub, oI_mul]
                        first | exact qI_rt (by omega) (by omega) ⟨rfl, by omega⟩ | exact qI_nf ⟨rfl, by omega⟩
                      · refine zok_ck ((q0).1) ?_
                        refine zok_pI (s160 (q0) (by omega) (by omega) (by first | (omega) | ((try simp only [zt0, zt1, zt2, zt3, zt4, zt5, zt6, zt7, zt8, zt9, zt10, zt11, zt12, zt13]); omega)) (G)) (fun y484 u484 p484 => ?_)
                        try simp only [zt0, zt1, zt2, zt3, zt4, zt5, zt6, zt7, zt8, zt9, zt10, zt11, zt12, zt13] at p484
                        simp only [zput_s, zput_n, ti_g, oI_add, oI_sub, oI_mul, zt0, zt1, zt2, zt3, zt4, zt5, zt6, zt7, zt8, zt9, zt10, zt11, zt12, zt13, b180_134]
                        try simp only [zput_s, zput_n, ti_g, oI_add, oI_sub, oI_mul]
                        first | refine zok_ne (by omega) (fun c486 => ?_) (fun c486 => ?_) | refine zok_if (fun c486 => ?_) (fun c486 => ?_)
                        · simp only [zput_s, zput_n, ti_g, oI_add, oI_sub, oI_mul, zt0, zt1, zt2, zt3, zt4, zt5, zt6, zt7, zt8, zt9, zt10, zt11, zt12, zt13, b180_143]
                          try simp only [zput_s, zput_n, ti_g, oI_add, oI_sub, oI_mul]
                          simp only [zput_s, zput_n, ti_g, oI_add, oI_sub, oI_mul, zt0, zt1, zt2, zt3, zt4, zt5, zt6, zt7, zt8, zt9, zt10, zt11, zt12, zt13, b180_144]
                          try simp only [zput_s, zput_n, ti_g, oI_add, oI_sub, oI_mul]
                          first | exact qI_rt (by omega) (by omega) ⟨rfl, by omega⟩ | exact qI_nf ⟨rfl, by omega⟩
                        · simp only [zput_s, zput_n, ti_g, oI_add, oI_sub, oI_mul, zt0, zt1, zt2, zt3, zt4, zt5, zt6, zt7, zt8, zt9, zt10, zt11, zt12, zt13, b180_139]
                          try simp only [zput_s, zput_n, ti_g, oI_add, oI_sub, oI_mul]
                          simp only [zput_s, zput_n, ti_g, oI_add, oI_sub, oI_mul, zt0, zt1, zt2, zt3, zt4, zt5, zt6, zt7, zt8, zt9, zt10, zt11, zt12, zt13, b180_144]
                          try simp only [zput_s, zput_n, ti_g, oI_add, oI_sub, oI_mul]
                          first | exact qI_rt (by omega) (by omega) ⟨rfl, by omega⟩ | exact qI_nf ⟨rfl, by omega⟩
                  · refine zok_ck ((q0).1) ?_
                    refine zok_pI (s160 (q0) (by omega) (by omega) (by first | (omega) | ((try simp only [zt0, zt1, zt2, zt3, zt4, zt5, zt6, zt7, zt8, zt9, zt10, zt11, zt12, zt13]); omega)) (G)) (fun y491 u491 p491 => ?_)
                    try simp only [zt0, zt1, zt2, zt3, zt4, zt5, zt6, zt7, zt8, zt9, zt10, zt11, zt12, zt13] at p491
                    simp only [zput_s, zput_n, ti_g, oI_add, oI_sub, oI_mul, zt0, zt1, zt2, zt3, zt4, zt5, zt6, zt7, zt8, zt9, zt10, zt11, zt12, zt13, b180_106]
                    try simp only [zput_s, zput_n, ti_g, oI_add, oI_sub, oI_mul]
                    first | refine zok_ne (by omega) (fun c493 => ?_) (fun c493 => ?_) | refine zok_if (fun c493 => ?_) (fun c493 => ?_)
                    · simp only [zput_s, zput_n, ti_g, oI_add, oI_sub, oI_mul, zt0, zt1, zt2, zt3, zt4, zt5, zt6, zt7, zt8, zt9, zt10, zt11, zt12, zt13, b180_115]
                      try simp only [zput_s, zput_n, ti_g, oI_add, oI_sub, oI_mul]
                      simp only [zput_s, zput_n, ti_g, oI_add, oI_sub, oI_mul, zt0, zt1, zt2, zt3, zt4, zt5, zt6, zt7, zt8, zt9, zt10, zt11, zt12, zt13, b180_116]
                      try simp only [zput_s, zput_n, ti_g, oI_add, oI_sub, oI_mul]
                      simp only [zput_s, zput_n, ti_g, oI_add, oI_sub, oI_mul, zt0, zt1, zt2, zt3, zt4, zt5, zt6, zt7, zt8, zt9, zt10, zt11, zt12, zt13, b180_143]
                      try simp only [zput_s, zput_n, ti_g, oI_add, oI_sub, oI_mul]
                      simp only [zput_s, zput_n, ti_g, oI_add, oI_sub, oI_mul, zt0, zt1, zt2, zt3, zt4, zt5, zt6, zt7, zt8, zt9, zt10, zt11, zt12, zt13, b180_144]
                      try simp only [zput_s, zput_n, ti_g, oI_add, oI_sub, oI_mul]
                      first | exact qI_rt (by omega) (by omega) ⟨rfl, by omega⟩ | exact qI_nf ⟨rfl, by omega⟩
                    · simp only [zput_s, zput_n, ti_g, oI_add, oI_sub, oI_mul, zt0, zt1, zt2, zt3, zt4, zt5, zt6, zt7, zt8, zt9, zt10, zt11, zt12, zt13, b180_111]
                      try simp only [zput_s, zput_n, ti_g, oI_add, oI_sub, oI_mul]
                      simp only [zput_s, zput_n, ti_g, oI_add, oI_sub, oI_mul, zt0, zt1, zt2, zt3, zt4, zt5, zt6, zt7, zt8, zt9, zt10, zt11, zt12, zt13, b180_116]
                      try simp only [zput_s, zput_n, ti_g, oI_add, oI_sub, oI_mul]
                      first | refine zok_eq (by omega) (fun c500 => ?_) (fun c500 => ?_) | refine zok_if (fun c500 => ?_) (fun c500 => ?_)
                      · simp only [zput_s, zput_n, ti_g, oI_add, oI_sub, oI_mul, zt0, zt1, zt2, zt3, zt4, zt5, zt6, zt7, zt8, zt9, zt10, zt11, zt12, zt13, b180_143]
                        try simp only [zput_s, zput_n, ti_g, oI_add, oI_sub, oI_mul]
                        simp only [zput_s, zput_n, ti_g, oI_add, oI_sub, oI_mul, zt0, zt1, zt2, zt3, zt4, zt5, zt6, zt7, zt8, zt9, zt10, zt11, zt12, zt13, b180_144]
                        try simp only [zput_s, zput_n, ti_g, oI_add, oI_sub, oI_mul]
                        first | exact qI_rt (by omega) (by omega) ⟨rfl, by omega⟩ | exact qI_nf ⟨rfl, by omega⟩
                      · first | refine zok_eq (by omega) (fun c503 => ?_) (fun c503 => ?_) | refine zok_if (fun c503 => ?_) (fun c503 => ?_)
                        · simp only [zput_s, zput_n, ti_g, oI_add, oI_sub, oI_mul, zt0, zt1, zt2, zt3, zt4, zt5, zt6, zt7, zt8, zt9, zt10, zt11, zt12, zt13, b180_139]
                          try simp only [zput_s, zput_n, ti_g, oI_add, oI_sub, oI_mul]
                          simp only [zput_s, zput_n, ti_g, oI_add, oI_sub, oI_mul, zt0, zt1, zt2, zt3, zt4, zt5, zt6, zt7, zt8, zt9, zt10, zt11, zt12, zt13, b180_144]
                          try simp only [zput_s, zput_n, ti_g, oI_add, oI_sub, oI_mul]
                          first | exact qI_rt (by omega) (by omega) ⟨rfl, by omega⟩ | exact qI_nf ⟨rfl, by omega⟩
                        · refine zok_ck ((q0).1) ?_
                          refine zok_pI (s160 (q0) (by omega) (by omega) (by first | (omega) | ((try simp only [zt0, zt1, zt2, zt3, zt4, zt5, zt6, zt7, zt8, zt9, zt10, zt11, zt12, zt13]); omega)) (G)) (fun y506 u506 p506 => ?_)
                          try simp only [zt0, zt1, zt2, zt3, zt4, zt5, zt6, zt7, zt8, zt9, zt10, zt11, zt12, zt13] at p506
                          simp only [zput_s, zput_n, ti_g, oI_add, oI_sub, oI_mul, zt0, zt1, zt2, zt3, zt4, zt5, zt6, zt7, zt8, zt9, zt10, zt11, zt12, zt13, b180_134]
                          try simp only [zput_s, zput_n, ti_g, oI_add, oI_sub, oI_mul]
                          first | refine zok_ne (by omega) (fun c508 => ?_) (fun c508 => ?_) | refine zok_if (fun c508 => ?_) (fun c508 => ?_)
                          · simp only [zput_s, zput_n, ti_g, oI_add, oI_sub, oI_mul, zt0, zt1, zt2, zt3, zt4, zt5, zt6, zt7, zt8, zt9, zt10, zt11, zt12, zt13, b180_143]
                            try simp only [zput_s, zput_n, ti_g, oI_add, oI_sub, oI_mul]
                            simp only [zput_s, zput_n, ti_g, oI_add, oI_sub, oI_mul, zt0, zt1, zt2, zt3, zt4, zt5, zt6, zt7, zt8, zt9, zt10, zt11, zt12, zt13, b180_144]
                            try simp only [zput_s, zput_n, ti_g, oI_add, oI_sub, oI_mul]
                            first | exact qI_rt (by omega) (by omega) ⟨rfl, by omega⟩ | exact qI_nf ⟨rfl, by omega⟩
                          · simp only [zput_s, zput_n, ti_g, oI_add, oI_sub, oI_mul, zt0, zt1, zt2, zt3, zt4, zt5, zt6, zt7, zt8, zt9, zt10, zt11, zt12, zt13, b180_139]
                            try simp only [zput_s, zput_n, ti_g, oI_add, oI_sub, oI_mul]
                            simp only [zput_s, zput_n, ti_g, oI_add, oI_sub, oI_mul, zt0, zt1, zt2, zt3, zt4, zt5, zt6, zt7, zt8, zt9, zt10, zt11, zt12, zt13, b180_144]
                            try simp only [zput_s, zput_n, ti_g, oI_add, oI_sub, oI_mul]
                            first | exact qI_rt (by omega) (by omega) ⟨rfl, by omega⟩ | exact qI_nf ⟨rfl, by omega⟩
/-! X9_ownPort -/
theorem s181 {sh : zSh} {t : zSt} {MB : Nat} {r0 : Nat} (q0 : zMd sh MB r0) (G : GI sh r0 t) : zok (zcl zP 181 [zR r0] (sh, t)) (qI (fun x t' => t' = t ∧ (-1 ≤ x ∧ x ≤ 443)) sh) := by
  have ha0_1 : (sk sh (sr sh r0 1)).2 = 21000 := by rw [q0.2.2.2.2.1]
  have ha0_2 : (sk sh (sr sh r0 2)).2 = 14 := by rw [q0.2.2.2.2.2.1]
  have ha0_3 : (sk sh (sr sh r0 3)).2 = 98 := by rw [q0.2.2.2.2.2.2.1]
  have ha0_4 : (sk sh (sr sh r0 4)).2 = 98 := by rw [q0.2.2.2.2.2.2.2.1]
  have ha0_8 : (sk sh (sr sh r0 8)).2 = 1500 := by rw [q0.2.2.2.2.2.2.2.2.1]
  have ha0_9 : (sk sh (sr sh r0 9)).2 = 10500 := by rw [q0.2.2.2.2.2.2.2.2.2.1]
  have ha0_10 : (sk sh (sr sh r0 10)).2 = 7 := by rw [q0.2.2.2.2.2.2.2.2.2.2.1]
  have ha0_11 : (sk sh (sr sh r0 11)).2 = 7 := by rw [q0.2.2.2.2.2.2.2.2.2.2.2.1]
  have ha0_12 : (sk sh (sr sh r0 12)).2 = 1500 := by rw [q0.2.2.2.2.2.2.2.2.2.2.2.2.1]
  have ha0_13 : (sk sh (sr sh r0 13)).2 = 1500 := by rw [q0.2.2.2.2.2.2.2.2.2.2.2.2.2.1]
  have ha0_14 : (sk sh (sr sh r0 14)).2 = 20 := by rw [q0.2.2.2.2.2.2.2.2.2.2.2.2.2.2]
  rw [b181_0]
  try simp only [zput_s, zput_n, ti_g, oI_add, oI_sub, oI_mul]
  refine zok_ck ((q0).1) ?_
  refine zok_pI (s180 (q0) (by omega) (by omega) (by omega) (by omega) (by omega) (G)) (fun y2 u2 p2 => ?_)
  try simp only [zt0, zt1, zt2, zt3, zt4, zt5, zt6, zt7, zt8, zt9, zt10, zt11, zt12, zt13] at p2
  simp only [zput_s, zput_n, ti_g, oI_add, oI_sub, oI_mul, zt0, zt1, zt2, zt3, zt4, zt5, zt6, zt7, zt8, zt9, zt10, zt11, zt12, zt13, b181_13]
  try simp only [zput_s, zput_n, ti_g, oI_add, oI_sub, oI_mul]
  first | refine zok_ne (by omega) (fun c4 => ?_) (fun c4 => ?_) | refine zok_if (fun c4 => ?_) (fun c4 => ?_)
  · first | exact qI_rt (by omega) (by omega) ⟨rfl, by omega⟩ | exact qI_nf ⟨rfl, by omega⟩
  · refine zok_ck ((q0).1) ?_
    refine zok_pI (s180 (q0) (by omega) (by omega) (by omega) (by omega) (by omega) (G)) (fun y5 u5 p5 => ?_)
    try simp only [zt0, zt1, zt2, zt3, zt4, zt5, zt6, zt7, zt8, zt9, zt10, zt11, zt12, zt13] at p5
    simp only [zput_s, zput_n, ti_g, oI_add, oI_sub, oI_mul, zt0, zt1, zt2, zt3, zt4, zt5, zt6, zt7, zt8, zt9, zt10, zt11, zt12, zt13, b181_27]
    try simp only [zput_s, zput_n, ti_g, oI_add, oI_sub, oI_mul]
    first | refine zok_eq (by omega) (fun c7 => ?_) (fun c7 => ?_) | refine zok_if (fun c7 => ?_) (fun c7 => ?_)
    · refine zok_ck ((q0).1) ?_
      refine zok_pI (s180 (q0) (by omega) (by omega) (by omega) (by omega) (by omega) (G)) (fun y8 u8 p8 => ?_)
      try simp only [zt0, zt1, zt2, zt3, zt4, zt5, zt6, zt7, zt8, zt9, zt10, zt11, zt12, zt13] at p8
      simp only [zput_s, zput_n, ti_g, oI_add, oI_sub, oI_mul, zt0, zt1, zt2, zt3, zt4, zt5, zt6, zt7, zt8, zt9, zt10, zt11, zt12, zt13, b181_47]
      try simp only [zput_s, zput_n, ti_g, oI_add, oI_sub, oI_mul]
      first | refine zok_ne (by omega) (fun c10 => ?_) (fun c10 => ?_) | refine zok_if (fun c10 => ?_) (fun c10 => ?_)
      · first | exact qI_rt (by omega) (by omega) ⟨rfl, by omega⟩ | exact qI_nf ⟨rfl, by omega⟩
      · refine zok_ck ((q0).1) ?_
        refine zok_pI (s180 (q0) (by omega) (by omega) (by omega) (by omega) (by omega) (G)) (fun y11 u11 p11 => ?_)
        try simp only [zt0, zt1, zt2, zt3, zt4, zt5, zt6, zt7, zt8, zt9, zt10, zt11, zt12, zt13] at p11
        simp only [zput_s, zput_n, ti_g, oI_add, oI_sub, oI_mul, zt0, zt1, zt2, zt3, zt4, zt5, zt6, zt7, zt8, zt9, zt10, zt11, zt12, zt13, b181_62]
        try simp only [zput_s, zput_n, ti_g, oI_add, oI_sub, oI_mul]
        first | refine zok_eq (by omega) (fun c13 => ?_) (fun c13 => ?_) | refine zok_if (fun c13 => ?_) (fun c13 => ?_)
        · refine zok_ck ((q0).1) ?_
          refine zok_pI (s180 (q0) (by omega) (by omega) (by omega) (by omega) (by omega) (G)) (fun y14 u14 p14 => ?_)
          try simp only [zt0, zt1, zt2, zt3, zt4, zt5, zt6, zt7, zt8, zt9, zt10, zt11, zt12, zt13] at p14
          simp only [zput_s, zput_n, ti_g, oI_add, oI_sub, oI_mul, zt0, zt1, zt2, zt3, zt4, zt5, zt6, zt7, zt8, zt9, zt10, zt11, zt12, zt13, b181_81]
          try simp only [zput_s, zput_n, ti_g, oI_add, oI_sub, oI_mul]
          first | refine zok_eq (by omega) (fun c16 => ?_) (fun c16 => ?_) | refine zok_if (fun c16 => ?_) (fun c16 => ?_)
          · first | exact qI_rt (by omega) (by omega) ⟨rfl, by omega⟩ | exact qI_nf ⟨rfl, by omega⟩
          · first | exact qI_rt (by omega) (by omega) ⟨rfl, by omega⟩ | exact qI_nf ⟨rfl, by omega⟩
        · first | exact qI_rt (by omega) (by omega) ⟨rfl, by omega⟩ | exact qI_nf ⟨rfl, by omega⟩
    · first | exact qI_rt (by omega) (by omega) ⟨rfl, by omega⟩ | exact qI_nf ⟨rfl, by omega⟩
/-! X9_zerosFrom -/
theorem l183_2 {sh : zSh} {t : zSt} {MB : Nat} {r0 : Nat} (q0 : zMd sh MB r0) {x1 : Int} (u1 : -2147483648 ≤ x1 ∧ x1 ≤ 2147483647) (d1 : 0 ≤ x1 ∧ x1 ≤ 8) (G : GI sh r0 t) : ∀ (n : Nat) (x2 : Int) , (-2147483648 ≤ x2 ∧ x2 ≤ 2147483647) ∧ (0 ≤ x2 ∧ x1 + x2 ≤ 8) → (8 - x1 - x2).toNat < n → zok (zev zP 183 2 [some (zR r0), some (zI (oI x1)), some (zI (oI x2))] [] (sh, t)) (qI (fun x t' => t' = t ∧ (0 ≤ x ∧ x1 + x ≤ 8)) sh) := by
  intro n
  induction n with
  | zero => intro x2  _ hm; omega
  | succ n ih =>
    intro x2  hv hm
    have ha0_1 : (sk sh (sr sh r0 1)).2 = 21000 := by rw [q0.2.2.2.2.1]
    have ha0_2 : (sk sh (sr sh r0 2)).2 = 14 := by rw [q0.2.2.2.2.2.1]
    have ha0_3 : (sk sh (sr sh r0 3)).2 = 98 := by rw [q0.2.2.2.2.2.2.1]
    have ha0_4 : (sk sh (sr sh r0 4)).2 = 98 := by rw [q0.2.2.2.2.2.2.2.1]
    have ha0_8 : (sk sh (sr sh r0 8)).2 = 1500 := by rw [q0.2.2.2.2.2.2.2.2.1]
    have ha0_9 : (sk sh (sr sh r0 9)).2 = 10500 := by rw [q0.2.2.2.2.2.2.2.2.2.1]
    have ha0_10 : (sk sh (sr sh r0 10)).2 = 7 := by rw [q0.2.2.2.2.2.2.2.2.2.2.1]
    have ha0_11 : (sk sh (sr sh r0 11)).2 = 7 := by rw [q0.2.2.2.2.2.2.2.2.2.2.2.1]
    have ha0_12 : (sk sh (sr sh r0 12)).2 = 1500 := by rw [q0.2.2.2.2.2.2.2.2.2.2.2.2.1]
    have ha0_13 : (sk sh (sr sh r0 13)).2 = 1500 := by rw [q0.2.2.2.2.2.2.2.2.2.2.2.2.2.1]
    have ha0_14 : (sk sh (sr sh r0 14)).2 = 20 := by rw [q0.2.2.2.2.2.2.2.2.2.2.2.2.2.2]
    rw [b183_2]
    try simp only [zput_s, zput_n, ti_g, oI_add, oI_sub, oI_mul]
    first | refine zok_le (by omega) (fun c2 => ?_) (fun c2 => ?_) | refine zok_if (fun c2 => ?_) (fun c2 => ?_)
    · first | exact qI_rt (by omega) (by omega) ⟨rfl, by omega⟩ | exact qI_nf ⟨rfl, by omega⟩
    · refine zok_ck ((q0).1) ?_
      refine zok_ck ⟨(by rw [(q0).2.2.2.2.2.2.2.2.2.2.2.2.2.2]), zin_o (by omega) (by omega) (by omega)⟩ ?_
      try rw [nN_o (a := (x1) + (x2)) (by omega) (by omega)]
      try simp only [zput_s, zput_n, ti_g, oI_add, oI_sub, oI_mul, zt0, zt1, zt2, zt3, zt4, zt5, zt6, zt7, zt8, zt9, zt10, zt11, zt12, zt13]
      have gl3 := And.intro (tg_lo t (sr sh r0 14) (((x1) + (x2)).toNat)) (tg_hi t (sr sh r0 14) (((x1) + (x2)).toNat))
      try simp only [zt0, zt1, zt2, zt3, zt4, zt5, zt6, zt7, zt8, zt9, zt10, zt11, zt12, zt13] at gl3
      first | refine zok_ne (by omega) (fun c4 => ?_) (fun c4 => ?_) | refine zok_if (fun c4 => ?_) (fun c4 => ?_)
      · first | exact qI_rt (by omega) (by omega) ⟨rfl, by omega⟩ | exact qI_nf ⟨rfl, by omega⟩
      · try simp only [zput_s, zput_n, ti_g, oI_add, oI_sub, oI_mul]
        exact ih _ (by first | omega | ((try simp only [zt0, zt1, zt2, zt3, zt4, zt5, zt6, zt7, zt8, zt9, zt10, zt11, zt12, zt13]); omega)) (by first | omega | ((try simp only [zt0, zt1, zt2, zt3, zt4, zt5, zt6, zt7, zt8, zt9, zt10, zt11, zt12, zt13]); omega))
theorem s183 {sh : zSh} {t : zSt} {MB : Nat} {r0 : Nat} (q0 : zMd sh MB r0) {x1 : Int} (u1 : -2147483648 ≤ x1 ∧ x1 ≤ 2147483647) (d1 : 0 ≤ x1 ∧ x1 ≤ 8) (G : GI sh r0 t) : zok (zcl zP 183 [zR r0, zI (oI x1)] (sh, t)) (qI (fun x t' => t' = t ∧ (0 ≤ x ∧ x1 + x ≤ 8)) sh) := by
  have ha0_1 : (sk sh (sr sh r0 1)).2 = 21000 := by rw [q0.2.2.2.2.1]
  have ha0_2 : (sk sh (sr sh r0 2)).2 = 14 := by rw [q0.2.2.2.2.2.1]
  have ha0_3 : (sk sh (sr sh r0 3)).2 = 98 := by rw [q0.2.2.2.2.2.2.1]
  have ha0_4 : (sk sh (sr sh r0 4)).2 = 98 := by rw [q0.2.2.2.2.2.2.2.1]
  have ha0_8 : (sk sh (sr sh r0 8)).2 = 1500 := by rw [q0.2.2.2.2.2.2.2.2.1]
  have ha0_9 : (sk sh (sr sh r0 9)).2 = 10500 := by rw [q0.2.2.2.2.2.2.2.2.2.1]
  have ha0_10 : (sk sh (sr sh r0 10)).2 = 7 := by rw [q0.2.2.2.2.2.2.2.2.2.2.1]
  have ha0_11 : (sk sh (sr sh r0 11)).2 = 7 := by rw [q0.2.2.2.2.2.2.2.2.2.2.2.1]
  have ha0_12 : (sk sh (sr sh r0 12)).2 = 1500 := by rw [q0.2.2.2.2.2.2.2.2.2.2.2.2.1]
  have ha0_13 : (sk sh (sr sh r0 13)).2 = 1500 := by rw [q0.2.2.2.2.2.2.2.2.2.2.2.2.2.1]
  have ha0_14 : (sk sh (sr sh r0 14)).2 = 20 := by rw [q0.2.2.2.2.2.2.2.2.2.2.2.2.2.2]
  rw [b183_0]
  try simp only [zput_s, zput_n, ti_g, oI_add, oI_sub, oI_mul]
  try simp only [zput_s, zput_n, ti_g, oI_add, oI_sub, oI_mul]
  exact l183_2 q0 (by omega) d1 G _ _ (by first | omega | ((try simp only [zt0, zt1, zt2, zt3, zt4, zt5, zt6, zt7, zt8, zt9, zt10, zt11, zt12, zt13]); omega)) (Nat.lt_succ_self _)
/-! X9_bracketOf -/
theorem s147 {sh : zSh} {t : zSt} {MB : Nat} {r0 : Nat} (q0 : zMd sh MB r0) {x1 : Int} (u1 : -2147483648 ≤ x1 ∧ x1 ≤ 2147483647) (d1 : 0 ≤ x1 ∧ x1 ≤ 13) (G : GI sh r0 t) : zok (zcl zP 147 [zR r0, zI (oI x1)] (sh, t)) (qI (fun x t' => t' = t ∧ (x = -1 ∨ (0 ≤ x ∧ tg t (sr sh r0 3) (7 * x1 + 2).toNat ≤ x ∧ x < tg t (sr sh r0 4) (7 * x1 + 2).toNat))) sh) := by
  have ha0_1 : (sk sh (sr sh r0 1)).2 = 21000 := by rw [q0.2.2.2.2.1]
  have ha0_2 : (sk sh (sr sh r0 2)).2 = 14 := by rw [q0.2.2.2.2.2.1]
  have ha0_3 : (sk sh (sr sh r0 3)).2 = 98 := by rw [q0.2.2.2.2.2.2.1]
  have ha0_4 : (sk sh (sr sh r0 4)).2 = 98 := by rw [q0.2.2.2.2.2.2.2.1]
  have ha0_8 : (sk sh (sr sh r0 8)).2 = 1500 := by rw [q0.2.2.2.2.2.2.2.2.1]
  have ha0_9 : (sk sh (sr sh r0 9)).2 = 10500 := by rw [q0.2.2.2.2.2.2.2.2.2.1]
  have ha0_10 : (sk sh (sr sh r0 10)).2 = 7 := by rw [q0.2.2.2.2.2.2.2.2.2.2.1]
  have ha0_11 : (sk sh (sr sh r0 11)).2 = 7 := by rw [q0.2.2.2.2.2.2.2.2.2.2.2.1]
  have ha0_12 : (sk sh (sr sh r0 12)).2 = 1500 := by rw [q0.2.2.2.2.2.2.2.2.2.2.2.2.1]
  have ha0_13 : (sk sh (sr sh r0 13)).2 = 1500 := by rw [q0.2.2.2.2.2.2.2.2.2.2.2.2.2.1]
  have ha0_14 : (sk sh (sr sh r0 14)).2 = 20 := by rw [q0.2.2.2.2.2.2.2.2.2.2.2.2.2.2]
  rw [b147_0]
  try simp only [zput_s, zput_n, ti_g, oI_add, oI_sub, oI_mul]
  refine zok_ck ((q0).1) ?_
  refine zok_ck ⟨(by rw [(q0).2.2.2.2.2.2.1]), zin_o (by omega) (by omega) (by omega)⟩ ?_
  try rw [nN_o (a := ((7) * (x1)) + (2)) (by omega) (by omega)]
  try simp only [zput_s, zput_n, ti_g, oI_add, oI_sub, oI_mul, zt0, zt1, zt2, zt3, zt4, zt5, zt6, zt7, zt8, zt9, zt10, zt11, zt12, zt13]
  have gl2 := And.intro (tg_lo t (sr sh r0 3) ((((7) * (x1)) + (2)).toNat)) (tg_hi t (sr sh r0 3) ((((7) * (x1)) + (2)).toNat))
  have gm2 := (G).2.1 ((((7) * (x1)) + (2)).toNat) (by omega)
  try simp only [zt0, zt1, zt2, zt3, zt4, zt5, zt6, zt7, zt8, zt9, zt10, zt11, zt12, zt13] at gl2
  try simp only [zt0, zt1, zt2, zt3, zt4, zt5, zt6, zt7, zt8, zt9, zt10, zt11, zt12, zt13] at gm2
  refine zok_ck ((q0).1) ?_
  refine zok_ck ⟨(by rw [(q0).2.2.2.2.2.2.2.1]), zin_o (by omega) (by omega) (by omega)⟩ ?_
  try rw [nN_o (a := ((7) * (x1)) + (2)) (by omega) (by omega)]
  try simp only [zput_s, zput_n, ti_g, oI_add, oI_sub, oI_mul, zt0, zt1, zt2, zt3, zt4, zt5, zt6, zt7, zt8, zt9, zt10, zt11, zt12, zt13]
  have gl3 := And.intro (tg_lo t (sr sh r0 4) ((((7) * (x1)) + (2)).toNat)) (tg_hi t (sr sh r0 4) ((((7) * (x1)) + (2)).toNat))
  have gm3 := (G).2.1 ((((7) * (x1)) + (2)).toNat) (by omega)
  try simp only [zt0, zt1, zt2, zt3, zt4, zt5, zt6, zt7, zt8, zt9, zt10, zt11, zt12, zt13] at gl3
  try simp only [zt0, zt1, zt2, zt3, zt4, zt5, zt6, zt7, zt8, zt9, zt10, zt11, zt12, zt13] at gm3
  first | refine zok_le (by omega) (fun c4 => ?_) (fun c4 => ?_) | refine zok_if (fun c4 => ?_) (fun c4 => ?_)
  · refine zok_ck ((q0).1) ?_
    refine zok_pI (s129 (q0) (by omega) (by omega) (by omega) (by omega) (by first | (omega) | ((try simp only [zt0, zt1, zt2, zt3, zt4, zt5, zt6, zt7, zt8, zt9, zt10, zt11, zt12, zt13]); omega)) (by first | (omega) | ((try simp only [zt0, zt1, zt2, zt3, zt4, zt5, zt6, zt7, zt8, zt9, zt10, zt11, zt12, zt13]); omega)) (G)) (fun y5 u5 p5 => ?_)
    try simp only [zt0, zt1, zt2, zt3, zt4, zt5, zt6, zt7, zt8, zt9, zt10, zt11, zt12, zt13] at p5
    simp only [zput_s, zput_n, ti_g, oI_add, oI_sub, oI_mul, zt0, zt1, zt2, zt3, zt4, zt5, zt6, zt7, zt8, zt9, zt10, zt11, zt12, zt13, b147_41]
    try simp only [zput_s, zput_n, ti_g, oI_add, oI_sub, oI_mul]
    first | refine zok_ne (by omega) (fun c7 => ?_) (fun c7 => ?_) | refine zok_if (fun c7 => ?_) (fun c7 => ?_)
    · first | exact qI_rt (by omega) (by omega) ⟨rfl, by omega⟩ | exact qI_nf ⟨rfl, by omega⟩
    · first | exact qI_rt (by omega) (by omega) ⟨rfl, by omega⟩ | exact qI_nf ⟨rfl, by omega⟩
  · simp only [zput_s, zput_n, ti_g, oI_add, oI_sub, oI_mul, zt0, zt1, zt2, zt3, zt4, zt5, zt6, zt7, zt8, zt9, zt10, zt11, zt12, zt13, b147_41]
    try simp only [zput_s, zput_n, ti_g, oI_add, oI_sub, oI_mul]
    first | refine zok_ne (by omega) (fun c9 => ?_) (fun c9 => ?_) | refine zok_if (fun c9 => ?_) (fun c9 => ?_)
    · first | exact qI_rt (by omega) (by omega) ⟨rfl, by omega⟩ | exact qI_nf ⟨rfl, by omega⟩
    · first | exact qI_rt (by omega) (by omega) ⟨rfl, by omega⟩ | exact qI_nf ⟨rfl, by omega⟩
