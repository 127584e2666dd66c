set_option maxRecDepth 16384
/-! X9_in -/
theorem s120 {sh : zSh} {t : zSt} {x0 : Int} (u0 : -2147483648 ≤ x0 ∧ x0 ≤ 2147483647) {x1 : Int} (u1 : -2147483648 ≤ x1 ∧ x1 ≤ 2147483647) {x2 : Int} (u2 : -2147483648 ≤ x2 ∧ x2 ≤ 2147483647) : zok (zcl zP 120 [zI (oI x0), zI (oI x1), zI (oI x2)] (sh, t)) (qI (fun x t' => t' = t ∧ ((x = 1 ∧ x1 ≤ x0 ∧ x0 ≤ x2) ∨ (x = 0 ∧ ¬ (x1 ≤ x0 ∧ x0 ≤ x2)))) sh) := by
  rw [b120_0]
  try simp only [zput_s, zput_n, ti_g, oI_add, oI_sub, oI_mul]
  first | refine zok_lt (by omega) (fun c2 => ?_) (fun c2 => ?_) | refine zok_if (fun c2 => ?_) (fun c2 => ?_)
  · first | exact qI_rt (by omega) (by omega) ⟨rfl, by omega⟩ | exact qI_nf ⟨rfl, by omega⟩
  · first | refine zok_lt (by omega) (fun c3 => ?_) (fun c3 => ?_) | refine zok_if (fun c3 => ?_) (fun c3 => ?_)
    · first | exact qI_rt (by omega) (by omega) ⟨rfl, by omega⟩ | exact qI_nf ⟨rfl, by omega⟩
    · first | exact qI_rt (by omega) (by omega) ⟨rfl, by omega⟩ | exact qI_nf ⟨rfl, by omega⟩
/-! X9_isDigit -/
theorem s121 {sh : zSh} {t : zSt} {x0 : Int} (u0 : -2147483648 ≤ x0 ∧ x0 ≤ 2147483647) : zok (zcl zP 121 [zI (oI x0)] (sh, t)) (qI (fun x t' => t' = t ∧ ((x = 1 ∧ 48 ≤ x0 ∧ x0 ≤ 57) ∨ (x = 0 ∧ ¬ (48 ≤ x0 ∧ x0 ≤ 57)))) sh) := by
  rw [b121_0]
  try simp only [zput_s, zput_n, ti_g, oI_add, oI_sub, oI_mul]
  refine zok_pI (s120 (by omega) (by omega) (by omega)) (fun y2 u2 p2 => ?_)
  try simp only [zt0, zt1, zt2, zt3, zt4, zt5, zt6, zt7, zt8, zt9, zt10, zt11, zt12, zt13] at p2
  simp only [zput_s, zput_n, ti_g, oI_add, oI_sub, oI_mul, zt0, zt1, zt2, zt3, zt4, zt5, zt6, zt7, zt8, zt9, zt10, zt11, zt12, zt13, b121_8]
  try simp only [zput_s, zput_n, ti_g, oI_add, oI_sub, oI_mul]
  refine zok_ck (by first | exact fun _ => bool_p (by omega) | exact bool_p (by omega)) ?_
  first | exact qI_rt (by omega) (by omega) ⟨rfl, by omega⟩ | exact qI_nf ⟨rfl, by omega⟩
/-! X9_isLetter -/
theorem s122 {sh : zSh} {t : zSt} {x0 : Int} (u0 : -2147483648 ≤ x0 ∧ x0 ≤ 2147483647) : zok (zcl zP 122 [zI (oI x0)] (sh, t)) (qI (fun x t' => t' = t ∧ (x = 0 ∨ x = 1)) sh) := by
  rw [b122_0]
  try simp only [zput_s, zput_n, ti_g, oI_add, oI_sub, oI_mul]
  refine zok_pI (s120 (by omega) (by omega) (by omega)) (fun y2 u2 p2 => ?_)
  try simp only [zt0, zt1, zt2, zt3, zt4, zt5, zt6, zt7, zt8, zt9, zt10, zt11, zt12, zt13] at p2
  simp only [zput_s, zput_n, ti_g, oI_add, oI_sub, oI_mul, zt0, zt1, zt2, zt3, zt4, zt5, zt6, zt7, zt8, zt9, zt10, zt11, zt12, zt13, b122_8]
  try simp only [zput_s, zput_n, ti_g, oI_add, oI_sub, oI_mul]
  first | refine zok_ne (by omega) (fun c4 => ?_) (fun c4 => ?_) | refine zok_if (fun c4 => ?_) (fun c4 => ?_)
  · first | exact qI_rt (by omega) (by omega) ⟨rfl, by omega⟩ | exact qI_nf ⟨rfl, by omega⟩
  · refine zok_pI (s120 (by omega) (by omega) (by omega)) (fun y5 u5 p5 => ?_)
    try simp only [zt0, zt1, zt2, zt3, zt4, zt5, zt6, zt7, zt8, zt9, zt10, zt11, zt12, zt13] at p5
    simp only [zput_s, zput_n, ti_g, oI_add, oI_sub, oI_mul, zt0, zt1, zt2, zt3, zt4, zt5, zt6, zt7, zt8, zt9, zt10, zt11, zt12, zt13, b122_19]
    try simp only [zput_s, zput_n, ti_g, oI_add, oI_sub, oI_mul]
    first | refine zok_eq (by omega) (fun c7 => ?_) (fun c7 => ?_) | refine zok_if (fun c7 => ?_) (fun c7 => ?_)
    · first | exact qI_rt (by omega) (by omega) ⟨rfl, by omega⟩ | exact qI_nf ⟨rfl, by omega⟩
    · first | exact qI_rt (by omega) (by omega) ⟨rfl, by omega⟩ | exact qI_nf ⟨rfl, by omega⟩
/-! X9_isFree -/
theorem s123 {sh : zSh} {t : zSt} {x0 : Int} (u0 : -2147483648 ≤ x0 ∧ x0 ≤ 2147483647) : zok (zcl zP 123 [zI (oI x0)] (sh, t)) (qI (fun x t' => t' = t ∧ (x = 0 ∨ x = 1)) sh) := by
  rw [b123_0]
  try simp only [zput_s, zput_n, ti_g, oI_add, oI_sub, oI_mul]
  refine zok_pI (s122 (by omega)) (fun y2 u2 p2 => ?_)
  try simp only [zt0, zt1, zt2, zt3, zt4, zt5, zt6, zt7, zt8, zt9, zt10, zt11, zt12, zt13] at p2
  simp only [zput_s, zput_n, ti_g, oI_add, oI_sub, oI_mul, zt0, zt1, zt2, zt3, zt4, zt5, zt6, zt7, zt8, zt9, zt10, zt11, zt12, zt13, b123_4]
  try simp only [zput_s, zput_n, ti_g, oI_add, oI_sub, oI_mul]
  first | refine zok_ne (by omega) (fun c4 => ?_) (fun c4 => ?_) | refine zok_if (fun c4 => ?_) (fun c4 => ?_)
  · first | exact qI_rt (by omega) (by omega) ⟨rfl, by omega⟩ | exact qI_nf ⟨rfl, by omega⟩
  · refine zok_pI (s121 (by omega)) (fun y5 u5 p5 => ?_)
    try simp only [zt0, zt1, zt2, zt3, zt4, zt5, zt6, zt7, zt8, zt9, zt10, zt11, zt12, zt13] at p5
    simp only [zput_s, zput_n, ti_g, oI_add, oI_sub, oI_mul, zt0, zt1, zt2, zt3, zt4, zt5, zt6, zt7, zt8, zt9, zt10, zt11, zt12, zt13, b123_11]
    try simp only [zput_s, zput_n, ti_g, oI_add, oI_sub, oI_mul]
    first | refine zok_ne (by omega) (fun c7 => ?_) (fun c7 => ?_) | refine zok_if (fun c7 => ?_) (fun c7 => ?_)
    · first | exact qI_rt (by omega) (by omega) ⟨rfl, by omega⟩ | exact qI_nf ⟨rfl, by omega⟩
    · first | refine zok_eq (by omega) (fun c8 => ?_) (fun c8 => ?_) | refine zok_if (fun c8 => ?_) (fun c8 => ?_)
      · first | exact qI_rt (by omega) (by omega) ⟨rfl, by omega⟩ | exact qI_nf ⟨rfl, by omega⟩
      · first | refine zok_eq (by omega) (fun c9 => ?_) (fun c9 => ?_) | refine zok_if (fun c9 => ?_) (fun c9 => ?_)
        · first | exact qI_rt (by omega) (by omega) ⟨rfl, by omega⟩ | exact qI_nf ⟨rfl, by omega⟩
        · first | refine zok_eq (by omega) (fun c10 => ?_) (fun c10 => ?_) | refine zok_if (fun c10 => ?_) (fun c10 => ?_)
          · first | exact qI_rt (by omega) (by omega) ⟨rfl, by omega⟩ | exact qI_nf ⟨rfl, by omega⟩
          · first | refine zok_ne (by omega) (fun c11 => ?_) (fun c11 => ?_) | refine zok_if (fun c11 => ?_) (fun c11 => ?_)
            · first | exact qI_rt (by omega) (by omega) ⟨rfl, by omega⟩ | exact qI_nf ⟨rfl, by omega⟩
            · first | exact qI_rt (by omega) (by omega) ⟨rfl, by omega⟩ | exact qI_nf ⟨rfl, by omega⟩
/-! X9_isSub -/
theorem s124 {sh : zSh} {t : zSt} {x0 : Int} (u0 : -2147483648 ≤ x0 ∧ x0 ≤ 2147483647) : zok (zcl zP 124 [zI (oI x0)] (sh, t)) (qI (fun x t' => t' = t ∧ (x = 0 ∨ x = 1)) sh) := by
  rw [b124_0]
  try simp only [zput_s, zput_n, ti_g, oI_add, oI_sub, oI_mul]
  first | refine zok_eq (by omega) (fun c2 => ?_) (fun c2 => ?_) | refine zok_if (fun c2 => ?_) (fun c2 => ?_)
  · first | exact qI_rt (by omega) (by omega) ⟨rfl, by omega⟩ | exact qI_nf ⟨rfl, by omega⟩
  · first | refine zok_eq (by omega) (fun c3 => ?_) (fun c3 => ?_) | refine zok_if (fun c3 => ?_) (fun c3 => ?_)
    · first | exact qI_rt (by omega) (by omega) ⟨rfl, by omega⟩ | exact qI_nf ⟨rfl, by omega⟩
    · refine zok_pI (s120 (by omega) (by omega) (by omega)) (fun y4 u4 p4 => ?_)
      try simp only [zt0, zt1, zt2, zt3, zt4, zt5, zt6, zt7, zt8, zt9, zt10, zt11, zt12, zt13] at p4
      simp only [zput_s, zput_n, ti_g, oI_add, oI_sub, oI_mul, zt0, zt1, zt2, zt3, zt4, zt5, zt6, zt7, zt8, zt9, zt10, zt11, zt12, zt13, b124_20]
      try simp only [zput_s, zput_n, ti_g, oI_add, oI_sub, oI_mul]
      first | refine zok_ne (by omega) (fun c6 => ?_) (fun c6 => ?_) | refine zok_if (fun c6 => ?_) (fun c6 => ?_)
      · first | exact qI_rt (by omega) (by omega) ⟨rfl, by omega⟩ | exact qI_nf ⟨rfl, by omega⟩
      · first | refine zok_eq (by omega) (fun c7 => ?_) (fun c7 => ?_) | refine zok_if (fun c7 => ?_) (fun c7 => ?_)
        · first | exact qI_rt (by omega) (by omega) ⟨rfl, by omega⟩ | exact qI_nf ⟨rfl, by omega⟩
        · first | refine zok_ne (by omega) (fun c8 => ?_) (fun c8 => ?_) | refine zok_if (fun c8 => ?_) (fun c8 => ?_)
          · first | exact qI_rt (by omega) (by omega) ⟨rfl, by omega⟩ | exact qI_nf ⟨rfl, by omega⟩
          · first | exact qI_rt (by omega) (by omega) ⟨rfl, by omega⟩ | exact qI_nf ⟨rfl, by omega⟩
/-! X9_worth -/
theorem s125 {sh : zSh} {t : zSt} {x0 : Int} (u0 : -2147483648 ≤ x0 ∧ x0 ≤ 2147483647) : zok (zcl zP 125 [zI (oI x0)] (sh, t)) (qI (fun x t' => t' = t ∧ (-1 ≤ x ∧ x ≤ 15)) sh) := by
  rw [b125_0]
  try simp only [zput_s, zput_n, ti_g, oI_add, oI_sub, oI_mul]
  refine zok_pI (s121 (by omega)) (fun y2 u2 p2 => ?_)
  try simp only [zt0, zt1, zt2, zt3, zt4, zt5, zt6, zt7, zt8, zt9, zt10, zt11, zt12, zt13] at p2
  simp only [zput_s, zput_n, ti_g, oI_add, oI_sub, oI_mul, zt0, zt1, zt2, zt3, zt4, zt5, zt6, zt7, zt8, zt9, zt10, zt11, zt12, zt13, b125_4]
  try simp only [zput_s, zput_n, ti_g, oI_add, oI_sub, oI_mul]
  first | refine zok_eq (by omega) (fun c4 => ?_) (fun c4 => ?_) | refine zok_if (fun c4 => ?_) (fun c4 => ?_)
  · refine zok_pI (s120 (by omega) (by omega) (by omega)) (fun y5 u5 p5 => ?_)
    try simp only [zt0, zt1, zt2, zt3, zt4, zt5, zt6, zt7, zt8, zt9, zt10, zt11, zt12, zt13] at p5
    simp only [zput_s, zput_n, ti_g, oI_add, oI_sub, oI_mul, zt0, zt1, zt2, zt3, zt4, zt5, zt6, zt7, zt8, zt9, zt10, zt11, zt12, zt13, b125_22]
    try simp only [zput_s, zput_n, ti_g, oI_add, oI_sub, oI_mul]
    first | refine zok_eq (by omega) (fun c7 => ?_) (fun c7 => ?_) | refine zok_if (fun c7 => ?_) (fun c7 => ?_)
    · refine zok_pI (s120 (by omega) (by omega) (by omega)) (fun y8 u8 p8 => ?_)
      try simp only [zt0, zt1, zt2, zt3, zt4, zt5, zt6, zt7, zt8, zt9, zt10, zt11, zt12, zt13] at p8
      simp only [zput_s, zput_n, ti_g, oI_add, oI_sub, oI_mul, zt0, zt1, zt2, zt3, zt4, zt5, zt6, zt7, zt8, zt9, zt10, zt11, zt12, zt13, b125_40]
      try simp only [zput_s, zput_n, ti_g, oI_add, oI_sub, oI_mul]
      first | refine zok_eq (by omega) (fun c10 => ?_) (fun c10 => ?_) | refine zok_if (fun c10 => ?_) (fun c10 => ?_)
      · first | exact qI_rt (by omega) (by omega) ⟨rfl, by omega⟩ | exact qI_nf ⟨rfl, by omega⟩
      · first | exact qI_rt (by omega) (by omega) ⟨rfl, by omega⟩ | exact qI_nf ⟨rfl, by omega⟩
    · first | exact qI_rt (by omega) (by omega) ⟨rfl, by omega⟩ | exact qI_nf ⟨rfl, by omega⟩
  · first | exact qI_rt (by omega) (by omega) ⟨rfl, by omega⟩ | exact qI_nf ⟨rfl, by omega⟩
/-! X9_great -/
theorem s126 {sh : zSh} {t : zSt} {x0 : Int} (u0 : -2147483648 ≤ x0 ∧ x0 ≤ 2147483647) : zok (zcl zP 126 [zI (oI x0)] (sh, t)) (qI (fun x t' => t' = t ∧ (True)) sh) := by
  rw [b126_0]
  try simp only [zput_s, zput_n, ti_g, oI_add, oI_sub, oI_mul]
  first | refine zok_le (by omega) (fun c2 => ?_) (fun c2 => ?_) | refine zok_if (fun c2 => ?_) (fun c2 => ?_)
  · first | exact qI_rt (by omega) (by omega) ⟨rfl, trivial⟩ | exact qI_nf ⟨rfl, trivial⟩
  · first | exact qI_rt (by omega) (by omega) ⟨rfl, trivial⟩ | exact qI_nf ⟨rfl, trivial⟩
/-! X9_isLink -/
theorem s127 {sh : zSh} {t : zSt} {x0 : Int} (u0 : -2147483648 ≤ x0 ∧ x0 ≤ 2147483647) : zok (zcl zP 127 [zI (oI x0)] (sh, t)) (qI (fun x t' => t' = t ∧ ((x = 1 ∧ 0 ≤ x0 ∧ x0 ≤ 7) ∨ (x = 0 ∧ ¬ (0 ≤ x0 ∧ x0 ≤ 7)))) sh) := by
  rw [b127_0]
  try simp only [zput_s, zput_n, ti_g, oI_add, oI_sub, oI_mul]
  refine zok_pI (s120 (by omega) (by omega) (by omega)) (fun y2 u2 p2 => ?_)
  try simp only [zt0, zt1, zt2, zt3, zt4, zt5, zt6, zt7, zt8, zt9, zt10, zt11, zt12, zt13] at p2
  simp only [zput_s, zput_n, ti_g, oI_add, oI_sub, oI_mul, zt0, zt1, zt2, zt3, zt4, zt5, zt6, zt7, zt8, zt9, zt10, zt11, zt12, zt13, b127_7]
  try simp only [zput_s, zput_n, ti_g, oI_add, oI_sub, oI_mul]
  refine zok_ck (by first | exact fun _ => bool_p (by omega) | exact bool_p (by omega)) ?_
  first | exact qI_rt (by omega) (by omega) ⟨rfl, by omega⟩ | exact qI_nf ⟨rfl, by omega⟩
/-! X9_mayStand -/
theorem s145 {sh : zSh} {t : zSt} {x0 : Int} (u0 : -2147483648 ≤ x0 ∧ x0 ≤ 2147483647) {x1 : Int} (u1 : -2147483648 ≤ x1 ∧ x1 ≤ 2147483647) : zok (zcl zP 145 [zI (oI x0), zI (oI x1)] (sh, t)) (qI (fun x t' => t' = t ∧ (x = 0 ∨ x = 1)) sh) := by
  rw [b145_0]
  try simp only [zput_s, zput_n, ti_g, oI_add, oI_sub, oI_mul]
  first | refine zok_ne (by omega) (fun c2 => ?_) (fun c2 => ?_) | refine zok_if (fun c2 => ?_) (fun c2 => ?_)
  · first | refine zok_ne (by omega) (fun c3 => ?_) (fun c3 => ?_) | refine zok_if (fun c3 => ?_) (fun c3 => ?_)
    · simp only [zput_s, zput_n, ti_g, oI_add, oI_sub, oI_mul, zt0, zt1, zt2, zt3, zt4, zt5, zt6, zt7, zt8, zt9, zt10, zt11, zt12, zt13, b145_21]
      try simp only [zput_s, zput_n, ti_g, oI_add, oI_sub, oI_mul]
      first | refine zok_lt (by omega) (fun c5 => ?_) (fun c5 => ?_) | refine zok_if (fun c5 => ?_) (fun c5 => ?_)
      · simp only [zput_s, zput_n, ti_g, oI_add, oI_sub, oI_mul, zt0, zt1, zt2, zt3, zt4, zt5, zt6, zt7, zt8, zt9, zt10, zt11, zt12, zt13, b145_44]
        try simp only [zput_s, zput_n, ti_g, oI_add, oI_sub, oI_mul]
        first | refine zok_le (by omega) (fun c7 => ?_) (fun c7 => ?_) | refine zok_if (fun c7 => ?_) (fun c7 => ?_)
        · simp only [zput_s, zput_n, ti_g, oI_add, oI_sub, oI_mul, zt0, zt1, zt2, zt3, zt4, zt5, zt6, zt7, zt8, zt9, zt10, zt11, zt12, zt13, b145_59]
          try simp only [zput_s, zput_n, ti_g, oI_add, oI_sub, oI_mul]
          simp only [zput_s, zput_n, ti_g, oI_add, oI_sub, oI_mul, zt0, zt1, zt2, zt3, zt4, zt5, zt6, zt7, zt8, zt9, zt10, zt11, zt12, zt13, b145_60]
          try simp only [zput_s, zput_n, ti_g, oI_add, oI_sub, oI_mul]
          refine zok_pI (s123 (by omega)) (fun y10 u10 p10 => ?_)
          try simp only [zt0, zt1, zt2, zt3, zt4, zt5, zt6, zt7, zt8, zt9, zt10, zt11, zt12, zt13] at p10
          simp only [zput_s, zput_n, ti_g, oI_add, oI_sub, oI_mul, zt0, zt1, zt2, zt3, zt4, zt5, zt6, zt7, zt8, zt9, zt10, zt11, zt12, zt13, b145_65]
          try simp only [zput_s, zput_n, ti_g, oI_add, oI_sub, oI_mul]
          first | refine zok_ne (by omega) (fun c12 => ?_) (fun c12 => ?_) | refine zok_if (fun c12 => ?_) (fun c12 => ?_)
          · simp only [zput_s, zput_n, ti_g, oI_add, oI_sub, oI_mul, zt0, zt1, zt2, zt3, zt4, zt5, zt6, zt7, zt8, zt9, zt10, zt11, zt12, zt13, b145_79]
            try simp only [zput_s, zput_n, ti_g, oI_add, oI_sub, oI_mul]
            simp only [zput_s, zput_n, ti_g, oI_add, oI_sub, oI_mul, zt0, zt1, zt2, zt3, zt4, zt5, zt6, zt7, zt8, zt9, zt10, zt11, zt12, zt13, b145_84]
            try simp only [zput_s, zput_n, ti_g, oI_add, oI_sub, oI_mul]
            first | exact qI_rt (by omega) (by omega) ⟨rfl, by omega⟩ | exact qI_nf ⟨rfl, by omega⟩
          · refine zok_pI (s124 (by omega)) (fun y15 u15 p15 => ?_)
            try simp only [zt0, zt1, zt2, zt3, zt4, zt5, zt6, zt7, zt8, zt9, zt10, zt11, zt12, zt13] at p15
            simp only [zput_s, zput_n, ti_g, oI_add, oI_sub, oI_mul, zt0, zt1, zt2, zt3, zt4, zt5, zt6, zt7, zt8, zt9, zt10, zt11, zt12, zt13, b145_72]
            try simp only [zput_s, zput_n, ti_g, oI_add, oI_sub, oI_mul]
            first | refine zok_ne (by omega) (fun c17 => ?_) (fun c17 => ?_) | refine zok_if (fun c17 => ?_) (fun c17 => ?_)
            · simp only [zput_s, zput_n, ti_g, oI_add, oI_sub, oI_mul, zt0, zt1, zt2, zt3, zt4, zt5, zt6, zt7, zt8, zt9, zt10, zt11, zt12, zt13, b145_79]
              try simp only [zput_s, zput_n, ti_g, oI_add, oI_sub, oI_mul]
              simp only [zput_s, zput_n, ti_g, oI_add, oI_sub, oI_mul, zt0, zt1, zt2, zt3, zt4, zt5, zt6, zt7, zt8, zt9, zt10, zt11, zt12, zt13, b145_84]
              try simp only [zput_s, zput_n, ti_g, oI_add, oI_sub, oI_mul]
              first | exact qI_rt (by omega) (by omega) ⟨rfl, by omega⟩ | exact qI_nf ⟨rfl, by omega⟩
            · simp only [zput_s, zput_n, ti_g, oI_add, oI_sub, oI_mul, zt0, zt1, zt2, zt3, zt4, zt5, zt6, zt7, zt8, zt9, zt10, zt11, zt12, zt13, b145_84]
              try simp only [zput_s, zput_n, ti_g, oI_add, oI_sub, oI_mul]
              first | exact qI_rt (by omega) (by omega) ⟨rfl, by omega⟩ | exact qI_nf ⟨rfl, by omega⟩
        · first | refine zok_ne (by omega) (fun c21 => ?_) (fun c21 => ?_) | refine zok_if (fun c21 => ?_) (fun c21 => ?_)
          · simp only [zput_s, zput_n, ti_g, oI_add, oI_sub, oI_mul, zt0, zt1, zt2, zt3, zt4, zt5, zt6, zt7, zt8, zt9, zt10, zt11, zt12, zt13, b145_59]
            try simp only [zput_s, zput_n, ti_g, oI_add, oI_sub, oI_mul]
            simp only [zput_s, zput_n, ti_g, oI_add, oI_sub, oI_mul, zt0, zt1, zt2, zt3, zt4, zt5, zt6, zt7, zt8, zt9, zt10, zt11, zt12, zt13, b145_60]
            try simp only [zput_s, zput_n, ti_g, oI_add, oI_sub, oI_mul]
            refine zok_pI (s123 (by omega)) (fun y24 u24 p24 => ?_)
            try simp only [zt0, zt1, zt2, zt3, zt4, zt5, zt6, zt7, zt8, zt9, zt10, zt11, zt12, zt13] at p24
            simp only [zput_s, zput_n, ti_g, oI_add, oI_sub, oI_mul, zt0, zt1, zt2, zt3, zt4, zt5, zt6, zt7, zt8, zt9, zt10, zt11, zt12, zt13, b145_65]
            try simp only [zput_s, zput_n, ti_g, oI_add, oI_sub, oI_mul]
            first | refine zok_ne (by omega) (fun c26 => ?_) (fun c26 => ?_) | refine zok_if (fun c26 => ?_) (fun c26 => ?_)
            · simp only [zput_s, zput_n, ti_g, oI_add, oI_sub, oI_mul, zt0, zt1, zt2, zt3, zt4, zt5, zt6, zt7, zt8, zt9, zt10, zt11, zt12, zt13, b145_79]
              try simp only [zput_s, zput_n, ti_g, oI_add, oI_sub, oI_mul]
              simp only [zput_s, zput_n, ti_g, oI_add, oI_sub, oI_mul, zt0, zt1, zt2, zt3, zt4, zt5, zt6, zt7, zt8, zt9, zt10, zt11, zt12, zt13, b145_84]
              try simp only [zput_s, zput_n, ti_g, oI_add, oI_sub, oI_mul]
              first | exact qI_rt (by omega) (by omega) ⟨rfl, by omega⟩ | exact qI_nf ⟨rfl, by omega⟩
            · refine zok_pI (s124 (by omega)) (fun y29 u29 p29 => ?_)
              try simp only [zt0, zt1, zt2, zt3, zt4, zt5, zt6, zt7, zt8, zt9, zt10, zt11, zt12, zt13] at p29
              simp only [zput_s, zput_n, ti_g, oI_add, oI_sub, oI_mul, zt0, zt1, zt2, zt3, zt4, zt5, zt6, zt7, zt8, zt9, zt10, zt11, zt12, zt13, b145_72]
              try simp only [zput_s, zput_n, ti_g, oI_add, oI_sub, oI_mul]
              first | refine zok_ne (by omega) (fun c31 => ?_) (fun c31 => ?_) | refine zok_if (fun c31 => ?_) (fun c31 => ?_)
              · simp only [zput_s, zput_n, ti_g, oI_add, oI_sub, oI_mul, zt0, zt1, zt2, zt3, zt4, zt5, zt6, zt7, zt8, zt9, zt10, zt11, zt12, zt13, b145_79]
                try simp only [zput_s, zput_n, ti_g, oI_add, oI_sub, oI_mul]
                simp only [zput_s, zput_n, ti_g, oI_add, oI_sub, oI_mul, zt0, zt1, zt2, zt3, zt4, zt5, zt6, zt7, zt8, zt9, zt10, zt11, zt12, zt13, b145_84]
                try simp only [zput_s, zput_n, ti_g, oI_add, oI_sub, oI_mul]
                first | exact qI_rt (by omega) (by omega) ⟨rfl, by omega⟩ | exact qI_nf ⟨rfl, by omega⟩
              · simp only [zput_s, zput_n, ti_g, oI_add, oI_sub, oI_mul, zt0, zt1, zt2, zt3, zt4, zt5, zt6, zt7, zt8, zt9, zt10, zt11, zt12, zt13, b145_84]
                try simp only [zput_s, zput_n, ti_g, oI_add, oI_sub, oI_mul]
                first | exact qI_rt (by omega) (by omega) ⟨rfl, by omega⟩ | exact qI_nf ⟨rfl, by omega⟩
          · simp only [zput_s, zput_n, ti_g, oI_add, oI_sub, oI_mul, zt0, zt1, zt2, zt3, zt4, zt5, zt6, zt7, zt8, zt9, zt10, zt11, zt12, zt13, b145_55]
            try simp only [zput_s, zput_n, ti_g, oI_add, oI_sub, oI_mul]
            simp only [zput_s, zput_n, ti_g, oI_add, oI_sub, oI_mul, zt0, zt1, zt2, zt3, zt4, zt5, zt6, zt7, zt8, zt9, zt10, zt11, zt12, zt13, b145_60]
            try simp only [zput_s, zput_n, ti_g, oI_add, oI_sub, oI_mul]
            refine zok_pI (s123 (by omega)) (fun y37 u37 p37 => ?_)
            try simp only [zt0, zt1, zt2, zt3, zt4, zt5, zt6, zt7, zt8, zt9, zt10, zt11, zt12, zt13] at p37
            simp only [zput_s, zput_n, ti_g, oI_add, oI_sub, oI_mul, zt0, zt1, zt2, zt3, zt4, zt5, zt6, zt7, zt8, zt9, zt10, zt11, zt12, zt13, b145_65]
            try simp only [zput_s, zput_n, ti_g, oI_add, oI_sub, oI_mul]
            first | refine zok_ne (by omega) (fun c39 => ?_) (fun c39 => ?_) | refine zok_if (fun c39 => ?_) (fun c39 => ?_)
            · simp only [zput_s, zput_n, ti_g, oI_add, oI_sub, oI_mul, zt0, zt1, zt2, zt3, zt4, zt5, zt6, zt7, zt8, zt9, zt10, zt11, zt12, zt13, b145_79]
              try simp only [zput_s, zput_n, ti_g, oI_add, oI_sub, oI_mul]
              simp only [zput_s, zput_n, ti_g, oI_add, oI_sub, oI_mul, zt0, zt1, zt2, zt3, zt4, zt5, zt6, zt7, zt8, zt9, zt10, zt11, zt12, zt13, b145_84]
              try simp only [zput_s, zput_n, ti_g, oI_add, oI_sub, oI_mul]
              first | exact qI_rt (by omega) (by omega) ⟨rfl, by omega⟩ | exact qI_nf ⟨rfl, by omega⟩
            · refine zok_pI (s124 (by omega)) (fun y42 u42 p42 => ?_)
              try simp only [zt0, zt1, zt2, zt3, zt4, zt5, zt6, zt7, zt8, zt9, zt10, zt11, zt12, zt13] at p42
              simp only [zput_s, zput_n, ti_g, oI_add, oI_sub, oI_mul, zt0, zt1, zt2, zt3, zt4, zt5, zt6, zt7, zt8, zt9, zt10, zt11, zt12, zt13, b145_72]
              try simp only [zput_s, zput_n, ti_g, oI_add, oI_sub, oI_mul]
              first | refine zok_ne (by omega) (fun c44 => ?_) (fun c44 => ?_) | refine zok_if (fun c44 => ?_) (fun c44 => ?_)
              · simp only [zput_s, zput_n, ti_g, oI_add, oI_sub, oI_mul, zt0, zt1, zt2, zt3, zt4, zt5, zt6, zt7, zt8, zt9, zt10, zt11, zt12, zt13, b145_79]
                try simp only [zput_s, zput_n, ti_g, oI_add, oI_sub, oI_mul]
                simp only [zput_s, zput_n, ti_g, oI_add, oI_sub, oI_mul, zt0, zt1, zt2, zt3, zt4, zt5, zt6, zt7, zt8, zt9, zt10, zt11, zt12, zt13, b145_84]
                try simp only [zput_s, zput_n, ti_g, oI_add, oI_sub, oI_mul]
                first | exact qI_rt (by omega) (by omega) ⟨rfl, by omega⟩ | exact qI_nf ⟨rfl, by omega⟩
              · first | refine zok_eq (by omega) (fun c47 => ?_) (fun c47 => ?_) | refine zok_if (fun c47 => ?_) (fun c47 => ?_)
                · simp only [zput_s, zput_n, ti_g, oI_add, oI_sub, oI_mul, zt0, zt1, zt2, zt3, zt4, zt5, zt6, zt7, zt8, zt9, zt10, zt11, zt12, zt13, b145_84]
                  try simp only [zput_s, zput_n, ti_g, oI_add, oI_sub, oI_mul]
                  first | exact qI_rt (by omega) (by omega) ⟨rfl, by omega⟩ | exact qI_nf ⟨rfl, by omega⟩
                · simp only [zput_s, zput_n, ti_g, oI_add, oI_sub, oI_mul, zt0, zt1, zt2, zt3, zt4, zt5, zt6, zt7, zt8, zt9, zt10, zt11, zt12, zt13, b145_79]
                  try simp only [zput_s, zput_n, ti_g, oI_add, oI_sub, oI_mul]
                  simp only [zput_s, zput_n, ti_g, oI_add, oI_sub, oI_mul, zt0, zt1, zt2, zt3, zt4, zt5, zt6, zt7, zt8, zt9, zt10, zt11, zt12, zt13, b145_84]
                  try simp only [zput_s, zput_n, ti_g, oI_add, oI_sub, oI_mul]
                  first | exact qI_rt (by omega) (by omega) ⟨rfl, by omega⟩ | exact qI_nf ⟨rfl, by omega⟩
      · first | refine zok_eq (by omega) (fun c51 => ?_) (fun c51 => ?_) | refine zok_if (fun c51 => ?_) (fun c51 => ?_)
        · simp only [zput_s, zput_n, ti_g, oI_add, oI_sub, oI_mul, zt0, zt1, zt2, zt3, zt4, zt5, zt6, zt7, zt8, zt9, zt10, zt11, zt12, zt13, b145_55]
          try simp only [zput_s, zput_n, ti_g, oI_add, oI_sub, oI_mul]
          simp only [zput_s, zput_n, ti_g, oI_add, oI_sub, oI_mul, zt0, zt1, zt2, zt3, zt4, zt5, zt6, zt7, zt8, zt9, zt10, zt11, zt12, zt13, b145_60]
          try simp only [zput_s, zput_n, ti_g, oI_add, oI_sub, oI_mul]
          refine zok_pI (s123 (by omega)) (fun y54 u54 p54 => ?_)
          try simp only [zt0, zt1, zt2, zt3, zt4, zt5, zt6, zt7, zt8, zt9, zt10, zt11, zt12, zt13] at p54
          simp only [zput_s, zput_n, ti_g, oI_add, oI_sub, oI_mul, zt0, zt1, zt2, zt3, zt4, zt5, zt6, zt7, zt8, zt9, zt10, zt11, zt12, zt13, b145_65]
          try simp only [zput_s, zput_n, ti_g, oI_add, oI_sub, oI_mul]
          first | refine zok_ne (by omega) (fun c56 => ?_) (fun c56 => ?_) | refine zok_if (fun c56 => ?_) (fun c56 => ?_)
          · simp only [zput_s, zput_n, ti_g, oI_add, oI_sub, oI_mul, zt0, zt1, zt2, zt3, zt4, zt5, zt6, zt7, zt8, zt9, zt10, zt11, zt12, zt13, b145_79]
            try simp only [zput_s, zput_n, ti_g, oI_add, oI_sub, oI_mul]
            simp only [zput_s, zput_n, ti_g, oI_add, oI_sub, oI_mul, zt0, zt1, zt2, zt3, zt4, zt5, zt6, zt7, zt8, zt9, zt10, zt11, zt12, zt13, b145_84]
            try simp only [zput_s, zput_n, ti_g, oI_add, oI_sub, oI_mul]
            first | exact qI_rt (by omega) (by omega) ⟨rfl, by omega⟩ | exact qI_nf ⟨rfl, by omega⟩
          · refine zok_pI (s124 (by omega)) (fun y59 u59 p59 => ?_)
            try simp only [zt0, zt1, zt2, zt3, zt4, zt5, zt6, zt7, zt8, zt9, zt10, zt11, zt12, zt13] at p59
            simp only [zput_s, zput_n, ti_g, oI_add, oI_sub, oI_mul, zt0, zt1, zt2, zt3, zt4, zt5, zt6, zt7, zt8, zt9, zt10, zt11, zt12, zt13, b145_72]
            try simp only [zput_s, zput_n, ti_g, oI_add, oI_sub, oI_mul]
            first | refine zok_ne (by omega) (fun c61 => ?_) (fun c61 => ?_) | refine zok_if (fun c61 => ?_) (fun c61 => ?_)
            · simp only [zput_s, zput_n, ti_g, oI_add, oI_sub, oI_mul, zt0, zt1, zt2, zt3, zt4, zt5, zt6, zt7, zt8, zt9, zt10, zt11, zt12, zt13, b145_79]
              try simp only [zput_s, zput_n, ti_g, oI_add, oI_sub, oI_mul]
              simp only [zput_s, zput_n, ti_g, oI_add, oI_sub, oI_mul, zt0, zt1, zt2, zt3, zt4, zt5, zt6, zt7, zt8, zt9, zt10, zt11, zt12, zt13, b145_84]
              try simp only [zput_s, zput_n, ti_g, oI_add, oI_sub, oI_mul]
              first | exact qI_rt (by omega) (by omega) ⟨rfl, by omega⟩ | exact qI_nf ⟨rfl, by omega⟩
            · first | refine zok_eq (by omega) (fun c64 => ?_) (fun c64 => ?_) | refine zok_if (fun c64 => ?_) (fun c64 => ?_)
              · simp only [zput_s, zput_n, ti_g, oI_add, oI_sub, oI_mul, zt0, zt1, zt2, zt3, zt4, zt5, zt6, zt7, zt8, zt9, zt10, zt11, zt12, zt13, b145_84]
                try simp only [zput_s, zput_n, ti_g, oI_add, oI_sub, oI_mul]
                first | exact qI_rt (by omega) (by omega) ⟨rfl, by omega⟩ | exact qI_nf ⟨rfl, by omega⟩
              · simp only [zput_s, zput_n, ti_g, oI_add, oI_sub, oI_mul, zt0, zt1, zt2, zt3, zt4, zt5, zt6, zt7, zt8, zt9, zt10, zt11, zt12, zt13, b145_79]
                try simp only [zput_s, zput_n, ti_g, oI_add, oI_sub, oI_mul]
                simp only [zput_s, zput_n, ti_g, oI_add, oI_sub, oI_mul, zt0, zt1, zt2, zt3, zt4, zt5, zt6, zt7, zt8, zt9, zt10, zt11, zt12, zt13, b145_84]
                try simp only [zput_s, zput_n, ti_g, oI_add, oI_sub, oI_mul]
                first | exact qI_rt (by omega) (by omega) ⟨rfl, by omega⟩ | exact qI_nf ⟨rfl, by omega⟩
        · first | refine zok_eq (by omega) (fun c68 => ?_) (fun c68 => ?_) | refine zok_if (fun c68 => ?_) (fun c68 => ?_)
          · simp only [zput_s, zput_n, ti_g, oI_add, oI_sub, oI_mul, zt0, zt1, zt2, zt3, zt4, zt5, zt6, zt7, zt8, zt9, zt10, zt11, zt12, zt13, b145_55]
            try simp only [zput_s, zput_n, ti_g, oI_add, oI_sub, oI_mul]
            simp only [zput_s, zput_n, ti_g, oI_add, oI_sub, oI_mul, zt0, zt1, zt2, zt3, zt4, zt5, zt6, zt7, zt8, zt9, zt10, zt11, zt12, zt13, b145_60]
            try simp only [zput_s, zput_n, ti_g, oI_add, oI_sub, oI_mul]
            refine zok_pI (s123 (by omega)) (fun y71 u71 p71 => ?_)
            try simp only [zt0, zt1, zt2, zt3, zt4, zt5, zt6, zt7, zt8, zt9, zt10, zt11, zt12, zt13] at p71
            simp only [zput_s, zput_n, ti_g, oI_add, oI_sub, oI_mul, zt0, zt1, zt2, zt3, zt4, zt5, zt6, zt7, zt8, zt9, zt10, zt11, zt12, zt13, b145_65]
            try simp only [zput_s, zput_n, ti_g, oI_add, oI_sub, oI_mul]
            first | refine zok_ne (by omega) (fun c73 => ?_) (fun c73 => ?_) | refine zok_if (fun c73 => ?_) (fun c73 => ?_)
            · simp only [zput_s, zput_n, ti_g, oI_add, oI_sub, oI_mul, zt0, zt1, zt2, zt3, zt4, zt5, zt6, zt7, zt8, zt9, zt10, zt11, zt12, zt13, b145_79]
              try simp only [zput_s, zput_n, ti_g, oI_add, oI_sub, oI_mul]
              simp only [zput_s, zput_n, ti_g, oI_add, oI_sub, oI_mul, zt0, zt1, zt2, zt3, zt4, zt5, zt6, zt7, zt8, zt9, zt10, zt11, zt12, zt13, b145_84]
              try simp only [zput_s, zput_n, ti_g, oI_add, oI_sub, oI_mul]
              first | exact qI_rt (by omega) (by omega) ⟨rfl, by omega⟩ | exact qI_nf ⟨rfl, by omega⟩
            · refine zok_pI (s124 (by omega)) (fun y76 u76 p76 => ?_)
              try simp only [zt0, zt1, zt2, zt3, zt4, zt5, zt6, zt7, zt8, zt9, zt10, zt11, zt12, zt13] at p76
              simp only [zput_s, zput_n, ti_g, oI_add, oI_sub, oI_mul, zt0, zt1, zt2, zt3, zt4, zt5, zt6, zt7, zt8, zt9, zt10, zt11, zt12, zt13, b145_72]
              try simp only [zput_s, zput_n, ti_g, oI_add, oI_sub, oI_mul]
              first | refine zok_ne (by omega) (fun c78 => ?_) (fun c78 => ?_) | refine zok_if (fun c78 => ?_) (fun c78 => ?_)
              · simp only [zput_s, zput_n, ti_g, oI_add, oI_sub, oI_mul, zt0, zt1, zt2, zt3, zt4, zt5, zt6, zt7, zt8, zt9, zt10, zt11, zt12, zt13, b145_79]
                try simp only [zput_s, zput_n, ti_g, oI_add, oI_sub, oI_mul]
                simp only [zput_s, zput_n, ti_g, oI_add, oI_sub, oI_mul, zt0, zt1, zt2, zt3, zt4, zt5, zt6, zt7, zt8, zt9, zt10, zt11, zt12, zt13, b145_84]
                try simp only [zput_s, zput_n, ti_g, oI_add, oI_sub, oI_mul]
                first | exact qI_rt (by omega) (by omega) ⟨rfl, by omega⟩ | exact qI_nf ⟨rfl, by omega⟩
              · first | refine zok_eq (by omega) (fun c81 => ?_) (fun c81 => ?_) | refine zok_if (fun c81 => ?_) (fun c81 => ?_)
                · simp only [zput_s, zput_n, ti_g, oI_add, oI_sub, oI_mul, zt0, zt1, zt2, zt3, zt4, zt5, zt6, zt7, zt8, zt9, zt10, zt11, zt12, zt13, b145_84]
                  try simp only [zput_s, zput_n, ti_g, oI_add, oI_sub, oI_mul]
                  first | exact qI_rt (by omega) (by omega) ⟨rfl, by omega⟩ | exact qI_nf ⟨rfl, by omega⟩
                · simp only [zput_s, zput_n, ti_g, oI_add, oI_sub, oI_mul, zt0, zt1, zt2, zt3, zt4, zt5, zt6, zt7, zt8, zt9, zt10, zt11, zt12, zt13, b145_79]
                  try simp only [zput_s, zput_n, ti_g, oI_add, oI_sub, oI_mul]
                  simp only [zput_s, zput_n, ti_g, oI_add, oI_sub, oI_mul, zt0, zt1, zt2, zt3, zt4, zt5, zt6, zt7, zt8, zt9, zt10, zt11, zt12, zt13, b145_84]
                  try simp only [zput_s, zput_n, ti_g, oI_add, oI_sub, oI_mul]
                  first | exact qI_rt (by omega) (by omega) ⟨rfl, by omega⟩ | exact qI_nf ⟨rfl, by omega⟩
          · first | refine zok_eq (by omega) (fun c85 => ?_) (fun c85 => ?_) | refine zok_if (fun c85 => ?_) (fun c85 => ?_)
            · simp only [zput_s, zput_n, ti_g, oI_add, oI_sub, oI_mul, zt0, zt1, zt2, zt3, zt4, zt5, zt6, zt7, zt8, zt9, zt10, zt11, zt12, zt13, b145_55]
              try simp only [zput_s, zput_n, ti_g, oI_add, oI_sub, oI_mul]
              simp only [zput_s, zput_n, ti_g, oI_add, oI_sub, oI_mul, zt0, zt1, zt2, zt3, zt4, zt5, zt6, zt7, zt8, zt9, zt10, zt11, zt12, zt13, b145_60]
              try simp only [zput_s, zput_n, ti_g, oI_add, oI_sub, oI_mul]
              refine zok_pI (s123 (by omega)) (fun y88 u88 p88 => ?_)
              try simp only [zt0, zt1, zt2, zt3, zt4, zt5, zt6, zt7, zt8, zt9, zt10, zt11, zt12, zt13] at p88
              simp only [zput_s, zput_n, ti_g, oI_add, oI_sub, oI_mul, zt0, zt1, zt2, zt3, zt4, zt5, zt6, zt7, zt8, zt9, zt10, zt11, zt12, zt13, b145_65]
              try simp only [zput_s, zput_n, ti_g, oI_add, oI_sub, oI_mul]
              first | refine zok_ne (by omega) (fun c90 => ?_) (fun c90 => ?_) | refine zok_if (fun c90 => ?_) (fun c90 => ?_)
              · simp only [zput_s, zput_n, ti_g, oI_add, oI_sub, oI_mul, zt0, zt1, zt2, zt3, zt4, zt5, zt6, zt7, zt8, zt9, zt10, zt11, zt12, zt13, b145_79]
                try simp only [zput_s, zput_n, ti_g, oI_add, oI_sub, oI_mul]
                simp only [zput_s, zput_n, ti_g, oI_add, oI_sub, oI_mul, zt0, zt1, zt2, zt3, zt4, zt5, zt6, zt7, zt8, zt9, zt10, zt11, zt12, zt13, b145_84]
                try simp only [zput_s, zput_n, ti_g, oI_add, oI_sub, oI_mul]
                first | exact qI_rt (by omega) (by omega) ⟨rfl, by omega⟩ | exact qI_nf ⟨rfl, by omega⟩
              · refine zok_pI (s124 (by omega)) (fun y93 u93 p93 => ?_)
                try simp only [zt0, zt1, zt2, zt3, zt4, zt5, zt6, zt7, zt8, zt9, zt10, zt11, zt12, zt13] at p93
                simp only [zput_s, zput_n, ti_g, oI_add, oI_sub, oI_mul, zt0, zt1, zt2, zt3, zt4, zt5, zt6, zt7, zt8, zt9, zt10, zt11, zt12, zt13, b145_72]
                try simp only [zput_s, zput_n, ti_g, oI_add, oI_sub, oI_mul]
                first | refine zok_ne (by omega) (fun c95 => ?_) (fun c95 => ?_) | refine zok_if (fun c95 => ?_) (fun c95 => ?_)
                · simp only [zput_s, zput_n, ti_g, oI_add, oI_sub, oI_mul, zt0, zt1, zt2, zt3, zt4, zt5, zt6, zt7, zt8, zt9, zt10, zt11, zt12, zt13, b145_79]
                  try simp only [zput_s, zput_n, ti_g, oI_add, oI_sub, oI_mul]
                  simp only [zput_s, zput_n, ti_g, oI_add, oI_sub, oI_mul, zt0, zt1, zt2, zt3, zt4, zt5, zt6, zt7, zt8, zt9, zt10, zt11, zt12, zt13, b145_84]
                  try simp only [zput_s, zput_n, ti_g, oI_add, oI_sub, oI_mul]
                  first | exact qI_rt (by omega) (by omega) ⟨rfl, by omega⟩ | exact qI_nf ⟨rfl, by omega⟩
                · first | refine zok_eq (by omega) (fun c98 => ?_) (fun c98 => ?_) | refine zok_if (fun c98 => ?_) (fun c98 => ?_)
                  · simp only [zput_s, zput_n, ti_g, oI_add, oI_sub, oI_mul, zt0, zt1, zt2, zt3, zt4, zt5, zt6, zt7, zt8, zt9, zt10, zt11, zt12, zt13, b145_84]
                    try simp only [zput_s, zput_n, ti_g, oI_add, oI_sub, oI_mul]
                    first | exact qI_rt (by omega) (by omega) ⟨rfl, by omega⟩ | exact qI_nf ⟨rfl, by omega⟩
                  · simp only [zput_s, zput_n, ti_g, oI_add, oI_sub, oI_mul, zt0, zt1, zt2, zt3, zt4, zt5, zt6, zt7, zt8, zt9, zt10, zt11, zt12, zt13, b145_79]
                    try simp only [zput_s, zput_n, ti_g, oI_add, oI_sub, oI_mul]
                    simp only [zput_s, zput_n, ti_g, oI_add, oI_sub, oI_mul, zt0, zt1, zt2, zt3, zt4, zt5, zt6, zt7, zt8, zt9, zt10, zt11, zt12, zt13, b145_84]
                    try simp only [zput_s, zput_n, ti_g, oI_add, oI_sub, oI_mul]
                    first | exact qI_rt (by omega) (by omega) ⟨rfl, by omega⟩ | exact qI_nf ⟨rfl, by omega⟩
            · simp only [zput_s, zput_n, ti_g, oI_add, oI_sub, oI_mul, zt0, zt1, zt2, zt3, zt4, zt5, zt6, zt7, zt8, zt9, zt10, zt11, zt12, zt13, b145_44]
              try simp only [zput_s, zput_n, ti_g, oI_add, oI_sub, oI_mul]
              first | refine zok_le (by omega) (fun c103 => ?_) (fun c103 => ?_) | refine zok_if (fun c103 => ?_) (fun c103 => ?_)
              · simp only [zput_s, zput_n, ti_g, oI_add, oI_sub, oI_mul, zt0, zt1, zt2, zt3, zt4, zt5, zt6, zt7, zt8, zt9, zt10, zt11, zt12, zt13, b145_59]
                try simp only [zput_s, zput_n, ti_g, oI_add, oI_sub, oI_mul]
                simp only [zput_s, zput_n, ti_g, oI_add, oI_sub, oI_mul, zt0, zt1, zt2, zt3, zt4, zt5, zt6, zt7, zt8, zt9, zt10, zt11, zt12, zt13, b145_60]
                try simp only [zput_s, zput_n, ti_g, oI_add, oI_sub, oI_mul]
                refine zok_pI (s123 (by omega)) (fun y106 u106 p106 => ?_)
                try simp only [zt0, zt1, zt2, zt3, zt4, zt5, zt6, zt7, zt8, zt9, zt10, zt11, zt12, zt13] at p106
                simp only [zput_s, zput_n, ti_g, oI_add, oI_sub, oI_mul, zt0, zt1, zt2, zt3, zt4, zt5, zt6, zt7, zt8, zt9, zt10, zt11, zt12, zt13, b145_65]
                try simp only [zput_s, zput_n, ti_g, oI_add, oI_sub, oI_mul]
                first | refine zok_ne (by omega) (fun c108 => ?_) (fun c108 => ?_) | refine zok_if (fun c108 => ?_) (fun c108 => ?_)
                · simp only [zput_s, zput_n, ti_g, oI_add, oI_sub, oI_mul, zt0, zt1, zt2, zt3, zt4, zt5, zt6, zt7, zt8, zt9, zt10, zt11, zt12, zt13, b145_79]
                  try simp only [zput_s, zput_n, ti_g, oI_add, oI_sub, oI_mul]
                  simp only [zput_s, zput_n, ti_g, oI_add, oI_sub, oI_mul, zt0, zt1, zt2, zt3, zt4, zt5, zt6, zt7, zt8, zt9, zt10, zt11, zt12, zt13, b145_84]
                  try simp only [zput_s, zput_n, ti_g, oI_add, oI_sub, oI_mul]
                  first | exact qI_rt (by omega) (by omega) ⟨rfl, by omega⟩ | exact qI_nf ⟨rfl, by omega⟩
                · refine zok_pI (s124 (by omega)) (fun y111 u111 p111 => ?_)
                  try simp only [zt0, zt1, zt2, zt3, zt4, zt5, zt6, zt7, zt8, zt9, zt10, zt11, zt12, zt13] at p111
                  simp only [zput_s, zput_n, ti_g, oI_add, oI_sub, oI_mul, zt0, zt1, zt2, zt3, zt4, zt5, zt6, zt7, zt8, zt9, zt10, zt11, zt12, zt13, b145_72]
                  try simp only [zput_s, zput_n, ti_g, oI_add, oI_sub, oI_mul]
                  first | refine zok_ne (by omega) (fun c113 => ?_) (fun c113 => ?_) | refine zok_if (fun c113 => ?_) (fun c113 => ?_)
                  · simp only [zput_s, zput_n, ti_g, oI_add, oI_sub, oI_mul, zt0, zt1, zt2, zt3, zt4, zt5, zt6, zt7, zt8, zt9, zt10, zt11, zt12, zt13, b145_79]
                    try simp only [zput_s, zput_n, ti_g, oI_add, oI_sub, oI_mul]
                    simp only [zput_s, zput_n, ti_g, oI_add, oI_sub, oI_mul, zt0, zt1, zt2, zt3, zt4, zt5, zt6, zt7, zt8, zt9, zt10, zt11, zt12, zt13, b145_84]
                    try simp only [zput_s, zput_n, ti_g, oI_add, oI_sub, oI_mul]
                    first | exact qI_rt (by omega) (by omega) ⟨rfl, by omega⟩ | exact qI_nf ⟨rfl, by omega⟩
                  · simp only [zput_s, zput_n, ti_g, oI_add, oI_sub, oI_mul, zt0, zt1, zt2, zt3, zt4, zt5, zt6, zt7, zt8, zt9, zt10, zt11, zt12, zt13, b145_84]
                    try simp only [zput_s, zput_n, ti_g, oI_add, oI_sub, oI_mul]
                    first | exact qI_rt (by omega) (by omega) ⟨rfl, by omega⟩ | exact qI_nf ⟨rfl, by omega⟩
              · first | refine zok_ne (by omega) (fun c117 => ?_) (fun c117 => ?_) | refine zok_if (fun c117 => ?_) (fun c117 => ?_)
                · simp only [zput_s, zput_n, ti_g, oI_add, oI_sub, oI_mul, zt0, zt1, zt2, zt3, zt4, zt5, zt6, zt7, zt8, zt9, zt10, zt11, zt12, zt13, b145_59]
                  try simp only [zput_s, zput_n, ti_g, oI_add, oI_sub, oI_mul]
                  simp only [zput_s, zput_n, ti_g, oI_add, oI_sub, oI_mul, zt0, zt1, zt2, zt3, zt4, zt5, zt6, zt7, zt8, zt9, zt10, zt11, zt12, zt13, b145_60]
                  try simp only [zput_s, zput_n, ti_g, oI_add, oI_sub, oI_mul]
                  refine zok_pI (s123 (by omega)) (fun y120 u120 p120 => ?_)
                  try simp only [zt0, zt1, zt2, zt3, zt4, zt5, zt6, zt7, zt8, zt9, zt10, zt11, zt12, zt13] at p120
                  simp only [zput_s, zput_n, ti_g, oI_add, oI_sub, oI_mul, zt0, zt1, zt2, zt3, zt4, zt5, zt6, zt7, zt8, zt9, zt10, zt11, zt12, zt13, b145_65]
                  try simp only [zput_s, zput_n, ti_g, oI_add, oI_sub, oI_mul]
                  first | refine zok_ne (by omega) (fun c122 => ?_) (fun c122 => ?_) | refine zok_if (fun c122 => ?_) (fun c122 => ?_)
                  · simp only [zput_s, zput_n, ti_g, oI_add, oI_sub, oI_mul, zt0, zt1, zt2, zt3, zt4, zt5, zt6, zt7, zt8, zt9, zt10, zt11, zt12, zt13, b145_79]
                    try simp only [zput_s, zput_n, ti_g, oI_add, oI_sub, oI_mul]
                    simp only [zput_s, zput_n, ti_g, oI_add, oI_sub, oI_mul, zt0, zt1, zt2, zt3, zt4, zt5, zt6, zt7, zt8, zt9, zt10, zt11, zt12, zt13, b145_84]
                    try simp only [zput_s, zput_n, ti_g, oI_add, oI_sub, oI_mul]
                    first | exact qI_rt (by omega) (by omega) ⟨rfl, by omega⟩ | exact qI_nf ⟨rfl, by omega⟩
                  · refine zok_pI (s124 (by omega)) (fun y125 u125 p125 => ?_)
                    try simp only [zt0, zt1, zt2, zt3, zt4, zt5, zt6, zt7, zt8, zt9, zt10, zt11, zt12, zt13] at p125
                    simp only [zput_s, zput_n, ti_g, oI_add, oI_sub, oI_mul, zt0, zt1, zt2, zt3, zt4, zt5, zt6, zt7, zt8, zt9, zt10, zt11, zt12, zt13, b145_72]
                    try simp only [zput_s, zput_n, ti_g, oI_add, oI_sub, oI_mul]
                    first | refine zok_ne (by omega) (fun c127 => ?_) (fun c127 => ?_) | refine zok_if (fun c127 => ?_) (fun c127 => ?_)
                    · simp only [zput_s, zput_n, ti_g, oI_add, oI_sub, oI_mul, zt0, zt1, zt2, zt3, zt4, zt5, zt6, zt7, zt8, zt9, zt10, zt11, zt12, zt13, b145_79]
                      try simp only [zput_s, zput_n, ti_g, oI_add, oI_sub, oI_mul]
                      simp only [zput_s, zput_n, ti_g, oI_add, oI_sub, oI_mul, zt0, zt1, zt2, zt3, zt4, zt5, zt6, zt7, zt8, zt9, zt10, zt11, zt12, zt13, b145_84]
                      try simp only [zput_s, zput_n, ti_g, oI_add, oI_sub, oI_mul]
                      first | exact qI_rt (by omega) (by omega) ⟨rfl, by omega⟩ | exact qI_nf ⟨rfl, by omega⟩
                    · simp only [zput_s, zput_n, ti_g, oI_add, oI_sub, oI_mul, zt0, zt1, zt2, zt3, zt4, zt5, zt6, zt7, zt8, zt9, zt10, zt11, zt12, zt13, b145_84]
                      try simp only [zput_s, zput_n, ti_g, oI_add, oI_sub, oI_mul]
                      first | exact qI_rt (by omega) (by omega) ⟨rfl, by omega⟩ | exact qI_nf ⟨rfl, by omega⟩
                · simp only [zput_s, zput_n, ti_g, oI_add, oI_sub, oI_mul, zt0, zt1, zt2, zt3, zt4, zt5, zt6, zt7, zt8, zt9, zt10, zt11, zt12, zt13, b145_55]
                  try simp only [zput_s, zput_n, ti_g, oI_add, oI_sub, oI_mul]
                  simp only [zput_s, zput_n, ti_g, oI_add, oI_sub, oI_mul, zt0, zt1, zt2, zt3, zt4, zt5, zt6, zt7, zt8, zt9, zt10, zt11, zt12, zt13, b145_60]
                  try simp only [zput_s, zput_n, ti_g, oI_add, oI_sub, oI_mul]
                  refine zok_pI (s123 (by omega)) (fun y133 u133 p133 => ?_)
                  try simp only [zt0, zt1, zt2, zt3, zt4, zt5, zt6, zt7, zt8, zt9, zt10, zt11, zt12, zt13] at p133
                  simp only [zput_s, zput_n, ti_g, oI_add, oI_sub, oI_mul, zt0, zt1, zt2, zt3, zt4, zt5, zt6, zt7, zt8, zt9, zt10, zt11, zt12, zt13, b145_65]
                  try simp only [zput_s, zput_n, ti_g, oI_add, oI_sub, oI_mul]
                  first | refine zok_ne (by omega) (fun c135 => ?_) (fun c135 => ?_) | refine zok_if (fun c135 => ?_) (fun c135 => ?_)
                  · simp only [zput_s, zput_n, ti_g, oI_add, oI_sub, oI_mul, zt0, zt1, zt2, zt3, zt4, zt5, zt6, zt7, zt8, zt9, zt10, zt11, zt12, zt13, b145_79]
                    try simp only [zput_s, zput_n, ti_g, oI_add, oI_sub, oI_mul]
                    simp only [zput_s, zput_n, ti_g, oI_add, oI_sub, oI_mul, zt0, zt1, zt2, zt3, zt4, zt5, zt6, zt7, zt8, zt9, zt10, zt11, zt12, zt13, b145_84]
                    try simp only [zput_s, zput_n, ti_g, oI_add, oI_sub, oI_mul]
                    first | exact qI_rt (by omega) (by omega) ⟨rfl, by omega⟩ | exact qI_nf ⟨rfl, by omega⟩
                  · refine zok_pI (s124 (by omega)) (fun y138 u138 p138 => ?_)
                    try simp only [zt0, zt1, zt2, zt3, zt4, zt5, zt6, zt7, zt8, zt9, zt10, zt11, zt12, zt13] at p138
                    simp only [zput_s, zput_n, ti_g, oI_add, oI_sub, oI_mul, zt0, zt1, zt2, zt3, zt4, zt5, zt6, zt7, zt8, zt9, zt10, zt11, zt12, zt13, b145_72]
                    try simp only [zput_s, zput_n, ti_g, oI_add, oI_sub, oI_mul]
                    first | refine zok_ne (by omega) (fun c140 => ?_) (fun c140 => ?_) | refine zok_if (fun c140 => ?_) (fun c140 => ?_)
                    · simp only [zput_s, zput_n, ti_g, oI_add, oI_sub, oI_mul, zt0, zt1, zt2, zt3, zt4, zt5, zt6, zt7, zt8, zt9, zt10, zt11, zt12, zt13, b145_79]
                      try simp only [zput_s, zput_n, ti_g, oI_add, oI_sub, oI_mul]
                      simp only [zput_s, zput_n, ti_g, oI_add, oI_sub, oI_mul, zt0, zt1, zt2, zt3, zt4, zt5, zt6, zt7, zt8, zt9, zt10, zt11, zt12, zt13, b145_84]
                      try simp only [zput_s, zput_n, ti_g, oI_add, oI_sub, oI_mul]
                      first | exact qI_rt (by omega) (by omega) ⟨rfl, by omega⟩ | exact qI_nf ⟨rfl, by omega⟩
                    · first | refine zok_eq (by omega) (fun c143 => ?_) (fun c143 => ?_) | refine zok_if (fun c143 => ?_) (fun c143 => ?_)
                      · simp only [zput_s, zput_n, ti_g, oI_add, oI_sub, oI_mul, zt0, zt1, zt2, zt3, zt4, zt5, zt6, zt7, zt8, zt9, zt10, zt11, zt12, zt13, b145_84]
                        try simp only [zput_s, zput_n, ti_g, oI_add, oI_sub, oI_mul]
                        first | exact qI_rt (by omega) (by omega) ⟨rfl, by omega⟩ | exact qI_nf ⟨rfl, by omega⟩
                      · simp only [zput_s, zput_n, ti_g, oI_add, oI_sub, oI_mul, zt0, zt1, zt2, zt3, zt4, zt5, zt6, zt7, zt8, zt9, zt10, zt11, zt12, zt13, b145_79]
                        try simp only [zput_s, zput_n, ti_g, oI_add, oI_sub, oI_mul]
                        simp only [zput_s, zput_n, ti_g, oI_add, oI_sub, oI_mul, zt0, zt1, zt2, zt3, zt4, zt5, zt6, zt7, zt8, zt9, zt10, zt11, zt12, zt13, b145_84]
                        try simp only [zput_s, zput_n, ti_g, oI_add, oI_sub, oI_mul]
                        first | exact qI_rt (by omega) (by omega) ⟨rfl, by omega⟩ | exact qI_nf ⟨rfl, by omega⟩
    · first | refine zok_eq (by omega) (fun c147 => ?_) (fun c147 => ?_) | refine zok_if (fun c147 => ?_) (fun c147 => ?_)
      · simp only [zput_s, zput_n, ti_g, oI_add, oI_sub, oI_mul, zt0, zt1, zt2, zt3, zt4, zt5, zt6, zt7, zt8, zt9, zt10, zt11, zt12, zt13, b145_55]
        try simp only [zput_s, zput_n, ti_g, oI_add, oI_sub, oI_mul]
        simp only [zput_s, zput_n, ti_g, oI_add, oI_sub, oI_mul, zt0, zt1, zt2, zt3, zt4, zt5, zt6, zt7, zt8, zt9, zt10, zt11, zt12, zt13, b145_60]
        try simp only [zput_s, zput_n, ti_g, oI_add, oI_sub, oI_mul]
        refine zok_pI (s123 (by omega)) (fun y150 u150 p150 => ?_)
        try simp only [zt0, zt1, zt2, zt3, zt4, zt5, zt6, zt7, zt8, zt9, zt10, zt11, zt12, zt13] at p150
        simp only [zput_s, zput_n, ti_g, oI_add, oI_sub, oI_mul, zt0, zt1, zt2, zt3, zt4, zt5, zt6, zt7, zt8, zt9, zt10, zt11, zt12, zt13, b145_65]
        try simp only [zput_s, zput_n, ti_g, oI_add, oI_sub, oI_mul]
        first | refine zok_ne (by omega) (fun c152 => ?_) (fun c152 => ?_) | refine zok_if (fun c152 => ?_) (fun c152 => ?_)
        · simp only [zput_s, zput_n, ti_g, oI_add, oI_sub, oI_mul, zt0, zt1, zt2, zt3, zt4, zt5, zt6, zt7, zt8, zt9, zt10, zt11, zt12, zt13, b145_79]
          try simp only [zput_s, zput_n, ti_g, oI_add, oI_sub, oI_mul]
          simp only [zput_s, zput_n, ti_g, oI_add, oI_sub, oI_mul, zt0, zt1, zt2, zt3, zt4, zt5, zt6, zt7, zt8, zt9, zt10, zt11, zt12, zt13, b145_84]
          try simp only [zput_s, zput_n, ti_g, oI_add, oI_sub, oI_mul]
          first | exact qI_rt (by omega) (by omega) ⟨rfl, by omega⟩ | exact qI_nf ⟨rfl, by omega⟩
        · refine zok_pI (s124 (by omega)) (fun y155 u155 p155 => ?_)
          try simp only [zt0, zt1, zt2, zt3, zt4, zt5, zt6, zt7, zt8, zt9, zt10, zt11, zt12, zt13] at p155
          simp only [zput_s, zput_n, ti_g, oI_add, oI_sub, oI_mul, zt0, zt1, zt2, zt3, zt4, zt5, zt6, zt7, zt8, zt9, zt10, zt11, zt12, zt13, b145_72]
          try simp only [zput_s, zput_n, ti_g, oI_add, oI_sub, oI_mul]
          first | refine zok_ne (by omega) (fun c157 => ?_) (fun c157 => ?_) | refine zok_if (fun c157 => ?_) (fun c157 => ?_)
          · simp only [zput_s, zput_n, ti_g, oI_add, oI_sub, oI_mul, zt0, zt1, zt2, zt3, zt4, zt5, zt6, zt7, zt8, zt9, zt10, zt11, zt12, zt13, b145_79]
            try simp only [zput_s, zput_n, ti_g, oI_add, oI_sub, oI_mul]
            simp only [zput_s, zput_n, ti_g, oI_add, oI_sub, oI_mul, zt0, zt1, zt2, zt3, zt4, zt5, zt6, zt7, zt8, zt9, zt10, zt11, zt12, zt13, b145_84]
            try simp only [zput_s, zput_n, ti_g, oI_add, oI_sub, oI_mul]
            first | exact qI_rt (by omega) (by omega) ⟨rfl, by omega⟩ | exact qI_nf ⟨rfl, by omega⟩
          · first | refine zok_eq (by omega) (fun c160 => ?_) (fun c160 => ?_) | refine zok_if (fun c160 => ?_) (fun c160 => ?_)
            · simp only [zput_s, zput_n, ti_g, oI_add, oI_sub, oI_mul, zt0, zt1, zt2, zt3, zt4, zt5, zt6, zt7, zt8, zt9, zt10, zt11, zt12, zt13, b145_84]
              try simp only [zput_s, zput_n, ti_g, oI_add, oI_sub, oI_mul]
              first | exact qI_rt (by omega) (by omega) ⟨rfl, by omega⟩ | exact qI_nf ⟨rfl, by omega⟩
            · simp only [zput_s, zput_n, ti_g, oI_add, oI_sub, oI_mul, zt0, zt1, zt2, zt3, zt4, zt5, zt6, zt7, zt8, zt9, zt10, zt11, zt12, zt13, b145_79]
              try simp only [zput_s, zput_n, ti_g, oI_add, oI_sub, oI_mul]
              simp only [zput_s, zput_n, ti_g, oI_add, oI_sub, oI_mul, zt0, zt1, zt2, zt3, zt4, zt5, zt6, zt7, zt8, zt9, zt10, zt11, zt12, zt13, b145_84]
              try simp only [zput_s, zput_n, ti_g, oI_add, oI_sub, oI_mul]
              first | exact qI_rt (by omega) (by omega) ⟨rfl, by omega⟩ | exact qI_nf ⟨rfl, by omega⟩
      · simp only [zput_s, zput_n, ti_g, oI_add, oI_sub, oI_mul, zt0, zt1, zt2, zt3, zt4, zt5, zt6, zt7, zt8, zt9, zt10, zt11, zt12, zt13, b145_21]
        try simp only [zput_s, zput_n, ti_g, oI_add, oI_sub, oI_mul]
        first | refine zok_lt (by omega) (fun c165 => ?_) (fun c165 => ?_) | refine zok_if (fun c165 => ?_) (fun c165 => ?_)
        · simp only [zput_s, zput_n, ti_g, oI_add, oI_sub, oI_mul, zt0, zt1, zt2, zt3, zt4, zt5, zt6, zt7, zt8, zt9, zt10, zt11, zt12, zt13, b145_44]
          try simp only [zput_s, zput_n, ti_g, oI_add, oI_sub, oI_mul]
          first | refine zok_le (by omega) (fun c167 => ?_) (fun c167 => ?_) | refine zok_if (fun c167 => ?_) (fun c167 => ?_)
          · simp only [zput_s, zput_n, ti_g, oI_add, oI_sub, oI_mul, zt0, zt1, zt2, zt3, zt4, zt5, zt6, zt7, zt8, zt9, zt10, zt11, zt12, zt13, b145_59]
            try simp only [zput_s, zput_n, ti_g, oI_add, oI_sub, oI_mul]
            simp only [zput_s, zput_n, ti_g, oI_add, oI_sub, oI_mul, zt0, zt1, zt2, zt3, zt4, zt5, zt6, zt7, zt8, zt9, zt10, zt11, zt12, zt13, b145_60]
            try simp only [zput_s, zput_n, ti_g, oI_add, oI_sub, oI_mul]
            refine zok_pI (s123 (by omega)) (fun y170 u170 p170 => ?_)
            try simp only [zt0, zt1, zt2, zt3, zt4, zt5, zt6, zt7, zt8, zt9, zt10, zt11, zt12, zt13] at p170
            simp only [zput_s, zput_n, ti_g, oI_add, oI_sub, oI_mul, zt0, zt1, zt2, zt3, zt4, zt5, zt6, zt7, zt8, zt9, zt10, zt11, zt12, zt13, b145_65]
            try simp only [zput_s, zput_n, ti_g, oI_add, oI_sub, oI_mul]
            first | refine zok_ne (by omega) (fun c172 => ?_) (fun c172 => ?_) | refine zok_if (fun c172 => ?_) (fun c172 => ?_)
            · simp only [zput_s, zput_n, ti_g, oI_add, oI_sub, oI_mul, zt0, zt1, zt2, zt3, zt4, zt5, zt6, zt7, zt8, zt9, zt10, zt11, zt12, zt13, b145_79]
              try simp only [zput_s, zput_n, ti_g, oI_add, oI_sub, oI_mul]
              simp only [zput_s, zput_n, ti_g, oI_add, oI_sub, oI_mul, zt0, zt1, zt2, zt3, zt4, zt5, zt6, zt7, zt8, zt9, zt10, zt11, zt12, zt13, b145_84]
              try simp only [zput_s, zput_n, ti_g, oI_add, oI_sub, oI_mul]
              first | exact qI_rt (by omega) (by omega) ⟨rfl, by omega⟩ | exact qI_nf ⟨rfl, by omega⟩
            · refine zok_pI (s124 (by omega)) (fun y175 u175 p175 => ?_)
              try simp only [zt0, zt1, zt2, zt3, zt4, zt5, zt6, zt7, zt8, zt9, zt10, zt11, zt12, zt13] at p175
              simp only [zput_s, zput_n, ti_g, oI_add, oI_sub, oI_mul, zt0, zt1, zt2, zt3, zt4, zt5, zt6, zt7, zt8, zt9, zt10, zt11, zt12, zt13, b145_72]
              try simp only [zput_s, zput_n, ti_g, oI_add, oI_sub, oI_mul]
              first | refine zok_ne (by omega) (fun c177 => ?_) (fun c177 => ?_) | refine zok_if (fun c177 => ?_) (fun c177 => ?_)
              · simp only [zput_s, zput_n, ti_g, oI_add, oI_sub, oI_mul, zt0, zt1, zt2, zt3, zt4, zt5, zt6, zt7, zt8, zt9, zt10, zt11, zt12, zt13, b145_79]
                try simp only [zput_s, zput_n, ti_g, oI_add, oI_sub, oI_mul]
                simp only [zput_s, zput_n, ti_g, oI_add, oI_sub, oI_mul, zt0, zt1, zt2, zt3, zt4, zt5, zt6, zt7, zt8, zt9, zt10, zt11, zt12, zt13, b145_84]
                try simp only [zput_s, zput_n, ti_g, oI_add, oI_sub, oI_mul]
                first | exact qI_rt (by omega) (by omega) ⟨rfl, by omega⟩ | exact qI_nf ⟨rfl, by omega⟩
              · simp only [zput_s, zput_n, ti_g, oI_add, oI_sub, oI_mul, zt0, zt1, zt2, zt3, zt4, zt5, zt6, zt7, zt8, zt9, zt10, zt11, zt12, zt13, b145_84]
                try simp only [zput_s, zput_n, ti_g, oI_add, oI_sub, oI_mul]
                first | exact qI_rt (by omega) (by omega) ⟨rfl, by omega⟩ | exact qI_nf ⟨rfl, by omega⟩
          · first | refine zok_ne (by omega) (fun c181 => ?_) (fun c181 => ?_) | refine zok_if (fun c181 => ?_) (fun c181 => ?_)
            · simp only [zput_s, zput_n, ti_g, oI_add, oI_sub, oI_mul, zt0, zt1, zt2, zt3, zt4, zt5, zt6, zt7, zt8, zt9, zt10, zt11, zt12, zt13, b145_59]
              try simp only [zput_s, zput_n, ti_g, oI_add, oI_sub, oI_mul]
              simp only [zput_s, zput_n, ti_g, oI_add, oI_sub, oI_mul, zt0, zt1, zt2, zt3, zt4, zt5, zt6, zt7, zt8, zt9, zt10, zt11, zt12, zt13, b145_60]
              try simp only [zput_s, zput_n, ti_g, oI_add, oI_sub, oI_mul]
              refine zok_pI (s123 (by omega)) (fun y184 u184 p184 => ?_)
              try simp only [zt0, zt1, zt2, zt3, zt4, zt5, zt6, zt7, zt8, zt9, zt10, zt11, zt12, zt13] at p184
              simp only [zput_s, zput_n, ti_g, oI_add, oI_sub, oI_mul, zt0, zt1, zt2, zt3, zt4, zt5, zt6, zt7, zt8, zt9, zt10, zt11, zt12, zt13, b145_65]
              try simp only [zput_s, zput_n, ti_g, oI_add, oI_sub, oI_mul]
              first | refine zok_ne (by omega) (fun c186 => ?_) (fun c186 => ?_) | refine zok_if (fun c186 => ?_) (fun c186 => ?_)
              · simp only [zput_s, zput_n, ti_g, oI_add, oI_sub, oI_mul, zt0, zt1, zt2, zt3, zt4, zt5, zt6, zt7, zt8, zt9, zt10, zt11, zt12, zt13, b145_79]
                try simp only [zput_s, zput_n, ti_g, oI_add, oI_sub, oI_mul]
                simp only [zput_s, zput_n, ti_g, oI_add, oI_sub, oI_mul, zt0, zt1, zt2, zt3, zt4, zt5, zt6, zt7, zt8, zt9, zt10, zt11, zt12, zt13, b145_84]
                try simp only [zput_s, zput_n, ti_g, oI_add, oI_sub, oI_mul]
                first | exact qI_rt (by omega) (by omega) ⟨rfl, by omega⟩ | exact qI_nf ⟨rfl, by omega⟩
              · refine zok_pI (s124 (by omega)) (fun y189 u189 p189 => ?_)
                try simp only [zt0, zt1, zt2, zt3, zt4, zt5, zt6, zt7, zt8, zt9, zt10, zt11, zt12, zt13] at p189
                simp only [zput_s, zput_n, ti_g, oI_add, oI_sub, oI_mul, zt0, zt1, zt2, zt3, zt4, zt5, zt6, zt7, zt8, zt9, zt10, zt11, zt12, zt13, b145_72]
                try simp only [zput_s, zput_n, ti_g, oI_add, oI_sub, oI_mul]
                first | refine zok_ne (by omega) (fun c191 => ?_) (fun c191 => ?_) | refine zok_if (fun c191 => ?_) (fun c191 => ?_)
                · simp only [zput_s, zput_n, ti_g, oI_add, oI_sub, oI_mul, zt0, zt1, zt2, zt3, zt4, zt5, zt6, zt7, zt8, zt9, zt10, zt11, zt12, zt13, b145_79]
                  try simp only [zput_s, zput_n, ti_g, oI_add, oI_sub, oI_mul]
                  simp only [zput_s, zput_n, ti_g, oI_add, oI_sub, oI_mul, zt0, zt1, zt2, zt3, zt4, zt5, zt6, zt7, zt8, zt9, zt10, zt11, zt12, zt13, b145_84]
                  try simp only [zput_s, zput_n, ti_g, oI_add, oI_sub, oI_mul]
                  first | exact qI_rt (by omega) (by omega) ⟨rfl, by omega⟩ | exact qI_nf ⟨rfl, by omega⟩
                · simp only [zput_s, zput_n, ti_g, oI_add, oI_sub, oI_mul, zt0, zt1, zt2, zt3, zt4, zt5, zt6, zt7, zt8, zt9, zt10, zt11, zt12, zt13, b145_84]
                  try simp only [zput_s, zput_n, ti_g, oI_add, oI_sub, oI_mul]
                  first | exact qI_rt (by omega) (by omega) ⟨rfl, by omega⟩ | exact qI_nf ⟨rfl, by omega⟩
            · simp only [zput_s, zput_n, ti_g, oI_add, oI_sub, oI_mul, zt0, zt1, zt2, zt3, zt4, zt5, zt6, zt7, zt8, zt9, zt10, zt11, zt12, zt13, b145_55]
              try simp only [zput_s, zput_n, ti_g, oI_add, oI_sub, oI_mul]
              simp only [zput_s, zput_n, ti_g, oI_add, oI_sub, oI_mul, zt0, zt1, zt2, zt3, zt4, zt5, zt6, zt7, zt8, zt9, zt10, zt11, zt12, zt13, b145_60]
              try simp only [zput_s, zput_n, ti_g, oI_add, oI_sub, oI_mul]
              refine zok_pI (s123 (by omega)) (fun y197 u197 p197 => ?_)
              try simp only [zt0, zt1, zt2, zt3, zt4, zt5, zt6, zt7, zt8, zt9, zt10, zt11, zt12, zt13] at p197
              simp only [zput_s, zput_n, ti_g, oI_add, oI_sub, oI_mul, zt0, zt1, zt2, zt3, zt4, zt5, zt6, zt7, zt8, zt9, zt10, zt11, zt12, zt13, b145_65]
              try simp only [zput_s, zput_n, ti_g, oI_add, oI_sub, oI_mul]
              first | refine zok_ne (by omega) (fun c199 => ?_) (fun c199 => ?_) | refine zok_if (fun c199 => ?_) (fun c199 => ?_)
              · simp only [zput_s, zput_n, ti_g, oI_add, oI_sub, oI_mul, zt0, zt1, zt2, zt3, zt4, zt5, zt6, zt7, zt8, zt9, zt10, zt11, zt12, zt13, b145_79]
                try simp only [zput_s, zput_n, ti_g, oI_add, oI_sub, oI_mul]
                simp only [zput_s, zput_n, ti_g, oI_add, oI_sub, oI_mul, zt0, zt1, zt2, zt3, zt4, zt5, zt6, zt7, zt8, zt9, zt10, zt11, zt12, zt13, b145_84]
                try simp only [zput_s, zput_n, ti_g, oI_add, oI_sub, oI_mul]
                first | exact qI_rt (by omega) (by omega) ⟨rfl, by omega⟩ | exact qI_nf ⟨rfl, by omega⟩
              · refine zok_pI (s124 (by omega)) (fun y202 u202 p202 => ?_)
                try simp only [zt0, zt1, zt2, zt3, zt4, zt5, zt6, zt7, zt8, zt9, zt10, zt11, zt12, zt13] at p202
                simp only [zput_s, zput_n, ti_g, oI_add, oI_sub, oI_mul, zt0, zt1, zt2, zt3, zt4, zt5, zt6, zt7, zt8, zt9, zt10, zt11, zt12, zt13, b145_72]
                try simp only [zput_s, zput_n, ti_g, oI_add, oI_sub, oI_mul]
                first | refine zok_ne (by omega) (fun c204 => ?_) (fun c204 => ?_) | refine zok_if (fun c204 => ?_) (fun c204 => ?_)
                · simp only [zput_s, zput_n, ti_g, oI_add, oI_sub, oI_mul, zt0, zt1, zt2, zt3, zt4, zt5, zt6, zt7, zt8, zt9, zt10, zt11, zt12, zt13, b145_79]
                  try simp only [zput_s, zput_n, ti_g, oI_add, oI_sub, oI_mul]
                  simp only [zput_s, zput_n, ti_g, oI_add, oI_sub, oI_mul, zt0, zt1, zt2, zt3, zt4, zt5, zt6, zt7, zt8, zt9, zt10, zt11, zt12, zt13, b145_84]
                  try simp only [zput_s, zput_n, ti_g, oI_add, oI_sub, oI_mul]
                  first | exact qI_rt (by omega) (by omega) ⟨rfl, by omega⟩ | exact qI_nf ⟨rfl, by omega⟩
                · first | refine zok_eq (by omega) (fun c207 => ?_) (fun c207 => ?_) | refine zok_if (fun c207 => ?_) (fun c207 => ?_)
                  · simp only [zput_s, zput_n, ti_g, oI_add, oI_sub, oI_mul, zt0, zt1, zt2, zt3, zt4, zt5, zt6, zt7, zt8, zt9, zt10, zt11, zt12, zt13, b145_84]
                    try simp only [zput_s, zput_n, ti_g, oI_add, oI_sub, oI_mul]
                    first | exact qI_rt (by omega) (by omega) ⟨rfl, by omega⟩ | exact qI_nf ⟨rfl, by omega⟩
                  · simp only [zput_s, zput_n, ti_g, oI_add, oI_sub, oI_mul, zt0, zt1, zt2, zt3, zt4, zt5, zt6, zt7, zt8, zt9, zt10, zt11, zt12, zt13, b145_79]
                    try simp only [zput_s, zput_n, ti_g, oI_add, oI_sub, oI_mul]
                    simp only [zput_s, zput_n, ti_g, oI_add, oI_sub, oI_mul, zt0, zt1, zt2, zt3, zt4, zt5, zt6, zt7, zt8, zt9, zt10, zt11, zt12, zt13, b145_84]
                    try simp only [zput_s, zput_n, ti_g, oI_add, oI_sub, oI_mul]
                    first | exact qI_rt (by omega) (by omega) ⟨rfl, by omega⟩ | exact qI_nf ⟨rfl, by omega⟩
        · first | refine zok_eq (by omega) (fun c211 => ?_) (fun c211 => ?_) | refine zok_if (fun c211 => ?_) (fun c211 => ?_)
          · simp only [zput_s, zput_n, ti_g, oI_add, oI_sub, oI_mul, zt0, zt1, zt2, zt3, zt4, zt5, zt6, zt7, zt8, zt9, zt10, zt11, zt12, zt13, b145_55]
            try simp only [zput_s, zput_n, ti_g, oI_add, oI_sub, oI_mul]
            simp only [zput_s, zput_n, ti_g, oI_add, oI_sub, oI_mul, zt0, zt1, zt2, zt3, zt4, zt5, zt6, zt7, zt8, zt9, zt10, zt11, zt12, zt13, b145_60]
            try simp only [zput_s, zput_n, ti_g, oI_add, oI_sub, oI_mul]
            refine zok_pI (s123 (by omega)) (fun y214 u214 p214 => ?_)
            try simp only [zt0, zt1, zt2, zt3, zt4, zt5, zt6, zt7, zt8, zt9, zt10, zt11, zt12, zt13] at p214
            simp only [zput_s, zput_n, ti_g, oI_add, oI_sub, oI_mul, zt0, zt1, zt2, zt3, zt4, zt5, zt6, zt7, zt8, zt9, zt10, zt11, zt12, zt13, b145_65]
            try simp only [zput_s, zput_n, ti_g, oI_add, oI_sub, oI_mul]
            first | refine zok_ne (by omega) (fun c216 => ?_) (fun c216 => ?_) | refine zok_if (fun c216 => ?_) (fun c216 => ?_)
            · simp only [zput_s, zput_n, ti_g, oI_add, oI_sub, oI_mul, zt0, zt1, zt2, zt3, zt4, zt5, zt6, zt7, zt8, zt9, zt10, zt11, zt12, zt13, b145_79]
              try simp only [zput_s, zput_n, ti_g, oI_add, oI_sub, oI_mul]
              simp only [zput_s, zput_n, ti_g, oI_add, oI_sub, oI_mul, zt0, zt1, zt2, zt3, zt4, zt5, zt6, zt7, zt8, zt9, zt10, zt11, zt12, zt13, b145_84]
              try simp only [zput_s, zput_n, ti_g, oI_add, oI_sub, oI_mul]
              first | exact qI_rt (by omega) (by omega) ⟨rfl, by omega⟩ | exact qI_nf ⟨rfl, by omega⟩
            · refine zok_pI (s124 (by omega)) (fun y219 u219 p219 => ?_)
              try simp only [zt0, zt1, zt2, zt3, zt4, zt5, zt6, zt7, zt8, zt9, zt10, zt11, zt12, zt13] at p219
              simp only [zput_s, zput_n, ti_g, oI_add, oI_sub, oI_mul, zt0, zt1, zt2, zt3, zt4, zt5, zt6, zt7, zt8, zt9, zt10, zt11, zt12, zt13, b145_72]
              try simp only [zput_s, zput_n, ti_g, oI_add, oI_sub, oI_mul]
              first | refine zok_ne (by omega) (fun c221 => ?_) (fun c221 => ?_) | refine zok_if (fun c221 => ?_) (fun c221 => ?_)
              · simp only [zput_s, zput_n, ti_g, oI_add, oI_sub, oI_mul, zt0, zt1, zt2, zt3, zt4, zt5, zt6, zt7, zt8, zt9, zt10, zt11, zt12, zt13, b145_79]
                try simp only [zput_s, zput_n, ti_g, oI_add, oI_sub, oI_mul]
                simp only [zput_s, zput_n, ti_g, oI_add, oI_sub, oI_mul, zt0, zt1, zt2, zt3, zt4, zt5, zt6, zt7, zt8, zt9, zt10, zt11, zt12, zt13, b145_84]
                try simp only [zput_s, zput_n, ti_g, oI_add, oI_sub, oI_mul]
                first | exact qI_rt (by omega) (by omega) ⟨rfl, by omega⟩ | exact qI_nf ⟨rfl, by omega⟩
              · first | refine zok_eq (by omega) (fun c224 => ?_) (fun c224 => ?_) | refine zok_if (fun c224 => ?_) (fun c224 => ?_)
                · simp only [zput_s, zput_n, ti_g, oI_add, oI_sub, oI_mul, zt0, zt1, zt2, zt3, zt4, zt5, zt6, zt7, zt8, zt9, zt10, zt11, zt12, zt13, b145_84]
                  try simp only [zput_s, zput_n, ti_g, oI_add, oI_sub, oI_mul]
                  first | exact qI_rt (by omega) (by omega) ⟨rfl, by omega⟩ | exact qI_nf ⟨rfl, by omega⟩
                · simp only [zput_s, zput_n, ti_g, oI_add, oI_sub, oI_mul, zt0, zt1, zt2, zt3, zt4, zt5, zt6, zt7, zt8, zt9, zt10, zt11, zt12, zt13, b145_79]
                  try simp only [zput_s, zput_n, ti_g, oI_add, oI_sub, oI_mul]
                  simp only [zput_s, zput_n, ti_g, oI_add, oI_sub, oI_mul, zt0, zt1, zt2, zt3, zt4, zt5, zt6, zt7, zt8, zt9, zt10, zt11, zt12, zt13, b145_84]
                  try simp only [zput_s, zput_n, ti_g, oI_add, oI_sub, oI_mul]
                  first | exact qI_rt (by omega) (by omega) ⟨rfl, by omega⟩ | exact qI_nf ⟨rfl, by omega⟩
          · first | refine zok_eq (by omega) (fun c228 => ?_) (fun c228 => ?_) | refine zok_if (fun c228 => ?_) (fun c228 => ?_)
            · simp only [zput_s, zput_n, ti_g, oI_add, oI_sub, oI_mul, zt0, zt1, zt2, zt3, zt4, zt5, zt6, zt7, zt8, zt9, zt10, zt11, zt12, zt13, b145_55]
              try simp only [zput_s, zput_n, ti_g, oI_add, oI_sub, oI_mul]
              simp only [zput_s, zput_n, ti_g, oI_add, oI_sub, oI_mul, zt0, zt1, zt2, zt3, zt4, zt5, zt6, zt7, zt8, zt9, zt10, zt11, zt12, zt13, b145_60]
              try simp only [zput_s, zput_n, ti_g, oI_add, oI_sub, oI_mul]
              refine zok_pI (s123 (by omega)) (fun y231 u231 p231 => ?_)
              try simp only [zt0, zt1, zt2, zt3, zt4, zt5, zt6, zt7, zt8, zt9, zt10, zt11, zt12, zt13] at p231
              simp only [zput_s, zput_n, ti_g, oI_add, oI_sub, oI_mul, zt0, zt1, zt2, zt3, zt4, zt5, zt6, zt7, zt8, zt9, zt10, zt11, zt12, zt13, b145_65]
              try simp only [zput_s, zput_n, ti_g, oI_add, oI_sub, oI_mul]
              first | refine zok_ne (by omega) (fun c233 => ?_) (fun c233 => ?_) | refine zok_if (fun c233 => ?_) (fun c233 => ?_)
              · simp only [zput_s, zput_n, ti_g, oI_add, oI_sub, oI_mul, zt0, zt1, zt2, zt3, zt4, zt5, zt6, zt7, zt8, zt9, zt10, zt11, zt12, zt13, b145_79]
                try simp only [zput_s, zput_n, ti_g, oI_add, oI_sub, oI_mul]
                simp only [zput_s, zput_n, ti_g, oI_add, oI_sub, oI_mul, zt0, zt1, zt2, zt3, zt4, zt5, zt6, zt7, zt8, zt9, zt10, zt11, zt12, zt13, b145_84]
                try simp only [zput_s, zput_n, ti_g, oI_add, oI_sub, oI_mul]
                first | exact qI_rt (by omega) (by omega) ⟨rfl, by omega⟩ | exact qI_nf ⟨rfl, by omega⟩
              · refine zok_pI (s124 (by omega)) (fun y236 u236 p236 => ?_)
                try simp only [zt0, zt1, zt2, zt3, zt4, zt5, zt6, zt7, zt8, zt9, zt10, zt11, zt12, zt13] at p236
                simp only [zput_s, zput_n, ti_g, oI_add, oI_sub, oI_mul, zt0, zt1, zt2, zt3, zt4, zt5, zt6, zt7, zt8, zt9, zt10, zt11, zt12, zt13, b145_72]
                try simp only [zput_s, zput_n, ti_g, oI_add, oI_sub, oI_mul]
                first | refine zok_ne (by omega) (fun c238 => ?_) (fun c238 => ?_) | refine zok_if (fun c238 => ?_) (fun c238 => ?_)
                · simp only [zput_s, zput_n, ti_g, oI_add, oI_sub, oI_mul, zt0, zt1, zt2, zt3, zt4, zt5, zt6, zt7, zt8, zt9, zt10, zt11, zt12, zt13, b145_79]
                  try simp only [zput_s, zput_n, ti_g, oI_add, oI_sub, oI_mul]
                  simp only [zput_s, zput_n, ti_g, oI_add, oI_sub, oI_mul, zt0, zt1, zt2, zt3, zt4, zt5, zt6, zt7, zt8, zt9, zt10, zt11, zt12, zt13, b145_84]
                  try simp only [zput_s, zput_n, ti_g, oI_add, oI_sub, oI_mul]
                  first | exact qI_rt (by omega) (by omega) ⟨rfl, by omega⟩ | exact qI_nf ⟨rfl, by omega⟩
                · first | refine zok_eq (by omega) (fun c241 => ?_) (fun c241 => ?_) | refine zok_if (fun c241 => ?_) (fun c241 => ?_)
                  · simp only [zput_s, zput_n, ti_g, oI_add, oI_sub, oI_mul, zt0, zt1, zt2, zt3, zt4, zt5, zt6, zt7, zt8, zt9, zt10, zt11, zt12, zt13, b145_84]
                    try simp only [zput_s, zput_n, ti_g, oI_add, oI_sub, oI_mul]
                    first | exact qI_rt (by omega) (by omega) ⟨rfl, by omega⟩ | exact qI_nf ⟨rfl, by omega⟩
                  · simp only [zput_s, zput_n, ti_g, oI_add, oI_sub, oI_mul, zt0, zt1, zt2, zt3, zt4, zt5, zt6, zt7, zt8, zt9, zt10, zt11, zt12, zt13, b145_79]
                    try simp only [zput_s, zput_n, ti_g, oI_add, oI_sub, oI_mul]
                    simp only [zput_s, zput_n, ti_g, oI_add, oI_sub, oI_mul, zt0, zt1, zt2, zt3, zt4, zt5, zt6, zt7, zt8, zt9, zt10, zt11, zt12, zt13, b145_84]
                    try simp only [zput_s, zput_n, ti_g, oI_add, oI_sub, oI_mul]
                    first | exact qI_rt (by omega) (by omega) ⟨rfl, by omega⟩ | exact qI_nf ⟨rfl, by omega⟩
            · first | refine zok_eq (by omega) (fun c245 => ?_) (fun c245 => ?_) | refine zok_if (fun c245 => ?_) (fun c245 => ?_)
              · simp only [zput_s, zput_n, ti_g, oI_add, oI_sub, oI_mul, zt0, zt1, zt2, zt3, zt4, zt5, zt6, zt7, zt8, zt9, zt10, zt11, zt12, zt13, b145_55]
                try simp only [zput_s, zput_n, ti_g, oI_add, oI_sub, oI_mul]
                simp only [zput_s, zput_n, ti_g, oI_add, oI_sub, oI_mul, zt0, zt1, zt2, zt3, zt4, zt5, zt6, zt7, zt8, zt9, zt10, zt11, zt12, zt13, b145_60]
                try simp only [zput_s, zput_n, ti_g, oI_add, oI_sub, oI_mul]
                refine zok_pI (s123 (by omega)) (fun y248 u248 p248 => ?_)
                try simp only [zt0, zt1, zt2, zt3, zt4, zt5, zt6, zt7, zt8, zt9, zt10, zt11, zt12, zt13] at p248
                simp only [zput_s, zput_n, ti_g, oI_add, oI_sub, oI_mul, zt0, zt1, zt2, zt3, zt4, zt5, zt6, zt7, zt8, zt9, zt10, zt11, zt12, zt13, b145_65]
                try simp only [zput_s, zput_n, ti_g, oI_add, oI_sub, oI_mul]
                first | refine zok_ne (by omega) (fun c250 => ?_) (fun c250 => ?_) | refine zok_if (fun c250 => ?_) (fun c250 => ?_)
                · simp only [zput_s, zput_n, ti_g, oI_add, oI_sub, oI_mul, zt0, zt1, zt2, zt3, zt4, zt5, zt6, zt7, zt8, zt9, zt10, zt11, zt12, zt13, b145_79]
                  try simp only [zput_s, zput_n, ti_g, oI_add, oI_sub, oI_mul]
                  simp only [zput_s, zput_n, ti_g, oI_add, oI_sub, oI_mul, zt0, zt1, zt2, zt3, zt4, zt5, zt6, zt7, zt8, zt9, zt10, zt11, zt12, zt13, b145_84]
                  try simp only [zput_s, zput_n, ti_g, oI_add, oI_sub, oI_mul]
                  first | exact qI_rt (by omega) (by omega) ⟨rfl, by omega⟩ | exact qI_nf ⟨rfl, by omega⟩
                · refine zok_pI (s124 (by omega)) (fun y253 u253 p253 => ?_)
                  try simp only [zt0, zt1, zt2, zt3, zt4, zt5, zt6, zt7, zt8, zt9, zt10, zt11, zt12, zt13] at p253
                  simp only [zput_s, zput_n, ti_g, oI_add, oI_sub, oI_mul, zt0, zt1, zt2, zt3, zt4, zt5, zt6, zt7, zt8, zt9, zt10, zt11, zt12, zt13, b145_72]
                  try simp only [zput_s, zput_n, ti_g, oI_add, oI_sub, oI_mul]
                  first | refine zok_ne (by omega) (fun c255 => ?_) (fun c255 => ?_) | refine zok_if (fun c255 => ?_) (fun c255 => ?_)
                  · simp only [zput_s, zput_n, ti_g, oI_add, oI_sub, oI_mul, zt0, zt1, zt2, zt3, zt4, zt5, zt6, zt7, zt8, zt9, zt10, zt11, zt12, zt13, b145_79]
                    try simp only [zput_s, zput_n, ti_g, oI_add, oI_sub, oI_mul]
                    simp only [zput_s, zput_n, ti_g, oI_add, oI_sub, oI_mul, zt0, zt1, zt2, zt3, zt4, zt5, zt6, zt7, zt8, zt9, zt10, zt11, zt12, zt13, b145_84]
                    try simp only [zput_s, zput_n, ti_g, oI_add, oI_sub, oI_mul]
                    first | exact qI_rt (by omega) (by omega) ⟨rfl, by omega⟩ | exact qI_nf ⟨rfl, by omega⟩
                  · first | refine zok_eq (by omega) (fun c258 => ?_) (fun c258 => ?_) | refine zok_if (fun c258 => ?_) (fun c258 => ?_)
                    · simp only [zput_s, zput_n, ti_g, oI_add, oI_sub, oI_mul, zt0, zt1, zt2, zt3, zt4, zt5, zt6, zt7, zt8, zt9, zt10, zt11, zt12, zt13, b145_84]
                      try simp only [zput_s, zput_n, ti_g, oI_add, oI_sub, oI_mul]
                      first | exact qI_rt (by omega) (by omega) ⟨rfl, by omega⟩ | exact qI_nf ⟨rfl, by omega⟩
                    · simp only [zput_s, zput_n, ti_g, oI_add, oI_sub, oI_mul, zt0, zt1, zt2, zt3, zt4, zt5, zt6, zt7, zt8, zt9, zt10, zt11, zt12, zt13, b145_79]
                      try simp only [zput_s, zput_n, ti_g, oI_add, oI_sub, oI_mul]
                      simp only [zput_s, zput_n, ti_g, oI_add, oI_sub, oI_mul, zt0, zt1, zt2, zt3, zt4, zt5, zt6, zt7, zt8, zt9, zt10, zt11, zt12, zt13, b145_84]
                      try simp only [zput_s, zput_n, ti_g, oI_add, oI_sub, oI_mul]
                      first | exact qI_rt (by omega) (by omega) ⟨rfl, by omega⟩ | exact qI_nf ⟨rfl, by omega⟩
              · simp only [zput_s, zput_n, ti_g, oI_add, oI_sub, oI_mul, zt0, zt1, zt2, zt3, zt4, zt5, zt6, zt7, zt8, zt9, zt10, zt11, zt12, zt13, b145_44]
                try simp only [zput_s, zput_n, ti_g, oI_add, oI_sub, oI_mul]
                first | refine zok_le (by omega) (fun c263 => ?_) (fun c263 => ?_) | refine zok_if (fun c263 => ?_) (fun c263 => ?_)
                · simp only [zput_s, zput_n, ti_g, oI_add, oI_sub, oI_mul, zt0, zt1, zt2, zt3, zt4, zt5, zt6, zt7, zt8, zt9, zt10, zt11, zt12, zt13, b145_59]
                  try simp only [zput_s, zput_n, ti_g, oI_add, oI_sub, oI_mul]
                  simp only [zput_s, zput_n, ti_g, oI_add, oI_sub, oI_mul, zt0, zt1, zt2, zt3, zt4, zt5, zt6, zt7, zt8, zt9, zt10, zt11, zt12, zt13, b145_60]
                  try simp only [zput_s, zput_n, ti_g, oI_add, oI_sub, oI_mul]
                  refine zok_pI (s123 (by omega)) (fun y266 u266 p266 => ?_)
                  try simp only [zt0, zt1, zt2, zt3, zt4, zt5, zt6, zt7, zt8, zt9, zt10, zt11, zt12, zt13] at p266
                  simp only [zput_s, zput_n, ti_g, oI_add, oI_sub, oI_mul, zt0, zt1, zt2, zt3, zt4, zt5, zt6, zt7, zt8, zt9, zt10, zt11, zt12, zt13, b145_65]
                  try simp only [zput_s, zput_n, ti_g, oI_add, oI_sub, oI_mul]
                  first | refine zok_ne (by omega) (fun c268 => ?_) (fun c268 => ?_) | refine zok_if (fun c268 => ?_) (fun c268 => ?_)
                  · simp only [zput_s, zput_n, ti_g, oI_add, oI_sub, oI_mul, zt0, zt1, zt2, zt3, zt4, zt5, zt6, zt7, zt8, zt9, zt10, zt11, zt12, zt13, b145_79]
                    try simp only [zput_s, zput_n, ti_g, oI_add, oI_sub, oI_mul]
                    simp only [zput_s, zput_n, ti_g, oI_add, oI_sub, oI_mul, zt0, zt1, zt2, zt3, zt4, zt5, zt6, zt7, zt8, zt9, zt10, zt11, zt12, zt13, b145_84]
                    try simp only [zput_s, zput_n, ti_g, oI_add, oI_sub, oI_mul]
                    first | exact qI_rt (by omega) (by omega) ⟨rfl, by omega⟩ | exact qI_nf ⟨rfl, by omega⟩
                  · refine zok_pI (s124 (by omega)) (fun y271 u271 p271 => ?_)
                    try simp only [zt0, zt1, zt2, zt3, zt4, zt5, zt6, zt7, zt8, zt9, zt10, zt11, zt12, zt13] at p271
                    simp only [zput_s, zput_n, ti_g, oI_add, oI_sub, oI_mul, zt0, zt1, zt2, zt3, zt4, zt5, zt6, zt7, zt8, zt9, zt10, zt11, zt12, zt13, b145_72]
                    try simp only [zput_s, zput_n, ti_g, oI_add, oI_sub, oI_mul]
                    first | refine zok_ne (by omega) (fun c273 => ?_) (fun c273 => ?_) | refine zok_if (fun c273 => ?_) (fun c273 => ?_)
                    · simp only [zput_s, zput_n, ti_g, oI_add, oI_sub, oI_mul, zt0, zt1, zt2, zt3, zt4, zt5, zt6, zt7, zt8, zt9, zt10, zt11, zt12, zt13, b145_79]
                      try simp only [zput_s, zput_n, ti_g, oI_add, oI_sub, oI_mul]
                      simp only [zput_s, zput_n, ti_g, oI_add, oI_sub, oI_mul, zt0, zt1, zt2, zt3, zt4, zt5, zt6, zt7, zt8, zt9, zt10, zt11, zt12, zt13, b145_84]
                      try simp only [zput_s, zput_n, ti_g, oI_add, oI_sub, oI_mul]
                      first | exact qI_rt (by omega) (by omega) ⟨rfl, by omega⟩ | exact qI_nf ⟨rfl, by omega⟩
                    · simp only [zput_s, zput_n, ti_g, oI_add, oI_sub, oI_mul, zt0, zt1, zt2, zt3, zt4, zt5, zt6, zt7, zt8, zt9, zt10, zt11, zt12, zt13, b145_84]
                      try simp only [zput_s, zput_n, ti_g, oI_add, oI_sub, oI_mul]
                      first | exact qI_rt (by omega) (by omega) ⟨rfl, by omega⟩ | exact qI_nf ⟨rfl, by omega⟩
                · first | refine zok_ne (by omega) (fun c277 => ?_) (fun c277 => ?_) | refine zok_if (fun c277 => ?_) (fun c277 => ?_)
                  · simp only [zput_s, zput_n, ti_g, oI_add, oI_sub, oI_mul, zt0, zt1, zt2, zt3, zt4, zt5, zt6, zt7, zt8, zt9, zt10, zt11, zt12, zt13, b145_59]
                    try simp only [zput_s, zput_n, ti_g, oI_add, oI_sub, oI_mul]
                    simp only [zput_s, zput_n, ti_g, oI_add, oI_sub, oI_mul, zt0, zt1, zt2, zt3, zt4, zt5, zt6, zt7, zt8, zt9, zt10, zt11, zt12, zt13, b145_60]
                    try simp only [zput_s, zput_n, ti_g, oI_add, oI_sub, oI_mul]
                    refine zok_pI (s123 (by omega)) (fun y280 u280 p280 => ?_)
                    try simp only [zt0, zt1, zt2, zt3, zt4, zt5, zt6, zt7, zt8, zt9, zt10, zt11, zt12, zt13] at p280
                    simp only [zput_s, zput_n, ti_g, oI_add, oI_sub, oI_mul, zt0, zt1, zt2, zt3, zt4, zt5, zt6, zt7, zt8, zt9, zt10, zt11, zt12, zt13, b145_65]
                    try simp only [zput_s, zput_n, ti_g, oI_add, oI_sub, oI_mul]
                    first | refine zok_ne (by omega) (fun c282 => ?_) (fun c282 => ?_) | refine zok_if (fun c282 => ?_) (fun c282 => ?_)
                    · simp only [zput_s, zput_n, ti_g, oI_add, oI_sub, oI_mul, zt0, zt1, zt2, zt3, zt4, zt5, zt6, zt7, zt8, zt9, zt10, zt11, zt12, zt13, b145_79]
                      try simp only [zput_s, zput_n, ti_g, oI_add, oI_sub, oI_mul]
                      simp only [zput_s, zput_n, ti_g, oI_add, oI_sub, oI_mul, zt0, zt1, zt2, zt3, zt4, zt5, zt6, zt7, zt8, zt9, zt10, zt11, zt12, zt13, b145_84]
                      try simp only [zput_s, zput_n, ti_g, oI_add, oI_sub, oI_mul]
                      first | exact qI_rt (by omega) (by omega) ⟨rfl, by omega⟩ | exact qI_nf ⟨rfl, by omega⟩
                    · refine zok_pI (s124 (by omega)) (fun y285 u285 p285 => ?_)
                      try simp only [zt0, zt1, zt2, zt3, zt4, zt5, zt6, zt7, zt8, zt9, zt10, zt11, zt12, zt13] at p285
                      simp only [zput_s, zput_n, ti_g, oI_add, oI_sub, oI_mul, zt0, zt1, zt2, zt3, zt4, zt5, zt6, zt7, zt8, zt9, zt10, zt11, zt12, zt13, b145_72]
                      try simp only [zput_s, zput_n, ti_g, oI_add, oI_sub, oI_mul]
                      first | refine zok_ne (by omega) (fun c287 => ?_) (fun c287 => ?_) | refine zok_if (fun c287 => ?_) (fun c287 => ?_)
                      · simp only [zput_s, zput_n, ti_g, oI_add, oI_sub, oI_mul, zt0, zt1, zt2, zt3, zt4, zt5, zt6, zt7, zt8, zt9, zt10, zt11, zt12, zt13, b145_79]
                        try simp only [zput_s, zput_n, ti_g, oI_add, oI_sub, oI_mul]
                        simp only [zput_s, zput_n, ti_g, oI_add, oI_sub, oI_mul, zt0, zt1, zt2, zt3, zt4, zt5, zt6, zt7, zt8, zt9, zt10, zt11, zt12, zt13, b145_84]
                        try simp only [zput_s, zput_n, ti_g, oI_add, oI_sub, oI_mul]
                        first | exact qI_rt (by omega) (by omega) ⟨rfl, by omega⟩ | exact qI_nf ⟨rfl, by omega⟩
                      · simp only [zput_s, zput_n, ti_g, oI_add, oI_sub, oI_mul, zt0, zt1, zt2, zt3, zt4, zt5, zt6, zt7, zt8, zt9, zt10, zt11, zt12, zt13, b145_84]
                        try simp only [zput_s, zput_n, ti_g, oI_add, oI_sub, oI_mul]
                        first | exact qI_rt (by omega) (by omega) ⟨rfl, by omega⟩ | exact qI_nf ⟨rfl, by omega⟩
                  · simp only [zput_s, zput_n, ti_g, oI_add, oI_sub, oI_mul, zt0, zt1, zt2, zt3, zt4, zt5, zt6, zt7, zt8, zt9, zt10, zt11, zt12, zt13, b145_55]
                    try simp only [zput_s, zput_n, ti_g, oI_add, oI_sub, oI_mul]
                    simp only [zput_s, zput_n, ti_g, oI_add, oI_sub, oI_mul, zt0, zt1, zt2, zt3, zt4, zt5, zt6, zt7, zt8, zt9, zt10, zt11, zt12, zt13, b145_60]
                    try simp only [zput_s, zput_n, ti_g, oI_add, oI_sub, oI_mul]
                    refine zok_pI (s123 (by omega)) (fun y293 u293 p293 => ?_)
                    try simp only [zt0, zt1, zt2, zt3, zt4, zt5, zt6, zt7, zt8, zt9, zt10, zt11, zt12, zt13] at p293
                    simp only [zput_s, zput_n, ti_g, oI_add, oI_sub, oI_mul, zt0, zt1, zt2, zt3, zt4, zt5, zt6, zt7, zt8, zt9, zt10, zt11, zt12, zt13, b145_65]
                    try simp only [zput_s, zput_n, ti_g, oI_add, oI_sub, oI_mul]
                    first | refine zok_ne (by omega) (fun c295 => ?_) (fun c295 => ?_) | refine zok_if (fun c295 => ?_) (fun c295 => ?_)
                    · simp only [zput_s, zput_n, ti_g, oI_add, oI_sub, oI_mul, zt0, zt1, zt2, zt3, zt4, zt5, zt6, zt7, zt8, zt9, zt10, zt11, zt12, zt13, b145_79]
                      try simp only [zput_s, zput_n, ti_g, oI_add, oI_sub, oI_mul]
                      simp only [zput_s, zput_n, ti_g, oI_add, oI_sub, oI_mul, zt0, zt1, zt2, zt3, zt4, zt5, zt6, zt7, zt8, zt9, zt10, zt11, zt12, zt13, b145_84]
                      try simp only [zput_s, zput_n, ti_g, oI_add, oI_sub, oI_mul]
                      first | exact qI_rt (by omega) (by omega) ⟨rfl, by omega⟩ | exact qI_nf ⟨rfl, by omega⟩
                    · refine zok_pI (s124 (by omega)) (fun y298 u298 p298 => ?_)
                      try simp only [zt0, zt1, zt2, zt3, zt4, zt5, zt6, zt7, zt8, zt9, zt10, zt11, zt12, zt13] at p298
                      simp only [zput_s, zput_n, ti_g, oI_add, oI_sub, oI_mul, zt0, zt1, zt2, zt3, zt4, zt5, zt6, zt7, zt8, zt9, zt10, zt11, zt12, zt13, b145_72]
                      try simp only [zput_s, zput_n, ti_g, oI_add, oI_sub, oI_mul]
                      first | refine zok_ne (by omega) (fun c300 => ?_) (fun c300 => ?_) | refine zok_if (fun c300 => ?_) (fun c300 => ?_)
                      · simp only [zput_s, zput_n, ti_g, oI_add, oI_sub, oI_mul, zt0, zt1, zt2, zt3, zt4, zt5, zt6, zt7, zt8, zt9, zt10, zt11, zt12, zt13, b145_79]
                        try simp only [zput_s, zput_n, ti_g, oI_add, oI_sub, oI_mul]
                        simp only [zput_s, zput_n, ti_g, oI_add, oI_sub, oI_mul, zt0, zt1, zt2, zt3, zt4, zt5, zt6, zt7, zt8, zt9, zt10, zt11, zt12, zt13, b145_84]
                        try simp only [zput_s, zput_n, ti_g, oI_add, oI_sub, oI_mul]
                        first | exact qI_rt (by omega) (by omega) ⟨rfl, by omega⟩ | exact qI_nf ⟨rfl, by omega⟩
                      · first | refine zok_eq (by omega) (fun c303 => ?_) (fun c303 => ?_) | refine zok_if (fun c303 => ?_) (fun c303 => ?_)
                        · simp only [zput_s, zput_n, ti_g, oI_add, oI_sub, oI_mul, zt0, zt1, zt2, zt3, zt4, zt5, zt6, zt7, zt8, zt9, zt10, zt11, zt12, zt13, b145_84]
                          try simp only [zput_s, zput_n, ti_g, oI_add, oI_sub, oI_mul]
                          first | exact qI_rt (by omega) (by omega) ⟨rfl, by omega⟩ | exact qI_nf ⟨rfl, by omega⟩
                        · simp only [zput_s, zput_n, ti_g, oI_add, oI_sub, oI_mul, zt0, zt1, zt2, zt3, zt4, zt5, zt6, zt7, zt8, zt9, zt10, zt11, zt12, zt13, b145_79]
                          try simp only [zput_s, zput_n, ti_g, oI_add, oI_sub, oI_mul]
                          simp only [zput_s, zput_n, ti_g, oI_add, oI_sub, oI_mul, zt0, zt1, zt2, zt3, zt4, zt5, zt6, zt7, zt8, zt9, zt10, zt11, zt12, zt13, b145_84]
                          try simp only [zput_s, zput_n, ti_g, oI_add, oI_sub, oI_mul]
                          first | exact qI_rt (by omega) (by omega) ⟨rfl, by omega⟩ | exact qI_nf ⟨rfl, by omega⟩
  · refine zok_pI (s121 (by omega)) (fun y307 u307 p307 => ?_)
    try simp only [zt0, zt1, zt2, zt3, zt4, zt5, zt6, zt7, zt8, zt9, zt10, zt11, zt12, zt13] at p307
    simp only [zput_s, zput_n, ti_g, oI_add, oI_sub, oI_mul, zt0, zt1, zt2, zt3, zt4, zt5, zt6, zt7, zt8, zt9, zt10, zt11, zt12, zt13, b145_9]
    try simp only [zput_s, zput_n, ti_g, oI_add, oI_sub, oI_mul]
    refine zok_ck (by first | exact fun _ => bool_p (by omega) | exact bool_p (by omega)) ?_
    first | exact qI_rt (by omega) (by omega) ⟨rfl, by omega⟩ | exact qI_nf ⟨rfl, by omega⟩
/-! X9_at -/
theorem s128 {sh : zSh} {t : zSt} {MB : Nat} {r0 : Nat} (q0 : zMd sh MB r0) {x1 : Int} (u1 : -2147483648 ≤ x1 ∧ x1 ≤ 2147483647) {x2 : Int} (u2 : -2147483648 ≤ x2 ∧ x2 ≤ 2147483647) (d1 : 0 ≤ x1 ∧ x1 ≤ 13) (G : GI sh r0 t) : zok (zcl zP 128 [zR r0, zI (oI x1), zI (oI x2)] (sh, t)) (qI (fun x t' => t' = t ∧ (x = zat sh r0 t x1 x2)) sh) := by
  have ha0_1 : (sk sh (sr sh r0 1)).2 = 21000 := by rw [q0.2.2.2.2.1]
  have ha0_2 : (sk sh (sr sh r0 2)).2 = 14 := by rw [q0.2.2.2.2.2.1]
  have ha0_3 : (sk sh (sr sh r0 3)).2 = 98 := by rw [q0.2.2.2.2.2.2.1]
  have ha0_4 : (sk sh (sr sh r0 4)).2 = 98 := by rw [q0.2.2.2.2.2.2.2.1]
  have ha0_8 : (sk sh (sr sh r0 8)).2 = 1500 := by rw [q0.2.2.2.2.2.2.2.2.1]
  have ha0_9 : (sk sh (sr sh r0 9)).2 = 10500 := by rw [q0.2.2.2.2.2.2.2.2.2.1]
  have ha0_10 : (sk sh (sr sh r0 10)).2 = 7 := by rw [q0.2.2.2.2.2.2.2.2.2.2.1]
  have ha0_11 : (sk sh (sr sh r0 11)).2 = 7 := by rw [q0.2.2.2.2.2.2.2.2.2.2.2.1]
  have ha0_12 : (sk sh (sr sh r0 12)).2 = 1500 := by rw [q0.2.2.2.2.2.2.2.2.2.2.2.2.1]
  have ha0_13 : (sk sh (sr sh r0 13)).2 = 1500 := by rw [q0.2.2.2.2.2.2.2.2.2.2.2.2.2.1]
  have ha0_14 : (sk sh (sr sh r0 14)).2 = 20 := by rw [q0.2.2.2.2.2.2.2.2.2.2.2.2.2.2]
  rw [b128_0]
  try simp only [zput_s, zput_n, ti_g, oI_add, oI_sub, oI_mul]
  first | refine zok_lt (by omega) (fun c2 => ?_) (fun c2 => ?_) | refine zok_if (fun c2 => ?_) (fun c2 => ?_)
  · first | exact qI_rt (by omega) (by omega) ⟨rfl, by unfold zat; omega⟩ | exact qI_nf ⟨rfl, by unfold zat; omega⟩
  · refine zok_ck ((q0).1) ?_
    refine zok_ck ⟨(by rw [(q0).2.2.2.2.2.1]), zin_o (by omega) (by omega) (by omega)⟩ ?_
    try rw [nN_o (a := x1) (by omega) (by omega)]
    try simp only [zput_s, zput_n, ti_g, oI_add, oI_sub, oI_mul, zt0, zt1, zt2, zt3, zt4, zt5, zt6, zt7, zt8, zt9, zt10, zt11, zt12, zt13]
    have gl3 := And.intro (tg_lo t (sr sh r0 2) ((x1).toNat)) (tg_hi t (sr sh r0 2) ((x1).toNat))
    have gm3 := (G).1 ((x1).toNat) (by omega)
    try simp only [zt0, zt1, zt2, zt3, zt4, zt5, zt6, zt7, zt8, zt9, zt10, zt11, zt12, zt13] at gl3
    try simp only [zt0, zt1, zt2, zt3, zt4, zt5, zt6, zt7, zt8, zt9, zt10, zt11, zt12, zt13] at gm3
    first | refine zok_le (by omega) (fun c4 => ?_) (fun c4 => ?_) | refine zok_if (fun c4 => ?_) (fun c4 => ?_)
    · first | exact qI_rt (by omega) (by omega) ⟨rfl, by unfold zat; omega⟩ | exact qI_nf ⟨rfl, by unfold zat; omega⟩
    · refine zok_ck ((q0).1) ?_
      refine zok_ck ⟨(by rw [(q0).2.2.2.2.1]), zin_o (by omega) (by omega) (by omega)⟩ ?_
      try rw [nN_o (a := ((1500) * (x1)) + (x2)) (by omega) (by omega)]
      try simp only [zput_s, zput_n, ti_g, oI_add, oI_sub, oI_mul, zt0, zt1, zt2, zt3, zt4, zt5, zt6, zt7, zt8, zt9, zt10, zt11, zt12, zt13]
      have gl5 := And.intro (tg_lo t (sr sh r0 1) ((((1500) * (x1)) + (x2)).toNat)) (tg_hi t (sr sh r0 1) ((((1500) * (x1)) + (x2)).toNat))
      try simp only [zt0, zt1, zt2, zt3, zt4, zt5, zt6, zt7, zt8, zt9, zt10, zt11, zt12, zt13] at gl5
      first | exact qI_rt (by omega) (by omega) ⟨rfl, by unfold zat; omega⟩ | exact qI_nf ⟨rfl, by unfold zat; omega⟩
/-! X9_find -/
theorem l129_3 {sh : zSh} {t : zSt} {MB : Nat} {r0 : Nat} (q0 : zMd sh MB r0) {x1 : Int} (u1 : -2147483648 ≤ x1 ∧ x1 ≤ 2147483647) {x2 : Int} (u2 : -2147483648 ≤ x2 ∧ x2 ≤ 2147483647) {x3 : Int} (u3 : -2147483648 ≤ x3 ∧ x3 ≤ 2147483647) {x4 : Int} (u4 : -2147483648 ≤ x4 ∧ x4 ≤ 2147483647) (d1 : 0 ≤ x1 ∧ x1 ≤ 13) (d3 : -1 ≤ x3) (G : GI sh r0 t) : ∀ (n : Nat) (x5 : Int) , (-2147483648 ≤ x5 ∧ x5 ≤ 2147483647) ∧ (x3 ≤ x5 ∧ (x5 ≤ x4 ∨ x5 = x3)) → (x4 - x5).toNat < n → zok (zev zP 129 3 [some (zR r0), some (zI (oI x1)), some (zI (oI x2)), some (zI (oI x3)), some (zI (oI x4)), some (zI (oI x5))] [] (sh, t)) (qI (fun x t' => t' = t ∧ ((x3 ≤ x ∧ x ≤ x4) ∨ (x4 ≤ x3 ∧ x = x3))) sh) := by
  intro n
  induction n with
  | zero => intro x5  _ hm; omega
  | succ n ih =>
    intro x5  hv hm
    have ha0_1 : (sk sh (sr sh r0 1)).2 = 21000 := by rw [q0.2.2.2.2.1]
    have ha0_2 : (sk sh (sr sh r0 2)).2 = 14 := by rw [q0.2.2.2.2.2.1]
    have ha0_3 : (sk sh (sr sh r0 3)).2 = 98 := by rw [q0.2.2.2.2.2.2.1]
    have ha0_4 : (sk sh (sr sh r0 4)).2 = 98 := by rw [q0.2.2.2.2.2.2.2.1]
    have ha0_8 : (sk sh (sr sh r0 8)).2 = 1500 := by rw [q0.2.2.2.2.2.2.2.2.1]
    have ha0_9 : (sk sh (sr sh r0 9)).2 = 10500 := by rw [q0.2.2.2.2.2.2.2.2.2.1]
    have ha0_10 : (sk sh (sr sh r0 10)).2 = 7 := by rw [q0.2.2.2.2.2.2.2.2.2.2.1]
    have ha0_11 : (sk sh (sr sh r0 11)).2 = 7 := by rw [q0.2.2.2.2.2.2.2.2.2.2.2.1]
    have ha0_12 : (sk sh (sr sh r0 12)).2 = 1500 := by rw [q0.2.2.2.2.2.2.2.2.2.2.2.2.1]
    have ha0_13 : (sk sh (sr sh r0 13)).2 = 1500 := by rw [q0.2.2.2.2.2.2.2.2.2.2.2.2.2.1]
    have ha0_14 : (sk sh (sr sh r0 14)).2 = 20 := by rw [q0.2.2.2.2.2.2.2.2.2.2.2.2.2.2]
    rw [b129_3]
    try simp only [zput_s, zput_n, ti_g, oI_add, oI_sub, oI_mul]
    first | refine zok_le (by omega) (fun c2 => ?_) (fun c2 => ?_) | refine zok_if (fun c2 => ?_) (fun c2 => ?_)
    · first | exact qI_rt (by omega) (by omega) ⟨rfl, by omega⟩ | exact qI_nf ⟨rfl, by omega⟩
    · refine zok_ck ((q0).1) ?_
      refine zok_pI (s128 (q0) (by omega) (by omega) (by first | (omega) | ((try simp only [zt0, zt1, zt2, zt3, zt4, zt5, zt6, zt7, zt8, zt9, zt10, zt11, zt12, zt13]); omega)) (G)) (fun y3 u3 p3 => ?_)
      try simp only [zt0, zt1, zt2, zt3, zt4, zt5, zt6, zt7, zt8, zt9, zt10, zt11, zt12, zt13] at p3
      simp only [zput_s, zput_n, ti_g, oI_add, oI_sub, oI_mul, zt0, zt1, zt2, zt3, zt4, zt5, zt6, zt7, zt8, zt9, zt10, zt11, zt12, zt13, b129_17]
      try simp only [zput_s, zput_n, ti_g, oI_add, oI_sub, oI_mul]
      first | refine zok_eq (by omega) (fun c5 => ?_) (fun c5 => ?_) | refine zok_if (fun c5 => ?_) (fun c5 => ?_)
      · first | exact qI_rt (by omega) (by omega) ⟨rfl, by omega⟩ | exact qI_nf ⟨rfl, by omega⟩
      · try simp only [zput_s, zput_n, ti_g, oI_add, oI_sub, oI_mul]
        exact ih _ (by first | omega | ((try simp only [zt0, zt1, zt2, zt3, zt4, zt5, zt6, zt7, zt8, zt9, zt10, zt11, zt12, zt13]); omega)) (by first | omega | ((try simp only [zt0, zt1, zt2, zt3, zt4, zt5, zt6, zt7, zt8, zt9, zt10, zt11, zt12, zt13]); omega))
theorem s129 {sh : zSh} {t : zSt} {MB : Nat} {r0 : Nat} (q0 : zMd sh MB r0) {x1 : Int} (u1 : -2147483648 ≤ x1 ∧ x1 ≤ 2147483647) {x2 : Int} (u2 : -2147483648 ≤ x2 ∧ x2 ≤ 2147483647) {x3 : Int} (u3 : -2147483648 ≤ x3 ∧ x3 ≤ 2147483647) {x4 : Int} (u4 : -2147483648 ≤ x4 ∧ x4 ≤ 2147483647) (d1 : 0 ≤ x1 ∧ x1 ≤ 13) (d3 : -1 ≤ x3) (G : GI sh r0 t) : zok (zcl zP 129 [zR r0, zI (oI x1), zI (oI x2), zI (oI x3), zI (oI x4)] (sh, t)) (qI (fun x t' => t' = t ∧ ((x3 ≤ x ∧ x ≤ x4) ∨ (x4 ≤ x3 ∧ x = x3))) sh) := by
  have ha0_1 : (sk sh (sr sh r0 1)).2 = 21000 := by rw [q0.2.2.2.2.1]
  have ha0_2 : (sk sh (sr sh r0 2)).2 = 14 := by rw [q0.2.2.2.2.2.1]
  have ha0_3 : (sk sh (sr sh r0 3)).2 = 98 := by rw [q0.2.2.2.2.2.2.1]
  have ha0_4 : (sk sh (sr sh r0 4)).2 = 98 := by rw [q0.2.2.2.2.2.2.2.1]
  have ha0_8 : (sk sh (sr sh r0 8)).2 = 1500 := by rw [q0.2.2.2.2.2.2.2.2.1]
  have ha0_9 : (sk sh (sr sh r0 9)).2 = 10500 := by rw [q0.2.2.2.2.2.2.2.2.2.1]
  have ha0_10 : (sk sh (sr sh r0 10)).2 = 7 := by rw [q0.2.2.2.2.2.2.2.2.2.2.1]
  have ha0_11 : (sk sh (sr sh r0 11)).2 = 7 := by rw [q0.2.2.2.2.2.2.2.2.2.2.2.1]
  have ha0_12 : (sk sh (sr sh r0 12)).2 = 1500 := by rw [q0.2.2.2.2.2.2.2.2.2.2.2.2.1]
  have ha0_13 : (sk sh (sr sh r0 13)).2 = 1500 := by rw [q0.2.2.2.2.2.2.2.2.2.2.2.2.2.1]
  have ha0_14 : (sk sh (sr sh r0 14)).2 = 20 := by rw [q0.2.2.2.2.2.2.2.2.2.2.2.2.2.2]
  rw [b129_0]
  try simp only [zput_s, zput_n, ti_g, oI_add, oI_sub, oI_mul]
  try simp only [zput_s, zput_n, ti_g, oI_add, oI_sub, oI_mul]
  exact l129_3 q0 (by omega) (by omega) (by omega) (by omega) d1 d3 G _ _ (by first | omega | ((try simp only [zt0, zt1, zt2, zt3, zt4, zt5, zt6, zt7, zt8, zt9, zt10, zt11, zt12, zt13]); omega)) (Nat.lt_succ_self _)
/-! X9_isCode -/
theorem s130 {sh : zSh} {t : zSt} {MB : Nat} {r0 : Nat} (q0 : zMd sh MB r0) {x1 : Int} (u1 : -2147483648 ≤ x1 ∧ x1 ≤ 2147483647) {x2 : Int} (u2 : -2147483648 ≤ x2 ∧ x2 ≤ 2147483647) (d1 : 0 ≤ x1 ∧ x1 ≤ 13) (d2 : -1 ≤ x2 ∧ x2 ≤ 2000000) (G : GI sh r0 t) : zok (zcl zP 130 [zR r0, zI (oI x1), zI (oI x2)] (sh, t)) (qI (fun x t' => t' = t ∧ (x = 0 ∨ x = 1)) sh) := by
  have ha0_1 : (sk sh (sr sh r0 1)).2 = 21000 := by rw [q0.2.2.2.2.1]
  have ha0_2 : (sk sh (sr sh r0 2)).2 = 14 := by rw [q0.2.2.2.2.2.1]
  have ha0_3 : (sk sh (sr sh r0 3)).2 = 98 := by rw [q0.2.2.2.2.2.2.1]
  have ha0_4 : (sk sh (sr sh r0 4)).2 = 98 := by rw [q0.2.2.2.2.2.2.2.1]
  have ha0_8 : (sk sh (sr sh r0 8)).2 = 1500 := by rw [q0.2.2.2.2.2.2.2.2.1]
  have ha0_9 : (sk sh (sr sh r0 9)).2 = 10500 := by rw [q0.2.2.2.2.2.2.2.2.2.1]
  have ha0_10 : (sk sh (sr sh r0 10)).2 = 7 := by rw [q0.2.2.2.2.2.2.2.2.2.2.1]
  have ha0_11 : (sk sh (sr sh r0 11)).2 = 7 := by rw [q0.2.2.2.2.2.2.2.2.2.2.2.1]
  have ha0_12 : (sk sh (sr sh r0 12)).2 = 1500 := by rw [q0.2.2.2.2.2.2.2.2.2.2.2.2.1]
  have ha0_13 : (sk sh (sr sh r0 13)).2 = 1500 := by rw [q0.2.2.2.2.2.2.2.2.2.2.2.2.2.1]
  have ha0_14 : (sk sh (sr sh r0 14)).2 = 20 := by rw [q0.2.2.2.2.2.2.2.2.2.2.2.2.2.2]
  rw [b130_0]
  try simp only [zput_s, zput_n, ti_g, oI_add, oI_sub, oI_mul]
  refine zok_ck ((q0).1) ?_
  refine zok_pI (s128 (q0) (by omega) (by omega) (by first | (omega) | ((try simp only [zt0, zt1, zt2, zt3, zt4, zt5, zt6, zt7, zt8, zt9, zt10, zt11, zt12, zt13]); omega)) (G)) (fun y2 u2 p2 => ?_)
  try simp only [zt0, zt1, zt2, zt3, zt4, zt5, zt6, zt7, zt8, zt9, zt10, zt11, zt12, zt13] at p2
  simp only [zput_s, zput_n, ti_g, oI_add, oI_sub, oI_mul, zt0, zt1, zt2, zt3, zt4, zt5, zt6, zt7, zt8, zt9, zt10, zt11, zt12, zt13, b130_6]
  try simp only [zput_s, zput_n, ti_g, oI_add, oI_sub, oI_mul]
  first | refine zok_ne (by omega) (fun c4 => ?_) (fun c4 => ?_) | refine zok_if (fun c4 => ?_) (fun c4 => ?_)
  · first | exact qI_rt (by omega) (by omega) ⟨rfl, by omega⟩ | exact qI_nf ⟨rfl, by omega⟩
  · refine zok_ck ((q0).1) ?_
    refine zok_pI (s128 (q0) (by omega) (by omega) (by first | (omega) | ((try simp only [zt0, zt1, zt2, zt3, zt4, zt5, zt6, zt7, zt8, zt9, zt10, zt11, zt12, zt13]); omega)) (G)) (fun y5 u5 p5 => ?_)
    try simp only [zt0, zt1, zt2, zt3, zt4, zt5, zt6, zt7, zt8, zt9, zt10, zt11, zt12, zt13] at p5
    simp only [zput_s, zput_n, ti_g, oI_add, oI_sub, oI_mul, zt0, zt1, zt2, zt3, zt4, zt5, zt6, zt7, zt8, zt9, zt10, zt11, zt12, zt13, b130_19]
    try simp only [zput_s, zput_n, ti_g, oI_add, oI_sub, oI_mul]
    refine zok_pI (s125 (by omega)) (fun y7 u7 p7 => ?_)
    try simp only [zt0, zt1, zt2, zt3, zt4, zt5, zt6, zt7, zt8, zt9, zt10, zt11, zt12, zt13] at p7
    simp only [zput_s, zput_n, ti_g, oI_add, oI_sub, oI_mul, zt0, zt1, zt2, zt3, zt4, zt5, zt6, zt7, zt8, zt9, zt10, zt11, zt12, zt13, b130_22]
    try simp only [zput_s, zput_n, ti_g, oI_add, oI_sub, oI_mul]
    first | refine zok_lt (by omega) (fun c9 => ?_) (fun c9 => ?_) | refine zok_if (fun c9 => ?_) (fun c9 => ?_)
    · first | exact qI_rt (by omega) (by omega) ⟨rfl, by omega⟩ | exact qI_nf ⟨rfl, by omega⟩
    · refine zok_ck ((q0).1) ?_
      refine zok_pI (s128 (q0) (by omega) (by omega) (by first | (omega) | ((try simp only [zt0, zt1, zt2, zt3, zt4, zt5, zt6, zt7, zt8, zt9, zt10, zt11, zt12, zt13]); omega)) (G)) (fun y10 u10 p10 => ?_)
      try simp only [zt0, zt1, zt2, zt3, zt4, zt5, zt6, zt7, zt8, zt9, zt10, zt11, zt12, zt13] at p10
      simp only [zput_s, zput_n, ti_g, oI_add, oI_sub, oI_mul, zt0, zt1, zt2, zt3, zt4, zt5, zt6, zt7, zt8, zt9, zt10, zt11, zt12, zt13, b130_33]
      try simp only [zput_s, zput_n, ti_g, oI_add, oI_sub, oI_mul]
      refine zok_pI (s125 (by omega)) (fun y12 u12 p12 => ?_)
      try simp only [zt0, zt1, zt2, zt3, zt4, zt5, zt6, zt7, zt8, zt9, zt10, zt11, zt12, zt13] at p12
      simp only [zput_s, zput_n, ti_g, oI_add, oI_sub, oI_mul, zt0, zt1, zt2, zt3, zt4, zt5, zt6, zt7, zt8, zt9, zt10, zt11, zt12, zt13, b130_36]
      try simp only [zput_s, zput_n, ti_g, oI_add, oI_sub, oI_mul]
      first | refine zok_lt (by omega) (fun c14 => ?_) (fun c14 => ?_) | refine zok_if (fun c14 => ?_) (fun c14 => ?_)
      · first | exact qI_rt (by omega) (by omega) ⟨rfl, by omega⟩ | exact qI_nf ⟨rfl, by omega⟩
      · first | exact qI_rt (by omega) (by omega) ⟨rfl, by omega⟩ | exact qI_nf ⟨rfl, by omega⟩
/-! X9_has -/
theorem s134 {sh : zSh} {t : zSt} {MB : Nat} {r0 : Nat} (q0 : zMd sh MB r0) {x1 : Int} (u1 : -2147483648 ≤ x1 ∧ x1 ≤ 2147483647) {x2 : Int} (u2 : -2147483648 ≤ x2 ∧ x2 ≤ 2147483647) (d1 : 0 ≤ x1 ∧ x1 ≤ 13) (d2 : 0 ≤ x2 ∧ x2 ≤ 6) (G : GI sh r0 t) : zok (zcl zP 134 [zR r0, zI (oI x1), zI (oI x2)] (sh, t)) (qI (fun x t' => t' = t ∧ ((x = 1 ∧ 0 ≤ tg t (sr sh r0 3) (7 * x1 + x2).toNat) ∨ (x = 0 ∧ tg t (sr sh r0 3) (7 * x1 + x2).toNat = -1))) sh) := by
  have ha0_1 : (sk sh (sr sh r0 1)).2 = 21000 := by rw [q0.2.2.2.2.1]
  have ha0_2 : (sk sh (sr sh r0 2)).2 = 14 := by rw [q0.2.2.2.2.2.1]
  have ha0_3 : (sk sh (sr sh r0 3)).2 = 98 := by rw [q0.2.2.2.2.2.2.1]
  have ha0_4 : (sk sh (sr sh r0 4)).2 = 98 := by rw [q0.2.2.2.2.2.2.2.1]
  have ha0_8 : (sk sh (sr sh r0 8)).2 = 1500 := by rw [q0.2.2.2.2.2.2.2.2.1]
  have ha0_9 : (sk sh (sr sh r0 9)).2 = 10500 := by rw [q0.2.2.2.2.2.2.2.2.2.1]
  have ha0_10 : (sk sh (sr sh r0 10)).2 = 7 := by rw [q0.2.2.2.2.2.2.2.2.2.2.1]
  have ha0_11 : (sk sh (sr sh r0 11)).2 = 7 := by rw [q0.2.2.2.2.2.2.2.2.2.2.2.1]
  have ha0_12 : (sk sh (sr sh r0 12)).2 = 1500 := by rw [q0.2.2.2.2.2.2.2.2.2.2.2.2.1]
  have ha0_13 : (sk sh (sr sh r0 13)).2 = 1500 := by rw [q0.2.2.2.2.2.2.2.2.2.2.2.2.2.1]
  have ha0_14 : (sk sh (sr sh r0 14)).2 = 20 := by rw [q0.2.2.2.2.2.2.2.2.2.2.2.2.2.2]
  rw [b134_0]
  try simp only [zput_s, zput_n, ti_g, oI_add, oI_sub, oI_mul]
  refine zok_ck ((q0).1) ?_
  refine zok_ck ⟨(by rw [(q0).2.2.2.2.2.2.1]), zin_o (by omega) (by omega) (by omega)⟩ ?_
  try rw [nN_o (a := ((7) * (x1)) + (x2)) (by omega) (by omega)]
  try simp only [zput_s, zput_n, ti_g, oI_add, oI_sub, oI_mul, zt0, zt1, zt2, zt3, zt4, zt5, zt6, zt7, zt8, zt9, zt10, zt11, zt12, zt13]
  have gl2 := And.intro (tg_lo t (sr sh r0 3) ((((7) * (x1)) + (x2)).toNat)) (tg_hi t (sr sh r0 3) ((((7) * (x1)) + (x2)).toNat))
  have gm2 := (G).2.1 ((((7) * (x1)) + (x2)).toNat) (by omega)
  try simp only [zt0, zt1, zt2, zt3, zt4, zt5, zt6, zt7, zt8, zt9, zt10, zt11, zt12, zt13] at gl2
  try simp only [zt0, zt1, zt2, zt3, zt4, zt5, zt6, zt7, zt8, zt9, zt10, zt11, zt12, zt13] at gm2
  first | refine zok_lt (by omega) (fun c3 => ?_) (fun c3 => ?_) | refine zok_if (fun c3 => ?_) (fun c3 => ?_)
  · first | exact qI_rt (by omega) (by omega) ⟨rfl, by omega⟩ | exact qI_nf ⟨rfl, by omega⟩
  · first | exact qI_rt (by omega) (by omega) ⟨rfl, by omega⟩ | exact qI_nf ⟨rfl, by omega⟩
/-! X9_sizeOf -/
theorem s135 {sh : zSh} {t : zSt} {MB : Nat} {r0 : Nat} (q0 : zMd sh MB r0) {x1 : Int} (u1 : -2147483648 ≤ x1 ∧ x1 ≤ 2147483647) {x2 : Int} (u2 : -2147483648 ≤ x2 ∧ x2 ≤ 2147483647) (d1 : 0 ≤ x1 ∧ x1 ≤ 13) (d2 : 0 ≤ x2 ∧ x2 ≤ 6) (G : GI sh r0 t) : zok (zcl zP 135 [zR r0, zI (oI x1), zI (oI x2)] (sh, t)) (qI (fun x t' => t' = t ∧ (0 ≤ x ∧ x ≤ 3001 ∧ x = tg t (sr sh r0 4) (7 * x1 + x2).toNat - tg t (sr sh r0 3) (7 * x1 + x2).toNat)) sh) := by
  have ha0_1 : (sk sh (sr sh r0 1)).2 = 21000 := by rw [q0.2.2.2.2.1]
  have ha0_2 : (sk sh (sr sh r0 2)).2 = 14 := by rw [q0.2.2.2.2.2.1]
  have ha0_3 : (sk sh (sr sh r0 3)).2 = 98 := by rw [q0.2.2.2.2.2.2.1]
  have ha0_4 : (sk sh (sr sh r0 4)).2 = 98 := by rw [q0.2.2.2.2.2.2.2.1]
  have ha0_8 : (sk sh (sr sh r0 8)).2 = 1500 := by rw [q0.2.2.2.2.2.2.2.2.1]
  have ha0_9 : (sk sh (sr sh r0 9)).2 = 10500 := by rw [q0.2.2.2.2.2.2.2.2.2.1]
  have ha0_10 : (sk sh (sr sh r0 10)).2 = 7 := by rw [q0.2.2.2.2.2.2.2.2.2.2.1]
  have ha0_11 : (sk sh (sr sh r0 11)).2 = 7 := by rw [q0.2.2.2.2.2.2.2.2.2.2.2.1]
  have ha0_12 : (sk sh (sr sh r0 12)).2 = 1500 := by rw [q0.2.2.2.2.2.2.2.2.2.2.2.2.1]
  have ha0_13 : (sk sh (sr sh r0 13)).2 = 1500 := by rw [q0.2.2.2.2.2.2.2.2.2.2.2.2.2.1]
  have ha0_14 : (sk sh (sr sh r0 14)).2 = 20 := by rw [q0.2.2.2.2.2.2.2.2.2.2.2.2.2.2]
  rw [b135_0]
  try simp only [zput_s, zput_n, ti_g, oI_add, oI_sub, oI_mul]
  refine zok_ck ((q0).1) ?_
  refine zok_ck ⟨(by rw [(q0).2.2.2.2.2.2.2.1]), zin_o (by omega) (by omega) (by omega)⟩ ?_
  try rw [nN_o (a := ((7) * (x1)) + (x2)) (by omega) (by omega)]
  try simp only [zput_s, zput_n, ti_g, oI_add, oI_sub, oI_mul, zt0, zt1, zt2, zt3, zt4, zt5, zt6, zt7, zt8, zt9, zt10, zt11, zt12, zt13]
  have gl2 := And.intro (tg_lo t (sr sh r0 4) ((((7) * (x1)) + (x2)).toNat)) (tg_hi t (sr sh r0 4) ((((7) * (x1)) + (x2)).toNat))
  have gm2 := (G).2.1 ((((7) * (x1)) + (x2)).toNat) (by omega)
  try simp only [zt0, zt1, zt2, zt3, zt4, zt5, zt6, zt7, zt8, zt9, zt10, zt11, zt12, zt13] at gl2
  try simp only [zt0, zt1, zt2, zt3, zt4, zt5, zt6, zt7, zt8, zt9, zt10, zt11, zt12, zt13] at gm2
  refine zok_ck ((q0).1) ?_
  refine zok_ck ⟨(by rw [(q0).2.2.2.2.2.2.1]), zin_o (by omega) (by omega) (by omega)⟩ ?_
  try rw [nN_o (a := ((7) * (x1)) + (x2)) (by omega) (by omega)]
  try simp only [zput_s, zput_n, ti_g, oI_add, oI_sub, oI_mul, zt0, zt1, zt2, zt3, zt4, zt5, zt6, zt7, zt8, zt9, zt10, zt11, zt12, zt13]
  have gl3 := And.intro (tg_lo t (sr sh r0 3) ((((7) * (x1)) + (x2)).toNat)) (tg_hi t (sr sh r0 3) ((((7) * (x1)) + (x2)).toNat))
  have gm3 := (G).2.1 ((((7) * (x1)) + (x2)).toNat) (by omega)
  try simp only [zt0, zt1, zt2, zt3, zt4, zt5, zt6, zt7, zt8, zt9, zt10, zt11, zt12, zt13] at gl3
  try simp only [zt0, zt1, zt2, zt3, zt4, zt5, zt6, zt7, zt8, zt9, zt10, zt11, zt12, zt13] at gm3
  first | exact qI_rt (by omega) (by omega) ⟨rfl, by omega⟩ | exact qI_nf ⟨rfl, by omega⟩
/-! X9_partAt -/
theorem s136 {sh : zSh} {t : zSt} {MB : Nat} {r0 : Nat} (q0 : zMd sh MB r0) {x1 : Int} (u1 : -2147483648 ≤ x1 ∧ x1 ≤ 2147483647) {x2 : Int} (u2 : -2147483648 ≤ x2 ∧ x2 ≤ 2147483647) {x3 : Int} (u3 : -2147483648 ≤ x3 ∧ x3 ≤ 2147483647) (d1 : 0 ≤ x1 ∧ x1 ≤ 13) (d2 : 0 ≤ x2 ∧ x2 ≤ 6) (d3 : -1 ≤ x3 ∧ x3 ≤ 2000000) (G : GI sh r0 t) : zok (zcl zP 136 [zR r0, zI (oI x1), zI (oI x2), zI (oI x3)] (sh, t)) (qI (fun x t' => t' = t ∧ (x = zpa sh r0 t x1 x2 x3)) sh) := by
  have ha0_1 : (sk sh (sr sh r0 1)).2 = 21000 := by rw [q0.2.2.2.2.1]
  have ha0_2 : (sk sh (sr sh r0 2)).2 = 14 := by rw [q0.2.2.2.2.2.1]
  have ha0_3 : (sk sh (sr sh r0 3)).2 = 98 := by rw [q0.2.2.2.2.2.2.1]
  have ha0_4 : (sk sh (sr sh r0 4)).2 = 98 := by rw [q0.2.2.2.2.2.2.2.1]
  have ha0_8 : (sk sh (sr sh r0 8)).2 = 1500 := by rw [q0.2.2.2.2.2.2.2.2.1]
  have ha0_9 : (sk sh (sr sh r0 9)).2 = 10500 := by rw [q0.2.2.2.2.2.2.2.2.2.1]
  have ha0_10 : (sk sh (sr sh r0 10)).2 = 7 := by rw [q0.2.2.2.2.2.2.2.2.2.2.1]
  have ha0_11 : (sk sh (sr sh r0 11)).2 = 7 := by rw [q0.2.2.2.2.2.2.2.2.2.2.2.1]
  have ha0_12 : (sk sh (sr sh r0 12)).2 = 1500 := by rw [q0.2.2.2.2.2.2.2.2.2.2.2.2.1]
  have ha0_13 : (sk sh (sr sh r0 13)).2 = 1500 := by rw [q0.2.2.2.2.2.2.2.2.2.2.2.2.2.1]
  have ha0_14 : (sk sh (sr sh r0 14)).2 = 20 := by rw [q0.2.2.2.2.2.2.2.2.2.2.2.2.2.2]
  rw [b136_0]
  try simp only [zput_s, zput_n, ti_g, oI_add, oI_sub, oI_mul]
  refine zok_ck ((q0).1) ?_
  refine zok_pI (s135 (q0) (by omega) (by omega) (by first | (omega) | ((try simp only [zt0, zt1, zt2, zt3, zt4, zt5, zt6, zt7, zt8, zt9, zt10, zt11, zt12, zt13]); omega)) (by first | (omega) | ((try simp only [zt0, zt1, zt2, zt3, zt4, zt5, zt6, zt7, zt8, zt9, zt10, zt11, zt12, zt13]); omega)) (G)) (fun y2 u2 p2 => ?_)
  try simp only [zt0, zt1, zt2, zt3, zt4, zt5, zt6, zt7, zt8, zt9, zt10, zt11, zt12, zt13] at p2
  simp only [zput_s, zput_n, ti_g, oI_add, oI_sub, oI_mul, zt0, zt1, zt2, zt3, zt4, zt5, zt6, zt7, zt8, zt9, zt10, zt11, zt12, zt13, b136_7]
  try simp only [zput_s, zput_n, ti_g, oI_add, oI_sub, oI_mul]
  first | refine zok_le (by omega) (fun c4 => ?_) (fun c4 => ?_) | refine zok_if (fun c4 => ?_) (fun c4 => ?_)
  · first | exact qI_rt (by omega) (by omega) ⟨rfl, by unfold zpa; omega⟩ | exact qI_nf ⟨rfl, by unfold zpa; omega⟩
  · refine zok_ck ((q0).1) ?_
    refine zok_ck ⟨(by rw [(q0).2.2.2.2.2.2.1]), zin_o (by omega) (by omega) (by omega)⟩ ?_
    try rw [nN_o (a := ((7) * (x1)) + (x2)) (by omega) (by omega)]
    try simp only [zput_s, zput_n, ti_g, oI_add, oI_sub, oI_mul, zt0, zt1, zt2, zt3, zt4, zt5, zt6, zt7, zt8, zt9, zt10, zt11, zt12, zt13]
    have gl5 := And.intro (tg_lo t (sr sh r0 3) ((((7) * (x1)) + (x2)).toNat)) (tg_hi t (sr sh r0 3) ((((7) * (x1)) + (x2)).toNat))
    have gm5 := (G).2.1 ((((7) * (x1)) + (x2)).toNat) (by omega)
    try simp only [zt0, zt1, zt2, zt3, zt4, zt5, zt6, zt7, zt8, zt9, zt10, zt11, zt12, zt13] at gl5
    try simp only [zt0, zt1, zt2, zt3, zt4, zt5, zt6, zt7, zt8, zt9, zt10, zt11, zt12, zt13] at gm5
    refine zok_ck ((q0).1) ?_
    refine zok_pI (s128 (q0) (by omega) (by omega) (by first | (omega) | ((try simp only [zt0, zt1, zt2, zt3, zt4, zt5, zt6, zt7, zt8, zt9, zt10, zt11, zt12, zt13]); omega)) (G)) (fun y6 u6 p6 => ?_)
    try simp only [zt0, zt1, zt2, zt3, zt4, zt5, zt6, zt7, zt8, zt9, zt10, zt11, zt12, zt13] at p6
    simp only [zput_s, zput_n, ti_g, oI_add, oI_sub, oI_mul, zt0, zt1, zt2, zt3, zt4, zt5, zt6, zt7, zt8, zt9, zt10, zt11, zt12, zt13, b136_28]
    try simp only [zput_s, zput_n, ti_g, oI_add, oI_sub, oI_mul]
    first | exact qI_rt (by omega) (by omega) ⟨rfl, by unfold zpa; omega⟩ | exact qI_nf ⟨rfl, by unfold zpa; omega⟩
