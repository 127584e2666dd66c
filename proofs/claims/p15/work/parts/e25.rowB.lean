set_option maxRecDepth 16384
/-! X7_isSub -/
theorem s87 {sh : zSh} {x0 : Int} (u0 : -2147483648 ≤ x0 ∧ x0 ≤ 2147483647) {t : zSt} : zok (zcl zP 87 [zI (oI x0)] (sh, t)) (qI (fun x t' => t' = t ∧ (x = 0 ∨ x = 1)) sh) := by
  rw [b87_0]
  try simp only [zput_s, zput_n, ti_g, oI_add, oI_sub, oI_mul]
  simp only [zput_s, zput_n, ti_g, oI_add, oI_sub, oI_mul, b87_1]
  try simp only [zput_s, zput_n, ti_g, oI_add, oI_sub, oI_mul]
  first | refine zok_eq (by omega) (fun c3 => ?_) (fun c3 => ?_) | refine zok_if (fun c3 => ?_) (fun c3 => ?_)
  · first | exact qI_rt (by omega) (by omega) ⟨rfl, by omega⟩ | exact qI_nf ⟨rfl, by omega⟩
  · first | refine zok_eq (by omega) (fun c4 => ?_) (fun c4 => ?_) | refine zok_if (fun c4 => ?_) (fun c4 => ?_)
    · first | exact qI_rt (by omega) (by omega) ⟨rfl, by omega⟩ | exact qI_nf ⟨rfl, by omega⟩
    · first | refine zok_eq (by omega) (fun c5 => ?_) (fun c5 => ?_) | refine zok_if (fun c5 => ?_) (fun c5 => ?_)
      · first | exact qI_rt (by omega) (by omega) ⟨rfl, by omega⟩ | exact qI_nf ⟨rfl, by omega⟩
      · first | refine zok_eq (by omega) (fun c6 => ?_) (fun c6 => ?_) | refine zok_if (fun c6 => ?_) (fun c6 => ?_)
        · first | exact qI_rt (by omega) (by omega) ⟨rfl, by omega⟩ | exact qI_nf ⟨rfl, by omega⟩
        · first | refine zok_eq (by omega) (fun c7 => ?_) (fun c7 => ?_) | refine zok_if (fun c7 => ?_) (fun c7 => ?_)
          · first | exact qI_rt (by omega) (by omega) ⟨rfl, by omega⟩ | exact qI_nf ⟨rfl, by omega⟩
          · first | refine zok_eq (by omega) (fun c8 => ?_) (fun c8 => ?_) | refine zok_if (fun c8 => ?_) (fun c8 => ?_)
            · first | exact qI_rt (by omega) (by omega) ⟨rfl, by omega⟩ | exact qI_nf ⟨rfl, by omega⟩
            · first | refine zok_eq (by omega) (fun c9 => ?_) (fun c9 => ?_) | refine zok_if (fun c9 => ?_) (fun c9 => ?_)
              · first | exact qI_rt (by omega) (by omega) ⟨rfl, by omega⟩ | exact qI_nf ⟨rfl, by omega⟩
              · first | refine zok_eq (by omega) (fun c10 => ?_) (fun c10 => ?_) | refine zok_if (fun c10 => ?_) (fun c10 => ?_)
                · first | exact qI_rt (by omega) (by omega) ⟨rfl, by omega⟩ | exact qI_nf ⟨rfl, by omega⟩
                · first | refine zok_eq (by omega) (fun c11 => ?_) (fun c11 => ?_) | refine zok_if (fun c11 => ?_) (fun c11 => ?_)
                  · first | exact qI_rt (by omega) (by omega) ⟨rfl, by omega⟩ | exact qI_nf ⟨rfl, by omega⟩
                  · first | refine zok_eq (by omega) (fun c12 => ?_) (fun c12 => ?_) | refine zok_if (fun c12 => ?_) (fun c12 => ?_)
                    · first | exact qI_rt (by omega) (by omega) ⟨rfl, by omega⟩ | exact qI_nf ⟨rfl, by omega⟩
                    · first | refine zok_eq (by omega) (fun c13 => ?_) (fun c13 => ?_) | refine zok_if (fun c13 => ?_) (fun c13 => ?_)
                      · first | exact qI_rt (by omega) (by omega) ⟨rfl, by omega⟩ | exact qI_nf ⟨rfl, by omega⟩
                      · first | refine zok_eq (by omega) (fun c14 => ?_) (fun c14 => ?_) | refine zok_if (fun c14 => ?_) (fun c14 => ?_)
                        · first | exact qI_rt (by omega) (by omega) ⟨rfl, by omega⟩ | exact qI_nf ⟨rfl, by omega⟩
                        · first | refine zok_eq (by omega) (fun c15 => ?_) (fun c15 => ?_) | refine zok_if (fun c15 => ?_) (fun c15 => ?_)
                          · first | exact qI_rt (by omega) (by omega) ⟨rfl, by omega⟩ | exact qI_nf ⟨rfl, by omega⟩
                          · first | refine zok_eq (by omega) (fun c16 => ?_) (fun c16 => ?_) | refine zok_if (fun c16 => ?_) (fun c16 => ?_)
                            · first | exact qI_rt (by omega) (by omega) ⟨rfl, by omega⟩ | exact qI_nf ⟨rfl, by omega⟩
                            · first | refine zok_eq (by omega) (fun c17 => ?_) (fun c17 => ?_) | refine zok_if (fun c17 => ?_) (fun c17 => ?_)
                              · first | exact qI_rt (by omega) (by omega) ⟨rfl, by omega⟩ | exact qI_nf ⟨rfl, by omega⟩
                              · first | refine zok_eq (by omega) (fun c18 => ?_) (fun c18 => ?_) | refine zok_if (fun c18 => ?_) (fun c18 => ?_)
                                · first | exact qI_rt (by omega) (by omega) ⟨rfl, by omega⟩ | exact qI_nf ⟨rfl, by omega⟩
                                · first | refine zok_eq (by omega) (fun c19 => ?_) (fun c19 => ?_) | refine zok_if (fun c19 => ?_) (fun c19 => ?_)
                                  · first | exact qI_rt (by omega) (by omega) ⟨rfl, by omega⟩ | exact qI_nf ⟨rfl, by omega⟩
                                  · first | refine zok_eq (by omega) (fun c20 => ?_) (fun c20 => ?_) | refine zok_if (fun c20 => ?_) (fun c20 => ?_)
                                    · first | exact qI_rt (by omega) (by omega) ⟨rfl, by omega⟩ | exact qI_nf ⟨rfl, by omega⟩
                                    · first | refine zok_eq (by omega) (fun c21 => ?_) (fun c21 => ?_) | refine zok_if (fun c21 => ?_) (fun c21 => ?_)
                                      · first | exact qI_rt (by omega) (by omega) ⟨rfl, by omega⟩ | exact qI_nf ⟨rfl, by omega⟩
                                      · first | refine zok_eq (by omega) (fun c22 => ?_) (fun c22 => ?_) | refine zok_if (fun c22 => ?_) (fun c22 => ?_)
                                        · first | exact qI_rt (by omega) (by omega) ⟨rfl, by omega⟩ | exact qI_nf ⟨rfl, by omega⟩
                                        · first | refine zok_eq (by omega) (fun c23 => ?_) (fun c23 => ?_) | refine zok_if (fun c23 => ?_) (fun c23 => ?_)
                                          · first | exact qI_rt (by omega) (by omega) ⟨rfl, by omega⟩ | exact qI_nf ⟨rfl, by omega⟩
                                          · first | refine zok_eq (by omega) (fun c24 => ?_) (fun c24 => ?_) | refine zok_if (fun c24 => ?_) (fun c24 => ?_)
                                            · first | exact qI_rt (by omega) (by omega) ⟨rfl, by omega⟩ | exact qI_nf ⟨rfl, by omega⟩
                                            · first | refine zok_eq (by omega) (fun c25 => ?_) (fun c25 => ?_) | refine zok_if (fun c25 => ?_) (fun c25 => ?_)
                                              · first | exact qI_rt (by omega) (by omega) ⟨rfl, by omega⟩ | exact qI_nf ⟨rfl, by omega⟩
                                              · first | refine zok_eq (by omega) (fun c26 => ?_) (fun c26 => ?_) | refine zok_if (fun c26 => ?_) (fun c26 => ?_)
                                                · first | exact qI_rt (by omega) (by omega) ⟨rfl, by omega⟩ | exact qI_nf ⟨rfl, by omega⟩
                                                · first | refine zok_eq (by omega) (fun c27 => ?_) (fun c27 => ?_) | refine zok_if (fun c27 => ?_) (fun c27 => ?_)
                                                  · first | exact qI_rt (by omega) (by omega) ⟨rfl, by omega⟩ | exact qI_nf ⟨rfl, by omega⟩
                                                  · first | refine zok_eq (by omega) (fun c28 => ?_) (fun c28 => ?_) | refine zok_if (fun c28 => ?_) (fun c28 => ?_)
                                                    · first | exact qI_rt (by omega) (by omega) ⟨rfl, by omega⟩ | exact qI_nf ⟨rfl, by omega⟩
                                                    · first | refine zok_eq (by omega) (fun c29 => ?_) (fun c29 => ?_) | refine zok_if (fun c29 => ?_) (fun c29 => ?_)
                                                      · first | exact qI_rt (by omega) (by omega) ⟨rfl, by omega⟩ | exact qI_nf ⟨rfl, by omega⟩
                                                      · first | refine zok_eq (by omega) (fun c30 => ?_) (fun c30 => ?_) | refine zok_if (fun c30 => ?_) (fun c30 => ?_)
                                                        · first | exact qI_rt (by omega) (by omega) ⟨rfl, by omega⟩ | exact qI_nf ⟨rfl, by omega⟩
                                                        · first | refine zok_eq (by omega) (fun c31 => ?_) (fun c31 => ?_) | refine zok_if (fun c31 => ?_) (fun c31 => ?_)
                                                          · first | exact qI_rt (by omega) (by omega) ⟨rfl, by omega⟩ | exact qI_nf ⟨rfl, by omega⟩
                                                          · first | exact qI_rt (by omega) (by omega) ⟨rfl, by omega⟩ | exact qI_nf ⟨rfl, by omega⟩
/-! X7_mayStand -/
theorem s92 {sh : zSh} {x0 : Int} (u0 : -2147483648 ≤ x0 ∧ x0 ≤ 2147483647) {x1 : Int} (u1 : -2147483648 ≤ x1 ∧ x1 ≤ 2147483647) {t : zSt} : zok (zcl zP 92 [zI (oI x0), zI (oI x1)] (sh, t)) (qI (fun x t' => t' = t ∧ (x = 0 ∨ x = 1)) sh) := by
  rw [b92_0]
  try simp only [zput_s, zput_n, ti_g, oI_add, oI_sub, oI_mul]
  first | refine zok_ne (by omega) (fun c2 => ?_) (fun c2 => ?_) | refine zok_if (fun c2 => ?_) (fun c2 => ?_)
  · refine zok_pI (s86 (by omega)) (fun y3 u3 p3 => ?_)
    simp only [zput_s, zput_n, ti_g, oI_add, oI_sub, oI_mul, b92_14]
    try simp only [zput_s, zput_n, ti_g, oI_add, oI_sub, oI_mul]
    first | refine zok_ne (by omega) (fun c5 => ?_) (fun c5 => ?_) | refine zok_if (fun c5 => ?_) (fun c5 => ?_)
    · simp only [zput_s, zput_n, ti_g, oI_add, oI_sub, oI_mul, b92_30]
      try simp only [zput_s, zput_n, ti_g, oI_add, oI_sub, oI_mul]
      first | exact qI_rt (by omega) (by omega) ⟨rfl, by omega⟩ | exact qI_nf ⟨rfl, by omega⟩
    · refine zok_pI (s87 (by omega)) (fun y7 u7 p7 => ?_)
      simp only [zput_s, zput_n, ti_g, oI_add, oI_sub, oI_mul, b92_21]
      try simp only [zput_s, zput_n, ti_g, oI_add, oI_sub, oI_mul]
      first | refine zok_ne (by omega) (fun c9 => ?_) (fun c9 => ?_) | refine zok_if (fun c9 => ?_) (fun c9 => ?_)
      · simp only [zput_s, zput_n, ti_g, oI_add, oI_sub, oI_mul, b92_30]
        try simp only [zput_s, zput_n, ti_g, oI_add, oI_sub, oI_mul]
        first | exact qI_rt (by omega) (by omega) ⟨rfl, by omega⟩ | exact qI_nf ⟨rfl, by omega⟩
      · first | refine zok_ne (by omega) (fun c11 => ?_) (fun c11 => ?_) | refine zok_if (fun c11 => ?_) (fun c11 => ?_)
        · simp only [zput_s, zput_n, ti_g, oI_add, oI_sub, oI_mul, b92_33]
          try simp only [zput_s, zput_n, ti_g, oI_add, oI_sub, oI_mul]
          first | refine zok_eq (by omega) (fun c13 => ?_) (fun c13 => ?_) | refine zok_if (fun c13 => ?_) (fun c13 => ?_)
          · first | refine zok_ne (by omega) (fun c14 => ?_) (fun c14 => ?_) | refine zok_if (fun c14 => ?_) (fun c14 => ?_)
            · simp only [zput_s, zput_n, ti_g, oI_add, oI_sub, oI_mul, b92_83]
              try simp only [zput_s, zput_n, ti_g, oI_add, oI_sub, oI_mul]
              first | exact qI_rt (by omega) (by omega) ⟨rfl, by omega⟩ | exact qI_nf ⟨rfl, by omega⟩
            · simp only [zput_s, zput_n, ti_g, oI_add, oI_sub, oI_mul, b92_83]
              try simp only [zput_s, zput_n, ti_g, oI_add, oI_sub, oI_mul]
              first | exact qI_rt (by omega) (by omega) ⟨rfl, by omega⟩ | exact qI_nf ⟨rfl, by omega⟩
          · first | refine zok_eq (by omega) (fun c17 => ?_) (fun c17 => ?_) | refine zok_if (fun c17 => ?_) (fun c17 => ?_)
            · first | exact qI_rt (by omega) (by omega) ⟨rfl, by omega⟩ | exact qI_nf ⟨rfl, by omega⟩
            · first | refine zok_eq (by omega) (fun c18 => ?_) (fun c18 => ?_) | refine zok_if (fun c18 => ?_) (fun c18 => ?_)
              · first | exact qI_rt (by omega) (by omega) ⟨rfl, by omega⟩ | exact qI_nf ⟨rfl, by omega⟩
              · first | refine zok_eq (by omega) (fun c19 => ?_) (fun c19 => ?_) | refine zok_if (fun c19 => ?_) (fun c19 => ?_)
                · first | refine zok_eq (by omega) (fun c20 => ?_) (fun c20 => ?_) | refine zok_if (fun c20 => ?_) (fun c20 => ?_)
                  · simp only [zput_s, zput_n, ti_g, oI_add, oI_sub, oI_mul, b92_102]
                    try simp only [zput_s, zput_n, ti_g, oI_add, oI_sub, oI_mul]
                    simp only [zput_s, zput_n, ti_g, oI_add, oI_sub, oI_mul, b92_107]
                    try simp only [zput_s, zput_n, ti_g, oI_add, oI_sub, oI_mul]
                    first | exact qI_rt (by omega) (by omega) ⟨rfl, by omega⟩ | exact qI_nf ⟨rfl, by omega⟩
                  · first | refine zok_eq (by omega) (fun c23 => ?_) (fun c23 => ?_) | refine zok_if (fun c23 => ?_) (fun c23 => ?_)
                    · simp only [zput_s, zput_n, ti_g, oI_add, oI_sub, oI_mul, b92_102]
                      try simp only [zput_s, zput_n, ti_g, oI_add, oI_sub, oI_mul]
                      simp only [zput_s, zput_n, ti_g, oI_add, oI_sub, oI_mul, b92_107]
                      try simp only [zput_s, zput_n, ti_g, oI_add, oI_sub, oI_mul]
                      first | exact qI_rt (by omega) (by omega) ⟨rfl, by omega⟩ | exact qI_nf ⟨rfl, by omega⟩
                    · first | refine zok_ne (by omega) (fun c26 => ?_) (fun c26 => ?_) | refine zok_if (fun c26 => ?_) (fun c26 => ?_)
                      · simp only [zput_s, zput_n, ti_g, oI_add, oI_sub, oI_mul, b92_107]
                        try simp only [zput_s, zput_n, ti_g, oI_add, oI_sub, oI_mul]
                        first | exact qI_rt (by omega) (by omega) ⟨rfl, by omega⟩ | exact qI_nf ⟨rfl, by omega⟩
                      · simp only [zput_s, zput_n, ti_g, oI_add, oI_sub, oI_mul, b92_102]
                        try simp only [zput_s, zput_n, ti_g, oI_add, oI_sub, oI_mul]
                        simp only [zput_s, zput_n, ti_g, oI_add, oI_sub, oI_mul, b92_107]
                        try simp only [zput_s, zput_n, ti_g, oI_add, oI_sub, oI_mul]
                        first | exact qI_rt (by omega) (by omega) ⟨rfl, by omega⟩ | exact qI_nf ⟨rfl, by omega⟩
                · first | refine zok_eq (by omega) (fun c30 => ?_) (fun c30 => ?_) | refine zok_if (fun c30 => ?_) (fun c30 => ?_)
                  · first | refine zok_eq (by omega) (fun c31 => ?_) (fun c31 => ?_) | refine zok_if (fun c31 => ?_) (fun c31 => ?_)
                    · simp only [zput_s, zput_n, ti_g, oI_add, oI_sub, oI_mul, b92_132]
                      try simp only [zput_s, zput_n, ti_g, oI_add, oI_sub, oI_mul]
                      simp only [zput_s, zput_n, ti_g, oI_add, oI_sub, oI_mul, b92_137]
                      try simp only [zput_s, zput_n, ti_g, oI_add, oI_sub, oI_mul]
                      first | exact qI_rt (by omega) (by omega) ⟨rfl, by omega⟩ | exact qI_nf ⟨rfl, by omega⟩
                    · first | refine zok_eq (by omega) (fun c34 => ?_) (fun c34 => ?_) | refine zok_if (fun c34 => ?_) (fun c34 => ?_)
                      · simp only [zput_s, zput_n, ti_g, oI_add, oI_sub, oI_mul, b92_132]
                        try simp only [zput_s, zput_n, ti_g, oI_add, oI_sub, oI_mul]
                        simp only [zput_s, zput_n, ti_g, oI_add, oI_sub, oI_mul, b92_137]
                        try simp only [zput_s, zput_n, ti_g, oI_add, oI_sub, oI_mul]
                        first | exact qI_rt (by omega) (by omega) ⟨rfl, by omega⟩ | exact qI_nf ⟨rfl, by omega⟩
                      · first | refine zok_eq (by omega) (fun c37 => ?_) (fun c37 => ?_) | refine zok_if (fun c37 => ?_) (fun c37 => ?_)
                        · simp only [zput_s, zput_n, ti_g, oI_add, oI_sub, oI_mul, b92_132]
                          try simp only [zput_s, zput_n, ti_g, oI_add, oI_sub, oI_mul]
                          simp only [zput_s, zput_n, ti_g, oI_add, oI_sub, oI_mul, b92_137]
                          try simp only [zput_s, zput_n, ti_g, oI_add, oI_sub, oI_mul]
                          first | exact qI_rt (by omega) (by omega) ⟨rfl, by omega⟩ | exact qI_nf ⟨rfl, by omega⟩
                        · first | refine zok_ne (by omega) (fun c40 => ?_) (fun c40 => ?_) | refine zok_if (fun c40 => ?_) (fun c40 => ?_)
                          · simp only [zput_s, zput_n, ti_g, oI_add, oI_sub, oI_mul, b92_137]
                            try simp only [zput_s, zput_n, ti_g, oI_add, oI_sub, oI_mul]
                            first | exact qI_rt (by omega) (by omega) ⟨rfl, by omega⟩ | exact qI_nf ⟨rfl, by omega⟩
                          · simp only [zput_s, zput_n, ti_g, oI_add, oI_sub, oI_mul, b92_132]
                            try simp only [zput_s, zput_n, ti_g, oI_add, oI_sub, oI_mul]
                            simp only [zput_s, zput_n, ti_g, oI_add, oI_sub, oI_mul, b92_137]
                            try simp only [zput_s, zput_n, ti_g, oI_add, oI_sub, oI_mul]
                            first | exact qI_rt (by omega) (by omega) ⟨rfl, by omega⟩ | exact qI_nf ⟨rfl, by omega⟩
                  · first | refine zok_eq (by omega) (fun c44 => ?_) (fun c44 => ?_) | refine zok_if (fun c44 => ?_) (fun c44 => ?_)
                    · first | refine zok_eq (by omega) (fun c45 => ?_) (fun c45 => ?_) | refine zok_if (fun c45 => ?_) (fun c45 => ?_)
                      · simp only [zput_s, zput_n, ti_g, oI_add, oI_sub, oI_mul, b92_132]
                        try simp only [zput_s, zput_n, ti_g, oI_add, oI_sub, oI_mul]
                        simp only [zput_s, zput_n, ti_g, oI_add, oI_sub, oI_mul, b92_137]
                        try simp only [zput_s, zput_n, ti_g, oI_add, oI_sub, oI_mul]
                        first | exact qI_rt (by omega) (by omega) ⟨rfl, by omega⟩ | exact qI_nf ⟨rfl, by omega⟩
                      · first | refine zok_eq (by omega) (fun c48 => ?_) (fun c48 => ?_) | refine zok_if (fun c48 => ?_) (fun c48 => ?_)
                        · simp only [zput_s, zput_n, ti_g, oI_add, oI_sub, oI_mul, b92_132]
                          try simp only [zput_s, zput_n, ti_g, oI_add, oI_sub, oI_mul]
                          simp only [zput_s, zput_n, ti_g, oI_add, oI_sub, oI_mul, b92_137]
                          try simp only [zput_s, zput_n, ti_g, oI_add, oI_sub, oI_mul]
                          first | exact qI_rt (by omega) (by omega) ⟨rfl, by omega⟩ | exact qI_nf ⟨rfl, by omega⟩
                        · first | refine zok_eq (by omega) (fun c51 => ?_) (fun c51 => ?_) | refine zok_if (fun c51 => ?_) (fun c51 => ?_)
                          · simp only [zput_s, zput_n, ti_g, oI_add, oI_sub, oI_mul, b92_132]
                            try simp only [zput_s, zput_n, ti_g, oI_add, oI_sub, oI_mul]
                            simp only [zput_s, zput_n, ti_g, oI_add, oI_sub, oI_mul, b92_137]
                            try simp only [zput_s, zput_n, ti_g, oI_add, oI_sub, oI_mul]
                            first | exact qI_rt (by omega) (by omega) ⟨rfl, by omega⟩ | exact qI_nf ⟨rfl, by omega⟩
                          · first | refine zok_ne (by omega) (fun c54 => ?_) (fun c54 => ?_) | refine zok_if (fun c54 => ?_) (fun c54 => ?_)
                            · simp only [zput_s, zput_n, ti_g, oI_add, oI_sub, oI_mul, b92_137]
                              try simp only [zput_s, zput_n, ti_g, oI_add, oI_sub, oI_mul]
                              first | exact qI_rt (by omega) (by omega) ⟨rfl, by omega⟩ | exact qI_nf ⟨rfl, by omega⟩
                            · simp only [zput_s, zput_n, ti_g, oI_add, oI_sub, oI_mul, b92_132]
                              try simp only [zput_s, zput_n, ti_g, oI_add, oI_sub, oI_mul]
                              simp only [zput_s, zput_n, ti_g, oI_add, oI_sub, oI_mul, b92_137]
                              try simp only [zput_s, zput_n, ti_g, oI_add, oI_sub, oI_mul]
                              first | exact qI_rt (by omega) (by omega) ⟨rfl, by omega⟩ | exact qI_nf ⟨rfl, by omega⟩
                    · first | exact qI_rt (by omega) (by omega) ⟨rfl, by omega⟩ | exact qI_nf ⟨rfl, by omega⟩
        · simp only [zput_s, zput_n, ti_g, oI_add, oI_sub, oI_mul, b92_30]
          try simp only [zput_s, zput_n, ti_g, oI_add, oI_sub, oI_mul]
          first | exact qI_rt (by omega) (by omega) ⟨rfl, by omega⟩ | exact qI_nf ⟨rfl, by omega⟩
  · refine zok_pI (s85 (by omega)) (fun y59 u59 p59 => ?_)
    simp only [zput_s, zput_n, ti_g, oI_add, oI_sub, oI_mul, b92_9]
    try simp only [zput_s, zput_n, ti_g, oI_add, oI_sub, oI_mul]
    refine zok_ck (by first | exact fun _ => bool_p (by omega) | exact bool_p (by omega)) ?_
    first | exact qI_rt (by omega) (by omega) ⟨rfl, by omega⟩ | exact qI_nf ⟨rfl, by omega⟩
/-! X6_codedSize -/
theorem l74_4 {sh : zSh} {r0 : Nat} (q0 : zRow sh r0) {t : zSt} (hR : RS sh t) : ∀ (n : Nat) (x1 : Int) (x2 : Int) , (-2147483648 ≤ x1 ∧ x1 ≤ 2147483647) ∧ (-2147483648 ≤ x2 ∧ x2 ≤ 2147483647) ∧ (0 ≤ x2) ∧ (x2 ≤ tg t r0 1) ∧ (0 ≤ x1 ∧ x1 ≤ 3 * x2) → (tg t r0 1 - x2).toNat < n → zok (zev zP 74 4 [some (zR r0), some (zI (oI x1)), some (zI (oI x2))] [] (sh, t)) (qI (fun x t' => t' = t ∧ (0 ≤ x ∧ x ≤ 300000)) sh) := by
  intro n
  induction n with
  | zero => intro x1 x2  _ hm; omega
  | succ n ih =>
    intro x1 x2  hv hm
    have hz0 := RS_sz (hR) q0
    have g1_1 := RS_sz (hR) (q0)
    simp only [zput_s, zput_n, ti_g, oI_add, oI_sub, oI_mul, b74_4]
    try simp only [zput_s, zput_n, ti_g, oI_add, oI_sub, oI_mul]
    refine zok_ck ((q0).1) ?_
    first | refine zok_le (by omega) (fun c2 => ?_) (fun c2 => ?_) | refine zok_if (fun c2 => ?_) (fun c2 => ?_)
    · first | exact qI_rt (by omega) (by omega) ⟨rfl, by omega⟩ | exact qI_nf ⟨rfl, by omega⟩
    · refine zok_ck ((q0).1) ?_
      refine zok_pI (s57 (q0) (by omega) (hR)) (fun y3 u3 p3 => ?_)
      simp only [zput_s, zput_n, ti_g, oI_add, oI_sub, oI_mul, b74_18]
      try simp only [zput_s, zput_n, ti_g, oI_add, oI_sub, oI_mul]
      refine zok_pI (s86 (by omega)) (fun y5 u5 p5 => ?_)
      simp only [zput_s, zput_n, ti_g, oI_add, oI_sub, oI_mul, b74_21]
      try simp only [zput_s, zput_n, ti_g, oI_add, oI_sub, oI_mul]
      first | refine zok_eq (by omega) (fun c7 => ?_) (fun c7 => ?_) | refine zok_if (fun c7 => ?_) (fun c7 => ?_)
      · try simp only [zput_s, zput_n, ti_g, oI_add, oI_sub, oI_mul]
        exact ih _ _ (by omega) (by omega)
      · try simp only [zput_s, zput_n, ti_g, oI_add, oI_sub, oI_mul]
        exact ih _ _ (by omega) (by omega)
theorem s74 {sh : zSh} {r0 : Nat} (q0 : zRow sh r0) {t : zSt} (hR : RS sh t) : zok (zcl zP 74 [zR r0] (sh, t)) (qI (fun x t' => t' = t ∧ (0 ≤ x ∧ x ≤ 300000)) sh) := by
  have hz0 := RS_sz (hR) q0
  rw [b74_0]
  try simp only [zput_s, zput_n, ti_g, oI_add, oI_sub, oI_mul]
  try simp only [zput_s, zput_n, ti_g, oI_add, oI_sub, oI_mul]
  exact l74_4 q0 hR _ _ _ (by omega) (Nat.lt_succ_self _)
/-! X6_addCoded -/
theorem l75_2 {sh : zSh} {r0 : Nat} (q0 : zRow sh r0) {r1 : Nat} (q1 : zRow sh r1) (dn : r0 ≠ r1) {t0 : zSt} (hR : RS sh t0) : ∀ (n : Nat) (x2 : Int) (o3 : Option zV) (wo3 : zisL o3 = false) (t1 : zSt), FrR sh r0 t0 t1 → (-2147483648 ≤ x2 ∧ x2 ≤ 2147483647) ∧ (0 ≤ x2) → (tg t1 r1 1 - x2).toNat < n → zok (zev zP 75 2 [some (zR r0), some (zR r1), some (zI (oI x2)), o3] [] (sh, t1)) (zq0 (fun t' => FrR sh r0 t0 t' ∧ (True)) sh) := by
  intro n
  induction n with
  | zero => intro x2 o3 wo3 t1 f0 _ hm; omega
  | succ n ih =>
    intro x2 o3 wo3 t1 f0 hv hm
    have hz0 := RS_sz (f0.rs) q0
    have hz1 := RS_sz (f0.rs) q1
    have g1_1 := RS_sz (f0.rs) (q1)
    try simp only [zput_s, zput_n, ti_g, oI_add, oI_sub, oI_mul]
    rw [b75_2 (o3 := o3) (wo3 := wo3)]
    try simp only [zput_s, zput_n, ti_g, oI_add, oI_sub, oI_mul]
    refine zok_ck ((q1).1) ?_
    first | refine zok_le (by omega) (fun c2 => ?_) (fun c2 => ?_) | refine zok_if (fun c2 => ?_) (fun c2 => ?_)
    · exact q0_rt ⟨f0, trivial⟩
    · refine zok_ck ((q1).1) ?_
      refine zok_pI (s57 (q1) (by omega) (f0.rs)) (fun y3 u3 p3 => ?_)
      try simp only [zput_s, zput_n, ti_g, oI_add, oI_sub, oI_mul]
      rw [b75_15 (o3 := o3) (wo3 := wo3)]
      try simp only [zput_s, zput_n, ti_g, oI_add, oI_sub, oI_mul]
      refine zok_pI (s86 (by omega)) (fun y5 u5 p5 => ?_)
      simp only [zput_s, zput_n, ti_g, oI_add, oI_sub, oI_mul, b75_20]
      try simp only [zput_s, zput_n, ti_g, oI_add, oI_sub, oI_mul]
      first | refine zok_eq (by omega) (fun c7 => ?_) (fun c7 => ?_) | refine zok_if (fun c7 => ?_) (fun c7 => ?_)
      · refine zok_ck ((q0).1) ?_
        refine zok_c0 (s59 (q0) (f0.rs)) (fun t8 p8 => ?_)
        obtain ⟨f8, p8⟩ := p8
        have hn8_1 := (f8).ne q0 q1 (Ne.symm dn) 1
        simp only [zput_s, zput_n, ti_g, oI_add, oI_sub, oI_mul, b75_37]
        try simp only [zput_s, zput_n, ti_g, oI_add, oI_sub, oI_mul]
        obtain ⟨w10, wa10, wb10, we10⟩ := oI_nf (((oI y3) >>> ((oI 4) &&& 31)) &&& (oI 15))
        try simp only [zput_s, zput_n, ti_g, oI_add, oI_sub, oI_mul] at we10
        try rw [we10]
        refine zok_pI (s91 (by omega) (by omega)) (fun y11 u11 p11 => ?_)
        simp only [zput_s, zput_n, ti_g, oI_add, oI_sub, oI_mul, b75_48]
        try simp only [zput_s, zput_n, ti_g, oI_add, oI_sub, oI_mul]
        refine zok_ck ((q0).1) ?_
        refine zok_c0 (s59 (q0) (((f0).trans (f8)).rs)) (fun t13 p13 => ?_)
        obtain ⟨f13, p13⟩ := p13
        have hn13_1 := (f13).ne q0 q1 (Ne.symm dn) 1
        simp only [zput_s, zput_n, ti_g, oI_add, oI_sub, oI_mul, b75_51]
        try simp only [zput_s, zput_n, ti_g, oI_add, oI_sub, oI_mul]
        obtain ⟨w15, wa15, wb15, we15⟩ := oI_nf ((oI y3) &&& (oI 15))
        try simp only [zput_s, zput_n, ti_g, oI_add, oI_sub, oI_mul] at we15
        try rw [we15]
        refine zok_pI (s91 (by omega) (by omega)) (fun y16 u16 p16 => ?_)
        simp only [zput_s, zput_n, ti_g, oI_add, oI_sub, oI_mul, b75_60]
        try simp only [zput_s, zput_n, ti_g, oI_add, oI_sub, oI_mul]
        refine zok_ck ((q0).1) ?_
        refine zok_c0 (s59 (q0) ((((f0).trans (f8)).trans (f13)).rs)) (fun t18 p18 => ?_)
        obtain ⟨f18, p18⟩ := p18
        have hn18_1 := (f18).ne q0 q1 (Ne.symm dn) 1
        simp only [zput_s, zput_n, ti_g, oI_add, oI_sub, oI_mul, b75_63]
        try simp only [zput_s, zput_n, ti_g, oI_add, oI_sub, oI_mul]
        try simp only [zput_s, zput_n, ti_g, oI_add, oI_sub, oI_mul]
        exact ih _ _ rfl _ ((((f0).trans (f8)).trans (f13)).trans (f18)) (by omega) (by omega)
      · refine zok_ck ((q0).1) ?_
        refine zok_c0 (s59 (q0) (f0.rs)) (fun t20 p20 => ?_)
        obtain ⟨f20, p20⟩ := p20
        have hn20_1 := (f20).ne q0 q1 (Ne.symm dn) 1
        simp only [zput_s, zput_n, ti_g, oI_add, oI_sub, oI_mul, b75_28]
        try simp only [zput_s, zput_n, ti_g, oI_add, oI_sub, oI_mul]
        simp only [zput_s, zput_n, ti_g, oI_add, oI_sub, oI_mul, b75_63]
        try simp only [zput_s, zput_n, ti_g, oI_add, oI_sub, oI_mul]
        try simp only [zput_s, zput_n, ti_g, oI_add, oI_sub, oI_mul]
        exact ih _ _ rfl _ ((f0).trans (f20)) (by omega) (by omega)
theorem s75 {sh : zSh} {r0 : Nat} (q0 : zRow sh r0) {r1 : Nat} (q1 : zRow sh r1) (dn : r0 ≠ r1) {t : zSt} (hR : RS sh t) : zok (zcl zP 75 [zR r0, zR r1] (sh, t)) (zq0 (fun t' => FrR sh r0 t t' ∧ (True)) sh) := by
  have hz0 := RS_sz (hR) q0
  have hz1 := RS_sz (hR) q1
  rw [b75_0]
  try simp only [zput_s, zput_n, ti_g, oI_add, oI_sub, oI_mul]
  try simp only [zput_s, zput_n, ti_g, oI_add, oI_sub, oI_mul]
  exact l75_2 q0 q1 dn hR _ _ _ rfl _ (FrR.refl hR) (by omega) (Nat.lt_succ_self _)
/-! X6_makeSmall -/
theorem l76_2 {sh : zSh} {r0 : Nat} (q0 : zRow sh r0) {t0 : zSt} (hR : RS sh t0) : ∀ (n : Nat) (x1 : Int)  (t1 : zSt), FrR sh r0 t0 t1 → (-2147483648 ≤ x1 ∧ x1 ≤ 2147483647) ∧ (0 ≤ x1) → (tg t1 r0 1 - x1).toNat < n → zok (zev zP 76 2 [some (zR r0), some (zI (oI x1))] [] (sh, t1)) (zq0 (fun t' => FrR sh r0 t0 t' ∧ (True)) sh) := by
  intro n
  induction n with
  | zero => intro x1  t1 f0 _ hm; omega
  | succ n ih =>
    intro x1  t1 f0 hv hm
    have hz0 := RS_sz (f0.rs) q0
    have g1_1 := RS_sz (f0.rs) (q0)
    simp only [zput_s, zput_n, ti_g, oI_add, oI_sub, oI_mul, b76_2]
    try simp only [zput_s, zput_n, ti_g, oI_add, oI_sub, oI_mul]
    refine zok_ck ((q0).1) ?_
    first | refine zok_le (by omega) (fun c2 => ?_) (fun c2 => ?_) | refine zok_if (fun c2 => ?_) (fun c2 => ?_)
    · exact q0_rt ⟨f0, trivial⟩
    · refine zok_ck ((q0).1) ?_
      refine zok_pI (s57 (q0) (by omega) (f0.rs)) (fun y3 u3 p3 => ?_)
      simp only [zput_s, zput_n, ti_g, oI_add, oI_sub, oI_mul, b76_17]
      try simp only [zput_s, zput_n, ti_g, oI_add, oI_sub, oI_mul]
      refine zok_pI (s89 (by omega)) (fun y5 u5 p5 => ?_)
      simp only [zput_s, zput_n, ti_g, oI_add, oI_sub, oI_mul, b76_20]
      try simp only [zput_s, zput_n, ti_g, oI_add, oI_sub, oI_mul]
      refine zok_ck ((q0).1) ?_
      refine zok_c0 (s58 (q0) (by omega) (f0.rs)) (fun t7 p7 => ?_)
      obtain ⟨f7, p7⟩ := p7
      simp only [zput_s, zput_n, ti_g, oI_add, oI_sub, oI_mul, b76_23]
      try simp only [zput_s, zput_n, ti_g, oI_add, oI_sub, oI_mul]
      try simp only [zput_s, zput_n, ti_g, oI_add, oI_sub, oI_mul]
      exact ih _ _ ((f0).trans (f7)) (by omega) (by omega)
theorem s76 {sh : zSh} {r0 : Nat} (q0 : zRow sh r0) {t : zSt} (hR : RS sh t) : zok (zcl zP 76 [zR r0] (sh, t)) (zq0 (fun t' => FrR sh r0 t t' ∧ (True)) sh) := by
  have hz0 := RS_sz (hR) q0
  rw [b76_0]
  try simp only [zput_s, zput_n, ti_g, oI_add, oI_sub, oI_mul]
  try simp only [zput_s, zput_n, ti_g, oI_add, oI_sub, oI_mul]
  exact l76_2 q0 hR _ _ _ (FrR.refl hR) (by omega) (Nat.lt_succ_self _)
/-! X6_makeCodesGreat -/
theorem l77_2 {sh : zSh} {r0 : Nat} (q0 : zRow sh r0) {t0 : zSt} (hR : RS sh t0) : ∀ (n : Nat) (x1 : Int)  (t1 : zSt), FrR sh r0 t0 t1 → (-2147483648 ≤ x1 ∧ x1 ≤ 2147483647) ∧ (0 ≤ x1) → (tg t1 r0 1 - x1).toNat < n → zok (zev zP 77 2 [some (zR r0), some (zI (oI x1))] [] (sh, t1)) (zq0 (fun t' => FrR sh r0 t0 t' ∧ (True)) sh) := by
  intro n
  induction n with
  | zero => intro x1  t1 f0 _ hm; omega
  | succ n ih =>
    intro x1  t1 f0 hv hm
    have hz0 := RS_sz (f0.rs) q0
    have g1_1 := RS_sz (f0.rs) (q0)
    simp only [zput_s, zput_n, ti_g, oI_add, oI_sub, oI_mul, b77_2]
    try simp only [zput_s, zput_n, ti_g, oI_add, oI_sub, oI_mul]
    refine zok_ck ((q0).1) ?_
    first | refine zok_le (by omega) (fun c2 => ?_) (fun c2 => ?_) | refine zok_if (fun c2 => ?_) (fun c2 => ?_)
    · exact q0_rt ⟨f0, trivial⟩
    · refine zok_ck ((q0).1) ?_
      refine zok_pI (s57 (q0) (by omega) (f0.rs)) (fun y3 u3 p3 => ?_)
      simp only [zput_s, zput_n, ti_g, oI_add, oI_sub, oI_mul, b77_15]
      try simp only [zput_s, zput_n, ti_g, oI_add, oI_sub, oI_mul]
      first | refine zok_ne (by omega) (fun c5 => ?_) (fun c5 => ?_) | refine zok_if (fun c5 => ?_) (fun c5 => ?_)
      · simp only [zput_s, zput_n, ti_g, oI_add, oI_sub, oI_mul, b77_54]
        try simp only [zput_s, zput_n, ti_g, oI_add, oI_sub, oI_mul]
        try simp only [zput_s, zput_n, ti_g, oI_add, oI_sub, oI_mul]
        exact ih _ _ (f0) (by omega) (by omega)
      · refine zok_ck ((q0).1) ?_
        refine zok_pI (s57 (q0) (by omega) (f0.rs)) (fun y7 u7 p7 => ?_)
        simp only [zput_s, zput_n, ti_g, oI_add, oI_sub, oI_mul, b77_31]
        try simp only [zput_s, zput_n, ti_g, oI_add, oI_sub, oI_mul]
        refine zok_pI (s90 (by omega)) (fun y9 u9 p9 => ?_)
        simp only [zput_s, zput_n, ti_g, oI_add, oI_sub, oI_mul, b77_34]
        try simp only [zput_s, zput_n, ti_g, oI_add, oI_sub, oI_mul]
        refine zok_ck ((q0).1) ?_
        refine zok_c0 (s58 (q0) (by omega) (f0.rs)) (fun t11 p11 => ?_)
        obtain ⟨f11, p11⟩ := p11
        simp only [zput_s, zput_n, ti_g, oI_add, oI_sub, oI_mul, b77_37]
        try simp only [zput_s, zput_n, ti_g, oI_add, oI_sub, oI_mul]
        refine zok_ck ((q0).1) ?_
        refine zok_pI (s57 (q0) (by omega) (((f0).trans (f11)).rs)) (fun y13 u13 p13 => ?_)
        simp only [zput_s, zput_n, ti_g, oI_add, oI_sub, oI_mul, b77_48]
        try simp only [zput_s, zput_n, ti_g, oI_add, oI_sub, oI_mul]
        refine zok_pI (s90 (by omega)) (fun y15 u15 p15 => ?_)
        simp only [zput_s, zput_n, ti_g, oI_add, oI_sub, oI_mul, b77_51]
        try simp only [zput_s, zput_n, ti_g, oI_add, oI_sub, oI_mul]
        refine zok_ck ((q0).1) ?_
        refine zok_c0 (s58 (q0) (by omega) (((f0).trans (f11)).rs)) (fun t17 p17 => ?_)
        obtain ⟨f17, p17⟩ := p17
        simp only [zput_s, zput_n, ti_g, oI_add, oI_sub, oI_mul, b77_54]
        try simp only [zput_s, zput_n, ti_g, oI_add, oI_sub, oI_mul]
        try simp only [zput_s, zput_n, ti_g, oI_add, oI_sub, oI_mul]
        exact ih _ _ (((f0).trans (f11)).trans (f17)) (by omega) (by omega)
theorem s77 {sh : zSh} {r0 : Nat} (q0 : zRow sh r0) {t : zSt} (hR : RS sh t) : zok (zcl zP 77 [zR r0] (sh, t)) (zq0 (fun t' => FrR sh r0 t t' ∧ (True)) sh) := by
  have hz0 := RS_sz (hR) q0
  rw [b77_0]
  try simp only [zput_s, zput_n, ti_g, oI_add, oI_sub, oI_mul]
  try simp only [zput_s, zput_n, ti_g, oI_add, oI_sub, oI_mul]
  exact l77_2 q0 hR _ _ _ (FrR.refl hR) (by omega) (Nat.lt_succ_self _)
/-! X6_freeCodes -/
theorem l78_4 {sh : zSh} {r0 : Nat} (q0 : zRow sh r0) {t0 : zSt} (hR : RS sh t0) : ∀ (n : Nat) (x1 : Int) (x2 : Int) (o3 : Option zV) (o4 : Option zV) (wo3 : zisL o3 = false) (wo4 : zisL o4 = false) (t1 : zSt), FrR sh r0 t0 t1 → (-2147483648 ≤ x1 ∧ x1 ≤ 2147483647) ∧ (-2147483648 ≤ x2 ∧ x2 ≤ 2147483647) ∧ (0 ≤ x1 ∧ x1 ≤ x2) → (tg t1 r0 1 - x2).toNat < n → zok (zev zP 78 4 [some (zR r0), some (zI (oI x1)), some (zI (oI x2)), o3, o4] [] (sh, t1)) (zq0 (fun t' => FrR sh r0 t0 t' ∧ (True)) sh) := by
  intro n
  induction n with
  | zero => intro x1 x2 o3 o4 wo3 wo4 t1 f0 _ hm; omega
  | succ n ih =>
    intro x1 x2 o3 o4 wo3 wo4 t1 f0 hv hm
    have hz0 := RS_sz (f0.rs) q0
    have g1_1 := RS_sz (f0.rs) (q0)
    try simp only [zput_s, zput_n, ti_g, oI_add, oI_sub, oI_mul]
    rw [b78_4 (o3 := o3) (wo3 := wo3) (o4 := o4) (wo4 := wo4)]
    try simp only [zput_s, zput_n, ti_g, oI_add, oI_sub, oI_mul]
    refine zok_ck ((q0).1) ?_
    first | refine zok_le (by omega) (fun c2 => ?_) (fun c2 => ?_) | refine zok_if (fun c2 => ?_) (fun c2 => ?_)
    · refine zok_ck ((q0).1) ?_
      refine zok_c0 (s63 (q0) (by omega) (f0.rs)) (fun t3 p3 => ?_)
      obtain ⟨f3, p3⟩ := p3
      try simp only [zput_s, zput_n, ti_g, oI_add, oI_sub, oI_mul]
      rw [b78_67 (o3 := o3) (wo3 := wo3) (o4 := o4) (wo4 := wo4)]
      try simp only [zput_s, zput_n, ti_g, oI_add, oI_sub, oI_mul]
      exact q0_rt ⟨(f0).trans (f3), trivial⟩
    · refine zok_ck ((q0).1) ?_
      refine zok_pI (s72 (q0) (by omega) (f0.rs)) (fun y5 u5 p5 => ?_)
      try simp only [zput_s, zput_n, ti_g, oI_add, oI_sub, oI_mul]
      rw [b78_17 (o3 := o3) (wo3 := wo3) (o4 := o4) (wo4 := wo4)]
      try simp only [zput_s, zput_n, ti_g, oI_add, oI_sub, oI_mul]
      refine zok_pI (s86 (by omega)) (fun y7 u7 p7 => ?_)
      try simp only [zput_s, zput_n, ti_g, oI_add, oI_sub, oI_mul]
      rw [b78_22 (o4 := o4) (wo4 := wo4)]
      try simp only [zput_s, zput_n, ti_g, oI_add, oI_sub, oI_mul]
      first | refine zok_eq (by omega) (fun c9 => ?_) (fun c9 => ?_) | refine zok_if (fun c9 => ?_) (fun c9 => ?_)
      · refine zok_ck ((q0).1) ?_
        refine zok_pI (s57 (q0) (by omega) (f0.rs)) (fun y10 u10 p10 => ?_)
        simp only [zput_s, zput_n, ti_g, oI_add, oI_sub, oI_mul, b78_40]
        try simp only [zput_s, zput_n, ti_g, oI_add, oI_sub, oI_mul]
        refine zok_ck ((q0).1) ?_
        refine zok_c0 (s58 (q0) (by omega) (f0.rs)) (fun t12 p12 => ?_)
        obtain ⟨f12, p12⟩ := p12
        simp only [zput_s, zput_n, ti_g, oI_add, oI_sub, oI_mul, b78_43]
        try simp only [zput_s, zput_n, ti_g, oI_add, oI_sub, oI_mul]
        first | refine zok_eq (by omega) (fun c14 => ?_) (fun c14 => ?_) | refine zok_if (fun c14 => ?_) (fun c14 => ?_)
        · try simp only [zput_s, zput_n, ti_g, oI_add, oI_sub, oI_mul]
          exact ih _ _ _ _ rfl rfl _ ((f0).trans (f12)) (by omega) (by omega)
        · try simp only [zput_s, zput_n, ti_g, oI_add, oI_sub, oI_mul]
          exact ih _ _ _ _ rfl rfl _ ((f0).trans (f12)) (by omega) (by omega)
      · simp only [zput_s, zput_n, ti_g, oI_add, oI_sub, oI_mul, b78_40]
        try simp only [zput_s, zput_n, ti_g, oI_add, oI_sub, oI_mul]
        refine zok_ck ((q0).1) ?_
        refine zok_c0 (s58 (q0) (by omega) (f0.rs)) (fun t16 p16 => ?_)
        obtain ⟨f16, p16⟩ := p16
        simp only [zput_s, zput_n, ti_g, oI_add, oI_sub, oI_mul, b78_43]
        try simp only [zput_s, zput_n, ti_g, oI_add, oI_sub, oI_mul]
        first | refine zok_eq (by omega) (fun c18 => ?_) (fun c18 => ?_) | refine zok_if (fun c18 => ?_) (fun c18 => ?_)
        · try simp only [zput_s, zput_n, ti_g, oI_add, oI_sub, oI_mul]
          exact ih _ _ _ _ rfl rfl _ ((f0).trans (f16)) (by omega) (by omega)
        · try simp only [zput_s, zput_n, ti_g, oI_add, oI_sub, oI_mul]
          exact ih _ _ _ _ rfl rfl _ ((f0).trans (f16)) (by omega) (by omega)
theorem s78 {sh : zSh} {r0 : Nat} (q0 : zRow sh r0) {t : zSt} (hR : RS sh t) : zok (zcl zP 78 [zR r0] (sh, t)) (zq0 (fun t' => FrR sh r0 t t' ∧ (True)) sh) := by
  have hz0 := RS_sz (hR) q0
  rw [b78_0]
  try simp only [zput_s, zput_n, ti_g, oI_add, oI_sub, oI_mul]
  try simp only [zput_s, zput_n, ti_g, oI_add, oI_sub, oI_mul]
  exact l78_4 q0 hR _ _ _ _ _ rfl rfl _ (FrR.refl hR) (by omega) (Nat.lt_succ_self _)
/-! X6_number -/
theorem l79_5 {sh : zSh} {r0 : Nat} (q0 : zRow sh r0) {x1 : Int} (u1 : -2147483648 ≤ x1 ∧ x1 ≤ 2147483647) {x2 : Int} (u2 : -2147483648 ≤ x2 ∧ x2 ≤ 2147483647) {t : zSt} (hR : RS sh t) : ∀ (n : Nat) (v3 : Int32) (x4 : Int) , (-2147483648 ≤ x4 ∧ x4 ≤ 2147483647) → (x2 - x4).toNat < n → zok (zev zP 79 5 [some (zR r0), some (zI (oI x1)), some (zI (oI x2)), some (zI v3), some (zI (oI x4))] [] (sh, t)) (qI (fun x t' => t' = t ∧ (True)) sh) := by
  intro n
  induction n with
  | zero => intro v3 x4  _ hm; omega
  | succ n ih =>
    intro v3 x4  hv hm
    obtain ⟨x3, a3, b3, rfl⟩ := oI_nf v3
    have hz0 := RS_sz (hR) q0
    simp only [zput_s, zput_n, ti_g, oI_add, oI_sub, oI_mul, b79_5]
    try simp only [zput_s, zput_n, ti_g, oI_add, oI_sub, oI_mul]
    first | refine zok_le (by omega) (fun c2 => ?_) (fun c2 => ?_) | refine zok_if (fun c2 => ?_) (fun c2 => ?_)
    · first | exact qI_rt (by omega) (by omega) ⟨rfl, trivial⟩ | exact qI_nf ⟨rfl, trivial⟩
    · refine zok_ck ((q0).1) ?_
      refine zok_pI (s57 (q0) (by omega) (hR)) (fun y3 u3 p3 => ?_)
      simp only [zput_s, zput_n, ti_g, oI_add, oI_sub, oI_mul, b79_21]
      try simp only [zput_s, zput_n, ti_g, oI_add, oI_sub, oI_mul]
      refine zok_pI (s88 (by omega)) (fun y5 u5 p5 => ?_)
      simp only [zput_s, zput_n, ti_g, oI_add, oI_sub, oI_mul, b79_24]
      try simp only [zput_s, zput_n, ti_g, oI_add, oI_sub, oI_mul]
      obtain ⟨w7, wa7, wb7, we7⟩ := oI_nf (((oI 10) * (oI x3)) + (if (oI y5) < (oI 0) then (oI 0) else (oI y5)))
      try simp only [zput_s, zput_n, ti_g, oI_add, oI_sub, oI_mul] at we7
      try rw [we7]
      try simp only [zput_s, zput_n, ti_g, oI_add, oI_sub, oI_mul]
      exact ih _ _ (by omega) (by omega)
theorem s79 {sh : zSh} {r0 : Nat} (q0 : zRow sh r0) {x1 : Int} (u1 : -2147483648 ≤ x1 ∧ x1 ≤ 2147483647) {x2 : Int} (u2 : -2147483648 ≤ x2 ∧ x2 ≤ 2147483647) {t : zSt} (hR : RS sh t) : zok (zcl zP 79 [zR r0, zI (oI x1), zI (oI x2)] (sh, t)) (qI (fun x t' => t' = t ∧ (True)) sh) := by
  have hz0 := RS_sz (hR) q0
  rw [b79_0]
  try simp only [zput_s, zput_n, ti_g, oI_add, oI_sub, oI_mul]
  try simp only [zput_s, zput_n, ti_g, oI_add, oI_sub, oI_mul]
  exact l79_5 q0 (by omega) (by omega) hR _ _ _ (by omega) (Nat.lt_succ_self _)
/-! X6_isDots -/
theorem s81 {sh : zSh} {r0 : Nat} (q0 : zRow sh r0) {x1 : Int} (u1 : -2147483648 ≤ x1 ∧ x1 ≤ 2147483647) {x2 : Int} (u2 : -2147483648 ≤ x2 ∧ x2 ≤ 2147483647) {x3 : Int} (u3 : -2147483648 ≤ x3 ∧ x3 ≤ 2147483647) (d1 : 0 ≤ x1 ∧ x1 ≤ 1000000) (d2 : 0 ≤ x2 ∧ x2 ≤ 1000000) {t : zSt} (hR : RS sh t) : zok (zcl zP 81 [zR r0, zI (oI x1), zI (oI x2), zI (oI x3)] (sh, t)) (qI (fun x t' => t' = t ∧ (x = 0 ∨ x = 1)) sh) := by
  have hz0 := RS_sz (hR) q0
  rw [b81_0]
  try simp only [zput_s, zput_n, ti_g, oI_add, oI_sub, oI_mul]
  first | refine zok_ne (by omega) (fun c2 => ?_) (fun c2 => ?_) | refine zok_if (fun c2 => ?_) (fun c2 => ?_)
  · first | exact qI_rt (by omega) (by omega) ⟨rfl, by omega⟩ | exact qI_nf ⟨rfl, by omega⟩
  · refine zok_ck ((q0).1) ?_
    refine zok_pI (s57 (q0) (by omega) (hR)) (fun y3 u3 p3 => ?_)
    simp only [zput_s, zput_n, ti_g, oI_add, oI_sub, oI_mul, b81_12]
    try simp only [zput_s, zput_n, ti_g, oI_add, oI_sub, oI_mul]
    first | refine zok_ne (by omega) (fun c5 => ?_) (fun c5 => ?_) | refine zok_if (fun c5 => ?_) (fun c5 => ?_)
    · first | exact qI_rt (by omega) (by omega) ⟨rfl, by omega⟩ | exact qI_nf ⟨rfl, by omega⟩
    · refine zok_ck ((q0).1) ?_
      refine zok_pI (s57 (q0) (by omega) (hR)) (fun y6 u6 p6 => ?_)
      simp only [zput_s, zput_n, ti_g, oI_add, oI_sub, oI_mul, b81_24]
      try simp only [zput_s, zput_n, ti_g, oI_add, oI_sub, oI_mul]
      first | refine zok_ne (by omega) (fun c8 => ?_) (fun c8 => ?_) | refine zok_if (fun c8 => ?_) (fun c8 => ?_)
      · first | exact qI_rt (by omega) (by omega) ⟨rfl, by omega⟩ | exact qI_nf ⟨rfl, by omega⟩
      · first | exact qI_rt (by omega) (by omega) ⟨rfl, by omega⟩ | exact qI_nf ⟨rfl, by omega⟩
/-! X6_moveDown -/
theorem l82_6 {sh : zSh} {r0 : Nat} (q0 : zRow sh r0) {x1 : Int} (u1 : -2147483648 ≤ x1 ∧ x1 ≤ 2147483647) {x2 : Int} (u2 : -2147483648 ≤ x2 ∧ x2 ≤ 2147483647) {x3 : Int} (u3 : -2147483648 ≤ x3 ∧ x3 ≤ 2147483647) (d1 : 0 ≤ x1 ∧ x1 ≤ 1000000) (d2 : x2 ≤ 1000000) (d3 : 0 ≤ x3 ∧ x3 ≤ 1000000) {t0 : zSt} (hR : RS sh t0) : ∀ (n : Nat) (x4 : Int) (x5 : Int)  (t1 : zSt), FrR sh r0 t0 t1 → (-2147483648 ≤ x4 ∧ x4 ≤ 2147483647) ∧ (-2147483648 ≤ x5 ∧ x5 ≤ 2147483647) ∧ (tg t1 r0 1 = tg t0 r0 1) ∧ (x4 = x3 + (x5 - x1) ∧ x1 ≤ x5 ∧ (x5 ≤ x2 ∨ x5 = x1)) → (x2 - x5).toNat < n → zok (zev zP 82 6 [some (zR r0), some (zI (oI x1)), some (zI (oI x2)), some (zI (oI x3)), some (zI (oI x4)), some (zI (oI x5))] [] (sh, t1)) (qI (fun x t' => FrR sh r0 t0 t' ∧ (tg t' r0 1 = tg t0 r0 1 ∧ (x2 ≤ x1 → x = x3) ∧ (x1 < x2 → x = x3 + (x2 - x1)))) sh) := by
  intro n
  induction n with
  | zero => intro x4 x5  t1 f0 _ hm; omega
  | succ n ih =>
    intro x4 x5  t1 f0 hv hm
    have hz0 := RS_sz (f0.rs) q0
    simp only [zput_s, zput_n, ti_g, oI_add, oI_sub, oI_mul, b82_6]
    try simp only [zput_s, zput_n, ti_g, oI_add, oI_sub, oI_mul]
    first | refine zok_le (by omega) (fun c2 => ?_) (fun c2 => ?_) | refine zok_if (fun c2 => ?_) (fun c2 => ?_)
    · first | exact qI_rt (by omega) (by omega) ⟨f0, by omega⟩ | exact qI_nf ⟨f0, by omega⟩
    · refine zok_ck ((q0).1) ?_
      refine zok_pI (s57 (q0) (by omega) (f0.rs)) (fun y3 u3 p3 => ?_)
      simp only [zput_s, zput_n, ti_g, oI_add, oI_sub, oI_mul, b82_21]
      try simp only [zput_s, zput_n, ti_g, oI_add, oI_sub, oI_mul]
      refine zok_ck ((q0).1) ?_
      refine zok_c0 (s58 (q0) (by omega) (f0.rs)) (fun t5 p5 => ?_)
      obtain ⟨f5, p5⟩ := p5
      simp only [zput_s, zput_n, ti_g, oI_add, oI_sub, oI_mul, b82_24]
      try simp only [zput_s, zput_n, ti_g, oI_add, oI_sub, oI_mul]
      try simp only [zput_s, zput_n, ti_g, oI_add, oI_sub, oI_mul]
      exact ih _ _ _ ((f0).trans (f5)) (by omega) (by omega)
theorem s82 {sh : zSh} {r0 : Nat} (q0 : zRow sh r0) {x1 : Int} (u1 : -2147483648 ≤ x1 ∧ x1 ≤ 2147483647) {x2 : Int} (u2 : -2147483648 ≤ x2 ∧ x2 ≤ 2147483647) {x3 : Int} (u3 : -2147483648 ≤ x3 ∧ x3 ≤ 2147483647) (d1 : 0 ≤ x1 ∧ x1 ≤ 1000000) (d2 : x2 ≤ 1000000) (d3 : 0 ≤ x3 ∧ x3 ≤ 1000000) {t : zSt} (hR : RS sh t) : zok (zcl zP 82 [zR r0, zI (oI x1), zI (oI x2), zI (oI x3)] (sh, t)) (qI (fun x t' => FrR sh r0 t t' ∧ (tg t' r0 1 = tg t r0 1 ∧ (x2 ≤ x1 → x = x3) ∧ (x1 < x2 → x = x3 + (x2 - x1)))) sh) := by
  have hz0 := RS_sz (hR) q0
  rw [b82_0]
  try simp only [zput_s, zput_n, ti_g, oI_add, oI_sub, oI_mul]
  try simp only [zput_s, zput_n, ti_g, oI_add, oI_sub, oI_mul]
  exact l82_6 q0 (by omega) (by omega) (by omega) d1 d2 d3 hR _ _ _ _ (FrR.refl hR) (by omega) (Nat.lt_succ_self _)
/-! X6_removeDots -/
theorem l80_34 {sh : zSh} {r0 : Nat} (q0 : zRow sh r0) {t0 : zSt} (hR : RS sh t0) : ∀ (n : Nat) (x1 : Int) (x2 : Int) (x3 : Int) (x4 : Int) (x5 : Int) (o6 : Option zV) (wo6 : zisL o6 = false) (t1 : zSt), FrR sh r0 t0 t1 → (-2147483648 ≤ x1 ∧ x1 ≤ 2147483647) ∧ (-2147483648 ≤ x2 ∧ x2 ≤ 2147483647) ∧ (-2147483648 ≤ x3 ∧ x3 ≤ 2147483647) ∧ (-2147483648 ≤ x4 ∧ x4 ≤ 2147483647) ∧ (-2147483648 ≤ x5 ∧ x5 ≤ 2147483647) ∧ (0 ≤ x1 ∧ x1 ≤ 1) ∧ (x1 ≤ x3 ∧ x3 ≤ x4) ∧ (x4 ≤ tg t1 r0 1 + 1) ∧ (0 ≤ x5) → (x2 - x5).toNat < n → zok (zev zP 80 34 [some (zR r0), some (zI (oI x1)), some (zI (oI x2)), some (zI (oI x3)), some (zI (oI x4)), some (zI (oI x5)), o6] [] (sh, t1)) (zq0 (fun t' => FrR sh r0 t0 t' ∧ (True)) sh) := by
  intro n
  induction n with
  | zero => intro x1 x2 x3 x4 x5 o6 wo6 t1 f0 _ hm; omega
  | succ n ih =>
    intro x1 x2 x3 x4 x5 o6 wo6 t1 f0 hv hm
    have hz0 := RS_sz (f0.rs) q0
    have g1_1 := RS_sz (f0.rs) (q0)
    try simp only [zput_s, zput_n, ti_g, oI_add, oI_sub, oI_mul]
    rw [b80_34 (o6 := o6) (wo6 := wo6)]
    try simp only [zput_s, zput_n, ti_g, oI_add, oI_sub, oI_mul]
    first | refine zok_le (by omega) (fun c2 => ?_) (fun c2 => ?_) | refine zok_if (fun c2 => ?_) (fun c2 => ?_)
    · refine zok_ck ((q0).1) ?_
      refine zok_c0 (s63 (q0) (by omega) (f0.rs)) (fun t3 p3 => ?_)
      obtain ⟨f3, p3⟩ := p3
      try simp only [zput_s, zput_n, ti_g, oI_add, oI_sub, oI_mul]
      rw [b80_134 (o6 := o6) (wo6 := wo6)]
      try simp only [zput_s, zput_n, ti_g, oI_add, oI_sub, oI_mul]
      exact q0_rt ⟨(f0).trans (f3), trivial⟩
    · refine zok_ck ((q0).1) ?_
      refine zok_ck ((q0).1) ?_
      refine zok_pI (s68 (q0) (by omega) (by omega) (by omega) (by omega) (f0.rs)) (fun y5 u5 p5 => ?_)
      try simp only [zput_s, zput_n, ti_g, oI_add, oI_sub, oI_mul]
      rw [b80_52 (o6 := o6) (wo6 := wo6)]
      try simp only [zput_s, zput_n, ti_g, oI_add, oI_sub, oI_mul]
      refine zok_ck ((q0).1) ?_
      refine zok_pI (s81 (q0) (by omega) (by omega) (by omega) (by omega) (by omega) (f0.rs)) (fun y7 u7 p7 => ?_)
      simp only [zput_s, zput_n, ti_g, oI_add, oI_sub, oI_mul, b80_63]
      try simp only [zput_s, zput_n, ti_g, oI_add, oI_sub, oI_mul]
      first | refine zok_eq (by omega) (fun c9 => ?_) (fun c9 => ?_) | refine zok_if (fun c9 => ?_) (fun c9 => ?_)
      · refine zok_ck ((q0).1) ?_
        refine zok_pI (s81 (q0) (by omega) (by omega) (by omega) (by omega) (by omega) (f0.rs)) (fun y10 u10 p10 => ?_)
        have g11_1 := RS_sz (f0.rs) (q0)
        simp only [zput_s, zput_n, ti_g, oI_add, oI_sub, oI_mul, b80_95]
        try simp only [zput_s, zput_n, ti_g, oI_add, oI_sub, oI_mul]
        first | refine zok_ne (by omega) (fun c12 => ?_) (fun c12 => ?_) | refine zok_if (fun c12 => ?_) (fun c12 => ?_)
        · try simp only [zput_s, zput_n, ti_g, oI_add, oI_sub, oI_mul]
          exact ih _ _ _ _ _ _ rfl _ (f0) (by omega) (by omega)
        · refine zok_ck ((q0).1) ?_
          refine zok_ck ((q0).1) ?_
          obtain ⟨w13, wr13, we13⟩ := oI_mm (tg t1 r0 1) ((y5) + (1)) (tg t1 r0 1) ((y5) + (1)) (by omega)
          try simp only [zput_s, zput_n, ti_g, oI_add, oI_sub, oI_mul] at we13
          try rw [we13]
          refine zok_cI (s82 (q0) (by omega) (by omega) (by omega) (by omega) (by omega) (by omega) (f0.rs)) (fun y14 t14 u14 p14 => ?_)
          obtain ⟨f14, p14⟩ := p14
          simp only [zput_s, zput_n, ti_g, oI_add, oI_sub, oI_mul, b80_116]
          try simp only [zput_s, zput_n, ti_g, oI_add, oI_sub, oI_mul]
          try simp only [zput_s, zput_n, ti_g, oI_add, oI_sub, oI_mul]
          exact ih _ _ _ _ _ _ rfl _ ((f0).trans (f14)) (by omega) (by omega)
      · refine zok_ck ((q0).1) ?_
        refine zok_pI (s69 (q0) (by omega) (by omega) (by omega) (by omega) (by omega) (f0.rs)) (fun y16 u16 p16 => ?_)
        simp only [zput_s, zput_n, ti_g, oI_add, oI_sub, oI_mul, b80_76]
        try simp only [zput_s, zput_n, ti_g, oI_add, oI_sub, oI_mul]
        obtain ⟨w18, wr18, we18⟩ := oI_mm ((y16) + (1)) (x1) (x1) ((y16) + (1)) (by omega)
        try simp only [zput_s, zput_n, ti_g, oI_add, oI_sub, oI_mul] at we18
        try rw [we18]
        try simp only [zput_s, zput_n, ti_g, oI_add, oI_sub, oI_mul]
        exact ih _ _ _ _ _ _ rfl _ (f0) (by omega) (by omega)
theorem s80 {sh : zSh} {r0 : Nat} (q0 : zRow sh r0) {t : zSt} (hR : RS sh t) : zok (zcl zP 80 [zR r0] (sh, t)) (zq0 (fun t' => FrR sh r0 t t' ∧ (True)) sh) := by
  have hz0 := RS_sz (hR) q0
  rw [b80_0]
  try simp only [zput_s, zput_n, ti_g, oI_add, oI_sub, oI_mul]
  refine zok_ck ((q0).1) ?_
  refine zok_pI (s57 (q0) (by omega) (hR)) (fun y20 u20 p20 => ?_)
  simp only [zput_s, zput_n, ti_g, oI_add, oI_sub, oI_mul, b80_5]
  try simp only [zput_s, zput_n, ti_g, oI_add, oI_sub, oI_mul]
  first | refine zok_ne (by omega) (fun c22 => ?_) (fun c22 => ?_) | refine zok_if (fun c22 => ?_) (fun c22 => ?_)
  · refine zok_ck ((q0).1) ?_
    refine zok_pI (s70 (q0) (by omega) (by omega) (by omega) (hR)) (fun y23 u23 p23 => ?_)
    simp only [zput_s, zput_n, ti_g, oI_add, oI_sub, oI_mul, b80_23]
    try simp only [zput_s, zput_n, ti_g, oI_add, oI_sub, oI_mul]
    try simp only [zput_s, zput_n, ti_g, oI_add, oI_sub, oI_mul]
    exact l80_34 q0 hR _ _ _ _ _ _ _ rfl _ (FrR.refl hR) (by omega) (Nat.lt_succ_self _)
  · refine zok_ck ((q0).1) ?_
    refine zok_pI (s70 (q0) (by omega) (by omega) (by omega) (hR)) (fun y25 u25 p25 => ?_)
    simp only [zput_s, zput_n, ti_g, oI_add, oI_sub, oI_mul, b80_23]
    try simp only [zput_s, zput_n, ti_g, oI_add, oI_sub, oI_mul]
    try simp only [zput_s, zput_n, ti_g, oI_add, oI_sub, oI_mul]
    exact l80_34 q0 hR _ _ _ _ _ _ _ rfl _ (FrR.refl hR) (by omega) (Nat.lt_succ_self _)
/-! X6_putBefore -/
theorem l83_48 {sh : zSh} {r0 : Nat} (q0 : zRow sh r0) {k1 : Nat} (v1 : 0 < k1 ∧ k1 ≤ ztx.length) {t0 : zSt} (hR : RS sh t0) : ∀ (n : Nat) (x2 : Int) (x3 : Int) (x4 : Int)  (t1 : zSt), FrR sh r0 t0 t1 → (-2147483648 ≤ x2 ∧ x2 ≤ 2147483647) ∧ (-2147483648 ≤ x3 ∧ x3 ≤ 2147483647) ∧ (-2147483648 ≤ x4 ∧ x4 ≤ 2147483647) ∧ (0 ≤ x4) ∧ (x3 = ((ztx.getD (k1 - 1) []).length : Int)) ∧ (x3 ≤ 5) → (x3 - x4).toNat < n → zok (zev zP 83 48 [some (zR r0), some (zX k1), some (zI (oI x2)), some (zI (oI x3)), some (zI (oI x4))] [] (sh, t1)) (zq0 (fun t' => FrR sh r0 t0 t' ∧ (True)) sh) := by
  intro n
  induction n with
  | zero => intro x2 x3 x4  t1 f0 _ hm; omega
  | succ n ih =>
    intro x2 x3 x4  t1 f0 hv hm
    have hz0 := RS_sz (f0.rs) q0
    simp only [zput_s, zput_n, ti_g, oI_add, oI_sub, oI_mul, b83_48]
    try simp only [zput_s, zput_n, ti_g, oI_add, oI_sub, oI_mul]
    first | refine zok_le (by omega) (fun c2 => ?_) (fun c2 => ?_) | refine zok_if (fun c2 => ?_) (fun c2 => ?_)
    · exact q0_rt ⟨f0, trivial⟩
    · have zc2 := ztx_ch (k1 - 1) (nN ((oI x4)))
      refine zok_ck ⟨v1.1, v1.2, Nat.le_of_ble_eq_true rfl, zin_o (by omega) (by omega) (by omega)⟩ ?_
      refine zok_ck ((q0).1) ?_
      obtain ⟨w3, wa3, wb3, we3⟩ := oI_nf (oI (((ztx.getD (k1 - 1) []).getD (nN (oI x4)) 0 : Nat) : Int))
      try simp only [zput_s, zput_n, ti_g, oI_add, oI_sub, oI_mul] at we3
      try rw [we3]
      refine zok_c0 (s58 (q0) (by omega) (f0.rs)) (fun t4 p4 => ?_)
      obtain ⟨f4, p4⟩ := p4
      simp only [zput_s, zput_n, ti_g, oI_add, oI_sub, oI_mul, b83_66]
      try simp only [zput_s, zput_n, ti_g, oI_add, oI_sub, oI_mul]
      try simp only [zput_s, zput_n, ti_g, oI_add, oI_sub, oI_mul]
      exact ih _ _ _ _ ((f0).trans (f4)) (by omega) (by omega)
theorem l83_20 {sh : zSh} {r0 : Nat} (q0 : zRow sh r0) {k1 : Nat} (v1 : 0 < k1 ∧ k1 ≤ ztx.length) {t0 : zSt} (hR : RS sh t0) : ∀ (n : Nat) (x2 : Int) (x3 : Int) (x4 : Int)  (t1 : zSt), FrR sh r0 t0 t1 → (-2147483648 ≤ x2 ∧ x2 ≤ 2147483647) ∧ (-2147483648 ≤ x3 ∧ x3 ≤ 2147483647) ∧ (-2147483648 ≤ x4 ∧ x4 ≤ 2147483647) ∧ (-1 ≤ x4 ∧ x4 ≤ 100000) ∧ (x3 = ((ztx.getD (k1 - 1) []).length : Int)) ∧ (x3 ≤ 5) → (x4 + 1).toNat < n → zok (zev zP 83 20 [some (zR r0), some (zX k1), some (zI (oI x2)), some (zI (oI x3)), some (zI (oI x4))] [] (sh, t1)) (zq0 (fun t' => FrR sh r0 t0 t' ∧ (True)) sh) := by
  intro n
  induction n with
  | zero => intro x2 x3 x4  t1 f0 _ hm; omega
  | succ n ih =>
    intro x2 x3 x4  t1 f0 hv hm
    have hz0 := RS_sz (f0.rs) q0
    simp only [zput_s, zput_n, ti_g, oI_add, oI_sub, oI_mul, b83_20]
    try simp only [zput_s, zput_n, ti_g, oI_add, oI_sub, oI_mul]
    first | refine zok_lt (by omega) (fun c2 => ?_) (fun c2 => ?_) | refine zok_if (fun c2 => ?_) (fun c2 => ?_)
    · try simp only [zput_s, zput_n, ti_g, oI_add, oI_sub, oI_mul]
      exact l83_48 q0 v1 hR _ _ _ _ _ (f0) (by omega) (Nat.lt_succ_self _)
    · refine zok_ck ((q0).1) ?_
      refine zok_pI (s57 (q0) (by omega) (f0.rs)) (fun y3 u3 p3 => ?_)
      simp only [zput_s, zput_n, ti_g, oI_add, oI_sub, oI_mul, b83_36]
      try simp only [zput_s, zput_n, ti_g, oI_add, oI_sub, oI_mul]
      refine zok_ck ((q0).1) ?_
      refine zok_c0 (s58 (q0) (by omega) (f0.rs)) (fun t5 p5 => ?_)
      obtain ⟨f5, p5⟩ := p5
      simp only [zput_s, zput_n, ti_g, oI_add, oI_sub, oI_mul, b83_39]
      try simp only [zput_s, zput_n, ti_g, oI_add, oI_sub, oI_mul]
      try simp only [zput_s, zput_n, ti_g, oI_add, oI_sub, oI_mul]
      exact ih _ _ _ _ ((f0).trans (f5)) (by omega) (by omega)
theorem s83 {sh : zSh} {r0 : Nat} (q0 : zRow sh r0) {k1 : Nat} (v1 : 0 < k1 ∧ k1 ≤ ztx.length) {t : zSt} (hR : RS sh t) : zok (zcl zP 83 [zR r0, zX k1] (sh, t)) (zq0 (fun t' => FrR sh r0 t t' ∧ (True)) sh) := by
  have hz0 := RS_sz (hR) q0
  have g7_1 := RS_sz (hR) (q0)
  have z7_k1 := ztx_len (k1 - 1)
  rw [b83_0]
  try simp only [zput_s, zput_n, ti_g, oI_add, oI_sub, oI_mul]
  refine zok_ck ((q0).1) ?_
  refine zok_ck ⟨v1.1, v1.2, Nat.le_of_ble_eq_true rfl⟩ ?_
  refine zok_ck ((q0).1) ?_
  refine zok_c0 (s60 (q0) v1 (hR)) (fun t8 p8 => ?_)
  obtain ⟨f8, p8⟩ := p8
  simp only [zput_s, zput_n, ti_g, oI_add, oI_sub, oI_mul, b83_15]
  try simp only [zput_s, zput_n, ti_g, oI_add, oI_sub, oI_mul]
  try simp only [zput_s, zput_n, ti_g, oI_add, oI_sub, oI_mul]
  exact l83_20 q0 v1 hR _ _ _ _ _ (f8) (by omega) (Nat.lt_succ_self _)
