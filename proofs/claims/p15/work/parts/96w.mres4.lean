set_option maxRecDepth 16384
/-! the model's method that resolves -/
theorem M176_bad {sh : zSh} {V : wSt} {m : Nat} (M : wMd sh m) (i b t s : Int) (h : ¬ ((0 ≤ i ∧ i ≤ 7) ∧ (0 ≤ b ∧ b ≤ 7) ∧ (0 ≤ t ∧ t ≤ 7))) : wcl zP 176 [wR m, wI i, wI b, wI t, wI s] (sh, V) = rI 0 (sh, uI V m 0 1) := by
  have c1 := (fld (V := V) M 0 1).2.2
  rw [w176_0, M127]
  simp only [wcx_v, wput_s]
  by_cases d1 : 0 ≤ i ∧ i ≤ 7
  · rw [if_pos d1, w176_5, if_neg (by decide), M127]
    simp only [wcx_v, wput_s]
    by_cases d2 : 0 ≤ b ∧ b ≤ 7
    · rw [if_pos d2, w176_12, if_neg (by decide), M127]
      simp only [wcx_v, wput_s]
      rw [if_neg (fun d3 => h ⟨d1, d2, d3⟩), w176_19, if_pos rfl, c1, if_neg (by decide)]
    · rw [if_neg d2, w176_12, if_pos rfl, c1, if_neg (by decide)]
  · rw [if_neg d1, w176_5, if_pos rfl, c1, if_neg (by decide)]
theorem M176_39 {sh : zSh} {V : wSt} {m : Nat} (M : wMd sh m) (i b t s : Int) (h : (0 ≤ i ∧ i ≤ 7) ∧ (0 ≤ b ∧ b ≤ 7) ∧ (0 ≤ t ∧ t ≤ 7)) : wcl zP 176 [wR m, wI i, wI b, wI t, wI s] (sh, V) = wev zP 176 39 [some (wR m), some (wI i), some (wI b), some (wI t), some (wI s)] [] (sh, uI V m 0 0) := by
  have c0 := (fld (V := V) M 0 0).2.2
  rw [w176_0, M127]
  simp only [wcx_v, wput_s]
  rw [if_pos h.1, w176_5, if_neg (by decide), M127]
  simp only [wcx_v, wput_s]
  rw [if_pos h.2.1, w176_12, if_neg (by decide), M127]
  simp only [wcx_v, wput_s]
  rw [if_pos h.2.2, w176_19, if_neg (by decide), c0, if_pos (by decide)]
