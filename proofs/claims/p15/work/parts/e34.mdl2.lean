set_option maxRecDepth 16384
/-! writes of the model -/
theorem GI_of {sh : zSh} {m : Nat} {t t' : zSt} (h : ∀ j, j ∈ [0, 2, 3, 4, 10, 11] → ∀ k, tg t' (zob sh m j) k = tg t (zob sh m j) k) (G : GI sh m t) : GI sh m t' := by
  have h0 : ∀ k, tg t' m k = tg t m k := h 0 (by decide)
  have h2 : ∀ k, tg t' (sr sh m 2) k = tg t (sr sh m 2) k := h 2 (by decide)
  have h3 : ∀ k, tg t' (sr sh m 3) k = tg t (sr sh m 3) k := h 3 (by decide)
  have h4 : ∀ k, tg t' (sr sh m 4) k = tg t (sr sh m 4) k := h 4 (by decide)
  have h10 : ∀ k, tg t' (sr sh m 10) k = tg t (sr sh m 10) k := h 10 (by decide)
  have h11 : ∀ k, tg t' (sr sh m 11) k = tg t (sr sh m 11) k := h 11 (by decide)
  unfold GI GSZ GBE GLS GLH at G ⊢
  simp only [h0, h2, h3, h4, h10, h11]
  exact G
theorem tI_fr {sh : zSh} {m j k : Nat} {t : zSt} {x : Int32} : ∀ a, (∀ i, i ∈ [j] → a ≠ zob sh m i) → (tI t (zob sh m j) k x).1 a = t.1 a := by
  intro a ha
  show zup t.1 (zob sh m j) _ a = _; unfold zup; rw [if_neg (ha j (List.mem_singleton.mpr rfl))]
theorem GI_free {sh : zSh} {MB m : Nat} {t : zSt} (q : zMd sh MB m) (G : GI sh m t) {j : Nat} (hj : j ∈ [1, 8, 9, 12, 13, 14]) {k : Nat} {x : Int32} : FrV sh m [j] t (tI t (zob sh m j) k x) := by
  have hd : ∀ i, i ∈ [0, 2, 3, 4, 10, 11] → ∀ j, j ∈ [1, 8, 9, 12, 13, 14] → i ≠ j := by decide
  refine ⟨rfl, tI_fr, GI_of (fun i hi k' => tg_ne (q.ne ?_ ?_ (hd i hi j hj))) G⟩
  · revert i; decide
  · revert j; decide
theorem GI_sz {sh : zSh} {MB m : Nat} {t : zSt} (q : zMd sh MB m) (G : GI sh m t) {k : Nat} {v : Int} (hk : k < 14) (h : 0 ≤ v ∧ (k < 8 → v ≤ 400) ∧ (k = 13 → v ≤ 400) ∧ v + 1500 * (k : Int) ≤ 21000) : FrV sh m [2] t (tI t (sr sh m 2) k (oI v)) := by
  have hn : ∀ i, i ∈ [0, 3, 4, 10, 11] → ∀ k', tg (tI t (zob sh m 2) k (oI v)) (zob sh m i) k' = tg t (zob sh m i) k' := fun i hi k' => tg_ne (q.ne (by revert i; decide) (by decide) (by rintro rfl; revert hi; decide))
  have h0 : ∀ k', tg (tI t (sr sh m 2) k (oI v)) m k' = tg t m k' := hn 0 (by decide)
  have h3 : ∀ k', tg (tI t (sr sh m 2) k (oI v)) (sr sh m 3) k' = tg t (sr sh m 3) k' := hn 3 (by decide)
  have h4 : ∀ k', tg (tI t (sr sh m 2) k (oI v)) (sr sh m 4) k' = tg t (sr sh m 4) k' := hn 4 (by decide)
  have h10 : ∀ k', tg (tI t (sr sh m 2) k (oI v)) (sr sh m 10) k' = tg t (sr sh m 10) k' := hn 10 (by decide)
  have h11 : ∀ k', tg (tI t (sr sh m 2) k (oI v)) (sr sh m 11) k' = tg t (sr sh m 11) k' := hn 11 (by decide)
  refine ⟨rfl, tI_fr (j := 2), ?_⟩
  unfold GI GSZ GBE GLS GLH at G ⊢
  simp only [h0, h3, h4, h10, h11]
  refine ⟨fun i hi => ?_, G.2⟩
  rw [tg_at (by omega)]
  by_cases e : i = k
  · subst e; rw [if_pos rfl]; exact h
  · rw [if_neg e]; exact G.1 i hi
theorem GI_ls {sh : zSh} {MB m : Nat} {t : zSt} (q : zMd sh MB m) (G : GI sh m t) {k : Nat} {v : Int} (hk : k < 7) (h : 0 ≤ v ∧ (k ≠ 4 → v ≤ 1500) ∧ v ≤ 3000) : FrV sh m [10] t (tI t (sr sh m 10) k (oI v)) := by
  have hn : ∀ i, i ∈ [0, 2, 3, 4, 11] → ∀ k', tg (tI t (zob sh m 10) k (oI v)) (zob sh m i) k' = tg t (zob sh m i) k' := fun i hi k' => tg_ne (q.ne (by revert i; decide) (by decide) (by rintro rfl; revert hi; decide))
  have h0 : ∀ k', tg (tI t (sr sh m 10) k (oI v)) m k' = tg t m k' := hn 0 (by decide)
  have h2 : ∀ k', tg (tI t (sr sh m 10) k (oI v)) (sr sh m 2) k' = tg t (sr sh m 2) k' := hn 2 (by decide)
  have h3 : ∀ k', tg (tI t (sr sh m 10) k (oI v)) (sr sh m 3) k' = tg t (sr sh m 3) k' := hn 3 (by decide)
  have h4 : ∀ k', tg (tI t (sr sh m 10) k (oI v)) (sr sh m 4) k' = tg t (sr sh m 4) k' := hn 4 (by decide)
  have h11 : ∀ k', tg (tI t (sr sh m 10) k (oI v)) (sr sh m 11) k' = tg t (sr sh m 11) k' := hn 11 (by decide)
  refine ⟨rfl, tI_fr (j := 10), ?_⟩
  unfold GI GSZ GBE GLS GLH at G ⊢
  simp only [h0, h2, h3, h4, h11]
  refine ⟨G.1, G.2.1, fun i hi => ?_, G.2.2.2⟩
  rw [tg_at (by omega)]
  by_cases e : i = k
  · subst e; rw [if_pos rfl]; exact h
  · rw [if_neg e]; exact G.2.2.1 i hi
theorem GI_lh {sh : zSh} {MB m : Nat} {t : zSt} (q : zMd sh MB m) (G : GI sh m t) {k : Nat} {v : Int} (h : v = 0 ∨ v = 1) : FrV sh m [11] t (tI t (sr sh m 11) k (oI v)) := by
  have hn : ∀ i, i ∈ [0, 2, 3, 4, 10] → ∀ k', tg (tI t (zob sh m 11) k (oI v)) (zob sh m i) k' = tg t (zob sh m i) k' := fun i hi k' => tg_ne (q.ne (by revert i; decide) (by decide) (by rintro rfl; revert hi; decide))
  have h0 : ∀ k', tg (tI t (sr sh m 11) k (oI v)) m k' = tg t m k' := hn 0 (by decide)
  have h2 : ∀ k', tg (tI t (sr sh m 11) k (oI v)) (sr sh m 2) k' = tg t (sr sh m 2) k' := hn 2 (by decide)
  have h3 : ∀ k', tg (tI t (sr sh m 11) k (oI v)) (sr sh m 3) k' = tg t (sr sh m 3) k' := hn 3 (by decide)
  have h4 : ∀ k', tg (tI t (sr sh m 11) k (oI v)) (sr sh m 4) k' = tg t (sr sh m 4) k' := hn 4 (by decide)
  have h10 : ∀ k', tg (tI t (sr sh m 11) k (oI v)) (sr sh m 10) k' = tg t (sr sh m 10) k' := hn 10 (by decide)
  refine ⟨rfl, tI_fr (j := 11), ?_⟩
  unfold GI GSZ GBE GLS GLH at G ⊢
  simp only [h0, h2, h3, h4, h10]
  refine ⟨G.1, G.2.1, G.2.2.1, fun i hi => ?_, G.2.2.2.2⟩
  rw [tg_at (by omega)]
  by_cases e : i = k
  · rw [if_pos e]; exact h
  · rw [if_neg e]; exact G.2.2.2.1 i hi
theorem GI_m {sh : zSh} {MB m : Nat} {t : zSt} (q : zMd sh MB m) (G : GI sh m t) {k : Nat} {v : Int} (hr : -2147483648 ≤ v ∧ v ≤ 2147483647) (h7 : k = 7 → 0 ≤ v ∧ v ≤ 1500) (h15 : k = 15 → 0 ≤ v ∧ v ≤ 100000) : FrV sh m [0] t (tI t m k (oI v)) := by
  have hn : ∀ i, i ∈ [2, 3, 4, 10, 11] → ∀ k', tg (tI t (zob sh m 0) k (oI v)) (zob sh m i) k' = tg t (zob sh m i) k' := fun i hi k' => tg_ne (q.ne (by revert i; decide) (by decide) (by rintro rfl; revert hi; decide))
  have h2 : ∀ k', tg (tI t m k (oI v)) (sr sh m 2) k' = tg t (sr sh m 2) k' := hn 2 (by decide)
  have h3 : ∀ k', tg (tI t m k (oI v)) (sr sh m 3) k' = tg t (sr sh m 3) k' := hn 3 (by decide)
  have h4 : ∀ k', tg (tI t m k (oI v)) (sr sh m 4) k' = tg t (sr sh m 4) k' := hn 4 (by decide)
  have h10 : ∀ k', tg (tI t m k (oI v)) (sr sh m 10) k' = tg t (sr sh m 10) k' := hn 10 (by decide)
  have h11 : ∀ k', tg (tI t m k (oI v)) (sr sh m 11) k' = tg t (sr sh m 11) k' := hn 11 (by decide)
  refine ⟨rfl, tI_fr (j := 0), ?_⟩
  unfold GI GSZ GBE GLS GLH at G ⊢
  simp only [h2, h3, h4, h10, h11]
  refine ⟨G.1, G.2.1, G.2.2.1, G.2.2.2.1, ?_, ?_⟩
  · rw [tg_at hr]; split
    · rename_i e; exact h7 e.symm
    · exact G.2.2.2.2.1
  · rw [tg_at hr]; split
    · rename_i e; exact h15 e.symm
    · exact G.2.2.2.2.2
theorem GI_be {sh : zSh} {MB m : Nat} {t : zSt} (q : zMd sh MB m) (G : GI sh m t) {k : Nat} {a b : Int} (hk : k < 98) (h : -1 ≤ a ∧ a ≤ b ∧ b ≤ 3000 ∧ (k < 84 ∨ 91 ≤ k → b ≤ 400)) : FrV sh m [3, 4] t (tI (tI t (sr sh m 3) k (oI a)) (sr sh m 4) k (oI b)) ∧ (∀ i, tg (tI (tI t (sr sh m 3) k (oI a)) (sr sh m 4) k (oI b)) (sr sh m 3) i = if i = k then a else tg t (sr sh m 3) i) ∧ ∀ i, tg (tI (tI t (sr sh m 3) k (oI a)) (sr sh m 4) k (oI b)) (sr sh m 4) i = if i = k then b else tg t (sr sh m 4) i := by
  have hn : ∀ i, i ∈ [0, 2, 10, 11] → ∀ k', tg (tI (tI t (zob sh m 3) k (oI a)) (zob sh m 4) k (oI b)) (zob sh m i) k' = tg t (zob sh m i) k' := fun i hi k' => (tg_ne (q.ne (by revert i; decide) (by decide) (by rintro rfl; revert hi; decide))).trans (tg_ne (q.ne (by revert i; decide) (by decide) (by rintro rfl; revert hi; decide)))
  have h0 : ∀ k', tg (tI (tI t (sr sh m 3) k (oI a)) (sr sh m 4) k (oI b)) m k' = tg t m k' := hn 0 (by decide)
  have h2 : ∀ k', tg (tI (tI t (sr sh m 3) k (oI a)) (sr sh m 4) k (oI b)) (sr sh m 2) k' = tg t (sr sh m 2) k' := hn 2 (by decide)
  have h10 : ∀ k', tg (tI (tI t (sr sh m 3) k (oI a)) (sr sh m 4) k (oI b)) (sr sh m 10) k' = tg t (sr sh m 10) k' := hn 10 (by decide)
  have h11 : ∀ k', tg (tI (tI t (sr sh m 3) k (oI a)) (sr sh m 4) k (oI b)) (sr sh m 11) k' = tg t (sr sh m 11) k' := hn 11 (by decide)
  have n34 : sr sh m 3 ≠ sr sh m 4 := q.ne (i := 3) (j := 4) (by decide) (by decide) (by decide)
  have h3 : ∀ i, tg (tI (tI t (sr sh m 3) k (oI a)) (sr sh m 4) k (oI b)) (sr sh m 3) i = if i = k then a else tg t (sr sh m 3) i := fun i => (tg_ne n34).trans (tg_at (by omega))
  have h4 : ∀ i, tg (tI (tI t (sr sh m 3) k (oI a)) (sr sh m 4) k (oI b)) (sr sh m 4) i = if i = k then b else tg t (sr sh m 4) i := fun i => (tg_at (by omega)).trans (by rw [tg_ne (Ne.symm n34)])
  refine ⟨⟨rfl, fun c hc => ?_, ?_⟩, h3, h4⟩
  · have c3 : c ≠ sr sh m 3 := hc 3 (by decide)
    have c4 : c ≠ sr sh m 4 := hc 4 (by decide)
    show zup (zup t.1 (sr sh m 3) _) (sr sh m 4) _ c = _
    unfold zup; rw [if_neg c4, if_neg c3]
  · unfold GI GSZ GBE GLS GLH at G ⊢
    simp only [h0, h2, h3, h4, h10, h11]
    refine ⟨G.1, fun i hi => ?_, G.2.2⟩
    by_cases e : i = k
    · subst e; rw [if_pos rfl, if_pos rfl]; exact h
    · rw [if_neg e, if_neg e]; exact G.2.1 i hi
