set_option maxRecDepth 16384
/-! a text put before a row -/
theorem S83_20 {sh : zSh} {r k1 : Nat} (o s : Int) (hs : 1 ≤ s ∧ s ≤ 100) : ∀ (n : Nat) (V : wSt) (k : Int), (k + 1).toNat = n → -1 ≤ k → k + s < V r 1 → wRo sh V r → ∃ V', wev zP 83 20 [some (wR r), some (wX k1), some (wI o), some (wI s), some (wI k)] [] (sh, V) = wev zP 83 48 [some (wR r), some (wX k1), some (wI o), some (wI s), some (wI 0)] [] (sh, V') ∧ ∃ M : List Int, RwU sh V V' r M (V r 2) ∧ M.length = (tx sh V r).length ∧ ∀ j, gl M j = if s ≤ j ∧ j ≤ k + s then gl (tx sh V r) (j - s) else gl (tx sh V r) j := by
  intro n
  induction n with
  | zero =>
    intro V k hn hk hl q
    refine ⟨V, ?_, tx sh V r, RwU.same q rfl, rfl, fun j => ?_⟩
    · rw [w83_20, if_pos (by omega)]
    · rw [if_neg (by omega)]
  | succ n ih =>
    intro V k hn hk hl q
    have tl := tx_sz q
    have z := q.sz
    have gb := gl_b (tx_lB sh V r) k
    obtain ⟨V1, e1, u1⟩ := S58b q (k + s) (gl (tx sh V r) k) (fun _ _ => by omega)
    have t1 := tx_sz u1.2.1
    rw [u1.2.2.1, lset_len] at t1
    obtain ⟨V2, e2, M, u2, l2, g2⟩ := ih V1 (k - 1) (by omega) (by omega) (by omega) u1.2.1
    rw [u1.2.2.1] at l2 g2
    refine ⟨V2, ?_, M, u1.tr2 u2, by rw [l2, lset_len], fun j => ?_⟩
    · rw [w83_20, if_neg (by omega), S57 q]
      simp only [wcx_v, wput_s, w83_36]
      rw [wr_eq (by omega) (by omega), e1]
      simp only [wcx_v, wput_n, w83_39]
      rw [wr_eq (by omega) (by omega), show k + -1 = k - 1 by omega, e2]
    · rw [g2, gl_lset, gl_lset]
      by_cases c : s ≤ j ∧ j ≤ k - 1 + s
      · rw [if_pos c, if_neg (by omega), if_pos (by omega)]
      · rw [if_neg c]
        by_cases d : j = k + s
        · rw [if_pos (by omega), if_pos (by omega), show j - s = k by omega]
        · rw [if_neg (by omega), if_neg (by omega)]
theorem S83_48 {sh : zSh} {r k1 : Nat} (hk1 : zTb k1) (o : Int) : ∀ (n : Nat) (V : wSt) (x : Int), (((zT k1).length : Int) - x).toNat = n → 0 ≤ x → wRo sh V r → ∃ V', wev zP 83 48 [some (wR r), some (wX k1), some (wI o), some (wI ((zT k1).length : Int)), some (wI x)] [] (sh, V) = rN (sh, V') ∧ ∃ M : List Int, RwU sh V V' r M (V r 2) ∧ M.length = (tx sh V r).length ∧ ∀ j : Int, j < ((tx sh V r).length : Int) → gl M j = if x ≤ j ∧ j < ((zT k1).length : Int) then gl (zT k1) j else gl (tx sh V r) j := by
  have h2 := hk1.2
  have zl := zT_len k1
  intro n
  induction n with
  | zero =>
    intro V x hn hx q
    refine ⟨V, ?_, tx sh V r, RwU.same q rfl, rfl, fun j _ => ?_⟩
    · rw [w83_48, if_pos (by omega)]
    · rw [if_neg (by omega)]
  | succ n ih =>
    intro V x hn hx q
    have gi := gl_in (L := zT k1) (k := x) hx (by omega)
    rw [zT_at (by omega)] at gi
    have gb := gl_b (zT_b hk1) x
    obtain ⟨V1, e1, u1⟩ := S58b q x (gl (zT k1) x) (fun _ _ => by omega)
    obtain ⟨V2, e2, M, u2, l2, g2⟩ := ih V1 (x + 1) (by omega) (by omega) u1.2.1
    rw [u1.2.2.1, lset_len] at l2 g2
    refine ⟨V2, ?_, M, u1.tr2 u2, l2, fun j hj => ?_⟩
    · rw [w83_48, if_neg (by omega), ← gi, e1]
      simp only [wcx_v, wput_n, w83_66]
      rw [wr_eq (by omega) (by omega), e2]
    · rw [g2 j hj, gl_lset]
      by_cases c : x + 1 ≤ j ∧ j < ((zT k1).length : Int)
      · rw [if_pos c, if_pos (by omega)]
      · rw [if_neg c]
        by_cases d : j = x
        · rw [if_pos (by omega), if_pos (by omega), d]
        · rw [if_neg (by omega), if_neg (by omega)]
theorem S83 {sh : zSh} {V : wSt} {r k : Nat} (q : wRo sh V r) (hk : zTb k) (h1 : 1 ≤ (zT k).length) (hc : (tx sh V r).length + (zT k).length ≤ cap sh r) : ∃ V', wcl zP 83 [wR r, wX k] (sh, V) = rN (sh, V') ∧ RwU sh V V' r (zT k ++ tx sh V r) (V r 2) := by
  have tl := tx_sz q
  have z := q.sz
  have h2 := hk.2
  have zl := zT_len k
  obtain ⟨V1, e1, u1⟩ := S60 q hk
  rw [List.take_of_length_le (by rw [List.length_append]; omega)] at u1
  have t1 := tx_sz u1.2.1
  rw [u1.2.2.1, List.length_append] at t1
  obtain ⟨V2, e2, M, u2, l2, g2⟩ := S83_20 (sh := sh) (r := r) (k1 := k) (V r 1) ((zT k).length : Int) (by omega) _ V1 (V r 1 - 1) rfl (by omega) (by omega) u1.2.1
  have t2 := tx_sz u2.2.1
  obtain ⟨V3, e3, N, u3, l3, g3⟩ := S83_48 (sh := sh) (r := r) hk (V r 1) _ V2 0 rfl (by omega) u2.2.1
  refine ⟨V3, ?_, ((u1.tr2 u2).tr2 u3).eq ?_⟩
  · rw [w83_0, e1]
    simp only [wcx_v, wput_n, w83_15]
    rw [wr_eq (by omega) (by omega), ← zl, e2, e3]
  · rw [u2.2.2.1] at l3 g3
    rw [u1.2.2.1] at l2 g2
    have l4 : N.length = (tx sh V r).length + (zT k).length := by rw [l3, l2, List.length_append]
    refine gl_ext (by rw [l4, List.length_append]; omega) (fun j h3 h4 => ?_)
    rw [List.length_append] at h4
    rw [g3 j (by omega), gl_app]
    by_cases c : j < ((zT k).length : Int)
    · rw [if_pos ⟨h3, c⟩, if_pos c]
    · rw [if_neg (by omega), if_neg c, g2, if_pos (by omega), gl_app, if_pos (by omega)]
