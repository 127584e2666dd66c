set_option maxRecDepth 16384
/-! more of what is done with a row -/
theorem wand_id {x : Int} (h : 0 ≤ x ∧ x ≤ 255) : wand x 255 = x := by
  have a : ∀ i : Fin 256, wand ((i.val : Nat) : Int) 255 = ((i.val : Nat) : Int) := by decide
  have b := a ⟨x.toNat, by omega⟩
  rw [show (((⟨x.toNat, by omega⟩ : Fin 256).val : Nat) : Int) = x by show ((x.toNat : Nat) : Int) = x; omega] at b
  exact b
/-- signs of a row are bytes -/
def lB (L : List Int) : Prop := ∀ k : Nat, k < L.length → 0 ≤ L.getD k 0 ∧ L.getD k 0 ≤ 255
theorem tx_lB (sh : zSh) (V : wSt) (r : Nat) : lB (tx sh V r) := fun k hk => by rw [tx_at hk]; exact wand_255 _
theorem gl_in {L : List Int} {k : Int} (h : 0 ≤ k) (g : k < (L.length : Int)) : gl L k = L.getD k.toNat 0 := by
  unfold gl; rw [if_neg (by omega), List.getD_eq_getElem?_getD, List.getD_eq_getElem?_getD, List.getElem?_eq_getElem (by omega)]; rfl
theorem gl_out {L : List Int} {k : Int} (h : k < 0 ∨ (L.length : Int) ≤ k) : gl L k = -1 := by
  unfold gl
  by_cases c : k < 0
  · rw [if_pos c]
  · rw [if_neg c, List.getD_eq_getElem?_getD, List.getElem?_eq_none (by omega)]; rfl
theorem gl_b {L : List Int} (h : lB L) (k : Int) : -1 ≤ gl L k ∧ gl L k ≤ 255 ∧ (0 ≤ gl L k ↔ 0 ≤ k ∧ k < (L.length : Int)) := by
  by_cases c : 0 ≤ k ∧ k < (L.length : Int)
  · rw [gl_in c.1 c.2]; have := h k.toNat (by omega); omega
  · rw [gl_out (by omega)]; omega
theorem gl_ext {L M : List Int} (h : L.length = M.length) (g : ∀ k : Int, 0 ≤ k → k < (M.length : Int) → gl L k = gl M k) : L = M := by
  refine List.ext_getElem? (fun k => ?_)
  by_cases c : k < M.length
  · have e := g k (by omega) (by omega)
    rw [gl_in (by omega) (by omega), gl_in (by omega) (by omega), Int.toNat_natCast, List.getD_eq_getElem?_getD, List.getD_eq_getElem?_getD, List.getElem?_eq_getElem (by omega), List.getElem?_eq_getElem c] at e
    rw [List.getElem?_eq_getElem (by omega), List.getElem?_eq_getElem c]; exact congrArg some e
  · rw [List.getElem?_eq_none (by omega), List.getElem?_eq_none (by omega)]
theorem drop_gl {L : List Int} {k : Int} (h : 0 ≤ k) (g : k < (L.length : Int)) : L.drop k.toNat = gl L k :: L.drop (k + 1).toNat := by
  rw [gl_in h g, show (k + 1).toNat = k.toNat + 1 by omega, List.drop_eq_getElem_cons (by omega), List.getD_eq_getElem?_getD, List.getElem?_eq_getElem (by omega)]; rfl
theorem gl_app (L M : List Int) (k : Int) : gl (L ++ M) k = if k < (L.length : Int) then gl L k else gl M (k - L.length) := by
  by_cases c : k < 0
  · rw [gl_out (Or.inl c), if_pos (by omega), gl_out (Or.inl c)]
  · unfold gl
    rw [if_neg c, if_neg c, List.getD_eq_getElem?_getD, List.getElem?_append]
    by_cases d : k < (L.length : Int)
    · rw [if_pos d, if_pos (by omega), List.getD_eq_getElem?_getD]
    · rw [if_neg d, if_neg (by omega), if_neg (by omega), show k.toNat - L.length = (k - (L.length : Int)).toNat by omega, List.getD_eq_getElem?_getD]
theorem gl_take (L : List Int) (n : Nat) (k : Int) : gl (L.take n) k = if k < (n : Int) then gl L k else -1 := by
  by_cases c : k < 0
  · rw [gl_out (Or.inl c), gl_out (Or.inl c)]; split <;> rfl
  · unfold gl
    rw [if_neg c, if_neg c, List.getD_eq_getElem?_getD, List.getElem?_take]
    by_cases d : k < (n : Int)
    · rw [if_pos d, if_pos (by omega), List.getD_eq_getElem?_getD]
    · rw [if_neg d, if_neg (by omega)]; rfl
theorem gl_drop (L : List Int) (n : Nat) (k : Int) : gl (L.drop n) k = if k < 0 then -1 else gl L (k + n) := by
  unfold gl
  by_cases c : k < 0
  · rw [if_pos c, if_pos c]
  · rw [if_neg c, if_neg c, if_neg (by omega), List.getD_eq_getElem?_getD, List.getElem?_drop, show n + k.toNat = (k + (n : Int)).toNat by omega, List.getD_eq_getElem?_getD]
theorem adT (c : Nat) (L M N : List Int) : ((L ++ M).take c ++ N).take c = (L ++ (M ++ N)).take c := by
  rw [← List.append_assoc]
  refine List.ext_getElem? (fun k => ?_)
  rw [List.getElem?_take, List.getElem?_take, List.getElem?_append, List.getElem?_append (l₁ := L ++ M), List.getElem?_take, List.length_take]
  by_cases d : k < c
  · rw [if_pos d, if_pos d, if_pos d]
    by_cases e : k < (L ++ M).length
    · rw [if_pos (by omega), if_pos e]
    · rw [if_neg (by omega), if_neg e]; congr 1; omega
  · rw [if_neg d, if_neg d]
theorem take_ad {c : Nat} {L M : List Int} (h : L.length ≤ c) : (L ++ M).take c = L ++ M.take (c - L.length) := by
  rw [List.take_append, List.take_of_length_le h]
theorem S59g {sh : zSh} {V : wSt} {r : Nat} (q : wRo sh V r) (x : Int) : ∃ V', wcl zP 59 [wR r, wI x] (sh, V) = rN (sh, V') ∧ RwU sh V V' r ((tx sh V r ++ [wand x 255]).take (cap sh r)) (V r 2) := by
  have c := tx_cap q
  by_cases d : (tx sh V r).length < cap sh r
  · obtain ⟨V', e, u⟩ := S59 q x d
    refine ⟨V', e, ?_⟩
    rw [List.take_of_length_le (by rw [List.length_append]; simp only [List.length_cons, List.length_nil]; omega)]; exact u
  · refine ⟨V, S59_full q x (by omega), ?_⟩
    rw [take_ad c.1, show cap sh r - (tx sh V r).length = 0 by omega, List.take_zero, List.append_nil]
    exact ⟨FrO.refl, q, rfl, rfl⟩
theorem S61g {sh : zSh} {V : wSt} {r t : Nat} (q : wRo sh V r) (p : wRo sh V t) (s e : Int) (hs : 0 ≤ s ∧ s ≤ 1000000) (he : -1000000 ≤ e ∧ e ≤ 1000000) : ∃ V', wcl zP 61 [wR r, wR t, wI s, wI e] (sh, V) = rN (sh, V') ∧ RwU sh V V' r ((tx sh V r ++ sub (tx sh V t) s e).take (cap sh r)) (V r 2) := by
  have c := tx_cap q
  obtain ⟨V', h, u⟩ := S61 q p s e hs he
  exact ⟨V', h, by rw [take_ad c.1]; exact u⟩
/-- one sign written -/
def lset (L : List Int) (k b : Int) : List Int := if k < 0 then L else L.set k.toNat b
theorem lset_len (L : List Int) (k b : Int) : (lset L k b).length = L.length := by
  unfold lset; split
  · rfl
  · exact List.length_set
theorem gl_lset (L : List Int) (k b j : Int) : gl (lset L k b) j = if 0 ≤ k ∧ k < (L.length : Int) ∧ j = k then b else gl L j := by
  unfold lset
  by_cases c : k < 0
  · rw [if_pos c, if_neg (by omega)]
  · rw [if_neg c]
    unfold gl
    by_cases d : j < 0
    · rw [if_pos d, if_pos d, if_neg (by omega)]
    · rw [if_neg d, if_neg d, List.getD_eq_getElem?_getD, List.getElem?_set]
      by_cases e : k.toNat = j.toNat
      · rw [if_pos e]
        by_cases f : k.toNat < L.length
        · rw [if_pos f, if_pos (by omega)]; rfl
        · rw [if_neg f, if_neg (by omega), List.getD_eq_getElem?_getD, List.getElem?_eq_none (by omega)]
      · rw [if_neg e, if_neg (by omega), List.getD_eq_getElem?_getD]
theorem S58 {sh : zSh} {V : wSt} {r : Nat} (q : wRo sh V r) (k x : Int) : ∃ V', wcl zP 58 [wR r, wI k, wI x] (sh, V) = rN (sh, V') ∧ RwU sh V V' r (lset (tx sh V r) k (wand x 255)) (V r 2) := by
  have z := q.sz
  have tl := tx_sz q
  have hn := row_ne q.1 q.1
  have same : ¬ (0 ≤ k ∧ k < V r 1) → RwU sh V V r (lset (tx sh V r) k (wand x 255)) (V r 2) := fun c => by
    refine ⟨FrO.refl, q, ?_, rfl⟩
    refine (gl_ext (lset_len _ _ _) (fun j _ _ => ?_)).symm
    rw [gl_lset, if_neg (by omega)]
  rw [w58_0, cap_wr q.1]
  have cr : (cap sh r : Int) = ((sk sh (sr sh r 0)).2 : Int) := rfl
  by_cases c : k < 0
  · rw [if_pos c]; exact ⟨V, rfl, same (by omega)⟩
  rw [if_neg c]
  by_cases d : V r 1 ≤ k
  · rw [if_pos d]; exact ⟨V, rfl, same (by omega)⟩
  rw [if_neg d, if_neg (by omega)]
  obtain ⟨W, hW⟩ : ∃ W, W = uI V (sr sh r 0) (Int.toNat k) (wi8 (wi8 x)) := ⟨_, rfl⟩
  rw [← hW]
  have w1 : W r = V r := by funext j; rw [hW]; unfold uI; rw [if_neg (fun c => hn c.1)]
  have w3 : ∀ j, W (sr sh r 0) j = if j = k.toNat then wi8 (wi8 x) else V (sr sh r 0) j := fun j => by
    rw [hW]; unfold uI
    by_cases d : j = k.toNat
    · rw [if_pos ⟨rfl, d⟩, if_pos d]
    · rw [if_neg (fun c => d c.2), if_neg d]
  refine ⟨W, rfl, ?_, wRo_cg w1 q, ?_, by rw [w1]⟩
  · rw [hW]; exact uI_fr (List.mem_cons_of_mem _ (List.mem_cons_self))
  · refine gl_ext (by rw [lset_len, tx_len, tx_len, w1]) (fun j h1 h2 => ?_)
    rw [lset_len] at h2
    rw [gl_lset, gl_tx, w1, w3, gl_tx]
    by_cases e : j = k
    · rw [if_pos (c := 0 ≤ k ∧ _) (by omega), if_pos (by omega), if_pos (by omega), wand_wi8, wand_wi8]
    · rw [if_neg (c := 0 ≤ k ∧ _) (by omega), if_neg (c := j.toNat = k.toNat) (by omega)]
theorem S63 {sh : zSh} {V : wSt} {r : Nat} (q : wRo sh V r) (k : Int) (hk : 0 ≤ k) : ∃ V', wcl zP 63 [wR r, wI k] (sh, V) = rN (sh, V') ∧ RwU sh V V' r ((tx sh V r).take k.toNat) (V r 2) := by
  have z := q.sz
  have tl := tx_sz q
  have hn := row_ne q.1 q.1
  rw [w63_0, if_neg (by omega)]
  by_cases d : V r 1 ≤ k
  · rw [if_pos d]; exact ⟨V, rfl, FrO.refl, q, (List.take_of_length_le (by omega)).symm, rfl⟩
  rw [if_neg d]
  have w1 : uI V r 1 k r 1 = k := by unfold uI; rw [if_pos ⟨rfl, rfl⟩]
  have w2 : uI V r 1 k r 2 = V r 2 := by unfold uI; rw [if_neg (fun c => by cases c.2)]
  have w3 : uI V r 1 k (sr sh r 0) = V (sr sh r 0) := by funext j; unfold uI; rw [if_neg (fun c => hn c.1.symm)]
  refine ⟨_, rfl, uI_fr (List.mem_cons_self), ⟨q.1, by omega, by omega, by rw [w2]; exact q.2.2.2⟩, ?_, w2⟩
  refine gl_ext (by rw [List.length_take, tx_len, tx_len, w1]; rw [tx_len] at tl; omega) (fun j h1 h2 => ?_)
  rw [List.length_take] at h2
  rw [gl_take, gl_tx, w1, w3, gl_tx, if_pos (by omega), if_pos (by omega), if_pos (by omega)]
