set_option maxRecDepth 16384
/-! the model: parts of rows are laid -/
theorem lyO_9 {sh : zSh} {m : Nat} {V V' : wSt} (f : FrO [sr sh m 9, sr sh m 10] V V') : FrO (lyO sh m) V V' := f.mono (fun a h => by
  unfold lyO
  simp only [List.mem_cons, List.not_mem_nil, or_false] at h ⊢
  rcases h with h | h
  · exact Or.inl h
  · exact Or.inr (Or.inl h))
theorem M_reset {sh : zSh} {V : wSt} {m : Nat} (M : wMd sh m) {Q : Nat → List Int × Int} (k : Nat) (th : Int) (K : ∀ j, j < 7 → j ≠ k → (0 ≤ V (sr sh m 10) j ∧ V (sr sh m 10) j ≤ 1500) ∧ (ly sh V m j, V (sr sh m 11) j) = Q j) (ht : wi8 th = th) : FrO (lyO sh m) V (uI (uI V (sr sh m 11) k (wi8 th)) (sr sh m 10) k 0) ∧ lK sh (uI (uI V (sr sh m 11) k (wi8 th)) (sr sh m 10) k 0) m (pup Q k ([], th)) := by
  have n910 : sr sh m 9 ≠ sr sh m 10 := M.n (by decide) (by decide) (by decide)
  have n911 : sr sh m 11 ≠ sr sh m 9 := M.n (by decide) (by decide) (by decide)
  have n1011 : sr sh m 11 ≠ sr sh m 10 := M.n (by decide) (by decide) (by decide)
  obtain ⟨W, hW⟩ : ∃ W, W = uI (uI V (sr sh m 11) k (wi8 th)) (sr sh m 10) k 0 := ⟨_, rfl⟩
  have w10 : ∀ j, W (sr sh m 10) j = if j = k then 0 else V (sr sh m 10) j := fun j => by
    rw [hW]; unfold uI
    by_cases d : j = k
    · rw [if_pos ⟨rfl, d⟩, if_pos d]
    · rw [if_neg (fun c => d c.2), if_neg (fun c => n1011 c.1.symm), if_neg d]
  have w11 : ∀ j, W (sr sh m 11) j = if j = k then th else V (sr sh m 11) j := fun j => by
    rw [hW]; unfold uI
    rw [if_neg (fun c => n1011 c.1)]
    by_cases d : j = k
    · rw [if_pos ⟨rfl, d⟩, if_pos d, ht]
    · rw [if_neg (fun c => d c.2), if_neg d]
  have w9 : W (sr sh m 9) = V (sr sh m 9) := by
    funext j; rw [hW]; unfold uI; rw [if_neg (fun c => n910 c.1), if_neg (fun c => n911 c.1.symm)]
  rw [← hW]
  refine ⟨?_, fun j hj => ?_⟩
  · rw [hW]; unfold lyO
    exact (uI_fr (List.mem_cons_of_mem _ (List.mem_cons_of_mem _ (List.mem_cons_self)))).trans (uI_fr (List.mem_cons_of_mem _ (List.mem_cons_self)))
  · unfold pup ly
    rw [w10, w11, w9]
    by_cases d : j = k
    · rw [if_pos d, if_pos d, if_pos d]; exact ⟨by decide, rfl⟩
    · rw [if_neg d, if_neg d, if_neg d]; exact K j hj d
theorem pup_pup (Q : Nat → List Int × Int) (k : Nat) (x y : List Int × Int) : pup (pup Q k x) k y = pup Q k y := by
  funext j; unfold pup; by_cases c : j = k
  · rw [if_pos c, if_pos c]
  · rw [if_neg c, if_neg c, if_neg c]
theorem pup_at (Q : Nat → List Int × Int) (k : Nat) (x : List Int × Int) : pup Q k x k = x := by unfold pup; rw [if_pos rfl]
theorem cutQ_le (L : List Int) (k : Nat) (hk : k < 7) : (cutQ L k).1.length ≤ L.length := by
  have rg := zBE_rng (gl L) L.length (Int.natCast_nonneg _) k hk
  have ab := zBE_abs (gl L) L.length (Int.natCast_nonneg _) k hk
  have c := (cutQ_l L k hk).1
  by_cases d : zB (gl L) L.length k = -1
  · have := ab d; omega
  · omega
theorem M153_34 {sh : zSh} {m : Nat} (M : wMd sh m) {r k : Int} (hr : 0 ≤ r ∧ r ≤ 13) (hk : 0 ≤ k ∧ k ≤ 6) (L : List Int) (hL : L.length ≤ 1499) : ∀ (n : Nat) (V : wSt) (Q : Nat → List Int × Int) (j : Int), (((cutQ L k.toNat).1.length : Int) - j).toNat = n → 0 ≤ j → j ≤ (cutQ L k.toNat).1.length → mSz sh V m → mK sh V m r L → lK sh V m Q → (Q k.toNat).1 = (cutQ L k.toNat).1.take j.toNat → ∃ V', wev zP 153 34 [some (wR m), some (wI k), some (wI r), some (wI j)] [] (sh, V) = rN (sh, V') ∧ FrO (lyO sh m) V V' ∧ lK sh V' m (pup Q k.toNat ((cutQ L k.toNat).1, (Q k.toNat).2)) := by
  have cl := cutQ_le L k.toNat (by omega)
  intro n
  induction n with
  | zero =>
    intro V Q j hn hj hj2 S K lq hq
    refine ⟨V, ?_, FrO.refl, lq.cg (fun i hi => ?_)⟩
    · rw [w153_34, M135q K (by omega) hr hk]
      simp only [wcx_v, wput_s, w153_41]
      rw [if_pos (by omega)]
    · unfold pup
      by_cases c : i = k.toNat
      · rw [if_pos c, c]
        refine Prod.ext ?_ rfl
        rw [hq, List.take_of_length_le (by omega)]
      · rw [if_neg c]
  | succ n ih =>
    intro V Q j hn hj hj2 S K lq hq
    obtain ⟨V1, e1, f1, l1⟩ := M152q M lq hk (gl (cutQ L k.toNat).1 j) (by rw [hq, List.length_take]; omega)
    have f1' := lyO_9 f1
    obtain ⟨V2, e2, f2, l2⟩ := ih V1 _ (j + 1) (by omega) (by omega) (by omega) (mSz_fr M S f1') (mK_fr M K f1') l1 (by rw [pup_at]; show (Q k.toNat).1 ++ [gl (cutQ L k.toNat).1 j] = _; rw [hq, take_gl hj (by omega)])
    rw [pup_pup, pup_at] at l2
    refine ⟨V2, ?_, f1'.trans f2, l2⟩
    rw [w153_34, M135q K (by omega) hr hk]
    simp only [wcx_v, wput_s, w153_41]
    rw [if_neg (by omega), M136q S K (by omega) hr hk j (by omega)]
    simp only [wcx_v, wput_s, w153_53]
    rw [e1]
    simp only [wcx_v, wput_n, w153_56]
    rw [wr_eq (by omega) (by omega), e2]
theorem M153q {sh : zSh} {V : wSt} {m : Nat} (M : wMd sh m) (S : mSz sh V m) {r k : Int} (hr : 0 ≤ r ∧ r ≤ 13) (hk : 0 ≤ k ∧ k ≤ 6) {L : List Int} (hL : L.length ≤ 1499) (K : mK sh V m r L) {Q : Nat → List Int × Int} (lq : lK sh V m Q) : ∃ V', wcl zP 153 [wR m, wI k, wI r] (sh, V) = rN (sh, V') ∧ FrO (lyO sh m) V V' ∧ lK sh V' m (pup Q k.toNat (cutQ L k.toNat)) := by
  have go : ∀ th : Int, th = (cutQ L k.toNat).2 → wi8 th = th → ∃ V', wev zP 153 34 [some (wR m), some (wI k), some (wI r), some (wI 0)] [] (sh, uI (uI V (sr sh m 11) (Int.toNat k) (wi8 th)) (sr sh m 10) (Int.toNat k) 0) = rN (sh, V') ∧ FrO (lyO sh m) V V' ∧ lK sh V' m (pup Q k.toNat (cutQ L k.toNat)) := fun th h1 h2 => by
    obtain ⟨f, l⟩ := M_reset M k.toNat th (fun j hj _ => lq j hj) h2
    obtain ⟨V2, e2, f2, l2⟩ := M153_34 M hr hk L hL _ _ _ 0 rfl (by decide) (Int.natCast_nonneg _) (mSz_fr M S f) (mK_fr M K f) l (by rw [pup_at]; rfl)
    rw [pup_pup, pup_at] at l2
    refine ⟨V2, e2, f.trans f2, l2.cg (fun i _ => ?_)⟩
    unfold pup; rw [h1]
  have w0 : wi8 0 = 0 := by decide
  have w1 : wi8 1 = 1 := by decide
  rw [w153_0]
  by_cases c : k = 4
  · rw [if_pos c]
    exact go 1 (by rw [c]; exact (cutQ4 L).symm) w1
  · rw [if_neg c, M134q K hr hk]
    simp only [wcx_v, wput_s, w153_16]
    rcases (cutQ_l L k.toNat (by omega)).2.1 with e | e
    · rw [e, if_pos rfl]; exact go 0 e.symm w0
    · rw [e, if_neg (by decide)]; exact go 1 e.symm w1
theorem M154q {sh : zSh} {V : wSt} {m : Nat} (M : wMd sh m) (S : mSz sh V m) {r : Int} (hr : 0 ≤ r ∧ r ≤ 13) {L : List Int} (hL : L.length ≤ 1499) (K : mK sh V m r L) {Q : Nat → List Int × Int} (lq : lK sh V m Q) : ∃ V', wcl zP 154 [wR m, wI r] (sh, V) = rN (sh, V') ∧ FrO (lyO sh m) V V' ∧ lK sh V' m (fun k => if k = 1 ∨ k = 2 ∨ k = 3 then cutQ L k else Q k) := by
  obtain ⟨V1, e1, f1, l1⟩ := M153q M S hr (k := 1) (by decide) hL K lq
  obtain ⟨V2, e2, f2, l2⟩ := M153q M (mSz_fr M S f1) hr (k := 2) (by decide) hL (mK_fr M K f1) l1
  have f12 := f1.trans f2
  obtain ⟨V3, e3, f3, l3⟩ := M153q M (mSz_fr M S f12) hr (k := 3) (by decide) hL (mK_fr M K f12) l2
  refine ⟨V3, ?_, f12.trans f3, l3.cg (fun k hk => ?_)⟩
  · rw [w154_0, e1]; simp only [wcx_v, wput_n, w154_6]
    rw [e2]; simp only [wcx_v, wput_n, w154_12]
    rw [e3]; simp only [wcx_v, wput_n, w154_18]
  · show pup (pup (pup Q 1 (cutQ L 1)) 2 (cutQ L 2)) 3 (cutQ L 3) k = _
    unfold pup
    by_cases c3 : k = 3
    · rw [if_pos c3, if_pos (by omega), c3]
    · rw [if_neg c3]
      by_cases c2 : k = 2
      · rw [if_pos c2, if_pos (by omega), c2]
      · rw [if_neg c2]
        by_cases c1 : k = 1
        · rw [if_pos c1, if_pos (by omega), c1]
        · rw [if_neg c1, if_neg (by omega)]
theorem M155_2 {sh : zSh} {m : Nat} (M : wMd sh m) : ∀ (n : Nat) (V : wSt) (x : Int), (7 - x).toNat = n → 0 ≤ x → (∀ k : Nat, k < 7 → (k : Int) < x → (0 ≤ V (sr sh m 10) k ∧ V (sr sh m 10) k ≤ 1500) ∧ (ly sh V m k, V (sr sh m 11) k) = pNo k) → ∃ V', wev zP 155 2 [some (wR m), some (wI x)] [] (sh, V) = rN (sh, V') ∧ FrO (lyO sh m) V V' ∧ lK sh V' m pNo := by
  intro n
  induction n with
  | zero => intro V x hn hx h; exact ⟨V, by rw [w155_2, if_pos (by omega)], FrO.refl, fun k hk => h k hk (by omega)⟩
  | succ n ih =>
    intro V x hn hx h
    -- one part is emptied
    have one : ∀ th : Int, pNo x.toNat = ([], th) → wi8 th = th → ∃ V', wev zP 155 2 [some (wR m), some (wI (wr (x + 1)))] [] (sh, uI (uI V (sr sh m 11) (Int.toNat x) (wi8 th)) (sr sh m 10) (Int.toNat x) 0) = rN (sh, V') ∧ FrO (lyO sh m) V V' ∧ lK sh V' m pNo := fun th h1 h2 => by
      have n910 : sr sh m 9 ≠ sr sh m 10 := M.n (by decide) (by decide) (by decide)
      have n911 : sr sh m 11 ≠ sr sh m 9 := M.n (by decide) (by decide) (by decide)
      have n1011 : sr sh m 11 ≠ sr sh m 10 := M.n (by decide) (by decide) (by decide)
      obtain ⟨W, hW⟩ : ∃ W, W = uI (uI V (sr sh m 11) (Int.toNat x) (wi8 th)) (sr sh m 10) (Int.toNat x) 0 := ⟨_, rfl⟩
      have f : FrO (lyO sh m) V W := by
        rw [hW]; unfold lyO
        exact (uI_fr (List.mem_cons_of_mem _ (List.mem_cons_of_mem _ (List.mem_cons_self)))).trans (uI_fr (List.mem_cons_of_mem _ (List.mem_cons_self)))
      have w10 : ∀ j, W (sr sh m 10) j = if j = x.toNat then 0 else V (sr sh m 10) j := fun j => by
        rw [hW]; unfold uI
        by_cases d : j = x.toNat
        · rw [if_pos ⟨rfl, d⟩, if_pos d]
        · rw [if_neg (fun c => d c.2), if_neg (fun c => n1011 c.1.symm), if_neg d]
      have w11 : ∀ j, W (sr sh m 11) j = if j = x.toNat then th else V (sr sh m 11) j := fun j => by
        rw [hW]; unfold uI
        rw [if_neg (fun c => n1011 c.1)]
        by_cases d : j = x.toNat
        · rw [if_pos ⟨rfl, d⟩, if_pos d, h2]
        · rw [if_neg (fun c => d c.2), if_neg d]
      have w9 : W (sr sh m 9) = V (sr sh m 9) := by
        funext j; rw [hW]; unfold uI; rw [if_neg (fun c => n910 c.1), if_neg (fun c => n911 c.1.symm)]
      rw [← hW, wr_eq (by omega) (by omega)]
      obtain ⟨V2, e2, f2, l2⟩ := ih W (x + 1) (by omega) (by omega) (fun k hk hkx => by
        unfold ly
        rw [w10, w11, w9]
        by_cases d : k = x.toNat
        · rw [if_pos d, if_pos d, d, h1]; exact ⟨by decide, rfl⟩
        · rw [if_neg d, if_neg d]; exact h k hk (by omega))
      exact ⟨V2, e2, f.trans f2, l2⟩
    rw [w155_2, if_neg (by omega)]
    by_cases c : x = 4
    · rw [if_pos c]; exact one 1 (by rw [c]; rfl) (by decide)
    · rw [if_neg c]; exact one 0 (by unfold pNo; rw [if_neg (by omega)]) (by decide)
theorem M155q {sh : zSh} {V : wSt} {m : Nat} (M : wMd sh m) : ∃ V', wcl zP 155 [wR m] (sh, V) = rN (sh, V') ∧ FrO (lyO sh m) V V' ∧ lK sh V' m pNo := by
  rw [w155_0]
  exact M155_2 M _ V 0 rfl (by decide) (fun k _ h => absurd h (by omega))
