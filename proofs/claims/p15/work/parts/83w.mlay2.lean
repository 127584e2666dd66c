set_option maxRecDepth 16384
/-! the model: what is laid -/
def ly (sh : zSh) (V : wSt) (m k : Nat) : List Int := (List.range (V (sr sh m 10) k).toNat).map (fun j => V (sr sh m 9) (1500 * k + j))
theorem ly_g (sh : zSh) (V : wSt) (m k j : Nat) : (ly sh V m k)[j]? = if j < (V (sr sh m 10) k).toNat then some (V (sr sh m 9) (1500 * k + j)) else none := by
  unfold ly; rw [List.getElem?_map]
  by_cases c : j < (V (sr sh m 10) k).toNat
  · rw [if_pos c, List.getElem?_range c]; rfl
  · rw [if_neg c, List.getElem?_eq_none (by rw [List.length_range]; omega)]; rfl
theorem ly_len (sh : zSh) (V : wSt) (m k : Nat) : (ly sh V m k).length = (V (sr sh m 10) k).toNat := by unfold ly; rw [List.length_map, List.length_range]
/-- what is laid, part by part -/
def lK (sh : zSh) (V : wSt) (m : Nat) (Q : Nat → List Int × Int) : Prop := ∀ k, k < 7 → (0 ≤ V (sr sh m 10) k ∧ V (sr sh m 10) k ≤ 1500) ∧ (ly sh V m k, V (sr sh m 11) k) = Q k
theorem lK.sz {sh : zSh} {V : wSt} {m : Nat} {Q : Nat → List Int × Int} (K : lK sh V m Q) {k : Nat} (hk : k < 7) : V (sr sh m 10) k = ((Q k).1.length : Int) := by
  have g := K k hk
  rw [← g.2, ly_len]; omega
theorem lK.th {sh : zSh} {V : wSt} {m : Nat} {Q : Nat → List Int × Int} (K : lK sh V m Q) {k : Nat} (hk : k < 7) : V (sr sh m 11) k = (Q k).2 := by rw [← (K k hk).2]
theorem lK.cg {sh : zSh} {V : wSt} {m : Nat} {Q Q' : Nat → List Int × Int} (K : lK sh V m Q) (e : ∀ k, k < 7 → Q k = Q' k) : lK sh V m Q' := fun k hk => ⟨(K k hk).1, (K k hk).2.trans (e k hk)⟩
theorem lK.gl {sh : zSh} {V : wSt} {m : Nat} {Q : Nat → List Int × Int} (K : lK sh V m Q) {k : Nat} (hk : k < 7) (j : Int) : Jvm.Pilot.CLinkLibraryLaw_law_r7063_89e837.gl (Q k).1 j = if 0 ≤ j ∧ j < ((Q k).1.length : Int) then V (sr sh m 9) (1500 * k + j.toNat) else -1 := by
  by_cases c : 0 ≤ j ∧ j < ((Q k).1.length : Int)
  · have s := K.sz hk
    have l : (Q k).1 = ly sh V m k := by rw [← (K k hk).2]
    rw [if_pos c, gl_in c.1 c.2, l, List.getD_eq_getElem?_getD, ly_g, if_pos (by omega)]; rfl
  · rw [if_neg c]; exact gl_out (by omega)
theorem lK_fr {sh : zSh} {V V' : wSt} {m : Nat} {Q : Nat → List Int × Int} (K : lK sh V m Q) (e9 : V' (sr sh m 9) = V (sr sh m 9)) (e10 : V' (sr sh m 10) = V (sr sh m 10)) (e11 : V' (sr sh m 11) = V (sr sh m 11)) : lK sh V' m Q := fun k hk => by
  have g := K k hk
  unfold ly at g ⊢
  rw [e9, e10, e11]; exact g
theorem M152q {sh : zSh} {V : wSt} {m : Nat} (M : wMd sh m) {Q : Nat → List Int × Int} (K : lK sh V m Q) {k : Int} (hk : 0 ≤ k ∧ k ≤ 6) (x : Int) (hs : (Q k.toNat).1.length < 1500) : ∃ V', wcl zP 152 [wR m, wI k, wI x] (sh, V) = rN (sh, V') ∧ FrO [sr sh m 9, sr sh m 10] V V' ∧ lK sh V' m (pup Q k.toNat ((Q k.toNat).1 ++ [x], (Q k.toNat).2)) := by
  have n910 : sr sh m 9 ≠ sr sh m 10 := M.n (by decide) (by decide) (by decide)
  have n911 : sr sh m 11 ≠ sr sh m 9 := M.n (by decide) (by decide) (by decide)
  have n1011 : sr sh m 11 ≠ sr sh m 10 := M.n (by decide) (by decide) (by decide)
  have sz := K.sz (k := k.toNat) (by omega)
  have q := K k.toNat (by omega)
  rw [w152_0, wr_eq (x := 1500 * k) (by omega) (by omega), wr_eq (x := 1500 * k + _) (by omega) (by omega)]
  have e1 : uI V (sr sh m 9) (Int.toNat (1500 * k + V (sr sh m 10) k.toNat)) x (sr sh m 10) (Int.toNat k) = V (sr sh m 10) k.toNat := by unfold uI; rw [if_neg (fun c => n910 c.1.symm)]
  rw [e1, wr_eq (by omega) (by omega)]
  obtain ⟨W, hW⟩ : ∃ W, W = uI (uI V (sr sh m 9) (Int.toNat (1500 * k + V (sr sh m 10) k.toNat)) x) (sr sh m 10) (Int.toNat k) (V (sr sh m 10) k.toNat + 1) := ⟨_, rfl⟩
  rw [← hW]
  have w10 : ∀ j, W (sr sh m 10) j = if j = k.toNat then V (sr sh m 10) k.toNat + 1 else V (sr sh m 10) j := fun j => by
    rw [hW]; unfold uI
    by_cases d : j = k.toNat
    · rw [if_pos ⟨rfl, d⟩, if_pos d]
    · rw [if_neg (fun c => d c.2), if_neg (fun c => n910 c.1.symm), if_neg d]
  have w9 : ∀ j, W (sr sh m 9) j = if j = 1500 * k.toNat + (V (sr sh m 10) k.toNat).toNat then x else V (sr sh m 9) j := fun j => by
    rw [hW]; unfold uI
    rw [if_neg (fun c => n910 c.1)]
    by_cases d : j = 1500 * k.toNat + (V (sr sh m 10) k.toNat).toNat
    · rw [if_pos ⟨rfl, by omega⟩, if_pos d]
    · rw [if_neg (fun c => d (by have := c.2; omega)), if_neg d]
  have w11 : W (sr sh m 11) = V (sr sh m 11) := by
    funext j; rw [hW]; unfold uI; rw [if_neg (fun c => n1011 c.1), if_neg (fun c => n911 c.1)]
  refine ⟨W, rfl, by rw [hW]; exact (uI_fr (List.mem_cons_self)).trans (uI_fr (List.mem_cons_of_mem _ (List.mem_cons_self))), fun j hj => ?_⟩
  have qj := K j hj
  have sj := K.sz hj
  by_cases d : j = k.toNat
  · refine ⟨by rw [w10, if_pos d]; omega, ?_⟩
    unfold pup
    rw [if_pos d, w11, d]
    refine Prod.ext ?_ (K.th (by omega))
    refine List.ext_getElem? (fun i => ?_)
    show (ly sh W m k.toNat)[i]? = ((Q k.toNat).1 ++ [x])[i]?
    rw [ly_g, w10, if_pos rfl, w9, List.getElem?_append, ← q.2]
    show _ = if i < (ly sh V m k.toNat).length then (ly sh V m k.toNat)[i]? else [x][i - (ly sh V m k.toNat).length]?
    rw [ly_len, ly_g]
    by_cases c : i < (V (sr sh m 10) k.toNat).toNat
    · rw [if_pos (by omega), if_neg (by omega), if_pos c, if_pos c]
    · by_cases c2 : i = (V (sr sh m 10) k.toNat).toNat
      · rw [if_pos (by omega), if_pos (by omega), if_neg c, c2, Nat.sub_self]; rfl
      · rw [if_neg (by omega), if_neg c, List.getElem?_eq_none (by simp only [List.length_cons, List.length_nil]; omega)]
  · refine ⟨by rw [w10, if_neg d]; exact qj.1, ?_⟩
    unfold pup
    rw [if_neg d, w11, ← qj.2]
    refine Prod.ext ?_ rfl
    refine List.ext_getElem? (fun i => ?_)
    show (ly sh W m j)[i]? = (ly sh V m j)[i]?
    rw [ly_g, ly_g, w10, if_neg d]
    by_cases c : i < (V (sr sh m 10) j).toNat
    · rw [if_pos c, if_pos c, w9, if_neg (by omega)]
    · rw [if_neg c, if_neg c]
theorem cutQ4 (L : List Int) : (cutQ L 4).2 = 1 := by
  have c := cutQ_l L 4 (by decide)
  rcases c.2.1 with e | e
  · have z := c.2.2.mp e
    have p0 := kP_nn (gl L) L.length (Int.natCast_nonneg _)
    have rH : 0 ≤ kH (gl L) L.length ∧ kH (gl L) L.length ≤ L.length := (cfn_r (gl L) 35 0 L.length).1 (Int.natCast_nonneg _)
    have rQ : 0 ≤ kQ (gl L) L.length ∧ kQ (gl L) L.length ≤ kH (gl L) L.length := (cfn_r (gl L) 63 0 (kH (gl L) L.length)).1 rH.1
    have za := zBEa (gl L) L.length
    have o1 : kO (gl L) L.length = 0 ∨ kO (gl L) L.length = 1 := by unfold kO; split <;> omega
    rcases o1 with o | o
    · obtain ⟨-, -, -, -, -, -, y7⟩ := za.2.2 o
      rw [y7] at z; omega
    · obtain ⟨-, -, -, -, -, -, y7⟩ := za.2.1 o
      have hO : kP (gl L) L.length + 2 ≤ kQ (gl L) L.length := by
        unfold kO at o
        by_cases c : kP (gl L) L.length + 2 ≤ kQ (gl L) L.length ∧ gl L (kP (gl L) L.length) = 47 ∧ gl L (kP (gl L) L.length + 1) = 47
        · exact c.1
        · rw [if_neg c] at o; cases o
      have hA : kP (gl L) L.length + 2 ≤ kA (gl L) L.length ∧ kA (gl L) L.length ≤ kQ (gl L) L.length := (cfn_r (gl L) 47 (kP (gl L) L.length + 2) (kQ (gl L) L.length)).1 hO
      rw [y7] at z; omega
  · exact e
/-- the arrays of what is laid -/
def lyO (sh : zSh) (m : Nat) : List Nat := [sr sh m 9, sr sh m 10, sr sh m 11]
theorem lyO_n {sh : zSh} {m j : Nat} (M : wMd sh m) (hj : j ∈ zARw) (n9 : j ≠ 9) (n10 : j ≠ 10) (n11 : j ≠ 11) : sr sh m j ∉ lyO sh m := fun w => by
  unfold lyO at w
  simp only [List.mem_cons, List.not_mem_nil, or_false] at w
  rcases w with w | w | w
  · exact M.n hj (by decide) n9 w
  · exact M.n hj (by decide) n10 w
  · exact M.n hj (by decide) n11 w
theorem mK_fr {sh : zSh} {V V' : wSt} {m : Nat} {r : Int} {L : List Int} (M : wMd sh m) (K : mK sh V m r L) (f : FrO (lyO sh m) V V') : mK sh V' m r L := by
  have e1 := f _ (lyO_n M (j := 1) (by decide) (by decide) (by decide) (by decide))
  have e2 := f _ (lyO_n M (j := 2) (by decide) (by decide) (by decide) (by decide))
  have e3 := f _ (lyO_n M (j := 3) (by decide) (by decide) (by decide) (by decide))
  have e4 := f _ (lyO_n M (j := 4) (by decide) (by decide) (by decide) (by decide))
  unfold mK mx mB mE at *
  rw [e1, e2, e3, e4]; exact K
theorem mSz_fr {sh : zSh} {V V' : wSt} {m : Nat} (M : wMd sh m) (S : mSz sh V m) (f : FrO (lyO sh m) V V') : mSz sh V' m := by
  have e2 := f _ (lyO_n M (j := 2) (by decide) (by decide) (by decide) (by decide))
  unfold mSz at *
  rw [e2]; exact S
