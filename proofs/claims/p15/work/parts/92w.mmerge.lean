set_option maxRecDepth 16384
/-! the model: two paths merged -/
theorem M174_5 {sh : zSh} {V : wSt} {m : Nat} (S : mSz sh V m) {b r : Int} (hb : 0 ≤ b ∧ b ≤ 13) {B : List Int} (hB : B.length ≤ 1499) (KB : mK sh V m b B) : ∀ (n : Nat) (j x3 : Int), (((cutQ B 4).1.length : Int) - j).toNat = n → 0 ≤ j → j ≤ (cutQ B 4).1.length → x3 = fli (gl (cutQ B 4).1) 47 0 (j - 1) → wev zP 174 5 [some (wR m), some (wI b), some (wI r), some (wI x3), some (wI j)] [] (sh, V) = wev zP 174 59 [some (wR m), some (wI b), some (wI r), some (wI (fli (gl (cutQ B 4).1) 47 0 ((cutQ B 4).1.length - 1))), some (wI 0)] [] (sh, uI (uI V (sr sh m 11) 4 (wi8 1)) (sr sh m 10) 4 0) := by
  have cl := cutQ_le B 4 (by decide)
  have len : wcl zP 135 [wR m, wI b, wI 4] (sh, V) = rI ((cutQ B 4).1.length : Int) (sh, V) := M135q (p := 4) KB (by omega) hb (by decide)
  intro n
  induction n with
  | zero =>
    intro j x3 hn hj hj2 h3
    have e : j = (cutQ B 4).1.length := by omega
    rw [w174_5, len]
    simp only [wcx_v, wput_s, w174_13]
    rw [if_pos (by omega), h3, e]; rfl
  | succ n ih =>
    intro j x3 hn hj hj2 h3
    have g : wcl zP 136 [wR m, wI b, wI 4, wI j] (sh, V) = rI (gl (cutQ B 4).1 j) (sh, V) := M136q (p := 4) S KB (by omega) hb (by decide) j (by omega)
    have st := (fli_st (gl (cutQ B 4).1) 47 0 j).2 hj
    rw [w174_5, len]
    simp only [wcx_v, wput_s, w174_13]
    rw [if_neg (by omega), g]
    simp only [wcx_v, wput_s, w174_24]
    rw [wr_eq (by omega) (by omega)]
    by_cases c : gl (cutQ B 4).1 j = 47
    · rw [if_pos c, ih (j + 1) j (by omega) (by omega) (by omega) (by rw [show j + 1 - 1 = j by omega, st.1 c])]
    · rw [if_neg c, ih (j + 1) x3 (by omega) (by omega) (by omega) (by rw [show j + 1 - 1 = j by omega, st.2 c, h3, show j + -1 = j - 1 by omega])]
theorem M174_59 {sh : zSh} {m : Nat} (M : wMd sh m) {b r F : Int} (hb : 0 ≤ b ∧ b ≤ 13) {B : List Int} (hB : B.length ≤ 1499) (hF : -1 ≤ F ∧ F < (cutQ B 4).1.length) : ∀ (n : Nat) (V : wSt) (Q : Nat → List Int × Int) (j : Int), (F + 1 - j).toNat = n → 0 ≤ j → j ≤ F + 1 → ((Q 4).1.length : Int) = j → mSz sh V m → mK sh V m b B → lK sh V m Q → ∃ V', wev zP 174 59 [some (wR m), some (wI b), some (wI r), some (wI F), some (wI j)] [] (sh, V) = wev zP 174 107 [some (wR m), some (wI b), some (wI r), some (wI F), some (wI 0)] [] (sh, V') ∧ FrO (lyO sh m) V V' ∧ lK sh V' m (pup Q 4 ((Q 4).1 ++ (sub (cutQ B 4).1 j (F + 1) ++ (if F + 1 = 0 ∧ (cutQ B 2).2 ≠ 0 then [47] else [])), (Q 4).2)) := by
  have cl := cutQ_le B 4 (by decide)
  intro n
  induction n with
  | zero =>
    intro V Q j hn hj hj2 hq S KB K
    have sb : sub (cutQ B 4).1 j (F + 1) = [] := by unfold sub; rw [hn, List.take_zero]
    have same : ¬ (F + 1 = 0 ∧ (cutQ B 2).2 ≠ 0) → lK sh V m (pup Q 4 ((Q 4).1 ++ (sub (cutQ B 4).1 j (F + 1) ++ (if F + 1 = 0 ∧ (cutQ B 2).2 ≠ 0 then [47] else [])), (Q 4).2)) := fun c => K.cg (fun k hk => by
      rw [sb, if_neg c]
      unfold pup
      by_cases d : k = 4
      · rw [if_pos d, d, List.append_nil, List.append_nil]
      · rw [if_neg d])
    rw [w174_59, if_pos (by omega)]
    by_cases c : 0 ≤ F
    · rw [if_pos c, w174_104]; exact ⟨V, rfl, FrO.refl, same (fun w => by omega)⟩
    · have h2 : wcl zP 134 [wR m, wI b, wI 2] (sh, V) = rI (cutQ B 2).2 (sh, V) := M134q (p := 2) KB hb (by decide)
      rw [if_neg c, h2]
      simp only [wcx_v, wput_s, w174_94]
      by_cases d : (cutQ B 2).2 = 0
      · rw [if_pos d, w174_104]; exact ⟨V, rfl, FrO.refl, same (fun w => w.2 d)⟩
      · rw [if_neg d]
        obtain ⟨V1, e1, f1, l1⟩ := M152q M K (k := 4) (by decide) 47 (by show (Q 4).1.length < 1500; omega)
        refine ⟨V1, ?_, lyO_9 f1, l1.cg (fun k _ => ?_)⟩
        · rw [e1]; simp only [wcx_v, wput_n, w174_104]
        · show pup Q 4 ((Q 4).1 ++ [47], (Q 4).2) k = _
          rw [sb, if_pos ⟨by omega, d⟩, List.nil_append]
  | succ n ih =>
    intro V Q j hn hj hj2 hq S KB K
    have g : wcl zP 136 [wR m, wI b, wI 4, wI j] (sh, V) = rI (gl (cutQ B 4).1 j) (sh, V) := M136q (p := 4) S KB (by omega) hb (by decide) j (by omega)
    obtain ⟨V1, e1, f1, l1⟩ := M152q M K (k := 4) (by decide) (gl (cutQ B 4).1 j) (by show (Q 4).1.length < 1500; omega)
    have f1' := lyO_9 f1
    have l1' : lK sh V1 m (pup Q 4 ((Q 4).1 ++ [gl (cutQ B 4).1 j], (Q 4).2)) := l1
    obtain ⟨V2, e2, f2, l2⟩ := ih V1 _ (j + 1) (by omega) (by omega) (by omega) (by rw [pup_at]; show (((Q 4).1 ++ [gl (cutQ B 4).1 j]).length : Int) = j + 1; rw [List.length_append, List.length_singleton]; omega) (mSz_fr M S f1') (mK_fr M KB f1') l1'
    rw [pup_pup, pup_at] at l2
    refine ⟨V2, ?_, f1'.trans f2, l2.cg (fun k _ => ?_)⟩
    · rw [w174_59, if_neg (by omega), g]
      simp only [wcx_v, wput_s, w174_75]
      rw [e1]
      simp only [wcx_v, wput_n, w174_78]
      rw [wr_eq (by omega) (by omega), e2]
    · have sc : sub (cutQ B 4).1 j (F + 1) = gl (cutQ B 4).1 j :: sub (cutQ B 4).1 (j + 1) (F + 1) := by
        unfold sub
        rw [drop_gl (L := (cutQ B 4).1) hj (by omega), show (F + 1 - j).toNat = (F + 1 - (j + 1)).toNat + 1 by omega, List.take_succ_cons]
      show pup Q 4 (((Q 4).1 ++ [gl (cutQ B 4).1 j]) ++ (sub (cutQ B 4).1 (j + 1) (F + 1) ++ (if F + 1 = 0 ∧ (cutQ B 2).2 ≠ 0 then [47] else [])), (Q 4).2) k = _
      rw [sc, List.append_assoc, List.singleton_append, List.cons_append]
theorem M174_107 {sh : zSh} {m : Nat} (M : wMd sh m) {b r F : Int} (hr : 0 ≤ r ∧ r ≤ 13) {R : List Int} (hR : R.length ≤ 1499) : ∀ (n : Nat) (V : wSt) (Q : Nat → List Int × Int) (j : Int), (((cutQ R 4).1.length : Int) - j).toNat = n → 0 ≤ j → j ≤ (cutQ R 4).1.length → (Q 4).1.length + n ≤ 1490 → mSz sh V m → mK sh V m r R → lK sh V m Q → ∃ V', wev zP 174 107 [some (wR m), some (wI b), some (wI r), some (wI F), some (wI j)] [] (sh, V) = rN (sh, V') ∧ FrO (lyO sh m) V V' ∧ lK sh V' m (pup Q 4 ((Q 4).1 ++ (cutQ R 4).1.drop j.toNat, (Q 4).2)) := by
  have cl := cutQ_le R 4 (by decide)
  intro n
  induction n with
  | zero =>
    intro V Q j hn hj hj2 hq S KR K
    have len : wcl zP 135 [wR m, wI r, wI 4] (sh, V) = rI ((cutQ R 4).1.length : Int) (sh, V) := M135q (p := 4) KR (by omega) hr (by decide)
    refine ⟨V, ?_, FrO.refl, K.cg (fun k _ => ?_)⟩
    · rw [w174_107, len]
      simp only [wcx_v, wput_s, w174_115]
      rw [if_pos (by omega)]
    · rw [List.drop_of_length_le (by omega), List.append_nil]
      unfold pup
      by_cases d : k = 4
      · rw [if_pos d, d]
      · rw [if_neg d]
  | succ n ih =>
    intro V Q j hn hj hj2 hq S KR K
    have len : wcl zP 135 [wR m, wI r, wI 4] (sh, V) = rI ((cutQ R 4).1.length : Int) (sh, V) := M135q (p := 4) KR (by omega) hr (by decide)
    have g : wcl zP 136 [wR m, wI r, wI 4, wI j] (sh, V) = rI (gl (cutQ R 4).1 j) (sh, V) := M136q (p := 4) S KR (by omega) hr (by decide) j (by omega)
    obtain ⟨V1, e1, f1, l1⟩ := M152q M K (k := 4) (by decide) (gl (cutQ R 4).1 j) (by show (Q 4).1.length < 1500; omega)
    have f1' := lyO_9 f1
    have l1' : lK sh V1 m (pup Q 4 ((Q 4).1 ++ [gl (cutQ R 4).1 j], (Q 4).2)) := l1
    obtain ⟨V2, e2, f2, l2⟩ := ih V1 _ (j + 1) (by omega) (by omega) (by omega) (by rw [pup_at]; show ((Q 4).1 ++ [gl (cutQ R 4).1 j]).length + n ≤ 1490; rw [List.length_append, List.length_singleton]; omega) (mSz_fr M S f1') (mK_fr M KR f1') l1'
    rw [pup_pup, pup_at] at l2
    refine ⟨V2, ?_, f1'.trans f2, l2.cg (fun k _ => ?_)⟩
    · rw [w174_107, len]
      simp only [wcx_v, wput_s, w174_115]
      rw [if_neg (by omega), g]
      simp only [wcx_v, wput_s, w174_128]
      rw [e1]
      simp only [wcx_v, wput_n, w174_131]
      rw [wr_eq (by omega) (by omega), e2]
    · show pup Q 4 (((Q 4).1 ++ [gl (cutQ R 4).1 j]) ++ (cutQ R 4).1.drop (j + 1).toNat, (Q 4).2) k = _
      rw [drop_gl (L := (cutQ R 4).1) hj (by omega), List.append_assoc, List.singleton_append]
theorem M174q {sh : zSh} {V : wSt} {m : Nat} (M : wMd sh m) (S : mSz sh V m) {b r : Int} (hb : 0 ≤ b ∧ b ≤ 13) (hr : 0 ≤ r ∧ r ≤ 13) {B R : List Int} (hB : B.length ≤ 700) (hR : R.length ≤ 700) (KB : mK sh V m b B) (KR : mK sh V m r R) {Q : Nat → List Int × Int} (K : lK6 sh V m Q) : ∃ V', wcl zP 174 [wR m, wI b, wI r] (sh, V) = rN (sh, V') ∧ FrO (lyO sh m) V V' ∧ lK sh V' m (pup Q 4 (mrg (cutQ B) (cutQ R 4).1, 1)) := by
  have cb := cutQ_le B 4 (by decide)
  have cr := cutQ_le R 4 (by decide)
  obtain ⟨F, hF⟩ : ∃ F, F = fli (gl (cutQ B 4).1) 47 0 ((cutQ B 4).1.length - 1) := ⟨_, rfl⟩
  have fr := fli_r2 (gl (cutQ B 4).1) 47 0 _ ((cutQ B 4).1.length - 1) rfl
  rw [← hF] at fr
  have s5 := M174_5 (r := r) S hb (by omega) KB _ 0 (-1) rfl (by decide) (by omega) (by rw [(fli_st _ _ _ _).1 (by decide)])
  rw [← hF] at s5
  obtain ⟨f0, l0⟩ := M_reset M 4 1 (fun j hj n => K j hj n) (by decide)
  obtain ⟨V1, e1, f1, l1⟩ := M174_59 (r := r) M hb (B := B) (by omega) (F := F) (by omega) _ _ _ 0 rfl (by decide) (by omega) (by rw [pup_at]; rfl) (mSz_fr M S f0) (mK_fr M KB f0) l0
  rw [pup_pup, pup_at] at l1
  have f01 := f0.trans f1
  obtain ⟨V2, e2, f2, l2⟩ := M174_107 (b := b) (F := F) M hr (R := R) (by omega) _ V1 _ 0 rfl (by decide) (by omega) (by
    rw [pup_at]
    show (([] : List Int) ++ (sub (cutQ B 4).1 0 (F + 1) ++ (if F + 1 = 0 ∧ (cutQ B 2).2 ≠ 0 then [47] else []))).length + _ ≤ 1490
    have := sub_le (cutQ B 4).1 0 (F + 1)
    rw [List.length_append, List.length_append, List.length_nil]
    split <;> simp only [List.length_cons, List.length_nil] <;> omega) (mSz_fr M S f01) (mK_fr M KR f01) l1
  rw [pup_pup, pup_at] at l2
  refine ⟨V2, by rw [w174_0, s5, e1, e2], f01.trans f2, l2.cg (fun k _ => ?_)⟩
  show pup Q 4 ((([] : List Int) ++ (sub (cutQ B 4).1 0 (F + 1) ++ (if F + 1 = 0 ∧ (cutQ B 2).2 ≠ 0 then [47] else []))) ++ (cutQ R 4).1.drop (0 : Int).toNat, 1) k = pup Q 4 (mrg (cutQ B) (cutQ R 4).1, 1) k
  unfold mrg
  rw [← hF, show (0 : Int).toNat = 0 from rfl, List.drop_zero, List.nil_append, List.append_assoc, show sub (cutQ B 4).1 0 (F + 1) = (cutQ B 4).1.take (F + 1).toNat by unfold sub; rw [show (0 : Int).toNat = 0 from rfl, List.drop_zero, Int.sub_zero]]
