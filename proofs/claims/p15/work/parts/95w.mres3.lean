set_option maxRecDepth 16384
/-! the model: resolving, whole -/
/-- the texts of rows and the fields stay -/
def mSame (sh : zSh) (m : Nat) (V V' : wSt) : Prop := V' (sr sh m 1) = V (sr sh m 1) ∧ V' (sr sh m 2) = V (sr sh m 2) ∧ V' (sr sh m 8) = V (sr sh m 8) ∧ V' m = V m
theorem mSame.mx {sh : zSh} {m : Nat} {V V' : wSt} (h : mSame sh m V V') (r : Int) : Jvm.Pilot.CLinkLibraryLaw_law_r7063_89e837.mx sh V' m r = Jvm.Pilot.CLinkLibraryLaw_law_r7063_89e837.mx sh V m r := by
  unfold Jvm.Pilot.CLinkLibraryLaw_law_r7063_89e837.mx; rw [h.1, h.2.1]
theorem mSame.trans {sh : zSh} {m : Nat} {V V' W : wSt} (h : mSame sh m V V') (g : mSame sh m V' W) : mSame sh m V W := ⟨g.1.trans h.1, g.2.1.trans h.2.1, g.2.2.1.trans h.2.2.1, g.2.2.2.trans h.2.2.2⟩
theorem mSame_of {sh : zSh} {m : Nat} {V V' : wSt} {os : List Nat} (f : FrO os V V') (n1 : sr sh m 1 ∉ os) (n2 : sr sh m 2 ∉ os) (n8 : sr sh m 8 ∉ os) (nm : m ∉ os) : mSame sh m V V' := ⟨f _ n1, f _ n2, f _ n8, f _ nm⟩
theorem layO_n {sh : zSh} {m j : Nat} (M : wMd sh m) (hj : j ∈ zARw) (n : j ≠ 9 ∧ j ≠ 10 ∧ j ≠ 11 ∧ j ≠ 12 ∧ j ≠ 13) : sr sh m j ∉ layO sh m := fun w => by
  unfold layO at w
  simp only [List.mem_cons, List.not_mem_nil, or_false] at w
  rcases w with w | w | w | w | w
  · exact M.n hj (by decide) n.1 w
  · exact M.n hj (by decide) n.2.1 w
  · exact M.n hj (by decide) n.2.2.1 w
  · exact M.n hj (by decide) n.2.2.2.1 w
  · exact M.n hj (by decide) n.2.2.2.2 w
theorem layO_m {sh : zSh} {m : Nat} (M : wMd sh m) : m ∉ layO sh m := fun w => by
  unfold layO at w
  simp only [List.mem_cons, List.not_mem_nil, or_false] at w
  rcases w with w | w | w | w | w
  · exact M.m (j := 9) (by decide) w.symm
  · exact M.m (j := 10) (by decide) w.symm
  · exact M.m (j := 11) (by decide) w.symm
  · exact M.m (j := 12) (by decide) w.symm
  · exact M.m (j := 13) (by decide) w.symm
theorem mSame_lay {sh : zSh} {m : Nat} {V V' : wSt} (M : wMd sh m) (f : FrO (layO sh m) V V') : mSame sh m V V' := mSame_of f (layO_n M (by decide) (by decide)) (layO_n M (by decide) (by decide)) (layO_n M (by decide) (by decide)) (layO_m M)
theorem os34 {sh : zSh} {m j : Nat} (M : wMd sh m) (hj : j ∈ zARw) (n : j ≠ 3 ∧ j ≠ 4) : sr sh m j ∉ [sr sh m 3, sr sh m 4] := fun w => by
  simp only [List.mem_cons, List.not_mem_nil, or_false] at w
  rcases w with w | w
  · exact M.n hj (by decide) n.1 w
  · exact M.n hj (by decide) n.2 w
theorem mSame_34 {sh : zSh} {m : Nat} {V V' : wSt} (M : wMd sh m) (f : FrO [sr sh m 3, sr sh m 4] V V') : mSame sh m V V' := mSame_of f (os34 M (by decide) (by decide)) (os34 M (by decide) (by decide)) (os34 M (by decide) (by decide)) (fun w => by
  simp only [List.mem_cons, List.not_mem_nil, or_false] at w
  rcases w with w | w
  · exact M.m (j := 3) (by decide) w.symm
  · exact M.m (j := 4) (by decide) w.symm)
/-- the flags of resolving -/
def mFlg (B R : Nat → List Int × Int) (s o a w : Int) : Prop := (o = 0 ∨ o = 1) ∧ (o = 1 ↔ mOwn B R s) ∧ (a = 0 ∨ a = 1) ∧ (a = 0 ↔ (o = 0 ∧ (R 2).2 = 0)) ∧ (w = 0 ∨ w = 1) ∧ (w = 1 ↔ (o = 0 ∧ (R 2).2 = 0 ∧ (R 4).1.length = 0))
theorem M175q {sh : zSh} {V : wSt} {m : Nat} (M : wMd sh m) (S : mSz sh V m) (s : Int) {d b r : Int} (hd : 0 ≤ d ∧ d ≤ 13) (hb : 0 ≤ b ∧ b ≤ 13) (hr : 0 ≤ r ∧ r ≤ 13) {B R : List Int} (hBl : B.length ≤ 700) (hRl : R.length ≤ 700) (hB : mx sh V m b = B) (hR : mx sh V m r = R) {Q0 : Nat → List Int × Int} (K0 : lK6 sh V m Q0) (hp : ∀ o a w, (mLay (cutQ B) (cutQ R) o a w 4).1.length ≤ 1490) (hc : ∀ o a w, (cmm (pgd (mLay (cutQ B) (cutQ R) o a w))).length ≤ 1490) : ∃ V' W o a w, wcl zP 175 [wR m, wI d, wI b, wI r, wI s] (sh, V) = rN (sh, V') ∧ mFlg (cutQ B) (cutQ R) s o a w ∧ mSame sh m V W ∧ RmU sh W V' m d (cmm (pgd (mLay (cutQ B) (cutQ R) o a w))) ∧ lK sh V' m (pgd (mLay (cutQ B) (cutQ R) o a w)) := by
  obtain ⟨V1, o, e1, f1, S1, KB, KR, ho, ho1⟩ := M175_41 M S d s hb hr hBl hRl hB hR
  obtain ⟨a, w, e2, ha, ha1, hw, hw1⟩ := M175_83 (V := V1) d s b o hr hRl KR
  have K1 : lK6 sh V1 m Q0 := lK6_fr K0 (f1 _ (os34 M (by decide) (by decide))) (f1 _ (os34 M (by decide) (by decide))) (f1 _ (os34 M (by decide) (by decide)))
  obtain ⟨V2, e3, f2, l2⟩ := M175_lay M S1 d s o a w hb hr hBl hRl KB KR K1
  obtain ⟨V3, e4, f3, l3⟩ := M163q M l2 (hp o a w)
  have f3' : FrO (layO sh m) V2 V3 := f3.mono (fun x hx => by
    unfold lyO at hx; unfold layO
    simp only [List.mem_cons, List.not_mem_nil, or_false] at hx ⊢
    rcases hx with h | h | h
    · exact Or.inl h
    · exact Or.inr (Or.inl h)
    · exact Or.inr (Or.inr (Or.inl h)))
  have sm : mSame sh m V V3 := (mSame_34 M f1).trans ((mSame_lay M f2).trans (mSame_lay M f3'))
  have S3 : mSz sh V3 m := by unfold mSz at *; rw [sm.2.1]; exact S
  obtain ⟨V4, e5, u5⟩ := M158q M S3 hd l3 (hc o a w)
  refine ⟨V4, V3, o, a, w, ?_, ⟨ho, ho1, ha, ha1, hw, hw1⟩, sm, u5, u5.lK M l3⟩
  rw [e1, e2, e3, w175_193, e4]
  simp only [wcx_v, wput_n, w175_197]
  rw [e5]
  simp only [wcx_v, wput_n, w175_202]
