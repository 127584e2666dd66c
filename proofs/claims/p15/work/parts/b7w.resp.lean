set_option maxRecDepth 16384
/-! resolving: both ways the same, and right again -/
theorem mLay_res {Q0 B R : Nat → List Int × Int} {s o a w : Int} (h : mFlg B R s o a w) : ∀ k, k < 7 → pgd (mLay B R o a w) k = qRes Q0 B R s k := by
  obtain ⟨ho, ho1, ha, ha1, hw, hw1⟩ := h
  unfold qRes
  refine pgd_cg (fun k hk => ?_)
  by_cases c : mOwn B R s
  · have o1 : o = 1 := ho1.mpr c
    have a1 : a ≠ 0 := fun z => by have := (ha1.mp z).1; omega
    have w0 : w = 0 := hw.resolve_right (fun z => by have := (hw1.mp z).1; omega)
    have c' : (R 0).2 ≠ 0 ∧ (s ≠ 0 ∨ ¬ R 0 = B 0) := c
    rw [if_pos c']
    unfold mLay pup
    by_cases k4 : k = 4
    · rw [if_pos k4, if_pos k4, if_pos w0, if_neg (fun z => a1 z.1), mdt_dots]
    · rw [if_neg k4, if_neg k4]
      by_cases k6 : k = 6
      · rw [if_pos k6, k6]
      · rw [if_neg k6]
        by_cases k5 : k = 5
        · rw [if_pos k5, if_pos w0, k5]
        · rw [if_neg k5]
          by_cases k1 : k = 1 ∨ k = 2 ∨ k = 3
          · rw [if_pos k1, if_neg a1]
          · rw [if_neg k1, if_neg (by omega), show k = 0 by omega]
  · have o0 : o = 0 := ho.resolve_right (fun z => c (ho1.mp z))
    have c' : ¬ ((R 0).2 ≠ 0 ∧ (s ≠ 0 ∨ ¬ R 0 = B 0)) := c
    have a0 : a = 0 ↔ (R 2).2 = 0 := ⟨fun z => (ha1.mp z).2, fun z => ha1.mpr ⟨o0, z⟩⟩
    have w1 : w = 1 ↔ ((R 2).2 = 0 ∧ (R 4).1.length = 0) := ⟨fun z => (hw1.mp z).2, fun z => hw1.mpr ⟨o0, z⟩⟩
    have w0 : w = 0 ↔ ¬ ((R 2).2 = 0 ∧ (R 4).1.length = 0) := ⟨fun z q => by have := w1.mpr q; omega, fun z => hw.resolve_right (fun q => z (w1.mp q))⟩
    rw [if_neg c']
    have eA : ∀ x y : List Int × Int, (if a = 0 then x else y) = if (R 2).2 = 0 then x else y := fun x y => by
      by_cases z : (R 2).2 = 0
      · rw [if_pos (a0.mpr z), if_pos z]
      · rw [if_neg (fun q => z (a0.mp q)), if_neg z]
    rcases (by omega : k = 0 ∨ k = 1 ∨ k = 2 ∨ k = 3 ∨ k = 4 ∨ k = 5 ∨ k = 6) with e | e | e | e | e | e | e <;> subst e
    · show (if o = 0 then B 0 else R 0) = B 0
      rw [if_pos o0]
    · exact eA (B 1) (R 1)
    · exact eA (B 2) (R 2)
    · exact eA (B 3) (R 3)
    · show (if w = 0 then (if a = 0 ∧ gl (R 4).1 0 ≠ 47 then (mdt (mrg B (R 4).1), 1) else (mdt (R 4).1, (R 4).2)) else B 4) = (if (R 2).2 = 0 ∧ (R 4).1.length = 0 then B 4 else if (R 2).2 = 0 ∧ gl (R 4).1 0 ≠ 47 then (rdots (mrg B (R 4).1), 1) else (rdots (R 4).1, (R 4).2))
      by_cases x : (R 2).2 = 0 ∧ (R 4).1.length = 0
      · rw [if_neg (fun z => (w0.mp z) x), if_pos x]
      · rw [if_pos (w0.mpr x), if_neg x]
        by_cases y : (R 2).2 = 0 ∧ gl (R 4).1 0 ≠ 47
        · rw [if_pos ⟨a0.mpr y.1, y.2⟩, if_pos y, mdt_dots]
        · rw [if_neg (fun z => y ⟨a0.mp z.1, z.2⟩), if_neg y, mdt_dots]
    · show (if w = 0 then R 5 else if (R 5).2 = 0 then B 5 else R 5) = (if (R 2).2 = 0 ∧ (R 4).1.length = 0 ∧ (R 5).2 = 0 then B 5 else R 5)
      by_cases x : (R 2).2 = 0 ∧ (R 4).1.length = 0
      · rw [if_neg (fun z => (w0.mp z) x)]
        by_cases y : (R 5).2 = 0
        · rw [if_pos y, if_pos ⟨x.1, x.2, y⟩]
        · rw [if_neg y, if_neg (fun z => y z.2.2)]
      · rw [if_pos (w0.mpr x), if_neg (fun z => x ⟨z.1, z.2.1⟩)]
    · rfl
/-- parts of two right references, taken over -/
theorem mix_good {B R : Nat → List Int × Int} (hB : Good B) (hR : Good R) (Q : Nat → List Int × Int) (h0 : (Q 0 = B 0 ∨ Q 0 = R 0) ∧ (Q 0).2 = 1) (h1 : (Q 1 = B 1 ∧ Q 2 = B 2 ∧ Q 3 = B 3) ∨ (Q 1 = R 1 ∧ Q 2 = R 2 ∧ Q 3 = R 3)) (h4 : (Q 4).2 = 1 ∧ okT 4 (Q 4).1 ∧ ((Q 2).2 = 1 → (Q 4).1 = [] ∨ gl (Q 4).1 0 = 47)) (h5 : Q 5 = B 5 ∨ Q 5 = R 5) (h6 : Q 6 = B 6 ∨ Q 6 = R 6) : Good (pgd Q) ∧ (pgd Q 0).2 = 1 := by
  have pick : ∀ k, k < 7 → k ≠ 4 → (Q k = B k ∨ Q k = R k) := fun k hk k4 => by
    rcases (by omega : k = 0 ∨ k = 1 ∨ k = 2 ∨ k = 3 ∨ k = 5 ∨ k = 6) with e | e | e | e | e | e <;> subst e
    · exact h0.1
    · exact h1.elim (fun z => Or.inl z.1) (fun z => Or.inr z.1)
    · exact h1.elim (fun z => Or.inl z.2.1) (fun z => Or.inr z.2.1)
    · exact h1.elim (fun z => Or.inl z.2.2) (fun z => Or.inr z.2.2)
    · exact h5
    · exact h6
  have F : Fl Q := by
    refine ⟨fun k hk => ?_, fun k hk hz => ?_, h4.1, fun hz => ?_, fun hz => ?_⟩
    · by_cases c : k = 4
      · subst c; exact Or.inr h4.1
      · rcases pick k hk c with e | e <;> rw [e]
        · exact hB.1.1 k hk
        · exact hR.1.1 k hk
    · by_cases c : k = 4
      · subst c; have := h4.1; omega
      · rcases pick k hk c with e | e <;> rw [e] at hz ⊢
        · exact hB.1.2.1 k hk hz
        · exact hR.1.2.1 k hk hz
    · rcases h1 with ⟨e1, e2, e3⟩ | ⟨e1, e2, e3⟩
      · rw [e1]; rw [e2] at hz; exact hB.1.2.2.2.1 hz
      · rw [e1]; rw [e2] at hz; exact hR.1.2.2.2.1 hz
    · rcases h1 with ⟨e1, e2, e3⟩ | ⟨e1, e2, e3⟩
      · rw [e3]; rw [e2] at hz; exact hB.1.2.2.2.2 hz
      · rw [e3]; rw [e2] at hz; exact hR.1.2.2.2.2 hz
  have V : Va Q := by
    refine ⟨?_, fun k hk => ?_, ?_, ?_⟩
    · rcases h0.1 with e | e <;> rw [e]
      · exact hB.2.2.1
      · exact hR.2.2.1
    · by_cases c : k = 4
      · subst c; exact h4.2.1
      · rcases pick k (by omega) c with e | e <;> rw [e]
        · exact hB.2.2.2.1 k hk
        · exact hR.2.2.2.1 k hk
    · rcases pick 2 (by decide) (by decide) with e | e <;> rw [e]
      · exact hB.2.2.2.2.1
      · exact hR.2.2.2.2.1
    · rcases pick 3 (by decide) (by decide) with e | e <;> rw [e]
      · exact hB.2.2.2.2.2
      · exact hR.2.2.2.2.2
  exact ⟨pgd_good F V h4.2.2 (fun z _ => by have := h0.2; omega), by rw [pgd_o Q 0 (by decide)]; exact h0.2⟩
theorem mrg_47 {B : Nat → List Int × Int} {L : List Int} (h2 : (B 2).2 ≠ 0) (h : (B 4).1 = [] ∨ gl (B 4).1 0 = 47) : gl (mrg B L) 0 = 47 := by
  unfold mrg
  rcases h with h | h
  · rw [h]
    show gl ([].take _ ++ ((if fli (gl ([] : List Int)) 47 0 ((([] : List Int).length : Int) - 1) + 1 = 0 ∧ (B 2).2 ≠ 0 then [47] else []) ++ L)) 0 = 47
    rw [(fli_st _ _ _ _).1 (by simp only [List.length_nil]; omega), if_pos ⟨by omega, h2⟩, List.take_nil]; rfl
  · have l1 : 1 ≤ (B 4).1.length := by
      by_cases d : 1 ≤ (B 4).1.length
      · exact d
      · rw [gl_out (Or.inr (by omega))] at h; cases h
    have fr := fli_hit (f := gl (B 4).1) (b := 47) (a := 0) _ ((B 4).1.length - 1) rfl
    have f0 : 0 ≤ fli (gl (B 4).1) 47 0 ((B 4).1.length - 1) := by
      rcases fr with w | w
      · exfalso
        have key : ∀ (n : Nat) (e : Int), e.toNat = n → 0 ≤ e → fli (gl (B 4).1) 47 0 e ≠ -1 := by
          intro n
          induction n with
          | zero =>
            intro e hn he
            rw [show e = 0 by omega, ((fli_st _ _ _ _).2 (by omega)).1 h]; decide
          | succ n ih =>
            intro e hn he
            have st := (fli_st (gl (B 4).1) 47 0 e).2 he
            by_cases c : gl (B 4).1 e = 47
            · rw [st.1 c]; omega
            · rw [st.2 c]; exact ih _ (by omega) (by omega)
        exact key _ _ rfl (by omega) w
      · exact w.2.1
    rw [gl_app1 _ _ (by rw [List.length_take]; omega), gl_take, if_pos (by omega)]; exact h
theorem qRes_good {Q0 B R : Nat → List Int × Int} (s : Int) (hB : Good B) (hR : Good R) (hb : (B 0).2 = 1) : Good (qRes Q0 B R s) ∧ (qRes Q0 B R s 0).2 = 1 := by
  have r4 := hR.2.2.2.1 4 (Or.inr (Or.inl rfl))
  have b4 := hB.2.2.2.1 4 (Or.inr (Or.inl rfl))
  have dots : (R 2).2 = 1 → (rdots (R 4).1) = [] ∨ gl (rdots (R 4).1) 0 = 47 := fun z => by
    rcases hR.2.1.1 z with w | w
    · rw [w]; exact Or.inl rdots_nil
    · exact Or.inr (rdots_47 w)
  unfold qRes
  by_cases c : (R 0).2 ≠ 0 ∧ (s ≠ 0 ∨ ¬ R 0 = B 0)
  · rw [if_pos c]
    have o : ∀ k, k ≠ 4 → pup R 4 (rdots (R 4).1, (R 4).2) k = R k := fun k hk => by unfold pup; rw [if_neg hk]
    refine mix_good hB hR _ ⟨Or.inr (o 0 (by decide)), by rw [o 0 (by decide)]; exact (hR.1.1 0 (by decide)).resolve_left c.1⟩ (Or.inr ⟨o 1 (by decide), o 2 (by decide), o 3 (by decide)⟩) ?_ (Or.inr (o 5 (by decide))) (Or.inr (o 6 (by decide)))
    rw [pup_at, o 2 (by decide)]
    exact ⟨hR.1.2.2.1, rdots_ok r4, dots⟩
  · rw [if_neg c]
    obtain ⟨Q, hQ⟩ : ∃ Q, Q = pup (qBeh (pup Q0 0 (B 0)) B R) 6 (R 6) := ⟨_, rfl⟩
    have q6 : Q 6 = R 6 := by rw [hQ, pup_at]
    have qo : ∀ k, k ≠ 6 → Q k = qBeh (pup Q0 0 (B 0)) B R k := fun k hk => by rw [hQ]; unfold pup; rw [if_neg hk]
    have q0 : Q 0 = B 0 := by rw [qo 0 (by decide)]; rfl
    have q123 : ∀ k, (k = 1 ∨ k = 2 ∨ k = 3) → Q k = if (R 2).2 = 0 then B k else R k := fun k hk => by
      rw [qo k (by omega)]; unfold qBeh; rw [if_pos hk]
    have q5 : Q 5 = B 5 ∨ Q 5 = R 5 := by
      rw [qo 5 (by decide)]; unfold qBeh
      rw [if_neg (by decide), if_pos rfl]
      split
      · exact Or.inl rfl
      · exact Or.inr rfl
    have q4 : Q 4 = if (R 2).2 = 0 ∧ (R 4).1.length = 0 then B 4 else if (R 2).2 = 0 ∧ gl (R 4).1 0 ≠ 47 then (rdots (mrg B (R 4).1), 1) else (rdots (R 4).1, (R 4).2) := by
      rw [qo 4 (by decide)]; unfold qBeh
      rw [if_neg (by decide), if_neg (by decide), if_pos rfl]
    rw [← hQ]
    refine mix_good hB hR Q ⟨Or.inl q0, by rw [q0]; exact hb⟩ ?_ ?_ q5 (Or.inr q6)
    · by_cases z : (R 2).2 = 0
      · exact Or.inl ⟨by rw [q123 1 (by decide), if_pos z], by rw [q123 2 (by decide), if_pos z], by rw [q123 3 (by decide), if_pos z]⟩
      · exact Or.inr ⟨by rw [q123 1 (by decide), if_neg z], by rw [q123 2 (by decide), if_neg z], by rw [q123 3 (by decide), if_neg z]⟩
    · rw [q123 2 (by decide), q4]
      by_cases z : (R 2).2 = 0
      · rw [if_pos z]
        by_cases x : (R 4).1.length = 0
        · rw [if_pos ⟨z, x⟩]; exact ⟨hB.1.2.2.1, b4, hB.2.1.1⟩
        · rw [if_neg (fun w => x w.2)]
          by_cases y : gl (R 4).1 0 = 47
          · rw [if_neg (fun w => w.2 y)]; exact ⟨hR.1.2.2.1, rdots_ok r4, fun _ => Or.inr (rdots_47 y)⟩
          · rw [if_pos ⟨z, y⟩]
            exact ⟨rfl, rdots_ok (mrg_ok b4 r4), fun w => Or.inr (rdots_47 (mrg_47 (by omega) (hB.2.1.1 w)))⟩
      · rw [if_neg z, if_neg (fun w => z w.1), if_neg (fun w => z w.1)]
        exact ⟨hR.1.2.2.1, rdots_ok r4, fun w => dots w⟩
/-- the parts of a text are together no longer than it -/
theorem cut_sum (L : List Int) : (cutQ L 0).1.length + (cutQ L 1).1.length + (cutQ L 2).1.length + (cutQ L 3).1.length + (cutQ L 4).1.length + (cutQ L 5).1.length + (cutQ L 6).1.length ≤ L.length := by
  have e := pln_cut L
  unfold pln plen at e
  have pe : plA (fun k => ((cutQ L k).1.length : Int)) (fun k => (cutQ L k).2) 7 = (((((((0 + (((cutQ L 0).1.length : Int) + (if (cutQ L 0).2 = 0 then 0 else 1))) + (((cutQ L 1).1.length : Int) + (if (cutQ L 1).2 = 0 then 0 else 1))) + (((cutQ L 2).1.length : Int) + 0)) + (((cutQ L 3).1.length : Int) + (if (cutQ L 3).2 = 0 then 0 else 1))) + (((cutQ L 4).1.length : Int) + 0)) + (((cutQ L 5).1.length : Int) + (if (cutQ L 5).2 = 0 then 0 else 1))) + (((cutQ L 6).1.length : Int) + (if (cutQ L 6).2 = 0 then 0 else 1))) := rfl
  rw [pe] at e
  have i : ∀ k : Nat, (0 : Int) ≤ (if (cutQ L k).2 = 0 then 0 else 1) := fun k => by split <;> decide
  have i0 := i 0
  have i1 := i 1
  have i3 := i 3
  have i5 := i 5
  have i6 := i 6
  have i2 : (0 : Int) ≤ (if (cutQ L 2).2 = 0 then 0 else 2) := by split <;> decide
  omega
theorem jn_len (Q : Nat → List Int × Int) (k : Nat) : (jn Q k).length ≤ (Q k).1.length + 4 := by
  unfold jn
  split
  · simp only [List.length_nil]; omega
  · simp only [List.length_append]
    have a : (if k = 3 then [58] else if k = 5 then [63] else if k = 6 then [35] else [] : List Int).length ≤ 1 := by
      split
      · decide
      · split
        · decide
        · split <;> decide
    have b : (if k = 1 ∨ (k = 2 ∧ (Q 1).2 = 0) then [47, 47] else [] : List Int).length ≤ 2 := by split <;> decide
    have c : (if k = 0 then [58] else if k = 1 then [64] else [] : List Int).length ≤ 1 := by
      split
      · decide
      · split <;> decide
    omega
theorem cmm_len (Q : Nat → List Int × Int) : (cmm Q).length ≤ (Q 0).1.length + (Q 1).1.length + (Q 2).1.length + (Q 3).1.length + (Q 4).1.length + (Q 5).1.length + (Q 6).1.length + 28 := by
  have e : cmm Q = jn Q 0 ++ (jn Q 1 ++ (jn Q 2 ++ (jn Q 3 ++ (jn Q 4 ++ (jn Q 5 ++ (jn Q 6 ++ [])))))) := rfl
  have l := jn_len Q
  have l0 := l 0
  have l1 := l 1
  have l2 := l 2
  have l3 := l 3
  have l4 := l 4
  have l5 := l 5
  have l6 := l 6
  rw [e]
  simp only [List.length_append, List.length_nil]
  omega
theorem pgd_len (Q : Nat → List Int × Int) : (pgd Q 4).1.length ≤ (Q 4).1.length + 2 := by
  unfold pgd
  split
  · rw [pup_at]; simp only [List.length_cons]; omega
  · omega
theorem mLay_len (B R : List Int) (o a w : Int) : (mLay (cutQ B) (cutQ R) o a w 4).1.length ≤ (cutQ B 4).1.length + 1 + (cutQ R 4).1.length ∧ (cmm (pgd (mLay (cutQ B) (cutQ R) o a w))).length ≤ B.length + R.length + 31 := by
  have sB := cut_sum B
  have sR := cut_sum R
  have k4 : (mLay (cutQ B) (cutQ R) o a w 4).1.length ≤ (cutQ B 4).1.length + 1 + (cutQ R 4).1.length := by
    unfold mLay
    rw [if_pos rfl]
    split
    · split
      · rw [mdt_dots]
        have := rdots_len (mrg (cutQ B) (cutQ R 4).1)
        have := mrg_len (cutQ B) (cutQ R 4).1
        show (rdots (mrg (cutQ B) (cutQ R 4).1)).length ≤ _
        omega
      · rw [mdt_dots]
        have := rdots_len (cutQ R 4).1
        show (rdots (cutQ R 4).1).length ≤ _
        omega
    · omega
  refine ⟨k4, ?_⟩
  have og := pgd_o (mLay (cutQ B) (cutQ R) o a w)
  have p4 := pgd_len (mLay (cutQ B) (cutQ R) o a w)
  have c := cmm_len (pgd (mLay (cutQ B) (cutQ R) o a w))
  rw [og 0 (by decide), og 1 (by decide), og 2 (by decide), og 3 (by decide), og 5 (by decide), og 6 (by decide)] at c
  have m6 : (mLay (cutQ B) (cutQ R) o a w 6).1.length ≤ (cutQ B 6).1.length + (cutQ R 6).1.length := by
    show (cutQ R 6).1.length ≤ _; omega
  have m5 : (mLay (cutQ B) (cutQ R) o a w 5).1.length ≤ (cutQ B 5).1.length + (cutQ R 5).1.length := by
    unfold mLay
    rw [if_neg (by decide), if_neg (by decide), if_pos rfl]
    split
    · omega
    · split <;> omega
  have m0 : (mLay (cutQ B) (cutQ R) o a w 0).1.length ≤ (cutQ B 0).1.length + (cutQ R 0).1.length := by
    unfold mLay
    rw [if_neg (by decide), if_neg (by decide), if_neg (by decide), if_neg (by decide)]
    split <;> omega
  have m123 : ∀ k, (k = 1 ∨ k = 2 ∨ k = 3) → (mLay (cutQ B) (cutQ R) o a w k).1.length ≤ (cutQ B k).1.length + (cutQ R k).1.length := fun k hk => by
    unfold mLay
    rw [if_neg (by omega), if_neg (by omega), if_neg (by omega), if_pos hk]
    split <;> omega
  have m1 := m123 1 (by decide)
  have m2 := m123 2 (by decide)
  have m3 := m123 3 (by decide)
  omega
/-- cut_cmp for parts that agree -/
theorem cmm_cg {Q Q' : Nat → List Int × Int} (h : ∀ k, k < 7 → Q k = Q' k) : cmm Q = cmm Q' := by
  have j : ∀ k, k < 7 → jn Q k = jn Q' k := fun k hk => by unfold jn; rw [h k hk, h 1 (by decide)]
  have e : ∀ Q : Nat → List Int × Int, cmm Q = jn Q 0 ++ (jn Q 1 ++ (jn Q 2 ++ (jn Q 3 ++ (jn Q 4 ++ (jn Q 5 ++ (jn Q 6 ++ [])))))) := fun Q => rfl
  rw [e, e, j 0 (by decide), j 1 (by decide), j 2 (by decide), j 3 (by decide), j 4 (by decide), j 5 (by decide), j 6 (by decide)]
section
variable {sh : zSh} {m : Nat} {V : wSt} {tp ou : List Int} {rw' : Nat → List Int}
theorem mFlg_ex (B R : Nat → List Int × Int) (s : Int) : ∃ o a w, mFlg B R s o a w := by
  by_cases c : mOwn B R s
  · refine ⟨1, 1, 0, Or.inr rfl, ⟨fun _ => c, fun _ => rfl⟩, Or.inr rfl, ⟨fun z => absurd z (by decide), fun z => absurd z.1 (by decide)⟩, Or.inl rfl, ⟨fun z => absurd z (by decide), fun z => absurd z.1 (by decide)⟩⟩
  · by_cases d : (R 2).2 = 0
    · by_cases e : (R 4).1.length = 0
      · exact ⟨0, 0, 1, Or.inl rfl, ⟨fun z => absurd z (by decide), fun z => absurd z c⟩, Or.inl rfl, ⟨fun _ => ⟨rfl, d⟩, fun _ => rfl⟩, Or.inr rfl, ⟨fun _ => ⟨rfl, d, e⟩, fun _ => rfl⟩⟩
      · exact ⟨0, 0, 0, Or.inl rfl, ⟨fun z => absurd z (by decide), fun z => absurd z c⟩, Or.inl rfl, ⟨fun _ => ⟨rfl, d⟩, fun _ => rfl⟩, Or.inl rfl, ⟨fun z => absurd z (by decide), fun z => absurd z.2.2 e⟩⟩
    · exact ⟨0, 1, 0, Or.inl rfl, ⟨fun z => absurd z (by decide), fun z => absurd z c⟩, Or.inr rfl, ⟨fun z => absurd z (by decide), fun z => absurd z.2 d⟩, Or.inl rfl, ⟨fun z => absurd z (by decide), fun z => absurd z.2.1 d⟩⟩
/-- resolving into a row that is not seen -/
theorem M175r (M : wMd sh m) (s : Mx sh m V tp ou rw') (st : Int) {d b r : Int} (hd : 8 ≤ d ∧ d ≤ 12) (hb : 0 ≤ b ∧ b ≤ 13) (hr : 0 ≤ r ∧ r ≤ 13) {B R : List Int} (hBl : B.length ≤ 400) (hRl : R.length ≤ 400) (hB : mx sh V m b = B) (hR : mx sh V m r = R) : ∃ V', wcl zP 175 [wR m, wI d, wI b, wI r, wI st] (sh, V) = rN (sh, V') ∧ Mx sh m V' tp ou rw' ∧ mx sh V' m d = cmm (qRes (fun _ => ([], 0)) (cutQ B) (cutQ R) st) ∧ V' m = V m ∧ (∀ t : Nat, t < 14 → t ≠ d.toNat → V (sr sh m 2) t ≤ 1500 → mx sh V' m t = mx sh V m t) ∧ (cmm (qRes (fun _ => ([], 0)) (cutQ B) (cutQ R) st)).length ≤ 900 := by
  obtain ⟨Q0, K0⟩ := s.2.1.K
  have ln := mLay_len B R
  have sB := cut_sum B
  have sR := cut_sum R
  obtain ⟨V', W, o, a, w, e, hf, sm, u, l⟩ := M175q M s.1 st (d := d) (by omega) hb hr (by omega) (by omega) hB hR K0 (fun o a w => by have := (ln o a w).1; omega) (fun o a w => by have := (ln o a w).2; omega)
  have eq := cmm_cg (mLay_res (Q0 := fun _ => ([], 0)) hf)
  rw [eq] at u
  have wl : lOk sh W m := lOk_fr l.ok (u.2.1 _ (os12 M (by decide) (by decide) (by decide))).symm
  refine ⟨V', e, (s.same sm wl).hidr M u hd, u.2.2.1, by rw [u.m M, sm.2.2.2], fun t ht n h15 => ?_, by have := (ln o a w).2; rw [eq] at this; omega⟩
  rw [(u.2.2.2 t ht n).2 (by rw [sm.2.1]; exact h15)]; exact sm.mx _
theorem M176 (M : wMd sh m) (s : Mx sh m V tp ou rw') (i b t st : Int) : (¬ ((0 ≤ i ∧ i < 8) ∧ (0 ≤ b ∧ b < 8) ∧ (0 ≤ t ∧ t < 8)) → wcl zP 176 [wR m, wI i, wI b, wI t, wI st] (sh, V) = rI 0 (sh, uI V m 0 1)) ∧
    ((0 ≤ i ∧ i < 8) ∧ (0 ≤ b ∧ b < 8) ∧ (0 ≤ t ∧ t < 8) → (cutQ (rw' b.toNat) 0).2 = 0 → ∃ V', wcl zP 176 [wR m, wI i, wI b, wI t, wI st] (sh, V) = rI 0 (sh, V') ∧ Mx sh m V' tp ou rw' ∧ V' m 0 = 2) ∧
    ((0 ≤ i ∧ i < 8) ∧ (0 ≤ b ∧ b < 8) ∧ (0 ≤ t ∧ t < 8) → (cutQ (rw' b.toNat) 0).2 ≠ 0 → ∀ N, N = cmm (qRes (fun _ => ([], 0)) (cutQ (rw' b.toNat)) (cutQ (rw' t.toNat)) st) →
      (400 < N.length → ∃ V', wcl zP 176 [wR m, wI i, wI b, wI t, wI st] (sh, V) = rI 0 (sh, V') ∧ Mx sh m V' tp ou rw' ∧ V' m 0 = 3) ∧
      (N.length ≤ 400 → ∃ V', wcl zP 176 [wR m, wI i, wI b, wI t, wI st] (sh, V) = rI (N.length : Int) (sh, V') ∧ Mx sh m V' tp ou (rup rw' i.toNat N) ∧ V' m 0 = 0)) := by
  have start : (0 ≤ i ∧ i < 8) ∧ (0 ≤ b ∧ b < 8) ∧ (0 ≤ t ∧ t < 8) → ∃ V1, wcl zP 176 [wR m, wI i, wI b, wI t, wI st] (sh, V) = (if (cutQ (rw' b.toNat) 0).2 = 0 then rI 0 (sh, uI V1 m 0 2) else wev zP 176 71 [some (wR m), some (wI i), some (wI b), some (wI t), some (wI st)] [] (sh, uI V1 m 0 0)) ∧ Mx sh m V1 tp ou rw' := fun h => by
    obtain ⟨V1, e1, f1, K1, s1⟩ := (Mx_fld M s 0 (by decide) 0).K M (i := b) (by omega)
    have u1 := fun x => (fld (V := V1) M 0 x).2.2
    have k134 : wcl zP 134 [wR m, wI b, wI 0] (sh, V1) = rI (cutQ (rw' b.toNat) 0).2 (sh, V1) := M134q (p := 0) K1 (by omega) (by decide)
    refine ⟨V1, ?_, s1⟩
    rw [M176_39 M i b t st ⟨by omega, by omega, by omega⟩, w176_39, e1]
    simp only [wcx_v, wput_n, w176_44]
    rw [k134]
    simp only [wcx_v, wput_s, w176_51]
    by_cases c : (cutQ (rw' b.toNat) 0).2 = 0
    · rw [if_pos c, if_pos c, u1, if_neg (by decide)]
    · rw [if_neg c, if_neg c, u1, if_pos (by decide)]
  refine ⟨fun h => M176_bad M i b t st (fun w => h ⟨by omega, by omega, by omega⟩), fun h h0 => ?_, fun h h0 N hN => ?_⟩
  · obtain ⟨V1, e1, s1⟩ := start h
    exact ⟨_, by rw [e1, if_pos h0], Mx_fld M s1 0 (by decide) 2, (fld (V := V1) M 0 2).2.2⟩
  · obtain ⟨V1, e1, s1⟩ := start h
    rw [if_neg h0] at e1
    have s2 := Mx_fld M s1 0 (by decide) 0
    have hb := s2.2.2.2.2.1 b.toNat (by omega)
    have ht := s2.2.2.2.2.1 t.toNat (by omega)
    rw [Int.toNat_of_nonneg h.2.1.1] at hb
    rw [Int.toNat_of_nonneg h.2.2.1] at ht
    obtain ⟨V2, e2, s3, x8, f2, -, -⟩ := M175r M s2 st (d := 8) (b := b) (r := t) (by decide) (by omega) (by omega) (s2.2.2.2.2.2.2 b.toNat (by omega)) (s2.2.2.2.2.2.2 t.toNat (by omega)) hb ht
    rw [← hN] at x8
    have k := M159q M s3.1 (a := 8) (b := i) (by decide) (by omega) (by omega) 3 (by decide)
    rw [x8] at k
    refine ⟨fun l => ⟨_, ?_, Mx_fld M s3 0 (by decide) 3, (fld (V := V2) M 0 3).2.2⟩, fun l => ?_⟩
    · rw [e1, w176_71, e2]
      simp only [wcx_v, wput_n, w176_81]
      rw [k.2 l]
      simp only [wcx_v, wput_s, w176_89]
    · obtain ⟨V3, e3, u3⟩ := k.1 l
      refine ⟨V3, ?_, (Mx_fld M s3 0 (by decide) 0).row M u3 (by omega) l, by rw [u3.m M]; exact (fld (V := V2) M 0 0).2.2⟩
      rw [e1, w176_71, e2]
      simp only [wcx_v, wput_n, w176_81]
      rw [e3]
      simp only [wcx_v, wput_s, w176_89]
end
