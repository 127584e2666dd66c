set_option maxRecDepth 16384
/-! the model: resolving -/
def mOwn (B R : Nat → List Int × Int) (s : Int) : Prop := (R 0).2 ≠ 0 ∧ (s ≠ 0 ∨ ¬ R 0 = B 0)
theorem FrB.mK {sh : zSh} {V V' : wSt} {m : Nat} {r b : Int} {L : List Int} (f : FrB sh m r V V') (M : wMd sh m) (hr : 0 ≤ r ∧ r ≤ 13) (hb : 0 ≤ b ∧ b ≤ 13) (n : b ≠ r) (K : Jvm.Pilot.CLinkLibraryLaw_law_r7063_89e837.mK sh V m b L) : Jvm.Pilot.CLinkLibraryLaw_law_r7063_89e837.mK sh V' m b L := by
  refine ⟨(f.mx M b).trans K.1, fun k hk => ?_⟩
  have g := f.2 (7 * b.toNat + k) (by omega)
  have h := K.2 k hk
  unfold mB mE at *
  rw [g.1, g.2]; exact h
/-- two rows are marked, one behind the other -/
theorem M138two {sh : zSh} {V : wSt} {m : Nat} (M : wMd sh m) (S : mSz sh V m) {b r : Int} (hb : 0 ≤ b ∧ b ≤ 13) (hr : 0 ≤ r ∧ r ≤ 13) {B R : List Int} (hB : mx sh V m b = B) (hR : mx sh V m r = R) : ∃ V1 V2, wcl zP 138 [wR m, wI b] (sh, V) = rN (sh, V1) ∧ wcl zP 138 [wR m, wI r] (sh, V1) = rN (sh, V2) ∧ FrO [sr sh m 3, sr sh m 4] V V2 ∧ mSz sh V2 m ∧ mK sh V2 m b B ∧ mK sh V2 m r R := by
  obtain ⟨V1, e1, f1, k1⟩ := M138q M S hb
  have S1 := f1.sz M S
  obtain ⟨V2, e2, f2, k2⟩ := M138q M S1 hr
  rw [hB] at k1
  rw [f1.mx M r, hR] at k2
  refine ⟨V1, V2, e1, e2, f1.1.trans f2.1, f2.sz M S1, ?_, k2⟩
  by_cases c : b = r
  · have e : B = R := by rw [← hB, ← hR, c]
    rw [c, e]; exact k2
  · exact f2.mK M hr hb c k1
theorem M175_41 {sh : zSh} {V : wSt} {m : Nat} (M : wMd sh m) (S : mSz sh V m) (d s : Int) {b r : Int} (hb : 0 ≤ b ∧ b ≤ 13) (hr : 0 ≤ r ∧ r ≤ 13) {B R : List Int} (hBl : B.length ≤ 700) (hRl : R.length ≤ 700) (hB : mx sh V m b = B) (hR : mx sh V m r = R) : ∃ V' o, wcl zP 175 [wR m, wI d, wI b, wI r, wI s] (sh, V) = wev zP 175 41 [some (wR m), some (wI d), some (wI b), some (wI r), some (wI s), some (wI o), none, none] [] (sh, V') ∧ FrO [sr sh m 3, sr sh m 4] V V' ∧ mSz sh V' m ∧ mK sh V' m b B ∧ mK sh V' m r R ∧ (o = 0 ∨ o = 1) ∧ (o = 1 ↔ mOwn (cutQ B) (cutQ R) s) := by
  obtain ⟨V1, V2, e1, e2, f2, S2, KB, KR⟩ := M138two M S hb hr hB hR
  have h0 : wcl zP 134 [wR m, wI r, wI 0] (sh, V2) = rI (cutQ R 0).2 (sh, V2) := M134q (p := 0) KR hr (by decide)
  have h3 : wcl zP 173 [wR m, wI r, wI b, wI 0] (sh, V2) = rI (bI (cutQ R 0 = cutQ B 0)) (sh, V2) := M173q (p := 0) S2 hr hb (by decide) (by omega) (by omega) KR KB
  have start : wcl zP 175 [wR m, wI d, wI b, wI r, wI s] (sh, V) = if (cutQ R 0).2 = 0 then wev zP 175 41 [some (wR m), some (wI d), some (wI b), some (wI r), some (wI s), some (wI 0), none, none] [] (sh, V2) else if s = 0 then wcx (wcl zP 173 [wR m, wI r, wI b, wI 0] (sh, V2)) (fun v h' => wev zP 175 31 [some (wR m), some (wI d), some (wI b), some (wI r), some (wI s), none, none, none] (wput v []) h') wth else wev zP 175 41 [some (wR m), some (wI d), some (wI b), some (wI r), some (wI s), some (wI 1), none, none] [] (sh, V2) := by
    rw [w175_0, e1]
    simp only [wcx_v, wput_n, w175_5]
    rw [e2]
    simp only [wcx_v, wput_n, w175_10]
    rw [h0]
    simp only [wcx_v, wput_s, w175_16]
  rw [start]
  by_cases c : (cutQ R 0).2 = 0
  · rw [if_pos c]
    exact ⟨V2, 0, rfl, f2, S2, KB, KR, Or.inl rfl, ⟨fun w => absurd w (by decide), fun w => absurd c w.1⟩⟩
  · rw [if_neg c]
    by_cases e : s = 0
    · rw [if_pos e, h3]
      simp only [wcx_v, wput_s, w175_31]
      by_cases g : cutQ R 0 = cutQ B 0
      · rw [bI_1 g, if_neg (by decide)]
        exact ⟨V2, 0, rfl, f2, S2, KB, KR, Or.inl rfl, ⟨fun w => absurd w (by decide), fun w => w.2.elim (fun z => absurd e z) (fun z => absurd g z)⟩⟩
      · rw [bI_0 g, if_pos rfl]
        exact ⟨V2, 1, rfl, f2, S2, KB, KR, Or.inr rfl, ⟨fun _ => ⟨c, Or.inr g⟩, fun _ => rfl⟩⟩
    · rw [if_neg e]
      exact ⟨V2, 1, rfl, f2, S2, KB, KR, Or.inr rfl, ⟨fun _ => ⟨c, Or.inl e⟩, fun _ => rfl⟩⟩
/-- whether the authority is the reference's own; whether the path of the base stays -/
theorem M175_83 {sh : zSh} {V : wSt} {m : Nat} (d s b o : Int) {r : Int} (hr : 0 ≤ r ∧ r ≤ 13) {R : List Int} (hRl : R.length ≤ 700) (KR : mK sh V m r R) : ∃ a w : Int, wev zP 175 41 [some (wR m), some (wI d), some (wI b), some (wI r), some (wI s), some (wI o), none, none] [] (sh, V) = wev zP 175 83 [some (wR m), some (wI d), some (wI b), some (wI r), some (wI s), some (wI o), some (wI a), some (wI w)] [] (sh, V) ∧ (a = 0 ∨ a = 1) ∧ (a = 0 ↔ (o = 0 ∧ (cutQ R 2).2 = 0)) ∧ (w = 0 ∨ w = 1) ∧ (w = 1 ↔ (o = 0 ∧ (cutQ R 2).2 = 0 ∧ (cutQ R 4).1.length = 0)) := by
  have h2 : wcl zP 134 [wR m, wI r, wI 2] (sh, V) = rI (cutQ R 2).2 (sh, V) := M134q (p := 2) KR hr (by decide)
  have h4 : wcl zP 135 [wR m, wI r, wI 4] (sh, V) = rI ((cutQ R 4).1.length : Int) (sh, V) := M135q (p := 4) KR (by omega) hr (by decide)
  have six1 : wev zP 175 62 [some (wR m), some (wI d), some (wI b), some (wI r), some (wI s), some (wI o), some (wI 1), none] [] (sh, V) = wev zP 175 83 [some (wR m), some (wI d), some (wI b), some (wI r), some (wI s), some (wI o), some (wI 1), some (wI 0)] [] (sh, V) := by
    rw [w175_62, if_neg (by decide)]
  rw [w175_41]
  by_cases c : o = 0
  · rw [if_pos c, h2]
    simp only [wcx_v, wput_s, w175_52]
    by_cases e : (cutQ R 2).2 = 0
    · rw [if_pos e, w175_62, if_pos rfl, h4]
      simp only [wcx_v, wput_s, w175_73]
      by_cases g : ((cutQ R 4).1.length : Int) = 0
      · rw [if_pos g]
        exact ⟨0, 1, rfl, Or.inl rfl, ⟨fun _ => ⟨c, e⟩, fun _ => rfl⟩, Or.inr rfl, ⟨fun _ => ⟨c, e, by omega⟩, fun _ => rfl⟩⟩
      · rw [if_neg g]
        exact ⟨0, 0, rfl, Or.inl rfl, ⟨fun _ => ⟨c, e⟩, fun _ => rfl⟩, Or.inl rfl, ⟨fun w => absurd w (by decide), fun w => absurd w.2.2 (by omega)⟩⟩
    · rw [if_neg e, six1]
      exact ⟨1, 0, rfl, Or.inr rfl, ⟨fun w => absurd w (by decide), fun w => absurd w.2 e⟩, Or.inl rfl, ⟨fun w => absurd w (by decide), fun w => absurd w.2.1 e⟩⟩
  · rw [if_neg c, six1]
    exact ⟨1, 0, rfl, Or.inr rfl, ⟨fun w => absurd w (by decide), fun w => absurd w.1 c⟩, Or.inl rfl, ⟨fun w => absurd w (by decide), fun w => absurd w.1 c⟩⟩
