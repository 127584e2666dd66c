set_option maxRecDepth 16384
/-! the model's ways, laid -/
noncomputable def qWm (w : Int) (B T : Nat → List Int × Int) : Nat → List Int × Int := fun k => if k = 4 ∧ w = 2 then (clm (B 4).1 (T 4).1, 1) else qWay w B T k
/-- how much is laid, part by part -/
def lz (sh : zSh) (V : wSt) (m : Nat) (Q : Nat → List Int × Int) : Prop := ∀ k, k < 7 → V (sr sh m 10) k = ((Q k).1.length : Int) ∧ V (sr sh m 11) k = (Q k).2
section
variable {sh : zSh} {m : Nat}
theorem lK.z {V : wSt} {Q : Nat → List Int × Int} (K : lK sh V m Q) : lz sh V m Q := fun _ hk => ⟨K.sz hk, K.th hk⟩
theorem Va_np {L : List Int} (h : Va (cutQ L)) : ∀ k : Int, 0 ≤ k → k < (cutQ L 4).1.length → gl (cutQ L 4).1 k ≠ -1 := fun k h0 h1 e => by
  have := (h.2.1 4 (Or.inr (Or.inl rfl))).1 k h0 h1
  rw [e] at this; exact absurd this (by decide)
theorem M191 {V : wSt} {tp ou : List Int} {rw' : Nat → List Int} (M : wMd sh m) (s : Mx sh m V tp ou rw') {w b t : Int} (hw : 0 ≤ w ∧ w ≤ 5) (hb : 0 ≤ b ∧ b ≤ 7) (ht : 0 ≤ t ∧ t ≤ 7) (hv : Va (cutQ (rw' b.toNat))) : ∃ V', wcl zP 191 [wR m, wI w, wI b, wI t] (sh, V) = rN (sh, V') ∧ mSame sh m V V' ∧ lz sh V' m (qWm w (cutQ (rw' b.toNat)) (cutQ (rw' t.toNat))) ∧ ((qWm w (cutQ (rw' b.toNat)) (cutQ (rw' t.toNat)) 4).1.length ≤ 1490 → lK sh V' m (qWm w (cutQ (rw' b.toNat)) (cutQ (rw' t.toNat)))) := by
  have xb := s.2.2.2.2.1 b.toNat (by omega)
  rw [Int.toNat_of_nonneg hb.1] at xb
  have lb := s.2.2.2.2.2.2 b.toNat (by omega)
  have xt := s.2.2.2.2.1 t.toNat (by omega)
  rw [Int.toNat_of_nonneg ht.1] at xt
  have lt := s.2.2.2.2.2.2 t.toNat (by omega)
  obtain ⟨V1, V2, e1, e2, f2, S2, KB, KT⟩ := M138two M s.1 (b := b) (r := t) (by omega) (by omega) xb xt
  obtain ⟨Lb, hLb⟩ : ∃ L, L = rw' b.toNat := ⟨_, rfl⟩
  obtain ⟨Lt, hLt⟩ : ∃ L, L = rw' t.toNat := ⟨_, rfl⟩
  rw [← hLb] at KB lb hv ⊢
  rw [← hLt] at KT lt ⊢
  have cT := cut_sum Lt
  obtain ⟨B, hB⟩ : ∃ B, B = cutQ Lb := ⟨_, rfl⟩
  obtain ⟨T, hT⟩ : ∃ T, T = cutQ Lt := ⟨_, rfl⟩
  rw [← hB, ← hT]
  have fl : ∀ {U U' : wSt}, mSz sh U m → mK sh U m b Lb → mK sh U m t Lt → FrO (lyO sh m) U U' → mSz sh U' m ∧ mK sh U' m b Lb ∧ mK sh U' m t Lt := fun S KB KT f => ⟨mSz_fr M S f, mK_fr M KB f, mK_fr M KT f⟩
  obtain ⟨V3, e3, f3, l3⟩ := M155q (V := V2) M
  obtain ⟨S3, KB3, KT3⟩ := fl S2 KB KT f3
  obtain ⟨V4, e4, f4, l4⟩ := M153q M S3 (r := t) (k := 6) (by omega) (by decide) (by omega) KT3 l3
  obtain ⟨S4, KB4, KT4⟩ := fl S3 KB3 KT3 f4
  rw [← hT] at l4
  have run : wcl zP 191 [wR m, wI w, wI b, wI t] (sh, V) = wev zP 191 21 [some (wR m), some (wI w), some (wI b), some (wI t)] [] (sh, V4) := by
    rw [w191_0, e1]
    simp only [wcx_v, wput_n, w191_5]
    rw [e2]
    simp only [wcx_v, wput_n, w191_10]
    rw [e3]
    simp only [wcx_v, wput_n, w191_14]
    rw [e4]
    simp only [wcx_v, wput_n]
  obtain ⟨Q5, hQ5⟩ : ∃ Q5 : Nat → List Int × Int, Q5 = fun k => if k = 6 then T 6 else if k = 5 then (if 1 ≤ w then T 5 else ([], 0)) else pNo k := ⟨_, rfl⟩
  obtain ⟨V5, e5, f5, l5⟩ : ∃ V5, wev zP 191 21 [some (wR m), some (wI w), some (wI b), some (wI t)] [] (sh, V4) = wev zP 191 31 [some (wR m), some (wI w), some (wI b), some (wI t)] [] (sh, V5) ∧ FrO (lyO sh m) V4 V5 ∧ lK sh V5 m Q5 := by
    rw [w191_21]
    by_cases c : w ≤ 0
    · rw [if_pos c]
      refine ⟨V4, rfl, FrO.refl, l4.cg (fun k hk => ?_)⟩
      rw [hQ5]; unfold pup; dsimp only
      by_cases k6 : k = 6
      · rw [if_pos (by omega), if_pos k6]; rfl
      · rw [if_neg (by omega), if_neg k6]
        by_cases k5 : k = 5
        · rw [if_pos k5, if_neg (by omega), k5]; rfl
        · rw [if_neg k5]
    · rw [if_neg c]
      obtain ⟨V5, e5, f5, l5⟩ := M153q M S4 (r := t) (k := 5) (by omega) (by decide) (by omega) KT4 l4
      rw [← hT] at l5
      refine ⟨V5, by rw [e5]; simp only [wcx_v, wput_n], f5, l5.cg (fun k hk => ?_)⟩
      rw [hQ5]; unfold pup; dsimp only
      by_cases k6 : k = 6
      · rw [if_neg (by omega), if_pos (by omega), if_pos k6]; rfl
      · rw [if_neg k6]
        by_cases k5 : k = 5
        · rw [if_pos (by omega), if_pos k5, if_pos (by omega)]; rfl
        · rw [if_neg (by omega), if_neg (by omega), if_neg k5]
  obtain ⟨S5, KB5, KT5⟩ := fl S4 KB4 KT4 f5
  have fa5 : FrO (lyO sh m) V2 V5 := (f3.trans f4).trans f5
  have sm5 : mSame sh m V V5 := (mSame_34 M f2).trans (mSame_ly M fa5)
  rw [run, e5, w191_31]
  by_cases w2 : w = 2
  · rw [if_pos w2]
    obtain ⟨V6, e6, w6⟩ := M190 M S5 (b := b) (t := t) (by omega) (by omega) lb lt KB5 KT5 (Va_np hv)
    rw [← hB, ← hT] at w6
    obtain ⟨f6, z6, y6, c6, o6⟩ := w6
    have n11 : V6 (sr sh m 11) = V5 (sr sh m 11) := f6 _ (fun q => by
      simp only [List.mem_cons, List.not_mem_nil, or_false] at q
      rcases q with q | q
      · exact M.n (by decide) (by decide) (by decide) q
      · exact M.n (by decide) (by decide) (by decide) q)
    have q4 : qWm w B T 4 = (clm (B 4).1 (T 4).1, 1) := by unfold qWm; rw [if_pos ⟨rfl, w2⟩]
    have qk : ∀ k, k ≠ 4 → qWm w B T k = Q5 k := fun k k4 => by
      unfold qWm qWay
      rw [if_neg (fun q => k4 q.1), hQ5]
      dsimp only
      by_cases k6 : k = 6
      · rw [if_pos k6, if_pos k6]
      · rw [if_neg k6, if_neg k6]
        by_cases k5 : k = 5
        · rw [if_pos k5, if_pos k5]
        · rw [if_neg k5, if_neg k5, if_neg k4]
          by_cases k0 : k = 0
          · rw [if_pos k0, if_neg (by omega)]; unfold pNo; rw [if_neg k4]
          · rw [if_neg k0, if_neg (by omega)]; unfold pNo; rw [if_neg k4]
    have q54 : Q5 4 = ([], 1) := by rw [hQ5]; rfl
    have Z : lz sh V6 m (qWm w B T) := fun k hk => by
      by_cases k4 : k = 4
      · subst k4
        rw [q4]
        exact ⟨y6, by rw [n11, l5.th (by decide), q54]⟩
      · rw [qk k k4]
        exact ⟨by rw [z6 k k4]; exact l5.sz hk, by rw [n11]; exact l5.th hk⟩
    refine ⟨V6, ?_, sm5.trans (mSame_ly M (f6.mono (fun x hx => by
      unfold lyO
      simp only [List.mem_cons, List.not_mem_nil, or_false] at hx ⊢
      rcases hx with h | h
      · exact Or.inl h
      · exact Or.inr (Or.inl h)))), Z, fun hl k hk => ?_⟩
    · rw [e6]
      simp only [wcx_v, wput_n]
      rw [w191_42, if_pos (by omega), w191_53, if_pos (by omega), w191_63, if_pos (by omega), w191_74]
    · rw [q4] at hl
      have hl : (clm (B 4).1 (T 4).1).length ≤ 1490 := hl
      by_cases k4 : k = 4
      · subst k4
        rw [q4]
        refine l1_of (X := (clm (B 4).1 (T 4).1, 1)) y6 (by show (clm (B 4).1 (T 4).1).length ≤ 1500; omega) (by rw [n11, l5.th (by decide), q54]) (fun j hj => c6 j hj)
      · rw [qk k k4]
        have a5 := (l5 k hk).1
        refine l1_of (X := Q5 k) (by rw [z6 k k4]; exact l5.sz hk) (by have := l5.sz hk; omega) (by rw [n11]; exact l5.th hk) (fun j hj => ?_)
        have sz := l5.sz hk
        rw [o6 _ (by omega)]
        have := l5.gl hk j
        rw [if_pos (by omega)] at this
        exact this.symm
  · rw [if_neg w2]
    have goal : ∀ V', lK sh V' m (qWm w B T) → lz sh V' m (qWm w B T) ∧ ((qWm w B T 4).1.length ≤ 1490 → lK sh V' m (qWm w B T)) := fun V' l => ⟨l.z, fun _ => l⟩
    have qe : qWm w B T = qWay w B T := by funext k; unfold qWm; rw [if_neg (fun q => w2 q.2)]
    -- the path
    obtain ⟨Q6, hQ6⟩ : ∃ Q6 : Nat → List Int × Int, Q6 = fun k => if k = 4 ∧ 3 ≤ w then T 4 else Q5 k := ⟨_, rfl⟩
    obtain ⟨V6, e6, f6, l6⟩ : ∃ V6, wev zP 191 42 [some (wR m), some (wI w), some (wI b), some (wI t)] [] (sh, V5) = wev zP 191 53 [some (wR m), some (wI w), some (wI b), some (wI t)] [] (sh, V6) ∧ FrO (lyO sh m) V5 V6 ∧ lK sh V6 m Q6 := by
      rw [w191_42]
      by_cases c : w ≤ 2
      · rw [if_pos c]
        exact ⟨V5, rfl, FrO.refl, l5.cg (fun k hk => by rw [hQ6]; dsimp only; rw [if_neg (by omega)])⟩
      · rw [if_neg c]
        obtain ⟨V6, e6, f6, l6⟩ := M153q M S5 (r := t) (k := 4) (by omega) (by decide) (by omega) KT5 l5
        rw [← hT] at l6
        refine ⟨V6, by rw [e6]; simp only [wcx_v, wput_n], f6, l6.cg (fun k hk => ?_)⟩
        rw [hQ6]; unfold pup; dsimp only
        by_cases k4 : k = 4
        · rw [if_pos (by omega), if_pos (by omega)]; rfl
        · rw [if_neg (by omega), if_neg (by omega)]
    obtain ⟨S6, KB6, KT6⟩ := fl S5 KB5 KT5 f6
    obtain ⟨Q7, hQ7⟩ : ∃ Q7 : Nat → List Int × Int, Q7 = fun k => if (k = 1 ∨ k = 2 ∨ k = 3) ∧ 4 ≤ w then T k else Q6 k := ⟨_, rfl⟩
    obtain ⟨V7, e7, f7, l7⟩ : ∃ V7, wev zP 191 53 [some (wR m), some (wI w), some (wI b), some (wI t)] [] (sh, V6) = wev zP 191 63 [some (wR m), some (wI w), some (wI b), some (wI t)] [] (sh, V7) ∧ FrO (lyO sh m) V6 V7 ∧ lK sh V7 m Q7 := by
      rw [w191_53]
      by_cases c : w ≤ 3
      · rw [if_pos c]
        exact ⟨V6, rfl, FrO.refl, l6.cg (fun k hk => by rw [hQ7]; dsimp only; rw [if_neg (by omega)])⟩
      · rw [if_neg c]
        obtain ⟨V7, e7, f7, l7⟩ := M154q M S6 (r := t) (by omega) (by omega) KT6 l6
        rw [← hT] at l7
        refine ⟨V7, by rw [e7]; simp only [wcx_v, wput_n], f7, l7.cg (fun k hk => ?_)⟩
        rw [hQ7]; dsimp only
        by_cases k4 : k = 1 ∨ k = 2 ∨ k = 3
        · rw [if_pos k4, if_pos ⟨k4, by omega⟩]
        · rw [if_neg k4, if_neg (fun z => k4 z.1)]
    obtain ⟨S7, KB7, KT7⟩ := fl S6 KB6 KT6 f7
    have fin : ∀ k, k < 7 → k ≠ 0 → Q7 k = qWay w B T k := fun k hk k0 => by
      unfold qWay
      rw [hQ7]; dsimp only
      by_cases k6 : k = 6
      · rw [if_neg (by omega), if_pos k6, hQ6]; dsimp only; rw [if_neg (by omega), hQ5]; dsimp only; rw [if_pos k6]
      · rw [if_neg (c := k = 6) k6]
        by_cases k5 : k = 5
        · rw [if_neg (by omega), if_pos k5, hQ6]; dsimp only; rw [if_neg (by omega), hQ5]; dsimp only; rw [if_neg k6, if_pos k5]
        · rw [if_neg (c := k = 5) k5]
          by_cases k4 : k = 4
          · rw [if_neg (by omega), if_pos k4, hQ6]; dsimp only
            by_cases c3 : 3 ≤ w
            · rw [if_pos ⟨k4, c3⟩, if_pos c3]
            · rw [if_neg (fun z => c3 z.2), if_neg c3, if_neg w2, hQ5]; dsimp only; rw [if_neg k6, if_neg k5]; unfold pNo; rw [if_pos k4]
          · rw [if_neg (c := k = 4) k4, if_neg k0]
            by_cases c4 : 4 ≤ w
            · rw [if_pos ⟨by omega, c4⟩, if_pos c4]
            · rw [if_neg (fun z => c4 z.2), if_neg c4, hQ6]; dsimp only; rw [if_neg (fun z => k4 z.1), hQ5]; dsimp only; rw [if_neg k6, if_neg k5]; unfold pNo; rw [if_neg k4]
    rw [e6, e7, w191_63, qe]
    rw [qe] at goal
    by_cases c : w ≤ 4
    · rw [if_pos c, w191_74]
      refine ⟨V7, rfl, sm5.trans (mSame_ly M (f6.trans f7)), goal V7 (l7.cg (fun k hk => ?_))⟩
      by_cases k0 : k = 0
      · subst k0
        rw [hQ7]; dsimp only; rw [if_neg (by omega), hQ6]; dsimp only; rw [if_neg (by omega), hQ5]
        show pNo 0 = _
        unfold qWay
        rw [if_neg (by decide), if_neg (by decide), if_neg (by decide), if_pos rfl, if_neg (by omega)]; rfl
      · exact fin k hk k0
    · rw [if_neg c]
      obtain ⟨V8, e8, f8, l8⟩ := M153q M S7 (r := t) (k := 0) (by omega) (by decide) (by omega) KT7 l7
      rw [← hT] at l8
      refine ⟨V8, by rw [e8]; simp only [wcx_v, wput_n, w191_74], sm5.trans (mSame_ly M ((f6.trans f7).trans f8)), goal V8 (l8.cg (fun k hk => ?_))⟩
      unfold pup
      by_cases k0 : k = 0
      · subst k0
        rw [if_pos (by decide)]
        unfold qWay
        rw [if_neg (by decide), if_neg (by decide), if_neg (by decide), if_pos rfl, if_pos (by omega)]; rfl
      · rw [if_neg (by omega)]; exact fin k hk k0
end
