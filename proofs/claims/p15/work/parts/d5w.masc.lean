set_option maxRecDepth 16384
/-! the model: without the last segment -/
section
variable {sh : zSh} {m : Nat} {V : wSt} {tp ou : List Int} {rw' : Nat → List Int}
/-- the first k parts are laid -/
def Lp (sh : zSh) (m : Nat) (V : wSt) (i : Int) (L : List Int) (k : Nat) (V1 : wSt) : Prop := mSame sh m V V1 ∧ lOk sh V1 m ∧ mK sh V1 m i L ∧ ∀ j, j < k → l1 sh V1 m j (cutQ L j)
theorem Lp.step {i : Int} {L : List Int} {k : Nat} {V1 : wSt} (M : wMd sh m) (S : mSz sh V m) (hi : 0 ≤ i ∧ i ≤ 13) (hL : L.length ≤ 400) (hk : k < 7) (p : Lp sh m V i L k V1) : ∃ V2, wcl zP 153 [wR m, wI k, wI i] (sh, V1) = rN (sh, V2) ∧ Lp sh m V i L (k + 1) V2 := by
  obtain ⟨p1, p2, p3, p4⟩ := p
  have S1 : mSz sh V1 m := by unfold mSz at *; rw [p1.2.1]; exact S
  obtain ⟨V2, e, f, l⟩ := M153l M S1 hi (k := (k : Int)) (by omega) (by omega) p3
  rw [Int.toNat_natCast] at f l
  refine ⟨V2, e, p1.trans (mSame_ly M f.1), lOk_Lf p2 f l, mK_fr M p3 f.1, fun j hj => ?_⟩
  by_cases c : j = k
  · rw [c]; exact l
  · exact f.2 j (by omega) c _ (p4 j (by omega))
theorem Lp.start {i : Int} {L : List Int} {V1 : wSt} (M : wMd sh m) (s : Mx sh m V tp ou rw') (f : FrB sh m i V V1) (K : mK sh V1 m i L) : Lp sh m V i L 0 V1 := ⟨mSame_34 M f.1, lOk_fr s.2.1 (f.1 _ (os34 M (by decide) (by decide))), K, fun j hj => absurd hj (Nat.not_lt_zero j)⟩
theorem M203_32 {i : Int} {L : List Int} (M : wMd sh m) (S : mSz sh V m) (hi : 0 ≤ i ∧ i ≤ 13) (hL : L.length ≤ 400) : ∀ (n k : Nat) (V1 : wSt), k + n = 7 → Lp sh m V i L k V1 → ∃ V2, wev zP 203 32 [some (wR m), some (wI i), some (wI k), none] [] (sh, V1) = wev zP 203 32 [some (wR m), some (wI i), some (wI 7), none] [] (sh, V2) ∧ Lp sh m V i L 7 V2 := by
  intro n
  induction n with
  | zero => intro k V1 hk p; rw [show k = 7 by omega] at p ⊢; exact ⟨V1, rfl, p⟩
  | succ n ih =>
    intro k V1 hk p
    obtain ⟨V2, e2, p2⟩ := p.step M S hi hL (by omega)
    obtain ⟨V3, e3, p3⟩ := ih (k + 1) V2 (by omega) p2
    refine ⟨V3, ?_, p3⟩
    rw [w203_32, if_neg (by omega), e2]
    simp only [wcx_v, wput_n, w203_44]
    rw [wr_eq (by omega) (by omega)]
    exact e3
/-- how much of a path stays, as the model finds it -/
def mz (L : List Int) (r k : Int) : Int := if fli (gl L) 47 0 (k - 1) + 1 < r then r else fli (gl L) 47 0 (k - 1) + 1
theorem fli_m1 (L : List Int) {e : Int} (h : e < 0) : fli (gl L) 47 0 e = -1 := (fli_st (gl L) 47 0 e).1 h
theorem mz_asc (L : List Int) : mz L (if gl L 0 = 47 then 1 else 0) (if (if gl L 0 = 47 then (1 : Int) else 0) < L.length ∧ gl L (L.length - 1) = 47 then L.length - 1 else L.length) = asc L := by
  have z0 : L.length = 0 → gl L 0 = -1 := fun h => gl_out (Or.inr (by omega))
  have r1 := fli_r2 (gl L) 47 0 _ ((L.length : Int) - 1) rfl
  have r2 := fli_r2 (gl L) 47 0 _ ((L.length : Int) - 1 - 1) rfl
  have h1 := fli_hit (f := gl L) (b := 47) (a := 0) _ ((L.length : Int) - 1) rfl
  have st := (fli_st (gl L) 47 0 ((L.length : Int) - 1)).2
  have m1 := fli_m1 L (e := -1) (by decide)
  have m2 := fli_m1 L (e := -1 - 1) (by decide)
  unfold asc asc1 mz
  obtain ⟨a, ha⟩ : ∃ a, a = fli (gl L) 47 0 ((L.length : Int) - 1) := ⟨_, rfl⟩
  rw [← ha] at r1 h1 st ⊢
  by_cases g : gl L 0 = 47
  · have n0 : L.length ≠ 0 := fun w => by rw [z0 w] at g; cases g
    rw [if_pos g]
    by_cases c : (1 : Int) < L.length ∧ gl L (L.length - 1) = 47
    · have e := (st (by omega)).1 c.2
      rw [if_pos c, if_pos (show a + 1 = L.length by omega), e]
      by_cases d : fli (gl L) 47 0 ((L.length : Int) - 1 - 1) + 1 < 1
      · rw [if_pos d, if_pos ⟨by omega, g⟩]
      · rw [if_neg d, if_neg (fun w => by omega)]
    · rw [if_neg c, ← ha]
      by_cases n1 : L.length = 1
      · have a0 : a = 0 := by
          have := (st (by omega)).1 (by rw [n1]; exact g)
          rw [n1] at this; exact this
        rw [a0, n1, if_pos (show (0 : Int) + 1 = ((1 : Nat) : Int) by decide), show (0 : Int) - 1 = -1 from rfl, m1, if_neg (by decide), if_pos ⟨by decide, g⟩]; rfl
      · have ne : a + 1 ≠ L.length := fun w => by
          rcases h1 with q | q
          · omega
          · exact c ⟨by omega, by rw [show (L.length : Int) - 1 = a by omega]; exact q.1⟩
        rw [if_neg ne]
        by_cases d : a + 1 < 1
        · rw [if_pos d, if_pos ⟨by omega, g⟩]
        · rw [if_neg d, if_neg (fun w => by omega)]
  · rw [if_neg g, if_neg (c := (if a + 1 = (L.length : Int) then fli (gl L) 47 0 (a - 1) + 1 else a + 1) = 0 ∧ gl L 0 = 47) (fun w => g w.2)]
    by_cases c : (0 : Int) < L.length ∧ gl L (L.length - 1) = 47
    · have e := (st (by omega)).1 c.2
      rw [if_pos c, if_pos (show a + 1 = L.length by omega), e, if_neg (by omega)]
    · rw [if_neg c, ← ha]
      by_cases n0 : L.length = 0
      · have am : a = -1 := by rcases r1 with q | q <;> omega
        rw [am, n0, if_pos (show (-1 : Int) + 1 = ((0 : Nat) : Int) by decide), m2, if_neg (by decide)]
      · have ne : a + 1 ≠ L.length := fun w => by
          rcases h1 with q | q
          · omega
          · exact c ⟨by omega, by rw [show (L.length : Int) - 1 = a by omega]; exact q.1⟩
        rw [if_neg ne, if_neg (by omega)]
theorem M203_84 {i r : Int} {X : List Int × Int} (l : l1 sh V m 4 X) (hr : r = 0 ∨ r = 1) : ∀ (n : Nat) (k : Int), k - r = n → k ≤ X.1.length → wev zP 203 84 [some (wR m), some (wI i), some (wI r), some (wI k)] [] (sh, V) = wcx (wcl zP 158 [wR m, wI i] (sh, uI V (sr sh m 10) 4 (mz X.1 r k))) (fun v h' => wev zP 203 120 [some (wR m), some (wI i), some (wI r), some (wI (mz X.1 r k))] (wput v []) h') wth := by
  have l15 := l.1
  have lz' := l.sz
  intro n
  induction n with
  | zero =>
    intro k hk hl
    have e : mz X.1 r k = k := by
      unfold mz
      have q := fli_r2 (gl X.1) 47 0 _ (k - 1) rfl
      by_cases c : fli (gl X.1) 47 0 (k - 1) + 1 < r
      · rw [if_pos c]; omega
      · rw [if_neg c]; omega
    rw [w203_84, if_pos (by omega), e]; rfl
  | succ n ih =>
    intro k hk hl
    rw [w203_84, if_neg (by omega), wr_eq (by omega) (by omega), M160l (k := 4) l (by decide) (k - 1)]
    simp only [wcx_v, wput_s, w203_97]
    have st := (fli_st (gl X.1) 47 0 (k - 1)).2 (by omega)
    by_cases c : gl X.1 (k - 1) = 47
    · have e : mz X.1 r k = k := by unfold mz; rw [st.1 c, if_neg (by omega)]; omega
      rw [if_pos c, e]; rfl
    · have e : mz X.1 r k = mz X.1 r (k - 1) := by unfold mz; rw [st.2 c, show k - 1 + -1 = k - 1 - 1 by omega]
      rw [if_neg c, wr_eq (by omega) (by omega), e]
      exact ih (k - 1) (by omega) (by omega)
theorem asc_r (L : List Int) : 0 ≤ asc L ∧ asc L ≤ L.length := by
  rw [← mz_asc]
  unfold mz
  have z0 : L.length = 0 → gl L 0 = -1 := fun h => gl_out (Or.inr (by omega))
  obtain ⟨k, hk⟩ : ∃ k : Int, k = if (if gl L 0 = 47 then (1 : Int) else 0) < L.length ∧ gl L (L.length - 1) = 47 then (L.length : Int) - 1 else L.length := ⟨_, rfl⟩
  rw [← hk]
  have q := fli_r2 (gl L) 47 0 _ (k - 1) rfl
  by_cases g : gl L 0 = 47
  · have n0 : L.length ≠ 0 := fun w => by rw [z0 w] at g; cases g
    rw [if_pos g] at hk ⊢
    split at hk <;> split <;> omega
  · rw [if_neg g] at hk ⊢
    split at hk <;> split <;> omega
theorem jn_4 {Q : Nat → List Int × Int} (h : (Q 4).2 ≠ 0) : jn Q 4 = (Q 4).1 := by
  rw [jn_l2 h]
  show [] ++ ((if (4 : Nat) = 1 ∨ ((4 : Nat) = 2 ∧ (Q 1).2 = 0) then [47, 47] else []) ++ ((Q 4).1 ++ [])) = _
  rw [if_neg (by omega), List.nil_append, List.nil_append, List.append_nil]
theorem cmm_asc (L : List Int) : (cmm (qAsc (cutQ L))).length ≤ L.length := by
  have e : (cmm (cutQ L)).length = L.length := by rw [cmm_cmp (Fl_cut L), cmp_cut]
  rw [← e, cmm_sum, cmm_sum]
  have o : ∀ k, k ≠ 4 → jn (qAsc (cutQ L)) k = jn (cutQ L) k := fun k hk => by
    have q : ∀ j, j ≠ 4 → qAsc (cutQ L) j = cutQ L j := fun j hj => by unfold qAsc pup; rw [if_neg hj]
    unfold jn; rw [q k hk, q 1 (by decide)]
  have f4 : (cutQ L 4).2 = 1 := (Fl_cut L).2.2.1
  have q4 : qAsc (cutQ L) 4 = ((cutQ L 4).1.take (asc (cutQ L 4).1).toNat, (cutQ L 4).2) := by unfold qAsc; rw [pup_at]
  have l4 : (jn (qAsc (cutQ L)) 4).length ≤ (jn (cutQ L) 4).length := by
    rw [jn_4 (Q := qAsc (cutQ L)) (by rw [q4]; show (cutQ L 4).2 ≠ 0; rw [f4]; decide), jn_4 (Q := cutQ L) (by rw [f4]; decide), q4]
    show ((cutQ L 4).1.take _).length ≤ _
    rw [List.length_take]; omega
  rw [o 0 (by decide), o 1 (by decide), o 2 (by decide), o 3 (by decide), o 5 (by decide), o 6 (by decide)]
  omega
theorem M203 (M : wMd sh m) (s : Mx sh m V tp ou rw') (i : Int) : (¬ (0 ≤ i ∧ i < 8) → wcl zP 203 [wR m, wI i] (sh, V) = rI 0 (sh, uI V m 0 1)) ∧
    (0 ≤ i ∧ i < 8 → ∀ N, N = cmm (qAsc (cutQ (rw' i.toNat))) → N.length ≤ 400 ∧ ∃ V', wcl zP 203 [wR m, wI i] (sh, V) = rI (N.length : Int) (sh, V') ∧ Mx sh m V' tp ou (rup rw' i.toNat N) ∧ V' m 0 = 0) := by
  have cc := fun x => (fld (V := V) M 0 x).2.2
  refine ⟨fun h => ?_, fun h N hN => ?_⟩
  · rw [w203_0, M127]
    simp only [wcx_v, wput_s]
    rw [if_neg (fun w => h ⟨w.1, by omega⟩), w203_5, if_pos rfl, cc 1, if_neg (by decide)]
  · have s0 := Mx_fld M s 0 (by decide) 0
    have hl := s0.2.2.2.2.2.2 i.toNat (by omega)
    have nl := cmm_asc (rw' i.toNat)
    rw [← hN] at nl
    obtain ⟨V1, e1, f1, K1, -⟩ := s0.K M (i := i) (by omega)
    obtain ⟨V2, e2, p2⟩ := M203_32 M s0.1 (i := i) (by omega) hl 7 0 V1 rfl (Lp.start M s0 f1 K1)
    obtain ⟨sm, lo, K2, l2⟩ := p2
    have s2 := s0.same sm lo
    obtain ⟨L, hL⟩ : ∃ L, L = rw' i.toNat := ⟨_, rfl⟩
    rw [← hL] at hN K2 l2 hl nl
    have cs := cut_sum L
    have l4 := l2 4 (by decide)
    have sz4 := l4.sz
    obtain ⟨X, hX⟩ : ∃ X, X = cutQ L 4 := ⟨_, rfl⟩
    rw [← hX] at l4 sz4
    have z4 : V2 (sr sh m 10) (Int.toNat 4) = (X.1.length : Int) := sz4
    have x4 : X.1.length ≤ 400 := by rw [hX]; omega
    obtain ⟨r, hr⟩ : ∃ r : Int, r = if gl X.1 0 = 47 then 1 else 0 := ⟨_, rfl⟩
    have r01 : r = 0 ∨ r = 1 := by rw [hr]; split
                                   · exact Or.inr rfl
                                   · exact Or.inl rfl
    have z0 : X.1.length = 0 → gl X.1 0 = -1 := fun h => gl_out (Or.inr (by omega))
    have rl : r ≤ X.1.length := by
      rw [hr]; split
      · rename_i g
        by_cases q : X.1.length = 0
        · rw [z0 q] at g; cases g
        · omega
      · omega
    have ma := mz_asc X.1
    rw [← hr] at ma
    obtain ⟨k, hk⟩ : ∃ k : Int, k = if r < (X.1.length : Int) ∧ gl X.1 (X.1.length - 1) = 47 then (X.1.length : Int) - 1 else X.1.length := ⟨_, rfl⟩
    rw [← hk] at ma
    have kr : r ≤ k ∧ k ≤ X.1.length := by rw [hk]; split <;> omega
    have e84 := M203_84 (i := i) l4 r01 (k - r).toNat k (by omega) kr.2
    rw [ma] at e84
    have ar := asc_r X.1
    obtain ⟨fc, lc'⟩ := l1_cut M l4 (asc X.1) ar.1 ar.2
    have lq : lK sh V2 m (cutQ L) := fun j hj => l2 j hj
    have lq2 := fc.K lq lc'
    have qe : pup (cutQ L) 4 (X.1.take (asc X.1).toNat, X.2) = qAsc (cutQ L) := by unfold qAsc; rw [← hX]
    rw [qe] at lq2
    have s3 := s2.same (mSame_ly M fc.1) lq2.six.ok
    obtain ⟨V4, e4, u4⟩ := M158q M s3.1 (r := i) (by omega) lq2 (by rw [← hN]; omega)
    rw [← hN] at u4
    have sm3 := mSame_ly M fc.1
    refine ⟨by omega, V4, ?_, s3.row M u4 (by omega) (by omega), by rw [u4.m M, sm3.2.2.2, sm.2.2.2]; exact cc 0⟩
    have g193 : wcl zP 193 [wR m, wI i] (sh, V2) = rI r (sh, V2) := by
      rw [M193 (L := L) s2.1 K2 (by omega) (by omega), hr, hX]
    have tail : wev zP 203 84 [some (wR m), some (wI i), some (wI r), some (wI k)] [] (sh, V2) = rI (N.length : Int) (sh, V4) := by
      rw [e84, e4]
      simp only [wcx_v, wput_n, w203_120]
      exact rI_cg (u4.sz (by omega))
    rw [w203_0, M127]
    simp only [wcx_v, wput_s]
    rw [if_pos ⟨h.1, by omega⟩, w203_5, if_neg (by decide), cc 0, if_pos (by decide), e1]
    simp only [wcx_v, wput_n, w203_30]
    have e2' : wev zP 203 32 [some (wR m), some (wI i), some (wI 0), none] [] (sh, V1) = _ := e2
    rw [e2', w203_32, if_pos (by decide), g193]
    simp only [wcx_v, wput_s, w203_55]
    rw [z4]
    by_cases c : (X.1.length : Int) ≤ r
    · rw [if_pos c, show (X.1.length : Int) = k by rw [hk, if_neg (fun w => by omega)]]
      exact tail
    · rw [if_neg c, wr_eq (by omega) (by omega), M160l (k := 4) l4 (by decide)]
      simp only [wcx_v, wput_s, w203_76]
      by_cases g : gl X.1 (X.1.length - 1) = 47
      · rw [if_pos g, wr_eq (by omega) (by omega), show (X.1.length : Int) + -1 = k by rw [hk, if_pos ⟨by omega, g⟩]; omega]
        exact tail
      · rw [if_neg g, show (X.1.length : Int) = k by rw [hk, if_neg (fun w => g w.2)]]
        exact tail
end
