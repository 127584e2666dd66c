set_option maxRecDepth 16384
/-! the model: what is laid becomes a text -/
def RmU (sh : zSh) (V V' : wSt) (m : Nat) (r : Int) (M' : List Int) : Prop := mSz sh V' m ∧ FrO [sr sh m 1, sr sh m 2] V V' ∧ mx sh V' m r = M' ∧ ∀ s : Nat, s < 14 → s ≠ r.toNat → V' (sr sh m 2) s = V (sr sh m 2) s ∧ (V (sr sh m 2) s ≤ 1500 → mx sh V' m s = mx sh V m s)
theorem RmU.trans {sh : zSh} {V V' W : wSt} {m : Nat} {r : Int} {M M' : List Int} (h : RmU sh V V' m r M) (g : RmU sh V' W m r M') : RmU sh V W m r M' := ⟨g.1, h.2.1.trans g.2.1, g.2.2.1, fun s hs n => by
  have a := h.2.2.2 s hs n
  have b := g.2.2.2 s hs n
  exact ⟨b.1.trans a.1, fun w => (b.2 (by rw [a.1]; exact w)).trans (a.2 w)⟩⟩
theorem RmU.sz {sh : zSh} {V V' : wSt} {m : Nat} {r : Int} {M : List Int} (h : RmU sh V V' m r M) (hr : 0 ≤ r ∧ r ≤ 13) : V' (sr sh m 2) r.toNat = (M.length : Int) := by
  rw [← h.2.2.1, mx_sz (h.1 r.toNat (by omega)).1]
theorem os12 {sh : zSh} {m j : Nat} (M : wMd sh m) (hj : j ∈ zARw) (n1 : j ≠ 1) (n2 : j ≠ 2) : sr sh m j ∉ [sr sh m 1, sr sh m 2] := fun w => by
  simp only [List.mem_cons, List.not_mem_nil, or_false] at w
  rcases w with w | w
  · exact M.n hj (by decide) n1 w
  · exact M.n hj (by decide) n2 w
theorem RmU.lK {sh : zSh} {V V' : wSt} {m : Nat} {r : Int} {M' : List Int} (h : RmU sh V V' m r M') (M : wMd sh m) {Q : Nat → List Int × Int} (K : lK sh V m Q) : Jvm.Pilot.CLinkLibraryLaw_law_r7063_89e837.lK sh V' m Q :=
  lK_fr K (h.2.1 _ (os12 M (j := 9) (by decide) (by decide) (by decide))) (h.2.1 _ (os12 M (j := 10) (by decide) (by decide) (by decide))) (h.2.1 _ (os12 M (j := 11) (by decide) (by decide) (by decide)))
theorem M156q {sh : zSh} {V : wSt} {m : Nat} (M : wMd sh m) (S : mSz sh V m) {r : Int} (hr : 0 ≤ r ∧ r ≤ 13) (x : Int) (hs : (mx sh V m r).length < 1500) : ∃ V', wcl zP 156 [wR m, wI r, wI x] (sh, V) = rN (sh, V') ∧ RmU sh V V' m r (mx sh V m r ++ [x]) := by
  have sz := mx_sz (sh := sh) (V := V) (m := m) (r := r) (S r.toNat (by omega)).1
  obtain ⟨V', e, f, t, v2, v1⟩ := M156 M S hr x (by omega)
  refine ⟨V', e, fun s hs => ?_, f, t, fun s hs n => ⟨by rw [v2, if_neg n], fun h15 => ?_⟩⟩
  · rw [v2]
    have := S s hs
    split
    · omega
    · exact this
  · refine mx_same (by rw [v2, Int.toNat_natCast, if_neg n]) (fun k hk => ?_)
    rw [Int.toNat_natCast] at hk ⊢
    rw [v1, if_neg (by omega)]
theorem M157_2 {sh : zSh} {m : Nat} (M : wMd sh m) {r k : Int} (hr : 0 ≤ r ∧ r ≤ 13) (hk : 0 ≤ k ∧ k ≤ 6) (Q : Nat → List Int × Int) : ∀ (n : Nat) (V : wSt) (j : Int), (((Q k.toNat).1.length : Int) - j).toNat = n → 0 ≤ j → mSz sh V m → lK sh V m Q → (mx sh V m r).length + n ≤ 1500 → ∃ V', wev zP 157 2 [some (wR m), some (wI r), some (wI k), some (wI j)] [] (sh, V) = rN (sh, V') ∧ RmU sh V V' m r (mx sh V m r ++ (Q k.toNat).1.drop j.toNat) := by
  intro n
  induction n with
  | zero =>
    intro V j hn hj S K hl
    have sz := K.sz (k := k.toNat) (by omega)
    refine ⟨V, ?_, S, FrO.refl, ?_, fun s _ _ => ⟨rfl, fun _ => rfl⟩⟩
    · rw [w157_2, sz, if_pos (by omega)]
    · rw [List.drop_of_length_le (by omega), List.append_nil]
  | succ n ih =>
    intro V j hn hj S K hl
    have sz := K.sz (k := k.toNat) (by omega)
    have q := (K k.toNat (by omega)).1
    have g := K.gl (k := k.toNat) (by omega) j
    rw [if_pos (by omega)] at g
    obtain ⟨V1, e1, u1⟩ := M156q M S hr (gl (Q k.toNat).1 j) (by omega)
    obtain ⟨V2, e2, u2⟩ := ih V1 (j + 1) (by omega) (by omega) u1.1 (u1.lK M K) (by rw [u1.2.2.1, List.length_append]; simp only [List.length_cons, List.length_nil]; omega)
    rw [u1.2.2.1, List.append_assoc, List.singleton_append] at u2
    refine ⟨V2, ?_, ?_⟩
    · rw [w157_2, sz, if_neg (by omega), wr_eq (x := 1500 * k) (by omega) (by omega), wr_eq (x := 1500 * k + j) (by omega) (by omega), show (1500 * k + j).toNat = 1500 * k.toNat + j.toNat by omega, ← g, e1]
      simp only [wcx_v, wput_n, w157_29]
      rw [wr_eq (by omega) (by omega), e2]
    · rw [drop_gl (L := (Q k.toNat).1) hj (by omega)]; exact u1.trans u2
theorem M157q {sh : zSh} {V : wSt} {m : Nat} (M : wMd sh m) (S : mSz sh V m) {r k : Int} (hr : 0 ≤ r ∧ r ≤ 13) (hk : 0 ≤ k ∧ k ≤ 6) {Q : Nat → List Int × Int} (K : lK sh V m Q) (hl : (mx sh V m r).length + (Q k.toNat).1.length ≤ 1500) : ∃ V', wcl zP 157 [wR m, wI r, wI k] (sh, V) = rN (sh, V') ∧ RmU sh V V' m r (mx sh V m r ++ (Q k.toNat).1) := by
  rw [w157_0]
  exact M157_2 M hr hk Q _ V 0 rfl (by decide) S K (by omega)
/-- a part as the model writes it -/
def jn (Q : Nat → List Int × Int) (k : Nat) : List Int := if (Q k).2 = 0 then [] else (if k = 3 then [58] else if k = 5 then [63] else if k = 6 then [35] else []) ++ ((if k = 1 ∨ (k = 2 ∧ (Q 1).2 = 0) then [47, 47] else []) ++ ((Q k).1 ++ (if k = 0 then [58] else if k = 1 then [64] else [])))
def jns (Q : Nat → List Int × Int) : Nat → Nat → List Int
  | 0, _ => []
  | n + 1, k => jn Q k ++ jns Q n (k + 1)
theorem M158_9 {sh : zSh} {m : Nat} (M : wMd sh m) {r : Int} (hr : 0 ≤ r ∧ r ≤ 13) (Q : Nat → List Int × Int) : ∀ (n : Nat) (V : wSt) (k : Nat), 7 - k = n → mSz sh V m → lK sh V m Q → (mx sh V m r).length + (jns Q n k).length ≤ 1490 → ∃ V', wev zP 158 9 [some (wR m), some (wI r), some (wI (k : Int))] [] (sh, V) = rN (sh, V') ∧ RmU sh V V' m r (mx sh V m r ++ jns Q n k) := by
  intro n
  induction n with
  | zero =>
    intro V k hn S K hl
    refine ⟨V, by rw [w158_9, if_pos (by omega)], S, FrO.refl, (List.append_nil _).symm, fun s _ _ => ⟨rfl, fun _ => rfl⟩⟩
  | succ n ih =>
    intro V k hn S K hl
    have hk : k < 7 := by omega
    rw [jns, List.length_append] at hl
    have th := K.th hk
    have refl : RmU sh V V m r (mx sh V m r) := ⟨S, FrO.refl, rfl, fun s _ _ => ⟨rfl, fun _ => rfl⟩⟩
    -- the next part
    have nxt : ∀ V1, RmU sh V V1 m r (mx sh V m r ++ jn Q k) → ∃ V', wev zP 158 145 [some (wR m), some (wI r), some (wI (k : Int))] [] (sh, V1) = rN (sh, V') ∧ RmU sh V V' m r (mx sh V m r ++ jns Q (n + 1) k) := fun V1 u1 => by
      obtain ⟨V2, e2, u2⟩ := ih V1 (k + 1) (by omega) u1.1 (u1.lK M K) (by rw [u1.2.2.1, List.length_append]; omega)
      rw [u1.2.2.1, List.append_assoc] at u2
      refine ⟨V2, ?_, u1.trans u2⟩
      rw [w158_145, wr_eq (by omega) (by omega), show (k : Int) + 1 = ((k + 1 : Nat) : Int) by omega, e2]
    rw [w158_9, if_neg (by omega), Int.toNat_natCast, th]
    by_cases c0 : (Q k).2 = 0
    · rw [if_pos c0]
      exact nxt V (by rw [show jn Q k = [] by unfold jn; rw [if_pos c0], List.append_nil]; exact refl)
    rw [if_neg c0]
    have jl : (jn Q k).length ≤ 1490 := by omega
    have je : jn Q k = (if k = 3 then [58] else if k = 5 then [63] else if k = 6 then [35] else []) ++ ((if k = 1 ∨ (k = 2 ∧ (Q 1).2 = 0) then [47, 47] else []) ++ ((Q k).1 ++ (if k = 0 then [58] else if k = 1 then [64] else []))) := by unfold jn; rw [if_neg c0]
    obtain ⟨a, ha⟩ : ∃ a : List Int, a = if k = 3 then [58] else if k = 5 then [63] else if k = 6 then [35] else [] := ⟨_, rfl⟩
    obtain ⟨b, hb⟩ : ∃ b : List Int, b = if k = 1 ∨ (k = 2 ∧ (Q 1).2 = 0) then [47, 47] else [] := ⟨_, rfl⟩
    obtain ⟨c, hc⟩ : ∃ c : List Int, c = if k = 0 then [58] else if k = 1 then [64] else [] := ⟨_, rfl⟩
    rw [← ha, ← hb, ← hc] at je
    have jl2 : (jn Q k).length = a.length + (b.length + ((Q k).1.length + c.length)) := by rw [je]; simp only [List.length_append]
    have put : ∀ (V1 : wSt) (X : List Int) (x : Int), RmU sh V V1 m r (mx sh V m r ++ X) → (mx sh V m r).length + X.length < 1500 → ∃ V2, wcl zP 156 [wR m, wI r, wI x] (sh, V1) = rN (sh, V2) ∧ RmU sh V V2 m r (mx sh V m r ++ (X ++ [x])) := fun V1 X x u1 h1 => by
      obtain ⟨V2, e2, u2⟩ := M156q M u1.1 hr x (by rw [u1.2.2.1, List.length_append]; omega)
      rw [u1.2.2.1, List.append_assoc] at u2
      exact ⟨V2, e2, u1.trans u2⟩
    have sE : ∀ V1, RmU sh V V1 m r (mx sh V m r ++ (a ++ (b ++ (Q k).1))) → ∃ V', wev zP 158 120 [some (wR m), some (wI r), some (wI (k : Int))] [] (sh, V1) = rN (sh, V') ∧ RmU sh V V' m r (mx sh V m r ++ jns Q (n + 1) k) := fun V1 u1 => by
      have l1 : (a ++ (b ++ (Q k).1)).length = a.length + (b.length + (Q k).1.length) := by simp only [List.length_append]
      have done : c = [] → ∃ V', wev zP 158 145 [some (wR m), some (wI r), some (wI (k : Int))] [] (sh, V1) = rN (sh, V') ∧ RmU sh V V' m r (mx sh V m r ++ jns Q (n + 1) k) := fun h => nxt V1 (by rw [je, h, List.append_nil]; exact u1)
      have more : ∀ x : Int, c = [x] → ∃ V', wcx (wcl zP 156 [wR m, wI r, wI x] (sh, V1)) (fun v h' => wev zP 158 145 [some (wR m), some (wI r), some (wI (k : Int))] (wput v []) h') wth = rN (sh, V') ∧ RmU sh V V' m r (mx sh V m r ++ jns Q (n + 1) k) := fun x h => by
        obtain ⟨V2, e2, u2⟩ := put V1 _ x u1 (by omega)
        obtain ⟨V3, e3, u3⟩ := nxt V2 (by rw [je, h]; rw [List.append_assoc, List.append_assoc] at u2; exact u2)
        exact ⟨V3, by rw [e2]; simp only [wcx_v, wput_n]; exact e3, u3⟩
      rw [w158_120]
      by_cases d0 : k = 0
      · rw [if_pos (by omega), w158_129, if_pos (by omega), w158_142]; exact more 58 (by rw [hc, if_pos d0])
      · rw [if_neg (by omega)]
        by_cases d1 : k = 1
        · rw [if_pos (by omega), w158_129, if_neg (by omega), w158_142]; exact more 64 (by rw [hc, if_neg d0, if_pos d1])
        · rw [if_neg (by omega)]; exact done (by rw [hc, if_neg d0, if_neg d1])
    have sD : ∀ V1, RmU sh V V1 m r (mx sh V m r ++ (a ++ b)) → ∃ V', wev zP 158 114 [some (wR m), some (wI r), some (wI (k : Int))] [] (sh, V1) = rN (sh, V') ∧ RmU sh V V' m r (mx sh V m r ++ jns Q (n + 1) k) := fun V1 u1 => by
      obtain ⟨V2, e2, u2⟩ := M157q M u1.1 hr (k := (k : Int)) (by omega) (u1.lK M K) (by rw [u1.2.2.1, List.length_append, List.length_append, Int.toNat_natCast]; omega)
      rw [u1.2.2.1, List.append_assoc, List.append_assoc, Int.toNat_natCast] at u2
      obtain ⟨V3, e3, u3⟩ := sE V2 (u1.trans u2)
      exact ⟨V3, by rw [w158_114, e2]; simp only [wcx_v, wput_n]; exact e3, u3⟩
    have two : ∀ V1, RmU sh V V1 m r (mx sh V m r ++ a) → b = [47, 47] → ∃ V2 V3, wcl zP 156 [wR m, wI r, wI 47] (sh, V1) = rN (sh, V2) ∧ wcl zP 156 [wR m, wI r, wI 47] (sh, V2) = rN (sh, V3) ∧ RmU sh V V3 m r (mx sh V m r ++ (a ++ b)) := fun V1 u1 h => by
      have bl : b.length = 2 := by rw [h]; rfl
      obtain ⟨V2, e2, u2⟩ := put V1 _ 47 u1 (by omega)
      obtain ⟨V3, e3, u3⟩ := put V2 _ 47 u2 (by rw [List.length_append]; simp only [List.length_cons, List.length_nil]; omega)
      rw [List.append_assoc] at u3
      exact ⟨V2, V3, e2, e3, by rw [h]; exact u3⟩
    have sB : ∀ V1, RmU sh V V1 m r (mx sh V m r ++ a) → ∃ V', wev zP 158 67 [some (wR m), some (wI r), some (wI (k : Int))] [] (sh, V1) = rN (sh, V') ∧ RmU sh V V' m r (mx sh V m r ++ jns Q (n + 1) k) := fun V1 u1 => by
      have t1 : V1 (sr sh m 11) (Int.toNat 1) = (Q 1).2 := (u1.lK M K).th (k := 1) (by decide)
      have no : b = [] → ∃ V', wev zP 158 114 [some (wR m), some (wI r), some (wI (k : Int))] [] (sh, V1) = rN (sh, V') ∧ RmU sh V V' m r (mx sh V m r ++ jns Q (n + 1) k) := fun h => sD V1 (by rw [h, List.append_nil]; exact u1)
      rw [w158_67, t1]
      by_cases d2 : k = 2
      · rw [if_pos (by omega)]
        by_cases d3 : (Q 1).2 = 0
        · rw [if_pos d3]
          obtain ⟨V2, V3, e2, e3, u3⟩ := two V1 u1 (by rw [hb, if_pos (Or.inr ⟨d2, d3⟩)])
          obtain ⟨V4, e4, u4⟩ := sD V3 u3
          refine ⟨V4, ?_, u4⟩
          rw [e2]; simp only [wcx_v, wput_n, w158_88]
          rw [e3]; simp only [wcx_v, wput_n]
          rw [w158_95, if_neg (by omega)]; exact e4
        · rw [if_neg d3, w158_95, if_neg (by omega)]
          exact no (by rw [hb, if_neg (fun w => w.elim (fun z => by omega) (fun z => d3 z.2))])
      · rw [if_neg (by omega), w158_95]
        by_cases d1 : k = 1
        · rw [if_pos (by omega)]
          obtain ⟨V2, V3, e2, e3, u3⟩ := two V1 u1 (by rw [hb, if_pos (Or.inl d1)])
          obtain ⟨V4, e4, u4⟩ := sD V3 u3
          refine ⟨V4, ?_, u4⟩
          rw [e2]; simp only [wcx_v, wput_n, w158_107]
          rw [e3]; simp only [wcx_v, wput_n]; exact e4
        · rw [if_neg (by omega)]
          exact no (by rw [hb, if_neg (fun w => w.elim d1 (fun z => d2 z.1))])
    have mark : ∀ x : Int, a = [x] → ∃ V', wcx (wcl zP 156 [wR m, wI r, wI x] (sh, V)) (fun v h' => wev zP 158 67 [some (wR m), some (wI r), some (wI (k : Int))] (wput v []) h') wth = rN (sh, V') ∧ RmU sh V V' m r (mx sh V m r ++ jns Q (n + 1) k) := fun x h => by
      obtain ⟨V2, e2, u2⟩ := put V [] x (by rw [List.append_nil]; exact refl) (by rw [List.length_nil]; omega)
      obtain ⟨V3, e3, u3⟩ := sB V2 (by rw [h]; exact u2)
      exact ⟨V3, by rw [e2]; simp only [wcx_v, wput_n]; exact e3, u3⟩
    by_cases d3 : k = 3
    · rw [if_pos (by omega), w158_40, if_pos (by omega), w158_64]; exact mark 58 (by rw [ha, if_pos d3])
    · rw [if_neg (by omega)]
      by_cases d5 : k = 5
      · rw [if_pos (by omega), w158_40, if_neg (by omega), if_pos (by omega), w158_64]; exact mark 63 (by rw [ha, if_neg d3, if_pos d5])
      · rw [if_neg (by omega)]
        by_cases d6 : k = 6
        · rw [if_pos (by omega), w158_40, if_neg (by omega), if_neg (by omega), w158_64]; exact mark 35 (by rw [ha, if_neg d3, if_neg d5, if_pos d6])
        · rw [if_neg (by omega)]
          exact sB V (by rw [show a = [] by rw [ha, if_neg d3, if_neg d5, if_neg d6], List.append_nil]; exact refl)
/-- what is laid, as a text -/
def cmm (Q : Nat → List Int × Int) : List Int := jns Q 7 0
theorem M158q {sh : zSh} {V : wSt} {m : Nat} (M : wMd sh m) (S : mSz sh V m) {r : Int} (hr : 0 ≤ r ∧ r ≤ 13) {Q : Nat → List Int × Int} (K : lK sh V m Q) (hl : (cmm Q).length ≤ 1490) : ∃ V', wcl zP 158 [wR m, wI r] (sh, V) = rN (sh, V') ∧ RmU sh V V' m r (cmm Q) := by
  have n12 : sr sh m 1 ≠ sr sh m 2 := M.n (by decide) (by decide) (by decide)
  obtain ⟨W, hW⟩ : ∃ W, W = uI V (sr sh m 2) (Int.toNat r) 0 := ⟨_, rfl⟩
  have w2 : ∀ j, W (sr sh m 2) j = if j = r.toNat then 0 else V (sr sh m 2) j := fun j => by
    rw [hW]; unfold uI
    by_cases d : j = r.toNat
    · rw [if_pos ⟨rfl, d⟩, if_pos d]
    · rw [if_neg (fun c => d c.2), if_neg d]
  have w1 : W (sr sh m 1) = V (sr sh m 1) := by funext j; rw [hW]; unfold uI; rw [if_neg (fun c => n12 c.1)]
  have u0 : RmU sh V W m r [] := by
    refine ⟨fun s hs => ?_, by rw [hW]; exact uI_fr (List.mem_cons_of_mem _ (List.mem_cons_self)), ?_, fun s hs n => ⟨by rw [w2, if_neg n], fun _ => ?_⟩⟩
    · rw [w2]; split
      · decide
      · exact S s hs
    · exact mx_ext (by rw [w2, if_pos rfl]; rfl) (fun k hk => absurd hk (Nat.not_lt_zero k))
    · exact mx_same (by rw [w2, Int.toNat_natCast, if_neg n]) (fun k _ => by rw [w1])
  obtain ⟨V2, e2, u2⟩ := M158_9 M hr Q 7 W 0 rfl u0.1 (u0.lK M K) (by rw [u0.2.2.1, List.length_nil]; show 0 + (cmm Q).length ≤ 1490; omega)
  rw [u0.2.2.1, List.nil_append] at u2
  refine ⟨V2, ?_, u0.trans u2⟩
  rw [w158_0, ← hW]; exact e2
