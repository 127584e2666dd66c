set_option maxRecDepth 16384
/-! joining what is too long: how long it is -/
/-- row 11 is of a size, the other rows but 12 are as they were -/
def Rz (sh : zSh) (m : Nat) (V : wSt) (z : Nat) (V' : wSt) : Prop := FrO [sr sh m 1, sr sh m 2] V V' ∧ (∀ j, j ≠ 11 → V' (sr sh m 2) j = V (sr sh m 2) j) ∧ V' (sr sh m 2) 11 = (z : Int) ∧ ∀ j : Nat, (j < 16500 ∨ 19500 ≤ j) → V' (sr sh m 1) j = V (sr sh m 1) j
section
variable {sh : zSh} {m : Nat} {V : wSt}
theorem Rz.put {z : Nat} {V1 : wSt} (M : wMd sh m) (h : Rz sh m V z V1) (hz : z < 3000) (x : Int) : ∃ V2, wcl zP 156 [wR m, wI 11, wI x] (sh, V1) = rN (sh, V2) ∧ Rz sh m V (z + 1) V2 := by
  have n12 : sr sh m 1 ≠ sr sh m 2 := M.n (by decide) (by decide) (by decide)
  obtain ⟨h1, h2, h3, h4⟩ := h
  rw [w156_0, show Int.toNat 11 = 11 from rfl, h3, wr_eq (x := 1500 * 11) (by omega) (by omega), wr_eq (x := 1500 * 11 + _) (by omega) (by omega), show (1500 * 11 + (z : Int)).toNat = 16500 + z by omega]
  have e1 : uI V1 (sr sh m 1) (16500 + z) x (sr sh m 2) 11 = (z : Int) := by unfold uI; rw [if_neg (fun c => n12 c.1.symm)]; exact h3
  rw [e1, wr_eq (by omega) (by omega)]
  refine ⟨_, rfl, h1.trans (fun b hb => ?_), fun j hj => ?_, ?_, fun j hj => ?_⟩
  · funext j
    unfold uI
    rw [if_neg (fun c => hb (by rw [c.1]; exact List.mem_cons_of_mem _ List.mem_cons_self)), if_neg (fun c => hb (by rw [c.1]; exact List.mem_cons_self))]
  · unfold uI; rw [if_neg (fun c => hj c.2), if_neg (fun c => n12 c.1.symm)]; exact h2 j hj
  · unfold uI; rw [if_pos ⟨rfl, rfl⟩]; omega
  · unfold uI; rw [if_neg (fun c => n12 c.1), if_neg (fun c => by omega)]; exact h4 j hj
theorem M157z_2 (M : wMd sh m) {k : Nat} (hk : k < 7) {n : Nat} (hn : V (sr sh m 10) k = (n : Int)) (hl : n ≤ 3000) : ∀ (q : Nat) (j : Nat) (V1 : wSt) (z : Nat), j + q = n → z + q ≤ 3000 → Rz sh m V z V1 → ∃ V2, wev zP 157 2 [some (wR m), some (wI 11), some (wI k), some (wI j)] [] (sh, V1) = rN (sh, V2) ∧ Rz sh m V (z + q) V2 := by
  have n10 : sr sh m 10 ∉ [sr sh m 1, sr sh m 2] := os12 M (by decide) (by decide) (by decide)
  intro q
  induction q with
  | zero =>
    intro j V1 z h1 h2 h
    refine ⟨V1, ?_, h⟩
    rw [w157_2, Int.toNat_natCast, h.1 _ n10, hn, if_pos (by omega)]
  | succ q ih =>
    intro j V1 z h1 h2 h
    obtain ⟨V2, e2, r2⟩ := h.put M (by omega) (V1 (sr sh m 9) (1500 * (k : Int) + j).toNat)
    obtain ⟨V3, e3, r3⟩ := ih (j + 1) V2 (z + 1) (by omega) (by omega) r2
    refine ⟨V3, ?_, by rw [show z + (q + 1) = z + 1 + q by omega]; exact r3⟩
    rw [w157_2, Int.toNat_natCast, h.1 _ n10, hn, if_neg (by omega), wr_eq (x := 1500 * (k : Int)) (by omega) (by omega), wr_eq (x := 1500 * (k : Int) + j) (by omega) (by omega), e2]
    simp only [wcx_v, wput_n, w157_29]
    rw [wr_eq (by omega) (by omega), show (j : Int) + 1 = ((j + 1 : Nat) : Int) by omega, e3]
theorem M158z_9 (M : wMd sh m) {Q : Nat → List Int × Int} (Z : lz sh V m Q) : ∀ (n : Nat) (V1 : wSt) (k z : Nat), 7 - k = n → Rz sh m V z V1 → z + (jns Q n k).length ≤ 2900 → ∃ V', wev zP 158 9 [some (wR m), some (wI 11), some (wI (k : Int))] [] (sh, V1) = rN (sh, V') ∧ Rz sh m V (z + (jns Q n k).length) V' := by
  have n11 : sr sh m 11 ∉ [sr sh m 1, sr sh m 2] := os12 M (by decide) (by decide) (by decide)
  intro n
  induction n with
  | zero => intro V1 k z hn h hl; exact ⟨V1, by rw [w158_9, if_pos (by omega)], h⟩
  | succ n ih =>
    intro V1 k z hn h hl
    have hk : k < 7 := by omega
    rw [jns, List.length_append] at hl ⊢
    have th : ∀ {U : wSt} {y : Nat}, Rz sh m V y U → ∀ i, i < 7 → U (sr sh m 11) i = (Q i).2 := fun r i hi => by rw [r.1 _ n11]; exact (Z i hi).2
    have nxt : ∀ V2, Rz sh m V (z + (jn Q k).length) V2 → ∃ V', wev zP 158 145 [some (wR m), some (wI 11), some (wI (k : Int))] [] (sh, V2) = rN (sh, V') ∧ Rz sh m V (z + ((jn Q k).length + (jns Q n (k + 1)).length)) V' := fun V2 r2 => by
      obtain ⟨V3, e3, r3⟩ := ih V2 (k + 1) _ (by omega) r2 (by omega)
      refine ⟨V3, ?_, by rw [← Nat.add_assoc]; exact r3⟩
      rw [w158_145, wr_eq (by omega) (by omega), show (k : Int) + 1 = ((k + 1 : Nat) : Int) by omega, e3]
    rw [w158_9, if_neg (by omega), Int.toNat_natCast, th h k hk]
    by_cases c0 : (Q k).2 = 0
    · rw [if_pos c0]
      exact nxt V1 (by rw [show jn Q k = [] by unfold jn; rw [if_pos c0]]; exact h)
    rw [if_neg c0]
    have je : jn Q k = (if k = 3 then [58] else if k = 5 then [63] else if k = 6 then [35] else []) ++ ((if k = 1 ∨ (k = 2 ∧ (Q 1).2 = 0) then [47, 47] else []) ++ ((Q k).1 ++ (if k = 0 then [58] else if k = 1 then [64] else []))) := by unfold jn; rw [if_neg c0]
    obtain ⟨a, ha⟩ : ∃ a : List Int, a = if k = 3 then [58] else if k = 5 then [63] else if k = 6 then [35] else [] := ⟨_, rfl⟩
    obtain ⟨b, hb⟩ : ∃ b : List Int, b = if k = 1 ∨ (k = 2 ∧ (Q 1).2 = 0) then [47, 47] else [] := ⟨_, rfl⟩
    obtain ⟨c, hc⟩ : ∃ c : List Int, c = if k = 0 then [58] else if k = 1 then [64] else [] := ⟨_, rfl⟩
    rw [← ha, ← hb, ← hc] at je
    have jl : (jn Q k).length = a.length + (b.length + ((Q k).1.length + c.length)) := by rw [je]; simp only [List.length_append]
    have sE : ∀ V2, Rz sh m V (z + a.length + b.length + (Q k).1.length) V2 → ∃ V', wev zP 158 120 [some (wR m), some (wI 11), some (wI (k : Int))] [] (sh, V2) = rN (sh, V') ∧ Rz sh m V (z + ((jn Q k).length + (jns Q n (k + 1)).length)) V' := fun V2 r2 => by
      have done : c = [] → ∃ V', wev zP 158 145 [some (wR m), some (wI 11), some (wI (k : Int))] [] (sh, V2) = rN (sh, V') ∧ Rz sh m V (z + ((jn Q k).length + (jns Q n (k + 1)).length)) V' := fun e => nxt V2 (by rw [jl, e]; rw [show z + (a.length + (b.length + ((Q k).1.length + ([] : List Int).length))) = z + a.length + b.length + (Q k).1.length by simp only [List.length_nil]; omega]; exact r2)
      have more : ∀ x : Int, c = [x] → ∃ V', wcx (wcl zP 156 [wR m, wI 11, wI x] (sh, V2)) (fun v h' => wev zP 158 145 [some (wR m), some (wI 11), some (wI (k : Int))] (wput v []) h') wth = rN (sh, V') ∧ Rz sh m V (z + ((jn Q k).length + (jns Q n (k + 1)).length)) V' := fun x e => by
        have cl : c.length = 1 := by rw [e]; rfl
        obtain ⟨V3, e3, r3⟩ := r2.put M (by omega) x
        obtain ⟨V4, e4, r4⟩ := nxt V3 (by rw [jl, show z + (a.length + (b.length + ((Q k).1.length + c.length))) = z + a.length + b.length + (Q k).1.length + 1 by omega]; exact r3)
        exact ⟨V4, by rw [e3]; simp only [wcx_v, wput_n]; exact e4, r4⟩
      rw [w158_120]
      by_cases d0 : k = 0
      · rw [if_pos (by omega), w158_129, if_pos (by omega), w158_142]; exact more 58 (by rw [hc, if_pos d0])
      · rw [if_neg (by omega)]
        by_cases d1 : k = 1
        · rw [if_pos (by omega), w158_129, if_neg (by omega), w158_142]; exact more 64 (by rw [hc, if_neg d0, if_pos d1])
        · rw [if_neg (by omega)]; exact done (by rw [hc, if_neg d0, if_neg d1])
    have sD : ∀ V2, Rz sh m V (z + a.length + b.length) V2 → ∃ V', wev zP 158 114 [some (wR m), some (wI 11), some (wI (k : Int))] [] (sh, V2) = rN (sh, V') ∧ Rz sh m V (z + ((jn Q k).length + (jns Q n (k + 1)).length)) V' := fun V2 r2 => by
      obtain ⟨V3, e3, r3⟩ := M157z_2 M hk (Z k hk).1 (by omega) (Q k).1.length 0 V2 _ (by omega) (by omega) r2
      obtain ⟨V4, e4, r4⟩ := sE V3 r3
      refine ⟨V4, ?_, r4⟩
      rw [w158_114, w157_0]
      have e3' : wev zP 157 2 [some (wR m), some (wI 11), some (wI (k : Int)), some (wI 0)] [] (sh, V2) = rN (sh, V3) := e3
      rw [e3']
      simp only [wcx_v, wput_n]
      exact e4
    have two : ∀ V2, Rz sh m V (z + a.length) V2 → b = [47, 47] → ∃ V3 V4, wcl zP 156 [wR m, wI 11, wI 47] (sh, V2) = rN (sh, V3) ∧ wcl zP 156 [wR m, wI 11, wI 47] (sh, V3) = rN (sh, V4) ∧ Rz sh m V (z + a.length + b.length) V4 := fun V2 r2 e => by
      have bl : b.length = 2 := by rw [e]; rfl
      obtain ⟨V3, e3, r3⟩ := r2.put M (by omega) 47
      obtain ⟨V4, e4, r4⟩ := r3.put M (by omega) 47
      exact ⟨V3, V4, e3, e4, by rw [bl]; exact r4⟩
    have sB : ∀ V2, Rz sh m V (z + a.length) V2 → ∃ V', wev zP 158 67 [some (wR m), some (wI 11), some (wI (k : Int))] [] (sh, V2) = rN (sh, V') ∧ Rz sh m V (z + ((jn Q k).length + (jns Q n (k + 1)).length)) V' := fun V2 r2 => by
      have t1 : V2 (sr sh m 11) (Int.toNat 1) = (Q 1).2 := th r2 1 (by decide)
      have no : b = [] → ∃ V', wev zP 158 114 [some (wR m), some (wI 11), some (wI (k : Int))] [] (sh, V2) = rN (sh, V') ∧ Rz sh m V (z + ((jn Q k).length + (jns Q n (k + 1)).length)) V' := fun e => sD V2 (by rw [e]; exact r2)
      rw [w158_67, t1]
      by_cases d2 : k = 2
      · rw [if_pos (by omega)]
        by_cases d3 : (Q 1).2 = 0
        · rw [if_pos d3]
          obtain ⟨V3, V4, e3, e4, r4⟩ := two V2 r2 (by rw [hb, if_pos (Or.inr ⟨d2, d3⟩)])
          obtain ⟨V5, e5, r5⟩ := sD V4 r4
          refine ⟨V5, ?_, r5⟩
          rw [e3]; simp only [wcx_v, wput_n, w158_88]
          rw [e4]; simp only [wcx_v, wput_n]
          rw [w158_95, if_neg (by omega)]; exact e5
        · rw [if_neg d3, w158_95, if_neg (by omega)]
          exact no (by rw [hb, if_neg (fun w => w.elim (fun z => by omega) (fun z => d3 z.2))])
      · rw [if_neg (by omega), w158_95]
        by_cases d1 : k = 1
        · rw [if_pos (by omega)]
          obtain ⟨V3, V4, e3, e4, r4⟩ := two V2 r2 (by rw [hb, if_pos (Or.inl d1)])
          obtain ⟨V5, e5, r5⟩ := sD V4 r4
          refine ⟨V5, ?_, r5⟩
          rw [e3]; simp only [wcx_v, wput_n, w158_107]
          rw [e4]; simp only [wcx_v, wput_n]; exact e5
        · rw [if_neg (by omega)]
          exact no (by rw [hb, if_neg (fun w => w.elim d1 (fun z => d2 z.1))])
    have mark : ∀ x : Int, a = [x] → ∃ V', wcx (wcl zP 156 [wR m, wI 11, wI x] (sh, V1)) (fun v h' => wev zP 158 67 [some (wR m), some (wI 11), some (wI (k : Int))] (wput v []) h') wth = rN (sh, V') ∧ Rz sh m V (z + ((jn Q k).length + (jns Q n (k + 1)).length)) V' := fun x e => by
      have al : a.length = 1 := by rw [e]; rfl
      obtain ⟨V2, e2, r2⟩ := h.put M (by omega) x
      obtain ⟨V3, e3, r3⟩ := sB V2 (by rw [al]; exact r2)
      exact ⟨V3, by rw [e2]; simp only [wcx_v, wput_n]; exact e3, r3⟩
    by_cases d3 : k = 3
    · rw [if_pos (by omega), w158_40, if_pos (by omega), w158_64]; exact mark 58 (by rw [ha, if_pos d3])
    · rw [if_neg (by omega)]
      by_cases d5 : k = 5
      · rw [if_pos (by omega), w158_40, if_neg (by omega), if_pos (by omega), w158_64]; exact mark 63 (by rw [ha, if_neg d3, if_pos d5])
      · rw [if_neg (by omega)]
        by_cases d6 : k = 6
        · rw [if_pos (by omega), w158_40, if_neg (by omega), if_neg (by omega), w158_64]; exact mark 35 (by rw [ha, if_neg d3, if_neg d5, if_pos d6])
        · rw [if_neg (by omega)]
          exact sB V1 (by rw [show a = [] by rw [ha, if_neg d3, if_neg d5, if_neg d6]]; exact h)
theorem M158z (M : wMd sh m) {Q : Nat → List Int × Int} (Z : lz sh V m Q) (hl : (cmm Q).length ≤ 2900) : ∃ V', wcl zP 158 [wR m, wI 11] (sh, V) = rN (sh, V') ∧ Rz sh m V (cmm Q).length V' := by
  have n12 : sr sh m 1 ≠ sr sh m 2 := M.n (by decide) (by decide) (by decide)
  have h0 : Rz sh m V 0 (uI V (sr sh m 2) 11 0) := ⟨uI_fr (List.mem_cons_of_mem _ List.mem_cons_self), fun j hj => by unfold uI; rw [if_neg (fun c => hj c.2)], by unfold uI; rw [if_pos ⟨rfl, rfl⟩]; rfl, fun j _ => by unfold uI; rw [if_neg (fun c => n12 c.1)]⟩
  obtain ⟨V1, e1, r1⟩ := M158z_9 M Z 7 _ 0 0 rfl h0 (by show 0 + (cmm Q).length ≤ 2900; omega)
  rw [Nat.zero_add] at r1
  exact ⟨V1, by rw [w158_0]; exact e1, r1⟩
end
