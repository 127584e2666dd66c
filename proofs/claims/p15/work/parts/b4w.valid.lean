set_option maxRecDepth 16384
/-! parts that are right -/
def hVa (H : List Int) : Prop := (nc 91 H ∧ (∀ i : Int, 0 ≤ i → i < H.length → pMayC 2 (gl H i) = 1) ∧ cdk H) ∨ (gl H 0 = 91 ∧ 2 ≤ H.length ∧ gl H (H.length - 1) = 93 ∧ (∀ i : Int, 1 ≤ i → i < H.length - 1 → pFu (gl H i) = 1) ∧ (cSix (gl H) 1 (H.length - 1) ∨ cFut (gl H) 1 (H.length - 1)))
def Va (Q : Nat → List Int × Int) : Prop := ((Q 0).2 = 1 → 0 < (Q 0).1.length ∧ ∀ i : Int, 0 ≤ i → i < (Q 0).1.length → sOk (gl (Q 0).1) i = 1) ∧
  (∀ k : Nat, (k = 1 ∨ k = 4 ∨ k = 5 ∨ k = 6) → (∀ i : Int, 0 ≤ i → i < (Q k).1.length → pMayC k (gl (Q k).1 i) = 1) ∧ cdk (Q k).1) ∧ hVa (Q 2).1 ∧
  ((∀ i : Int, 0 ≤ i → i < (Q 3).1.length → pDig (gl (Q 3).1 i) = 1) ∧ (Q 3).1.length ≤ 5 ∧ pNm (gl (Q 3).1) 0 (Q 3).1.length 0 ≤ 65535)
theorem nc_of {b : Int} {L : List Int} (hb : b ≠ -1) (h : ∀ i : Int, 0 ≤ i → i < L.length → gl L i ≠ b) : nc b L := fun i => by
  by_cases c : 0 ≤ i ∧ i < L.length
  · exact h i c.1 c.2
  · rw [gl_out (by omega)]; exact fun w => hb w.symm
theorem nc_may {k : Int} {b : Int} {L : List Int} (h : ∀ i : Int, 0 ≤ i → i < L.length → pMayC k (gl L i) = 1) (hb : b ≠ -1) (p : pMayC k b ≠ 1) : nc b L := nc_of hb (fun i h0 h1 e => p (by rw [← e]; exact h i h0 h1))
theorem cdk_nc {L : List Int} (h : nc 37 L) : cdk L := fun i e => absurd e (h i)
theorem sOk_no {f : Int → Int} {k b : Int} (h : sOk f k = 1) (p : pLet b ≠ 1 ∧ pDig b ≠ 1 ∧ b ≠ 43 ∧ b ≠ 45 ∧ b ≠ 46) : f k ≠ b := fun e => by
  unfold sOk at h
  rw [e, if_neg p.1] at h
  by_cases c : k = 0
  · rw [if_pos c] at h; exact absurd h (by decide)
  · rw [if_neg c, if_neg (fun w => by rcases w with w | w | w | w <;> omega)] at h; exact absurd h (by decide)
theorem hVa_in {H : List Int} {b : Int} (h : hVa H) (hb : b ≠ -1) (p : pMayC 2 b ≠ 1) (q : pFu b ≠ 1) (n1 : b ≠ 91) (n3 : b ≠ 93) : nc b H := by
  rcases h with ⟨-, h2, -⟩ | ⟨h0, h1, h2, h3, -⟩
  · exact nc_may h2 hb p
  · refine nc_of hb (fun i g0 g1 e => ?_)
    by_cases c0 : i = 0
    · rw [c0, h0] at e; exact n1 e.symm
    by_cases c1 : i = H.length - 1
    · rw [c1, h2] at e; exact n3 e.symm
    · exact q (by rw [← e]; exact h3 i (by omega) (by omega))
theorem hVa_st {H : List Int} (h : hVa H) : hSt H := by
  rcases h with ⟨h1, h2, -⟩ | ⟨h0, h1, h2, h3, -⟩
  · exact Or.inl ⟨nc_may h2 (by decide) (by decide), h1, nc_may h2 (by decide) (by decide)⟩
  · refine Or.inr ⟨h1, h0, h2, fun i g0 g1 e => ?_⟩
    by_cases c0 : i = 0
    · rw [c0, h0] at e; cases e
    · have := h3 i (by omega) g1; rw [e] at this; exact absurd this (by decide)
theorem Va_nc {Q : Nat → List Int × Int} (F : Fl Q) (V : Va Q) : Nc Q := by
  obtain ⟨v0, v1, v2, v3, v5, v6⟩ := V
  have sch : ∀ b : Int, b ≠ -1 → (pLet b ≠ 1 ∧ pDig b ≠ 1 ∧ b ≠ 43 ∧ b ≠ 45 ∧ b ≠ 46) → nc b (Q 0).1 := fun b hb hp => by
    rcases F.1 0 (by decide) with e | e
    · rw [F.2.1 0 (by decide) e]; exact nc_nil hb
    · exact nc_of hb (fun i g0 g1 => sOk_no ((v0 e).2 i g0 g1) hp)
  have prt : ∀ b : Int, b ≠ -1 → pDig b ≠ 1 → nc b (Q 3).1 := fun b hb hp => nc_of hb (fun i g0 g1 e => hp (by rw [← e]; exact v3 i g0 g1))
  have m1 := (v1 1 (Or.inl rfl)).1
  have m4 := (v1 4 (Or.inr (Or.inl rfl))).1
  have m5 := (v1 5 (Or.inr (Or.inr (Or.inl rfl)))).1
  refine ⟨fun k hk => ?_, fun k hk => ?_, fun k hk => ?_, sch 58 (by decide) (by decide), hVa_in v2 (by decide) (by decide) (by decide) (by decide) (by decide), prt 64 (by decide) (by decide), ⟨prt 91 (by decide) (by decide), prt 93 (by decide) (by decide), prt 58 (by decide) (by decide)⟩, hVa_st v2⟩
  · rcases (by omega : k = 0 ∨ k = 1 ∨ k = 2 ∨ k = 3 ∨ k = 4 ∨ k = 5) with e | e | e | e | e | e <;> subst e
    · exact sch 35 (by decide) (by decide)
    · exact nc_may m1 (by decide) (by decide)
    · exact hVa_in v2 (by decide) (by decide) (by decide) (by decide) (by decide)
    · exact prt 35 (by decide) (by decide)
    · exact nc_may m4 (by decide) (by decide)
    · exact nc_may m5 (by decide) (by decide)
  · rcases (by omega : k = 0 ∨ k = 1 ∨ k = 2 ∨ k = 3 ∨ k = 4) with e | e | e | e | e <;> subst e
    · exact sch 63 (by decide) (by decide)
    · exact nc_may m1 (by decide) (by decide)
    · exact hVa_in v2 (by decide) (by decide) (by decide) (by decide) (by decide)
    · exact prt 63 (by decide) (by decide)
    · exact nc_may m4 (by decide) (by decide)
  · rcases (by omega : k = 0 ∨ k = 1 ∨ k = 2 ∨ k = 3) with e | e | e | e <;> subst e
    · exact sch 47 (by decide) (by decide)
    · exact nc_may m1 (by decide) (by decide)
    · exact hVa_in v2 (by decide) (by decide) (by decide) (by decide) (by decide)
    · exact prt 47 (by decide) (by decide)
/-- the parts, as the text has them -/
theorem part_gl (L : List Int) {k : Nat} (hk : k < 7) : ∀ j : Int, 0 ≤ j → j < ((cutQ L k).1.length : Int) → gl (cutQ L k).1 j = gl L (j + zB (gl L) L.length k) := fun j h0 h1 => by
  have c := (cutQ_l L k hk).1
  rw [cutQ_g L k hk j h0, if_pos (by omega)]; congr 1; omega
/-- what stands behind a part is no digit of base 16 -/
theorem sep (L : List Int) {k : Nat} (hk : k < 7) (h : zB (gl L) L.length k ≠ -1) : pHex (gl L (zE (gl L) L.length k)) = -1 := by
  obtain ⟨S, H, Q, P, ⟨r1, r2, r3, r4⟩, l0, la, ⟨l4, l4e⟩, l5, l6, -⟩ := lay L
  have e : pHex (gl L L.length) = -1 := by rw [gl_out (Or.inr (Int.le_refl _))]; decide
  have eH : pHex (gl L H) = -1 := by
    rcases l6 with ⟨-, -, -, x⟩ | ⟨-, x⟩
    · rw [x]; decide
    · rw [x]; exact e
  have eQ : pHex (gl L Q) = -1 := by
    rcases l5 with ⟨-, -, -, x⟩ | ⟨-, x⟩
    · rw [x]; decide
    · rw [x]; exact eH
  rcases (by omega : k = 0 ∨ k = 1 ∨ k = 2 ∨ k = 3 ∨ k = 4 ∨ k = 5 ∨ k = 6) with w | w | w | w | w | w | w <;> subst w
  · rcases l0 with ⟨z, ze, -, x⟩ | ⟨z, -⟩
    · rw [ze, x]; decide
    · exact absurd z h
  · rcases la with ⟨b, e', -, -, -, -, -, u, -, -⟩ | ⟨z, -⟩
    · rcases u with ⟨z, ze, -, x⟩ | ⟨z, -⟩
      · rw [ze, x]; decide
      · exact absurd z h
    · exact absurd z h
  · rcases la with ⟨b, e', g, -, -, -, ze, -, p, hS⟩ | ⟨-, z, -⟩
    · rw [ze]
      rcases p with ⟨-, -, -, x⟩ | ⟨-, x⟩
      · rw [x]; decide
      · rw [x]
        by_cases c : S < Q
        · rw [hS c]; decide
        · rw [show S = Q by omega]; exact eQ
    · exact absurd z h
  · rcases la with ⟨b, e', g, -, -, -, -, -, p, hS⟩ | ⟨-, -, z, -⟩
    · rcases p with ⟨-, ze, -, -⟩ | ⟨z, -⟩
      · rw [ze]
        by_cases c : S < Q
        · rw [hS c]; decide
        · rw [show S = Q by omega]; exact eQ
      · exact absurd z h
    · exact absurd z h
  · rw [l4e]; exact eQ
  · rcases l5 with ⟨-, ze, -, -⟩ | ⟨z, -⟩
    · rw [ze]; exact eH
    · exact absurd z h
  · rcases l6 with ⟨-, ze, -, -⟩ | ⟨z, -⟩
    · rw [ze]; exact e
    · exact absurd z h
/-- a % stands in a part -/
theorem where37 (L : List Int) {i : Int} (h0 : 0 ≤ i) (h1 : i < L.length) (h : gl L i = 37) : ∃ k, k < 7 ∧ zB (gl L) L.length k ≠ -1 ∧ zB (gl L) L.length k ≤ i ∧ i < zE (gl L) L.length k := by
  obtain ⟨S, H, Q, P, ⟨r1, r2, r3, r4⟩, l0, la, ⟨l4, l4e⟩, l5, l6, -⟩ := lay L
  have ne : ∀ {x b : Int}, gl L x = b → b ≠ 37 → i ≠ x := fun e n w => n (by rw [← e, ← w]; exact h)
  have rS : P ≤ S ∧ S ≤ Q := by rcases la with ⟨b, e, h, -⟩ | ⟨-, -, -, h, -⟩ <;> omega
  by_cases c6 : H ≤ i
  · rcases l6 with ⟨z, ze, -, x⟩ | ⟨z, x⟩
    · have := ne x (by decide); exact ⟨6, by decide, by omega, by omega, by omega⟩
    · omega
  by_cases c5 : Q ≤ i
  · rcases l5 with ⟨z, ze, -, x⟩ | ⟨z, x⟩
    · have := ne x (by decide); exact ⟨5, by decide, by omega, by omega, by omega⟩
    · omega
  by_cases c4 : S ≤ i
  · exact ⟨4, by decide, by omega, by omega, by omega⟩
  by_cases c0 : i < P
  · rcases l0 with ⟨z, ze, -, x⟩ | ⟨z, x⟩
    · have := ne x (by decide); exact ⟨0, by decide, by omega, by omega, by omega⟩
    · omega
  rcases la with ⟨b, e, g, x1, x2, z2, z2e, u, p, -⟩ | ⟨-, -, -, x, -⟩
  · have n1 := ne x1 (by decide)
    have n2 := ne x2 (by decide)
    by_cases c1 : i < b
    · rcases u with ⟨z, ze, -, x⟩ | ⟨z, x⟩
      · have := ne x (by decide); exact ⟨1, by decide, by omega, by omega, by omega⟩
      · omega
    by_cases c2 : i < e
    · exact ⟨2, by decide, by omega, by omega, by omega⟩
    · rcases p with ⟨z, ze, -, x⟩ | ⟨z, x⟩
      · have := ne x (by decide); exact ⟨3, by decide, by omega, by omega, by omega⟩
      · omega
  · omega
theorem aOk_all (f : Int → Int) (n : Int) (S E : Nat → Int) : aOk f n S E ↔ (E 0 ≠ 0 ∧ ∀ j, 0 ≤ j → j < E 0 → sOk f j = 1) ∧ (∀ j, 0 ≤ j → j < n → f j = 37 → pCd f j ≠ -1) ∧ (∀ p : Nat, 1 ≤ p → p < 7 → ∀ j, S p ≤ j → j < (if p = 2 then cfn f 91 (S p) (E p) else E p) → pMayC p (f j) = 1) ∧ bBr f (S 2) (E 2) = 0 ∧ E 3 - S 3 ≤ 5 ∧ pNm f (S 3) (E 3) 0 ≤ 65535 := by
  have cok : ∀ j, cOk f j = 1 ↔ (f j = 37 → pCd f j ≠ -1) := fun j => by
    unfold cOk
    by_cases c : f j = 37 ∧ pCd f j = -1
    · rw [if_pos c]; exact ⟨fun w => absurd w (by decide), fun w => absurd c.2 (w c.1)⟩
    · rw [if_neg c]; exact ⟨fun _ a b => c ⟨a, b⟩, fun _ => rfl⟩
  unfold aOk aSch aPrt
  rw [pA_all (p := sOk f) (f := fun k => k) _ 0 (E 0) rfl, pA_all (p := cOk f) (f := fun k => k) _ 0 n rfl, pA_all (p := bOk f S E) (f := fun k => k) _ 1 7 rfl]
  unfold pAll
  dsimp only
  constructor
  · rintro ⟨h1, h2, h3, h4, h5⟩
    refine ⟨h1, fun j a b => (cok j).mp (h2 j a b), fun p p1 p7 j a b => ?_, h4, h5⟩
    have k := h3 (p : Int) (by omega) (by omega)
    unfold bOk at k
    rw [pA_all _ _ _ rfl, Int.toNat_natCast] at k
    refine k j a ?_
    by_cases c : p = 2
    · rw [if_pos c] at b; rw [if_pos (by omega)]; exact b
    · rw [if_neg c] at b; rw [if_neg (by omega)]; exact b
  · rintro ⟨h1, h2, h3, h4, h5⟩
    refine ⟨h1, fun j a b => (cok j).mpr (h2 j a b), fun p p1 p7 => ?_, h4, h5⟩
    unfold bOk
    rw [pA_all _ _ _ rfl]
    intro j a b
    have k := h3 p.toNat (by omega) (by omega) j a
    rw [Int.toNat_of_nonneg (by omega)] at k
    refine k ?_
    by_cases c : p = 2
    · rw [if_pos c] at b; rw [if_pos (by omega)]; exact b
    · rw [if_neg c] at b; rw [if_neg (by omega)]; exact b
theorem bBr_0 (f : Int → Int) (a e : Int) : bBr f a e = 0 ↔ (cfn f 91 a e = e ∨ (cfn f 91 a e = a ∧ cfn f 93 (cfn f 91 a e) e = e - 1 ∧ (cSix f (cfn f 91 a e + 1) (cfn f 93 (cfn f 91 a e) e) ∨ cFut f (cfn f 91 a e + 1) (cfn f 93 (cfn f 91 a e) e)))) := by
  unfold bBr
  by_cases c : cfn f 91 a e = e
  · rw [if_pos c]; exact ⟨fun _ => Or.inl c, fun _ => rfl⟩
  · rw [if_neg c]
    have i1 : ∀ p : Prop, bI p = 1 ↔ p := fun p => ⟨fun w => bI_i.mp w, fun w => bI_1 w⟩
    have ev : (bI (cSix f (cfn f 91 a e + 1) (cfn f 93 (cfn f 91 a e) e)) = 1 ∨ bI (cFut f (cfn f 91 a e + 1) (cfn f 93 (cfn f 91 a e) e)) = 1) ↔ (cSix f (cfn f 91 a e + 1) (cfn f 93 (cfn f 91 a e) e) ∨ cFut f (cfn f 91 a e + 1) (cfn f 93 (cfn f 91 a e) e)) := or_congr (i1 _) (i1 _)
    by_cases d : cfn f 91 a e = a ∧ cfn f 93 (cfn f 91 a e) e = e - 1 ∧ (bI (cSix f (cfn f 91 a e + 1) (cfn f 93 (cfn f 91 a e) e)) = 1 ∨ bI (cFut f (cfn f 91 a e + 1) (cfn f 93 (cfn f 91 a e) e)) = 1)
    · rw [if_pos d]; exact ⟨fun _ => Or.inr ⟨d.1, d.2.1, ev.mp d.2.2⟩, fun _ => rfl⟩
    · rw [if_neg d]; exact ⟨fun w => absurd w (by decide), fun w => absurd (let z := w.resolve_left c; ⟨z.1, z.2.1, ev.mpr z.2.2⟩) d⟩
/-- a text is right where its parts are -/
theorem aOk_Va (L : List Int) : aOk (gl L) L.length (zB (gl L) L.length) (zE (gl L) L.length) ↔ Va (cutQ L) := by
  rw [aOk_all]
  have pg := fun {k : Nat} (hk : k < 7) => part_gl L hk
  have pl := fun {k : Nat} (hk : k < 7) => cutQ_l L k hk
  have ab := fun (k : Nat) (hk : k < 7) => zBE_abs (gl L) L.length (Int.natCast_nonneg _) k hk
  have rg := fun (k : Nat) (hk : k < 7) => zBE_rng (gl L) L.length (Int.natCast_nonneg _) k hk
  have whr := fun {i : Int} (h0 : 0 ≤ i) (h1 : i < L.length) (h : gl L i = 37) => where37 L h0 h1 h
  have spr := fun {k : Nat} (hk : k < 7) (h : zB (gl L) L.length k ≠ -1) => sep L hk h
  have z00 : zB (gl L) L.length 0 = 0 ∨ zB (gl L) L.length 0 = -1 := by
    obtain ⟨S, H, Q, P, -, l0, -⟩ := lay L
    rcases l0 with ⟨z, -⟩ | ⟨z, -⟩
    · exact Or.inl z
    · exact Or.inr z
  have cdp : ∀ (k : Nat), k < 7 → cdk (cutQ L k).1 → ∀ j : Int, 0 ≤ j → j < ((cutQ L k).1.length : Int) → pCd (gl L) (zB (gl L) L.length k + j) = pCd (gl (cutQ L k).1) j := fun k hk h j h0 h1 => pCd_part hk h h0 h1
  -- the host, there or not
  have hl : ((cutQ L 2).1.length : Int) = zE (gl L) L.length 2 - zB (gl L) L.length 2 := (pl (k := 2) (by decide)).1
  have sh : ∀ j, 0 ≤ j → j < ((cutQ L 2).1.length : Int) → gl (cutQ L 2).1 j = gl L (j + zB (gl L) L.length 2) := pg (k := 2) (by decide)
  constructor
  · rintro ⟨h1, h2, h3, h4, h5, h6⟩
    have cd : ∀ k, k < 7 → cdk (cutQ L k).1 := fun k hk i e => by
      have il : 0 ≤ i ∧ i < ((cutQ L k).1.length : Int) := by
        by_cases c : 0 ≤ i ∧ i < ((cutQ L k).1.length : Int)
        · exact c
        · rw [gl_out (by omega)] at e; cases e
      have l := (pl hk).1
      have nb : zB (gl L) L.length k ≠ -1 := fun w => by have := ab k hk w; omega
      have r := rg k hk
      have g := pg hk i il.1 il.2
      rw [e] at g
      have c := h2 (i + zB (gl L) L.length k) (by omega) (by omega) g.symm
      have s := spr hk nb
      unfold pCd at c
      rw [← g] at c
      by_cases w : (37 : Int) = 37 ∧ 0 ≤ pHex (gl L (i + zB (gl L) L.length k + 1)) ∧ 0 ≤ pHex (gl L (i + zB (gl L) L.length k + 2))
      · have i1 : i + 1 < ((cutQ L k).1.length : Int) := by
          by_cases q : i + zB (gl L) L.length k + 1 = zE (gl L) L.length k
          · have := w.2.1; rw [q, s] at this; omega
          · omega
        have i2 : i + 2 < ((cutQ L k).1.length : Int) := by
          by_cases q : i + zB (gl L) L.length k + 2 = zE (gl L) L.length k
          · have := w.2.2; rw [q, s] at this; omega
          · omega
        have g1 := pg hk (i + 1) (by omega) i1
        have g2 := pg hk (i + 2) (by omega) i2
        rw [show i + 1 + zB (gl L) L.length k = i + zB (gl L) L.length k + 1 by omega] at g1
        rw [show i + 2 + zB (gl L) L.length k = i + zB (gl L) L.length k + 2 by omega] at g2
        have x1 := pHex_r (gl L (i + zB (gl L) L.length k + 1))
        unfold pCd
        rw [g1, g2, if_pos ⟨e, w.2⟩]; omega
      · rw [if_neg w] at c; exact absurd rfl c
    have may : ∀ k : Nat, 1 ≤ k → k < 7 → k ≠ 2 → ∀ i : Int, 0 ≤ i → i < ((cutQ L k).1.length : Int) → pMayC k (gl (cutQ L k).1 i) = 1 := fun k k1 k7 k2 i i0 i1 => by
      have l := (pl k7).1
      rw [pg k7 i i0 i1]
      exact h3 k k1 k7 _ (by omega) (by rw [if_neg k2]; omega)
    refine ⟨fun e => ?_, fun k hk => ⟨may k (by omega) (by omega) (by omega), cd k (by omega)⟩, ?_, ?_, ?_, ?_⟩
    · have nb : zB (gl L) L.length 0 ≠ -1 := fun w => by have := (pl (k := 0) (by decide)).2.2.mpr w; omega
      have b0 := z00.resolve_right nb
      have l := (pl (k := 0) (by decide)).1
      have r := rg 0 (by decide)
      refine ⟨by have := h1.1; omega, fun i i0 i1 => ?_⟩
      have g := pg (k := 0) (by decide) i i0 i1
      rw [b0, Int.add_zero] at g
      have := h1.2 i i0 (by omega)
      unfold sOk at this ⊢
      rw [g]; exact this
    · -- the host
      by_cases nb : zB (gl L) L.length 2 = -1
      · have e := ab 2 (by decide) nb
        have z : (cutQ L 2).1 = [] := List.length_eq_zero_iff.mp (by omega)
        refine Or.inl ⟨by rw [z]; exact nc_nil (by decide), fun i i0 i1 => by rw [z] at i1; simp only [List.length_nil] at i1; omega, cd 2 (by decide)⟩
      have r := rg 2 (by decide)
      have o := (cfn_r (gl L) 91 (zB (gl L) L.length 2) (zE (gl L) L.length 2)).1 (by omega)
      rcases (bBr_0 _ _ _).mp h4 with w | ⟨w1, w2, w3⟩
      · refine Or.inl ⟨nc_of (by decide) (fun i i0 i1 => ?_), fun i i0 i1 => ?_, cd 2 (by decide)⟩
        · rw [sh i i0 i1]; exact cfn_no2 (f := gl L) (b := 91) (a := zB (gl L) L.length 2) (e := zE (gl L) L.length 2) (by omega) (by omega) (by rw [w]; omega)
        · rw [sh i i0 i1]; exact h3 2 (by decide) (by decide) _ (by omega) (by rw [if_pos rfl, w]; omega)
      · by_cases c0 : zB (gl L) L.length 2 = zE (gl L) L.length 2
        · have z : (cutQ L 2).1 = [] := List.length_eq_zero_iff.mp (by omega)
          refine Or.inl ⟨by rw [z]; exact nc_nil (by decide), fun i i0 i1 => by rw [z] at i1; simp only [List.length_nil] at i1; omega, cd 2 (by decide)⟩
        have f91 : gl L (zB (gl L) L.length 2) = 91 := by rw [← w1]; exact cfn_hit2 (by omega) (by omega)
        rw [w1] at w2 w3
        rw [w2] at w3
        have f93 : gl L (zE (gl L) L.length 2 - 1) = 93 := by rw [← w2]; exact cfn_hit2 (by omega) (by omega)
        have l2 : 2 ≤ zE (gl L) L.length 2 - zB (gl L) L.length 2 := by
          by_cases c : zE (gl L) L.length 2 - 1 = zB (gl L) L.length 2
          · rw [c, f91] at f93; cases f93
          · omega
        have six : cSix (gl (cutQ L 2).1) 1 ((cutQ L 2).1.length - 1) ∨ cFut (gl (cutQ L 2).1) 1 ((cutQ L 2).1.length - 1) := by
          have h : ∀ j, 1 ≤ j → j < ((cutQ L 2).1.length : Int) - 1 → gl (cutQ L 2).1 j = gl L (j + zB (gl L) L.length 2) := fun j a b => sh j (by omega) (by omega)
          have q1 := cSix_sh (f := gl (cutQ L 2).1) (g := gl L) (d := zB (gl L) L.length 2) h
          have q2 := cFut_sh (f := gl (cutQ L 2).1) (g := gl L) (d := zB (gl L) L.length 2) h
          rw [show 1 + zB (gl L) L.length 2 = zB (gl L) L.length 2 + 1 by omega, show ((cutQ L 2).1.length : Int) - 1 + zB (gl L) L.length 2 = zE (gl L) L.length 2 - 1 by omega] at q1 q2
          exact w3.elim (fun z => Or.inl (q1.mp z)) (fun z => Or.inr (q2.mp z))
        refine Or.inr ⟨by rw [sh 0 (by decide) (by omega), Int.zero_add]; exact f91, by omega, by rw [sh _ (by omega) (by omega), show ((cutQ L 2).1.length : Int) - 1 + zB (gl L) L.length 2 = zE (gl L) L.length 2 - 1 by omega]; exact f93, fun i i1 i2 => ?_, six⟩
        exact six.elim (fun z => cSix_chars z i i1 i2) (fun z => cFut_chars z i i1 i2)
    · intro i i0 i1
      have := may 3 (by decide) (by decide) (by decide) i i0 i1
      exact this
    · have l := (pl (k := 3) (by decide)).1; omega
    · have l := (pl (k := 3) (by decide)).1
      have q := pNm_sh (f := gl (cutQ L 3).1) (g := gl L) (d := zB (gl L) L.length 3) (e := ((cutQ L 3).1.length : Int)) _ 0 0 rfl (pg (k := 3) (by decide))
      rw [show (0 : Int) + zB (gl L) L.length 3 = zB (gl L) L.length 3 by omega, show ((cutQ L 3).1.length : Int) + zB (gl L) L.length 3 = zE (gl L) L.length 3 by omega] at q
      rw [← q]; exact h6
  · rintro ⟨v0, v1, v2, v3, v4, v5⟩
    have l3 := (pl (k := 3) (by decide)).1
    refine ⟨⟨fun e => ?_, fun j j0 j1 => ?_⟩, fun j j0 j1 h37 => ?_, fun p p1 p7 j j0 j1 => ?_, ?_, by omega, ?_⟩
    · have l := (pl (k := 0) (by decide)).1
      have r := rg 0 (by decide)
      rcases z00 with z | z
      · have k := (pl (k := 0) (by decide))
        have := (v0 (k.2.1.resolve_left (fun w => by have := k.2.2.mp w; omega))).1
        omega
      · have := ab 0 (by decide) z; omega
    · have l := (pl (k := 0) (by decide)).1
      rcases z00 with z | z
      · have k := (pl (k := 0) (by decide))
        have o := (v0 (k.2.1.resolve_left (fun w => by have := k.2.2.mp w; omega))).2 j j0 (by omega)
        have g := pg (k := 0) (by decide) j j0 (by omega)
        rw [z, Int.add_zero] at g
        unfold sOk at o ⊢
        rw [← g]; exact o
      · have := ab 0 (by decide) z; omega
    · obtain ⟨k, hk, nb, b1, b2⟩ := whr j0 j1 h37
      have l := (pl hk).1
      have g := pg hk (j - zB (gl L) L.length k) (by omega) (by omega)
      rw [show j - zB (gl L) L.length k + zB (gl L) L.length k = j by omega, h37] at g
      have cd : cdk (cutQ L k).1 := by
        rcases (by omega : k = 0 ∨ k = 2 ∨ k = 3 ∨ (k = 1 ∨ k = 4 ∨ k = 5 ∨ k = 6)) with e | e | e | e
        · subst e
          have kk := (pl (k := 0) (by decide))
          have o := (v0 (kk.2.1.resolve_left (fun w => nb (kk.2.2.mp w)))).2 (j - zB (gl L) L.length 0) (by omega) (by omega)
          exact absurd g (sOk_no o (by decide))
        · subst e
          rcases v2 with ⟨-, -, c⟩ | ⟨h0, hl2, hn, hc, -⟩
          · exact c
          · exfalso
            by_cases c0 : j - zB (gl L) L.length 2 = 0
            · rw [c0, h0] at g; cases g
            by_cases c1 : j - zB (gl L) L.length 2 = (cutQ L 2).1.length - 1
            · rw [c1, hn] at g; cases g
            · have := hc (j - zB (gl L) L.length 2) (by omega) (by omega); rw [g] at this; exact absurd this (by decide)
        · subst e
          have := v3 (j - zB (gl L) L.length 3) (by omega) (by omega); rw [g] at this; exact absurd this (by decide)
        · exact (v1 k e).2
      have c := cd (j - zB (gl L) L.length k) g
      rw [← cdp k hk cd (j - zB (gl L) L.length k) (by omega) (by omega), show zB (gl L) L.length k + (j - zB (gl L) L.length k) = j by omega] at c
      exact c
    · by_cases c2 : p = 2
      · subst c2
        rw [if_pos rfl] at j1
        by_cases nb : zB (gl L) L.length 2 = -1
        · have e := ab 2 (by decide) nb
          rw [(cfn_st _ _ _ _).1 (by omega)] at j1; omega
        have r := rg 2 (by decide)
        have o := (cfn_r (gl L) 91 (zB (gl L) L.length 2) (zE (gl L) L.length 2)).1 (by omega)
        have g := sh (j - zB (gl L) L.length 2) (by omega) (by omega)
        rw [show j - zB (gl L) L.length 2 + zB (gl L) L.length 2 = j by omega] at g
        rcases v2 with ⟨-, c, -⟩ | ⟨h0, hl2, -, -, -⟩
        · have := c (j - zB (gl L) L.length 2) (by omega) (by omega); rw [g] at this; exact this
        · exfalso
          have g0 := sh 0 (by decide) (by omega)
          rw [Int.zero_add, h0] at g0
          exact cfn_no2 (f := gl L) (b := 91) (a := zB (gl L) L.length 2) (e := zE (gl L) L.length 2) (x := zB (gl L) L.length 2) (by omega) (by omega) (by omega) g0.symm
      · rw [if_neg c2] at j1
        by_cases nb : zB (gl L) L.length p = -1
        · have e := ab p p7 nb; omega
        have l := (pl p7).1
        have g := pg p7 (j - zB (gl L) L.length p) (by omega) (by omega)
        rw [show j - zB (gl L) L.length p + zB (gl L) L.length p = j by omega] at g
        by_cases c3 : p = 3
        · subst c3
          have := v3 (j - zB (gl L) L.length 3) (by omega) (by omega); rw [g] at this; exact this
        · have := (v1 p (by omega)).1 (j - zB (gl L) L.length p) (by omega) (by omega); rw [g] at this; exact this
    · rw [bBr_0]
      by_cases nb : zB (gl L) L.length 2 = -1
      · have e := ab 2 (by decide) nb
        exact Or.inl ((cfn_st _ _ _ _).1 (by omega))
      have r := rg 2 (by decide)
      rcases v2 with ⟨c, -, -⟩ | ⟨h0, hl2, hn, hc, h6⟩
      · refine Or.inl (cfn_at (by omega) (by omega) (fun w => by omega) (fun k k1 k2 => ?_))
        have g := sh (k - zB (gl L) L.length 2) (by omega) (by omega)
        rw [show k - zB (gl L) L.length 2 + zB (gl L) L.length 2 = k by omega] at g
        rw [← g]; exact c _
      · have g0 := sh 0 (by decide) (by omega)
        rw [Int.zero_add, h0] at g0
        have e1 : cfn (gl L) 91 (zB (gl L) L.length 2) (zE (gl L) L.length 2) = zB (gl L) L.length 2 := cfn_at (by omega) (by omega) (fun _ => g0.symm) (fun k k1 k2 => by omega)
        have gn := sh ((cutQ L 2).1.length - 1) (by omega) (by omega)
        rw [show ((cutQ L 2).1.length : Int) - 1 + zB (gl L) L.length 2 = zE (gl L) L.length 2 - 1 by omega, hn] at gn
        have e2 : cfn (gl L) 93 (zB (gl L) L.length 2) (zE (gl L) L.length 2) = zE (gl L) L.length 2 - 1 := cfn_at (by omega) (by omega) (fun _ => gn.symm) (fun k k1 k2 e => by
          have g := sh (k - zB (gl L) L.length 2) (by omega) (by omega)
          rw [show k - zB (gl L) L.length 2 + zB (gl L) L.length 2 = k by omega, e] at g
          by_cases c0 : k - zB (gl L) L.length 2 = 0
          · rw [c0, h0] at g; cases g
          · have := hc (k - zB (gl L) L.length 2) (by omega) (by omega); rw [g] at this; exact absurd this (by decide))
        rw [e1, e2]
        refine Or.inr ⟨rfl, rfl, ?_⟩
        have h : ∀ j, 1 ≤ j → j < ((cutQ L 2).1.length : Int) - 1 → gl (cutQ L 2).1 j = gl L (j + zB (gl L) L.length 2) := fun j a b => sh j (by omega) (by omega)
        have q1 := cSix_sh (f := gl (cutQ L 2).1) (g := gl L) (d := zB (gl L) L.length 2) h
        have q2 := cFut_sh (f := gl (cutQ L 2).1) (g := gl L) (d := zB (gl L) L.length 2) h
        rw [show 1 + zB (gl L) L.length 2 = zB (gl L) L.length 2 + 1 by omega, show ((cutQ L 2).1.length : Int) - 1 + zB (gl L) L.length 2 = zE (gl L) L.length 2 - 1 by omega] at q1 q2
        exact h6.elim (fun z => Or.inl (q1.mpr z)) (fun z => Or.inr (q2.mpr z))
    · have q := pNm_sh (f := gl (cutQ L 3).1) (g := gl L) (d := zB (gl L) L.length 3) (e := ((cutQ L 3).1.length : Int)) _ 0 0 rfl (pg (k := 3) (by decide))
      rw [show (0 : Int) + zB (gl L) L.length 3 = zB (gl L) L.length 3 by omega, show ((cutQ L 3).1.length : Int) + zB (gl L) L.length 3 = zE (gl L) L.length 3 by omega] at q
      rw [q]; exact v5
/-- what a right text's parts are -/
def Good (Q : Nat → List Int × Int) : Prop := Fl Q ∧ Sr Q ∧ Va Q
theorem Good.cut {Q : Nat → List Int × Int} (g : Good Q) : ∀ k, k < 7 → cutQ (cmp Q) k = Q k := cut_cmp g.1 g.2.1 (Va_nc g.1 g.2.2)
theorem Good_cut {L : List Int} (h : Va (cutQ L)) : Good (cutQ L) := ⟨Fl_cut L, Sr_cut L, h⟩
