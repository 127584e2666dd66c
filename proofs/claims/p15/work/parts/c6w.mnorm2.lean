set_option maxRecDepth 16384
/-! the model's normalising as a whole -/
theorem qN2_good {T : Nat → List Int × Int} (g : Good T) (h : Int) : Good (qN2 T h) := by
  have a : Good (qN1 T h) := by
    unfold qN1; split
    · exact g
    · exact qLet_good g
  unfold qN2
  split
  · exact a
  · exact qFre_good a
theorem qN3_good {T : Nat → List Int × Int} (g : Good T) (h : Int) : Good (qN3 T h) := by
  unfold qN3
  split
  · exact qN2_good g h
  · exact qDot_good (qN2_good g h)
theorem qN4_good {T : Nat → List Int × Int} (g : Good T) (h : Int) : Good (qN4 T h) := by
  unfold qN4
  split
  · exact qN3_good g h
  · exact qPrt_good (qN3_good g h)
theorem qNrm_good {T : Nat → List Int × Int} (g : Good T) (h : Int) (U : Nat → Int) : Good (qNrm T h U) := by
  unfold qNrm
  split
  · exact qN4_good g h
  · exact qSix_good (qN4_good g h) U
theorem qN3_l (T : Nat → List Int × Int) (h : Int) (k : Nat) : (qN3 T h k).1.length ≤ (T k).1.length + (if k = 4 then 2 else 0) := by
  have a := qN2_l T h k
  unfold qN3
  split
  · omega
  · by_cases c : k = 4
    · subst c
      unfold qDot
      split
      · have := pgd_len (pup (qN2 T h) 4 (rdots (qN2 T h 4).1, (qN2 T h 4).2))
        rw [pup_at] at this
        have r := rdots_len (qN2 T h 4).1
        have r2 : (rdots (qN2 T h 4).1, (qN2 T h 4).2).1.length ≤ (qN2 T h 4).1.length := r
        rw [if_pos rfl]; omega
      · omega
    · rw [qDot_o _ _ c]; omega
theorem qN4_l (T : Nat → List Int × Int) (h : Int) (k : Nat) : (qN4 T h k).1.length ≤ (T k).1.length + (if k = 4 then 3 else 0) := by
  have a := qN3_l T h k
  have aa : (if k = 4 then 2 else 0) ≤ (if k = 4 then 3 else 0) := by split <;> decide
  unfold qN4
  split
  · omega
  · obtain ⟨Q, hQ⟩ : ∃ Q, Q = qN3 T h := ⟨_, rfl⟩
    rw [← hQ] at a ⊢
    have b : (qPr1 Q k).1.length ≤ (Q k).1.length := by
      unfold qPr1
      split
      · unfold pup; split
        · exact Nat.zero_le _
        · exact Nat.le_refl _
      · exact Nat.le_refl _
    unfold qPrt qPr2
    split
    · unfold pup
      by_cases c : k = 4
      · rw [if_pos c, if_pos c]; show ([47] : List Int).length ≤ _; simp only [List.length_cons, List.length_nil]; omega
      · rw [if_neg c, if_neg c]; rw [if_neg c] at a; omega
    · omega
theorem qSix_l2 (x : List Int × Int) (U : Nat → Int) : (qSix x U).1.length ≤ x.1.length + 202 := by
  unfold qSix
  split
  · show ((rw6 x.1 U).take 400).length ≤ _
    rw [List.length_take]
    unfold rw6
    have := (rwb_six (G6 (gl x.1) 1 (x.1.length - 1) U)).2
    simp only [List.length_cons, List.length_append, List.length_nil]
    omega
  · omega
theorem cmm_N4 (B : List Int) (h : Int) : (cmm (qN4 (cutQ B) h)).length ≤ B.length + 31 := by
  have c := cut_sum B
  have q := cmm_len (qN4 (cutQ B) h)
  have l0 := qN4_l (cutQ B) h 0
  have l1 := qN4_l (cutQ B) h 1
  have l2 := qN4_l (cutQ B) h 2
  have l3 := qN4_l (cutQ B) h 3
  have l4 := qN4_l (cutQ B) h 4
  have l5 := qN4_l (cutQ B) h 5
  have l6 := qN4_l (cutQ B) h 6
  rw [if_neg (by decide)] at l0 l1 l2 l3 l5 l6
  rw [if_pos rfl] at l4
  omega
theorem cmm_Nr (B : List Int) (h : Int) (U : Nat → Int) : (cmm (qNrm (cutQ B) h U)).length ≤ B.length + 233 := by
  unfold qNrm
  split
  · have := cmm_N4 B h; omega
  · have c := cut_sum B
    obtain ⟨Q, hQ⟩ : ∃ Q, Q = qN4 (cutQ B) h := ⟨_, rfl⟩
    have q := cmm_len (pup Q 2 (qSix (Q 2) U))
    have o : ∀ k, k ≠ 2 → pup Q 2 (qSix (Q 2) U) k = Q k := fun k hk => by unfold pup; rw [if_neg hk]
    rw [o 0 (by decide), o 1 (by decide), o 3 (by decide), o 4 (by decide), o 5 (by decide), o 6 (by decide), pup_at] at q
    have s := qSix_l2 (Q 2) U
    have l0 := qN4_l (cutQ B) h 0
    have l1 := qN4_l (cutQ B) h 1
    have l2 := qN4_l (cutQ B) h 2
    have l3 := qN4_l (cutQ B) h 3
    have l4 := qN4_l (cutQ B) h 4
    have l5 := qN4_l (cutQ B) h 5
    have l6 := qN4_l (cutQ B) h 6
    rw [if_neg (by decide)] at l0 l1 l2 l3 l5 l6
    rw [if_pos rfl] at l4
    rw [← hQ] at l0 l1 l2 l3 l4 l5 l6 ⊢
    omega
section
variable {sh : zSh} {m : Nat} {V : wSt} {tp ou : List Int} {rw' : Nat → List Int}
theorem Sd.frm {V0 V' : wSt} {d : Int} {fs os : List Nat} (M : wMd sh m) (s : Sd sh m V0 tp ou rw' d V) (f : FrM m fs os V V') (h7 : 7 ∉ fs) (h0 : 0 ∉ fs) (h : ∀ j, j ∈ [1, 2, 8, 10] → sr sh m j ∉ os) : Sd sh m V0 tp ou rw' d V' := ⟨Mx_frm M s.1 f h7 h, by rw [f.2 0 h0]; exact s.2.1, fun t t14 n n12 hb => by
  have rr := f.rows M ⟨h 1 (by decide), h 2 (by decide)⟩
  obtain ⟨a, b⟩ := s.2.2 t t14 n n12 hb
  have e : mx sh V' m t = mx sh V m t := by unfold mx; rw [rr.1, rr.2]
  exact ⟨e.trans a, by rw [rr.2]; exact b⟩⟩
/-- addresses of six -/
theorem M185_s {V0 : wSt} (M : wMd sh m) {d r h : Int} (hh : 0 ≤ h ∧ h ≤ 31) {B : List Int} (hB : B.length ≤ 900) (g : Good (qN4 (cutQ B) h)) (s : Sd sh m V0 tp ou rw' d V) (l : lK sh V m (qN4 (cutQ B) h)) (U : Nat → Int) : ∃ V', wev zP 185 123 [some (wR m), some (wI d), some (wI r), some (wI h), some (wI 7)] [] (sh, V) = wev zP 185 186 [some (wR m), some (wI d), some (wI r), some (wI h), some (wI 7)] [] (sh, V') ∧ Sd sh m V0 tp ou rw' d V' ∧ lK sh V' m (qNrm (cutQ B) h U) := by
  obtain ⟨-, -, -, -, b16⟩ := wand_bit hh
  have ln := cmm_N4 B h
  rw [w185_123]
  unfold qNrm
  by_cases c : wand h 16 = 0
  · rw [if_neg (by omega), if_pos c]; exact ⟨V, rfl, s, l⟩
  rw [if_pos (by omega), if_neg c]
  obtain ⟨Q, hQ⟩ : ∃ Q, Q = qN4 (cutQ B) h := ⟨_, rfl⟩
  rw [← hQ] at g l ln ⊢
  rw [M160l (k := 2) (l 2 (by decide)) (by decide) 0]
  simp only [wcx_v, wput_s, w185_138]
  unfold qSix
  by_cases c91 : ¬ gl (Q 2).1 0 = 91
  · rw [if_neg c91, if_neg (fun w => c91 w.1)]
    refine ⟨V, rfl, s, ?_⟩
    rw [show pup Q 2 (Q 2) = Q from funext fun k => by unfold pup; split <;> simp_all]
    exact l
  have c91 := Decidable.not_not.mp c91
  rw [if_pos c91]
  obtain ⟨V1, e1, u1⟩ := M158q M s.1.1 (r := 12) (by decide) l (by omega)
  have s1 := s.hid M u1 (by decide) (Or.inr rfl)
  have l1' := u1.lK M l
  obtain ⟨V2, e2, f2, K2⟩ := M138q M s1.1.1 (r := 12) (by decide)
  rw [u1.2.2.1, cmm_cmp g.1] at K2
  have l2 : lK sh V2 m Q := lK_fr l1' (f2.1 _ (os34 M (by decide) (by decide))) (f2.1 _ (os34 M (by decide) (by decide))) (f2.1 _ (os34 M (by decide) (by decide)))
  have s2 := s1.same (mSame_34 M f2.1) l2.six.ok
  rw [cmm_cmp g.1] at ln
  obtain ⟨L, hL⟩ : ∃ L, L = cmp Q := ⟨_, rfl⟩
  rw [← hL] at K2 ln
  have B1 := (K2.2 2 (by decide)).1
  have E1 := (K2.2 2 (by decide)).2
  unfold mB at B1
  unfold mE at E1
  have rg := zBE_rng (gl L) L.length (Int.natCast_nonneg _) 2 (by decide)
  have cl := (cutQ_l L 2 (by decide))
  have Lx := K2.1
  have pg := part_gl L (k := 2) (by decide)
  obtain ⟨Bg, hBg⟩ : ∃ Bg, Bg = zB (gl L) L.length 2 := ⟨_, rfl⟩
  obtain ⟨E, hE⟩ : ∃ E, E = zE (gl L) L.length 2 := ⟨_, rfl⟩
  rw [← hBg] at B1 rg cl pg
  rw [← hE] at E1 rg cl
  have hX : cutQ L 2 = Q 2 := by rw [hL]; exact g.cut 2 (by decide)
  rw [hX] at cl pg
  obtain ⟨X, eX⟩ : ∃ X, X = Q 2 := ⟨_, rfl⟩
  rw [← eX] at cl pg c91 ⊢
  obtain ⟨c1, c2, c3⟩ := cl
  have x0 : 0 < (X.1.length : Int) := by
    by_cases q : 0 < (X.1.length : Int)
    · exact q
    · rw [gl_out (Or.inr (by omega))] at c91; cases c91
  have f2' : X.2 = 1 := (by rw [eX]; exact g.1.1 2 (by decide) : X.2 = 0 ∨ X.2 = 1).resolve_left (fun w => by
    have := g.1.2.1 2 (by decide) (by rw [← eX]; exact w)
    rw [← eX] at this
    rw [this] at x0; exact absurd x0 (by decide))
  have b0 : Bg ≠ -1 := fun w => by have := c3.mpr w; omega
  have shf : ∀ j, 0 ≤ j → j < (X.1.length : Int) → gl X.1 j = gl L (j + Bg) := pg
  obtain ⟨V3, e3, f3, w3⟩ := M142v M s2.1.1 (r := 12) (by decide) (Bg + 1) (E - 1) (by omega) (by omega)
  rw [Lx] at e3 w3
  have sh1 : ∀ j, 1 ≤ j → j < (X.1.length : Int) - 1 → gl X.1 j = gl L (j + Bg) := fun j a b => shf j (by omega) (by omega)
  have cs : cSix (gl L) (Bg + 1) (E - 1) ↔ cSix (gl X.1) 1 (X.1.length - 1) := by
    have := cSix_sh (f := gl X.1) (g := gl L) (d := Bg) sh1
    rw [show (1 : Int) + Bg = Bg + 1 by omega, show (X.1.length : Int) - 1 + Bg = E - 1 by omega] at this; exact this
  have s3 : Sd sh m V0 tp ou rw' d V3 := s2.frm M f3 (by decide) (by decide) (os14x M)
  have n14 : ∀ j, j ∈ zARw → j ≠ 14 → sr sh m j ∉ [sr sh m 14] := fun j hj n w => by
    simp only [List.mem_cons, List.not_mem_nil, or_false] at w
    exact M.n hj (by decide) n w
  have fz : ∀ j, j ∈ zARw → j ≠ 14 → V3 (sr sh m j) = V2 (sr sh m j) := fun j hj n => f3.1 _ (M.m hj) (n14 j hj n)
  have l3 : lK sh V3 m Q := lK_fr l2 (fz 9 (by decide) (by decide)) (fz 10 (by decide) (by decide)) (fz 11 (by decide) (by decide))
  have run : wcx (wcl zP 158 [wR m, wI 12] (sh, V)) (fun v h' => wev zP 185 149 [some (wR m), some (wI d), some (wI r), some (wI h), some (wI 7)] (wput v []) h') wth = wev zP 185 179 [some (wR m), some (wI d), some (wI r), some (wI h), some (wI 7)] [wI (bI (cSix (gl X.1) 1 (X.1.length - 1)))] (sh, V3) := by
    rw [e1]
    simp only [wcx_v, wput_n, w185_149]
    rw [e2]
    simp only [wcx_v, wput_n, w185_155]
    rw [show Int.toNat 86 = 7 * (12 : Int).toNat + 2 from rfl, B1, E1, wr_eq (by omega) (by omega), wr_eq (by omega) (by omega), e3, bI_cg cs]
    simp only [wcx_v, wput_s]
  rw [run, w185_179]
  rcases bI_r (cSix (gl X.1) 1 (X.1.length - 1)) with q | q
  · rw [q, if_pos rfl, if_neg (fun w => absurd w.2 (by decide))]
    refine ⟨V3, rfl, s3, ?_⟩
    rw [eX, show pup Q 2 (Q 2) = Q from funext fun k => by unfold pup; split <;> simp_all]
    exact l3
  · rw [q, if_neg (by decide), if_pos ⟨c91, rfl⟩]
    obtain ⟨P, gg, h1, h2, h3⟩ := w3 (cs.mpr (bI_i.mp q))
    obtain ⟨P', g', k⟩ := six6_ex (gl X.1) 1 (X.1.length - 1)
    have k2 := six6_sh (f := gl X.1) (g := gl L) (d := Bg) sh1 k
    rw [show (1 : Int) + Bg = Bg + 1 by omega, show (X.1.length : Int) - 1 + Bg = E - 1 by omega] at k2
    obtain ⟨u1', u2'⟩ := six6_u h1 k2
    subst u1'; subst u2'
    have ar : ∀ j, j < 8 → 0 ≤ V3 (sr sh m 14) j ∧ V3 (sr sh m 14) j ≤ 65535 := fun j hj => by
      rw [h3 j hj]; exact arr_r h2 j
    have l3s : l1 sh V3 m 2 X := by rw [eX]; exact l3 2 (by decide)
    obtain ⟨V4, e4, f4, l4⟩ := M184 M l3s ar
    have eW : mh6 (V3 (sr sh m 14)) = (rw6 X.1 U).take 400 := by
      rw [mh6_rw ar, rw_cg h3, ← rw6_arr q k U]
      refine (List.take_of_length_le ?_).symm
      unfold rw6
      have := (rwb_six (G6 (gl X.1) 1 (X.1.length - 1) U)).2
      simp only [List.length_cons, List.length_append, List.length_nil]
      omega
    rw [eW, f2'] at l4
    have l5 := f4.K l3 l4
    refine ⟨V4, ?_, s3.same (mSame_ly M f4.1) l5.six.ok, l5⟩
    rw [e4]
    simp only [wcx_v, wput_n]
theorem M185r (M : wMd sh m) (s : Mx sh m V tp ou rw') {d r h : Int} (hd : 8 ≤ d ∧ d ≤ 12) (hr : 0 ≤ r ∧ r ≤ 13) (hh : 0 ≤ h ∧ h ≤ 31) {B : List Int} (hB : B.length ≤ 900) (hm : mx sh V m r = B) (hv : Va (cutQ B)) (U : Nat → Int) : ∃ V', wcl zP 185 [wR m, wI d, wI r, wI h] (sh, V) = rN (sh, V') ∧ Mx sh m V' tp ou rw' ∧ mx sh V' m d = cmm (qNrm (cutQ B) h U) ∧ V' m 0 = V m 0 ∧ (∀ t : Nat, t < 14 → t ≠ d.toNat → t ≠ 12 → V (sr sh m 2) t ≤ 1500 → mx sh V' m t = mx sh V m t ∧ V' (sr sh m 2) t ≤ 1500) ∧ (cmm (qNrm (cutQ B) h U)).length ≤ B.length + 233 ∧ V' (sr sh m 2) d.toNat = ((cmm (qNrm (cutQ B) h U)).length : Int) := by
  have ln := cmm_Nr B h U
  have g4 := qN4_good (Good_cut hv) h
  obtain ⟨V1, e1, f1, K1⟩ := M138q M s.1 hr
  rw [hm] at K1
  have s0 : Sd sh m V tp ou rw' d V := ⟨s, rfl, fun t _ _ _ hb => ⟨rfl, hb⟩⟩
  have s1 : Sd sh m V tp ou rw' d V1 := s0.same (mSame_34 M f1.1) (lOk_fr s.2.1 (f1.1 _ (os34 M (by decide) (by decide))))
  obtain ⟨V2, e2, p2⟩ := M185_l (V0 := V) (d := d) M hr hh hB hv 7 0 V1 rfl ⟨s1, K1, fun j hj => absurd hj (Nat.not_lt_zero j)⟩
  obtain ⟨s2, -, l2⟩ := p2
  have l4 := qN2_l (cutQ B) h 4
  have cs := cut_sum B
  obtain ⟨V3, e3, s3, l3⟩ := M185_d M (r := r) hh s2 l2 (by omega)
  obtain ⟨V4, e4, s4, l4'⟩ := M185_o M (r := r) hh (qN3_good (Good_cut hv) h) s3 l3
  obtain ⟨V5, e5, s5, l5⟩ := M185_s M (r := r) hh hB g4 s4 l4' U
  obtain ⟨V6, e6, u6⟩ := M158q M s5.1.1 (r := d) (by omega) l5 (by omega)
  have s6 := s5.hid M u6 hd (Or.inl rfl)
  refine ⟨V6, ?_, s6.1, u6.2.2.1, s6.2.1, s6.2.2, ln, u6.sz (by omega)⟩
  rw [w185_0, e1]
  simp only [wcx_v, wput_n, w185_5]
  have e2' : wev zP 185 8 [some (wR m), some (wI d), some (wI r), some (wI h), some (wI 0)] [] (sh, V1) = _ := e2
  rw [e2', e3, e4, e5, w185_186, e6]
  simp only [wcx_v, wput_n, w185_191]
end
