set_option maxRecDepth 16384
/-! the model's groups, with their values -/
/-- cells of a list laid from a place on -/
def gAt (U : Nat → Int) (c : Int) (P : List Int) : Nat → Int := fun j => if c ≤ j ∧ (j : Int) < c + P.length then P.getD ((j : Int) - c).toNat 0 else U j
theorem gAt_nil (U : Nat → Int) (c : Int) : gAt U c [] = U := by
  funext j; unfold gAt
  rw [if_neg (by simp only [List.length_nil]; omega)]
theorem gAt_app (U : Nat → Int) (c : Int) (P R : List Int) : gAt (gAt U c P) (c + P.length) R = gAt U c (P ++ R) := by
  funext j; unfold gAt
  rw [List.length_append]
  by_cases c1 : c + P.length ≤ j ∧ (j : Int) < c + P.length + R.length
  · rw [if_pos c1, if_pos (by omega), List.getD_eq_getElem?_getD, List.getD_eq_getElem?_getD, List.getElem?_append_right (by omega), show ((j : Int) - c).toNat - P.length = ((j : Int) - (c + P.length)).toNat by omega]
  · rw [if_neg c1]
    by_cases c2 : c ≤ j ∧ (j : Int) < c + P.length
    · rw [if_pos c2, if_pos (by omega), List.getD_eq_getElem?_getD, List.getD_eq_getElem?_getD, List.getElem?_append_left (by omega)]
    · rw [if_neg c2, if_neg (by omega)]
theorem gAt_1 (U : Nat → Int) (c x : Int) (h : 0 ≤ c) : (fun j : Nat => if (j : Int) = c then x else U j) = gAt U c [x] := by
  funext j; unfold gAt
  simp only [List.length_cons, List.length_nil]
  by_cases d : (j : Int) = c
  · rw [if_pos d, if_pos (by omega), show ((j : Int) - c).toNat = 0 by omega]; rfl
  · rw [if_neg d, if_neg (by omega)]
theorem M140v_3 {sh : zSh} {m : Nat} (M : wMd sh m) {r : Int} (hr : 0 ≤ r ∧ r ≤ 13) (a e la : Int) (hla : la = 0 ∨ la = 1) (f : Int → Int) (he : -1 ≤ e ∧ e ≤ 200000) : ∀ (n : Nat) (V : wSt) (k : Int) (o6 o7 o8 o9 : Option wV), (e + 2 - k).toNat = n → mSz sh V m → gl (mx sh V m r) = f → 0 ≤ k ∧ k ≤ 200002 → 0 ≤ V m 15 ∧ V m 15 ≤ 2 * k + 18 →
    ∃ y V', wev zP 140 3 [some (wR m), some (wI r), some (wI a), some (wI e), some (wI la), some (wI k), o6, o7, o8, o9] [] (sh, V) = rI y (sh, V') ∧ FrM m [15, 16] [sr sh m 14] V V' ∧ ((y = 1 ∧ ∃ x, mGs f e (la = 1) k (V m 15) x ∧ x ≤ 8 ∧ V' m 15 = x ∧ V' (sr sh m 14) = gAt (V (sr sh m 14)) (V m 15) (gLs f e la k)) ∨ (y = 0 ∧ ¬ ∃ x, mGs f e (la = 1) k (V m 15) x ∧ x ≤ 8)) := by
  have o14 := os14 M
  intro n
  induction n using Nat.strongRecOn with
  | _ n ih =>
    intro V k o6 o7 o8 o9 hn S hf hk hc
    rw [w140_3]
    by_cases c1 : e ≤ k
    · rw [if_pos c1]
      have key : ∀ x, mGs f e (la = 1) k (V m 15) x ↔ x = V m 15 := fun x => by
        rw [mGs_st]
        exact ⟨fun w => w.elim (fun z => z.2) (fun z => by omega), fun w => Or.inl ⟨c1, w⟩⟩
      by_cases c2 : 8 < V m 15
      · rw [if_pos c2]
        refine ⟨0, V, rfl, FrM.refl, Or.inr ⟨rfl, ?_⟩⟩
        rintro ⟨x, hx, h8⟩
        rw [(key x).mp hx] at h8; omega
      · rw [if_neg c2]
        exact ⟨1, V, rfl, FrM.refl, Or.inl ⟨rfl, V m 15, (key _).mpr rfl, by omega, rfl, by rw [(gLs_st f e la k).1 c1, gAt_nil]⟩⟩
    rw [if_neg c1, M129 S hr 58 k e (by omega) (by omega), hf]
    simp only [wcx_v, wput_s, w140_19]
    have rs := fn_rng f 58 (show k ≤ e by omega)
    have ec : cfn f 58 k e = fn f 58 k e := if_pos (by omega)
    have gs := (gLs_st f e la k).2 (by omega)
    rw [ec] at gs
    obtain ⟨s, hs⟩ : ∃ s, s = fn f 58 k e := ⟨_, rfl⟩
    rw [← hs] at rs gs ⊢
    have gs1 := gs.1
    have gs2 := gs.2
    clear gs
    -- the tail: behind the group
    have tail : ∀ (W : wSt) (c' : Int) (ng : List Int) (p7 p8 p9 : Option wV), FrM m [15, 16] [sr sh m 14] V W → W m 15 = c' → c' ≤ V m 15 + 2 → c' = V m 15 + ng.length → 0 < ng.length → gLs f e la k = ng ++ gLs f e la (s + 1) → (c' ≤ 8 → W (sr sh m 14) = gAt (V (sr sh m 14)) (V m 15) ng) → (∀ c2, gT f e (la = 1) k (V m 15) c2 ↔ c2 = c') → ∃ y V', wev zP 140 141 [some (wR m), some (wI r), some (wI a), some (wI e), some (wI la), some (wI k), some (wI s), p7, p8, p9] [] (sh, W) = rI y (sh, V') ∧ FrM m [15, 16] [sr sh m 14] V V' ∧ ((y = 1 ∧ ∃ x, mGs f e (la = 1) k (V m 15) x ∧ x ≤ 8 ∧ V' m 15 = x ∧ V' (sr sh m 14) = gAt (V (sr sh m 14)) (V m 15) (gLs f e la k)) ∨ (y = 0 ∧ ¬ ∃ x, mGs f e (la = 1) k (V m 15) x ∧ x ≤ 8)) := by
      intro W c' ng p7 p8 p9 fr hW h1 hl hp hng hv hg
      clear gs1 gs2
      have b1 : wr (e - 1) = e - 1 := wr_eq (by clear ih hg hv; omega) (by clear ih hg hv; omega)
      have b2 : wr (s + 1) = s + 1 := wr_eq (by clear ih hg hv; omega) (by clear ih hg hv; omega)
      have b3 : (e + 2 - (s + 1)).toNat < n := by clear ih hg hv; omega
      have b4 : 0 ≤ s + 1 ∧ s + 1 ≤ 200002 := by clear ih hg hv; omega
      have b5 : 0 ≤ W m 15 ∧ W m 15 ≤ 2 * (s + 1) + 18 := by clear ih hg hv; omega
      have b6 : k < e := by clear ih hg hv; omega
      rw [w140_141, b1]
      have stp : ∀ x, mGs f e (la = 1) k (V m 15) x ↔ (s ≠ e - 1 ∧ mGs f e (la = 1) (s + 1) c' x) := fun x => by
        rw [mGs_st, ← hs]
        constructor
        · rintro (⟨w, -⟩ | ⟨-, c2, g, w1, w2⟩)
          · exact absurd w c1
          · rw [(hg c2).mp g] at w2; exact ⟨w1, w2⟩
        · rintro ⟨w1, w2⟩
          exact Or.inr ⟨b6, c', (hg c').mpr rfl, w1, w2⟩
      by_cases c3 : s = e - 1
      · rw [if_pos c3]
        refine ⟨0, W, rfl, fr, Or.inr ⟨rfl, ?_⟩⟩
        rintro ⟨x, hx, -⟩; exact ((stp x).mp hx).1 c3
      · rw [if_neg c3, b2]
        obtain ⟨q1, q2⟩ := fr.rows M o14
        obtain ⟨y, V', e1, f1, r1⟩ := ih (e + 2 - (s + 1)).toNat b3 W (s + 1) (some (wI s)) p7 p8 p9 rfl (mSz_cg q2 S) (by rw [mx_cg q1 q2]; exact hf) b4 b5
        rw [hW] at r1
        refine ⟨y, V', e1, fr.trans f1, ?_⟩
        rcases r1 with ⟨y1, x, x1, x2, x3, x4⟩ | ⟨y0, r0⟩
        · have cx := mGs_mono x1
          refine Or.inl ⟨y1, x, (stp x).mpr ⟨c3, x1⟩, x2, x3, ?_⟩
          rw [x4, hv (by clear ih hg hv; omega), hng, hl, gAt_app]
        · refine Or.inr ⟨y0, ?_⟩
          rintro ⟨x, hx, h8⟩; exact r0 ⟨x, ((stp x).mp hx).2, h8⟩
    -- one group
    have one : ∀ (W : wSt) (p9 : Option wV), FrM m [15, 16] [sr sh m 14] V W → W m 15 = V m 15 → W (sr sh m 14) = V (sr sh m 14) → ¬ (la = 1 ∧ fn f 58 k e = e ∧ cF f k e) → ∃ y V', wev zP 140 75 [some (wR m), some (wI r), some (wI a), some (wI e), some (wI la), some (wI k), some (wI s), some (wI 0), some (wI k), p9] [] (sh, W) = rI y (sh, V') ∧ FrM m [15, 16] [sr sh m 14] V V' ∧ ((y = 1 ∧ ∃ x, mGs f e (la = 1) k (V m 15) x ∧ x ≤ 8 ∧ V' m 15 = x ∧ V' (sr sh m 14) = gAt (V (sr sh m 14)) (V m 15) (gLs f e la k)) ∨ (y = 0 ∧ ¬ ∃ x, mGs f e (la = 1) k (V m 15) x ∧ x ≤ 8)) := by
      intro W p9 fr hW hW14 hno
      obtain ⟨q1, q2⟩ := fr.rows M o14
      have SW := mSz_cg q2 S
      have fW : gl (mx sh W m r) = f := by rw [mx_cg q1 q2]; exact hf
      have hx := M140_75 SW hr a e la k s (by omega) (by omega) _ k 0 p9 rfl (Int.le_refl k) (by omega) (by omega) (by omega) (by omega) (by omega) (by omega) (by omega)
      rw [fW] at hx
      have pgi := pG_i f k s
      have none : ¬ pG f k s → ¬ ∃ x, mGs f e (la = 1) k (V m 15) x ∧ x ≤ 8 := by
        rintro hp ⟨x, hx, -⟩
        rcases mGs_st.mp hx with ⟨w, -⟩ | ⟨-, c2, g, -, -⟩
        · omega
        · rcases g with g | g
          · exact hno ⟨g.1, g.2.1, g.2.2.1⟩
          · rw [← hs] at g; exact hp g.1
      by_cases w : pA pHx f k s = 1 ∧ s - k ≤ 4
      · obtain ⟨v', i', o9', e1, ev⟩ := hx.1 w
        rw [e1]
        by_cases c4 : s = k
        · rw [if_pos c4]
          exact ⟨0, W, rfl, fr, Or.inr ⟨rfl, none (fun z => by have := (pgi.mp z).1; omega)⟩⟩
        · rw [if_neg c4]
          obtain ⟨W2, e2, f2, v2, u2⟩ := M141 (V := W) M v' (by omega)
          rw [e2]
          simp only [wcx_v, wput_n]
          have hp : pG f k s := pgi.mpr ⟨by omega, w.2, w.1⟩
          have ng := gs2 (fun z => hno ⟨z.1, by rw [← hs]; exact z.2.1, bI_i.mp z.2.2⟩)
          rw [← ev] at ng
          refine tail W2 (V m 15 + 1) [v'] _ _ _ (fr.trans (f2.mono (fun j hj => by rw [List.mem_singleton.mp hj]; decide) (fun j hj => hj))) (by omega) (by omega) rfl (by simp only [List.length_cons]; omega) ng (fun h8 => ?_) (fun c2 => ⟨fun g => ?_, fun g => Or.inr ⟨by rw [← hs]; exact hp, g⟩⟩)
          · rw [← gAt_1 _ _ _ hc.1]
            funext j
            rw [u2, hW, hW14]
            by_cases d : (j : Int) = V m 15
            · rw [if_pos ⟨by clear ih tail; omega, d⟩, if_pos d]
            · rw [if_neg (fun z => d z.2), if_neg d]
          · rcases g with g | g
            · exact absurd ⟨g.1, g.2.1, g.2.2.1⟩ hno
            · exact g.2
      · rw [hx.2 w]
        exact ⟨0, W, rfl, fr, Or.inr ⟨rfl, none (fun z => w ⟨(pgi.mp z).2.2, (pgi.mp z).2.1⟩)⟩⟩
    by_cases c2 : la = 0
    · rw [if_pos c2]; exact one V o9 FrM.refl rfl rfl (fun w => by have := w.1; omega)
    rw [if_neg c2]
    by_cases c3 : s = e
    rotate_left
    · rw [if_neg c3]; exact one V o9 FrM.refl rfl rfl (fun w => c3 (hs.trans w.2.1))
    rw [if_pos c3]
    obtain ⟨W, e1, f1, w16⟩ := M139 M S hr k e he (by omega)
    rw [hf] at e1 w16
    have fr1 : FrM m [15, 16] [sr sh m 14] V W := f1.mono (fun j hj => by rw [List.mem_singleton.mp hj]; decide) (fun j hj => absurd hj (List.not_mem_nil))
    have hW : W m 15 = V m 15 := f1.2 15 (by decide)
    have hW14 : W (sr sh m 14) = V (sr sh m 14) := f1.1 _ (M.m (by decide)) (List.not_mem_nil)
    rw [e1]
    simp only [wcx_v, wput_s, w140_40]
    rcases bI_r (cF f k e) with hb | hb
    · rw [hb, if_pos rfl]; exact one W o9 fr1 hW hW14 (fun w => bI_n.mp hb w.2.2)
    · rw [hb, if_neg (by decide)]
      have hcf := bI_i.mp hb
      rw [mFb_FB hcf] at w16
      obtain ⟨W2, e2, f2, v2, u2⟩ := M141 (V := W) M (wush (W m 16) 16) (by omega)
      rw [e2]
      simp only [wcx_v, wput_n, w140_54]
      obtain ⟨W3, e3, f3, v3, u3⟩ := M141 (V := W2) M (wand (W2 m 16) 65535) (by omega)
      rw [e3]
      simp only [wcx_v, wput_n, w140_65]
      have w16' : W2 m 16 = FB f e 0 k 0 := by rw [f2.2 16 (by decide)]; exact w16
      have up : ∀ {X Y : wSt}, FrM m [15] [sr sh m 14] X Y → FrM m [15, 16] [sr sh m 14] X Y := fun g => g.mono (fun j hj => by rw [List.mem_singleton.mp hj]; decide) (fun j hj => hj)
      have ng := gs1 ⟨by omega, c3, hb⟩
      refine tail W3 (V m 15 + 2) [wush (FB f e 0 k 0) 16, wand (FB f e 0 k 0) 65535] _ _ _ ((fr1.trans (up f2)).trans (up f3)) (by omega) (by omega) rfl (by simp only [List.length_cons]; omega) ng (fun h8 => ?_) (fun c2' => ⟨fun g => gT_det (by omega) g (Or.inl ⟨by omega, hs.symm.trans c3, hcf, rfl⟩), fun g => Or.inl ⟨by omega, hs.symm.trans c3, hcf, g⟩⟩)
      have a1 : W2 (sr sh m 14) = gAt (V (sr sh m 14)) (V m 15) [wush (FB f e 0 k 0) 16] := by
        rw [← gAt_1 _ _ _ hc.1]
        funext j
        rw [u2, hW, hW14, w16]
        by_cases d : (j : Int) = V m 15
        · rw [if_pos ⟨by clear ih tail one; omega, d⟩, if_pos d]
        · rw [if_neg (fun z => d z.2), if_neg d]
      have a2 : W3 (sr sh m 14) = gAt (W2 (sr sh m 14)) (V m 15 + 1) [wand (FB f e 0 k 0) 65535] := by
        rw [← gAt_1 _ _ _ (by omega)]
        funext j
        rw [u3, v2, hW, w16']
        by_cases d : (j : Int) = V m 15 + 1
        · rw [if_pos ⟨by clear ih tail one; omega, d⟩, if_pos d]
        · rw [if_neg (fun z => d z.2), if_neg d]
      rw [a2, a1]
      exact gAt_app _ _ [wush (FB f e 0 k 0) 16] [wand (FB f e 0 k 0) 65535]
theorem M140v {sh : zSh} {V : wSt} {m : Nat} (M : wMd sh m) (S : mSz sh V m) {r : Int} (hr : 0 ≤ r ∧ r ≤ 13) (a e la : Int) (hla : la = 0 ∨ la = 1) (he : -1 ≤ e ∧ e ≤ 200000) (ha : 0 ≤ a ∧ a ≤ 200002) (hc : 0 ≤ V m 15 ∧ V m 15 ≤ 18) :
    ∃ y V', wcl zP 140 [wR m, wI r, wI a, wI e, wI la] (sh, V) = rI y (sh, V') ∧ FrM m [15, 16] [sr sh m 14] V V' ∧ ((y = 1 ∧ ∃ x, mGs (gl (mx sh V m r)) e (la = 1) a (V m 15) x ∧ x ≤ 8 ∧ V' m 15 = x ∧ V' (sr sh m 14) = gAt (V (sr sh m 14)) (V m 15) (gLs (gl (mx sh V m r)) e la a)) ∨ (y = 0 ∧ ¬ ∃ x, mGs (gl (mx sh V m r)) e (la = 1) a (V m 15) x ∧ x ≤ 8)) := by
  rw [w140_0]; exact M140v_3 M hr a e la hla _ he _ V a none none none none rfl S rfl ha (by omega)
theorem M142v_137 {sh : zSh} {m : Nat} (M : wMd sh m) (r a e g b q : Int) (hb : 0 ≤ b ∧ b ≤ q) (hq : 0 ≤ q ∧ q ≤ 7) : ∀ (n : Nat) (V : wSt) (x : Int) (o8 : Option wV), (x + 1 - b).toNat = n → b - 1 ≤ x ∧ x ≤ 7 → ∃ V', wev zP 142 137 [some (wR m), some (wI r), some (wI a), some (wI e), some (wI g), some (wI b), some (wI q), some (wI x), o8] [] (sh, V) = rI 1 (sh, V') ∧ FrM m [] [sr sh m 14] V V' ∧ ∀ j : Nat, V' (sr sh m 14) j = if b ≤ j ∧ (j : Int) ≤ x then (if b ≤ (j : Int) - (8 - q) then V (sr sh m 14) ((j : Int) - (8 - q)).toNat else 0) else V (sr sh m 14) j := by
  have ne : sr sh m 14 ≠ m := M.1 14 (by decide)
  intro n
  induction n with
  | zero => intro V x o8 hn hx; rw [w142_137, if_pos (by omega)]; exact ⟨V, rfl, FrM.refl, fun j => by rw [if_neg (by omega)]⟩
  | succ n ih =>
    intro V x o8 hn hx
    have go : ∀ y : Int, y = (if b ≤ x - (8 - q) then V (sr sh m 14) (x - (8 - q)).toNat else 0) → ∃ V', wev zP 142 178 [some (wR m), some (wI r), some (wI a), some (wI e), some (wI g), some (wI b), some (wI q), some (wI x), some (wI (x - (8 - q)))] [wI y, wI x, wR (sr sh m 14)] (sh, V) = rI 1 (sh, V') ∧ FrM m [] [sr sh m 14] V V' ∧ ∀ j : Nat, V' (sr sh m 14) j = if b ≤ j ∧ (j : Int) ≤ x then (if b ≤ (j : Int) - (8 - q) then V (sr sh m 14) ((j : Int) - (8 - q)).toNat else 0) else V (sr sh m 14) j := fun y hy => by
      obtain ⟨W, hW⟩ : ∃ W, W = uI V (sr sh m 14) (Int.toNat x) y := ⟨_, rfl⟩
      have w14 : ∀ j, W (sr sh m 14) j = if (j : Int) = x then y else V (sr sh m 14) j := fun j => by
        rw [hW]; unfold uI
        by_cases d : (j : Int) = x
        · rw [if_pos ⟨rfl, by omega⟩, if_pos d]
        · rw [if_neg (fun w => d (by have := w.2; omega)), if_neg d]
      obtain ⟨V', e1, f1, v1⟩ := ih W (x - 1) (some (wI (x - (8 - q)))) (by omega) (by omega)
      refine ⟨V', ?_, FrM.trans (V' := W) (by rw [hW]; exact FrM_a (List.mem_cons_self) ne) f1, fun j => ?_⟩
      · rw [w142_178, ← hW, wr_eq (by omega) (by omega), show x + -1 = x - 1 by omega, e1]
      · rw [v1]
        by_cases d : (j : Int) = x
        · rw [if_neg (by omega), if_pos (by omega), w14, if_pos d, hy, d]
        · by_cases d2 : b ≤ j ∧ (j : Int) ≤ x - 1
          · rw [if_pos d2, if_pos (c := b ≤ (j : Int) ∧ (j : Int) ≤ x) (by omega)]
            by_cases d3 : b ≤ (j : Int) - (8 - q)
            · rw [if_pos d3, if_pos d3, w14, if_neg (by omega)]
            · rw [if_neg d3, if_neg d3]
          · rw [if_neg d2, if_neg (by omega), w14, if_neg d]
    rw [w142_137, if_neg (by omega), wr_eq (x := 8 - q) (by omega) (by omega), wr_eq (x := x - (8 - q)) (by omega) (by omega)]
    by_cases c : x - (8 - q) < b
    · rw [if_pos c]; exact go 0 (by rw [if_neg (by omega)])
    · rw [if_neg c]; exact go _ (by rw [if_pos (by omega)])
theorem M142v {sh : zSh} {V : wSt} {m : Nat} (M : wMd sh m) (S : mSz sh V m) {r : Int} (hr : 0 ≤ r ∧ r ≤ 13) (a e : Int) (he : -1 ≤ e ∧ e ≤ 200000) (ha : 0 ≤ a ∧ a ≤ 200002) : ∃ V', wcl zP 142 [wR m, wI r, wI a, wI e] (sh, V) = rI (bI (cSix (gl (mx sh V m r)) a e)) (sh, V') ∧ FrM m [15, 16] [sr sh m 14] V V' ∧ (cSix (gl (mx sh V m r)) a e → ∃ P g, six6 (gl (mx sh V m r)) a e P g ∧ (∀ x, x ∈ P → 0 ≤ x ∧ x ≤ 65535) ∧ ∀ j : Nat, j < 8 → V' (sr sh m 14) j = arr P g j) := by
  rw [show cSix (gl (mx sh V m r)) a e = mSix (gl (mx sh V m r)) a e from propext six_eq]
  have o14 := os14 M
  have fr0 : FrM m [15, 16] [sr sh m 14] V (uI V m 15 0) := FrM_f (List.mem_cons_self)
  obtain ⟨q1, q2⟩ := fr0.rows M o14
  have S0 := mSz_cg q2 S
  have t0 := mx_cg q1 q2 r
  have c0 : uI V m 15 0 m 15 = 0 := by unfold uI; rw [if_pos ⟨rfl, rfl⟩]
  obtain ⟨W, hW⟩ : ∃ W, W = uI V m 15 0 := ⟨_, rfl⟩
  rw [w142_0]
  rw [← hW] at fr0 q1 q2 S0 t0 c0 ⊢
  have find := M142_8 S0 hr a e he _ a rfl ha (fun k h1 h2 => by omega) (Int.le_refl a)
  rw [t0] at find
  obtain ⟨f, hf⟩ : ∃ f, f = gl (mx sh V m r) := ⟨_, rfl⟩
  rw [← hf] at find ⊢
  have fin0 : ∀ (p : Prop) (X : wSt) (R : wSt → Prop), FrM m [15, 16] [sr sh m 14] V X → ¬ p → ∃ V', rI 0 (sh, X) = rI (bI p) (sh, V') ∧ FrM m [15, 16] [sr sh m 14] V V' ∧ (p → R V') := fun p X R fx hp => ⟨X, rI_cg (bI_0 hp).symm, fx, fun w => absurd w hp⟩
  have fin1 : ∀ (p : Prop) (X : wSt) (R : wSt → Prop), FrM m [15, 16] [sr sh m 14] V X → p → R X → ∃ V', rI 1 (sh, X) = rI (bI p) (sh, V') ∧ FrM m [15, 16] [sr sh m 14] V V' ∧ (p → R V') := fun p X R fx hp hR => ⟨X, rI_cg (bI_1 hp).symm, fx, fun _ => hR⟩
  rcases find with ⟨g, hg, hge, hG, hno, eq⟩ | ⟨g', hno, eq⟩
  · rw [eq]
    obtain ⟨y, X, e1, f1, r1⟩ := M140v M S0 hr a g 0 (Or.inl rfl) (by omega) ha (by omega)
    rw [t0, ← hf, c0] at r1
    rw [e1]
    simp only [wcx_v, wput_s, w142_91]
    have uniq : mSix f a e ↔ ∃ c1 x, mGs f g False a 0 c1 ∧ c1 ≤ 8 ∧ mGs f e True (g + 2) c1 x ∧ x ≤ 7 := by
      constructor
      · rintro (⟨w, -⟩ | ⟨g2, h1, h2, h3, h4⟩)
        · exact absurd hG (w g hg)
        · have : g2 = g := by
            rcases Int.lt_trichotomy g2 g with w | w | w
            · exact absurd h2 (hno g2 h1 w)
            · exact w
            · exact absurd hG (h3 g hg w)
          subst this; exact h4
      · intro h4; exact Or.inr ⟨g, hg, hG, hno, h4⟩
    have r1' := r1
    rw [show ((0 : Int) = 1) = False from propext ⟨fun w => by omega, fun w => w.elim⟩] at r1
    rcases r1 with ⟨y1, c1, m1, c8, v1, u1⟩ | ⟨y0, r0⟩
    · rw [y1, if_neg (by decide), wr_eq (by omega) (by omega)]
      obtain ⟨p1, p2⟩ := (fr0.trans f1).rows M o14
      have cm := mGs_mono m1
      have l1 := mGs_gL (f := f) (e := g) (la := 0) _ a 0 c1 (Nat.le_refl _) (by rw [show ((0 : Int) = 1) = False from propext ⟨fun w => by omega, fun w => w.elim⟩]; exact m1)
      obtain ⟨z, Y, e2, f2, r2⟩ := M140v M (mSz_cg p2 S) hr (g + 2) e 1 (Or.inr rfl) he (by omega) (by omega)
      rw [mx_cg p1 p2, ← hf, v1, show ((1 : Int) = 1) = True from propext ⟨fun _ => trivial, fun _ => rfl⟩] at r2
      rw [e2]
      simp only [wcx_v, wput_s, w142_113]
      rcases r2 with ⟨z1, x, m2, x8, v2, u2⟩ | ⟨z0, r0⟩
      · rw [z1, if_neg (by decide)]
        by_cases c7 : Y m 15 ≤ 7
        · rw [if_pos c7]
          have xm := mGs_mono m2
          have l2 := mGs_gL (f := f) (e := e) (la := 1) _ (g + 2) c1 x (Nat.le_refl _) (by rw [show ((1 : Int) = 1) = True from propext ⟨fun _ => trivial, fun _ => rfl⟩]; exact m2)
          obtain ⟨Z, e3, f3, u3⟩ := M142v_137 M r a e g (X m 15) (Y m 15) (by omega) (by omega) _ Y 7 none rfl (by omega)
          rw [e3]
          refine fin1 _ Z _ (((fr0.trans f1).trans f2).trans (f3.mono (fun j hj => absurd hj (List.not_mem_nil)) (fun j hj => hj))) (uniq.mpr ⟨c1, x, m1, c8, m2, by omega⟩) ⟨gLs f g 0 a ++ gLs f e 1 (g + 2), (gLs f g 0 a).length, Or.inr ⟨g, hg, hG, hno, rfl, rfl⟩, fun w hw => (List.mem_append.mp hw).elim (l1.2 w) (l2.2 w), fun j hj => ?_⟩
          have y14 : Y (sr sh m 14) = gAt (W (sr sh m 14)) 0 (gLs f g 0 a ++ gLs f e 1 (g + 2)) := by
            rw [u2, u1, show c1 = 0 + ((gLs f g 0 a).length : Int) by omega]
            exact gAt_app _ _ _ _
          have ll : ((gLs f g 0 a ++ gLs f e 1 (g + 2)).length : Int) = x := by rw [List.length_append]; omega
          rw [u3, v1, v2, y14]
          have x7 : x ≤ 7 := by omega
          have c1l : c1 = (gLs f g 0 a).length := by omega
          clear uniq r1' hno
          unfold arr
          rw [if_neg (c := ((gLs f g 0 a).length : Int) = -1) (by omega)]
          unfold sprd
          rw [ll, ← c1l]
          have at_ : ∀ i : Nat, (i : Int) < x → gAt (W (sr sh m 14)) 0 (gLs f g 0 a ++ gLs f e 1 (g + 2)) i = (gLs f g 0 a ++ gLs f e 1 (g + 2)).getD i 0 := fun i hi => by
            unfold gAt
            rw [ll, if_pos (by omega), show ((i : Int) - 0).toNat = i by omega]
          by_cases d1 : c1 ≤ j ∧ (j : Int) ≤ 7
          · rw [if_pos d1]
            by_cases d2 : c1 ≤ (j : Int) - (8 - x)
            · rw [if_pos d2, if_neg (c := c1 ≤ (j : Int) ∧ (j : Int) < c1 + (8 - x)) (by omega), if_pos (c := c1 + (8 - x) ≤ (j : Int) ∧ (j : Int) ≤ 7) (by omega), at_ _ (by omega), show ((j : Int) - (8 - x)).toNat = j - (8 - x).toNat by omega]
            · rw [if_neg d2, if_pos (c := c1 ≤ (j : Int) ∧ (j : Int) < c1 + (8 - x)) (by omega)]
          · rw [if_neg d1, if_neg (c := c1 ≤ (j : Int) ∧ (j : Int) < c1 + (8 - x)) (by omega), if_neg (c := c1 + (8 - x) ≤ (j : Int) ∧ (j : Int) ≤ 7) (by omega), at_ _ (by omega)]
        · rw [if_neg c7]
          refine fin0 _ Y _ ((fr0.trans f1).trans f2) (fun w => ?_)
          obtain ⟨d1, x', n1, -, n2, n7⟩ := uniq.mp w
          have e4 := mGs_det _ _ _ _ _ (Nat.le_refl _) m1 n1
          subst e4
          have e5 := mGs_det _ _ _ _ _ (Nat.le_refl _) m2 n2
          omega
      · rw [z0, if_pos rfl]
        refine fin0 _ Y _ ((fr0.trans f1).trans f2) (fun w => ?_)
        obtain ⟨d1, x', n1, -, n2, n7⟩ := uniq.mp w
        have e4 := mGs_det _ _ _ _ _ (Nat.le_refl _) m1 n1
        subst e4
        exact r0 ⟨x', n2, by omega⟩
    · rw [y0, if_pos rfl]
      refine fin0 _ X _ (fr0.trans f1) (fun w => ?_)
      obtain ⟨d1, x', n1, n8, -, -⟩ := uniq.mp w
      exact r0 ⟨d1, n1, n8⟩
  · rw [eq]
    obtain ⟨y, X, e1, f1, r1⟩ := M140v M S0 hr a e 1 (Or.inr rfl) he ha (by omega)
    rw [t0, ← hf, c0, show ((1 : Int) = 1) = True from propext ⟨fun _ => trivial, fun _ => rfl⟩] at r1
    rw [e1]
    simp only [wcx_v, wput_s, w142_64]
    have uniq : mSix f a e ↔ mGs f e True a 0 8 := by
      constructor
      · rintro (⟨-, w⟩ | ⟨g2, h1, h2, -⟩)
        · exact w
        · exact absurd h2 (hno g2 h1)
      · intro h; exact Or.inl ⟨hno, h⟩
    rcases r1 with ⟨y1, x, m1, c8, v1, u1⟩ | ⟨y0, r0⟩
    · rw [y1, if_neg (by decide)]
      by_cases c : X m 15 = 8
      · rw [if_pos c]
        have l1 := mGs_gL (f := f) (e := e) (la := 1) _ a 0 x (Nat.le_refl _) (by rw [show ((1 : Int) = 1) = True from propext ⟨fun _ => trivial, fun _ => rfl⟩]; exact m1)
        refine fin1 _ X _ (fr0.trans f1) (uniq.mpr (by rw [← c, v1]; exact m1)) ⟨gLs f e 1 a, -1, Or.inl ⟨hno, rfl, rfl⟩, l1.2, fun j hj => ?_⟩
        rw [u1]
        unfold gAt arr
        rw [if_pos rfl, if_pos (by clear uniq hno; omega), show ((j : Int) - 0).toNat = j by omega]
      · rw [if_neg c]
        exact fin0 _ X _ (fr0.trans f1) (fun w => c (by rw [v1]; exact mGs_det _ _ _ _ _ (Nat.le_refl _) m1 (uniq.mp w)))
    · rw [y0, if_pos rfl]
      exact fin0 _ X _ (fr0.trans f1) (fun w => r0 ⟨8, uniq.mp w, by decide⟩)
