set_option maxRecDepth 16384
/-! parts: composed, guarded, counted -/
theorem zT_1 : zT 1 = [47, 47] := by decide
theorem zT_2 : zT 2 = [47, 46] := by decide
theorem zTb_of {k : Nat} (h : ((ztx.getD (k - 1) []).all (fun n => n ≤ 255) && decide ((ztx.getD (k - 1) []).length ≤ 100)) = true) : zTb k := by
  rw [Bool.and_eq_true] at h; exact ⟨h.1, of_decide_eq_true h.2⟩
def CmS (sh : zSh) (V0 V : wSt) (r p : Nat) (Q : Nat → List Int × Int) (L M : List Int) (th : Int) : Prop := RwU sh V0 V r ((L ++ M).take (cap sh r)) th ∧ AllR sh V ∧ ∀ k, k < 7 → pv sh V p k = Q k
theorem CmS.st {sh : zSh} {V0 V : wSt} {r p : Nat} {Q : Nat → List Int × Int} {L M : List Int} {th : Int} (h : CmS sh V0 V r p Q L M th) (Z : zInj sh) (P : wPt sh p) (hr : zRow sh r) (n : ∀ k, k < 7 → sr sh p k ≠ r) (k : Nat) (hk : k < 7) (b c : Int) (hb : -1 ≤ b ∧ b ≤ 255) (hc : -1 ≤ c ∧ c ≤ 255) : ∃ V', wcl zP 29 [wR r, wR (sr sh p k), wI b, wI c] (sh, V) = rN (sh, V') ∧ CmS sh V0 V' r p Q L (M ++ wm (Q k) b c) th := by
  obtain ⟨V', e, u⟩ := S29 h.1.2.1 (h.2.1 _ (P.1 k hk)) (n k hk) (Z _ _ (P.1 k hk) hr (n k hk)) b c hb hc
  refine ⟨V', e, ?_, u.all h.2.1, fun j hj => (u.pvo Z P n hj).trans (h.2.2 j hj)⟩
  have g := h.1.ad u
  rw [show (tx sh V (sr sh p k), V (sr sh p k) 2) = Q k from h.2.2 k hk] at g
  exact g
theorem CmS.tx {sh : zSh} {V0 V : wSt} {r p : Nat} {Q : Nat → List Int × Int} {L M : List Int} {th : Int} (h : CmS sh V0 V r p Q L M th) (Z : zInj sh) (P : wPt sh p) (n : ∀ k, k < 7 → sr sh p k ≠ r) (k : Nat) (hk : zTb k) : ∃ V', wcl zP 60 [wR r, wX k] (sh, V) = rN (sh, V') ∧ CmS sh V0 V' r p Q L (M ++ zT k) th := by
  obtain ⟨V', e, u⟩ := S60 h.1.2.1 hk
  exact ⟨V', e, h.1.ad u, u.all h.2.1, fun j hj => (u.pvo Z P n hj).trans (h.2.2 j hj)⟩
/-- a reference as a text -/
def cmp (Q : Nat → List Int × Int) : List Int :=
  wm (Q 0) (-1) 58 ++ (if (Q 2).2 = 0 then [] else [47, 47]) ++ wm (Q 1) (-1) 64 ++ wm (Q 2) (-1) (-1) ++ wm (Q 3) 58 (-1) ++ wm (Q 4) (-1) (-1) ++ wm (Q 5) 63 (-1) ++ wm (Q 6) 35 (-1)
theorem S28 {sh : zSh} {V : wSt} {r p : Nat} (A : AllR sh V) (Z : zInj sh) (P : wPt sh p) (hr : zRow sh r) (n : ∀ k, k < 7 → sr sh p k ≠ r) : ∃ V', wcl zP 28 [wR p, wR r] (sh, V) = rN (sh, V') ∧ RwU sh V V' r ((cmp (pv sh V p)).take (cap sh r)) 0 ∧ AllR sh V' ∧ ∀ k, k < 7 → pv sh V' p k = pv sh V p k := by
  obtain ⟨Q, hQ⟩ : ∃ Q, Q = pv sh V p := ⟨_, rfl⟩
  obtain ⟨V0, e0, u0, -⟩ := S62 (V := V) hr
  have s0 : CmS sh V V0 r p Q [] [] 0 := ⟨u0.eq (by rw [List.append_nil, List.take_nil]), u0.all A, fun k hk => by rw [hQ]; exact u0.pvo Z P n hk⟩
  obtain ⟨V1, e1, s1⟩ := s0.st Z P hr n 0 (by decide) (-1) 58 (by decide) (by decide)
  rw [List.nil_append] at s1
  obtain ⟨V2, e2, s2⟩ : ∃ V2, wev zP 28 15 [some (wR p), some (wR r)] [] (sh, V1) = wev zP 28 31 [some (wR p), some (wR r)] [] (sh, V2) ∧ CmS sh V V2 r p Q [] (wm (Q 0) (-1) 58 ++ (if (Q 2).2 = 0 then [] else [47, 47])) 0 := by
    have h2 : V1 (sr sh p 2) 2 = (Q 2).2 := congrArg Prod.snd (s1.2.2 2 (by decide))
    rw [w28_15, h2]
    by_cases c : (Q 2).2 = 0
    · rw [if_pos c, if_pos c, List.append_nil]; exact ⟨V1, rfl, s1⟩
    · rw [if_neg c, if_neg c]
      obtain ⟨V2, e2, s2⟩ := s1.tx Z P n 1 (zTb_of (by decide))
      rw [zT_1] at s2
      exact ⟨V2, by rw [e2]; simp only [wcx_v, wput_n], s2⟩
  obtain ⟨V3, e3, s3⟩ := s2.st Z P hr n 1 (by decide) (-1) 64 (by decide) (by decide)
  obtain ⟨V4, e4, s4⟩ := s3.st Z P hr n 2 (by decide) (-1) (-1) (by decide) (by decide)
  obtain ⟨V5, e5, s5⟩ := s4.st Z P hr n 3 (by decide) 58 (-1) (by decide) (by decide)
  obtain ⟨V6, e6, s6⟩ := s5.st Z P hr n 4 (by decide) (-1) (-1) (by decide) (by decide)
  obtain ⟨V7, e7, s7⟩ := s6.st Z P hr n 5 (by decide) 63 (-1) (by decide) (by decide)
  obtain ⟨V8, e8, s8⟩ := s7.st Z P hr n 6 (by decide) 35 (-1) (by decide) (by decide)
  rw [← hQ]
  refine ⟨V8, ?_, s8.1.eq (by rw [List.nil_append]; rfl), s8.2⟩
  rw [w28_0, e0]
  simp only [wcx_v, wput_n, w28_4]
  rw [e1]
  simp only [wcx_v, wput_n]
  rw [e2, w28_31, e3]
  simp only [wcx_v, wput_n, w28_42]
  rw [e4]
  simp only [wcx_v, wput_n, w28_52]
  rw [e5]
  simp only [wcx_v, wput_n, w28_63]
  rw [e6]
  simp only [wcx_v, wput_n, w28_73]
  rw [e7]
  simp only [wcx_v, wput_n, w28_84]
  rw [e8]
  simp only [wcx_v, wput_n, w28_95]
/-- a path that is no authority -/
def pgd (Q : Nat → List Int × Int) : Nat → List Int × Int := if (Q 2).2 = 0 ∧ gl (Q 4).1 0 = 47 ∧ gl (Q 4).1 1 = 47 then pup Q 4 (47 :: 46 :: (Q 4).1, (Q 4).2) else Q
theorem S30 {sh : zSh} {V : wSt} {p : Nat} (A : AllR sh V) (Z : zInj sh) (P : wPt sh p) (hc : (pv sh V p 4).1.length + 2 ≤ cap sh (sr sh p 4)) : ∃ V', wcl zP 30 [wR p] (sh, V) = rN (sh, V') ∧ PwU sh V V' p (pgd (pv sh V p)) := by
  have q := A _ (P.1 4 (by decide))
  have no : ¬ ((pv sh V p 2).2 = 0 ∧ gl (pv sh V p 4).1 0 = 47 ∧ gl (pv sh V p 4).1 1 = 47) → wev zP 30 45 [some (wR p)] [] (sh, V) = rN (sh, V) ∧ PwU sh V V p (pgd (pv sh V p)) := fun c => by
    rw [w30_45]; unfold pgd; rw [if_neg c]; exact ⟨rfl, PwU.refl A⟩
  rw [w30_0]
  by_cases c : V (sr sh p 2) 2 = 0
  · rw [if_pos c, S57 q]
    simp only [wcx_v, wput_s, w30_18]
    by_cases c1 : gl (tx sh V (sr sh p 4)) 0 = 47
    · rw [if_pos c1, S57 q]
      simp only [wcx_v, wput_s, w30_31]
      by_cases c2 : gl (tx sh V (sr sh p 4)) 1 = 47
      · rw [if_pos c2]
        obtain ⟨V', e, u⟩ := S83 q (zTb_of (k := 2) (by decide)) (by rw [zT_2]; decide) (by rw [zT_2]; exact hc)
        rw [zT_2] at u
        refine ⟨V', ?_, (u.pw A Z P (by decide)).cg (fun k hk => ?_)⟩
        · rw [e]; simp only [wcx_v, wput_n, w30_45]
        · unfold pgd; rw [if_pos ⟨c, c1, c2⟩]; rfl
      · rw [if_neg c2]; exact ⟨V, no (fun w => c2 w.2.2)⟩
    · rw [if_neg c1]; exact ⟨V, no (fun w => c1 w.2.1)⟩
  · rw [if_neg c]; exact ⟨V, no (fun w => c w.1)⟩
/-- the number of a port -/
def pno (x : List Int × Int) : Int := if x.2 = 0 ∨ x.1.length = 0 then -1 else pNm (gl x.1) 0 x.1.length 0
theorem S31 {sh : zSh} {V : wSt} {p : Nat} (A : AllR sh V) (P : wPt sh p) (h5 : (pv sh V p 3).1.length ≤ 5) : wcl zP 31 [wR p] (sh, V) = rI (pno (pv sh V p 3)) (sh, V) := by
  have q := A _ (P.1 3 (by decide))
  have z := q.sz
  have tl := tx_sz q
  have h5' : (tx sh V (sr sh p 3)).length ≤ 5 := h5
  unfold pno
  show _ = rI (if V (sr sh p 3) 2 = 0 ∨ (tx sh V (sr sh p 3)).length = 0 then -1 else pNm (gl (tx sh V (sr sh p 3))) 0 (tx sh V (sr sh p 3)).length 0) (sh, V)
  rw [w31_0]
  by_cases c : V (sr sh p 3) 2 = 0
  · rw [if_pos c, if_pos (Or.inl c)]
  · rw [if_neg c]
    by_cases d : V (sr sh p 3) 1 ≤ 0
    · rw [if_pos d, if_pos (Or.inr (by omega))]
    · rw [if_neg d, if_neg (by omega), S79 q 0 _ (by omega) (by omega) (by decide), tl]
      simp only [wcx_v, wput_s, w31_35]
/-- how many segments, how many pairs -/
def sgc (L : List Int) : Int := if L.length = 0 then 0 else lc 47 (L.drop 1) + 1
def prc (x : List Int × Int) : Int := if x.2 = 0 then 0 else lc 38 x.1 + 1
theorem S32 {sh : zSh} {V : wSt} {p : Nat} (A : AllR sh V) (P : wPt sh p) : wcl zP 32 [wR p] (sh, V) = rI (sgc (pv sh V p 4).1) (sh, V) := by
  have q := A _ (P.1 4 (by decide))
  have z := q.sz
  have tl := tx_sz q
  have lr := lc_r 47 ((tx sh V (sr sh p 4)).drop 1)
  rw [List.length_drop] at lr
  unfold sgc
  show _ = rI (if (tx sh V (sr sh p 4)).length = 0 then 0 else lc 47 ((tx sh V (sr sh p 4)).drop 1) + 1) (sh, V)
  rw [w32_0]
  by_cases d : V (sr sh p 4) 1 = 0
  · rw [if_pos d, if_pos (by omega)]
  · rw [if_neg d, if_neg (by omega), S70 q 47 1 (by decide)]
    simp only [wcx_v, wput_s, w32_24]
    rw [show (1 : Int).toNat = 1 from rfl, wr_eq (by omega) (by omega)]
theorem S33 {sh : zSh} {V : wSt} {p : Nat} (A : AllR sh V) (P : wPt sh p) : wcl zP 33 [wR p] (sh, V) = rI (prc (pv sh V p 5)) (sh, V) := by
  have q := A _ (P.1 5 (by decide))
  have z := q.sz
  have tl := tx_sz q
  have lr := lc_r 38 (tx sh V (sr sh p 5))
  unfold prc
  show _ = rI (if V (sr sh p 5) 2 = 0 then 0 else lc 38 (tx sh V (sr sh p 5)) + 1) (sh, V)
  rw [w33_0]
  by_cases d : V (sr sh p 5) 2 = 0
  · rw [if_pos d, if_pos d]
  · rw [if_neg d, if_neg d, S70 q 38 0 (by decide)]
    simp only [wcx_v, wput_s, w33_20]
    rw [show (0 : Int).toNat = 0 from rfl, List.drop_zero, wr_eq (by omega) (by omega)]
