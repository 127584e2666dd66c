set_option maxRecDepth 16384
/-! parts: what is cleared, copied, put together -/
def pv (sh : zSh) (V : wSt) (p : Nat) (k : Nat) : List Int × Int := (tx sh V (sr sh p k), V (sr sh p k) 2)
def PwU (sh : zSh) (V V' : wSt) (p : Nat) (Q : Nat → List Int × Int) : Prop := FrP sh p V V' ∧ AllR sh V' ∧ ∀ k, k < 7 → pv sh V' p k = Q k
def pup (Q : Nat → List Int × Int) (k : Nat) (x : List Int × Int) : Nat → List Int × Int := fun j => if j = k then x else Q j
theorem PwU.cg {sh : zSh} {V V' : wSt} {p : Nat} {Q Q' : Nat → List Int × Int} (h : PwU sh V V' p Q) (e : ∀ k, k < 7 → Q k = Q' k) : PwU sh V V' p Q' := ⟨h.1, h.2.1, fun k hk => (h.2.2 k hk).trans (e k hk)⟩
theorem PwU.trans {sh : zSh} {V V' W : wSt} {p : Nat} {Q Q' : Nat → List Int × Int} (h : PwU sh V V' p Q) (g : PwU sh V' W p Q') : PwU sh V W p Q' := ⟨h.1.trans g.1, g.2⟩
theorem PwU.refl {sh : zSh} {V : wSt} {p : Nat} (A : AllR sh V) : PwU sh V V p (pv sh V p) := ⟨FrP.refl, A, fun _ _ => rfl⟩
theorem RwU.pw {sh : zSh} {V V' : wSt} {p k : Nat} {L : List Int} {th : Int} (h : RwU sh V V' (sr sh p k) L th) (A : AllR sh V) (Z : zInj sh) (P : wPt sh p) (hk : k < 7) : PwU sh V V' p (pup (pv sh V p) k (L, th)) := by
  refine ⟨h.toP hk, h.all A, fun j hj => ?_⟩
  unfold pup
  by_cases c : j = k
  · rw [if_pos c, c]; exact Prod.ext h.2.2.1 h.2.2.2
  · rw [if_neg c]
    have o := h.oth Z (P.1 j hj) (fun e => c (P.2 j k hj hk e))
    unfold pv; rw [o.1, o.2]
/-- two references have no row in common -/
def pdj (sh : zSh) (p t : Nat) : Prop := ∀ j k, j < 7 → k < 7 → sr sh t j ≠ sr sh p k
theorem FrP.pv {sh : zSh} {p t : Nat} {V V' : wSt} (h : FrP sh p V V') (Z : zInj sh) (P : wPt sh p) (T : wPt sh t) (d : pdj sh p t) {k : Nat} (hk : k < 7) : Jvm.Pilot.CLinkLibraryLaw_law_r7063_89e837.pv sh V' t k = Jvm.Pilot.CLinkLibraryLaw_law_r7063_89e837.pv sh V t k := by
  have o := h.oth Z P (T.1 k hk) (fun j hj => d k j hk hj)
  unfold Jvm.Pilot.CLinkLibraryLaw_law_r7063_89e837.pv; rw [o.1, o.2]
theorem RwU.pvo {sh : zSh} {V V' : wSt} {r p : Nat} {L : List Int} {th : Int} (h : RwU sh V V' r L th) (Z : zInj sh) (P : wPt sh p) (n : ∀ k, k < 7 → sr sh p k ≠ r) {k : Nat} (hk : k < 7) : pv sh V' p k = pv sh V p k := by
  have o := h.oth Z (P.1 k hk) (n k hk)
  unfold pv; rw [o.1, o.2]
theorem S23_2 {sh : zSh} {p : Nat} (Z : zInj sh) (P : wPt sh p) : ∀ (n : Nat) (V : wSt) (x : Int), (7 - x).toNat = n → 0 ≤ x → AllR sh V → ∃ V', wev zP 23 2 [some (wR p), some (wI x)] [] (sh, V) = rN (sh, V') ∧ PwU sh V V' p (fun k => (if (k : Int) < x then (pv sh V p k).1 else [], if k = 4 then 1 else if (k : Int) < x then (pv sh V p k).2 else 0)) := by
  intro n
  induction n with
  | zero =>
    intro V x hn hx A
    have q := A _ (P.1 4 (by decide))
    have u : RwU sh V (uI V (sr sh p 4) 2 1) (sr sh p 4) (tx sh V (sr sh p 4)) 1 := (RwU.same q rfl).th 1 (Or.inr rfl)
    refine ⟨_, ?_, (u.pw A Z P (by decide)).cg (fun k hk => ?_)⟩
    · rw [w23_2, if_pos (by omega)]
    · unfold pup
      rw [if_pos (c := (k : Int) < x) (by omega), if_pos (c := (k : Int) < x) (by omega)]
      by_cases c : k = 4
      · rw [if_pos c, if_pos c, c]; rfl
      · rw [if_neg c, if_neg c]
  | succ n ih =>
    intro V x hn hx A
    obtain ⟨V1, e1, u1, -⟩ := S62 (V := V) (P.1 x.toNat (by omega))
    have w1 := u1.pw A Z P (by omega)
    obtain ⟨V2, e2, w2⟩ := ih V1 (x + 1) (by omega) (by omega) w1.2.1
    refine ⟨V2, ?_, (w1.trans w2).cg (fun k hk => ?_)⟩
    · rw [w23_2, if_neg (by omega), S22 p x V (by omega)]
      simp only [wcx_v, wput_s, w23_13, e1, wput_n, w23_16]
      rw [wr_eq (by omega) (by omega), e2]
    · rw [w1.2.2 k hk]
      unfold pup
      by_cases c : k = x.toNat
      · rw [if_pos c, if_pos (c := (k : Int) < x + 1) (by omega), if_pos (c := (k : Int) < x + 1) (by omega), if_neg (c := (k : Int) < x) (by omega), if_neg (c := (k : Int) < x) (by omega)]
      · rw [if_neg c]
        by_cases d : (k : Int) < x
        · rw [if_pos (c := (k : Int) < x + 1) (by omega), if_pos (c := (k : Int) < x + 1) (by omega), if_pos d, if_pos d]
        · rw [if_neg (c := (k : Int) < x + 1) (by omega), if_neg (c := (k : Int) < x + 1) (by omega), if_neg d, if_neg d]
/-- nothing there but an empty path -/
def pNo : Nat → List Int × Int := fun k => ([], if k = 4 then 1 else 0)
theorem S23 {sh : zSh} {V : wSt} {p : Nat} (A : AllR sh V) (Z : zInj sh) (P : wPt sh p) : ∃ V', wcl zP 23 [wR p] (sh, V) = rN (sh, V') ∧ PwU sh V V' p pNo := by
  rw [w23_0]
  obtain ⟨V', e, w⟩ := S23_2 Z P _ V 0 rfl (by decide) A
  refine ⟨V', e, w.cg (fun k hk => ?_)⟩
  rw [if_neg (c := (k : Int) < 0) (by omega), if_neg (c := (k : Int) < 0) (by omega)]; rfl
/-- what a row holds of what is copied into it -/
def pcut (sh : zSh) (p k : Nat) (x : List Int × Int) : List Int × Int := (x.1.take (cap sh (sr sh p k)), x.2)
theorem S64p {sh : zSh} {V : wSt} {p t k : Nat} (A : AllR sh V) (Z : zInj sh) (P : wPt sh p) (T : wPt sh t) (d : pdj sh p t) (hk : k < 7) : ∃ V', wcl zP 64 [wR (sr sh p k), wR (sr sh t k)] (sh, V) = rN (sh, V') ∧ PwU sh V V' p (pup (pv sh V p) k (pcut sh p k (pv sh V t k))) := by
  obtain ⟨V1, e1, u1⟩ := S64 (A _ (P.1 k hk)) (A _ (T.1 k hk)) (d k k hk hk) (Z _ _ (T.1 k hk) (P.1 k hk) (d k k hk hk))
  exact ⟨V1, e1, u1.pw A Z P hk⟩
theorem S24_2 {sh : zSh} {p t : Nat} (Z : zInj sh) (P : wPt sh p) (T : wPt sh t) (d : pdj sh p t) (F : Nat → List Int × Int) : ∀ (n : Nat) (V : wSt) (x : Int), (7 - x).toNat = n → 0 ≤ x → AllR sh V → (∀ k, k < 7 → pv sh V t k = F k) → ∃ V', wev zP 24 2 [some (wR p), some (wR t), some (wI x)] [] (sh, V) = rN (sh, V') ∧ PwU sh V V' p (fun k => if (k : Int) < x then pv sh V p k else pcut sh p k (F k)) := by
  intro n
  induction n with
  | zero =>
    intro V x hn hx A hF
    refine ⟨V, ?_, (PwU.refl A).cg (fun k hk => ?_)⟩
    · rw [w24_2, if_pos (by omega)]
    · rw [if_pos (by omega)]
  | succ n ih =>
    intro V x hn hx A hF
    obtain ⟨V1, e1, w1⟩ := S64p (k := x.toNat) A Z P T d (by omega)
    obtain ⟨V2, e2, w2⟩ := ih V1 (x + 1) (by omega) (by omega) w1.2.1 (fun k hk => (w1.1.pv Z P T d hk).trans (hF k hk))
    refine ⟨V2, ?_, (w1.trans w2).cg (fun k hk => ?_)⟩
    · rw [w24_2, if_neg (by omega), S22 p x V (by omega)]
      simp only [wcx_v, wput_s, w24_13, S22 t x V (And.intro hx (by omega)), w24_18, e1, wput_n, w24_21]
      rw [wr_eq (by omega) (by omega), e2]
    · rw [w1.2.2 k hk]
      unfold pup
      by_cases c : k = x.toNat
      · rw [if_pos c, if_pos (by omega), if_neg (by omega), hF x.toNat (by omega), c]
      · rw [if_neg c]
        by_cases d : (k : Int) < x
        · rw [if_pos (by omega), if_pos d]
        · rw [if_neg (by omega), if_neg d]
theorem S24 {sh : zSh} {V : wSt} {p t : Nat} (A : AllR sh V) (Z : zInj sh) (P : wPt sh p) (T : wPt sh t) (d : pdj sh p t) : ∃ V', wcl zP 24 [wR p, wR t] (sh, V) = rN (sh, V') ∧ PwU sh V V' p (fun k => pcut sh p k (pv sh V t k)) := by
  rw [w24_0]
  obtain ⟨V', e, w⟩ := S24_2 Z P T d (pv sh V t) _ V 0 rfl (by decide) A (fun _ _ => rfl)
  exact ⟨V', e, w.cg (fun k hk => by rw [if_neg (by omega)])⟩
theorem S25 {sh : zSh} {V : wSt} {p t : Nat} (A : AllR sh V) (Z : zInj sh) (P : wPt sh p) (T : wPt sh t) (d : pdj sh p t) : ∃ V', wcl zP 25 [wR p, wR t] (sh, V) = rN (sh, V') ∧ PwU sh V V' p (fun k => if k = 1 ∨ k = 2 ∨ k = 3 then pcut sh p k (pv sh V t k) else pv sh V p k) := by
  obtain ⟨V1, e1, w1⟩ := S64p (k := 1) A Z P T d (by decide)
  obtain ⟨V2, e2, w2⟩ := S64p (k := 2) w1.2.1 Z P T d (by decide)
  obtain ⟨V3, e3, w3⟩ := S64p (k := 3) w2.2.1 Z P T d (by decide)
  have a2 := w1.1.pv (k := 2) Z P T d (by decide)
  have a3 := (w2.1.pv (k := 3) Z P T d (by decide)).trans (w1.1.pv Z P T d (by decide))
  rw [a2] at w2
  rw [a3] at w3
  refine ⟨V3, ?_, ((w1.trans w2).trans w3).cg (fun k hk => ?_)⟩
  · rw [w25_0, e1]
    simp only [wcx_v, wput_n, w25_11, e2, w25_22, e3, w25_33]
  · unfold pup
    rcases (by omega : k = 1 ∨ k = 2 ∨ k = 3 ∨ (k ≠ 1 ∧ k ≠ 2 ∧ k ≠ 3)) with c | c | c | c
    · subst c; rw [if_neg (by decide), if_pos (by decide), w2.2.2 1 (by decide)]; unfold pup; rw [if_neg (by decide), w1.2.2 1 (by decide)]; unfold pup; rw [if_pos rfl]
    · subst c; rw [if_neg (by decide), if_pos (by decide), w2.2.2 2 (by decide)]; unfold pup; rw [if_pos rfl]
    · subst c; rw [if_pos rfl, if_pos (by decide)]
    · rw [if_neg c.2.2, if_neg (by omega), w2.2.2 k hk]; unfold pup; rw [if_neg c.2.1, w1.2.2 k hk]; unfold pup; rw [if_neg c.1]
theorem S26_2 {sh : zSh} {V : wSt} {p t : Nat} (A : AllR sh V) (P : wPt sh p) (T : wPt sh t) : ∀ (n : Nat) (x : Int), (7 - x).toNat = n → 0 ≤ x → wev zP 26 2 [some (wR p), some (wR t), some (wI x)] [] (sh, V) = rI (bI (∀ k : Nat, k < 7 → x ≤ k → pv sh V p k = pv sh V t k)) (sh, V) := by
  intro n
  induction n with
  | zero =>
    intro x hn hx
    rw [w26_2, if_pos (by omega), bI_1 (fun k h1 h2 => by omega)]
  | succ n ih =>
    intro x hn hx
    rw [w26_2, if_neg (by omega), S22 p x V (by omega)]
    simp only [wcx_v, wput_s, w26_13, S22 t x V (And.intro hx (by omega)), w26_18, S66 (A _ (P.1 x.toNat (by omega))) (A _ (T.1 x.toNat (by omega))), w26_21]
    have same : (V (sr sh p x.toNat) 2 = V (sr sh t x.toNat) 2 ∧ tx sh V (sr sh p x.toNat) = tx sh V (sr sh t x.toNat)) ↔ pv sh V p x.toNat = pv sh V t x.toNat := by
      unfold pv; rw [Prod.mk.injEq]; exact And.comm
    by_cases c : pv sh V p x.toNat = pv sh V t x.toNat
    · rw [bI_1 (same.mpr c), if_neg (by decide), wr_eq (by omega) (by omega), ih _ (by omega) (by omega)]
      refine rI_cg ?_
      by_cases w : ∀ k : Nat, k < 7 → x ≤ k → pv sh V p k = pv sh V t k
      · rw [bI_1 w, bI_1 (fun k h1 h2 => w k h1 (by omega))]
      · rw [bI_0 w, bI_0 (fun z => w (fun k h1 h2 => by
          by_cases e : k = x.toNat
          · rw [e]; exact c
          · exact z k h1 (by omega)))]
    · rw [bI_0 (fun z => c (same.mp z)), if_pos rfl, bI_0 (fun z => c (z x.toNat (by omega) (by omega)))]
theorem S26 {sh : zSh} {V : wSt} {p t : Nat} (A : AllR sh V) (P : wPt sh p) (T : wPt sh t) : wcl zP 26 [wR p, wR t] (sh, V) = rI (bI (∀ k : Nat, k < 7 → pv sh V p k = pv sh V t k)) (sh, V) := by
  rw [w26_0, S26_2 A P T _ 0 rfl (by decide)]
  refine rI_cg ?_
  by_cases w : ∀ k : Nat, k < 7 → pv sh V p k = pv sh V t k
  · rw [bI_1 w, bI_1 (fun k h1 _ => w k h1)]
  · rw [bI_0 w, bI_0 (fun z => w (fun k h1 => z k h1 (by omega)))]
/-- a part as it is written, with its marks -/
def wm (x : List Int × Int) (b c : Int) : List Int := if x.2 = 0 then [] else (if b = -1 then [] else [b]) ++ (x.1 ++ (if c = -1 then [] else [c]))
theorem S29 {sh : zSh} {V : wSt} {r s : Nat} (q : wRo sh V r) (p : wRo sh V s) (n1 : s ≠ r) (n2 : sr sh s 0 ≠ sr sh r 0) (b c : Int) (hb : -1 ≤ b ∧ b ≤ 255) (hc : -1 ≤ c ∧ c ≤ 255) : ∃ V', wcl zP 29 [wR r, wR s, wI b, wI c] (sh, V) = rN (sh, V') ∧ RwU sh V V' r ((tx sh V r ++ wm (tx sh V s, V s 2) b c).take (cap sh r)) (V r 2) := by
  have z := p.sz
  have tl := tx_sz p
  rw [w29_0]
  unfold wm
  by_cases t0 : V s 2 = 0
  · rw [if_pos t0, if_pos t0]; exact ⟨V, rfl, RwU.nil q⟩
  rw [if_neg t0, if_neg t0]
  obtain ⟨V1, e1, u1, p1⟩ : ∃ V1, (if b = -1 then wev zP 29 18 [some (wR r), some (wR s), some (wI b), some (wI c)] [] (sh, V) else wcx (wcl zP 59 [wR r, wI b] (sh, V)) (fun v h' => wev zP 29 18 [some (wR r), some (wR s), some (wI b), some (wI c)] (wput v []) h') wth) = wev zP 29 18 [some (wR r), some (wR s), some (wI b), some (wI c)] [] (sh, V1) ∧ RwU sh V V1 r ((tx sh V r ++ (if b = -1 then [] else [b])).take (cap sh r)) (V r 2) ∧ wRo sh V1 s ∧ tx sh V1 s = tx sh V s ∧ V1 s = V s := by
    by_cases d : b = -1
    · rw [if_pos d, if_pos d]; exact ⟨V, rfl, RwU.nil q, p, rfl, rfl⟩
    · rw [if_neg d, if_neg d]
      obtain ⟨V1, e1, u1⟩ := S59g q b
      rw [wand_id (by omega)] at u1
      refine ⟨V1, ?_, u1, u1.fr q.1 p n1 n2⟩
      rw [e1]; simp only [wcx_v, wput_n]
  rw [e1, w29_18]
  have v1 : V1 s 1 = V s 1 := by rw [p1.2.2]
  obtain ⟨V2, e2, u2⟩ := S61g u1.2.1 p1.1 0 (V1 s 1) (by decide) (by omega)
  rw [v1, p1.2.1, ← tl, sub_all] at u2
  have p2 := u2.fr q.1 p1.1 n1 n2
  rw [e2]
  simp only [wcx_v, wput_n, w29_28]
  have u12 := u1.ad u2
  by_cases d : c = -1
  · rw [if_pos d, if_pos d, w29_38, List.append_nil]
    exact ⟨V2, rfl, u12⟩
  · rw [if_neg d, if_neg d]
    obtain ⟨V3, e3, u3⟩ := S59g u2.2.1 c
    rw [wand_id (by omega)] at u3
    refine ⟨V3, ?_, ?_⟩
    · rw [e3]; simp only [wcx_v, wput_n, w29_38]
    · have k := u12.ad u3
      rw [List.append_assoc] at k; exact k
