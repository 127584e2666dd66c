set_option maxRecDepth 16384
/-! parts, the tape, reading -/
def AllR (sh : zSh) (V : wSt) : Prop := ∀ r, zRow sh r → wRo sh V r
def zInj (sh : zSh) : Prop := ∀ r s, zRow sh r → zRow sh s → r ≠ s → sr sh r 0 ≠ sr sh s 0
theorem RwU.all {sh : zSh} {V V' : wSt} {r : Nat} {L : List Int} {th : Int} (h : RwU sh V V' r L th) (A : AllR sh V) : AllR sh V' := fun s hs => by
  by_cases e : s = r
  · rw [e]; exact h.2.1
  · have m : V' s = V s := h.1 s (fun w => (List.mem_cons.mp w).elim e (fun z => row_ne hs h.2.1.1 (List.mem_singleton.mp z)))
    exact wRo_cg m (A s hs)
theorem RwU.oth {sh : zSh} {V V' : wSt} {r : Nat} {L : List Int} {th : Int} (h : RwU sh V V' r L th) (Z : zInj sh) {s : Nat} (hs : zRow sh s) (n : s ≠ r) : tx sh V' s = tx sh V s ∧ V' s = V s := by
  have m : ∀ x, x ≠ r → x ≠ sr sh r 0 → V' x = V x := fun x h1 h2 => h.1 x (fun w => (List.mem_cons.mp w).elim h1 (fun z => h2 (List.mem_singleton.mp z)))
  have e := m s n (row_ne hs h.2.1.1)
  exact ⟨tx_cg e (m _ (fun w => row_ne h.2.1.1 hs w.symm) (Z s r hs h.2.1.1 n)), e⟩
theorem RwU.no {sh : zSh} {V V' : wSt} {r : Nat} {L : List Int} {th : Int} (h : RwU sh V V' r L th) {b : Nat} (hb : (sk sh b).1 ≠ 13 ∧ (sk sh b).1 ≠ 1) : V' b = V b :=
  h.1 b (fun w => (List.mem_cons.mp w).elim (fun e => hb.1 (by rw [e, h.2.1.1.1])) (fun e => hb.2 (by rw [List.mem_singleton.mp e]; exact h.2.1.1.2.1)))
theorem FrO.all {sh : zSh} {os : List Nat} {V V' : wSt} (h : FrO os V V') (g : nRw sh os) (A : AllR sh V) : AllR sh V' := fun s hs => (h.row g (A s hs)).1
theorem S22 {sh : zSh} (p : Nat) (k : Int) (V : wSt) (hk : 0 ≤ k ∧ k ≤ 6) : wcl zP 22 [wR p, wI k] (sh, V) = some (.inl (some (wR (sr sh p k.toNat))), (sh, V)) := by
  rw [w22_0, w22_1]
  rcases (by omega : k = 0 ∨ k = 1 ∨ k = 2 ∨ k = 3 ∨ k = 4 ∨ k = 5 ∨ k = 6) with e | e | e | e | e | e | e <;> subst e <;> rfl
/-- the length of parts, by their sizes and by whether they are there -/
def plA (sz th : Nat → Int) : Nat → Int
  | 0 => 0
  | k + 1 => plA sz th k + (sz k + (if k = 2 ∨ k = 4 then 0 else if th k = 0 then 0 else 1))
def plen (sz th : Nat → Int) : Int := (if th 2 = 0 then 0 else 2) + plA sz th 7
theorem S27_18 {sh : zSh} {V : wSt} {p : Nat} (A : AllR sh V) (hp : ∀ k, k < 7 → zRow sh (sr sh p k)) : ∀ (m : Nat) (x acc : Int) (o3 o4 : Option wV), (7 - x).toNat = m → 0 ≤ x → x ≤ 7 → 0 ≤ acc ∧ acc ≤ 2 + 100001 * x → wev zP 27 18 [some (wR p), some (wI acc), some (wI x), o3, o4] [] (sh, V) = rI (acc + (plA (fun k => V (sr sh p k) 1) (fun k => V (sr sh p k) 2) 7 - plA (fun k => V (sr sh p k) 1) (fun k => V (sr sh p k) 2) x.toNat)) (sh, V) := by
  intro m
  induction m with
  | zero =>
    intro x acc o3 o4 hm h0 h7 ha
    rw [w27_18, if_pos (by omega), show x.toNat = 7 by omega, Int.sub_self, Int.add_zero]
  | succ m ih =>
    intro x acc o3 o4 hm h0 h7 ha
    have q := A _ (hp x.toNat (by omega))
    have z := q.sz
    have z2 := q.2.2.2
    have pl : plA (fun k => V (sr sh p k) 1) (fun k => V (sr sh p k) 2) (x + 1).toNat = plA (fun k => V (sr sh p k) 1) (fun k => V (sr sh p k) 2) x.toNat + (V (sr sh p x.toNat) 1 + (if x.toNat = 2 ∨ x.toNat = 4 then 0 else if V (sr sh p x.toNat) 2 = 0 then 0 else 1)) := by
      rw [show (x + 1).toNat = x.toNat + 1 by omega]; rfl
    rw [w27_18, if_neg (by omega), S22 p x V (by omega)]
    simp only [wcx_v, wput_s, w27_29, w27_51, w27_52, w27_69]
    have fin : ∀ d : Int, (d = 0 ∨ d = 1) → (if x.toNat = 2 ∨ x.toNat = 4 then (0 : Int) else if V (sr sh p x.toNat) 2 = 0 then 0 else 1) = d → ∀ o4, wev zP 27 18 [some (wR p), some (wI (wr (acc + wr (V (sr sh p x.toNat) 1 + d)))), some (wI (wr (x + 1))), some (wR (sr sh p x.toNat)), o4] [] (sh, V) = rI (acc + (plA (fun k => V (sr sh p k) 1) (fun k => V (sr sh p k) 2) 7 - plA (fun k => V (sr sh p k) 1) (fun k => V (sr sh p k) 2) x.toNat)) (sh, V) := by
      intro d hd he o4
      rw [he] at pl
      rw [wr_eq (x := V _ 1 + d) (by omega) (by omega), wr_eq (by omega) (by omega), wr_eq (by omega) (by omega), ih (x + 1) _ _ _ (by omega) (by omega) (by omega) (by omega)]
      exact rI_cg (by omega)
    clear ih pl
    by_cases c2 : x = 2
    · rw [if_pos c2, if_pos trivial]; exact fin 0 (Or.inl rfl) (if_pos (Or.inl (by omega))) _
    · rw [if_neg c2]
      by_cases c4 : x = 4
      · rw [if_pos c4, if_pos trivial]; exact fin 0 (Or.inl rfl) (if_pos (Or.inr (by omega))) _
      · rw [if_neg c4]
        by_cases ct : V (sr sh p x.toNat) 2 = 0
        · rw [if_pos ct, if_pos trivial]; exact fin 0 (Or.inl rfl) (by rw [if_neg (by omega), if_pos ct]) _
        · rw [if_neg ct, if_neg (by decide)]; exact fin 1 (Or.inr rfl) (by rw [if_neg (by omega), if_neg ct]) _
theorem S27 {sh : zSh} {V : wSt} {p : Nat} (A : AllR sh V) (hp : ∀ k, k < 7 → zRow sh (sr sh p k)) : wcl zP 27 [wR p] (sh, V) = rI (plen (fun k => V (sr sh p k) 1) (fun k => V (sr sh p k) 2)) (sh, V) := by
  have z0 : plA (fun k => V (sr sh p k) 1) (fun k => V (sr sh p k) 2) (0 : Int).toNat = 0 := rfl
  rw [w27_0]
  unfold plen
  by_cases c : V (sr sh p 2) 2 = 0
  · rw [if_pos c, if_pos c, w27_15, S27_18 A hp _ 0 0 none none rfl (by decide) (by decide) (by decide), z0]
    exact rI_cg (by omega)
  · rw [if_neg c, if_neg c, w27_15, S27_18 A hp _ 0 2 none none rfl (by decide) (by decide) (by decide), z0]
    exact rI_cg (by omega)
/-- nothing changes but rows of a reference -/
def FrP (sh : zSh) (p : Nat) (V V' : wSt) : Prop := ∀ b, (∀ k, k < 7 → b ≠ sr sh p k ∧ b ≠ sr sh (sr sh p k) 0) → V' b = V b
theorem FrP.refl {sh : zSh} {p : Nat} {V : wSt} : FrP sh p V V := fun _ _ => rfl
theorem FrP.trans {sh : zSh} {p : Nat} {V V' W : wSt} (h : FrP sh p V V') (g : FrP sh p V' W) : FrP sh p V W := fun b n => (g b n).trans (h b n)
theorem RwU.toP {sh : zSh} {V V' : wSt} {p k : Nat} {L : List Int} {th : Int} (h : RwU sh V V' (sr sh p k) L th) (hk : k < 7) : FrP sh p V V' := fun b n => h.1 b (fun w => (List.mem_cons.mp w).elim (n k hk).1 (fun z => (n k hk).2 (List.mem_singleton.mp z)))
def wPt (sh : zSh) (p : Nat) : Prop := (∀ k, k < 7 → zRow sh (sr sh p k)) ∧ ∀ j k, j < 7 → k < 7 → sr sh p j = sr sh p k → j = k
theorem FrP.oth {sh : zSh} {p : Nat} {V V' : wSt} (h : FrP sh p V V') (Z : zInj sh) (P : wPt sh p) {s : Nat} (hs : zRow sh s) (n : ∀ k, k < 7 → s ≠ sr sh p k) : tx sh V' s = tx sh V s ∧ V' s = V s := by
  have e := h s (fun k hk => ⟨n k hk, row_ne hs (P.1 k hk)⟩)
  exact ⟨tx_cg e (h _ (fun k hk => ⟨fun w => row_ne (P.1 k hk) hs w.symm, Z s _ hs (P.1 k hk) (n k hk)⟩)), e⟩
theorem FrP.no {sh : zSh} {p : Nat} {V V' : wSt} (h : FrP sh p V V') (P : wPt sh p) {b : Nat} (hb : (sk sh b).1 ≠ 13 ∧ (sk sh b).1 ≠ 1) : V' b = V b :=
  h b (fun k hk => ⟨fun e => hb.1 (by rw [e, (P.1 k hk).1]), fun e => hb.2 (by rw [e]; exact (P.1 k hk).2.1)⟩)
theorem sub_le (L : List Int) (s e : Int) : (sub L s e).length ≤ L.length := by unfold sub; rw [List.length_take, List.length_drop]; omega
theorem S41_2 {sh : zSh} {p r t : Nat} (Z : zInj sh) (P : wPt sh p) (h : wRd sh r) (ht : zRow sh t) (nt : ∀ k, k < 7 → t ≠ sr sh p k) (S E : Nat → Int) (L : List Int) (hL : ∀ k, k < 7 → L.length ≤ cap sh (sr sh p k)) (hr : ∀ k : Nat, k < 7 → -1 ≤ S k ∧ S k ≤ 200000 ∧ -1 ≤ E k ∧ E k ≤ 200000) : ∀ (m : Nat) (V : wSt) (x : Int) (o4 o5 : Option wV), (7 - x).toNat = m → 0 ≤ x → AllR sh V → tx sh V t = L → V (sr sh r 0) = S → V (sr sh r 1) = E →
    ∃ V', wev zP 41 2 [some (wR r), some (wR p), some (wR t), some (wI x), o4, o5] [] (sh, V) = rN (sh, V') ∧ FrP sh p V V' ∧ AllR sh V' ∧ ∀ k : Nat, k < 7 → (x ≤ k → tx sh V' (sr sh p k) = (if S k = -1 then [] else sub L (S k) (E k)) ∧ V' (sr sh p k) 2 = (if S k = -1 then 0 else 1)) ∧ ((k : Int) < x → tx sh V' (sr sh p k) = tx sh V (sr sh p k) ∧ V' (sr sh p k) 2 = V (sr sh p k) 2) := by
  have n0 : ∀ b, b = sr sh r 0 ∨ b = sr sh r 1 → (sk sh b).1 ≠ 13 ∧ (sk sh b).1 ≠ 1 := fun b hb => by
    rcases hb with e | e
    · rw [e, h.2.1]; decide
    · rw [e, h.2.2.1]; decide
  intro m
  induction m with
  | zero =>
    intro V x o4 o5 hm hx A tL tS tE
    refine ⟨V, ?_, FrP.refl, A, fun k hk => ⟨fun w => by omega, fun _ => ⟨rfl, rfl⟩⟩⟩
    rw [w41_2, if_pos (by omega)]
  | succ m ih =>
    intro V x o4 o5 hm hx A tL tS tE
    have hk : x.toNat < 7 := by omega
    have rr := hr x.toNat hk
    have zr := P.1 x.toNat hk
    rw [w41_2, if_neg (by omega), S22 p x V (by omega)]
    simp only [wcx_v, wput_s, w41_13]
    rw [S39 h x V (by omega), tS]
    simp only [wcx_v, wput_s, w41_20]
    obtain ⟨V1, e1, u1, -⟩ := S62 (V := V) zr
    rw [e1]
    simp only [wcx_v, wput_n, w41_27]
    -- it is there, or not
    have there : ∀ y : Int, (y = 0 ∨ y = 1) → RwU sh V (uI V1 (sr sh p x.toNat) 2 y) (sr sh p x.toNat) [] y := by
      intro y hy
      have hn := row_ne zr zr
      have w1 : uI V1 (sr sh p x.toNat) 2 y (sr sh p x.toNat) 1 = V1 (sr sh p x.toNat) 1 := by unfold uI; rw [if_neg (fun c => by cases c.2)]
      have w2 : uI V1 (sr sh p x.toNat) 2 y (sr sh p x.toNat) 2 = y := by unfold uI; rw [if_pos ⟨rfl, rfl⟩]
      have w3 : uI V1 (sr sh p x.toNat) 2 y (sr sh (sr sh p x.toNat) 0) = V1 (sr sh (sr sh p x.toNat) 0) := by funext j; unfold uI; rw [if_neg (fun c => hn c.1.symm)]
      refine ⟨u1.1.trans (uI_fr (List.mem_cons_self)), ⟨zr, by rw [w1]; exact u1.2.1.2.1, by rw [w1]; exact u1.2.1.2.2.1, by rw [w2]; exact hy⟩, ?_, w2⟩
      rw [← u1.2.2.1]; unfold tx; rw [w1, w3]
    have go : ∀ (V2 : wSt) (L2 : List Int) (th : Int), RwU sh V V2 (sr sh p x.toNat) L2 th → L2 = (if S x.toNat = -1 then [] else sub L (S x.toNat) (E x.toNat)) → th = (if S x.toNat = -1 then 0 else 1) → ∃ V', wev zP 41 56 [some (wR r), some (wR p), some (wR t), some (wI x), some (wR (sr sh p x.toNat)), some (wI (S x.toNat))] [] (sh, V2) = rN (sh, V') ∧ FrP sh p V V' ∧ AllR sh V' ∧ ∀ k : Nat, k < 7 → (x ≤ k → tx sh V' (sr sh p k) = (if S k = -1 then [] else sub L (S k) (E k)) ∧ V' (sr sh p k) 2 = (if S k = -1 then 0 else 1)) ∧ ((k : Int) < x → tx sh V' (sr sh p k) = tx sh V (sr sh p k) ∧ V' (sr sh p k) 2 = V (sr sh p k) 2) := by
      intro V2 L2 th u hL2 hth
      have ot := u.oth Z ht (nt _ hk)
      obtain ⟨V', e3, f3, A3, k3⟩ := ih V2 (x + 1) (some (wR (sr sh p x.toNat))) (some (wI (S x.toNat))) (by omega) (by omega) (u.all A) (ot.1.trans tL) ((u.no (n0 _ (Or.inl rfl))).trans tS) ((u.no (n0 _ (Or.inr rfl))).trans tE)
      refine ⟨V', ?_, (u.toP hk).trans f3, A3, fun k hk2 => ⟨fun w => ?_, fun w => ?_⟩⟩
      · rw [w41_56, wr_eq (by omega) (by omega), e3]
      · by_cases e : k = x.toNat
        · have := (k3 k hk2).2 (by omega)
          rw [this.1, this.2, e, u.2.2.1, u.2.2.2]; exact ⟨hL2, hth⟩
        · exact (k3 k hk2).1 (by omega)
      · have := (k3 k hk2).2 (by omega)
        have ok := u.oth Z (P.1 k hk2) (fun w2 => by have := P.2 _ _ hk2 hk w2; omega)
        rw [this.1, this.2, ok.1, ok.2]; exact ⟨rfl, rfl⟩
    by_cases c : S x.toNat = -1
    · have u := there 0 (Or.inl rfl)
      rw [if_pos c, S40 h x _ (by omega), u.no (n0 _ (Or.inr rfl)), tE]
      simp only [wcx_v, wput_s, w41_53]
      have g := go _ _ _ u (by rw [if_pos c]) (by rw [if_pos c])
      rw [show wcl zP 61 [wR (sr sh p x.toNat), wR t, wI (S x.toNat), wI (E x.toNat)] (sh, uI V1 (sr sh p x.toNat) 2 0) = rN (sh, uI V1 (sr sh p x.toNat) 2 0) by rw [c]; exact S61_no u.2.1 (u.all A t ht) _ (by omega)]
      simp only [wcx_v, wput_n]
      exact g
    · have u := there 1 (Or.inr rfl)
      rw [if_neg c, S40 h x _ (by omega), u.no (n0 _ (Or.inr rfl)), tE]
      simp only [wcx_v, wput_s, w41_53]
      obtain ⟨V3, e3, u3⟩ := S61 u.2.1 (u.all A t ht) (S x.toNat) (E x.toNat) (by omega) (by omega)
      rw [e3]
      simp only [wcx_v, wput_n]
      have u4 := u.trans u3
      rw [u.2.2.2] at u4
      refine go V3 _ 1 u4 ?_ (by rw [if_neg c])
      · rw [if_neg c, u.2.2.1, List.nil_append, (u.oth Z ht (nt _ hk)).1, tL, List.take_of_length_le]
        have := sub_le L (S x.toNat) (E x.toNat); have := hL _ hk
        simp only [List.length_nil]; omega
theorem S41 {sh : zSh} {V : wSt} {p r t : Nat} (Z : zInj sh) (P : wPt sh p) (h : wRd sh r) (ht : zRow sh t) (nt : ∀ k, k < 7 → t ≠ sr sh p k) (A : AllR sh V) (hL : ∀ k, k < 7 → (tx sh V t).length ≤ cap sh (sr sh p k)) (hr : ∀ k : Nat, k < 7 → -1 ≤ V (sr sh r 0) k ∧ V (sr sh r 0) k ≤ 200000 ∧ -1 ≤ V (sr sh r 1) k ∧ V (sr sh r 1) k ≤ 200000) :
    ∃ V', wcl zP 41 [wR r, wR p, wR t] (sh, V) = rN (sh, V') ∧ FrP sh p V V' ∧ AllR sh V' ∧ ∀ k : Nat, k < 7 → tx sh V' (sr sh p k) = (if V (sr sh r 0) k = -1 then [] else sub (tx sh V t) (V (sr sh r 0) k) (V (sr sh r 1) k)) ∧ V' (sr sh p k) 2 = (if V (sr sh r 0) k = -1 then 0 else 1) := by
  obtain ⟨V', e1, f1, A1, k1⟩ := S41_2 Z P h ht nt (V (sr sh r 0)) (V (sr sh r 1)) (tx sh V t) hL hr _ V 0 none none rfl (by omega) A rfl rfl rfl
  exact ⟨V', by rw [w41_0, e1], f1, A1, fun k hk => (k1 k hk).1 (by omega)⟩
/-! the whole object -/
def wP (sh : zSh) (x p : Nat) : Nat := if p < 8 then sr sh (sr sh x 3) p else sr sh x (p - 1)
def wLL (sh : zSh) (x : Nat) : Prop := zInj sh ∧ sk sh x = (14, 12) ∧ (zRow sh (sr sh x 0) ∧ zRow sh (sr sh x 1) ∧ zRow sh (sr sh x 2) ∧ zRow sh (sr sh x 5)) ∧ (sr sh x 0 ≠ sr sh x 1 ∧ sr sh x 0 ≠ sr sh x 2 ∧ sr sh x 0 ≠ sr sh x 5 ∧ sr sh x 1 ≠ sr sh x 2 ∧ sr sh x 1 ≠ sr sh x 5 ∧ sr sh x 2 ≠ sr sh x 5) ∧
  (∀ p, p < 11 → wPt sh (wP sh x p)) ∧ (∀ p q j k, p < 11 → q < 11 → j < 7 → k < 7 → p ≠ q → sr sh (wP sh x p) j ≠ sr sh (wP sh x q) k) ∧ (∀ p k, p < 11 → k < 7 → sr sh (wP sh x p) k ≠ sr sh x 0 ∧ sr sh (wP sh x p) k ≠ sr sh x 1 ∧ sr sh (wP sh x p) k ≠ sr sh x 2 ∧ sr sh (wP sh x p) k ≠ sr sh x 5) ∧
  wRd sh (sr sh x 4) ∧ wAd sh (sr sh x 6) ∧ (sr sh (sr sh x 4) 0 ≠ sr sh (sr sh x 6) 0 ∧ sr sh (sr sh x 4) 1 ≠ sr sh (sr sh x 6) 0) ∧ (sk sh (sr sh x 3) = (5, 8) ∧ ∀ p, p < 8 → sr sh (sr sh x 3) p ≠ 0) ∧
  (cap sh (sr sh x 0) = 400 ∧ cap sh (sr sh x 1) = 400 ∧ cap sh (sr sh x 2) = 400 ∧ cap sh (sr sh x 5) = 400) ∧ (∀ p k, p < 11 → k < 7 → cap sh (sr sh (wP sh x p) k) = if 8 ≤ p ∧ k = 4 then 808 else 400)
theorem S113 {sh : zSh} {x : Nat} (h : wLL sh x) (i : Int) (V : wSt) : wcl zP 113 [wR x, wI i] (sh, V) = if 0 ≤ i ∧ i < 8 then some (.inl (some (wR (wP sh x i.toNat))), (sh, V)) else some (.inr 2, (sh, V)) := by
  obtain ⟨-, -, -, -, -, -, -, -, -, -, ⟨k3, k4⟩, -⟩ := h
  rw [w113_0, k3, show wr (((8 : Nat) : Int)) = 8 from rfl]
  by_cases c : i < 0
  · rw [if_pos c, if_neg (by omega)]
  · rw [if_neg c]
    by_cases d : i < 8
    · have e : 0 ≤ i ∧ i < 8 := by omega
      rw [if_pos d, if_pos e, if_neg (k4 i.toNat (by omega))]
      unfold wP; rw [if_pos (by omega)]
    · rw [if_neg d, if_neg (by omega)]
theorem S115 {sh : zSh} {V : wSt} {x : Nat} (h : wLL sh x) (A : AllR sh V) : ∃ V', wcl zP 115 [wR x] (sh, V) = some (.inl (some (wR (sr sh x 1))), (sh, V')) ∧ FrO [sr sh x 0, sr sh (sr sh x 0) 0, sr sh x 1, sr sh (sr sh x 1) 0] V V' ∧ AllR sh V' ∧ tx sh V' (sr sh x 1) = tx sh V (sr sh x 0) ∧ tx sh V' (sr sh x 0) = [] ∧ V' (sr sh x 1) 1 = V (sr sh x 0) 1 := by
  obtain ⟨Z, -, ⟨r0, r1, -, -⟩, ⟨n01, -⟩, -, -, -, -, -, -, -, ⟨c0, c1, -⟩, -⟩ := h
  rw [w115_0]
  obtain ⟨V1, e1, u1⟩ := S64 (A _ r1) (A _ r0) n01 (Z _ _ r0 r1 n01)
  rw [e1]
  simp only [wcx_v, wput_n, w115_11]
  obtain ⟨V2, e2, u2, -⟩ := S62 (V := V1) r0
  rw [e2]
  simp only [wcx_v, wput_n, w115_18]
  have o1 := u2.oth Z r1 (fun e => n01 e.symm)
  have t1 : tx sh V2 (sr sh x 1) = tx sh V (sr sh x 0) := by
    rw [o1.1, u1.2.2.1, List.take_of_length_le]
    have := (tx_cap (A _ r0)).1; rw [c0] at this; rw [c1]; exact this
  refine ⟨V2, rfl, (u1.1.mono (fun b hb => ?_)).trans (u2.1.mono (fun b hb => ?_)), u2.all (u1.all A), t1, u2.2.2.1, ?_⟩
  · rcases List.mem_cons.mp hb with e | e
    · rw [e]; simp
    · rw [List.mem_singleton.mp e]; simp
  · rcases List.mem_cons.mp hb with e | e
    · rw [e]; simp
    · rw [List.mem_singleton.mp e]; simp
  · rw [← tx_sz (A _ r0), ← t1, tx_sz (u2.all (u1.all A) _ r1)]
