set_option maxRecDepth 16384
/-! the state that can be seen -/
theorem wLL.Z {sh : zSh} {x : Nat} (h : wLL sh x) : zInj sh := h.1
theorem wLL.r0 {sh : zSh} {x : Nat} (h : wLL sh x) : zRow sh (sr sh x 0) := h.2.2.1.1
theorem wLL.r1 {sh : zSh} {x : Nat} (h : wLL sh x) : zRow sh (sr sh x 1) := h.2.2.1.2.1
theorem wLL.r2 {sh : zSh} {x : Nat} (h : wLL sh x) : zRow sh (sr sh x 2) := h.2.2.1.2.2.1
theorem wLL.r5 {sh : zSh} {x : Nat} (h : wLL sh x) : zRow sh (sr sh x 5) := h.2.2.1.2.2.2
theorem wLL.ne {sh : zSh} {x : Nat} (h : wLL sh x) : sr sh x 0 ≠ sr sh x 1 ∧ sr sh x 0 ≠ sr sh x 2 ∧ sr sh x 0 ≠ sr sh x 5 ∧ sr sh x 1 ≠ sr sh x 2 ∧ sr sh x 1 ≠ sr sh x 5 ∧ sr sh x 2 ≠ sr sh x 5 := h.2.2.2.1
theorem wLL.P {sh : zSh} {x : Nat} (h : wLL sh x) {p : Nat} (hp : p < 11) : wPt sh (wP sh x p) := h.2.2.2.2.1 p hp
theorem wLL.dj {sh : zSh} {x : Nat} (h : wLL sh x) {p q : Nat} (hp : p < 11) (hq : q < 11) (n : p ≠ q) : pdj sh (wP sh x p) (wP sh x q) := fun j k hj hk => h.2.2.2.2.2.1 q p j k hq hp hj hk (fun e => n e.symm)
theorem wLL.pr {sh : zSh} {x : Nat} (h : wLL sh x) {p k : Nat} (hp : p < 11) (hk : k < 7) : sr sh (wP sh x p) k ≠ sr sh x 0 ∧ sr sh (wP sh x p) k ≠ sr sh x 1 ∧ sr sh (wP sh x p) k ≠ sr sh x 2 ∧ sr sh (wP sh x p) k ≠ sr sh x 5 := h.2.2.2.2.2.2.1 p k hp hk
theorem wLL.rd {sh : zSh} {x : Nat} (h : wLL sh x) : wRd sh (sr sh x 4) := h.2.2.2.2.2.2.2.1
theorem wLL.ad {sh : zSh} {x : Nat} (h : wLL sh x) : wAd sh (sr sh x 6) := h.2.2.2.2.2.2.2.2.1
theorem wLL.cp {sh : zSh} {x : Nat} (h : wLL sh x) : cap sh (sr sh x 0) = 400 ∧ cap sh (sr sh x 1) = 400 ∧ cap sh (sr sh x 2) = 400 ∧ cap sh (sr sh x 5) = 400 := h.2.2.2.2.2.2.2.2.2.2.2.1
theorem wLL.cl {sh : zSh} {x : Nat} (h : wLL sh x) {p : Nat} (hp : p < 8) : wCp sh (wP sh x p) 400 := fun k hk => by
  rw [h.2.2.2.2.2.2.2.2.2.2.2.2 p k (by omega) hk, if_neg (by omega)]; split <;> rfl
theorem wLL.cd {sh : zSh} {x : Nat} (h : wLL sh x) {p : Nat} (hp : 8 ≤ p) (hq : p < 11) : wCp sh (wP sh x p) 808 := fun k hk => by
  rw [h.2.2.2.2.2.2.2.2.2.2.2.2 p k hq hk]
  by_cases c : k = 4
  · rw [if_pos ⟨hp, c⟩, if_pos c]
  · rw [if_neg (fun w => c w.2), if_neg c]
theorem wLL.k14 {sh : zSh} {x : Nat} (h : wLL sh x) : (sk sh x).1 ≠ 13 ∧ (sk sh x).1 ≠ 1 := by rw [h.2.1]; decide
theorem wLL.a2 {sh : zSh} {x : Nat} (h : wLL sh x) : (sk sh (sr sh (sr sh x 6) 0)).1 ≠ 13 ∧ (sk sh (sr sh (sr sh x 6) 0)).1 ≠ 1 := by rw [h.ad]; decide
theorem wLL.xa {sh : zSh} {x : Nat} (h : wLL sh x) : x ≠ sr sh (sr sh x 6) 0 := fun e => by
  have k := h.2.1
  rw [e, h.ad] at k; cases k
/-- rows that nobody sees -/
def hid (sh : zSh) (x s : Nat) : Prop := s = sr sh x 1 ∨ s = sr sh x 5 ∨ ∃ p k, 8 ≤ p ∧ p < 11 ∧ k < 7 ∧ s = sr sh (wP sh x p) k
/-- all rows stay but those -/
def Kp (sh : zSh) (x : Nat) (E : Nat → Prop) (V V' : wSt) : Prop := AllR sh V' ∧ V' x = V x ∧ ∀ s, zRow sh s → ¬ E s → tx sh V' s = tx sh V s ∧ V' s = V s
theorem Kp.refl {sh : zSh} {x : Nat} {E : Nat → Prop} {V : wSt} (A : AllR sh V) : Kp sh x E V V := ⟨A, rfl, fun _ _ _ => ⟨rfl, rfl⟩⟩
theorem Kp.trans {sh : zSh} {x : Nat} {E : Nat → Prop} {V V' W : wSt} (h : Kp sh x E V V') (g : Kp sh x E V' W) : Kp sh x E V W := ⟨g.1, g.2.1.trans h.2.1, fun s hs n => ⟨(g.2.2 s hs n).1.trans (h.2.2 s hs n).1, (g.2.2 s hs n).2.trans (h.2.2 s hs n).2⟩⟩
theorem Kp.mono {sh : zSh} {x : Nat} {E F : Nat → Prop} {V V' : wSt} (h : Kp sh x E V V') (g : ∀ s, E s → F s) : Kp sh x F V V' := ⟨h.1, h.2.1, fun s hs n => h.2.2 s hs (fun w => n (g s w))⟩
theorem RwU.kp {sh : zSh} {x : Nat} (h : wLL sh x) {V V' : wSt} {r : Nat} {L : List Int} {th : Int} (u : RwU sh V V' r L th) (A : AllR sh V) : Kp sh x (fun s => s = r) V V' := ⟨u.all A, u.no h.k14, fun s hs n => u.oth h.Z hs n⟩
theorem PwU.kp {sh : zSh} {x : Nat} (h : wLL sh x) {V V' : wSt} {p : Nat} {Q : Nat → List Int × Int} (P : wPt sh p) (u : PwU sh V V' p Q) : Kp sh x (fun s => ∃ k, k < 7 ∧ s = sr sh p k) V V' := ⟨u.2.1, u.1.no P h.k14, fun s hs n => u.1.oth h.Z P hs (fun k hk e => n ⟨k, hk, e⟩)⟩
theorem FrA.kp {sh : zSh} {x : Nat} (h : wLL sh x) {V V' : wSt} (f : FrO [sr sh (sr sh x 6) 0] V V') (A : AllR sh V) (E : Nat → Prop) : Kp sh x E V V' := by
  refine ⟨f.all h.ad.nr A, f x (fun w => h.xa (List.mem_singleton.mp w)), fun s hs _ => ?_⟩
  have g := f.row h.ad.nr (A s hs)
  exact ⟨g.2.1, g.2.2⟩
theorem PwA.kp {sh : zSh} {x : Nat} (h : wLL sh x) {V V' : wSt} {p : Nat} {Q : Nat → List Int × Int} (P : wPt sh p) (u : PwA sh V V' p (sr sh x 6) Q) : Kp sh x (fun s => ∃ k, k < 7 ∧ s = sr sh p k) V V' := by
  refine ⟨u.2.1, u.1 x (fun k hk => ⟨fun e => h.k14.1 (by rw [e, (P.1 k hk).1]), fun e => h.k14.2 (by rw [e]; exact (P.1 k hk).2.1)⟩) h.xa, fun s hs n => ?_⟩
  have n1 : ∀ k, k < 7 → s ≠ sr sh p k := fun k hk e => n ⟨k, hk, e⟩
  have e1 := u.1 s (fun k hk => ⟨n1 k hk, row_ne hs (P.1 k hk)⟩) (fun e => h.a2.1 (by rw [← e, hs.1]))
  have e2 := u.1 (sr sh s 0) (fun k hk => ⟨fun w => row_ne (P.1 k hk) hs w.symm, h.Z s _ hs (P.1 k hk) (n1 k hk)⟩) (fun e => h.a2.2 (by rw [← e]; exact hs.2.1))
  exact ⟨tx_cg e1 e2, e1⟩
theorem Kp.pv {sh : zSh} {x : Nat} {E : Nat → Prop} {V V' : wSt} (h : Kp sh x E V V') {t : Nat} (T : wPt sh t) (n : ∀ k, k < 7 → ¬ E (sr sh t k)) {k : Nat} (hk : k < 7) : Jvm.Pilot.CLinkLibraryLaw_law_r7063_89e837.pv sh V' t k = Jvm.Pilot.CLinkLibraryLaw_law_r7063_89e837.pv sh V t k := by
  have g := h.2.2 _ (T.1 k hk) (n k hk)
  unfold Jvm.Pilot.CLinkLibraryLaw_law_r7063_89e837.pv; rw [g.1, g.2]
/-- the state: the tape, what is out, the links, the fault and its place -/
def Sx (sh : zSh) (x : Nat) (V : wSt) (tp ou : List Int) (lk : Nat → Nat → List Int × Int) (f0 f1 : Int) : Prop := AllR sh V ∧ tx sh V (sr sh x 0) = tp ∧ tx sh V (sr sh x 2) = ou ∧ (∀ p k, p < 8 → k < 7 → pv sh V (wP sh x p) k = lk p k) ∧ V x 10 = f0 ∧ V x 11 = f1
theorem hid_0 {sh : zSh} {x : Nat} (h : wLL sh x) : ¬ hid sh x (sr sh x 0) := fun w => by
  rcases w with w | w | ⟨p, k, -, hp, hk, w⟩
  · exact h.ne.1 w
  · exact h.ne.2.2.1 w
  · exact (h.pr hp hk).1 w.symm
theorem hid_2 {sh : zSh} {x : Nat} (h : wLL sh x) : ¬ hid sh x (sr sh x 2) := fun w => by
  rcases w with w | w | ⟨p, k, -, hp, hk, w⟩
  · exact h.ne.2.2.2.1 w.symm
  · exact h.ne.2.2.2.2.2 w
  · exact (h.pr hp hk).2.2.1 w.symm
theorem hid_l {sh : zSh} {x : Nat} (h : wLL sh x) {p k : Nat} (hp : p < 8) (hk : k < 7) : ¬ hid sh x (sr sh (wP sh x p) k) := fun w => by
  rcases w with w | w | ⟨q, j, h8, hq, hj, w⟩
  · exact (h.pr (by omega) hk).2.1 w
  · exact (h.pr (by omega) hk).2.2.2 w
  · exact h.dj hq (by omega : p < 11) (by omega) k j hk hj w
theorem Sx.hid {sh : zSh} {x : Nat} (h : wLL sh x) {V V' : wSt} {tp ou : List Int} {lk : Nat → Nat → List Int × Int} {f0 f1 : Int} (s : Sx sh x V tp ou lk f0 f1) (k : Kp sh x (hid sh x) V V') : Sx sh x V' tp ou lk f0 f1 := by
  obtain ⟨A, t, o, l, g0, g1⟩ := s
  refine ⟨k.1, (k.2.2 _ h.r0 (hid_0 h)).1.trans t, (k.2.2 _ h.r2 (hid_2 h)).1.trans o, fun p j hp hj => (k.pv (h.P (by omega)) (fun i hi => hid_l h hp hi) hj).trans (l p j hp hj), ?_, ?_⟩
  · rw [k.2.1]; exact g0
  · rw [k.2.1]; exact g1
theorem Sx.out {sh : zSh} {x : Nat} (h : wLL sh x) {V V' : wSt} {tp ou : List Int} {lk : Nat → Nat → List Int × Int} {f0 f1 : Int} (s : Sx sh x V tp ou lk f0 f1) {L : List Int} {th : Int} (u : RwU sh V V' (sr sh x 2) L th) : Sx sh x V' tp L lk f0 f1 := by
  obtain ⟨A, t, o, l, g0, g1⟩ := s
  have k := u.kp h A
  refine ⟨k.1, (k.2.2 _ h.r0 h.ne.2.1).1.trans t, u.2.2.1, fun p j hp hj => (k.pv (h.P (by omega)) (fun i hi => (h.pr (by omega) hi).2.2.1) hj).trans (l p j hp hj), ?_, ?_⟩
  · rw [k.2.1]; exact g0
  · rw [k.2.1]; exact g1
theorem Sx.tape {sh : zSh} {x : Nat} (h : wLL sh x) {V V' : wSt} {tp ou : List Int} {lk : Nat → Nat → List Int × Int} {f0 f1 : Int} (s : Sx sh x V tp ou lk f0 f1) {L : List Int} {th : Int} (u : RwU sh V V' (sr sh x 0) L th) : Sx sh x V' L ou lk f0 f1 := by
  obtain ⟨A, t, o, l, g0, g1⟩ := s
  have k := u.kp h A
  refine ⟨k.1, u.2.2.1, (k.2.2 _ h.r2 (fun e => h.ne.2.1 e.symm)).1.trans o, fun p j hp hj => (k.pv (h.P (by omega)) (fun i hi => (h.pr (by omega) hi).1) hj).trans (l p j hp hj), ?_, ?_⟩
  · rw [k.2.1]; exact g0
  · rw [k.2.1]; exact g1
/-- one link changed -/
def lup (lk : Nat → Nat → List Int × Int) (i : Nat) (Q : Nat → List Int × Int) : Nat → Nat → List Int × Int := fun p => if p = i then Q else lk p
theorem Sx.link {sh : zSh} {x : Nat} (h : wLL sh x) {V V' : wSt} {tp ou : List Int} {lk : Nat → Nat → List Int × Int} {f0 f1 : Int} (s : Sx sh x V tp ou lk f0 f1) {i : Nat} (hi : i < 8) {Q : Nat → List Int × Int} (u : PwU sh V V' (wP sh x i) Q) : Sx sh x V' tp ou (lup lk i Q) f0 f1 := by
  obtain ⟨A, t, o, l, g0, g1⟩ := s
  have k := u.kp h (h.P (by omega))
  refine ⟨k.1, (k.2.2 _ h.r0 (fun ⟨j, hj, w⟩ => (h.pr (by omega) hj).1 w.symm)).1.trans t, (k.2.2 _ h.r2 (fun ⟨j, hj, w⟩ => (h.pr (by omega) hj).2.2.1 w.symm)).1.trans o, fun p j hp hj => ?_, ?_, ?_⟩
  · unfold lup
    by_cases c : p = i
    · rw [if_pos c, c]; exact u.2.2 j hj
    · rw [if_neg c, k.pv (h.P (by omega)) (fun m hm ⟨n, hn, w⟩ => h.dj (by omega : i < 11) (by omega : p < 11) (fun e => c e.symm) m n hm hn w) hj]
      exact l p j hp hj
  · rw [k.2.1]; exact g0
  · rw [k.2.1]; exact g1
theorem hid_d {sh : zSh} {x p : Nat} (h8 : 8 ≤ p) (h11 : p < 11) : ∀ s, (∃ k, k < 7 ∧ s = sr sh (wP sh x p) k) → hid sh x s := fun s ⟨k, hk, w⟩ => Or.inr (Or.inr ⟨p, k, h8, h11, hk, w⟩)
