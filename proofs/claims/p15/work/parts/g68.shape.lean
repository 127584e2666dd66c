set_option maxRecDepth 16384
/-! the heap ahead of the law's loop: its shape and what it holds -/
def okD : List zOp → Bool
  | [] => true
  | o :: D => (if o.1 = 0 then decide (o.2.1 = nD D + 1) else true) && okD D
def kE : List zOp → Nat → Nat × Nat
  | [], _ => (0, 0)
  | o :: D, a => if o.1 = 0 ∧ a = o.2.1 then (o.2.2.1, o.2.2.2) else kE D a
def rE : List zOp → Nat → Nat → Nat
  | [], _, _ => 0
  | o :: D, a, j => if o.1 = 0 ∧ a = o.2.1 then 0 else if o.1 = 1 ∧ a = o.2.1 ∧ j = o.2.2.1 then o.2.2.2 else rE D a j
theorem kD_E (D : List zOp) (h : okD D = true) (a : Nat) : kD D a = kE D a := by
  induction D with
  | nil => rfl
  | cons o D ih =>
    have h := (Bool.and_eq_true_iff.mp (show ((if o.1 = 0 then decide (o.2.1 = nD D + 1) else true) && okD D) = true from h))
    show (if o.1 = 0 then (if a = nD D + 1 then (o.2.2.1, o.2.2.2) else kD D a) else kD D a) = if o.1 = 0 ∧ a = o.2.1 then (o.2.2.1, o.2.2.2) else kE D a
    rw [ih h.2]
    by_cases c : o.1 = 0
    · have e : o.2.1 = nD D + 1 := by have := h.1; rw [if_pos c] at this; exact of_decide_eq_true this
      rw [if_pos c, ← e]
      by_cases d : a = o.2.1
      · rw [if_pos d, if_pos ⟨c, d⟩]
      · rw [if_neg d, if_neg (fun q => d q.2)]
    · rw [if_neg c, if_neg (fun q => c q.1)]
theorem rD_E (D : List zOp) (h : okD D = true) (a j : Nat) : rD D a j = rE D a j := by
  induction D with
  | nil => rfl
  | cons o D ih =>
    have h := (Bool.and_eq_true_iff.mp (show ((if o.1 = 0 then decide (o.2.1 = nD D + 1) else true) && okD D) = true from h))
    show (if o.1 = 0 then (if a = nD D + 1 then 0 else rD D a j) else if o.1 = 1 then (if a = o.2.1 ∧ j = o.2.2.1 then o.2.2.2 else rD D a j) else rD D a j) = if o.1 = 0 ∧ a = o.2.1 then 0 else if o.1 = 1 ∧ a = o.2.1 ∧ j = o.2.2.1 then o.2.2.2 else rE D a j
    rw [ih h.2]
    by_cases c : o.1 = 0
    · have e : o.2.1 = nD D + 1 := by have := h.1; rw [if_pos c] at this; exact of_decide_eq_true this
      rw [if_pos c, ← e]
      by_cases d : a = o.2.1
      · rw [if_pos d, if_pos (show o.1 = 0 ∧ a = o.2.1 from ⟨c, d⟩)]
      · rw [if_neg d, if_neg (show ¬ (o.1 = 0 ∧ a = o.2.1) from fun q => d q.2), if_neg (show ¬ (o.1 = 1 ∧ a = o.2.1 ∧ j = o.2.2.1) from fun q => by omega)]
    · rw [if_neg c, if_neg (show ¬ (o.1 = 0 ∧ a = o.2.1) from fun q => c q.1)]
      by_cases d : o.1 = 1
      · rw [if_pos d]
        by_cases f : a = o.2.1 ∧ j = o.2.2.1
        · rw [if_pos f, if_pos (show o.1 = 1 ∧ a = o.2.1 ∧ j = o.2.2.1 from ⟨d, f⟩)]
        · rw [if_neg f, if_neg (show ¬ (o.1 = 1 ∧ a = o.2.1 ∧ j = o.2.2.1) from fun q => f q.2)]
      · rw [if_neg d, if_neg (show ¬ (o.1 = 1 ∧ a = o.2.1 ∧ j = o.2.2.1) from fun q => d q.1)]
theorem kE_big (D : List zOp) (h : D.all (fun o => decide (o.2.1 ≤ 193)) = true) {a : Nat} (ha : 193 < a) : kE D a = (0, 0) := by
  induction D with
  | nil => rfl
  | cons o D ih =>
    rw [List.all_cons, Bool.and_eq_true] at h
    have := of_decide_eq_true h.1
    show (if o.1 = 0 ∧ a = o.2.1 then (o.2.2.1, o.2.2.2) else kE D a) = _
    rw [if_neg (fun q => by omega)]; exact ih h.2
theorem iD_01 (D : List zOp) (h : D.all (fun o => decide (o.1 < 2 ∨ (o.2.1 ≤ 180 ∧ o.2.2.1 = 2 ∧ o.2.2.2 = 1))) = true) (a j : Nat) : iD D a j = 0 ∨ (a ≤ 180 ∧ j = 2 ∧ iD D a j = 1) := by
  induction D with
  | nil => exact Or.inl rfl
  | cons o D ih =>
    rw [List.all_cons, Bool.and_eq_true] at h
    have g := of_decide_eq_true h.1
    have ih := ih h.2
    show (if o.1 = 0 then (if a = nD D + 1 then 0 else iD D a j) else if o.1 = 1 then iD D a j else (if a = o.2.1 ∧ j = o.2.2.1 then o.2.2.2 else iD D a j)) = 0 ∨ (a ≤ 180 ∧ j = 2 ∧ (if o.1 = 0 then (if a = nD D + 1 then 0 else iD D a j) else if o.1 = 1 then iD D a j else (if a = o.2.1 ∧ j = o.2.2.1 then o.2.2.2 else iD D a j)) = 1)
    by_cases c : o.1 = 0
    · rw [if_pos c]
      by_cases d : a = nD D + 1
      · rw [if_pos d]; exact Or.inl rfl
      · rw [if_neg d]; exact ih
    · rw [if_neg c]
      by_cases d : o.1 = 1
      · rw [if_pos d]; exact ih
      · rw [if_neg d]
        by_cases f : a = o.2.1 ∧ j = o.2.2.1
        · rw [if_pos f]; exact Or.inr (by omega)
        · rw [if_neg f]; exact ih
theorem zE_ok : okD zE29 = true := by decide +kernel
theorem zE_ids : zE29.all (fun o => decide (o.2.1 ≤ 193)) = true := by decide +kernel
theorem zE_ints : zE29.all (fun o => decide (o.1 < 2 ∨ (o.2.1 ≤ 180 ∧ o.2.2.1 = 2 ∧ o.2.2.2 = 1))) = true := by decide +kernel
def shE : zSh := (0, kE zE29, rE zE29, 0, fun _ => 0)
theorem shE_LL : zLL shE 2 181 1 := by
  unfold zLL zRw zRow zRd zAd zPt zRw zRow
  repeat' apply And.intro
  all_goals decide +kernel
theorem shE_Md : zMd shE 181 181 := by
  unfold zMd
  decide +kernel
theorem shE_k : ∀ a, a < 194 → 181 ≤ a → ((sk shE a).1 ≠ 1 ∧ (sk shE a).1 ≠ 13) ∧ (sk shE a = (2, 7) → a = sr shE 181 10) := by decide +kernel
theorem shE_k2 {a : Nat} (h : 181 ≤ a) : ((sk shE a).1 ≠ 1 ∧ (sk shE a).1 ≠ 13) ∧ (sk shE a = (2, 7) → a = sr shE 181 10) := by
  rcases Nat.lt_or_ge a 194 with g | g
  · exact shE_k a g h
  · have e : sk shE a = (0, 0) := kE_big _ zE_ids (by omega)
    rw [e]; exact ⟨⟨by decide, by decide⟩, fun c => by cases c⟩
theorem shE_T : zRow shE 2 ∧ (sk shE (sr shE 2 0)).2 = 400 ∧ sk shE 193 = (4, 1) := by
  unfold zRow
  decide +kernel
theorem zE_sd : sD zE29 ≤ 200000 := by decide +kernel
theorem zsh_eq (L : Nat) (xs : Nat → Int32) : (zA L xs zE29).1 = (193, kE zE29, rE zE29, L, xs) := by
  have h1 := (zA_n L xs zE29).trans nE29
  have h2 : zkd (zA L xs zE29) = kE zE29 := funext fun a => (zA_k L xs zE29 a).trans (kD_E _ zE_ok a)
  have h3 : zrv (zA L xs zE29) = rE zE29 := funext fun a => funext fun j => (zA_r L xs zE29 a j).trans (rD_E _ zE_ok a j)
  have h4 := (zA_c L xs zE29).2.2
  exact Prod.ext h1 (Prod.ext h2 (Prod.ext h3 h4))
/-- the first heap, of what is seen -/
def offE (k : Nat) : Nat := if k < 4 then 2 * k + 1 else if k = 4 then 13 else 2 * k - 1
def rowE (p k : Nat) : Nat := (if p < 8 then 61 + 15 * p else 16 + 15 * (p - 8)) + offE k
theorem shE_rows : ∀ p, p < 11 → ∀ k, k < 7 → sr shE (wP shE 1 p) k = rowE p k := by decide +kernel
theorem shE_row : ∀ p, p < 11 → ∀ k, k < 7 → sk shE (rowE p k) = (13, 3) ∧ (sk shE (sr shE (rowE p k) 0)).1 = 1 ∧ (sk shE (sr shE (rowE p k) 0)).2 = if 8 ≤ p ∧ k = 4 then 808 else 400 := by decide +kernel
theorem shE_arr : ∀ r, r < 194 → (sk shE r).1 = 13 → sr shE r 0 = r + 1 := by decide +kernel
theorem offE_i : ∀ j, j < 7 → ∀ k, k < 7 → offE j = offE k → j = k := by decide +kernel
theorem offE_r : ∀ j, j < 7 → 1 ≤ offE j ∧ offE j ≤ 13 := by decide +kernel
theorem rowE_ne (p : Nat) (hp : p < 11) (q : Nat) (hq : q < 11) (j : Nat) (hj : j < 7) (k : Nat) (hk : k < 7) (e : rowE p j = rowE q k) : p = q ∧ j = k := by
  have a := offE_r j hj
  have b := offE_r k hk
  have h : p = q ∧ offE j = offE k := by
    unfold rowE at e
    by_cases c : p < 8
    · by_cases d : q < 8
      · rw [if_pos c, if_pos d] at e; omega
      · rw [if_pos c, if_neg d] at e; omega
    · by_cases d : q < 8
      · rw [if_neg c, if_pos d] at e; omega
      · rw [if_neg c, if_neg d] at e; omega
  exact ⟨h.1, offE_i j hj k hk h.2⟩
theorem rowE_x : ∀ p, p < 11 → ∀ k, k < 7 → rowE p k ≠ 2 ∧ rowE p k ≠ 4 ∧ rowE p k ≠ 6 ∧ rowE p k ≠ 12 := by decide +kernel
theorem shE_x : sk shE 1 = (14, 12) ∧ sr shE 1 0 = 2 ∧ sr shE 1 1 = 4 ∧ sr shE 1 2 = 6 ∧ sr shE 1 5 = 12 ∧ sk shE (sr shE 1 3) = (5, 8) ∧ (∀ p, p < 8 → sr shE (sr shE 1 3) p ≠ 0) ∧ sk shE (sr shE 1 4) = (12, 4) ∧ sk shE (sr shE (sr shE 1 4) 0) = (2, 7) ∧ sk shE (sr shE (sr shE 1 4) 1) = (2, 7) ∧ sr shE (sr shE 1 4) 0 ≠ sr shE (sr shE 1 4) 1 ∧ sk shE (sr shE (sr shE 1 6) 0) = (2, 8) ∧ sr shE (sr shE 1 4) 0 ≠ sr shE (sr shE 1 6) 0 ∧ sr shE (sr shE 1 4) 1 ≠ sr shE (sr shE 1 6) 0 := by decide +kernel
theorem shE_4 : ∀ r, r = 2 ∨ r = 4 ∨ r = 6 ∨ r = 12 → sk shE r = (13, 3) ∧ (sk shE (sr shE r 0)).1 = 1 ∧ (sk shE (sr shE r 0)).2 = 400 := by
  intro r h
  rcases h with h | h | h | h <;> subst h <;> decide +kernel
theorem shE_zR {r : Nat} (h : sk shE r = (13, 3)) (g : (sk shE (sr shE r 0)).1 = 1) (l : (sk shE (sr shE r 0)).2 ≤ 100000) : zRow shE r := ⟨h, g, l⟩
theorem shE_wLL : wLL shE 1 := by
  obtain ⟨x0, x1, x2, x3, x4, x5, x6, x7, x8, x9, x10, x11, x12, x13⟩ := shE_x
  have rr : ∀ p k, p < 11 → k < 7 → zRow shE (sr shE (wP shE 1 p) k) := fun p k hp hk => by
    rw [shE_rows p hp k hk]
    have q := shE_row p hp k hk
    exact shE_zR q.1 q.2.1 (by rw [q.2.2]; split <;> decide)
  have r4 : ∀ r, r = 2 ∨ r = 4 ∨ r = 6 ∨ r = 12 → zRow shE r := fun r h => by
    have q := shE_4 r h
    exact shE_zR q.1 q.2.1 (by rw [q.2.2]; decide)
  refine ⟨fun r s hr hs n => ?_, x0, ⟨by rw [x1]; exact r4 2 (by decide), by rw [x2]; exact r4 4 (by decide), by rw [x3]; exact r4 6 (by decide), by rw [x4]; exact r4 12 (by decide)⟩, by rw [x1, x2, x3, x4]; decide, fun p hp => ⟨fun k hk => rr p k hp hk, fun j k hj hk e => ?_⟩, fun p q j k hp hq hj hk n e => ?_, fun p k hp hk => ?_, ⟨x7, x8, x9, x10⟩, x11, ⟨x12, x13⟩, ⟨x5, x6⟩, ?_, fun p k hp hk => ?_⟩
  · have b : ∀ r, zRow shE r → r < 194 := fun r hr => by
      rcases Nat.lt_or_ge r 194 with w | w
      · exact w
      · have e : sk shE r = (0, 0) := kE_big _ zE_ids (by omega)
        have := hr.1
        rw [e] at this; cases this
    rw [shE_arr r (b r hr) (by rw [hr.1]), shE_arr s (b s hs) (by rw [hs.1])]
    omega
  · rw [shE_rows p hp j hj, shE_rows p hp k hk] at e
    exact (rowE_ne p hp p hp j hj k hk e).2
  · rw [shE_rows p hp j hj, shE_rows q hq k hk] at e
    exact n (rowE_ne p hp q hq j hj k hk e).1
  · rw [shE_rows p hp k hk, x1, x2, x3, x4]; exact rowE_x p hp k hk
  · unfold cap
    rw [x1, x2, x3, x4]
    exact ⟨(shE_4 2 (by decide)).2.2, (shE_4 4 (by decide)).2.2, (shE_4 6 (by decide)).2.2, (shE_4 12 (by decide)).2.2⟩
  · unfold cap
    rw [shE_rows p hp k hk]; exact (shE_row p hp k hk).2.2
/-- the ints of the first heap -/
def iE : List zOp → Nat → Nat → Nat
  | [], _, _ => 0
  | o :: D, a, j => if o.1 = 0 ∧ a = o.2.1 then 0 else if ¬ o.1 = 0 ∧ ¬ o.1 = 1 ∧ a = o.2.1 ∧ j = o.2.2.1 then o.2.2.2 else iE D a j
theorem iD_E (D : List zOp) (h : okD D = true) (a j : Nat) : iD D a j = iE D a j := by
  induction D with
  | nil => rfl
  | cons o D ih =>
    have h := (Bool.and_eq_true_iff.mp (show ((if o.1 = 0 then decide (o.2.1 = nD D + 1) else true) && okD D) = true from h))
    show (if o.1 = 0 then (if a = nD D + 1 then 0 else iD D a j) else if o.1 = 1 then iD D a j else (if a = o.2.1 ∧ j = o.2.2.1 then o.2.2.2 else iD D a j)) = if o.1 = 0 ∧ a = o.2.1 then 0 else if ¬ o.1 = 0 ∧ ¬ o.1 = 1 ∧ a = o.2.1 ∧ j = o.2.2.1 then o.2.2.2 else iE D a j
    rw [ih h.2]
    by_cases c : o.1 = 0
    · have e : o.2.1 = nD D + 1 := by have := h.1; rw [if_pos c] at this; exact of_decide_eq_true this
      rw [if_pos c, ← e]
      by_cases d : a = o.2.1
      · rw [if_pos d, if_pos ⟨c, d⟩]
      · rw [if_neg d, if_neg (fun q => d q.2), if_neg (fun q => q.1 c)]
    · rw [if_neg c, if_neg (c := o.1 = 0 ∧ a = o.2.1) (fun q => c q.1)]
      by_cases d : o.1 = 1
      · rw [if_pos d, if_neg (c := ¬ o.1 = 0 ∧ ¬ o.1 = 1 ∧ a = o.2.1 ∧ j = o.2.2.1) (fun q => q.2.1 d)]
      · rw [if_neg d]
        by_cases f : a = o.2.1 ∧ j = o.2.2.1
        · rw [if_pos f, if_pos ⟨c, d, f⟩]
        · rw [if_neg f, if_neg (c := ¬ o.1 = 0 ∧ ¬ o.1 = 1 ∧ a = o.2.1 ∧ j = o.2.2.1) (fun q => f q.2.2)]
theorem iE_flag : ∀ p, p < 8 → ∀ k, k < 7 → iE zE29 (rowE p k) 2 = if k = 4 then 1 else 0 := by decide +kernel
theorem cut_nil : ∀ k, k < 7 → cutQ [] k = pNo k := by decide +kernel
theorem Va_nil : Va (cutQ []) := by
  refine Va_cg (fun k hk => (cut_nil k hk).symm) ⟨fun h => absurd h (by decide), fun k hk => ?_, hVa_nil, ⟨fun i i0 i1 => by simp only [pNo, List.length_nil] at i1; omega, by decide, by decide⟩⟩
  exact okT_nil _
/-- the law, from its first row to its last -/
theorem zlaw_p0 (L : Nat) (xs : Nat → Int32) (hL : L ≤ 240) : zok (zev zP 225 0 [some (zX 0), none, none, none, none, none, none] [] (zi0 L xs)) (fun r h => r = .inl (some (zI 1)) ∧ zcn h ≤ 600096 ∧ zsn h ≤ 7301386) := by
  rw [g_all]
  obtain ⟨t, ht⟩ : ∃ t, t = (zA L xs zE29).2 := ⟨_, rfl⟩
  obtain ⟨sh, hsh⟩ : ∃ sh, sh = ((193, kE zE29, rE zE29, L, xs) : zSh) := ⟨_, rfl⟩
  have he : zA L xs zE29 = (sh, t) := Prod.ext ((zsh_eq L xs).trans hsh.symm) ht.symm
  have hk : sk sh = sk shE := by rw [hsh]; rfl
  have hr : sr sh = sr shE := by rw [hsh]; rfl
  have i0 : ∀ a j, tg t a j = 0 ∨ (a ≤ 180 ∧ j = 2 ∧ tg t a j = 1) := fun a j => by
    have e : ti t a j = oI (iD zE29 a j : Nat) := by rw [ht]; exact zA_i L xs zE29 a j
    unfold tg
    rw [e]
    rcases iD_01 zE29 zE_ints a j with h | ⟨h1, h2, h3⟩
    · rw [h]; exact Or.inl rfl
    · rw [h3]; exact Or.inr ⟨h1, h2, rfl⟩
  have iz : ∀ a j, 181 ≤ a → tg t a j = 0 := fun a j ha => by rcases i0 a j with h | h <;> omega
  have q1 : zLL sh 2 181 1 := by
    have h := shE_LL
    unfold zLL zRw zRow zRd zAd zPt zRw zRow at h ⊢
    rw [hk, hr]; exact h
  have q2 : zMd sh 181 181 := by
    have h := shE_Md
    unfold zMd at h ⊢
    rw [hk, hr]; exact h
  have F : zCl sh 2 181 := by
    have h := shE_T
    unfold zCl zRow at *
    rw [hk, hr]; exact ⟨h.1, by decide, fun a ha => (shE_k2 ha).1⟩
  have q3 : sk sh 193 = (4, 1) := by rw [hk]; exact shE_T.2.2
  have h7 : ∀ a, 181 ≤ a → sk sh a = (2, 7) → a = sr sh 181 10 := fun a ha => by rw [hk, hr]; exact (shE_k2 ha).2
  have hc : 400 ≤ ((sk sh (sr sh 2 0)).2 : Int) := by rw [hk, hr, shE_T.2.1]; decide
  have hx : sh.2.2.2.1 = L := by rw [hsh]
  have m2 : 181 ≤ sr sh 181 2 := (q2.2.2.1 2 (by decide)).1
  have m3 : 181 ≤ sr sh 181 3 := (q2.2.2.1 3 (by decide)).1
  have m4 : 181 ≤ sr sh 181 4 := (q2.2.2.1 4 (by decide)).1
  have m10 : 181 ≤ sr sh 181 10 := (q2.2.2.1 10 (by decide)).1
  have m11 : 181 ≤ sr sh 181 11 := (q2.2.2.1 11 (by decide)).1
  have I : LI sh 181 193 (sD zE29) 0 t := by
    refine ⟨⟨fun r hr => ?_, fun a ha k hk => ?_⟩, ⟨fun i hi => ?_, fun i hi => ?_, fun i hi => ?_, fun i hi => ?_, ?_, ?_⟩, ?_, ?_⟩
    · have h1 := i0 r 1
      have h2 := i0 r 2
      omega
    · have h1 := i0 a k
      omega
    · have h1 := iz (sr sh 181 2) i m2
      omega
    · have h1 := iz (sr sh 181 3) i m3
      have h2 := iz (sr sh 181 4) i m4
      omega
    · have h1 := iz (sr sh 181 10) i m10
      omega
    · exact Or.inl (iz (sr sh 181 11) i m11)
    · have h1 := iz 181 7 (by omega)
      omega
    · have h1 := iz 181 15 (by omega)
      omega
    · have h1 := (zA_c L xs zE29).1.trans nE29
      have h2 : t.2.2.1 = 193 := by rw [ht]; exact h1
      omega
    · have h1 := (zA_c L xs zE29).2.1
      have h2 : t.2.2.2 = sD zE29 := by rw [ht]; exact h1
      omega
  rw [he]
  have hsd := zE_sd
  have qw : wLL sh 1 := by
    have h := shE_wLL
    unfold wLL zInj wPt wRd wAd cap wP zRow at h ⊢
    rw [hk, hr]; exact h
  have mw : wMd sh 181 := ⟨fun j hj => (q2.2.2.1 j hj).2, q2.2.2.2.1⟩
  have tv : ∀ a j, tgs t a j = tg t a j := fun _ _ => rfl
  have z1 : ∀ a, tgs t a 1 = 0 := fun a => by have := i0 a 1; rw [tv]; omega
  have tn : ∀ a, tx sh (tgs t) a = [] := fun a => by unfold tx; rw [z1]; rfl
  have fl : ∀ p k, p < 8 → k < 7 → tgs t (sr sh (wP sh 1 p) k) 2 = if k = 4 then 1 else 0 := fun p k hp hk => by
    have e1 : sr sh (wP sh 1 p) k = rowE p k := by
      have := shE_rows p (by omega) k hk
      unfold wP at this ⊢
      rw [hr]; exact this
    have e : ti t (rowE p k) 2 = oI (iD zE29 (rowE p k) 2 : Nat) := by rw [ht]; exact zA_i L xs zE29 (rowE p k) 2
    rw [e1]
    show (ti t (rowE p k) 2).toInt = _
    rw [e, iD_E _ zE_ok, iE_flag p hp k hk]
    by_cases c : k = 4
    · rw [if_pos c, if_pos c]; rfl
    · rw [if_neg c, if_neg c]; rfl
  have s0 : Sx sh 1 (tgs t) [] [] (fun _ => pNo) (tgs t 1 10) (tgs t 1 11) := by
    refine ⟨fun r hr' => ⟨hr', ?_, ?_, ?_⟩, tn _, tn _, fun p k hp hk => ?_, rfl, rfl⟩
    · rw [z1]; exact Int.le_refl 0
    · rw [z1]; exact Int.natCast_nonneg _
    · have := i0 r 2; rw [tv]; omega
    · unfold pv pNo
      rw [tn, fl p k hp hk]
  have zM : ∀ a j, 181 ≤ a → tgs t a j = 0 := fun a j ha => iz a j ha
  have u0 : Mx sh 181 (tgs t) [] [] (fun _ => []) := by
    have mn : ∀ r : Int, mx sh (tgs t) 181 r = [] := fun r => by unfold mx; rw [zM _ _ m2]; rfl
    refine ⟨fun r _ => ?_, fun k _ _ => ?_, mn 13, ⟨?_, zM _ _ (by omega)⟩, fun p _ => mn p, Nat.zero_le _, fun _ _ => Nat.zero_le _⟩
    · rw [zM _ _ m2]; exact ⟨by decide, by decide⟩
    · rw [zM _ _ m10]; exact ⟨by decide, by decide⟩
    · unfold ox; rw [zM 181 7 (by omega)]; rfl
  have iv : IW sh 1 181 (tgs t) := ⟨_, _, _, _, _, _, s0, u0, fun p k _ hk => (cut_nil k hk).symm, fun _ _ => Va_nil⟩
  refine zok_up (l225_23 F q1 q2 qw mw q3 h7 hc (by rw [hx]; exact hL) _ 0 none none rfl rfl t I ⟨by have h1 := i0 2 1; have h2 := iz (sr sh 181 2) 13 m2; omega, iv⟩ (by decide) (Nat.lt_succ_self _)) ?_
  rintro r h ⟨x, t', rfl, rfl, -, -, rfl, h1, h2⟩
  refine ⟨rfl, ?_, ?_⟩
  · show t'.2.2.1 ≤ _; omega
  · show t'.2.2.2 ≤ _; omega
