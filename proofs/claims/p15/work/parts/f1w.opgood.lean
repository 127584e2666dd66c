set_option maxRecDepth 16384
/-! what comes of a link is right again: without a segment, with one more, on the way -/
theorem nq_take : ∀ (X : List Int) (n : Nat), nq X → nq (X.take n) := by
  intro X
  induction X with
  | nil => intro n _; rw [List.take_nil]; exact trivial
  | cons b X ih =>
    intro n h
    cases n with
    | zero => exact trivial
    | succ n =>
      rw [List.take_succ_cons]
      exact h.elim Or.inl (fun w => Or.inr ⟨w.1, ih n w.2⟩)
theorem nq_app : ∀ (X Y : List Int), nq X → nq Y → nq (X ++ Y) := by
  intro X
  induction X with
  | nil => intro Y _ h; exact h
  | cons b X ih => intro Y h g; exact h.elim Or.inl (fun w => Or.inr ⟨w.1, ih Y w.2 g⟩)
theorem asc_hit (L : List Int) : asc L = 0 ∨ gl L (asc L - 1) = 47 := by
  rw [← mz_asc]
  unfold mz
  obtain ⟨k, hk⟩ : ∃ k : Int, k = if (if gl L 0 = 47 then (1 : Int) else 0) < L.length ∧ gl L (L.length - 1) = 47 then (L.length : Int) - 1 else L.length := ⟨_, rfl⟩
  rw [← hk]
  have q := fli_hit (f := gl L) (b := 47) (a := 0) _ (k - 1) rfl
  by_cases c : fli (gl L) 47 0 (k - 1) + 1 < (if gl L 0 = 47 then (1 : Int) else 0)
  · rw [if_pos c]
    by_cases g : gl L 0 = 47
    · rw [if_pos g]; exact Or.inr g
    · rw [if_neg g]; exact Or.inl rfl
  · rw [if_neg c]
    rcases q with w | w
    · rw [w]; exact Or.inl rfl
    · exact Or.inr (by rw [show fli (gl L) 47 0 (k - 1) + 1 - 1 = fli (gl L) 47 0 (k - 1) by omega]; exact w.1)
theorem Good_pup4 {Q : Nat → List Int × Int} (g : Good Q) {X : List Int} (hk : okT 4 X) (h1 : (Q 2).2 = 1 → X = [] ∨ gl X 0 = 47) (h2 : (Q 2).2 = 0 → ¬ (gl X 0 = 47 ∧ gl X 1 = 47)) (h3 : (Q 0).2 = 0 → (Q 2).2 = 0 → nq X) : Good (pup Q 4 (X, (Q 4).2)) := by
  obtain ⟨F, S, V⟩ := g
  have o : ∀ k, k ≠ 4 → pup Q 4 (X, (Q 4).2) k = Q k := fun k hk => by unfold pup; rw [if_neg hk]
  have q4 : pup Q 4 (X, (Q 4).2) 4 = (X, (Q 4).2) := pup_at Q 4 _
  refine ⟨Fl_pup4 F F.2.2.1, ⟨fun hz => ?_, fun hz => ?_, fun z0 z2 => ?_⟩, Va_pup4 V hk⟩
  · rw [o 2 (by decide)] at hz; rw [q4]; exact h1 hz
  · rw [o 2 (by decide)] at hz; rw [q4]; exact h2 hz
  · rw [o 0 (by decide)] at z0; rw [o 2 (by decide)] at z2; rw [q4]; exact (nq_iff _).mp (h3 z0 z2)
theorem qAsc_good {Q : Nat → List Int × Int} (g : Good Q) : Good (qAsc Q) := by
  have ok := g.2.2.2.1 4 (Or.inr (Or.inl rfl))
  have S := g.2.1
  unfold qAsc
  obtain ⟨X, hX⟩ : ∃ X, X = (Q 4).1 := ⟨_, rfl⟩
  have ar := asc_r X
  have ah := asc_hit X
  rw [← hX]
  have nn : ((asc X).toNat : Int) = asc X := Int.toNat_of_nonneg ar.1
  refine Good_pup4 g ?_ (fun hz => ?_) (fun hz w => ?_) (fun z0 z2 => ?_)
  · rw [← hX] at ok
    refine okT_take ok (cdk_take2 ok.2 ?_)
    rcases ah with w | w
    · exact Or.inl (by omega)
    · refine Or.inr ?_
      rw [nn, w]; exact ⟨by decide, by decide⟩
  · rw [gl_take]
    have s := S.1 hz
    rw [← hX] at s
    by_cases c : asc X = 0
    · left; rw [c]; rfl
    · rcases s with w | w
      · left; rw [w, List.take_nil]
      · right; rw [if_pos (by omega)]; exact w
  · rw [gl_take, gl_take] at w
    have s := S.2.1 hz
    rw [← hX] at s
    by_cases c : (1 : Int) < (asc X).toNat
    · rw [if_pos (by omega), if_pos c] at w; exact s w
    · rw [if_neg c] at w; exact absurd w.2 (by decide)
  · have s := Sr_nq S z0 z2
    rw [← hX] at s
    exact nq_take _ _ s
theorem cdg_h {x : Int} (h : 0 ≤ x ∧ x ≤ 15) : 0 ≤ pHex (cdg x) ∧ cdg x ≠ 47 ∧ cdg x ≠ 58 := by
  have key : ∀ k : Fin 16, 0 ≤ pHex (cdg (k.val : Int)) ∧ cdg (k.val : Int) ≠ 47 ∧ cdg (k.val : Int) ≠ 58 := by decide
  have := key ⟨x.toNat, by omega⟩
  rw [show ((⟨x.toNat, by omega⟩ : Fin 16).val : Int) = x from Int.toNat_of_nonneg h.1] at this
  exact this
theorem cod_ok : ∀ T : List Int, (∀ x, x ∈ T → 0 ≤ x ∧ x ≤ 255) → okT 4 (cod T) ∧ nq (cod T) ∧ gl (cod T) 0 ≠ 47 := by
  intro T
  induction T with
  | nil => intro _; exact ⟨okT_nil 4, trivial, by decide⟩
  | cons b T ih =>
    intro h
    obtain ⟨k, n, -⟩ := ih (fun x hx => h x (List.mem_cons_of_mem _ hx))
    have br := h b List.mem_cons_self
    rw [cod]
    unfold cod1
    by_cases f : pFree b = 0
    · rw [if_pos f]
      have cr := cod_r br
      have d1 := cdg_h (x := wand (wshr b 4) 15) ⟨cr.1, cr.2.1⟩
      have d2 := cdg_h (x := wand b 15) ⟨cr.2.2.1, cr.2.2.2⟩
      exact ⟨okT_c2 (by decide) d1.1 d2.1 k, Or.inr ⟨by decide, Or.inr ⟨d1.2.2, Or.inr ⟨d2.2.2, n⟩⟩⟩, by show (37 : Int) ≠ 47; decide⟩
    · rw [if_neg f]
      have fr := (pFree_r b).resolve_left f
      exact ⟨okT_c1 (free_no fr).1 (free_may (by decide) fr) k, Or.inr ⟨(free_no fr).2.2.1, n⟩, (free_no fr).2.1⟩
theorem qDes_good {Q : Nat → List Int × Int} (g : Good Q) {T : List Int} (hT : ∀ x, x ∈ T → 0 ≤ x ∧ x ≤ 255) : Good (qDes Q T) := by
  have ok := g.2.2.2.1 4 (Or.inr (Or.inl rfl))
  have S := g.2.1
  obtain ⟨k, n, h0⟩ := cod_ok T hT
  unfold qDes
  obtain ⟨X, hX⟩ : ∃ X, X = (Q 4).1 := ⟨_, rfl⟩
  obtain ⟨D, hD⟩ : ∃ D : List Int, D = if dsl Q = 0 then [] else [47] := ⟨_, rfl⟩
  have dD : D = [] ∨ D = [47] := by rw [hD]; split
                                    · exact Or.inl rfl
                                    · exact Or.inr rfl
  have s1 := S.1
  have s2 := S.2.1
  have s3 := Sr_nq S
  rw [← hD]
  rw [← hX] at ok s1 s2 s3 ⊢
  have hd : X ≠ [] → ∀ Y : List Int, gl (X ++ Y) 0 = gl X 0 := fun w Y => by
    rw [gl_app1]
    cases X with
    | nil => exact absurd rfl w
    | cons b X => simp only [List.length_cons]; omega
  have dX : dsl Q = if X.length = 0 then (Q 2).2 else if gl X (X.length - 1) = 47 then 0 else 1 := by unfold dsl; rw [← hX]
  have okD : okT 4 D := by
    rcases dD with w | w
    · rw [w]; exact okT_nil 4
    · rw [w]; exact okT_47
  have nqD : nq D := by
    rcases dD with w | w
    · rw [w]; exact trivial
    · rw [w]; exact Or.inl rfl
  refine Good_pup4 g (okT_app ok (okT_app okD k)) (fun hz => ?_) (fun hz w => ?_) (fun z0 z2 => ?_)
  · right
    by_cases c : X = []
    · have d : D = [47] := by
        have e : dsl Q = (Q 2).2 := by rw [dX, c]; rfl
        rw [hD, e, if_neg (by rw [hz]; decide)]
      rw [c, d]; rfl
    · rw [hd c]; exact (s1 hz).resolve_left c
  · by_cases c : X = []
    · have d : D = [] := by
        have e : dsl Q = (Q 2).2 := by rw [dX, c]; rfl
        rw [hD, e, if_pos hz]
      rw [c, d] at w
      exact h0 w.1
    · rw [hd c] at w
      by_cases l : X.length = 1
      · have d : D = [] := by
          have e2 : gl X ((X.length : Int) - 1) = 47 := by rw [l]; exact w.1
          have e : dsl Q = 0 := by rw [dX, if_neg (by omega), if_pos e2]
          rw [hD, e, if_pos rfl]
        rw [d, gl_app0 _ _ (by omega), l] at w
        exact h0 w.2
      · have l2 : (1 : Int) < X.length := by
          cases X with
          | nil => exact absurd rfl c
          | cons b X => rw [List.length_cons] at l ⊢; omega
        rw [gl_app1 _ _ l2] at w
        exact s2 hz w
  · exact nq_app _ _ (s3 z0 z2) (nq_app _ _ nqD n)
/-- the best way is one that reads back -/
theorem bwA_ok (B T : Nat → List Int × Int) : ∀ (n : Nat) (w b s : Int), s ≤ 401 → (b = -1 ∨ (wOk B T b ∧ pln (qWay b B T) ≤ 400)) → bwA B T n w b s = -1 ∨ (wOk B T (bwA B T n w b s) ∧ pln (qWay (bwA B T n w b s) B T) ≤ 400) := by
  intro n
  induction n with
  | zero => intro w b s _ h; exact h
  | succ n ih =>
    intro w b s hs h
    rw [bwA]
    split
    · rename_i c
      exact ih (w + 1) w _ (by omega) (Or.inr ⟨bI_i.mp c.2, by omega⟩)
    · exact ih (w + 1) b s hs h
theorem bway_ok (B T : Nat → List Int × Int) : bway B T = -1 ∨ (wOk B T (bway B T) ∧ pln (qWay (bway B T) B T) ≤ 400) := bwA_ok B T 6 0 (-1) 401 (by decide) (Or.inl rfl)
