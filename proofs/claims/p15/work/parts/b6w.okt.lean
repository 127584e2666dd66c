set_option maxRecDepth 16384
/-! texts of a part that are right, and what is made of them -/
theorem cdk_nil : cdk [] := cdk_nc (nc_nil (by decide))
theorem cdk_47 : cdk [47] := cdk_nc (nc_cons (by decide) (nc_nil (by decide)))
theorem cdk_app {A B : List Int} (h : cdk A) (g : cdk B) : cdk (A ++ B) := fun i e => by
  rw [gl_app] at e
  by_cases c : i < (A.length : Int)
  · rw [if_pos c] at e
    obtain ⟨c1, c2, h1, h2⟩ := cdk_in h e
    unfold pCd
    rw [gl_app1 A B c, gl_app1 A B (by omega), gl_app1 A B (by omega), if_pos ⟨e, h1, h2⟩]
    omega
  · rw [if_neg c] at e
    obtain ⟨c1, c2, h1, h2⟩ := cdk_in g e
    unfold pCd
    rw [gl_app0 A B (by omega), gl_app0 A B (by omega), gl_app0 A B (by omega), show i + 1 - (A.length : Int) = i - A.length + 1 by omega, show i + 2 - (A.length : Int) = i - A.length + 2 by omega, if_pos ⟨e, h1, h2⟩]
    omega
theorem cdk_drop {L : List Int} (h : cdk L) (n : Nat) : cdk (L.drop n) := fun i e => by
  by_cases c : 0 ≤ i
  · rw [gl_drop, if_neg (by omega)] at e
    have k := h (i + n) e
    have gd : ∀ x : Int, 0 ≤ x → gl (L.drop n) x = gl L (x + n) := fun x hx => by rw [gl_drop, if_neg (by omega)]
    unfold pCd at k ⊢
    rw [gd i c, gd (i + 1) (by omega), gd (i + 2) (by omega), show i + 1 + (n : Int) = i + n + 1 by omega, show i + 2 + (n : Int) = i + n + 2 by omega]
    exact k
  · rw [gl_out (Or.inl (by omega))] at e; cases e
/-- cut where no digit of base 16 stands -/
theorem cdk_take {L : List Int} (h : cdk L) {n : Nat} (g : L.length ≤ n ∨ pHex (gl L n) = -1) : cdk (L.take n) := fun i e => by
  have i0 : 0 ≤ i ∧ i < (n : Int) ∧ i < L.length := by
    rw [gl_take] at e
    by_cases c : i < (n : Int)
    · rw [if_pos c] at e
      by_cases d : 0 ≤ i ∧ i < L.length
      · exact ⟨d.1, c, d.2⟩
      · rw [gl_out (by omega)] at e; cases e
    · rw [if_neg c] at e; cases e
  rw [gl_take, if_pos i0.2.1] at e
  obtain ⟨c1, c2, h1, h2⟩ := cdk_in h e
  have n1 : i + 1 < (n : Int) := by
    by_cases q : i + 1 = (n : Int)
    · rcases g with g | g
      · omega
      · rw [q, g] at h1; omega
    · omega
  have n2 : i + 2 < (n : Int) := by
    by_cases q : i + 2 = (n : Int)
    · rcases g with g | g
      · omega
      · rw [q, g] at h2; omega
    · omega
  unfold pCd
  rw [gl_take, if_pos i0.2.1, gl_take, if_pos n1, gl_take, if_pos n2, if_pos ⟨e, h1, h2⟩]; omega
/-- cut behind a sign that is no code's -/
theorem cdk_take2 {L : List Int} (h : cdk L) {n : Nat} (g : n = 0 ∨ (pHex (gl L (n - 1)) = -1 ∧ gl L (n - 1) ≠ 37)) : cdk (L.take n) := fun i e => by
  have i0 : 0 ≤ i ∧ i < (n : Int) ∧ i < L.length := by
    rw [gl_take] at e
    by_cases c : i < (n : Int)
    · rw [if_pos c] at e
      by_cases d : 0 ≤ i ∧ i < L.length
      · exact ⟨d.1, c, d.2⟩
      · rw [gl_out (by omega)] at e; cases e
    · rw [if_neg c] at e; cases e
  rw [gl_take, if_pos i0.2.1] at e
  obtain ⟨c1, c2, h1, h2⟩ := cdk_in h e
  have g := g.resolve_left (by omega)
  have n0 : i ≠ (n : Int) - 1 := fun q => g.2 (by rw [← q]; exact e)
  have n1 : i + 1 ≠ (n : Int) - 1 := fun q => by rw [q, g.1] at h1; omega
  have n2 : i + 2 ≠ (n : Int) - 1 := fun q => by rw [q, g.1] at h2; omega
  unfold pCd
  rw [gl_take, if_pos i0.2.1, gl_take, if_pos (show i + 1 < (n : Int) by omega), gl_take, if_pos (show i + 2 < (n : Int) by omega), if_pos ⟨e, h1, h2⟩]; omega
/-- signs and codes of a part's text -/
def okT (k : Int) (X : List Int) : Prop := (∀ i : Int, 0 ≤ i → i < X.length → pMayC k (gl X i) = 1) ∧ cdk X
theorem okT_nil (k : Int) : okT k [] := ⟨fun i h0 h1 => by simp only [List.length_nil] at h1; omega, cdk_nil⟩
theorem okT_app {k : Int} {A B : List Int} (h : okT k A) (g : okT k B) : okT k (A ++ B) := ⟨fun i h0 h1 => by
  rw [List.length_append] at h1
  rw [gl_app]
  split
  · exact h.1 i h0 (by omega)
  · exact g.1 _ (by omega) (by omega), cdk_app h.2 g.2⟩
theorem okT_47 : okT 4 [47] := ⟨fun i h0 h1 => by
  simp only [List.length_cons, List.length_nil] at h1
  rw [show i = 0 by omega]; decide, cdk_47⟩
theorem okT_drop {k : Int} {L : List Int} (h : okT k L) (n : Nat) : okT k (L.drop n) := ⟨fun i h0 h1 => by
  rw [List.length_drop] at h1
  rw [gl_drop, if_neg (by omega)]; exact h.1 _ (by omega) (by omega), cdk_drop h.2 n⟩
theorem okT_take {k : Int} {L : List Int} (h : okT k L) {n : Nat} (g : cdk (L.take n)) : okT k (L.take n) := ⟨fun i h0 h1 => by
  rw [List.length_take] at h1
  rw [gl_take, if_pos (by omega)]; exact h.1 _ h0 (by omega), g⟩
theorem okT_sub {k : Int} {L : List Int} (h : okT k L) {f t : Int} (hf : 0 ≤ f) (hft : f ≤ t) (g : (L.length : Int) ≤ t ∨ gl L t = 47) : okT k (sub L f t) := by
  unfold sub
  refine okT_take (okT_drop h f.toNat) (cdk_take (cdk_drop h.2 _) ?_)
  rcases g with g | g
  · exact Or.inl (by rw [List.length_drop]; omega)
  · refine Or.inr ?_
    rw [gl_drop, if_neg (by omega), show ((t - f).toNat : Int) + (f.toNat : Int) = t by omega, g]; decide
theorem mdA_mem (L : List Int) : ∀ (m : Nat) (s o : Int) (S : List (Int × Int)), 0 ≤ s → (∀ p, p ∈ S → 0 ≤ p.1 ∧ p.1 ≤ p.2 ∧ (p.2 = L.length ∨ gl L p.2 = 47)) → ∀ p, p ∈ (mdA L m s S o).1 → 0 ≤ p.1 ∧ p.1 ≤ p.2 ∧ (p.2 = L.length ∨ gl L p.2 = 47) := by
  intro m
  induction m with
  | zero => intro s o S h0 hS p hp; exact hS p hp
  | succ m ih =>
    intro s o S h0 hS p hp
    rw [mdA] at hp
    by_cases c : (L.length : Int) < s
    · rw [if_pos c] at hp; exact hS p hp
    · rw [if_neg c] at hp
      have re := (cfn_r (gl L) 47 s L.length).1 (by omega)
      refine ih _ _ _ (by omega) (fun q hq => ?_) p hp
      split at hq
      · exact hS q (List.dropLast_subset S hq)
      · split at hq
        · exact hS q hq
        · rcases List.mem_append.mp hq with w | w
          · exact hS q w
          · rw [List.mem_singleton.mp w]
            refine ⟨h0, re.1, ?_⟩
            by_cases d : cfn (gl L) 47 s L.length < L.length
            · exact Or.inr (cfn_hit2 (by omega) d)
            · exact Or.inl (by show cfn (gl L) 47 s L.length = _; omega)
theorem sgT_ok {L : List Int} (h : okT 4 L) (o : Int) : ∀ S : List (Int × Int), (∀ p, p ∈ S → 0 ≤ p.1 ∧ p.1 ≤ p.2 ∧ (p.2 = L.length ∨ gl L p.2 = 47)) → okT 4 (sgT L o S) := by
  intro S
  induction S with
  | nil => intro _; exact okT_nil 4
  | cons p S ih =>
    intro hS
    obtain ⟨f, t⟩ := p
    have hp := hS (f, t) (List.mem_cons_self)
    show okT 4 (sub L f t ++ ((if S.length = 0 ∧ o ≠ 0 then [] else [47]) ++ sgT L o S))
    refine okT_app (okT_sub h hp.1 hp.2.1 (hp.2.2.elim (fun w => Or.inl (by omega)) Or.inr)) (okT_app ?_ (ih (fun q hq => hS q (List.mem_cons_of_mem _ hq))))
    split
    · exact okT_nil 4
    · exact okT_47
theorem rdots_ok {L : List Int} (h : okT 4 L) : okT 4 (rdots L) := by
  rw [← mdt_dots]
  unfold mdt
  refine okT_app ?_ (sgT_ok h _ _ (mdA_mem L _ _ _ [] (by unfold mab; split <;> decide) (fun p hp => absurd hp (List.not_mem_nil))))
  split
  · exact okT_nil 4
  · exact okT_47
theorem rdots_47 {L : List Int} (h : gl L 0 = 47) : gl (rdots L) 0 = 47 := by
  rw [← mdt_dots]
  unfold mdt
  rw [show mab L = 1 by unfold mab; rw [if_pos h], if_neg (by decide)]
  rfl
theorem rdots_nil : rdots [] = [] := by
  have := rdots_len []
  exact List.length_eq_zero_iff.mp (by simp only [List.length_nil] at this; omega)
theorem mrg_ok {B : Nat → List Int × Int} {L : List Int} (h : okT 4 (B 4).1) (g : okT 4 L) : okT 4 (mrg B L) := by
  unfold mrg
  refine okT_app (okT_take h (cdk_take2 h.2 ?_)) (okT_app ?_ g)
  · have fr := fli_hit (f := gl (B 4).1) (b := 47) (a := 0) _ ((B 4).1.length - 1) rfl
    rcases fr with w | ⟨w, w1, w2⟩
    · exact Or.inl (by rw [w]; rfl)
    · refine Or.inr ?_
      rw [show (((fli (gl (B 4).1) 47 0 ((B 4).1.length - 1) + 1).toNat : Nat) : Int) - 1 = fli (gl (B 4).1) 47 0 ((B 4).1.length - 1) by omega, w]; decide
  · split
    · exact okT_47
    · exact okT_nil 4
/-- a path that is guarded -/
theorem okT_guard {X : List Int} (h : okT 4 X) : okT 4 (47 :: 46 :: X) := by
  have e : okT 4 [47, 46] := ⟨fun i h0 h1 => by
    simp only [List.length_cons, List.length_nil] at h1
    rcases (by omega : i = 0 ∨ i = 1) with w | w <;> subst w <;> decide, cdk_nc (nc_cons (by decide) (nc_cons (by decide) (nc_nil (by decide))))⟩
  exact okT_app e h
/-- what pgd keeps -/
theorem Fl_pup4 {Q : Nat → List Int × Int} (F : Fl Q) {X : List Int × Int} (h : X.2 = 1) : Fl (pup Q 4 X) := by
  have e : ∀ k, k ≠ 4 → pup Q 4 X k = Q k := fun k hk => by unfold pup; rw [if_neg hk]
  have e4 : pup Q 4 X 4 = X := pup_at Q 4 X
  refine ⟨fun k hk => ?_, fun k hk hz => ?_, by rw [e4]; exact h, fun hz => ?_, fun hz => ?_⟩
  · by_cases c : k = 4
    · subst c; rw [e4]; exact Or.inr h
    · rw [e k c]; exact F.1 k hk
  · by_cases c : k = 4
    · subst c; rw [e4] at hz; omega
    · rw [e k c] at hz ⊢; exact F.2.1 k hk hz
  · rw [e 2 (by decide)] at hz; rw [e 1 (by decide)]; exact F.2.2.2.1 hz
  · rw [e 2 (by decide)] at hz; rw [e 3 (by decide)]; exact F.2.2.2.2 hz
theorem Va_pup4 {Q : Nat → List Int × Int} (V : Va Q) {X : List Int × Int} (h : okT 4 X.1) : Va (pup Q 4 X) := by
  have e : ∀ k, k ≠ 4 → pup Q 4 X k = Q k := fun k hk => by unfold pup; rw [if_neg hk]
  have e4 : pup Q 4 X 4 = X := pup_at Q 4 X
  refine ⟨by rw [e 0 (by decide)]; exact V.1, fun k hk => ?_, by rw [e 2 (by decide)]; exact V.2.2.1, by rw [e 3 (by decide)]; exact V.2.2.2⟩
  by_cases c : k = 4
  · subst c; rw [e4]; exact h
  · rw [e k c]; exact V.2.1 k hk
theorem pgd_good {Q : Nat → List Int × Int} (F : Fl Q) (V : Va Q) (h1 : (Q 2).2 = 1 → (Q 4).1 = [] ∨ gl (Q 4).1 0 = 47) (h3 : (Q 0).2 = 0 → (Q 2).2 = 0 → cfn (gl (pgd Q 4).1) 58 0 (cfn (gl (pgd Q 4).1) 47 0 (pgd Q 4).1.length) = cfn (gl (pgd Q 4).1) 47 0 (pgd Q 4).1.length) : Good (pgd Q) := by
  have o := pgd_o Q
  have f4 := F.2.2.1
  refine ⟨?_, ⟨fun h => ?_, fun h w => ?_, fun h0 h2 => ?_⟩, ?_⟩
  · unfold pgd; split
    · exact Fl_pup4 F f4
    · exact F
  · rw [o 2 (by decide)] at h
    have : pgd Q = Q := by unfold pgd; rw [if_neg (fun w => by have := w.1; omega)]
    rw [this]; exact h1 h
  · rw [o 2 (by decide)] at h
    unfold pgd at w
    by_cases c : (Q 2).2 = 0 ∧ gl (Q 4).1 0 = 47 ∧ gl (Q 4).1 1 = 47
    · rw [if_pos c, pup_at] at w
      have := w.2
      rw [show gl (47 :: 46 :: (Q 4).1, (Q 4).2).1 1 = 46 from rfl] at this
      cases this
    · rw [if_neg c] at w; exact c ⟨h, w⟩
  · rw [o 0 (by decide)] at h0; rw [o 2 (by decide)] at h2; exact h3 h0 h2
  · unfold pgd; split
    · exact Va_pup4 V (okT_guard (V.2.1 4 (Or.inr (Or.inl rfl))))
    · exact V
