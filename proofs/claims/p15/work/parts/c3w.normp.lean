set_option maxRecDepth 16384
/-! normalising: what stays right -/
theorem pCd_cons0 (b : Int) (X : List Int) : pCd (gl (b :: X)) 0 = if b = 37 ∧ 0 ≤ pHex (gl X 0) ∧ 0 ≤ pHex (gl X 1) then 16 * pHex (gl X 0) + pHex (gl X 1) else -1 := rfl
theorem cdk_tl {b : Int} {X : List Int} (h : cdk (b :: X)) : cdk X := cdk_drop h 1
theorem cdk_37 {X : List Int} (h : cdk (37 :: X)) : ∃ a c Y, X = a :: c :: Y ∧ 0 ≤ pHex a ∧ 0 ≤ pHex c ∧ cdk Y := by
  obtain ⟨-, l, h1, h2⟩ := cdk_in h (i := 0) rfl
  match X, l, h1, h2, h with
  | [], l, _, _, _ => simp only [List.length_cons, List.length_nil] at l; omega
  | [a], l, _, _, _ => simp only [List.length_cons, List.length_nil] at l; omega
  | a :: c :: Y, _, h1, h2, h => exact ⟨a, c, Y, rfl, h1, h2, cdk_tl (cdk_tl (cdk_tl h))⟩
theorem cdk_rec {P : List Int → Prop} (h0 : P []) (h1 : ∀ b X, b ≠ 37 → cdk X → P X → P (b :: X)) (h2 : ∀ a c X, 0 ≤ pHex a → 0 ≤ pHex c → cdk X → P X → P (37 :: a :: c :: X)) : ∀ X, cdk X → P X := by
  have key : ∀ (n : Nat) (X : List Int), X.length ≤ n → cdk X → P X := by
    intro n
    induction n with
    | zero =>
      intro X hX _
      have e : X = [] := List.length_eq_zero_iff.mp (by omega)
      rw [e]; exact h0
    | succ n ih =>
      intro X hX hc
      cases X with
      | nil => exact h0
      | cons b X =>
        rw [List.length_cons] at hX
        by_cases c : b = 37
        · subst c
          obtain ⟨a, x, Y, e, p1, p2, p3⟩ := cdk_37 hc
          subst e
          simp only [List.length_cons] at hX
          exact h2 a x Y p1 p2 p3 (ih Y (by omega) p3)
        · exact h1 b X c (cdk_tl hc) (ih X (by omega) (cdk_tl hc))
  exact fun X hc => key X.length X (Nat.le_refl _) hc
theorem hex_n37 {c : Int} (h : 0 ≤ pHex c) : c ≠ 37 := fun e => by rw [e] at h; exact absurd h (by decide)
theorem hex_grt {c : Int} (h : 0 ≤ pHex c) : 0 ≤ pHex (grt c) ∧ grt c ≠ 37 := by
  refine ⟨?_, (cdg_hex h).2⟩
  unfold pHex at h
  unfold grt
  by_cases a : 48 ≤ c ∧ c ≤ 57
  · rw [if_neg (by omega)]; unfold pHex; rw [if_pos a]; omega
  · rw [if_neg a] at h
    by_cases b : 97 ≤ c ∧ c ≤ 102
    · rw [if_pos (by omega)]; unfold pHex; rw [if_neg (by omega), if_neg (by omega), if_pos (by omega)]; omega
    · rw [if_neg b] at h
      by_cases d : 65 ≤ c ∧ c ≤ 70
      · rw [if_neg (by omega)]; unfold pHex; rw [if_neg a, if_neg b, if_pos d]; omega
      · rw [if_neg d] at h; omega
/-- letters great and codes freed, sign by sign -/
theorem gco_b {b : Int} {X : List Int} (h : b ≠ 37) : gco (b :: X) = b :: gco X := by rw [gco_cons, if_neg h]
theorem gco_37 {a c : Int} {X : List Int} (h1 : 0 ≤ pHex a) (h2 : 0 ≤ pHex c) : gco (37 :: a :: c :: X) = 37 :: grt a :: grt c :: gco X := by
  rw [gco_cons, if_pos rfl, show up2 (a :: c :: X) = grt a :: grt c :: X from rfl, gco_b (hex_grt h1).2, gco_b (hex_grt h2).2]
theorem fre_nil : fre [] = [] := rfl
theorem fre_b {b : Int} {X : List Int} (h : b ≠ 37) : fre (b :: X) = b :: fre X := by
  have e : pCd (gl (b :: X)) 0 = -1 := by
    rw [pCd_cons0]; exact if_neg (fun w => h w.1)
  rw [fre_cons, e, if_neg (by decide)]
theorem fre_37 {a c : Int} {X : List Int} (h1 : 0 ≤ pHex a) (h2 : 0 ≤ pHex c) : fre (37 :: a :: c :: X) = if pFree (16 * pHex a + pHex c) = 1 then (16 * pHex a + pHex c) :: fre X else 37 :: a :: c :: fre X := by
  have e : pCd (gl (37 :: a :: c :: X)) 0 = 16 * pHex a + pHex c := by
    rw [pCd_cons0]; exact if_pos ⟨rfl, h1, h2⟩
  rw [fre_cons, e]
  by_cases w : pFree (16 * pHex a + pHex c) = 1
  · rw [if_pos w, if_pos w]; rfl
  · rw [if_neg w, if_neg w, fre_b (hex_n37 h1), fre_b (hex_n37 h2)]
theorem free_no {v : Int} (h : pFree v = 1) : v ≠ 37 ∧ v ≠ 47 ∧ v ≠ 58 ∧ v ≠ 91 ∧ v ≠ 93 := by
  refine ⟨?_, ?_, ?_, ?_, ?_⟩ <;> (intro e; rw [e] at h; exact absurd h (by decide))
theorem free_may {k v : Int} (hk : k ≠ 3) (h : pFree v = 1) : pMayC k v = 1 := by unfold pMayC; rw [if_neg hk, if_pos (Or.inl h)]
theorem okT_c1 {k b : Int} {X : List Int} (hb : b ≠ 37) (hm : pMayC k b = 1) (h : okT k X) : okT k (b :: X) := by
  have e : okT k [b] := ⟨fun i h0 h1 => by
    simp only [List.length_cons, List.length_nil] at h1
    rw [show i = 0 by omega]; exact hm, cdk_nc (nc_cons hb (nc_nil (by decide)))⟩
  exact okT_app e h
theorem okT_c2 {k a c : Int} {X : List Int} (hk : k ≠ 3) (h1 : 0 ≤ pHex a) (h2 : 0 ≤ pHex c) (h : okT k X) : okT k (37 :: a :: c :: X) := by
  have e : okT k [37, a, c] := ⟨fun i i0 i1 => by
    simp only [List.length_cons, List.length_nil] at i1
    rcases (by omega : i = 0 ∨ i = 1 ∨ i = 2) with w | w | w <;> subst w
    · exact pMay_c hk
    · exact pMay_hex hk h1
    · exact pMay_hex hk h2, fun i e => by
    have i1 : i = 0 := by
      by_cases c0 : 0 ≤ i ∧ i < 3
      · rcases (by omega : i = 0 ∨ i = 1 ∨ i = 2) with w | w | w
        · exact w
        · subst w; exact absurd e (hex_n37 h1)
        · subst w; exact absurd e (hex_n37 h2)
      · rw [gl_out (by simp only [List.length_cons, List.length_nil]; omega)] at e; cases e
    subst i1
    rw [pCd_cons0, if_pos ⟨rfl, h1, h2⟩]
    show 16 * pHex a + pHex c ≠ -1
    omega⟩
  exact okT_app e h
theorem okT_hd {k b : Int} {X : List Int} (h : okT k (b :: X)) : pMayC k b = 1 ∧ okT k X := ⟨h.1 0 (Int.le_refl 0) (by rw [List.length_cons]; omega), okT_drop h 1⟩
theorem okT_gco {k : Int} (hk : k ≠ 3) : ∀ X, cdk X → (okT k X → okT k (gco X)) := by
  refine cdk_rec (P := fun X => okT k X → okT k (gco X)) (fun h => h) (fun b X hb _ ih h => ?_) (fun a c X h1 h2 _ ih h => ?_)
  · rw [gco_b hb]; exact okT_c1 hb (okT_hd h).1 (ih (okT_hd h).2)
  · rw [gco_37 h1 h2]; exact okT_c2 hk (hex_grt h1).1 (hex_grt h2).1 (ih (okT_hd (okT_hd (okT_hd h).2).2).2)
theorem okT_fre {k : Int} (hk : k ≠ 3) : ∀ X, cdk X → (okT k X → okT k (fre X)) := by
  refine cdk_rec (P := fun X => okT k X → okT k (fre X)) (fun h => h) (fun b X hb _ ih h => ?_) (fun a c X h1 h2 _ ih h => ?_)
  · rw [fre_b hb]; exact okT_c1 hb (okT_hd h).1 (ih (okT_hd h).2)
  · rw [fre_37 h1 h2]
    have t := ih (okT_hd (okT_hd (okT_hd h).2).2).2
    by_cases w : pFree (16 * pHex a + pHex c) = 1
    · rw [if_pos w]; exact okT_c1 (free_no w).1 (free_may hk w) t
    · rw [if_neg w]; exact okT_c2 hk h1 h2 t
theorem gco_n37 : ∀ X : List Int, nc 37 X → gco X = X := by
  intro X
  induction X with
  | nil => intro _; rfl
  | cons b X ih =>
    intro h
    have hb : b ≠ 37 := h 0
    rw [gco_b hb, ih (fun i => by
      by_cases c : 0 ≤ i
      · have := h (i + 1); rw [gl_cons, if_neg (by omega), show i + 1 - 1 = i by omega] at this; exact this
      · rw [gl_out (Or.inl (by omega))]; decide)]
theorem fre_n37 : ∀ X : List Int, nc 37 X → fre X = X := by
  intro X
  induction X with
  | nil => intro _; rfl
  | cons b X ih =>
    intro h
    have hb : b ≠ 37 := h 0
    rw [fre_b hb, ih (fun i => by
      by_cases c : 0 ≤ i
      · have := h (i + 1); rw [gl_cons, if_neg (by omega), show i + 1 - 1 = i by omega] at this; exact this
      · rw [gl_out (Or.inl (by omega))]; decide)]
/-- no colon ahead of the first / -/
def nq : List Int → Prop
  | [] => True
  | b :: X => b = 47 ∨ (b ≠ 58 ∧ nq X)
theorem gl_tl (b : Int) (X : List Int) (k : Int) (h : 0 ≤ k) : gl (b :: X) (k + 1) = gl X k := by rw [gl_cons, if_neg (by omega), show k + 1 - 1 = k by omega]
theorem cfn_tl (b c : Int) (X : List Int) (e : Int) (he : 0 ≤ e) : cfn (gl (b :: X)) c 1 (e + 1) = cfn (gl X) c 0 e + 1 := by
  have := cfn_cg (f := gl X) (g := gl (b :: X)) (b := c) _ 0 e 1 rfl (fun j h1 h2 => (gl_tl b X j h1).symm)
  rw [Int.zero_add] at this; exact this
theorem nq_iff : ∀ X : List Int, nq X ↔ cfn (gl X) 58 0 (cfn (gl X) 47 0 X.length) = cfn (gl X) 47 0 X.length := by
  intro X
  induction X with
  | nil => exact ⟨fun _ => rfl, fun _ => trivial⟩
  | cons b X ih =>
    have l : (((b :: X).length : Nat) : Int) = (X.length : Int) + 1 := by rw [List.length_cons]; omega
    have s47 := (cfn_st (gl (b :: X)) 47 0 ((b :: X).length : Int)).2 (by omega)
    have g0 : gl (b :: X) 0 = b := rfl
    rw [g0] at s47
    show (b = 47 ∨ (b ≠ 58 ∧ nq X)) ↔ _
    by_cases c : b = 47
    · rw [s47.1 c, (cfn_st _ 58 0 0).1 (Int.le_refl 0)]
      exact ⟨fun _ => rfl, fun _ => Or.inl c⟩
    · have e47 : cfn (gl (b :: X)) 47 0 ((b :: X).length : Int) = cfn (gl X) 47 0 X.length + 1 := by
        rw [s47.2 c, l]; exact cfn_tl b 47 X X.length (by omega)
      have r := (cfn_r (gl X) 47 0 X.length).1 (by omega)
      have s58 := (cfn_st (gl (b :: X)) 58 0 (cfn (gl X) 47 0 X.length + 1)).2 (by omega)
      rw [g0] at s58
      rw [e47]
      by_cases d : b = 58
      · rw [s58.1 d]
        exact ⟨fun w => w.elim (fun z => absurd z c) (fun z => absurd d z.1), fun w => by omega⟩
      · rw [s58.2 d, show (0 : Int) + 1 = 1 from rfl, cfn_tl b 58 X _ r.1]
        rw [ih]
        exact ⟨fun w => by
          have := (w.resolve_left c).2; omega, fun w => Or.inr ⟨d, by omega⟩⟩
theorem nq_gco : ∀ X, cdk X → (nq X → nq (gco X)) := by
  refine cdk_rec (P := fun X => nq X → nq (gco X)) (fun h => h) (fun b X hb _ ih h => ?_) (fun a c X h1 h2 _ ih h => ?_)
  · rw [gco_b hb]; exact h.elim Or.inl (fun w => Or.inr ⟨w.1, ih w.2⟩)
  · rw [gco_37 h1 h2]
    have n : ∀ x : Int, 0 ≤ pHex x → x ≠ 47 ∧ x ≠ 58 := fun x hx => ⟨fun e => by rw [e] at hx; exact absurd hx (by decide), fun e => by rw [e] at hx; exact absurd hx (by decide)⟩
    have ga := n _ (hex_grt h1).1
    have gc := n _ (hex_grt h2).1
    have h3 := ((h.resolve_left (by decide)).2.resolve_left (n a h1).1).2.resolve_left (n c h2).1
    exact Or.inr ⟨by decide, Or.inr ⟨ga.2, Or.inr ⟨gc.2, ih h3.2⟩⟩⟩
theorem nq_fre : ∀ X, cdk X → (nq X → nq (fre X)) := by
  refine cdk_rec (P := fun X => nq X → nq (fre X)) (fun h => h) (fun b X hb _ ih h => ?_) (fun a c X h1 h2 _ ih h => ?_)
  · rw [fre_b hb]; exact h.elim Or.inl (fun w => Or.inr ⟨w.1, ih w.2⟩)
  · rw [fre_37 h1 h2]
    have n : ∀ x : Int, 0 ≤ pHex x → x ≠ 47 ∧ x ≠ 58 := fun x hx => ⟨fun e => by rw [e] at hx; exact absurd hx (by decide), fun e => by rw [e] at hx; exact absurd hx (by decide)⟩
    have h3 := ((h.resolve_left (by decide)).2.resolve_left (n a h1).1).2.resolve_left (n c h2).1
    by_cases w : pFree (16 * pHex a + pHex c) = 1
    · rw [if_pos w]; exact Or.inr ⟨(free_no w).2.2.1, ih h3.2⟩
    · rw [if_neg w]; exact Or.inr ⟨by decide, Or.inr ⟨(n a h1).2, Or.inr ⟨(n c h2).2, ih h3.2⟩⟩⟩
/-- what a path begins with -/
theorem hd_47 {X : List Int} (h : gl X 0 = 47) : ∃ Y, X = 47 :: Y := by
  cases X with
  | nil => cases h
  | cons b X => exact ⟨X, by rw [show b = 47 from h]⟩
theorem gco_hd {X : List Int} (h : cdk X) : (gl (gco X) 0 = gl X 0) := by
  cases X with
  | nil => rfl
  | cons b X =>
    by_cases c : b = 37
    · subst c
      obtain ⟨a, x, Y, e, p1, p2, -⟩ := cdk_37 h
      rw [e, gco_37 p1 p2]; rfl
    · rw [gco_b c]; rfl
theorem fre_hd {X : List Int} (h : cdk X) : (gl (fre X) 0 = 47 ↔ gl X 0 = 47) := by
  cases X with
  | nil => exact Iff.rfl
  | cons b X =>
    by_cases c : b = 37
    · subst c
      obtain ⟨a, x, Y, e, p1, p2, -⟩ := cdk_37 h
      rw [e, fre_37 p1 p2]
      refine ⟨fun w => ?_, fun w => absurd (show (37 : Int) = 47 from w) (by decide)⟩
      exfalso
      by_cases q : pFree (16 * pHex a + pHex x) = 1
      · rw [if_pos q] at w; exact (free_no q).2.1 w
      · rw [if_neg q] at w; exact absurd (show (37 : Int) = 47 from w) (by decide)
    · rw [fre_b c]; exact Iff.rfl
theorem two_47 {X : List Int} (h : gl X 0 = 47 ∧ gl X 1 = 47) : ∃ Y, X = 47 :: Y ∧ gl Y 0 = 47 := by
  obtain ⟨Y, e⟩ := hd_47 h.1
  refine ⟨Y, e, ?_⟩
  have := h.2
  rw [e] at this; exact this
/-- small letters -/
theorem gl_map (φ : Int → Int) (hφ : φ (-1) = -1) (X : List Int) (i : Int) : gl (X.map φ) i = φ (gl X i) := by
  by_cases c : 0 ≤ i ∧ i < X.length
  · rw [gl_in c.1 (by rw [List.length_map]; exact c.2), gl_in c.1 c.2, List.getD_eq_getElem?_getD, List.getD_eq_getElem?_getD, List.getElem?_map, List.getElem?_eq_getElem (by omega)]; rfl
  · rw [gl_out (by rw [List.length_map]; omega), gl_out (by omega), hφ]
theorem sml_m1 : sml (-1) = -1 := by decide
theorem sml_hex (c : Int) : pHex (sml c) = pHex c := by
  unfold sml
  by_cases a : 65 ≤ c ∧ c ≤ 90
  · rw [if_pos a]
    unfold pHex
    rw [if_neg (by omega), if_neg (c := 48 ≤ c ∧ c ≤ 57) (by omega), if_neg (c := 97 ≤ c ∧ c ≤ 102) (by omega)]
    by_cases b : c ≤ 70
    · rw [if_pos (by omega), if_pos (by omega)]; omega
    · rw [if_neg (by omega), if_neg (by omega), if_neg (by omega)]
  · rw [if_neg a]
theorem sml_37 (c : Int) : sml c = 37 ↔ c = 37 := by unfold sml; split <;> omega
theorem cdk_sml {X : List Int} (h : cdk X) : cdk (X.map sml) := fun i e => by
  rw [gl_map sml sml_m1, sml_37] at e
  have k := h i e
  unfold pCd at k ⊢
  rw [gl_map sml sml_m1, gl_map sml sml_m1, gl_map sml sml_m1, sml_hex, sml_hex]
  by_cases c : gl X i = 37 ∧ 0 ≤ pHex (gl X (i + 1)) ∧ 0 ≤ pHex (gl X (i + 2))
  · rw [if_pos c] at k; rw [if_pos ⟨(sml_37 _).mpr c.1, c.2⟩]; exact k
  · rw [if_neg c] at k; exact absurd rfl k
theorem sml_let {c : Int} (h : pLet c = 1) : pLet (sml c) = 1 := by
  unfold sml
  by_cases a : 65 ≤ c ∧ c ≤ 90
  · rw [if_pos a]; unfold pLet; rw [if_pos (by omega)]
  · rw [if_neg a]; exact h
theorem sml_no {c : Int} (h : pLet c ≠ 1) : sml c = c := by
  unfold sml
  rw [if_neg (fun w => h (by unfold pLet; rw [if_pos (Or.inl w)]))]
theorem sml_may {k c : Int} (hk : k ≠ 3) (h : pMayC k c = 1) : pMayC k (sml c) = 1 := by
  by_cases l : pLet c = 1
  · exact free_may hk (by unfold pFree; rw [if_pos (Or.inl (sml_let l))])
  · rw [sml_no l]; exact h
theorem sml_eq {b : Int} (hb : ¬ (97 ≤ b ∧ b ≤ 122) ∧ ¬ (65 ≤ b ∧ b ≤ 90)) (c : Int) : sml c = b ↔ c = b := by unfold sml; split <;> omega
/-- an address stays one where its letters are small -/
theorem sml_F (X : List Int) {a e : Int} : cF (gl (X.map sml)) a e ↔ cF (gl X) a e := by
  have c46 : ∀ k, cfn (gl (X.map sml)) 46 k e = cfn (gl X) 46 k e := fun k => by
    have key : ∀ (n : Nat) (k : Int), (e - k).toNat = n → cfn (gl (X.map sml)) 46 k e = cfn (gl X) 46 k e := by
      intro n
      induction n with
      | zero => intro k hn; rw [(cfn_st _ _ _ _).1 (by omega), (cfn_st _ _ _ _).1 (by omega)]
      | succ n ih =>
        intro k hn
        have s1 := (cfn_st (gl (X.map sml)) 46 k e).2 (by omega)
        have s2 := (cfn_st (gl X) 46 k e).2 (by omega)
        have q := sml_eq (b := 46) (by decide) (gl X k)
        rw [gl_map sml sml_m1] at s1
        by_cases c : gl X k = 46
        · rw [s1.1 (q.mpr c), s2.1 c]
        · rw [s1.2 (fun w => c (q.mp w)), s2.2 c, ih _ (by omega)]
    exact key _ k rfl
  have dig : ∀ c, pDig c = 1 → sml c = c := fun c h => sml_no (fun w => by
    unfold pDig at h; unfold pLet at w
    split at h
    · split at w
      · omega
      · exact absurd w (by decide)
    · exact absurd h (by decide))
  have dig2 : ∀ c, pDig (sml c) = 1 → sml c = c := fun c h => by
    unfold sml at h ⊢
    by_cases a : 65 ≤ c ∧ c ≤ 90
    · rw [if_pos a] at h; unfold pDig at h; rw [if_neg (by omega)] at h; exact absurd h (by decide)
    · rw [if_neg a]
  have cn : ∀ x y, cN (gl (X.map sml)) x y ↔ cN (gl X) x y := fun x y => by
    have al : pAll pDig (gl (X.map sml)) x y ↔ pAll pDig (gl X) x y := by
      unfold pAll
      constructor
      · intro w j h1 h2
        have := w j h1 h2
        rw [gl_map sml sml_m1] at this
        rw [dig2 _ this] at this; exact this
      · intro w j h1 h2
        rw [gl_map sml sml_m1, dig _ (w j h1 h2)]; exact w j h1 h2
    have sh := cN_sh (f := gl (X.map sml)) (g := gl X) (d := 0) (k := x) (e := y)
    rw [Int.add_zero, Int.add_zero] at sh
    constructor
    · intro w
      exact (sh (fun j h1 h2 => by
        have := w.2.2.2.1 j h1 h2
        rw [gl_map sml sml_m1] at this
        rw [gl_map sml sml_m1, Int.add_zero]; exact dig2 _ this)).mpr w
    · intro w
      exact (sh (fun j h1 h2 => by
        have := w.2.2.2.1 j h1 h2
        rw [gl_map sml sml_m1, Int.add_zero]; exact dig _ this)).mp w
  unfold cF
  rw [c46, c46, c46, cn, cn, cn, cn]
theorem sml_fn (X : List Int) {b : Int} (hb : ¬ (97 ≤ b ∧ b ≤ 122) ∧ ¬ (65 ≤ b ∧ b ≤ 90)) (k e : Int) : fn (gl (X.map sml)) b k e = fn (gl X) b k e := by
  have key : ∀ (n : Nat) (k : Int), (e - k).toNat = n → fn (gl (X.map sml)) b k e = fn (gl X) b k e := by
    intro n
    induction n with
    | zero => intro k hn; rw [(fn_st _ _ _ _).1 (by omega), (fn_st _ _ _ _).1 (by omega)]
    | succ n ih =>
      intro k hn
      have s1 := (fn_st (gl (X.map sml)) b k e).2 (by omega)
      have s2 := (fn_st (gl X) b k e).2 (by omega)
      have q := sml_eq hb (gl X k)
      rw [gl_map sml sml_m1] at s1
      by_cases c : gl X k = b
      · rw [s1.1 (q.mpr c), s2.1 c]
      · rw [s1.2 (fun w => c (q.mp w)), s2.2 c, ih _ (by omega)]
  exact key _ k rfl
theorem sml_G (X : List Int) (e k : Int) : isG (gl (X.map sml)) e k ↔ isG (gl X) e k := by
  unfold isG
  rw [gl_map sml sml_m1, gl_map sml sml_m1, sml_eq (b := 58) (by decide), sml_eq (b := 58) (by decide)]
theorem sml_pHx (c : Int) : pHx (sml c) = pHx c := by unfold pHx; rw [sml_hex]
theorem sml_pG (X : List Int) (a e : Int) : pG (gl (X.map sml)) a e ↔ pG (gl X) a e := by
  unfold pG pAll
  have al : (∀ k, a ≤ k → k < e → pHx (gl (X.map sml) k) = 1) ↔ (∀ k, a ≤ k → k < e → pHx (gl X k) = 1) := forall_congr' (fun k => by rw [gl_map sml sml_m1, sml_pHx])
  rw [al]
theorem sml_S (X : List Int) (e : Int) : ∀ (n : Nat) (i c : Int) (G : Prop), cS (gl (X.map sml)) e n i c G ↔ cS (gl X) e n i c G := by
  intro n
  induction n with
  | zero => intro i c G; exact Iff.rfl
  | succ n ih =>
    intro i c G
    rw [cS, cS, sml_fn X (b := 58) (by decide)]
    refine or_congr Iff.rfl (and_congr Iff.rfl (and_congr Iff.rfl (exists_congr fun c' => and_congr ?_ (and_congr Iff.rfl (and_congr ?_ (and_congr Iff.rfl (or_congr (and_congr (sml_G X e _) (ih _ _ _)) (and_congr (not_congr (sml_G X e _)) (ih _ _ _)))))))))
    · unfold gT
      rw [sml_fn X (b := 58) (by decide), sml_F, sml_pG]
    · exact not_congr (and_congr Iff.rfl (sml_G X e _))
theorem sml_six (X : List Int) (a e : Int) : cSix (gl (X.map sml)) a e ↔ cSix (gl X) a e := by
  unfold cSix
  rw [sml_G, sml_S, sml_S]
theorem sml_pFu {c : Int} (h : pFu c = 1) : pFu (sml c) = 1 := by
  by_cases l : pLet c = 1
  · unfold pFu; rw [if_pos (Or.inl (by unfold pFree; rw [if_pos (Or.inl (sml_let l))]))]
  · rw [sml_no l]; exact h
theorem sml_fut {X : List Int} {a e : Int} (h : cFut (gl X) a e) : cFut (gl (X.map sml)) a e := by
  obtain ⟨h0, h1, h2, h3, h4, h5⟩ := h
  unfold cFut
  rw [sml_fn X (b := 46) (by decide)]
  refine ⟨h0, Or.inl ?_, fun k k1 k2 => ?_, fun k k1 k2 => ?_, h4, h5⟩
  · rw [gl_map sml sml_m1]
    rcases h1 with w | w <;> rw [w] <;> decide
  · rw [gl_map sml sml_m1, sml_pHx]; exact h2 k k1 k2
  · rw [gl_map sml sml_m1]; exact sml_pFu (h3 k k1 k2)
theorem hVa_cdk {H : List Int} (h : hVa H) : cdk H := by
  rcases h with ⟨-, -, c⟩ | ⟨h0, hl, hn, hc, -⟩
  · exact c
  · refine cdk_nc (nc_of (by decide) (fun i g0 g1 e => ?_))
    by_cases c0 : i = 0
    · rw [c0, h0] at e; cases e
    by_cases c1 : i = H.length - 1
    · rw [c1, hn] at e; cases e
    · have := hc i (by omega) (by omega); rw [e] at this; exact absurd this (by decide)
theorem hVa_br {H : List Int} (h0 : gl H 0 = 91) (hl : 2 ≤ H.length) (hn : gl H (H.length - 1) = 93) (hc : ∀ i : Int, 1 ≤ i → i < H.length - 1 → pFu (gl H i) = 1) : nc 37 H := nc_of (by decide) (fun i g0 g1 e => by
  by_cases c0 : i = 0
  · rw [c0, h0] at e; cases e
  by_cases c1 : i = H.length - 1
  · rw [c1, hn] at e; cases e
  · have := hc i (by omega) (by omega); rw [e] at this; exact absurd this (by decide))
theorem hVa_sml {H : List Int} (h : hVa H) : hVa (H.map sml) := by
  rcases h with ⟨h1, h2, h3⟩ | ⟨h0, hl, hn, hc, h6⟩
  · refine Or.inl ⟨fun i e => ?_, fun i i0 i1 => ?_, cdk_sml h3⟩
    · rw [gl_map sml sml_m1] at e; exact h1 i ((sml_eq (b := 91) (by decide) _).mp e)
    · rw [List.length_map] at i1
      rw [gl_map sml sml_m1]; exact sml_may (by decide) (h2 i i0 i1)
  · refine Or.inr ⟨by rw [gl_map sml sml_m1, h0]; decide, by rw [List.length_map]; exact hl, by rw [gl_map sml sml_m1, List.length_map, hn]; decide, fun i i1 i2 => ?_, ?_⟩
    · rw [List.length_map] at i2
      rw [gl_map sml sml_m1]; exact sml_pFu (hc i i1 i2)
    · rw [List.length_map]
      exact h6.elim (fun w => Or.inl ((sml_six H _ _).mpr w)) (fun w => Or.inr (sml_fut w))
theorem hVa_gco {H : List Int} (h : hVa H) : hVa (gco H) := by
  rcases h with ⟨h1, h2, h3⟩ | ⟨h0, hl, hn, hc, h6⟩
  · have k := okT_gco (k := 2) (by decide) H h3 ⟨h2, h3⟩
    exact Or.inl ⟨by
      have key : ∀ X, cdk X → (nc 91 X → nc 91 (gco X)) := by
        refine cdk_rec (P := fun X => nc 91 X → nc 91 (gco X)) (fun h => h) (fun b X hb _ ih h => ?_) (fun a c X p1 p2 _ ih h => ?_)
        · rw [gco_b hb]
          exact nc_cons (h 0) (ih (fun i => by
            by_cases c : 0 ≤ i
            · have := h (i + 1); rw [gl_tl _ _ _ c] at this; exact this
            · rw [gl_out (Or.inl (by omega))]; decide))
        · rw [gco_37 p1 p2]
          have hx : ∀ x : Int, 0 ≤ pHex x → x ≠ 91 := fun x hx e => by rw [e] at hx; exact absurd hx (by decide)
          exact nc_cons (by decide) (nc_cons (hx _ (hex_grt p1).1) (nc_cons (hx _ (hex_grt p2).1) (ih (fun i => by
            by_cases q : 0 ≤ i
            · have := h (i + 1 + 1 + 1); rw [gl_tl _ _ _ (by omega), gl_tl _ _ _ (by omega), gl_tl _ _ _ q] at this; exact this
            · rw [gl_out (Or.inl (by omega))]; decide))))
      exact key H h3 h1, k.1, k.2⟩
  · rw [gco_n37 H (hVa_br h0 hl hn hc)]; exact Or.inr ⟨h0, hl, hn, hc, h6⟩
theorem hVa_fre {H : List Int} (h : hVa H) : hVa (fre H) := by
  rcases h with ⟨h1, h2, h3⟩ | ⟨h0, hl, hn, hc, h6⟩
  · have k := okT_fre (k := 2) (by decide) H h3 ⟨h2, h3⟩
    exact Or.inl ⟨by
      have key : ∀ X, cdk X → (nc 91 X → nc 91 (fre X)) := by
        refine cdk_rec (P := fun X => nc 91 X → nc 91 (fre X)) (fun h => h) (fun b X hb _ ih h => ?_) (fun a c X p1 p2 _ ih h => ?_)
        · rw [fre_b hb]
          exact nc_cons (h 0) (ih (fun i => by
            by_cases c : 0 ≤ i
            · have := h (i + 1); rw [gl_tl _ _ _ c] at this; exact this
            · rw [gl_out (Or.inl (by omega))]; decide))
        · rw [fre_37 p1 p2]
          have hx : ∀ x : Int, 0 ≤ pHex x → x ≠ 91 := fun x hx e => by rw [e] at hx; exact absurd hx (by decide)
          have t := ih (fun i => by
            by_cases q : 0 ≤ i
            · have := h (i + 1 + 1 + 1); rw [gl_tl _ _ _ (by omega), gl_tl _ _ _ (by omega), gl_tl _ _ _ q] at this; exact this
            · rw [gl_out (Or.inl (by omega))]; decide)
          by_cases w : pFree (16 * pHex a + pHex c) = 1
          · rw [if_pos w]; exact nc_cons (free_no w).2.2.2.1 t
          · rw [if_neg w]; exact nc_cons (by decide) (nc_cons (hx _ p1) (nc_cons (hx _ p2) t))
      exact key H h3 h1, k.1, k.2⟩
  · rw [fre_n37 H (hVa_br h0 hl hn hc)]; exact Or.inr ⟨h0, hl, hn, hc, h6⟩
theorem port_n37 {Q : Nat → List Int × Int} (V : Va Q) : nc 37 (Q 3).1 := nc_of (by decide) (fun i g0 g1 e => by have := V.2.2.2.1 i g0 g1; rw [e] at this; exact absurd this (by decide))
theorem Va_cdk {Q : Nat → List Int × Int} (V : Va Q) : ∀ k : Nat, 1 ≤ k → k < 7 → cdk (Q k).1 := fun k k1 k7 => by
  rcases (by omega : k = 2 ∨ k = 3 ∨ (k = 1 ∨ k = 4 ∨ k = 5 ∨ k = 6)) with e | e | e
  · subst e; exact hVa_cdk V.2.2.1
  · subst e; exact cdk_nc (port_n37 V)
  · exact (V.2.1 k e).2
theorem Sr_nq {Q : Nat → List Int × Int} (S : Sr Q) : (Q 0).2 = 0 → (Q 2).2 = 0 → nq (Q 4).1 := fun a b => (nq_iff _).mpr (S.2.2 a b)
/-- letters -/
theorem qLet_good {Q : Nat → List Int × Int} (h : Good Q) : Good (qLet Q) := by
  obtain ⟨F, S, V⟩ := h
  have fl : ∀ k, (qLet Q k).2 = (Q k).2 := fun k => rfl
  have e4 : (qLet Q 4).1 = gco (Q 4).1 := rfl
  have e3 : (qLet Q 3).1 = (Q 3).1 := by show gco (Q 3).1 = _; exact gco_n37 _ (port_n37 V)
  have e2 : (qLet Q 2).1 = gco ((Q 2).1.map sml) := rfl
  have e0 : (qLet Q 0).1 = (Q 0).1.map sml := rfl
  have c4 := (V.2.1 4 (Or.inr (Or.inl rfl))).2
  refine ⟨⟨F.1, fun k hk hz => ?_, F.2.2.1, F.2.2.2⟩, ⟨fun hz => ?_, fun hz w => ?_, fun h0 h2 => ?_⟩, ⟨fun hz => ?_, fun k hk => ?_, by rw [e2]; exact hVa_gco (hVa_sml V.2.2.1), by rw [e3]; exact V.2.2.2⟩⟩
  · have z := F.2.1 k hk hz
    have := qLet_l Q k
    rw [z] at this
    exact List.length_eq_zero_iff.mp this
  · rw [e4]
    rcases S.1 hz with w | w
    · rw [w]; exact Or.inl rfl
    · exact Or.inr (by rw [gco_hd c4]; exact w)
  · rw [e4] at w
    obtain ⟨Y, eY, hY⟩ := two_47 w
    have h0 : gl (Q 4).1 0 = 47 := by rw [← gco_hd c4]; exact w.1
    obtain ⟨Z, eZ⟩ := hd_47 h0
    rw [eZ, gco_b (by decide)] at eY
    have eY := (List.cons.inj eY).2
    rw [← eY, gco_hd (by rw [eZ] at c4; exact cdk_tl c4)] at hY
    exact S.2.1 hz (by rw [eZ]; exact ⟨rfl, hY⟩)
  · rw [e4]; exact (nq_iff _).mp (nq_gco _ c4 (Sr_nq S h0 h2))
  · have v := V.1 hz
    rw [e0, List.length_map]
    refine ⟨v.1, fun i i0 i1 => ?_⟩
    have k := v.2 i i0 i1
    unfold sOk at k ⊢
    rw [gl_map sml sml_m1]
    by_cases l : pLet (gl (Q 0).1 i) = 1
    · rw [if_pos (sml_let l)]
    · rw [sml_no l]; exact k
  · have v := V.2.1 k hk
    have e : (qLet Q k).1 = gco (Q k).1 := by
      rcases hk with w | w | w | w <;> subst w <;> rfl
    rw [e]
    exact okT_gco (by omega) _ v.2 v
/-- codes of free signs -/
theorem qFre_good {Q : Nat → List Int × Int} (h : Good Q) : Good (qFre Q) := by
  obtain ⟨F, S, V⟩ := h
  have fl : ∀ k, (qFre Q k).2 = (Q k).2 := fun k => by unfold qFre; split <;> rfl
  have e4 : (qFre Q 4).1 = fre (Q 4).1 := rfl
  have e3 : (qFre Q 3).1 = (Q 3).1 := by show fre (Q 3).1 = _; exact fre_n37 _ (port_n37 V)
  have e2 : (qFre Q 2).1 = fre (Q 2).1 := rfl
  have c4 := (V.2.1 4 (Or.inr (Or.inl rfl))).2
  refine ⟨⟨fun k hk => by rw [fl]; exact F.1 k hk, fun k hk hz => ?_, by rw [fl]; exact F.2.2.1, fun hz => by rw [fl] at hz ⊢; exact F.2.2.2.1 hz, fun hz => by rw [fl] at hz ⊢; exact F.2.2.2.2 hz⟩, ⟨fun hz => ?_, fun hz w => ?_, fun h0 h2 => ?_⟩, ⟨V.1, fun k hk => ?_, by rw [e2]; exact hVa_fre V.2.2.1, by rw [e3]; exact V.2.2.2⟩⟩
  · rw [fl] at hz
    have z := F.2.1 k hk hz
    have := qFre_l Q k
    rw [z] at this
    exact List.length_eq_zero_iff.mp (by simp only [List.length_nil] at this; omega)
  · rw [fl] at hz
    rw [e4]
    rcases S.1 hz with w | w
    · rw [w]; exact Or.inl rfl
    · exact Or.inr ((fre_hd c4).mpr w)
  · rw [fl] at hz
    rw [e4] at w
    obtain ⟨Y, eY, hY⟩ := two_47 w
    obtain ⟨Z, eZ⟩ := hd_47 ((fre_hd c4).mp w.1)
    rw [eZ, fre_b (by decide)] at eY
    have eY := (List.cons.inj eY).2
    rw [← eY, fre_hd (by rw [eZ] at c4; exact cdk_tl c4)] at hY
    exact S.2.1 hz (by rw [eZ]; exact ⟨rfl, hY⟩)
  · rw [fl] at h0 h2
    rw [e4]; exact (nq_iff _).mp (nq_fre _ c4 (Sr_nq S h0 h2))
  · have v := V.2.1 k hk
    have e : (qFre Q k).1 = fre (Q k).1 := by
      rcases hk with w | w | w | w <;> subst w <;> rfl
    rw [e]
    exact okT_fre (by omega) _ v.2 v
/-- dots -/
theorem qDot_good {Q : Nat → List Int × Int} (h : Good Q) : Good (qDot Q) := by
  obtain ⟨F, S, V⟩ := h
  unfold qDot
  by_cases c : (Q 0).2 ≠ 0 ∨ gl (Q 4).1 0 = 47
  · rw [if_pos c]
    have o : ∀ k, k ≠ 4 → pup Q 4 (rdots (Q 4).1, (Q 4).2) k = Q k := fun k hk => by unfold pup; rw [if_neg hk]
    refine pgd_good (Fl_pup4 F F.2.2.1) (Va_pup4 V (rdots_ok (V.2.1 4 (Or.inr (Or.inl rfl))))) (fun hz => ?_) (fun h0 h2 => ?_)
    · rw [pup_at]
      rw [o 2 (by decide)] at hz
      rcases S.1 hz with w | w
      · exact Or.inl (by rw [w]; exact rdots_nil)
      · exact Or.inr (rdots_47 w)
    · rw [o 0 (by decide)] at h0
      have w := rdots_47 (c.resolve_left (fun z => z h0))
      refine (nq_iff _).mp ?_
      unfold pgd
      split
      · rw [pup_at]; exact Or.inl rfl
      · rw [pup_at]
        obtain ⟨Y, eY⟩ := hd_47 w
        show nq (rdots (Q 4).1)
        rw [eY]; exact Or.inl rfl
  · rw [if_neg c]; exact ⟨F, S, V⟩
/-- ports -/
theorem qPrt_good {Q : Nat → List Int × Int} (h : Good Q) : Good (qPrt Q) := by
  obtain ⟨F, S, V⟩ := h
  have g1 : Good (qPr1 Q) := by
    unfold qPr1
    split
    · have o : ∀ k, k ≠ 3 → pup Q 3 ([], 0) k = Q k := fun k hk => by unfold pup; rw [if_neg hk]
      have e3 : pup Q 3 ([], 0) 3 = ([], 0) := pup_at Q 3 _
      refine ⟨⟨fun k hk => ?_, fun k hk hz => ?_, by rw [o 4 (by decide)]; exact F.2.2.1, fun hz => ?_, fun _ => by rw [e3]⟩, ⟨fun hz => ?_, fun hz => ?_, fun h0 h2 => ?_⟩, ⟨by rw [o 0 (by decide)]; exact V.1, fun k hk => ?_, by rw [o 2 (by decide)]; exact V.2.2.1, ?_⟩⟩
      · by_cases c : k = 3
        · subst c; rw [e3]; exact Or.inl rfl
        · rw [o k c]; exact F.1 k hk
      · by_cases c : k = 3
        · subst c; rw [e3]
        · rw [o k c] at hz ⊢; exact F.2.1 k hk hz
      · rw [o 2 (by decide)] at hz; rw [o 1 (by decide)]; exact F.2.2.2.1 hz
      · rw [o 2 (by decide)] at hz; rw [o 4 (by decide)]; exact S.1 hz
      · rw [o 2 (by decide)] at hz; rw [o 4 (by decide)]; exact S.2.1 hz
      · rw [o 0 (by decide)] at h0; rw [o 2 (by decide)] at h2; rw [o 4 (by decide)]; exact S.2.2 h0 h2
      · rw [o k (by omega)]; exact V.2.1 k hk
      · rw [e3]; exact ⟨fun i i0 i1 => by simp only [List.length_nil] at i1; omega, by decide, by decide⟩
    · exact ⟨F, S, V⟩
  obtain ⟨F, S, V⟩ := g1
  unfold qPrt qPr2
  split
  · rename_i w
    obtain ⟨R, hR⟩ : ∃ R, R = qPr1 Q := ⟨_, rfl⟩
    rw [← hR] at F S V w ⊢
    have o : ∀ k, k ≠ 4 → pup R 4 ([47], (R 4).2) k = R k := fun k hk => by unfold pup; rw [if_neg hk]
    have h2 : (R 2).2 = 1 := (F.1 2 (by decide)).resolve_left w.2.1
    refine ⟨Fl_pup4 F F.2.2.1, ⟨fun _ => by rw [pup_at]; exact Or.inr rfl, fun hz => ?_, fun _ hz => ?_⟩, Va_pup4 V okT_47⟩
    · rw [o 2 (by decide)] at hz; omega
    · rw [o 2 (by decide)] at hz; omega
  · exact ⟨F, S, V⟩
