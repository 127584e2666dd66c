set_option maxRecDepth 16384
/-! an address of six written anew is an address of six -/
def hgp (H : List Int) : Prop := 1 ≤ H.length ∧ H.length ≤ 4 ∧ ∀ x, x ∈ H → pHx x = 1
theorem cdl_hx {d : Int} (h : 0 ≤ d ∧ d ≤ 15) : pHx (cdl d) = 1 := by
  have key : ∀ k : Fin 16, pHx (cdl (k.val : Int)) = 1 := by decide
  have := key ⟨d.toNat, by omega⟩
  rw [show ((⟨d.toNat, by omega⟩ : Fin 16).val : Int) = d from Int.toNat_of_nonneg h.1] at this
  exact this
theorem hxA_p (v : Int) : ∀ (n : Nat) (b : Int), (hxA v n b).length ≤ n ∧ (1 ≤ n → 1 ≤ (hxA v n b).length) ∧ ∀ x, x ∈ hxA v n b → pHx x = 1 := by
  intro n
  induction n with
  | zero => intro b; exact ⟨Nat.le_refl _, fun h => absurd h (by decide), fun x h => absurd h List.not_mem_nil⟩
  | succ n ih =>
    intro b
    rw [hxA]
    by_cases c : b = 0 ∧ wand (wshr v (4 * n)) 15 ≤ 0 ∧ n ≠ 0
    · rw [if_pos c]
      have k := ih 0
      exact ⟨by omega, fun _ => k.2.1 (by omega), k.2.2⟩
    · rw [if_neg c]
      have k := ih 1
      refine ⟨?_, fun _ => ?_, fun x h => ?_⟩
      · rw [List.length_cons]; omega
      · rw [List.length_cons]; omega
      · rcases List.mem_cons.mp h with e | e
        · rw [e]; exact cdl_hx (wand_15 _)
        · exact k.2.2 x e
theorem hxg_p (v : Int) : hgp (hxg v) := ⟨(hxA_p v 4 0).2.1 (by decide), (hxA_p v 4 0).1, (hxA_p v 4 0).2.2⟩
theorem hx_58 {x : Int} (h : pHx x = 1) : x ≠ 58 := fun e => by rw [e] at h; exact absurd h (by decide)
theorem gl_mem {X : List Int} {i : Int} (h0 : 0 ≤ i) (h1 : i < X.length) : gl X i ∈ X := by
  rw [gl_in h0 h1, List.getD_eq_getElem?_getD, List.getElem?_eq_getElem (by omega)]
  exact List.getElem_mem _
/-- groups with a colon between each two -/
def Rn : Nat → List Int → Prop
  | 0, X => X = []
  | 1, X => hgp X
  | n + 2, X => ∃ H Y, hgp H ∧ Rn (n + 1) Y ∧ X = H ++ 58 :: Y
theorem Rn_ind {P : Nat → List Int → Prop} (h0 : P 0 []) (h1 : ∀ H, hgp H → P 1 H) (h2 : ∀ n H Y, hgp H → 1 ≤ Y.length → P (n + 1) Y → P (n + 2) (H ++ 58 :: Y)) : ∀ n X, Rn n X → P n X := by
  have key : ∀ n X, Rn n X → P n X ∧ (1 ≤ n → 1 ≤ X.length) := by
    intro n
    induction n with
    | zero => intro X h; rw [show X = [] from h]; exact ⟨h0, fun w => absurd w (by decide)⟩
    | succ n ih =>
      intro X h
      cases n with
      | zero => exact ⟨h1 X h, fun _ => h.1⟩
      | succ n =>
        obtain ⟨H, Y, g, k, e⟩ := h
        have i := ih Y k
        rw [e]
        exact ⟨h2 n H Y g (i.2 (by omega)) i.1, fun _ => by rw [List.length_append]; have := g.1; omega⟩
  exact fun n X h => (key n X h).1
theorem Rn_nd : ∀ n X, Rn n X → (∀ j, ¬ (gl X j = 58 ∧ gl X (j + 1) = 58)) ∧ gl X 0 ≠ 58 ∧ gl X (X.length - 1) ≠ 58 := by
  refine Rn_ind (P := fun n X => (∀ j, ¬ (gl X j = 58 ∧ gl X (j + 1) = 58)) ∧ gl X 0 ≠ 58 ∧ gl X (X.length - 1) ≠ 58) ?_ (fun H g => ?_) (fun n H Y g yl ih => ?_)
  · exact ⟨fun j w => by rw [show gl [] j = -1 from gl_out (by simp only [List.length_nil]; omega)] at w; exact absurd w.1 (by decide), by decide, by decide⟩
  · have al : ∀ j, gl H j ≠ 58 := fun j => by
      by_cases c : 0 ≤ j ∧ j < H.length
      · exact hx_58 (g.2.2 _ (gl_mem c.1 c.2))
      · rw [gl_out (by omega)]; decide
    exact ⟨fun j w => al _ w.1, al _, al _⟩
  · have g1 := g.1
    have al : ∀ j, j < (H.length : Int) → gl (H ++ 58 :: Y) j ≠ 58 := fun j hj => by
      rw [gl_app1 _ _ hj]
      by_cases c : 0 ≤ j
      · exact hx_58 (g.2.2 _ (gl_mem c hj))
      · rw [gl_out (by omega)]; decide
    have be : ∀ j : Int, 0 ≤ j → gl (H ++ 58 :: Y) (H.length + 1 + j) = gl Y j := fun j hj => by
      rw [gl_app0 _ _ (by omega), show (H.length : Int) + 1 + j - H.length = j + 1 by omega, gl_tl _ _ _ hj]
    refine ⟨fun j w => ?_, al 0 (by omega), ?_⟩
    · have hj : ¬ j < (H.length : Int) := fun q => al j q w.1
      by_cases e : j = H.length
      · have := w.2
        rw [e, show (H.length : Int) + 1 = H.length + 1 + 0 by omega, be 0 (Int.le_refl 0)] at this
        exact ih.2.1 this
      · have e1 := be (j - (H.length + 1)) (by omega)
        have e2 := be (j - (H.length + 1) + 1) (by omega)
        rw [show (H.length : Int) + 1 + (j - (H.length + 1)) = j by omega] at e1
        rw [show (H.length : Int) + 1 + (j - (H.length + 1) + 1) = j + 1 by omega] at e2
        exact ih.1 (j - (H.length + 1)) ⟨by rw [← e1]; exact w.1, by rw [← e2]; exact w.2⟩
    · have e := be (Y.length - 1) (by omega)
      rw [show ((H ++ 58 :: Y).length : Int) - 1 = H.length + 1 + (Y.length - 1) by rw [List.length_append, List.length_cons]; omega, e]
      exact ih.2.2
theorem Rn_mGs : ∀ n X, Rn n X → ∀ (f : Int → Int) (la : Prop) (k c : Int), (∀ j : Int, 0 ≤ j → j < X.length → f (k + j) = gl X j) → mGs f (k + X.length) la k c (c + n) := by
  refine Rn_ind (P := fun n X => ∀ (f : Int → Int) (la : Prop) (k c : Int), (∀ j : Int, 0 ≤ j → j < X.length → f (k + j) = gl X j) → mGs f (k + X.length) la k c (c + n)) (fun f la k c _ => ?_) (fun H g f la k c hf => ?_) (fun n H Y g yl ih f la k c hf => ?_)
  · exact mGs_st.mpr (Or.inl ⟨by simp only [List.length_nil]; omega, by omega⟩)
  · have g1 := g.1
    have fh : ∀ j, k ≤ j → j < k + H.length → pHx (f j) = 1 := fun j j0 j1 => by
      have := hf (j - k) (by omega) (by omega)
      rw [show k + (j - k) = j by omega] at this
      rw [this]; exact g.2.2 _ (gl_mem (by omega) (by omega))
    have fe : fn f 58 k (k + H.length) = k + H.length := fn_is (by omega) (Int.le_refl _) (fun w => by omega) (fun j j0 j1 => hx_58 (fh j j0 j1))
    have g2 := g.2.1
    refine mGs_st.mpr (Or.inr ⟨by omega, c + 1, Or.inr ⟨?_, rfl⟩, by omega, ?_⟩)
    · rw [fe]; exact ⟨by omega, by omega, fh⟩
    · rw [fe]; exact mGs_st.mpr (Or.inl ⟨by omega, by omega⟩)
  · have g1 := g.1
    have g2 := g.2.1
    have ln : ((H ++ 58 :: Y).length : Int) = H.length + 1 + Y.length := by rw [List.length_append, List.length_cons]; omega
    rw [ln] at hf ⊢
    have fh : ∀ j, k ≤ j → j < k + H.length → pHx (f j) = 1 := fun j j0 j1 => by
      have := hf (j - k) (by omega) (by omega)
      rw [show k + (j - k) = j by omega, gl_app1 _ _ (by omega)] at this
      rw [this]; exact g.2.2 _ (gl_mem (by omega) (by omega))
    have f58 : f (k + H.length) = 58 := by
      rw [hf H.length (by omega) (by omega), gl_app0 _ _ (Int.le_refl _), Int.sub_self]; rfl
    have fe : fn f 58 k (k + (H.length + 1 + Y.length)) = k + H.length := fn_is (by omega) (by omega) (fun _ => f58) (fun j j0 j1 => hx_58 (fh j j0 j1))
    refine mGs_st.mpr (Or.inr ⟨by omega, c + 1, Or.inr ⟨?_, rfl⟩, by omega, ?_⟩)
    · rw [fe]; exact ⟨by omega, by omega, fh⟩
    · rw [fe]
      have := ih f la (k + H.length + 1) (c + 1) (fun j j0 j1 => by
        have e := hf (H.length + 1 + j) (by omega) (by omega)
        rw [gl_app0 _ _ (by omega), show (H.length : Int) + 1 + j - H.length = j + 1 by omega, gl_tl _ _ _ j0] at e
        rw [show k + (H.length : Int) + 1 + j = k + (H.length + 1 + j) by omega]; exact e)
      rw [show k + ((H.length : Int) + 1 + Y.length) = k + H.length + 1 + Y.length by omega, show c + ((n + 2 : Nat) : Int) = c + 1 + ((n + 1 : Nat) : Int) by omega]
      exact this
/-- groups, each behind a colon -/
def TL (W : Nat → Int) : Nat → Int → List Int
  | 0, _ => []
  | n + 1, i => 58 :: (hxg (W i.toNat) ++ TL W n (i + 1))
theorem TL_Rn (W : Nat → Int) : ∀ (n : Nat) (i : Int) (H : List Int), hgp H → Rn (n + 1) (H ++ TL W n i) := by
  intro n
  induction n with
  | zero => intro i H h; rw [TL, List.append_nil]; exact h
  | succ n ih =>
    intro i H h
    rw [TL]
    exact ⟨H, _, h, ih (i + 1) _ (hxg_p (W i.toNat)), rfl⟩
theorem TL_len (W : Nat → Int) : ∀ (n : Nat) (i : Int), (TL W n i).length ≤ 5 * n := by
  intro n
  induction n with
  | zero => intro i; exact Nat.le_refl _
  | succ n ih =>
    intro i
    rw [TL, List.length_cons, List.length_append]
    have := (hxg_p (W i.toNat)).2.1
    have := ih (i + 1)
    omega
/-- behind the gap, or where there is none -/
theorem rwb_TL (W : Nat → Int) (g b : Int) : ∀ (n : Nat) (i : Int), 0 < i → i + n = 8 → (b < i ∧ g < i) ∨ (g = 8 ∧ b = 8) → rwb W g b n i = TL W n i := by
  intro n
  induction n with
  | zero => intro i _ _ _; rfl
  | succ n ih =>
    intro i h0 h1 h2
    rw [rwb, TL, ih (i + 1) (by omega) (by omega) (by omega), if_neg (by omega), if_pos (by omega), if_pos (by omega)]
    rfl
/-- the part behind the gap -/
def TY (W : Nat → Int) (b : Int) : List Int := if b = 8 then [] else hxg (W b.toNat) ++ TL W (7 - b).toNat (b + 1)
theorem rwb_gap (W : Nat → Int) (g b : Int) (hg : 0 ≤ g) (hb : b ≤ 8) : ∀ (n : Nat) (i : Int), 0 ≤ i → i + n = 8 → g < i → i ≤ b → rwb W g b n i = TY W b := by
  intro n
  induction n with
  | zero => intro i _ _ _ _; unfold TY; rw [if_pos (by omega)]; rfl
  | succ n ih =>
    intro i h0 h1 h2 h3
    rw [rwb, if_neg (by omega)]
    by_cases c : i = b
    · rw [if_pos (by omega), if_neg (fun w => w.2 c), rwb_TL W g b n (i + 1) (by omega) (by omega) (by omega)]
      unfold TY
      rw [if_neg (by omega), ← c, show (7 - i).toNat = n by omega]; rfl
    · rw [if_neg (by omega)]
      exact ih (i + 1) (by omega) (by omega) (by omega) (by omega)
theorem rwb_pre (W : Nat → Int) (g b : Int) (hb : b ≤ 8) (hgb : g < b) : ∀ (m n : Nat) (i : Int), (g - i).toNat = m → 0 < i → i ≤ g → i + n = 8 → rwb W g b n i = TL W m i ++ 58 :: 58 :: TY W b := by
  intro m
  induction m with
  | zero =>
    intro n i hm h0 h1 h2
    obtain ⟨n', hn⟩ : ∃ n', n = n' + 1 := ⟨n - 1, by omega⟩
    subst hn
    rw [rwb, if_pos (by omega), rwb_gap W g b (by omega) hb n' (i + 1) (by omega) (by omega) (by omega) (by omega)]; rfl
  | succ m ih =>
    intro n i hm h0 h1 h2
    obtain ⟨n', hn⟩ : ∃ n', n = n' + 1 := ⟨n - 1, by omega⟩
    subst hn
    rw [rwb, if_neg (by omega), if_pos (by omega), if_pos (by omega), ih n' (i + 1) (by omega) (by omega) (by omega) (by omega), TL]
    simp only [List.cons_append, List.nil_append, List.append_assoc]
/-- the part ahead of the gap -/
def TX (W : Nat → Int) (g : Int) : List Int := if g = 0 then [] else hxg (W 0) ++ TL W (g - 1).toNat 1
theorem rwb_all (W : Nat → Int) (g b : Int) : (g = 8 ∧ b = 8 → rwb W g b 8 0 = TX W 8) ∧ (0 ≤ g → g < b → b ≤ 8 → rwb W g b 8 0 = TX W g ++ 58 :: 58 :: TY W b) := by
  refine ⟨fun h => ?_, fun h0 h1 h2 => ?_⟩
  · rw [show rwb W g b 8 0 = (if (0 : Int) = g then [58, 58] else if (0 : Int) < g ∨ b ≤ 0 then (if (0 : Int) < 0 ∧ (0 : Int) ≠ b then [58] else []) ++ hxg (W (0 : Int).toNat) else []) ++ rwb W g b 7 1 from rfl, if_neg (by omega), if_pos (by omega), if_neg (by omega), rwb_TL W g b 7 1 (by decide) (by decide) (Or.inr h)]
    rfl
  · by_cases c : g = 0
    · rw [show rwb W g b 8 0 = (if (0 : Int) = g then [58, 58] else if (0 : Int) < g ∨ b ≤ 0 then (if (0 : Int) < 0 ∧ (0 : Int) ≠ b then [58] else []) ++ hxg (W (0 : Int).toNat) else []) ++ rwb W g b 7 1 from rfl, if_pos c.symm, rwb_gap W g b h0 h2 7 1 (by decide) (by decide) (by omega) (by omega)]
      unfold TX
      rw [if_pos c]; rfl
    · rw [show rwb W g b 8 0 = (if (0 : Int) = g then [58, 58] else if (0 : Int) < g ∨ b ≤ 0 then (if (0 : Int) < 0 ∧ (0 : Int) ≠ b then [58] else []) ++ hxg (W (0 : Int).toNat) else []) ++ rwb W g b 7 1 from rfl, if_neg (fun w => c w.symm), if_pos (by omega), if_neg (by omega), rwb_pre W g b h2 h1 (g - 1).toNat 7 1 rfl (by decide) (by omega) (by decide)]
      unfold TX
      rw [if_neg c]
      simp only [List.nil_append, List.append_assoc]; rfl
theorem TX_Rn (W : Nat → Int) {g : Int} (h : 0 ≤ g) : Rn g.toNat (TX W g) := by
  unfold TX
  by_cases c : g = 0
  · rw [if_pos c, c]; exact rfl
  · rw [if_neg c]
    have := TL_Rn W (g - 1).toNat 1 _ (hxg_p (W 0))
    rw [show (g - 1).toNat + 1 = g.toNat by omega] at this; exact this
theorem TY_Rn (W : Nat → Int) {b : Int} (h : b ≤ 8) : Rn (8 - b).toNat (TY W b) := by
  unfold TY
  by_cases c : b = 8
  · rw [if_pos c, c]; exact rfl
  · rw [if_neg c]
    have := TL_Rn W (7 - b).toNat (b + 1) _ (hxg_p (W b.toNat))
    rw [show (7 - b).toNat + 1 = (8 - b).toNat by omega] at this; exact this
theorem TX_len (W : Nat → Int) {g : Int} (h : 0 ≤ g ∧ g ≤ 8) : (TX W g).length ≤ 50 := by
  unfold TX
  split
  · exact Nat.zero_le _
  · rw [List.length_append]
    have := (hxg_p (W 0)).2.1
    have := TL_len W (g - 1).toNat 1
    omega
theorem TY_len (W : Nat → Int) {b : Int} (h : 0 ≤ b ∧ b ≤ 8) : (TY W b).length ≤ 50 := by
  unfold TY
  split
  · exact Nat.zero_le _
  · rw [List.length_append]
    have := (hxg_p (W b.toNat)).2.1
    have := TL_len W (7 - b).toNat (b + 1)
    omega
/-- the groups written anew, between brackets -/
theorem six_new {X : List Int} (h : Rn 8 X) : cSix (gl (91 :: (X ++ [93]))) 1 (((91 :: (X ++ [93])).length : Nat) - 1) := by
  have ln : (((91 :: (X ++ [93])).length : Nat) : Int) - 1 = 1 + X.length := by simp only [List.length_cons, List.length_append, List.length_nil]; omega
  have hf : ∀ j : Int, 0 ≤ j → j < X.length → gl (91 :: (X ++ [93])) (1 + j) = gl X j := fun j j0 j1 => by
    rw [show 1 + j = j + 1 by omega, gl_tl _ _ _ j0, gl_app1 _ _ j1]
  rw [ln]
  refine six_eq.mpr (Or.inl ⟨fun k hk w => ?_, ?_⟩)
  · obtain ⟨w1, w2, w3⟩ := w
    have e1 := hf (k - 1) (by omega) (by omega)
    have e2 := hf (k - 1 + 1) (by omega) (by omega)
    rw [show 1 + (k - 1) = k by omega] at e1
    rw [show 1 + (k - 1 + 1) = k + 1 by omega] at e2
    exact (Rn_nd _ _ h).1 (k - 1) ⟨by rw [← e1]; exact w2, by rw [← e2]; exact w3⟩
  · have := Rn_mGs _ _ h (gl (91 :: (X ++ [93]))) True 1 0 hf
    exact this
theorem six_gap {X Y : List Int} {n m : Nat} (h : Rn n X) (k : Rn m Y) (hn : n + m ≤ 7) : cSix (gl (91 :: ((X ++ 58 :: 58 :: Y) ++ [93]))) 1 (((91 :: ((X ++ 58 :: 58 :: Y) ++ [93])).length : Nat) - 1) := by
  have ln : (((91 :: ((X ++ 58 :: 58 :: Y) ++ [93])).length : Nat) : Int) - 1 = 1 + X.length + 2 + Y.length := by simp only [List.length_cons, List.length_append, List.length_nil]; omega
  have hf : ∀ j : Int, 0 ≤ j → j < (X ++ 58 :: 58 :: Y).length → gl (91 :: ((X ++ 58 :: 58 :: Y) ++ [93])) (1 + j) = gl (X ++ 58 :: 58 :: Y) j := fun j j0 j1 => by
    rw [show 1 + j = j + 1 by omega, gl_tl _ _ _ j0, gl_app1 _ _ j1]
  have ln2 : ((X ++ 58 :: 58 :: Y).length : Int) = X.length + 2 + Y.length := by simp only [List.length_cons, List.length_append]; omega
  rw [ln2] at hf
  rw [ln]
  obtain ⟨f, ef⟩ : ∃ f, f = gl (91 :: ((X ++ 58 :: 58 :: Y) ++ [93])) := ⟨_, rfl⟩
  rw [← ef] at hf ⊢
  have fX : ∀ j : Int, 0 ≤ j → j < X.length → f (1 + j) = gl X j := fun j j0 j1 => by rw [hf j j0 (by omega), gl_app1 _ _ j1]
  have fG : f (1 + X.length) = 58 := by rw [hf _ (by omega) (by omega), gl_app0 _ _ (Int.le_refl _), Int.sub_self]; rfl
  have fG1 : f (1 + X.length + 1) = 58 := by
    rw [show 1 + (X.length : Int) + 1 = 1 + (X.length + 1) by omega, hf _ (by omega) (by omega), gl_app0 _ _ (by omega), show (X.length : Int) + 1 - X.length = 1 by omega]; rfl
  have fY : ∀ j : Int, 0 ≤ j → j < Y.length → f (1 + X.length + 2 + j) = gl Y j := fun j j0 j1 => by
    rw [show 1 + (X.length : Int) + 2 + j = 1 + (X.length + 2 + j) by omega, hf _ (by omega) (by omega), gl_app0 _ _ (by omega), show (X.length : Int) + 2 + j - X.length = j + 1 + 1 by omega, gl_tl _ _ _ (by omega), gl_tl _ _ _ j0]
  clear hf ef
  refine six_eq.mpr (Or.inr ⟨1 + X.length, by omega, ⟨by omega, fG, fG1⟩, fun j j0 j1 w => ?_, 0 + n, 0 + n + m, Rn_mGs _ _ h f False 1 0 fX, by omega, Rn_mGs _ _ k f True _ _ fY, by omega⟩)
  obtain ⟨-, w2, w3⟩ := w
  have e1 := fX (j - 1) (by omega) (by omega)
  rw [show 1 + (j - 1) = j by omega] at e1
  by_cases c : j = X.length
  · rw [c] at e1 w2
    exact (Rn_nd _ _ h).2.2 (by rw [← e1]; exact w2)
  · have e2 := fX (j - 1 + 1) (by omega) (by omega)
    rw [show 1 + (j - 1 + 1) = j + 1 by omega] at e2
    exact (Rn_nd _ _ h).1 (j - 1) ⟨by rw [← e1]; exact w2, by rw [← e2]; exact w3⟩
theorem rwb_six (W : Nat → Int) : cSix (gl (91 :: (rwb W (lrw W) (lrw W + zro W (lrw W)) 8 0 ++ [93]))) 1 (((91 :: (rwb W (lrw W) (lrw W + zro W (lrw W)) 8 0 ++ [93])).length : Nat) - 1) ∧ (rwb W (lrw W) (lrw W + zro W (lrw W)) 8 0).length ≤ 200 := by
  have r := lrA_r W 8 0 8 1 (by decide) (by decide)
  have r2 : 0 ≤ lrw W ∧ lrw W ≤ 8 := by unfold lrw; rw [if_neg (by omega)] at r; exact r
  have z := zro_r W _ (lrw W) rfl
  obtain ⟨g, eg⟩ : ∃ g, g = lrw W := ⟨_, rfl⟩
  have lm := lrw_mb W
  by_cases c : g = 8
  · have z8 : zro W (lrw W) = 0 := (zro_st W _).1 (by omega)
    rw [z8, ← eg]
    rw [(rwb_all W g (g + 0)).1 ⟨c, by omega⟩]
    exact ⟨six_new (show Rn 8 (TX W 8) from TX_Rn W (g := 8) (by decide)), by have := TX_len W (g := 8) (by decide); omega⟩
  · have z2 : 1 < zro W (lrw W) := by
      by_cases q : zro W (mbA W 7 1 0) ≤ 1
      · exact absurd (lm.1 q) (by omega)
      · rw [lm.2 (by omega)]; omega
    rw [← eg] at z z2 ⊢
    rw [← eg] at r2
    rw [(rwb_all W g (g + zro W g)).2 (by omega) (by omega) (by omega)]
    refine ⟨six_gap (TX_Rn W (by omega)) (TY_Rn W (by omega)) (by omega), ?_⟩
    have := TX_len W (g := g) (by omega)
    have := TY_len W (b := g + zro W g) (by omega)
    rw [List.length_append, List.length_cons, List.length_cons]; omega
/-- addresses of six -/
theorem qSix_good {Q : Nat → List Int × Int} (h : Good Q) (U : Nat → Int) : Good (pup Q 2 (qSix (Q 2) U)) := by
  obtain ⟨F, S, V⟩ := h
  unfold qSix
  by_cases c : gl (Q 2).1 0 = 91 ∧ bI (cSix (gl (Q 2).1) 1 ((Q 2).1.length - 1)) = 1
  · rw [if_pos c]
    have f2 : (Q 2).2 = 1 := (F.1 2 (by decide)).resolve_left (fun w => by
      have := F.2.1 2 (by decide) w
      rw [this] at c; exact absurd c.1 (by decide))
    unfold rw6
    obtain ⟨W, eW⟩ : ∃ W, W = G6 (gl (Q 2).1) 1 ((Q 2).1.length - 1) U := ⟨_, rfl⟩
    rw [← eW]
    have k := rwb_six W
    obtain ⟨X, eX⟩ : ∃ X, X = rwb W (lrw W) (lrw W + zro W (lrw W)) 8 0 := ⟨_, rfl⟩
    rw [← eX] at k ⊢
    have ln : (91 :: (X ++ [93])).length = X.length + 2 := by simp only [List.length_cons, List.length_append, List.length_nil]
    rw [List.take_of_length_le (by omega)]
    have o : ∀ k, k ≠ 2 → pup Q 2 (91 :: (X ++ [93]), 1) k = Q k := fun k hk => by unfold pup; rw [if_neg hk]
    have e2 : pup Q 2 (91 :: (X ++ [93]), 1) 2 = (91 :: (X ++ [93]), 1) := pup_at Q 2 _
    have fl : ∀ k, (pup Q 2 (91 :: (X ++ [93]), 1) k).2 = (Q k).2 := fun k => by
      by_cases d : k = 2
      · subst d; rw [e2]; exact f2.symm
      · rw [o k d]
    refine ⟨⟨fun k hk => by rw [fl]; exact F.1 k hk, fun k hk hz => ?_, by rw [fl]; exact F.2.2.1, fun hz => by rw [fl] at hz ⊢; exact F.2.2.2.1 hz, fun hz => by rw [fl] at hz ⊢; exact F.2.2.2.2 hz⟩, ⟨fun hz => ?_, fun hz => ?_, fun h0 h2 => ?_⟩, ⟨by rw [o 0 (by decide)]; exact V.1, fun k hk => by rw [o k (by omega)]; exact V.2.1 k hk, ?_, by rw [o 3 (by decide)]; exact V.2.2.2⟩⟩
    · rw [fl] at hz
      by_cases d : k = 2
      · subst d; rw [f2] at hz; cases hz
      · rw [o k d]; exact F.2.1 k hk hz
    · rw [o 4 (by decide)]; exact S.1 f2
    · rw [fl, f2] at hz; cases hz
    · rw [fl, f2] at h2; cases h2
    · rw [e2]
      refine Or.inr ⟨rfl, by rw [ln]; omega, ?_, cSix_chars k.1, Or.inl k.1⟩
      rw [ln, gl_cons, if_neg (by omega), gl_app0 _ _ (by omega), show ((X.length + 2 : Nat) : Int) - 1 - 1 - X.length = 0 by omega]; rfl
  · rw [if_neg c]
    rw [show pup Q 2 (Q 2) = Q from funext fun k => by unfold pup; split <;> simp_all]
    exact ⟨F, S, V⟩
