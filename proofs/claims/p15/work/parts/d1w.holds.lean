set_option maxRecDepth 16384
/-! whether an offer reads back -/
theorem qWm_o {w : Int} {B T : Nat → List Int × Int} {k : Nat} (h : k ≠ 4) : qWm w B T k = qWay w B T k := by unfold qWm; rw [if_neg (fun q => h q.1)]
theorem qWm_p (w : Int) (B T : Nat → List Int × Int) : (w = 2 → qWm w B T 4 = (clm (B 4).1 (T 4).1, 1)) ∧ (3 ≤ w → qWm w B T 4 = T 4) ∧ (w ≤ 1 → qWm w B T 4 = ([], 1)) := by
  refine ⟨fun h => ?_, fun h => ?_, fun h => ?_⟩
  · unfold qWm; rw [if_pos ⟨rfl, h⟩]
  · unfold qWm; rw [if_neg (fun q => by omega)]
    show (if 3 ≤ w then T 4 else if w = 2 then ((clm (B 4).1 (T 4).1).take 808, 1) else ([], 1)) = T 4
    rw [if_pos h]
  · unfold qWm; rw [if_neg (fun q => by omega)]
    show (if 3 ≤ w then T 4 else if w = 2 then ((clm (B 4).1 (T 4).1).take 808, 1) else ([], 1)) = ([], 1)
    rw [if_neg (by omega), if_neg (by omega)]
theorem okT_ups : ∀ n : Nat, okT 4 (ups n) := by
  intro n
  induction n with
  | zero => exact okT_nil 4
  | succ n ih =>
    exact okT_c1 (b := 46) (by decide) (by decide) (okT_c1 (b := 46) (by decide) (by decide) (okT_c1 (b := 47) (by decide) (by decide) ih))
theorem okT_clm {P T : List Int} (h : okT 4 T) : okT 4 (clm P T) := by
  unfold clm
  refine okT_app (okT_ups _) (okT_app ?_ (okT_drop h _))
  split
  · exact okT_c1 (b := 46) (by decide) (by decide) okT_47
  · exact okT_nil 4
theorem hVa_nil : hVa [] := Or.inl ⟨nc_nil (by decide), fun i h0 h1 => by simp only [List.length_nil] at h1; omega, cdk_nil⟩
theorem qWm_Fl {w : Int} {B T : Nat → List Int × Int} (F : Fl T) : Fl (qWm w B T) := by
  have q4 := qWm_p w B T
  have f4 : (qWm w B T 4).2 = 1 := by
    by_cases a : w = 2
    · rw [q4.1 a]
    · by_cases b : 3 ≤ w
      · rw [q4.2.1 b]; exact F.2.2.1
      · rw [q4.2.2 (by omega)]
  have e6 : qWm w B T 6 = T 6 := qWm_o (by decide)
  have e5 : qWm w B T 5 = if 1 ≤ w then T 5 else ([], 0) := qWm_o (by decide)
  have e0 : qWm w B T 0 = if 5 ≤ w then T 0 else ([], 0) := qWm_o (by decide)
  have ea : ∀ k, k = 1 ∨ k = 2 ∨ k = 3 → qWm w B T k = if 4 ≤ w then T k else ([], 0) := fun k hk => by
    rcases hk with e | e | e <;> subst e <;> exact qWm_o (by decide)
  have al : ∀ k, k < 7 → k ≠ 4 → qWm w B T k = T k ∨ qWm w B T k = ([], 0) := fun k hk k4 => by
    rcases (by omega : k = 0 ∨ (k = 1 ∨ k = 2 ∨ k = 3) ∨ k = 5 ∨ k = 6) with e | e | e | e
    · subst e; rw [e0]; split
      · exact Or.inl rfl
      · exact Or.inr rfl
    · rw [ea k e]; split
      · exact Or.inl rfl
      · exact Or.inr rfl
    · subst e; rw [e5]; split
      · exact Or.inl rfl
      · exact Or.inr rfl
    · subst e; exact Or.inl e6
  refine ⟨fun k hk => ?_, fun k hk hz => ?_, f4, fun hz => ?_, fun hz => ?_⟩
  · by_cases k4 : k = 4
    · rw [k4, f4]; exact Or.inr rfl
    · rcases al k hk k4 with e | e
      · rw [e]; exact F.1 k hk
      · rw [e]; exact Or.inl rfl
  · by_cases k4 : k = 4
    · rw [k4, f4] at hz; cases hz
    · rcases al k hk k4 with e | e
      · rw [e] at hz ⊢; exact F.2.1 k hk hz
      · rw [e]
  · rw [ea 2 (by omega)] at hz; rw [ea 1 (by omega)]
    split
    · rename_i c; rw [if_pos c] at hz; exact F.2.2.2.1 hz
    · rfl
  · rw [ea 2 (by omega)] at hz; rw [ea 3 (by omega)]
    split
    · rename_i c; rw [if_pos c] at hz; exact F.2.2.2.2 hz
    · rfl
theorem qWm_Va {w : Int} {B T : Nat → List Int × Int} (V : Va T) : Va (qWm w B T) := by
  have q4 := qWm_p w B T
  have e6 : qWm w B T 6 = T 6 := qWm_o (by decide)
  have e5 : qWm w B T 5 = if 1 ≤ w then T 5 else ([], 0) := qWm_o (by decide)
  have e0 : qWm w B T 0 = if 5 ≤ w then T 0 else ([], 0) := qWm_o (by decide)
  have ea : ∀ k, k = 1 ∨ k = 2 ∨ k = 3 → qWm w B T k = if 4 ≤ w then T k else ([], 0) := fun k hk => by
    rcases hk with e | e | e <;> subst e <;> exact qWm_o (by decide)
  have o4 := V.2.1 4 (Or.inr (Or.inl rfl))
  refine ⟨fun hz => ?_, fun k hk => ?_, ?_, ?_⟩
  · rw [e0] at hz ⊢
    split
    · rename_i c; rw [if_pos c] at hz; exact V.1 hz
    · rename_i c; rw [if_neg c] at hz; cases hz
  · rcases hk with e | e | e | e
    · subst e
      rw [ea 1 (by omega)]; split
      · exact V.2.1 1 (Or.inl rfl)
      · exact okT_nil _
    · subst e
      by_cases a : w = 2
      · rw [q4.1 a]; exact okT_clm o4
      · by_cases b : 3 ≤ w
        · rw [q4.2.1 b]; exact o4
        · rw [q4.2.2 (by omega)]; exact okT_nil _
    · subst e
      rw [e5]; split
      · exact V.2.1 5 (Or.inr (Or.inr (Or.inl rfl)))
      · exact okT_nil _
    · subst e
      rw [e6]; exact V.2.1 6 (Or.inr (Or.inr (Or.inr rfl)))
  · rw [ea 2 (by omega)]; split
    · exact V.2.2.1
    · exact hVa_nil
  · rw [ea 3 (by omega)]; split
    · exact V.2.2.2
    · exact ⟨fun i i0 i1 => by simp only [List.length_nil] at i1; omega, by decide, by decide⟩
theorem Va_cg {Q Q' : Nat → List Int × Int} (h : ∀ k, k < 7 → Q k = Q' k) (V : Va Q) : Va Q' := by
  refine ⟨by rw [← h 0 (by decide)]; exact V.1, fun k hk => by rw [← h k (by omega)]; exact V.2.1 k hk, by rw [← h 2 (by decide)]; exact V.2.2.1, by rw [← h 3 (by decide)]; exact V.2.2.2⟩
/-- texts of the same layout have the same parts -/
theorem jns_inj {Q Q' : Nat → List Int × Int} : ∀ (n k : Nat), jns Q n k = jns Q' n k → (∀ i, k ≤ i → i < k + n → (jn Q i).length = (jn Q' i).length) → ∀ i, k ≤ i → i < k + n → jn Q i = jn Q' i := by
  intro n
  induction n with
  | zero => intro k _ _ i h1 h2; omega
  | succ n ih =>
    intro k he hl i h1 h2
    rw [jns, jns] at he
    obtain ⟨a, b⟩ := List.append_inj he (hl k (Nat.le_refl _) (by omega))
    by_cases c : i = k
    · rw [c]; exact a
    · exact ih (k + 1) b (fun j j1 j2 => hl j (by omega) (by omega)) i (by omega) (by omega)
theorem jn_l2 {Q : Nat → List Int × Int} {k : Nat} (h : (Q k).2 ≠ 0) : jn Q k = (if k = 3 then [58] else if k = 5 then [63] else if k = 6 then [35] else []) ++ ((if k = 1 ∨ (k = 2 ∧ (Q 1).2 = 0) then [47, 47] else []) ++ ((Q k).1 ++ (if k = 0 then [58] else if k = 1 then [64] else []))) := by unfold jn; rw [if_neg h]
theorem lay_eq {Q Q' : Nat → List Int × Int} (F : Fl Q) (F' : Fl Q') (e : cmm Q = cmm Q') (hf : ∀ k, k < 7 → (Q k).2 = (Q' k).2) (hs : ∀ k, k < 7 → (Q k).2 ≠ 0 → (Q k).1.length = (Q' k).1.length) : ∀ k, k < 7 → Q k = Q' k := by
  have key := jns_inj (Q := Q) (Q' := Q') 7 0 e (fun i _ h2 => by
    have hi : i < 7 := by omega
    by_cases z : (Q i).2 = 0
    · rw [show jn Q i = [] by unfold jn; rw [if_pos z], show jn Q' i = [] by unfold jn; rw [if_pos (by rw [← hf i hi]; exact z)]]
    · rw [jn_l2 z, jn_l2 (Q := Q') (by rw [← hf i hi]; exact z), hf 1 (by decide)]
      simp only [List.length_append, hs i hi z])
  intro k hk
  have k1 := key k (Nat.zero_le _) (by omega)
  refine Prod.ext ?_ (hf k hk)
  by_cases z : (Q k).2 = 0
  · rw [F.2.1 k hk z, F'.2.1 k hk (by rw [← hf k hk]; exact z)]
  · rw [jn_l2 z, jn_l2 (Q := Q') (by rw [← hf k hk]; exact z), hf 1 (by decide)] at k1
    exact List.append_cancel_right (List.append_cancel_left (List.append_cancel_left k1))
/-- right, and of the same layout: the same parts -/
theorem holds_eq {Q : Nat → List Int × Int} (F : Fl Q) (V : Va Q) : (aOk (gl (cmm Q)) (cmm Q).length (zB (gl (cmm Q)) (cmm Q).length) (zE (gl (cmm Q)) (cmm Q).length) ∧ ∀ k : Nat, k < 7 → (cutQ (cmm Q) k).2 = (Q k).2 ∧ ((Q k).2 = 0 ∨ (cutQ (cmm Q) k).1.length = (Q k).1.length)) ↔ ∀ k : Nat, k < 7 → cutQ (cmp Q) k = Q k := by
  rw [aOk_Va]
  have e : cmm Q = cmp Q := cmm_cmp F
  constructor
  · intro ⟨_, h⟩ k hk
    have := lay_eq (Q := cutQ (cmm Q)) (Q' := Q) (Fl_cut _) F (by rw [cmm_cmp (Fl_cut _), cmp_cut]) (fun k hk => (h k hk).1) (fun k hk z => (h k hk).2.resolve_left (fun w => z (by rw [(h k hk).1]; exact w))) k hk
    rw [e] at this; exact this
  · intro h
    rw [e]
    exact ⟨Va_cg (fun k hk => (h k hk).symm) V, fun k hk => by rw [h k hk]; exact ⟨rfl, Or.inr rfl⟩⟩
