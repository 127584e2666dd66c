set_option maxRecDepth 16384
/-! normalising as a whole -/
theorem gco_len : ∀ (n : Nat) (L : List Int), L.length = n → (gco L).length = n := by
  intro n
  induction n with
  | zero => intro L h; rw [List.length_eq_zero_iff.mp h]; rfl
  | succ n ih =>
    intro L h
    cases L with
    | nil => cases h
    | cons b L =>
      rw [gco_cons, List.length_cons]
      rw [List.length_cons] at h
      rw [ih]
      split
      · rw [up2_len]; omega
      · omega
theorem fre_len : ∀ (n : Nat) (L : List Int), L.length ≤ n → (fre L).length ≤ L.length := by
  intro n
  induction n with
  | zero => intro L h; rw [List.length_eq_zero_iff.mp (by omega : L.length = 0)]; exact Nat.le_refl _
  | succ n ih =>
    intro L h
    cases L with
    | nil => exact Nat.le_refl _
    | cons b L =>
      rw [List.length_cons] at h
      rw [fre_cons]
      split
      · rw [List.length_cons, List.length_cons]
        have := ih (L.drop 2) (by rw [List.length_drop]; omega)
        rw [List.length_drop] at this; omega
      · rw [List.length_cons, List.length_cons]
        have := ih L (by omega); omega
noncomputable def qDot (Q : Nat → List Int × Int) : Nat → List Int × Int := if (Q 0).2 ≠ 0 ∨ gl (Q 4).1 0 = 47 then pgd (pup Q 4 (rdots (Q 4).1, (Q 4).2)) else Q
noncomputable def qN1 (T : Nat → List Int × Int) (h : Int) : Nat → List Int × Int := if wand h 1 = 0 then T else qLet T
noncomputable def qN2 (T : Nat → List Int × Int) (h : Int) : Nat → List Int × Int := if wand h 2 = 0 then qN1 T h else qFre (qN1 T h)
noncomputable def qN3 (T : Nat → List Int × Int) (h : Int) : Nat → List Int × Int := if wand h 4 = 0 then qN2 T h else qDot (qN2 T h)
noncomputable def qN4 (T : Nat → List Int × Int) (h : Int) : Nat → List Int × Int := if wand h 8 = 0 then qN3 T h else qPrt (qN3 T h)
noncomputable def qNrm (T : Nat → List Int × Int) (h : Int) (W : Nat → Int) : Nat → List Int × Int := if wand h 16 = 0 then qN4 T h else pup (qN4 T h) 2 (qSix (qN4 T h 2) W)
/-- as PwU, but the groups of addresses change too -/
def PwA (sh : zSh) (V V' : wSt) (p a : Nat) (Q : Nat → List Int × Int) : Prop := (∀ b, (∀ k, k < 7 → b ≠ sr sh p k ∧ b ≠ sr sh (sr sh p k) 0) → b ≠ sr sh a 0 → V' b = V b) ∧ AllR sh V' ∧ ∀ k, k < 7 → pv sh V' p k = Q k
theorem qLet_l (Q : Nat → List Int × Int) (k : Nat) : (qLet Q k).1.length = (Q k).1.length := by
  unfold qLet
  dsimp only
  split
  · rw [List.length_map]
  · split
    · rw [gco_len _ _ rfl, List.length_map]
    · rw [gco_len _ _ rfl]
theorem qFre_l (Q : Nat → List Int × Int) (k : Nat) : (qFre Q k).1.length ≤ (Q k).1.length := by
  unfold qFre
  split
  · exact Nat.le_refl _
  · exact fre_len _ _ (Nat.le_refl _)
theorem qN2_l (T : Nat → List Int × Int) (h : Int) (k : Nat) : (qN2 T h k).1.length ≤ (T k).1.length := by
  have a : (qN1 T h k).1.length ≤ (T k).1.length := by
    unfold qN1; split
    · exact Nat.le_refl _
    · rw [qLet_l]; exact Nat.le_refl _
  unfold qN2
  split
  · exact a
  · exact Nat.le_trans (qFre_l _ _) a
theorem pgd_o (Q : Nat → List Int × Int) (k : Nat) (h : k ≠ 4) : pgd Q k = Q k := by
  unfold pgd pup; split
  · exact if_neg h
  · rfl
theorem qDot_o (Q : Nat → List Int × Int) (k : Nat) (h : k ≠ 4) : qDot Q k = Q k := by
  unfold qDot; split
  · rw [pgd_o _ k h]; unfold pup; exact if_neg h
  · rfl
theorem cg7 {f : (Nat → List Int × Int) → (Nat → List Int × Int)} {Q Q' : Nat → List Int × Int} (e : Q = Q') (k : Nat) : f Q k = f Q' k := by rw [e]
/-- parts that agree give the same: what is behind the seventh does not matter -/
def ex7 (Q : Nat → List Int × Int) : Nat → List Int × Int := fun k => if k < 7 then Q k else ([], 0)
theorem qLet_cg {Q Q' : Nat → List Int × Int} (h : ∀ k, k < 7 → Q k = Q' k) : ∀ k, k < 7 → qLet Q k = qLet Q' k := fun k hk => by unfold qLet; rw [h k hk]
theorem qFre_cg {Q Q' : Nat → List Int × Int} (h : ∀ k, k < 7 → Q k = Q' k) : ∀ k, k < 7 → qFre Q k = qFre Q' k := fun k hk => by unfold qFre; rw [h k hk]
theorem pup_cg {Q Q' : Nat → List Int × Int} {j : Nat} {x y : List Int × Int} (h : ∀ k, k < 7 → Q k = Q' k) (e : x = y) : ∀ k, k < 7 → pup Q j x k = pup Q' j y k := fun k hk => by unfold pup; rw [h k hk, e]
theorem qDot_cg {Q Q' : Nat → List Int × Int} (h : ∀ k, k < 7 → Q k = Q' k) : ∀ k, k < 7 → qDot Q k = qDot Q' k := fun k hk => by
  unfold qDot
  rw [h 0 (by decide), h 4 (by decide)]
  split
  · exact pgd_cg (pup_cg h rfl) k hk
  · exact h k hk
theorem qPrt_cg {Q Q' : Nat → List Int × Int} (h : ∀ k, k < 7 → Q k = Q' k) : ∀ k, k < 7 → qPrt Q k = qPrt Q' k := fun k hk => by
  have a : ∀ k, k < 7 → qPr1 Q k = qPr1 Q' k := fun k hk => by
    unfold qPr1
    rw [h 0 (by decide), h 3 (by decide)]
    split
    · exact pup_cg h rfl k hk
    · exact h k hk
  unfold qPrt qPr2
  rw [a 0 (by decide), a 2 (by decide), a 4 (by decide)]
  split
  · exact pup_cg a rfl k hk
  · exact a k hk
theorem S16 {sh : zSh} {V : wSt} {p t a : Nat} (hw : Int) (A : AllR sh V) (Z : zInj sh) (P : wPt sh p) (T : wPt sh t) (dt : pdj sh p t) (C : wCp sh p 808) (lt : wLe sh V t) (h5 : (pv sh V t 3).1.length ≤ 5) (ha : wAd sh a) : ∃ V', wcl zP 16 [wR p, wR t, wI hw, wR a] (sh, V) = rN (sh, V') ∧ PwA sh V V' p a (qNrm (pv sh V t) hw (V (sr sh a 0))) := by
  obtain ⟨T0, hT⟩ : ∃ Q, Q = pv sh V t := ⟨_, rfl⟩
  have na : (sk sh (sr sh a 0)).1 ≠ 13 ∧ (sk sh (sr sh a 0)).1 ≠ 1 := by rw [ha]; decide
  obtain ⟨V1, e1, w1⟩ := S24q (PwU.refl (p := p) A) Z P T dt C lt
  rw [← hT] at w1 h5 ⊢
  have lt4 : (T0 4).1.length ≤ 400 := by rw [hT]; exact lt 4 (by decide)
  obtain ⟨V2, e2, w2⟩ : ∃ V2, wev zP 16 5 [some (wR p), some (wR t), some (wI hw), some (wR a)] [] (sh, V1) = wev zP 16 15 [some (wR p), some (wR t), some (wI hw), some (wR a)] [] (sh, V2) ∧ PwU sh V V2 p (qN1 T0 hw) := by
    rw [w16_5]; unfold qN1
    by_cases c : wand hw 1 = 0
    · rw [if_pos c, if_pos c]; exact ⟨V1, rfl, w1⟩
    · rw [if_neg c, if_neg c]
      obtain ⟨V2, e2, w2⟩ := S17 w1.2.1 Z P
      exact ⟨V2, by rw [e2]; simp only [wcx_v, wput_n], (w1.trans w2).cg (qLet_cg w1.2.2)⟩
  obtain ⟨V3, e3, w3⟩ : ∃ V3, wev zP 16 15 [some (wR p), some (wR t), some (wI hw), some (wR a)] [] (sh, V2) = wev zP 16 25 [some (wR p), some (wR t), some (wI hw), some (wR a)] [] (sh, V3) ∧ PwU sh V V3 p (qN2 T0 hw) := by
    rw [w16_15]; unfold qN2
    by_cases c : wand hw 2 = 0
    · rw [if_pos c, if_pos c]; exact ⟨V2, rfl, w2⟩
    · rw [if_neg c, if_neg c]
      obtain ⟨V3, e3, w3⟩ := S18 w2.2.1 Z P
      exact ⟨V3, by rw [e3]; simp only [wcx_v, wput_n], (w2.trans w3).cg (qFre_cg w2.2.2)⟩
  have l3 := qN2_l T0 hw
  obtain ⟨V4, e4, w4⟩ : ∃ V4, wev zP 16 25 [some (wR p), some (wR t), some (wI hw), some (wR a)] [] (sh, V3) = wev zP 16 65 [some (wR p), some (wR t), some (wI hw), some (wR a)] [] (sh, V4) ∧ PwU sh V V4 p (qN3 T0 hw) := by
    rw [w16_25]; unfold qN3
    by_cases c : wand hw 4 = 0
    · rw [if_pos c, if_pos c]; exact ⟨V3, rfl, w3⟩
    · rw [if_neg c, if_neg c]
      have p0 : V3 (sr sh p 0) 2 = (qN2 T0 hw 0).2 := congrArg Prod.snd (w3.2.2 0 (by decide))
      have p4 : tx sh V3 (sr sh p 4) = (qN2 T0 hw 4).1 := congrArg Prod.fst (w3.2.2 4 (by decide))
      have go : ((qN2 T0 hw 0).2 ≠ 0 ∨ gl (qN2 T0 hw 4).1 0 = 47) → ∃ V4, wcx (wcl zP 80 [wR (sr sh p 4)] (sh, V3)) (fun v h' => wev zP 16 61 [some (wR p), some (wR t), some (wI hw), some (wR a)] (wput v []) h') wth = wev zP 16 65 [some (wR p), some (wR t), some (wI hw), some (wR a)] [] (sh, V4) ∧ PwU sh V V4 p (qDot (qN2 T0 hw)) := fun hc => by
        obtain ⟨V4, e4, w4⟩ := S80q w3 Z P
        have g4 := w4.2.2 4 (by decide)
        obtain ⟨V5, e5, w5⟩ := S30 w4.2.1 Z P (by
          rw [g4, C 4 (by decide), if_pos rfl]; unfold pup; rw [if_pos rfl]
          have := rdots_len (qN2 T0 hw 4).1
          have := l3 4
          show (rdots (qN2 T0 hw 4).1).length + 2 ≤ 808; omega)
        refine ⟨V5, ?_, (w4.trans w5).cg (fun k hk => ?_)⟩
        · rw [e4]; simp only [wcx_v, wput_n, w16_61]; rw [e5]; simp only [wcx_v, wput_n]
        · unfold qDot; rw [if_pos hc]; exact pgd_cg w4.2.2 k hk
      have stop : ¬ ((qN2 T0 hw 0).2 ≠ 0 ∨ gl (qN2 T0 hw 4).1 0 = 47) → PwU sh V V3 p (qDot (qN2 T0 hw)) := fun hc => by unfold qDot; rw [if_neg hc]; exact w3
      rw [p0]
      by_cases d : (qN2 T0 hw 0).2 = 0
      · rw [if_pos d, S57 (w3.2.1 _ (P.1 4 (by decide))), p4]
        simp only [wcx_v, wput_s, w16_49]
        by_cases f : gl (qN2 T0 hw 4).1 0 = 47
        · rw [if_pos f]; exact go (Or.inr f)
        · rw [if_neg f]; exact ⟨V3, rfl, stop (fun w => w.elim (fun z => z d) f)⟩
      · rw [if_neg d]; exact go (Or.inl d)
  obtain ⟨V5, e5, w5⟩ : ∃ V5, wev zP 16 65 [some (wR p), some (wR t), some (wI hw), some (wR a)] [] (sh, V4) = wev zP 16 76 [some (wR p), some (wR t), some (wI hw), some (wR a)] [] (sh, V5) ∧ PwU sh V V5 p (qN4 T0 hw) := by
    rw [w16_65]; unfold qN4
    by_cases c : wand hw 8 = 0
    · rw [if_pos c, if_pos c]; exact ⟨V4, rfl, w4⟩
    · rw [if_neg c, if_neg c]
      obtain ⟨V5, e5, w5⟩ := S19 w4.2.1 Z P C (by decide) (by
        rw [w4.2.2 3 (by decide)]
        have := l3 3
        have e : qN3 T0 hw 3 = qN2 T0 hw 3 := by
          unfold qN3; split
          · rfl
          · exact qDot_o _ 3 (by decide)
        rw [e]; omega)
      exact ⟨V5, by rw [e5]; simp only [wcx_v, wput_n], (w4.trans w5).cg (qPrt_cg w4.2.2)⟩
  have start : wcl zP 16 [wR p, wR t, wI hw, wR a] (sh, V) = wev zP 16 76 [some (wR p), some (wR t), some (wI hw), some (wR a)] [] (sh, V5) := by
    rw [w16_0, e1]; simp only [wcx_v, wput_n]; rw [e2, e3, e4, e5]
  rw [start, w16_76]
  unfold qNrm
  by_cases c : wand hw 16 = 0
  · rw [if_pos c, if_pos c]
    exact ⟨V5, by rw [w16_91], fun b hb _ => w5.1 b hb, w5.2⟩
  · rw [if_neg c, if_neg c]
    have q2 := w5.2.1 _ (P.1 2 (by decide))
    obtain ⟨V6, e6, f6, q6, x6⟩ := S12 ha q2 (by rw [C 2 (by decide), if_neg (by decide)])
    have oW : V5 (sr sh a 0) = V (sr sh a 0) := w5.1.no P na
    have keep : ∀ s, zRow sh s → s ≠ sr sh p 2 → V6 s = V5 s ∧ V6 (sr sh s 0) = V5 (sr sh s 0) := fun s hs n => by
      refine ⟨f6 s n (row_ne hs (P.1 2 (by decide))) (fun w => na.1 (by rw [← w, hs.1])), f6 _ (fun w => row_ne (P.1 2 (by decide)) hs w.symm) (Z s _ hs (P.1 2 (by decide)) n) (fun w => na.2 (by rw [← w]; exact hs.2.1))⟩
    refine ⟨V6, by rw [e6]; simp only [wcx_v, wput_n, w16_91], fun b hb nb => ?_, fun s hs => ?_, fun k hk => ?_⟩
    · rw [f6 b (hb 2 (by decide)).1 (hb 2 (by decide)).2 nb]; exact w5.1 b hb
    · by_cases n : s = sr sh p 2
      · rw [n]; exact q6
      · exact wRo_cg (keep s hs n).1 (w5.2.1 s hs)
    · unfold pup
      by_cases k2 : k = 2
      · subst k2
        rw [if_pos rfl]
        show (tx sh V6 (sr sh p 2), V6 (sr sh p 2) 2) = _
        rw [x6, oW, ← w5.2.2 2 (by decide)]; rfl
      · rw [if_neg k2, ← w5.2.2 k hk]
        have n := keep _ (P.1 k hk) (fun e => k2 (P.2 k 2 hk (by decide) e))
        unfold pv; rw [tx_cg n.1 n.2, n.1]
