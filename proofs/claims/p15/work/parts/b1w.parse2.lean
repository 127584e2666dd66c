set_option maxRecDepth 16384
/-! a text that is put together is read as it was, whole -/
theorem oc_host {f : Int → Int} {b e : Int} {H r : List Int} (hH : hSt H) (he : e = b + H.length + r.length) (hf : ∀ i : Int, 0 ≤ i → i < (H.length : Int) + r.length → f (b + i) = gl (H ++ r) i) (hr : r = [] ∨ ∃ D, r = 58 :: D ∧ nc 91 D ∧ nc 93 D ∧ nc 58 D) : oc f b e 0 (-1) = if r = [] then -1 else b + H.length := by
  have fH : ∀ k, b ≤ k → k < b + H.length → f k = gl H (k - b) := fun k h1 h2 => by
    have := hf (k - b) (by omega) (by omega)
    rw [show b + (k - b) = k by omega, gl_app1 _ _ (by omega)] at this; exact this
  have tail : ∀ c : Int, oc f (b + H.length) e 0 c = if r = [] then c else b + H.length := fun c => by
    rcases hr with w | ⟨D, w, n1, n2, n3⟩
    · rw [if_pos w, (oc_st f _ e 0 c).1 (by rw [he, w]; simp only [List.length_nil]; omega)]
    · have rl : (r.length : Int) = D.length + 1 := by rw [w, List.length_cons]; omega
      have f0 : f (b + H.length) = 58 := by rw [hf _ (by omega) (by omega), gl_app0 _ _ (by omega), Int.sub_self, w]; rfl
      rw [if_neg (by rw [w]; exact List.cons_ne_nil _ _), ((oc_st f (b + H.length) e 0 c).2 (by omega)).2.2.1 f0 rfl, oc_skip (k2 := e) (Int.le_refl e) _ (b + H.length + 1) rfl (by omega) (fun i h1 h2 => ?_), (oc_st f e e 0 _).1 (Int.le_refl e)]
      have g : f i = gl D (i - b - H.length - 1) := by
        have := hf (i - b) (by omega) (by omega)
        rw [show b + (i - b) = i by omega, gl_app0 _ _ (by omega), w, gl_cons, if_neg (by omega)] at this; exact this
      rw [g]; exact ⟨n1 _, n2 _, Or.inl (n3 _)⟩
  rcases hH with ⟨m1, m2, m3⟩ | ⟨l2, h0, h1, hn⟩
  · rw [oc_skip (k2 := b + H.length) (by omega) _ b rfl (by omega) (fun i g1 g2 => by rw [fH i g1 g2]; exact ⟨m2 _, m3 _, Or.inl (m1 _)⟩), tail]
  · have e0 : f b = 91 := by rw [fH b (by omega) (by omega), Int.sub_self]; exact h0
    have e1 : f (b + H.length - 1) = 93 := by rw [fH _ (by omega) (by omega), show b + (H.length : Int) - 1 - b = H.length - 1 by omega]; exact h1
    rw [((oc_st f b e 0 (-1)).2 (by omega)).1 e0, oc_skip1 (k2 := b + H.length - 1) (by omega) _ (b + 1) rfl (by omega) (fun i g1 g2 => by rw [fH i (by omega) (by omega)]; exact hn _ (by omega) (by omega)), ((oc_st f (b + H.length - 1) e 1 (-1)).2 (by omega)).2.1 e1, show b + (H.length : Int) - 1 + 1 = b + H.length by omega, tail]
theorem cut_cmp {Q : Nat → List Int × Int} (F : Fl Q) (S : Sr Q) (N : Nc Q) : ∀ k, k < 7 → cutQ (cmp Q) k = Q k := by
  obtain ⟨T, hT0⟩ : ∃ T, T = cmp Q := ⟨_, rfl⟩
  obtain ⟨s, hs⟩ : ∃ s, s = wm (Q 0) (-1) 58 := ⟨_, rfl⟩
  obtain ⟨a, ha⟩ : ∃ a, a = aut Q := ⟨_, rfl⟩
  obtain ⟨p, hp⟩ : ∃ p, p = (Q 4).1 := ⟨_, rfl⟩
  obtain ⟨q, hq⟩ : ∃ q, q = wm (Q 5) 63 (-1) := ⟨_, rfl⟩
  obtain ⟨f, hf⟩ : ∃ f, f = wm (Q 6) 35 (-1) := ⟨_, rfl⟩
  have hT : T = s ++ (a ++ (p ++ (q ++ f))) := by rw [hT0, cmp_5 Q F.2.2.1, hs, ha, hp, hq, hf]
  obtain ⟨kh, kq, kc, kc1, kp, ko, ka⟩ := parse F S N hs ha hp hq hf hT
  have tl : (T.length : Int) = (s.length : Int) + a.length + p.length + q.length + f.length := by rw [hT]; simp only [List.length_append]; omega
  rw [← hT0]
  have absent : ∀ k, k < 7 → zB (gl T) T.length k = -1 → (Q k).2 = 0 → cutQ T k = Q k := fun k hk h1 h2 => by
    unfold cutQ
    rw [if_pos h1, if_pos h1]
    exact Prod.ext (F.2.1 k hk h2).symm h2.symm
  have there : ∀ (k : Nat) (A C : List Int), k < 7 → (Q k).2 = 1 → T = A ++ ((Q k).1 ++ C) → zB (gl T) T.length k = A.length → zE (gl T) T.length k = (A.length : Int) + (Q k).1.length → cutQ T k = Q k := fun k A C hk h1 h2 h3 h4 => by
    unfold cutQ
    rw [if_neg (by omega), if_neg (by omega), h3, h4]
    refine Prod.ext ?_ h1.symm
    show sub T A.length ((A.length : Int) + (Q k).1.length) = (Q k).1
    rw [h2]; exact sub_mid A _ C rfl rfl
  -- scheme
  have c0 : cutQ T 0 = Q 0 := by
    have z0 := zBE0 (gl T) T.length
    rcases F.1 0 (by decide) with e | e
    · refine absent 0 (by decide) ?_ e
      exact (z0.2 (by have := fun w => kc.mp w; omega)).1
    · have z := z0.1 (kc.mpr e)
      refine there 0 [] ([58] ++ (a ++ (p ++ (q ++ f)))) (by decide) e ?_ ?_ ?_
      · rw [hT, hs, wm_1 _ _ e]; simp only [List.nil_append, List.append_assoc, List.cons_append, if_pos, if_neg (show ¬ (58 : Int) = -1 by decide)]
      · rw [z.1]; rfl
      · rw [z.2, kc1 e]; simp only [List.length_nil]; omega
  -- query
  have c5 : cutQ T 5 = Q 5 := by
    have z5 := zBE5 (gl T) T.length
    rcases F.1 5 (by decide) with e | e
    · refine absent 5 (by decide) ?_ e
      exact (z5.2 (by rw [kh, kq, hq, wm_0 _ _ e]; simp only [List.length_nil]; omega)).1
    · have qe : q = [63] ++ (Q 5).1 := by rw [hq, wm_1 _ _ e]; simp only [if_pos, if_neg (show ¬ (63 : Int) = -1 by decide), List.append_nil]
      have ql : (q.length : Int) = 1 + (Q 5).1.length := by rw [qe]; simp only [List.length_append, List.length_cons, List.length_nil]; omega
      have z := z5.1 (by rw [kh, kq]; omega)
      refine there 5 (s ++ (a ++ (p ++ [63]))) f (by decide) e ?_ ?_ ?_
      · rw [hT, qe]; simp only [List.append_assoc]
      · rw [z.1, kq]; simp only [List.length_append, List.length_cons, List.length_nil]; omega
      · rw [z.2, kh, ql]; simp only [List.length_append, List.length_cons, List.length_nil]; omega
  -- fragment
  have c6 : cutQ T 6 = Q 6 := by
    have z6 := zBE6 (gl T) T.length
    rcases F.1 6 (by decide) with e | e
    · refine absent 6 (by decide) ?_ e
      exact (z6.2 (by rw [kh, tl, hf, wm_0 _ _ e]; simp only [List.length_nil]; omega)).1
    · have fe : f = [35] ++ (Q 6).1 := by rw [hf, wm_1 _ _ e]; simp only [if_pos, if_neg (show ¬ (35 : Int) = -1 by decide), List.append_nil]
      have fl : (f.length : Int) = 1 + (Q 6).1.length := by rw [fe]; simp only [List.length_append, List.length_cons, List.length_nil]; omega
      have z := z6.1 (by rw [kh]; omega)
      refine there 6 (s ++ (a ++ (p ++ (q ++ [35])))) [] (by decide) e ?_ ?_ ?_
      · rw [hT, fe]; simp only [List.append_assoc, List.append_nil]
      · rw [z.1, kh]; simp only [List.length_append, List.length_cons, List.length_nil]; omega
      · rw [z.2, tl, fl]; simp only [List.length_append, List.length_cons, List.length_nil]; omega
  have za := zBEa (gl T) T.length
  -- path
  have c4 : cutQ T 4 = Q 4 := by
    refine there 4 (s ++ a) (q ++ f) (by decide) F.2.2.1 (by rw [hT, ← hp]; simp only [List.append_assoc]) ?_ ?_
    · rw [List.length_append]
      by_cases h2 : (Q 2).2 = 1
      · rw [(za.2.1 (ko.mpr h2)).2.2.2.2.2.2, ka h2]; omega
      · have h2' : (Q 2).2 = 0 := (F.1 2 (by decide)).resolve_right h2
        have o0 : kO (gl T) T.length = 0 := by
          have : kO (gl T) T.length = 0 ∨ kO (gl T) T.length = 1 := by unfold kO; split <;> omega
          exact this.resolve_right (fun w => h2 (ko.mp w))
        have al : a.length = 0 := by
          rw [ha]; unfold aut; rw [if_pos h2', wm_0 _ _ (F.2.2.2.1 h2'), wm_0 _ _ h2', wm_0 _ _ (F.2.2.2.2 h2')]; rfl
        rw [(za.2.2 o0).2.2.2.2.2.2, kp]; omega
    · rw [za.1, kq, List.length_append, ← hp]; omega
  -- authority
  have c123 : cutQ T 1 = Q 1 ∧ cutQ T 2 = Q 2 ∧ cutQ T 3 = Q 3 := by
    by_cases h2 : (Q 2).2 = 1
    rotate_left
    · have h2' : (Q 2).2 = 0 := (F.1 2 (by decide)).resolve_right h2
      have o0 : kO (gl T) T.length = 0 := by
        have : kO (gl T) T.length = 0 ∨ kO (gl T) T.length = 1 := by unfold kO; split <;> omega
        exact this.resolve_right (fun w => h2 (ko.mp w))
      have z := za.2.2 o0
      exact ⟨absent 1 (by decide) z.1 (F.2.2.2.1 h2'), absent 2 (by decide) z.2.2.1 h2', absent 3 (by decide) z.2.2.2.2.1 (F.2.2.2.2 h2')⟩
    have z := za.2.1 (ko.mpr h2)
    rw [kp, ka h2] at z
    obtain ⟨u, hu⟩ : ∃ u, u = wm (Q 1) (-1) 64 := ⟨_, rfl⟩
    obtain ⟨r, hr⟩ : ∃ r, r = wm (Q 3) 58 (-1) := ⟨_, rfl⟩
    have we : wm (Q 2) (-1) (-1) = (Q 2).1 := by rw [wm_1 _ _ h2]; simp only [if_pos, List.nil_append, List.append_nil]
    have ae : a = [47, 47] ++ (u ++ ((Q 2).1 ++ r)) := by rw [ha, hu, hr]; unfold aut; rw [if_neg (by omega), we]
    have al : (a.length : Int) = 2 + u.length + (Q 2).1.length + r.length := by rw [ae]; simp only [List.length_append, List.length_cons, List.length_nil]; omega
    obtain ⟨b0, hb0⟩ : ∃ b0 : Int, b0 = (s.length : Int) + 2 := ⟨_, rfl⟩
    obtain ⟨e0, he0⟩ : ∃ e0 : Int, e0 = (s.length : Int) + a.length := ⟨_, rfl⟩
    rw [← hb0, ← he0] at z
    have reg : ∀ i : Int, 0 ≤ i → i < (u.length : Int) + (Q 2).1.length + r.length → gl T (b0 + i) = gl (u ++ ((Q 2).1 ++ r)) i := fun i h0 h1 => by
      rw [hT, gl_app0 _ _ (by omega), gl_app1 _ _ (by omega), ae, gl_app0 _ _ (by simp only [List.length_cons, List.length_nil]; omega)]
      congr 1
      simp only [List.length_cons, List.length_nil]; omega
    have n64 : nc 64 ((Q 2).1 ++ r) := nc_app N.2.2.2.2.1 (by rw [hr]; exact wm_n N.2.2.2.2.2.1 (by decide) (by decide) (by decide))
    have user : (aS1 (gl T) b0 e0 = if (Q 1).2 = 0 then -1 else b0) ∧ ((Q 1).2 = 1 → fli (gl T) 64 b0 (e0 - 1) = b0 + (Q 1).1.length) ∧ pB (gl T) b0 e0 = b0 + u.length := by
      have st := aS1_st (gl T) b0 e0
      rcases F.1 1 (by decide) with e | e
      · have ue : u = [] := by rw [hu, wm_0 _ _ e]
        have u0 : u.length = 0 := by rw [ue]; rfl
        have fn : fli (gl T) 64 b0 (e0 - 1) = -1 := fli_no _ _ rfl (fun k h1 h3 => by
          have := reg (k - b0) (by omega) (by omega)
          rw [show b0 + (k - b0) = k by omega] at this
          rw [this, ue, List.nil_append]; exact n64 _)
        rw [if_pos e, (st.1 fn).1, (st.1 fn).2]; exact ⟨rfl, fun w => by omega, by omega⟩
      · have ue : u = (Q 1).1 ++ [64] := by rw [hu, wm_1 _ _ e]; simp only [if_pos, List.nil_append, if_neg (show ¬ (64 : Int) = -1 by decide)]
        have ul : (u.length : Int) = (Q 1).1.length + 1 := by rw [ue]; simp only [List.length_append, List.length_cons, List.length_nil]; omega
        have fa : fli (gl T) 64 b0 (e0 - 1) = b0 + (Q 1).1.length := by
          refine fli_at (by omega) ?_ _ _ rfl (by omega) (fun k h1 h3 => ?_)
          · rw [reg _ (by omega) (by omega), gl_app1 _ _ (by omega), ue, gl_app0 _ _ (Int.le_refl _), Int.sub_self]; rfl
          · have := reg (k - b0) (by omega) (by omega)
            rw [show b0 + (k - b0) = k by omega] at this
            rw [this, gl_app0 _ _ (by omega)]; exact n64 _
        rw [if_neg (by omega), (st.2 (by omega)).1, (st.2 (by omega)).2, fa]; exact ⟨rfl, fun _ => rfl, by omega⟩
    have port : pK (gl T) b0 e0 = if r = [] then -1 else b0 + u.length + (Q 2).1.length := by
      unfold pK
      rw [user.2.2]
      have hr2 : r = [] ∨ ∃ D, r = 58 :: D ∧ nc 91 D ∧ nc 93 D ∧ nc 58 D := by
        rcases F.1 3 (by decide) with e | e
        · exact Or.inl (by rw [hr, wm_0 _ _ e])
        · exact Or.inr ⟨(Q 3).1, by rw [hr, wm_1 _ _ e]; simp only [if_pos, List.append_nil, if_neg (show ¬ (58 : Int) = -1 by decide), List.singleton_append], N.2.2.2.2.2.2.1⟩
      exact oc_host N.2.2.2.2.2.2.2 (by omega) (fun i h0 h1 => by
        have := reg (u.length + i) (by omega) (by omega)
        rw [gl_app0 _ _ (by omega)] at this
        rw [show b0 + (u.length : Int) + i = b0 + (u.length + i) by omega, this]; congr 1; omega) hr2
    have ak := aK_st (gl T) b0 e0
    refine ⟨?_, ?_, ?_⟩
    · rcases F.1 1 (by decide) with e | e
      · exact absent 1 (by decide) (by rw [z.1, user.1, if_pos e]) e
      · have ue : u = (Q 1).1 ++ [64] := by rw [hu, wm_1 _ _ e]; simp only [if_pos, List.nil_append, if_neg (show ¬ (64 : Int) = -1 by decide)]
        refine there 1 (s ++ [47, 47]) ([64] ++ ((Q 2).1 ++ (r ++ (p ++ (q ++ f))))) (by decide) e ?_ ?_ ?_
        · rw [hT, ae, ue]; simp only [List.append_assoc]
        · rw [z.1, user.1, if_neg (by omega), hb0]; simp only [List.length_append, List.length_cons, List.length_nil]; omega
        · rw [z.2.1, user.2.1 e, hb0]; simp only [List.length_append, List.length_cons, List.length_nil]; omega
    · refine there 2 (s ++ ([47, 47] ++ u)) (r ++ (p ++ (q ++ f))) (by decide) h2 ?_ ?_ ?_
      · rw [hT, ae]; simp only [List.append_assoc]
      · rw [z.2.2.1, user.2.2, hb0]; simp only [List.length_append, List.length_cons, List.length_nil]; omega
      · rw [z.2.2.2.1]
        by_cases re : r = []
        · rw [if_pos re] at port
          rw [(ak.1 port).1]
          have : r.length = 0 := by rw [re]; rfl
          simp only [List.length_append, List.length_cons, List.length_nil]; omega
        · rw [if_neg re] at port
          rw [(ak.2 (by omega)).1, port]; simp only [List.length_append, List.length_cons, List.length_nil]; omega
    · rcases F.1 3 (by decide) with e | e
      · have re : r = [] := by rw [hr, wm_0 _ _ e]
        rw [if_pos re] at port
        exact absent 3 (by decide) (by rw [z.2.2.2.2.1, (ak.1 port).2.1]) e
      · have re : r = [58] ++ (Q 3).1 := by rw [hr, wm_1 _ _ e]; simp only [if_pos, List.append_nil, if_neg (show ¬ (58 : Int) = -1 by decide)]
        have rn : r ≠ [] := by rw [re]; exact List.cons_ne_nil _ _
        have rl : (r.length : Int) = 1 + (Q 3).1.length := by rw [re]; simp only [List.length_append, List.length_cons, List.length_nil]; omega
        rw [if_neg rn] at port
        have k2 := ak.2 (by omega)
        refine there 3 (s ++ ([47, 47] ++ (u ++ ((Q 2).1 ++ [58])))) (p ++ (q ++ f)) (by decide) e ?_ ?_ ?_
        · rw [hT, ae, re]; simp only [List.append_assoc]
        · rw [z.2.2.2.2.1, k2.2.1, port]; simp only [List.length_append, List.length_cons, List.length_nil]; omega
        · rw [z.2.2.2.2.2.1, k2.2.2, he0, al, rl]; simp only [List.length_append, List.length_cons, List.length_nil]; omega
  intro k hk
  rcases (by omega : k = 0 ∨ k = 1 ∨ k = 2 ∨ k = 3 ∨ k = 4 ∨ k = 5 ∨ k = 6) with e | e | e | e | e | e | e <;> subst e
  · exact c0
  · exact c123.1
  · exact c123.2.1
  · exact c123.2.2
  · exact c4
  · exact c5
  · exact c6
