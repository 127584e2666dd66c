set_option maxRecDepth 16384
/-! the model's relating -/
theorem qWm_len (w : Int) (B T : List Int) : (cmm (qWm w (cutQ B) (cutQ T))).length ≤ 3 * B.length + T.length + T.length + 40 := by
  have cB := cut_sum B
  have cT := cut_sum T
  have q := cmm_len (qWm w (cutQ B) (cutQ T))
  have p := qWm_p w (cutQ B) (cutQ T)
  have e6 : qWm w (cutQ B) (cutQ T) 6 = cutQ T 6 := qWm_o (by decide)
  have al : ∀ k, k < 7 → k ≠ 4 → (qWm w (cutQ B) (cutQ T) k).1.length ≤ (cutQ T k).1.length := fun k hk k4 => by
    rw [qWm_o k4]
    unfold qWay
    by_cases k6 : k = 6
    · rw [if_pos k6, k6]; exact Nat.le_refl _
    · rw [if_neg k6]
      by_cases k5 : k = 5
      · rw [if_pos k5]; split
        · rw [k5]; exact Nat.le_refl _
        · exact Nat.zero_le _
      · rw [if_neg k5, if_neg k4]
        by_cases k0 : k = 0
        · rw [if_pos k0]; split
          · rw [k0]; exact Nat.le_refl _
          · exact Nat.zero_le _
        · rw [if_neg k0]; split
          · exact Nat.le_refl _
          · exact Nat.zero_le _
  have l4 : (qWm w (cutQ B) (cutQ T) 4).1.length ≤ 3 * (cutQ B 4).1.length + (2 + (cutQ T 4).1.length) := by
    by_cases a : w = 2
    · rw [p.1 a]
      show (clm (cutQ B 4).1 (cutQ T 4).1).length ≤ _
      unfold clm
      have sr := shb_r (cutQ B 4).1 (cutQ T 4).1
      have lr := lc_r 47 ((cutQ B 4).1.drop (shb (cutQ B 4).1 (cutQ T 4).1).toNat)
      rw [List.length_drop] at lr
      rw [List.length_append, List.length_append, ups_len, List.length_drop]
      have : (if lc 47 ((cutQ B 4).1.drop (shb (cutQ B 4).1 (cutQ T 4).1).toNat) = 0 ∧ ndp (cutQ T 4).1 (shb (cutQ B 4).1 (cutQ T 4).1) = 1 then ([46, 47] : List Int) else []).length ≤ 2 := by split <;> decide
      omega
    · by_cases b : 3 ≤ w
      · rw [p.2.1 b]; omega
      · rw [p.2.2 (by omega)]; exact Nat.zero_le _
  have l0 := al 0 (by decide) (by decide)
  have l1 := al 1 (by decide) (by decide)
  have l2 := al 2 (by decide) (by decide)
  have l3 := al 3 (by decide) (by decide)
  have l5 := al 5 (by decide) (by decide)
  have l6 := al 6 (by decide) (by decide)
  clear p al e6
  omega
/-- an offer is taken: both ways the same -/
theorem way_ok {Lb Lt : List Int} (gB : Good (cutQ Lb)) (gT : Good (cutQ Lt)) (b1 : (cutQ Lb 0).2 = 1) (w : Int) (s : Int) (hs : s ≤ 401) : (pln (qWay w (cutQ Lb) (cutQ Lt)) < s ∧ bI (wOk (cutQ Lb) (cutQ Lt) w) = 1) ↔ (((cmm (qWm w (cutQ Lb) (cutQ Lt))).length ≤ 400 ∧ ∀ k : Nat, k < 7 → cutQ (cmp (qWm w (cutQ Lb) (cutQ Lt))) k = qWm w (cutQ Lb) (cutQ Lt) k) ∧ ((cmm (qWm w (cutQ Lb) (cutQ Lt))).length : Int) < s ∧ cmm (qRes (fun _ => ([], 0)) (cutQ Lb) (cutQ (cmm (qWm w (cutQ Lb) (cutQ Lt)))) 1) = Lt) := by
  rw [way_len w _ _ gT.1 s hs, bI_i]
  obtain ⟨B, hB⟩ : ∃ B, B = cutQ Lb := ⟨_, rfl⟩
  obtain ⟨T, hT⟩ : ∃ T, T = cutQ Lt := ⟨_, rfl⟩
  have eT : cmp T = Lt := by rw [hT]; exact cmp_cut Lt
  rw [← hB] at gB b1 ⊢
  rw [← hT] at gT ⊢
  have FF := qWm_Fl (w := w) (B := B) gT.1
  have VV := qWm_Va (w := w) (B := B) gT.2.2
  have e := cmm_cmp FF
  have main : (cmm (qWm w B T)).length ≤ 400 → (wOk B T w ↔ ((∀ k : Nat, k < 7 → cutQ (cmp (qWm w B T)) k = qWm w B T k) ∧ cmm (qRes (fun _ => ([], 0)) B (cutQ (cmm (qWm w B T))) 1) = Lt)) := fun l => by
    have p := cmm_path FF
    have qe : qWay w B T = qWm w B T := funext ((qWay_p w B T gT.1).1 (by omega))
    unfold wOk
    rw [qe]
    refine and_congr_right (fun h => ?_)
    have gR : Good (cutQ (cmm (qWm w B T))) := Good_cut (by rw [e]; exact Va_cg (fun k hk => (h k hk).symm) VV)
    have cg := qRes_cg (Q := fun _ => ([], 0)) (Q' := fun _ => ([], 0)) (B := B) (B' := B) (R := cutQ (cmm (qWm w B T))) (R' := qWm w B T) 1 (fun _ _ => rfl) (fun k hk => by rw [e]; exact h k hk)
    have gq := (qRes_good (Q0 := fun _ => ([], 0)) 1 gB gR b1).1
    constructor
    · intro h2
      rw [cmm_cmp gq.1, cmp_cg (fun k hk => (cg k hk).trans (h2 k hk)), eT]
    · intro h2 k hk
      rw [← cg k hk, ← gq.cut k hk, ← cmm_cmp gq.1, h2, ← hT]
  constructor
  · intro ⟨⟨h1, h2⟩, h3⟩
    obtain ⟨a, b⟩ := (main h2).mp h3
    exact ⟨⟨h2, a⟩, h1, b⟩
  · intro ⟨⟨h1, h2⟩, h3, h4⟩
    exact ⟨⟨h3, h1⟩, (main h1).mpr ⟨h2, h4⟩⟩
section
variable {sh : zSh} {m : Nat} {V : wSt} {tp ou : List Int} {rw' : Nat → List Int}
/-- the best so far -/
def Bst (sh : zSh) (V : wSt) (m : Nat) (B T : Nat → List Int × Int) (fd be s : Int) : Prop := (fd = 0 ∧ be = -1 ∧ s = 401) ∨ (fd = 1 ∧ 0 ≤ be ∧ s = ((cmm (qWm be B T)).length : Int) ∧ s ≤ 400 ∧ mx sh V m 10 = cmm (qWm be B T) ∧ V (sr sh m 2) 10 = s)
theorem M192_91 (M : wMd sh m) {b t : Int} (hb : 0 ≤ b ∧ b ≤ 7) (ht : 0 ≤ t ∧ t ≤ 7) (i c0 : Int) (gB : Good (cutQ (rw' b.toNat))) (gT : Good (cutQ (rw' t.toNat))) (b1 : (cutQ (rw' b.toNat) 0).2 = 1) : ∀ (n : Nat) (V : wSt) (w fd be s : Int), 6 - w = n → 0 ≤ w → Mx sh m V tp ou rw' → V m 0 = c0 → Bst sh V m (cutQ (rw' b.toNat)) (cutQ (rw' t.toNat)) fd be s → ∃ V' fd' s', wev zP 192 91 [some (wR m), some (wI i), some (wI b), some (wI t), some (wI fd), some (wI w)] [] (sh, V) = wev zP 192 91 [some (wR m), some (wI i), some (wI b), some (wI t), some (wI fd'), some (wI 6)] [] (sh, V') ∧ Mx sh m V' tp ou rw' ∧ V' m 0 = c0 ∧ Bst sh V' m (cutQ (rw' b.toNat)) (cutQ (rw' t.toNat)) fd' (bwA (cutQ (rw' b.toNat)) (cutQ (rw' t.toNat)) n w be s) s' := by
  intro n
  induction n with
  | zero =>
    intro V w fd be s hn hw ms z bs
    rw [show w = 6 by omega]
    exact ⟨V, fd, s, rfl, ms, z, bs⟩
  | succ n ih =>
    intro V w fd be s hn hw ms z bs
    have lb := ms.2.2.2.2.2.2 b.toNat (by omega)
    have lt := ms.2.2.2.2.2.2 t.toNat (by omega)
    have ql := qWm_len w (rw' b.toNat) (rw' t.toNat)
    obtain ⟨V1, e1, sm, Z, K⟩ := M191 M ms (w := w) ⟨hw, by omega⟩ hb ht gB.2.2
    obtain ⟨Q, hQ⟩ : ∃ Q, Q = qWm w (cutQ (rw' b.toNat)) (cutQ (rw' t.toNat)) := ⟨_, rfl⟩
    have FQ : Fl Q := by rw [hQ]; exact qWm_Fl gT.1
    have VQ : Va Q := by rw [hQ]; exact qWm_Va gT.2.2
    have wo := way_ok gB gT b1 w s (by rcases bs with h | h <;> omega)
    rw [← hQ] at Z K ql wo
    have lo1 : lOk sh V1 m := fun k hk k4 => by
      have a := (Z k hk).1
      have := cmm_sum Q
      by_cases z : (Q k).2 = 0
      · rw [a, FQ.2.1 k hk z]; exact ⟨by decide, by decide⟩
      · have e := jn_l2 z
        have l : (Q k).1.length ≤ (jn Q k).length := by rw [e]; simp only [List.length_append]; omega
        have kk : (Q k).1.length ≤ 1500 := by
          rw [hQ, qWm_o k4]
          have cT := cut_sum (rw' t.toNat)
          have ct : ∀ j, j < 7 → (cutQ (rw' t.toNat) j).1.length ≤ 400 := fun j hj => by
            rcases (by omega : j = 0 ∨ j = 1 ∨ j = 2 ∨ j = 3 ∨ j = 4 ∨ j = 5 ∨ j = 6) with q | q | q | q | q | q | q <;> subst q <;> omega
          have tk := ct k hk
          unfold qWay
          split
          · have := ct 6 (by decide); omega
          · split
            · split
              · have := ct 5 (by decide); omega
              · exact Nat.zero_le _
            · split
              · split
                · have := ct 0 (by decide); omega
                · exact Nat.zero_le _
              · split
                · omega
                · exact Nat.zero_le _
        omega
    have s1 := ms.same sm lo1
    have z1 : V1 m 0 = c0 := by rw [sm.2.2.2]; exact z
    have bs1 : Bst sh V1 m (cutQ (rw' b.toNat)) (cutQ (rw' t.toNat)) fd be s := by
      unfold Bst at bs ⊢
      rw [sm.mx, sm.2.1]; exact bs
    have hf : fd = 0 ∨ fd = 1 := by rcases bs with h | h <;> omega
    obtain ⟨L, hL⟩ : ∃ L, L = cmm (qWm be (cutQ (rw' b.toNat)) (cutQ (rw' t.toNat))) := ⟨_, rfl⟩
    -- one offer
    have go : ∀ (V2 : wSt) (y be2 s2 : Int), wcl zP 189 [wR m, wI b, wI t, wI fd] (sh, V1) = rI y (sh, V2) → Mx sh m V2 tp ou rw' → V2 m 0 = c0 → Bst sh V2 m (cutQ (rw' b.toNat)) (cutQ (rw' t.toNat)) y be2 s2 → bwA (cutQ (rw' b.toNat)) (cutQ (rw' t.toNat)) (n + 1) w be s = bwA (cutQ (rw' b.toNat)) (cutQ (rw' t.toNat)) n (w + 1) be2 s2 → ∃ V' fd' s', wev zP 192 91 [some (wR m), some (wI i), some (wI b), some (wI t), some (wI fd), some (wI w)] [] (sh, V) = wev zP 192 91 [some (wR m), some (wI i), some (wI b), some (wI t), some (wI fd'), some (wI 6)] [] (sh, V') ∧ Mx sh m V' tp ou rw' ∧ V' m 0 = c0 ∧ Bst sh V' m (cutQ (rw' b.toNat)) (cutQ (rw' t.toNat)) fd' (bwA (cutQ (rw' b.toNat)) (cutQ (rw' t.toNat)) (n + 1) w be s) s' := fun V2 y be2 s2 e2 m2 z2 b2 ee => by
      obtain ⟨V3, fd3, s3, e3, m3, z3, b3⟩ := ih V2 (w + 1) y be2 s2 (by omega) (by omega) m2 z2 b2
      refine ⟨V3, fd3, s3, ?_, m3, z3, by rw [ee]; exact b3⟩
      rw [w192_91, if_neg (by omega), e1]
      simp only [wcx_v, wput_n, w192_106]
      rw [e2]
      simp only [wcx_v, wput_s, w192_114]
      rw [wr_eq (by omega) (by omega), e3]
    have st : bwA (cutQ (rw' b.toNat)) (cutQ (rw' t.toNat)) (n + 1) w be s = if pln (qWay w (cutQ (rw' b.toNat)) (cutQ (rw' t.toNat))) < s ∧ bI (wOk (cutQ (rw' b.toNat)) (cutQ (rw' t.toNat)) w) = 1 then bwA (cutQ (rw' b.toNat)) (cutQ (rw' t.toNat)) n (w + 1) w (pln (qWay w (cutQ (rw' b.toNat)) (cutQ (rw' t.toNat)))) else bwA (cutQ (rw' b.toNat)) (cutQ (rw' t.toNat)) n (w + 1) be s := rfl
    have hLl : fd = 1 → L.length ≤ 400 ∧ s = (L.length : Int) := fun f => by
      rcases bs with h | h
      · omega
      · rw [hL]; omega
    obtain ⟨L2, l2, e2⟩ : ∃ L2 : List Int, L2.length ≤ 400 ∧ (fd = 1 → L2 = L) := by
      rcases hf with f | f
      · exact ⟨[], by decide, fun w => by omega⟩
      · exact ⟨L, (hLl f).1, fun _ => rfl⟩
    have m189 := M189 M s1 FQ VQ Z K (by omega) hb ht hf l2 (fun f => by
      rw [e2 f]
      rcases bs1 with h | h
      · omega
      · obtain ⟨-, -, p, -, q, r⟩ := h
        exact ⟨by rw [hL]; exact q, by rw [r, p, hL]⟩) (ok := pln (qWay w (cutQ (rw' b.toNat)) (cutQ (rw' t.toNat))) < s ∧ bI (wOk (cutQ (rw' b.toNat)) (cutQ (rw' t.toNat)) w) = 1) (by
      rw [wo]
      refine ⟨fun ⟨p, q, r⟩ => ⟨p, ?_, r⟩, fun ⟨p, q, r⟩ => ⟨p, ?_, r⟩⟩
      · rcases hf with f | f
        · exact Or.inl f
        · rw [e2 f]; have := (hLl f).2; exact Or.inr (by omega)
      · rcases hf with f | f
        · rcases bs with h | h
          · have := p.1; omega
          · omega
        · have := (hLl f).2
          rw [e2 f] at q
          have := q.resolve_left (by omega)
          omega)
    by_cases c : pln (qWay w (cutQ (rw' b.toNat)) (cutQ (rw' t.toNat))) < s ∧ bI (wOk (cutQ (rw' b.toNat)) (cutQ (rw' t.toNat)) w) = 1
    · obtain ⟨V2, e3, m2, z2, x2, y2⟩ := m189.1 c
      rw [if_pos c] at st
      have c4 := (wo.mp c).1.1
      have pe : pln (qWay w (cutQ (rw' b.toNat)) (cutQ (rw' t.toNat))) = ((cmm Q).length : Int) := by
        have p := cmm_path FQ
        have qe : qWay w (cutQ (rw' b.toNat)) (cutQ (rw' t.toNat)) = Q := by rw [hQ]; exact funext ((qWay_p w _ _ gT.1).1 (by rw [← hQ]; omega))
        rw [qe, pln_cmp FQ, cmm_cmp FQ]
      exact go V2 1 w _ e3 m2 (by rw [z2]; exact z1) (Or.inr ⟨rfl, hw, by rw [pe, hQ], by rw [pe]; omega, by rw [x2, hQ], by rw [y2, pe]⟩) st
    · obtain ⟨V2, e3, m2, z2, k2⟩ := m189.2 c
      rw [if_neg c] at st
      refine go V2 fd be s e3 m2 (by rw [z2]; exact z1) ?_ st
      rcases bs1 with h | h
      · exact Or.inl h
      · obtain ⟨p1, p2, p3, p4, p5, p6⟩ := h
        obtain ⟨x, y⟩ := k2 p1
        rw [e2 p1] at x y
        exact Or.inr ⟨p1, p2, p3, p4, by rw [x, hL], by rw [y, p3, hL]⟩
theorem M192 (M : wMd sh m) (s : Mx sh m V tp ou rw') (i b t : Int) (hv : ∀ p : Nat, p < 8 → Va (cutQ (rw' p))) : (¬ ((0 ≤ i ∧ i ≤ 7) ∧ (0 ≤ b ∧ b ≤ 7) ∧ (0 ≤ t ∧ t ≤ 7)) → wcl zP 192 [wR m, wI i, wI b, wI t] (sh, V) = rI 0 (sh, uI V m 0 1)) ∧
    ((0 ≤ i ∧ i ≤ 7) ∧ (0 ≤ b ∧ b ≤ 7) ∧ (0 ≤ t ∧ t ≤ 7) → ((cutQ (rw' b.toNat) 0).2 = 0 ∨ (cutQ (rw' t.toNat) 0).2 = 0) → ∃ V', wcl zP 192 [wR m, wI i, wI b, wI t] (sh, V) = rI 0 (sh, V') ∧ Mx sh m V' tp ou rw' ∧ V' m 0 = 2) ∧
    ((0 ≤ i ∧ i ≤ 7) ∧ (0 ≤ b ∧ b ≤ 7) ∧ (0 ≤ t ∧ t ≤ 7) → ¬ ((cutQ (rw' b.toNat) 0).2 = 0 ∨ (cutQ (rw' t.toNat) 0).2 = 0) → ∀ w, w = bway (cutQ (rw' b.toNat)) (cutQ (rw' t.toNat)) →
      (w = -1 → ∃ V', wcl zP 192 [wR m, wI i, wI b, wI t] (sh, V) = rI 0 (sh, V') ∧ Mx sh m V' tp ou rw' ∧ V' m 0 = 3) ∧
      (w ≠ -1 → ∀ N, N = cmm (qWm w (cutQ (rw' b.toNat)) (cutQ (rw' t.toNat))) → N.length ≤ 400 ∧ ∃ V', wcl zP 192 [wR m, wI i, wI b, wI t] (sh, V) = rI (N.length : Int) (sh, V') ∧ Mx sh m V' tp ou (rup rw' i.toNat N) ∧ V' m 0 = 0)) := by
  have cc := fun x => (fld (V := V) M 0 x).2.2
  have start : (0 ≤ i ∧ i ≤ 7) ∧ (0 ≤ b ∧ b ≤ 7) ∧ (0 ≤ t ∧ t ≤ 7) → ∃ V1, Mx sh m V1 tp ou rw' ∧ wcl zP 192 [wR m, wI i, wI b, wI t] (sh, V) = if (cutQ (rw' b.toNat) 0).2 = 0 then rI 0 (sh, uI V1 m 0 2) else if (cutQ (rw' t.toNat) 0).2 = 0 then rI 0 (sh, uI V1 m 0 2) else wev zP 192 85 [some (wR m), some (wI i), some (wI b), some (wI t), none, none] [] (sh, uI V1 m 0 0) := fun h => by
    have s0 := Mx_fld M s 0 (by decide) 0
    have xb := s0.2.2.2.2.1 b.toNat (by omega)
    rw [Int.toNat_of_nonneg h.2.1.1] at xb
    have xt := s0.2.2.2.2.1 t.toNat (by omega)
    rw [Int.toNat_of_nonneg h.2.2.1] at xt
    obtain ⟨V1, V2, e1, e2, f2, S2, KB, KT⟩ := M138two M s0.1 (b := b) (r := t) (by omega) (by omega) xb xt
    have s2 := s0.same (mSame_34 M f2) (lOk_fr s0.2.1 (f2 _ (os34 M (by decide) (by decide))))
    have hb : wcl zP 134 [wR m, wI b, wI 0] (sh, V2) = rI (cutQ (rw' b.toNat) 0).2 (sh, V2) := M134q (p := 0) KB (by omega) (by decide)
    have ht : wcl zP 134 [wR m, wI t, wI 0] (sh, V2) = rI (cutQ (rw' t.toNat) 0).2 (sh, V2) := M134q (p := 0) KT (by omega) (by decide)
    have c2 := fun x => (fld (V := V2) M 0 x).2.2
    refine ⟨V2, s2, ?_⟩
    rw [w192_0, M127]
    simp only [wcx_v, wput_s]
    rw [if_pos h.1, w192_5, if_neg (by decide), M127]
    simp only [wcx_v, wput_s]
    rw [if_pos h.2.1, w192_12, if_neg (by decide), M127]
    simp only [wcx_v, wput_s]
    rw [if_pos h.2.2, w192_19, if_neg (by decide), cc 0, if_pos (by decide), w192_39, e1]
    simp only [wcx_v, wput_n, w192_44]
    rw [e2]
    simp only [wcx_v, wput_n, w192_49]
    rw [hb]
    simp only [wcx_v, wput_s, w192_56]
    by_cases d1 : (cutQ (rw' b.toNat) 0).2 = 0
    · rw [if_pos d1, if_pos d1, c2 2, if_neg (by decide)]
    · rw [if_neg d1, if_neg d1, ht]
      simp only [wcx_v, wput_s, w192_65]
      by_cases d2 : (cutQ (rw' t.toNat) 0).2 = 0
      · rw [if_pos d2, if_pos d2, c2 2, if_neg (by decide)]
      · rw [if_neg d2, if_neg d2, c2 0, if_pos (by decide)]
  refine ⟨fun h => ?_, fun h d => ?_, fun h d w hw => ?_⟩
  · rw [w192_0, M127]
    simp only [wcx_v, wput_s]
    by_cases d1 : 0 ≤ i ∧ i ≤ 7
    · rw [if_pos d1, w192_5, if_neg (by decide), M127]
      simp only [wcx_v, wput_s]
      by_cases d2 : 0 ≤ b ∧ b ≤ 7
      · rw [if_pos d2, w192_12, if_neg (by decide), M127]
        simp only [wcx_v, wput_s]
        rw [if_neg (fun d3 => h ⟨d1, d2, d3⟩), w192_19, if_pos rfl, cc 1, if_neg (by decide)]
      · rw [if_neg d2, w192_12, if_pos rfl, cc 1, if_neg (by decide)]
    · rw [if_neg d1, w192_5, if_pos rfl, cc 1, if_neg (by decide)]
  · obtain ⟨V1, s1, e1⟩ := start h
    have c1 := (fld (V := V1) M 0 2).2.2
    refine ⟨uI V1 m 0 2, ?_, Mx_fld M s1 0 (by decide) 2, c1⟩
    rw [e1]
    by_cases d1 : (cutQ (rw' b.toNat) 0).2 = 0
    · rw [if_pos d1]
    · rw [if_neg d1, if_pos (d.resolve_left d1)]
  · obtain ⟨V1, s1, e1⟩ := start h
    rw [if_neg (fun q => d (Or.inl q)), if_neg (fun q => d (Or.inr q)), w192_85] at e1
    have c1 := (fld (V := V1) M 0 0).2.2
    have b1 : (cutQ (rw' b.toNat) 0).2 = 1 := ((Fl_cut _).1 0 (by decide)).resolve_left (fun q => d (Or.inl q))
    obtain ⟨V2, fd, s', e2, s2, z2, bs⟩ := M192_91 M h.2.1 h.2.2 i 0 (Good_cut (hv _ (by omega))) (Good_cut (hv _ (by omega))) b1 6 _ 0 0 (-1) 401 (by decide) (by decide) (Mx_fld M s1 0 (by decide) 0) c1 (Or.inl ⟨rfl, rfl, rfl⟩)
    have bs : Bst sh V2 m (cutQ (rw' b.toNat)) (cutQ (rw' t.toNat)) fd w s' := by rw [hw]; exact bs
    rw [e2, w192_91, if_pos (by decide)] at e1
    refine ⟨fun w1 => ?_, fun w1 N hN => ?_⟩
    · have f0 : fd = 0 := by rcases bs with q | q <;> omega
      rw [if_pos f0] at e1
      exact ⟨_, e1, Mx_fld M s2 0 (by decide) 3, (fld (V := V2) M 0 3).2.2⟩
    · obtain ⟨f1, -, l1, l2, x10, y10⟩ := bs.resolve_left (fun q => w1 q.2.1)
      rw [if_neg (by omega)] at e1
      rw [← hN] at x10 l1
      have l4 : N.length ≤ 400 := by omega
      obtain ⟨V3, e3, u3⟩ := (M159q M s2.1 (a := 10) (b := i) (by decide) (by omega) (by omega) 3 (by decide)).1 (by rw [x10]; exact l4)
      rw [x10] at e3 u3
      refine ⟨l4, V3, ?_, (Mx_fld M s2 0 (by decide) 0).row M u3 (by omega) l4, by rw [u3.m M]; exact (fld (V := V2) M 0 0).2.2⟩
      rw [e1, e3]
      simp only [wcx_v, wput_s, w192_142]
end
