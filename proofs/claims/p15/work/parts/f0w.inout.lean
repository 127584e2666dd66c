set_option maxRecDepth 16384
/-! reading and feeding, of what is seen -/
section
variable {sh : zSh} {x m : Nat} {V : wSt} {tp ou : List Int} {lk : Nat → Nat → List Int × Int} {f0 f1 : Int} {rw' : Nat → List Int}
theorem S95x (h : wLL sh x) (s : Sx sh x V tp ou lk f0 f1) (i : Int) : (¬ (0 ≤ i ∧ i < 8) → ∃ V' g0 g1, wcl zP 95 [wR x, wI i] (sh, V) = some (.inr 2, (sh, V')) ∧ Sx sh x V' [] ou lk g0 g1) ∧
    (0 ≤ i ∧ i < 8 → ¬ Va (cutQ tp) → ∃ V' g0 g1, wcl zP 95 [wR x, wI i] (sh, V) = some (.inr 0, (sh, V')) ∧ Sx sh x V' [] ou lk g0 g1) ∧
    (0 ≤ i ∧ i < 8 → Va (cutQ tp) → ∃ V' g0 g1, wcl zP 95 [wR x, wI i] (sh, V) = rI (tp.length : Int) (sh, V') ∧ Sx sh x V' [] ou (lup lk i.toNat (cutQ tp)) g0 g1) := by
  refine ⟨fun hi => ?_, ?_⟩
  · obtain ⟨V1, e1, s1, -⟩ := takeT h s
    obtain ⟨V2, hV2⟩ : ∃ V2, V2 = uI (uI V1 x 10 0) x 11 0 := ⟨_, rfl⟩
    have fr : FrO [x] V1 V2 := by rw [hV2]; exact (uI_fr (List.mem_cons_self)).trans (uI_fr (List.mem_cons_self))
    have nx : nRw sh [x] := nRw_s h.k14 (nRw_0 sh)
    have row : ∀ b, zRow sh b → tx sh V2 b = tx sh V1 b ∧ V2 b = V1 b := fun b hb => by
      have r := fr.row nx (s1.1 b hb)
      exact ⟨r.2.1, r.2.2⟩
    refine ⟨V2, _, _, ?_, fr.all nx s1.1, (row _ h.r0).1.trans s1.2.1, (row _ h.r2).1.trans s1.2.2.1, fun p k hp hk => ?_, rfl, rfl⟩
    · rw [w95_0, e1]
      simp only [wcx_v, wput_s, w95_4]
      rw [← hV2, S113n h hi, wcx_t]
    · have r := row _ ((h.P (p := p) (by omega)).1 k hk)
      rw [← s1.2.2.2.1 p k hp hk]; unfold pv; rw [r.1, r.2]
  · obtain ⟨r, V', e, A', t', rest, cs, ln⟩ := S95 h s.1 i tp s.2.1
    rw [aOk_Va] at cs
    have o2 : 0 ≤ i ∧ i < 8 → tx sh V' (sr sh x 2) = ou := fun hi => by
      rw [(rest _ h.r2 (fun q => h.ne.2.1 q.symm) (fun q => h.ne.2.2.2.1 q.symm) (fun k hk q => (h.pr (p := i.toNat) (by omega) hk).2.2.1 q.symm)).1]
      exact s.2.2.1
    have ol : 0 ≤ i ∧ i < 8 → ∀ p k, p < 8 → k < 7 → p ≠ i.toNat → pv sh V' (wP sh x p) k = lk p k := fun hi p k hp hk n => by
      have q := rest _ ((h.P (p := p) (by omega)).1 k hk) (h.pr (p := p) (by omega) hk).1 (h.pr (p := p) (by omega) hk).2.1 (fun j hj z => h.dj (p := i.toNat) (q := p) (by omega) (by omega) (fun w => n w.symm) k j hk hj z)
      rw [← s.2.2.2.1 p k hp hk]; unfold pv; rw [q.1, q.2]
    refine ⟨fun hi hv => ?_, fun hi hv => ?_⟩
    · refine ⟨V', V' x 10, V' x 11, ?_, A', t', o2 hi, fun p k hp hk => ?_, rfl, rfl⟩
      · rw [e]
        rcases cs with w | w | w
        · exact absurd hi w.1
        · rw [w.2.2]
        · exact absurd w.2.1 hv
      · by_cases c : p = i.toNat
        · have q := (ln k hi hk).2 (fun w => hv ((aOk_Va tp).mp w))
          rw [c, ← s.2.2.2.1 i.toNat k (by omega) hk]; unfold pv; rw [q.1, q.2]
        · exact ol hi p k hp hk c
    · refine ⟨V', V' x 10, V' x 11, ?_, A', t', o2 hi, fun p k hp hk => ?_, rfl, rfl⟩
      · rw [e]
        rcases cs with w | w | w
        · exact absurd hi w.1
        · exact absurd hv w.2.1
        · rw [w.2.2]
      · unfold lup
        by_cases c : p = i.toNat
        · have q := (ln k hi hk).1 ((aOk_Va tp).mpr hv)
          rw [if_pos c, c]; unfold pv; rw [q.1, q.2]; rfl
        · rw [if_neg c]; exact ol hi p k hp hk c
/-- the tape's row changes -/
theorem Mx.tap {V' : wSt} (M : wMd sh m) (s : Mx sh m V tp ou rw') {L : List Int} (u : RmU sh V V' m 13 L) (hL : L.length ≤ 400) : Mx sh m V' L ou rw' := by
  have ln := s.len
  have q := u.2.2.2
  obtain ⟨sz, lo, t13, ⟨oo, o7⟩, rws, lt, lr⟩ := s
  refine ⟨u.1, lOk_fr lo (u.2.1 _ (os12 M (by decide) (by decide) (by decide))), u.2.2.1, ⟨?_, by rw [u.m M]; exact o7⟩, fun p hp => ?_, hL, lr⟩
  · rw [← oo]; unfold ox; rw [u.m M, u.2.1 _ (os12 M (by decide) (by decide) (by decide))]
  · rw [← rws p hp]
    exact (q p (by omega) (by show p ≠ 13; omega)).2 (by have := ln.2 p hp; omega)
theorem M165x (M : wMd sh m) (s : Mx sh m V tp ou rw') (i : Int) : (¬ (0 ≤ i ∧ i < 8) → ∃ V', wcl zP 165 [wR m, wI i] (sh, V) = rI 0 (sh, V') ∧ Mx sh m V' [] ou rw' ∧ V' m 0 = 1) ∧
    (0 ≤ i ∧ i < 8 → ¬ Va (cutQ tp) → ∃ V', wcl zP 165 [wR m, wI i] (sh, V) = rI 0 (sh, V') ∧ Mx sh m V' [] ou rw' ∧ V' m 0 = 2) ∧
    (0 ≤ i ∧ i < 8 → Va (cutQ tp) → ∃ V', wcl zP 165 [wR m, wI i] (sh, V) = rI (tp.length : Int) (sh, V') ∧ Mx sh m V' [] ou (rup rw' i.toNat tp) ∧ V' m 0 = 0) := by
  have nm : m ≠ sr sh m 2 := fun w => M.m (j := 2) (by decide) w.symm
  have cc : ∀ (X : wSt) (y : Int), uI X m 0 y m 0 = y := fun X y => (fld (V := X) M 0 y).2.2
  have lt : tp.length ≤ 400 := s.2.2.2.2.2.1
  have fin : ∀ (X : wSt) (rx : Nat → List Int), Mx sh m X tp ou rx → wev zP 165 55 [some (wR m), some (wI i)] [] (sh, X) = (if X m 0 ≤ 0 then rI (uI X (sr sh m 2) 13 0 (sr sh m 2) i.toNat) (sh, uI X (sr sh m 2) 13 0) else rI 0 (sh, uI X (sr sh m 2) 13 0)) ∧ Mx sh m (uI X (sr sh m 2) 13 0) [] ou rx ∧ uI X (sr sh m 2) 13 0 m 0 = X m 0 := fun X rx sx => by
    have c : uI X (sr sh m 2) 13 0 m 0 = X m 0 := by unfold uI; rw [if_neg (fun c => nm c.1)]
    refine ⟨?_, Mx_tape M sx, c⟩
    rw [w165_55, show Int.toNat 13 = 13 from rfl, c]
  have verdict : 0 ≤ i ∧ i < 8 → ∃ V2, wcl zP 165 [wR m, wI i] (sh, V) = (if bI (Va (cutQ tp)) = 0 then wev zP 165 55 [some (wR m), some (wI i)] [] (sh, uI V2 m 0 2) else wcx (wcl zP 131 [wR m, wI 13, wI i] (sh, uI V2 m 0 0)) (fun v h' => wev zP 165 55 [some (wR m), some (wI i)] (wput v []) h') wth) ∧ Mx sh m V2 tp ou rw' := fun hi => by
    have s0 := Mx_fld M s 0 (by decide) 0
    obtain ⟨V2, e2, f2, -, -⟩ := M151 M s0.1 (r := 13) (by decide)
    have z13 : uI V m 0 0 (sr sh m 2) (13 : Int).toNat = (tp.length : Int) := by
      have := mx_sz (sh := sh) (V := uI V m 0 0) (m := m) (r := 13) (s0.1 13 (by decide)).1
      rw [s0.2.2.1] at this; exact this.symm
    rw [z13, s0.2.2.1, bI_cg (aOk_Va tp)] at e2
    have os : ∀ j, j ∈ zARw → j ≠ 3 → j ≠ 4 → j ≠ 14 → sr sh m j ∉ [sr sh m 3, sr sh m 4, sr sh m 14] := fun j hj a b d w => by
      simp only [List.mem_cons, List.not_mem_nil, or_false] at w
      rcases w with w | w | w
      · exact M.n hj (by decide) a w
      · exact M.n hj (by decide) b w
      · exact M.n hj (by decide) d w
    have s2 : Mx sh m V2 tp ou rw' := Mx_frm M s0 f2 (by decide) (fun j hj => by
      simp only [List.mem_cons, List.not_mem_nil, or_false] at hj
      rcases hj with h | h | h | h <;> subst h <;> exact os _ (by decide) (by decide) (by decide) (by decide))
    refine ⟨V2, ?_, s2⟩
    rw [w165_0, M127]
    simp only [wcx_v, wput_s]
    rw [if_pos ⟨hi.1, by omega⟩, w165_5, if_neg (by decide), cc, if_pos rfl, e2]
    simp only [wcx_v, wput_s, w165_30]
    rcases bI_r (Va (cutQ tp)) with q | q
    · rw [q, if_pos rfl, if_pos rfl, cc, if_neg (by decide)]
    · rw [q, if_neg (show ¬ (1 : Int) = 0 by decide), cc, if_pos rfl, if_neg (show ¬ (1 : Int) = 0 by decide)]
  refine ⟨fun hi => ?_, fun hi hv => ?_, fun hi hv => ?_⟩
  · obtain ⟨e, sx, c⟩ := fin _ _ (Mx_fld M s 0 (by decide) 1)
    rw [cc] at e c
    refine ⟨_, ?_, sx, c⟩
    rw [w165_0, M127]
    simp only [wcx_v, wput_s]
    rw [if_neg (fun w => hi ⟨w.1, by omega⟩), w165_5, if_pos rfl, cc, if_neg (by decide), if_neg (by decide), e, if_neg (by decide)]
  · obtain ⟨V2, e2, s2⟩ := verdict hi
    rw [bI_0 hv, if_pos rfl] at e2
    obtain ⟨e, sx, c⟩ := fin _ _ (Mx_fld M s2 0 (by decide) 2)
    rw [cc] at e c
    exact ⟨_, by rw [e2, e, if_neg (by decide)], sx, c⟩
  · obtain ⟨V2, e2, s2⟩ := verdict hi
    rw [bI_1 hv, if_neg (by decide)] at e2
    have s3 := Mx_fld M s2 0 (by decide) 0
    obtain ⟨V3, e3, u3⟩ := M131q M s3.1 (a := 13) (b := i) (by decide) (by omega) (by omega) (by rw [s3.2.2.1]; omega)
    rw [s3.2.2.1] at u3
    have s4 := s3.row M u3 (by omega) lt
    obtain ⟨e, sx, c⟩ := fin _ _ s4
    have c3 : V3 m 0 = 0 := by rw [u3.m M]; exact cc V2 0
    rw [c3] at e c
    have zi : uI V3 (sr sh m 2) 13 0 (sr sh m 2) i.toNat = (tp.length : Int) := by
      unfold uI
      rw [if_neg (fun c => by have := c.2; omega)]
      exact u3.sz (by omega)
    refine ⟨_, ?_, sx, c⟩
    rw [e2, e3]
    simp only [wcx_v, wput_n]
    rw [e, if_pos (Int.le_refl 0), zi]
/-- the model is fed -/
theorem M164x_50 (M : wMd sh m) (l : Int64) (n : Int) (hn : n ≤ 8) : ∀ (q : Nat) (V : wSt) (k : Int) (T : List Int), n - k = q → 0 ≤ k → Mx sh m V T ou rw' → T.length + q ≤ 400 → ∃ V', wev zP 164 50 [some (wR m), some (wL l), none, some (wI n), some (wI k)] [] (sh, V) = rI ((T.length : Int) + q) (sh, V') ∧ Mx sh m V' (T ++ fdL l q k) ou rw' ∧ V' m 0 = V m 0 := by
  intro q
  induction q with
  | zero =>
    intro V k T hq hk s hl
    have := mx_sz (sh := sh) (V := V) (m := m) (r := 13) (s.1 13 (by decide)).1
    rw [s.2.2.1] at this
    have z : V (sr sh m 2) (Int.toNat 13) = (T.length : Int) := this.symm
    refine ⟨V, ?_, by rw [show fdL l 0 k = [] from rfl, List.append_nil]; exact s, rfl⟩
    rw [w164_50, if_pos (by omega), z]
    exact rI_cg (by omega)
  | succ q ih =>
    intro V k T hq hk s hl
    obtain ⟨V1, e1, u1⟩ := M156q M s.1 (r := 13) (by decide) (fdb l k) (by rw [s.2.2.1]; omega)
    rw [s.2.2.1] at u1
    have s1 := s.tap M u1 (by rw [List.length_append]; simp only [List.length_cons, List.length_nil]; omega)
    obtain ⟨V2, e2, s2, c2⟩ := ih V1 (k + 1) _ (by omega) (by omega) s1 (by rw [List.length_append]; simp only [List.length_cons, List.length_nil]; omega)
    rw [List.append_assoc] at s2
    refine ⟨V2, ?_, s2, by rw [c2, u1.m M]⟩
    rw [w164_50, if_neg (by omega)]
    have e1' : wcl zP 156 [wR m, wI 13, wI ((Int64.toInt32 ((l >>> (Int32.toInt64 (oI (wr (8 * k))) &&& 63)) &&& 255)).toInt)] (sh, V) = rN (sh, V1) := e1
    rw [e1']
    simp only [wcx_v, wput_n, w164_74]
    rw [wr_eq (by omega) (by omega), e2]
    refine rI_cg ?_
    rw [List.length_append]; simp only [List.length_cons, List.length_nil]; omega
theorem M164x (M : wMd sh m) (s : Mx sh m V tp ou rw') (l : Int64) (n : Int) (hn : -2147483648 ≤ n ∧ n ≤ 2147483647) :
    (¬ (1 ≤ n ∧ n ≤ 8) → wcl zP 164 [wR m, wL l, wI n] (sh, V) = rI 0 (sh, uI V m 0 1)) ∧
    ((1 ≤ n ∧ n ≤ 8) → 400 < tp.length + n → wcl zP 164 [wR m, wL l, wI n] (sh, V) = rI 0 (sh, uI V m 0 2)) ∧
    ((1 ≤ n ∧ n ≤ 8) → tp.length + n ≤ 400 → ∃ V', wcl zP 164 [wR m, wL l, wI n] (sh, V) = rI (tp.length + n) (sh, V') ∧ Mx sh m V' (tp ++ fdL l n.toNat 0) ou rw' ∧ V' m 0 = 0) := by
  have cc : ∀ (X : wSt) (y : Int), uI X m 0 y m 0 = y := fun X y => (fld (V := X) M 0 y).2.2
  have lt : tp.length ≤ 400 := s.2.2.2.2.2.1
  have z13 : V (sr sh m 2) (Int.toNat 13) = (tp.length : Int) := by
    have := mx_sz (sh := sh) (V := V) (m := m) (r := 13) (s.1 13 (by decide)).1
    rw [s.2.2.1] at this; exact this.symm
  refine ⟨fun c => ?_, fun c d => ?_, fun c d => ?_⟩
  · rw [w164_0, M120]
    simp only [wcx_v, wput_s, w164_8]
    rw [if_neg c, if_pos rfl, cc, if_neg (by decide)]
  · rw [w164_0, M120]
    simp only [wcx_v, wput_s, w164_8]
    rw [if_pos c, if_neg (by decide), z13, wr_eq (by omega) (by omega), if_neg (by omega), cc, if_neg (by decide)]
  · obtain ⟨V1, e1, s1, c1⟩ := M164x_50 M l n c.2 n.toNat _ 0 tp (by omega) (by decide) (Mx_fld M s 0 (by decide) 0) (by omega)
    refine ⟨V1, ?_, s1, c1.trans (cc V 0)⟩
    rw [w164_0, M120]
    simp only [wcx_v, wput_s, w164_8]
    rw [if_pos c, if_neg (by decide), z13, wr_eq (by omega) (by omega), if_pos d, cc, if_pos (by decide), e1]
    exact rI_cg (by omega)
end
