set_option maxRecDepth 16384
/-! the model: an offer against the best so far -/
theorem qWay_p (w : Int) (B T : Nat → List Int × Int) (F : Fl T) : ((qWm w B T 4).1.length ≤ 808 → ∀ k, qWay w B T k = qWm w B T k) ∧ Fl (qWay w B T) ∧ (808 < (qWm w B T 4).1.length → 808 ≤ (qWay w B T 4).1.length ∨ w ≠ 2) ∧ (w ≠ 2 → ∀ k, qWay w B T k = qWm w B T k) := by
  have q4 := qWm_p w B T
  have FF := qWm_Fl (w := w) (B := B) F
  have w4 : w = 2 → qWay w B T 4 = ((clm (B 4).1 (T 4).1).take 808, 1) := fun h => by
    show (if 3 ≤ w then T 4 else if w = 2 then ((clm (B 4).1 (T 4).1).take 808, 1) else ([], 1)) = _
    rw [if_neg (by omega), if_pos h]
  have no : w ≠ 2 → ∀ k, qWay w B T k = qWm w B T k := fun h k => by unfold qWm; rw [if_neg (fun q => h q.2)]
  refine ⟨fun h k => ?_, ?_, fun h => ?_, no⟩
  · by_cases c : w = 2
    · by_cases k4 : k = 4
      · subst k4
        rw [q4.1 c] at h ⊢
        rw [w4 c, List.take_of_length_le h]
      · exact (qWm_o k4).symm
    · exact no c k
  · by_cases c : w = 2
    · have e : qWay w B T = pup (qWm w B T) 4 ((clm (B 4).1 (T 4).1).take 808, 1) := by
        funext k
        unfold pup
        by_cases k4 : k = 4
        · rw [if_pos k4, k4, w4 c]
        · rw [if_neg k4]; exact (qWm_o k4).symm
      rw [e]
      exact Fl_pup4 FF rfl
    · rw [show qWay w B T = qWm w B T from funext (no c)]; exact FF
  · by_cases c : w = 2
    · refine Or.inl ?_
      rw [q4.1 c] at h
      have h : 808 < (clm (B 4).1 (T 4).1).length := h
      rw [w4 c]
      show 808 ≤ ((clm (B 4).1 (T 4).1).take 808).length
      rw [List.length_take]; omega
    · exact Or.inr c
/-- how long a way is, when it is not too long -/
theorem way_len (w : Int) (B T : Nat → List Int × Int) (F : Fl T) (s : Int) (hs : s ≤ 401) : pln (qWay w B T) < s ↔ (((cmm (qWm w B T)).length : Int) < s ∧ (cmm (qWm w B T)).length ≤ 400) := by
  have q := qWay_p w B T F
  have FF := qWm_Fl (w := w) (B := B) F
  rw [pln_cmp q.2.1, ← cmm_cmp q.2.1]
  by_cases c : (qWm w B T 4).1.length ≤ 808
  · rw [show qWay w B T = qWm w B T from funext (q.1 c)]; omega
  · by_cases d : w = 2
    · have p1 := cmm_path q.2.1
      have p2 := cmm_path FF
      have := (q.2.2.1 (by omega)).resolve_right (fun z => z d)
      omega
    · rw [show qWay w B T = qWm w B T from funext (q.2.2.2 d)]; omega
section
variable {sh : zSh} {m : Nat} {V : wSt} {tp ou : List Int} {rw' : Nat → List Int}
theorem M189 (M : wMd sh m) (s : Mx sh m V tp ou rw') {Q : Nat → List Int × Int} (F : Fl Q) (Vq : Va Q) (Z : lz sh V m Q) (K : (Q 4).1.length ≤ 1490 → lK sh V m Q) (hl : (cmm Q).length ≤ 2900) {b t : Int} (hb : 0 ≤ b ∧ b ≤ 7) (ht : 0 ≤ t ∧ t ≤ 7) {fd : Int} (hf : fd = 0 ∨ fd = 1) {L : List Int} (hL : L.length ≤ 400) (be : fd = 1 → mx sh V m 10 = L ∧ V (sr sh m 2) 10 = (L.length : Int)) {ok : Prop} (hok : ok ↔ (((cmm Q).length ≤ 400 ∧ ∀ k : Nat, k < 7 → cutQ (cmp Q) k = Q k) ∧ (fd = 0 ∨ (cmm Q).length < L.length) ∧ cmm (qRes (fun _ => ([], 0)) (cutQ (rw' b.toNat)) (cutQ (cmm Q)) 1) = rw' t.toNat)) : (ok → ∃ V', wcl zP 189 [wR m, wI b, wI t, wI fd] (sh, V) = rI 1 (sh, V') ∧ Mx sh m V' tp ou rw' ∧ V' m 0 = V m 0 ∧ mx sh V' m 10 = cmm Q ∧ V' (sr sh m 2) 10 = ((cmm Q).length : Int)) ∧
    (¬ ok → ∃ V', wcl zP 189 [wR m, wI b, wI t, wI fd] (sh, V) = rI fd (sh, V') ∧ Mx sh m V' tp ou rw' ∧ V' m 0 = V m 0 ∧ (fd = 1 → mx sh V' m 10 = L ∧ V' (sr sh m 2) 10 = (L.length : Int))) := by
  obtain ⟨V1, e1, s1, z1, b1, y1⟩ := M188 M s F Vq Z K hl
  have be1 : fd = 1 → mx sh V1 m 10 = L ∧ V1 (sr sh m 2) 10 = (L.length : Int) := fun w => by
    obtain ⟨a, c⟩ := be w
    obtain ⟨p, q⟩ := b1 (by omega)
    exact ⟨p.trans a, q.trans c⟩
  by_cases c : (cmm Q).length ≤ 400 ∧ ∀ k : Nat, k < 7 → cutQ (cmp Q) k = Q k
  · rw [bI_1 c] at e1
    obtain ⟨x11, s11⟩ := y1 c.1
    by_cases d : fd = 0 ∨ (cmm Q).length < L.length
    · have xb := s1.2.2.2.2.1 b.toNat (by omega)
      rw [Int.toNat_of_nonneg hb.1] at xb
      obtain ⟨V2, e2, s2, x12, m2, k2, l2⟩ := M175r M s1 1 (d := 12) (b := b) (r := 11) (by decide) (by omega) (by decide) (s1.2.2.2.2.2.2 b.toNat (by omega)) c.1 xb x11
      have k10 : ∀ r : Nat, r < 14 → r ≠ 12 → V1 (sr sh m 2) r ≤ 1500 → mx sh V2 m r = mx sh V1 m r ∧ V2 (sr sh m 2) r = V1 (sr sh m 2) r := fun r hr n h5 => by
        have a := k2 r hr n h5
        refine ⟨a, ?_⟩
        have p := mx_sz (sh := sh) (V := V2) (m := m) (r := (r : Int)) (s2.1 r hr).1
        have q := mx_sz (sh := sh) (V := V1) (m := m) (r := (r : Int)) (s1.1 r hr).1
        rw [a, Int.toNat_natCast] at p
        rw [Int.toNat_natCast] at q
        omega
      have sz12 := mx_sz (sh := sh) (V := V2) (m := m) (r := 12) (s2.1 12 (by decide)).1
      rw [x12] at sz12
      have sz12 : ((cmm (qRes (fun _ => ([], 0)) (cutQ (rw' b.toNat)) (cutQ (cmm Q)) 1)).length : Int) = V2 (sr sh m 2) 12 := sz12
      have xt := s2.2.2.2.2.1 t.toNat (by omega)
      rw [Int.toNat_of_nonneg ht.1] at xt
      have e3 := M132q (sh := sh) (m := m) (V := V2) (a := 12) (b := t) (by decide) (by omega) ⟨(s2.1 12 (by decide)).1, by show V2 (sr sh m 2) 12 ≤ 1500; omega⟩ (s2.1 t.toNat (by omega)).1
      rw [x12, xt] at e3
      have run : wcl zP 189 [wR m, wI b, wI t, wI fd] (sh, V) = wev zP 189 47 [some (wR m), some (wI b), some (wI t), some (wI fd)] [wI (bI (cmm (qRes (fun _ => ([], 0)) (cutQ (rw' b.toNat)) (cutQ (cmm Q)) 1) = rw' t.toNat))] (sh, V2) := by
        have tl : wcx (wcl zP 175 [wR m, wI 12, wI b, wI 11, wI 1] (sh, V1)) (fun v h' => wev zP 189 40 [some (wR m), some (wI b), some (wI t), some (wI fd)] (wput v []) h') wth = wev zP 189 47 [some (wR m), some (wI b), some (wI t), some (wI fd)] [wI (bI (cmm (qRes (fun _ => ([], 0)) (cutQ (rw' b.toNat)) (cutQ (cmm Q)) 1) = rw' t.toNat))] (sh, V2) := by
          rw [e2]
          simp only [wcx_v, wput_n, w189_40]
          rw [e3]
          simp only [wcx_v, wput_s]
        rw [w189_0, e1]
        simp only [wcx_v, wput_s, w189_4]
        rw [if_neg (by decide)]
        by_cases f0 : fd = 0
        · rw [if_pos f0]; exact tl
        · rw [if_neg f0, show Int.toNat 11 = 11 from rfl, show Int.toNat 10 = 10 from rfl, s11, (be1 (hf.resolve_left f0)).2, if_pos (by have := d.resolve_left f0; omega)]; exact tl
      rw [run, w189_47]
      by_cases g : cmm (qRes (fun _ => ([], 0)) (cutQ (rw' b.toNat)) (cutQ (cmm Q)) 1) = rw' t.toNat
      · refine ⟨fun _ => ?_, fun w => absurd (hok.mpr ⟨c, d, g⟩) w⟩
        rw [bI_1 g, if_neg (by decide)]
        have x11' : mx sh V2 m 11 = cmm Q := (k10 11 (by decide) (by decide) (by rw [s11]; omega)).1.trans x11
        obtain ⟨V3, e4, u3⟩ := M131q M s2.1 (a := 11) (b := 10) (by decide) (by decide) (by decide) (by rw [x11']; omega)
        rw [x11'] at u3
        refine ⟨V3, ?_, s2.hidr M u3 (by decide), by rw [u3.m M, m2]; exact z1, u3.2.2.1, u3.sz (by decide)⟩
        rw [e4]
        simp only [wcx_v, wput_n, w189_60]
      · refine ⟨fun w => absurd (hok.mp w).2.2 g, fun _ => ?_⟩
        rw [bI_0 g, if_pos rfl]
        refine ⟨V2, rfl, s2, by rw [m2]; exact z1, fun w => ?_⟩
        obtain ⟨p, q⟩ := be1 w
        obtain ⟨p2, q2⟩ := k10 10 (by decide) (by decide) (by rw [q]; omega)
        exact ⟨p2.trans p, q2.trans q⟩
    · refine ⟨fun w => absurd (hok.mp w).2.1 d, fun _ => ⟨V1, ?_, s1, z1, be1⟩⟩
      have f0 : ¬ fd = 0 := fun w => d (Or.inl w)
      rw [w189_0, e1]
      simp only [wcx_v, wput_s, w189_4]
      rw [if_neg (by decide), if_neg f0, show Int.toNat 11 = 11 from rfl, show Int.toNat 10 = 10 from rfl, s11, (be1 (hf.resolve_left f0)).2, if_neg (by
        have : ¬ (cmm Q).length < L.length := fun w => d (Or.inr w)
        omega)]
  · rw [bI_0 c] at e1
    refine ⟨fun w => absurd (hok.mp w).1 c, fun _ => ⟨V1, ?_, s1, z1, be1⟩⟩
    rw [w189_0, e1]
    simp only [wcx_v, wput_s, w189_4]
    rw [if_pos trivial]
end
