set_option maxRecDepth 16384
/-! the model's state that is seen -/
/-- sizes of what is laid are in range, but for the path's -/
def lOk (sh : zSh) (V : wSt) (m : Nat) : Prop := ∀ k, k < 7 → k ≠ 4 → 0 ≤ V (sr sh m 10) k ∧ V (sr sh m 10) k ≤ 1500
theorem lOk.K {sh : zSh} {V : wSt} {m : Nat} (h : lOk sh V m) : ∃ Q, lK6 sh V m Q := ⟨fun k => (ly sh V m k, V (sr sh m 11) k), fun k hk n => ⟨h k hk n, rfl⟩⟩
theorem lK6.ok {sh : zSh} {V : wSt} {m : Nat} {Q : Nat → List Int × Int} (h : lK6 sh V m Q) : lOk sh V m := fun k hk n => (h k hk n).1
theorem lK.ok {sh : zSh} {V : wSt} {m : Nat} {Q : Nat → List Int × Int} (h : lK sh V m Q) : lOk sh V m := fun k hk _ => (h k hk).1
theorem lOk_fr {sh : zSh} {V V' : wSt} {m : Nat} (h : lOk sh V m) (e : V' (sr sh m 10) = V (sr sh m 10)) : lOk sh V' m := fun k hk n => by rw [e]; exact h k hk n
def Mx (sh : zSh) (m : Nat) (V : wSt) (tp ou : List Int) (rw : Nat → List Int) : Prop := mSz sh V m ∧ lOk sh V m ∧ mx sh V m 13 = tp ∧ (ox sh V m = ou ∧ V m 7 = (ou.length : Int)) ∧ (∀ p : Nat, p < 8 → mx sh V m p = rw p) ∧ tp.length ≤ 400 ∧ ∀ p, p < 8 → (rw p).length ≤ 400
/-- fields that are not seen change -/
theorem Mx_fld {sh : zSh} {m : Nat} {V : wSt} {tp ou : List Int} {rw : Nat → List Int} (M : wMd sh m) (s : Mx sh m V tp ou rw) (k : Nat) (hk : k ≠ 7) (x : Int) : Mx sh m (uI V m k x) tp ou rw := by
  have f := fld (V := V) M k x
  refine ⟨mSz_fld M s.1 f.1, lOk_fr s.2.1 (f.1 _ (M.m (by decide))), by rw [mx_fld M 13 f.1]; exact s.2.2.1, ⟨?_, by rw [f.2.1 7 (fun e => hk e.symm)]; exact s.2.2.2.1.2⟩, fun p hp => by rw [mx_fld M p f.1]; exact s.2.2.2.2.1 p hp, s.2.2.2.2.2⟩
  unfold ox; rw [f.2.1 7 (fun e => hk e.symm), f.1 _ (M.m (j := 8) (by decide))]; exact s.2.2.2.1.1
/-- the rows, what is out and the fields stay -/
theorem Mx.same {sh : zSh} {m : Nat} {V V' : wSt} {tp ou : List Int} {rw : Nat → List Int} (s : Mx sh m V tp ou rw) (h : mSame sh m V V') (l : lOk sh V' m) : Mx sh m V' tp ou rw := by
  refine ⟨by unfold mSz; rw [h.2.1]; exact s.1, l, by rw [h.mx]; exact s.2.2.1, ⟨?_, by rw [h.2.2.2]; exact s.2.2.2.1.2⟩, fun p hp => by rw [h.mx]; exact s.2.2.2.2.1 p hp, s.2.2.2.2.2⟩
  unfold ox; rw [h.2.2.2, h.2.2.1]; exact s.2.2.2.1.1
theorem RmU.m {sh : zSh} {m : Nat} {V V' : wSt} {r : Int} {L : List Int} (u : RmU sh V V' m r L) (M : wMd sh m) : V' m = V m := u.2.1 m (fun w => by
  simp only [List.mem_cons, List.not_mem_nil, or_false] at w
  rcases w with w | w
  · exact M.m (j := 1) (by decide) w.symm
  · exact M.m (j := 2) (by decide) w.symm)
theorem Mx.len {sh : zSh} {m : Nat} {V : wSt} {tp ou : List Int} {rw : Nat → List Int} (s : Mx sh m V tp ou rw) : V (sr sh m 2) 13 ≤ 400 ∧ ∀ p : Nat, p < 8 → V (sr sh m 2) p ≤ 400 := by
  refine ⟨?_, fun p hp => ?_⟩
  · have a := mx_sz (sh := sh) (V := V) (m := m) (r := 13) (s.1 13 (by decide)).1
    rw [s.2.2.1] at a
    have a : ((tp.length : Nat) : Int) = V (sr sh m 2) 13 := a
    have := s.2.2.2.2.2.1; omega
  · have a := mx_sz (sh := sh) (V := V) (m := m) (r := (p : Int)) (s.1 p (by omega)).1
    rw [s.2.2.2.2.1 p hp, Int.toNat_natCast] at a
    have := s.2.2.2.2.2.2 p hp; omega
/-- a row that is not seen changes -/
theorem Mx.hidr {sh : zSh} {m : Nat} {V V' : wSt} {tp ou : List Int} {rw : Nat → List Int} (M : wMd sh m) (s : Mx sh m V tp ou rw) {r : Int} {L : List Int} (u : RmU sh V V' m r L) (hr : 8 ≤ r ∧ r ≤ 12) : Mx sh m V' tp ou rw := by
  have ln := s.len
  have q := u.2.2.2
  refine ⟨u.1, lOk_fr s.2.1 (u.2.1 _ (os12 M (by decide) (by decide) (by decide))), ?_, ⟨?_, by rw [u.m M]; exact s.2.2.2.1.2⟩, fun p hp => ?_, s.2.2.2.2.2⟩
  · rw [← s.2.2.1]; exact (q 13 (by decide) (by omega)).2 (by omega)
  · unfold ox; rw [u.m M, u.2.1 _ (os12 M (j := 8) (by decide) (by decide) (by decide))]; exact s.2.2.2.1.1
  · rw [← s.2.2.2.2.1 p hp]; exact (q p (by omega) (by omega)).2 (by have := ln.2 p hp; omega)
def rup (rw : Nat → List Int) (i : Nat) (L : List Int) : Nat → List Int := fun p => if p = i then L else rw p
/-- a link's row changes -/
theorem Mx.row {sh : zSh} {m : Nat} {V V' : wSt} {tp ou : List Int} {rw : Nat → List Int} (M : wMd sh m) (s : Mx sh m V tp ou rw) {r : Int} {L : List Int} (u : RmU sh V V' m r L) (hr : 0 ≤ r ∧ r ≤ 7) (hL : L.length ≤ 400) : Mx sh m V' tp ou (rup rw r.toNat L) := by
  have ln := s.len
  have q := u.2.2.2
  refine ⟨u.1, lOk_fr s.2.1 (u.2.1 _ (os12 M (by decide) (by decide) (by decide))), ?_, ⟨?_, by rw [u.m M]; exact s.2.2.2.1.2⟩, fun p hp => ?_, s.2.2.2.2.2.1, fun p hp => ?_⟩
  · rw [← s.2.2.1]; exact (q 13 (by decide) (by omega)).2 (by omega)
  · unfold ox; rw [u.m M, u.2.1 _ (os12 M (j := 8) (by decide) (by decide) (by decide))]; exact s.2.2.2.1.1
  · unfold rup
    by_cases c : p = r.toNat
    · rw [if_pos c, c, Int.toNat_of_nonneg hr.1]; exact u.2.2.1
    · rw [if_neg c, ← s.2.2.2.2.1 p hp]; exact (q p (by omega) c).2 (by have := ln.2 p hp; omega)
  · unfold rup
    by_cases c : p = r.toNat
    · rw [if_pos c]; exact hL
    · rw [if_neg c]; exact s.2.2.2.2.2.2 p hp
/-- what is out changes -/
theorem Mx.out {sh : zSh} {m : Nat} {V V' : wSt} {tp ou ou' : List Int} {rw : Nat → List Int} (M : wMd sh m) (s : Mx sh m V tp ou rw) {fs os : List Nat} (f : FrM m fs os V V') (h : ∀ j, j ∈ [1, 2, 10] → sr sh m j ∉ os) (o : ox sh V' m = ou') (o7 : V' m 7 = (ou'.length : Int)) : Mx sh m V' tp ou' rw := by
  have e1 := f.1 _ (M.m (j := 1) (by decide)) (h 1 (by decide))
  have e2 := f.1 _ (M.m (j := 2) (by decide)) (h 2 (by decide))
  have e10 := f.1 _ (M.m (j := 10) (by decide)) (h 10 (by decide))
  exact ⟨by unfold mSz; rw [e2]; exact s.1, lOk_fr s.2.1 e10, by rw [mx_cg e1 e2]; exact s.2.2.1, ⟨o, o7⟩, fun p hp => by rw [mx_cg e1 e2]; exact s.2.2.2.2.1 p hp, s.2.2.2.2.2⟩
theorem Mx.K {sh : zSh} {m : Nat} {V : wSt} {tp ou : List Int} {rw : Nat → List Int} (M : wMd sh m) (s : Mx sh m V tp ou rw) {i : Int} (hi : 0 ≤ i ∧ i ≤ 7) : ∃ V', wcl zP 138 [wR m, wI i] (sh, V) = rN (sh, V') ∧ FrB sh m i V V' ∧ mK sh V' m i (rw i.toNat) ∧ Mx sh m V' tp ou rw := by
  obtain ⟨V', e, f, K⟩ := M138q (V := V) M s.1 (r := i) (by omega)
  have q := s.2.2.2.2.1 i.toNat (by omega)
  rw [Int.toNat_of_nonneg hi.1] at q
  rw [q] at K
  exact ⟨V', e, f, K, s.same (mSame_34 M f.1) (lOk_fr s.2.1 (f.1 _ (os34 M (by decide) (by decide))))⟩
