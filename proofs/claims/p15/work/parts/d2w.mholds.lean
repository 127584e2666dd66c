set_option maxRecDepth 16384
/-! the model: whether an offer reads back -/
section
variable {sh : zSh} {m : Nat} {V : wSt} {tp ou : List Int} {rw' : Nat → List Int}
theorem cmm_sum (Q : Nat → List Int × Int) : (cmm Q).length = (jn Q 0).length + (jn Q 1).length + (jn Q 2).length + (jn Q 3).length + (jn Q 4).length + (jn Q 5).length + (jn Q 6).length := by
  have e : cmm Q = jn Q 0 ++ (jn Q 1 ++ (jn Q 2 ++ (jn Q 3 ++ (jn Q 4 ++ (jn Q 5 ++ (jn Q 6 ++ [])))))) := rfl
  rw [e]
  simp only [List.length_append, List.length_nil]
  omega
theorem cmm_path {Q : Nat → List Int × Int} (F : Fl Q) : (Q 4).1.length ≤ (cmm Q).length := by
  have := cmm_sum Q
  have f4 := F.2.2.1
  have e := jn_l2 (Q := Q) (k := 4) (by rw [f4]; decide)
  have : (Q 4).1.length ≤ (jn Q 4).length := by rw [e]; simp only [List.length_append]; omega
  omega
/-- of the same layout, part by part -/
def lyp (Q : Nat → List Int × Int) (L : List Int) (i : Nat) : Prop := (cutQ L i).2 = (Q i).2 ∧ ((Q i).2 = 0 ∨ (cutQ L i).1.length = (Q i).1.length)
theorem M188_51 {Q : Nat → List Int × Int} {L : List Int} (Z : lz sh V m Q) (K : mK sh V m 11 L) (hL : L.length ≤ 400) (x1 x2 : Int) : ∀ (n k : Nat) (is : Int), k + n = 7 → (is = 0 ∨ is = 1) → wev zP 188 51 [some (wR m), some (wI x1), some (wI x2), some (wI is), some (wI k)] [] (sh, V) = rI (bI (is = 1 ∧ ∀ i, k ≤ i → i < 7 → lyp Q L i)) (sh, V) := by
  intro n
  induction n with
  | zero =>
    intro k is hk hi
    rw [w188_51, if_pos (by omega)]
    refine rI_cg ?_
    rcases hi with e | e
    · rw [e, bI_0 (fun w => absurd w.1 (by decide))]
    · rw [e, bI_1 ⟨rfl, fun i h1 h2 => by omega⟩]
  | succ n ih =>
    intro k is hk hi
    rw [w188_51, if_neg (by omega)]
    by_cases c : is = 0
    · rw [if_pos c]
      refine rI_cg ?_
      rw [c, bI_0 (fun w => absurd w.1 (by decide))]
    · rw [if_neg c]
      have hk7 : k < 7 := by omega
      have a : wcl zP 134 [wR m, wI 11, wI k] (sh, V) = rI (cutQ L k).2 (sh, V) := M134q (p := (k : Int)) K (by decide) (by omega)
      have b : wcl zP 135 [wR m, wI 11, wI k] (sh, V) = rI ((cutQ L k).1.length : Int) (sh, V) := M135q (p := (k : Int)) K (by omega) (by decide) (by omega)
      have z := Z k hk7
      have st : ∀ y : Int, (y = 0 ∨ y = 1) → (y = 1 ↔ lyp Q L k) → wev zP 188 51 [some (wR m), some (wI x1), some (wI x2), some (wI y), some (wI (wr ((k : Int) + 1)))] [] (sh, V) = rI (bI (is = 1 ∧ ∀ i, k ≤ i → i < 7 → lyp Q L i)) (sh, V) := fun y hy h => by
        rw [wr_eq (by omega) (by omega), show (k : Int) + 1 = ((k + 1 : Nat) : Int) by omega, ih (k + 1) y (by omega) hy]
        refine rI_cg (bI_cg ⟨fun w => ⟨hi.resolve_left c, fun i i1 i2 => ?_⟩, fun w => ⟨h.mpr (w.2 k (Nat.le_refl _) hk7), fun i i1 i2 => w.2 i (by omega) i2⟩⟩)
        by_cases d : i = k
        · rw [d]; exact h.mp w.1
        · exact w.2 i (by omega) i2
      rw [a]
      simp only [wcx_v, wput_s, w188_70]
      rw [Int.toNat_natCast, z.2]
      by_cases d : (cutQ L k).2 = (Q k).2
      · rw [if_pos d]
        by_cases e : (Q k).2 = 0
        · rw [if_pos e]; exact st 1 (Or.inr rfl) ⟨fun _ => ⟨d, Or.inl e⟩, fun _ => rfl⟩
        · rw [if_neg e, b]
          simp only [wcx_v, wput_s, w188_98]
          rw [Int.toNat_natCast, z.1]
          by_cases g : ((cutQ L k).1.length : Int) = ((Q k).1.length : Int)
          · rw [if_pos g]; exact st 1 (Or.inr rfl) ⟨fun _ => ⟨d, Or.inr (by omega)⟩, fun _ => rfl⟩
          · rw [if_neg g]; exact st 0 (Or.inl rfl) ⟨fun w => absurd w (by decide), fun w => absurd (w.2.resolve_left e) (by omega)⟩
      · rw [if_neg d]; exact st 0 (Or.inl rfl) ⟨fun w => absurd w (by decide), fun w => absurd w.1 d⟩
theorem M188 (M : wMd sh m) (s : Mx sh m V tp ou rw') {Q : Nat → List Int × Int} (F : Fl Q) (Vq : Va Q) (Z : lz sh V m Q) (K : (Q 4).1.length ≤ 1490 → lK sh V m Q) (hl : (cmm Q).length ≤ 2900) : ∃ V', wcl zP 188 [wR m] (sh, V) = rI (bI ((cmm Q).length ≤ 400 ∧ ∀ k : Nat, k < 7 → cutQ (cmp Q) k = Q k)) (sh, V') ∧ Mx sh m V' tp ou rw' ∧ V' m 0 = V m 0 ∧ (V (sr sh m 2) 10 ≤ 1500 → mx sh V' m 10 = mx sh V m 10 ∧ V' (sr sh m 2) 10 = V (sr sh m 2) 10) ∧ ((cmm Q).length ≤ 400 → mx sh V' m 11 = cmm Q ∧ V' (sr sh m 2) 11 = ((cmm Q).length : Int)) := by
  have n_m : ∀ j, j ∈ zARw → sr sh m j ≠ m := fun j hj => M.m hj
  by_cases c : (cmm Q).length ≤ 400
  · have pl := cmm_path F
    have l := K (by omega)
    obtain ⟨V1, e1, u1⟩ := M158q M s.1 (r := 11) (by decide) l (by omega)
    have s1 := s.hidr M u1 (by decide)
    have z1 : V1 (sr sh m 2) 11 = ((cmm Q).length : Int) := u1.sz (by decide)
    obtain ⟨V2, e2, f2, k2, -⟩ := M151 M s1.1 (r := 11) (by decide)
    rw [show (11 : Int).toNat = 11 from rfl, z1, u1.2.2.1] at e2 k2
    obtain ⟨V3, h3⟩ : ∃ V3, V3 = uI (uI V2 m 5 (V1 m 5)) m 6 (V1 m 6) := ⟨_, rfl⟩
    have f3 : FrM m [5, 6] [] V2 V3 := by
      rw [h3]
      exact ((fldM (os := []) 5 (V1 m 5)).mono (fs' := [5, 6]) (fun j hj => by
        simp only [List.mem_cons, List.not_mem_nil, or_false] at hj ⊢; exact Or.inl hj) (fun _ h => h)).trans ((fldM (os := []) 6 (V1 m 6)).mono (fs' := [5, 6]) (fun j hj => by
        simp only [List.mem_cons, List.not_mem_nil, or_false] at hj ⊢; exact Or.inr hj) (fun _ h => h))
    have os : ∀ j, j ∈ zARw → j ≠ 3 → j ≠ 4 → j ≠ 14 → sr sh m j ∉ [sr sh m 3, sr sh m 4, sr sh m 14] := fun j hj a b d w => by
      simp only [List.mem_cons, List.not_mem_nil, or_false] at w
      rcases w with w | w | w
      · exact M.n hj (by decide) a w
      · exact M.n hj (by decide) b w
      · exact M.n hj (by decide) d w
    have s2 : Mx sh m V2 tp ou rw' := Mx_frm M s1 f2 (by decide) (fun j hj => os j (by
      simp only [List.mem_cons, List.not_mem_nil, or_false] at hj
      rcases hj with h | h | h | h <;> subst h <;> decide) (by
      intro h; subst h; simp at hj) (by intro h; subst h; simp at hj) (by intro h; subst h; simp at hj))
    have s3 : Mx sh m V3 tp ou rw' := Mx_frm M s2 f3 (by decide) (fun j _ => List.not_mem_nil)
    have fo : ∀ j, j ∈ zARw → j ≠ 3 → j ≠ 4 → j ≠ 14 → V3 (sr sh m j) = V1 (sr sh m j) := fun j hj a b d => by
      rw [f3.1 _ (n_m j hj) List.not_mem_nil, f2.1 _ (n_m j hj) (os j hj a b d)]
    have kp := f3.keep M 11
    have x1 : mx sh V3 m 11 = cmm Q := by
      rw [kp.1]
      have : mx sh V2 m 11 = mx sh V1 m 11 := by
        unfold mx
        rw [f2.1 _ (n_m 1 (by decide)) (os 1 (by decide) (by decide) (by decide) (by decide)), f2.1 _ (n_m 2 (by decide)) (os 2 (by decide) (by decide) (by decide) (by decide))]
      rw [this, u1.2.2.1]
    have K3 : mK sh V3 m 11 (cmm Q) := ⟨x1, fun k hk => by rw [kp.2.2.1, kp.2.2.2.1]; exact k2 k hk⟩
    have n12 : ∀ j, j ∈ zARw → j ≠ 1 → j ≠ 2 → V1 (sr sh m j) = V (sr sh m j) := fun j hj a b => u1.2.1 _ (os12 M hj a b)
    have Z3 : lz sh V3 m Q := fun k hk => by
      rw [fo 10 (by decide) (by decide) (by decide) (by decide), fo 11 (by decide) (by decide) (by decide) (by decide), n12 10 (by decide) (by decide) (by decide), n12 11 (by decide) (by decide) (by decide)]
      exact Z k hk
    refine ⟨V3, ?_, s3, ?_, fun h10 => ?_, fun _ => ⟨x1, ?_⟩⟩
    · rw [w188_0, e1]
      simp only [wcx_v, wput_n, w188_6]
      rw [show Int.toNat 11 = 11 from rfl, z1, if_pos (by omega), e2]
      simp only [wcx_v, wput_s, w188_37]
      rw [← h3]
      have e4 := M188_51 Z3 K3 c (V1 m 5) (V1 m 6) 7 0 (bI (aOk (gl (cmm Q)) (cmm Q).length (zB (gl (cmm Q)) (cmm Q).length) (zE (gl (cmm Q)) (cmm Q).length))) rfl (bI_r _)
      refine e4.trans (rI_cg (bI_cg ?_))
      rw [bI_i]
      exact ⟨fun w => ⟨c, (holds_eq F Vq).mp ⟨w.1, fun k hk => w.2 k (Nat.zero_le _) hk⟩⟩, fun w => ⟨((holds_eq F Vq).mpr w.2).1, fun i _ hi => ((holds_eq F Vq).mpr w.2).2 i hi⟩⟩
    · rw [f3.2 0 (by decide), f2.2 0 (by decide), u1.m M]
    · obtain ⟨a, b⟩ := u1.2.2.2 10 (by decide) (by decide)
      refine ⟨?_, by rw [fo 2 (by decide) (by decide) (by decide) (by decide)]; exact a⟩
      have b' : mx sh V1 m 10 = mx sh V m 10 := b h10
      rw [← b']
      unfold mx
      rw [fo 1 (by decide) (by decide) (by decide) (by decide), fo 2 (by decide) (by decide) (by decide) (by decide)]
    · rw [fo 2 (by decide) (by decide) (by decide) (by decide)]; exact z1
  · obtain ⟨V1, e1, r1⟩ := M158z M Z hl
    obtain ⟨f1, v2, v11, v1⟩ := r1
    have row : ∀ r : Nat, r < 14 → r ≠ 11 → (r < 11 ∨ r = 13) → V (sr sh m 2) r ≤ 1500 → mx sh V1 m r = mx sh V m r := fun r hr n h h5 => mx_same (r := (r : Int)) (by rw [Int.toNat_natCast]; exact v2 r n) (fun k hk => by
      rw [Int.toNat_natCast] at hk ⊢
      exact v1 _ (by omega))
    have o2 : ∀ j, j ∈ zARw → j ≠ 1 → j ≠ 2 → V1 (sr sh m j) = V (sr sh m j) := fun j hj a b => f1 _ (os12 M hj a b)
    have om : V1 m = V m := f1 m (fun w => by
      simp only [List.mem_cons, List.not_mem_nil, or_false] at w
      rcases w with w | w
      · exact n_m 1 (by decide) w.symm
      · exact n_m 2 (by decide) w.symm)
    obtain ⟨sz, lo, t13, ⟨oo, o7⟩, rws, lt, lr⟩ := s
    have len := Mx.len (sh := sh) (m := m) (V := V) ⟨sz, lo, t13, ⟨oo, o7⟩, rws, lt, lr⟩
    refine ⟨V1, ?_, ⟨fun r hr => ?_, lOk_fr lo (o2 10 (by decide) (by decide) (by decide)), ?_, ⟨?_, by rw [om]; exact o7⟩, fun p hp => ?_, lt, lr⟩, by rw [om], fun h10 => ⟨row 10 (by decide) (by decide) (Or.inl (by decide)) h10, v2 10 (by decide)⟩, fun w => absurd w c⟩
    · rw [w188_0, e1]
      simp only [wcx_v, wput_n, w188_6]
      rw [show Int.toNat 11 = 11 from rfl, v11, if_neg (by omega), bI_0 (fun w => c w.1)]
    · by_cases d : r = 11
      · rw [d, v11]; omega
      · rw [v2 r d]; exact sz r hr
    · have : mx sh V1 m 13 = mx sh V m 13 := row 13 (by decide) (by decide) (Or.inr rfl) (by omega)
      rw [this]; exact t13
    · rw [← oo]; unfold ox; rw [om, o2 8 (by decide) (by decide) (by decide)]
    · rw [← rws p hp]
      exact row p (by omega) (by omega) (Or.inl (by omega)) (by have := len.2 p hp; omega)
end
