set_option maxRecDepth 16384
/-! p3: four numbers, both ways the same -/
def mM (f : Int → Int) (e a m : Int) : Bool := mF f e (e + 1 - a).toNat a m 0 0
theorem pV1 (f : Int → Int) (a : Int) : pVal f a 1 = f a - 48 := by simp [pVal]
theorem pV2 (f : Int → Int) (a : Int) : pVal f a 2 = 10 * (f a - 48) + (f (a + 1) - 48) := by simp [pVal]; omega
theorem pV3 (f : Int → Int) (a : Int) : pVal f a 3 = 100 * (f a - 48) + 10 * (f (a + 1) - 48) + (f (a + 2) - 48) := by simp [pVal]; omega
theorem cN_of {f : Int → Int} {a s m : Int} (h : a ≤ s) : (pAll pDig f a s ∧ ¬ (s - a = 0 ∨ 3 < s - a ∨ 255 < pVal f a (s - a).toNat ∨ (1 < s - a ∧ f a = 48) ∨ m = 4)) ↔ cN f a s ∧ m ≠ 4 := by
  unfold cN
  constructor
  · rintro ⟨h1, h2⟩
    have hd : s - a = 1 ∨ s - a = 2 ∨ s - a = 3 := by omega
    refine ⟨⟨by omega, by omega, fun q => h2 (Or.inr (Or.inr (Or.inr (Or.inl q)))), h1, ?_⟩, by omega⟩
    have hv : pVal f a (s - a).toNat ≤ 255 := by omega
    rcases hd with d | d | d
    · rw [if_pos d]; rw [d, show (1 : Int).toNat = 1 from rfl, pV1] at hv; exact hv
    · rw [if_neg (by omega), if_pos d]; rw [d, show (2 : Int).toNat = 2 from rfl, pV2] at hv; exact hv
    · rw [if_neg (by omega), if_neg (by omega)]; rw [d, show (3 : Int).toNat = 3 from rfl, pV3] at hv; exact hv
  · rintro ⟨⟨g1, g2, g3, g4, g5⟩, h2⟩
    refine ⟨g4, ?_⟩
    have hd : s - a = 1 ∨ s - a = 2 ∨ s - a = 3 := by omega
    have hv : pVal f a (s - a).toNat ≤ 255 := by
      rcases hd with d | d | d
      · rw [if_pos d] at g5; rw [d, show (1 : Int).toNat = 1 from rfl, pV1]; exact g5
      · rw [if_neg (by omega), if_pos d] at g5; rw [d, show (2 : Int).toNat = 2 from rfl, pV2]; exact g5
      · rw [if_neg (by omega), if_neg (by omega)] at g5; rw [d, show (3 : Int).toNat = 3 from rfl, pV3]; exact g5
    rintro (q | q | q | q | q)
    · omega
    · omega
    · omega
    · exact g3 q
    · exact h2 q
theorem mM_st {f : Int → Int} {e a m : Int} (h : a ≤ e) : mM f e a m = true ↔ (cN f a (fn f 46 a e) ∧ m ≠ 4) ∧ mM f e (fn f 46 a e + 1) (m + 1) = true := by
  obtain ⟨r1, r2⟩ := fn_rng f 46 h
  have k := mF_num f a e m (fn f 46 a e) rfl h _ 0 rfl (by omega) (fun k h1 h2 => by omega)
  rw [← cN_of r1]
  unfold mM
  have e1 : a + ((0 : Nat) : Int) = a := by omega
  rw [e1] at k
  rw [show (e + 1 - (fn f 46 a e + 1)).toNat = (e - fn f 46 a e).toNat by omega]
  constructor
  · intro q
    obtain ⟨k1, k2, k3⟩ := k.mp q
    exact ⟨⟨k1, k2⟩, k3⟩
  · rintro ⟨⟨k1, k2⟩, k3⟩
    exact k.mpr ⟨k1, k2, k3⟩
theorem mM_end {f : Int → Int} {e m : Int} : mM f e (e + 1) m = true ↔ m = 4 := by
  unfold mM
  rw [show (e + 1 - (e + 1)).toNat = 0 by omega]
  exact decide_eq_true_iff
theorem mM_4 {f : Int → Int} {e a : Int} (h : a ≤ e) : ¬ mM f e a 4 = true := fun q => ((mM_st h).mp q).1.2 rfl
theorem cN_neg {f : Int → Int} {a e : Int} (h : e < a) : ¬ cN f a e := fun q => by have := q.1; omega
theorem four_eq {f : Int → Int} {a e : Int} (h : a ≤ e) : mM f e a 0 = true ↔ cF f a e := by
  have stp : ∀ a m : Int, a ≤ e → m ≤ 2 → (mM f e a m = true ↔ cN f a (cfn f 46 a e) ∧ (cfn f 46 a e < e ∧ mM f e (cfn f 46 a e + 1) (m + 1) = true)) := by
    intro a m ha hm
    have hc : cfn f 46 a e = fn f 46 a e := if_pos ha
    obtain ⟨r1, r2⟩ := fn_rng f 46 ha
    rw [mM_st ha, hc]
    constructor
    · rintro ⟨⟨k1, -⟩, k2⟩
      refine ⟨k1, ?_, k2⟩
      by_cases g : fn f 46 a e < e
      · exact g
      · have ge : fn f 46 a e = e := by omega
        rw [ge, mM_end] at k2; omega
    · rintro ⟨k1, -, k2⟩
      exact ⟨⟨k1, by omega⟩, k2⟩
  have nxt : ∀ a : Int, ¬ a < e → a ≤ e → ∀ P : Prop, ¬ (cN f (a + 1) (cfn f 46 (a + 1) e) ∧ P) := by
    intro a h1 h2 P q
    have hc : cfn f 46 (a + 1) e = e := if_neg (by omega)
    rw [hc] at q
    exact cN_neg (by omega) q.1
  have rng : ∀ a : Int, a ≤ e → cfn f 46 a e ≤ e := fun a ha => by
    rw [show cfn f 46 a e = fn f 46 a e from if_pos ha]; exact (fn_rng f 46 ha).2
  have r1 := rng a h
  unfold cF
  rw [stp a 0 h (by omega)]
  refine and_congr_right fun n1 => ?_
  by_cases g1 : cfn f 46 a e < e
  rotate_left
  · exact ⟨fun q => absurd q.1 g1, fun q => absurd q (nxt _ g1 r1 _)⟩
  have r2 := rng (cfn f 46 a e + 1) (by omega)
  refine (and_iff_right g1).trans ?_
  rw [show (0 : Int) + 1 = 1 from rfl, stp (cfn f 46 a e + 1) 1 (by omega) (by omega)]
  refine and_congr_right fun n2 => ?_
  by_cases g2 : cfn f 46 (cfn f 46 a e + 1) e < e
  rotate_left
  · exact ⟨fun q => absurd q.1 g2, fun q => absurd q (nxt _ g2 r2 _)⟩
  have r3 := rng (cfn f 46 (cfn f 46 a e + 1) e + 1) (by omega)
  refine (and_iff_right g2).trans ?_
  rw [show (1 : Int) + 1 = 2 from rfl, stp (cfn f 46 (cfn f 46 a e + 1) e + 1) 2 (by omega) (by omega)]
  refine and_congr_right fun n3 => ?_
  obtain ⟨b, hb⟩ : ∃ b, b = cfn f 46 (cfn f 46 (cfn f 46 a e + 1) e + 1) e := ⟨_, rfl⟩
  rw [← hb] at r3 ⊢
  by_cases g3 : b < e
  rotate_left
  · exact ⟨fun q => absurd q.1 g3, fun q => absurd q (cN_neg (by omega))⟩
  refine (and_iff_right g3).trans ?_
  rw [show (2 : Int) + 1 = 3 from rfl, mM_st (by omega : b + 1 ≤ e)]
  obtain ⟨q1, q2⟩ := fn_rng f 46 (a := b + 1) (e := e) (by omega)
  by_cases g4 : fn f 46 (b + 1) e = e
  · rw [g4, show (3 : Int) + 1 = 4 from rfl]
    exact ⟨fun q => q.1.1, fun q => ⟨⟨q, by omega⟩, mM_end.mpr rfl⟩⟩
  · refine ⟨fun q => absurd q.2 (mM_4 (by omega)), fun q => ?_⟩
    have h46 := fn_hit f 46 (by omega : b + 1 ≤ e) (by omega)
    have hd := q.2.2.2.1 (fn f 46 (b + 1) e) q1 (by omega)
    rw [h46] at hd
    exact absurd hd (by decide)
