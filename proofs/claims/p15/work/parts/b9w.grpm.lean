set_option maxRecDepth 16384
/-! groups: their range, and read from another place -/
theorem wand_65535 (v : Int) : 0 ≤ wand v 65535 ∧ wand v 65535 ≤ 65535 := by
  have h2 : ((oI v &&& oI 65535).toBitVec).toNat ≤ 65535 := by
    show ((oI v).toBitVec &&& (65535 : Int32).toBitVec).toNat ≤ 65535
    rw [BitVec.toNat_and]; exact Nat.and_le_right
  have h1 : (oI v &&& oI 65535).toInt = ((oI v &&& oI 65535).toBitVec.toNat : Int) := by
    show (oI v &&& oI 65535).toBitVec.toInt = _
    rw [BitVec.toInt_eq_toNat_cond, if_pos (by omega)]
  unfold wand; omega
theorem wush_bv (v : Int) : (((oI v).toUInt32 >>> ((oI 16).toUInt32 &&& Int32.toUInt32 31)).toInt32).toBitVec = (oI v).toBitVec >>> 16 := rfl
theorem wush_16 (v : Int) : 0 ≤ wush v 16 ∧ wush v 16 ≤ 65535 := by
  have h2 : ((oI v).toBitVec >>> 16).toNat ≤ 65535 := by
    rw [BitVec.toNat_ushiftRight, Nat.shiftRight_eq_div_pow]
    have := (oI v).toBitVec.isLt
    omega
  have h1 : (((oI v).toUInt32 >>> ((oI 16).toUInt32 &&& Int32.toUInt32 31)).toInt32).toInt = (((oI v).toBitVec >>> 16).toNat : Int) := by
    show (((oI v).toUInt32 >>> ((oI 16).toUInt32 &&& Int32.toUInt32 31)).toInt32).toBitVec.toInt = _
    rw [wush_bv, BitVec.toInt_eq_toNat_cond, if_pos (by omega)]
  unfold wush; omega
/-- the two halves of a number put together -/
theorem halves (x : Int32) : wor (wshl (wush x.toInt 16) 16) (wand x.toInt 65535) = x.toInt := by
  unfold wor wshl wush wand
  rw [oI_self, oI_self, oI_self, oI_self]
  refine congrArg Int32.toInt (Int32.toBitVec_inj.mp ?_)
  have m : ∀ i : Fin 32, (65535#32).getLsbD i.val = decide (i.val < 16) := by decide
  show ((x.toBitVec >>> 16) <<< 16) ||| (x.toBitVec &&& 65535#32) = x.toBitVec
  apply BitVec.eq_of_getLsbD_eq
  intro i hi
  rw [BitVec.getLsbD_or, BitVec.getLsbD_shiftLeft, BitVec.getLsbD_and, m ⟨i, hi⟩, BitVec.getLsbD_ushiftRight]
  by_cases c : i < 16
  · simp [c, hi]
  · simp [c, hi, show 16 + (i - 16) = i by omega]
theorem hNm_r {f : Int → Int} {s : Int} : ∀ (n : Nat) (k v : Int), (s - k).toNat = n → k ≤ s → n ≤ 4 → (∀ j, k ≤ j → j < s → pHx (f j) = 1) → 0 ≤ v → v ≤ (if n = 0 then 65535 else if n = 1 then 4095 else if n = 2 then 255 else if n = 3 then 15 else 0) → 0 ≤ hNm f k s v ∧ hNm f k s v ≤ 65535 := by
  intro n
  induction n with
  | zero =>
    intro k v hn hk h4 h h0 h1
    rw [(hNm_st f k s v).1 (by omega)]
    rw [if_pos rfl] at h1
    exact ⟨h0, h1⟩
  | succ n ih =>
    intro k v hn hk h4 h h0 h1
    have ph := h k (Int.le_refl k) (by omega)
    have pr := pHex_r (f k)
    have p0 : 0 ≤ pHex (f k) := by
      unfold pHx at ph
      by_cases c : 0 ≤ pHex (f k)
      · exact c
      · rw [if_neg c] at ph; exact absurd ph (by decide)
    rw [(hNm_st f k s v).2 (by omega)]
    refine ih (k + 1) _ (by omega) (by omega) (by omega) (fun j j1 j2 => h j (by omega) j2) (by omega) ?_
    clear ih h ph
    rcases (by omega : n = 0 ∨ n = 1 ∨ n = 2 ∨ n = 3) with e | e | e | e <;> subst e <;> simp at h1 ⊢ <;> omega
theorem mGs_gL {f : Int → Int} {e la : Int} : ∀ (n : Nat) (k c r : Int), (e + 2 - k).toNat ≤ n → mGs f e (la = 1) k c r → ((gLs f e la k).length : Int) = r - c ∧ ∀ x, x ∈ gLs f e la k → 0 ≤ x ∧ x ≤ 65535 := by
  intro n
  induction n with
  | zero =>
    intro k c r hn h
    rcases mGs_st.mp h with ⟨h1, h2⟩ | ⟨h1, -⟩
    · rw [(gLs_st f e la k).1 h1]
      exact ⟨by simp only [List.length_nil]; omega, fun x hx => absurd hx (List.not_mem_nil)⟩
    · omega
  | succ n ih =>
    intro k c r hn h
    rcases mGs_st.mp h with ⟨h1, h2⟩ | ⟨h1, c', hg, hs, hm⟩
    · rw [(gLs_st f e la k).1 h1]
      exact ⟨by simp only [List.length_nil]; omega, fun x hx => absurd hx (List.not_mem_nil)⟩
    · have ec : cfn f 58 k e = fn f 58 k e := if_pos (by omega)
      have rg := fn_rng f 58 (show k ≤ e by omega)
      obtain ⟨i1, i2⟩ := ih (fn f 58 k e + 1) c' r (by omega) hm
      have gs := (gLs_st f e la k).2 h1
      rw [ec] at gs
      rcases hg with ⟨g1, g2, g3, g4⟩ | ⟨g1, g2⟩
      · rw [gs.1 ⟨g1, g2, bI_1 g3⟩]
        clear gs
        refine ⟨by simp only [List.length_cons]; omega, fun x hx => ?_⟩
        rcases List.mem_cons.mp hx with w | w
        · rw [w]; exact wush_16 _
        · rcases List.mem_cons.mp w with w | w
          · rw [w]; exact wand_65535 _
          · exact i2 x w
      · have nf : ¬ (la = 1 ∧ fn f 58 k e = e ∧ bI (cF f k e) = 1) := fun w => by
          have hl := cF_pt (bI_i.mp w.2.2)
          rw [w.2.1] at g1
          exact hex_no46 g1 hl
        rw [gs.2 nf]
        clear gs
        refine ⟨by simp only [List.length_cons]; omega, fun x hx => ?_⟩
        rcases List.mem_cons.mp hx with w | w
        · rw [w]
          have q := g1
          exact hNm_r _ k 0 rfl (by have := q.1; omega) (by have := q.2.1; omega) q.2.2 (by decide) (by split <;> (try split) <;> (try split) <;> (try split) <;> decide)
        · exact i2 x w
theorem arr_r {P : List Int} {g : Int} (h : ∀ x, x ∈ P → 0 ≤ x ∧ x ≤ 65535) : ∀ j, 0 ≤ arr P g j ∧ arr P g j ≤ 65535 := fun j => by
  have d : ∀ i : Nat, 0 ≤ P.getD i 0 ∧ P.getD i 0 ≤ 65535 := fun i => by
    rw [List.getD_eq_getElem?_getD]
    cases e : P[i]? with
    | none => exact ⟨Int.le_refl _, by decide⟩
    | some x => exact h x (List.mem_of_getElem? e)
  unfold arr
  split
  · exact d j
  · unfold sprd
    split
    · exact ⟨Int.le_refl _, by decide⟩
    · split
      · exact d _
      · exact d _
section
variable {f g : Int → Int} {d : Int}
theorem hNm_sh {s : Int} : ∀ (n : Nat) (k v : Int), (s - k).toNat = n → (∀ j, k ≤ j → j < s → f j = g (j + d)) → hNm g (k + d) (s + d) v = hNm f k s v := by
  intro n
  induction n with
  | zero => intro k v hn h; rw [(hNm_st g _ _ v).1 (by omega), (hNm_st f _ _ v).1 (by omega)]
  | succ n ih =>
    intro k v hn h
    rw [(hNm_st g (k + d) _ v).2 (by omega), (hNm_st f k _ v).2 (by omega), ← h k (Int.le_refl k) (by omega), show k + d + 1 = k + 1 + d by omega, ih _ _ (by omega) (fun j j1 j2 => h j (by omega) j2)]
theorem dNm_sh {s : Int} : ∀ (n : Nat) (k v : Int), (s - k).toNat = n → (∀ j, k ≤ j → j < s → f j = g (j + d)) → dNm g (k + d) (s + d) v = dNm f k s v := by
  intro n
  induction n with
  | zero => intro k v hn h; rw [dNm_e (by omega), dNm_e (by omega)]
  | succ n ih =>
    intro k v hn h
    rw [dNm_y (f := g) rfl (by omega), dNm_y (f := f) rfl (by omega), ← h k (Int.le_refl k) (by omega), show k + d + 1 = k + 1 + d by omega, ih _ _ (by omega) (fun j j1 j2 => h j (by omega) j2)]
theorem FB_sh {e : Int} : ∀ (n : Nat) (k i b : Int), (4 - k).toNat = n → 0 ≤ k → (∀ j, i ≤ j → j < e → f j = g (j + d)) → FB g (e + d) k (i + d) b = FB f e k i b := by
  intro n
  induction n with
  | zero => intro k i b hn hk h; rw [(FB_st g _ k _ b).1 (by omega), (FB_st f _ k _ b).1 (by omega)]
  | succ n ih =>
    intro k i b hn hk h
    by_cases c : k = 3
    · subst c
      rw [(FB_st g _ 3 _ b).2.2 rfl, (FB_st f _ 3 _ b).2.2 rfl, dNm_sh _ _ _ rfl h, show e + d + 1 = e + 1 + d by omega, ih _ _ _ (by omega) (by omega) (fun j j1 j2 => by omega)]
    · rw [(FB_st g _ k _ b).2.1 (by omega), (FB_st f _ k _ b).2.1 (by omega), cfn_sh h]
      by_cases q : i ≤ e
      · have r := (cfn_r f 46 i e).1 q
        rw [dNm_sh _ _ _ rfl (fun j j1 j2 => h j j1 (by omega)), show cfn f 46 i e + d + 1 = cfn f 46 i e + 1 + d by omega, ih _ _ _ (by omega) (by omega) (fun j j1 j2 => h j (by omega) j2)]
      · have r := (cfn_r f 46 i e).2 (by omega)
        rw [r, dNm_sh _ _ _ rfl (fun j j1 j2 => by omega), show e + d + 1 = e + 1 + d by omega, ih _ _ _ (by omega) (by omega) (fun j j1 j2 => by omega)]
theorem gLs_sh {e la : Int} : ∀ (n : Nat) (k : Int), (e + 1 - k).toNat ≤ n → (∀ j, k ≤ j → j < e → f j = g (j + d)) → gLs g (e + d) la (k + d) = gLs f e la k := by
  intro n
  induction n with
  | zero => intro k hn h; rw [(gLs_st g _ la _).1 (by omega), (gLs_st f _ la _).1 (by omega)]
  | succ n ih =>
    intro k hn h
    by_cases c : e ≤ k
    · rw [(gLs_st g _ la _).1 (by omega), (gLs_st f _ la _).1 c]
    · have r := (cfn_r f 58 k e).1 (by omega)
      have i1 := ih (cfn f 58 k e + 1) (by omega) (fun j j1 j2 => h j (by omega) j2)
      have s1 : cfn g 58 (k + d) (e + d) = cfn f 58 k e + d := cfn_sh h
      have s2 : FB g (e + d) 0 (k + d) 0 = FB f e 0 k 0 := FB_sh _ 0 k 0 rfl (by decide) h
      have s3 : hNm g (k + d) (cfn f 58 k e + d) 0 = hNm f k (cfn f 58 k e) 0 := hNm_sh _ k 0 rfl (fun j j1 j2 => h j j1 (by omega))
      have s4 : bI (cF g (k + d) (e + d)) = bI (cF f k e) := bI_cg (cF_sh h)
      have gg := (gLs_st g (e + d) la (k + d)).2 (by omega)
      have gf := (gLs_st f e la k).2 (by omega)
      rw [s1, s2, s3, s4, show cfn f 58 k e + d + 1 = cfn f 58 k e + 1 + d by omega, i1] at gg
      by_cases q : la = 1 ∧ cfn f 58 k e = e ∧ bI (cF f k e) = 1
      · rw [gf.1 q, gg.1 ⟨q.1, by have := q.2.1; clear gg gf; omega, q.2.2⟩]
      · rw [gf.2 q, gg.2 (fun w => q ⟨w.1, by have := w.2.1; clear gg gf; omega, w.2.2⟩)]
theorem six6_sh {a e : Int} (h : ∀ j, a ≤ j → j < e → f j = g (j + d)) {P : List Int} {x : Int} (k : six6 f a e P x) : six6 g (a + d) (e + d) P x := by
  have gi : ∀ j, a ≤ j → (isG g (e + d) (j + d) ↔ isG f e j) := fun j hj => isG_sh (fun i i1 i2 => h i (by omega) i2)
  rcases k with ⟨k1, k2, k3⟩ | ⟨G, k1, k2, k3, k4, k5⟩
  · refine Or.inl ⟨fun j hj w => ?_, ?_, k3⟩
    · have := (gi (j - d) (by omega))
      rw [show j - d + d = j by omega] at this
      exact k1 (j - d) (by omega) (this.mp w)
    · rw [k2, gLs_sh _ _ (Nat.le_refl _) h]
  · have Ge := k2.1
    refine Or.inr ⟨G + d, by omega, (gi G k1).mpr k2, fun j j1 j2 w => ?_, ?_, ?_⟩
    · have := (gi (j - d) (by omega))
      rw [show j - d + d = j by omega] at this
      exact k3 (j - d) (by omega) (by omega) (this.mp w)
    · rw [k4, gLs_sh _ _ (Nat.le_refl _) (fun j j1 j2 => h j j1 (by omega)), show G + d + 2 = G + 2 + d by omega, gLs_sh _ _ (Nat.le_refl _) (fun j j1 j2 => h j (by omega) j2)]
    · rw [k5, gLs_sh _ _ (Nat.le_refl _) (fun j j1 j2 => h j j1 (by omega))]
end
/-- the model's bits of four numbers are the class's -/
theorem mFb_num {f : Int → Int} {e a s m b : Int} (hN : cN f a s) (hs : s ≤ e) (h46 : ∀ k, a ≤ k → k < s → f k ≠ 46) (he : s < e → f s = 46) (hm : m ≠ 4) : ∀ (j n : Nat) (k v d : Int), (s - k).toNat = j → (e + 1 - k).toNat = n → a ≤ k → k ≤ s → d = k - a → 0 ≤ v → dNm f k s v = dNm f a s 0 → (d = 0 → v = 0) → mFb f e n k m v d b = mFb f e (e - s).toNat (s + 1) (m + 1) 0 0 (wor (wshl b 8) (dNm f a s 0)) := by
  have nl := hN.1
  have nh := hN.2.1
  have dg := hN.2.2.2.1
  have n255 := ((cN_i f a s).mp hN).2.2.2.2
  intro j
  induction j with
  | zero =>
    intro n k v d hj hn h1 h2 hd hv hx h0
    have ks : k = s := by omega
    subst ks
    have n1 : n = (e - k).toNat + 1 := by omega
    have c46 : (if k < e then f k else 46) = 46 := by
      by_cases c : k < e
      · rw [if_pos c]; exact he c
      · rw [if_neg c]
    rw [dNm_e (Int.le_refl k)] at hx
    rw [n1, mFb, if_pos c46, if_neg, ← hx]
    rintro (w | w | w | w | w)
    · omega
    · omega
    · omega
    · exact hN.2.2.1 ⟨by omega, by have := w.2; rw [hd, show k - (k - a) = a by omega] at this; exact this⟩
    · exact hm w
  | succ j ih =>
    intro n k v d hj hn h1 h2 hd hv hx h0
    have n1 : n = (e + 1 - (k + 1)).toNat + 1 := by omega
    have pd := dg k h1 (by omega)
    have fk : 48 ≤ f k ∧ f k ≤ 57 := by unfold pDig at pd; split at pd <;> omega
    have n46 : ¬ (if k < e then f k else 46) = 46 := by rw [if_pos (by omega)]; exact h46 k h1 (by omega)
    rw [n1, mFb, if_neg n46, if_pos pd, if_pos (by omega)]
    rw [dNm_y (f := f) rfl (by omega)] at hx
    exact ih _ (k + 1) _ (d + 1) (by omega) rfl (by omega) (by omega) (by omega) (by omega) hx (fun w => by omega)
theorem mFb_FB {f : Int → Int} {a e : Int} (h : cF f a e) : mFb f e (e + 1 - a).toNat a 0 0 0 0 = FB f e 0 a 0 := by
  unfold cF at h
  have b1 := (FB_st f e 0 a 0).2.1 (by decide)
  obtain ⟨x, hx⟩ : ∃ x, x = cfn f 46 a e := ⟨_, rfl⟩
  rw [← hx] at h b1
  have b2 := fun b => (FB_st f e (0 + 1) (x + 1) b).2.1 (by decide)
  obtain ⟨y, hy⟩ : ∃ y, y = cfn f 46 (x + 1) e := ⟨_, rfl⟩
  rw [← hy] at h b2
  have b3 := fun b => (FB_st f e (0 + 1 + 1) (y + 1) b).2.1 (by decide)
  obtain ⟨z, hz⟩ : ∃ z, z = cfn f 46 (y + 1) e := ⟨_, rfl⟩
  rw [← hz] at h b3
  have b4 := fun b => (FB_st f e (0 + 1 + 1 + 1) (z + 1) b).2.2 (by decide)
  have b5 := fun b => (FB_st f e (0 + 1 + 1 + 1 + 1) (e + 1) b).1 (by decide)
  obtain ⟨h1, h2, h3, h4⟩ := h
  have l1 := h1.1
  have l2 := h2.1
  have l3 := h3.1
  have l4 := h4.1
  have rz := cfn_r f 46 (y + 1) e
  have ry := cfn_r f 46 (x + 1) e
  have rx := cfn_r f 46 a e
  rw [← hz] at rz
  rw [← hy] at ry
  rw [← hx] at rx
  have ze : z < e := by omega
  have ye : y < e := by
    by_cases c : y + 1 ≤ e
    · omega
    · have := rz.2 (by omega); omega
  have xe : x < e := by
    by_cases c : x + 1 ≤ e
    · omega
    · have := ry.2 (by omega); omega
  have ae : a ≤ e := by
    by_cases c : a ≤ e
    · exact c
    · have := rx.2 (by omega); omega
  have no1 : ∀ k, a ≤ k → k < x → f k ≠ 46 := fun k k1 k2 => cfn_no2 (f := f) (b := 46) (a := a) (e := e) ae k1 (by rw [← hx]; exact k2)
  have no2 : ∀ k, x + 1 ≤ k → k < y → f k ≠ 46 := fun k k1 k2 => cfn_no2 (f := f) (b := 46) (a := x + 1) (e := e) (by omega) k1 (by rw [← hy]; exact k2)
  have no3 : ∀ k, y + 1 ≤ k → k < z → f k ≠ 46 := fun k k1 k2 => cfn_no2 (f := f) (b := 46) (a := y + 1) (e := e) (by omega) k1 (by rw [← hz]; exact k2)
  have p46 : ∀ k, pDig (f k) = 1 → f k ≠ 46 := fun k w q => by rw [q] at w; exact absurd w (by decide)
  have no4 : ∀ k, z + 1 ≤ k → k < e → f k ≠ 46 := fun k k1 k2 => p46 k (h4.2.2.2.1 k k1 k2)
  have i1 : f x = 46 := by rw [hx]; exact cfn_hit2 ae (by rw [← hx]; exact xe)
  have i2 : f y = 46 := by rw [hy]; exact cfn_hit2 (by omega) (by rw [← hy]; exact ye)
  have i3 : f z = 46 := by rw [hz]; exact cfn_hit2 (by omega) (by rw [← hz]; exact ze)
  rw [b1, b2, b3, b4, b5]
  clear b1 b2 b3 b4 b5 rx ry rz hx hy hz
  rw [mFb_num (m := 0) (b := 0) h1 (by omega) no1 (fun _ => i1) (by decide) _ _ a 0 0 rfl rfl (Int.le_refl a) (by omega) (by omega) (by decide) rfl (fun _ => rfl)]
  rw [mFb_num (m := 0 + 1) h2 (by omega) no2 (fun _ => i2) (by decide) _ _ (x + 1) 0 0 rfl (by omega) (Int.le_refl _) (by omega) (by omega) (by decide) rfl (fun _ => rfl)]
  rw [mFb_num (m := 0 + 1 + 1) h3 (by omega) no3 (fun _ => i3) (by decide) _ _ (y + 1) 0 0 rfl (by omega) (Int.le_refl _) (by omega) (by omega) (by decide) rfl (fun _ => rfl)]
  rw [mFb_num (m := 0 + 1 + 1 + 1) h4 (by omega) no4 (fun w => absurd w (by omega)) (by decide) _ _ (z + 1) 0 0 rfl (by omega) (Int.le_refl _) (by omega) (by omega) (by decide) rfl (fun _ => rfl)]
  rw [show (e - e).toNat = 0 by omega]
  rfl
