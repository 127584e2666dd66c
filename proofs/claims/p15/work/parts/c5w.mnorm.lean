set_option maxRecDepth 16384
/-! the model's normalising -/
theorem wand_bit {h : Int} (r : 0 ≤ h ∧ h ≤ 31) : (wand h 1 = 0 ∨ wand h 1 = 1) ∧ (wand h 2 = 0 ∨ wand h 2 = 2) ∧ (wand h 4 = 0 ∨ wand h 4 = 4) ∧ (wand h 8 = 0 ∨ wand h 8 = 8) ∧ (wand h 16 = 0 ∨ wand h 16 = 16) := by
  have key : ∀ k : Fin 32, (wand (k.val : Int) 1 = 0 ∨ wand (k.val : Int) 1 = 1) ∧ (wand (k.val : Int) 2 = 0 ∨ wand (k.val : Int) 2 = 2) ∧ (wand (k.val : Int) 4 = 0 ∨ wand (k.val : Int) 4 = 4) ∧ (wand (k.val : Int) 8 = 0 ∨ wand (k.val : Int) 8 = 8) ∧ (wand (k.val : Int) 16 = 0 ∨ wand (k.val : Int) 16 = 16) := by decide
  have := key ⟨h.toNat, by omega⟩
  rw [show ((⟨h.toNat, by omega⟩ : Fin 32).val : Int) = h from Int.toNat_of_nonneg r.1] at this
  exact this
section
variable {sh : zSh} {m : Nat} {V : wSt} {tp ou : List Int} {rw' : Nat → List Int}
theorem mSame_ly {V' : wSt} (M : wMd sh m) (f : FrO (lyO sh m) V V') : mSame sh m V V' := mSame_lay M (f.mono (fun x hx => by
  unfold lyO at hx; unfold layO
  simp only [List.mem_cons, List.not_mem_nil, or_false] at hx ⊢
  rcases hx with h | h | h
  · exact Or.inl h
  · exact Or.inr (Or.inl h)
  · exact Or.inr (Or.inr (Or.inl h))))
/-- what is seen stays, but for rows d and 12 -/
def Sd (sh : zSh) (m : Nat) (V0 : wSt) (tp ou : List Int) (rw' : Nat → List Int) (d : Int) (V : wSt) : Prop := Mx sh m V tp ou rw' ∧ V m 0 = V0 m 0 ∧ ∀ t : Nat, t < 14 → t ≠ d.toNat → t ≠ 12 → V0 (sr sh m 2) t ≤ 1500 → mx sh V m t = mx sh V0 m t ∧ V (sr sh m 2) t ≤ 1500
theorem Sd.same {V0 V' : wSt} {d : Int} (s : Sd sh m V0 tp ou rw' d V) (h : mSame sh m V V') (l : lOk sh V' m) : Sd sh m V0 tp ou rw' d V' := ⟨s.1.same h l, by rw [h.2.2.2]; exact s.2.1, fun t t14 n n12 hb => by
  rw [h.mx, h.2.1]; exact s.2.2 t t14 n n12 hb⟩
theorem Sd.hid {V0 V' : wSt} {d r : Int} {L : List Int} (M : wMd sh m) (s : Sd sh m V0 tp ou rw' d V) (u : RmU sh V V' m r L) (hr : 8 ≤ r ∧ r ≤ 12) (hd : r = d ∨ r = 12) : Sd sh m V0 tp ou rw' d V' := ⟨s.1.hidr M u hr, by rw [u.m M]; exact s.2.1, fun t t14 n n12 hb => by
  obtain ⟨a, b⟩ := s.2.2 t t14 n n12 hb
  obtain ⟨p, q⟩ := u.2.2.2 t t14 (by omega)
  exact ⟨(q b).trans a, by rw [p]; exact b⟩⟩
theorem lOk_Lf {V' : wSt} {k : Nat} (h : lOk sh V m) (f : Lf sh m k V V') {X : List Int × Int} (x : l1 sh V' m k X) : lOk sh V' m := by
  obtain ⟨Q, q⟩ := h.K
  exact (f.K6 q x).ok
/-- the parts, one by one -/
def Pk (sh : zSh) (m : Nat) (V0 : wSt) (tp ou : List Int) (rw' : Nat → List Int) (d r : Int) (B : List Int) (N : Nat → List Int × Int) (k : Nat) (V : wSt) : Prop := Sd sh m V0 tp ou rw' d V ∧ mK sh V m r B ∧ ∀ j, j < k → l1 sh V m j (N j)
theorem map_msl0 (X : List Int) : X.map (msl 0) = X := by
  induction X with
  | nil => rfl
  | cons b X ih => rw [List.map_cons, ih]; rfl
theorem map_msl1 (X : List Int) : X.map (msl 1) = X.map sml := by
  induction X with
  | nil => rfl
  | cons b X ih => rw [List.map_cons, ih]; rfl
theorem M185_p {V0 : wSt} (M : wMd sh m) {d r h : Int} (hr : 0 ≤ r ∧ r ≤ 13) (hh : 0 ≤ h ∧ h ≤ 31) {B : List Int} (hB : B.length ≤ 900) (hv : Va (cutQ B)) {k : Nat} (hk : k < 7) (s : Pk sh m V0 tp ou rw' d r B (qN2 (cutQ B) h) k V) : ∃ V', wev zP 185 8 [some (wR m), some (wI d), some (wI r), some (wI h), some (wI k)] [] (sh, V) = wev zP 185 8 [some (wR m), some (wI d), some (wI r), some (wI h), some (wI (k + 1 : Nat))] [] (sh, V') ∧ Pk sh m V0 tp ou rw' d r B (qN2 (cutQ B) h) (k + 1) V' := by
  obtain ⟨s1, s2, s3⟩ := s
  obtain ⟨b1, b2, -⟩ := wand_bit hh
  have tk : ((k : Nat) : Int).toNat = k := rfl
  obtain ⟨V1, e1, f1, l1'⟩ := M153l M s1.1.1 hr (k := (k : Int)) (by omega) (by omega) s2
  rw [tk] at f1 l1'
  obtain ⟨V2, e2, f2, l2⟩ : ∃ V2, wev zP 185 22 [some (wR m), some (wI d), some (wI r), some (wI h), some (wI k)] [] (sh, V1) = wev zP 185 51 [some (wR m), some (wI d), some (wI r), some (wI h), some (wI k)] [] (sh, V2) ∧ Lf sh m k V1 V2 ∧ l1 sh V2 m k (qN1 (cutQ B) h k) := by
    rw [w185_22]
    unfold qN1
    by_cases c : wand h 1 = 0
    · rw [if_neg (by omega), if_pos c]; exact ⟨V1, rfl, Lf.refl, l1'⟩
    · rw [if_pos (by omega), if_neg c]
      have go : ∀ z : Int, (k ≠ 0 → cdk ((cutQ B k).1.map (msl z))) → (if (k : Int) = 0 then (cutQ B k).1.map (msl z) else gco ((cutQ B k).1.map (msl z))) = (qLet (cutQ B) k).1 → ∃ V2, wcx (wcl zP 177 [wR m, wI k, wI z] (sh, V1)) (fun v h' => wev zP 185 51 [some (wR m), some (wI d), some (wI r), some (wI h), some (wI k)] (wput v []) h') wth = wev zP 185 51 [some (wR m), some (wI d), some (wI r), some (wI h), some (wI k)] [] (sh, V2) ∧ Lf sh m k V1 V2 ∧ l1 sh V2 m k (qLet (cutQ B) k) := fun z hc he => by
        obtain ⟨V2, e2, f2, l2⟩ := M177 M (k := (k : Int)) (s := z) (by omega) l1' (fun w => hc (by omega))
        rw [tk] at f2 l2
        rw [he] at l2
        exact ⟨V2, by rw [e2]; simp only [wcx_v, wput_n], f2, l2⟩
      by_cases k0 : k = 0
      · subst k0
        rw [if_pos (by decide)]
        exact go 1 (fun w => absurd rfl w) (by rw [if_pos (by decide), map_msl1]; rfl)
      · rw [if_neg (by omega)]
        by_cases k2 : k = 2
        · subst k2
          rw [if_pos (by decide)]
          exact go 1 (fun _ => by rw [map_msl1]; exact cdk_sml (Va_cdk hv 2 (by decide) (by decide))) (by rw [if_neg (by decide), map_msl1]; rfl)
        · rw [if_neg (by omega)]
          exact go 0 (fun _ => by rw [map_msl0]; exact Va_cdk hv k (by omega) hk) (by
            rw [if_neg (by omega), map_msl0]; unfold qLet; dsimp only; rw [if_neg k0, if_neg k2])
  obtain ⟨V3, e3, f3, l3⟩ : ∃ V3, wev zP 185 51 [some (wR m), some (wI d), some (wI r), some (wI h), some (wI k)] [] (sh, V2) = wev zP 185 69 [some (wR m), some (wI d), some (wI r), some (wI h), some (wI k)] [] (sh, V3) ∧ Lf sh m k V2 V3 ∧ l1 sh V3 m k (qN2 (cutQ B) h k) := by
    rw [w185_51]
    unfold qN2
    by_cases c : wand h 2 = 0
    · rw [if_neg (by omega), if_pos c]; exact ⟨V2, rfl, Lf.refl, l2⟩
    · rw [if_pos (by omega), if_neg c]
      unfold qFre
      by_cases k0 : k = 0
      · rw [if_pos (by omega), if_pos k0]; exact ⟨V2, rfl, Lf.refl, l2⟩
      · rw [if_neg (by omega), if_neg k0]
        obtain ⟨V3, e3, f3, l3⟩ := M179 M (k := (k : Int)) (by omega) l2
        rw [tk] at f3 l3
        exact ⟨V3, by rw [e3]; simp only [wcx_v, wput_n], f3, l3⟩
  have fa := (f1.trans f2).trans f3
  refine ⟨V3, ?_, s1.same (mSame_ly M fa.1) (lOk_Lf s1.1.2.1 fa l3), mK_fr M s2 fa.1, fun j hj => ?_⟩
  · rw [w185_8, if_neg (by omega), e1]
    simp only [wcx_v, wput_n]
    rw [e2, e3, w185_69, wr_eq (by omega) (by omega)]
    rfl
  · by_cases c : j = k
    · rw [c]; exact l3
    · exact fa.2 j (by omega) c _ (s3 j (by omega))
theorem M185_l {V0 : wSt} (M : wMd sh m) {d r h : Int} (hr : 0 ≤ r ∧ r ≤ 13) (hh : 0 ≤ h ∧ h ≤ 31) {B : List Int} (hB : B.length ≤ 900) (hv : Va (cutQ B)) : ∀ (n k : Nat) (V : wSt), k + n = 7 → Pk sh m V0 tp ou rw' d r B (qN2 (cutQ B) h) k V → ∃ V', wev zP 185 8 [some (wR m), some (wI d), some (wI r), some (wI h), some (wI k)] [] (sh, V) = wev zP 185 8 [some (wR m), some (wI d), some (wI r), some (wI h), some (wI 7)] [] (sh, V') ∧ Pk sh m V0 tp ou rw' d r B (qN2 (cutQ B) h) 7 V' := by
  intro n
  induction n with
  | zero => intro k V hk s; rw [show k = 7 by omega] at s ⊢; exact ⟨V, rfl, s⟩
  | succ n ih =>
    intro k V hk s
    obtain ⟨V1, e1, s1⟩ := M185_p M hr hh hB hv (by omega) s
    obtain ⟨V2, e2, s2⟩ := ih (k + 1) V1 (by omega) s1
    exact ⟨V2, e1.trans e2, s2⟩
/-- dots -/
theorem M185_d {V0 : wSt} (M : wMd sh m) {d r h : Int} (hh : 0 ≤ h ∧ h ≤ 31) {T : Nat → List Int × Int} (s : Sd sh m V0 tp ou rw' d V) (l : lK sh V m (qN2 T h)) (hl : (qN2 T h 4).1.length ≤ 900) : ∃ V', wev zP 185 8 [some (wR m), some (wI d), some (wI r), some (wI h), some (wI 7)] [] (sh, V) = wev zP 185 110 [some (wR m), some (wI d), some (wI r), some (wI h), some (wI 7)] [] (sh, V') ∧ Sd sh m V0 tp ou rw' d V' ∧ lK sh V' m (qN3 T h) := by
  obtain ⟨-, -, b4, -⟩ := wand_bit hh
  rw [w185_8, if_pos (by decide)]
  unfold qN3
  by_cases c : wand h 4 = 0
  · rw [if_neg (by omega), if_pos c]; exact ⟨V, rfl, s, l⟩
  · rw [if_pos (by omega), if_neg c]
    obtain ⟨Q, hQ⟩ : ∃ Q, Q = qN2 T h := ⟨_, rfl⟩
    rw [← hQ] at l hl ⊢
    have v0 : V (sr sh m 11) 0 = (Q 0).2 := congrArg Prod.snd (l 0 (by decide)).2
    have go : ((Q 0).2 ≠ 0 ∨ gl (Q 4).1 0 = 47) → ∃ V', wcx (wcl zP 162 [wR m] (sh, V)) (fun v h' => wev zP 185 106 [some (wR m), some (wI d), some (wI r), some (wI h), some (wI 7)] (wput v []) h') wth = wev zP 185 110 [some (wR m), some (wI d), some (wI r), some (wI h), some (wI 7)] [] (sh, V') ∧ Sd sh m V0 tp ou rw' d V' ∧ lK sh V' m (qDot Q) := fun w => by
      obtain ⟨V1, e1, f1, l1'⟩ := M162q M l (by omega)
      rw [mdt_dots] at l1'
      have rl := rdots_len (Q 4).1
      obtain ⟨V2, e2, f2, l2⟩ := M163q M l1' (by rw [pup_at]; show (rdots (Q 4).1).length ≤ 1490; omega)
      have s1 : Sd sh m V0 tp ou rw' d V1 := s.same (mSame_lay M (f1.mono (fun x hx => by
        unfold layO
        simp only [List.mem_cons, List.not_mem_nil, or_false] at hx ⊢
        rcases hx with h | h | h | h
        · exact Or.inl h
        · exact Or.inr (Or.inl h)
        · exact Or.inr (Or.inr (Or.inr (Or.inl h)))
        · exact Or.inr (Or.inr (Or.inr (Or.inr h)))))) l1'.six.ok
      refine ⟨V2, ?_, s1.same (mSame_ly M f2) l2.six.ok, ?_⟩
      · rw [e1]
        simp only [wcx_v, wput_n, w185_106]
        rw [e2]
        simp only [wcx_v, wput_n]
      · unfold qDot; rw [if_pos w]; exact l2
    have stop : ¬ ((Q 0).2 ≠ 0 ∨ gl (Q 4).1 0 = 47) → lK sh V m (qDot Q) := fun w => by unfold qDot; rw [if_neg w]; exact l
    rw [show Int.toNat 0 = 0 from rfl, v0]
    by_cases f : (Q 0).2 = 0
    · rw [if_pos f, M160l (k := 4) (l 4 (by decide)) (by decide) 0]
      simp only [wcx_v, wput_s, w185_97]
      by_cases g : gl (Q 4).1 0 = 47
      · rw [if_pos g]; exact go (Or.inr g)
      · rw [if_neg g]; exact ⟨V, rfl, s, stop (fun w => w.elim (fun z => z f) g)⟩
    · rw [if_neg f]; exact go (Or.inl f)
/-- ports -/
theorem M185_o {V0 : wSt} (M : wMd sh m) {d r h : Int} (hh : 0 ≤ h ∧ h ≤ 31) {T : Nat → List Int × Int} (g : Good (qN3 T h)) (s : Sd sh m V0 tp ou rw' d V) (l : lK sh V m (qN3 T h)) : ∃ V', wev zP 185 110 [some (wR m), some (wI d), some (wI r), some (wI h), some (wI 7)] [] (sh, V) = wev zP 185 123 [some (wR m), some (wI d), some (wI r), some (wI h), some (wI 7)] [] (sh, V') ∧ Sd sh m V0 tp ou rw' d V' ∧ lK sh V' m (qN4 T h) := by
  obtain ⟨-, -, -, b8, -⟩ := wand_bit hh
  rw [w185_110]
  unfold qN4
  by_cases c : wand h 8 = 0
  · rw [if_neg (by omega), if_pos c]; exact ⟨V, rfl, s, l⟩
  · rw [if_pos (by omega), if_neg c]
    obtain ⟨V1, e1, f1, l1'⟩ := M182 M l (g.1.2.1 0 (by decide)) (g.1.2.1 3 (by decide)) g.2.2.2.2.2.2.1 g.2.2.2.2.2.1
    refine ⟨V1, ?_, s.same (mSame_ly M f1) l1'.six.ok, l1'⟩
    rw [e1]
    simp only [wcx_v, wput_n]
end
