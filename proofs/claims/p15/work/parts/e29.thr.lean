set_option maxRecDepth 16384
/-! what throws -/
def zqE (Q : Option zV ⊕ Nat → zH → Prop) (Es : List Nat) (X : zSt → Prop) (sh : zSh) (r : Option zV ⊕ Nat) (h : zH) : Prop := Q r h ∨ ∃ E t', r = .inr E ∧ h = (sh, tb t') ∧ E ∈ Es ∧ X t'
theorem zok_l {o : Option zO} {Q : Option zV ⊕ Nat → zH → Prop} {Es : List Nat} {X : zSt → Prop} {sh : zSh} (h : zok o Q) : zok o (zqE Q Es X sh) := zok_up h (fun _ _ q => Or.inl q)
theorem zok_th {Q : Option zV ⊕ Nat → zH → Prop} {Es : List Nat} {X : zSt → Prop} {sh : zSh} {E : Nat} {t : zSt} (hE : E ∈ Es) (hX : X t) : zok (some (.inr E, (sh, tb t))) (zqE Q Es X sh) := ⟨_, _, rfl, Or.inr ⟨E, t, rfl, rfl, hE, hX⟩⟩
theorem zok_e0 {o : Option zO} {P : zSt → Prop} {sh : zSh} {Es Es' : List Nat} {X X' : zSt → Prop} {Q : Option zV ⊕ Nat → zH → Prop} {f : Option zV → zH → Option zO} (h : zok o (zqE (zq0 P sh) Es X sh)) (hs : ∀ E t', E ∈ Es → X t' → E ∈ Es' ∧ X' t') (h1 : ∀ t, P t → zok (f none (sh, t)) (zqE Q Es' X' sh)) : zok (zcx o f zth) (zqE Q Es' X' sh) := by
  obtain ⟨r, h', rfl, ⟨t, rfl, rfl, hR⟩ | ⟨E, t, rfl, rfl, hE, hX⟩⟩ := h
  · exact h1 t hR
  · exact zok_th (hs E t hE hX).1 (hs E t hE hX).2
theorem zok_eI {o : Option zO} {P : Int → zSt → Prop} {sh : zSh} {Es Es' : List Nat} {X X' : zSt → Prop} {Q : Option zV ⊕ Nat → zH → Prop} {f : Option zV → zH → Option zO} (h : zok o (zqE (qI P sh) Es X sh)) (hs : ∀ E t', E ∈ Es → X t' → E ∈ Es' ∧ X' t') (h1 : ∀ x t, -2147483648 ≤ x ∧ x ≤ 2147483647 → P x t → zok (f (some (zI (oI x))) (sh, t)) (zqE Q Es' X' sh)) : zok (zcx o f zth) (zqE Q Es' X' sh) := by
  obtain ⟨r, h', rfl, ⟨x, t, rfl, rfl, a, b, hR⟩ | ⟨E, t, rfl, rfl, hE, hX⟩⟩ := h
  · exact h1 x t ⟨a, b⟩ hR
  · exact zok_th (hs E t hE hX).1 (hs E t hE hX).2
theorem zok_q0 {o : Option zO} {P : Prop} {t0 : zSt} {sh : zSh} {Es Es' : List Nat} {X X' : zSt → Prop} {Q : Option zV ⊕ Nat → zH → Prop} {f : Option zV → zH → Option zO} (h : zok o (zqE (zq0 (fun t' => t' = t0 ∧ P) sh) Es X sh)) (hs : ∀ E t', E ∈ Es → X t' → E ∈ Es' ∧ X' t') (h1 : P → zok (f none (sh, t0)) (zqE Q Es' X' sh)) : zok (zcx o f zth) (zqE Q Es' X' sh) :=
  zok_e0 h hs (fun t q => by rw [q.1]; exact h1 q.2)
theorem zok_qR {o : Option zO} {P : Nat → Prop} {t0 : zSt} {sh : zSh} {Es Es' : List Nat} {X X' : zSt → Prop} {Q : Option zV ⊕ Nat → zH → Prop} {f : Option zV → zH → Option zO} (h : zok o (zqE (qR (fun x t' => t' = t0 ∧ P x) sh) Es X sh)) (hs : ∀ E t', E ∈ Es → X t' → E ∈ Es' ∧ X' t') (h1 : ∀ x, P x → zok (f (some (zR x)) (sh, t0)) (zqE Q Es' X' sh)) : zok (zcx o f zth) (zqE Q Es' X' sh) := by
  obtain ⟨r, h', rfl, ⟨x, t, rfl, rfl, rfl, hR⟩ | ⟨E, t, rfl, rfl, hE, hX⟩⟩ := h
  · exact h1 x hR
  · exact zok_th (hs E t hE hX).1 (hs E t hE hX).2
/-- frames where the tape may change -/
def Fr7M (sh : zSh) (MB : Nat) (t t' : zSt) : Prop := t'.2 = t.2 ∧ (∀ a, MB ≤ a → t'.1 a = t.1 a) ∧ RS sh t'
theorem Fr7M.rs {sh : zSh} {MB : Nat} {t t' : zSt} (h : Fr7M sh MB t t') : RS sh t' := h.2.2
theorem Fr7M.refl {sh : zSh} {MB : Nat} {t : zSt} (h : RS sh t) : Fr7M sh MB t t := ⟨rfl, fun _ _ => rfl, h⟩
theorem Fr7M.trans {sh : zSh} {MB : Nat} {t t' u : zSt} (h : Fr7M sh MB t t') (g : Fr7M sh MB t' u) : Fr7M sh MB t u := ⟨g.1.trans h.1, fun a x => (g.2.1 a x).trans (h.2.1 a x), g.2.2⟩
theorem FrC.toM {sh : zSh} {T MB : Nat} {t t' : zSt} (h : FrC sh T MB t t') : Fr7M sh MB t t' := ⟨h.1, fun a x => h.2.1 a (Or.inl x), h.2.2⟩
theorem FrC.tp {sh : zSh} {T MB : Nat} {t t' : zSt} (h : FrC sh T MB t t') : tg t' T 1 = tg t T 1 := tg_of (h.2.1 T (Or.inr (Or.inl rfl))) 1
theorem FrR.toM {sh : zSh} {T MB r : Nat} {t t' : zSt} (F : zCl sh T MB) (qr : zRow sh r) (q : r < MB) (h : FrR sh r t t') : Fr7M sh MB t t' := ⟨h.1, fun a ha => h.2.1 a (by omega) (fun e => (F.2.2 a ha).1 (by rw [e]; exact qr.2.1)), h.2.2⟩
theorem s113 {sh : zSh} {T MB : Nat} (F : zCl sh T MB) {r0 : Nat} (q0 : zLL sh T MB r0) {x1 : Int} (u1 : -2147483648 ≤ x1 ∧ x1 ≤ 2147483647) {t : zSt} (hR : RS sh t) : zok (zcl zP 113 [zR r0, zI (oI x1)] (sh, t)) (zqE (qR (fun x t' => t' = t ∧ (zPt sh T MB x ∧ ∀ k, k < 7 → sr sh x k ≠ sr sh r0 2 ∧ sr sh x k ≠ sr sh r0 1)) sh) [2] (fun t' => t' = t ∧ ¬ (0 ≤ x1 ∧ x1 < 8)) sh) := by
  have hk := q0.2.2.2.2.2.1
  have ha : (sk sh (sr sh r0 3)).2 = 8 := by rw [hk.1]
  rw [b113_0]
  refine zok_lt (by omega) (fun c => zok_th (List.mem_singleton.mpr rfl) ⟨rfl, by omega⟩) (fun c => zok_ck q0.1 (zok_ck (by rw [hk.1]; decide) (zok_lt (by omega) (fun c2 => zok_ck q0.1 (zok_ck ⟨(by rw [hk.1]), zin_o (by omega) (by omega) (by omega)⟩ ?_)) (fun c2 => zok_th (List.mem_singleton.mpr rfl) ⟨rfl, by omega⟩))))
  rw [show nN (oI x1) = x1.toNat from nN_o (by omega) (by omega)]
  have h := hk.2 x1.toNat (by omega)
  exact zok_if (fun c3 => absurd h.1 (by omega)) (fun _ => zok_l (qR_rt ⟨rfl, h.2⟩))
theorem s114 {sh : zSh} {T MB : Nat} (F : zCl sh T MB) {x0 : Int} (u0 : -2147483648 ≤ x0 ∧ x0 ≤ 2147483647) {t : zSt} (hR : RS sh t) : zok (zcl zP 114 [zI (oI x0)] (sh, t)) (zqE (zq0 (fun t' => t' = t ∧ True) sh) [0] (fun t' => t' = t) sh) := by
  rw [b114_0]
  exact zok_lt (by omega) (fun c => zok_th (List.mem_singleton.mpr rfl) rfl) (fun c => zok_le (by omega) (fun c2 => zok_l (q0_rt ⟨rfl, trivial⟩)) (fun c2 => zok_th (List.mem_singleton.mpr rfl) rfl))
theorem s115 {sh : zSh} {T MB : Nat} (F : zCl sh T MB) {r0 : Nat} (q0 : zLL sh T MB r0) {t : zSt} (hR : RS sh t) : zok (zcl zP 115 [zR r0] (sh, t)) (qR (fun x t' => Fr7M sh MB t t' ∧ (x = sr sh r0 1 ∧ tg t' T 1 = 0)) sh) := by
  have hT := q0.2.2.1
  have q1 := q0.2.2.2.1
  rw [b115_0]
  simp only [hT]
  refine zok_ck q0.1 (zok_ck q0.1 (zok_ck q1.1.1 (zok_c0 (s64 q1.1 F.1 hR) (fun t1 p1 => ?_))))
  simp only [zput_n, b115_11, hT]
  refine zok_ck q0.1 (zok_ck F.1.1 (zok_c0 (s62 F.1 p1.1.rs) (fun t2 p2 => ?_)))
  simp only [zput_n, b115_18, hT]
  exact zok_ck q0.1 (qR_rt ⟨((p1.1).toC F q1).toM.trans (p2.1.toM F F.1 F.2.1), rfl, p2.2⟩)
theorem l94_45 {sh : zSh} {T MB : Nat} (F : zCl sh T MB) {r0 : Nat} (q0 : zLL sh T MB r0) {l1 : Int64} {x3 : Int} (u3 : 1 ≤ x3 ∧ x3 ≤ 8) {t0 : zSt} (hR : RS sh t0) (hc : 400 ≤ ((sk sh (sr sh T 0)).2 : Int)) (hs : tg t0 T 1 + x3 ≤ 400) : ∀ (n : Nat) (x4 : Int) (t1 : zSt), Fr7M sh MB t0 t1 → 0 ≤ x4 ∧ x4 ≤ x3 ∧ tg t1 T 1 = tg t0 T 1 + x4 → (x3 - x4).toNat < n → zok (zev zP 94 45 [some (zR r0), some (zL l1), none, some (zI (oI x3)), some (zI (oI x4))] [] (sh, t1)) (qI (fun x t' => Fr7M sh MB t0 t' ∧ (x = tg t0 T 1 + x3 ∧ tg t' T 1 = tg t0 T 1 + x3)) sh) := by
  have hT := q0.2.2.1
  intro n
  induction n with
  | zero => intro x4 t1 f0 _ hm; omega
  | succ n ih =>
    intro x4 t1 f0 hv hm
    have g := RS_sz f0.rs F.1
    rw [b94_45]
    simp only [hT, ti_g]
    refine zok_le (by omega) (fun c => zok_ck q0.1 (zok_ck F.1.1 (qI_rt (by omega) (by omega) ⟨f0, by omega, by omega⟩))) (fun c => zok_ck q0.1 (zok_ck F.1.1 (zok_c0 (s59 F.1 f0.rs) (fun t2 p2 => ?_))))
    rw [zput_n, b94_70, oI_add]
    have p3 := p2.2
    rw [if_pos (by omega)] at p3
    exact ih _ _ (f0.trans (p2.1.toM F F.1 F.2.1)) (by omega) (by omega)
theorem s94 {sh : zSh} {T MB : Nat} (F : zCl sh T MB) {r0 : Nat} (q0 : zLL sh T MB r0) {l1 : Int64} {x3 : Int} (u3 : -2147483648 ≤ x3 ∧ x3 ≤ 2147483647) {t : zSt} (hR : RS sh t) (hc : 400 ≤ ((sk sh (sr sh T 0)).2 : Int)) (h4 : tg t T 1 ≤ 400) : zok (zcl zP 94 [zR r0, zL l1, zI (oI x3)] (sh, t)) (fun r h => ((x3 < 1 ∨ 8 < x3) ∧ r = .inr 0 ∧ h = (sh, tb t)) ∨ ((1 ≤ x3 ∧ x3 ≤ 8 ∧ 400 < tg t T 1 + x3) ∧ r = .inr 1 ∧ h = (sh, tb t)) ∨ ((1 ≤ x3 ∧ x3 ≤ 8 ∧ tg t T 1 + x3 ≤ 400) ∧ ∃ t', r = .inl (some (zI (oI (tg t T 1 + x3)))) ∧ h = (sh, t') ∧ Fr7M sh MB t t' ∧ tg t' T 1 = tg t T 1 + x3)) := by
  have hT := q0.2.2.1
  have g := RS_sz hR F.1
  rw [b94_0]
  simp only [hT, ti_g, oI_add]
  refine zok_lt (by omega) (fun c => zok_rt (Or.inl ⟨Or.inl (by omega), rfl, rfl⟩)) (fun c => zok_le (by omega) (fun c2 => zok_ck q0.1 (zok_ck F.1.1 (zok_le (by omega) (fun c3 => ?_) (fun c3 => zok_rt (Or.inr (Or.inl ⟨by omega, rfl, rfl⟩)))))) (fun c2 => zok_rt (Or.inl ⟨Or.inr (by omega), rfl, rfl⟩)))
  refine zok_up (l94_45 F q0 (by omega) hR hc (by omega) _ _ _ (Fr7M.refl hR) (by omega) (Nat.lt_succ_self _)) ?_
  rintro r h ⟨x, t', rfl, rfl, _, _, hf, rfl, hx⟩
  exact Or.inr (Or.inr ⟨by omega, t', rfl, rfl, hf, hx⟩)
