set_option maxRecDepth 16384
/-! the law's calls of the program, and what they do to what is seen -/
def aMq (MB : Nat) (U U' : wSt) : Prop := ∀ a, MB ≤ a → U' a = U a
def aCq (MB : Nat) (U U' : wSt) : Prop := ∀ a, a < MB → U' a = U a
theorem tgs_of {t t' : zSt} {a : Nat} (h : t'.1 a = t.1 a) : tgs t' a = tgs t a := by funext k; unfold tgs; rw [h]
theorem FrL.aM {sh : zSh} {MB : Nat} {t t' : zSt} (f : FrL sh MB t t') : aMq MB (tgs t) (tgs t') := fun a ha => tgs_of (f.1 a ha)
theorem zMd.mb {sh : zSh} {MB m : Nat} (q : zMd sh MB m) {j : Nat} (h : j ∈ (0 :: zAR)) : MB ≤ zob sh m j := by
  unfold zob
  rcases List.mem_cons.mp h with rfl | h
  · rw [if_pos rfl]; exact q.2.1
  · rw [if_neg (by rintro rfl; revert h; decide)]; exact (q.2.2.1 j h).1
theorem FrV.aC {sh : zSh} {MB m : Nat} {Ls : List Nat} {t t' : zSt} (q : zMd sh MB m) (f : FrV sh m Ls t t') (hl : ∀ j, j ∈ Ls → j ∈ (0 :: zAR)) : aCq MB (tgs t) (tgs t') := fun a ha => tgs_of (f.2.1 a (fun j hj => by have := q.mb (hl j hj); omega))
theorem liftM_q {sh : zSh} {MB m : Nat} (q : zMd sh MB m) : liftM (aMq MB) sh m := fun h s => by
  have e : ∀ j, j ∈ zAR → _ := fun j hj => h _ (q.2.2.1 j hj).1
  exact s.same ⟨e 1 (by decide), e 2 (by decide), e 8 (by decide), h _ q.2.1⟩ (lOk_fr s.2.1 (e 10 (by decide)))
theorem liftC_q {sh : zSh} {T MB x : Nat} (F : zCl sh T MB) (q : zLL sh T MB x) (h : wLL sh x) : liftC (aCq MB) sh x := fun {U U'} {tp ou lk f0 f1} g s => by
  have row : ∀ r, zRow sh r → U' r = U r ∧ U' (sr sh r 0) = U (sr sh r 0) := fun r hr => by
    refine ⟨g r ?_, g _ ?_⟩
    · rcases Nat.lt_or_ge r MB with w | w
      · exact w
      · exact absurd (by rw [hr.1]) (F.2.2 r w).2
    · rcases Nat.lt_or_ge (sr sh r 0) MB with w | w
      · exact w
      · exact absurd hr.2.1 (F.2.2 _ w).1
  have tr : ∀ r, zRow sh r → tx sh U' r = tx sh U r := fun r hr => tx_cg (row r hr).1 (row r hr).2
  have ex : U' x = U x := g x q.2.1
  refine ⟨fun r hr => ?_, (tr _ h.r0).trans s.2.1, (tr _ h.r2).trans s.2.2.1, fun p k hp hk => ?_, by rw [ex]; exact s.2.2.2.2.1, by rw [ex]; exact s.2.2.2.2.2⟩
  · have a := s.1 r hr
    unfold wRo at a ⊢
    rw [(row r hr).1]; exact a
  · have hr := (h.P (p := p) (by omega)).1 k hk
    rw [← s.2.2.2.1 p k hp hk]; unfold pv; rw [tr _ hr, (row _ hr).1]
theorem oI_i {x : Int} (u : -2147483648 ≤ x ∧ x ≤ 2147483647) : (oI x).toInt = x := wr_eq u.1 u.2
theorem zok_ag {o : Option zO} {p : Option wO} {Q : Option zV ⊕ Nat → zH → Prop} {sh : zSh} {R : Option wV ⊕ Nat} {V' : wSt} (h : zok o Q) (hz : zag o p) (hW : p = some (R, (sh, V'))) : zok o (fun r h' => Q r h' ∧ abR r = R ∧ tgs h'.2 = V') := by
  obtain ⟨r, h', rfl, q⟩ := h
  have e := hz r h' _ rfl hW
  refine ⟨r, h', rfl, q, (congrArg Prod.fst e).symm, ?_⟩
  exact (congrArg (fun z : wO => z.2.2) e).symm
theorem zok_wW {o : Option zO} {p : Option wO} {P : Int → zSt → Prop} {sh : zSh} {Es : List Nat} {X : zSt → Prop} {Q : Option zV ⊕ Nat → zH → Prop} {f : Option zV → zH → Option zO} {g : Nat → zH → Option zO} {R : Option wV ⊕ Nat} {V' : wSt} (h : zok o (zqE (qI P sh) Es X sh)) (hz : zag o p) (hW : p = some (R, (sh, V'))) (h1 : ∀ x t, -2147483648 ≤ x ∧ x ≤ 2147483647 → P x t → R = .inl (some (wI x)) → tgs t = V' → zok (f (some (zI (oI x))) (sh, t)) Q) (h2 : ∀ E t, E ∈ Es → X t → R = .inr E → tgs t = V' → zok (g E (sh, tb t)) Q) : zok (zcx o f g) Q := by
  obtain ⟨r, h', rfl, q, hr, hv⟩ := zok_ag h hz hW
  rcases q with ⟨x, t, rfl, rfl, a, b, hR⟩ | ⟨E, t, rfl, rfl, hE, hX⟩
  · refine h1 x t ⟨a, b⟩ hR ?_ hv
    rw [← hr]
    show Sum.inl (some (wI (oI x).toInt)) = _
    rw [oI_i ⟨a, b⟩]
  · exact h2 E t hE hX hr.symm hv
theorem zok_iW {o : Option zO} {p : Option wO} {P : Int → zSt → Prop} {sh : zSh} {Q : Option zV ⊕ Nat → zH → Prop} {f : Option zV → zH → Option zO} {g : Nat → zH → Option zO} {y : wV} {V' : wSt} (h : zok o (qI P sh)) (hz : zag o p) (hW : p = some (.inl (some y), (sh, V'))) (h1 : ∀ x t, -2147483648 ≤ x ∧ x ≤ 2147483647 → P x t → wI x = y → tgs t = V' → zok (f (some (zI (oI x))) (sh, t)) Q) : zok (zcx o f g) Q := by
  obtain ⟨r, h', rfl, q, hr, hv⟩ := zok_ag h hz hW
  obtain ⟨x, t, rfl, rfl, a, b, hR⟩ := q
  refine h1 x t ⟨a, b⟩ hR ?_ hv
  have e : some (wI (oI x).toInt) = some y := Sum.inl.inj hr
  rw [oI_i ⟨a, b⟩] at e
  exact Option.some.inj e
theorem zok_lW {o : Option zO} {p : Option wO} {P : Int64 → zSt → Prop} {sh : zSh} {Q : Option zV ⊕ Nat → zH → Prop} {f : Option zV → zH → Option zO} {g : Nat → zH → Option zO} {R : Option wV ⊕ Nat} {V' : wSt} (h : zok o (qL P sh)) (hz : zag o p) (hW : p = some (R, (sh, V'))) (h1 : ∀ x t, P x t → tgs t = V' → zok (f (some (zL x)) (sh, t)) Q) : zok (zcx o f g) Q := by
  obtain ⟨r, h', rfl, q, hr, hv⟩ := zok_ag h hz hW
  obtain ⟨x, t, rfl, rfl, hR⟩ := q
  exact h1 x t hR hv
theorem x209 {sh : zSh} {T MB : Nat} (F : zCl sh T MB) {r0 : Nat} (q0 : zLL sh T MB r0) {x1 : Int} (u1 : -2147483648 ≤ x1 ∧ x1 ≤ 2147483647) {rO : Nat} (qO : sk sh rO = (4, 1)) {t : zSt} (hR : RS sh t) {R : Option wV ⊕ Nat} {V' : wSt} (hW : wcl zP 95 [wR r0, wI x1] (sh, tgs t) = some (R, (sh, V'))) : zok (zcl zP 209 [zR r0, zI (oI x1), zR rO] (sh, t)) (qI (fun x t' => FrL sh MB t t' ∧ tg t' T 1 = 0 ∧ tgs t' = V' ∧ x = cE [2, 0, 1, 0] R ∧ (∀ E, R = .inr E → 1 ≤ x) ∧ (∀ v, R = .inl v → ∃ y, v = some (wI y) ∧ tl t' rO 0 = Int32.toInt64 (oI y))) sh) := by
  have hW' : wcl zP 95 (([zR r0, zI (oI x1)] : List zV).map ab) (abH (sh, t)) = some (R, (sh, V')) := by
    show wcl zP 95 [wR r0, wI (oI x1).toInt] (sh, tgs t) = _
    rw [oI_i u1]; exact hW
  rw [b209_0]
  refine zok_ck q0.1 (zok_wW (s95 F q0 u1 hR) (zag_cl zP 95 _ _) hW' (fun x t1 ux p hr hv => ?_) (fun E t1 hE hX hr hv => ?_))
  · rw [zput_s, b209_7]
    exact zok_ck ⟨by rw [qO], by rw [qO]; exact zin_o (by decide) (by decide) (by decide)⟩ (qI_rt (x := 0) (by decide) (by decide) ⟨FrL.ofM p.1 _ _ _, p.2, hv, by rw [hr]; rfl, fun E hE => (by rw [hr] at hE; cases hE), fun v hv' => by rw [hr] at hv'; cases hv'; exact ⟨_, rfl, tl_J _ _ _ _⟩⟩)
  · simp only [List.mem_cons, List.not_mem_nil, or_false] at hE
    rcases hE with rfl | rfl
    · show zok (zev zP 209 12 [none, none, none, none] [zX 1000] (sh, tb t1)) _
      rw [b209_12]
      exact qI_rt (x := 1) (by decide) (by decide) ⟨FrL.ofB hX.1, hX.2, hv, by rw [hr]; rfl, fun _ _ => by decide, fun v hv' => (by rw [hr] at hv'; cases hv')⟩
    · show zok (zev zP 209 15 [none, none, none, none] [zX 1000] (sh, tb t1)) _
      rw [b209_15]
      exact qI_rt (x := 2) (by decide) (by decide) ⟨FrL.ofB hX.1, hX.2, hv, by rw [hr]; rfl, fun _ _ => by decide, fun v hv' => (by rw [hr] at hv'; cases hv')⟩
theorem x210 {sh : zSh} {T MB : Nat} (F : zCl sh T MB) {r0 : Nat} (q0 : zLL sh T MB r0) {x1 : Int} (u1 : -2147483648 ≤ x1 ∧ x1 ≤ 2147483647) {rO : Nat} (qO : sk sh rO = (4, 1)) {t : zSt} (hR : RS sh t) {R : Option wV ⊕ Nat} {V' : wSt} (hW : wcl zP 97 [wR r0, wI x1] (sh, tgs t) = some (R, (sh, V'))) : zok (zcl zP 210 [zR r0, zI (oI x1), zR rO] (sh, t)) (qI (fun x t' => FrL sh MB t t' ∧ tg t' T 1 = tg t T 1 ∧ tgs t' = V' ∧ x = cE [0, 0, 1, 0] R ∧ (∀ E, R = .inr E → 1 ≤ x) ∧ (∀ v, R = .inl v → ∃ y, v = some (wI y) ∧ tl t' rO 0 = Int32.toInt64 (oI y))) sh) := by
  have hW' : wcl zP 97 (([zR r0, zI (oI x1)] : List zV).map ab) (abH (sh, t)) = some (R, (sh, V')) := by
    show wcl zP 97 [wR r0, wI (oI x1).toInt] (sh, tgs t) = _
    rw [oI_i u1]; exact hW
  rw [b210_0]
  refine zok_ck q0.1 (zok_wW (s97 F q0 u1 hR) (zag_cl zP 97 _ _) hW' (fun x t1 ux p hr hv => ?_) (fun E t1 hE hX hr hv => ?_))
  · rw [zput_s, b210_7]
    exact zok_ck ⟨by rw [qO], by rw [qO]; exact zin_o (by decide) (by decide) (by decide)⟩ (qI_rt (x := 0) (by decide) (by decide) ⟨FrL.ofM p.1.toM _ _ _, p.1.tp, hv, by rw [hr]; rfl, fun E hE => (by rw [hr] at hE; cases hE), fun v hv' => by rw [hr] at hv'; cases hv'; exact ⟨_, rfl, tl_J _ _ _ _⟩⟩)
  · simp only [List.mem_cons, List.not_mem_nil, or_false] at hE
    rcases hE with rfl
    · show zok (zev zP 210 12 [none, none, none, none] [zX 1000] (sh, tb t1)) _
      rw [b210_12]
      exact qI_rt (x := 1) (by decide) (by decide) ⟨FrL.ofB hX.toM, hX.tp, hv, by rw [hr]; rfl, fun _ _ => by decide, fun v hv' => (by rw [hr] at hv'; cases hv')⟩
theorem x211 {sh : zSh} {T MB : Nat} (F : zCl sh T MB) {r0 : Nat} (q0 : zLL sh T MB r0) {x1 : Int} (u1 : -2147483648 ≤ x1 ∧ x1 ≤ 2147483647) {x2 : Int} (u2 : -2147483648 ≤ x2 ∧ x2 ≤ 2147483647) {rO : Nat} (qO : sk sh rO = (4, 1)) {t : zSt} (hR : RS sh t) {R : Option wV ⊕ Nat} {V' : wSt} (hW : wcl zP 98 [wR r0, wI x1, wI x2] (sh, tgs t) = some (R, (sh, V'))) : zok (zcl zP 211 [zR r0, zI (oI x1), zI (oI x2), zR rO] (sh, t)) (qI (fun x t' => FrL sh MB t t' ∧ tg t' T 1 = tg t T 1 ∧ tgs t' = V' ∧ x = cE [2, 0, 1, 0] R ∧ (∀ E, R = .inr E → 1 ≤ x) ∧ (∀ v, R = .inl v → ∃ y, v = some (wI y) ∧ tl t' rO 0 = Int32.toInt64 (oI y))) sh) := by
  have hW' : wcl zP 98 (([zR r0, zI (oI x1), zI (oI x2)] : List zV).map ab) (abH (sh, t)) = some (R, (sh, V')) := by
    show wcl zP 98 [wR r0, wI (oI x1).toInt, wI (oI x2).toInt] (sh, tgs t) = _
    rw [oI_i u1, oI_i u2]; exact hW
  rw [b211_0]
  refine zok_ck q0.1 (zok_wW (s98 F q0 u1 u2 hR) (zag_cl zP 98 _ _) hW' (fun x t1 ux p hr hv => ?_) (fun E t1 hE hX hr hv => ?_))
  · rw [zput_s, b211_8]
    exact zok_ck ⟨by rw [qO], by rw [qO]; exact zin_o (by decide) (by decide) (by decide)⟩ (qI_rt (x := 0) (by decide) (by decide) ⟨FrL.ofM p.1.toM _ _ _, p.1.tp, hv, by rw [hr]; rfl, fun E hE => (by rw [hr] at hE; cases hE), fun v hv' => by rw [hr] at hv'; cases hv'; exact ⟨_, rfl, tl_J _ _ _ _⟩⟩)
  · simp only [List.mem_cons, List.not_mem_nil, or_false] at hE
    rcases hE with rfl | rfl
    · show zok (zev zP 211 13 [none, none, none, none, none] [zX 1000] (sh, tb t1)) _
      rw [b211_13]
      exact qI_rt (x := 1) (by decide) (by decide) ⟨FrL.ofB hX.toM, hX.tp, hv, by rw [hr]; rfl, fun _ _ => by decide, fun v hv' => (by rw [hr] at hv'; cases hv')⟩
    · show zok (zev zP 211 17 [none, none, none, none, none] [zX 1000] (sh, tb t1)) _
      rw [b211_17]
      exact qI_rt (x := 2) (by decide) (by decide) ⟨FrL.ofB hX.toM, hX.tp, hv, by rw [hr]; rfl, fun _ _ => by decide, fun v hv' => (by rw [hr] at hv'; cases hv')⟩
theorem x212 {sh : zSh} {T MB : Nat} (F : zCl sh T MB) {r0 : Nat} (q0 : zLL sh T MB r0) {x1 : Int} (u1 : -2147483648 ≤ x1 ∧ x1 ≤ 2147483647) {rO : Nat} (qO : sk sh rO = (4, 1)) {t : zSt} (hR : RS sh t) {R : Option wV ⊕ Nat} {V' : wSt} (hW : wcl zP 99 [wR r0, wI x1] (sh, tgs t) = some (R, (sh, V'))) : zok (zcl zP 212 [zR r0, zI (oI x1), zR rO] (sh, t)) (qI (fun x t' => FrL sh MB t t' ∧ tg t' T 1 = tg t T 1 ∧ tgs t' = V' ∧ x = cE [0, 0, 1, 0] R ∧ (∀ E, R = .inr E → 1 ≤ x) ∧ (∀ v, R = .inl v → ∃ y, v = some (wI y) ∧ tl t' rO 0 = Int32.toInt64 (oI y))) sh) := by
  have hW' : wcl zP 99 (([zR r0, zI (oI x1)] : List zV).map ab) (abH (sh, t)) = some (R, (sh, V')) := by
    show wcl zP 99 [wR r0, wI (oI x1).toInt] (sh, tgs t) = _
    rw [oI_i u1]; exact hW
  rw [b212_0]
  refine zok_ck q0.1 (zok_wW (s99 F q0 u1 hR) (zag_cl zP 99 _ _) hW' (fun x t1 ux p hr hv => ?_) (fun E t1 hE hX hr hv => ?_))
  · rw [zput_s, b212_7]
    exact zok_ck ⟨by rw [qO], by rw [qO]; exact zin_o (by decide) (by decide) (by decide)⟩ (qI_rt (x := 0) (by decide) (by decide) ⟨FrL.ofM p.1.toM _ _ _, p.1.tp, hv, by rw [hr]; rfl, fun E hE => (by rw [hr] at hE; cases hE), fun v hv' => by rw [hr] at hv'; cases hv'; exact ⟨_, rfl, tl_J _ _ _ _⟩⟩)
  · simp only [List.mem_cons, List.not_mem_nil, or_false] at hE
    rcases hE with rfl
    · show zok (zev zP 212 12 [none, none, none, none] [zX 1000] (sh, tb t1)) _
      rw [b212_12]
      exact qI_rt (x := 1) (by decide) (by decide) ⟨FrL.ofB hX.toM, hX.tp, hv, by rw [hr]; rfl, fun _ _ => by decide, fun v hv' => (by rw [hr] at hv'; cases hv')⟩
theorem x213 {sh : zSh} {T MB : Nat} (F : zCl sh T MB) {r0 : Nat} (q0 : zLL sh T MB r0) {x1 : Int} (u1 : -2147483648 ≤ x1 ∧ x1 ≤ 2147483647) {x2 : Int} (u2 : -2147483648 ≤ x2 ∧ x2 ≤ 2147483647) {rO : Nat} (qO : sk sh rO = (4, 1)) {t : zSt} (hR : RS sh t) {R : Option wV ⊕ Nat} {V' : wSt} (hW : wcl zP 100 [wR r0, wI x1, wI x2] (sh, tgs t) = some (R, (sh, V'))) : zok (zcl zP 213 [zR r0, zI (oI x1), zI (oI x2), zR rO] (sh, t)) (qI (fun x t' => FrL sh MB t t' ∧ tg t' T 1 = tg t T 1 ∧ tgs t' = V' ∧ x = cE [3, 2, 1, 0] R ∧ (∀ E, R = .inr E → 1 ≤ x) ∧ (∀ v, R = .inl v → ∃ y, v = some (wI y) ∧ tl t' rO 0 = Int32.toInt64 (oI y))) sh) := by
  have hW' : wcl zP 100 (([zR r0, zI (oI x1), zI (oI x2)] : List zV).map ab) (abH (sh, t)) = some (R, (sh, V')) := by
    show wcl zP 100 [wR r0, wI (oI x1).toInt, wI (oI x2).toInt] (sh, tgs t) = _
    rw [oI_i u1, oI_i u2]; exact hW
  rw [b213_0]
  refine zok_ck q0.1 (zok_wW (s100 F q0 u1 u2 hR) (zag_cl zP 100 _ _) hW' (fun x t1 ux p hr hv => ?_) (fun E t1 hE hX hr hv => ?_))
  · rw [zput_s, b213_8]
    exact zok_ck ⟨by rw [qO], by rw [qO]; exact zin_o (by decide) (by decide) (by decide)⟩ (qI_rt (x := 0) (by decide) (by decide) ⟨FrL.ofM p.1.toM _ _ _, p.1.tp, hv, by rw [hr]; rfl, fun E hE => (by rw [hr] at hE; cases hE), fun v hv' => by rw [hr] at hv'; cases hv'; exact ⟨_, rfl, tl_J _ _ _ _⟩⟩)
  · simp only [List.mem_cons, List.not_mem_nil, or_false] at hE
    rcases hE with rfl | rfl | rfl
    · show zok (zev zP 213 13 [none, none, none, none, none] [zX 1000] (sh, tb t1)) _
      rw [b213_13]
      exact qI_rt (x := 1) (by decide) (by decide) ⟨FrL.ofB hX.toM, hX.tp, hv, by rw [hr]; rfl, fun _ _ => by decide, fun v hv' => (by rw [hr] at hv'; cases hv')⟩
    · show zok (zev zP 213 17 [none, none, none, none, none] [zX 1000] (sh, tb t1)) _
      rw [b213_17]
      exact qI_rt (x := 2) (by decide) (by decide) ⟨FrL.ofB hX.toM, hX.tp, hv, by rw [hr]; rfl, fun _ _ => by decide, fun v hv' => (by rw [hr] at hv'; cases hv')⟩
    · show zok (zev zP 213 21 [none, none, none, none, none] [zX 1000] (sh, tb t1)) _
      rw [b213_21]
      exact qI_rt (x := 3) (by decide) (by decide) ⟨FrL.ofB hX.toM, hX.tp, hv, by rw [hr]; rfl, fun _ _ => by decide, fun v hv' => (by rw [hr] at hv'; cases hv')⟩
theorem x214 {sh : zSh} {T MB : Nat} (F : zCl sh T MB) {r0 : Nat} (q0 : zLL sh T MB r0) {x1 : Int} (u1 : -2147483648 ≤ x1 ∧ x1 ≤ 2147483647) {rO : Nat} (qO : sk sh rO = (4, 1)) {t : zSt} (hR : RS sh t) {R : Option wV ⊕ Nat} {V' : wSt} (hW : wcl zP 101 [wR r0, wI x1] (sh, tgs t) = some (R, (sh, V'))) : zok (zcl zP 214 [zR r0, zI (oI x1), zR rO] (sh, t)) (qI (fun x t' => FrL sh MB t t' ∧ tg t' T 1 = tg t T 1 ∧ tgs t' = V' ∧ x = cE [0, 0, 1, 0] R ∧ (∀ E, R = .inr E → 1 ≤ x) ∧ (∀ v, R = .inl v → ∃ y, v = some (wI y) ∧ tl t' rO 0 = Int32.toInt64 (oI y))) sh) := by
  have hW' : wcl zP 101 (([zR r0, zI (oI x1)] : List zV).map ab) (abH (sh, t)) = some (R, (sh, V')) := by
    show wcl zP 101 [wR r0, wI (oI x1).toInt] (sh, tgs t) = _
    rw [oI_i u1]; exact hW
  rw [b214_0]
  refine zok_ck q0.1 (zok_wW (s101 F q0 u1 hR) (zag_cl zP 101 _ _) hW' (fun x t1 ux p hr hv => ?_) (fun E t1 hE hX hr hv => ?_))
  · rw [zput_s, b214_7]
    exact zok_ck ⟨by rw [qO], by rw [qO]; exact zin_o (by decide) (by decide) (by decide)⟩ (qI_rt (x := 0) (by decide) (by decide) ⟨FrL.ofM p.1.toM _ _ _, p.1.tp, hv, by rw [hr]; rfl, fun E hE => (by rw [hr] at hE; cases hE), fun v hv' => by rw [hr] at hv'; cases hv'; exact ⟨_, rfl, tl_J _ _ _ _⟩⟩)
  · simp only [List.mem_cons, List.not_mem_nil, or_false] at hE
    rcases hE with rfl
    · show zok (zev zP 214 12 [none, none, none, none] [zX 1000] (sh, tb t1)) _
      rw [b214_12]
      exact qI_rt (x := 1) (by decide) (by decide) ⟨FrL.ofB hX.toM, hX.tp, hv, by rw [hr]; rfl, fun _ _ => by decide, fun v hv' => (by rw [hr] at hv'; cases hv')⟩
theorem x215 {sh : zSh} {T MB : Nat} (F : zCl sh T MB) {r0 : Nat} (q0 : zLL sh T MB r0) {x1 : Int} (u1 : -2147483648 ≤ x1 ∧ x1 ≤ 2147483647) {x2 : Int} (u2 : -2147483648 ≤ x2 ∧ x2 ≤ 2147483647) {x3 : Int} (u3 : -2147483648 ≤ x3 ∧ x3 ≤ 2147483647) {x4 : Int} (u4 : -2147483648 ≤ x4 ∧ x4 ≤ 2147483647) {rO : Nat} (qO : sk sh rO = (4, 1)) {t : zSt} (hR : RS sh t) {R : Option wV ⊕ Nat} {V' : wSt} (hW : wcl zP 102 [wR r0, wI x1, wI x2, wI x3, wI x4] (sh, tgs t) = some (R, (sh, V'))) : zok (zcl zP 215 [zR r0, zI (oI x1), zI (oI x2), zI (oI x3), zI (oI x4), zR rO] (sh, t)) (qI (fun x t' => FrL sh MB t t' ∧ tg t' T 1 = tg t T 1 ∧ tgs t' = V' ∧ x = cE [0, 2, 1, 3] R ∧ (∀ E, R = .inr E → 1 ≤ x) ∧ (∀ v, R = .inl v → ∃ y, v = some (wI y) ∧ tl t' rO 0 = Int32.toInt64 (oI y))) sh) := by
  have hW' : wcl zP 102 (([zR r0, zI (oI x1), zI (oI x2), zI (oI x3), zI (oI x4)] : List zV).map ab) (abH (sh, t)) = some (R, (sh, V')) := by
    show wcl zP 102 [wR r0, wI (oI x1).toInt, wI (oI x2).toInt, wI (oI x3).toInt, wI (oI x4).toInt] (sh, tgs t) = _
    rw [oI_i u1, oI_i u2, oI_i u3, oI_i u4]; exact hW
  rw [b215_0]
  refine zok_ck q0.1 (zok_wW (s102 F q0 u1 u2 u3 u4 hR) (zag_cl zP 102 _ _) hW' (fun x t1 ux p hr hv => ?_) (fun E t1 hE hX hr hv => ?_))
  · rw [zput_s, b215_12]
    exact zok_ck ⟨by rw [qO], by rw [qO]; exact zin_o (by decide) (by decide) (by decide)⟩ (qI_rt (x := 0) (by decide) (by decide) ⟨FrL.ofM p.1.toM _ _ _, p.1.tp, hv, by rw [hr]; rfl, fun E hE => (by rw [hr] at hE; cases hE), fun v hv' => by rw [hr] at hv'; cases hv'; exact ⟨_, rfl, tl_J _ _ _ _⟩⟩)
  · simp only [List.mem_cons, List.not_mem_nil, or_false] at hE
    rcases hE with rfl | rfl | rfl
    · show zok (zev zP 215 17 [none, none, none, none, none, none, none] [zX 1000] (sh, tb t1)) _
      rw [b215_17]
      exact qI_rt (x := 1) (by decide) (by decide) ⟨FrL.ofB hX.toM, hX.tp, hv, by rw [hr]; rfl, fun _ _ => by decide, fun v hv' => (by rw [hr] at hv'; cases hv')⟩
    · show zok (zev zP 215 21 [none, none, none, none, none, none, none] [zX 1000] (sh, tb t1)) _
      rw [b215_21]
      exact qI_rt (x := 2) (by decide) (by decide) ⟨FrL.ofB hX.toM, hX.tp, hv, by rw [hr]; rfl, fun _ _ => by decide, fun v hv' => (by rw [hr] at hv'; cases hv')⟩
    · show zok (zev zP 215 25 [none, none, none, none, none, none, none] [zX 1000] (sh, tb t1)) _
      rw [b215_25]
      exact qI_rt (x := 3) (by decide) (by decide) ⟨FrL.ofB hX.toM, hX.tp, hv, by rw [hr]; rfl, fun _ _ => by decide, fun v hv' => (by rw [hr] at hv'; cases hv')⟩
theorem x216 {sh : zSh} {T MB : Nat} (F : zCl sh T MB) {r0 : Nat} (q0 : zLL sh T MB r0) {x1 : Int} (u1 : -2147483648 ≤ x1 ∧ x1 ≤ 2147483647) {x2 : Int} (u2 : -2147483648 ≤ x2 ∧ x2 ≤ 2147483647) {x3 : Int} (u3 : -2147483648 ≤ x3 ∧ x3 ≤ 2147483647) {rO : Nat} (qO : sk sh rO = (4, 1)) {t : zSt} (hR : RS sh t) {R : Option wV ⊕ Nat} {V' : wSt} (hW : wcl zP 103 [wR r0, wI x1, wI x2, wI x3] (sh, tgs t) = some (R, (sh, V'))) : zok (zcl zP 216 [zR r0, zI (oI x1), zI (oI x2), zI (oI x3), zR rO] (sh, t)) (qI (fun x t' => FrL sh MB t t' ∧ tg t' T 1 = tg t T 1 ∧ tgs t' = V' ∧ x = cE [2, 0, 1, 3] R ∧ (∀ E, R = .inr E → 1 ≤ x) ∧ (∀ v, R = .inl v → ∃ y, v = some (wI y) ∧ tl t' rO 0 = Int32.toInt64 (oI y))) sh) := by
  have hW' : wcl zP 103 (([zR r0, zI (oI x1), zI (oI x2), zI (oI x3)] : List zV).map ab) (abH (sh, t)) = some (R, (sh, V')) := by
    show wcl zP 103 [wR r0, wI (oI x1).toInt, wI (oI x2).toInt, wI (oI x3).toInt] (sh, tgs t) = _
    rw [oI_i u1, oI_i u2, oI_i u3]; exact hW
  rw [b216_0]
  refine zok_ck q0.1 (zok_wW (s103 F q0 u1 u2 u3 hR) (zag_cl zP 103 _ _) hW' (fun x t1 ux p hr hv => ?_) (fun E t1 hE hX hr hv => ?_))
  · rw [zput_s, b216_10]
    exact zok_ck ⟨by rw [qO], by rw [qO]; exact zin_o (by decide) (by decide) (by decide)⟩ (qI_rt (x := 0) (by decide) (by decide) ⟨FrL.ofM p.1.toM _ _ _, p.1.tp, hv, by rw [hr]; rfl, fun E hE => (by rw [hr] at hE; cases hE), fun v hv' => by rw [hr] at hv'; cases hv'; exact ⟨_, rfl, tl_J _ _ _ _⟩⟩)
  · simp only [List.mem_cons, List.not_mem_nil, or_false] at hE
    rcases hE with rfl | rfl | rfl
    · show zok (zev zP 216 15 [none, none, none, none, none, none] [zX 1000] (sh, tb t1)) _
      rw [b216_15]
      exact qI_rt (x := 1) (by decide) (by decide) ⟨FrL.ofB hX.toM, hX.tp, hv, by rw [hr]; rfl, fun _ _ => by decide, fun v hv' => (by rw [hr] at hv'; cases hv')⟩
    · show zok (zev zP 216 19 [none, none, none, none, none, none] [zX 1000] (sh, tb t1)) _
      rw [b216_19]
      exact qI_rt (x := 2) (by decide) (by decide) ⟨FrL.ofB hX.toM, hX.tp, hv, by rw [hr]; rfl, fun _ _ => by decide, fun v hv' => (by rw [hr] at hv'; cases hv')⟩
    · show zok (zev zP 216 23 [none, none, none, none, none, none] [zX 1000] (sh, tb t1)) _
      rw [b216_23]
      exact qI_rt (x := 3) (by decide) (by decide) ⟨FrL.ofB hX.toM, hX.tp, hv, by rw [hr]; rfl, fun _ _ => by decide, fun v hv' => (by rw [hr] at hv'; cases hv')⟩
theorem x217 {sh : zSh} {T MB : Nat} (F : zCl sh T MB) {r0 : Nat} (q0 : zLL sh T MB r0) {x1 : Int} (u1 : -2147483648 ≤ x1 ∧ x1 ≤ 2147483647) {x2 : Int} (u2 : -2147483648 ≤ x2 ∧ x2 ≤ 2147483647) {x3 : Int} (u3 : -2147483648 ≤ x3 ∧ x3 ≤ 2147483647) {rO : Nat} (qO : sk sh rO = (4, 1)) {t : zSt} (hR : RS sh t) {R : Option wV ⊕ Nat} {V' : wSt} (hW : wcl zP 104 [wR r0, wI x1, wI x2, wI x3] (sh, tgs t) = some (R, (sh, V'))) : zok (zcl zP 217 [zR r0, zI (oI x1), zI (oI x2), zI (oI x3), zR rO] (sh, t)) (qI (fun x t' => FrL sh MB t t' ∧ tg t' T 1 = tg t T 1 ∧ tgs t' = V' ∧ x = cE [0, 2, 1, 3] R ∧ (∀ E, R = .inr E → 1 ≤ x) ∧ (∀ v, R = .inl v → ∃ y, v = some (wI y) ∧ tl t' rO 0 = Int32.toInt64 (oI y))) sh) := by
  have hW' : wcl zP 104 (([zR r0, zI (oI x1), zI (oI x2), zI (oI x3)] : List zV).map ab) (abH (sh, t)) = some (R, (sh, V')) := by
    show wcl zP 104 [wR r0, wI (oI x1).toInt, wI (oI x2).toInt, wI (oI x3).toInt] (sh, tgs t) = _
    rw [oI_i u1, oI_i u2, oI_i u3]; exact hW
  rw [b217_0]
  refine zok_ck q0.1 (zok_wW (s104 F q0 u1 u2 u3 hR) (zag_cl zP 104 _ _) hW' (fun x t1 ux p hr hv => ?_) (fun E t1 hE hX hr hv => ?_))
  · rw [zput_s, b217_10]
    exact zok_ck ⟨by rw [qO], by rw [qO]; exact zin_o (by decide) (by decide) (by decide)⟩ (qI_rt (x := 0) (by decide) (by decide) ⟨FrL.ofM p.1.toM _ _ _, p.1.tp, hv, by rw [hr]; rfl, fun E hE => (by rw [hr] at hE; cases hE), fun v hv' => by rw [hr] at hv'; cases hv'; exact ⟨_, rfl, tl_J _ _ _ _⟩⟩)
  · simp only [List.mem_cons, List.not_mem_nil, or_false] at hE
    rcases hE with rfl | rfl | rfl
    · show zok (zev zP 217 15 [none, none, none, none, none, none] [zX 1000] (sh, tb t1)) _
      rw [b217_15]
      exact qI_rt (x := 1) (by decide) (by decide) ⟨FrL.ofB hX.toM, hX.tp, hv, by rw [hr]; rfl, fun _ _ => by decide, fun v hv' => (by rw [hr] at hv'; cases hv')⟩
    · show zok (zev zP 217 19 [none, none, none, none, none, none] [zX 1000] (sh, tb t1)) _
      rw [b217_19]
      exact qI_rt (x := 2) (by decide) (by decide) ⟨FrL.ofB hX.toM, hX.tp, hv, by rw [hr]; rfl, fun _ _ => by decide, fun v hv' => (by rw [hr] at hv'; cases hv')⟩
    · show zok (zev zP 217 23 [none, none, none, none, none, none] [zX 1000] (sh, tb t1)) _
      rw [b217_23]
      exact qI_rt (x := 3) (by decide) (by decide) ⟨FrL.ofB hX.toM, hX.tp, hv, by rw [hr]; rfl, fun _ _ => by decide, fun v hv' => (by rw [hr] at hv'; cases hv')⟩
theorem x218 {sh : zSh} {T MB : Nat} (F : zCl sh T MB) {r0 : Nat} (q0 : zLL sh T MB r0) {x1 : Int} (u1 : -2147483648 ≤ x1 ∧ x1 ≤ 2147483647) {x2 : Int} (u2 : -2147483648 ≤ x2 ∧ x2 ≤ 2147483647) {x3 : Int} (u3 : -2147483648 ≤ x3 ∧ x3 ≤ 2147483647) {rO : Nat} (qO : sk sh rO = (4, 1)) {t : zSt} (hR : RS sh t) {R : Option wV ⊕ Nat} {V' : wSt} (hW : wcl zP 105 [wR r0, wI x1, wI x2, wI x3] (sh, tgs t) = some (R, (sh, V'))) : zok (zcl zP 218 [zR r0, zI (oI x1), zI (oI x2), zI (oI x3), zR rO] (sh, t)) (qI (fun x t' => FrL sh MB t t' ∧ tg t' T 1 = tg t T 1 ∧ tgs t' = V' ∧ x = cE [2, 0, 1, 0] R ∧ (∀ E, R = .inr E → 1 ≤ x) ∧ (∀ v, R = .inl v → ∃ y, v = some (wI y) ∧ (oI y = oI 0 → tl t' rO 0 = 0) ∧ (¬ oI y = oI 0 → tl t' rO 0 = 1))) sh) := by
  have hW' : wcl zP 105 (([zR r0, zI (oI x1), zI (oI x2), zI (oI x3)] : List zV).map ab) (abH (sh, t)) = some (R, (sh, V')) := by
    show wcl zP 105 [wR r0, wI (oI x1).toInt, wI (oI x2).toInt, wI (oI x3).toInt] (sh, tgs t) = _
    rw [oI_i u1, oI_i u2, oI_i u3]; exact hW
  rw [b218_0]
  refine zok_ck q0.1 (zok_wW (s105 F q0 u1 u2 u3 hR) (zag_cl zP 105 _ _) hW' (fun x t1 ux p hr hv => ?_) (fun E t1 hE hX hr hv => ?_))
  · rw [zput_s, b218_10]
    exact zok_if (fun c => zok_ck ⟨by rw [qO], by rw [qO]; exact zin_o (by decide) (by decide) (by decide)⟩ (qI_rt (x := 0) (by decide) (by decide) ⟨FrL.ofM p.1.toM _ _ _, p.1.tp, hv, by rw [hr]; rfl, fun E hE => (by rw [hr] at hE; cases hE), fun v hv' => by rw [hr] at hv'; cases hv'; exact ⟨_, rfl, fun _ => tl_J _ _ _ _, fun w => absurd c w⟩⟩)) (fun c => zok_ck ⟨by rw [qO], by rw [qO]; exact zin_o (by decide) (by decide) (by decide)⟩ (qI_rt (x := 0) (by decide) (by decide) ⟨FrL.ofM p.1.toM _ _ _, p.1.tp, hv, by rw [hr]; rfl, fun E hE => (by rw [hr] at hE; cases hE), fun v hv' => by rw [hr] at hv'; cases hv'; exact ⟨_, rfl, fun w => absurd w c, fun _ => tl_J _ _ _ _⟩⟩))
  · simp only [List.mem_cons, List.not_mem_nil, or_false] at hE
    rcases hE with rfl | rfl
    · show zok (zev zP 218 22 [none, none, none, none, none, none] [zX 1000] (sh, tb t1)) _
      rw [b218_22]
      exact qI_rt (x := 1) (by decide) (by decide) ⟨FrL.ofB hX.toM, hX.tp, hv, by rw [hr]; rfl, fun _ _ => by decide, fun v hv' => (by rw [hr] at hv'; cases hv')⟩
    · show zok (zev zP 218 26 [none, none, none, none, none, none] [zX 1000] (sh, tb t1)) _
      rw [b218_26]
      exact qI_rt (x := 2) (by decide) (by decide) ⟨FrL.ofB hX.toM, hX.tp, hv, by rw [hr]; rfl, fun _ _ => by decide, fun v hv' => (by rw [hr] at hv'; cases hv')⟩
theorem x219 {sh : zSh} {T MB : Nat} (F : zCl sh T MB) {r0 : Nat} (q0 : zLL sh T MB r0) {x1 : Int} (u1 : -2147483648 ≤ x1 ∧ x1 ≤ 2147483647) {rO : Nat} (qO : sk sh rO = (4, 1)) {t : zSt} (hR : RS sh t) {R : Option wV ⊕ Nat} {V' : wSt} (hW : wcl zP 106 [wR r0, wI x1] (sh, tgs t) = some (R, (sh, V'))) : zok (zcl zP 219 [zR r0, zI (oI x1), zR rO] (sh, t)) (qI (fun x t' => FrL sh MB t t' ∧ tg t' T 1 = tg t T 1 ∧ tgs t' = V' ∧ x = cE [0, 0, 1, 0] R ∧ (∀ E, R = .inr E → 1 ≤ x) ∧ (∀ v, R = .inl v → ∃ y, v = some (wI y) ∧ tl t' rO 0 = Int32.toInt64 (oI y))) sh) := by
  have hW' : wcl zP 106 (([zR r0, zI (oI x1)] : List zV).map ab) (abH (sh, t)) = some (R, (sh, V')) := by
    show wcl zP 106 [wR r0, wI (oI x1).toInt] (sh, tgs t) = _
    rw [oI_i u1]; exact hW
  rw [b219_0]
  refine zok_ck q0.1 (zok_wW (s106 F q0 u1 hR) (zag_cl zP 106 _ _) hW' (fun x t1 ux p hr hv => ?_) (fun E t1 hE hX hr hv => ?_))
  · rw [zput_s, b219_7]
    exact zok_ck ⟨by rw [qO], by rw [qO]; exact zin_o (by decide) (by decide) (by decide)⟩ (qI_rt (x := 0) (by decide) (by decide) ⟨FrL.ofM p.1.toM _ _ _, p.1.tp, hv, by rw [hr]; rfl, fun E hE => (by rw [hr] at hE; cases hE), fun v hv' => by rw [hr] at hv'; cases hv'; exact ⟨_, rfl, tl_J _ _ _ _⟩⟩)
  · simp only [List.mem_cons, List.not_mem_nil, or_false] at hE
    rcases hE with rfl
    · show zok (zev zP 219 12 [none, none, none, none] [zX 1000] (sh, tb t1)) _
      rw [b219_12]
      exact qI_rt (x := 1) (by decide) (by decide) ⟨FrL.ofB hX.toM, hX.tp, hv, by rw [hr]; rfl, fun _ _ => by decide, fun v hv' => (by rw [hr] at hv'; cases hv')⟩
theorem x220 {sh : zSh} {T MB : Nat} (F : zCl sh T MB) {r0 : Nat} (q0 : zLL sh T MB r0) {x1 : Int} (u1 : -2147483648 ≤ x1 ∧ x1 ≤ 2147483647) {x2 : Int} (u2 : -2147483648 ≤ x2 ∧ x2 ≤ 2147483647) {rO : Nat} (qO : sk sh rO = (4, 1)) {t : zSt} (hR : RS sh t) {R : Option wV ⊕ Nat} {V' : wSt} (hW : wcl zP 107 [wR r0, wI x1, wI x2] (sh, tgs t) = some (R, (sh, V'))) : zok (zcl zP 220 [zR r0, zI (oI x1), zI (oI x2), zR rO] (sh, t)) (qI (fun x t' => FrL sh MB t t' ∧ tg t' T 1 = tg t T 1 ∧ tgs t' = V' ∧ x = cE [2, 0, 1, 0] R ∧ (∀ E, R = .inr E → 1 ≤ x) ∧ (∀ v, R = .inl v → ∃ y, v = some (wI y) ∧ tl t' rO 0 = Int32.toInt64 (oI y))) sh) := by
  have hW' : wcl zP 107 (([zR r0, zI (oI x1), zI (oI x2)] : List zV).map ab) (abH (sh, t)) = some (R, (sh, V')) := by
    show wcl zP 107 [wR r0, wI (oI x1).toInt, wI (oI x2).toInt] (sh, tgs t) = _
    rw [oI_i u1, oI_i u2]; exact hW
  rw [b220_0]
  refine zok_ck q0.1 (zok_wW (s107 F q0 u1 u2 hR) (zag_cl zP 107 _ _) hW' (fun x t1 ux p hr hv => ?_) (fun E t1 hE hX hr hv => ?_))
  · rw [zput_s, b220_8]
    exact zok_ck ⟨by rw [qO], by rw [qO]; exact zin_o (by decide) (by decide) (by decide)⟩ (qI_rt (x := 0) (by decide) (by decide) ⟨FrL.ofM p.1.toM _ _ _, p.1.tp, hv, by rw [hr]; rfl, fun E hE => (by rw [hr] at hE; cases hE), fun v hv' => by rw [hr] at hv'; cases hv'; exact ⟨_, rfl, tl_J _ _ _ _⟩⟩)
  · simp only [List.mem_cons, List.not_mem_nil, or_false] at hE
    rcases hE with rfl | rfl
    · show zok (zev zP 220 13 [none, none, none, none, none] [zX 1000] (sh, tb t1)) _
      rw [b220_13]
      exact qI_rt (x := 1) (by decide) (by decide) ⟨FrL.ofB hX.toM, hX.tp, hv, by rw [hr]; rfl, fun _ _ => by decide, fun v hv' => (by rw [hr] at hv'; cases hv')⟩
    · show zok (zev zP 220 17 [none, none, none, none, none] [zX 1000] (sh, tb t1)) _
      rw [b220_17]
      exact qI_rt (x := 2) (by decide) (by decide) ⟨FrL.ofB hX.toM, hX.tp, hv, by rw [hr]; rfl, fun _ _ => by decide, fun v hv' => (by rw [hr] at hv'; cases hv')⟩
theorem x221 {sh : zSh} {T MB : Nat} (F : zCl sh T MB) {r0 : Nat} (q0 : zLL sh T MB r0) {x1 : Int} (u1 : -2147483648 ≤ x1 ∧ x1 ≤ 2147483647) {rO : Nat} (qO : sk sh rO = (4, 1)) {t : zSt} (hR : RS sh t) {R : Option wV ⊕ Nat} {V' : wSt} (hW : wcl zP 108 [wR r0, wI x1] (sh, tgs t) = some (R, (sh, V'))) : zok (zcl zP 221 [zR r0, zI (oI x1), zR rO] (sh, t)) (qI (fun x t' => FrL sh MB t t' ∧ tg t' T 1 = 0 ∧ tgs t' = V' ∧ x = cE [0, 0, 1, 2] R ∧ (∀ E, R = .inr E → 1 ≤ x) ∧ (∀ v, R = .inl v → ∃ y, v = some (wI y) ∧ tl t' rO 0 = Int32.toInt64 (oI y))) sh) := by
  have hW' : wcl zP 108 (([zR r0, zI (oI x1)] : List zV).map ab) (abH (sh, t)) = some (R, (sh, V')) := by
    show wcl zP 108 [wR r0, wI (oI x1).toInt] (sh, tgs t) = _
    rw [oI_i u1]; exact hW
  rw [b221_0]
  refine zok_ck q0.1 (zok_wW (s108 F q0 u1 hR) (zag_cl zP 108 _ _) hW' (fun x t1 ux p hr hv => ?_) (fun E t1 hE hX hr hv => ?_))
  · rw [zput_s, b221_7]
    exact zok_ck ⟨by rw [qO], by rw [qO]; exact zin_o (by decide) (by decide) (by decide)⟩ (qI_rt (x := 0) (by decide) (by decide) ⟨FrL.ofM p.1 _ _ _, p.2, hv, by rw [hr]; rfl, fun E hE => (by rw [hr] at hE; cases hE), fun v hv' => by rw [hr] at hv'; cases hv'; exact ⟨_, rfl, tl_J _ _ _ _⟩⟩)
  · simp only [List.mem_cons, List.not_mem_nil, or_false] at hE
    rcases hE with rfl | rfl
    · show zok (zev zP 221 12 [none, none, none, none] [zX 1000] (sh, tb t1)) _
      rw [b221_12]
      exact qI_rt (x := 1) (by decide) (by decide) ⟨FrL.ofB hX.1, hX.2, hv, by rw [hr]; rfl, fun _ _ => by decide, fun v hv' => (by rw [hr] at hv'; cases hv')⟩
    · show zok (zev zP 221 15 [none, none, none, none] [zX 1000] (sh, tb t1)) _
      rw [b221_15]
      exact qI_rt (x := 2) (by decide) (by decide) ⟨FrL.ofB hX.1, hX.2, hv, by rw [hr]; rfl, fun _ _ => by decide, fun v hv' => (by rw [hr] at hv'; cases hv')⟩
theorem x222 {sh : zSh} {T MB : Nat} (F : zCl sh T MB) {r0 : Nat} (q0 : zLL sh T MB r0) {x1 : Int} (u1 : -2147483648 ≤ x1 ∧ x1 ≤ 2147483647) {rO : Nat} (qO : sk sh rO = (4, 1)) {t : zSt} (hR : RS sh t) {R : Option wV ⊕ Nat} {V' : wSt} (hW : wcl zP 109 [wR r0, wI x1] (sh, tgs t) = some (R, (sh, V'))) : zok (zcl zP 222 [zR r0, zI (oI x1), zR rO] (sh, t)) (qI (fun x t' => FrL sh MB t t' ∧ tg t' T 1 = tg t T 1 ∧ tgs t' = V' ∧ x = cE [0, 0, 1, 0] R ∧ (∀ E, R = .inr E → 1 ≤ x) ∧ (∀ v, R = .inl v → ∃ y, v = some (wI y) ∧ tl t' rO 0 = Int32.toInt64 (oI y))) sh) := by
  have hW' : wcl zP 109 (([zR r0, zI (oI x1)] : List zV).map ab) (abH (sh, t)) = some (R, (sh, V')) := by
    show wcl zP 109 [wR r0, wI (oI x1).toInt] (sh, tgs t) = _
    rw [oI_i u1]; exact hW
  rw [b222_0]
  refine zok_ck q0.1 (zok_wW (s109 F q0 u1 hR) (zag_cl zP 109 _ _) hW' (fun x t1 ux p hr hv => ?_) (fun E t1 hE hX hr hv => ?_))
  · rw [zput_s, b222_7]
    exact zok_ck ⟨by rw [qO], by rw [qO]; exact zin_o (by decide) (by decide) (by decide)⟩ (qI_rt (x := 0) (by decide) (by decide) ⟨FrL.ofM p.1.toM _ _ _, p.1.tp, hv, by rw [hr]; rfl, fun E hE => (by rw [hr] at hE; cases hE), fun v hv' => by rw [hr] at hv'; cases hv'; exact ⟨_, rfl, tl_J _ _ _ _⟩⟩)
  · simp only [List.mem_cons, List.not_mem_nil, or_false] at hE
    rcases hE with rfl
    · show zok (zev zP 222 12 [none, none, none, none] [zX 1000] (sh, tb t1)) _
      rw [b222_12]
      exact qI_rt (x := 1) (by decide) (by decide) ⟨FrL.ofB hX.toM, hX.tp, hv, by rw [hr]; rfl, fun _ _ => by decide, fun v hv' => (by rw [hr] at hv'; cases hv')⟩
theorem x223 {sh : zSh} {T MB : Nat} (F : zCl sh T MB) {r0 : Nat} (q0 : zLL sh T MB r0) {x1 : Int} (u1 : -2147483648 ≤ x1 ∧ x1 ≤ 2147483647) {rO : Nat} (qO : sk sh rO = (4, 1)) {t : zSt} (hR : RS sh t) {R : Option wV ⊕ Nat} {V' : wSt} (hW : wcl zP 110 [wR r0, wI x1] (sh, tgs t) = some (R, (sh, V'))) : zok (zcl zP 223 [zR r0, zI (oI x1), zR rO] (sh, t)) (qI (fun x t' => FrL sh MB t t' ∧ tg t' T 1 = tg t T 1 ∧ tgs t' = V' ∧ x = cE [0, 0, 1, 0] R ∧ (∀ E, R = .inr E → 1 ≤ x) ∧ (∀ v, R = .inl v → ∃ y, v = some (wI y) ∧ tl t' rO 0 = Int32.toInt64 (oI y))) sh) := by
  have hW' : wcl zP 110 (([zR r0, zI (oI x1)] : List zV).map ab) (abH (sh, t)) = some (R, (sh, V')) := by
    show wcl zP 110 [wR r0, wI (oI x1).toInt] (sh, tgs t) = _
    rw [oI_i u1]; exact hW
  rw [b223_0]
  refine zok_ck q0.1 (zok_wW (s110 F q0 u1 hR) (zag_cl zP 110 _ _) hW' (fun x t1 ux p hr hv => ?_) (fun E t1 hE hX hr hv => ?_))
  · rw [zput_s, b223_7]
    exact zok_ck ⟨by rw [qO], by rw [qO]; exact zin_o (by decide) (by decide) (by decide)⟩ (qI_rt (x := 0) (by decide) (by decide) ⟨FrL.ofM p.1.toM _ _ _, p.1.tp, hv, by rw [hr]; rfl, fun E hE => (by rw [hr] at hE; cases hE), fun v hv' => by rw [hr] at hv'; cases hv'; exact ⟨_, rfl, tl_J _ _ _ _⟩⟩)
  · simp only [List.mem_cons, List.not_mem_nil, or_false] at hE
    rcases hE with rfl
    · show zok (zev zP 223 12 [none, none, none, none] [zX 1000] (sh, tb t1)) _
      rw [b223_12]
      exact qI_rt (x := 1) (by decide) (by decide) ⟨FrL.ofB hX.toM, hX.tp, hv, by rw [hr]; rfl, fun _ _ => by decide, fun v hv' => (by rw [hr] at hv'; cases hv')⟩
theorem x224 {sh : zSh} {T MB : Nat} (F : zCl sh T MB) {r0 : Nat} (q0 : zLL sh T MB r0) {x1 : Int} (u1 : -2147483648 ≤ x1 ∧ x1 ≤ 2147483647) {x2 : Int} (u2 : -2147483648 ≤ x2 ∧ x2 ≤ 2147483647) {x3 : Int} (u3 : -2147483648 ≤ x3 ∧ x3 ≤ 2147483647) {rO : Nat} (qO : sk sh rO = (4, 1)) {t : zSt} (hR : RS sh t) {R : Option wV ⊕ Nat} {V' : wSt} (hW : wcl zP 111 [wR r0, wI x1, wI x2, wI x3] (sh, tgs t) = some (R, (sh, V'))) : zok (zcl zP 224 [zR r0, zI (oI x1), zI (oI x2), zI (oI x3), zR rO] (sh, t)) (qI (fun x t' => FrL sh MB t t' ∧ tg t' T 1 = tg t T 1 ∧ tgs t' = V' ∧ x = cE [2, 0, 1, 0] R ∧ (∀ E, R = .inr E → 1 ≤ x) ∧ (∀ v, R = .inl v → ∃ y, v = some (wI y) ∧ tl t' rO 0 = Int32.toInt64 (oI y))) sh) := by
  have hW' : wcl zP 111 (([zR r0, zI (oI x1), zI (oI x2), zI (oI x3)] : List zV).map ab) (abH (sh, t)) = some (R, (sh, V')) := by
    show wcl zP 111 [wR r0, wI (oI x1).toInt, wI (oI x2).toInt, wI (oI x3).toInt] (sh, tgs t) = _
    rw [oI_i u1, oI_i u2, oI_i u3]; exact hW
  rw [b224_0]
  refine zok_ck q0.1 (zok_wW (s111 F q0 u1 u2 u3 hR) (zag_cl zP 111 _ _) hW' (fun x t1 ux p hr hv => ?_) (fun E t1 hE hX hr hv => ?_))
  · rw [zput_s, b224_10]
    exact zok_ck ⟨by rw [qO], by rw [qO]; exact zin_o (by decide) (by decide) (by decide)⟩ (qI_rt (x := 0) (by decide) (by decide) ⟨FrL.ofM p.1.toM _ _ _, p.1.tp, hv, by rw [hr]; rfl, fun E hE => (by rw [hr] at hE; cases hE), fun v hv' => by rw [hr] at hv'; cases hv'; exact ⟨_, rfl, tl_J _ _ _ _⟩⟩)
  · simp only [List.mem_cons, List.not_mem_nil, or_false] at hE
    rcases hE with rfl | rfl
    · show zok (zev zP 224 15 [none, none, none, none, none, none] [zX 1000] (sh, tb t1)) _
      rw [b224_15]
      exact qI_rt (x := 1) (by decide) (by decide) ⟨FrL.ofB hX.toM, hX.tp, hv, by rw [hr]; rfl, fun _ _ => by decide, fun v hv' => (by rw [hr] at hv'; cases hv')⟩
    · show zok (zev zP 224 19 [none, none, none, none, none, none] [zX 1000] (sh, tb t1)) _
      rw [b224_19]
      exact qI_rt (x := 2) (by decide) (by decide) ⟨FrL.ofB hX.toM, hX.tp, hv, by rw [hr]; rfl, fun _ _ => by decide, fun v hv' => (by rw [hr] at hv'; cases hv')⟩
theorem x208 {sh : zSh} {T MB : Nat} (F : zCl sh T MB) {r0 : Nat} (q0 : zLL sh T MB r0) {l1 : Int64} {x3 : Int} (u3 : -2147483648 ≤ x3 ∧ x3 ≤ 2147483647) {rO : Nat} (qO : sk sh rO = (4, 1)) {t : zSt} (hR : RS sh t) (hc : 400 ≤ ((sk sh (sr sh T 0)).2 : Int)) (h4 : tg t T 1 ≤ 400) {R : Option wV ⊕ Nat} {V' : wSt} (hW : wcl zP 94 [wR r0, wL l1, wI x3] (sh, tgs t) = some (R, (sh, V'))) : zok (zcl zP 208 [zR r0, zL l1, zI (oI x3), zR rO] (sh, t)) (qI (fun x t' => FrL sh MB t t' ∧ ((¬ (1 ≤ x3 ∧ x3 ≤ 8) ∧ tg t' T 1 = tg t T 1) ∨ (1 ≤ x3 ∧ x3 ≤ 8 ∧ 400 < tg t T 1 + x3 ∧ tg t' T 1 = tg t T 1) ∨ (1 ≤ x3 ∧ x3 ≤ 8 ∧ tg t T 1 + x3 ≤ 400 ∧ tg t' T 1 = tg t T 1 + x3)) ∧ tgs t' = V') sh) := by
  have hW' : wcl zP 94 (([zR r0, zL l1, zI (oI x3)] : List zV).map ab) (abH (sh, t)) = some (R, (sh, V')) := by
    show wcl zP 94 [wR r0, wL l1, wI (oI x3).toInt] (sh, tgs t) = _
    rw [oI_i u3]; exact hW
  rw [b208_0]
  refine zok_ck q0.1 (zok_cx (zok_ag (s94 F q0 u3 hR hc h4) (zag_cl zP 94 _ _) hW') (fun v h' hv => ?_) (fun E h' hE => ?_))
  · obtain ⟨hv, hr, hV⟩ := hv
    rcases hv with ⟨_, hv, _⟩ | ⟨_, hv, _⟩ | ⟨hx, t1, hv, rfl, hF, ht⟩
    · cases hv
    · cases hv
    · cases hv
      rw [zput_s, b208_9]
      refine zok_ck ⟨by rw [qO], by rw [qO]; exact zin_o (by decide) (by decide) (by decide)⟩ (qI_rt (x := 0) (by decide) (by decide) ⟨FrL.ofM hF _ _ _, Or.inr (Or.inr ⟨hx.1, hx.2.1, hx.2.2, ht⟩), hV⟩)
  · obtain ⟨hE, hr, hV⟩ := hE
    rcases hE with ⟨hx, hv, rfl⟩ | ⟨hx, hv, rfl⟩ | ⟨_, t1, hv, _⟩
    · cases hv
      show zok (zev zP 208 14 [none, none, none, none, none, none] [zX 1000] (sh, tb t)) _
      rw [b208_14]
      exact qI_rt (x := 1) (by decide) (by decide) ⟨FrL.ofB (Fr7M.refl hR), Or.inl ⟨by omega, rfl⟩, hV⟩
    · cases hv
      show zok (zev zP 208 18 [none, none, none, none, none, none] [zX 1000] (sh, tb t)) _
      rw [b208_18]
      exact qI_rt (x := 2) (by decide) (by decide) ⟨FrL.ofB (Fr7M.refl hR), Or.inr (Or.inl ⟨hx.1, hx.2.1, hx.2.2, rfl⟩), hV⟩
    · cases hv
