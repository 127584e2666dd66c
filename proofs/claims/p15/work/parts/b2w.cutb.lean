set_option maxRecDepth 16384
/-! the parts of a text, put together, are the text -/
theorem oc_hit {f : Int → Int} {e : Int} : ∀ (n : Nat) (k s c : Int), (e - k).toNat = n → oc f k e s c = c ∨ f (oc f k e s c) = 58 := by
  intro n
  induction n with
  | zero => intro k s c hn; exact Or.inl ((oc_st f k e s c).1 (by omega))
  | succ n ih =>
    intro k s c hn
    have st := (oc_st f k e s c).2 (by omega)
    by_cases c1 : f k = 91
    · rw [st.1 c1]; exact ih _ _ _ (by omega)
    by_cases c2 : f k = 93
    · rw [st.2.1 c2]; exact ih _ _ _ (by omega)
    by_cases c3 : f k = 58 ∧ s = 0
    · rw [st.2.2.1 c3.1 c3.2]
      rcases ih (k + 1) s k (by omega) with w | w
      · rw [w]; exact Or.inr c3.1
      · exact Or.inr w
    · rw [st.2.2.2 c1 c2 (by
        by_cases q : f k = 58
        · exact Or.inr (fun w => c3 ⟨q, w⟩)
        · exact Or.inl q)]
      exact ih _ _ _ (by omega)
theorem fli_hit {f : Int → Int} {b a : Int} : ∀ (n : Nat) (e : Int), (e + 1 - a).toNat = n → fli f b a e = -1 ∨ (f (fli f b a e) = b ∧ a ≤ fli f b a e ∧ fli f b a e ≤ e) := by
  intro n
  induction n with
  | zero => intro e hn; exact Or.inl ((fli_st f b a e).1 (by omega))
  | succ n ih =>
    intro e hn
    have st := (fli_st f b a e).2 (by omega)
    by_cases c : f e = b
    · rw [st.1 c]; exact Or.inr ⟨c, by omega, by omega⟩
    · rw [st.2 c]
      rcases ih (e + -1) (by omega) with w | w
      · exact Or.inl w
      · exact Or.inr ⟨w.1, w.2.1, by omega⟩
/-- where everything of a text stands -/
theorem lay (L : List Int) : ∃ S H Q P : Int, (0 ≤ P ∧ P ≤ Q ∧ Q ≤ H ∧ H ≤ L.length) ∧
    ((zB (gl L) L.length 0 = 0 ∧ zE (gl L) L.length 0 = P - 1 ∧ 1 ≤ P ∧ gl L (P - 1) = 58) ∨ (zB (gl L) L.length 0 = -1 ∧ P = 0)) ∧
    ((∃ b e : Int, (P + 2 ≤ b ∧ b ≤ e ∧ e ≤ S ∧ S ≤ Q) ∧ gl L P = 47 ∧ gl L (P + 1) = 47 ∧ zB (gl L) L.length 2 = b ∧ zE (gl L) L.length 2 = e ∧ ((zB (gl L) L.length 1 = P + 2 ∧ zE (gl L) L.length 1 = b - 1 ∧ P + 3 ≤ b ∧ gl L (b - 1) = 64) ∨ (zB (gl L) L.length 1 = -1 ∧ b = P + 2)) ∧ ((zB (gl L) L.length 3 = e + 1 ∧ zE (gl L) L.length 3 = S ∧ e + 1 ≤ S ∧ gl L e = 58) ∨ (zB (gl L) L.length 3 = -1 ∧ e = S)) ∧ (S < Q → gl L S = 47)) ∨
      (zB (gl L) L.length 1 = -1 ∧ zB (gl L) L.length 2 = -1 ∧ zB (gl L) L.length 3 = -1 ∧ S = P ∧ ¬ (P + 2 ≤ Q ∧ gl L P = 47 ∧ gl L (P + 1) = 47))) ∧
    (zB (gl L) L.length 4 = S ∧ zE (gl L) L.length 4 = Q) ∧
    ((zB (gl L) L.length 5 = Q + 1 ∧ zE (gl L) L.length 5 = H ∧ Q < H ∧ gl L Q = 63) ∨ (zB (gl L) L.length 5 = -1 ∧ Q = H)) ∧
    ((zB (gl L) L.length 6 = H + 1 ∧ zE (gl L) L.length 6 = L.length ∧ H < L.length ∧ gl L H = 35) ∨ (zB (gl L) L.length 6 = -1 ∧ H = L.length)) ∧
    (zB (gl L) L.length 0 = -1 → zB (gl L) L.length 2 = -1 → cfn (gl L) 58 0 (cfn (gl L) 47 0 Q) = cfn (gl L) 47 0 Q) := by
  obtain ⟨f, hf⟩ : ∃ f, f = gl L := ⟨_, rfl⟩
  obtain ⟨n, hn⟩ : ∃ n : Int, n = L.length := ⟨_, rfl⟩
  have n0 : 0 ≤ n := by omega
  rw [← hf, ← hn]
  have rH : 0 ≤ kH f n ∧ kH f n ≤ n := (cfn_r f 35 0 n).1 n0
  have rQ : 0 ≤ kQ f n ∧ kQ f n ≤ kH f n := (cfn_r f 63 0 (kH f n)).1 rH.1
  have rS : 0 ≤ kS f n ∧ kS f n ≤ kQ f n := (cfn_r f 47 0 (kQ f n)).1 rQ.1
  have rC : 0 ≤ kC f n ∧ kC f n ≤ kS f n := (cfn_r f 58 0 (kS f n)).1 rS.1
  have hH : kH f n < n → f (kH f n) = 35 := fun h => cfn_hit2 n0 h
  have hQ : kQ f n < kH f n → f (kQ f n) = 63 := fun h => cfn_hit2 rH.1 h
  have hC : kC f n < kS f n → f (kC f n) = 58 := fun h => cfn_hit2 rS.1 h
  have b0 := zBE0 f n
  have b5 := zBE5 f n
  have b6 := zBE6 f n
  have za := zBEa f n
  have kp := kP_st f n
  have rP : 0 ≤ kP f n ∧ kP f n ≤ kQ f n := by
    by_cases c : kC f n < kS f n
    · rw [kp.1 c]; omega
    · rw [kp.2 (by omega)]; omega
  have s0 : (zB f n 0 = 0 ∧ zE f n 0 = kP f n - 1 ∧ 1 ≤ kP f n ∧ f (kP f n - 1) = 58) ∨ (zB f n 0 = -1 ∧ kP f n = 0) := by
    by_cases c : kC f n < kS f n
    · have e : kP f n - 1 = kC f n := by rw [kp.1 c]; omega
      rw [e, (b0.1 c).1, (b0.1 c).2]
      exact Or.inl ⟨rfl, rfl, by rw [kp.1 c]; omega, hC c⟩
    · exact Or.inr ⟨(b0.2 (by omega)).1, kp.2 (by omega)⟩
  have s5 : (zB f n 5 = kQ f n + 1 ∧ zE f n 5 = kH f n ∧ kQ f n < kH f n ∧ f (kQ f n) = 63) ∨ (zB f n 5 = -1 ∧ kQ f n = kH f n) := by
    by_cases c : kQ f n < kH f n
    · exact Or.inl ⟨(b5.1 c).1, (b5.1 c).2, c, hQ c⟩
    · exact Or.inr ⟨(b5.2 (by omega)).1, by omega⟩
  have s6 : (zB f n 6 = kH f n + 1 ∧ zE f n 6 = n ∧ kH f n < n ∧ f (kH f n) = 35) ∨ (zB f n 6 = -1 ∧ kH f n = n) := by
    by_cases c : kH f n < n
    · exact Or.inl ⟨(b6.1 c).1, (b6.1 c).2, c, hH c⟩
    · exact Or.inr ⟨(b6.2 (by omega)).1, by omega⟩
  have s3 : zB f n 0 = -1 → zB f n 2 = -1 → cfn f 58 0 (cfn f 47 0 (kQ f n)) = cfn f 47 0 (kQ f n) := fun h _ => by
    have c : ¬ kC f n < kS f n := fun c => by have := (b0.1 c).1; omega
    have : kC f n = kS f n := by omega
    exact this
  have o1 : kO f n = 0 ∨ kO f n = 1 := by unfold kO; split <;> omega
  rcases o1 with o | o
  · obtain ⟨y1, -, y3, -, y5, -, y7⟩ := za.2.2 o
    refine ⟨kP f n, kH f n, kQ f n, kP f n, ⟨rP.1, rP.2, rQ.2, rH.2⟩, s0, Or.inr ⟨y1, y3, y5, rfl, fun w => ?_⟩, ⟨y7, za.1⟩, s5, s6, s3⟩
    have := (kO_st f n).1 w.1 w.2.1 w.2.2
    omega
  · obtain ⟨y1, y2, y3, y4, y5, y6, y7⟩ := za.2.1 o
    have hO : kP f n + 2 ≤ kQ f n ∧ f (kP f n) = 47 ∧ f (kP f n + 1) = 47 := by
      unfold kO at o; by_cases c : kP f n + 2 ≤ kQ f n ∧ f (kP f n) = 47 ∧ f (kP f n + 1) = 47
      · exact c
      · rw [if_neg c] at o; cases o
    have rA : kP f n + 2 ≤ kA f n ∧ kA f n ≤ kQ f n := (cfn_r f 47 (kP f n + 2) (kQ f n)).1 hO.1
    have hA : kA f n < kQ f n → f (kA f n) = 47 := fun h => cfn_hit2 hO.1 h
    obtain ⟨a, ha⟩ : ∃ a, a = kP f n + 2 := ⟨_, rfl⟩
    obtain ⟨e, he⟩ : ∃ e, e = kA f n := ⟨_, rfl⟩
    rw [← ha, ← he] at y1 y2 y3 y4 y5 y6 rA
    rw [← he] at y7 hA
    have fr := fli_hit (f := f) (b := 64) (a := a) _ (e - 1) rfl
    have user : (zB f n 1 = a ∧ zE f n 1 = pB f a e - 1 ∧ a + 1 ≤ pB f a e ∧ f (pB f a e - 1) = 64 ∧ pB f a e ≤ e) ∨ (zB f n 1 = -1 ∧ pB f a e = a) := by
      by_cases c : fli f 64 a (e - 1) = -1
      · have := (aS1_st f a e).1 c; exact Or.inr ⟨by rw [y1, this.1], this.2⟩
      · have := (aS1_st f a e).2 c
        have g := fr.resolve_left c
        refine Or.inl ⟨by rw [y1, this.1], by rw [y2, this.2]; omega, by omega, ?_, by omega⟩
        rw [this.2, show fli f 64 a (e - 1) + 1 - 1 = fli f 64 a (e - 1) by omega]; exact g.1
    have pbr : a ≤ pB f a e ∧ pB f a e ≤ e := by omega
    have kr := oc_r f (pB f a e) _ (pB f a e) e 0 (-1) rfl (by omega) (Or.inl rfl)
    have kr : pK f a e = -1 ∨ (pB f a e ≤ pK f a e ∧ pK f a e < e) := kr
    have kh := oc_hit (f := f) (e := e) _ (pB f a e) 0 (-1) rfl
    have kh : pK f a e = -1 ∨ f (pK f a e) = 58 := kh
    refine ⟨e, kH f n, kQ f n, kP f n, ⟨rP.1, rP.2, rQ.2, rH.2⟩, s0, Or.inl ⟨pB f a e, aE2 f a e, ?_, hO.2.1, hO.2.2, y3, y4, ?_, ?_, hA⟩, ⟨y7, za.1⟩, s5, s6, s3⟩
    · by_cases c : pK f a e = -1
      · have := ((aK_st f a e).1 c).1; rw [this]; omega
      · have := ((aK_st f a e).2 c).1; rw [this]; omega
    · rcases user with ⟨u1, u2, u3, u4, -⟩ | ⟨u1, u2⟩
      · exact Or.inl ⟨by rw [u1, ha], u2, by omega, u4⟩
      · exact Or.inr ⟨u1, by rw [u2, ha]⟩
    · by_cases c : pK f a e = -1
      · have k := (aK_st f a e).1 c
        exact Or.inr ⟨by rw [y5, k.2.1], k.1⟩
      · have k := (aK_st f a e).2 c
        refine Or.inl ⟨by rw [y5, k.2.1, k.1], by rw [y6, k.2.2], by rw [k.1]; omega, by rw [k.1]; exact kh.resolve_left c⟩
theorem sub_add (L : List Int) {a b c : Int} (h0 : 0 ≤ a) (h1 : a ≤ b) (h2 : b ≤ c) : sub L a b ++ sub L b c = sub L a c := by
  unfold sub
  rw [show (c - a).toNat = (b - a).toNat + (c - b).toNat by omega, List.take_add, List.drop_drop, show a.toNat + (b - a).toNat = b.toNat by omega]
theorem sub_one (L : List Int) {k : Int} (h0 : 0 ≤ k) (h1 : k < L.length) : sub L k (k + 1) = [gl L k] := by
  unfold sub
  rw [drop_gl (L := L) h0 h1, show (k + 1 - k).toNat = 1 by omega]; rfl
theorem sub_0 (L : List Int) (k : Int) : sub L k k = [] := by unfold sub; rw [Int.sub_self]; rfl
theorem cutQ_1 {L : List Int} {k : Nat} (h : zB (gl L) L.length k ≠ -1) : cutQ L k = (sub L (zB (gl L) L.length k) (zE (gl L) L.length k), 1) := by unfold cutQ; rw [if_neg h, if_neg h]
theorem cutQ_0 {L : List Int} {k : Nat} (h : zB (gl L) L.length k = -1) : cutQ L k = ([], 0) := by unfold cutQ; rw [if_pos h, if_pos h]
theorem cmp_cut (L : List Int) : cmp (cutQ L) = L := by
  obtain ⟨S, H, Q, P, ⟨r1, r2, r3, r4⟩, l0, la, ⟨l4, l4e⟩, l5, l6, -⟩ := lay L
  have e4 : cutQ L 4 = (sub L S Q, 1) := by
    rw [cutQ_1 (k := 4) (by rcases la with ⟨b, e, h, -⟩ | ⟨-, -, -, h, -⟩ <;> omega), l4, l4e]
  rw [cmp_5 _ (by rw [e4])]
  have i0 : wm (cutQ L 0) (-1) 58 = sub L 0 P := by
    rcases l0 with ⟨z, ze, h1, h2⟩ | ⟨z, h⟩
    · rw [cutQ_1 (by omega), z, ze]
      unfold wm
      rw [if_neg (by show ¬ (1 : Int) = 0; decide), if_pos rfl, if_neg (by decide), List.nil_append, ← h2, ← sub_one L (by omega) (by omega), sub_add L (by decide) (by omega) (by omega), show P - 1 + 1 = P by omega]
    · rw [cutQ_0 z, h, sub_0]; rfl
  have ia : aut (cutQ L) = sub L P S := by
    unfold aut
    rcases la with ⟨b, e, ⟨g1, g2, g3, g4⟩, h1, h2, z2, z2e, u, p, -⟩ | ⟨z1, z2, z3, h, -⟩
    · have q2 : cutQ L 2 = (sub L b e, 1) := by rw [cutQ_1 (k := 2) (by omega), z2, z2e]
      have i1 : wm (cutQ L 1) (-1) 64 = sub L (P + 2) b := by
        rcases u with ⟨z, ze, k1, k2⟩ | ⟨z, k⟩
        · rw [cutQ_1 (by omega), z, ze]
          unfold wm
          rw [if_neg (by show ¬ (1 : Int) = 0; decide), if_pos rfl, if_neg (by decide), List.nil_append, ← k2, ← sub_one L (by omega) (by omega), sub_add L (by omega) (by omega) (by omega), show b - 1 + 1 = b by omega]
        · rw [cutQ_0 z, k, sub_0]; rfl
      have i3 : wm (cutQ L 3) 58 (-1) = sub L e S := by
        rcases p with ⟨z, ze, k1, k2⟩ | ⟨z, k⟩
        · rw [cutQ_1 (by omega), z, ze]
          unfold wm
          rw [if_neg (by show ¬ (1 : Int) = 0; decide), if_neg (by decide), if_pos rfl, List.append_nil, ← k2, ← sub_one L (by omega) (by omega), sub_add L (by omega) (by omega) (by omega)]
        · rw [cutQ_0 z, k, sub_0]; rfl
      have i2 : wm (cutQ L 2) (-1) (-1) = sub L b e := by
        rw [q2]; unfold wm
        rw [if_neg (by show ¬ (1 : Int) = 0; decide), if_pos rfl, List.nil_append, List.append_nil]
      have ss : ([47, 47] : List Int) = sub L P (P + 2) := by
        rw [show P + 2 = P + 1 + 1 by omega, ← sub_add L (b := P + 1) (by omega) (by omega) (by omega), sub_one L (by omega) (by omega), sub_one L (by omega) (by omega), h1, h2]; rfl
      rw [q2, if_neg (by show ¬ (1 : Int) = 0; decide), ← q2, i1, i2, i3, ss, sub_add L (by omega) (by omega) (by omega), sub_add L (by omega) (by omega) (by omega), sub_add L (by omega) (by omega) (by omega)]
    · rw [cutQ_0 z1, cutQ_0 z2, cutQ_0 z3, h, sub_0]; rfl
  have i5 : wm (cutQ L 5) 63 (-1) = sub L Q H := by
    rcases l5 with ⟨z, ze, k1, k2⟩ | ⟨z, k⟩
    · rw [cutQ_1 (by omega), z, ze]
      unfold wm
      rw [if_neg (by show ¬ (1 : Int) = 0; decide), if_neg (by decide), if_pos rfl, List.append_nil, ← k2, ← sub_one L (by omega) (by omega), sub_add L (by omega) (by omega) (by omega)]
    · rw [cutQ_0 z, k, sub_0]; rfl
  have i6 : wm (cutQ L 6) 35 (-1) = sub L H L.length := by
    rcases l6 with ⟨z, ze, k1, k2⟩ | ⟨z, k⟩
    · rw [cutQ_1 (by omega), z, ze]
      unfold wm
      rw [if_neg (by show ¬ (1 : Int) = 0; decide), if_neg (by decide), if_pos rfl, List.append_nil, ← k2, ← sub_one L (by omega) (by omega), sub_add L (by omega) (by omega) (by omega)]
    · rw [cutQ_0 z, k, sub_0]; rfl
  have rS : P ≤ S ∧ S ≤ Q := by rcases la with ⟨b, e, h, -⟩ | ⟨-, -, -, h, -⟩ <;> omega
  rw [i0, ia, e4, i5, i6]
  show sub L 0 P ++ (sub L P S ++ (sub L S Q ++ (sub L Q H ++ sub L H L.length))) = L
  rw [sub_add L (by omega) r3 r4, sub_add L (by omega) rS.2 (by omega), sub_add L (by omega) rS.1 (by omega), sub_add L (by decide) (by omega) (by omega), sub_all]
theorem Fl_cut (L : List Int) : Fl (cutQ L) := by
  obtain ⟨S, H, Q, P, r, -, la, -, -, -, -⟩ := lay L
  refine ⟨fun k hk => (cutQ_l L k hk).2.1, fun k hk h => cutQ_no hk h, cutQ4 L, fun h => ?_, fun h => ?_⟩
  · have z := (cutQ_l L 2 (by decide)).2.2.mp h
    rcases la with ⟨b, e, h1, -, -, z2, -⟩ | ⟨z1, -, -, -⟩
    · omega
    · rw [cutQ_0 z1]
  · have z := (cutQ_l L 2 (by decide)).2.2.mp h
    rcases la with ⟨b, e, h1, -, -, z2, -⟩ | ⟨-, -, z3, -⟩
    · omega
    · rw [cutQ_0 z3]
theorem Sr_cut (L : List Int) : Sr (cutQ L) := by
  obtain ⟨S, H, Q, P, ⟨r1, r2, r3, r4⟩, l0, la, ⟨l4, l4e⟩, -, -, s3⟩ := lay L
  have rS : P ≤ S ∧ S ≤ Q := by rcases la with ⟨b, e, h, -⟩ | ⟨-, -, -, h, -⟩ <;> omega
  have n4 : zB (gl L) L.length 4 ≠ -1 := by omega
  have g4 : ∀ j : Int, 0 ≤ j → gl (cutQ L 4).1 j = if j < Q - S then gl L (S + j) else -1 := fun j hj => by rw [cutQ_g L 4 (by decide) j hj, l4, l4e]
  have len4 : ((cutQ L 4).1.length : Int) = Q - S := by rw [(cutQ_l L 4 (by decide)).1, l4, l4e]
  refine ⟨fun h => ?_, fun h w => ?_, fun h0 h2 => ?_⟩
  · rcases la with ⟨b, e, h1, -, -, -, -, -, -, hS⟩ | ⟨-, z2, -, -⟩
    · by_cases c : S < Q
      · exact Or.inr (by rw [g4 0 (by decide), if_pos (by omega), Int.add_zero]; exact hS c)
      · exact Or.inl (List.length_eq_zero_iff.mp (by omega))
    · rw [cutQ_0 z2] at h; cases h
  · rcases la with ⟨b, e, h1, -, -, z2, -⟩ | ⟨-, -, -, hP, hn⟩
    · have z := (cutQ_l L 2 (by decide)).2.2.mp h
      omega
    · have a := w.1
      have b := w.2
      rw [g4 0 (by decide)] at a
      rw [g4 1 (by decide)] at b
      by_cases c : (1 : Int) < Q - S
      · rw [if_pos (by omega)] at a
        rw [if_pos c] at b
        refine hn ⟨by omega, ?_, ?_⟩
        · rw [← hP, ← Int.add_zero S]; exact a
        · rw [← hP]; exact b
      · rw [if_neg c] at b; cases b
  · have z0 := (cutQ_l L 0 (by decide)).2.2.mp h0
    have z2 := (cutQ_l L 2 (by decide)).2.2.mp h2
    have S0 : S = 0 := by
      rcases la with ⟨b, e, h1, -, -, z, -⟩ | ⟨-, -, -, hP, -⟩
      · omega
      · rcases l0 with ⟨z, -⟩ | ⟨-, h⟩
        · omega
        · omega
    have s := s3 z0 z2
    have cg : ∀ (b e : Int), 0 ≤ e → e ≤ Q → cfn (gl (cutQ L 4).1) b 0 e = cfn (gl L) b 0 e := fun b e he hq => by
      have := cfn_cg (f := gl L) (g := gl (cutQ L 4).1) (b := b) _ 0 e 0 rfl (fun j h1 h2 => by rw [Int.add_zero, g4 j h1, if_pos (by omega), S0, Int.zero_add])
      rw [Int.add_zero, Int.add_zero, Int.add_zero] at this; exact this
    have cr := (cfn_r (gl L) 47 0 Q).1 (by omega)
    rw [len4, S0, Int.sub_zero, cg 47 Q (by omega) (by omega), cg 58 _ cr.1 cr.2]; exact s
/-- the length of what is put together -/
theorem pln_cmp {Q : Nat → List Int × Int} (F : Fl Q) : pln Q = ((cmp Q).length : Int) := by
  have wl : ∀ (k : Nat) (b c : Int), k < 7 → ((wm (Q k) b c).length : Int) = (Q k).1.length + (if (Q k).2 = 0 then 0 else (if b = -1 then 0 else 1) + (if c = -1 then 0 else 1)) := fun k b c hk => by
    unfold wm
    rcases F.1 k hk with e | e
    · rw [if_pos e, if_pos e, F.2.1 k hk e]; rfl
    · rw [if_neg (show ¬ (Q k).2 = 0 by omega), if_neg (show ¬ (Q k).2 = 0 by omega)]
      simp only [List.length_append]
      by_cases hb : b = -1
      · rw [if_pos hb, if_pos hb]
        by_cases hc : c = -1
        · rw [if_pos hc, if_pos hc]; simp only [List.length_nil]; omega
        · rw [if_neg hc, if_neg hc]; simp only [List.length_cons, List.length_nil]; omega
      · rw [if_neg hb, if_neg hb]
        by_cases hc : c = -1
        · rw [if_pos hc, if_pos hc]; simp only [List.length_cons, List.length_nil]; omega
        · rw [if_neg hc, if_neg hc]; simp only [List.length_cons, List.length_nil]; omega
  have w1m : ∀ (k : Nat) (b c : Int), k < 7 → ((b = -1 ∧ c ≠ -1) ∨ (b ≠ -1 ∧ c = -1)) → ((wm (Q k) b c).length : Int) = (Q k).1.length + (if (Q k).2 = 0 then 0 else 1) := fun k b c hk h => by
    rw [wl k b c hk]
    rcases h with ⟨h1, h2⟩ | ⟨h1, h2⟩
    · rw [if_pos h1, if_neg h2]; rfl
    · rw [if_neg h1, if_pos h2]; rfl
  have w2m : ((wm (Q 2) (-1) (-1)).length : Int) = (Q 2).1.length := by
    rw [wl 2 _ _ (by decide), if_pos rfl]
    split <;> omega
  have hh : ((if (Q 2).2 = 0 then [] else [47, 47] : List Int).length : Int) = if (Q 2).2 = 0 then 0 else 2 := by split <;> rfl
  have pe : plA (fun k => ((Q k).1.length : Int)) (fun k => (Q k).2) 7 = (((((((0 + (((Q 0).1.length : Int) + (if (Q 0).2 = 0 then 0 else 1))) + (((Q 1).1.length : Int) + (if (Q 1).2 = 0 then 0 else 1))) + (((Q 2).1.length : Int) + 0)) + (((Q 3).1.length : Int) + (if (Q 3).2 = 0 then 0 else 1))) + (((Q 4).1.length : Int) + 0)) + (((Q 5).1.length : Int) + (if (Q 5).2 = 0 then 0 else 1))) + (((Q 6).1.length : Int) + (if (Q 6).2 = 0 then 0 else 1))) := rfl
  rw [cmp_5 Q F.2.2.1]
  unfold aut pln plen
  rw [pe]
  simp only [List.length_append, Int.natCast_add]
  rw [w1m 0 _ _ (by decide) (by decide), w1m 1 _ _ (by decide) (by decide), w2m, w1m 3 _ _ (by decide) (by decide), w1m 5 _ _ (by decide) (by decide), w1m 6 _ _ (by decide) (by decide), hh]
  omega
theorem pln_cut (L : List Int) : pln (cutQ L) = (L.length : Int) := by rw [pln_cmp (Fl_cut L), cmp_cut]
