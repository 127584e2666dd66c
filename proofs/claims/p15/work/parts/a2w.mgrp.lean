set_option maxRecDepth 16384
/-! the model: the port that goes, groups that are laid -/
section
variable {sh : zSh} {m : Nat}
theorem pNm_nn {f : Int → Int} {e : Int} (hd : ∀ k : Int, 0 ≤ k → k < e → pDig (f k) = 1) : ∀ (n : Nat) (x v : Int), (e - x).toNat = n → 0 ≤ x → 0 ≤ v → 0 ≤ pNm f x e v := by
  intro n
  induction n with
  | zero => intro x v hn hx hv; rw [(pNm_st f x e v).1 (by omega)]; exact hv
  | succ n ih =>
    intro x v hn hx hv
    have dg := hd x hx (by omega)
    have h2 := pHex_dg dg
    have h3 : 48 ≤ f x := by unfold pDig at dg; split at dg <;> omega
    rw [((pNm_st f x e v).2 (by omega)).2 (by omega)]
    exact ih _ _ (by omega) (by omega) (by omega)
theorem M182 {V : wSt} (M : wMd sh m) {Q : Nat → List Int × Int} (K : lK sh V m Q) (h0 : (Q 0).2 = 0 → (Q 0).1 = []) (h3 : (Q 3).2 = 0 → (Q 3).1 = []) (h5 : (Q 3).1.length ≤ 5) (hd : ∀ k : Int, 0 ≤ k → k < (Q 3).1.length → pDig (gl (Q 3).1 k) = 1) : ∃ V', wcl zP 182 [wR m] (sh, V) = rN (sh, V') ∧ FrO (lyO sh m) V V' ∧ lK sh V' m (qPrt Q) := by
  obtain ⟨o, ho⟩ : ∃ o, o = own (Q 0).1 := ⟨_, rfl⟩
  obtain ⟨x', e1⟩ := M182_9 (V := V) (K 3 (by decide)) h5 hd o _ 0 0 rfl (by decide) (by decide) (by decide)
  have nn := pNm_nn (f := gl (Q 3).1) (e := (Q 3).1.length) hd _ 0 0 rfl (by decide) (by decide)
  obtain ⟨v, hv⟩ : ∃ v, v = pNm (gl (Q 3).1) 0 (Q 3).1.length 0 := ⟨_, rfl⟩
  rw [← hv] at e1 nn
  -- the port
  obtain ⟨V1, e2, f1, K1⟩ : ∃ V1, (if (Q 3).1.length = 0 ∨ v = o then wev zP 182 54 [some (wR m), some (wI o), some (wI v), some (wI x')] [] (sh, V) else wev zP 182 68 [some (wR m), some (wI o), some (wI v), some (wI x')] [] (sh, V)) = wev zP 182 68 [some (wR m), some (wI o), some (wI v), some (wI x')] [] (sh, V1) ∧ FrO (lyO sh m) V V1 ∧ lK sh V1 m (qPr1 Q) := by
    have iff : ((Q 3).1.length = 0 ∨ v = o) ↔ ((Q 3).1.length = 0 ∨ (own (Q 0).1 ≠ -1 ∧ pno (Q 3) = own (Q 0).1)) := by
      rw [← ho]
      by_cases c : (Q 3).1.length = 0
      · exact ⟨fun _ => Or.inl c, fun _ => Or.inl c⟩
      · have p3 : pno (Q 3) = v := by
          unfold pno
          rw [if_neg (fun w => w.elim (fun z => c (by rw [h3 z]; rfl)) c), ← hv]
        rw [p3]
        exact ⟨fun w => Or.inr ⟨fun z => by have := w.resolve_left c; omega, w.resolve_left c⟩, fun w => Or.inr (w.resolve_left c).2⟩
    unfold qPr1
    by_cases c : (Q 3).1.length = 0 ∨ v = o
    · rw [if_pos c, if_pos (iff.mp c)]
      obtain ⟨f, l⟩ := M_reset1 (V := V) M 3 0 (by decide)
      refine ⟨_, ?_, f.1, f.K K l⟩
      rw [w182_54]; rfl
    · rw [if_neg c, if_neg (fun w => c (iff.mpr w))]
      exact ⟨V, rfl, FrO.refl, K⟩
  have q0 : ∀ k, k ≠ 3 → qPr1 Q k = Q k := qPr1_o Q
  have t2 : V1 (sr sh m 11) 2 = (Q 2).2 := by rw [K1.th (k := 2) (by decide), q0 2 (by decide)]
  have z4 : V1 (sr sh m 10) 4 = ((Q 4).1.length : Int) := by rw [K1.sz (k := 4) (by decide), q0 4 (by decide)]
  have start : wcl zP 182 [wR m] (sh, V) = wev zP 182 68 [some (wR m), some (wI o), some (wI v), some (wI x')] [] (sh, V1) := by
    rw [w182_0, M181 (K 0 (by decide)) h0, ← ho]
    simp only [wcx_v, wput_s, w182_4]
    rw [e1, e2]
  have no : ¬ (own (qPr1 Q 0).1 ≠ -1 ∧ (qPr1 Q 2).2 ≠ 0 ∧ (qPr1 Q 4).1.length = 0) → lK sh V1 m (qPrt Q) := fun c => by unfold qPrt qPr2; rw [if_neg c]; exact K1
  rw [q0 0 (by decide), q0 2 (by decide), q0 4 (by decide), ← ho] at no
  have or : o = -1 ∨ 0 ≤ o := by
    rw [ho]; unfold own; split
    · omega
    · split
      · omega
      · split <;> omega
  rw [start, w182_68]
  show ∃ V', (if o < 0 then _ else if V1 (sr sh m 11) 2 = 0 then _ else if V1 (sr sh m 10) 4 = 0 then _ else _) = _ ∧ _
  rw [t2, z4]
  by_cases c1 : o < 0
  · rw [if_pos c1, w182_97]; exact ⟨V1, rfl, f1, no (fun w => w.1 (by omega))⟩
  rw [if_neg c1]
  by_cases c2 : (Q 2).2 = 0
  · rw [if_pos c2, w182_97]; exact ⟨V1, rfl, f1, no (fun w => w.2.1 c2)⟩
  rw [if_neg c2]
  by_cases c3 : (Q 4).1.length = 0
  · rw [if_pos (by omega)]
    obtain ⟨V2, e3, f3, l3⟩ := M152l M (k := 4) (by decide) (K1 4 (by decide)) 47 (by rw [q0 4 (by decide)]; omega)
    rw [e3]
    simp only [wcx_v, wput_n, w182_97]
    refine ⟨V2, rfl, f1.trans f3.1, ?_⟩
    have l3 := f3.K K1 l3
    unfold qPrt qPr2
    rw [q0 0 (by decide), q0 2 (by decide), q0 4 (by decide), ← ho, if_pos ⟨by omega, c2, c3⟩]
    rw [q0 4 (by decide), List.length_eq_zero_iff.mp c3, List.nil_append] at l3
    exact l3
  · rw [if_neg (by omega), w182_97]; exact ⟨V1, rfl, f1, no (fun w => c3 w.2.2)⟩
theorem M183_2 {V : wSt} (s : Int) (hs : 0 ≤ s) : ∀ (n : Nat) (c : Int), (8 - (s + c)).toNat = n → 0 ≤ c → s + c ≤ 100 → wev zP 183 2 [some (wR m), some (wI s), some (wI c)] [] (sh, V) = rI (c + zro (V (sr sh m 14)) (s + c)) (sh, V) := by
  intro n
  induction n with
  | zero =>
    intro c hn hc hb
    rw [w183_2, wr_eq (by omega) (by omega), if_pos (by omega), (zro_st _ _).1 (by omega)]; exact rI_cg (by omega)
  | succ n ih =>
    intro c hn hc hb
    have st := (zro_st (V (sr sh m 14)) (s + c)).2 (by omega)
    rw [w183_2, wr_eq (x := s + c) (by omega) (by omega), if_neg (by omega)]
    by_cases g : V (sr sh m 14) (s + c).toNat = 0
    · rw [if_pos g, wr_eq (by omega) (by omega), ih _ (by omega) (by omega) (by omega), st.1 g, show s + (c + 1) = s + c + 1 by omega]; exact rI_cg (by omega)
    · rw [if_neg g, st.2 g]; exact rI_cg (by omega)
theorem M183 {V : wSt} (s : Int) (hs : 0 ≤ s ∧ s ≤ 20) : wcl zP 183 [wR m, wI s] (sh, V) = rI (zro (V (sr sh m 14)) s) (sh, V) := by
  rw [w183_0, M183_2 s hs.1 _ 0 rfl (by decide) (by omega)]
  rw [Int.add_zero]; exact rI_cg (by omega)
/-- the model's search for the longest row -/
def mbA (W : Nat → Int) : Nat → Int → Int → Int
  | 0, _, b => b
  | n + 1, k, b => if zro W k ≤ zro W b then mbA W n (k + 1) b else mbA W n (k + 1) k
theorem mbA_r (W : Nat → Int) : ∀ (n : Nat) (k b : Int), 0 ≤ b → b < k → 0 ≤ mbA W n k b ∧ mbA W n k b < k + n := by
  intro n
  induction n with
  | zero => intro k b h0 h1; show 0 ≤ b ∧ b < _; omega
  | succ n ih =>
    intro k b h0 h1
    rw [mbA]
    split
    · have := ih (k + 1) b h0 (by omega); omega
    · have := ih (k + 1) k (by omega) (by omega); omega
theorem M184_4 {V : wSt} : ∀ (n : Nat) (k b : Int), (8 - k).toNat = n → 0 ≤ b → b < k → wev zP 184 4 [some (wR m), some (wI b), some (wI k), none, none, none, none, none] [] (sh, V) = wev zP 184 53 [some (wR m), some (wI (mbA (V (sr sh m 14)) n k b)), some (wI (k + n)), none, none, none, none, none] [wI (if zro (V (sr sh m 14)) (mbA (V (sr sh m 14)) n k b) ≤ 1 then 0 else zro (V (sr sh m 14)) (mbA (V (sr sh m 14)) n k b))] (sh, V) ∨ 9 < k := by
  intro n
  induction n with
  | zero =>
    intro k b hn h0 h1
    by_cases c : 9 < k
    · exact Or.inr c
    refine Or.inl ?_
    rw [w184_4, if_pos (by omega), M183 b (by omega)]
    simp only [wcx_v, wput_s, w184_40]
    show _ = wev zP 184 53 [some (wR m), some (wI b), some (wI (k + 0)), none, none, none, none, none] [wI (if zro (V (sr sh m 14)) b ≤ 1 then 0 else zro (V (sr sh m 14)) b)] (sh, V)
    rw [Int.add_zero]
    by_cases d : zro (V (sr sh m 14)) b ≤ 1
    · rw [if_pos d, if_pos d]
    · rw [if_neg d, if_neg d, M183 b (by omega)]
      simp only [wcx_v, wput_s, w184_49]
  | succ n ih =>
    intro k b hn h0 h1
    refine Or.inl ?_
    rw [w184_4, if_neg (by omega), M183 k (by omega)]
    simp only [wcx_v, wput_s, w184_15]
    rw [M183 b (by omega)]
    simp only [wcx_v, wput_s, w184_20]
    rw [mbA, show (k : Int) + ((n + 1 : Nat) : Int) = (k + 1) + n by omega]
    by_cases c : zro (V (sr sh m 14)) k ≤ zro (V (sr sh m 14)) b
    · rw [if_pos c, if_pos c, w184_28, wr_eq (by omega) (by omega)]
      exact (ih (k + 1) b (by omega) h0 (by omega)).resolve_right (by omega)
    · rw [if_neg c, if_neg c, w184_28, wr_eq (by omega) (by omega)]
      exact (ih (k + 1) k (by omega) (by omega) (by omega)).resolve_right (by omega)
/-- the units of digits -/
def hU : Nat → Int
  | 0 => 0
  | 1 => 1
  | 2 => 16
  | 3 => 256
  | _ => 4096
def hmA (v : Int) : Nat → List Int
  | 0 => []
  | n + 1 => cdl (v / hU (n + 1) % 16) :: hmA v n
def hmg (v : Int) : List Int := hmA v (if v ≤ 4095 then if v ≤ 255 then if v ≤ 15 then 1 else 2 else 3 else 4)
theorem hmA_len (v : Int) : ∀ n, (hmA v n).length = n := by
  intro n
  induction n with
  | zero => rfl
  | succ n ih => rw [hmA, List.length_cons, ih]
theorem M184_200 (M : wMd sh m) (b s i x4 v : Int) (hv : 0 ≤ v ∧ v ≤ 65535) : ∀ (n : Nat) (V : wSt) (X : List Int × Int) (o7 : Option wV), n ≤ 4 → X.1.length + n ≤ 1400 → l1 sh V m 2 X → ∃ V' o6' o7', wev zP 184 200 [some (wR m), some (wI b), some (wI s), some (wI i), some (wI x4), some (wI v), some (wI (hU n)), o7] [] (sh, V) = wev zP 184 250 [some (wR m), some (wI b), some (wI s), some (wI i), some (wI x4), some (wI v), o6', o7'] [] (sh, V') ∧ Lf sh m 2 V V' ∧ l1 sh V' m 2 (X.1 ++ hmA v n, X.2) := by
  intro n
  induction n with
  | zero =>
    intro V X o7 hn hl K
    refine ⟨V, some (wI (hU 0)), o7, ?_, Lf.refl, by show l1 sh V m 2 (X.1 ++ [], X.2); rw [List.append_nil]; exact K⟩
    rw [w184_200, if_pos (by decide)]
  | succ n ih =>
    intro V X o7 hn hl K
    have u : 1 ≤ hU (n + 1) ∧ hU (n + 1) / 16 = hU n := by
      rcases (by omega : n = 0 ∨ n = 1 ∨ n = 2 ∨ n = 3) with e | e | e | e <;> subst e <;> decide
    obtain ⟨U, hUe⟩ : ∃ U, U = hU (n + 1) := ⟨_, rfl⟩
    have dv : 0 ≤ v / U ∧ 0 ≤ v / U % 16 ∧ v / U % 16 ≤ 15 := by
      have a : 0 ≤ v / U := Int.ediv_nonneg hv.1 (by omega)
      omega
    rw [← hUe] at u ⊢
    obtain ⟨d, hd⟩ : ∃ d, d = v / U % 16 := ⟨_, rfl⟩
    rw [← hd] at dv
    obtain ⟨V1, e1, f1, l1'⟩ := M152l M (k := 2) (by decide) K (cdl d) (by show X.1.length < 1500; omega)
    obtain ⟨V2, o6', o7', e2, f2, l2⟩ := ih V1 (X.1 ++ [cdl d], X.2) (some (wI d)) (by omega) (by show (X.1 ++ [cdl d]).length + n ≤ 1400; rw [List.length_append, List.length_singleton]; omega) l1'
    refine ⟨V2, o6', o7', ?_, f1.trans f2, ?_⟩
    · have go : wcx (wcl zP 152 [wR m, wI 2, wI (cdl d)] (sh, V)) (fun w h' => wev zP 184 240 [some (wR m), some (wI b), some (wI s), some (wI i), some (wI x4), some (wI v), some (wI U), some (wI d)] (wput w []) h') wth = wev zP 184 250 [some (wR m), some (wI b), some (wI s), some (wI i), some (wI x4), some (wI v), o6', o7'] [] (sh, V2) := by
        rw [e1]; simp only [wcx_v, wput_n, w184_240]
        unfold wck
        rw [if_pos ⟨by omega, by decide⟩, u.2, e2]
      rw [w184_200, if_neg (by omega)]
      unfold wck
      rw [if_pos ⟨hv.1, by omega⟩, if_pos ⟨dv.1, by decide⟩, ← hd, w184_215]
      unfold cdl at go
      by_cases c : 10 ≤ d
      · rw [if_neg (by omega)] at go
        rw [if_pos c, w184_237, wr_eq (by omega) (by omega)]; exact go
      · rw [if_pos (by omega)] at go
        rw [if_neg c, w184_237, wr_eq (by omega) (by omega)]; exact go
    · have l2 : l1 sh V2 m 2 ((X.1 ++ [cdl d]) ++ hmA v n, X.2) := l2
      rw [List.append_assoc, List.singleton_append] at l2
      rw [hmA, ← hUe, ← hd]; exact l2
/-- the groups as the model lays them -/
def mrb (W : Nat → Int) (b s : Int) : Nat → Int → List Int
  | 0, _ => []
  | n + 1, i => (if b ≤ i ∧ i < b + s then (if i = b then [58, 58] else []) else (if 0 < i ∧ ¬ (0 < s ∧ i = b + s) then [58] else []) ++ hmg (W i.toNat)) ++ mrb W b s n (i + 1)
theorem hmg_len (v : Int) : (hmg v).length ≤ 4 := by
  unfold hmg; rw [hmA_len]; split
  · split
    · split <;> omega
    · omega
  · omega
theorem M184_70 (M : wMd sh m) (b s : Int) (hb : 0 ≤ b ∧ b ≤ 8) (hs : 0 ≤ s ∧ s ≤ 8) (W : Nat → Int) (hW : ∀ j, j < 8 → 0 ≤ W j ∧ W j ≤ 65535) : ∀ (n : Nat) (V : wSt) (X : List Int × Int) (i : Int) (o4 o5 o6 o7 : Option wV), (8 - i).toNat = n → 0 ≤ i → X.1.length + 6 * n ≤ 1000 → V (sr sh m 14) = W → l1 sh V m 2 X → ∃ V', wev zP 184 70 [some (wR m), some (wI b), some (wI s), some (wI i), o4, o5, o6, o7] [] (sh, V) = rN (sh, V') ∧ Lf sh m 2 V V' ∧ l1 sh V' m 2 (X.1 ++ (mrb W b s n i ++ [93]), X.2) := by
  have n14 : sr sh m 14 ∉ lyO sh m := lyO_n M (by decide) (by decide) (by decide) (by decide)
  have w1 : wr (b + s) = b + s := wr_eq (by omega) (by omega)
  intro n
  induction n with
  | zero =>
    intro V X i o4 o5 o6 o7 hn hi hl hV K
    obtain ⟨V1, e1, f1, l1'⟩ := M152l M (k := 2) (by decide) K 93 (by show X.1.length < 1500; omega)
    refine ⟨V1, ?_, f1, l1'⟩
    rw [w184_70, if_pos (by omega), e1]; simp only [wcx_v, wput_n, w184_263]
  | succ n ih =>
    intro V X i o4 o5 o6 o7 hn hi hl hV K
    -- behind a piece
    have nxt : ∀ (V1 : wSt) (N : List Int) (y4 : Int) (p5 p6 p7 : Option wV), Lf sh m 2 V V1 → l1 sh V1 m 2 (X.1 ++ N, X.2) → N.length ≤ 6 → N = (if b ≤ i ∧ i < b + s then (if i = b then [58, 58] else []) else (if 0 < i ∧ ¬ (0 < s ∧ i = b + s) then [58] else []) ++ hmg (W i.toNat)) → ∃ V', wev zP 184 250 [some (wR m), some (wI b), some (wI s), some (wI i), some (wI y4), p5, p6, p7] [] (sh, V1) = rN (sh, V') ∧ Lf sh m 2 V V' ∧ l1 sh V' m 2 (X.1 ++ (mrb W b s (n + 1) i ++ [93]), X.2) := by
      intro V1 N y4 p5 p6 p7 f K1 hN hE
      obtain ⟨V2, e2, f2, l2⟩ := ih V1 (X.1 ++ N, X.2) (i + 1) (some (wI y4)) p5 p6 p7 (by omega) (by omega) (by show (X.1 ++ N).length + 6 * n ≤ 1000; rw [List.length_append]; omega) ((f.1 _ n14).trans hV) K1
      have l2 : l1 sh V2 m 2 ((X.1 ++ N) ++ (mrb W b s n (i + 1) ++ [93]), X.2) := l2
      refine ⟨V2, ?_, f.trans f2, ?_⟩
      · rw [w184_250, wr_eq (by omega) (by omega), e2]
      · rw [mrb, ← hE, List.append_assoc]
        rw [List.append_assoc] at l2; exact l2
    -- a group
    have grp : ∀ (V1 : wSt) (N : List Int) (x4 : Int), Lf sh m 2 V V1 → l1 sh V1 m 2 (X.1 ++ N, X.2) → N.length ≤ 2 → N ++ hmg (W i.toNat) = (if b ≤ i ∧ i < b + s then (if i = b then [58, 58] else []) else (if 0 < i ∧ ¬ (0 < s ∧ i = b + s) then [58] else []) ++ hmg (W i.toNat)) → ∃ V', wev zP 184 149 [some (wR m), some (wI b), some (wI s), some (wI i), some (wI x4), o5, o6, o7] [] (sh, V1) = rN (sh, V') ∧ Lf sh m 2 V V' ∧ l1 sh V' m 2 (X.1 ++ (mrb W b s (n + 1) i ++ [93]), X.2) := by
      intro V1 N x4 f K1 hN hE
      have v14 : V1 (sr sh m 14) i.toNat = W i.toNat := by rw [f.1 _ n14, hV]
      obtain ⟨v, hv⟩ : ∃ v, v = W i.toNat := ⟨_, rfl⟩
      have vr := hW i.toNat (by omega)
      rw [← hv] at vr v14 hE
      obtain ⟨k, hk⟩ : ∃ k : Nat, k = if v ≤ 4095 then if v ≤ 255 then if v ≤ 15 then 1 else 2 else 3 else 4 := ⟨_, rfl⟩
      have hk4 : k ≤ 4 := by
        have := hmg_len v
        unfold hmg at this; rw [hmA_len, ← hk] at this; exact this
      have hg : hmg v = hmA v k := by unfold hmg; rw [← hk]
      have st : wev zP 184 149 [some (wR m), some (wI b), some (wI s), some (wI i), some (wI x4), o5, o6, o7] [] (sh, V1) = wev zP 184 200 [some (wR m), some (wI b), some (wI s), some (wI i), some (wI x4), some (wI v), some (wI (hU k)), o7] [] (sh, V1) := by
        rw [w184_149, v14, hk]
        by_cases c1 : v ≤ 4095
        · rw [if_pos c1, if_pos c1]
          by_cases c2 : v ≤ 255
          · rw [if_pos c2, if_pos c2]
            by_cases c3 : v ≤ 15
            · rw [if_pos c3, if_pos c3, w184_198]; rfl
            · rw [if_neg c3, if_neg c3, w184_198]; rfl
          · rw [if_neg c2, if_neg c2, w184_198]; rfl
        · rw [if_neg c1, if_neg c1, w184_198]; rfl
      obtain ⟨V2, o6', o7', e2, f2, l2⟩ := M184_200 M b s i x4 v vr k V1 (X.1 ++ N, X.2) o7 hk4 (by show (X.1 ++ N).length + k ≤ 1400; rw [List.length_append]; omega) K1
      have l2 : l1 sh V2 m 2 ((X.1 ++ N) ++ hmA v k, X.2) := l2
      rw [List.append_assoc] at l2
      obtain ⟨V3, e3, f3, l3⟩ := nxt V2 (N ++ hmA v k) x4 (some (wI v)) o6' o7' (f.trans f2) l2 (by rw [List.length_append, hmA_len]; omega) (by rw [← hg, hE, hv])
      exact ⟨V3, by rw [st, e2, e3], f3, l3⟩
    clear ih
    have colon : ∀ (x4 : Int), 0 < i → ¬ (0 < s ∧ i = b + s) → ¬ (b ≤ i ∧ i < b + s) → ∃ V', wev zP 184 142 [some (wR m), some (wI b), some (wI s), some (wI i), some (wI x4), o5, o6, o7] [] (sh, V) = rN (sh, V') ∧ Lf sh m 2 V V' ∧ l1 sh V' m 2 (X.1 ++ (mrb W b s (n + 1) i ++ [93]), X.2) := by
      intro x4 h1 h2 h3
      obtain ⟨V1, e1, f1, l1'⟩ := M152l M (k := 2) (by decide) K 58 (by show X.1.length < 1500; omega)
      obtain ⟨V2, e2, f2, l2⟩ := grp V1 [58] x4 f1 l1' (by decide) (by rw [if_neg h3, if_pos ⟨h1, h2⟩])
      exact ⟨V2, by rw [w184_142, e1]; simp only [wcx_v, wput_n]; exact e2, f2, l2⟩
    have plain : ∀ (x4 : Int), ¬ (0 < i ∧ ¬ (0 < s ∧ i = b + s)) → ¬ (b ≤ i ∧ i < b + s) → ∃ V', wev zP 184 149 [some (wR m), some (wI b), some (wI s), some (wI i), some (wI x4), o5, o6, o7] [] (sh, V) = rN (sh, V') ∧ Lf sh m 2 V V' ∧ l1 sh V' m 2 (X.1 ++ (mrb W b s (n + 1) i ++ [93]), X.2) := by
      intro x4 h1 h3
      exact grp V [] x4 Lf.refl (by rw [List.append_nil]; exact K) (by decide) (by rw [if_neg h3, if_neg h1])
    have g122 : ¬ (b ≤ i ∧ i < b + s) → ∃ V', wev zP 184 122 [some (wR m), some (wI b), some (wI s), some (wI i), some (wI 0), o5, o6, o7] [] (sh, V) = rN (sh, V') ∧ Lf sh m 2 V V' ∧ l1 sh V' m 2 (X.1 ++ (mrb W b s (n + 1) i ++ [93]), X.2) := by
      intro h3
      rw [w184_122, if_pos rfl, w1]
      by_cases d1 : i ≤ 0
      · rw [if_pos d1]; exact plain 0 (fun w => by omega) h3
      rw [if_neg d1]
      by_cases d2 : s ≤ 0
      · rw [if_pos d2]; exact colon 0 (by omega) (fun w => by omega) h3
      rw [if_neg d2]
      by_cases d3 : i = b + s
      · rw [if_pos d3]; exact plain 0 (fun w => w.2 ⟨by omega, d3⟩) h3
      · rw [if_neg d3]; exact colon 0 (by omega) (fun w => d3 w.2) h3
    rw [w184_70, if_neg (by omega), w1]
    by_cases c1 : i < b
    · rw [if_pos c1, w184_92, w184_93, if_pos rfl]; exact g122 (fun w => by omega)
    rw [if_neg c1]
    by_cases c2 : b + s ≤ i
    · rw [if_pos c2, w184_92, w184_93, if_pos rfl]; exact g122 (fun w => by omega)
    rw [if_neg c2, w184_93, if_neg (by decide)]
    by_cases c3 : i = b
    · rw [if_pos c3]
      obtain ⟨V1, e1, f1, l1'⟩ := M152l M (k := 2) (by decide) K 58 (by show X.1.length < 1500; omega)
      obtain ⟨V2, e2, f2, l2⟩ := M152l M (k := 2) (by decide) l1' 58 (by show (X.1 ++ [58]).length < 1500; rw [List.length_append, List.length_singleton]; omega)
      have l2 : l1 sh V2 m 2 ((X.1 ++ [58]) ++ [58], X.2) := l2
      rw [List.append_assoc] at l2
      obtain ⟨V3, e3, f3, l3⟩ := nxt V2 [58, 58] 1 o5 o6 o7 (f1.trans f2) l2 (by decide) (by rw [if_pos ⟨by omega, by omega⟩, if_pos c3])
      refine ⟨V3, ?_, f3, l3⟩
      rw [e1]; simp only [wcx_v, wput_n, w184_112]
      rw [e2]; simp only [wcx_v, wput_n, w184_119]
      exact e3
    · rw [if_neg c3, w184_122, if_neg (by decide)]
      exact nxt V [] 1 o5 o6 o7 Lf.refl (by rw [List.append_nil]; exact K) (by decide) (by rw [if_pos ⟨by omega, by omega⟩, if_neg c3])
/-- the host that the model lays out of its groups -/
def mh6 (W : Nat → Int) : List Int := 91 :: (mrb W (mbA W 7 1 0) (if zro W (mbA W 7 1 0) ≤ 1 then 0 else zro W (mbA W 7 1 0)) 8 0 ++ [93])
theorem M184 {V : wSt} (M : wMd sh m) {X : List Int × Int} (K : l1 sh V m 2 X) (hW : ∀ j, j < 8 → 0 ≤ V (sr sh m 14) j ∧ V (sr sh m 14) j ≤ 65535) : ∃ V', wcl zP 184 [wR m] (sh, V) = rN (sh, V') ∧ Lf sh m 2 V V' ∧ l1 sh V' m 2 (mh6 (V (sr sh m 14)), X.2) := by
  have n14 : sr sh m 14 ∉ lyO sh m := lyO_n M (by decide) (by decide) (by decide) (by decide)
  have br := mbA_r (V (sr sh m 14)) 7 1 0 (by decide) (by decide)
  have zr := zro_r (V (sr sh m 14)) _ (mbA (V (sr sh m 14)) 7 1 0) rfl
  have s1 := (M184_4 (sh := sh) (m := m) (V := V) 7 1 0 (by decide) (by decide) (by decide)).resolve_right (by decide)
  obtain ⟨b, hb⟩ : ∃ b, b = mbA (V (sr sh m 14)) 7 1 0 := ⟨_, rfl⟩
  unfold mh6
  rw [← hb] at br zr s1 ⊢
  obtain ⟨s, hs⟩ : ∃ s, s = if zro (V (sr sh m 14)) b ≤ 1 then 0 else zro (V (sr sh m 14)) b := ⟨_, rfl⟩
  rw [← hs] at s1 ⊢
  have rs : 0 ≤ s ∧ s ≤ 8 := by rw [hs]; split <;> omega
  obtain ⟨f1, K1⟩ := l1_cut M K 0 (by decide) (by omega)
  have K1 : l1 sh (uI V (sr sh m 10) 2 0) m 2 ([], X.2) := K1
  obtain ⟨V2, e2, f2, l2⟩ := M152l M (k := 2) (by decide) K1 91 (by show (0 : Nat) < 1500; decide)
  obtain ⟨V3, e3, f3, l3⟩ := M184_70 M b s (by omega) rs (V (sr sh m 14)) hW 8 V2 ([91], X.2) 0 none none none none rfl (by decide) (by show 1 + 6 * 8 ≤ 1000; decide) (by rw [f2.1 _ n14, f1.1 _ n14]) l2
  refine ⟨V3, ?_, (f1.trans f2).trans f3, l3⟩
  rw [w184_0, s1, w184_53]
  show wcx (wcl zP 152 [wR m, wI 2, wI 91] (sh, uI V (sr sh m 10) 2 0)) _ _ = _
  rw [e2]
  simp only [wcx_v, wput_n, w184_68]
  exact e3
end
