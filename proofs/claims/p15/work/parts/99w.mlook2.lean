set_option maxRecDepth 16384
/-! the model's methods that look at segments and pairs -/
/-- codes of a part are whole -/
def cdk (X : List Int) : Prop := ∀ i : Int, gl X i = 37 → pCd (gl X) i ≠ -1
theorem pHex_m1 : pHex (-1) = -1 := by decide
theorem cdk_in {X : List Int} (h : cdk X) {i : Int} (e : gl X i = 37) : 0 ≤ i ∧ i + 2 < (X.length : Int) ∧ 0 ≤ pHex (gl X (i + 1)) ∧ 0 ≤ pHex (gl X (i + 2)) := by
  have c := h i e
  unfold pCd at c
  by_cases d : gl X i = 37 ∧ 0 ≤ pHex (gl X (i + 1)) ∧ 0 ≤ pHex (gl X (i + 2))
  · have a : 0 ≤ i := by
      by_cases q : 0 ≤ i
      · exact q
      · rw [gl_out (Or.inl (by omega))] at e; cases e
    have b : i + 2 < (X.length : Int) := by
      by_cases q : i + 2 < (X.length : Int)
      · exact q
      · have z := d.2.2; rw [gl_out (Or.inr (by omega)), pHex_m1] at z; exact absurd z (by decide)
    exact ⟨a, b, d.2⟩
  · rw [if_neg d] at c; exact absurd rfl c
/-- a code of a part is a code of the row -/
theorem pCd_part {L : List Int} {k : Nat} (hk : k < 7) (h : cdk (cutQ L k).1) {j : Int} (hj : 0 ≤ j) (h2 : j < ((cutQ L k).1.length : Int)) : pCd (gl L) (zB (gl L) L.length k + j) = pCd (gl (cutQ L k).1) j := by
  have cl := (cutQ_l L k hk).1
  have at_ : ∀ i : Int, 0 ≤ i → i < ((cutQ L k).1.length : Int) → gl L (zB (gl L) L.length k + i) = gl (cutQ L k).1 i := fun i h0 h1 => by rw [cutQ_g L k hk i h0, if_pos (by omega)]
  have a0 := at_ j hj h2
  by_cases c : gl (cutQ L k).1 j = 37
  · obtain ⟨-, c2, -⟩ := cdk_in h c
    unfold pCd
    rw [a0, show zB (gl L) L.length k + j + 1 = zB (gl L) L.length k + (j + 1) by omega, show zB (gl L) L.length k + j + 2 = zB (gl L) L.length k + (j + 2) by omega, at_ (j + 1) (by omega) (by omega), at_ (j + 2) (by omega) (by omega)]
  · unfold pCd
    rw [a0, if_neg (fun w => c w.1), if_neg (fun w => c w.1)]
section
variable {sh : zSh} {m : Nat} {V : wSt}
theorem M193 (S : mSz sh V m) {i : Int} {L : List Int} (K : mK sh V m i L) (hL : L.length ≤ 21000) (hi : 0 ≤ i ∧ i ≤ 13) : wcl zP 193 [wR m, wI i] (sh, V) = rI (if gl (cutQ L 4).1 0 = 47 then 1 else 0) (sh, V) := by
  have g : wcl zP 136 [wR m, wI i, wI 4, wI 0] (sh, V) = rI (gl (cutQ L 4).1 0) (sh, V) := M136q (p := 4) S K hL hi (by decide) 0 (by decide)
  rw [w193_0, g]
  simp only [wcx_v, wput_s, w193_7]
  split <;> rfl
theorem M194_6 (S : mSz sh V m) {i p : Int} {L : List Int} (K : mK sh V m i L) (hL : L.length ≤ 21000) (hi : 0 ≤ i ∧ i ≤ 13) (hp : 0 ≤ p ∧ p ≤ 6) (b f : Int) : ∀ (n : Nat) (x v : Int), (((cutQ L p.toNat).1.length : Int) - x).toNat = n → 0 ≤ x → x ≤ 1000000 → 0 ≤ v → v ≤ x + 1 → wev zP 194 6 [some (wR m), some (wI i), some (wI p), some (wI f), some (wI b), some (wI v), some (wI x)] [] (sh, V) = rI (v + lc b ((cutQ L p.toNat).1.drop x.toNat)) (sh, V) := by
  have cl := cutQ_le L p.toNat (by omega)
  intro n
  induction n with
  | zero =>
    intro x v hn hx hx2 h0 h1
    rw [w194_6, M135q K hL hi hp]
    simp only [wcx_v, wput_s, w194_14]
    rw [if_pos (by omega), List.drop_of_length_le (by omega)]
    exact rI_cg (by show v = v + 0; omega)
  | succ n ih =>
    intro x v hn hx hx2 h0 h1
    rw [w194_6, M135q K hL hi hp]
    simp only [wcx_v, wput_s, w194_14]
    rw [if_neg (by omega), M136q S K hL hi hp x (by omega)]
    simp only [wcx_v, wput_s, w194_27]
    rw [drop_gl (L := (cutQ L p.toNat).1) hx (by omega), lc]
    by_cases c : gl (cutQ L p.toNat).1 x = b
    · rw [if_pos c, if_pos c, wr_eq (by omega) (by omega), wr_eq (by omega) (by omega), ih _ _ (by omega) (by omega) (by omega) (by omega) (by omega)]
      exact rI_cg (by omega)
    · rw [if_neg c, if_neg c, wr_eq (by omega) (by omega), wr_eq (by omega) (by omega), ih _ _ (by omega) (by omega) (by omega) (by omega) (by omega)]
      exact rI_cg (by omega)
theorem M194 (S : mSz sh V m) {i p : Int} {L : List Int} (K : mK sh V m i L) (hL : L.length ≤ 21000) (hi : 0 ≤ i ∧ i ≤ 13) (hp : 0 ≤ p ∧ p ≤ 6) (b f : Int) (hf : 0 ≤ f ∧ f ≤ 100000) : wcl zP 194 [wR m, wI i, wI p, wI f, wI b] (sh, V) = rI (1 + lc b ((cutQ L p.toNat).1.drop f.toNat)) (sh, V) := by
  rw [w194_0, M194_6 S K hL hi hp b f _ f 1 rfl hf.1 (by omega) (by decide) (by omega)]
/-- behind the first of some signs -/
theorem lc_pos {b : Int} {L : List Int} {k : Int} (hk : 0 ≤ k) (h : 1 ≤ lc b (L.drop k.toNat)) : k < (L.length : Int) := by
  by_cases c : k < (L.length : Int)
  · exact c
  · rw [List.drop_of_length_le (by omega)] at h; exact absurd (show (1 : Int) ≤ 0 from h) (by decide)
theorem M197_7 (S : mSz sh V m) {i p : Int} {L : List Int} (K : mK sh V m i L) (hL : L.length ≤ 21000) (hi : 0 ≤ i ∧ i ≤ 13) (hp : 0 ≤ p ∧ p ≤ 6) (b f c0 : Int) : ∀ (n : Nat) (k c : Int), (((cutQ L p.toNat).1.length : Int) + 1 - k).toNat = n → 0 ≤ k → k ≤ 1000000 → 0 ≤ c → c ≤ 1000000 → c ≤ lc b ((cutQ L p.toNat).1.drop k.toNat) → wev zP 197 7 [some (wR m), some (wI i), some (wI p), some (wI f), some (wI b), some (wI c0), some (wI k), some (wI c)] [] (sh, V) = rI (sop (gl (cutQ L p.toNat).1) b (cutQ L p.toNat).1.length c.toNat k) (sh, V) := by
  have cl := cutQ_le L p.toNat (by omega)
  intro n
  induction n with
  | zero =>
    intro k c hn hk hk2 h0 h1 h2
    have l0 : c ≤ 0 := by
      by_cases q : 1 ≤ c
      · have := lc_pos (b := b) (L := (cutQ L p.toNat).1) hk (by omega); omega
      · omega
    rw [w197_7, if_pos l0, show c.toNat = 0 by omega]; rfl
  | succ n ih =>
    intro k c hn hk hk2 h0 h1 h2
    rw [w197_7]
    by_cases c1 : c ≤ 0
    · rw [if_pos c1, show c.toNat = 0 by omega]; rfl
    · have kl := lc_pos (b := b) (L := (cutQ L p.toNat).1) hk (by omega)
      rw [if_neg c1, M136q S K hL hi hp k (by omega)]
      simp only [wcx_v, wput_s, w197_22]
      rw [drop_gl (L := (cutQ L p.toNat).1) hk kl, lc] at h2
      have st := (cfn_st (gl (cutQ L p.toNat).1) b k (cutQ L p.toNat).1.length).2 kl
      obtain ⟨c', hc'⟩ : ∃ c', c.toNat = c' + 1 := ⟨c.toNat - 1, by omega⟩
      by_cases d : gl (cutQ L p.toNat).1 k = b
      · rw [if_pos d] at h2
        rw [if_pos d, wr_eq (by omega) (by omega), wr_eq (by omega) (by omega), ih _ _ (by omega) (by omega) (by omega) (by omega) (by omega) (by omega), hc', sop, st.1 d, show (c - 1).toNat = c' by omega]
      · rw [if_neg d] at h2
        rw [if_neg d, wr_eq (by omega) (by omega), wr_eq (by omega) (by omega), ih _ _ (by omega) (by omega) (by omega) (by omega) (by omega) (by omega), Int.sub_zero, hc', sop, sop, st.2 d]
theorem M197 (S : mSz sh V m) {i p : Int} {L : List Int} (K : mK sh V m i L) (hL : L.length ≤ 21000) (hi : 0 ≤ i ∧ i ≤ 13) (hp : 0 ≤ p ∧ p ≤ 6) (b f c : Int) (hf : 0 ≤ f ∧ f ≤ 100000) (hc : 0 ≤ c ∧ c ≤ lc b ((cutQ L p.toNat).1.drop f.toNat)) : wcl zP 197 [wR m, wI i, wI p, wI f, wI b, wI c] (sh, V) = rI (sop (gl (cutQ L p.toNat).1) b (cutQ L p.toNat).1.length c.toNat f) (sh, V) := by
  have cl := cutQ_le L p.toNat (by omega)
  have lr := lc_r b ((cutQ L p.toNat).1.drop f.toNat)
  rw [List.length_drop] at lr
  rw [w197_0, M197_7 S K hL hi hp b f c _ f c rfl hf.1 (by omega) hc.1 (by omega) hc.2]
theorem M198_3 (S : mSz sh V m) {i p : Int} {L : List Int} (K : mK sh V m i L) (hL : L.length ≤ 21000) (hi : 0 ≤ i ∧ i ≤ 13) (hp : 0 ≤ p ∧ p ≤ 6) (b f : Int) : ∀ (n : Nat) (k : Int), (((cutQ L p.toNat).1.length : Int) - k).toNat = n → 0 ≤ k → k ≤ (cutQ L p.toNat).1.length → wev zP 198 3 [some (wR m), some (wI i), some (wI p), some (wI f), some (wI b), some (wI k)] [] (sh, V) = rI (cfn (gl (cutQ L p.toNat).1) b k (cutQ L p.toNat).1.length) (sh, V) := by
  have cl := cutQ_le L p.toNat (by omega)
  intro n
  induction n with
  | zero =>
    intro k hn hk hk2
    rw [w198_3, M135q K hL hi hp]
    simp only [wcx_v, wput_s, w198_11]
    rw [if_pos (by omega), (cfn_st _ b k _).1 (by omega)]
    exact rI_cg (by omega)
  | succ n ih =>
    intro k hn hk hk2
    rw [w198_3, M135q K hL hi hp]
    simp only [wcx_v, wput_s, w198_11]
    rw [if_neg (by omega), M136q S K hL hi hp k (by omega)]
    simp only [wcx_v, wput_s, w198_22]
    have st := (cfn_st (gl (cutQ L p.toNat).1) b k (cutQ L p.toNat).1.length).2 (by omega)
    by_cases d : gl (cutQ L p.toNat).1 k = b
    · rw [if_pos d, st.1 d]
    · rw [if_neg d, wr_eq (by omega) (by omega), ih _ (by omega) (by omega) (by omega), st.2 d]
theorem M198 (S : mSz sh V m) {i p : Int} {L : List Int} (K : mK sh V m i L) (hL : L.length ≤ 21000) (hi : 0 ≤ i ∧ i ≤ 13) (hp : 0 ≤ p ∧ p ≤ 6) (b f : Int) (hf : 0 ≤ f ∧ f ≤ (cutQ L p.toNat).1.length) : wcl zP 198 [wR m, wI i, wI p, wI f, wI b] (sh, V) = rI (cfn (gl (cutQ L p.toNat).1) b f (cutQ L p.toNat).1.length) (sh, V) := by
  rw [w198_0, M198_3 S K hL hi hp b f _ f rfl hf.1 hf.2]
theorem ox_add (M : wMd sh m) {P : List Int} (h : ox sh V m = P) (h7 : V m 7 = (P.length : Int)) (x : Int) : ox sh (uI (uI V (sr sh m 8) (V m 7).toNat x) m 7 ((P.length : Int) + 1)) m = P ++ [x] ∧ uI (uI V (sr sh m 8) (V m 7).toNat x) m 7 ((P.length : Int) + 1) m 7 = ((P ++ [x]).length : Int) := by
  have n8 := M.m (j := 8) (by decide)
  have v7 : uI (uI V (sr sh m 8) (V m 7).toNat x) m 7 ((P.length : Int) + 1) m 7 = ((P ++ [x]).length : Int) := by
    rw [List.length_append, List.length_singleton]
    unfold uI; rw [if_pos ⟨rfl, rfl⟩]; omega
  refine ⟨ox_ext v7 (fun k hk => ?_), v7⟩
  rw [List.length_append, List.length_singleton] at hk
  have e : uI (uI V (sr sh m 8) (V m 7).toNat x) m 7 ((P.length : Int) + 1) (sr sh m 8) k = if k = P.length then x else V (sr sh m 8) k := by
    unfold uI
    rw [if_neg (fun c => n8 c.1)]
    by_cases d : k = P.length
    · rw [if_pos ⟨rfl, by omega⟩, if_pos d]
    · rw [if_neg (fun c => d (by omega)), if_neg d]
  rw [e, gl_app]
  by_cases d : k = P.length
  · rw [if_pos d, if_neg (by omega), gl_cons, if_pos (by omega)]
  · rw [if_neg d, if_pos (by omega), ← h]
    unfold ox
    rw [gl_in (by omega) (by rw [List.length_map, List.length_range]; omega), Int.toNat_natCast, List.getD_eq_getElem?_getD, List.getElem?_map, List.getElem?_range (by omega)]; rfl
end
theorem M199_24 {sh : zSh} {m : Nat} (M : wMd sh m) {i p : Int} {L : List Int} (hL : L.length ≤ 400) (hi : 0 ≤ i ∧ i ≤ 13) (hp : 0 ≤ p ∧ p ≤ 6) (hc : cdk (cutQ L p.toNat).1) (f t : Int) (ht : 0 ≤ t ∧ t ≤ (cutQ L p.toNat).1.length) : ∀ (n : Nat) (V : wSt) (j : Int) (P : List Int) (o7 : Option wV), (t - j).toNat ≤ n → 0 ≤ j → j ≤ 1000000 → (P.length : Int) ≤ 1000 + j → mSz sh V m → mK sh V m i L → ox sh V m = P → V m 7 = (P.length : Int) → zB (gl L) L.length p.toNat ≠ -1 →
    ∃ V', wev zP 199 24 [some (wR m), some (wI i), some (wI p), some (wI f), some (wI t), some (wI (zB (gl L) L.length p.toNat)), some (wI (zB (gl L) L.length p.toNat + j)), o7] [] (sh, V) = rI ((P ++ dec (gl (cutQ L p.toNat).1) t j).length : Int) (sh, V') ∧ FrM m [7] [sr sh m 8] V V' ∧ ox sh V' m = P ++ dec (gl (cutQ L p.toNat).1) t j ∧ V' m 7 = ((P ++ dec (gl (cutQ L p.toNat).1) t j).length : Int) := by
  have cl := cutQ_le L p.toNat (by omega)
  have rg := zBE_rng (gl L) L.length (Int.natCast_nonneg _) p.toNat (by omega)
  have cq := (cutQ_l L p.toNat (by omega)).1
  intro n
  induction n with
  | zero =>
    intro V j P o7 hn hj hj2 hP S K o o7' nb
    have d := (dec_st (gl (cutQ L p.toNat).1) t j).1 (by omega)
    rw [d, List.append_nil]
    refine ⟨V, ?_, FrM.refl, o, o7'⟩
    rw [w199_24, wr_eq (by omega) (by omega), if_pos (by omega), o7']
  | succ n ih =>
    intro V j P o7 hn hj hj2 hP S K o o7' nb
    by_cases c0 : t ≤ j
    · have d := (dec_st (gl (cutQ L p.toNat).1) t j).1 c0
      rw [d, List.append_nil]
      refine ⟨V, ?_, FrM.refl, o, o7'⟩
      rw [w199_24, wr_eq (by omega) (by omega), if_pos (by omega), o7']
    · have Lx := K.1
      have pc := pCd_part (L := L) (k := p.toNat) (by omega) hc hj (by omega)
      have at_ : ∀ i : Int, 0 ≤ i → i < ((cutQ L p.toNat).1.length : Int) → gl L (zB (gl L) L.length p.toNat + i) = gl (cutQ L p.toNat).1 i := fun i h0 h1 => by rw [cutQ_g L p.toNat (by omega) i h0, if_pos (by omega)]
      have st := (dec_st (gl (cutQ L p.toNat).1) t j).2 (by omega)
      have n8 := M.m (j := 8) (by decide)
      -- one sign is put out
      have step : ∀ (x d y : Int), (d = 1 ∨ d = 3) → (d = 1 ↔ y = 0) → dec (gl (cutQ L p.toNat).1) t j = x :: dec (gl (cutQ L p.toNat).1) t (j + d) → ∃ V', wev zP 199 94 [some (wR m), some (wI i), some (wI p), some (wI f), some (wI t), some (wI (zB (gl L) L.length p.toNat)), some (wI (zB (gl L) L.length p.toNat + j)), some (wI y)] [wI x, wI (V m 7), wR (sr sh m 8)] (sh, V) = rI ((P ++ dec (gl (cutQ L p.toNat).1) t j).length : Int) (sh, V') ∧ FrM m [7] [sr sh m 8] V V' ∧ ox sh V' m = P ++ dec (gl (cutQ L p.toNat).1) t j ∧ V' m 7 = ((P ++ dec (gl (cutQ L p.toNat).1) t j).length : Int) := by
        intro x d y hd hy hdec
        obtain ⟨a1, a2⟩ := ox_add M o o7' x
        obtain ⟨W, hW⟩ : ∃ W, W = uI (uI V (sr sh m 8) (V m 7).toNat x) m 7 ((P.length : Int) + 1) := ⟨_, rfl⟩
        rw [← hW] at a1 a2
        have e7 : uI V (sr sh m 8) (V m 7).toNat x m 7 = (P.length : Int) := by unfold uI; rw [if_neg (fun c => n8 c.1.symm)]; exact o7'
        have fw : FrM m [7] [sr sh m 8] V W := by
          rw [hW]
          refine FrM.trans (V' := uI V (sr sh m 8) (V m 7).toNat x) (FrO8 M (uI_fr (List.mem_cons_self))) (fldM 7 _)
        obtain ⟨V2, e2, f2, o2, s2⟩ := ih W (j + d) (P ++ [x]) (some (wI y)) (by omega) (by omega) (by omega) (by rw [List.length_append, List.length_singleton]; omega) (mSz_8 M fw S) (mK_8 M fw K) a1 a2 nb
        have ap : P ++ dec (gl (cutQ L p.toNat).1) t j = (P ++ [x]) ++ dec (gl (cutQ L p.toNat).1) t (j + d) := by rw [hdec, List.append_assoc, List.singleton_append]
        rw [ap]
        refine ⟨V2, ?_, fw.trans f2, o2, s2⟩
        rw [w199_94, e7, wr_eq (x := (P.length : Int) + 1) (by omega) (by omega), ← hW]
        rcases hd with hd | hd
        · rw [if_pos (hy.mp hd), wr_eq (by omega) (by omega), show zB (gl L) L.length p.toNat + j + 1 = zB (gl L) L.length p.toNat + (j + d) by omega, e2]
        · rw [if_neg (fun w => by have := hy.mpr w; omega), wr_eq (by omega) (by omega), show zB (gl L) L.length p.toNat + j + 3 = zB (gl L) L.length p.toNat + (j + d) by omega, e2]
      rw [w199_24, wr_eq (by omega) (by omega), if_neg (by omega), M130 S hi _ (by omega) (by omega), Lx, pc]
      simp only [wcx_v, wput_s, w199_41]
      by_cases c : pCd (gl (cutQ L p.toNat).1) j = -1
      · rw [if_pos c, if_pos rfl, M128 S hi, Lx, at_ j hj (by omega)]
        simp only [wcx_v, wput_s]
        exact step _ 1 0 (Or.inl rfl) ⟨fun _ => rfl, fun _ => rfl⟩ (st.1 c)
      · have c37 : gl (cutQ L p.toNat).1 j = 37 := by
          unfold pCd at c
          by_cases w : gl (cutQ L p.toNat).1 j = 37 ∧ 0 ≤ pHex (gl (cutQ L p.toNat).1 (j + 1)) ∧ 0 ≤ pHex (gl (cutQ L p.toNat).1 (j + 2))
          · exact w.1
          · rw [if_neg w] at c; exact absurd rfl c
        obtain ⟨-, c2, x1, x2⟩ := cdk_in hc c37
        have pv : pCd (gl (cutQ L p.toNat).1) j = 16 * pHex (gl (cutQ L p.toNat).1 (j + 1)) + pHex (gl (cutQ L p.toNat).1 (j + 2)) := by unfold pCd; rw [if_pos ⟨c37, x1, x2⟩]
        have hr1 := pHex_r (gl (cutQ L p.toNat).1 (j + 1))
        have hr2 := pHex_r (gl (cutQ L p.toNat).1 (j + 2))
        rw [if_neg c, if_neg (by decide), wr_eq (by omega) (by omega), show zB (gl L) L.length p.toNat + j + 1 = zB (gl L) L.length p.toNat + (j + 1) by omega, M128 S hi, Lx, at_ (j + 1) (by omega) (by omega)]
        simp only [wcx_v, wput_s, w199_67]
        rw [M125]
        simp only [wcx_v, wput_s, w199_70]
        rw [wr_eq (x := zB (gl L) L.length p.toNat + j + 2) (by omega) (by omega), show zB (gl L) L.length p.toNat + j + 2 = zB (gl L) L.length p.toNat + (j + 2) by omega, M128 S hi, Lx, at_ (j + 2) (by omega) (by omega)]
        simp only [wcx_v, wput_s, w199_80]
        rw [M125]
        simp only [wcx_v, wput_s, w199_83]
        rw [wr_eq (x := 16 * _) (by omega) (by omega), wr_eq (by omega) (by omega), ← pv]
        exact step _ 3 1 (Or.inr rfl) ⟨fun h => absurd h (by decide), fun h => absurd h (by decide)⟩ (st.2 c)
theorem M199 {sh : zSh} {m : Nat} {V : wSt} (M : wMd sh m) (S : mSz sh V m) {i p : Int} {L : List Int} (hL : L.length ≤ 400) (K : mK sh V m i L) (hi : 0 ≤ i ∧ i ≤ 13) (hp : 0 ≤ p ∧ p ≤ 6) (hc : cdk (cutQ L p.toNat).1) (f t : Int) (ht : 0 ≤ t ∧ t ≤ (cutQ L p.toNat).1.length) (hf : 0 ≤ f ∧ f ≤ 1000) (hb : (cutQ L p.toNat).2 ≠ 0) :
    ∃ V', wcl zP 199 [wR m, wI i, wI p, wI f, wI t] (sh, V) = rI ((dec (gl (cutQ L p.toNat).1) t f).length : Int) (sh, V') ∧ FrM m [7] [sr sh m 8] V V' ∧ ox sh V' m = dec (gl (cutQ L p.toNat).1) t f ∧ V' m 7 = ((dec (gl (cutQ L p.toNat).1) t f).length : Int) := by
  have cl := cutQ_le L p.toNat (by omega)
  have rg := zBE_rng (gl L) L.length (Int.natCast_nonneg _) p.toNat (by omega)
  have nb : zB (gl L) L.length p.toNat ≠ -1 := fun e => hb ((cutQ_l L p.toNat (by omega)).2.2.mpr e)
  have b := (K.2 p.toNat (by omega)).1
  unfold mB at b
  have fw : FrM m [7] [sr sh m 8] V (uI V m 7 0) := fldM 7 _
  have o0 : ox sh (uI V m 7 0) m = [] := ox_ext (by unfold uI; rw [if_pos ⟨rfl, rfl⟩]; rfl) (fun k hk => absurd hk (Nat.not_lt_zero k))
  obtain ⟨V2, e2, f2, o2, s2⟩ := M199_24 M hL hi hp hc f t ht _ (uI V m 7 0) f [] none (Nat.le_refl _) hf.1 (by omega) (by simp only [List.length_nil]; omega) (mSz_8 M fw S) (mK_8 M fw K) o0 (by unfold uI; rw [if_pos ⟨rfl, rfl⟩]; rfl) nb
  rw [List.nil_append] at e2 o2 s2
  refine ⟨V2, ?_, fw.trans f2, o2, s2⟩
  rw [w199_0, ix7 hi hp, b, wr_eq (x := zB (gl L) L.length p.toNat + f) (by omega) (by omega), e2]
