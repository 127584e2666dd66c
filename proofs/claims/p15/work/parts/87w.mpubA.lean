set_option maxRecDepth 16384
/-! the model's methods: fault, write, part, port, host -/
/-- what the model has put out -/
def ox (sh : zSh) (V : wSt) (m : Nat) : List Int := (List.range (V m 7).toNat).map (fun k => V (sr sh m 8) k)
theorem ox_ext {sh : zSh} {V : wSt} {m : Nat} {L : List Int} (h : V m 7 = (L.length : Int)) (g : ∀ k : Nat, k < L.length → V (sr sh m 8) k = gl L k) : ox sh V m = L := by
  refine List.ext_getElem? (fun k => ?_)
  unfold ox
  rw [List.getElem?_map]
  by_cases c : k < L.length
  · have e := g k c
    rw [gl_in (by omega) (by omega), Int.toNat_natCast, List.getD_eq_getElem?_getD, List.getElem?_eq_getElem c] at e
    rw [List.getElem?_range (by omega), List.getElem?_eq_getElem c]
    exact congrArg some e
  · rw [List.getElem?_eq_none (by rw [List.length_range]; omega), List.getElem?_eq_none (by omega)]; rfl
theorem fld {sh : zSh} {V : wSt} {m : Nat} (M : wMd sh m) (k : Nat) (x : Int) : (∀ b, b ≠ m → uI V m k x b = V b) ∧ (∀ j, j ≠ k → uI V m k x m j = V m j) ∧ uI V m k x m k = x :=
  ⟨fun b hb => by funext j; unfold uI; rw [if_neg (fun c => hb c.1)], fun j hj => by unfold uI; rw [if_neg (fun c => hj c.2)], by unfold uI; rw [if_pos ⟨rfl, rfl⟩]⟩
theorem mSz_fld {sh : zSh} {V V' : wSt} {m : Nat} (M : wMd sh m) (S : mSz sh V m) (h : ∀ b, b ≠ m → V' b = V b) : mSz sh V' m := by
  unfold mSz at *
  rw [h _ (M.m (j := 2) (by decide))]; exact S
theorem mx_fld {sh : zSh} {V V' : wSt} {m : Nat} (M : wMd sh m) (r : Int) (h : ∀ b, b ≠ m → V' b = V b) : mx sh V' m r = mx sh V m r := by
  unfold mx; rw [h _ (M.m (j := 1) (by decide)), h _ (M.m (j := 2) (by decide))]
theorem M166 {sh : zSh} {V : wSt} {m : Nat} (M : wMd sh m) (i : Int) : wcl zP 166 [wR m, wI i] (sh, V) = rI (if i = 0 then V m 5 else V m 6) (sh, uI V m 0 0) := by
  have f := fld (V := V) M 0 0
  rw [w166_0, f.2.1 5 (by decide), f.2.1 6 (by decide)]
  by_cases c : i = 0
  · rw [if_pos c, if_pos c]
  · rw [if_neg c, if_neg c]
theorem M167_37 {sh : zSh} {m : Nat} (M : wMd sh m) {i : Int} (hi : 0 ≤ i ∧ i ≤ 13) (L : List Int) (hL : L.length ≤ 21000) : ∀ (n : Nat) (V : wSt) (j : Int), ((L.length : Int) - j).toNat = n → 0 ≤ j → mSz sh V m → mx sh V m i = L → V m 7 = (L.length : Int) → (∀ k : Nat, (k : Int) < j → k < L.length → V (sr sh m 8) k = gl L k) → ∃ V', wev zP 167 37 [some (wR m), some (wI i), some (wI j)] [] (sh, V) = rI (L.length : Int) (sh, V') ∧ FrO [sr sh m 8] V V' ∧ ∀ k : Nat, k < L.length → V' (sr sh m 8) k = gl L k := by
  intro n
  induction n with
  | zero =>
    intro V j hn hj S hx h7 hk
    refine ⟨V, ?_, FrO.refl, fun k hk2 => hk k (by omega) hk2⟩
    rw [w167_37, h7, if_pos (by omega)]
  | succ n ih =>
    intro V j hn hj S hx h7 hk
    have n8 := M.m (j := 8) (by decide)
    obtain ⟨W, hW⟩ : ∃ W, W = uI V (sr sh m 8) (Int.toNat j) (gl L j) := ⟨_, rfl⟩
    have f : FrO [sr sh m 8] V W := by rw [hW]; exact uI_fr (List.mem_cons_self)
    have o : ∀ b, b ≠ sr sh m 8 → W b = V b := fun b hb => f b (fun w => hb (List.mem_singleton.mp w))
    have w1 : W (sr sh m 1) = V (sr sh m 1) := o _ (M.n (by decide) (by decide) (by decide))
    have w2 : W (sr sh m 2) = V (sr sh m 2) := o _ (M.n (by decide) (by decide) (by decide))
    obtain ⟨V2, e2, f2, k2⟩ := ih W (j + 1) (by omega) (by omega) (fun s hs => by rw [w2]; exact S s hs) (by rw [← hx]; unfold mx; rw [w1, w2]) (by rw [o m (fun e => n8 e.symm)]; exact h7) (fun k h1 h2 => by
      rw [hW]; unfold uI
      by_cases c : k = j.toNat
      · rw [if_pos ⟨rfl, c⟩, show j = (k : Int) by omega]
      · rw [if_neg (fun w => c w.2)]; exact hk k (by omega) h2)
    refine ⟨V2, ?_, f.trans f2, k2⟩
    rw [w167_37, h7, if_neg (by omega), M128 S hi, hx]
    simp only [wcx_v, wput_s, w167_56]
    rw [← hW, wr_eq (by omega) (by omega), e2]
theorem M167 {sh : zSh} {V : wSt} {m : Nat} (M : wMd sh m) (S : mSz sh V m) (i : Int) : (¬ (0 ≤ i ∧ i < 8) → wcl zP 167 [wR m, wI i] (sh, V) = rI 0 (sh, uI V m 0 1)) ∧
    (0 ≤ i ∧ i < 8 → ∃ V', wcl zP 167 [wR m, wI i] (sh, V) = rI ((mx sh V m i).length : Int) (sh, V') ∧ FrM m [0, 7] [sr sh m 8] V V' ∧ V' m 0 = 0 ∧ ox sh V' m = mx sh V m i) := by
  have n8 := M.m (j := 8) (by decide)
  refine ⟨fun hi => ?_, fun hi => ?_⟩
  · rw [w167_0, M127, if_neg (by omega)]
    simp only [wcx_v, wput_s, w167_5]
    rw [if_pos trivial, (fld (V := V) M 0 1).2.2, if_neg (by decide)]
  · have f0 := fld (V := V) M 0 0
    have sz := mx_sz (sh := sh) (V := V) (m := m) (r := i) (S i.toNat (by omega)).1
    have S2 := S i.toNat (by omega)
    obtain ⟨W, hW⟩ : ∃ W, W = uI (uI V m 0 0) m 7 (uI V m 0 0 (sr sh m 2) (Int.toNat i)) := ⟨_, rfl⟩
    have f7 := fld (V := uI V m 0 0) M 7 (uI V m 0 0 (sr sh m 2) (Int.toNat i))
    rw [← hW] at f7
    have oW : ∀ b, b ≠ m → W b = V b := fun b hb => (f7.1 b hb).trans (f0.1 b hb)
    have w7 : W m 7 = ((mx sh V m i).length : Int) := by rw [f7.2.2, f0.1 _ (M.m (j := 2) (by decide)), sz]
    obtain ⟨V2, e2, f2, k2⟩ := M167_37 M (i := i) (by omega) (mx sh V m i) (by omega) _ W 0 rfl (by decide) (mSz_fld M S oW) (mx_fld M i oW) w7 (fun k h _ => by omega)
    have o2 : V2 m = W m := f2 m (fun w => n8 (List.mem_singleton.mp w).symm)
    refine ⟨V2, ?_, ⟨fun b hb ho => ?_, fun j hj => ?_⟩, ?_, ox_ext (by rw [o2]; exact w7) k2⟩
    · rw [w167_0, M127, if_pos (by omega)]
      simp only [wcx_v, wput_s, w167_5]
      rw [if_neg (by decide), f0.2.2, if_pos (by decide), ← hW, e2]
    · rw [f2 b (fun w => ho w), oW b hb]
    · rw [o2, f7.2.1 j (fun e => hj (by rw [e]; decide)), f0.2.1 j (fun e => hj (by rw [e]; decide))]
    · rw [o2, f7.2.1 0 (by decide), f0.2.2]
/-- marks of a row leave what is read of texts -/
theorem FrB.mx {sh : zSh} {V V' : wSt} {m : Nat} {r : Int} (f : FrB sh m r V V') (M : wMd sh m) (s : Int) : Jvm.Pilot.CLinkLibraryLaw_law_r7063_89e837.mx sh V' m s = Jvm.Pilot.CLinkLibraryLaw_law_r7063_89e837.mx sh V m s := by
  obtain ⟨a1, a2⟩ := f.rows M
  unfold Jvm.Pilot.CLinkLibraryLaw_law_r7063_89e837.mx; rw [a1, a2]
theorem FrB.sz {sh : zSh} {V V' : wSt} {m : Nat} {r : Int} (f : FrB sh m r V V') (M : wMd sh m) (S : mSz sh V m) : mSz sh V' m := by
  obtain ⟨-, a2⟩ := f.rows M
  unfold mSz at *; rw [a2]; exact S
theorem FrB.fm {sh : zSh} {V V' : wSt} {m : Nat} {r : Int} (f : FrB sh m r V V') (M : wMd sh m) : V' m = V m := f.1 m (fun w => by
  simp only [List.mem_cons, List.not_mem_nil, or_false] at w
  rcases w with w | w
  · exact M.m (j := 3) (by decide) w.symm
  · exact M.m (j := 4) (by decide) w.symm)
theorem M168_69 {sh : zSh} {m : Nat} (M : wMd sh m) {i p : Int} (hi : 0 ≤ i ∧ i ≤ 13) (hp : 0 ≤ p ∧ p ≤ 6) (L : List Int) (hL : L.length ≤ 21000) (n7 : Int) (h7 : n7 = (cutQ L p.toNat).1.length) : ∀ (n : Nat) (V : wSt) (j : Int), (n7 - j).toNat = n → 0 ≤ j → mSz sh V m → mK sh V m i L → V m 7 = n7 → (∀ k : Nat, (k : Int) < j → (k : Int) < n7 → V (sr sh m 8) k = gl (cutQ L p.toNat).1 k) → ∃ V', wev zP 168 69 [some (wR m), some (wI i), some (wI p), some (wI j)] [] (sh, V) = rI (if (cutQ L p.toNat).2 = 0 then -1 else n7) (sh, V') ∧ FrO [sr sh m 8] V V' ∧ ∀ k : Nat, (k : Int) < n7 → V' (sr sh m 8) k = gl (cutQ L p.toNat).1 k := by
  have cl := cutQ_le L p.toNat (by omega)
  intro n
  induction n with
  | zero =>
    intro V j hn hj S K h7' hk
    refine ⟨V, ?_, FrO.refl, fun k hk2 => hk k (by omega) hk2⟩
    rw [w168_69, h7', if_pos (by omega), M134q K hi hp]
    simp only [wcx_v, wput_s, w168_102]
    rw [h7']
    split <;> rfl
  | succ n ih =>
    intro V j hn hj S K h7' hk
    have n8 := M.m (j := 8) (by decide)
    obtain ⟨W, hW⟩ : ∃ W, W = uI V (sr sh m 8) (Int.toNat j) (gl (cutQ L p.toNat).1 j) := ⟨_, rfl⟩
    have f : FrO [sr sh m 8] V W := by rw [hW]; exact uI_fr (List.mem_cons_self)
    have o : ∀ b, b ≠ sr sh m 8 → W b = V b := fun b hb => f b (fun w => hb (List.mem_singleton.mp w))
    have w1 : W (sr sh m 1) = V (sr sh m 1) := o _ (M.n (by decide) (by decide) (by decide))
    have w2 : W (sr sh m 2) = V (sr sh m 2) := o _ (M.n (by decide) (by decide) (by decide))
    have w3 : W (sr sh m 3) = V (sr sh m 3) := o _ (M.n (by decide) (by decide) (by decide))
    have w4 : W (sr sh m 4) = V (sr sh m 4) := o _ (M.n (by decide) (by decide) (by decide))
    obtain ⟨V2, e2, f2, k2⟩ := ih W (j + 1) (by omega) (by omega) (fun s hs => by rw [w2]; exact S s hs) (by unfold mK mx mB mE at *; rw [w1, w2, w3, w4]; exact K) (by rw [o m (fun e => n8 e.symm)]; exact h7') (fun k h1 h2 => by
      rw [hW]; unfold uI
      by_cases c : k = j.toNat
      · rw [if_pos ⟨rfl, c⟩, show j = (k : Int) by omega]
      · rw [if_neg (fun w => c w.2)]; exact hk k (by omega) h2)
    refine ⟨V2, ?_, f.trans f2, k2⟩
    rw [w168_69, h7', if_neg (by omega), M136q S K hL hi hp j (by omega)]
    simp only [wcx_v, wput_s, w168_89]
    rw [← hW, wr_eq (by omega) (by omega), e2]
theorem M173_40 {sh : zSh} {V : wSt} {m : Nat} (S : mSz sh V m) {a b p : Int} (ha : 0 ≤ a ∧ a ≤ 13) (hb : 0 ≤ b ∧ b ≤ 13) (hp : 0 ≤ p ∧ p ≤ 6) {L N : List Int} (hL : L.length ≤ 21000) (hN : N.length ≤ 21000) (KL : mK sh V m a L) (KN : mK sh V m b N) (hlen : (cutQ L p.toNat).1.length = (cutQ N p.toNat).1.length) : ∀ (n : Nat) (j : Int), (((cutQ L p.toNat).1.length : Int) - j).toNat = n → 0 ≤ j → wev zP 173 40 [some (wR m), some (wI a), some (wI b), some (wI p), some (wI 1), some (wI j)] [] (sh, V) = rI (bI ((cutQ L p.toNat).1.drop j.toNat = (cutQ N p.toNat).1.drop j.toNat)) (sh, V) := by
  have cl := cutQ_le L p.toNat (by omega)
  intro n
  induction n with
  | zero =>
    intro j hn hj
    rw [w173_40, M135q KL hL ha hp]
    simp only [wcx_v, wput_s, w173_48]
    rw [if_pos (by omega), bI_1 (by rw [List.drop_of_length_le (by omega), List.drop_of_length_le (by omega)])]
  | succ n ih =>
    intro j hn hj
    rw [w173_40, M135q KL hL ha hp]
    simp only [wcx_v, wput_s, w173_48]
    rw [if_neg (by omega), if_neg (by decide), M136q S KL hL ha hp j (by omega)]
    simp only [wcx_v, wput_s, w173_64]
    rw [M136q S KN hN hb hp j (by omega)]
    simp only [wcx_v, wput_s, w173_72]
    rw [drop_gl (L := (cutQ L p.toNat).1) hj (by omega), drop_gl (L := (cutQ N p.toNat).1) hj (by omega), wr_eq (by omega) (by omega)]
    by_cases c : gl (cutQ L p.toNat).1 j = gl (cutQ N p.toNat).1 j
    · rw [if_pos c, ih _ (by omega) (by omega)]
      refine rI_cg ?_
      rw [c]
      by_cases d : (cutQ L p.toNat).1.drop (j + 1).toNat = (cutQ N p.toNat).1.drop (j + 1).toNat
      · rw [bI_1 d, bI_1 (by rw [d])]
      · rw [bI_0 d, bI_0 (fun w => d (List.cons.inj w).2)]
    · rw [if_neg c, bI_0 (fun w => c (List.cons.inj w).1), w173_40, M135q KL hL ha hp]
      simp only [wcx_v, wput_s, w173_48]
      rw [if_pos trivial]
      split <;> rfl
theorem M173q {sh : zSh} {V : wSt} {m : Nat} (S : mSz sh V m) {a b p : Int} (ha : 0 ≤ a ∧ a ≤ 13) (hb : 0 ≤ b ∧ b ≤ 13) (hp : 0 ≤ p ∧ p ≤ 6) {L N : List Int} (hL : L.length ≤ 21000) (hN : N.length ≤ 21000) (KL : mK sh V m a L) (KN : mK sh V m b N) : wcl zP 173 [wR m, wI a, wI b, wI p] (sh, V) = rI (bI (cutQ L p.toNat = cutQ N p.toNat)) (sh, V) := by
  have stop : wev zP 173 40 [some (wR m), some (wI a), some (wI b), some (wI p), some (wI 0), some (wI 0)] [] (sh, V) = rI 0 (sh, V) := by
    rw [w173_40, M135q KL hL ha hp]
    simp only [wcx_v, wput_s, w173_48]
    rw [if_pos trivial]
    split <;> rfl
  rw [w173_0, M134q KL ha hp]
  simp only [wcx_v, wput_s, w173_6]
  rw [M134q KN hb hp]
  simp only [wcx_v, wput_s, w173_12]
  by_cases c : (cutQ L p.toNat).2 = (cutQ N p.toNat).2
  · rw [if_pos c, M135q KL hL ha hp]
    simp only [wcx_v, wput_s, w173_21]
    rw [M135q KN hN hb hp]
    simp only [wcx_v, wput_s, w173_27]
    by_cases d : ((cutQ L p.toNat).1.length : Int) = (cutQ N p.toNat).1.length
    · rw [if_pos d, M173_40 S ha hb hp hL hN KL KN (by omega) _ 0 rfl (by decide)]
      refine rI_cg ?_
      rw [show (0 : Int).toNat = 0 from rfl, List.drop_zero, List.drop_zero]
      by_cases w : (cutQ L p.toNat).1 = (cutQ N p.toNat).1
      · rw [bI_1 w, bI_1 (Prod.ext w c)]
      · rw [bI_0 w, bI_0 (fun z => w (congrArg Prod.fst z))]
    · rw [if_neg d, stop, bI_0 (fun z => d (by rw [z]))]
  · rw [if_neg c, stop, bI_0 (fun z => c (by rw [z]))]
