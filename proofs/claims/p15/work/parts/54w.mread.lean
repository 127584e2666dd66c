set_option maxRecDepth 16384
/-! the model reads, and is fed -/
/-- what copyRow does to the cells -/
theorem M131_14 {sh : zSh} {m : Nat} (M : wMd sh m) {a b : Int} (ha : 0 ≤ a ∧ a ≤ 13) (hb : 0 ≤ b ∧ b ≤ 13) (hab : a ≠ b) (n : Int) (hn : 0 ≤ n ∧ n ≤ 1500) : ∀ (q : Nat) (V : wSt) (k : Int), (n - k).toNat = q → 0 ≤ k → V (sr sh m 2) a.toNat = n → ∃ V', wev zP 131 14 [some (wR m), some (wI a), some (wI b), some (wI k)] [] (sh, V) = rN (sh, V') ∧ FrO [sr sh m 1] V V' ∧ ∀ j : Nat, V' (sr sh m 1) j = if 1500 * b.toNat + k.toNat ≤ j ∧ j < 1500 * b.toNat + n.toNat then V (sr sh m 1) (1500 * a.toNat + (j - 1500 * b.toNat)) else V (sr sh m 1) j := by
  have n12 : sr sh m 2 ≠ sr sh m 1 := M.n (by decide) (by decide) (by decide)
  intro q
  induction q with
  | zero =>
    intro V k hq hk hs
    rw [w131_14, hs, if_pos (by omega)]
    exact ⟨V, rfl, FrO.refl, fun j => by rw [if_neg (by omega)]⟩
  | succ q ih =>
    intro V k hq hk hs
    rw [w131_14, hs, if_neg (by omega), wr_eq (x := 1500 * a) (by omega) (by omega), wr_eq (x := 1500 * b) (by omega) (by omega), wr_eq (x := 1500 * a + k) (by omega) (by omega), wr_eq (x := 1500 * b + k) (by omega) (by omega), w131_47, wr_eq (x := k + 1) (by omega) (by omega)]
    obtain ⟨W, hW⟩ : ∃ W, W = uI V (sr sh m 1) (Int.toNat (1500 * b + k)) (V (sr sh m 1) (Int.toNat (1500 * a + k))) := ⟨_, rfl⟩
    have w1 : ∀ j, W (sr sh m 1) j = if j = 1500 * b.toNat + k.toNat then V (sr sh m 1) (1500 * a.toNat + k.toNat) else V (sr sh m 1) j := fun j => by
      rw [hW]; unfold uI
      by_cases c : j = 1500 * b.toNat + k.toNat
      · rw [if_pos ⟨rfl, by omega⟩, if_pos c, show Int.toNat (1500 * a + k) = 1500 * a.toNat + k.toNat by omega]
      · rw [if_neg (fun w => c (by have := w.2; omega)), if_neg c]
    have w2 : W (sr sh m 2) = V (sr sh m 2) := by rw [hW]; funext j; unfold uI; rw [if_neg (fun w => n12 w.1)]
    rw [← hW]
    obtain ⟨V', e1, f1, v1⟩ := ih W (k + 1) (by omega) (by omega) (by rw [w2]; exact hs)
    refine ⟨V', e1, FrO.trans (by rw [hW]; exact uI_fr (List.mem_cons_self)) f1, fun j => ?_⟩
    rw [v1, w1, w1]
    by_cases c : 1500 * b.toNat + (k + 1).toNat ≤ j ∧ j < 1500 * b.toNat + n.toNat
    · rw [if_pos c, if_neg (by omega), if_pos (by omega)]
    · rw [if_neg c]
      by_cases d : j = 1500 * b.toNat + k.toNat
      · rw [if_pos d, if_pos (by omega), show 1500 * a.toNat + (j - 1500 * b.toNat) = 1500 * a.toNat + k.toNat by omega]
      · rw [if_neg d, if_neg (by omega)]
theorem M131 {sh : zSh} {V : wSt} {m : Nat} (M : wMd sh m) {a b : Int} (ha : 0 ≤ a ∧ a ≤ 13) (hb : 0 ≤ b ∧ b ≤ 13) (hab : a ≠ b) (hn : 0 ≤ V (sr sh m 2) a.toNat ∧ V (sr sh m 2) a.toNat ≤ 1500) : ∃ V', wcl zP 131 [wR m, wI a, wI b] (sh, V) = rN (sh, V') ∧ FrO [sr sh m 1, sr sh m 2] V V' ∧ (∀ j : Nat, V' (sr sh m 2) j = if j = b.toNat then V (sr sh m 2) a.toNat else V (sr sh m 2) j) ∧ ∀ j : Nat, V' (sr sh m 1) j = if 1500 * b.toNat ≤ j ∧ j < 1500 * b.toNat + (V (sr sh m 2) a.toNat).toNat then V (sr sh m 1) (1500 * a.toNat + (j - 1500 * b.toNat)) else V (sr sh m 1) j := by
  have n12 : sr sh m 1 ≠ sr sh m 2 := M.n (by decide) (by decide) (by decide)
  obtain ⟨W, hW⟩ : ∃ W, W = uI V (sr sh m 2) (Int.toNat b) (V (sr sh m 2) (Int.toNat a)) := ⟨_, rfl⟩
  have w2 : ∀ j, W (sr sh m 2) j = if j = b.toNat then V (sr sh m 2) a.toNat else V (sr sh m 2) j := fun j => by
    rw [hW]; unfold uI
    by_cases c : j = b.toNat
    · rw [if_pos ⟨rfl, c⟩, if_pos c]
    · rw [if_neg (fun w => c w.2), if_neg c]
  have w1 : W (sr sh m 1) = V (sr sh m 1) := by rw [hW]; funext j; unfold uI; rw [if_neg (fun w => n12 w.1)]
  have fr : FrO [sr sh m 1, sr sh m 2] V W := by rw [hW]; exact uI_fr (List.mem_cons_of_mem _ (List.mem_cons_self))
  rw [w131_0, w131_11, ← hW]
  obtain ⟨V', e1, f1, v1⟩ := M131_14 M ha hb hab (V (sr sh m 2) a.toNat) hn _ W 0 rfl (Int.le_refl 0) (by rw [w2, if_neg (by omega)])
  refine ⟨V', e1, fr.trans (f1.mono (fun x hx => by rw [List.mem_singleton.mp hx]; exact List.mem_cons_self)), fun j => ?_, fun j => ?_⟩
  · rw [f1 _ (fun w => n12 (List.mem_singleton.mp w).symm)]; exact w2 j
  · rw [v1, w1]
    by_cases c : 1500 * b.toNat + (0 : Int).toNat ≤ j ∧ j < 1500 * b.toNat + (V (sr sh m 2) a.toNat).toNat
    · rw [if_pos c, if_pos (by have := c.1; omega)]
    · rw [if_neg c, if_neg (by omega)]
theorem mx_ext {sh : zSh} {V : wSt} {m : Nat} {r : Int} {L : List Int} (h : V (sr sh m 2) r.toNat = (L.length : Int)) (g : ∀ k : Nat, k < L.length → L[k]? = some (V (sr sh m 1) (1500 * r.toNat + k))) : mx sh V m r = L := by
  refine List.ext_getElem? (fun k => ?_)
  rw [mx_g]
  by_cases c : k < L.length
  · rw [if_pos (by omega), g k c]
  · rw [if_neg (by omega), List.getElem?_eq_none (by omega)]
/-- a row whose cells and size stay is the same -/
theorem mx_same {sh : zSh} {V V' : wSt} {m : Nat} {r : Int} (h : V' (sr sh m 2) r.toNat = V (sr sh m 2) r.toNat) (g : ∀ k : Nat, (k : Int) < V (sr sh m 2) r.toNat → V' (sr sh m 1) (1500 * r.toNat + k) = V (sr sh m 1) (1500 * r.toNat + k)) : mx sh V' m r = mx sh V m r := by
  refine List.ext_getElem? (fun k => ?_)
  rw [mx_g, mx_g, h]
  by_cases c : k < (V (sr sh m 2) r.toNat).toNat
  · rw [if_pos c, if_pos c, g k (by omega)]
  · rw [if_neg c, if_neg c]
/-- what a call of read leaves, of the model -/
theorem M165 {sh : zSh} {V : wSt} {m : Nat} (M : wMd sh m) (S : mSz sh V m) (S13 : V (sr sh m 2) 13 ≤ 400) (i : Int) (T : List Int) (hT : mx sh V m 13 = T) :
    ∃ y V', wcl zP 165 [wR m, wI i] (sh, V) = rI y (sh, V') ∧ FrM m [0, 5, 6, 15, 16] [sr sh m 1, sr sh m 2, sr sh m 3, sr sh m 4, sr sh m 14] V V' ∧ V' (sr sh m 2) 13 = 0 ∧ (∀ r : Int, 0 ≤ r ∧ r ≤ 7 → r ≠ i → V (sr sh m 2) r.toNat ≤ 1500 → mx sh V' m r = mx sh V m r) ∧
      ((¬ (0 ≤ i ∧ i ≤ 7) ∧ V' m 0 = 1) ∨
       ((0 ≤ i ∧ i ≤ 7) ∧ ¬ aOk (gl T) (T.length : Int) (zB (gl T) (T.length : Int)) (zE (gl T) (T.length : Int)) ∧ V' m 0 = 2 ∧ (V (sr sh m 2) i.toNat ≤ 1500 → mx sh V' m i = mx sh V m i)) ∨
       ((0 ≤ i ∧ i ≤ 7) ∧ aOk (gl T) (T.length : Int) (zB (gl T) (T.length : Int)) (zE (gl T) (T.length : Int)) ∧ V' m 0 = 0 ∧ y = (T.length : Int) ∧ mx sh V' m i = T)) := by
  have z13 := S 13 (by decide)
  have hn : (T.length : Int) = V (sr sh m 2) 13 := by rw [← hT]; exact mx_sz z13.1
  have n2 : sr sh m 2 ≠ m := M.1 2 (by decide)
  have n12 : sr sh m 1 ≠ sr sh m 2 := M.n (by decide) (by decide) (by decide)
  have f0 : ∀ (X : wSt) (x : Int), FrM m [0, 5, 6, 15, 16] [sr sh m 1, sr sh m 2, sr sh m 3, sr sh m 4, sr sh m 14] X (uI X m 0 x) := fun X x => FrM_f (by decide)
  have u0 : ∀ (X : wSt) (x : Int), uI X m 0 x m 0 = x := fun X x => by unfold uI; rw [if_pos ⟨rfl, rfl⟩]
  have ua : ∀ (X : wSt) (x : Int) (j : Nat), j ∈ zARw → uI X m 0 x (sr sh m j) = X (sr sh m j) := fun X x j hj => by funext q; unfold uI; rw [if_neg (fun w => M.1 j hj w.1)]
  -- the end: the tape is empty
  have fin : ∀ X : wSt, FrM m [0, 5, 6, 15, 16] [sr sh m 1, sr sh m 2, sr sh m 3, sr sh m 4, sr sh m 14] V X → ∃ V', wev zP 165 55 [some (wR m), some (wI i)] [] (sh, X) = rI (if X m 0 ≤ 0 then V' (sr sh m 2) i.toNat else 0) (sh, V') ∧ FrM m [0, 5, 6, 15, 16] [sr sh m 1, sr sh m 2, sr sh m 3, sr sh m 4, sr sh m 14] V V' ∧ V' (sr sh m 2) 13 = 0 ∧ V' m 0 = X m 0 ∧ ∀ r : Int, 0 ≤ r ∧ r ≤ 7 → mx sh V' m r = mx sh X m r ∧ V' (sr sh m 2) r.toNat = X (sr sh m 2) r.toNat := by
    intro X fx
    obtain ⟨W, hW⟩ : ∃ W, W = uI X (sr sh m 2) (Int.toNat 13) 0 := ⟨_, rfl⟩
    have w0 : W m 0 = X m 0 := by rw [hW]; unfold uI; rw [if_neg (fun w => n2 w.1.symm)]
    have w2 : ∀ j, W (sr sh m 2) j = if j = 13 then 0 else X (sr sh m 2) j := fun j => by
      rw [hW]; unfold uI
      by_cases c : j = 13
      · rw [if_pos ⟨rfl, c⟩, if_pos c]
      · rw [if_neg (fun w => c w.2), if_neg c]
    have w1 : W (sr sh m 1) = X (sr sh m 1) := by rw [hW]; funext j; unfold uI; rw [if_neg (fun w => n12 w.1)]
    have fw : FrM m [0, 5, 6, 15, 16] [sr sh m 1, sr sh m 2, sr sh m 3, sr sh m 4, sr sh m 14] X W := by rw [hW]; exact FrM_a (by simp) n2
    rw [w165_55, ← hW, w0]
    refine ⟨W, ?_, fx.trans fw, by rw [w2, if_pos rfl], w0, fun r hr => ⟨mx_same (by rw [w2, if_neg (by omega)]) (fun k _ => by rw [w1]), by rw [w2, if_neg (by omega)]⟩⟩
    rw [ite_rI]
  rw [w165_0, M127]
  simp only [wcx_v, wput_s, w165_5]
  by_cases ci : 0 ≤ i ∧ i ≤ 7
  rotate_left
  · rw [if_neg ci, if_pos rfl, u0, if_neg (by decide), if_neg (by decide)]
    obtain ⟨V', e1, f1, s1, c1, k1⟩ := fin (uI V m 0 1) (f0 V 1)
    rw [u0] at c1
    refine ⟨_, V', e1, f1, s1, fun r hr _ _ => ?_, Or.inl ⟨ci, c1⟩⟩
    rw [(k1 r hr).1, mx_cg (ua V 1 1 (by decide)) (ua V 1 2 (by decide))]
  rw [if_pos ci, if_neg (by decide), u0, if_pos rfl]
  have S0 : mSz sh (uI V m 0 0) m := mSz_cg (ua V 0 2 (by decide)) S
  have t0 : mx sh (uI V m 0 0) m 13 = T := (mx_cg (ua V 0 1 (by decide)) (ua V 0 2 (by decide)) 13).trans hT
  obtain ⟨W, e1, f1, -, -⟩ := M151 M S0 (r := 13) (by decide)
  rw [t0, show (13 : Int).toNat = 13 from rfl, ua V 0 2 (by decide), ← hn] at e1
  rw [e1]
  simp only [wcx_v, wput_s, w165_30]
  have fw : FrM m [0, 5, 6, 15, 16] [sr sh m 1, sr sh m 2, sr sh m 3, sr sh m 4, sr sh m 14] V W := (f0 V 0).trans (f1.mono (fun j hj => List.mem_cons_of_mem _ hj) (fun j hj => List.mem_cons_of_mem _ (List.mem_cons_of_mem _ hj)))
  have kw : ∀ j, j = 1 ∨ j = 2 → W (sr sh m j) = V (sr sh m j) := fun j hj => by
    have hj2 : j ∈ zARw := by rcases hj with h | h <;> rw [h] <;> decide
    rw [f1.1 _ (M.1 j hj2) (fun w => by
      simp only [List.mem_cons, List.not_mem_nil, or_false] at w
      rcases w with w | w | w
      · exact M.n hj2 (by decide) (by omega) w
      · exact M.n hj2 (by decide) (by omega) w
      · exact M.n hj2 (by decide) (by omega) w)]
    exact ua V 0 j hj2
  rcases bI_r (aOk (gl T) (T.length : Int) (zB (gl T) (T.length : Int)) (zE (gl T) (T.length : Int))) with h | h
  · rw [h, if_pos rfl, u0, if_neg (by decide)]
    obtain ⟨V', e2, f2, s2, c2, k2⟩ := fin (uI W m 0 2) (fw.trans (f0 W 2))
    rw [u0] at c2
    have same : ∀ r : Int, 0 ≤ r ∧ r ≤ 7 → mx sh V' m r = mx sh V m r := fun r hr => by
      rw [(k2 r hr).1, mx_cg ((ua W 2 1 (by decide)).trans (kw 1 (Or.inl rfl))) ((ua W 2 2 (by decide)).trans (kw 2 (Or.inr rfl)))]
    exact ⟨_, V', e2, f2, s2, fun r hr _ _ => same r hr, Or.inr (Or.inl ⟨ci, bI_n.mp h, c2, fun _ => same i ci⟩)⟩
  · rw [h, if_neg (by decide), u0, if_pos rfl]
    have q1 := (ua W 0 1 (by decide)).trans (kw 1 (Or.inl rfl))
    have q2 := (ua W 0 2 (by decide)).trans (kw 2 (Or.inr rfl))
    obtain ⟨X, e3, f3, s3, r3⟩ := M131 (V := uI W m 0 0) M (a := 13) (b := i) (by decide) (by omega) (by omega) (by rw [q2]; show _ ∧ V (sr sh m 2) 13 ≤ 1500; exact ⟨z13.1, by omega⟩)
    rw [e3]
    simp only [wcx_v, wput_n]
    have x0 : X m 0 = 0 := by
      rw [f3 m (fun w => by
        simp only [List.mem_cons, List.not_mem_nil, or_false] at w
        rcases w with w | w
        · exact M.1 1 (by decide) w.symm
        · exact M.1 2 (by decide) w.symm), u0]
    have fx : FrM m [0, 5, 6, 15, 16] [sr sh m 1, sr sh m 2, sr sh m 3, sr sh m 4, sr sh m 14] (uI W m 0 0) X := by
      refine ⟨fun b hb ho => f3 b (fun w => ho (by simp only [List.mem_cons, List.not_mem_nil, or_false] at w ⊢; omega)), fun j hj => ?_⟩
      rw [f3 m (fun w => by
        simp only [List.mem_cons, List.not_mem_nil, or_false] at w
        rcases w with w | w
        · exact M.1 1 (by decide) w.symm
        · exact M.1 2 (by decide) w.symm)]
    obtain ⟨V', e4, f4, s4, c4, k4⟩ := fin X ((fw.trans (f0 W 0)).trans fx)
    rw [x0] at c4
    rw [q2, q1] at r3
    rw [q2] at s3
    have xi : mx sh X m i = T := by
      rw [← hT]
      refine mx_ext ?_ (fun k hk => ?_)
      · rw [s3, if_pos rfl, mx_sz z13.1]
      · rw [mx_len] at hk
        rw [mx_g, if_pos hk, r3, if_pos ⟨by omega, by omega⟩, show 1500 * i.toNat + k - 1500 * i.toNat = k by omega]
    refine ⟨_, V', e4, f4, s4, fun r hr hri hsz => ?_, Or.inr (Or.inr ⟨ci, bI_i.mp h, c4, ?_, (k4 i ci).1.trans xi⟩)⟩
    · rw [(k4 r hr).1]
      refine mx_same ?_ (fun k hk => ?_)
      · rw [s3, if_neg (by omega)]
      · rw [r3, if_neg (by show ¬ (_ ∧ _ < _ + (V (sr sh m 2) 13).toNat); omega)]
    · rw [x0, if_pos (Int.le_refl 0), (k4 i ci).2, s3, if_pos rfl]; exact hn.symm
/-! bytes that are fed -/
/-- the k-th byte, as the model takes it -/
def fdb (l : Int64) (k : Int) : Int := (Int64.toInt32 ((l >>> (Int32.toInt64 (oI (wr (8 * k))) &&& 63)) &&& 255)).toInt
theorem fdb_bits (l : BitVec 64) (s : Nat) (hs : s ≤ 56) : (BitVec.signExtend 32 (l >>> s)) &&& 255#32 = BitVec.signExtend 32 ((l.sshiftRight s) &&& 255#64) := by
  have m32 : ∀ i : Fin 32, 8 ≤ i.val → (255#32).getLsbD i.val = false := by decide
  have m64 : ∀ i : Fin 64, 8 ≤ i.val → (255#64).getLsbD i.val = false := by decide
  have p32 : ∀ i : Fin 8, (255#32).getLsbD i.val = true := by decide
  have p64 : ∀ i : Fin 8, (255#64).getLsbD i.val = true := by decide
  apply BitVec.eq_of_getLsbD_eq
  intro i hi
  rw [BitVec.getLsbD_and, BitVec.getLsbD_signExtend, BitVec.getLsbD_signExtend, if_pos (show i < 64 by omega), if_pos (show i < 64 by omega), BitVec.getLsbD_and]
  by_cases c : i < 8
  · rw [p32 ⟨i, c⟩, p64 ⟨i, c⟩, BitVec.getLsbD_ushiftRight, BitVec.getLsbD_sshiftRight, if_pos (show s + i < 64 by omega)]
    simp [hi, show i < 64 by omega]
  · rw [m32 ⟨i, hi⟩ (by show 8 ≤ i; omega), m64 ⟨i, by omega⟩ (by show 8 ≤ i; omega)]; simp
theorem fdb_eq (l : Int64) (k : Int) (hk : 0 ≤ k ∧ k ≤ 7) : wand ((Int64.toInt32 ((Int64.toUInt64 l >>> (Int64.toUInt64 (Int32.toInt64 (oI (wr (8 * k)))) &&& Int64.toUInt64 63)).toInt64)).toInt) 255 = fdb l k := by
  unfold wand fdb
  rw [oI_self]
  refine congrArg Int32.toInt (Int32.toBitVec_inj.mp ?_)
  rcases (by omega : k = 0 ∨ k = 1 ∨ k = 2 ∨ k = 3 ∨ k = 4 ∨ k = 5 ∨ k = 6 ∨ k = 7) with e | e | e | e | e | e | e | e <;> subst e
  · exact fdb_bits l.toBitVec 0 (by decide)
  · exact fdb_bits l.toBitVec 8 (by decide)
  · exact fdb_bits l.toBitVec 16 (by decide)
  · exact fdb_bits l.toBitVec 24 (by decide)
  · exact fdb_bits l.toBitVec 32 (by decide)
  · exact fdb_bits l.toBitVec 40 (by decide)
  · exact fdb_bits l.toBitVec 48 (by decide)
  · exact fdb_bits l.toBitVec 56 (by decide)
theorem fdb_r (l : Int64) (k : Int) (hk : 0 ≤ k ∧ k ≤ 7) : wand (fdb l k) 255 = fdb l k := by
  have w : ∀ x : Int, wand (wand x 255) 255 = wand x 255 := fun x => by
    unfold wand
    rw [oI_self]
    exact congrArg Int32.toInt (by rw [Int32.and_assoc]; rfl)
  rw [← fdb_eq l k hk, w]
/-- the bytes from the k-th on -/
def fdL (l : Int64) : Nat → Int → List Int
  | 0, _ => []
  | n + 1, k => fdb l k :: fdL l n (k + 1)
theorem fdL_len (l : Int64) : ∀ (n : Nat) (k : Int), (fdL l n k).length = n := by
  intro n; induction n with
  | zero => intro k; rfl
  | succ n ih => intro k; show (fdL l n (k + 1)).length + 1 = n + 1; rw [ih]
theorem M156 {sh : zSh} {V : wSt} {m : Nat} (M : wMd sh m) (S : mSz sh V m) {r : Int} (hr : 0 ≤ r ∧ r ≤ 13) (x : Int) (hs : V (sr sh m 2) r.toNat < 20000) : ∃ V', wcl zP 156 [wR m, wI r, wI x] (sh, V) = rN (sh, V') ∧ FrO [sr sh m 1, sr sh m 2] V V' ∧ mx sh V' m r = mx sh V m r ++ [x] ∧ (∀ j, V' (sr sh m 2) j = if j = r.toNat then V (sr sh m 2) r.toNat + 1 else V (sr sh m 2) j) ∧ ∀ j, V' (sr sh m 1) j = if j = 1500 * r.toNat + (V (sr sh m 2) r.toNat).toNat then x else V (sr sh m 1) j := by
  have z := S r.toNat (by omega)
  have n12 : sr sh m 1 ≠ sr sh m 2 := M.n (by decide) (by decide) (by decide)
  have e1 : ∀ k y, uI V (sr sh m 1) k y (sr sh m 2) = V (sr sh m 2) := fun k y => by funext j; unfold uI; rw [if_neg (fun w => n12 w.1.symm)]
  rw [w156_0, e1, wr_eq (x := 1500 * r) (by omega) (by omega), wr_eq (x := 1500 * r + _) (by omega) (by omega), wr_eq (by omega) (by omega)]
  obtain ⟨W, hW⟩ : ∃ W, W = uI (uI V (sr sh m 1) (Int.toNat (1500 * r + V (sr sh m 2) (Int.toNat r))) x) (sr sh m 2) (Int.toNat r) (V (sr sh m 2) (Int.toNat r) + 1) := ⟨_, rfl⟩
  have w2 : ∀ j, W (sr sh m 2) j = if j = r.toNat then V (sr sh m 2) r.toNat + 1 else V (sr sh m 2) j := fun j => by
    rw [hW]; unfold uI
    by_cases c : j = r.toNat
    · rw [if_pos ⟨rfl, c⟩, if_pos c]
    · rw [if_neg (fun w => c w.2), if_neg (fun w => n12 w.1.symm), if_neg c]
  have w1 : ∀ j, W (sr sh m 1) j = if j = 1500 * r.toNat + (V (sr sh m 2) r.toNat).toNat then x else V (sr sh m 1) j := fun j => by
    rw [hW]; unfold uI
    rw [if_neg (fun w => n12 w.1)]
    by_cases c : j = 1500 * r.toNat + (V (sr sh m 2) r.toNat).toNat
    · rw [if_pos ⟨rfl, by omega⟩, if_pos c]
    · rw [if_neg (fun w => c (by have := w.2; omega)), if_neg c]
  rw [← hW]
  refine ⟨W, rfl, ?_, ?_, w2, w1⟩
  · rw [hW]; exact (uI_fr (List.mem_cons_self)).trans (uI_fr (List.mem_cons_of_mem _ (List.mem_cons_self)))
  · refine mx_ext ?_ (fun k hk => ?_)
    · rw [w2, if_pos rfl, List.length_append]; have := mx_sz (m := m) z.1; simp only [List.length_cons, List.length_nil]; omega
    · rw [List.length_append, mx_len] at hk
      simp only [List.length_cons, List.length_nil] at hk
      rw [List.getElem?_append, mx_len, w1]
      by_cases c : k < (V (sr sh m 2) r.toNat).toNat
      · rw [if_pos c, mx_g, if_pos c, if_neg (by omega)]
      · rw [if_neg c, if_pos (by omega), show k - (V (sr sh m 2) r.toNat).toNat = 0 by omega]; rfl
theorem M164_50 {sh : zSh} {m : Nat} (M : wMd sh m) (l : Int64) (n : Int) (hn : n ≤ 8) : ∀ (q : Nat) (V : wSt) (k : Int), (n - k).toNat = q → 0 ≤ k ∧ k ≤ n → mSz sh V m → V (sr sh m 2) 13 + (n - k) ≤ 400 → ∃ V', wev zP 164 50 [some (wR m), some (wL l), none, some (wI n), some (wI k)] [] (sh, V) = rI (V (sr sh m 2) 13 + (n - k)) (sh, V') ∧ FrO [sr sh m 1, sr sh m 2] V V' ∧ mx sh V' m 13 = mx sh V m 13 ++ fdL l q k ∧ V' (sr sh m 2) 13 = V (sr sh m 2) 13 + (n - k) ∧ ∀ r : Int, 0 ≤ r ∧ r ≤ 7 → V (sr sh m 2) r.toNat ≤ 1500 → mx sh V' m r = mx sh V m r ∧ V' (sr sh m 2) r.toNat = V (sr sh m 2) r.toNat := by
  intro q
  induction q with
  | zero =>
    intro V k hq hk S hs
    rw [w164_50, if_pos (by omega)]
    refine ⟨V, rI_cg (by show V (sr sh m 2) 13 = _; omega), FrO.refl, ?_, by omega, fun r _ _ => ⟨rfl, rfl⟩⟩
    show _ = _ ++ []; rw [List.append_nil]
  | succ q ih =>
    intro V k hq hk S hs
    have z := S 13 (by decide)
    obtain ⟨W, e1, f1, t1, s1, c1⟩ := M156 M S (r := 13) (by decide) (fdb l k) (by show V (sr sh m 2) 13 < 20000; omega)
    have s13 : W (sr sh m 2) 13 = V (sr sh m 2) 13 + 1 := by rw [s1]; exact if_pos rfl
    have SW : mSz sh W m := fun r hr => by
      rw [s1]
      by_cases c : r = (13 : Int).toNat
      · rw [if_pos c]; show 0 ≤ V (sr sh m 2) 13 + 1 ∧ V (sr sh m 2) 13 + 1 ≤ 21000; omega
      · rw [if_neg c]; exact S r hr
    rw [w164_50, if_neg (by omega), show (Int64.toInt32 ((l >>> (Int32.toInt64 (oI (wr (8 * k))) &&& 63)) &&& 255)).toInt = fdb l k from rfl, e1]
    simp only [wcx_v, wput_n, w164_74]
    rw [wr_eq (by omega) (by omega)]
    obtain ⟨V', e2, f2, t2, s2, k2⟩ := ih W (k + 1) (by omega) (by omega) SW (by omega)
    refine ⟨V', ?_, f1.trans f2, ?_, by omega, fun r hr hsz => ?_⟩
    · rw [e2]; exact rI_cg (by omega)
    · rw [t2, t1, List.append_assoc]; rfl
    · have w : W (sr sh m 2) r.toNat = V (sr sh m 2) r.toNat := by rw [s1]; exact if_neg (by show ¬ r.toNat = 13; omega)
      have := k2 r hr (by rw [w]; exact hsz)
      rw [this.1, this.2, w]
      exact ⟨mx_same w (fun j hj => by rw [c1]; exact if_neg (by show ¬ 1500 * r.toNat + j = 1500 * 13 + (V (sr sh m 2) 13).toNat; omega)), rfl⟩
theorem M164 {sh : zSh} {V : wSt} {m : Nat} (M : wMd sh m) (S : mSz sh V m) (S13 : V (sr sh m 2) 13 ≤ 400) (l : Int64) (n : Int) (hn : -2147483648 ≤ n ∧ n ≤ 2147483647) :
    ∃ y V', wcl zP 164 [wR m, wL l, wI n] (sh, V) = rI y (sh, V') ∧ FrM m [0] [sr sh m 1, sr sh m 2] V V' ∧ (∀ r : Int, 0 ≤ r ∧ r ≤ 7 → V (sr sh m 2) r.toNat ≤ 1500 → mx sh V' m r = mx sh V m r ∧ V' (sr sh m 2) r.toNat = V (sr sh m 2) r.toNat) ∧
      ((¬ (1 ≤ n ∧ n ≤ 8) ∧ V' m 0 = 1 ∧ mx sh V' m 13 = mx sh V m 13 ∧ V' (sr sh m 2) 13 = V (sr sh m 2) 13) ∨
       ((1 ≤ n ∧ n ≤ 8) ∧ 400 < V (sr sh m 2) 13 + n ∧ V' m 0 = 2 ∧ mx sh V' m 13 = mx sh V m 13 ∧ V' (sr sh m 2) 13 = V (sr sh m 2) 13) ∨
       ((1 ≤ n ∧ n ≤ 8) ∧ V (sr sh m 2) 13 + n ≤ 400 ∧ V' m 0 = 0 ∧ y = V (sr sh m 2) 13 + n ∧ mx sh V' m 13 = mx sh V m 13 ++ fdL l n.toNat 0 ∧ V' (sr sh m 2) 13 = V (sr sh m 2) 13 + n)) := by
  have z := S 13 (by decide)
  have u0 : ∀ (X : wSt) (x : Int), uI X m 0 x m 0 = x := fun X x => by unfold uI; rw [if_pos ⟨rfl, rfl⟩]
  have ua : ∀ (X : wSt) (x : Int) (j : Nat), j ∈ zARw → uI X m 0 x (sr sh m j) = X (sr sh m j) := fun X x j hj => by funext q; unfold uI; rw [if_neg (fun w => M.1 j hj w.1)]
  have f0 : ∀ (X : wSt) (x : Int), FrM m [0] [sr sh m 1, sr sh m 2] X (uI X m 0 x) := fun X x => FrM_f (by decide)
  have k0 : ∀ (x : Int) (r : Int), mx sh (uI V m 0 x) m r = mx sh V m r := fun x r => mx_cg (ua V x 1 (by decide)) (ua V x 2 (by decide)) r
  rw [w164_0, M120]
  simp only [wcx_v, wput_s, w164_8]
  by_cases c : 1 ≤ n ∧ n ≤ 8
  rotate_left
  · rw [if_neg c, if_pos rfl, u0, if_neg (by decide)]
    exact ⟨0, _, rfl, f0 V 1, fun r _ _ => ⟨k0 1 r, by rw [ua V 1 2 (by decide)]⟩, Or.inl ⟨c, u0 V 1, k0 1 13, by rw [ua V 1 2 (by decide)]⟩⟩
  rw [if_pos c, if_neg (by decide), show V (sr sh m 2) (Int.toNat 13) = V (sr sh m 2) 13 from rfl, wr_eq (by omega) (by omega)]
  by_cases d : V (sr sh m 2) 13 + n ≤ 400
  rotate_left
  · rw [if_neg d, u0, if_neg (by decide)]
    exact ⟨0, _, rfl, f0 V 2, fun r _ _ => ⟨k0 2 r, by rw [ua V 2 2 (by decide)]⟩, Or.inr (Or.inl ⟨c, by omega, u0 V 2, k0 2 13, by rw [ua V 2 2 (by decide)]⟩)⟩
  rw [if_pos d, u0, if_pos (Int.le_refl 0)]
  have a2 := ua V 0 2 (by decide)
  obtain ⟨V', e1, f1, t1, s1, k1⟩ := M164_50 M l n c.2 _ (uI V m 0 0) 0 rfl (by omega) (mSz_cg a2 S) (by rw [a2]; omega)
  rw [a2, Int.sub_zero] at e1 s1
  rw [k0, Int.sub_zero] at t1
  have v0 : V' m = uI V m 0 0 m := f1 m (fun w => by
    simp only [List.mem_cons, List.not_mem_nil, or_false] at w
    rcases w with w | w
    · exact M.1 1 (by decide) w.symm
    · exact M.1 2 (by decide) w.symm)
  refine ⟨_, V', e1, (f0 V 0).trans ⟨fun b _ ho => f1 b ho, fun j _ => by rw [v0]⟩, fun r hr hs => ?_, Or.inr (Or.inr ⟨c, d, by rw [v0, u0], rfl, t1, s1⟩)⟩
  have := k1 r hr (by rw [a2]; exact hs)
  rw [this.1, this.2, k0, a2]; exact ⟨rfl, rfl⟩
/-! the class is fed -/
theorem S94_45 {sh : zSh} {x : Nat} (h : wLL sh x) (l : Int64) (n : Int) (hn : n ≤ 8) : ∀ (q : Nat) (V : wSt) (k : Int), (n - k).toNat = q → 0 ≤ k ∧ k ≤ n → AllR sh V → V (sr sh x 0) 1 + (n - k) ≤ 400 → ∃ V', wev zP 94 45 [some (wR x), some (wL l), none, some (wI n), some (wI k)] [] (sh, V) = rI (V (sr sh x 0) 1 + (n - k)) (sh, V') ∧ RwU sh V V' (sr sh x 0) (tx sh V (sr sh x 0) ++ fdL l q k) (V (sr sh x 0) 2) := by
  have r0 : zRow sh (sr sh x 0) := h.2.2.1.1
  have c0 : cap sh (sr sh x 0) = 400 := h.2.2.2.2.2.2.2.2.2.2.2.1.1
  intro q
  induction q with
  | zero =>
    intro V k hq hk A hs
    rw [w94_45, if_pos (by omega)]
    refine ⟨V, rI_cg (by omega), FrO.refl, A _ r0, ?_, rfl⟩
    show _ = _ ++ []; rw [List.append_nil]
  | succ q ih =>
    intro V k hq hk A hs
    have ts := tx_sz (A _ r0)
    obtain ⟨W, e1, u1⟩ := S59 (A _ r0) (fdb l k) (by rw [c0]; omega)
    rw [fdb_r l k (by omega)] at u1
    rw [w94_45, if_neg (by omega), fdb_eq l k (by omega), e1]
    simp only [wcx_v, wput_n, w94_70]
    rw [wr_eq (by omega) (by omega)]
    have AW := u1.all A
    have s1 : W (sr sh x 0) 1 = V (sr sh x 0) 1 + 1 := by
      rw [← tx_sz (AW _ r0), u1.2.2.1, List.length_append]; simp only [List.length_cons, List.length_nil]; omega
    obtain ⟨V', e2, u2⟩ := ih W (k + 1) (by omega) (by omega) AW (by omega)
    rw [u1.2.2.1, u1.2.2.2, List.append_assoc] at u2
    refine ⟨V', ?_, u1.trans u2⟩
    rw [e2]; exact rI_cg (by omega)
theorem S94 {sh : zSh} {V : wSt} {x : Nat} (h : wLL sh x) (A : AllR sh V) (l : Int64) (n : Int) (hn : -2147483648 ≤ n ∧ n ≤ 2147483647) :
    (¬ (1 ≤ n ∧ n ≤ 8) ∧ wcl zP 94 [wR x, wL l, wI n] (sh, V) = some (.inr 0, (sh, V))) ∨
    ((1 ≤ n ∧ n ≤ 8) ∧ 400 < V (sr sh x 0) 1 + n ∧ wcl zP 94 [wR x, wL l, wI n] (sh, V) = some (.inr 1, (sh, V))) ∨
    ((1 ≤ n ∧ n ≤ 8) ∧ V (sr sh x 0) 1 + n ≤ 400 ∧ ∃ V', wcl zP 94 [wR x, wL l, wI n] (sh, V) = rI (V (sr sh x 0) 1 + n) (sh, V') ∧ RwU sh V V' (sr sh x 0) (tx sh V (sr sh x 0) ++ fdL l n.toNat 0) (V (sr sh x 0) 2)) := by
  have r0 : zRow sh (sr sh x 0) := h.2.2.1.1
  have z := (A _ r0).sz
  rw [w94_0]
  by_cases c1 : n < 1
  · rw [if_pos c1]; exact Or.inl ⟨by omega, rfl⟩
  rw [if_neg c1]
  by_cases c2 : n ≤ 8
  rotate_left
  · rw [if_neg c2]; exact Or.inl ⟨by omega, rfl⟩
  rw [if_pos c2, wr_eq (by omega) (by omega)]
  by_cases c3 : V (sr sh x 0) 1 + n ≤ 400
  · rw [if_pos c3]
    obtain ⟨V', e1, u1⟩ := S94_45 h l n c2 _ V 0 rfl (by omega) A (by omega)
    rw [Int.sub_zero] at e1 u1
    exact Or.inr (Or.inr ⟨by omega, c3, V', e1, u1⟩)
  · rw [if_neg c3]; exact Or.inr (Or.inl ⟨by omega, by omega, rfl⟩)
