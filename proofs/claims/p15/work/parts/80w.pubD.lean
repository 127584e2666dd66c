set_option maxRecDepth 16384
/-! the methods that can be called: relating, segments, pairs, words -/
section
variable {sh : zSh} {x : Nat} {V : wSt} {tp ou : List Int} {lk : Nat → Nat → List Int × Int} {f0 f1 : Int}
theorem S116 (h : wLL sh x) (s : Sx sh x V tp ou lk f0 f1) {b t : Nat} (hb : b < 8) (ht : t < 8) : ∃ V', wcl zP 116 [wR x, wR (wP sh x b), wR (wP sh x t)] (sh, V) = rI (bway (lk b) (lk t)) (sh, V') ∧ Sx sh x V' tp ou lk f0 f1 := by
  rw [w116_0]
  exact S116_10 h hb ht 6 V (-1) 401 0 none rfl (by decide) (by decide) s
theorem bway_r (B T : Nat → List Int × Int) : bway B T = -1 ∨ (0 ≤ bway B T ∧ bway B T < 6 ∧ pln (qWay (bway B T) B T) ≤ 400) := by
  have := bwA_r B T 6 0 (-1) 401 (by decide) (by decide) (Or.inl rfl)
  unfold bway; exact this
/-- what relating answers -/
noncomputable def rel (lk : Nat → Nat → List Int × Int) (b t : Nat) : Nat → List Int × Int := qWay (bway (lk b) (lk t)) (lk b) (lk t)
theorem S104 (h : wLL sh x) (s : Sx sh x V tp ou lk f0 f1) (i b t : Int) : (¬ ((0 ≤ i ∧ i < 8) ∧ (0 ≤ b ∧ b < 8) ∧ (0 ≤ t ∧ t < 8)) → wcl zP 104 [wR x, wI i, wI b, wI t] (sh, V) = some (.inr 2, (sh, V))) ∧
    ((0 ≤ i ∧ i < 8) ∧ (0 ≤ b ∧ b < 8) ∧ (0 ≤ t ∧ t < 8) → ((lk b.toNat 0).2 = 0 ∨ (lk t.toNat 0).2 = 0) → wcl zP 104 [wR x, wI i, wI b, wI t] (sh, V) = some (.inr 1, (sh, V))) ∧
    ((0 ≤ i ∧ i < 8) ∧ (0 ≤ b ∧ b < 8) ∧ (0 ≤ t ∧ t < 8) → ¬ ((lk b.toNat 0).2 = 0 ∨ (lk t.toNat 0).2 = 0) → bway (lk b.toNat) (lk t.toNat) = -1 → ∃ V', wcl zP 104 [wR x, wI i, wI b, wI t] (sh, V) = some (.inr 3, (sh, V')) ∧ Sx sh x V' tp ou lk f0 f1) ∧
    ((0 ≤ i ∧ i < 8) ∧ (0 ≤ b ∧ b < 8) ∧ (0 ≤ t ∧ t < 8) → ¬ ((lk b.toNat 0).2 = 0 ∨ (lk t.toNat 0).2 = 0) → bway (lk b.toNat) (lk t.toNat) ≠ -1 → ∃ V', wcl zP 104 [wR x, wI i, wI b, wI t] (sh, V) = rI (pln (rel lk b.toNat t.toNat)) (sh, V') ∧ Sx sh x V' tp ou (lup lk i.toNat (rel lk b.toNat t.toNat)) f0 f1) := by
  have start : ((0 ≤ i ∧ i < 8) ∧ (0 ≤ b ∧ b < 8) ∧ (0 ≤ t ∧ t < 8)) → wcl zP 104 [wR x, wI i, wI b, wI t] (sh, V) = if (lk b.toNat 0).2 = 0 then some (.inr 1, (sh, V)) else if (lk t.toNat 0).2 = 0 then some (.inr 1, (sh, V)) else wcx (wcl zP 116 [wR x, wR (wP sh x b.toNat), wR (wP sh x t.toNat)] (sh, V)) (fun v h' => wev zP 104 59 [some (wR x), some (wI i), some (wI b), some (wI t), some (wR (wP sh x i.toNat)), some (wR (wP sh x b.toNat)), some (wR (wP sh x t.toNat)), none] (wput v []) h') wth := fun hy => by
    rw [w104_0, S113y h hy.1]; simp only [wcx_v, wput_s, w104_5]
    rw [S113y h hy.2.1]; simp only [wcx_v, wput_s, w104_12]
    rw [S113y h hy.2.2]; simp only [wcx_v, wput_s]
    rw [w104_19, show V (sr sh (wP sh x b.toNat) 0) 2 = (lk b.toNat 0).2 from congrArg Prod.snd (s.2.2.2.1 b.toNat 0 (by omega) (by decide)), show V (sr sh (wP sh x t.toNat) 0) 2 = (lk t.toNat 0).2 from congrArg Prod.snd (s.2.2.2.1 t.toNat 0 (by omega) (by decide))]
  refine ⟨fun hn => ?_, fun hy h0 => ?_, fun hy h0 hl => ?_, fun hy h0 hl => ?_⟩
  · rw [w104_0]
    by_cases c1 : 0 ≤ i ∧ i < 8
    · rw [S113y h c1]; simp only [wcx_v, wput_s, w104_5]
      by_cases c2 : 0 ≤ b ∧ b < 8
      · rw [S113y h c2]; simp only [wcx_v, wput_s, w104_12]
        rw [S113n h (fun c3 => hn ⟨c1, c2, c3⟩), wcx_t]
      · rw [S113n h c2, wcx_t]
    · rw [S113n h c1, wcx_t]
  · rw [start hy]
    by_cases c : (lk b.toNat 0).2 = 0
    · rw [if_pos c]
    · rw [if_neg c, if_pos (h0.resolve_left c)]
  · obtain ⟨V1, e1, s1⟩ := S116 h s (b := b.toNat) (t := t.toNat) (by omega) (by omega)
    refine ⟨V1, ?_, s1⟩
    rw [start hy, if_neg (fun w => h0 (Or.inl w)), if_neg (fun w => h0 (Or.inr w)), e1]
    simp only [wcx_v, wput_s, w104_59]
    rw [if_pos hl]
  · obtain ⟨V1, e1, s1⟩ := S116 h s (b := b.toNat) (t := t.toNat) (by omega) (by omega)
    have br := (bway_r (lk b.toNat) (lk t.toNat)).resolve_left hl
    have P9 := h.P (p := 9) (by decide)
    obtain ⟨V2, e2, w2⟩ := S49 (bway (lk b.toNat) (lk t.toNat)) s1.1 h.Z P9 (h.P (p := b.toNat) (by omega)) (h.P (p := t.toNat) (by omega)) (h.dj (by decide) (by omega) (by omega)) (h.dj (by decide) (by omega) (by omega)) (h.cd (by decide) (by decide)) (s1.le h (by omega))
    have g2 : ∀ k, k < 7 → pv sh V2 (wP sh x 9) k = rel lk b.toNat t.toNat k := fun k hk => (w2.2.2 k hk).trans (qWay_cg _ (fun j hj => s1.2.2.2.1 b.toNat j (by omega) hj) (fun j hj => s1.2.2.2.1 t.toNat j (by omega) hj) k hk)
    have s2 := s1.hid h ((w2.kp h P9).mono (hid_d (by decide) (by decide)))
    obtain ⟨V3, e3, s3, e4⟩ := toLink h s2 (i := i.toNat) (d := 9) (by omega) (by decide) g2 br.2.2
    refine ⟨V3, ?_, s3⟩
    rw [start hy, if_neg (fun w => h0 (Or.inl w)), if_neg (fun w => h0 (Or.inr w)), e1]
    simp only [wcx_v, wput_s, w104_59]
    rw [if_neg hl, show sr sh x 8 = wP sh x 9 from rfl, e2]
    simp only [wcx_v, wput_n, w104_88]
    rw [show sr sh x 8 = wP sh x 9 from rfl, e3]
    simp only [wcx_v, wput_n, w104_97]
    rw [e4]
    simp only [wcx_v, wput_s, w104_102]
theorem sop_r (f : Int → Int) (b e : Int) (he : 0 ≤ e) : ∀ (n : Nat) (a : Int), 0 ≤ a → a ≤ e + 1 → 0 ≤ sop f b e n a ∧ sop f b e n a ≤ e + 1 := by
  intro n
  induction n with
  | zero => intro a h1 h2; exact ⟨h1, h2⟩
  | succ n ih =>
    intro a h1 h2
    rw [sop]
    have cr := cfn_r f b a e
    by_cases c : a ≤ e
    · have := cr.1 c; exact ih _ (by omega) (by omega)
    · have := cr.2 (by omega); exact ih _ (by omega) (by omega)
/-- where the j-th segment begins, and what it tells -/
def sgs (L : List Int) (j : Int) : Int := sop (gl L) 47 L.length j.toNat (if gl L 0 = 47 then 1 else 0)
def sgt (L : List Int) (j : Int) : List Int := dec (gl L) (cfn (gl L) 47 (sgs L j) L.length) (sgs L j)
theorem S107 (h : wLL sh x) (s : Sx sh x V tp ou lk f0 f1) (i j : Int) (hj2 : j ≤ 2147483647) : (¬ (0 ≤ i ∧ i < 8) → wcl zP 107 [wR x, wI i, wI j] (sh, V) = some (.inr 2, (sh, V))) ∧
    (0 ≤ i ∧ i < 8 → ¬ (0 ≤ j ∧ j < sgc (lk i.toNat 4).1) → wcl zP 107 [wR x, wI i, wI j] (sh, V) = some (.inr 0, (sh, V))) ∧
    (0 ≤ i ∧ i < 8 → 0 ≤ j ∧ j < sgc (lk i.toNat 4).1 → ∃ V', wcl zP 107 [wR x, wI i, wI j] (sh, V) = rI ((((sgt (lk i.toNat 4).1 j).take 400).length : Nat) : Int) (sh, V') ∧ Sx sh x V' tp ((sgt (lk i.toNat 4).1 j).take 400) lk f0 f1) := by
  refine ⟨fun hi => by rw [w107_0, S113n h hi, wcx_t], fun hi hj => ?_, fun hi hj => ?_⟩
  · rw [w107_0, S113y h hi]
    simp only [wcx_v, wput_s, w107_5]
    by_cases c : j < 0
    · rw [if_pos c]
    · rw [if_neg c, S32 s.1 (h.P (by omega)), s.2.2.2.1 i.toNat 4 (by omega) (by decide)]
      simp only [wcx_v, wput_s, w107_15]
      rw [if_neg (by omega)]
  · have P := h.P (p := i.toNat) (by omega)
    have q := s.1 _ (P.1 4 (by decide))
    have lt : tx sh V (sr sh (wP sh x i.toNat) 4) = (lk i.toNat 4).1 := congrArg Prod.fst (s.2.2.2.1 i.toNat 4 (by omega) (by decide))
    have tl := tx_sz q
    have z := q.sz
    rw [lt] at tl
    obtain ⟨L, hL⟩ : ∃ L, L = (lk i.toNat 4).1 := ⟨_, rfl⟩
    rw [← hL] at lt tl hj ⊢
    have sj : j ≤ 100001 := by
      have a := hj.2
      unfold sgc at a
      have := lc_r 47 (L.drop 1)
      rw [List.length_drop] at this
      split at a <;> omega
    have fl : 0 ≤ (if gl L 0 = 47 then (1 : Int) else 0) ∧ (if gl L 0 = 47 then (1 : Int) else 0) ≤ L.length + 1 := by split <;> omega
    have sr2 := sop_r (gl L) 47 L.length (by omega) j.toNat _ fl.1 fl.2
    obtain ⟨a, ha⟩ : ∃ a, a = sgs L j := ⟨_, rfl⟩
    have ha2 : a = sop (gl L) 47 L.length j.toNat (if gl L 0 = 47 then 1 else 0) := ha
    rw [← ha2] at sr2
    have n1 := (h.pr (p := i.toNat) (k := 4) (by omega) (by decide)).2.2.1
    have n2 := h.Z _ _ (P.1 4 (by decide)) h.r2 n1
    obtain ⟨V1, e1, u1, -⟩ := S62 (V := V) h.r2
    obtain ⟨q1, t1, v1⟩ := u1.fr h.r2 q n1 n2
    rw [lt] at t1
    have er : cfn (gl L) 47 a L.length ≤ L.length := by
      have cr := cfn_r (gl L) 47 a L.length
      by_cases c : a ≤ L.length
      · have := cr.1 c; omega
      · have := cr.2 (by omega); omega
    obtain ⟨V2, e2, u2⟩ := S73 u1.2.1 q1 n1 n2 a (cfn (gl L) 47 a L.length) (by omega) (by rw [t1]; exact er)
    rw [u1.2.2.1, List.nil_append, t1, h.cp.2.2.1, u1.2.2.2] at u2
    have sg : sgt L j = dec (gl L) (cfn (gl L) 47 a L.length) a := by unfold sgt; rw [← ha]
    rw [sg]
    refine ⟨V2, ?_, (s.out h u1).out h u2⟩
    rw [w107_0, S113y h hi]
    simp only [wcx_v, wput_s, w107_5]
    rw [if_neg (by omega), S32 s.1 P, show (pv sh V (wP sh x i.toNat) 4).1 = L from lt]
    simp only [wcx_v, wput_s, w107_15]
    rw [if_pos hj.2, S57 q, lt]
    simp only [wcx_v, wput_s, w107_43]
    have step : ∀ f : Int, (if gl L 0 = 47 then (1 : Int) else 0) = f → wcx (wcl zP 71 [wR (sr sh (wP sh x i.toNat) 4), wI 47, wI j, wI f] (sh, V)) (fun v h' => wev zP 107 56 [some (wR x), some (wI i), some (wI j), some (wR (wP sh x i.toNat)), some (wR (sr sh (wP sh x i.toNat) 4)), none] (wput v []) h') wth = rI ((((dec (gl L) (cfn (gl L) 47 a L.length) a).take 400).length : Nat) : Int) (sh, V2) := fun f hf => by
      rw [hf] at fl ha2
      rw [S71 q 47 j f (by omega) (by omega), lt, ← tl, ← ha2]
      simp only [wcx_v, wput_s, w107_56]
      rw [e1]
      simp only [wcx_v, wput_n, w107_65]
      rw [v1, ← tl, S68 q1 47 a L.length (by omega) (by omega), t1]
      simp only [wcx_v, wput_s, w107_87]
      rw [e2]
      simp only [wcx_v, wput_n, w107_90]
      rw [← tx_sz u2.2.1, u2.2.2.1]
    by_cases c : gl L 0 = 47
    · rw [if_pos c]; exact step 1 (if_pos c)
    · rw [if_neg c]; exact step 0 (if_neg c)
/-- how much of a path stays when its last segment goes -/
def asc1 (L : List Int) : Int := if fli (gl L) 47 0 ((L.length : Int) - 1) + 1 = L.length then fli (gl L) 47 0 (fli (gl L) 47 0 ((L.length : Int) - 1) - 1) + 1 else fli (gl L) 47 0 ((L.length : Int) - 1) + 1
def asc (L : List Int) : Int := if asc1 L = 0 ∧ gl L 0 = 47 then 1 else asc1 L
def qAsc (Q : Nat → List Int × Int) : Nat → List Int × Int := pup Q 4 ((Q 4).1.take (asc (Q 4).1).toNat, (Q 4).2)
theorem S109 (h : wLL sh x) (s : Sx sh x V tp ou lk f0 f1) (i : Int) : (¬ (0 ≤ i ∧ i < 8) → wcl zP 109 [wR x, wI i] (sh, V) = some (.inr 2, (sh, V))) ∧
    (0 ≤ i ∧ i < 8 → ∃ V', wcl zP 109 [wR x, wI i] (sh, V) = rI (pln (qAsc (lk i.toNat))) (sh, V') ∧ Sx sh x V' tp ou (lup lk i.toNat (qAsc (lk i.toNat))) f0 f1) := by
  refine ⟨fun hi => by rw [w109_0, S113n h hi, wcx_t], fun hi => ?_⟩
  have P := h.P (p := i.toNat) (by omega)
  have q := s.1 _ (P.1 4 (by decide))
  have l4 := s.2.2.2.1 i.toNat 4 (by omega) (by decide)
  have lt : tx sh V (sr sh (wP sh x i.toNat) 4) = (lk i.toNat 4).1 := congrArg Prod.fst l4
  have tl := tx_sz q
  have z := q.sz
  rw [lt] at tl
  obtain ⟨L, hL⟩ : ∃ L, L = (lk i.toNat 4).1 := ⟨_, rfl⟩
  rw [← hL] at lt tl
  have cut : ∀ (k : Int) (a b : Int), 0 ≤ k → asc L = k → ∃ V', wcx (wcl zP 63 [wR (sr sh (wP sh x i.toNat) 4), wI k] (sh, V)) (fun v h' => wev zP 109 76 [some (wR x), some (wI i), some (wR (wP sh x i.toNat)), some (wR (sr sh (wP sh x i.toNat) 4)), some (wI a), some (wI b)] (wput v []) h') wth = rI (pln (qAsc (lk i.toNat))) (sh, V') ∧ Sx sh x V' tp ou (lup lk i.toNat (qAsc (lk i.toNat))) f0 f1 := fun k a b h0 hk => by
    obtain ⟨V1, e1, u1⟩ := S63 q k h0
    rw [lt] at u1
    have w1 : PwU sh V V1 (wP sh x i.toNat) (qAsc (lk i.toNat)) := (u1.pw s.1 h.Z P (by decide)).cg (fun m hm => by
      unfold qAsc
      rw [← hL, hk]
      unfold pup
      by_cases c : m = 4
      · rw [if_pos c, if_pos c, ← l4]; rfl
      · rw [if_neg c, if_neg c, s.2.2.2.1 i.toNat m (by omega) hm])
    refine ⟨V1, ?_, s.link h (by omega) w1⟩
    rw [e1]
    simp only [wcx_v, wput_n, w109_76]
    rw [S27q w1.2.1 P, pln_cg w1.2.2]
    simp only [wcx_v, wput_s, w109_80]
  obtain ⟨F, hF⟩ : ∃ F, F = fli (gl L) 47 0 ((L.length : Int) - 1) := ⟨_, rfl⟩
  have fr := fli_r2 (gl L) 47 0 _ ((L.length : Int) - 1) rfl
  rw [← hF] at fr
  -- what follows, with what stays so far told
  have fin : ∀ (a k : Int), asc1 L = k → -1 ≤ k - 1 → k ≤ 100000 → ∃ V', (if k = 0 then wcx (wcl zP 57 [wR (sr sh (wP sh x i.toNat) 4), wI 0] (sh, V)) (fun v h' => wev zP 109 62 [some (wR x), some (wI i), some (wR (wP sh x i.toNat)), some (wR (sr sh (wP sh x i.toNat) 4)), some (wI a), some (wI k)] (wput v []) h') wth else wcx (wcl zP 63 [wR (sr sh (wP sh x i.toNat) 4), wI k] (sh, V)) (fun v h' => wev zP 109 76 [some (wR x), some (wI i), some (wR (wP sh x i.toNat)), some (wR (sr sh (wP sh x i.toNat) 4)), some (wI a), some (wI k)] (wput v []) h') wth) = rI (pln (qAsc (lk i.toNat))) (sh, V') ∧ Sx sh x V' tp ou (lup lk i.toNat (qAsc (lk i.toNat))) f0 f1 := fun a k hk h1 h2 => by
    by_cases c : k = 0
    · rw [if_pos c, S57 q, lt]
      simp only [wcx_v, wput_s, w109_62]
      by_cases d : gl L 0 = 47
      · rw [if_pos d]; exact cut 1 a 1 (by decide) (by unfold asc; rw [if_pos ⟨hk.trans c, d⟩])
      · rw [if_neg d]; exact cut k a k (by omega) (by unfold asc; rw [if_neg (fun w => d w.2), hk])
    · rw [if_neg c]; exact cut k a k (by omega) (by unfold asc; rw [if_neg (fun w => c (hk.symm.trans w.1)), hk])
  rw [w109_0, S113y h hi]
  simp only [wcx_v, wput_s, w109_5]
  rw [← tl, S69 q 47 0 L.length (by omega) (by omega) (by decide), lt, ← hF]
  simp only [wcx_v, wput_s, w109_22]
  rw [wr_eq (x := F + 1) (by omega) (by omega), ← tl]
  by_cases c : F + 1 = L.length
  · rw [if_pos c, S69 q 47 0 F (by omega) (by omega) (by decide), lt]
    have fr2 := fli_r2 (gl L) 47 0 _ (F - 1) rfl
    simp only [wcx_v, wput_s, w109_48]
    rw [wr_eq (x := fli (gl L) 47 0 (F - 1) + 1) (by omega) (by omega)]
    exact fin _ _ (by unfold asc1; rw [← hF, if_pos c]) (by omega) (by omega)
  · rw [if_neg c]
    exact fin _ _ (by unfold asc1; rw [← hF, if_neg c]) (by omega) (by omega)
end
