set_option maxRecDepth 16384
/-! the methods that can be called: descending, pairs, words, faults -/
section
variable {sh : zSh} {x : Nat} {V : wSt} {tp ou : List Int} {lk : Nat → Nat → List Int × Int} {f0 f1 : Int}
theorem takeT (h : wLL sh x) (s : Sx sh x V tp ou lk f0 f1) : ∃ V', wcl zP 115 [wR x] (sh, V) = some (.inl (some (wR (sr sh x 1))), (sh, V')) ∧ Sx sh x V' [] ou lk f0 f1 ∧ tx sh V' (sr sh x 1) = tp := by
  obtain ⟨A, t, o, l, g0, g1⟩ := s
  obtain ⟨V1, e1, f, A1, t1, t0, -⟩ := S115 h A
  have out : ∀ b, b ≠ sr sh x 0 → b ≠ sr sh (sr sh x 0) 0 → b ≠ sr sh x 1 → b ≠ sr sh (sr sh x 1) 0 → V1 b = V b := fun b w0 w1 w2 w3 => f b (fun w => by
    simp only [List.mem_cons, List.not_mem_nil, or_false] at w
    rcases w with w | w | w | w
    · exact w0 w
    · exact w1 w
    · exact w2 w
    · exact w3 w)
  have row : ∀ b, zRow sh b → b ≠ sr sh x 0 → b ≠ sr sh x 1 → tx sh V1 b = tx sh V b ∧ V1 b = V b := fun b hb m0 m1 => by
    have e := out b m0 (row_ne hb h.r0) m1 (row_ne hb h.r1)
    exact ⟨tx_cg e (out _ (fun w => row_ne h.r0 hb w.symm) (h.Z _ _ hb h.r0 m0) (fun w => row_ne h.r1 hb w.symm) (h.Z _ _ hb h.r1 m1)), e⟩
  have ex : V1 x = V x := out x (fun e => h.k14.1 (by rw [e, h.r0.1])) (fun e => h.k14.2 (by rw [e]; exact h.r0.2.1)) (fun e => h.k14.1 (by rw [e, h.r1.1])) (fun e => h.k14.2 (by rw [e]; exact h.r1.2.1))
  refine ⟨V1, e1, ⟨A1, t0, (row _ h.r2 (fun e => h.ne.2.1 e.symm) (fun e => h.ne.2.2.2.1 e.symm)).1.trans o, fun p k hp hk => ?_, by rw [ex]; exact g0, by rw [ex]; exact g1⟩, t1.trans t⟩
  have r := row _ ((h.P (p := p) (by omega)).1 k hk) (h.pr (by omega) hk).1 (h.pr (by omega) hk).2.1
  rw [← l p k hp hk]; unfold pv; rw [r.1, r.2]
/-- whether a / must stand before a new segment -/
def dsl (Q : Nat → List Int × Int) : Int := if (Q 4).1.length = 0 then (Q 2).2 else if gl (Q 4).1 ((Q 4).1.length - 1) = 47 then 0 else 1
def qDes (Q : Nat → List Int × Int) (T : List Int) : Nat → List Int × Int := pup Q 4 ((Q 4).1 ++ ((if dsl Q = 0 then [] else [47]) ++ cod T), (Q 4).2)
def dsz (Q : Nat → List Int × Int) (T : List Int) : Int := pln Q + ((cod T).length + (if dsl Q = 0 then 0 else 1))
theorem S108 (h : wLL sh x) (s : Sx sh x V tp ou lk f0 f1) (i : Int) : (¬ (0 ≤ i ∧ i < 8) → ∃ V', wcl zP 108 [wR x, wI i] (sh, V) = some (.inr 2, (sh, V')) ∧ Sx sh x V' [] ou lk f0 f1) ∧
    (0 ≤ i ∧ i < 8 → 400 < dsz (lk i.toNat) tp → ∃ V', wcl zP 108 [wR x, wI i] (sh, V) = some (.inr 3, (sh, V')) ∧ Sx sh x V' [] ou lk f0 f1) ∧
    (0 ≤ i ∧ i < 8 → dsz (lk i.toNat) tp ≤ 400 → ∃ V', wcl zP 108 [wR x, wI i] (sh, V) = rI (pln (qDes (lk i.toNat) tp)) (sh, V') ∧ Sx sh x V' [] ou (lup lk i.toNat (qDes (lk i.toNat) tp)) f0 f1) := by
  have tp4 : tp.length ≤ 400 := by have := (tx_cap (s.1 _ h.r0)).1; rw [s.2.1, h.cp.1] at this; exact this
  obtain ⟨V1, e1, s1, t1⟩ := takeT h s
  have cl := cod_len tp
  have mid : (0 ≤ i ∧ i < 8) → wcl zP 108 [wR x, wI i] (sh, V) = wev zP 108 80 [some (wR x), some (wI i), some (wR (sr sh x 1)), some (wR (wP sh x i.toNat)), some (wR (sr sh (wP sh x i.toNat) 4)), some (wI (dsl (lk i.toNat))), some (wI ((cod tp).length + (if dsl (lk i.toNat) = 0 then 0 else 1)))] [wI (pln (lk i.toNat))] (sh, V1) := fun hi => by
    have P := h.P (p := i.toNat) (by omega)
    have q := s1.1 _ (P.1 4 (by decide))
    have lt : tx sh V1 (sr sh (wP sh x i.toNat) 4) = (lk i.toNat 4).1 := congrArg Prod.fst (s1.2.2.2.1 i.toNat 4 (by omega) (by decide))
    have tl := tx_sz q
    have z := q.sz
    rw [lt] at tl
    have last : ∀ d : Int, dsl (lk i.toNat) = d → wcx (wcl zP 74 [wR (sr sh x 1)] (sh, V1)) (fun v h' => wev zP 108 63 [some (wR x), some (wI i), some (wR (sr sh x 1)), some (wR (wP sh x i.toNat)), some (wR (sr sh (wP sh x i.toNat) 4)), some (wI d), none] (wput v []) h') wth = wev zP 108 80 [some (wR x), some (wI i), some (wR (sr sh x 1)), some (wR (wP sh x i.toNat)), some (wR (sr sh (wP sh x i.toNat) 4)), some (wI d), some (wI ((cod tp).length + (if d = 0 then 0 else 1)))] [wI (pln (lk i.toNat))] (sh, V1) := fun d hd => by
      rw [S74 (s1.1 _ h.r1), t1]
      simp only [wcx_v, wput_s, w108_63]
      rw [S27q s1.1 P, pln_cg (fun k hk => s1.2.2.2.1 i.toNat k (by omega) hk)]
      simp only [wcx_v, wput_s]
      by_cases c : d = 0
      · rw [if_pos c, if_pos c, wr_eq (by omega) (by omega)]
      · rw [if_neg c, if_neg c, wr_eq (by omega) (by omega)]
    rw [w108_0, e1]
    simp only [wcx_v, wput_s, w108_4]
    rw [S113y h hi]
    simp only [wcx_v, wput_s, w108_10]
    rw [← tl]
    by_cases c : ((lk i.toNat 4).1.length : Int) = 0
    · have d : dsl (lk i.toNat) = (lk i.toNat 2).2 := by unfold dsl; rw [if_pos (by omega)]
      rw [if_pos c, show V1 (sr sh (wP sh x i.toNat) 2) 2 = (lk i.toNat 2).2 from congrArg Prod.snd (s1.2.2.2.1 i.toNat 2 (by omega) (by decide)), last _ d, d]
    · rw [if_neg c, wr_eq (by omega) (by omega), S57 q, lt]
      simp only [wcx_v, wput_s, w108_47]
      by_cases f : gl (lk i.toNat 4).1 ((lk i.toNat 4).1.length - 1) = 47
      · have d : dsl (lk i.toNat) = 0 := by unfold dsl; rw [if_neg (by omega), if_pos f]
        rw [if_pos f, last _ d, d]
      · have d : dsl (lk i.toNat) = 1 := by unfold dsl; rw [if_neg (by omega), if_neg f]
        rw [if_neg f, last _ d, d]
  have pl : (0 ≤ i ∧ i < 8) → 0 ≤ pln (lk i.toNat) ∧ pln (lk i.toNat) ≤ 5000 := fun hi => by
    have P := h.P (p := i.toNat) (by omega)
    refine ⟨by have := pln_ge (lk i.toNat) 0 (by decide); omega, ?_⟩
    have le := s1.le h (p := i.toNat) (by omega)
    have l : ∀ k, k < 7 → (lk i.toNat k).1.length ≤ 400 := fun k hk => by rw [← s1.2.2.2.1 i.toNat k (by omega) hk]; exact le k hk
    have e : plA (fun k => ((lk i.toNat k).1.length : Int)) (fun k => (lk i.toNat k).2) 7 = 0 + (((lk i.toNat 0).1.length : Int) + (if (lk i.toNat 0).2 = 0 then 0 else 1)) + ((lk i.toNat 1).1.length + (if (lk i.toNat 1).2 = 0 then 0 else 1)) + ((lk i.toNat 2).1.length + 0) + ((lk i.toNat 3).1.length + (if (lk i.toNat 3).2 = 0 then 0 else 1)) + ((lk i.toNat 4).1.length + 0) + ((lk i.toNat 5).1.length + (if (lk i.toNat 5).2 = 0 then 0 else 1)) + ((lk i.toNat 6).1.length + (if (lk i.toNat 6).2 = 0 then 0 else 1)) := rfl
    have l0 := l 0 (by decide)
    have l1 := l 1 (by decide)
    have l2 := l 2 (by decide)
    have l3 := l 3 (by decide)
    have l4 := l 4 (by decide)
    have l5 := l 5 (by decide)
    have l6 := l 6 (by decide)
    unfold pln plen
    rw [e]
    dsimp only
    omega
  refine ⟨fun hi => ?_, fun hi hl => ?_, fun hi hl => ?_⟩
  · refine ⟨V1, ?_, s1⟩
    rw [w108_0, e1]
    simp only [wcx_v, wput_s, w108_4]
    rw [S113n h hi, wcx_t]
  · have pb := pl hi
    refine ⟨V1, ?_, s1⟩
    unfold dsz at hl
    rw [mid hi, w108_80, wr_eq (by omega) (by omega), if_neg (by omega)]
  · have pb := pl hi
    have P := h.P (p := i.toNat) (by omega)
    have q := s1.1 _ (P.1 4 (by decide))
    have l4 := s1.2.2.2.1 i.toNat 4 (by omega) (by decide)
    have lt : tx sh V1 (sr sh (wP sh x i.toNat) 4) = (lk i.toNat 4).1 := congrArg Prod.fst l4
    have pg := pln_ge (lk i.toNat) 4 (by decide)
    unfold dsz at hl
    have n1 : sr sh x 1 ≠ sr sh (wP sh x i.toNat) 4 := fun e => (h.pr (p := i.toNat) (k := 4) (by omega) (by decide)).2.1 e.symm
    have n2 := h.Z _ _ h.r1 (P.1 4 (by decide)) n1
    have cp : cap sh (sr sh (wP sh x i.toNat) 4) = 400 := by rw [h.cl (p := i.toNat) (by omega) 4 (by decide), if_pos rfl]
    obtain ⟨V2, e2, u2⟩ : ∃ V2, (if dsl (lk i.toNat) = 0 then wev zP 108 109 [some (wR x), some (wI i), some (wR (sr sh x 1)), some (wR (wP sh x i.toNat)), some (wR (sr sh (wP sh x i.toNat) 4)), some (wI (dsl (lk i.toNat))), some (wI ((cod tp).length + (if dsl (lk i.toNat) = 0 then 0 else 1)))] [] (sh, V1) else wcx (wcl zP 59 [wR (sr sh (wP sh x i.toNat) 4), wI 47] (sh, V1)) (fun v h' => wev zP 108 109 [some (wR x), some (wI i), some (wR (sr sh x 1)), some (wR (wP sh x i.toNat)), some (wR (sr sh (wP sh x i.toNat) 4)), some (wI (dsl (lk i.toNat))), some (wI ((cod tp).length + (if dsl (lk i.toNat) = 0 then 0 else 1)))] (wput v []) h') wth) = wev zP 108 109 [some (wR x), some (wI i), some (wR (sr sh x 1)), some (wR (wP sh x i.toNat)), some (wR (sr sh (wP sh x i.toNat) 4)), some (wI (dsl (lk i.toNat))), some (wI ((cod tp).length + (if dsl (lk i.toNat) = 0 then 0 else 1)))] [] (sh, V2) ∧ RwU sh V1 V2 (sr sh (wP sh x i.toNat) 4) ((tx sh V1 (sr sh (wP sh x i.toNat) 4) ++ (if dsl (lk i.toNat) = 0 then [] else [47])).take (cap sh (sr sh (wP sh x i.toNat) 4))) (V1 (sr sh (wP sh x i.toNat) 4) 2) := by
      by_cases c : dsl (lk i.toNat) = 0
      · exact ⟨V1, if_pos c, (RwU.nil q).eq (by rw [if_pos c])⟩
      · obtain ⟨V2, e2, u2⟩ := S59g q 47
        rw [wand_id (by decide)] at u2
        exact ⟨V2, (if_neg c).trans (by rw [e2]; simp only [wcx_v, wput_n]), u2.eq (by rw [if_neg c])⟩
    obtain ⟨p2, x2, -⟩ := u2.fr (P.1 4 (by decide)) (s1.1 _ h.r1) n1 n2
    obtain ⟨V3, e3, u3⟩ := S75 u2.2.1 p2 n1 n2
    rw [x2, t1] at u3
    have u := u2.ad u3
    rw [lt, cp, List.take_of_length_le (by
      rw [List.length_append, List.length_append]
      by_cases c : dsl (lk i.toNat) = 0
      · rw [if_pos c] at hl ⊢; simp only [List.length_nil]; omega
      · rw [if_neg c] at hl ⊢; simp only [List.length_cons, List.length_nil]; omega)] at u
    have w3 : PwU sh V1 V3 (wP sh x i.toNat) (qDes (lk i.toNat) tp) := (u.pw s1.1 h.Z P (by decide)).cg (fun m hm => by
      unfold qDes pup
      by_cases c : m = 4
      · rw [if_pos c, if_pos c, ← l4]; rfl
      · rw [if_neg c, if_neg c, s1.2.2.2.1 i.toNat m (by omega) hm])
    refine ⟨V3, ?_, s1.link h (by omega) w3⟩
    rw [mid hi, w108_80, wr_eq (by omega) (by omega), if_pos (by omega), e2, w108_109, e3]
    simp only [wcx_v, wput_n, w108_115]
    rw [S27q w3.2.1 P, pln_cg w3.2.2]
    simp only [wcx_v, wput_s, w108_119]
/-- where the j-th pair begins, ends and splits -/
def prA (L : List Int) (j : Int) : Int := sop (gl L) 38 L.length j.toNat 0
def prE (L : List Int) (j : Int) : Int := cfn (gl L) 38 (prA L j) L.length
def prS (L : List Int) (j : Int) : Int := cfn (gl L) 61 (prA L j) (prE L j)
def prt (L : List Int) (j v : Int) : List Int := if v = 0 then dec (gl L) (prS L j) (prA L j) else dec (gl L) (prE L j) (prS L j + 1)
theorem S111 (h : wLL sh x) (s : Sx sh x V tp ou lk f0 f1) (i j v : Int) : (¬ (0 ≤ i ∧ i < 8) → wcl zP 111 [wR x, wI i, wI j, wI v] (sh, V) = some (.inr 2, (sh, V))) ∧
    (0 ≤ i ∧ i < 8 → ¬ (0 ≤ j ∧ j < prc (lk i.toNat 5)) → wcl zP 111 [wR x, wI i, wI j, wI v] (sh, V) = some (.inr 0, (sh, V))) ∧
    (0 ≤ i ∧ i < 8 → 0 ≤ j ∧ j < prc (lk i.toNat 5) → ∃ V', wcl zP 111 [wR x, wI i, wI j, wI v] (sh, V) = rI (if v ≠ 0 ∧ prE (lk i.toNat 5).1 j ≤ prS (lk i.toNat 5).1 j then -1 else ((((prt (lk i.toNat 5).1 j v).take 400).length : Nat) : Int)) (sh, V') ∧ Sx sh x V' tp ((prt (lk i.toNat 5).1 j v).take 400) lk f0 f1) := by
  refine ⟨fun hi => by rw [w111_0, S113n h hi, wcx_t], fun hi hj => ?_, fun hi hj => ?_⟩
  · rw [w111_0, S113y h hi]
    simp only [wcx_v, wput_s, w111_5]
    by_cases c : j < 0
    · rw [if_pos c]
    · rw [if_neg c, S33 s.1 (h.P (by omega)), s.2.2.2.1 i.toNat 5 (by omega) (by decide)]
      simp only [wcx_v, wput_s, w111_17]
      rw [if_neg (by omega)]
  · have P := h.P (p := i.toNat) (by omega)
    have q := s.1 _ (P.1 5 (by decide))
    have l5 := s.2.2.2.1 i.toNat 5 (by omega) (by decide)
    have lt : tx sh V (sr sh (wP sh x i.toNat) 5) = (lk i.toNat 5).1 := congrArg Prod.fst l5
    have tl := tx_sz q
    have z := q.sz
    rw [lt] at tl
    have sj : j ≤ 100001 := by
      have a := hj.2
      unfold prc at a
      have := lc_r 38 (lk i.toNat 5).1
      split at a <;> omega
    obtain ⟨L, hL⟩ : ∃ L, L = (lk i.toNat 5).1 := ⟨_, rfl⟩
    rw [← hL] at lt tl ⊢
    have sr2 := sop_r (gl L) 38 L.length (by omega) j.toNat 0 (by decide) (by omega)
    obtain ⟨a, ha⟩ : ∃ a, a = prA L j := ⟨_, rfl⟩
    rw [show sop (gl L) 38 L.length j.toNat 0 = a from ha.symm] at sr2
    obtain ⟨e, he⟩ : ∃ e, e = prE L j := ⟨_, rfl⟩
    have he2 : e = cfn (gl L) 38 a L.length := by rw [he, ha]; rfl
    have er : e ≤ L.length ∧ -1 ≤ e := by
      have cr := cfn_r (gl L) 38 a L.length
      rw [← he2] at cr
      by_cases c : a ≤ L.length
      · have := cr.1 c; omega
      · have := cr.2 (by omega); omega
    obtain ⟨p, hp⟩ : ∃ p, p = prS L j := ⟨_, rfl⟩
    have hp2 : p = cfn (gl L) 61 a e := by rw [hp, ha, he]; rfl
    have pr2 : p ≤ e ∧ 0 ≤ p + 1 ∧ p ≤ L.length := by
      have cr := cfn_r (gl L) 61 a e
      rw [← hp2] at cr
      by_cases c : a ≤ e
      · have := cr.1 c; omega
      · have := cr.2 (by omega); omega
    have n1 := (h.pr (p := i.toNat) (k := 5) (by omega) (by decide)).2.2.1
    have n2 := h.Z _ _ (P.1 5 (by decide)) h.r2 n1
    obtain ⟨V1, e1, u1, -⟩ := S62 (V := V) h.r2
    obtain ⟨q1, t1, -⟩ := u1.fr h.r2 q n1 n2
    rw [lt] at t1
    have start : wcl zP 111 [wR x, wI i, wI j, wI v] (sh, V) = wev zP 111 82 [some (wR x), some (wI i), some (wI j), some (wI v), some (wR (wP sh x i.toNat)), some (wR (sr sh (wP sh x i.toNat) 5)), some (wI a), some (wI e), some (wI p)] [] (sh, V1) := by
      rw [w111_0, S113y h hi]
      simp only [wcx_v, wput_s, w111_5]
      rw [if_neg (by omega), S33 s.1 P, l5]
      simp only [wcx_v, wput_s, w111_17]
      rw [if_pos hj.2, S71 q 38 j 0 (by omega) (by omega), lt, ← tl, show sop (gl L) 38 L.length j.toNat 0 = a from ha.symm]
      simp only [wcx_v, wput_s, w111_44]
      rw [← tl, S68 q 38 a L.length (by omega) (by omega), lt, ← he2]
      simp only [wcx_v, wput_s, w111_60]
      rw [S68 q 61 a e (by omega) (by omega), lt, ← hp2]
      simp only [wcx_v, wput_s, w111_73]
      rw [e1]
      simp only [wcx_v, wput_n]
    have pt : prt L j v = if v = 0 then dec (gl L) p a else dec (gl L) e (p + 1) := by unfold prt; rw [← ha, ← he, ← hp]
    rw [start, w111_82, pt, ← he, ← hp]
    by_cases c : v = 0
    · rw [if_pos c, if_pos c, if_neg (fun w => w.1 c)]
      obtain ⟨V2, e2, u2⟩ := S73 u1.2.1 q1 n1 n2 a p (by omega) (by rw [t1]; omega)
      rw [u1.2.2.1, List.nil_append, t1, h.cp.2.2.1, u1.2.2.2] at u2
      refine ⟨V2, ?_, (s.out h u1).out h u2⟩
      rw [e2]
      simp only [wcx_v, wput_n, w111_99]
      rw [← tx_sz u2.2.1, u2.2.2.1]
    · rw [if_neg c, if_neg c, wr_eq (by omega) (by omega)]
      obtain ⟨V2, e2, u2⟩ := S73 u1.2.1 q1 n1 n2 (p + 1) e (by omega) (by rw [t1]; omega)
      rw [u1.2.2.1, List.nil_append, t1, h.cp.2.2.1, u1.2.2.2] at u2
      refine ⟨V2, ?_, (s.out h u1).out h u2⟩
      rw [e2]
      simp only [wcx_v, wput_n, w111_122]
      rw [← tx_sz u2.2.1, u2.2.2.1]
      by_cases d : e ≤ p
      · rw [if_pos d, if_pos ⟨c, d⟩]
      · rw [if_neg d, if_neg (fun w => d w.2)]
/-- eight signs of what is out, as a number -/
def wdA (f : Int → Int) (i : Int) : Nat → Int64 → Int64
  | 0, l => l
  | n + 1, l => wdA f i n ((l <<< (Int32.toInt64 (oI 8) &&& 63)) ||| (Int32.toInt64 (oI (if f (8 * i + n) < 0 then 0 else f (8 * i + n)))))
def wrd (L : List Int) (i : Int) : Int64 := if 0 ≤ i ∧ i ≤ 50 then wdA (gl L) i 8 (0 : Int64) else 0
theorem S112_18 (h : wLL sh x) (A : AllR sh V) (i : Int) (hi : 0 ≤ i ∧ i ≤ 50) : ∀ (n : Nat) (k : Int) (l : Int64), k = n - 1 → n ≤ 8 → wev zP 112 18 [some (wR x), some (wI i), some (wL l), none, some (wI k)] [] (sh, V) = some (.inl (some (wL (wdA (gl (tx sh V (sr sh x 2))) i n l))), (sh, V)) := by
  intro n
  induction n with
  | zero => intro k l hk hn; rw [w112_18, if_pos (by omega)]; rfl
  | succ n ih =>
    intro k l hk hn
    rw [w112_18, if_neg (by omega), wr_eq (x := 8 * i) (by omega) (by omega), wr_eq (by omega) (by omega), S57 (A _ h.r2)]
    simp only [wcx_v, wput_s, w112_41]
    rw [wr_eq (by omega) (by omega), ih _ _ (by omega) (by omega), wdA, show k = (n : Int) by omega]
theorem S112 (h : wLL sh x) (s : Sx sh x V tp ou lk f0 f1) (i : Int) : wcl zP 112 [wR x, wI i] (sh, V) = some (.inl (some (wL (wrd ou i))), (sh, V)) := by
  rw [w112_0]
  unfold wrd
  by_cases c : i < 0
  · rw [if_pos c, if_neg (by omega)]
  · rw [if_neg c]
    by_cases d : i ≤ 50
    · rw [if_pos d, if_pos (by omega), S112_18 h s.1 i (by omega) 8 7 _ (by decide) (by decide), s.2.2.1]
    · rw [if_neg d, if_neg (by omega)]
theorem S96 (h : wLL sh x) (s : Sx sh x V tp ou lk f0 f1) (i : Int) : wcl zP 96 [wR x, wI i] (sh, V) = rI (if i = 0 then f0 else f1) (sh, V) := by
  rw [w96_0, s.2.2.2.2.1, s.2.2.2.2.2]
  by_cases c : i = 0
  · rw [if_pos c, if_pos c]
  · rw [if_neg c, if_neg c]
theorem S94q (h : wLL sh x) (s : Sx sh x V tp ou lk f0 f1) (l : Int64) (n : Int) (hn : -2147483648 ≤ n ∧ n ≤ 2147483647) :
    (¬ (1 ≤ n ∧ n ≤ 8) → wcl zP 94 [wR x, wL l, wI n] (sh, V) = some (.inr 0, (sh, V))) ∧
    ((1 ≤ n ∧ n ≤ 8) → 400 < tp.length + n → wcl zP 94 [wR x, wL l, wI n] (sh, V) = some (.inr 1, (sh, V))) ∧
    ((1 ≤ n ∧ n ≤ 8) → tp.length + n ≤ 400 → ∃ V', wcl zP 94 [wR x, wL l, wI n] (sh, V) = rI (tp.length + n) (sh, V') ∧ Sx sh x V' (tp ++ fdL l n.toNat 0) ou lk f0 f1) := by
  have t0 := tx_sz (s.1 _ h.r0)
  rw [s.2.1] at t0
  rcases S94 h s.1 l n hn with k | k | k
  · exact ⟨fun _ => k.2, fun w => absurd w k.1, fun w => absurd w k.1⟩
  · exact ⟨fun w => absurd k.1 w, fun _ _ => k.2.2, fun _ w => absurd k.2.1 (by omega)⟩
  · refine ⟨fun w => absurd k.1 w, fun _ w => absurd k.2.1 (by omega), fun _ _ => ?_⟩
    obtain ⟨V', e, u⟩ := k.2.2
    rw [s.2.1] at u
    exact ⟨V', by rw [e, ← t0], s.tape h u⟩
end
