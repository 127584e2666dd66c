set_option maxRecDepth 16384
/-! a call of the class, and the same call of the model -/
theorem decA_len (f : Int → Int) (e : Int) : ∀ (n : Nat) (i : Int), (decA f e n i).length ≤ n := by
  intro n
  induction n with
  | zero => intro i; exact Nat.le_refl _
  | succ n ih =>
    intro i
    rw [decA]
    split
    · exact Nat.zero_le _
    · split
      · rw [List.length_cons]; have := ih (i + 1); omega
      · rw [List.length_cons]; have := ih (i + 3); omega
theorem dec_len (f : Int → Int) (e i : Int) (h : 0 ≤ i) {n : Nat} (he : e ≤ n) : (dec f e i).length ≤ n := by
  have := decA_len f e (e - i).toNat i
  unfold dec; omega
theorem sgt_len (L : List Int) {j : Int} (hl : L.length ≤ 400) : (sgt L j).take 400 = sgt L j := by
  have fl : 0 ≤ (if gl L 0 = 47 then (1 : Int) else 0) ∧ (if gl L 0 = 47 then (1 : Int) else 0) ≤ L.length + 1 := by split <;> omega
  have sr2 := sop_r (gl L) 47 L.length (by omega) j.toNat _ fl.1 fl.2
  have sr2 : 0 ≤ sgs L j ∧ sgs L j ≤ L.length + 1 := sr2
  have cr := cfn_r (gl L) 47 (sgs L j) L.length
  refine List.take_of_length_le ?_
  unfold sgt
  exact dec_len _ _ _ sr2.1 (by
    by_cases c : sgs L j ≤ L.length
    · have := cr.1 c; omega
    · have := cr.2 (by omega); omega)
theorem prt_len (L : List Int) {j v : Int} (hl : L.length ≤ 400) : (prt L j v).take 400 = prt L j v := by
  have sr2 := sop_r (gl L) 38 L.length (by omega) j.toNat 0 (Int.le_refl 0) (by omega)
  have sr2 : 0 ≤ prA L j ∧ prA L j ≤ L.length + 1 := sr2
  have e1 : prE L j ≤ L.length := by
    have cr := cfn_r (gl L) 38 (prA L j) L.length
    unfold prE
    by_cases c : prA L j ≤ L.length
    · have := cr.1 c; omega
    · have := cr.2 (by omega); omega
  have cs := cfn_r (gl L) 61 (prA L j) (prE L j)
  have e2 : prS L j ≤ prE L j := by
    unfold prS
    by_cases c : prA L j ≤ prE L j
    · have := cs.1 c; omega
    · have := cs.2 (by omega); omega
  have e3 : 0 ≤ prE L j := by
    have cr := cfn_r (gl L) 38 (prA L j) L.length
    unfold prE
    by_cases c : prA L j ≤ L.length
    · have := cr.1 c; omega
    · have := cr.2 (by omega); omega
  have e4 : 0 ≤ prS L j := by
    unfold prS
    by_cases c : prA L j ≤ prE L j
    · have := cs.1 c; omega
    · have := cs.2 (by omega); omega
  refine List.take_of_length_le ?_
  unfold prt
  split
  · exact dec_len _ _ _ sr2.1 (by omega)
  · exact dec_len _ _ _ (by omega) (by omega)
section
variable {sh : zSh} {x m : Nat} {V : wSt}
/-- class and model hold the same -/
def IW (sh : zSh) (x m : Nat) (V : wSt) : Prop := ∃ tp ou lk f0 f1 rw', Sx sh x V tp ou lk f0 f1 ∧ Mx sh m V tp ou rw' ∧ (∀ p k, p < 8 → k < 7 → lk p k = cutQ (rw' p) k) ∧ ∀ p, p < 8 → Va (cutQ (rw' p))
/-- what the law makes of a verdict -/
def cE (l : List Int) (R : Option wV ⊕ Nat) : Int := match R with
  | .inl _ => 0
  | .inr E => l.getD E 0
/-- both calls, one behind the other: V1 behind the first, V2 behind both; the two sides don't touch each other -/
def Stq (aM aC : wSt → wSt → Prop) (sh : zSh) (x m : Nat) (V : wSt) (kc : Nat) (ac : List wV) (km : Nat) (am : List wV) (l : List Int) : Prop :=
  ∃ R V1, wcl zP kc ac (sh, V) = some (R, (sh, V1)) ∧ (aM V V1 → ∃ y V2, wcl zP km am (sh, V1) = some (.inl (some y), (sh, V2)) ∧ V2 m 0 = cE l R ∧ (∀ v, R = .inl (some v) → v = y) ∧ (aC V1 V2 → IW sh x m V2))
/-- what one side does leaves the other -/
def liftM (aM : wSt → wSt → Prop) (sh : zSh) (m : Nat) : Prop := ∀ {U U' : wSt} {tp ou : List Int} {rw' : Nat → List Int}, aM U U' → Mx sh m U tp ou rw' → Mx sh m U' tp ou rw'
def liftC (aC : wSt → wSt → Prop) (sh : zSh) (x : Nat) : Prop := ∀ {U U' : wSt} {tp ou : List Int} {lk : Nat → Nat → List Int × Int} {f0 f1 : Int}, aC U U' → Sx sh x U tp ou lk f0 f1 → Sx sh x U' tp ou lk f0 f1
variable {aM aC : wSt → wSt → Prop}
theorem rel_up {lk : Nat → Nat → List Int × Int} {rw' : Nat → List Int} (rel : ∀ p k, p < 8 → k < 7 → lk p k = cutQ (rw' p) k) (va : ∀ p, p < 8 → Va (cutQ (rw' p))) {i : Nat} {Q : Nat → List Int × Int} {N : List Int} (hc : ∀ k, k < 7 → cutQ N k = Q k) (hv : Va (cutQ N)) : (∀ p k, p < 8 → k < 7 → lup lk i Q p k = cutQ (rup rw' i N p) k) ∧ (∀ p, p < 8 → Va (cutQ (rup rw' i N p))) ∧ pln Q = (N.length : Int) := by
  refine ⟨fun p k hp hk => ?_, fun p hp => ?_, ?_⟩
  · unfold lup rup
    by_cases c : p = i
    · rw [if_pos c, if_pos c]; exact (hc k hk).symm
    · rw [if_neg c, if_neg c]; exact rel p k hp hk
  · unfold rup
    split
    · exact hv
    · exact va p hp
  · rw [← pln_cut N]; exact pln_cg (fun k hk => (hc k hk).symm)
theorem good_up {Q Q' : Nat → List Int × Int} (g : Good Q') (e : ∀ k, k < 7 → Q k = Q' k) : (∀ k, k < 7 → cutQ (cmm Q') k = Q k) ∧ Va (cutQ (cmm Q')) := by
  have c := g.cut
  rw [← cmm_cmp g.1] at c
  exact ⟨fun k hk => (c k hk).trans (e k hk).symm, Va_cg (fun k hk => (c k hk).symm) g.2.2⟩
theorem sx_by {s : zSh} {r : Nat} {tp : List Int} (h : tx s V r = tp) : ∀ z, z ∈ tp → 0 ≤ z ∧ z ≤ 255 := fun z hz => by
  have b := tx_lB s V r
  rw [h] at b
  obtain ⟨k, hk, e⟩ := List.getElem_of_mem hz
  have := b k hk
  rw [List.getD_eq_getElem?_getD, List.getElem?_eq_getElem hk] at this
  rw [← e]; exact this
theorem st_read (fM : liftM aM sh m) (fC : liftC aC sh x) (h : wLL sh x) (M : wMd sh m) (iv : IW sh x m V) (i : Int) : Stq aM aC sh x m V 95 [wR x, wI i] 165 [wR m, wI i] [2, 0, 1, 0] := by
  obtain ⟨tp, ou, lk, f0, f1, rw', s, t, rel, va⟩ := iv
  have S := S95x h s i
  by_cases hi : 0 ≤ i ∧ i < 8
  · by_cases hv : Va (cutQ tp)
    · obtain ⟨V1, g0, g1, e1, s1⟩ := S.2.2 hi hv
      refine ⟨_, V1, e1, fun a => ?_⟩
      obtain ⟨V2, e2, t2, c2⟩ := (M165x M (fM a t) i).2.2 hi hv
      obtain ⟨r1, r2, -⟩ := rel_up rel va (i := i.toNat) (Q := cutQ tp) (N := tp) (fun k hk => rfl) hv
      exact ⟨_, V2, e2, c2, fun v hv' => by cases hv'; rfl, fun b => ⟨_, _, _, _, _, _, fC b s1, t2, r1, r2⟩⟩
    · obtain ⟨V1, g0, g1, e1, s1⟩ := S.2.1 hi hv
      refine ⟨_, V1, e1, fun a => ?_⟩
      obtain ⟨V2, e2, t2, c2⟩ := (M165x M (fM a t) i).2.1 hi hv
      exact ⟨_, V2, e2, c2, fun v hv' => (by cases hv'), fun b => ⟨_, _, _, _, _, _, fC b s1, t2, rel, va⟩⟩
  · obtain ⟨V1, g0, g1, e1, s1⟩ := S.1 hi
    refine ⟨_, V1, e1, fun a => ?_⟩
    obtain ⟨V2, e2, t2, c2⟩ := (M165x M (fM a t) i).1 hi
    exact ⟨_, V2, e2, c2, fun v hv' => (by cases hv'), fun b => ⟨_, _, _, _, _, _, fC b s1, t2, rel, va⟩⟩
theorem st_feed (fM : liftM aM sh m) (fC : liftC aC sh x) (h : wLL sh x) (M : wMd sh m) (iv : IW sh x m V) (l : Int64) (n : Int) (hn : -2147483648 ≤ n ∧ n ≤ 2147483647) : Stq aM aC sh x m V 94 [wR x, wL l, wI n] 164 [wR m, wL l, wI n] [1, 2, 0, 0] := by
  obtain ⟨tp, ou, lk, f0, f1, rw', s, t, rel, va⟩ := iv
  have S := S94q h s l n hn
  have cc : ∀ (X : wSt) (y : Int), uI X m 0 y m 0 = y := fun X y => (fld (V := X) M 0 y).2.2
  by_cases c : 1 ≤ n ∧ n ≤ 8
  · by_cases d : (tp.length : Int) + n ≤ 400
    · obtain ⟨V1, e1, s1⟩ := S.2.2 c d
      refine ⟨_, V1, e1, fun a => ?_⟩
      obtain ⟨V2, e2, t2, c2⟩ := (M164x M (fM a t) l n hn).2.2 c d
      exact ⟨_, V2, e2, c2, fun v hv' => by cases hv'; rfl, fun b => ⟨_, _, _, _, _, _, fC b s1, t2, rel, va⟩⟩
    · refine ⟨_, V, S.2.1 c (by omega), fun a => ?_⟩
      exact ⟨_, _, (M164x M t l n hn).2.1 c (by omega), cc V 2, fun v hv' => (by cases hv'), fun b => ⟨_, _, _, _, _, _, fC b s, Mx_fld M t 0 (by decide) 2, rel, va⟩⟩
  · refine ⟨_, V, S.1 c, fun a => ?_⟩
    exact ⟨_, _, (M164x M t l n hn).1 c, cc V 1, fun v hv' => (by cases hv'), fun b => ⟨_, _, _, _, _, _, fC b s, Mx_fld M t 0 (by decide) 1, rel, va⟩⟩
theorem st_write (fM : liftM aM sh m) (fC : liftC aC sh x) (h : wLL sh x) (M : wMd sh m) (iv : IW sh x m V) (i : Int) : Stq aM aC sh x m V 97 [wR x, wI i] 167 [wR m, wI i] [0, 0, 1, 0] := by
  obtain ⟨tp, ou, lk, f0, f1, rw', s, t, rel, va⟩ := iv
  have S := S97 h s i
  have cc : ∀ (X : wSt) (y : Int), uI X m 0 y m 0 = y := fun X y => (fld (V := X) M 0 y).2.2
  by_cases hi : 0 ≤ i ∧ i < 8
  · have e : (cmp (lk i.toNat)).take 400 = rw' i.toNat := by
      rw [cmp_cg (fun k hk => rel i.toNat k (by omega) hk), cmp_cut]
      exact List.take_of_length_le (t.2.2.2.2.2.2 _ (by omega))
    obtain ⟨V1, e1, s1⟩ := S.2 hi
    rw [e] at e1 s1
    refine ⟨_, V1, e1, fun a => ?_⟩
    obtain ⟨V2, e2, t2, c2⟩ := (M167q M (fM a t) i).2 hi
    exact ⟨_, V2, e2, c2, fun v hv' => by cases hv'; rfl, fun b => ⟨_, _, _, _, _, _, fC b s1, t2, rel, va⟩⟩
  · refine ⟨_, V, S.1 hi, fun a => ?_⟩
    exact ⟨_, _, (M167q M t i).1 hi, cc V 1, fun v hv' => (by cases hv'), fun b => ⟨_, _, _, _, _, _, fC b s, Mx_fld M t 0 (by decide) 1, rel, va⟩⟩
theorem st_part (fM : liftM aM sh m) (fC : liftC aC sh x) (h : wLL sh x) (M : wMd sh m) (iv : IW sh x m V) (i p : Int) : Stq aM aC sh x m V 98 [wR x, wI i, wI p] 168 [wR m, wI i, wI p] [2, 0, 1, 0] := by
  obtain ⟨tp, ou, lk, f0, f1, rw', s, t, rel, va⟩ := iv
  have S := S98 h s i p
  have cc : ∀ (X : wSt) (y : Int), uI X m 0 y m 0 = y := fun X y => (fld (V := X) M 0 y).2.2
  by_cases hi : 0 ≤ i ∧ i < 8
  · by_cases hp : 0 ≤ p ∧ p < 7
    · obtain ⟨V1, e1, s1⟩ := S.2.2 hi hp
      rw [rel i.toNat p.toNat (by omega) (by omega)] at e1 s1
      refine ⟨_, V1, e1, fun a => ?_⟩
      obtain ⟨V2, e2, t2, c2⟩ := (M168 M (fM a t) i p).2.2 hi ⟨hp.1, by omega⟩
      exact ⟨_, V2, e2, c2, fun v hv' => by cases hv'; rfl, fun b => ⟨_, _, _, _, _, _, fC b s1, t2, rel, va⟩⟩
    · refine ⟨_, V, S.2.1 hi hp, fun a => ?_⟩
      exact ⟨_, _, (M168 M t i p).2.1 hi (fun w => hp ⟨w.1, by omega⟩), cc V 2, fun v hv' => (by cases hv'), fun b => ⟨_, _, _, _, _, _, fC b s, Mx_fld M t 0 (by decide) 2, rel, va⟩⟩
  · refine ⟨_, V, S.1 hi, fun a => ?_⟩
    exact ⟨_, _, (M168 M t i p).1 hi, cc V 1, fun v hv' => (by cases hv'), fun b => ⟨_, _, _, _, _, _, fC b s, Mx_fld M t 0 (by decide) 1, rel, va⟩⟩
theorem st_host (fM : liftM aM sh m) (fC : liftC aC sh x) (h : wLL sh x) (M : wMd sh m) (iv : IW sh x m V) (i : Int) : Stq aM aC sh x m V 99 [wR x, wI i] 170 [wR m, wI i] [0, 0, 1, 0] := by
  obtain ⟨tp, ou, lk, f0, f1, rw', s, t, rel, va⟩ := iv
  have S := S99 h s i
  have cc : ∀ (X : wSt) (y : Int), uI X m 0 y m 0 = y := fun X y => (fld (V := X) M 0 y).2.2
  by_cases hi : 0 ≤ i ∧ i < 8
  · obtain ⟨V1, e1, s1⟩ := S.2 hi
    rw [rel i.toNat 2 (by omega) (by decide)] at e1
    refine ⟨_, V1, e1, fun a => ?_⟩
    obtain ⟨V2, e2, t2, c2⟩ := (M170 M (fM a t) i).2 hi
    exact ⟨_, V2, e2, c2, fun v hv' => by cases hv'; rfl, fun b => ⟨_, _, _, _, _, _, fC b s1, t2, rel, va⟩⟩
  · refine ⟨_, V, S.1 hi, fun a => ?_⟩
    exact ⟨_, _, (M170 M t i).1 hi, cc V 1, fun v hv' => (by cases hv'), fun b => ⟨_, _, _, _, _, _, fC b s, Mx_fld M t 0 (by decide) 1, rel, va⟩⟩
theorem st_addr (fM : liftM aM sh m) (fC : liftC aC sh x) (h : wLL sh x) (M : wMd sh m) (iv : IW sh x m V) (i j : Int) : Stq aM aC sh x m V 100 [wR x, wI i, wI j] 171 [wR m, wI i, wI j] [3, 2, 1, 0] := by
  obtain ⟨tp, ou, lk, f0, f1, rw', s, t, rel, va⟩ := iv
  have S := S100 h s i j
  have cc : ∀ (X : wSt) (y : Int), uI X m 0 y m 0 = y := fun X y => (fld (V := X) M 0 y).2.2
  by_cases hi : 0 ≤ i ∧ i < 8
  · obtain ⟨V1, r, e1, s1, hr⟩ := S.2 hi
    rw [rel i.toNat 2 (by omega) (by decide)] at hr
    refine ⟨_, V1, e1, fun a => ?_⟩
    obtain ⟨V2, y, e2, t2, c2, y2⟩ := (M171 M (fM a t) i j (V (sr sh (sr sh x 6) 0))).2 hi
    refine ⟨_, V2, e2, ?_, fun v hv' => ?_, fun b => ⟨_, _, _, _, _, _, fC b s1, t2, rel, va⟩⟩
    · rw [c2, hr]
      by_cases d : kdo (cutQ (rw' i.toNat) 2) ≠ 2 ∧ kdo (cutQ (rw' i.toNat) 2) ≠ 3
      · rw [if_pos d, if_pos d]; rfl
      · rw [if_neg d, if_neg d]
        by_cases g : j < 0 ∨ (if kdo (cutQ (rw' i.toNat) 2) = 2 then 0 else 3) < j
        · rw [if_pos g, if_pos g]; rfl
        · rw [if_neg g, if_neg g]; rfl
    · rw [hr] at hv'
      by_cases d : kdo (cutQ (rw' i.toNat) 2) ≠ 2 ∧ kdo (cutQ (rw' i.toNat) 2) ≠ 3
      · rw [if_pos d] at hv'; cases hv'
      · rw [if_neg d] at hv' c2
        by_cases g : j < 0 ∨ (if kdo (cutQ (rw' i.toNat) 2) = 2 then 0 else 3) < j
        · rw [if_pos g] at hv'; cases hv'
        · rw [if_neg g] at hv' c2
          cases hv'
          rw [y2 c2]
  · refine ⟨_, V, S.1 hi, fun a => ?_⟩
    exact ⟨_, _, (M171 M t i j (fun _ => 0)).1 hi, cc V 1, fun v hv' => (by cases hv'), fun b => ⟨_, _, _, _, _, _, fC b s, Mx_fld M t 0 (by decide) 1, rel, va⟩⟩
end
