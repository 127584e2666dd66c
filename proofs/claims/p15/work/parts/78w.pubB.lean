set_option maxRecDepth 16384
/-! the methods that can be called: those that make a reference -/
theorem FrO.kp {sh : zSh} {x : Nat} {os : List Nat} {V V' : wSt} (f : FrO os V V') (n : nRw sh os) (nx : x ∉ os) (A : AllR sh V) (E : Nat → Prop) : Kp sh x E V V' :=
  ⟨f.all n A, f x nx, fun s hs _ => by
    have g := f.row n (A s hs)
    exact ⟨g.2.1, g.2.2⟩⟩
theorem mrg_cg {B B' : Nat → List Int × Int} (h : ∀ k, k < 7 → B k = B' k) {L L' : List Int} (e : L = L') : mrg B L = mrg B' L' := by
  unfold mrg; rw [h 2 (by decide), h 4 (by decide), e]
theorem qBeh_cg {Q Q' B B' R R' : Nat → List Int × Int} (hq : ∀ k, k < 7 → k = 0 → Q k = Q' k) (hB : ∀ k, k < 7 → B k = B' k) (hR : ∀ k, k < 7 → R k = R' k) : ∀ k, k < 6 → qBeh Q B R k = qBeh Q' B' R' k := fun k hk => by
  unfold qBeh
  rw [hR 2 (by decide), hR 4 (by decide), hR 5 (by decide), hB 4 (by decide), hB 5 (by decide), mrg_cg hB rfl, hB k (by omega), hR k (by omega)]
  by_cases c : k = 1 ∨ k = 2 ∨ k = 3
  · rw [if_pos c, if_pos c]
  · rw [if_neg c, if_neg c]
    by_cases c5 : k = 5
    · rw [if_pos c5, if_pos c5]
    · rw [if_neg c5, if_neg c5]
      by_cases c4 : k = 4
      · rw [if_pos c4, if_pos c4]
      · rw [if_neg c4, if_neg c4]; exact hq k (by omega) (by omega)
theorem qRes_cg {Q Q' B B' R R' : Nat → List Int × Int} (s : Int) (hB : ∀ k, k < 7 → B k = B' k) (hR : ∀ k, k < 7 → R k = R' k) : ∀ k, k < 7 → qRes Q B R s k = qRes Q' B' R' s k := fun k hk => by
  unfold qRes
  refine pgd_cg (fun j hj => ?_) k hk
  rw [hR 0 (by decide), hB 0 (by decide)]
  by_cases c : (R' 0).2 ≠ 0 ∧ (s ≠ 0 ∨ ¬ R' 0 = B' 0)
  · rw [if_pos c, if_pos c]; exact pup_cg hR (by rw [hR 4 (by decide)]) j hj
  · rw [if_neg c, if_neg c]
    unfold pup
    by_cases c6 : j = 6
    · rw [if_pos c6, if_pos c6, hR 6 (by decide)]
    · rw [if_neg c6, if_neg c6]
      exact qBeh_cg (Q := fun k => if k = 0 then B' 0 else Q k) (Q' := fun k => if k = 0 then B' 0 else Q' k) (fun i _ h0 => by rw [if_pos h0, if_pos h0]) hB hR j (by omega)
theorem qNrm_cg {T T' : Nat → List Int × Int} (hw : Int) (W : Nat → Int) (h : ∀ k, k < 7 → T k = T' k) : ∀ k, k < 7 → qNrm T hw W k = qNrm T' hw W k := by
  have a1 : ∀ k, k < 7 → qN1 T hw k = qN1 T' hw k := fun k hk => by
    unfold qN1; split
    · exact h k hk
    · exact qLet_cg h k hk
  have a2 : ∀ k, k < 7 → qN2 T hw k = qN2 T' hw k := fun k hk => by
    unfold qN2; split
    · exact a1 k hk
    · exact qFre_cg a1 k hk
  have a3 : ∀ k, k < 7 → qN3 T hw k = qN3 T' hw k := fun k hk => by
    unfold qN3; split
    · exact a2 k hk
    · exact qDot_cg a2 k hk
  have a4 : ∀ k, k < 7 → qN4 T hw k = qN4 T' hw k := fun k hk => by
    unfold qN4; split
    · exact a3 k hk
    · exact qPrt_cg a3 k hk
  intro k hk
  unfold qNrm; split
  · exact a4 k hk
  · exact pup_cg a4 (by rw [a4 2 (by decide)]) k hk
theorem qWay_cg {B B' T T' : Nat → List Int × Int} (w : Int) (hB : ∀ k, k < 7 → B k = B' k) (hT : ∀ k, k < 7 → T k = T' k) : ∀ k, k < 7 → qWay w B T k = qWay w B' T' k := fun k hk => by
  unfold qWay
  rw [hT 6 (by decide), hT 5 (by decide), hT 4 (by decide), hT 0 (by decide), hB 4 (by decide), hT k hk]
section
variable {sh : zSh} {x : Nat} {V : wSt} {tp ou : List Int} {lk : Nat → Nat → List Int × Int} {f0 f1 : Int}
theorem Sx.le (h : wLL sh x) (s : Sx sh x V tp ou lk f0 f1) {p : Nat} (hp : p < 8) : wLe sh V (wP sh x p) := fun k hk => by
  have l := pv_le s.1 (h.P (by omega)) (h.cl hp) hk
  split at l <;> exact l
/-- the draft, where it is no longer than a link, goes to a link -/
theorem toLink (h : wLL sh x) (s : Sx sh x V tp ou lk f0 f1) {i d : Nat} (hi : i < 8) (hd : 8 ≤ d ∧ d < 11) {Q : Nat → List Int × Int} (g : ∀ k, k < 7 → pv sh V (wP sh x d) k = Q k) (l : pln Q ≤ 400) : ∃ V', wcl zP 24 [wR (wP sh x i), wR (wP sh x d)] (sh, V) = rN (sh, V') ∧ Sx sh x V' tp ou (lup lk i Q) f0 f1 ∧ wcl zP 27 [wR (wP sh x i)] (sh, V') = rI (pln Q) (sh, V') := by
  obtain ⟨V1, e1, w1⟩ := S24 s.1 h.Z (h.P (p := i) (by omega)) (h.P (p := d) hd.2) (h.dj (by omega) hd.2 (by omega))
  have w2 : PwU sh V V1 (wP sh x i) Q := w1.cg (fun k hk => by
    rw [g k hk]
    refine pcut_id ?_
    rw [h.cl hi k hk]
    have := pln_ge Q k hk
    split <;> omega)
  refine ⟨V1, e1, s.link h hi w2, ?_⟩
  rw [S27q w2.2.1 (h.P (by omega)), pln_cg w2.2.2]
/-- what resolving answers -/
noncomputable def res (lk : Nat → Nat → List Int × Int) (b t : Nat) (s : Int) : Nat → List Int × Int := qRes (fun _ => ([], 0)) (lk b) (lk t) s
theorem S102 (h : wLL sh x) (s : Sx sh x V tp ou lk f0 f1) (i b t st : Int) : (¬ ((0 ≤ i ∧ i < 8) ∧ (0 ≤ b ∧ b < 8) ∧ (0 ≤ t ∧ t < 8)) → wcl zP 102 [wR x, wI i, wI b, wI t, wI st] (sh, V) = some (.inr 2, (sh, V))) ∧
    ((0 ≤ i ∧ i < 8) ∧ (0 ≤ b ∧ b < 8) ∧ (0 ≤ t ∧ t < 8) → (lk b.toNat 0).2 = 0 → wcl zP 102 [wR x, wI i, wI b, wI t, wI st] (sh, V) = some (.inr 1, (sh, V))) ∧
    ((0 ≤ i ∧ i < 8) ∧ (0 ≤ b ∧ b < 8) ∧ (0 ≤ t ∧ t < 8) → (lk b.toNat 0).2 ≠ 0 → 400 < pln (res lk b.toNat t.toNat st) → ∃ V', wcl zP 102 [wR x, wI i, wI b, wI t, wI st] (sh, V) = some (.inr 3, (sh, V')) ∧ Sx sh x V' tp ou lk f0 f1) ∧
    ((0 ≤ i ∧ i < 8) ∧ (0 ≤ b ∧ b < 8) ∧ (0 ≤ t ∧ t < 8) → (lk b.toNat 0).2 ≠ 0 → pln (res lk b.toNat t.toNat st) ≤ 400 → ∃ V', wcl zP 102 [wR x, wI i, wI b, wI t, wI st] (sh, V) = rI (pln (res lk b.toNat t.toNat st)) (sh, V') ∧ Sx sh x V' tp ou (lup lk i.toNat (res lk b.toNat t.toNat st)) f0 f1) := by
  have bad : ¬ ((0 ≤ i ∧ i < 8) ∧ (0 ≤ b ∧ b < 8) ∧ (0 ≤ t ∧ t < 8)) → wcl zP 102 [wR x, wI i, wI b, wI t, wI st] (sh, V) = some (.inr 2, (sh, V)) := fun hn => by
    rw [w102_0]
    by_cases c1 : 0 ≤ i ∧ i < 8
    · rw [S113y h c1]; simp only [wcx_v, wput_s, w102_5]
      by_cases c2 : 0 ≤ b ∧ b < 8
      · rw [S113y h c2]; simp only [wcx_v, wput_s, w102_12]
        rw [S113n h (fun c3 => hn ⟨c1, c2, c3⟩), wcx_t]
      · rw [S113n h c2, wcx_t]
    · rw [S113n h c1, wcx_t]
  have start : ((0 ≤ i ∧ i < 8) ∧ (0 ≤ b ∧ b < 8) ∧ (0 ≤ t ∧ t < 8)) → wcl zP 102 [wR x, wI i, wI b, wI t, wI st] (sh, V) = wev zP 102 19 [some (wR x), some (wI i), some (wI b), some (wI t), some (wI st), some (wR (wP sh x i.toNat)), some (wR (wP sh x b.toNat)), none] [wR (wP sh x t.toNat)] (sh, V) := fun hy => by
    rw [w102_0, S113y h hy.1]; simp only [wcx_v, wput_s, w102_5]
    rw [S113y h hy.2.1]; simp only [wcx_v, wput_s, w102_12]
    rw [S113y h hy.2.2]; simp only [wcx_v, wput_s]
  have hb0 : (0 ≤ b ∧ b < 8) → V (sr sh (wP sh x b.toNat) 0) 2 = (lk b.toNat 0).2 := fun hb => congrArg Prod.snd (s.2.2.2.1 b.toNat 0 (by omega) (by decide))
  have mid : ((0 ≤ i ∧ i < 8) ∧ (0 ≤ b ∧ b < 8) ∧ (0 ≤ t ∧ t < 8)) → (lk b.toNat 0).2 ≠ 0 → ∃ V1, wcl zP 102 [wR x, wI i, wI b, wI t, wI st] (sh, V) = wev zP 102 60 [some (wR x), some (wI i), some (wI b), some (wI t), some (wI st), some (wR (wP sh x i.toNat)), some (wR (wP sh x b.toNat)), some (wR (wP sh x t.toNat))] [wI (pln (res lk b.toNat t.toNat st))] (sh, V1) ∧ Sx sh x V1 tp ou lk f0 f1 ∧ ∀ k, k < 7 → pv sh V1 (wP sh x 8) k = res lk b.toNat t.toNat st k := fun hy h0 => by
    have P8 := h.P (p := 8) (by decide)
    obtain ⟨V1, e1, w1⟩ := S53 st s.1 h.Z P8 (h.P (p := b.toNat) (by omega)) (h.P (p := t.toNat) (by omega)) (h.dj (by decide) (by omega) (by omega)) (h.dj (by decide) (by omega) (by omega)) (h.cd (by decide) (by decide)) (s.le h (by omega)) (s.le h (by omega))
    have g1 : ∀ k, k < 7 → pv sh V1 (wP sh x 8) k = res lk b.toNat t.toNat st k := fun k hk => (w1.2.2 k hk).trans (qRes_cg st (fun j hj => s.2.2.2.1 b.toNat j (by omega) hj) (fun j hj => s.2.2.2.1 t.toNat j (by omega) hj) k hk)
    refine ⟨V1, ?_, s.hid h ((w1.kp h P8).mono (hid_d (by decide) (by decide))), g1⟩
    rw [start hy, w102_19, hb0 hy.2.1, if_neg h0]
    rw [show sr sh x 7 = wP sh x 8 from rfl, e1]
    simp only [wcx_v, wput_n, w102_53]
    rw [show sr sh x 7 = wP sh x 8 from rfl, S27q w1.2.1 P8, pln_cg g1]
    simp only [wcx_v, wput_s]
  refine ⟨bad, fun hy h0 => ?_, fun hy h0 hl => ?_, fun hy h0 hl => ?_⟩
  · rw [start hy, w102_19, hb0 hy.2.1, if_pos h0]
  · obtain ⟨V1, e1, s1, g1⟩ := mid hy h0
    exact ⟨V1, by rw [e1, w102_60, if_neg (by omega)], s1⟩
  · obtain ⟨V1, e1, s1, g1⟩ := mid hy h0
    obtain ⟨V2, e2, s2, e3⟩ := toLink h s1 (i := i.toNat) (d := 8) (by omega) (by decide) g1 hl
    refine ⟨V2, ?_, s2⟩
    rw [e1, w102_60, if_pos hl, show sr sh x 7 = wP sh x 8 from rfl, e2]
    simp only [wcx_v, wput_n, w102_83]
    rw [e3]
    simp only [wcx_v, wput_s, w102_88]
theorem S114y {hw : Int} (hh : 0 ≤ hw ∧ hw ≤ 31) : wcl zP 114 [wI hw] (sh, V) = rN (sh, V) := by rw [w114_0, if_neg (by omega), if_pos hh.2]
theorem S114n {hw : Int} (hh : ¬ (0 ≤ hw ∧ hw ≤ 31)) : wcl zP 114 [wI hw] (sh, V) = some (.inr 0, (sh, V)) := by
  rw [w114_0]
  by_cases c : hw < 0
  · rw [if_pos c]
  · rw [if_neg c, if_neg (by omega)]
/-- what normalising answers -/
noncomputable def nrm (lk : Nat → Nat → List Int × Int) (t : Nat) (hw : Int) (W : Nat → Int) : Nat → List Int × Int := qNrm (lk t) hw W
theorem toNorm (h : wLL sh x) (s : Sx sh x V tp ou lk f0 f1) {t d : Nat} (ht : t < 8) (hd : 8 ≤ d ∧ d < 11) (hw : Int) (h5 : (lk t 3).1.length ≤ 5) : ∃ V', wcl zP 16 [wR (wP sh x d), wR (wP sh x t), wI hw, wR (sr sh x 6)] (sh, V) = rN (sh, V') ∧ Sx sh x V' tp ou lk f0 f1 ∧ Kp sh x (fun s => ∃ k, k < 7 ∧ s = sr sh (wP sh x d) k) V V' ∧ ∀ k, k < 7 → pv sh V' (wP sh x d) k = nrm lk t hw (V (sr sh (sr sh x 6) 0)) k := by
  have Pd := h.P hd.2
  obtain ⟨V1, e1, w1⟩ := S16 hw s.1 h.Z Pd (h.P (p := t) (by omega)) (h.dj hd.2 (by omega) (by omega)) (h.cd hd.1 hd.2) (s.le h ht) (by rw [s.2.2.2.1 t 3 ht (by decide)]; exact h5) h.ad
  have k1 := PwA.kp h Pd w1
  exact ⟨V1, e1, s.hid h (k1.mono (hid_d hd.1 hd.2)), k1, fun k hk => (w1.2.2 k hk).trans (qNrm_cg hw _ (fun j hj => s.2.2.2.1 t j ht hj) k hk)⟩
theorem S103 (h : wLL sh x) (s : Sx sh x V tp ou lk f0 f1) (i t hw : Int) (h5 : (lk t.toNat 3).1.length ≤ 5) : (¬ ((0 ≤ i ∧ i < 8) ∧ (0 ≤ t ∧ t < 8)) → wcl zP 103 [wR x, wI i, wI t, wI hw] (sh, V) = some (.inr 2, (sh, V))) ∧
    ((0 ≤ i ∧ i < 8) ∧ (0 ≤ t ∧ t < 8) → ¬ (0 ≤ hw ∧ hw ≤ 31) → wcl zP 103 [wR x, wI i, wI t, wI hw] (sh, V) = some (.inr 0, (sh, V))) ∧
    ((0 ≤ i ∧ i < 8) ∧ (0 ≤ t ∧ t < 8) → (0 ≤ hw ∧ hw ≤ 31) → 400 < pln (nrm lk t.toNat hw (V (sr sh (sr sh x 6) 0))) → ∃ V', wcl zP 103 [wR x, wI i, wI t, wI hw] (sh, V) = some (.inr 3, (sh, V')) ∧ Sx sh x V' tp ou lk f0 f1) ∧
    ((0 ≤ i ∧ i < 8) ∧ (0 ≤ t ∧ t < 8) → (0 ≤ hw ∧ hw ≤ 31) → pln (nrm lk t.toNat hw (V (sr sh (sr sh x 6) 0))) ≤ 400 → ∃ V', wcl zP 103 [wR x, wI i, wI t, wI hw] (sh, V) = rI (pln (nrm lk t.toNat hw (V (sr sh (sr sh x 6) 0)))) (sh, V') ∧ Sx sh x V' tp ou (lup lk i.toNat (nrm lk t.toNat hw (V (sr sh (sr sh x 6) 0)))) f0 f1) := by
  have start : ((0 ≤ i ∧ i < 8) ∧ (0 ≤ t ∧ t < 8)) → wcl zP 103 [wR x, wI i, wI t, wI hw] (sh, V) = wcx (wcl zP 114 [wI hw] (sh, V)) (fun v h' => wev zP 103 18 [some (wR x), some (wI i), some (wI t), some (wI hw), some (wR (wP sh x i.toNat)), some (wR (wP sh x t.toNat))] (wput v []) h') wth := fun hy => by
    rw [w103_0, S113y h hy.1]; simp only [wcx_v, wput_s, w103_5]
    rw [S113y h hy.2]; simp only [wcx_v, wput_s, w103_12]
  have mid : ((0 ≤ i ∧ i < 8) ∧ (0 ≤ t ∧ t < 8)) → (0 ≤ hw ∧ hw ≤ 31) → ∃ V1, wcl zP 103 [wR x, wI i, wI t, wI hw] (sh, V) = wev zP 103 39 [some (wR x), some (wI i), some (wI t), some (wI hw), some (wR (wP sh x i.toNat)), some (wR (wP sh x t.toNat))] [wI (pln (nrm lk t.toNat hw (V (sr sh (sr sh x 6) 0))))] (sh, V1) ∧ Sx sh x V1 tp ou lk f0 f1 ∧ ∀ k, k < 7 → pv sh V1 (wP sh x 8) k = nrm lk t.toNat hw (V (sr sh (sr sh x 6) 0)) k := fun hy hh => by
    obtain ⟨V1, e1, s1, -, g1⟩ := toNorm h s (t := t.toNat) (d := 8) (by omega) (by decide) hw h5
    refine ⟨V1, ?_, s1, g1⟩
    rw [start hy, S114y hh]
    simp only [wcx_v, wput_n, w103_18]
    rw [show sr sh x 7 = wP sh x 8 from rfl, e1]
    simp only [wcx_v, wput_n, w103_32]
    rw [show sr sh x 7 = wP sh x 8 from rfl, S27q s1.1 (h.P (by decide)), pln_cg g1]
    simp only [wcx_v, wput_s]
  refine ⟨fun hn => ?_, fun hy hh => ?_, fun hy hh hl => ?_, fun hy hh hl => ?_⟩
  · rw [w103_0]
    by_cases c1 : 0 ≤ i ∧ i < 8
    · rw [S113y h c1]; simp only [wcx_v, wput_s, w103_5]
      rw [S113n h (fun c3 => hn ⟨c1, c3⟩), wcx_t]
    · rw [S113n h c1, wcx_t]
  · rw [start hy, S114n hh, wcx_t]
  · obtain ⟨V1, e1, s1, g1⟩ := mid hy hh
    exact ⟨V1, by rw [e1, w103_39, if_neg (by omega)], s1⟩
  · obtain ⟨V1, e1, s1, g1⟩ := mid hy hh
    obtain ⟨V2, e2, s2, e3⟩ := toLink h s1 (i := i.toNat) (d := 8) (by omega) (by decide) g1 hl
    refine ⟨V2, ?_, s2⟩
    rw [e1, w103_39, if_pos hl, show sr sh x 7 = wP sh x 8 from rfl, e2]
    simp only [wcx_v, wput_n, w103_62]
    rw [e3]
    simp only [wcx_v, wput_s, w103_67]
theorem S105 (h : wLL sh x) (s : Sx sh x V tp ou lk f0 f1) (i t hw : Int) (h5 : (lk t.toNat 3).1.length ≤ 5) (h5i : (lk i.toNat 3).1.length ≤ 5) : (¬ ((0 ≤ i ∧ i < 8) ∧ (0 ≤ t ∧ t < 8)) → wcl zP 105 [wR x, wI i, wI t, wI hw] (sh, V) = some (.inr 2, (sh, V))) ∧
    ((0 ≤ i ∧ i < 8) ∧ (0 ≤ t ∧ t < 8) → ¬ (0 ≤ hw ∧ hw ≤ 31) → wcl zP 105 [wR x, wI i, wI t, wI hw] (sh, V) = some (.inr 0, (sh, V))) ∧
    ((0 ≤ i ∧ i < 8) ∧ (0 ≤ t ∧ t < 8) → (0 ≤ hw ∧ hw ≤ 31) → ∃ V' W W', wcl zP 105 [wR x, wI i, wI t, wI hw] (sh, V) = rI (bI (∀ k : Nat, k < 7 → nrm lk i.toNat hw W k = nrm lk t.toNat hw W' k)) (sh, V') ∧ Sx sh x V' tp ou lk f0 f1) := by
  have start : ((0 ≤ i ∧ i < 8) ∧ (0 ≤ t ∧ t < 8)) → wcl zP 105 [wR x, wI i, wI t, wI hw] (sh, V) = wcx (wcl zP 114 [wI hw] (sh, V)) (fun v h' => wev zP 105 18 [some (wR x), some (wI i), some (wI t), some (wI hw), some (wR (wP sh x i.toNat)), some (wR (wP sh x t.toNat))] (wput v []) h') wth := fun hy => by
    rw [w105_0, S113y h hy.1]; simp only [wcx_v, wput_s, w105_5]
    rw [S113y h hy.2]; simp only [wcx_v, wput_s, w105_12]
  refine ⟨fun hn => ?_, fun hy hh => ?_, fun hy hh => ?_⟩
  · rw [w105_0]
    by_cases c1 : 0 ≤ i ∧ i < 8
    · rw [S113y h c1]; simp only [wcx_v, wput_s, w105_5]
      rw [S113n h (fun c3 => hn ⟨c1, c3⟩), wcx_t]
    · rw [S113n h c1, wcx_t]
  · rw [start hy, S114n hh, wcx_t]
  · obtain ⟨V1, e1, s1, -, g1⟩ := toNorm h s (t := i.toNat) (d := 8) (by omega) (by decide) hw h5i
    obtain ⟨V2, e2, s2, k2, g2⟩ := toNorm h s1 (t := t.toNat) (d := 10) (by omega) (by decide) hw h5
    have P8 := h.P (p := 8) (by decide)
    have g1' : ∀ k, k < 7 → pv sh V2 (wP sh x 8) k = nrm lk i.toNat hw (V (sr sh (sr sh x 6) 0)) k := fun k hk => (k2.pv P8 (fun m hm ⟨n, hn, w⟩ => h.dj (by decide : 10 < 11) (by decide : 8 < 11) (by decide) m n hm hn w) hk).trans (g1 k hk)
    refine ⟨V2, V (sr sh (sr sh x 6) 0), V1 (sr sh (sr sh x 6) 0), ?_, s2⟩
    rw [start hy, S114y hh]
    simp only [wcx_v, wput_n, w105_18]
    rw [show sr sh x 7 = wP sh x 8 from rfl, e1]
    simp only [wcx_v, wput_n, w105_32]
    rw [show sr sh x 9 = wP sh x 10 from rfl, e2]
    simp only [wcx_v, wput_n, w105_46]
    rw [show sr sh x 7 = wP sh x 8 from rfl, show sr sh x 9 = wP sh x 10 from rfl, S26 s2.1 P8 (h.P (by decide))]
    simp only [wcx_v, wput_s, w105_57]
    refine rI_cg ?_
    by_cases w : ∀ k : Nat, k < 7 → pv sh V2 (wP sh x 8) k = pv sh V2 (wP sh x 10) k
    · rw [bI_1 w, bI_1 (fun k hk => by rw [← g1' k hk, w k hk, g2 k hk])]
    · rw [bI_0 w, bI_0 (fun z => w (fun k hk => by rw [g1' k hk, z k hk, g2 k hk]))]
end
