set_option maxRecDepth 16384
/-! the law's other cases, and its loop -/
theorem c225_2 {sh : zSh} {T MB r1 r2 r3 : Nat} (F : zCl sh T MB) (q1 : zLL sh T MB r1) (q2 : zMd sh MB r2) (qw : wLL sh r1) (mw : wMd sh r2) (q3 : sk sh r3 = (4, 1)) (h7 : ∀ a, MB ≤ a → sk sh a = (2, 7) → a = sr sh r2 10) (hc : 400 ≤ ((sk sh (sr sh T 0)).2 : Int)) (hL : sh.2.2.2.1 ≤ 240) {c0 s0 : Int} {x4 : Int} (hx : 0 ≤ x4 ∧ x4 + 5 ≤ (sh.2.2.2.1 : Int)) {o5 o6 : Option zV} (w5 : zisL o5 = false) (w6 : zisL o6 = false) {t1 : zSt} (I1 : LI sh r2 c0 s0 x4 t1) (J1 : (tg t1 T 1 = tg t1 (sr sh r2 2) 13 ∧ IW sh r1 r2 (tgs t1))) {Q : Option zV ⊕ Nat → zH → Prop} (K : ∀ (o5 o6 : Option zV) (t2 : zSt), zisL o5 = false → zisL o6 = false → LI sh r2 c0 s0 (x4 + 5) t2 → (tg t2 T 1 = tg t2 (sr sh r2 2) 13 ∧ IW sh r1 r2 (tgs t2)) → zok (zev zP 225 942 [some (zX 0), some (zR r1), some (zR r2), some (zR r3), some (zI (oI x4)), o5, o6] [] (sh, t2)) Q) : zok (zev zP 225 39 [some (zX 0), some (zR r1), some (zR r2), some (zR r3), some (zI (oI x4)), o5, o6] [zI (oI 2)] (sh, t1)) Q := by
  rw [b225_39]
  rw [if_neg (oI_nei (a := 2) (b := 0) (by decide) (by decide) (by decide)), if_neg (oI_nei (a := 2) (b := 1) (by decide) (by decide) (by decide)), if_pos rfl]
  simp only [oI_add]
  have key2 : ∀ b : Int, (b = 0 ∨ b = 1) → zok (zev zP 225 262 [some (zX 0), some (zR r1), some (zR r2), some (zR r3), some (zI (oI x4)), o5, o6] [zI (oI b), zR r2] (sh, t1)) Q := by
    intro b hb
    obtain ⟨y1, w1, yv, V2, w2, c2, iw⟩ := st_fault (liftM_q q2) (liftC_q F q1 qw) qw mw J1.2 b
    have hW2 : wcl zP 166 (([zR r2, zI (oI b)] : List zV).map ab) (abH (sh, t1)) = some (.inl (some (wI yv)), (sh, V2)) := by
      show wcl zP 166 [wR r2, wI (oI b).toInt] (sh, tgs t1) = _
      rw [oI_i (x := b) (by omega)]; exact w2
    rw [b225_262 (wo5 := w5) (wo6 := w6)]
    refine zok_ck q2.1 (zok_iW (s166 q2 (by omega) I1.2.1) (zag_cl zP 166 _ _) hW2 (fun y2 t3 uy2 p2 ey hv2 => ?_))
    obtain ⟨I3, J3⟩ := LI_V F q2 h7 I1 p2.1 (by decide)
    have IV3 : IW sh r1 r2 (tgs t3) := by rw [hv2]; exact iw (by rw [← hv2]; exact p2.1.aC q2 (by decide))
    rw [zput_s, b225_265 (wo5 := w5) (wo6 := w6)]
    exact K _ _ _ w5 w6 (LI_W I3) ⟨by rw [J3, J1.1]; exact p2.2.symm, IV3⟩
  have key : ∀ b : Int, (b = 0 ∨ b = 1) → zok (zev zP 225 243 [some (zX 0), some (zR r1), some (zR r2), some (zR r3), some (zI (oI x4)), o5, o6] [zI (oI b), zR r1] (sh, t1)) Q := by
    intro b hb
    rw [b225_243 (wo5 := w5) (wo6 := w6)]
    refine zok_ck q1.1 (zok_pI (s96 F q1 (by omega) I1.1) (fun y uy p => ?_))
    rw [zput_s, b225_246 (wo5 := w5) (wo6 := w6)]
    simp only [oI_add]
    exact zok_ck ⟨(by first | rfl | trivial), zin_o (by omega) (by show _ < ((sh.2.2.2.1 : Nat) : Int); omega) (by omega)⟩ (zok_if (fun _ => key2 0 (Or.inl rfl)) (fun _ => key2 1 (Or.inr rfl)))
  exact zok_ck ⟨(by first | rfl | trivial), zin_o (by omega) (by show _ < ((sh.2.2.2.1 : Nat) : Int); omega) (by omega)⟩ (zok_if (fun _ => key 0 (Or.inl rfl)) (fun _ => key 1 (Or.inr rfl)))
theorem c225_18 {sh : zSh} {T MB r1 r2 r3 : Nat} (F : zCl sh T MB) (q1 : zLL sh T MB r1) (q2 : zMd sh MB r2) (qw : wLL sh r1) (mw : wMd sh r2) (q3 : sk sh r3 = (4, 1)) (h7 : ∀ a, MB ≤ a → sk sh a = (2, 7) → a = sr sh r2 10) (hc : 400 ≤ ((sk sh (sr sh T 0)).2 : Int)) (hL : sh.2.2.2.1 ≤ 240) {c0 s0 : Int} {x4 : Int} (hx : 0 ≤ x4 ∧ x4 + 5 ≤ (sh.2.2.2.1 : Int)) {o5 o6 : Option zV} (w5 : zisL o5 = false) (w6 : zisL o6 = false) {t1 : zSt} (I1 : LI sh r2 c0 s0 x4 t1) (J1 : (tg t1 T 1 = tg t1 (sr sh r2 2) 13 ∧ IW sh r1 r2 (tgs t1))) {Q : Option zV ⊕ Nat → zH → Prop} (K : ∀ (o5 o6 : Option zV) (t2 : zSt), zisL o5 = false → zisL o6 = false → LI sh r2 c0 s0 (x4 + 5) t2 → (tg t2 T 1 = tg t2 (sr sh r2 2) 13 ∧ IW sh r1 r2 (tgs t2)) → zok (zev zP 225 942 [some (zX 0), some (zR r1), some (zR r2), some (zR r3), some (zI (oI x4)), o5, o6] [] (sh, t2)) Q) : zok (zev zP 225 39 [some (zX 0), some (zR r1), some (zR r2), some (zR r3), some (zI (oI x4)), o5, o6] [zI (oI 18)] (sh, t1)) Q := by
  rw [b225_39]
  rw [if_neg (oI_nei (a := 18) (b := 0) (by decide) (by decide) (by decide)), if_neg (oI_nei (a := 18) (b := 1) (by decide) (by decide) (by decide)), if_neg (oI_nei (a := 18) (b := 2) (by decide) (by decide) (by decide)), if_neg (oI_nei (a := 18) (b := 3) (by decide) (by decide) (by decide)), if_neg (oI_nei (a := 18) (b := 4) (by decide) (by decide) (by decide)), if_neg (oI_nei (a := 18) (b := 5) (by decide) (by decide) (by decide)), if_neg (oI_nei (a := 18) (b := 6) (by decide) (by decide) (by decide)), if_neg (oI_nei (a := 18) (b := 7) (by decide) (by decide) (by decide)), if_neg (oI_nei (a := 18) (b := 8) (by decide) (by decide) (by decide)), if_neg (oI_nei (a := 18) (b := 9) (by decide) (by decide) (by decide)), if_neg (oI_nei (a := 18) (b := 10) (by decide) (by decide) (by decide)), if_neg (oI_nei (a := 18) (b := 11) (by decide) (by decide) (by decide)), if_neg (oI_nei (a := 18) (b := 12) (by decide) (by decide) (by decide)), if_neg (oI_nei (a := 18) (b := 13) (by decide) (by decide) (by decide)), if_neg (oI_nei (a := 18) (b := 14) (by decide) (by decide) (by decide)), if_neg (oI_nei (a := 18) (b := 15) (by decide) (by decide) (by decide)), if_neg (oI_nei (a := 18) (b := 16) (by decide) (by decide) (by decide)), if_neg (oI_nei (a := 18) (b := 17) (by decide) (by decide) (by decide)), if_pos rfl]
  obtain ⟨v1, a1, b1, e1⟩ := oI_nf (zxs (sh, t1) (nN (oI (x4 + 1))))
  simp only [oI_add]
  refine zok_ck ⟨(by first | rfl | trivial), zin_o (by omega) (by show _ < ((sh.2.2.2.1 : Nat) : Int); omega) (by omega)⟩ (zok_ck q1.1 ?_)
  simp only [show zxs (sh, t1) (nN (oI (x4 + 1))) = oI v1 from e1]
  obtain ⟨R, V1, w1, k1⟩ := st_word (liftM_q q2) (liftC_q F q1 qw) qw mw J1.2 v1
  have hW1 : wcl zP 112 (([zR r1, zI (oI v1)] : List zV).map ab) (abH (sh, t1)) = some (R, (sh, V1)) := by
    show wcl zP 112 [wR r1, wI (oI v1).toInt] (sh, tgs t1) = _
    rw [oI_i ⟨a1, b1⟩]; exact w1
  refine zok_lW (s112 F q1 ⟨a1, b1⟩ I1.1) (zag_cl zP 112 _ _) hW1 (fun y t2 p hv1 => ?_)
  obtain ⟨rfl, -⟩ := p
  subst hv1
  obtain ⟨yv, V2, w2, c2, val2, iw⟩ := k1 (fun _ _ => rfl)
  rw [zput_s, b225_927 (wo5 := w5) (wo6 := w6)]
  simp only [oI_add]
  refine zok_ck ⟨(by first | rfl | trivial), zin_o (by omega) (by show _ < ((sh.2.2.2.1 : Nat) : Int); omega) (by omega)⟩ (zok_ck q2.1 ?_)
  simp only [show zxs (sh, t2) (nN (oI (x4 + 1))) = oI v1 from e1]
  have hW2 : wcl zP 207 (([zR r2, zI (oI v1)] : List zV).map ab) (abH (sh, t2)) = some (.inl (some yv), (sh, V2)) := by
    show wcl zP 207 [wR r2, wI (oI v1).toInt] (sh, tgs t2) = _
    rw [oI_i ⟨a1, b1⟩]; exact w2
  refine zok_lW (s207 q2 ⟨a1, b1⟩ I1.2.1) (zag_cl zP 207 _ _) hW2 (fun y2 t3 p2 hv2 => ?_)
  obtain ⟨I3, J3⟩ := LI_V F q2 h7 I1 p2.1 (by decide)
  have IV3 : IW sh r1 r2 (tgs t3) := by rw [hv2]; exact iw (by rw [← hv2]; exact p2.1.aC q2 (by decide))
  rw [zput_s, b225_938 (wo5 := w5) (wo6 := w6)]
  exact K _ _ _ w5 w6 (LI_W I3) ⟨by rw [J3, J1.1]; exact p2.2.symm, IV3⟩
theorem c225_0 {sh : zSh} {T MB r1 r2 r3 : Nat} (F : zCl sh T MB) (q1 : zLL sh T MB r1) (q2 : zMd sh MB r2) (qw : wLL sh r1) (mw : wMd sh r2) (q3 : sk sh r3 = (4, 1)) (h7 : ∀ a, MB ≤ a → sk sh a = (2, 7) → a = sr sh r2 10) (hc : 400 ≤ ((sk sh (sr sh T 0)).2 : Int)) (hL : sh.2.2.2.1 ≤ 240) {c0 s0 : Int} {x4 : Int} (hx : 0 ≤ x4 ∧ x4 + 5 ≤ (sh.2.2.2.1 : Int)) {o5 o6 : Option zV} (w5 : zisL o5 = false) (w6 : zisL o6 = false) {t1 : zSt} (I1 : LI sh r2 c0 s0 x4 t1) (J1 : (tg t1 T 1 = tg t1 (sr sh r2 2) 13 ∧ IW sh r1 r2 (tgs t1))) {Q : Option zV ⊕ Nat → zH → Prop} (K : ∀ (o5 o6 : Option zV) (t2 : zSt), zisL o5 = false → zisL o6 = false → LI sh r2 c0 s0 (x4 + 5) t2 → (tg t2 T 1 = tg t2 (sr sh r2 2) 13 ∧ IW sh r1 r2 (tgs t2)) → zok (zev zP 225 942 [some (zX 0), some (zR r1), some (zR r2), some (zR r3), some (zI (oI x4)), o5, o6] [] (sh, t2)) Q) : zok (zev zP 225 39 [some (zX 0), some (zR r1), some (zR r2), some (zR r3), some (zI (oI x4)), o5, o6] [zI (oI 0)] (sh, t1)) Q := by
  rw [b225_39]
  rw [if_pos rfl]
  have g13 := I1.2.1.1 13 (by decide)
  have j1 := J1.1
  have h4 : tg t1 T 1 ≤ 400 := by omega
  obtain ⟨v3, a3, b3, e3⟩ := oI_nf (zxs (sh, t1) (nN (oI (x4 + 3))))
  simp only [oI_add]
  refine zok_ck ⟨(by first | rfl | trivial), zin_o (by omega) (by show _ < ((sh.2.2.2.1 : Nat) : Int); omega) (by omega)⟩ (zok_ck ⟨(by first | rfl | trivial), zin_o (by omega) (by show _ < ((sh.2.2.2.1 : Nat) : Int); omega) (by omega)⟩ (zok_ck ⟨(by first | rfl | trivial), zin_o (by omega) (by show _ < ((sh.2.2.2.1 : Nat) : Int); omega) (by omega)⟩ ?_))
  simp only [show zxs (sh, t1) (nN (oI (x4 + 3))) = oI v3 from e3]
  obtain ⟨R, V1, w1, k1⟩ := st_feed (liftM_q q2) (liftC_q F q1 qw) qw mw J1.2 (((Int32.toInt64 (zxs (sh, t1) (nN (oI (x4 + 1))))) <<< (Int32.toInt64 (oI 32) &&& 63)) ||| ((Int32.toInt64 (zxs (sh, t1) (nN (oI (x4 + 2))))) &&& 4294967295)) v3 ⟨a3, b3⟩
  refine zok_cI (x208 F q1 ⟨a3, b3⟩ q3 I1.1 hc h4 w1) (fun y t2 uy p => ?_)
  obtain ⟨f1, p, f3⟩ := p
  subst f3
  obtain ⟨I2, J2⟩ := LI_L q2 I1 f1
  obtain ⟨yv, V2, w2, c2, val2, iw⟩ := k1 f1.aM
  rw [zput_s, b225_161 (wo5 := w5) (wo6 := w6)]
  simp only [oI_add]
  refine zok_ck ⟨(by first | rfl | trivial), zin_o (by omega) (by show _ < ((sh.2.2.2.1 : Nat) : Int); omega) (by omega)⟩ (zok_ck ⟨(by first | rfl | trivial), zin_o (by omega) (by show _ < ((sh.2.2.2.1 : Nat) : Int); omega) (by omega)⟩ (zok_ck ⟨(by first | rfl | trivial), zin_o (by omega) (by show _ < ((sh.2.2.2.1 : Nat) : Int); omega) (by omega)⟩ (zok_ck q2.1 ?_)))
  simp only [show zxs (sh, t2) (nN (oI (x4 + 3))) = oI v3 from e3]
  have hW2 : wcl zP 164 (([zR r2, zL (((Int32.toInt64 (zxs (sh, t1) (nN (oI (x4 + 1))))) <<< (Int32.toInt64 (oI 32) &&& 63)) ||| ((Int32.toInt64 (zxs (sh, t1) (nN (oI (x4 + 2))))) &&& 4294967295)), zI (oI v3)] : List zV).map ab) (abH (sh, t2)) = some (.inl (some yv), (sh, V2)) := by
    show wcl zP 164 [wR r2, wL _, wI (oI v3).toInt] (sh, tgs t2) = _
    rw [oI_i ⟨a3, b3⟩]; exact w2
  refine zok_iW (s164 q2 ⟨a3, b3⟩ I2.2.1) (zag_cl zP 164 _ _) hW2 (fun y2 t3 uy2 p2 ey hv2 => ?_)
  obtain ⟨I3, J3⟩ := LI_V F q2 h7 I2 p2.1 (by decide)
  have IV3 : IW sh r1 r2 (tgs t3) := by rw [hv2]; exact iw (by rw [← hv2]; exact p2.1.aC q2 (by decide))
  have p2 := p2.2
  rw [zput_s, b225_195 (wo6 := w6)]
  refine K _ _ _ rfl rfl I3 ⟨?_, IV3⟩
  rcases p with ⟨h1, h3⟩ | ⟨h1, h1', h1'', h3⟩ | ⟨h1, h1', h1'', h3⟩
  · have e := p2.1 h1
    omega
  · have e := p2.2.1 ⟨h1, h1'⟩ (by omega)
    omega
  · have e := p2.2.2 ⟨h1, h1'⟩ (by omega)
    omega
theorem c225_d {sh : zSh} {T MB r1 r2 r3 : Nat} (F : zCl sh T MB) (q1 : zLL sh T MB r1) (q2 : zMd sh MB r2) (qw : wLL sh r1) (mw : wMd sh r2) (q3 : sk sh r3 = (4, 1)) (h7 : ∀ a, MB ≤ a → sk sh a = (2, 7) → a = sr sh r2 10) (hc : 400 ≤ ((sk sh (sr sh T 0)).2 : Int)) (hL : sh.2.2.2.1 ≤ 240) {c0 s0 : Int} {x4 : Int} (hx : 0 ≤ x4 ∧ x4 + 5 ≤ (sh.2.2.2.1 : Int)) {o5 o6 : Option zV} (w5 : zisL o5 = false) (w6 : zisL o6 = false) {t1 : zSt} (I1 : LI sh r2 c0 s0 x4 t1) (J1 : (tg t1 T 1 = tg t1 (sr sh r2 2) 13 ∧ IW sh r1 r2 (tgs t1))) {v : Int} (hv : -2147483648 ≤ v ∧ v ≤ 2147483647) (hn : v < 0 ∨ 18 < v) {Q : Option zV ⊕ Nat → zH → Prop} (K : ∀ (o5 o6 : Option zV) (t2 : zSt), zisL o5 = false → zisL o6 = false → LI sh r2 c0 s0 (x4 + 5) t2 → (tg t2 T 1 = tg t2 (sr sh r2 2) 13 ∧ IW sh r1 r2 (tgs t2)) → zok (zev zP 225 942 [some (zX 0), some (zR r1), some (zR r2), some (zR r3), some (zI (oI x4)), o5, o6] [] (sh, t2)) Q) : zok (zev zP 225 39 [some (zX 0), some (zR r1), some (zR r2), some (zR r3), some (zI (oI x4)), o5, o6] [zI (oI v)] (sh, t1)) Q := by
  rw [b225_39]
  have hne : ∀ i : Int, 0 ≤ i ∧ i ≤ 18 → ¬ oI v = oI i := fun i hi => mt (oI_eq hv.1 hv.2 (by omega) (by omega)).mp (by omega)
  rw [if_neg (hne 0 (by decide)), if_neg (hne 1 (by decide)), if_neg (hne 2 (by decide)), if_neg (hne 3 (by decide)), if_neg (hne 4 (by decide)), if_neg (hne 5 (by decide)), if_neg (hne 6 (by decide)), if_neg (hne 7 (by decide)), if_neg (hne 8 (by decide)), if_neg (hne 9 (by decide)), if_neg (hne 10 (by decide)), if_neg (hne 11 (by decide)), if_neg (hne 12 (by decide)), if_neg (hne 13 (by decide)), if_neg (hne 14 (by decide)), if_neg (hne 15 (by decide)), if_neg (hne 16 (by decide)), if_neg (hne 17 (by decide)), if_neg (hne 18 (by decide))]
  exact K _ _ _ w5 w6 (LI_W I1) J1
theorem l225_23 {sh : zSh} {T MB r1 r2 r3 : Nat} (F : zCl sh T MB) (q1 : zLL sh T MB r1) (q2 : zMd sh MB r2) (qw : wLL sh r1) (mw : wMd sh r2) (q3 : sk sh r3 = (4, 1)) (h7 : ∀ a, MB ≤ a → sk sh a = (2, 7) → a = sr sh r2 10) (hc : 400 ≤ ((sk sh (sr sh T 0)).2 : Int)) (hL : sh.2.2.2.1 ≤ 240) {c0 s0 : Int} : ∀ (n : Nat) (x4 : Int) (o5 o6 : Option zV), zisL o5 = false → zisL o6 = false → ∀ (t1 : zSt), LI sh r2 c0 s0 x4 t1 → (tg t1 T 1 = tg t1 (sr sh r2 2) 13 ∧ IW sh r1 r2 (tgs t1)) → 0 ≤ x4 ∧ x4 ≤ 240 → (300 - x4).toNat < n → zok (zev zP 225 23 [some (zX 0), some (zR r1), some (zR r2), some (zR r3), some (zI (oI x4)), o5, o6] [] (sh, t1)) (qI (fun x t' => x = 1 ∧ (t'.2.2.1 : Int) ≤ c0 + 48 ∧ (t'.2.2.2 : Int) ≤ s0 + 288) sh) := by
  intro n
  induction n with
  | zero => intro x4 o5 o6 w5 w6 t1 I1 J1 hx hm; omega
  | succ n ih =>
    intro x4 o5 o6 w5 w6 t1 I1 J1 hx hm
    rw [b225_23 (wo5 := w5) (wo6 := w6)]
    simp only [oI_sub]
    have hz : zln (sh, t1) = sh.2.2.2.1 := rfl
    rw [hz]
    refine zok_ck (by first | rfl | trivial) (zok_lt (by omega) (fun c => qI_rt (x := 1) (by decide) (by decide) ⟨rfl, by have := I1.2.2.1; omega, by have := I1.2.2.2; omega⟩) (fun c => zok_ck ⟨(by first | rfl | trivial), zin_o (by omega) (by omega) (by omega)⟩ ?_))
    obtain ⟨v, va, vb, ve⟩ := oI_nf ((zxs (sh, t1) (nN (oI x4))) &&& (oI 31))
    rw [ve]
    have hx1 : 0 ≤ x4 ∧ x4 + 5 ≤ (sh.2.2.2.1 : Int) := by omega
    have K : ∀ (o5 o6 : Option zV) (t2 : zSt), zisL o5 = false → zisL o6 = false → LI sh r2 c0 s0 (x4 + 5) t2 → (tg t2 T 1 = tg t2 (sr sh r2 2) 13 ∧ IW sh r1 r2 (tgs t2)) → zok (zev zP 225 942 [some (zX 0), some (zR r1), some (zR r2), some (zR r3), some (zI (oI x4)), o5, o6] [] (sh, t2)) (qI (fun x t' => x = 1 ∧ (t'.2.2.1 : Int) ≤ c0 + 48 ∧ (t'.2.2.2 : Int) ≤ s0 + 288) sh) := by
      intro o5 o6 t2 w5 w6 I2 J2
      rw [b225_942 (wo5 := w5) (wo6 := w6), oI_add]
      exact ih (x4 + 5) o5 o6 w5 w6 t2 I2 J2 (by omega) (by omega)
    by_cases e0 : v = 0
    · subst e0; exact c225_0 F q1 q2 qw mw q3 h7 hc hL hx1 w5 w6 I1 J1 K
    by_cases e1 : v = 1
    · subst e1; exact c225_1 F q1 q2 qw mw q3 h7 hc hL hx1 w5 w6 I1 J1 K
    by_cases e2 : v = 2
    · subst e2; exact c225_2 F q1 q2 qw mw q3 h7 hc hL hx1 w5 w6 I1 J1 K
    by_cases e3 : v = 3
    · subst e3; exact c225_3 F q1 q2 qw mw q3 h7 hc hL hx1 w5 w6 I1 J1 K
    by_cases e4 : v = 4
    · subst e4; exact c225_4 F q1 q2 qw mw q3 h7 hc hL hx1 w5 w6 I1 J1 K
    by_cases e5 : v = 5
    · subst e5; exact c225_5 F q1 q2 qw mw q3 h7 hc hL hx1 w5 w6 I1 J1 K
    by_cases e6 : v = 6
    · subst e6; exact c225_6 F q1 q2 qw mw q3 h7 hc hL hx1 w5 w6 I1 J1 K
    by_cases e7 : v = 7
    · subst e7; exact c225_7 F q1 q2 qw mw q3 h7 hc hL hx1 w5 w6 I1 J1 K
    by_cases e8 : v = 8
    · subst e8; exact c225_8 F q1 q2 qw mw q3 h7 hc hL hx1 w5 w6 I1 J1 K
    by_cases e9 : v = 9
    · subst e9; exact c225_9 F q1 q2 qw mw q3 h7 hc hL hx1 w5 w6 I1 J1 K
    by_cases e10 : v = 10
    · subst e10; exact c225_10 F q1 q2 qw mw q3 h7 hc hL hx1 w5 w6 I1 J1 K
    by_cases e11 : v = 11
    · subst e11; exact c225_11 F q1 q2 qw mw q3 h7 hc hL hx1 w5 w6 I1 J1 K
    by_cases e12 : v = 12
    · subst e12; exact c225_12 F q1 q2 qw mw q3 h7 hc hL hx1 w5 w6 I1 J1 K
    by_cases e13 : v = 13
    · subst e13; exact c225_13 F q1 q2 qw mw q3 h7 hc hL hx1 w5 w6 I1 J1 K
    by_cases e14 : v = 14
    · subst e14; exact c225_14 F q1 q2 qw mw q3 h7 hc hL hx1 w5 w6 I1 J1 K
    by_cases e15 : v = 15
    · subst e15; exact c225_15 F q1 q2 qw mw q3 h7 hc hL hx1 w5 w6 I1 J1 K
    by_cases e16 : v = 16
    · subst e16; exact c225_16 F q1 q2 qw mw q3 h7 hc hL hx1 w5 w6 I1 J1 K
    by_cases e17 : v = 17
    · subst e17; exact c225_17 F q1 q2 qw mw q3 h7 hc hL hx1 w5 w6 I1 J1 K
    by_cases e18 : v = 18
    · subst e18; exact c225_18 F q1 q2 qw mw q3 h7 hc hL hx1 w5 w6 I1 J1 K
    exact c225_d F q1 q2 qw mw q3 h7 hc hL hx1 w5 w6 I1 J1 ⟨va, vb⟩ (by omega) K

