set_option maxRecDepth 16384
/-! the law's cases -/
theorem oI_nei {a b : Int} (h : -1000 ≤ a ∧ a ≤ 1000) (g : -1000 ≤ b ∧ b ≤ 1000) (n : a ≠ b) : ¬ oI a = oI b := mt (oI_eq (by omega) (by omega) (by omega) (by omega)).mp n
def LI (sh : zSh) (m : Nat) (c s x : Int) (t : zSt) : Prop := RS sh t ∧ GI sh m t ∧ 5 * (t.2.2.1 : Int) ≤ 5 * c + x ∧ 5 * (t.2.2.2 : Int) ≤ 5 * s + 6 * x
theorem LI_L {sh : zSh} {MB m : Nat} {c s x : Int} {t t' : zSt} (q : zMd sh MB m) (h : LI sh m c s x t) (f : FrL sh MB t t') : LI sh m c s (x + 5) t' ∧ tg t' (sr sh m 2) 13 = tg t (sr sh m 2) 13 := by
  have e : ∀ j, j ∈ (0 :: zAR) → ∀ k, tg t' (zob sh m j) k = tg t (zob sh m j) k := fun j hj k => tg_of (f.1 _ (q.mb hj)) k
  have f3 := f.2.2.1
  have f4 := f.2.2.2
  have h3 := h.2.2.1
  have h4 := h.2.2.2
  exact ⟨⟨f.2.1, GI_of (fun j hj k => e j (by revert j; decide) k) h.2.1, by omega, by omega⟩, e 2 (by decide) 13⟩
theorem LI_W {sh : zSh} {m : Nat} {c s x : Int} {t : zSt} (h : LI sh m c s x t) : LI sh m c s (x + 5) t := ⟨h.1, h.2.1, by have := h.2.2.1; omega, by have := h.2.2.2; omega⟩
theorem LI_V {sh : zSh} {T MB m : Nat} {c s x : Int} {Ls : List Nat} {t t' : zSt} (F : zCl sh T MB) (q : zMd sh MB m) (h7 : ∀ a, MB ≤ a → sk sh a = (2, 7) → a = sr sh m 10) (h : LI sh m c s x t) (f : FrV sh m Ls t t') (hl : ∀ j, j ∈ Ls → j ∈ (0 :: zAR)) : LI sh m c s x t' ∧ tg t' T 1 = tg t T 1 := by
  have e : ∀ a, a < MB → t'.1 a = t.1 a := fun a ha => f.2.1 a (fun j hj => by have := q.mb (hl j hj); omega)
  have h3 := h.2.2.1
  have h4 := h.2.2.2
  refine ⟨⟨⟨fun r hr => ?_, fun a ha k hk => ?_⟩, f.2.2, by rw [f.1]; exact h3, by rw [f.1]; exact h4⟩, tg_of (e T F.2.1) 1⟩
  · have hm : r < MB := by
      rcases Nat.lt_or_ge r MB with g | g
      · exact g
      · exact absurd (by rw [hr.1]) (F.2.2 r g).2
    rw [tg_of (e r hm), tg_of (e r hm)]; exact h.1.1 r hr
  · rcases Nat.lt_or_ge a MB with g | g
    · rw [tg_of (e a g)]; exact h.1.2 a ha k hk
    · rw [h7 a g ha]
      have := f.2.2.2.2.1 k hk
      omega
theorem lg_cmp_self (x : Int64) : lg_cmp x x = oI 0 := by unfold lg_cmp; simp; rfl
theorem c225_1 {sh : zSh} {T MB r1 r2 r3 : Nat} (F : zCl sh T MB) (q1 : zLL sh T MB r1) (q2 : zMd sh MB r2) (qw : wLL sh r1) (mw : wMd sh r2) (q3 : sk sh r3 = (4, 1)) (h7 : ∀ a, MB ≤ a → sk sh a = (2, 7) → a = sr sh r2 10) (hc : 400 ≤ ((sk sh (sr sh T 0)).2 : Int)) (hL : sh.2.2.2.1 ≤ 240) {c0 s0 : Int} {x4 : Int} (hx : 0 ≤ x4 ∧ x4 + 5 ≤ (sh.2.2.2.1 : Int)) {o5 o6 : Option zV} (w5 : zisL o5 = false) (w6 : zisL o6 = false) {t1 : zSt} (I1 : LI sh r2 c0 s0 x4 t1) (J1 : (tg t1 T 1 = tg t1 (sr sh r2 2) 13 ∧ IW sh r1 r2 (tgs t1))) {Q : Option zV ⊕ Nat → zH → Prop} (K : ∀ (o5 o6 : Option zV) (t2 : zSt), zisL o5 = false → zisL o6 = false → LI sh r2 c0 s0 (x4 + 5) t2 → (tg t2 T 1 = tg t2 (sr sh r2 2) 13 ∧ IW sh r1 r2 (tgs t2)) → zok (zev zP 225 942 [some (zX 0), some (zR r1), some (zR r2), some (zR r3), some (zI (oI x4)), o5, o6] [] (sh, t2)) Q) : zok (zev zP 225 39 [some (zX 0), some (zR r1), some (zR r2), some (zR r3), some (zI (oI x4)), o5, o6] [zI (oI 1)] (sh, t1)) Q := by
  rw [b225_39]
  rw [if_neg (oI_nei (a := 1) (b := 0) (by decide) (by decide) (by decide)), if_pos rfl]
  obtain ⟨v1, a1, b1, e1⟩ := oI_nf (zxs (sh, t1) (nN (oI (x4 + 1))))
  simp only [oI_add]
  refine zok_ck ⟨by first | rfl | trivial, zin_o (by omega) (by show _ < ((sh.2.2.2.1 : Nat) : Int); omega) (by omega)⟩ ?_
  simp only [show zxs (sh, t1) (nN (oI (x4 + 1))) = oI v1 from e1]
  obtain ⟨R, V1, w1, k1⟩ := st_read (liftM_q q2) (liftC_q F q1 qw) qw mw J1.2 v1
  refine zok_cI (x209 F q1 ⟨a1, b1⟩ q3 I1.1 w1) (fun y t2 uy p => ?_)
  obtain ⟨f1, f2, f3, -, -, -⟩ := p
  subst f3
  obtain ⟨I2, J2⟩ := LI_L q2 I1 f1
  obtain ⟨yv, V2, w2, c2, val2, iw⟩ := k1 f1.aM
  rw [zput_s, b225_211 (wo5 := w5) (wo6 := w6)]
  simp only [oI_add]
  refine zok_ck ⟨by first | rfl | trivial, zin_o (by omega) (by show _ < ((sh.2.2.2.1 : Nat) : Int); omega) (by omega)⟩ ?_
  simp only [show zxs (sh, t2) (nN (oI (x4 + 1))) = oI v1 from e1]
  have hW2 : wcl zP 165 (([zR r2, zI (oI v1)] : List zV).map ab) (abH (sh, t2)) = some (.inl (some yv), (sh, V2)) := by
    show wcl zP 165 [wR r2, wI (oI v1).toInt] (sh, tgs t2) = _
    rw [oI_i ⟨a1, b1⟩]; exact w2
  refine zok_ck q2.1 (zok_iW (s165 q2 ⟨a1, b1⟩ I2.2.1) (zag_cl zP 165 _ _) hW2 (fun y2 t3 uy2 p2 ey hv2 => ?_))
  obtain ⟨I3, J3⟩ := LI_V F q2 h7 I2 p2.1 (by decide)
  have IV3 : IW sh r1 r2 (tgs t3) := by rw [hv2]; exact iw (by rw [← hv2]; exact p2.1.aC q2 (by decide))
  rw [zput_s, b225_223 (wo6 := w6)]
  exact K _ _ _ rfl rfl I3 ⟨by rw [J3, f2]; exact p2.2.symm, IV3⟩
theorem c225_3 {sh : zSh} {T MB r1 r2 r3 : Nat} (F : zCl sh T MB) (q1 : zLL sh T MB r1) (q2 : zMd sh MB r2) (qw : wLL sh r1) (mw : wMd sh r2) (q3 : sk sh r3 = (4, 1)) (h7 : ∀ a, MB ≤ a → sk sh a = (2, 7) → a = sr sh r2 10) (hc : 400 ≤ ((sk sh (sr sh T 0)).2 : Int)) (hL : sh.2.2.2.1 ≤ 240) {c0 s0 : Int} {x4 : Int} (hx : 0 ≤ x4 ∧ x4 + 5 ≤ (sh.2.2.2.1 : Int)) {o5 o6 : Option zV} (w5 : zisL o5 = false) (w6 : zisL o6 = false) {t1 : zSt} (I1 : LI sh r2 c0 s0 x4 t1) (J1 : (tg t1 T 1 = tg t1 (sr sh r2 2) 13 ∧ IW sh r1 r2 (tgs t1))) {Q : Option zV ⊕ Nat → zH → Prop} (K : ∀ (o5 o6 : Option zV) (t2 : zSt), zisL o5 = false → zisL o6 = false → LI sh r2 c0 s0 (x4 + 5) t2 → (tg t2 T 1 = tg t2 (sr sh r2 2) 13 ∧ IW sh r1 r2 (tgs t2)) → zok (zev zP 225 942 [some (zX 0), some (zR r1), some (zR r2), some (zR r3), some (zI (oI x4)), o5, o6] [] (sh, t2)) Q) : zok (zev zP 225 39 [some (zX 0), some (zR r1), some (zR r2), some (zR r3), some (zI (oI x4)), o5, o6] [zI (oI 3)] (sh, t1)) Q := by
  rw [b225_39]
  rw [if_neg (oI_nei (a := 3) (b := 0) (by decide) (by decide) (by decide)), if_neg (oI_nei (a := 3) (b := 1) (by decide) (by decide) (by decide)), if_neg (oI_nei (a := 3) (b := 2) (by decide) (by decide) (by decide)), if_pos rfl]
  obtain ⟨v1, a1, b1, e1⟩ := oI_nf (zxs (sh, t1) (nN (oI (x4 + 1))))
  simp only [oI_add]
  refine zok_ck ⟨by first | rfl | trivial, zin_o (by omega) (by show _ < ((sh.2.2.2.1 : Nat) : Int); omega) (by omega)⟩ ?_
  simp only [show zxs (sh, t1) (nN (oI (x4 + 1))) = oI v1 from e1]
  obtain ⟨R, V1, w1, k1⟩ := st_write (liftM_q q2) (liftC_q F q1 qw) qw mw J1.2 v1
  refine zok_cI (x210 F q1 ⟨a1, b1⟩ q3 I1.1 w1) (fun y t2 uy p => ?_)
  obtain ⟨f1, f2, f3, -, -, -⟩ := p
  subst f3
  obtain ⟨I2, J2⟩ := LI_L q2 I1 f1
  obtain ⟨yv, V2, w2, c2, val2, iw⟩ := k1 f1.aM
  rw [zput_s, b225_280 (wo5 := w5) (wo6 := w6)]
  simp only [oI_add]
  refine zok_ck ⟨by first | rfl | trivial, zin_o (by omega) (by show _ < ((sh.2.2.2.1 : Nat) : Int); omega) (by omega)⟩ ?_
  simp only [show zxs (sh, t2) (nN (oI (x4 + 1))) = oI v1 from e1]
  have hW2 : wcl zP 167 (([zR r2, zI (oI v1)] : List zV).map ab) (abH (sh, t2)) = some (.inl (some yv), (sh, V2)) := by
    show wcl zP 167 [wR r2, wI (oI v1).toInt] (sh, tgs t2) = _
    rw [oI_i ⟨a1, b1⟩]; exact w2
  refine zok_ck q2.1 (zok_iW (s167 q2 ⟨a1, b1⟩ I2.2.1) (zag_cl zP 167 _ _) hW2 (fun y2 t3 uy2 p2 ey hv2 => ?_))
  obtain ⟨I3, J3⟩ := LI_V F q2 h7 I2 p2.1 (by decide)
  have IV3 : IW sh r1 r2 (tgs t3) := by rw [hv2]; exact iw (by rw [← hv2]; exact p2.1.aC q2 (by decide))
  rw [zput_s, b225_292 (wo6 := w6)]
  exact K _ _ _ rfl rfl I3 ⟨by rw [J3, f2, J1.1, ← J2]; exact p2.2.symm, IV3⟩
theorem c225_4 {sh : zSh} {T MB r1 r2 r3 : Nat} (F : zCl sh T MB) (q1 : zLL sh T MB r1) (q2 : zMd sh MB r2) (qw : wLL sh r1) (mw : wMd sh r2) (q3 : sk sh r3 = (4, 1)) (h7 : ∀ a, MB ≤ a → sk sh a = (2, 7) → a = sr sh r2 10) (hc : 400 ≤ ((sk sh (sr sh T 0)).2 : Int)) (hL : sh.2.2.2.1 ≤ 240) {c0 s0 : Int} {x4 : Int} (hx : 0 ≤ x4 ∧ x4 + 5 ≤ (sh.2.2.2.1 : Int)) {o5 o6 : Option zV} (w5 : zisL o5 = false) (w6 : zisL o6 = false) {t1 : zSt} (I1 : LI sh r2 c0 s0 x4 t1) (J1 : (tg t1 T 1 = tg t1 (sr sh r2 2) 13 ∧ IW sh r1 r2 (tgs t1))) {Q : Option zV ⊕ Nat → zH → Prop} (K : ∀ (o5 o6 : Option zV) (t2 : zSt), zisL o5 = false → zisL o6 = false → LI sh r2 c0 s0 (x4 + 5) t2 → (tg t2 T 1 = tg t2 (sr sh r2 2) 13 ∧ IW sh r1 r2 (tgs t2)) → zok (zev zP 225 942 [some (zX 0), some (zR r1), some (zR r2), some (zR r3), some (zI (oI x4)), o5, o6] [] (sh, t2)) Q) : zok (zev zP 225 39 [some (zX 0), some (zR r1), some (zR r2), some (zR r3), some (zI (oI x4)), o5, o6] [zI (oI 4)] (sh, t1)) Q := by
  rw [b225_39]
  rw [if_neg (oI_nei (a := 4) (b := 0) (by decide) (by decide) (by decide)), if_neg (oI_nei (a := 4) (b := 1) (by decide) (by decide) (by decide)), if_neg (oI_nei (a := 4) (b := 2) (by decide) (by decide) (by decide)), if_neg (oI_nei (a := 4) (b := 3) (by decide) (by decide) (by decide)), if_pos rfl]
  obtain ⟨v1, a1, b1, e1⟩ := oI_nf (zxs (sh, t1) (nN (oI (x4 + 1))))
  obtain ⟨v2, a2, b2, e2⟩ := oI_nf (zxs (sh, t1) (nN (oI (x4 + 2))))
  simp only [oI_add]
  refine zok_ck ⟨by first | rfl | trivial, zin_o (by omega) (by show _ < ((sh.2.2.2.1 : Nat) : Int); omega) (by omega)⟩ ?_
  refine zok_ck ⟨by first | rfl | trivial, zin_o (by omega) (by show _ < ((sh.2.2.2.1 : Nat) : Int); omega) (by omega)⟩ ?_
  simp only [show zxs (sh, t1) (nN (oI (x4 + 1))) = oI v1 from e1, show zxs (sh, t1) (nN (oI (x4 + 2))) = oI v2 from e2]
  obtain ⟨R, V1, w1, k1⟩ := st_part (liftM_q q2) (liftC_q F q1 qw) qw mw J1.2 v1 v2
  refine zok_cI (x211 F q1 ⟨a1, b1⟩ ⟨a2, b2⟩ q3 I1.1 w1) (fun y t2 uy p => ?_)
  obtain ⟨f1, f2, f3, -, -, -⟩ := p
  subst f3
  obtain ⟨I2, J2⟩ := LI_L q2 I1 f1
  obtain ⟨yv, V2, w2, c2, val2, iw⟩ := k1 f1.aM
  rw [zput_s, b225_314 (wo5 := w5) (wo6 := w6)]
  simp only [oI_add]
  refine zok_ck ⟨by first | rfl | trivial, zin_o (by omega) (by show _ < ((sh.2.2.2.1 : Nat) : Int); omega) (by omega)⟩ ?_
  refine zok_ck ⟨by first | rfl | trivial, zin_o (by omega) (by show _ < ((sh.2.2.2.1 : Nat) : Int); omega) (by omega)⟩ ?_
  simp only [show zxs (sh, t2) (nN (oI (x4 + 1))) = oI v1 from e1, show zxs (sh, t2) (nN (oI (x4 + 2))) = oI v2 from e2]
  have hW2 : wcl zP 168 (([zR r2, zI (oI v1), zI (oI v2)] : List zV).map ab) (abH (sh, t2)) = some (.inl (some yv), (sh, V2)) := by
    show wcl zP 168 [wR r2, wI (oI v1).toInt, wI (oI v2).toInt] (sh, tgs t2) = _
    rw [oI_i ⟨a1, b1⟩, oI_i ⟨a2, b2⟩]; exact w2
  refine zok_ck q2.1 (zok_iW (s168 q2 ⟨a1, b1⟩ ⟨a2, b2⟩ I2.2.1) (zag_cl zP 168 _ _) hW2 (fun y2 t3 uy2 p2 ey hv2 => ?_))
  obtain ⟨I3, J3⟩ := LI_V F q2 h7 I2 p2.1 (by decide)
  have IV3 : IW sh r1 r2 (tgs t3) := by rw [hv2]; exact iw (by rw [← hv2]; exact p2.1.aC q2 (by decide))
  rw [zput_s, b225_332 (wo6 := w6)]
  exact K _ _ _ rfl rfl I3 ⟨by rw [J3, f2, J1.1, ← J2]; exact p2.2.symm, IV3⟩
theorem c225_5 {sh : zSh} {T MB r1 r2 r3 : Nat} (F : zCl sh T MB) (q1 : zLL sh T MB r1) (q2 : zMd sh MB r2) (qw : wLL sh r1) (mw : wMd sh r2) (q3 : sk sh r3 = (4, 1)) (h7 : ∀ a, MB ≤ a → sk sh a = (2, 7) → a = sr sh r2 10) (hc : 400 ≤ ((sk sh (sr sh T 0)).2 : Int)) (hL : sh.2.2.2.1 ≤ 240) {c0 s0 : Int} {x4 : Int} (hx : 0 ≤ x4 ∧ x4 + 5 ≤ (sh.2.2.2.1 : Int)) {o5 o6 : Option zV} (w5 : zisL o5 = false) (w6 : zisL o6 = false) {t1 : zSt} (I1 : LI sh r2 c0 s0 x4 t1) (J1 : (tg t1 T 1 = tg t1 (sr sh r2 2) 13 ∧ IW sh r1 r2 (tgs t1))) {Q : Option zV ⊕ Nat → zH → Prop} (K : ∀ (o5 o6 : Option zV) (t2 : zSt), zisL o5 = false → zisL o6 = false → LI sh r2 c0 s0 (x4 + 5) t2 → (tg t2 T 1 = tg t2 (sr sh r2 2) 13 ∧ IW sh r1 r2 (tgs t2)) → zok (zev zP 225 942 [some (zX 0), some (zR r1), some (zR r2), some (zR r3), some (zI (oI x4)), o5, o6] [] (sh, t2)) Q) : zok (zev zP 225 39 [some (zX 0), some (zR r1), some (zR r2), some (zR r3), some (zI (oI x4)), o5, o6] [zI (oI 5)] (sh, t1)) Q := by
  rw [b225_39]
  rw [if_neg (oI_nei (a := 5) (b := 0) (by decide) (by decide) (by decide)), if_neg (oI_nei (a := 5) (b := 1) (by decide) (by decide) (by decide)), if_neg (oI_nei (a := 5) (b := 2) (by decide) (by decide) (by decide)), if_neg (oI_nei (a := 5) (b := 3) (by decide) (by decide) (by decide)), if_neg (oI_nei (a := 5) (b := 4) (by decide) (by decide) (by decide)), if_pos rfl]
  obtain ⟨v1, a1, b1, e1⟩ := oI_nf (zxs (sh, t1) (nN (oI (x4 + 1))))
  simp only [oI_add]
  refine zok_ck ⟨by first | rfl | trivial, zin_o (by omega) (by show _ < ((sh.2.2.2.1 : Nat) : Int); omega) (by omega)⟩ ?_
  simp only [show zxs (sh, t1) (nN (oI (x4 + 1))) = oI v1 from e1]
  obtain ⟨R, V1, w1, k1⟩ := st_host (liftM_q q2) (liftC_q F q1 qw) qw mw J1.2 v1
  refine zok_cI (x212 F q1 ⟨a1, b1⟩ q3 I1.1 w1) (fun y t2 uy p => ?_)
  obtain ⟨f1, f2, f3, -, -, -⟩ := p
  subst f3
  obtain ⟨I2, J2⟩ := LI_L q2 I1 f1
  obtain ⟨yv, V2, w2, c2, val2, iw⟩ := k1 f1.aM
  rw [zput_s, b225_348 (wo5 := w5) (wo6 := w6)]
  simp only [oI_add]
  refine zok_ck ⟨by first | rfl | trivial, zin_o (by omega) (by show _ < ((sh.2.2.2.1 : Nat) : Int); omega) (by omega)⟩ ?_
  simp only [show zxs (sh, t2) (nN (oI (x4 + 1))) = oI v1 from e1]
  have hW2 : wcl zP 170 (([zR r2, zI (oI v1)] : List zV).map ab) (abH (sh, t2)) = some (.inl (some yv), (sh, V2)) := by
    show wcl zP 170 [wR r2, wI (oI v1).toInt] (sh, tgs t2) = _
    rw [oI_i ⟨a1, b1⟩]; exact w2
  refine zok_ck q2.1 (zok_iW (s170 q2 ⟨a1, b1⟩ I2.2.1) (zag_cl zP 170 _ _) hW2 (fun y2 t3 uy2 p2 ey hv2 => ?_))
  obtain ⟨I3, J3⟩ := LI_V F q2 h7 I2 p2.1 (by decide)
  have IV3 : IW sh r1 r2 (tgs t3) := by rw [hv2]; exact iw (by rw [← hv2]; exact p2.1.aC q2 (by decide))
  rw [zput_s, b225_360 (wo6 := w6)]
  exact K _ _ _ rfl rfl I3 ⟨by rw [J3, f2, J1.1, ← J2]; exact p2.2.symm, IV3⟩
theorem c225_6 {sh : zSh} {T MB r1 r2 r3 : Nat} (F : zCl sh T MB) (q1 : zLL sh T MB r1) (q2 : zMd sh MB r2) (qw : wLL sh r1) (mw : wMd sh r2) (q3 : sk sh r3 = (4, 1)) (h7 : ∀ a, MB ≤ a → sk sh a = (2, 7) → a = sr sh r2 10) (hc : 400 ≤ ((sk sh (sr sh T 0)).2 : Int)) (hL : sh.2.2.2.1 ≤ 240) {c0 s0 : Int} {x4 : Int} (hx : 0 ≤ x4 ∧ x4 + 5 ≤ (sh.2.2.2.1 : Int)) {o5 o6 : Option zV} (w5 : zisL o5 = false) (w6 : zisL o6 = false) {t1 : zSt} (I1 : LI sh r2 c0 s0 x4 t1) (J1 : (tg t1 T 1 = tg t1 (sr sh r2 2) 13 ∧ IW sh r1 r2 (tgs t1))) {Q : Option zV ⊕ Nat → zH → Prop} (K : ∀ (o5 o6 : Option zV) (t2 : zSt), zisL o5 = false → zisL o6 = false → LI sh r2 c0 s0 (x4 + 5) t2 → (tg t2 T 1 = tg t2 (sr sh r2 2) 13 ∧ IW sh r1 r2 (tgs t2)) → zok (zev zP 225 942 [some (zX 0), some (zR r1), some (zR r2), some (zR r3), some (zI (oI x4)), o5, o6] [] (sh, t2)) Q) : zok (zev zP 225 39 [some (zX 0), some (zR r1), some (zR r2), some (zR r3), some (zI (oI x4)), o5, o6] [zI (oI 6)] (sh, t1)) Q := by
  rw [b225_39]
  rw [if_neg (oI_nei (a := 6) (b := 0) (by decide) (by decide) (by decide)), if_neg (oI_nei (a := 6) (b := 1) (by decide) (by decide) (by decide)), if_neg (oI_nei (a := 6) (b := 2) (by decide) (by decide) (by decide)), if_neg (oI_nei (a := 6) (b := 3) (by decide) (by decide) (by decide)), if_neg (oI_nei (a := 6) (b := 4) (by decide) (by decide) (by decide)), if_neg (oI_nei (a := 6) (b := 5) (by decide) (by decide) (by decide)), if_pos rfl]
  obtain ⟨v1, a1, b1, e1⟩ := oI_nf (zxs (sh, t1) (nN (oI (x4 + 1))))
  obtain ⟨v2, a2, b2, e2⟩ := oI_nf (zxs (sh, t1) (nN (oI (x4 + 2))))
  simp only [oI_add]
  refine zok_ck ⟨by first | rfl | trivial, zin_o (by omega) (by show _ < ((sh.2.2.2.1 : Nat) : Int); omega) (by omega)⟩ ?_
  refine zok_ck ⟨by first | rfl | trivial, zin_o (by omega) (by show _ < ((sh.2.2.2.1 : Nat) : Int); omega) (by omega)⟩ ?_
  simp only [show zxs (sh, t1) (nN (oI (x4 + 1))) = oI v1 from e1, show zxs (sh, t1) (nN (oI (x4 + 2))) = oI v2 from e2]
  obtain ⟨R, V1, w1, k1⟩ := st_addr (liftM_q q2) (liftC_q F q1 qw) qw mw J1.2 v1 v2
  refine zok_cI (x213 F q1 ⟨a1, b1⟩ ⟨a2, b2⟩ q3 I1.1 w1) (fun y t2 uy p => ?_)
  obtain ⟨f1, f2, f3, -, -, -⟩ := p
  subst f3
  obtain ⟨I2, J2⟩ := LI_L q2 I1 f1
  obtain ⟨yv, V2, w2, c2, val2, iw⟩ := k1 f1.aM
  rw [zput_s, b225_382 (wo5 := w5) (wo6 := w6)]
  simp only [oI_add]
  refine zok_ck ⟨by first | rfl | trivial, zin_o (by omega) (by show _ < ((sh.2.2.2.1 : Nat) : Int); omega) (by omega)⟩ ?_
  refine zok_ck ⟨by first | rfl | trivial, zin_o (by omega) (by show _ < ((sh.2.2.2.1 : Nat) : Int); omega) (by omega)⟩ ?_
  simp only [show zxs (sh, t2) (nN (oI (x4 + 1))) = oI v1 from e1, show zxs (sh, t2) (nN (oI (x4 + 2))) = oI v2 from e2]
  have hW2 : wcl zP 171 (([zR r2, zI (oI v1), zI (oI v2)] : List zV).map ab) (abH (sh, t2)) = some (.inl (some yv), (sh, V2)) := by
    show wcl zP 171 [wR r2, wI (oI v1).toInt, wI (oI v2).toInt] (sh, tgs t2) = _
    rw [oI_i ⟨a1, b1⟩, oI_i ⟨a2, b2⟩]; exact w2
  refine zok_ck q2.1 (zok_iW (s171 q2 ⟨a1, b1⟩ ⟨a2, b2⟩ I2.2.1) (zag_cl zP 171 _ _) hW2 (fun y2 t3 uy2 p2 ey hv2 => ?_))
  obtain ⟨I3, J3⟩ := LI_V F q2 h7 I2 p2.1 (by decide)
  have IV3 : IW sh r1 r2 (tgs t3) := by rw [hv2]; exact iw (by rw [← hv2]; exact p2.1.aC q2 (by decide))
  rw [zput_s, b225_400 (wo6 := w6)]
  exact K _ _ _ rfl rfl I3 ⟨by rw [J3, f2, J1.1, ← J2]; exact p2.2.symm, IV3⟩
theorem c225_7 {sh : zSh} {T MB r1 r2 r3 : Nat} (F : zCl sh T MB) (q1 : zLL sh T MB r1) (q2 : zMd sh MB r2) (qw : wLL sh r1) (mw : wMd sh r2) (q3 : sk sh r3 = (4, 1)) (h7 : ∀ a, MB ≤ a → sk sh a = (2, 7) → a = sr sh r2 10) (hc : 400 ≤ ((sk sh (sr sh T 0)).2 : Int)) (hL : sh.2.2.2.1 ≤ 240) {c0 s0 : Int} {x4 : Int} (hx : 0 ≤ x4 ∧ x4 + 5 ≤ (sh.2.2.2.1 : Int)) {o5 o6 : Option zV} (w5 : zisL o5 = false) (w6 : zisL o6 = false) {t1 : zSt} (I1 : LI sh r2 c0 s0 x4 t1) (J1 : (tg t1 T 1 = tg t1 (sr sh r2 2) 13 ∧ IW sh r1 r2 (tgs t1))) {Q : Option zV ⊕ Nat → zH → Prop} (K : ∀ (o5 o6 : Option zV) (t2 : zSt), zisL o5 = false → zisL o6 = false → LI sh r2 c0 s0 (x4 + 5) t2 → (tg t2 T 1 = tg t2 (sr sh r2 2) 13 ∧ IW sh r1 r2 (tgs t2)) → zok (zev zP 225 942 [some (zX 0), some (zR r1), some (zR r2), some (zR r3), some (zI (oI x4)), o5, o6] [] (sh, t2)) Q) : zok (zev zP 225 39 [some (zX 0), some (zR r1), some (zR r2), some (zR r3), some (zI (oI x4)), o5, o6] [zI (oI 7)] (sh, t1)) Q := by
  rw [b225_39]
  rw [if_neg (oI_nei (a := 7) (b := 0) (by decide) (by decide) (by decide)), if_neg (oI_nei (a := 7) (b := 1) (by decide) (by decide) (by decide)), if_neg (oI_nei (a := 7) (b := 2) (by decide) (by decide) (by decide)), if_neg (oI_nei (a := 7) (b := 3) (by decide) (by decide) (by decide)), if_neg (oI_nei (a := 7) (b := 4) (by decide) (by decide) (by decide)), if_neg (oI_nei (a := 7) (b := 5) (by decide) (by decide) (by decide)), if_neg (oI_nei (a := 7) (b := 6) (by decide) (by decide) (by decide)), if_pos rfl]
  obtain ⟨v1, a1, b1, e1⟩ := oI_nf (zxs (sh, t1) (nN (oI (x4 + 1))))
  simp only [oI_add]
  refine zok_ck ⟨by first | rfl | trivial, zin_o (by omega) (by show _ < ((sh.2.2.2.1 : Nat) : Int); omega) (by omega)⟩ ?_
  simp only [show zxs (sh, t1) (nN (oI (x4 + 1))) = oI v1 from e1]
  obtain ⟨R, V1, w1, k1⟩ := st_port (liftM_q q2) (liftC_q F q1 qw) qw mw J1.2 v1
  refine zok_cI (x214 F q1 ⟨a1, b1⟩ q3 I1.1 w1) (fun y t2 uy p => ?_)
  obtain ⟨f1, f2, f3, -, -, -⟩ := p
  subst f3
  obtain ⟨I2, J2⟩ := LI_L q2 I1 f1
  obtain ⟨yv, V2, w2, c2, val2, iw⟩ := k1 f1.aM
  rw [zput_s, b225_416 (wo5 := w5) (wo6 := w6)]
  simp only [oI_add]
  refine zok_ck ⟨by first | rfl | trivial, zin_o (by omega) (by show _ < ((sh.2.2.2.1 : Nat) : Int); omega) (by omega)⟩ ?_
  simp only [show zxs (sh, t2) (nN (oI (x4 + 1))) = oI v1 from e1]
  have hW2 : wcl zP 172 (([zR r2, zI (oI v1)] : List zV).map ab) (abH (sh, t2)) = some (.inl (some yv), (sh, V2)) := by
    show wcl zP 172 [wR r2, wI (oI v1).toInt] (sh, tgs t2) = _
    rw [oI_i ⟨a1, b1⟩]; exact w2
  refine zok_ck q2.1 (zok_iW (s172 q2 ⟨a1, b1⟩ I2.2.1) (zag_cl zP 172 _ _) hW2 (fun y2 t3 uy2 p2 ey hv2 => ?_))
  obtain ⟨I3, J3⟩ := LI_V F q2 h7 I2 p2.1 (by decide)
  have IV3 : IW sh r1 r2 (tgs t3) := by rw [hv2]; exact iw (by rw [← hv2]; exact p2.1.aC q2 (by decide))
  rw [zput_s, b225_428 (wo6 := w6)]
  exact K _ _ _ rfl rfl I3 ⟨by rw [J3, f2, J1.1, ← J2]; exact p2.2.symm, IV3⟩
theorem c225_8 {sh : zSh} {T MB r1 r2 r3 : Nat} (F : zCl sh T MB) (q1 : zLL sh T MB r1) (q2 : zMd sh MB r2) (qw : wLL sh r1) (mw : wMd sh r2) (q3 : sk sh r3 = (4, 1)) (h7 : ∀ a, MB ≤ a → sk sh a = (2, 7) → a = sr sh r2 10) (hc : 400 ≤ ((sk sh (sr sh T 0)).2 : Int)) (hL : sh.2.2.2.1 ≤ 240) {c0 s0 : Int} {x4 : Int} (hx : 0 ≤ x4 ∧ x4 + 5 ≤ (sh.2.2.2.1 : Int)) {o5 o6 : Option zV} (w5 : zisL o5 = false) (w6 : zisL o6 = false) {t1 : zSt} (I1 : LI sh r2 c0 s0 x4 t1) (J1 : (tg t1 T 1 = tg t1 (sr sh r2 2) 13 ∧ IW sh r1 r2 (tgs t1))) {Q : Option zV ⊕ Nat → zH → Prop} (K : ∀ (o5 o6 : Option zV) (t2 : zSt), zisL o5 = false → zisL o6 = false → LI sh r2 c0 s0 (x4 + 5) t2 → (tg t2 T 1 = tg t2 (sr sh r2 2) 13 ∧ IW sh r1 r2 (tgs t2)) → zok (zev zP 225 942 [some (zX 0), some (zR r1), some (zR r2), some (zR r3), some (zI (oI x4)), o5, o6] [] (sh, t2)) Q) : zok (zev zP 225 39 [some (zX 0), some (zR r1), some (zR r2), some (zR r3), some (zI (oI x4)), o5, o6] [zI (oI 8)] (sh, t1)) Q := by
  rw [b225_39]
  rw [if_neg (oI_nei (a := 8) (b := 0) (by decide) (by decide) (by decide)), if_neg (oI_nei (a := 8) (b := 1) (by decide) (by decide) (by decide)), if_neg (oI_nei (a := 8) (b := 2) (by decide) (by decide) (by decide)), if_neg (oI_nei (a := 8) (b := 3) (by decide) (by decide) (by decide)), if_neg (oI_nei (a := 8) (b := 4) (by decide) (by decide) (by decide)), if_neg (oI_nei (a := 8) (b := 5) (by decide) (by decide) (by decide)), if_neg (oI_nei (a := 8) (b := 6) (by decide) (by decide) (by decide)), if_neg (oI_nei (a := 8) (b := 7) (by decide) (by decide) (by decide)), if_pos rfl]
  obtain ⟨v1, a1, b1, e1⟩ := oI_nf (zxs (sh, t1) (nN (oI (x4 + 1))))
  obtain ⟨v2, a2, b2, e2⟩ := oI_nf (zxs (sh, t1) (nN (oI (x4 + 2))))
  obtain ⟨v3, a3, b3, e3⟩ := oI_nf (zxs (sh, t1) (nN (oI (x4 + 3))))
  simp only [oI_add]
  refine zok_ck ⟨by first | rfl | trivial, zin_o (by omega) (by show _ < ((sh.2.2.2.1 : Nat) : Int); omega) (by omega)⟩ ?_
  refine zok_ck ⟨by first | rfl | trivial, zin_o (by omega) (by show _ < ((sh.2.2.2.1 : Nat) : Int); omega) (by omega)⟩ ?_
  refine zok_ck ⟨by first | rfl | trivial, zin_o (by omega) (by show _ < ((sh.2.2.2.1 : Nat) : Int); omega) (by omega)⟩ ?_
  refine zok_ck ⟨by first | rfl | trivial, zin_o (by omega) (by show _ < ((sh.2.2.2.1 : Nat) : Int); omega) (by omega)⟩ ?_
  have key : ∀ b : Int, (b = 0 ∨ b = 1) → ((zxs (sh, t1) (nN (oI (x4 + 4))) = 0 → oI 0 = oI b) ∧ (¬ zxs (sh, t1) (nN (oI (x4 + 4))) = 0 → oI 1 = oI b)) → zok (zev zP 225 466 [some (zX 0), some (zR r1), some (zR r2), some (zR r3), some (zI (oI x4)), o5, o6] [zI (oI b), zI (zxs (sh, t1) (nN (oI (x4 + 3)))), zI (zxs (sh, t1) (nN (oI (x4 + 2)))), zI (zxs (sh, t1) (nN (oI (x4 + 1)))), zR r1] (sh, t1)) Q := by
    intro b hb hbb
    rw [b225_466 (wo5 := w5) (wo6 := w6)]
    simp only [show zxs (sh, t1) (nN (oI (x4 + 1))) = oI v1 from e1, show zxs (sh, t1) (nN (oI (x4 + 2))) = oI v2 from e2, show zxs (sh, t1) (nN (oI (x4 + 3))) = oI v3 from e3]
    obtain ⟨R, V1, w1, k1⟩ := st_resolve (liftM_q q2) (liftC_q F q1 qw) qw mw J1.2 v1 v2 v3 b
    refine zok_cI (x215 F q1 ⟨a1, b1⟩ ⟨a2, b2⟩ ⟨a3, b3⟩ (by omega) q3 I1.1 w1) (fun y t2 uy p => ?_)
    obtain ⟨f1, f2, f3, -, -, -⟩ := p
    subst f3
    obtain ⟨I2, J2⟩ := LI_L q2 I1 f1
    obtain ⟨yv, V2, w2, c2, val2, iw⟩ := k1 f1.aM
    rw [zput_s, b225_470 (wo5 := w5) (wo6 := w6)]
    simp only [oI_add]
    refine zok_ck ⟨by first | rfl | trivial, zin_o (by omega) (by show _ < ((sh.2.2.2.1 : Nat) : Int); omega) (by omega)⟩ ?_
    refine zok_ck ⟨by first | rfl | trivial, zin_o (by omega) (by show _ < ((sh.2.2.2.1 : Nat) : Int); omega) (by omega)⟩ ?_
    refine zok_ck ⟨by first | rfl | trivial, zin_o (by omega) (by show _ < ((sh.2.2.2.1 : Nat) : Int); omega) (by omega)⟩ ?_
    refine zok_ck ⟨by first | rfl | trivial, zin_o (by omega) (by show _ < ((sh.2.2.2.1 : Nat) : Int); omega) (by omega)⟩ ?_
    have key2 : ∀ d : Int, (d = 0 ∨ d = 1) → oI d = oI b → zok (zev zP 225 505 [some (zX 0), some (zR r1), some (zR r2), some (zR r3), some (zI (oI x4)), some (zI (oI y)), o6] [zI (oI d), zI (zxs (sh, t2) (nN (oI (x4 + 3)))), zI (zxs (sh, t2) (nN (oI (x4 + 2)))), zI (zxs (sh, t2) (nN (oI (x4 + 1)))), zR r2] (sh, t2)) Q := by
      intro d hd hdb
      rw [hdb]
      rw [b225_505 (wo6 := w6)]
      simp only [show zxs (sh, t2) (nN (oI (x4 + 1))) = oI v1 from e1, show zxs (sh, t2) (nN (oI (x4 + 2))) = oI v2 from e2, show zxs (sh, t2) (nN (oI (x4 + 3))) = oI v3 from e3]
      have hW2 : wcl zP 176 (([zR r2, zI (oI v1), zI (oI v2), zI (oI v3), zI (oI b)] : List zV).map ab) (abH (sh, t2)) = some (.inl (some yv), (sh, V2)) := by
        show wcl zP 176 [wR r2, wI (oI v1).toInt, wI (oI v2).toInt, wI (oI v3).toInt, wI (oI b).toInt] (sh, tgs t2) = _
        rw [oI_i ⟨a1, b1⟩, oI_i ⟨a2, b2⟩, oI_i ⟨a3, b3⟩, oI_i (x := b) (by omega)]; exact w2
      refine zok_ck q2.1 (zok_iW (s176 q2 ⟨a1, b1⟩ ⟨a2, b2⟩ ⟨a3, b3⟩ (by omega) I2.2.1) (zag_cl zP 176 _ _) hW2 (fun y2 t3 uy2 p2 ey hv2 => ?_))
      obtain ⟨I3, J3⟩ := LI_V F q2 h7 I2 p2.1 (by decide)
      have IV3 : IW sh r1 r2 (tgs t3) := by rw [hv2]; exact iw (by rw [← hv2]; exact p2.1.aC q2 (by decide))
      rw [zput_s, b225_508 (wo6 := w6)]
      exact K _ _ _ rfl rfl I3 ⟨by rw [J3, f2, J1.1, ← J2]; exact p2.2.symm, IV3⟩
    exact zok_if (fun c => key2 0 (Or.inl rfl) (hbb.1 c)) (fun c => key2 1 (Or.inr rfl) (hbb.2 c))
  exact zok_if (fun c => key 0 (Or.inl rfl) ⟨fun _ => rfl, fun w => absurd c w⟩) (fun c => key 1 (Or.inr rfl) ⟨fun w => absurd w c, fun _ => rfl⟩)
theorem c225_9 {sh : zSh} {T MB r1 r2 r3 : Nat} (F : zCl sh T MB) (q1 : zLL sh T MB r1) (q2 : zMd sh MB r2) (qw : wLL sh r1) (mw : wMd sh r2) (q3 : sk sh r3 = (4, 1)) (h7 : ∀ a, MB ≤ a → sk sh a = (2, 7) → a = sr sh r2 10) (hc : 400 ≤ ((sk sh (sr sh T 0)).2 : Int)) (hL : sh.2.2.2.1 ≤ 240) {c0 s0 : Int} {x4 : Int} (hx : 0 ≤ x4 ∧ x4 + 5 ≤ (sh.2.2.2.1 : Int)) {o5 o6 : Option zV} (w5 : zisL o5 = false) (w6 : zisL o6 = false) {t1 : zSt} (I1 : LI sh r2 c0 s0 x4 t1) (J1 : (tg t1 T 1 = tg t1 (sr sh r2 2) 13 ∧ IW sh r1 r2 (tgs t1))) {Q : Option zV ⊕ Nat → zH → Prop} (K : ∀ (o5 o6 : Option zV) (t2 : zSt), zisL o5 = false → zisL o6 = false → LI sh r2 c0 s0 (x4 + 5) t2 → (tg t2 T 1 = tg t2 (sr sh r2 2) 13 ∧ IW sh r1 r2 (tgs t2)) → zok (zev zP 225 942 [some (zX 0), some (zR r1), some (zR r2), some (zR r3), some (zI (oI x4)), o5, o6] [] (sh, t2)) Q) : zok (zev zP 225 39 [some (zX 0), some (zR r1), some (zR r2), some (zR r3), some (zI (oI x4)), o5, o6] [zI (oI 9)] (sh, t1)) Q := by
  rw [b225_39]
  rw [if_neg (oI_nei (a := 9) (b := 0) (by decide) (by decide) (by decide)), if_neg (oI_nei (a := 9) (b := 1) (by decide) (by decide) (by decide)), if_neg (oI_nei (a := 9) (b := 2) (by decide) (by decide) (by decide)), if_neg (oI_nei (a := 9) (b := 3) (by decide) (by decide) (by decide)), if_neg (oI_nei (a := 9) (b := 4) (by decide) (by decide) (by decide)), if_neg (oI_nei (a := 9) (b := 5) (by decide) (by decide) (by decide)), if_neg (oI_nei (a := 9) (b := 6) (by decide) (by decide) (by decide)), if_neg (oI_nei (a := 9) (b := 7) (by decide) (by decide) (by decide)), if_neg (oI_nei (a := 9) (b := 8) (by decide) (by decide) (by decide)), if_pos rfl]
  obtain ⟨v1, a1, b1, e1⟩ := oI_nf (zxs (sh, t1) (nN (oI (x4 + 1))))
  obtain ⟨v2, a2, b2, e2⟩ := oI_nf (zxs (sh, t1) (nN (oI (x4 + 2))))
  obtain ⟨v3, a3, b3, e3⟩ := oI_nf (zxs (sh, t1) (nN (oI (x4 + 3))))
  simp only [oI_add]
  refine zok_ck ⟨by first | rfl | trivial, zin_o (by omega) (by show _ < ((sh.2.2.2.1 : Nat) : Int); omega) (by omega)⟩ ?_
  refine zok_ck ⟨by first | rfl | trivial, zin_o (by omega) (by show _ < ((sh.2.2.2.1 : Nat) : Int); omega) (by omega)⟩ ?_
  refine zok_ck ⟨by first | rfl | trivial, zin_o (by omega) (by show _ < ((sh.2.2.2.1 : Nat) : Int); omega) (by omega)⟩ ?_
  simp only [show zxs (sh, t1) (nN (oI (x4 + 1))) = oI v1 from e1, show zxs (sh, t1) (nN (oI (x4 + 2))) = oI v2 from e2, show zxs (sh, t1) (nN (oI (x4 + 3))) = oI v3 from e3]
  obtain ⟨R, V1, w1, k1⟩ := st_norm (liftM_q q2) (liftC_q F q1 qw) qw mw J1.2 v1 v2 v3
  refine zok_cI (x216 F q1 ⟨a1, b1⟩ ⟨a2, b2⟩ ⟨a3, b3⟩ q3 I1.1 w1) (fun y t2 uy p => ?_)
  obtain ⟨f1, f2, f3, -, -, -⟩ := p
  subst f3
  obtain ⟨I2, J2⟩ := LI_L q2 I1 f1
  obtain ⟨yv, V2, w2, c2, val2, iw⟩ := k1 f1.aM
  rw [zput_s, b225_536 (wo5 := w5) (wo6 := w6)]
  simp only [oI_add]
  refine zok_ck ⟨by first | rfl | trivial, zin_o (by omega) (by show _ < ((sh.2.2.2.1 : Nat) : Int); omega) (by omega)⟩ ?_
  refine zok_ck ⟨by first | rfl | trivial, zin_o (by omega) (by show _ < ((sh.2.2.2.1 : Nat) : Int); omega) (by omega)⟩ ?_
  refine zok_ck ⟨by first | rfl | trivial, zin_o (by omega) (by show _ < ((sh.2.2.2.1 : Nat) : Int); omega) (by omega)⟩ ?_
  simp only [show zxs (sh, t2) (nN (oI (x4 + 1))) = oI v1 from e1, show zxs (sh, t2) (nN (oI (x4 + 2))) = oI v2 from e2, show zxs (sh, t2) (nN (oI (x4 + 3))) = oI v3 from e3]
  have hW2 : wcl zP 186 (([zR r2, zI (oI v1), zI (oI v2), zI (oI v3)] : List zV).map ab) (abH (sh, t2)) = some (.inl (some yv), (sh, V2)) := by
    show wcl zP 186 [wR r2, wI (oI v1).toInt, wI (oI v2).toInt, wI (oI v3).toInt] (sh, tgs t2) = _
    rw [oI_i ⟨a1, b1⟩, oI_i ⟨a2, b2⟩, oI_i ⟨a3, b3⟩]; exact w2
  refine zok_ck q2.1 (zok_iW (s186 q2 ⟨a1, b1⟩ ⟨a2, b2⟩ ⟨a3, b3⟩ I2.2.1) (zag_cl zP 186 _ _) hW2 (fun y2 t3 uy2 p2 ey hv2 => ?_))
  obtain ⟨I3, J3⟩ := LI_V F q2 h7 I2 p2.1 (by decide)
  have IV3 : IW sh r1 r2 (tgs t3) := by rw [hv2]; exact iw (by rw [← hv2]; exact p2.1.aC q2 (by decide))
  rw [zput_s, b225_560 (wo6 := w6)]
  exact K _ _ _ rfl rfl I3 ⟨by rw [J3, f2, J1.1, ← J2]; exact p2.2.symm, IV3⟩
theorem c225_10 {sh : zSh} {T MB r1 r2 r3 : Nat} (F : zCl sh T MB) (q1 : zLL sh T MB r1) (q2 : zMd sh MB r2) (qw : wLL sh r1) (mw : wMd sh r2) (q3 : sk sh r3 = (4, 1)) (h7 : ∀ a, MB ≤ a → sk sh a = (2, 7) → a = sr sh r2 10) (hc : 400 ≤ ((sk sh (sr sh T 0)).2 : Int)) (hL : sh.2.2.2.1 ≤ 240) {c0 s0 : Int} {x4 : Int} (hx : 0 ≤ x4 ∧ x4 + 5 ≤ (sh.2.2.2.1 : Int)) {o5 o6 : Option zV} (w5 : zisL o5 = false) (w6 : zisL o6 = false) {t1 : zSt} (I1 : LI sh r2 c0 s0 x4 t1) (J1 : (tg t1 T 1 = tg t1 (sr sh r2 2) 13 ∧ IW sh r1 r2 (tgs t1))) {Q : Option zV ⊕ Nat → zH → Prop} (K : ∀ (o5 o6 : Option zV) (t2 : zSt), zisL o5 = false → zisL o6 = false → LI sh r2 c0 s0 (x4 + 5) t2 → (tg t2 T 1 = tg t2 (sr sh r2 2) 13 ∧ IW sh r1 r2 (tgs t2)) → zok (zev zP 225 942 [some (zX 0), some (zR r1), some (zR r2), some (zR r3), some (zI (oI x4)), o5, o6] [] (sh, t2)) Q) : zok (zev zP 225 39 [some (zX 0), some (zR r1), some (zR r2), some (zR r3), some (zI (oI x4)), o5, o6] [zI (oI 10)] (sh, t1)) Q := by
  rw [b225_39]
  rw [if_neg (oI_nei (a := 10) (b := 0) (by decide) (by decide) (by decide)), if_neg (oI_nei (a := 10) (b := 1) (by decide) (by decide) (by decide)), if_neg (oI_nei (a := 10) (b := 2) (by decide) (by decide) (by decide)), if_neg (oI_nei (a := 10) (b := 3) (by decide) (by decide) (by decide)), if_neg (oI_nei (a := 10) (b := 4) (by decide) (by decide) (by decide)), if_neg (oI_nei (a := 10) (b := 5) (by decide) (by decide) (by decide)), if_neg (oI_nei (a := 10) (b := 6) (by decide) (by decide) (by decide)), if_neg (oI_nei (a := 10) (b := 7) (by decide) (by decide) (by decide)), if_neg (oI_nei (a := 10) (b := 8) (by decide) (by decide) (by decide)), if_neg (oI_nei (a := 10) (b := 9) (by decide) (by decide) (by decide)), if_pos rfl]
  obtain ⟨v1, a1, b1, e1⟩ := oI_nf (zxs (sh, t1) (nN (oI (x4 + 1))))
  obtain ⟨v2, a2, b2, e2⟩ := oI_nf (zxs (sh, t1) (nN (oI (x4 + 2))))
  obtain ⟨v3, a3, b3, e3⟩ := oI_nf (zxs (sh, t1) (nN (oI (x4 + 3))))
  simp only [oI_add]
  refine zok_ck ⟨by first | rfl | trivial, zin_o (by omega) (by show _ < ((sh.2.2.2.1 : Nat) : Int); omega) (by omega)⟩ ?_
  refine zok_ck ⟨by first | rfl | trivial, zin_o (by omega) (by show _ < ((sh.2.2.2.1 : Nat) : Int); omega) (by omega)⟩ ?_
  refine zok_ck ⟨by first | rfl | trivial, zin_o (by omega) (by show _ < ((sh.2.2.2.1 : Nat) : Int); omega) (by omega)⟩ ?_
  simp only [show zxs (sh, t1) (nN (oI (x4 + 1))) = oI v1 from e1, show zxs (sh, t1) (nN (oI (x4 + 2))) = oI v2 from e2, show zxs (sh, t1) (nN (oI (x4 + 3))) = oI v3 from e3]
  obtain ⟨R, V1, w1, k1⟩ := st_relate (liftM_q q2) (liftC_q F q1 qw) qw mw J1.2 v1 v2 v3
  refine zok_cI (x217 F q1 ⟨a1, b1⟩ ⟨a2, b2⟩ ⟨a3, b3⟩ q3 I1.1 w1) (fun y t2 uy p => ?_)
  obtain ⟨f1, f2, f3, -, -, -⟩ := p
  subst f3
  obtain ⟨I2, J2⟩ := LI_L q2 I1 f1
  obtain ⟨yv, V2, w2, c2, val2, iw⟩ := k1 f1.aM
  rw [zput_s, b225_588 (wo5 := w5) (wo6 := w6)]
  simp only [oI_add]
  refine zok_ck ⟨by first | rfl | trivial, zin_o (by omega) (by show _ < ((sh.2.2.2.1 : Nat) : Int); omega) (by omega)⟩ ?_
  refine zok_ck ⟨by first | rfl | trivial, zin_o (by omega) (by show _ < ((sh.2.2.2.1 : Nat) : Int); omega) (by omega)⟩ ?_
  refine zok_ck ⟨by first | rfl | trivial, zin_o (by omega) (by show _ < ((sh.2.2.2.1 : Nat) : Int); omega) (by omega)⟩ ?_
  simp only [show zxs (sh, t2) (nN (oI (x4 + 1))) = oI v1 from e1, show zxs (sh, t2) (nN (oI (x4 + 2))) = oI v2 from e2, show zxs (sh, t2) (nN (oI (x4 + 3))) = oI v3 from e3]
  have hW2 : wcl zP 192 (([zR r2, zI (oI v1), zI (oI v2), zI (oI v3)] : List zV).map ab) (abH (sh, t2)) = some (.inl (some yv), (sh, V2)) := by
    show wcl zP 192 [wR r2, wI (oI v1).toInt, wI (oI v2).toInt, wI (oI v3).toInt] (sh, tgs t2) = _
    rw [oI_i ⟨a1, b1⟩, oI_i ⟨a2, b2⟩, oI_i ⟨a3, b3⟩]; exact w2
  refine zok_ck q2.1 (zok_iW (s192 q2 ⟨a1, b1⟩ ⟨a2, b2⟩ ⟨a3, b3⟩ I2.2.1) (zag_cl zP 192 _ _) hW2 (fun y2 t3 uy2 p2 ey hv2 => ?_))
  obtain ⟨I3, J3⟩ := LI_V F q2 h7 I2 p2.1 (by decide)
  have IV3 : IW sh r1 r2 (tgs t3) := by rw [hv2]; exact iw (by rw [← hv2]; exact p2.1.aC q2 (by decide))
  rw [zput_s, b225_612 (wo6 := w6)]
  exact K _ _ _ rfl rfl I3 ⟨by rw [J3, f2, J1.1, ← J2]; exact p2.2.symm, IV3⟩
theorem c225_11 {sh : zSh} {T MB r1 r2 r3 : Nat} (F : zCl sh T MB) (q1 : zLL sh T MB r1) (q2 : zMd sh MB r2) (qw : wLL sh r1) (mw : wMd sh r2) (q3 : sk sh r3 = (4, 1)) (h7 : ∀ a, MB ≤ a → sk sh a = (2, 7) → a = sr sh r2 10) (hc : 400 ≤ ((sk sh (sr sh T 0)).2 : Int)) (hL : sh.2.2.2.1 ≤ 240) {c0 s0 : Int} {x4 : Int} (hx : 0 ≤ x4 ∧ x4 + 5 ≤ (sh.2.2.2.1 : Int)) {o5 o6 : Option zV} (w5 : zisL o5 = false) (w6 : zisL o6 = false) {t1 : zSt} (I1 : LI sh r2 c0 s0 x4 t1) (J1 : (tg t1 T 1 = tg t1 (sr sh r2 2) 13 ∧ IW sh r1 r2 (tgs t1))) {Q : Option zV ⊕ Nat → zH → Prop} (K : ∀ (o5 o6 : Option zV) (t2 : zSt), zisL o5 = false → zisL o6 = false → LI sh r2 c0 s0 (x4 + 5) t2 → (tg t2 T 1 = tg t2 (sr sh r2 2) 13 ∧ IW sh r1 r2 (tgs t2)) → zok (zev zP 225 942 [some (zX 0), some (zR r1), some (zR r2), some (zR r3), some (zI (oI x4)), o5, o6] [] (sh, t2)) Q) : zok (zev zP 225 39 [some (zX 0), some (zR r1), some (zR r2), some (zR r3), some (zI (oI x4)), o5, o6] [zI (oI 11)] (sh, t1)) Q := by
  rw [b225_39]
  rw [if_neg (oI_nei (a := 11) (b := 0) (by decide) (by decide) (by decide)), if_neg (oI_nei (a := 11) (b := 1) (by decide) (by decide) (by decide)), if_neg (oI_nei (a := 11) (b := 2) (by decide) (by decide) (by decide)), if_neg (oI_nei (a := 11) (b := 3) (by decide) (by decide) (by decide)), if_neg (oI_nei (a := 11) (b := 4) (by decide) (by decide) (by decide)), if_neg (oI_nei (a := 11) (b := 5) (by decide) (by decide) (by decide)), if_neg (oI_nei (a := 11) (b := 6) (by decide) (by decide) (by decide)), if_neg (oI_nei (a := 11) (b := 7) (by decide) (by decide) (by decide)), if_neg (oI_nei (a := 11) (b := 8) (by decide) (by decide) (by decide)), if_neg (oI_nei (a := 11) (b := 9) (by decide) (by decide) (by decide)), if_neg (oI_nei (a := 11) (b := 10) (by decide) (by decide) (by decide)), if_pos rfl]
  obtain ⟨v1, a1, b1, e1⟩ := oI_nf (zxs (sh, t1) (nN (oI (x4 + 1))))
  obtain ⟨v2, a2, b2, e2⟩ := oI_nf (zxs (sh, t1) (nN (oI (x4 + 2))))
  obtain ⟨v3, a3, b3, e3⟩ := oI_nf (zxs (sh, t1) (nN (oI (x4 + 3))))
  simp only [oI_add]
  refine zok_ck ⟨by first | rfl | trivial, zin_o (by omega) (by show _ < ((sh.2.2.2.1 : Nat) : Int); omega) (by omega)⟩ ?_
  refine zok_ck ⟨by first | rfl | trivial, zin_o (by omega) (by show _ < ((sh.2.2.2.1 : Nat) : Int); omega) (by omega)⟩ ?_
  refine zok_ck ⟨by first | rfl | trivial, zin_o (by omega) (by show _ < ((sh.2.2.2.1 : Nat) : Int); omega) (by omega)⟩ ?_
  simp only [show zxs (sh, t1) (nN (oI (x4 + 1))) = oI v1 from e1, show zxs (sh, t1) (nN (oI (x4 + 2))) = oI v2 from e2, show zxs (sh, t1) (nN (oI (x4 + 3))) = oI v3 from e3]
  obtain ⟨R, V1, w1, k1⟩ := st_same (liftM_q q2) (liftC_q F q1 qw) qw mw J1.2 v1 v2 v3
  refine zok_cI (x218 F q1 ⟨a1, b1⟩ ⟨a2, b2⟩ ⟨a3, b3⟩ q3 I1.1 w1) (fun y t2 uy p => ?_)
  obtain ⟨f1, f2, f3, -, -, -⟩ := p
  subst f3
  obtain ⟨I2, J2⟩ := LI_L q2 I1 f1
  obtain ⟨yv, V2, w2, c2, val2, iw⟩ := k1 f1.aM
  rw [zput_s, b225_640 (wo5 := w5) (wo6 := w6)]
  simp only [oI_add]
  refine zok_ck ⟨by first | rfl | trivial, zin_o (by omega) (by show _ < ((sh.2.2.2.1 : Nat) : Int); omega) (by omega)⟩ ?_
  refine zok_ck ⟨by first | rfl | trivial, zin_o (by omega) (by show _ < ((sh.2.2.2.1 : Nat) : Int); omega) (by omega)⟩ ?_
  refine zok_ck ⟨by first | rfl | trivial, zin_o (by omega) (by show _ < ((sh.2.2.2.1 : Nat) : Int); omega) (by omega)⟩ ?_
  simp only [show zxs (sh, t2) (nN (oI (x4 + 1))) = oI v1 from e1, show zxs (sh, t2) (nN (oI (x4 + 2))) = oI v2 from e2, show zxs (sh, t2) (nN (oI (x4 + 3))) = oI v3 from e3]
  have hW2 : wcl zP 187 (([zR r2, zI (oI v1), zI (oI v2), zI (oI v3)] : List zV).map ab) (abH (sh, t2)) = some (.inl (some yv), (sh, V2)) := by
    show wcl zP 187 [wR r2, wI (oI v1).toInt, wI (oI v2).toInt, wI (oI v3).toInt] (sh, tgs t2) = _
    rw [oI_i ⟨a1, b1⟩, oI_i ⟨a2, b2⟩, oI_i ⟨a3, b3⟩]; exact w2
  refine zok_ck q2.1 (zok_iW (s187 q2 ⟨a1, b1⟩ ⟨a2, b2⟩ ⟨a3, b3⟩ I2.2.1) (zag_cl zP 187 _ _) hW2 (fun y2 t3 uy2 p2 ey hv2 => ?_))
  obtain ⟨I3, J3⟩ := LI_V F q2 h7 I2 p2.1 (by decide)
  have IV3 : IW sh r1 r2 (tgs t3) := by rw [hv2]; exact iw (by rw [← hv2]; exact p2.1.aC q2 (by decide))
  rw [zput_s, b225_664 (wo6 := w6)]
  exact K _ _ _ rfl rfl I3 ⟨by rw [J3, f2, J1.1, ← J2]; exact p2.2.2.symm, IV3⟩
theorem c225_12 {sh : zSh} {T MB r1 r2 r3 : Nat} (F : zCl sh T MB) (q1 : zLL sh T MB r1) (q2 : zMd sh MB r2) (qw : wLL sh r1) (mw : wMd sh r2) (q3 : sk sh r3 = (4, 1)) (h7 : ∀ a, MB ≤ a → sk sh a = (2, 7) → a = sr sh r2 10) (hc : 400 ≤ ((sk sh (sr sh T 0)).2 : Int)) (hL : sh.2.2.2.1 ≤ 240) {c0 s0 : Int} {x4 : Int} (hx : 0 ≤ x4 ∧ x4 + 5 ≤ (sh.2.2.2.1 : Int)) {o5 o6 : Option zV} (w5 : zisL o5 = false) (w6 : zisL o6 = false) {t1 : zSt} (I1 : LI sh r2 c0 s0 x4 t1) (J1 : (tg t1 T 1 = tg t1 (sr sh r2 2) 13 ∧ IW sh r1 r2 (tgs t1))) {Q : Option zV ⊕ Nat → zH → Prop} (K : ∀ (o5 o6 : Option zV) (t2 : zSt), zisL o5 = false → zisL o6 = false → LI sh r2 c0 s0 (x4 + 5) t2 → (tg t2 T 1 = tg t2 (sr sh r2 2) 13 ∧ IW sh r1 r2 (tgs t2)) → zok (zev zP 225 942 [some (zX 0), some (zR r1), some (zR r2), some (zR r3), some (zI (oI x4)), o5, o6] [] (sh, t2)) Q) : zok (zev zP 225 39 [some (zX 0), some (zR r1), some (zR r2), some (zR r3), some (zI (oI x4)), o5, o6] [zI (oI 12)] (sh, t1)) Q := by
  rw [b225_39]
  rw [if_neg (oI_nei (a := 12) (b := 0) (by decide) (by decide) (by decide)), if_neg (oI_nei (a := 12) (b := 1) (by decide) (by decide) (by decide)), if_neg (oI_nei (a := 12) (b := 2) (by decide) (by decide) (by decide)), if_neg (oI_nei (a := 12) (b := 3) (by decide) (by decide) (by decide)), if_neg (oI_nei (a := 12) (b := 4) (by decide) (by decide) (by decide)), if_neg (oI_nei (a := 12) (b := 5) (by decide) (by decide) (by decide)), if_neg (oI_nei (a := 12) (b := 6) (by decide) (by decide) (by decide)), if_neg (oI_nei (a := 12) (b := 7) (by decide) (by decide) (by decide)), if_neg (oI_nei (a := 12) (b := 8) (by decide) (by decide) (by decide)), if_neg (oI_nei (a := 12) (b := 9) (by decide) (by decide) (by decide)), if_neg (oI_nei (a := 12) (b := 10) (by decide) (by decide) (by decide)), if_neg (oI_nei (a := 12) (b := 11) (by decide) (by decide) (by decide)), if_pos rfl]
  obtain ⟨v1, a1, b1, e1⟩ := oI_nf (zxs (sh, t1) (nN (oI (x4 + 1))))
  simp only [oI_add]
  refine zok_ck ⟨by first | rfl | trivial, zin_o (by omega) (by show _ < ((sh.2.2.2.1 : Nat) : Int); omega) (by omega)⟩ ?_
  simp only [show zxs (sh, t1) (nN (oI (x4 + 1))) = oI v1 from e1]
  obtain ⟨R, V1, w1, k1⟩ := st_segs (liftM_q q2) (liftC_q F q1 qw) qw mw J1.2 v1
  refine zok_cI (x219 F q1 ⟨a1, b1⟩ q3 I1.1 w1) (fun y t2 uy p => ?_)
  obtain ⟨f1, f2, f3, -, -, -⟩ := p
  subst f3
  obtain ⟨I2, J2⟩ := LI_L q2 I1 f1
  obtain ⟨yv, V2, w2, c2, val2, iw⟩ := k1 f1.aM
  rw [zput_s, b225_680 (wo5 := w5) (wo6 := w6)]
  simp only [oI_add]
  refine zok_ck ⟨by first | rfl | trivial, zin_o (by omega) (by show _ < ((sh.2.2.2.1 : Nat) : Int); omega) (by omega)⟩ ?_
  simp only [show zxs (sh, t2) (nN (oI (x4 + 1))) = oI v1 from e1]
  have hW2 : wcl zP 196 (([zR r2, zI (oI v1)] : List zV).map ab) (abH (sh, t2)) = some (.inl (some yv), (sh, V2)) := by
    show wcl zP 196 [wR r2, wI (oI v1).toInt] (sh, tgs t2) = _
    rw [oI_i ⟨a1, b1⟩]; exact w2
  refine zok_ck q2.1 (zok_iW (s196 q2 ⟨a1, b1⟩ I2.2.1) (zag_cl zP 196 _ _) hW2 (fun y2 t3 uy2 p2 ey hv2 => ?_))
  obtain ⟨I3, J3⟩ := LI_V F q2 h7 I2 p2.1 (by decide)
  have IV3 : IW sh r1 r2 (tgs t3) := by rw [hv2]; exact iw (by rw [← hv2]; exact p2.1.aC q2 (by decide))
  rw [zput_s, b225_692 (wo6 := w6)]
  exact K _ _ _ rfl rfl I3 ⟨by rw [J3, f2, J1.1, ← J2]; exact p2.2.symm, IV3⟩
theorem c225_13 {sh : zSh} {T MB r1 r2 r3 : Nat} (F : zCl sh T MB) (q1 : zLL sh T MB r1) (q2 : zMd sh MB r2) (qw : wLL sh r1) (mw : wMd sh r2) (q3 : sk sh r3 = (4, 1)) (h7 : ∀ a, MB ≤ a → sk sh a = (2, 7) → a = sr sh r2 10) (hc : 400 ≤ ((sk sh (sr sh T 0)).2 : Int)) (hL : sh.2.2.2.1 ≤ 240) {c0 s0 : Int} {x4 : Int} (hx : 0 ≤ x4 ∧ x4 + 5 ≤ (sh.2.2.2.1 : Int)) {o5 o6 : Option zV} (w5 : zisL o5 = false) (w6 : zisL o6 = false) {t1 : zSt} (I1 : LI sh r2 c0 s0 x4 t1) (J1 : (tg t1 T 1 = tg t1 (sr sh r2 2) 13 ∧ IW sh r1 r2 (tgs t1))) {Q : Option zV ⊕ Nat → zH → Prop} (K : ∀ (o5 o6 : Option zV) (t2 : zSt), zisL o5 = false → zisL o6 = false → LI sh r2 c0 s0 (x4 + 5) t2 → (tg t2 T 1 = tg t2 (sr sh r2 2) 13 ∧ IW sh r1 r2 (tgs t2)) → zok (zev zP 225 942 [some (zX 0), some (zR r1), some (zR r2), some (zR r3), some (zI (oI x4)), o5, o6] [] (sh, t2)) Q) : zok (zev zP 225 39 [some (zX 0), some (zR r1), some (zR r2), some (zR r3), some (zI (oI x4)), o5, o6] [zI (oI 13)] (sh, t1)) Q := by
  rw [b225_39]
  rw [if_neg (oI_nei (a := 13) (b := 0) (by decide) (by decide) (by decide)), if_neg (oI_nei (a := 13) (b := 1) (by decide) (by decide) (by decide)), if_neg (oI_nei (a := 13) (b := 2) (by decide) (by decide) (by decide)), if_neg (oI_nei (a := 13) (b := 3) (by decide) (by decide) (by decide)), if_neg (oI_nei (a := 13) (b := 4) (by decide) (by decide) (by decide)), if_neg (oI_nei (a := 13) (b := 5) (by decide) (by decide) (by decide)), if_neg (oI_nei (a := 13) (b := 6) (by decide) (by decide) (by decide)), if_neg (oI_nei (a := 13) (b := 7) (by decide) (by decide) (by decide)), if_neg (oI_nei (a := 13) (b := 8) (by decide) (by decide) (by decide)), if_neg (oI_nei (a := 13) (b := 9) (by decide) (by decide) (by decide)), if_neg (oI_nei (a := 13) (b := 10) (by decide) (by decide) (by decide)), if_neg (oI_nei (a := 13) (b := 11) (by decide) (by decide) (by decide)), if_neg (oI_nei (a := 13) (b := 12) (by decide) (by decide) (by decide)), if_pos rfl]
  obtain ⟨v1, a1, b1, e1⟩ := oI_nf (zxs (sh, t1) (nN (oI (x4 + 1))))
  obtain ⟨v2, a2, b2, e2⟩ := oI_nf (zxs (sh, t1) (nN (oI (x4 + 2))))
  simp only [oI_add]
  refine zok_ck ⟨by first | rfl | trivial, zin_o (by omega) (by show _ < ((sh.2.2.2.1 : Nat) : Int); omega) (by omega)⟩ ?_
  refine zok_ck ⟨by first | rfl | trivial, zin_o (by omega) (by show _ < ((sh.2.2.2.1 : Nat) : Int); omega) (by omega)⟩ ?_
  simp only [show zxs (sh, t1) (nN (oI (x4 + 1))) = oI v1 from e1, show zxs (sh, t1) (nN (oI (x4 + 2))) = oI v2 from e2]
  obtain ⟨R, V1, w1, k1⟩ := st_seg (liftM_q q2) (liftC_q F q1 qw) qw mw J1.2 v1 v2 ⟨a2, b2⟩
  refine zok_cI (x220 F q1 ⟨a1, b1⟩ ⟨a2, b2⟩ q3 I1.1 w1) (fun y t2 uy p => ?_)
  obtain ⟨f1, f2, f3, f4, f5, f6⟩ := p
  subst f3
  obtain ⟨I2, J2⟩ := LI_L q2 I1 f1
  obtain ⟨yv, V2, w2, c2, val2, iw⟩ := k1 f1.aM
  rw [zput_s, b225_714 (wo5 := w5) (wo6 := w6)]
  simp only [oI_add]
  refine zok_ck ⟨by first | rfl | trivial, zin_o (by omega) (by show _ < ((sh.2.2.2.1 : Nat) : Int); omega) (by omega)⟩ ?_
  refine zok_ck ⟨by first | rfl | trivial, zin_o (by omega) (by show _ < ((sh.2.2.2.1 : Nat) : Int); omega) (by omega)⟩ ?_
  simp only [show zxs (sh, t2) (nN (oI (x4 + 1))) = oI v1 from e1, show zxs (sh, t2) (nN (oI (x4 + 2))) = oI v2 from e2]
  have hW2 : wcl zP 200 (([zR r2, zI (oI v1), zI (oI v2)] : List zV).map ab) (abH (sh, t2)) = some (.inl (some yv), (sh, V2)) := by
    show wcl zP 200 [wR r2, wI (oI v1).toInt, wI (oI v2).toInt] (sh, tgs t2) = _
    rw [oI_i ⟨a1, b1⟩, oI_i ⟨a2, b2⟩]; exact w2
  refine zok_ck q2.1 (zok_iW (s200 q2 ⟨a1, b1⟩ ⟨a2, b2⟩ I2.2.1) (zag_cl zP 200 _ _) hW2 (fun y2 t3 uy2 p2 ey hv2 => ?_))
  obtain ⟨I3, J3⟩ := LI_V F q2 h7 I2 p2.1 (by decide)
  have IV3 : IW sh r1 r2 (tgs t3) := by rw [hv2]; exact iw (by rw [← hv2]; exact p2.1.aC q2 (by decide))
  rw [zput_s, b225_732 (wo6 := w6)]
  refine zok_ck q2.1 (zok_pI (s119 q2 I3.2.1) (fun y3 uy3 p3 => ?_))
  have c3 : y3 = y := by
    rw [p3, f4, ← c2, ← hv2]; rfl
  rw [zput_s, b225_738, if_pos (by rw [c3])]
  have fin : zok (zev zP 225 762 [some (zX 0), some (zR r1), some (zR r2), some (zR r3), some (zI (oI x4)), some (zI (oI y)), some (zI (oI y2))] [] (sh, t3)) Q := by
    rw [b225_762]; exact K _ _ _ rfl rfl I3 ⟨by rw [J3, f2, J1.1, ← J2]; exact p2.2.symm, IV3⟩
  cases R with
  | inr E =>
    have y1 := f5 E rfl
    rw [if_pos (mt (oI_eq uy.1 uy.2 (by decide) (by decide)).mp (by omega))]
    exact fin
  | inl v =>
    obtain ⟨yy, hv, tl2⟩ := f6 v rfl
    subst hv
    have e := (val2 _ rfl).trans ey.symm
    have e : yy = y2 := Sum.inl.inj e
    have y0 : y = 0 := f4
    rw [if_neg (fun w => w (by rw [y0]))]
    refine zok_ck ⟨by rw [q3], by rw [q3]; exact zin_o (by decide) (by decide) (by decide)⟩ ?_
    have hl : tl t3 r3 0 = tl t2 r3 0 := by unfold tl; rw [p2.1.1]
    rw [show nN (oI 0) = 0 from rfl, hl, tl2, e, if_pos (lg_cmp_self _)]
    exact fin
theorem c225_14 {sh : zSh} {T MB r1 r2 r3 : Nat} (F : zCl sh T MB) (q1 : zLL sh T MB r1) (q2 : zMd sh MB r2) (qw : wLL sh r1) (mw : wMd sh r2) (q3 : sk sh r3 = (4, 1)) (h7 : ∀ a, MB ≤ a → sk sh a = (2, 7) → a = sr sh r2 10) (hc : 400 ≤ ((sk sh (sr sh T 0)).2 : Int)) (hL : sh.2.2.2.1 ≤ 240) {c0 s0 : Int} {x4 : Int} (hx : 0 ≤ x4 ∧ x4 + 5 ≤ (sh.2.2.2.1 : Int)) {o5 o6 : Option zV} (w5 : zisL o5 = false) (w6 : zisL o6 = false) {t1 : zSt} (I1 : LI sh r2 c0 s0 x4 t1) (J1 : (tg t1 T 1 = tg t1 (sr sh r2 2) 13 ∧ IW sh r1 r2 (tgs t1))) {Q : Option zV ⊕ Nat → zH → Prop} (K : ∀ (o5 o6 : Option zV) (t2 : zSt), zisL o5 = false → zisL o6 = false → LI sh r2 c0 s0 (x4 + 5) t2 → (tg t2 T 1 = tg t2 (sr sh r2 2) 13 ∧ IW sh r1 r2 (tgs t2)) → zok (zev zP 225 942 [some (zX 0), some (zR r1), some (zR r2), some (zR r3), some (zI (oI x4)), o5, o6] [] (sh, t2)) Q) : zok (zev zP 225 39 [some (zX 0), some (zR r1), some (zR r2), some (zR r3), some (zI (oI x4)), o5, o6] [zI (oI 14)] (sh, t1)) Q := by
  rw [b225_39]
  rw [if_neg (oI_nei (a := 14) (b := 0) (by decide) (by decide) (by decide)), if_neg (oI_nei (a := 14) (b := 1) (by decide) (by decide) (by decide)), if_neg (oI_nei (a := 14) (b := 2) (by decide) (by decide) (by decide)), if_neg (oI_nei (a := 14) (b := 3) (by decide) (by decide) (by decide)), if_neg (oI_nei (a := 14) (b := 4) (by decide) (by decide) (by decide)), if_neg (oI_nei (a := 14) (b := 5) (by decide) (by decide) (by decide)), if_neg (oI_nei (a := 14) (b := 6) (by decide) (by decide) (by decide)), if_neg (oI_nei (a := 14) (b := 7) (by decide) (by decide) (by decide)), if_neg (oI_nei (a := 14) (b := 8) (by decide) (by decide) (by decide)), if_neg (oI_nei (a := 14) (b := 9) (by decide) (by decide) (by decide)), if_neg (oI_nei (a := 14) (b := 10) (by decide) (by decide) (by decide)), if_neg (oI_nei (a := 14) (b := 11) (by decide) (by decide) (by decide)), if_neg (oI_nei (a := 14) (b := 12) (by decide) (by decide) (by decide)), if_neg (oI_nei (a := 14) (b := 13) (by decide) (by decide) (by decide)), if_pos rfl]
  obtain ⟨v1, a1, b1, e1⟩ := oI_nf (zxs (sh, t1) (nN (oI (x4 + 1))))
  simp only [oI_add]
  refine zok_ck ⟨by first | rfl | trivial, zin_o (by omega) (by show _ < ((sh.2.2.2.1 : Nat) : Int); omega) (by omega)⟩ ?_
  simp only [show zxs (sh, t1) (nN (oI (x4 + 1))) = oI v1 from e1]
  obtain ⟨R, V1, w1, k1⟩ := st_desc (liftM_q q2) (liftC_q F q1 qw) qw mw J1.2 v1
  refine zok_cI (x221 F q1 ⟨a1, b1⟩ q3 I1.1 w1) (fun y t2 uy p => ?_)
  obtain ⟨f1, f2, f3, -, -, -⟩ := p
  subst f3
  obtain ⟨I2, J2⟩ := LI_L q2 I1 f1
  obtain ⟨yv, V2, w2, c2, val2, iw⟩ := k1 f1.aM
  rw [zput_s, b225_776 (wo5 := w5) (wo6 := w6)]
  simp only [oI_add]
  refine zok_ck ⟨by first | rfl | trivial, zin_o (by omega) (by show _ < ((sh.2.2.2.1 : Nat) : Int); omega) (by omega)⟩ ?_
  simp only [show zxs (sh, t2) (nN (oI (x4 + 1))) = oI v1 from e1]
  have hW2 : wcl zP 201 (([zR r2, zI (oI v1)] : List zV).map ab) (abH (sh, t2)) = some (.inl (some yv), (sh, V2)) := by
    show wcl zP 201 [wR r2, wI (oI v1).toInt] (sh, tgs t2) = _
    rw [oI_i ⟨a1, b1⟩]; exact w2
  refine zok_ck q2.1 (zok_iW (s201 q2 ⟨a1, b1⟩ I2.2.1) (zag_cl zP 201 _ _) hW2 (fun y2 t3 uy2 p2 ey hv2 => ?_))
  obtain ⟨I3, J3⟩ := LI_V F q2 h7 I2 p2.1 (by decide)
  have IV3 : IW sh r1 r2 (tgs t3) := by rw [hv2]; exact iw (by rw [← hv2]; exact p2.1.aC q2 (by decide))
  rw [zput_s, b225_788 (wo6 := w6)]
  exact K _ _ _ rfl rfl I3 ⟨by rw [J3, f2]; exact p2.2.symm, IV3⟩
theorem c225_15 {sh : zSh} {T MB r1 r2 r3 : Nat} (F : zCl sh T MB) (q1 : zLL sh T MB r1) (q2 : zMd sh MB r2) (qw : wLL sh r1) (mw : wMd sh r2) (q3 : sk sh r3 = (4, 1)) (h7 : ∀ a, MB ≤ a → sk sh a = (2, 7) → a = sr sh r2 10) (hc : 400 ≤ ((sk sh (sr sh T 0)).2 : Int)) (hL : sh.2.2.2.1 ≤ 240) {c0 s0 : Int} {x4 : Int} (hx : 0 ≤ x4 ∧ x4 + 5 ≤ (sh.2.2.2.1 : Int)) {o5 o6 : Option zV} (w5 : zisL o5 = false) (w6 : zisL o6 = false) {t1 : zSt} (I1 : LI sh r2 c0 s0 x4 t1) (J1 : (tg t1 T 1 = tg t1 (sr sh r2 2) 13 ∧ IW sh r1 r2 (tgs t1))) {Q : Option zV ⊕ Nat → zH → Prop} (K : ∀ (o5 o6 : Option zV) (t2 : zSt), zisL o5 = false → zisL o6 = false → LI sh r2 c0 s0 (x4 + 5) t2 → (tg t2 T 1 = tg t2 (sr sh r2 2) 13 ∧ IW sh r1 r2 (tgs t2)) → zok (zev zP 225 942 [some (zX 0), some (zR r1), some (zR r2), some (zR r3), some (zI (oI x4)), o5, o6] [] (sh, t2)) Q) : zok (zev zP 225 39 [some (zX 0), some (zR r1), some (zR r2), some (zR r3), some (zI (oI x4)), o5, o6] [zI (oI 15)] (sh, t1)) Q := by
  rw [b225_39]
  rw [if_neg (oI_nei (a := 15) (b := 0) (by decide) (by decide) (by decide)), if_neg (oI_nei (a := 15) (b := 1) (by decide) (by decide) (by decide)), if_neg (oI_nei (a := 15) (b := 2) (by decide) (by decide) (by decide)), if_neg (oI_nei (a := 15) (b := 3) (by decide) (by decide) (by decide)), if_neg (oI_nei (a := 15) (b := 4) (by decide) (by decide) (by decide)), if_neg (oI_nei (a := 15) (b := 5) (by decide) (by decide) (by decide)), if_neg (oI_nei (a := 15) (b := 6) (by decide) (by decide) (by decide)), if_neg (oI_nei (a := 15) (b := 7) (by decide) (by decide) (by decide)), if_neg (oI_nei (a := 15) (b := 8) (by decide) (by decide) (by decide)), if_neg (oI_nei (a := 15) (b := 9) (by decide) (by decide) (by decide)), if_neg (oI_nei (a := 15) (b := 10) (by decide) (by decide) (by decide)), if_neg (oI_nei (a := 15) (b := 11) (by decide) (by decide) (by decide)), if_neg (oI_nei (a := 15) (b := 12) (by decide) (by decide) (by decide)), if_neg (oI_nei (a := 15) (b := 13) (by decide) (by decide) (by decide)), if_neg (oI_nei (a := 15) (b := 14) (by decide) (by decide) (by decide)), if_pos rfl]
  obtain ⟨v1, a1, b1, e1⟩ := oI_nf (zxs (sh, t1) (nN (oI (x4 + 1))))
  simp only [oI_add]
  refine zok_ck ⟨by first | rfl | trivial, zin_o (by omega) (by show _ < ((sh.2.2.2.1 : Nat) : Int); omega) (by omega)⟩ ?_
  simp only [show zxs (sh, t1) (nN (oI (x4 + 1))) = oI v1 from e1]
  obtain ⟨R, V1, w1, k1⟩ := st_asc (liftM_q q2) (liftC_q F q1 qw) qw mw J1.2 v1
  refine zok_cI (x222 F q1 ⟨a1, b1⟩ q3 I1.1 w1) (fun y t2 uy p => ?_)
  obtain ⟨f1, f2, f3, -, -, -⟩ := p
  subst f3
  obtain ⟨I2, J2⟩ := LI_L q2 I1 f1
  obtain ⟨yv, V2, w2, c2, val2, iw⟩ := k1 f1.aM
  rw [zput_s, b225_804 (wo5 := w5) (wo6 := w6)]
  simp only [oI_add]
  refine zok_ck ⟨by first | rfl | trivial, zin_o (by omega) (by show _ < ((sh.2.2.2.1 : Nat) : Int); omega) (by omega)⟩ ?_
  simp only [show zxs (sh, t2) (nN (oI (x4 + 1))) = oI v1 from e1]
  have hW2 : wcl zP 203 (([zR r2, zI (oI v1)] : List zV).map ab) (abH (sh, t2)) = some (.inl (some yv), (sh, V2)) := by
    show wcl zP 203 [wR r2, wI (oI v1).toInt] (sh, tgs t2) = _
    rw [oI_i ⟨a1, b1⟩]; exact w2
  refine zok_ck q2.1 (zok_iW (s203 q2 ⟨a1, b1⟩ I2.2.1) (zag_cl zP 203 _ _) hW2 (fun y2 t3 uy2 p2 ey hv2 => ?_))
  obtain ⟨I3, J3⟩ := LI_V F q2 h7 I2 p2.1 (by decide)
  have IV3 : IW sh r1 r2 (tgs t3) := by rw [hv2]; exact iw (by rw [← hv2]; exact p2.1.aC q2 (by decide))
  rw [zput_s, b225_816 (wo6 := w6)]
  exact K _ _ _ rfl rfl I3 ⟨by rw [J3, f2, J1.1, ← J2]; exact p2.2.symm, IV3⟩
theorem c225_16 {sh : zSh} {T MB r1 r2 r3 : Nat} (F : zCl sh T MB) (q1 : zLL sh T MB r1) (q2 : zMd sh MB r2) (qw : wLL sh r1) (mw : wMd sh r2) (q3 : sk sh r3 = (4, 1)) (h7 : ∀ a, MB ≤ a → sk sh a = (2, 7) → a = sr sh r2 10) (hc : 400 ≤ ((sk sh (sr sh T 0)).2 : Int)) (hL : sh.2.2.2.1 ≤ 240) {c0 s0 : Int} {x4 : Int} (hx : 0 ≤ x4 ∧ x4 + 5 ≤ (sh.2.2.2.1 : Int)) {o5 o6 : Option zV} (w5 : zisL o5 = false) (w6 : zisL o6 = false) {t1 : zSt} (I1 : LI sh r2 c0 s0 x4 t1) (J1 : (tg t1 T 1 = tg t1 (sr sh r2 2) 13 ∧ IW sh r1 r2 (tgs t1))) {Q : Option zV ⊕ Nat → zH → Prop} (K : ∀ (o5 o6 : Option zV) (t2 : zSt), zisL o5 = false → zisL o6 = false → LI sh r2 c0 s0 (x4 + 5) t2 → (tg t2 T 1 = tg t2 (sr sh r2 2) 13 ∧ IW sh r1 r2 (tgs t2)) → zok (zev zP 225 942 [some (zX 0), some (zR r1), some (zR r2), some (zR r3), some (zI (oI x4)), o5, o6] [] (sh, t2)) Q) : zok (zev zP 225 39 [some (zX 0), some (zR r1), some (zR r2), some (zR r3), some (zI (oI x4)), o5, o6] [zI (oI 16)] (sh, t1)) Q := by
  rw [b225_39]
  rw [if_neg (oI_nei (a := 16) (b := 0) (by decide) (by decide) (by decide)), if_neg (oI_nei (a := 16) (b := 1) (by decide) (by decide) (by decide)), if_neg (oI_nei (a := 16) (b := 2) (by decide) (by decide) (by decide)), if_neg (oI_nei (a := 16) (b := 3) (by decide) (by decide) (by decide)), if_neg (oI_nei (a := 16) (b := 4) (by decide) (by decide) (by decide)), if_neg (oI_nei (a := 16) (b := 5) (by decide) (by decide) (by decide)), if_neg (oI_nei (a := 16) (b := 6) (by decide) (by decide) (by decide)), if_neg (oI_nei (a := 16) (b := 7) (by decide) (by decide) (by decide)), if_neg (oI_nei (a := 16) (b := 8) (by decide) (by decide) (by decide)), if_neg (oI_nei (a := 16) (b := 9) (by decide) (by decide) (by decide)), if_neg (oI_nei (a := 16) (b := 10) (by decide) (by decide) (by decide)), if_neg (oI_nei (a := 16) (b := 11) (by decide) (by decide) (by decide)), if_neg (oI_nei (a := 16) (b := 12) (by decide) (by decide) (by decide)), if_neg (oI_nei (a := 16) (b := 13) (by decide) (by decide) (by decide)), if_neg (oI_nei (a := 16) (b := 14) (by decide) (by decide) (by decide)), if_neg (oI_nei (a := 16) (b := 15) (by decide) (by decide) (by decide)), if_pos rfl]
  obtain ⟨v1, a1, b1, e1⟩ := oI_nf (zxs (sh, t1) (nN (oI (x4 + 1))))
  simp only [oI_add]
  refine zok_ck ⟨by first | rfl | trivial, zin_o (by omega) (by show _ < ((sh.2.2.2.1 : Nat) : Int); omega) (by omega)⟩ ?_
  simp only [show zxs (sh, t1) (nN (oI (x4 + 1))) = oI v1 from e1]
  obtain ⟨R, V1, w1, k1⟩ := st_pairs (liftM_q q2) (liftC_q F q1 qw) qw mw J1.2 v1
  refine zok_cI (x223 F q1 ⟨a1, b1⟩ q3 I1.1 w1) (fun y t2 uy p => ?_)
  obtain ⟨f1, f2, f3, -, -, -⟩ := p
  subst f3
  obtain ⟨I2, J2⟩ := LI_L q2 I1 f1
  obtain ⟨yv, V2, w2, c2, val2, iw⟩ := k1 f1.aM
  rw [zput_s, b225_832 (wo5 := w5) (wo6 := w6)]
  simp only [oI_add]
  refine zok_ck ⟨by first | rfl | trivial, zin_o (by omega) (by show _ < ((sh.2.2.2.1 : Nat) : Int); omega) (by omega)⟩ ?_
  simp only [show zxs (sh, t2) (nN (oI (x4 + 1))) = oI v1 from e1]
  have hW2 : wcl zP 205 (([zR r2, zI (oI v1)] : List zV).map ab) (abH (sh, t2)) = some (.inl (some yv), (sh, V2)) := by
    show wcl zP 205 [wR r2, wI (oI v1).toInt] (sh, tgs t2) = _
    rw [oI_i ⟨a1, b1⟩]; exact w2
  refine zok_ck q2.1 (zok_iW (s205 q2 ⟨a1, b1⟩ I2.2.1) (zag_cl zP 205 _ _) hW2 (fun y2 t3 uy2 p2 ey hv2 => ?_))
  obtain ⟨I3, J3⟩ := LI_V F q2 h7 I2 p2.1 (by decide)
  have IV3 : IW sh r1 r2 (tgs t3) := by rw [hv2]; exact iw (by rw [← hv2]; exact p2.1.aC q2 (by decide))
  rw [zput_s, b225_844 (wo6 := w6)]
  exact K _ _ _ rfl rfl I3 ⟨by rw [J3, f2, J1.1, ← J2]; exact p2.2.symm, IV3⟩
theorem c225_17 {sh : zSh} {T MB r1 r2 r3 : Nat} (F : zCl sh T MB) (q1 : zLL sh T MB r1) (q2 : zMd sh MB r2) (qw : wLL sh r1) (mw : wMd sh r2) (q3 : sk sh r3 = (4, 1)) (h7 : ∀ a, MB ≤ a → sk sh a = (2, 7) → a = sr sh r2 10) (hc : 400 ≤ ((sk sh (sr sh T 0)).2 : Int)) (hL : sh.2.2.2.1 ≤ 240) {c0 s0 : Int} {x4 : Int} (hx : 0 ≤ x4 ∧ x4 + 5 ≤ (sh.2.2.2.1 : Int)) {o5 o6 : Option zV} (w5 : zisL o5 = false) (w6 : zisL o6 = false) {t1 : zSt} (I1 : LI sh r2 c0 s0 x4 t1) (J1 : (tg t1 T 1 = tg t1 (sr sh r2 2) 13 ∧ IW sh r1 r2 (tgs t1))) {Q : Option zV ⊕ Nat → zH → Prop} (K : ∀ (o5 o6 : Option zV) (t2 : zSt), zisL o5 = false → zisL o6 = false → LI sh r2 c0 s0 (x4 + 5) t2 → (tg t2 T 1 = tg t2 (sr sh r2 2) 13 ∧ IW sh r1 r2 (tgs t2)) → zok (zev zP 225 942 [some (zX 0), some (zR r1), some (zR r2), some (zR r3), some (zI (oI x4)), o5, o6] [] (sh, t2)) Q) : zok (zev zP 225 39 [some (zX 0), some (zR r1), some (zR r2), some (zR r3), some (zI (oI x4)), o5, o6] [zI (oI 17)] (sh, t1)) Q := by
  rw [b225_39]
  rw [if_neg (oI_nei (a := 17) (b := 0) (by decide) (by decide) (by decide)), if_neg (oI_nei (a := 17) (b := 1) (by decide) (by decide) (by decide)), if_neg (oI_nei (a := 17) (b := 2) (by decide) (by decide) (by decide)), if_neg (oI_nei (a := 17) (b := 3) (by decide) (by decide) (by decide)), if_neg (oI_nei (a := 17) (b := 4) (by decide) (by decide) (by decide)), if_neg (oI_nei (a := 17) (b := 5) (by decide) (by decide) (by decide)), if_neg (oI_nei (a := 17) (b := 6) (by decide) (by decide) (by decide)), if_neg (oI_nei (a := 17) (b := 7) (by decide) (by decide) (by decide)), if_neg (oI_nei (a := 17) (b := 8) (by decide) (by decide) (by decide)), if_neg (oI_nei (a := 17) (b := 9) (by decide) (by decide) (by decide)), if_neg (oI_nei (a := 17) (b := 10) (by decide) (by decide) (by decide)), if_neg (oI_nei (a := 17) (b := 11) (by decide) (by decide) (by decide)), if_neg (oI_nei (a := 17) (b := 12) (by decide) (by decide) (by decide)), if_neg (oI_nei (a := 17) (b := 13) (by decide) (by decide) (by decide)), if_neg (oI_nei (a := 17) (b := 14) (by decide) (by decide) (by decide)), if_neg (oI_nei (a := 17) (b := 15) (by decide) (by decide) (by decide)), if_neg (oI_nei (a := 17) (b := 16) (by decide) (by decide) (by decide)), if_pos rfl]
  obtain ⟨v1, a1, b1, e1⟩ := oI_nf (zxs (sh, t1) (nN (oI (x4 + 1))))
  obtain ⟨v2, a2, b2, e2⟩ := oI_nf (zxs (sh, t1) (nN (oI (x4 + 2))))
  simp only [oI_add]
  refine zok_ck ⟨by first | rfl | trivial, zin_o (by omega) (by show _ < ((sh.2.2.2.1 : Nat) : Int); omega) (by omega)⟩ ?_
  refine zok_ck ⟨by first | rfl | trivial, zin_o (by omega) (by show _ < ((sh.2.2.2.1 : Nat) : Int); omega) (by omega)⟩ ?_
  refine zok_ck ⟨by first | rfl | trivial, zin_o (by omega) (by show _ < ((sh.2.2.2.1 : Nat) : Int); omega) (by omega)⟩ ?_
  have key : ∀ b : Int, (b = 0 ∨ b = 1) → ((zxs (sh, t1) (nN (oI (x4 + 3))) = 0 → oI 0 = oI b) ∧ (¬ zxs (sh, t1) (nN (oI (x4 + 3))) = 0 → oI 1 = oI b)) → zok (zev zP 225 876 [some (zX 0), some (zR r1), some (zR r2), some (zR r3), some (zI (oI x4)), o5, o6] [zI (oI b), zI (zxs (sh, t1) (nN (oI (x4 + 2)))), zI (zxs (sh, t1) (nN (oI (x4 + 1)))), zR r1] (sh, t1)) Q := by
    intro b hb hbb
    rw [b225_876 (wo5 := w5) (wo6 := w6)]
    simp only [show zxs (sh, t1) (nN (oI (x4 + 1))) = oI v1 from e1, show zxs (sh, t1) (nN (oI (x4 + 2))) = oI v2 from e2]
    obtain ⟨R, V1, w1, k1⟩ := st_pair (liftM_q q2) (liftC_q F q1 qw) qw mw J1.2 v1 v2 b ⟨a2, b2⟩
    refine zok_cI (x224 F q1 ⟨a1, b1⟩ ⟨a2, b2⟩ (by omega) q3 I1.1 w1) (fun y t2 uy p => ?_)
    obtain ⟨f1, f2, f3, -, -, -⟩ := p
    subst f3
    obtain ⟨I2, J2⟩ := LI_L q2 I1 f1
    obtain ⟨yv, V2, w2, c2, val2, iw⟩ := k1 f1.aM
    rw [zput_s, b225_880 (wo5 := w5) (wo6 := w6)]
    simp only [oI_add]
    refine zok_ck ⟨by first | rfl | trivial, zin_o (by omega) (by show _ < ((sh.2.2.2.1 : Nat) : Int); omega) (by omega)⟩ ?_
    refine zok_ck ⟨by first | rfl | trivial, zin_o (by omega) (by show _ < ((sh.2.2.2.1 : Nat) : Int); omega) (by omega)⟩ ?_
    refine zok_ck ⟨by first | rfl | trivial, zin_o (by omega) (by show _ < ((sh.2.2.2.1 : Nat) : Int); omega) (by omega)⟩ ?_
    have key2 : ∀ d : Int, (d = 0 ∨ d = 1) → oI d = oI b → zok (zev zP 225 909 [some (zX 0), some (zR r1), some (zR r2), some (zR r3), some (zI (oI x4)), some (zI (oI y)), o6] [zI (oI d), zI (zxs (sh, t2) (nN (oI (x4 + 2)))), zI (zxs (sh, t2) (nN (oI (x4 + 1)))), zR r2] (sh, t2)) Q := by
      intro d hd hdb
      rw [hdb]
      rw [b225_909 (wo6 := w6)]
      simp only [show zxs (sh, t2) (nN (oI (x4 + 1))) = oI v1 from e1, show zxs (sh, t2) (nN (oI (x4 + 2))) = oI v2 from e2]
      have hW2 : wcl zP 206 (([zR r2, zI (oI v1), zI (oI v2), zI (oI b)] : List zV).map ab) (abH (sh, t2)) = some (.inl (some yv), (sh, V2)) := by
        show wcl zP 206 [wR r2, wI (oI v1).toInt, wI (oI v2).toInt, wI (oI b).toInt] (sh, tgs t2) = _
        rw [oI_i ⟨a1, b1⟩, oI_i ⟨a2, b2⟩, oI_i (x := b) (by omega)]; exact w2
      refine zok_ck q2.1 (zok_iW (s206 q2 ⟨a1, b1⟩ ⟨a2, b2⟩ (by omega) I2.2.1) (zag_cl zP 206 _ _) hW2 (fun y2 t3 uy2 p2 ey hv2 => ?_))
      obtain ⟨I3, J3⟩ := LI_V F q2 h7 I2 p2.1 (by decide)
      have IV3 : IW sh r1 r2 (tgs t3) := by rw [hv2]; exact iw (by rw [← hv2]; exact p2.1.aC q2 (by decide))
      rw [zput_s, b225_912 (wo6 := w6)]
      exact K _ _ _ rfl rfl I3 ⟨by rw [J3, f2, J1.1, ← J2]; exact p2.2.symm, IV3⟩
    exact zok_if (fun c => key2 0 (Or.inl rfl) (hbb.1 c)) (fun c => key2 1 (Or.inr rfl) (hbb.2 c))
  exact zok_if (fun c => key 0 (Or.inl rfl) ⟨fun _ => rfl, fun w => absurd c w⟩) (fun c => key 1 (Or.inr rfl) ⟨fun w => absurd w c, fun _ => rfl⟩)
