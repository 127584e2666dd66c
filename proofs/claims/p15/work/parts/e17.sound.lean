set_option maxRecDepth 16384
section ZSOUND
variable {E : zEnv} {p : Program} {l : Launch} {e : Env} {R : Room} {s : State} {m : MethodId} {args : Array Value} {below : List Frame} {meth : Method} {c : Code} {Q : State → Prop} {c0 s0 n0 : Nat} {ad0 ea0 : Nat → Nat}

theorem zat0 : ∀ x, x < 4 → (∀ w ∈ (vx_at0 RX8 ([60, 67, 220, 146].getD x 0) (zxn x) zxs2).filter goodWord, w ∈ zgw) ∧ (∀ w ∈ (vx_at0 RX8 ([60, 67, 220, 146].getD x 0) (zxn x) zxs2).filter (fun w => !goodWord w), w ∈ znw) ∧ (∀ w ∈ vx_at0 RX8 ([60, 67, 220, 146].getD x 0) (zxn x) zxs2, vx_ot w = true) ∧ Bundle.fit (zxn x) = true ∧ ∀ n ∈ zxs2, Bundle.fit n = true := by
  have k1 : ∀ x, x < 4 → ((vx_at0 RX8 ([60, 67, 220, 146].getD x 0) (zxn x) zxs2).filter goodWord).all (fun w => decide (w ∈ lw_tbl) && goodWord w) = true := by decide +kernel
  have k2 : ∀ x, x < 4 → ((vx_at0 RX8 ([60, 67, 220, 146].getD x 0) (zxn x) zxs2).filter (fun w => !goodWord w)).all (fun w => decide (w ∈ lw_tbl) && znwt w) = true := by decide +kernel
  have k3 : ∀ x, x < 4 → (vx_at0 RX8 ([60, 67, 220, 146].getD x 0) (zxn x) zxs2).all (fun w => vx_ot w) = true := by decide +kernel
  have k4 : ∀ x, x < 4 → Bundle.fit (zxn x) = true := by decide +kernel
  have k5 : ∀ n ∈ zxs2, Bundle.fit n = true := by decide +kernel
  intro x hx
  refine ⟨fun w hw => ?_, fun w hw => ?_, fun w hw => List.all_eq_true.mp (k3 x hx) w hw, k4 x hx, k5⟩
  · have := List.all_eq_true.mp (k1 x hx) w hw
    simp only [Bool.and_eq_true, decide_eq_true_eq] at this
    exact List.mem_filter.mpr this
  · have := List.all_eq_true.mp (k2 x hx) w hw
    simp only [Bool.and_eq_true, decide_eq_true_eq] at this
    exact List.mem_filter.mpr this
/-- what zex answers, the machine answers: f rows -/
def zSo (E : zEnv) (l : Launch) (f : Nat) : Prop := ∀ (M pc : Nat) (loc : List (Option zV)) (stk : List zV) (h : zH) (out : zO), M < 225 → zex zP f M pc loc stk h = some out →
  ∀ (p : Program) (e : Env) (R : Room) (s : State) (m : MethodId) (args : Array Value) (below : List Frame) (meth : Method) (c : Code) (Q : State → Prop) (c0 s0 n0 : Nat) (ad0 ea0 : Nat → Nat), zCx E M p l R s m args meth c ea0 → zcn out.2 ≤ R.cells + c0 → zsn out.2 ≤ R.slots + s0 →
    zRet E M p l e R s m args below meth c Q c0 s0 n0 ad0 out → zThr E M p l e R s m args below meth c Q c0 s0 n0 ad0 out → zPrp E M p l e R s m args below meth c Q c0 s0 n0 ad0 out → zGo E M p l e R s m args below meth c Q c0 s0 n0 ad0 ea0 pc loc stk h
theorem z_thr {M : Nat} {h0 h1 : zH} {r : Option zV ⊕ Nat} {ea : Nat → Nat} (Cx : zCx E M p l R s m args meth c ea) (hRc : zcn h1 ≤ R.cells + zcn h0) (hRs : zsn h1 ≤ R.slots + zsn h0) :
    zThr E M p l e R s m args below meth c (vx_MQ below (zQc E ad0 h0 r h1) (zXc E ad0 h0 r h1) args s (zcn h1 - zcn h0) (zsn h1 - zsn h0) (zeA E)) (zcn h0) (zsn h0) (zn h0) ad0 (r, h1) := by
  obtain ⟨hx, hb, hml, hown, hts, hlk, hnm, htab, hst, hG, hfr, hlo⟩ := id Cx
  intro pc n as h ad ea' loc stk H locs ls cells slots eo q hzi h8 hn had hA hc hs
  obtain ⟨hd, hz⟩ := Bool.and_eq_true_iff.mp (by unfold zoki at hzi; exact hzi)
  have hz : (if as.getD 0 0 = 1 then decide (as.getD 1 0 < 4 ∧ zow M = RX8 ∧ as.getD 4 0 = [60, 67, 220, 146].getD (as.getD 1 0) 0 ∧ zhh M = [] ∧ 6 ≤ zfr M ∧ 89 ≤ zlo M) && zw (as.getD 2 0) (.classLink (zow M) n (zxn (as.getD 1 0))) && zw (as.getD 3 0) (.initialized (zxn (as.getD 1 0))) && zdec (zby M) (pc + 3) .dup && zdec (zby M) (pc + 4) (.invokespecial (as.getD 4 0)) && zdec (zby M) (pc + 7) .athrow
    else decide (as.getD 1 0 < 6 ∧ as.getD 2 0 = zNn (as.getD 1 0)) && zw (as.getD 3 0) (.classLink (zow M) n (zCn (as.getD 1 0))) && zw (as.getD 4 0) (.instantiable (zCn (as.getD 1 0)) (zNn (as.getD 1 0))) && zw (as.getD 5 0) (.initialized (zCn (as.getD 1 0)))) = true := hz
  rw [if_pos q] at hz
  simp only [Bool.and_eq_true, decide_eq_true_eq] at hz
  obtain ⟨⟨⟨⟨⟨⟨g1, g2, g3, g4, g5, g6⟩, g7⟩, g8⟩, g9⟩, g10⟩, g11⟩ := hz
  cases eo
  obtain ⟨a1, a2, a3, a4, a5⟩ := zat0 _ g1
  have c1 : zcn (zbump h) = zcn h + 1 := rfl
  have c2 : zsn (zbump h) = zsn h + 6 := rfl
  have hvo : ∀ w, w ∈ zgw → vx_ot w = true := fun w hw => by
    unfold vx_ot
    rw [(List.mem_filter.mp hw).2, Bool.or_true]
  have hAS := hA.2.2.2.2.2.2.1
  refine vx_throw0 (names := zxs2) (A := zeA E) hx hb hst hown a4 a5 (hts _ (zw_good g7)) (hts _ (zw_good g8)) (vx_hat (B := znw) (fun w hw => hts _ ?_) (fun w hw => ?_) (fun w hw => ?_)) (fun w hw => ?_) hG.2.1.1 hG.2.1.2 hAS (by rw [hml]; exact hA.2.2.2.2.2.2.2.2.1) (zdc hd rfl (by decide)) (zdc g9 rfl (by decide)) (zdc g10 rfl (by decide)) (zdc g11 rfl (by decide)) (fun x hx => ?_) (by have : zxs2.length = 2 := rfl; omega) (by rw [zcat_sum]; have : zxs2.length = 2 := rfl; omega) (by omega) (by omega) hlk (fun t hvm hsz hkeep => ?_) hAS.2.2 (by omega) (by omega)
  · rw [g2, g3] at hw; exact a1 w hw
  · rw [g2, g3] at hw; exact a2 w hw
  · have hw2 := hG.2.2.1 w hw
    have hg : znwt w = true := (List.mem_filter.mp hw).2
    have : w.onTables = true := by
      cases w with
      | methodLinkNest a i x h2 => rfl
      | fieldLinkNest a i b n d h2 => rfl
      | declares x => rfl
      | castable a b => rfl
      | _ => exact absurd hg (by simp [znwt])
    exact va_Nw.use this hw2
  · rcases List.mem_cons.mp hw with rfl | hw
    · exact hvo _ (zw_good g7)
    · rcases List.mem_cons.mp hw with rfl | hw
      · exact hvo _ (zw_good g8)
      · rw [g2, g3] at hw; exact a3 w hw
  · rw [htab, g4] at hx; cases hx
  · refine ⟨⟨as.getD 1 0, g1, rfl, rfl, ad, ⟨had, ?_, hA.2.2.2.2.2.1⟩⟩, Nat.le_trans hAS.1 hsz, fun q hq hnq => ?_⟩
    · exact va_P.kept hA.2.2.2.2.1 (fun k q hk => hkeep _ ((hA.2.2.2.2.1 k q hk).lt))
    · rw [hkeep q (Nat.lt_of_lt_of_le hq hAS.1)]; exact hAS.2.1 q hq hnq
theorem z_prp {M : Nat} (hM : M < 225) {h0 h1 : zH} {r : Option zV ⊕ Nat} {ea : Nat → Nat} (Cx : zCx E M p l R s m args meth c ea) :
    zPrp E M p l e R s m args below meth c (vx_MQ below (zQc E ad0 h0 r h1) (zXc E ad0 h0 r h1) args s (zcn h1 - zcn h0) (zsn h1 - zsn h0) (zeA E)) (zcn h0) (zsn h0) (zn h0) ad0 (r, h1) := by
  obtain ⟨hx, hb, hml, hown, hts, hlk, hnm, htab, hst, hG, hfr, hlo⟩ := id Cx
  intro pc x h ad ea' loc H locs ls rest cells slots q ce eo hx4 hnh hn had hA hc hs hce hcv hcl
  cases eo
  have hAS := hA.2.2.2.2.2.2.1
  obtain ⟨-, -, hlen, hrows⟩ := zokh_s M hM
  have key : ∀ (hs : List (Nat × Nat × Nat × Nat)) (hh : List (Nat × Nat × Nat × Nat)), hs.length = hh.length → (∀ q ∈ hs.zip hh, q.1.1 = q.2.1 ∧ q.1.2.1 = q.2.2.1 ∧ q.1.2.2.1 = q.2.2.2.1 ∧ q.1.2.2.2 < 4 ∧ q.2.2.2.2 ≠ 0 ∧ Cond.classLink (zow M) q.2.2.2.2 (zxn q.1.2.2.2) ∈ zgw) → zhand hs pc x = none →
      ∀ z ∈ hh, covers ⟨z.1, z.2.1, z.2.2.1, z.2.2.2⟩ pc = false ∨ (z.2.2.2 ≠ 0 ∧ ∃ i, i < 4 ∧ i ≠ x ∧ Cond.classLink (zow M) z.2.2.2 (zxn i) ∈ zgw) := by
    intro hs
    induction hs with
    | nil =>
      intro hh hl _ _ z hz
      cases hh with
      | nil => cases hz
      | cons y hh => cases hl
    | cons g hs ih =>
      intro hh hl hq e z hz
      cases hh with
      | nil => cases hl
      | cons y hh =>
        obtain ⟨a, b, t0, x0⟩ := g
        obtain ⟨q1, q2, q3, q4, q5, q6⟩ := hq ((a, b, t0, x0), y) List.mem_cons_self
        dsimp only at q1 q2 q3 q4 q5 q6
        unfold zhand at e
        by_cases q : a ≤ pc ∧ pc < b ∧ x0 = x
        · rw [if_pos q] at e; cases e
        · rw [if_neg q] at e
          rcases List.mem_cons.mp hz with rfl | hz
          · by_cases c1 : a ≤ pc ∧ pc < b
            · exact Or.inr ⟨q5, x0, q4, fun z => q ⟨c1.1, c1.2, z⟩, q6⟩
            · left
              show (decide (z.1 ≤ pc) && decide (pc < z.2.1)) = false
              rw [← q1, ← q2]
              simp only [Bool.and_eq_false_iff, decide_eq_false_iff_not]
              by_cases c2 : a ≤ pc
              · exact Or.inr fun c3 => c1 ⟨c2, c3⟩
              · exact Or.inl c2
          · exact ih hh (by simpa using hl) (fun z hz => hq z (List.mem_cons_of_mem _ hz)) e z hz
  refine vx_outP (own := zow M) (E := zxn x) hown hlk (fun z hz => ?_) hce hcv hcl (fun t ht hvm => ?_) hAS.2.2 (by omega) (by omega)
  · rw [htab] at hz
    obtain ⟨z0, hz0, rfl⟩ := List.mem_map.mp hz
    rcases key _ _ hlen hrows hnh z0 hz0 with q | ⟨q1, i, q2, q3, q4⟩
    · exact Or.inl q
    · exact Or.inr ⟨q1, zxn i, hts _ q4, hG.2.2.2.1 x i hx4 q2 (Ne.symm q3)⟩
  · exact ⟨⟨x, hx4, rfl, rfl, ad, ⟨had, by rw [ht]; exact hA.2.2.2.2.1, hA.2.2.2.2.2.1⟩⟩, hAS.F ht⟩
theorem z_ret {M : Nat} {h0 h1 : zH} {r : Option zV ⊕ Nat} {ea : Nat → Nat} (Cx : zCx E M p l R s m args meth c ea) (hr : meth.sig.returnType = zre M) :
    zRet E M p l e R s m args below meth c (vx_MQ below (zQc E ad0 h0 r h1) (zXc E ad0 h0 r h1) args s (zcn h1 - zcn h0) (zsn h1 - zsn h0) (zeA E)) (zcn h0) (zsn h0) (zn h0) ad0 (r, h1) := by
  obtain ⟨hx, hb, hml, hown, hts, hlk, hnm, htab, hst, hG, hfr, hlo⟩ := id Cx
  intro pc v h ad ea' loc stk H locs ls cells slots eo hrk hn had hA hc hs
  cases eo
  have hAS := hA.2.2.2.2.2.2.1
  obtain rfl : cells = zcn h1 - zcn h0 := by omega
  obtain rfl : slots = zsn h1 - zsn h0 := by omega
  have post : ∀ (w : Option Value) (t : State), (∀ k, v ≠ some (zX k)) → w = v.map (zmv ad (fun _ => 0)) → t.heap = H → s.WarmedH t.vm → zQc E ad0 h0 (.inl v) h1 args s (.returned w) t := by
    intro w t hnx hw ht hW
    subst hw
    exact ⟨⟨v, rfl, hnx, ad, ⟨had, by rw [ht]; exact hA.2.2.2.2.1, hA.2.2.2.2.2.1⟩, rfl⟩, hAS.F ht⟩
  refine vx_ret ?_
  rcases v with _ | ⟨x | x | x | x⟩
  · obtain ⟨d1, d2⟩ := hrk
    exact W.vret hx hb (hr.trans d2) (fun t ht hW => post none t (fun k q => by cases q) rfl ht hW) hAS.2.2 d1 hlk
  · obtain ⟨d1, d2⟩ := hrk
    rcases d2 with d2 | ⟨d2, d3⟩
    · exact W.zret hx hb (hr.trans d2) rfl (fun t ht hW => post _ t (fun k q => by cases q) rfl ht hW) hAS.2.2 d1 hlk
    · exact W.zret hx hb (hr.trans d2) (zbool_n d3).1 (fun t ht hW => post _ t (fun k q => by cases q) rfl ht hW) hAS.2.2 d1 hlk
  · obtain ⟨d1, d2⟩ := hrk
    exact W.lret hx hb (hr.trans d2) (fun t ht hW => post _ t (fun k q => by cases q) rfl ht hW) hAS.2.2 d1 hlk
  · obtain ⟨d1, n, d2⟩ := hrk
    refine W.aret hx hb (hr.trans d2) (Or.inl ⟨n, rfl⟩) ?_ (fun t ht hW => post _ t (fun k q => by cases q) rfl ht hW) hAS.2.2 d1 hlk
    show zrf ad x = .null ∨ ∃ a, zrf ad x = .ref a
    unfold zrf
    by_cases q : x = 0
    · rw [if_pos q]; exact Or.inl rfl
    · rw [if_neg q]; exact Or.inr ⟨_, rfl⟩
  · exact absurd hrk id
/-- a method's contract out of its rows -/
theorem z_met {f : Nat} (hst : l.stackTraces = false) (ih : zSo E l f) {k : Nat} {vs : List zV} {h h1 : zH} {r : Option zV ⊕ Nat} {ad ea : Nat → Nat} (hk : k < 225) (he : zck ((zarg vs).length ≤ (zP k).1) (zex zP f k 0 (zloc (zP k).1 vs) [] h) = some (r, h1)) (hwf : zwf h) (hvs : zoks h vs) (hsc : h.1.2.2.2 = zeS E) : zMet E l k ad ea vs h r h1 := by
  obtain ⟨hlen, he⟩ := zck_some he
  obtain ⟨w1, l1, o1⟩ := zex_wf zP f k 0 _ _ h hwf (zloc_ok hvs) zoks.nil _ _ he
  obtain ⟨p1, p2, p3, p4⟩ := zokh_s k hk
  have body : ∀ (p : Program) (e : Env) (s : State) (m : MethodId) (args : Array Value) (below : List Frame) (meth : Method) (c : Code) (s₁ : State), BodyLoose p l (zmn k) (headSpec (zwd k :: zgw) (zrm k h h1)) (zby k) (zml k) (zre k) e s m args below meth c s₁ → c.maxLocals = zml k → c.exceptionTable.toList = tableOf (zhh k) → zPc E ad ea vs h args s →
      W p l e (headSpec (zwd k :: zgw) (zrm k h h1)).room s m args below meth c s.heap [] 0 0 (vx_MQ below (zQc E ad h r h1) (zXc E ad h r h1) args s (zcn h1 - zcn h) (zsn h1 - zsn h) (zeA E)) (entryFrame m args (zml k)) := by
    intro p e s m args below meth c s₁ B hml htab hpc
    obtain ⟨rfl, hG, hP, hD⟩ := hpc
    have hts : ∀ w ∈ zgw, w.before (vs.map (zmv ad ea)).toArray s = true := fun w hw => atoms_spec (ws := zwd k :: zgw) B.pre w (List.mem_cons_of_mem _ hw)
    have Cx : zCx E k p l (headSpec (zwd k :: zgw) (zrm k h h1)).room s m (vs.map (zmv ad ea)).toArray meth c ea := ⟨B.exec, B.bytes, hml, findClass_of_methodNamed B.named, hts, B.notSynchronized, (name_of_methodNamed B.named B.method).1, htab, hst, hG, Nat.le_refl _, Nat.le_refl _⟩
    have hRc : zcn h1 ≤ (headSpec (zwd k :: zgw) (zrm k h h1)).room.cells + zcn h := by show zcn h1 ≤ zcn h1 - zcn h + zcn h; omega
    have hRs : zsn h1 ≤ (headSpec (zwd k :: zgw) (zrm k h h1)).room.slots + zsn h := by show zsn h1 ≤ zsn h1 - zsn h + zsn h; omega
    have hl := lv_entry (vs.map (zmv ad ea)) (n := zml k) (by rw [zarg_len]; exact hlen)
    rw [lg_entry_eq]
    generalize (lg_sl (vs.map (zmv ad ea)) ++ List.replicate (zml k - (lg_sl (vs.map (zmv ad ea))).length) Slot.unset).toArray = ls at hl ⊢
    exact ih k 0 _ _ h _ hk he p e _ s m _ below meth c _ (zcn h) (zsn h) (zn h) ad ea Cx hRc hRs (z_ret Cx B.returns) (z_thr Cx hRc hRs) (z_prp hk Cx) (Nat.le_refl _) ad ea s.heap [] ls 0 0 (fun _ _ => rfl) (fun _ _ => rfl) ⟨hwf, zloc_ok hvs, zoks.nil, hsc, hP, hD, va_S.rf, zls.entry hlen hl⟩ (Nat.zero_add _) (Nat.zero_add _)
  unfold zMet
  by_cases q : zhh k = []
  · rw [zwd_0 q] at body ⊢
    refine vx_ofW p1 rfl (fun p e s m args below meth c s₁ B hml hno hpc => body p e s m args below meth c s₁ B hml ?_ hpc)
    rw [q]
    exact List.eq_nil_iff_forall_not_mem.mpr hno
  · rw [zwd_1 q] at body ⊢
    refine vx_ofWH p1 rfl (fun p e s m args below meth c s₁ B hml hpc => body p e s m args below meth c s₁ B hml ?_ hpc)
    exact vx_table (x := zmn k) B (atoms_spec (ws := Cond.codeWith (zmn k) (zby k) (zml k) (zre k) (zhh k) :: zgw) B.pre _ List.mem_cons_self)
theorem zoki_all {M pc : Nat} {q : Instr × List Nat} (hM : M < 225) (e : (zP M).2.2.getD pc none = some q) : zoki M pc q.1 q.2 = true := by
  have key : ∀ a, (List.range' a 15).all zokm = true → a ≤ M → M < a + 15 → zokm M = true := fun a e h1 h2 => zrange_at e h1 h2
  refine zokm_at ?_ e
  rcases (show M / 15 = 0 ∨ M / 15 = 1 ∨ M / 15 = 2 ∨ M / 15 = 3 ∨ M / 15 = 4 ∨ M / 15 = 5 ∨ M / 15 = 6 ∨ M / 15 = 7 ∨ M / 15 = 8 ∨ M / 15 = 9 ∨ M / 15 = 10 ∨ M / 15 = 11 ∨ M / 15 = 12 ∨ M / 15 = 13 ∨ M / 15 = 14 by omega) with q | q | q | q | q | q | q | q | q | q | q | q | q | q | q
  · exact key 0 zokm_0 (by omega) (by omega)
  · exact key 15 zokm_15 (by omega) (by omega)
  · exact key 30 zokm_30 (by omega) (by omega)
  · exact key 45 zokm_45 (by omega) (by omega)
  · exact key 60 zokm_60 (by omega) (by omega)
  · exact key 75 zokm_75 (by omega) (by omega)
  · exact key 90 zokm_90 (by omega) (by omega)
  · exact key 105 zokm_105 (by omega) (by omega)
  · exact key 120 zokm_120 (by omega) (by omega)
  · exact key 135 zokm_135 (by omega) (by omega)
  · exact key 150 zokm_150 (by omega) (by omega)
  · exact key 165 zokm_165 (by omega) (by omega)
  · exact key 180 zokm_180 (by omega) (by omega)
  · exact key 195 zokm_195 (by omega) (by omega)
  · exact key 210 zokm_210 (by omega) (by omega)

/-- one step more: of any method whose rows are checked -/
theorem z_next {f : Nat} (hst : l.stackTraces = false) (ih : zSo E l f) (M : Nat) (hM : M < 225 ∨ (zP M).2.1 = [] ∧ zhh M = []) (hok : ∀ pc q, (zP M).2.2.getD pc none = some q → zoki M pc q.1 q.2 = true)
    (ihM : ∀ (pc : Nat) (loc : List (Option zV)) (stk : List zV) (h : zH) (out : zO), zex zP f M pc loc stk h = some out →
      ∀ (p : Program) (e : Env) (R : Room) (s : State) (m : MethodId) (args : Array Value) (below : List Frame) (meth : Method) (c : Code) (Q : State → Prop) (c0 s0 n0 : Nat) (ad0 ea0 : Nat → Nat), zCx E M p l R s m args meth c ea0 → zcn out.2 ≤ R.cells + c0 → zsn out.2 ≤ R.slots + s0 →
        zRet E M p l e R s m args below meth c Q c0 s0 n0 ad0 out → zThr E M p l e R s m args below meth c Q c0 s0 n0 ad0 out → zPrp E M p l e R s m args below meth c Q c0 s0 n0 ad0 out → zGo E M p l e R s m args below meth c Q c0 s0 n0 ad0 ea0 pc loc stk h)
    (pc : Nat) (loc : List (Option zV)) (stk : List zV) (h : zH) (out : zO) (he : zex zP (f + 1) M pc loc stk h = some out)
    (p : Program) (e : Env) (R : Room) (s : State) (m : MethodId) (args : Array Value) (below : List Frame) (meth : Method) (c : Code) (Q : State → Prop) (c0 s0 n0 : Nat) (ad0 ea0 : Nat → Nat) (Cx : zCx E M p l R s m args meth c ea0) (hRc : zcn out.2 ≤ R.cells + c0) (hRs : zsn out.2 ≤ R.slots + s0)
    (hret : zRet E M p l e R s m args below meth c Q c0 s0 n0 ad0 out) (hthr : zThr E M p l e R s m args below meth c Q c0 s0 n0 ad0 out) (hprp : zPrp E M p l e R s m args below meth c Q c0 s0 n0 ad0 out) : zGo E M p l e R s m args below meth c Q c0 s0 n0 ad0 ea0 pc loc stk h := by
  have he : zst zP (fun k args h => zck ((zarg args).length ≤ (zP k).1) (zex zP f k 0 (zloc (zP k).1 args) [] h)) (zex zP f M) M pc loc stk h = some out := he
  unfold zst at he
  cases hq : (zP M).2.2.getD pc none with
  | none => rw [hq] at he; cases he
  | some q =>
    rw [hq] at he
    have hzi := hok pc q hq
    have hrec : ∀ pc' loc' stk' h', zex zP f M pc' loc' stk' h' = some out → zGo E M p l e R s m args below meth c Q c0 s0 n0 ad0 ea0 pc' loc' stk' h' := fun pc' loc' stk' h' e1 => ihM pc' loc' stk' h' out e1 p e R s m args below meth c Q c0 s0 n0 ad0 ea0 Cx hRc hRs hret hthr hprp
    have hmon : ∀ pc' loc' stk' h', zex zP f M pc' loc' stk' h' = some out → zwf h' → zokl h' loc' → zoks h' stk' → zle h' out.2 := fun pc' loc' stk' h' e1 w a b => (zex_wf zP f M pc' loc' stk' h' w a b _ _ e1).2.1
    refine z_ins Cx hrec hmon hRc hRs hzi hret hthr (fun n hi he => ?_) he
    exact z_calls Cx hrec hmon hRc hRs hzi hM hprp (fun k vs h r h1 e1 w o => by
      obtain ⟨-, e1⟩ := zck_some e1
      exact zex_wf zP f k 0 _ _ h w (zloc_ok o) zoks.nil _ _ e1) (fun k vs h r h1 ad ea hk e1 w o hsc => z_met hst ih hk e1 w o hsc) hi he
theorem z_sound (hst : l.stackTraces = false) : ∀ f, zSo E l f := by
  intro f
  induction f with
  | zero => intro M pc loc stk h out _ he; cases he
  | succ f ih =>
    intro M pc loc stk h out hM he p e R s m args below meth c Q c0 s0 n0 ad0 ea0 Cx hRc hRs hret hthr hprp
    exact z_next hst ih M (Or.inl hM) (fun pc q hq => zoki_all hM hq) (fun pc loc stk h out => ih M pc loc stk h out hM) pc loc stk h out he p e R s m args below meth c Q c0 s0 n0 ad0 ea0 Cx hRc hRs hret hthr hprp
end ZSOUND
