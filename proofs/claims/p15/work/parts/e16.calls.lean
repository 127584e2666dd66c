set_option maxRecDepth 16384
section ZCALL
variable {E : zEnv} {M : Nat} {p : Program} {l : Launch} {e : Env} {R : Room} {s : State} {m : MethodId} {args : Array Value} {below : List Frame} {meth : Method} {c : Code} {Q : State → Prop} {c0 s0 n0 : Nat} {ad0 ea0 : Nat → Nat}

theorem zwde (k : Nat) (hk : k < 225) : zwd k ∈ zgw := by
  refine List.mem_filter.mpr ⟨List.mem_of_getElem? (i := zpl k) ?_, ?_⟩
  · have key : ∀ a, (List.range' a 15).map (fun k => lw_tbl[zpl k]?) = (List.range' a 15).map (fun k => some (zwd k)) → a ≤ k → k < a + 15 → lw_tbl[zpl k]? = some (zwd k) := by
      intro a e h1 h2
      exact List.map_inj_left.mp e k (List.mem_range'_1.mpr ⟨h1, h2⟩)
    have hc : k / 15 < 15 := by omega
    rcases (show k / 15 = 0 ∨ k / 15 = 1 ∨ k / 15 = 2 ∨ k / 15 = 3 ∨ k / 15 = 4 ∨ k / 15 = 5 ∨ k / 15 = 6 ∨ k / 15 = 7 ∨ k / 15 = 8 ∨ k / 15 = 9 ∨ k / 15 = 10 ∨ k / 15 = 11 ∨ k / 15 = 12 ∨ k / 15 = 13 ∨ k / 15 = 14 by omega) with q | q | q | q | q | q | q | q | q | q | q | q | q | q | q
    · exact key 0 zwe_0 (by omega) (by omega)
    · exact key 15 zwe_15 (by omega) (by omega)
    · exact key 30 zwe_30 (by omega) (by omega)
    · exact key 45 zwe_45 (by omega) (by omega)
    · exact key 60 zwe_60 (by omega) (by omega)
    · exact key 75 zwe_75 (by omega) (by omega)
    · exact key 90 zwe_90 (by omega) (by omega)
    · exact key 105 zwe_105 (by omega) (by omega)
    · exact key 120 zwe_120 (by omega) (by omega)
    · exact key 135 zwe_135 (by omega) (by omega)
    · exact key 150 zwe_150 (by omega) (by omega)
    · exact key 165 zwe_165 (by omega) (by omega)
    · exact key 180 zwe_180 (by omega) (by omega)
    · exact key 195 zwe_195 (by omega) (by omega)
    · exact key 210 zwe_210 (by omega) (by omega)
  · have key : ∀ a, (List.range' a 15).all (fun k => goodWord (zwd k)) = true → a ≤ k → k < a + 15 → goodWord (zwd k) = true := fun a e h1 h2 => zrange_at e h1 h2
    rcases (show k / 15 = 0 ∨ k / 15 = 1 ∨ k / 15 = 2 ∨ k / 15 = 3 ∨ k / 15 = 4 ∨ k / 15 = 5 ∨ k / 15 = 6 ∨ k / 15 = 7 ∨ k / 15 = 8 ∨ k / 15 = 9 ∨ k / 15 = 10 ∨ k / 15 = 11 ∨ k / 15 = 12 ∨ k / 15 = 13 ∨ k / 15 = 14 by omega) with q | q | q | q | q | q | q | q | q | q | q | q | q | q | q
    · exact key 0 zwg_0 (by omega) (by omega)
    · exact key 15 zwg_15 (by omega) (by omega)
    · exact key 30 zwg_30 (by omega) (by omega)
    · exact key 45 zwg_45 (by omega) (by omega)
    · exact key 60 zwg_60 (by omega) (by omega)
    · exact key 75 zwg_75 (by omega) (by omega)
    · exact key 90 zwg_90 (by omega) (by omega)
    · exact key 105 zwg_105 (by omega) (by omega)
    · exact key 120 zwg_120 (by omega) (by omega)
    · exact key 135 zwg_135 (by omega) (by omega)
    · exact key 150 zwg_150 (by omega) (by omega)
    · exact key 165 zwg_165 (by omega) (by omega)
    · exact key 180 zwg_180 (by omega) (by omega)
    · exact key 195 zwg_195 (by omega) (by omega)
    · exact key 210 zwg_210 (by omega) (by omega)

theorem zwd_0 {k : Nat} (h : zhh k = []) : zwd k = .code (zmn k) (zby k) (zml k) (zre k) := by unfold zwd; rw [if_pos h]
theorem zwd_1 {k : Nat} (h : zhh k ≠ []) : zwd k = .codeWith (zmn k) (zby k) (zml k) (zre k) (zhh k) := by unfold zwd; rw [if_neg h]
theorem zokh_s (k : Nat) (hk : k < 225) : plainName (zmn k).cls = true ∧ ((zmn k).cls ≠ "java/lang/invoke/MethodHandle" ∧ (zmn k).cls ≠ "java/lang/invoke/VarHandle") ∧ (zP k).2.1.length = (zhh k).length ∧
    ∀ q ∈ (zP k).2.1.zip (zhh k), q.1.1 = q.2.1 ∧ q.1.2.1 = q.2.2.1 ∧ q.1.2.2.1 = q.2.2.2.1 ∧ q.1.2.2.2 < 4 ∧ q.2.2.2.2 ≠ 0 ∧ Cond.classLink (zow k) q.2.2.2.2 (zxn q.1.2.2.2) ∈ zgw := by
  have h := zrange_at zokh_a (Nat.zero_le k) (by omega : k < 0 + 225)
  unfold zokh at h
  simp only [Bool.and_eq_true, decide_eq_true_eq] at h
  obtain ⟨⟨⟨h1, h2⟩, h3⟩, h4⟩ := h
  exact ⟨h1, h2, h3, fun q hq => of_decide_eq_true (List.all_eq_true.mp h4 q hq)⟩
theorem zdrop {n : Nat} {stk : List zV} {x : zV} {t : List zV} (e : stk.drop n = x :: t) : (stk.take (n + 1)).reverse = x :: (stk.take n).reverse ∧ stk.drop (n + 1) = t ∧ stk = stk.take n ++ x :: t ∧ (stk.take n).length = n := by
  have hlt : n < stk.length := by
    rcases Nat.lt_or_ge n stk.length with q | q
    · exact q
    · rw [List.drop_eq_nil_of_le q] at e; cases e
  have h0 : stk = stk.take n ++ x :: t := by rw [← e]; exact (List.take_append_drop n stk).symm
  have hx : stk[n] = x := by
    have := List.getElem_cons_drop hlt
    rw [e] at this
    exact (List.cons.inj this).1
  refine ⟨?_, ?_, h0, List.length_take_of_le (Nat.le_of_lt hlt)⟩
  · rw [List.take_succ_eq_append_getElem hlt, List.reverse_append, hx]; rfl
  · have := List.getElem_cons_drop hlt
    rw [e] at this
    exact (List.cons.inj this).2
theorem zg_static_max : Cond.static Lib.Math.max.name ∈ zgw := by
  refine List.mem_filter.mpr ⟨?_, ?_⟩ <;> decide +kernel
theorem zg_init_math : Cond.initialized "java/lang/Math" ∈ zgw := by
  refine List.mem_filter.mpr ⟨?_, ?_⟩ <;> decide +kernel
theorem zg_code_max : Cond.code Lib.Math.max.name Lib.Math.max.code 2 (some .int) ∈ zgw := by
  refine List.mem_filter.mpr ⟨?_, ?_⟩ <;> decide +kernel
theorem zg_static_min : Cond.static Lib.Math.min.name ∈ zgw := by
  refine List.mem_filter.mpr ⟨?_, ?_⟩ <;> decide +kernel
theorem zg_code_min : Cond.code Lib.Math.min.name Lib.Math.min.code 2 (some .int) ∈ zgw := by
  refine List.mem_filter.mpr ⟨?_, ?_⟩ <;> decide +kernel
theorem zg_static_cpy : Cond.static arraycopyName ∈ zgw := by
  refine List.mem_filter.mpr ⟨?_, ?_⟩ <;> decide +kernel
theorem zg_native_cpy : Cond.native arraycopyName ∈ zgw := by
  refine List.mem_filter.mpr ⟨?_, ?_⟩ <;> decide +kernel
theorem zg_init_sys : Cond.initialized "java/lang/System" ∈ zgw := by
  refine List.mem_filter.mpr ⟨?_, ?_⟩ <;> decide +kernel
theorem zg_inst_obj : Cond.instanceMethod objectInit ∈ zgw := by
  refine List.mem_filter.mpr ⟨?_, ?_⟩ <;> decide +kernel
theorem zg_code_obj : Cond.code objectInit ⟨#[0xb1]⟩ 1 none ∈ zgw := by
  refine List.mem_filter.mpr ⟨?_, ?_⟩ <;> decide +kernel
theorem zcast (x : Nat) (h : x < 4) : Cond.castable (zxn x) (zxn x) ∈ znw := by
  have k : ∀ x, x < 4 → Cond.castable (zxn x) (zxn x) ∈ lw_tbl := by decide +kernel
  exact List.mem_filter.mpr ⟨k x h, rfl⟩
theorem z_calls {cal : zC} {rec : zF} {out : zO} {pc : Nat} {i : Instr} {as : List Nat} {loc : List (Option zV)} {stk : List zV} {h : zH}
    (Cx : zCx E M p l R s m args meth c ea0)
    (hrec : ∀ pc' loc' stk' h', rec pc' loc' stk' h' = some out → zGo E M p l e R s m args below meth c Q c0 s0 n0 ad0 ea0 pc' loc' stk' h')
    (hmon : ∀ pc' loc' stk' h', rec pc' loc' stk' h' = some out → zwf h' → zokl h' loc' → zoks h' stk' → zle h' out.2)
    (hRc : zcn out.2 ≤ R.cells + c0) (hRs : zsn out.2 ≤ R.slots + s0)
    (hzi : zoki M pc i as = true) (hM : M < 225 ∨ (zP M).2.1 = [] ∧ zhh M = [])
    (hprp : zPrp E M p l e R s m args below meth c Q c0 s0 n0 ad0 out)
    (hcw : ∀ k vs h r h1, cal k vs h = some (r, h1) → zwf h → zoks h vs → zwf h1 ∧ zle h h1 ∧ zokr h1 r)
    (hMet : ∀ k vs h r h1 ad ea, k < 225 → cal k vs h = some (r, h1) → zwf h → zoks h vs → h.1.2.2.2 = zeS E → zMet E l k ad ea vs h r h1)
    {n : Nat} (hi : i = .invokevirtual n ∨ i = .invokespecial n ∨ i = .invokestatic n)
    (he : zins cal rec (zP M).2.1 pc i as loc stk h = some out) : zGo E M p l e R s m args below meth c Q c0 s0 n0 ad0 ea0 pc loc stk h := by
  intro hn ad ea H locs ls cells slots had hea hA hc hs
  obtain ⟨hx, hb, hml, hown, hts, hlk, hnm, htab, hst, hG0, hfr, hlo⟩ := id Cx
  have hG : zG E ea s s.heap := hG0.ea hea
  obtain ⟨hd, hz⟩ := Bool.and_eq_true_iff.mp (by unfold zoki at hzi; exact hzi)
  obtain ⟨hwf, hol, hos, hsc, hP, hD, hS, hls⟩ := id hA
  have hK := hG.1
  have hsize : ls.size = zml M := hls.2.1
  have k0 : ∀ (pc' : Nat) (stk' : List zV), zoks h stk' → rec pc' loc stk' h = some out → W p l e R s m args below meth c H locs cells slots Q (F0 m pc' ls (stk'.map (zmv ad ea))) := fun pc' stk' o q => hrec _ _ _ _ q hn ad ea H locs ls cells slots had hea (hA.st o) hc hs
  have oI : ∀ (x : Int32) (t : List zV), zoks h t → zoks h (zI x :: t) := fun x t q => zoks.cons (v := zI x) trivial q
  have hcl : (zP M).2.1.length = (zhh M).length ∧ ∀ q ∈ (zP M).2.1.zip (zhh M), q.1.1 = q.2.1 ∧ q.1.2.1 = q.2.2.1 ∧ q.1.2.2.1 = q.2.2.2.1 ∧ q.1.2.2.2 < 4 ∧ q.2.2.2.2 ≠ 0 ∧ Cond.classLink (zow M) q.2.2.2.2 (zxn q.1.2.2.2) ∈ zgw := by
    rcases hM with hM | ⟨e1, e2⟩
    · exact (zokh_s M hM).2.2
    · rw [e1, e2]; exact ⟨rfl, fun q hq => by cases hq⟩
  -- cells that a call makes are within what the whole makes
  have hle : ∀ k vs rest r h1, zcall cal rec (zP M).2.1 pc k loc vs rest h = some out → zoks h vs → zoks h rest → cal k vs h = some (r, h1) → zle h1 out.2 := by
    intro k vs rest r h1 e ov orr hcal
    obtain ⟨-, e⟩ := zck_some e
    obtain ⟨w1, l1, o1⟩ := hcw k vs h r h1 hcal hwf ov
    rw [hcal] at e
    simp only [zcx] at e
    rcases r with v | x
    · refine hmon _ _ _ _ e w1 (hol.up l1.1) ?_
      cases v with
      | none => exact orr.up l1.1
      | some v => exact zoks.cons o1 (orr.up l1.1)
    · rcases ht : zhand (zP M).2.1 pc x with _ | t <;> simp only [ht, zth] at e
      · cases e; exact zle.rf
      · exact hmon _ _ _ _ e w1 zokl.forget (zoks.cons (v := zX 1000) trivial zoks.nil)
  have hroom : ∀ (xs : List zV), zcat xs ≤ 8 → 2 * (F0 m pc ls (xs.map (zmv ad ea))).monitorRoom + ((xs.map (zmv ad ea)).map fun v => v.category).sum ≤ 8 := fun xs q => lv_room (by rw [zcat_sum]; exact q)
  have hCF : CallFix p m c (zby M) (zml M) s args zgw (zow M) := ⟨hx, hb, hml, hown, hts⟩
  -- a call with a receiver
  have virt : ∀ (st : Nat), (st = 1 ∧ i = .invokevirtual n ∨ st = 0 ∧ i = .invokespecial n) → zokc M n as st = true → zrcv h (as.getD 7 0) (as.getD 8 0) (stk.drop (as.getD 2 0)) (zcall cal rec (zP M).2.1 pc (as.getD 1 0) loc (stk.take (as.getD 2 0 + 1)).reverse (stk.drop (as.getD 2 0 + 1)) h) = some out → W p l e R s m args below meth c H locs cells slots Q (F0 m pc ls (stk.map (zmv ad ea))) := by
    intro st hst1 hz he
    obtain ⟨a, t, et, hk, he⟩ := zrcv_some he
    obtain ⟨d1, d2, d3, d4⟩ := zdrop et
    rw [d1, d2] at he
    have hok : zoks h (zR a :: t) := et ▸ hos.drop _
    have hvs : zoks h (zR a :: (stk.take (as.getD 2 0)).reverse) := d1 ▸ hos.take _
    have ha := zpk hwf hk (by omega)
    have e1 : zmv ad ea (zR a) = .ref (ad a) := zrf_pos ha.1
    have hw := zws_get (cK := zeK E) (ad := ad) ha.1 ha.2
    rw [zent_o hk] at hw
    unfold zokc at hz
    simp only [Bool.and_eq_true, decide_eq_true_eq] at hz
    obtain ⟨⟨⟨⟨⟨⟨k1, k2, k3, k4⟩, z2⟩, z3⟩, z4⟩, z5⟩, z6⟩ := hz
    obtain ⟨p1, p2, -, -⟩ := zokh_s _ k1
    have hst2 : st ≠ 2 := by rcases hst1 with q | q <;> omega
    rw [if_neg hst2] at z3
    have eAs : (zR a :: (stk.take (as.getD 2 0)).reverse).map (zmv ad ea) = .ref (ad a) :: ((stk.take (as.getD 2 0)).reverse).map (zmv ad ea) := by rw [List.map_cons, e1]
    have estk : stk.map (zmv ad ea) = (((stk.take (as.getD 2 0)).reverse).map (zmv ad ea)).reverse ++ .ref (ad a) :: t.map (zmv ad ea) := by
      conv => lhs; rw [d3]
      rw [List.map_append, List.map_cons, e1, List.map_reverse, List.reverse_reverse]
    have hlen : (((stk.take (as.getD 2 0)).reverse).map (zmv ad ea)).length = as.getD 2 0 := by rw [List.length_map, List.length_reverse, d4]
    obtain ⟨h8, -⟩ := zck_some he
    refine z_back (h := h) Cx hcl.2 hcl.1 zcast hrec (fun r h1 q => hcw _ _ _ _ _ q hwf hvs) hprp he hn had hea (hA.st hok.tl) hc hs (a := ((zR a :: (stk.take (as.getD 2 0)).reverse).map (zmv ad ea)).toArray) (fun r h1 hcal => ?_)
    have hM1 := hMet _ _ _ _ _ ad ea k1 hcal hwf hvs hsc
    have hl1 := hle _ _ _ _ _ he hvs hok.tl hcal
    obtain ⟨w1, l1, o1⟩ := hcw _ _ _ _ _ hcal hwf hvs
    have hf : cells + (zcn h1 - zcn h) ≤ R.cells ∧ slots + (zsn h1 - zsn h) ≤ R.slots := by
      have := hl1.2.1; have := hl1.2.2.1; have := l1.2.1; have := l1.2.2.1; omega
    have hpre := zPc_of (ad := ad) (ea := ea) (vs := zR a :: (stk.take (as.getD 2 0)).reverse) hG hS hP hD
    rw [eAs] at hpre ⊢
    rw [estk]
    have hR : (zrm (as.getD 1 0) h h1).frames + 1 ≤ R.frames ∧ 8 + (zml (as.getD 1 0) + 11) + (zrm (as.getD 1 0) h h1).locals ≤ R.locals := ⟨Nat.le_trans k3 hfr, Nat.le_trans k4 hlo⟩
    rcases hst1 with ⟨rfl, rfl⟩ | ⟨rfl, rfl⟩
    · rw [if_pos rfl] at z4
      simp only [Bool.and_eq_true, decide_eq_true_eq] at z4
      obtain ⟨⟨y1, y2, y3, y4⟩, y5⟩ := z4
      have hdg := zdc hd (n := 3) rfl (by decide)
      have hPV : PreV s H (zmn (as.getD 1 0)).cls (ad a) (zPc E ad ea (zR a :: (stk.take (as.getD 2 0)).reverse) h) (((stk.take (as.getD 2 0)).reverse).map (zmv ad ea)) := by
        refine ⟨zPc_blind, ?_, hpre⟩
        have := va_recv hK hP (zcs_at _ y2) hw
        rw [← y4]; exact this
      unfold zMet at hM1
      rw [zwd_0 y1] at hM1
      by_cases q7 : as.getD 0 0 = 7
      · rw [if_pos q7] at z2
        simp only [Bool.and_eq_true, decide_eq_true_eq] at z2
        exact vx_runVN hCF hM1 ⟨va_cnB (as.getD 2 0) hts (by rw [← zwd_0 y1]; exact zgi (zwde _ k1)) rfl rfl rfl (hG.2.2.1 _ (zwn_nest z2.2 rfl)) (hts _ (zw_good z6)) ⟨p2.1, p2.2, k2⟩ hR, hts _ (zw_good z3), hts _ (zw_good y5)⟩ hPV rfl hlen hsize rfl (hroom t h8) hdg hf
      · rw [if_neg q7] at z2
        refine vx_runV hCF hM1 (cwV (as.getD 2 0) hts ?_ rfl rfl rfl ⟨rfl, p2.1, p2.2, k2⟩ hR) hPV rfl hlen hsize rfl (hroom t h8) hdg hf
        intro w hw
        have hw : w ∈ ([.methodLink (zow M) n (zmn (as.getD 1 0)), .instanceMethod (zmn (as.getD 1 0)), .selects (zmn (as.getD 1 0)).cls (zmn (as.getD 1 0)) (zmn (as.getD 1 0)), .initialized (zmn (as.getD 1 0)).cls] : List Cond) ++ (.code (zmn (as.getD 1 0)) (zby (as.getD 1 0)) (zml (as.getD 1 0)) (zre (as.getD 1 0)) :: zgw) := hw
        have hg : w ∈ zgw := by
          rcases List.mem_append.mp hw with q | q
          · simp only [List.mem_cons, List.not_mem_nil, or_false] at q
            rcases q with rfl | rfl | rfl | rfl
            · exact zw_good z2
            · exact zw_good z3
            · exact zw_good y5
            · exact zw_good z6
          · rcases List.mem_cons.mp q with rfl | q
            · rw [← zwd_0 y1]; exact zwde _ k1
            · exact q
        exact ⟨hg, good_of_word (List.mem_filter.mp hg).2⟩
    · rw [if_pos rfl] at z5
      rw [decide_eq_true_eq] at z5
      obtain ⟨y1, y2, y3⟩ := z5
      have hdg := zdc hd (n := 3) rfl (by decide)
      have hPS : PreS s H (zPc E ad ea (zR a :: (stk.take (as.getD 2 0)).reverse) h) (.ref (ad a) :: ((stk.take (as.getD 2 0)).reverse).map (zmv ad ea)) := ⟨zPc_blind, hpre⟩
      unfold zMet at hM1
      rw [zwd_0 y1, y3] at hM1
      have hgi : GoodIn zgw (.code (zmn (as.getD 1 0)) (zby (as.getD 1 0)) (zml (as.getD 1 0)) none :: zgw) := by rw [← y3, ← zwd_0 y1]; exact zgi (zwde _ k1)
      by_cases q7 : as.getD 0 0 = 7
      · rw [if_pos q7] at z2
        simp only [Bool.and_eq_true, decide_eq_true_eq] at z2
        exact vx_runIN hCF hM1 ⟨va_cnB (as.getD 2 0) hts hgi rfl rfl rfl (hG.2.2.1 _ (zwn_nest z2.2 rfl)) (hts _ (zw_good z6)) ⟨p2.1, p2.2, k2⟩ hR, y2, hts _ (zw_good z3)⟩ hPS rfl hlen hsize rfl (hroom t h8) hdg hf
      · rw [if_neg q7] at z2
        exact vx_runI hCF hM1 (cwI (as.getD 2 0) hts hgi rfl rfl rfl (hts _ (zw_good z6)) (hts _ (zw_good z2)) (hts _ (zw_good z3)) y2 ⟨p2.1, p2.2, k2⟩ hR) hPS rfl hlen hsize rfl (hroom t h8) hdg hf
  rcases hi with rfl | rfl | rfl
  · have hz : (if as.getD 0 0 = 4 then zw (as.getD 3 0) (.methodLink (zow M) n yJ0_length_8abf5) && decide (3 ≤ zfr M ∧ 60 ≤ zlo M) else if as.getD 0 0 = 5 then zw (as.getD 3 0) (.methodLink (zow M) n yJ0_charAt_5068e) && decide (5 ≤ zfr M ∧ 100 ≤ zlo M) else zokc M n as 1) = true := hz
    by_cases q4 : as.getD 0 0 = 4
    · rw [if_pos q4] at hz
      simp only [Bool.and_eq_true, decide_eq_true_eq] at hz
      have he : (if as.getD 0 0 = 4 then zpA stk fun v s => match v with
        | .inr (.inr (.inr k)) => zck (0 < k ∧ k ≤ ztx.length ∧ zcat s ≤ 8) (rec (pc + 3) loc (zI (Int32.ofNat (ztx.getD (k - 1) []).length) :: s) h)
        | _ => none
      else if as.getD 0 0 = 5 then zpI stk fun j s => zpA s fun v s => match v with
        | .inr (.inr (.inr k)) => zck (0 < k ∧ k ≤ ztx.length ∧ zcat s ≤ 8 ∧ ¬ (j < 0 ∨ (ztx.getD (k - 1) []).length ≤ j.toNatClampNeg)) (rec (pc + 3) loc (zI (Int32.ofNat ((ztx.getD (k - 1) []).getD j.toNatClampNeg 0)) :: s) h)
        | _ => none
      else zrcv h (as.getD 7 0) (as.getD 8 0) (stk.drop (as.getD 2 0)) (zcall cal rec (zP M).2.1 pc (as.getD 1 0) loc (stk.take (as.getD 2 0 + 1)).reverse (stk.drop (as.getD 2 0 + 1)) h)) = some out := he
      rw [if_pos q4] at he
      rcases stk with _ | ⟨x | x | x | x, t⟩
      · cases he
      · cases he
      · cases he
      · cases he
      · obtain ⟨⟨g1, g2, g3⟩, he⟩ := zck_some (show zck (0 < x ∧ x ≤ ztx.length ∧ zcat t ≤ 8) (rec (pc + 3) loc (zI (Int32.ofNat (ztx.getD (x - 1) []).length) :: t) h) = some out from he)
        exact zstr_len hx hb hml hown hts hG hS hsize g1 (by have : ztx.length = 11 := by decide +kernel
                                                             omega) (zw_good hz.1) (Nat.le_trans hz.2.1 hfr) (Nat.le_trans hz.2.2 hlo) (by rw [zcat_sum]; exact g3) (by have := hmon _ _ _ _ he hwf hol (oI _ _ hos.tl); have := this.2.1; omega) (by have := hmon _ _ _ _ he hwf hol (oI _ _ hos.tl); have := this.2.2.1; omega) (zdc hd rfl (by decide)) (k0 _ _ (oI _ _ hos.tl) he)
    · by_cases q5 : as.getD 0 0 = 5
      · rw [if_neg q4, if_pos q5] at hz
        simp only [Bool.and_eq_true, decide_eq_true_eq] at hz
        have he : (if as.getD 0 0 = 4 then zpA stk fun v s => match v with
          | .inr (.inr (.inr k)) => zck (0 < k ∧ k ≤ ztx.length ∧ zcat s ≤ 8) (rec (pc + 3) loc (zI (Int32.ofNat (ztx.getD (k - 1) []).length) :: s) h)
          | _ => none
        else if as.getD 0 0 = 5 then zpI stk fun j s => zpA s fun v s => match v with
          | .inr (.inr (.inr k)) => zck (0 < k ∧ k ≤ ztx.length ∧ zcat s ≤ 8 ∧ ¬ (j < 0 ∨ (ztx.getD (k - 1) []).length ≤ j.toNatClampNeg)) (rec (pc + 3) loc (zI (Int32.ofNat ((ztx.getD (k - 1) []).getD j.toNatClampNeg 0)) :: s) h)
          | _ => none
        else zrcv h (as.getD 7 0) (as.getD 8 0) (stk.drop (as.getD 2 0)) (zcall cal rec (zP M).2.1 pc (as.getD 1 0) loc (stk.take (as.getD 2 0 + 1)).reverse (stk.drop (as.getD 2 0 + 1)) h)) = some out := he
        rw [if_neg q4, if_pos q5] at he
        obtain ⟨j, t, rfl, he⟩ := zpI_some he
        rcases t with _ | ⟨x | x | x | x, t⟩
        · cases he
        · cases he
        · cases he
        · cases he
        · obtain ⟨⟨g1, g2, g3, g4⟩, he⟩ := zck_some (show zck (0 < x ∧ x ≤ ztx.length ∧ zcat t ≤ 8 ∧ ¬ (j < 0 ∨ (ztx.getD (x - 1) []).length ≤ j.toNatClampNeg)) (rec (pc + 3) loc (zI (Int32.ofNat ((ztx.getD (x - 1) []).getD j.toNatClampNeg 0)) :: t) h) = some out from he)
          exact zstr_at hx hb hml hown hts hG hS hsize g1 (by have : ztx.length = 11 := by decide +kernel
                                                              omega) (zw_good hz.1) (Nat.le_trans hz.2.1 hfr) (Nat.le_trans hz.2.2 hlo) (by rw [zcat_sum]; exact g3) g4 (by have := hmon _ _ _ _ he hwf hol (oI _ _ hos.tl.tl); have := this.2.1; omega) (by have := hmon _ _ _ _ he hwf hol (oI _ _ hos.tl.tl); have := this.2.2.1; omega) (zdc hd rfl (by decide)) (k0 _ _ (oI _ _ hos.tl.tl) he)
      · rw [if_neg q4, if_neg q5] at hz
        exact virt 1 (Or.inl ⟨rfl, rfl⟩) hz ((if_neg q5).symm.trans ((if_neg q4).symm.trans he))
  · have hz : (if as.getD 0 0 = 1 then zw (as.getD 3 0) (.methodLink (zow M) n objectInit) && decide (1 ≤ zfr M ∧ 20 ≤ zlo M) else if as.getD 0 0 = 9 then true else zokc M n as 0) = true := hz
    by_cases q1 : as.getD 0 0 = 1
    · rw [if_pos q1] at hz
      simp only [Bool.and_eq_true, decide_eq_true_eq] at hz
      have g0 : zpR stk (fun a s => zck (0 < a ∧ zcat s ≤ 8) (rec (pc + 3) loc s h)) = some out := (if_pos q1).symm.trans he
      clear he
      obtain ⟨a, t, rfl, he⟩ := zpR_some g0
      obtain ⟨⟨a0, h8⟩, he⟩ := zck_some he
      show W p l e R s m args below meth c H locs cells slots Q (F0 m pc ls (zrf ad a :: t.map (zmv ad ea)))
      have K := k0 _ _ hos.tl he
      rw [zrf_pos a0]
      exact W.eq rfl (W.objInit (g := F0 m pc ls (.ref (ad a) :: t.map (zmv ad ea))) hx hb hown (hts _ (zw_good hz.1)) (hts _ zg_inst_obj) (hts _ zg_code_obj) rfl (by rw [hml]; exact hsize) rfl (zdc hd rfl (by decide)) (Nat.le_trans hz.2.1 hfr) (by have := Nat.le_trans hz.2.2 hlo; have h9 := hroom t h8; have e9 : (F0 m pc ls (.ref (ad a) :: t.map (zmv ad ea))).monitorRoom = (F0 m pc ls (t.map (zmv ad ea))).monitorRoom := rfl; omega) K)
    · by_cases q9 : as.getD 0 0 = 9
      · have he : (none : Option zO) = some out := (if_pos q9).symm.trans ((if_neg q1).symm.trans he)
        cases he
      · rw [if_neg q1, if_neg q9] at hz
        exact virt 0 (Or.inr ⟨rfl, rfl⟩) hz ((if_neg q9).symm.trans ((if_neg q1).symm.trans he))
  · have hz : (if as.getD 0 0 = 2 then zw (as.getD 3 0) (.methodLink (zow M) n Lib.Math.max.name) && decide (1 ≤ zfr M ∧ 21 ≤ zlo M) else if as.getD 0 0 = 3 then zw (as.getD 3 0) (.methodLink (zow M) n Lib.Math.min.name) && decide (1 ≤ zfr M ∧ 21 ≤ zlo M) else if as.getD 0 0 = 6 then zw (as.getD 3 0) (.methodLink (zow M) n arraycopyName) && decide (1 ≤ zfr M ∧ 40 ≤ zlo M) else zokc M n as 2) = true := hz
    by_cases q2 : as.getD 0 0 = 2
    · rw [if_pos q2] at hz
      simp only [Bool.and_eq_true, decide_eq_true_eq] at hz
      have g0 : zpI stk (fun y s => zpI s fun x s => zck (zcat s ≤ 8) (rec (pc + 3) loc (zI (if x < y then y else x) :: s) h)) = some out := (if_pos q2).symm.trans he
      clear he
      obtain ⟨y, t, rfl, he⟩ := zpI_some g0
      obtain ⟨x, t, rfl, he⟩ := zpI_some he
      obtain ⟨h8, he⟩ := zck_some he
      exact va_mmax hx hb (by rw [hml, hsize]) hown (hts _ (zw_good hz.1)) (hts _ zg_static_max) (hts _ zg_init_math) (hts _ zg_code_max) (Nat.le_trans hz.2.1 hfr) (by have := Nat.le_trans hz.2.2 hlo; rw [zcat_sum]; omega) (by have := hmon _ _ _ _ he hwf hol (oI _ _ hos.tl.tl); have := this.2.1; omega) (by have := hmon _ _ _ _ he hwf hol (oI _ _ hos.tl.tl); have := this.2.2.1; omega) (zdc hd rfl (by decide)) (k0 _ _ (oI _ _ hos.tl.tl) he)
    · by_cases q3 : as.getD 0 0 = 3
      · rw [if_neg q2, if_pos q3] at hz
        simp only [Bool.and_eq_true, decide_eq_true_eq] at hz
        have g0 : zpI stk (fun y s => zpI s fun x s => zck (zcat s ≤ 8) (rec (pc + 3) loc (zI (if y < x then y else x) :: s) h)) = some out := (if_pos q3).symm.trans ((if_neg q2).symm.trans he)
        clear he
        obtain ⟨y, t, rfl, he⟩ := zpI_some g0
        obtain ⟨x, t, rfl, he⟩ := zpI_some he
        obtain ⟨h8, he⟩ := zck_some he
        exact va_mmin hx hb (by rw [hml, hsize]) hown (hts _ (zw_good hz.1)) (hts _ zg_static_min) (hts _ zg_init_math) (hts _ zg_code_min) (Nat.le_trans hz.2.1 hfr) (by have := Nat.le_trans hz.2.2 hlo; rw [zcat_sum]; omega) (by have := hmon _ _ _ _ he hwf hol (oI _ _ hos.tl.tl); have := this.2.1; omega) (by have := hmon _ _ _ _ he hwf hol (oI _ _ hos.tl.tl); have := this.2.2.1; omega) (zdc hd rfl (by decide)) (k0 _ _ (oI _ _ hos.tl.tl) he)
      · by_cases q6 : as.getD 0 0 = 6
        · rw [if_neg q2, if_neg q3, if_pos q6] at hz
          simp only [Bool.and_eq_true, decide_eq_true_eq] at hz
          have g0 : zpI stk (fun n s => zpI s fun dp s => zpR s fun b s => zpI s fun sp s => zpR s fun a s => zck ((zkd h a).1 = 1 ∧ (zkd h b).1 = 1 ∧ ¬ sp < 0 ∧ ¬ dp < 0 ∧ ¬ n < 0 ∧ sp.toNatClampNeg + n.toNatClampNeg ≤ (zkd h a).2 ∧ dp.toNatClampNeg + n.toNatClampNeg ≤ (zkd h b).2 ∧ zcat s ≤ 8) (rec (pc + 3) loc s (zsA h b (va_cpy (ziv h a) (ziv h b) sp.toNatClampNeg dp.toNatClampNeg n.toNatClampNeg)))) = some out := (if_pos q6).symm.trans ((if_neg q3).symm.trans ((if_neg q2).symm.trans he))
          clear he
          obtain ⟨cn, t, rfl, gg1⟩ := zpI_some g0
          clear g0
          obtain ⟨dp, t, rfl, gg2⟩ := zpI_some gg1
          clear gg1
          obtain ⟨b, t, rfl, gg3⟩ := zpR_some gg2
          clear gg2
          obtain ⟨sp, t, rfl, gg4⟩ := zpI_some gg3
          clear gg3
          obtain ⟨a, t, rfl, gg5⟩ := zpR_some gg4
          clear gg4
          obtain ⟨⟨g1, g2, g3, g4, g5, g6, g7, h8⟩, he⟩ := zck_some gg5
          have ha := hwf.1 a (by rw [g1]; decide)
          have hb2 := hwf.1 b (by rw [g2]; decide)
          have e1 : zmv ad ea (zR a) = .ref (ad a) := zrf_pos ha.1
          have e2 : zmv ad ea (zR b) = .ref (ad b) := zrf_pos hb2.1
          show W p l e R s m args below meth c H locs cells slots Q (F0 m pc ls (.int cn :: .int dp :: zmv ad ea (zR b) :: .int sp :: zmv ad ea (zR a) :: t.map (zmv ad ea)))
          rw [e1, e2]
          have hwa := zws_get (cK := zeK E) (ad := ad) ha.1 ha.2
          have hwb := zws_get (cK := zeK E) (ad := ad) hb2.1 hb2.2
          have hk2 : zkd h b = (1, (zkd h b).2) := by rw [← g2]
          rw [zent_a (k := 1) (n := (zkd h a).2) (by rw [← g1]) (by decide)] at hwa
          rw [zent_a hk2 (by decide)] at hwb
          have hset : (zws (zeK E) ad h).set (b - 1) (ad b, .inl (zeK E 1, (zkd h b).2, .inl (va_cpy (ziv h a) (ziv h b) sp.toNatClampNeg dp.toNatClampNeg cn.toNatClampNeg))) = zws (zeK E) ad (zsA h b (va_cpy (ziv h a) (ziv h b) sp.toNatClampNeg dp.toNatClampNeg cn.toNatClampNeg)) := by
            refine zws_set (h := h) (h' := zsA h b (va_cpy (ziv h a) (ziv h b) sp.toNatClampNeg dp.toNatClampNeg cn.toNatClampNeg)) rfl hb2.1 hb2.2 (fun b hb => zent_sA hb) ?_
            rw [zent_a (show zkd (zsA h b (va_cpy (ziv h a) (ziv h b) sp.toNatClampNeg dp.toNatClampNeg cn.toNatClampNeg)) b = _ from hk2) (by decide)]
            have e3 : ziv (zsA h b (va_cpy (ziv h a) (ziv h b) sp.toNatClampNeg dp.toNatClampNeg cn.toNatClampNeg)) b = va_cpy (ziv h a) (ziv h b) sp.toNatClampNeg dp.toNatClampNeg cn.toNatClampNeg := by show zup (ziv h) b _ b = _; unfold zup; rw [if_pos rfl]
            rw [e3]
          refine va_copyi hx hb (by rw [hml, hsize]) hown (hts _ (zw_good hz.1)) (hts _ zg_native_cpy) (hts _ zg_static_cpy) (hts _ zg_init_sys) hK hP hD hS (a - 1) (b - 1) 0 0 hwa hwb rfl rfl rfl g3 g4 g5 g6 g7 (fun i _ => hwf.2.2 _ _ g1) (Nat.le_trans hz.2.1 hfr) (by have := Nat.le_trans hz.2.2 hlo; rw [zcat_sum]; show zcat t + (nativeFrameWords "java/lang/System" "arraycopy" 5 + 11) ≤ R.locals; rw [show nativeFrameWords "java/lang/System" "arraycopy" 5 = 7 by decide +kernel]; omega) (zdc hd rfl (by decide)) (fun H1 locs1 p1 p2 p3 => ?_)
          rw [hset] at p1 p2
          have hw' : zwf (zsA h b (va_cpy (ziv h a) (ziv h b) sp.toNatClampNeg dp.toNatClampNeg cn.toNatClampNeg)) := hwf.sA fun _ j => by
            unfold va_cpy
            by_cases q : dp.toNatClampNeg ≤ j ∧ j < dp.toNatClampNeg + cn.toNatClampNeg
            · rw [if_pos q]; exact hwf.2.2 _ _ g1
            · rw [if_neg q]; exact hwf.2.2 _ _ g2
          exact hrec _ _ _ _ he hn ad ea H1 locs1 ls cells slots had hea (hA.he hw' rfl rfl hos.tl.tl.tl.tl.tl p1 p2 p3) hc hs
        · rw [if_neg q2, if_neg q3, if_neg q6] at hz
          have he : zck (as.getD 2 0 ≤ stk.length) (zcall cal rec (zP M).2.1 pc (as.getD 1 0) loc (stk.take (as.getD 2 0)).reverse (stk.drop (as.getD 2 0)) h) = some out := (if_neg q6).symm.trans ((if_neg q3).symm.trans ((if_neg q2).symm.trans he))
          obtain ⟨hlen0, he⟩ := zck_some he
          have hvs : zoks h (stk.take (as.getD 2 0)).reverse := hos.take _
          have hrs : zoks h (stk.drop (as.getD 2 0)) := hos.drop _
          unfold zokc at hz
          simp only [Bool.and_eq_true, decide_eq_true_eq] at hz
          obtain ⟨⟨⟨⟨⟨⟨k1, k2, k3, k4⟩, z2⟩, z3⟩, -⟩, -⟩, z6⟩ := hz
          rw [if_pos trivial] at z3
          obtain ⟨p1, p2, -, -⟩ := zokh_s _ k1
          have estk : stk.map (zmv ad ea) = (((stk.take (as.getD 2 0)).reverse).map (zmv ad ea)).reverse ++ (stk.drop (as.getD 2 0)).map (zmv ad ea) := by
            conv => lhs; rw [← List.take_append_drop (as.getD 2 0) stk]
            rw [List.map_append, List.map_reverse, List.reverse_reverse]
          have hlen : (((stk.take (as.getD 2 0)).reverse).map (zmv ad ea)).length = as.getD 2 0 := by rw [List.length_map, List.length_reverse, List.length_take_of_le hlen0]
          obtain ⟨h8, -⟩ := zck_some he
          refine z_back (h := h) Cx hcl.2 hcl.1 zcast hrec (fun r h1 q => hcw _ _ _ _ _ q hwf hvs) hprp he hn had hea (hA.st hrs) hc hs (a := (((stk.take (as.getD 2 0)).reverse).map (zmv ad ea)).toArray) (fun r h1 hcal => ?_)
          have hM1 := hMet _ _ _ _ _ ad ea k1 hcal hwf hvs hsc
          have hl1 := hle _ _ _ _ _ he hvs hrs hcal
          obtain ⟨w1, l1, o1⟩ := hcw _ _ _ _ _ hcal hwf hvs
          have hf : cells + (zcn h1 - zcn h) ≤ R.cells ∧ slots + (zsn h1 - zsn h) ≤ R.slots := by
            have := hl1.2.1; have := hl1.2.2.1; have := l1.2.1; have := l1.2.2.1; omega
          have hPS : PreS s H (zPc E ad ea (stk.take (as.getD 2 0)).reverse h) (((stk.take (as.getD 2 0)).reverse).map (zmv ad ea)) := ⟨zPc_blind, zPc_of hG hS hP hD⟩
          rw [estk]
          have hR : (zrm (as.getD 1 0) h h1).frames + 1 ≤ R.frames ∧ 8 + (zml (as.getD 1 0) + 11) + (zrm (as.getD 1 0) h h1).locals ≤ R.locals := ⟨Nat.le_trans k3 hfr, Nat.le_trans k4 hlo⟩
          have hdg := zdc hd (n := 3) rfl (by decide)
          unfold zMet at hM1
          by_cases q7 : as.getD 0 0 = 7
          · rw [if_pos q7] at z2
            simp only [Bool.and_eq_true, decide_eq_true_eq] at z2
            rw [zwd_0 z2.1] at hM1
            exact vx_runSN hCF hM1 ⟨va_cnB (as.getD 2 0) hts (by rw [← zwd_0 z2.1]; exact zgi (zwde _ k1)) rfl rfl rfl (hG.2.2.1 _ (zwn_nest z2.2 rfl)) (hts _ (zw_good z6)) ⟨p2.1, p2.2, k2⟩ hR, hts _ (zw_good z3), trivial⟩ hPS rfl hlen hsize rfl (hroom _ h8) hdg hf
          · rw [if_neg q7] at z2
            by_cases qh : zhh (as.getD 1 0) = []
            · rw [zwd_0 qh] at hM1
              exact vx_runS hCF hM1 ⟨callB_of (as.getD 2 0) hts (by rw [← zwd_0 qh]; exact zgi (zwde _ k1)) rfl rfl rfl (hts _ (zw_good z6)) (hts _ (zw_good z2)) ⟨p2.1, p2.2, k2⟩ hR, hts _ (zw_good z3)⟩ hPS rfl hlen hsize rfl (hroom _ h8) hdg hf
            · rw [zwd_1 qh] at hM1
              refine vx_runSX hCF hM1 (vx_cwSW (as.getD 2 0) hts ?_ rfl rfl rfl ⟨p2.1, p2.2, k2⟩ hR) hPS rfl hlen hsize rfl (hroom _ h8) hdg hf
              intro w hw
              have hw : w ∈ ([.methodLink (zow M) n (zmn (as.getD 1 0)), .static (zmn (as.getD 1 0)), .initialized (zmn (as.getD 1 0)).cls] : List Cond) ++ (.codeWith (zmn (as.getD 1 0)) (zby (as.getD 1 0)) (zml (as.getD 1 0)) (zre (as.getD 1 0)) (zhh (as.getD 1 0)) :: zgw) := hw
              have hg : w ∈ zgw := by
                rcases List.mem_append.mp hw with q | q
                · simp only [List.mem_cons, List.not_mem_nil, or_false] at q
                  rcases q with rfl | rfl | rfl
                  · exact zw_good z2
                  · exact zw_good z3
                  · exact zw_good z6
                · rcases List.mem_cons.mp q with rfl | q
                  · rw [← zwd_1 qh]; exact zwde _ k1
                  · exact q
              exact ⟨hg, good_of_word (List.mem_filter.mp hg).2⟩

end ZCALL
