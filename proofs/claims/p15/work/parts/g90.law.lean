-- ===== end of PART A; then your names; then what follows =====
/-! THE CLAIM OUT OF ONE WALK OF THE LAW'S BODY. Your part is whole_start (and what it stands on); all else here is the same for every law, but numbers. -/
def R_law : String := "LinkLibraryLaw"
def lw_P (b : Addr) (xs : List Int32) (args : Array Value) (s : State) : Prop := args = #[.ref b] ∧ s.IntsAt b xs ∧ xs.length ≤ 240 ∧ (Jvm.Cond.and given_1 narrow_1).before args s = true
def lw_Q (_ : Array Value) (s : State) (o : Outcome) (t : State) : Prop := o = .returned (some (.int 1)) ∧ Framed s o t [] 600096 7301386
def lw_Z (below : List Frame) (a : Array Value) (s : State) : State → Prop := fun t => ∃ o, t.status = .running ∧ Ended t below o ∧ lw_Q a s o t
/-- the law's own end, with 1 on the stack, nothing written that was there before, its room as the claim has it -/
theorem lw_ret {p : Program} {l : Launch} {e : Env} {s : State} {m : MethodId} {below : List Frame} {meth : Method} {c : Code} {b : Nat} (hx : p.tables.exec = Jvm.exec) (hb : c.code = code) (hr : meth.sig.returnType = ret) (hlocks : meth.locks = false) {pc : Nat} {H : Heap} {ls : Array Slot} (hdg : decode code pc = .ok (.ireturn, 1)) : W p l e room_1 s m #[Value.ref b] below meth c H [] 600096 7301386 (lw_Z below #[Value.ref b] s) (F0 m pc ls [.int 1]) := by
  intro T hT X
  obtain ⟨fs, hret, hrun, hended, hW, hframe⟩ := X.leave (v := some (.int 1)) (hlocks := hlocks) (fun h => by rw [hr] at h; cases h)
  have hmeth' : T.vm.method? m = some meth := X.method'
  refine ⟨T.setFrames fs, ?_, .returned (some (.int 1)), hrun, hended, rfl, ⟨_, rfl⟩, hW, hframe⟩
  jvm_step X.here [X.here.top, hx, hb, hdg, hmeth', hr, ret, narrow_b1]
  (try refine ⟨rfl, ?_⟩); (try refine ⟨rfl, ?_⟩)
  first | (intro acts; rw [hret _ acts rfl rfl rfl]) | rw [hret _ _ rfl rfl rfl]
  exact Steps.refl _
/-- what holds at the law's entry: the machine, the code, the tables' words (any of lw_tbl by 'hts w (by decide +kernel)'), the script of L ints xs at the cell b, what the Statement gives of the start (any of its parts by flat_of_before) -/
def lw_At (p : Program) (s : State) (m : MethodId) (meth : Method) (c : Code) (b L : Nat) (xs : Nat → Int32) : Prop :=
  p.tables.exec = Jvm.exec ∧ c.code = code ∧ meth.sig.returnType = ret ∧ c.maxLocals = 7 ∧ s.vm.findClass R_law = some m.cls ∧ (∀ w ∈ lw_tbl, w.before #[Value.ref b] s = true) ∧ va_X b L xs s s.heap ∧ b < s.heap.size ∧ meth.locks = false ∧ (Jvm.Cond.and given_1 narrow_1).before #[Value.ref b] s = true ∧ (∀ x ∈ c.exceptionTable.toList, False) ∧ meth.name = "law"

-- ===== YOUR PART BEGINS =====
theorem zlaw_ok {pc : Nat} {q : Instr × List Nat} (e : (zP 225).2.2.getD pc none = some q) : zoki 225 pc q.1 q.2 = true := by
  have hlt : pc < 1020 := by
    rcases Nat.lt_or_ge pc 1020 with h | h
    · exact h
    · have hl : (zP 225).2.2.length ≤ 1020 := by decide +kernel
      rw [List.getD_eq_getElem?_getD, List.getElem?_eq_none (Nat.le_trans hl h)] at e
      cases e
  have key : ∀ a, (List.range' a 60).all (zokx 225) = true → a ≤ pc → pc < a + 60 → zokx 225 pc = true := fun a e h1 h2 => zrange_at e h1 h2
  refine zokx_at ?_ e
  rcases (show pc / 60 = 0 ∨ pc / 60 = 1 ∨ pc / 60 = 2 ∨ pc / 60 = 3 ∨ pc / 60 = 4 ∨ pc / 60 = 5 ∨ pc / 60 = 6 ∨ pc / 60 = 7 ∨ pc / 60 = 8 ∨ pc / 60 = 9 ∨ pc / 60 = 10 ∨ pc / 60 = 11 ∨ pc / 60 = 12 ∨ pc / 60 = 13 ∨ pc / 60 = 14 ∨ pc / 60 = 15 ∨ pc / 60 = 16 by omega) with q | q | q | q | q | q | q | q | q | q | q | q | q | q | q | q | q
  · exact key 0 zokl_0 (by omega) (by omega)
  · exact key 60 zokl_60 (by omega) (by omega)
  · exact key 120 zokl_120 (by omega) (by omega)
  · exact key 180 zokl_180 (by omega) (by omega)
  · exact key 240 zokl_240 (by omega) (by omega)
  · exact key 300 zokl_300 (by omega) (by omega)
  · exact key 360 zokl_360 (by omega) (by omega)
  · exact key 420 zokl_420 (by omega) (by omega)
  · exact key 480 zokl_480 (by omega) (by omega)
  · exact key 540 zokl_540 (by omega) (by omega)
  · exact key 600 zokl_600 (by omega) (by omega)
  · exact key 660 zokl_660 (by omega) (by omega)
  · exact key 720 zokl_720 (by omega) (by omega)
  · exact key 780 zokl_780 (by omega) (by omega)
  · exact key 840 zokl_840 (by omega) (by omega)
  · exact key 900 zokl_900 (by omega) (by omega)
  · exact key 960 zokl_960 (by omega) (by omega)

def zstm (i : Nat) : Term := .string (zsr.getD i ("", 0, "")).1 (zsr.getD i ("", 0, "")).2.1
def znar : List Cond := flatC (Jvm.Cond.and given_1 narrow_1)
theorem zs_ex : ∀ i, i < 11 → Cond.exactly (zstm i) "java/lang/String" ∈ znar := by decide +kernel
theorem zs_co : ∀ i, i < 11 → Cond.eq (.field (zstm i) "java/lang/String" "coder" "B") (.int 0) ∈ znar := by decide +kernel
theorem zs_ar : ∀ i, i < 11 → Cond.arrayOf (.field (zstm i) "java/lang/String" "value" "[B") .byte ∈ znar := by decide +kernel
theorem zs_le : ∀ i, i < 11 → Cond.eq (.length (.field (zstm i) "java/lang/String" "value" "[B")) (.int (Int32.ofNat (z7len.getD i 0))) ∈ znar := by decide +kernel
theorem zs_el : ∀ i, i < 11 → ∀ j, j < z7len.getD i 0 → Cond.eq (.elem (.field (zstm i) "java/lang/String" "value" "[B") (.int (Int32.ofNat j))) (.int ((zbt.getD i []).getD j 0)) ∈ znar := by decide +kernel
theorem zs_ne : ∀ i, i < 11 → ∀ j, j < 11 → i ≠ j → Cond.not (Cond.eq (zstm i) (zstm j)) ∈ znar ∨ Cond.not (Cond.eq (zstm j) (zstm i)) ∈ znar := by decide +kernel
theorem zs_nc : ∀ i, i < 4 → ∀ j, j < 4 → i ≠ j → Cond.not (.castable (zxn i) (zxn j)) ∈ znar := by decide +kernel
theorem zs_sr : ∀ q ∈ zsr, Cond.stringRef q.1 q.2.1 q.2.2 ∈ lw_tbl := by decide +kernel
theorem zl_inst : ∀ ci, ci < 6 → Cond.instantiable (zCn ci) (zNn ci) ∈ lw_tbl := by decide +kernel
theorem zl_arr : Cond.arrayClass .byte ∈ lw_tbl ∧ Cond.arrayClass .int ∈ lw_tbl ∧ Cond.arrayClass .boolean ∈ lw_tbl ∧ Cond.arrayClass .long ∈ lw_tbl ∧ Cond.arrayOver (.object RX2) ∈ lw_tbl := by decide +kernel
theorem zl_st : Cond.laysStatic Bundle.tN "UNASSIGNED_STACK" Bundle.steD ∈ lw_tbl ∧ Cond.laysStatic Bundle.tN "SUPPRESSED_SENTINEL" Bundle.listD ∈ lw_tbl ∧ Cond.initialized Bundle.tN ∈ lw_tbl ∧ Cond.laysStatic "java/lang/String" "COMPACT_STRINGS" "Z" ∈ lw_tbl ∧ Cond.initialized "java/lang/String" ∈ lw_tbl ∧ Cond.laysStatic "jdk/internal/util/Preconditions" "SIOOBE_FORMATTER" "Ljava/util/function/BiFunction;" ∈ lw_tbl ∧ Cond.initialized "jdk/internal/util/Preconditions" ∈ lw_tbl := by decide +kernel
theorem zn_st : Cond.isRef (.static Bundle.tN "UNASSIGNED_STACK" Bundle.steD) ∈ znar ∧ Cond.isRef (.static Bundle.tN "SUPPRESSED_SENTINEL" Bundle.listD) ∈ znar ∧ Cond.eq (.static "java/lang/String" "COMPACT_STRINGS" "Z") (.int 1) ∈ znar ∧ Cond.isRef (.static "jdk/internal/util/Preconditions" "SIOOBE_FORMATTER" "Ljava/util/function/BiFunction;") ∈ znar := by decide +kernel
theorem zarr_of {args : Array Value} {s : State} {ty : FieldType} (h : (Cond.arrayClass ty).before args s = true) (ho : ∀ n, ty ≠ .object n) : ∃ cA, ArrOfT s cA ty ∧ va_RA s cA ty := by
  obtain ⟨c, k, comp, h1, h2, h3⟩ := Cond.arrayClass_spec h
  refine ⟨c, fun n z => ⟨fun k h => (by cases h), k, h2, comp, h3⟩, ?_⟩
  cases ty with
  | object n => exact absurd rfl (ho n)
  | _ => exact h1
theorem zarr_ov {args : Array Value} {s : State} {C : String} (h : (Cond.arrayOver (.object C)).before args s = true) : ∃ cA, ArrOfT s cA (.object C) ∧ va_RA s cA (.object C) := by
  obtain ⟨comp, c, k, h1, -, h2, h3, h4⟩ := Cond.arrayOver_spec h
  exact ⟨c, fun n z => ⟨fun k h => (by cases h), k, h2, comp, h3⟩, ⟨k, comp, h2, h3, h1, h4⟩⟩
/-- the start: the machine's world -/
theorem z_start {p : Program} {s : State} {m : MethodId} {meth : Method} {c : Code} {b L : Nat} {xs : Nat → Int32} (C0 : lw_At p s m meth c b L xs) : ∃ (E : zEnv) (ea : Nat → Nat), zeA E = (fun q => s.heap.size ≤ q) ∧ zeS E = (L, xs) ∧ ea 0 = b ∧ zG E ea s s.heap := by
  obtain ⟨hx, hb, hr, hml, hown, hts, hX, hbl, hlocks, hgv, hno, hnm⟩ := C0
  have hA : ∀ a : Nat, a < s.heap.size → ¬ (fun q : Nat => s.heap.size ≤ q) a := fun a h => Nat.not_le.mpr h
  have hn : ∀ w ∈ znar, w.before #[Value.ref b] s = true := flat_of_before _ hgv
  have htg : ∀ w ∈ zgw, w.before #[Value.ref b] s = true := fun w hw => hts w (List.mem_filter.mp hw).1
  have hcl : ∀ ci, ∃ q : ClassId × (Nat → Nat), ci < 6 → u_Kn s (zCn ci) (z7T ci) (zNn ci) q.1 q.2 := by
    intro ci
    by_cases h : ci < 6
    · obtain ⟨cC, iS, hk⟩ := u_known htg (zin ci h) (hts _ (zl_inst ci h))
      exact ⟨(cC, iS), fun _ => hk⟩
    · exact ⟨(0, fun _ => 0), fun q => absurd q h⟩
  obtain ⟨fc, hfc⟩ := Classical.axiomOfChoice hcl
  obtain ⟨cB, hB1, hB2⟩ := zarr_of (hts _ zl_arr.1) (fun n q => by cases q)
  obtain ⟨cI, hI1, hI2⟩ := zarr_of (hts _ zl_arr.2.1) (fun n q => by cases q)
  obtain ⟨cZ, hZ1, hZ2⟩ := zarr_of (hts _ zl_arr.2.2.1) (fun n q => by cases q)
  obtain ⟨cJ, hJ1, hJ2⟩ := zarr_of (hts _ zl_arr.2.2.2.1) (fun n q => by cases q)
  obtain ⟨cO, hO1, hO2⟩ := zarr_ov (hts _ zl_arr.2.2.2.2)
  obtain ⟨adK, adV, hVS, hVe⟩ := vk_Sof (N := 11) (tm := zstm) (len := z7len) (byt := zbt) (A := fun q => s.heap.size ≤ q) (by decide +kernel) (fun i hi => hn _ (zs_ex i hi)) (fun i hi => hn _ (zs_co i hi)) (fun i hi => hn _ (zs_ar i hi)) (fun i hi => hn _ (zs_le i hi)) (fun i hi j hj => hn _ (zs_el i hi j hj)) (fun i j hi hj hne => (zs_ne i hi j hj hne).imp (hn _) (hn _)) hA
  refine ⟨(fun k => (fc k).1, fun k => (fc k).2, fun k => if k = 1 then cB else if k = 2 then cI else if k = 3 then cZ else if k = 4 then cJ else cO, adV, (L, xs), fun q => s.heap.size ≤ q), fun k => if k = 0 then b else adK (k - 1), rfl, rfl, rfl, ?_⟩
  refine ⟨⟨fun ci q hq => ?_, fun k q hq => ?_⟩, ⟨vx_Zqof (hts _ zl_st.1) (hts _ zl_st.2.2.1) (hn _ zn_st.1) hA, vx_Zqof (hts _ zl_st.2.1) (hts _ zl_st.2.2.1) (hn _ zn_st.2.1) hA⟩, fun w hw => ?_, fun i j hi hj hne => va_Nc.of (hn _ (zs_nc i hi j hj hne)), va_AO.of (hts _ zl_arr.2.2.2.2), ⟨fun k q hq => ?_, ?_⟩, ⟨va_Zof (hts _ zl_st.2.2.2.1) (hts _ zl_st.2.2.2.2.1) (va_eqt (hn _ zn_st.2.2.1)) hA, va_Zqof (hts _ zl_st.2.2.2.2.2.1) (hts _ zl_st.2.2.2.2.2.2) (hn _ zn_st.2.2.2) hA⟩, ⟨hX, hbl, hA b hbl⟩, fun q hq => hq⟩
  · match ci, hq with
    | 0, hq => cases hq; exact hfc 0 (by decide)
    | 1, hq => cases hq; exact hfc 1 (by decide)
    | 2, hq => cases hq; exact hfc 2 (by decide)
    | 3, hq => cases hq; exact hfc 3 (by decide)
    | 4, hq => cases hq; exact hfc 4 (by decide)
    | 5, hq => cases hq; exact hfc 5 (by decide)
    | ci + 6, hq => simp at hq
  · match k, hq with
    | 0, hq => cases hq; exact ⟨hB1, hB2⟩
    | 1, hq => cases hq; exact ⟨hI1, hI2⟩
    | 2, hq => cases hq; exact ⟨hZ1, hZ2⟩
    | 3, hq => cases hq; exact ⟨hJ1, hJ2⟩
    | 4, hq => cases hq; exact ⟨hO1, hO2⟩
    | k + 5, hq => simp [ztys] at hq
  · have hg : znwt w = true := (List.mem_filter.mp hw).2
    have : w.onTables = true := by
      cases w with
      | methodLinkNest a i x h2 => rfl
      | fieldLinkNest a i b n d h2 => rfl
      | declares x => rfl
      | castable a b => rfl
      | _ => exact absurd hg (by simp [znwt])
    exact va_Nw.of this (hts w (List.mem_filter.mp hw).1)
  · have hlt : k < zsr.length := (List.getElem?_eq_some_iff.mp hq).1
    have h11 : zsr.length = 11 := by decide +kernel
    have e1 : zstm k = .string q.1 q.2.1 := by unfold zstm; rw [List.getD_eq_getElem?_getD, hq]; rfl
    have := hVe k (by omega)
    rw [e1] at this
    exact vk_R.warm (s := s) (U := s) (State.WarmedH.refl s) (vk_R.of (A := #[Value.ref b]) (hts _ (zs_sr q (List.mem_of_getElem? hq))) this)
  · exact hVS
/-- the law by the pure machine, from any of its rows -/
theorem z_lawrun {E : zEnv} {l : Launch} (hst : l.stackTraces = false) : ∀ (f pc : Nat) (loc : List (Option zV)) (stk : List zV) (h : zH) (out : zO), zex zP f 225 pc loc stk h = some out →
    ∀ (p : Program) (e : Env) (R : Room) (s : State) (m : MethodId) (args : Array Value) (below : List Frame) (meth : Method) (c : Code) (Q : State → Prop) (c0 s0 n0 : Nat) (ad0 ea0 : Nat → Nat), zCx E 225 p l R s m args meth c ea0 → zcn out.2 ≤ R.cells + c0 → zsn out.2 ≤ R.slots + s0 →
      zRet E 225 p l e R s m args below meth c Q c0 s0 n0 ad0 out → zThr E 225 p l e R s m args below meth c Q c0 s0 n0 ad0 out → zPrp E 225 p l e R s m args below meth c Q c0 s0 n0 ad0 out → zGo E 225 p l e R s m args below meth c Q c0 s0 n0 ad0 ea0 pc loc stk h := by
  intro f
  induction f with
  | zero => intro pc loc stk h out he; cases he
  | succ f ih =>
    intro pc loc stk h out he p e R s m args below meth c Q c0 s0 n0 ad0 ea0 Cx hRc hRs hret hthr hprp
    exact z_next hst (z_sound hst f) 225 (Or.inr ⟨rfl, rfl⟩) (fun pc q hq => zlaw_ok hq) ih pc loc stk h out he p e R s m args below meth c Q c0 s0 n0 ad0 ea0 Cx hRc hRs hret hthr hprp
/-- from the entry, for every script of at most 240 ints, the law comes to its end with true -/
theorem whole_start {p : Program} {e : Env} {s : State} {m : MethodId} {below : List Frame} {meth : Method} {c : Code} (l : Launch) (hflags : l.flags = flags0) {b L : Nat} {xs : Nat → Int32} (hL : L ≤ 240) (C0 : lw_At p s m meth c b L xs) : W p l e room_1 s m #[Value.ref b] below meth c s.heap [] 0 0 (lw_Z below #[Value.ref b] s) (entryFrame m ([Value.ref b] : List Value).toArray 7) := by
  obtain ⟨hF, hrun, hcn, hsn⟩ := zlaw_pure L xs hL
  obtain ⟨f, hrun⟩ := (zev_iff zP).mp hrun
  obtain ⟨E, ea, eA, eS, e0, hG⟩ := z_start C0
  obtain ⟨hx, hb, hr, hml, hown, hts, hX, hbl, hlocks, hgv, hno, hnm⟩ := C0
  have hst : l.stackTraces = false := by unfold Launch.stackTraces; rw [hflags]; decide +kernel
  have Cx : zCx E 225 p l room_1 s m #[Value.ref b] meth c ea := ⟨hx, hb, hml, hown, fun w hw => hts w (List.mem_filter.mp hw).1, hlocks, hnm, List.eq_nil_iff_forall_not_mem.mpr hno, hst, hG, by decide +kernel, by decide +kernel⟩
  have hl := lv_entry ([.ref b]) (n := 7) (Nat.le_of_ble_eq_true rfl)
  rw [lg_entry_eq]
  generalize (lg_sl ([.ref b]) ++ List.replicate (7 - (lg_sl ([.ref b])).length) Slot.unset).toArray = ls at hl ⊢
  have hl : lv_has ls 7 (lv_args 0 (([zX 0] : List zV).map (zmv (fun _ => 0) ea))) := by
    show lv_has ls 7 (lv_args 0 [.ref (ea 0)])
    rw [e0]; exact hl
  have hret : zRet E 225 p l e room_1 s m #[Value.ref b] below meth c (lw_Z below #[Value.ref b] s) 0 0 0 (fun _ => 0) (.inl (some (zI 1)), hF) := by
    intro pc v h ad ea' loc stk H locs ls cells slots eo hrk hn had hA hc hs
    cases eo
    have hS := hA.2.2.2.2.2.2.1
    refine va_forget (fun q hq => ?_) ?_
    · have := hS.2.2 q hq
      rw [eA] at this
      exact this
    · refine W.widen (k := 600096) (n := 7301386) (by omega) (by omega) ?_
      exact lw_ret hx hb hr hlocks hrk.1
  have hthr : zThr E 225 p l e room_1 s m #[Value.ref b] below meth c (lw_Z below #[Value.ref b] s) 0 0 0 (fun _ => 0) (.inl (some (zI 1)), hF) := by
    intro pc n as h ad ea' loc stk H locs ls cells slots eo
    cases eo
  have hprp : zPrp E 225 p l e room_1 s m #[Value.ref b] below meth c (lw_Z below #[Value.ref b] s) 0 0 0 (fun _ => 0) (.inl (some (zI 1)), hF) := by
    intro pc x h ad ea' loc H locs ls rest cells slots q ce eo
    cases eo
  have hP0 : va_P (zeD E) zcs (zws (zeK E) (fun _ => 0) (zh0 L xs)) s.heap := fun k q hq => by
    have : zws (zeK E) (fun _ => 0) (zh0 L xs) = [] := rfl
    rw [this] at hq; simp at hq
  have hD0 : va_D (zeA E) (zws (zeK E) (fun _ => 0) (zh0 L xs)) := by
    have : zws (zeK E) (fun _ => 0) (zh0 L xs) = [] := rfl
    rw [this]
    exact ⟨fun i j p q h => by simp at h, fun k q h => by simp at h⟩
  exact z_lawrun hst f 0 (zloc 7 [zX 0]) [] (zh0 L xs) _ hrun p e room_1 s m _ below meth c _ 0 0 0 (fun _ => 0) ea Cx hcn hsn hret hthr hprp (Nat.zero_le _) (fun _ => 0) ea s.heap [] ls 0 0 (fun _ _ => rfl) (fun _ _ => rfl) ⟨zh0_wf L xs, zloc_ok (fun v hv => by rcases List.mem_singleton.mp hv with rfl; trivial), zoks.nil, eS.symm, hP0, hD0, va_S.rf, zls.entry (by decide) hl⟩ rfl rfl
-- ===== YOUR PART ENDS =====
set_option maxHeartbeats 4000000 in
theorem lw_walk (l : Launch) (hflags : l.flags = flags0) (b : Addr) (xs : List Int32) : MetFree l x (headSpec (Jvm.Cond.code x code maxLocals ret :: tables_1) room_1) (lw_P b xs) (fun _ _ _ _ _ => True) lw_Q := by
  refine MetFree.of_bodyS (code := code) (maxLocals := maxLocals) (ret := ret) (by decide) ?_ ?_
  · intro args s m h hn
    obtain ⟨meth, c, h1, h2, h3, h4, h5, h6, -, -⟩ := Cond.code_spec hn (atoms_spec (ws := Jvm.Cond.code x code maxLocals ret :: tables_1) h _ List.mem_cons_self)
    exact ⟨meth, c, h1, h2, h3, h4, h5, h6⟩
  · intro p e s m args below meth c s₁ B hml0 hP _
    obtain ⟨rfl, hx, hbd, hgv⟩ := hP
    have hno : ∀ x ∈ c.exceptionTable.toList, False := by
      obtain ⟨meth9, c9, h1, h2, -, -, -, -, h7, -⟩ := Cond.code_spec B.named (atoms_spec (ws := Jvm.Cond.code x code maxLocals ret :: tables_1) B.pre _ List.mem_cons_self)
      cases Option.some.inj (h1.symm.trans B.method)
      cases Option.some.inj (h2.symm.trans (Stand.of_body B).code)
      intro x hx
      rw [Array.isEmpty_iff.mp h7] at hx
      cases hx
    obtain ⟨scr, harrAt, hlist, hof, hsmall⟩ := hx
    obtain ⟨hcb, hkn, -, -⟩ := State.arrayAt?_spec harrAt
    have hown : s.vm.findClass R_law = some m.cls := findClass_of_methodNamed B.named
    have hts0 : ∀ c ∈ (Jvm.Cond.code x code maxLocals ret :: tables_1), c.before #[Value.ref b] s = true := atoms_spec (ws := Jvm.Cond.code x code maxLocals ret :: tables_1) B.pre
    have hts : ∀ w ∈ lw_tbl, w.before #[Value.ref b] s = true := k2_hts_sels lw_privs (fun w hw => hts0 w (List.mem_cons_of_mem _ hw)) lw_privs_ok
    have hml : c.maxLocals = 7 := B.maxLocals_eq (hts0 _ List.mem_cons_self)
    have X₀ : Stand p l e room_1 s m #[Value.ref b] below meth c s₁ [] 0 0 := Stand.of_body B
    have hh0 : s₁.heap = s.heap := by rw [B.state]; rfl
    have hsz : scr.slots.size = xs.length := by rw [← Array.length_toList, hlist, List.length_map]
    have hval : ∀ j : Nat, j < xs.length → scr.slots[j]? = some (.int (xs.getD j 0)) := fun j hj => by
      rw [← Array.getElem?_toList, hlist]
      simp [hj]
    have hbl : b < s.heap.size := (Array.getElem?_eq_some_iff.mp hcb).1
    have hX : va_X b xs.length (fun j => xs.getD j 0) s s.heap := ⟨scr, hcb, hof, hkn, hsz, hval⟩
    have K : W p l e room_1 s m #[Value.ref b] below meth c s₁.heap [] 0 0 (lw_Z below #[Value.ref b] s) (entryFrame m ([Value.ref b] : List Value).toArray 7) := by
      rw [hh0]
      exact whole_start l hflags hbd ⟨B.exec, B.bytes, B.returns, hml, hown, hts, hX, hbl, B.notSynchronized, hgv, hno, (name_of_methodNamed B.named B.method).1⟩
    obtain ⟨t, a1, o, b1, b2, b3⟩ := K s₁ rfl X₀
    exact ⟨t, o, a1, b1, b2, b3⟩
theorem lw_pre_spec {args : Array Value} {s : State} (h : (Jvm.Cond.and given_1 narrow_1).before args s = true) (hr : rest_1_c.before args s = true) : ∃ (b : Addr) (xs : List Int32), lw_P b xs args s := by
  have hs := flat_of_before _ h
  have hq := flat_of_before _ hr
  have hc : (Cond.count 1).before args s = true := hs _ (by decide +kernel)
  have harr : (Cond.arrayOf (.arg 0) .int).before args s = true := hs _ (by decide +kernel)
  have hle : (Cond.le (.length (.arg 0)) (.int 240)).before args s = true := hs _ (by decide +kernel)
  have hlen : (Cond.isInt (.length (.arg 0))).before args s = true := hq _ (by decide +kernel)
  have hall : (Cond.all (.arg 0) (.isInt (.elem (.arg 0) (.index 0)))).before args s = true := hq _ (by decide +kernel)
  obtain ⟨b, xs, hb, hx⟩ := State.ints_of_pre rfl harr hlen hall
  have hsm : xs.length < 2 ^ 31 := hx.choose_spec.2.2.2
  have hev : (Term.length (.arg 0)).eval args s none [] s = some (.int xs.length.toInt32) := hx.length_eval hb
  have hv := Cond.le_ints hev (show (Term.int 240).eval args s none [] s = some (.int 240) from rfl)
  have hd : xs.length.toInt32 ≤ 240 := by
    simpa [Cond.before, Cond.holds, hv] using hle
  have hN : xs.length ≤ 240 := (Int32.ofNat_le_ofNat hsm (by decide)).mp (show Int32.ofNat xs.length ≤ Int32.ofNat 240 from hd)
  exact ⟨b, xs, Cond.one_arg hc (show args[0]? = some (.ref b) from hb), hx, hN, h⟩
theorem lw_comes (l : Launch) (hflags : l.flags = flags0) : Comes l x (Jvm.Cond.code x code maxLocals ret :: tables_1) room_1 (fun tb e args s => Calls_1 tb e args s ∧ rest_1 tb e args s ∧ Pre_1 tb e args s)
    (fun _ _ args s o t => lw_Q args s o t) := by
  intro p e ha hc hk s m args below hf hfit hheap happ hpre
  obtain ⟨b, xs, hP⟩ := lw_pre_spec hpre.2.2 hpre.2.1
  obtain ⟨k, o, h1, h2, h3, hQ⟩ := lw_walk l hflags b xs p e ha hc hk s m args below hf ((Spec.applies_iff_loose hf).mp happ).1 hP trivial
  exact ⟨k, o, h1, h2, h3, hQ⟩
theorem lw_frame {s t : State} {o : Outcome} {args : Array Value} (h : Framed s o t [] 600096 7301386) :
    Framed s o t (fieldLocs frame_1_writes args s ++ arrayLocs frame_1_arrays args s ++ staticLocs frame_1_statics s) 600096 7301386 := h
theorem lw_limb (L : Cond) (hL : ∀ (args : Array Value) (s t : State), L.after args s (.returned (some (.int 1))) t = true) :
    ArmFor flags0 classFile x code maxLocals ret World_1 tables_1 room_1 Calls_1 rest_1 Pre_1
      (fun tb e a s o t => postC L tb e a s o t ∧ Framed s o t (fieldLocs frame_1_writes a s ++ arrayLocs frame_1_arrays a s ++ staticLocs frame_1_statics s) 600096 7301386) := by
  intro l hflags _ _ p e ha hc hk s m args below hf hfit hheap happ hpre
  obtain ⟨k, o, h1, h2, h3, rfl, hF⟩ := lw_comes l hflags p e ha hc hk s m args below hf hfit hheap happ hpre
  exact ⟨k, _, h1, h2, h3, hL args s _, lw_frame hF⟩
theorem i_vc : Claimed_1_1 ∧ Claimed_1_2 := ⟨lw_limb limb_1_1 (fun args s t => by simp [limb_1_1, Cond.after, Cond.holds, Cond.value]), lw_limb limb_1_2 (fun args s t => Cond.after_iff.mpr (by
  first | (rw [show limb_1_2 = Cond.eq .result (.int 1) from rfl, Cond.eq_ints (x := 1) (y := 1) rfl rfl]; simp; done) | (simp [limb_1_2, Cond.value, Term.eval]; done)))⟩
