set_option maxRecDepth 16384

def zAt (E : zEnv) (nL : Nat) (H0 : Heap) (ad ea : Nat → Nat) (loc : List (Option zV)) (stk : List zV) (h : zH) (H : Heap) (locs : List Loc) (ls : Array Slot) : Prop :=
  zwf h ∧ zokl h loc ∧ zoks h stk ∧ h.1.2.2.2 = zeS E ∧ va_P (zeD E) zcs (zws (zeK E) ad h) H ∧ va_D (zeA E) (zws (zeK E) ad h) ∧ va_S (zeA E) H0 H locs ∧ zls nL ad ea loc ls
def zGo (E : zEnv) (M : Nat) (p : Program) (l : Launch) (e : Env) (R : Room) (s : State) (m : MethodId) (args : Array Value) (below : List Frame) (meth : Method) (c : Code) (Q : State → Prop) (c0 s0 n0 : Nat) (ad0 ea0 : Nat → Nat) (pc : Nat) (loc : List (Option zV)) (stk : List zV) (h : zH) : Prop :=
  n0 ≤ zn h → ∀ (ad ea : Nat → Nat) (H : Heap) (locs : List Loc) (ls : Array Slot) (cells slots : Nat), (∀ i, i ≤ n0 → ad i = ad0 i) → (∀ k, k < 1000 → ea k = ea0 k) → zAt E (zml M) s.heap ad ea loc stk h H locs ls → cells + c0 = zcn h → slots + s0 = zsn h → W p l e R s m args below meth c H locs cells slots Q (F0 m pc ls (stk.map (zmv ad ea)))
/-- what is fixed while a method runs -/
def zCx (E : zEnv) (M : Nat) (p : Program) (l : Launch) (R : Room) (s : State) (m : MethodId) (args : Array Value) (meth : Method) (c : Code) (ea0 : Nat → Nat) : Prop :=
  p.tables.exec = Jvm.exec ∧ c.code = zby M ∧ c.maxLocals = zml M ∧ s.vm.findClass (zow M) = some m.cls ∧ (∀ w ∈ zgw, w.before args s = true) ∧ meth.locks = false ∧ meth.name = (zmn M).name ∧ c.exceptionTable.toList = tableOf (zhh M) ∧ l.stackTraces = false ∧ zG E ea0 s s.heap ∧ zfr M ≤ R.frames ∧ zlo M ≤ R.locals
/-- the machine's contract of a call that went so -/
def zPc (E : zEnv) (ad ea : Nat → Nat) (vs : List zV) (h : zH) : Array Value → State → Prop := fun v U => v = (vs.map (zmv ad ea)).toArray ∧ zG E ea U U.heap ∧ va_P (zeD E) zcs (zws (zeK E) ad h) U.heap ∧ va_D (zeA E) (zws (zeK E) ad h)
def zPo (E : zEnv) (ad : Nat → Nat) (h h1 : zH) (ad' : Nat → Nat) (H : Heap) : Prop := (∀ b, b ≤ zn h → ad' b = ad b) ∧ va_P (zeD E) zcs (zws (zeK E) ad' h1) H ∧ va_D (zeA E) (zws (zeK E) ad' h1)
def zQc (E : zEnv) (ad : Nat → Nat) (h : zH) (r : Option zV ⊕ Nat) (h1 : zH) : Array Value → State → Outcome → State → Prop := fun _ st o t => (∃ v, r = .inl v ∧ (∀ k, v ≠ some (zX k)) ∧ ∃ ad', zPo E ad h h1 ad' t.heap ∧ o = .returned (v.map (zmv ad' (fun _ => 0)))) ∧ va_F (zeA E) st t
def zXc (E : zEnv) (ad : Nat → Nat) (h : zH) (r : Option zV ⊕ Nat) (h1 : zH) : String → State → State → Prop := fun X st t => (∃ x, x < 4 ∧ X = zxn x ∧ r = .inr x ∧ ∃ ad', zPo E ad h h1 ad' t.heap) ∧ va_F (zeA E) st t
def zrm (k : Nat) (h h1 : zH) : Room := { frames := zfr k, cells := zcn h1 - zcn h, slots := zsn h1 - zsn h, locals := zlo k }
def zMet (E : zEnv) (l : Launch) (k : Nat) (ad ea : Nat → Nat) (vs : List zV) (h : zH) (r : Option zV ⊕ Nat) (h1 : zH) : Prop :=
  vx_Met l (zmn k) (zwd k :: zgw) (zrm k h h1) (zPc E ad ea vs h) (zQc E ad h r h1) (zXc E ad h r h1) (zcn h1 - zcn h) (zsn h1 - zsn h) (zeA E)
/-- a method's ends -/
def zRok (M pc : Nat) : Option zV → Prop
  | some (.inl x) => decode (zby M) pc = .ok (.ireturn, 1) ∧ (zre M = some .int ∨ (zre M = some .boolean ∧ (x = 0 ∨ x = 1)))
  | some (.inr (.inl _)) => decode (zby M) pc = .ok (.lreturn, 1) ∧ zre M = some .long
  | some (.inr (.inr (.inl _))) => decode (zby M) pc = .ok (.areturn, 1) ∧ ∃ n, zre M = some (.object n)
  | some (.inr (.inr (.inr _))) => False
  | none => decode (zby M) pc = .ok (.return_, 1) ∧ zre M = none
section ZSTEP
variable {E : zEnv} {M : Nat} {p : Program} {l : Launch} {e : Env} {R : Room} {s : State} {m : MethodId} {args : Array Value} {below : List Frame} {meth : Method} {c : Code} {Q : State → Prop} {c0 s0 n0 : Nat} {ad0 ea0 : Nat → Nat}
def zRet (E : zEnv) (M : Nat) (p : Program) (l : Launch) (e : Env) (R : Room) (s : State) (m : MethodId) (args : Array Value) (below : List Frame) (meth : Method) (c : Code) (Q : State → Prop) (c0 s0 n0 : Nat) (ad0 : Nat → Nat) (out : zO) : Prop :=
  ∀ (pc : Nat) (v : Option zV) (h : zH) (ad ea : Nat → Nat) (loc : List (Option zV)) (stk : List zV) (H : Heap) (locs : List Loc) (ls : Array Slot) (cells slots : Nat), out = (.inl v, h) → zRok M pc v → n0 ≤ zn h → (∀ i, i ≤ n0 → ad i = ad0 i) → zAt E (zml M) s.heap ad ea loc stk h H locs ls → cells + c0 = zcn h → slots + s0 = zsn h → W p l e R s m args below meth c H locs cells slots Q (F0 m pc ls (v.toList.map (zmv ad ea)))
def zThr (E : zEnv) (M : Nat) (p : Program) (l : Launch) (e : Env) (R : Room) (s : State) (m : MethodId) (args : Array Value) (below : List Frame) (meth : Method) (c : Code) (Q : State → Prop) (c0 s0 n0 : Nat) (ad0 : Nat → Nat) (out : zO) : Prop :=
  ∀ (pc n : Nat) (as : List Nat) (h : zH) (ad ea : Nat → Nat) (loc : List (Option zV)) (stk : List zV) (H : Heap) (locs : List Loc) (ls : Array Slot) (cells slots : Nat), out = (.inr (as.getD 1 0), zbump h) → as.getD 0 0 = 1 → zoki M pc (.new n) as = true → zcat stk ≤ 8 → n0 ≤ zn h → (∀ i, i ≤ n0 → ad i = ad0 i) → zAt E (zml M) s.heap ad ea loc stk h H locs ls → cells + c0 = zcn h → slots + s0 = zsn h → W p l e R s m args below meth c H locs cells slots Q (F0 m pc ls (stk.map (zmv ad ea)))
def zPrp (E : zEnv) (M : Nat) (p : Program) (l : Launch) (e : Env) (R : Room) (s : State) (m : MethodId) (args : Array Value) (below : List Frame) (meth : Method) (c : Code) (Q : State → Prop) (c0 s0 n0 : Nat) (ad0 : Nat → Nat) (out : zO) : Prop :=
  ∀ (pc x : Nat) (h : zH) (ad ea : Nat → Nat) (loc : List (Option zV)) (H : Heap) (locs : List Loc) (ls : Array Slot) (rest : List Value) (cells slots q : Nat) (ce : Cell), out = (.inr x, h) → x < 4 → zhand (zP M).2.1 pc x = none → n0 ≤ zn h → (∀ i, i ≤ n0 → ad i = ad0 i) → zAt E (zml M) s.heap ad ea loc [] h H locs ls → cells + c0 = zcn h → slots + s0 = zsn h → H[q]? = some ce → ce.vm = .none → s.vm.findClass (zxn x) = some ce.cls → vx_W p l e R s m args below meth c H locs cells slots Q (F0 m pc ls rest) q
theorem zAt.st {nL : Nat} {H0 : Heap} {ad ea : Nat → Nat} {loc : List (Option zV)} {stk stk' : List zV} {h : zH} {H : Heap} {locs : List Loc} {ls : Array Slot} (a : zAt E nL H0 ad ea loc stk h H locs ls) (o : zoks h stk') : zAt E nL H0 ad ea loc stk' h H locs ls :=
  ⟨a.1, a.2.1, o, a.2.2.2⟩
theorem zAt.lo {nL : Nat} {H0 : Heap} {ad ea : Nat → Nat} {loc loc' : List (Option zV)} {stk stk' : List zV} {h : zH} {H : Heap} {locs : List Loc} {ls ls' : Array Slot} (a : zAt E nL H0 ad ea loc stk h H locs ls) (ol : zokl h loc') (o : zoks h stk') (z : zls nL ad ea loc' ls') : zAt E nL H0 ad ea loc' stk' h H locs ls' :=
  ⟨a.1, ol, o, a.2.2.2.1, a.2.2.2.2.1, a.2.2.2.2.2.1, a.2.2.2.2.2.2.1, z⟩
theorem zAt.he {nL : Nat} {H0 : Heap} {ad ea : Nat → Nat} {loc : List (Option zV)} {stk stk' : List zV} {h h' : zH} {H H' : Heap} {locs locs' : List Loc} {ls : Array Slot} (a : zAt E nL H0 ad ea loc stk h H locs ls) (w : zwf h') (hn : zn h' = zn h) (hsc : h'.1.2.2.2 = h.1.2.2.2) (o : zoks h stk') (hP : va_P (zeD E) zcs (zws (zeK E) ad h') H') (hD : va_D (zeA E) (zws (zeK E) ad h')) (hS : va_S (zeA E) H0 H' locs') : zAt E nL H0 ad ea loc stk' h' H' locs' ls :=
  ⟨w, a.2.1.up (Nat.le_of_eq hn.symm), o.up (Nat.le_of_eq hn.symm), hsc.trans a.2.2.2.1, hP, hD, hS, a.2.2.2.2.2.2.2⟩
theorem zin (ci : Nat) (h : ci < 6) : ∀ w ∈ u_ws (zCn ci) (z7T ci) (zNn ci), w ∈ zgw := by
  have k : ∀ ci, ci < 6 → (u_ws (zCn ci) (z7T ci) (zNn ci)).all (fun w => decide (w ∈ lw_tbl) && goodWord w) = true := by decide +kernel
  intro w hw
  have := List.all_eq_true.mp (k ci h) w hw
  simp only [Bool.and_eq_true, decide_eq_true_eq] at this
  exact List.mem_filter.mpr this
theorem zcs_at (ci : Nat) (h : ci < 6) : zcs[ci]? = some (zCn ci, z7T ci, zNn ci) := by
  match ci, h with
  | 0, _ => rfl
  | 1, _ => rfl
  | 2, _ => rfl
  | 3, _ => rfl
  | 4, _ => rfl
  | 5, _ => rfl
def zty (ci k : Nat) : FieldType := if (z7T ci k).2.2.1 = "I" then .int else if (z7T ci k).2.2.1 = "Z" then .boolean else (parseFieldDescriptor (z7T ci k).2.2.1).getD .int
theorem zty_ok : ∀ ci, ci < 6 → ∀ k, k < zNn ci → parseFieldDescriptor (z7T ci k).2.2.1 = some (zty ci k) := by decide +kernel
theorem zty_nm : ∀ ci, ci < 6 → ∀ a, a < zNn ci → ∀ b, b < zNn ci → a ≠ b → (z7T ci a).2.1 ≠ (z7T ci b).2.1 := by decide +kernel
theorem zty_0 : ∀ ci, ci < 6 → ∀ k, k < zNn ci → zft ci k = 0 → zty ci k = .int := by decide +kernel
theorem zty_1 : ∀ ci, ci < 6 → ∀ k, k < zNn ci → zft ci k = 1 → zty ci k = .boolean := by decide +kernel
def zisr : FieldType → Bool
  | .object _ => true
  | .array _ => true
  | _ => false
theorem zty_2b : ∀ ci, ci < 6 → ∀ k, k < zNn ci → zft ci k = 2 → zisr (zty ci k) = true := by decide +kernel
theorem zty_012 : ∀ ci, ci < 6 → ∀ k, k < zNn ci → zft ci k = 0 ∨ zft ci k = 1 ∨ zft ci k = 2 := by decide +kernel
theorem zisr_n {ty : FieldType} (h : zisr ty = true) (ad : Nat → Nat) (r : Nat) : narrow ty (zrf ad r) = zrf ad r ∧ fits ty (zrf ad r) = true := by
  unfold zrf
  cases ty with
  | object n => by_cases q : r = 0 <;> simp [q, narrow, fits]
  | array t => by_cases q : r = 0 <;> simp [q, narrow, fits]
  | _ => exact absurd h (by simp [zisr])
theorem zpk {h : zH} {a k n : Nat} (w : zwf h) (e : zkd h a = (k, n)) (hk : k ≠ 0) : 0 < a ∧ a ≤ zn h := w.1 a (by rw [e]; exact hk)
theorem zpk1 {h : zH} {a : Nat} (w : zwf h) (hk : (zkd h a).1 ≠ 0) : 0 < a ∧ a ≤ zn h := w.1 a hk
end ZSTEP
