set_option maxRecDepth 16384
/-! WHAT THE TABLES MUST SAY OF EACH ROW -/
def z7T (ci : Nat) : u_T := (zcs.getD ci ("", TX0, 0)).2.1
def zCn (ci : Nat) : String := (zcs.getD ci ("", TX0, 0)).1
def zNn (ci : Nat) : Nat := (zcs.getD ci ("", TX0, 0)).2.2
def zm (k : Nat) : MethodName × ByteArray × Option FieldType × Nat × Nat × Nat × List (Nat × Nat × Nat × Nat) := zmt.getD k (⟨"", "", ""⟩, ⟨#[]⟩, none, 0, 0, 0, [])
abbrev zmn (k : Nat) : MethodName := (zm k).1
abbrev zby (k : Nat) : ByteArray := (zm k).2.1
abbrev zre (k : Nat) : Option FieldType := (zm k).2.2.1
abbrev zpl (k : Nat) : Nat := (zm k).2.2.2.1
abbrev zfr (k : Nat) : Nat := (zm k).2.2.2.2.1
abbrev zlo (k : Nat) : Nat := (zm k).2.2.2.2.2.1
abbrev zhh (k : Nat) : List (Nat × Nat × Nat × Nat) := (zm k).2.2.2.2.2.2
abbrev zow (k : Nat) : String := (zmn k).cls
abbrev zml (k : Nat) : Nat := (zP k).1
def zxn (E : Nat) : String := ["java/lang/IllegalArgumentException", "java/lang/IllegalStateException", "java/lang/IndexOutOfBoundsException", "java/lang/UnsupportedOperationException"].getD E ""
def zxs2 : List String := ["java/lang/RuntimeException", "java/lang/Exception"]
/-- the tables in pieces of 32 -/
def zq8ch : Nat → List Cond → List (List Cond)
  | 0, _ => []
  | n + 1, l => l.take 32 :: zq8ch n (l.drop 32)
theorem zq8ch_at : ∀ (n : Nat) (l : List Cond) (q : Nat), q < n → (zq8ch n l).getD q [] = (l.drop (32 * q)).take 32
  | 0, _, q, h => absurd h (Nat.not_lt_zero q)
  | n + 1, l, 0, _ => by first | rfl | simp [zq8ch]
  | n + 1, l, q + 1, h => by
    show (zq8ch n (l.drop 32)).getD q [] = _
    rw [zq8ch_at n (l.drop 32) q (Nat.lt_of_succ_lt_succ h), List.drop_drop]
    congr 2
    omega
def zq8at (i : Nat) : Option Cond := if i / 32 < 48 then ((zq8ch 48 lw_tbl).getD (i / 32) [])[i % 32]? else none
theorem zq8at_eq {i : Nat} {w : Cond} (h : zq8at i = some w) : lw_tbl[i]? = some w := by
  unfold zq8at at h
  by_cases q : i / 32 < 48
  · rw [if_pos q, zq8ch_at 48 lw_tbl _ q, List.getElem?_take, if_pos (Nat.mod_lt i (by decide)), List.getElem?_drop, Nat.div_add_mod] at h
    exact h
  · rw [if_neg q] at h
    cases h
def zw (i : Nat) (w : Cond) : Bool := decide (zq8at i = some w) && goodWord w
def zwn (i : Nat) (w : Cond) : Bool := decide (zq8at i = some w)
def zgw : List Cond := lw_tbl.filter goodWord
def znwt (w : Cond) : Bool := match w with
  | .methodLinkNest .. => true
  | .fieldLinkNest .. => true
  | .declares _ => true
  | .castable _ _ => true
  | _ => false
def znw : List Cond := lw_tbl.filter znwt
theorem zw_good {i : Nat} {w : Cond} (h : zw i w = true) : w ∈ zgw := by
  simp only [zw, Bool.and_eq_true, decide_eq_true_eq] at h
  exact List.mem_filter.mpr ⟨List.mem_of_getElem? (zq8at_eq h.1), h.2⟩
theorem zwn_nest {i : Nat} {w : Cond} (h : zwn i w = true) (g : znwt w = true) : w ∈ znw := by
  simp only [zwn, decide_eq_true_eq] at h
  exact List.mem_filter.mpr ⟨List.mem_of_getElem? (zq8at_eq h), g⟩
/-- the texts: where they are linked, and their bytes -/
def zsr : List (String × Nat × String) := [("LinkLibrary$Parts", 65, "//"), ("LinkLibrary$Parts", 82, "/."), ("LinkLibrary$Addresses", 88, "["), ("LinkLibrary$Addresses", 94, "::"), ("LinkLibrary$Relating", 49, "../"), ("LinkLibrary$Relating", 59, "./"), ("LinkLibrary$Normalising", 92, "http"), ("LinkLibrary$Normalising", 98, "ws"), ("LinkLibrary$Normalising", 100, "https"), ("LinkLibrary$Normalising", 102, "wss"), ("LinkLibrary$Normalising", 104, "ftp")]
def z7len : List Nat := ztx.map List.length
def zbt : List (List Int32) := ztx.map fun t => t.map Int32.ofNat
/-- a method's own word -/
def zwd (k : Nat) : Cond := if zhh k = [] then .code (zmn k) (zby k) (zml k) (zre k) else .codeWith (zmn k) (zby k) (zml k) (zre k) (zhh k)
/-- how long an instruction is; 0 where it tells itself -/
def zil : Instr → Nat
  | .bipush _ | .iload _ | .istore _ | .aload _ | .astore _ | .ldc _ | .newarray _ => 2
  | .sipush _ | .ldc2_w _ | .iinc _ _ | .goto _ | .ifCond _ _ | .if_icmp _ _ | .ifnonnull _ | .getfield _ | .putfield _ | .new _ | .anewarray _ | .invokespecial _ | .invokevirtual _ | .invokestatic _ => 3
  | .tableswitch .. => 0
  | _ => 1
def zdec (b : ByteArray) (pc : Nat) (i : Instr) : Bool := match decode b pc with
  | .ok r => decide (r.1 = i ∧ (zil i = 0 ∨ r.2 = zil i))
  | _ => false
def zokf (own : String) (n : Nat) (as : List Nat) : Bool :=
  decide (as.getD 0 0 < 6 ∧ as.getD 1 0 = zNn (as.getD 0 0) ∧ as.getD 2 0 < as.getD 1 0 ∧ as.getD 3 0 = zft (as.getD 0 0) (as.getD 2 0)) &&
  (if as.getD 5 0 = 0 then zw (as.getD 4 0) (.fieldLink own n (z7T (as.getD 0 0) (as.getD 2 0)).1 (z7T (as.getD 0 0) (as.getD 2 0)).2.1 (z7T (as.getD 0 0) (as.getD 2 0)).2.2.1)
    else zwn (as.getD 4 0) (.fieldLinkNest own n (z7T (as.getD 0 0) (as.getD 2 0)).1 (z7T (as.getD 0 0) (as.getD 2 0)).2.1 (z7T (as.getD 0 0) (as.getD 2 0)).2.2.1 RX8))
def znp (y : MethodName) : Option Nat := (parseMethodDescriptor y.desc).map fun d => d.parameters.length
/-- a call of k by M: st 0 special, 1 virtual, 2 static -/
def zokc (M : Nat) (n : Nat) (as : List Nat) (st : Nat) : Bool :=
  let k := as.getD 1 0
  decide (k < 225 ∧ znp (zmn k) = some (as.getD 2 0) ∧ zfr k + 1 ≤ zfr M ∧ 8 + (zml k + 11) + zlo k ≤ zlo M) &&
  (if as.getD 0 0 = 7 then decide (zhh k = []) && zwn (as.getD 3 0) (.methodLinkNest (zow M) n (zmn k) RX8) else zw (as.getD 3 0) (.methodLink (zow M) n (zmn k))) &&
  (if st = 2 then zw (as.getD 4 0) (.static (zmn k)) else zw (as.getD 4 0) (.instanceMethod (zmn k))) &&
  (if st = 1 then decide (zhh k = [] ∧ as.getD 7 0 < 6 ∧ as.getD 8 0 = zNn (as.getD 7 0) ∧ zCn (as.getD 7 0) = (zmn k).cls) && zw (as.getD 5 0) (.selects (zmn k).cls (zmn k) (zmn k)) else true) &&
  (if st = 0 then decide (zhh k = [] ∧ (zmn k).name = "<init>" ∧ zre k = none) else true) &&
  zw (as.getD 6 0) (.initialized (zmn k).cls)
def zoki (M pc : Nat) (i : Instr) (as : List Nat) : Bool :=
  zdec (zby M) pc i && match i with
  | .ldc n => if as.getD 0 0 = 0 then decide ((zsr[as.getD 1 0]?).map (fun q => (q.1, q.2.1)) = some (zow M, n)) else zw (as.getD 2 0) (.constant (zow M) n (Int32.ofNat (as.getD 1 0)))
  | .ldc2_w n => zw (as.getD 1 0) (.constantLong (zow M) n (Int64.ofNat (as.getD 0 0)))
  | .goto off => decide ((pc : Int) + off = (as.getD 0 0 : Nat))
  | .ifCond _ off => decide ((pc : Int) + off = (as.getD 0 0 : Nat))
  | .if_icmp _ off => decide ((pc : Int) + off = (as.getD 0 0 : Nat))
  | .ifnonnull off => decide ((pc : Int) + off = (as.getD 0 0 : Nat))
  | .tableswitch d lo hi offs => decide ((pc : Int) + d = (as.getD 0 0 : Nat) ∧ (hi - lo).toNat < offs.size ∧ ∀ k, k < offs.size → (pc : Int) + offs.getD k 0 = (as.getD (k + 1) 0 : Nat))
  | .getfield n => zokf (zow M) n as
  | .putfield n => zokf (zow M) n as && (if as.getD 6 0 = 1 then decide ((z7T (as.getD 0 0) (as.getD 2 0)).2.2.2 = true ∧ (zmn M).name = "<init>" ∧ (z7T (as.getD 0 0) (as.getD 2 0)).1 = zow M ∧ as.getD 5 0 = 0) else decide ((z7T (as.getD 0 0) (as.getD 2 0)).2.2.2 = false))
  | .new n => if as.getD 0 0 = 1 then decide (as.getD 1 0 < 4 ∧ zow M = RX8 ∧ as.getD 4 0 = [60, 67, 220, 146].getD (as.getD 1 0) 0 ∧ zhh M = [] ∧ 6 ≤ zfr M ∧ 89 ≤ zlo M) && zw (as.getD 2 0) (.classLink (zow M) n (zxn (as.getD 1 0))) && zw (as.getD 3 0) (.initialized (zxn (as.getD 1 0))) && zdec (zby M) (pc + 3) .dup && zdec (zby M) (pc + 4) (.invokespecial (as.getD 4 0)) && zdec (zby M) (pc + 7) .athrow
      else decide (as.getD 1 0 < 6 ∧ as.getD 2 0 = zNn (as.getD 1 0)) && zw (as.getD 3 0) (.classLink (zow M) n (zCn (as.getD 1 0))) && zw (as.getD 4 0) (.instantiable (zCn (as.getD 1 0)) (zNn (as.getD 1 0))) && zw (as.getD 5 0) (.initialized (zCn (as.getD 1 0)))
  | .newarray t => zw (as.getD 1 0) (.arrayClass (newarray.typeOf t)) && decide ((as.getD 0 0 = 1 ∧ t = .byte) ∨ (as.getD 0 0 = 2 ∧ t = .int) ∨ (as.getD 0 0 = 3 ∧ t = .boolean) ∨ (as.getD 0 0 = 4 ∧ t = .long))
  | .anewarray n => zw (as.getD 0 0) (.classLink (zow M) n RX2)
  | .invokespecial n => if as.getD 0 0 = 1 then zw (as.getD 3 0) (.methodLink (zow M) n objectInit) && decide (1 ≤ zfr M ∧ 20 ≤ zlo M) else if as.getD 0 0 = 9 then true else zokc M n as 0
  | .invokevirtual n => if as.getD 0 0 = 4 then zw (as.getD 3 0) (.methodLink (zow M) n yJ0_length_8abf5) && decide (3 ≤ zfr M ∧ 60 ≤ zlo M) else if as.getD 0 0 = 5 then zw (as.getD 3 0) (.methodLink (zow M) n yJ0_charAt_5068e) && decide (5 ≤ zfr M ∧ 100 ≤ zlo M) else zokc M n as 1
  | .invokestatic n => if as.getD 0 0 = 2 then zw (as.getD 3 0) (.methodLink (zow M) n Lib.Math.max.name) && decide (1 ≤ zfr M ∧ 21 ≤ zlo M) else if as.getD 0 0 = 3 then zw (as.getD 3 0) (.methodLink (zow M) n Lib.Math.min.name) && decide (1 ≤ zfr M ∧ 21 ≤ zlo M) else if as.getD 0 0 = 6 then zw (as.getD 3 0) (.methodLink (zow M) n arraycopyName) && decide (1 ≤ zfr M ∧ 40 ≤ zlo M) else zokc M n as 2
  | .ireturn => decide ((as.getD 0 0 = 1 ∧ zre M = some .boolean) ∨ (as.getD 0 0 = 0 ∧ zre M = some .int))
  | .lreturn => decide (zre M = some .long)
  | .areturn => match zre M with
      | some (.object _) => true
      | _ => false
  | .return_ => decide (zre M = none)
  | .athrow => true
  | _ => true
/-- a method's rows, and its own word -/
def zokm (M : Nat) : Bool := (zP M).2.2.zipIdx.all fun q => match q.1 with
  | none => true
  | some r => zoki M q.2 r.1 r.2
def zokh (M : Nat) : Bool := plainName (zmn M).cls && decide ((zmn M).cls ≠ "java/lang/invoke/MethodHandle" ∧ (zmn M).cls ≠ "java/lang/invoke/VarHandle") && decide ((zP M).2.1.length = (zhh M).length) &&
  ((zP M).2.1.zip (zhh M)).all fun q => decide (q.1.1 = q.2.1 ∧ q.1.2.1 = q.2.2.1 ∧ q.1.2.2.1 = q.2.2.2.1 ∧ q.1.2.2.2 < 4 ∧ q.2.2.2.2 ≠ 0 ∧ .classLink (zow M) q.2.2.2.2 (zxn q.1.2.2.2) ∈ zgw)
theorem zokm_at {M pc : Nat} {q : Instr × List Nat} (h : zokm M = true) (e : (zP M).2.2.getD pc none = some q) : zoki M pc q.1 q.2 = true := by
  rw [List.getD_eq_getElem?_getD] at e
  have e2 : (zP M).2.2[pc]? = some (some q) := by
    cases q2 : (zP M).2.2[pc]? with
    | none => rw [q2] at e; cases e
    | some w => rw [q2] at e; exact congrArg some e
  have h2 := List.all_eq_true.mp h (some q, pc) (List.mem_zipIdx_iff_getElem?.mpr e2)
  exact h2
def zokx (M pc : Nat) : Bool := match (zP M).2.2.getD pc none with
  | none => true
  | some q => zoki M pc q.1 q.2
theorem zokx_at {M pc : Nat} {q : Instr × List Nat} (h : zokx M pc = true) (e : (zP M).2.2.getD pc none = some q) : zoki M pc q.1 q.2 = true := by
  unfold zokx at h
  rw [e] at h
  exact h
theorem zrange_at {f : Nat → Bool} {a n k : Nat} (h : (List.range' a n).all f = true) (h1 : a ≤ k) (h2 : k < a + n) : f k = true := List.all_eq_true.mp h k (List.mem_range'_1.mpr ⟨h1, h2⟩)
