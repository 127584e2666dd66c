set_option maxRecDepth 16384
/-! THE PURE MACHINE: the claim's own bytecode run on numbered objects. zV a value: an int, a long, a numbered object (0: null), or something outside (0: the script, k + 1: a text) -/
abbrev zV : Type := Int32 ⊕ (Int64 ⊕ (Nat ⊕ Nat))
abbrev zI (x : Int32) : zV := .inl x
abbrev zL (x : Int64) : zV := .inr (.inl x)
abbrev zR (n : Nat) : zV := .inr (.inr (.inl n))
abbrev zX (n : Nat) : zV := .inr (.inr (.inr n))
/-- what never changes but by 'new': how many objects, of what kind and length, their references; the script -/
abbrev zSh : Type := Nat × (Nat → Nat × Nat) × (Nat → Nat → Nat) × Nat × (Nat → Int32)
/-- what changes: ints, longs, cells and slots made -/
abbrev zSt : Type := (Nat → Nat → Int32) × (Nat → Nat → Int64) × Nat × Nat
abbrev zH : Type := zSh × zSt
abbrev zn (h : zH) : Nat := h.1.1
abbrev zkd (h : zH) : Nat → Nat × Nat := h.1.2.1
abbrev zrv (h : zH) : Nat → Nat → Nat := h.1.2.2.1
abbrev zln (h : zH) : Nat := h.1.2.2.2.1
abbrev zxs (h : zH) : Nat → Int32 := h.1.2.2.2.2
abbrev ziv (h : zH) : Nat → Nat → Int32 := h.2.1
abbrev zlv (h : zH) : Nat → Nat → Int64 := h.2.2.1
abbrev zcn (h : zH) : Nat := h.2.2.2.1
abbrev zsn (h : zH) : Nat := h.2.2.2.2
def zup {α : Type} (f : Nat → α) (a : Nat) (v : α) : Nat → α := fun x => if x = a then v else f x
abbrev zsI (h : zH) (a : Nat) (k : Nat) (x : Int32) : zH := (h.1, zup (ziv h) a (zup (ziv h a) k x), h.2.2)
abbrev zsA (h : zH) (a : Nat) (f : Nat → Int32) : zH := (h.1, zup (ziv h) a f, h.2.2)
abbrev zsL (h : zH) (a : Nat) (k : Nat) (x : Int64) : zH := (h.1, ziv h, zup (zlv h) a (zup (zlv h a) k x), h.2.2.2)
abbrev zsR (h : zH) (a : Nat) (k : Nat) (r : Nat) : zH := ((zn h, zkd h, zup (zrv h) a (zup (zrv h a) k r), h.1.2.2.2), h.2)
abbrev zbump (h : zH) : zH := (h.1, ziv h, zlv h, zcn h + 1, zsn h + 6)
abbrev znew (h : zH) (kind len : Nat) : zH := ((zn h + 1, zup (zkd h) (zn h + 1) (kind, len), zup (zrv h) (zn h + 1) (fun _ => 0), h.1.2.2.2), zup (ziv h) (zn h + 1) (fun _ => 0), zup (zlv h) (zn h + 1) (fun _ => 0), zcn h + 1, zsn h + len)
abbrev zO : Type := (Option zV ⊕ Nat) × zH
abbrev zF : Type := Nat → List (Option zV) → List zV → zH → Option zO
abbrev zC : Type := Nat → List zV → zH → Option zO
def zck (c : Prop) [Decidable c] (k : Option zO) : Option zO := if c then k else none
def zpI (stk : List zV) (k : Int32 → List zV → Option zO) : Option zO := match stk with
  | .inl x :: s => k x s
  | _ => none
def zpL (stk : List zV) (k : Int64 → List zV → Option zO) : Option zO := match stk with
  | .inr (.inl x) :: s => k x s
  | _ => none
/-- a numbered reference -/
def zpR (stk : List zV) (k : Nat → List zV → Option zO) : Option zO := match stk with
  | .inr (.inr (.inl x)) :: s => k x s
  | _ => none
/-- any reference -/
def zpA (stk : List zV) (k : zV → List zV → Option zO) : Option zO := match stk with
  | .inr (.inr v) :: s => k (.inr (.inr v)) s
  | _ => none
/-- a value of one word -/
def zp1 (stk : List zV) (k : zV → List zV → Option zO) : Option zO := match stk with
  | .inl x :: s => k (.inl x) s
  | .inr (.inr v) :: s => k (.inr (.inr v)) s
  | _ => none
def zisL (v : Option zV) : Bool := match v with
  | some (.inr (.inl _)) => true
  | _ => false
def zlI (loc : List (Option zV)) (i : Nat) (k : Int32 → Option zO) : Option zO := match loc.getD i none with
  | some (.inl x) => k x
  | _ => none
def zlL (loc : List (Option zV)) (i : Nat) (k : Int64 → Option zO) : Option zO := match loc.getD i none with
  | some (.inr (.inl x)) => k x
  | _ => none
def zlA (loc : List (Option zV)) (i : Nat) (k : zV → Option zO) : Option zO := match loc.getD i none with
  | some (.inr (.inr v)) => k (.inr (.inr v))
  | _ => none
/-- a store of one word: no long may lie just ahead -/
def zs1 (loc : List (Option zV)) (i : Nat) (v : zV) (k : List (Option zV) → Option zO) : Option zO :=
  bif decide (i < loc.length) && !(zisL (loc.getD (i - 1) none)) then k (loc.set i (some v)) else none
def zs2 (loc : List (Option zV)) (i : Nat) (v : zV) (k : List (Option zV) → Option zO) : Option zO :=
  bif decide (i + 1 < loc.length) && !(zisL (loc.getD (i - 1) none)) then k ((loc.set i (some v)).set (i + 1) none) else none
def zcat : List zV → Nat
  | [] => 0
  | .inr (.inl _) :: s => zcat s + 2
  | _ :: s => zcat s + 1
def zput (v : Option zV) (s : List zV) : List zV := match v with
  | none => s
  | some x => x :: s
/-- the places of arguments in the locals -/
def zarg : List zV → List (Option zV)
  | [] => []
  | .inr (.inl x) :: s => some (.inr (.inl x)) :: none :: zarg s
  | v :: s => some v :: zarg s
def zloc (n : Nat) (args : List zV) : List (Option zV) := zarg args ++ List.replicate (n - (zarg args).length) none
/-- the row of a table of handlers that takes E thrown at pc: (start, end, handler, kind) -/
def zhand : List (Nat × Nat × Nat × Nat) → Nat → Nat → Option Nat
  | [], _, _ => none
  | (a, b, t, c) :: r, pc, E => if a ≤ pc ∧ pc < b ∧ c = E then some t else zhand r pc E
/-- behind a call -/
def zcx (o : Option zO) (f : Option zV → zH → Option zO) (g : Nat → zH → Option zO) : Option zO := match o with
  | none => none
  | some (.inl v, h') => f v h'
  | some (.inr E, h') => g E h'
def zth (E : Nat) (h' : zH) : Option zO := some (.inr E, h')
def zcall (cal : zC) (rec : zF) (hs : List (Nat × Nat × Nat × Nat)) (pc k : Nat) (loc : List (Option zV)) (args rest : List zV) (h : zH) : Option zO :=
  zck (zcat rest ≤ 8) (zcx (cal k args h) (fun v h' => rec (pc + 3) loc (zput v rest) h') (fun E h' => match zhand hs pc E with
      | none => zth E h'
      | some t => rec t (loc.map fun _ => none) [zX 1000] h'))
/-- the receiver of a call is of the kind of the method -/
def zrcv (h : zH) (ci N : Nat) (stk : List zV) (k : Option zO) : Option zO := match stk with
  | .inr (.inr (.inl a)) :: _ => zck (zkd h a = (10 + ci, N)) k
  | _ => none
/-- the texts -/
def ztx : List (List Nat) := [[47, 47], [47, 46], [91], [58, 58], [46, 46, 47], [46, 47], [104, 116, 116, 112], [119, 115], [104, 116, 116, 112, 115], [119, 115, 115], [102, 116, 112]]
def zins (cal : zC) (rec : zF) (hs : List (Nat × Nat × Nat × Nat)) (pc : Nat) (i : Instr) (as : List Nat) (loc : List (Option zV)) (stk : List zV) (h : zH) : Option zO :=
  match i with
  | .iconst n => rec (pc + 1) loc (zI (Int32.ofInt n) :: stk) h
  | .bipush n => rec (pc + 2) loc (zI (Int8.ofInt n).toInt32 :: stk) h
  | .sipush n => rec (pc + 3) loc (zI (Int16.ofInt n).toInt32 :: stk) h
  | .lconst n => rec (pc + 1) loc (zL (Int64.ofNat (n : Nat)) :: stk) h
  | .ldc _ => if as.getD 0 0 = 0 then rec (pc + 2) loc (zX (as.getD 1 0 + 1) :: stk) h else rec (pc + 2) loc (zI (Int32.ofNat (as.getD 1 0)) :: stk) h
  | .ldc2_w _ => rec (pc + 3) loc (zL (Int64.ofNat (as.getD 0 0)) :: stk) h
  | .iload_n n => zlI loc (n : Nat) fun x => rec (pc + 1) loc (zI x :: stk) h
  | .iload n => zlI loc n fun x => rec (pc + 2) loc (zI x :: stk) h
  | .lload_n n => zlL loc (n : Nat) fun x => rec (pc + 1) loc (zL x :: stk) h
  | .aload_n n => zlA loc (n : Nat) fun v => rec (pc + 1) loc (v :: stk) h
  | .aload n => zlA loc n fun v => rec (pc + 2) loc (v :: stk) h
  | .istore_n n => zpI stk fun x s => zs1 loc (n : Nat) (zI x) fun loc' => rec (pc + 1) loc' s h
  | .istore n => zpI stk fun x s => zs1 loc n (zI x) fun loc' => rec (pc + 2) loc' s h
  | .lstore_n n => zpL stk fun x s => zs2 loc (n : Nat) (zL x) fun loc' => rec (pc + 1) loc' s h
  | .astore_n n => zpA stk fun v s => zs1 loc (n : Nat) v fun loc' => rec (pc + 1) loc' s h
  | .astore n => zpA stk fun v s => zs1 loc n v fun loc' => rec (pc + 2) loc' s h
  | .iinc n d => zlI loc n fun x => zs1 loc n (zI (x + Int32.ofInt d)) fun loc' => rec (pc + 3) loc' stk h
  | .iadd => zpI stk fun y s => zpI s fun x s => rec (pc + 1) loc (zI (x + y) :: s) h
  | .isub => zpI stk fun y s => zpI s fun x s => rec (pc + 1) loc (zI (x - y) :: s) h
  | .imul => zpI stk fun y s => zpI s fun x s => rec (pc + 1) loc (zI (x * y) :: s) h
  | .idiv => zpI stk fun y s => zpI s fun x s => zck (¬ y = 0) (rec (pc + 1) loc (zI (x / y) :: s) h)
  | .irem => zpI stk fun y s => zpI s fun x s => zck (¬ y = 0) (rec (pc + 1) loc (zI (x - x / y * y) :: s) h)
  | .iand => zpI stk fun y s => zpI s fun x s => rec (pc + 1) loc (zI (x &&& y) :: s) h
  | .ior => zpI stk fun y s => zpI s fun x s => rec (pc + 1) loc (zI (x ||| y) :: s) h
  | .ishl => zpI stk fun y s => zpI s fun x s => rec (pc + 1) loc (zI (x <<< (y &&& 31)) :: s) h
  | .ishr => zpI stk fun y s => zpI s fun x s => rec (pc + 1) loc (zI (x >>> (y &&& 31)) :: s) h
  | .iushr => zpI stk fun y s => zpI s fun x s => rec (pc + 1) loc (zI (x.toUInt32 >>> (y.toUInt32 &&& Int32.toUInt32 31)).toInt32 :: s) h
  | .land => zpL stk fun y s => zpL s fun x s => rec (pc + 1) loc (zL (x &&& y) :: s) h
  | .lor => zpL stk fun y s => zpL s fun x s => rec (pc + 1) loc (zL (x ||| y) :: s) h
  | .lshl => zpI stk fun y s => zpL s fun x s => rec (pc + 1) loc (zL (x <<< (y.toInt64 &&& 63)) :: s) h
  | .lshr => zpI stk fun y s => zpL s fun x s => rec (pc + 1) loc (zL (x >>> (y.toInt64 &&& 63)) :: s) h
  | .lushr => zpI stk fun y s => zpL s fun x s => rec (pc + 1) loc (zL (x.toUInt64 >>> (y.toInt64.toUInt64 &&& Int64.toUInt64 63)).toInt64 :: s) h
  | .lcmp => zpL stk fun y s => zpL s fun x s => rec (pc + 1) loc (zI (lg_cmp x y) :: s) h
  | .i2l => zpI stk fun x s => rec (pc + 1) loc (zL x.toInt64 :: s) h
  | .l2i => zpL stk fun x s => rec (pc + 1) loc (zI x.toInt32 :: s) h
  | .i2b => zpI stk fun x s => rec (pc + 1) loc (zI x.toInt8.toInt32 :: s) h
  | .dup => zp1 stk fun v s => rec (pc + 1) loc (v :: v :: s) h
  | .dup2 => zp1 stk fun v s => zp1 s fun w s => rec (pc + 1) loc (v :: w :: v :: w :: s) h
  | .pop => zp1 stk fun _ s => rec (pc + 1) loc s h
  | .pop2 => zpL stk fun _ s => rec (pc + 1) loc s h
  | .goto _ => rec (as.getD 0 0) loc stk h
  | .ifCond .eq _ => zpI stk fun x s => if x = 0 then rec (as.getD 0 0) loc s h else rec (pc + 3) loc s h
  | .ifCond .ne _ => zpI stk fun x s => if ¬ x = 0 then rec (as.getD 0 0) loc s h else rec (pc + 3) loc s h
  | .ifCond .lt _ => zpI stk fun x s => if x < 0 then rec (as.getD 0 0) loc s h else rec (pc + 3) loc s h
  | .ifCond .le _ => zpI stk fun x s => if x ≤ 0 then rec (as.getD 0 0) loc s h else rec (pc + 3) loc s h
  | .ifCond .gt _ => zpI stk fun x s => if 0 < x then rec (as.getD 0 0) loc s h else rec (pc + 3) loc s h
  | .ifCond .ge _ => zpI stk fun x s => if 0 ≤ x then rec (as.getD 0 0) loc s h else rec (pc + 3) loc s h
  | .if_icmp .eq _ => zpI stk fun y s => zpI s fun x s => if x = y then rec (as.getD 0 0) loc s h else rec (pc + 3) loc s h
  | .if_icmp .ne _ => zpI stk fun y s => zpI s fun x s => if ¬ x = y then rec (as.getD 0 0) loc s h else rec (pc + 3) loc s h
  | .if_icmp .lt _ => zpI stk fun y s => zpI s fun x s => if x < y then rec (as.getD 0 0) loc s h else rec (pc + 3) loc s h
  | .if_icmp .le _ => zpI stk fun y s => zpI s fun x s => if x ≤ y then rec (as.getD 0 0) loc s h else rec (pc + 3) loc s h
  | .if_icmp .gt _ => zpI stk fun y s => zpI s fun x s => if y < x then rec (as.getD 0 0) loc s h else rec (pc + 3) loc s h
  | .if_icmp .ge _ => zpI stk fun y s => zpI s fun x s => if y ≤ x then rec (as.getD 0 0) loc s h else rec (pc + 3) loc s h
  | .ifnonnull _ => zpR stk fun a s => if a = 0 then rec (pc + 3) loc s h else rec (as.getD 0 0) loc s h
  | .tableswitch _ lo hi _ => zpI stk fun x s => if x.toInt < lo ∨ hi < x.toInt then rec (as.getD 0 0) loc s h else rec (as.getD ((x.toInt - lo).toNat + 1) 0) loc s h
  | .getfield _ => zpR stk fun a s => zck (zkd h a = (10 + as.getD 0 0, as.getD 1 0)) (if as.getD 3 0 = 2 then rec (pc + 3) loc (zR (zrv h a (as.getD 2 0)) :: s) h else rec (pc + 3) loc (zI (ziv h a (as.getD 2 0)) :: s) h)
  | .putfield _ => if as.getD 3 0 = 2 then zpR stk fun r s => zpR s fun a s => zck (zkd h a = (10 + as.getD 0 0, as.getD 1 0)) (rec (pc + 3) loc s (zsR h a (as.getD 2 0) r))
      else zpI stk fun x s => zpR s fun a s => zck (zkd h a = (10 + as.getD 0 0, as.getD 1 0) ∧ (as.getD 3 0 = 1 → x = 0 ∨ x = 1)) (rec (pc + 3) loc s (zsI h a (as.getD 2 0) x))
  | .new _ => if as.getD 0 0 = 1 then zck (zcat stk ≤ 8) (some (.inr (as.getD 1 0), zbump h)) else rec (pc + 3) loc (zR (zn h + 1) :: stk) (znew h (10 + as.getD 1 0) (as.getD 2 0))
  | .newarray _ => zpI stk fun x s => zck (¬ x < 0 ∧ x.toNatClampNeg ≤ 100000) (rec (pc + 2) loc (zR (zn h + 1) :: s) (znew h (as.getD 0 0) x.toNatClampNeg))
  | .anewarray _ => zpI stk fun x s => zck (¬ x < 0 ∧ x.toNatClampNeg ≤ 100000) (rec (pc + 3) loc (zR (zn h + 1) :: s) (znew h 5 x.toNatClampNeg))
  | .arraylength => zpA stk fun v s => match v with
      | .inr (.inr (.inl a)) => zck ((zkd h a).1 ≠ 0 ∧ (zkd h a).1 < 6) (rec (pc + 1) loc (zI (Int32.ofNat (zkd h a).2) :: s) h)
      | .inr (.inr (.inr k)) => zck (k = 0) (rec (pc + 1) loc (zI (Int32.ofNat (zln h)) :: s) h)
      | _ => none
  | .iaload => zpI stk fun j s => zpA s fun v s => match v with
      | .inr (.inr (.inl a)) => zck ((zkd h a).1 = 2 ∧ ¬ (j < 0 ∨ (zkd h a).2 ≤ j.toNatClampNeg)) (rec (pc + 1) loc (zI (ziv h a j.toNatClampNeg) :: s) h)
      | .inr (.inr (.inr k)) => zck (k = 0 ∧ ¬ (j < 0 ∨ zln h ≤ j.toNatClampNeg)) (rec (pc + 1) loc (zI (zxs h j.toNatClampNeg) :: s) h)
      | _ => none
  | .iastore => zpI stk fun x s => zpI s fun j s => zpR s fun a s => zck ((zkd h a).1 = 2 ∧ ¬ (j < 0 ∨ (zkd h a).2 ≤ j.toNatClampNeg)) (rec (pc + 1) loc s (zsI h a j.toNatClampNeg x))
  | .baload => zpI stk fun j s => zpR s fun a s => zck (((zkd h a).1 = 1 ∨ (zkd h a).1 = 3) ∧ ¬ (j < 0 ∨ (zkd h a).2 ≤ j.toNatClampNeg)) (rec (pc + 1) loc (zI (ziv h a j.toNatClampNeg) :: s) h)
  | .bastore => zpI stk fun x s => zpI s fun j s => zpR s fun a s => zck (((zkd h a).1 = 1 ∨ ((zkd h a).1 = 3 ∧ (x = 0 ∨ x = 1))) ∧ ¬ (j < 0 ∨ (zkd h a).2 ≤ j.toNatClampNeg)) (rec (pc + 1) loc s (zsI h a j.toNatClampNeg x.toInt8.toInt32))
  | .laload => zpI stk fun j s => zpR s fun a s => zck ((zkd h a).1 = 4 ∧ ¬ (j < 0 ∨ (zkd h a).2 ≤ j.toNatClampNeg)) (rec (pc + 1) loc (zL (zlv h a j.toNatClampNeg) :: s) h)
  | .lastore => zpL stk fun x s => zpI s fun j s => zpR s fun a s => zck ((zkd h a).1 = 4 ∧ ¬ (j < 0 ∨ (zkd h a).2 ≤ j.toNatClampNeg)) (rec (pc + 1) loc s (zsL h a j.toNatClampNeg x))
  | .aaload => zpI stk fun j s => zpR s fun a s => zck ((zkd h a).1 = 5 ∧ ¬ (j < 0 ∨ (zkd h a).2 ≤ j.toNatClampNeg)) (rec (pc + 1) loc (zR (zrv h a j.toNatClampNeg) :: s) h)
  | .aastore => zpR stk fun r s => zpI s fun j s => zpR s fun a s => zck ((zkd h a).1 = 5 ∧ zkd h r = (11, 7) ∧ ¬ (j < 0 ∨ (zkd h a).2 ≤ j.toNatClampNeg)) (rec (pc + 1) loc s (zsR h a j.toNatClampNeg r))
  | .invokespecial _ => if as.getD 0 0 = 1 then zpR stk fun a s => zck (0 < a ∧ zcat s ≤ 8) (rec (pc + 3) loc s h) else if as.getD 0 0 = 9 then none else zrcv h (as.getD 7 0) (as.getD 8 0) (stk.drop (as.getD 2 0)) (zcall cal rec hs pc (as.getD 1 0) loc (stk.take (as.getD 2 0 + 1)).reverse (stk.drop (as.getD 2 0 + 1)) h)
  | .invokevirtual _ => if as.getD 0 0 = 4 then zpA stk fun v s => match v with
        | .inr (.inr (.inr k)) => zck (0 < k ∧ k ≤ ztx.length ∧ zcat s ≤ 8) (rec (pc + 3) loc (zI (Int32.ofNat (ztx.getD (k - 1) []).length) :: s) h)
        | _ => none
      else if as.getD 0 0 = 5 then zpI stk fun j s => zpA s fun v s => match v with
        | .inr (.inr (.inr k)) => zck (0 < k ∧ k ≤ ztx.length ∧ zcat s ≤ 8 ∧ ¬ (j < 0 ∨ (ztx.getD (k - 1) []).length ≤ j.toNatClampNeg)) (rec (pc + 3) loc (zI (Int32.ofNat ((ztx.getD (k - 1) []).getD j.toNatClampNeg 0)) :: s) h)
        | _ => none
      else zrcv h (as.getD 7 0) (as.getD 8 0) (stk.drop (as.getD 2 0)) (zcall cal rec hs pc (as.getD 1 0) loc (stk.take (as.getD 2 0 + 1)).reverse (stk.drop (as.getD 2 0 + 1)) h)
  | .invokestatic _ => if as.getD 0 0 = 2 then zpI stk fun y s => zpI s fun x s => zck (zcat s ≤ 8) (rec (pc + 3) loc (zI (if x < y then y else x) :: s) h)
      else if as.getD 0 0 = 3 then zpI stk fun y s => zpI s fun x s => zck (zcat s ≤ 8) (rec (pc + 3) loc (zI (if y < x then y else x) :: s) h)
      else if as.getD 0 0 = 6 then zpI stk fun n s => zpI s fun dp s => zpR s fun b s => zpI s fun sp s => zpR s fun a s => zck ((zkd h a).1 = 1 ∧ (zkd h b).1 = 1 ∧ ¬ sp < 0 ∧ ¬ dp < 0 ∧ ¬ n < 0 ∧ sp.toNatClampNeg + n.toNatClampNeg ≤ (zkd h a).2 ∧ dp.toNatClampNeg + n.toNatClampNeg ≤ (zkd h b).2 ∧ zcat s ≤ 8) (rec (pc + 3) loc s (zsA h b (va_cpy (ziv h a) (ziv h b) sp.toNatClampNeg dp.toNatClampNeg n.toNatClampNeg)))
      else zck (as.getD 2 0 ≤ stk.length) (zcall cal rec hs pc (as.getD 1 0) loc (stk.take (as.getD 2 0)).reverse (stk.drop (as.getD 2 0)) h)
  | .ireturn => match stk with
      | [.inl x] => zck (as.getD 0 0 = 1 → x = 0 ∨ x = 1) (some (.inl (some (zI x)), h))
      | _ => none
  | .lreturn => match stk with
      | [.inr (.inl x)] => some (.inl (some (zL x)), h)
      | _ => none
  | .areturn => match stk with
      | [.inr (.inr (.inl a))] => some (.inl (some (zR a)), h)
      | _ => none
  | .return_ => match stk with
      | [] => some (.inl none, h)
      | _ => none
  | _ => none
