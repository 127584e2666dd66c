set_option maxRecDepth 16384
/-! A SECOND MACHINE, over integers: the same rows without any check of kinds and of places; what it answers, the first one answers, where both do -/
abbrev wV : Type := Int ⊕ (Int64 ⊕ (Nat ⊕ Nat))
abbrev wI (x : Int) : wV := .inl x
abbrev wL (x : Int64) : wV := .inr (.inl x)
abbrev wR (n : Nat) : wV := .inr (.inr (.inl n))
abbrev wX (n : Nat) : wV := .inr (.inr (.inr n))
abbrev wSt : Type := Nat → Nat → Int
abbrev wH : Type := zSh × wSt
abbrev wO : Type := (Option wV ⊕ Nat) × wH
abbrev wF : Type := Nat → List (Option wV) → List wV → wH → Option wO
abbrev wC : Type := Nat → List wV → wH → Option wO
def uI (V : wSt) (a k : Nat) (x : Int) : wSt := fun b j => if b = a ∧ j = k then x else V b j
def uA (V : wSt) (a : Nat) (f : Nat → Int) : wSt := fun b j => if b = a then f j else V b j
def wr (x : Int) : Int := (oI x).toInt
def wand (x y : Int) : Int := (oI x &&& oI y).toInt
def wor (x y : Int) : Int := (oI x ||| oI y).toInt
def wshl (x y : Int) : Int := (oI x <<< (oI y &&& 31)).toInt
def wshr (x y : Int) : Int := (oI x >>> (oI y &&& 31)).toInt
def wush (x y : Int) : Int := ((oI x).toUInt32 >>> ((oI y).toUInt32 &&& Int32.toUInt32 31)).toInt32.toInt
def wi8 (x : Int) : Int := (oI x).toInt8.toInt32.toInt
def wcmp (x y : Int64) : Int := (lg_cmp x y).toInt
def wck (c : Prop) [Decidable c] (k : Option wO) : Option wO := if c then k else none
def wli (n : Int) (k : Int → Option wO) : Option wO := bif (decide (-128 ≤ n) && decide (n ≤ 127)) then k n else none
def wls (n : Int) (k : Int → Option wO) : Option wO := bif (decide (-32768 ≤ n) && decide (n ≤ 32767)) then k n else none
def wlw (n : Int) (k : Int → Option wO) : Option wO := bif (decide (-2147483648 ≤ n) && decide (n ≤ 2147483647)) then k n else none
def wpI (stk : List wV) (k : Int → List wV → Option wO) : Option wO := match stk with
  | .inl x :: s => k x s
  | _ => none
def wpL (stk : List wV) (k : Int64 → List wV → Option wO) : Option wO := match stk with
  | .inr (.inl x) :: s => k x s
  | _ => none
def wpR (stk : List wV) (k : Nat → List wV → Option wO) : Option wO := match stk with
  | .inr (.inr (.inl x)) :: s => k x s
  | _ => none
def wpX (stk : List wV) (k : Nat → List wV → Option wO) : Option wO := match stk with
  | .inr (.inr (.inr x)) :: s => k x s
  | _ => none
def wpA (stk : List wV) (k : wV → List wV → Option wO) : Option wO := match stk with
  | v :: s => k v s
  | _ => none
def wlo (loc : List (Option wV)) (i : Nat) (k : wV → Option wO) : Option wO := match loc.getD i none with
  | some v => k v
  | none => none
def wlI (loc : List (Option wV)) (i : Nat) (k : Int → Option wO) : Option wO := match loc.getD i none with
  | some (.inl x) => k x
  | _ => none
def wput (v : Option wV) (s : List wV) : List wV := match v with
  | none => s
  | some x => x :: s
def warg : List wV → List (Option wV)
  | [] => []
  | .inr (.inl x) :: s => some (.inr (.inl x)) :: none :: warg s
  | v :: s => some v :: warg s
def wloc (n : Nat) (args : List wV) : List (Option wV) := warg args ++ List.replicate (n - (warg args).length) none
def wcx (o : Option wO) (f : Option wV → wH → Option wO) (g : Nat → wH → Option wO) : Option wO := match o with
  | none => none
  | some (.inl v, h') => f v h'
  | some (.inr E, h') => g E h'
def wth (E : Nat) (h' : wH) : Option wO := some (.inr E, h')
def wcall (cal : wC) (rec : wF) (hs : List (Nat × Nat × Nat × Nat)) (pc k : Nat) (loc : List (Option wV)) (args rest : List wV) (h : wH) : Option wO :=
  wcx (cal k args h) (fun v h' => rec (pc + 3) loc (wput v rest) h') (fun E h' => match hs with
      | [] => wth E h'
      | _ => none)
def wins (cal : wC) (rec : wF) (hs : List (Nat × Nat × Nat × Nat)) (pc : Nat) (i : Instr) (as : List Nat) (loc : List (Option wV)) (stk : List wV) (h : wH) : Option wO :=
  match i with
  | .iconst n => wli n fun n => rec (pc + 1) loc (wI n :: stk) h
  | .bipush n => wli n fun n => rec (pc + 2) loc (wI n :: stk) h
  | .sipush n => wls n fun n => rec (pc + 3) loc (wI n :: stk) h
  | .lconst n => rec (pc + 1) loc (wL (Int64.ofNat (n : Nat)) :: stk) h
  | .ldc _ => if as.getD 0 0 = 0 then rec (pc + 2) loc (wX (as.getD 1 0 + 1) :: stk) h else wlw (as.getD 1 0 : Nat) fun n => rec (pc + 2) loc (wI n :: stk) h
  | .ldc2_w _ => rec (pc + 3) loc (wL (Int64.ofNat (as.getD 0 0)) :: stk) h
  | .iload_n n => wlo loc (n : Nat) fun x => rec (pc + 1) loc (x :: stk) h
  | .iload n => wlo loc n fun x => rec (pc + 2) loc (x :: stk) h
  | .lload_n n => wlo loc (n : Nat) fun x => rec (pc + 1) loc (x :: stk) h
  | .aload_n n => wlo loc (n : Nat) fun v => rec (pc + 1) loc (v :: stk) h
  | .aload n => wlo loc n fun v => rec (pc + 2) loc (v :: stk) h
  | .istore_n n => wpA stk fun x s => rec (pc + 1) (loc.set (n : Nat) (some x)) s h
  | .istore n => wpA stk fun x s => rec (pc + 2) (loc.set n (some x)) s h
  | .lstore_n n => wpA stk fun x s => rec (pc + 1) ((loc.set (n : Nat) (some x)).set ((n : Nat) + 1) none) s h
  | .astore_n n => wpA stk fun v s => rec (pc + 1) (loc.set (n : Nat) (some v)) s h
  | .astore n => wpA stk fun v s => rec (pc + 2) (loc.set n (some v)) s h
  | .iinc n d => wlI loc n fun x => rec (pc + 3) (loc.set n (some (wI (wr (x + d))))) stk h
  | .iadd => wpI stk fun y s => wpI s fun x s => rec (pc + 1) loc (wI (wr (x + y)) :: s) h
  | .isub => wpI stk fun y s => wpI s fun x s => rec (pc + 1) loc (wI (wr (x - y)) :: s) h
  | .imul => wpI stk fun y s => wpI s fun x s => rec (pc + 1) loc (wI (wr (x * y)) :: s) h
  | .idiv => wpI stk fun y s => wpI s fun x s => wck (0 ≤ x ∧ 0 < y) (rec (pc + 1) loc (wI (x / y) :: s) h)
  | .irem => wpI stk fun y s => wpI s fun x s => wck (0 ≤ x ∧ 0 < y) (rec (pc + 1) loc (wI (x % y) :: s) h)
  | .iand => wpI stk fun y s => wpI s fun x s => rec (pc + 1) loc (wI (wand x y) :: s) h
  | .ior => wpI stk fun y s => wpI s fun x s => rec (pc + 1) loc (wI (wor x y) :: s) h
  | .ishl => wpI stk fun y s => wpI s fun x s => rec (pc + 1) loc (wI (wshl x y) :: s) h
  | .ishr => wpI stk fun y s => wpI s fun x s => rec (pc + 1) loc (wI (wshr x y) :: s) h
  | .iushr => wpI stk fun y s => wpI s fun x s => rec (pc + 1) loc (wI (wush x y) :: s) h
  | .land => wpL stk fun y s => wpL s fun x s => rec (pc + 1) loc (wL (x &&& y) :: s) h
  | .lor => wpL stk fun y s => wpL s fun x s => rec (pc + 1) loc (wL (x ||| y) :: s) h
  | .lshl => wpI stk fun y s => wpL s fun x s => rec (pc + 1) loc (wL (x <<< ((oI y).toInt64 &&& 63)) :: s) h
  | .lshr => wpI stk fun y s => wpL s fun x s => rec (pc + 1) loc (wL (x >>> ((oI y).toInt64 &&& 63)) :: s) h
  | .lushr => wpI stk fun y s => wpL s fun x s => rec (pc + 1) loc (wL (x.toUInt64 >>> ((oI y).toInt64.toUInt64 &&& Int64.toUInt64 63)).toInt64 :: s) h
  | .lcmp => wpL stk fun y s => wpL s fun x s => rec (pc + 1) loc (wI (wcmp x y) :: s) h
  | .i2l => wpI stk fun x s => rec (pc + 1) loc (wL (oI x).toInt64 :: s) h
  | .l2i => wpL stk fun x s => rec (pc + 1) loc (wI x.toInt32.toInt :: s) h
  | .i2b => wpI stk fun x s => rec (pc + 1) loc (wI (wi8 x) :: s) h
  | .dup => wpA stk fun v s => rec (pc + 1) loc (v :: v :: s) h
  | .dup2 => wpA stk fun v s => wpA s fun w s => rec (pc + 1) loc (v :: w :: v :: w :: s) h
  | .pop => wpA stk fun _ s => rec (pc + 1) loc s h
  | .goto _ => rec (as.getD 0 0) loc stk h
  | .ifCond .eq _ => wpI stk fun x s => if x = 0 then rec (as.getD 0 0) loc s h else rec (pc + 3) loc s h
  | .ifCond .ne _ => wpI stk fun x s => if x = 0 then rec (pc + 3) loc s h else rec (as.getD 0 0) loc s h
  | .ifCond .lt _ => wpI stk fun x s => if x < 0 then rec (as.getD 0 0) loc s h else rec (pc + 3) loc s h
  | .ifCond .le _ => wpI stk fun x s => if x ≤ 0 then rec (as.getD 0 0) loc s h else rec (pc + 3) loc s h
  | .ifCond .gt _ => wpI stk fun x s => if 0 < x then rec (as.getD 0 0) loc s h else rec (pc + 3) loc s h
  | .ifCond .ge _ => wpI stk fun x s => if 0 ≤ x then rec (as.getD 0 0) loc s h else rec (pc + 3) loc s h
  | .if_icmp .eq _ => wpI stk fun y s => wpI s fun x s => if x = y then rec (as.getD 0 0) loc s h else rec (pc + 3) loc s h
  | .if_icmp .ne _ => wpI stk fun y s => wpI s fun x s => if x = y then rec (pc + 3) loc s h else rec (as.getD 0 0) loc s h
  | .if_icmp .lt _ => wpI stk fun y s => wpI s fun x s => if x < y then rec (as.getD 0 0) loc s h else rec (pc + 3) loc s h
  | .if_icmp .le _ => wpI stk fun y s => wpI s fun x s => if x ≤ y then rec (as.getD 0 0) loc s h else rec (pc + 3) loc s h
  | .if_icmp .gt _ => wpI stk fun y s => wpI s fun x s => if y < x then rec (as.getD 0 0) loc s h else rec (pc + 3) loc s h
  | .if_icmp .ge _ => wpI stk fun y s => wpI s fun x s => if y ≤ x then rec (as.getD 0 0) loc s h else rec (pc + 3) loc s h
  | .ifnonnull _ => wpR stk fun a s => if a = 0 then rec (pc + 3) loc s h else rec (as.getD 0 0) loc s h
  | .tableswitch _ lo hi _ => wpI stk fun x s => if x < lo ∨ hi < x then rec (as.getD 0 0) loc s h else rec (as.getD ((x - lo).toNat + 1) 0) loc s h
  | .getfield _ => wpR stk fun a s => if as.getD 3 0 = 2 then rec (pc + 3) loc (wR (sr h.1 a (as.getD 2 0)) :: s) h else rec (pc + 3) loc (wI (h.2 a (as.getD 2 0)) :: s) h
  | .putfield _ => if as.getD 3 0 = 2 then none else wpI stk fun x s => wpR s fun a s => rec (pc + 3) loc s (h.1, uI h.2 a (as.getD 2 0) x)
  | .new _ => if as.getD 0 0 = 1 then some (.inr (as.getD 1 0), h) else none
  | .arraylength => wpR stk fun a s => rec (pc + 1) loc (wI (wr ((sk h.1 a).2 : Nat)) :: s) h
  | .iaload => wpI stk fun j s => wpR s fun a s => rec (pc + 1) loc (wI (h.2 a j.toNat) :: s) h
  | .iastore => wpI stk fun x s => wpI s fun j s => wpR s fun a s => rec (pc + 1) loc s (h.1, uI h.2 a j.toNat x)
  | .baload => wpI stk fun j s => wpR s fun a s => rec (pc + 1) loc (wI (h.2 a j.toNat) :: s) h
  | .bastore => wpI stk fun x s => wpI s fun j s => wpR s fun a s => rec (pc + 1) loc s (h.1, uI h.2 a j.toNat (wi8 x))
  | .aaload => wpI stk fun j s => wpR s fun a s => rec (pc + 1) loc (wR (sr h.1 a j.toNat) :: s) h
  | .invokespecial _ => if as.getD 0 0 = 1 then none else if as.getD 0 0 = 9 then none else wcall cal rec hs pc (as.getD 1 0) loc (stk.take (as.getD 2 0 + 1)).reverse (stk.drop (as.getD 2 0 + 1)) h
  | .invokevirtual _ => if as.getD 0 0 = 4 then wpX stk fun k s => rec (pc + 3) loc (wI ((ztx.getD (k - 1) []).length : Nat) :: s) h
      else if as.getD 0 0 = 5 then wpI stk fun j s => wpX s fun k s => rec (pc + 3) loc (wI ((ztx.getD (k - 1) []).getD j.toNat 0 : Nat) :: s) h
      else wcall cal rec hs pc (as.getD 1 0) loc (stk.take (as.getD 2 0 + 1)).reverse (stk.drop (as.getD 2 0 + 1)) h
  | .invokestatic _ => if as.getD 0 0 = 2 then wpI stk fun y s => wpI s fun x s => rec (pc + 3) loc (wI (if x < y then y else x) :: s) h
      else if as.getD 0 0 = 3 then wpI stk fun y s => wpI s fun x s => rec (pc + 3) loc (wI (if y < x then y else x) :: s) h
      else if as.getD 0 0 = 6 then wpI stk fun n s => wpI s fun dp s => wpR s fun b s => wpI s fun sp s => wpR s fun a s => rec (pc + 3) loc s (h.1, uA h.2 b (va_cpy (h.2 a) (h.2 b) sp.toNat dp.toNat n.toNat))
      else wcall cal rec hs pc (as.getD 1 0) loc (stk.take (as.getD 2 0)).reverse (stk.drop (as.getD 2 0)) h
  | .ireturn => match stk with
      | [v] => some (.inl (some v), h)
      | _ => none
  | .lreturn => match stk with
      | [v] => some (.inl (some v), h)
      | _ => none
  | .areturn => match stk with
      | [v] => some (.inl (some v), h)
      | _ => none
  | .return_ => match stk with
      | [] => some (.inl none, h)
      | _ => none
  | _ => none
def wst (P : zPg) (cal : wC) (rec : wF) (M pc : Nat) (loc : List (Option wV)) (stk : List wV) (h : wH) : Option wO :=
  match (P M).2.2.getD pc none with
  | none => none
  | some q => wins cal rec (P M).2.1 pc q.1 q.2 loc stk h
def wex (P : zPg) : Nat → Nat → wF
  | 0 => fun _ _ _ _ _ => none
  | f + 1 => fun M pc loc stk h => wst P (fun k args h => wex P f k 0 (wloc (P k).1 args) [] h) (wex P f M) M pc loc stk h
/-! a family of meanings that grows, and its limit -/
def wGr (C : Nat → wC) (F : Nat → wF) (c : wC) (g : wF) : Prop :=
  ((∀ k a h r, c k a h = some r ↔ ∃ f, C f k a h = some r) ∧ (∀ k a h r f f', f ≤ f' → C f k a h = some r → C f' k a h = some r)) ∧
  ((∀ pc l s h r, g pc l s h = some r ↔ ∃ f, F f pc l s h = some r) ∧ (∀ pc l s h r f f', f ≤ f' → F f pc l s h = some r → F f' pc l s h = some r))
def wGd (C : Nat → wC) (F : Nat → wF) (c : wC) (g : wF) (T : wC → wF → Option wO) : Prop := (∀ r, T c g = some r ↔ ∃ f, T (C f) (F f) = some r) ∧ ∀ r f f', f ≤ f' → T (C f) (F f) = some r → T (C f') (F f') = some r
section WGD
variable {C : Nat → wC} {F : Nat → wF} {c : wC} {g : wF}
theorem wGd_k (r : Option wO) : wGd C F c g (fun _ _ => r) := ⟨fun _ => ⟨fun h => ⟨0, h⟩, fun ⟨_, h⟩ => h⟩, fun _ _ _ _ h => h⟩
theorem wGd_r (G : wGr C F c g) (pc : Nat) (l : List (Option wV)) (s : List wV) (h : wH) : wGd C F c g (fun _ z => z pc l s h) := ⟨fun r => G.2.1 pc l s h r, fun r => G.2.2 pc l s h r⟩
theorem wGd_ck {p : Prop} [Decidable p] {T : wC → wF → Option wO} (h : wGd C F c g T) : wGd C F c g (fun y z => wck p (T y z)) := by
  by_cases q : p
  · simp only [wck, if_pos q]; exact h
  · simp only [wck, if_neg q]; exact wGd_k none
theorem wGd_if {p : Prop} [Decidable p] {T U : wC → wF → Option wO} (h : wGd C F c g T) (h2 : wGd C F c g U) : wGd C F c g (fun y z => if p then T y z else U y z) := by
  by_cases q : p
  · simp only [if_pos q]; exact h
  · simp only [if_neg q]; exact h2
theorem wGd_bf {p : Bool} {T : wC → wF → Option wO} (h : wGd C F c g T) : wGd C F c g (fun y z => bif p then T y z else none) := by
  cases p
  · exact wGd_k none
  · exact h
theorem wGd_pI {s : List wV} {T : wC → wF → Int → List wV → Option wO} (h : ∀ x s, wGd C F c g (fun y z => T y z x s)) : wGd C F c g (fun y z => wpI s (T y z)) := by
  rcases s with _ | ⟨v, s⟩
  · exact wGd_k none
  · rcases v with x | x | x | x
    · exact h x s
    all_goals exact wGd_k none
theorem wGd_pL {s : List wV} {T : wC → wF → Int64 → List wV → Option wO} (h : ∀ x s, wGd C F c g (fun y z => T y z x s)) : wGd C F c g (fun y z => wpL s (T y z)) := by
  rcases s with _ | ⟨v, s⟩
  · exact wGd_k none
  · rcases v with x | x | x | x
    · exact wGd_k none
    · exact h x s
    all_goals exact wGd_k none
theorem wGd_pR {s : List wV} {T : wC → wF → Nat → List wV → Option wO} (h : ∀ x s, wGd C F c g (fun y z => T y z x s)) : wGd C F c g (fun y z => wpR s (T y z)) := by
  rcases s with _ | ⟨v, s⟩
  · exact wGd_k none
  · rcases v with x | x | x | x
    · exact wGd_k none
    · exact wGd_k none
    · exact h x s
    · exact wGd_k none
theorem wGd_pX {s : List wV} {T : wC → wF → Nat → List wV → Option wO} (h : ∀ x s, wGd C F c g (fun y z => T y z x s)) : wGd C F c g (fun y z => wpX s (T y z)) := by
  rcases s with _ | ⟨v, s⟩
  · exact wGd_k none
  · rcases v with x | x | x | x
    · exact wGd_k none
    · exact wGd_k none
    · exact wGd_k none
    · exact h x s
theorem wGd_pA {s : List wV} {T : wC → wF → wV → List wV → Option wO} (h : ∀ x s, wGd C F c g (fun y z => T y z x s)) : wGd C F c g (fun y z => wpA s (T y z)) := by
  rcases s with _ | ⟨v, s⟩
  · exact wGd_k none
  · exact h v s
theorem wGd_lo {l : List (Option wV)} {i : Nat} {T : wC → wF → wV → Option wO} (h : ∀ x, wGd C F c g (fun y z => T y z x)) : wGd C F c g (fun y z => wlo l i (T y z)) := by
  unfold wlo
  rcases l.getD i none with _ | v
  · exact wGd_k none
  · exact h v
theorem wGd_lI {l : List (Option wV)} {i : Nat} {T : wC → wF → Int → Option wO} (h : ∀ x, wGd C F c g (fun y z => T y z x)) : wGd C F c g (fun y z => wlI l i (T y z)) := by
  unfold wlI
  rcases l.getD i none with _ | ⟨x | x | x⟩
  · exact wGd_k none
  · exact h x
  all_goals exact wGd_k none
theorem wGd_call (G : wGr C F c g) (hs : List (Nat × Nat × Nat × Nat)) (pc k : Nat) (loc : List (Option wV)) (args rest : List wV) (h : wH) : wGd C F c g (fun y z => wcall y z hs pc k loc args rest h) := by
  unfold wcall wcx
  refine ⟨fun r => ⟨fun e => ?_, fun e => ?_⟩, fun r f f' hf e => ?_⟩
  · rcases hc : c k args h with _ | ⟨v | E, h'⟩ <;> simp only [hc] at e
    · cases e
    · obtain ⟨f, hf⟩ := (G.1.1 _ _ _ _).mp hc
      obtain ⟨f2, hf2⟩ := (G.2.1 _ _ _ _ _).mp e
      exact ⟨max f f2, by simp only [G.1.2 _ _ _ _ _ _ (Nat.le_max_left f f2) hf]; exact G.2.2 _ _ _ _ _ _ _ (Nat.le_max_right f f2) hf2⟩
    · obtain ⟨f, hf⟩ := (G.1.1 _ _ _ _).mp hc
      exact ⟨f, by simp only [hf]; exact e⟩
  · obtain ⟨f, e⟩ := e
    rcases hc : C f k args h with _ | ⟨v | E, h'⟩ <;> simp only [hc] at e
    · cases e
    · simp only [(G.1.1 _ _ _ _).mpr ⟨f, hc⟩]
      exact (G.2.1 _ _ _ _ _).mpr ⟨f, e⟩
    · simp only [(G.1.1 _ _ _ _).mpr ⟨f, hc⟩]; exact e
  · rcases hc : C f k args h with _ | ⟨v | E, h'⟩ <;> simp only [hc] at e
    · cases e
    · simp only [G.1.2 _ _ _ _ _ _ hf hc]
      exact G.2.2 _ _ _ _ _ _ _ hf e
    · simp only [G.1.2 _ _ _ _ _ _ hf hc]; exact e
theorem wGd_ins (G : wGr C F c g) (hs : List (Nat × Nat × Nat × Nat)) (pc : Nat) (i : Instr) (as : List Nat) (loc : List (Option wV)) (stk : List wV) (h : wH) : wGd C F c g (fun y z => wins y z hs pc i as loc stk h) := by
  have hr := wGd_r G
  have hc := wGd_call G
  cases i with
  | ifCond cc o => cases cc <;> exact wGd_pI fun x s => wGd_if (hr _ _ _ _) (hr _ _ _ _)
  | if_icmp cc o => cases cc <;> exact wGd_pI fun x s => wGd_pI fun y s => wGd_if (hr _ _ _ _) (hr _ _ _ _)
  | iconst n => exact wGd_bf (hr _ _ _ _)
  | bipush n => exact wGd_bf (hr _ _ _ _)
  | sipush n => exact wGd_bf (hr _ _ _ _)
  | ldc n => exact wGd_if (hr _ _ _ _) (wGd_bf (hr _ _ _ _))
  | invokevirtual n =>
    exact wGd_if (wGd_pX fun v s => hr _ _ _ _) (wGd_if (wGd_pI fun j s => wGd_pX fun v s => hr _ _ _ _) (hc _ _ _ _ _ _ _))
  | invokespecial n => exact wGd_if (wGd_k none) (wGd_if (wGd_k none) (hc _ _ _ _ _ _ _))
  | invokestatic n =>
    exact wGd_if (wGd_pI fun y s => wGd_pI fun x s => hr _ _ _ _) (wGd_if (wGd_pI fun y s => wGd_pI fun x s => hr _ _ _ _)
      (wGd_if (wGd_pI fun n s => wGd_pI fun dp s => wGd_pR fun b s => wGd_pI fun sp s => wGd_pR fun a s => hr _ _ _ _) (hc _ _ _ _ _ _ _)))
  | new n => exact wGd_if (wGd_k _) (wGd_k _)
  | getfield n => exact wGd_pR fun a s => wGd_if (hr _ _ _ _) (hr _ _ _ _)
  | putfield n => exact wGd_if (wGd_k none) (wGd_pI fun r s => wGd_pR fun a s => hr _ _ _ _)
  | ifnonnull n => exact wGd_pR fun a s => wGd_if (hr _ _ _ _) (hr _ _ _ _)
  | tableswitch d lo hi os => exact wGd_pI fun a s => wGd_if (hr _ _ _ _) (hr _ _ _ _)
  | idiv => exact wGd_pI fun _ _ => wGd_pI fun _ _ => wGd_ck (hr _ _ _ _)
  | irem => exact wGd_pI fun _ _ => wGd_pI fun _ _ => wGd_ck (hr _ _ _ _)
  | _ =>
    first
    | exact wGd_k _
    | exact hr _ _ _ _
    | exact wGd_lo fun _ => hr _ _ _ _
    | exact wGd_lI fun _ => hr _ _ _ _
    | exact wGd_pI fun _ _ => hr _ _ _ _
    | exact wGd_pL fun _ _ => hr _ _ _ _
    | exact wGd_pR fun _ _ => hr _ _ _ _
    | exact wGd_pA fun _ _ => hr _ _ _ _
    | exact wGd_pA fun _ _ => wGd_pA fun _ _ => hr _ _ _ _
    | exact wGd_pI fun _ _ => wGd_pI fun _ _ => hr _ _ _ _
    | exact wGd_pL fun _ _ => wGd_pL fun _ _ => hr _ _ _ _
    | exact wGd_pI fun _ _ => wGd_pL fun _ _ => hr _ _ _ _
    | exact wGd_pI fun _ _ => wGd_pR fun _ _ => hr _ _ _ _
    | exact wGd_pI fun _ _ => wGd_pI fun _ _ => wGd_pR fun _ _ => hr _ _ _ _
end WGD
section WEV
variable (P : zPg)
theorem wex_up1 : ∀ (f M pc : Nat) (l : List (Option wV)) (s : List wV) (h : wH) (r : wO), wex P f M pc l s h = some r → wex P (f + 1) M pc l s h = some r := by
  intro f
  induction f with
  | zero => intro M pc l s h r e; cases e
  | succ f ih =>
    intro M pc l s h r e
    have G : wGr (fun n k args h => if n = 0 then wex P f k 0 (wloc (P k).1 args) [] h else wex P (f + 1) k 0 (wloc (P k).1 args) [] h) (fun n => if n = 0 then wex P f M else wex P (f + 1) M) (fun k args h => wex P (f + 1) k 0 (wloc (P k).1 args) [] h) (wex P (f + 1) M) := by
      refine ⟨⟨fun k a h r => ⟨fun q => ⟨1, q⟩, fun ⟨n, q⟩ => ?_⟩, fun k a h r n n' hn q => ?_⟩, ⟨fun pc l s h r => ⟨fun q => ⟨1, q⟩, fun ⟨n, q⟩ => ?_⟩, fun pc l s h r n n' hn q => ?_⟩⟩
      · by_cases n0 : n = 0
        · simp only [if_pos n0] at q; exact ih _ _ _ _ _ _ q
        · simp only [if_neg n0] at q; exact q
      · by_cases n0 : n = 0
        · simp only [if_pos n0] at q
          by_cases n1 : n' = 0
          · simp only [if_pos n1]; exact q
          · simp only [if_neg n1]; exact ih _ _ _ _ _ _ q
        · simp only [if_neg n0] at q
          simp only [if_neg (show ¬ n' = 0 by omega)]; exact q
      · by_cases n0 : n = 0
        · simp only [if_pos n0] at q; exact ih _ _ _ _ _ _ q
        · simp only [if_neg n0] at q; exact q
      · by_cases n0 : n = 0
        · simp only [if_pos n0] at q
          by_cases n1 : n' = 0
          · simp only [if_pos n1]; exact q
          · simp only [if_neg n1]; exact ih _ _ _ _ _ _ q
        · simp only [if_neg n0] at q
          simp only [if_neg (show ¬ n' = 0 by omega)]; exact q
    show wst P _ _ M pc l s h = some r
    have e : wst P (fun k args h => wex P f k 0 (wloc (P k).1 args) [] h) (wex P f M) M pc l s h = some r := e
    unfold wst at e ⊢
    cases hq : (P M).2.2.getD pc none with
    | none => rw [hq] at e; cases e
    | some q =>
      rw [hq] at e
      exact ((wGd_ins G (P M).2.1 pc q.1 q.2 l s h).1 r).mpr ⟨0, e⟩
theorem wex_up (f f' M pc : Nat) (l : List (Option wV)) (s : List wV) (h : wH) (r : wO) (hf : f ≤ f') (e : wex P f M pc l s h = some r) : wex P f' M pc l s h = some r := by
  obtain ⟨d, rfl⟩ := Nat.le.dest hf
  clear hf
  induction d with
  | zero => exact e
  | succ d ih => exact wex_up1 P _ _ _ _ _ _ _ ih
noncomputable def wev (M pc : Nat) (l : List (Option wV)) (s : List wV) (h : wH) : Option wO :=
  @dite (Option wO) (∃ r : wO, ∃ f, wex P f M pc l s h = some r) (Classical.propDecidable _) (fun q => some (Classical.choose q)) (fun _ => none)
theorem wev_iff {M pc : Nat} {l : List (Option wV)} {s : List wV} {h : wH} {r : wO} : wev P M pc l s h = some r ↔ ∃ f, wex P f M pc l s h = some r := by
  unfold wev
  by_cases q : ∃ r : wO, ∃ f, wex P f M pc l s h = some r
  · rw [dif_pos q]
    obtain ⟨f, hf⟩ := Classical.choose_spec q
    constructor
    · intro e; cases e; exact ⟨f, hf⟩
    · rintro ⟨f2, hf2⟩
      have a := wex_up P _ _ _ _ _ _ _ _ (Nat.le_max_left f f2) hf
      have b := wex_up P _ _ _ _ _ _ _ _ (Nat.le_max_right f f2) hf2
      exact a.symm.trans b
  · rw [dif_neg q]
    exact ⟨fun e => (by cases e), fun e => absurd ⟨r, e⟩ q⟩
noncomputable def wcl : wC := fun k args h => wev P k 0 (wloc (P k).1 args) [] h
theorem wgr (M : Nat) : wGr (fun f k args h => wex P f k 0 (wloc (P k).1 args) [] h) (fun f => wex P f M) (wcl P) (wev P M) :=
  ⟨⟨fun k a h r => wev_iff P, fun k a h r f f' hf q => wex_up P _ _ _ _ _ _ _ _ hf q⟩, ⟨fun _ _ _ _ _ => wev_iff P, fun _ _ _ _ _ _ _ hf q => wex_up P _ _ _ _ _ _ _ _ hf q⟩⟩
theorem wev_eq (M pc : Nat) (l : List (Option wV)) (s : List wV) (h : wH) : wev P M pc l s h = wst P (wcl P) (wev P M) M pc l s h := by
  refine Option.ext fun r => (wev_iff P).trans ?_
  have key : wst P (wcl P) (wev P M) M pc l s h = some r ↔ ∃ f, wst P (fun k args h => wex P f k 0 (wloc (P k).1 args) [] h) (wex P f M) M pc l s h = some r := by
    unfold wst
    cases hq : (P M).2.2.getD pc none with
    | none =>
      constructor
      · intro e; cases e
      · rintro ⟨f, e⟩; cases e
    | some q => exact (wGd_ins (wgr P M) (P M).2.1 pc q.1 q.2 l s h).1 r
  rw [key]
  constructor
  · rintro ⟨f, e⟩
    cases f with
    | zero => cases e
    | succ f => exact ⟨f, e⟩
  · rintro ⟨f, e⟩
    exact ⟨f + 1, e⟩
noncomputable def wrq (S : List Nat) : Nat → Nat → wF
  | 0 => fun M => wev P M
  | n + 1 => fun M pc l s h => bif S.contains pc then wev P M pc l s h else wst P (wcl P) (wrq S n M) M pc l s h
theorem wrq_is (S : List Nat) (n M : Nat) : wrq P S n M = wev P M := by
  induction n with
  | zero => rfl
  | succ n ih =>
    funext pc l s h
    show (bif S.contains pc then wev P M pc l s h else wst P (wcl P) (wrq P S n M) M pc l s h) = _
    rw [ih, ← wev_eq]
    cases S.contains pc <;> rfl
theorem wrq_eq (S : List Nat) (n M pc : Nat) (l : List (Option wV)) (s : List wV) (h : wH) : wev P M pc l s h = wst P (wcl P) (wrq P S n M) M pc l s h := by
  rw [wrq_is, ← wev_eq]
end WEV
