set_option maxRecDepth 16384
/-! what the machine of integers answers, the first machine answers, where both answer -/
def ab (v : zV) : wV := match v with
  | .inl x => .inl x.toInt
  | .inr r => .inr r
def abL (l : List (Option zV)) : List (Option wV) := l.map (Option.map ab)
def abR (r : Option zV ⊕ Nat) : Option wV ⊕ Nat := match r with
  | .inl v => .inl (v.map ab)
  | .inr E => .inr E
def tgs (t : zSt) : wSt := fun a k => (t.1 a k).toInt
def abH (h : zH) : wH := (h.1, tgs h.2)
def zag (o : Option zO) (p : Option wO) : Prop := ∀ r h R, o = some (r, h) → p = some R → R = (abR r, abH h)
theorem zag_n (p : Option wO) : zag none p := fun r h R e => by cases e
theorem zag_m (o : Option zO) : zag o none := fun r h R _ e => by cases e
theorem zag_rt (r : Option zV ⊕ Nat) (h : zH) : zag (some (r, h)) (some (abR r, abH h)) := fun r' h' R e g => by cases e; cases g; rfl
theorem zag_ck {c : Prop} [Decidable c] {o : Option zO} {p : Option wO} (h : c → zag o p) : zag (zck c o) p := by
  unfold zck
  by_cases q : c
  · rw [if_pos q]; exact h q
  · rw [if_neg q]; exact zag_n _
theorem zag_wck {c : Prop} [Decidable c] {o : Option zO} {p : Option wO} (h : c → zag o p) : zag o (wck c p) := by
  unfold wck
  by_cases q : c
  · rw [if_pos q]; exact h q
  · rw [if_neg q]; exact zag_m _
theorem zag_bf {c : Bool} {o : Option zO} {p : Option wO} (h : c = true → zag o p) : zag o (bif c then p else none) := by
  cases c
  · exact zag_m _
  · exact h rfl
theorem zag_if {c c' : Prop} [Decidable c] [Decidable c'] {A B : Option zO} {A' B' : Option wO} (e : c ↔ c') (a : zag A A') (b : zag B B') : zag (if c then A else B) (if c' then A' else B') := by
  by_cases q : c
  · rw [if_pos q, if_pos (e.mp q)]; exact a
  · rw [if_neg q, if_neg (fun w => q (e.mpr w))]; exact b
theorem zag_ifn {c c' : Prop} [Decidable c] [Decidable c'] {A B : Option zO} {A' B' : Option wO} (e : c ↔ c') (a : zag A A') (b : zag B B') : zag (if ¬ c then A else B) (if c' then B' else A') := by
  by_cases q : c
  · rw [if_neg (fun w => w q), if_pos (e.mp q)]; exact b
  · rw [if_pos q, if_neg (fun w => q (e.mpr w))]; exact a
theorem zag_pI {s : List zV} {k : Int32 → List zV → Option zO} {k' : Int → List wV → Option wO} (h : ∀ x s, zag (k x s) (k' x.toInt (s.map ab))) : zag (zpI s k) (wpI (s.map ab) k') := by
  rcases s with _ | ⟨v, s⟩
  · exact zag_n _
  · rcases v with x | x | x | x
    · exact h x s
    all_goals exact zag_n _
theorem zag_pL {s : List zV} {k : Int64 → List zV → Option zO} {k' : Int64 → List wV → Option wO} (h : ∀ x s, zag (k x s) (k' x (s.map ab))) : zag (zpL s k) (wpL (s.map ab) k') := by
  rcases s with _ | ⟨v, s⟩
  · exact zag_n _
  · rcases v with x | x | x | x
    · exact zag_n _
    · exact h x s
    all_goals exact zag_n _
theorem zag_pR {s : List zV} {k : Nat → List zV → Option zO} {k' : Nat → List wV → Option wO} (h : ∀ x s, zag (k x s) (k' x (s.map ab))) : zag (zpR s k) (wpR (s.map ab) k') := by
  rcases s with _ | ⟨v, s⟩
  · exact zag_n _
  · rcases v with x | x | x | x
    · exact zag_n _
    · exact zag_n _
    · exact h x s
    · exact zag_n _
theorem zag_pAR {s : List zV} {k : zV → List zV → Option zO} {k' : Nat → List wV → Option wO} (h : ∀ x s, zag (k (zR x) s) (k' x (s.map ab))) : zag (zpA s k) (wpR (s.map ab) k') := by
  rcases s with _ | ⟨v, s⟩
  · exact zag_n _
  · rcases v with x | x | x | x
    · exact zag_n _
    · exact zag_n _
    · exact h x s
    · exact zag_m _
theorem zag_pAX {s : List zV} {k : zV → List zV → Option zO} {k' : Nat → List wV → Option wO} (h : ∀ x s, zag (k (zX x) s) (k' x (s.map ab))) : zag (zpA s k) (wpX (s.map ab) k') := by
  rcases s with _ | ⟨v, s⟩
  · exact zag_n _
  · rcases v with x | x | x | x
    · exact zag_n _
    · exact zag_n _
    · exact zag_m _
    · exact h x s
theorem zag_p1 {s : List zV} {k : zV → List zV → Option zO} {k' : wV → List wV → Option wO} (h : ∀ x s, zag (k x s) (k' (ab x) (s.map ab))) : zag (zp1 s k) (wpA (s.map ab) k') := by
  rcases s with _ | ⟨v, s⟩
  · exact zag_n _
  · rcases v with x | x | x | x
    · exact h (zI x) s
    · exact zag_n _
    · exact h (zR x) s
    · exact h (zX x) s
theorem zag_pA {s : List zV} {k : zV → List zV → Option zO} {k' : wV → List wV → Option wO} (h : ∀ x s, zag (k x s) (k' (ab x) (s.map ab))) : zag (zpA s k) (wpA (s.map ab) k') := by
  rcases s with _ | ⟨v, s⟩
  · exact zag_n _
  · rcases v with x | x | x | x
    · exact zag_n _
    · exact zag_n _
    · exact h (zR x) s
    · exact h (zX x) s
theorem zag_pIA {s : List zV} {k : Int32 → List zV → Option zO} {k' : wV → List wV → Option wO} (h : ∀ x s, zag (k x s) (k' (ab (zI x)) (s.map ab))) : zag (zpI s k) (wpA (s.map ab) k') := by
  rcases s with _ | ⟨v, s⟩
  · exact zag_n _
  · rcases v with x | x | x | x
    · exact h x s
    all_goals exact zag_n _
theorem zag_pLA {s : List zV} {k : Int64 → List zV → Option zO} {k' : wV → List wV → Option wO} (h : ∀ x s, zag (k x s) (k' (ab (zL x)) (s.map ab))) : zag (zpL s k) (wpA (s.map ab) k') := by
  rcases s with _ | ⟨v, s⟩
  · exact zag_n _
  · rcases v with x | x | x | x
    · exact zag_n _
    · exact h x s
    all_goals exact zag_n _
theorem abL_at (l : List (Option zV)) (i : Nat) : (abL l).getD i none = (l.getD i none).map ab := by
  unfold abL
  rw [List.getD_eq_getElem?_getD, List.getD_eq_getElem?_getD, List.getElem?_map]
  cases l[i]? <;> rfl
theorem abL_set (l : List (Option zV)) (i : Nat) (v : Option zV) : abL (l.set i v) = (abL l).set i (v.map ab) := List.map_set
theorem abL_sets (l : List (Option zV)) (i : Nat) (v : zV) : (abL l).set i (some (ab v)) = abL (l.set i (some v)) := (abL_set l i (some v)).symm
theorem zag_lI {l : List (Option zV)} {i : Nat} {k : Int32 → Option zO} {k' : wV → Option wO} (h : ∀ x, zag (k x) (k' (ab (zI x)))) : zag (zlI l i k) (wlo (abL l) i k') := by
  unfold zlI wlo; rw [abL_at]
  rcases l.getD i none with _ | ⟨x | x | x⟩
  · exact zag_n _
  · exact h x
  all_goals exact zag_n _
theorem zag_lII {l : List (Option zV)} {i : Nat} {k : Int32 → Option zO} {k' : Int → Option wO} (h : ∀ x, zag (k x) (k' x.toInt)) : zag (zlI l i k) (wlI (abL l) i k') := by
  unfold zlI wlI; rw [abL_at]
  rcases l.getD i none with _ | ⟨x | x | x⟩
  · exact zag_n _
  · exact h x
  all_goals exact zag_n _
theorem zag_lL {l : List (Option zV)} {i : Nat} {k : Int64 → Option zO} {k' : wV → Option wO} (h : ∀ x, zag (k x) (k' (ab (zL x)))) : zag (zlL l i k) (wlo (abL l) i k') := by
  unfold zlL wlo; rw [abL_at]
  rcases l.getD i none with _ | ⟨x | x | x⟩
  · exact zag_n _
  · exact zag_n _
  · exact h x
  · exact zag_n _
theorem zag_lA {l : List (Option zV)} {i : Nat} {k : zV → Option zO} {k' : wV → Option wO} (h : ∀ x, zag (k x) (k' (ab x))) : zag (zlA l i k) (wlo (abL l) i k') := by
  unfold zlA wlo; rw [abL_at]
  rcases l.getD i none with _ | ⟨x | x | x⟩
  · exact zag_n _
  · exact zag_n _
  · exact zag_n _
  · exact h (.inr (.inr x))
theorem zag_s1 {l : List (Option zV)} {i : Nat} {v : zV} {k : List (Option zV) → Option zO} {p : Option wO} (h : zag (k (l.set i (some v))) p) : zag (zs1 l i v k) p := by
  unfold zs1
  cases (decide (i < l.length) && !(zisL (l.getD (i - 1) none)))
  · exact zag_n _
  · exact h
theorem zag_s2 {l : List (Option zV)} {i : Nat} {v : zV} {k : List (Option zV) → Option zO} {p : Option wO} (h : zag (k ((l.set i (some v)).set (i + 1) none)) p) : zag (zs2 l i v k) p := by
  unfold zs2
  cases (decide (i + 1 < l.length) && !(zisL (l.getD (i - 1) none)))
  · exact zag_n _
  · exact h
theorem abH_I (h : zH) (a k : Nat) (x : Int32) : abH (zsI h a k x) = ((abH h).1, uI (abH h).2 a k x.toInt) := by
  refine Prod.ext rfl ?_
  funext b j
  show (zup (ziv h) a (zup (ziv h a) k x) b j).toInt = if b = a ∧ j = k then x.toInt else (ziv h b j).toInt
  unfold zup
  by_cases hb : b = a
  · subst hb
    by_cases hj : j = k
    · rw [if_pos rfl, if_pos hj, if_pos ⟨rfl, hj⟩]
    · rw [if_pos rfl, if_neg hj, if_neg (fun c => hj c.2)]
  · rw [if_neg hb, if_neg (fun c => hb c.1)]
theorem abH_A (h : zH) (a : Nat) (f : Nat → Int32) : abH (zsA h a f) = ((abH h).1, uA (abH h).2 a (fun k => (f k).toInt)) := by
  refine Prod.ext rfl ?_
  funext b j
  show (zup (ziv h) a f b j).toInt = if b = a then (f j).toInt else (ziv h b j).toInt
  unfold zup
  by_cases hb : b = a
  · rw [if_pos hb, if_pos hb]
  · rw [if_neg hb, if_neg hb]
theorem cpy_ti (f g : Nat → Int32) (a b n : Nat) : (fun k => (va_cpy f g a b n k).toInt) = va_cpy (fun k => (f k).toInt) (fun k => (g k).toInt) a b n := by
  funext k; unfold va_cpy; split <;> rfl
theorem warg_ab (l : List zV) : warg (l.map ab) = abL (zarg l) := by
  induction l with
  | nil => rfl
  | cons v l ih =>
    rcases v with x | x | x
    · exact congrArg (fun z => some (wI x.toInt) :: z) ih
    · exact congrArg (fun z => some (wL x) :: none :: z) ih
    · exact congrArg (fun z => some (.inr (.inr x)) :: z) ih
theorem wloc_ab (n : Nat) (l : List zV) : wloc n (l.map ab) = abL (zloc n l) := by
  unfold wloc zloc
  rw [warg_ab]
  unfold abL
  rw [List.map_append, List.map_replicate, List.length_map]; rfl
theorem wtx_len (i : Nat) : (ztx.getD i []).length ≤ 5 := by
  by_cases h : i < 11
  · have : ∀ i : Fin 11, (ztx.getD i.val []).length ≤ 5 := by decide +kernel
    exact this ⟨i, h⟩
  · have : ztx.getD i [] = [] := by unfold List.getD; rw [List.getElem?_eq_none (by show 11 ≤ i; omega)]; rfl
    rw [this]; exact Nat.zero_le _
theorem wtx_ch (i j : Nat) : (ztx.getD i []).getD j 0 ≤ 122 := by
  have key : ∀ l : List Nat, (∀ x, x ∈ l → x ≤ 122) → l.getD j 0 ≤ 122 := by
    intro l hl
    unfold List.getD
    cases h : l[j]? with
    | none => exact Nat.zero_le _
    | some v => exact hl v (List.mem_of_getElem? h)
  refine key _ ?_
  by_cases h : i < 11
  · have : ∀ i : Fin 11, ∀ x, x ∈ ztx.getD i.val [] → x ≤ 122 := by decide +kernel
    exact this ⟨i, h⟩
  · have : ztx.getD i [] = [] := by unfold List.getD; rw [List.getElem?_eq_none (by show 11 ≤ i; omega)]; rfl
    rw [this]; intro x hx; cases hx
theorem i_add (x y : Int32) : wr (x.toInt + y.toInt) = (x + y).toInt := by unfold wr; rw [← oI_add, oI_self, oI_self]
theorem i_sub (x y : Int32) : wr (x.toInt - y.toInt) = (x - y).toInt := by unfold wr; rw [← oI_sub, oI_self, oI_self]
theorem i_mul (x y : Int32) : wr (x.toInt * y.toInt) = (x * y).toInt := by unfold wr; rw [← oI_mul, oI_self, oI_self]
theorem i_inc (x : Int32) (d : Int) : wr (x.toInt + d) = (x + Int32.ofInt d).toInt := by
  unfold wr; rw [← oI_add, oI_self]; rfl
theorem i_eq0 (x : Int32) : x = 0 ↔ x.toInt = 0 := by rw [← Int32.toInt_inj]; rfl
theorem i_lt0 (x : Int32) : x < 0 ↔ x.toInt < 0 := by rw [Int32.lt_iff_toInt_lt]; rfl
theorem i_le0 (x : Int32) : x ≤ 0 ↔ x.toInt ≤ 0 := by rw [Int32.le_iff_toInt_le]; rfl
theorem i_gt0 (x : Int32) : 0 < x ↔ 0 < x.toInt := by rw [Int32.lt_iff_toInt_lt]; rfl
theorem i_ge0 (x : Int32) : 0 ≤ x ↔ 0 ≤ x.toInt := by rw [Int32.le_iff_toInt_le]; rfl
theorem i_div (x y : Int32) (h : 0 ≤ x.toInt ∧ 0 < y.toInt) : (x / y).toInt = x.toInt / y.toInt := by
  have e1 : (x / y).toInt = (x.toInt.tdiv y.toInt).bmod (2 ^ 32) := Int32.toInt_div _ _
  have l : x.toInt / y.toInt ≤ x.toInt := Int.ediv_le_self _ h.1
  have l0 : 0 ≤ x.toInt / y.toInt := Int.ediv_nonneg h.1 (by omega)
  have := i_hi x
  rw [e1, Int.tdiv_eq_ediv_of_nonneg h.1]
  exact Int.bmod_eq_of_le (by omega) (by omega)
theorem i_rem (x y : Int32) (h : 0 ≤ x.toInt ∧ 0 < y.toInt) : (x - x / y * y).toInt = x.toInt % y.toInt := by
  rw [← i_sub, ← i_mul, i_div x y h]
  have e := Int.emod_add_mul_ediv x.toInt y.toInt
  have m := Int.emod_nonneg x.toInt (show y.toInt ≠ 0 by omega)
  have m2 := Int.emod_lt_of_pos x.toInt h.2
  have hx := i_hi x
  have hy := i_hi y
  have c : x.toInt / y.toInt * y.toInt = y.toInt * (x.toInt / y.toInt) := Int.mul_comm _ _
  rw [wr_eq (x := x.toInt / y.toInt * y.toInt) (by omega) (by omega), wr_eq (by omega) (by omega)]; omega
section ZAG
variable {cal : zC} {rec : zF} {cal' : wC} {rec' : wF}
theorem zag_v {pc : Nat} {loc : List (Option zV)} {v : zV} {v' : wV} {s : List zV} {h : zH} (hrec : ∀ pc loc stk h, zag (rec pc loc stk h) (rec' pc (abL loc) (stk.map ab) (abH h))) (e : v' = ab v) : zag (rec pc loc (v :: s) h) (rec' pc (abL loc) (v' :: s.map ab) (abH h)) := by
  subst e; exact hrec pc loc (v :: s) h
theorem zag_l {pc : Nat} {loc : List (Option zV)} {l' : List (Option wV)} {s : List zV} {h : zH} (hrec : ∀ pc loc stk h, zag (rec pc loc stk h) (rec' pc (abL loc) (stk.map ab) (abH h))) (e : l' = abL loc) : zag (rec pc loc s h) (rec' pc l' (s.map ab) (abH h)) := by
  subst e; exact hrec pc loc s h
theorem zag_h {pc : Nat} {loc : List (Option zV)} {s : List zV} {h : zH} {h' : wH} (hrec : ∀ pc loc stk h, zag (rec pc loc stk h) (rec' pc (abL loc) (stk.map ab) (abH h))) (e : h' = abH h) : zag (rec pc loc s h) (rec' pc (abL loc) (s.map ab) h') := by
  subst e; exact hrec pc loc s h
theorem zag_call (hcal : ∀ k args h, zag (cal k args h) (cal' k (args.map ab) (abH h))) (hrec : ∀ pc loc stk h, zag (rec pc loc stk h) (rec' pc (abL loc) (stk.map ab) (abH h))) (hs : List (Nat × Nat × Nat × Nat)) (pc k : Nat) (loc : List (Option zV)) (args rest : List zV) (h : zH) : zag (zcall cal rec hs pc k loc args rest h) (wcall cal' rec' hs pc k (abL loc) (args.map ab) (rest.map ab) (abH h)) := by
  unfold zcall wcall
  refine zag_ck fun _ => ?_
  have hc := hcal k args h
  rcases e : cal k args h with _ | ⟨r, h1⟩
  · exact zag_n _
  · rcases e' : cal' k (args.map ab) (abH h) with _ | R
    · exact zag_m _
    · have := hc r h1 R e e'
      subst this
      rcases r with v | E
      · rcases v with _ | v
        · exact hrec _ _ _ _
        · exact hrec _ _ (v :: rest) _
      · rcases hs with _ | ⟨a, hs⟩
        · exact zag_rt (.inr E) h1
        · exact zag_m _
theorem zag_rcv {h : zH} {ci N : Nat} {s : List zV} {o : Option zO} {p : Option wO} (a : zag o p) : zag (zrcv h ci N s o) p := by
  rcases s with _ | ⟨v, s⟩
  · exact zag_n _
  · rcases v with x | x | x | x
    · exact zag_n _
    · exact zag_n _
    · exact zag_ck fun _ => a
    · exact zag_n _
theorem zag_ins (hcal : ∀ k args h, zag (cal k args h) (cal' k (args.map ab) (abH h))) (hrec : ∀ pc loc stk h, zag (rec pc loc stk h) (rec' pc (abL loc) (stk.map ab) (abH h))) (hs : List (Nat × Nat × Nat × Nat)) (pc : Nat) (i : Instr) (as : List Nat) (loc : List (Option zV)) (stk : List zV) (h : zH) : zag (zins cal rec hs pc i as loc stk h) (wins cal' rec' hs pc i as (abL loc) (stk.map ab) (abH h)) := by
  have hc := zag_call (cal := cal) (rec := rec) (cal' := cal') (rec' := rec') hcal hrec
  cases i with
  | iconst n => exact zag_bf fun c => zag_v hrec (by simp only [Bool.and_eq_true, decide_eq_true_eq] at c; exact congrArg Sum.inl (oI_toInt (by omega) (by omega)).symm)
  | bipush n => exact zag_bf fun c => zag_v hrec (by simp only [Bool.and_eq_true, decide_eq_true_eq] at c; exact congrArg Sum.inl (by rw [Int8.toInt_toInt32]; exact (Int8.toInt_ofInt_of_le (by omega) (by omega)).symm))
  | sipush n => exact zag_bf fun c => zag_v hrec (by simp only [Bool.and_eq_true, decide_eq_true_eq] at c; exact congrArg Sum.inl (by rw [Int16.toInt_toInt32]; exact (Int16.toInt_ofInt_of_le (by omega) (by omega)).symm))
  | lconst n => exact zag_v hrec rfl
  | ldc n => exact zag_if Iff.rfl (zag_v hrec rfl) (zag_bf fun c => zag_v hrec (by simp only [Bool.and_eq_true, decide_eq_true_eq] at c; exact congrArg Sum.inl (oI_toInt (by omega) (by omega)).symm))
  | ldc2_w n => exact zag_v hrec rfl
  | iload_n n => exact zag_lI fun x => zag_v hrec rfl
  | iload n => exact zag_lI fun x => zag_v hrec rfl
  | lload_n n => exact zag_lL fun x => zag_v hrec rfl
  | aload_n n => exact zag_lA (k := fun v => rec (pc + 1) loc (v :: stk) h) fun x => zag_v hrec rfl
  | aload n => exact zag_lA (k := fun v => rec (pc + 2) loc (v :: stk) h) fun x => zag_v hrec rfl
  | istore_n n => exact zag_pIA fun x s => zag_s1 (zag_l hrec (abL_sets _ _ _))
  | istore n => exact zag_pIA fun x s => zag_s1 (zag_l hrec (abL_sets _ _ _))
  | lstore_n n => exact zag_pLA fun x s => zag_s2 (zag_l hrec (by rw [abL_set, abL_set]; rfl))
  | astore_n n => exact zag_pA (k := fun v s => zs1 loc (n : Nat) v fun loc' => rec (pc + 1) loc' s h) fun x s => zag_s1 (k := fun loc' => rec (pc + 1) loc' s h) (zag_l hrec (abL_sets _ _ _))
  | astore n => exact zag_pA (k := fun v s => zs1 loc n v fun loc' => rec (pc + 2) loc' s h) fun x s => zag_s1 (k := fun loc' => rec (pc + 2) loc' s h) (zag_l hrec (abL_sets _ _ _))
  | iinc n d => exact zag_lII fun x => zag_s1 (zag_l hrec (by rw [abL_set]; exact congrArg (fun z => (abL loc).set n (some (wI z))) (i_inc x d)))
  | iadd => exact zag_pI fun y s => zag_pI fun x s => zag_v hrec (congrArg Sum.inl (i_add x y))
  | isub => exact zag_pI fun y s => zag_pI fun x s => zag_v hrec (congrArg Sum.inl (i_sub x y))
  | imul => exact zag_pI fun y s => zag_pI fun x s => zag_v hrec (congrArg Sum.inl (i_mul x y))
  | idiv => exact zag_pI fun y s => zag_pI fun x s => zag_ck fun _ => zag_wck fun c => zag_v hrec (congrArg Sum.inl (i_div x y c).symm)
  | irem => exact zag_pI fun y s => zag_pI fun x s => zag_ck fun _ => zag_wck fun c => zag_v hrec (congrArg Sum.inl (i_rem x y c).symm)
  | iand => exact zag_pI fun y s => zag_pI fun x s => zag_v hrec (congrArg Sum.inl (by unfold wand; rw [oI_self, oI_self]))
  | ior => exact zag_pI fun y s => zag_pI fun x s => zag_v hrec (congrArg Sum.inl (by unfold wor; rw [oI_self, oI_self]))
  | ishl => exact zag_pI fun y s => zag_pI fun x s => zag_v hrec (congrArg Sum.inl (by unfold wshl; rw [oI_self, oI_self]))
  | ishr => exact zag_pI fun y s => zag_pI fun x s => zag_v hrec (congrArg Sum.inl (by unfold wshr; rw [oI_self, oI_self]))
  | iushr => exact zag_pI fun y s => zag_pI fun x s => zag_v hrec (congrArg Sum.inl (by unfold wush; rw [oI_self, oI_self]))
  | land => exact zag_pL fun y s => zag_pL fun x s => zag_v hrec rfl
  | lor => exact zag_pL fun y s => zag_pL fun x s => zag_v hrec rfl
  | lshl => exact zag_pI fun y s => zag_pL fun x s => zag_v hrec (by rw [oI_self]; rfl)
  | lshr => exact zag_pI fun y s => zag_pL fun x s => zag_v hrec (by rw [oI_self]; rfl)
  | lushr => exact zag_pI fun y s => zag_pL fun x s => zag_v hrec (by rw [oI_self]; rfl)
  | lcmp => exact zag_pL fun y s => zag_pL fun x s => zag_v hrec rfl
  | i2l => exact zag_pI fun x s => zag_v hrec (by rw [oI_self]; rfl)
  | l2i => exact zag_pL fun x s => zag_v hrec rfl
  | i2b => exact zag_pI fun x s => zag_v hrec (congrArg Sum.inl (by unfold wi8; rw [oI_self]))
  | dup => exact zag_p1 (k := fun v s => rec (pc + 1) loc (v :: v :: s) h) fun v s => hrec (pc + 1) loc (v :: v :: s) h
  | dup2 => exact zag_p1 (k := fun v s => zp1 s fun w s => rec (pc + 1) loc (v :: w :: v :: w :: s) h) fun v s => zag_p1 (k := fun w s => rec (pc + 1) loc (v :: w :: v :: w :: s) h) fun w s => hrec (pc + 1) loc (v :: w :: v :: w :: s) h
  | pop => exact zag_p1 (k := fun _ s => rec (pc + 1) loc s h) fun v s => hrec _ _ _ _
  | goto o => exact hrec _ _ _ _
  | ifCond cc o =>
    cases cc
    · exact zag_pI fun x s => zag_if (i_eq0 x) (hrec _ _ _ _) (hrec _ _ _ _)
    · exact zag_pI fun x s => zag_ifn (i_eq0 x) (hrec _ _ _ _) (hrec _ _ _ _)
    · exact zag_pI fun x s => zag_if (i_lt0 x) (hrec _ _ _ _) (hrec _ _ _ _)
    · exact zag_pI fun x s => zag_if (i_ge0 x) (hrec _ _ _ _) (hrec _ _ _ _)
    · exact zag_pI fun x s => zag_if (i_gt0 x) (hrec _ _ _ _) (hrec _ _ _ _)
    · exact zag_pI fun x s => zag_if (i_le0 x) (hrec _ _ _ _) (hrec _ _ _ _)
  | if_icmp cc o =>
    cases cc
    · exact zag_pI fun y s => zag_pI fun x s => zag_if Int32.toInt_inj.symm (hrec _ _ _ _) (hrec _ _ _ _)
    · exact zag_pI fun y s => zag_pI fun x s => zag_ifn Int32.toInt_inj.symm (hrec _ _ _ _) (hrec _ _ _ _)
    · exact zag_pI fun y s => zag_pI fun x s => zag_if Int32.lt_iff_toInt_lt (hrec _ _ _ _) (hrec _ _ _ _)
    · exact zag_pI fun y s => zag_pI fun x s => zag_if Int32.le_iff_toInt_le (hrec _ _ _ _) (hrec _ _ _ _)
    · exact zag_pI fun y s => zag_pI fun x s => zag_if Int32.lt_iff_toInt_lt (hrec _ _ _ _) (hrec _ _ _ _)
    · exact zag_pI fun y s => zag_pI fun x s => zag_if Int32.le_iff_toInt_le (hrec _ _ _ _) (hrec _ _ _ _)
  | ifnonnull o => exact zag_pR fun a s => zag_if Iff.rfl (hrec _ _ _ _) (hrec _ _ _ _)
  | tableswitch d lo hi os => exact zag_pI fun a s => zag_if Iff.rfl (hrec _ _ _ _) (hrec _ _ _ _)
  | getfield n => exact zag_pR fun a s => zag_ck fun _ => zag_if Iff.rfl (zag_v hrec rfl) (zag_v hrec rfl)
  | putfield n => exact zag_if Iff.rfl (zag_m _) (zag_pI fun x s => zag_pR fun a s => zag_ck fun _ => zag_h hrec (abH_I _ _ _ _).symm)
  | new n => exact zag_if Iff.rfl (zag_ck fun _ => zag_rt (.inr (as.getD 1 0)) (zbump h)) (zag_m _)
  | arraylength =>
    rcases stk with _ | ⟨v, s⟩
    · exact zag_n _
    · rcases v with x | x | x | x
      · exact zag_n _
      · exact zag_n _
      · exact zag_ck fun _ => zag_v hrec rfl
      · exact zag_m _
  | iaload =>
    refine zag_pI fun j s => ?_
    rcases s with _ | ⟨v, s⟩
    · exact zag_n _
    · rcases v with x | x | x | x
      · exact zag_n _
      · exact zag_n _
      · exact zag_ck fun _ => zag_v hrec rfl
      · exact zag_m _
  | iastore => exact zag_pI fun x s => zag_pI fun j s => zag_pR fun a s => zag_ck fun _ => zag_h hrec (abH_I _ _ _ _).symm
  | baload => exact zag_pI fun j s => zag_pR fun a s => zag_ck fun _ => zag_v hrec rfl
  | bastore => exact zag_pI fun x s => zag_pI fun j s => zag_pR fun a s => zag_ck fun _ => zag_h hrec (by rw [abH_I]; unfold wi8; rw [oI_self]; rfl)
  | aaload => exact zag_pI fun j s => zag_pR fun a s => zag_ck fun _ => zag_v hrec rfl
  | invokespecial n =>
    refine zag_if Iff.rfl (zag_m _) (zag_if Iff.rfl (zag_n _) (zag_rcv ?_))
    rw [← List.map_take, ← List.map_reverse, ← List.map_drop]; exact hc _ _ _ _ _ _ _
  | invokevirtual n =>
    refine zag_if Iff.rfl ?_ (zag_if Iff.rfl (zag_pI fun j s => ?_) (zag_rcv ?_))
    · rcases stk with _ | ⟨v, s⟩
      · exact zag_n _
      · rcases v with x | x | x | x
        · exact zag_n _
        · exact zag_n _
        · exact zag_m _
        · refine zag_ck fun _ => zag_v hrec ?_
          have := wtx_len (x - 1)
          exact congrArg Sum.inl (oI_toInt (by omega) (by omega)).symm
    · rcases s with _ | ⟨v, s⟩
      · exact zag_n _
      · rcases v with x | x | x | x
        · exact zag_n _
        · exact zag_n _
        · exact zag_m _
        · refine zag_ck fun _ => zag_v hrec ?_
          have := wtx_ch (x - 1) j.toInt.toNat
          exact congrArg Sum.inl (oI_toInt (by omega) (by omega)).symm
    · rw [← List.map_take, ← List.map_reverse, ← List.map_drop]; exact hc _ _ _ _ _ _ _
  | invokestatic n =>
    refine zag_if Iff.rfl (zag_pI fun y s => zag_pI fun x s => zag_ck fun _ => zag_v hrec ?_) (zag_if Iff.rfl (zag_pI fun y s => zag_pI fun x s => zag_ck fun _ => zag_v hrec ?_)
      (zag_if Iff.rfl (zag_pI fun n s => zag_pI fun dp s => zag_pR fun b s => zag_pI fun sp s => zag_pR fun a s => zag_ck fun _ => zag_h hrec ?_) (zag_ck fun _ => ?_)))
    · by_cases c : x < y
      · rw [if_pos c, if_pos (Int32.lt_iff_toInt_lt.mp c)]; rfl
      · rw [if_neg c, if_neg (fun w => c (Int32.lt_iff_toInt_lt.mpr w))]; rfl
    · by_cases c : y < x
      · rw [if_pos c, if_pos (Int32.lt_iff_toInt_lt.mp c)]; rfl
      · rw [if_neg c, if_neg (fun w => c (Int32.lt_iff_toInt_lt.mpr w))]; rfl
    · rw [abH_A, cpy_ti]; rfl
    · rw [← List.map_take, ← List.map_reverse, ← List.map_drop]; exact hc _ _ _ _ _ _ _
  | ireturn =>
    rcases stk with _ | ⟨v, _ | ⟨w, s⟩⟩
    · exact zag_n _
    · rcases v with x | x
      · exact zag_ck fun _ => zag_rt (.inl (some (zI x))) h
      · exact zag_n _
    · rcases v with x | x <;> exact zag_n _
  | lreturn =>
    rcases stk with _ | ⟨v, _ | ⟨w, s⟩⟩
    · exact zag_n _
    · rcases v with x | x | x
      · exact zag_n _
      · exact zag_rt (.inl (some (zL x))) h
      · exact zag_n _
    · rcases v with x | x | x <;> exact zag_n _
  | areturn =>
    rcases stk with _ | ⟨v, _ | ⟨w, s⟩⟩
    · exact zag_n _
    · rcases v with x | x | x | x
      · exact zag_n _
      · exact zag_n _
      · exact zag_rt (.inl (some (zR x))) h
      · exact zag_n _
    · rcases v with x | x | x | x <;> exact zag_n _
  | return_ =>
    rcases stk with _ | ⟨v, s⟩
    · exact zag_rt (.inl none) h
    · exact zag_n _
  | _ => first | exact zag_n _ | exact zag_m _
end ZAG
theorem zag_ex (P : zPg) : ∀ (f M pc : Nat) (loc : List (Option zV)) (stk : List zV) (h : zH), zag (zex P f M pc loc stk h) (wex P f M pc (abL loc) (stk.map ab) (abH h)) := by
  intro f
  induction f with
  | zero => intro M pc loc stk h; exact zag_n _
  | succ f ih =>
    intro M pc loc stk h
    show zag (zst P _ _ M pc loc stk h) (wst P _ _ M pc (abL loc) (stk.map ab) (abH h))
    unfold zst wst
    cases (P M).2.2.getD pc none with
    | none => exact zag_n _
    | some q =>
      refine zag_ins (fun k args h => zag_ck fun _ => ?_) (ih M) _ _ _ _ _ _ _
      rw [wloc_ab]; exact ih k 0 (zloc (P k).1 args) [] h
theorem zag_ev (P : zPg) (M pc : Nat) (loc : List (Option zV)) (stk : List zV) (h : zH) : zag (zev P M pc loc stk h) (wev P M pc (abL loc) (stk.map ab) (abH h)) := by
  intro r h' R e g
  obtain ⟨f, e⟩ := (zev_iff P).mp e
  obtain ⟨f2, g⟩ := (wev_iff P).mp g
  exact zag_ex P (max f f2) M pc loc stk h r h' R (zex_up P _ _ _ _ _ _ _ _ (Nat.le_max_left f f2) e) (wex_up P _ _ _ _ _ _ _ _ (Nat.le_max_right f f2) g)
theorem zag_cl (P : zPg) (k : Nat) (args : List zV) (h : zH) : zag (zcl P k args h) (wcl P k (args.map ab) (abH h)) := by
  refine zag_ck fun _ => ?_
  show zag _ (wev P k 0 (wloc (P k).1 (args.map ab)) [] (abH h))
  rw [wloc_ab]; exact zag_ev P k 0 (zloc (P k).1 args) [] h
