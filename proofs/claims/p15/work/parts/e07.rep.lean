set_option maxRecDepth 16384
/-! THE MACHINE'S WORLD OF A PURE HEAP -/
abbrev zcs : List vw_C := [(RX0, TX0, 1), (RX2, TX2, 7), (RX3, TX3, 4), (RX6, TX6, 3), (RX8, TX8, 12), (RX9, TX9, 17)]
/-- a field's kind: 0 an int, 1 a boolean, 2 a reference -/
def zft (ci k : Nat) : Nat := if (((zcs.getD ci ("", TX0, 0)).2.1 k).2.2.1 = "I") then 0 else if (((zcs.getD ci ("", TX0, 0)).2.1 k).2.2.1 = "Z") then 1 else 2
def zrf (ad : Nat → Nat) (r : Nat) : Value := if r = 0 then .null else .ref (ad r)
def zmv (ad ea : Nat → Nat) : zV → Value
  | .inl x => .int x
  | .inr (.inl x) => .long x
  | .inr (.inr (.inl r)) => zrf ad r
  | .inr (.inr (.inr k)) => .ref (ea k)
def zfv (ad : Nat → Nat) (h : zH) (a ci j : Nat) : Value := if zft ci j = 2 then zrf ad (zrv h a j) else .int (ziv h a j)
def z7ro (ad : Nat → Nat) (r : Nat) : Option Nat := if r = 0 then none else some (ad r)
def zent (cK : Nat → ClassId) (ad : Nat → Nat) (h : zH) (a : Nat) : va_E :=
  if (zkd h a).1 = 4 then .inl (cK 4, (zkd h a).2, .inr (.inl (zlv h a)))
  else if (zkd h a).1 = 5 then .inl (cK 5, (zkd h a).2, .inr (.inr (.inr (.inr (fun j => z7ro ad (zrv h a j))))))
  else if (zkd h a).1 < 10 then .inl (cK (zkd h a).1, (zkd h a).2, .inl (ziv h a))
  else .inr ((zkd h a).1 - 10, (List.range (zkd h a).2).map (zfv ad h a ((zkd h a).1 - 10)))
def ztys (cK : Nat → ClassId) : List (ClassId × FieldType) := [(cK 1, .byte), (cK 2, .int), (cK 3, .boolean), (cK 4, .long), (cK 5, .object RX2)]
def zws (cK : Nat → ClassId) (ad : Nat → Nat) (h : zH) : va_W := (List.range (zn h)).map fun i => (ad (i + 1), zent cK ad h (i + 1))
/-- what a pure heap keeps to -/
def zwf (h : zH) : Prop := (∀ a, (zkd h a).1 ≠ 0 → 0 < a ∧ a ≤ zn h) ∧ (∀ a j, zrv h a j ≤ zn h) ∧ ∀ a j, (zkd h a).1 = 1 → fits .byte (.int (ziv h a j)) = true
def zokv (h : zH) : zV → Prop
  | .inr (.inr (.inl r)) => r ≤ zn h
  | _ => True
def zoks (h : zH) (s : List zV) : Prop := ∀ v ∈ s, zokv h v
def zokl (h : zH) (l : List (Option zV)) : Prop := ∀ v, some v ∈ l → zokv h v
/-- h grew to h' -/
def zle (h h' : zH) : Prop := zn h ≤ zn h' ∧ zcn h ≤ zcn h' ∧ zsn h ≤ zsn h' ∧ h'.1.2.2.2 = h.1.2.2.2
theorem zle.rf {h : zH} : zle h h := ⟨Nat.le_refl _, Nat.le_refl _, Nat.le_refl _, rfl⟩
theorem zle.tr {h h' h'' : zH} (a : zle h h') (b : zle h' h'') : zle h h'' := ⟨Nat.le_trans a.1 b.1, Nat.le_trans a.2.1 b.2.1, Nat.le_trans a.2.2.1 b.2.2.1, b.2.2.2.trans a.2.2.2⟩
theorem zokv.up {h h' : zH} {v : zV} (g : zn h ≤ zn h') (a : zokv h v) : zokv h' v := by
  rcases v with x | x | x | x
  · trivial
  · trivial
  · exact Nat.le_trans a g
  · trivial
theorem zoks.up {h h' : zH} {s : List zV} (g : zn h ≤ zn h') (a : zoks h s) : zoks h' s := fun v hv => (a v hv).up g
theorem zokl.up {h h' : zH} {s : List (Option zV)} (g : zn h ≤ zn h') (a : zokl h s) : zokl h' s := fun v hv => (a v hv).up g
theorem zoks.cons {h : zH} {v : zV} {s : List zV} (a : zokv h v) (b : zoks h s) : zoks h (v :: s) := fun w hw => (List.mem_cons.mp hw).elim (fun e => e ▸ a) (b w)
theorem zoks.hd {h : zH} {v : zV} {s : List zV} (a : zoks h (v :: s)) : zokv h v := a v List.mem_cons_self
theorem zoks.tl {h : zH} {v : zV} {s : List zV} (a : zoks h (v :: s)) : zoks h s := fun w hw => a w (List.mem_cons_of_mem _ hw)
theorem zoks.nil {h : zH} : zoks h [] := fun _ q => nomatch q
theorem zokl.set {h : zH} {l : List (Option zV)} {i : Nat} {v : zV} (a : zokl h l) (b : zokv h v) : zokl h (l.set i (some v)) := by
  intro w hw
  rcases List.mem_or_eq_of_mem_set hw with q | q
  · exact a w q
  · cases q; exact b
theorem zokl.set0 {h : zH} {l : List (Option zV)} {i : Nat} (a : zokl h l) : zokl h (l.set i none) := by
  intro w hw
  rcases List.mem_or_eq_of_mem_set hw with q | q
  · exact a w q
  · cases q
theorem zokl.forget {h : zH} {l : List (Option zV)} : zokl h (l.map fun _ => none) := by
  intro w hw
  obtain ⟨x, -, q⟩ := List.mem_map.mp hw
  cases q
theorem zokl.get {h : zH} {l : List (Option zV)} {i : Nat} {v : zV} (a : zokl h l) (e : l.getD i none = some v) : zokv h v := by
  rw [List.getD_eq_getElem?_getD] at e
  cases q : l[i]? with
  | none => rw [q] at e; cases e
  | some w => rw [q] at e; cases e; exact a v (List.mem_of_getElem? q)
theorem zarg_ok {h : zH} : ∀ {s : List zV}, zoks h s → zokl h (zarg s) := by
  intro s
  induction s with
  | nil => intro _ v hv; cases hv
  | cons x s ih =>
    intro hs v hv
    have key : zokv h v ∨ some v ∈ zarg s := by
      rcases x with x | x | x
      · rcases List.mem_cons.mp hv with q | q
        · cases q; exact Or.inl hs.hd
        · exact Or.inr q
      · rcases List.mem_cons.mp hv with q | q
        · cases q; exact Or.inl hs.hd
        · rcases List.mem_cons.mp q with q | q
          · cases q
          · exact Or.inr q
      · rcases List.mem_cons.mp hv with q | q
        · cases q; exact Or.inl hs.hd
        · exact Or.inr q
    exact key.elim id (ih hs.tl v)
theorem zloc_ok {h : zH} {n : Nat} {s : List zV} (a : zoks h s) : zokl h (zloc n s) := by
  intro v hv
  rcases List.mem_append.mp hv with q | q
  · exact zarg_ok a v q
  · cases (List.mem_replicate.mp q).2
/-! what a run does to these -/
def zokr (h : zH) : Option zV ⊕ Nat → Prop
  | .inl (some v) => zokv h v
  | _ => True
def zSf (h : zH) (T : Option zO) : Prop := ∀ r h', T = some (r, h') → zwf h' ∧ zle h h' ∧ zokr h' r
theorem zSf_none {h : zH} : zSf h none := fun _ _ e => nomatch e
theorem zSf_ck {h : zH} {p : Prop} [Decidable p] {T : Option zO} (a : p → zSf h T) : zSf h (zck p T) := by
  by_cases q : p
  · simp only [zck, if_pos q]; exact a q
  · simp only [zck, if_neg q]; exact zSf_none
theorem zSf_if {h : zH} {p : Prop} [Decidable p] {T U : Option zO} (a : p → zSf h T) (b : ¬ p → zSf h U) : zSf h (if p then T else U) := by
  by_cases q : p
  · rw [if_pos q]; exact a q
  · rw [if_neg q]; exact b q
theorem zSf_pI {h : zH} {s : List zV} {T : Int32 → List zV → Option zO} (o : zoks h s) (a : ∀ x s, zoks h s → zSf h (T x s)) : zSf h (zpI s T) := by
  rcases s with _ | ⟨v, s⟩
  · exact zSf_none
  · rcases v with x | x | x | x
    · exact a x s o.tl
    all_goals exact zSf_none
theorem zSf_pL {h : zH} {s : List zV} {T : Int64 → List zV → Option zO} (o : zoks h s) (a : ∀ x s, zoks h s → zSf h (T x s)) : zSf h (zpL s T) := by
  rcases s with _ | ⟨v, s⟩
  · exact zSf_none
  · rcases v with x | x | x | x
    · exact zSf_none
    · exact a x s o.tl
    all_goals exact zSf_none
theorem zSf_pR {h : zH} {s : List zV} {T : Nat → List zV → Option zO} (o : zoks h s) (a : ∀ x s, x ≤ zn h → zoks h s → zSf h (T x s)) : zSf h (zpR s T) := by
  rcases s with _ | ⟨v, s⟩
  · exact zSf_none
  · rcases v with x | x | x | x
    · exact zSf_none
    · exact zSf_none
    · exact a x s o.hd o.tl
    · exact zSf_none
theorem zSf_pA {h : zH} {s : List zV} {T : zV → List zV → Option zO} (o : zoks h s) (a : ∀ x s, zokv h x → zoks h s → zSf h (T x s)) : zSf h (zpA s T) := by
  rcases s with _ | ⟨v, s⟩
  · exact zSf_none
  · rcases v with x | x | x
    · exact zSf_none
    · exact zSf_none
    · exact a _ s o.hd o.tl
theorem zSf_p1 {h : zH} {s : List zV} {T : zV → List zV → Option zO} (o : zoks h s) (a : ∀ x s, zokv h x → zoks h s → zSf h (T x s)) : zSf h (zp1 s T) := by
  rcases s with _ | ⟨v, s⟩
  · exact zSf_none
  · rcases v with x | x | x
    · exact a _ s o.hd o.tl
    · exact zSf_none
    · exact a _ s o.hd o.tl
theorem zSf_lI {h : zH} {l : List (Option zV)} {i : Nat} {T : Int32 → Option zO} (a : ∀ x, zSf h (T x)) : zSf h (zlI l i T) := by
  unfold zlI
  rcases l.getD i none with _ | ⟨x | x | x⟩
  · exact zSf_none
  · exact a x
  all_goals exact zSf_none
theorem zSf_lL {h : zH} {l : List (Option zV)} {i : Nat} {T : Int64 → Option zO} (a : ∀ x, zSf h (T x)) : zSf h (zlL l i T) := by
  unfold zlL
  rcases l.getD i none with _ | ⟨x | x | x⟩
  · exact zSf_none
  · exact zSf_none
  · exact a x
  · exact zSf_none
theorem zSf_lA {h : zH} {l : List (Option zV)} {i : Nat} {T : zV → Option zO} (o : zokl h l) (a : ∀ x, zokv h x → zSf h (T x)) : zSf h (zlA l i T) := by
  unfold zlA
  rcases e : l.getD i none with _ | ⟨x | x | x⟩
  · exact zSf_none
  · exact zSf_none
  · exact zSf_none
  · exact a _ (o.get e)
theorem zSf_s1 {h : zH} {l : List (Option zV)} {i : Nat} {v : zV} {T : List (Option zV) → Option zO} (o : zokl h l) (q : zokv h v) (a : ∀ l, zokl h l → zSf h (T l)) : zSf h (zs1 l i v T) := by
  unfold zs1
  cases (decide (i < l.length) && !(zisL (l.getD (i - 1) none)))
  · exact zSf_none
  · exact a _ (o.set q)
theorem zSf_s2 {h : zH} {l : List (Option zV)} {i : Nat} {v : zV} {T : List (Option zV) → Option zO} (o : zokl h l) (q : zokv h v) (a : ∀ l, zokl h l → zSf h (T l)) : zSf h (zs2 l i v T) := by
  unfold zs2
  cases (decide (i + 1 < l.length) && !(zisL (l.getD (i - 1) none)))
  · exact zSf_none
  · exact a _ (o.set q).set0
/-- changes of a heap keep it -/
theorem zwf.sI {h : zH} {a k : Nat} {x : Int32} (w : zwf h) (b : (zkd h a).1 = 1 → fits .byte (.int x) = true) : zwf (zsI h a k x) := by
  refine ⟨w.1, w.2.1, fun c j hc => ?_⟩
  show fits .byte (.int (zup (ziv h) a (zup (ziv h a) k x) c j)) = true
  unfold zup
  by_cases e : c = a
  · rw [if_pos e]
    subst e
    by_cases e2 : j = k
    · rw [if_pos e2]; exact b hc
    · rw [if_neg e2]; exact w.2.2 c j hc
  · rw [if_neg e]; exact w.2.2 c j hc
theorem zwf.sA {h : zH} {a : Nat} {f : Nat → Int32} (w : zwf h) (b : (zkd h a).1 = 1 → ∀ j, fits .byte (.int (f j)) = true) : zwf (zsA h a f) := by
  refine ⟨w.1, w.2.1, fun c j hc => ?_⟩
  show fits .byte (.int (zup (ziv h) a f c j)) = true
  unfold zup
  by_cases e : c = a
  · rw [if_pos e]; subst e; exact b hc j
  · rw [if_neg e]; exact w.2.2 c j hc
theorem zwf.sR {h : zH} {a k r : Nat} (w : zwf h) (b : r ≤ zn h) : zwf (zsR h a k r) := by
  refine ⟨w.1, fun c j => ?_, w.2.2⟩
  show zup (zrv h) a (zup (zrv h a) k r) c j ≤ zn h
  unfold zup
  by_cases e : c = a
  · rw [if_pos e]
    by_cases e2 : j = k
    · rw [if_pos e2]; exact b
    · rw [if_neg e2]; exact w.2.1 a j
  · rw [if_neg e]; exact w.2.1 c j
theorem zwf.new {h : zH} {k n : Nat} (w : zwf h) : zwf (znew h k n) := by
  refine ⟨fun a ha => ?_, fun c j => ?_, fun c j hc => ?_⟩
  · have ha : (zup (zkd h) (zn h + 1) (k, n) a).1 ≠ 0 := ha
    show 0 < a ∧ a ≤ zn h + 1
    unfold zup at ha
    by_cases e : a = zn h + 1
    · omega
    · rw [if_neg e] at ha
      have := w.1 a ha
      omega
  · show zup (zrv h) (zn h + 1) (fun _ => 0) c j ≤ zn h + 1
    unfold zup
    by_cases e : c = zn h + 1
    · rw [if_pos e]; exact Nat.zero_le _
    · rw [if_neg e]; exact Nat.le_succ_of_le (w.2.1 c j)
  · have hc : (zup (zkd h) (zn h + 1) (k, n) c).1 = 1 := hc
    show fits .byte (.int (zup (ziv h) (zn h + 1) (fun _ => 0) c j)) = true
    unfold zup at hc ⊢
    by_cases e : c = zn h + 1
    · rw [if_pos e]; rfl
    · rw [if_neg e] at hc ⊢; exact w.2.2 c j hc
theorem zSf_call {h : zH} {cal : zC} {rec : zF} (hc : ∀ k a h, zwf h → zoks h a → zSf h (cal k a h)) (hr : ∀ pc l s h, zwf h → zokl h l → zoks h s → zSf h (rec pc l s h)) (hs : List (Nat × Nat × Nat × Nat)) (pc k : Nat) {loc : List (Option zV)} {args rest : List zV} (w : zwf h) (ol : zokl h loc) (oa : zoks h args) (os : zoks h rest) : zSf h (zcall cal rec hs pc k loc args rest h) := by
  unfold zcall zcx
  refine zSf_ck fun _ => ?_
  intro r h' e
  rcases q : cal k args h with _ | ⟨v | E, h1⟩ <;> simp only [q] at e
  · cases e
  · obtain ⟨w1, l1, o1⟩ := hc k args h w oa _ _ q
    have os' : zoks h1 (zput v rest) := by
      cases v with
      | none => exact os.up l1.1
      | some v => exact zoks.cons o1 (os.up l1.1)
    obtain ⟨w2, l2, o2⟩ := hr _ _ _ _ w1 (ol.up l1.1) os' _ _ e
    exact ⟨w2, l1.tr l2, o2⟩
  · obtain ⟨w1, l1, o1⟩ := hc k args h w oa _ _ q
    rcases ht : zhand hs pc E with _ | t <;> simp only [ht] at e
    · unfold zth at e; cases e; exact ⟨w1, l1, trivial⟩
    · obtain ⟨w2, l2, o2⟩ := hr _ _ _ _ w1 zokl.forget (zoks.cons (v := zX 1000) trivial zoks.nil) _ _ e
      exact ⟨w2, l1.tr l2, o2⟩
theorem zoks.take {h : zH} {s : List zV} (n : Nat) (o : zoks h s) : zoks h (s.take n).reverse := fun v hv => o v (List.mem_of_mem_take (List.mem_reverse.mp hv))
theorem zoks.drop {h : zH} {s : List zV} (n : Nat) (o : zoks h s) : zoks h (s.drop n) := fun v hv => o v (List.mem_of_mem_drop hv)
theorem zbyte (x : Int32) : fits .byte (.int x.toInt8.toInt32) = true := pk_fb x
