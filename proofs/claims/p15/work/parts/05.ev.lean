set_option maxRecDepth 16384
/-- a program: a method's locals, its handlers, its rows by their places -/
abbrev zPg : Type := Nat → Nat × List (Nat × Nat × Nat × Nat) × List (Option (Instr × List Nat))
def zst (P : zPg) (cal : zC) (rec : zF) (M pc : Nat) (loc : List (Option zV)) (stk : List zV) (h : zH) : Option zO :=
  match (P M).2.2.getD pc none with
  | none => none
  | some q => zins cal rec (P M).2.1 pc q.1 q.2 loc stk h
def zex (P : zPg) : Nat → Nat → zF
  | 0 => fun _ _ _ _ _ => none
  | f + 1 => fun M pc loc stk h => zst P (fun k args h => zck ((zarg args).length ≤ (P k).1) (zex P f k 0 (zloc (P k).1 args) [] h)) (zex P f M) M pc loc stk h
/-- a family of meanings that grows, and its limit -/
def zGr (C : Nat → zC) (F : Nat → zF) (c : zC) (g : zF) : Prop :=
  ((∀ k a h r, c k a h = some r ↔ ∃ f, C f k a h = some r) ∧ (∀ k a h r f f', f ≤ f' → C f k a h = some r → C f' k a h = some r)) ∧
  ((∀ pc l s h r, g pc l s h = some r ↔ ∃ f, F f pc l s h = some r) ∧ (∀ pc l s h r f f', f ≤ f' → F f pc l s h = some r → F f' pc l s h = some r))
def zGd (C : Nat → zC) (F : Nat → zF) (c : zC) (g : zF) (T : zC → zF → Option zO) : Prop := (∀ r, T c g = some r ↔ ∃ f, T (C f) (F f) = some r) ∧ ∀ r f f', f ≤ f' → T (C f) (F f) = some r → T (C f') (F f') = some r
section ZGD
variable {C : Nat → zC} {F : Nat → zF} {c : zC} {g : zF}
theorem zGd_k (r : Option zO) : zGd C F c g (fun _ _ => r) := ⟨fun _ => ⟨fun h => ⟨0, h⟩, fun ⟨_, h⟩ => h⟩, fun _ _ _ _ h => h⟩
theorem zGd_r (G : zGr C F c g) (pc : Nat) (l : List (Option zV)) (s : List zV) (h : zH) : zGd C F c g (fun _ z => z pc l s h) := ⟨fun r => G.2.1 pc l s h r, fun r => G.2.2 pc l s h r⟩
theorem zGd_ck {p : Prop} [Decidable p] {T : zC → zF → Option zO} (h : zGd C F c g T) : zGd C F c g (fun y z => zck p (T y z)) := by
  by_cases q : p
  · simp only [zck, if_pos q]; exact h
  · simp only [zck, if_neg q]; exact zGd_k none
theorem zGd_if {p : Prop} [Decidable p] {T U : zC → zF → Option zO} (h : zGd C F c g T) (h2 : zGd C F c g U) : zGd C F c g (fun y z => if p then T y z else U y z) := by
  by_cases q : p
  · simp only [if_pos q]; exact h
  · simp only [if_neg q]; exact h2
theorem zGd_pI {s : List zV} {T : zC → zF → Int32 → List zV → Option zO} (h : ∀ x s, zGd C F c g (fun y z => T y z x s)) : zGd C F c g (fun y z => zpI s (T y z)) := by
  rcases s with _ | ⟨v, s⟩
  · exact zGd_k none
  · rcases v with x | x | x | x
    · exact h x s
    all_goals exact zGd_k none
theorem zGd_pL {s : List zV} {T : zC → zF → Int64 → List zV → Option zO} (h : ∀ x s, zGd C F c g (fun y z => T y z x s)) : zGd C F c g (fun y z => zpL s (T y z)) := by
  rcases s with _ | ⟨v, s⟩
  · exact zGd_k none
  · rcases v with x | x | x | x
    · exact zGd_k none
    · exact h x s
    all_goals exact zGd_k none
theorem zGd_pR {s : List zV} {T : zC → zF → Nat → List zV → Option zO} (h : ∀ x s, zGd C F c g (fun y z => T y z x s)) : zGd C F c g (fun y z => zpR s (T y z)) := by
  rcases s with _ | ⟨v, s⟩
  · exact zGd_k none
  · rcases v with x | x | x | x
    · exact zGd_k none
    · exact zGd_k none
    · exact h x s
    · exact zGd_k none
theorem zGd_pA {s : List zV} {T : zC → zF → zV → List zV → Option zO} (h : ∀ x s, zGd C F c g (fun y z => T y z x s)) : zGd C F c g (fun y z => zpA s (T y z)) := by
  rcases s with _ | ⟨v, s⟩
  · exact zGd_k none
  · rcases v with x | x | x
    · exact zGd_k none
    · exact zGd_k none
    · exact h _ s
theorem zGd_p1 {s : List zV} {T : zC → zF → zV → List zV → Option zO} (h : ∀ x s, zGd C F c g (fun y z => T y z x s)) : zGd C F c g (fun y z => zp1 s (T y z)) := by
  rcases s with _ | ⟨v, s⟩
  · exact zGd_k none
  · rcases v with x | x | x
    · exact h _ s
    · exact zGd_k none
    · exact h _ s
theorem zGd_lI {l : List (Option zV)} {i : Nat} {T : zC → zF → Int32 → Option zO} (h : ∀ x, zGd C F c g (fun y z => T y z x)) : zGd C F c g (fun y z => zlI l i (T y z)) := by
  unfold zlI
  rcases l.getD i none with _ | ⟨x | x | x⟩
  · exact zGd_k none
  · exact h x
  all_goals exact zGd_k none
theorem zGd_lL {l : List (Option zV)} {i : Nat} {T : zC → zF → Int64 → Option zO} (h : ∀ x, zGd C F c g (fun y z => T y z x)) : zGd C F c g (fun y z => zlL l i (T y z)) := by
  unfold zlL
  rcases l.getD i none with _ | ⟨x | x | x⟩
  · exact zGd_k none
  · exact zGd_k none
  · exact h x
  · exact zGd_k none
theorem zGd_lA {l : List (Option zV)} {i : Nat} {T : zC → zF → zV → Option zO} (h : ∀ x, zGd C F c g (fun y z => T y z x)) : zGd C F c g (fun y z => zlA l i (T y z)) := by
  unfold zlA
  rcases l.getD i none with _ | ⟨x | x | x⟩
  · exact zGd_k none
  · exact zGd_k none
  · exact zGd_k none
  · exact h _
theorem zGd_s1 {l : List (Option zV)} {i : Nat} {v : zV} {T : zC → zF → List (Option zV) → Option zO} (h : ∀ x, zGd C F c g (fun y z => T y z x)) : zGd C F c g (fun y z => zs1 l i v (T y z)) := by
  unfold zs1
  cases (decide (i < l.length) && !(zisL (l.getD (i - 1) none)))
  · exact zGd_k none
  · exact h _
theorem zGd_s2 {l : List (Option zV)} {i : Nat} {v : zV} {T : zC → zF → List (Option zV) → Option zO} (h : ∀ x, zGd C F c g (fun y z => T y z x)) : zGd C F c g (fun y z => zs2 l i v (T y z)) := by
  unfold zs2
  cases (decide (i + 1 < l.length) && !(zisL (l.getD (i - 1) none)))
  · exact zGd_k none
  · exact h _
theorem zGd_call (G : zGr C F c g) (hs : List (Nat × Nat × Nat × Nat)) (pc k : Nat) (loc : List (Option zV)) (args rest : List zV) (h : zH) : zGd C F c g (fun y z => zcall y z hs pc k loc args rest h) := by
  unfold zcall zcx
  refine zGd_ck ⟨fun r => ⟨fun e => ?_, fun e => ?_⟩, fun r f f' hf e => ?_⟩
  · rcases hc : c k args h with _ | ⟨v | E, h'⟩ <;> simp only [hc] at e
    · cases e
    · obtain ⟨f, hf⟩ := (G.1.1 _ _ _ _).mp hc
      obtain ⟨f2, hf2⟩ := (G.2.1 _ _ _ _ _).mp e
      exact ⟨max f f2, by simp only [G.1.2 _ _ _ _ _ _ (Nat.le_max_left f f2) hf]; exact G.2.2 _ _ _ _ _ _ _ (Nat.le_max_right f f2) hf2⟩
    · obtain ⟨f, hf⟩ := (G.1.1 _ _ _ _).mp hc
      rcases ht : zhand hs pc E with _ | t <;> simp only [ht] at e
      · exact ⟨f, by simp only [hf, ht]; exact e⟩
      · obtain ⟨f2, hf2⟩ := (G.2.1 _ _ _ _ _).mp e
        exact ⟨max f f2, by simp only [G.1.2 _ _ _ _ _ _ (Nat.le_max_left f f2) hf, ht]; exact G.2.2 _ _ _ _ _ _ _ (Nat.le_max_right f f2) hf2⟩
  · obtain ⟨f, e⟩ := e
    rcases hc : C f k args h with _ | ⟨v | E, h'⟩ <;> simp only [hc] at e
    · cases e
    · simp only [(G.1.1 _ _ _ _).mpr ⟨f, hc⟩]
      exact (G.2.1 _ _ _ _ _).mpr ⟨f, e⟩
    · simp only [(G.1.1 _ _ _ _).mpr ⟨f, hc⟩]
      rcases ht : zhand hs pc E with _ | t <;> simp only [ht] at e ⊢
      · exact e
      · exact (G.2.1 _ _ _ _ _).mpr ⟨f, e⟩
  · rcases hc : C f k args h with _ | ⟨v | E, h'⟩ <;> simp only [hc] at e
    · cases e
    · simp only [G.1.2 _ _ _ _ _ _ hf hc]
      exact G.2.2 _ _ _ _ _ _ _ hf e
    · simp only [G.1.2 _ _ _ _ _ _ hf hc]
      rcases ht : zhand hs pc E with _ | t <;> simp only [ht] at e ⊢
      · exact e
      · exact G.2.2 _ _ _ _ _ _ _ hf e
theorem zGd_rcv {h : zH} {ci N : Nat} {s : List zV} {T : zC → zF → Option zO} (a : zGd C F c g T) : zGd C F c g (fun y z => zrcv h ci N s (T y z)) := by
  rcases s with _ | ⟨v, s⟩
  · exact zGd_k none
  · rcases v with x | x | x | x
    · exact zGd_k none
    · exact zGd_k none
    · exact zGd_ck a
    · exact zGd_k none
theorem zGd_ins (G : zGr C F c g) (hs : List (Nat × Nat × Nat × Nat)) (pc : Nat) (i : Instr) (as : List Nat) (loc : List (Option zV)) (stk : List zV) (h : zH) : zGd C F c g (fun y z => zins y z hs pc i as loc stk h) := by
  have hr := zGd_r G
  have hc := zGd_call G
  cases i with
  | ifCond cc o => cases cc <;> exact zGd_pI fun x s => zGd_if (hr _ _ _ _) (hr _ _ _ _)
  | if_icmp cc o => cases cc <;> exact zGd_pI fun x s => zGd_pI fun y s => zGd_if (hr _ _ _ _) (hr _ _ _ _)
  | arraylength =>
    refine zGd_pA (T := fun y z v s => match v with
      | .inr (.inr (.inl a)) => zck ((zkd h a).1 ≠ 0 ∧ (zkd h a).1 < 6) (z (pc + 1) loc (zI (Int32.ofNat (zkd h a).2) :: s) h)
      | .inr (.inr (.inr k)) => zck (k = 0) (z (pc + 1) loc (zI (Int32.ofNat (zln h)) :: s) h)
      | _ => none) fun v s => ?_
    rcases v with x | x | x | x
    · exact zGd_k none
    · exact zGd_k none
    all_goals exact zGd_ck (hr _ _ _ _)
  | iaload =>
    refine zGd_pI fun j s => zGd_pA fun v s => ?_
    rcases v with x | x | x | x
    · exact zGd_k none
    · exact zGd_k none
    all_goals exact zGd_ck (hr _ _ _ _)
  | invokevirtual n =>
    refine zGd_if (zGd_pA fun v s => ?_) (zGd_if (zGd_pI fun j s => zGd_pA fun v s => ?_) (zGd_rcv (hc _ _ _ _ _ _ _)))
    all_goals
      rcases v with x | x | x | x
      · exact zGd_k none
      · exact zGd_k none
      · exact zGd_k none
      · exact zGd_ck (hr _ _ _ _)
  | invokespecial n => exact zGd_if (zGd_pR fun v s => zGd_ck (hr _ _ _ _)) (zGd_if (zGd_k none) (zGd_rcv (hc _ _ _ _ _ _ _)))
  | invokestatic n =>
    exact zGd_if (zGd_pI fun y s => zGd_pI fun x s => zGd_ck (hr _ _ _ _)) (zGd_if (zGd_pI fun y s => zGd_pI fun x s => zGd_ck (hr _ _ _ _))
      (zGd_if (zGd_pI fun n s => zGd_pI fun dp s => zGd_pR fun b s => zGd_pI fun sp s => zGd_pR fun a s => zGd_ck (hr _ _ _ _)) (zGd_ck (hc _ _ _ _ _ _ _))))
  | aastore => exact zGd_pR fun r s => zGd_pI fun j s => zGd_pR fun a s => zGd_ck (p := (zkd h a).1 = 5 ∧ zkd h r = (11, 7) ∧ ¬ (j < 0 ∨ (zkd h a).2 ≤ j.toNatClampNeg)) (hr _ _ _ _)
  | new n => exact zGd_if (zGd_ck (zGd_k _)) (hr _ _ _ _)
  | ldc n => exact zGd_if (hr _ _ _ _) (hr _ _ _ _)
  | getfield n => exact zGd_pR fun a s => zGd_ck (zGd_if (hr _ _ _ _) (hr _ _ _ _))
  | putfield n => exact zGd_if (zGd_pR fun r s => zGd_pR fun a s => zGd_ck (hr _ _ _ _)) (zGd_pI fun r s => zGd_pR fun a s => zGd_ck (hr _ _ _ _))
  | ifnonnull n => exact zGd_pR fun a s => zGd_if (hr _ _ _ _) (hr _ _ _ _)
  | tableswitch d lo hi os => exact zGd_pI fun a s => zGd_if (hr _ _ _ _) (hr _ _ _ _)
  | aload_n n => exact zGd_lA (T := fun y z v => z (pc + 1) loc (v :: stk) h) fun v => hr (pc + 1) loc (v :: stk) h
  | aload n => exact zGd_lA (T := fun y z v => z (pc + 2) loc (v :: stk) h) fun v => hr (pc + 2) loc (v :: stk) h
  | astore_n n => exact zGd_pA (T := fun y z v s => zs1 loc (n : Nat) v fun l => z (pc + 1) l s h) fun v s => zGd_s1 (T := fun y z l => z (pc + 1) l s h) fun l => hr _ _ _ _
  | astore n => exact zGd_pA (T := fun y z v s => zs1 loc n v fun l => z (pc + 2) l s h) fun v s => zGd_s1 (T := fun y z l => z (pc + 2) l s h) fun l => hr _ _ _ _
  | pop => exact zGd_p1 (T := fun y z v s => z (pc + 1) loc s h) fun v s => hr _ _ _ _
  | dup => exact zGd_p1 (T := fun y z v s => z (pc + 1) loc (v :: v :: s) h) fun v s => hr _ _ _ _
  | dup2 => exact zGd_p1 (T := fun y z v s => zp1 s fun w s => z (pc + 1) loc (v :: w :: v :: w :: s) h) fun v s => zGd_p1 (T := fun y z w s => z (pc + 1) loc (v :: w :: v :: w :: s) h) fun w s => hr _ _ _ _
  | _ =>
    first
    | exact zGd_k _
    | exact hr _ _ _ _
    | exact zGd_lI fun _ => hr _ _ _ _
    | exact zGd_lL fun _ => hr _ _ _ _
    | exact zGd_lA fun _ => hr _ _ _ _
    | exact zGd_lI fun _ => zGd_s1 fun _ => hr _ _ _ _
    | exact zGd_pI fun _ _ => zGd_s1 fun _ => hr _ _ _ _
    | exact zGd_pA fun _ _ => zGd_s1 fun _ => hr _ _ _ _
    | exact zGd_pL fun _ _ => zGd_s2 fun _ => hr _ _ _ _
    | exact zGd_pI fun _ _ => hr _ _ _ _
    | exact zGd_pL fun _ _ => hr _ _ _ _
    | exact zGd_p1 fun _ _ => hr _ _ _ _
    | exact zGd_p1 fun _ _ => zGd_p1 fun _ _ => hr _ _ _ _
    | exact zGd_pI fun _ _ => zGd_pI fun _ _ => hr _ _ _ _
    | exact zGd_pL fun _ _ => zGd_pL fun _ _ => hr _ _ _ _
    | exact zGd_pI fun _ _ => zGd_pL fun _ _ => hr _ _ _ _
    | exact zGd_pI fun _ _ => zGd_pI fun _ _ => zGd_ck (hr _ _ _ _)
    | exact zGd_pI fun _ _ => zGd_ck (hr _ _ _ _)
    | exact zGd_pI fun _ _ => zGd_pR fun _ _ => zGd_ck (hr _ _ _ _)
    | exact zGd_pI fun _ _ => zGd_pI fun _ _ => zGd_pR fun _ _ => zGd_ck (hr _ _ _ _)
    | exact zGd_pL fun _ _ => zGd_pI fun _ _ => zGd_pR fun _ _ => zGd_ck (hr _ _ _ _)
end ZGD
section ZEV
variable (P : zPg)
theorem zex_up : ∀ (f f' M pc : Nat) (l : List (Option zV)) (s : List zV) (h : zH) (r : zO), f ≤ f' → zex P f M pc l s h = some r → zex P f' M pc l s h = some r := by
  intro f
  induction f with
  | zero => intro f' M pc l s h r _ e; cases e
  | succ f ih =>
    intro f' M pc l s h r hf e
    obtain ⟨f', rfl⟩ : ∃ k, f' = k + 1 := ⟨f' - 1, by omega⟩
    have hf : f ≤ f' := by omega
    -- the two meanings as a family of two
    have hck : ∀ (c : Prop) [Decidable c] (T U : Option zO) (r : zO), (T = some r → U = some r) → zck c T = some r → zck c U = some r := by
      intro c _ T U r hTU q
      by_cases hc : c
      · simp only [zck, if_pos hc] at q ⊢; exact hTU q
      · simp only [zck, if_neg hc] at q; cases q
    have G : zGr (fun n k args h => if n = 0 then zck ((zarg args).length ≤ (P k).1) (zex P f k 0 (zloc (P k).1 args) [] h) else zck ((zarg args).length ≤ (P k).1) (zex P f' k 0 (zloc (P k).1 args) [] h)) (fun n => if n = 0 then zex P f M else zex P f' M) (fun k args h => zck ((zarg args).length ≤ (P k).1) (zex P f' k 0 (zloc (P k).1 args) [] h)) (zex P f' M) := by
      refine ⟨⟨fun k a h r => ⟨fun q => ⟨1, q⟩, fun ⟨n, q⟩ => ?_⟩, fun k a h r n n' hn q => ?_⟩, ⟨fun pc l s h r => ⟨fun q => ⟨1, q⟩, fun ⟨n, q⟩ => ?_⟩, fun pc l s h r n n' hn q => ?_⟩⟩
      · by_cases n0 : n = 0
        · simp only [if_pos n0] at q; exact hck _ _ _ _ (fun q => ih _ _ _ _ _ _ _ hf q) q
        · simp only [if_neg n0] at q; exact q
      · by_cases n0 : n = 0
        · simp only [if_pos n0] at q
          by_cases n1 : n' = 0
          · simp only [if_pos n1]; exact q
          · simp only [if_neg n1]; exact hck _ _ _ _ (fun q => ih _ _ _ _ _ _ _ hf q) q
        · simp only [if_neg n0] at q
          simp only [if_neg (show ¬ n' = 0 by omega)]; exact q
      · by_cases n0 : n = 0
        · simp only [if_pos n0] at q; exact ih _ _ _ _ _ _ _ hf q
        · simp only [if_neg n0] at q; exact q
      · by_cases n0 : n = 0
        · simp only [if_pos n0] at q
          by_cases n1 : n' = 0
          · simp only [if_pos n1]; exact q
          · simp only [if_neg n1]; exact ih _ _ _ _ _ _ _ hf q
        · simp only [if_neg n0] at q
          simp only [if_neg (show ¬ n' = 0 by omega)]; exact q
    show zst P _ _ M pc l s h = some r
    have e : zst P (fun k args h => zck ((zarg args).length ≤ (P k).1) (zex P f k 0 (zloc (P k).1 args) [] h)) (zex P f M) M pc l s h = some r := e
    unfold zst at e ⊢
    cases hq : (P M).2.2.getD pc none with
    | none => rw [hq] at e; cases e
    | some q =>
      rw [hq] at e
      exact ((zGd_ins G (P M).2.1 pc q.1 q.2 l s h).1 r).mpr ⟨0, e⟩
noncomputable def zev (M pc : Nat) (l : List (Option zV)) (s : List zV) (h : zH) : Option zO :=
  @dite (Option zO) (∃ r : zO, ∃ f, zex P f M pc l s h = some r) (Classical.propDecidable _) (fun q => some (Classical.choose q)) (fun _ => none)
theorem zev_iff {M pc : Nat} {l : List (Option zV)} {s : List zV} {h : zH} {r : zO} : zev P M pc l s h = some r ↔ ∃ f, zex P f M pc l s h = some r := by
  unfold zev
  by_cases q : ∃ r : zO, ∃ f, zex P f M pc l s h = some r
  · rw [dif_pos q]
    obtain ⟨f, hf⟩ := Classical.choose_spec q
    constructor
    · intro e; cases e; exact ⟨f, hf⟩
    · rintro ⟨f2, hf2⟩
      have a := zex_up P _ _ _ _ _ _ _ _ (Nat.le_max_left f f2) hf
      have b := zex_up P _ _ _ _ _ _ _ _ (Nat.le_max_right f f2) hf2
      exact a.symm.trans b
  · rw [dif_neg q]
    exact ⟨fun e => (by cases e), fun e => absurd ⟨r, e⟩ q⟩
noncomputable def zcl : zC := fun k args h => zck ((zarg args).length ≤ (P k).1) (zev P k 0 (zloc (P k).1 args) [] h)
theorem zgr (M : Nat) : zGr (fun f k args h => zck ((zarg args).length ≤ (P k).1) (zex P f k 0 (zloc (P k).1 args) [] h)) (fun f => zex P f M) (zcl P) (zev P M) := by
  refine ⟨⟨fun k a h r => ?_, fun k a h r f f' hf q => ?_⟩, ⟨fun _ _ _ _ _ => zev_iff P, fun _ _ _ _ _ _ _ hf q => zex_up P _ _ _ _ _ _ _ _ hf q⟩⟩
  · unfold zcl
    by_cases c : (zarg a).length ≤ (P k).1
    · simp only [zck, if_pos c]; exact zev_iff P
    · simp only [zck, if_neg c]
      constructor
      · intro e; cases e
      · rintro ⟨f, e⟩; cases e
  · by_cases c : (zarg a).length ≤ (P k).1
    · simp only [zck, if_pos c] at q ⊢; exact zex_up P _ _ _ _ _ _ _ _ hf q
    · simp only [zck, if_neg c] at q; cases q
theorem zev_eq (M pc : Nat) (l : List (Option zV)) (s : List zV) (h : zH) : zev P M pc l s h = zst P (zcl P) (zev P M) M pc l s h := by
  refine Option.ext fun r => (zev_iff P).trans ?_
  have key : zst P (zcl P) (zev P M) M pc l s h = some r ↔ ∃ f, zst P (fun k args h => zck ((zarg args).length ≤ (P k).1) (zex P f k 0 (zloc (P k).1 args) [] h)) (zex P f M) M pc l s h = some r := by
    unfold zst
    cases hq : (P M).2.2.getD pc none with
    | none =>
      constructor
      · intro e; cases e
      · rintro ⟨f, e⟩; cases e
    | some q => exact (zGd_ins (zgr P M) (P M).2.1 pc q.1 q.2 l s h).1 r
  rw [key]
  constructor
  · rintro ⟨f, e⟩
    cases f with
    | zero => cases e
    | succ f => exact ⟨f, e⟩
  · rintro ⟨f, e⟩
    exact ⟨f + 1, e⟩
/-- n rows in one go -/
noncomputable def zrn : Nat → Nat → zF
  | 0 => fun M => zev P M
  | n + 1 => fun M pc l s h => zst P (zcl P) (zrn n M) M pc l s h
theorem zrn_eq (n M pc : Nat) (l : List (Option zV)) (s : List zV) (h : zH) : zev P M pc l s h = zrn P n M pc l s h := by
  have hf : ∀ n, zrn P n M = zev P M := by
    intro n
    induction n with
    | zero => rfl
    | succ n ih =>
      funext pc l s h
      show zst P (zcl P) (zrn P n M) M pc l s h = _
      rw [ih, ← zev_eq]
  rw [hf]
/-- rows in one go up to given rows -/
noncomputable def zrq (S : List Nat) : Nat → Nat → zF
  | 0 => fun M => zev P M
  | n + 1 => fun M pc l s h => bif S.contains pc then zev P M pc l s h else zst P (zcl P) (zrq S n M) M pc l s h
theorem zrq_is (S : List Nat) (n M : Nat) : zrq P S n M = zev P M := by
  induction n with
  | zero => rfl
  | succ n ih =>
    funext pc l s h
    show (bif S.contains pc then zev P M pc l s h else zst P (zcl P) (zrq P S n M) M pc l s h) = _
    rw [ih, ← zev_eq]
    cases S.contains pc <;> rfl
theorem zrq_eq (S : List Nat) (n M pc : Nat) (l : List (Option zV)) (s : List zV) (h : zH) : zev P M pc l s h = zst P (zcl P) (zrq P S n M) M pc l s h := by
  rw [zrq_is, ← zev_eq]
end ZEV
