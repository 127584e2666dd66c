set_option maxRecDepth 16384
theorem zSf_step {h h0 : zH} (l : zle h h0) {T : Option zO} (a : zSf h0 T) : zSf h T := fun r h' e => by
  obtain ⟨w, g, o⟩ := a r h' e
  exact ⟨w, l.tr g, o⟩
theorem zSf_rcv {h : zH} {ci N : Nat} {s : List zV} {T : Option zO} (a : zSf h T) : zSf h (zrcv h ci N s T) := by
  rcases s with _ | ⟨v, s⟩
  · exact zSf_none
  · rcases v with x | x | x | x
    · exact zSf_none
    · exact zSf_none
    · exact zSf_ck fun _ => a
    · exact zSf_none
theorem zSf_ins {cal : zC} {rec : zF} (hc : ∀ k a h, zwf h → zoks h a → zSf h (cal k a h)) (hr : ∀ pc l s h, zwf h → zokl h l → zoks h s → zSf h (rec pc l s h)) (hs : List (Nat × Nat × Nat × Nat)) (pc : Nat) (i : Instr) (as : List Nat) {loc : List (Option zV)} {stk : List zV} {h : zH} (w : zwf h) (ol : zokl h loc) (os : zoks h stk) : zSf h (zins cal rec hs pc i as loc stk h) := by
  have hr1 : ∀ pc l s, zokl h l → zoks h s → zSf h (rec pc l s h) := fun pc l s a b => hr pc l s h w a b
  have oI : ∀ (x : Int32) (s : List zV), zoks h s → zoks h (zI x :: s) := fun x s o => zoks.cons (v := zI x) trivial o
  have oL : ∀ (x : Int64) (s : List zV), zoks h s → zoks h (zL x :: s) := fun x s o => zoks.cons (v := zL x) trivial o
  cases i with
  | iconst n => exact hr1 _ _ _ ol (oI _ _ os)
  | bipush n => exact hr1 _ _ _ ol (oI _ _ os)
  | sipush n => exact hr1 _ _ _ ol (oI _ _ os)
  | lconst n => exact hr1 _ _ _ ol (oL _ _ os)
  | ldc n => exact zSf_if (fun _ => hr1 _ _ _ ol (zoks.cons (v := zX _) trivial os)) (fun _ => hr1 _ _ _ ol (oI _ _ os))
  | ldc2_w n => exact hr1 _ _ _ ol (oL _ _ os)
  | iload_n n => exact zSf_lI fun x => hr1 _ _ _ ol (oI _ _ os)
  | iload n => exact zSf_lI fun x => hr1 _ _ _ ol (oI _ _ os)
  | lload_n n => exact zSf_lL fun x => hr1 _ _ _ ol (oL _ _ os)
  | aload_n n => exact zSf_lA ol fun x ox => hr1 _ _ _ ol (zoks.cons ox os)
  | aload n => exact zSf_lA ol fun x ox => hr1 _ _ _ ol (zoks.cons ox os)
  | istore_n n => exact zSf_pI os fun x s o => zSf_s1 ol (v := zI x) trivial fun l ol => hr1 _ _ _ ol o
  | istore n => exact zSf_pI os fun x s o => zSf_s1 ol (v := zI x) trivial fun l ol => hr1 _ _ _ ol o
  | lstore_n n => exact zSf_pL os fun x s o => zSf_s2 ol (v := zL x) trivial fun l ol => hr1 _ _ _ ol o
  | astore_n n => exact zSf_pA os fun x s ox o => zSf_s1 ol ox fun l ol => hr1 _ _ _ ol o
  | astore n => exact zSf_pA os fun x s ox o => zSf_s1 ol ox fun l ol => hr1 _ _ _ ol o
  | iinc n d => exact zSf_lI fun x => zSf_s1 ol (v := zI _) trivial fun l ol => hr1 _ _ _ ol os
  | iadd => exact zSf_pI os fun y s o => zSf_pI o fun x s o => hr1 _ _ _ ol (oI _ _ o)
  | isub => exact zSf_pI os fun y s o => zSf_pI o fun x s o => hr1 _ _ _ ol (oI _ _ o)
  | imul => exact zSf_pI os fun y s o => zSf_pI o fun x s o => hr1 _ _ _ ol (oI _ _ o)
  | idiv => exact zSf_pI os fun y s o => zSf_pI o fun x s o => zSf_ck fun _ => hr1 _ _ _ ol (oI _ _ o)
  | irem => exact zSf_pI os fun y s o => zSf_pI o fun x s o => zSf_ck fun _ => hr1 _ _ _ ol (oI _ _ o)
  | iand => exact zSf_pI os fun y s o => zSf_pI o fun x s o => hr1 _ _ _ ol (oI _ _ o)
  | ior => exact zSf_pI os fun y s o => zSf_pI o fun x s o => hr1 _ _ _ ol (oI _ _ o)
  | ishl => exact zSf_pI os fun y s o => zSf_pI o fun x s o => hr1 _ _ _ ol (oI _ _ o)
  | ishr => exact zSf_pI os fun y s o => zSf_pI o fun x s o => hr1 _ _ _ ol (oI _ _ o)
  | iushr => exact zSf_pI os fun y s o => zSf_pI o fun x s o => hr1 _ _ _ ol (oI _ _ o)
  | land => exact zSf_pL os fun y s o => zSf_pL o fun x s o => hr1 _ _ _ ol (oL _ _ o)
  | lor => exact zSf_pL os fun y s o => zSf_pL o fun x s o => hr1 _ _ _ ol (oL _ _ o)
  | lshl => exact zSf_pI os fun y s o => zSf_pL o fun x s o => hr1 _ _ _ ol (oL _ _ o)
  | lshr => exact zSf_pI os fun y s o => zSf_pL o fun x s o => hr1 _ _ _ ol (oL _ _ o)
  | lushr => exact zSf_pI os fun y s o => zSf_pL o fun x s o => hr1 _ _ _ ol (oL _ _ o)
  | lcmp => exact zSf_pL os fun y s o => zSf_pL o fun x s o => hr1 _ _ _ ol (oI _ _ o)
  | i2l => exact zSf_pI os fun x s o => hr1 _ _ _ ol (oL _ _ o)
  | l2i => exact zSf_pL os fun x s o => hr1 _ _ _ ol (oI _ _ o)
  | i2b => exact zSf_pI os fun x s o => hr1 _ _ _ ol (oI _ _ o)
  | dup => exact zSf_p1 os fun x s ox o => hr1 _ _ _ ol (zoks.cons ox (zoks.cons ox o))
  | dup2 => exact zSf_p1 os fun x s ox o => zSf_p1 o fun y s oy o => hr1 _ _ _ ol (zoks.cons ox (zoks.cons oy (zoks.cons ox (zoks.cons oy o))))
  | pop => exact zSf_p1 os fun x s ox o => hr1 _ _ _ ol o
  | pop2 => exact zSf_pL os fun x s o => hr1 _ _ _ ol o
  | goto n => exact hr1 _ _ _ ol os
  | ifCond cc n => cases cc <;> exact zSf_pI os fun x s o => zSf_if (fun _ => hr1 _ _ _ ol o) (fun _ => hr1 _ _ _ ol o)
  | if_icmp cc n => cases cc <;> exact zSf_pI os fun y s o => zSf_pI o fun x s o => zSf_if (fun _ => hr1 _ _ _ ol o) (fun _ => hr1 _ _ _ ol o)
  | ifnonnull n => exact zSf_pR os fun x s ox o => zSf_if (fun _ => hr1 _ _ _ ol o) (fun _ => hr1 _ _ _ ol o)
  | tableswitch d lo hi offs => exact zSf_pI os fun x s o => zSf_if (fun _ => hr1 _ _ _ ol o) (fun _ => hr1 _ _ _ ol o)
  | getfield n => exact zSf_pR os fun a s oa o => zSf_ck fun _ => zSf_if (fun _ => hr1 _ _ _ ol (zoks.cons (v := zR _) (w.2.1 _ _) o)) (fun _ => hr1 _ _ _ ol (oI _ _ o))
  | putfield n =>
    refine zSf_if (fun _ => zSf_pR os fun r s orr o => zSf_pR o fun a s oa o => zSf_ck fun _ => ?_) (fun _ => zSf_pI os fun x s o => zSf_pR o fun a s oa o => zSf_ck fun hk => ?_)
    · exact hr _ _ _ _ (w.sR orr) ol o
    · exact hr _ _ _ _ (w.sI fun q => by rw [hk.1] at q; exact absurd q (by show ¬ 10 + as.getD 0 0 = 1; omega)) ol o
  | new n =>
    refine zSf_if (fun _ => ?_) (fun _ => ?_)
    · refine zSf_ck fun _ => ?_
      intro r h' e
      cases e
      exact ⟨w, ⟨Nat.le_refl _, Nat.le_succ _, Nat.le_add_right _ _, rfl⟩, trivial⟩
    · exact zSf_step (h0 := znew h _ _) ⟨Nat.le_succ _, Nat.le_succ _, Nat.le_add_right _ _, rfl⟩ (hr _ _ _ _ w.new (ol.up (Nat.le_succ _)) (zoks.cons (v := zR _) (Nat.le_refl _) (os.up (Nat.le_succ _))))
  | newarray n => exact zSf_pI os fun x s o => zSf_ck fun _ => zSf_step (h0 := znew h _ _) ⟨Nat.le_succ _, Nat.le_succ _, Nat.le_add_right _ _, rfl⟩ (hr _ _ _ _ w.new (ol.up (Nat.le_succ _)) (zoks.cons (v := zR _) (Nat.le_refl _) (o.up (Nat.le_succ _))))
  | anewarray n => exact zSf_pI os fun x s o => zSf_ck fun _ => zSf_step (h0 := znew h _ _) ⟨Nat.le_succ _, Nat.le_succ _, Nat.le_add_right _ _, rfl⟩ (hr _ _ _ _ w.new (ol.up (Nat.le_succ _)) (zoks.cons (v := zR _) (Nat.le_refl _) (o.up (Nat.le_succ _))))
  | arraylength =>
    rcases stk with _ | ⟨x | x | x | x, s⟩
    · exact zSf_none
    · exact zSf_none
    · exact zSf_none
    all_goals exact zSf_ck fun _ => hr1 _ _ _ ol (oI _ _ os.tl)
  | iaload =>
    refine zSf_pI os fun j s o => zSf_pA o fun v s ov o => ?_
    rcases v with x | x | x | x
    · exact zSf_none
    · exact zSf_none
    all_goals exact zSf_ck fun _ => hr1 _ _ _ ol (oI _ _ o)
  | iastore => exact zSf_pI os fun x s o => zSf_pI o fun j s o => zSf_pR o fun a s oa o => zSf_ck fun hk => hr _ _ _ _ (w.sI fun q => absurd (hk.1.symm.trans q) (by decide)) ol o
  | baload => exact zSf_pI os fun j s o => zSf_pR o fun a s oa o => zSf_ck fun hk => hr1 _ _ _ ol (oI _ _ o)
  | bastore => exact zSf_pI os fun x s o => zSf_pI o fun j s o => zSf_pR o fun a s oa o => zSf_ck fun hk => hr _ _ _ _ (w.sI fun _ => zbyte x) ol o
  | laload => exact zSf_pI os fun j s o => zSf_pR o fun a s oa o => zSf_ck fun hk => hr1 _ _ _ ol (oL _ _ o)
  | lastore => exact zSf_pL os fun x s o => zSf_pI o fun j s o => zSf_pR o fun a s oa o => zSf_ck fun hk => hr _ _ _ (zsL h a j.toNatClampNeg x) w ol o
  | aaload => exact zSf_pI os fun j s o => zSf_pR o fun a s oa o => zSf_ck fun hk => hr1 _ _ _ ol (zoks.cons (v := zR _) (w.2.1 _ _) o)
  | aastore => exact zSf_pR os fun r s orr o => zSf_pI o fun j s o => zSf_pR o fun a s oa o => zSf_ck fun hk => hr _ _ _ _ (w.sR orr) ol o
  | invokespecial n => exact zSf_if (fun _ => zSf_pR os fun v s ov o => zSf_ck fun _ => hr1 _ _ _ ol o) (fun _ => zSf_if (fun _ => zSf_none) (fun _ => zSf_rcv (zSf_call hc hr _ _ _ w ol (os.take _) (os.drop _))))
  | invokevirtual n =>
    refine zSf_if (fun _ => zSf_pA os fun v s ov o => ?_) (fun _ => zSf_if (fun _ => zSf_pI os fun j s o => zSf_pA o fun v s ov o => ?_) (fun _ => zSf_rcv (zSf_call hc hr _ _ _ w ol (os.take _) (os.drop _))))
    all_goals
      rcases v with x | x | x | x
      · exact zSf_none
      · exact zSf_none
      · exact zSf_none
      · exact zSf_ck fun _ => hr1 _ _ _ ol (oI _ _ o)
  | invokestatic n =>
    refine zSf_if (fun _ => zSf_pI os fun y s o => zSf_pI o fun x s o => zSf_ck fun _ => hr1 _ _ _ ol (oI _ _ o)) (fun _ => zSf_if (fun _ => zSf_pI os fun y s o => zSf_pI o fun x s o => zSf_ck fun _ => hr1 _ _ _ ol (oI _ _ o))
      (fun _ => zSf_if (fun _ => zSf_pI os fun n s o => zSf_pI o fun dp s o => zSf_pR o fun b s ob o => zSf_pI o fun sp s o => zSf_pR o fun a s oa o => zSf_ck fun hk => ?_) (fun _ => zSf_ck fun _ => zSf_call hc hr _ _ _ w ol (os.take _) (os.drop _))))
    refine hr _ _ _ _ (w.sA fun hb j => ?_) ol o
    unfold va_cpy
    by_cases q : dp.toNatClampNeg ≤ j ∧ j < dp.toNatClampNeg + n.toNatClampNeg
    · rw [if_pos q]; exact w.2.2 _ _ hk.1
    · rw [if_neg q]; exact w.2.2 _ _ hb
  | ireturn =>
    rcases stk with _ | ⟨x | x | x | x, _ | ⟨y, s⟩⟩
    · exact zSf_none
    · exact zSf_ck fun _ r h' e => by cases e; exact ⟨w, zle.rf, trivial⟩
    all_goals exact zSf_none
  | lreturn =>
    rcases stk with _ | ⟨x | x | x | x, _ | ⟨y, s⟩⟩
    · exact zSf_none
    · exact zSf_none
    · exact zSf_none
    · exact fun r h' e => by cases e; exact ⟨w, zle.rf, trivial⟩
    all_goals exact zSf_none
  | areturn =>
    rcases stk with _ | ⟨x | x | x | x, _ | ⟨y, s⟩⟩
    · exact zSf_none
    · exact zSf_none
    · exact zSf_none
    · exact zSf_none
    · exact zSf_none
    · exact fun r h' e => by cases e; exact ⟨w, zle.rf, os.hd⟩
    all_goals exact zSf_none
  | return_ =>
    rcases stk with _ | ⟨x, s⟩
    · exact fun r h' e => by cases e; exact ⟨w, zle.rf, trivial⟩
    · exact zSf_none
  | _ => exact zSf_none
theorem zex_wf (P : zPg) : ∀ (f M pc : Nat) (l : List (Option zV)) (s : List zV) (h : zH), zwf h → zokl h l → zoks h s → zSf h (zex P f M pc l s h) := by
  intro f
  induction f with
  | zero => intro M pc l s h _ _ _; exact zSf_none
  | succ f ih =>
    intro M pc l s h w ol os
    show zSf h (zst P (fun k args h => zck ((zarg args).length ≤ (P k).1) (zex P f k 0 (zloc (P k).1 args) [] h)) (zex P f M) M pc l s h)
    unfold zst
    cases (P M).2.2.getD pc none with
    | none => exact zSf_none
    | some q => exact zSf_ins (fun k a h w o => zSf_ck fun _ => ih k 0 _ _ h w (zloc_ok o) zoks.nil) (fun pc l s h w a b => ih M pc l s h w a b) _ _ _ _ w ol os
