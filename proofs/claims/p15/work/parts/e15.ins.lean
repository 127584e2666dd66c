set_option maxRecDepth 16384
section ZINS2
variable {E : zEnv} {M : Nat} {p : Program} {l : Launch} {e : Env} {R : Room} {s : State} {m : MethodId} {args : Array Value} {below : List Frame} {meth : Method} {c : Code} {Q : State → Prop} {c0 s0 n0 : Nat} {ad0 ea0 : Nat → Nat}

theorem zmap_set {α : Type} {f f' : Nat → α} {n k : Nat} {v : α} (hk : f' k = v) (hne : ∀ j, j ≠ k → f' j = f j) : ((List.range n).map f).set k v = (List.range n).map f' := by
  refine List.ext_getElem? fun j => ?_
  rw [List.getElem?_set, List.length_map, List.length_range, List.getElem?_map, List.getElem?_map]
  by_cases q : k = j
  · subst q
    rw [if_pos rfl]
    by_cases q2 : k < n
    · rw [if_pos q2, List.getElem?_range q2]; simp [hk]
    · rw [if_neg q2, List.getElem?_eq_none (by rw [List.length_range]; omega)]; rfl
  · rw [if_neg q]
    by_cases q2 : j < n
    · rw [List.getElem?_range q2]; simp [hne j (Ne.symm q)]
    · rw [List.getElem?_eq_none (by rw [List.length_range]; omega)]; rfl
theorem zdef_ok : ∀ ci, ci < 6 → ∀ k, k < zNn ci → defaultValue (zty ci k) = (if zft ci k = 2 then .null else .int 0) := by decide +kernel
theorem zokf_spec {own : String} {n : Nat} {as : List Nat} (h : zokf own n as = true) : as.getD 0 0 < 6 ∧ as.getD 1 0 = zNn (as.getD 0 0) ∧ as.getD 2 0 < as.getD 1 0 ∧ as.getD 3 0 = zft (as.getD 0 0) (as.getD 2 0) ∧
    ((as.getD 5 0 = 0 ∧ Cond.fieldLink own n (z7T (as.getD 0 0) (as.getD 2 0)).1 (z7T (as.getD 0 0) (as.getD 2 0)).2.1 (z7T (as.getD 0 0) (as.getD 2 0)).2.2.1 ∈ zgw) ∨ (as.getD 5 0 ≠ 0 ∧ Cond.fieldLinkNest own n (z7T (as.getD 0 0) (as.getD 2 0)).1 (z7T (as.getD 0 0) (as.getD 2 0)).2.1 (z7T (as.getD 0 0) (as.getD 2 0)).2.2.1 RX8 ∈ znw)) := by
  unfold zokf at h
  rw [Bool.and_eq_true, decide_eq_true_eq] at h
  obtain ⟨⟨h1, h2, h3, h4⟩, h5⟩ := h
  refine ⟨h1, h2, h3, h4, ?_⟩
  by_cases q : as.getD 5 0 = 0
  · rw [if_pos q] at h5; exact Or.inl ⟨q, zw_good h5⟩
  · rw [if_neg q] at h5; exact Or.inr ⟨q, zwn_nest h5 rfl⟩
theorem zK_uni {D : va_G} {tys : List (ClassId × FieldType)} {cA cB : ClassId} {ty : FieldType} (h1 : va_K D zcs tys s) {k : Nat} (hk : tys[k]? = some (cB, ty)) (h2 : va_K D zcs (tys ++ [(cA, ty)]) s) : cA = cB := by
  have a := (h1.2 k _ hk).2
  have b := (h2.2 tys.length (cA, ty) (by simp)).2
  cases ty with
  | object C =>
    obtain ⟨_, _, _, _, _, q⟩ := a
    obtain ⟨_, _, _, _, _, q2⟩ := b
    exact Option.some.inj (q2.symm.trans q)
  | _ => exact Option.some.inj (Eq.trans (Eq.symm b) a)
/-- a new object: the world behind it -/
theorem z_grow {ad : Nat → Nat} {h : zH} {k n q : Nat} {x : va_E} (w : zwf h) (hx : ∀ ad', zent (zeK E) ad' (znew h k n) (zn h + 1) = x) : zws (zeK E) ad h ++ [(q, x)] = zws (zeK E) (fun b => if b = zn h + 1 then q else ad b) (znew h k n) := by
  have hadn : ∀ b, b ≤ zn h → (fun b => if b = zn h + 1 then q else ad b) b = ad b := fun b hb => by
    show (if b = zn h + 1 then q else ad b) = ad b
    rw [if_neg (by omega)]
  refine zws_push rfl hadn (fun b _ hb => zent_new w hadn hb) ?_ (hx _).symm
  show q = if zn h + 1 = zn h + 1 then q else _
  rw [if_pos rfl]
theorem z_grown {nL : Nat} {H0 : Heap} {ad ea : Nat → Nat} {loc : List (Option zV)} {stk stk' : List zV} {h : zH} {H H1 : Heap} {locs : List Loc} {ls : Array Slot} {k n q : Nat} {x : va_E} (a : zAt E nL H0 ad ea loc stk h H locs ls) (hx : ∀ ad', zent (zeK E) ad' (znew h k n) (zn h + 1) = x) (o : zoks h stk')
    (hP : va_P (zeD E) zcs (zws (zeK E) ad h ++ [(q, x)]) H1) (hD : va_D (zeA E) (zws (zeK E) ad h ++ [(q, x)])) (hS : va_S (zeA E) H0 H1 locs) : zAt E nL H0 (fun b => if b = zn h + 1 then q else ad b) ea loc (zR (zn h + 1) :: stk') (znew h k n) H1 locs ls := by
  rw [z_grow a.1 hx] at hP hD
  have hadn : ∀ b, b ≤ zn h → (fun b => if b = zn h + 1 then q else ad b) b = ad b := fun b hb => by
    show (if b = zn h + 1 then q else ad b) = ad b
    rw [if_neg (by omega)]
  exact ⟨a.1.new, a.2.1.up (Nat.le_succ _), zoks.cons (v := zR _) (Nat.le_refl _) (o.up (Nat.le_succ _)), a.2.2.2.1, hP, hD, hS, a.2.2.2.2.2.2.2.up a.2.1 hadn⟩
theorem z_grownv {ad ea : Nat → Nat} {h : zH} {q : Nat} {s1 : List zV} (o : zoks h s1) : (zR (zn h + 1) :: s1).map (zmv (fun b => if b = zn h + 1 then q else ad b) ea) = .ref q :: s1.map (zmv ad ea) := by
  have hadn : ∀ b, b ≤ zn h → (fun b => if b = zn h + 1 then q else ad b) b = ad b := fun b hb => by
    show (if b = zn h + 1 then q else ad b) = ad b
    rw [if_neg (by omega)]
  rw [List.map_cons, zmv_ups o hadn]
  congr 1
  show zrf (fun b => if b = zn h + 1 then q else ad b) (zn h + 1) = .ref q
  rw [zrf_pos (Nat.succ_pos _), if_pos rfl]
theorem zbool_n {x : Int32} (h : x = 0 ∨ x = 1) : narrow .boolean (.int x) = .int x ∧ fits .boolean (.int x) = true ∧ vp_nar .boolean x = x.toInt8.toInt32 := by
  rcases h with rfl | rfl
  · exact ⟨rfl, rfl, by decide +kernel⟩
  · exact ⟨rfl, rfl, by decide +kernel⟩


/-- the instructions that neither call nor end -/
theorem z_ins {cal : zC} {rec : zF} {out : zO} {pc : Nat} {i : Instr} {as : List Nat} {loc : List (Option zV)} {stk : List zV} {h : zH}
    (Cx : zCx E M p l R s m args meth c ea0)
    (hrec : ∀ pc' loc' stk' h', rec pc' loc' stk' h' = some out → zGo E M p l e R s m args below meth c Q c0 s0 n0 ad0 ea0 pc' loc' stk' h')
    (hmon : ∀ pc' loc' stk' h', rec pc' loc' stk' h' = some out → zwf h' → zokl h' loc' → zoks h' stk' → zle h' out.2)
    (hRc : zcn out.2 ≤ R.cells + c0) (hRs : zsn out.2 ≤ R.slots + s0)
    (hzi : zoki M pc i as = true)
    (hret : zRet E M p l e R s m args below meth c Q c0 s0 n0 ad0 out) (hthr : zThr E M p l e R s m args below meth c Q c0 s0 n0 ad0 out)
    (hcall : ∀ (n : Nat), (i = .invokevirtual n ∨ i = .invokespecial n ∨ i = .invokestatic n) → zins cal rec (zP M).2.1 pc i as loc stk h = some out → zGo E M p l e R s m args below meth c Q c0 s0 n0 ad0 ea0 pc loc stk h)
    (he : zins cal rec (zP M).2.1 pc i as loc stk h = some out) : zGo E M p l e R s m args below meth c Q c0 s0 n0 ad0 ea0 pc loc stk h := by
  intro hn ad ea H locs ls cells slots had hea hA hc hs
  have hcall2 : ∀ (n : Nat), (i = .invokevirtual n ∨ i = .invokespecial n ∨ i = .invokestatic n) → W p l e R s m args below meth c H locs cells slots Q (F0 m pc ls (stk.map (zmv ad ea))) := fun n q => hcall n q he hn ad ea H locs ls cells slots had hea hA hc hs
  obtain ⟨hx, hb, hml, hown, hts, hlk, hnm, htab, hst, hG0, hfr, hlo⟩ := id Cx
  have hG : zG E ea s s.heap := hG0.ea hea
  obtain ⟨hd, hz⟩ := Bool.and_eq_true_iff.mp (by unfold zoki at hzi; exact hzi)
  obtain ⟨hwf, hol, hos, hsc, hP, hD, hS, hls⟩ := id hA
  have hK := hG.1
  have hAs : ∀ q, s.heap.size ≤ q → zeA E q := hG.2.2.2.2.2.2.2.2
  -- the same locals and heap, another stack
  have k : ∀ (pc' : Nat) (stk' : List zV), zoks h stk' → rec pc' loc stk' h = some out → W p l e R s m args below meth c H locs cells slots Q (F0 m pc' ls (stk'.map (zmv ad ea))) := fun pc' stk' o q => hrec _ _ _ _ q hn ad ea H locs ls cells slots had hea (hA.st o) hc hs
  -- other locals
  have kl : ∀ (pc' : Nat) (loc' : List (Option zV)) (stk' : List zV) (ls' : Array Slot), zokl h loc' → zoks h stk' → zls (zml M) ad ea loc' ls' → rec pc' loc' stk' h = some out → W p l e R s m args below meth c H locs cells slots Q (F0 m pc' ls' (stk'.map (zmv ad ea))) := fun pc' loc' stk' ls' ol o z q => hrec _ _ _ _ q hn ad ea H locs ls' cells slots had hea (hA.lo ol o z) hc hs
  -- another heap of the same objects
  have kh : ∀ (pc' : Nat) (stk' : List zV) (h' : zH) (H' : Heap) (locs' : List Loc), zwf h' → zn h' = zn h → h'.1.2.2.2 = h.1.2.2.2 → zcn h' = zcn h → zsn h' = zsn h → zoks h stk' → va_P (zeD E) zcs (zws (zeK E) ad h') H' → va_D (zeA E) (zws (zeK E) ad h') → va_S (zeA E) s.heap H' locs' → rec pc' loc stk' h' = some out → W p l e R s m args below meth c H' locs' cells slots Q (F0 m pc' ls (stk'.map (zmv ad ea))) := fun pc' stk' h' H' locs' w e1 e2 e3 e4 o hP' hD' hS' q => hrec _ _ _ _ q (by rw [e1]; exact hn) ad ea H' locs' ls cells slots had hea (hA.he w e1 e2 o hP' hD' hS') (by rw [e3]; exact hc) (by rw [e4]; exact hs)
  have oI : ∀ (x : Int32) (t : List zV), zoks h t → zoks h (zI x :: t) := fun x t q => zoks.cons (v := zI x) trivial q
  have oL : ∀ (x : Int64) (t : List zV), zoks h t → zoks h (zL x :: t) := fun x t q => zoks.cons (v := zL x) trivial q
  cases i with
  | iconst n => exact lv_iconst hx hb (zdc hd rfl (by decide)) rfl (k _ _ (oI _ _ hos) he)
  | bipush n => exact lv_bipush hx hb (zdc hd rfl (by decide)) rfl (k _ _ (oI _ _ hos) he)
  | sipush n => exact lv_sipush hx hb (zdc hd rfl (by decide)) rfl (k _ _ (oI _ _ hos) he)
  | lconst n => exact lv_lconst hx hb (zdc hd rfl (by decide)) rfl (k _ _ (oL _ _ hos) he)
  | ldc n =>
    have he : (if as.getD 0 0 = 0 then rec (pc + 2) loc (zX (as.getD 1 0 + 1) :: stk) h else rec (pc + 2) loc (zI (Int32.ofNat (as.getD 1 0)) :: stk) h) = some out := he
    have hz : (if as.getD 0 0 = 0 then decide ((zsr[as.getD 1 0]?).map (fun q => (q.1, q.2.1)) = some (zow M, n)) else zw (as.getD 2 0) (.constant (zow M) n (Int32.ofNat (as.getD 1 0)))) = true := hz
    by_cases q : as.getD 0 0 = 0
    · rw [if_pos q] at he hz
      rw [decide_eq_true_eq] at hz
      obtain ⟨t, ht, hq⟩ := Option.map_eq_some_iff.mp hz
      obtain ⟨e1, e2⟩ := Prod.mk.inj hq
      have hR := hG.2.2.2.2.2.1.1 _ _ ht
      rw [e1, e2] at hR
      exact va_ldcS hx hb hown hR (zdc hd rfl (by decide)) (k _ _ (zoks.cons (v := zX _) trivial hos) he)
    · rw [if_neg q] at he hz
      exact lv_ldc hx hb hown (hts _ (zw_good hz)) (zdc hd rfl (by decide)) (k _ _ (oI _ _ hos) he)
  | ldc2_w n => exact lv_ldc2 hx hb hown (hts _ (zw_good hz)) (zdc hd rfl (by decide)) (k _ _ (oL _ _ hos) he)
  | iload_n n =>
    obtain ⟨x, hx1, he⟩ := zlI_some he
    exact lv_iload_n hx hb (zdc hd rfl (by decide)) rfl (hls.at hx1) (k _ _ (oI _ _ hos) he)
  | iload n =>
    obtain ⟨x, hx1, he⟩ := zlI_some he
    exact lv_iload hx hb (zdc hd rfl (by decide)) (hls.at hx1) (k _ _ (oI _ _ hos) he)
  | lload_n n =>
    obtain ⟨x, hx1, he⟩ := zlL_some he
    exact lv_lload_n hx hb (zdc hd rfl (by decide)) rfl (hls.at hx1) (k _ _ (oL _ _ hos) he)
  | aload_n n =>
    have he : zlA loc (n : Nat) (fun v => rec (pc + 1) loc (v :: stk) h) = some out := he
    obtain ⟨x, hx1, he⟩ := zlA_some he
    have K := k _ _ (zoks.cons (hol.get hx1) hos) he
    have L := hls.at hx1
    rcases x with x | x
    · have K : W p l e R s m args below meth c H locs cells slots Q (F0 m (pc + 1) ls (zrf ad x :: stk.map (zmv ad ea))) := K
      have L : ls[(n : Nat)]? = some (.val (zrf ad x)) := L
      unfold zrf at K L
      by_cases q : x = 0
      · rw [if_pos q] at K L; exact lv_aload_nN hx hb (zdc hd rfl (by decide)) rfl L K
      · rw [if_neg q] at K L; exact lv_aload_n hx hb (zdc hd rfl (by decide)) rfl L K
    · exact lv_aload_n hx hb (zdc hd rfl (by decide)) rfl L K
  | aload n =>
    have he : zlA loc (n : Nat) (fun v => rec (pc + 2) loc (v :: stk) h) = some out := he
    obtain ⟨x, hx1, he⟩ := zlA_some he
    have K := k _ _ (zoks.cons (hol.get hx1) hos) he
    have L := hls.at hx1
    rcases x with x | x
    · have K : W p l e R s m args below meth c H locs cells slots Q (F0 m (pc + 2) ls (zrf ad x :: stk.map (zmv ad ea))) := K
      have L : ls[n]? = some (.val (zrf ad x)) := L
      unfold zrf at K L
      by_cases q : x = 0
      · rw [if_pos q] at K L; exact lv_aloadN hx hb (zdc hd rfl (by decide)) L K
      · rw [if_neg q] at K L; exact lv_aload hx hb (zdc hd rfl (by decide)) L K
    · exact lv_aload hx hb (zdc hd rfl (by decide)) L K
  | istore_n n =>
    obtain ⟨x, t, rfl, he⟩ := zpI_some he
    have he : zs1 loc (n : Nat) (zI x) (fun loc' => rec (pc + 1) loc' t h) = some out := he
    obtain ⟨h1, h2, he⟩ := zs1_some he
    exact lv_istore_n hx hb (zdc hd rfl (by decide)) rfl hls.has (by rw [← hls.1]; exact h1) rfl (fun ls' hl' => kl _ _ _ ls' (hol.set (v := zI x) trivial) hos.tl (zls.st1 (v := zI x) hls.1 h1 h2 hl') he)
  | istore n =>
    obtain ⟨x, t, rfl, he⟩ := zpI_some he
    have he : zs1 loc n (zI x) (fun loc' => rec (pc + 2) loc' t h) = some out := he
    obtain ⟨h1, h2, he⟩ := zs1_some he
    exact lv_istore hx hb (zdc hd rfl (by decide)) hls.has (by rw [← hls.1]; exact h1) rfl (fun ls' hl' => kl _ _ _ ls' (hol.set (v := zI x) trivial) hos.tl (zls.st1 (v := zI x) hls.1 h1 h2 hl') he)
  | lstore_n n =>
    obtain ⟨x, t, rfl, he⟩ := zpL_some he
    have he : zs2 loc (n : Nat) (zL x) (fun loc' => rec (pc + 1) loc' t h) = some out := he
    obtain ⟨h1, h2, he⟩ := zs2_some he
    exact lv_lstore_n hx hb (zdc hd rfl (by decide)) rfl hls.has (by rw [← hls.1]; exact h1) rfl (fun ls' hl' => kl _ _ _ ls' (hol.set (v := zL x) trivial).set0 hos.tl (zls.st2 (v := zL x) hls.1 h1 h2 hl') he)
  | astore_n n =>
    have he : zpA stk (fun v t => zs1 loc (n : Nat) v fun loc' => rec (pc + 1) loc' t h) = some out := he
    obtain ⟨v, t, rfl, he⟩ := zpA_some he
    have he : zs1 loc (n : Nat) (.inr (.inr v)) (fun loc' => rec (pc + 1) loc' t h) = some out := he
    obtain ⟨h1, h2, he⟩ := zs1_some he
    have K : ∀ ls', lv_has ls' (zml M) (((n : Nat), zmv ad ea (.inr (.inr v))) :: (zprs ad ea 0 loc).filter (fun q => !(q.1 == (n : Nat)) && !(q.1 + 1 == (n : Nat) && q.2.category == 2))) → W p l e R s m args below meth c H locs cells slots Q (F0 m (pc + 1) ls' (t.map (zmv ad ea))) := fun ls' hl' => kl _ _ _ ls' (hol.set hos.hd) hos.tl (zls.st1 hls.1 h1 h2 hl') he
    rcases v with v | v
    · show W p l e R s m args below meth c H locs cells slots Q (F0 m pc ls (zrf ad v :: t.map (zmv ad ea)))
      by_cases q : v = 0
      · subst q; exact lv_astore_nN hx hb (zdc hd rfl (by decide)) rfl hls.has (by rw [← hls.1]; exact h1) rfl K
      · have e1 : zrf ad v = .ref (ad v) := zrf_pos (Nat.pos_of_ne_zero q)
        have e2 : zmv ad ea (.inr (.inr (.inl v))) = .ref (ad v) := e1
        rw [e2] at K
        rw [e1]
        exact lv_astore_n hx hb (zdc hd rfl (by decide)) rfl hls.has (by rw [← hls.1]; exact h1) rfl K
    · exact lv_astore_n hx hb (zdc hd rfl (by decide)) rfl hls.has (by rw [← hls.1]; exact h1) rfl K
  | astore n =>
    have he : zpA stk (fun v t => zs1 loc (n : Nat) v fun loc' => rec (pc + 2) loc' t h) = some out := he
    obtain ⟨v, t, rfl, he⟩ := zpA_some he
    have he : zs1 loc (n : Nat) (.inr (.inr v)) (fun loc' => rec (pc + 2) loc' t h) = some out := he
    obtain ⟨h1, h2, he⟩ := zs1_some he
    have K : ∀ ls', lv_has ls' (zml M) ((n, zmv ad ea (.inr (.inr v))) :: (zprs ad ea 0 loc).filter (fun q => !(q.1 == n) && !(q.1 + 1 == n && q.2.category == 2))) → W p l e R s m args below meth c H locs cells slots Q (F0 m (pc + 2) ls' (t.map (zmv ad ea))) := fun ls' hl' => kl _ _ _ ls' (hol.set hos.hd) hos.tl (zls.st1 hls.1 h1 h2 hl') he
    rcases v with v | v
    · show W p l e R s m args below meth c H locs cells slots Q (F0 m pc ls (zrf ad v :: t.map (zmv ad ea)))
      by_cases q : v = 0
      · subst q; exact lv_astoreN hx hb (zdc hd rfl (by decide)) hls.has (by rw [← hls.1]; exact h1) rfl K
      · have e1 : zrf ad v = .ref (ad v) := zrf_pos (Nat.pos_of_ne_zero q)
        have e2 : zmv ad ea (.inr (.inr (.inl v))) = .ref (ad v) := e1
        rw [e2] at K
        rw [e1]
        exact lv_astore hx hb (zdc hd rfl (by decide)) hls.has (by rw [← hls.1]; exact h1) rfl K
    · exact lv_astore hx hb (zdc hd rfl (by decide)) hls.has (by rw [← hls.1]; exact h1) rfl K
  | iinc n d =>
    obtain ⟨x, hx1, he⟩ := zlI_some he
    have he : zs1 loc n (zI (x + Int32.ofInt d)) (fun loc' => rec (pc + 3) loc' stk h) = some out := he
    obtain ⟨h1, h2, he⟩ := zs1_some he
    have hm : (n, Value.int x) ∈ zprs ad ea 0 loc := zprs_mem.mpr ⟨n, zI x, by
      rw [List.getD_eq_getElem?_getD] at hx1
      cases q : loc[n]? with
      | none => rw [q] at hx1; cases hx1
      | some w => rw [q] at hx1; exact congrArg some hx1, by rw [Nat.zero_add]; rfl⟩
    obtain ⟨j, hj⟩ := List.getElem?_of_mem hm
    exact lv_iinc hx hb (zdc hd rfl (by decide)) hls.has hj rfl (by rw [← hls.1]; exact h1) rfl (fun ls' hl' => kl _ _ _ ls' (hol.set (v := zI _) trivial) hos (zls.st1 (v := zI _) hls.1 h1 h2 hl') he)
  | iadd =>
    obtain ⟨y, t, rfl, he⟩ := zpI_some he
    obtain ⟨x, t, rfl, he⟩ := zpI_some he
    exact lv_iadd hx hb (zdc hd rfl (by decide)) (k _ _ (oI _ _ hos.tl.tl) he)
  | isub =>
    obtain ⟨y, t, rfl, he⟩ := zpI_some he
    obtain ⟨x, t, rfl, he⟩ := zpI_some he
    exact lv_isub hx hb (zdc hd rfl (by decide)) (k _ _ (oI _ _ hos.tl.tl) he)
  | imul =>
    obtain ⟨y, t, rfl, he⟩ := zpI_some he
    obtain ⟨x, t, rfl, he⟩ := zpI_some he
    exact lv_imul hx hb (zdc hd rfl (by decide)) (k _ _ (oI _ _ hos.tl.tl) he)
  | iand =>
    obtain ⟨y, t, rfl, he⟩ := zpI_some he
    obtain ⟨x, t, rfl, he⟩ := zpI_some he
    exact lv_iand hx hb (zdc hd rfl (by decide)) (k _ _ (oI _ _ hos.tl.tl) he)
  | ior =>
    obtain ⟨y, t, rfl, he⟩ := zpI_some he
    obtain ⟨x, t, rfl, he⟩ := zpI_some he
    exact lv_ior hx hb (zdc hd rfl (by decide)) (k _ _ (oI _ _ hos.tl.tl) he)
  | ishl =>
    obtain ⟨y, t, rfl, he⟩ := zpI_some he
    obtain ⟨x, t, rfl, he⟩ := zpI_some he
    exact lv_ishl hx hb (zdc hd rfl (by decide)) (k _ _ (oI _ _ hos.tl.tl) he)
  | ishr =>
    obtain ⟨y, t, rfl, he⟩ := zpI_some he
    obtain ⟨x, t, rfl, he⟩ := zpI_some he
    exact lv_ishr hx hb (zdc hd rfl (by decide)) (k _ _ (oI _ _ hos.tl.tl) he)
  | idiv =>
    obtain ⟨y, t, rfl, he⟩ := zpI_some he
    obtain ⟨x, t, rfl, he⟩ := zpI_some he
    obtain ⟨hy, he⟩ := zck_some he
    exact lv_idiv hx hb (zdc hd rfl (by decide)) hy (k _ _ (oI _ _ hos.tl.tl) he)
  | irem =>
    obtain ⟨y, t, rfl, he⟩ := zpI_some he
    obtain ⟨x, t, rfl, he⟩ := zpI_some he
    obtain ⟨hy, he⟩ := zck_some he
    exact lv_irem hx hb (zdc hd rfl (by decide)) hy (k _ _ (oI _ _ hos.tl.tl) he)
  | iushr =>
    obtain ⟨y, t, rfl, he⟩ := zpI_some he
    obtain ⟨x, t, rfl, he⟩ := zpI_some he
    exact lv_iushr hx hb (zdc hd rfl (by decide)) rfl (k _ _ (oI _ _ hos.tl.tl) he)
  | land =>
    obtain ⟨y, t, rfl, he⟩ := zpL_some he
    obtain ⟨x, t, rfl, he⟩ := zpL_some he
    exact lv_land hx hb (zdc hd rfl (by decide)) (k _ _ (oL _ _ hos.tl.tl) he)
  | lor =>
    obtain ⟨y, t, rfl, he⟩ := zpL_some he
    obtain ⟨x, t, rfl, he⟩ := zpL_some he
    exact lv_lor hx hb (zdc hd rfl (by decide)) (k _ _ (oL _ _ hos.tl.tl) he)
  | lshl =>
    obtain ⟨y, t, rfl, he⟩ := zpI_some he
    obtain ⟨x, t, rfl, he⟩ := zpL_some he
    exact lv_lshl hx hb (zdc hd rfl (by decide)) rfl (k _ _ (oL _ _ hos.tl.tl) he)
  | lshr =>
    obtain ⟨y, t, rfl, he⟩ := zpI_some he
    obtain ⟨x, t, rfl, he⟩ := zpL_some he
    exact lv_lshr hx hb (zdc hd rfl (by decide)) rfl (k _ _ (oL _ _ hos.tl.tl) he)
  | lushr =>
    obtain ⟨y, t, rfl, he⟩ := zpI_some he
    obtain ⟨x, t, rfl, he⟩ := zpL_some he
    exact lv_lushr hx hb (zdc hd rfl (by decide)) rfl (k _ _ (oL _ _ hos.tl.tl) he)
  | lcmp =>
    obtain ⟨y, t, rfl, he⟩ := zpL_some he
    obtain ⟨x, t, rfl, he⟩ := zpL_some he
    exact W.lcmp hx hb (zdc hd rfl (by decide)) (k _ _ (oI _ _ hos.tl.tl) he)
  | i2l =>
    obtain ⟨x, t, rfl, he⟩ := zpI_some he
    exact lv_i2l hx hb (zdc hd rfl (by decide)) rfl (k _ _ (oL _ _ hos.tl) he)
  | l2i =>
    obtain ⟨x, t, rfl, he⟩ := zpL_some he
    exact lv_l2i hx hb (zdc hd rfl (by decide)) rfl (k _ _ (oI _ _ hos.tl) he)
  | i2b =>
    obtain ⟨x, t, rfl, he⟩ := zpI_some he
    exact lv_i2b hx hb (zdc hd rfl (by decide)) rfl (k _ _ (oI _ _ hos.tl) he)
  | dup =>
    have he : zp1 stk (fun v t => rec (pc + 1) loc (v :: v :: t) h) = some out := he
    obtain ⟨v, t, rfl, he, h1⟩ := zp1_some he
    exact lv_dup hx hb (zdc hd rfl (by decide)) ((lv_cat _).resolve_right fun q => by rw [zmv_cat.mp q] at h1; cases h1) (k _ _ (zoks.cons hos.hd hos) he)
  | dup2 =>
    have he : zp1 stk (fun v t => zp1 t fun w t => rec (pc + 1) loc (v :: w :: v :: w :: t) h) = some out := he
    obtain ⟨v, t, rfl, he, h1⟩ := zp1_some he
    obtain ⟨w, t, rfl, he, h2⟩ := zp1_some he
    exact lv_dup2_11 hx hb (zdc hd rfl (by decide)) ((lv_cat _).resolve_right fun q => by rw [zmv_cat.mp q] at h1; cases h1) ((lv_cat _).resolve_right fun q => by rw [zmv_cat.mp q] at h2; cases h2) (k _ _ (zoks.cons hos.hd (zoks.cons hos.tl.hd hos)) he)
  | pop =>
    have he : zp1 stk (fun v t => rec (pc + 1) loc t h) = some out := he
    obtain ⟨v, t, rfl, he, h1⟩ := zp1_some he
    exact lv_pop hx hb (zdc hd rfl (by decide)) ((lv_cat _).resolve_right fun q => by rw [zmv_cat.mp q] at h1; cases h1) (k _ _ hos.tl he)
  | pop2 =>
    obtain ⟨v, t, rfl, he⟩ := zpL_some he
    exact lv_pop2_2 hx hb (zdc hd rfl (by decide)) rfl (k _ _ hos.tl he)
  | goto off => exact lv_goto hx hb (zdc hd rfl (by decide)) (of_decide_eq_true hz) (k _ _ hos he)
  | ifCond cc off =>
    cases cc with
    | eq =>
      obtain ⟨x, t, rfl, he⟩ := zpI_some he
      have hz : decide ((pc : Int) + off = (as.getD 0 0 : Nat)) = true := hz
      exact lv_if_eq hx hb (zdc hd rfl (by decide)) (of_decide_eq_true hz) (fun q => k _ _ hos.tl ((if_pos q).symm.trans he)) (fun q => k _ _ hos.tl ((if_neg q).symm.trans he))
    | ne =>
      obtain ⟨x, t, rfl, he⟩ := zpI_some he
      have hz : decide ((pc : Int) + off = (as.getD 0 0 : Nat)) = true := hz
      exact lv_if_ne hx hb (zdc hd rfl (by decide)) (of_decide_eq_true hz) (fun q => k _ _ hos.tl ((if_pos q).symm.trans he)) (fun q => k _ _ hos.tl ((if_neg (fun z => z q)).symm.trans he))
    | lt =>
      obtain ⟨x, t, rfl, he⟩ := zpI_some he
      have hz : decide ((pc : Int) + off = (as.getD 0 0 : Nat)) = true := hz
      exact lv_if_lt hx hb (zdc hd rfl (by decide)) (of_decide_eq_true hz) (fun q => k _ _ hos.tl ((if_pos q).symm.trans he)) (fun q => k _ _ hos.tl ((if_neg q).symm.trans he))
    | le =>
      obtain ⟨x, t, rfl, he⟩ := zpI_some he
      have hz : decide ((pc : Int) + off = (as.getD 0 0 : Nat)) = true := hz
      exact lv_if_le hx hb (zdc hd rfl (by decide)) (of_decide_eq_true hz) (fun q => k _ _ hos.tl ((if_pos q).symm.trans he)) (fun q => k _ _ hos.tl ((if_neg q).symm.trans he))
    | gt =>
      obtain ⟨x, t, rfl, he⟩ := zpI_some he
      have hz : decide ((pc : Int) + off = (as.getD 0 0 : Nat)) = true := hz
      exact lv_if_gt hx hb (zdc hd rfl (by decide)) (of_decide_eq_true hz) (fun q => k _ _ hos.tl ((if_pos q).symm.trans he)) (fun q => k _ _ hos.tl ((if_neg q).symm.trans he))
    | ge =>
      obtain ⟨x, t, rfl, he⟩ := zpI_some he
      have hz : decide ((pc : Int) + off = (as.getD 0 0 : Nat)) = true := hz
      exact lv_if_ge hx hb (zdc hd rfl (by decide)) (of_decide_eq_true hz) (fun q => k _ _ hos.tl ((if_pos q).symm.trans he)) (fun q => k _ _ hos.tl ((if_neg q).symm.trans he))
  | if_icmp cc off =>
    cases cc with
    | eq =>
      obtain ⟨y, t, rfl, he⟩ := zpI_some he
      obtain ⟨x, t, rfl, he⟩ := zpI_some he
      have hz : decide ((pc : Int) + off = (as.getD 0 0 : Nat)) = true := hz
      exact lv_icmp_eq hx hb (zdc hd rfl (by decide)) (of_decide_eq_true hz) (fun q => k _ _ hos.tl.tl ((if_pos q).symm.trans he)) (fun q => k _ _ hos.tl.tl ((if_neg q).symm.trans he))
    | ne =>
      obtain ⟨y, t, rfl, he⟩ := zpI_some he
      obtain ⟨x, t, rfl, he⟩ := zpI_some he
      have hz : decide ((pc : Int) + off = (as.getD 0 0 : Nat)) = true := hz
      exact lv_icmp_ne hx hb (zdc hd rfl (by decide)) (of_decide_eq_true hz) (fun q => k _ _ hos.tl.tl ((if_pos q).symm.trans he)) (fun q => k _ _ hos.tl.tl ((if_neg (fun z => z q)).symm.trans he))
    | lt =>
      obtain ⟨y, t, rfl, he⟩ := zpI_some he
      obtain ⟨x, t, rfl, he⟩ := zpI_some he
      have hz : decide ((pc : Int) + off = (as.getD 0 0 : Nat)) = true := hz
      exact lv_icmp_lt hx hb (zdc hd rfl (by decide)) (of_decide_eq_true hz) (fun q => k _ _ hos.tl.tl ((if_pos q).symm.trans he)) (fun q => k _ _ hos.tl.tl ((if_neg q).symm.trans he))
    | le =>
      obtain ⟨y, t, rfl, he⟩ := zpI_some he
      obtain ⟨x, t, rfl, he⟩ := zpI_some he
      have hz : decide ((pc : Int) + off = (as.getD 0 0 : Nat)) = true := hz
      exact lv_icmp_le hx hb (zdc hd rfl (by decide)) (of_decide_eq_true hz) (fun q => k _ _ hos.tl.tl ((if_pos q).symm.trans he)) (fun q => k _ _ hos.tl.tl ((if_neg q).symm.trans he))
    | gt =>
      obtain ⟨y, t, rfl, he⟩ := zpI_some he
      obtain ⟨x, t, rfl, he⟩ := zpI_some he
      have hz : decide ((pc : Int) + off = (as.getD 0 0 : Nat)) = true := hz
      exact lv_icmp_gt hx hb (zdc hd rfl (by decide)) (of_decide_eq_true hz) (fun q => k _ _ hos.tl.tl ((if_pos q).symm.trans he)) (fun q => k _ _ hos.tl.tl ((if_neg q).symm.trans he))
    | ge =>
      obtain ⟨y, t, rfl, he⟩ := zpI_some he
      obtain ⟨x, t, rfl, he⟩ := zpI_some he
      have hz : decide ((pc : Int) + off = (as.getD 0 0 : Nat)) = true := hz
      exact lv_icmp_ge hx hb (zdc hd rfl (by decide)) (of_decide_eq_true hz) (fun q => k _ _ hos.tl.tl ((if_pos q).symm.trans he)) (fun q => k _ _ hos.tl.tl ((if_neg q).symm.trans he))
  | ifnonnull off =>
    obtain ⟨a, t, rfl, he⟩ := zpR_some he
    have he : (if a = 0 then rec (pc + 3) loc t h else rec (as.getD 0 0) loc t h) = some out := he
    show W p l e R s m args below meth c H locs cells slots Q (F0 m pc ls (zrf ad a :: t.map (zmv ad ea)))
    unfold zrf
    by_cases q : a = 0
    · rw [if_pos q] at he ⊢
      exact lv_ifnonnullN hx hb (zdc hd rfl (by decide)) (k _ _ hos.tl he)
    · rw [if_neg q] at he ⊢
      exact lv_ifnonnull hx hb (zdc hd rfl (by decide)) (of_decide_eq_true hz) (k _ _ hos.tl he)
  | tableswitch d lo hi offs =>
    obtain ⟨x, t, rfl, he⟩ := zpI_some he
    have he : (if x.toInt < lo ∨ hi < x.toInt then rec (as.getD 0 0) loc t h else rec (as.getD ((x.toInt - lo).toNat + 1) 0) loc t h) = some out := he
    obtain ⟨n, hdg⟩ := zdc0 hd
    have hz : decide ((pc : Int) + d = (as.getD 0 0 : Nat) ∧ (hi - lo).toNat < offs.size ∧ ∀ k, k < offs.size → (pc : Int) + offs.getD k 0 = (as.getD (k + 1) 0 : Nat)) = true := hz
    obtain ⟨z1, z2, z3⟩ := of_decide_eq_true hz
    by_cases q : x.toInt < lo ∨ hi < x.toInt
    · rw [if_pos q] at he
      exact lv_tableOut hx hb hdg q z1 (k _ _ hos.tl he)
    · rw [if_neg q] at he
      have q1 : ¬ x.toInt < lo := fun z => q (Or.inl z)
      have q2 : ¬ hi < x.toInt := fun z => q (Or.inr z)
      have hlt : (x.toInt - lo).toNat < offs.size := by omega
      exact lv_tableIn hx hb hdg q1 q2 (Array.getElem?_eq_getElem hlt) (by have := z3 _ hlt; rw [Array.getD_eq_getD_getElem?, Array.getElem?_eq_getElem hlt] at this; exact this) (k _ _ hos.tl he)
  | getfield n =>
    obtain ⟨a, t, rfl, he⟩ := zpR_some he
    obtain ⟨hk, he⟩ := zck_some he
    obtain ⟨f1, f2, f3, f4, f5⟩ := zokf_spec hz
    have ha := zpk hwf hk (by omega)
    have e1 : zmv ad ea (zR a) = .ref (ad a) := zrf_pos ha.1
    show W p l e R s m args below meth c H locs cells slots Q (F0 m pc ls (zmv ad ea (zR a) :: t.map (zmv ad ea)))
    rw [e1]
    have hw := zws_get (cK := zeK E) (ad := ad) ha.1 ha.2
    rw [zent_o hk] at hw
    have hfv : ((List.range (as.getD 1 0)).map (zfv ad h a (as.getD 0 0)))[as.getD 2 0]? = some (zfv ad h a (as.getD 0 0) (as.getD 2 0)) := by
      rw [List.getElem?_map, List.getElem?_range f3]; rfl
    have K : W p l e R s m args below meth c H locs cells slots Q (F0 m (pc + 3) ls (zfv ad h a (as.getD 0 0) (as.getD 2 0) :: t.map (zmv ad ea))) := by
      by_cases q : as.getD 3 0 = 2
      · rw [if_pos q] at he
        have := k _ _ (zoks.cons (v := zR _) (hwf.2.1 a (as.getD 2 0)) hos.tl) he
        have e2 : zfv ad h a (as.getD 0 0) (as.getD 2 0) = zmv ad ea (zR (zrv h a (as.getD 2 0))) := by
          unfold zfv; rw [if_pos (f4 ▸ q)]; rfl
        rw [e2]; exact this
      · rw [if_neg q] at he
        have := k _ _ (oI (ziv h a (as.getD 2 0)) _ hos.tl) he
        have e2 : zfv ad h a (as.getD 0 0) (as.getD 2 0) = .int (ziv h a (as.getD 2 0)) := by
          unfold zfv; rw [if_neg (f4 ▸ q)]
        rw [e2]; exact this
    rcases f5 with ⟨-, f5⟩ | ⟨-, f5⟩
    · exact va_get (ci := as.getD 0 0) (C := zCn (as.getD 0 0)) (T := z7T (as.getD 0 0)) (N := zNn (as.getD 0 0)) hx hb hts (zin _ f1) hown hK hP (a - 1) hw (zcs_at _ f1) (as.getD 2 0) (by rw [← f2]; exact f3) (hts _ f5) (fun _ z => z) hfv (zdc hd rfl (by decide)) K
    · exact va_getN (ci := as.getD 0 0) (C := zCn (as.getD 0 0)) (T := z7T (as.getD 0 0)) (N := zNn (as.getD 0 0)) hx hb hts (zin _ f1) hown hK hP (a - 1) hw (zcs_at _ f1) (as.getD 2 0) (by rw [← f2]; exact f3) (va_Nw.use rfl (hG.2.2.1 _ f5)) (fun _ z => z) hfv (zdc hd rfl (by decide)) K
  | putfield n =>
    obtain ⟨hz1, hz2⟩ := Bool.and_eq_true_iff.mp (show (zokf (zow M) n as && (if as.getD 6 0 = 1 then decide ((z7T (as.getD 0 0) (as.getD 2 0)).2.2.2 = true ∧ (zmn M).name = "<init>" ∧ (z7T (as.getD 0 0) (as.getD 2 0)).1 = zow M ∧ as.getD 5 0 = 0) else decide ((z7T (as.getD 0 0) (as.getD 2 0)).2.2.2 = false))) = true from hz)
    obtain ⟨f1, f2, f3, f4, f5⟩ := zokf_spec hz1
    have f3' : as.getD 2 0 < zNn (as.getD 0 0) := by rw [← f2]; exact f3
    -- the value, the world behind it, what follows
    have main : ∀ (a : Nat) (t : List zV) (v : Value) (h' : zH), zkd h a = (10 + as.getD 0 0, as.getD 1 0) → narrow (zty (as.getD 0 0) (as.getD 2 0)) v = v → fits (zty (as.getD 0 0) (as.getD 2 0)) v = true →
        (zws (zeK E) ad h).set (a - 1) (ad a, .inr (as.getD 0 0, ((List.range (as.getD 1 0)).map (zfv ad h a (as.getD 0 0))).set (as.getD 2 0) v)) = zws (zeK E) ad h' →
        (∀ (H1 : Heap) (locs1 : List Loc), va_P (zeD E) zcs (zws (zeK E) ad h') H1 → va_D (zeA E) (zws (zeK E) ad h') → va_S (zeA E) s.heap H1 locs1 → W p l e R s m args below meth c H1 locs1 cells slots Q (F0 m (pc + 3) ls (t.map (zmv ad ea)))) →
        W p l e R s m args below meth c H locs cells slots Q (F0 m pc ls (v :: zmv ad ea (zR a) :: t.map (zmv ad ea))) := by
      intro a t v h' hk hnv hfv hset kk
      have ha := zpk hwf hk (by omega)
      have e1 : zmv ad ea (zR a) = .ref (ad a) := zrf_pos ha.1
      rw [e1]
      have hw := zws_get (cK := zeK E) (ad := ad) ha.1 ha.2
      rw [zent_o hk] at hw
      have hl : as.getD 2 0 < ((List.range (as.getD 1 0)).map (zfv ad h a (as.getD 0 0))).length := by rw [List.length_map, List.length_range]; exact f3
      have kk' : ∀ (H1 : Heap) (locs1 : List Loc), va_P (zeD E) zcs ((zws (zeK E) ad h).set (a - 1) (ad a, .inr (as.getD 0 0, ((List.range (as.getD 1 0)).map (zfv ad h a (as.getD 0 0))).set (as.getD 2 0) v))) H1 → va_D (zeA E) ((zws (zeK E) ad h).set (a - 1) (ad a, .inr (as.getD 0 0, ((List.range (as.getD 1 0)).map (zfv ad h a (as.getD 0 0))).set (as.getD 2 0) v))) → va_S (zeA E) s.heap H1 locs1 → W p l e R s m args below meth c H1 locs1 cells slots Q (F0 m (pc + 3) ls (t.map (zmv ad ea))) := by
        intro H1 locs1 p1 p2 p3
        rw [hset] at p1 p2
        exact kk H1 locs1 p1 p2 p3
      by_cases qf : as.getD 6 0 = 1
      · rw [if_pos qf] at hz2
        obtain ⟨g1, g2, g3, g4⟩ := of_decide_eq_true hz2
        rcases f5 with ⟨-, f5⟩ | ⟨f5, -⟩
        · exact va_putF (ci := as.getD 0 0) (C := zCn (as.getD 0 0)) (T := z7T (as.getD 0 0)) (N := zNn (as.getD 0 0)) hx hb hts (zin _ f1) (zty (as.getD 0 0)) (zty_ok _ f1) (zty_nm _ f1) hown hK hP hD hS (a - 1) hw (zcs_at _ f1) (as.getD 2 0) f3' (hts _ f5) (fun _ z => z) g1 (by rw [hnm]; exact g2) g3 (zty_ok _ f1 _ f3') hnv hfv hl (zdc hd rfl (by decide)) kk'
        · exact absurd g4 f5
      · rw [if_neg qf] at hz2
        have g1 := of_decide_eq_true hz2
        rcases f5 with ⟨-, f5⟩ | ⟨-, f5⟩
        · exact va_put (ci := as.getD 0 0) (C := zCn (as.getD 0 0)) (T := z7T (as.getD 0 0)) (N := zNn (as.getD 0 0)) hx hb hts (zin _ f1) (zty (as.getD 0 0)) (zty_ok _ f1) (zty_nm _ f1) hown hK hP hD hS (a - 1) hw (zcs_at _ f1) (as.getD 2 0) f3' (hts _ f5) (fun _ z => z) g1 (zty_ok _ f1 _ f3') hnv hfv hl (zdc hd rfl (by decide)) kk'
        · exact va_putN (ci := as.getD 0 0) (C := zCn (as.getD 0 0)) (T := z7T (as.getD 0 0)) (N := zNn (as.getD 0 0)) hx hb hts (zin _ f1) (zty (as.getD 0 0)) (zty_ok _ f1) (zty_nm _ f1) hown hK hP hD hS (a - 1) hw (zcs_at _ f1) (as.getD 2 0) f3' (va_Nw.use rfl (hG.2.2.1 _ f5)) (fun _ z => z) g1 (zty_ok _ f1 _ f3') hnv hfv hl (zdc hd rfl (by decide)) kk'
    have he : (if as.getD 3 0 = 2 then zpR stk fun r s => zpR s fun a s => zck (zkd h a = (10 + as.getD 0 0, as.getD 1 0)) (rec (pc + 3) loc s (zsR h a (as.getD 2 0) r))
      else zpI stk fun x s => zpR s fun a s => zck (zkd h a = (10 + as.getD 0 0, as.getD 1 0) ∧ (as.getD 3 0 = 1 → x = 0 ∨ x = 1)) (rec (pc + 3) loc s (zsI h a (as.getD 2 0) x))) = some out := he
    by_cases q : as.getD 3 0 = 2
    · rw [if_pos q] at he
      obtain ⟨r, t, rfl, he⟩ := zpR_some he
      have he : zpR t (fun a s => zck (zkd h a = (10 + as.getD 0 0, as.getD 1 0)) (rec (pc + 3) loc s (zsR h a (as.getD 2 0) r))) = some out := he
      obtain ⟨a, t, rfl, he⟩ := zpR_some he
      obtain ⟨hk, he⟩ := zck_some he
      have ha := zpk hwf hk (by omega)
      obtain ⟨n1, n2⟩ := zisr_n (zty_2b _ f1 _ f3' (f4 ▸ q)) ad r
      refine main a t (zrf ad r) (zsR h a (as.getD 2 0) r) hk n1 n2 ?_ (fun H1 locs1 p1 p2 p3 => kh _ _ _ _ _ (hwf.sR hos.hd) rfl rfl rfl rfl hos.tl.tl p1 p2 p3 he)
      refine zws_set (h := h) (h' := zsR h a (as.getD 2 0) r) rfl ha.1 ha.2 (fun b hb => zent_sR hb) ?_
      rw [zent_o (show zkd (zsR h a (as.getD 2 0) r) a = _ from hk)]
      congr 2
      have e3 : zrv (zsR h a (as.getD 2 0) r) a = zup (zrv h a) (as.getD 2 0) r := by show zup (zrv h) a _ a = _; unfold zup; rw [if_pos rfl]
      refine zmap_set ?_ (fun j hj => ?_)
      · unfold zfv; rw [if_pos (f4 ▸ q), e3]; unfold zup; rw [if_pos rfl]
      · unfold zfv; rw [e3]; unfold zup; rw [if_neg hj]
    · rw [if_neg q] at he
      obtain ⟨x, t, rfl, he⟩ := zpI_some he
      obtain ⟨a, t, rfl, he⟩ := zpR_some he
      obtain ⟨⟨hk, hbo⟩, he⟩ := zck_some he
      have ha := zpk hwf hk (by omega)
      have hnf : narrow (zty (as.getD 0 0) (as.getD 2 0)) (.int x) = .int x ∧ fits (zty (as.getD 0 0) (as.getD 2 0)) (.int x) = true := by
        rcases zty_012 _ f1 _ f3' with q0 | q1 | q2
        · rw [zty_0 _ f1 _ f3' q0]; exact ⟨rfl, rfl⟩
        · rw [zty_1 _ f1 _ f3' q1]; exact ⟨(zbool_n (hbo (f4.trans q1))).1, (zbool_n (hbo (f4.trans q1))).2.1⟩
        · exact absurd (f4.trans q2) q
      refine main a t (.int x) (zsI h a (as.getD 2 0) x) hk hnf.1 hnf.2 ?_ (fun H1 locs1 p1 p2 p3 => kh _ _ _ _ _ (hwf.sI fun z => by rw [hk] at z; exact absurd z (by show ¬ 10 + as.getD 0 0 = 1; omega)) rfl rfl rfl rfl hos.tl.tl p1 p2 p3 he)
      refine zws_set (h := h) (h' := zsI h a (as.getD 2 0) x) rfl ha.1 ha.2 (fun b hb => zent_sI hb) ?_
      rw [zent_o (show zkd (zsI h a (as.getD 2 0) x) a = _ from hk)]
      congr 2
      have e3 : ziv (zsI h a (as.getD 2 0) x) a = zup (ziv h a) (as.getD 2 0) x := by show zup (ziv h) a _ a = _; unfold zup; rw [if_pos rfl]
      refine zmap_set ?_ (fun j hj => ?_)
      · unfold zfv; rw [if_neg (f4 ▸ q), e3]; unfold zup; rw [if_pos rfl]
      · unfold zfv; rw [e3]; unfold zup; rw [if_neg hj]
  | new n =>
    have he : (if as.getD 0 0 = 1 then zck (zcat stk ≤ 8) (some (.inr (as.getD 1 0), zbump h)) else rec (pc + 3) loc (zR (zn h + 1) :: stk) (znew h (10 + as.getD 1 0) (as.getD 2 0))) = some out := he
    by_cases q : as.getD 0 0 = 1
    · rw [if_pos q] at he
      obtain ⟨h8, he⟩ := zck_some he
      exact hthr pc n as h ad ea loc stk H locs ls cells slots (Option.some.inj he).symm q hzi h8 hn had hA hc hs
    · rw [if_neg q] at he
      have hz : (if as.getD 0 0 = 1 then decide (as.getD 1 0 < 4 ∧ zow M = RX8 ∧ as.getD 4 0 = [60, 67, 220, 146].getD (as.getD 1 0) 0 ∧ zhh M = [] ∧ 6 ≤ zfr M ∧ 89 ≤ zlo M) && zw (as.getD 2 0) (.classLink (zow M) n (zxn (as.getD 1 0))) && zw (as.getD 3 0) (.initialized (zxn (as.getD 1 0))) && zdec (zby M) (pc + 3) .dup && zdec (zby M) (pc + 4) (.invokespecial (as.getD 4 0)) && zdec (zby M) (pc + 7) .athrow
        else decide (as.getD 1 0 < 6 ∧ as.getD 2 0 = zNn (as.getD 1 0)) && zw (as.getD 3 0) (.classLink (zow M) n (zCn (as.getD 1 0))) && zw (as.getD 4 0) (.instantiable (zCn (as.getD 1 0)) (zNn (as.getD 1 0))) && zw (as.getD 5 0) (.initialized (zCn (as.getD 1 0)))) = true := hz
      rw [if_neg q] at hz
      simp only [Bool.and_eq_true, decide_eq_true_eq] at hz
      obtain ⟨⟨⟨⟨g1, g2⟩, g3⟩, g4⟩, g5⟩ := hz
      have hle := hmon _ _ _ _ he hwf.new (hol.up (Nat.le_succ _)) (zoks.cons (v := zR _) (Nat.le_refl _) (hos.up (Nat.le_succ _)))
      have c1 : zcn h + 1 ≤ zcn out.2 := hle.2.1
      have c2 : zsn h + as.getD 2 0 ≤ zsn out.2 := hle.2.2.1
      have hxe : ∀ ad', zent (zeK E) ad' (znew h (10 + as.getD 1 0) (as.getD 2 0)) (zn h + 1) = .inr (as.getD 1 0, (List.range (zNn (as.getD 1 0))).map fun j => if zft (as.getD 1 0) j = 2 then Value.null else .int 0) := by
        intro ad'
        have hk : zkd (znew h (10 + as.getD 1 0) (as.getD 2 0)) (zn h + 1) = (10 + as.getD 1 0, as.getD 2 0) := by show zup (zkd h) _ _ (zn h + 1) = _; unfold zup; rw [if_pos rfl]
        rw [zent_o hk, g2]
        congr 2
        refine List.map_congr_left fun j hj => ?_
        unfold zfv
        have e1 : zrv (znew h (10 + as.getD 1 0) (zNn (as.getD 1 0))) (zn h + 1) j = 0 := by show zup (zrv h) _ _ (zn h + 1) j = _; unfold zup; rw [if_pos rfl]
        have e2 : ziv (znew h (10 + as.getD 1 0) (zNn (as.getD 1 0))) (zn h + 1) j = 0 := by show zup (ziv h) _ _ (zn h + 1) j = _; unfold zup; rw [if_pos rfl]
        rw [e1, e2]; rfl
      refine va_new (ci := as.getD 1 0) (C := zCn (as.getD 1 0)) (T := z7T (as.getD 1 0)) (N := zNn (as.getD 1 0)) (fs := (List.range (zNn (as.getD 1 0))).map fun j => if zft (as.getD 1 0) j = 2 then Value.null else .int 0) hx hb hts (zin _ g1) (zty (as.getD 1 0)) (zty_ok _ g1) hown (hts _ (zw_good g3)) (hts _ (zw_good g4)) (hts _ (zw_good g5)) hK hP hD hS hAs (zcs_at _ g1) (fun j hj => ?_) (by omega) (by rw [← g2]; omega) (zdc hd rfl (by decide)) (fun q H1 p1 p2 p3 => ?_)
      · rw [zdef_ok _ g1 j hj]
        have q0 : ((List.range (zNn (as.getD 1 0))).map fun j => if zft (as.getD 1 0) j = 2 then Value.null else .int 0)[j]? = some (if zft (as.getD 1 0) j = 2 then Value.null else .int 0) := by rw [List.getElem?_map, List.getElem?_range hj]; rfl
        exact (congrArg (fun o : Option Value => o.getD .null) q0).symm
      · have K := hrec _ _ _ _ he (Nat.le_succ_of_le hn) _ ea H1 locs ls (cells + 1) (slots + zNn (as.getD 1 0)) (fun i hi => by
          show (if i = zn h + 1 then q else ad i) = ad0 i
          rw [if_neg (by omega)]; exact had i hi) hea (z_grown hA hxe hos p1 p2 p3) (by show cells + 1 + c0 = zcn h + 1; omega) (by show slots + zNn (as.getD 1 0) + s0 = zsn h + as.getD 2 0; omega)
        rw [z_grownv hos] at K
        exact K
  | newarray ty =>
    obtain ⟨x, t, rfl, he⟩ := zpI_some he
    obtain ⟨⟨n1, n2⟩, he⟩ := zck_some he
    obtain ⟨z1, z2⟩ := Bool.and_eq_true_iff.mp (show (zw (as.getD 1 0) (.arrayClass (newarray.typeOf ty)) && decide ((as.getD 0 0 = 1 ∧ ty = .byte) ∨ (as.getD 0 0 = 2 ∧ ty = .int) ∨ (as.getD 0 0 = 3 ∧ ty = .boolean) ∨ (as.getD 0 0 = 4 ∧ ty = .long))) = true from hz)
    have hle := hmon _ _ _ _ he hwf.new (hol.up (Nat.le_succ _)) (zoks.cons (v := zR _) (Nat.le_refl _) (hos.tl.up (Nat.le_succ _)))
    have c1 : zcn h + 1 ≤ zcn out.2 := hle.2.1
    have c2 : zsn h + x.toNatClampNeg ≤ zsn out.2 := hle.2.2.1
    have hkd : zkd (znew h (as.getD 0 0) x.toNatClampNeg) (zn h + 1) = (as.getD 0 0, x.toNatClampNeg) := by show zup (zkd h) _ _ (zn h + 1) = _; unfold zup; rw [if_pos rfl]
    have hiv : ziv (znew h (as.getD 0 0) x.toNatClampNeg) (zn h + 1) = fun _ => 0 := by show zup (ziv h) _ _ (zn h + 1) = _; unfold zup; rw [if_pos rfl]
    have hlv : zlv (znew h (as.getD 0 0) x.toNatClampNeg) (zn h + 1) = fun _ => 0 := by show zup (zlv h) _ _ (zn h + 1) = _; unfold zup; rw [if_pos rfl]
    have fin : ∀ (a0 : vp_A) (q : Nat) (cA : ClassId) (H1 : Heap) (j : Nat) (fty : FieldType), (ztys (zeK E))[j]? = some (zeK E (as.getD 0 0), fty) → (∀ ad', zent (zeK E) ad' (znew h (as.getD 0 0) x.toNatClampNeg) (zn h + 1) = .inl (zeK E (as.getD 0 0), a0)) → va_K (zeD E) zcs (ztys (zeK E) ++ [(cA, fty)]) s → va_P (zeD E) zcs (zws (zeK E) ad h ++ [(q, .inl (cA, a0))]) H1 → va_D (zeA E) (zws (zeK E) ad h ++ [(q, .inl (cA, a0))]) → va_S (zeA E) s.heap H1 locs → W p l e R s m args below meth c H1 locs (cells + 1) (slots + x.toNatClampNeg) Q (F0 m (pc + 2) ls (.ref q :: t.map (zmv ad ea))) := by
      intro a0 q cA H1 j fty hj hxe p0 p1 p2 p3
      have := zK_uni hK hj p0
      subst this
      have K := hrec _ _ _ _ he (Nat.le_succ_of_le hn) _ ea H1 locs ls (cells + 1) (slots + x.toNatClampNeg) (fun i hi => by
          show (if i = zn h + 1 then q else ad i) = ad0 i
          rw [if_neg (by omega)]; exact had i hi) hea (z_grown hA hxe hos.tl p1 p2 p3) (by show cells + 1 + c0 = zcn h + 1; omega) (by show slots + x.toNatClampNeg + s0 = zsn h + x.toNatClampNeg; omega)
      rw [z_grownv hos.tl] at K
      exact K
    rcases of_decide_eq_true z2 with ⟨e1, rfl⟩ | ⟨e1, rfl⟩ | ⟨e1, rfl⟩ | ⟨e1, rfl⟩
    · refine va_newa (atype := .byte) (ty := .byte) (a0 := (x.toNatClampNeg, .inl fun _ => 0)) hx hb (hts _ (zw_good z1)) rfl hK hP hD hS hAs (fun _ => rfl) n1 rfl (by show x.toNatClampNeg * 1 ≤ _; omega) (by omega) (by omega) (zdc hd rfl (by decide)) (fun q cA H1 p0 p1 p2 p3 => fin _ q cA H1 0 .byte (by rw [e1]; rfl) (fun ad' => ?_) p0 p1 p2 p3)
      rw [zent_a hkd (by omega), hiv]
    · refine va_newa (atype := .int) (ty := .int) (a0 := (x.toNatClampNeg, .inl fun _ => 0)) hx hb (hts _ (zw_good z1)) rfl hK hP hD hS hAs (fun _ => rfl) n1 rfl (by show x.toNatClampNeg * 4 ≤ _; omega) (by omega) (by omega) (zdc hd rfl (by decide)) (fun q cA H1 p0 p1 p2 p3 => fin _ q cA H1 1 .int (by rw [e1]; rfl) (fun ad' => ?_) p0 p1 p2 p3)
      rw [zent_a hkd (by omega), hiv]
    · refine va_newa (atype := .boolean) (ty := .boolean) (a0 := (x.toNatClampNeg, .inl fun _ => 0)) hx hb (hts _ (zw_good z1)) rfl hK hP hD hS hAs (fun _ => rfl) n1 rfl (by show x.toNatClampNeg * 1 ≤ _; omega) (by omega) (by omega) (zdc hd rfl (by decide)) (fun q cA H1 p0 p1 p2 p3 => fin _ q cA H1 2 .boolean (by rw [e1]; rfl) (fun ad' => ?_) p0 p1 p2 p3)
      rw [zent_a hkd (by omega), hiv]
    · refine va_newa (atype := .long) (ty := .long) (a0 := (x.toNatClampNeg, .inr (.inl fun _ => 0))) hx hb (hts _ (zw_good z1)) rfl hK hP hD hS hAs (fun _ => rfl) n1 rfl (by show x.toNatClampNeg * 8 ≤ _; omega) (by omega) (by omega) (zdc hd rfl (by decide)) (fun q cA H1 p0 p1 p2 p3 => fin _ q cA H1 3 .long (by rw [e1]; rfl) (fun ad' => ?_) p0 p1 p2 p3)
      rw [e1] at hkd
      rw [e1] at hlv
      rw [e1, zent_l hkd, hlv]
  | anewarray n =>
    obtain ⟨x, t, rfl, he⟩ := zpI_some he
    obtain ⟨⟨n1, n2⟩, he⟩ := zck_some he
    have hle := hmon _ _ _ _ he hwf.new (hol.up (Nat.le_succ _)) (zoks.cons (v := zR _) (Nat.le_refl _) (hos.tl.up (Nat.le_succ _)))
    have c1 : zcn h + 1 ≤ zcn out.2 := hle.2.1
    have c2 : zsn h + x.toNatClampNeg ≤ zsn out.2 := hle.2.2.1
    have hkd : zkd (znew h 5 x.toNatClampNeg) (zn h + 1) = (5, x.toNatClampNeg) := by show zup (zkd h) _ _ (zn h + 1) = _; unfold zup; rw [if_pos rfl]
    have hrv : zrv (znew h 5 x.toNatClampNeg) (zn h + 1) = fun _ => 0 := by show zup (zrv h) _ _ (zn h + 1) = _; unfold zup; rw [if_pos rfl]
    refine va_newq hx hb hown (hts _ (zw_good hz)) hG.2.2.2.2.1 hK hP hD hS hAs n1 rfl (by omega) (by omega) (by omega) (zdc hd rfl (by decide)) (fun q cA H1 p0 p1 p2 p3 => ?_)
    have := zK_uni (k := 4) hK rfl p0
    subst this
    have hxe : ∀ ad', zent (zeK E) ad' (znew h 5 x.toNatClampNeg) (zn h + 1) = .inl (zeK E 5, x.toNatClampNeg, .inr (.inr (.inr (.inr fun _ => none)))) := by
      intro ad'
      rw [zent_q hkd, hrv]; rfl
    have K := hrec _ _ _ _ he (Nat.le_succ_of_le hn) _ ea H1 locs ls (cells + 1) (slots + x.toNatClampNeg) (fun i hi => by
          show (if i = zn h + 1 then q else ad i) = ad0 i
          rw [if_neg (by omega)]; exact had i hi) hea (z_grown hA hxe hos.tl p1 p2 p3) (by show cells + 1 + c0 = zcn h + 1; omega) (by show slots + x.toNatClampNeg + s0 = zsn h + x.toNatClampNeg; omega)
    rw [z_grownv hos.tl] at K
    exact K
  | arraylength =>
    rcases stk with _ | ⟨x | x | x | x, t⟩
    · cases he
    · cases he
    · cases he
    · obtain ⟨⟨k1, k2⟩, he⟩ := zck_some (show zck ((zkd h x).1 ≠ 0 ∧ (zkd h x).1 < 6) (rec (pc + 1) loc (zI (Int32.ofNat (zkd h x).2) :: t) h) = some out from he)
      have ha := hwf.1 x k1
      have e1 : zmv ad ea (zR x) = .ref (ad x) := zrf_pos ha.1
      show W p l e R s m args below meth c H locs cells slots Q (F0 m pc ls (zmv ad ea (zR x) :: t.map (zmv ad ea)))
      rw [e1]
      have hw := zws_get (cK := zeK E) (ad := ad) ha.1 ha.2
      obtain ⟨kk, nn⟩ : ∃ z, z = zkd h x := ⟨_, rfl⟩
      have K := k _ _ (oI _ _ hos.tl) he
      by_cases q4 : (zkd h x).1 = 4
      · rw [zent_l (n := (zkd h x).2) (by rw [← q4])] at hw
        exact va_alen hx hb hK hP (x - 1) 3 hw rfl rfl (zdc hd rfl (by decide)) K
      · by_cases q5 : (zkd h x).1 = 5
        · rw [zent_q (n := (zkd h x).2) (by rw [← q5])] at hw
          exact va_alen hx hb hK hP (x - 1) 4 hw rfl rfl (zdc hd rfl (by decide)) K
        · rw [zent_a (k := (zkd h x).1) (n := (zkd h x).2) rfl (by omega)] at hw
          have q6 : (zkd h x).1 = 1 ∨ (zkd h x).1 = 2 ∨ (zkd h x).1 = 3 := by omega
          rcases q6 with q6 | q6 | q6 <;> rw [q6] at hw
          · exact va_alen hx hb hK hP (x - 1) 0 hw rfl rfl (zdc hd rfl (by decide)) K
          · exact va_alen hx hb hK hP (x - 1) 1 hw rfl rfl (zdc hd rfl (by decide)) K
          · exact va_alen hx hb hK hP (x - 1) 2 hw rfl rfl (zdc hd rfl (by decide)) K
    · obtain ⟨k1, he⟩ := zck_some (show zck (x = 0) (rec (pc + 1) loc (zI (Int32.ofNat (zln h)) :: t) h) = some out from he)
      have hX := hG.2.2.2.2.2.2.2.1
      have e2 : zln h = (zeS E).1 := congrArg Prod.fst hsc
      rw [e2] at he
      show W p l e R s m args below meth c H locs cells slots Q (F0 m pc ls (.ref (ea x) :: t.map (zmv ad ea)))
      rw [k1]
      exact va_slen hx hb hX.1 hX.2.1 hX.2.2 hS (zdc hd rfl (by decide)) (k _ _ (oI _ _ hos.tl) he)
  | iaload =>
    obtain ⟨j, t, rfl, he⟩ := zpI_some he
    rcases t with _ | ⟨x | x | x | x, t⟩
    · cases he
    · cases he
    · cases he
    · obtain ⟨⟨k1, k2⟩, he⟩ := zck_some (show zck ((zkd h x).1 = 2 ∧ ¬ (j < 0 ∨ (zkd h x).2 ≤ j.toNatClampNeg)) (rec (pc + 1) loc (zI (ziv h x j.toNatClampNeg) :: t) h) = some out from he)
      have ha := hwf.1 x (by rw [k1]; decide)
      have e1 : zmv ad ea (zR x) = .ref (ad x) := zrf_pos ha.1
      show W p l e R s m args below meth c H locs cells slots Q (F0 m pc ls (.int j :: zmv ad ea (zR x) :: t.map (zmv ad ea)))
      rw [e1]
      have hw := zws_get (cK := zeK E) (ad := ad) ha.1 ha.2
      rw [zent_a (k := 2) (n := (zkd h x).2) (by rw [← k1]) (by decide)] at hw
      exact va_iald hx hb hK hP (x - 1) 1 hw rfl k2 (zdc hd rfl (by decide)) (k _ _ (oI _ _ hos.tl.tl) he)
    · obtain ⟨⟨k1, k2⟩, he⟩ := zck_some (show zck (x = 0 ∧ ¬ (j < 0 ∨ zln h ≤ j.toNatClampNeg)) (rec (pc + 1) loc (zI (zxs h j.toNatClampNeg) :: t) h) = some out from he)
      have hX := hG.2.2.2.2.2.2.2.1
      have e2 : zln h = (zeS E).1 := congrArg Prod.fst hsc
      have e3 : zxs h = (zeS E).2 := congrArg Prod.snd hsc
      rw [e3] at he
      rw [e2] at k2
      show W p l e R s m args below meth c H locs cells slots Q (F0 m pc ls (.int j :: .ref (ea x) :: t.map (zmv ad ea)))
      rw [k1]
      exact va_sld hx hb hX.1 hX.2.1 hX.2.2 hS k2 (zdc hd rfl (by decide)) (k _ _ (oI _ _ hos.tl.tl) he)
  | iastore =>
    obtain ⟨x, t, rfl, he⟩ := zpI_some he
    obtain ⟨j, t, rfl, he⟩ := zpI_some he
    obtain ⟨a, t, rfl, he⟩ := zpR_some he
    obtain ⟨⟨k1, k2⟩, he⟩ := zck_some he
    have ha := hwf.1 a (by rw [k1]; decide)
    have e1 : zmv ad ea (zR a) = .ref (ad a) := zrf_pos ha.1
    show W p l e R s m args below meth c H locs cells slots Q (F0 m pc ls (.int x :: .int j :: zmv ad ea (zR a) :: t.map (zmv ad ea)))
    rw [e1]
    have hw := zws_get (cK := zeK E) (ad := ad) ha.1 ha.2
    have hk1 : zkd h a = (2, (zkd h a).2) := by rw [← k1]
    rw [zent_a hk1 (by decide)] at hw
    have hset : (zws (zeK E) ad h).set (a - 1) (ad a, .inl (zeK E 2, (zkd h a).2, .inl (upd (ziv h a) j.toNatClampNeg x))) = zws (zeK E) ad (zsI h a j.toNatClampNeg x) := by
      refine zws_set (h := h) (h' := zsI h a j.toNatClampNeg x) rfl ha.1 ha.2 (fun b hb => zent_sI hb) ?_
      rw [zent_a (show zkd (zsI h a j.toNatClampNeg x) a = _ from hk1) (by decide)]
      have e3 : ziv (zsI h a j.toNatClampNeg x) a = upd (ziv h a) j.toNatClampNeg x := by show zup (ziv h) a _ a = _; unfold zup; rw [if_pos rfl]; rfl
      rw [e3]
    refine va_iast hx hb hK hP hD hS (a - 1) 1 hw rfl k2 (zdc hd rfl (by decide)) (fun H1 locs1 p1 p2 p3 => ?_)
    rw [hset] at p1 p2
    exact kh _ _ _ _ _ (hwf.sI fun z => absurd (k1.symm.trans z) (by decide)) rfl rfl rfl rfl hos.tl.tl.tl p1 p2 p3 he
  | baload =>
    obtain ⟨j, t, rfl, he⟩ := zpI_some he
    obtain ⟨a, t, rfl, he⟩ := zpR_some he
    obtain ⟨⟨k1, k2⟩, he⟩ := zck_some he
    have ha := hwf.1 a (by rcases k1 with q | q <;> rw [q] <;> decide)
    have e1 : zmv ad ea (zR a) = .ref (ad a) := zrf_pos ha.1
    show W p l e R s m args below meth c H locs cells slots Q (F0 m pc ls (.int j :: zmv ad ea (zR a) :: t.map (zmv ad ea)))
    rw [e1]
    have hw := zws_get (cK := zeK E) (ad := ad) ha.1 ha.2
    rcases k1 with k1 | k1
    · rw [zent_a (k := 1) (n := (zkd h a).2) (by rw [← k1]) (by decide)] at hw
      exact va_bald hx hb hK hP (a - 1) 0 hw rfl k2 (zdc hd rfl (by decide)) (k _ _ (oI _ _ hos.tl.tl) he)
    · rw [zent_a (k := 3) (n := (zkd h a).2) (by rw [← k1]) (by decide)] at hw
      exact va_zald hx hb hK hP (a - 1) 2 hw rfl k2 (zdc hd rfl (by decide)) (k _ _ (oI _ _ hos.tl.tl) he)
  | bastore =>
    obtain ⟨x, t, rfl, he⟩ := zpI_some he
    obtain ⟨j, t, rfl, he⟩ := zpI_some he
    obtain ⟨a, t, rfl, he⟩ := zpR_some he
    obtain ⟨⟨k1, k2⟩, he⟩ := zck_some he
    have ha := hwf.1 a (by rcases k1 with q | ⟨q, -⟩ <;> rw [q] <;> decide)
    have e1 : zmv ad ea (zR a) = .ref (ad a) := zrf_pos ha.1
    show W p l e R s m args below meth c H locs cells slots Q (F0 m pc ls (.int x :: .int j :: zmv ad ea (zR a) :: t.map (zmv ad ea)))
    rw [e1]
    have hw := zws_get (cK := zeK E) (ad := ad) ha.1 ha.2
    have hset : ∀ kk, (kk : Nat) < 4 → (zkd h a).1 = kk → (zws (zeK E) ad h).set (a - 1) (ad a, .inl (zeK E kk, (zkd h a).2, .inl (upd (ziv h a) j.toNatClampNeg x.toInt8.toInt32))) = zws (zeK E) ad (zsI h a j.toNatClampNeg x.toInt8.toInt32) := by
      intro kk hkk hk
      refine zws_set (h := h) (h' := zsI h a j.toNatClampNeg x.toInt8.toInt32) rfl ha.1 ha.2 (fun b hb => zent_sI hb) ?_
      rw [zent_a (k := kk) (n := (zkd h a).2) (show zkd (zsI h a j.toNatClampNeg x.toInt8.toInt32) a = _ by rw [← hk]) hkk]
      have e3 : ziv (zsI h a j.toNatClampNeg x.toInt8.toInt32) a = upd (ziv h a) j.toNatClampNeg x.toInt8.toInt32 := by show zup (ziv h) a _ a = _; unfold zup; rw [if_pos rfl]; rfl
      rw [e3]
    rcases k1 with k1 | ⟨k1, kb⟩
    · rw [zent_a (k := 1) (n := (zkd h a).2) (by rw [← k1]) (by decide)] at hw
      refine va_bast hx hb hK hP hD hS (a - 1) 0 hw rfl k2 (zdc hd rfl (by decide)) (fun H1 locs1 p1 p2 p3 => ?_)
      rw [vp_nar_byte, hset 1 (by decide) k1] at p1 p2
      exact kh _ _ _ _ _ (hwf.sI fun _ => zbyte x) rfl rfl rfl rfl hos.tl.tl.tl p1 p2 p3 he
    · rw [zent_a (k := 3) (n := (zkd h a).2) (by rw [← k1]) (by decide)] at hw
      refine va_zast hx hb hK hP hD hS (a - 1) 2 hw rfl k2 (zdc hd rfl (by decide)) (fun H1 locs1 p1 p2 p3 => ?_)
      rw [(zbool_n kb).2.2, hset 3 (by decide) k1] at p1 p2
      exact kh _ _ _ _ _ (hwf.sI fun _ => zbyte x) rfl rfl rfl rfl hos.tl.tl.tl p1 p2 p3 he
  | laload =>
    obtain ⟨j, t, rfl, he⟩ := zpI_some he
    obtain ⟨a, t, rfl, he⟩ := zpR_some he
    obtain ⟨⟨k1, k2⟩, he⟩ := zck_some he
    have ha := hwf.1 a (by rw [k1]; decide)
    have e1 : zmv ad ea (zR a) = .ref (ad a) := zrf_pos ha.1
    show W p l e R s m args below meth c H locs cells slots Q (F0 m pc ls (.int j :: zmv ad ea (zR a) :: t.map (zmv ad ea)))
    rw [e1]
    have hw := zws_get (cK := zeK E) (ad := ad) ha.1 ha.2
    rw [zent_l (n := (zkd h a).2) (by rw [← k1])] at hw
    exact va_lald hx hb hK hP (a - 1) 3 hw rfl k2 (zdc hd rfl (by decide)) (k _ _ (oL _ _ hos.tl.tl) he)
  | lastore =>
    obtain ⟨x, t, rfl, he⟩ := zpL_some he
    obtain ⟨j, t, rfl, he⟩ := zpI_some he
    obtain ⟨a, t, rfl, he⟩ := zpR_some he
    obtain ⟨⟨k1, k2⟩, he⟩ := zck_some he
    have ha := hwf.1 a (by rw [k1]; decide)
    have e1 : zmv ad ea (zR a) = .ref (ad a) := zrf_pos ha.1
    show W p l e R s m args below meth c H locs cells slots Q (F0 m pc ls (.long x :: .int j :: zmv ad ea (zR a) :: t.map (zmv ad ea)))
    rw [e1]
    have hw := zws_get (cK := zeK E) (ad := ad) ha.1 ha.2
    have hk1 : zkd h a = (4, (zkd h a).2) := by rw [← k1]
    rw [zent_l hk1] at hw
    have hset : (zws (zeK E) ad h).set (a - 1) (ad a, .inl (zeK E 4, (zkd h a).2, .inr (.inl (vp_updL (zlv h a) j.toNatClampNeg x)))) = zws (zeK E) ad (zsL h a j.toNatClampNeg x) := by
      refine zws_set (h := h) (h' := zsL h a j.toNatClampNeg x) rfl ha.1 ha.2 (fun b hb => zent_sL hb) ?_
      rw [zent_l (show zkd (zsL h a j.toNatClampNeg x) a = _ from hk1)]
      have e3 : zlv (zsL h a j.toNatClampNeg x) a = vp_updL (zlv h a) j.toNatClampNeg x := by show zup (zlv h) a _ a = _; unfold zup; rw [if_pos rfl]; rfl
      rw [e3]
    refine va_last hx hb hK hP hD hS (a - 1) 3 hw rfl k2 (zdc hd rfl (by decide)) (fun H1 locs1 p1 p2 p3 => ?_)
    rw [hset] at p1 p2
    exact kh (pc + 1) t (zsL h a j.toNatClampNeg x) _ _ hwf rfl rfl rfl rfl hos.tl.tl.tl p1 p2 p3 he
  | aaload =>
    obtain ⟨j, t, rfl, he⟩ := zpI_some he
    obtain ⟨a, t, rfl, he⟩ := zpR_some he
    obtain ⟨⟨k1, k2⟩, he⟩ := zck_some he
    have ha := hwf.1 a (by rw [k1]; decide)
    have e1 : zmv ad ea (zR a) = .ref (ad a) := zrf_pos ha.1
    show W p l e R s m args below meth c H locs cells slots Q (F0 m pc ls (.int j :: zmv ad ea (zR a) :: t.map (zmv ad ea)))
    rw [e1]
    have hw := zws_get (cK := zeK E) (ad := ad) ha.1 ha.2
    rw [zent_q (n := (zkd h a).2) (by rw [← k1])] at hw
    have K := k _ _ (zoks.cons (v := zR _) (hwf.2.1 a j.toNatClampNeg) hos.tl.tl) he
    have e2 : va_rf (z7ro ad (zrv h a j.toNatClampNeg)) = zrf ad (zrv h a j.toNatClampNeg) := by
      unfold z7ro zrf; by_cases q : zrv h a j.toNatClampNeg = 0 <;> simp [q, va_rf]
    refine va_aldq hx hb hK hP (a - 1) 4 hw rfl k2 (zdc hd rfl (by decide)) ?_
    rw [e2]
    exact K
  | aastore =>
    have he : zpR stk (fun r s => zpI s fun j s => zpR s fun a s => zck ((zkd h a).1 = 5 ∧ zkd h r = (11, 7) ∧ ¬ (j < 0 ∨ (zkd h a).2 ≤ j.toNatClampNeg)) (rec (pc + 1) loc s (zsR h a j.toNatClampNeg r))) = some out := he
    obtain ⟨r, t, rfl, he⟩ := zpR_some he
    obtain ⟨j, t, rfl, he⟩ := zpI_some he
    have he : zpR t (fun a s => zck ((zkd h a).1 = 5 ∧ zkd h r = (11, 7) ∧ ¬ (j < 0 ∨ (zkd h a).2 ≤ j.toNatClampNeg)) (rec (pc + 1) loc s (zsR h a j.toNatClampNeg r))) = some out := he
    obtain ⟨a, t, rfl, he⟩ := zpR_some he
    obtain ⟨⟨k1, kr, k2⟩, he⟩ := zck_some he
    have ha := hwf.1 a (by rw [k1]; decide)
    have hr := hwf.1 r (by rw [kr]; decide)
    have e1 : zmv ad ea (zR a) = .ref (ad a) := zrf_pos ha.1
    have e0 : zmv ad ea (zR r) = .ref (ad r) := zrf_pos hr.1
    show W p l e R s m args below meth c H locs cells slots Q (F0 m pc ls (zmv ad ea (zR r) :: .int j :: zmv ad ea (zR a) :: t.map (zmv ad ea)))
    rw [e1, e0]
    have hw := zws_get (cK := zeK E) (ad := ad) ha.1 ha.2
    have hw2 := zws_get (cK := zeK E) (ad := ad) hr.1 hr.2
    have hk1 : zkd h a = (5, (zkd h a).2) := by rw [← k1]
    rw [zent_q hk1] at hw
    rw [zent_o (ci := 1) kr] at hw2
    have hset : (zws (zeK E) ad h).set (a - 1) (ad a, .inl (zeK E 5, (zkd h a).2, .inr (.inr (.inr (.inr (va_up (fun j => z7ro ad (zrv h a j)) j.toNatClampNeg (some (ad r)))))))) = zws (zeK E) ad (zsR h a j.toNatClampNeg r) := by
      refine zws_set (h := h) (h' := zsR h a j.toNatClampNeg r) rfl ha.1 ha.2 (fun b hb => zent_sR hb) ?_
      rw [zent_q (show zkd (zsR h a j.toNatClampNeg r) a = _ from hk1)]
      have e3 : zrv (zsR h a j.toNatClampNeg r) a = zup (zrv h a) j.toNatClampNeg r := by show zup (zrv h) a _ a = _; unfold zup; rw [if_pos rfl]
      rw [e3]
      congr 7
      funext i
      unfold va_up zup
      by_cases q : i = j.toNatClampNeg
      · rw [if_pos q, if_pos q]; unfold z7ro; rw [if_neg (by omega)]
      · rw [if_neg q, if_neg q]
    refine va_astq hx hb hK hP hD hS (a - 1) 4 (r - 1) 1 (r := (zCn 1, z7T 1, zNn 1)) hw rfl hw2 (zcs_at 1 (by decide)) k2 (zdc hd rfl (by decide)) (fun H1 locs1 p1 p2 p3 => ?_)
    rw [hset] at p1 p2
    exact kh _ _ _ _ _ (hwf.sR hr.2) rfl rfl rfl rfl hos.tl.tl.tl p1 p2 p3 he
  | invokevirtual n => exact hcall2 n (Or.inl rfl)
  | invokespecial n => exact hcall2 n (Or.inr (Or.inl rfl))
  | invokestatic n => exact hcall2 n (Or.inr (Or.inr rfl))
  | ireturn =>
    rcases stk with _ | ⟨x | x | x | x, _ | ⟨y, t⟩⟩
    · cases he
    · obtain ⟨k1, he⟩ := zck_some (show zck (as.getD 0 0 = 1 → x = 0 ∨ x = 1) (some (.inl (some (zI x)), h)) = some out from he)
      have hz : decide ((as.getD 0 0 = 1 ∧ zre M = some .boolean) ∨ (as.getD 0 0 = 0 ∧ zre M = some .int)) = true := hz
      refine hret pc (some (zI x)) h ad ea loc [zI x] H locs ls cells slots (Option.some.inj he).symm ⟨zdc hd rfl (by decide), ?_⟩ hn had hA hc hs
      rcases of_decide_eq_true hz with ⟨q1, q2⟩ | ⟨q1, q2⟩
      · exact Or.inr ⟨q2, k1 q1⟩
      · exact Or.inl q2
    all_goals cases he
  | lreturn =>
    rcases stk with _ | ⟨x | x | x | x, _ | ⟨y, t⟩⟩
    · cases he
    · cases he
    · cases he
    · exact hret pc (some (zL x)) h ad ea loc [zL x] H locs ls cells slots (Option.some.inj he).symm ⟨zdc hd rfl (by decide), of_decide_eq_true hz⟩ hn had hA hc hs
    all_goals cases he
  | areturn =>
    rcases stk with _ | ⟨x | x | x | x, _ | ⟨y, t⟩⟩
    · cases he
    · cases he
    · cases he
    · cases he
    · cases he
    · refine hret pc (some (zR x)) h ad ea loc [zR x] H locs ls cells slots (Option.some.inj he).symm ⟨zdc hd rfl (by decide), ?_⟩ hn had hA hc hs
      have hz : (match zre M with
        | some (.object _) => true
        | _ => false) = true := hz
      rcases q : zre M with _ | ⟨_ | _⟩ <;> rw [q] at hz <;> first | exact ⟨_, rfl⟩ | cases hz
    all_goals cases he
  | return_ =>
    rcases stk with _ | ⟨x, t⟩
    · exact hret pc none h ad ea loc [] H locs ls cells slots (Option.some.inj he).symm ⟨zdc hd rfl (by decide), of_decide_eq_true hz⟩ hn had hA hc hs
    · cases he
  | _ => cases he
end ZINS2
