set_option maxRecDepth 16384
section ZINS
variable {E : zEnv} {M : Nat} {p : Program} {l : Launch} {e : Env} {R : Room} {s : State} {m : MethodId} {args : Array Value} {below : List Frame} {meth : Method} {c : Code} {Q : State → Prop} {c0 s0 n0 : Nat} {ad0 ea0 : Nat → Nat}

/-- behind a call: it came back, or threw -/
theorem z_run {H : Heap} {locs : List Loc} {cells slots mc ms pc : Nat} {ls : Array Slot} {st0 rest : List Value} {ad : Nat → Nat} {h h1 : zH} {r : Option zV ⊕ Nat} {a : Array Value}
    (hr : vx_Run p l e R s m args below meth c H locs cells slots mc ms (F0 m pc ls st0) rest (zQc E ad h r h1 a) (zXc E ad h r h1) (zeA E)) (hS : va_S (zeA E) s.heap H locs)
    (kk : ∀ (v : Option zV) (ad' : Nat → Nat) (H1 : Heap) (locs1 : List Loc), r = .inl v → (∀ k, v ≠ some (zX k)) → zPo E ad h h1 ad' H1 → va_S (zeA E) s.heap H1 locs1 → W p l e R s m args below meth c H1 locs1 (cells + mc) (slots + ms) Q (F0 m (pc + 3) ls ((v.map (zmv ad' (fun _ => 0))).toList ++ rest)))
    (kx : ∀ (x : Nat) (ad' : Nat → Nat) (H1 : Heap) (locs1 : List Loc) (q : Nat) (ce : Cell), x < 4 → r = .inr x → zPo E ad h h1 ad' H1 → va_S (zeA E) s.heap H1 locs1 → H1[q]? = some ce → ce.vm = .none → s.vm.findClass (zxn x) = some ce.cls → vx_W p l e R s m args below meth c H1 locs1 (cells + mc) (slots + ms) Q (F0 m pc ls rest) q) :
    W p l e R s m args below meth c H locs cells slots Q (F0 m pc ls st0) := by
  intro T hT X
  rcases hr T hT X with ⟨v, st₀, t, T', L, h0, X', hL, e1, e2, ⟨⟨rv, hrv, hnx, ad', hpo, hv⟩, hF⟩, st⟩ | ⟨q, st₀, t, T', L, Ex, ce, h0, X', hL, e1, e2, ⟨⟨x, hx4, hxn, hrx, ad', hpo⟩, hF⟩, hce, hcv, hcl, st⟩
  · cases hv
    obtain ⟨k1, k2, k3⟩ := vx_keep h0 e1 hS (fun _ _ z => z) (fun _ z => z) hL hF
    obtain ⟨t2, a1, b1⟩ := kk rv ad' T'.heap (locs ++ L) hrv hnx (e1 ▸ hpo) k3 T' rfl X'
    exact ⟨t2, st t2 a1, b1⟩
  · obtain ⟨k1, k2, k3⟩ := vx_keep h0 e1 hS (fun _ _ z => z) (fun _ z => z) hL hF
    subst hxn
    obtain ⟨t2, a1, b1⟩ := kx x ad' T'.heap (locs ++ L) q ce hx4 hrx (e1 ▸ hpo) k3 (by rw [e1]; exact hce) hcv hcl T' rfl X'
    exact ⟨t2, st.trans a1, b1⟩
theorem zgood {k : Nat} {w : Cond} (h : w ∈ zgw) : goodWord w = true := (List.mem_filter.mp h).2
theorem zgi {k : Nat} (hk : zwd k ∈ zgw) : GoodIn zgw (zwd k :: zgw) := by
  intro w hw
  have hw2 : w ∈ zgw := (List.mem_cons.mp hw).elim (fun q => q ▸ hk) id
  exact ⟨hw2, good_of_word (List.mem_filter.mp hw2).2⟩
theorem zPc_blind {ad ea : Nat → Nat} {vs : List zV} {h : zH} : FrameBlind (zPc E ad ea vs h) := by
  intro a U g mk ⟨h1, h2, h3, h4⟩
  exact ⟨h1, zG.move h2 (State.WarmedH.refl U) (Nat.le_refl _) (fun _ _ _ => rfl), h3, h4⟩
theorem zPc_of {ad ea : Nat → Nat} {vs : List zV} {h : zH} {H : Heap} {locs : List Loc} (hG : zG E ea s s.heap) (hS : va_S (zeA E) s.heap H locs) (hP : va_P (zeD E) zcs (zws (zeK E) ad h) H) (hD : va_D (zeA E) (zws (zeK E) ad h)) (U : State) (hU : U.heap = H) (hW : s.WarmedH U.vm) : zPc E ad ea vs h (vs.map (zmv ad ea)).toArray U := by
  refine ⟨rfl, ?_, by rw [hU]; exact hP, hD⟩
  rw [hU]
  exact zG.move hG hW hS.1 (fun a h1 h2 => hS.2.1 a h1 h2)
theorem zmv_tl {ad ea : Nat → Nat} {v : Option zV} {rest : List zV} (hx : ∀ k, v ≠ some (zX k)) : (v.map (zmv ad (fun _ => 0))).toList ++ rest.map (zmv ad ea) = (zput v rest).map (zmv ad ea) := by
  rcases v with _ | ⟨x | x | x | x⟩
  · rfl
  · rfl
  · rfl
  · rfl
  · exact absurd rfl (hx x)
/-- a call, whatever its kind, once the machine has made it -/
theorem z_back {cal : zC} {rec : zF} {out : zO} {pc k : Nat} {loc : List (Option zV)} {vs rest : List zV} {h : zH} {ad ea : Nat → Nat} {H : Heap} {locs : List Loc} {ls : Array Slot} {cells slots : Nat} {st0 : List Value} {a : Array Value}
    (Cx : zCx E M p l R s m args meth c ea0) (hcl : ∀ q ∈ (zP M).2.1.zip (zhh M), q.1.1 = q.2.1 ∧ q.1.2.1 = q.2.2.1 ∧ q.1.2.2.1 = q.2.2.2.1 ∧ q.1.2.2.2 < 4 ∧ q.2.2.2.2 ≠ 0 ∧ .classLink (zow M) q.2.2.2.2 (zxn q.1.2.2.2) ∈ zgw) (hlen : (zP M).2.1.length = (zhh M).length)
    (hcast : ∀ x, x < 4 → Cond.castable (zxn x) (zxn x) ∈ znw)
    (hrec : ∀ pc' loc' stk' h', rec pc' loc' stk' h' = some out → zGo E M p l e R s m args below meth c Q c0 s0 n0 ad0 ea0 pc' loc' stk' h')
    (hcw : ∀ r h1, cal k vs h = some (r, h1) → zwf h1 ∧ zle h h1 ∧ zokr h1 r)
    (hprp : zPrp E M p l e R s m args below meth c Q c0 s0 n0 ad0 out)
    (he : zcall cal rec (zP M).2.1 pc k loc vs rest h = some out)
    (hn : n0 ≤ zn h) (had : ∀ i, i ≤ n0 → ad i = ad0 i) (hea : ∀ k, k < 1000 → ea k = ea0 k)
    (hA : zAt E (zml M) s.heap ad ea loc rest h H locs ls) (hc : cells + c0 = zcn h) (hs : slots + s0 = zsn h)
    (hr : ∀ r h1, cal k vs h = some (r, h1) → vx_Run p l e R s m args below meth c H locs cells slots (zcn h1 - zcn h) (zsn h1 - zsn h) (F0 m pc ls st0) (rest.map (zmv ad ea)) (zQc E ad h r h1 a) (zXc E ad h r h1) (zeA E)) :
    W p l e R s m args below meth c H locs cells slots Q (F0 m pc ls st0) := by
  unfold zcall at he
  obtain ⟨hc8, he⟩ := zck_some he
  rcases hcal : cal k vs h with _ | ⟨r, h1⟩
  · rw [hcal] at he; simp only [zcx] at he; cases he
  obtain ⟨w1, l1, o1⟩ := hcw r h1 hcal
  have hAS := hA.2.2.2.2.2.2.1
  refine z_run (hr r h1 hcal) hAS (fun v ad' H1 locs1 hrv hnx hpo hS1 => ?_) (fun x ad' H1 locs1 q ce hx4 hrx hpo hS1 hce hcv hcl2 => ?_)
  · subst hrv
    rw [hcal] at he
    simp only [zcx] at he
    have hadn : ∀ b, b ≤ zn h → ad' b = ad b := hpo.1
    rw [show rest.map (zmv ad ea) = rest.map (zmv ad' ea) from (zmv_ups hA.2.2.1 hadn).symm, zmv_tl hnx]
    refine hrec _ _ _ _ he (Nat.le_trans hn l1.1) ad' ea H1 locs1 ls _ _ (fun i hi => (hadn i (Nat.le_trans hi hn)).trans (had i hi)) hea ⟨w1, hA.2.1.up l1.1, ?_, l1.2.2.2.trans hA.2.2.2.1, hpo.2.1, hpo.2.2, hS1, hA.2.2.2.2.2.2.2.up hA.2.1 hadn⟩ (by have := l1.2.1; omega) (by have := l1.2.2.1; omega)
    cases v with
    | none => exact hA.2.2.1.up l1.1
    | some v => exact zoks.cons o1 (hA.2.2.1.up l1.1)
  · subst hrx
    rw [hcal] at he
    simp only [zcx] at he
    have hadn : ∀ b, b ≤ zn h → ad' b = ad b := hpo.1
    have hn1 : n0 ≤ zn h1 := Nat.le_trans hn l1.1
    have had1 : ∀ i, i ≤ n0 → ad' i = ad0 i := fun i hi => (hadn i (Nat.le_trans hi hn)).trans (had i hi)
    have hc1 : cells + (zcn h1 - zcn h) + c0 = zcn h1 := by have := l1.2.1; omega
    have hs1 : slots + (zsn h1 - zsn h) + s0 = zsn h1 := by have := l1.2.2.1; omega
    rcases ht : zhand (zP M).2.1 pc x with _ | t <;> simp only [ht, zth] at he
    · cases he
      exact hprp pc x h1 ad' ea loc H1 locs1 ls _ _ _ q ce rfl hx4 ht hn1 had1 ⟨w1, hA.2.1.up l1.1, zoks.nil, l1.2.2.2.trans hA.2.2.2.1, hpo.2.1, hpo.2.2, hS1, hA.2.2.2.2.2.2.2.up hA.2.1 hadn⟩ hc1 hs1 hce hcv hcl2
    · obtain ⟨hx, hb, hml, hown, hts, hlk, hnm, htab, hst, hG, hfr, hlo⟩ := Cx
      -- the row of the table that takes it
      have key : ∀ (hs : List (Nat × Nat × Nat × Nat)) (hh : List (Nat × Nat × Nat × Nat)), hs.length = hh.length → (∀ q ∈ hs.zip hh, q.1.1 = q.2.1 ∧ q.1.2.1 = q.2.2.1 ∧ q.1.2.2.1 = q.2.2.2.1 ∧ q.1.2.2.2 < 4 ∧ q.2.2.2.2 ≠ 0 ∧ Cond.classLink (zow M) q.2.2.2.2 (zxn q.1.2.2.2) ∈ zgw) → zhand hs pc x = some t →
          ∃ pre y suf, hh = pre ++ y :: suf ∧ (∀ z ∈ pre, covers ⟨z.1, z.2.1, z.2.2.1, z.2.2.2⟩ pc = false ∨ (z.2.2.2 ≠ 0 ∧ ∃ i, i < 4 ∧ i ≠ x ∧ Cond.classLink (zow M) z.2.2.2 (zxn i) ∈ zgw)) ∧ covers ⟨y.1, y.2.1, y.2.2.1, y.2.2.2⟩ pc = true ∧ y.2.2.2 ≠ 0 ∧ Cond.classLink (zow M) y.2.2.2 (zxn x) ∈ zgw ∧ y.2.2.1 = t := by
        intro hs
        induction hs with
        | nil => intro hh _ _ e; cases e
        | cons g hs ih =>
          intro hh hl hq e
          cases hh with
          | nil => cases hl
          | cons y hh =>
            obtain ⟨a, b, t0, x0⟩ := g
            obtain ⟨q1, q2, q3, q4, q5, q6⟩ := hq ((a, b, t0, x0), y) List.mem_cons_self
            dsimp only at q1 q2 q3 q4 q5 q6
            unfold zhand at e
            by_cases q : a ≤ pc ∧ pc < b ∧ x0 = x
            · rw [if_pos q] at e
              cases e
              refine ⟨[], y, hh, rfl, fun z hz => (by cases hz), ?_, q5, by rw [← q.2.2]; exact q6, q3.symm⟩
              show (decide (y.1 ≤ pc) && decide (pc < y.2.1)) = true
              rw [← q1, ← q2]
              simp [q.1, q.2.1]
            · rw [if_neg q] at e
              obtain ⟨pre, y2, suf, g1, g2, g3, g4, g5, g6⟩ := ih hh (by simpa using hl) (fun z hz => hq z (List.mem_cons_of_mem _ hz)) e
              refine ⟨y :: pre, y2, suf, by rw [g1]; rfl, fun z hz => ?_, g3, g4, g5, g6⟩
              rcases List.mem_cons.mp hz with rfl | hz
              · by_cases c1 : a ≤ pc ∧ pc < b
                · exact Or.inr ⟨q5, x0, q4, fun z => q ⟨c1.1, c1.2, z⟩, q6⟩
                · left
                  show (decide (z.1 ≤ pc) && decide (pc < z.2.1)) = false
                  rw [← q1, ← q2]
                  simp only [Bool.and_eq_false_iff, decide_eq_false_iff_not]
                  by_cases c2 : a ≤ pc
                  · exact Or.inr fun c3 => c1 ⟨c2, c3⟩
                  · exact Or.inl c2
              · exact g2 z hz
      obtain ⟨pre, y, suf, g1, g2, g3, g4, g5, g6⟩ := key _ _ hlen hcl ht
      have hnc := hG.2.2.2.1
      have hsplit : c.exceptionTable.toList = tableOf pre ++ (⟨y.1, y.2.1, y.2.2.1, y.2.2.2⟩ : ExceptionTableEntry) :: tableOf suf := by
        rw [htab, g1]; simp [tableOf]
      refine vx_catch (own := zow M) (name := zxn x) (E := zxn x) hown (tableOf pre) ⟨y.1, y.2.1, y.2.2.1, y.2.2.2⟩ (tableOf suf) hsplit (fun z hz => ?_) g3 g4 (hts _ g5) ?_ hce hcv hcl2 ?_
      · obtain ⟨z0, hz0, rfl⟩ := List.mem_map.mp hz
        rcases g2 z0 hz0 with q | ⟨q1, i, q2, q3, q4⟩
        · exact Or.inl q
        · exact Or.inr ⟨q1, zxn i, hts _ q4, hnc x i hx4 q2 (Ne.symm q3)⟩
      · exact va_Nw.use rfl (hG.2.2.1 _ (hcast x hx4))
      · show W p l e R s m args below meth c H1 locs1 _ _ Q (F0 m y.2.2.1 ls [.ref q])
        rw [g6]
        have K := hrec _ _ _ _ he hn1 ad' (fun k => if k = 1000 then q else ea k) H1 locs1 ls _ _ had1 (fun k hk => by
          show (if k = 1000 then q else ea k) = ea0 k
          rw [if_neg (by omega)]; exact hea k hk) ⟨w1, zokl.forget, zoks.cons (v := zX 1000) trivial zoks.nil, l1.2.2.2.trans hA.2.2.2.1, hpo.2.1, hpo.2.2, hS1, hA.2.2.2.2.2.2.2.forget⟩ hc1 hs1
        have e1 : ([zX 1000] : List zV).map (zmv ad' (fun k => if k = 1000 then q else ea k)) = [.ref q] := by
          show [Value.ref (if 1000 = 1000 then q else ea 1000)] = _
          rw [if_pos rfl]
        rw [e1] at K
        exact K

end ZINS
