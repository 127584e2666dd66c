set_option maxRecDepth 16384
/-! a text that is put together is read as it was -/
theorem cfn_at {f : Int → Int} {b a e x : Int} (h1 : a ≤ x) (h2 : x ≤ e) (h3 : x < e → f x = b) (h4 : ∀ k, a ≤ k → k < x → f k ≠ b) : cfn f b a e = x := by
  unfold cfn
  rw [if_pos (by omega)]; exact fn_is h1 h2 h3 h4
theorem cfn_hit2 {f : Int → Int} {b a e : Int} (h : a ≤ e) (g : cfn f b a e < e) : f (cfn f b a e) = b := by
  unfold cfn at g ⊢
  rw [if_pos h] at g ⊢
  exact fn_hit f b h g
theorem cfn_no2 {f : Int → Int} {b a e x : Int} (h : a ≤ e) (h1 : a ≤ x) (h2 : x < cfn f b a e) : f x ≠ b := by
  unfold cfn at h2
  rw [if_pos h] at h2
  exact fn_no f b h h1 h2
theorem fli_no {f : Int → Int} {b a : Int} : ∀ (n : Nat) (e : Int), (e + 1 - a).toNat = n → (∀ k, a ≤ k → k ≤ e → f k ≠ b) → fli f b a e = -1 := by
  intro n
  induction n with
  | zero => intro e hn h; exact (fli_st f b a e).1 (by omega)
  | succ n ih =>
    intro e hn h
    rw [((fli_st f b a e).2 (by omega)).2 (h e (by omega) (by omega)), ih _ (by omega) (fun k h1 h2 => h k h1 (by omega))]
theorem fli_at {f : Int → Int} {b a x : Int} (h1 : a ≤ x) (hx : f x = b) : ∀ (n : Nat) (e : Int), (e - x).toNat = n → x ≤ e → (∀ k, x < k → k ≤ e → f k ≠ b) → fli f b a e = x := by
  intro n
  induction n with
  | zero =>
    intro e hn h2 h
    have ee : e = x := by omega
    subst ee
    exact ((fli_st f b a e).2 h1).1 hx
  | succ n ih =>
    intro e hn h2 h
    rw [((fli_st f b a e).2 (by omega)).2 (h e (by omega) (by omega)), ih _ (by omega) (by omega) (fun k h3 h4 => h k h3 (by omega))]
/-- a stretch without marks leaves the search for a colon as it is -/
theorem oc_skip {f : Int → Int} {e s c : Int} {k2 : Int} (h2 : k2 ≤ e) : ∀ (n : Nat) (k : Int), (k2 - k).toNat = n → k ≤ k2 → (∀ i, k ≤ i → i < k2 → f i ≠ 91 ∧ f i ≠ 93 ∧ (f i ≠ 58 ∨ s ≠ 0)) → oc f k e s c = oc f k2 e s c := by
  intro n
  induction n with
  | zero => intro k hn hk h; rw [show k = k2 by omega]
  | succ n ih =>
    intro k hn hk h
    have g := h k (Int.le_refl k) (by omega)
    rw [((oc_st f k e s c).2 (by omega)).2.2.2 g.1 g.2.1 g.2.2, ih _ (by omega) (by omega) (fun i h1 h3 => h i (by omega) h3)]
theorem oc_skip1 {f : Int → Int} {e c : Int} {k2 : Int} (h2 : k2 ≤ e) : ∀ (n : Nat) (k : Int), (k2 - k).toNat = n → k ≤ k2 → (∀ i, k ≤ i → i < k2 → f i ≠ 93) → oc f k e 1 c = oc f k2 e 1 c := by
  intro n
  induction n with
  | zero => intro k hn hk h; rw [show k = k2 by omega]
  | succ n ih =>
    intro k hn hk h
    have g := h k (Int.le_refl k) (by omega)
    have st := (oc_st f k e 1 c).2 (by omega)
    have r : oc f k e 1 c = oc f (k + 1) e 1 c := by
      by_cases d : f k = 91
      · exact st.1 d
      · exact st.2.2.2 d g (Or.inr (by decide))
    rw [r, ih _ (by omega) (by omega) (fun i h1 h3 => h i (by omega) h3)]
/-- no such sign in a text -/
def nc (b : Int) (L : List Int) : Prop := ∀ i : Int, gl L i ≠ b
theorem nc_nil {b : Int} (h : b ≠ -1) : nc b [] := fun i => by
  rw [gl_out (by simp only [List.length_nil]; omega)]; exact fun w => h w.symm
theorem nc_app {b : Int} {L M : List Int} (h : nc b L) (g : nc b M) : nc b (L ++ M) := fun i => by
  rw [gl_app]; split
  · exact h i
  · exact g _
theorem nc_cons {b x : Int} {L : List Int} (h : x ≠ b) (g : nc b L) : nc b (x :: L) := fun i => by
  rw [gl_cons]; split
  · exact h
  · exact g _
/-- hosts that hold no mark outside of [ and ] -/
def hSt (H : List Int) : Prop := (nc 58 H ∧ nc 91 H ∧ nc 93 H) ∨ (2 ≤ H.length ∧ gl H 0 = 91 ∧ gl H (H.length - 1) = 93 ∧ ∀ i : Int, 0 ≤ i → i < H.length - 1 → gl H i ≠ 93)
/-- parts that are read as they are, when they are put together -/
def Fl (Q : Nat → List Int × Int) : Prop := (∀ k, k < 7 → (Q k).2 = 0 ∨ (Q k).2 = 1) ∧ (∀ k, k < 7 → (Q k).2 = 0 → (Q k).1 = []) ∧ (Q 4).2 = 1 ∧ ((Q 2).2 = 0 → (Q 1).2 = 0) ∧ ((Q 2).2 = 0 → (Q 3).2 = 0)
def Sr (Q : Nat → List Int × Int) : Prop := ((Q 2).2 = 1 → (Q 4).1 = [] ∨ gl (Q 4).1 0 = 47) ∧ ((Q 2).2 = 0 → ¬ (gl (Q 4).1 0 = 47 ∧ gl (Q 4).1 1 = 47)) ∧ ((Q 0).2 = 0 → (Q 2).2 = 0 → cfn (gl (Q 4).1) 58 0 (cfn (gl (Q 4).1) 47 0 (Q 4).1.length) = cfn (gl (Q 4).1) 47 0 (Q 4).1.length)
def Nc (Q : Nat → List Int × Int) : Prop := (∀ k, k < 6 → nc 35 (Q k).1) ∧ (∀ k, k < 5 → nc 63 (Q k).1) ∧ (∀ k, k < 4 → nc 47 (Q k).1) ∧ nc 58 (Q 0).1 ∧ nc 64 (Q 2).1 ∧ nc 64 (Q 3).1 ∧ (nc 91 (Q 3).1 ∧ nc 93 (Q 3).1 ∧ nc 58 (Q 3).1) ∧ hSt (Q 2).1
theorem sub_mid (A B C : List Int) {a e : Int} (ha : a = A.length) (he : e = (A.length : Int) + B.length) : sub (A ++ (B ++ C)) a e = B := by
  unfold sub
  rw [ha, he, Int.toNat_natCast, List.drop_left, show ((A.length : Int) + B.length - A.length).toNat = B.length by omega, List.take_left]
theorem wm_gl (x : List Int × Int) (b c : Int) (hx : x.2 = 0 → x.1 = []) : wm x b c = if x.2 = 0 then [] else (if b = -1 then [] else [b]) ++ (x.1 ++ (if c = -1 then [] else [c])) := rfl
/-- the authority as it is written -/
def aut (Q : Nat → List Int × Int) : List Int := (if (Q 2).2 = 0 then [] else [47, 47]) ++ (wm (Q 1) (-1) 64 ++ (wm (Q 2) (-1) (-1) ++ wm (Q 3) 58 (-1)))
theorem cmp_5 (Q : Nat → List Int × Int) (h : (Q 4).2 = 1) : cmp Q = wm (Q 0) (-1) 58 ++ (aut Q ++ ((Q 4).1 ++ (wm (Q 5) 63 (-1) ++ wm (Q 6) 35 (-1)))) := by
  have e4 : wm (Q 4) (-1) (-1) = (Q 4).1 := by unfold wm; rw [if_neg (by omega), if_pos rfl, List.nil_append, List.append_nil]
  unfold cmp aut
  rw [e4]
  simp only [List.append_assoc]
theorem gl_app0 (A B : List Int) {k : Int} (h : (A.length : Int) ≤ k) : gl (A ++ B) k = gl B (k - A.length) := by rw [gl_app, if_neg (by omega)]
theorem gl_app1 (A B : List Int) {k : Int} (h : k < (A.length : Int)) : gl (A ++ B) k = gl A k := by rw [gl_app, if_pos h]
theorem wm_0 {x : List Int × Int} (b c : Int) (h : x.2 = 0) : wm x b c = [] := by unfold wm; rw [if_pos h]
theorem wm_1 {x : List Int × Int} (b c : Int) (h : x.2 = 1) : wm x b c = (if b = -1 then [] else [b]) ++ (x.1 ++ (if c = -1 then [] else [c])) := by unfold wm; rw [if_neg (by omega)]
theorem wm_n {x : List Int × Int} {b c d : Int} (h : nc d x.1) (hb : b ≠ d) (hc : c ≠ d) (hd : d ≠ -1) : nc d (wm x b c) := by
  unfold wm
  split
  · exact nc_nil hd
  · refine nc_app ?_ (nc_app h ?_)
    · split
      · exact nc_nil hd
      · exact nc_cons hb (nc_nil hd)
    · split
      · exact nc_nil hd
      · exact nc_cons hc (nc_nil hd)
theorem aut_n {Q : Nat → List Int × Int} {d : Int} (h1 : nc d (Q 1).1) (h2 : nc d (Q 2).1) (h3 : nc d (Q 3).1) (hd : d ≠ -1 ∧ d ≠ 47 ∧ d ≠ 58 ∧ d ≠ 64) : nc d (aut Q) := by
  unfold aut
  refine nc_app ?_ (nc_app (wm_n h1 (fun e => hd.1 e.symm) (fun e => hd.2.2.2 e.symm) hd.1) (nc_app (wm_n h2 (fun e => hd.1 e.symm) (fun e => hd.1 e.symm) hd.1) (wm_n h3 (fun e => hd.2.2.1 e.symm) (fun e => hd.1 e.symm) hd.1)))
  split
  · exact nc_nil hd.1
  · exact nc_cons (fun e => hd.2.1 e.symm) (nc_cons (fun e => hd.2.1 e.symm) (nc_nil hd.1))
/-- where the parts of such a text are -/
theorem parse {Q : Nat → List Int × Int} (F : Fl Q) (S : Sr Q) (N : Nc Q) {T s a p q f : List Int} (hs : s = wm (Q 0) (-1) 58) (ha : a = aut Q) (hp : p = (Q 4).1) (hq : q = wm (Q 5) 63 (-1)) (hf : f = wm (Q 6) 35 (-1)) (hT : T = s ++ (a ++ (p ++ (q ++ f)))) :
    kH (gl T) T.length = (s.length : Int) + a.length + p.length + q.length ∧ kQ (gl T) T.length = (s.length : Int) + a.length + p.length ∧ (kC (gl T) T.length < kS (gl T) T.length ↔ (Q 0).2 = 1) ∧ ((Q 0).2 = 1 → kC (gl T) T.length = (Q 0).1.length) ∧ kP (gl T) T.length = s.length ∧ (kO (gl T) T.length = 1 ↔ (Q 2).2 = 1) ∧ ((Q 2).2 = 1 → kA (gl T) T.length = (s.length : Int) + a.length) := by
  have tl : (T.length : Int) = (s.length : Int) + a.length + p.length + q.length + f.length := by rw [hT]; simp only [List.length_append]; omega
  have gs : ∀ i : Int, i < s.length → gl T i = gl s i := fun i h => by rw [hT, gl_app1 _ _ h]
  have ga : ∀ i : Int, (s.length : Int) ≤ i → i < (s.length : Int) + a.length → gl T i = gl a (i - s.length) := fun i h1 h2 => by rw [hT, gl_app0 _ _ h1, gl_app1 _ _ (by omega)]
  have gp : ∀ i : Int, (s.length : Int) + a.length ≤ i → i < (s.length : Int) + a.length + p.length → gl T i = gl p (i - s.length - a.length) := fun i h1 h2 => by rw [hT, gl_app0 _ _ (by omega), gl_app0 _ _ (by omega), gl_app1 _ _ (by omega)]
  have gq : ∀ i : Int, (s.length : Int) + a.length + p.length ≤ i → i < (s.length : Int) + a.length + p.length + q.length → gl T i = gl q (i - s.length - a.length - p.length) := fun i h1 h2 => by rw [hT, gl_app0 _ _ (by omega), gl_app0 _ _ (by omega), gl_app0 _ _ (by omega), gl_app1 _ _ (by omega)]
  have gf : gl T ((s.length : Int) + a.length + p.length + q.length) = gl f 0 := by rw [hT, gl_app0 _ _ (by omega), gl_app0 _ _ (by omega), gl_app0 _ _ (by omega), gl_app0 _ _ (by omega)]; congr 1; omega
  -- what does not stand where
  have s35 : nc 35 s := by rw [hs]; exact wm_n (N.1 0 (by decide)) (by decide) (by decide) (by decide)
  have s63 : nc 63 s := by rw [hs]; exact wm_n (N.2.1 0 (by decide)) (by decide) (by decide) (by decide)
  have s47 : nc 47 s := by rw [hs]; exact wm_n (N.2.2.1 0 (by decide)) (by decide) (by decide) (by decide)
  have a35 : nc 35 a := by rw [ha]; exact aut_n (N.1 1 (by decide)) (N.1 2 (by decide)) (N.1 3 (by decide)) (by decide)
  have a63 : nc 63 a := by rw [ha]; exact aut_n (N.2.1 1 (by decide)) (N.2.1 2 (by decide)) (N.2.1 3 (by decide)) (by decide)
  have p35 : nc 35 p := by rw [hp]; exact N.1 4 (by decide)
  have p63 : nc 63 p := by rw [hp]; exact N.2.1 4 (by decide)
  have q35 : nc 35 q := by rw [hq]; exact wm_n (N.1 5 (by decide)) (by decide) (by decide) (by decide)
  have f0 : 0 < f.length → gl f 0 = 35 := fun h => by
    rcases F.1 6 (by decide) with e | e
    · rw [hf, wm_0 _ _ e] at h; exact absurd h (by decide)
    · rw [hf, wm_1 _ _ e]; rfl
  have q0 : 0 < q.length → gl q 0 = 63 := fun h => by
    rcases F.1 5 (by decide) with e | e
    · rw [hq, wm_0 _ _ e] at h; exact absurd h (by decide)
    · rw [hq, wm_1 _ _ e]; rfl
  have kh : kH (gl T) T.length = (s.length : Int) + a.length + p.length + q.length := by
    refine cfn_at (by omega) (by omega) (fun h => by rw [gf]; exact f0 (by omega)) (fun k h1 h2 => ?_)
    by_cases c1 : k < s.length
    · rw [gs k c1]; exact s35 k
    by_cases c2 : k < (s.length : Int) + a.length
    · rw [ga k (by omega) c2]; exact a35 _
    by_cases c3 : k < (s.length : Int) + a.length + p.length
    · rw [gp k (by omega) c3]; exact p35 _
    · rw [gq k (by omega) (by omega)]; exact q35 _
  have kq : kQ (gl T) T.length = (s.length : Int) + a.length + p.length := by
    unfold kQ
    rw [kh]
    refine cfn_at (by omega) (by omega) (fun h => ?_) (fun k h1 h2 => ?_)
    · rw [gq _ (by omega) (by omega), show (s.length : Int) + a.length + p.length - s.length - a.length - p.length = 0 by omega]; exact q0 (by omega)
    · by_cases c1 : k < s.length
      · rw [gs k c1]; exact s63 k
      by_cases c2 : k < (s.length : Int) + a.length
      · rw [ga k (by omega) c2]; exact a63 _
      · rw [gp k (by omega) (by omega)]; exact p63 _
  have ks : kS (gl T) T.length = if (Q 2).2 = 1 then (s.length : Int) else (s.length : Int) + cfn (gl p) 47 0 p.length := by
    unfold kS
    rw [kq]
    by_cases h2 : (Q 2).2 = 1
    · have al : 2 ≤ a.length ∧ gl a 0 = 47 := by
        rw [ha]; unfold aut; rw [if_neg (by omega)]
        exact ⟨by simp only [List.length_append, List.length_cons]; omega, rfl⟩
      rw [if_pos h2]
      refine cfn_at (by omega) (by omega) (fun h => ?_) (fun k h1 h3 => by rw [gs k h3]; exact s47 k)
      rw [ga _ (by omega) (by omega), Int.sub_self]; exact al.2
    · have h2' : (Q 2).2 = 0 := (F.1 2 (by decide)).resolve_right h2
      have al : a.length = 0 := by
        rw [ha]; unfold aut; rw [if_pos h2', wm_0 _ _ (F.2.2.2.1 h2'), wm_0 _ _ h2', wm_0 _ _ (F.2.2.2.2 h2')]; rfl
      have cr := (cfn_r (gl p) 47 0 p.length).1 (by omega)
      have hp2 := fun k => cfn_no2 (f := gl p) (b := 47) (a := 0) (e := (p.length : Int)) (x := k)
      rw [if_neg h2]
      refine cfn_at (by omega) (by omega) (fun h => ?_) (fun k h1 h3 => ?_)
      · rw [gp _ (by omega) (by omega), show (s.length : Int) + cfn (gl p) 47 0 p.length - s.length - a.length = cfn (gl p) 47 0 p.length by omega]
        exact cfn_hit2 (by omega) (by omega)
      · by_cases c1 : k < s.length
        · rw [gs k c1]; exact s47 k
        · rw [gp k (by omega) (by omega)]; exact hp2 _ (by omega) (by omega) (by omega)
  have kc : (kC (gl T) T.length < kS (gl T) T.length ↔ (Q 0).2 = 1) ∧ ((Q 0).2 = 1 → kC (gl T) T.length = (Q 0).1.length) := by
    have crp := (cfn_r (gl p) 47 0 p.length).1 (by omega)
    rcases F.1 0 (by decide) with e | e
    · have sl : s = [] := by rw [hs, wm_0 _ _ e]
      have s0 : s.length = 0 := by rw [sl]; rfl
      refine ⟨⟨fun w => ?_, fun w => by omega⟩, fun w => by omega⟩
      exfalso
      have key : kC (gl T) T.length = kS (gl T) T.length := by
        unfold kC
        rw [ks]
        by_cases h2 : (Q 2).2 = 1
        · rw [if_pos h2, (cfn_st _ _ _ _).1 (by omega)]
        · have h2' : (Q 2).2 = 0 := (F.1 2 (by decide)).resolve_right h2
          have al : a.length = 0 := by
            rw [ha]; unfold aut; rw [if_pos h2', wm_0 _ _ (F.2.2.2.1 h2'), wm_0 _ _ h2', wm_0 _ _ (F.2.2.2.2 h2')]; rfl
          have s3 := S.2.2 e h2'
          rw [← hp] at s3
          rw [if_neg h2]
          refine cfn_at (by omega) (by omega) (fun h => by omega) (fun k h1 h3 => ?_)
          rw [gp k (by omega) (by omega)]
          exact cfn_no2 (f := gl p) (b := 58) (a := 0) (e := cfn (gl p) 47 0 p.length) (x := k - s.length - a.length) (by omega) (by omega) (by rw [s3]; omega)
      omega
    · have sl : s = (Q 0).1 ++ [58] := by rw [hs, wm_1 _ _ e]; rfl
      have s1 : (s.length : Int) = (Q 0).1.length + 1 := by rw [sl, List.length_append]; simp only [List.length_cons, List.length_nil]; omega
      have kge : (s.length : Int) ≤ kS (gl T) T.length := by rw [ks]; split <;> omega
      have e0 : kC (gl T) T.length = (Q 0).1.length := by
        unfold kC
        refine cfn_at (by omega) (by omega) (fun _ => ?_) (fun k h1 h3 => ?_)
        · rw [gs _ (by omega), sl, gl_app0 _ _ (by omega), Int.sub_self]; rfl
        · rw [gs _ (by omega), sl, gl_app1 _ _ h3]; exact N.2.2.2.1 k
      exact ⟨⟨fun _ => e, fun _ => by omega⟩, fun _ => e0⟩
  have kp : kP (gl T) T.length = s.length := by
    unfold kP
    rcases F.1 0 (by decide) with e | e
    · rw [if_neg (fun w => by have := kc.1.mp w; omega), hs, wm_0 _ _ e]; rfl
    · rw [if_pos (kc.1.mpr e), kc.2 e, hs, wm_1 _ _ e]
      simp only [List.length_append, List.length_cons, List.length_nil, if_pos, if_neg (show ¬ (58 : Int) = -1 by decide)]; omega
  have ko : kO (gl T) T.length = 1 ↔ (Q 2).2 = 1 := by
    unfold kO
    rw [kp, kq]
    by_cases h2 : (Q 2).2 = 1
    · have al : 2 ≤ a.length ∧ gl a 0 = 47 ∧ gl a 1 = 47 := by
        rw [ha]; unfold aut; rw [if_neg (by omega)]
        exact ⟨by simp only [List.length_append, List.length_cons]; omega, rfl, rfl⟩
      rw [if_pos ⟨by omega, by rw [ga _ (by omega) (by omega), Int.sub_self]; exact al.2.1, by rw [ga _ (by omega) (by omega), show (s.length : Int) + 1 - s.length = 1 by omega]; exact al.2.2⟩]
      exact ⟨fun _ => h2, fun _ => rfl⟩
    · have h2' : (Q 2).2 = 0 := (F.1 2 (by decide)).resolve_right h2
      have al : a.length = 0 := by
        rw [ha]; unfold aut; rw [if_pos h2', wm_0 _ _ (F.2.2.2.1 h2'), wm_0 _ _ h2', wm_0 _ _ (F.2.2.2.2 h2')]; rfl
      rw [if_neg (fun w => S.2.1 h2' ⟨by
        have := w.2.1
        rw [gp _ (by omega) (by omega), show (s.length : Int) - s.length - a.length = 0 by omega, hp] at this; exact this, by
        have := w.2.2
        rw [gp _ (by omega) (by omega), show (s.length : Int) + 1 - s.length - a.length = 1 by omega, hp] at this; exact this⟩)]
      exact ⟨fun w => absurd w (by decide), fun w => absurd w h2⟩
  refine ⟨kh, kq, kc.1, kc.2, kp, ko, fun h2 => ?_⟩
  unfold kA
  rw [kp, kq]
  have al : a = [47, 47] ++ (wm (Q 1) (-1) 64 ++ (wm (Q 2) (-1) (-1) ++ wm (Q 3) 58 (-1))) := by rw [ha]; unfold aut; rw [if_neg (by omega)]
  have al2 : 2 ≤ a.length := by rw [al]; simp only [List.length_append, List.length_cons]; omega
  refine cfn_at (by omega) (by omega) (fun h => ?_) (fun k h1 h3 => ?_)
  · rw [gp _ (by omega) (by omega), show (s.length : Int) + a.length - s.length - a.length = 0 by omega, hp]
    rcases S.1 h2 with w | w
    · rw [hp, w] at h; simp only [List.length_nil] at h; omega
    · exact w
  · rw [ga k (by omega) h3, al, gl_app0 _ _ (by simp only [List.length_cons, List.length_nil]; omega)]
    exact nc_app (wm_n (N.2.2.1 1 (by decide)) (by decide) (by decide) (by decide)) (nc_app (wm_n (N.2.2.1 2 (by decide)) (by decide) (by decide) (by decide)) (wm_n (N.2.2.1 3 (by decide)) (by decide) (by decide) (by decide))) _
