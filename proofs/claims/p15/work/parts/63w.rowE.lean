set_option maxRecDepth 16384
/-! rows that are changed in place -/
theorem lset_take {L : List Int} {k b : Int} (h : 0 ≤ k) (g : k < (L.length : Int)) : (lset L k b).take (k + 1).toNat = L.take k.toNat ++ [b] := by
  refine gl_ext (by rw [List.length_take, lset_len, List.length_append, List.length_take]; simp only [List.length_cons, List.length_nil]; omega) (fun j h1 h2 => ?_)
  rw [List.length_append, List.length_take] at h2
  simp only [List.length_cons, List.length_nil] at h2
  rw [gl_take, gl_lset, gl_app, List.length_take, gl_take, if_pos (by omega)]
  by_cases c : j = k
  · rw [if_pos (by omega), if_neg (by omega), show j - ((min k.toNat L.length : Nat) : Int) = 0 by omega]; rfl
  · rw [if_neg (by omega), if_pos (by omega), if_pos (by omega)]
theorem take_gl {L : List Int} {k : Int} (h : 0 ≤ k) (g : k < (L.length : Int)) : L.take (k + 1).toNat = L.take k.toNat ++ [gl L k] := by
  have e : lset L k (gl L k) = L := gl_ext (lset_len _ _ _) (fun j _ _ => by
    rw [gl_lset]; split
    · rename_i w; rw [w.2.2]
    · rfl)
  have t := lset_take (b := gl L k) h g
  rw [e] at t; exact t
theorem lset_drop {L : List Int} {k b : Int} {j : Nat} (h : k < (j : Int)) : (lset L k b).drop j = L.drop j := by
  refine gl_ext (by rw [List.length_drop, lset_len, List.length_drop]) (fun i h1 h2 => ?_)
  rw [gl_drop, gl_drop, gl_lset, if_neg (by omega), if_neg (by omega), if_neg (by omega)]
theorem gl_cons (b : Int) (L : List Int) (k : Int) : gl (b :: L) k = if k = 0 then b else gl L (k - 1) := by
  have h := gl_app [b] L k
  rw [List.singleton_append] at h
  rw [h]
  simp only [List.length_cons, List.length_nil]
  by_cases c : k = 0
  · rw [if_pos (by omega), if_pos c, c]; rfl
  · rw [if_neg c]
    by_cases d : k < 0
    · rw [if_pos (by omega), gl_out (Or.inl d), gl_out (Or.inl (by omega))]
    · rw [if_neg (by omega)]; rfl
def sml (x : Int) : Int := if 65 ≤ x ∧ x ≤ 90 then x + 32 else x
def grt (x : Int) : Int := if 97 ≤ x ∧ x ≤ 122 then x - 32 else x
theorem S90 (sh : zSh) (x : Int) (V : wSt) : wcl zP 90 [wI x] (sh, V) = rI (grt x) (sh, V) := by
  rw [w90_0]; unfold grt
  by_cases c : x < 97
  · rw [if_pos c, if_neg (by omega)]
  · rw [if_neg c]
    by_cases d : 122 < x
    · rw [if_pos d, if_neg (by omega)]
    · rw [if_neg d, if_pos (by omega), wr_eq (x := x - 97) (by omega) (by omega), wr_eq (by omega) (by omega)]; exact rI_cg (by omega)
theorem RwU.same {sh : zSh} {V : wSt} {r : Nat} (q : wRo sh V r) {L : List Int} (h : tx sh V r = L) : RwU sh V V r L (V r 2) := ⟨FrO.refl, q, h, rfl⟩
theorem RwU.tr2 {sh : zSh} {V V' W : wSt} {r : Nat} {L M : List Int} (h : RwU sh V V' r L (V r 2)) (g : RwU sh V' W r M (V' r 2)) : RwU sh V W r M (V r 2) := by
  have k := h.trans g
  rw [h.2.2.2] at k; exact k
theorem RwU.eq {sh : zSh} {V V' : wSt} {r : Nat} {L M : List Int} {th : Int} (h : RwU sh V V' r L th) (e : L = M) : RwU sh V V' r M th := by rw [← e]; exact h
theorem S76_2 {sh : zSh} {r : Nat} : ∀ (n : Nat) (V : wSt) (x : Int), (V r 1 - x).toNat = n → 0 ≤ x → wRo sh V r → ∃ V', wev zP 76 2 [some (wR r), some (wI x)] [] (sh, V) = rN (sh, V') ∧ RwU sh V V' r ((tx sh V r).take x.toNat ++ ((tx sh V r).drop x.toNat).map sml) (V r 2) := by
  intro n
  induction n with
  | zero =>
    intro V x hn hx q
    have tl := tx_sz q
    refine ⟨V, ?_, RwU.same q ?_⟩
    · rw [w76_2, if_pos (by omega)]
    · rw [List.drop_of_length_le (by omega), List.take_of_length_le (by omega), List.map_nil, List.append_nil]
  | succ n ih =>
    intro V x hn hx q
    have tl := tx_sz q
    have z := q.sz
    obtain ⟨L, hL⟩ : ∃ L, L = tx sh V r := ⟨_, rfl⟩
    have gb := gl_b (L := L) (by rw [hL]; exact tx_lB sh V r) x
    obtain ⟨V1, e1, u1⟩ := S58 q x (sml (gl L x))
    rw [← hL] at tl u1 ⊢
    rw [wand_id (by unfold sml; split <;> omega)] at u1
    have t1 := tx_sz u1.2.1
    rw [u1.2.2.1, lset_len] at t1
    obtain ⟨V2, e2, u2⟩ := ih V1 (x + 1) (by omega) (by omega) u1.2.1
    rw [u1.2.2.1, lset_take hx (by omega), lset_drop (by omega)] at u2
    refine ⟨V2, ?_, (u1.tr2 u2).eq ?_⟩
    · rw [w76_2, if_neg (by omega), S57 q, ← hL]
      simp only [wcx_v, wput_s, w76_17, S89, w76_20]
      rw [show (if 65 ≤ gl L x ∧ gl L x ≤ 90 then gl L x + 32 else gl L x) = sml (gl L x) from rfl, e1]
      simp only [wcx_v, wput_n, w76_23]
      rw [wr_eq (by omega) (by omega), e2]
    · rw [drop_gl (L := L) hx (by omega), List.map_cons, List.append_assoc, List.singleton_append]
theorem S76 {sh : zSh} {V : wSt} {r : Nat} (q : wRo sh V r) : ∃ V', wcl zP 76 [wR r] (sh, V) = rN (sh, V') ∧ RwU sh V V' r ((tx sh V r).map sml) (V r 2) := by
  rw [w76_0]
  exact S76_2 _ V 0 rfl (by decide) q
/-- the letters of codes are great -/
def up2 (L : List Int) : List Int := lset (lset L 0 (grt (gl L 0))) 1 (grt (gl L 1))
def gcoA : Nat → List Int → List Int
  | 0, _ => []
  | _ + 1, [] => []
  | n + 1, b :: L => b :: gcoA n (if b = 37 then up2 L else L)
def gco (L : List Int) : List Int := gcoA L.length L
theorem up2_len (L : List Int) : (up2 L).length = L.length := by unfold up2; rw [lset_len, lset_len]
theorem gco_cons (b : Int) (L : List Int) : gco (b :: L) = b :: gco (if b = 37 then up2 L else L) := by
  unfold gco
  rw [List.length_cons, gcoA]
  split
  · rw [up2_len]
  · rfl
theorem grt_b {x : Int} (h : 0 ≤ x ∧ x ≤ 255) : 0 ≤ grt x ∧ grt x ≤ 255 := by unfold grt; split <;> omega
/-- set a sign that is there, or none -/
theorem S58b {sh : zSh} {V : wSt} {r : Nat} (q : wRo sh V r) (k x : Int) (h : k < (tx sh V r).length → 0 ≤ k → 0 ≤ x ∧ x ≤ 255) : ∃ V', wcl zP 58 [wR r, wI k, wI x] (sh, V) = rN (sh, V') ∧ RwU sh V V' r (lset (tx sh V r) k x) (V r 2) := by
  obtain ⟨V', e, u⟩ := S58 q k x
  refine ⟨V', e, u.eq ?_⟩
  refine gl_ext (by rw [lset_len, lset_len]) (fun j h1 h2 => ?_)
  rw [gl_lset, gl_lset]
  by_cases c : 0 ≤ k ∧ k < ((tx sh V r).length : Int) ∧ j = k
  · rw [if_pos c, if_pos c, wand_id (h c.2.1 c.1)]
  · rw [if_neg c, if_neg c]
theorem S77_2 {sh : zSh} {r : Nat} : ∀ (n : Nat) (V : wSt) (x : Int), (V r 1 - x).toNat = n → 0 ≤ x → wRo sh V r → ∃ V', wev zP 77 2 [some (wR r), some (wI x)] [] (sh, V) = rN (sh, V') ∧ RwU sh V V' r ((tx sh V r).take x.toNat ++ gco ((tx sh V r).drop x.toNat)) (V r 2) := by
  intro n
  induction n with
  | zero =>
    intro V x hn hx q
    have tl := tx_sz q
    refine ⟨V, ?_, RwU.same q ?_⟩
    · rw [w77_2, if_pos (by omega)]
    · rw [List.drop_of_length_le (by omega), List.take_of_length_le (by omega)]; exact (List.append_nil _).symm
  | succ n ih =>
    intro V x hn hx q
    have tl := tx_sz q
    have z := q.sz
    obtain ⟨L, hL⟩ : ∃ L, L = tx sh V r := ⟨_, rfl⟩
    have hB : lB L := by rw [hL]; exact tx_lB sh V r
    have gb := gl_b hB x
    rw [← hL] at tl ⊢
    rw [w77_2, if_neg (by omega), S57 q, ← hL]
    simp only [wcx_v, wput_s, w77_15]
    by_cases c : gl L x = 37
    · have g1 := gl_b hB (x + 1)
      have g2 := gl_b hB (x + 2)
      obtain ⟨V1, e1, u1⟩ := S58b q (x + 1) (grt (gl L (x + 1))) (fun a b => by rw [← hL] at a; exact grt_b (by omega))
      rw [← hL] at u1
      have gg : gl (lset L (x + 1) (grt (gl L (x + 1)))) (x + 2) = gl L (x + 2) := by rw [gl_lset, if_neg (by omega)]
      obtain ⟨V2, e2, u2⟩ := S58b u1.2.1 (x + 2) (grt (gl L (x + 2))) (fun a b => by rw [u1.2.2.1, lset_len] at a; exact grt_b (by omega))
      rw [u1.2.2.1] at u2
      have t2 := tx_sz u2.2.1
      rw [u2.2.2.1, lset_len, lset_len] at t2
      obtain ⟨V3, e3, u3⟩ := ih V2 (x + 1) (by omega) (by omega) u2.2.1
      rw [u2.2.2.1] at u3
      refine ⟨V3, ?_, ((u1.tr2 u2).tr2 u3).eq ?_⟩
      · rw [if_pos c, wr_eq (x := x + 1) (by omega) (by omega), S57 q, ← hL]
        simp only [wcx_v, wput_s, w77_31, S90, w77_34, e1, wput_n, w77_37]
        rw [wr_eq (x := x + 2) (by omega) (by omega), S57 u1.2.1, u1.2.2.1, gg]
        simp only [wcx_v, wput_s, w77_48, S90, w77_51, e2, wput_n, w77_54]
        rw [wr_eq (x := x + 1) (by omega) (by omega), e3]
      · rw [drop_gl (L := L) hx (by omega), gco_cons, if_pos c]
        have a1 : (lset (lset L (x + 1) (grt (gl L (x + 1)))) (x + 2) (grt (gl L (x + 2)))).drop (x + 1).toNat = up2 (L.drop (x + 1).toNat) := by
          unfold up2
          refine gl_ext (by rw [List.length_drop, lset_len, lset_len, lset_len, lset_len, List.length_drop]) (fun j h1 h2 => ?_)
          rw [lset_len, lset_len, List.length_drop] at h2
          rw [gl_drop, if_neg (by omega), gl_lset, gl_lset, gl_lset, gl_lset, lset_len, lset_len, List.length_drop, gl_drop, gl_drop, gl_drop, if_neg (c := j < 0) (by omega), if_neg (c := (0 : Int) < 0) (by omega), if_neg (c := (1 : Int) < 0) (by omega)]
          by_cases j0 : j = 0
          · rw [if_neg (by omega), if_pos (by omega), if_neg (by omega), if_pos (by omega), show (0 : Int) + ((x + 1).toNat : Int) = x + 1 by omega]
          · by_cases j1 : j = 1
            · rw [if_pos (by omega), if_pos (by omega), show (1 : Int) + ((x + 1).toNat : Int) = x + 2 by omega]
            · rw [if_neg (by omega), if_neg (by omega), if_neg (by omega), if_neg (by omega)]
        have a2 : (lset (lset L (x + 1) (grt (gl L (x + 1)))) (x + 2) (grt (gl L (x + 2)))).take (x + 1).toNat = L.take x.toNat ++ [gl L x] := by
          refine gl_ext (by rw [List.length_take, lset_len, lset_len, List.length_append, List.length_take]; simp only [List.length_cons, List.length_nil]; omega) (fun j h1 h2 => ?_)
          rw [List.length_append, List.length_take] at h2
          simp only [List.length_cons, List.length_nil] at h2
          rw [gl_take, if_pos (by omega), gl_lset, gl_lset, if_neg (by omega), if_neg (by omega), gl_app, List.length_take, gl_take]
          by_cases e : j = x
          · rw [if_neg (by omega), show j - ((min x.toNat L.length : Nat) : Int) = 0 by omega, e]; rfl
          · rw [if_pos (by omega), if_pos (by omega)]
        rw [a1, a2, List.append_assoc, List.singleton_append]
    · obtain ⟨V3, e3, u3⟩ := ih V (x + 1) (by omega) (by omega) q
      rw [← hL] at u3
      refine ⟨V3, ?_, u3.eq ?_⟩
      · rw [if_neg c, w77_54, wr_eq (x := x + 1) (by omega) (by omega), e3]
      · rw [drop_gl (L := L) hx (by omega), gco_cons, if_neg c, take_gl hx (by omega), List.append_assoc, List.singleton_append]
theorem S77 {sh : zSh} {V : wSt} {r : Nat} (q : wRo sh V r) : ∃ V', wcl zP 77 [wR r] (sh, V) = rN (sh, V') ∧ RwU sh V V' r (gco (tx sh V r)) (V r 2) := by
  rw [w77_0]
  exact S77_2 _ V 0 rfl (by decide) q
