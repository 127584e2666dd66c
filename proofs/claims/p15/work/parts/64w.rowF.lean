set_option maxRecDepth 16384
/-! codes that are freed, dots that go, a text put before -/
def freA : Nat → List Int → List Int
  | 0, _ => []
  | _ + 1, [] => []
  | n + 1, b :: L => if pFree (pCd (gl (b :: L)) 0) = 1 then pCd (gl (b :: L)) 0 :: freA n (L.drop 2) else b :: freA n L
def fre (L : List Int) : List Int := freA L.length L
theorem freA_n : ∀ (n m : Nat) (L : List Int), L.length ≤ n → L.length ≤ m → freA n L = freA m L := by
  intro n
  induction n with
  | zero =>
    intro m L h g
    have : L = [] := List.length_eq_zero_iff.mp (by omega)
    subst this
    cases m <;> rfl
  | succ n ih =>
    intro m L h g
    cases L with
    | nil => cases m <;> rfl
    | cons b L =>
      rw [List.length_cons] at h g
      cases m with
      | zero => omega
      | succ m => rw [freA, freA, ih m L (by omega) (by omega), ih m (L.drop 2) (by rw [List.length_drop]; omega) (by rw [List.length_drop]; omega)]
theorem fre_cons (b : Int) (L : List Int) : fre (b :: L) = if pFree (pCd (gl (b :: L)) 0) = 1 then pCd (gl (b :: L)) 0 :: fre (L.drop 2) else b :: fre L := by
  unfold fre
  rw [List.length_cons, freA, freA_n L.length (L.drop 2).length _ (by rw [List.length_drop]; omega) (Nat.le_refl _)]
theorem pCd_drop {L : List Int} {k : Int} (h : 0 ≤ k) : pCd (gl (L.drop k.toNat)) 0 = pCd (gl L) k := by
  have e : ∀ j : Int, 0 ≤ j → gl (L.drop k.toNat) j = gl L (k + j) := fun j hj => by
    rw [gl_drop, if_neg (by omega)]; congr 1; omega
  unfold pCd
  rw [e 0 (by decide), e (0 + 1) (by decide), e (0 + 2) (by decide), Int.add_zero]
  rfl
theorem pFree_in {x : Int} (h : pFree x = 1) : 45 ≤ x ∧ x ≤ 126 := by
  have a : pLet x = 1 → 65 ≤ x ∧ x ≤ 122 := fun w => by unfold pLet at w; split at w <;> omega
  have b : pDig x = 1 → 48 ≤ x ∧ x ≤ 57 := (pDig_st x).1
  unfold pFree at h
  split at h
  · rename_i w
    rcases w with w | w | w | w | w | w
    · have := a w; omega
    · have := b w; omega
    all_goals omega
  · omega
theorem pCd_in {L : List Int} (hB : lB L) {k : Int} (h : pCd (gl L) k ≠ -1) : k + 2 < (L.length : Int) := by
  have e1 : pHex (-1) = -1 := by decide
  have g := gl_b hB (k + 2)
  by_cases c : gl L (k + 2) = -1
  · unfold pCd at h; rw [c, e1, if_neg (by omega)] at h; omega
  · omega
theorem S78_4 {sh : zSh} {r : Nat} : ∀ (n : Nat) (V : wSt) (w x : Int) (o3 o4 : Option wV), (V r 1 - x).toNat ≤ n → 0 ≤ w → w ≤ x → x ≤ V r 1 → wRo sh V r → ∃ V', wev zP 78 4 [some (wR r), some (wI w), some (wI x), o3, o4] [] (sh, V) = rN (sh, V') ∧ RwU sh V V' r ((tx sh V r).take w.toNat ++ fre ((tx sh V r).drop x.toNat)) (V r 2) := by
  have fin : ∀ (V : wSt) (w x : Int) (o3 o4 : Option wV), V r 1 ≤ x → 0 ≤ w → wRo sh V r → ∃ V', wev zP 78 4 [some (wR r), some (wI w), some (wI x), o3, o4] [] (sh, V) = rN (sh, V') ∧ RwU sh V V' r ((tx sh V r).take w.toNat ++ fre ((tx sh V r).drop x.toNat)) (V r 2) := by
    intro V w x o3 o4 hx hw q
    have tl := tx_sz q
    obtain ⟨V1, e1, u1⟩ := S63 q w hw
    refine ⟨V1, ?_, u1.eq ?_⟩
    · rw [w78_4, if_pos hx, e1]; simp only [wcx_v, wput_n, w78_67]
    · rw [List.drop_of_length_le (by omega)]; exact (List.append_nil _).symm
  intro n
  induction n with
  | zero => intro V w x o3 o4 hn hw hx hx2 q; exact fin V w x o3 o4 (by omega) hw q
  | succ n ih =>
    intro V w x o3 o4 hn hw hx hx2 q
    by_cases c0 : V r 1 ≤ x
    · exact fin V w x o3 o4 c0 hw q
    have tl := tx_sz q
    have z := q.sz
    obtain ⟨L, hL⟩ : ∃ L, L = tx sh V r := ⟨_, rfl⟩
    have hB : lB L := by rw [hL]; exact tx_lB sh V r
    have gb := gl_b hB x
    have cr := pCd_r (gl L) x
    have ci := pCd_in hB (k := x)
    rw [← hL] at tl
    have dr := drop_gl (L := L) (k := x) (by omega) (by omega)
    have pd := pCd_drop (L := L) (k := x) (by omega)
    rw [dr] at pd
    rw [w78_4, if_neg c0, S72 q x (by omega) (by omega), ← hL]
    simp only [wcx_v, wput_s, w78_17, S86, w78_22]
    obtain ⟨V1, e1, u1⟩ := S58b q w (if pFree (pCd (gl L) x) = 0 then gl L x else pCd (gl L) x) (fun _ _ => by
      by_cases c : pFree (pCd (gl L) x) = 0
      · rw [if_pos c]; omega
      · rw [if_neg c]; have := pFree_in ((pFree_r _).resolve_left c); omega)
    rw [← hL] at u1
    have t1 := tx_sz u1.2.1
    rw [u1.2.2.1, lset_len] at t1
    by_cases c : pFree (pCd (gl L) x) = 0
    · rw [if_pos c] at e1 u1
      rw [if_pos c, S57 q, ← hL]
      obtain ⟨V3, e3, u3⟩ := ih V1 (w + 1) (x + 1) (some (wI (pCd (gl L) x))) (some (wI (pFree (pCd (gl L) x)))) (by omega) (by omega) (by omega) (by omega) u1.2.1
      rw [u1.2.2.1, lset_take hw (by omega), lset_drop (by omega)] at u3
      refine ⟨V3, ?_, (u1.tr2 u3).eq ?_⟩
      · simp only [wcx_v, wput_s, w78_40, e1, wput_n, w78_43]
        rw [if_pos c, wr_eq (by omega) (by omega), wr_eq (by omega) (by omega), e3]
      · rw [dr, fre_cons, pd, if_neg (by omega), List.append_assoc, List.singleton_append]
    · have c1 := (pFree_r _).resolve_left c
      have ci2 := ci (fun w => by rw [w] at c1; exact absurd c1 (by decide))
      rw [if_neg c] at e1 u1
      rw [if_neg c]
      obtain ⟨V3, e3, u3⟩ := ih V1 (w + 1) (x + 3) (some (wI (pCd (gl L) x))) (some (wI (pFree (pCd (gl L) x)))) (by omega) (by omega) (by omega) (by omega) u1.2.1
      rw [u1.2.2.1, lset_take hw (by omega), lset_drop (by omega)] at u3
      refine ⟨V3, ?_, (u1.tr2 u3).eq ?_⟩
      · simp only [wcx_v, wput_s, w78_40, e1, wput_n, w78_43]
        rw [if_neg c, wr_eq (by omega) (by omega), wr_eq (by omega) (by omega), e3]
      · rw [dr, fre_cons, pd, if_pos c1, List.append_assoc, List.singleton_append, List.drop_drop, show (x + 1).toNat + 2 = (x + 3).toNat by omega]
theorem S78 {sh : zSh} {V : wSt} {r : Nat} (q : wRo sh V r) : ∃ V', wcl zP 78 [wR r] (sh, V) = rN (sh, V') ∧ RwU sh V V' r (fre (tx sh V r)) (V r 2) := by
  rw [w78_0]
  exact S78_4 _ V 0 0 none none (Nat.le_refl _) (by decide) (by decide) (by have := q.sz; omega) q
theorem S81 {sh : zSh} {V : wSt} {r : Nat} (q : wRo sh V r) (a e p : Int) (ha : -1 ≤ a ∧ a ≤ 200001) (he : -1 ≤ e ∧ e ≤ 200000) : wcl zP 81 [wR r, wI a, wI e, wI p] (sh, V) = rI (bI (e - a = p ∧ gl (tx sh V r) a = 46 ∧ gl (tx sh V r) (e - 1) = 46)) (sh, V) := by
  rw [w81_0, wr_eq (by omega) (by omega)]
  by_cases c : e - a = p
  · rw [if_pos c, S57 q]
    simp only [wcx_v, wput_s, w81_12]
    by_cases d : gl (tx sh V r) a = 46
    · rw [if_pos d, wr_eq (by omega) (by omega), S57 q]
      simp only [wcx_v, wput_s, w81_24]
      by_cases f : gl (tx sh V r) (e - 1) = 46
      · rw [if_pos f, bI_1 ⟨c, d, f⟩]
      · rw [if_neg f, bI_0 (fun w => f w.2.2)]
    · rw [if_neg d, bI_0 (fun w => d w.2.1)]
  · rw [if_neg c, bI_0 (fun w => c w.1)]
theorem S82_6 {sh : zSh} {r : Nat} (s e t0 : Int) (he : e ≤ 100000) : ∀ (n : Nat) (V : wSt) (w x : Int), (e - x).toNat = n → 0 ≤ w → w ≤ x → e ≤ V r 1 → x ≤ 100001 → wRo sh V r → ∃ V', wev zP 82 6 [some (wR r), some (wI s), some (wI e), some (wI t0), some (wI w), some (wI x)] [] (sh, V) = rI (w + (e - x).toNat) (sh, V') ∧ RwU sh V V' r ((tx sh V r).take w.toNat ++ (sub (tx sh V r) x e ++ (tx sh V r).drop (w + (e - x).toNat).toNat)) (V r 2) := by
  intro n
  induction n with
  | zero =>
    intro V w x hn hw hx he2 hx2 q
    refine ⟨V, ?_, RwU.same q ?_⟩
    · rw [w82_6, if_pos (by omega)]; exact rI_cg (by omega)
    · have : sub (tx sh V r) x e = [] := by unfold sub; rw [hn, List.take_zero]
      rw [this, List.nil_append, hn, show (w + ((0 : Nat) : Int)).toNat = w.toNat by omega, List.take_append_drop]
  | succ n ih =>
    intro V w x hn hw hx he2 hx2 q
    have tl := tx_sz q
    have z := q.sz
    obtain ⟨L, hL⟩ : ∃ L, L = tx sh V r := ⟨_, rfl⟩
    have hB : lB L := by rw [hL]; exact tx_lB sh V r
    have gb := gl_b hB x
    rw [← hL] at tl
    rw [w82_6, if_neg (by omega), S57 q, ← hL]
    simp only [wcx_v, wput_s, w82_21]
    obtain ⟨V1, e1, u1⟩ := S58b q w (gl L x) (fun _ _ => by omega)
    rw [← hL] at u1
    have t1 := tx_sz u1.2.1
    rw [u1.2.2.1, lset_len] at t1
    obtain ⟨V3, e3, u3⟩ := ih V1 (w + 1) (x + 1) (by omega) (by omega) (by omega) (by omega) (by omega) u1.2.1
    have sb : sub (lset L w (gl L x)) (x + 1) e = sub L (x + 1) e := by unfold sub; rw [lset_drop (by omega)]
    rw [u1.2.2.1, lset_take hw (by omega), lset_drop (by omega), sb] at u3
    refine ⟨V3, ?_, (u1.tr2 u3).eq ?_⟩
    · simp only [e1, wcx_v, wput_n, w82_24]
      rw [wr_eq (by omega) (by omega), wr_eq (by omega) (by omega), e3]; exact rI_cg (by omega)
    · have sc : sub L x e = gl L x :: sub L (x + 1) e := by
        unfold sub
        rw [drop_gl (L := L) (by omega) (by omega), show (e - x).toNat = (e - (x + 1)).toNat + 1 by omega, List.take_succ_cons]
      rw [sc, List.append_assoc, List.singleton_append, List.cons_append, show w + 1 + (((e - (x + 1)).toNat : Nat) : Int) = w + (((e - x).toNat : Nat) : Int) by omega]
theorem S82 {sh : zSh} {V : wSt} {r : Nat} (q : wRo sh V r) (s e w : Int) (he : e ≤ V r 1) (hw : 0 ≤ w) (hs : w ≤ s) (hs2 : s ≤ 100001) : ∃ V', wcl zP 82 [wR r, wI s, wI e, wI w] (sh, V) = rI (w + (e - s).toNat) (sh, V') ∧ RwU sh V V' r ((tx sh V r).take w.toNat ++ (sub (tx sh V r) s e ++ (tx sh V r).drop (w + (e - s).toNat).toNat)) (V r 2) := by
  rw [w82_0]
  have z := q.sz
  exact S82_6 s e w (by omega) _ V w s rfl hw hs he hs2 q
