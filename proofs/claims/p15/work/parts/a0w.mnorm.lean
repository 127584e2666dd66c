set_option maxRecDepth 16384
/-! the model: letters and codes of what is laid -/
theorem pCd_in2 {L : List Int} {k : Int} (h : pCd (gl L) k ≠ -1) : gl L k = 37 ∧ 0 ≤ k ∧ k + 2 < (L.length : Int) ∧ 0 ≤ pHex (gl L (k + 1)) ∧ 0 ≤ pHex (gl L (k + 2)) ∧ pCd (gl L) k = 16 * pHex (gl L (k + 1)) + pHex (gl L (k + 2)) := by
  unfold pCd at h ⊢
  by_cases d : gl L k = 37 ∧ 0 ≤ pHex (gl L (k + 1)) ∧ 0 ≤ pHex (gl L (k + 2))
  · have a : 0 ≤ k := by
      by_cases q : 0 ≤ k
      · exact q
      · have z := d.1; rw [gl_out (Or.inl (by omega))] at z; cases z
    have b : k + 2 < (L.length : Int) := by
      by_cases q : k + 2 < (L.length : Int)
      · exact q
      · have z := d.2.2; rw [gl_out (Or.inr (by omega)), pHex_m1] at z; exact absurd z (by decide)
    exact ⟨d.1, a, b, d.2.1, d.2.2, if_pos d⟩
  · rw [if_neg d] at h; exact absurd rfl h
theorem up2_drop (L : List Int) {x : Int} (hx : 0 ≤ x) : (lset (lset L (x + 1) (grt (gl L (x + 1)))) (x + 2) (grt (gl L (x + 2)))).drop (x + 1).toNat = up2 (L.drop (x + 1).toNat) := by
  unfold up2
  refine gl_ext (by rw [List.length_drop, lset_len, lset_len, lset_len, lset_len, List.length_drop]) (fun j h1 h2 => ?_)
  rw [lset_len, lset_len, List.length_drop] at h2
  rw [gl_drop, if_neg (by omega), gl_lset, gl_lset, gl_lset, gl_lset, lset_len, lset_len, List.length_drop, gl_drop, gl_drop, gl_drop, if_neg (c := j < 0) (by omega), if_neg (c := (0 : Int) < 0) (by omega), if_neg (c := (1 : Int) < 0) (by omega)]
  by_cases j0 : j = 0
  · rw [if_neg (by omega), if_pos (by omega), if_neg (by omega), if_pos (by omega), show (0 : Int) + ((x + 1).toNat : Int) = x + 1 by omega]
  · by_cases j1 : j = 1
    · rw [if_pos (by omega), if_pos (by omega), show (1 : Int) + ((x + 1).toNat : Int) = x + 2 by omega]
    · rw [if_neg (by omega), if_neg (by omega), if_neg (by omega), if_neg (by omega)]
theorem up2_take (L : List Int) {x a b : Int} (hx : 0 ≤ x) (h2 : x < (L.length : Int)) : (lset (lset L (x + 1) a) (x + 2) b).take (x + 1).toNat = L.take x.toNat ++ [gl L x] := by
  refine gl_ext (by rw [List.length_take, lset_len, lset_len, List.length_append, List.length_take]; simp only [List.length_cons, List.length_nil]; omega) (fun j h1 h2 => ?_)
  rw [List.length_append, List.length_take] at h2
  simp only [List.length_cons, List.length_nil] at h2
  rw [gl_take, if_pos (by omega), gl_lset, gl_lset, if_neg (by omega), if_neg (by omega), gl_app, List.length_take, gl_take]
  by_cases e : j = x
  · rw [if_neg (by omega), show j - ((min x.toNat L.length : Nat) : Int) = 0 by omega, e]; rfl
  · rw [if_pos (by omega), if_pos (by omega)]
theorem M126 (sh : zSh) (x : Int) (V : wSt) (h : 0 ≤ x ∧ x ≤ 15) : wcl zP 126 [wI x] (sh, V) = rI (cdg x) (sh, V) := by
  rw [w126_0]
  unfold cdg
  by_cases c : 10 ≤ x
  · rw [if_pos c, if_neg (by omega), wr_eq (by omega) (by omega)]
  · rw [if_neg c, if_pos (by omega), wr_eq (by omega) (by omega)]
/-- the great letter of a digit of base 16 -/
theorem cdg_hex {c : Int} (h : 0 ≤ pHex c) : cdg (pHex c) = grt c ∧ grt c ≠ 37 := by
  unfold pHex at h ⊢
  unfold cdg grt
  by_cases a : 48 ≤ c ∧ c ≤ 57
  · rw [if_pos a, if_pos (by omega), if_neg (by omega)]; omega
  · rw [if_neg a] at h ⊢
    by_cases b : 97 ≤ c ∧ c ≤ 102
    · rw [if_pos b, if_neg (by omega), if_pos (by omega)]; omega
    · rw [if_neg b] at h ⊢
      by_cases d : 65 ≤ c ∧ c ≤ 70
      · rw [if_pos d, if_neg (by omega), if_neg (by omega)]; omega
      · rw [if_neg d] at h; exact absurd h (by decide)
section
variable {sh : zSh} {m : Nat}
theorem M178 {V : wSt} {k : Int} {X : List Int × Int} (K : l1 sh V m k.toNat X) (hk : 0 ≤ k ∧ k ≤ 6) (j : Int) (hj : 0 ≤ j ∧ j ≤ 100000) : wcl zP 178 [wR m, wI k, wI j] (sh, V) = rI (if pCd (gl X.1) j = -1 then 0 else 1) (sh, V) := by
  rw [w178_0, M160l K hk]
  simp only [wcx_v, wput_s, w178_6]
  have no : ¬ (gl X.1 j = 37 ∧ 0 ≤ pHex (gl X.1 (j + 1)) ∧ 0 ≤ pHex (gl X.1 (j + 2))) → pCd (gl X.1) j = -1 := fun h => by unfold pCd; rw [if_neg h]
  by_cases a : gl X.1 j = 37
  · rw [if_pos a, wr_eq (by omega) (by omega), M160l K hk]
    simp only [wcx_v, wput_s, w178_19, M125, w178_22]
    by_cases b : pHex (gl X.1 (j + 1)) < 0
    · rw [if_pos b, if_pos (no (fun w => by omega))]
    · rw [if_neg b, wr_eq (by omega) (by omega), M160l K hk]
      simp only [wcx_v, wput_s, w178_33, M125, w178_36]
      by_cases c : pHex (gl X.1 (j + 2)) < 0
      · rw [if_pos c, if_pos (no (fun w => by omega))]
      · rw [if_neg c]
        have h1 := pHex_r (gl X.1 (j + 1))
        have pc : pCd (gl X.1) j = 16 * pHex (gl X.1 (j + 1)) + pHex (gl X.1 (j + 2)) := by unfold pCd; rw [if_pos ⟨a, by omega, by omega⟩]
        rw [if_neg (by omega)]
  · rw [if_neg a, if_pos (no (fun w => a w.1))]
/-- letters, one by one -/
def msl (s x : Int) : Int := if s = 0 then x else sml x
theorem M177_2 (M : wMd sh m) {k s : Int} (hk : 0 ≤ k ∧ k ≤ 6) : ∀ (n : Nat) (V : wSt) (X : List Int × Int) (j : Int) (o4 : Option wV), ((X.1.length : Int) - j).toNat = n → 0 ≤ j → l1 sh V m k.toNat X → ∃ V' o4', wev zP 177 2 [some (wR m), some (wI k), some (wI s), some (wI j), o4] [] (sh, V) = wev zP 177 66 [some (wR m), some (wI k), some (wI s), some (wI 0), o4'] [] (sh, V') ∧ Lf sh m k.toNat V V' ∧ l1 sh V' m k.toNat (X.1.take j.toNat ++ (X.1.drop j.toNat).map (msl s), X.2) := by
  intro n
  induction n with
  | zero =>
    intro V X j o4 hn hj K
    have sz := K.sz
    refine ⟨V, o4, ?_, Lf.refl, ?_⟩
    · rw [w177_2, sz, if_pos (by omega)]
    · rw [List.drop_of_length_le (by omega), List.take_of_length_le (by omega), List.map_nil, List.append_nil]; exact K
  | succ n ih =>
    intro V X j o4 hn hj K
    have sz := K.sz
    have q := K.1
    obtain ⟨f1, K1⟩ := l1_set M K j (msl s (gl X.1 j)) hj (by omega) (Int.toNat (wr (wr (1500 * k) + j))) (by rw [wr_eq (x := 1500 * k) (by omega) (by omega), wr_eq (by omega) (by omega)]; omega)
    obtain ⟨W, hW⟩ : ∃ W, W = uI V (sr sh m 9) (Int.toNat (wr (wr (1500 * k) + j))) (msl s (gl X.1 j)) := ⟨_, rfl⟩
    rw [← hW] at f1 K1
    obtain ⟨V2, o4', e2, f2, l2⟩ := ih W _ (j + 1) (some (wI (gl X.1 j))) (by show (((lset X.1 j (msl s (gl X.1 j))).length : Int) - (j + 1)).toNat = n; rw [lset_len]; omega) (by omega) K1
    refine ⟨V2, o4', ?_, f1.trans f2, ?_⟩
    · have fin : wev zP 177 57 [some (wR m), some (wI k), some (wI s), some (wI j), some (wI (gl X.1 j))] [wI (msl s (gl X.1 j)), wI (wr (wr (1500 * k) + j)), wR (sr sh m 9)] (sh, V) = wev zP 177 66 [some (wR m), some (wI k), some (wI s), some (wI 0), o4'] [] (sh, V2) := by
        rw [w177_57, ← hW, wr_eq (x := j + 1) (by omega) (by omega), e2]
      rw [w177_2, sz, if_neg (by omega), M160l K hk]
      simp only [wcx_v, wput_s, w177_18]
      rw [← fin]
      unfold msl sml
      by_cases c : s = 0
      · rw [if_pos c, if_pos c]
      · rw [if_neg c, if_neg c, M120]
        simp only [wcx_v, wput_s, w177_44]
        by_cases d : 65 ≤ gl X.1 j ∧ gl X.1 j ≤ 90
        · rw [if_pos d, if_pos d, if_neg (by decide), wr_eq (by omega) (by omega)]
        · rw [if_neg d, if_neg d, if_pos rfl]
    · have l2 : l1 sh V2 m k.toNat ((lset X.1 j (msl s (gl X.1 j))).take (j + 1).toNat ++ ((lset X.1 j (msl s (gl X.1 j))).drop (j + 1).toNat).map (msl s), X.2) := l2
      rw [lset_take hj (by omega), lset_drop (by omega), List.append_assoc, List.singleton_append] at l2
      rw [drop_gl (L := X.1) hj (by omega), List.map_cons]; exact l2
/-- codes of what is laid -/
theorem M177_66 (M : wMd sh m) {k s : Int} (hk : 1 ≤ k ∧ k ≤ 6) : ∀ (n : Nat) (V : wSt) (X : List Int × Int) (j : Int) (o4 : Option wV), ((X.1.length : Int) - j).toNat = n → 0 ≤ j → (∀ i, j ≤ i → gl X.1 i = 37 → pCd (gl X.1) i ≠ -1) → l1 sh V m k.toNat X → ∃ V', wev zP 177 66 [some (wR m), some (wI k), some (wI s), some (wI j), o4] [] (sh, V) = rN (sh, V') ∧ Lf sh m k.toNat V V' ∧ l1 sh V' m k.toNat (X.1.take j.toNat ++ gco (X.1.drop j.toNat), X.2) := by
  intro n
  induction n with
  | zero =>
    intro V X j o4 hn hj hc K
    have sz := K.sz
    refine ⟨V, ?_, Lf.refl, ?_⟩
    · rw [w177_66, sz, if_pos (by omega)]
    · rw [List.drop_of_length_le (by omega), List.take_of_length_le (by omega)]; show l1 sh V m k.toNat (X.1 ++ [], X.2); rw [List.append_nil]; exact K
  | succ n ih =>
    intro V X j o4 hn hj hc K
    have sz := K.sz
    have q := K.1
    rw [w177_66, sz, if_neg (by omega), if_neg (by omega), M178 K (by omega) j (by omega)]
    simp only [wcx_v, wput_s, w177_86]
    by_cases c : pCd (gl X.1) j = -1
    · have n37 : gl X.1 j ≠ 37 := fun w => hc j (Int.le_refl j) w c
      obtain ⟨V2, e2, f2, l2⟩ := ih V X (j + 1) o4 (by omega) (by omega) (fun i hi => hc i (by omega)) K
      refine ⟨V2, ?_, f2, ?_⟩
      · rw [if_pos c, if_pos rfl, wr_eq (by omega) (by omega), e2]
      · rw [take_gl hj (by omega), List.append_assoc, List.singleton_append] at l2
        rw [drop_gl (L := X.1) hj (by omega), gco_cons, if_neg n37]; exact l2
    · obtain ⟨c0, -, c2, h1, h2, -⟩ := pCd_in2 c
      have r1 := pHex_r (gl X.1 (j + 1))
      have r2 := pHex_r (gl X.1 (j + 2))
      have g1 := cdg_hex h1
      have g2 := cdg_hex h2
      rw [if_neg c, if_neg (by decide), wr_eq (x := j + 1) (by omega) (by omega), M160l K (by omega)]
      simp only [wcx_v, wput_s, w177_110, M125, w177_113]
      rw [M126 sh _ V (by omega), g1.1]
      simp only [wcx_v, wput_s, w177_116]
      obtain ⟨f1, K1⟩ := l1_set M K (j + 1) (grt (gl X.1 (j + 1))) (by omega) (by omega) (Int.toNat (wr (wr (wr (1500 * k) + j) + 1))) (by rw [wr_eq (x := 1500 * k) (by omega) (by omega), wr_eq (x := 1500 * k + j) (by omega) (by omega), wr_eq (by omega) (by omega)]; omega)
      obtain ⟨W, hW⟩ : ∃ W, W = uI V (sr sh m 9) (Int.toNat (wr (wr (wr (1500 * k) + j) + 1))) (grt (gl X.1 (j + 1))) := ⟨_, rfl⟩
      rw [← hW] at f1 K1 ⊢
      have gg : gl (lset X.1 (j + 1) (grt (gl X.1 (j + 1)))) (j + 2) = gl X.1 (j + 2) := by rw [gl_lset, if_neg (by omega)]
      rw [wr_eq (x := j + 2) (by omega) (by omega), M160l K1 (by omega)]
      rw [show gl (lset X.1 (j + 1) (grt (gl X.1 (j + 1))), X.2).1 (j + 2) = gl X.1 (j + 2) from gg]
      simp only [wcx_v, wput_s, w177_138, M125, w177_141]
      rw [M126 sh _ W (by omega), g2.1]
      simp only [wcx_v, wput_s, w177_144]
      obtain ⟨f2, K2⟩ := l1_set M K1 (j + 2) (grt (gl X.1 (j + 2))) (by omega) (by show j + 2 < ((lset X.1 (j + 1) (grt (gl X.1 (j + 1)))).length : Int); rw [lset_len]; omega) (Int.toNat (wr (wr (wr (1500 * k) + j) + 2))) (by rw [wr_eq (x := 1500 * k) (by omega) (by omega), wr_eq (x := 1500 * k + j) (by omega) (by omega), wr_eq (by omega) (by omega)]; omega)
      obtain ⟨W2, hW2⟩ : ∃ W2, W2 = uI W (sr sh m 9) (Int.toNat (wr (wr (wr (1500 * k) + j) + 2))) (grt (gl X.1 (j + 2))) := ⟨_, rfl⟩
      rw [← hW2] at f2 K2 ⊢
      have K2 : l1 sh W2 m k.toNat (lset (lset X.1 (j + 1) (grt (gl X.1 (j + 1)))) (j + 2) (grt (gl X.1 (j + 2))), X.2) := K2
      have at2 : ∀ i, gl (lset (lset X.1 (j + 1) (grt (gl X.1 (j + 1)))) (j + 2) (grt (gl X.1 (j + 2)))) i = if i = j + 2 then grt (gl X.1 (j + 2)) else if i = j + 1 then grt (gl X.1 (j + 1)) else gl X.1 i := fun i => by
        rw [gl_lset, gl_lset, lset_len]
        by_cases d : i = j + 2
        · rw [if_pos ⟨by omega, by omega, d⟩, if_pos d]
        · rw [if_neg (fun w => d w.2.2), if_neg d]
          by_cases d1 : i = j + 1
          · rw [if_pos ⟨by omega, by omega, d1⟩, if_pos d1]
          · rw [if_neg (fun w => d1 w.2.2), if_neg d1]
      obtain ⟨V3, e3, f3, l3⟩ := ih W2 _ (j + 1) o4 (by show (((lset (lset X.1 (j + 1) (grt (gl X.1 (j + 1)))) (j + 2) (grt (gl X.1 (j + 2)))).length : Int) - (j + 1)).toNat = n; rw [lset_len, lset_len]; omega) (by omega) (fun i hi h37 => by
        have h37 : gl (lset (lset X.1 (j + 1) (grt (gl X.1 (j + 1)))) (j + 2) (grt (gl X.1 (j + 2)))) i = 37 := h37
        show pCd (gl (lset (lset X.1 (j + 1) (grt (gl X.1 (j + 1)))) (j + 2) (grt (gl X.1 (j + 2))))) i ≠ -1
        rw [at2] at h37
        by_cases d : i = j + 2
        · rw [if_pos d] at h37; exact absurd h37 g2.2
        · rw [if_neg d] at h37
          by_cases d1 : i = j + 1
          · rw [if_pos d1] at h37; exact absurd h37 g1.2
          · rw [if_neg d1] at h37
            have := hc i (by omega) h37
            unfold pCd at this ⊢
            have at3 : ∀ i, j + 3 ≤ i → gl (lset (lset X.1 (j + 1) (grt (gl X.1 (j + 1)))) (j + 2) (grt (gl X.1 (j + 2)))) i = gl X.1 i := fun i hi => by rw [at2, if_neg (by omega), if_neg (by omega)]
            rw [at3 i (by omega), at3 (i + 1) (by omega), at3 (i + 2) (by omega)]; exact this) K2
      refine ⟨V3, ?_, (f1.trans f2).trans f3, ?_⟩
      · rw [wr_eq (x := j + 1) (by omega) (by omega), e3]
      · have l3 : l1 sh V3 m k.toNat ((lset (lset X.1 (j + 1) (grt (gl X.1 (j + 1)))) (j + 2) (grt (gl X.1 (j + 2)))).take (j + 1).toNat ++ gco ((lset (lset X.1 (j + 1) (grt (gl X.1 (j + 1)))) (j + 2) (grt (gl X.1 (j + 2)))).drop (j + 1).toNat), X.2) := l3
        rw [up2_drop X.1 hj, up2_take X.1 hj (by omega), List.append_assoc, List.singleton_append] at l3
        rw [drop_gl (L := X.1) hj (by omega), gco_cons, if_pos c0]; exact l3
theorem M177 {V : wSt} (M : wMd sh m) {k s : Int} (hk : 0 ≤ k ∧ k ≤ 6) {X : List Int × Int} (K : l1 sh V m k.toNat X) (hc : k ≠ 0 → cdk (X.1.map (msl s))) : ∃ V', wcl zP 177 [wR m, wI k, wI s] (sh, V) = rN (sh, V') ∧ Lf sh m k.toNat V V' ∧ l1 sh V' m k.toNat (if k = 0 then X.1.map (msl s) else gco (X.1.map (msl s)), X.2) := by
  obtain ⟨V1, o4, e1, f1, l1'⟩ := M177_2 M (s := s) hk _ V X 0 none rfl (by decide) K
  have l1'' : l1 sh V1 m k.toNat (X.1.map (msl s), X.2) := by
    have h : X.1.take (0 : Int).toNat ++ (X.1.drop (0 : Int).toNat).map (msl s) = X.1.map (msl s) := by
      show X.1.take 0 ++ (X.1.drop 0).map (msl s) = _
      rw [List.take_zero, List.drop_zero, List.nil_append]
    rw [h] at l1'; exact l1'
  rw [w177_0, e1]
  by_cases c : k = 0
  · refine ⟨V1, ?_, f1, by rw [if_pos c]; exact l1''⟩
    have sz := l1''.sz
    rw [w177_66, sz]
    by_cases d : (((X.1.map (msl s), X.2) : List Int × Int).1.length : Int) ≤ 0
    · rw [if_pos d]
    · rw [if_neg d, if_pos (by omega)]
  · obtain ⟨V2, e2, f2, l2⟩ := M177_66 M (s := s) (by omega) _ V1 _ 0 o4 rfl (by decide) (fun i _ => hc c i) l1''
    refine ⟨V2, e2, f1.trans f2, ?_⟩
    rw [if_neg c]
    exact l2
end
