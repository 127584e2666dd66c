set_option maxRecDepth 16384
/-! the model: parts of its rows, and what is laid -/
theorem kP_nn (f : Int → Int) (n : Int) (hn : 0 ≤ n) : 0 ≤ kP f n := by
  have rH : 0 ≤ kH f n ∧ kH f n ≤ n := (cfn_r f 35 0 n).1 hn
  have rQ : 0 ≤ kQ f n ∧ kQ f n ≤ kH f n := (cfn_r f 63 0 (kH f n)).1 rH.1
  have rS : 0 ≤ kS f n ∧ kS f n ≤ kQ f n := (cfn_r f 47 0 (kQ f n)).1 rQ.1
  have rC : 0 ≤ kC f n ∧ kC f n ≤ kS f n := (cfn_r f 58 0 (kS f n)).1 rS.1
  by_cases c : kC f n < kS f n
  · rw [(kP_st f n).1 c]; omega
  · rw [(kP_st f n).2 (by omega)]; omega
theorem oc_lo (f : Int → Int) : ∀ (q : Nat) (k e s c : Int), (e - k).toNat = q → -1 ≤ c → -1 ≤ k → -1 ≤ oc f k e s c := by
  intro q
  induction q with
  | zero => intro k e s c hq hc hk; rw [(oc_st f k e s c).1 (by omega)]; exact hc
  | succ q ih =>
    intro k e s c hq hc hk
    have st := (oc_st f k e s c).2 (by omega)
    by_cases a1 : f k = 91
    · rw [st.1 a1]; exact ih _ _ _ _ (by omega) hc (by omega)
    · by_cases a2 : f k = 93
      · rw [st.2.1 a2]; exact ih _ _ _ _ (by omega) hc (by omega)
      · by_cases a3 : f k = 58 ∧ s = 0
        · rw [st.2.2.1 a3.1 a3.2]; exact ih _ _ _ _ (by omega) hk (by omega)
        · rw [st.2.2.2 a1 a2 (by omega)]; exact ih _ _ _ _ (by omega) hc (by omega)
theorem zBE_abs (f : Int → Int) (n : Int) (hn : 0 ≤ n) (k : Nat) (hk : k < 7) (h : zB f n k = -1) : zE f n k = -1 := by
  have p0 := kP_nn f n hn
  have za := zBEa f n
  have o1 : kO f n = 0 ∨ kO f n = 1 := by unfold kO; split <;> omega
  rcases (by omega : k = 0 ∨ (1 ≤ k ∧ k ≤ 4) ∨ k = 5 ∨ k = 6) with e | e | e | e
  · subst e
    have b := zBE0 f n
    by_cases c : kC f n < kS f n
    · rw [(b.1 c).1] at h; cases h
    · exact (b.2 (by omega)).2
  rotate_left
  · subst e
    have b := zBE5 f n
    by_cases c : kQ f n < kH f n
    · have rH : 0 ≤ kH f n ∧ kH f n ≤ n := (cfn_r f 35 0 n).1 hn
      have rQ : 0 ≤ kQ f n ∧ kQ f n ≤ kH f n := (cfn_r f 63 0 (kH f n)).1 rH.1
      rw [(b.1 c).1] at h; omega
    · exact (b.2 (by omega)).2
  · subst e
    have b := zBE6 f n
    by_cases c : kH f n < n
    · have rH : 0 ≤ kH f n ∧ kH f n ≤ n := (cfn_r f 35 0 n).1 hn
      rw [(b.1 c).1] at h; omega
    · exact (b.2 (by omega)).2
  · have rH : 0 ≤ kH f n ∧ kH f n ≤ n := (cfn_r f 35 0 n).1 hn
    have rQ : 0 ≤ kQ f n ∧ kQ f n ≤ kH f n := (cfn_r f 63 0 (kH f n)).1 rH.1
    rcases o1 with o | o
    · obtain ⟨y1, y2, y3, y4, y5, y6, y7⟩ := za.2.2 o
      clear za
      rcases (by omega : k = 1 ∨ k = 2 ∨ k = 3 ∨ k = 4) with e | e | e | e <;> subst e
      · exact y2
      · exact y4
      · exact y6
      · rw [y7] at h; omega
    · obtain ⟨y1, y2, y3, y4, y5, y6, y7⟩ := za.2.1 o
      clear za
      have hO : kP f n + 2 ≤ kQ f n := by
        unfold kO at o
        by_cases c : kP f n + 2 ≤ kQ f n ∧ f (kP f n) = 47 ∧ f (kP f n + 1) = 47
        · exact c.1
        · rw [if_neg c] at o; cases o
      have hA : kP f n + 2 ≤ kA f n ∧ kA f n ≤ kQ f n := (cfn_r f 47 (kP f n + 2) (kQ f n)).1 hO
      have hf := fli_r2 f 64 (kP f n + 2) _ (kA f n - 1) rfl
      have s1 := aS1_st f (kP f n + 2) (kA f n)
      have s3 := aK_st f (kP f n + 2) (kA f n)
      rcases (by omega : k = 1 ∨ k = 2 ∨ k = 3 ∨ k = 4) with e | e | e | e <;> subst e
      · by_cases c : fli f 64 (kP f n + 2) (kA f n - 1) = -1
        · rw [y2, c]
        · rw [y1, (s1.2 c).1] at h; omega
      · by_cases c : fli f 64 (kP f n + 2) (kA f n - 1) = -1
        · rw [y3, (s1.1 c).2] at h; omega
        · rw [y3, (s1.2 c).2] at h; omega
      · by_cases c : pK f (kP f n + 2) (kA f n) = -1
        · rw [y6, (s3.1 c).2.2]
        · rw [y5, (s3.2 c).2.1] at h
          have pb : -1 ≤ pB f (kP f n + 2) (kA f n) := by
            by_cases c : fli f 64 (kP f n + 2) (kA f n - 1) = -1
            · rw [(s1.1 c).2]; omega
            · rw [(s1.2 c).2]; omega
          have := oc_lo f _ (pB f (kP f n + 2) (kA f n)) (kA f n) 0 (-1) rfl (by decide) pb
          unfold pK at h; omega
      · rw [y7] at h; omega
/-- the row r holds L, and its parts are marked -/
def mK (sh : zSh) (V : wSt) (m : Nat) (r : Int) (L : List Int) : Prop := mx sh V m r = L ∧ ∀ k : Nat, k < 7 → mB sh V m r k = zB (gl L) L.length k ∧ mE sh V m r k = zE (gl L) L.length k
theorem M138q {sh : zSh} {V : wSt} {m : Nat} (M : wMd sh m) (S : mSz sh V m) {r : Int} (hr : 0 ≤ r ∧ r ≤ 13) : ∃ V', wcl zP 138 [wR m, wI r] (sh, V) = rN (sh, V') ∧ FrB sh m r V V' ∧ mK sh V' m r (mx sh V m r) := by
  obtain ⟨V1, e1, f1, k1⟩ := M138 M S hr
  have l := mx_sz (sh := sh) (V := V) (m := m) (r := r) (S r.toNat (by omega)).1
  refine ⟨V1, e1, f1, ?_, fun k hk => ?_⟩
  · obtain ⟨a1, a2⟩ := f1.rows M
    unfold mx; rw [a1, a2]
  · rw [l]; exact k1 k hk
theorem cutQ_l (L : List Int) (k : Nat) (hk : k < 7) : ((cutQ L k).1.length : Int) = zE (gl L) L.length k - zB (gl L) L.length k ∧ ((cutQ L k).2 = 0 ∨ (cutQ L k).2 = 1) ∧ ((cutQ L k).2 = 0 ↔ zB (gl L) L.length k = -1) := by
  have rg := zBE_rng (gl L) L.length (Int.natCast_nonneg _) k hk
  have ab := zBE_abs (gl L) L.length (Int.natCast_nonneg _) k hk
  unfold cutQ
  dsimp only
  by_cases c : zB (gl L) L.length k = -1
  · rw [if_pos c, if_pos c, ab c, c]; exact ⟨rfl, Or.inl rfl, fun _ => rfl, fun _ => rfl⟩
  · rw [if_neg c, if_neg c]
    refine ⟨?_, Or.inr rfl, ⟨fun w => absurd w (by decide), fun w => absurd w c⟩⟩
    have := sub_len L (zB (gl L) L.length k) (zE (gl L) L.length k) (by omega)
    rw [this]; split <;> split <;> omega
theorem cutQ_g (L : List Int) (k : Nat) (hk : k < 7) (j : Int) (hj : 0 ≤ j) : gl (cutQ L k).1 j = if j < zE (gl L) L.length k - zB (gl L) L.length k then gl L (zB (gl L) L.length k + j) else -1 := by
  have rg := zBE_rng (gl L) L.length (Int.natCast_nonneg _) k hk
  have ab := zBE_abs (gl L) L.length (Int.natCast_nonneg _) k hk
  unfold cutQ
  dsimp only
  by_cases c : zB (gl L) L.length k = -1
  · rw [if_pos c, ab c, c, if_neg (by omega)]; exact gl_out (Or.inr (by simp only [List.length_nil]; omega))
  · rw [if_neg c]
    unfold sub
    rw [gl_take]
    by_cases d : j < zE (gl L) L.length k - zB (gl L) L.length k
    · rw [if_pos (by omega), if_pos d, gl_dr (by omega) j hj]; congr 1; omega
    · rw [if_neg (by omega), if_neg d]
theorem M134q {sh : zSh} {V : wSt} {m : Nat} {r p : Int} {L : List Int} (K : mK sh V m r L) (hr : 0 ≤ r ∧ r ≤ 13) (hp : 0 ≤ p ∧ p ≤ 6) : wcl zP 134 [wR m, wI r, wI p] (sh, V) = rI (cutQ L p.toNat).2 (sh, V) := by
  have rg := zBE_rng (gl L) L.length (Int.natCast_nonneg _) p.toNat (by omega)
  have c := cutQ_l L p.toNat (by omega)
  rw [M134 hr hp, (K.2 p.toNat (by omega)).1]
  refine rI_cg ?_
  by_cases d : zB (gl L) L.length p.toNat = -1
  · rw [if_pos (by omega), c.2.2.mpr d]
  · rw [if_neg (by omega)]
    rcases c.2.1 with e | e
    · exact absurd (c.2.2.mp e) d
    · exact e.symm
theorem M135q {sh : zSh} {V : wSt} {m : Nat} {r p : Int} {L : List Int} (K : mK sh V m r L) (hL : L.length ≤ 21000) (hr : 0 ≤ r ∧ r ≤ 13) (hp : 0 ≤ p ∧ p ≤ 6) : wcl zP 135 [wR m, wI r, wI p] (sh, V) = rI ((cutQ L p.toNat).1.length : Int) (sh, V) := by
  have rg := zBE_rng (gl L) L.length (Int.natCast_nonneg _) p.toNat (by omega)
  have k := K.2 p.toNat (by omega)
  rw [M135 hr hp (by rw [k.1, k.2]; omega), k.1, k.2, (cutQ_l L p.toNat (by omega)).1]
theorem M136q {sh : zSh} {V : wSt} {m : Nat} (S : mSz sh V m) {r p : Int} {L : List Int} (K : mK sh V m r L) (hL : L.length ≤ 21000) (hr : 0 ≤ r ∧ r ≤ 13) (hp : 0 ≤ p ∧ p ≤ 6) (j : Int) (hj : 0 ≤ j ∧ j ≤ 1000000) : wcl zP 136 [wR m, wI r, wI p, wI j] (sh, V) = rI (gl (cutQ L p.toNat).1 j) (sh, V) := by
  have rg := zBE_rng (gl L) L.length (Int.natCast_nonneg _) p.toNat (by omega)
  have k := K.2 p.toNat (by omega)
  rw [M136 S hr hp (by rw [k.1, k.2]; omega) j (by omega), k.1, k.2, K.1, cutQ_g L p.toNat (by omega) j hj.1]
