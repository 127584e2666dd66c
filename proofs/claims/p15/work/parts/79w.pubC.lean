set_option maxRecDepth 16384
/-! the shortest way -/
/-- the parts of a text -/
def cutQ (L : List Int) : Nat → List Int × Int := fun k => (if zB (gl L) L.length k = -1 then [] else sub L (zB (gl L) L.length k) (zE (gl L) L.length k), if zB (gl L) L.length k = -1 then 0 else 1)
theorem wm_l (y : List Int × Int) (b c : Int) : ((wm y b c).length : Int) ≤ y.1.length + (if y.2 = 0 then 0 else (if b = -1 then 0 else 1) + (if c = -1 then 0 else 1)) := by
  unfold wm
  by_cases d : y.2 = 0
  · rw [if_pos d, if_pos d]; simp only [List.length_nil]; omega
  · rw [if_neg d, if_neg d, List.length_append, List.length_append]
    split <;> split <;> simp only [List.length_cons, List.length_nil] <;> omega
theorem cmp_l (Q : Nat → List Int × Int) : ((cmp Q).length : Int) ≤ pln Q := by
  have a0 := wm_l (Q 0) (-1) 58
  have a1 := wm_l (Q 1) (-1) 64
  have a2 := wm_l (Q 2) (-1) (-1)
  have a3 := wm_l (Q 3) 58 (-1)
  have a4 := wm_l (Q 4) (-1) (-1)
  have a5 := wm_l (Q 5) 63 (-1)
  have a6 := wm_l (Q 6) 35 (-1)
  simp only [if_pos, if_neg (show ¬ (58 : Int) = -1 by decide), if_neg (show ¬ (64 : Int) = -1 by decide), if_neg (show ¬ (63 : Int) = -1 by decide), if_neg (show ¬ (35 : Int) = -1 by decide), Int.add_zero, Int.zero_add, ite_self] at a0 a1 a2 a3 a4 a5 a6
  have ll : ((if (Q 2).2 = 0 then ([] : List Int) else [47, 47]).length : Int) = if (Q 2).2 = 0 then 0 else 2 := by split <;> rfl
  unfold cmp
  simp only [List.length_append]
  have pe : pln Q = (if (Q 2).2 = 0 then 0 else 2) + (((Q 0).1.length : Int) + (if (Q 0).2 = 0 then 0 else 1) + ((Q 1).1.length + (if (Q 1).2 = 0 then 0 else 1)) + (Q 2).1.length + ((Q 3).1.length + (if (Q 3).2 = 0 then 0 else 1)) + (Q 4).1.length + ((Q 5).1.length + (if (Q 5).2 = 0 then 0 else 1)) + ((Q 6).1.length + (if (Q 6).2 = 0 then 0 else 1))) := by
    have e : plA (fun k => ((Q k).1.length : Int)) (fun k => (Q k).2) 7 = 0 + (((Q 0).1.length : Int) + (if (Q 0).2 = 0 then 0 else 1)) + ((Q 1).1.length + (if (Q 1).2 = 0 then 0 else 1)) + ((Q 2).1.length + 0) + ((Q 3).1.length + (if (Q 3).2 = 0 then 0 else 1)) + ((Q 4).1.length + 0) + ((Q 5).1.length + (if (Q 5).2 = 0 then 0 else 1)) + ((Q 6).1.length + (if (Q 6).2 = 0 then 0 else 1)) := rfl
    unfold pln plen
    rw [e]
    dsimp only
    omega
  rw [pe]
  omega
section
variable {sh : zSh} {x : Nat} {V : wSt} {tp ou : List Int} {lk : Nat → Nat → List Int × Int} {f0 f1 : Int}
theorem S117 (h : wLL sh x) (A : AllR sh V) {Q : Nat → List Int × Int} (g : ∀ k, k < 7 → pv sh V (wP sh x 9) k = Q k) (l : pln Q ≤ 400) : ∃ V', wcl zP 117 [wR x] (sh, V) = rI (bI (∀ k : Nat, k < 7 → cutQ (cmp Q) k = Q k)) (sh, V') ∧ Kp sh x (fun s => s = sr sh x 5 ∨ ∃ k, k < 7 ∧ s = sr sh (wP sh x 10) k) V V' := by
  have P9 := h.P (p := 9) (by decide)
  have P10 := h.P (p := 10) (by decide)
  have cl := cmp_l Q
  obtain ⟨V1, e1, u1, A1, p1⟩ := S28 A h.Z P9 h.r5 (fun k hk => (h.pr (by decide) hk).2.2.2)
  rw [h.cp.2.2.2, cmp_cg g, List.take_of_length_le (by omega)] at u1
  have k1 := u1.kp h A
  have n1 : V1 (sr sh x 5) 1 = ((cmp Q).length : Int) := by rw [← tx_sz u1.2.1, u1.2.2.1]
  obtain ⟨V2, e2, f2, v2⟩ := S35 h.rd u1.2.1
  rw [u1.2.2.1, n1] at v2
  have nx : x ∉ [sr sh (sr sh x 4) 0, sr sh (sr sh x 4) 1] := fun w => by
    simp only [List.mem_cons, List.not_mem_nil, or_false] at w
    rcases w with w | w
    · have k := h.2.1; rw [w, h.rd.2.1] at k; cases k
    · have k := h.2.1; rw [w, h.rd.2.2.1] at k; cases k
  have k2 := FrO.kp f2 h.rd.nr nx A1 (fun s => s = sr sh x 5 ∨ ∃ k, k < 7 ∧ s = sr sh (wP sh x 10) k)
  have r2 := f2.row h.rd.nr u1.2.1
  rw [u1.2.2.1] at r2
  have rg := zBE_rng (gl (cmp Q)) ((cmp Q).length : Int) (Int.natCast_nonneg _)
  obtain ⟨V3, e3, f3, A3, v3⟩ := S41 h.Z P10 h.rd h.r5 (fun k hk e => (h.pr (by decide) hk).2.2.2 e.symm) k2.1 (fun k hk => by
    rw [r2.2.1, h.cd (p := 10) (by decide) (by decide) k hk]; split <;> omega) (fun k hk => by have := v2 k hk; have := rg k hk; omega)
  have w3 : PwU sh V2 V3 (wP sh x 10) (cutQ (cmp Q)) := ⟨f3, A3, fun k hk => by
    have a := v3 k hk
    rw [r2.2.1, (v2 k hk).1, (v2 k hk).2] at a
    exact Prod.ext a.1 a.2⟩
  have k3 := w3.kp h P10
  have kk := ((k1.mono (F := fun s => s = sr sh x 5 ∨ ∃ k, k < 7 ∧ s = sr sh (wP sh x 10) k) (fun s w => Or.inl w)).trans k2).trans (k3.mono (fun s w => Or.inr w))
  have g3 : ∀ k, k < 7 → pv sh V3 (wP sh x 9) k = Q k := fun k hk => (kk.pv P9 (fun m hm w => w.elim (fun z => (h.pr (by decide) hm).2.2.2 z) (fun ⟨n, hn, z⟩ => h.dj (by decide : 10 < 11) (by decide : 9 < 11) (by decide) m n hm hn z)) hk).trans (g k hk)
  refine ⟨V3, ?_, kk⟩
  rw [w117_0, show sr sh x 8 = wP sh x 9 from rfl, e1]
  simp only [wcx_v, wput_n, w117_11]
  rw [e2]
  simp only [wcx_v, wput_n, w117_22]
  rw [show sr sh x 9 = wP sh x 10 from rfl, e3]
  simp only [wcx_v, wput_n, w117_37]
  rw [show sr sh x 8 = wP sh x 9 from rfl, show sr sh x 9 = wP sh x 10 from rfl, S26 A3 P10 P9]
  simp only [wcx_v, wput_s, w117_48]
  refine rI_cg ?_
  by_cases w : ∀ k : Nat, k < 7 → pv sh V3 (wP sh x 10) k = pv sh V3 (wP sh x 9) k
  · rw [bI_1 w, bI_1 (fun k hk => by rw [← g3 k hk, ← w k hk, w3.2.2 k hk])]
  · rw [bI_0 w, bI_0 (fun z => w (fun k hk => by rw [g3 k hk, w3.2.2 k hk, z k hk]))]
/-- whether a way leads to the target, and reads back -/
noncomputable def wOk (B T : Nat → List Int × Int) (w : Int) : Prop := (∀ k : Nat, k < 7 → cutQ (cmp (qWay w B T)) k = qWay w B T k) ∧ ∀ k : Nat, k < 7 → qRes (fun _ => ([], 0)) B (qWay w B T) 1 k = T k
noncomputable def bwA (B T : Nat → List Int × Int) : Nat → Int → Int → Int → Int
  | 0, _, b, _ => b
  | n + 1, w, b, s => if pln (qWay w B T) < s ∧ bI (wOk B T w) = 1 then bwA B T n (w + 1) w (pln (qWay w B T)) else bwA B T n (w + 1) b s
noncomputable def bway (B T : Nat → List Int × Int) : Int := bwA B T 6 0 (-1) 401
theorem bwA_r (B T : Nat → List Int × Int) : ∀ (n : Nat) (w b s : Int), 0 ≤ w → s ≤ 401 → (b = -1 ∨ (0 ≤ b ∧ b < w ∧ pln (qWay b B T) ≤ 400)) → bwA B T n w b s = -1 ∨ (0 ≤ bwA B T n w b s ∧ bwA B T n w b s < w + n ∧ pln (qWay (bwA B T n w b s) B T) ≤ 400) := by
  intro n
  induction n with
  | zero => intro w b s hw hs hb; show b = -1 ∨ (0 ≤ b ∧ b < w + ((0 : Nat) : Int) ∧ pln (qWay b B T) ≤ 400); omega
  | succ n ih =>
    intro w b s hw hs hb
    rw [bwA]
    split
    · rename_i c
      rcases ih (w + 1) w (pln (qWay w B T)) (by omega) (by omega) (Or.inr ⟨hw, by omega, by omega⟩) with k | k
      · exact Or.inl k
      · exact Or.inr ⟨k.1, by omega, k.2.2⟩
    · rcases ih (w + 1) b s (by omega) hs (by rcases hb with hb | hb; exact Or.inl hb; exact Or.inr ⟨hb.1, by omega, hb.2.2⟩) with k | k
      · exact Or.inl k
      · exact Or.inr ⟨k.1, by omega, k.2.2⟩
theorem S116_10 (h : wLL sh x) {b t : Nat} (hb : b < 8) (ht : t < 8) : ∀ (n : Nat) (V : wSt) (be so w : Int) (o6 : Option wV), (6 - w).toNat = n → 0 ≤ w → so ≤ 401 → Sx sh x V tp ou lk f0 f1 → ∃ V', wev zP 116 10 [some (wR x), some (wR (wP sh x b)), some (wR (wP sh x t)), some (wI be), some (wI so), some (wI w), o6] [] (sh, V) = rI (bwA (lk b) (lk t) n w be so) (sh, V') ∧ Sx sh x V' tp ou lk f0 f1 := by
  intro n
  induction n with
  | zero =>
    intro V be so w o6 hn hw hso s
    exact ⟨V, by rw [w116_10, if_pos (by omega)]; rfl, s⟩
  | succ n ih =>
    intro V be so w o6 hn hw hso s
    have P8 := h.P (p := 8) (by decide)
    have P9 := h.P (p := 9) (by decide)
    have Pb := h.P (p := b) (by omega)
    have Pt := h.P (p := t) (by omega)
    obtain ⟨Qw, hQw⟩ : ∃ Qw, Qw = qWay w (lk b) (lk t) := ⟨_, rfl⟩
    obtain ⟨V1, e1, w1⟩ := S49 w s.1 h.Z P9 Pb Pt (h.dj (by decide) (by omega) (by omega)) (h.dj (by decide) (by omega) (by omega)) (h.cd (by decide) (by decide)) (s.le h ht)
    have g1 : ∀ k, k < 7 → pv sh V1 (wP sh x 9) k = Qw k := fun k hk => by rw [hQw]; exact (w1.2.2 k hk).trans (qWay_cg w (fun j hj => s.2.2.2.1 b j hb hj) (fun j hj => s.2.2.2.1 t j ht hj) k hk)
    have s1 := s.hid h ((w1.kp h P9).mono (hid_d (by decide) (by decide)))
    have start : wev zP 116 10 [some (wR x), some (wR (wP sh x b)), some (wR (wP sh x t)), some (wI be), some (wI so), some (wI w), o6] [] (sh, V) = wev zP 116 35 [some (wR x), some (wR (wP sh x b)), some (wR (wP sh x t)), some (wI be), some (wI so), some (wI w), o6] [wI (pln Qw)] (sh, V1) := by
      rw [w116_10, if_neg (by omega), show sr sh x 8 = wP sh x 9 from rfl, e1]
      simp only [wcx_v, wput_n, w116_28]
      rw [show sr sh x 8 = wP sh x 9 from rfl, S27q s1.1 P9, pln_cg g1]
      simp only [wcx_v, wput_s]
    rw [start, w116_35, bwA, ← hQw]
    by_cases c : so ≤ pln Qw
    · rw [if_pos c, if_neg (fun z => by have := z.1; omega), wr_eq (by omega) (by omega)]
      exact ih V1 be so (w + 1) _ (by omega) (by omega) hso s1
    · rw [if_neg c]
      obtain ⟨V2, e2, k2⟩ := S117 h s1.1 g1 (by omega)
      have s2 := s1.hid h (k2.mono (fun y z => z.elim (fun a => Or.inr (Or.inl a)) (fun a => hid_d (by decide) (by decide) y a)))
      have g2 : ∀ k, k < 7 → pv sh V2 (wP sh x 9) k = Qw k := fun k hk => (k2.pv P9 (fun m hm z => z.elim (fun a => (h.pr (by decide) hm).2.2.2 a) (fun ⟨j, hj, a⟩ => h.dj (by decide : 10 < 11) (by decide : 9 < 11) (by decide) m j hm hj a)) hk).trans (g1 k hk)
      rw [e2]
      simp only [wcx_v, wput_s, w116_48]
      by_cases d : ∀ k : Nat, k < 7 → cutQ (cmp Qw) k = Qw k
      · rw [bI_1 d, if_neg (by decide)]
        have l9 : wLe sh V2 (wP sh x 9) := fun k hk => by rw [g2 k hk]; have := pln_ge Qw k hk; omega
        obtain ⟨V3, e3, w3⟩ := S53 1 s2.1 h.Z P8 Pb P9 (h.dj (by decide) (by omega) (by omega)) (h.dj (by decide) (by decide) (by decide)) (h.cd (by decide) (by decide)) (s2.le h hb) l9
        have s3 := s2.hid h ((w3.kp h P8).mono (hid_d (by decide) (by decide)))
        have g3 : ∀ k, k < 7 → pv sh V3 (wP sh x 8) k = qRes (fun _ => ([], 0)) (lk b) Qw 1 k := fun k hk => (w3.2.2 k hk).trans (qRes_cg 1 (fun j hj => s2.2.2.2.1 b j hb hj) g2 k hk)
        have same : (∀ k : Nat, k < 7 → pv sh V3 (wP sh x 8) k = pv sh V3 (wP sh x t) k) ↔ (∀ k : Nat, k < 7 → qRes (fun _ => ([], 0)) (lk b) Qw 1 k = lk t k) := ⟨fun z k hk => by rw [← g3 k hk, z k hk]; exact s3.2.2.2.1 t k ht hk, fun z k hk => by rw [g3 k hk, z k hk]; exact (s3.2.2.2.1 t k ht hk).symm⟩
        rw [show sr sh x 7 = wP sh x 8 from rfl, show sr sh x 8 = wP sh x 9 from rfl, e3]
        simp only [wcx_v, wput_n, w116_64]
        rw [show sr sh x 7 = wP sh x 8 from rfl, S26 s3.1 P8 Pt]
        simp only [wcx_v, wput_s, w116_72]
        by_cases f : ∀ k : Nat, k < 7 → qRes (fun _ => ([], 0)) (lk b) Qw 1 k = lk t k
        · rw [bI_1 (same.mpr f), if_neg (by decide), if_pos ⟨by omega, bI_1 (by unfold wOk; rw [← hQw]; exact ⟨d, f⟩)⟩, wr_eq (by omega) (by omega)]
          exact ih V3 w (pln Qw) (w + 1) _ (by omega) (by omega) (by omega) s3
        · rw [bI_0 (fun z => f (same.mp z)), if_pos rfl, if_neg (fun z => by
            have y := z.2
            rw [bI_0 (by unfold wOk; rw [← hQw]; exact fun a => f a.2)] at y; cases y), wr_eq (by omega) (by omega)]
          exact ih V3 be so (w + 1) _ (by omega) (by omega) hso s3
      · rw [bI_0 d, if_pos rfl, if_neg (fun z => by
          have y := z.2
          rw [bI_0 (by unfold wOk; rw [← hQw]; exact fun a => d a.1)] at y; cases y), wr_eq (by omega) (by omega)]
        exact ih V2 be so (w + 1) _ (by omega) (by omega) hso s2
end
