set_option maxRecDepth 16384
/-! a row's own reads and writes -/
theorem s57 {sh : zSh} {r0 : Nat} (q : zRow sh r0) {x1 : Int} (u1 : -2147483648 ≤ x1 ∧ x1 ≤ 2147483647) {t : zSt} (hR : RS sh t) : zok (zcl zP 57 [zR r0, zI (oI x1)] (sh, t)) (qI (fun x t' => t' = t ∧ -1 ≤ x ∧ x ≤ 255 ∧ (0 ≤ x → 0 ≤ x1 ∧ x1 < tg t r0 1)) sh) := by
  have g := RS_sz hR q
  have q1 := q.2.1
  have q2 := q.2.2
  rw [b57_0]
  simp only [ti_g]
  refine zok_lt (by omega) (fun c => qI_rt (by omega) (by omega) ⟨rfl, by omega, by omega, fun h => by omega⟩) (fun c => zok_ck q.1 (zok_le (by omega) (fun c => qI_rt (by omega) (by omega) ⟨rfl, by omega, by omega, fun h => by omega⟩) (fun c2 => zok_ck q.1 (zok_ck (by omega) (zok_lt (by omega) (fun c3 => zok_ck q.1 (zok_ck ⟨Or.inl q1, zin_o (by omega) (by omega) (by omega)⟩ ?_)) (fun c => qI_rt (by omega) (by omega) ⟨rfl, by omega, by omega, fun h => by omega⟩))))))
  have key : ∀ v : Int32, 0 ≤ (v &&& 255).toInt ∧ (v &&& 255).toInt ≤ 255 := by
    intro v
    have h1 : (v &&& 255).toInt = ((v &&& 255).toBitVec.toNat : Int) := by
      show (v &&& 255).toBitVec.toInt = _
      have h2 : (v &&& 255).toBitVec.toNat ≤ 255 := by
        show (v.toBitVec &&& (255 : Int32).toBitVec).toNat ≤ 255
        rw [BitVec.toNat_and]; exact Nat.and_le_right
      rw [BitVec.toInt_eq_toNat_cond, if_pos (by omega)]
    have h2 : (v &&& 255).toBitVec.toNat ≤ 255 := by
      show (v.toBitVec &&& (255 : Int32).toBitVec).toNat ≤ 255
      rw [BitVec.toNat_and]; exact Nat.and_le_right
    omega
  have := key (oI (tg t (sr sh r0 0) (nN (oI x1))))
  exact qI_nf ⟨rfl, by show -1 ≤ (_ &&& (255 : Int32)).toInt; omega, this.2, fun _ => by omega⟩
theorem s58 {sh : zSh} {r0 : Nat} (q : zRow sh r0) {x1 : Int} (u1 : -2147483648 ≤ x1 ∧ x1 ≤ 2147483647) {x2 : Int32} {t : zSt} (hR : RS sh t) : zok (zcl zP 58 [zR r0, zI (oI x1), zI x2] (sh, t)) (zq0 (fun t' => FrR sh r0 t t' ∧ tg t' r0 1 = tg t r0 1) sh) := by
  have g := RS_sz hR q
  have q1 := q.2.1
  have q2 := q.2.2
  rw [b58_0]
  simp only [ti_g]
  refine zok_lt (by omega) (fun c => q0_rt ⟨FrR.refl hR, rfl⟩) (fun c => zok_ck q.1 (zok_le (by omega) (fun c => q0_rt ⟨FrR.refl hR, rfl⟩) (fun c2 => zok_ck q.1 (zok_ck (by omega) (zok_le (by omega) (fun c3 => q0_rt ⟨FrR.refl hR, rfl⟩) (fun c3 => zok_ck q.1 (zok_ck ⟨Or.inl q1, zin_o (by omega) (by omega) (by omega)⟩ (q0_rt ⟨FrR_B hR q1, ?_⟩))))))))
  have hn : r0 ≠ sr sh r0 0 := by intro e; rw [← e, q.1] at q1; cases q1
  refine tg_of ?_ 1
  show zup t.1 (sr sh r0 0) _ r0 = _; unfold zup; rw [if_neg hn]
theorem s59 {sh : zSh} {r0 : Nat} (q : zRow sh r0) {x1 : Int32} {t : zSt} (hR : RS sh t) : zok (zcl zP 59 [zR r0, zI x1] (sh, t)) (zq0 (fun t' => FrR sh r0 t t' ∧ tg t' r0 1 = if tg t r0 1 < ((sk sh (sr sh r0 0)).2 : Int) then tg t r0 1 + 1 else tg t r0 1) sh) := by
  have g := RS_sz hR q
  have q1 := q.2.1
  have q2 := q.2.2
  have hn : r0 ≠ sr sh r0 0 := by intro e; rw [← e, q.1] at q1; cases q1
  rw [b59_0]
  have hf := fun (x : Int32) (j : Nat) => FrR_B (r := r0) (f := zup (t.1 (sr sh r0 0)) j x) hR q1
  have he : ∀ (x : Int32) (j : Nat), tg (tI t (sr sh r0 0) j x) r0 1 = tg t r0 1 := by
    intro x j; refine tg_of ?_ 1
    show zup t.1 (sr sh r0 0) _ r0 = _; unfold zup; rw [if_neg hn]
  simp only [ti_g, he, oI_add]
  refine zok_ck q.1 (zok_lt (by omega) (fun c => by omega) (fun c => zok_ck q.1 (zok_ck q.1 (zok_ck (by omega) (zok_le (by omega) (fun c2 => q0_rt ⟨FrR.refl hR, by rw [if_neg (by omega)]⟩) (fun c2 => zok_ck q.1 (zok_ck q.1 (zok_ck ⟨Or.inl q1, zin_o (by omega) (by omega) (by omega)⟩ (zok_ck q.1 (zok_ck ⟨q.1, fun e => by cases e⟩ (q0_rt ⟨?_, ?_⟩)))))))))))
  · exact (hf _ _).trans (FrR_I (hf _ _).rs q (by omega) (by omega) ⟨fun _ => by omega, fun e => by cases e⟩)
  · rw [tg_I (by omega) (by omega), if_pos ⟨rfl, rfl⟩, if_pos (by omega)]
theorem s62 {sh : zSh} {r0 : Nat} (q : zRow sh r0) {t : zSt} (hR : RS sh t) : zok (zcl zP 62 [zR r0] (sh, t)) (zq0 (fun t' => FrR sh r0 t t' ∧ tg t' r0 1 = 0) sh) := by
  rw [b62_0]
  have f1 := FrR_I (k := 1) (x := 0) hR q (by omega) (by omega) ⟨fun _ => by omega, fun e => by cases e⟩
  refine zok_ck ⟨q.1, fun e => by cases e⟩ (zok_ck ⟨q.1, fun _ => Or.inl rfl⟩ (q0_rt ⟨f1.trans (FrR_I f1.rs q (by omega) (by omega) ⟨(fun e => by cases e), fun _ => Or.inl rfl⟩), ?_⟩))
  rw [tg_I (by omega) (by omega), if_neg (fun c => by cases c.2), tg_I (by omega) (by omega), if_pos ⟨rfl, rfl⟩]
theorem s63 {sh : zSh} {r0 : Nat} (q : zRow sh r0) {x1 : Int} (u1 : -2147483648 ≤ x1 ∧ x1 ≤ 2147483647) {t : zSt} (hR : RS sh t) : zok (zcl zP 63 [zR r0, zI (oI x1)] (sh, t)) (zq0 (fun t' => FrR sh r0 t t' ∧ True) sh) := by
  have g := RS_sz hR q
  rw [b63_0]
  simp only [ti_g]
  exact zok_lt (by omega) (fun c => q0_rt ⟨FrR.refl hR, trivial⟩) (fun c => zok_ck q.1 (zok_le (by omega) (fun c => q0_rt ⟨FrR.refl hR, trivial⟩) (fun c2 => zok_ck ⟨q.1, fun e => by cases e⟩ (q0_rt ⟨FrR_I hR q (by omega) (by omega) ⟨fun _ => by omega, fun e => by cases e⟩, trivial⟩))))
theorem s61 {sh : zSh} {r0 r1 : Nat} (q : zRow sh r0) (p : zRow sh r1) {x2 x3 : Int} (u2 : -2147483648 ≤ x2 ∧ x2 ≤ 2147483647) (u3 : -2147483648 ≤ x3 ∧ x3 ≤ 2147483647) {t : zSt} (hR : RS sh t) : zok (zcl zP 61 [zR r0, zR r1, zI (oI x2), zI (oI x3)] (sh, t)) (zq0 (fun t' => FrR sh r0 t t' ∧ True) sh) := by
  have g := RS_sz hR q
  have g1 := RS_sz hR p
  have qb := q.2.1
  have q2 := q.2.2
  have pb := p.2.1
  have p2 := p.2.2
  have h105 : ∀ x4 x5 x6 : Int32, zok (zev zP 61 105 [some (zR r0), some (zR r1), some (zI (oI x2)), some (zI (oI x3)), some (zI x4), some (zI x5), some (zI x6)] [] (sh, t)) (zq0 (fun t' => FrR sh r0 t t' ∧ True) sh) := by
    intro x4 x5 x6; rw [b61_105]; exact q0_rt ⟨FrR.refl hR, trivial⟩
  have h46 : ∀ (x4 x5 : Int32) (n : Int), -2147483648 ≤ n ∧ n ≤ 2147483647 → n ≤ ((sk sh (sr sh r0 0)).2 : Int) - tg t r0 1 → zok (zev zP 61 46 [some (zR r0), some (zR r1), some (zI (oI x2)), some (zI (oI x3)), some (zI x4), some (zI x5), none] [zI (oI n)] (sh, t)) (zq0 (fun t' => FrR sh r0 t t' ∧ True) sh) := by
    intro x4 x5 n un hn
    rw [b61_46]
    simp only [ti_g, oI_sub]
    refine zok_lt (by omega) (fun c => h105 _ _ _) (fun c => zok_le (by omega) (fun c => h105 _ _ _) (fun c1 => zok_ck p.1 (zok_ck (by omega) (zok_lt (by omega) (fun c => h105 _ _ _) (fun c2 => zok_ck q.1 (zok_lt (by omega) (fun c => h105 _ _ _) (fun c3 => zok_ck p.1 (zok_ck q.1 (zok_ck q.1 (zok_ck ⟨pb, qb, ?_, ?_, ?_, ?_, ?_, Nat.le_of_ble_eq_true rfl⟩ (zok_ck q.1 (zok_ck ⟨q.1, fun e => by cases e⟩ ?_))))))))))))
    · rw [show (0 : Int32) = oI 0 from rfl, oI_lt (by omega) (by omega) (by omega) (by omega)]; omega
    · rw [show (0 : Int32) = oI 0 from rfl, oI_lt (by omega) (by omega) (by omega) (by omega)]; omega
    · rw [show (0 : Int32) = oI 0 from rfl, oI_lt (by omega) (by omega) (by omega) (by omega)]; omega
    · rw [nN_o (by omega) (by omega), nN_o (by omega) (by omega)]; omega
    · rw [nN_o (by omega) (by omega), nN_o (by omega) (by omega)]; omega
    · have hn : r0 ≠ sr sh r0 0 := by intro e; rw [← e, q.1] at qb; cases qb
      have he : ∀ f, tg (tA t (sr sh r0 0) f) r0 1 = tg t r0 1 := by
        intro f; refine tg_of ?_ 1
        show zup t.1 (sr sh r0 0) _ r0 = _; unfold zup; rw [if_neg hn]
      simp only [he, oI_add]
      rw [b61_105]
      exact q0_rt ⟨(FrR_B hR qb).trans (FrR_I (FrR_B (r := r0) hR qb).rs q (by omega) (by omega) ⟨fun _ => by omega, fun e => by cases e⟩), trivial⟩
  have h28 : ∀ (w : Int), -2147483648 ≤ w ∧ w ≤ 2147483647 → zok (zev zP 61 28 [some (zR r0), some (zR r1), some (zI (oI x2)), some (zI (oI x3)), some (zI (oI (((sk sh (sr sh r0 0)).2 : Int) - tg t r0 1))), none, none] [zI (oI w)] (sh, t)) (zq0 (fun t' => FrR sh r0 t t' ∧ True) sh) := by
    intro w uw
    rw [b61_28]
    obtain ⟨y, h1, h2, e⟩ := oI_nf (oI w - oI x2)
    rw [e]
    exact zok_le (by omega) (fun c => h46 _ _ _ (by omega) (by omega)) (fun c => h46 _ _ _ (by omega) (by omega))
  rw [b61_0]
  simp only [ti_g, oI_sub]
  exact zok_ck q.1 (zok_ck (by omega) (zok_ck q.1 (zok_ck p.1 (zok_le (by omega) (fun c => zok_ck p.1 (h28 _ (by omega))) (fun c => h28 _ (by omega))))))
