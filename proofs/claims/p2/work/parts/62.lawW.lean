set_option maxRecDepth 16384
/-! the law's calls of the program: what is thrown is caught -/
theorem s209 {sh : zSh} {T MB : Nat} (F : zCl sh T MB) {r0 : Nat} (q0 : zLL sh T MB r0) {x1 : Int} (u1 : -2147483648 ≤ x1 ∧ x1 ≤ 2147483647) {rO : Nat} (qO : sk sh rO = (4, 1)) {t : zSt} (hR : RS sh t) : zok (zcl zP 209 [zR r0, zI (oI x1), zR rO] (sh, t)) (qI (fun x t' => FrL sh MB t t' ∧ tg t' T 1 = 0) sh) := by
  rw [b209_0]
  refine zok_ck q0.1 (zok_w (s95 F q0 u1 hR) (fun x t1 ux p => ?_) (fun E t1 hE hX => ?_))
  · rw [zput_s, b209_7]
    exact zok_ck ⟨by rw [qO], by rw [qO]; exact zin_o (by decide) (by decide) (by decide)⟩ (qI_rt (by decide) (by decide) ⟨FrL.ofM p.1 _ _ _, p.2⟩)
  · simp only [List.mem_cons, List.not_mem_nil, or_false] at hE
    rcases hE with rfl | rfl
    · show zok (zev zP 209 12 [none, none, none, none] [zX 1000] (sh, tb t1)) _
      rw [b209_12]
      exact qI_rt (by decide) (by decide) ⟨FrL.ofB hX.1, hX.2⟩
    · show zok (zev zP 209 15 [none, none, none, none] [zX 1000] (sh, tb t1)) _
      rw [b209_15]
      exact qI_rt (by decide) (by decide) ⟨FrL.ofB hX.1, hX.2⟩
theorem s210 {sh : zSh} {T MB : Nat} (F : zCl sh T MB) {r0 : Nat} (q0 : zLL sh T MB r0) {x1 : Int} (u1 : -2147483648 ≤ x1 ∧ x1 ≤ 2147483647) {rO : Nat} (qO : sk sh rO = (4, 1)) {t : zSt} (hR : RS sh t) : zok (zcl zP 210 [zR r0, zI (oI x1), zR rO] (sh, t)) (qI (fun x t' => FrL sh MB t t' ∧ tg t' T 1 = tg t T 1) sh) := by
  rw [b210_0]
  refine zok_ck q0.1 (zok_w (s97 F q0 u1 hR) (fun x t1 ux p => ?_) (fun E t1 hE hX => ?_))
  · rw [zput_s, b210_7]
    exact zok_ck ⟨by rw [qO], by rw [qO]; exact zin_o (by decide) (by decide) (by decide)⟩ (qI_rt (by decide) (by decide) ⟨FrL.ofM p.1.toM _ _ _, p.1.tp⟩)
  · simp only [List.mem_cons, List.not_mem_nil, or_false] at hE
    rcases hE with rfl
    · show zok (zev zP 210 12 [none, none, none, none] [zX 1000] (sh, tb t1)) _
      rw [b210_12]
      exact qI_rt (by decide) (by decide) ⟨FrL.ofB hX.toM, hX.tp⟩
theorem s211 {sh : zSh} {T MB : Nat} (F : zCl sh T MB) {r0 : Nat} (q0 : zLL sh T MB r0) {x1 : Int} (u1 : -2147483648 ≤ x1 ∧ x1 ≤ 2147483647) {x2 : Int} (u2 : -2147483648 ≤ x2 ∧ x2 ≤ 2147483647) {rO : Nat} (qO : sk sh rO = (4, 1)) {t : zSt} (hR : RS sh t) : zok (zcl zP 211 [zR r0, zI (oI x1), zI (oI x2), zR rO] (sh, t)) (qI (fun x t' => FrL sh MB t t' ∧ tg t' T 1 = tg t T 1) sh) := by
  rw [b211_0]
  refine zok_ck q0.1 (zok_w (s98 F q0 u1 u2 hR) (fun x t1 ux p => ?_) (fun E t1 hE hX => ?_))
  · rw [zput_s, b211_8]
    exact zok_ck ⟨by rw [qO], by rw [qO]; exact zin_o (by decide) (by decide) (by decide)⟩ (qI_rt (by decide) (by decide) ⟨FrL.ofM p.1.toM _ _ _, p.1.tp⟩)
  · simp only [List.mem_cons, List.not_mem_nil, or_false] at hE
    rcases hE with rfl | rfl
    · show zok (zev zP 211 13 [none, none, none, none, none] [zX 1000] (sh, tb t1)) _
      rw [b211_13]
      exact qI_rt (by decide) (by decide) ⟨FrL.ofB hX.toM, hX.tp⟩
    · show zok (zev zP 211 17 [none, none, none, none, none] [zX 1000] (sh, tb t1)) _
      rw [b211_17]
      exact qI_rt (by decide) (by decide) ⟨FrL.ofB hX.toM, hX.tp⟩
theorem s212 {sh : zSh} {T MB : Nat} (F : zCl sh T MB) {r0 : Nat} (q0 : zLL sh T MB r0) {x1 : Int} (u1 : -2147483648 ≤ x1 ∧ x1 ≤ 2147483647) {rO : Nat} (qO : sk sh rO = (4, 1)) {t : zSt} (hR : RS sh t) : zok (zcl zP 212 [zR r0, zI (oI x1), zR rO] (sh, t)) (qI (fun x t' => FrL sh MB t t' ∧ tg t' T 1 = tg t T 1) sh) := by
  rw [b212_0]
  refine zok_ck q0.1 (zok_w (s99 F q0 u1 hR) (fun x t1 ux p => ?_) (fun E t1 hE hX => ?_))
  · rw [zput_s, b212_7]
    exact zok_ck ⟨by rw [qO], by rw [qO]; exact zin_o (by decide) (by decide) (by decide)⟩ (qI_rt (by decide) (by decide) ⟨FrL.ofM p.1.toM _ _ _, p.1.tp⟩)
  · simp only [List.mem_cons, List.not_mem_nil, or_false] at hE
    rcases hE with rfl
    · show zok (zev zP 212 12 [none, none, none, none] [zX 1000] (sh, tb t1)) _
      rw [b212_12]
      exact qI_rt (by decide) (by decide) ⟨FrL.ofB hX.toM, hX.tp⟩
theorem s213 {sh : zSh} {T MB : Nat} (F : zCl sh T MB) {r0 : Nat} (q0 : zLL sh T MB r0) {x1 : Int} (u1 : -2147483648 ≤ x1 ∧ x1 ≤ 2147483647) {x2 : Int} (u2 : -2147483648 ≤ x2 ∧ x2 ≤ 2147483647) {rO : Nat} (qO : sk sh rO = (4, 1)) {t : zSt} (hR : RS sh t) : zok (zcl zP 213 [zR r0, zI (oI x1), zI (oI x2), zR rO] (sh, t)) (qI (fun x t' => FrL sh MB t t' ∧ tg t' T 1 = tg t T 1) sh) := by
  rw [b213_0]
  refine zok_ck q0.1 (zok_w (s100 F q0 u1 u2 hR) (fun x t1 ux p => ?_) (fun E t1 hE hX => ?_))
  · rw [zput_s, b213_8]
    exact zok_ck ⟨by rw [qO], by rw [qO]; exact zin_o (by decide) (by decide) (by decide)⟩ (qI_rt (by decide) (by decide) ⟨FrL.ofM p.1.toM _ _ _, p.1.tp⟩)
  · simp only [List.mem_cons, List.not_mem_nil, or_false] at hE
    rcases hE with rfl | rfl | rfl
    · show zok (zev zP 213 13 [none, none, none, none, none] [zX 1000] (sh, tb t1)) _
      rw [b213_13]
      exact qI_rt (by decide) (by decide) ⟨FrL.ofB hX.toM, hX.tp⟩
    · show zok (zev zP 213 17 [none, none, none, none, none] [zX 1000] (sh, tb t1)) _
      rw [b213_17]
      exact qI_rt (by decide) (by decide) ⟨FrL.ofB hX.toM, hX.tp⟩
    · show zok (zev zP 213 21 [none, none, none, none, none] [zX 1000] (sh, tb t1)) _
      rw [b213_21]
      exact qI_rt (by decide) (by decide) ⟨FrL.ofB hX.toM, hX.tp⟩
theorem s214 {sh : zSh} {T MB : Nat} (F : zCl sh T MB) {r0 : Nat} (q0 : zLL sh T MB r0) {x1 : Int} (u1 : -2147483648 ≤ x1 ∧ x1 ≤ 2147483647) {rO : Nat} (qO : sk sh rO = (4, 1)) {t : zSt} (hR : RS sh t) : zok (zcl zP 214 [zR r0, zI (oI x1), zR rO] (sh, t)) (qI (fun x t' => FrL sh MB t t' ∧ tg t' T 1 = tg t T 1) sh) := by
  rw [b214_0]
  refine zok_ck q0.1 (zok_w (s101 F q0 u1 hR) (fun x t1 ux p => ?_) (fun E t1 hE hX => ?_))
  · rw [zput_s, b214_7]
    exact zok_ck ⟨by rw [qO], by rw [qO]; exact zin_o (by decide) (by decide) (by decide)⟩ (qI_rt (by decide) (by decide) ⟨FrL.ofM p.1.toM _ _ _, p.1.tp⟩)
  · simp only [List.mem_cons, List.not_mem_nil, or_false] at hE
    rcases hE with rfl
    · show zok (zev zP 214 12 [none, none, none, none] [zX 1000] (sh, tb t1)) _
      rw [b214_12]
      exact qI_rt (by decide) (by decide) ⟨FrL.ofB hX.toM, hX.tp⟩
theorem s215 {sh : zSh} {T MB : Nat} (F : zCl sh T MB) {r0 : Nat} (q0 : zLL sh T MB r0) {x1 : Int} (u1 : -2147483648 ≤ x1 ∧ x1 ≤ 2147483647) {x2 : Int} (u2 : -2147483648 ≤ x2 ∧ x2 ≤ 2147483647) {x3 : Int} (u3 : -2147483648 ≤ x3 ∧ x3 ≤ 2147483647) {x4 : Int} (u4 : -2147483648 ≤ x4 ∧ x4 ≤ 2147483647) {rO : Nat} (qO : sk sh rO = (4, 1)) {t : zSt} (hR : RS sh t) : zok (zcl zP 215 [zR r0, zI (oI x1), zI (oI x2), zI (oI x3), zI (oI x4), zR rO] (sh, t)) (qI (fun x t' => FrL sh MB t t' ∧ tg t' T 1 = tg t T 1) sh) := by
  rw [b215_0]
  refine zok_ck q0.1 (zok_w (s102 F q0 u1 u2 u3 u4 hR) (fun x t1 ux p => ?_) (fun E t1 hE hX => ?_))
  · rw [zput_s, b215_12]
    exact zok_ck ⟨by rw [qO], by rw [qO]; exact zin_o (by decide) (by decide) (by decide)⟩ (qI_rt (by decide) (by decide) ⟨FrL.ofM p.1.toM _ _ _, p.1.tp⟩)
  · simp only [List.mem_cons, List.not_mem_nil, or_false] at hE
    rcases hE with rfl | rfl | rfl
    · show zok (zev zP 215 17 [none, none, none, none, none, none, none] [zX 1000] (sh, tb t1)) _
      rw [b215_17]
      exact qI_rt (by decide) (by decide) ⟨FrL.ofB hX.toM, hX.tp⟩
    · show zok (zev zP 215 21 [none, none, none, none, none, none, none] [zX 1000] (sh, tb t1)) _
      rw [b215_21]
      exact qI_rt (by decide) (by decide) ⟨FrL.ofB hX.toM, hX.tp⟩
    · show zok (zev zP 215 25 [none, none, none, none, none, none, none] [zX 1000] (sh, tb t1)) _
      rw [b215_25]
      exact qI_rt (by decide) (by decide) ⟨FrL.ofB hX.toM, hX.tp⟩
theorem s216 {sh : zSh} {T MB : Nat} (F : zCl sh T MB) {r0 : Nat} (q0 : zLL sh T MB r0) {x1 : Int} (u1 : -2147483648 ≤ x1 ∧ x1 ≤ 2147483647) {x2 : Int} (u2 : -2147483648 ≤ x2 ∧ x2 ≤ 2147483647) {x3 : Int} (u3 : -2147483648 ≤ x3 ∧ x3 ≤ 2147483647) {rO : Nat} (qO : sk sh rO = (4, 1)) {t : zSt} (hR : RS sh t) : zok (zcl zP 216 [zR r0, zI (oI x1), zI (oI x2), zI (oI x3), zR rO] (sh, t)) (qI (fun x t' => FrL sh MB t t' ∧ tg t' T 1 = tg t T 1) sh) := by
  rw [b216_0]
  refine zok_ck q0.1 (zok_w (s103 F q0 u1 u2 u3 hR) (fun x t1 ux p => ?_) (fun E t1 hE hX => ?_))
  · rw [zput_s, b216_10]
    exact zok_ck ⟨by rw [qO], by rw [qO]; exact zin_o (by decide) (by decide) (by decide)⟩ (qI_rt (by decide) (by decide) ⟨FrL.ofM p.1.toM _ _ _, p.1.tp⟩)
  · simp only [List.mem_cons, List.not_mem_nil, or_false] at hE
    rcases hE with rfl | rfl | rfl
    · show zok (zev zP 216 15 [none, none, none, none, none, none] [zX 1000] (sh, tb t1)) _
      rw [b216_15]
      exact qI_rt (by decide) (by decide) ⟨FrL.ofB hX.toM, hX.tp⟩
    · show zok (zev zP 216 19 [none, none, none, none, none, none] [zX 1000] (sh, tb t1)) _
      rw [b216_19]
      exact qI_rt (by decide) (by decide) ⟨FrL.ofB hX.toM, hX.tp⟩
    · show zok (zev zP 216 23 [none, none, none, none, none, none] [zX 1000] (sh, tb t1)) _
      rw [b216_23]
      exact qI_rt (by decide) (by decide) ⟨FrL.ofB hX.toM, hX.tp⟩
theorem s217 {sh : zSh} {T MB : Nat} (F : zCl sh T MB) {r0 : Nat} (q0 : zLL sh T MB r0) {x1 : Int} (u1 : -2147483648 ≤ x1 ∧ x1 ≤ 2147483647) {x2 : Int} (u2 : -2147483648 ≤ x2 ∧ x2 ≤ 2147483647) {x3 : Int} (u3 : -2147483648 ≤ x3 ∧ x3 ≤ 2147483647) {rO : Nat} (qO : sk sh rO = (4, 1)) {t : zSt} (hR : RS sh t) : zok (zcl zP 217 [zR r0, zI (oI x1), zI (oI x2), zI (oI x3), zR rO] (sh, t)) (qI (fun x t' => FrL sh MB t t' ∧ tg t' T 1 = tg t T 1) sh) := by
  rw [b217_0]
  refine zok_ck q0.1 (zok_w (s104 F q0 u1 u2 u3 hR) (fun x t1 ux p => ?_) (fun E t1 hE hX => ?_))
  · rw [zput_s, b217_10]
    exact zok_ck ⟨by rw [qO], by rw [qO]; exact zin_o (by decide) (by decide) (by decide)⟩ (qI_rt (by decide) (by decide) ⟨FrL.ofM p.1.toM _ _ _, p.1.tp⟩)
  · simp only [List.mem_cons, List.not_mem_nil, or_false] at hE
    rcases hE with rfl | rfl | rfl
    · show zok (zev zP 217 15 [none, none, none, none, none, none] [zX 1000] (sh, tb t1)) _
      rw [b217_15]
      exact qI_rt (by decide) (by decide) ⟨FrL.ofB hX.toM, hX.tp⟩
    · show zok (zev zP 217 19 [none, none, none, none, none, none] [zX 1000] (sh, tb t1)) _
      rw [b217_19]
      exact qI_rt (by decide) (by decide) ⟨FrL.ofB hX.toM, hX.tp⟩
    · show zok (zev zP 217 23 [none, none, none, none, none, none] [zX 1000] (sh, tb t1)) _
      rw [b217_23]
      exact qI_rt (by decide) (by decide) ⟨FrL.ofB hX.toM, hX.tp⟩
theorem s218 {sh : zSh} {T MB : Nat} (F : zCl sh T MB) {r0 : Nat} (q0 : zLL sh T MB r0) {x1 : Int} (u1 : -2147483648 ≤ x1 ∧ x1 ≤ 2147483647) {x2 : Int} (u2 : -2147483648 ≤ x2 ∧ x2 ≤ 2147483647) {x3 : Int} (u3 : -2147483648 ≤ x3 ∧ x3 ≤ 2147483647) {rO : Nat} (qO : sk sh rO = (4, 1)) {t : zSt} (hR : RS sh t) : zok (zcl zP 218 [zR r0, zI (oI x1), zI (oI x2), zI (oI x3), zR rO] (sh, t)) (qI (fun x t' => FrL sh MB t t' ∧ tg t' T 1 = tg t T 1) sh) := by
  rw [b218_0]
  refine zok_ck q0.1 (zok_w (s105 F q0 u1 u2 u3 hR) (fun x t1 ux p => ?_) (fun E t1 hE hX => ?_))
  · rw [zput_s, b218_10]
    exact zok_if (fun _ => zok_ck ⟨by rw [qO], by rw [qO]; exact zin_o (by decide) (by decide) (by decide)⟩ (qI_rt (by decide) (by decide) ⟨FrL.ofM p.1.toM _ _ _, p.1.tp⟩)) (fun _ => zok_ck ⟨by rw [qO], by rw [qO]; exact zin_o (by decide) (by decide) (by decide)⟩ (qI_rt (by decide) (by decide) ⟨FrL.ofM p.1.toM _ _ _, p.1.tp⟩))
  · simp only [List.mem_cons, List.not_mem_nil, or_false] at hE
    rcases hE with rfl | rfl
    · show zok (zev zP 218 22 [none, none, none, none, none, none] [zX 1000] (sh, tb t1)) _
      rw [b218_22]
      exact qI_rt (by decide) (by decide) ⟨FrL.ofB hX.toM, hX.tp⟩
    · show zok (zev zP 218 26 [none, none, none, none, none, none] [zX 1000] (sh, tb t1)) _
      rw [b218_26]
      exact qI_rt (by decide) (by decide) ⟨FrL.ofB hX.toM, hX.tp⟩
theorem s219 {sh : zSh} {T MB : Nat} (F : zCl sh T MB) {r0 : Nat} (q0 : zLL sh T MB r0) {x1 : Int} (u1 : -2147483648 ≤ x1 ∧ x1 ≤ 2147483647) {rO : Nat} (qO : sk sh rO = (4, 1)) {t : zSt} (hR : RS sh t) : zok (zcl zP 219 [zR r0, zI (oI x1), zR rO] (sh, t)) (qI (fun x t' => FrL sh MB t t' ∧ tg t' T 1 = tg t T 1) sh) := by
  rw [b219_0]
  refine zok_ck q0.1 (zok_w (s106 F q0 u1 hR) (fun x t1 ux p => ?_) (fun E t1 hE hX => ?_))
  · rw [zput_s, b219_7]
    exact zok_ck ⟨by rw [qO], by rw [qO]; exact zin_o (by decide) (by decide) (by decide)⟩ (qI_rt (by decide) (by decide) ⟨FrL.ofM p.1.toM _ _ _, p.1.tp⟩)
  · simp only [List.mem_cons, List.not_mem_nil, or_false] at hE
    rcases hE with rfl
    · show zok (zev zP 219 12 [none, none, none, none] [zX 1000] (sh, tb t1)) _
      rw [b219_12]
      exact qI_rt (by decide) (by decide) ⟨FrL.ofB hX.toM, hX.tp⟩
theorem s220 {sh : zSh} {T MB : Nat} (F : zCl sh T MB) {r0 : Nat} (q0 : zLL sh T MB r0) {x1 : Int} (u1 : -2147483648 ≤ x1 ∧ x1 ≤ 2147483647) {x2 : Int} (u2 : -2147483648 ≤ x2 ∧ x2 ≤ 2147483647) {rO : Nat} (qO : sk sh rO = (4, 1)) {t : zSt} (hR : RS sh t) : zok (zcl zP 220 [zR r0, zI (oI x1), zI (oI x2), zR rO] (sh, t)) (qI (fun x t' => FrL sh MB t t' ∧ tg t' T 1 = tg t T 1) sh) := by
  rw [b220_0]
  refine zok_ck q0.1 (zok_w (s107 F q0 u1 u2 hR) (fun x t1 ux p => ?_) (fun E t1 hE hX => ?_))
  · rw [zput_s, b220_8]
    exact zok_ck ⟨by rw [qO], by rw [qO]; exact zin_o (by decide) (by decide) (by decide)⟩ (qI_rt (by decide) (by decide) ⟨FrL.ofM p.1.toM _ _ _, p.1.tp⟩)
  · simp only [List.mem_cons, List.not_mem_nil, or_false] at hE
    rcases hE with rfl | rfl
    · show zok (zev zP 220 13 [none, none, none, none, none] [zX 1000] (sh, tb t1)) _
      rw [b220_13]
      exact qI_rt (by decide) (by decide) ⟨FrL.ofB hX.toM, hX.tp⟩
    · show zok (zev zP 220 17 [none, none, none, none, none] [zX 1000] (sh, tb t1)) _
      rw [b220_17]
      exact qI_rt (by decide) (by decide) ⟨FrL.ofB hX.toM, hX.tp⟩
theorem s221 {sh : zSh} {T MB : Nat} (F : zCl sh T MB) {r0 : Nat} (q0 : zLL sh T MB r0) {x1 : Int} (u1 : -2147483648 ≤ x1 ∧ x1 ≤ 2147483647) {rO : Nat} (qO : sk sh rO = (4, 1)) {t : zSt} (hR : RS sh t) : zok (zcl zP 221 [zR r0, zI (oI x1), zR rO] (sh, t)) (qI (fun x t' => FrL sh MB t t' ∧ tg t' T 1 = 0) sh) := by
  rw [b221_0]
  refine zok_ck q0.1 (zok_w (s108 F q0 u1 hR) (fun x t1 ux p => ?_) (fun E t1 hE hX => ?_))
  · rw [zput_s, b221_7]
    exact zok_ck ⟨by rw [qO], by rw [qO]; exact zin_o (by decide) (by decide) (by decide)⟩ (qI_rt (by decide) (by decide) ⟨FrL.ofM p.1 _ _ _, p.2⟩)
  · simp only [List.mem_cons, List.not_mem_nil, or_false] at hE
    rcases hE with rfl | rfl
    · show zok (zev zP 221 12 [none, none, none, none] [zX 1000] (sh, tb t1)) _
      rw [b221_12]
      exact qI_rt (by decide) (by decide) ⟨FrL.ofB hX.1, hX.2⟩
    · show zok (zev zP 221 15 [none, none, none, none] [zX 1000] (sh, tb t1)) _
      rw [b221_15]
      exact qI_rt (by decide) (by decide) ⟨FrL.ofB hX.1, hX.2⟩
theorem s222 {sh : zSh} {T MB : Nat} (F : zCl sh T MB) {r0 : Nat} (q0 : zLL sh T MB r0) {x1 : Int} (u1 : -2147483648 ≤ x1 ∧ x1 ≤ 2147483647) {rO : Nat} (qO : sk sh rO = (4, 1)) {t : zSt} (hR : RS sh t) : zok (zcl zP 222 [zR r0, zI (oI x1), zR rO] (sh, t)) (qI (fun x t' => FrL sh MB t t' ∧ tg t' T 1 = tg t T 1) sh) := by
  rw [b222_0]
  refine zok_ck q0.1 (zok_w (s109 F q0 u1 hR) (fun x t1 ux p => ?_) (fun E t1 hE hX => ?_))
  · rw [zput_s, b222_7]
    exact zok_ck ⟨by rw [qO], by rw [qO]; exact zin_o (by decide) (by decide) (by decide)⟩ (qI_rt (by decide) (by decide) ⟨FrL.ofM p.1.toM _ _ _, p.1.tp⟩)
  · simp only [List.mem_cons, List.not_mem_nil, or_false] at hE
    rcases hE with rfl
    · show zok (zev zP 222 12 [none, none, none, none] [zX 1000] (sh, tb t1)) _
      rw [b222_12]
      exact qI_rt (by decide) (by decide) ⟨FrL.ofB hX.toM, hX.tp⟩
theorem s223 {sh : zSh} {T MB : Nat} (F : zCl sh T MB) {r0 : Nat} (q0 : zLL sh T MB r0) {x1 : Int} (u1 : -2147483648 ≤ x1 ∧ x1 ≤ 2147483647) {rO : Nat} (qO : sk sh rO = (4, 1)) {t : zSt} (hR : RS sh t) : zok (zcl zP 223 [zR r0, zI (oI x1), zR rO] (sh, t)) (qI (fun x t' => FrL sh MB t t' ∧ tg t' T 1 = tg t T 1) sh) := by
  rw [b223_0]
  refine zok_ck q0.1 (zok_w (s110 F q0 u1 hR) (fun x t1 ux p => ?_) (fun E t1 hE hX => ?_))
  · rw [zput_s, b223_7]
    exact zok_ck ⟨by rw [qO], by rw [qO]; exact zin_o (by decide) (by decide) (by decide)⟩ (qI_rt (by decide) (by decide) ⟨FrL.ofM p.1.toM _ _ _, p.1.tp⟩)
  · simp only [List.mem_cons, List.not_mem_nil, or_false] at hE
    rcases hE with rfl
    · show zok (zev zP 223 12 [none, none, none, none] [zX 1000] (sh, tb t1)) _
      rw [b223_12]
      exact qI_rt (by decide) (by decide) ⟨FrL.ofB hX.toM, hX.tp⟩
theorem s224 {sh : zSh} {T MB : Nat} (F : zCl sh T MB) {r0 : Nat} (q0 : zLL sh T MB r0) {x1 : Int} (u1 : -2147483648 ≤ x1 ∧ x1 ≤ 2147483647) {x2 : Int} (u2 : -2147483648 ≤ x2 ∧ x2 ≤ 2147483647) {x3 : Int} (u3 : -2147483648 ≤ x3 ∧ x3 ≤ 2147483647) {rO : Nat} (qO : sk sh rO = (4, 1)) {t : zSt} (hR : RS sh t) : zok (zcl zP 224 [zR r0, zI (oI x1), zI (oI x2), zI (oI x3), zR rO] (sh, t)) (qI (fun x t' => FrL sh MB t t' ∧ tg t' T 1 = tg t T 1) sh) := by
  rw [b224_0]
  refine zok_ck q0.1 (zok_w (s111 F q0 u1 u2 u3 hR) (fun x t1 ux p => ?_) (fun E t1 hE hX => ?_))
  · rw [zput_s, b224_10]
    exact zok_ck ⟨by rw [qO], by rw [qO]; exact zin_o (by decide) (by decide) (by decide)⟩ (qI_rt (by decide) (by decide) ⟨FrL.ofM p.1.toM _ _ _, p.1.tp⟩)
  · simp only [List.mem_cons, List.not_mem_nil, or_false] at hE
    rcases hE with rfl | rfl
    · show zok (zev zP 224 15 [none, none, none, none, none, none] [zX 1000] (sh, tb t1)) _
      rw [b224_15]
      exact qI_rt (by decide) (by decide) ⟨FrL.ofB hX.toM, hX.tp⟩
    · show zok (zev zP 224 19 [none, none, none, none, none, none] [zX 1000] (sh, tb t1)) _
      rw [b224_19]
      exact qI_rt (by decide) (by decide) ⟨FrL.ofB hX.toM, hX.tp⟩
theorem s208 {sh : zSh} {T MB : Nat} (F : zCl sh T MB) {r0 : Nat} (q0 : zLL sh T MB r0) {l1 : Int64} {x3 : Int} (u3 : -2147483648 ≤ x3 ∧ x3 ≤ 2147483647) {rO : Nat} (qO : sk sh rO = (4, 1)) {t : zSt} (hR : RS sh t) (hc : 400 ≤ ((sk sh (sr sh T 0)).2 : Int)) (h4 : tg t T 1 ≤ 400) : zok (zcl zP 208 [zR r0, zL l1, zI (oI x3), zR rO] (sh, t)) (qI (fun x t' => FrL sh MB t t' ∧ ((¬ (1 ≤ x3 ∧ x3 ≤ 8) ∧ x = 1 ∧ tg t' T 1 = tg t T 1) ∨ (1 ≤ x3 ∧ x3 ≤ 8 ∧ 400 < tg t T 1 + x3 ∧ x = 2 ∧ tg t' T 1 = tg t T 1) ∨ (1 ≤ x3 ∧ x3 ≤ 8 ∧ tg t T 1 + x3 ≤ 400 ∧ x = 0 ∧ tg t' T 1 = tg t T 1 + x3 ∧ tl t' rO 0 = Int32.toInt64 (oI (tg t T 1 + x3))))) sh) := by
  rw [b208_0]
  refine zok_ck q0.1 (zok_cx (s94 F q0 u3 hR hc h4) (fun v h' hv => ?_) (fun E h' hE => ?_))
  · rcases hv with ⟨_, hv, _⟩ | ⟨_, hv, _⟩ | ⟨hx, t1, hv, rfl, hF, ht⟩
    · cases hv
    · cases hv
    · cases hv
      rw [zput_s, b208_9]
      refine zok_ck ⟨by rw [qO], by rw [qO]; exact zin_o (by decide) (by decide) (by decide)⟩ (qI_rt (x := 0) (by decide) (by decide) ⟨FrL.ofM hF _ _ _, Or.inr (Or.inr ⟨hx.1, hx.2.1, hx.2.2, rfl, ht, tl_J _ _ _ _⟩)⟩)
  · rcases hE with ⟨hx, hv, rfl⟩ | ⟨hx, hv, rfl⟩ | ⟨_, t1, hv, _⟩
    · cases hv
      show zok (zev zP 208 14 [none, none, none, none, none, none] [zX 1000] (sh, tb t)) _
      rw [b208_14]
      exact qI_rt (x := 1) (by decide) (by decide) ⟨FrL.ofB (FrM.refl hR), Or.inl ⟨by omega, rfl, rfl⟩⟩
    · cases hv
      show zok (zev zP 208 18 [none, none, none, none, none, none] [zX 1000] (sh, tb t)) _
      rw [b208_18]
      exact qI_rt (x := 2) (by decide) (by decide) ⟨FrL.ofB (FrM.refl hR), Or.inr (Or.inl ⟨hx.1, hx.2.1, hx.2.2, rfl, rfl⟩)⟩
    · cases hv
