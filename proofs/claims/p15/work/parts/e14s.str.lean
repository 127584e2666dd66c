set_option maxRecDepth 16384
section ZSTR
/-! the texts' own methods, walked by hand -/
def zPj (E : zEnv) (ea : Nat → Nat) (As : Array Value) : Array Value → State → Prop := fun v U => v = As ∧ zG E ea U U.heap
theorem zPj_blind {E : zEnv} {ea : Nat → Nat} {As : Array Value} : FrameBlind (zPj E ea As) := by
  intro a U g mk ⟨h1, h2⟩
  exact ⟨h1, zG.move h2 (State.WarmedH.refl U) (Nat.le_refl _) (fun _ _ _ => rfl)⟩
theorem zgi2 {w : Cond} (h : w ∈ zgw) : GoodIn zgw (w :: zgw) := by
  intro v hv
  have hv2 : v ∈ zgw := (List.mem_cons.mp hv).elim (fun q => q ▸ h) id
  exact ⟨hv2, good_of_word (List.mem_filter.mp hv2).2⟩
def zrr (f n : Nat) : Room := { frames := f, cells := 0, slots := 0, locals := n }
theorem zj_w : Cond.code yJ0_coder_7d493 cJ0_coder_7d493 1 (some .byte) ∈ zgw ∧ Cond.code yJ0_isLatin1_aae02 cJ0_isLatin1_aae02 1 (some .boolean) ∈ zgw ∧ Cond.code yJ0_length_8abf5 cJ0_length_8abf5 1 (some .int) ∈ zgw ∧ Cond.code yJ0_charAt_5068e cJ0_charAt_5068e 2 (some .char) ∈ zgw ∧ Cond.code yJ0_checkIndex_df160 cJ0_checkIndex_df160 2 none ∈ zgw ∧ Cond.code yJ1_charAt_3b067 cJ1_charAt_3b067 2 (some .char) ∈ zgw ∧ Cond.code yJ3_checkIndex_8e157 cJ3_checkIndex_8e157 3 (some .int) ∈ zgw := by decide +kernel
theorem zj_l : Cond.methodLink RJ0 335 yJ0_coder_7d493 ∈ zgw ∧ Cond.methodLink RJ0 492 yJ0_isLatin1_aae02 ∈ zgw ∧ Cond.methodLink RJ0 495 yJ1_charAt_3b067 ∈ zgw ∧ Cond.methodLink RJ1 9 yJ0_checkIndex_df160 ∈ zgw ∧ Cond.methodLink RJ0 1059 yJ3_checkIndex_8e157 ∈ zgw := by decide +kernel
theorem zj_f : Cond.fieldLink RJ0 9 RJ0 "value" "[B" ∈ zgw ∧ Cond.fieldLink RJ0 15 RJ0 "coder" "B" ∈ zgw ∧ Cond.fieldLink RJ0 38 RJ0 "COMPACT_STRINGS" "Z" ∈ zgw ∧ Cond.fieldLink RJ0 1053 RJ3 "SIOOBE_FORMATTER" "Ljava/util/function/BiFunction;" ∈ zgw := by decide +kernel
theorem zj_i : Cond.instanceMethod yJ0_coder_7d493 ∈ zgw ∧ Cond.instanceMethod yJ0_isLatin1_aae02 ∈ zgw ∧ Cond.instanceMethod yJ0_length_8abf5 ∈ zgw ∧ Cond.instanceMethod yJ0_charAt_5068e ∈ zgw := by decide +kernel
theorem zj_s : Cond.selects RJ0 yJ0_coder_7d493 yJ0_coder_7d493 ∈ zgw ∧ Cond.selects RJ0 yJ0_isLatin1_aae02 yJ0_isLatin1_aae02 ∈ zgw ∧ Cond.selects RJ0 yJ0_length_8abf5 yJ0_length_8abf5 ∈ zgw ∧ Cond.selects RJ0 yJ0_charAt_5068e yJ0_charAt_5068e ∈ zgw := by decide +kernel
theorem zj_t : Cond.static yJ1_charAt_3b067 ∈ zgw ∧ Cond.static yJ0_checkIndex_df160 ∈ zgw ∧ Cond.static yJ3_checkIndex_8e157 ∈ zgw := by decide +kernel
theorem zj_n : Cond.initialized RJ0 ∈ zgw ∧ Cond.initialized RJ1 ∈ zgw ∧ Cond.initialized RJ3 ∈ zgw := by decide +kernel
theorem zj_p : plainName RJ0 = true ∧ plainName RJ1 = true ∧ plainName RJ3 = true := by decide +kernel
theorem zj_d1 : decode cJ0_coder_7d493 0 = .ok (.getstatic 38, 3) ∧ decode cJ0_coder_7d493 3 = .ok (.ifCond .eq 10, 3) ∧ decode cJ0_coder_7d493 6 = .ok (.aload_n 0, 1) ∧ decode cJ0_coder_7d493 7 = .ok (.getfield 15, 3) ∧ decode cJ0_coder_7d493 10 = .ok (.goto 4, 3) ∧ decode cJ0_coder_7d493 14 = .ok (.ireturn, 1) := by decide +kernel
theorem zj_d2 : decode cJ0_isLatin1_aae02 0 = .ok (.getstatic 38, 3) ∧ decode cJ0_isLatin1_aae02 3 = .ok (.ifCond .eq 14, 3) ∧ decode cJ0_isLatin1_aae02 6 = .ok (.aload_n 0, 1) ∧ decode cJ0_isLatin1_aae02 7 = .ok (.getfield 15, 3) ∧ decode cJ0_isLatin1_aae02 10 = .ok (.ifCond .ne 7, 3) ∧ decode cJ0_isLatin1_aae02 13 = .ok (.iconst 1, 1) ∧ decode cJ0_isLatin1_aae02 14 = .ok (.goto 4, 3) ∧ decode cJ0_isLatin1_aae02 18 = .ok (.ireturn, 1) := by decide +kernel
theorem zj_d3 : decode cJ0_length_8abf5 0 = .ok (.aload_n 0, 1) ∧ decode cJ0_length_8abf5 1 = .ok (.getfield 9, 3) ∧ decode cJ0_length_8abf5 4 = .ok (.arraylength, 1) ∧ decode cJ0_length_8abf5 5 = .ok (.aload_n 0, 1) ∧ decode cJ0_length_8abf5 6 = .ok (.invokevirtual 335, 3) ∧ decode cJ0_length_8abf5 9 = .ok (.ishr, 1) ∧ decode cJ0_length_8abf5 10 = .ok (.ireturn, 1) := by decide +kernel
theorem zj_d4 : decode cJ3_checkIndex_8e157 0 = .ok (.iload_n 0, 1) ∧ decode cJ3_checkIndex_8e157 1 = .ok (.ifCond .lt 8, 3) ∧ decode cJ3_checkIndex_8e157 4 = .ok (.iload_n 0, 1) ∧ decode cJ3_checkIndex_8e157 5 = .ok (.iload_n 1, 1) ∧ decode cJ3_checkIndex_8e157 6 = .ok (.if_icmp .lt 10, 3) ∧ decode cJ3_checkIndex_8e157 16 = .ok (.iload_n 0, 1) ∧ decode cJ3_checkIndex_8e157 17 = .ok (.ireturn, 1) := by decide +kernel
theorem zj_d5 : decode cJ0_checkIndex_df160 0 = .ok (.iload_n 0, 1) ∧ decode cJ0_checkIndex_df160 1 = .ok (.iload_n 1, 1) ∧ decode cJ0_checkIndex_df160 2 = .ok (.getstatic 1053, 3) ∧ decode cJ0_checkIndex_df160 5 = .ok (.invokestatic 1059, 3) ∧ decode cJ0_checkIndex_df160 8 = .ok (.pop, 1) ∧ decode cJ0_checkIndex_df160 9 = .ok (.return_, 1) := by decide +kernel
theorem zj_d6 : decode cJ1_charAt_3b067 0 = .ok (.iload_n 1, 1) ∧ decode cJ1_charAt_3b067 1 = .ok (.aload_n 0, 1) ∧ decode cJ1_charAt_3b067 2 = .ok (.arraylength, 1) ∧ decode cJ1_charAt_3b067 3 = .ok (.invokestatic 9, 3) ∧ decode cJ1_charAt_3b067 6 = .ok (.aload_n 0, 1) ∧ decode cJ1_charAt_3b067 7 = .ok (.iload_n 1, 1) ∧ decode cJ1_charAt_3b067 8 = .ok (.baload, 1) ∧ decode cJ1_charAt_3b067 9 = .ok (.sipush 255, 3) ∧ decode cJ1_charAt_3b067 12 = .ok (.iand, 1) ∧ decode cJ1_charAt_3b067 13 = .ok (.i2c, 1) ∧ decode cJ1_charAt_3b067 14 = .ok (.ireturn, 1) := by decide +kernel
theorem zj_d7 : decode cJ0_charAt_5068e 0 = .ok (.aload_n 0, 1) ∧ decode cJ0_charAt_5068e 1 = .ok (.invokevirtual 492, 3) ∧ decode cJ0_charAt_5068e 4 = .ok (.ifCond .eq 12, 3) ∧ decode cJ0_charAt_5068e 7 = .ok (.aload_n 0, 1) ∧ decode cJ0_charAt_5068e 8 = .ok (.getfield 9, 3) ∧ decode cJ0_charAt_5068e 11 = .ok (.iload_n 1, 1) ∧ decode cJ0_charAt_5068e 12 = .ok (.invokestatic 495, 3) ∧ decode cJ0_charAt_5068e 15 = .ok (.ireturn, 1) := by decide +kernel
/-- what the texts hold -/
theorem zj_len : ∀ x, x < 11 → Int32.ofNat (z7len.getD x 0) >>> ((0 : Int32) &&& 31) = Int32.ofNat (ztx.getD x []).length ∧ z7len.getD x 0 = (ztx.getD x []).length ∧ z7len.getD x 0 < 6 := by decide +kernel
theorem zj_at : ∀ x, x < 11 → ∀ k, k < 6 → k < z7len.getD x 0 → (¬ Int32.ofInt (k : Nat) < 0 ∧ Int32.ofInt (k : Nat) < Int32.ofNat (z7len.getD x 0)) ∧ (((((zbt.getD x []).getD k 0) &&& 255).toUInt32) % 65536).toInt32 = Int32.ofNat ((ztx.getD x []).getD k 0) ∧ narrow .char (.int (Int32.ofNat ((ztx.getD x []).getD k 0))) = .int (Int32.ofNat ((ztx.getD x []).getD k 0)) := by decide +kernel
variable {l : Launch} {E : zEnv} {ea : Nat → Nat} {x : Nat}
theorem zj_coder (hx : x < 11) : Met l yJ0_coder_7d493 (Cond.code yJ0_coder_7d493 cJ0_coder_7d493 1 (some .byte) :: zgw) (zrr 0 0) (zPj E ea #[Value.ref (ea (x + 1))]) (vp_Si (fun r => r = 0)) 0 0 (fun _ => False) := by
  refine Met.ofW zj_p.1 rfl ?_
  intro p e s m args below meth c s₁ B hml hpc
  obtain ⟨rfl, hG⟩ := hpc
  have hts : ∀ w ∈ zgw, w.before #[Value.ref (ea (x + 1))] s = true := fun w hw => atoms_spec (ws := Cond.code yJ0_coder_7d493 cJ0_coder_7d493 1 (some .byte) :: zgw) B.pre w (List.mem_cons_of_mem _ hw)
  have hx0 := B.exec
  have hb := B.bytes
  have hown := findClass_of_methodNamed B.named
  have hl := lv_entry [Value.ref (ea (x + 1))] (n := 1) (Nat.le_of_ble_eq_true rfl)
  rw [show #[Value.ref (ea (x + 1))] = List.toArray [Value.ref (ea (x + 1))] from rfl, lg_entry_eq]
  generalize (lg_sl [Value.ref (ea (x + 1))] ++ List.replicate (1 - (lg_sl [Value.ref (ea (x + 1))]).length) Slot.unset).toArray = ls at hl ⊢
  have l0 : ls[0]? = some (.val (Value.ref (ea (x + 1)))) := hl.2.2 (0, Value.ref (ea (x + 1))) (by simp [lv_args, Value.category])
  refine va_gets hx0 hb (A := zeA E) hG.2.2.2.2.2.2.1.1 va_S.rf hown (hts _ zj_f.2.2.1) (fun _ h => h) zj_d1.1 ?_
  refine lv_if_eq hx0 hb zj_d1.2.1 (tgt := 13) rfl (fun h => absurd h (by decide)) (fun _ => ?_)
  refine lv_aload_n hx0 hb zj_d1.2.2.1 rfl l0 ?_
  refine vk_getf hx0 hb (hG.2.2.2.2.2.1.2.1 x hx).2.1 va_S.rf hown (hts _ zj_f.2.1) (fun _ h => h) zj_d1.2.2.2.1 ?_
  refine lv_goto hx0 hb zj_d1.2.2.2.2.1 (tgt := 14) rfl ?_
  exact W.zret hx0 hb B.returns (by decide +kernel) (fun t ht _ => ⟨0, rfl, rfl, ht⟩) (fun q hq => by cases hq) zj_d1.2.2.2.2.2
theorem zj_lat (hx : x < 11) : Met l yJ0_isLatin1_aae02 (Cond.code yJ0_isLatin1_aae02 cJ0_isLatin1_aae02 1 (some .boolean) :: zgw) (zrr 0 0) (zPj E ea #[Value.ref (ea (x + 1))]) (vp_Si (fun r => r = 1)) 0 0 (fun _ => False) := by
  refine Met.ofW zj_p.1 rfl ?_
  intro p e s m args below meth c s₁ B hml hpc
  obtain ⟨rfl, hG⟩ := hpc
  have hts : ∀ w ∈ zgw, w.before #[Value.ref (ea (x + 1))] s = true := fun w hw => atoms_spec (ws := Cond.code yJ0_isLatin1_aae02 cJ0_isLatin1_aae02 1 (some .boolean) :: zgw) B.pre w (List.mem_cons_of_mem _ hw)
  have hx0 := B.exec
  have hb := B.bytes
  have hown := findClass_of_methodNamed B.named
  have hl := lv_entry [Value.ref (ea (x + 1))] (n := 1) (Nat.le_of_ble_eq_true rfl)
  rw [show #[Value.ref (ea (x + 1))] = List.toArray [Value.ref (ea (x + 1))] from rfl, lg_entry_eq]
  generalize (lg_sl [Value.ref (ea (x + 1))] ++ List.replicate (1 - (lg_sl [Value.ref (ea (x + 1))]).length) Slot.unset).toArray = ls at hl ⊢
  have l0 : ls[0]? = some (.val (Value.ref (ea (x + 1)))) := hl.2.2 (0, Value.ref (ea (x + 1))) (by simp [lv_args, Value.category])
  refine va_gets hx0 hb (A := zeA E) hG.2.2.2.2.2.2.1.1 va_S.rf hown (hts _ zj_f.2.2.1) (fun _ h => h) zj_d2.1 ?_
  refine lv_if_eq hx0 hb zj_d2.2.1 (tgt := 17) rfl (fun h => absurd h (by decide)) (fun _ => ?_)
  refine lv_aload_n hx0 hb zj_d2.2.2.1 rfl l0 ?_
  refine vk_getf hx0 hb (hG.2.2.2.2.2.1.2.1 x hx).2.1 va_S.rf hown (hts _ zj_f.2.1) (fun _ h => h) zj_d2.2.2.2.1 ?_
  refine lv_if_ne hx0 hb zj_d2.2.2.2.2.1 (tgt := 17) rfl (fun h => absurd rfl h) (fun _ => ?_)
  refine lv_iconst hx0 hb (v := 1) zj_d2.2.2.2.2.2.1 rfl ?_
  refine lv_goto hx0 hb zj_d2.2.2.2.2.2.2.1 (tgt := 18) rfl ?_
  exact W.zret hx0 hb B.returns (by decide +kernel) (fun t ht _ => ⟨1, rfl, rfl, ht⟩) (fun q hq => by cases hq) zj_d2.2.2.2.2.2.2.2
theorem zj_length (hx : x < 11) : Met l yJ0_length_8abf5 (Cond.code yJ0_length_8abf5 cJ0_length_8abf5 1 (some .int) :: zgw) (zrr 1 20) (zPj E ea #[Value.ref (ea (x + 1))]) (vp_Si (fun r => r = Int32.ofNat (ztx.getD x []).length)) 0 0 (fun _ => False) := by
  refine Met.ofW zj_p.1 rfl ?_
  intro p e s m args below meth c s₁ B hml hpc
  obtain ⟨rfl, hG⟩ := hpc
  have hts : ∀ w ∈ zgw, w.before #[Value.ref (ea (x + 1))] s = true := fun w hw => atoms_spec (ws := Cond.code yJ0_length_8abf5 cJ0_length_8abf5 1 (some .int) :: zgw) B.pre w (List.mem_cons_of_mem _ hw)
  have hx0 := B.exec
  have hb := B.bytes
  have hown := findClass_of_methodNamed B.named
  have hl := lv_entry [Value.ref (ea (x + 1))] (n := 1) (Nat.le_of_ble_eq_true rfl)
  rw [show #[Value.ref (ea (x + 1))] = List.toArray [Value.ref (ea (x + 1))] from rfl, lg_entry_eq]
  generalize (lg_sl [Value.ref (ea (x + 1))] ++ List.replicate (1 - (lg_sl [Value.ref (ea (x + 1))]).length) Slot.unset).toArray = ls at hl ⊢
  have l0 : ls[0]? = some (.val (Value.ref (ea (x + 1)))) := hl.2.2 (0, Value.ref (ea (x + 1))) (by simp [lv_args, Value.category])
  refine lv_aload_n hx0 hb zj_d3.1 rfl l0 ?_
  refine vk_getf hx0 hb (hG.2.2.2.2.2.1.2.1 x hx).2.2.1 va_S.rf hown (hts _ zj_f.1) (fun _ h => h) zj_d3.2.1 ?_
  refine va_tlen hx0 hb (hG.2.2.2.2.2.1.2.1 x hx).2.2.2 va_S.rf rfl zj_d3.2.2.1 ?_
  refine lv_aload_n hx0 hb zj_d3.2.2.2.1 rfl l0 ?_
  refine vp_callSi (W.runV (As := []) (rest := [Value.int (Int32.ofNat (z7len.getD x 0))]) (⟨hx0, hb, hml, hown, hts⟩ : CallFix p m c _ 1 s _ zgw RJ0) (zj_coder hx) ⟨callB_of 0 hts (zgi2 zj_w.1) rfl rfl rfl (hts _ zj_n.1) (hts _ zj_l.1) ⟨by decide, by decide, by decide +kernel⟩ ⟨by decide, by decide⟩, hts _ zj_i.1, hts _ zj_s.1⟩ ⟨zPj_blind, vk_recv hG.2.2.2.2.2.1.2 hx va_S.rf, (fun U hU hW => ⟨rfl, by rw [hU]; exact zG.move hG hW (Nat.le_refl _) (fun _ _ _ => rfl)⟩)⟩ rfl rfl hl.1 rfl (by simp [Value.category, F0]) zj_d3.2.2.2.2.1 ⟨Nat.zero_le _, Nat.zero_le _⟩) (fun r hr => ?_)
  subst hr
  refine lv_ishr hx0 hb zj_d3.2.2.2.2.2.1 ?_
  exact W.zret hx0 hb B.returns rfl (fun t ht _ => ⟨_, rfl, (zj_len x hx).1, ht⟩) (fun q hq => by cases hq) zj_d3.2.2.2.2.2.2
theorem zj_pre {i n : Int32} {z : Value} (hz : z.category = 1) (h0 : ¬ i < 0) (hn : i < n) : Met l yJ3_checkIndex_8e157 (Cond.code yJ3_checkIndex_8e157 cJ3_checkIndex_8e157 3 (some .int) :: zgw) (zrr 0 0) (zPj E ea #[Value.int i, Value.int n, z]) (vp_Si (fun r => r = i)) 0 0 (fun _ => False) := by
  refine Met.ofW zj_p.2.2 rfl ?_
  intro p e s m args below meth c s₁ B hml hpc
  obtain ⟨rfl, hG⟩ := hpc
  have hx0 := B.exec
  have hb := B.bytes
  have hlen : (lg_sl [Value.int i, Value.int n, z]).length ≤ 3 := by cases z <;> first | (cases hz; done) | (simp [lg_sl, Value.category]; done)
  have hl := lv_entry [Value.int i, Value.int n, z] (n := 3) hlen
  rw [show #[Value.int i, Value.int n, z] = List.toArray [Value.int i, Value.int n, z] from rfl, lg_entry_eq]
  generalize (lg_sl [Value.int i, Value.int n, z] ++ List.replicate (3 - (lg_sl [Value.int i, Value.int n, z]).length) Slot.unset).toArray = ls at hl ⊢
  have l0 : ls[0]? = some (.val (Value.int i)) := hl.2.2 (0, Value.int i) (by simp [lv_args, Value.category])
  have l1 : ls[1]? = some (.val (Value.int n)) := hl.2.2 (1, Value.int n) (by simp [lv_args, Value.category])
  refine lv_iload_n hx0 hb zj_d4.1 rfl l0 ?_
  refine lv_if_lt hx0 hb zj_d4.2.1 (tgt := 9) rfl (fun h => absurd h h0) (fun _ => ?_)
  refine lv_iload_n hx0 hb zj_d4.2.2.1 rfl l0 ?_
  refine lv_iload_n hx0 hb zj_d4.2.2.2.1 rfl l1 ?_
  refine lv_icmp_lt hx0 hb zj_d4.2.2.2.2.1 (tgt := 16) rfl (fun _ => ?_) (fun h => absurd hn h)
  refine lv_iload_n hx0 hb zj_d4.2.2.2.2.2.1 rfl l0 ?_
  exact W.zret hx0 hb B.returns rfl (fun t ht _ => ⟨_, rfl, rfl, ht⟩) (fun q hq => by cases hq) zj_d4.2.2.2.2.2.2
theorem zj_chk {i n : Int32} (h0 : ¬ i < 0) (hn : i < n) : Met l yJ0_checkIndex_df160 (Cond.code yJ0_checkIndex_df160 cJ0_checkIndex_df160 2 none :: zgw) (zrr 1 22) (zPj E ea #[Value.int i, Value.int n]) (va_Sv (fun _ => True)) 0 0 (fun _ => False) := by
  refine Met.ofW zj_p.1 rfl ?_
  intro p e s m args below meth c s₁ B hml hpc
  obtain ⟨rfl, hG⟩ := hpc
  have hts : ∀ w ∈ zgw, w.before #[Value.int i, Value.int n] s = true := fun w hw => atoms_spec (ws := Cond.code yJ0_checkIndex_df160 cJ0_checkIndex_df160 2 none :: zgw) B.pre w (List.mem_cons_of_mem _ hw)
  have hx0 := B.exec
  have hb := B.bytes
  have hown := findClass_of_methodNamed B.named
  have hl := lv_entry [Value.int i, Value.int n] (n := 2) (Nat.le_of_ble_eq_true rfl)
  rw [show #[Value.int i, Value.int n] = List.toArray [Value.int i, Value.int n] from rfl, lg_entry_eq]
  generalize (lg_sl [Value.int i, Value.int n] ++ List.replicate (2 - (lg_sl [Value.int i, Value.int n]).length) Slot.unset).toArray = ls at hl ⊢
  have l0 : ls[0]? = some (.val (Value.int i)) := hl.2.2 (0, Value.int i) (by simp [lv_args, Value.category])
  have l1 : ls[1]? = some (.val (Value.int n)) := hl.2.2 (1, Value.int n) (by simp [lv_args, Value.category])
  have key : ∀ z : Value, z.category = 1 → va_Z "jdk/internal/util/Preconditions" "SIOOBE_FORMATTER" "Ljava/util/function/BiFunction;" z (zeA E) s s.heap → W p l e (headSpec (Cond.code yJ0_checkIndex_df160 cJ0_checkIndex_df160 2 none :: zgw) (zrr 1 22)).room s m (List.toArray [Value.int i, Value.int n]) below meth c s.heap [] 0 0 (MQ below (va_Sv (fun _ => True)) (List.toArray [Value.int i, Value.int n]) s 0 0 (fun _ => False)) (F0 m 0 ls []) := by
    intro z hz hZ
    refine lv_iload_n hx0 hb zj_d5.1 rfl l0 ?_
    refine lv_iload_n hx0 hb zj_d5.2.1 rfl l1 ?_
    refine va_gets hx0 hb (A := zeA E) hZ va_S.rf hown (hts _ zj_f.2.2.2) (fun _ h => h) zj_d5.2.2.1 ?_
    refine vp_callSi (W.runS (As := [Value.int i, Value.int n, z]) (rest := []) (⟨hx0, hb, hml, hown, hts⟩ : CallFix p m c _ 2 s _ zgw RJ0) (zj_pre hz h0 hn) ⟨callB_of 3 hts (zgi2 zj_w.2.2.2.2.2.2) rfl rfl rfl (hts _ zj_n.2.2) (hts _ zj_l.2.2.2.2) ⟨by decide, by decide, by decide +kernel⟩ ⟨by decide, by decide⟩, hts _ zj_t.2.2⟩ ⟨zPj_blind, (fun U hU hW => ⟨rfl, by rw [hU]; exact zG.move hG hW (Nat.le_refl _) (fun _ _ _ => rfl)⟩)⟩ rfl rfl hl.1 rfl (by simp [F0]) zj_d5.2.2.2.1 ⟨Nat.zero_le _, Nat.zero_le _⟩) (fun r hr => ?_)
    refine lv_pop hx0 hb zj_d5.2.2.2.2.1 rfl ?_
    exact W.vret hx0 hb B.returns (fun t ht _ => ⟨rfl, trivial, ht⟩) (fun q hq => by cases hq) zj_d5.2.2.2.2.2
  rcases hG.2.2.2.2.2.2.1.2 with hZ | ⟨t, hZ⟩
  · exact key _ rfl hZ
  · exact key _ rfl hZ
theorem zj_la (hx : x < 11) {j : Int32} {k : Nat} (hj : j = Int32.ofInt (k : Nat)) (hk : k < z7len.getD x 0) (hc : j.toNatClampNeg = k) : Met l yJ1_charAt_3b067 (Cond.code yJ1_charAt_3b067 cJ1_charAt_3b067 2 (some .char) :: zgw) (zrr 2 43) (zPj E ea #[Value.ref (zeV E x), Value.int j]) (vp_Si (fun r => r = Int32.ofNat ((ztx.getD x []).getD k 0))) 0 0 (fun _ => False) := by
  refine Met.ofW zj_p.2.1 rfl ?_
  intro p e s m args below meth c s₁ B hml hpc
  obtain ⟨rfl, hG⟩ := hpc
  have hts : ∀ w ∈ zgw, w.before #[Value.ref (zeV E x), Value.int j] s = true := fun w hw => atoms_spec (ws := Cond.code yJ1_charAt_3b067 cJ1_charAt_3b067 2 (some .char) :: zgw) B.pre w (List.mem_cons_of_mem _ hw)
  have hx0 := B.exec
  have hb := B.bytes
  have hown := findClass_of_methodNamed B.named
  have hl := lv_entry [Value.ref (zeV E x), Value.int j] (n := 2) (Nat.le_of_ble_eq_true rfl)
  rw [show #[Value.ref (zeV E x), Value.int j] = List.toArray [Value.ref (zeV E x), Value.int j] from rfl, lg_entry_eq]
  generalize (lg_sl [Value.ref (zeV E x), Value.int j] ++ List.replicate (2 - (lg_sl [Value.ref (zeV E x), Value.int j]).length) Slot.unset).toArray = ls at hl ⊢
  have l0 : ls[0]? = some (.val (Value.ref (zeV E x))) := hl.2.2 (0, Value.ref (zeV E x)) (by simp [lv_args, Value.category])
  have l1 : ls[1]? = some (.val (Value.int j)) := hl.2.2 (1, Value.int j) (by simp [lv_args, Value.category])
  obtain ⟨⟨c1, c2⟩, c3, c4⟩ := zj_at x hx k (by have := (zj_len x hx).2.2; omega) hk
  have hT := (hG.2.2.2.2.2.1.2.1 x hx).2.2.2
  have hjj : ¬ j < 0 ∧ j < Int32.ofNat (z7len.getD x 0) := by rw [hj]; exact ⟨c1, c2⟩
  refine lv_iload_n hx0 hb zj_d6.1 rfl l1 ?_
  refine lv_aload_n hx0 hb zj_d6.2.1 rfl l0 ?_
  refine va_tlen hx0 hb hT va_S.rf rfl zj_d6.2.2.1 ?_
  refine va_csv (W.runS (As := [Value.int j, Value.int (Int32.ofNat (z7len.getD x 0))]) (rest := []) (⟨hx0, hb, hml, hown, hts⟩ : CallFix p m c _ 2 s _ zgw RJ1) (zj_chk hjj.1 hjj.2) ⟨callB_of 2 hts (zgi2 zj_w.2.2.2.2.1) rfl rfl rfl (hts _ zj_n.1) (hts _ zj_l.2.2.2.1) ⟨by decide, by decide, by decide +kernel⟩ ⟨by decide, by decide⟩, hts _ zj_t.2.1⟩ ⟨zPj_blind, (fun U hU hW => ⟨rfl, by rw [hU]; exact zG.move hG hW (Nat.le_refl _) (fun _ _ _ => rfl)⟩)⟩ rfl rfl hl.1 rfl (by simp [F0]) zj_d6.2.2.2.1 ⟨Nat.zero_le _, Nat.zero_le _⟩) (fun _ => ?_)
  refine lv_aload_n hx0 hb zj_d6.2.2.2.2.1 rfl l0 ?_
  refine lv_iload_n hx0 hb zj_d6.2.2.2.2.2.1 rfl l1 ?_
  refine va_tb hx0 hb hT va_S.rf (i := j) (by unfold vp_in; rw [hc]; intro q; rcases q with q | q; · exact hjj.1 q
                                              · omega) rfl zj_d6.2.2.2.2.2.2.1 ?_
  refine lv_sipush hx0 hb (v := 255) zj_d6.2.2.2.2.2.2.2.1 (by decide +kernel) ?_
  refine lv_iand hx0 hb zj_d6.2.2.2.2.2.2.2.2.1 ?_
  refine lv_i2c hx0 hb (v := Int32.ofNat ((ztx.getD x []).getD k 0)) zj_d6.2.2.2.2.2.2.2.2.2.1 (by rw [hc]; exact c3) ?_
  exact W.zret hx0 hb B.returns c4 (fun t ht _ => ⟨_, rfl, rfl, ht⟩) (fun q hq => by cases hq) zj_d6.2.2.2.2.2.2.2.2.2.2
theorem zj_char (hx : x < 11) {j : Int32} {k : Nat} (hj : j = Int32.ofInt (k : Nat)) (hk : k < z7len.getD x 0) (hc : j.toNatClampNeg = k) : Met l yJ0_charAt_5068e (Cond.code yJ0_charAt_5068e cJ0_charAt_5068e 2 (some .char) :: zgw) (zrr 3 64) (zPj E ea #[Value.ref (ea (x + 1)), Value.int j]) (vp_Si (fun r => r = Int32.ofNat ((ztx.getD x []).getD k 0))) 0 0 (fun _ => False) := by
  refine Met.ofW zj_p.1 rfl ?_
  intro p e s m args below meth c s₁ B hml hpc
  obtain ⟨rfl, hG⟩ := hpc
  have hts : ∀ w ∈ zgw, w.before #[Value.ref (ea (x + 1)), Value.int j] s = true := fun w hw => atoms_spec (ws := Cond.code yJ0_charAt_5068e cJ0_charAt_5068e 2 (some .char) :: zgw) B.pre w (List.mem_cons_of_mem _ hw)
  have hx0 := B.exec
  have hb := B.bytes
  have hown := findClass_of_methodNamed B.named
  have hl := lv_entry [Value.ref (ea (x + 1)), Value.int j] (n := 2) (Nat.le_of_ble_eq_true rfl)
  rw [show #[Value.ref (ea (x + 1)), Value.int j] = List.toArray [Value.ref (ea (x + 1)), Value.int j] from rfl, lg_entry_eq]
  generalize (lg_sl [Value.ref (ea (x + 1)), Value.int j] ++ List.replicate (2 - (lg_sl [Value.ref (ea (x + 1)), Value.int j]).length) Slot.unset).toArray = ls at hl ⊢
  have l0 : ls[0]? = some (.val (Value.ref (ea (x + 1)))) := hl.2.2 (0, Value.ref (ea (x + 1))) (by simp [lv_args, Value.category])
  have l1 : ls[1]? = some (.val (Value.int j)) := hl.2.2 (1, Value.int j) (by simp [lv_args, Value.category])
  obtain ⟨⟨c1, c2⟩, c3, c4⟩ := zj_at x hx k (by have := (zj_len x hx).2.2; omega) hk
  refine lv_aload_n hx0 hb zj_d7.1 rfl l0 ?_
  refine vp_callSi (W.runV (As := []) (rest := []) (⟨hx0, hb, hml, hown, hts⟩ : CallFix p m c _ 2 s _ zgw RJ0) (zj_lat hx) ⟨callB_of 0 hts (zgi2 zj_w.2.1) rfl rfl rfl (hts _ zj_n.1) (hts _ zj_l.2.1) ⟨by decide, by decide, by decide +kernel⟩ ⟨by decide, by decide⟩, hts _ zj_i.2.1, hts _ zj_s.2.1⟩ ⟨zPj_blind, vk_recv hG.2.2.2.2.2.1.2 hx va_S.rf, (fun U hU hW => ⟨rfl, by rw [hU]; exact zG.move hG hW (Nat.le_refl _) (fun _ _ _ => rfl)⟩)⟩ rfl rfl hl.1 rfl (by simp [F0]) zj_d7.2.1 ⟨Nat.zero_le _, Nat.zero_le _⟩) (fun r hr => ?_)
  subst hr
  refine lv_if_eq hx0 hb zj_d7.2.2.1 (tgt := 16) rfl (fun h => absurd h (by decide)) (fun _ => ?_)
  refine lv_aload_n hx0 hb zj_d7.2.2.2.1 rfl l0 ?_
  refine vk_getf hx0 hb (hG.2.2.2.2.2.1.2.1 x hx).2.2.1 va_S.rf hown (hts _ zj_f.1) (fun _ h => h) zj_d7.2.2.2.2.1 ?_
  refine lv_iload_n hx0 hb zj_d7.2.2.2.2.2.1 rfl l1 ?_
  refine vp_callSi (W.runS (As := [Value.ref (zeV E x), Value.int j]) (rest := []) (⟨hx0, hb, hml, hown, hts⟩ : CallFix p m c _ 2 s _ zgw RJ0) (zj_la hx hj hk hc) ⟨callB_of 2 hts (zgi2 zj_w.2.2.2.2.2.1) rfl rfl rfl (hts _ zj_n.2.1) (hts _ zj_l.2.2.1) ⟨by decide, by decide, by decide +kernel⟩ ⟨by decide, by decide⟩, hts _ zj_t.1⟩ ⟨zPj_blind, (fun U hU hW => ⟨rfl, by rw [hU]; exact zG.move hG hW (Nat.le_refl _) (fun _ _ _ => rfl)⟩)⟩ rfl rfl hl.1 rfl (by simp [F0]) zj_d7.2.2.2.2.2.2.1 ⟨Nat.zero_le _, Nat.zero_le _⟩) (fun r hr => ?_)
  subst hr
  exact W.zret hx0 hb B.returns c4 (fun t ht _ => ⟨_, rfl, rfl, ht⟩) (fun q hq => by cases hq) zj_d7.2.2.2.2.2.2.2
variable {M : Nat} {p : Program} {e : Env} {R : Room} {s : State} {m : MethodId} {args : Array Value} {below : List Frame} {meth : Method} {c : Code} {Q : State → Prop} {c0 s0 n0 : Nat} {ad0 ea0 : Nat → Nat}

variable {H : Heap} {locs : List Loc} {cells slots pc n : Nat} {ls : Array Slot} {rest : List Value}
/-- a text's length -/
theorem zstr_len (hx : p.tables.exec = Jvm.exec) (hb : c.code = zby M) (hml : c.maxLocals = zml M) (hown : s.vm.findClass (zow M) = some m.cls) (hts : ∀ w ∈ zgw, w.before args s = true) (hG : zG E ea s s.heap) (hS : va_S (zeA E) s.heap H locs) (hsize : ls.size = zml M)
    (h0 : 0 < x) (h1 : x ≤ 11) (hl : Cond.methodLink (zow M) n yJ0_length_8abf5 ∈ zgw) (hfr : 3 ≤ R.frames) (hlo : 60 ≤ R.locals) (h8 : (rest.map fun v => v.category).sum ≤ 8) (hcl : cells ≤ R.cells) (hsl : slots ≤ R.slots) (hdg : decode (zby M) pc = .ok (.invokevirtual n, 3))
    (kk : W p l e R s m args below meth c H locs cells slots Q (F0 m (pc + 3) ls (.int (Int32.ofNat (ztx.getD (x - 1) []).length) :: rest))) : W p l e R s m args below meth c H locs cells slots Q (F0 m pc ls (.ref (ea x) :: rest)) := by
  obtain ⟨y, rfl⟩ : ∃ y, x = y + 1 := ⟨x - 1, by omega⟩
  refine vp_callSi (W.runV (As := []) (rest := rest) (⟨hx, hb, hml, hown, hts⟩ : CallFix p m c _ (zml M) s _ zgw (zow M)) (zj_length (x := y) (by omega)) ⟨callB_of 0 hts (zgi2 zj_w.2.2.1) rfl rfl rfl (hts _ zj_n.1) (hts _ hl) ⟨by decide, by decide, by decide +kernel⟩ ⟨by show 1 + 1 ≤ _; omega, by show 8 + (1 + 11) + 20 ≤ _; omega⟩, hts _ zj_i.2.2.1, hts _ zj_s.2.2.1⟩ ⟨zPj_blind, vk_recv hG.2.2.2.2.2.1.2 (by omega) hS, (fun U hU hW => ⟨rfl, by rw [hU]; exact zG.move hG hW hS.1 (fun a h1 h2 => hS.2.1 a h1 h2)⟩)⟩ rfl rfl hsize rfl (by show 2 * 0 + _ ≤ _; omega) hdg ⟨by omega, by omega⟩) (fun r hr => ?_)
  subst hr
  exact kk
/-- the sign at a place of a text -/
theorem zstr_at {j : Int32} (hx : p.tables.exec = Jvm.exec) (hb : c.code = zby M) (hml : c.maxLocals = zml M) (hown : s.vm.findClass (zow M) = some m.cls) (hts : ∀ w ∈ zgw, w.before args s = true) (hG : zG E ea s s.heap) (hS : va_S (zeA E) s.heap H locs) (hsize : ls.size = zml M)
    (h0 : 0 < x) (h1 : x ≤ 11) (hl : Cond.methodLink (zow M) n yJ0_charAt_5068e ∈ zgw) (hfr : 5 ≤ R.frames) (hlo : 100 ≤ R.locals) (h8 : (rest.map fun v => v.category).sum ≤ 8) (hj : ¬ (j < 0 ∨ (ztx.getD (x - 1) []).length ≤ j.toNatClampNeg)) (hcl : cells ≤ R.cells) (hsl : slots ≤ R.slots) (hdg : decode (zby M) pc = .ok (.invokevirtual n, 3))
    (kk : W p l e R s m args below meth c H locs cells slots Q (F0 m (pc + 3) ls (.int (Int32.ofNat ((ztx.getD (x - 1) []).getD j.toNatClampNeg 0)) :: rest))) : W p l e R s m args below meth c H locs cells slots Q (F0 m pc ls (.int j :: .ref (ea x) :: rest)) := by
  obtain ⟨y, rfl⟩ : ∃ y, x = y + 1 := ⟨x - 1, by omega⟩
  have hy : y < 11 := by omega
  have hk : j.toNatClampNeg < z7len.getD y 0 := by
    rw [(zj_len y hy).2.1]
    exact Nat.not_le.mp (fun q => hj (Or.inr q))
  have hj0 : ¬ j < 0 := fun q => hj (Or.inl q)
  have hjk : j = Int32.ofInt (j.toNatClampNeg : Nat) := by
    have h1 : (0 : Int) ≤ j.toInt := by
      have := Int32.not_lt.mp hj0
      simpa using Int32.le_iff_toInt_le.mp this
    have h2 : ((j.toNatClampNeg : Nat) : Int) = j.toInt := by
      show ((j.toInt.toNat : Nat) : Int) = _
      omega
    rw [h2, Int32.ofInt_toInt]
  refine vp_callSi (W.runV (As := [Value.int j]) (rest := rest) (⟨hx, hb, hml, hown, hts⟩ : CallFix p m c _ (zml M) s _ zgw (zow M)) (zj_char (x := y) hy hjk hk rfl) ⟨callB_of 1 hts (zgi2 zj_w.2.2.2.1) rfl rfl rfl (hts _ zj_n.1) (hts _ hl) ⟨by decide, by decide, by decide +kernel⟩ ⟨by show 3 + 1 ≤ _; omega, by show 8 + (2 + 11) + 64 ≤ _; omega⟩, hts _ zj_i.2.2.2, hts _ zj_s.2.2.2⟩ ⟨zPj_blind, vk_recv hG.2.2.2.2.2.1.2 hy hS, (fun U hU hW => ⟨rfl, by rw [hU]; exact zG.move hG hW hS.1 (fun a h1 h2 => hS.2.1 a h1 h2)⟩)⟩ rfl rfl hsize rfl (by show 2 * 0 + _ ≤ _; omega) hdg ⟨by omega, by omega⟩) (fun r hr => ?_)
  subst hr
  exact kk
end ZSTR
