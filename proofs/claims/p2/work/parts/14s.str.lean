section ZSTR
variable {E : zEnv} {M : Nat} {p : Program} {l : Launch} {e : Env} {R : Room} {s : State} {m : MethodId} {args : Array Value} {below : List Frame} {meth : Method} {c : Code} {Q : State → Prop} {c0 s0 n0 : Nat} {ad0 ea0 : Nat → Nat}

variable {H : Heap} {locs : List Loc} {cells slots pc n x : Nat} {ls : Array Slot} {rest : List Value} {ea : Nat → Nat}
/-- a text's length -/
theorem zstr_len (hx : p.tables.exec = Jvm.exec) (hb : c.code = zby M) (hml : c.maxLocals = zml M) (hown : s.vm.findClass (zow M) = some m.cls) (hts : ∀ w ∈ zgw, w.before args s = true) (hG : zG E ea s s.heap) (hS : va_S (zeA E) s.heap H locs) (hsize : ls.size = zml M)
    (h0 : 0 < x) (h1 : x ≤ 11) (hl : Cond.methodLink (zow M) n yJ0_length_8abf5 ∈ zgw) (hfr : 3 ≤ R.frames) (hlo : 60 ≤ R.locals) (h8 : (rest.map fun v => v.category).sum ≤ 8) (hdg : decode (zby M) pc = .ok (.invokevirtual n, 3))
    (kk : W p l e R s m args below meth c H locs cells slots Q (F0 m (pc + 3) ls (.int (Int32.ofNat (ztx.getD (x - 1) []).length) :: rest))) : W p l e R s m args below meth c H locs cells slots Q (F0 m pc ls (.ref (ea x) :: rest)) := by
  sorry
/-- the sign at a place of a text -/
theorem zstr_at {j : Int32} (hx : p.tables.exec = Jvm.exec) (hb : c.code = zby M) (hml : c.maxLocals = zml M) (hown : s.vm.findClass (zow M) = some m.cls) (hts : ∀ w ∈ zgw, w.before args s = true) (hG : zG E ea s s.heap) (hS : va_S (zeA E) s.heap H locs) (hsize : ls.size = zml M)
    (h0 : 0 < x) (h1 : x ≤ 11) (hl : Cond.methodLink (zow M) n yJ0_charAt_5068e ∈ zgw) (hfr : 5 ≤ R.frames) (hlo : 100 ≤ R.locals) (h8 : (rest.map fun v => v.category).sum ≤ 8) (hj : ¬ (j < 0 ∨ (ztx.getD (x - 1) []).length ≤ j.toNatClampNeg)) (hdg : decode (zby M) pc = .ok (.invokevirtual n, 3))
    (kk : W p l e R s m args below meth c H locs cells slots Q (F0 m (pc + 3) ls (.int (Int32.ofNat ((ztx.getD (x - 1) []).getD j.toNatClampNeg 0)) :: rest))) : W p l e R s m args below meth c H locs cells slots Q (F0 m pc ls (.int j :: .ref (ea x) :: rest)) := by
  sorry
end ZSTR
