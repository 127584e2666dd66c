set_option maxRecDepth 16384
theorem zws_len {cK : Nat → ClassId} {ad : Nat → Nat} {h : zH} : (zws cK ad h).length = zn h := by simp [zws]
theorem zws_at {cK : Nat → ClassId} {ad : Nat → Nat} {h : zH} (j : Nat) : (zws cK ad h)[j]? = if j < zn h then some (ad (j + 1), zent cK ad h (j + 1)) else none := by
  unfold zws
  rw [List.getElem?_map]
  by_cases q : j < zn h
  · rw [List.getElem?_range q, if_pos q]; rfl
  · rw [List.getElem?_eq_none (by rw [List.length_range]; omega), if_neg q]; rfl
theorem zws_get {cK : Nat → ClassId} {ad : Nat → Nat} {h : zH} {a : Nat} (h0 : 0 < a) (h1 : a ≤ zn h) : (zws cK ad h)[a - 1]? = some (ad a, zent cK ad h a) := by
  rw [zws_at, if_pos (by omega), Nat.sub_add_cancel h0]
theorem zws_set {cK : Nat → ClassId} {ad : Nat → Nat} {h h' : zH} {a : Nat} (hn : zn h' = zn h) (h0 : 0 < a) (h1 : a ≤ zn h) (he : ∀ b, b ≠ a → zent cK ad h' b = zent cK ad h b) {e : va_E} (hx : e = zent cK ad h' a) : (zws cK ad h).set (a - 1) (ad a, e) = zws cK ad h' := by
  subst hx
  refine List.ext_getElem? fun j => ?_
  rw [List.getElem?_set, zws_len, zws_at, zws_at, hn]
  by_cases q : a - 1 = j
  · subst q
    rw [if_pos rfl, if_pos (by omega), if_pos (by omega), Nat.sub_add_cancel h0]
  · rw [if_neg q]
    by_cases q2 : j < zn h
    · rw [if_pos q2, if_pos q2, he (j + 1) (by omega)]
    · rw [if_neg q2, if_neg q2]
theorem zws_push {cK : Nat → ClassId} {ad ad' : Nat → Nat} {h h' : zH} (hn : zn h' = zn h + 1) (had : ∀ b, b ≤ zn h → ad' b = ad b) (he : ∀ b, 0 < b → b ≤ zn h → zent cK ad' h' b = zent cK ad h b) {q : Nat} {e : va_E} (hq : q = ad' (zn h + 1)) (hx : e = zent cK ad' h' (zn h + 1)) : zws cK ad h ++ [(q, e)] = zws cK ad' h' := by
  subst hq; subst hx
  refine List.ext_getElem? fun j => ?_
  rw [List.getElem?_append, zws_len, zws_at, zws_at, hn]
  by_cases q : j < zn h
  · rw [if_pos q, if_pos q, if_pos (by omega), had (j + 1) (by omega), he (j + 1) (by omega) (by omega)]
  · rw [if_neg q]
    by_cases q2 : j = zn h
    · subst q2
      simp
    · rw [if_neg (by omega)]
      rw [List.getElem?_eq_none (by simp; omega)]
section ZENT
variable {cK : Nat → ClassId} {ad : Nat → Nat} {h : zH} {a n : Nat}
theorem zent_a {k : Nat} (e : zkd h a = (k, n)) (h0 : k < 4) : zent cK ad h a = .inl (cK k, n, .inl (ziv h a)) := by
  unfold zent; rw [e]
  rw [if_neg (by show ¬ k = 4; omega), if_neg (by show ¬ k = 5; omega), if_pos (by show k < 10; omega)]
theorem zent_l (e : zkd h a = (4, n)) : zent cK ad h a = .inl (cK 4, n, .inr (.inl (zlv h a))) := by
  unfold zent; rw [e]; rfl
theorem zent_q (e : zkd h a = (5, n)) : zent cK ad h a = .inl (cK 5, n, .inr (.inr (.inr (.inr (fun j => z7ro ad (zrv h a j)))))) := by
  unfold zent; rw [e]; rfl
theorem zent_o {ci : Nat} (e : zkd h a = (10 + ci, n)) : zent cK ad h a = .inr (ci, (List.range n).map (zfv ad h a ci)) := by
  unfold zent; rw [e]
  rw [if_neg (by show ¬ 10 + ci = 4; omega), if_neg (by show ¬ 10 + ci = 5; omega), if_neg (by show ¬ 10 + ci < 10; omega)]
  show Sum.inr (10 + ci - 10, (List.range n).map (zfv ad h a (10 + ci - 10))) = _
  rw [Nat.add_sub_cancel_left]
theorem zent_same {ad' : Nat → Nat} {h' : zH} {b : Nat} (k : zkd h' b = zkd h b) (i : ziv h' b = ziv h b) (l : zlv h' b = zlv h b) (r : ∀ j, zrf ad' (zrv h' b j) = zrf ad (zrv h b j)) (ro : ∀ j, z7ro ad' (zrv h' b j) = z7ro ad (zrv h b j)) : zent cK ad' h' b = zent cK ad h b := by
  unfold zent
  rw [k, i, l]
  have e1 : (fun j => z7ro ad' (zrv h' b j)) = fun j => z7ro ad (zrv h b j) := funext ro
  have e2 : ∀ ci, zfv ad' h' b ci = zfv ad h b ci := by
    intro ci
    funext j
    unfold zfv
    rw [r j, i]
  rw [e1, e2]
theorem zent_sI {k b : Nat} {x : Int32} (hb : b ≠ a) : zent cK ad (zsI h a k x) b = zent cK ad h b :=
  zent_same rfl (by show zup (ziv h) a _ b = _; unfold zup; rw [if_neg hb]) rfl (fun _ => rfl) (fun _ => rfl)
theorem zent_sA {b : Nat} {f : Nat → Int32} (hb : b ≠ a) : zent cK ad (zsA h a f) b = zent cK ad h b :=
  zent_same rfl (by show zup (ziv h) a _ b = _; unfold zup; rw [if_neg hb]) rfl (fun _ => rfl) (fun _ => rfl)
theorem zent_sL {k b : Nat} {x : Int64} (hb : b ≠ a) : zent cK ad (zsL h a k x) b = zent cK ad h b :=
  zent_same rfl rfl (by show zup (zlv h) a _ b = _; unfold zup; rw [if_neg hb]) (fun _ => rfl) (fun _ => rfl)
theorem zent_sR {k b r : Nat} (hb : b ≠ a) : zent cK ad (zsR h a k r) b = zent cK ad h b := by
  have e : zrv (zsR h a k r) b = zrv h b := by show zup (zrv h) a _ b = _; unfold zup; rw [if_neg hb]
  exact zent_same rfl rfl rfl (fun _ => by rw [e]) (fun _ => by rw [e])
theorem zent_new {ad' : Nat → Nat} {k n b : Nat} (w : zwf h) (had : ∀ b, b ≤ zn h → ad' b = ad b) (hb : b ≤ zn h) : zent cK ad' (znew h k n) b = zent cK ad h b := by
  have hne : ¬ b = zn h + 1 := by omega
  have e : zrv (znew h k n) b = zrv h b := by show zup (zrv h) _ _ b = _; unfold zup; rw [if_neg hne]
  refine zent_same (by show zup (zkd h) _ _ b = _; unfold zup; rw [if_neg hne]) (by show zup (ziv h) _ _ b = _; unfold zup; rw [if_neg hne]) (by show zup (zlv h) _ _ b = _; unfold zup; rw [if_neg hne]) (fun j => ?_) (fun j => ?_)
  · rw [e]; unfold zrf; rw [had _ (w.2.1 b j)]
  · rw [e]; unfold z7ro; rw [had _ (w.2.1 b j)]
end ZENT
theorem zrf_pos {ad : Nat → Nat} {a : Nat} (h : 0 < a) : zrf ad a = .ref (ad a) := by unfold zrf; rw [if_neg (by omega)]
theorem zmv_up {ad ad' ea : Nat → Nat} {n : Nat} {h : zH} {v : zV} (hn : zn h = n) (o : zokv h v) (had : ∀ b, b ≤ n → ad' b = ad b) : zmv ad' ea v = zmv ad ea v := by
  rcases v with x | x | x | x
  · rfl
  · rfl
  · show zrf ad' x = zrf ad x
    unfold zrf
    rw [had x (hn ▸ o)]
  · rfl
theorem zmv_ups {ad ad' ea : Nat → Nat} {h : zH} {vs : List zV} (o : zoks h vs) (had : ∀ b, b ≤ zn h → ad' b = ad b) : vs.map (zmv ad' ea) = vs.map (zmv ad ea) :=
  List.map_congr_left fun v hv => zmv_up rfl (o v hv) had
theorem zls.up {nL : Nat} {ad ad' ea : Nat → Nat} {h : zH} {loc : List (Option zV)} {ls : Array Slot} (a : zls nL ad ea loc ls) (o : zokl h loc) (had : ∀ b, b ≤ zn h → ad' b = ad b) : zls nL ad' ea loc ls :=
  ⟨a.1, a.2.1, a.2.2.1, fun i v hv => by rw [zmv_up rfl (o v (List.mem_of_getElem? hv)) had]; exact a.2.2.2 i v hv⟩
theorem zls.forget {nL : Nat} {ad ea ad' ea' : Nat → Nat} {loc : List (Option zV)} {ls : Array Slot} (a : zls nL ad ea loc ls) : zls nL ad' ea' (loc.map fun _ => none) ls :=
  ⟨by rw [List.length_map]; exact a.1, a.2.1, a.2.2.1, fun i v hv => by
    rw [List.getElem?_map] at hv
    cases q : loc[i]? with
    | none => rw [q] at hv; cases hv
    | some w => rw [q] at hv; cases hv⟩
/-! what a part of an instruction that went well says -/
theorem zck_some {c : Prop} [Decidable c] {k : Option zO} {o : zO} (h : zck c k = some o) : c ∧ k = some o := by
  by_cases q : c
  · simp only [zck, if_pos q] at h; exact ⟨q, h⟩
  · simp only [zck, if_neg q] at h; cases h
theorem zpI_some {s : List zV} {k : Int32 → List zV → Option zO} {o : zO} (h : zpI s k = some o) : ∃ x t, s = .inl x :: t ∧ k x t = some o := by
  rcases s with _ | ⟨x | x | x | x, t⟩
  · cases h
  · exact ⟨x, t, rfl, h⟩
  all_goals cases h
theorem zpL_some {s : List zV} {k : Int64 → List zV → Option zO} {o : zO} (h : zpL s k = some o) : ∃ x t, s = .inr (.inl x) :: t ∧ k x t = some o := by
  rcases s with _ | ⟨x | x | x | x, t⟩
  · cases h
  · cases h
  · exact ⟨x, t, rfl, h⟩
  all_goals cases h
theorem zpR_some {s : List zV} {k : Nat → List zV → Option zO} {o : zO} (h : zpR s k = some o) : ∃ x t, s = .inr (.inr (.inl x)) :: t ∧ k x t = some o := by
  rcases s with _ | ⟨x | x | x | x, t⟩
  · cases h
  · cases h
  · cases h
  · exact ⟨x, t, rfl, h⟩
  · cases h
theorem zpA_some {s : List zV} {k : zV → List zV → Option zO} {o : zO} (h : zpA s k = some o) : ∃ x t, s = .inr (.inr x) :: t ∧ k (.inr (.inr x)) t = some o := by
  rcases s with _ | ⟨x | x | x, t⟩
  · cases h
  · cases h
  · cases h
  · exact ⟨x, t, rfl, h⟩
theorem zp1_some {s : List zV} {k : zV → List zV → Option zO} {o : zO} (h : zp1 s k = some o) : ∃ v t, s = v :: t ∧ k v t = some o ∧ zisL (some v) = false := by
  rcases s with _ | ⟨x | x | x, t⟩
  · cases h
  · exact ⟨_, t, rfl, h, rfl⟩
  · cases h
  · exact ⟨_, t, rfl, h, rfl⟩
theorem zlI_some {l : List (Option zV)} {i : Nat} {k : Int32 → Option zO} {o : zO} (h : zlI l i k = some o) : ∃ x, l.getD i none = some (.inl x) ∧ k x = some o := by
  unfold zlI at h
  rcases e : l.getD i none with _ | ⟨x | x | x⟩ <;> rw [e] at h
  · cases h
  · exact ⟨x, rfl, h⟩
  all_goals cases h
theorem zlL_some {l : List (Option zV)} {i : Nat} {k : Int64 → Option zO} {o : zO} (h : zlL l i k = some o) : ∃ x, l.getD i none = some (.inr (.inl x)) ∧ k x = some o := by
  unfold zlL at h
  rcases e : l.getD i none with _ | ⟨x | x | x⟩ <;> rw [e] at h
  · cases h
  · cases h
  · exact ⟨x, rfl, h⟩
  · cases h
theorem zlA_some {l : List (Option zV)} {i : Nat} {k : zV → Option zO} {o : zO} (h : zlA l i k = some o) : ∃ x, l.getD i none = some (.inr (.inr x)) ∧ k (.inr (.inr x)) = some o := by
  unfold zlA at h
  rcases e : l.getD i none with _ | ⟨x | x | x⟩ <;> rw [e] at h
  · cases h
  · cases h
  · cases h
  · exact ⟨x, rfl, h⟩
theorem zs1_some {l : List (Option zV)} {i : Nat} {v : zV} {k : List (Option zV) → Option zO} {o : zO} (h : zs1 l i v k = some o) : i < l.length ∧ zisL (l.getD (i - 1) none) = false ∧ k (l.set i (some v)) = some o := by
  unfold zs1 at h
  cases e : (decide (i < l.length) && !(zisL (l.getD (i - 1) none))) <;> rw [e] at h
  · cases h
  · simp only [Bool.and_eq_true, decide_eq_true_eq, Bool.not_eq_true'] at e
    exact ⟨e.1, e.2, h⟩
theorem zs2_some {l : List (Option zV)} {i : Nat} {v : zV} {k : List (Option zV) → Option zO} {o : zO} (h : zs2 l i v k = some o) : i + 1 < l.length ∧ zisL (l.getD (i - 1) none) = false ∧ k ((l.set i (some v)).set (i + 1) none) = some o := by
  unfold zs2 at h
  cases e : (decide (i + 1 < l.length) && !(zisL (l.getD (i - 1) none))) <;> rw [e] at h
  · cases h
  · simp only [Bool.and_eq_true, decide_eq_true_eq, Bool.not_eq_true'] at e
    exact ⟨e.1, e.2, h⟩
theorem zrcv_some {h : zH} {ci N : Nat} {s : List zV} {k : Option zO} {o : zO} (e : zrcv h ci N s k = some o) : ∃ a t, s = .inr (.inr (.inl a)) :: t ∧ zkd h a = (10 + ci, N) ∧ k = some o := by
  rcases s with _ | ⟨x | x | x | x, t⟩
  · cases e
  · cases e
  · cases e
  · obtain ⟨a, b⟩ := zck_some e
    exact ⟨x, t, rfl, a, b⟩
  · cases e
theorem zcat_sum {ad ea : Nat → Nat} : ∀ {s : List zV}, ((s.map (zmv ad ea)).map fun v => v.category).sum = zcat s := by
  intro s
  induction s with
  | nil => rfl
  | cons x s ih =>
    simp only [List.map_cons, List.sum_cons, ih]
    rcases x with x | x | x | x
    · show 1 + zcat s = zcat s + 1; omega
    · show 2 + zcat s = zcat s + 2; omega
    · show (zrf ad x).category + zcat s = zcat s + 1
      have : (zrf ad x).category = 1 := by unfold zrf; by_cases q : x = 0 <;> simp [q, Value.category]
      omega
    · show 1 + zcat s = zcat s + 1; omega
theorem zdc {b : ByteArray} {pc : Nat} {i : Instr} {n : Nat} (h : zdec b pc i = true) (e : zil i = n) (hn : n ≠ 0) : decode b pc = .ok (i, n) := by
  unfold zdec at h
  cases q : decode b pc with
  | error z => rw [q] at h; cases h
  | ok r =>
    rw [q] at h
    simp only [decide_eq_true_eq] at h
    obtain ⟨h1, h2⟩ := h
    rcases h2 with h2 | h2
    · exact absurd (e.symm.trans h2) hn
    · have : r = (i, n) := by
        cases r; simp only at h1 h2; rw [h1, h2, e]
      rw [this]
theorem zdc0 {b : ByteArray} {pc : Nat} {i : Instr} (h : zdec b pc i = true) : ∃ n, decode b pc = .ok (i, n) := by
  unfold zdec at h
  cases q : decode b pc with
  | error z => rw [q] at h; cases h
  | ok r =>
    rw [q] at h
    simp only [decide_eq_true_eq] at h
    obtain ⟨h1, -⟩ := h
    refine ⟨r.2, ?_⟩
    rw [← h1]
