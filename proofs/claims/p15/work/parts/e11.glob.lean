set_option maxRecDepth 16384
/-! WHAT HOLDS OF THE MACHINE ALL ALONG -/
/-- the classes, the slots of fields, the array classes, the texts' bytes, the script, what may be written -/
abbrev zEnv : Type := (Nat → ClassId) × (Nat → Nat → Nat) × (Nat → ClassId) × (Nat → Nat) × (Nat × (Nat → Int32)) × (Nat → Prop)
abbrev zeD (E : zEnv) : va_G := (E.1, E.2.1)
abbrev zeK (E : zEnv) : Nat → ClassId := E.2.2.1
abbrev zeV (E : zEnv) : Nat → Nat := E.2.2.2.1
abbrev zeS (E : zEnv) : Nat × (Nat → Int32) := E.2.2.2.2.1
abbrev zeA (E : zEnv) : Nat → Prop := E.2.2.2.2.2
def zG (E : zEnv) (ea : Nat → Nat) (U : State) (H : Heap) : Prop :=
  va_K (zeD E) zcs (ztys (zeK E)) U ∧ (vx_Zq Bundle.tN "UNASSIGNED_STACK" Bundle.steD (zeA E) U H ∧ vx_Zq Bundle.tN "SUPPRESSED_SENTINEL" Bundle.listD (zeA E) U H) ∧
  (∀ w ∈ znw, va_Nw w U) ∧ (∀ i j, i < 4 → j < 4 → i ≠ j → va_Nc (zxn i) (zxn j) U) ∧ va_AO RX2 U ∧
  ((∀ k q, zsr[k]? = some q → vk_R q.1 q.2.1 q.2.2 (ea (k + 1)) U) ∧ vk_S 11 z7len zbt (fun i => ea (i + 1)) (zeV E) (zeA E) U H) ∧
  (va_Z "java/lang/String" "COMPACT_STRINGS" "Z" (.int 1) (zeA E) U H ∧ va_Zq "jdk/internal/util/Preconditions" "SIOOBE_FORMATTER" "Ljava/util/function/BiFunction;" (zeA E) U H) ∧
  (va_X (ea 0) (zeS E).1 (zeS E).2 U H ∧ ea 0 < H.size ∧ ¬ zeA E (ea 0)) ∧ ∀ q, H.size ≤ q → zeA E q
theorem znw_moved {w : Cond} (hw : w ∈ znw) {s U : State} (hW : s.WarmedH U.vm) (h : va_Nw w s) : va_Nw w U := by
  have hg : znwt w = true := (List.mem_filter.mp hw).2
  cases w with
  | methodLinkNest a i x h2 => exact va_Nw.warmM hW h
  | fieldLinkNest a i b n d h2 => exact va_Nw.warmF hW h
  | declares x => exact va_Nw.warmD hW h
  | castable a b => exact va_Nw.warmC hW h
  | _ => exact absurd hg (by simp [znwt])
theorem zG.ea {E : zEnv} {ea ea' : Nat → Nat} {U : State} {H : Heap} (h : zG E ea U H) (he : ∀ k, k < 1000 → ea' k = ea k) : zG E ea' U H := by
  obtain ⟨h1, h2, h3, h4, h5, ⟨h6, h7⟩, h8, h9, h10⟩ := h
  refine ⟨h1, h2, h3, h4, h5, ⟨fun k q hk => ?_, ?_⟩, h8, ?_, h10⟩
  · have hlt : k < zsr.length := (List.getElem?_eq_some_iff.mp hk).1
    have : zsr.length = 11 := by decide +kernel
    rw [he (k + 1) (by omega)]
    exact h6 k q hk
  · refine ⟨fun i hi => ?_, fun i j hi hj e => ?_⟩
    · have e1 : ea' (i + 1) = ea (i + 1) := he _ (by omega)
      show va_O _ (ea' (i + 1)) _ _ _ ∧ va_OF _ _ _ _ (ea' (i + 1)) _ _ _ ∧ va_OF _ _ _ _ (ea' (i + 1)) _ _ _ ∧ _
      rw [e1]
      exact h7.1 i hi
    · have e1 : ea' (i + 1) = ea (i + 1) := he _ (by omega)
      have e2 : ea' (j + 1) = ea (j + 1) := he _ (by omega)
      exact h7.2 i j hi hj (by show ea (i + 1) = ea (j + 1); rw [← e1, ← e2]; exact e)
  · rw [he 0 (by omega)]
    exact h9
theorem zG.move {E : zEnv} {ea : Nat → Nat} {U U' : State} {H H' : Heap} (h : zG E ea U H) (hW : U.WarmedH U'.vm) (hz : H.size ≤ H'.size) (hq : ∀ a : Nat, a < H.size → ¬ zeA E a → H'[a]? = H[a]?) : zG E ea U' H' := by
  have hvm : U.vm.Alike U'.vm := hW.alike
  obtain ⟨h1, ⟨h2, h2'⟩, h3, h4, h5, ⟨h6, h7⟩, ⟨h8, h8'⟩, ⟨h9, h9', h9''⟩, h10⟩ := h
  refine ⟨va_K.moved hvm h1, ⟨vx_Zq.kept (vx_Zq.moved hvm h2) hq, vx_Zq.kept (vx_Zq.moved hvm h2') hq⟩, fun w hw => znw_moved hw hW (h3 w hw), fun i j a b c => va_Nc.moved hvm (h4 i j a b c), va_AO.moved hvm h5, ⟨fun k q hk => vk_R.warm hW (h6 k q hk), vk_S.kept (vk_S.moved hvm h7) hq⟩, ⟨va_Z.kept (va_Z.moved hvm h8) hq, va_Zq.kept (va_Zq.moved hvm h8') hq⟩, ⟨?_, Nat.lt_of_lt_of_le h9' hz, h9''⟩, fun q hq => h10 q (Nat.le_trans hz hq)⟩
  have h9 := va_X.moved hvm h9
  obtain ⟨scr, a, b⟩ := h9
  exact ⟨scr, by rw [hq _ h9' h9'']; exact a, b⟩
/-! the locals -/
def zls (nL : Nat) (ad ea : Nat → Nat) (loc : List (Option zV)) (ls : Array Slot) : Prop :=
  loc.length = nL ∧ ls.size = nL ∧ lv_wf ls ∧ ∀ (i : Nat) (v : zV), loc[i]? = some (some v) → ls[i]? = some (Slot.val (zmv ad ea v))
def zprs (ad ea : Nat → Nat) : Nat → List (Option zV) → List (Nat × Value)
  | _, [] => []
  | i, none :: l => zprs ad ea (i + 1) l
  | i, some v :: l => (i, zmv ad ea v) :: zprs ad ea (i + 1) l
theorem zprs_mem {ad ea : Nat → Nat} : ∀ {l : List (Option zV)} {i : Nat} {q : Nat × Value}, q ∈ zprs ad ea i l ↔ ∃ j v, l[j]? = some (some v) ∧ q = (i + j, zmv ad ea v) := by
  intro l
  induction l with
  | nil => intro i q; simp [zprs]
  | cons x l ih =>
    intro i q
    cases x with
    | none =>
      show q ∈ zprs ad ea (i + 1) l ↔ _
      rw [ih]
      constructor
      · rintro ⟨j, v, h, e⟩
        exact ⟨j + 1, v, by simpa using h, by rw [e]; congr 1; omega⟩
      · rintro ⟨j, v, h, e⟩
        cases j with
        | zero => simp at h
        | succ j => exact ⟨j, v, by simpa using h, by rw [e]; congr 1; omega⟩
    | some w =>
      show q ∈ (i, zmv ad ea w) :: zprs ad ea (i + 1) l ↔ _
      rw [List.mem_cons, ih]
      constructor
      · rintro (rfl | ⟨j, v, h, e⟩)
        · exact ⟨0, w, by simp, rfl⟩
        · exact ⟨j + 1, v, by simpa using h, by rw [e]; congr 1; omega⟩
      · rintro ⟨j, v, h, e⟩
        cases j with
        | zero =>
          simp at h
          subst h
          exact Or.inl e
        | succ j => exact Or.inr ⟨j, v, by simpa using h, by rw [e]; congr 1; omega⟩
theorem zls.has {nL : Nat} {ad ea : Nat → Nat} {loc : List (Option zV)} {ls : Array Slot} (h : zls nL ad ea loc ls) : lv_has ls nL (zprs ad ea 0 loc) := by
  refine ⟨h.2.1, h.2.2.1, fun q hq => ?_⟩
  obtain ⟨j, v, hj, e⟩ := zprs_mem.mp hq
  subst e
  rw [Nat.zero_add]
  exact h.2.2.2 j v hj
theorem zls.at {nL : Nat} {ad ea : Nat → Nat} {loc : List (Option zV)} {ls : Array Slot} (h : zls nL ad ea loc ls) {i : Nat} {v : zV} (e : loc.getD i none = some v) : ls[i]? = some (.val (zmv ad ea v)) := by
  rw [List.getD_eq_getElem?_getD] at e
  cases q : loc[i]? with
  | none => rw [q] at e; cases e
  | some w => rw [q] at e; cases e; exact h.2.2.2 i v q
theorem zmv_cat {ad ea : Nat → Nat} {v : zV} : (zmv ad ea v).category = 2 ↔ zisL (some v) = true := by
  rcases v with x | x | x | x
  · simp [zmv, zisL, Value.category]
  · simp [zmv, zisL, Value.category]
  · simp only [zmv, zrf, zisL]
    by_cases h : x = 0
    · simp [h, Value.category]
    · simp [h, Value.category]
  · simp [zmv, zisL, Value.category]
theorem zget_isL {loc : List (Option zV)} {i : Nat} {v : zV} (h : loc[i]? = some (some v)) (e : zisL (loc.getD i none) = false) : zisL (some v) = false := by
  rw [List.getD_eq_getElem?_getD, h] at e
  exact e
/-- behind a store of one word -/
theorem zls.st1 {nL : Nat} {ad ea : Nat → Nat} {loc : List (Option zV)} {ls' : Array Slot} {i : Nat} {v : zV} (hl : loc.length = nL) (hi : i < loc.length) (hp : zisL (loc.getD (i - 1) none) = false)
    (h : lv_has ls' nL ((i, zmv ad ea v) :: (zprs ad ea 0 loc).filter (fun q => !(q.1 == i) && !(q.1 + 1 == i && q.2.category == 2)))) : zls nL ad ea (loc.set i (some v)) ls' := by
  refine ⟨by rw [List.length_set]; exact hl, h.1, h.2.1, fun j w hj => ?_⟩
  by_cases e : j = i
  · subst e
    rw [List.getElem?_set_self hi] at hj
    cases hj
    exact h.2.2 _ List.mem_cons_self
  · rw [List.getElem?_set_ne (Ne.symm e)] at hj
    refine h.2.2 (j, zmv ad ea w) (List.mem_cons_of_mem _ (List.mem_filter.mpr ⟨zprs_mem.mpr ⟨j, w, hj, by rw [Nat.zero_add]⟩, ?_⟩))
    simp only [Bool.and_eq_true, Bool.not_eq_true', beq_eq_false_iff_ne, ne_eq, Bool.and_eq_false_iff]
    refine ⟨e, ?_⟩
    by_cases e2 : j + 1 = i
    · right
      have : i - 1 = j := by omega
      rw [this] at hp
      have := zget_isL hj hp
      intro q
      rw [zmv_cat.mp q] at this
      cases this
    · exact Or.inl e2
theorem zls.st2 {nL : Nat} {ad ea : Nat → Nat} {loc : List (Option zV)} {ls' : Array Slot} {i : Nat} {v : zV} (hl : loc.length = nL) (hi : i + 1 < loc.length) (hp : zisL (loc.getD (i - 1) none) = false)
    (h : lv_has ls' nL ((i, zmv ad ea v) :: (zprs ad ea 0 loc).filter (fun q => !(q.1 == i) && (!(q.1 == i + 1) && !(q.1 + 1 == i && q.2.category == 2))))) : zls nL ad ea ((loc.set i (some v)).set (i + 1) none) ls' := by
  refine ⟨by rw [List.length_set, List.length_set]; exact hl, h.1, h.2.1, fun j w hj => ?_⟩
  by_cases e1 : j = i + 1
  · subst e1
    rw [List.getElem?_set_self (by rw [List.length_set]; exact hi)] at hj
    cases hj
  · rw [List.getElem?_set_ne (Ne.symm e1)] at hj
    by_cases e : j = i
    · subst e
      rw [List.getElem?_set_self (by omega)] at hj
      cases hj
      exact h.2.2 _ List.mem_cons_self
    · rw [List.getElem?_set_ne (Ne.symm e)] at hj
      refine h.2.2 (j, zmv ad ea w) (List.mem_cons_of_mem _ (List.mem_filter.mpr ⟨zprs_mem.mpr ⟨j, w, hj, by rw [Nat.zero_add]⟩, ?_⟩))
      simp only [Bool.and_eq_true, Bool.not_eq_true', beq_eq_false_iff_ne, ne_eq, Bool.and_eq_false_iff]
      refine ⟨e, e1, ?_⟩
      by_cases e2 : j + 1 = i
      · right
        have : i - 1 = j := by omega
        rw [this] at hp
        have := zget_isL hj hp
        intro q
        rw [zmv_cat.mp q] at this
        cases this
      · exact Or.inl e2
/-- the locals of a call -/
theorem zarg_args {ad ea : Nat → Nat} : ∀ (vs : List zV) (i j : Nat) (v : zV), (zarg vs)[j]? = some (some v) → (i + j, zmv ad ea v) ∈ lv_args i (vs.map (zmv ad ea)) := by
  intro vs
  induction vs with
  | nil => intro i j v h; simp [zarg] at h
  | cons x vs ih =>
    intro i j v h
    have one : ∀ (x : zV), ¬ (zmv ad ea x).category = 2 → (some x :: zarg vs)[j]? = some (some v) → (i + j, zmv ad ea v) ∈ lv_args i ((x :: vs).map (zmv ad ea)) := by
      intro x hx h
      simp only [List.map_cons, lv_args, if_neg hx]
      cases j with
      | zero => simp at h; subst h; exact List.mem_cons_self
      | succ j =>
        have h := ih (i + 1) j v (by simpa using h)
        rw [show i + 1 + j = i + (j + 1) by omega] at h
        exact List.mem_cons_of_mem _ h
    rcases x with x | x | x
    · exact one (.inl x) (fun q => by have := zmv_cat.mp q; cases this) h
    · have h : (some (zL x) :: none :: zarg vs)[j]? = some (some v) := h
      have hc : (zmv ad ea (zL x)).category = 2 := zmv_cat.mpr rfl
      show (i + j, zmv ad ea v) ∈ lv_args i (zmv ad ea (zL x) :: vs.map (zmv ad ea))
      simp only [lv_args, if_pos hc]
      match j, h with
      | 0, h => simp at h; subst h; exact List.mem_cons_self
      | 1, h => simp at h
      | j + 2, h =>
        have h := ih (i + 2) j v (by simpa using h)
        rw [show i + 2 + j = i + (j + 2) by omega] at h
        exact List.mem_cons_of_mem _ h
    · exact one (.inr (.inr x)) (fun q => by have := zmv_cat.mp q; cases this) h
theorem zarg_len {ad ea : Nat → Nat} : ∀ (vs : List zV), (lg_sl (vs.map (zmv ad ea))).length = (zarg vs).length := by
  intro vs
  induction vs with
  | nil => rfl
  | cons x vs ih =>
    have e : (lg_sl ((x :: vs).map (zmv ad ea))).length = (if (zmv ad ea x).category = 2 then 2 else 1) + (lg_sl (vs.map (zmv ad ea))).length := by
      simp only [lg_sl, List.map_cons, List.flatMap_cons, List.length_append]
      by_cases h : (zmv ad ea x).category = 2
      · simp [h]
      · simp [h]
    rw [e, ih]
    rcases x with x | x | x
    · rw [if_neg (fun q => by have := zmv_cat.mp q; cases this)]; show 1 + _ = _ + 1; omega
    · rw [if_pos (zmv_cat.mpr rfl)]; show 2 + _ = _ + 1 + 1; omega
    · rw [if_neg (fun q => by have := zmv_cat.mp q; cases this)]; show 1 + _ = _ + 1; omega
theorem zls.entry {ad ea : Nat → Nat} {n : Nat} {vs : List zV} {ls : Array Slot} (hn : (zarg vs).length ≤ n) (h : lv_has ls n (lv_args 0 (vs.map (zmv ad ea)))) : zls n ad ea (zloc n vs) ls := by
  refine ⟨?_, h.1, h.2.1, fun j v hj => ?_⟩
  · show (zarg vs ++ List.replicate (n - (zarg vs).length) none).length = n
    rw [List.length_append, List.length_replicate]; omega
  · have hj : (zarg vs ++ List.replicate (n - (zarg vs).length) none)[j]? = some (some v) := hj
    have hlt : j < (zarg vs).length := by
      rcases Nat.lt_or_ge j (zarg vs).length with q | q
      · exact q
      · rw [List.getElem?_append_right q] at hj
        have := List.mem_of_getElem? hj
        cases (List.mem_replicate.mp this).2
    rw [List.getElem?_append_left hlt] at hj
    have := zarg_args (ad := ad) (ea := ea) vs 0 j v hj
    rw [Nat.zero_add] at this
    exact h.2.2 _ this
