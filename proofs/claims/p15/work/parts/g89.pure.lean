theorem zlaw_pure (L : Nat) (xs : Nat → Int32) (hL : L ≤ 240) : ∃ hF, zev zP 225 0 (zloc 7 [zX 0]) [] (zh0 L xs) = some (.inl (some (zI 1)), hF) ∧ zcn hF ≤ 600096 ∧ zsn hF ≤ 7301386 := by
  obtain ⟨r, hF, e, rfl, h1, h2⟩ := zlaw_p0 L xs hL
  exact ⟨hF, e, h1, h2⟩
