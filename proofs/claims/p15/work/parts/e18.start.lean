set_option maxRecDepth 16384
/-- the heap of the law's start -/
def zh0 (L : Nat) (xs : Nat → Int32) : zH := ((0, (fun _ => (0, 0)), (fun _ _ => 0), L, xs), (fun _ _ => 0), (fun _ _ => 0), 0, 0)
theorem zh0_wf (L : Nat) (xs : Nat → Int32) : zwf (zh0 L xs) := ⟨fun a h => absurd rfl h, fun a j => Nat.le_refl 0, fun a j h => rfl⟩
