set_option maxRecDepth 16384
/-! a switch as a row of questions; numbers in range -/
def wswl {α : Type} (rec : Nat → α) (x : Int) (d : Nat) : Int → List Nat → α
  | _, [] => rec d
  | lo, p :: ps => if x = lo then rec p else wswl rec x d (lo + 1) ps
theorem wsw {α : Type} (rec : Nat → α) (x : Int) (d : Nat) (ps : List Nat) (lo : Int) : (if x < lo ∨ lo + (ps.length : Int) - 1 < x then rec d else rec ((d :: ps).getD ((x - lo).toNat + 1) 0)) = wswl rec x d lo ps := by
  induction ps generalizing lo with
  | nil => rw [if_pos (by simp only [List.length_nil]; omega)]; rfl
  | cons p ps ih =>
    rw [List.length_cons]
    by_cases e : x = lo
    · rw [if_neg (by omega)]
      show _ = if x = lo then rec p else wswl rec x d (lo + 1) ps
      rw [if_pos e, e, show (lo - lo).toNat + 1 = 1 by omega]; rfl
    · show _ = if x = lo then rec p else wswl rec x d (lo + 1) ps
      rw [if_neg e, ← ih (lo + 1)]
      by_cases c : x < lo ∨ lo + ((ps.length + 1 : Nat) : Int) - 1 < x
      · rw [if_pos c, if_pos (by omega)]
      · rw [if_neg c, if_neg (by omega)]
        obtain ⟨k, hk⟩ : ∃ k : Nat, x - (lo + 1) = k := ⟨(x - (lo + 1)).toNat, by omega⟩
        rw [show (x - lo).toNat + 1 = k + 2 by omega, show (x - (lo + 1)).toNat + 1 = k + 1 by omega]
        rfl
theorem wr_eq {x : Int} (h1 : -2147483648 ≤ x) (h2 : x ≤ 2147483647) : wr x = x := oI_toInt h1 h2
