/-! THE REFERENCE: waits, shakes, an hour -/
theorem nZ_b1 {p : Prop} {i : Decidable p} : (nZ (@ite _ p i 1 0) = 0) = ¬ p := by
  cases i with
  | isTrue h => exact propext ⟨fun e => absurd e (show ¬ nZ 1 = 0 by decide), fun e => absurd h e⟩
  | isFalse h => exact propext ⟨fun _ => h, fun _ => rfl⟩
theorem nZ_b0 {p : Prop} {i : Decidable p} : (nZ (@ite _ p i 0 1) = 0) = p := by
  cases i with
  | isTrue h => exact propext ⟨fun _ => h, fun _ => rfl⟩
  | isFalse h => exact propext ⟨fun e => absurd e (show ¬ nZ 1 = 0 by decide), fun e => absurd e h⟩
theorem nZ_10 : (nZ 1 = 0) = False := by decide
theorem nZ_00 : (nZ 0 = 0) = True := by decide
section REFD
variable {X : mv_X} {P : mz_P} {V : mz_V} {z : Nat × Nat} {m d : Nat} {s q u : Nat → Int} {w : Int} {l : List Nat}
theorem mr_has_n {s : Nat → Int} {b : Nat} (hb : b < 10) : mr_has s b = (s (6 + 11 * b) = 1) := by
  unfold mr_has
  rw [Int.toNat_natCast]
  exact propext ⟨fun h => h.2.2, fun h => ⟨by omega, by omega, h⟩⟩
end REFD
