/-! CREWS, THE REFERENCE -/
def cq_v (g : Nat → Int) (R : Nat → Prop) : Prop := ∀ T, T < 64 → (g T = mb_pop T ∧ R T) ∨ (g T = -1 ∧ ¬ R T)
theorem cq_v_c {g : Nat → Int} {R R' : Nat → Prop} (h : cq_v g R) (e : ∀ T, T < 64 → (R T ↔ R' T)) : cq_v g R' := fun T hT => (h T hT).imp (fun u => ⟨u.1, (e T hT).mp u.2⟩) fun u => ⟨u.1, fun w => u.2 ((e T hT).mpr w)⟩
section CREF
variable {X : mv_X} {P : mz_P} {V : mz_V} {z : Nat × Nat} {d m : Nat} {s : Nat → Int}
end CREF
