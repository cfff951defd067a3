theorem lw_sub {C : String} {x y : MethodName} {s : State} {args : Array Value} (hy : y.cls ≠ "java/lang/invoke/MethodHandle" ∧ y.cls ≠ "java/lang/invoke/VarHandle") (hxy : x.cls = y.cls)
    (hsel : (Cond.selects C x x).before args s = true) (hpriv : (Cond.privateMethod y).before args s = true) (hinst : (Cond.instanceMethod y).before args s = true) : (Cond.selects C y y).before args s = true := by
  obtain ⟨mk, methM, hnamed, hmethM, -, -⟩ := Cond.instanceMethod_spec hinst
  have hfound : s.methodFound? y.cls y.name y.desc = some mk := State.methodFound?_of_named hnamed hy
  simp only [Cond.before, Cond.holds, Cond.value] at hsel
  cases hC : s.vm.findClass C with
  | none => simp [hC] at hsel
  | some c =>
    cases hx : s.methodNamed? x with
    | none => simp [hC, hx] at hsel
    | some m0 =>
      cases hf : s.methodFound? x.cls x.name x.desc with
      | none => simp [hC, hx, hf] at hsel
      | some r =>
        simp only [hC, hx, hf] at hsel
        have hcls : m0.cls = mk.cls := by
          have a := findClass_of_methodNamed hx
          have b := findClass_of_methodNamed hnamed
          rw [hxy, b] at a
          exact (Option.some.inj a).symm
        have hsl : selectMethod {} s.vm c mk = .method mk := selectMethod_private hmethM (Cond.privateMethod_at hpriv mk methM hnamed hmethM)
        have hany : (s.vm.classes[mk.cls]?).any (!·.isInterface) = true := by
          rw [← hcls]
          split at hsel
          · simp at hsel
            simp [hsel]
            done
          · simp at hsel
        simp only [Cond.before, Cond.holds, Cond.value, hC, hfound, hnamed, hsl, hany]
        simp
theorem lw_subs_ok {args : Array Value} {s : State} (h : ∀ w ∈ tables_1, w.before args s = true) : ∀ w ∈ lw_subs, w.before args s = true := by
  intro w hw
  have h0 : (Cond.selects "java/lang/StringBuilder" (lw_ASB "isLatin1" "()Z") (lw_ASB "isLatin1" "()Z")).before args s = true := h _ (List.mem_of_getElem? (i := 926) (by decide +kernel))
  rcases List.mem_cons.mp hw with rfl | hw
  · exact lw_sub (x := lw_ASB "isLatin1" "()Z") ⟨by decide +kernel, by decide +kernel⟩ rfl h0 (h _ (List.mem_of_getElem? (i := 893) (by decide +kernel))) (h _ (List.mem_of_getElem? (i := 894) (by decide +kernel)))
  rcases List.mem_cons.mp hw with rfl | hw
  · exact lw_sub (x := lw_ASB "isLatin1" "()Z") ⟨by decide +kernel, by decide +kernel⟩ rfl h0 (h _ (List.mem_of_getElem? (i := 897) (by decide +kernel))) (h _ (List.mem_of_getElem? (i := 898) (by decide +kernel)))
  rcases List.mem_cons.mp hw with rfl | hw
  · exact lw_sub (x := lw_ASB "isLatin1" "()Z") ⟨by decide +kernel, by decide +kernel⟩ rfl h0 (h _ (List.mem_of_getElem? (i := 964) (by decide +kernel))) (h _ (List.mem_of_getElem? (i := 965) (by decide +kernel)))
  rcases List.mem_cons.mp hw with rfl | hw
  · exact lw_sub (x := lw_ASB "isLatin1" "()Z") ⟨by decide +kernel, by decide +kernel⟩ rfl h0 (h _ (List.mem_of_getElem? (i := 968) (by decide +kernel))) (h _ (List.mem_of_getElem? (i := 969) (by decide +kernel)))
  exact absurd hw List.not_mem_nil
