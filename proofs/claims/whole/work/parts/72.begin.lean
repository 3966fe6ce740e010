/-! the context at the law's entry -/
theorem bg_arr {A : Array Value} {U : State} {ty : FieldType} (h : (Cond.arrayClass ty).before A U = true) : ∃ cA kA comp, U.vm.findClass ("[" ++ ty.toString) = some cA ∧ U.vm.classes[cA]? = some kA ∧ kA.kind = .array comp ty := by
  unfold Cond.before at h
  simp only [Cond.holds, Cond.value, beq_iff_eq] at h
  cases hc : U.vm.findClass ("[" ++ ty.toString) with
  | none => simp [hc] at h
  | some cA =>
    simp only [hc, Option.bind_some, Option.map_eq_some_iff] at h
    obtain ⟨k, hk, hb⟩ := h
    cases hkind : k.kind with
    | array comp t =>
      rw [hkind] at hb
      simp at hb
      exact ⟨cA, k, comp, rfl, hk, by rw [hkind, hb]⟩
    | _ => rw [hkind] at hb; simp at hb
theorem bg_t3 {s : State} {A : Array Value} {y : MethodName} (h : (Cond.methodLink "X" 15 y).before A s = true) : False := by
  unfold Cond.before at h
  simp only [Cond.holds, Cond.value, beq_iff_eq, State.poolOf?] at h
  exact h
theorem bg_t6 {s : State} {A : Array Value} {y : MethodName} (h : (Cond.methodLinkNest "X" 15 y "Y").before A s = true) : False := by
  unfold Cond.before at h
  simp only [Cond.holds, Cond.value, beq_iff_eq] at h
  exact h
theorem bg_t7 {s : State} {A : Array Value} {y : MethodName} {m : MethodId} (h : s.methodNamed? y = some m) : False := by
  unfold State.methodNamed? at h
  exact h
theorem bg_t8 {s : State} {m : MethodId} {z : Method} (h : s.vm.method? m = some z) : False := by
  unfold Vm.method? at h
  exact h
