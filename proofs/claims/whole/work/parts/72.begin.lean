/-! the context at the law's entry -/
theorem bg_arr {A : Array Value} {U : State} {ty : FieldType} (h : (Cond.arrayClass ty).before A U = true) : ∃ cA kA comp, U.vm.findClass ("[" ++ ty.toString) = some cA ∧ U.vm.classes[cA]? = some kA ∧ kA.kind = .array comp ty := by
  unfold Cond.before at h
  simp only [Cond.holds, Cond.value, beq_iff_eq] at h
  cases hc : U.vm.findClass ("[" ++ ty.toString) with
  | none => simp [hc] at h
  | some cA =>
    simp only [hc, Option.bind_some, Option.map_eq_some_iff] at h
    obtain ⟨k, hk, hb⟩ := h
    cases hkind : k.kind with
    | array comp t =>
      rw [hkind] at hb
      simp at hb
      exact ⟨cA, k, comp, rfl, hk, by rw [hkind, hb]⟩
    | _ => rw [hkind] at hb; simp at hb
