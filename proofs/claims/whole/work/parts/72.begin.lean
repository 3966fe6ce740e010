/-! the context at the law's entry -/
theorem bg_arr {A : Array Value} {U : State} {ty : FieldType} (h : (Cond.arrayClass ty).before A U = true) : ∃ cA kA comp, U.vm.findClass ("[" ++ ty.toString) = some cA ∧ U.vm.classes[cA]? = some kA ∧ kA.kind = .array comp ty := by
  unfold Cond.before at h
  simp only [Cond.holds, Cond.value, beq_iff_eq] at h
  cases hc : U.vm.findClass ("[" ++ ty.toString) with
  | none => simp [hc] at h
  | some cA =>
    simp only [hc, Option.bind_some, Option.map_eq_some_iff] at h
    obtain ⟨k, hk, hb⟩ := h
    cases hkind : k.kind with
    | array comp t =>
      rw [hkind] at hb
      simp at hb
      exact ⟨cA, k, comp, rfl, hk, by rw [hkind, hb]⟩
    | _ => rw [hkind] at hb; simp at hb
theorem bg_T {U : State} {cA : ClassId} {kA : Class} {comp : ClassId} {ty : FieldType} (h2 : U.vm.classes[cA]? = some kA) (h3 : kA.kind = .array comp ty) : ArrOfT U cA ty := fun n z => ⟨(fun k h => by cases h), kA, h2, comp, h3⟩
theorem bg_U {w : Cond} (h : w ∈ ab_U) : w ∈ lw_tbl := (List.mem_filter.mp h).1
def bgS (i : Nat) : Term := .string (ab_R (ab_ksT.getD i (0, 0, 0)).1) (ab_ksT.getD i (0, 0, 0)).2.1
theorem bg_kl : ∀ c, c < 8 → 1 ≤ c → Cond.instantiable (ab_R c) (ab_N c) ∈ ab_U := by
  intro c h1 h2
  rcases (show c = 1 ∨ c = 2 ∨ c = 3 ∨ c = 4 ∨ c = 5 ∨ c = 6 ∨ c = 7 by omega) with rfl | rfl | rfl | rfl | rfl | rfl | rfl
  · exact (ab_okklT (o := 6) (j := 7) (by decide)).2.1
  · exact (ab_okklT (o := 6) (j := 16) (by decide)).2.1
  · exact (ab_okklT (o := 6) (j := 38) (by decide)).2.1
  · exact (ab_okklT (o := 6) (j := 45) (by decide)).2.1
  · exact (ab_okklT (o := 6) (j := 31) (by decide)).2.1
  · exact (ab_okklT (o := 8) (j := 7) (by decide)).2.1
  · exact (ab_okklT (o := 8) (j := 10) (by decide)).2.1
theorem bg_aI : Cond.arrayClass .int ∈ lw_tbl := by decide +kernel
theorem bg_aZ : Cond.arrayClass .boolean ∈ lw_tbl := by decide +kernel
theorem bg_aC : Cond.arrayClass .char ∈ lw_tbl := by decide +kernel
theorem bg_aA : Cond.arrayOver (.array .int) ∈ lw_tbl := by decide +kernel
theorem bg_a3 : Cond.arrayOver (.object RX3) ∈ lw_tbl := by decide +kernel
theorem bg_a4 : Cond.arrayOver (.object RX4) ∈ lw_tbl := by decide +kernel
theorem bg_nest : ∀ e ∈ ab_mlSN ++ ab_mlIN, Cond.methodLinkNest (ab_R e.1) e.2.1 (ab_Y e.2.2) RX6 ∈ lw_tbl := by decide +kernel
theorem bg_sr : ∀ i, i < 14 → Cond.stringRef (ab_R (ab_ksT.getD i (0, 0, 0)).1) (ab_ksT.getD i (0, 0, 0)).2.1 (ab_tx.getD i "") ∈ lw_tbl := by decide +kernel
theorem bg_z1 : Cond.laysStatic "java/lang/String" "COMPACT_STRINGS" "Z" ∈ lw_tbl := by decide +kernel
theorem bg_z2 : Cond.initialized "java/lang/String" ∈ lw_tbl := by decide +kernel
theorem bg_z3 : Cond.laysStatic "jdk/internal/util/Preconditions" "SIOOBE_FORMATTER" "Ljava/util/function/BiFunction;" ∈ lw_tbl := by decide +kernel
theorem bg_z4 : Cond.initialized "jdk/internal/util/Preconditions" ∈ lw_tbl := by decide +kernel
theorem bg_ln : ∀ i, i < 14 → ab_ln.getD i 0 < 2 ^ 31 := by decide +kernel
theorem bg_ix : ∀ e ∈ ab_ksT, e.2.2 < 14 ∧ ab_ksT.getD e.2.2 (0, 0, 0) = e := by decide +kernel
section
variable {s : State} {b L : Nat} {xs : Nat → Int32}
/-- the classes -/
theorem bg_K (hts : ∀ w ∈ lw_tbl, w.before #[Value.ref b] s = true) : ∃ (D : va_G) (cT : Nat → ClassId), va_K D ab_cm (ab_tys cT) s := by
  have hk : ∀ c : Nat, ∃ q : ClassId × (Nat → Nat), 1 ≤ c → c < 8 → u_Kn s (ab_R c) (ab_T c) (ab_N c) q.1 q.2 := by
    have one : ∀ c, 1 ≤ c → c < 8 → ∃ q : ClassId × (Nat → Nat), u_Kn s (ab_R c) (ab_T c) (ab_N c) q.1 q.2 := fun c h1 h2 => by
      obtain ⟨cC, iS, h⟩ := u_known (C := ab_R c) (T := ab_T c) (N := ab_N c) (n := ab_N c) hts (fun w hw => bg_U (ab_okW h2 w hw)) (hts _ (bg_U (bg_kl c h2 h1)))
      exact ⟨(cC, iS), h⟩
    intro c
    by_cases h1 : 1 ≤ c
    · by_cases h2 : c < 8
      · obtain ⟨q, h⟩ := one c h1 h2; exact ⟨q, fun _ _ => h⟩
      · obtain ⟨q, h⟩ := one 1 (by decide) (by decide); exact ⟨q, fun _ w => absurd w h2⟩
    · obtain ⟨q, h⟩ := one 1 (by decide) (by decide); exact ⟨q, fun w => absurd w h1⟩
  obtain ⟨F, hF⟩ := Classical.axiomOfChoice hk
  obtain ⟨cI, kI, pI, i1, i2, i3⟩ := bg_arr (hts _ bg_aI)
  obtain ⟨cZ, kZ, pZ, z1, z2, z3⟩ := bg_arr (hts _ bg_aZ)
  obtain ⟨cC, kC, pC, c1, c2, c3⟩ := bg_arr (hts _ bg_aC)
  obtain ⟨pA, cA, kA, a1, -, a2, a3, a4⟩ := ab_AOA_spec (hts _ bg_aA)
  obtain ⟨p3, c3', k3, d1, -, d2, d3, d4⟩ := Cond.arrayOver_spec (hts _ bg_a3)
  obtain ⟨p4, c4', k4, e1, -, e2, e3, e4⟩ := Cond.arrayOver_spec (hts _ bg_a4)
  refine ⟨(fun c => if c = 0 then (F 1).1 else (F c).1, fun c => if c = 0 then (F 1).2 else (F c).2), fun t => if t = 1 then cI else if t = 2 then cZ else if t = 3 then cC else if t = 5 then cA else if t = 6 then c3' else c4', fun c q hq => ?_, fun k q hq => ?_⟩
  · have hc : c < 8 := (List.getElem?_eq_some_iff.mp hq).1
    rcases (show c = 0 ∨ c = 1 ∨ c = 2 ∨ c = 3 ∨ c = 4 ∨ c = 5 ∨ c = 6 ∨ c = 7 by omega) with rfl | rfl | rfl | rfl | rfl | rfl | rfl | rfl
    · cases hq; exact hF 1 (by decide) (by decide)
    · cases hq; exact hF 1 (by decide) (by decide)
    · cases hq; exact hF 2 (by decide) (by decide)
    · cases hq; exact hF 3 (by decide) (by decide)
    · cases hq; exact hF 4 (by decide) (by decide)
    · cases hq; exact hF 5 (by decide) (by decide)
    · cases hq; exact hF 6 (by decide) (by decide)
    · cases hq; exact hF 7 (by decide) (by decide)
  · have hc : k < 6 := (List.getElem?_eq_some_iff.mp hq).1
    rcases (show k = 0 ∨ k = 1 ∨ k = 2 ∨ k = 3 ∨ k = 4 ∨ k = 5 by omega) with rfl | rfl | rfl | rfl | rfl | rfl
    · cases hq; exact ⟨bg_T i2 i3, i1⟩
    · cases hq; exact ⟨bg_T z2 z3, z1⟩
    · cases hq; exact ⟨bg_T c2 c3, c1⟩
    · cases hq; exact ⟨bg_T a2 a3, a4⟩
    · cases hq; exact ⟨bg_T d2 d3, k3, p3, d2, d3, d1, d4⟩
    · cases hq; exact ⟨bg_T e2 e3, k4, p4, e2, e3, e1, e4⟩
/-- the strings -/
theorem bg_str (hgv : (Jvm.Cond.and given_1 narrow_1).before #[Value.ref b] s = true) : ∃ adK adV : Nat → Nat, vk_S 14 ab_ln ab_by adK adV (fun q => s.heap.size ≤ q) s s.heap ∧ ∀ i : Nat, i < 14 → (bgS i).eval #[Value.ref b] s none [] s = some (.ref (adK i)) := by
  have hs := flat_of_before _ hgv
  refine vk_Sof (tm := bgS) bg_ln (fun i hi => hs _ (by revert hi; revert i; decide +kernel)) (fun i hi => hs _ (by revert hi; revert i; decide +kernel)) (fun i hi => hs _ (by revert hi; revert i; decide +kernel)) (fun i hi => hs _ (by revert hi; revert i; decide +kernel)) (fun i hi j hj => hs _ ?_) (fun i j hi hj hne => ?_) (fun a ha => by omega)
  · revert hj; revert j; revert hi; revert i; decide +kernel
  · rcases Nat.lt_or_gt_of_ne hne with h | h
    · left; exact hs _ (by revert h; revert hj; clear hne; revert j; revert hi; revert i; decide +kernel)
    · right; exact hs _ (by revert h; revert hj; clear hne; revert j; revert hi; revert i; decide +kernel)
end
