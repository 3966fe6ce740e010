/-! PLAIN FACTS that the contracts use -/
theorem za_in {i n : Nat} (h : i < n) (hn : n < 2 ^ 31) : ab_in (nI i) n := vp_in_nI h hn
theorem za_nin {i n : Nat} (h : n ≤ i) (hi : i < 2 ^ 31) : ¬ ab_in (nI i) n := fun q => by
  have h1 := ab_in_lt q
  rw [nI_clamp hi] at h1
  omega
theorem za_1 (i : Nat) : nI i + (1 : Int32) = nI (i + 1) := nI_1 i
theorem za_cl {i : Nat} (h : i < 2 ^ 31) : (nI i).toNatClampNeg = i := nI_clamp h
theorem za_up_s {μ : ab_M} {r j : Nat} {x : Int32} : ab_up μ r j x r j = x := by simp [ab_up, upd]
theorem za_up_j {μ : ab_M} {r j i : Nat} {x : Int32} (h : i ≠ j) : ab_up μ r j x r i = μ r i := by simp [ab_up, upd, h]
theorem za_up_a {μ : ab_M} {r j a : Nat} {x : Int32} (h : a ≠ r) : ab_up μ r j x a = μ a := by simp [ab_up, h]
/-- yes and no -/
abbrev zb (c : Prop) [Decidable c] : Int32 := if c then 1 else 0
theorem zb_0 {c : Prop} [Decidable c] : zb c = 0 ↔ ¬ c := by unfold zb; split <;> simp_all
theorem zb_n (c : Prop) [Decidable c] : narrow .boolean (.int (zb c)) = .int (zb c) := by unfold zb; split <;> rfl
theorem zb_c {c c' : Prop} [Decidable c] [Decidable c'] (h : c ↔ c') : zb c = zb c' := by unfold zb; by_cases hc : c <;> simp [hc, h.mp, ← h]
theorem za_lt {a b : Int32} : ¬ a < b ↔ b ≤ a := by
  rw [Int32.lt_iff_toInt_lt, Int32.le_iff_toInt_le]; omega
theorem za_le {a b : Int32} : ¬ a ≤ b ↔ b < a := by
  rw [Int32.lt_iff_toInt_lt, Int32.le_iff_toInt_le]; omega
section
variable {E : ab_E} {d : Nat} {μ : ab_M} {r q t : Nat} {a b c w v : Int32}
theorem kX6_isWithin : X6_isWithin E d a b c μ = some (some (.int (zb (b ≤ a ∧ a ≤ c))), μ) := by
  rw [X6_isWithin_q]
  by_cases h1 : a < b
  · rw [if_pos h1, show zb (b ≤ a ∧ a ≤ c) = 0 from zb_0.mpr (fun q => za_lt.mpr q.1 h1)]
  · rw [if_neg h1]
    by_cases h2 : c < a
    · rw [if_pos h2, show zb (b ≤ a ∧ a ≤ c) = 0 from zb_0.mpr (fun q => za_lt.mpr q.2 h2)]
    · rw [if_neg h2, show zb (b ≤ a ∧ a ≤ c) = 1 from if_pos ⟨za_lt.mp h1, za_lt.mp h2⟩]
theorem kX7_in : X7_in E d a b c μ = some (some (.int (zb (b ≤ a ∧ a ≤ c))), μ) := by
  rw [X7_in_q, ← kX6_isWithin (E := E) (d := d), X6_isWithin_q]
theorem kX6_isSheet : X6_isSheet E (d + 1) a μ = some (some (.int (zb (0 ≤ a ∧ a ≤ 3))), μ) := by
  rw [X6_isSheet_q, kX6_isWithin, ab_cI_s, if_pos (zb_n _)]
theorem kX6_isSlot : X6_isSlot E (d + 1) a μ = some (some (.int (zb (0 ≤ a ∧ a ≤ 4))), μ) := by
  rw [X6_isSlot_q, kX6_isWithin, ab_cI_s, if_pos (zb_n _)]
theorem kX0_isKind : X0_isKind E (d + 1) a μ = some (some (.int (zb (0 ≤ a ∧ a ≤ 5))), μ) := by
  rw [X0_isKind_q, kX6_isWithin, ab_cI_s, if_pos (zb_n _)]
theorem kX2_isCorner : X2_isCorner E (d + 1) a μ = some (some (.int (zb (0 ≤ a ∧ a ≤ 5))), μ) := by
  rw [X2_isCorner_q, kX6_isWithin, ab_cI_s, if_pos (zb_n _)]
theorem kX2_has (hr : ab_isRoom r) : X2_has E (d + 1) r a μ = some (some (.int (zb (0 ≤ a ∧ a ≤ μ r 8 - 1))), μ) := by
  rw [X2_has_q hr, kX6_isWithin, ab_cI_s, if_pos (zb_n _)]
theorem kX3_has (hq : ab_isSheet q) : X3_has E (d + 1) q a μ = some (some (.int (zb (0 ≤ a ∧ a ≤ μ q 2 - 1))), μ) := by
  rw [X3_has_q hq, kX6_isWithin, ab_cI_s, if_pos (zb_n _)]
theorem kX7_isCorner : X7_isCorner E (d + 1) a μ = some (some (.int (zb (0 ≤ a ∧ a ≤ 5))), μ) := by
  rw [X7_isCorner_q, kX7_in, ab_cI_s, if_pos (zb_n _)]
theorem kX7_isSheet : X7_isSheet E (d + 1) a μ = some (some (.int (zb (0 ≤ a ∧ a ≤ 3))), μ) := by
  rw [X7_isSheet_q, kX7_in, ab_cI_s, if_pos (zb_n _)]
theorem kX7_isSlot : X7_isSlot E (d + 1) a μ = some (some (.int (zb (0 ≤ a ∧ a ≤ 4))), μ) := by
  rw [X7_isSlot_q, kX7_in, ab_cI_s, if_pos (zb_n _)]
theorem kX7_isSaying : X7_isSaying E (d + 1) a μ = some (some (.int (zb (0 ≤ a ∧ a ≤ μ 77 1 - 1))), μ) := by
  rw [X7_isSaying_q, kX7_in, ab_cI_s, if_pos (zb_n _)]
/-- held within 0 and 99 -/
def zc (x : Int32) : Int32 := if 0 ≤ x then (if x ≤ 99 then x else 99) else 0
theorem kX7_within99 : X7_within E d a 0 99 μ = some (some (.int (zc a)), μ) := by
  rw [X7_within_q]; unfold zc; split
  · split <;> rfl
  · rfl
theorem kJ_max : J9_max_7cf53 E d a b μ = some (some (.int (if a < b then b else a)), μ) := by
  rw [J9_max_7cf53_q]; split <;> rfl
theorem kJ_min : J9_min_7cf53 E d a b μ = some (some (.int (if b < a then b else a)), μ) := by
  rw [J9_min_7cf53_q]; split <;> rfl
theorem kJ_abs : J9_abs_0f7a4 E d a μ = some (some (.int (if 0 ≤ a then a else -a)), μ) := by
  rw [J9_abs_0f7a4_q]; split <;> rfl
theorem zc_m : (if (0 : Int32) < (if a < 99 then a else 99) then (if a < 99 then a else 99) else 0) = zc a := by
  unfold zc
  by_cases h1 : a < 99
  · simp only [h1, if_true]
    by_cases h2 : 0 < a
    · rw [if_pos h2, if_pos (za_lt.mp (fun q => by rw [Int32.lt_iff_toInt_lt] at h2 q; omega)), if_pos (za_lt.mp (fun q => by rw [Int32.lt_iff_toInt_lt] at h1 q; omega))]
    · rw [if_neg h2]
      by_cases h3 : 0 ≤ a
      · have : a = 0 := Int32.toInt_inj.mp (by rw [Int32.lt_iff_toInt_lt] at h2; rw [Int32.le_iff_toInt_le] at h3; omega)
        subst this; rfl
      · rw [if_neg h3]
  · simp only [h1, if_false]
    have h2 : (99 : Int32) ≤ a := za_lt.mp h1
    have h0 : (0 : Int32) ≤ a := by
      rw [Int32.le_iff_toInt_le] at h2 ⊢
      have e1 : (99 : Int32).toInt = 99 := by decide
      have e2 : (0 : Int32).toInt = 0 := by decide
      omega
    rw [if_pos (by decide), if_pos h0]
    split
    · rename_i h3
      exact (Int32.toInt_inj.mp (by rw [Int32.le_iff_toInt_le] at h2 h3; omega))
    · rfl
theorem kX2_held : X2_held E (d + 1) a μ = some (some (.int (zc a)), μ) := by
  rw [X2_held_q, kJ_min, ab_cI_s, kJ_max, ab_cI_s, zc_m]
/-- a kind is one, or under it -/
def zu (k o : Int32) : Prop := k = o ∨ o = 0 ∨ (k = 3 ∧ o = 1) ∨ (k = 4 ∧ o = 2)
theorem zu_dec (k o : Int32) : zu k o ∨ ¬ zu k o := Classical.em _
theorem kX0_isUnder : X0_isUnder E d a b μ = some (some (.int (if a = b ∨ b = 0 ∨ (a = 3 ∧ b = 1) ∨ (a = 4 ∧ b = 2) then 1 else 0)), μ) := by
  rw [X0_isUnder_q]
  by_cases h1 : a = b
  · simp [h1]
  by_cases h2 : b = 0
  · simp [h2]
  by_cases h3 : a = 3 <;> by_cases h4 : b = 1 <;> by_cases h5 : a = 4 <;> by_cases h6 : b = 2 <;> simp_all
theorem kX7_isUnder : X7_isUnder E d a b μ = some (some (.int (if a = b ∨ b = 0 ∨ (a = 3 ∧ b = 1) ∨ (a = 4 ∧ b = 2) then 1 else 0)), μ) := by
  rw [X7_isUnder_q]
  by_cases h1 : a = b
  · simp [h1]
  by_cases h2 : b = 0
  · simp [h2]
  by_cases h3 : a = 3 <;> by_cases h4 : b = 1 <;> by_cases h5 : a = 4 <;> by_cases h6 : b = 2 <;> simp_all
end
