/-! sheets and slots: asking -/
section
variable {E : ab_E} {d : Nat} {μ μ' μ'' : ab_M} {r n m : Nat} {N M A : Nat → Int32} {a b c : Int32}
theorem isSh {i : Nat} (h : i < 4) : ab_isSheet (50 + 2 * i) := by
  rcases (show i = 0 ∨ i = 1 ∨ i = 2 ∨ i = 3 by omega) with rfl | rfl | rfl | rfl
  · exact ab_sheet_50
  · exact ab_sheet_52
  · exact ab_sheet_54
  · exact ab_sheet_56
theorem isSl {i : Nat} (h : i < 5) : ab_isSlot (59 + 3 * i) := by
  rcases (show i = 0 ∨ i = 1 ∨ i = 2 ∨ i = 3 ∨ i = 4 by omega) with rfl | rfl | rfl | rfl | rfl
  · exact ab_slot_59
  · exact ab_slot_62
  · exact ab_slot_65
  · exact ab_slot_68
  · exact ab_slot_71
theorem isSlS {i : Nat} (h : i < 5) : ab_isSheet (59 + 3 * i + 1) := ⟨by omega, (isSl h).2.2.1, (isSl h).2.2.2⟩
theorem za_3 {a : Int32} : (0 ≤ a ∧ a ≤ 3) ↔ ∃ s, s < 4 ∧ a = nI s := (za_rng (k := 3) (by decide)).trans ⟨fun ⟨s, h, e⟩ => ⟨s, by omega, e⟩, fun ⟨s, h, e⟩ => ⟨s, by omega, e⟩⟩
theorem za_4 {a : Int32} : (0 ≤ a ∧ a ≤ 4) ↔ ∃ s, s < 5 ∧ a = nI s := (za_rng (k := 4) (by decide)).trans ⟨fun ⟨s, h, e⟩ => ⟨s, by omega, e⟩, fun ⟨s, h, e⟩ => ⟨s, by omega, e⟩⟩
theorem za_24 {i k : Nat} : (24 : Int32) * nI i + nI k = nI (24 * i + k) := by
  show nI 24 * nI i + nI k = _
  rw [pk_mul, nI_add]
theorem p_rest : PR (X6_rest E (d + 100) a b) (X7_rest E (d + 100) a b) := by
  intro μ s
  obtain ⟨n, m, e, sa, h4, so⟩ := id s
  have hX : X6_rest E (d + 100) a b μ = _ := X6_rest_q
  have hY : X7_rest E (d + 100) a b μ = _ := X7_rest_q
  rw [kX6_isSlot, ab_cI_s] at hX
  rw [kX7_isSlot, ab_cI_s] at hY
  by_cases ha : 0 ≤ a ∧ a ≤ 4
  · obtain ⟨i, hi, rfl⟩ := za_4.mp ha
    obtain ⟨th, t0, t1, t2, t3, t4, t5⟩ := so.2.2.2.1 i hi
    have h5 := za_in hi (show 5 < 2 ^ 31 by decide)
    rw [zb_t ha, if_pos (by decide), if_pos h5] at hX
    rw [zb_t ha, if_pos (by decide), if_pos h5] at hY
    simp only [za_cl (show i < 2 ^ 31 by omega), t1, if_pos h5] at hX
    simp only [za_cl (show i < 2 ^ 31 by omega), t2, if_pos h5] at hY
    by_cases th0 : th = 0
    · rw [if_neg (fun q => q (by rw [th0]; rfl))] at hX hY
      exact ⟨_, μ, μ, hX, hY, s⟩
    · have n0 : ¬ nI th = (0 : Int32) := fun q => th0 ((nI_eq (b := 0) (by omega) (by decide)).mp q)
      rw [if_pos n0] at hX hY
      by_cases th3 : th = 3
      · rw [if_pos (show nI th = (3 : Int32) by rw [th3]; rfl)] at hX hY
        by_cases b0 : b = 0
        · rw [if_neg (fun q => q b0)] at hX hY
          exact ⟨_, μ, μ, hX, hY, s⟩
        · rw [if_pos b0, if_pos b0, t5 th3] at hX
          rw [if_pos b0] at hY
          by_cases b1 : b = -1
          · rw [if_neg (fun q => q b1)] at hY
            have ez : μ 93 i - μ 93 i / b * b = 0 := by
              rw [b1]
              generalize μ 93 i = x
              have : x / (-1 : Int32) = -x := by
                apply Int32.toInt_inj.mp
                rw [Int32.toInt_div, show (-1 : Int32).toInt = -1 by decide, Int.tdiv_neg, Int.tdiv_one, Int32.toInt_neg]
              rw [this, Int32.mul_comm, Int32.neg_mul, Int32.one_mul, Int32.neg_neg, Int32.sub_self]
            rw [ez] at hX
            exact ⟨_, μ, μ, hX, hY, s⟩
          · rw [if_pos b1, if_pos b0] at hY
            exact ⟨_, μ, μ, hX, hY, s⟩
      · have n3 : ¬ nI th = (3 : Int32) := fun q => th3 ((nI_eq (b := 3) (by omega) (by decide)).mp q)
        rw [if_neg n3] at hX hY
        exact ⟨_, μ, μ, hX, hY, s⟩
  · rw [zb_f ha, if_neg (by decide)] at hX hY
    exact ⟨_, μ, μ, hX, hY, s⟩
theorem p_ask : PR (X6_ask E (d + 100) a b) (X7_ask E (d + 100) a b) := by
  intro μ s
  obtain ⟨n, m, e, sa, h4, so⟩ := id s
  have hX : X6_ask E (d + 100) a b μ = _ := X6_ask_q
  have hY : X7_ask E (d + 100) a b μ = _ := X7_ask_q
  rw [kX6_isSlot, ab_cI_s] at hX
  rw [kX7_isSlot, ab_cI_s] at hY
  by_cases ha : 0 ≤ a ∧ a ≤ 4
  · obtain ⟨i, hi, rfl⟩ := za_4.mp ha
    obtain ⟨th, t0, t1, t2, t3, t4, t5⟩ := so.2.2.2.1 i hi
    have h5 := za_in hi (show 5 < 2 ^ 31 by decide)
    rw [zb_t ha, if_neg (by decide), kX0_isKind, ab_cI_s] at hX
    rw [zb_t ha, if_neg (by decide), kX7_in, ab_cI_s] at hY
    by_cases hb : 0 ≤ b ∧ b ≤ 5
    · rw [zb_t hb, if_pos (by decide), if_pos h5] at hX
      rw [zb_t hb, if_pos (by decide), if_pos h5] at hY
      simp only [za_cl (show i < 2 ^ 31 by omega), t1, if_pos h5, kX0_isUnder, ab_cI_s] at hX
      simp only [za_cl (show i < 2 ^ 31 by omega), t2, if_pos h5, kX7_isUnder, ab_cI_s] at hY
      by_cases th0 : th = 0
      · rw [if_neg (fun q => q (by rw [th0]; rfl))] at hX hY
        exact ⟨_, μ, μ, hX, hY, s⟩
      · have n0 : ¬ nI th = (0 : Int32) := fun q => th0 ((nI_eq (b := 0) (by omega) (by decide)).mp q)
        rw [if_pos n0] at hX hY
        by_cases th1 : th = 1
        · obtain ⟨x, y, x0, y0, x1, y1, k1, w1⟩ := t3 th1
          rw [if_neg (show ¬ ¬ nI th = (1 : Int32) from fun q => q (by rw [th1]; rfl)), k1, x1, y1, kX0_worth x0 y0, ab_cI_s] at hX
          rw [if_neg (show ¬ ¬ nI th = (1 : Int32) from fun q => q (by rw [th1]; rfl)), w1] at hY
          by_cases hu : μ 93 i = b ∨ b = 0 ∨ (μ 93 i = 3 ∧ b = 1) ∨ (μ 93 i = 4 ∧ b = 2)
          · rw [if_pos hu, if_pos (by decide)] at hX
            rw [if_pos hu, if_neg (by decide)] at hY
            exact ⟨_, μ, μ, hX, hY, s⟩
          · rw [if_neg hu, if_neg (by decide)] at hX
            rw [if_neg hu, if_pos rfl] at hY
            exact ⟨_, μ, μ, hX, hY, s⟩
        · have n1 : ¬ nI th = (1 : Int32) := fun q => th1 ((nI_eq (b := 1) (by omega) (by decide)).mp q)
          rw [if_pos n1] at hX hY
          exact ⟨_, μ, μ, hX, hY, s⟩
    · rw [zb_f hb, if_neg (by decide)] at hX hY
      exact ⟨_, μ, μ, hX, hY, s⟩
  · rw [zb_f ha, if_pos rfl] at hX hY
    exact ⟨_, μ, μ, hX, hY, s⟩
theorem p_item : PR (X6_item E (d + 100) a b) (X7_item E (d + 100) a b) := by
  intro μ s
  obtain ⟨n, m, e, sa, h4, so⟩ := id s
  have hX : X6_item E (d + 100) a b μ = _ := X6_item_q
  have hY : X7_item E (d + 100) a b μ = _ := X7_item_q
  rw [kX6_isSlot, ab_cI_s] at hX
  rw [kX7_isSlot, ab_cI_s] at hY
  by_cases ha : 0 ≤ a ∧ a ≤ 4
  · obtain ⟨i, hi, rfl⟩ := za_4.mp ha
    obtain ⟨th, t0, t1, t2, t3, t4, t5⟩ := so.2.2.2.1 i hi
    have h5 := za_in hi (show 5 < 2 ^ 31 by decide)
    rw [zb_t ha, if_pos (by decide), if_pos h5] at hX
    rw [zb_t ha, if_pos (by decide), if_pos h5] at hY
    simp only [za_cl (show i < 2 ^ 31 by omega), t1, if_pos h5] at hX
    simp only [za_cl (show i < 2 ^ 31 by omega), t2, if_pos h5] at hY
    by_cases th0 : th = 0
    · rw [if_neg (fun q => q (by rw [th0]; rfl))] at hX hY
      exact ⟨_, μ, μ, hX, hY, s⟩
    · have n0 : ¬ nI th = (0 : Int32) := fun q => th0 ((nI_eq (b := 0) (by omega) (by decide)).mp q)
      rw [if_pos n0] at hX hY
      by_cases th2 : th = 2
      · obtain ⟨z, z0, z1, z2, z3⟩ := t4 th2
        rw [if_pos (show nI th = (2 : Int32) by rw [th2]; rfl), kX3_has (isSlS hi), ab_cI_s, show μ (59 + 3 * i + 1) 2 = nI z by rw [show 59 + 3 * i + 1 = 60 + 3 * i by omega]; exact z1] at hX
        rw [if_pos (show nI th = (2 : Int32) by rw [th2]; rfl), z2, kX7_in, ab_cI_s] at hY
        by_cases hb : 0 ≤ b ∧ b ≤ nI z - 1
        · obtain ⟨k, hk, rfl⟩ := (za_has (by omega)).mp hb
          have h24 := za_in (show k < 24 by omega) (show 24 < 2 ^ 31 by decide)
          have ek := z3 k (by omega)
          rw [show 61 + 3 * i = 59 + 3 * i + 1 + 1 by omega] at ek
          rw [zb_t hb, if_pos (by decide), X3_isNumber_q (isSlS hi), if_pos h24] at hX
          simp only [za_cl (show k < 2 ^ 31 by omega), if_pos h24, ek] at hX
          rw [zb_t hb, if_pos (by decide), za_24, if_pos (za_in (show 24 * i + k < 120 by omega) (by decide)), za_cl (by omega)] at hY
          by_cases hv : μ 95 (24 * i + k) = -1000000005
          · rw [if_pos hv, ab_cI_s, if_pos rfl] at hX
            rw [if_neg (fun q => q hv)] at hY
            exact ⟨_, μ, μ, hX, hY, s⟩
          · rw [if_neg hv, ab_cI_s, if_neg (by decide), ek] at hX
            rw [if_pos hv] at hY
            exact ⟨_, μ, μ, hX, hY, s⟩
        · rw [zb_f hb, if_neg (by decide)] at hX hY
          exact ⟨_, μ, μ, hX, hY, s⟩
      · have n2 : ¬ nI th = (2 : Int32) := fun q => th2 ((nI_eq (b := 2) (by omega) (by decide)).mp q)
        rw [if_neg n2] at hX hY
        exact ⟨_, μ, μ, hX, hY, s⟩
  · rw [zb_f ha, if_neg (by decide)] at hX hY
    exact ⟨_, μ, μ, hX, hY, s⟩
end
