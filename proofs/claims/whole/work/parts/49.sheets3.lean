section
variable {E : ab_E} {d : Nat} {μ μ' μ'' : ab_M} {r n m : Nat} {N M A : Nat → Int32} {a b c : Int32}
theorem shW {i k : Nat} {v : Int32} (s : SI μ) (hi : i < 4) (hk : k < 24) : SI (ab_up (ab_up μ (51 + 2 * i) k v) 91 (24 * i + k) v) := by
  have sd := (id s).choose_spec.choose_spec.choose_spec.2.2.2.2.1
  obtain ⟨p1, p2, ⟨z, z0, z1, z2⟩, p4⟩ := sd i hi
  have fa : ∀ a, a ≠ 51 + 2 * i → a ≠ 91 → ab_up (ab_up μ (51 + 2 * i) k v) 91 (24 * i + k) v a = μ a := fun a h1 h2 => by rw [za_up_a h2, za_up_a h1]
  refine s.sd (SD.set (i := i) sd (fun q hq hne => ⟨fa _ (by omega) (by omega), fa _ (by omega) (by omega), by rw [fa _ (by omega) (by omega)], by rw [fa _ (by omega) (by omega)], fun k' hk' => ?_⟩) ⟨by rw [fa _ (by omega) (by omega)]; exact p1, by rw [fa _ (by omega) (by omega), fa _ (by omega) (by omega)]; exact p2, ⟨z, z0, by rw [fa _ (by omega) (by omega)]; exact z1, by rw [fa _ (by omega) (by omega)]; exact z2⟩, fun k' hk' => ?_⟩) fun a h1 h2 h3 => fa a (by omega) (by omega)
  · rw [za_up_j (by omega), za_up_a (by omega)]
  · rw [za_up_a (show 51 + 2 * i ≠ 91 by omega)]
    by_cases e : k' = k
    · subst e; rw [za_up_s, za_up_s]
    · rw [za_up_j e, za_up_j (by omega), za_up_a (show 91 ≠ 51 + 2 * i by omega)]; exact p4 k' hk'
theorem p_mark : PR (X6_mark E (d + 100) a b c) (X7_mark E (d + 100) a b c) := by
  intro μ s
  have sd := (id s).choose_spec.choose_spec.choose_spec.2.2.2.2.1
  have hX : X6_mark E (d + 100) a b c μ = _ := X6_mark_q
  rw [kX6_isSheet, ab_cI_s] at hX
  by_cases ha : 0 ≤ a ∧ a ≤ 3
  · obtain ⟨i, hi, rfl⟩ := za_3.mp ha
    have h4 := za_in hi (show 4 < 2 ^ 31 by decide)
    have hcl := za_cl (show i < 2 ^ 31 by omega)
    obtain ⟨p1, p2, ⟨z, z0, z1, z2⟩, p4⟩ := sd i hi
    rw [zb_t ha, if_pos (by decide), if_pos h4] at hX
    simp only [hcl, X3_isMissing_q (isSh hi), kX3_has (isSh hi), z1] at hX
    have n91 : ∀ k v, ab_up μ (51 + 2 * i) k v 89 = μ 89 := fun k v => za_up_a (by omega)
    have n90 : ∀ k v, ab_up μ (51 + 2 * i) k v 90 = μ 90 := fun k v => za_up_a (by omega)
    have hY : ∀ μ1, μ1 89 = μ 89 → μ1 90 = μ 90 → X7_mark E (d + 100) (nI i) b c μ1 = X7_mark E (d + 100) (nI i) b c μ1 := fun _ _ _ => rfl
    clear hY
    by_cases hb : 0 ≤ b ∧ b ≤ nI z - 1
    · obtain ⟨k, hk, rfl⟩ := (za_has (by omega)).mp hb
      have h24 := za_in (show k < 24 by omega) (show 24 < 2 ^ 31 by decide)
      have h96 := za_in (show 24 * i + k < 96 by omega) (show 96 < 2 ^ 31 by decide)
      have hck := za_cl (show k < 2 ^ 31 by omega)
      have hckk := za_cl (show 24 * i + k < 2 ^ 31 by omega)
      rcases p1 with p1 | p1 | p1
      · have hY : X7_mark E (d + 100) (nI i) (nI k) c μ = _ := X7_mark_q
        rw [kX7_isSheet, ab_cI_s, zb_t ha, if_pos (by decide), if_pos h4] at hY
        simp only [hcl] at hY
        rw [p2, p1, if_neg (by decide)] at hY
        rw [p1, if_neg (fun q => q rfl), ab_cI_s, if_neg (by decide)] at hX
        exact ⟨_, _, _, hX, hY, s⟩
      · rw [p1, if_pos (by decide), ab_cI_s, if_pos rfl, z1, zb_t hb, ab_cI_s, if_pos (by decide), p1, if_neg (fun q => q rfl)] at hX
        by_cases cN : c = -1000000005
        · have hY : X7_mark E (d + 100) (nI i) (nI k) c μ = _ := X7_mark_q
          rw [kX7_isSheet, ab_cI_s, zb_t ha, if_pos (by decide), if_pos h4] at hY
          simp only [hcl] at hY
          rw [p2, p1, if_pos (by decide), if_pos h4, kX7_in, ab_cI_s, z2, zb_t hb, if_pos (by decide), if_pos h4, p2, p1, if_neg (fun q => q rfl), if_neg (fun q => q cN)] at hY
          rw [if_neg (fun q => q cN)] at hX
          exact ⟨_, _, _, hX, hY, s⟩
        · rw [if_pos cN, if_pos h24, hck, show 50 + 2 * i + 1 = 51 + 2 * i by omega] at hX
          have hY : X7_mark E (d + 100) (nI i) (nI k) c (ab_up μ (51 + 2 * i) k c.toInt16.toInt32) = _ := X7_mark_q
          rw [kX7_isSheet, ab_cI_s, zb_t ha, if_pos (by decide), if_pos h4] at hY
          simp only [hcl] at hY
          rw [n91, p2, p1, if_pos (by decide), if_pos h4, kX7_in, ab_cI_s, n90, z2, zb_t hb, if_pos (by decide), if_pos h4, n91, p2, p1, if_neg (fun q => q rfl), if_pos cN, if_pos h4, if_pos (by decide), if_pos h4, if_neg (fun q => q rfl), za_24, if_pos h96, hckk] at hY
          exact ⟨_, _, _, hX, hY, shW s hi (by omega)⟩
      · rw [p1, if_pos (by decide), ab_cI_s, if_pos rfl, z1, zb_t hb, ab_cI_s, if_pos (by decide), p1, if_pos (by decide)] at hX
        by_cases cN : c = -1000000005
        · rw [if_pos cN, if_pos h24, hck, show 50 + 2 * i + 1 = 51 + 2 * i by omega] at hX
          have hY : X7_mark E (d + 100) (nI i) (nI k) c (ab_up μ (51 + 2 * i) k c) = _ := X7_mark_q
          rw [kX7_isSheet, ab_cI_s, zb_t ha, if_pos (by decide), if_pos h4] at hY
          simp only [hcl] at hY
          rw [n91, p2, p1, if_pos (by decide), if_pos h4, kX7_in, ab_cI_s, n90, z2, zb_t hb, if_pos (by decide), if_pos h4, n91, p2, p1, if_pos (by decide), if_pos h4, if_neg (fun q => q rfl), if_pos cN, if_pos h4, if_pos (by decide), za_24, if_pos h96, hckk] at hY
          exact ⟨_, _, _, hX, hY, shW s hi (by omega)⟩
        · rw [if_neg cN, kX6_isWithin, ab_cI_s] at hX
          by_cases hc : -99999 ≤ c ∧ c ≤ 99999
          · rw [zb_t hc, if_pos (by decide), if_pos h24, hck, show 50 + 2 * i + 1 = 51 + 2 * i by omega] at hX
            have hY : X7_mark E (d + 100) (nI i) (nI k) c (ab_up μ (51 + 2 * i) k c) = _ := X7_mark_q
            rw [kX7_isSheet, ab_cI_s, zb_t ha, if_pos (by decide), if_pos h4] at hY
            simp only [hcl] at hY
            rw [n91, p2, p1, if_pos (by decide), if_pos h4, kX7_in, ab_cI_s, n90, z2, zb_t hb, if_pos (by decide), if_pos h4, n91, p2, p1, if_pos (by decide), if_pos h4, if_neg (fun q => q rfl), if_neg cN, kX7_in, ab_cI_s, zb_t hc, if_pos (by decide), if_pos h4, n91, p2, p1, if_pos (by decide), za_24, if_pos h96, hckk] at hY
            exact ⟨_, _, _, hX, hY, shW s hi (by omega)⟩
          · rw [zb_f hc, if_neg (by decide)] at hX
            have hY : X7_mark E (d + 100) (nI i) (nI k) c μ = _ := X7_mark_q
            rw [kX7_isSheet, ab_cI_s, zb_t ha, if_pos (by decide), if_pos h4] at hY
            simp only [hcl] at hY
            rw [p2, p1, if_pos (by decide), if_pos h4, kX7_in, ab_cI_s, z2, zb_t hb, if_pos (by decide), if_pos h4, p2, p1, if_pos (by decide), if_pos h4, if_neg (fun q => q rfl), if_neg cN, kX7_in, ab_cI_s, zb_f hc, if_neg (by decide)] at hY
            exact ⟨_, _, _, hX, hY, s⟩
    · have hY : X7_mark E (d + 100) (nI i) b c μ = _ := X7_mark_q
      rcases p1 with p1 | p1 | p1
      · rw [kX7_isSheet, ab_cI_s, zb_t ha, if_pos (by decide), if_pos h4] at hY
        simp only [hcl] at hY
        rw [p2, p1, if_neg (by decide)] at hY
        rw [p1, if_neg (fun q => q rfl), ab_cI_s, if_neg (by decide)] at hX
        exact ⟨_, _, _, hX, hY, s⟩
      · rw [kX7_isSheet, ab_cI_s, zb_t ha, if_pos (by decide), if_pos h4] at hY
        simp only [hcl] at hY
        rw [p2, p1, if_pos (by decide), if_pos h4, kX7_in, ab_cI_s, z2, zb_f hb, if_neg (by decide)] at hY
        rw [p1, if_pos (by decide), ab_cI_s, if_pos rfl, z1, zb_f hb, ab_cI_s, if_neg (by decide)] at hX
        exact ⟨_, _, _, hX, hY, s⟩
      · rw [kX7_isSheet, ab_cI_s, zb_t ha, if_pos (by decide), if_pos h4] at hY
        simp only [hcl] at hY
        rw [p2, p1, if_pos (by decide), if_pos h4, kX7_in, ab_cI_s, z2, zb_f hb, if_neg (by decide)] at hY
        rw [p1, if_pos (by decide), ab_cI_s, if_pos rfl, z1, zb_f hb, ab_cI_s, if_neg (by decide)] at hX
        exact ⟨_, _, _, hX, hY, s⟩
  · have hY : X7_mark E (d + 100) a b c μ = _ := X7_mark_q
    rw [zb_f ha, if_neg (by decide)] at hX
    rw [kX7_isSheet, ab_cI_s, zb_f ha, if_neg (by decide)] at hY
    exact ⟨_, _, _, hX, hY, s⟩
end
