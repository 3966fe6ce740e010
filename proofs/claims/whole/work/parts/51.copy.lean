/-! copy -/
section
variable {E : ab_E} {d : Nat} {μ μ' μ'' : ab_M} {r n m : Nat} {N M A P : Nat → Int32} {a b c : Int32}
theorem za_run {x y : Int32} {z : Nat} (hz : z ≤ 24) (hx : ¬ x < 0) (hy : ¬ y < 0) (h : ¬ nI z - y < x) : ∃ p q, x = nI p ∧ y = nI q ∧ p + q ≤ z := by
  have lx := Int32.toNatClampNeg_lt x
  have ly := Int32.toNatClampNeg_lt y
  have ex := za_nn (za_lt.mp hx)
  have ey := za_nn (za_lt.mp hy)
  refine ⟨x.toNatClampNeg, y.toNatClampNeg, ex, ey, ?_⟩
  generalize x.toNatClampNeg = p at ex lx
  generalize y.toNatClampNeg = q at ey ly
  subst ex ey
  rw [za_lt, Int32.le_iff_toInt_le, Int32.toInt_sub, nI_toInt (by omega), nI_toInt (by omega), nI_toInt (by omega)] at h
  rw [Int.bmod_eq_of_le (by omega) (by omega)] at h
  omega
theorem za_run' {p q z : Nat} (hz : z ≤ 24) (h : p + q ≤ z) : ¬ nI p < 0 ∧ ¬ nI q < 0 ∧ ¬ nI z - nI q < nI p := by
  refine ⟨za_lt.mpr (nI_pos' (by omega)), za_lt.mpr (nI_pos' (by omega)), ?_⟩
  rw [za_sub (by omega), za_lt]
  exact nI_le (by omega) (by omega)
theorem kX3_hasRun {q z : Nat} {x y : Int32} (hq : ab_isSheet q) (h : μ q 2 = nI z) : X3_hasRun E d q x y μ = some (some (.int (zb (¬ x < 0 ∧ ¬ y < 0 ∧ ¬ nI z - y < x))), μ) := by
  rw [X3_hasRun_q hq, h]
  by_cases h1 : x < 0
  · rw [if_pos h1, zb_f (fun w => w.1 h1)]
  · rw [if_neg h1]
    by_cases h2 : y < 0
    · rw [if_pos h2, zb_f (fun w => w.2.1 h2)]
    · rw [if_neg h2]
      by_cases h3 : nI z - y < x
      · rw [if_pos h3, zb_f (fun w => w.2.2 h3)]
      · rw [if_neg h3, zb_t ⟨h1, h2, h3⟩]
theorem za_24' {i p k : Nat} : (24 : Int32) * nI i + nI p + nI k = nI (24 * i + p + k) := by rw [za_24, nI_add]
theorem kX7_copyA {i p w : Nat} {c4 c5 : Int32} (hi : i < 4) (hp : p + w ≤ 24) : ∀ j k μ, k + j = w → ∃ μ', X7_copy_104 E (d + 1) (nI i) (nI p) c4 c5 (nI w) (nI k) μ = X7_copy_141 E (d + 1) (some (.int (nI i))) (some (.int (nI p))) c4 c5 (nI w) 0 μ' ∧ (∀ t, k ≤ t → t < w → μ' 96 t = μ 91 (24 * i + p + t)) ∧ (∀ t, t < k → μ' 96 t = μ 96 t) ∧ ∀ a, a ≠ 96 → μ' a = μ a
  | 0, k, μ, e => by
    rw [X7_copy_104_q, if_pos (nI_le (by omega) (by omega))]
    exact ⟨μ, rfl, fun t h1 h2 => by omega, fun _ _ => rfl, fun _ _ => rfl⟩
  | j + 1, k, μ, e => by
    rw [X7_copy_104_q, if_neg (nI_ge (by omega) (by omega)), za_24', if_pos (za_in (show 24 * i + p + k < 96 by omega) (by decide)), if_pos (za_in (show k < 24 by omega) (by decide)), za_cl (by omega), za_cl (by omega), za_1]
    obtain ⟨μ2, e1, e2, e3, e4⟩ := kX7_copyA hi hp (c4 := c4) (c5 := c5) j (k + 1) (ab_up μ 96 k (μ 91 (24 * i + p + k))) (by omega)
    refine ⟨μ2, e1, fun t h1 h2 => ?_, fun t h1 => ?_, fun a ha => ?_⟩
    · by_cases et : t = k
      · subst et; rw [e3 t (by omega), za_up_s]
      · rw [e2 t (by omega) h2, za_up_a (by decide)]
    · rw [e3 t (by omega), za_up_j (by omega)]
    · rw [e4 a ha, za_up_a ha]
theorem kX7_copyB {i q w : Nat} {o1 o2 : Option Value} (hi : i < 4) (hp : q + w ≤ 24) : ∀ j k μ, k + j = w → ∃ μ', X7_copy_141 E (d + 1) o1 o2 (nI i) (nI q) (nI w) (nI k) μ = some (some (.int (nI w)), μ') ∧ (∀ t, k ≤ t → t < w → μ' 91 (24 * i + q + t) = μ 96 t) ∧ (∀ t, (t < 24 * i + q + k ∨ 24 * i + q + w ≤ t) → μ' 91 t = μ 91 t) ∧ ∀ a, a ≠ 91 → μ' a = μ a
  | 0, k, μ, e => by
    rw [X7_copy_141_q, if_pos (nI_le (by omega) (by omega))]
    exact ⟨μ, rfl, fun t h1 h2 => by omega, fun _ _ => rfl, fun _ _ => rfl⟩
  | j + 1, k, μ, e => by
    rw [X7_copy_141_q, if_neg (nI_ge (by omega) (by omega)), za_24', if_pos (za_in (show k < 24 by omega) (by decide)), if_pos (za_in (show 24 * i + q + k < 96 by omega) (by decide)), za_cl (by omega), za_cl (by omega), za_1]
    obtain ⟨μ2, e1, e2, e3, e4⟩ := kX7_copyB hi hp (o1 := o1) (o2 := o2) j (k + 1) (ab_up μ 91 (24 * i + q + k) (μ 96 k)) (by omega)
    refine ⟨μ2, e1, fun t h1 h2 => ?_, fun t h1 => ?_, fun a ha => ?_⟩
    · by_cases et : t = k
      · subst et; rw [e3 _ (by omega), za_up_s]
      · rw [e2 t (by omega) h2, za_up_a (by decide)]
    · rw [e3 t (by omega), za_up_j (by omega)]
    · rw [e4 a ha, za_up_a ha]
theorem cpy_v {s t p q w k : Nat} : ab_cpy μ s t p q w t k = if q ≤ k ∧ k < q + w then μ s (p + (k - q)) else μ t k := by
  unfold ab_cpy
  rw [ab_upA_s]; rfl
theorem p_copy {c4 c5 : Int32} : PR (X6_copy E (d + 100) a b c c4 c5) (X7_copy E (d + 100) a b c c4 c5) := by
  intro μ s
  have sd := (id s).choose_spec.choose_spec.choose_spec.2.2.2.2.1
  have hX : X6_copy E (d + 100) a b c c4 c5 μ = _ := X6_copy_q
  rw [kX6_isSheet, ab_cI_s] at hX
  by_cases ha : 0 ≤ a ∧ a ≤ 3
  · rw [zb_t ha, if_neg (by decide), kX6_isSheet, ab_cI_s] at hX
    by_cases hc : 0 ≤ c ∧ c ≤ 3
    · obtain ⟨i, hi, rfl⟩ := za_3.mp ha
      obtain ⟨j, hj, rfl⟩ := za_3.mp hc
      have i4 := za_in hi (show 4 < 2 ^ 31 by decide)
      have j4 := za_in hj (show 4 < 2 ^ 31 by decide)
      obtain ⟨p1, p2, ⟨z, z0, z1, z2⟩, p4⟩ := sd i hi
      obtain ⟨q1, q2, ⟨y, y0, y1, y2⟩, q4⟩ := sd j hj
      have np : ∀ x : Int32, (x = -1 ∨ x = 0 ∨ x = 1) → ¬ x = -1 → ¬ x < 0 := by
        rintro x (h | h | h) h2
        · exact absurd h h2
        · rw [h]; decide
        · rw [h]; decide
      have hcl := za_cl (show i < 2 ^ 31 by omega)
      have hcj := za_cl (show j < 2 ^ 31 by omega)
      rw [zb_t hc, if_pos (by decide), if_pos i4, if_pos j4] at hX
      simp only [hcl, hcj, X3_isMissing_q (isSh hi), X3_isMissing_q (isSh hj)] at hX
      have hY : ∀ μ1, μ1 89 = μ 89 → μ1 90 = μ 90 → X7_copy E (d + 100) (nI i) b (nI j) c4 c5 μ1 = _ := fun μ1 _ _ => X7_copy_q
      have hY2 : ∀ μ1, μ1 89 = μ 89 → μ1 90 = μ 90 → X7_copy E (d + 100) (nI i) b (nI j) c4 c5 μ1 = (if μ (50 + 2 * i) 1 < 0 then some (some (.int (-1000000011)), μ1) else if 0 ≤ μ (50 + 2 * j) 1 then (if μ (50 + 2 * i) 1 = μ (50 + 2 * j) 1 then (if b < 0 then some (some (.int (-1000000013)), μ1) else if c4 < 0 then some (some (.int (-1000000013)), μ1) else if c5 < 0 then some (some (.int (-1000000013)), μ1) else if nI z - c5 < b then some (some (.int (-1000000013)), μ1) else if c4 ≤ nI y - c5 then X7_copy_104 E (d + 100) (nI i) b (nI j) c4 c5 0 μ1 else some (some (.int (-1000000013)), μ1)) else some (some (.int (-1000000012)), μ1)) else some (some (.int (-1000000011)), μ1)) := by
        intro μ1 h1 h2
        refine (hY μ1 h1 h2).trans ?_
        rw [kX7_isSheet, ab_cI_s, zb_t ha, if_neg (by decide), kX7_isSheet, ab_cI_s, zb_t hc, if_pos (by decide)]
        simp only [hcl, hcj, if_pos i4, if_pos j4, h1, h2, p2, q2, z2, y2]
      by_cases pm : μ (50 + 2 * i) 1 = -1
      · rw [if_neg (fun q => q pm), ab_cI_s, if_pos (by decide)] at hX
        refine ⟨_, _, _, hX, (hY2 μ rfl rfl).trans (if_pos ?_), s⟩
        rw [pm]; decide
      · rw [if_pos pm, ab_cI_s, if_neg (fun q => q rfl)] at hX
        have hY3 := fun μ1 h1 h2 => (hY2 μ1 h1 h2).trans (if_neg (np _ p1 pm))
        by_cases qm : μ (50 + 2 * j) 1 = -1
        · rw [if_neg (fun q => q qm), ab_cI_s, if_neg (by decide)] at hX
          refine ⟨_, _, _, hX, (hY3 μ rfl rfl).trans (if_neg ?_), s⟩
          rw [qm]; decide
        · rw [if_pos qm, ab_cI_s, if_pos rfl] at hX
          have hY4 := fun μ1 h1 h2 => (hY3 μ1 h1 h2).trans (if_pos (za_lt.mp (np _ q1 qm)))
          by_cases es : μ (50 + 2 * i) 1 = μ (50 + 2 * j) 1
          · rw [if_pos es, kX3_hasRun (isSh hi) z1, ab_cI_s] at hX
            have hY5 := fun μ1 h1 h2 => (hY4 μ1 h1 h2).trans (if_pos es)
            have bad : ¬ ((¬ b < 0 ∧ ¬ c5 < 0 ∧ ¬ nI z - c5 < b) ∧ (¬ c4 < 0 ∧ ¬ c5 < 0 ∧ ¬ nI y - c5 < c4)) → X7_copy E (d + 100) (nI i) b (nI j) c4 c5 μ = some (some (.int (-1000000013)), μ) := by
              intro hb
              refine (hY5 μ rfl rfl).trans ?_
              by_cases b1 : b < 0
              · rw [if_pos b1]
              · rw [if_neg b1]
                by_cases b2 : c4 < 0
                · rw [if_pos b2]
                · rw [if_neg b2]
                  by_cases b3 : c5 < 0
                  · rw [if_pos b3]
                  · rw [if_neg b3]
                    by_cases b4 : nI z - c5 < b
                    · rw [if_pos b4]
                    · rw [if_neg b4]
                      by_cases b5 : c4 ≤ nI y - c5
                      · exact absurd ⟨⟨b1, b3, b4⟩, b2, b3, za_lt.mpr b5⟩ hb
                      · rw [if_neg b5]
            by_cases r1 : ¬ b < 0 ∧ ¬ c5 < 0 ∧ ¬ nI z - c5 < b
            · rw [zb_t r1, if_neg (by decide), kX3_hasRun (isSh hj) y1, ab_cI_s] at hX
              by_cases r2 : ¬ c4 < 0 ∧ ¬ c5 < 0 ∧ ¬ nI y - c5 < c4
              · rw [zb_t r2, if_pos (by decide)] at hX
                have hY6 := fun μ1 h1 h2 => ((((((hY5 μ1 h1 h2).trans (if_neg r1.1)).trans (if_neg r2.1)).trans (if_neg r1.2.1)).trans (if_neg r1.2.2)).trans (if_pos (za_lt.mp r2.2.2)))
                obtain ⟨p, w, rfl, rfl, hpw⟩ := za_run z0 r1.1 r1.2.1 r1.2.2
                obtain ⟨q, w', rfl, ew, hqw⟩ := za_run y0 r2.1 r2.2.1 r2.2.2
                have eww : w = w' := (nI_eq (by omega) (by omega)).mp ew
                subst eww
                rw [za_cl (show p < 2 ^ 31 by omega), za_cl (show q < 2 ^ 31 by omega), za_cl (show w < 2 ^ 31 by omega), if_pos ⟨r1.1, r2.1, r1.2.1, by omega, by omega⟩, show 50 + 2 * i + 1 = 51 + 2 * i by omega, show 50 + 2 * j + 1 = 51 + 2 * j by omega] at hX
                have f1 : ∀ x, x ≠ 51 + 2 * j → ab_cpy μ (51 + 2 * i) (51 + 2 * j) p q w x = μ x := fun x hx => cpy_n hx
                obtain ⟨μ2, g1, g2, g3, g4⟩ := kX7_copyA (E := E) (d := d + 99) (c4 := nI j) (c5 := nI q) hi (show p + w ≤ 24 by omega) w 0 (ab_cpy μ (51 + 2 * i) (51 + 2 * j) p q w) (by omega)
                obtain ⟨μ3, k1, k2, k3, k4⟩ := kX7_copyB (E := E) (d := d + 99) (o1 := some (.int (nI i))) (o2 := some (.int (nI p))) hj (show q + w ≤ 24 by omega) w 0 μ2 (by omega)
                refine ⟨_, _, _, hX, ((hY6 _ (f1 _ (by omega)) (f1 _ (by omega))).trans g1).trans k1, ?_⟩
                have fa : ∀ x, x ≠ 51 + 2 * j → x ≠ 91 → x ≠ 96 → μ3 x = μ x := fun x h1 h2 h3 => by rw [k4 x h2, g4 x h3, f1 x h1]
                have e91 : ∀ t, t < 24 * j + q ∨ 24 * j + q + w ≤ t → μ3 91 t = μ 91 t := fun t ht => by rw [k3 t (by omega), g4 91 (by omega), f1 91 (by omega)]
                refine s.sd (SD.set (i := j) sd (fun x hx hne => ⟨fa _ (by omega) (by omega) (by omega), fa _ (by omega) (by omega) (by omega), by rw [fa 89 (by omega) (by omega) (by omega)], by rw [fa 90 (by omega) (by omega) (by omega)], fun k hk => e91 _ (by omega)⟩) ⟨?_, ?_, ⟨y, y0, ?_, ?_⟩, fun k hk => ?_⟩) fun x h1 h2 h3 => fa x (by omega) (by omega) (by omega)
                · rw [fa _ (by omega) (by omega) (by omega)]; exact q1
                · rw [fa 89 (by omega) (by omega) (by omega), fa (50 + 2 * j) (by omega) (by omega) (by omega)]; exact q2
                · rw [fa _ (by omega) (by omega) (by omega)]; exact y1
                · rw [fa _ (by omega) (by omega) (by omega)]; exact y2
                · rw [k4 _ (by omega), g4 _ (by omega), cpy_v]
                  by_cases hk2 : q ≤ k ∧ k < q + w
                  · rw [if_pos hk2, p4 _ (by omega)]
                    have e1 := k2 (k - q) (by omega) (by omega)
                    rw [show 24 * j + q + (k - q) = 24 * j + k by omega, g2 (k - q) (by omega) (by omega), f1 91 (by omega)] at e1
                    rw [e1, show 24 * i + p + (k - q) = 24 * i + (p + (k - q)) by omega]
                  · rw [if_neg hk2, q4 k hk, e91 _ (by omega)]
              · rw [zb_f r2, if_neg (by decide)] at hX
                exact ⟨_, _, _, hX, bad (fun q => r2 q.2), s⟩
            · rw [zb_f r1, if_pos rfl] at hX
              exact ⟨_, _, _, hX, bad (fun q => r1 q.1), s⟩
          · rw [if_neg es] at hX
            exact ⟨_, _, _, hX, (hY4 μ rfl rfl).trans (if_neg es), s⟩
    · have hY : X7_copy E (d + 100) a b c c4 c5 μ = _ := X7_copy_q
      rw [zb_f hc, if_neg (by decide)] at hX
      rw [kX7_isSheet, ab_cI_s, zb_t ha, if_neg (by decide), kX7_isSheet, ab_cI_s, zb_f hc, if_neg (by decide)] at hY
      exact ⟨_, _, _, hX, hY, s⟩
  · have hY : X7_copy E (d + 100) a b c c4 c5 μ = _ := X7_copy_q
    rw [zb_f ha, if_pos rfl] at hX
    rw [kX7_isSheet, ab_cI_s, zb_f ha, if_pos rfl] at hY
    exact ⟨_, _, _, hX, hY, s⟩
end
