/-! lay -/
section
variable {E : ab_E} {d : Nat} {μ μ' μ'' : ab_M} {r n m : Nat} {N M A P T : Nat → Int32} {a b c : Int32}
theorem SE.set {i : Nat} (h : SE μ) (f1 : ∀ q, q < 5 → q ≠ i → μ' (59 + 3 * q) = μ (59 + 3 * q) ∧ μ' (60 + 3 * q) = μ (60 + 3 * q) ∧ μ' (61 + 3 * q) = μ (61 + 3 * q) ∧ μ' 92 q = μ 92 q ∧ μ' 93 q = μ 93 q ∧ μ' 94 q = μ 94 q ∧ ∀ k, k < 24 → μ' 95 (24 * q + k) = μ 95 (24 * q + k)) (hi : SEi μ' i) : SE μ' := fun q hq => by
  by_cases e : q = i
  · subst e; exact hi
  · obtain ⟨g1, g2, g3, g4, g5, g6, g7⟩ := f1 q hq e
    obtain ⟨th, t0, t1, t2, t3, t4, t5⟩ := h q hq
    unfold SEi
    rw [g1, g2, g3, g4, g5, g6]
    exact ⟨th, t0, t1, t2, t3, fun h2 => by obtain ⟨z, z0, z1, z2, z3⟩ := t4 h2; exact ⟨z, z0, z1, z2, fun k hk => by rw [g7 k hk]; exact z3 k hk⟩, t5⟩
theorem SI.se (s : SI μ) (hd : SE μ') (f : ∀ a, ¬ (59 ≤ a ∧ a < 74) → ¬ (92 ≤ a ∧ a ≤ 95) → μ' a = μ a) : SI μ' := by
  obtain ⟨n, m, e, sa, h4, s1, s2, s3, s4, s5, s6⟩ := s
  refine ⟨n, m, e, sa.fr fun a ha => f a (by omega) (by omega), by rw [f 77 (by omega) (by omega), f 78 (by omega) (by omega)]; exact h4, s1.f2 (by rw [f 0 (by omega) (by omega)]) (by rw [f 76 (by omega) (by omega)]) fun a ha => f a (by omega) (by omega), s2.f2 (by rw [f 46 (by omega) (by omega)]) (by rw [f 76 (by omega) (by omega)]) (f 47 (by omega) (by omega)) (f 81 (by omega) (by omega)), s3.f2 fun a ha => f a (by omega) (by omega), hd, s5.f2 (by rw [f 0 (by omega) (by omega)]) (by rw [f 76 (by omega) (by omega)]) (f 74 (by omega) (by omega)) (f 97 (by omega) (by omega)), s6.f2 (f 82 (by omega) (by omega)) (f 83 (by omega) (by omega))⟩
theorem kX7_lay_l {i q : Nat} {v : Int32} (hi : i < 5) (hq : q < 4) : ∀ j k μ, k + j = 24 → ∃ μ', X7_lay_134 E (d + 1) (nI i) 2 (nI q) v (nI k) μ = some (some (.int v), μ') ∧ (∀ t, t < 24 → k ≤ t → μ' 95 (24 * i + t) = μ 91 (24 * q + t)) ∧ (∀ t, (t < 24 * i + k ∨ 24 * i + 24 ≤ t) → μ' 95 t = μ 95 t) ∧ ∀ a, a ≠ 95 → μ' a = μ a
  | 0, k, μ, e => by
    rw [X7_lay_134_q, if_pos (show (24 : Int32) ≤ nI k from nI_le (a := 24) (by omega) (by omega))]
    exact ⟨μ, rfl, fun t h1 h2 => by omega, fun _ _ => rfl, fun _ _ => rfl⟩
  | j + 1, k, μ, e => by
    rw [X7_lay_134_q, if_neg (show ¬ (24 : Int32) ≤ nI k from nI_ge (b := 24) (by omega) (by decide)), if_neg (fun q => q rfl), za_24, za_24, if_pos (za_in (show 24 * q + k < 96 by omega) (by decide)), if_pos (za_in (show 24 * i + k < 120 by omega) (by decide)), za_cl (by omega), za_cl (by omega), za_1]
    obtain ⟨μ2, e1, e2, e3, e4⟩ := kX7_lay_l hi hq (v := v) j (k + 1) (ab_up μ 95 (24 * i + k) (μ 91 (24 * q + k))) (by omega)
    refine ⟨μ2, e1, fun t h1 h2 => ?_, fun t h1 => ?_, fun a ha => ?_⟩
    · by_cases et : t = k
      · subst et; rw [e3 _ (by omega), za_up_s]
      · rw [e2 t (by omega) (by omega), za_up_a (by decide)]
    · rw [e3 t (by omega), za_up_j (by omega)]
    · rw [e4 a ha, za_up_a ha]
theorem kX7_lay_0 {x y z v : Int32} (hy : ¬ y = 2) : X7_lay_134 E (d + 1) x y z v 0 μ = some (some (.int v), μ) := by
  rw [X7_lay_134_q, if_neg (by decide), if_pos hy]
theorem e01 : ((0 : Int32) = 1) = False := by decide
theorem e02 : ((0 : Int32) = 2) = False := by decide
theorem e31 : ((3 : Int32) = 1) = False := by decide
theorem e32 : ((3 : Int32) = 2) = False := by decide
theorem e12 : ((1 : Int32) = 2) = False := by decide
theorem e21 : ((2 : Int32) = 1) = False := by decide
/-- a slot laid with a number, or emptied -/
theorem lyN {i : Nat} {x : Int32} (s : SI μ) (hi : i < 5) (hx : x = 0 ∨ x = 3) : SI (ab_up (ab_up (ab_up (ab_up (ab_up μ (59 + 3 * i) 1 x) (59 + 3 * i) 2 c) 92 i x) 93 i c) 94 i 0) := by
  generalize hq : ab_up (ab_up (ab_up (ab_up (ab_up μ (59 + 3 * i) 1 x) (59 + 3 * i) 2 c) 92 i x) 93 i c) 94 i 0 = μ'
  have fa : ∀ a, a ≠ 59 + 3 * i → a ≠ 92 → a ≠ 93 → a ≠ 94 → μ' a = μ a := fun a h1 h2 h3 h4 => by rw [← hq, za_up_a h4, za_up_a h3, za_up_a h2, za_up_a h1, za_up_a h1]
  have g92 : μ' 92 i = x := by rw [← hq, za_up_a (by decide), za_up_a (by decide), za_up_s]
  have g93 : μ' 93 i = c := by rw [← hq, za_up_a (by decide), za_up_s]
  have g1 : μ' (59 + 3 * i) 1 = x := by rw [← hq, za_up_a (by omega), za_up_a (by omega), za_up_a (by omega), za_up_j (by decide), za_up_s]
  have g2 : μ' (59 + 3 * i) 2 = c := by rw [← hq, za_up_a (by omega), za_up_a (by omega), za_up_a (by omega), za_up_s]
  refine s.se (SE.set (i := i) (id s).choose_spec.choose_spec.choose_spec.2.2.2.2.2.1 (fun q hq' hne => ⟨fa _ (by omega) (by omega) (by omega) (by omega), fa _ (by omega) (by omega) (by omega) (by omega), fa _ (by omega) (by omega) (by omega) (by omega), ?_, ?_, ?_, fun k _ => by rw [fa 95 (by omega) (by omega) (by omega) (by omega)]⟩) ?_) fun a h1 h2 => fa a (by omega) (by omega) (by omega) (by omega)
  · rw [← hq, za_up_a (by decide), za_up_a (by decide), za_up_j hne, za_up_a (by omega), za_up_a (by omega)]
  · rw [← hq, za_up_a (by decide), za_up_j hne, za_up_a (by decide), za_up_a (by omega), za_up_a (by omega)]
  · rw [← hq, za_up_j hne, za_up_a (by decide), za_up_a (by decide), za_up_a (by omega), za_up_a (by omega)]
  · rcases hx with hx | hx
    · exact ⟨0, by omega, by rw [g1, hx]; rfl, by rw [g92, hx]; rfl, fun h => by omega, fun h => by omega, fun h => by omega⟩
    · exact ⟨3, by omega, by rw [g1, hx]; rfl, by rw [g92, hx]; rfl, fun h => by omega, fun h => by omega, fun _ => by rw [g2, g93]⟩
theorem p_lay : PR (X6_lay E (d + 100) a b c) (X7_lay E (d + 100) a b c) := by
  intro μ s
  obtain ⟨n, m, e, sa, h4, so⟩ := id s
  obtain ⟨g, h, h2, h3⟩ := id sa
  have se := so.2.2.2.1
  have hX : X6_lay E (d + 100) a b c μ = _ := X6_lay_q
  rw [kX6_isSlot, ab_cI_s] at hX
  by_cases ha : 0 ≤ a ∧ a ≤ 4
  · obtain ⟨i, hi, rfl⟩ := za_4.mp ha
    have i5 := za_in hi (show 5 < 2 ^ 31 by decide)
    have hcl := za_cl (show i < 2 ^ 31 by omega)
    obtain ⟨th, t0, t1, t2, -⟩ := se i hi
    rw [zb_t ha, if_neg (by decide), kX6_isWithin, ab_cI_s] at hX
    by_cases hb : 0 ≤ b ∧ b ≤ 3
    · obtain ⟨k, hk, rfl⟩ := za_3.mp hb
      rw [zb_t hb, if_pos (by decide)] at hX
      have hY : ∀ μ1, X7_lay E (d + 100) (nI i) (nI k) c μ1 = _ := fun μ1 => X7_lay_q
      rcases (show k = 0 ∨ k = 1 ∨ k = 2 ∨ k = 3 by omega) with rfl | rfl | rfl | rfl
      · rw [show nI 0 = (0 : Int32) from rfl] at hX hY hb
        simp only [e01, e02, not_false_eq_true, if_true, if_pos i5, hcl] at hX
        have hY1 := hY (ab_up (ab_up μ (59 + 3 * i) 1 0) (59 + 3 * i) 2 c)
        rw [kX7_isSlot, ab_cI_s, zb_t ha, if_neg (by decide), kX7_in, ab_cI_s, zb_t hb, if_neg (by decide)] at hY1
        simp only [e01, e02, not_false_eq_true, if_true, if_pos i5, hcl] at hY1
        rw [kX7_lay_0 (by decide), za_up_a (show 92 ≠ 59 + 3 * i by omega), za_up_a (show 92 ≠ 59 + 3 * i by omega), t2] at hY1
        rw [t1] at hX
        exact ⟨_, _, _, hX, hY1, lyN s hi (Or.inl rfl)⟩
      · rw [show nI 1 = (1 : Int32) from rfl] at hX hY hb
        rw [kX2_has' isR22 h g] at hX
        simp only [e12, not_true_eq_false, not_false_eq_true, if_true, if_false, if_pos i5, hcl, ab_cI_s] at hX
        by_cases hs : 0 ≤ c ∧ c ≤ nI n - 1
        · obtain ⟨q, hq, rfl⟩ := (za_has (by have := g.n10; omega)).mp hs
          have n10 := g.n10
          have q10 := za_in (show q < 10 by omega) (show 10 < 2 ^ 31 by decide)
          have hcq := za_cl (show q < 2 ^ 31 by omega)
          rw [zb_t hs, if_neg (by decide)] at hX
          simp only [if_pos q10, hcq, X4_holdSaying_q (isSl hi), ab_cV_s] at hX
          rw [za_up_a (show 23 ≠ 59 + 3 * i by omega), za_up_a (show 24 ≠ 59 + 3 * i by omega), za_up_a (show 25 ≠ 59 + 3 * i by omega), (h.2.2.1 q hq).1, (h.2.2.1 q hq).2.1, (h.2.2.1 q hq).2.2.1, t1] at hX
          generalize hw : ab_up (ab_up (ab_up (ab_up μ (59 + 3 * i) 1 1) (59 + 3 * i) 3 (μ 77 (13 + 5 * q))) (59 + 3 * i) 4 (μ 77 (14 + 5 * q))) (59 + 3 * i) 5 (μ 77 (15 + 5 * q)) = μ1 at hX
          have f1 : ∀ a, a ≠ 59 + 3 * i → μ1 a = μ a := fun a h1 => by rw [← hw, za_up_a h1, za_up_a h1, za_up_a h1, za_up_a h1]
          have hY1 := hY μ1
          rw [kX7_isSlot, ab_cI_s, zb_t ha, if_neg (by decide), kX7_in, ab_cI_s, zb_t hb, if_neg (by decide), kX7_has' (f1 77 (by omega)) g, ab_cI_s, zb_t hs] at hY1
          simp only [e12, i10, not_true_eq_false, not_false_eq_true, if_true, if_false, if_pos i5, hcl, kX7_of0 (show q < 200 by omega), ab_cI_s] at hY1
          rw [za_up_a (show 77 ≠ 92 by decide), f1 77 (by omega), kX7_worthOf (N := μ 77) (by rw [za_up_a (by decide), za_up_a (by decide)]; exact f1 77 (by omega)) g hq, ab_cI_s, kX7_lay_0 (by decide), f1 92 (by omega), t2] at hY1
          refine ⟨_, _, _, hX, hY1, ?_⟩
          generalize hv : ab_up (ab_up (ab_up μ1 92 i 1) 93 i (μ 77 (13 + 5 * q))) 94 i (woN (μ 77) q) = μ2
          have fa : ∀ a, a ≠ 59 + 3 * i → a ≠ 92 → a ≠ 93 → a ≠ 94 → μ2 a = μ a := fun a h1 h2 h3 h4 => by rw [← hv, za_up_a h4, za_up_a h3, za_up_a h2, f1 a h1]
          have fs : μ2 (59 + 3 * i) = μ1 (59 + 3 * i) := by rw [← hv, za_up_a (by omega), za_up_a (by omega), za_up_a (by omega)]
          obtain ⟨-, ⟨w1, w2⟩, ⟨w3, w4⟩, -⟩ := g.2.1 q hq
          refine s.se (SE.set (i := i) se (fun q' hq' hne => ⟨fa _ (by omega) (by omega) (by omega) (by omega), fa _ (by omega) (by omega) (by omega) (by omega), fa _ (by omega) (by omega) (by omega) (by omega), ?_, ?_, ?_, fun k _ => by rw [fa 95 (by omega) (by omega) (by omega) (by omega)]⟩) ⟨1, by omega, ?_, ?_, fun _ => ⟨wt (μ 77) q, ds (μ 77) q, w2, w4, ?_, ?_, ?_, ?_⟩, fun h => by omega, fun h => by omega⟩) fun a h1 h2 => fa a (by omega) (by omega) (by omega) (by omega)
          · rw [← hv, za_up_a (by decide), za_up_a (by decide), za_up_j hne, f1 _ (by omega)]
          · rw [← hv, za_up_a (by decide), za_up_j hne, za_up_a (by decide), f1 _ (by omega)]
          · rw [← hv, za_up_j hne, za_up_a (by decide), za_up_a (by decide), f1 _ (by omega)]
          · rw [fs, ← hw, za_up_j (by decide), za_up_j (by decide), za_up_j (by decide), za_up_s]; rfl
          · rw [← hv, za_up_a (by decide), za_up_a (by decide), za_up_s]; rfl
          · rw [fs, ← hw, za_up_j (by decide), za_up_s]; exact w1
          · rw [fs, ← hw, za_up_s]; exact w3
          · rw [fs, ← hw, za_up_j (by decide), za_up_j (by decide), za_up_s, ← hv, za_up_a (show 93 ≠ 94 by decide), za_up_s]
          · rw [← hv, za_up_s, za_up_a (show 93 ≠ 94 by decide), za_up_s, ← w1, ← w3]; rfl
        · have hY1 := hY μ
          rw [kX7_isSlot, ab_cI_s, zb_t ha, if_neg (by decide), kX7_in, ab_cI_s, zb_t hb, if_neg (by decide), kX7_has' rfl g, ab_cI_s, zb_f hs] at hY1
          simp only [e12, not_true_eq_false, if_false, if_true] at hY1
          rw [zb_f hs, if_pos rfl] at hX
          exact ⟨_, _, _, hX, hY1, s⟩
      · rw [show nI 2 = (2 : Int32) from rfl] at hX hY hb
        rw [kX6_isSheet] at hX
        simp only [e21, not_true_eq_false, not_false_eq_true, if_true, if_false, if_pos i5, hcl, ab_cI_s] at hX
        by_cases hs : 0 ≤ c ∧ c ≤ 3
        · obtain ⟨q, hq, rfl⟩ := za_3.mp hs
          have q4 := za_in hq (show 4 < 2 ^ 31 by decide)
          have hcq := za_cl (show q < 2 ^ 31 by omega)
          obtain ⟨p1, p2, ⟨z, z0, z1, z2⟩, p4⟩ := so.2.2.1 q hq
          rw [zb_t hs, if_pos (by decide)] at hX
          simp only [if_pos q4, hcq, X3_isMissing_q (isSh hq)] at hX
          have hY2 : ∀ μ1, X7_lay E (d + 100) (nI i) 2 (nI q) μ1 = if 0 ≤ μ1 89 q then X7_lay_134 E (d + 100) (nI i) 2 (nI q) (μ1 92 i) 0 (ab_up (ab_up (ab_up μ1 92 i 2) 93 i (μ1 90 q)) 94 i 0) else some (some (.int (-1000000011)), μ1) := by
            intro μ1
            refine (hY μ1).trans ?_
            rw [kX7_isSlot, ab_cI_s, zb_t ha, if_neg (by decide), kX7_in, ab_cI_s, zb_t hb, if_neg (by decide), kX7_isSheet, ab_cI_s, zb_t hs]
            simp only [e21, i10, not_true_eq_false, not_false_eq_true, if_true, if_false, if_pos i5, hcl, if_pos q4, hcq]
            rw [za_up_a (show 90 ≠ 92 by decide)]
          by_cases pm : μ (50 + 2 * q) 1 = -1
          · rw [if_neg (fun q => q pm), ab_cI_s, if_neg (by decide)] at hX
            refine ⟨_, _, _, hX, (hY2 μ).trans (if_neg ?_), s⟩
            rw [p2, pm]; decide
          · rw [if_pos pm, ab_cI_s, if_pos rfl, X3_become_q (isSlS hi) (isSh hq), ab_cV_s, za_up_a (show 50 + 2 * q ≠ 59 + 3 * i by omega), za_up_a (show 50 + 2 * q ≠ 59 + 3 * i + 1 by omega), za_up_a (show 50 + 2 * q ≠ 59 + 3 * i by omega), z1, t1, show 59 + 3 * i + 1 + 1 = 61 + 3 * i by omega, show 59 + 3 * i + 1 = 60 + 3 * i by omega, show 50 + 2 * q + 1 = 51 + 2 * q by omega] at hX
            have p0 : 0 ≤ μ (50 + 2 * q) 1 := by
              rcases p1 with p | p | p
              · exact absurd p pm
              · rw [p]; decide
              · rw [p]; decide
            generalize hw : ab_cpy (ab_up (ab_up (ab_up μ (59 + 3 * i) 1 2) (60 + 3 * i) 1 (μ (50 + 2 * q) 1)) (60 + 3 * i) 2 (nI z)) (51 + 2 * q) (61 + 3 * i) 0 0 24 = μ1 at hX
            have f1 : ∀ a, a ≠ 59 + 3 * i → a ≠ 60 + 3 * i → a ≠ 61 + 3 * i → μ1 a = μ a := fun a h1 h2 h3 => by rw [← hw, cpy_n h3, za_up_a h2, za_up_a h2, za_up_a h1]
            obtain ⟨μ2, k1, k2, k3, k4⟩ := kX7_lay_l (E := E) (d := d + 99) (v := μ1 92 i) hi hq 24 0 (ab_up (ab_up (ab_up μ1 92 i 2) 93 i (μ1 90 q)) 94 i 0) (by omega)
            have hY3 := ((hY2 μ1).trans (if_pos (by rw [f1 89 (by omega) (by omega) (by omega), p2]; exact p0))).trans k1
            rw [f1 92 (by omega) (by omega) (by omega), t2] at hY3
            refine ⟨_, _, _, hX, hY3, ?_⟩
            have fa : ∀ a, a ≠ 59 + 3 * i → a ≠ 60 + 3 * i → a ≠ 61 + 3 * i → a ≠ 92 → a ≠ 93 → a ≠ 94 → a ≠ 95 → μ2 a = μ a := fun a h1 h2 h3 h4 h5 h6 h7 => by rw [k4 a h7, za_up_a h6, za_up_a h5, za_up_a h4, f1 a h1 h2 h3]
            have fs : ∀ a, a < 92 → μ2 a = μ1 a := fun a h => by rw [k4 a (by omega), za_up_a (by omega), za_up_a (by omega), za_up_a (by omega)]
            refine s.se (SE.set (i := i) se (fun q' hq' hne => ⟨fa _ (by omega) (by omega) (by omega) (by omega) (by omega) (by omega) (by omega), fa _ (by omega) (by omega) (by omega) (by omega) (by omega) (by omega) (by omega), fa _ (by omega) (by omega) (by omega) (by omega) (by omega) (by omega) (by omega), ?_, ?_, ?_, fun k hk => ?_⟩) ⟨2, by omega, ?_, ?_, fun h => by omega, fun _ => ⟨z, z0, ?_, ?_, fun k hk => ?_⟩, fun h => by omega⟩) fun a h1 h2 => fa a (by omega) (by omega) (by omega) (by omega) (by omega) (by omega) (by omega)
            · rw [k4 92 (by decide), za_up_a (by decide), za_up_a (by decide), za_up_j hne, f1 _ (by omega) (by omega) (by omega)]
            · rw [k4 93 (by decide), za_up_a (by decide), za_up_j hne, za_up_a (by decide), f1 _ (by omega) (by omega) (by omega)]
            · rw [k4 94 (by decide), za_up_j hne, za_up_a (by decide), za_up_a (by decide), f1 _ (by omega) (by omega) (by omega)]
            · rw [k3 _ (by omega), za_up_a (by decide), za_up_a (by decide), za_up_a (by decide), f1 _ (by omega) (by omega) (by omega)]
            · rw [fs _ (by omega), ← hw, cpy_n (by omega), za_up_a (by omega), za_up_a (by omega), za_up_s]; rfl
            · rw [k4 92 (by decide), za_up_a (by decide), za_up_a (by decide), za_up_s]; rfl
            · rw [fs _ (by omega), ← hw, cpy_n (by omega), za_up_s]
            · rw [k4 93 (by decide), za_up_a (by decide), za_up_s, f1 90 (by omega) (by omega) (by omega)]; exact z2
            · rw [fs _ (by omega), ← hw, cpy_s hk, za_up_a (by omega), za_up_a (by omega), za_up_a (by omega), p4 k hk, k2 k hk (by omega), za_up_a (by decide), za_up_a (by decide), za_up_a (by decide), f1 91 (by omega) (by omega) (by omega)]
        · have hY1 := hY μ
          rw [kX7_isSlot, ab_cI_s, zb_t ha, if_neg (by decide), kX7_in, ab_cI_s, zb_t hb, if_neg (by decide), kX7_isSheet, ab_cI_s, zb_f hs] at hY1
          simp only [e21, not_true_eq_false, not_false_eq_true, if_false, if_true] at hY1
          rw [zb_f hs, if_neg (fun q => q rfl)] at hX
          exact ⟨_, _, _, hX, hY1, s⟩
      · rw [show nI 3 = (3 : Int32) from rfl] at hX hY hb
        simp only [e31, e32, not_false_eq_true, if_true, if_pos i5, hcl] at hX
        have hY1 := hY (ab_up (ab_up μ (59 + 3 * i) 1 3) (59 + 3 * i) 2 c)
        rw [kX7_isSlot, ab_cI_s, zb_t ha, if_neg (by decide), kX7_in, ab_cI_s, zb_t hb, if_neg (by decide)] at hY1
        simp only [e31, e32, not_false_eq_true, if_true, if_pos i5, hcl] at hY1
        rw [kX7_lay_0 (by decide), za_up_a (show 92 ≠ 59 + 3 * i by omega), za_up_a (show 92 ≠ 59 + 3 * i by omega), t2] at hY1
        rw [t1] at hX
        exact ⟨_, _, _, hX, hY1, lyN s hi (Or.inr rfl)⟩
    · have hY : X7_lay E (d + 100) (nI i) b c μ = _ := X7_lay_q
      rw [zb_f hb, if_neg (by decide)] at hX
      rw [kX7_isSlot, ab_cI_s, zb_t ha, if_neg (by decide), kX7_in, ab_cI_s, zb_f hb, if_pos rfl] at hY
      exact ⟨_, _, _, hX, hY, s⟩
  · have hY : X7_lay E (d + 100) a b c μ = _ := X7_lay_q
    rw [zb_f ha, if_pos rfl] at hX
    rw [kX7_isSlot, ab_cI_s, zb_f ha, if_pos rfl] at hY
    exact ⟨_, _, _, hX, hY, s⟩
end
