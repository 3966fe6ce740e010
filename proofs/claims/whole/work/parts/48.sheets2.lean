/-! sheets: what writes them -/
section
variable {E : ab_E} {d : Nat} {μ μ' μ'' : ab_M} {r n m : Nat} {N M A : Nat → Int32} {a b c : Int32}
theorem SD.set {i : Nat} (h : SD μ) (f1 : ∀ q, q < 4 → q ≠ i → μ' (50 + 2 * q) = μ (50 + 2 * q) ∧ μ' (51 + 2 * q) = μ (51 + 2 * q) ∧ μ' 89 q = μ 89 q ∧ μ' 90 q = μ 90 q ∧ ∀ k, k < 24 → μ' 91 (24 * q + k) = μ 91 (24 * q + k)) (hi : SDq μ' i) : SD μ' := fun q hq => by
  by_cases e : q = i
  · subst e; exact hi
  · obtain ⟨g1, g2, g3, g4, g5⟩ := f1 q hq e
    obtain ⟨p1, p2, p3, p4⟩ := h q hq
    unfold SDq
    rw [g1, g2, g3, g4]
    exact ⟨p1, p2, p3, fun k hk => by rw [g5 k hk]; exact p4 k hk⟩
theorem SI.sd (s : SI μ) (hd : SD μ') (f : ∀ a, ¬ (50 ≤ a ∧ a < 58) → ¬ (89 ≤ a ∧ a ≤ 91) → a ≠ 96 → μ' a = μ a) : SI μ' := by
  obtain ⟨n, m, e, sa, h4, s1, s2, s3, s4, s5, s6⟩ := s
  refine ⟨n, m, e, sa.fr fun a ha => f a (by omega) (by omega) (by omega), by rw [f 77 (by omega) (by omega) (by omega), f 78 (by omega) (by omega) (by omega)]; exact h4, s1.f2 (by rw [f 0 (by omega) (by omega) (by omega)]) (by rw [f 76 (by omega) (by omega) (by omega)]) fun a ha => f a (by omega) (by omega) (by omega), s2.f2 (by rw [f 46 (by omega) (by omega) (by omega)]) (by rw [f 76 (by omega) (by omega) (by omega)]) (f 47 (by omega) (by omega) (by omega)) (f 81 (by omega) (by omega) (by omega)), hd, s4.f2 fun a ha => f a (by omega) (by omega) (by omega), s5.f2 (by rw [f 0 (by omega) (by omega) (by omega)]) (by rw [f 76 (by omega) (by omega) (by omega)]) (f 74 (by omega) (by omega) (by omega)) (f 97 (by omega) (by omega) (by omega)), s6.f2 (f 82 (by omega) (by omega) (by omega)) (f 83 (by omega) (by omega) (by omega))⟩
theorem kX3_begin {i : Nat} (hi : i < 4) {x y : Int32} : ∃ μ', X3_begin E d (50 + 2 * i) x y μ = some (none, μ') ∧ μ' (50 + 2 * i) 1 = x ∧ μ' (50 + 2 * i) 2 = y ∧ (∀ k, k < 24 → μ' (51 + 2 * i) k = 0) ∧ ∀ a, a ≠ 50 + 2 * i → a ≠ 51 + 2 * i → μ' a = μ a := by
  have hq := isSh hi
  rw [X3_begin_q hq]
  have key : ∀ j k μ1, k + j = 24 → ∃ μ', X3_begin_12 E d (50 + 2 * i) (some (.int x)) (some (.int y)) (nI k) μ1 = some (none, μ') ∧ (∀ q, q < 24 → k ≤ q → μ' (51 + 2 * i) q = 0) ∧ (∀ q, q < k → μ' (51 + 2 * i) q = μ1 (51 + 2 * i) q) ∧ ∀ a, a ≠ 51 + 2 * i → μ' a = μ1 a := by
    intro j
    induction j with
    | zero => intro k μ1 e; rw [X3_begin_12_q hq, if_pos (show (24 : Int32) ≤ nI k from nI_le (a := 24) (by omega) (by omega))]; exact ⟨μ1, rfl, fun q h1 h2 => by omega, fun _ _ => rfl, fun _ _ => rfl⟩
    | succ j ih =>
      intro k μ1 e
      rw [X3_begin_12_q hq, if_neg (show ¬ (24 : Int32) ≤ nI k from nI_ge (b := 24) (by omega) (by decide)), if_pos (za_in (show k < 24 by omega) (by decide)), za_cl (by omega), za_1, show 50 + 2 * i + 1 = 51 + 2 * i by omega]
      obtain ⟨μ2, e1, e2, e3, e4⟩ := ih (k + 1) (ab_up μ1 (51 + 2 * i) k 0) (by omega)
      refine ⟨μ2, e1, fun q h1 h2 => ?_, fun q h1 => ?_, fun a ha => ?_⟩
      · by_cases eq : q = k
        · subst eq; rw [e3 q (by omega), za_up_s]
        · exact e2 q h1 (by omega)
      · rw [e3 q (by omega), za_up_j (by omega)]
      · rw [e4 a ha, za_up_a ha]
  obtain ⟨μ2, e1, e2, e3, e4⟩ := key 24 0 (ab_up (ab_up μ (50 + 2 * i) 1 x) (50 + 2 * i) 2 y) (by omega)
  refine ⟨μ2, e1, ?_, ?_, fun k hk => e2 k hk (by omega), fun a h1 h2 => ?_⟩
  · rw [e4 _ (by omega), za_up_j (by decide), za_up_s]
  · rw [e4 _ (by omega), za_up_s]
  · rw [e4 a h2, za_up_a h1, za_up_a h1]
theorem kX7_sheet_l {i : Nat} (hi : i < 4) {o2 o3 : Option Value} : ∀ j k μ, k + j = 24 → ∃ μ', X7_sheet_66 E (d + 1) (nI i) o2 o3 (nI k) μ = some (some (.int (μ 90 i)), μ') ∧ (∀ q, q < 24 → k ≤ q → μ' 91 (24 * i + q) = 0) ∧ (∀ q, (q < 24 * i + k ∨ 24 * i + 24 ≤ q) → μ' 91 q = μ 91 q) ∧ ∀ a, a ≠ 91 → μ' a = μ a
  | 0, k, μ, e => by
    rw [X7_sheet_66_q, if_pos (show (24 : Int32) ≤ nI k from nI_le (a := 24) (by omega) (by omega)), if_pos (za_in hi (by decide)), za_cl (by omega)]
    exact ⟨μ, rfl, fun q h1 h2 => by omega, fun _ _ => rfl, fun _ _ => rfl⟩
  | j + 1, k, μ, e => by
    rw [X7_sheet_66_q, if_neg (show ¬ (24 : Int32) ≤ nI k from nI_ge (b := 24) (by omega) (by decide)), za_24, if_pos (za_in (show 24 * i + k < 96 by omega) (by decide)), za_cl (by omega), za_1]
    obtain ⟨μ2, e1, e2, e3, e4⟩ := kX7_sheet_l hi (o2 := o2) (o3 := o3) j (k + 1) (ab_up μ 91 (24 * i + k) 0) (by omega)
    rw [za_up_a (by decide)] at e1
    refine ⟨μ2, e1, fun q h1 h2 => ?_, fun q h1 => ?_, fun a ha => ?_⟩
    · by_cases eq : q = k
      · subst eq; rw [e3 _ (by omega), za_up_s]
      · exact e2 q h1 (by omega)
    · rw [e3 q (by omega), za_up_j (by omega)]
    · rw [e4 a ha, za_up_a ha]
/-- a sheet begins on both sides -/
theorem shB {i : Nat} {x : Int32} {z : Nat} {μ1 μ2 : ab_M} (s : SI μ) (hi : i < 4) (hx : x = -1 ∨ x = 0 ∨ x = 1) (hz : z ≤ 24) (e1 : μ1 (50 + 2 * i) 1 = x) (e2 : μ1 (50 + 2 * i) 2 = nI z) (e3 : ∀ k, k < 24 → μ1 (51 + 2 * i) k = 0) (e4 : ∀ a, a ≠ 50 + 2 * i → a ≠ 51 + 2 * i → μ1 a = μ a) (f2 : ∀ q, q < 24 → μ2 91 (24 * i + q) = 0) (f3 : ∀ q, (q < 24 * i ∨ 24 * i + 24 ≤ q) → μ2 91 q = μ1 91 q) (f4 : ∀ a, a ≠ 91 → μ2 a = ab_up (ab_up μ1 89 i x) 90 i (nI z) a) : SI μ2 := by
  have fa : ∀ a, a ≠ 89 → a ≠ 90 → a ≠ 91 → μ2 a = μ1 a := fun a h1 h2 h3 => by rw [f4 a h3, za_up_a h2, za_up_a h1]
  refine s.sd (SD.set (i := i) (id s).choose_spec.choose_spec.choose_spec.2.2.2.2.1 (fun q hq hne => ⟨?_, ?_, ?_, ?_, fun k hk => ?_⟩) ⟨?_, ?_, ⟨z, hz, ?_, ?_⟩, fun k hk => ?_⟩) fun a h1 h2 h3 => ?_
  · rw [fa _ (by omega) (by omega) (by omega), e4 _ (by omega) (by omega)]
  · rw [fa _ (by omega) (by omega) (by omega), e4 _ (by omega) (by omega)]
  · rw [f4 89 (by decide), za_up_a (by decide), za_up_j hne, e4 _ (by omega) (by omega)]
  · rw [f4 90 (by decide), za_up_j hne, za_up_a (by decide), e4 _ (by omega) (by omega)]
  · rw [f3 _ (by omega), e4 _ (by omega) (by omega)]
  · rw [fa _ (by omega) (by omega) (by omega), e1]; exact hx
  · rw [fa (50 + 2 * i) (by omega) (by omega) (by omega), e1, f4 89 (by decide), za_up_a (by decide), za_up_s]
  · rw [fa _ (by omega) (by omega) (by omega), e2]
  · rw [f4 90 (by decide), za_up_s]
  · rw [fa _ (by omega) (by omega) (by omega), e3 k hk, f2 k hk]
  · rw [fa a (by omega) (by omega) (by omega), e4 a (by omega) (by omega)]
theorem za_m11 {b : Int32} : (-1 ≤ b ∧ b ≤ 1) ↔ (b = -1 ∨ b = 0 ∨ b = 1) := by
  constructor
  · rintro ⟨h0, h1⟩
    by_cases h : 0 ≤ b
    · obtain ⟨s, hs, rfl⟩ := (za_rng (k := 1) (by decide)).mp ⟨h, h1⟩
      have : s = 0 ∨ s = 1 := by omega
      rcases this with rfl | rfl
      · exact Or.inr (Or.inl rfl)
      · exact Or.inr (Or.inr rfl)
    · left
      rw [Int32.le_iff_toInt_le] at h h0
      apply Int32.toInt_inj.mp
      have : (0 : Int32).toInt = 0 := by decide
      have : (-1 : Int32).toInt = -1 := by decide
      omega
  · rintro (rfl | rfl | rfl) <;> decide
theorem p_sheet : PR (X6_sheet E (d + 100) a b c) (X7_sheet E (d + 100) a b c) := by
  intro μ s
  have hX : X6_sheet E (d + 100) a b c μ = _ := X6_sheet_q
  rw [kX6_isSheet, ab_cI_s] at hX
  by_cases ha : 0 ≤ a ∧ a ≤ 3
  · obtain ⟨i, hi, rfl⟩ := za_3.mp ha
    have h4 := za_in hi (show 4 < 2 ^ 31 by decide)
    rw [zb_t ha, if_neg (by decide), kX6_isWithin, ab_cI_s] at hX
    by_cases hb : -1 ≤ b ∧ b ≤ 1
    · rw [zb_t hb, if_pos (by decide)] at hX
      by_cases b1 : b = -1
      · subst b1
        obtain ⟨μ1, e0, e1, e2, e3, e4⟩ := kX3_begin (E := E) (d := d + 99) (μ := μ) hi (x := -1) (y := 0)
        rw [if_neg (fun q => q rfl), if_pos h4, za_cl (by omega), e0, ab_cV_s] at hX
        obtain ⟨μ2, f1, f2, f3, f4⟩ := kX7_sheet_l (E := E) (d := d + 99) hi (o2 := some (.int (-1))) (o3 := some (.int c)) 24 0 (ab_up (ab_up μ1 89 i (-1)) 90 i 0) (by omega)
        have hY : X7_sheet E (d + 100) (nI i) (-1) c μ1 = _ := X7_sheet_q
        rw [kX7_isSheet, ab_cI_s, zb_t ha, if_neg (by decide), kX7_in, ab_cI_s, zb_t hb, if_neg (by decide), if_pos (by decide), if_pos (by decide), if_pos h4, if_neg (by decide), if_pos h4, za_cl (by omega)] at hY
        rw [za_up_s] at f1
        exact ⟨_, _, _, hX, hY.trans f1, shB (z := 0) s hi (Or.inl rfl) (by omega) e1 e2 e3 e4 (fun q hq => f2 q hq (by omega)) (fun q hq => by rw [f3 q (by omega), za_up_a (by decide), za_up_a (by decide)]) f4⟩
      · have hb0 : ¬ b < 0 := by
          rcases za_m11.mp hb with h | h | h
          · exact absurd h b1
          · rw [h]; decide
          · rw [h]; decide
        rw [if_pos b1] at hX
        by_cases c24 : c ≤ 24
        · rw [if_pos c24] at hX
          by_cases c0 : 0 ≤ c
          · obtain ⟨z, hz, rfl⟩ := (za_rng (k := 24) (by decide)).mp ⟨c0, c24⟩
            obtain ⟨μ1, e0, e1, e2, e3, e4⟩ := kX3_begin (E := E) (d := d + 99) (μ := μ) hi (x := b) (y := nI z)
            rw [if_pos c0, if_pos h4, za_cl (by omega), e0, ab_cV_s] at hX
            obtain ⟨μ2, f1, f2, f3, f4⟩ := kX7_sheet_l (E := E) (d := d + 99) hi (o2 := some (.int b)) (o3 := some (.int (nI z))) 24 0 (ab_up (ab_up μ1 89 i b) 90 i (nI z)) (by omega)
            have hY : X7_sheet E (d + 100) (nI i) b (nI z) μ1 = _ := X7_sheet_q
            rw [kX7_isSheet, ab_cI_s, zb_t ha, if_neg (by decide), kX7_in, ab_cI_s, zb_t hb, if_neg (by decide), if_neg hb0, if_pos c24, if_neg hb0, if_pos c0, if_pos h4, if_pos (za_lt.mp hb0), if_pos h4, za_cl (by omega)] at hY
            rw [za_up_s] at f1
            exact ⟨_, _, _, hX, hY.trans f1, shB s hi (za_m11.mp hb) hz e1 e2 e3 e4 (fun q hq => f2 q hq (by omega)) (fun q hq => by rw [f3 q (by omega), za_up_a (by decide), za_up_a (by decide)]) f4⟩
          · have hY : X7_sheet E (d + 100) (nI i) b c μ = _ := X7_sheet_q
            rw [if_neg c0] at hX
            rw [kX7_isSheet, ab_cI_s, zb_t ha, if_neg (by decide), kX7_in, ab_cI_s, zb_t hb, if_neg (by decide), if_neg hb0, if_pos c24, if_neg hb0, if_neg c0] at hY
            exact ⟨_, _, _, hX, hY, s⟩
        · have hY : X7_sheet E (d + 100) (nI i) b c μ = _ := X7_sheet_q
          rw [if_neg c24] at hX
          rw [kX7_isSheet, ab_cI_s, zb_t ha, if_neg (by decide), kX7_in, ab_cI_s, zb_t hb, if_neg (by decide), if_neg hb0, if_neg c24] at hY
          exact ⟨_, _, _, hX, hY, s⟩
    · have hY : X7_sheet E (d + 100) (nI i) b c μ = _ := X7_sheet_q
      rw [zb_f hb, if_neg (by decide)] at hX
      rw [kX7_isSheet, ab_cI_s, zb_t ha, if_neg (by decide), kX7_in, ab_cI_s, zb_f hb, if_pos rfl] at hY
      exact ⟨_, _, _, hX, hY, s⟩
  · have hY : X7_sheet E (d + 100) a b c μ = _ := X7_sheet_q
    rw [zb_f ha, if_pos rfl] at hX
    rw [kX7_isSheet, ab_cI_s, zb_f ha, if_pos rfl] at hY
    exact ⟨_, _, _, hX, hY, s⟩
end
