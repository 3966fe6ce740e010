section
variable {E : ab_E} {d : Nat} {μ : ab_M} {r n m : Nat} {N : Nat → Int32} {a b c : Int32}
theorem cn_s {t : Nat} (ht : t < 14) : ¬ cn (some t) = (-1000000005 : Int32) := fun q => by
  have := (cn_ne (o := some t) (fun x hx => by cases hx; omega)).mp q
  cases this
/-- the value of the text that counts, if one does -/
noncomputable def gvN (N : Nat → Int32) (m key : Nat) (x y : Int32) (z : Int32) : Int32 := match lT N key m with
  | none => z
  | some t => vlN N t (fun i => if i = 0 then x else y)
theorem kX2_given {key : Nat} {x y z : Int32} (hk : key = 1 ∨ key = 2) (hr : ab_isRoom r) (h : RC μ r N n m) (g : G N n m) : ∃ μ', (if ¬ μ (r + 7) key = (-1000000005 : Int32) then (ab_cV (X1_name E (d + 3) x y 0 0 μ) (fun μ3 => (ab_cI (X1_value E (d + 3) (μ (r + 7) key) μ3) (fun x4 μ5 => some (some (Value.int x4), μ5))))) else some (some (Value.int z), μ)) = some (some (.int (gvN N m key x y z)), μ') ∧ ∀ a, a ≠ 20 → a ≠ 21 → μ' a = μ a := by
  have hm := g.2.2.2.2.1.2
  rw [h.2.2.2.1 key (by omega)]
  unfold gvN
  cases ht : lT N key m with
  | none => rw [if_neg (fun q => q rfl)]; exact ⟨μ, rfl, fun _ _ _ => rfl⟩
  | some t =>
    obtain ⟨t1, t2⟩ := lT_lt ht
    rw [if_pos (cn_s (by omega)), X1_name_q, ab_cV_s]
    generalize hμ2 : (ab_up (ab_up (ab_up (ab_up μ 20 0 x) 20 1 y) 20 2 0) 20 3 0) = μ2
    have h2 : ∀ a, a ≠ 20 → μ2 a = μ a := fun a ha => by rw [← hμ2, za_up_a ha, za_up_a ha, za_up_a ha, za_up_a ha]
    have hR : RLw μ2 N t := by
      unfold RLw
      rw [h2 2 (by decide), h2 3 (by decide), h2 4 (by decide), h2 (6 + t) (by omega)]
      exact h.2.2.2.2 t t1
    obtain ⟨μ3, e1, e2⟩ := kX1_value (E := E) (d := d + 1) (μ := μ2) (t := t) (by omega) (g.2.2.2.2.2 t t1) hR (fun i => if i = 0 then x else y) (fun i hi => by
      rw [t2] at hi
      have hi : i < 2 := by unfold nb at hi; rw [if_neg (by omega)] at hi; exact hi
      rw [← hμ2]
      rcases (show i = 0 ∨ i = 1 by omega) with rfl | rfl <;> simp [ab_up, upd])
    show ∃ μ', ab_cI (X1_value E (d + 3) (nI t) μ2) _ = _ ∧ _
    rw [e1, ab_cI_s]
    exact ⟨μ3, rfl, fun a h20 h21 => by rw [e2 a h21, h2 a h20]⟩
theorem kX7_given {key : Nat} {x y : Int32} (hk : key = 1 ∨ key = 2) (hN : μ 77 = N) (g : G N n m) {t : Nat} (ht : lT N key m = some t) : ∃ μ', X7_worksOut E (d + 1) (nI t) (ab_up (ab_up μ 88 0 x) 88 1 y) = some (some (.int (vlN N t (fun i => if i = 0 then x else y))), μ') ∧ ∀ a, a ≠ 87 → a ≠ 88 → μ' a = μ a := by
  have hm := g.2.2.2.2.1.2
  obtain ⟨t1, t2⟩ := lT_lt ht
  obtain ⟨μ3, e1, e2⟩ := kX7_worksOut (E := E) (d := d) (μ := ab_up (ab_up μ 88 0 x) 88 1 y) (t := t) (by omega) (g.2.2.2.2.2 t t1) (by rw [za_up_a (by decide), za_up_a (by decide)]; exact hN) (fun i => if i = 0 then x else y) (fun i hi => by
      rw [t2] at hi
      have hi : i < 2 := by unfold nb at hi; rw [if_neg (by omega)] at hi; exact hi
      rcases (show i = 0 ∨ i = 1 by omega) with rfl | rfl <;> simp [ab_up, upd])
  exact ⟨μ3, e1, fun a h87 h88 => by rw [e2 a h87, za_up_a h88, za_up_a h88]⟩
theorem p_fee : PR (X6_fee E (d + 100)) (X7_fee E (d + 100)) := by
  intro μ s
  obtain ⟨n, m, e, sa, h4, so⟩ := id s
  obtain ⟨g, h, h2, h3⟩ := id sa
  obtain ⟨q1, q2, q3, q4, q5, q6, q7⟩ := h.1
  have hm := g.2.2.2.2.1.2
  obtain ⟨μ1, e1, e2⟩ := kX2_given (E := E) (d := d + 95) (x := μ 77 4) (y := μ 77 5) (z := μ 77 4) (key := 1) (Or.inl rfl) isR22 h g
  have hN1 : μ1 77 = μ 77 := e2 77 (by decide) (by decide)
  have hX : X6_fee E (d + 100) μ = some (some (.int (gvN (μ 77) m 1 (μ 77 4) (μ 77 5) (μ 77 4))), μ1) := by
    rw [X6_fee_q, X2_feeGiven_q isR22, q4, q5]
    exact (congrArg (fun o => ab_cI o (fun x1 μ2 => some (some (Value.int x1), μ2))) e1).trans rfl
  have up77 : ∀ (μ : ab_M) j x, ab_up μ 88 j x 77 = μ 77 := fun μ j x => za_up_a (by decide)
  have hY : X7_fee E (d + 100) μ1 = _ := X7_fee_q
  rw [show X7_counts E (d + 99) (1 : Int32) μ1 = some (some (.int (cm (lT (μ 77) 1 m))), μ1) from kX7_counts (key := 1) (by decide) hN1 g, ab_cI_s] at hY
  simp only [up77, hN1] at hY
  unfold gvN at hX
  cases ht : lT (μ 77) 1 m with
  | none =>
    rw [ht] at hX hY
    rw [if_neg (show ¬ (0 : Int32) ≤ cm none by decide)] at hY
    exact ⟨_, _, _, hX, hY, s.rd fun a ha => by unfold kp at ha; rw [za_up_a (by omega), za_up_a (by omega), e2 a (by omega) (by omega)]⟩
  | some t =>
    have t1 := (lT_lt ht).1
    rw [ht] at hX hY
    obtain ⟨μ3, f1, f2⟩ := kX7_given (E := E) (d := d + 98) (x := μ 77 4) (y := μ 77 5) (key := 1) (Or.inl rfl) hN1 g ht
    rw [if_pos (show (0 : Int32) ≤ cm (some t) from nI_pos' (by omega))] at hY
    have hY2 := hY.trans (congrArg (fun o => ab_cI o (fun x1 μ2 => some (some (Value.int x1), μ2))) f1)
    exact ⟨_, _, _, hX, hY2, s.rd fun a ha => by unfold kp at ha; rw [f2 a (by omega) (by omega), e2 a (by omega) (by omega)]⟩
theorem p_fine : PR (X6_fine E (d + 100) a) (X7_fine E (d + 100) a) := by
  intro μ s
  obtain ⟨n, m, e, sa, h4, so⟩ := id s
  obtain ⟨g, h, h2, h3⟩ := id sa
  have hn := g.n10
  have hm := g.2.2.2.2.1.2
  by_cases ha : 0 ≤ a ∧ a ≤ nI n - 1
  · obtain ⟨i, hi, rfl⟩ := (za_has (by omega)).mp ha
    have h10 := za_in (show i < 10 by omega) (show 10 < 2 ^ 31 by decide)
    obtain ⟨r1, r2, r3, r4, r5⟩ := h.2.2.1 i hi
    have hi2 : i < 200 := by omega
    obtain ⟨μ1, e1, e2⟩ := kX2_given (E := E) (d := d + 95) (x := μ 77 (14 + 5 * i)) (y := μ 77 (15 + 5 * i)) (z := μ 77 (15 + 5 * i)) (key := 2) (Or.inr rfl) isR22 h g
    have hN1 : μ1 77 = μ 77 := e2 77 (by decide) (by decide)
    have hX : X6_fine E (d + 100) (nI i) μ = some (some (.int (gvN (μ 77) m 2 (μ 77 (14 + 5 * i)) (μ 77 (15 + 5 * i)) (μ 77 (15 + 5 * i)))), μ1) := by
      rw [X6_fine_q, kX2_has' isR22 h g, ab_cI_s, zb_t ha, if_neg (by decide), X2_fineGiven_q isR22]
      simp only [if_pos h10, za_cl (show i < 2 ^ 31 by omega), r2, r3]
      exact (congrArg (fun o => ab_cI o (fun x1 μ2 => some (some (Value.int x1), μ2))) e1).trans rfl
    have up77 : ∀ (μ : ab_M) j x, ab_up μ 88 j x 77 = μ 77 := fun μ j x => za_up_a (by decide)
    have hY : X7_fine E (d + 100) (nI i) μ1 = _ := X7_fine_q
    rw [kX7_has' hN1 g, ab_cI_s, zb_t ha, if_pos (by decide), show X7_counts E (d + 99) (2 : Int32) μ1 = some (some (.int (cm (lT (μ 77) 2 m))), μ1) from kX7_counts (key := 2) (by decide) hN1 g, ab_cI_s] at hY
    simp only [kX7_of1 hi2, kX7_of2 hi2, ab_cI_s, up77, hN1] at hY
    unfold gvN at hX
    cases ht : lT (μ 77) 2 m with
    | none =>
      rw [ht] at hX hY
      rw [if_neg (show ¬ (0 : Int32) ≤ cm none by decide)] at hY
      exact ⟨_, _, _, hX, hY, s.rd fun a ha => by unfold kp at ha; rw [za_up_a (by omega), za_up_a (by omega), e2 a (by omega) (by omega)]⟩
    | some t =>
      have t1 := (lT_lt ht).1
      rw [ht] at hX hY
      obtain ⟨μ3, f1, f2⟩ := kX7_given (E := E) (d := d + 98) (x := μ 77 (14 + 5 * i)) (y := μ 77 (15 + 5 * i)) (key := 2) (Or.inr rfl) hN1 g ht
      rw [if_pos (show (0 : Int32) ≤ cm (some t) from nI_pos' (by omega))] at hY
      have hY2 := hY.trans (congrArg (fun o => ab_cI o (fun x1 μ2 => some (some (Value.int x1), μ2))) f1)
      exact ⟨_, _, _, hX, hY2, s.rd fun a ha => by unfold kp at ha; rw [f2 a (by omega) (by omega), e2 a (by omega) (by omega)]⟩
  · refine ⟨-1000000001, μ, μ, ?_, ?_, s⟩
    · rw [X6_fine_q, kX2_has' isR22 h g, ab_cI_s, zb_f ha, if_pos rfl]
    · rw [X7_fine_q, kX7_has' rfl g, ab_cI_s, zb_f ha, if_neg (by decide)]
theorem za_63 {t : Nat} : (63 : Int32) + ((2 : Int32) * nI t) = nI (63 + 2 * t) := by
  show nI 63 + nI 2 * nI t = _
  rw [pk_mul, nI_add]
theorem p_textTold : PR (X6_textTold E (d + 100) a b) (X7_textTold E (d + 100) a b) := by
  intro μ s
  obtain ⟨n, m, e, sa, h4, so⟩ := id s
  obtain ⟨g, h, h2, h3⟩ := id sa
  have hm := g.2.2.2.2.1.2
  have hM := g.2.2.2.2.1.1
  have hX : X6_textTold E (d + 100) a b μ = _ := X6_textTold_q
  rw [kX6_isWithin, ab_cI_s, h.1.2.1, hM] at hX
  have hY : X7_textTold E (d + 100) a b μ = _ := X7_textTold_q
  rw [kX7_in, ab_cI_s, hM] at hY
  by_cases ha : 0 ≤ a ∧ a ≤ nI m - 1
  · rw [zb_t ha, if_neg (by decide), kX6_isWithin, ab_cI_s] at hX
    rw [zb_t ha, if_neg (by decide), kX7_in, ab_cI_s] at hY
    by_cases hb : 0 ≤ b ∧ b ≤ 1
    · rw [zb_t hb, if_pos (by decide)] at hX
      rw [zb_t hb, if_pos (by decide)] at hY
      obtain ⟨i, hi, rfl⟩ := (za_has (by omega)).mp ha
      have h14 := za_in (show i < 14 by omega) (show 14 < 2 ^ 31 by decide)
      obtain ⟨t1, t2, t3, t4⟩ := h.2.2.2.2 i hi
      obtain ⟨u1, u2, u3, u4⟩ := g.2.2.2.2.2 i hi
      by_cases b0 : b = 0
      · rw [if_neg (fun q => q b0), if_pos h14, za_cl (by omega), t1] at hX
        rw [if_neg (fun q => q b0), za_63, if_pos (za_in (show 63 + 2 * i < 1435 by omega) (by decide)), za_cl (by omega), u1, show nI (1000 * tk (μ 77) i + tl (μ 77) i) / (1000 : Int32) = nI ((1000 * tk (μ 77) i + tl (μ 77) i) / 1000) from pk_div (by omega) (by decide) (by decide), show (1000 * tk (μ 77) i + tl (μ 77) i) / 1000 = tk (μ 77) i by omega] at hY
        exact ⟨_, μ, μ, hX, hY, s⟩
      · rw [if_pos b0, if_pos h14, za_cl (by omega), t2] at hX
        rw [if_pos b0, za_63, za_1, if_pos (za_in (show 63 + 2 * i + 1 < 1435 by omega) (by decide)), za_cl (by omega), show 63 + 2 * i + 1 = 64 + 2 * i by omega] at hY
        exact ⟨_, μ, μ, hX, hY, s⟩
    · rw [zb_f hb, if_neg (by decide)] at hX
      rw [zb_f hb, if_neg (by decide)] at hY
      exact ⟨_, μ, μ, hX, hY, s⟩
  · rw [zb_f ha, if_pos rfl] at hX
    rw [zb_f ha, if_pos rfl] at hY
    exact ⟨_, μ, μ, hX, hY, s⟩
theorem p_why : PR (X6_why E (d + 100) a) (X7_why E (d + 100) a) := by
  intro μ s
  obtain ⟨n, m, e, sa, h4, so⟩ := id s
  obtain ⟨g, h, h2, h3⟩ := id sa
  have hm := g.2.2.2.2.1.2
  have hX : X6_why E (d + 100) a μ = _ := X6_why_q
  rw [kX6_isWithin, ab_cI_s] at hX
  have hY : X7_why E (d + 100) a μ = _ := X7_why_q
  rw [kX7_in, ab_cI_s] at hY
  by_cases ha : 0 ≤ a ∧ a ≤ 2
  · obtain ⟨k, hk, rfl⟩ := (za_rng (k := 2) (by decide)).mp ha
    rw [zb_t ha, if_neg (by decide), if_pos (za_in (show k < 3 by omega) (by decide)), za_cl (by omega), h.2.2.2.1 k (by omega)] at hX
    rw [zb_t ha, if_pos (by decide), kX7_counts (by omega) rfl g, ab_cI_s] at hY
    cases ht : lT (μ 77) k m with
    | none =>
      rw [ht] at hX hY
      rw [if_neg (show ¬ (0 : Int32) ≤ cm none by decide)] at hY
      exact ⟨_, μ, μ, hX, hY, s⟩
    | some t =>
      have := lT_lt ht
      rw [ht] at hX hY
      rw [if_pos (show (0 : Int32) ≤ cm (some t) from nI_pos' (by omega))] at hY
      exact ⟨_, μ, μ, hX, hY, s⟩
  · rw [zb_f ha, if_pos rfl] at hX
    rw [zb_f ha, if_neg (by decide)] at hY
    exact ⟨_, μ, μ, hX, hY, s⟩
end
