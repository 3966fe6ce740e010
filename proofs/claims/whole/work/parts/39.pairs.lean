/-! the first pairs of public methods -/
section
variable {E : ab_E} {d : Nat} {μ : ab_M} {r n m : Nat} {N : Nat → Int32} {a b c : Int32}
theorem p_told : PR (X6_told E (d + 100) a b) (X7_told E (d + 100) a b) := by
  intro μ s
  obtain ⟨n, m, e, ⟨g, h, h2, h3⟩, h4, so⟩ := id s
  have hn := g.n10
  by_cases ha : 0 ≤ a ∧ a ≤ nI n - 1
  · by_cases hb : 0 ≤ b ∧ b ≤ 7
    · have hX : X6_told E (d + 100) a b μ = _ := X6_told_q
      rw [kX2_has' isR22 h g, ab_cI_s, zb_t ha, if_pos (by decide)] at hX
      obtain ⟨i, hi, rfl⟩ := (za_has (by omega)).mp ha
      have h10 := za_in (show i < 10 by omega) (show 10 < 2 ^ 31 by decide)
      obtain ⟨r1, r2, r3, r4, r5⟩ := h.2.2.1 i hi
      have hi2 : i < 200 := by omega
      have hcl := za_cl (show i < 2 ^ 31 by omega)
      obtain ⟨w, hw, rfl⟩ := (za_rng (k := 7) (by decide)).mp hb
      have : w = 0 ∨ w = 1 ∨ w = 2 ∨ w = 3 ∨ w = 4 ∨ w = 5 ∨ w = 6 ∨ w = 7 := by omega
      rcases this with rfl | rfl | rfl | rfl | rfl | rfl | rfl | rfl
      · refine ⟨μ 77 (13 + 5 * i), μ, μ, ?_, ?_, s⟩
        · rw [hX, if_pos (by decide), if_pos h10, hcl, r1]
        · rw [X7_told_q, kX7_has' (N := μ 77) rfl g, ab_cI_s, zb_t ha, if_neg (by decide), kX7_in, ab_cI_s, zb_t hb, if_pos (by decide), if_neg (by decide), kX7_of (w := 0) hi2 (by decide), ab_cI_s]; rfl
      · refine ⟨μ 77 (14 + 5 * i), μ, μ, ?_, ?_, s⟩
        · rw [hX, if_neg (by decide), if_pos (by decide), if_pos h10, hcl, r2]
        · rw [X7_told_q, kX7_has' (N := μ 77) rfl g, ab_cI_s, zb_t ha, if_neg (by decide), kX7_in, ab_cI_s, zb_t hb, if_pos (by decide), if_neg (by decide), kX7_of (w := 1) hi2 (by decide), ab_cI_s, show 13 + 5 * i + 1 = 14 + 5 * i by omega]
      · refine ⟨μ 77 (15 + 5 * i), μ, μ, ?_, ?_, s⟩
        · rw [hX, if_neg (by decide), if_neg (by decide), if_pos (by decide), if_pos h10, hcl, r3]
        · rw [X7_told_q, kX7_has' (N := μ 77) rfl g, ab_cI_s, zb_t ha, if_neg (by decide), kX7_in, ab_cI_s, zb_t hb, if_pos (by decide), if_neg (by decide), kX7_of (w := 2) hi2 (by decide), ab_cI_s, show 13 + 5 * i + 2 = 15 + 5 * i by omega]
      · refine ⟨μ 77 (16 + 5 * i), μ, μ, ?_, ?_, s⟩
        · rw [hX, if_neg (by decide), if_neg (by decide), if_neg (by decide), if_pos (by decide), if_pos h10, hcl, r4]
        · rw [X7_told_q, kX7_has' (N := μ 77) rfl g, ab_cI_s, zb_t ha, if_neg (by decide), kX7_in, ab_cI_s, zb_t hb, if_pos (by decide), if_neg (by decide), kX7_of (w := 3) hi2 (by decide), ab_cI_s, show 13 + 5 * i + 3 = 16 + 5 * i by omega]
      · refine ⟨μ 77 (17 + 5 * i), μ, μ, ?_, ?_, s⟩
        · rw [hX, if_neg (by decide), if_neg (by decide), if_neg (by decide), if_neg (by decide), if_pos (by decide), if_pos h10, hcl, r5]
        · rw [X7_told_q, kX7_has' (N := μ 77) rfl g, ab_cI_s, zb_t ha, if_neg (by decide), kX7_in, ab_cI_s, zb_t hb, if_pos (by decide), if_neg (by decide), kX7_of (w := 4) hi2 (by decide), ab_cI_s, show 13 + 5 * i + 4 = 17 + 5 * i by omega]
      · obtain ⟨μ1, e1, e2⟩ := kX2_gathers (E := E) (d := d + 94) isR22 h g hi
        have hN1 : μ1 77 = μ 77 := e2 77 (by omega) (by omega)
        obtain ⟨μ2, f1, f2⟩ := kX7_gathers (E := E) (d := d + 96) hN1 g hi
        refine ⟨nI (gaN (μ 77) n m i), μ1, μ2, ?_, ?_, s.rd fun a ha => ?_⟩
        · rw [hX, if_neg (by decide), if_neg (by decide), if_neg (by decide), if_neg (by decide), if_neg (by decide), if_pos (by decide), e1, ab_cI_s]
        · rw [X7_told_q, kX7_has' (N := μ 77) hN1 g, ab_cI_s, zb_t ha, if_neg (by decide), kX7_in, ab_cI_s, zb_t hb, if_pos (by decide), if_pos (by decide), if_neg (by decide), f1, ab_cI_s]
        · unfold kp at ha; rw [f2 a (by omega) (by omega), e2 a (by omega) (by omega)]
      · refine ⟨dwN (μ 77) n i, μ, μ, ?_, ?_, s⟩
        · rw [hX, if_neg (by decide), if_neg (by decide), if_neg (by decide), if_neg (by decide), if_neg (by decide), if_neg (by decide), if_pos (by decide), kX2_draws isR22 h g hi, ab_cI_s]
        · rw [X7_told_q, kX7_has' (N := μ 77) rfl g, ab_cI_s, zb_t ha, if_neg (by decide), kX7_in, ab_cI_s, zb_t hb, if_pos (by decide), if_pos (by decide), if_pos (by decide), if_neg (by decide), kX7_draws rfl g hi, ab_cI_s]
      · refine ⟨woN (μ 77) i, μ, μ, ?_, ?_, s⟩
        · rw [hX, if_neg (by decide), if_neg (by decide), if_neg (by decide), if_neg (by decide), if_neg (by decide), if_neg (by decide), if_neg (by decide), if_pos (by decide), kX2_worth isR22 h g hi, ab_cI_s]
        · rw [X7_told_q, kX7_has' (N := μ 77) rfl g, ab_cI_s, zb_t ha, if_neg (by decide), kX7_in, ab_cI_s, zb_t hb, if_pos (by decide), if_pos (by decide), if_pos (by decide), if_pos (by decide), kX7_worthOf rfl g hi, ab_cI_s]
    · refine ⟨-1000000001, μ, μ, ?_, ?_, s⟩
      · have ne : ∀ w : Nat, w ≤ 7 → b ≠ nI w := fun w hw q => hb (by rw [q]; exact (za_rng (k := 7) (by decide)).mpr ⟨w, hw, rfl⟩)
        rw [X6_told_q, kX2_has' isR22 h g, ab_cI_s, zb_t ha, if_pos (by decide), if_neg (show ¬ b = (0 : Int32) from ne 0 (by omega)), if_neg (show ¬ b = (1 : Int32) from ne 1 (by omega)), if_neg (show ¬ b = (2 : Int32) from ne 2 (by omega)), if_neg (show ¬ b = (3 : Int32) from ne 3 (by omega)), if_neg (show ¬ b = (4 : Int32) from ne 4 (by omega)), if_neg (show ¬ b = (5 : Int32) from ne 5 (by omega)), if_neg (show ¬ b = (6 : Int32) from ne 6 (by omega)), if_neg (show ¬ b = (7 : Int32) from ne 7 (by omega))]
      · rw [X7_told_q, kX7_has' rfl g, ab_cI_s, zb_t ha, if_neg (by decide), kX7_in, ab_cI_s, zb_f hb, if_neg (by decide)]
  · refine ⟨-1000000001, μ, μ, ?_, ?_, s⟩
    · rw [X6_told_q, kX2_has' isR22 h g, ab_cI_s, zb_f ha, if_neg (by decide)]
    · rw [X7_told_q, kX7_has' rfl g, ab_cI_s, zb_f ha, if_pos rfl]
theorem p_as : PR (X6_as E (d + 100) a b) (X7_as E (d + 100) a b) := by
  intro μ s
  obtain ⟨n, m, e, ⟨g, h, h2, h3⟩, h4, so⟩ := id s
  have hn := g.n10
  by_cases ha : 0 ≤ a ∧ a ≤ nI n - 1
  · by_cases hb : 0 ≤ b ∧ b ≤ 5
    · obtain ⟨i, hi, rfl⟩ := (za_has (by omega)).mp ha
      have h10 := za_in (show i < 10 by omega) (show 10 < 2 ^ 31 by decide)
      obtain ⟨r1, r2, r3, r4, r5⟩ := h.2.2.1 i hi
      have hi2 : i < 200 := by omega
      have hcl := za_cl (show i < 2 ^ 31 by omega)
      have hX : X6_as E (d + 100) (nI i) b μ = _ := X6_as_q
      rw [kX2_has' isR22 h g, ab_cI_s, zb_t ha, if_neg (by decide), kX0_isKind, ab_cI_s, zb_t hb, if_pos (by decide), if_pos h10, kX0_isUnder, ab_cI_s, if_pos h10, hcl, r1] at hX
      have hY : X7_as E (d + 100) (nI i) b μ = _ := X7_as_q
      rw [kX7_has' rfl g, ab_cI_s, zb_t ha, if_neg (by decide), kX7_in, ab_cI_s, zb_t hb, if_pos (by decide), kX7_of0 hi2, ab_cI_s, kX7_isUnder, ab_cI_s, kX7_of1 hi2, ab_cI_s] at hY
      by_cases hu : μ 77 (13 + 5 * i) = b ∨ b = 0 ∨ (μ 77 (13 + 5 * i) = 3 ∧ b = 1) ∨ (μ 77 (13 + 5 * i) = 4 ∧ b = 2)
      · refine ⟨μ 77 (14 + 5 * i), μ, μ, ?_, ?_, s⟩
        · rw [hX, if_pos hu, if_neg (by decide)]; exact congrArg (fun x => some (some (Value.int x), μ)) r2
        · rw [hY, if_pos hu, if_neg (by decide)]
      · refine ⟨-1000000012, μ, μ, ?_, ?_, s⟩
        · rw [hX, if_neg hu, if_pos rfl]
        · rw [hY, if_neg hu, if_pos rfl]
    · refine ⟨-1000000001, μ, μ, ?_, ?_, s⟩
      · rw [X6_as_q, kX2_has' isR22 h g, ab_cI_s, zb_t ha, if_neg (by decide), kX0_isKind, ab_cI_s, zb_f hb, if_neg (by decide)]
      · rw [X7_as_q, kX7_has' rfl g, ab_cI_s, zb_t ha, if_neg (by decide), kX7_in, ab_cI_s, zb_f hb, if_neg (by decide)]
  · refine ⟨-1000000001, μ, μ, ?_, ?_, s⟩
    · rw [X6_as_q, kX2_has' isR22 h g, ab_cI_s, zb_f ha, if_pos rfl]
    · rw [X7_as_q, kX7_has' rfl g, ab_cI_s, zb_f ha, if_pos rfl]
/-- a number of a saying that is written on both sides -/
theorem SI.say {j i : Nat} {x : Int32} {n m e : Nat} (s : SA μ n m e) (h4 : hiE (μ 77) (μ 78)) (so : SO μ m) (hi : i < n) (hj : j < 5) (hv : (j = 0 ∧ ∃ v, v < 6 ∧ x = nI v) ∨ (j = 1 ∧ ∃ v, v < 100 ∧ x = nI v) ∨ (j = 2 ∧ ∃ v, v < 100 ∧ x = nI v) ∨ (j = 3 ∧ ∃ v, v < 6 ∧ x = nI v) ∨ j = 4) : SI (wN (ab_up μ (22 + (1 + j)) i x) (upd (μ 77) (13 + 5 * i + j) x)) := by
  obtain ⟨g, h, h2, h3⟩ := s
  have hn := g.n10
  have hm := g.2.2.2.2.1.2
  have h1 := h.say (x := x) (j := j) isR22 hm hi hn hj
  refine SI.wr (μ := μ) (e' := e) (h1.same isR22 hm fun a ha => wN_a (by omega)) wN_77 (g.say hi hj hv) (by rw [upd_n (by omega)]; exact h2) h3 (hiE.r.u (by omega)) h4 so fun a ha => ?_
  unfold kp at ha
  rw [wN_a (by omega), za_up_a (by omega)]
theorem SI.say0 {i : Nat} {x : Int32} {n m e : Nat} (s : SA μ n m e) (h4 : hiE (μ 77) (μ 78)) (so : SO μ m) (hi : i < n) (hx : ∃ v, v < 6 ∧ x = nI v) : SI (wN (ab_up μ 23 i x) (upd (μ 77) (13 + 5 * i) x)) := by
  have := SI.say (j := 0) (x := x) s h4 so hi (by decide) (Or.inl ⟨rfl, hx⟩)
  rw [show 13 + 5 * i + 0 = 13 + 5 * i by omega] at this
  exact this
theorem SI.say1 {i : Nat} {x : Int32} {n m e : Nat} (s : SA μ n m e) (h4 : hiE (μ 77) (μ 78)) (so : SO μ m) (hi : i < n) (hx : ∃ v, v < 100 ∧ x = nI v) : SI (wN (ab_up μ 24 i x) (upd (μ 77) (14 + 5 * i) x)) := by
  have := SI.say (j := 1) (x := x) s h4 so hi (by decide) (Or.inr (Or.inl ⟨rfl, hx⟩))
  rw [show 13 + 5 * i + 1 = 14 + 5 * i by omega] at this
  exact this
theorem SI.say2 {i : Nat} {x : Int32} {n m e : Nat} (s : SA μ n m e) (h4 : hiE (μ 77) (μ 78)) (so : SO μ m) (hi : i < n) (hx : ∃ v, v < 100 ∧ x = nI v) : SI (wN (ab_up μ 25 i x) (upd (μ 77) (15 + 5 * i) x)) := by
  have := SI.say (j := 2) (x := x) s h4 so hi (by decide) (Or.inr (Or.inr (Or.inl ⟨rfl, hx⟩)))
  rw [show 13 + 5 * i + 2 = 15 + 5 * i by omega] at this
  exact this
theorem SI.say3 {i : Nat} {x : Int32} {n m e : Nat} (s : SA μ n m e) (h4 : hiE (μ 77) (μ 78)) (so : SO μ m) (hi : i < n) (hx : ∃ v, v < 6 ∧ x = nI v) : SI (wN (ab_up μ 26 i x) (upd (μ 77) (16 + 5 * i) x)) := by
  have := SI.say (j := 3) (x := x) s h4 so hi (by decide) (Or.inr (Or.inr (Or.inr (Or.inl ⟨rfl, hx⟩))))
  rw [show 13 + 5 * i + 3 = 16 + 5 * i by omega] at this
  exact this
theorem za_13' {s : Nat} : (13 : Int32) + ((5 : Int32) * nI s) = nI (13 + 5 * s) := by
  show nI 13 + nI 5 * nI s = _
  rw [pk_mul, nI_add]
theorem p_turns : PR (X6_turns E (d + 100) a b) (X7_turns E (d + 100) a b) := by
  intro μ s
  obtain ⟨n, m, e, sa, h4, so⟩ := id s
  obtain ⟨g, h, h2, h3⟩ := id sa
  have hn := g.n10
  by_cases ha : 0 ≤ a ∧ a ≤ nI n - 1
  · by_cases hb : 0 ≤ b ∧ b ≤ 5
    · obtain ⟨i, hi, rfl⟩ := (za_has (by omega)).mp ha
      have h10 := za_in (show i < 10 by omega) (show 10 < 2 ^ 31 by decide)
      refine ⟨μ 77 (13 + 5 * i), ab_up μ 23 i b, _, ?_, ?_, SI.say0 sa h4 so hi (za_5.mp hb)⟩
      · rw [X6_turns_q, kX2_has' isR22 h g, ab_cI_s, zb_t ha, if_neg (by decide), kX0_isKind, ab_cI_s, zb_t hb, if_pos (by decide), if_pos h10, if_pos h10, za_cl (by omega), (h.2.2.1 i hi).1]
      · rw [X7_turns_q, kX7_has' (N := μ 77) (za_up_a (by decide)) g, ab_cI_s, zb_t ha, if_neg (by decide), kX7_in, ab_cI_s, zb_t hb, if_neg (by decide), za_13', kX7_swaps (N := μ 77) (by omega) (za_up_a (by decide)), ab_cI_s]
    · refine ⟨-1000000001, μ, μ, ?_, ?_, s⟩
      · rw [X6_turns_q, kX2_has' isR22 h g, ab_cI_s, zb_t ha, if_neg (by decide), kX0_isKind, ab_cI_s, zb_f hb, if_neg (by decide)]
      · rw [X7_turns_q, kX7_has' rfl g, ab_cI_s, zb_t ha, if_neg (by decide), kX7_in, ab_cI_s, zb_f hb, if_pos rfl]
  · refine ⟨-1000000001, μ, μ, ?_, ?_, s⟩
    · rw [X6_turns_q, kX2_has' isR22 h g, ab_cI_s, zb_f ha, if_pos rfl]
    · rw [X7_turns_q, kX7_has' rfl g, ab_cI_s, zb_f ha, if_pos rfl]
theorem p_moves : PR (X6_moves E (d + 100) a b) (X7_moves E (d + 100) a b) := by
  intro μ s
  obtain ⟨n, m, e, sa, h4, so⟩ := id s
  obtain ⟨g, h, h2, h3⟩ := id sa
  have hn := g.n10
  by_cases ha : 0 ≤ a ∧ a ≤ nI n - 1
  · by_cases hb : 0 ≤ b ∧ b ≤ 5
    · obtain ⟨i, hi, rfl⟩ := (za_has (by omega)).mp ha
      have h10 := za_in (show i < 10 by omega) (show 10 < 2 ^ 31 by decide)
      refine ⟨μ 77 (16 + 5 * i), ab_up μ 26 i b, _, ?_, ?_, SI.say3 sa h4 so hi (za_5.mp hb)⟩
      · rw [X6_moves_q, kX2_has' isR22 h g, ab_cI_s, zb_t ha, if_neg (by decide), kX2_isCorner, ab_cI_s, zb_t hb, if_pos (by decide), if_pos h10, if_pos h10, za_cl (by omega), (h.2.2.1 i hi).2.2.2.1]
      · rw [X7_moves_q, kX7_has' (N := μ 77) (za_up_a (by decide)) g, ab_cI_s, zb_t ha, if_neg (by decide), kX7_isCorner, ab_cI_s, zb_t hb, if_neg (by decide), show ((13 : Int32) + ((5 : Int32) * nI i)) + (3 : Int32) = nI (13 + 5 * i + 3) from za_13 (w := 3), kX7_swaps (N := μ 77) (by omega) (za_up_a (by decide)), ab_cI_s, show 13 + 5 * i + 3 = 16 + 5 * i by omega]
    · refine ⟨-1000000001, μ, μ, ?_, ?_, s⟩
      · rw [X6_moves_q, kX2_has' isR22 h g, ab_cI_s, zb_t ha, if_neg (by decide), kX2_isCorner, ab_cI_s, zb_f hb, if_neg (by decide)]
      · rw [X7_moves_q, kX7_has' rfl g, ab_cI_s, zb_t ha, if_neg (by decide), kX7_isCorner, ab_cI_s, zb_f hb, if_pos rfl]
  · refine ⟨-1000000001, μ, μ, ?_, ?_, s⟩
    · rw [X6_moves_q, kX2_has' isR22 h g, ab_cI_s, zb_f ha, if_pos rfl]
    · rw [X7_moves_q, kX7_has' rfl g, ab_cI_s, zb_f ha, if_pos rfl]
theorem za_12 {b : Int32} : (1 ≤ b ∧ b ≤ 2) ↔ (b = 1 ∨ b = 2) := by
  constructor
  · rintro ⟨h0, h1⟩
    have h00 : (0 : Int32) ≤ b := by
      rw [Int32.le_iff_toInt_le] at h0 ⊢
      have : (0 : Int32).toInt = 0 := by decide
      have : (1 : Int32).toInt = 1 := by decide
      omega
    obtain ⟨s, hs, rfl⟩ := (za_rng (k := 2) (by decide)).mp ⟨h00, h1⟩
    have : 1 ≤ s := (nI_leI (a := 1) (by decide) (by omega)).mp h0
    have : s = 1 ∨ s = 2 := by omega
    rcases this with rfl | rfl
    · exact Or.inl rfl
    · exact Or.inr rfl
  · rintro (rfl | rfl) <;> decide
theorem p_set : PR (X6_set E (d + 100) a b c) (X7_set E (d + 100) a b c) := by
  intro μ s
  obtain ⟨n, m, e, sa, h4, so⟩ := id s
  obtain ⟨g, h, h2, h3⟩ := id sa
  have hn := g.n10
  by_cases ha : 0 ≤ a ∧ a ≤ nI n - 1
  · by_cases hb : 1 ≤ b ∧ b ≤ 2
    · by_cases hc : 0 ≤ c ∧ c ≤ 99
      · obtain ⟨i, hi, rfl⟩ := (za_has (by omega)).mp ha
        have h10 := za_in (show i < 10 by omega) (show 10 < 2 ^ 31 by decide)
        have hX : X6_set E (d + 100) (nI i) b c μ = _ := X6_set_q
        rw [kX2_has' isR22 h g, ab_cI_s, zb_t ha, if_neg (by decide), kX6_isWithin, ab_cI_s, zb_t hb, if_neg (by decide), kX6_isWithin, ab_cI_s, zb_t hc, if_pos (by decide), if_pos h10, if_pos h10, if_pos h10, if_pos h10, za_cl (show i < 2 ^ 31 by omega), (h.2.2.1 i hi).2.1, (h.2.2.1 i hi).2.2.1] at hX
        rcases za_12.mp hb with rfl | rfl
        · refine ⟨μ 77 (14 + 5 * i), ab_up μ 24 i c, _, ?_, ?_, SI.say1 sa h4 so hi (za_99.mp hc)⟩
          · rw [hX, if_neg (by decide)]
          · rw [X7_set_q, kX7_has' (N := μ 77) (za_up_a (by decide)) g, ab_cI_s, zb_t ha, if_neg (by decide), kX7_in, ab_cI_s, zb_t hb, if_neg (by decide), kX7_in, ab_cI_s, zb_t hc, if_neg (by decide), show ((13 : Int32) + ((5 : Int32) * nI i)) + (1 : Int32) = nI (13 + 5 * i + 1) from za_13 (w := 1), kX7_swaps (N := μ 77) (by omega) (za_up_a (by decide)), ab_cI_s, show 13 + 5 * i + 1 = 14 + 5 * i by omega]
        · refine ⟨μ 77 (15 + 5 * i), ab_up μ 25 i c, _, ?_, ?_, SI.say2 sa h4 so hi (za_99.mp hc)⟩
          · rw [hX, if_pos (by decide)]
          · rw [X7_set_q, kX7_has' (N := μ 77) (za_up_a (by decide)) g, ab_cI_s, zb_t ha, if_neg (by decide), kX7_in, ab_cI_s, zb_t hb, if_neg (by decide), kX7_in, ab_cI_s, zb_t hc, if_neg (by decide), show ((13 : Int32) + ((5 : Int32) * nI i)) + (2 : Int32) = nI (13 + 5 * i + 2) from za_13 (w := 2), kX7_swaps (N := μ 77) (by omega) (za_up_a (by decide)), ab_cI_s, show 13 + 5 * i + 2 = 15 + 5 * i by omega]
      · refine ⟨-1000000001, μ, μ, ?_, ?_, s⟩
        · rw [X6_set_q, kX2_has' isR22 h g, ab_cI_s, zb_t ha, if_neg (by decide), kX6_isWithin, ab_cI_s, zb_t hb, if_neg (by decide), kX6_isWithin, ab_cI_s, zb_f hc, if_neg (by decide)]
        · rw [X7_set_q, kX7_has' rfl g, ab_cI_s, zb_t ha, if_neg (by decide), kX7_in, ab_cI_s, zb_t hb, if_neg (by decide), kX7_in, ab_cI_s, zb_f hc, if_pos rfl]
    · refine ⟨-1000000001, μ, μ, ?_, ?_, s⟩
      · rw [X6_set_q, kX2_has' isR22 h g, ab_cI_s, zb_t ha, if_neg (by decide), kX6_isWithin, ab_cI_s, zb_f hb, if_pos rfl]
      · rw [X7_set_q, kX7_has' rfl g, ab_cI_s, zb_t ha, if_neg (by decide), kX7_in, ab_cI_s, zb_f hb, if_pos rfl]
  · refine ⟨-1000000001, μ, μ, ?_, ?_, s⟩
    · rw [X6_set_q, kX2_has' isR22 h g, ab_cI_s, zb_f ha, if_pos rfl]
    · rw [X7_set_q, kX7_has' rfl g, ab_cI_s, zb_f ha, if_pos rfl]
end
