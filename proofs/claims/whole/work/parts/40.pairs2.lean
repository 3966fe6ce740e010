section
variable {E : ab_E} {d : Nat} {μ : ab_M} {r n m : Nat} {N : Nat → Int32} {a b c : Int32}
theorem goN_2 {s : Nat} (hs : s < 10) : goN N s 2 = N 2 := by
  unfold goN
  split
  · rfl
  · rw [upd_n (by omega), upd_n (by omega), upd_n (by omega)]
theorem p_dusts : PR (X6_dusts E (d + 100) a) (X7_dusts E (d + 100) a) := by
  intro μ s
  obtain ⟨n, m, e, sa, h4, so⟩ := id s
  obtain ⟨g, h, h2, h3⟩ := id sa
  have hn := g.n10
  have hm := g.2.2.2.2.1.2
  by_cases ha : 0 ≤ a ∧ a ≤ nI n - 1
  · obtain ⟨i, hi, rfl⟩ := (za_has (by omega)).mp ha
    have h10 := za_in (show i < 10 by omega) (show 10 < 2 ^ 31 by decide)
    obtain ⟨μ1, e1, e2, e3⟩ := kX2_goOver (E := E) (d := d + 99) isR22 h g hi
    have hN1 : μ1 77 = μ 77 := e3 77 (by omega)
    refine ⟨μ 77 (15 + 5 * i), μ1, wN μ1 (goN (μ 77) i), ?_, ?_, ?_⟩
    · rw [X6_dusts_q, kX2_has' isR22 h g, ab_cI_s, zb_t ha, if_pos (by decide), if_pos h10, e1, ab_cV_s, za_cl (by omega), (h.2.2.1 i hi).2.2.1]
    · rw [X7_dusts_q, kX7_has' hN1 g, ab_cI_s, zb_t ha, if_neg (by decide), kX7_goesOver hN1 g hi, ab_cI_s]
    · exact SI.wr (μ := μ) (e2.same isR22 hm fun a ha => wN_a (by omega)) wN_77 (g.go hi) (by rw [goN_2 (by omega)]; exact h2) h3 (hi_go (by omega)) h4 so (fun a ha => by unfold kp at ha; rw [wN_a (by omega), e3 a (by omega)])
  · refine ⟨-1000000001, μ, μ, ?_, ?_, s⟩
    · rw [X6_dusts_q, kX2_has' isR22 h g, ab_cI_s, zb_f ha, if_neg (by decide)]
    · rw [X7_dusts_q, kX7_has' rfl g, ab_cI_s, zb_f ha, if_pos rfl]
theorem p_heed : PR (X6_heed E (d + 100) a b) (X7_heed E (d + 100) a b) := by
  intro μ s
  obtain ⟨n, m, e, sa, h4, so⟩ := id s
  obtain ⟨g, h, h2, h3⟩ := id sa
  have hm := g.2.2.2.2.1.2
  by_cases ha : 0 ≤ a ∧ a ≤ 5
  · by_cases hb : 0 ≤ b ∧ b ≤ 99
    · obtain ⟨i, hi, rfl⟩ := za_5.mp ha
      obtain ⟨v, hv, rfl⟩ := za_99.mp hb
      have h6 := za_in hi (show 6 < 2 ^ 31 by decide)
      refine ⟨μ 77 (7 + i), ab_up μ 28 i (nI v), wN (ab_up μ 28 i (nI v)) (upd (μ 77) (7 + i) (nI v)), ?_, ?_, ?_⟩
      · rw [X6_heed_q, kX2_isCorner, ab_cI_s, zb_t ha, if_neg (by decide), kX6_isWithin, ab_cI_s, zb_t hb, if_pos (by decide), if_pos h6, if_pos h6, za_cl (by omega), h.2.1 i hi]
      · rw [X7_heed_q, kX7_isCorner, ab_cI_s, zb_t ha, if_neg (by decide), kX7_in, ab_cI_s, zb_t hb, if_neg (by decide), za_7, kX7_swaps (N := μ 77) (by omega) (za_up_a (by decide)), ab_cI_s]
      · exact SI.wr (μ := μ) ((h.hdu (x := nI v) isR22 hm hi).same isR22 hm fun a ha => wN_a (by omega)) wN_77 (g.hdu hi hv) (by rw [upd_n (by omega)]; exact h2) h3 (hiE.r.u (by omega)) h4 so (fun a ha => by unfold kp at ha; rw [wN_a (by omega), za_up_a (by omega)])
    · refine ⟨-1000000001, μ, μ, ?_, ?_, s⟩
      · rw [X6_heed_q, kX2_isCorner, ab_cI_s, zb_t ha, if_neg (by decide), kX6_isWithin, ab_cI_s, zb_f hb, if_neg (by decide)]
      · rw [X7_heed_q, kX7_isCorner, ab_cI_s, zb_t ha, if_neg (by decide), kX7_in, ab_cI_s, zb_f hb, if_pos rfl]
  · refine ⟨-1000000001, μ, μ, ?_, ?_, s⟩
    · rw [X6_heed_q, kX2_isCorner, ab_cI_s, zb_f ha, if_pos rfl]
    · rw [X7_heed_q, kX7_isCorner, ab_cI_s, zb_f ha, if_pos rfl]
theorem and_1024 {x y : Nat} (h : x < 1024) : x &&& y < 1024 := Nat.lt_of_le_of_lt Nat.and_le_left h
theorem p_cornerOf : PR (X6_cornerOf E (d + 100) a b) (X7_cornerOf E (d + 100) a b) := by
  intro μ s
  obtain ⟨n, m, e, sa, h4, so⟩ := id s
  obtain ⟨g, h, h2, h3⟩ := id sa
  have hn := g.n10
  by_cases ha : 0 ≤ a ∧ a ≤ 5
  · have hX : X6_cornerOf E (d + 100) a b μ = _ := X6_cornerOf_q
    rw [kX2_isCorner, ab_cI_s, zb_t ha, if_pos (by decide)] at hX
    have hY : X7_cornerOf E (d + 100) a b μ = _ := X7_cornerOf_q
    rw [kX7_isCorner, ab_cI_s, zb_t ha, if_pos (by decide)] at hY
    by_cases b0 : b = 0
    · obtain ⟨i, hi, rfl⟩ := za_5.mp ha
      refine ⟨μ 77 (7 + i), μ, μ, ?_, ?_, s⟩
      · rw [hX, if_pos b0, if_pos (za_in hi (by decide)), za_cl (by omega), h.2.1 i hi]
      · rw [hY, if_pos b0, za_7, if_pos (za_in (show 7 + i < 1435 by omega) (by decide)), za_cl (by omega)]
    rw [if_neg b0] at hX hY
    by_cases b1 : b = 1
    · refine ⟨nI (zS (pI (μ 77) a) n), μ, μ, ?_, ?_, s⟩
      · rw [hX, if_pos b1, kX2_sayingsIn isR22 h g, ab_cI_s]
      · rw [hY, if_pos b1, kX7_saidIn rfl g, ab_cI_s]
    rw [if_neg b1] at hX hY
    by_cases b2 : b = 2
    · refine ⟨zJ (woF (μ 77) a) n, μ, μ, ?_, ?_, s⟩
      · rw [hX, if_pos b2, kX2_worthIn isR22 h g, ab_cI_s]
      · rw [hY, if_pos b2, kX7_worthIn rfl g, ab_cI_s]
    rw [if_neg b2] at hX hY
    by_cases b3 : b = 3
    · have hb := and_1024 (y := zS (pB (μ 77)) n) (zS_1024 (p := pI (μ 77) a) hn)
      refine ⟨nI (pop (zS (pI (μ 77) a) n &&& zS (pB (μ 77)) n)), μ, μ, ?_, ?_, s⟩
      · rw [hX, if_pos b3, kX2_sayingsIn isR22 h g, ab_cI_s, kX2_buried isR22 h g, ab_cI_s, zb_and, kJ_bits hb, ab_cI_s]
      · rw [hY, if_pos b3, kX7_saidIn rfl g, ab_cI_s, kX7_buriedOnes rfl g, ab_cI_s, zb_and, kX7_bits hb, ab_cI_s]
    rw [if_neg b3] at hX hY
    by_cases b4 : b = 4
    · refine ⟨zJ (dwF (μ 77) n a) n, μ, μ, ?_, ?_, s⟩
      · rw [hX, if_pos b4, kX2_drawnIn isR22 h g, ab_cI_s]
      · rw [hY, if_pos b4, kX7_drawn rfl g, ab_cI_s]
    rw [if_neg b4] at hX hY
    exact ⟨_, μ, μ, hX, hY, s⟩
  · refine ⟨-1000000001, μ, μ, ?_, ?_, s⟩
    · rw [X6_cornerOf_q, kX2_isCorner, ab_cI_s, zb_f ha, if_neg (by decide)]
    · rw [X7_cornerOf_q, kX7_isCorner, ab_cI_s, zb_f ha, if_neg (by decide)]
theorem p_kicks : PR (X6_kicks E (d + 100) a) (X7_kicks E (d + 100) a) := by
  intro μ s
  obtain ⟨n, m, e, sa, h4, so⟩ := id s
  obtain ⟨g, h, h2, h3⟩ := id sa
  have hm := g.2.2.2.2.1.2
  by_cases ha : 0 ≤ a ∧ a ≤ 100
  · obtain ⟨v, hv, rfl⟩ := (za_rng (k := 100) (by decide)).mp ha
    refine ⟨μ 77 3, ab_up μ 22 10 (nI v), wN (ab_up μ 22 10 (nI v)) (upd (μ 77) 3 (nI v)), ?_, ?_, ?_⟩
    · rw [X6_kicks_q, kX6_isWithin, ab_cI_s, zb_t ha, if_pos (by decide), h.1.2.2.1]
    · rw [X7_kicks_q, kX7_in, ab_cI_s, zb_t ha, if_neg (by decide), show X7_swaps E (d + 99) 3 (nI v) (ab_up μ 22 10 (nI v)) = _ from kX7_swaps (j := 3) (by decide) (za_up_a (by decide)), ab_cI_s]
    · exact SI.wr (μ := μ) ((h.num (x := nI v) (f := 10) (q := 3) isR22 hm (by simp)).same isR22 hm fun a ha => wN_a (by omega)) wN_77 (g.kick hv) (by rw [upd_n (by omega)]; exact h2) h3 (hiE.r.u (by omega)) h4 so (fun a ha => by unfold kp at ha; rw [wN_a (by omega), za_up_a (by omega)])
  · refine ⟨-1000000001, μ, μ, ?_, ?_, s⟩
    · rw [X6_kicks_q, kX6_isWithin, ab_cI_s, zb_f ha, if_neg (by decide)]
    · rw [X7_kicks_q, kX7_in, ab_cI_s, zb_f ha, if_pos rfl]
theorem p_seed : PR (X6_seed E (d + 100) a) (X7_seed E (d + 100) a) := by
  intro μ s
  obtain ⟨n, m, e, sa, h4, so⟩ := id s
  obtain ⟨g, h, h2, h3⟩ := id sa
  have hm := g.2.2.2.2.1.2
  refine ⟨μ 77 0, ab_up μ 22 14 a, wN (ab_up μ 22 14 a) (upd (μ 77) 0 a), ?_, ?_, ?_⟩
  · rw [X6_seed_q, h.1.2.2.2.2.2.2]
  · rw [X7_seed_q, show X7_swaps E (d + 99) 0 a (ab_up μ 22 14 a) = _ from kX7_swaps (j := 0) (by decide) (za_up_a (by decide)), ab_cI_s]
  · exact SI.wr (μ := μ) ((h.num (x := a) (f := 14) (q := 0) isR22 hm (by simp)).same isR22 hm fun a ha => wN_a (by omega)) wN_77 (g.num (Or.inl rfl)) (by rw [upd_n (by omega)]; exact h2) h3 (hiE.r.u (by omega)) h4 so (fun a ha => by unfold kp at ha; rw [wN_a (by omega), za_up_a (by omega)])
theorem p_room : PR (X6_room E (d + 100) a) (X7_room E (d + 100) a) := by
  intro μ s
  obtain ⟨n, m, e, sa, h4, so⟩ := id s
  obtain ⟨g, h, h2, h3⟩ := id sa
  have hX : X6_room E (d + 100) a μ = _ := X6_room_q
  have hY : X7_room E (d + 100) a μ = _ := X7_room_q
  by_cases b0 : a = 0
  · refine ⟨μ 77 4, μ, μ, ?_, ?_, s⟩
    · rw [hX, if_pos b0, h.1.2.2.2.1]
    · subst b0; rw [hY, if_pos rfl, if_pos (show ab_in ((4 : Int32) + 0) 1435 from za_in (i := 4) (by decide) (by decide))]; rfl
  rw [if_neg b0] at hX hY
  by_cases b1 : a = 1
  · refine ⟨μ 77 5, μ, μ, ?_, ?_, s⟩
    · rw [hX, if_pos b1, h.1.2.2.2.2.1]
    · subst b1; rw [hY, if_pos rfl, if_pos (show ab_in ((4 : Int32) + 1) 1435 from za_in (i := 5) (by decide) (by decide))]; rfl
  rw [if_neg b1] at hX hY
  by_cases b2 : a = 2
  · rw [if_pos b2, kX2_allDust isR22 h g, ab_cI_s] at hX
    rw [if_pos b2, kX7_allDust rfl g, ab_cI_s] at hY
    exact ⟨_, μ, μ, hX, hY, s⟩
  rw [if_neg b2] at hX hY
  by_cases b3 : a = 3
  · rw [if_pos b3, kX2_buried isR22 h g, ab_cI_s] at hX
    rw [if_pos b3, kX7_buriedOnes rfl g, ab_cI_s] at hY
    exact ⟨_, μ, μ, hX, hY, s⟩
  rw [if_neg b3] at hX hY
  by_cases b4 : a = 4
  · rw [if_pos b4, kX2_corners isR22 h g, ab_cI_s] at hX
    rw [if_pos b4, kX7_peopled rfl g, ab_cI_s] at hY
    exact ⟨_, μ, μ, hX, hY, s⟩
  rw [if_neg b4] at hX hY
  by_cases b5 : a = 5
  · rw [if_pos b5, kX2_deafest isR22 h, ab_cI_s] at hX
    rw [if_pos b5, kX7_deafest rfl, ab_cI_s] at hY
    exact ⟨_, μ, μ, hX, hY, s⟩
  rw [if_neg b5] at hX hY
  exact ⟨_, μ, μ, hX, hY, s⟩
theorem p_count : PR (X6_count E (d + 100) a) (X7_count E (d + 100) a) := by
  intro μ s
  obtain ⟨n, m, e, sa, h4, so⟩ := id s
  obtain ⟨g, h, h2, h3⟩ := id sa
  obtain ⟨q1, q2, q3, q4, q5, q6, q7⟩ := h.1
  obtain ⟨_, ⟨z, _, t1, t2, _⟩, _, _, ⟨w, _, w1, w2, _⟩, _⟩ := so
  have hX : X6_count E (d + 100) a μ = _ := X6_count_q
  have hY : X7_count E (d + 100) a μ = _ := X7_count_q
  by_cases b0 : a = 0
  · rw [if_pos b0, q1] at hX
    rw [if_pos b0] at hY
    exact ⟨_, μ, μ, hX, hY, s⟩
  rw [if_neg b0] at hX hY
  by_cases b1 : a = 1
  · refine ⟨μ 77 2, μ, μ, ?_, ?_, s⟩
    · rw [hX, if_pos b1, q6]
    · subst b1; rw [hY, if_pos rfl, if_pos (show ab_in ((2 : Int32) + 1 - 1) 1435 from za_in (i := 2) (by decide) (by decide))]; rfl
  rw [if_neg b1] at hX hY
  by_cases b2 : a = 2
  · refine ⟨μ 77 3, μ, μ, ?_, ?_, s⟩
    · rw [hX, if_pos b2, q3]
    · subst b2; rw [hY, if_pos rfl, if_pos (show ab_in ((2 : Int32) + 2 - 1) 1435 from za_in (i := 3) (by decide) (by decide))]; rfl
  rw [if_neg b2] at hX hY
  by_cases b3 : a = 3
  · refine ⟨μ 77 4, μ, μ, ?_, ?_, s⟩
    · rw [hX, if_pos b3, q4]
    · subst b3; rw [hY, if_pos rfl, if_pos (show ab_in ((2 : Int32) + 3 - 1) 1435 from za_in (i := 4) (by decide) (by decide))]; rfl
  rw [if_neg b3] at hX hY
  by_cases b4 : a = 4
  · refine ⟨μ 77 5, μ, μ, ?_, ?_, s⟩
    · rw [hX, if_pos b4, q5]
    · subst b4; rw [hY, if_pos rfl, if_pos (show ab_in ((2 : Int32) + 4 - 1) 1435 from za_in (i := 5) (by decide) (by decide))]; rfl
  rw [if_neg b4] at hX hY
  by_cases b5 : a = 5
  · rw [if_pos b5, q2] at hX
    rw [if_pos b5] at hY
    exact ⟨_, μ, μ, hX, hY, s⟩
  rw [if_neg b5] at hX hY
  by_cases b6 : a = 6
  · rw [if_pos b6, w1] at hX
    rw [if_pos b6, w2] at hY
    exact ⟨_, μ, μ, hX, hY, s⟩
  rw [if_neg b6] at hX hY
  by_cases b7 : a = 7
  · rw [if_pos b7, t1] at hX
    rw [if_pos b7, t2] at hY
    exact ⟨_, μ, μ, hX, hY, s⟩
  rw [if_neg b7] at hX hY
  by_cases b8 : a = 8
  · rw [if_pos b8, q7] at hX
    rw [if_pos b8] at hY
    exact ⟨_, μ, μ, hX, hY, s⟩
  rw [if_neg b8] at hX hY
  exact ⟨_, μ, μ, hX, hY, s⟩
end
