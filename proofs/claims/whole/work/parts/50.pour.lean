/-! pour and reads -/
def po1 (P N : Nat → Int32) (k : Nat) : Nat → Int32 := upd N (7 + k) (if P k = -1000000005 then N (7 + k) else zc (P k))
def poN (P : Nat → Int32) : Nat → Nat → (Nat → Int32) → Nat → Int32
  | 0, _, N => N
  | j + 1, k, N => poN P j (k + 1) (po1 P N k)
def poC (P : Nat → Int32) : Nat → Nat → (Nat → Int32) → Int32 → Int32
  | 0, _, _, c => c
  | j + 1, k, N, c => poC P j (k + 1) (po1 P N k) (if po1 P N k (7 + k) = N (7 + k) then c else c + 1)
def reR (P N : Nat → Int32) (n : Nat) : Nat → Nat → Int32
  | 0, _ => -1000000005
  | j + 1, k => if P k = -1000000005 then reR P N n j (k + 1) else if k < n ∧ N (16 + 5 * k) = P k then reR P N n j (k + 1) else nI k
section
variable {E : ab_E} {d : Nat} {μ μ' μ'' : ab_M} {r n m : Nat} {N M A P : Nat → Int32} {a b c : Int32}
theorem po1_n {k : Nat} (h : P k = -1000000005) : po1 P N k = N := by unfold po1; rw [if_pos h]; exact upd_e rfl
theorem po1_y {k : Nat} (h : ¬ P k = -1000000005) : po1 P N k = upd N (7 + k) (zc (P k)) := by unfold po1; rw [if_neg h]
theorem po1_a {k : Nat} (hk : k < 6) (g : G N n m) : G (po1 P N k) n m ∧ hiE N (po1 P N k) ∧ po1 P N k 2 = N 2 := by
  by_cases h : P k = -1000000005
  · rw [po1_n h]; exact ⟨g, hiE.r, rfl⟩
  · rw [po1_y h, (zc_N (P k)).1]
    exact ⟨g.hdu hk (zc_N (P k)).2, hiE.r.u (by omega), upd_n (by omega)⟩
theorem poN_a : ∀ j k {N}, k + j ≤ 6 → G N n m → G (poN P j k N) n m ∧ hiE N (poN P j k N) ∧ poN P j k N 2 = N 2
  | 0, _, _, _, g => ⟨g, hiE.r, rfl⟩
  | j + 1, k, N, e, g => by
    obtain ⟨h1, h2, h3⟩ := po1_a (P := P) (show k < 6 by omega) g
    obtain ⟨g1, g2, g3⟩ := poN_a j (k + 1) (N := po1 P N k) (by omega) h1
    exact ⟨g1, h2.t g2, g3.trans h3⟩
theorem kX3_isNumber {q k : Nat} (hq : ab_isSheet q) (hk : k < 24) : X3_isNumber E d q (nI k) μ = some (some (.int (if μ (q + 1) k = -1000000005 then 0 else 1)), μ) := by
  rw [X3_isNumber_q hq, if_pos (za_in hk (by decide)), za_cl (by omega)]
  by_cases h : μ (q + 1) k = -1000000005
  · rw [if_pos h, if_pos h]
  · rw [if_neg h, if_neg h]
theorem kX6_pour_l {i z w : Nat} {o1 : Option Value} (hi : i < 4) (hz : z ≤ 24) (hw : w = min 6 z) : ∀ j k μ N c o, k + j = w → RC μ 22 N n m → G N n m → μ (50 + 2 * i) 2 = nI z → (∀ q, q < 24 → μ (51 + 2 * i) q = P q) → ∃ μ', X6_pour_32 E (d + 2) o1 (50 + 2 * i) c (nI k) o μ = some (some (.int (poC P j k N c)), μ') ∧ RC μ' 22 (poN P j k N) n m ∧ ∀ a, a ≠ 28 → μ' a = μ a
  | 0, k, μ, N, c, o, e, h, g, h2, h3 => by
    rw [X6_pour_32_q (isSh hi)]
    by_cases h6 : 6 ≤ k
    · rw [if_pos (show (6 : Int32) ≤ nI k from nI_le (a := 6) h6 (by omega))]
      exact ⟨μ, rfl, h, fun _ _ => rfl⟩
    · rw [if_neg (show ¬ (6 : Int32) ≤ nI k from nI_ge (b := 6) (by omega) (by decide)), h2, if_pos (nI_le (by omega) (by omega))]
      exact ⟨μ, rfl, h, fun _ _ => rfl⟩
  | j + 1, k, μ, N, c, o, e, h, g, h2, h3 => by
    have k6 : k < 6 := by omega
    have i6 := za_in k6 (show 6 < 2 ^ 31 by decide)
    rw [X6_pour_32_q (isSh hi), if_neg (show ¬ (6 : Int32) ≤ nI k from nI_ge (b := 6) (by omega) (by decide)), h2, if_neg (nI_ge (by omega) (by omega)), if_pos i6, kX3_isNumber (isSh hi) (by omega), ab_cI_s, show 50 + 2 * i + 1 = 51 + 2 * i by omega, h3 k (by omega)]
    simp only [za_cl (show k < 2 ^ 31 by omega)]
    obtain ⟨g1, g2, g3⟩ := po1_a (P := P) k6 g
    have hm := g.2.2.2.2.1.2
    by_cases hp : P k = -1000000005
    · rw [if_pos hp, if_pos rfl, if_pos i6, if_pos trivial, za_1]
      have ih := kX6_pour_l hi hz hw (o1 := o1) j (k + 1) μ (po1 P N k) c (some (.int (μ 28 k))) (by omega) (by rw [po1_n hp]; exact h) g1 h2 h3
      unfold poC poN
      rw [if_pos (by rw [po1_n hp])]
      exact ih
    · rw [if_neg hp, if_neg (by decide), if_pos (za_in (show k < 24 by omega) (by decide)), h3 k (by omega), kX2_held, ab_cI_s, if_pos i6, if_pos i6, za_up_s, za_1]
      have hR : RC (ab_up μ 28 k (zc (P k))) 22 (po1 P N k) n m := by rw [po1_y hp]; exact h.hdu isR22 hm k6
      have eN : μ 28 k = N (7 + k) := h.2.1 k k6
      have fa : ∀ a, a ≠ 28 → ab_up μ 28 k (zc (P k)) a = μ a := fun a ha => za_up_a ha
      have ih := fun c' => kX6_pour_l hi hz hw (o1 := o1) j (k + 1) (ab_up μ 28 k (zc (P k))) (po1 P N k) c' (some (.int (μ 28 k))) (by omega) hR g1 (by rw [fa _ (by omega)]; exact h2) (fun q hq => by rw [fa _ (by omega)]; exact h3 q hq)
      have ev : po1 P N k (7 + k) = zc (P k) := by rw [po1_y hp, upd_s]
      unfold poC poN
      rw [ev, ← eN]
      by_cases he : zc (P k) = μ 28 k
      · rw [if_pos he, if_pos he]
        obtain ⟨μ', q1, q2, q3⟩ := ih c
        exact ⟨μ', q1, q2, fun a ha => by rw [q3 a ha, fa a ha]⟩
      · rw [if_neg he, if_neg he]
        obtain ⟨μ', q1, q2, q3⟩ := ih (c + 1)
        exact ⟨μ', q1, q2, fun a ha => by rw [q3 a ha, fa a ha]⟩
theorem kX7_pour_l {i z w : Nat} (hi : i < 4) (hz : z ≤ 24) (hw : w = min 6 z) : ∀ j k μ N c o4 o5, k + j = w → μ 77 = N → G N n m → μ 90 i = nI z → (∀ q, q < 24 → μ 91 (24 * i + q) = P q) → X7_pour_26 E (d + 2) (nI i) c (nI k) o4 o5 μ = some (some (.int (poC P j k N c)), wN μ (poN P j k N))
  | 0, k, μ, N, c, o4, o5, e, hN, g, h2, h3 => by
    rw [X7_pour_26_q, if_pos (za_in hi (by decide)), za_cl (by omega), h2]
    by_cases hzk : z ≤ k
    · rw [if_pos (nI_le hzk (by omega))]
      unfold poC poN; rw [wN_0 hN]
    · rw [if_neg (nI_ge (by omega) (by omega)), if_pos (show (6 : Int32) ≤ nI k from nI_le (a := 6) (by omega) (by omega))]
      unfold poC poN; rw [wN_0 hN]
  | j + 1, k, μ, N, c, o4, o5, e, hN, g, h2, h3 => by
    have k6 : k < 6 := by omega
    obtain ⟨g1, g2, g3⟩ := po1_a (P := P) k6 g
    have ih := fun c' o4 o5 => kX7_pour_l hi hz hw j (k + 1) (wN μ (po1 P N k)) (po1 P N k) c' o4 o5 (by omega) wN_77 g1 (by rw [wN_a (by omega)]; exact h2) (fun q hq => by rw [wN_a (by omega)]; exact h3 q hq)
    rw [X7_pour_26_q, if_pos (za_in hi (by decide))]
    simp only [za_cl (show i < 2 ^ 31 by omega), za_24, za_7, za_cl (show 24 * i + k < 2 ^ 31 by omega), za_cl (show 7 + k < 2 ^ 31 by omega)]
    rw [h2, if_neg (nI_ge (by omega) (by omega)), if_neg (show ¬ (6 : Int32) ≤ nI k from nI_ge (b := 6) (by omega) (by decide)), if_pos (za_in (show 24 * i + k < 96 by omega) (by decide)), h3 k (by omega)]
    unfold poC poN
    by_cases hp : P k = -1000000005
    · rw [if_neg (fun q => q hp), if_pos (za_in (show 7 + k < 1435 by omega) (by decide)), hN, kX7_swaps (by omega) hN, ab_cI_s, if_neg (fun q => q rfl), za_1, za_a0, if_pos (by rw [po1_n hp])]
      have e1 : upd N (7 + k) (N (7 + k)) = po1 P N k := by rw [po1_n hp]; exact upd_e rfl
      rw [e1, ih, wN_w]
    · rw [if_pos hp, kX7_within99, ab_cI_s, kX7_swaps (by omega) hN, ab_cI_s, za_1, za_a0, ← po1_y hp]
      have ev : po1 P N k (7 + k) = zc (P k) := by rw [po1_y hp, upd_s]
      rw [ev]
      by_cases he : zc (P k) = N (7 + k)
      · rw [if_pos he, if_neg (fun q => q he.symm), ih, wN_w]
      · rw [if_neg he, if_pos (fun q => he q.symm), ih, wN_w]
theorem p_pour : PR (X6_pour E (d + 100) a) (X7_pour E (d + 100) a) := by
  intro μ s
  obtain ⟨n, m, e, ⟨g, h, h2, h3⟩, h4, so⟩ := id s
  have hX : X6_pour E (d + 100) a μ = _ := X6_pour_q
  rw [kX6_isSheet, ab_cI_s] at hX
  by_cases ha : 0 ≤ a ∧ a ≤ 3
  · obtain ⟨i, hi, rfl⟩ := za_3.mp ha
    have i4 := za_in hi (show 4 < 2 ^ 31 by decide)
    obtain ⟨p1, p2, ⟨z, z0, z1, z2⟩, p4⟩ := so.2.2.1 i hi
    rw [zb_t ha, if_pos (by decide), if_pos i4] at hX
    simp only [za_cl (show i < 2 ^ 31 by omega), X3_isMissing_q (isSh hi)] at hX
    by_cases pm : μ (50 + 2 * i) 1 = -1
    · have hY : X7_pour E (d + 100) (nI i) μ = _ := X7_pour_q
      rw [kX7_isSheet, ab_cI_s, zb_t ha, if_pos (by decide), if_pos i4] at hY
      simp only [za_cl (show i < 2 ^ 31 by omega)] at hY
      rw [p2, pm, if_neg (by decide)] at hY
      rw [if_neg (fun q => q pm), ab_cI_s, if_neg (by decide)] at hX
      exact ⟨_, _, _, hX, hY, s⟩
    · rw [if_pos pm, ab_cI_s, if_pos rfl] at hX
      obtain ⟨μ1, q1, q2, q3⟩ := kX6_pour_l (E := E) (d := d + 98) (P := fun q => μ 91 (24 * i + q)) (o1 := some (.int (nI i))) hi z0 rfl (min 6 z) 0 μ (μ 77) 0 none (by omega) h g z1 p4
      have hY : X7_pour E (d + 100) (nI i) μ1 = _ := X7_pour_q
      rw [kX7_isSheet, ab_cI_s, zb_t ha, if_pos (by decide), if_pos i4] at hY
      simp only [za_cl (show i < 2 ^ 31 by omega)] at hY
      have p0 : 0 ≤ μ (50 + 2 * i) 1 := by
        rcases p1 with p | p | p
        · exact absurd p pm
        · rw [p]; decide
        · rw [p]; decide
      rw [q3 89 (by omega), p2, if_pos p0] at hY
      have r1 := kX7_pour_l (E := E) (d := d + 98) (P := fun q => μ 91 (24 * i + q)) (n := n) (m := m) hi z0 rfl (min 6 z) 0 μ1 (μ 77) 0 none none (by omega) (q3 77 (by omega)) g (by rw [q3 90 (by omega)]; exact z2) (fun q _ => by rw [q3 91 (by omega)])
      obtain ⟨t1, t2, t3⟩ := poN_a (P := fun q => μ 91 (24 * i + q)) (min 6 z) 0 (by omega) g
      refine ⟨_, _, _, hX.trans q1, hY.trans r1, ?_⟩
      exact SI.wr (μ := μ) (q2.same isR22 g.2.2.2.2.1.2 fun a ha => wN_a (by omega)) wN_77 t1 (t3.trans h2) h3 t2 h4 so fun a ha => by unfold kp at ha; rw [wN_a (by omega), q3 a (by omega)]
  · have hY : X7_pour E (d + 100) a μ = _ := X7_pour_q
    rw [zb_f ha, if_neg (by decide)] at hX
    rw [kX7_isSheet, ab_cI_s, zb_f ha, if_neg (by decide)] at hY
    exact ⟨_, _, _, hX, hY, s⟩
theorem zb_hs {k : Nat} (hk : k < 2 ^ 31) (hn : n < 2 ^ 31) : zb (0 ≤ nI k ∧ nI k ≤ nI n - 1) = zb (k < n) := zb_c ((za_has hn).trans ⟨fun ⟨s, h1, h2⟩ => by have := (nI_eq hk (by omega)).mp h2; omega, fun h => ⟨k, h, rfl⟩⟩)
theorem kX6_reads_l {i z : Nat} {o1 : Option Value} (hi : i < 4) (hz : z ≤ 24) (h : RC μ 22 N n m) (g : G N n m) (h2 : μ (50 + 2 * i) 2 = nI z) (h3 : ∀ q, q < 24 → μ (51 + 2 * i) q = P q) : ∀ j k o, k + j = z → X6_reads_29 E (d + 2) o1 (50 + 2 * i) (nI k) o μ = some (some (.int (reR P N n j k)), μ)
  | 0, k, o, e => by
    rw [X6_reads_29_q (isSh hi), h2, if_pos (nI_le (by omega) (by omega))]; rfl
  | j + 1, k, o, e => by
    have n10 := g.n10
    rw [X6_reads_29_q (isSh hi), h2, if_neg (nI_ge (by omega) (by omega)), kX2_has' isR22 h g, ab_cI_s, zb_hs (by omega) (by omega), kX3_isNumber (isSh hi) (by omega), show 50 + 2 * i + 1 = 51 + 2 * i by omega, h3 k (by omega)]
    simp only [za_cl (show k < 2 ^ 31 by omega), ab_cI_s, h3 k (show k < 24 by omega)]
    unfold reR
    by_cases hp : P k = -1000000005
    · rw [if_pos hp, if_pos hp, if_pos (show (0 : Int32) = 0 from rfl), if_pos (show (0 : Int32) = 0 from rfl), za_1]
      simp only [kX6_reads_l hi hz h g h2 h3 j (k + 1) _ (show k + 1 + j = z by omega)]
      by_cases hn : k < n
      · rw [zb_t hn, if_neg (by decide), if_pos (za_in (show k < 10 by omega) (by decide)), if_pos (za_in (show k < 24 by omega) (by decide)), ite_self]
      · rw [zb_f hn, if_pos rfl]
    · rw [if_neg hp, if_neg hp, if_neg (show ¬ (1 : Int32) = 0 by decide), if_neg (show ¬ (1 : Int32) = 0 by decide), za_1]
      simp only [kX6_reads_l hi hz h g h2 h3 j (k + 1) _ (show k + 1 + j = z by omega)]
      by_cases hn : k < n
      · have e4 : μ 26 k = N (16 + 5 * k) := (h.2.2.1 k hn).2.2.2.1
        rw [zb_t hn, if_neg (by decide), if_pos (za_in (show k < 10 by omega) (by decide)), if_pos (za_in (show k < 24 by omega) (by decide)), e4]
        by_cases he : N (16 + 5 * k) = P k
        · rw [if_neg (fun q => q he), if_pos (by decide), if_pos ⟨hn, he⟩]
        · rw [if_pos he, if_neg (fun q => q trivial), if_neg (fun q => he q.2)]
      · rw [zb_f hn, if_pos rfl, if_neg (fun q => q trivial), if_neg (fun q => hn q.1)]
theorem kX7_reads_l {i z : Nat} (hi : i < 4) (hz : z ≤ 24) (hN : μ 77 = N) (g : G N n m) (h2 : μ 90 i = nI z) (h3 : ∀ q, q < 24 → μ 91 (24 * i + q) = P q) : ∀ j k o, k + j = z → X7_reads_24 E (d + 2) (nI i) (nI k) o μ = some (some (.int (reR P N n j k)), μ)
  | 0, k, o, e => by
    rw [X7_reads_24_q, if_pos (za_in hi (by decide)), za_cl (by omega), h2, if_pos (nI_le (by omega) (by omega))]; rfl
  | j + 1, k, o, e => by
    have n10 := g.n10
    rw [X7_reads_24_q, if_pos (za_in hi (by decide)), za_24]
    simp only [za_cl (show i < 2 ^ 31 by omega), za_cl (show 24 * i + k < 2 ^ 31 by omega)]
    rw [h2, if_neg (nI_ge (by omega) (by omega)), if_pos (za_in (show 24 * i + k < 96 by omega) (by decide)), h3 k (by omega), kX7_has' hN g, ab_cI_s, zb_hs (by omega) (by omega), kX7_of3 (by omega), ab_cI_s, hN, za_1]
    unfold reR
    rw [kX7_reads_l hi hz hN g h2 h3 j (k + 1) _ (show k + 1 + j = z by omega)]
    by_cases hp : P k = -1000000005
    · rw [if_pos hp, if_pos hp]
    · rw [if_neg hp, if_neg hp]
      by_cases hn : k < n
      · rw [zb_t hn, if_neg (by decide)]
        by_cases he : N (16 + 5 * k) = P k
        · rw [if_pos he.symm, if_pos ⟨hn, he⟩]
        · rw [if_neg (fun q => he q.symm), if_neg (fun q => he q.2)]
      · rw [zb_f hn, if_pos rfl, if_neg (fun q => hn q.1)]
theorem p_reads : PR (X6_reads E (d + 100) a) (X7_reads E (d + 100) a) := by
  intro μ s
  obtain ⟨n, m, e, ⟨g, h, h2, h3⟩, h4, so⟩ := id s
  have hX : X6_reads E (d + 100) a μ = _ := X6_reads_q
  have hY : X7_reads E (d + 100) a μ = _ := X7_reads_q
  rw [kX6_isSheet, ab_cI_s] at hX
  rw [kX7_isSheet, ab_cI_s] at hY
  by_cases ha : 0 ≤ a ∧ a ≤ 3
  · obtain ⟨i, hi, rfl⟩ := za_3.mp ha
    have i4 := za_in hi (show 4 < 2 ^ 31 by decide)
    obtain ⟨p1, p2, ⟨z, z0, z1, z2⟩, p4⟩ := so.2.2.1 i hi
    rw [zb_t ha, if_pos (by decide), if_pos i4] at hX hY
    simp only [za_cl (show i < 2 ^ 31 by omega), X3_isMissing_q (isSh hi)] at hX
    simp only [za_cl (show i < 2 ^ 31 by omega)] at hY
    rw [p2] at hY
    by_cases pm : μ (50 + 2 * i) 1 = -1
    · rw [pm, if_neg (by decide)] at hY
      rw [if_neg (fun q => q pm), ab_cI_s, if_neg (by decide)] at hX
      exact ⟨_, _, _, hX, hY, s⟩
    · rw [if_pos pm, ab_cI_s, if_pos rfl] at hX
      have p0 : 0 ≤ μ (50 + 2 * i) 1 := by
        rcases p1 with p | p | p
        · exact absurd p pm
        · rw [p]; decide
        · rw [p]; decide
      rw [if_pos p0] at hY
      have q1 := kX6_reads_l (E := E) (d := d + 98) (P := fun q => μ 91 (24 * i + q)) (o1 := some (.int (nI i))) hi z0 h g z1 p4 z 0 none (by omega)
      have q2 := kX7_reads_l (E := E) (d := d + 98) (P := fun q => μ 91 (24 * i + q)) hi z0 rfl g z2 (fun _ _ => rfl) z 0 none (by omega)
      exact ⟨_, _, _, hX.trans q1, hY.trans q2, s⟩
  · rw [zb_f ha, if_neg (by decide)] at hX hY
    exact ⟨_, _, _, hX, hY, s⟩
end
