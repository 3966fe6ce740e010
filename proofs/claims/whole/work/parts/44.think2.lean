section
variable {E : ab_E} {d : Nat} {μ μ' μ'' : ab_M} {r n m : Nat} {N M A : Nat → Int32} {a b c : Int32}
/-! sinks -/
noncomputable def siR (n m s : Nat) : Nat → Nat → (Nat → Int32) → Int32
  | 0, _, _ => -1000000005
  | j + 1, k, M => if ds M s = 99 then nI k else siR n m s j (k + 1) (evN M n m)
theorem kX6_sinks_l {s : Nat} (hs : s < n) : ∀ j k μ M, k + j = 201 → RC μ 38 M n m → G M n m → ∃ μ', X6_sinks_27 E (d + 7) (nI s) (nI k) μ = some (some (.int (siR n m s j k M)), μ') ∧ CF μ μ'
  | 0, k, μ, M, e, h, g => by
    rw [X6_sinks_27_q, if_pos (show (200 : Int32) < nI k from nI_lt (a := 200) (by omega) (by omega))]
    exact ⟨μ, rfl, .rf⟩
  | j + 1, k, μ, M, e, h, g => by
    rw [X6_sinks_27_q, if_neg (show ¬ (200 : Int32) < nI k from za_lt.mpr (nI_le (b := 200) (by omega) (by decide))), kX2_isBuried isR38 h g hs, ab_cI_s]
    unfold siR
    by_cases hb : ds M s = 99
    · rw [if_neg (show ¬ zb (ds M s = 99) = 0 from fun q => (zb_0.mp q) hb), if_pos hb]
      exact ⟨μ, rfl, .rf⟩
    · obtain ⟨μ1, e1, e2, e3⟩ := cEv (E := E) (d := d) h g
      rw [if_pos (zb_0.mpr hb), if_neg hb, e1, ab_cV_s, za_1]
      obtain ⟨μ2, f1, f2⟩ := kX6_sinks_l hs j (k + 1) μ1 _ (by omega) e2 g.ev
      exact ⟨μ2, f1, e3.t f2⟩
theorem kX7_sinks_l {s : Nat} (hs : s < n) : ∀ j k μ M, k + j = 201 → μ 77 = M → μ 79 = mx N A → hiE N M → G M n m → ∃ μ', X7_sinks_17 E (d + 5) (nI s) (nI k) μ = some (some (.int (siR n m s j k M)), μ') ∧ μ' 77 = N ∧ RF μ μ'
  | 0, k, μ, M, e, h, h79, hh, g => by
    obtain ⟨μ2, f1, f2, f3, _, f4⟩ := rBk (E := E) (d := d + 3) (N := N) (A := A) h79 (by rw [h]; exact hh)
    rw [X7_sinks_17_q, if_pos (show (200 : Int32) < nI k from nI_lt (a := 200) (by omega) (by omega)), f1, ab_cV_s, if_neg (show ¬ nI k ≤ (200 : Int32) from nI_ge (a := 200) (by omega) (by omega))]
    exact ⟨μ2, rfl, f2, f4⟩
  | j + 1, k, μ, M, e, h, h79, hh, g => by
    have hn := g.n10
    have g3 := (g.2.1 s hs).2.2.1
    rw [X7_sinks_17_q, if_neg (show ¬ (200 : Int32) < nI k from za_lt.mpr (nI_le (b := 200) (by omega) (by decide))), kX7_of2 (by omega), ab_cI_s, h, g3.1]
    unfold siR
    by_cases hb : ds M s = 99
    · obtain ⟨μ2, f1, f2, f3, _, f4⟩ := rBk (E := E) (d := d + 3) (N := N) (A := A) h79 (by rw [h]; exact hh)
      rw [if_pos (show (99 : Int32) ≤ nI (ds M s) by rw [hb]; decide), if_pos hb, f1, ab_cV_s, if_pos (show nI k ≤ (200 : Int32) from nI_le (b := 200) (by omega) (by decide))]
      exact ⟨μ2, rfl, f2, f4⟩
    · obtain ⟨μ1, e1, e2, e3, _, e4⟩ := rEv (E := E) (d := d) h g
      rw [if_neg (show ¬ (99 : Int32) ≤ nI (ds M s) from nI_ge (b := 99) (by omega) (by decide)), if_neg hb, e1, ab_cV_s, za_1]
      obtain ⟨μ2, f1, f2, f3⟩ := kX7_sinks_l hs j (k + 1) μ1 _ (by omega) e2 (e3.trans h79) (hh.t (hi_ev g)) g.ev
      exact ⟨μ2, f1, f2, e4.t f3⟩
theorem p_sinks : PR (X6_sinks E (d + 100) a) (X7_sinks E (d + 100) a) := by
  intro μ s
  obtain ⟨n, m, e, sa, h4, so⟩ := id s
  obtain ⟨g, h, h2, h3⟩ := id sa
  have hn := g.n10
  have hX : X6_sinks E (d + 100) a μ = _ := X6_sinks_q
  rw [kX2_has' isR22 h g, ab_cI_s] at hX
  by_cases ha : 0 ≤ a ∧ a ≤ nI n - 1
  · obtain ⟨i, hi, rfl⟩ := (za_has (by omega)).mp ha
    obtain ⟨μ1, e1, e2, e3⟩ := cBe (E := E) (d := d + 99) h g
    obtain ⟨μ2, f1, f2⟩ := kX6_sinks_l (E := E) (d := d + 93) hi 201 0 μ1 _ (by omega) e2 g
    rw [zb_t ha, if_pos (by decide), e1, ab_cV_s] at hX
    have hcf := e3.t f2
    have hN2 : μ2 77 = μ 77 := hcf 77 (by decide) (by decide) (by decide) (by decide)
    obtain ⟨μ3, k1, k2, k3, k4⟩ := rTk (E := E) (d := d + 98) hN2
    obtain ⟨μ4, l1, l2, l3⟩ := kX7_sinks_l (E := E) (d := d + 95) (N := μ 77) hi 201 0 μ3 _ (by omega) k2 k3 .r g
    have hY : X7_sinks E (d + 100) (nI i) μ2 = _ := X7_sinks_q
    rw [kX7_has' hN2 g, ab_cI_s, zb_t ha, if_pos (by decide), k1, ab_cV_s] at hY
    exact ⟨_, _, _, hX.trans f1, hY.trans l1, SI.th s hcf (k4.t l3) l2⟩
  · have hY : X7_sinks E (d + 100) a μ = _ := X7_sinks_q
    rw [zb_f ha, if_neg (by decide)] at hX
    rw [kX7_has' rfl g, ab_cI_s, zb_f ha, if_neg (by decide)] at hY
    exact ⟨_, _, _, hX, hY, s⟩
/-! hears -/
noncomputable def hrR (n m c : Nat) (v : Int32) : Nat → Nat → (Nat → Int32) → Int32
  | 0, _, _ => -1000000005
  | j + 1, k, M => if M (7 + c) < v then hrR n m c v j (k + 1) (evN M n m) else nI k
theorem kX6_hears_l {c : Nat} {v : Int32} (hc : c < 6) : ∀ j k μ M, k + j = 201 → RC μ 38 M n m → G M n m → ∃ μ', X6_hears_33 E (d + 7) (nI c) v (nI k) μ = some (some (.int (hrR n m c v j k M)), μ') ∧ CF μ μ'
  | 0, k, μ, M, e, h, g => by
    rw [X6_hears_33_q, if_pos (show (200 : Int32) < nI k from nI_lt (a := 200) (by omega) (by omega))]
    exact ⟨μ, rfl, .rf⟩
  | j + 1, k, μ, M, e, h, g => by
    rw [X6_hears_33_q, if_neg (show ¬ (200 : Int32) < nI k from za_lt.mpr (nI_le (b := 200) (by omega) (by decide))), if_pos (za_in hc (by decide)), za_cl (by omega), show μ 44 c = M (7 + c) from h.2.1 c hc]
    unfold hrR
    by_cases hb : M (7 + c) < v
    · obtain ⟨μ1, e1, e2, e3⟩ := cEv (E := E) (d := d) h g
      rw [if_pos hb, if_pos hb, e1, ab_cV_s, za_1]
      obtain ⟨μ2, f1, f2⟩ := kX6_hears_l hc j (k + 1) μ1 _ (by omega) e2 g.ev
      exact ⟨μ2, f1, e3.t f2⟩
    · rw [if_neg hb, if_neg hb]
      exact ⟨μ, rfl, .rf⟩
theorem kX7_hears_l {c : Nat} {v : Int32} (hc : c < 6) : ∀ j k μ M, k + j = 201 → μ 77 = M → μ 79 = mx N A → hiE N M → G M n m → ∃ μ', X7_hears_26 E (d + 5) (nI c) v (nI k) μ = some (some (.int (hrR n m c v j k M)), μ') ∧ μ' 77 = N ∧ RF μ μ'
  | 0, k, μ, M, e, h, h79, hh, g => by
    obtain ⟨μ2, f1, f2, f3, _, f4⟩ := rBk (E := E) (d := d + 3) (N := N) (A := A) h79 (by rw [h]; exact hh)
    rw [X7_hears_26_q, if_pos (show (200 : Int32) < nI k from nI_lt (a := 200) (by omega) (by omega)), f1, ab_cV_s, if_neg (show ¬ nI k ≤ (200 : Int32) from nI_ge (a := 200) (by omega) (by omega))]
    exact ⟨μ2, rfl, f2, f4⟩
  | j + 1, k, μ, M, e, h, h79, hh, g => by
    rw [X7_hears_26_q, if_neg (show ¬ (200 : Int32) < nI k from za_lt.mpr (nI_le (b := 200) (by omega) (by decide))), za_7, if_pos (za_in (show 7 + c < 1435 by omega) (by decide)), za_cl (by omega), h]
    unfold hrR
    by_cases hb : M (7 + c) < v
    · obtain ⟨μ1, e1, e2, e3, _, e4⟩ := rEv (E := E) (d := d) h g
      rw [if_neg (za_le.mpr hb), if_pos hb, e1, ab_cV_s, za_1]
      obtain ⟨μ2, f1, f2, f3⟩ := kX7_hears_l hc j (k + 1) μ1 _ (by omega) e2 (e3.trans h79) (hh.t (hi_ev g)) g.ev
      exact ⟨μ2, f1, f2, e4.t f3⟩
    · obtain ⟨μ2, f1, f2, f3, _, f4⟩ := rBk (E := E) (d := d + 3) (N := N) (A := A) h79 (by rw [h]; exact hh)
      rw [if_pos (za_lt.mp hb), if_neg hb, f1, ab_cV_s, if_pos (show nI k ≤ (200 : Int32) from nI_le (b := 200) (by omega) (by decide))]
      exact ⟨μ2, rfl, f2, f4⟩
theorem p_hears : PR (X6_hears E (d + 100) a b) (X7_hears E (d + 100) a b) := by
  intro μ s
  obtain ⟨n, m, e, sa, h4, so⟩ := id s
  obtain ⟨g, h, h2, h3⟩ := id sa
  have hX : X6_hears E (d + 100) a b μ = _ := X6_hears_q
  rw [kX2_isCorner, ab_cI_s] at hX
  by_cases ha : 0 ≤ a ∧ a ≤ 5
  · rw [zb_t ha, if_neg (by decide), kX6_isWithin, ab_cI_s] at hX
    by_cases hb : 0 ≤ b ∧ b ≤ 99
    · obtain ⟨i, hi, rfl⟩ := za_5.mp ha
      obtain ⟨μ1, e1, e2, e3⟩ := cBe (E := E) (d := d + 99) h g
      obtain ⟨μ2, f1, f2⟩ := kX6_hears_l (E := E) (d := d + 93) (v := b) hi 201 0 μ1 _ (by omega) e2 g
      rw [zb_t hb, if_pos (by decide), e1, ab_cV_s] at hX
      have hcf := e3.t f2
      have hN2 : μ2 77 = μ 77 := hcf 77 (by decide) (by decide) (by decide) (by decide)
      obtain ⟨μ3, k1, k2, k3, k4⟩ := rTk (E := E) (d := d + 98) hN2
      obtain ⟨μ4, l1, l2, l3⟩ := kX7_hears_l (E := E) (d := d + 95) (v := b) (N := μ 77) hi 201 0 μ3 _ (by omega) k2 k3 .r g
      have hY : X7_hears E (d + 100) (nI i) b μ2 = _ := X7_hears_q
      rw [kX7_isCorner, ab_cI_s, zb_t ha, if_neg (by decide), kX7_in, ab_cI_s, zb_t hb, if_pos (by decide), k1, ab_cV_s] at hY
      exact ⟨_, _, _, hX.trans f1, hY.trans l1, SI.th s hcf (k4.t l3) l2⟩
    · have hY : X7_hears E (d + 100) a b μ = _ := X7_hears_q
      rw [zb_f hb, if_neg (by decide)] at hX
      rw [kX7_isCorner, ab_cI_s, zb_t ha, if_neg (by decide), kX7_in, ab_cI_s, zb_f hb, if_neg (by decide)] at hY
      exact ⟨_, _, _, hX, hY, s⟩
  · have hY : X7_hears E (d + 100) a b μ = _ := X7_hears_q
    rw [zb_f ha, if_pos rfl] at hX
    rw [kX7_isCorner, ab_cI_s, zb_f ha, if_pos rfl] at hY
    exact ⟨_, _, _, hX, hY, s⟩
/-! edge -/
noncomputable def thD (N : Nat → Int32) (n m v s j : Nat) (x : Int32) : Int32 := evs n m v (upd N (13 + 5 * s + j) x) (15 + 5 * s)
noncomputable def edR (N : Nat → Int32) (n m v s : Nat) (c : Int32) : Nat → Nat → Int32
  | 0, _ => -1000000005
  | j + 1, w => if c < thD N n m v s 1 (nI w) then edR N n m v s c j (w + 1) else nI w
theorem kX6_edge_l {s v : Nat} {c : Int32} (hv : v < 2 ^ 31) (hs : s < n) (g : G N n m) : ∀ j w μ, w + j = 100 → RC μ 22 N n m → ∃ μ', X6_edge_37 E (d + 8) (nI s) (nI v) c (nI w) μ = some (some (.int (edR N n m v s c j w)), μ') ∧ CF μ μ'
  | 0, w, μ, e, h => by
    rw [X6_edge_37_q, if_pos (show (99 : Int32) < nI w from nI_lt (a := 99) (by omega) (by omega))]
    exact ⟨μ, rfl, .rf⟩
  | j + 1, w, μ, e, h => by
    have hn := g.n10
    have h10 := za_in (show s < 10 by omega) (show 10 < 2 ^ 31 by decide)
    have gw := g.say (x := nI w) (j := 1) hs (by decide) (Or.inr (Or.inl ⟨rfl, w, by omega, rfl⟩))
    obtain ⟨μ1, μ2, e1, e2, e3, e4⟩ := cTh (E := E) (d := d) (x := nI w) (j := 1) hv h g hs (by decide) gw
    rw [X6_edge_37_q, if_neg (show ¬ (99 : Int32) < nI w from za_lt.mpr (nI_le (b := 99) (by omega) (by decide))), e1, ab_cV_s, if_pos h10]
    simp only [za_cl (show s < 2 ^ 31 by omega)]
    rw [show X2_passEvenings E (d + 7) 38 (nI v) (ab_up μ1 40 s (nI w)) = _ from e2, ab_cV_s, if_pos h10, show μ2 41 s = thD N n m v s 1 (nI w) from (e3.2.2.1 s hs).2.2.1, za_1]
    unfold edR
    by_cases hc : c < thD N n m v s 1 (nI w)
    · rw [if_pos hc, if_pos hc]
      obtain ⟨μ3, f1, f2⟩ := kX6_edge_l hv hs g j (w + 1) μ2 (by omega) (e4.rc g h)
      exact ⟨μ3, f1, e4.t f2⟩
    · rw [if_neg hc, if_neg hc]
      exact ⟨μ2, rfl, e4⟩
theorem kX7_edge_l {s v : Nat} {c : Int32} (hv : v < 2 ^ 31) (hs : s < n) (g : G N n m) : ∀ j w μ, w + j = 100 → μ 77 = N → μ 79 = mx N A → ∃ μ', X7_edge_38 E (d + 7) (nI s) (nI v) c (nI w) μ = some (some (.int (edR N n m v s c j w)), μ') ∧ μ' 77 = N ∧ RF μ μ'
  | 0, w, μ, e, h, h79 => by
    rw [X7_edge_38_q, if_pos (show (99 : Int32) < nI w from nI_lt (a := 99) (by omega) (by omega))]
    exact ⟨μ, rfl, h, .rf⟩
  | j + 1, w, μ, e, h, h79 => by
    have hn := g.n10
    have gw := g.say (x := nI w) (j := 1) hs (by decide) (Or.inr (Or.inl ⟨rfl, w, by omega, rfl⟩))
    obtain ⟨μ2, e1, e2, e3, e4⟩ := rDo (E := E) (d := d) (v := v) (i := s) (μ := wN μ (upd N (13 + 5 * s + 1) (nI w))) (N := N) (A := A) hv (by omega) (by rw [wN_a (by decide)]; exact h79) wN_77 gw (hiE.r.u (by omega))
    rw [X7_edge_38_q, if_neg (show ¬ (99 : Int32) < nI w from za_lt.mpr (nI_le (b := 99) (by omega) (by decide))), show X7_put E (d + 6) (nI s) 1 (nI w) μ = _ from kX7_put (w := 1) (by omega) (by decide), ab_cV_s, wN_up0 h, e1, ab_cI_s, za_1]
    have e5 : RF μ μ2 := RF.t (fun a h1 _ _ _ _ => wN_a h1) e4
    unfold edR
    by_cases hc : c < thD N n m v s 1 (nI w)
    · rw [if_pos hc, if_pos (show c < evs n m v (upd N (13 + 5 * s + 1) (nI w)) (15 + 5 * s) from hc)]
      obtain ⟨μ3, f1, f2, f3⟩ := kX7_edge_l hv hs g j (w + 1) μ2 (by omega) e2 e3
      exact ⟨μ3, f1, f2, e5.t f3⟩
    · rw [if_neg hc, if_neg (show ¬ c < evs n m v (upd N (13 + 5 * s + 1) (nI w)) (15 + 5 * s) from hc)]
      exact ⟨μ2, rfl, e2, e5⟩
theorem p_edge : PR (X6_edge E (d + 100) a b c) (X7_edge E (d + 100) a b c) := by
  intro μ s
  obtain ⟨n, m, e, sa, h4, so⟩ := id s
  obtain ⟨g, h, h2, h3⟩ := id sa
  have hn := g.n10
  have hX : X6_edge E (d + 100) a b c μ = _ := X6_edge_q
  rw [kX2_has' isR22 h g, ab_cI_s] at hX
  by_cases ha : 0 ≤ a ∧ a ≤ nI n - 1
  · rw [zb_t ha, if_neg (by decide), kX6_isWithin, ab_cI_s] at hX
    by_cases hb : 0 ≤ b ∧ b ≤ 30
    · rw [zb_t hb, if_neg (by decide), kX6_isWithin, ab_cI_s] at hX
      by_cases hc : 0 ≤ c ∧ c ≤ 99
      · obtain ⟨i, hi, rfl⟩ := (za_has (by omega)).mp ha
        obtain ⟨v, hv, rfl⟩ := (za_rng (k := 30) (by decide)).mp hb
        obtain ⟨μ2, f1, f2⟩ := kX6_edge_l (E := E) (d := d + 92) (v := v) (c := c) (by omega) hi g 100 0 μ (by omega) h
        rw [zb_t hc, if_pos (by decide)] at hX
        have hN2 : μ2 77 = μ 77 := f2 77 (by decide) (by decide) (by decide) (by decide)
        obtain ⟨μ3, k1, k2, k3, k4⟩ := rTk (E := E) (d := d + 98) hN2
        obtain ⟨μ4, l1, l2, l3⟩ := kX7_edge_l (E := E) (d := d + 93) (v := v) (c := c) (by omega) hi g 100 0 μ3 (by omega) k2 k3
        have hY : X7_edge E (d + 100) (nI i) (nI v) c μ2 = _ := X7_edge_q
        rw [kX7_has' hN2 g, ab_cI_s, zb_t ha, if_neg (by decide), kX7_in, ab_cI_s, zb_t hb, if_neg (by decide), kX7_in, ab_cI_s, zb_t hc, if_pos (by decide), k1, ab_cV_s] at hY
        exact ⟨_, _, _, hX.trans f1, hY.trans l1, SI.th s f2 (k4.t l3) l2⟩
      · have hY : X7_edge E (d + 100) a b c μ = _ := X7_edge_q
        rw [zb_f hc, if_neg (by decide)] at hX
        rw [kX7_has' rfl g, ab_cI_s, zb_t ha, if_neg (by decide), kX7_in, ab_cI_s, zb_t hb, if_neg (by decide), kX7_in, ab_cI_s, zb_f hc, if_neg (by decide)] at hY
        exact ⟨_, _, _, hX, hY, s⟩
    · have hY : X7_edge E (d + 100) a b c μ = _ := X7_edge_q
      rw [zb_f hb, if_pos rfl] at hX
      rw [kX7_has' rfl g, ab_cI_s, zb_t ha, if_neg (by decide), kX7_in, ab_cI_s, zb_f hb, if_pos rfl] at hY
      exact ⟨_, _, _, hX, hY, s⟩
  · have hY : X7_edge E (d + 100) a b c μ = _ := X7_edge_q
    rw [zb_f ha, if_pos rfl] at hX
    rw [kX7_has' rfl g, ab_cI_s, zb_f ha, if_pos rfl] at hY
    exact ⟨_, _, _, hX, hY, s⟩
end
