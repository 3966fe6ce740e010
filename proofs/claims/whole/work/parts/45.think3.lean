section
variable {E : ab_E} {d : Nat} {μ μ' μ'' : ab_M} {r n m : Nat} {N M A : Nat → Int32} {a b c : Int32}
theorem thD_lt {v s j : Nat} {x : Int32} (g : G (upd N (13 + 5 * s + j) x) n m) (hs : s < n) : ∃ y, y < 100 ∧ thD N n m v s j x = nI y := by
  have := ((g.evs v).2.1 s hs).2.2.1
  exact ⟨_, this.2, this.1⟩
/-! place -/
noncomputable def plR (N : Nat → Int32) (n m v s : Nat) (c : Int32) : Nat → Nat → Int32 → Int32 → Int32
  | 0, _, bb, ll => if ¬ c = 0 then ll else bb
  | j + 1, w, bb, ll => if ll ≤ thD N n m v s 3 (nI w) then plR N n m v s c j (w + 1) bb ll else plR N n m v s c j (w + 1) (nI w) (thD N n m v s 3 (nI w))
theorem kX6_place_l {s v : Nat} {c : Int32} (hv : v < 2 ^ 31) (hs : s < n) (g : G N n m) : ∀ j w μ bb ll, w + j = 6 → RC μ 22 N n m → ∃ μ', X6_place_43 E (d + 8) (nI s) (nI v) c bb ll (nI w) μ = some (some (.int (plR N n m v s c j w bb ll)), μ') ∧ CF μ μ'
  | 0, w, μ, bb, ll, e, h => by
    rw [X6_place_43_q, if_pos (show (6 : Int32) ≤ nI w from nI_le (a := 6) (by omega) (by omega))]
    unfold plR
    by_cases c0 : c = 0
    · rw [if_neg (fun q => q c0), if_neg (fun q => q c0)]; exact ⟨μ, rfl, .rf⟩
    · rw [if_pos c0, if_pos c0]; exact ⟨μ, rfl, .rf⟩
  | j + 1, w, μ, bb, ll, e, h => by
    have hn := g.n10
    have h10 := za_in (show s < 10 by omega) (show 10 < 2 ^ 31 by decide)
    have gw := g.say (x := nI w) (j := 3) hs (by decide) (Or.inr (Or.inr (Or.inr (Or.inl ⟨rfl, w, by omega, rfl⟩))))
    obtain ⟨μ1, μ2, e1, e2, e3, e4⟩ := cTh (E := E) (d := d) (x := nI w) (j := 3) hv h g hs (by decide) gw
    rw [X6_place_43_q, if_neg (show ¬ (6 : Int32) ≤ nI w from nI_ge (b := 6) (by omega) (by decide)), e1, ab_cV_s, if_pos h10]
    simp only [za_cl (show s < 2 ^ 31 by omega)]
    rw [show X2_passEvenings E (d + 7) 38 (nI v) (ab_up μ1 42 s (nI w)) = _ from e2, ab_cV_s, if_pos h10, show μ2 41 s = thD N n m v s 3 (nI w) from (e3.2.2.1 s hs).2.2.1, if_pos h10, za_1]
    unfold plR
    by_cases hc : ll ≤ thD N n m v s 3 (nI w)
    · rw [if_pos hc, if_pos hc]
      obtain ⟨μ3, f1, f2⟩ := kX6_place_l hv hs g j (w + 1) μ2 bb ll (by omega) (e4.rc g h)
      exact ⟨μ3, f1, e4.t f2⟩
    · rw [if_neg hc, if_neg hc]
      obtain ⟨μ3, f1, f2⟩ := kX6_place_l hv hs g j (w + 1) μ2 (nI w) (thD N n m v s 3 (nI w)) (by omega) (e4.rc g h)
      exact ⟨μ3, f1, e4.t f2⟩
theorem kX7_place_l {s v : Nat} {c : Int32} (hv : v < 2 ^ 31) (hs : s < n) (g : G N n m) : ∀ j w μ bb ll o, w + j = 6 → μ 77 = N → μ 79 = mx N A → ∃ μ', X7_place_44 E (d + 7) (nI s) (nI v) c bb ll (nI w) o μ = some (some (.int (plR N n m v s c j w bb ll)), μ') ∧ μ' 77 = N ∧ RF μ μ'
  | 0, w, μ, bb, ll, o, e, h, h79 => by
    rw [X7_place_44_q, if_pos (show (6 : Int32) ≤ nI w from nI_le (a := 6) (by omega) (by omega))]
    unfold plR
    by_cases c0 : c = 0
    · rw [if_neg (fun q => q c0), if_neg (fun q => q c0)]; exact ⟨μ, rfl, h, .rf⟩
    · rw [if_pos c0, if_pos c0]; exact ⟨μ, rfl, h, .rf⟩
  | j + 1, w, μ, bb, ll, o, e, h, h79 => by
    have hn := g.n10
    have gw := g.say (x := nI w) (j := 3) hs (by decide) (Or.inr (Or.inr (Or.inr (Or.inl ⟨rfl, w, by omega, rfl⟩))))
    obtain ⟨μ2, e1, e2, e3, e4⟩ := rDo (E := E) (d := d) (v := v) (i := s) (μ := wN μ (upd N (13 + 5 * s + 3) (nI w))) (N := N) (A := A) hv (by omega) (by rw [wN_a (by decide)]; exact h79) wN_77 gw (hiE.r.u (by omega))
    rw [X7_place_44_q, if_neg (show ¬ (6 : Int32) ≤ nI w from nI_ge (b := 6) (by omega) (by decide)), show X7_put E (d + 6) (nI s) 3 (nI w) μ = _ from kX7_put (w := 3) (by omega) (by decide), ab_cV_s, wN_up0 h, e1, ab_cI_s, za_1]
    have e5 : RF μ μ2 := RF.t (fun a h1 _ _ _ _ => wN_a h1) e4
    unfold plR
    by_cases hc : ll ≤ thD N n m v s 3 (nI w)
    · have hc' : ll ≤ evs n m v (upd N (13 + 5 * s + 3) (nI w)) (15 + 5 * s) := hc
      rw [if_pos hc, if_pos hc', if_pos hc']
      obtain ⟨μ3, f1, f2, f3⟩ := kX7_place_l hv hs g j (w + 1) μ2 bb ll _ (by omega) e2 e3
      exact ⟨μ3, f1, f2, e5.t f3⟩
    · have hc' : ¬ ll ≤ evs n m v (upd N (13 + 5 * s + 3) (nI w)) (15 + 5 * s) := hc
      rw [if_neg hc, if_neg hc', if_neg hc']
      obtain ⟨μ3, f1, f2, f3⟩ := kX7_place_l hv hs g j (w + 1) μ2 (nI w) (thD N n m v s 3 (nI w)) _ (by omega) e2 e3
      exact ⟨μ3, f1, f2, e5.t f3⟩
theorem p_place : PR (X6_place E (d + 100) a b c) (X7_place E (d + 100) a b c) := by
  intro μ s
  obtain ⟨n, m, e, sa, h4, so⟩ := id s
  obtain ⟨g, h, h2, h3⟩ := id sa
  have hn := g.n10
  have hX : X6_place E (d + 100) a b c μ = _ := X6_place_q
  rw [kX2_has' isR22 h g, ab_cI_s] at hX
  by_cases ha : 0 ≤ a ∧ a ≤ nI n - 1
  · rw [zb_t ha, if_neg (by decide), kX6_isWithin, ab_cI_s] at hX
    by_cases hb : 1 ≤ b ∧ b ≤ 60
    · rw [zb_t hb, if_neg (by decide), kX6_isWithin, ab_cI_s] at hX
      by_cases hc : 0 ≤ c ∧ c ≤ 1
      · obtain ⟨i, hi, rfl⟩ := (za_has (by omega)).mp ha
        obtain ⟨v, _, hv, rfl⟩ := (za_1k (k := 60) (by decide)).mp hb
        obtain ⟨μ2, f1, f2⟩ := kX6_place_l (E := E) (d := d + 92) (v := v) (c := c) (by omega) hi g 6 0 μ 0 100 (by omega) h
        rw [zb_t hc, if_pos (by decide)] at hX
        have hN2 : μ2 77 = μ 77 := f2 77 (by decide) (by decide) (by decide) (by decide)
        obtain ⟨μ3, k1, k2, k3, k4⟩ := rTk (E := E) (d := d + 98) hN2
        obtain ⟨μ4, l1, l2, l3⟩ := kX7_place_l (E := E) (d := d + 93) (v := v) (c := c) (by omega) hi g 6 0 μ3 0 100 none (by omega) k2 k3
        have hY : X7_place E (d + 100) (nI i) (nI v) c μ2 = _ := X7_place_q
        rw [kX7_has' hN2 g, ab_cI_s, zb_t ha, if_neg (by decide), kX7_in, ab_cI_s, zb_t hb, if_neg (by decide), kX7_in, ab_cI_s, zb_t hc, if_pos (by decide), k1, ab_cV_s] at hY
        exact ⟨_, _, _, hX.trans f1, hY.trans l1, SI.th s f2 (k4.t l3) l2⟩
      · have hY : X7_place E (d + 100) a b c μ = _ := X7_place_q
        rw [zb_f hc, if_neg (by decide)] at hX
        rw [kX7_has' rfl g, ab_cI_s, zb_t ha, if_neg (by decide), kX7_in, ab_cI_s, zb_t hb, if_neg (by decide), kX7_in, ab_cI_s, zb_f hc, if_neg (by decide)] at hY
        exact ⟨_, _, _, hX, hY, s⟩
    · have hY : X7_place E (d + 100) a b c μ = _ := X7_place_q
      rw [zb_f hb, if_pos rfl] at hX
      rw [kX7_has' rfl g, ab_cI_s, zb_t ha, if_neg (by decide), kX7_in, ab_cI_s, zb_f hb, if_pos rfl] at hY
      exact ⟨_, _, _, hX, hY, s⟩
  · have hY : X7_place E (d + 100) a b c μ = _ := X7_place_q
    rw [zb_f ha, if_pos rfl] at hX
    rw [kX7_has' rfl g, ab_cI_s, zb_f ha, if_pos rfl] at hY
    exact ⟨_, _, _, hX, hY, s⟩
/-! becomes -/
noncomputable def thH (N : Nat → Int32) (n m v s : Nat) (x : Int32) : Int32 := zJ (fun q => evs n m v (upd N (13 + 5 * s + 0) x) (7 + q)) 6
noncomputable def beR (N : Nat → Int32) (n m v s : Nat) (c : Int32) : Nat → Nat → Int32 → Int32 → Int32
  | 0, _, bb, ll => if ¬ c = 0 then ll else bb
  | j + 1, w, bb, ll => if thH N n m v s (nI w) ≤ ll then beR N n m v s c j (w + 1) bb ll else beR N n m v s c j (w + 1) (nI w) (thH N n m v s (nI w))
theorem kX6_becomes_l {s v : Nat} {c : Int32} (hv : v < 2 ^ 31) (hs : s < n) (g : G N n m) : ∀ j w μ bb ll, w + j = 6 → RC μ 22 N n m → ∃ μ', X6_becomes_42 E (d + 8) (nI s) (nI v) c bb ll (nI w) μ = some (some (.int (beR N n m v s c j w bb ll)), μ') ∧ CF μ μ'
  | 0, w, μ, bb, ll, e, h => by
    rw [X6_becomes_42_q, if_pos (show (6 : Int32) ≤ nI w from nI_le (a := 6) (by omega) (by omega))]
    unfold beR
    by_cases c0 : c = 0
    · rw [if_neg (fun q => q c0), if_neg (fun q => q c0)]; exact ⟨μ, rfl, .rf⟩
    · rw [if_pos c0, if_pos c0]; exact ⟨μ, rfl, .rf⟩
  | j + 1, w, μ, bb, ll, e, h => by
    have hn := g.n10
    have h10 := za_in (show s < 10 by omega) (show 10 < 2 ^ 31 by decide)
    have gw := g.say (x := nI w) (j := 0) hs (by decide) (Or.inl ⟨rfl, w, by omega, rfl⟩)
    obtain ⟨μ1, μ2, e1, e2, e3, e4⟩ := cTh (E := E) (d := d) (x := nI w) (j := 0) hv h g hs (by decide) gw
    have hH : X2_allHeed E (d + 7) 38 μ2 = some (some (.int (thH N n m v s (nI w))), μ2) := kX2_allHeed isR38 e3
    rw [X6_becomes_42_q, if_neg (show ¬ (6 : Int32) ≤ nI w from nI_ge (b := 6) (by omega) (by decide)), e1, ab_cV_s, if_pos h10, za_cl (show s < 2 ^ 31 by omega), show X2_passEvenings E (d + 7) 38 (nI v) (ab_up μ1 39 s (nI w)) = _ from e2, ab_cV_s, hH, ab_cI_s, hH, ab_cI_s, za_1]
    unfold beR
    by_cases hc : thH N n m v s (nI w) ≤ ll
    · rw [if_pos hc, if_pos hc]
      obtain ⟨μ3, f1, f2⟩ := kX6_becomes_l hv hs g j (w + 1) μ2 bb ll (by omega) (e4.rc g h)
      exact ⟨μ3, f1, e4.t f2⟩
    · rw [if_neg hc, if_neg hc]
      obtain ⟨μ3, f1, f2⟩ := kX6_becomes_l hv hs g j (w + 1) μ2 (nI w) (thH N n m v s (nI w)) (by omega) (e4.rc g h)
      exact ⟨μ3, f1, e4.t f2⟩
theorem kX7_becomes_l {s v : Nat} {c : Int32} (hv : v < 2 ^ 31) (hs : s < n) (g : G N n m) : ∀ j w μ bb ll o, w + j = 6 → μ 77 = N → μ 79 = mx N A → ∃ μ', X7_becomes_43 E (d + 7) (nI s) (nI v) c bb ll (nI w) o μ = some (some (.int (beR N n m v s c j w bb ll)), μ') ∧ μ' 77 = N ∧ RF μ μ'
  | 0, w, μ, bb, ll, o, e, h, h79 => by
    rw [X7_becomes_43_q, if_pos (show (5 : Int32) < nI w from nI_lt (a := 5) (by omega) (by omega))]
    unfold beR
    by_cases c0 : c = 0
    · rw [if_neg (fun q => q c0), if_neg (fun q => q c0)]; exact ⟨μ, rfl, h, .rf⟩
    · rw [if_pos c0, if_pos c0]; exact ⟨μ, rfl, h, .rf⟩
  | j + 1, w, μ, bb, ll, o, e, h, h79 => by
    have hn := g.n10
    have gw := g.say (x := nI w) (j := 0) hs (by decide) (Or.inl ⟨rfl, w, by omega, rfl⟩)
    obtain ⟨μ2, e1, e2, e3, e4⟩ := rEvs (E := E) (d := d + 1) (v := v) (μ := wN μ (upd N (13 + 5 * s + 0) (nI w))) hv wN_77 gw
    obtain ⟨μ3, f1, f2, f3, _, f4⟩ := rBk (E := E) (d := d + 5) (N := N) (A := A) (e3.trans ((wN_a (by decide)).trans h79)) (by rw [e2]; exact (hiE.r.u (by omega)).t (hi_evs v gw))
    have hH : X7_allHeed E (d + 6) μ2 = some (some (.int (thH N n m v s (nI w))), μ2) := kX7_allHeed e2
    rw [X7_becomes_43_q, if_neg (show ¬ (5 : Int32) < nI w from za_lt.mpr (nI_le (b := 5) (by omega) (by decide))), show X7_put E (d + 6) (nI s) 0 (nI w) μ = _ from kX7_put (w := 0) (by omega) (by decide), ab_cV_s, wN_up0 h, e1, ab_cV_s, hH, ab_cI_s, f1, ab_cV_s, ab_cV_s, ab_cV_s, ab_cV_s, za_1]
    have e5 : RF μ μ3 := (RF.t (fun a h1 _ _ _ _ => wN_a h1) e4).t f4
    unfold beR
    by_cases hc : thH N n m v s (nI w) ≤ ll
    · rw [if_pos hc, if_pos hc, if_pos hc]
      obtain ⟨μ4, l1, l2, l3⟩ := kX7_becomes_l hv hs g j (w + 1) μ3 bb ll _ (by omega) f2 f3
      exact ⟨μ4, l1, l2, e5.t l3⟩
    · rw [if_neg hc, if_neg hc, if_neg hc]
      obtain ⟨μ4, l1, l2, l3⟩ := kX7_becomes_l hv hs g j (w + 1) μ3 (nI w) (thH N n m v s (nI w)) _ (by omega) f2 f3
      exact ⟨μ4, l1, l2, e5.t l3⟩
theorem p_becomes : PR (X6_becomes E (d + 100) a b c) (X7_becomes E (d + 100) a b c) := by
  intro μ s
  obtain ⟨n, m, e, sa, h4, so⟩ := id s
  obtain ⟨g, h, h2, h3⟩ := id sa
  have hn := g.n10
  have hX : X6_becomes E (d + 100) a b c μ = _ := X6_becomes_q
  rw [kX2_has' isR22 h g, ab_cI_s] at hX
  by_cases ha : 0 ≤ a ∧ a ≤ nI n - 1
  · rw [zb_t ha, if_neg (by decide), kX6_isWithin, ab_cI_s] at hX
    by_cases hb : 1 ≤ b ∧ b ≤ 60
    · rw [zb_t hb, if_neg (by decide), kX6_isWithin, ab_cI_s] at hX
      by_cases hc : 0 ≤ c ∧ c ≤ 1
      · obtain ⟨i, hi, rfl⟩ := (za_has (by omega)).mp ha
        obtain ⟨v, _, hv, rfl⟩ := (za_1k (k := 60) (by decide)).mp hb
        obtain ⟨μ2, f1, f2⟩ := kX6_becomes_l (E := E) (d := d + 92) (v := v) (c := c) (by omega) hi g 6 0 μ 0 (-1) (by omega) h
        rw [zb_t hc, if_pos (by decide)] at hX
        have hN2 : μ2 77 = μ 77 := f2 77 (by decide) (by decide) (by decide) (by decide)
        obtain ⟨μ3, k1, k2, k3, k4⟩ := rTk (E := E) (d := d + 98) hN2
        obtain ⟨μ4, l1, l2, l3⟩ := kX7_becomes_l (E := E) (d := d + 93) (v := v) (c := c) (by omega) hi g 6 0 μ3 0 (-1) none (by omega) k2 k3
        have hY : X7_becomes E (d + 100) (nI i) (nI v) c μ2 = _ := X7_becomes_q
        rw [kX7_has' hN2 g, ab_cI_s, zb_t ha, if_neg (by decide), kX7_in, ab_cI_s, zb_t hb, if_neg (by decide), kX7_in, ab_cI_s, zb_t hc, if_pos (by decide), k1, ab_cV_s] at hY
        exact ⟨_, _, _, hX.trans f1, hY.trans l1, SI.th s f2 (k4.t l3) l2⟩
      · have hY : X7_becomes E (d + 100) a b c μ = _ := X7_becomes_q
        rw [zb_f hc, if_neg (by decide)] at hX
        rw [kX7_has' rfl g, ab_cI_s, zb_t ha, if_neg (by decide), kX7_in, ab_cI_s, zb_t hb, if_neg (by decide), kX7_in, ab_cI_s, zb_f hc, if_neg (by decide)] at hY
        exact ⟨_, _, _, hX, hY, s⟩
    · have hY : X7_becomes E (d + 100) a b c μ = _ := X7_becomes_q
      rw [zb_f hb, if_pos rfl] at hX
      rw [kX7_has' rfl g, ab_cI_s, zb_t ha, if_neg (by decide), kX7_in, ab_cI_s, zb_f hb, if_pos rfl] at hY
      exact ⟨_, _, _, hX, hY, s⟩
  · have hY : X7_becomes E (d + 100) a b c μ = _ := X7_becomes_q
    rw [zb_f ha, if_pos rfl] at hX
    rw [kX7_has' rfl g, ab_cI_s, zb_f ha, if_pos rfl] at hY
    exact ⟨_, _, _, hX, hY, s⟩
end
