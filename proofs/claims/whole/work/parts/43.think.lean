/-! what is only thought -/
def CF (μ μ' : ab_M) : Prop := ∀ a, ¬ (38 ≤ a ∧ a < 46) → a ≠ 20 → a ≠ 21 → a ≠ 75 → μ' a = μ a
def RF (μ μ' : ab_M) : Prop := ∀ a, a ≠ 77 → a ≠ 79 → a ≠ 80 → a ≠ 87 → a ≠ 88 → μ' a = μ a
section
variable {E : ab_E} {d : Nat} {μ μ' μ'' : ab_M} {r n m : Nat} {N M A : Nat → Int32} {a b c : Int32}
theorem CF.rf : CF μ μ := fun _ _ _ _ _ => rfl
theorem CF.t (h : CF μ μ') (h2 : CF μ' μ'') : CF μ μ'' := fun a h1 h20 h21 h75 => (h2 a h1 h20 h21 h75).trans (h a h1 h20 h21 h75)
theorem RF.rf : RF μ μ := fun _ _ _ _ _ _ => rfl
theorem RF.t (h : RF μ μ') (h2 : RF μ' μ'') : RF μ μ'' := fun a h1 h2' h3 h4 h5 => (h2 a h1 h2' h3 h4 h5).trans (h a h1 h2' h3 h4 h5)
theorem CF.rc (h : CF μ μ') (g : G N n m) (hr : RC μ 22 N n m) : RC μ' 22 N n m := hr.same isR22 g.2.2.2.2.1.2 fun a ha => h a (by omega) (by omega) (by omega) (by omega)
theorem SI.th (s : SI μ) (h : CF μ μ') (h2 : RF μ' μ'') (h77 : μ'' 77 = μ 77) : SI μ'' := s.rd fun a ha => by
  by_cases e : a = 77
  · subst e; exact h77
  · unfold kp at ha
    rw [h2 a e (by omega) (by omega) (by omega) (by omega), h a (by omega) (by omega) (by omega) (by omega)]
theorem cBe (hr : RC μ 22 N n m) (g : G N n m) : ∃ μ1, X2_become E d 38 22 μ = some (none, μ1) ∧ RC μ1 38 N n m ∧ CF μ μ1 := by
  obtain ⟨μ1, e1, e2, e3⟩ := kX2_become (E := E) (d := d) isR38 isR22 (by decide) hr g
  exact ⟨μ1, e1, e2, fun a h _ _ _ => e3 a (by omega)⟩
theorem cEv (hr : RC μ 38 N n m) (g : G N n m) : ∃ μ1, X2_passEvening E (d + 6) 38 μ = some (none, μ1) ∧ RC μ1 38 (evN N n m) n m ∧ CF μ μ1 := by
  obtain ⟨μ1, e1, e2, e3⟩ := kX2_passEvening (E := E) (d := d) isR38 hr g
  exact ⟨μ1, e1, e2, fun a h h20 h21 _ => e3 a (by omega) h20 h21⟩
theorem cEvs {v : Nat} (hv : v < 2 ^ 31) (hr : RC μ 38 N n m) (g : G N n m) : ∃ μ1, X2_passEvenings E (d + 7) 38 (nI v) μ = some (none, μ1) ∧ RC μ1 38 (evs n m v N) n m ∧ CF μ μ1 := by
  obtain ⟨μ1, e1, e2, e3⟩ := kX2_passEvenings (E := E) (d := d) hv isR38 hr g
  exact ⟨μ1, e1, e2, fun a h h20 h21 _ => e3 a (by omega) h20 h21⟩
/-- a saying is changed in thought, and evenings pass -/
theorem cTh {v i j : Nat} {x : Int32} (hv : v < 2 ^ 31) (hr : RC μ 22 N n m) (g : G N n m) (hi : i < n) (hj : j < 5) (hx : G (upd N (13 + 5 * i + j) x) n m) : ∃ μ1 μ2, X2_become E (d + 7) 38 22 μ = some (none, μ1) ∧ X2_passEvenings E (d + 7) 38 (nI v) (ab_up μ1 (38 + (1 + j)) i x) = some (none, μ2) ∧ RC μ2 38 (evs n m v (upd N (13 + 5 * i + j) x)) n m ∧ CF μ μ2 := by
  obtain ⟨μ1, e1, e2, e3⟩ := cBe (E := E) (d := d + 7) hr g
  have h1 := e2.say (x := x) (j := j) isR38 g.2.2.2.2.1.2 hi g.n10 hj
  obtain ⟨μ2, f1, f2, f3⟩ := cEvs (E := E) (d := d) hv h1 hx
  refine ⟨μ1, μ2, e1, f1, f2, fun a h h20 h21 h75 => ?_⟩
  rw [f3 a h h20 h21 h75, za_up_a (by omega), e3 a h h20 h21 h75]
theorem rEv (hN : μ 77 = N) (g : G N n m) : ∃ μ1, X7_evening E (d + 4) μ = some (none, μ1) ∧ μ1 77 = evN N n m ∧ μ1 79 = μ 79 ∧ μ1 80 = μ 80 ∧ RF μ μ1 := by
  obtain ⟨μ1, e1, e2, e3⟩ := kX7_evening (E := E) (d := d) hN g
  exact ⟨μ1, e1, e2, e3 79 (by decide) (by decide) (by decide), e3 80 (by decide) (by decide) (by decide), fun a h1 h2 h3 h4 h5 => e3 a h1 h4 h5⟩
theorem rEvs {v : Nat} (hv : v < 2 ^ 31) (hN : μ 77 = N) (g : G N n m) : ∃ μ1, X7_goesOn E (d + 5) (nI v) μ = some (none, μ1) ∧ μ1 77 = evs n m v N ∧ μ1 79 = μ 79 ∧ RF μ μ1 := by
  obtain ⟨μ1, e1, e2, e3⟩ := kX7_goesOn (E := E) (d := d) hv hN g
  exact ⟨μ1, e1, e2, e3 79 (by decide) (by decide) (by decide), fun a h1 h2 h3 h4 h5 => e3 a h1 h4 h5⟩
theorem rBk (h79 : μ 79 = mx N A) (h : hiE N (μ 77)) : ∃ μ1, X7_putsBack E (d + 1) μ = some (none, μ1) ∧ μ1 77 = N ∧ μ1 79 = mx N A ∧ μ1 80 = μ 80 ∧ RF μ μ1 :=
  ⟨_, kX7_putsBack' h79 h, wN_77, by rw [wN_a (by decide)]; exact h79, wN_a (by decide), fun a h1 _ _ _ _ => wN_a h1⟩
theorem rTk (hN : μ 77 = N) : ∃ μ1, X7_thinks E (d + 1) μ = some (none, μ1) ∧ μ1 77 = N ∧ μ1 79 = mx N (μ 79) ∧ RF μ μ1 :=
  ⟨_, kX7_thinks, by rw [ab_upA_n (by decide)]; exact hN, by rw [ab_upA_s, hN], fun a _ h79 _ _ _ => ab_upA_n h79⟩
theorem rDo {v i : Nat} (hv : v < 2 ^ 31) (hi : i < 10) (h79 : μ 79 = mx N A) (hM : μ 77 = M) (g : G M n m) (h : hiE N M) : ∃ μ1, X7_dustOn E (d + 6) (nI i) (nI v) μ = some (some (.int (evs n m v M (15 + 5 * i))), μ1) ∧ μ1 77 = N ∧ μ1 79 = mx N A ∧ RF μ μ1 := by
  obtain ⟨μ1, e1, e2, e3, e4⟩ := rEvs (E := E) (d := d) hv hM g
  obtain ⟨μ2, f1, f2, f3, _, f4⟩ := rBk (E := E) (d := d + 4) (N := N) (A := A) (e3.trans h79) (by rw [e2]; exact h.t (hi_evs v g))
  rw [X7_dustOn_q, e1, ab_cV_s, kX7_of2 (by omega), ab_cI_s, f1, ab_cV_s, e2]
  exact ⟨μ2, rfl, f2, f3, e4.t f4⟩
theorem p_behind : PR (X6_behind E (d + 100) a b) (X7_behind E (d + 100) a b) := by
  intro μ s
  obtain ⟨n, m, e, sa, h4, so⟩ := id s
  obtain ⟨g, h, h2, h3⟩ := id sa
  have hn := g.n10
  have hX : X6_behind E (d + 100) a b μ = _ := X6_behind_q
  rw [kX6_isWithin, ab_cI_s] at hX
  by_cases ha : 0 ≤ a ∧ a ≤ 100
  · rw [zb_t ha, if_neg (by decide), kX6_isWithin, ab_cI_s] at hX
    by_cases hb : 0 ≤ b ∧ b ≤ 8
    · obtain ⟨v, hv, rfl⟩ := (za_rng (k := 100) (by decide)).mp ha
      obtain ⟨μ1, e1, e2, e3⟩ := cBe (E := E) (d := d + 99) h g
      obtain ⟨μ2, f1, f2, f3⟩ := cEvs (E := E) (d := d + 92) (v := v) (by omega) e2 g
      rw [zb_t hb, if_pos (by decide), e1, ab_cV_s, f1, ab_cV_s] at hX
      have hcf := e3.t f3
      have hN2 : μ2 77 = μ 77 := hcf 77 (by decide) (by decide) (by decide) (by decide)
      obtain ⟨μ3, k1, k2, k3, k4⟩ := rTk (E := E) (d := d + 98) hN2
      obtain ⟨μ4, l1, l2, l3, l4⟩ := rEvs (E := E) (d := d + 94) (v := v) (by omega) k2 g
      obtain ⟨μ5, o1, o2, o3, _, o4⟩ := rBk (E := E) (d := d + 98) (N := μ 77) (l3.trans k3) (by rw [l2]; exact hi_evs v g)
      have hY : X7_behind E (d + 100) (nI v) b μ2 = _ := X7_behind_q
      rw [kX7_in, ab_cI_s, zb_t ha, if_neg (by decide), kX7_in, ab_cI_s, zb_t hb, if_pos (by decide), k1, ab_cV_s, l1, ab_cV_s] at hY
      have fin := SI.th s hcf ((k4.t l4).t o4) (o2)
      have g2 := g.evs v
      obtain ⟨w, hw, rfl⟩ := (za_rng (k := 8) (by decide)).mp hb
      have : w = 0 ∨ w = 1 ∨ w = 2 ∨ ∃ c, c < 6 ∧ w = 3 + c := by
        rcases Nat.lt_or_ge w 3 with h | h
        · omega
        · exact Or.inr (Or.inr (Or.inr ⟨w - 3, by omega, by omega⟩))
      rcases this with rfl | rfl | rfl | ⟨c, hc, rfl⟩
      · rw [if_pos (by decide), f2.1.2.2.2.1] at hX
        rw [if_neg (by decide), if_pos (show ab_in ((4 : Int32) + nI 0) 1435 from za_in (i := 4) (by decide) (by decide)), o1, ab_cV_s, l2] at hY
        exact ⟨_, _, _, hX, hY, fin⟩
      · rw [if_neg (by decide), if_pos (by decide), f2.1.2.2.2.2.1] at hX
        rw [if_neg (by decide), if_pos (show ab_in ((4 : Int32) + nI 1) 1435 from za_in (i := 5) (by decide) (by decide)), o1, ab_cV_s, l2] at hY
        exact ⟨_, _, _, hX, hY, fin⟩
      · rw [if_neg (by decide), if_neg (by decide), if_pos (by decide), kX2_buried isR38 f2 g2, ab_cI_s, kJ_bits (zS_1024 hn), ab_cI_s] at hX
        rw [if_pos (by decide), if_neg (by decide), kX7_buriedOnes l2 g2, ab_cI_s, kX7_bits (zS_1024 hn), ab_cI_s, o1, ab_cV_s] at hY
        exact ⟨_, _, _, hX, hY, fin⟩
      · have n0 : ¬ nI (3 + c) = (0 : Int32) := fun q => by have := (nI_eq (b := 0) (by omega) (by decide)).mp q; omega
        have n1 : ¬ nI (3 + c) = (1 : Int32) := fun q => by have := (nI_eq (b := 1) (by omega) (by decide)).mp q; omega
        have n2 : ¬ nI (3 + c) = (2 : Int32) := fun q => by have := (nI_eq (b := 2) (by omega) (by decide)).mp q; omega
        have e3' : nI (3 + c) - (3 : Int32) = nI c := by
          have := za_sub (x := 3 + c) (k := 3) (by omega)
          rw [show 3 + c - 3 = c by omega] at this
          exact this
        have e7 : (7 : Int32) + nI (3 + c) - 3 = nI (7 + c) := by
          rw [za_7]
          have := za_sub (x := 7 + (3 + c)) (k := 3) (by omega)
          rw [show 7 + (3 + c) - 3 = 7 + c by omega] at this
          exact this
        rw [if_neg n0, if_neg n1, if_neg n2, e3', if_pos (za_in hc (by decide)), za_cl (by omega), f2.2.1 c hc] at hX
        rw [if_pos (show (2 : Int32) ≤ nI (3 + c) from nI_le (a := 2) (by omega) (by omega)), if_pos n2, e7, if_pos (za_in (show 7 + c < 1435 by omega) (by decide)), o1, ab_cV_s, za_cl (by omega), l2] at hY
        exact ⟨_, _, _, hX, hY, fin⟩
    · have hY : X7_behind E (d + 100) a b μ = _ := X7_behind_q
      rw [zb_f hb, if_neg (by decide)] at hX
      rw [kX7_in, ab_cI_s, zb_t ha, if_neg (by decide), kX7_in, ab_cI_s, zb_f hb, if_neg (by decide)] at hY
      exact ⟨_, _, _, hX, hY, s⟩
  · have hY : X7_behind E (d + 100) a b μ = _ := X7_behind_q
    rw [zb_f ha, if_pos rfl] at hX
    rw [kX7_in, ab_cI_s, zb_f ha, if_pos rfl] at hY
    exact ⟨_, _, _, hX, hY, s⟩
end
