/-! deal -/
noncomputable def dlN (N : Nat → Int32) (n : Nat) : Nat → Int32 := adN (upd N 0 (dr (dr (dr (dr (N 0)))))) n (nI (sh (dr (N 0)) % 6)) (nI (sh (dr (dr (N 0))) % 100)) (nI (sh (dr (dr (dr (N 0)))) % 60)) (nI (sh (dr (dr (dr (dr (N 0))))) % 6))
noncomputable def dlR : Nat → (Nat → Int32) → Nat → Nat → Int32
  | 0, N, _ => N
  | j + 1, N, n => if n < 10 then dlR j (dlN N n) (n + 1) else N
def dlC : Nat → Nat → Nat
  | 0, _ => 0
  | j + 1, n => if n < 10 then dlC j (n + 1) + 1 else 0
section
variable {E : ab_E} {d : Nat} {μ μ' μ'' : ab_M} {r n m : Nat} {N M A : Nat → Int32} {a b c : Int32}
theorem za_m {z : Int32} {k : Nat} (hk : 0 < k) (hk2 : k < 2 ^ 31) : nI (sh z) - nI (sh z) / nI k * nI k = nI (sh z % k) := za_rem (by have := sh_lt z; omega) hk hk2
theorem za_m6 {z : Int32} : nI (sh z) - nI (sh z) / (6 : Int32) * (6 : Int32) = nI (sh z % 6) := za_m (k := 6) (by decide) (by decide)
theorem za_m60 {z : Int32} : nI (sh z) - nI (sh z) / (60 : Int32) * (60 : Int32) = nI (sh z % 60) := za_m (k := 60) (by decide) (by decide)
theorem za_m100 {z : Int32} : nI (sh z) - nI (sh z) / (100 : Int32) * (100 : Int32) = nI (sh z % 100) := za_m (k := 100) (by decide) (by decide)
theorem G.dl (g : G N n m) (hn : n < 10) : G (dlN N n) (n + 1) m := by
  unfold dlN
  exact (g.num (Or.inl rfl)).ad hn (Nat.mod_lt _ (by decide)) (Nat.mod_lt _ (by decide)) (by have := Nat.mod_lt (sh (dr (dr (dr (N 0))))) (show 60 > 0 by decide); omega) (Nat.mod_lt _ (by decide))
theorem hi_dl (hn : n < 10) : hiE N (dlN N n) := by
  unfold dlN
  exact hiE.t (M := upd N 0 (dr (dr (dr (dr (N 0)))))) (hiE.r.u (by omega)) (hi_ad hn)
theorem dlN_2 : dlN N n 2 = N 2 := by
  unfold dlN
  rw [adN_n (by omega) (by omega), upd_n (by omega)]
theorem dlR_a : ∀ j {N : Nat → Int32} {n : Nat}, G N n m → G (dlR j N n) (n + dlC j n) m ∧ hiE N (dlR j N n) ∧ dlR j N n 2 = N 2
  | 0, N, n, g => ⟨g, .r, rfl⟩
  | j + 1, N, n, g => by
    unfold dlR dlC
    by_cases hn : n < 10
    · rw [if_pos hn, if_pos hn]
      obtain ⟨h1, h2, h3⟩ := dlR_a j (g.dl hn)
      rw [show n + (dlC j (n + 1) + 1) = n + 1 + dlC j (n + 1) by omega]
      exact ⟨h1, (hi_dl hn).t h2, h3.trans dlN_2⟩
    · rw [if_neg hn, if_neg hn]
      exact ⟨g, .r, rfl⟩
theorem kX2_addByLot (hr : ab_isRoom r) (h : RC μ r N n m) (g : G N n m) (hn : n < 10) : ∃ μ', X2_addByLot E (d + 2) r μ = some (none, μ') ∧ RC μ' r (dlN N n) (n + 1) m ∧ ∀ a, ¬ (r ≤ a ∧ a < r + 8) → μ' a = μ a := by
  have hm := g.2.2.2.2.1.2
  have hz := h.1.2.2.2.2.2.2
  rw [X2_addByLot_q hr]
  simp only [kX2_draw hr, ab_cI_s, hz, za_up_s, za_up2]
  rw [za_m6, za_m100, za_m60, za_m6]
  have h4 := h.num (x := dr (dr (dr (dr (N 0))))) (f := 14) (q := 0) hr hm (by simp)
  obtain ⟨μ1, e1, e2, e3⟩ := kX2_add (E := E) (d := d) (k := nI (sh (dr (N 0)) % 6)) (w := nI (sh (dr (dr (N 0))) % 100)) (x := nI (sh (dr (dr (dr (N 0)))) % 60)) (c := nI (sh (dr (dr (dr (dr (N 0))))) % 6)) hr h4 (g.num (Or.inl rfl)) hn
  rw [e1, ab_cI_s]
  exact ⟨μ1, rfl, e2, fun a ha => by rw [e3 a ha, za_up_a (by omega)]⟩
theorem kX6_deal_l {v : Nat} (hv : v ≤ 10) : ∀ j i μ N n, i + j = v → RC μ 22 N n m → G N n m → ∃ μ', X6_deal_17 E (d + 3) (nI v) (nI i) (nI i) μ = some (some (.int (nI (i + dlC j n))), μ') ∧ RC μ' 22 (dlR j N n) (n + dlC j n) m ∧ ∀ a, ¬ (22 ≤ a ∧ a < 30) → μ' a = μ a
  | 0, i, μ, N, n, e, h, g => by
    rw [X6_deal_17_q, if_pos (nI_le (by omega) (by omega))]
    exact ⟨μ, rfl, h, fun _ _ => rfl⟩
  | j + 1, i, μ, N, n, e, h, g => by
    rw [X6_deal_17_q, if_neg (nI_ge (by omega) (by omega)), X2_isFull_q isR22, h.sz g]
    have hn10 := g.n10
    unfold dlR dlC
    by_cases hn : n < 10
    · obtain ⟨μ1, e1, e2, e3⟩ := kX2_addByLot (E := E) (d := d) isR22 h g hn
      rw [if_pos (show nI n < (10 : Int32) from nI_lt (b := 10) hn (by decide)), ab_cI_s, if_neg (fun q => q rfl), e1, ab_cV_s, za_1]
      obtain ⟨μ2, f1, f2, f3⟩ := kX6_deal_l hv j (i + 1) μ1 _ (n + 1) (by omega) e2 (g.dl hn)
      rw [if_pos hn, if_pos hn, show i + (dlC j (n + 1) + 1) = i + 1 + dlC j (n + 1) by omega, show n + (dlC j (n + 1) + 1) = n + 1 + dlC j (n + 1) by omega]
      exact ⟨μ2, f1, f2, fun a ha => by rw [f3 a ha, e3 a (by omega)]⟩
    · rw [if_neg (show ¬ nI n < (10 : Int32) from za_lt.mpr (nI_le (a := 10) (by omega) (by omega))), ab_cI_s, if_pos (by decide), if_neg hn, if_neg hn]
      exact ⟨μ, rfl, h, fun _ _ => rfl⟩
theorem kX7_deal_l {v : Nat} (hv : v ≤ 10) : ∀ j i μ N n o3 o4 o5 o6, i + j = v → μ 77 = N → G N n m → X7_deal_15 E (d + 2) (nI v) (nI i) o3 o4 o5 o6 μ = some (some (.int (nI (i + dlC j n))), wN μ (dlR j N n))
  | 0, i, μ, N, n, o3, o4, o5, o6, e, h, g => by
    rw [X7_deal_15_q, if_pos (nI_le (by omega) (by omega))]
    show _ = some (some (Value.int (nI i)), wN μ N)
    rw [wN_0 h]
  | j + 1, i, μ, N, n, o3, o4, o5, o6, e, h, g => by
    have hn10 := g.n10
    rw [X7_deal_15_q, if_neg (nI_ge (by omega) (by omega)), h, g.1.1]
    unfold dlR dlC
    by_cases hn : n < 10
    · rw [if_neg (show ¬ (10 : Int32) ≤ nI n from nI_ge (b := 10) (by omega) (by decide))]
      simp only [kX7_draw, ab_cI_s, h, wN_up0 h, wN_up, wN_77, upd_s, upd_u]
      rw [za_m6, za_m100, za_m60, za_m6, kX7_comes (N := upd N 0 (dr (dr (dr (dr (N 0)))))) wN_77 (g.num (Or.inl rfl)) hn, ab_cI_s, wN_w, za_1, if_pos hn, if_pos hn]
      have := kX7_deal_l hv j (i + 1) (wN μ (dlN N n)) (dlN N n) (n + 1) (some (.int (nI (sh (dr (N 0)) % 6)))) (some (.int (nI (sh (dr (dr (N 0))) % 100)))) (some (.int (nI (sh (dr (dr (dr (N 0)))) % 60)))) (some (.int (nI n))) (by omega) wN_77 (g.dl hn)
      rw [wN_w, show i + 1 + dlC j (n + 1) = i + (dlC j (n + 1) + 1) by omega] at this
      exact this
    · rw [if_pos (show (10 : Int32) ≤ nI n from nI_le (a := 10) (by omega) (by omega)), if_neg hn, if_neg hn, wN_0 h]
      rfl
theorem p_deal : PR (X6_deal E (d + 100) a) (X7_deal E (d + 100) a) := by
  intro μ s
  obtain ⟨n, m, e, sa, h4, so⟩ := id s
  obtain ⟨g, h, h2, h3⟩ := id sa
  have hm := g.2.2.2.2.1.2
  have hX : X6_deal E (d + 100) a μ = _ := X6_deal_q
  rw [kX6_isWithin, ab_cI_s] at hX
  by_cases ha : 1 ≤ a ∧ a ≤ 10
  · obtain ⟨v, _, hv, rfl⟩ := (za_1k (k := 10) (by decide)).mp ha
    obtain ⟨μ1, e1, e2, e3⟩ := kX6_deal_l (E := E) (d := d + 97) hv v 0 μ _ n (by omega) h g
    rw [zb_t ha, if_pos (by decide)] at hX
    have hN1 : μ1 77 = μ 77 := e3 77 (by omega)
    have f1 := kX7_deal_l (E := E) (d := d + 98) hv v 0 μ1 _ n none none none none (by omega) hN1 g
    have hY : X7_deal E (d + 100) (nI v) μ1 = _ := X7_deal_q
    rw [kX7_in, ab_cI_s, zb_t ha, if_pos (by decide)] at hY
    obtain ⟨q1, q2, q3⟩ := dlR_a v g
    refine ⟨_, _, _, hX.trans e1, hY.trans f1, ?_⟩
    exact SI.wr (μ := μ) (e' := e) (e2.same isR22 hm fun a ha => wN_a (by omega)) wN_77 q1 (q3.trans h2) h3 q2 h4 so (fun a ha => by unfold kp at ha; rw [wN_a (by omega), e3 a (by omega)])
  · have hY : X7_deal E (d + 100) a μ = _ := X7_deal_q
    rw [zb_f ha, if_neg (by decide)] at hX
    rw [kX7_in, ab_cI_s, zb_f ha, if_neg (by decide)] at hY
    exact ⟨_, _, _, hX, hY, s⟩
end
