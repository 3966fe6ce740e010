/-! a room becomes another; a saying comes -/
section
variable {E : ab_E} {d : Nat} {μ : ab_M} {r n m : Nat} {N M : Nat → Int32} {a b c : Int32}
theorem cpy_n {s t i j k x : Nat} (h : x ≠ t) : ab_cpy μ s t i j k x = μ x := by unfold ab_cpy; rw [ab_upA_n h]
theorem cpy_s {s t k i : Nat} (h : i < k) : ab_cpy μ s t 0 0 k t i = μ s i := by
  unfold ab_cpy; rw [ab_upA_s]; unfold va_cpy; rw [if_pos (by omega), show 0 + (i - 0) = i by omega]
theorem kX2_become {r2 : Nat} (hr : ab_isRoom r) (hr2 : ab_isRoom r2) (hne : r ≠ r2) (h : RC μ r2 N n m) (g : G N n m) : ∃ μ', X2_become E d r r2 μ = some (none, μ') ∧ RC μ' r N n m ∧ ∀ a, ¬ (r ≤ a ∧ a < r + 8) → μ' a = μ a := by
  have e1 := hr.is
  have e2 := hr2.is
  have hn := g.n10
  have hm := g.2.2.2.2.1.2
  have rd : ∀ (M : ab_M) j v, ab_up M r j v r2 = M r2 := fun M j v => za_up_a (by omega)
  have c1 : ∀ (M : ab_M), ab_cpy M (r2 + 1) (r + 1) 0 0 10 r2 = M r2 := fun M => cpy_n (by omega)
  have c2 : ∀ (M : ab_M), ab_cpy M (r2 + 2) (r + 2) 0 0 10 r2 = M r2 := fun M => cpy_n (by omega)
  have c3 : ∀ (M : ab_M), ab_cpy M (r2 + 3) (r + 3) 0 0 10 r2 = M r2 := fun M => cpy_n (by omega)
  have c4 : ∀ (M : ab_M), ab_cpy M (r2 + 4) (r + 4) 0 0 10 r2 = M r2 := fun M => cpy_n (by omega)
  have c5 : ∀ (M : ab_M), ab_cpy M (r2 + 5) (r + 5) 0 0 10 r2 = M r2 := fun M => cpy_n (by omega)
  have c6 : ∀ (M : ab_M), ab_cpy M (r2 + 6) (r + 6) 0 0 6 r2 = M r2 := fun M => cpy_n (by omega)
  have c7 : ∀ (M : ab_M), ab_cpy M (r2 + 7) (r + 7) 0 0 3 r2 = M r2 := fun M => cpy_n (by omega)
  rw [X2_become_q hr hr2]
  simp only [rd, c1, c2, c3, c4, c5, c6, c7]
  obtain ⟨h1, h2, h3, h4, h5⟩ := h
  obtain ⟨b1, b2, b3, b4, b5, b6, b7⟩ := h1
  have us : ∀ (M : ab_M) j v x, x ≠ r → ab_up M r j v x = M x := fun M j v x hx => za_up_a hx
  refine ⟨_, rfl, ⟨?_, fun c hc => ?_, fun s hs => ⟨?_, ?_, ?_, ?_, ?_⟩, fun k hk => ?_, fun t ht => ?_⟩, fun a ha => ?_⟩
  · refine ⟨?_, ?_, ?_, ?_, ?_, ?_, ?_⟩ <;> simp [ab_up, upd, b1, b2, b3, b4, b5, b6, b7]
  · simp only [us _ _ _ (r + 6) (by omega)]
    rw [cpy_n (by omega), cpy_s hc]
    repeat rw [cpy_n (by omega)]
    exact h2 c hc
  · simp only [us _ _ _ (r + 1) (by omega)]
    repeat rw [cpy_n (by omega)]
    rw [cpy_s (by omega)]
    exact (h3 s hs).1
  · simp only [us _ _ _ (r + 2) (by omega)]
    repeat rw [cpy_n (by omega)]
    rw [cpy_s (by omega)]
    repeat rw [cpy_n (by omega)]
    exact (h3 s hs).2.1
  · simp only [us _ _ _ (r + 3) (by omega)]
    repeat rw [cpy_n (by omega)]
    rw [cpy_s (by omega)]
    repeat rw [cpy_n (by omega)]
    exact (h3 s hs).2.2.1
  · simp only [us _ _ _ (r + 4) (by omega)]
    repeat rw [cpy_n (by omega)]
    rw [cpy_s (by omega)]
    repeat rw [cpy_n (by omega)]
    exact (h3 s hs).2.2.2.1
  · simp only [us _ _ _ (r + 5) (by omega)]
    repeat rw [cpy_n (by omega)]
    rw [cpy_s (by omega)]
    repeat rw [cpy_n (by omega)]
    exact (h3 s hs).2.2.2.2
  · simp only [us _ _ _ (r + 7) (by omega)]
    rw [cpy_s hk]
    repeat rw [cpy_n (by omega)]
    exact h4 k hk
  · have hh : ∀ x, ¬ (r ≤ x ∧ x < r + 8) → ab_up (ab_up (ab_up (ab_up (ab_up (ab_up (ab_up (ab_cpy (ab_cpy (ab_cpy (ab_cpy (ab_cpy (ab_cpy (ab_cpy μ (r2 + 1) (r + 1) 0 0 10) (r2 + 2) (r + 2) 0 0 10) (r2 + 3) (r + 3) 0 0 10) (r2 + 4) (r + 4) 0 0 10) (r2 + 5) (r + 5) 0 0 10) (r2 + 6) (r + 6) 0 0 6) (r2 + 7) (r + 7) 0 0 3) r 8 (μ r2 8)) r 9 (μ r2 9)) r 10 (μ r2 10)) r 11 (μ r2 11)) r 12 (μ r2 12)) r 13 (μ r2 13)) r 14 (μ r2 14) x = μ x := fun x hx => by
      simp only [us _ _ _ x (by omega)]
      repeat rw [cpy_n (by omega)]
    unfold RLw
    rw [hh 2 (by omega), hh 3 (by omega), hh 4 (by omega), hh (6 + t) (by omega)]
    exact h5 t ht
  · simp only [us _ _ _ a (by omega)]
    repeat rw [cpy_n (by omega)]
/-! texts stay -/
def TS (N M : Nat → Int32) : Prop := ∀ q, 63 ≤ q → M q = N q
theorem TS.u {i : Nat} {x : Int32} (h : TS N M) (hi : i < 63) : TS N (upd M i x) := fun q hq => by rw [upd_n (by omega)]; exact h q hq
theorem TS.rf : TS N N := fun _ _ => rfl
theorem TS.k (h : TS N M) (t : Nat) : tk M t = tk N t := by unfold tk; rw [h _ (by omega)]
theorem TS.l (h : TS N M) (t : Nat) : tl M t = tl N t := by unfold tl; rw [h _ (by omega)]
theorem TS.lTe (h : TS N M) (key : Nat) : ∀ m, lT M key m = lT N key m
  | 0 => rfl
  | t + 1 => by unfold lT; rw [h.k, TS.lTe h key t]
theorem TS.g (h : TS N M) {t : Nat} (g : GT N t) : GT M t := by
  unfold GT tc
  rw [h.k, h.l, h _ (by omega), show (List.range (tl N t)).map (fun k => M (91 + 96 * t + k)) = (List.range (tl N t)).map (fun k => N (91 + 96 * t + k)) from List.map_congr_left fun k _ => h _ (by omega)]
  exact g
theorem TS.R (h : TS N M) {t : Nat} (g : RLw μ N t) : RLw μ M t := by
  unfold RLw
  rw [h.k, h.l, h _ (by omega)]
  exact ⟨g.1, g.2.1, g.2.2.1, fun k hk => by rw [h _ (by omega)]; exact g.2.2.2 k hk⟩
def adN (N : Nat → Int32) (n : Nat) (k w x c : Int32) : Nat → Int32 := upd (upd (upd (upd (upd (upd N 1 (nI (n + 1))) (13 + 5 * n) k) (14 + 5 * n) w) (15 + 5 * n) x) (16 + 5 * n) c) (17 + 5 * n) 0
theorem adN_n {q : Nat} {k w x c : Int32} (h1 : q ≠ 1) (h : q < 13 + 5 * n ∨ 18 + 5 * n ≤ q) : adN N n k w x c q = N q := by
  unfold adN
  rw [upd_n (by omega), upd_n (by omega), upd_n (by omega), upd_n (by omega), upd_n (by omega), upd_n (by omega)]
theorem adN_v {k w x c : Int32} : adN N n k w x c 1 = nI (n + 1) ∧ adN N n k w x c (13 + 5 * n) = k ∧ adN N n k w x c (14 + 5 * n) = w ∧ adN N n k w x c (15 + 5 * n) = x ∧ adN N n k w x c (16 + 5 * n) = c ∧ adN N n k w x c (17 + 5 * n) = 0 := by
  unfold adN
  refine ⟨?_, ?_, ?_, ?_, ?_, ?_⟩ <;> (repeat first | rw [upd_s] | rw [upd_n (by omega)])
theorem TS_ad {k w x c : Int32} (hn : n < 10) : TS N (adN N n k w x c) := fun q hq => adN_n (by omega) (by omega)
theorem hi_ad {k w x c : Int32} (hn : n < 10) : hiE N (adN N n k w x c) := fun q hq => adN_n (by omega) (by omega)
theorem G.ad {k w x c : Nat} (g : G N n m) (hn : n < 10) (hk : k < 6) (hw : w < 100) (hx : x < 100) (hc : c < 6) : G (adN N n (nI k) (nI w) (nI x) (nI c)) (n + 1) m := by
  obtain ⟨g1, g2, g3, g4, g5, g6⟩ := g
  obtain ⟨v1, v2, v3, v4, v5, v6⟩ := adN_v (N := N) (n := n) (k := nI k) (w := nI w) (x := nI x) (c := nI c)
  refine ⟨⟨v1, by omega⟩, fun s hs => ?_, fun c' hc' => ?_, ?_, ?_, fun t ht => (TS_ad hn).g (g6 t ht)⟩
  · by_cases e : s = n
    · subst e
      unfold GS kd wt ds co
      rw [v2, v3, v4, v5, nI_cl (by omega), nI_cl (by omega), nI_cl (by omega), nI_cl (by omega)]
      exact ⟨⟨rfl, hk⟩, ⟨rfl, hw⟩, ⟨rfl, hx⟩, ⟨rfl, hc⟩⟩
    · unfold GS kd wt ds co
      rw [adN_n (by omega) (by omega), adN_n (by omega) (by omega), adN_n (by omega) (by omega), adN_n (by omega) (by omega)]
      exact g2 s (by omega)
  · unfold hd; rw [adN_n (by omega) (by omega)]; exact g3 c' hc'
  · rw [adN_n (by omega) (by omega)]; exact g4
  · rw [adN_n (by omega) (by omega)]; exact g5
theorem kX2_add {k w x c : Int32} (hr : ab_isRoom r) (h : RC μ r N n m) (g : G N n m) (hn : n < 10) : ∃ μ', X2_add E (d + 1) r k w x c μ = some (some (.int (nI n)), μ') ∧ RC μ' r (adN N n k w x c) (n + 1) m ∧ ∀ a, ¬ (r ≤ a ∧ a < r + 8) → μ' a = μ a := by
  have e1 := hr.is
  have hm := g.2.2.2.2.1.2
  have u1 : ∀ (M : ab_M) j v, ab_up M (r + 1) j v r = M r := fun M j v => za_up_a (by omega)
  have u2 : ∀ (M : ab_M) j v, ab_up M (r + 2) j v r = M r := fun M j v => za_up_a (by omega)
  have u3 : ∀ (M : ab_M) j v, ab_up M (r + 3) j v r = M r := fun M j v => za_up_a (by omega)
  have u4 : ∀ (M : ab_M) j v, ab_up M (r + 4) j v r = M r := fun M j v => za_up_a (by omega)
  have u5 : ∀ (M : ab_M) j v, ab_up M (r + 5) j v r = M r := fun M j v => za_up_a (by omega)
  have h10 := za_in hn (show 10 < 2 ^ 31 by decide)
  rw [X2_add_q hr, X2_isFull_q hr, h.sz g, if_pos (show nI n < (10 : Int32) from nI_lt (b := 10) hn (by decide)), ab_cI_s, if_pos rfl]
  simp only [u1, u2, u3, u4, u5, h.sz g, za_cl (show n < 2 ^ 31 by omega), if_pos h10, za_up_s, za_1]
  rw [za_s1 (show 1 ≤ n + 1 by omega), show n + 1 - 1 = n by omega]
  obtain ⟨h1, h2, h3, h4, h5⟩ := h
  obtain ⟨b1, b2, b3, b4, b5, b6, b7⟩ := h1
  obtain ⟨v1, v2, v3, v4, v5, v6⟩ := adN_v (N := N) (n := n) (k := k) (w := w) (x := x) (c := c)
  have fr : ∀ a, ¬ (r ≤ a ∧ a < r + 6) → ab_up (ab_up (ab_up (ab_up (ab_up (ab_up μ (r + 1) n k) (r + 2) n w) (r + 3) n x) (r + 4) n c) (r + 5) n 0) r 8 (nI (n + 1)) a = μ a := fun a ha => by
    rw [za_up_a (by omega), za_up_a (by omega), za_up_a (by omega), za_up_a (by omega), za_up_a (by omega), za_up_a (by omega)]
  have hro : ∀ j, j ≠ 8 → ab_up (ab_up (ab_up (ab_up (ab_up (ab_up μ (r + 1) n k) (r + 2) n w) (r + 3) n x) (r + 4) n c) (r + 5) n 0) r 8 (nI (n + 1)) r j = μ r j := fun j hj => by
    rw [za_up_j hj, u5, u4, u3, u2, u1]
  refine ⟨_, rfl, ⟨?_, fun c' hc' => ?_, fun s hs => ?_, fun k' hk => ?_, fun t ht => ?_⟩, fun a ha => fr a (by omega)⟩
  · rw [za_up_s, hro 9 (by decide), hro 10 (by decide), hro 11 (by decide), hro 12 (by decide), hro 13 (by decide), hro 14 (by decide), v1, adN_n (by omega) (by omega), adN_n (by omega) (by omega), adN_n (by omega) (by omega), adN_n (by omega) (by omega), adN_n (by omega) (by omega), adN_n (by omega) (by omega)]
    exact ⟨rfl, b2, b3, b4, b5, b6, b7⟩
  · rw [fr (r + 6) (by omega), adN_n (by omega) (by omega)]; exact h2 c' hc'
  · unfold RS
    rw [za_up_a (show r + 1 ≠ r by omega), za_up_a (show r + 1 ≠ r + 5 by omega), za_up_a (show r + 1 ≠ r + 4 by omega), za_up_a (show r + 1 ≠ r + 3 by omega), za_up_a (show r + 1 ≠ r + 2 by omega)]
    rw [za_up_a (show r + 2 ≠ r by omega), za_up_a (show r + 2 ≠ r + 5 by omega), za_up_a (show r + 2 ≠ r + 4 by omega), za_up_a (show r + 2 ≠ r + 3 by omega)]
    rw [za_up_a (show r + 3 ≠ r by omega), za_up_a (show r + 3 ≠ r + 5 by omega), za_up_a (show r + 3 ≠ r + 4 by omega)]
    rw [za_up_a (show r + 4 ≠ r by omega), za_up_a (show r + 4 ≠ r + 5 by omega), za_up_a (show r + 5 ≠ r by omega)]
    by_cases e : s = n
    · subst e
      rw [v2, v3, v4, v5, v6, za_up_s, za_up_s, za_up_s, za_up_s, za_up_s]
      exact ⟨rfl, rfl, rfl, rfl, rfl⟩
    · obtain ⟨q1, q2, q3, q4, q5⟩ := h3 s (by omega)
      rw [za_up_j e, za_up_j e, za_up_j e, za_up_j e, za_up_j e]
      rw [za_up_a (show r + 2 ≠ r + 1 by omega), za_up_a (show r + 3 ≠ r + 2 by omega), za_up_a (show r + 3 ≠ r + 1 by omega), za_up_a (show r + 4 ≠ r + 3 by omega), za_up_a (show r + 4 ≠ r + 2 by omega), za_up_a (show r + 4 ≠ r + 1 by omega), za_up_a (show r + 5 ≠ r + 4 by omega), za_up_a (show r + 5 ≠ r + 3 by omega), za_up_a (show r + 5 ≠ r + 2 by omega), za_up_a (show r + 5 ≠ r + 1 by omega)]
      rw [adN_n (by omega) (by omega), adN_n (by omega) (by omega), adN_n (by omega) (by omega), adN_n (by omega) (by omega), adN_n (by omega) (by omega)]
      exact ⟨q1, q2, q3, q4, q5⟩
  · rw [fr (r + 7) (by omega), (TS_ad hn).lTe]; exact h4 k' hk
  · have := (TS_ad (N := N) (k := k) (w := w) (x := x) (c := c) hn).R (h5 t ht)
    unfold RLw at this ⊢
    rw [fr 2 (by omega), fr 3 (by omega), fr 4 (by omega), fr (6 + t) (by omega)]
    exact this
theorem kX2_addF {k w x c : Int32} (hr : ab_isRoom r) (h : RC μ r N n m) (g : G N n m) (hn : ¬ n < 10) : X2_add E (d + 1) r k w x c μ = some (some (.int (-1000000003)), μ) := by
  have := g.n10
  rw [X2_add_q hr, X2_isFull_q hr, h.sz g, if_neg (show ¬ nI n < (10 : Int32) from za_lt.mpr (nI_le (a := 10) (by omega) (by omega))), ab_cI_s, if_neg (by decide)]
theorem kX7_comes {k w x c : Int32} (hN : μ 77 = N) (g : G N n m) (hn : n < 10) : X7_comes E (d + 1) k w x c μ = some (some (.int (nI n)), wN μ (adN N n k w x c)) := by
  have h2 : n < 200 := by omega
  rw [X7_comes_q, hN, g.1.1, wN_up0 hN, za_1, kX7_put0 h2, ab_cV_s, wN_up, kX7_put1 h2, ab_cV_s, wN_up, kX7_put2 h2, ab_cV_s, wN_up, kX7_put3 h2, ab_cV_s, wN_up, kX7_put4 h2, ab_cV_s, wN_up]
  rfl
end
