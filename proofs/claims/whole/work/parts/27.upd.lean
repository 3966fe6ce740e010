/-! updates: a cell of the class, a place of N -/
theorem ab_isRoom.is {r : Nat} (h : ab_isRoom r) : r = 22 ∨ r = 30 ∨ r = 38 := by
  have hall : ∀ r : Fin 98, (match ab_S0[r.val]? with
    | some (0, 2, _) => true
    | _ => false) = true → r.val = 22 ∨ r.val = 30 ∨ r.val = 38 := by decide +kernel
  have h0 := h.s0
  have hl : r < 98 := by
    have := (List.getElem?_eq_some_iff.mp h0).1
    have e : ab_S0.length = 98 := by decide +kernel
    omega
  exact hall ⟨r, hl⟩ (by show (match ab_S0[r]? with
    | some (0, 2, _) => true
    | _ => false) = true; rw [h0]; rfl)
theorem tk_u {N : Nat → Int32} {i : Nat} {x : Int32} (h : i < 63) (t : Nat) : tk (upd N i x) t = tk N t := by
  unfold tk upd; rw [if_neg (by omega)]
theorem tl_u {N : Nat → Int32} {i : Nat} {x : Int32} (h : i < 63) (t : Nat) : tl (upd N i x) t = tl N t := by
  unfold tl upd; rw [if_neg (by omega)]
theorem tc_u {N : Nat → Int32} {i : Nat} {x : Int32} (h : i < 63) (t : Nat) : tc (upd N i x) t = tc N t := by
  unfold tc; rw [tl_u h]; apply List.map_congr_left; intro k _; unfold upd; rw [if_neg (by omega)]
theorem GT_u {N : Nat → Int32} {i : Nat} {x : Int32} (h : i < 63) {t : Nat} (g : GT N t) : GT (upd N i x) t := by
  unfold GT; rw [tk_u h, tl_u h, tc_u h, show upd N i x (63 + 2 * t) = N (63 + 2 * t) by unfold upd; rw [if_neg (by omega)]]; exact g
theorem lT_u {N : Nat → Int32} {i : Nat} {x : Int32} (h : i < 63) (key : Nat) : ∀ m, lT (upd N i x) key m = lT N key m
  | 0 => rfl
  | m + 1 => by unfold lT; rw [tk_u h, lT_u h key m]
section
variable {μ μ' : ab_M} {r n m i : Nat} {N : Nat → Int32} {x : Int32}
/-- the texts' part of a room stays if nothing of it was written -/
theorem RC.texts (h : RC μ r N n m) (hi : i < 63) (h7 : μ' (r + 7) = μ (r + 7)) (h2 : μ' 2 = μ 2) (h3 : μ' 3 = μ 3) (h4 : μ' 4 = μ 4) (h6 : ∀ t, t < 14 → μ' (6 + t) = μ (6 + t)) (hm : m ≤ 14) : (∀ key, key < 3 → μ' (r + 7) key = cn (lT (upd N i x) key m)) ∧ (∀ t, t < m → RLw μ' (upd N i x) t) := by
  refine ⟨fun key hk => by rw [h7, lT_u hi]; exact h.2.2.2.1 key hk, fun t ht => ?_⟩
  obtain ⟨a1, a2, a3, a4⟩ := h.2.2.2.2 t ht
  refine ⟨by rw [h2, tk_u hi]; exact a1, by rw [h3, a2]; unfold upd; rw [if_neg (by omega)], by rw [h4, tl_u hi]; exact a3, fun k hk => ?_⟩
  rw [tl_u hi] at hk
  rw [h6 t (by omega), a4 k hk]
  unfold upd; rw [if_neg (by omega)]
theorem RC.say {s j : Nat} (hr : ab_isRoom r) (hm : m ≤ 14) (h : RC μ r N n m) (hs : s < n) (hn : n ≤ 10) (hj : j < 5) : RC (ab_up μ (r + (1 + j)) s x) r (upd N (13 + 5 * s + j) x) n m := by
  have hr3 := hr.is
  have ne : ∀ a, a ≠ r + (1 + j) → ab_up μ (r + (1 + j)) s x a = μ a := fun a ha => za_up_a ha
  have nn : ∀ q, q ≠ 13 + 5 * s + j → upd N (13 + 5 * s + j) x q = N q := fun q hq => by unfold upd; rw [if_neg hq]
  obtain ⟨t1, t2⟩ := h.texts (μ' := ab_up μ (r + (1 + j)) s x) (i := 13 + 5 * s + j) (x := x) (by omega) (ne _ (by omega)) (ne _ (by omega)) (ne _ (by omega)) (ne _ (by omega)) (fun t ht => ne _ (by omega)) hm
  refine ⟨?_, fun c hc => ?_, fun s' hs' => ?_, t1, t2⟩
  · rw [ne r (by omega), nn 1 (by omega), nn 6 (by omega), nn 3 (by omega), nn 4 (by omega), nn 5 (by omega), nn 2 (by omega), nn 0 (by omega)]; exact h.1
  · rw [ne (r + 6) (by omega), nn _ (by omega)]; exact h.2.1 c hc
  · have key : ∀ j', j' < 5 → μ (r + (1 + j')) s' = N (13 + 5 * s' + j') → ab_up μ (r + (1 + j)) s x (r + (1 + j')) s' = upd N (13 + 5 * s + j) x (13 + 5 * s' + j') := by
      intro j' hj' hv
      by_cases e : j' = j
      · subst e
        by_cases e2 : s' = s
        · subst e2; rw [za_up_s]; unfold upd; rw [if_pos rfl]
        · rw [za_up_j e2, nn _ (by omega)]; exact hv
      · rw [ne _ (by omega), nn _ (by omega)]; exact hv
    obtain ⟨a1, a2, a3, a4, a5⟩ := h.2.2.1 s' hs'
    have e1 := key 0 (by omega) (by rw [show 13 + 5 * s' + 0 = 13 + 5 * s' by omega]; exact a1)
    have e2 := key 1 (by omega) (by rw [show 13 + 5 * s' + 1 = 14 + 5 * s' by omega]; exact a2)
    have e3 := key 2 (by omega) (by rw [show 13 + 5 * s' + 2 = 15 + 5 * s' by omega]; exact a3)
    have e4 := key 3 (by omega) (by rw [show 13 + 5 * s' + 3 = 16 + 5 * s' by omega]; exact a4)
    have e5 := key 4 (by omega) (by rw [show 13 + 5 * s' + 4 = 17 + 5 * s' by omega]; exact a5)
    rw [show 13 + 5 * s' + 0 = 13 + 5 * s' by omega] at e1
    rw [show 13 + 5 * s' + 1 = 14 + 5 * s' by omega] at e2
    rw [show 13 + 5 * s' + 2 = 15 + 5 * s' by omega] at e3
    rw [show 13 + 5 * s' + 3 = 16 + 5 * s' by omega] at e4
    rw [show 13 + 5 * s' + 4 = 17 + 5 * s' by omega] at e5
    exact ⟨e1, e2, e3, e4, e5⟩
theorem RC.hdu {c : Nat} (hr : ab_isRoom r) (hm : m ≤ 14) (h : RC μ r N n m) (hc : c < 6) : RC (ab_up μ (r + 6) c x) r (upd N (7 + c) x) n m := by
  have hr3 := hr.is
  have ne : ∀ a, a ≠ r + 6 → ab_up μ (r + 6) c x a = μ a := fun a ha => za_up_a ha
  have nn : ∀ q, q ≠ 7 + c → upd N (7 + c) x q = N q := fun q hq => by unfold upd; rw [if_neg hq]
  obtain ⟨t1, t2⟩ := h.texts (μ' := ab_up μ (r + 6) c x) (i := 7 + c) (x := x) (by omega) (ne _ (by omega)) (ne _ (by omega)) (ne _ (by omega)) (ne _ (by omega)) (fun t ht => ne _ (by omega)) hm
  refine ⟨?_, fun c' hc' => ?_, fun s' hs' => ?_, t1, t2⟩
  · rw [ne r (by omega), nn 1 (by omega), nn 6 (by omega), nn 3 (by omega), nn 4 (by omega), nn 5 (by omega), nn 2 (by omega), nn 0 (by omega)]; exact h.1
  · by_cases e : c' = c
    · subst e; rw [za_up_s]; unfold upd; rw [if_pos rfl]
    · rw [za_up_j e, nn _ (by omega)]; exact h.2.1 c' hc'
  · unfold RS
    rw [ne (r + 1) (by omega), ne (r + 2) (by omega), ne (r + 3) (by omega), ne (r + 4) (by omega), ne (r + 5) (by omega), nn _ (by omega), nn _ (by omega), nn _ (by omega), nn _ (by omega), nn _ (by omega)]
    exact h.2.2.1 s' hs'
/-- the numbers of a room: kicking, dusted, found, evening, z -/
theorem RC.num {f q : Nat} (hr : ab_isRoom r) (hm : m ≤ 14) (h : RC μ r N n m) (hf : (f = 10 ∧ q = 3) ∨ (f = 11 ∧ q = 4) ∨ (f = 12 ∧ q = 5) ∨ (f = 13 ∧ q = 2) ∨ (f = 14 ∧ q = 0)) : RC (ab_up μ r f x) r (upd N q x) n m := by
  have hr3 := hr.is
  have ne : ∀ a, a ≠ r → ab_up μ r f x a = μ a := fun a ha => za_up_a ha
  have nn : ∀ q', q' ≠ q → upd N q x q' = N q' := fun q' hq => by unfold upd; rw [if_neg hq]
  obtain ⟨t1, t2⟩ := h.texts (μ' := ab_up μ r f x) (i := q) (x := x) (by omega) (ne _ (by omega)) (ne _ (by omega)) (ne _ (by omega)) (ne _ (by omega)) (fun t ht => ne _ (by omega)) hm
  refine ⟨?_, fun c' hc' => ?_, fun s' hs' => ?_, t1, t2⟩
  · obtain ⟨b1, b2, b3, b4, b5, b6, b7⟩ := h.1
    rcases hf with ⟨rfl, rfl⟩ | ⟨rfl, rfl⟩ | ⟨rfl, rfl⟩ | ⟨rfl, rfl⟩ | ⟨rfl, rfl⟩ <;> simp [ab_up, upd, b1, b2, b3, b4, b5, b6, b7]
  · rw [ne _ (by omega), nn _ (by omega)]; exact h.2.1 c' hc'
  · unfold RS
    rw [ne (r + 1) (by omega), ne (r + 2) (by omega), ne (r + 3) (by omega), ne (r + 4) (by omega), ne (r + 5) (by omega), nn _ (by omega), nn _ (by omega), nn _ (by omega), nn _ (by omega), nn _ (by omega)]
    exact h.2.2.1 s' hs'
/-- what a room is when its own cells and the texts' are the same -/
theorem RC.same (hr : ab_isRoom r) (hm : m ≤ 14) (h : RC μ r N n m) (hc : ∀ a, (r ≤ a ∧ a < r + 8) ∨ (2 ≤ a ∧ a < 20) → μ' a = μ a) : RC μ' r N n m := by
  have ne : ∀ a, (r ≤ a ∧ a < r + 8) ∨ (2 ≤ a ∧ a < 20) → μ' a = μ a := hc
  obtain ⟨h1, h2, h3, h4, h5⟩ := h
  refine ⟨by rw [ne r (by omega)]; exact h1, fun c hc => by rw [ne (r + 6) (by omega)]; exact h2 c hc, fun s hs => ?_, fun k hk => by rw [ne (r + 7) (by omega)]; exact h4 k hk, fun t ht => ?_⟩
  · unfold RS
    rw [ne (r + 1) (by omega), ne (r + 2) (by omega), ne (r + 3) (by omega), ne (r + 4) (by omega), ne (r + 5) (by omega)]
    exact h3 s hs
  · unfold RLw
    rw [ne 2 (by omega), ne 3 (by omega), ne 4 (by omega), ne (6 + t) (by omega)]
    exact h5 t ht
end
/-! what is good stays good -/
section
variable {n m s : Nat} {N : Nat → Int32} {x : Int32}
theorem nI_cl {v : Nat} (h : v < 2 ^ 31) : (nI v).toNatClampNeg = v := nI_clamp h
theorem GS_u {i : Nat} (h : i < 13 + 5 * s ∨ 17 + 5 * s ≤ i) (g : GS N s) : GS (upd N i x) s := by
  unfold GS kd wt ds co
  have nn : ∀ q, q ≠ i → upd N i x q = N q := fun q hq => by unfold upd; rw [if_neg hq]
  rw [nn _ (by omega), nn _ (by omega), nn _ (by omega), nn _ (by omega)]
  exact g
theorem G.num {q : Nat} (g : G N n m) (h : q = 0 ∨ q = 2 ∨ q = 4 ∨ q = 5) : G (upd N q x) n m := by
  obtain ⟨g1, g2, g3, g4, g5, g6⟩ := g
  have nn : ∀ q', q' ≠ q → upd N q x q' = N q' := fun q' hq => by unfold upd; rw [if_neg hq]
  refine ⟨by rw [nn 1 (by omega)]; exact g1, fun s hs => GS_u (by omega) (g2 s hs), fun c hc => ?_, by rw [nn 3 (by omega)]; exact g4, by rw [nn 6 (by omega)]; exact g5, fun t ht => GT_u (by omega) (g6 t ht)⟩
  unfold hd; rw [nn _ (by omega)]; exact g3 c hc
theorem G.kick {v : Nat} (g : G N n m) (hv : v ≤ 100) : G (upd N 3 (nI v)) n m := by
  obtain ⟨g1, g2, g3, g4, g5, g6⟩ := g
  have nn : ∀ q', q' ≠ 3 → upd N 3 (nI v) q' = N q' := fun q' hq => by unfold upd; rw [if_neg hq]
  refine ⟨by rw [nn 1 (by omega)]; exact g1, fun s hs => GS_u (by omega) (g2 s hs), fun c hc => ?_, ⟨v, hv, by unfold upd; rw [if_pos rfl]⟩, by rw [nn 6 (by omega)]; exact g5, fun t ht => GT_u (by omega) (g6 t ht)⟩
  unfold hd; rw [nn _ (by omega)]; exact g3 c hc
theorem G.hdu {c v : Nat} (g : G N n m) (hc : c < 6) (hv : v < 100) : G (upd N (7 + c) (nI v)) n m := by
  obtain ⟨g1, g2, g3, g4, g5, g6⟩ := g
  have nn : ∀ q', q' ≠ 7 + c → upd N (7 + c) (nI v) q' = N q' := fun q' hq => by unfold upd; rw [if_neg hq]
  refine ⟨by rw [nn 1 (by omega)]; exact g1, fun s hs => GS_u (by omega) (g2 s hs), fun c' hc' => ?_, by rw [nn 3 (by omega)]; exact g4, by rw [nn 6 (by omega)]; exact g5, fun t ht => GT_u (by omega) (g6 t ht)⟩
  by_cases e : c' = c
  · subst e
    have : upd N (7 + c') (nI v) (7 + c') = nI v := by unfold upd; rw [if_pos rfl]
    unfold hd
    rw [this, nI_cl (by omega)]
    exact ⟨rfl, hv⟩
  · unfold hd; rw [nn _ (by omega)]; exact g3 c' hc'
/-- a number of a saying: j 0 kind, 1 wit, 2 dust, 3 corner, 4 turned -/
theorem G.say {j : Nat} (g : G N n m) (hs : s < n) (hj : j < 5) (hv : (j = 0 ∧ ∃ v, v < 6 ∧ x = nI v) ∨ (j = 1 ∧ ∃ v, v < 100 ∧ x = nI v) ∨ (j = 2 ∧ ∃ v, v < 100 ∧ x = nI v) ∨ (j = 3 ∧ ∃ v, v < 6 ∧ x = nI v) ∨ j = 4) : G (upd N (13 + 5 * s + j) x) n m := by
  obtain ⟨g1, g2, g3, g4, g5, g6⟩ := g
  have hn := g1.2
  have nn : ∀ q', q' ≠ 13 + 5 * s + j → upd N (13 + 5 * s + j) x q' = N q' := fun q' hq => by unfold upd; rw [if_neg hq]
  have nu : ∀ i, i = 13 + 5 * s + j → upd N (13 + 5 * s + j) x i = x := fun i hi => by unfold upd; rw [if_pos hi]
  refine ⟨by rw [nn 1 (by omega)]; exact g1, fun s' hs' => ?_, fun c hc => ?_, by rw [nn 3 (by omega)]; exact g4, by rw [nn 6 (by omega)]; exact g5, fun t ht => GT_u (by omega) (g6 t ht)⟩
  · by_cases e : s' = s
    · subst e
      obtain ⟨q1, q2, q3, q4⟩ := g2 s' hs'
      unfold GS kd wt ds co
      rcases hv with ⟨rfl, v, v1, rfl⟩ | ⟨rfl, v, v1, rfl⟩ | ⟨rfl, v, v1, rfl⟩ | ⟨rfl, v, v1, rfl⟩ | rfl
      · rw [nu _ (by omega), nn (14 + 5 * s') (by omega), nn (15 + 5 * s') (by omega), nn (16 + 5 * s') (by omega), nI_cl (by omega)]
        exact ⟨⟨rfl, v1⟩, q2, q3, q4⟩
      · rw [nn (13 + 5 * s') (by omega), nu (14 + 5 * s') (by omega), nn (15 + 5 * s') (by omega), nn (16 + 5 * s') (by omega), nI_cl (by omega)]
        exact ⟨q1, ⟨rfl, v1⟩, q3, q4⟩
      · rw [nn (13 + 5 * s') (by omega), nn (14 + 5 * s') (by omega), nu (15 + 5 * s') (by omega), nn (16 + 5 * s') (by omega), nI_cl (by omega)]
        exact ⟨q1, q2, ⟨rfl, v1⟩, q4⟩
      · rw [nn (13 + 5 * s') (by omega), nn (14 + 5 * s') (by omega), nn (15 + 5 * s') (by omega), nu (16 + 5 * s') (by omega), nI_cl (by omega)]
        exact ⟨q1, q2, q3, ⟨rfl, v1⟩⟩
      · rw [nn (13 + 5 * s') (by omega), nn (14 + 5 * s') (by omega), nn (15 + 5 * s') (by omega), nn (16 + 5 * s') (by omega)]
        exact ⟨q1, q2, q3, q4⟩
    · exact GS_u (by omega) (g2 s' hs')
  · unfold hd; rw [nn _ (by omega)]; exact g3 c hc
end
