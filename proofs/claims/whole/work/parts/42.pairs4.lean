section
variable {E : ab_E} {d : Nat} {μ μ' : ab_M} {r n m : Nat} {N M : Nat → Int32} {a b c : Int32}
theorem SC.f2 (h : SC μ) (h1 : μ' 46 1 = μ 46 1) (h2 : μ' 76 6 = μ 76 6) (h3 : μ' 47 = μ 47) (h4 : μ' 81 = μ 81) : SC μ' := by
  unfold SC; rw [h1, h2, h3, h4]; exact h
theorem SF.f2 (h : SF μ) (h1 : μ' 0 10 = μ 0 10) (h2 : μ' 76 32 = μ 76 32) (h3 : μ' 74 = μ 74) (h4 : μ' 97 = μ 97) : SF μ' := by
  unfold SF; rw [h1, h2, h3, h4]; exact h
theorem SK.f2 (h : SK μ) (h1 : μ' 82 = μ 82) (h2 : μ' 83 = μ 83) : SK μ' := by
  unfold SK; rw [h1, h2]; exact h
theorem SD.f2 (h : SD μ) (f : ∀ a, ((50 ≤ a ∧ a < 58) ∨ (89 ≤ a ∧ a ≤ 91)) → μ' a = μ a) : SD μ' := fun q hq => (h q hq).fr fun a ha => f a (by omega)
theorem SE.f2 (h : SE μ) (f : ∀ a, ((59 ≤ a ∧ a < 74) ∨ (92 ≤ a ∧ a ≤ 95)) → μ' a = μ a) : SE μ' := fun i hi => (h i hi).fr fun a ha => f a (by omega)
theorem SB.f2 (h : SB μ m) (h1 : μ' 0 9 = μ 0 9) (h2 : μ' 76 3 = μ 76 3) (f : ∀ a, ((2 ≤ a ∧ a < 20) ∨ (30 ≤ a ∧ a < 38) ∨ a = 78) → μ' a = μ a) : SB μ' m := by
  unfold SB
  rw [h1, h2, f 78 (by omega)]
  rcases h with h | ⟨h1, h2, n', m', e', h3, h4, h5, h6⟩
  · exact Or.inl h
  · exact Or.inr ⟨h1, h2, n', m', e', h3, h4, h5.same isR30 h4.2.2.2.2.1.2 (fun a ha => f a (by omega)), h6⟩
theorem mx_h (h : hiE N M) : mx N M = N := by
  funext k
  unfold mx
  by_cases e : k < 1435
  · rw [if_pos e]
  · rw [if_neg e]; exact h k (by omega)
theorem p_keep : PR (X6_keep E (d + 100)) (X7_keep E (d + 100)) := by
  intro μ s
  obtain ⟨n, m, e, sa, h4, so⟩ := id s
  obtain ⟨g, h, h2, h3⟩ := id sa
  have hm := g.2.2.2.2.1.2
  obtain ⟨μ1, e1, e2, e3⟩ := kX2_become (E := E) (d := d + 99) isR30 isR22 (by decide) h g
  have hX : X6_keep E (d + 100) μ = _ := X6_keep_q
  rw [e1, ab_cV_s, za_up_a (by decide), e3 22 (by omega), h.1.1] at hX
  have hY : X7_keep E (d + 100) (ab_up μ1 0 9 1) = _ := X7_keep_q
  rw [kX7_copyAll ⟨by decide, s_77⟩ ⟨by decide, s_78⟩ (by decide), ab_cV_s, za_up_a (by decide), ab_upA_n (by decide), za_up_a (by decide), za_up_a (by decide), e3 77 (by omega), e3 78 (by omega), mx_h h4] at hY
  refine ⟨_, _, _, hX, hY, n, m, e, ?_, ?_, ?_⟩
  · refine sa.fr fun a ha => ?_
    rw [za_up_a (by omega), ab_upA_n (by omega), za_up_a (by omega), e3 a (by omega)]
  · rw [za_up_a (by decide), za_up_a (by decide), ab_upA_s, ab_upA_n (by decide), za_up_a (by decide), e3 77 (by omega)]; exact .r
  · obtain ⟨s1, s2, s3, s4, s5, s6⟩ := so
    have f : ∀ a, a ≠ 0 → a ≠ 76 → a ≠ 78 → ¬ (30 ≤ a ∧ a < 38) → ab_up (ab_upA (ab_up μ1 0 9 1) 78 (μ 77)) 76 3 1 a = μ a := fun a h0 h76 h78 h30 => by
      rw [za_up_a h76, ab_upA_n h78, za_up_a h0, e3 a (by omega)]
    have f0 : ∀ j, j ≠ 9 → ab_up (ab_upA (ab_up μ1 0 9 1) 78 (μ 77)) 76 3 1 0 j = μ 0 j := fun j hj => by
      rw [za_up_a (by decide), ab_upA_n (by decide), za_up_j hj, e3 0 (by omega)]
    have f76 : ∀ j, j ≠ 3 → ab_up (ab_upA (ab_up μ1 0 9 1) 78 (μ 77)) 76 3 1 76 j = μ 76 j := fun j hj => by
      rw [za_up_j hj, ab_upA_n (by decide), za_up_a (by decide), e3 76 (by omega)]
    refine ⟨Or.inr ⟨?_, za_up_s, n, m, e, Nat.le_refl _, ?_⟩, s2.f2 ?_ (f76 6 (by decide)) (f 47 (by decide) (by decide) (by decide) (by decide)) (f 81 (by decide) (by decide) (by decide) (by decide)), s3.f2 fun a ha => f a (by omega) (by omega) (by omega) (by omega), s4.f2 fun a ha => f a (by omega) (by omega) (by omega) (by omega), s5.f2 (f0 10 (by decide)) (f76 32 (by decide)) (f 74 (by decide) (by decide) (by decide) (by decide)) (f 97 (by decide) (by decide) (by decide) (by decide)), s6.f2 (f 82 (by decide) (by decide) (by decide) (by decide)) (f 83 (by decide) (by decide) (by decide) (by decide))⟩
    · rw [za_up_a (by decide), ab_upA_n (by decide), za_up_s]
    · rw [za_up_a (show (78 : Nat) ≠ 76 by decide), ab_upA_s]
      exact ⟨g, e2.same isR30 hm fun a ha => by rw [za_up_a (by omega), ab_upA_n (by omega), za_up_a (by omega)], h2, h3⟩
    · rw [f 46 (by decide) (by decide) (by decide) (by decide)]
theorem p_back : PR (X6_back E (d + 100)) (X7_back E (d + 100)) := by
  intro μ s
  obtain ⟨n, m, e, sa, h4, so⟩ := id s
  have hX : X6_back E (d + 100) μ = _ := X6_back_q
  rcases so.1 with ⟨i1, i2⟩ | ⟨i1, i2, n', m', e', i3, i4, i5, i6, i7⟩
  · have hY : X7_back E (d + 100) μ = _ := X7_back_q
    rw [if_neg (fun q => q i1)] at hX
    rw [if_neg (fun q => q i2)] at hY
    exact ⟨_, _, _, hX, hY, s⟩
  · have hm := i4.2.2.2.2.1.2
    obtain ⟨μ1, e1, e2, e3⟩ := kX2_become (E := E) (d := d + 99) isR22 isR30 (by decide) i5 i4
    rw [if_pos (by rw [i1]; decide), e1, ab_cV_s, e2.1.1] at hX
    have hY : X7_back E (d + 100) μ1 = _ := X7_back_q
    rw [e3 76 (by omega), if_pos (by rw [i2]; decide), kX7_copyAll ⟨by decide, s_78⟩ ⟨by decide, s_77⟩ (by decide), ab_cV_s, ab_upA_s, e3 77 (by omega), e3 78 (by omega), mx_h h4.s] at hY
    refine ⟨_, _, _, hX, hY, n', m', e', ⟨?_, ?_, ?_, i7⟩, ?_, ?_⟩
    · rw [ab_upA_s]; exact i4
    · rw [ab_upA_s]; exact e2.same isR22 hm fun a ha => ab_upA_n (by omega)
    · rw [ab_upA_s]; exact i6
    · rw [ab_upA_s, ab_upA_n (by decide), e3 78 (by omega)]; exact .r
    · have f : ∀ a, kp a → ab_upA μ1 77 (μ 78) a = μ a := fun a ha => by unfold kp at ha; rw [ab_upA_n (by omega), e3 a (by omega)]
      have so' := so.fr f
      refine ⟨Or.inr ⟨?_, ?_, n', m', e', Nat.le_refl _, ?_⟩, so'.2⟩
      · rw [f 0 (by unfold kp; omega)]; exact i1
      · rw [f 76 (by unfold kp; omega)]; exact i2
      · rw [f 78 (by unfold kp; omega)]
        exact ⟨i4, i5.same isR30 hm fun a ha => f a (by unfold kp; omega), i6, i7⟩
theorem p_tell : PR (X6_tell E (d + 100) a) (X7_tell E (d + 100) a) := by
  intro μ s
  obtain ⟨n, m, e, sa, h4, so⟩ := id s
  obtain ⟨s1, s2, s3, s4, ⟨w, w0, w1, w2, w3⟩, s6⟩ := so
  have hX : X6_tell E (d + 100) a μ = _ := X6_tell_q
  rw [w1] at hX
  by_cases hw : w < 60
  · rw [if_pos (show nI w < (60 : Int32) from nI_lt (b := 60) hw (by decide)), if_pos (za_in hw (by decide)), za_up_s, za_up_a (by decide), w1, za_cl (by omega), za_1] at hX
    have hY : X7_tell E (d + 100) a (ab_up (ab_up μ 74 w a) 0 10 (nI (w + 1))) = _ := X7_tell_q
    have hne : ¬ nI w = (60 : Int32) := fun q => by have := (nI_eq (b := 60) (by omega) (by decide)).mp q; omega
    rw [za_up_a (show (76 : Nat) ≠ 0 by decide), za_up_a (show (76 : Nat) ≠ 74 by decide), w2, if_pos hne, if_pos (za_in hw (by decide)), za_up_s, za_up_a (show (76 : Nat) ≠ 97 by decide), za_up_a (show (76 : Nat) ≠ 0 by decide), za_up_a (show (76 : Nat) ≠ 74 by decide), w2, za_cl (by omega), za_1] at hY
    refine ⟨_, _, _, hX, hY, n, m, e, ?_, ?_, ?_⟩
    · refine sa.fr fun a ha => ?_
      rw [za_up_a (by omega), za_up_a (by omega), za_up_a (by omega), za_up_a (by omega)]
    · rw [za_up_a (by decide), za_up_a (by decide), za_up_a (by decide), za_up_a (by decide), za_up_a (by decide), za_up_a (by decide), za_up_a (by decide), za_up_a (by decide)]; exact h4
    · generalize hq : ab_up (ab_up (ab_up (ab_up μ 74 w a) 0 10 (nI (w + 1))) 97 w a) 76 32 (nI (w + 1)) = μ'
      have f : ∀ a, a ≠ 0 → a ≠ 76 → a ≠ 74 → a ≠ 97 → μ' a = μ a := fun a h0 h76 h78 h30 => by
        rw [← hq, za_up_a h76, za_up_a h30, za_up_a h0, za_up_a h78]
      have f0 : ∀ j, j ≠ 10 → μ' 0 j = μ 0 j := fun j hj => by
        rw [← hq, za_up_a (by decide), za_up_a (by decide), za_up_j hj, za_up_a (by decide)]
      have f76 : ∀ j, j ≠ 32 → μ' 76 j = μ 76 j := fun j hj => by
        rw [← hq, za_up_j hj, za_up_a (by decide), za_up_a (by decide), za_up_a (by decide)]
      refine ⟨s1.f2 (f0 9 (by decide)) (f76 3 (by decide)) fun a ha => f a (by omega) (by omega) (by omega) (by omega), s2.f2 (by rw [f 46 (by decide) (by decide) (by decide) (by decide)]) (f76 6 (by decide)) (f 47 (by decide) (by decide) (by decide) (by decide)) (f 81 (by decide) (by decide) (by decide) (by decide)), s3.f2 fun a ha => f a (by omega) (by omega) (by omega) (by omega), s4.f2 fun a ha => f a (by omega) (by omega) (by omega) (by omega), ⟨w + 1, by omega, ?_, ?_, fun k hk => ?_⟩, s6.f2 (f 82 (by decide) (by decide) (by decide) (by decide)) (f 83 (by decide) (by decide) (by decide) (by decide))⟩
      · rw [← hq, za_up_a (by decide), za_up_a (by decide), za_up_s]
      · rw [← hq, za_up_s]
      · rw [← hq, za_up_a (show (74 : Nat) ≠ 76 by decide), za_up_a (show (74 : Nat) ≠ 97 by decide), za_up_a (show (74 : Nat) ≠ 0 by decide), za_up_a (show (97 : Nat) ≠ 76 by decide)]
        by_cases ek : k = w
        · subst ek; rw [za_up_s, za_up_s]
        · rw [za_up_j ek, za_up_j ek, za_up_a (show (97 : Nat) ≠ 0 by decide), za_up_a (show (97 : Nat) ≠ 74 by decide)]
          exact w3 k (by omega)
  · have hY : X7_tell E (d + 100) a μ = _ := X7_tell_q
    rw [if_neg (show ¬ nI w < (60 : Int32) from za_lt.mpr (nI_le (a := 60) (by omega) (by omega)))] at hX
    rw [w2, if_neg (show ¬ ¬ nI w = (60 : Int32) from fun q => q (by rw [show w = 60 by omega]; rfl))] at hY
    exact ⟨_, _, _, hX, hY, s⟩
theorem p_trim : PR (X6_trim E (d + 100) a) (X7_trim E (d + 100) a) := by
  intro μ s
  obtain ⟨n, m, e, sa, h4, so⟩ := id s
  obtain ⟨s1, ⟨z, z0, z1, z2, z3⟩, s3, s4, s5, s6⟩ := so
  have hX : X6_trim E (d + 100) a μ = _ := X6_trim_q
  rw [kX6_isWithin, ab_cI_s, z1] at hX
  by_cases ha : 0 ≤ a ∧ a ≤ nI z
  · obtain ⟨v, hv, rfl⟩ := (za_rng (by omega)).mp ha
    rw [zb_t ha, if_pos (by decide)] at hX
    have hY : X7_trim E (d + 100) (nI v) (ab_up μ 46 1 (nI v)) = _ := X7_trim_q
    rw [kX7_in, ab_cI_s, za_up_a (by decide), z2, zb_t ha, if_pos (by decide)] at hY
    refine ⟨_, _, _, hX, hY, n, m, e, ?_, ?_, ?_⟩
    · refine sa.fr fun a ha => ?_
      rw [za_up_a (by omega), za_up_a (by omega)]
    · rw [za_up_a (by decide), za_up_a (by decide), za_up_a (by decide), za_up_a (by decide)]; exact h4
    · have f : ∀ a, a ≠ 46 → a ≠ 76 → ab_up (ab_up μ 46 1 (nI v)) 76 6 (nI v) a = μ a := fun a h0 h76 => by
        rw [za_up_a h76, za_up_a h0]
      have f76 : ∀ j, j ≠ 6 → ab_up (ab_up μ 46 1 (nI v)) 76 6 (nI v) 76 j = μ 76 j := fun j hj => by
        rw [za_up_j hj, za_up_a (by decide)]
      refine ⟨s1.f2 (by rw [f 0 (by decide) (by decide)]) (f76 3 (by decide)) fun a ha => f a (by omega) (by omega), ⟨v, by omega, ?_, za_up_s, fun k hk => ?_⟩, s3.f2 fun a ha => f a (by omega) (by omega), s4.f2 fun a ha => f a (by omega) (by omega), s5.f2 (by rw [f 0 (by decide) (by decide)]) (f76 32 (by decide)) (f 74 (by decide) (by decide)) (f 97 (by decide) (by decide)), s6.f2 (f 82 (by decide) (by decide)) (f 83 (by decide) (by decide))⟩
      · rw [za_up_a (by decide), za_up_s]
      · rw [f 47 (by decide) (by decide), f 81 (by decide) (by decide)]
        exact z3 k (by omega)
  · have hY : X7_trim E (d + 100) a μ = _ := X7_trim_q
    rw [zb_f ha, if_neg (by decide)] at hX
    rw [kX7_in, ab_cI_s, z2, zb_f ha, if_neg (by decide)] at hY
    exact ⟨_, _, _, hX, hY, s⟩
/-! evenings -/
theorem maN_2 (g : G N n m) : maN N n 2 = N 2 := by
  unfold maN
  cases hs : mdN N n (N 2 - N 2 / 6 * 6) with
  | none => rfl
  | some s =>
    have := mdN_lt hs
    have := g.n10
    exact goN_2 (by omega)
theorem duN_2 : ∀ j i {N : Nat → Int32}, duN n m j i N 2 = N 2
  | 0, _, _ => rfl
  | j + 1, i, N => by
    show duN n m j (i + 1) (sd N n m i) 2 = _
    rw [duN_2 j (i + 1)]; unfold sd; rw [upd_n (by omega)]
theorem heN_2 : ∀ j i {N : Nat → Int32}, heN n j i N 2 = N 2
  | 0, _, _ => rfl
  | j + 1, i, N => by
    show heN n j (i + 1) (hh N n i) 2 = _
    rw [heN_2 j (i + 1)]; unfold hh; rw [upd_n (by omega)]
theorem kkN_2 : kkN N n 2 = N 2 := by
  unfold kkN
  split
  · rw [upd_n (by omega)]
  · split
    · rw [upd_n (by omega), upd_n (by omega), upd_n (by omega), upd_n (by omega)]
    · rw [upd_n (by omega)]
theorem evN_2 (g : G N n m) : evN N n m 2 = N 2 + 1 := by
  unfold evN
  rw [upd_s, kkN_2, heN_2, duN_2, maN_2 g]
theorem kX6_ev_l {v : Nat} (hv : v < 2 ^ 31) {w : Int32} : ∀ j i μ N e, i + j = v → RC μ 22 N n m → G N n m → N 2 = nI e → e ≤ 9999 → ∃ μ', X6_evenings_23 E (d + 7) (nI v) w (nI i) μ = some (some (.int (evs n m (min (9999 - e) j) N 4 - w)), μ') ∧ RC μ' 22 (evs n m (min (9999 - e) j) N) n m ∧ evs n m (min (9999 - e) j) N 2 = nI (e + min (9999 - e) j) ∧ ∀ a, ¬ (22 ≤ a ∧ a < 30) → a ≠ 20 → a ≠ 21 → μ' a = μ a
  | 0, i, μ, N, e, ei, h, g, he, h9 => by
    rw [X6_evenings_23_q, if_pos (nI_le (by omega) (by omega)), Nat.min_zero, h.1.2.2.2.1]
    exact ⟨μ, rfl, h, he, fun _ _ _ _ => rfl⟩
  | j + 1, i, μ, N, e, ei, h, g, he, h9 => by
    rw [X6_evenings_23_q, if_neg (nI_ge (by omega) (by omega)), h.1.2.2.2.2.2.1, he]
    by_cases e9 : e = 9999
    · rw [if_pos (show (9999 : Int32) ≤ nI e by rw [e9]; decide), show min (9999 - e) (j + 1) = 0 by omega, h.1.2.2.2.1]
      exact ⟨μ, rfl, h, he, fun _ _ _ _ => rfl⟩
    · obtain ⟨μ1, e1, e2, e3⟩ := kX2_passEvening (E := E) (d := d) isR22 h g
      rw [if_neg (show ¬ (9999 : Int32) ≤ nI e from nI_ge (b := 9999) (by omega) (by decide)), e1, ab_cV_s, za_1]
      obtain ⟨μ', q1, q2, q3, q4⟩ := kX6_ev_l hv j (i + 1) μ1 (evN N n m) (e + 1) (by omega) e2 g.ev (by rw [evN_2 g, he, za_1]) (by omega)
      have e5 : evs n m (min (9999 - e) (j + 1)) N = evs n m (min (9999 - (e + 1)) j) (evN N n m) := by
        rw [show min (9999 - e) (j + 1) = min (9999 - (e + 1)) j + 1 by omega]; rfl
      rw [e5, show e + min (9999 - e) (j + 1) = e + 1 + min (9999 - (e + 1)) j by omega]
      exact ⟨μ', q1, q2, q3, fun a ha h20 h21 => by rw [q4 a ha h20 h21, e3 a ha h20 h21]⟩
theorem kX7_wi {x y : Nat} (hx : x ≤ 9999) (hy : y < 2 ^ 31) : X7_within E d (9999 - nI x) 0 (nI y) μ = some (some (.int (nI (min (9999 - x) y))), μ) := by
  rw [show (9999 : Int32) - nI x = nI (9999 - x) from za_sub (x := 9999) hx, X7_within_q, if_pos (nI_pos' (by omega))]
  by_cases h : 9999 - x ≤ y
  · rw [if_pos (nI_le h hy), show min (9999 - x) y = 9999 - x by omega]
  · rw [if_neg (nI_ge (by omega) (by omega)), show min (9999 - x) y = y by omega]
theorem za_1k {a : Int32} {k : Nat} (hk : k < 2 ^ 31) : (1 ≤ a ∧ a ≤ nI k) ↔ ∃ s, 1 ≤ s ∧ s ≤ k ∧ a = nI s := by
  constructor
  · rintro ⟨h0, h1⟩
    have h00 : (0 : Int32) ≤ a := by
      rw [Int32.le_iff_toInt_le] at h0 ⊢
      have : (0 : Int32).toInt = 0 := by decide
      have : (1 : Int32).toInt = 1 := by decide
      omega
    obtain ⟨s, hs, rfl⟩ := (za_rng hk).mp ⟨h00, h1⟩
    exact ⟨s, (nI_leI (a := 1) (by decide) (by omega)).mp h0, hs, rfl⟩
  · rintro ⟨s, h1, hs, rfl⟩
    exact ⟨nI_le (a := 1) h1 (by omega), nI_le hs hk⟩
theorem p_evenings : PR (X6_evenings E (d + 100) a) (X7_evenings E (d + 100) a) := by
  intro μ s
  obtain ⟨n, m, e, sa, h4, so⟩ := id s
  obtain ⟨g, h, h2, h3⟩ := id sa
  have hm := g.2.2.2.2.1.2
  have hX : X6_evenings E (d + 100) a μ = _ := X6_evenings_q
  rw [kX6_isWithin, ab_cI_s] at hX
  by_cases ha : 1 ≤ a ∧ a ≤ 100
  · obtain ⟨v, hv0, hv, rfl⟩ := (za_1k (k := 100) (by decide)).mp ha
    obtain ⟨μ1, e1, e2, e3, e4⟩ := kX6_ev_l (E := E) (d := d + 93) (v := v) (w := μ 22 11) (by omega) v 0 μ (μ 77) e (by omega) h g h2 h3
    rw [zb_t ha, if_pos (by decide)] at hX
    have hX2 := hX.trans e1
    rw [h.1.2.2.2.1] at hX2
    have hN1 : μ1 77 = μ 77 := e4 77 (by omega) (by omega) (by omega)
    have hY : X7_evenings E (d + 100) (nI v) μ1 = _ := X7_evenings_q
    obtain ⟨μ2, f1, f2, f3⟩ := kX7_goesOn (E := E) (d := d + 94) (v := min (9999 - e) v) (by omega) hN1 g
    rw [kX7_in, ab_cI_s, zb_t ha, if_pos (by decide), hN1, h2, kX7_wi h3 (by omega), ab_cI_s, f1, ab_cV_s, f2] at hY
    refine ⟨_, _, _, hX2, hY, ?_⟩
    exact SI.wr (μ := μ) (e' := e + min (9999 - e) v) (e2.same isR22 hm fun a ha => f3 a (by omega) (by omega) (by omega)) f2 (g.evs _) e3 (by omega) (hi_evs _ g) h4 so (fun a ha => by unfold kp at ha; rw [f3 a (by omega) (by omega) (by omega), e4 a (by omega) (by omega) (by omega)])
  · have hY : X7_evenings E (d + 100) a μ = _ := X7_evenings_q
    rw [zb_f ha, if_neg (by decide)] at hX
    rw [kX7_in, ab_cI_s, zb_f ha, if_neg (by decide)] at hY
    exact ⟨_, _, _, hX, hY, s⟩
end
