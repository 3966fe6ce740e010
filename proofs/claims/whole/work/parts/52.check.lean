/-! check -/
noncomputable def chR (n m : Nat) (T : Nat → Int32) (w : Nat) : Nat → Nat → (Nat → Int32) → Int32
  | 0, k, _ => if 2 * k = w then 0 else nI (1 + 2 * k)
  | j + 1, k, M => if w ≤ 2 * k then nI (1 + 2 * k) else if T (2 * k) = evN M n m 4 then (if w ≤ 2 * k + 1 then nI (1 + (2 * k + 1)) else if T (2 * k + 1) = zJ (fun s => evN M n m (15 + 5 * s)) n then chR n m T w j (k + 1) (evN M n m) else nI (1 + (2 * k + 1))) else nI (1 + 2 * k)
section
variable {E : ab_E} {d : Nat} {μ μ' μ'' : ab_M} {r n m : Nat} {N M A P T : Nat → Int32} {a b c : Int32}
theorem za_1p (i : Nat) : (1 : Int32) + nI i = nI (1 + i) := nI_add 1 i
theorem za_2 (i : Nat) : (2 : Int32) * nI i = nI (2 * i) := pk_mul 2 i
theorem SI.w0 (s : SI μ) (f : ∀ a, (kp a ∨ (22 ≤ a ∧ a < 30) ∨ a = 77) → a ≠ 0 → a ≠ 76 → μ' a = μ a) (f0 : ∀ j, j ≠ 10 → μ' 0 j = μ 0 j) (f76 : ∀ j, j ≠ 32 → μ' 76 j = μ 76 j) (h0 : μ' 0 10 = 0) (h1 : μ' 76 32 = 0) : SI μ' := by
  obtain ⟨n, m, e, sa, h4, s1, s2, s3, s4, s5, s6⟩ := s
  have f' : ∀ a, kp a → a ≠ 0 → a ≠ 76 → μ' a = μ a := fun a h => f a (Or.inl h)
  unfold kp at f'
  refine ⟨n, m, e, sa.fr fun a ha => f a (by unfold kp; omega) (by omega) (by omega), by rw [f 77 (by omega) (by omega) (by omega), f' 78 (by omega) (by omega) (by omega)]; exact h4, s1.f2 (f0 9 (by decide)) (f76 3 (by decide)) fun a ha => f' a (by omega) (by omega) (by omega), s2.f2 (by rw [f' 46 (by omega) (by omega) (by omega)]) (f76 6 (by decide)) (f' 47 (by omega) (by omega) (by omega)) (f' 81 (by omega) (by omega) (by omega)), s3.f2 fun a ha => f' a (by omega) (by omega) (by omega), s4.f2 fun a ha => f' a (by omega) (by omega) (by omega), ⟨0, by omega, h0, h1, fun k hk => by omega⟩, s6.f2 (f' 82 (by omega) (by omega) (by omega)) (f' 83 (by omega) (by omega) (by omega))⟩
theorem kX6_check_l {v w : Nat} (hv : v ≤ 30) (hw : w ≤ 60) : ∀ j k μ M e, j = min (9999 - e) (v - k) → k ≤ v → e ≤ 9999 → M 2 = nI e → RC μ 38 M n m → G M n m → (∀ t, t < w → μ 74 t = T t) → ∃ μ', X6_check_50 E (d + 7) (nI v) (nI w) (nI (2 * k)) (nI k) μ = some (some (.int (chR n m T w j k M)), μ') ∧ CF μ μ'
  | 0, k, μ, M, e, hj, hk, he, h2, h, g, hT => by
    have fin : (if ¬ nI (2 * k) = nI w then some (some (Value.int (1 + nI (2 * k))), μ) else some (some (Value.int 0), μ)) = some (some (Value.int (chR n m T w 0 k M)), μ) := by
      unfold chR
      by_cases hq : 2 * k = w
      · rw [if_neg (fun q => q (by rw [hq])), if_pos hq]
      · rw [if_pos (fun q => hq ((nI_eq (by omega) (by omega)).mp q)), if_neg hq, za_1p]
    rw [X6_check_50_q]
    by_cases hvk : v ≤ k
    · rw [if_pos (nI_le hvk (by omega))]
      exact ⟨μ, fin, CF.rf⟩
    · rw [if_neg (nI_ge (by omega) (by omega)), h.1.2.2.2.2.2.1, h2, if_pos (show (9999 : Int32) ≤ nI e from nI_le (a := 9999) (by omega) (by omega))]
      exact ⟨μ, fin, CF.rf⟩
  | j + 1, k, μ, M, e, hj, hk, he, h2, h, g, hT => by
    obtain ⟨μ1, e1, e2, e3⟩ := cEv (E := E) (d := d) h g
    rw [X6_check_50_q, if_neg (nI_ge (by omega) (by omega)), h.1.2.2.2.2.2.1, h2, if_neg (show ¬ (9999 : Int32) ≤ nI e from nI_ge (b := 9999) (by omega) (by decide)), e1, ab_cV_s, e2.1.2.2.2.1, za_1, za_1, kX2_allDust isR38 e2 g.ev, ab_cI_s, za_1p, za_1p, e3 74 (by omega) (by omega) (by omega) (by omega)]
    simp only [za_cl (show 2 * k < 2 ^ 31 by omega), za_cl (show 2 * k + 1 < 2 ^ 31 by omega)]
    unfold chR
    by_cases c1 : w ≤ 2 * k
    · rw [if_pos (nI_le c1 (by omega)), if_pos c1]
      exact ⟨μ1, rfl, e3⟩
    · rw [if_neg (nI_ge (by omega) (by omega)), if_neg c1, if_pos (za_in (show 2 * k < 60 by omega) (by decide)), hT _ (by omega)]
      by_cases c2 : T (2 * k) = evN M n m 4
      · rw [if_pos c2, if_pos c2]
        by_cases c3 : w ≤ 2 * k + 1
        · rw [if_pos (nI_le c3 (by omega)), if_pos c3]
          exact ⟨μ1, rfl, e3⟩
        · rw [if_neg (nI_ge (by omega) (by omega)), if_neg c3, if_pos (za_in (show 2 * k + 1 < 60 by omega) (by decide)), hT _ (by omega)]
          by_cases c4 : T (2 * k + 1) = zJ (fun s => evN M n m (15 + 5 * s)) n
          · rw [if_pos c4, if_pos c4, za_1]
            obtain ⟨μ2, q1, q2⟩ := kX6_check_l hv hw j (k + 1) μ1 (evN M n m) (e + 1) (by omega) (by omega) (by omega) (by rw [evN_2 g, h2, za_1]) e2 g.ev (fun t ht => by rw [e3 74 (by omega) (by omega) (by omega) (by omega)]; exact hT t ht)
            exact ⟨μ2, q1, e3.t q2⟩
          · rw [if_neg c4, if_neg c4]
            exact ⟨μ1, rfl, e3⟩
      · rw [if_neg c2, if_neg c2]
        exact ⟨μ1, rfl, e3⟩
theorem rBk2 (h79 : μ 79 = mx N A) (h : hiE N (μ 77)) : ∃ μ1, X7_copyAll E d 79 77 μ = some (none, μ1) ∧ μ1 77 = N ∧ RF μ μ1 := by
  refine ⟨_, kX7_copyAll ⟨by decide, s_79⟩ ⟨by decide, s_77⟩ (by decide), ?_, fun a h1 h2 _ _ _ => ab_upA_n h1⟩
  rw [ab_upA_s, h79, mx_b h]
theorem chS {w J q k : Nat} {o : Option Value} (hq : q < 2 * k) (hJ : q < 2 * J) (hJ2 : J < 1000) (hk : k < 1000) (h79 : μ 79 = mx N A) (h : hiE N (μ 77)) : ∃ μ1, X7_check_80 E (d + 1) o (nI w) (nI (2 * J)) (nI q) (nI k) μ = some (some (.int (nI (1 + q))), μ1) ∧ μ1 77 = N ∧ RF μ μ1 := by
  obtain ⟨μ1, e1, e2, e3⟩ := rBk2 (E := E) (d := d) h79 h
  have fin : (if ¬ nI q = nI w then some (some (Value.int (1 + nI q)), μ1) else if ¬ nI q = nI (2 * J) then some (some (Value.int (1 + nI q)), μ1) else some (some (Value.int 0), μ1)) = some (some (Value.int (nI (1 + q))), μ1) := by
    rw [if_pos (show ¬ nI q = nI (2 * J) from fun w => by have := (nI_eq (by omega) (by omega)).mp w; omega), ite_self, za_1p]
  refine ⟨μ1, ?_, e2, e3⟩
  rw [X7_check_80_q, za_2, e1, ab_cV_s, if_pos (show ¬ nI q = nI (2 * k) from fun w => by have := (nI_eq (by omega) (by omega)).mp w; omega), ite_self]
  exact fin
theorem kX7_check_l {w J : Nat} {o : Option Value} (hw : w ≤ 60) (hJ : J ≤ 30) : ∀ j k μ M, k + j = J → μ 77 = M → μ 79 = mx N A → hiE N M → G M n m → (∀ t, t < w → μ 97 t = T t) → ∃ μ', X7_check_80 E (d + 5) o (nI w) (nI (2 * J)) (nI (2 * k)) (nI k) μ = some (some (.int (chR n m T w j k M)), μ') ∧ μ' 77 = N ∧ RF μ μ'
  | 0, k, μ, M, hj, h77, h79, hh, g, hT => by
    obtain ⟨μ1, e1, e2, e3⟩ := rBk2 (E := E) (d := d + 4) h79 (by rw [h77]; exact hh)
    refine ⟨μ1, ?_, e2, e3⟩
    rw [X7_check_80_q, za_2, if_pos (nI_le (by omega) (by omega)), e1, ab_cV_s]
    unfold chR
    by_cases hq : 2 * k = w
    · rw [if_neg (fun q => q (by rw [hq])), if_neg (fun q => q (by rw [show 2 * k = 2 * J by omega])), if_pos hq]
    · rw [if_pos (fun q => hq ((nI_eq (by omega) (by omega)).mp q)), if_neg hq, za_1p]
  | j + 1, k, μ, M, hj, h77, h79, hh, g, hT => by
    obtain ⟨μ1, e1, e2, e3, e4, e5⟩ := rEv (E := E) (d := d) h77 g
    have hh1 : hiE N (μ1 77) := by rw [e2]; exact hh.t (hi_ev g)
    rw [X7_check_80_q]
    simp only [za_2, za_a0, za_1, za_cl (show 2 * k < 2 ^ 31 by omega), za_cl (show 2 * k + 1 < 2 ^ 31 by omega)]
    rw [if_neg (nI_ge (by omega) (by omega)), if_neg (fun q => q trivial), e1, ab_cV_s, if_pos (show ¬ nI (2 * k) = nI (2 * k + 1) from fun w => by have := (nI_eq (by omega) (by omega)).mp w; omega), e2, if_neg (show ¬ ¬ True from fun q => q trivial), kX7_allDust e2 g.ev, ab_cI_s, e5 97 (by omega) (by omega) (by omega) (by omega) (by omega)]
    unfold chR
    by_cases c1 : w ≤ 2 * k
    · rw [if_pos (nI_le c1 (by omega)), if_pos c1]
      obtain ⟨μ2, q1, q2, q3⟩ := chS (E := E) (d := d + 4) (w := w) (J := J) (q := 2 * k) (k := k + 1) (o := o) (by omega) (by omega) (by omega) (by omega) (e3.trans h79) hh1
      exact ⟨μ2, q1, q2, e5.t q3⟩
    · rw [if_neg (nI_ge (by omega) (by omega)), if_neg c1, if_pos (za_in (show 2 * k < 60 by omega) (by decide)), hT _ (by omega)]
      by_cases c2 : T (2 * k) = evN M n m 4
      · rw [if_neg (fun q => q c2), if_pos c2]
        by_cases c3 : w ≤ 2 * k + 1
        · rw [if_pos (nI_le c3 (by omega)), if_pos c3]
          obtain ⟨μ2, q1, q2, q3⟩ := chS (E := E) (d := d + 4) (w := w) (J := J) (q := 2 * k + 1) (k := k + 1) (o := o) (by omega) (by omega) (by omega) (by omega) (e3.trans h79) hh1
          exact ⟨μ2, q1, q2, e5.t q3⟩
        · rw [if_neg (nI_ge (by omega) (by omega)), if_neg c3, if_pos (za_in (show 2 * k + 1 < 60 by omega) (by decide)), hT _ (by omega)]
          by_cases c4 : T (2 * k + 1) = zJ (fun s => evN M n m (15 + 5 * s)) n
          · rw [if_neg (fun q => q c4), if_pos c4]
            obtain ⟨μ2, q1, q2, q3⟩ := kX7_check_l hw hJ (o := o) j (k + 1) μ1 (evN M n m) (by omega) e2 (e3.trans h79) (hh.t (hi_ev g)) g.ev (fun t ht => by rw [e5 97 (by omega) (by omega) (by omega) (by omega) (by omega)]; exact hT t ht)
            exact ⟨μ2, q1, q2, e5.t q3⟩
          · rw [if_pos c4, if_neg c4]
            obtain ⟨μ2, q1, q2, q3⟩ := chS (E := E) (d := d + 4) (w := w) (J := J) (q := 2 * k + 1) (k := k + 1) (o := o) (by omega) (by omega) (by omega) (by omega) (e3.trans h79) hh1
            exact ⟨μ2, q1, q2, e5.t q3⟩
      · rw [if_pos c2, if_neg c2]
        obtain ⟨μ2, q1, q2, q3⟩ := chS (E := E) (d := d + 4) (w := w) (J := J) (q := 2 * k) (k := k + 1) (o := o) (by omega) (by omega) (by omega) (by omega) (e3.trans h79) hh1
        exact ⟨μ2, q1, q2, e5.t q3⟩
theorem p_check : PR (X6_check E (d + 100) a) (X7_check E (d + 100) a) := by
  intro μ s
  obtain ⟨n, m, e, sa, h4, so⟩ := id s
  obtain ⟨w, w0, w1, w2, w3⟩ := so.2.2.2.2.1
  have hX : X6_check E (d + 100) a μ = _ := X6_check_q
  have i9 : ab_up μ 0 10 0 0 9 = μ 0 9 := za_up_j (by decide)
  have idle : SI (ab_up (ab_up μ 0 10 0) 76 32 0) := s.w0 (fun a _ h1 h2 => by rw [za_up_a h2, za_up_a h1]) (fun j hj => by rw [za_up_a (by decide), za_up_j hj]) (fun j hj => by rw [za_up_j hj, za_up_a (by decide)]) (by rw [za_up_a (by decide), za_up_s]) za_up_s
  rw [kX6_isWithin, ab_cI_s, i9] at hX
  by_cases ha : 1 ≤ a ∧ a ≤ 30
  · rw [zb_t ha, if_pos (by decide)] at hX
    rcases so.1 with ⟨i1, i2⟩ | ⟨i1, i2, n', m', e', i3, i4, i5, i6, i7⟩
    · have hY : X7_check E (d + 100) a (ab_up μ 0 10 0) = _ := X7_check_q
      rw [kX7_in, ab_cI_s, zb_t ha, if_pos (by decide), za_up_j (by decide), za_up_a (by decide), i2, if_neg (fun q => q rfl)] at hY
      rw [i1, if_neg (fun q => q rfl)] at hX
      exact ⟨_, _, _, hX, hY, idle⟩
    · obtain ⟨v, hv0, hv, rfl⟩ := (za_1k (k := 30) (by decide)).mp ha
      have hm := i4.2.2.2.2.1.2
      obtain ⟨μ1, e1, e2, e3⟩ := kX2_become (E := E) (d := d + 99) (μ := ab_up μ 0 10 0) isR38 isR30 (by decide) (i5.same isR30 hm fun a ha => za_up_a (by omega)) i4
      rw [i1, if_pos (by decide), e1, ab_cV_s, w1] at hX
      have f1 : ∀ a, ¬ (38 ≤ a ∧ a < 46) → a ≠ 0 → μ1 a = μ a := fun a h1 h2 => by rw [e3 a (by omega), za_up_a h2]
      obtain ⟨μ2, q1, q2⟩ := kX6_check_l (E := E) (d := d + 93) (T := fun t => μ 74 t) hv w0 (min (9999 - e') v) 0 μ1 (μ 78) e' (by omega) (by omega) i7 i6 e2 i4 (fun t _ => by rw [f1 74 (by omega) (by omega)])
      have f2 : ∀ a, ¬ (38 ≤ a ∧ a < 46) → a ≠ 0 → a ≠ 20 → a ≠ 21 → a ≠ 75 → μ2 a = μ a := fun a h1 h2 h3 h4 h5 => by rw [q2 a h1 h3 h4 h5, f1 a h1 h2]
      have f20 : ∀ j, μ2 0 j = ab_up μ 0 10 0 0 j := fun j => by rw [q2 0 (by omega) (by omega) (by omega) (by omega), e3 0 (by omega)]
      have hY : X7_check E (d + 100) (nI v) μ2 = _ := X7_check_q
      have n78 : ab_upA (ab_up μ2 76 32 0) 79 (mx (ab_up μ2 76 32 0 77) (ab_up μ2 76 32 0 79)) 78 = μ 78 := by rw [ab_upA_n (by decide), za_up_a (by decide), f2 78 (by omega) (by omega) (by omega) (by omega) (by omega)]
      have n77 : ab_upA (ab_up μ2 76 32 0) 79 (mx (ab_up μ2 76 32 0 77) (ab_up μ2 76 32 0 79)) 77 = μ 77 := by rw [ab_upA_n (by decide), za_up_a (by decide), f2 77 (by omega) (by omega) (by omega) (by omega) (by omega)]
      rw [kX7_in, ab_cI_s, zb_t ha, if_pos (by decide), za_up_j (by decide), f2 76 (by omega) (by omega) (by omega) (by omega) (by omega), i2, if_pos (by decide), kX7_copyAll ⟨by decide, s_77⟩ ⟨by decide, s_79⟩ (by decide), ab_cV_s, kX7_copyAll ⟨by decide, s_78⟩ ⟨by decide, s_77⟩ (by decide), ab_cV_s, n78, n77, mx_h h4.s, ab_upA_s, i6, kX7_wi i7 (by omega), ab_cI_s, za_2, w2] at hY
      have f3 : ∀ a, a ≠ 77 → a ≠ 79 → a ≠ 76 → ab_upA (ab_upA (ab_up μ2 76 32 0) 79 (mx (ab_up μ2 76 32 0 77) (ab_up μ2 76 32 0 79))) 77 (μ 78) a = μ2 a := fun a h1 h2 h3 => by rw [ab_upA_n h1, ab_upA_n h2, za_up_a h3]
      obtain ⟨μ3, r1, r2, r3⟩ := kX7_check_l (E := E) (d := d + 95) (n := n') (m := m') (N := μ 77) (A := μ2 79) (T := fun t => μ 74 t) (o := some (.int (nI v))) w0 (show min (9999 - e') v ≤ 30 by omega) (min (9999 - e') v) 0 (ab_upA (ab_upA (ab_up μ2 76 32 0) 79 (mx (ab_up μ2 76 32 0 77) (ab_up μ2 76 32 0 79))) 77 (μ 78)) (μ 78) (by omega) ab_upA_s (by rw [ab_upA_n (by decide), ab_upA_s, za_up_a (by decide), za_up_a (by decide), f2 77 (by omega) (by omega) (by omega) (by omega) (by omega)]) h4 i4 (fun t ht => by rw [f3 97 (by omega) (by omega) (by omega), f2 97 (by omega) (by omega) (by omega) (by omega) (by omega)]; exact (w3 t ht).symm)
      refine ⟨_, _, _, hX.trans q1, hY.trans r1, s.w0 (fun a ha h1 h2 => ?_) (fun j hj => ?_) (fun j hj => ?_) ?_ ?_⟩
      · by_cases h77 : a = 77
        · rw [h77, r2]
        · unfold kp at ha
          rw [r3 a (by omega) (by omega) (by omega) (by omega) (by omega), f3 a (by omega) (by omega) (by omega), f2 a (by omega) (by omega) (by omega) (by omega) (by omega)]
      · rw [r3 0 (by omega) (by omega) (by omega) (by omega) (by omega), f3 0 (by omega) (by omega) (by omega), f20, za_up_j hj]
      · rw [r3 76 (by omega) (by omega) (by omega) (by omega) (by omega), ab_upA_n (by decide), ab_upA_n (by decide), za_up_j hj, f2 76 (by omega) (by omega) (by omega) (by omega) (by omega)]
      · rw [r3 0 (by omega) (by omega) (by omega) (by omega) (by omega), f3 0 (by omega) (by omega) (by omega), f20, za_up_s]
      · rw [r3 76 (by omega) (by omega) (by omega) (by omega) (by omega), ab_upA_n (by decide), ab_upA_n (by decide), za_up_s]
  · have hY : X7_check E (d + 100) a (ab_up μ 0 10 0) = _ := X7_check_q
    rw [zb_f ha, if_neg (by decide)] at hX
    rw [kX7_in, ab_cI_s, zb_f ha, if_neg (by decide)] at hY
    exact ⟨_, _, _, hX, hY, idle⟩
end
