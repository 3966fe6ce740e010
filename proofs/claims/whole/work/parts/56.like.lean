/-! like -/
def aa (x : Int32) : Int32 := if 0 ≤ x then x else -x
theorem aa_n (t : Int32) : aa (-t) = aa t := by
  have l1 := Int32.le_toInt t
  have l2 := Int32.toInt_lt t
  have en : (-t).toInt = (-t.toInt).bmod (2 ^ 32) := Int32.toInt_neg t
  have z0 : (0 : Int32).toInt = 0 := by decide
  unfold aa
  by_cases h1 : 0 ≤ t
  · rw [if_pos h1]
    by_cases h2 : 0 ≤ -t
    · rw [if_pos h2]
      rw [Int32.le_iff_toInt_le, z0] at h1 h2
      rw [Int.bmod_eq_of_le (by omega) (by omega)] at en
      exact Int32.toInt_inj.mp (by rw [en]; omega)
    · rw [if_neg h2, Int32.neg_neg]
  · rw [if_neg h1]
    by_cases h2 : 0 ≤ -t
    · rw [if_pos h2]
    · rw [if_neg h2, Int32.neg_neg]
      rw [Int32.le_iff_toInt_le, z0] at h1 h2
      by_cases h3 : t.toInt = -2 ^ 31
      · rw [h3] at en
        exact Int32.toInt_inj.mp (by rw [en, h3]; decide)
      · rw [Int.bmod_eq_of_le (by omega) (by omega)] at en
        omega
theorem aa_s (x y : Int32) : aa (x - y) = aa (y - x) := by rw [← aa_n, Int32.neg_sub]
noncomputable def lkD (n m : Nat) (P : Nat → Int32) : Nat → Nat → (Nat → Int32) → (Nat → Int32) → Nat → Int32
  | 0, _, _, D => D
  | j + 1, k, M, D => lkD n m P j (k + 1) (evN M n m) (if P k = -1000000005 then D else fun i => D i + aa (M (15 + 5 * i) - P k))
def lkB (D : Nat → Int32) : Nat → Nat → Nat → Nat
  | 0, _, b => b
  | j + 1, i, b => lkB D j (i + 1) (if D b ≤ D i then b else i)
section
variable {E : ab_E} {d : Nat} {μ μ' μ'' : ab_M} {r n m : Nat} {N M A P T D : Nat → Int32} {a b c : Int32}
theorem lkB_lt : ∀ j i b, i + j = n → b < n → lkB D j i b < n
  | 0, _, _, _, h => h
  | j + 1, i, b, e, h => by
    unfold lkB
    apply lkB_lt j (i + 1)
    · omega
    · by_cases c : D b ≤ D i
      · rw [if_pos c]; exact h
      · rw [if_neg c]; omega
theorem kX6_gd2 {q : Nat} {o : Option Value} (hq : ab_isSheet q) (n10 : n ≤ 10) : ∀ j i μ, i + j = n → μ 22 8 = nI n → ∃ μ', X6_gatherDifferences_2 E (d + 1) q (nI i) o μ = ab_cV (X2_become E d 38 22 μ') (fun μ3 => X6_gatherDifferences_39 E (d + 1) q 0 o μ3) ∧ (∀ t, i ≤ t → t < n → μ' 75 t = 0) ∧ (∀ t, t < i → μ' 75 t = μ 75 t) ∧ ∀ a, a ≠ 75 → μ' a = μ a
  | 0, i, μ, e, h => by
    rw [X6_gatherDifferences_2_q hq, h, if_pos (nI_le (by omega) (by omega))]
    exact ⟨μ, rfl, fun t h1 h2 => by omega, fun _ _ => rfl, fun _ _ => rfl⟩
  | j + 1, i, μ, e, h => by
    rw [X6_gatherDifferences_2_q hq, h, if_neg (nI_ge (by omega) (by omega)), if_pos (za_in (show i < 10 by omega) (by decide)), za_cl (by omega), za_1]
    obtain ⟨μ2, e1, e2, e3, e4⟩ := kX6_gd2 hq n10 (o := o) j (i + 1) (ab_up μ 75 i 0) (by omega) (by rw [za_up_a (by decide)]; exact h)
    refine ⟨μ2, e1, fun t h1 h2 => ?_, fun t h1 => ?_, fun a ha => ?_⟩
    · by_cases et : t = i
      · subst et; rw [e3 t (by omega), za_up_s]
      · exact e2 t (by omega) h2
    · rw [e3 t (by omega), za_up_j (by omega)]
    · rw [e4 a ha, za_up_a ha]
theorem kX6_gd49 {i' k : Nat} (hi' : i' < 4) (hk : k < 24) (hp : ¬ P k = -1000000005) (g : G M n m) : ∀ j i μ, i + j = n → μ 22 8 = nI n → μ (51 + 2 * i') k = P k → RC μ 38 M n m → ∃ μ', X6_gatherDifferences_49 E (d + 7) (50 + 2 * i') (nI k) (nI i) μ = X6_gatherDifferences_39 E (d + 7) (50 + 2 * i') (nI (k + 1)) (some (.int (nI n))) μ' ∧ RC μ' 38 (evN M n m) n m ∧ (∀ t, t < n → μ' 75 t = if i ≤ t then μ 75 t + aa (M (15 + 5 * t) - P k) else μ 75 t) ∧ CF μ μ'
  | 0, i, μ, e, h, hP, hR => by
    have n10 := g.n10
    obtain ⟨μ1, e1, e2, e3⟩ := kX2_passEvening (E := E) (d := d) isR38 hR g
    rw [X6_gatherDifferences_49_q (isSh hi'), h, if_pos (nI_le (by omega) (by omega)), e1, ab_cV_s, za_1, show i = n by omega]
    refine ⟨μ1, rfl, e2, fun t ht => ?_, fun a h1 h2 h3 _ => e3 a (by omega) h2 h3⟩
    rw [if_neg (by omega), e3 75 (by omega) (by omega) (by omega)]
  | j + 1, i, μ, e, h, hP, hR => by
    have n10 := g.n10
    have i10 := za_in (show i < 10 by omega) (show 10 < 2 ^ 31 by decide)
    have e41 : μ 41 i = M (15 + 5 * i) := (hR.2.2.1 i (by omega)).2.2.1
    rw [X6_gatherDifferences_49_q (isSh hi'), h, if_neg (nI_ge (by omega) (by omega)), kX3_isNumber (isSh hi') hk, ab_cI_s, show 50 + 2 * i' + 1 = 51 + 2 * i' by omega, hP, if_neg hp, if_neg (by decide), if_pos i10, if_pos i10, if_pos (za_in hk (by decide)), kJ_abs, ab_cI_s, if_pos i10]
    simp only [za_cl (show i < 2 ^ 31 by omega), za_cl (show k < 2 ^ 31 by omega), za_1, hP, e41]
    have hm := g.2.2.2.2.1.2
    obtain ⟨μ2, q1, q2, q3, q4⟩ := kX6_gd49 hi' hk hp g j (i + 1) (ab_up μ 75 i (μ 75 i + aa (M (15 + 5 * i) - P k))) (by omega) (by rw [za_up_a (by decide)]; exact h) (by rw [za_up_a (by omega)]; exact hP) (hR.same isR38 hm fun a ha => za_up_a (by omega))
    refine ⟨μ2, q1, q2, fun t ht => ?_, CF.t (fun a h1 h2 h3 h4 => za_up_a h4) q4⟩
    rw [q3 t ht]
    by_cases et : t = i
    · subst et; rw [if_neg (by omega), if_pos (by omega), za_up_s]
    · rw [za_up_j et]
      by_cases c : i + 1 ≤ t
      · rw [if_pos c, if_pos (by omega)]
      · rw [if_neg c, if_neg (by omega)]
theorem kX6_gd39 {i' z : Nat} (hi' : i' < 4) (hz : z ≤ 24) (hn : 0 < n) : ∀ j k μ M D o, k + j = z → μ 22 8 = nI n → μ (50 + 2 * i') 2 = nI z → (∀ q, q < 24 → μ (51 + 2 * i') q = P q) → RC μ 38 M n m → G M n m → (∀ t, t < n → μ 75 t = D t) → ∃ μ', X6_gatherDifferences_39 E (d + 7) (50 + 2 * i') (nI k) o μ = some (none, μ') ∧ (∀ t, t < n → μ' 75 t = lkD n m P j k M D t) ∧ CF μ μ'
  | 0, k, μ, M, D, o, e, h, h2, hP, hR, g, hD => by
    rw [X6_gatherDifferences_39_q (isSh hi'), h2, if_pos (nI_le (by omega) (by omega))]
    exact ⟨μ, rfl, hD, CF.rf⟩
  | j + 1, k, μ, M, D, o, e, h, h2, hP, hR, g, hD => by
    have n10 := g.n10
    rw [X6_gatherDifferences_39_q (isSh hi'), h2, if_neg (nI_ge (by omega) (by omega))]
    unfold lkD
    by_cases hp : P k = -1000000005
    · obtain ⟨μ1, e1, e2, e3⟩ := kX2_passEvening (E := E) (d := d) isR38 hR g
      have cf : CF μ μ1 := fun a h1 h2 h3 _ => e3 a (by omega) h2 h3
      rw [X6_gatherDifferences_49_q (isSh hi'), h, if_neg (show ¬ nI n ≤ (0 : Int32) from nI_ge (a := 0) (by omega) (by omega)), kX3_isNumber (isSh hi') (by omega), ab_cI_s, show 50 + 2 * i' + 1 = 51 + 2 * i' by omega, hP k (by omega), if_pos hp, if_pos rfl, e1, ab_cV_s, za_1, if_pos hp]
      obtain ⟨μ2, q1, q2, q3⟩ := kX6_gd39 hi' hz hn j (k + 1) μ1 (evN M n m) D (some (.int 0)) (by omega) (by rw [cf 22 (by omega) (by omega) (by omega) (by omega)]; exact h) (by rw [cf _ (by omega) (by omega) (by omega) (by omega)]; exact h2) (fun q hq => by rw [cf _ (by omega) (by omega) (by omega) (by omega)]; exact hP q hq) e2 g.ev (fun t ht => by rw [e3 75 (by omega) (by omega) (by omega)]; exact hD t ht)
      exact ⟨μ2, q1, q2, cf.t q3⟩
    · obtain ⟨μ1, e1, e2, e3, e4⟩ := kX6_gd49 (E := E) (d := d) hi' (show k < 24 by omega) hp g n 0 μ (by omega) h (hP k (by omega)) hR
      rw [show (0 : Int32) = nI 0 from rfl, e1, if_neg hp]
      obtain ⟨μ2, q1, q2, q3⟩ := kX6_gd39 hi' hz hn j (k + 1) μ1 (evN M n m) (fun i => D i + aa (M (15 + 5 * i) - P k)) (some (.int (nI n))) (by omega) (by rw [e4 22 (by omega) (by omega) (by omega) (by omega)]; exact h) (by rw [e4 _ (by omega) (by omega) (by omega) (by omega)]; exact h2) (fun q hq => by rw [e4 _ (by omega) (by omega) (by omega) (by omega)]; exact hP q hq) e2 g.ev (fun t ht => by rw [e3 t ht, if_pos (by omega), hD t ht])
      exact ⟨μ2, q1, q2, e4.t q3⟩
theorem kX6_lk62 {w : Int32} {o : Option Value} (n10 : n ≤ 10) (h : μ 22 8 = nI n) (hD : ∀ t, t < n → μ 75 t = D t) : ∀ j i b, i + j = n → b < n → X6_like_62 E (d + 1) o w (nI b) (nI i) μ = some (some (.int (if w = 0 then nI (lkB D j i b) else D (lkB D j i b))), μ)
  | 0, i, b, e, hb => by
    rw [X6_like_62_q, h, if_pos (nI_le (by omega) (by omega)), if_pos (za_in (show b < 10 by omega) (by decide)), za_cl (by omega), hD b hb]
    unfold lkB
    by_cases hw : w = 0
    · rw [if_neg (fun q => q hw), if_pos hw]
    · rw [if_pos hw, if_neg hw]
  | j + 1, i, b, e, hb => by
    rw [X6_like_62_q, h, if_neg (nI_ge (by omega) (by omega)), if_pos (za_in (show i < 10 by omega) (by decide)), if_pos (za_in (show b < 10 by omega) (by decide)), za_cl (by omega), za_cl (by omega), hD b hb, hD i (by omega), za_1]
    unfold lkB
    by_cases c : D b ≤ D i
    · rw [if_pos c, if_pos c]; exact kX6_lk62 n10 h hD j (i + 1) b (by omega) hb
    · rw [if_neg c, if_neg c]; exact kX6_lk62 n10 h hD j (i + 1) i (by omega) (by omega)
theorem kX7_lk158 {w : Int32} {o o6 : Option Value} (hn : 0 < n) (n10 : n ≤ 10) (hD : ∀ t, t < n → μ 80 t = D t) : ∀ j i b, i + j = n → b < n → X7_like_158 E (d + 1) o w (nI n) (nI b) (nI i) o6 μ = some (some (.int (if w = 0 then nI (lkB D j i b) else D (lkB D j i b))), μ)
  | 0, i, b, e, hb => by
    rw [X7_like_158_q, if_pos (nI_le (by omega) (by omega)), if_pos (show ¬ nI n = (0 : Int32) from fun q => by have := (nI_eq (b := 0) (by omega) (by decide)).mp q; omega), if_pos (za_in (show b < 10 by omega) (by decide)), za_cl (by omega), hD b hb]
    unfold lkB
    by_cases hw : w = 0
    · rw [if_neg (fun q => q hw), if_pos hw]
    · rw [if_pos hw, if_neg hw]
  | j + 1, i, b, e, hb => by
    rw [X7_like_158_q, if_neg (nI_ge (by omega) (by omega)), if_pos (za_in (show i < 10 by omega) (by decide)), if_pos (za_in (show b < 10 by omega) (by decide)), za_cl (by omega), za_cl (by omega), hD b hb, hD i (by omega), za_1]
    unfold lkB
    by_cases c : D b ≤ D i
    · rw [if_pos c, if_pos c]; exact kX7_lk158 hn n10 hD j (i + 1) b (by omega) hb
    · rw [if_neg c, if_neg c]; exact kX7_lk158 hn n10 hD j (i + 1) i (by omega) (by omega)
theorem kX7_lk45 {x w : Int32} {o5 o6 : Option Value} (n10 : n ≤ 10) : ∀ j i μ, i + j = n → ∃ μ', X7_like_45 E (d + 1) x w (nI n) (nI i) o5 o6 μ = X7_like_68 E (d + 1) x w (nI n) 0 o5 o6 μ' ∧ (∀ t, i ≤ t → t < n → μ' 80 t = 0) ∧ (∀ t, t < i → μ' 80 t = μ 80 t) ∧ ∀ a, a ≠ 80 → μ' a = μ a
  | 0, i, μ, e => by
    rw [X7_like_45_q, if_pos (nI_le (by omega) (by omega))]
    exact ⟨μ, rfl, fun t h1 h2 => by omega, fun _ _ => rfl, fun _ _ => rfl⟩
  | j + 1, i, μ, e => by
    rw [X7_like_45_q, if_neg (nI_ge (by omega) (by omega)), if_pos (za_in (show i < 10 by omega) (by decide)), za_cl (by omega), za_1]
    obtain ⟨μ2, e1, e2, e3, e4⟩ := kX7_lk45 n10 (x := x) (w := w) (o5 := o5) (o6 := o6) j (i + 1) (ab_up μ 80 i 0) (by omega)
    refine ⟨μ2, e1, fun t h1 h2 => ?_, fun t h1 => ?_, fun a ha => ?_⟩
    · by_cases et : t = i
      · subst et; rw [e3 t (by omega), za_up_s]
      · exact e2 t (by omega) h2
    · rw [e3 t (by omega), za_up_j (by omega)]
    · rw [e4 a ha, za_up_a ha]
theorem kX7_lk96 {x w p : Int32} {k : Nat} (hp : ¬ p = -1000000005) (g : G M n m) : ∀ j i μ, i + j = n → μ 77 = M → ∃ μ', X7_like_96 E (d + 5) x w (nI n) (nI k) p (nI i) μ = X7_like_68 E (d + 5) x w (nI n) (nI (k + 1)) (some (.int p)) (some (.int (nI n))) μ' ∧ μ' 77 = evN M n m ∧ μ' 79 = μ 79 ∧ (∀ t, t < n → μ' 80 t = if i ≤ t then μ 80 t + aa (M (15 + 5 * t) - p) else μ 80 t) ∧ RF μ μ'
  | 0, i, μ, e, h77 => by
    have n10 := g.n10
    obtain ⟨μ1, e1, e2, e3, e4, e5⟩ := rEv (E := E) (d := d) h77 g
    rw [X7_like_96_q, if_pos (nI_le (by omega) (by omega)), e1, ab_cV_s, za_1, show i = n by omega]
    exact ⟨μ1, rfl, e2, e3, fun t ht => by rw [if_neg (by omega), e4], e5⟩
  | j + 1, i, μ, e, h77 => by
    have n10 := g.n10
    have i10 := za_in (show i < 10 by omega) (show 10 < 2 ^ 31 by decide)
    have eo : ∀ y : Int32, X7_off E (d + 4) y μ = some (some (.int (aa y)), μ) := fun y => by
      rw [X7_off_q]; unfold aa
      by_cases h : 0 ≤ y
      · rw [if_pos h, if_pos h]
      · rw [if_neg h, if_neg h]
    rw [X7_like_96_q, if_neg (nI_ge (by omega) (by omega)), if_neg hp, if_pos i10, kX7_of2 (by omega), ab_cI_s, eo, ab_cI_s, if_pos i10, za_cl (by omega), za_1, h77, aa_s]
    obtain ⟨μ2, q1, q2, q3, q4, q5⟩ := kX7_lk96 hp g (x := x) (w := w) (k := k) j (i + 1) (ab_up μ 80 i (μ 80 i + aa (M (15 + 5 * i) - p))) (by omega) (by rw [za_up_a (by decide)]; exact h77)
    refine ⟨μ2, q1, q2, by rw [q3, za_up_a (by decide)], fun t ht => ?_, RF.t (fun a h1 h2 h3 _ _ => za_up_a h3) q5⟩
    rw [q4 t ht]
    by_cases et : t = i
    · subst et; rw [if_neg (by omega), if_pos (by omega), za_up_s]
    · rw [za_up_j et]
      by_cases c : i + 1 ≤ t
      · rw [if_pos c, if_pos (by omega)]
      · rw [if_neg c, if_neg (by omega)]
theorem kX7_lk68 {i' z : Nat} {w : Int32} (hi' : i' < 4) (hz : z ≤ 24) : ∀ j k μ M D o5 o6, k + j = z → μ 77 = M → μ 79 = mx N A → hiE N M → G M n m → μ 90 i' = nI z → (∀ q, q < 24 → μ 91 (24 * i' + q) = P q) → (∀ t, t < n → μ 80 t = D t) → ∃ μ' o6', X7_like_68 E (d + 5) (nI i') w (nI n) (nI k) o5 o6 μ = X7_like_158 E (d + 5) (some (.int (nI i'))) w (nI n) 0 1 o6' μ' ∧ μ' 77 = N ∧ (∀ t, t < n → μ' 80 t = lkD n m P j k M D t) ∧ RF μ μ'
  | 0, k, μ, M, D, o5, o6, e, h77, h79, hh, g, h2, hP, hD => by
    obtain ⟨μ1, e1, e2, e3, e4, e5⟩ := rBk (E := E) (d := d + 3) h79 (by rw [h77]; exact hh)
    rw [X7_like_68_q, if_pos (za_in hi' (by decide)), za_cl (by omega), h2, if_pos (nI_le (by omega) (by omega)), e1, ab_cV_s]
    exact ⟨μ1, o6, rfl, e2, fun t ht => by rw [e4]; exact hD t ht, e5⟩
  | j + 1, k, μ, M, D, o5, o6, e, h77, h79, hh, g, h2, hP, hD => by
    have n10 := g.n10
    rw [X7_like_68_q, if_pos (za_in hi' (by decide)), za_24]
    simp only [za_cl (show i' < 2 ^ 31 by omega), za_cl (show 24 * i' + k < 2 ^ 31 by omega)]
    rw [h2, if_neg (nI_ge (by omega) (by omega)), if_pos (za_in (show 24 * i' + k < 96 by omega) (by decide)), hP k (by omega)]
    unfold lkD
    by_cases hp : P k = -1000000005
    · obtain ⟨μ1, e1, e2, e3, e4, e5⟩ := rEv (E := E) (d := d) h77 g
      rw [X7_like_96_q, if_pos hp, ite_self, e1, ab_cV_s, za_1, if_pos hp]
      obtain ⟨μ2, o', q1, q2, q3, q4⟩ := kX7_lk68 hi' hz (w := w) j (k + 1) μ1 (evN M n m) D (some (.int (P k))) (some (.int 0)) (by omega) e2 (e3.trans h79) (hh.t (hi_ev g)) g.ev (by rw [e5 90 (by omega) (by omega) (by omega) (by omega) (by omega)]; exact h2) (fun q hq => by rw [e5 91 (by omega) (by omega) (by omega) (by omega) (by omega)]; exact hP q hq) (fun t ht => by rw [e4]; exact hD t ht)
      exact ⟨μ2, o', q1, q2, q3, e5.t q4⟩
    · obtain ⟨μ1, e1, e2, e3, e4, e5⟩ := kX7_lk96 (E := E) (d := d) (x := nI i') (w := w) (k := k) hp g n 0 μ (by omega) h77
      rw [show (0 : Int32) = nI 0 from rfl, e1, if_neg hp]
      obtain ⟨μ2, o', q1, q2, q3, q4⟩ := kX7_lk68 hi' hz (w := w) j (k + 1) μ1 (evN M n m) (fun i => D i + aa (M (15 + 5 * i) - P k)) (some (.int (P k))) (some (.int (nI n))) (by omega) e2 (e3.trans h79) (hh.t (hi_ev g)) g.ev (by rw [e5 90 (by omega) (by omega) (by omega) (by omega) (by omega)]; exact h2) (fun q hq => by rw [e5 91 (by omega) (by omega) (by omega) (by omega) (by omega)]; exact hP q hq) (fun t ht => by rw [e4 t ht, if_pos (by omega), hD t ht])
      exact ⟨μ2, o', q1, q2, q3, e5.t q4⟩
theorem p_like : PR (X6_like E (d + 100) a b) (X7_like E (d + 100) a b) := by
  intro μ s
  obtain ⟨n, m, e, ⟨g, h, h2, h3⟩, h4, so⟩ := id s
  have n10 := g.n10
  have hX : X6_like E (d + 100) a b μ = _ := X6_like_q
  rw [kX6_isSheet, ab_cI_s] at hX
  by_cases ha : 0 ≤ a ∧ a ≤ 3
  · rw [zb_t ha, if_neg (by decide), kX6_isWithin, ab_cI_s] at hX
    by_cases hb : 0 ≤ b ∧ b ≤ 1
    · obtain ⟨i, hi, rfl⟩ := za_3.mp ha
      have i4 := za_in hi (show 4 < 2 ^ 31 by decide)
      have hcl := za_cl (show i < 2 ^ 31 by omega)
      obtain ⟨p1, p2, ⟨z, z0, z1, z2⟩, p4⟩ := so.2.2.1 i hi
      rw [zb_t hb, if_pos (by decide), if_pos i4] at hX
      simp only [hcl, X3_isMissing_q (isSh hi), if_pos i4] at hX
      have hY : ∀ μ1, μ1 89 = μ 89 → X7_like E (d + 100) (nI i) b μ1 = if 0 ≤ μ (50 + 2 * i) 1 then ab_cV (X7_thinks E (d + 99) μ1) (fun μ10 => X7_like_45 E (d + 100) (nI i) b (μ10 77 1) 0 none none μ10) else some (some (.int (-1000000011)), μ1) := by
        intro μ1 h1
        have hY : X7_like E (d + 100) (nI i) b μ1 = _ := X7_like_q
        rw [kX7_isSheet, ab_cI_s, zb_t ha, if_neg (by decide), kX7_in, ab_cI_s, zb_t hb, if_pos (by decide), if_pos i4] at hY
        simp only [hcl, h1, p2] at hY
        exact hY
      by_cases pm : μ (50 + 2 * i) 1 = -1
      · rw [if_neg (fun q => q pm), ab_cI_s, if_neg (by decide)] at hX
        refine ⟨_, _, _, hX, (hY μ rfl).trans (if_neg ?_), s⟩
        rw [pm]; decide
      · have p0 : 0 ≤ μ (50 + 2 * i) 1 := by
          rcases p1 with p | p | p
          · exact absurd p pm
          · rw [p]; decide
          · rw [p]; decide
        rw [if_pos pm, ab_cI_s, if_pos rfl, h.sz g] at hX
        have ref : ∀ μ1, CF μ μ1 → ∃ μ2 o6', X7_like E (d + 100) (nI i) b μ1 = X7_like_158 E (d + 100) (some (.int (nI i))) b (nI n) 0 1 o6' μ2 ∧ μ2 77 = μ 77 ∧ (∀ t, t < n → μ2 80 t = lkD n m (fun q => μ 91 (24 * i + q)) z 0 (μ 77) (fun _ => 0) t) ∧ RF μ1 μ2 := by
          intro μ1 cf
          have h77 : μ1 77 = μ 77 := cf 77 (by omega) (by omega) (by omega) (by omega)
          obtain ⟨μ2, f1, f2, f3, f4⟩ := rTk (E := E) (d := d + 98) h77
          obtain ⟨μ3, k1, k2, k3, k4⟩ := kX7_lk45 (E := E) (d := d + 99) (x := nI i) (w := b) (o5 := none) (o6 := none) n10 n 0 μ2 (by omega)
          have f5 : ∀ a, a ≠ 77 → a ≠ 79 → a ≠ 80 → a ≠ 87 → a ≠ 88 → μ3 a = μ1 a := fun a h1 h2 h3 h4 h5 => by rw [k4 a h3, f4 a h1 h2 h3 h4 h5]
          obtain ⟨μ4, o', q1, q2, q3, q4⟩ := kX7_lk68 (E := E) (d := d + 95) (n := n) (m := m) (N := μ 77) (A := μ1 79) (P := fun q => μ 91 (24 * i + q)) (w := b) hi z0 z 0 μ3 (μ 77) (fun _ => 0) none none (by omega) (by rw [k4 77 (by decide)]; exact f2) (by rw [k4 79 (by decide)]; exact f3) hiE.r g (by rw [f5 90 (by omega) (by omega) (by omega) (by omega) (by omega), cf 90 (by omega) (by omega) (by omega) (by omega)]; exact z2) (fun q _ => by rw [f5 91 (by omega) (by omega) (by omega) (by omega) (by omega), cf 91 (by omega) (by omega) (by omega) (by omega)]) (fun t ht => k2 t (by omega) ht)
          refine ⟨μ4, o', ((hY μ1 (cf 89 (by omega) (by omega) (by omega) (by omega))).trans (if_pos p0)).trans ?_, q2, q3, RF.t f5 q4⟩
          rw [f1, ab_cV_s, f2, g.1.1, show (0 : Int32) = nI 0 from rfl, k1]
          exact q1
        by_cases hn : n = 0
        · subst hn
          rw [if_neg (fun q => q rfl)] at hX
          obtain ⟨μ2, o', r1, r2, r3, r4⟩ := ref μ CF.rf
          rw [X7_like_158_q, if_pos (by decide), if_neg (fun q => q rfl)] at r1
          exact ⟨_, _, _, hX, r1, s.th CF.rf r4 r2⟩
        · have hs := h.sz g
          obtain ⟨μ1, e1, e2, e3, e4⟩ := kX6_gd2 (E := E) (d := d + 98) (o := none) (isSh hi) n10 n 0 μ (by omega) hs
          have hR1 : RC μ1 22 (μ 77) n m := h.same isR22 g.2.2.2.2.1.2 fun a ha => e4 a (by omega)
          obtain ⟨μ2, f1, f2, f3⟩ := kX2_become (E := E) (d := d + 98) isR38 isR22 (by decide) hR1 g
          have f4 : ∀ a, ¬ (38 ≤ a ∧ a < 46) → a ≠ 75 → μ2 a = μ a := fun a h1 h2 => by rw [f3 a h1, e4 a h2]
          obtain ⟨μ3, k1, k2, k3⟩ := kX6_gd39 (E := E) (d := d + 92) (P := fun q => μ 91 (24 * i + q)) hi z0 (show 0 < n by omega) z 0 μ2 (μ 77) (fun _ => 0) none (by omega) (by rw [f4 22 (by omega) (by omega)]; exact hs) (by rw [f4 _ (by omega) (by omega)]; exact z1) (fun q hq => by rw [f4 _ (by omega) (by omega)]; exact p4 q hq) f2 g (fun t ht => by rw [f3 75 (by omega)]; exact e2 t (by omega) ht)
          have cf : CF μ μ3 := CF.t (fun a h1 _ _ h4 => f4 a h1 h4) k3
          have nn : ¬ nI n = (0 : Int32) := fun q => hn ((nI_eq (b := 0) (by omega) (by decide)).mp q)
          have es := kX6_lk62 (E := E) (d := d + 99) (w := b) (o := some (.int (nI i))) n10 (by rw [cf 22 (by omega) (by omega) (by omega) (by omega)]; exact hs) k2 (n - 1) 1 0 (by omega) (by omega)
          rw [if_pos nn, X6_gatherDifferences_q (isSh hi), show (0 : Int32) = nI 0 from rfl, e1, f1, ab_cV_s, show (0 : Int32) = nI 0 from rfl, k1, ab_cV_s] at hX
          obtain ⟨μ4, o', r1, r2, r3, r4⟩ := ref μ3 cf
          have es2 := kX7_lk158 (E := E) (d := d + 99) (w := b) (o := some (.int (nI i))) (o6 := o') (show 0 < n by omega) n10 r3 (n - 1) 1 0 (by omega) (by omega)
          exact ⟨_, _, _, hX.trans es, r1.trans es2, s.th cf r4 r2⟩
    · have hY : X7_like E (d + 100) a b μ = _ := X7_like_q
      rw [zb_f hb, if_neg (by decide)] at hX
      rw [kX7_isSheet, ab_cI_s, zb_t ha, if_neg (by decide), kX7_in, ab_cI_s, zb_f hb, if_neg (by decide)] at hY
      exact ⟨_, _, _, hX, hY, s⟩
  · have hY : X7_like E (d + 100) a b μ = _ := X7_like_q
    rw [zb_f ha, if_pos rfl] at hX
    rw [kX7_isSheet, ab_cI_s, zb_f ha, if_pos rfl] at hY
    exact ⟨_, _, _, hX, hY, s⟩
end
