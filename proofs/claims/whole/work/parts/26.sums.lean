/-! fellows, draws, worth, sums -/
abbrev pF (N : Nat → Int32) (s : Nat) (x y : Int32) : Nat → Bool := fun k => decide (k ≠ s ∧ N (16 + 5 * k) = N (16 + 5 * s) ∧ (N (13 + 5 * k) = x ∨ N (13 + 5 * k) = y))
def zJ (f : Nat → Int32) : Nat → Int32
  | 0 => 0
  | n + 1 => zJ f n + f n
theorem zJ_c {f g : Nat → Int32} : ∀ {n}, (∀ s, s < n → f s = g s) → zJ f n = zJ g n
  | 0, _ => rfl
  | n + 1, h => by unfold zJ; rw [zJ_c (fun s hs => h s (by omega)), h n (by omega)]
theorem za_a0 (x : Int32) : x + (0 : Int32) = x := by
  apply Int32.toBitVec_inj.mp; simp
/-- what a saying draws -/
def dwN (N : Nat → Int32) (n s : Nat) : Int32 :=
  if N (13 + 5 * s) = 1 then (N (14 + 5 * s) / 10 - N (15 + 5 * s) / 10) + 1
  else if N (13 + 5 * s) = 2 then (N (14 + 5 * s) / 10 - N (15 + 5 * s) / 10) - 2
  else if N (13 + 5 * s) = 3 then 2 * ((N (14 + 5 * s) / 10 - N (15 + 5 * s) / 10) + 1)
  else if N (13 + 5 * s) = 4 then ((N (14 + 5 * s) / 10 - N (15 + 5 * s) / 10) - 2) - nI (zN (pF N s 2 4) n)
  else if N (13 + 5 * s) = 5 then 0 else N (14 + 5 * s) / 10 - N (15 + 5 * s) / 10
def woP (k x y : Int32) : Int32 :=
  if k = 1 then zc (x - y) + 5 else if k = 2 then 99 - zc (x - y) else if k = 3 then 2 * (zc (x - y) + 5) else if k = 4 then (99 - zc (x - y)) / 2 else if k = 5 then y else zc (x - y)
/-- what a saying is worth -/
def woN (N : Nat → Int32) (s : Nat) : Int32 := woP (N (13 + 5 * s)) (N (14 + 5 * s)) (N (15 + 5 * s))
theorem zc_w {x y : Nat} (hx : x < 100) (hy : y < 100) : (if (0 : Int32) < nI x - nI y then nI x - nI y else 0) = zc (nI x - nI y) := by
  have h : nI x - nI y ≤ 99 := by
    rw [Int32.le_iff_toInt_le, pk_sub_toInt (by omega) (by omega)]
    have : (99 : Int32).toInt = 99 := by decide
    omega
  unfold zc
  by_cases h2 : (0 : Int32) < nI x - nI y
  · rw [if_pos h2, if_pos (by rw [Int32.lt_iff_toInt_lt] at h2; rw [Int32.le_iff_toInt_le]; omega), if_pos h]
  · rw [if_neg h2]
    split
    · rename_i h3
      exact (Int32.toInt_inj.mp (by rw [Int32.lt_iff_toInt_lt] at h2; rw [Int32.le_iff_toInt_le] at h3; omega))
    · rfl
/-- bits, by trying them all -/
theorem zb_bit {S s : Nat} (hS : S < 1024) (hs : s < 10) : ((nI S >>> (nI s &&& 31)) &&& (1 : Int32) = 1) ↔ S.testBit s = true := by
  have hall : ∀ s : Fin 10, ∀ S : Fin 1024, decide ((nI S.val >>> (nI s.val &&& 31)) &&& (1 : Int32) = 1) = S.val.testBit s.val := by decide +kernel
  have := hall ⟨s, hs⟩ ⟨S, hS⟩
  constructor
  · intro h; rw [← this]; exact decide_eq_true h
  · intro h; rw [← this] at h; exact of_decide_eq_true h
theorem zb_nt {a b : Nat} (ha : a < 1024) (hb : b < 1024) : nI a &&& (nI b ^^^ (-1 : Int32)) = nI (a &&& (1023 - b)) := by
  have e : nI b ^^^ (-1 : Int32) = nI (2 ^ 32 - 1 - b) := by
    unfold nI
    apply Int32.toBitVec_inj.mp
    apply BitVec.eq_of_toNat_eq
    simp
    omega
  rw [e, zb_and]
  congr 1
  apply Nat.eq_of_testBit_eq
  intro i
  rw [Nat.testBit_and, Nat.testBit_and, show 2 ^ 32 - 1 - b = 2 ^ 32 - (b + 1) by omega, show 1023 - b = 2 ^ 10 - (b + 1) by omega, Nat.testBit_two_pow_sub_succ (show b < 2 ^ 32 by omega), Nat.testBit_two_pow_sub_succ (show b < 2 ^ 10 by omega)]
  by_cases hi : i < 10
  · simp [hi, show i < 32 by omega]
  · have : a.testBit i = false := Nat.testBit_lt_two_pow (Nat.lt_of_lt_of_le (show a < 2 ^ 10 by omega) (Nat.pow_le_pow_right (by decide) (by omega)))
    simp [this]
section
variable {E : ab_E} {d : Nat} {μ : ab_M} {r n m : Nat} {N : Nat → Int32} {a b : Int32}
theorem kX2_othersBeside_l {s : Nat} {x y : Int32} (hxy : ∀ k : Int32, (k = a ∨ a = 0 ∨ (k = 3 ∧ a = 1) ∨ (k = 4 ∧ a = 2)) ↔ (k = x ∨ k = y)) (hr : ab_isRoom r) (h : RC μ r N n m) (g : G N n m) (hs : s < n) : ∀ j i, i + j = n → X2_othersBeside_5 E (d + 1) r (nI s) a (nI (zN (pF N s x y) i)) (nI i) μ = some (some (.int (nI (zN (pF N s x y) n))), μ) := by
  have hn := g.n10
  intro j
  induction j with
  | zero =>
    intro i hi
    obtain rfl : i = n := by omega
    rw [X2_othersBeside_5_q hr, h.sz g, if_pos (nI_le (Nat.le_refl _) (by omega))]
  | succ j ih =>
    intro i hi
    have := ih (i + 1) (by omega)
    rw [X2_othersBeside_5_q hr, h.sz g, if_neg (nI_ge (by omega) (by omega)), if_pos (za_in (show i < 10 by omega) (by decide)), if_pos (za_in (show s < 10 by omega) (by decide)), if_pos (za_in (show i < 10 by omega) (by decide)), za_cl (show i < 2 ^ 31 by omega), za_cl (show s < 2 ^ 31 by omega), (h.2.2.1 i (by omega)).2.2.2.1, (h.2.2.1 s hs).2.2.2.1, (h.2.2.1 i (by omega)).1, kX0_isUnder, ab_cI_s, za_1, za_1]
    by_cases e1 : i = s
    · rw [if_pos (by rw [e1])]
      rw [show zN (pF N s x y) (i + 1) = zN (pF N s x y) i by simp [zN, e1]] at this
      exact this
    rw [if_neg (fun q => e1 ((nI_eq (by omega) (by omega)).mp q))]
    by_cases e2 : N (16 + 5 * i) = N (16 + 5 * s)
    · rw [if_neg (fun q => q e2)]
      by_cases e3 : N (13 + 5 * i) = x ∨ N (13 + 5 * i) = y
      · rw [if_pos ((hxy _).mpr e3), if_neg (by decide)]
        rw [show zN (pF N s x y) (i + 1) = zN (pF N s x y) i + 1 by simp [zN, e1, e2, e3]] at this
        exact this
      · rw [if_neg (fun q => e3 ((hxy _).mp q)), if_pos rfl]
        rw [show zN (pF N s x y) (i + 1) = zN (pF N s x y) i by simp only [zN]; rw [if_neg]; simp only [decide_eq_true_eq]; exact fun q => e3 q.2.2] at this
        exact this
    · rw [if_pos e2]
      rw [show zN (pF N s x y) (i + 1) = zN (pF N s x y) i by simp only [zN]; rw [if_neg]; simp only [decide_eq_true_eq]; exact fun q => e2 q.2.1] at this
      exact this
theorem kX2_others1 {s : Nat} (hr : ab_isRoom r) (h : RC μ r N n m) (g : G N n m) (hs : s < n) : X2_othersBeside E (d + 1) r (nI s) (1 : Int32) μ = some (some (.int (nI (zN (pF N s 1 3) n))), μ) := by
  rw [X2_othersBeside_q hr]
  refine kX2_othersBeside_l (fun k => ?_) hr h g hs n 0 (by omega)
  have : ¬ (1 : Int32) = 2 := by decide
  have : ¬ (1 : Int32) = 0 := by decide
  simp_all
theorem kX2_others2 {s : Nat} (hr : ab_isRoom r) (h : RC μ r N n m) (g : G N n m) (hs : s < n) : X2_othersBeside E (d + 1) r (nI s) (2 : Int32) μ = some (some (.int (nI (zN (pF N s 2 4) n))), μ) := by
  rw [X2_othersBeside_q hr]
  refine kX2_othersBeside_l (fun k => ?_) hr h g hs n 0 (by omega)
  have : ¬ (2 : Int32) = 1 := by decide
  have : ¬ (2 : Int32) = 0 := by decide
  simp_all
theorem kX7_fellows_l {s : Nat} {x y : Int32} (hN : μ 77 = N) (g : G N n m) (hs : s < n) : ∀ j i o, i + j = n → X7_fellows_6 E (d + 1) (nI s) x y (nI (zN (pF N s x y) i)) (nI i) o μ = some (some (.int (nI (zN (pF N s x y) n))), μ) := by
  have hn := g.n10
  intro j
  induction j with
  | zero =>
    intro i o hi
    obtain rfl : i = n := by omega
    rw [X7_fellows_6_q, hN, g.1.1, if_pos (nI_le (Nat.le_refl _) (by omega))]
  | succ j ih =>
    intro i o hi
    have := fun o => ih (i + 1) o (by omega)
    rw [X7_fellows_6_q, hN, g.1.1, if_neg (nI_ge (by omega) (by omega))]
    simp only [kX7_of0 (show i < 200 by omega), kX7_of3 (show i < 200 by omega), kX7_of3 (show s < 200 by omega), ab_cI_s, hN, za_1, za_a0]
    have ne : i ≠ s → ¬ nI i = nI s := fun e q => e ((nI_eq (by omega) (by omega)).mp q)
    by_cases e1 : i = s
    · rw [show zN (pF N s x y) (i + 1) = zN (pF N s x y) i by simp [zN, e1]] at this
      simp [e1] at this ⊢
      simp [this]
    by_cases e2 : N (16 + 5 * i) = N (16 + 5 * s)
    · by_cases e3 : N (13 + 5 * i) = x
      · rw [show zN (pF N s x y) (i + 1) = zN (pF N s x y) i + 1 by simp [zN, e1, e2, e3]] at this
        simp [e2, e3, ne e1, this]
      · by_cases e4 : N (13 + 5 * i) = y
        · rw [show zN (pF N s x y) (i + 1) = zN (pF N s x y) i + 1 by simp [zN, e1, e2, e4]] at this
          simp [e2, e4, ne e1, this]
        · rw [show zN (pF N s x y) (i + 1) = zN (pF N s x y) i by simp [zN, e3, e4]] at this
          simp [e3, e4, ne e1, this]
    · rw [show zN (pF N s x y) (i + 1) = zN (pF N s x y) i by simp [zN, e2]] at this
      simp [e2, ne e1, this]
theorem kX7_fellows {s : Nat} {x y : Int32} (hN : μ 77 = N) (g : G N n m) (hs : s < n) : X7_fellows E (d + 1) (nI s) x y μ = some (some (.int (nI (zN (pF N s x y) n))), μ) := by
  rw [X7_fellows_q]
  exact kX7_fellows_l hN g hs n 0 none (by omega)
theorem kX2_draws {s : Nat} (hr : ab_isRoom r) (h : RC μ r N n m) (g : G N n m) (hs : s < n) : X2_draws E (d + 2) r (nI s) μ = some (some (.int (dwN N n s)), μ) := by
  have hn := g.n10
  rw [X2_draws_q hr]
  simp only [if_pos (za_in (show s < 10 by omega) (show 10 < 2 ^ 31 by decide)), za_cl (show s < 2 ^ 31 by omega), (h.2.2.1 s hs).1, (h.2.2.1 s hs).2.1, (h.2.2.1 s hs).2.2.1, kX2_others2 hr h g hs, ab_cI_s]
  unfold dwN
  repeat' split
  all_goals rfl
theorem kX7_draws {s : Nat} (hN : μ 77 = N) (g : G N n m) (hs : s < n) : X7_draws E (d + 2) (nI s) μ = some (some (.int (dwN N n s)), μ) := by
  have hn := g.n10
  rw [X7_draws_q]
  simp only [kX7_of0 (show s < 200 by omega), kX7_of1 (show s < 200 by omega), kX7_of2 (show s < 200 by omega), hN, kX7_fellows hN g hs, ab_cI_s]
  unfold dwN
  repeat' split
  all_goals rfl
theorem kX0_worth {x y : Nat} (hx : x < 100) (hy : y < 100) : X0_worth E (d + 1) a (nI x) (nI y) μ = some (some (.int (woP a (nI x) (nI y))), μ) := by
  rw [X0_worth_q, kJ_max, ab_cI_s, zc_w hx hy]
  unfold woP
  repeat' split
  all_goals rfl
theorem kX2_worth {s : Nat} (hr : ab_isRoom r) (h : RC μ r N n m) (g : G N n m) (hs : s < n) : X2_worth E (d + 2) r (nI s) μ = some (some (.int (woN N s)), μ) := by
  have hn := g.n10
  obtain ⟨-, ⟨w1, w2⟩, ⟨w3, w4⟩, -⟩ := g.2.1 s hs
  rw [X2_worth_q hr]
  simp only [if_pos (za_in (show s < 10 by omega) (show 10 < 2 ^ 31 by decide)), za_cl (show s < 2 ^ 31 by omega), (h.2.2.1 s hs).1, (h.2.2.1 s hs).2.1, (h.2.2.1 s hs).2.2.1]
  unfold woN
  rw [w1, w3, kX0_worth w2 w4, ab_cI_s]
theorem kX7_worthOf {s : Nat} (hN : μ 77 = N) (g : G N n m) (hs : s < n) : X7_worthOf E (d + 1) (nI s) μ = some (some (.int (woN N s)), μ) := by
  have hn := g.n10
  rw [X7_worthOf_q]
  simp only [kX7_of0 (show s < 200 by omega), kX7_of1 (show s < 200 by omega), kX7_of2 (show s < 200 by omega), hN, kX7_within99, ab_cI_s]
  unfold woN woP
  repeat' split
  all_goals rfl
/-- what is drawn in a corner, what those there are worth -/
abbrev dwF (N : Nat → Int32) (n : Nat) (a : Int32) : Nat → Int32 := fun s => if N (16 + 5 * s) = a ∧ ¬ ds N s = 99 then dwN N n s else 0
abbrev woF (N : Nat → Int32) (a : Int32) : Nat → Int32 := fun s => if N (16 + 5 * s) = a then woN N s else 0
theorem kX2_worthIn (hr : ab_isRoom r) (h : RC μ r N n m) (g : G N n m) : X2_worthIn E (d + 3) r a μ = some (some (.int (zJ (woF N a) n)), μ) := by
  have hn := g.n10
  rw [X2_worthIn_q hr]
  have : ∀ j i, i + j = n → X2_worthIn_4 E (d + 3) r a (zJ (woF N a) i) (nI i) μ = some (some (.int (zJ (woF N a) n)), μ) := by
    intro j
    induction j with
    | zero =>
      intro i hi
      obtain rfl : i = n := by omega
      rw [X2_worthIn_4_q hr, h.sz g, if_pos (nI_le (Nat.le_refl _) (by omega))]
    | succ j ih =>
      intro i hi
      have := ih (i + 1) (by omega)
      rw [X2_worthIn_4_q hr, h.sz g, if_neg (nI_ge (by omega) (by omega)), if_pos (za_in (show i < 10 by omega) (by decide)), za_cl (show i < 2 ^ 31 by omega), (h.2.2.1 i (by omega)).2.2.2.1, kX2_worth hr h g (show i < n by omega), ab_cI_s, za_1]
      by_cases e1 : N (16 + 5 * i) = a
      · rw [if_neg (fun q => q e1)]
        rw [show zJ (woF N a) (i + 1) = zJ (woF N a) i + woN N i by simp [zJ, e1]] at this
        exact this
      · rw [if_pos e1]
        rw [show zJ (woF N a) (i + 1) = zJ (woF N a) i by simp [zJ, e1]] at this
        exact this
  exact this n 0 (by omega)
theorem kX7_worthIn (hN : μ 77 = N) (g : G N n m) : X7_worthIn E (d + 2) a μ = some (some (.int (zJ (woF N a) n)), μ) := by
  have hn := g.n10
  rw [X7_worthIn_q, kX7_saidIn hN g, ab_cI_s]
  have hS : zS (pI N a) n < 1024 := Nat.lt_of_lt_of_le (zS_lt _ _) (Nat.pow_le_pow_right (n := 2) (by decide) hn)
  have : ∀ j i o, i + j = n → X7_worthIn_11 E (d + 2) o (nI (zS (pI N a) n)) (zJ (woF N a) i) (nI i) μ = some (some (.int (zJ (woF N a) n)), μ) := by
    intro j
    induction j with
    | zero =>
      intro i o hi
      obtain rfl : i = n := by omega
      rw [X7_worthIn_11_q, hN, g.1.1, if_pos (nI_le (Nat.le_refl _) (by omega))]
    | succ j ih =>
      intro i o hi
      have := ih (i + 1) o (by omega)
      rw [X7_worthIn_11_q, hN, g.1.1, if_neg (nI_ge (by omega) (by omega)), kX7_worthOf hN g (show i < n by omega), ab_cI_s, za_1, za_a0]
      by_cases e1 : N (16 + 5 * i) = a
      · rw [if_neg (fun q => q ((zb_bit hS (by omega)).mpr (by rw [zS_bit]; simp [e1]; omega)))]
        rw [show zJ (woF N a) (i + 1) = zJ (woF N a) i + woN N i by simp [zJ, e1]] at this
        exact this
      · rw [if_pos (fun q => by have := (zb_bit hS (by omega)).mp q; rw [zS_bit] at this; simp [e1] at this)]
        rw [show zJ (woF N a) (i + 1) = zJ (woF N a) i by simp [zJ, e1]] at this
        exact this
  exact this n 0 _ (by omega)
theorem kX2_drawnIn (hr : ab_isRoom r) (h : RC μ r N n m) (g : G N n m) : X2_drawnIn E (d + 3) r a μ = some (some (.int (zJ (dwF N n a) n)), μ) := by
  have hn := g.n10
  rw [X2_drawnIn_q hr]
  have : ∀ j i, i + j = n → X2_drawnIn_4 E (d + 3) r a (zJ (dwF N n a) i) (nI i) μ = some (some (.int (zJ (dwF N n a) n)), μ) := by
    intro j
    induction j with
    | zero =>
      intro i hi
      obtain rfl : i = n := by omega
      rw [X2_drawnIn_4_q hr, h.sz g, if_pos (nI_le (Nat.le_refl _) (by omega))]
    | succ j ih =>
      intro i hi
      have := ih (i + 1) (by omega)
      rw [X2_drawnIn_4_q hr, h.sz g, if_neg (nI_ge (by omega) (by omega)), if_pos (za_in (show i < 10 by omega) (by decide)), za_cl (show i < 2 ^ 31 by omega), (h.2.2.1 i (by omega)).2.2.2.1, kX2_isBuried hr h g (show i < n by omega), ab_cI_s, kX2_draws hr h g (show i < n by omega), ab_cI_s, za_1]
      by_cases e1 : N (16 + 5 * i) = a
      · rw [if_neg (fun q => q e1)]
        by_cases e2 : ds N i = 99
        · rw [if_pos (show ¬ zb (ds N i = 99) = 0 from fun q => zb_0.mp q e2)]
          rw [show zJ (dwF N n a) (i + 1) = zJ (dwF N n a) i by simp [zJ, e2]] at this
          exact this
        · rw [if_neg (fun q => q (zb_0.mpr e2))]
          rw [show zJ (dwF N n a) (i + 1) = zJ (dwF N n a) i + dwN N n i by simp [zJ, e1, e2]] at this
          exact this
      · rw [if_pos e1]
        rw [show zJ (dwF N n a) (i + 1) = zJ (dwF N n a) i by simp [zJ, e1]] at this
        exact this
  exact this n 0 (by omega)
theorem kX7_drawn (hN : μ 77 = N) (g : G N n m) : X7_drawn E (d + 3) a μ = some (some (.int (zJ (dwF N n a) n)), μ) := by
  have hn := g.n10
  rw [X7_drawn_q, kX7_saidIn hN g, ab_cI_s, kX7_buriedOnes hN g, ab_cI_s]
  have hp : (2 : Nat) ^ n ≤ 2 ^ 10 := Nat.pow_le_pow_right (by decide) hn
  have hS : zS (pI N a) n < 1024 := Nat.lt_of_lt_of_le (zS_lt _ _) hp
  have hB : zS (pB N) n < 1024 := Nat.lt_of_lt_of_le (zS_lt _ _) hp
  rw [zb_nt hS hB]
  generalize hq : zS (pI N a) n &&& (1023 - zS (pB N) n) = q
  have hq1 : q < 1024 := by rw [← hq]; exact Nat.lt_of_le_of_lt Nat.and_le_left hS
  have hqb : ∀ s, s < n → (q.testBit s = true ↔ N (16 + 5 * s) = a ∧ ¬ ds N s = 99) := by
    intro s hs
    rw [← hq, Nat.testBit_and, zS_bit, show 1023 - zS (pB N) n = 2 ^ 10 - (zS (pB N) n + 1) by omega, Nat.testBit_two_pow_sub_succ (show zS (pB N) n < 2 ^ 10 by omega), zS_bit]
    simp [hs, show s < 10 by omega]
  have : ∀ j i o, i + j = n → X7_drawn_18 E (d + 3) o (nI q) (zJ (dwF N n a) i) (nI i) μ = some (some (.int (zJ (dwF N n a) n)), μ) := by
    intro j
    induction j with
    | zero =>
      intro i o hi
      obtain rfl : i = n := by omega
      rw [X7_drawn_18_q, hN, g.1.1, if_pos (nI_le (Nat.le_refl _) (by omega))]
    | succ j ih =>
      intro i o hi
      have := ih (i + 1) o (by omega)
      rw [X7_drawn_18_q, hN, g.1.1, if_neg (nI_ge (by omega) (by omega)), kX7_draws hN g (show i < n by omega), ab_cI_s, za_1, za_a0]
      by_cases e1 : N (16 + 5 * i) = a ∧ ¬ ds N i = 99
      · rw [if_neg (fun z => z ((zb_bit hq1 (by omega)).mpr ((hqb i (by omega)).mpr e1)))]
        rw [show zJ (dwF N n a) (i + 1) = zJ (dwF N n a) i + dwN N n i by simp only [zJ, dwF, if_pos e1]] at this
        exact this
      · rw [if_pos (fun z => e1 ((hqb i (by omega)).mp ((zb_bit hq1 (by omega)).mp z)))]
        rw [show zJ (dwF N n a) (i + 1) = zJ (dwF N n a) i by simp only [zJ, dwF, if_neg e1, za_a0]] at this
        exact this
  exact this n 0 _ (by omega)
end
