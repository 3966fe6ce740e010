/-! A ROOM OF THE CLASS and the row N -/
def RS (μ : ab_M) (r : Nat) (N : Nat → Int32) (s : Nat) : Prop := μ (r + 1) s = N (13 + 5 * s) ∧ μ (r + 2) s = N (14 + 5 * s) ∧ μ (r + 3) s = N (15 + 5 * s) ∧ μ (r + 4) s = N (16 + 5 * s) ∧ μ (r + 5) s = N (17 + 5 * s)
/-- the class's sign for a step -/
def en (c : Int32) : Int32 := if 0 ≤ c then c else if c = -1 then -124 else if c = -2 then -38 else if c = -3 then -60 else if c = -4 then -61 else if c = -5 then -62 else if c = -6 then -43 else if c = -7 then -45 else if c = -8 then -42 else if c = -9 then -47 else -33
def RLw (μ : ab_M) (N : Nat → Int32) (t : Nat) : Prop := μ 2 t = nI (tk N t) ∧ μ 3 t = N (64 + 2 * t) ∧ μ 4 t = nI (tl N t) ∧ ∀ k, k < tl N t → μ (6 + t) k = en (N (91 + 96 * t + k))
/-- the text that counts -/
def lT (N : Nat → Int32) (key : Nat) : Nat → Option Nat
  | 0 => none
  | m + 1 => if tk N m = key then some m else lT N key m
def cn (o : Option Nat) : Int32 := match o with
  | none => -1000000005
  | some t => nI t
def RC (μ : ab_M) (r : Nat) (N : Nat → Int32) (n m : Nat) : Prop := (μ r 8 = N 1 ∧ μ r 9 = N 6 ∧ μ r 10 = N 3 ∧ μ r 11 = N 4 ∧ μ r 12 = N 5 ∧ μ r 13 = N 2 ∧ μ r 14 = N 0) ∧ (∀ c, c < 6 → μ (r + 6) c = N (7 + c)) ∧ (∀ s, s < n → RS μ r N s) ∧ (∀ key, key < 3 → μ (r + 7) key = cn (lT N key m)) ∧ (∀ t, t < m → RLw μ N t)
section
variable {E : ab_E} {d : Nat} {μ : ab_M} {r n m : Nat} {N : Nat → Int32} {a b : Int32}
theorem RC.sz (h : RC μ r N n m) (g : G N n m) : μ r 8 = nI n := h.1.1.trans g.1.1
theorem G.n10 (g : G N n m) : n ≤ 10 := g.1.2
/-- who stands in a corner, by the corner's number as it comes -/
abbrev pI (N : Nat → Int32) (a : Int32) : Nat → Bool := fun s => decide (N (16 + 5 * s) = a)
abbrev pB (N : Nat → Int32) : Nat → Bool := fun s => decide (ds N s = 99)
theorem kX2_sayingsIn_l (hr : ab_isRoom r) (h : RC μ r N n m) (g : G N n m) : ∀ j i, i + j = n → X2_sayingsIn_4 E d r a (nI (zS (pI N a) i)) (nI i) μ = some (some (.int (nI (zS (pI N a) n))), μ) := by
  have hn := g.n10
  intro j
  induction j with
  | zero =>
    intro i hi
    obtain rfl : i = n := by omega
    rw [X2_sayingsIn_4_q hr, h.sz g, if_pos (nI_le (Nat.le_refl _) (by omega))]
  | succ j ih =>
    intro i hi
    have hi10 : i < 10 := by omega
    rw [X2_sayingsIn_4_q hr, h.sz g, if_neg (nI_ge (by omega) (by omega)), if_pos (za_in hi10 (by decide)), za_cl (by omega), (h.2.2.1 i (by omega)).2.2.2.1, za_1, zb_orS (by omega)]
    by_cases hp : N (16 + 5 * i) = a
    · rw [if_neg (fun q => q hp)]
      have := ih (i + 1) (by omega)
      rw [show zS (pI N a) (i + 1) = zS (pI N a) i + 2 ^ i by simp [zS, hp]] at this
      exact this
    · rw [if_pos hp]
      have := ih (i + 1) (by omega)
      rw [show zS (pI N a) (i + 1) = zS (pI N a) i by simp [zS, hp]] at this
      exact this
theorem kX2_sayingsIn (hr : ab_isRoom r) (h : RC μ r N n m) (g : G N n m) : X2_sayingsIn E d r a μ = some (some (.int (nI (zS (pI N a) n))), μ) := by
  rw [X2_sayingsIn_q hr]
  exact kX2_sayingsIn_l hr h g n 0 (by omega)
theorem kX2_isBuried {s : Nat} (hr : ab_isRoom r) (h : RC μ r N n m) (g : G N n m) (hs : s < n) : X2_isBuried E d r (nI s) μ = some (some (.int (zb (ds N s = 99))), μ) := by
  have hn := g.n10
  have h5 := (g.2.1 s hs).2.2.1
  rw [X2_isBuried_q hr, if_pos (za_in (by omega) (by decide)), za_cl (by omega), (h.2.2.1 s hs).2.2.1, h5.1]
  by_cases e : ds N s = 99
  · rw [e, if_neg (by decide), show zb (99 = 99) = 1 from rfl]
  · rw [if_pos (by exact nI_lt (b := 99) (by omega) (by decide)), show zb (ds N s = 99) = 0 from zb_0.mpr e]
theorem kX2_buried_l (hr : ab_isRoom r) (h : RC μ r N n m) (g : G N n m) : ∀ j i, i + j = n → X2_buried_4 E (d + 1) r (nI (zS (pB N) i)) (nI i) μ = some (some (.int (nI (zS (pB N) n))), μ) := by
  have hn := g.n10
  intro j
  induction j with
  | zero =>
    intro i hi
    obtain rfl : i = n := by omega
    rw [X2_buried_4_q hr, h.sz g, if_pos (nI_le (Nat.le_refl _) (by omega))]
  | succ j ih =>
    intro i hi
    rw [X2_buried_4_q hr, h.sz g, if_neg (nI_ge (by omega) (by omega)), kX2_isBuried hr h g (by omega), ab_cI_s, za_1, zb_orS (by omega)]
    have := ih (i + 1) (by omega)
    by_cases hp : ds N i = 99
    · rw [if_neg (fun q => zb_0.mp q hp)]
      rw [show zS (pB N) (i + 1) = zS (pB N) i + 2 ^ i by simp [zS, hp]] at this
      exact this
    · rw [if_pos (zb_0.mpr hp)]
      rw [show zS (pB N) (i + 1) = zS (pB N) i by simp [zS, hp]] at this
      exact this
theorem kX2_buried (hr : ab_isRoom r) (h : RC μ r N n m) (g : G N n m) : X2_buried E (d + 1) r μ = some (some (.int (nI (zS (pB N) n))), μ) := by
  rw [X2_buried_q hr]
  exact kX2_buried_l hr h g n 0 (by omega)
end
/-! the reference's readers -/
section
variable {E : ab_E} {d : Nat} {μ : ab_M} {n m : Nat} {N : Nat → Int32} {a b : Int32}
theorem za_13 {s w : Nat} : ((13 : Int32) + ((5 : Int32) * nI s)) + nI w = nI (13 + 5 * s + w) := by
  show (nI 13 + nI 5 * nI s) + nI w = _
  rw [pk_mul, nI_add, nI_add]
theorem kX7_of {s w : Nat} (hs : s < 200) (hw : w < 5) : X7_of E d (nI s) (nI w) μ = some (some (.int (μ 77 (13 + 5 * s + w))), μ) := by
  rw [X7_of_q, za_13, if_pos (za_in (by omega) (by decide)), za_cl (by omega)]
theorem kX7_of0 {s : Nat} (hs : s < 200) : X7_of E d (nI s) (0 : Int32) μ = some (some (.int (μ 77 (13 + 5 * s))), μ) := kX7_of (w := 0) hs (by decide)
theorem kX7_of1 {s : Nat} (hs : s < 200) : X7_of E d (nI s) (1 : Int32) μ = some (some (.int (μ 77 (14 + 5 * s))), μ) := by
  have := kX7_of (E := E) (d := d) (μ := μ) (w := 1) hs (by decide); rw [show 13 + 5 * s + 1 = 14 + 5 * s by omega] at this; exact this
theorem kX7_of2 {s : Nat} (hs : s < 200) : X7_of E d (nI s) (2 : Int32) μ = some (some (.int (μ 77 (15 + 5 * s))), μ) := by
  have := kX7_of (E := E) (d := d) (μ := μ) (w := 2) hs (by decide); rw [show 13 + 5 * s + 2 = 15 + 5 * s by omega] at this; exact this
theorem kX7_of3 {s : Nat} (hs : s < 200) : X7_of E d (nI s) (3 : Int32) μ = some (some (.int (μ 77 (16 + 5 * s))), μ) := by
  have := kX7_of (E := E) (d := d) (μ := μ) (w := 3) hs (by decide); rw [show 13 + 5 * s + 3 = 16 + 5 * s by omega] at this; exact this
theorem kX7_of4 {s : Nat} (hs : s < 200) : X7_of E d (nI s) (4 : Int32) μ = some (some (.int (μ 77 (17 + 5 * s))), μ) := by
  have := kX7_of (E := E) (d := d) (μ := μ) (w := 4) hs (by decide); rw [show 13 + 5 * s + 4 = 17 + 5 * s by omega] at this; exact this
theorem za_or0 (x : Int32) : x ||| (0 : Int32) = x := by
  apply Int32.toBitVec_inj.mp
  simp
theorem kX7_saidIn_l (hN : μ 77 = N) (g : G N n m) : ∀ j i, i + j = n → X7_saidIn_4 E (d + 1) a (nI (zS (pI N a) i)) (nI i) μ = some (some (.int (nI (zS (pI N a) n))), μ) := by
  have hn := g.n10
  intro j
  induction j with
  | zero =>
    intro i hi
    obtain rfl : i = n := by omega
    rw [X7_saidIn_4_q, hN, g.1.1, if_pos (nI_le (Nat.le_refl _) (by omega))]
  | succ j ih =>
    intro i hi
    rw [X7_saidIn_4_q, hN, g.1.1, if_neg (nI_ge (by omega) (by omega)), kX7_of3 (by omega), ab_cI_s, hN, za_1, zb_orS (by omega), za_or0]
    have := ih (i + 1) (by omega)
    by_cases hp : N (16 + 5 * i) = a
    · rw [if_neg (fun q => q hp)]
      rw [show zS (pI N a) (i + 1) = zS (pI N a) i + 2 ^ i by simp [zS, hp]] at this
      exact this
    · rw [if_pos hp]
      rw [show zS (pI N a) (i + 1) = zS (pI N a) i by simp [zS, hp]] at this
      exact this
theorem kX7_saidIn (hN : μ 77 = N) (g : G N n m) : X7_saidIn E (d + 1) a μ = some (some (.int (nI (zS (pI N a) n))), μ) := by
  rw [X7_saidIn_q]
  exact kX7_saidIn_l hN g n 0 (by omega)
theorem kX7_buriedOnes_l (hN : μ 77 = N) (g : G N n m) : ∀ j i, i + j = n → X7_buriedOnes_4 E (d + 1) (nI (zS (pB N) i)) (nI i) μ = some (some (.int (nI (zS (pB N) n))), μ) := by
  have hn := g.n10
  intro j
  induction j with
  | zero =>
    intro i hi
    obtain rfl : i = n := by omega
    rw [X7_buriedOnes_4_q, hN, g.1.1, if_pos (nI_le (Nat.le_refl _) (by omega))]
  | succ j ih =>
    intro i hi
    have h5 := (g.2.1 i (by omega)).2.2.1
    rw [X7_buriedOnes_4_q, hN, g.1.1, if_neg (nI_ge (by omega) (by omega)), kX7_of2 (by omega), ab_cI_s, hN, h5.1, za_1, zb_orS (by omega), za_or0]
    have := ih (i + 1) (by omega)
    by_cases hp : ds N i = 99
    · rw [if_neg (fun q => q (by rw [hp]; rfl))]
      rw [show zS (pB N) (i + 1) = zS (pB N) i + 2 ^ i by simp [zS, hp]] at this
      exact this
    · rw [if_pos (show ¬ nI (ds N i) = (99 : Int32) from fun q => hp ((nI_eq (b := 99) (by omega) (by decide)).mp q))]
      rw [show zS (pB N) (i + 1) = zS (pB N) i by simp [zS, hp]] at this
      exact this
theorem kX7_buriedOnes (hN : μ 77 = N) (g : G N n m) : X7_buriedOnes E (d + 1) μ = some (some (.int (nI (zS (pB N) n))), μ) := by
  rw [X7_buriedOnes_q]
  exact kX7_buriedOnes_l hN g n 0 (by omega)
end
