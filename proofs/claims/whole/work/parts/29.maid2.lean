/-! the reference's maid; going over, on both sides -/
def cm (o : Option Nat) : Int32 := match o with
  | none => -1
  | some t => nI t
def wN (μ : ab_M) (N : Nat → Int32) : ab_M := ab_upA μ 77 N
theorem wN_77 {μ : ab_M} {N : Nat → Int32} : wN μ N 77 = N := by simp [wN, ab_upA]
theorem wN_a {μ : ab_M} {N : Nat → Int32} {a : Nat} (h : a ≠ 77) : wN μ N a = μ a := by simp [wN, ab_upA, h]
theorem wN_w {μ : ab_M} {N N' : Nat → Int32} : wN (wN μ N) N' = wN μ N' := by funext a; simp only [wN, ab_upA]; split <;> rfl
theorem wN_up {μ : ab_M} {N : Nat → Int32} {j : Nat} {x : Int32} : ab_up (wN μ N) 77 j x = wN μ (upd N j x) := by
  funext a
  simp only [wN, ab_upA, ab_up]
  by_cases h : a = 77
  · simp [h]
  · simp [h]
theorem wN_0 {μ : ab_M} {N : Nat → Int32} (h : μ 77 = N) : wN μ N = μ := by
  funext a; simp only [wN, ab_upA]; split
  · rename_i e; rw [e, h]
  · rfl
theorem wN_up0 {μ : ab_M} {N : Nat → Int32} {j : Nat} {x : Int32} (h : μ 77 = N) : ab_up μ 77 j x = wN μ (upd N j x) := by
  rw [← wN_up, wN_0 h]
theorem upd_s {N : Nat → Int32} {i : Nat} {x : Int32} : upd N i x i = x := by unfold upd; rw [if_pos rfl]
theorem upd_n {N : Nat → Int32} {i j : Nat} {x : Int32} (h : j ≠ i) : upd N i x j = N j := by unfold upd; rw [if_neg h]
theorem upd_e {N : Nat → Int32} {i : Nat} {x : Int32} (h : N i = x) : upd N i x = N := by
  funext j; unfold upd; split
  · rename_i e; rw [e, h]
  · rfl
/-- a saying gone over -/
def goN (N : Nat → Int32) (s : Nat) : Nat → Int32 := if ds N s = 0 then N else upd (upd (upd N (15 + 5 * s) 0) (17 + 5 * s) (N (17 + 5 * s) + 1)) 4 (N 4 + 1)
section
variable {E : ab_E} {d : Nat} {μ : ab_M} {r n m : Nat} {N : Nat → Int32} {a b : Int32}
theorem kX7_dustiest_l {q : Nat} (hq : q < 1024) (hN : μ 77 = N) (g : G N n m) : ∀ j i, i + j = n → X7_dustiest_4 E (d + 1) (nI q) (cm (bst (fun s => q.testBit s) (ds N) i)) (nI i) μ = some (some (.int (cm (bst (fun s => q.testBit s) (ds N) n))), μ) := by
  have hn := g.n10
  intro j
  induction j with
  | zero =>
    intro i hi
    obtain rfl : i = n := by omega
    rw [X7_dustiest_4_q, hN, g.1.1, if_pos (nI_le (Nat.le_refl _) (by omega))]
  | succ j ih =>
    intro i hi
    have ih := ih (i + 1) (by omega)
    have gi := (g.2.1 i (by omega)).2.2.1
    rw [X7_dustiest_4_q, hN, g.1.1, if_neg (nI_ge (by omega) (by omega)), za_1]
    by_cases e1 : q.testBit i = true
    · rw [if_neg (fun z => z ((zb_bit hq (by omega)).mpr e1))]
      cases eb : bst (fun s => q.testBit s) (ds N) i with
      | none =>
        rw [show bst (fun s => q.testBit s) (ds N) (i + 1) = some i by simp only [bst, eb]; rw [if_pos e1]] at ih
        rw [if_pos (show cm none < 0 by decide)]
        exact ih
      | some b =>
        have hb := bst_lt eb
        have gb := (g.2.1 b (by omega)).2.2.1
        rw [if_neg (show ¬ cm (some b) < 0 from nI_pos (by omega)), kX7_of2 (show i < 200 by omega), ab_cI_s]
        show ab_cI (X7_of E d (nI b) 2 μ) _ = _
        rw [kX7_of2 (show b < 200 by omega), ab_cI_s, hN, gi.1, gb.1]
        by_cases e3 : ds N b < ds N i
        · rw [show bst (fun s => q.testBit s) (ds N) (i + 1) = some i by simp only [bst, eb]; rw [if_pos ⟨e1, e3⟩]] at ih
          rw [if_neg (nI_ge e3 (by omega))]
          exact ih
        · rw [show bst (fun s => q.testBit s) (ds N) (i + 1) = some b by simp only [bst, eb]; rw [if_neg (fun z => e3 z.2)]] at ih
          rw [if_pos (nI_le (by omega) (by omega))]
          exact ih
    · rw [if_pos (fun z => e1 ((zb_bit hq (by omega)).mp z))]
      rw [show bst (fun s => q.testBit s) (ds N) (i + 1) = bst (fun s => q.testBit s) (ds N) i by
        simp only [bst]
        cases bst (fun s => q.testBit s) (ds N) i with
        | none => simp [e1]
        | some b => simp [e1]] at ih
      exact ih
theorem kX7_dustiest {q : Nat} (hq : q < 1024) (hN : μ 77 = N) (g : G N n m) : X7_dustiest E (d + 1) (nI q) μ = some (some (.int (cm (bst (fun s => q.testBit s) (ds N) n))), μ) := by
  rw [X7_dustiest_q]
  exact kX7_dustiest_l hq hN g n 0 (by omega)
abbrev pK (N : Nat → Int32) : Nat → Bool := fun s => decide (N (13 + 5 * s) = 2 ∨ N (13 + 5 * s) = 4)
theorem kX7_maid (hN : μ 77 = N) (g : G N n m) : X7_maid E (d + 2) μ = some (some (.int (cm (mdN N n (N 2 - N 2 / 6 * 6)))), μ) := by
  have hn := g.n10
  have hp : (2 : Nat) ^ n ≤ 2 ^ 10 := Nat.pow_le_pow_right (by decide) hn
  rw [X7_maid_q, kX7_saidIn hN g, ab_cI_s, hN]
  generalize N 2 - N 2 / 6 * 6 = pl
  have hS : zS (pI N pl) n < 1024 := Nat.lt_of_lt_of_le (zS_lt _ _) hp
  have fin : ∀ o, X7_maid_18 E (d + 2) (nI (zS (pI N pl) n)) (nI (zS (pK N) n)) (nI n) o μ = some (some (.int (cm (mdN N n pl))), μ) := by
    intro o
    rw [X7_maid_18_q, hN, g.1.1, if_pos (nI_le (Nat.le_refl _) (by omega)), zb_and]
    generalize hq : zS (pI N pl) n &&& zS (pK N) n = q
    have hq1 : q < 1024 := by rw [← hq]; exact Nat.lt_of_le_of_lt Nat.and_le_left hS
    have hqb : ∀ s, s < n → q.testBit s = pC N pl s := by
      intro s hs
      rw [← hq, Nat.testBit_and, zS_bit, zS_bit]
      simp [hs]
    have e1 : bst (fun s => q.testBit s) (ds N) n = bst (pC N pl) (ds N) n := bst_c (fun s hs => ⟨hqb s hs, rfl⟩)
    have e2 : bst (fun s => (zS (pI N pl) n).testBit s) (ds N) n = bst (pI N pl) (ds N) n := bst_c (fun s hs => ⟨by rw [zS_bit]; simp [hs], rfl⟩)
    by_cases e0 : q = 0
    · rw [if_pos (by rw [e0]; rfl), kX7_dustiest hS hN g, ab_cI_s, e2]
      have : bst (pC N pl) (ds N) n = none := bst_none.mpr (fun s hs => by rw [← hqb s hs, e0]; simp)
      unfold mdN; rw [this]
    · rw [if_neg (show ¬ nI q = (0 : Int32) from fun z => e0 ((nI_eq (b := 0) (by omega) (by decide)).mp z)), kX7_dustiest hq1 hN g, ab_cI_s, e1]
      cases eb : bst (pC N pl) (ds N) n with
      | some b => unfold mdN; rw [eb]
      | none =>
        have hz := bst_none.mp eb
        exact absurd (Nat.eq_of_testBit_eq (fun i => by
          rw [Nat.zero_testBit]
          by_cases hi : i < n
          · rw [hqb i hi]; exact hz i hi
          · rw [← hq, Nat.testBit_and, zS_bit]; simp [hi])) e0
  have : ∀ j i o, i + j = n → X7_maid_18 E (d + 2) (nI (zS (pI N pl) n)) (nI (zS (pK N) i)) (nI i) o μ = some (some (.int (cm (mdN N n pl))), μ) := by
    intro j
    induction j with
    | zero =>
      intro i o hi
      obtain rfl : i = n := by omega
      exact fin o
    | succ j ih =>
      intro i o hi
      have ih := fun o => ih (i + 1) o (by omega)
      rw [X7_maid_18_q, hN, g.1.1, if_neg (nI_ge (by omega) (by omega))]
      simp only [kX7_of0 (show i < 200 by omega), ab_cI_s, hN, za_1, za_or0, zb_orS (show i < 31 by omega)]
      by_cases e1 : N (13 + 5 * i) = 2
      · rw [show zS (pK N) (i + 1) = zS (pK N) i + 2 ^ i by simp [zS, e1]] at ih
        simp [e1, ih]
      · by_cases e2 : N (13 + 5 * i) = 4
        · rw [show zS (pK N) (i + 1) = zS (pK N) i + 2 ^ i by simp [zS, e2]] at ih
          simp [e2, ih]
        · rw [show zS (pK N) (i + 1) = zS (pK N) i by simp [zS, e1, e2]] at ih
          simp [e1, e2, ih]
  exact this n 0 none (by omega)
theorem kX2_goOver {s : Nat} (hr : ab_isRoom r) (h : RC μ r N n m) (g : G N n m) (hs : s < n) : ∃ μ', X2_goOver E d r (nI s) μ = some (none, μ') ∧ RC μ' r (goN N s) n m ∧ ∀ a, ¬ (r ≤ a ∧ a < r + 8) → μ' a = μ a := by
  have hn := g.n10
  have hm := g.2.2.2.2.1.2
  have gs := (g.2.1 s hs).2.2.1
  have rs := h.2.2.1 s hs
  rw [X2_goOver_q hr]
  simp only [if_pos (za_in (show s < 10 by omega) (show 10 < 2 ^ 31 by decide)), za_cl (show s < 2 ^ 31 by omega), rs.2.2.1, gs.1]
  unfold goN
  by_cases e : ds N s = 0
  · rw [if_pos (by rw [e]; decide), if_pos e]
    exact ⟨μ, rfl, h, fun _ _ => rfl⟩
  · rw [if_neg (show ¬ nI (ds N s) ≤ 0 from nI_ge (a := 0) (by omega) (by omega)), if_neg e]
    refine ⟨_, rfl, ?_, fun a ha => ?_⟩
    · have h1 := h.say (x := 0) (j := 2) hr hm hs hn (by decide)
      have h2 := h1.say (x := N (17 + 5 * s) + 1) (j := 4) hr hm hs hn (by decide)
      have h3 := h2.num (x := N 4 + 1) (f := 11) (q := 4) hr hm (by simp)
      rw [show 13 + 5 * s + 2 = 15 + 5 * s by omega, show 13 + 5 * s + 4 = 17 + 5 * s by omega] at h3
      have e1 : ab_up μ (r + 3) s 0 (r + 5) s + 1 = N (17 + 5 * s) + 1 := by rw [za_up_a (by omega), rs.2.2.2.2]
      have e2 : ab_up (ab_up μ (r + 3) s 0) (r + 5) s (N (17 + 5 * s) + 1) r 11 + 1 = N 4 + 1 := by rw [za_up_a (by omega), za_up_a (by omega), h.1.2.2.2.1]
      rw [e1, e2]
      exact h3
    · rw [za_up_a (by omega), za_up_a (by omega), za_up_a (by omega)]
theorem G.go {s : Nat} (g : G N n m) (hs : s < n) : G (goN N s) n m := by
  unfold goN
  split
  · exact g
  · have h1 := g.say (x := 0) (j := 2) hs (by decide) (Or.inr (Or.inr (Or.inl ⟨rfl, 0, by decide, rfl⟩)))
    have h2 := h1.say (x := N (17 + 5 * s) + 1) (j := 4) hs (by decide) (Or.inr (Or.inr (Or.inr (Or.inr rfl))))
    have h3 := h2.num (x := N 4 + 1) (q := 4) (by simp)
    rw [show 13 + 5 * s + 2 = 15 + 5 * s by omega, show 13 + 5 * s + 4 = 17 + 5 * s by omega] at h3
    exact h3
theorem kX7_put {s w : Nat} (hs : s < 200) (hw : w < 5) : X7_put E d (nI s) (nI w) a μ = some (none, ab_up μ 77 (13 + 5 * s + w) a) := by
  rw [X7_put_q, za_13, if_pos (za_in (by omega) (by decide)), za_cl (by omega)]
theorem kX7_put0 {s : Nat} (hs : s < 200) : X7_put E d (nI s) (0 : Int32) a μ = some (none, ab_up μ 77 (13 + 5 * s) a) := kX7_put (w := 0) hs (by decide)
theorem kX7_put1 {s : Nat} (hs : s < 200) : X7_put E d (nI s) (1 : Int32) a μ = some (none, ab_up μ 77 (14 + 5 * s) a) := by
  have := kX7_put (E := E) (d := d) (μ := μ) (a := a) (w := 1) hs (by decide); rw [show 13 + 5 * s + 1 = 14 + 5 * s by omega] at this; exact this
theorem kX7_put2 {s : Nat} (hs : s < 200) : X7_put E d (nI s) (2 : Int32) a μ = some (none, ab_up μ 77 (15 + 5 * s) a) := by
  have := kX7_put (E := E) (d := d) (μ := μ) (a := a) (w := 2) hs (by decide); rw [show 13 + 5 * s + 2 = 15 + 5 * s by omega] at this; exact this
theorem kX7_put3 {s : Nat} (hs : s < 200) : X7_put E d (nI s) (3 : Int32) a μ = some (none, ab_up μ 77 (16 + 5 * s) a) := by
  have := kX7_put (E := E) (d := d) (μ := μ) (a := a) (w := 3) hs (by decide); rw [show 13 + 5 * s + 3 = 16 + 5 * s by omega] at this; exact this
theorem kX7_put4 {s : Nat} (hs : s < 200) : X7_put E d (nI s) (4 : Int32) a μ = some (none, ab_up μ 77 (17 + 5 * s) a) := by
  have := kX7_put (E := E) (d := d) (μ := μ) (a := a) (w := 4) hs (by decide); rw [show 13 + 5 * s + 4 = 17 + 5 * s by omega] at this; exact this
theorem kX7_goesOver {s : Nat} (hN : μ 77 = N) (g : G N n m) (hs : s < n) : X7_goesOver E (d + 1) (nI s) μ = some (some (.int (N (15 + 5 * s))), wN μ (goN N s)) := by
  have hn := g.n10
  have gs := (g.2.1 s hs).2.2.1
  have h2 : s < 200 := by omega
  rw [X7_goesOver_q]
  simp only [kX7_of2 h2, kX7_put2 h2, kX7_of4 h2, kX7_put4 h2, ab_cI_s, ab_cV_s, wN_up0 hN, wN_up, wN_77, hN, gs.1]
  unfold goN
  by_cases e : ds N s = 0
  · simp only [e, show nI 0 ≤ (0 : Int32) from by decide, if_true, za_a0]
    rw [upd_e (i := 15 + 5 * s) (show N (15 + 5 * s) = 0 by rw [gs.1, e]; rfl), upd_e (i := 17 + 5 * s) rfl, upd_e (i := 4) rfl]
  · simp only [show ¬ nI (ds N s) ≤ (0 : Int32) from nI_ge (a := 0) (by omega) (by omega), if_false, e]
    rw [upd_n (show 17 + 5 * s ≠ 15 + 5 * s by omega), upd_n (show 4 ≠ 17 + 5 * s by omega), upd_n (show 4 ≠ 15 + 5 * s by omega)]
end
