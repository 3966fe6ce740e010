/-! the dustiest, the maid, going over; sums of dust and heed -/
/-- of those that p names the one with most of f, of several the least -/
def bst (p : Nat → Bool) (f : Nat → Nat) : Nat → Option Nat
  | 0 => none
  | n + 1 => match bst p f n with
    | none => if p n then some n else none
    | some b => if p n = true ∧ f b < f n then some n else some b
theorem bst_lt {p : Nat → Bool} {f : Nat → Nat} : ∀ {n b}, bst p f n = some b → b < n
  | 0, b, h => by cases h
  | n + 1, b, h => by
    unfold bst at h
    split at h
    · split at h
      · cases h; omega
      · cases h
    · rename_i b' e
      have := bst_lt e
      split at h
      · cases h; omega
      · cases h; omega
theorem bst_none {p : Nat → Bool} {f : Nat → Nat} : ∀ {n}, bst p f n = none ↔ ∀ s, s < n → p s = false
  | 0 => by simp [bst]
  | n + 1 => by
    have ih := bst_none (p := p) (f := f) (n := n)
    unfold bst
    cases e : bst p f n with
    | none =>
      rw [e] at ih
      simp only
      have h1 := ih.mp rfl
      constructor
      · intro h s hs
        by_cases e2 : s = n
        · subst e2
          split at h
          · cases h
          · simpa using ‹¬ p s = true›
        · exact h1 s (by omega)
      · intro h; rw [if_neg (by rw [h n (by omega)]; decide)]
    | some b =>
      rw [e] at ih
      simp only
      constructor
      · intro h; split at h <;> cases h
      · intro h
        have := ih.mpr (fun s hs => h s (by omega))
        cases this
theorem bst_c {p q : Nat → Bool} {f g : Nat → Nat} : ∀ {n}, (∀ s, s < n → p s = q s ∧ f s = g s) → bst p f n = bst q g n
  | 0, _ => rfl
  | n + 1, h => by
    unfold bst
    rw [bst_c (fun s hs => h s (by omega))]
    cases e : bst q g n with
    | none => simp only; rw [(h n (by omega)).1]
    | some b =>
      have := bst_lt e
      simp only
      rw [(h n (by omega)).1, (h n (by omega)).2, (h b (by omega)).2]
/-- the clergy -/
abbrev pC (N : Nat → Int32) (a : Int32) : Nat → Bool := fun s => decide (N (16 + 5 * s) = a ∧ (N (13 + 5 * s) = 2 ∨ N (13 + 5 * s) = 4))
def mdN (N : Nat → Int32) (n : Nat) (a : Int32) : Option Nat := match bst (pC N a) (ds N) n with
  | some b => some b
  | none => bst (pI N a) (ds N) n
theorem mdN_lt {N : Nat → Int32} {n b : Nat} {a : Int32} (h : mdN N n a = some b) : b < n := by
  unfold mdN at h
  split at h
  · rename_i e; cases h; exact bst_lt e
  · exact bst_lt h
section
variable {E : ab_E} {d : Nat} {μ : ab_M} {r n m : Nat} {N : Nat → Int32} {a b : Int32}
/-- the class's two numbers on its way: the best so far, whether it is of the clergy -/
def clA (N : Nat → Int32) (a : Int32) (i : Nat) : Int32 := cn (mdN N i a)
def clB (N : Nat → Int32) (a : Int32) (i : Nat) : Int32 := zb (bst (pC N a) (ds N) i ≠ none)
theorem cn_ne {o : Option Nat} (h : ∀ b, o = some b → b < 1000) : cn o = (-1000000005 : Int32) ↔ o = none := by
  cases o with
  | none => simp [cn]
  | some b =>
    have := h b rfl
    constructor
    · intro q
      have q : nI b = (-1000000005 : Int32) := q
      have q2 := congrArg Int32.toInt q
      rw [nI_toInt (by omega)] at q2
      have : (-1000000005 : Int32).toInt = -1000000005 := by decide
      omega
    · intro q; cases q
theorem kX0_isUnder2 : X0_isUnder E d a (2 : Int32) μ = some (some (.int (if a = 2 ∨ a = 4 then 1 else 0)), μ) := by
  rw [kX0_isUnder]
  have h1 : ¬ (2 : Int32) = 0 := by decide
  have h2 : ¬ (2 : Int32) = 1 := by decide
  simp [h1, h2]
theorem kX2_dustiestIn_l (hr : ab_isRoom r) (h : RC μ r N n m) (g : G N n m) : ∀ j i o5 o6, i + j = n → X2_dustiestIn_8 E (d + 1) r a (clA N a i) (clB N a i) (nI i) o5 o6 μ = some (some (.int (clA N a n)), μ) := by
  have hn := g.n10
  intro j
  induction j with
  | zero =>
    intro i o5 o6 hi
    obtain rfl : i = n := by omega
    rw [X2_dustiestIn_8_q hr, h.sz g, if_pos (nI_le (Nat.le_refl _) (by omega))]
  | succ j ih =>
    intro i o5 o6 hi
    have ih := fun o5 o6 => ih (i + 1) o5 o6 (by omega)
    have hi10 := za_in (show i < 10 by omega) (show 10 < 2 ^ 31 by decide)
    have rs := h.2.2.1 i (by omega)
    have gs := g.2.1 i (by omega)
    have gi : ds N i < 100 := gs.2.2.1.2
    rw [X2_dustiestIn_8_q hr, h.sz g, if_neg (nI_ge (by omega) (by omega))]
    simp only [if_pos hi10, za_cl (show i < 2 ^ 31 by omega), rs.2.2.2.1, rs.1, rs.2.2.1, kX0_isUnder2, ab_cI_s, za_1]
    by_cases e1 : N (16 + 5 * i) = a
    · rw [if_pos e1]
      have hP : pI N a i = true := by simp [e1]
      by_cases e2 : N (13 + 5 * i) = 2 ∨ N (13 + 5 * i) = 4
      · have hC : pC N a i = true := by simp [e1, e2]
        rw [if_pos e2]
        cases eb : bst (pC N a) (ds N) i with
        | none =>
          -- none of the clergy yet: i is the first
          have b1 : bst (pC N a) (ds N) (i + 1) = some i := by simp only [bst, eb]; rw [if_pos hC]
          have a1 : clA N a (i + 1) = nI i := by unfold clA mdN; rw [b1]; rfl
          have a2 : clB N a (i + 1) = 1 := by unfold clB zb; rw [b1]; rfl
          have a3 : clB N a i = 0 := by unfold clB zb; rw [eb]; rfl
          rw [a1, a2] at ih
          rw [a3]
          by_cases e3 : clA N a i = (-1000000005 : Int32)
          · simp [e3, ih]
          · simp [e3, ih]
        | some b =>
          have hb := bst_lt eb
          have a0 : clA N a i = nI b := by unfold clA mdN; rw [eb]; rfl
          have a3 : clB N a i = 1 := by unfold clB zb; rw [eb]; rfl
          have hne : ¬ nI b = (-1000000005 : Int32) := fun q => by
            have := (cn_ne (o := some b) (fun x hx => by cases hx; omega)).mp q
            cases this
          have rsb := (h.2.2.1 b (by omega)).2.2.1
          have gsb := (g.2.1 b (by omega)).2.2.1
          rw [a0, a3, if_neg hne]
          simp only [if_pos (za_in (show b < 10 by omega) (show 10 < 2 ^ 31 by decide)), za_cl (show b < 2 ^ 31 by omega), rsb, gsb.1, gs.2.2.1.1]
          by_cases e3 : ds N b < ds N i
          · have b1 : bst (pC N a) (ds N) (i + 1) = some i := by simp only [bst, eb]; rw [if_pos ⟨hC, e3⟩]
            have a1 : clA N a (i + 1) = nI i := by unfold clA mdN; rw [b1]; rfl
            have a2 : clB N a (i + 1) = 1 := by unfold clB zb; rw [b1]; rfl
            rw [a1, a2] at ih
            simp [nI_ge e3 (show ds N i < 2 ^ 31 by omega), ih]
          · have b1 : bst (pC N a) (ds N) (i + 1) = some b := by simp only [bst, eb]; rw [if_neg (fun q => e3 q.2)]
            have a1 : clA N a (i + 1) = nI b := by unfold clA mdN; rw [b1]; rfl
            have a2 : clB N a (i + 1) = 1 := by unfold clB zb; rw [b1]; rfl
            rw [a1, a2] at ih
            simp [nI_le (show ds N i ≤ ds N b by omega) (show ds N b < 2 ^ 31 by omega), ih]
      · have hC : pC N a i = false := by simp [e2]
        rw [if_neg e2]
        have bC : bst (pC N a) (ds N) (i + 1) = bst (pC N a) (ds N) i := by
          simp only [bst, hC]
          cases bst (pC N a) (ds N) i with
          | none => simp
          | some b => simp
        cases eb : bst (pC N a) (ds N) i with
        | some b =>
          have hb := bst_lt eb
          rw [eb] at bC
          have a0 : clA N a i = nI b := by unfold clA mdN; rw [eb]; rfl
          have a3 : clB N a i = 1 := by unfold clB zb; rw [eb]; rfl
          have a1 : clA N a (i + 1) = nI b := by unfold clA mdN; rw [bC]; rfl
          have a2 : clB N a (i + 1) = 1 := by unfold clB zb; rw [bC]; rfl
          have hne : ¬ nI b = (-1000000005 : Int32) := fun q => by
            have := (cn_ne (o := some b) (fun x hx => by cases hx; omega)).mp q
            cases this
          rw [a1, a2] at ih
          rw [a0, a3, if_neg hne]
          simp [ih]
        | none =>
          rw [eb] at bC
          have a3 : clB N a i = 0 := by unfold clB zb; rw [eb]; rfl
          have a2 : clB N a (i + 1) = 0 := by unfold clB zb; rw [bC]; rfl
          have a0 : clA N a i = cn (bst (pI N a) (ds N) i) := by unfold clA mdN; rw [eb]
          have a1 : clA N a (i + 1) = cn (bst (pI N a) (ds N) (i + 1)) := by unfold clA mdN; rw [bC]
          rw [a1, a2] at ih
          rw [a0, a3]
          cases ec : bst (pI N a) (ds N) i with
          | none =>
            rw [show bst (pI N a) (ds N) (i + 1) = some i by simp only [bst, ec]; rw [if_pos hP]] at ih
            have ih : ∀ o5 o6, X2_dustiestIn_8 E (d + 1) r a (nI i) 0 (nI (i + 1)) o5 o6 μ = some (some (.int (clA N a n)), μ) := ih
            simp [cn, ih]
          | some b =>
            have hb := bst_lt ec
            have hne : ¬ nI b = (-1000000005 : Int32) := fun q => by
              have := (cn_ne (o := some b) (fun x hx => by cases hx; omega)).mp q
              cases this
            have rsb := (h.2.2.1 b (by omega)).2.2.1
            have gsb := (g.2.1 b (by omega)).2.2.1
            show (if nI b = (-1000000005 : Int32) then _ else _) = _
            rw [if_neg hne]
            simp only [cn, if_pos (za_in (show b < 10 by omega) (show 10 < 2 ^ 31 by decide)), za_cl (show b < 2 ^ 31 by omega), rsb, gsb.1, gs.2.2.1.1]
            by_cases e3 : ds N b < ds N i
            · rw [show bst (pI N a) (ds N) (i + 1) = some i by simp only [bst, ec]; rw [if_pos ⟨hP, e3⟩]] at ih
              have ih : ∀ o5 o6, X2_dustiestIn_8 E (d + 1) r a (nI i) 0 (nI (i + 1)) o5 o6 μ = some (some (.int (clA N a n)), μ) := ih
              simp [nI_ge e3 (show ds N i < 2 ^ 31 by omega), ih]
            · rw [show bst (pI N a) (ds N) (i + 1) = some b by simp only [bst, ec]; rw [if_neg (fun q => e3 q.2)]] at ih
              have ih : ∀ o5 o6, X2_dustiestIn_8 E (d + 1) r a (nI b) 0 (nI (i + 1)) o5 o6 μ = some (some (.int (clA N a n)), μ) := ih
              simp [nI_le (show ds N i ≤ ds N b by omega) (show ds N b < 2 ^ 31 by omega), ih]
    · rw [if_neg e1]
      have hP : pI N a i = false := by simp [e1]
      have hC : pC N a i = false := by simp [e1]
      have bC : bst (pC N a) (ds N) (i + 1) = bst (pC N a) (ds N) i := by
        simp only [bst, hC]
        cases bst (pC N a) (ds N) i with
        | none => simp
        | some b => simp
      have bP : bst (pI N a) (ds N) (i + 1) = bst (pI N a) (ds N) i := by
        simp only [bst, hP]
        cases bst (pI N a) (ds N) i with
        | none => simp
        | some b => simp
      have a1 : clA N a (i + 1) = clA N a i := by unfold clA mdN; rw [bC, bP]
      have a2 : clB N a (i + 1) = clB N a i := by unfold clB; rw [bC]
      rw [a1, a2] at ih
      exact ih _ _
theorem kX2_dustiestIn (hr : ab_isRoom r) (h : RC μ r N n m) (g : G N n m) : X2_dustiestIn E (d + 1) r a μ = some (some (.int (cn (mdN N n a))), μ) := by
  rw [X2_dustiestIn_q hr]
  exact kX2_dustiestIn_l hr h g n 0 none none (by omega)
end
