/-! what a text gives, on both sides -/
def tw (c a b : Int32) : Int32 :=
  if c = -8 then a * b else if c = -7 then a - b else if c = -6 then a + b else if c = -5 then zb (b < a) else if c = -4 then zb (a = b) else if c = -3 then zb (a < b)
  else if c = -2 then zb (¬ a = 0 ∧ ¬ b = 0) else if c = -1 then zb (¬ a = 0 ∨ ¬ b = 0) else if b = 0 then 0 else a / b
def lf (fs : Nat → Int32) (c : Int32) : Int32 := if 10000 ≤ c then fs (c.toNatClampNeg - 10000) else c
def ev1 (fs : Nat → Int32) : List Int32 → List Int32 → List Int32
  | st, [] => st
  | st, c :: r => if 0 ≤ c then ev1 fs (lf fs c :: st) r else if c = -10 then (match st with
      | a :: q => ev1 fs (zb (a = 0) :: q) r
      | [] => ev1 fs [] r)
    else match st with
      | b :: a :: q => ev1 fs (tw c a b :: q) r
      | st => ev1 fs st r
def vlN (N : Nat → Int32) (t : Nat) (fs : Nat → Int32) : Int32 := (ev1 fs [] (tc N t)).headD 0
theorem ev1_c {fs gs : Nat → Int32} {b : Nat} (h : ∀ i, i < b → fs i = gs i) : ∀ (r st : List Int32) (dp : Nat), rp b dp r ≠ none → ev1 fs st r = ev1 gs st r
  | [], st, dp, _ => rfl
  | c :: r, st, dp, hr => by
    unfold rp at hr
    unfold ev1
    by_cases h0 : 0 ≤ c
    · rw [if_pos h0] at hr
      split at hr
      · rename_i hq
        have : lf fs c = lf gs c := by
          unfold lf
          split
          · rename_i h1
            rw [h _ (by
              rw [Int32.le_iff_toInt_le] at h1
              have e : (10000 : Int32).toInt = 10000 := by decide
              have e2 : c.toInt = (c.toNatClampNeg : Int) := by
                rw [Int32.toNatClampNeg]; omega
              omega)]
          · rfl
        rw [if_pos h0, if_pos h0, this]
        exact ev1_c h r _ _ hr
      · exact absurd rfl hr
    · rw [if_neg h0] at hr
      rw [if_neg h0, if_neg h0]
      by_cases h1 : c = -10
      · rw [if_pos h1] at hr
        rw [if_pos h1, if_pos h1]
        split at hr
        · cases st with
          | nil => exact ev1_c h r _ _ hr
          | cons a q => exact ev1_c h r _ _ hr
        · exact absurd rfl hr
      · rw [if_neg h1] at hr
        rw [if_neg h1, if_neg h1]
        split at hr
        · split at hr
          · split
            · exact ev1_c h r _ _ hr
            · exact ev1_c h r _ _ hr
          · exact absurd rfl hr
        · exact absurd rfl hr
def stR (μ : ab_M) (cl : Nat) (st : List Int32) : Prop := ∀ i x, st[i]? = some x → μ cl (st.length - 1 - i) = x
theorem stR_push {μ : ab_M} {cl : Nat} {st : List Int32} {x : Int32} (h : stR μ cl st) : stR (ab_up μ cl st.length x) cl (x :: st) := by
  intro i y hy
  cases i with
  | zero => cases hy; rw [show (x :: st).length - 1 - 0 = st.length by simp, za_up_s]
  | succ i =>
    have hy : st[i]? = some y := by simpa using hy
    have hl := (List.getElem?_eq_some_iff.mp hy).1
    rw [show (x :: st).length - 1 - (i + 1) = st.length - 1 - i by simp; omega, za_up_j (by omega)]
    exact h i y hy
theorem stR_top {μ : ab_M} {cl : Nat} {a x : Int32} {q : List Int32} (h : stR μ cl (a :: q)) : stR (ab_up μ cl q.length x) cl (x :: q) := by
  intro i y hy
  cases i with
  | zero => cases hy; rw [show (x :: q).length - 1 - 0 = q.length by simp, za_up_s]
  | succ i =>
    have hy : q[i]? = some y := by simpa using hy
    have hl := (List.getElem?_eq_some_iff.mp hy).1
    have := h (i + 1) y (by simpa using hy)
    rw [show (a :: q).length - 1 - (i + 1) = (x :: q).length - 1 - (i + 1) by simp] at this
    rw [za_up_j (by simp; omega)]
    exact this
theorem stR_bin {μ : ab_M} {cl : Nat} {a b x : Int32} {q : List Int32} (h : stR μ cl (b :: a :: q)) : stR (ab_up μ cl q.length x) cl (x :: q) := by
  intro i y hy
  cases i with
  | zero => cases hy; rw [show (x :: q).length - 1 - 0 = q.length by simp, za_up_s]
  | succ i =>
    have hy : q[i]? = some y := by simpa using hy
    have hl := (List.getElem?_eq_some_iff.mp hy).1
    have := h (i + 2) y (by simpa using hy)
    rw [show (b :: a :: q).length - 1 - (i + 2) = (x :: q).length - 1 - (i + 1) by simp] at this
    rw [za_up_j (by simp; omega)]
    exact this
theorem neg9 {c : Int32} (h0 : ¬ 0 ≤ c) (h1 : -9 ≤ c) : c = -1 ∨ c = -2 ∨ c = -3 ∨ c = -4 ∨ c = -5 ∨ c = -6 ∨ c = -7 ∨ c = -8 ∨ c = -9 := by
  rw [Int32.le_iff_toInt_le] at h0 h1
  have e0 : (0 : Int32).toInt = 0 := by decide
  have e9 : (-9 : Int32).toInt = -9 := by decide
  have hall : ∀ z : Int, c.toInt = z → c = Int32.ofInt z := fun z hz => by rw [← hz, Int32.ofInt_toInt]
  rcases (show c.toInt = -1 ∨ c.toInt = -2 ∨ c.toInt = -3 ∨ c.toInt = -4 ∨ c.toInt = -5 ∨ c.toInt = -6 ∨ c.toInt = -7 ∨ c.toInt = -8 ∨ c.toInt = -9 by omega) with h | h | h | h | h | h | h | h | h <;> rw [hall _ h] <;> decide
section
variable {E : ab_E} {d : Nat} {μ : ab_M} {r n m : Nat} {N : Nat → Int32} {a b c : Int32}
theorem kX7_two : X7_two E d c a b μ = some (some (.int (tw c a b)), μ) := by
  rw [X7_two_q]
  unfold tw zb
  by_cases h8 : c = -8
  · simp [h8]
  by_cases h7 : c = -7
  · simp [h7]
  by_cases h6 : c = -6
  · simp [h6]
  by_cases h5 : c = -5
  · by_cases q : b < a
    · simp [h5, q, za_le.mpr q]
    · simp [h5, q, za_lt.mp q]
  by_cases h4 : c = -4
  · by_cases q : a = b <;> simp [h4, q]
  by_cases h3 : c = -3
  · by_cases q : a < b
    · simp [h3, q, za_le.mpr q]
    · simp [h3, q, za_lt.mp q]
  by_cases h2 : c = -2
  · by_cases q : a = 0 <;> by_cases q2 : b = 0 <;> simp [h2, q, q2]
  by_cases h1 : c = -1
  · by_cases q : a = 0 <;> by_cases q2 : b = 0 <;> simp [h1, q, q2]
  by_cases q : b = 0 <;> simp [h8, h7, h6, h5, h4, h3, h2, h1, q]
theorem kX1_join (h0 : ¬ 0 ≤ c) (h1 : -9 ≤ c) : X1_join E d (-(en c)) a b μ = some (some (.int (tw c a b)), μ) := by
  rw [X1_join_q]
  rcases neg9 h0 h1 with rfl | rfl | rfl | rfl | rfl | rfl | rfl | rfl | rfl
  · rw [show -(en (-1)) = 124 by decide]
    by_cases q : a = 0 <;> by_cases q2 : b = 0 <;> simp [tw, q, q2]
  · rw [show -(en (-2)) = 38 by decide]
    by_cases q : a = 0 <;> by_cases q2 : b = 0 <;> simp [tw, q, q2]
  · rw [show -(en (-3)) = 60 by decide]
    by_cases q : a < b
    · simp [tw, q, za_le.mpr q]
    · simp [tw, q, za_lt.mp q]
  · rw [show -(en (-4)) = 61 by decide]
    by_cases q : a = b <;> simp [tw, q]
  · rw [show -(en (-5)) = 62 by decide]
    by_cases q : b < a
    · simp [tw, q, za_le.mpr q]
    · simp [tw, q, za_lt.mp q]
  · rw [show -(en (-6)) = 43 by decide]
    simp [tw]
  · rw [show -(en (-7)) = 45 by decide]
    simp [tw]
  · rw [show -(en (-8)) = 42 by decide]
    simp [tw]
  · rw [show -(en (-9)) = 47 by decide]
    by_cases q : b = 0 <;> simp [tw, q]
end
