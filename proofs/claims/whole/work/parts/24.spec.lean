/-! THE PURE STATE: the reference's own row N of numbers; what a saying, a corner is; what is good -/
def kd (N : Nat → Int32) (s : Nat) : Nat := (N (13 + 5 * s)).toNatClampNeg
def wt (N : Nat → Int32) (s : Nat) : Nat := (N (14 + 5 * s)).toNatClampNeg
def ds (N : Nat → Int32) (s : Nat) : Nat := (N (15 + 5 * s)).toNatClampNeg
def co (N : Nat → Int32) (s : Nat) : Nat := (N (16 + 5 * s)).toNatClampNeg
def hd (N : Nat → Int32) (c : Nat) : Nat := (N (7 + c)).toNatClampNeg
def GS (N : Nat → Int32) (s : Nat) : Prop := (N (13 + 5 * s) = nI (kd N s) ∧ kd N s < 6) ∧ (N (14 + 5 * s) = nI (wt N s) ∧ wt N s < 100) ∧ (N (15 + 5 * s) = nI (ds N s) ∧ ds N s < 100) ∧ (N (16 + 5 * s) = nI (co N s) ∧ co N s < 6)
/-- a text's words: its key, how many steps, its steps -/
def tk (N : Nat → Int32) (t : Nat) : Nat := (N (63 + 2 * t)).toNatClampNeg / 1000
def tl (N : Nat → Int32) (t : Nat) : Nat := (N (63 + 2 * t)).toNatClampNeg % 1000
def tc (N : Nat → Int32) (t : Nat) : List Int32 := (List.range (tl N t)).map fun k => N (91 + 96 * t + k)
/-- steps, each behind what it joins: from a depth to a depth, never above 96, names below b -/
def rp (b : Nat) : Nat → List Int32 → Option Nat
  | dp, [] => some dp
  | dp, c :: r => if 0 ≤ c then (if c.toNatClampNeg < 10000 + b ∧ dp < 96 then rp b (dp + 1) r else none)
    else if c = -10 then (if 1 ≤ dp then rp b dp r else none)
    else if -9 ≤ c then (if 2 ≤ dp then rp b (dp - 1) r else none) else none
def nb (key : Nat) : Nat := if key = 0 then 4 else 2
def GT (N : Nat → Int32) (t : Nat) : Prop := N (63 + 2 * t) = nI (1000 * tk N t + tl N t) ∧ tk N t < 3 ∧ tl N t ≤ 96 ∧ rp (nb (tk N t)) 0 (tc N t) = some 1
/-- n sayings, m texts -/
def G (N : Nat → Int32) (n m : Nat) : Prop := (N 1 = nI n ∧ n ≤ 10) ∧ (∀ s, s < n → GS N s) ∧ (∀ c, c < 6 → N (7 + c) = nI (hd N c) ∧ hd N c < 100) ∧ (∃ x, x ≤ 100 ∧ N 3 = nI x) ∧ (N 6 = nI m ∧ m ≤ 14) ∧ (∀ t, t < m → GT N t)
/-! sets, counts, sums, the best -/
def zS (p : Nat → Bool) : Nat → Nat
  | 0 => 0
  | n + 1 => if p n then zS p n + 2 ^ n else zS p n
def zN (p : Nat → Bool) : Nat → Nat
  | 0 => 0
  | n + 1 => if p n then zN p n + 1 else zN p n
def zI (f : Nat → Int) : Nat → Int
  | 0 => 0
  | n + 1 => zI f n + f n
theorem zS_lt (p : Nat → Bool) : ∀ n, zS p n < 2 ^ n
  | 0 => by simp [zS]
  | n + 1 => by
    have := zS_lt p n
    unfold zS
    split <;> rw [Nat.pow_succ] <;> omega
theorem zN_le (p : Nat → Bool) : ∀ n, zN p n ≤ n
  | 0 => by simp [zN]
  | n + 1 => by
    have := zN_le p n
    unfold zN
    split <;> omega
theorem zS_bit (p : Nat → Bool) : ∀ n s, (zS p n).testBit s = (decide (s < n) && p s)
  | 0, s => by simp [zS]
  | n + 1, s => by
    have ih := zS_bit p n s
    have hl := zS_lt p n
    unfold zS
    by_cases hp : p n = true
    · rw [if_pos hp]
      by_cases hs : s = n
      · subst hs
        rw [Nat.add_comm, Nat.testBit_two_pow_add_eq, ih]
        simp [hp]
      · rw [Nat.add_comm]
        by_cases hs2 : s < n
        · rw [Nat.testBit_two_pow_add_gt hs2, ih]
          simp [hs2, Nat.lt_succ_of_lt hs2]
        · have h1 : 2 ^ n + zS p n < 2 ^ s := by
            have : 2 ^ (n + 1) ≤ 2 ^ s := Nat.pow_le_pow_right (by decide) (by omega)
            rw [Nat.pow_succ] at this
            omega
          rw [Nat.testBit_lt_two_pow h1]
          have : ¬ s < n + 1 := by omega
          simp [this]
    · rw [if_neg hp, ih]
      by_cases hs : s = n
      · subst hs; simp [hp]
      · have : decide (s < n + 1) = decide (s < n) := by
          by_cases h : s < n
          · simp [h, Nat.lt_succ_of_lt h]
          · have : ¬ s < n + 1 := by omega
            simp [h, this]
        rw [this]
theorem zS_c {p q : Nat → Bool} : ∀ {n}, (∀ s, s < n → p s = q s) → zS p n = zS q n
  | 0, _ => rfl
  | n + 1, h => by unfold zS; rw [zS_c (fun s hs => h s (by omega)), h n (by omega)]
theorem zN_c {p q : Nat → Bool} : ∀ {n}, (∀ s, s < n → p s = q s) → zN p n = zN q n
  | 0, _ => rfl
  | n + 1, h => by unfold zN; rw [zN_c (fun s hs => h s (by omega)), h n (by omega)]
theorem zI_c {p q : Nat → Int} : ∀ {n}, (∀ s, s < n → p s = q s) → zI p n = zI q n
  | 0, _ => rfl
  | n + 1, h => by unfold zI; rw [zI_c (fun s hs => h s (by omega)), h n (by omega)]
/-- bits of Int32s out of Nats -/
theorem zb_shl {s : Nat} (h : s < 31) : (1 : Int32) <<< (nI s &&& 31) = nI (2 ^ s) := by
  have hall : ∀ s : Fin 31, (1 : Int32) <<< (nI s.val &&& 31) = nI (2 ^ s.val) := by decide +kernel
  exact hall ⟨s, h⟩
theorem zb_or (a b : Nat) : nI a ||| nI b = nI (a ||| b) := by
  unfold nI
  apply Int32.toBitVec_inj.mp
  simp [BitVec.ofNat_or]
theorem zb_and (a b : Nat) : nI a &&& nI b = nI (a &&& b) := by
  unfold nI
  apply Int32.toBitVec_inj.mp
  simp [BitVec.ofNat_and]
theorem zb_orS {p : Nat → Bool} {n : Nat} (h : n < 31) : nI (zS p n) ||| ((1 : Int32) <<< (nI n &&& 31)) = nI (zS p n + 2 ^ n) := by
  rw [zb_shl h, zb_or]
  congr 1
  rw [Nat.or_comm]
  have h := Nat.two_pow_add_eq_or_of_lt (zS_lt p n) 1
  rw [Nat.mul_one] at h
  omega
