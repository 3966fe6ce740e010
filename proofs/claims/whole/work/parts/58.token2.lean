/-! tokens: the reference's -/
def nmr (B : Nat → Nat) : Nat → Nat → Nat → Nat
  | 0, _, v => v
  | j + 1, k, v => nmr B j (k + 1) (10 * v + (B k - 48))
/-- the number that the first four figures make -/
def num (B : Nat → Nat) (f s : Nat) : Nat := nmr B (min 4 (s - f)) f 0
section
variable {E : ab_E} {d : Nat} {μ μ' μ'' : ab_M} {z : Nat} {B : Nat → Nat}
def RB (μ : ab_M) (z : Nat) (B : Nat → Nat) : Prop := z ≤ 96 ∧ (∀ k, k < z → B k < 256) ∧ μ 76 6 = nI z ∧ ∀ k, k < z → μ 81 k = nI (B k)
def FR (μ μ' : ab_M) : Prop := (∀ a, a ≠ 76 → μ' a = μ a) ∧ ∀ j, ¬ (7 ≤ j ∧ j ≤ 11) → μ' 76 j = μ 76 j
theorem FR.t (h : FR μ μ') (h2 : FR μ' μ'') : FR μ μ'' := ⟨fun a ha => (h2.1 a ha).trans (h.1 a ha), fun j a => (h2.2 j a).trans (h.2 j a)⟩
theorem FR.rf : FR μ μ := ⟨fun _ _ => rfl, fun _ _ => rfl⟩
theorem RB.f (h : RB μ z B) (f : FR μ μ') : RB μ' z B := ⟨h.1, h.2.1, by rw [f.2 6 (by decide)]; exact h.2.2.1, fun k hk => by rw [f.1 81 (by decide)]; exact h.2.2.2 k hk⟩
theorem FR_u {j : Nat} {x : Int32} (hj : 7 ≤ j ∧ j ≤ 11) : FR μ (ab_up μ 76 j x) := ⟨fun a ha => za_up_a ha, fun i hi => za_up_j (by omega)⟩
theorem kX7_isLetter {k : Nat} (h : RB μ z B) (hk : k < 2 ^ 31) : X7_isLetter E d (nI k) μ = some (some (.int (zb (srt z B k = 1))), μ) := by
  obtain ⟨hz, hB, h1, h2⟩ := h
  rw [X7_isLetter_q, h1]
  unfold srt
  by_cases hkz : k < z
  · have hb := hB k hkz
    have i96 := za_in (show k < 96 by omega) (show 96 < 2 ^ 31 by decide)
    rw [if_neg (nI_ge hkz (by omega)), if_pos hkz, if_pos i96, if_pos i96, za_cl hk, h2 k hkz]
    by_cases c1 : B k < 97
    · rw [if_pos (show nI (B k) < (97 : Int32) from nI_lt (b := 97) c1 (by decide)), if_neg (by omega)]
      by_cases c3 : 48 ≤ B k ∧ B k ≤ 57
      · rw [if_pos c3, zb_f (by decide)]
      · rw [if_neg c3, zb_f (by decide)]
    · rw [if_neg (show ¬ nI (B k) < (97 : Int32) from za_lt.mpr (nI_le (a := 97) (by omega) (by omega)))]
      by_cases c2 : 122 < B k
      · rw [if_pos (show (122 : Int32) < nI (B k) from nI_lt (a := 122) c2 (by omega)), if_neg (by omega), if_neg (by omega), zb_f (by decide)]
      · rw [if_neg (show ¬ (122 : Int32) < nI (B k) from za_lt.mpr (nI_le (b := 122) (by omega) (by decide))), if_pos (by omega), zb_t rfl]
  · rw [if_pos (nI_le (by omega) (by omega)), if_neg hkz, zb_f (by decide)]
theorem kX7_isFigure {k : Nat} (h : RB μ z B) (hk : k < 2 ^ 31) : X7_isFigure E d (nI k) μ = some (some (.int (zb (srt z B k = 2))), μ) := by
  obtain ⟨hz, hB, h1, h2⟩ := h
  rw [X7_isFigure_q, h1]
  unfold srt
  by_cases hkz : k < z
  · have hb := hB k hkz
    have i96 := za_in (show k < 96 by omega) (show 96 < 2 ^ 31 by decide)
    rw [if_neg (nI_ge hkz (by omega)), if_pos hkz, if_pos i96, if_pos i96, za_cl hk, h2 k hkz]
    by_cases c1 : B k < 48
    · rw [if_pos (show nI (B k) < (48 : Int32) from nI_lt (b := 48) c1 (by decide)), if_neg (by omega), if_neg (by omega), zb_f (by decide)]
    · rw [if_neg (show ¬ nI (B k) < (48 : Int32) from za_lt.mpr (nI_le (a := 48) (by omega) (by omega)))]
      by_cases c2 : 57 < B k
      · rw [if_pos (show (57 : Int32) < nI (B k) from nI_lt (a := 57) c2 (by omega))]
        by_cases c3 : 97 ≤ B k ∧ B k ≤ 122
        · rw [if_pos c3, zb_f (by decide)]
        · rw [if_neg c3, if_neg (by omega), zb_f (by decide)]
      · rw [if_neg (show ¬ (57 : Int32) < nI (B k) from za_lt.mpr (nI_le (b := 57) (by omega) (by decide))), if_neg (by omega), if_pos (by omega), zb_t rfl]
  · rw [if_pos (nI_le (by omega) (by omega)), if_neg hkz, zb_f (by decide)]
theorem scn_s {own j k : Nat} : scn z B own (j + 1) k = if srt z B k = own then scn z B own j (k + 1) else k := rfl
/-- letters: to their end -/
theorem kX7_go93 {f : Nat} {v : Int32} (hf : f < z) : ∀ j k μ, k + j = z → RB μ z B → μ 76 7 = nI k → μ 76 8 = nI f → ∃ μ', X7_go_93 E (d + 1) v μ = some (none, μ') ∧ μ' 76 7 = nI (scn z B 1 j k) ∧ μ' 76 8 = nI f ∧ μ' 76 9 = (if v = 0 then 1 else 4) ∧ μ' 76 10 = nI (B f) ∧ μ' 76 11 = nI (scn z B 1 j k) ∧ FR μ μ' := by
  have fin : ∀ k μ, RB μ z B → μ 76 7 = nI k → μ 76 8 = nI f → srt z B k ≠ 1 → k ≤ z → ∃ μ', X7_go_93 E (d + 1) v μ = some (none, μ') ∧ μ' 76 7 = nI k ∧ μ' 76 8 = nI f ∧ μ' 76 9 = (if v = 0 then 1 else 4) ∧ μ' 76 10 = nI (B f) ∧ μ' 76 11 = nI k ∧ FR μ μ' := by
    intro k μ rb h7 h8 hk hkz
    have hz := rb.1
    rw [X7_go_93_q, h7, kX7_isLetter rb (by omega), ab_cI_s, zb_f hk, if_pos rfl]
    by_cases hv : v = 0
    · rw [if_pos hv, if_pos hv, za_up_j (show (8 : Nat) ≠ 9 by decide), h8, if_pos (za_in (show f < 96 by omega) (by decide)), za_cl (by omega), za_up_a (show (81 : Nat) ≠ 76 by decide), rb.2.2.2 f hf, za_up_j (show (7 : Nat) ≠ 10 by decide), za_up_j (show (7 : Nat) ≠ 9 by decide), h7]
      refine ⟨_, rfl, ?_, ?_, ?_, ?_, za_up_s, FR.t (FR_u (by decide)) (FR.t (FR_u (by decide)) (FR_u (by decide)))⟩
      · rw [za_up_j (by decide), za_up_j (by decide), za_up_j (by decide), h7]
      · rw [za_up_j (by decide), za_up_j (by decide), za_up_j (by decide), h8]
      · rw [za_up_j (by decide), za_up_j (by decide), za_up_s]
      · rw [za_up_j (by decide), za_up_s]
    · rw [if_neg hv, if_neg hv, za_up_j (show (8 : Nat) ≠ 9 by decide), h8, if_pos (za_in (show f < 96 by omega) (by decide)), za_cl (by omega), za_up_a (show (81 : Nat) ≠ 76 by decide), rb.2.2.2 f hf, za_up_j (show (7 : Nat) ≠ 10 by decide), za_up_j (show (7 : Nat) ≠ 9 by decide), h7]
      refine ⟨_, rfl, ?_, ?_, ?_, ?_, za_up_s, FR.t (FR_u (by decide)) (FR.t (FR_u (by decide)) (FR_u (by decide)))⟩
      · rw [za_up_j (by decide), za_up_j (by decide), za_up_j (by decide), h7]
      · rw [za_up_j (by decide), za_up_j (by decide), za_up_j (by decide), h8]
      · rw [za_up_j (by decide), za_up_j (by decide), za_up_s]
      · rw [za_up_j (by decide), za_up_s]
  intro j
  induction j with
  | zero =>
    intro k μ e rb h7 h8
    exact fin k μ rb h7 h8 (fun q => by have := (srt_0 (B := B)).mpr (show z ≤ k by omega); omega) (by omega)
  | succ j ih =>
    intro k μ e rb h7 h8
    unfold scn
    by_cases c : srt z B k = 1
    · have hz := rb.1
      rw [if_pos c, X7_go_93_q, h7, kX7_isLetter rb (by omega), ab_cI_s, zb_t c, if_neg (by decide), h7, za_1]
      obtain ⟨μ2, q1, q2, q3, q4, q5, q6, q7⟩ := ih (k + 1) (ab_up μ 76 7 (nI (k + 1))) (by omega) (rb.f (FR_u (by decide))) za_up_s (by rw [za_up_j (by decide)]; exact h8)
      exact ⟨μ2, q1, q2, q3, q4, q5, q6, FR.t (FR_u (by decide)) q7⟩
    · rw [if_neg c]
      exact fin k μ rb h7 h8 c (by omega)
theorem nmr_s {B : Nat → Nat} : ∀ j k v, nmr B (j + 1) k v = 10 * nmr B j k v + (B (k + j) - 48)
  | 0, k, v => rfl
  | j + 1, k, v => by
    have := nmr_s (B := B) j (k + 1) (10 * v + (B k - 48))
    show nmr B (j + 1) (k + 1) (10 * v + (B k - 48)) = 10 * nmr B j (k + 1) (10 * v + (B k - 48)) + _
    rw [this, show k + 1 + j = k + (j + 1) by omega]
theorem nmr_lt {B : Nat → Nat} : ∀ j k v, (∀ t, k ≤ t → t < k + j → B t ≤ 57) → nmr B j k v + 1 ≤ (v + 1) * 10 ^ j
  | 0, k, v, _ => by unfold nmr; omega
  | j + 1, k, v, h => by
    unfold nmr
    have h1 := nmr_lt j (k + 1) (10 * v + (B k - 48)) (fun t h1 h2 => h t (by omega) (by omega))
    have h2 := h k (by omega) (by omega)
    have h3 : (10 * v + (B k - 48) + 1) * 10 ^ j ≤ (10 * (v + 1)) * 10 ^ j := Nat.mul_le_mul_right _ (by omega)
    have h4 : (10 * (v + 1)) * 10 ^ j = (v + 1) * 10 ^ (j + 1) := by rw [Nat.pow_succ, Nat.mul_comm 10 (v + 1), Nat.mul_assoc, Nat.mul_comm 10]
    omega
theorem fig_b {k : Nat} (h : srt z B k = 2) : 48 ≤ B k ∧ B k ≤ 57 ∧ k < z := by
  unfold srt at h
  by_cases c : k < z
  · rw [if_pos c] at h
    by_cases c2 : 97 ≤ B k ∧ B k ≤ 122
    · rw [if_pos c2] at h; omega
    · rw [if_neg c2] at h
      by_cases c3 : 48 ≤ B k ∧ B k ≤ 57
      · exact ⟨c3.1, c3.2, c⟩
      · rw [if_neg c3] at h; omega
  · rw [if_neg c] at h; omega
theorem num_s {f k : Nat} (h : f ≤ k) (h4 : k - f < 4) : num B f (k + 1) = 10 * num B f k + (B k - 48) := by
  unfold num
  rw [show min 4 (k + 1 - f) = (k - f) + 1 by omega, show min 4 (k - f) = k - f by omega, nmr_s, show f + (k - f) = k by omega]
theorem num_4 {f k : Nat} (h4 : 4 ≤ k - f) : num B f (k + 1) = num B f k := by
  unfold num
  rw [show min 4 (k + 1 - f) = 4 by omega, show min 4 (k - f) = 4 by omega]
theorem num_lt {f k : Nat} (h : ∀ t, f ≤ t → t < k → B t ≤ 57) : num B f k < 10000 := by
  unfold num
  have := nmr_lt (B := B) (min 4 (k - f)) f 0 (fun t h1 h2 => h t h1 (by omega))
  have h2 : (10 : Nat) ^ min 4 (k - f) ≤ 10 ^ 4 := Nat.pow_le_pow_right (by omega) (by omega)
  omega
theorem za_num {x b : Nat} (hb : 48 ≤ b) : (10 : Int32) * nI x + nI b - 48 = nI (10 * x + (b - 48)) := by
  rw [show (10 : Int32) * nI x = nI (10 * x) from pk_mul 10 x, nI_add, show (48 : Int32) = nI 48 from rfl, za_sub (by omega)]
  congr 1; omega
/-- figures: to their end -/
theorem kX7_go170 {f : Nat} {v : Int32} (hf : f < z) : ∀ j k μ, k + j = z → f ≤ k → (∀ t, f ≤ t → t < k → srt z B t = 2) → RB μ z B → μ 76 7 = nI k → μ 76 8 = nI f → μ 76 10 = nI (num B f k) → ∃ μ', X7_go_170 E (d + 1) v μ = some (none, μ') ∧ μ' 76 7 = nI (scn z B 2 j k) ∧ μ' 76 8 = nI f ∧ μ' 76 9 = (if v = 0 then (if scn z B 2 j k - f ≤ 4 then 2 else 4) else 4) ∧ μ' 76 10 = nI (num B f (scn z B 2 j k)) ∧ μ' 76 11 = nI (scn z B 2 j k) ∧ FR μ μ' := by
  have fin : ∀ k μ, f ≤ k → RB μ z B → μ 76 7 = nI k → μ 76 8 = nI f → μ 76 10 = nI (num B f k) → srt z B k ≠ 2 → k ≤ z → ∃ μ', X7_go_170 E (d + 1) v μ = some (none, μ') ∧ μ' 76 7 = nI k ∧ μ' 76 8 = nI f ∧ μ' 76 9 = (if v = 0 then (if k - f ≤ 4 then 2 else 4) else 4) ∧ μ' 76 10 = nI (num B f k) ∧ μ' 76 11 = nI k ∧ FR μ μ' := by
    intro k μ hfk rb h7 h8 h10 hk hkz
    have hz := rb.1
    have key : ∀ x : Int32, ∃ μ', some (none, ab_up (ab_up μ 76 9 x) 76 11 (ab_up μ 76 9 x 76 7)) = some ((none : Option Value), μ') ∧ μ' 76 7 = nI k ∧ μ' 76 8 = nI f ∧ μ' 76 9 = x ∧ μ' 76 10 = nI (num B f k) ∧ μ' 76 11 = nI k ∧ FR μ μ' := by
      intro x
      refine ⟨_, rfl, ?_, ?_, ?_, ?_, ?_, FR.t (FR_u (by decide)) (FR_u (by decide))⟩
      · rw [za_up_j (by decide), za_up_j (by decide), h7]
      · rw [za_up_j (by decide), za_up_j (by decide), h8]
      · rw [za_up_j (by decide), za_up_s]
      · rw [za_up_j (by decide), za_up_j (by decide), h10]
      · rw [za_up_s, za_up_j (by decide), h7]
    rw [X7_go_170_q, h7, kX7_isFigure rb (by omega), ab_cI_s, zb_f hk, if_pos rfl, h8, h7, za_sub hfk]
    by_cases hv : v = 0
    · rw [if_neg (fun q => q hv), if_pos hv]
      by_cases c : k - f ≤ 4
      · rw [if_pos (show nI (k - f) ≤ (4 : Int32) from nI_le (b := 4) c (by decide)), if_pos c]
        exact key 2
      · rw [if_neg (show ¬ nI (k - f) ≤ (4 : Int32) from nI_ge (a := 4) (by omega) (by omega)), if_neg c]
        exact key 4
    · rw [if_pos hv, if_neg hv]
      exact key 4
  intro j
  induction j with
  | zero =>
    intro k μ e hfk hall rb h7 h8 h10
    exact fin k μ hfk rb h7 h8 h10 (fun q => by have := (srt_0 (B := B)).mpr (show z ≤ k by omega); omega) (by omega)
  | succ j ih =>
    intro k μ e hfk hall rb h7 h8 h10
    unfold scn
    by_cases c : srt z B k = 2
    · have hz := rb.1
      obtain ⟨b1, b2, b3⟩ := fig_b c
      have hall2 : ∀ t, f ≤ t → t < k + 1 → srt z B t = 2 := fun t h1 h2 => by
        by_cases e : t = k
        · subst e; exact c
        · exact hall t h1 (by omega)
      rw [if_pos c, X7_go_170_q, h7, kX7_isFigure rb (by omega), ab_cI_s, zb_t c, if_neg (by decide), h7, h8, za_sub hfk]
      by_cases c4 : 4 ≤ k - f
      · rw [if_pos (show (4 : Int32) ≤ nI (k - f) from nI_le (a := 4) c4 (by omega)), za_up_j (show (7 : Nat) ≠ 10 by decide), h7, za_1]
        obtain ⟨μ2, q1, q2, q3, q4, q5, q6, q7⟩ := ih (k + 1) (ab_up (ab_up μ 76 10 (μ 76 10)) 76 7 (nI (k + 1))) (by omega) (by omega) hall2 (rb.f (FR.t (FR_u (by decide)) (FR_u (by decide)))) za_up_s (by rw [za_up_j (by decide), za_up_j (by decide)]; exact h8) (by rw [za_up_j (by decide), za_up_s, num_4 c4]; exact h10)
        exact ⟨μ2, q1, q2, q3, q4, q5, q6, FR.t (FR.t (FR_u (by decide)) (FR_u (by decide))) q7⟩
      · rw [if_neg (show ¬ (4 : Int32) ≤ nI (k - f) from nI_ge (b := 4) (by omega) (by decide)), if_pos (za_in (show k < 96 by omega) (by decide)), za_cl (by omega), za_up_j (show (7 : Nat) ≠ 10 by decide), h7, za_1, rb.2.2.2 k b3, h10, za_num b1, ← num_s hfk (by omega)]
        obtain ⟨μ2, q1, q2, q3, q4, q5, q6, q7⟩ := ih (k + 1) (ab_up (ab_up μ 76 10 (nI (num B f (k + 1)))) 76 7 (nI (k + 1))) (by omega) (by omega) hall2 (rb.f (FR.t (FR_u (by decide)) (FR_u (by decide)))) za_up_s (by rw [za_up_j (by decide), za_up_j (by decide)]; exact h8) (by rw [za_up_j (by decide), za_up_s])
        exact ⟨μ2, q1, q2, q3, q4, q5, q6, FR.t (FR.t (FR_u (by decide)) (FR_u (by decide))) q7⟩
    · rw [if_neg c]
      exact fin k μ hfk rb h7 h8 h10 c (by omega)
/-- the token as the reference counts it -/
def tok (τ : Nat × Nat × Nat) : Nat := if τ.2.2 = 2 ∧ ¬ τ.2.1 - τ.1 ≤ 4 then 4 else τ.2.2
def TR (μ : ab_M) (z : Nat) (B : Nat → Nat) (τ : Nat × Nat × Nat) : Prop := RB μ z B ∧ μ 76 8 = nI τ.1 ∧ μ 76 7 = nI τ.2.1 ∧ μ 76 9 = nI (tok τ) ∧ (τ.2.2 = 1 ∨ τ.2.2 = 3 → μ 76 10 = nI (B τ.1)) ∧ (τ.2.2 = 2 → μ 76 10 = nI (num B τ.1 τ.2.1)) ∧ (isw τ.2.2 = true → μ 76 11 = nI τ.2.1) ∧ (τ.2.2 = 3 → ∀ x, τ.2.1 ≤ x → x ≤ z → ¬ μ 76 11 = nI x)
theorem TR.f {τ : Nat × Nat × Nat} (h : TR μ z B τ) (h81 : μ' 81 = μ 81) (h76 : ∀ j, 6 ≤ j → j ≤ 11 → μ' 76 j = μ 76 j) : TR μ' z B τ := by
  obtain ⟨⟨r1, r2, r3, r4⟩, r⟩ := h
  unfold TR RB
  rw [h81, h76 6 (by omega) (by omega), h76 7 (by omega) (by omega), h76 8 (by omega) (by omega), h76 9 (by omega) (by omega), h76 10 (by omega) (by omega), h76 11 (by omega) (by omega)]
  exact ⟨⟨r1, r2, r3, r4⟩, r⟩
/-- behind the spaces -/
theorem kX7_goe {s f : Nat} {w : Bool} (rb : RB μ z B) (hf : f = nf z B s) (hs : s ≤ z) (h7 : μ 76 7 = nI f) (hw : w = true → μ 76 11 = nI s) (hw2 : w = false → ∀ x, s ≤ x → x ≤ z → ¬ μ 76 11 = nI x) : ∃ μ', (if ¬ ((ab_up μ 76 8 (μ 76 7)) 76 8) = ((ab_up μ 76 8 (μ 76 7)) 76 11) then (if ¬ ((ab_up μ 76 8 (μ 76 7)) 76 8) = ((ab_up μ 76 8 (μ 76 7)) 76 6) then (ab_cI (X7_isLetter E d ((ab_up μ 76 8 (μ 76 7)) 76 8) (ab_up μ 76 8 (μ 76 7))) (fun x4 μ5 => (if x4 = 0 then (ab_cI (X7_isFigure E d (μ5 76 8) μ5) (fun x7 μ8 => (if x7 = 0 then (if ab_in ((ab_up μ8 76 9 3) 76 8) 96 then some (none, (ab_up (ab_up (ab_up μ8 76 9 3) 76 10 ((ab_up μ8 76 9 3) 81 ((ab_up μ8 76 9 3) 76 8).toNatClampNeg)) 76 7 (((ab_up (ab_up μ8 76 9 3) 76 10 ((ab_up μ8 76 9 3) 81 ((ab_up μ8 76 9 3) 76 8).toNatClampNeg)) 76 7) + 1))) else none) else X7_go_170 E (d + 1) 0 (ab_up μ8 76 10 0)))) else X7_go_93 E (d + 1) 0 μ5))) else some (none, (ab_up (ab_up μ 76 8 (μ 76 7)) 76 9 0))) else (if ¬ ((ab_up μ 76 8 (μ 76 7)) 76 8) = ((ab_up μ 76 8 (μ 76 7)) 76 6) then (ab_cI (X7_isLetter E d ((ab_up μ 76 8 (μ 76 7)) 76 8) (ab_up μ 76 8 (μ 76 7))) (fun x12 μ13 => (if x12 = 0 then (ab_cI (X7_isFigure E d (μ13 76 8) μ13) (fun x15 μ16 => (if x15 = 0 then (if ab_in ((ab_up μ16 76 9 3) 76 8) 96 then some (none, (ab_up (ab_up (ab_up μ16 76 9 3) 76 10 ((ab_up μ16 76 9 3) 81 ((ab_up μ16 76 9 3) 76 8).toNatClampNeg)) 76 7 (((ab_up (ab_up μ16 76 9 3) 76 10 ((ab_up μ16 76 9 3) 81 ((ab_up μ16 76 9 3) 76 8).toNatClampNeg)) 76 7) + 1))) else none) else X7_go_170 E (d + 1) 1 (ab_up μ16 76 10 0)))) else X7_go_93 E (d + 1) 1 μ13))) else some (none, (ab_up (ab_up μ 76 8 (μ 76 7)) 76 9 0)))) = some (none, μ') ∧ TR μ' z B (f, ns z B s, nc z B s w) ∧ FR μ μ' := by
  have hz := rb.1
  have hb := nf_b (B := B) hs
  rw [← hf] at hb
  rw [h7]
  have rb1 : RB (ab_up μ 76 8 (nI f)) z B := rb.f (FR_u (by decide))
  have e8 : ab_up μ 76 8 (nI f) 76 8 = nI f := za_up_s
  have e6 : ab_up μ 76 8 (nI f) 76 6 = nI z := rb1.2.2.1
  have e11 : ab_up μ 76 8 (nI f) 76 11 = μ 76 11 := za_up_j (by decide)
  have e7 : ab_up μ 76 8 (nI f) 76 7 = nI f := by rw [za_up_j (by decide)]; exact h7
  have fr1 : FR μ (ab_up μ 76 8 (nI f)) := FR_u (by decide)
  rw [e8, e6, e11]
  generalize ab_up μ 76 8 (nI f) = ν at rb1 e8 e7 e11 fr1 ⊢
  -- whether it is glued
  have cl : ∃ v : Int32, (v = 0 ↔ ¬ (w = true ∧ f = s)) ∧ (v = 0 ∨ v = 1) ∧ (nI f = μ 76 11 ↔ v = 1) := by
    cases w with
    | true =>
      rw [hw rfl]
      by_cases e : f = s
      · exact ⟨1, ⟨fun q => absurd q (by decide), fun q => absurd ⟨rfl, e⟩ q⟩, Or.inr rfl, by rw [e]; exact ⟨fun _ => rfl, fun _ => rfl⟩⟩
      · exact ⟨0, ⟨fun _ q => e q.2, fun _ => rfl⟩, Or.inl rfl, ⟨fun q => absurd ((nI_eq (by omega) (by omega)).mp q) e, fun q => absurd q (by decide)⟩⟩
    | false => exact ⟨0, ⟨fun _ q => absurd q.1 (by decide), fun _ => rfl⟩, Or.inl rfl, ⟨fun q => absurd q.symm (hw2 rfl f hb.1 hb.2), fun q => absurd q (by decide)⟩⟩
  obtain ⟨v, v0, v01, v1⟩ := cl
  have cont : ∃ μ', (if ¬ nI f = nI z then (ab_cI (X7_isLetter E d (nI f) ν) (fun x4 μ5 => (if x4 = 0 then (ab_cI (X7_isFigure E d (μ5 76 8) μ5) (fun x7 μ8 => (if x7 = 0 then (if ab_in ((ab_up μ8 76 9 3) 76 8) 96 then some (none, (ab_up (ab_up (ab_up μ8 76 9 3) 76 10 ((ab_up μ8 76 9 3) 81 ((ab_up μ8 76 9 3) 76 8).toNatClampNeg)) 76 7 (((ab_up (ab_up μ8 76 9 3) 76 10 ((ab_up μ8 76 9 3) 81 ((ab_up μ8 76 9 3) 76 8).toNatClampNeg)) 76 7) + 1))) else none) else X7_go_170 E (d + 1) v (ab_up μ8 76 10 0)))) else X7_go_93 E (d + 1) v μ5))) else some (none, (ab_up ν 76 9 0))) = some (none, μ') ∧ TR μ' z B (f, ns z B s, nc z B s w) ∧ FR μ μ' := by
    by_cases cz : f = z
    · rw [if_neg (fun q => q (by rw [cz]))]
      have hs0 : srt z B f = 0 := srt_0.mpr (by omega)
      have ens : ns z B s = f := by
        unfold ns; rw [← hf, hs0, if_neg (by decide)]; omega
      have enc : nc z B s w = 0 := by
        unfold nc; rw [← hf, hs0, if_neg (fun q => absurd q.2.1 (by decide))]
      rw [ens, enc]
      have f2 := FR.t fr1 (FR_u (j := 9) (x := 0) (by decide))
      refine ⟨_, rfl, ⟨rb.f f2, ?_, ?_, za_up_s, fun q => ?_, fun q => ?_, fun q => ?_, fun q => ?_⟩, f2⟩
      · rw [za_up_j (by decide)]; exact e8
      · rw [za_up_j (by decide)]; exact e7
      · rcases q with q | q
        · exact absurd (show (0 : Nat) = 1 from q) (by decide)
        · exact absurd (show (0 : Nat) = 3 from q) (by decide)
      · exact absurd (show (0 : Nat) = 2 from q) (by decide)
      · exact absurd (show isw 0 = true from q) (by decide)
      · exact absurd (show (0 : Nat) = 3 from q) (by decide)
    · have hfz : f < z := by omega
      rw [if_pos (fun q => cz ((nI_eq (by omega) (by omega)).mp q)), kX7_isLetter rb1 (by omega), ab_cI_s, e8, kX7_isFigure rb1 (by omega), ab_cI_s]
      have glue : isw (srt z B f) = true → nc z B s w = if v = 0 then srt z B f else 4 := by
        intro hi
        unfold nc; rw [← hf]
        by_cases hv : v = 0
        · rw [if_pos hv, if_neg (fun q => v0.mp hv ⟨q.1, q.2.2⟩)]
        · rw [if_neg hv]
          by_cases hq : w = true ∧ f = s
          · rw [if_pos ⟨hq.1, hi, hq.2⟩]
          · exact absurd (v0.mpr hq) hv
      by_cases c1 : srt z B f = 1
      · rw [zb_t c1, if_neg (by decide)]
        obtain ⟨μ2, q1, q2, q3, q4, q5, q6, q7⟩ := kX7_go93 (E := E) (d := d) (v := v) hfz (z - f) f ν (by omega) rb1 e7 e8
        have esc : scn z B 1 (z - f) f = ns z B s := by
          rw [show z - f = (z - (f + 1)) + 1 by omega]
          rw [scn_s, if_pos c1]; unfold ns; rw [← hf, c1, if_pos (by decide)]
        rw [esc] at q2 q6
        have eg := glue (by rw [c1]; rfl)
        rw [c1] at eg
        refine ⟨μ2, q1, ⟨rb.f (FR.t fr1 q7), q3, q2, ?_, fun _ => q5, fun q => ?_, fun _ => q6, fun q => ?_⟩, FR.t fr1 q7⟩
        · rw [q4]; unfold tok
          show _ = nI (if nc z B s w = 2 ∧ _ then 4 else nc z B s w)
          rw [eg]
          rcases v01 with hv | hv
          · rw [if_pos hv, if_pos hv, if_neg (fun q => absurd q.1 (by decide))]; rfl
          · have hv' : ¬ v = 0 := by rw [hv]; decide
            rw [if_neg hv', if_neg hv', if_neg (fun q => absurd q.1 (by decide))]; rfl
        · have q' : nc z B s w = 2 := q
          rw [eg] at q'
          rcases v01 with hv | hv
          · rw [if_pos hv] at q'; exact absurd q' (by decide)
          · rw [if_neg (by rw [hv]; decide)] at q'; exact absurd q' (by decide)
        · have q' : nc z B s w = 3 := q
          rw [eg] at q'
          rcases v01 with hv | hv
          · rw [if_pos hv] at q'; exact absurd q' (by decide)
          · rw [if_neg (by rw [hv]; decide)] at q'; exact absurd q' (by decide)
      · rw [zb_f c1, if_pos rfl]
        by_cases c2 : srt z B f = 2
        · rw [zb_t c2, if_neg (by decide)]
          obtain ⟨μ2, q1, q2, q3, q4, q5, q6, q7⟩ := kX7_go170 (E := E) (d := d) (v := v) hfz (z - f) f (ab_up ν 76 10 0) (by omega) (Nat.le_refl _) (fun t h1 h2 => by omega) (rb1.f (FR_u (by decide))) (by rw [za_up_j (by decide)]; exact e7) (by rw [za_up_j (by decide)]; exact e8) (by rw [za_up_s]; unfold num; rw [show min 4 (f - f) = 0 by omega]; rfl)
          have esc : scn z B 2 (z - f) f = ns z B s := by
            rw [show z - f = (z - (f + 1)) + 1 by omega]
            rw [scn_s, if_pos c2]; unfold ns; rw [← hf, c2, if_pos (by decide)]
          rw [esc] at q2 q4 q5 q6
          have eg := glue (by rw [c2]; rfl)
          rw [c2] at eg
          have fr2 := FR.t fr1 (FR.t (FR_u (j := 10) (x := 0) (by decide)) q7)
          refine ⟨μ2, q1, ⟨rb.f fr2, q3, q2, ?_, fun q => ?_, fun _ => q5, fun _ => q6, fun q => ?_⟩, fr2⟩
          · rw [q4]; unfold tok
            show _ = nI (if nc z B s w = 2 ∧ ¬ ns z B s - f ≤ 4 then 4 else nc z B s w)
            rw [eg]
            rcases v01 with hv | hv
            · rw [if_pos hv, if_pos hv]
              by_cases c4 : ns z B s - f ≤ 4
              · rw [if_pos c4, if_neg (fun q => q.2 c4)]; rfl
              · rw [if_neg c4, if_pos ⟨rfl, c4⟩]; rfl
            · have hv' : ¬ v = 0 := by rw [hv]; decide
              rw [if_neg hv', if_neg hv', if_neg (fun q => absurd q.1 (by decide))]; rfl
          · have q' : nc z B s w = 1 ∨ nc z B s w = 3 := q
            rw [eg] at q'
            rcases v01 with hv | hv
            · rw [if_pos hv] at q'; rcases q' with q' | q' <;> exact absurd q' (by decide)
            · rw [if_neg (by rw [hv]; decide)] at q'; rcases q' with q' | q' <;> exact absurd q' (by decide)
          · have q' : nc z B s w = 3 := q
            rw [eg] at q'
            rcases v01 with hv | hv
            · rw [if_pos hv] at q'; exact absurd q' (by decide)
            · rw [if_neg (by rw [hv]; decide)] at q'; exact absurd q' (by decide)
        · have c3 : srt z B f = 3 := by
            have h4 := srt_4 (z := z) (k := f) (B := B)
            have := mt (srt_0 (B := B)).mp (show ¬ z ≤ f by omega)
            omega
          have ens : ns z B s = f + 1 := by
            unfold ns; rw [← hf, c3, if_neg (by decide)]; omega
          have enc : nc z B s w = 3 := by
            unfold nc; rw [← hf, c3, if_neg (fun q => absurd q.2.1 (by decide))]
          rw [zb_f c2, if_pos rfl, za_up_j (show (8 : Nat) ≠ 9 by decide), e8, if_pos (za_in (show f < 96 by omega) (by decide)), za_cl (by omega), za_up_a (show (81 : Nat) ≠ 76 by decide), rb1.2.2.2 f hfz, za_up_j (show (7 : Nat) ≠ 10 by decide), za_up_j (show (7 : Nat) ≠ 9 by decide), e7, za_1, ens, enc]
          have fr2 := FR.t fr1 (FR.t (FR_u (j := 9) (x := 3) (by decide)) (FR.t (FR_u (j := 10) (x := nI (B f)) (by decide)) (FR_u (j := 7) (x := nI (f + 1)) (by decide))))
          refine ⟨_, rfl, ⟨rb.f fr2, ?_, za_up_s, ?_, fun _ => ?_, fun q => ?_, fun q => ?_, fun _ x x1 x2 => ?_⟩, fr2⟩
          · rw [za_up_j (by decide), za_up_j (by decide), za_up_j (by decide)]; exact e8
          · rw [za_up_j (by decide), za_up_j (by decide), za_up_s]; rfl
          · rw [za_up_j (by decide), za_up_s]
          · exact absurd (show (3 : Nat) = 2 from q) (by decide)
          · exact absurd (show isw 3 = true from q) (by decide)
          · have x1' : f + 1 ≤ x := x1
            rw [za_up_j (by decide), za_up_j (by decide), za_up_j (by decide), e11]
            cases w with
            | true => rw [hw rfl]; exact fun q => by have := (nI_eq (by omega) (by omega)).mp q; omega
            | false => exact hw2 rfl x (by omega) x2
  by_cases hv : v = 1
  · rw [if_neg (fun q => q (v1.mpr hv))]
    rw [hv] at cont
    exact cont
  · have hv0 : v = 0 := by rcases v01 with h | h; exact h; exact absurd h hv
    rw [if_pos (fun q => hv (v1.mp q))]
    rw [hv0] at cont
    exact cont
theorem kX7_go' {s : Nat} {w : Bool} (hs : s ≤ z) : ∀ j k μ, k + j = z → s ≤ k → skp B j k = nf z B s → RB μ z B → μ 76 7 = nI k → (w = true → μ 76 11 = nI s) → (w = false → ∀ x, s ≤ x → x ≤ z → ¬ μ 76 11 = nI x) → ∃ μ', X7_go E (d + 1) μ = some (none, μ') ∧ TR μ' z B (nf z B s, ns z B s, nc z B s w) ∧ FR μ μ'
  | 0, k, μ, e, hsk, hk, rb, h7, hw, hw2 => by
    have hz := rb.1
    have ek : k = nf z B s := hk
    rw [X7_go_q, rb.2.2.1, h7, if_pos (nI_le (by omega) (by omega))]
    have := kX7_goe (E := E) (d := d) (w := w) rb ek hs h7 hw hw2
    rw [h7] at this
    rw [← ek]
    exact this
  | j + 1, k, μ, e, hsk, hk, rb, h7, hw, hw2 => by
    have hz := rb.1
    have hb := rb.2.1 k (by omega)
    rw [X7_go_q, rb.2.2.1, h7, if_neg (nI_ge (by omega) (by omega)), if_pos (za_in (show k < 96 by omega) (by decide)), za_cl (show k < 2 ^ 31 by omega), rb.2.2.2 k (by omega)]
    unfold skp at hk
    by_cases c : B k = 32
    · rw [if_pos c] at hk
      rw [if_neg (fun q => q (by rw [c]; rfl)), za_1]
      obtain ⟨μ2, q1, q2, q3⟩ := kX7_go' (w := w) hs j (k + 1) (ab_up μ 76 7 (nI (k + 1))) (by omega) (by omega) hk (rb.f (FR_u (by decide))) za_up_s (by rw [za_up_j (by decide)]; exact hw) (by rw [za_up_j (by decide)]; exact hw2)
      exact ⟨μ2, q1, q2, FR.t (FR_u (by decide)) q3⟩
    · rw [if_neg c] at hk
      rw [if_pos (show ¬ nI (B k) = (32 : Int32) from fun q => c ((nI_eq (b := 32) (by omega) (by decide)).mp q))]
      have := kX7_goe (E := E) (d := d) (w := w) rb hk hs h7 hw hw2
      rw [h7] at this
      rw [← hk]
      exact this
theorem kX7_go {τ : Nat × Nat × Nat} (t : TR μ z B τ) (w : WT z B τ) (hc : τ.2.2 = 1 ∨ τ.2.2 = 2 ∨ τ.2.2 = 3) : ∃ μ', X7_go E (d + 1) μ = some (none, μ') ∧ TR μ' z B (nxt z B τ) ∧ FR μ μ' := by
  refine kX7_go' (E := E) (d := d) (w := isw τ.2.2) w.2.1 (z - τ.2.1) τ.2.1 μ (by have := w.2.1; omega) (Nat.le_refl _) rfl t.1 t.2.2.1 t.2.2.2.2.2.2.1 (fun hw => ?_)
  rcases hc with h | h | h
  · rw [h] at hw; exact absurd hw (by decide)
  · rw [h] at hw; exact absurd hw (by decide)
  · exact t.2.2.2.2.2.2.2 h
end
