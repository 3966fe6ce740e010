/-! tokens: what both readers see -/
def srt (z : Nat) (B : Nat → Nat) (k : Nat) : Nat := if k < z then (if 97 ≤ B k ∧ B k ≤ 122 then 1 else if 48 ≤ B k ∧ B k ≤ 57 then 2 else 3) else 0
def skp (B : Nat → Nat) : Nat → Nat → Nat
  | 0, k => k
  | j + 1, k => if B k = 32 then skp B j (k + 1) else k
def scn (z : Nat) (B : Nat → Nat) (own : Nat) : Nat → Nat → Nat
  | 0, k => k
  | j + 1, k => if srt z B k = own then scn z B own j (k + 1) else k
def nf (z : Nat) (B : Nat → Nat) (s : Nat) : Nat := skp B (z - s) s
def isw (c : Nat) : Bool := decide (c = 1 ∨ c = 2)
def ns (z : Nat) (B : Nat → Nat) (s : Nat) : Nat := if isw (srt z B (nf z B s)) = true then scn z B (srt z B (nf z B s)) (z - (nf z B s + 1)) (nf z B s + 1) else min (nf z B s + 1) z
def nc (z : Nat) (B : Nat → Nat) (s : Nat) (w : Bool) : Nat := if w = true ∧ isw (srt z B (nf z B s)) = true ∧ nf z B s = s then 4 else srt z B (nf z B s)
theorem skp_b {B : Nat → Nat} : ∀ j k, k ≤ skp B j k ∧ skp B j k ≤ k + j ∧ (skp B j k = k + j ∨ B (skp B j k) ≠ 32)
  | 0, k => ⟨Nat.le_refl _, Nat.le_refl _, Or.inl rfl⟩
  | j + 1, k => by
    unfold skp
    by_cases h : B k = 32
    · rw [if_pos h]
      obtain ⟨h1, h2, h3⟩ := skp_b (B := B) j (k + 1)
      exact ⟨by omega, by omega, by rcases h3 with h3 | h3; left; omega; right; exact h3⟩
    · rw [if_neg h]; exact ⟨Nat.le_refl _, by omega, Or.inr h⟩
theorem scn_b {z : Nat} {B : Nat → Nat} {own : Nat} : ∀ j k, k ≤ scn z B own j k ∧ scn z B own j k ≤ k + j ∧ (∀ t, k ≤ t → t < scn z B own j k → srt z B t = own) ∧ (scn z B own j k = k + j ∨ srt z B (scn z B own j k) ≠ own)
  | 0, k => ⟨Nat.le_refl _, Nat.le_refl _, fun t h1 h2 => absurd h2 (by unfold scn; omega), Or.inl rfl⟩
  | j + 1, k => by
    unfold scn
    by_cases h : srt z B k = own
    · rw [if_pos h]
      obtain ⟨h1, h2, h4, h3⟩ := scn_b (z := z) (B := B) (own := own) j (k + 1)
      refine ⟨by omega, by omega, fun t t1 t2 => ?_, by rcases h3 with h3 | h3; left; omega; right; exact h3⟩
      by_cases e : t = k
      · subst e; exact h
      · exact h4 t (by omega) t2
    · rw [if_neg h]; exact ⟨Nat.le_refl _, by omega, fun t h1 h2 => by omega, Or.inr h⟩
theorem nf_b {z s : Nat} {B : Nat → Nat} (h : s ≤ z) : s ≤ nf z B s ∧ nf z B s ≤ z := by
  obtain ⟨h1, h2, h3⟩ := skp_b (B := B) (z - s) s
  unfold nf; omega
theorem srt_4 {z k : Nat} {B : Nat → Nat} : srt z B k < 4 := by
  unfold srt
  by_cases h : k < z
  · rw [if_pos h]
    by_cases h2 : 97 ≤ B k ∧ B k ≤ 122
    · rw [if_pos h2]; omega
    · rw [if_neg h2]
      by_cases h3 : 48 ≤ B k ∧ B k ≤ 57
      · rw [if_pos h3]; omega
      · rw [if_neg h3]; omega
  · rw [if_neg h]; omega
theorem srt_0 {z k : Nat} {B : Nat → Nat} : srt z B k = 0 ↔ z ≤ k := by
  unfold srt
  by_cases h : k < z
  · rw [if_pos h]
    by_cases h2 : 97 ≤ B k ∧ B k ≤ 122
    · rw [if_pos h2]; omega
    · rw [if_neg h2]
      by_cases h3 : 48 ≤ B k ∧ B k ≤ 57
      · rw [if_pos h3]; omega
      · rw [if_neg h3]; omega
  · rw [if_neg h]; omega
theorem isw_i {c : Nat} : isw c = true ↔ (c = 1 ∨ c = 2) := decide_eq_true_iff
theorem ns_b {z s : Nat} {B : Nat → Nat} (h : s ≤ z) : nf z B s ≤ ns z B s ∧ ns z B s ≤ z ∧ (nf z B s < z → nf z B s < ns z B s) := by
  have hb := nf_b (B := B) h
  unfold ns
  by_cases hw : isw (srt z B (nf z B s)) = true
  · rw [if_pos hw]
    have hz : nf z B s < z := by
      have := mt srt_0.mpr (show ¬ srt z B (nf z B s) = 0 from fun q => by rw [q] at hw; exact absurd hw (by decide))
      omega
    obtain ⟨h1, h2, -, -⟩ := scn_b (z := z) (B := B) (own := srt z B (nf z B s)) (z - (nf z B s + 1)) (nf z B s + 1)
    omega
  · rw [if_neg hw]; omega
/-- a token: where it begins, where it ends, its sort -/
def nxt (z : Nat) (B : Nat → Nat) (τ : Nat × Nat × Nat) : Nat × Nat × Nat := (nf z B τ.2.1, ns z B τ.2.1, nc z B τ.2.1 (isw τ.2.2))
/-- a good token -/
def WT (z : Nat) (B : Nat → Nat) (τ : Nat × Nat × Nat) : Prop := τ.1 ≤ τ.2.1 ∧ τ.2.1 ≤ z ∧ (τ.1 < z → τ.1 < τ.2.1) ∧ (τ.2.2 = srt z B τ.1 ∨ (τ.2.2 = 4 ∧ isw (srt z B τ.1) = true)) ∧ (isw (srt z B τ.1) = true → ∀ t, τ.1 ≤ t → t < τ.2.1 → srt z B t = srt z B τ.1)
theorem WT_n {z s : Nat} {B : Nat → Nat} {w : Bool} (h : s ≤ z) : WT z B (nf z B s, ns z B s, nc z B s w) := by
  obtain ⟨h1, h2, h3⟩ := ns_b (B := B) h
  refine ⟨h1, h2, h3, ?_, fun hw t t1 t2 => ?_⟩
  · show nc z B s w = _ ∨ (nc z B s w = 4 ∧ _)
    unfold nc
    by_cases c : w = true ∧ isw (srt z B (nf z B s)) = true ∧ nf z B s = s
    · rw [if_pos c]; exact Or.inr ⟨rfl, c.2.1⟩
    · rw [if_neg c]; exact Or.inl rfl
  · have hw' : isw (srt z B (nf z B s)) = true := hw
    have t2' : t < ns z B s := t2
    have t1' : nf z B s ≤ t := t1
    show srt z B t = srt z B (nf z B s)
    unfold ns at t2'
    rw [if_pos hw'] at t2'
    by_cases e : t = nf z B s
    · rw [e]
    · exact (scn_b (z := z) (B := B) _ _).2.2.1 t (by omega) t2'
section
variable {E : ab_E} {d : Nat} {μ μ' μ'' : ab_M} {z : Nat} {B : Nat → Nat}
/-- the class's tape -/
def TB (μ : ab_M) (z : Nat) (B : Nat → Nat) : Prop := z ≤ 96 ∧ (∀ k, k < z → B k < 256) ∧ μ 46 1 = nI z ∧ ∀ k, k < z → μ 47 k = nI (B k)
def FT (μ μ' : ab_M) : Prop := (∀ a, a ≠ 46 → μ' a = μ a) ∧ ∀ j, j ≠ 2 → j ≠ 3 → j ≠ 4 → μ' 46 j = μ 46 j
theorem FT.t (h : FT μ μ') (h2 : FT μ' μ'') : FT μ μ'' := ⟨fun a ha => (h2.1 a ha).trans (h.1 a ha), fun j a b c => (h2.2 j a b c).trans (h.2 j a b c)⟩
theorem TB.f (h : TB μ z B) (f : FT μ μ') : TB μ' z B := ⟨h.1, h.2.1, by rw [f.2 1 (by decide) (by decide) (by decide)]; exact h.2.2.1, fun k hk => by rw [f.1 47 (by decide)]; exact h.2.2.2 k hk⟩
theorem FT_u {j : Nat} {x : Int32} (hj : j = 2 ∨ j = 3 ∨ j = 4) : FT μ (ab_up μ 46 j x) := ⟨fun a ha => za_up_a ha, fun i h2 h3 h4 => za_up_j (by omega)⟩
theorem kX5_sortAt {k : Nat} (h : TB μ z B) (hk : k < 2 ^ 31) : X5_sortAt E (d + 1) (nI k) μ = some (some (.int (nI (srt z B k))), μ) := by
  obtain ⟨hz, hB, h1, h2⟩ := h
  rw [X5_sortAt_q, h1]
  unfold srt
  by_cases hkz : k < z
  · have hb := hB k hkz
    rw [if_pos (nI_lt hkz (by omega)), if_pos hkz, if_pos (za_in (show k < 96 by omega) (by decide)), za_cl hk, h2 k hkz]
    have e1 : (nI (B k) < (97 : Int32)) = (B k < 97) := propext (Decidable.not_iff_not.mp (za_lt.trans (nI_leI (a := 97) (b := B k) (by decide) (by omega)) |>.trans Nat.not_lt.symm))
    have e2 : ((122 : Int32) < nI (B k)) = (122 < B k) := propext (Decidable.not_iff_not.mp (za_lt.trans (nI_leI (a := B k) (b := 122) (by omega) (by decide)) |>.trans Nat.not_lt.symm))
    have e3 : (nI (B k) < (48 : Int32)) = (B k < 48) := propext (Decidable.not_iff_not.mp (za_lt.trans (nI_leI (a := 48) (b := B k) (by decide) (by omega)) |>.trans Nat.not_lt.symm))
    have e4 : ((57 : Int32) < nI (B k)) = (57 < B k) := propext (Decidable.not_iff_not.mp (za_lt.trans (nI_leI (a := B k) (b := 57) (by omega) (by decide)) |>.trans Nat.not_lt.symm))
    simp only [e1, e2, e3, e4]
    repeat' split
    all_goals first
      | rfl
      | (exfalso; omega)
  · rw [if_neg (za_lt.mpr (nI_le (by omega) (by omega))), if_neg hkz]; rfl
theorem kX5_p116 {own : Nat} {v1 v4 : Int32} (ho : own = 1 ∨ own = 2) : ∀ j k μ, k + j = z → TB μ z B → μ 46 3 = nI k → ∃ μ', X5_pass_116 E (d + 2) v1 (nI own) 1 v4 μ = some (none, μ') ∧ μ' 46 2 = μ 46 2 ∧ μ' 46 3 = nI (scn z B own j k) ∧ μ' 46 4 = (if v1 = 0 then nI own else if ¬ μ 46 2 = v4 then nI own else 4) ∧ FT μ μ' := by
  have fin : ∀ k μ, μ 46 3 = nI k → ∃ μ', (if v1 = 0 then some (none, ab_up μ 46 4 (nI own)) else if (1 : Int32) = 0 then some (none, ab_up μ 46 4 (nI own)) else if ¬ μ 46 2 = v4 then some (none, ab_up μ 46 4 (nI own)) else some ((none : Option Value), ab_up μ 46 4 4)) = some (none, μ') ∧ μ' 46 2 = μ 46 2 ∧ μ' 46 3 = nI k ∧ μ' 46 4 = (if v1 = 0 then nI own else if ¬ μ 46 2 = v4 then nI own else 4) ∧ FT μ μ' := by
    intro k μ h3
    by_cases c1 : v1 = 0
    · rw [if_pos c1, if_pos c1]
      exact ⟨_, rfl, za_up_j (by decide), by rw [za_up_j (by decide)]; exact h3, za_up_s, FT_u (by simp)⟩
    · rw [if_neg c1, if_neg (by decide), if_neg c1]
      by_cases c2 : ¬ μ 46 2 = v4
      · rw [if_pos c2, if_pos c2]
        exact ⟨_, rfl, za_up_j (by decide), by rw [za_up_j (by decide)]; exact h3, za_up_s, FT_u (by simp)⟩
      · rw [if_neg c2, if_neg c2]
        exact ⟨_, rfl, za_up_j (by decide), by rw [za_up_j (by decide)]; exact h3, za_up_s, FT_u (by simp)⟩
  intro j
  induction j with
  | zero =>
    intro k μ e tb h3
    have hz := tb.1
    rw [X5_pass_116_q, if_neg (by decide), h3, tb.2.2.1, if_pos (nI_le (by omega) (by omega))]
    exact fin k μ h3
  | succ j ih =>
    intro k μ e tb h3
    have hz := tb.1
    rw [X5_pass_116_q, if_neg (by decide), h3, tb.2.2.1, if_neg (nI_ge (by omega) (by omega)), kX5_sortAt tb (by omega), ab_cI_s, h3, za_1]
    unfold scn
    have hs4 := srt_4 (z := z) (k := k) (B := B)
    by_cases c : srt z B k = own
    · rw [if_neg (fun q => q (by rw [c])), if_pos c]
      have tb2 : TB (ab_up μ 46 3 (nI (k + 1))) z B := tb.f (FT_u (by simp))
      obtain ⟨μ2, q1, q2, q3, q4, q5⟩ := ih (k + 1) (ab_up μ 46 3 (nI (k + 1))) (by omega) tb2 za_up_s
      rw [za_up_j (by decide)] at q2 q4
      exact ⟨μ2, q1, q2, q3, q4, FT.t (FT_u (by simp)) q5⟩
    · rw [if_pos (fun q => c ((nI_eq (by omega) (by omega)).mp q)), if_neg c]
      exact fin k μ h3
/-- behind the spaces -/
theorem kX5_p30e {s f : Nat} {w : Bool} (tb : TB μ z B) (hf : f = nf z B s) (hs : s ≤ z) (h2 : μ 46 2 = nI f) (h3 : μ 46 3 = nI s) : ∃ μ', (ab_cI (X5_sortAt E (d + 1) (μ 46 2) μ) (fun x2 μ3 => (if x2 = 1 then (ab_cI (J9_min_7cf53 E (d + 1) ((μ3 46 2) + 1) (μ3 46 1) μ3) (fun x5 μ6 => X5_pass_116 E (d + 2) (zb (w = true)) x2 1 (μ3 46 3) (ab_up μ6 46 3 x5))) else (if ¬ x2 = 2 then (ab_cI (J9_min_7cf53 E (d + 1) ((μ3 46 2) + 1) (μ3 46 1) μ3) (fun x8 μ9 => X5_pass_116 E (d + 2) (zb (w = true)) x2 0 (μ3 46 3) (ab_up μ9 46 3 x8))) else (ab_cI (J9_min_7cf53 E (d + 1) ((μ3 46 2) + 1) (μ3 46 1) μ3) (fun x10 μ11 => X5_pass_116 E (d + 2) (zb (w = true)) x2 1 (μ3 46 3) (ab_up μ11 46 3 x10))))))) = some (none, μ') ∧ μ' 46 2 = nI f ∧ μ' 46 3 = nI (ns z B s) ∧ μ' 46 4 = nI (nc z B s w) ∧ FT μ μ' := by
  have hz := tb.1
  have hb := nf_b (B := B) hs
  rw [← hf] at hb
  have hs4 := srt_4 (z := z) (k := f) (B := B)
  have emin : (if nI z < nI (f + 1) then nI z else nI (f + 1)) = nI (min (f + 1) z) := by
    by_cases c : z < f + 1
    · rw [if_pos (nI_lt c (by omega)), Nat.min_eq_right (by omega)]
    · rw [if_neg (za_lt.mpr (nI_le (by omega) (by omega))), Nat.min_eq_left (by omega)]
  rw [h2, kX5_sortAt tb (by omega), ab_cI_s, h2, tb.2.2.1, za_1, kJ_min, emin, h3]
  simp only [ab_cI_s]
  unfold ns nc
  rw [← hf]
  have word : (srt z B f = 1 ∨ srt z B f = 2) → ∃ μ', X5_pass_116 E (d + 2) (zb (w = true)) (nI (srt z B f)) 1 (nI s) (ab_up μ 46 3 (nI (min (f + 1) z))) = some (none, μ') ∧ μ' 46 2 = nI f ∧ μ' 46 3 = nI (if isw (srt z B f) = true then scn z B (srt z B f) (z - (f + 1)) (f + 1) else min (f + 1) z) ∧ μ' 46 4 = nI (if w = true ∧ isw (srt z B f) = true ∧ f = s then 4 else srt z B f) ∧ FT μ μ' := by
    intro ho
    have hfz : f < z := by
      have := mt srt_0.mpr (show ¬ srt z B f = 0 by omega)
      omega
    have tb2 : TB (ab_up μ 46 3 (nI (min (f + 1) z))) z B := tb.f (FT_u (by simp))
    obtain ⟨μ', q1, q2, q3, q4, q5⟩ := kX5_p116 (E := E) (d := d) (v1 := zb (w = true)) (v4 := nI s) ho (z - (f + 1)) (f + 1) (ab_up μ 46 3 (nI (min (f + 1) z))) (by omega) tb2 (by rw [za_up_s, Nat.min_eq_left (by omega)])
    refine ⟨μ', q1, by rw [q2, za_up_j (by decide)]; exact h2, by rw [if_pos (isw_i.mpr ho)]; exact q3, ?_, FT.t (FT_u (by simp)) q5⟩
    rw [q4, za_up_j (by decide), h2]
    cases w with
    | false => rw [zb_f (by decide), if_pos rfl, if_neg (fun q => absurd q.1 (by decide))]
    | true =>
      rw [zb_t rfl, if_neg (by decide)]
      by_cases e : f = s
      · rw [if_neg (fun q => q (by rw [e])), if_pos ⟨rfl, isw_i.mpr ho, e⟩]; rfl
      · rw [if_pos (fun q => e ((nI_eq (by omega) (by omega)).mp q)), if_neg (fun q => e q.2.2)]
  by_cases c1 : srt z B f = 1
  · rw [if_pos (show nI (srt z B f) = (1 : Int32) by rw [c1]; rfl)]
    exact word (Or.inl c1)
  · rw [if_neg (show ¬ nI (srt z B f) = (1 : Int32) from fun q => c1 ((nI_eq (b := 1) (by omega) (by decide)).mp q))]
    by_cases c2 : srt z B f = 2
    · rw [if_neg (show ¬ ¬ nI (srt z B f) = (2 : Int32) from fun q => q (by rw [c2]; rfl))]
      exact word (Or.inr c2)
    · rw [if_pos (show ¬ nI (srt z B f) = (2 : Int32) from fun q => c2 ((nI_eq (b := 2) (by omega) (by decide)).mp q)), X5_pass_116_q, if_pos rfl, if_pos rfl, ite_self]
      have nw : ¬ isw (srt z B f) = true := fun q => by rcases isw_i.mp q with h | h; exact c1 h; exact c2 h
      refine ⟨_, rfl, ?_, ?_, ?_, FT.t (FT_u (by simp)) (FT_u (by simp))⟩
      · rw [za_up_j (by decide), za_up_j (by decide)]; exact h2
      · rw [za_up_j (by decide), za_up_s, if_neg nw]
      · rw [za_up_s, if_neg (fun q => nw q.2.1)]
theorem kX5_p30 {s : Nat} {w : Bool} (hs : s ≤ z) : ∀ j k μ, k + j = z → skp B j k = nf z B s → TB μ z B → μ 46 2 = nI k → μ 46 3 = nI s → ∃ μ', X5_pass_30 E (d + 2) (zb (w = true)) none none none μ = some (none, μ') ∧ μ' 46 2 = nI (nf z B s) ∧ μ' 46 3 = nI (ns z B s) ∧ μ' 46 4 = nI (nc z B s w) ∧ FT μ μ'
  | 0, k, μ, e, hk, tb, h2, h3 => by
    have hz := tb.1
    have ek : k = nf z B s := hk
    rw [X5_pass_30_q, tb.2.2.1, h2, if_pos (nI_le (by omega) (by omega))]
    have := kX5_p30e (E := E) (d := d) (w := w) tb ek hs h2 h3
    rw [h2] at this
    rw [← ek]
    exact this
  | j + 1, k, μ, e, hk, tb, h2, h3 => by
    have hz := tb.1
    have hb := tb.2.1 k (by omega)
    rw [X5_pass_30_q, tb.2.2.1, h2, if_neg (nI_ge (by omega) (by omega)), if_pos (za_in (show k < 96 by omega) (by decide)), za_cl (by omega), tb.2.2.2 k (by omega)]
    unfold skp at hk
    by_cases c : B k = 32
    · rw [if_pos c] at hk
      rw [if_neg (fun q => q (by rw [c]; rfl)), za_1]
      obtain ⟨μ2, q1, q2, q3, q4, q5⟩ := kX5_p30 (w := w) hs j (k + 1) (ab_up μ 46 2 (nI (k + 1))) (by omega) hk (tb.f (FT_u (by simp))) za_up_s (by rw [za_up_j (by decide)]; exact h3)
      exact ⟨μ2, q1, q2, q3, q4, FT.t (FT_u (by simp)) q5⟩
    · rw [if_neg c] at hk
      rw [if_pos (show ¬ nI (B k) = (32 : Int32) from fun q => c ((nI_eq (b := 32) (by omega) (by decide)).mp q))]
      have := kX5_p30e (E := E) (d := d) (w := w) tb hk hs h2 h3
      rw [h2] at this
      rw [← hk]
      exact this
/-- the class's tape and its token -/
def TC (μ : ab_M) (z : Nat) (B : Nat → Nat) (τ : Nat × Nat × Nat) : Prop := TB μ z B ∧ μ 46 2 = nI τ.1 ∧ μ 46 3 = nI τ.2.1 ∧ μ 46 4 = nI τ.2.2
theorem kX5_pass' {s c : Nat} (tb : TB μ z B) (hs : s ≤ z) (hc : c < 5) (h3 : μ 46 3 = nI s) (h4 : μ 46 4 = nI c) : ∃ μ', X5_pass E (d + 2) μ = some (none, μ') ∧ TC μ' z B (nf z B s, ns z B s, nc z B s (isw c)) ∧ FT μ μ' := by
  have tb2 : TB (ab_up μ 46 2 (nI s)) z B := tb.f (FT_u (by simp))
  obtain ⟨μ2, q1, q2, q3, q4, q5⟩ := kX5_p30 (E := E) (d := d) (w := isw c) hs (z - s) s (ab_up μ 46 2 (nI s)) (by omega) rfl tb2 za_up_s (by rw [za_up_j (by decide)]; exact h3)
  have f := FT.t (FT_u (by simp)) q5
  refine ⟨μ2, ?_, ⟨tb.f f, q2, q3, q4⟩, f⟩
  rw [X5_pass_q, h3, h4]
  by_cases c1 : c = 1
  · subst c1; rw [if_pos (show nI 1 = (1 : Int32) from rfl)]; exact q1
  · rw [if_neg (show ¬ nI c = (1 : Int32) from fun q => c1 ((nI_eq (b := 1) (by omega) (by decide)).mp q))]
    by_cases c2 : c = 2
    · subst c2; rw [if_neg (show ¬ ¬ nI 2 = (2 : Int32) from fun q => q rfl)]; exact q1
    · rw [if_pos (show ¬ nI c = (2 : Int32) from fun q => c2 ((nI_eq (b := 2) (by omega) (by decide)).mp q))]
      rw [zb_f (show ¬ isw c = true from fun q => by rcases isw_i.mp q with h | h; exact c1 h; exact c2 h)] at q1
      exact q1
theorem WT.c5 {τ : Nat × Nat × Nat} (h : WT z B τ) : τ.2.2 < 5 := by
  have := srt_4 (z := z) (k := τ.1) (B := B)
  rcases h.2.2.2.1 with e | ⟨e, -⟩ <;> omega
theorem kX5_pass {τ : Nat × Nat × Nat} (t : TC μ z B τ) (w : WT z B τ) : ∃ μ', X5_pass E (d + 2) μ = some (none, μ') ∧ TC μ' z B (nxt z B τ) ∧ FT μ μ' ∧ WT z B (nxt z B τ) := by
  obtain ⟨μ', q1, q2, q3⟩ := kX5_pass' (E := E) (d := d) t.1 w.2.1 w.c5 t.2.2.1 t.2.2.2
  exact ⟨μ', q1, q2, q3, WT_n w.2.1⟩
end
