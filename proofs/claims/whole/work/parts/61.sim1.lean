/-! the reference reads: its stack -/
def cnt : List Int32 → Nat
  | [] => 0
  | x :: r => (if x = -10 then 1 else 0) + cnt r
def stp (W : List Int32) (least : Nat) : Prop := match W with
  | [] => True
  | x :: _ => x = -11 ∨ rkN x < least
def SX (μ : ab_M) (W C : List Int32) : Prop := μ 76 19 = nI W.length ∧ stR μ 85 W ∧ μ 76 16 = nI C.length ∧ ∀ i x, C[i]? = some x → μ 84 i = x
def RX (μ : ab_M) (z : Nat) (B : Nat → Nat) (key : Nat) (τ : Nat × Nat × Nat) (W C : List Int32) : Prop := TR μ z B τ ∧ WT z B τ ∧ SX μ W C ∧ μ 76 17 = nI (lvs C) ∧ μ 76 12 = nI key ∧ W.length + C.length ≤ τ.1
def FX (μ μ' : ab_M) : Prop := (∀ a, a ≠ 76 → a ≠ 84 → a ≠ 85 → a ≠ 86 → μ' a = μ a) ∧ ∀ j, ¬ (7 ≤ j ∧ j ≤ 11) → j ≠ 16 → j ≠ 17 → j ≠ 19 → μ' 76 j = μ 76 j
def F1 (μ μ' : ab_M) : Prop := (∀ a, a ≠ 76 → a ≠ 84 → μ' a = μ a) ∧ ∀ j, j ≠ 16 → j ≠ 19 → μ' 76 j = μ 76 j
theorem cnt_a : ∀ l r, cnt (l ++ r) = cnt l + cnt r
  | [], r => by show cnt r = 0 + cnt r; omega
  | c :: l, r => by show (if c = -10 then 1 else 0) + cnt (l ++ r) = (if c = -10 then 1 else 0) + cnt l + cnt r; rw [cnt_a l r]; omega
theorem cnt_r : ∀ k, cnt (List.replicate k (-10)) = k
  | 0 => rfl
  | k + 1 => by show (if (-10 : Int32) = -10 then 1 else 0) + cnt (List.replicate k (-10)) = k + 1; rw [cnt_r k, if_pos rfl]; omega
theorem cnt_z : ∀ {P : List Int32}, (∀ x, x ∈ P → ¬ x = -10) → cnt P = 0
  | [], _ => rfl
  | c :: l, h => by show (if c = -10 then 1 else 0) + cnt l = 0; rw [if_neg (h c (by simp)), cnt_z (P := l) (fun x hx => h x (by simp [hx]))]
theorem lvs_z : ∀ {P : List Int32}, (∀ x, x ∈ P → ¬ 0 ≤ x) → lvs P = 0
  | [], _ => rfl
  | c :: l, h => by show (if 0 ≤ c then 1 else 0) + lvs l = 0; rw [if_neg (h c (by simp)), lvs_z (P := l) (fun x hx => h x (by simp [hx]))]
section
variable {E : ab_E} {d : Nat} {μ μ' μ'' : ab_M} {z key : Nat} {B : Nat → Nat} {τ : Nat × Nat × Nat} {W C : List Int32}
theorem FX.rf : FX μ μ := ⟨fun _ _ _ _ _ => rfl, fun _ _ _ _ _ => rfl⟩
theorem FX.t (h : FX μ μ') (h2 : FX μ' μ'') : FX μ μ'' := ⟨fun a h1 h3 h4 h5 => (h2.1 a h1 h3 h4 h5).trans (h.1 a h1 h3 h4 h5), fun j h1 h3 h4 h5 => (h2.2 j h1 h3 h4 h5).trans (h.2 j h1 h3 h4 h5)⟩
theorem F1.x (h : F1 μ μ') : FX μ μ' := ⟨fun a h1 h2 _ _ => h.1 a h1 h2, fun j _ h1 _ h2 => h.2 j h1 h2⟩
theorem FR.x (h : FR μ μ') : FX μ μ' := ⟨fun a h1 _ _ _ => h.1 a h1, fun j h1 _ _ _ => h.2 j h1⟩
theorem F1.rf : F1 μ μ := ⟨fun _ _ _ => rfl, fun _ _ _ => rfl⟩
theorem F1.t (h : F1 μ μ') (h2 : F1 μ' μ'') : F1 μ μ'' := ⟨fun a h1 h3 => (h2.1 a h1 h3).trans (h.1 a h1 h3), fun j h1 h3 => (h2.2 j h1 h3).trans (h.2 j h1 h3)⟩
theorem kX7_rank {x : Int32} : X7_rank E d x μ = some (some (.int (nI (rkN x))), μ) := by
  rw [X7_rank_q]; unfold rkN
  by_cases h1 : x = -1
  · rw [if_neg (fun q => q h1), if_pos h1]; rfl
  · rw [if_pos h1, if_neg h1]
    by_cases h2 : x = -2
    · rw [if_neg (fun q => q h2), if_pos h2]; rfl
    · rw [if_pos h2, if_neg h2]
      by_cases h3 : x < -5
      · rw [if_pos h3, if_pos h3]
        by_cases h4 : x < -7
        · rw [if_pos h4, if_pos h4]
          by_cases h5 : x < -9
          · rw [if_pos h5, if_pos h5]; rfl
          · rw [if_neg h5, if_neg h5]; rfl
        · rw [if_neg h4, if_neg h4]; rfl
      · rw [if_neg h3, if_neg h3]; rfl
theorem rkN_7 (x : Int32) : rkN x < 7 := by
  unfold rkN
  repeat' split
  all_goals omega
theorem stR_t {x : Int32} (h : stR μ 85 (x :: W)) : μ 85 W.length = x := by
  have := h 0 x rfl
  simpa using this
theorem stR_p {x : Int32} (h : stR μ 85 (x :: W)) : stR μ 85 W := by
  intro i y hy
  have hl := (List.getElem?_eq_some_iff.mp hy).1
  have := h (i + 1) y (by simpa using hy)
  rw [show (x :: W).length - 1 - (i + 1) = W.length - 1 - i by simp; omega] at this
  exact this
theorem stR_f (h : stR μ 85 W) (f : μ' 85 = μ 85) : stR μ' 85 W := fun i x hx => by rw [f]; exact h i x hx
/-- signs are settled -/
theorem kX7_settle {least : Nat} (hl7 : least < 10) : ∀ P μ C, (∀ x, x ∈ P → ¬ x = -11 ∧ least ≤ rkN x) → stp W least → SX μ (P ++ W) C → (P ++ W).length + C.length ≤ 96 → ∃ μ', X7_settle E (d + 1) (nI least) μ = some (none, μ') ∧ SX μ' W (C ++ P) ∧ F1 μ μ'
  | [], μ, C, hP, hs, sx, hl => by
    refine ⟨μ, ?_, by rw [List.append_nil]; exact sx, F1.rf⟩
    obtain ⟨s1, s2, s3, s4⟩ := sx
    rw [List.nil_append] at s1 s2 hl
    rw [X7_settle_q, s1]
    cases W with
    | nil => rw [if_pos (show nI ([] : List Int32).length ≤ (0 : Int32) by decide)]
    | cons x W =>
      have hl' : W.length + 1 + C.length ≤ 96 := hl
      rw [if_neg (show ¬ nI (x :: W).length ≤ (0 : Int32) from nI_ge (a := 0) (by simp) (by simp; omega)), show nI (x :: W).length - 1 = nI W.length from za_s1 (n := W.length + 1) (by omega), if_pos (za_in (show W.length < 96 by omega) (by decide))]
      simp only [za_cl (show W.length < 2 ^ 31 by omega)]
      rw [stR_t s2]
      rcases hs with hs | hs
      · rw [if_pos hs]
      · by_cases hx : x = -11
        · rw [if_pos hx]
        · rw [if_neg hx, if_pos (za_in (show W.length < 96 by omega) (by decide)), kX7_rank, ab_cI_s, if_pos (nI_lt hs (by omega))]
  | x :: P, μ, C, hP, hs, sx, hl => by
    obtain ⟨s1, s2, s3, s4⟩ := sx
    have hx := hP x (by simp)
    have hl' : (P ++ W).length + 1 + C.length ≤ 96 := hl
    have hr7 := rkN_7 x
    have e19 : nI ((x :: P) ++ W).length - 1 = nI (P ++ W).length := za_s1 (n := (P ++ W).length + 1) (by omega)
    have in1 := za_in (show (P ++ W).length < 96 by omega) (show 96 < 2 ^ 31 by decide)
    have in2 := za_in (show C.length < 96 by omega) (show 96 < 2 ^ 31 by decide)
    have st : μ 85 (P ++ W).length = x := stR_t s2
    rw [X7_settle_q, s1, if_neg (show ¬ nI ((x :: P) ++ W).length ≤ (0 : Int32) from nI_ge (a := 0) (by simp) (by simp at hl ⊢; omega)), e19, if_pos in1, if_pos in1, za_cl (by omega), st, if_neg hx.1, kX7_rank, ab_cI_s, if_neg (za_lt.mpr (nI_le hx.2 (by omega))), s1, e19, za_up_s, if_pos in1, za_up_j (show (16 : Nat) ≠ 19 by decide), s3, if_pos in2, za_cl (by omega), za_cl (by omega), za_up_a (show (85 : Nat) ≠ 76 by decide), st, za_up_a (show (76 : Nat) ≠ 84 by decide), za_up_j (show (16 : Nat) ≠ 19 by decide), s3, za_1]
    have sx2 : SX (ab_up (ab_up (ab_up μ 76 19 (nI (P ++ W).length)) 84 C.length x) 76 16 (nI (C.length + 1))) (P ++ W) (C ++ [x]) := by
      refine ⟨?_, stR_f (stR_p s2) ?_, ?_, fun i y hy => ?_⟩
      · rw [za_up_j (by decide), za_up_a (by decide), za_up_s]
      · rw [za_up_a (by decide), za_up_a (by decide), za_up_a (by decide)]
      · rw [za_up_s]; simp
      · rw [za_up_a (by decide)]
        rcases app_get hy with ⟨hi, e⟩ | ⟨hi, e⟩
        · rw [za_up_j (by omega), za_up_a (by decide)]; exact s4 i y e
        · rw [hi, za_up_s, e]
    obtain ⟨μ2, q1, q2, q3⟩ := kX7_settle hl7 P _ (C ++ [x]) (fun y hy => hP y (by simp [hy])) hs sx2 (by simp at hl' ⊢; omega)
    refine ⟨μ2, q1, by rw [List.append_assoc] at q2; exact q2, F1.t ⟨fun a h1 h2 => ?_, fun j h1 h2 => ?_⟩ q3⟩
    · rw [za_up_a h1, za_up_a h2, za_up_a h1]
    · rw [za_up_j h1, za_up_a (by decide), za_up_j h2]
/-- how many nots wait -/
theorem kX7_nots (hl : W.length ≤ 96) (h19 : μ 76 19 = nI W.length) (hs : stR μ 85 W) : X7_notsOpen E d μ = some (some (.int (nI (cnt W))), μ) := by
  have key : ∀ j k, k + j = W.length → X7_notsOpen_4 E d (nI (cnt (W.drop j))) (nI k) μ = some (some (.int (nI (cnt W))), μ) := by
    intro j
    induction j with
    | zero =>
      intro k e
      rw [X7_notsOpen_4_q, h19, if_pos (nI_le (by omega) (by omega)), List.drop_zero]
    | succ j ih =>
      intro k e
      have hj : j < W.length := by omega
      have ej : μ 85 k = W[j] := by
        have := hs j W[j] (List.getElem?_eq_getElem hj)
        rw [show W.length - 1 - j = k by omega] at this
        exact this
      have ed : W.drop j = W[j] :: W.drop (j + 1) := List.drop_eq_getElem_cons hj
      rw [X7_notsOpen_4_q, h19, if_neg (nI_ge (by omega) (by omega)), if_pos (za_in (show k < 96 by omega) (by decide)), za_cl (by omega), ej, za_1, za_1, za_a0]
      have ih' := ih (k + 1) (by omega)
      rw [ed] at ih'
      have ec : cnt (W[j] :: W.drop (j + 1)) = (if W[j] = -10 then 1 else 0) + cnt (W.drop (j + 1)) := rfl
      rw [ec] at ih'
      by_cases c : W[j] = -10
      · rw [if_neg (fun q => q c)]
        rw [if_pos c, Nat.add_comm] at ih'
        exact ih'
      · rw [if_pos c]
        rw [if_neg c, Nat.zero_add] at ih'
        exact ih'
  rw [X7_notsOpen_q]
  have := key W.length 0 (by omega)
  rw [List.drop_length] at this
  exact this
theorem tok_3 {n : Nat} (hn : n = 0 ∨ n = 1 ∨ n = 3) (w : WT z B τ) : nI (tok τ) = nI n ↔ τ.2.2 = n := by
  have c5 := w.c5
  unfold tok
  by_cases c : τ.2.2 = 2 ∧ ¬ τ.2.1 - τ.1 ≤ 4
  · rw [if_pos c]
    exact ⟨fun q => by have := (nI_eq (by omega) (by omega)).mp q; omega, fun q => by omega⟩
  · rw [if_neg c]
    exact ⟨fun q => (nI_eq (by omega) (by omega)).mp q, fun q => by rw [q]⟩
theorem tok3 (w : WT z B τ) : nI (tok τ) = (3 : Int32) ↔ τ.2.2 = 3 := tok_3 (n := 3) (by omega) w
theorem tok1 (w : WT z B τ) : nI (tok τ) = (1 : Int32) ↔ τ.2.2 = 1 := tok_3 (n := 1) (by omega) w
theorem tok0 (w : WT z B τ) : nI (tok τ) = (0 : Int32) ↔ τ.2.2 = 0 := tok_3 (n := 0) (by omega) w
theorem kX7_sign (t : TR μ z B τ) (w : WT z B τ) : X7_signHere E d μ = some (some (.int (if τ.2.2 = 3 then sgnR (B τ.1) else 0)), μ) := by
  have c5 := w.c5
  rw [X7_signHere_q, t.2.2.2.1]
  by_cases c3 : τ.2.2 = 3
  · have hb := t.1.2.1 _ (w.lt (by omega))
    have e : ∀ n, n < 256 → ((nI (B τ.1) = nI n) ↔ B τ.1 = n) := fun n hn => nI_eq (by omega) (by omega)
    rw [if_pos ((tok3 w).mpr c3), if_pos c3, t.2.2.2.2.1 (Or.inr c3)]
    unfold sgnR
    have k : ∀ (n : Nat) (x : Int32) (f : Option (Option Value × ab_M)) (y : Int32), n < 256 → (f = some (some (.int y), μ)) → (if nI (B τ.1) = nI n then some (some (Value.int x), μ) else f) = some (some (.int (if B τ.1 = n then x else y)), μ) := by
      intro n x f y hn hf
      by_cases c : B τ.1 = n
      · rw [if_pos ((e n hn).mpr c), if_pos c]
      · rw [if_neg (fun q => c ((e n hn).mp q)), if_neg c, hf]
    exact k 38 _ _ _ (by decide) (k 42 _ _ _ (by decide) (k 43 _ _ _ (by decide) (k 45 _ _ _ (by decide) (k 47 _ _ _ (by decide) (k 60 _ _ _ (by decide) (k 61 _ _ _ (by decide) (k 62 _ _ _ (by decide) (k 124 _ _ _ (by decide) rfl))))))))
  · rw [if_neg (fun q => c3 ((tok3 w).mp q)), if_neg c3]
theorem SX.f (h : SX μ W C) (f : FR μ μ') : SX μ' W C := ⟨by rw [f.2 19 (by decide)]; exact h.1, stR_f h.2.1 (f.1 85 (by decide)), by rw [f.2 16 (by decide)]; exact h.2.2.1, fun i x hx => by rw [f.1 84 (by decide)]; exact h.2.2.2 i x hx⟩
theorem RX.l (h : RX μ z B key τ W C) : W.length + C.length ≤ 96 := by
  have h1 := h.2.1.1
  have h2 := h.2.1.2.1
  have h3 := h.1.1.1
  have h4 := h.2.2.2.2.2
  omega
/-- the next token -/
theorem RX.go (t : TR μ z B τ) (w : WT z B τ) (hc : τ.2.2 = 1 ∨ τ.2.2 = 2 ∨ τ.2.2 = 3) (sx : SX μ W C) (hv : μ 76 17 = nI (lvs C)) (hk : μ 76 12 = nI key) (hl : W.length + C.length ≤ τ.1 + 1) : ∃ μ', X7_go E (d + 1) μ = some (none, μ') ∧ RX μ' z B key (nxt z B τ) W C ∧ FR μ μ' ∧ τ.1 + 1 ≤ (nxt z B τ).1 := by
  obtain ⟨μ', e1, e2, e3⟩ := kX7_go (E := E) (d := d) t w hc
  have hlt := w.lt (by omega)
  have hw2 := w.2.2.1 hlt
  have hn : τ.1 + 1 ≤ (nxt z B τ).1 := by have := (nf_b (B := B) w.2.1).1; show τ.1 + 1 ≤ nf z B τ.2.1; omega
  exact ⟨μ', e1, ⟨e2, WT_n w.2.1, sx.f e3, by rw [e3.2 17 (by decide)]; exact hv, by rw [e3.2 12 (by decide)]; exact hk, by omega⟩, e3, hn⟩
theorem rep_m {k : Nat} {x : Int32} (h : x ∈ List.replicate k (-10 : Int32)) : x = -10 := List.eq_of_mem_replicate h
/-- a part is taken: its code is written, the nots over it too -/
theorem kX7_pt {k : Nat} {x : Int32} (rx : RX μ z B key τ (List.replicate k (-10) ++ W) C) (hs : stp W 6) (hc : τ.2.2 = 1 ∨ τ.2.2 = 2) (hx : 0 ≤ x) : ∃ μ', (if ab_in (μ 76 16) 96 then (ab_cV (X7_settle E (d + 1) 6 (ab_up (ab_up (ab_up μ 84 (μ 76 16).toNatClampNeg x) 76 16 (((ab_up μ 84 (μ 76 16).toNatClampNeg x) 76 16) + 1)) 76 17 (((ab_up (ab_up μ 84 (μ 76 16).toNatClampNeg x) 76 16 (((ab_up μ 84 (μ 76 16).toNatClampNeg x) 76 16) + 1)) 76 17) + 1))) (fun μ8 => (ab_cV (X7_go E (d + 1) μ8) (fun μ10 => some (some (Value.int 1), μ10))))) else none) = some (some (.int 1), μ') ∧ RX μ' z B key (nxt z B τ) W (C ++ [x] ++ List.replicate k (-10)) ∧ FX μ μ' ∧ μ' 86 = μ 86 ∧ τ.1 + 1 ≤ (nxt z B τ).1 := by
  obtain ⟨t, w, ⟨s1, s2, s3, s4⟩, hv, hk, hl⟩ := rx
  have hlt := w.lt (by omega)
  have hz := t.1.1
  have hl2 : k + W.length + C.length ≤ τ.1 := by simpa using hl
  rw [za_up_a (show (76 : Nat) ≠ 84 by decide), za_up_j (show (17 : Nat) ≠ 16 by decide), za_up_a (show (76 : Nat) ≠ 84 by decide), s3, hv, if_pos (za_in (show C.length < 96 by omega) (by decide)), za_cl (by omega), za_1, za_1]
  have sx1 : SX (ab_up (ab_up (ab_up μ 84 C.length x) 76 16 (nI (C.length + 1))) 76 17 (nI (lvs C + 1))) (List.replicate k (-10) ++ W) (C ++ [x]) := by
    refine ⟨?_, stR_f s2 ?_, ?_, fun i y hy => ?_⟩
    · rw [za_up_j (by decide), za_up_j (by decide), za_up_a (by decide)]; exact s1
    · rw [za_up_a (by decide), za_up_a (by decide), za_up_a (by decide)]
    · rw [za_up_j (by decide), za_up_s]; simp
    · rw [za_up_a (by decide), za_up_a (by decide)]
      rcases app_get hy with ⟨hi, e⟩ | ⟨hi, e⟩
      · rw [za_up_j (by omega)]; exact s4 i y e
      · rw [hi, za_up_s, e]
  obtain ⟨μ2, q1, q2, q3⟩ := kX7_settle (E := E) (d := d) (least := 6) (by omega) (List.replicate k (-10)) _ (C ++ [x]) (fun y hy => by rw [rep_m hy]; decide) hs sx1 (by simp; omega)
  have ht2 : TR μ2 z B τ := TR.f t (by rw [q3.1 81 (by decide) (by decide), za_up_a (by decide), za_up_a (by decide), za_up_a (by decide)]) (fun j h1 h2 => by rw [q3.2 j (by omega) (by omega), za_up_j (by omega), za_up_j (by omega), za_up_a (by decide)])
  have hlv : lvs (C ++ [x] ++ List.replicate k (-10)) = lvs C + 1 := by rw [lvs_a, lvs_z (P := List.replicate k (-10)) (fun y hy => by rw [rep_m hy]; decide), lvs_p hx]
  obtain ⟨μ3, r1, r2, r3, r4⟩ := RX.go (E := E) (d := d) (key := key) ht2 w (by omega) q2 (by rw [q3.2 17 (by decide) (by decide), za_up_s, hlv]) (by rw [q3.2 12 (by decide) (by decide), za_up_j (by decide), za_up_j (by decide), za_up_a (by decide)]; exact hk) (by simp; omega)
  rw [show (6 : Int32) = nI 6 from rfl, q1, ab_cV_s, r1, ab_cV_s]
  refine ⟨μ3, rfl, r2, FX.t (FX.t ⟨fun a h1 h2 h3 h4 => ?_, fun j h1 h2 h3 h4 => ?_⟩ q3.x) r3.x, ?_, r4⟩
  · rw [za_up_a h1, za_up_a h1, za_up_a h2]
  · rw [za_up_j h3, za_up_j h2, za_up_a (by decide)]
  · rw [r3.1 86 (by decide), q3.1 86 (by decide) (by decide), za_up_a (by decide), za_up_a (by decide), za_up_a (by decide)]
end
