/-! the key of a text; the written code is well made -/
def byN (i k : Nat) : Nat := ((ab_by.getD i []).getD k 0).toNatClampNeg
def fwK (i : Nat) (B : Nat → Nat) (f : Nat) : Nat → Nat → Bool
  | 0, _ => true
  | j + 1, k => if B (f + k) = byN i k then fwK i B f j (k + 1) else false
def isK (B : Nat → Nat) (i : Nat) (τ : Nat × Nat × Nat) : Bool := decide (τ.2.2 = 1 ∧ τ.2.1 - τ.1 = ab_ln.getD i 0 ∧ fwK i B τ.1 (ab_ln.getD i 0) 0 = true)
def kyN (B : Nat → Nat) (τ : Nat × Nat × Nat) : Nat → Nat → Option Nat
  | 0, _ => none
  | j + 1, i => if isK B i τ = true then some i else kyN B τ j (i + 1)
theorem by_c : ∀ i, i < 3 → ∀ k, k < 5 → k < ab_ln.getD i 0 → ((((ab_by.getD i []).getD k 0 &&& (255 : Int32)).toUInt32 % 65536).toInt32) = nI (byN i k) ∧ byN i k < 128 := by decide +kernel
theorem nar_c {b : Nat} (hb : b < 256) : narrow .char (.int (nI b)) = .int (nI b) := congrArg Value.int (ch_b b hb)
theorem kat : ∀ w, w < 3 → ([0, 5, 8, 12].getD (w + 1) 0 - [0, 5, 8, 12].getD w 0 = ab_ln.getD w 0 ∧ [0, 5, 8, 12].getD w 0 ≤ [0, 5, 8, 12].getD (w + 1) 0 ∧ ∀ k, k < 5 → k < ab_ln.getD w 0 → ([98, 108, 111, 111, 109, 102, 101, 101, 102, 105, 110, 101].getD ([0, 5, 8, 12].getD w 0 + k) 0 = byN w k ∧ [0, 5, 8, 12].getD w 0 + k < 12)) := by decide +kernel
section
variable {E : ab_E} {d : Nat} {μ μ' μ'' : ab_M} {z key : Nat} {B : Nat → Nat} {τ : Nat × Nat × Nat} {W C P : List Int32}
theorem kJ_charAt {i k : Nat} (hE : E.2.2.category = 1) (hi : i < 3) (hk : k < ab_ln.getD i 0) : J0_charAt_5068e E (d + 4) i (nI k) μ = some (some (.int (nI (byN i k))), μ) := by
  have h5 := (ln_5 i (by omega)).1
  obtain ⟨e1, e2⟩ := by_c i hi k (by omega) hk
  have hl : Int32.ofNat (ab_ln.getD i 0) = nI (ab_ln.getD i 0) := rfl
  rw [J0_charAt_5068e_q (show i < 14 by omega), J0_isLatin1_aae02_q (show i < 14 by omega), if_neg (by decide), if_neg (fun q => q rfl), ab_cI_s, if_neg (by decide), J1_charAt_3b067_q (show i < 14 by omega), J0_checkIndex_df160_q hE, J3_checkIndex_8e157_q hE, if_neg (za_lt.mpr (nI_pos' (by omega))), hl, if_pos (nI_lt hk (by omega)), ab_cI_s, ab_cV_s, if_pos (za_in hk (by omega)), za_cl (by omega), e1, if_pos (nar_c (by omega)), ab_cI_s, if_pos (nar_c (by omega))]
theorem kX5_isWord_l {i : Nat} (hE : E.2.2.category = 1) (hi : i < 3) (t : TC μ z B τ) (w : WT z B τ) (hlen : τ.2.1 - τ.1 = ab_ln.getD i 0) : ∀ j k, k + j = ab_ln.getD i 0 → X5_isWord_20 E (d + 5) i (nI k) μ = some (some (.int (zb (fwK i B τ.1 j k = true))), μ)
  | 0, k, e => by
    have h5 := (ln_5 i (by omega)).1
    rw [X5_isWord_20_q (show i < 14 by omega), kJ_length (show i < 14 by omega), ab_cI_s, if_pos (nI_le (by omega) (by omega))]; rfl
  | j + 1, k, e => by
    have h5 := (ln_5 i (by omega)).1
    have hz := t.1.1
    have hw := w.2.1
    obtain ⟨e1, e2⟩ := by_c i hi k (by omega) (by omega)
    have hb := t.1.2.1 (τ.1 + k) (by omega)
    rw [X5_isWord_20_q (show i < 14 by omega), kJ_length (show i < 14 by omega), ab_cI_s, if_neg (nI_ge (by omega) (by omega)), t.2.1, nI_add, if_pos (za_in (show τ.1 + k < 96 by omega) (by decide)), za_cl (by omega), t.1.2.2.2 _ (by omega), kJ_charAt hE hi (by omega), ab_cI_s, za_1]
    unfold fwK
    by_cases c : B (τ.1 + k) = byN i k
    · rw [if_pos (by rw [c]), if_pos c]
      exact kX5_isWord_l hE hi t w hlen j (k + 1) (by omega)
    · rw [if_neg (fun q => c ((nI_eq (by omega) (by omega)).mp q)), if_neg c]; rfl
theorem kX5_readKey_l (hE : E.2.2.category = 1) (t : TC μ z B τ) (w : WT z B τ) : ∀ j i, i + j = 3 → (kyN B τ j i = none → X5_readKey_2 E (d + 7) (nI i) μ = some (some (.int 0), μ)) ∧ ∀ q, kyN B τ j i = some q → q < 3 ∧ τ.2.2 = 1 ∧ ∃ μ', X5_readKey_2 E (d + 7) (nI i) μ = some (some (.int 1), μ') ∧ TC μ' z B (nxt z B τ) ∧ WT z B (nxt z B τ) ∧ μ' 46 5 = nI q ∧ FT (ab_up μ 46 5 (nI q)) μ'
  | 0, i, e => by
    refine ⟨fun _ => ?_, fun q hq => nomatch hq⟩
    rw [X5_readKey_2_q, if_pos (show (3 : Int32) ≤ nI i from nI_le (a := 3) (by omega) (by omega))]
  | j + 1, i, e => by
    have hi : i < 3 := by omega
    have c5 := w.c5
    have h5 := (ln_5 i (by omega)).1
    have hz := t.1.1
    obtain ⟨ih1, ih2⟩ := kX5_readKey_l hE t w j (i + 1) (by omega)
    have e0 : X5_readKey_2 E (d + 7) (nI i) μ = if isK B i τ = true then ab_cV (X5_pass E (d + 6) (ab_up μ 46 5 (nI i))) (fun μ5 => some (some (.int 1), μ5)) else X5_readKey_2 E (d + 7) (nI (i + 1)) μ := by
      rw [X5_readKey_2_q, if_neg (show ¬ (3 : Int32) ≤ nI i from nI_ge (b := 3) hi (by decide)), t.2.2.2, za_1]
      by_cases c1 : τ.2.2 = 1
      · rw [if_neg (show ¬ ¬ nI τ.2.2 = (1 : Int32) from fun q => q (by rw [c1]; rfl))]
        have ew : X1_wordOf E (d + 6) (nI i) μ = some (some (.ref (1000 + 2 * i)), μ) := by
          rw [X1_wordOf_q]
          rcases (show i = 0 ∨ i = 1 ∨ i = 2 by omega) with rfl | rfl | rfl
          · rw [if_pos (show nI 0 = (0 : Int32) from rfl)]
          · rw [if_neg (by decide), if_pos (show nI 1 = (1 : Int32) from rfl)]
          · rw [if_neg (by decide), if_neg (by decide)]
        have hlt := w.lt (by omega)
        have hw2 := w.2.2.1 hlt
        have hw3 := w.2.1
        rw [ew, ab_cA_s, X5_readKey_k20_q (show i < 14 by omega), X5_isWord_q (show i < 14 by omega), kJ_length (show i < 14 by omega), ab_cI_s, t.2.2.1, t.2.1, za_sub (by omega), za_1]
        by_cases cl : τ.2.1 - τ.1 = ab_ln.getD i 0
        · rw [if_pos (by rw [cl]), show (0 : Int32) = nI 0 from rfl, kX5_isWord_l hE hi t w cl (ab_ln.getD i 0) 0 (by omega), ab_cI_s]
          by_cases cf : fwK i B τ.1 (ab_ln.getD i 0) 0 = true
          · rw [zb_t cf, if_neg (by decide), if_pos (show isK B i τ = true from decide_eq_true_iff.mpr ⟨c1, cl, cf⟩)]
          · rw [zb_f cf, if_pos (show (0 : Int32) = nI 0 from rfl), if_neg (show ¬ isK B i τ = true from fun q => cf (decide_eq_true_iff.mp q).2.2)]
        · rw [if_neg (fun q => cl ((nI_eq (by omega) (by omega)).mp q)), ab_cI_s, if_pos rfl, if_neg (show ¬ isK B i τ = true from fun q => cl (decide_eq_true_iff.mp q).2.1)]
      · rw [if_pos (show ¬ nI τ.2.2 = (1 : Int32) from fun q => c1 ((nI_eq (b := 1) (by omega) (by decide)).mp q)), if_neg (show ¬ isK B i τ = true from fun q => c1 (decide_eq_true_iff.mp q).1)]
    rw [e0]
    unfold kyN
    by_cases c : isK B i τ = true
    · rw [if_pos c, if_pos c]
      refine ⟨fun q => (nomatch q), fun q hq => ?_⟩
      cases hq
      have t1 : TC (ab_up μ 46 5 (nI i)) z B τ := t.fc (fun j hj => za_up_j (by omega)) (za_up_a (by decide))
      obtain ⟨μ1, f1, f2, f3, f4⟩ := kX5_pass (E := E) (d := d + 4) t1 w
      exact ⟨hi, (decide_eq_true_iff.mp c).1, μ1, by rw [f1, ab_cV_s], f2, f4, by rw [f3.2 5 (by decide) (by decide) (by decide), za_up_s], f3⟩
    · rw [if_neg c, if_neg c]
      exact ⟨ih1, ih2⟩
/-- the reference's key -/
theorem kX7_tk55 {w : Nat} (hw3 : w < 3) (sk : SK μ) (t : TR μ z B τ) (wt : WT z B τ) (hlen : τ.2.1 - τ.1 = ab_ln.getD w 0) : ∀ j k, k + j = ab_ln.getD w 0 → (fwK w B τ.1 j k = true → X7_takesKey_55 E (d + 2) (nI w) (nI (ab_ln.getD w 0)) 1 (nI k) μ = ab_cV (X7_go E (d + 1) (ab_up μ 76 12 (nI w))) (fun μ4 => some (some (.int 1), μ4))) ∧ (fwK w B τ.1 j k = false → ∃ o2 o3 o4, X7_takesKey_55 E (d + 2) (nI w) (nI (ab_ln.getD w 0)) 1 (nI k) μ = X7_takesKey_12 E (d + 2) (nI (w + 1)) o2 o3 o4 μ)
  | 0, k, e => by
    have h5 := (ln_5 w (by omega)).1
    refine ⟨fun _ => ?_, fun q => absurd q (by unfold fwK; decide)⟩
    rw [X7_takesKey_55_q, if_pos (nI_le (by omega) (by omega)), if_neg (by decide)]
  | j + 1, k, e => by
    have h5 := (ln_5 w (by omega)).1
    have hz := t.1.1
    have hw := wt.2.1
    obtain ⟨k1, k2, k3⟩ := kat w hw3
    obtain ⟨k4, k5⟩ := k3 k (by omega) (by omega)
    have hb := t.1.2.1 (τ.1 + k) (by omega)
    have hbn := (by_c w hw3 k (by omega) (by omega)).2
    have e83 : μ 83 w = nI ([0, 5, 8, 12].getD w 0) := by
      rcases (show w = 0 ∨ w = 1 ∨ w = 2 by omega) with rfl | rfl | rfl
      · exact sk.2.1
      · exact sk.2.2.1
      · exact sk.2.2.2.1
    obtain ⟨ih1, ih2⟩ := kX7_tk55 hw3 sk t wt hlen j (k + 1) (by omega)
    have e0 : X7_takesKey_55 E (d + 2) (nI w) (nI (ab_ln.getD w 0)) 1 (nI k) μ = if B (τ.1 + k) = byN w k then X7_takesKey_55 E (d + 2) (nI w) (nI (ab_ln.getD w 0)) 1 (nI (k + 1)) μ else X7_takesKey_55 E (d + 2) (nI w) (nI (ab_ln.getD w 0)) 0 (nI (k + 1)) μ := by
      rw [X7_takesKey_55_q, if_neg (nI_ge (by omega) (by omega)), if_neg (by decide), t.2.1, nI_add, if_pos (za_in (show τ.1 + k < 96 by omega) (by decide)), if_pos (za_in (show w < 4 by omega) (by decide))]
      simp only [za_cl (show τ.1 + k < 2 ^ 31 by omega), za_cl (show w < 2 ^ 31 by omega)]
      rw [e83, nI_add, if_pos (za_in k5 (by decide)), za_cl (by omega), t.1.2.2.2 _ (by omega), sk.1 _ k5, k4, za_1]
      by_cases c : B (τ.1 + k) = byN w k
      · rw [if_neg (fun q => q (by rw [c])), if_pos c]
      · rw [if_pos (fun q => c ((nI_eq (by omega) (by omega)).mp q)), if_neg c]
    rw [e0]
    unfold fwK
    by_cases c : B (τ.1 + k) = byN w k
    · rw [if_pos c, if_pos c]
      exact ⟨ih1, ih2⟩
    · rw [if_neg c, if_neg c]
      refine ⟨fun q => absurd q (by decide), fun _ => ?_⟩
      rw [X7_takesKey_55_q, if_pos rfl, if_pos rfl, ite_self, za_1]
      exact ⟨_, _, _, rfl⟩
theorem kX7_key_l (sk : SK μ) (t : TR μ z B τ) (wt : WT z B τ) (c1 : τ.2.2 = 1) : ∀ j i o2 o3 o4, i + j = 3 → (kyN B τ j i = none → X7_takesKey_12 E (d + 2) (nI i) o2 o3 o4 μ = some (some (.int 0), μ)) ∧ ∀ q, kyN B τ j i = some q → q < 3 ∧ ∃ μ', X7_takesKey_12 E (d + 2) (nI i) o2 o3 o4 μ = some (some (.int 1), μ') ∧ TR μ' z B (nxt z B τ) ∧ μ' 76 12 = nI q ∧ FR (ab_up μ 76 12 (nI q)) μ'
  | 0, i, o2, o3, o4, e => by
    refine ⟨fun _ => ?_, fun q hq => nomatch hq⟩
    rw [X7_takesKey_12_q, if_pos (show (3 : Int32) ≤ nI i from nI_le (a := 3) (by omega) (by omega))]
  | j + 1, i, o2, o3, o4, e => by
    have hi : i < 3 := by omega
    have h5 := (ln_5 i (by omega)).1
    have hz := t.1.1
    have hlt := wt.lt (by omega)
    have hw2 := wt.2.2.1 hlt
    have hw3 := wt.2.1
    obtain ⟨k1, k2, k3⟩ := kat i hi
    have e83 : μ 83 (i + 1) - μ 83 i = nI (ab_ln.getD i 0) := by
      rw [← k1]
      rcases (show i = 0 ∨ i = 1 ∨ i = 2 by omega) with rfl | rfl | rfl
      · rw [sk.2.1, sk.2.2.1]; rfl
      · rw [sk.2.2.1, sk.2.2.2.1]; rfl
      · rw [sk.2.2.2.1, sk.2.2.2.2]; rfl
    have e0 : X7_takesKey_12 E (d + 2) (nI i) o2 o3 o4 μ = if τ.2.1 - τ.1 = ab_ln.getD i 0 then X7_takesKey_55 E (d + 2) (nI i) (nI (ab_ln.getD i 0)) 1 0 μ else X7_takesKey_55 E (d + 2) (nI i) (nI (ab_ln.getD i 0)) 0 0 μ := by
      rw [X7_takesKey_12_q, if_neg (show ¬ (3 : Int32) ≤ nI i from nI_ge (b := 3) hi (by decide)), za_1, if_pos (za_in (show i + 1 < 4 by omega) (by decide)), if_pos (za_in (show i < 4 by omega) (by decide))]
      simp only [za_cl (show i < 2 ^ 31 by omega), za_cl (show i + 1 < 2 ^ 31 by omega)]
      rw [e83, t.2.1, t.2.2.1, za_sub (by omega)]
      by_cases c : τ.2.1 - τ.1 = ab_ln.getD i 0
      · rw [if_neg (fun q => q (by rw [c])), if_pos c]
      · rw [if_pos (fun q => c ((nI_eq (by omega) (by omega)).mp q).symm), if_neg c]
    rw [e0]
    unfold kyN
    by_cases cl : τ.2.1 - τ.1 = ab_ln.getD i 0
    · rw [if_pos cl]
      obtain ⟨g1, g2⟩ := kX7_tk55 (E := E) (d := d) hi sk t wt cl (ab_ln.getD i 0) 0 (by omega)
      rw [show nI 0 = (0 : Int32) from rfl] at g1 g2
      by_cases cf : fwK i B τ.1 (ab_ln.getD i 0) 0 = true
      · have hK : isK B i τ = true := decide_eq_true_iff.mpr ⟨c1, cl, cf⟩
        rw [if_pos hK]
        refine ⟨fun q => (nomatch q), fun q hq => ?_⟩
        cases hq
        have t1 : TR (ab_up μ 76 12 (nI i)) z B τ := t.f (za_up_a (by decide)) (fun j h1 h2 => za_up_j (by omega))
        obtain ⟨μ1, f1, f2, f3⟩ := kX7_go (E := E) (d := d) t1 wt (Or.inl c1)
        exact ⟨hi, μ1, by rw [g1 cf, f1, ab_cV_s], f2, by rw [f3.2 12 (by decide), za_up_s], f3⟩
      · have hK : ¬ isK B i τ = true := fun q => cf (decide_eq_true_iff.mp q).2.2
        obtain ⟨p2, p3, p4, g3⟩ := g2 (Bool.eq_false_iff.mpr cf)
        rw [if_neg hK, g3]
        exact kX7_key_l sk t wt c1 j (i + 1) p2 p3 p4 (by omega)
    · have hK : ¬ isK B i τ = true := fun q => cl (decide_eq_true_iff.mp q).2.1
      rw [if_neg cl, if_neg hK, X7_takesKey_55_q, if_pos rfl, if_pos rfl, ite_self, za_1]
      exact kX7_key_l sk t wt c1 j (i + 1) _ _ _ (by omega)
/-! well made -/
def gdc (b : Nat) (cs : List Int32) : Prop := ∀ dp rest, dp + cs.length ≤ 96 → rp b dp (cs ++ rest) = rp b (dp + 1) rest
theorem gdc_1 {b : Nat} {x : Int32} (h0 : 0 ≤ x) (h : x.toNatClampNeg < 10000 + b) : gdc b [x] := by
  intro dp rest hd
  have hd' : dp + 1 ≤ 96 := hd
  show rp b dp (x :: rest) = _
  conv => lhs; unfold rp
  rw [if_pos h0, if_pos ⟨h, by omega⟩]
theorem gdc_2 {b : Nat} {c1 c2 : List Int32} {x : Int32} (h1 : gdc b c1) (h2 : gdc b c2) (h0 : ¬ 0 ≤ x) (h10 : ¬ x = -10) (h9 : -9 ≤ x) : gdc b (c1 ++ c2 ++ [x]) := by
  intro dp rest hd
  have hd' : dp + c1.length + c2.length + 1 ≤ 96 := by simp only [List.length_append, List.length_singleton] at hd; omega
  rw [show c1 ++ c2 ++ [x] ++ rest = c1 ++ (c2 ++ (x :: rest)) by simp, h1 dp _ (by omega), h2 (dp + 1) _ (by omega)]
  show rp b (dp + 1 + 1) (x :: rest) = _
  conv => lhs; unfold rp
  rw [if_neg h0, if_neg h10, if_pos h9, if_pos (by omega)]; rfl
theorem gdc_n {b : Nat} {c1 : List Int32} (h1 : gdc b c1) : gdc b (c1 ++ [-10]) := by
  intro dp rest hd
  have hd' : dp + c1.length + 1 ≤ 96 := by simp only [List.length_append, List.length_singleton] at hd; omega
  rw [show c1 ++ [-10] ++ rest = c1 ++ (-10 :: rest) by simp, h1 dp _ (by omega)]
  conv => lhs; unfold rp
  rw [if_neg (by decide), if_pos rfl, if_pos (by omega)]
theorem WT.n (w : WT z B τ) : WT z B (nxt z B τ) := WT_n w.2.1
theorem lpW {b l : Nat} {sub : Nat × Nat × Nat → Option (List Int32) × (Nat × Nat × Nat)} (hl : l < 5) (hB : ∀ k, k < z → B k < 256) (hsub : ∀ τ cs τ', WT z B τ → sub τ = (some cs, τ') → WT z B τ' ∧ gdc b cs) : ∀ k cs τ cs' τ', WT z B τ → gdc b cs → lpR z B sub (sgo B l) k cs τ = (some cs', τ') → WT z B τ' ∧ gdc b cs'
  | 0, cs, τ, cs', τ', w, g, h => by cases h; exact ⟨w, g⟩
  | k + 1, cs, τ, cs', τ', w, g, h => by
    unfold lpR at h
    by_cases c : τ.2.2 = 3 ∧ isL l (B τ.1) = true
    · rw [show sgo B l τ = some (sgnR (B τ.1)) from if_pos c] at h
      obtain ⟨s1, s2, s3, s4⟩ := en_L l hl _ (hB _ (w.lt (by rw [c.1]; decide))) c.2
      have n10 : ¬ sgnR (B τ.1) = -10 := fun q => by rw [q] at s3; exact absurd s3 (by decide)
      have h' : bnd (sub (nxt z B τ)) (fun c2 τ2 => lpR z B sub (sgo B l) k (cs ++ c2 ++ [sgnR (B τ.1)]) τ2) = (some cs', τ') := h
      cases hs : sub (nxt z B τ) with
      | mk r1 r2 =>
        rw [hs] at h'
        cases r1 with
        | none => exact nomatch h'
        | some c2 =>
          obtain ⟨w2, g2⟩ := hsub _ _ _ w.n hs
          exact lpW hl hB hsub k _ r2 cs' τ' w2 (gdc_2 g g2 s2 n10 s3) h'
    · rw [show sgo B l τ = none from if_neg c] at h
      cases h; exact ⟨w, g⟩
theorem rdW (hkey : key < 3) (hB : ∀ k, k < z → B k < 256) : ∀ F l op nt τ cs τ', l ≤ 6 → WT z B τ → rd z B key F l op nt τ = (some cs, τ') → WT z B τ' ∧ gdc (nb key) cs
  | 0, l, op, nt, τ, cs, τ', hl, w, h => nomatch h
  | F + 1, l, op, nt, τ, cs, τ', hl, w, h => by
    by_cases h5 : l < 5
    · rw [rd_j h5] at h
      cases hs : rd z B key F (l + 1) op nt τ with
      | mk r1 r2 =>
        rw [hs] at h
        cases r1 with
        | none => exact nomatch h
        | some c1 =>
          obtain ⟨w1, g1⟩ := rdW hkey hB F (l + 1) op nt τ c1 r2 (by omega) w hs
          exact lpW h5 hB (fun τ cs τ' w h => rdW hkey hB F (l + 1) op nt τ cs τ' (by omega) w h) _ c1 r2 cs τ' w1 g1 h
    · by_cases h6 : l = 5
      · subst h6
        rw [rd_5] at h
        exact rdW hkey hB F 6 op nt τ cs τ' (by omega) w h
      · have l6 : l = 6 := by omega
        subst l6
        rw [rd_6] at h
        unfold rdP at h
        by_cases c2 : τ.2.2 = 2
        · rw [if_pos c2] at h
          by_cases c4 : τ.2.1 - τ.1 ≤ 4
          · rw [if_pos c4] at h
            cases h
            have s2 : srt z B τ.1 = 2 := by rcases w.2.2.2.1 with e | ⟨e, -⟩ <;> omega
            have hall := w.2.2.2.2 (by rw [s2]; rfl)
            rw [s2] at hall
            have hnum := num_lt (B := B) (f := τ.1) (k := τ.2.1) (fun t h1 h2 => (fig_b (hall t h1 h2)).2.1)
            exact ⟨w.n, gdc_1 (nI_pos' (by omega)) (by rw [za_cl (by omega)]; omega)⟩
          · rw [if_neg c4] at h; exact nomatch h
        · rw [if_neg c2] at h
          by_cases c1 : τ.2.2 = 1
          · rw [if_pos c1] at h
            by_cases cl : τ.2.1 - τ.1 = 1
            · rw [if_pos cl] at h
              cases hq : nmI key (B τ.1) with
              | none => rw [hq] at h; exact nomatch h
              | some q =>
                rw [hq] at h
                cases h
                obtain ⟨q4, q2⟩ := nmI_4 hq
                refine ⟨w.n, gdc_1 (nI_pos' (by omega)) ?_⟩
                rw [za_cl (by omega)]
                unfold nb
                by_cases k0 : key = 0
                · rw [if_pos k0]; omega
                · rw [if_neg k0]; have := q2 k0; omega
            · rw [if_neg cl] at h; exact nomatch h
          · rw [if_neg c1] at h
            by_cases c33 : isS B 33 τ ∧ nt < 8
            · rw [if_pos c33] at h
              cases hs : rd z B key F 6 op (nt + 1) (nxt z B τ) with
              | mk r1 r2 =>
                rw [hs] at h
                cases r1 with
                | none => exact nomatch h
                | some c1 =>
                  obtain ⟨w1, g1⟩ := rdW hkey hB F 6 op (nt + 1) (nxt z B τ) c1 r2 (by omega) w.n hs
                  have h' : ((some (c1 ++ [-10]), r2) : Option (List Int32) × (Nat × Nat × Nat)) = (some cs, τ') := h
                  cases h'
                  exact ⟨w1, gdc_n g1⟩
            · rw [if_neg c33] at h
              unfold rdP2 at h
              by_cases c40 : isS B 40 τ ∧ op < 8
              · rw [if_pos c40] at h
                cases hs : rd z B key F 0 (op + 1) nt (nxt z B τ) with
                | mk r1 r2 =>
                  rw [hs] at h
                  cases r1 with
                  | none => exact nomatch h
                  | some c1 =>
                    obtain ⟨w1, g1⟩ := rdW hkey hB F 0 (op + 1) nt (nxt z B τ) c1 r2 (by omega) w.n hs
                    by_cases c41 : isS B 41 r2
                    · rw [show bnd (some c1, r2) (clP z B) = (some c1, nxt z B r2) from if_pos c41] at h
                      cases h
                      exact ⟨w1.n, g1⟩
                    · rw [show bnd (some c1, r2) (clP z B) = (none, r2) from if_neg c41] at h
                      exact nomatch h
              · rw [if_neg c40] at h; exact nomatch h
end
