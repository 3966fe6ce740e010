section
variable {E : ab_E} {d : Nat} {μ : ab_M} {r n m : Nat} {N : Nat → Int32} {a b c : Int32}
theorem kX1_leaf {bd : Nat} (hbd : bd ≤ 4) (fs : Nat → Int32) (h0 : 0 ≤ c) (hc : c.toNatClampNeg < 10000 + bd) (hfs : ∀ i, i < bd → μ 20 i = fs i) : X1_leaf E d c μ = some (some (.int (lf fs c)), μ) := by
  have e := za_nn h0
  rw [X1_leaf_q]
  unfold lf
  by_cases h1 : 10000 ≤ c
  · have hge : 10000 ≤ c.toNatClampNeg := by
      rw [e] at h1
      exact (nI_leI (a := 10000) (by decide) (by have := Int32.toNatClampNeg_lt c; omega)).mp h1
    have hs : c - (10000 : Int32) = nI (c.toNatClampNeg - 10000) := by
      conv => lhs; rw [e]
      exact za_sub (k := 10000) hge
    rw [hs, if_neg (za_lt.mpr (nI_pos' (by omega))), if_neg (show ¬ (4 : Int32) ≤ nI (c.toNatClampNeg - 10000) from nI_ge (b := 4) (by omega) (by decide)), if_pos (za_in (by omega) (by decide)), za_cl (by omega), hfs _ (by omega), if_pos h1]
  · have hlt : c.toNatClampNeg < 10000 := by
      apply Classical.byContradiction
      intro q
      apply h1
      rw [e]
      exact nI_le (a := 10000) (by omega) (by have := Int32.toNatClampNeg_lt c; omega)
    have hz : c - (10000 : Int32) < 0 := by
      have : nI c.toNatClampNeg - nI 10000 < 0 := pk_sneg (by decide) hlt
      rw [← e] at this
      exact this
    rw [if_pos hz, if_neg h1]
theorem en_neg {c : Int32} (h0 : ¬ 0 ≤ c) : en c < 0 := by
  unfold en; rw [if_neg h0]
  repeat' split
  all_goals decide
theorem en_not {c : Int32} (h0 : ¬ 0 ≤ c) (h9 : c = -10 ∨ -9 ≤ c) : en c = -33 ↔ c = -10 := by
  rcases h9 with rfl | h9
  · decide
  · rcases neg9 h0 h9 with rfl | rfl | rfl | rfl | rfl | rfl | rfl | rfl | rfl <;> decide
theorem kX1_value_l {t : Nat} (ht : t < 14) {bd : Nat} (hbd : bd ≤ 4) (fs : Nat → Int32) (hl : tl N t ≤ 96) : ∀ (rem : List Int32) (k : Nat) (st : List Int32) (μ : ab_M) (o : Option Value), (tc N t).drop k = rem → k + rem.length = tl N t → rp bd st.length rem = some 1 → st.length ≤ 96 → stR μ 21 st → RLw μ N t → (∀ i, i < bd → μ 20 i = fs i) →
    ∃ μ', X1_value_24 E (d + 2) (nI t) (6 + 1 * t) (nI st.length) (nI k) o μ = some (some (.int ((ev1 fs st rem).headD 0)), μ') ∧ ∀ a, a ≠ 21 → μ' a = μ a := by
  have hw : 6 + 1 * t < 900 ∧ ab_S0[6 + 1 * t]? = some (1, 96, []) := by
    have := ab_stepsAt (x := nI t) (za_in ht (by decide))
    rw [za_cl (by omega)] at this
    exact this
  have h14 := za_in ht (show 14 < 2 ^ 31 by decide)
  intro rem
  induction rem with
  | nil =>
    intro k st μ o hd hk hrp h96 hst hR hfs
    have : st.length = 1 := by unfold rp at hrp; exact Option.some.inj hrp
    rw [X1_value_24_q hw, if_pos h14, za_cl (by omega), hR.2.2.1, if_pos (nI_le (by simp at hk; omega) (by omega))]
    obtain ⟨x, rfl⟩ := List.length_eq_one_iff.mp this
    have := hst 0 x rfl
    refine ⟨μ, ?_, fun _ _ => rfl⟩
    rw [show [x].length - 1 - 0 = 0 by simp] at this
    rw [this]
    rfl
  | cons c rem ih =>
    intro k st μ o hd hk hrp h96 hst hR hfs
    have hk2 : k < tl N t := by simp at hk; omega
    have hcode : N (91 + 96 * t + k) = c := by
      have h1 : (tc N t)[k]? = some c := by
        have := congrArg (fun l => l[0]?) hd
        simpa using this
      unfold tc at h1
      rw [List.getElem?_map, List.getElem?_range hk2] at h1
      exact Option.some.inj h1
    have hdr : (tc N t).drop (k + 1) = rem := by
      rw [← List.drop_drop, hd]; rfl
    have hlen : k + 1 + rem.length = tl N t := by simp at hk; omega
    have hstep : μ (6 + 1 * t) k = en c := by
      have := hR.2.2.2 k hk2
      rw [hcode] at this
      rw [Nat.one_mul]
      exact this
    have hRu : ∀ j x, RLw (ab_up μ 21 j x) N t := by
      intro j x
      unfold RLw
      rw [za_up_a (show 2 ≠ 21 by decide), za_up_a (show 3 ≠ 21 by decide), za_up_a (show 4 ≠ 21 by decide), za_up_a (show 6 + t ≠ 21 by omega)]
      exact hR
    have hgo : ∀ (y : Int32) (j : Nat) (st' : List Int32) o, rp bd st'.length rem = some 1 → st'.length ≤ 96 → stR (ab_up μ 21 j y) 21 st' → ∃ μ', X1_value_24 E (d + 2) (nI t) (6 + 1 * t) (nI st'.length) (nI (k + 1)) o (ab_up μ 21 j y) = some (some (.int ((ev1 fs st' rem).headD 0)), μ') ∧ ∀ a, a ≠ 21 → μ' a = μ a := by
      intro y j st' o h1 h2 h3
      obtain ⟨μ', e1, e2⟩ := ih (k + 1) st' (ab_up μ 21 j y) o hdr hlen h1 h2 h3 (hRu j y) (fun i hi => by rw [za_up_a (by decide)]; exact hfs i hi)
      exact ⟨μ', e1, fun a ha => by rw [e2 a ha, za_up_a ha]⟩
    rw [X1_value_24_q hw, if_pos h14, za_cl (show t < 2 ^ 31 by omega), hR.2.2.1, if_neg (nI_ge (by omega) (by omega)), if_neg (show ¬ Int32.ofNat 96 ≤ nI k from nI_ge (b := 96) (by omega) (by decide)), if_pos (za_in (show k < 96 by omega) (by decide)), za_cl (show k < 2 ^ 31 by omega), hstep, za_1 k]
    unfold rp at hrp
    unfold ev1
    by_cases h0 : 0 ≤ c
    · rw [if_pos h0] at hrp ⊢
      have he : en c = c := by unfold en; rw [if_pos h0]
      rw [he, if_neg (za_lt.mpr h0)]
      split at hrp
      · rename_i hq
        obtain ⟨hq1, hq2⟩ := hq
        rw [if_neg (show ¬ Int32.ofNat 96 ≤ nI st.length from nI_ge (b := 96) (by omega) (by decide)), kX1_leaf hbd fs h0 hq1 hfs, ab_cI_s, if_pos (za_in (show st.length < 96 by omega) (by decide)), za_cl (show st.length < 2 ^ 31 by omega), za_1 st.length]
        exact hgo (lf fs c) st.length (lf fs c :: st) _ hrp (by simp; omega) (stR_push hst)
      · cases hrp
    · rw [if_neg h0] at hrp ⊢
      rw [if_pos (en_neg h0)]
      by_cases h1 : c = -10
      · rw [if_pos h1] at hrp ⊢
        rw [if_neg (fun q => q ((en_not h0 (Or.inl h1)).mpr h1))]
        split at hrp
        · rename_i hq
          obtain ⟨x, q, rfl⟩ : ∃ x q, st = x :: q := by
            cases st with
            | nil => simp at hq
            | cons x q => exact ⟨x, q, rfl⟩
          have hq96 : q.length < 96 := by simp at h96; omega
          have htop : μ 21 q.length = x := by
            have := hst 0 x rfl
            rw [show (x :: q).length - 1 - 0 = q.length by simp] at this
            exact this
          have hlq : (x :: q).length = q.length + 1 := rfl
          have hin := za_in hq96 (show 96 < 2 ^ 31 by decide)
          rw [hlq, if_neg (show ¬ nI (q.length + 1) < (1 : Int32) from nI_nlt (b := 1) (by omega) (by omega)), za_s1 (show 1 ≤ q.length + 1 by omega), Nat.add_sub_cancel]
          simp only [if_pos hin, za_cl (show q.length < 2 ^ 31 by omega), htop]
          by_cases hx : x = 0
          · rw [if_neg (fun z => z hx), show zb (x = 0) = 1 from if_pos hx]
            exact hgo 1 q.length (1 :: q) _ hrp (by simp; omega) (stR_top hst)
          · rw [if_pos hx, show zb (x = 0) = 0 from zb_0.mpr hx]
            exact hgo 0 q.length (0 :: q) _ hrp (by simp; omega) (stR_top hst)
        · cases hrp
      · rw [if_neg h1] at hrp ⊢
        split at hrp
        · rename_i h9
          rw [if_pos (fun q => h1 ((en_not h0 (Or.inr h9)).mp q))]
          split at hrp
          · rename_i hq
            obtain ⟨y, x, q, rfl⟩ : ∃ y x q, st = y :: x :: q := by
              cases st with
              | nil => simp at hq
              | cons y st =>
                cases st with
                | nil => simp at hq
                | cons x q => exact ⟨y, x, q, rfl⟩
            have hq96 : q.length + 1 < 96 := by simp at h96; omega
            have hy : μ 21 (q.length + 1) = y := by
              have := hst 0 y rfl
              rw [show (y :: x :: q).length - 1 - 0 = q.length + 1 by simp] at this
              exact this
            have hx : μ 21 q.length = x := by
              have := hst 1 x rfl
              rw [show (y :: x :: q).length - 1 - 1 = q.length by simp] at this
              exact this
            have hlq : (y :: x :: q).length = q.length + 2 := rfl
            rw [hlq, if_neg (show ¬ nI (q.length + 2) < (2 : Int32) from nI_nlt (b := 2) (by omega) (by omega))]
            simp only [za_m1 (show 1 ≤ q.length + 2 by omega), show q.length + 2 - 1 = q.length + 1 by omega, za_s1 (show 1 ≤ q.length + 1 by omega), Nat.add_sub_cancel, if_pos (za_in (show q.length < 96 by omega) (show 96 < 2 ^ 31 by decide)), if_pos (za_in hq96 (show 96 < 2 ^ 31 by decide)), za_cl (show q.length < 2 ^ 31 by omega), za_cl (show q.length + 1 < 2 ^ 31 by omega), hx, hy, kX1_join h0 h9, ab_cI_s]
            exact hgo (tw c x y) q.length (tw c x y :: q) _ hrp (by simp at h96 ⊢; omega) (stR_bin hst)
          · cases hrp
        · cases hrp
theorem kX1_value {t : Nat} (ht : t < 14) (gt : GT N t) (hR : RLw μ N t) (fs : Nat → Int32) (hfs : ∀ i, i < nb (tk N t) → μ 20 i = fs i) : ∃ μ', X1_value E (d + 2) (nI t) μ = some (some (.int (vlN N t fs)), μ') ∧ ∀ a, a ≠ 21 → μ' a = μ a := by
  obtain ⟨g1, g2, g3, g4⟩ := gt
  rw [X1_value_q, kX6_isWithin, ab_cI_s, show zb (0 ≤ nI t ∧ nI t ≤ 13) = 1 from if_pos ⟨nI_pos' (by omega), nI_le (b := 13) (by omega) (by decide)⟩, if_pos (by decide), if_pos (za_in ht (by decide)), za_cl (by omega)]
  exact kX1_value_l ht (by unfold nb; split <;> decide) fs g3 (tc N t) 0 [] μ none rfl (by simp [tc]) g4 (by simp) (fun i x h => by simp at h) hR hfs
theorem kX7_worksOut {t : Nat} (ht : t < 14) (gt : GT N t) (hN : μ 77 = N) (fs : Nat → Int32) (hfs : ∀ i, i < nb (tk N t) → μ 88 i = fs i) : ∃ μ', X7_worksOut E (d + 1) (nI t) μ = some (some (.int (vlN N t fs)), μ') ∧ ∀ a, a ≠ 87 → μ' a = μ a := by
  obtain ⟨g1, g2, g3, g4⟩ := gt
  have hix : (63 : Int32) + ((2 : Int32) * nI t) = nI (63 + 2 * t) := by
    show nI 63 + nI 2 * nI t = _
    rw [pk_mul, nI_add]
  have hrem : nI (1000 * tk N t + tl N t) - nI (1000 * tk N t + tl N t) / (1000 : Int32) * (1000 : Int32) = nI (tl N t) := by
    have := pk_rem (a := 1000 * tk N t + tl N t) (d := 1000) (by omega) (by decide) (by decide)
    rw [show (1000 * tk N t + tl N t) % 1000 = tl N t by omega] at this
    exact this
  rw [X7_worksOut_q, hix, if_pos (za_in (by omega) (by decide)), za_cl (by omega), hN, g1, hrem]
  exact kX7_worksOut_l ht (by unfold nb; split <;> decide) fs g3 (tc N t) 0 [] μ none rfl (by simp [tc]) g4 (by simp) (fun i x h => by simp at h) hN hfs
/-- the text that counts, as the reference finds it -/
theorem kX7_counts_l {key : Nat} (hkey : key < 3) (hN : μ 77 = N) (g : G N n m) : ∀ t, t ≤ m → X7_counts_10 E d (nI key) (nI t - 1) μ = some (some (.int (cm (lT N key t))), μ) := by
  intro t
  induction t with
  | zero =>
    intro _
    rw [X7_counts_10_q, if_pos (show nI 0 - 1 < 0 by decide)]
    rfl
  | succ t ih =>
    intro ht
    have hm := g.2.2.2.2.1.2
    obtain ⟨g1, g2, g3, g4⟩ := g.2.2.2.2.2 t (by omega)
    have hix : (63 : Int32) + ((2 : Int32) * nI t) = nI (63 + 2 * t) := by
      show nI 63 + nI 2 * nI t = _
      rw [pk_mul, nI_add]
    have hdv : nI (1000 * tk N t + tl N t) / (1000 : Int32) = nI (tk N t) := by
      have := pk_div (a := 1000 * tk N t + tl N t) (d := 1000) (by omega) (by decide) (by decide)
      rw [show (1000 * tk N t + tl N t) / 1000 = tk N t by omega] at this
      exact this
    rw [X7_counts_10_q, nI_pred, if_neg (nI_pos (by omega)), hix, if_pos (za_in (by omega) (by decide)), za_cl (by omega), hN, g1, hdv]
    unfold lT
    by_cases e : tk N t = key
    · rw [if_neg (fun q => q (by rw [e])), if_pos e]; rfl
    · rw [if_pos (show ¬ nI (tk N t) = nI key from fun q => e ((nI_eq (by omega) (by omega)).mp q)), if_neg e]
      have := ih (by omega)
      rw [show nI t + (-1 : Int32) = nI t - 1 by
        apply Int32.toBitVec_inj.mp
        simp [BitVec.sub_eq_add_neg]] 
      exact this
theorem kX7_counts {key : Nat} (hkey : key < 3) (hN : μ 77 = N) (g : G N n m) : X7_counts E d (nI key) μ = some (some (.int (cm (lT N key m))), μ) := by
  rw [X7_counts_q, hN, g.2.2.2.2.1.1]
  exact kX7_counts_l hkey hN g m (Nat.le_refl _)
theorem lT_lt {key : Nat} : ∀ {m t}, lT N key m = some t → t < m ∧ tk N t = key
  | 0, t, h => by cases h
  | m + 1, t, h => by
    unfold lT at h
    split at h
    · rename_i e; cases h; exact ⟨by omega, e⟩
    · obtain ⟨h1, h2⟩ := lT_lt h; exact ⟨by omega, h2⟩
end
