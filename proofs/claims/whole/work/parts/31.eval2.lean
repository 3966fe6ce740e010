section
variable {E : ab_E} {d : Nat} {μ : ab_M} {r n m : Nat} {N : Nat → Int32} {a b c : Int32}
theorem za_m1 {n : Nat} (h : 1 ≤ n) : nI n + (-1 : Int32) = nI (n - 1) := by
  obtain ⟨k, rfl⟩ : ∃ k, n = k + 1 := ⟨n - 1, by omega⟩
  exact pk_m1 k
theorem za_s1 {n : Nat} (h : 1 ≤ n) : nI n - (1 : Int32) = nI (n - 1) := by
  obtain ⟨k, rfl⟩ : ∃ k, n = k + 1 := ⟨n - 1, by omega⟩
  exact nI_pred k
theorem za_sub {x k : Nat} (h : k ≤ x) : nI x - nI k = nI (x - k) := pk_sub h
theorem za_nn {c : Int32} (h : 0 ≤ c) : c = nI c.toNatClampNeg := by
  obtain ⟨j, h1, h2⟩ := nI_of (x := c) (by rw [Int32.lt_iff_toInt_lt]; rw [Int32.le_iff_toInt_le] at h; omega)
  rw [h2, nI_clamp h1]
theorem kX7_worksOut_l {t : Nat} (ht : t < 14) {bd : Nat} (hbd : bd ≤ 4) (fs : Nat → Int32) (hl : tl N t ≤ 96) : ∀ (rem : List Int32) (k : Nat) (st : List Int32) (μ : ab_M) (o : Option Value), (tc N t).drop k = rem → k + rem.length = tl N t → rp bd st.length rem = some 1 → st.length ≤ 96 → stR μ 87 st → μ 77 = N → (∀ i, i < bd → μ 88 i = fs i) →
    ∃ μ', X7_worksOut_21 E (d + 1) (nI t) (nI st.length) (nI (tl N t)) (nI k) o μ = some (some (.int ((ev1 fs st rem).headD 0)), μ') ∧ ∀ a, a ≠ 87 → μ' a = μ a := by
  intro rem
  induction rem with
  | nil =>
    intro k st μ o hd hk hrp h96 hst hN hfs
    have : st.length = 1 := by unfold rp at hrp; exact Option.some.inj hrp
    rw [X7_worksOut_21_q, if_pos (nI_le (by simp at hk; omega) (by omega))]
    obtain ⟨x, rfl⟩ := List.length_eq_one_iff.mp this
    have := hst 0 x rfl
    refine ⟨μ, ?_, fun _ _ => rfl⟩
    rw [show [x].length - 1 - 0 = 0 by simp] at this
    rw [this]
    rfl
  | cons c rem ih =>
    intro k st μ o hd hk hrp h96 hst hN hfs
    have hk2 : k < tl N t := by simp at hk; omega
    have hcode : N (91 + 96 * t + k) = c := by
      have h1 : (tc N t)[k]? = some c := by
        have := congrArg (fun l => l[0]?) hd
        simpa using this
      unfold tc at h1
      rw [List.getElem?_map, List.getElem?_range hk2] at h1
      exact Option.some.inj h1
    have hdr : (tc N t).drop (k + 1) = rem := by
      rw [← List.drop_drop, hd]; rfl
    have hlen : k + 1 + rem.length = tl N t := by simp at hk; omega
    have hix : ((91 : Int32) + ((96 : Int32) * nI t)) + nI k = nI (91 + 96 * t + k) := by
      show (nI 91 + nI 96 * nI t) + nI k = _
      rw [pk_mul, nI_add, nI_add]
    rw [X7_worksOut_21_q, if_neg (nI_ge (by omega) (by omega)), hix, if_pos (za_in (by omega) (by decide)), za_cl (by omega), hN, hcode, za_1]
    unfold rp at hrp
    unfold ev1
    by_cases h0 : 0 ≤ c
    · rw [if_pos h0] at hrp ⊢
      rw [if_neg (za_lt.mpr h0)]
      split at hrp
      · rename_i hq
        obtain ⟨hq1, hq2⟩ := hq
        have hpush : ∀ (x : Int32) o, x = lf fs c → ∃ μ', X7_worksOut_21 E (d + 1) (nI t) (nI (st.length + 1)) (nI (tl N t)) (nI (k + 1)) o (ab_up μ 87 st.length x) = some (some (.int ((ev1 fs (lf fs c :: st) rem).headD 0)), μ') ∧ ∀ a, a ≠ 87 → μ' a = μ a := by
          intro x o hx
          obtain ⟨μ', e1, e2⟩ := ih (k + 1) (lf fs c :: st) (ab_up μ 87 st.length x) o hdr hlen hrp (by simp; omega) (by rw [hx]; exact stR_push hst) (by rw [za_up_a (by decide)]; exact hN) (fun i hi => by rw [za_up_a (by decide)]; exact hfs i hi)
          exact ⟨μ', e1, fun a ha => by rw [e2 a ha, za_up_a ha]⟩
        have hst96 := za_in (show st.length < 96 by omega) (show 96 < 2 ^ 31 by decide)
        by_cases h1 : 10000 ≤ c
        · have hc := za_nn h0
          have hge : 10000 ≤ c.toNatClampNeg := by
            rw [hc] at h1
            exact (nI_leI (a := 10000) (by decide) (by have := Int32.toNatClampNeg_lt c; omega)).mp h1
          have hs : c - (10000 : Int32) = nI (c.toNatClampNeg - 10000) := by
            conv => lhs; rw [hc]
            exact za_sub (k := 10000) hge
          rw [if_pos h1, hs, if_pos (za_in (by omega) (by decide)), if_pos hst96, za_cl (by omega), za_cl (by omega), hfs _ (by omega), za_1]
          exact hpush _ _ (by unfold lf; rw [if_pos h1])
        · rw [if_neg h1, if_pos hst96, za_cl (by omega), za_1]
          exact hpush _ _ (by unfold lf; rw [if_neg h1])
      · cases hrp
    · rw [if_neg h0] at hrp ⊢
      rw [if_pos (za_le.mp h0)]
      by_cases h1 : c = -10
      · rw [if_pos h1] at hrp ⊢
        rw [if_neg (fun q => q h1)]
        split at hrp
        · rename_i hq
          obtain ⟨x, q, rfl⟩ : ∃ x q, st = x :: q := by
            cases st with
            | nil => simp at hq
            | cons x q => exact ⟨x, q, rfl⟩
          have hq96 : q.length < 96 := by simp at h96; omega
          have hql : q.length < 2 ^ 31 := by omega
          have htop : μ 87 q.length = x := by
            have := hst 0 x rfl
            rw [show (x :: q).length - 1 - 0 = q.length by simp] at this
            exact this
          have hlq : (x :: q).length = q.length + 1 := rfl
          have hin := za_in hq96 (show 96 < 2 ^ 31 by decide)
          have fin : ∀ (y : Int32) o, y = zb (x = 0) → ∃ μ', X7_worksOut_21 E (d + 1) (nI t) (nI (q.length + 1)) (nI (tl N t)) (nI (k + 1)) o (ab_up μ 87 q.length y) = some (some (.int ((ev1 fs (zb (x = 0) :: q) rem).headD 0)), μ') ∧ ∀ a, a ≠ 87 → μ' a = μ a := by
            intro y o hy
            obtain ⟨μ', e1, e2⟩ := ih (k + 1) (zb (x = 0) :: q) (ab_up μ 87 q.length y) o hdr hlen hrp (by simp at h96 ⊢; omega) (by rw [hy]; exact stR_top hst) (by rw [za_up_a (by decide)]; exact hN) (fun i hi => by rw [za_up_a (by decide)]; exact hfs i hi)
            exact ⟨μ', e1, fun a ha => by rw [e2 a ha, za_up_a ha]⟩
          rw [hlq, za_s1 (show 1 ≤ q.length + 1 by omega), Nat.add_sub_cancel, if_pos hin, if_pos hin, if_pos hin, za_cl hql, htop]
          by_cases hx : x = 0
          · rw [if_neg (fun z => z hx)]
            exact fin 1 _ (by simp [hx])
          · rw [if_pos hx]
            exact fin 0 _ (by simp [hx])
        · cases hrp
      · rw [if_neg h1] at hrp ⊢
        rw [if_pos h1]
        split at hrp
        · rename_i h9
          split at hrp
          · rename_i hq
            obtain ⟨y, x, q, rfl⟩ : ∃ y x q, st = y :: x :: q := by
              cases st with
              | nil => simp at hq
              | cons y st =>
                cases st with
                | nil => simp at hq
                | cons x q => exact ⟨y, x, q, rfl⟩
            have hq96 : q.length + 1 < 96 := by simp at h96; omega
            have hy : μ 87 (q.length + 1) = y := by
              have := hst 0 y rfl
              rw [show (y :: x :: q).length - 1 - 0 = q.length + 1 by simp] at this
              exact this
            have hx : μ 87 q.length = x := by
              have := hst 1 x rfl
              rw [show (y :: x :: q).length - 1 - 1 = q.length by simp] at this
              exact this
            have hlq : (y :: x :: q).length = q.length + 2 := rfl
            simp only [hlq, za_m1 (show 1 ≤ q.length + 2 by omega), show q.length + 2 - 1 = q.length + 1 by omega, za_s1 (show 1 ≤ q.length + 1 by omega), Nat.add_sub_cancel, if_pos (za_in (show q.length < 96 by omega) (show 96 < 2 ^ 31 by decide)), if_pos (za_in hq96 (show 96 < 2 ^ 31 by decide)), za_cl (show q.length < 2 ^ 31 by omega), za_cl (show q.length + 1 < 2 ^ 31 by omega), hx, hy, kX7_two, ab_cI_s]
            obtain ⟨μ', e1, e2⟩ := ih (k + 1) (tw c x y :: q) (ab_up μ 87 q.length (tw c x y)) (some (.int c)) hdr hlen hrp (by simp at h96 ⊢; omega) (stR_bin hst) (by rw [za_up_a (by decide)]; exact hN) (fun i hi => by rw [za_up_a (by decide)]; exact hfs i hi)
            exact ⟨μ', e1, fun a ha => by rw [e2 a ha, za_up_a ha]⟩
          · cases hrp
        · cases hrp
end
