/-! what holds behind the constructors -/
theorem pS_e : pS_169 = ab_S0 := by decide +kernel
theorem st_77 : pM_155 77 = upd (upd (upd (upd (upd (upd (upd (pM_148 77) 0 1) 7 50) 8 50) 9 50) 10 50) 11 50) 12 50 := rfl
theorem st_z77 : pM_148 77 = fun _ => 0 := rfl
theorem st_z78 : pM_155 78 = fun _ => 0 := rfl
theorem st_v1 : pM_155 77 1 = nI 0 ∧ pM_155 77 3 = nI 0 ∧ pM_155 77 6 = nI 0 ∧ pM_155 77 2 = nI 0 := by decide +kernel
theorem st_hd : ∀ c, c < 6 → pM_155 77 (7 + c) = nI (hd (pM_155 77) c) ∧ hd (pM_155 77) c < 100 := by decide +kernel
theorem st_rc : (pM_155 22 8 = pM_155 77 1 ∧ pM_155 22 9 = pM_155 77 6 ∧ pM_155 22 10 = pM_155 77 3 ∧ pM_155 22 11 = pM_155 77 4 ∧ pM_155 22 12 = pM_155 77 5 ∧ pM_155 22 13 = pM_155 77 2 ∧ pM_155 22 14 = pM_155 77 0) ∧ (∀ c, c < 6 → pM_155 (22 + 6) c = pM_155 77 (7 + c)) := by decide +kernel
theorem st_ct : ∀ key, key < 3 → pM_155 (22 + 7) key = -1000000005 := by decide +kernel
theorem st_b : pM_155 0 9 = 0 ∧ pM_155 76 3 = 0 ∧ pM_155 46 1 = nI 0 ∧ pM_155 76 6 = nI 0 ∧ pM_155 0 10 = nI 0 ∧ pM_155 76 32 = nI 0 := by decide +kernel
theorem st_d : ∀ q, q < 4 → pM_155 (50 + 2 * q) 1 = -1 ∧ pM_155 89 q = pM_155 (50 + 2 * q) 1 ∧ pM_155 (50 + 2 * q) 2 = nI 0 ∧ pM_155 90 q = nI 0 ∧ ∀ k, k < 24 → pM_155 (51 + 2 * q) k = pM_155 91 (24 * q + k) := by decide +kernel
theorem st_e : ∀ i, i < 5 → pM_155 (59 + 3 * i) 1 = nI 0 ∧ pM_155 92 i = nI 0 := by decide +kernel
theorem st_k : (∀ k, k < 12 → pM_155 82 k = nI ([98, 108, 111, 111, 109, 102, 101, 101, 102, 105, 110, 101].getD k 0)) ∧ pM_155 83 0 = 0 ∧ pM_155 83 1 = 5 ∧ pM_155 83 2 = 8 ∧ pM_155 83 3 = 12 := by decide +kernel
theorem st_hi : hiE (pM_155 77) (pM_155 78) := fun k hk => by
  rw [st_77, st_z78, st_z77, upd_n (by omega), upd_n (by omega), upd_n (by omega), upd_n (by omega), upd_n (by omega), upd_n (by omega), upd_n (by omega)]
theorem SI_start : SI pM_155 := by
  refine ⟨0, 0, 0, ⟨⟨⟨st_v1.1, by omega⟩, fun s hs => by omega, st_hd, ⟨0, by omega, st_v1.2.1⟩, ⟨st_v1.2.2.1, by omega⟩, fun t ht => by omega⟩, ⟨st_rc.1, st_rc.2, fun s hs => by omega, fun key hk => st_ct key hk, fun t ht => by omega⟩, st_v1.2.2.2, by omega⟩, st_hi, Or.inl ⟨st_b.1, st_b.2.1⟩, ⟨0, by omega, st_b.2.2.1, st_b.2.2.2.1, fun k hk => by omega⟩, fun q hq => ?_, fun i hi => ?_, ⟨0, by omega, st_b.2.2.2.2.1, st_b.2.2.2.2.2, fun k hk => by omega⟩, st_k⟩
  · obtain ⟨a, b, c, e, f⟩ := st_d q hq
    exact ⟨Or.inl a, b, ⟨0, by omega, c, e⟩, f⟩
  · obtain ⟨a, b⟩ := st_e i hi
    exact ⟨0, by omega, a, b, fun h => by omega, fun h => by omega, fun h => by omega⟩
