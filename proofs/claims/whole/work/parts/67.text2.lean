/-! text: the pair -/
section
variable {E : ab_E} {d : Nat} {μ μ' μ'' : ab_M} {z key n m : Nat} {B : Nat → Nat} {τ : Nat × Nat × Nat} {W C P cs : List Int32} {N N' : Nat → Int32}
/-- the rooms with a text more -/
theorem RC.nt {ν : ab_M} (h : RC μ 22 N n m) (tn : TN N N' m key cs) (hm : m < 14) (hk : key < 3) (hl : cs.length ≤ 96) (hn : n ≤ 10) (f22 : ∀ j, j ≠ 9 → ν 22 j = μ 22 j) (f229 : ν 22 9 = nI (m + 1)) (fr : ∀ a, 23 ≤ a → a < 29 → ν a = μ a) (f29 : ∀ k, k ≠ key → ν 29 k = μ 29 k) (f29k : ν 29 key = nI m) (ft : ∀ t, t < m → ν 2 t = μ 2 t ∧ ν 3 t = μ 3 t ∧ ν 4 t = μ 4 t ∧ ν (6 + t) = μ (6 + t)) (n2 : ν 2 m = nI key) (n3 : ν 3 m = nI (lvs cs)) (n4 : ν 4 m = nI cs.length) (n6 : ∀ i x, cs[i]? = some x → ν (6 + m) i = en x) : RC ν 22 N' n (m + 1) := by
  have lo : ∀ q, q ≠ 6 → q < 63 → N' q = N q := fun q h1 h2 => tn.2.2.2.2 q h1 (by omega) (by omega) (by omega)
  obtain ⟨⟨a1, a2, a3, a4, a5, a6, a7⟩, h2, h3, h4, h5⟩ := h
  obtain ⟨k1, k2⟩ := tn.k hl hm hk
  refine ⟨⟨by rw [f22 8 (by decide), lo 1 (by decide) (by decide)]; exact a1, by rw [f229, tn.1], by rw [f22 10 (by decide), lo 3 (by decide) (by decide)]; exact a3, by rw [f22 11 (by decide), lo 4 (by decide) (by decide)]; exact a4, by rw [f22 12 (by decide), lo 5 (by decide) (by decide)]; exact a5, by rw [f22 13 (by decide), lo 2 (by decide) (by decide)]; exact a6, by rw [f22 14 (by decide), lo 0 (by decide) (by decide)]; exact a7⟩, fun c hc => ?_, fun s hs => ?_, fun k hk' => ?_, fun t ht => ?_⟩
  · rw [fr (22 + 6) (by omega) (by omega), lo (7 + c) (by omega) (by omega)]; exact h2 c hc
  · unfold RS
    rw [fr (22 + 1) (by omega) (by omega), fr (22 + 2) (by omega) (by omega), fr (22 + 3) (by omega) (by omega), fr (22 + 4) (by omega) (by omega), fr (22 + 5) (by omega) (by omega), lo (13 + 5 * s) (by omega) (by omega), lo (14 + 5 * s) (by omega) (by omega), lo (15 + 5 * s) (by omega) (by omega), lo (16 + 5 * s) (by omega) (by omega), lo (17 + 5 * s) (by omega) (by omega)]
    exact h3 s hs
  · show ν 29 k = cn (if tk N' m = k then some m else lT N' k m)
    rw [k1]
    by_cases e : key = k
    · rw [if_pos e, ← e]; exact f29k
    · rw [if_neg e, f29 k (fun q => e q.symm), tn.lTe hm m (Nat.le_refl _)]; exact h4 k hk'
  · by_cases e : t = m
    · subst e
      unfold RLw
      rw [k1, k2, n2, n3, n4, tn.2.2.1]
      refine ⟨rfl, rfl, rfl, fun k hk' => ?_⟩
      rw [n6 k _ (List.getElem?_eq_getElem hk'), tn.2.2.2.1 k _ (List.getElem?_eq_getElem hk')]
    · have htm : t < m := by omega
      obtain ⟨e1, e2, e3, e4⟩ := ft t htm
      obtain ⟨j1, j2⟩ := tn.ot hm htm
      obtain ⟨r1, r2, r3, r4⟩ := h5 t htm
      unfold RLw
      rw [j1, j2, e1, e2, e3, e4, (tn.o hm htm).2]
      refine ⟨r1, r2, r3, fun k hk' => ?_⟩
      by_cases h96 : k < 96
      · rw [tn.c hm htm h96]; exact r4 k hk'
      · rw [show N' (91 + 96 * t + k) = N' (91 + 96 * t + k) from rfl]
        exact absurd hk' (by
          intro q
          exact h96 (by
            have : tl N t ≤ 96 := Classical.byContradiction fun w => h96 (by omega)
            omega))
end
