/-! what holds between two calls -/
def SA (μ : ab_M) (n m e : Nat) : Prop := G (μ 77) n m ∧ RC μ 22 (μ 77) n m ∧ μ 77 2 = nI e ∧ e ≤ 9999
def SB (μ : ab_M) (m : Nat) : Prop := (μ 0 9 = 0 ∧ μ 76 3 = 0) ∨ (μ 0 9 = 1 ∧ μ 76 3 = 1 ∧ ∃ n' m' e', m' ≤ m ∧ G (μ 78) n' m' ∧ RC μ 30 (μ 78) n' m' ∧ μ 78 2 = nI e' ∧ e' ≤ 9999)
def SC (μ : ab_M) : Prop := ∃ z, z ≤ 96 ∧ μ 46 1 = nI z ∧ μ 76 6 = nI z ∧ ∀ k, k < z → ∃ b, b < 256 ∧ μ 47 k = nI b ∧ μ 81 k = nI b
def SDq (μ : ab_M) (q : Nat) : Prop := (μ (50 + 2 * q) 1 = -1 ∨ μ (50 + 2 * q) 1 = 0 ∨ μ (50 + 2 * q) 1 = 1) ∧ μ 89 q = μ (50 + 2 * q) 1 ∧ (∃ z, z ≤ 24 ∧ μ (50 + 2 * q) 2 = nI z ∧ μ 90 q = nI z) ∧ ∀ k, k < 24 → μ (51 + 2 * q) k = μ 91 (24 * q + k)
def SD (μ : ab_M) : Prop := ∀ q, q < 4 → SDq μ q
def SEi (μ : ab_M) (i : Nat) : Prop := ∃ th, th < 4 ∧ μ (59 + 3 * i) 1 = nI th ∧ μ 92 i = nI th ∧ (th = 1 → ∃ x y, x < 100 ∧ y < 100 ∧ μ (59 + 3 * i) 4 = nI x ∧ μ (59 + 3 * i) 5 = nI y ∧ μ (59 + 3 * i) 3 = μ 93 i ∧ μ 94 i = woP (μ 93 i) (nI x) (nI y)) ∧ (th = 2 → ∃ z, z ≤ 24 ∧ μ (60 + 3 * i) 2 = nI z ∧ μ 93 i = nI z ∧ ∀ k, k < 24 → μ (61 + 3 * i) k = μ 95 (24 * i + k)) ∧ (th = 3 → μ (59 + 3 * i) 2 = μ 93 i)
def SE (μ : ab_M) : Prop := ∀ i, i < 5 → SEi μ i
def SF (μ : ab_M) : Prop := ∃ w, w ≤ 60 ∧ μ 0 10 = nI w ∧ μ 76 32 = nI w ∧ ∀ k, k < w → μ 74 k = μ 97 k
def SK (μ : ab_M) : Prop := (∀ k, k < 12 → μ 82 k = nI ([98, 108, 111, 111, 109, 102, 101, 101, 102, 105, 110, 101].getD k 0)) ∧ μ 83 0 = 0 ∧ μ 83 1 = 5 ∧ μ 83 2 = 8 ∧ μ 83 3 = 12
def SO (μ : ab_M) (m : Nat) : Prop := SB μ m ∧ SC μ ∧ SD μ ∧ SE μ ∧ SF μ ∧ SK μ
def SI (μ : ab_M) : Prop := ∃ n m e, SA μ n m e ∧ hiE (μ 77) (μ 78) ∧ SO μ m
/-- the cells that the others lie in -/
def kp (a : Nat) : Prop := a = 0 ∨ (2 ≤ a ∧ a < 20) ∨ (30 ≤ a ∧ a < 38) ∨ a = 46 ∨ a = 47 ∨ (49 ≤ a ∧ a ≤ 74) ∨ a = 76 ∨ a = 78 ∨ (81 ≤ a ∧ a ≤ 83) ∨ (89 ≤ a ∧ a ≤ 95) ∨ a = 97
section
variable {μ μ' : ab_M} {n m e q i : Nat} {a b c : Int32}
theorem isR22 : ab_isRoom 22 := ab_room_22
theorem isR30 : ab_isRoom 30 := ab_room_30
theorem isR38 : ab_isRoom 38 := ab_room_38
theorem SB.fr (h : SB μ m) (f : ∀ a, kp a → μ' a = μ a) : SB μ' m := by
  unfold SB
  rw [f 0 (by unfold kp; omega), f 76 (by unfold kp; omega), f 78 (by unfold kp; omega)]
  rcases h with h | ⟨h1, h2, n', m', e', h3, h4, h5, h6⟩
  · exact Or.inl h
  · exact Or.inr ⟨h1, h2, n', m', e', h3, h4, h5.same isR30 h4.2.2.2.2.1.2 (fun a ha => f a (by unfold kp; omega)), h6⟩
theorem SC.fr (h : SC μ) (f : ∀ a, kp a → μ' a = μ a) : SC μ' := by
  unfold SC
  rw [f 46 (by unfold kp; omega), f 76 (by unfold kp; omega), f 47 (by unfold kp; omega), f 81 (by unfold kp; omega)]
  exact h
theorem SDq.fr (h : SDq μ q) (f : ∀ a, (a = 50 + 2 * q ∨ a = 51 + 2 * q ∨ a = 89 ∨ a = 90 ∨ a = 91) → μ' a = μ a) : SDq μ' q := by
  unfold SDq
  rw [f (50 + 2 * q) (by omega), f (51 + 2 * q) (by omega), f 89 (by omega), f 90 (by omega), f 91 (by omega)]
  exact h
theorem SD.fr (h : SD μ) (f : ∀ a, kp a → μ' a = μ a) : SD μ' := fun q hq => (h q hq).fr fun a ha => f a (by unfold kp; omega)
theorem SEi.fr (h : SEi μ i) (f : ∀ a, (a = 59 + 3 * i ∨ a = 60 + 3 * i ∨ a = 61 + 3 * i ∨ (92 ≤ a ∧ a ≤ 95)) → μ' a = μ a) : SEi μ' i := by
  unfold SEi
  rw [f (59 + 3 * i) (by omega), f (60 + 3 * i) (by omega), f (61 + 3 * i) (by omega), f 92 (by omega), f 93 (by omega), f 94 (by omega), f 95 (by omega)]
  exact h
theorem SE.fr (h : SE μ) (f : ∀ a, kp a → μ' a = μ a) : SE μ' := fun i hi => (h i hi).fr fun a ha => f a (by unfold kp; omega)
theorem SF.fr (h : SF μ) (f : ∀ a, kp a → μ' a = μ a) : SF μ' := by
  unfold SF
  rw [f 0 (by unfold kp; omega), f 76 (by unfold kp; omega), f 74 (by unfold kp; omega), f 97 (by unfold kp; omega)]
  exact h
theorem SK.fr (h : SK μ) (f : ∀ a, kp a → μ' a = μ a) : SK μ' := by
  unfold SK
  rw [f 82 (by unfold kp; omega), f 83 (by unfold kp; omega)]
  exact h
theorem SO.fr (h : SO μ m) (f : ∀ a, kp a → μ' a = μ a) : SO μ' m := ⟨h.1.fr f, h.2.1.fr f, h.2.2.1.fr f, h.2.2.2.1.fr f, h.2.2.2.2.1.fr f, h.2.2.2.2.2.fr f⟩
theorem SA.fr (h : SA μ n m e) (f : ∀ a, ((2 ≤ a ∧ a < 20) ∨ (22 ≤ a ∧ a < 30) ∨ a = 77) → μ' a = μ a) : SA μ' n m e := by
  unfold SA
  rw [f 77 (by omega)]
  exact ⟨h.1, h.2.1.same isR22 h.1.2.2.2.2.1.2 (fun a ha => f a (by omega)), h.2.2⟩
theorem hiE.s {N M : Nat → Int32} (h : hiE N M) : hiE M N := fun k hk => (h k hk).symm
/-- what only asks -/
theorem SI.rd (s : SI μ) (f : ∀ a, (kp a ∨ (22 ≤ a ∧ a < 30) ∨ a = 77) → μ' a = μ a) : SI μ' := by
  obtain ⟨n, m, e, h1, h2, h3⟩ := s
  refine ⟨n, m, e, h1.fr fun a ha => f a (by unfold kp; omega), ?_, h3.fr fun a ha => f a (Or.inl ha)⟩
  rw [f 77 (by omega), f 78 (by unfold kp; omega)]; exact h2
/-- what changes the room that is now -/
theorem SI.wr {N : Nat → Int32} {n' e' : Nat} (h1 : RC μ' 22 N n' m) (h0 : μ' 77 = N) (g : G N n' m) (h2 : N 2 = nI e') (h3 : e' ≤ 9999) (h4 : hiE (μ 77) N) (h5 : hiE (μ 77) (μ 78)) (so : SO μ m) (f : ∀ a, kp a → μ' a = μ a) : SI μ' := by
  refine ⟨n', m, e', ⟨by rw [h0]; exact g, by rw [h0]; exact h1, by rw [h0]; exact h2, h3⟩, ?_, so.fr f⟩
  rw [h0, f 78 (by unfold kp; omega)]
  exact h4.s.t h5
end
def PR (f g : ab_M → Option (Option Value × ab_M)) : Prop := ∀ μ, SI μ → ∃ v μ1 μ2, f μ = some (some (.int v), μ1) ∧ g μ1 = some (some (.int v), μ2) ∧ SI μ2
theorem i10 : ((1 : Int32) = 0) = False := by decide
theorem zb_t {c : Prop} [Decidable c] (h : c) : zb c = 1 := if_pos h
theorem zb_f {c : Prop} [Decidable c] (h : ¬ c) : zb c = 0 := if_neg h
theorem za_has {a : Int32} {n : Nat} (hn : n < 2 ^ 31) : (0 ≤ a ∧ a ≤ nI n - 1) ↔ ∃ s, s < n ∧ a = nI s := by
  constructor
  · rintro ⟨h0, h1⟩
    refine ⟨a.toNatClampNeg, ?_, za_nn h0⟩
    rcases Nat.eq_zero_or_pos n with rfl | hp
    · exact absurd (show a ≤ -1 from h1) (fun q => by
        rw [Int32.le_iff_toInt_le] at q h0
        have : (0 : Int32).toInt = 0 := by decide
        have : (-1 : Int32).toInt = -1 := by decide
        omega)
    · rw [za_s1 hp] at h1
      rw [za_nn h0] at h1
      have := (nI_leI (by have := Int32.toNatClampNeg_lt a; omega) (by omega)).mp h1
      omega
  · rintro ⟨s, hs, rfl⟩
    exact ⟨nI_pos' (by omega), by rw [za_s1 (by omega)]; exact nI_le (by omega) (by omega)⟩
theorem za_rng {a : Int32} {k : Nat} (hk : k < 2 ^ 31) : (0 ≤ a ∧ a ≤ nI k) ↔ ∃ s, s ≤ k ∧ a = nI s := by
  constructor
  · rintro ⟨h0, h1⟩
    refine ⟨a.toNatClampNeg, ?_, za_nn h0⟩
    rw [za_nn h0] at h1
    exact (nI_leI (by have := Int32.toNatClampNeg_lt a; omega) hk).mp h1
  · rintro ⟨s, hs, rfl⟩
    exact ⟨nI_pos' (by omega), nI_le (by omega) (by omega)⟩
theorem za_5 {a : Int32} : (0 ≤ a ∧ a ≤ 5) ↔ ∃ s, s < 6 ∧ a = nI s := (za_rng (k := 5) (by decide)).trans ⟨fun ⟨s, h, e⟩ => ⟨s, by omega, e⟩, fun ⟨s, h, e⟩ => ⟨s, by omega, e⟩⟩
theorem za_99 {a : Int32} : (0 ≤ a ∧ a ≤ 99) ↔ ∃ s, s < 100 ∧ a = nI s := (za_rng (k := 99) (by decide)).trans ⟨fun ⟨s, h, e⟩ => ⟨s, by omega, e⟩, fun ⟨s, h, e⟩ => ⟨s, by omega, e⟩⟩
section
variable {E : ab_E} {d : Nat} {μ : ab_M} {r n m : Nat} {N : Nat → Int32} {a b c : Int32}
theorem kX7_swaps {j : Nat} (hj : j < 1435) (hN : μ 77 = N) : X7_swaps E d (nI j) a μ = some (some (.int (N j)), wN μ (upd N j a)) := by
  rw [X7_swaps_q, if_pos (za_in hj (by decide)), if_pos (za_in hj (by decide)), za_cl (by omega), hN, wN_up0 hN]
theorem kX2_has' (hr : ab_isRoom r) (h : RC μ r N n m) (g : G N n m) : X2_has E (d + 1) r a μ = some (some (.int (zb (0 ≤ a ∧ a ≤ nI n - 1))), μ) := by rw [kX2_has hr, h.sz g]
theorem kX7_has' (hN : μ 77 = N) (g : G N n m) : X7_isSaying E (d + 1) a μ = some (some (.int (zb (0 ≤ a ∧ a ≤ nI n - 1))), μ) := by rw [kX7_isSaying, hN, g.1.1]
theorem p_saying : PR (X6_saying E (d + 100) a b c) (X7_saying E (d + 100) a b c) := by
  intro μ s
  obtain ⟨n, m, e, ⟨g, h, h2, h3⟩, h4, so⟩ := id s
  by_cases ha : 0 ≤ a ∧ a ≤ 5
  · by_cases hb : 0 ≤ b ∧ b ≤ 99
    · by_cases hc : 0 ≤ c ∧ c ≤ 5
      · by_cases hn : n < 10
        · obtain ⟨μ1, e1, e2, e3⟩ := kX2_add (E := E) (d := d + 98) (k := a) (w := b) (x := 0) (c := c) isR22 h g hn
          have hN1 : μ1 77 = μ 77 := e3 77 (by omega)
          refine ⟨nI n, μ1, wN μ1 (adN (μ 77) n a b 0 c), ?_, ?_, ?_⟩
          · rw [X6_saying_q, kX0_isKind, ab_cI_s, zb_t ha, if_neg (by decide), kX6_isWithin, ab_cI_s, zb_t hb, if_neg (by decide), kX2_isCorner, ab_cI_s, zb_t hc, if_pos (by decide), e1, ab_cI_s]
          · have hne : ¬ nI n = (10 : Int32) := fun q => by have := (nI_eq (b := 10) (by omega) (by decide)).mp q; omega
            rw [X7_saying_q, kX7_in, ab_cI_s, zb_t ha, if_neg (by decide), kX7_in, ab_cI_s, zb_t hb, if_neg (by decide), kX7_isCorner, ab_cI_s, zb_t hc, if_pos (by decide), hN1, g.1.1, if_pos hne, kX7_comes hN1 g hn, ab_cI_s]
          · obtain ⟨k, hk, rfl⟩ := za_5.mp ha
            obtain ⟨w, hw, rfl⟩ := za_99.mp hb
            obtain ⟨c', hc', rfl⟩ := za_5.mp hc
            have hm := g.2.2.2.2.1.2
            have e4 : RC (wN μ1 (adN (μ 77) n (nI k) (nI w) 0 (nI c'))) 22 (adN (μ 77) n (nI k) (nI w) 0 (nI c')) (n + 1) m := e2.same isR22 hm (fun a ha => wN_a (by omega))
            exact SI.wr (μ := μ) e4 wN_77 (g.ad hn hk hw (by decide) hc') (by rw [adN_n (by omega) (by omega)]; exact h2) h3 (hi_ad hn) h4 so (fun a ha => by unfold kp at ha; rw [wN_a (by omega), e3 a (by omega)])
        · have hn10 := g.n10
          refine ⟨-1000000003, μ, μ, ?_, ?_, s⟩
          · rw [X6_saying_q, kX0_isKind, ab_cI_s, zb_t ha, if_neg (by decide), kX6_isWithin, ab_cI_s, zb_t hb, if_neg (by decide), kX2_isCorner, ab_cI_s, zb_t hc, if_pos (by decide), kX2_addF isR22 h g hn, ab_cI_s]
          · have hne : ¬ ¬ nI n = (10 : Int32) := fun q => q (by rw [show n = 10 by omega]; rfl)
            rw [X7_saying_q, kX7_in, ab_cI_s, zb_t ha, if_neg (by decide), kX7_in, ab_cI_s, zb_t hb, if_neg (by decide), kX7_isCorner, ab_cI_s, zb_t hc, if_pos (by decide), g.1.1, if_neg hne]
      · refine ⟨-1000000001, μ, μ, ?_, ?_, s⟩
        · rw [X6_saying_q, kX0_isKind, ab_cI_s, zb_t ha, if_neg (by decide), kX6_isWithin, ab_cI_s, zb_t hb, if_neg (by decide), kX2_isCorner, ab_cI_s, zb_f hc, if_neg (by decide)]
        · rw [X7_saying_q, kX7_in, ab_cI_s, zb_t ha, if_neg (by decide), kX7_in, ab_cI_s, zb_t hb, if_neg (by decide), kX7_isCorner, ab_cI_s, zb_f hc, if_neg (by decide)]
    · refine ⟨-1000000001, μ, μ, ?_, ?_, s⟩
      · rw [X6_saying_q, kX0_isKind, ab_cI_s, zb_t ha, if_neg (by decide), kX6_isWithin, ab_cI_s, zb_f hb, if_pos rfl]
      · rw [X7_saying_q, kX7_in, ab_cI_s, zb_t ha, if_neg (by decide), kX7_in, ab_cI_s, zb_f hb, if_pos rfl]
  · refine ⟨-1000000001, μ, μ, ?_, ?_, s⟩
    · rw [X6_saying_q, kX0_isKind, ab_cI_s, zb_f ha, if_pos rfl]
    · rw [X7_saying_q, kX7_in, ab_cI_s, zb_f ha, if_pos rfl]
end
