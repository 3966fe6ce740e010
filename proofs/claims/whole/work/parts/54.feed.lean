/-! feed -/
def fbx (a b c v : Int32) : Int32 := ((if 4 ≤ v then (if 8 ≤ v then c else b) else a) >>> ((24 - 8 * (v - v / 4 * 4)) &&& 31)) &&& 255
def cbx (v s : Int32) : Int32 := ((v.toUInt32 >>> (s.toUInt32 &&& Int32.toUInt32 31)).toInt32) &&& 255
theorem m255 {i : Nat} (h : ¬ i < 8) : (255 : Int32).toBitVec.getLsbD i = false := by
  show (BitVec.ofNat 32 255).getLsbD i = false
  rw [BitVec.getLsbD_ofNat, show (255 : Nat) = 2 ^ 8 - 1 by decide, Nat.testBit_two_pow_sub_one]
  simp [h]
theorem bt_b {v x y : Int32} {s : Nat} (hs : s ≤ 24) (e1 : x.toBitVec = v.toBitVec >>> s) (e2 : y.toBitVec = v.toBitVec.sshiftRight s) : x &&& 255 = y &&& 255 := by
  apply Int32.toBitVec_inj.mp
  rw [Int32.toBitVec_and, Int32.toBitVec_and]
  apply BitVec.eq_of_getLsbD_eq
  intro i hi
  rw [BitVec.getLsbD_and, BitVec.getLsbD_and, e1, e2, BitVec.getLsbD_ushiftRight, BitVec.getLsbD_sshiftRight]
  by_cases h8 : i < 8
  · have h1 : ¬ 32 ≤ i := by omega
    have h2 : s + i < 32 := by omega
    simp [h1, h2]
  · rw [m255 h8, Bool.and_false, Bool.and_false]
theorem cb24 (v : Int32) : cbx v 24 = (v >>> ((24 : Int32) &&& 31)) &&& 255 := bt_b (s := 24) (by omega) rfl rfl
theorem cb16 (v : Int32) : cbx v 16 = (v >>> ((16 : Int32) &&& 31)) &&& 255 := bt_b (s := 16) (by omega) rfl rfl
theorem cb8 (v : Int32) : cbx v 8 = (v >>> ((8 : Int32) &&& 31)) &&& 255 := bt_b (s := 8) (by omega) rfl rfl
theorem cb0 (v : Int32) : cbx v 0 = (v >>> ((0 : Int32) &&& 31)) &&& 255 := bt_b (s := 0) (by omega) rfl rfl
theorem nI_all (x : Int32) : ∃ k, x = nI k := ⟨x.toUInt32.toNat, by
  apply Int32.toBitVec_inj.mp
  show x.toBitVec = BitVec.ofNat 32 _
  apply BitVec.eq_of_toNat_eq
  rw [BitVec.toNat_ofNat]
  exact (Nat.mod_eq_of_lt x.toBitVec.isLt).symm⟩
theorem b256 (x : Int32) : ∃ b, b < 256 ∧ x &&& 255 = nI b := by
  obtain ⟨k, rfl⟩ := nI_all x
  refine ⟨k &&& 255, Nat.lt_succ_of_le Nat.and_le_right, ?_⟩
  exact zb_and k 255
section
variable {E : ab_E} {d : Nat} {μ μ' μ'' : ab_M} {r n m : Nat} {N M A P T : Nat → Int32} {a b c : Int32}
theorem SI.sc (s : SI μ) (hc : SC μ') (h1 : μ' 76 3 = μ 76 3) (h2 : μ' 76 32 = μ 76 32) (f : ∀ a, (kp a ∨ (22 ≤ a ∧ a < 30) ∨ a = 77) → a ≠ 46 → a ≠ 47 → a ≠ 76 → a ≠ 81 → μ' a = μ a) : SI μ' := by
  obtain ⟨n, m, e, sa, h4, s1, s2, s3, s4, s5, s6⟩ := s
  have f' : ∀ a, kp a → a ≠ 46 → a ≠ 47 → a ≠ 76 → a ≠ 81 → μ' a = μ a := fun a h => f a (Or.inl h)
  unfold kp at f'
  refine ⟨n, m, e, sa.fr fun a ha => f a (by unfold kp; omega) (by omega) (by omega) (by omega) (by omega), by rw [f 77 (by omega) (by omega) (by omega) (by omega) (by omega), f' 78 (by omega) (by omega) (by omega) (by omega) (by omega)]; exact h4, s1.f2 (by rw [f' 0 (by omega) (by omega) (by omega) (by omega) (by omega)]) h1 fun a ha => f' a (by omega) (by omega) (by omega) (by omega) (by omega), hc, s3.f2 fun a ha => f' a (by omega) (by omega) (by omega) (by omega) (by omega), s4.f2 fun a ha => f' a (by omega) (by omega) (by omega) (by omega) (by omega), s5.f2 (by rw [f' 0 (by omega) (by omega) (by omega) (by omega) (by omega)]) h2 (f' 74 (by omega) (by omega) (by omega) (by omega) (by omega)) (f' 97 (by omega) (by omega) (by omega) (by omega) (by omega)), s6.f2 (f' 82 (by omega) (by omega) (by omega) (by omega) (by omega)) (f' 83 (by omega) (by omega) (by omega) (by omega) (by omega))⟩
theorem kX5_add1 {z : Nat} {v s : Int32} (hz : z < 96) (hs : ¬ s < 0) (h : μ 46 1 = nI z) : X5_add_3 E d v s μ = X5_add_3 E d v (s + (-8 : Int32)) (ab_up (ab_up μ 47 z (cbx v s)) 46 1 (nI (z + 1))) := by
  rw [X5_add_3_q, if_neg hs, za_up_a (show 46 ≠ 47 by decide), h, if_neg (show ¬ (96 : Int32) ≤ nI z from nI_ge (b := 96) (by omega) (by decide)), if_pos (za_in hz (by decide)), za_cl (by omega), za_1]
  rfl
theorem kX5_add {z : Nat} {v : Int32} (hz : z + 4 ≤ 96) (h : μ 46 1 = nI z) : ∃ μ', X5_add E d v μ = some (none, μ') ∧ μ' 47 z = cbx v 24 ∧ μ' 47 (z + 1) = cbx v 16 ∧ μ' 47 (z + 2) = cbx v 8 ∧ μ' 47 (z + 3) = cbx v 0 ∧ (∀ t, t < z → μ' 47 t = μ 47 t) ∧ μ' 46 1 = nI (z + 4) ∧ ∀ a, a ≠ 46 → a ≠ 47 → μ' a = μ a := by
  rw [X5_add_q, kX5_add1 (z := z) (by omega) (by decide) h, show (24 : Int32) + (-8 : Int32) = 16 by decide, kX5_add1 (z := z + 1) (by omega) (by decide) za_up_s, show (16 : Int32) + (-8 : Int32) = 8 by decide, kX5_add1 (z := z + 1 + 1) (by omega) (by decide) za_up_s, show (8 : Int32) + (-8 : Int32) = 0 by decide, kX5_add1 (z := z + 1 + 1 + 1) (by omega) (by decide) za_up_s, X5_add_3_q, if_pos (by decide)]
  refine ⟨_, rfl, ?_, ?_, ?_, ?_, fun t ht => ?_, za_up_s, fun a h1 h2 => ?_⟩
  · rw [za_up_a (by decide), za_up_j (by omega), za_up_a (by decide), za_up_j (by omega), za_up_a (by decide), za_up_j (by omega), za_up_a (by decide), za_up_s]
  · rw [za_up_a (by decide), za_up_j (by omega), za_up_a (by decide), za_up_j (by omega), za_up_a (by decide), za_up_s]
  · rw [za_up_a (by decide), za_up_j (by omega), za_up_a (by decide), za_up_s]
  · rw [za_up_a (by decide), za_up_s]
  · rw [za_up_a (by decide), za_up_j (by omega), za_up_a (by decide), za_up_j (by omega), za_up_a (by decide), za_up_j (by omega), za_up_a (by decide), za_up_j (by omega)]
  · rw [za_up_a h1, za_up_a h2, za_up_a h1, za_up_a h2, za_up_a h1, za_up_a h2, za_up_a h1, za_up_a h2]
theorem kX7_feed_l {z : Nat} (hz : z + 12 ≤ 96) : ∀ j k μ o, k + j = 12 → μ 76 6 = nI z → ∃ μ', X7_feed_18 E d a b c (nI k) o μ = some (some (.int (nI (z + 12))), μ') ∧ (∀ t, k ≤ t → t < 12 → μ' 81 (z + t) = fbx a b c (nI t)) ∧ (∀ t, t < z + k → μ' 81 t = μ 81 t) ∧ μ' 76 6 = nI (z + 12) ∧ (∀ j, j ≠ 6 → μ' 76 j = μ 76 j) ∧ ∀ a, a ≠ 76 → a ≠ 81 → μ' a = μ a
  | 0, k, μ, o, e, h => by
    rw [X7_feed_18_q, if_pos (show (12 : Int32) ≤ nI k from nI_le (a := 12) (by omega) (by omega)), za_up_s, h, show nI z + (12 : Int32) = nI (z + 12) from nI_add z 12]
    exact ⟨_, rfl, fun t h1 h2 => by omega, fun t _ => by rw [za_up_a (by decide)], za_up_s, fun j hj => za_up_j hj, fun a h1 _ => za_up_a h1⟩
  | j + 1, k, μ, o, e, h => by
    have step : ∃ o', X7_feed_18 E d a b c (nI k) o μ = X7_feed_18 E d a b c (nI (k + 1)) o' (ab_up μ 81 (z + k) (fbx a b c (nI k))) := by
      have hin : ab_in (nI (z + k)) 96 := za_in (by omega) (by decide)
      unfold fbx
      rw [X7_feed_18_q, if_neg (show ¬ (12 : Int32) ≤ nI k from nI_ge (b := 12) (by omega) (by decide)), h, nI_add, if_pos hin, if_pos hin, if_pos hin, za_cl (by omega), za_1]
      by_cases h4 : (4 : Int32) ≤ nI k
      · rw [if_pos h4, if_pos h4]
        by_cases h8 : (8 : Int32) ≤ nI k
        · rw [if_pos h8, if_pos h8]; exact ⟨_, rfl⟩
        · rw [if_neg h8, if_neg h8]; exact ⟨_, rfl⟩
      · rw [if_neg h4, if_neg h4]; exact ⟨_, rfl⟩
    obtain ⟨o', es⟩ := step
    obtain ⟨μ2, e1, e2, e3, e4, e5, e6⟩ := kX7_feed_l hz j (k + 1) (ab_up μ 81 (z + k) (fbx a b c (nI k))) o' (by omega) (by rw [za_up_a (by decide)]; exact h)
    refine ⟨μ2, es.trans e1, fun t h1 h2 => ?_, fun t h1 => ?_, e4, fun j hj => ?_, fun x h1 h2 => ?_⟩
    · by_cases et : t = k
      · subst et; rw [e3 _ (by omega), za_up_s]
      · exact e2 t (by omega) h2
    · rw [e3 t (by omega), za_up_j (by omega)]
    · rw [e5 j hj, za_up_a (by decide)]
    · rw [e6 x h1 h2, za_up_a h2]
theorem p_feed : PR (X6_feed E (d + 100) a b c) (X7_feed E (d + 100) a b c) := by
  intro μ s
  obtain ⟨n, m, e, sa, h4, so⟩ := id s
  obtain ⟨z, z0, z1, z2, z3⟩ := so.2.1
  have hX : X6_feed E (d + 100) a b c μ = _ := X6_feed_q
  rw [X5_hasRoom_q, z1, show nI z + (12 : Int32) = nI (z + 12) from nI_add z 12] at hX
  by_cases hz : z + 12 ≤ 96
  · rw [if_neg (show ¬ (96 : Int32) < nI (z + 12) from za_lt.mpr (nI_le (b := 96) hz (by decide))), ab_cI_s, if_pos (by decide)] at hX
    obtain ⟨μ1, a1, a2, a3, a4, a5, a6, a7, a8⟩ := kX5_add (E := E) (d := d + 99) (v := a) (show z + 4 ≤ 96 by omega) z1
    obtain ⟨μ2, b1, b2, b3, b4, b5, b6, b7, b8⟩ := kX5_add (E := E) (d := d + 99) (v := b) (show z + 4 + 4 ≤ 96 by omega) a7
    obtain ⟨μ3, c1, c2, c3, c4, c5, c6, c7, c8⟩ := kX5_add (E := E) (d := d + 99) (v := c) (show z + 4 + 4 + 4 ≤ 96 by omega) b7
    rw [a1, ab_cV_s, b1, ab_cV_s, c1, ab_cV_s, c7] at hX
    have f3 : ∀ x, x ≠ 46 → x ≠ 47 → μ3 x = μ x := fun x h1 h2 => by rw [c8 x h1 h2, b8 x h1 h2, a8 x h1 h2]
    have e76 : μ3 76 6 = nI z := by rw [f3 76 (by decide) (by decide)]; exact z2
    obtain ⟨μ4, k1, k2, k3, k4, k5, k6⟩ := kX7_feed_l (E := E) (d := d + 100) (a := a) (b := b) (c := c) hz 12 0 μ3 none (by omega) e76
    have hY : X7_feed E (d + 100) a b c μ3 = _ := X7_feed_q
    rw [e76, show nI z + (12 : Int32) = nI (z + 12) from nI_add z 12, if_pos (show nI (z + 12) ≤ (96 : Int32) from nI_le (b := 96) hz (by decide))] at hY
    refine ⟨_, _, _, hX, hY.trans k1, s.sc ⟨z + 12, hz, ?_, k4, fun k hk => ?_⟩ ?_ ?_ fun x hx h1 h2 h3 h5 => by rw [k6 x h3 h5, f3 x h1 h2]⟩
    · rw [k6 46 (by decide) (by decide), c7]
    · rw [k6 47 (by decide) (by decide)]
      by_cases hkz : k < z
      · obtain ⟨x, x0, x1, x2⟩ := z3 k hkz
        exact ⟨x, x0, by rw [c6 k (by omega), b6 k (by omega), a6 k (by omega), x1], by rw [k3 k (by omega), f3 81 (by decide) (by decide), x2]⟩
      · obtain ⟨t, rfl⟩ : ∃ t, k = z + t := ⟨k - z, by omega⟩
        rw [k2 t (by omega) (by omega)]
        rcases (show t = 0 ∨ t = 1 ∨ t = 2 ∨ t = 3 ∨ t = 4 ∨ t = 5 ∨ t = 6 ∨ t = 7 ∨ t = 8 ∨ t = 9 ∨ t = 10 ∨ t = 11 by omega) with rfl | rfl | rfl | rfl | rfl | rfl | rfl | rfl | rfl | rfl | rfl | rfl
        · obtain ⟨x, x0, x1⟩ := b256 (a >>> ((24 : Int32) &&& 31)); exact ⟨x, x0, by rw [c6 _ (by omega), b6 _ (by omega), Nat.add_zero, a2, cb24, x1], x1⟩
        · obtain ⟨x, x0, x1⟩ := b256 (a >>> ((16 : Int32) &&& 31)); exact ⟨x, x0, by rw [c6 _ (by omega), b6 _ (by omega), a3, cb16, x1], x1⟩
        · obtain ⟨x, x0, x1⟩ := b256 (a >>> ((8 : Int32) &&& 31)); exact ⟨x, x0, by rw [c6 _ (by omega), b6 _ (by omega), a4, cb8, x1], x1⟩
        · obtain ⟨x, x0, x1⟩ := b256 (a >>> ((0 : Int32) &&& 31)); exact ⟨x, x0, by rw [c6 _ (by omega), b6 _ (by omega), a5, cb0, x1], x1⟩
        · obtain ⟨x, x0, x1⟩ := b256 (b >>> ((24 : Int32) &&& 31)); exact ⟨x, x0, by rw [c6 _ (by omega), b2, cb24, x1], x1⟩
        · obtain ⟨x, x0, x1⟩ := b256 (b >>> ((16 : Int32) &&& 31)); exact ⟨x, x0, by rw [c6 _ (by omega), show z + 5 = z + 4 + 1 by omega, b3, cb16, x1], x1⟩
        · obtain ⟨x, x0, x1⟩ := b256 (b >>> ((8 : Int32) &&& 31)); exact ⟨x, x0, by rw [c6 _ (by omega), show z + 6 = z + 4 + 2 by omega, b4, cb8, x1], x1⟩
        · obtain ⟨x, x0, x1⟩ := b256 (b >>> ((0 : Int32) &&& 31)); exact ⟨x, x0, by rw [c6 _ (by omega), show z + 7 = z + 4 + 3 by omega, b5, cb0, x1], x1⟩
        · obtain ⟨x, x0, x1⟩ := b256 (c >>> ((24 : Int32) &&& 31)); exact ⟨x, x0, by rw [show z + 8 = z + 4 + 4 by omega, c2, cb24, x1], x1⟩
        · obtain ⟨x, x0, x1⟩ := b256 (c >>> ((16 : Int32) &&& 31)); exact ⟨x, x0, by rw [show z + 9 = z + 4 + 4 + 1 by omega, c3, cb16, x1], x1⟩
        · obtain ⟨x, x0, x1⟩ := b256 (c >>> ((8 : Int32) &&& 31)); exact ⟨x, x0, by rw [show z + 10 = z + 4 + 4 + 2 by omega, c4, cb8, x1], x1⟩
        · obtain ⟨x, x0, x1⟩ := b256 (c >>> ((0 : Int32) &&& 31)); exact ⟨x, x0, by rw [show z + 11 = z + 4 + 4 + 3 by omega, c5, cb0, x1], x1⟩
    · rw [k5 3 (by decide), f3 76 (by decide) (by decide)]
    · rw [k5 32 (by decide), f3 76 (by decide) (by decide)]
  · have hY : X7_feed E (d + 100) a b c μ = _ := X7_feed_q
    rw [if_pos (show (96 : Int32) < nI (z + 12) from nI_lt (a := 96) (by omega) (by omega)), ab_cI_s, if_neg (by decide)] at hX
    rw [z2, show nI z + (12 : Int32) = nI (z + 12) from nI_add z 12, if_neg (show ¬ nI (z + 12) ≤ (96 : Int32) from nI_ge (a := 96) (by omega) (by omega))] at hY
    exact ⟨_, _, _, hX, hY, s⟩
end
