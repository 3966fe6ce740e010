/-! counting bits; what a saying gathers -/
def pcN : Nat → Nat → Nat
  | 0, _ => 0
  | f + 1, x => if x = 0 then 0 else 1 + pcN f (x &&& (x - 1))
def pop (x : Nat) : Nat := pcN 11 x
theorem pop_s : ∀ x, x < 1024 → pop x = if x = 0 then 0 else 1 + pop (x &&& (x - 1)) := by decide +kernel
theorem pop_le : ∀ x, x < 1024 → pop x ≤ 10 := by decide +kernel
section
variable {E : ab_E} {d : Nat} {μ : ab_M} {r n m : Nat} {N : Nat → Int32} {a b c : Int32}
theorem kJ_bits {x : Nat} (hx : x < 1024) : J6_bitCount_0f7a4 E d (nI x) μ = some (some (.int (nI (pop x))), μ) := by
  rw [J6_bitCount_0f7a4_q]
  congr 4
  revert x
  decide +kernel
theorem kX7_bits_l {o : Option Value} : ∀ (x : Nat), x < 1024 → ∀ c, X7_bits_4 E d o (nI c) (nI x) μ = some (some (.int (nI (c + pop x))), μ) := by
  intro x
  induction x using Nat.strongRecOn with
  | _ x ih =>
    intro hx c
    rw [X7_bits_4_q, pop_s x hx]
    by_cases e : x = 0
    · subst e
      rw [if_pos (by decide), if_pos rfl]; rfl
    · rw [if_neg (show ¬ nI x = (0 : Int32) from fun q => e ((nI_eq (b := 0) (by omega) (by decide)).mp q)), if_neg e, za_1, za_s1 (by omega), zb_and]
      have hlt : x &&& (x - 1) < x := Nat.lt_of_le_of_lt Nat.and_le_right (by omega)
      rw [ih _ hlt (by omega), Nat.add_assoc]
theorem kX7_bits {x : Nat} (hx : x < 1024) : X7_bits E d (nI x) μ = some (some (.int (nI (pop x))), μ) := by
  rw [X7_bits_q]
  have := kX7_bits_l (E := E) (d := d) (μ := μ) (o := some (.int (nI x))) x hx 0
  rw [Nat.zero_add] at this
  exact this
end
theorem zS_1024 {p : Nat → Bool} {n : Nat} (h : n ≤ 10) : zS p n < 1024 := Nat.lt_of_lt_of_le (zS_lt _ _) (Nat.pow_le_pow_right (n := 2) (by decide) h)
def zcN (x : Int32) : Nat := (zc x).toNatClampNeg
theorem zc_N (x : Int32) : zc x = nI (zcN x) ∧ zcN x < 100 := by
  have h0 : 0 ≤ zc x := by
    unfold zc
    split
    · split
      · assumption
      · decide
    · decide
  have h1 : zc x ≤ 99 := by
    unfold zc
    split
    · split
      · assumption
      · decide
    · decide
  have e := za_nn h0
  refine ⟨e, ?_⟩
  rw [e] at h1
  have := (nI_leI (b := 99) (by have := Int32.toNatClampNeg_lt (zc x); omega) (by decide)).mp h1
  unfold zcN
  omega
theorem zc_n {x : Nat} (h : x < 100) : zc (nI x) = nI x := by
  unfold zc; rw [if_pos (nI_pos' (by omega)), if_pos (show nI x ≤ (99 : Int32) from nI_le (b := 99) (by omega) (by decide))]
/-- bloom's names -/
def fsB (N : Nat → Int32) (n s : Nat) : Nat → Int32 := fun i => if i = 0 then N (14 + 5 * s) else if i = 1 then N (15 + 5 * s) else if i = 2 then N (7 + co N s) else nI (pop (zS (pI N (N (16 + 5 * s))) n))
def plN (N : Nat → Int32) (n m s : Nat) : Nat := match lT N 0 m with
  | none => (99 - hd N (co N s)) / 10
  | some t => zcN (vlN N t (fsB N n s))
theorem plN_lt (N : Nat → Int32) (n m s : Nat) : plN N n m s < 100 := by
  unfold plN
  split
  · omega
  · exact (zc_N _).2
def gaN (N : Nat → Int32) (n m s : Nat) : Nat :=
  if kd N s = 1 then plN N n m s - 2 * zN (pF N s 1 3) n
  else if kd N s = 2 then plN N n m s + 2
  else if kd N s = 3 then (if wt N s ≤ 80 then plN N n m s - 2 * zN (pF N s 1 3) n else 0)
  else if kd N s = 4 then 2 * (plN N n m s + 2)
  else if kd N s = 5 then 1 else plN N n m s
theorem gaN_lt (N : Nat → Int32) (n m s : Nat) : gaN N n m s < 300 := by
  have := plN_lt N n m s
  unfold gaN
  repeat' split
  all_goals omega
section
variable {E : ab_E} {d : Nat} {μ : ab_M} {r n m : Nat} {N : Nat → Int32} {a b c : Int32}
theorem kX2_plainBloom {s : Nat} (hr : ab_isRoom r) (h : RC μ r N n m) (g : G N n m) (hs : s < n) : ∃ μ', X2_plainBloom E (d + 3) r (nI s) μ = some (some (.int (nI (plN N n m s))), μ') ∧ ∀ a, a ≠ 20 → a ≠ 21 → μ' a = μ a := by
  have hn := g.n10
  have hm := g.2.2.2.2.1.2
  have rs := h.2.2.1 s hs
  obtain ⟨g1, g2, g3, g4⟩ := g.2.1 s hs
  have h10 := za_in (show s < 10 by omega) (show 10 < 2 ^ 31 by decide)
  have hhd := h.2.1 (co N s) g4.2
  have hg := g.2.2.1 (co N s) g4.2
  rw [X2_plainBloom_q hr]
  simp only [if_pos h10, za_cl (show s < 2 ^ 31 by omega), rs.2.2.2.1, rs.2.1, rs.2.2.1]
  have e4 : (N (16 + 5 * s)).toNatClampNeg = co N s := rfl
  have h6 : ab_in (N (16 + 5 * s)) 6 := by rw [g4.1]; exact za_in g4.2 (by decide)
  rw [if_pos h6, e4, hhd, h.2.2.2.1 0 (by decide)]
  unfold plN
  cases ht : lT N 0 m with
  | none =>
    rw [if_neg (fun q => q rfl)]
    refine ⟨μ, ?_, fun _ _ _ => rfl⟩
    rw [hg.1]
    have : (99 : Int32) - nI (hd N (co N s)) = nI (99 - hd N (co N s)) := za_sub (x := 99) (by omega)
    rw [this, show nI (99 - hd N (co N s)) / (10 : Int32) = nI ((99 - hd N (co N s)) / 10) from pk_div (by omega) (by decide) (by decide)]
  | some t =>
    obtain ⟨t1, t2⟩ := lT_lt ht
    have hne : ¬ cn (some t) = (-1000000005 : Int32) := fun q => by
      have := (cn_ne (o := some t) (fun x hx => by cases hx; omega)).mp q
      cases this
    rw [if_pos hne, kX2_sayingsIn hr h g, ab_cI_s, kJ_bits (zS_1024 hn), ab_cI_s, X1_name_q, ab_cV_s]
    have hro := hr.is
    generalize hμ2 : (ab_up (ab_up (ab_up (ab_up μ 20 0 (N (14 + 5 * s))) 20 1 (N (15 + 5 * s))) 20 2 (N (7 + co N s))) 20 3 (nI (pop (zS (pI N (N (16 + 5 * s))) n)))) = μ2
    have h2 : ∀ a, a ≠ 20 → μ2 a = μ a := fun a ha => by rw [← hμ2, za_up_a ha, za_up_a ha, za_up_a ha, za_up_a ha]
    have hR : RLw μ2 N t := by
      unfold RLw
      rw [h2 2 (by decide), h2 3 (by decide), h2 4 (by decide), h2 (6 + t) (by omega)]
      exact h.2.2.2.2 t t1
    obtain ⟨μ3, e1, e2⟩ := kX1_value (E := E) (d := d) (μ := μ2) (t := t) (by omega) (g.2.2.2.2.2 t t1) hR (fsB N n s) (fun i hi => by
      rw [t2] at hi
      have hi : i < 4 := hi
      rw [← hμ2]
      unfold fsB
      rcases (show i = 0 ∨ i = 1 ∨ i = 2 ∨ i = 3 by omega) with rfl | rfl | rfl | rfl <;> simp [ab_up, upd])
    show ∃ μ', ab_cI (X1_value E (d + 2) (nI t) μ2) _ = _ ∧ _
    rw [e1, ab_cI_s, kX2_held, ab_cI_s, (zc_N _).1]
    exact ⟨μ3, rfl, fun a h20 h21 => by rw [e2 a h21, h2 a h20]⟩
theorem kX7_plainBloom {s : Nat} (hN : μ 77 = N) (g : G N n m) (hs : s < n) : ∃ μ', X7_plainBloom E (d + 2) (nI s) μ = some (some (.int (nI (plN N n m s))), μ') ∧ ∀ a, a ≠ 87 → a ≠ 88 → μ' a = μ a := by
  have hn := g.n10
  have hm := g.2.2.2.2.1.2
  obtain ⟨g1, g2, g3, g4⟩ := g.2.1 s hs
  have h2 : s < 200 := by omega
  have hg := g.2.2.1 (co N s) g4.2
  have up77 : ∀ (μ : ab_M) j x, ab_up μ 88 j x 77 = μ 77 := fun μ j x => za_up_a (by decide)
  have hix : (7 : Int32) + nI (co N s) = nI (7 + co N s) := nI_add 7 _
  rw [X7_plainBloom_q]
  rw [show X7_counts E (d + 1) (0 : Int32) μ = some (some (.int (cm (lT N 0 m))), μ) from kX7_counts (key := 0) (by decide) hN g]
  simp only [ab_cI_s, kX7_of3 h2, kX7_of1 h2, kX7_of2 h2, up77, hN]
  rw [g4.1, hix, if_pos (za_in (by omega) (by decide)), za_cl (by omega)]
  generalize hμ1 : ab_up (ab_up (ab_up μ 88 0 (N (14 + 5 * s))) 88 1 (N (15 + 5 * s))) 88 2 (N (7 + co N s)) = μ1
  have h1 : ∀ a, a ≠ 88 → μ1 a = μ a := fun a ha => by rw [← hμ1, za_up_a ha, za_up_a ha, za_up_a ha]
  have hN1 : μ1 77 = N := by rw [h1 77 (by decide)]; exact hN
  rw [kX7_saidIn hN1 g]
  simp only [ab_cI_s]
  rw [kX7_bits (zS_1024 hn)]
  simp only [ab_cI_s]
  unfold plN
  cases ht : lT N 0 m with
  | none =>
    rw [if_neg (show ¬ (0 : Int32) ≤ cm none by decide)]
    rw [hg.1, show (99 : Int32) - nI (hd N (co N s)) = nI (99 - hd N (co N s)) from za_sub (x := 99) (by omega), show nI (99 - hd N (co N s)) / (10 : Int32) = nI ((99 - hd N (co N s)) / 10) from pk_div (by omega) (by decide) (by decide), kX7_within99]
    simp only [ab_cI_s]
    rw [zc_n (by omega)]
    exact ⟨_, rfl, fun a h87 h88 => by rw [za_up_a h88, h1 a h88]⟩
  | some t =>
    obtain ⟨t1, t2⟩ := lT_lt ht
    rw [if_pos (show (0 : Int32) ≤ cm (some t) from nI_pos' (by omega))]
    generalize hμ2 : ab_up μ1 88 3 (nI (pop (zS (pI N (nI (co N s))) n))) = μ2
    have h2' : ∀ a, a ≠ 88 → μ2 a = μ a := fun a ha => by rw [← hμ2, za_up_a ha, h1 a ha]
    obtain ⟨μ3, e1, e2⟩ := kX7_worksOut (E := E) (d := d) (μ := μ2) (t := t) (by omega) (g.2.2.2.2.2 t t1) (by rw [h2' 77 (by decide)]; exact hN) (fsB N n s) (fun i hi => by
      rw [t2] at hi
      have hi : i < 4 := hi
      rw [← hμ2, ← hμ1]
      unfold fsB
      rw [g4.1]
      rcases (show i = 0 ∨ i = 1 ∨ i = 2 ∨ i = 3 by omega) with rfl | rfl | rfl | rfl <;> simp [ab_up, upd])
    show ∃ μ', ab_cI (X7_worksOut E (d + 1) (nI t) μ2) _ = _ ∧ _
    rw [e1, ab_cI_s, kX7_within99, ab_cI_s, (zc_N _).1]
    exact ⟨μ3, rfl, fun a h87 h88 => by rw [e2 a h87, h2' a h88]⟩
theorem za_2f {p f : Nat} : (2 : Int32) * nI f = nI (2 * f) := pk_mul 2 f
theorem zc_2 {p f : Nat} (hp : p < 100) (hf : f ≤ 10) : zc (nI p - nI (2 * f)) = nI (p - 2 * f) := by
  by_cases h : 2 * f ≤ p
  · rw [za_sub h, zc_n (by omega)]
  · have : nI p - nI (2 * f) < 0 := pk_sneg (by omega) (by omega)
    unfold zc
    rw [if_neg (za_le.mpr this), show p - 2 * f = 0 by omega]
    rfl
theorem mx_2 {p f : Nat} (hp : p < 100) (hf : f ≤ 10) : (if (0 : Int32) < nI p - nI (2 * f) then nI p - nI (2 * f) else 0) = nI (p - 2 * f) := by
  by_cases h : 2 * f ≤ p
  · rw [za_sub h]
    by_cases h2 : p - 2 * f = 0
    · rw [h2]; rfl
    · rw [if_pos (show (0 : Int32) < nI (p - 2 * f) from nI_lt (a := 0) (b := p - 2 * f) (by omega) (by omega))]
  · have : nI p - nI (2 * f) < 0 := pk_sneg (by omega) (by omega)
    rw [if_neg (show ¬ (0 : Int32) < _ from fun q => by rw [Int32.lt_iff_toInt_lt] at this q; omega), show p - 2 * f = 0 by omega]
    rfl
theorem nI_e {x y : Nat} (hx : x < 2 ^ 31) (hy : y < 2 ^ 31) : (nI x = nI y) = (x = y) := propext (nI_eq hx hy)
theorem kX2_gathers {s : Nat} (hr : ab_isRoom r) (h : RC μ r N n m) (g : G N n m) (hs : s < n) : ∃ μ', X2_gathers E (d + 5) r (nI s) μ = some (some (.int (nI (gaN N n m s))), μ') ∧ ∀ a, a ≠ 20 → a ≠ 21 → μ' a = μ a := by
  have hn := g.n10
  have hm := g.2.2.2.2.1.2
  have rs := h.2.2.1 s hs
  obtain ⟨g1, g2, g3, g4⟩ := g.2.1 s hs
  have h10 := za_in (show s < 10 by omega) (show 10 < 2 ^ 31 by decide)
  have hpl := plN_lt N n m s
  have hf := zN_le (pF N s 1 3) n
  have hro := hr.is
  obtain ⟨μ1, e1, e2⟩ := kX2_plainBloom (E := E) (d := d + 1) hr h g hs
  have h1 : RC μ1 r N n m := h.same hr hm (fun a ha => e2 a (by omega) (by omega))
  have rs1 := h1.2.2.1 s hs
  have o1 := kX2_others1 (E := E) (d := d + 3) hr h1 g hs
  rw [X2_gathers_q hr]
  simp only [if_pos h10, za_cl (show s < 2 ^ 31 by omega), rs.1, rs.2.1, rs1.1, e1, o1, kJ_max, za_2f (p := 0), mx_2 hpl (show zN (pF N s 1 3) n ≤ 10 by omega), ab_cI_s, g1.1, g2.1]
  have kk : ∀ x, x < 100 → kd N s ≠ x → ¬ nI (kd N s) = nI x := fun x hx q z => q ((nI_eq (by omega) (by omega)).mp z)
  by_cases k5 : kd N s = 5
  · rw [show gaN N n m s = 1 by unfold gaN; simp [k5], k5, if_neg (show ¬ ¬ nI 5 = (5 : Int32) from fun q => q rfl)]
    exact ⟨μ, rfl, fun _ _ _ => rfl⟩
  have k5' : ¬ nI (kd N s) = (5 : Int32) := kk 5 (by decide) k5
  rw [if_pos k5']
  by_cases k3 : kd N s = 3
  · rw [k3, if_neg (show ¬ ¬ nI 3 = (3 : Int32) from fun q => q rfl)]
    by_cases w8 : wt N s ≤ 80
    · rw [if_pos (show nI (wt N s) ≤ (80 : Int32) from nI_le (b := 80) w8 (by decide)), if_neg (show ¬ nI 3 = (1 : Int32) by decide), if_neg (show ¬ nI 3 = (2 : Int32) by decide), if_pos (show nI 3 = (3 : Int32) from rfl), show gaN N n m s = plN N n m s - 2 * zN (pF N s 1 3) n by unfold gaN; simp [k3, w8]]
      exact ⟨μ1, rfl, e2⟩
    · rw [if_neg (show ¬ nI (wt N s) ≤ (80 : Int32) from nI_ge (a := 80) (by omega) (by omega)), show gaN N n m s = 0 by unfold gaN; simp [k3, w8]]
      exact ⟨μ, rfl, fun _ _ _ => rfl⟩
  have k3' : ¬ nI (kd N s) = (3 : Int32) := kk 3 (by decide) k3
  rw [if_pos k3']
  by_cases k1 : kd N s = 1
  · rw [if_pos (show nI (kd N s) = (1 : Int32) by rw [k1]; rfl), show gaN N n m s = plN N n m s - 2 * zN (pF N s 1 3) n by unfold gaN; simp [k1]]
    exact ⟨μ1, rfl, e2⟩
  have k1' : ¬ nI (kd N s) = (1 : Int32) := kk 1 (by decide) k1
  rw [if_neg k1']
  by_cases k2 : kd N s = 2
  · rw [if_pos (show nI (kd N s) = (2 : Int32) by rw [k2]; rfl), show nI (plN N n m s) + (2 : Int32) = nI (plN N n m s + 2) from nI_add _ 2, show gaN N n m s = plN N n m s + 2 by unfold gaN; simp [k2]]
    exact ⟨μ1, rfl, e2⟩
  have k2' : ¬ nI (kd N s) = (2 : Int32) := kk 2 (by decide) k2
  rw [if_neg k2', if_neg k3']
  by_cases k4 : kd N s = 4
  · rw [if_pos (show nI (kd N s) = (4 : Int32) by rw [k4]; rfl), show nI (plN N n m s) + (2 : Int32) = nI (plN N n m s + 2) from nI_add _ 2, show (2 : Int32) * nI (plN N n m s + 2) = nI (2 * (plN N n m s + 2)) from pk_mul 2 _, show gaN N n m s = 2 * (plN N n m s + 2) by unfold gaN; simp [k4]]
    exact ⟨μ1, rfl, e2⟩
  have k4' : ¬ nI (kd N s) = (4 : Int32) := kk 4 (by decide) k4
  rw [if_neg k4', show gaN N n m s = plN N n m s by unfold gaN; simp [k1, k2, k3, k4, k5]]
  exact ⟨μ1, rfl, e2⟩
theorem kX7_gathers {s : Nat} (hN : μ 77 = N) (g : G N n m) (hs : s < n) : ∃ μ', X7_gathers E (d + 3) (nI s) μ = some (some (.int (nI (gaN N n m s))), μ') ∧ ∀ a, a ≠ 87 → a ≠ 88 → μ' a = μ a := by
  have hn := g.n10
  obtain ⟨g1, g2, g3, g4⟩ := g.2.1 s hs
  have h2 : s < 200 := by omega
  have hpl := plN_lt N n m s
  have hf := zN_le (pF N s 1 3) n
  obtain ⟨μ1, e1, e2⟩ := kX7_plainBloom (E := E) (d := d) hN g hs
  have hN1 : μ1 77 = N := by rw [e2 77 (by decide) (by decide)]; exact hN
  rw [X7_gathers_q, e1]
  simp only [ab_cI_s, kX7_fellows hN1 g hs, za_2f (p := 0), kX7_within99, zc_2 hpl (show zN (pF N s 1 3) n ≤ 10 by omega), kX7_of0 h2, kX7_of1 h2, hN1, g1.1, g2.1]
  refine ⟨μ1, ?_, e2⟩
  unfold gaN
  by_cases k1 : kd N s = 1
  · simp only [k1, show (nI 1 = (1 : Int32)) = True from eq_true rfl, if_true]
  have k1' : ¬ nI (kd N s) = (1 : Int32) := fun q => k1 ((nI_eq (b := 1) (by omega) (by decide)).mp q)
  rw [if_neg k1', if_neg k1]
  by_cases k2 : kd N s = 2
  · rw [if_pos (show nI (kd N s) = (2 : Int32) by rw [k2]; rfl), if_pos k2, show nI (plN N n m s) + (2 : Int32) = nI (plN N n m s + 2) from nI_add _ 2]
  have k2' : ¬ nI (kd N s) = (2 : Int32) := fun q => k2 ((nI_eq (b := 2) (by omega) (by decide)).mp q)
  rw [if_neg k2', if_neg k2]
  by_cases k3 : kd N s = 3
  · rw [if_pos (show nI (kd N s) = (3 : Int32) by rw [k3]; rfl), if_pos k3]
    by_cases w8 : wt N s ≤ 80
    · rw [if_pos (show nI (wt N s) ≤ (80 : Int32) from nI_le (b := 80) w8 (by decide)), if_pos w8]
    · rw [if_neg (show ¬ nI (wt N s) ≤ (80 : Int32) from nI_ge (a := 80) (by omega) (by omega)), if_neg w8]; rfl
  have k3' : ¬ nI (kd N s) = (3 : Int32) := fun q => k3 ((nI_eq (b := 3) (by omega) (by decide)).mp q)
  rw [if_neg k3', if_neg k3]
  by_cases k4 : kd N s = 4
  · rw [if_pos (show nI (kd N s) = (4 : Int32) by rw [k4]; rfl), if_pos k4, show nI (plN N n m s) + (2 : Int32) = nI (plN N n m s + 2) from nI_add _ 2, show (2 : Int32) * nI (plN N n m s + 2) = nI (2 * (plN N n m s + 2)) from pk_mul 2 _]
  have k4' : ¬ nI (kd N s) = (4 : Int32) := fun q => k4 ((nI_eq (b := 4) (by omega) (by decide)).mp q)
  rw [if_neg k4', if_neg k4]
  by_cases k5 : kd N s = 5
  · rw [if_pos (show nI (kd N s) = (5 : Int32) by rw [k5]; rfl), if_pos k5]; rfl
  have k5' : ¬ nI (kd N s) = (5 : Int32) := fun q => k5 ((nI_eq (b := 5) (by omega) (by decide)).mp q)
  rw [if_neg k5', if_neg k5]
end
