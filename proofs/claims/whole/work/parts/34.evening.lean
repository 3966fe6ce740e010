/-! an evening -/
theorem dr_ex : ∃ f : Int32 → Int32, ∀ z, z * (1103515245 : Int32) + (12345 : Int32) = f z := ⟨_, fun _ => rfl⟩
noncomputable def dr : Int32 → Int32 := Classical.choose dr_ex
theorem dr_e (z : Int32) : z * (1103515245 : Int32) + (12345 : Int32) = dr z := Classical.choose_spec dr_ex z
theorem sh_ex : ∃ f : Int32 → Nat, ∀ z, f z = z.toUInt32.toNat / 256 := ⟨_, fun _ => rfl⟩
noncomputable def sh : Int32 → Nat := Classical.choose sh_ex
theorem sh_d (z : Int32) : sh z = z.toUInt32.toNat / 256 := Classical.choose_spec sh_ex z
theorem sh_lt (z : Int32) : sh z < 2 ^ 24 := by
  rw [sh_d]
  have := z.toUInt32.toNat_lt
  omega
theorem sh_e (z : Int32) : (z.toUInt32 >>> (((8 : Int32) : Int32).toUInt32 &&& Int32.toUInt32 31)).toInt32 = nI (sh z) := by
  have e1 : ((8 : Int32).toUInt32 &&& Int32.toUInt32 31) = (8 : UInt32) := by decide
  rw [e1]
  have e2 : z.toUInt32 >>> (8 : UInt32) = UInt32.ofNat (sh z) := by
    apply UInt32.toNat_inj.mp
    have h := sh_lt z
    rw [UInt32.toNat_shiftRight, UInt32.toNat_ofNat_of_lt' (by show sh z < 2 ^ 32; omega)]
    show z.toUInt32.toNat >>> (8 % 32) = sh z
    rw [Nat.shiftRight_eq_div_pow, sh_d]
  rw [e2]
  rfl
theorem za_rem {a k : Nat} (ha : a < 2 ^ 31) (hk : 0 < k) (hk2 : k < 2 ^ 31) : nI a - nI a / nI k * nI k = nI (a % k) := pk_rem ha hk hk2
def sd (N : Nat → Int32) (n m i : Nat) : Nat → Int32 := upd N (15 + 5 * i) (nI (min 99 (ds N i + gaN N n m i)))
def duN (n m : Nat) : Nat → Nat → (Nat → Int32) → Nat → Int32
  | 0, _, N => N
  | j + 1, i, N => duN n m j (i + 1) (sd N n m i)
def hh (N : Nat → Int32) (n c : Nat) : Nat → Int32 := upd N (7 + c) (zc (N (7 + c) + zJ (dwF N n (nI c)) n))
def heN (n : Nat) : Nat → Nat → (Nat → Int32) → Nat → Int32
  | 0, _, N => N
  | j + 1, c, N => heN n j (c + 1) (hh N n c)
noncomputable def kkN (N : Nat → Int32) (n : Nat) : Nat → Int32 :=
  if N 3 ≤ nI (sh (dr (N 0)) % 100) ∨ n = 0 then upd N 0 (dr (N 0)) else
  if ds N (sh (dr (dr (N 0))) % n) = 99 then upd (upd (upd (upd N 0 (dr (dr (dr (N 0))))) (16 + 5 * (sh (dr (dr (N 0))) % n)) (nI (sh (dr (dr (dr (N 0)))) % 6))) (15 + 5 * (sh (dr (dr (N 0))) % n)) 0) 5 (N 5 + 1)
  else upd N 0 (dr (dr (dr (N 0))))
def maN (N : Nat → Int32) (n : Nat) : Nat → Int32 := match mdN N n (N 2 - N 2 / 6 * 6) with
  | none => N
  | some s => goN N s
noncomputable def evN (N : Nat → Int32) (n m : Nat) : Nat → Int32 := upd (kkN (heN n 6 0 (duN n m n 0 (maN N n))) n) 2 (kkN (heN n 6 0 (duN n m n 0 (maN N n))) n 2 + 1)
theorem upd_u {N : Nat → Int32} {i : Nat} {x y : Int32} : upd (upd N i x) i y = upd N i y := by
  funext k; unfold upd; split <;> rfl
theorem za_up2 {μ : ab_M} {r j : Nat} {x y : Int32} : ab_up (ab_up μ r j x) r j y = ab_up μ r j y := by
  funext a b
  unfold ab_up
  by_cases e : a = r
  · subst e; simp only [if_true, upd]; by_cases e2 : b = j <;> simp [e2]
  · simp only [e, if_false]
section
variable {E : ab_E} {d : Nat} {μ : ab_M} {r n m : Nat} {N : Nat → Int32} {a b c : Int32}
theorem G.sdd {i : Nat} (g : G N n m) (hi : i < n) : G (sd N n m i) n m := by
  have := g.say (x := nI (min 99 (ds N i + gaN N n m i))) (j := 2) hi (by decide) (Or.inr (Or.inr (Or.inl ⟨rfl, _, by omega, rfl⟩)))
  rw [show 13 + 5 * i + 2 = 15 + 5 * i by omega] at this
  exact this
theorem G.du : ∀ j i {N}, i + j = n → G N n m → G (duN n m j i N) n m
  | 0, _, _, _, g => g
  | j + 1, i, _, e, g => G.du j (i + 1) (by omega) (g.sdd (by omega))
theorem G.hee {i : Nat} (g : G N n m) (hi : i < 6) : G (hh N n i) n m := by
  have z := zc_N (N (7 + i) + zJ (dwF N n (nI i)) n)
  unfold hh
  rw [z.1]
  exact g.hdu hi z.2
theorem G.he : ∀ j i {N}, i + j = 6 → G N n m → G (heN n j i N) n m
  | 0, _, _, _, g => g
  | j + 1, i, _, e, g => G.he j (i + 1) (by omega) (g.hee (by omega))
theorem G.kk (g : G N n m) : G (kkN N n) n m := by
  unfold kkN
  split
  · exact g.num (Or.inl rfl)
  · rename_i h
    have hn : 0 < n := by
      rcases Nat.eq_zero_or_pos n with h0 | h0
      · exact absurd (Or.inr h0) h
      · exact h0
    have hs := Nat.mod_lt (sh (dr (dr (N 0)))) hn
    split
    · have h1 := (g.num (q := 0) (x := dr (dr (dr (N 0)))) (Or.inl rfl)).say (x := nI (sh (dr (dr (dr (N 0)))) % 6)) (j := 3) hs (by decide) (Or.inr (Or.inr (Or.inr (Or.inl ⟨rfl, _, Nat.mod_lt _ (by decide), rfl⟩))))
      have h2 := h1.say (x := 0) (j := 2) hs (by decide) (Or.inr (Or.inr (Or.inl ⟨rfl, 0, by decide, rfl⟩)))
      have h3 := h2.num (x := N 5 + 1) (q := 5) (by simp)
      rw [show 13 + 5 * (sh (dr (dr (N 0))) % n) + 2 = 15 + 5 * (sh (dr (dr (N 0))) % n) by omega, show 13 + 5 * (sh (dr (dr (N 0))) % n) + 3 = 16 + 5 * (sh (dr (dr (N 0))) % n) by omega] at h3
      exact h3
    · exact g.num (Or.inl rfl)
theorem G.ma (g : G N n m) : G (maN N n) n m := by
  unfold maN
  split
  · exact g
  · rename_i s hs
    exact g.go (mdN_lt hs)
theorem G.ev (g : G N n m) : G (evN N n m) n m := ((((g.ma).du n 0 (by omega)).he 6 0 (by omega)).kk).num (by simp)
theorem kX2_draw (hr : ab_isRoom r) : X2_draw E d r μ = some (some (.int (nI (sh (dr (μ r 14))))), ab_up μ r 14 (dr (μ r 14))) := by
  rw [X2_draw_q hr, sh_e, za_up_s, dr_e]
theorem kX7_draw : X7_draw E d μ = some (some (.int (nI (sh (dr (μ 77 0))))), ab_up μ 77 0 (dr (μ 77 0))) := by
  rw [X7_draw_q, sh_e, za_up_s, dr_e]
theorem mn_99 {x y : Nat} (hx : x < 100) (hy : y < 300) : (if nI x + nI y < (99 : Int32) then nI x + nI y else 99) = nI (min 99 (x + y)) := by
  rw [nI_add]
  by_cases h : x + y < 99
  · rw [if_pos (show nI (x + y) < (99 : Int32) from nI_lt (b := 99) h (by decide)), show min 99 (x + y) = x + y by omega]
  · rw [if_neg (show ¬ nI (x + y) < (99 : Int32) from za_lt.mpr (nI_le (a := 99) (by omega) (by omega))), show min 99 (x + y) = 99 by omega]; rfl
theorem zc_99 {x y : Nat} (hx : x < 100) (hy : y < 300) : zc (nI x + nI y) = nI (min 99 (x + y)) := by
  rw [nI_add]
  unfold zc
  rw [if_pos (nI_pos' (by omega))]
  by_cases h : x + y ≤ 99
  · rw [if_pos (show nI (x + y) ≤ (99 : Int32) from nI_le (b := 99) h (by decide)), show min 99 (x + y) = x + y by omega]
  · rw [if_neg (show ¬ nI (x + y) ≤ (99 : Int32) from nI_ge (a := 99) (by omega) (by omega)), show min 99 (x + y) = 99 by omega]; rfl
/-- the class's dust loop -/
theorem kX2_evA {o : Option Value} (hr : ab_isRoom r) {f : ab_M → Option (Option Value × ab_M)} (hf : ∀ μ, X2_passEvening_72 E (d + 6) r o 0 μ = f μ) : ∀ j i μ N, i + j = n → RC μ r N n m → G N n m →
    ∃ μ', X2_passEvening_25 E (d + 6) r o (nI i) μ = f μ' ∧ RC μ' r (duN n m j i N) n m ∧ ∀ a, ¬ (r ≤ a ∧ a < r + 8) → a ≠ 20 → a ≠ 21 → μ' a = μ a
  | 0, i, μ, N, e, h, g => by
    have hn := g.n10
    rw [X2_passEvening_25_q hr, h.sz g, if_pos (nI_le (by omega) (by omega)), hf]
    exact ⟨μ, rfl, h, fun _ _ _ _ => rfl⟩
  | j + 1, i, μ, N, e, h, g => by
    have hn := g.n10
    have hm := g.2.2.2.2.1.2
    have hro := hr.is
    have hi : i < n := by omega
    have h10 := za_in (show i < 10 by omega) (show 10 < 2 ^ 31 by decide)
    have rs := h.2.2.1 i hi
    have g3 := (g.2.1 i hi).2.2.1
    rw [X2_passEvening_25_q hr, h.sz g, if_neg (nI_ge (by omega) (by omega)), kX2_isBuried hr h g hi, ab_cI_s]
    by_cases hb : ds N i = 99
    · rw [if_pos (show ¬ zb (ds N i = 99) = 0 from fun q => (zb_0.mp q) hb), za_1]
      have e2 : sd N n m i = N := upd_e (by rw [g3.1, hb, show min 99 (99 + gaN N n m i) = 99 by omega])
      have := kX2_evA hr hf j (i + 1) μ N (by omega) h g
      rw [show duN n m (j + 1) i N = duN n m j (i + 1) N by show duN n m j (i + 1) (sd N n m i) = _; rw [e2]]
      exact this
    · rw [if_neg (show ¬ ¬ zb (ds N i = 99) = 0 from fun q => q (zb_0.mpr hb)), if_pos h10]
      simp only [za_cl (show i < 2 ^ 31 by omega)]
      obtain ⟨μ1, e1, e2⟩ := kX2_gathers (E := E) (d := d) hr h g hi
      rw [e1, ab_cI_s, kJ_min, ab_cI_s, if_pos h10, rs.2.2.1, g3.1, mn_99 g3.2 (gaN_lt _ _ _ _), za_1]
      have h1 : RC μ1 r N n m := h.same hr hm (fun a ha => e2 a (by omega) (by omega))
      have h2 := h1.say (x := nI (min 99 (ds N i + gaN N n m i))) (j := 2) hr hm hi hn (by decide)
      rw [show 13 + 5 * i + 2 = 15 + 5 * i by omega] at h2
      obtain ⟨μ', q1, q2, q3⟩ := kX2_evA hr hf j (i + 1) _ (sd N n m i) (by omega) h2 (g.sdd hi)
      refine ⟨μ', q1, q2, fun a ha h20 h21 => ?_⟩
      rw [q3 a ha h20 h21, za_up_a (by omega), e2 a h20 h21]
theorem kX2_kick (hr : ab_isRoom r) (h : RC μ r N n m) (g : G N n m) : ∃ μ', X2_kickByChance E (d + 1) r μ = some (none, μ') ∧ RC μ' r (kkN N n) n m ∧ ∀ a, ¬ (r ≤ a ∧ a < r + 8) → μ' a = μ a := by
  have hn := g.n10
  have hm := g.2.2.2.2.1.2
  have hro := hr.is
  have hz := h.1.2.2.2.2.2.2
  have h1 := h.num (x := dr (N 0)) (f := 14) (q := 0) hr hm (by simp)
  have h2 := h.num (x := dr (dr (N 0))) (f := 14) (q := 0) hr hm (by simp)
  have h3 := h.num (x := dr (dr (dr (N 0)))) (f := 14) (q := 0) hr hm (by simp)
  have uu : ∀ x y, ab_up (ab_up μ r 14 x) r 14 y = ab_up μ r 14 y := fun x y => za_up2
  rw [X2_kickByChance_q hr]
  simp only [kX2_draw hr, ab_cI_s, hz, za_up_s, uu]
  rw [show nI (sh (dr (N 0))) - nI (sh (dr (N 0))) / (100 : Int32) * (100 : Int32) = nI (sh (dr (N 0)) % 100) from za_rem (k := 100) (by have := sh_lt (dr (N 0)); omega) (by decide) (by decide)]
  simp only [za_up_j (show (10 : Nat) ≠ 14 by decide), za_up_j (show (8 : Nat) ≠ 14 by decide), h.1.2.2.1, h.sz g]
  unfold kkN
  by_cases c1 : N 3 ≤ nI (sh (dr (N 0)) % 100)
  · simp only [c1, if_true, true_or]
    exact ⟨_, rfl, h1, fun a ha => za_up_a (by omega)⟩
  rw [if_neg c1, if_neg (show ¬ (1 : Int32) = 0 by decide)]
  by_cases c2 : n = 0
  · rw [if_neg (show ¬ (0 : Int32) < nI n by rw [c2]; decide), if_pos (Or.inr c2)]
    exact ⟨_, rfl, h1, fun a ha => za_up_a (by omega)⟩
  have hs := Nat.mod_lt (sh (dr (dr (N 0)))) (show n > 0 by omega)
  rw [if_pos (show (0 : Int32) < nI n from nI_lt (a := 0) (by omega) (by omega)), if_pos (show ¬ nI n = (0 : Int32) from fun q => c2 ((nI_eq (b := 0) (by omega) (by decide)).mp q)), if_neg (by rintro (q | q); exact c1 q; exact c2 q)]
  rw [za_rem (by have := sh_lt (dr (dr (N 0))); omega) (show 0 < n by omega) (by omega), show nI (sh (dr (dr (dr (N 0))))) - nI (sh (dr (dr (dr (N 0))))) / (6 : Int32) * (6 : Int32) = nI (sh (dr (dr (dr (N 0)))) % 6) from za_rem (k := 6) (by have := sh_lt (dr (dr (dr (N 0)))); omega) (by decide) (by decide)]
  have g3 := g.num (q := 0) (x := dr (dr (dr (N 0)))) (Or.inl rfl)
  rw [kX2_isBuried hr h3 g3 hs, ab_cI_s]
  have ed : ds (upd N 0 (dr (dr (dr (N 0))))) (sh (dr (dr (N 0))) % n) = ds N (sh (dr (dr (N 0))) % n) := by unfold ds; rw [upd_n (by omega)]
  rw [ed]
  generalize sh (dr (dr (N 0))) % n = s at *
  have h10 := za_in (show s < 10 by omega) (show 10 < 2 ^ 31 by decide)
  by_cases hb : ds N s = 99
  · rw [if_neg (show ¬ zb (ds N s = 99) = 0 from fun q => (zb_0.mp q) hb), if_pos h10, if_pos h10, if_pos hb, za_cl (by omega)]
    have k1 := h3.say (x := nI (sh (dr (dr (dr (N 0)))) % 6)) (j := 3) hr hm hs hn (by decide)
    have k2 := k1.say (x := 0) (j := 2) hr hm hs hn (by decide)
    have k3 := k2.num (x := N 5 + 1) (f := 12) (q := 5) hr hm (by simp)
    rw [show 13 + 5 * s + 2 = 15 + 5 * s by omega, show 13 + 5 * s + 3 = 16 + 5 * s by omega] at k3
    have e1 : (ab_up (ab_up (ab_up μ r 14 (dr (dr (dr (N 0))))) (r + 4) s (nI (sh (dr (dr (dr (N 0)))) % 6))) (r + 3) s 0) r 12 + 1 = N 5 + 1 := by
      rw [za_up_a (by omega), za_up_a (by omega), za_up_j (by decide), h.1.2.2.2.2.1]
    rw [e1]
    refine ⟨_, rfl, k3, fun a ha => ?_⟩
    rw [za_up_a (by omega), za_up_a (by omega), za_up_a (by omega), za_up_a (by omega)]
  · rw [if_pos (show zb (ds N s = 99) = 0 from zb_0.mpr hb), if_neg hb]
    exact ⟨_, rfl, h3, fun a ha => za_up_a (by omega)⟩
/-- the class's heed loop, the kick, and the count of evenings -/
theorem kX2_evB {o : Option Value} (hr : ab_isRoom r) : ∀ j i μ N, i + j = 6 → RC μ r N n m → G N n m →
    ∃ μ', X2_passEvening_72 E (d + 4) r o (nI i) μ = some (none, μ') ∧ RC μ' r (upd (kkN (heN n j i N) n) 2 (kkN (heN n j i N) n 2 + 1)) n m ∧ ∀ a, ¬ (r ≤ a ∧ a < r + 8) → μ' a = μ a
  | 0, i, μ, N, e, h, g => by
    have hm := g.2.2.2.2.1.2
    obtain ⟨μ1, e1, e2, e3⟩ := kX2_kick (E := E) (d := d + 2) hr h g
    rw [X2_passEvening_72_q hr, if_pos (show (6 : Int32) ≤ nI i by rw [show i = 6 by omega]; decide), e1, ab_cV_s]
    refine ⟨_, rfl, ?_, fun a ha => ?_⟩
    · have := e2.num (x := kkN N n 2 + 1) (f := 13) (q := 2) hr hm (by simp)
      rw [e2.1.2.2.2.2.2.1]
      exact this
    · rw [za_up_a (by omega), e3 a ha]
  | j + 1, i, μ, N, e, h, g => by
    have hm := g.2.2.2.2.1.2
    have hi : i < 6 := by omega
    have h6 := za_in hi (show 6 < 2 ^ 31 by decide)
    rw [X2_passEvening_72_q hr, if_neg (show ¬ (6 : Int32) ≤ nI i from nI_ge (b := 6) (by omega) (by decide)), if_pos h6]
    simp only [za_cl (show i < 2 ^ 31 by omega)]
    rw [kX2_drawnIn hr h g, ab_cI_s, kX2_held, ab_cI_s, if_pos h6, h.2.1 i hi, za_1]
    have h1 := h.hdu (x := zc (N (7 + i) + zJ (dwF N n (nI i)) n)) hr hm hi
    obtain ⟨μ', q1, q2, q3⟩ := kX2_evB hr j (i + 1) _ (hh N n i) (by omega) h1 (g.hee hi)
    refine ⟨μ', q1, q2, fun a ha => ?_⟩
    rw [q3 a ha, za_up_a (by omega)]
theorem kX2_passEvening (hr : ab_isRoom r) (h : RC μ r N n m) (g : G N n m) : ∃ μ', X2_passEvening E (d + 6) r μ = some (none, μ') ∧ RC μ' r (evN N n m) n m ∧ ∀ a, ¬ (r ≤ a ∧ a < r + 8) → a ≠ 20 → a ≠ 21 → μ' a = μ a := by
  rw [X2_passEvening_q hr, kX2_dustiestIn hr h g, ab_cI_s, h.1.2.2.2.2.2.1]
  have fin : ∀ o μ1, RC μ1 r (maN N n) n m → (∀ a, ¬ (r ≤ a ∧ a < r + 8) → μ1 a = μ a) → ∃ μ', X2_passEvening_25 E (d + 6) r o 0 μ1 = some (none, μ') ∧ RC μ' r (evN N n m) n m ∧ ∀ a, ¬ (r ≤ a ∧ a < r + 8) → a ≠ 20 → a ≠ 21 → μ' a = μ a := by
    intro o μ1 h1 hf
    obtain ⟨μ2, e1, e2, e3⟩ := kX2_evA (E := E) (d := d) (o := o) hr (fun _ => rfl) n 0 μ1 _ (by omega) h1 g.ma
    obtain ⟨μ3, f1, f2, f3⟩ := kX2_evB (E := E) (d := d + 2) (o := o) hr 6 0 μ2 _ (by omega) e2 (g.ma.du n 0 (by omega))
    refine ⟨μ3, e1.trans f1, f2, fun a ha h20 h21 => ?_⟩
    rw [f3 a ha, e3 a ha h20 h21, hf a ha]
  have hl : ∀ b, mdN N n (N 2 - N 2 / 6 * 6) = some b → b < n := fun b hb => mdN_lt hb
  have hn := g.n10
  unfold maN at fin
  cases hb : mdN N n (N 2 - N 2 / 6 * 6) with
  | none =>
    rw [if_pos (show cn none = (-1000000005 : Int32) from rfl)]
    rw [hb] at fin
    exact fin _ μ h (fun _ _ => rfl)
  | some s =>
    have hs := hl s hb
    rw [if_neg (show ¬ cn (some s) = (-1000000005 : Int32) from fun q => by have := (cn_ne (o := some s) (fun b e => by injection e; omega)).mp q; cases this)]
    rw [hb] at fin
    obtain ⟨μ1, e1, e2, e3⟩ := kX2_goOver (E := E) (d := d + 5) hr h g hs
    rw [show cn (some s) = nI s from rfl, e1, ab_cV_s]
    exact fin _ μ1 e2 e3
end
