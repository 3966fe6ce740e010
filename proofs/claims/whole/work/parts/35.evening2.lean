/-! an evening of the reference -/
section
variable {E : ab_E} {d : Nat} {μ : ab_M} {r n m : Nat} {N : Nat → Int32} {a b c : Int32}
theorem kX7_evA {o1 o2 o4 : Option Value} : ∀ j i μ N, i + j = n → μ 77 = N → G N n m →
    ∃ μ', X7_evening_21 E (d + 4) o1 o2 (nI i) o4 μ = X7_evening_63 E (d + 4) o1 o2 0 o4 μ' ∧ μ' 77 = duN n m j i N ∧ ∀ a, a ≠ 77 → a ≠ 87 → a ≠ 88 → μ' a = μ a
  | 0, i, μ, N, e, h, g => by
    have hn := g.n10
    rw [X7_evening_21_q, h, g.1.1, if_pos (nI_le (by omega) (by omega))]
    exact ⟨μ, rfl, h, fun _ _ _ _ => rfl⟩
  | j + 1, i, μ, N, e, h, g => by
    have hn := g.n10
    have hi : i < n := by omega
    have h2 : i < 200 := by omega
    have g3 := (g.2.1 i hi).2.2.1
    rw [X7_evening_21_q, h, g.1.1, if_neg (nI_ge (by omega) (by omega)), kX7_of2 h2, ab_cI_s]
    obtain ⟨μ1, e1, e2⟩ := kX7_gathers (E := E) (d := d) h g hi
    rw [e1, ab_cI_s, kX7_within99, ab_cI_s, kX7_put2 h2, ab_cV_s, h, g3.1, zc_99 g3.2 (gaN_lt _ _ _ _), za_1]
    have hN1 : μ1 77 = N := by rw [e2 77 (by decide) (by decide)]; exact h
    rw [wN_up0 hN1]
    obtain ⟨μ', q1, q2, q3⟩ := kX7_evA (o1 := o1) (o2 := o2) (o4 := o4) j (i + 1) (wN μ1 (sd N n m i)) (sd N n m i) (by omega) wN_77 (g.sdd hi)
    refine ⟨μ', q1, q2, fun a h7 h87 h88 => ?_⟩
    rw [q3 a h7 h87 h88, wN_a h7, e2 a h87 h88]
theorem kX7_kick (hN : μ 77 = N) (g : G N n m) {o1 o2 o4 : Option Value} : X7_evening_63 E (d + 1) o1 o2 6 o4 μ = some (none, wN μ (upd (kkN N n) 2 (kkN N n 2 + 1))) := by
  have hn := g.n10
  rw [X7_evening_63_q, if_pos (by decide)]
  simp only [kX7_draw, ab_cI_s, hN, wN_up0 hN, wN_up, wN_77, upd_s, upd_u]
  rw [show nI (sh (dr (N 0))) - nI (sh (dr (N 0))) / (100 : Int32) * (100 : Int32) = nI (sh (dr (N 0)) % 100) from za_rem (k := 100) (by have := sh_lt (dr (N 0)); omega) (by decide) (by decide)]
  simp only [upd_n (show (3 : Nat) ≠ 0 by decide), upd_n (show (1 : Nat) ≠ 0 by decide), g.1.1]
  unfold kkN
  by_cases c1 : N 3 ≤ nI (sh (dr (N 0)) % 100)
  · simp only [c1, if_true, true_or]
  rw [if_neg c1]
  by_cases c2 : n = 0
  · rw [if_pos (show nI n ≤ (0 : Int32) by rw [c2]; decide)]
    simp only [c2, or_true, if_true]
  have hs := Nat.mod_lt (sh (dr (dr (N 0)))) (show n > 0 by omega)
  rw [if_neg (show ¬ nI n ≤ (0 : Int32) from nI_ge (a := 0) (by omega) (by omega)), if_pos (show ¬ nI n = (0 : Int32) from fun q => c2 ((nI_eq (b := 0) (by omega) (by decide)).mp q))]
  simp only [show ¬ (N 3 ≤ nI (sh (dr (N 0)) % 100) ∨ n = 0) from by rintro (q | q); exact c1 q; exact c2 q, if_false]
  rw [za_rem (by have := sh_lt (dr (dr (N 0))); omega) (show 0 < n by omega) (by omega), show nI (sh (dr (dr (dr (N 0))))) - nI (sh (dr (dr (dr (N 0))))) / (6 : Int32) * (6 : Int32) = nI (sh (dr (dr (dr (N 0)))) % 6) from za_rem (k := 6) (by have := sh_lt (dr (dr (dr (N 0)))); omega) (by decide) (by decide)]
  generalize sh (dr (dr (N 0))) % n = s at *
  have h2 : s < 200 := by omega
  have g3 := (g.2.1 s hs).2.2.1
  simp only [kX7_of2 h2, kX7_put2 h2, kX7_put3 h2, ab_cI_s, ab_cV_s, wN_77, wN_up, upd_n (show 15 + 5 * s ≠ 0 by omega), g3.1]
  by_cases hb : ds N s = 99
  · rw [if_neg (show ¬ ¬ nI (ds N s) = (99 : Int32) from fun q => q (by rw [hb]; rfl))]
    simp only [hb, if_true]
    rw [upd_n (show 5 ≠ 15 + 5 * s by omega), upd_n (show 5 ≠ 16 + 5 * s by omega), upd_n (show (5 : Nat) ≠ 0 by decide)]
  · rw [if_pos (show ¬ nI (ds N s) = (99 : Int32) from fun q => hb ((nI_eq (b := 99) (by omega) (by decide)).mp q))]
    simp only [hb, if_false]
theorem kX7_evB {o1 o2 o4 : Option Value} : ∀ j i μ N, i + j = 6 → μ 77 = N → G N n m →
    X7_evening_63 E (d + 4) o1 o2 (nI i) o4 μ = some (none, wN μ (upd (kkN (heN n j i N) n) 2 (kkN (heN n j i N) n 2 + 1)))
  | 0, i, μ, N, e, h, g => by
    rw [show nI i = (6 : Int32) by rw [show i = 6 by omega]; rfl]
    exact kX7_kick h g
  | j + 1, i, μ, N, e, h, g => by
    have hi : i < 6 := by omega
    have ha : (7 : Int32) + nI i = nI (7 + i) := nI_add 7 i
    rw [X7_evening_63_q, if_neg (show ¬ (6 : Int32) ≤ nI i from nI_ge (b := 6) (by omega) (by decide)), ha, if_pos (za_in (show 7 + i < 1435 by omega) (by decide)), kX7_drawn h g, ab_cI_s, kX7_within99, ab_cI_s, if_pos (za_in (show 7 + i < 1435 by omega) (by decide)), za_cl (by omega), h, za_1, wN_up0 h]
    have := kX7_evB (o1 := o1) (o2 := o2) (o4 := o4) j (i + 1) (wN μ (hh N n i)) (hh N n i) (by omega) wN_77 (g.hee hi)
    rw [wN_w] at this
    exact this
theorem kX7_evening (hN : μ 77 = N) (g : G N n m) : ∃ μ', X7_evening E (d + 4) μ = some (none, μ') ∧ μ' 77 = evN N n m ∧ ∀ a, a ≠ 77 → a ≠ 87 → a ≠ 88 → μ' a = μ a := by
  have fin : ∀ o1 o2 μ1, μ1 77 = maN N n → (∀ a, a ≠ 77 → μ1 a = μ a) → ∃ μ', X7_evening_21 E (d + 4) o1 o2 0 none μ1 = some (none, μ') ∧ μ' 77 = evN N n m ∧ ∀ a, a ≠ 77 → a ≠ 87 → a ≠ 88 → μ' a = μ a := by
    intro o1 o2 μ1 h1 hf
    obtain ⟨μ2, e1, e2, e3⟩ := kX7_evA (E := E) (d := d) (o1 := o1) (o2 := o2) (o4 := none) n 0 μ1 _ (by omega) h1 g.ma
    have f1 := kX7_evB (E := E) (d := d) (o1 := o1) (o2 := o2) (o4 := none) 6 0 μ2 _ (by omega) e2 (g.ma.du n 0 (by omega))
    refine ⟨_, e1.trans f1, wN_77, fun a h7 h87 h88 => ?_⟩
    rw [wN_a h7, e3 a h7 h87 h88, hf a h7]
  rw [X7_evening_q, kX7_maid hN g, ab_cI_s]
  have hn := g.n10
  unfold maN at fin
  cases hb : mdN N n (N 2 - N 2 / 6 * 6) with
  | none =>
    rw [if_neg (show ¬ (0 : Int32) ≤ cm none by decide)]
    rw [hb] at fin
    exact fin _ _ μ hN (fun _ _ => rfl)
  | some s =>
    have hs := mdN_lt hb
    rw [show cm (some s) = nI s from rfl, if_pos (show (0 : Int32) ≤ nI s from nI_pos' (by omega)), kX7_goesOver hN g hs, ab_cI_s]
    rw [hb] at fin
    exact fin _ _ _ wN_77 (fun a ha => wN_a ha)
end
/-! many evenings -/
noncomputable def evs (n m : Nat) : Nat → (Nat → Int32) → Nat → Int32
  | 0, N => N
  | k + 1, N => evs n m k (evN N n m)
section
variable {E : ab_E} {d : Nat} {μ : ab_M} {r n m : Nat} {N : Nat → Int32} {a b c : Int32}
theorem G.evs : ∀ k {N}, G N n m → G (evs n m k N) n m
  | 0, _, g => g
  | k + 1, _, g => G.evs k g.ev
theorem evs_s : ∀ k N, evs n m (k + 1) N = evN (evs n m k N) n m
  | 0, _ => rfl
  | k + 1, N => by
    show evs n m (k + 1) (evN N n m) = _
    rw [evs_s k]; rfl
theorem kX2_evs_l (hr : ab_isRoom r) {v : Nat} (hv : v < 2 ^ 31) : ∀ j i μ N, i + j = v → RC μ r N n m → G N n m → ∃ μ', X2_passEvenings_2 E (d + 7) r (nI v) (nI i) μ = some (none, μ') ∧ RC μ' r (evs n m j N) n m ∧ ∀ a, ¬ (r ≤ a ∧ a < r + 8) → a ≠ 20 → a ≠ 21 → μ' a = μ a
  | 0, i, μ, N, e, h, g => by
    rw [X2_passEvenings_2_q hr, if_pos (nI_le (by omega) (by omega))]
    exact ⟨μ, rfl, h, fun _ _ _ _ => rfl⟩
  | j + 1, i, μ, N, e, h, g => by
    obtain ⟨μ1, e1, e2, e3⟩ := kX2_passEvening (E := E) (d := d) hr h g
    rw [X2_passEvenings_2_q hr, if_neg (nI_ge (by omega) (by omega)), e1, ab_cV_s, za_1]
    obtain ⟨μ', q1, q2, q3⟩ := kX2_evs_l hr hv j (i + 1) μ1 _ (by omega) e2 g.ev
    exact ⟨μ', q1, q2, fun a ha h20 h21 => by rw [q3 a ha h20 h21, e3 a ha h20 h21]⟩
theorem kX2_passEvenings {v : Nat} (hv : v < 2 ^ 31) (hr : ab_isRoom r) (h : RC μ r N n m) (g : G N n m) : ∃ μ', X2_passEvenings E (d + 7) r (nI v) μ = some (none, μ') ∧ RC μ' r (evs n m v N) n m ∧ ∀ a, ¬ (r ≤ a ∧ a < r + 8) → a ≠ 20 → a ≠ 21 → μ' a = μ a := by
  rw [X2_passEvenings_q hr]
  exact kX2_evs_l hr hv v 0 μ N (by omega) h g
theorem kX7_evs_l {v : Nat} (hv : v < 2 ^ 31) : ∀ j i μ N, i + j = v → μ 77 = N → G N n m → ∃ μ', X7_goesOn_2 E (d + 5) (nI v) (nI i) μ = some (none, μ') ∧ μ' 77 = evs n m j N ∧ ∀ a, a ≠ 77 → a ≠ 87 → a ≠ 88 → μ' a = μ a
  | 0, i, μ, N, e, h, g => by
    rw [X7_goesOn_2_q, if_pos (nI_le (by omega) (by omega))]
    exact ⟨μ, rfl, h, fun _ _ _ _ => rfl⟩
  | j + 1, i, μ, N, e, h, g => by
    obtain ⟨μ1, e1, e2, e3⟩ := kX7_evening (E := E) (d := d) h g
    rw [X7_goesOn_2_q, if_neg (nI_ge (by omega) (by omega)), e1, ab_cV_s, za_1]
    obtain ⟨μ', q1, q2, q3⟩ := kX7_evs_l hv j (i + 1) μ1 _ (by omega) e2 g.ev
    exact ⟨μ', q1, q2, fun a ha h20 h21 => by rw [q3 a ha h20 h21, e3 a ha h20 h21]⟩
theorem kX7_goesOn {v : Nat} (hv : v < 2 ^ 31) (hN : μ 77 = N) (g : G N n m) : ∃ μ', X7_goesOn E (d + 5) (nI v) μ = some (none, μ') ∧ μ' 77 = evs n m v N ∧ ∀ a, a ≠ 77 → a ≠ 87 → a ≠ 88 → μ' a = μ a := by
  rw [X7_goesOn_q]
  exact kX7_evs_l hv v 0 μ N (by omega) hN g
end
