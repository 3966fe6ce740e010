/-! sums, sets and copies of rooms -/
def hiE (N M : Nat → Int32) : Prop := ∀ k, 1435 ≤ k → M k = N k
theorem hiE.u {N M : Nat → Int32} {i : Nat} {x : Int32} (h : hiE N M) (hi : i < 1435) : hiE N (upd M i x) := fun k hk => by rw [upd_n (by omega)]; exact h k hk
theorem hiE.t {N M P : Nat → Int32} (h : hiE N M) (h2 : hiE M P) : hiE N P := fun k hk => (h2 k hk).trans (h k hk)
theorem hiE.r {N : Nat → Int32} : hiE N N := fun _ _ => rfl
section
variable {n m : Nat} {N M : Nat → Int32}
theorem hi_go {s : Nat} (hs : s < 10) : hiE N (goN N s) := by
  unfold goN
  split
  · exact .r
  · exact ((hiE.r.u (by omega)).u (by omega)).u (by omega)
theorem hi_ma (g : G N n m) : hiE N (maN N n) := by
  unfold maN
  split
  · exact .r
  · rename_i s hs
    have := mdN_lt hs
    have := g.n10
    exact hi_go (by omega)
theorem hi_du (hn : n ≤ 10) : ∀ j i {N}, i + j = n → hiE N (duN n m j i N)
  | 0, _, _, _ => .r
  | j + 1, i, N, e => hiE.t (M := sd N n m i) (hiE.r.u (by omega)) (hi_du hn j (i + 1) (by omega))
theorem hi_he : ∀ j i {N}, i + j = 6 → hiE N (heN n j i N)
  | 0, _, _, _ => .r
  | j + 1, i, N, e => hiE.t (M := hh N n i) (hiE.r.u (by omega)) (hi_he j (i + 1) (by omega))
theorem hi_kk (hn : n ≤ 10) : hiE N (kkN N n) := by
  unfold kkN
  split
  · exact hiE.r.u (by omega)
  · rename_i h
    have hn0 : 0 < n := by
      rcases Nat.eq_zero_or_pos n with h0 | h0
      · exact absurd (Or.inr h0) h
      · exact h0
    have hs := Nat.mod_lt (sh (dr (dr (N 0)))) hn0
    split
    · exact (((hiE.r.u (by omega)).u (by omega)).u (by omega)).u (by omega)
    · exact hiE.r.u (by omega)
theorem hi_ev (g : G N n m) : hiE N (evN N n m) := by
  have hn := g.n10
  exact (((hi_ma g).t (hi_du hn n 0 (by omega))).t ((hi_he 6 0 (by omega)).t (hi_kk hn))).u (by omega)
theorem hi_evs : ∀ k {N}, G N n m → hiE N (evs n m k N)
  | 0, _, _ => .r
  | k + 1, _, g => (hi_ev g).t (hi_evs k g.ev)
end
def mx (A B : Nat → Int32) : Nat → Int32 := fun k => if k < 1435 then A k else B k
theorem mx_b {N A M : Nat → Int32} (h : hiE N M) : mx (mx N A) M = N := by
  funext k
  unfold mx
  by_cases e : k < 1435
  · simp only [e, if_true]
  · simp only [e, if_false]; exact h k (by omega)
theorem ab_upA_s {μ : ab_M} {r : Nat} {f : Nat → Int32} : ab_upA μ r f r = f := by simp [ab_upA]
theorem ab_upA_n {μ : ab_M} {r a : Nat} {f : Nat → Int32} (h : a ≠ r) : ab_upA μ r f a = μ a := by simp [ab_upA, h]
section
variable {E : ab_E} {d : Nat} {μ : ab_M} {r n m : Nat} {N : Nat → Int32} {a b c : Int32}
theorem kX7_copyAll_l {w0 w1 : Nat} (h0 : w0 < 900 ∧ ab_S0[w0]? = some (1, 1435, [])) (h1 : w1 < 900 ∧ ab_S0[w1]? = some (1, 1435, [])) (hw : w0 ≠ w1) : ∀ j i μ, i + j = 1435 → X7_copyAll_2 E d w0 w1 (nI i) μ = some (none, ab_upA μ w1 (fun k => if i ≤ k ∧ k < 1435 then μ w0 k else μ w1 k))
  | 0, i, μ, e => by
    rw [X7_copyAll_2_q h0 h1, if_pos (show (1435 : Int32) ≤ nI i from nI_le (a := 1435) (by omega) (by omega))]
    congr 2
    funext x
    by_cases hx : x = w1
    · subst hx; rw [ab_upA_s]; funext k; rw [if_neg (by omega)]
    · rw [ab_upA_n hx]
  | j + 1, i, μ, e => by
    have hi := za_in (show i < 1435 by omega) (show 1435 < 2 ^ 31 by decide)
    rw [X7_copyAll_2_q h0 h1, if_neg (show ¬ (1435 : Int32) ≤ nI i from nI_ge (b := 1435) (by omega) (by decide)), if_pos hi, if_pos hi, za_cl (by omega), za_1, kX7_copyAll_l h0 h1 hw j (i + 1) _ (by omega)]
    congr 2
    funext x
    by_cases hx : x = w1
    · subst hx
      rw [ab_upA_s, ab_upA_s, za_up_a hw]
      funext k
      by_cases e1 : k = i
      · subst e1; rw [if_neg (by omega), if_pos (by omega), za_up_s]
      · by_cases e2 : i ≤ k ∧ k < 1435
        · rw [if_pos (by omega), if_pos e2]
        · rw [if_neg (by omega), if_neg e2, za_up_j e1]
    · rw [ab_upA_n hx, ab_upA_n hx, za_up_a hx]
theorem kX7_copyAll {w0 w1 : Nat} (h0 : w0 < 900 ∧ ab_S0[w0]? = some (1, 1435, [])) (h1 : w1 < 900 ∧ ab_S0[w1]? = some (1, 1435, [])) (hw : w0 ≠ w1) : X7_copyAll E d w0 w1 μ = some (none, ab_upA μ w1 (mx (μ w0) (μ w1))) := by
  rw [X7_copyAll_q h0 h1]
  have := kX7_copyAll_l (E := E) (d := d) h0 h1 hw 1435 0 μ (by omega)
  refine this.trans ?_
  congr 3
  funext k
  unfold mx
  by_cases e : k < 1435
  · rw [if_pos (by omega), if_pos e]
  · rw [if_neg (by omega), if_neg e]
theorem kX7_thinks : X7_thinks E (d + 1) μ = some (none, ab_upA μ 79 (mx (μ 77) (μ 79))) := by
  rw [X7_thinks_q, kX7_copyAll ⟨by decide, s_77⟩ ⟨by decide, s_79⟩ (by decide), ab_cV_s]
theorem kX7_putsBack : X7_putsBack E (d + 1) μ = some (none, ab_upA μ 77 (mx (μ 79) (μ 77))) := by
  rw [X7_putsBack_q, kX7_copyAll ⟨by decide, s_79⟩ ⟨by decide, s_77⟩ (by decide), ab_cV_s]
/-- what was put aside comes back -/
theorem kX7_putsBack' {A : Nat → Int32} (h79 : μ 79 = mx N A) (h : hiE N (μ 77)) : X7_putsBack E (d + 1) μ = some (none, wN μ N) := by
  rw [kX7_putsBack, h79, mx_b h]; rfl
/-! sums -/
theorem kX2_allDust (hr : ab_isRoom r) (h : RC μ r N n m) (g : G N n m) : X2_allDust E d r μ = some (some (.int (zJ (fun s => N (15 + 5 * s)) n)), μ) := by
  have hn := g.n10
  rw [X2_allDust_q hr]
  have : ∀ j i, i + j = n → X2_allDust_4 E d r (zJ (fun s => N (15 + 5 * s)) i) (nI i) μ = some (some (.int (zJ (fun s => N (15 + 5 * s)) n)), μ) := by
    intro j
    induction j with
    | zero => intro i hi; rw [X2_allDust_4_q hr, h.sz g, if_pos (nI_le (by omega) (by omega)), show i = n by omega]
    | succ j ih =>
      intro i hi
      rw [X2_allDust_4_q hr, h.sz g, if_neg (nI_ge (by omega) (by omega)), if_pos (za_in (show i < 10 by omega) (by decide)), za_cl (by omega), (h.2.2.1 i (by omega)).2.2.1, za_1]
      exact ih (i + 1) (by omega)
  exact this n 0 (by omega)
theorem kX7_allDust (hN : μ 77 = N) (g : G N n m) : X7_allDust E (d + 1) μ = some (some (.int (zJ (fun s => N (15 + 5 * s)) n)), μ) := by
  have hn := g.n10
  rw [X7_allDust_q]
  have : ∀ j i, i + j = n → X7_allDust_4 E (d + 1) (zJ (fun s => N (15 + 5 * s)) i) (nI i) μ = some (some (.int (zJ (fun s => N (15 + 5 * s)) n)), μ) := by
    intro j
    induction j with
    | zero => intro i hi; rw [X7_allDust_4_q, hN, g.1.1, if_pos (nI_le (by omega) (by omega)), show i = n by omega]
    | succ j ih =>
      intro i hi
      rw [X7_allDust_4_q, hN, g.1.1, if_neg (nI_ge (by omega) (by omega)), kX7_of2 (by omega), ab_cI_s, hN, za_1]
      exact ih (i + 1) (by omega)
  exact this n 0 (by omega)
theorem kX2_allHeed (hr : ab_isRoom r) (h : RC μ r N n m) : X2_allHeed E d r μ = some (some (.int (zJ (fun s => N (7 + s)) 6)), μ) := by
  rw [X2_allHeed_q hr]
  have : ∀ j i, i + j = 6 → X2_allHeed_4 E d r (zJ (fun s => N (7 + s)) i) (nI i) μ = some (some (.int (zJ (fun s => N (7 + s)) 6)), μ) := by
    intro j
    induction j with
    | zero => intro i hi; rw [X2_allHeed_4_q hr, if_pos (show (6 : Int32) ≤ nI i from nI_le (a := 6) (by omega) (by omega)), show i = 6 by omega]
    | succ j ih =>
      intro i hi
      rw [X2_allHeed_4_q hr, if_neg (show ¬ (6 : Int32) ≤ nI i from nI_ge (b := 6) (by omega) (by decide)), if_pos (za_in (show i < 6 by omega) (by decide)), za_cl (by omega), h.2.1 i (by omega), za_1]
      exact ih (i + 1) (by omega)
  exact this 6 0 (by omega)
theorem za_7 (i : Nat) : (7 : Int32) + nI i = nI (7 + i) := nI_add 7 i
theorem kX7_allHeed (hN : μ 77 = N) : X7_allHeed E d μ = some (some (.int (zJ (fun s => N (7 + s)) 6)), μ) := by
  rw [X7_allHeed_q]
  have : ∀ j i, i + j = 6 → X7_allHeed_4 E d (zJ (fun s => N (7 + s)) i) (nI i) μ = some (some (.int (zJ (fun s => N (7 + s)) 6)), μ) := by
    intro j
    induction j with
    | zero => intro i hi; rw [X7_allHeed_4_q, if_pos (show (6 : Int32) ≤ nI i from nI_le (a := 6) (by omega) (by omega)), show i = 6 by omega]
    | succ j ih =>
      intro i hi
      rw [X7_allHeed_4_q, if_neg (show ¬ (6 : Int32) ≤ nI i from nI_ge (b := 6) (by omega) (by decide)), za_7, if_pos (za_in (show 7 + i < 1435 by omega) (by decide)), za_cl (by omega), hN, za_1]
      exact ih (i + 1) (by omega)
  exact this 6 0 (by omega)
def zO (f : Nat → Int32) : Nat → Int32
  | 0 => 0
  | i + 1 => zO f i ||| (1 <<< (f i &&& 31))
theorem kX2_corners (hr : ab_isRoom r) (h : RC μ r N n m) (g : G N n m) : X2_cornersWithSayings E d r μ = some (some (.int (zO (fun s => N (16 + 5 * s)) n)), μ) := by
  have hn := g.n10
  rw [X2_cornersWithSayings_q hr]
  have : ∀ j i, i + j = n → X2_cornersWithSayings_4 E d r (zO (fun s => N (16 + 5 * s)) i) (nI i) μ = some (some (.int (zO (fun s => N (16 + 5 * s)) n)), μ) := by
    intro j
    induction j with
    | zero => intro i hi; rw [X2_cornersWithSayings_4_q hr, h.sz g, if_pos (nI_le (by omega) (by omega)), show i = n by omega]
    | succ j ih =>
      intro i hi
      rw [X2_cornersWithSayings_4_q hr, h.sz g, if_neg (nI_ge (by omega) (by omega)), if_pos (za_in (show i < 10 by omega) (by decide)), za_cl (by omega), (h.2.2.1 i (by omega)).2.2.2.1, za_1]
      exact ih (i + 1) (by omega)
  exact this n 0 (by omega)
theorem kX7_peopled (hN : μ 77 = N) (g : G N n m) : X7_peopled E (d + 1) μ = some (some (.int (zO (fun s => N (16 + 5 * s)) n)), μ) := by
  have hn := g.n10
  rw [X7_peopled_q]
  have : ∀ j i, i + j = n → X7_peopled_4 E (d + 1) (zO (fun s => N (16 + 5 * s)) i) (nI i) μ = some (some (.int (zO (fun s => N (16 + 5 * s)) n)), μ) := by
    intro j
    induction j with
    | zero => intro i hi; rw [X7_peopled_4_q, hN, g.1.1, if_pos (nI_le (by omega) (by omega)), show i = n by omega]
    | succ j ih =>
      intro i hi
      rw [X7_peopled_4_q, hN, g.1.1, if_neg (nI_ge (by omega) (by omega)), kX7_of3 (by omega), ab_cI_s, hN, za_1]
      exact ih (i + 1) (by omega)
  exact this n 0 (by omega)
def dfN (N : Nat → Int32) : Nat → Nat → Nat → Nat
  | 0, _, b => b
  | j + 1, i, b => dfN N j (i + 1) (if N (7 + b) ≤ N (7 + i) then b else i)
theorem kX2_deafest (hr : ab_isRoom r) (h : RC μ r N n m) : X2_deafest E d r μ = some (some (.int (nI (dfN N 5 1 0))), μ) := by
  rw [X2_deafest_q hr]
  have : ∀ j i b, i + j = 6 → b < 6 → X2_deafest_4 E d r (nI b) (nI i) μ = some (some (.int (nI (dfN N j i b))), μ) := by
    intro j
    induction j with
    | zero => intro i b hi hb; rw [X2_deafest_4_q hr, if_pos (show (6 : Int32) ≤ nI i from nI_le (a := 6) (by omega) (by omega))]; rfl
    | succ j ih =>
      intro i b hi hb
      rw [X2_deafest_4_q hr, if_neg (show ¬ (6 : Int32) ≤ nI i from nI_ge (b := 6) (by omega) (by decide)), if_pos (za_in (show i < 6 by omega) (by decide)), if_pos (za_in hb (by decide)), za_cl (by omega), za_cl (by omega), h.2.1 i (by omega), h.2.1 b hb, za_1, ih (i + 1) b (by omega) hb, ih (i + 1) i (by omega) (by omega)]
      show _ = some (some (Value.int (nI (dfN N j (i + 1) (if N (7 + b) ≤ N (7 + i) then b else i)))), μ)
      split <;> rfl
  exact this 5 1 0 (by omega) (by omega)
theorem kX7_deafest (hN : μ 77 = N) : X7_deafest E d μ = some (some (.int (nI (dfN N 5 1 0))), μ) := by
  rw [X7_deafest_q]
  have : ∀ j i b, i + j = 6 → b < 6 → X7_deafest_4 E d (nI b) (nI i) μ = some (some (.int (nI (dfN N j i b))), μ) := by
    intro j
    induction j with
    | zero => intro i b hi hb; rw [X7_deafest_4_q, if_pos (show (6 : Int32) ≤ nI i from nI_le (a := 6) (by omega) (by omega))]; rfl
    | succ j ih =>
      intro i b hi hb
      rw [X7_deafest_4_q, if_neg (show ¬ (6 : Int32) ≤ nI i from nI_ge (b := 6) (by omega) (by decide)), za_7, za_7, if_pos (za_in (show 7 + i < 1435 by omega) (by decide)), if_pos (za_in (show 7 + b < 1435 by omega) (by decide)), za_cl (by omega), za_cl (by omega), hN, za_1, ih (i + 1) b (by omega) hb, ih (i + 1) i (by omega) (by omega)]
      show _ = some (some (Value.int (nI (dfN N j (i + 1) (if N (7 + b) ≤ N (7 + i) then b else i)))), μ)
      split <;> rfl
  exact this 5 1 0 (by omega) (by omega)
end
