/-! shine -/
def brN (S : Nat) : Nat → Nat → (Nat → Int32) → Nat → Int32
  | 0, _, N => N
  | j + 1, k, N => brN S j (k + 1) (if S.testBit k then upd N (14 + 5 * k) 99 else N)
noncomputable def enS (N : Nat → Int32) (n m v S : Nat) : Bool := decide (pop (zS (pB (evs n m v (brN S n 0 N))) n) ≤ pop (zS (pB N) n))
def fdS (Q : Nat → Bool) (many : Nat) : Nat → Nat → Option Nat
  | 0, _ => none
  | j + 1, s => if pop s = many ∧ Q s = true then some s else fdS Q many j (s + 1)
def clS (Q : Nat → Bool) (K : Nat) : Nat → Nat → Option Nat
  | 0, _ => none
  | j + 1, many => match fdS Q many K 0 with
    | some s => some s
    | none => clS Q K j (many + 1)
def mayS (s : Nat) (b : Option Nat) : Prop := match b with
  | none => True
  | some x => pop s < pop x
noncomputable def rfS (Q : Nat → Bool) : Nat → Nat → Option Nat → Option Nat
  | 0, _, b => b
  | j + 1, s, b => rfS Q j (s + 1) (@ite _ (mayS s b ∧ Q s = true) (Classical.propDecidable _) (some s) b)
/-- the best of the sets below K -/
def isB (Q : Nat → Bool) (K : Nat) (b : Option Nat) : Prop := match b with
  | none => ∀ t, t < K → Q t = false
  | some x => x < K ∧ Q x = true ∧ ∀ t, t < K → Q t = true → pop x < pop t ∨ (pop x = pop t ∧ x ≤ t)
theorem isB_u {Q : Nat → Bool} {K : Nat} : ∀ {b b'}, isB Q K b → isB Q K b' → b = b'
  | none, none, _, _ => rfl
  | none, some x, h, h' => by have := h x h'.1; rw [h'.2.1] at this; exact absurd this (by decide)
  | some x, none, h, h' => by have := h' x h.1; rw [h.2.1] at this; exact absurd this (by decide)
  | some x, some y, h, h' => by
    have h1 := h.2.2 y h'.1 h'.2.1
    have h2 := h'.2.2 x h.1 h.2.1
    congr 1; omega
theorem rfS_b {Q : Nat → Bool} : ∀ j s b, isB Q s b → isB Q (s + j) (rfS Q j s b)
  | 0, _, _, h => h
  | j + 1, s, b, h => by
    unfold rfS
    rw [show s + (j + 1) = s + 1 + j by omega]
    apply rfS_b j (s + 1)
    by_cases hm : mayS s b ∧ Q s = true
    · rw [if_pos hm]
      refine ⟨by omega, hm.2, fun t ht hq => ?_⟩
      by_cases e : t = s
      · subst e; right; exact ⟨rfl, Nat.le_refl _⟩
      · cases b with
        | none => have := h t (by omega); rw [hq] at this; exact absurd this (by decide)
        | some x =>
          have h1 : pop s < pop x := hm.1
          have := h.2.2 t (by omega) hq
          omega
    · rw [if_neg hm]
      cases b with
      | none =>
        intro t ht
        by_cases e : t = s
        · subst e; exact Bool.eq_false_iff.mpr (fun q => hm ⟨trivial, q⟩)
        · exact h t (by omega)
      | some x =>
        refine ⟨by have := h.1; omega, h.2.1, fun t ht hq => ?_⟩
        by_cases e : t = s
        · subst e
          have h1 : ¬ pop t < pop x := fun q => hm ⟨q, hq⟩
          have := h.1
          omega
        · exact h.2.2 t (by omega) hq
theorem fdS_s {Q : Nat → Bool} {many x : Nat} : ∀ j s, fdS Q many j s = some x → s ≤ x ∧ x < s + j ∧ pop x = many ∧ Q x = true ∧ ∀ t, s ≤ t → t < x → ¬ (pop t = many ∧ Q t = true)
  | 0, s, h => by exact absurd h (by unfold fdS; exact fun q => nomatch q)
  | j + 1, s, h => by
    unfold fdS at h
    by_cases c : pop s = many ∧ Q s = true
    · rw [if_pos c] at h
      cases h
      exact ⟨Nat.le_refl _, by omega, c.1, c.2, fun t h1 h2 => by omega⟩
    · rw [if_neg c] at h
      obtain ⟨h1, h2, h3, h4, h5⟩ := fdS_s j (s + 1) h
      refine ⟨by omega, by omega, h3, h4, fun t t1 t2 => ?_⟩
      by_cases e : t = s
      · subst e; exact c
      · exact h5 t (by omega) t2
theorem fdS_n {Q : Nat → Bool} {many : Nat} : ∀ j s, fdS Q many j s = none → ∀ t, s ≤ t → t < s + j → ¬ (pop t = many ∧ Q t = true)
  | 0, s, h => fun t h1 h2 => by omega
  | j + 1, s, h => fun t h1 h2 => by
    unfold fdS at h
    by_cases c : pop s = many ∧ Q s = true
    · rw [if_pos c] at h; exact nomatch h
    · rw [if_neg c] at h
      by_cases e : t = s
      · subst e; exact c
      · exact fdS_n j (s + 1) h t (by omega) (by omega)
theorem clS_b {Q : Nat → Bool} {K n : Nat} (hK : ∀ t, t < K → pop t ≤ n) : ∀ j many, many + j = n + 1 → (∀ t, t < K → Q t = true → many ≤ pop t) → isB Q K (clS Q K j many)
  | 0, many, e, h => by
    unfold clS
    intro t ht
    exact Bool.eq_false_iff.mpr (fun q => by have := h t ht q; have := hK t ht; omega)
  | j + 1, many, e, h => by
    unfold clS
    cases hf : fdS Q many K 0 with
    | some s =>
      obtain ⟨h1, h2, h3, h4, h5⟩ := fdS_s K 0 hf
      refine ⟨by omega, h4, fun t ht hq => ?_⟩
      have := h t ht hq
      by_cases e2 : pop t = many
      · right
        refine ⟨by omega, ?_⟩
        rcases Nat.lt_or_ge t s with h6 | h6
        · exact absurd ⟨e2, hq⟩ (h5 t (by omega) h6)
        · exact h6
      · left; omega
    | none =>
      apply clS_b hK j (many + 1) (by omega)
      intro t ht hq
      have := h t ht hq
      by_cases e2 : pop t = many
      · exact absurd ⟨e2, hq⟩ (fdS_n K 0 hf t (by omega) (by omega))
      · omega
theorem pop_n0 : ∀ t, t < 1 → pop t ≤ 0 := by decide +kernel
theorem pop_n1 : ∀ t, t < 2 → pop t ≤ 1 := by decide +kernel
theorem pop_n2 : ∀ t, t < 4 → pop t ≤ 2 := by decide +kernel
theorem pop_n3 : ∀ t, t < 8 → pop t ≤ 3 := by decide +kernel
theorem pop_n4 : ∀ t, t < 16 → pop t ≤ 4 := by decide +kernel
theorem pop_n5 : ∀ t, t < 32 → pop t ≤ 5 := by decide +kernel
theorem pop_n6 : ∀ t, t < 64 → pop t ≤ 6 := by decide +kernel
theorem pop_n7 : ∀ t, t < 128 → pop t ≤ 7 := by decide +kernel
theorem pop_n8 : ∀ t, t < 256 → pop t ≤ 8 := by decide +kernel
theorem pop_n9 : ∀ t, t < 512 → pop t ≤ 9 := by decide +kernel
theorem pop_nn {n : Nat} (h : n ≤ 10) : ∀ t, t < 2 ^ n → pop t ≤ n := by
  rcases (show n = 0 ∨ n = 1 ∨ n = 2 ∨ n = 3 ∨ n = 4 ∨ n = 5 ∨ n = 6 ∨ n = 7 ∨ n = 8 ∨ n = 9 ∨ n = 10 by omega) with rfl | rfl | rfl | rfl | rfl | rfl | rfl | rfl | rfl | rfl | rfl
  · exact pop_n0
  · exact pop_n1
  · exact pop_n2
  · exact pop_n3
  · exact pop_n4
  · exact pop_n5
  · exact pop_n6
  · exact pop_n7
  · exact pop_n8
  · exact pop_n9
  · exact pop_le
theorem and1 (x : Int32) : x &&& 1 = 0 ∨ x &&& 1 = 1 := by
  obtain ⟨k, rfl⟩ := nI_all x
  have h : nI k &&& 1 = nI (k &&& 1) := zb_and k 1
  rw [h, Nat.and_one_is_mod]
  rcases Nat.mod_two_eq_zero_or_one k with e | e
  · left; rw [e]; rfl
  · right; rw [e]; rfl
section
variable {E : ab_E} {d : Nat} {μ μ' μ'' : ab_M} {r n m : Nat} {N M A P T : Nat → Int32} {a b c : Int32}
theorem br_a {S : Nat} : ∀ j k {N}, k + j = n → G N n m → G (brN S j k N) n m ∧ hiE N (brN S j k N)
  | 0, _, _, _, g => ⟨g, hiE.r⟩
  | j + 1, k, N, e, g => by
    unfold brN
    by_cases c : S.testBit k = true
    · rw [if_pos c]
      have n10 := g.n10
      have g1 : G (upd N (14 + 5 * k) 99) n m := by
        have := g.say (s := k) (j := 1) (x := 99) (by omega) (by omega) (Or.inr (Or.inl ⟨rfl, 99, by omega, rfl⟩))
        rw [show 13 + 5 * k + 1 = 14 + 5 * k by omega] at this
        exact this
      obtain ⟨q1, q2⟩ := br_a (S := S) j (k + 1) (by omega) g1
      exact ⟨q1, (hiE.r.u (by omega)).t q2⟩
    · rw [if_neg c]
      exact br_a j (k + 1) (by omega) g
theorem kX2_brighten_l {S : Nat} (hS : S < 1024) : ∀ j k μ N, k + j = n → RC μ 38 N n m → G N n m → ∃ μ', X2_brighten_2 E d 38 (nI S) (nI k) μ = some (none, μ') ∧ RC μ' 38 (brN S j k N) n m ∧ CF μ μ'
  | 0, k, μ, N, e, h, g => by
    have n10 := g.n10
    rw [X2_brighten_2_q isR38, h.sz g, if_pos (nI_le (by omega) (by omega))]
    exact ⟨μ, rfl, h, CF.rf⟩
  | j + 1, k, μ, N, e, h, g => by
    have n10 := g.n10
    have hm := g.2.2.2.2.1.2
    rw [X2_brighten_2_q isR38, h.sz g, if_neg (nI_ge (by omega) (by omega)), za_1]
    unfold brN
    have hb := zb_bit (s := k) hS (by omega)
    by_cases c : S.testBit k = true
    · rw [if_neg (fun q => by rw [hb.mpr c] at q; exact absurd q (by decide)), if_pos c, if_pos (za_in (show k < 10 by omega) (by decide)), za_cl (by omega)]
      have g1 : G (upd N (14 + 5 * k) 99) n m := by
        have := g.say (s := k) (j := 1) (x := 99) (by omega) (by omega) (Or.inr (Or.inl ⟨rfl, 99, by omega, rfl⟩))
        rw [show 13 + 5 * k + 1 = 14 + 5 * k by omega] at this
        exact this
      have h1 : RC (ab_up μ 40 k 99) 38 (upd N (14 + 5 * k) 99) n m := by
        have := h.say (s := k) (j := 1) (x := 99) isR38 hm (by omega) n10 (by omega)
        rw [show 13 + 5 * k + 1 = 14 + 5 * k by omega] at this
        exact this
      obtain ⟨μ2, q1, q2, q3⟩ := kX2_brighten_l hS j (k + 1) (ab_up μ 40 k 99) (upd N (14 + 5 * k) 99) (by omega) h1 g1
      exact ⟨μ2, q1, q2, CF.t (fun a h1 h2 h3 h4 => za_up_a (by omega)) q3⟩
    · rw [if_pos ((and1 _).resolve_right (fun q => c (hb.mp q))), if_neg c]
      exact kX2_brighten_l hS j (k + 1) μ N (by omega) h g
theorem zb_en {x y : Nat} (hx : x < 2 ^ 31) (hy : y < 2 ^ 31) : (if nI x < nI y then some (some (Value.int 0), μ) else some (some (Value.int 1), μ)) = some (some (Value.int (zb (decide (y ≤ x) = true))), μ) := by
  by_cases h : x < y
  · rw [if_pos (nI_lt h hy), zb_f (by rw [decide_eq_true_eq]; omega)]
  · rw [if_neg (fun q => h ((nI_ltI hx hy).mp q)), zb_t (by rw [decide_eq_true_eq]; omega)]
theorem pop_z {p : Nat → Bool} (h : n ≤ 10) : pop (zS p n) < 2 ^ 31 := by have := pop_le _ (zS_1024 (p := p) h); omega
theorem kX6_enough {S v : Nat} (hS : S < 1024) (hv : v < 2 ^ 31) (h : RC μ 22 N n m) (g : G N n m) : ∃ μ', X6_isEnoughShine E (d + 8) (nI S) (nI v) μ = some (some (.int (zb (enS N n m v S = true))), μ') ∧ CF μ μ' := by
  have n10 := g.n10
  obtain ⟨μ1, e1, e2, e3⟩ := cBe (E := E) (d := d + 7) h g
  obtain ⟨μ2, f1, f2, f3⟩ := kX2_brighten_l (E := E) (d := d + 7) hS n 0 μ1 N (by omega) e2 g
  have g2 := (br_a (S := S) n 0 (by omega) g).1
  obtain ⟨μ3, k1, k2, k3⟩ := cEvs (E := E) (d := d) hv f2 g2
  have cf := (e3.t f3).t k3
  refine ⟨μ3, ?_, cf⟩
  rw [X6_isEnoughShine_q, e1, ab_cV_s, X2_brighten_q isR38, show (0 : Int32) = nI 0 from rfl, f1, ab_cV_s, k1, ab_cV_s, kX2_buried isR38 k2 (g2.evs v), ab_cI_s, kJ_bits (zS_1024 n10), ab_cI_s, kX2_buried isR22 (cf.rc g h) g, ab_cI_s, kJ_bits (zS_1024 n10), ab_cI_s]
  exact zb_en (pop_z n10) (pop_z n10)
theorem kX7_bright_l {S v hh : Nat} (hS : S < 1024) (hv : v < 2 ^ 31) (h31 : hh < 2 ^ 31) : ∀ j k μ M, k + j = n → μ 77 = M → G M n m → μ 79 = mx N A → hiE N M → ∃ μ', X7_isBright_11 E (d + 6) (nI S) (nI v) (nI hh) (nI k) μ = some (some (.int (zb (decide (pop (zS (pB (evs n m v (brN S j k M))) n) ≤ hh) = true))), μ') ∧ μ' 77 = N ∧ μ' 79 = mx N A ∧ RF μ μ'
  | 0, k, μ, M, e, h77, g, h79, hh1 => by
    have n10 := g.n10
    obtain ⟨μ1, e1, e2, e3, e4⟩ := rEvs (E := E) (d := d) hv h77 g
    obtain ⟨μ2, f1, f2, f3, f4, f5⟩ := rBk (E := E) (d := d + 4) (N := N) (A := A) (e3.trans h79) (by rw [e2]; exact hh1.t (hi_evs v g))
    refine ⟨μ2, ?_, f2, f3, e4.t f5⟩
    rw [X7_isBright_11_q, h77, g.1.1, if_pos (nI_le (by omega) (by omega)), e1, ab_cV_s, kX7_buriedOnes e2 (g.evs v), ab_cI_s, kX7_bits (zS_1024 n10), ab_cI_s, f1, ab_cV_s, ab_cV_s]
    unfold brN
    exact zb_en h31 (pop_z n10)
  | j + 1, k, μ, M, e, h77, g, h79, hh1 => by
    have n10 := g.n10
    have hb := zb_bit (s := k) hS (by omega)
    rw [X7_isBright_11_q, h77, g.1.1, if_neg (nI_ge (by omega) (by omega)), kX7_of1 (by omega), ab_cI_s, kX7_put1 (by omega), ab_cV_s, kX7_put1 (by omega), ab_cV_s, za_1, h77, wN_up0 h77, wN_up0 h77, upd_e rfl, wN_0 h77]
    unfold brN
    by_cases c : S.testBit k = true
    · rw [if_neg (fun q => q (hb.mpr c)), if_pos c]
      have g1 : G (upd M (14 + 5 * k) 99) n m := by
        have := g.say (s := k) (j := 1) (x := 99) (by omega) (by omega) (Or.inr (Or.inl ⟨rfl, 99, by omega, rfl⟩))
        rw [show 13 + 5 * k + 1 = 14 + 5 * k by omega] at this
        exact this
      obtain ⟨μ2, q1, q2, q3, q4⟩ := kX7_bright_l hS hv h31 j (k + 1) (wN μ (upd M (14 + 5 * k) 99)) (upd M (14 + 5 * k) 99) (by omega) wN_77 g1 (by rw [wN_a (by decide)]; exact h79) (hh1.t (hiE.r.u (by omega)))
      exact ⟨μ2, q1, q2, q3, RF.t (fun a h1 _ _ _ _ => wN_a h1) q4⟩
    · rw [if_pos (fun q => c (hb.mp q)), if_neg c]
      exact kX7_bright_l hS hv h31 j (k + 1) μ M (by omega) h77 g h79 hh1
theorem kX7_bright {S v : Nat} (hS : S < 1024) (hv : v < 2 ^ 31) (h77 : μ 77 = N) (g : G N n m) (h79 : μ 79 = mx N A) : ∃ μ', X7_isBright E (d + 6) (nI S) (nI v) μ = some (some (.int (zb (enS N n m v S = true))), μ') ∧ μ' 77 = N ∧ μ' 79 = mx N A ∧ RF μ μ' := by
  have n10 := g.n10
  obtain ⟨μ2, q1, q2⟩ := kX7_bright_l (E := E) (d := d) hS hv (pop_z (p := pB N) n10) n 0 μ N (by omega) h77 g h79 hiE.r
  refine ⟨μ2, ?_, q2⟩
  rw [X7_isBright_q, kX7_buriedOnes h77 g, ab_cI_s, kX7_bits (zS_1024 n10), ab_cI_s]
  exact q1
theorem kX6_sh39 {K many v : Nat} (hK : K ≤ 1024) (hm : many ≤ 20) (hv : v < 2 ^ 31) (g : G N n m) : ∀ j s μ, s + j = K → RC μ 22 N n m → ∃ μ', X6_shine_39 E (d + 9) (nI v) (nI K) (nI many) (nI s) μ = (match fdS (enS N n m v) many j s with | some x => some (some (.int (nI x)), μ') | none => X6_shine_25 E (d + 9) (nI v) (nI K) (nI (many + 1)) (some (.int (nI K))) μ') ∧ CF μ μ'
  | 0, s, μ, e, h => by
    rw [X6_shine_39_q, if_pos (nI_le (by omega) (by omega)), za_1, show s = K by omega]
    exact ⟨μ, rfl, CF.rf⟩
  | j + 1, s, μ, e, h => by
    have ps := pop_le s (by omega)
    rw [X6_shine_39_q, if_neg (nI_ge (by omega) (by omega)), kJ_bits (by omega), ab_cI_s, za_1]
    unfold fdS
    by_cases c1 : pop s = many
    · rw [if_neg (fun q => q (by rw [c1]))]
      obtain ⟨μ1, e1, e2⟩ := kX6_enough (E := E) (d := d) (S := s) (by omega) hv h g
      rw [e1, ab_cI_s]
      by_cases c2 : enS N n m v s = true
      · rw [zb_t c2, if_neg (by decide), if_pos ⟨c1, c2⟩]
        exact ⟨μ1, rfl, e2⟩
      · rw [zb_f c2, if_pos rfl, if_neg (fun q => c2 q.2)]
        obtain ⟨μ2, q1, q2⟩ := kX6_sh39 hK hm hv g j (s + 1) μ1 (by omega) (e2.rc g h)
        exact ⟨μ2, q1, e2.t q2⟩
    · rw [if_pos (fun q => c1 ((nI_eq (by omega) (by omega)).mp q)), if_neg (fun q => c1 q.1)]
      exact kX6_sh39 hK hm hv g j (s + 1) μ (by omega) h
theorem kX6_sh25 {K v : Nat} (hK : K ≤ 1024) (hv : v < 2 ^ 31) (g : G N n m) : ∀ j many μ o, many + j = n + 1 → RC μ 22 N n m → ∃ μ', X6_shine_25 E (d + 9) (nI v) (nI K) (nI many) o μ = some (some (.int (cn (clS (enS N n m v) K j many))), μ') ∧ CF μ μ'
  | 0, many, μ, o, e, h => by
    have n10 := g.n10
    rw [X6_shine_25_q, h.sz g, if_pos (nI_lt (by omega) (by omega))]
    exact ⟨μ, rfl, CF.rf⟩
  | j + 1, many, μ, o, e, h => by
    have n10 := g.n10
    obtain ⟨μ1, e1, e2⟩ := kX6_sh39 (E := E) (d := d) (many := many) hK (by omega) hv g K 0 μ (by omega) h
    rw [X6_shine_25_q, h.sz g, if_neg (za_lt.mpr (nI_le (by omega) (by omega))), show (0 : Int32) = nI 0 from rfl, e1]
    unfold clS
    cases hf : fdS (enS N n m v) many K 0 with
    | some x => exact ⟨μ1, rfl, e2⟩
    | none =>
      obtain ⟨μ2, q1, q2⟩ := kX6_sh25 hK hv g j (many + 1) μ1 (some (.int (nI K))) (by omega) (e2.rc g h)
      exact ⟨μ2, q1, e2.t q2⟩
theorem nI_nN {x : Nat} (hx : x < 2 ^ 31) : ¬ nI x = (-1000000005 : Int32) := fun q => absurd (nI_pos' hx) (by rw [q]; decide)
theorem kX7_sh22 {v : Nat} (hv : v < 2 ^ 31) (g : G N n m) : ∀ j s μ o b, s + j = 2 ^ n → (∀ x, b = some x → x < 1024) → μ 77 = N → μ 79 = mx N A → ∃ μ', X7_shine_22 E (d + 7) (nI v) (cn b) (nI s) o μ = some (some (.int (cn (rfS (enS N n m v) j s b))), μ') ∧ μ' 77 = N ∧ RF μ μ'
  | 0, s, μ, o, b, e, hb, h77, h79 => by
    have n10 := g.n10
    rw [X7_shine_22_q, h77, g.1.1, zb_shl (by omega), if_pos (nI_le (by omega) (by have := Nat.pow_le_pow_right (n := 2) (by decide) n10; omega))]
    exact ⟨μ, rfl, h77, RF.rf⟩
  | j + 1, s, μ, o, b, e, hb, h77, h79 => by
    have n10 := g.n10
    have p10 := Nat.pow_le_pow_right (n := 2) (by decide) n10
    rw [X7_shine_22_q, h77, g.1.1, zb_shl (by omega), if_neg (nI_ge (by omega) (by omega)), za_1]
    obtain ⟨μ1, e1, e2, e3, e4⟩ := kX7_bright (E := E) (d := d) (S := s) (by omega) hv h77 g h79
    unfold rfS
    have go : ∀ o', mayS s b → ∃ μ', (ab_cI (X7_isBright E (d + 6) (nI s) (nI v) μ) (fun x4 μ5 => if x4 = 0 then X7_shine_22 E (d + 7) (nI v) (cn b) (nI (s + 1)) o' μ5 else X7_shine_22 E (d + 7) (nI v) (nI s) (nI (s + 1)) o' μ5)) = some (some (.int (cn (rfS (enS N n m v) j (s + 1) (@ite _ (mayS s b ∧ enS N n m v s = true) (Classical.propDecidable _) (some s) b)))), μ') ∧ μ' 77 = N ∧ RF μ μ' := by
      intro o' hmay
      rw [e1, ab_cI_s]
      by_cases c2 : enS N n m v s = true
      · rw [zb_t c2, if_neg (by decide), if_pos ⟨hmay, c2⟩]
        obtain ⟨μ2, q1, q2, q3⟩ := kX7_sh22 hv g j (s + 1) μ1 o' (some s) (by omega) (fun x hx => by cases hx; omega) e2 e3
        exact ⟨μ2, q1, q2, e4.t q3⟩
      · rw [zb_f c2, if_pos rfl, if_neg (fun q => c2 q.2)]
        obtain ⟨μ2, q1, q2, q3⟩ := kX7_sh22 hv g j (s + 1) μ1 o' b (by omega) hb e2 e3
        exact ⟨μ2, q1, q2, e4.t q3⟩
    cases b with
    | none =>
      rw [if_pos (show cn none = (-1000000005 : Int32) from rfl), if_neg (by decide)]
      exact go _ trivial
    | some x =>
      have hx := hb x rfl
      rw [if_neg (show ¬ cn (some x) = (-1000000005 : Int32) from nI_nN (by omega)), kX7_bits (by omega), ab_cI_s, show cn (some x) = nI x from rfl, kX7_bits hx, ab_cI_s]
      have px := pop_le x hx
      have ps := pop_le s (by omega)
      by_cases c1 : pop x ≤ pop s
      · rw [if_pos (nI_le c1 (by omega)), if_pos rfl, if_neg (fun q => by have h1 : pop s < pop x := q.1; omega)]
        exact kX7_sh22 hv g j (s + 1) μ (some (.int 0)) (some x) (by omega) hb h77 h79
      · rw [if_neg (nI_ge (by omega) (by omega)), if_neg (by decide)]
        exact go _ (show pop s < pop x by omega)
theorem p_shine : PR (X6_shine E (d + 100) a) (X7_shine E (d + 100) a) := by
  intro μ s
  obtain ⟨n, m, e, ⟨g, h, h2, h3⟩, h4, so⟩ := id s
  have hX : X6_shine E (d + 100) a μ = _ := X6_shine_q
  rw [kX6_isWithin, ab_cI_s] at hX
  by_cases ha : 0 ≤ a ∧ a ≤ 20
  · obtain ⟨v, hv, rfl⟩ := (za_rng (k := 20) (by decide)).mp ha
    have n10 := g.n10
    have p10 := Nat.pow_le_pow_right (n := 2) (by decide) n10
    rw [zb_t ha, if_pos (by decide), h.sz g, zb_shl (by omega), show (0 : Int32) = nI 0 from rfl] at hX
    obtain ⟨μ1, e1, e2⟩ := kX6_sh25 (E := E) (d := d + 91) (K := 2 ^ n) (v := v) (by omega) (by omega) g (n + 1) 0 μ none (by omega) h
    have h77 : μ1 77 = μ 77 := e2 77 (by omega) (by omega) (by omega) (by omega)
    obtain ⟨μ2, f1, f2, f3, f4⟩ := rTk (E := E) (d := d + 98) h77
    obtain ⟨μ3, k1, k2, k3⟩ := kX7_sh22 (E := E) (d := d + 93) (v := v) (by omega) g (2 ^ n) 0 μ2 none none (by omega) (fun x hx => nomatch hx) f2 f3
    have hY : X7_shine E (d + 100) (nI v) μ1 = _ := X7_shine_q
    rw [kX7_in, ab_cI_s, zb_t ha, if_pos (by decide), f1, ab_cV_s, show (0 : Int32) = nI 0 from rfl] at hY
    have eb : clS (enS (μ 77) n m v) (2 ^ n) (n + 1) 0 = rfS (enS (μ 77) n m v) (2 ^ n) 0 none := isB_u (clS_b (pop_nn n10) (n + 1) 0 (by omega) (fun _ _ _ => Nat.zero_le _)) (by
      have := rfS_b (Q := enS (μ 77) n m v) (2 ^ n) 0 none (fun t ht => by omega)
      rw [Nat.zero_add] at this
      exact this)
    rw [eb] at e1
    exact ⟨_, _, _, hX.trans e1, hY.trans k1, s.th e2 (f4.t k3) k2⟩
  · have hY : X7_shine E (d + 100) a μ = _ := X7_shine_q
    rw [zb_f ha, if_neg (by decide)] at hX
    rw [kX7_in, ab_cI_s, zb_f ha, if_neg (by decide)] at hY
    exact ⟨_, _, _, hX, hY, s⟩
end
