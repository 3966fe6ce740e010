/-! text -/
noncomputable def txR (F z : Nat) (B : Nat → Nat) (τ : Nat × Nat × Nat) : Option (Nat × List Int32) × Nat := match kyN B τ 3 0 with
  | none => (none, τ.1)
  | some q => match (rd z B q F 0 0 0 (nxt z B τ)).1 with
    | none => (none, (rd z B q F 0 0 0 (nxt z B τ)).2.1)
    | some cs => if (rd z B q F 0 0 0 (nxt z B τ)).2.2.2 = 0 then (some (q, cs), (rd z B q F 0 0 0 (nxt z B τ)).2.1) else (none, (rd z B q F 0 0 0 (nxt z B τ)).2.1)
/-- the row with a text more -/
def TN (N N' : Nat → Int32) (m key : Nat) (cs : List Int32) : Prop := N' 6 = nI (m + 1) ∧ N' (63 + 2 * m) = nI (1000 * key + cs.length) ∧ N' (64 + 2 * m) = nI (lvs cs) ∧ (∀ i x, cs[i]? = some x → N' (91 + 96 * m + i) = x) ∧ ∀ q, q ≠ 6 → q ≠ 63 + 2 * m → q ≠ 64 + 2 * m → ¬ (91 + 96 * m ≤ q ∧ q < 91 + 96 * m + cs.length) → N' q = N q
section
variable {E : ab_E} {d : Nat} {μ μ' μ'' : ab_M} {z key n m : Nat} {B : Nat → Nat} {τ : Nat × Nat × Nat} {W C P cs : List Int32} {N N' : Nat → Int32}
theorem TN.k (h : TN N N' m key cs) (hl : cs.length ≤ 96) (hm : m < 14) (hk : key < 3) : tk N' m = key ∧ tl N' m = cs.length := by
  unfold tk tl
  rw [h.2.1, za_cl (by omega)]
  omega
theorem TN.o (h : TN N N' m key cs) (hm : m < 14) {t : Nat} (ht : t < m) : N' (63 + 2 * t) = N (63 + 2 * t) ∧ N' (64 + 2 * t) = N (64 + 2 * t) := ⟨h.2.2.2.2 _ (by omega) (by omega) (by omega) (by omega), h.2.2.2.2 _ (by omega) (by omega) (by omega) (by omega)⟩
theorem TN.ot (h : TN N N' m key cs) (hm : m < 14) {t : Nat} (ht : t < m) : tk N' t = tk N t ∧ tl N' t = tl N t := by
  unfold tk tl; rw [(h.o hm ht).1]; exact ⟨rfl, rfl⟩
theorem TN.c (h : TN N N' m key cs) (hm : m < 14) {t k : Nat} (ht : t < m) (hk : k < 96) : N' (91 + 96 * t + k) = N (91 + 96 * t + k) := h.2.2.2.2 _ (by omega) (by omega) (by omega) (by omega)
theorem TN.lTe (h : TN N N' m key cs) (hm : m < 14) {k : Nat} : ∀ t, t ≤ m → lT N' k t = lT N k t
  | 0, _ => rfl
  | t + 1, ht => by
    show (if tk N' t = k then some t else lT N' k t) = (if tk N t = k then some t else lT N k t)
    rw [(h.ot hm (show t < m by omega)).1, TN.lTe h hm t (by omega)]
theorem TN.tce (h : TN N N' m key cs) (hl : cs.length ≤ 96) (hm : m < 14) (hk : key < 3) : tc N' m = cs := by
  unfold tc
  rw [(h.k hl hm hk).2]
  apply List.ext_getElem?
  intro i
  rw [List.getElem?_map]
  rcases Nat.lt_or_ge i cs.length with hi | hi
  · rw [List.getElem?_range hi, List.getElem?_eq_getElem hi]
    exact congrArg some (h.2.2.2.1 i _ (List.getElem?_eq_getElem hi))
  · rw [List.getElem?_eq_none (by simpa using hi), List.getElem?_eq_none hi]; rfl
theorem TN.Gd (h : TN N N' m key cs) (g : G N n m) (hl : cs.length ≤ 96) (hm : m < 14) (hk : key < 3) (hg : gdc (nb key) cs) : G N' n (m + 1) := by
  obtain ⟨⟨g1, g2⟩, g3, g4, ⟨x, g5, g6⟩, ⟨g7, g8⟩, g9⟩ := g
  have lo : ∀ q, q ≠ 6 → q < 63 → N' q = N q := fun q h1 h2 => h.2.2.2.2 q h1 (by omega) (by omega) (by omega)
  refine ⟨⟨by rw [lo 1 (by decide) (by decide)]; exact g1, g2⟩, fun s hs => ?_, fun c hc => ?_, ⟨x, g5, by rw [lo 3 (by decide) (by decide)]; exact g6⟩, ⟨h.1, by omega⟩, fun t ht => ?_⟩
  · unfold GS kd wt ds co
    rw [lo (13 + 5 * s) (by omega) (by omega), lo (14 + 5 * s) (by omega) (by omega), lo (15 + 5 * s) (by omega) (by omega), lo (16 + 5 * s) (by omega) (by omega)]
    exact g3 s hs
  · unfold hd
    rw [lo (7 + c) (by omega) (by omega)]
    exact g4 c hc
  · by_cases e : t = m
    · subst e
      obtain ⟨k1, k2⟩ := h.k hl hm hk
      unfold GT
      rw [k1, k2, h.tce hl hm hk]
      refine ⟨h.2.1, hk, hl, ?_⟩
      have := hg 0 [] (by omega)
      rw [List.append_nil] at this
      rw [this]; rfl
    · obtain ⟨k1, k2⟩ := h.ot hm (show t < m by omega)
      have gt := g9 t (by omega)
      unfold GT tc
      rw [k1, k2, (h.o hm (show t < m by omega)).1, show (List.range (tl N t)).map (fun k => N' (91 + 96 * t + k)) = (List.range (tl N t)).map (fun k => N (91 + 96 * t + k)) from List.map_congr_left fun k hk' => h.c hm (by omega) (by have := gt.2.2.1; have := List.mem_range.mp hk'; omega)]
      exact gt
/-- a room whose texts stand as they stood -/
theorem RC.sm {r : Nat} (h : RC μ r N n m) (hc : ∀ a, (r ≤ a ∧ a < r + 8) → μ' a = μ a) (ht : ∀ t, t < m → μ' 2 t = μ 2 t ∧ μ' 3 t = μ 3 t ∧ μ' 4 t = μ 4 t ∧ μ' (6 + t) = μ (6 + t)) : RC μ' r N n m := by
  obtain ⟨h1, h2, h3, h4, h5⟩ := h
  refine ⟨by rw [hc r (by omega)]; exact h1, fun c hc' => by rw [hc (r + 6) (by omega)]; exact h2 c hc', fun s hs => ?_, fun k hk => by rw [hc (r + 7) (by omega)]; exact h4 k hk, fun t ht' => ?_⟩
  · unfold RS
    rw [hc (r + 1) (by omega), hc (r + 2) (by omega), hc (r + 3) (by omega), hc (r + 4) (by omega), hc (r + 5) (by omega)]
    exact h3 s hs
  · obtain ⟨e1, e2, e3, e4⟩ := ht t ht'
    unfold RLw
    rw [e1, e2, e3, e4]
    exact h5 t ht'
theorem kyN_c (h : ¬ τ.2.2 = 1) : ∀ j i, kyN B τ j i = none
  | 0, _ => rfl
  | j + 1, i => by
    unfold kyN
    rw [if_neg (show ¬ isK B i τ = true from fun q => h (decide_eq_true_iff.mp q).1), kyN_c h j (i + 1)]
theorem txR_n {F : Nat} (h : kyN B τ 3 0 = none) : txR F z B τ = (none, τ.1) := by unfold txR; rw [h]
theorem txR_f {F q : Nat} {τ' : Nat × Nat × Nat} (h : kyN B τ 3 0 = some q) (h2 : rd z B q F 0 0 0 (nxt z B τ) = (none, τ')) : txR F z B τ = (none, τ'.1) := by unfold txR; rw [h]; show (match (rd z B q F 0 0 0 (nxt z B τ)).1 with | none => _ | some cs => _) = _; rw [h2]
theorem txR_s {F q : Nat} {τ' : Nat × Nat × Nat} (h : kyN B τ 3 0 = some q) (h2 : rd z B q F 0 0 0 (nxt z B τ) = (some cs, τ')) (h3 : τ'.2.2 = 0) : txR F z B τ = (some (q, cs), τ'.1) := by unfold txR; rw [h]; show (match (rd z B q F 0 0 0 (nxt z B τ)).1 with | none => _ | some cs => _) = _; rw [h2]; exact if_pos h3
theorem txR_e {F q : Nat} {τ' : Nat × Nat × Nat} (h : kyN B τ 3 0 = some q) (h2 : rd z B q F 0 0 0 (nxt z B τ) = (some cs, τ')) (h3 : ¬ τ'.2.2 = 0) : txR F z B τ = (none, τ'.1) := by unfold txR; rw [h]; show (match (rd z B q F 0 0 0 (nxt z B τ)).1 with | none => _ | some cs => _) = _; rw [h2]; exact if_neg h3
/-- the class reads a text -/
theorem kX5_isText (hE : E.2.2.category = 1) (tb : TB μ z B) : ∃ μ', X5_isText E (d + 99) μ = some (some (.int (zb ((txR (d + 91) z B (nf z B 0, ns z B 0, nc z B 0 false)).1.isSome = true))), μ') ∧ FC (ab_up μ 46 5 (μ' 46 5)) μ' ∧ match (txR (d + 91) z B (nf z B 0, ns z B 0, nc z B 0 false)).1 with
    | none => μ' 46 2 = nI (txR (d + 91) z B (nf z B 0, ns z B 0, nc z B 0 false)).2
    | some (q, cs) => q < 3 ∧ CR μ' cs ∧ μ' 46 5 = nI q ∧ gdc (nb q) cs := by
  have hz := tb.1
  generalize hν : ab_up (ab_up (ab_up (ab_up μ 46 3 0) 46 4 0) 46 6 0) 46 7 0 = ν
  have fν : FC μ ν := by
    rw [← hν]
    refine ⟨fun a h1 _ => ?_, ?_, ?_⟩
    · rw [za_up_a h1, za_up_a h1, za_up_a h1, za_up_a h1]
    · rw [za_up_j (by decide), za_up_j (by decide), za_up_j (by decide), za_up_j (by decide)]
    · rw [za_up_j (by decide), za_up_j (by decide), za_up_j (by decide), za_up_j (by decide)]
  have tbν : TB ν z B := ⟨tb.1, tb.2.1, by rw [fν.2.1]; exact tb.2.2.1, fun k hk => by rw [fν.1 47 (by decide) (by decide)]; exact tb.2.2.2 k hk⟩
  have n3 : ν 46 3 = nI 0 := by rw [← hν, za_up_j (by decide), za_up_j (by decide), za_up_j (by decide), za_up_s]; rfl
  have n4 : ν 46 4 = nI 0 := by rw [← hν, za_up_j (by decide), za_up_j (by decide), za_up_s]; rfl
  have n6 : ν 46 6 = nI 0 := by rw [← hν, za_up_j (by decide), za_up_s]; rfl
  have n7 : ν 46 7 = nI 0 := by rw [← hν, za_up_s]; rfl
  obtain ⟨μ1, e1, e2, e3⟩ := kX5_pass' (E := E) (d := d + 96) tbν (Nat.zero_le z) (show 0 < 5 by decide) n3 n4
  rw [show isw 0 = false from rfl] at e2
  have w1 : WT z B (nf z B 0, ns z B 0, nc z B 0 false) := WT_n (Nat.zero_le z)
  have cr1 : CR μ1 [] := ⟨by decide, by rw [e3.2 7 (by decide) (by decide) (by decide)]; exact n7, fun i x hx => by simp at hx, by rw [e3.2 6 (by decide) (by decide) (by decide)]; exact n6⟩
  have key : ∀ ν', FC μ ν' → FC (ab_up μ 46 5 (ν' 46 5)) ν' := fun ν' f => ⟨fun a h1 h2 => by rw [za_up_a h1]; exact f.1 a h1 h2, by rw [za_up_j (by decide)]; exact f.2.1, by rw [za_up_s]⟩
  obtain ⟨k1, k2⟩ := kX5_readKey_l (E := E) (d := d + 91) hE e2 w1 3 0 (by omega)
  rw [X5_isText_q, hν, e1, ab_cV_s, X5_readKey_q, show (0 : Int32) = nI 0 from rfl]
  generalize (nf z B 0, ns z B 0, nc z B 0 false) = τ at *
  cases hq : kyN B τ 3 0 with
  | none =>
    rw [k1 hq, ab_cI_s, txR_n hq, if_pos (show (0 : Int32) = nI 0 from rfl)]
    exact ⟨μ1, rfl, key μ1 (fν.t e3.c), e2.2.1⟩
  | some q =>
    obtain ⟨q3, c1, μ2, f1, f2, f3, f4, f5⟩ := k2 q hq
    have cr2 : CR μ2 [] := ⟨by decide, by rw [f5.2 7 (by decide) (by decide) (by decide), za_up_j (by decide)]; exact cr1.2.1, fun i x hx => by simp at hx, by rw [f5.2 6 (by decide) (by decide) (by decide), za_up_j (by decide)]; exact cr1.2.2.2⟩
    have fr2 : FC (ab_up μ 46 5 (nI q)) μ2 := by
      refine ⟨fun a h1 h2 => ?_, ?_, ?_⟩
      · rw [f5.1 a h1, za_up_a h1, e3.1 a h1, fν.1 a h1 h2, za_up_a h1]
      · rw [f5.2 1 (by decide) (by decide) (by decide), za_up_j (by decide), e3.2 1 (by decide) (by decide) (by decide), fν.2.1, za_up_j (by decide)]
      · rw [f5.2 5 (by decide) (by decide) (by decide), za_up_s, za_up_s]
    obtain ⟨μ3, g1, g2, g3⟩ := cRd (E := E) (z := z) (B := B) q3 (d + 91) 0 0 0 (by omega) (by omega) (by omega) (by unfold ms; omega) (nxt z B τ) μ2 [] f2 f3 f4 cr2 (Nat.zero_le _)
    unfold cfR at g1
    rw [if_pos (by decide)] at g1
    have h5 : μ3 46 5 = nI q := by rw [g2.2.2]; exact f4
    have fr3 : FC (ab_up μ 46 5 (μ3 46 5)) μ3 := by rw [h5]; exact fr2.t g2
    have hw := fun cs τ' h => rdW (z := z) (B := B) q3 tb.2.1 (d + 91) 0 0 0 (nxt z B τ) cs τ' (by omega) f3 h
    rw [f1, ab_cI_s, if_neg (show ¬ (1 : Int32) = nI 0 by decide), show X5_readJoined E (d + 98) (nI 0) (nI 0) (nI 0) μ2 = _ from g1, ab_cI_s]
    generalize hr : rd z B q (d + 91) 0 0 0 (nxt z B τ) = r at g3 hw ⊢
    obtain ⟨r1, r2⟩ := r
    cases r1 with
    | none =>
      rw [txR_f hq hr, zb_f (show ¬ (none : Option (List Int32)).isSome = true by decide), if_pos (show (0 : Int32) = nI 0 from rfl)]
      exact ⟨μ3, rfl, fr3, g3.1⟩
    | some cs =>
      obtain ⟨t1, t2, t3, t4⟩ := g3
      have c5 := t2.c5
      rw [zb_t (show (some cs).isSome = true from rfl), if_neg (show ¬ (1 : Int32) = nI 0 by decide), t1.2.2.2]
      by_cases c0 : r2.2.2 = 0
      · rw [if_neg (show ¬ ¬ nI r2.2.2 = nI 0 from fun q => q (by rw [c0])), txR_s hq hr c0]
        exact ⟨μ3, rfl, fr3, q3, t3, h5, (hw cs r2 rfl).2⟩
      · have c5' : r2.2.2 < 5 := c5
        rw [if_pos (show ¬ nI r2.2.2 = nI 0 from fun q => c0 ((nI_eq (by omega) (by decide)).mp q)), txR_e hq hr c0]
        exact ⟨μ3, rfl, fr3, t1.2.1⟩
/-- the reference reads a text -/
theorem kX7_reads_t (sk : SK μ) (rb : RB μ z B) : match (txR (d + 91) z B (nf z B 0, ns z B 0, nc z B 0 false)).1 with
    | none => ∃ μ', X7_text E (d + 100) μ = some (some (.int (-100 - nI (txR (d + 91) z B (nf z B 0, ns z B 0, nc z B 0 false)).2)), ab_up μ' 76 6 0) ∧ FX (ab_up μ 76 12 (μ' 76 12)) μ'
    | some (q, cs) => ∃ μ', X7_text E (d + 100) μ = (if ¬ ((ab_up μ' 76 6 0) 77 6) = 14 then (if ab_in (63 + (2 * ((ab_up μ' 76 6 0) 77 6))) 1435 then (if ab_in ((63 + (2 * ((ab_up μ' 76 6 0) 77 6))) + 1) 1435 then X7_text_117 E (d + 100) (some (.int 1)) ((ab_up μ' 76 6 0) 77 6) 0 (ab_up (ab_up (ab_up μ' 76 6 0) 77 (63 + (2 * ((ab_up μ' 76 6 0) 77 6))).toNatClampNeg ((1000 * ((ab_up μ' 76 6 0) 76 12)) + ((ab_up μ' 76 6 0) 76 16))) 77 ((63 + (2 * ((ab_up μ' 76 6 0) 77 6))) + 1).toNatClampNeg ((ab_up (ab_up μ' 76 6 0) 77 (63 + (2 * ((ab_up μ' 76 6 0) 77 6))).toNatClampNeg ((1000 * ((ab_up μ' 76 6 0) 76 12)) + ((ab_up μ' 76 6 0) 76 16))) 76 17)) else none) else none) else some (some (.int (-1000000003)), (ab_up μ' 76 6 0))) ∧ FX (ab_up μ 76 12 (μ' 76 12)) μ' ∧ SX μ' [] cs ∧ μ' 76 12 = nI q ∧ μ' 76 17 = nI (lvs cs) := by
  have hz := rb.1
  have fν : FR μ (ab_up (ab_up μ 76 7 0) 76 11 (-1)) := FR.t (FR_u (by decide)) (FR_u (by decide))
  obtain ⟨μ1, e1, e2, e3⟩ := kX7_go' (E := E) (d := d + 98) (w := false) (Nat.zero_le z) (z - 0) 0 (ab_up (ab_up μ 76 7 0) 76 11 (-1)) (by omega) (Nat.le_refl _) rfl (rb.f fν) (by rw [za_up_j (by decide), za_up_s]; rfl) (fun q => absurd q (by decide)) (fun _ x _ hx => by rw [za_up_s]; exact fun q => absurd (nI_pos' (show x < 2 ^ 31 by omega)) (by rw [← q]; decide))
  have w1 : WT z B (nf z B 0, ns z B 0, nc z B 0 false) := WT_n (Nat.zero_le z)
  have fr1 : FR μ μ1 := fν.t e3
  have sk1 : SK μ1 := sk.f2 (fr1.1 82 (by decide)) (fr1.1 83 (by decide))
  have key : ∀ ν', FX μ ν' → FX (ab_up μ 76 12 (ν' 76 12)) ν' := fun ν' f => ⟨fun a h1 h2 h3 h4 => by rw [za_up_a h1]; exact f.1 a h1 h2 h3 h4, fun j h1 h2 h3 h4 => by
    by_cases hj : j = 12
    · rw [hj, za_up_s]
    · rw [za_up_j hj]; exact f.2 j h1 h2 h3 h4⟩
  have hY : X7_text E (d + 100) μ = _ := X7_text_q
  rw [e1, ab_cV_s, X7_takesKey_q] at hY
  generalize (nf z B 0, ns z B 0, nc z B 0 false) = τ at *
  rw [e2.2.2.2.1] at hY
  by_cases c1 : τ.2.2 = 1
  · rw [if_pos ((tok1 w1).mpr c1)] at hY
    obtain ⟨k1, k2⟩ := kX7_key_l (E := E) (d := d + 97) sk1 e2 w1 c1 3 0 none none none (by omega)
    cases hq : kyN B τ 3 0 with
    | none =>
      rw [show X7_takesKey_12 E (d + 99) 0 none none none μ1 = _ from k1 hq, ab_cI_s, if_pos rfl, if_neg (fun q => q rfl), za_up_j (by decide), e2.2.1] at hY
      rw [txR_n hq]
      exact ⟨μ1, hY, key μ1 fr1.x⟩
    | some q =>
      obtain ⟨q3, μ2, f1, f2, f3, f4⟩ := k2 q hq
      rw [show X7_takesKey_12 E (d + 99) 0 none none none μ1 = _ from f1, ab_cI_s, if_neg (by decide), X7_takesE_q] at hY
      have w2 : WT z B (nxt z B τ) := w1.n
      generalize hν : ab_up (ab_up (ab_up (ab_up μ2 76 16 0) 76 17 0) 76 19 0) 86 0 0 = ν at hY
      have ν81 : ν 81 = μ2 81 := by rw [← hν, za_up_a (by decide), za_up_a (by decide), za_up_a (by decide), za_up_a (by decide)]
      have ν76 : ∀ j, j ≠ 16 → j ≠ 17 → j ≠ 19 → ν 76 j = μ2 76 j := fun j h1 h2 h3 => by rw [← hν, za_up_a (by decide), za_up_j h3, za_up_j h2, za_up_j h1]
      have tν : TR ν z B (nxt z B τ) := f2.f ν81 (fun j h1 h2 => ν76 j (by omega) (by omega) (by omega))
      have rxν : RX ν z B q (nxt z B τ) [] [] := by
        refine ⟨tν, w2, ⟨?_, fun i x hx => by simp at hx, ?_, fun i x hx => by simp at hx⟩, ?_, by rw [ν76 12 (by decide) (by decide) (by decide)]; exact f3, Nat.zero_le _⟩
        · rw [← hν, za_up_a (by decide), za_up_s]; rfl
        · rw [← hν, za_up_a (by decide), za_up_j (by decide), za_up_j (by decide), za_up_s]; rfl
        · rw [← hν, za_up_a (by decide), za_up_j (by decide), za_up_s]; rfl
      have ν86 : ν 86 0 = 0 := by rw [← hν, za_up_s]
      have frν : FX (ab_up μ 76 12 (nI q)) ν := by
        refine ⟨fun a h1 h2 h3 h4 => ?_, fun j h1 h2 h3 h4 => ?_⟩
        · rw [← hν, za_up_a h4, za_up_a h1, za_up_a h1, za_up_a h1, f4.1 a h1, za_up_a h1, fr1.1 a h1, za_up_a h1]
        · rw [ν76 j h2 h3 h4, f4.2 j h1]
          by_cases hj : j = 12
          · rw [hj, za_up_s, za_up_s]
          · rw [za_up_j hj, za_up_j hj, fr1.2 j h1]
      have S := (sRd (E := E) (d := d + 96) (z := z) (B := B) q3 (d + 91) 0 0 (by omega) (by omega)).1 0 (by omega) (by unfold ms; omega) (nxt z B τ) ν [] [] none rxν trivial rfl (fun _ => ν86) (Or.inl ν86)
      generalize hr : rd z B q (d + 91) 0 0 0 (nxt z B τ) = r at S
      obtain ⟨r1, r2⟩ := r
      have k12 : ∀ ν', FX ν ν' → ν' 76 12 = nI q := fun ν' f => by rw [f.2 12 (by decide) (by decide) (by decide) (by decide), ν76 12 (by decide) (by decide) (by decide)]; exact f3
      cases r1 with
      | none =>
        obtain ⟨μ3, g1, g2, g3⟩ := S
        rw [show X7_takesE_28 E (d + 99) 0 0 1 none ν = _ from g1, ab_cI_s, if_pos rfl, if_neg (fun q => q rfl), za_up_j (by decide), g2] at hY
        rw [txR_f hq hr]
        exact ⟨μ3, hY, by rw [k12 μ3 g3]; exact frν.t g3⟩
      | some cs =>
        obtain ⟨μ3, o', P, C1, g1, g2, g3, g4, g5, g6, g7, g8, g9, g10⟩ := S
        by_cases c0 : r2.2.2 = 0
        · obtain ⟨μ4, h1, h2, h3⟩ := rS5 (E := E) (d := d + 96) (nt := 0) (o := o') (show 0 < 100 by decide) g3 (fun x hx => (g4 x hx).1.1) trivial c0
          rw [if_pos rfl] at h1
          rw [txR_s hq hr c0]
          rw [show X7_takesE_28 E (d + 99) 0 0 1 none ν = _ from g1.trans h1, ab_cI_s, if_neg (by decide), if_pos (by decide)] at hY
          have fx4 := g5.t h3.x
          refine ⟨μ4, hY, by rw [k12 μ4 fx4]; exact frν.t fx4, ?_, k12 μ4 fx4, ?_⟩
          · rw [g2]; exact h2
          · rw [h3.2 17 (by decide) (by decide), g2, lvs_a, lvs_z (fun x hx => (g4 x hx).2.1)]
            exact g3.2.2.2.1
        · have h1 := rS8 (E := E) (d := d + 96) (nt := 0) (o := o') (show 0 < 10 by decide) g3 c0 (fun q => absurd q.2 (by omega)) (fun l hl => g9 l (by omega) hl)
          rw [txR_e hq hr c0]
          rw [show X7_takesE_28 E (d + 99) 0 0 1 none ν = _ from g1.trans h1, ab_cI_s, if_pos rfl, if_neg (fun q => q rfl), za_up_j (by decide), g3.1.2.1] at hY
          exact ⟨μ3, hY, by rw [k12 μ3 g5]; exact frν.t g5⟩
  · rw [if_neg (fun q => c1 ((tok1 w1).mp q)), ab_cI_s, if_pos rfl, if_neg (fun q => q rfl), za_up_j (by decide), e2.2.1] at hY
    rw [txR_n (kyN_c c1 3 0)]
    exact ⟨μ1, hY, key μ1 fr1.x⟩
/-- its code is written down -/
theorem kX7_t117 {o : Option Value} (hm : m < 14) (hl : cs.length ≤ 96) : ∀ j k μ, k + j = cs.length → μ 76 16 = nI cs.length → (∀ i x, cs[i]? = some x → μ 84 i = x) → ∃ N', X7_text_117 E (d + 1) o (nI m) (nI k) μ = some (some (.int (nI m)), wN μ N') ∧ N' 6 = μ 77 6 + 1 ∧ (∀ i x, k ≤ i → cs[i]? = some x → N' (91 + 96 * m + i) = x) ∧ ∀ q, q ≠ 6 → (q < 91 + 96 * m + k ∨ 91 + 96 * m + cs.length ≤ q) → N' q = μ 77 q
  | 0, k, μ, e, h16, h84 => by
    rw [X7_text_117_q, h16, if_pos (nI_le (by omega) (by omega)), wN_up0 rfl]
    exact ⟨_, rfl, upd_s, fun i x h1 h2 => by have := (List.getElem?_eq_some_iff.mp h2).1; omega, fun q h1 _ => upd_n h1⟩
  | j + 1, k, μ, e, h16, h84 => by
    have hk : k < cs.length := by omega
    rw [X7_text_117_q, h16, if_neg (nI_ge (by omega) (by omega)), if_pos (za_in (show k < 96 by omega) (by decide)), show (91 : Int32) + 96 * nI m + nI k = nI (91 + 96 * m + k) by rw [show (96 : Int32) * nI m = nI (96 * m) from pk_mul 96 m, show (91 : Int32) + nI (96 * m) = nI (91 + 96 * m) from nI_add 91 _, nI_add], if_pos (za_in (show 91 + 96 * m + k < 1435 by omega) (by decide)), za_cl (by omega), za_cl (by omega), za_1, h84 k _ (List.getElem?_eq_getElem hk)]
    obtain ⟨N', q1, q2, q3, q4⟩ := kX7_t117 (o := o) hm hl j (k + 1) (ab_up μ 77 (91 + 96 * m + k) cs[k]) (by omega) (by rw [za_up_a (by decide)]; exact h16) (fun i x hx => by rw [za_up_a (by decide)]; exact h84 i x hx)
    refine ⟨N', ?_, by rw [q2, za_up_j (by omega)], fun i x h1 h2 => ?_, fun q h1 h2 => by rw [q4 q h1 (by omega), za_up_j (by omega)]⟩
    · rw [q1, wN_up0 rfl, wN_w]
    · by_cases ei : i = k
      · subst ei
        rw [q4 _ (by omega) (by omega), za_up_s]
        rw [List.getElem?_eq_getElem hk] at h2
        exact Option.some.inj h2
      · exact q3 i x (by omega) h2
end
