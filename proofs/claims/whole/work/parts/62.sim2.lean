/-! the reference reads: its steps -/
def pt (key : Nat) (B : Nat → Nat) (τ : Nat × Nat × Nat) : Option Int32 := if τ.2.2 = 2 then (if τ.2.1 - τ.1 ≤ 4 then some (nI (num B τ.1 τ.2.1)) else none) else if τ.2.2 = 1 then (if τ.2.1 - τ.1 = 1 then (nmI key (B τ.1)).map (fun q => nI (10000 + q)) else none) else none
section
variable {E : ab_E} {d : Nat} {μ μ' μ'' : ab_M} {z key : Nat} {B : Nat → Nat} {τ : Nat × Nat × Nat} {W C : List Int32}
theorem kX7_name {b : Nat} (hk : key < 3) (hkey : μ 76 12 = nI key) (hb : b < 256) : X7_nameOf E d (nI b) μ = some (some (.int (match nmI key b with | some q => nI q | none => -1)), μ) := by
  have e : ∀ n, n < 256 → ((nI b = nI n) ↔ b = n) := fun n hn => nI_eq (by omega) (by omega)
  have k : ∀ (n : Nat) (x : Nat) (f : Option (Option Value × ab_M)) (y : Option Nat), n < 256 → (f = some (some (.int (match y with | some q => nI q | none => -1)), μ)) → (if ¬ nI b = nI n then f else some (some (Value.int (nI x)), μ)) = some (some (.int (match (if b = n then some x else y) with | some q => nI q | none => -1)), μ) := by
    intro n x f y hn hf
    by_cases c : b = n
    · rw [if_neg (fun q => q ((e n hn).mpr c)), if_pos c]
    · rw [if_pos (fun q => c ((e n hn).mp q)), if_neg c, hf]
  rw [X7_nameOf_q, hkey]
  unfold nmI
  rcases (show key = 0 ∨ key = 1 ∨ key = 2 by omega) with rfl | rfl | rfl
  · rw [if_pos (show nI 0 = (0 : Int32) from rfl), if_pos rfl]
    exact k 119 0 _ _ (by decide) (k 100 1 _ _ (by decide) (k 104 2 _ _ (by decide) (k 110 3 _ none (by decide) rfl)))
  · rw [if_neg (show ¬ nI 1 = (0 : Int32) by decide), if_pos (show nI 1 = (1 : Int32) from rfl), if_neg (show ¬ (1 : Nat) = 0 by decide), if_pos (show (1 : Nat) = 1 from rfl)]
    exact k 100 0 _ _ (by decide) (k 102 1 _ none (by decide) rfl)
  · rw [if_neg (show ¬ nI 2 = (0 : Int32) by decide), if_neg (show ¬ nI 2 = (1 : Int32) by decide), if_neg (show ¬ (2 : Nat) = 0 by decide), if_neg (show ¬ (2 : Nat) = 1 by decide)]
    exact k 119 0 _ _ (by decide) (k 100 1 _ none (by decide) rfl)
theorem nmI_4 {b q : Nat} (h : nmI key b = some q) : q < 4 ∧ (¬ key = 0 → q < 2) := by
  unfold nmI at h
  repeat' split at h
  all_goals first | (cases h; done) | (cases h; exact ⟨by omega, fun _ => by omega⟩) | (cases h; exact ⟨by omega, fun q => absurd (by assumption) q⟩)
theorem kX7_part0 (hk : key < 3) (rx : RX μ z B key τ W C) (h : pt key B τ = none) : X7_takesPart E (d + 2) μ = some (some (.int 0), μ) := by
  obtain ⟨t, w, -, -, hkey, -⟩ := rx
  have c5 := w.c5
  rw [X7_takesPart_q, t.2.2.2.1]
  unfold pt at h
  by_cases c1 : τ.2.2 = 1
  · have hlt := w.lt (by omega)
    have hw2 := w.2.2.1 hlt
    have hw3 := w.2.1
    have hz := t.1.1
    have e1 := (tok1 w).mpr c1
    rw [if_neg (by omega), if_pos c1] at h
    rw [e1, if_neg (fun q => q rfl), t.2.1, t.2.2.1, za_sub (by omega)]
    by_cases cl : τ.2.1 - τ.1 = 1
    · rw [if_pos cl] at h
      have hn : nmI key (B τ.1) = none := by
        cases hq : nmI key (B τ.1) with
        | none => rfl
        | some q => rw [hq] at h; exact nomatch h
      rw [if_neg (show ¬ ¬ nI (τ.2.1 - τ.1) = (1 : Int32) from fun q => q (by rw [cl]; rfl)), t.2.2.2.2.1 (Or.inl c1), kX7_name hk hkey (t.1.2.1 _ hlt), ab_cI_s, hn, if_pos (by decide), t.2.2.2.1, e1, if_neg (by decide), if_neg (fun q => q rfl)]
    · rw [if_pos (show ¬ nI (τ.2.1 - τ.1) = (1 : Int32) from fun q => cl ((nI_eq (b := 1) (by omega) (by decide)).mp q)), if_neg (by decide), if_neg (fun q => q rfl)]
  · have n2 : ¬ nI (tok τ) = (2 : Int32) := by
      unfold tok
      by_cases c : τ.2.2 = 2 ∧ ¬ τ.2.1 - τ.1 ≤ 4
      · rw [if_pos c]; decide
      · rw [if_neg c]
        intro q
        have c2 : τ.2.2 = 2 := (nI_eq (b := 2) (by omega) (by decide)).mp q
        rw [if_pos c2] at h
        by_cases c4 : τ.2.1 - τ.1 ≤ 4
        · rw [if_pos c4] at h; exact nomatch h
        · exact c ⟨c2, c4⟩
    rw [if_pos (fun q => c1 ((tok1 w).mp q)), if_neg n2, if_neg (fun q => q rfl)]
theorem pt_p {x : Int32} (rx : RX μ z B key τ W C) (h : pt key B τ = some x) : (τ.2.2 = 1 ∨ τ.2.2 = 2) ∧ 0 ≤ x := by
  obtain ⟨t, w, -⟩ := rx
  unfold pt at h
  by_cases c2 : τ.2.2 = 2
  · rw [if_pos c2] at h
    have s2 : srt z B τ.1 = 2 := by rcases w.2.2.2.1 with e | ⟨e, -⟩ <;> omega
    have hall := w.2.2.2.2 (by rw [s2]; rfl)
    rw [s2] at hall
    have hnum := num_lt (B := B) (f := τ.1) (k := τ.2.1) (fun t h1 h2 => (fig_b (hall t h1 h2)).2.1)
    by_cases c4 : τ.2.1 - τ.1 ≤ 4
    · rw [if_pos c4] at h; cases h; exact ⟨Or.inr c2, nI_pos' (by omega)⟩
    · rw [if_neg c4] at h; exact nomatch h
  · rw [if_neg c2] at h
    by_cases c1 : τ.2.2 = 1
    · rw [if_pos c1] at h
      by_cases cl : τ.2.1 - τ.1 = 1
      · rw [if_pos cl] at h
        cases hq : nmI key (B τ.1) with
        | none => rw [hq] at h; exact nomatch h
        | some q =>
          rw [hq] at h; cases h
          have := (nmI_4 hq).1
          exact ⟨Or.inl c1, nI_pos' (by omega)⟩
      · rw [if_neg cl] at h; exact nomatch h
    · rw [if_neg c1] at h; exact nomatch h
theorem kX7_part1 {k : Nat} {x : Int32} (hk : key < 3) (rx : RX μ z B key τ (List.replicate k (-10) ++ W) C) (hs : stp W 6) (h : pt key B τ = some x) : ∃ μ', X7_takesPart E (d + 2) μ = some (some (.int 1), μ') ∧ RX μ' z B key (nxt z B τ) W (C ++ [x] ++ List.replicate k (-10)) ∧ FX μ μ' ∧ μ' 86 = μ 86 ∧ τ.1 + 1 ≤ (nxt z B τ).1 := by
  obtain ⟨hc, hx⟩ := pt_p rx h
  obtain ⟨μ', q1, q2⟩ := kX7_pt (E := E) (d := d) (x := x) rx hs hc hx
  refine ⟨μ', ?_, q2⟩
  obtain ⟨t, w, -, -, hkey, -⟩ := rx
  have c5 := w.c5
  rw [X7_takesPart_q, t.2.2.2.1]
  unfold pt at h
  rcases hc with c1 | c2
  · have hlt := w.lt (by omega)
    have hw2 := w.2.2.1 hlt
    have hw3 := w.2.1
    have hz := t.1.1
    have e1 := (tok1 w).mpr c1
    rw [if_neg (by omega), if_pos c1] at h
    by_cases cl : τ.2.1 - τ.1 = 1
    · rw [if_pos cl] at h
      cases hq : nmI key (B τ.1) with
      | none => rw [hq] at h; exact nomatch h
      | some q =>
        rw [hq] at h
        have hx' : nI (10000 + q) = x := by cases h; rfl
        have q4 := (nmI_4 hq).1
        rw [e1, if_neg (fun q => q rfl), t.2.1, t.2.2.1, za_sub (by omega), if_neg (show ¬ ¬ nI (τ.2.1 - τ.1) = (1 : Int32) from fun q => q (by rw [cl]; rfl)), t.2.2.2.2.1 (Or.inl c1), kX7_name hk hkey (t.1.2.1 _ hlt), ab_cI_s, hq]
        have n0 : ¬ nI q < (0 : Int32) := za_lt.mpr (nI_pos' (by omega))
        rw [if_neg n0, t.2.2.2.1, e1, if_neg (by decide), if_pos (by decide), if_pos (by decide), t.2.2.2.2.1 (Or.inl c1), kX7_name hk hkey (t.1.2.1 _ hlt), ab_cI_s, hq, show (10000 : Int32) + nI q = x from (nI_add 10000 q).trans hx']
        exact q1
    · rw [if_neg cl] at h; exact nomatch h
  · rw [if_pos c2] at h
    by_cases c4 : τ.2.1 - τ.1 ≤ 4
    · rw [if_pos c4] at h
      have e2 : nI (tok τ) = (2 : Int32) := by unfold tok; rw [if_neg (fun q => q.2 c4), c2]; rfl
      have hx' : nI (num B τ.1 τ.2.1) = x := by cases h; rfl
      rw [e2, if_pos (by decide), if_pos rfl, if_neg (fun q => q rfl), t.2.2.2.2.2.1 c2, hx']
      exact q1
    · rw [if_neg c4] at h; exact nomatch h
/-- a sign is laid on the stack, and passed -/
theorem kX7_pu {x : Int32} {i : Nat} {v : Int32} {b : Bool} {K : ab_M → Option (Option Value × ab_M)} (t : TR μ z B τ) (w : WT z B τ) (hc : τ.2.2 = 3) (sx : SX μ W C) (hv : μ 76 17 = nI (lvs C)) (hk : μ 76 12 = nI key) (hl : W.length + C.length ≤ τ.1) : ab_in (μ 76 19) 96 ∧ ∃ μ', ab_cV (X7_go E (d + 1) (if b = true then ab_up (ab_up (ab_up μ 85 (μ 76 19).toNatClampNeg x) 76 19 (((ab_up μ 85 (μ 76 19).toNatClampNeg x) 76 19) + 1)) 86 i v else ab_up (ab_up μ 85 (μ 76 19).toNatClampNeg x) 76 19 (((ab_up μ 85 (μ 76 19).toNatClampNeg x) 76 19) + 1))) K = K μ' ∧ RX μ' z B key (nxt z B τ) (x :: W) C ∧ FX μ μ' ∧ μ' 86 = (if b = true then upd (μ 86) i v else μ 86) ∧ τ.1 + 1 ≤ (nxt z B τ).1 := by
  obtain ⟨s1, s2, s3, s4⟩ := sx
  have hlt := w.lt (by omega)
  have hz := t.1.1
  refine ⟨by rw [s1]; exact za_in (by omega) (by decide), ?_⟩
  rw [za_up_a (show (76 : Nat) ≠ 85 by decide), s1, za_cl (by omega), za_1]
  have key : ∀ ν : ab_M, ν 86 = (if b = true then upd (μ 86) i v else μ 86) → (∀ a, a ≠ 86 → ν a = ab_up (ab_up μ 85 W.length x) 76 19 (nI (W.length + 1)) a) → ∃ μ', ab_cV (X7_go E (d + 1) ν) K = K μ' ∧ RX μ' z B key (nxt z B τ) (x :: W) C ∧ FX μ μ' ∧ μ' 86 = (if b = true then upd (μ 86) i v else μ 86) ∧ τ.1 + 1 ≤ (nxt z B τ).1 := by
    intro ν h86 hν
    have t1 : TR ν z B τ := t.f (by rw [hν 81 (by decide), za_up_a (by decide), za_up_a (by decide)]) (fun j h1 h2 => by rw [hν 76 (by decide), za_up_j (by omega), za_up_a (by decide)])
    have sx1 : SX ν (x :: W) C := by
      refine ⟨by rw [hν 76 (by decide), za_up_s]; simp, ?_, by rw [hν 76 (by decide), za_up_j (by decide), za_up_a (by decide)]; exact s3, fun j y hy => by rw [hν 84 (by decide), za_up_a (by decide), za_up_a (by decide)]; exact s4 j y hy⟩
      exact stR_f (stR_push s2) (by rw [hν 85 (by decide), za_up_a (by decide)])
    obtain ⟨μ2, r1, r2, r3, r4⟩ := RX.go (E := E) (d := d) (key := key) t1 w (by omega) sx1 (by rw [hν 76 (by decide), za_up_j (by decide), za_up_a (by decide)]; exact hv) (by rw [hν 76 (by decide), za_up_j (by decide), za_up_a (by decide)]; exact hk) (by show W.length + 1 + C.length ≤ _; omega)
    refine ⟨μ2, by rw [r1, ab_cV_s], r2, FX.t ⟨fun a h1 h2 h3 h4 => ?_, fun j h1 h2 h3 h4 => ?_⟩ r3.x, by rw [r3.1 86 (by decide)]; exact h86, r4⟩
    · rw [hν a h4, za_up_a h1, za_up_a h3]
    · rw [hν 76 (by decide), za_up_j h4, za_up_a (by decide)]
  cases b with
  | false =>
    rw [if_neg (by decide), if_neg (by decide)]
    rw [if_neg (by decide)] at key
    exact key _ (by rw [za_up_a (by decide), za_up_a (by decide)]) (fun a _ => rfl)
  | true =>
    rw [if_pos rfl, if_pos rfl]
    rw [if_pos rfl] at key
    exact key _ (by show (if 86 = 86 then upd (ab_up (ab_up μ 85 W.length x) 76 19 (nI (W.length + 1)) 86) i v else _) = _; rw [if_pos rfl, za_up_a (by decide), za_up_a (by decide)]) (fun a ha => za_up_a ha)
/-- a not -/
theorem rS1 {op nt : Nat} {o : Option Value} (rx : RX μ z B key τ W C) (h : isS B 33 τ ∧ nt < 8) : ∃ μ', X7_takesE_28 E (d + 3) (nI op) (nI nt) 1 o μ = X7_takesE_28 E (d + 3) (nI op) (nI (cnt (-10 :: W))) 1 o μ' ∧ RX μ' z B key (nxt z B τ) (-10 :: W) C ∧ FX μ μ' ∧ μ' 86 = μ 86 ∧ τ.1 + 1 ≤ (nxt z B τ).1 := by
  obtain ⟨t, w, sx, hv, hk, hl⟩ := rx
  obtain ⟨i1, μ', q1, q2, q3, q4, q5⟩ := kX7_pu (E := E) (d := d + 1) (x := -10) (i := 0) (v := 0) (b := false) (K := fun μ355 => ab_cI (X7_notsOpen E (d + 2) μ355) (fun x356 μ357 => X7_takesE_28 E (d + 3) (nI op) x356 1 o μ357)) t w h.1.1 sx hv hk hl
  rw [if_neg (by decide)] at q1 q4
  refine ⟨μ', ?_, q2, q3, q4, q5⟩
  rw [X7_takesE_28_q, if_pos (by decide), if_neg (by decide), t.2.2.2.1, t.2.2.2.2.1 (Or.inr h.1.1), h.1.2, if_neg (fun q => q ((tok3 w).mpr h.1.1)), if_neg (fun q => q rfl), if_neg (show ¬ (8 : Int32) ≤ nI nt from nI_ge (b := 8) h.2 (by decide)), if_pos i1]
  refine q1.trans ?_
  rw [kX7_nots (by have := q2.l; omega) q2.2.2.1.1 q2.2.2.1.2.1, ab_cI_s]
/-- an opening -/
theorem rS2 {op nt : Nat} {o : Option Value} (rx : RX μ z B key τ W C) (h : isS B 40 τ ∧ op < 8) : ∃ μ', X7_takesE_28 E (d + 3) (nI op) (nI nt) 1 o μ = X7_takesE_28 E (d + 3) (nI (op + 1)) (nI (cnt (-11 :: W))) 1 o μ' ∧ RX μ' z B key (nxt z B τ) (-11 :: W) C ∧ FX μ μ' ∧ μ' 86 = upd (μ 86) (op + 1) 0 ∧ τ.1 + 1 ≤ (nxt z B τ).1 := by
  obtain ⟨t, w, sx, hv, hk, hl⟩ := rx
  obtain ⟨i1, μ', q1, q2, q3, q4, q5⟩ := kX7_pu (E := E) (d := d + 1) (x := -11) (i := op + 1) (v := 0) (b := true) (K := fun μ355 => ab_cI (X7_notsOpen E (d + 2) μ355) (fun x356 μ357 => X7_takesE_28 E (d + 3) (nI (op + 1)) x356 1 o μ357)) t w h.1.1 sx hv hk hl
  rw [if_pos rfl] at q1 q4
  refine ⟨μ', ?_, q2, q3, q4, q5⟩
  have n3 : ¬ ¬ nI (tok τ) = (3 : Int32) := fun q => q ((tok3 w).mpr h.1.1)
  rw [X7_takesE_28_q, if_pos (by decide), if_neg (by decide), t.2.2.2.1, t.2.2.2.2.1 (Or.inr h.1.1), h.1.2, if_neg n3, if_pos (show ¬ nI 40 = (33 : Int32) by decide), if_neg n3, if_neg (fun q => q rfl), if_neg (show ¬ (8 : Int32) ≤ nI op from nI_ge (b := 8) h.2 (by decide)), if_pos i1, za_1, if_pos (za_in (show op + 1 < 10 by omega) (by decide)), za_cl (show op + 1 < 2 ^ 31 by omega)]
  refine Eq.trans ?_ (q1.trans ?_)
  · rfl
  · rw [kX7_nots (by have := q2.l; omega) q2.2.2.1.1 q2.2.2.1.2.1, ab_cI_s]
/-- a part, or nothing that may stand here -/
theorem rS3 {op nt : Nat} {o : Option Value} (ho : op < 100) (hn : nt < 100) (rx : RX μ z B key τ W C) (h1 : ¬ (isS B 33 τ ∧ nt < 8)) (h2 : ¬ (isS B 40 τ ∧ op < 8)) : X7_takesE_28 E (d + 3) (nI op) (nI nt) 1 o μ = ab_cI (X7_takesPart E (d + 2) μ) (fun x280 μ281 => (if x280 = 0 then some (some (.int 0), μ281) else (ab_cI (X7_notsOpen E (d + 2) μ281) (fun x283 μ284 => X7_takesE_28 E (d + 3) (nI op) x283 0 o μ284)))) := by
  obtain ⟨t, w, sx, hv, hk, hl⟩ := rx
  rw [X7_takesE_28_q, if_pos (by decide), if_neg (by decide), t.2.2.2.1]
  by_cases c3 : τ.2.2 = 3
  · have n3 : ¬ ¬ nI (tok τ) = (3 : Int32) := fun q => q ((tok3 w).mpr c3)
    have hb := t.1.2.1 _ (w.lt (by omega))
    rw [if_neg n3, if_neg n3, t.2.2.2.2.1 (Or.inr c3)]
    have tail : ∀ (X Y : Option (Option Value × ab_M)), (if ¬ nI (B τ.1) = (40 : Int32) then X else if (8 : Int32) ≤ nI op then X else Y) = X := by
      intro X Y
      by_cases c40 : B τ.1 = 40
      · rw [if_neg (show ¬ ¬ nI (B τ.1) = (40 : Int32) from fun q => q (by rw [c40]; rfl)), if_pos (show (8 : Int32) ≤ nI op from nI_le (a := 8) (Nat.le_of_not_lt fun q => h2 ⟨⟨c3, c40⟩, q⟩) (by omega))]
      · rw [if_pos (show ¬ nI (B τ.1) = (40 : Int32) from fun q => c40 ((nI_eq (b := 40) (by omega) (by decide)).mp q))]
    by_cases c33 : B τ.1 = 33
    · rw [if_neg (show ¬ ¬ nI (B τ.1) = (33 : Int32) from fun q => q (by rw [c33]; rfl)), if_pos (show (8 : Int32) ≤ nI nt from nI_le (a := 8) (Nat.le_of_not_lt fun q => h1 ⟨⟨c3, c33⟩, q⟩) (by omega))]
      exact tail _ _
    · rw [if_pos (show ¬ nI (B τ.1) = (33 : Int32) from fun q => c33 ((nI_eq (b := 33) (by omega) (by decide)).mp q))]
      exact tail _ _
  · have p3 : ¬ nI (tok τ) = (3 : Int32) := fun q => c3 ((tok3 w).mp q)
    rw [if_pos p3, if_pos p3]
end
