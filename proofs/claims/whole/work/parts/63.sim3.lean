/-! the reference reads: steps behind a part -/
theorem sg_l : ∀ b, b < 256 → ¬ sgnR b = 0 → ∃ l, l < 5 ∧ isL l b = true := by decide +kernel
theorem isL_41 : ∀ l, l < 5 → isL l 41 = false := by decide +kernel
section
variable {E : ab_E} {d : Nat} {μ μ' μ'' : ab_M} {z key : Nat} {B : Nat → Nat} {τ : Nat × Nat × Nat} {W C P : List Int32}
/-- at the end -/
theorem rS5 {op nt : Nat} {o : Option Value} (ho : op < 100) (rx : RX μ z B key τ (P ++ W) C) (hP : ∀ x, x ∈ P → ¬ x = -11) (hs : stp W 0) (h : τ.2.2 = 0) : ∃ μ', X7_takesE_28 E (d + 3) (nI op) (nI nt) 0 o μ = some (some (.int (if op = 0 then 1 else 0)), μ') ∧ SX μ' W (C ++ P) ∧ F1 μ μ' := by
  have hl := rx.l
  obtain ⟨t, w, sx, -⟩ := rx
  obtain ⟨μ', q1, q2, q3⟩ := kX7_settle (E := E) (d := d + 1) (least := 0) (by omega) P μ C (fun x hx => ⟨hP x hx, by omega⟩) hs sx hl
  refine ⟨μ', ?_, q2, q3⟩
  rw [X7_takesE_28_q, if_neg (fun q => q rfl), t.2.2.2.1, if_pos ((tok0 w).mpr h), show (0 : Int32) = nI 0 from rfl, q1, ab_cV_s]
  by_cases c : op = 0
  · rw [if_neg (show ¬ ¬ nI op = nI 0 from fun q => q (by rw [c])), if_pos c]
  · rw [if_pos (show ¬ nI op = nI 0 from fun q => c ((nI_eq (by omega) (by decide)).mp q)), if_neg c]
/-- a closing -/
theorem rS6 {op nt k : Nat} {o : Option Value} (ho : op < 100) (rx : RX μ z B key τ (P ++ -11 :: (List.replicate k (-10) ++ W)) C) (hP : ∀ x, x ∈ P → ¬ x = -11 ∧ ¬ 0 ≤ x) (hs : stp W 6) (h : isS B 41 τ) : ∃ μ', X7_takesE_28 E (d + 3) (nI (op + 1)) (nI nt) 0 o μ = X7_takesE_28 E (d + 3) (nI op) (nI (cnt W)) 0 o μ' ∧ RX μ' z B key (nxt z B τ) W (C ++ P ++ List.replicate k (-10)) ∧ FX μ μ' ∧ μ' 86 = μ 86 ∧ τ.1 + 1 ≤ (nxt z B τ).1 := by
  have hl := rx.l
  obtain ⟨t, w, sx, hv, hk, hl2⟩ := rx
  have n3 : ¬ ¬ nI (tok τ) = (3 : Int32) := fun q => q ((tok3 w).mpr h.1)
  have hlt := w.lt (by rw [h.1]; decide)
  have hz := t.1.1
  have hl3 : P.length + (k + W.length + 1) + C.length ≤ τ.1 := by simpa using hl2
  obtain ⟨μ1, q1, ⟨s1, s2, s3, s4⟩, q3⟩ := kX7_settle (E := E) (d := d + 1) (least := 0) (by omega) P μ C (fun x hx => ⟨(hP x hx).1, by omega⟩) (show stp (-11 :: (List.replicate k (-10) ++ W)) 0 from Or.inl rfl) sx hl
  have sx1 : SX (ab_up μ1 76 19 (nI (List.replicate k (-10) ++ W).length)) (List.replicate k (-10) ++ W) (C ++ P) := ⟨za_up_s, stR_f (stR_p s2) (za_up_a (by decide)), by rw [za_up_j (by decide)]; exact s3, fun i x hx => by rw [za_up_a (by decide)]; exact s4 i x hx⟩
  obtain ⟨μ2, r1, r2, r3⟩ := kX7_settle (E := E) (d := d + 1) (least := 6) (by omega) (List.replicate k (-10)) _ (C ++ P) (fun y hy => by rw [rep_m hy]; decide) hs sx1 (by simp; omega)
  have e76 : ∀ j, j ≠ 16 → j ≠ 19 → μ2 76 j = μ 76 j := fun j h1 h2 => by rw [r3.2 j h1 h2, za_up_j h2, q3.2 j h1 h2]
  have ea : ∀ a, a ≠ 76 → a ≠ 84 → μ2 a = μ a := fun a h1 h2 => by rw [r3.1 a h1 h2, za_up_a h1, q3.1 a h1 h2]
  have t2 : TR μ2 z B τ := t.f (ea 81 (by decide) (by decide)) (fun j h1 h2 => e76 j (by omega) (by omega))
  have hlv : lvs (C ++ P ++ List.replicate k (-10)) = lvs C := by rw [lvs_a, lvs_z (P := List.replicate k (-10)) (fun y hy => by rw [rep_m hy]; decide), lvs_a, lvs_z (fun y hy => (hP y hy).2)]; rfl
  obtain ⟨μ3, g1, g2, g3, g4⟩ := RX.go (E := E) (d := d + 1) (key := key) t2 w (by rw [h.1]; decide) r2 (by rw [e76 17 (by decide) (by decide), hlv]; exact hv) (by rw [e76 12 (by decide) (by decide)]; exact hk) (by simp; omega)
  refine ⟨μ3, ?_, g2, FX.t ⟨fun a h1 h2 _ _ => ea a h1 h2, fun j _ h1 _ h2 => e76 j h1 h2⟩ g3.x, by rw [g3.1 86 (by decide), ea 86 (by decide) (by decide)], g4⟩
  have e19 : nI (-11 :: (List.replicate k (-10) ++ W)).length - 1 = nI (List.replicate k (-10) ++ W).length := za_s1 (n := (List.replicate k (-10) ++ W).length + 1) (by omega)
  rw [X7_takesE_28_q, if_neg (fun q => q rfl), t.2.2.2.1, if_neg (fun q => by have := (tok0 w).mp q; rw [h.1] at this; exact absurd this (by decide)), if_pos rfl, if_neg n3, t.2.2.2.2.1 (Or.inr h.1), h.2, if_neg (fun q => q rfl), if_neg (show ¬ nI (op + 1) ≤ (0 : Int32) from nI_ge (a := 0) (by omega) (by omega)), show X7_settle E (d + 2) 0 μ = _ from q1, ab_cV_s, s1, e19, show X7_settle E (d + 2) 6 _ = _ from r1, ab_cV_s, kX7_nots (by omega) r2.1 r2.2.1, ab_cI_s, g1, ab_cV_s, za_m1 (by omega), Nat.add_sub_cancel]
/-- a sign's end: what is over it is settled, it is laid -/
theorem kX7_sc {op r : Nat} {x v : Int32} {K : ab_M → Option (Option Value × ab_M)} (hr : r < 10) (rx : RX μ z B key τ (P ++ W) C) (hP : ∀ x, x ∈ P → (¬ x = -11 ∧ r ≤ rkN x) ∧ ¬ 0 ≤ x) (hs : stp W r) (h : τ.2.2 = 3) : ∃ μ', ab_cV (X7_settle E (d + 2) (nI r) (ab_up μ 86 op v)) (fun μ17 => (if ab_in (μ17 76 19) 96 then (ab_cV (X7_go E (d + 2) (ab_up (ab_up μ17 85 (μ17 76 19).toNatClampNeg x) 76 19 (((ab_up μ17 85 (μ17 76 19).toNatClampNeg x) 76 19) + 1))) K) else none)) = K μ' ∧ RX μ' z B key (nxt z B τ) (x :: W) (C ++ P) ∧ FX μ μ' ∧ μ' 86 = upd (μ 86) op v ∧ τ.1 + 1 ≤ (nxt z B τ).1 := by
  have hl := rx.l
  obtain ⟨t, w, sx, hv, hk, hl2⟩ := rx
  have hl3 : P.length + W.length + C.length ≤ τ.1 := by simpa using hl2
  have sx0 : SX (ab_up μ 86 op v) (P ++ W) C := ⟨by rw [za_up_a (by decide)]; exact sx.1, stR_f sx.2.1 (za_up_a (by decide)), by rw [za_up_a (by decide)]; exact sx.2.2.1, fun i y hy => by rw [za_up_a (by decide)]; exact sx.2.2.2 i y hy⟩
  obtain ⟨μ1, q1, q2, q3⟩ := kX7_settle (E := E) (d := d + 1) (least := r) hr P (ab_up μ 86 op v) C (fun y hy => (hP y hy).1) hs sx0 hl
  have e76 : ∀ j, j ≠ 16 → j ≠ 19 → μ1 76 j = μ 76 j := fun j h1 h2 => by rw [q3.2 j h1 h2, za_up_a (by decide)]
  have t1 : TR μ1 z B τ := t.f (by rw [q3.1 81 (by decide) (by decide), za_up_a (by decide)]) (fun j h1 h2 => e76 j (by omega) (by omega))
  have hlv : lvs (C ++ P) = lvs C := by rw [lvs_a, lvs_z (fun y hy => (hP y hy).2)]; rfl
  obtain ⟨i1, μ2, g1, g2, g3, g4, g5⟩ := kX7_pu (E := E) (d := d + 1) (x := x) (i := 0) (v := 0) (b := false) (K := K) (key := key) t1 w h q2 (by rw [e76 17 (by decide) (by decide), hlv]; exact hv) (by rw [e76 12 (by decide) (by decide)]; exact hk) (by simp; omega)
  rw [if_neg (by decide)] at g1 g4
  refine ⟨μ2, ?_, g2, FX.t ⟨fun a h1 h2 h3 h4 => by rw [q3.1 a h1 h2, za_up_a h4], fun j _ h1 _ h2 => e76 j h1 h2⟩ g3, ?_, g5⟩
  · rw [q1, ab_cV_s, if_pos i1]; exact g1
  · rw [g4, q3.1 86 (by decide) (by decide)]
    show (if 86 = 86 then upd (μ 86) op v else _) = _
    rw [if_pos rfl]
/-- a sign -/
theorem rS7 {op nt l : Nat} {o : Option Value} (ho : op < 10) (hl : l < 5) (rx : RX μ z B key τ (P ++ W) C) (hP : ∀ x, x ∈ P → (¬ x = -11 ∧ l + 1 ≤ rkN x) ∧ ¬ 0 ≤ x) (hs : stp W (l + 1)) (h : τ.2.2 = 3 ∧ isL l (B τ.1) = true) (h2 : l = 2 → μ 86 op = 0) (h01 : μ 86 op = 0 ∨ μ 86 op = 1) : ∃ μ' o', X7_takesE_28 E (d + 3) (nI op) (nI nt) 0 o μ = X7_takesE_28 E (d + 3) (nI op) (nI nt) 1 o' μ' ∧ RX μ' z B key (nxt z B τ) (sgnR (B τ.1) :: W) (C ++ P) ∧ FX μ μ' ∧ μ' 86 = upd (μ 86) op (if l = 2 then 1 else if l < 2 then 0 else μ 86 op) ∧ τ.1 + 1 ≤ (nxt z B τ).1 := by
  have rx' := rx
  obtain ⟨t, w, sx, hv, hk, hl2⟩ := rx'
  have hlt := w.lt (by rw [h.1]; decide)
  have hb := t.1.2.1 _ hlt
  obtain ⟨s1, s2, s3, s4⟩ := en_L l hl _ hb h.2
  have n3 : ¬ ¬ nI (tok τ) = (3 : Int32) := fun q => q ((tok3 w).mpr h.1)
  have n41 : ¬ nI (B τ.1) = (41 : Int32) := fun q => by
    have : B τ.1 = 41 := (nI_eq (b := 41) (by omega) (by decide)).mp q
    rw [this, isL_41 l hl] at h; exact absurd h.2 (by decide)
  have ns : ¬ sgnR (B τ.1) = 0 := fun q => by rw [q] at s2; exact s2 (by decide)
  have i10 := za_in (show op < 10 from ho) (show 10 < 2 ^ 31 by decide)
  obtain ⟨μ', g1, g2⟩ := kX7_sc (E := E) (d := d) (op := op) (r := l + 1) (x := sgnR (B τ.1)) (v := if l = 2 then 1 else if l < 2 then 0 else μ 86 op) (K := fun μ20 => X7_takesE_28 E (d + 3) (nI op) (nI nt) 1 (some (.int (sgnR (B τ.1)))) μ20) (by omega) rx hP hs h.1
  refine ⟨μ', some (.int (sgnR (B τ.1))), ?_, g2⟩
  rw [X7_takesE_28_q, if_neg (fun q => q rfl), t.2.2.2.1, if_neg (fun q => by have := (tok0 w).mp q; rw [h.1] at this; exact absurd this (by decide)), if_pos rfl, if_neg n3, t.2.2.2.2.1 (Or.inr h.1), if_pos n41, kX7_sign t w, ab_cI_s, if_pos h.1, if_neg ns, kX7_rank, ab_cI_s, s4]
  simp only [kX7_rank, ab_cI_s, s4, za_cl (show op < 2 ^ 31 by omega)]
  by_cases l2 : l = 2
  · subst l2
    rw [if_neg (show ¬ ¬ nI (2 + 1) = (3 : Int32) from fun q => q rfl), if_pos i10, if_pos (h2 rfl), if_pos (show nI (2 + 1) = (3 : Int32) from rfl), if_pos i10]
    exact g1
  · have q3 : ¬ nI (l + 1) = (3 : Int32) := fun q => by have := (nI_eq (b := 3) (by omega) (by decide)).mp q; omega
    rw [if_neg l2] at g1
    rw [if_pos q3, if_neg q3]
    by_cases ll : l < 2
    · rw [if_pos ll] at g1
      rw [if_pos (show nI (l + 1) ≤ (3 : Int32) from nI_le (b := 3) (by omega) (by decide)), if_pos i10]
      exact g1
    · rw [if_neg ll] at g1
      rw [if_neg (show ¬ nI (l + 1) ≤ (3 : Int32) from nI_ge (a := 3) (by omega) (by omega)), if_pos i10]
      rcases h01 with h0 | h0
      · rw [if_pos h0, if_pos i10]
        rw [h0] at g1
        exact g1
      · rw [if_neg (by rw [h0]; decide), if_pos i10]
        rw [h0] at g1
        exact g1
/-- nothing that may stand here -/
theorem rS8 {op nt : Nat} {o : Option Value} (ho : op < 10) (rx : RX μ z B key τ W C) (h0 : ¬ τ.2.2 = 0) (h41 : ¬ (isS B 41 τ ∧ 0 < op)) (hp : ∀ l, l < 5 → sgo B l τ = none ∨ (l = 2 ∧ ¬ μ 86 op = 0)) : X7_takesE_28 E (d + 3) (nI op) (nI nt) 0 o μ = some (some (.int 0), μ) := by
  obtain ⟨t, w, sx, hv, hk, hl2⟩ := rx
  have hlt := w.lt h0
  have hb := t.1.2.1 _ hlt
  have i10 := za_in (show op < 10 from ho) (show 10 < 2 ^ 31 by decide)
  rw [X7_takesE_28_q, if_neg (fun q => q rfl), t.2.2.2.1, if_neg (fun q => h0 ((tok0 w).mp q)), if_pos rfl]
  by_cases c3 : τ.2.2 = 3
  · have n3 : ¬ ¬ nI (tok τ) = (3 : Int32) := fun q => q ((tok3 w).mpr c3)
    rw [if_neg n3, t.2.2.2.2.1 (Or.inr c3)]
    by_cases c41 : B τ.1 = 41
    · have hop : op = 0 := Nat.eq_zero_of_not_pos fun q => h41 ⟨⟨c3, c41⟩, q⟩
      rw [if_neg (show ¬ ¬ nI (B τ.1) = (41 : Int32) from fun q => q (by rw [c41]; rfl)), if_pos (show nI op ≤ (0 : Int32) by rw [hop]; decide), kX7_sign t w, ab_cI_s, if_pos c3, if_pos (by rw [c41]; decide)]
    · rw [if_pos (show ¬ nI (B τ.1) = (41 : Int32) from fun q => c41 ((nI_eq (b := 41) (by omega) (by decide)).mp q)), kX7_sign t w, ab_cI_s, if_pos c3]
      by_cases cs : sgnR (B τ.1) = 0
      · rw [if_pos cs]
      · obtain ⟨l, hl, hL⟩ := sg_l _ hb cs
        rcases hp l hl with hn | ⟨l2, ht⟩
        · rw [show sgo B l τ = some (sgnR (B τ.1)) from if_pos ⟨c3, hL⟩] at hn; exact nomatch hn
        · subst l2
          obtain ⟨-, -, -, s4⟩ := en_L 2 hl _ hb hL
          rw [if_neg cs, kX7_rank, ab_cI_s, s4, if_neg (show ¬ ¬ nI (2 + 1) = (3 : Int32) from fun q => q rfl), if_pos i10]
          simp only [za_cl (show op < 2 ^ 31 by omega)]
          rw [if_neg ht]
  · rw [if_pos (fun q => c3 ((tok3 w).mp q)), kX7_sign t w, ab_cI_s, if_neg c3, if_pos rfl]
end
