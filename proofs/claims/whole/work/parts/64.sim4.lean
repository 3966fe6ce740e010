/-! the reference reads as the class does -/
def PoR (X : Option (Option Value × ab_M)) (E : ab_E) (d z : Nat) (B : Nat → Nat) (key op nt l : Nat) (μ : ab_M) (τ : Nat × Nat × Nat) (W C : List Int32) (r : Option (List Int32) × (Nat × Nat × Nat)) : Prop := match r.1 with
  | none => ∃ μ', X = some (some (.int 0), μ') ∧ μ' 76 8 = nI r.2.1 ∧ FX μ μ'
  | some cs => ∃ μ' o' P C1, X = X7_takesE_28 E (d + 3) (nI op) (nI nt) 0 o' μ' ∧ cs = C1 ++ P ∧ RX μ' z B key r.2 (P ++ W) (C ++ C1) ∧ (∀ x, x ∈ P → (¬ x = -11 ∧ l + 1 ≤ rkN x) ∧ ¬ 0 ≤ x ∧ ¬ x = -10) ∧ FX μ μ' ∧ (∀ k, k < op → μ' 86 k = μ 86 k) ∧ (3 ≤ l → μ' 86 op = μ 86 op) ∧ (μ' 86 op = 0 ∨ μ' 86 op = 1) ∧ (∀ l', l ≤ l' → l' < 5 → sgo B l' r.2 = none ∨ (l' = 2 ∧ ¬ μ' 86 op = 0)) ∧ τ.1 ≤ r.2.1
def PoP (X : Option (Option Value × ab_M)) (E : ab_E) (d z : Nat) (B : Nat → Nat) (key op k : Nat) (μ : ab_M) (τ : Nat × Nat × Nat) (W C : List Int32) (r : Option (List Int32) × (Nat × Nat × Nat)) : Prop := match r.1 with
  | none => ∃ μ', X = some (some (.int 0), μ') ∧ μ' 76 8 = nI r.2.1 ∧ FX μ μ'
  | some cs => ∃ μ' o', X = X7_takesE_28 E (d + 3) (nI op) (nI (cnt W)) 0 o' μ' ∧ RX μ' z B key r.2 W (C ++ cs ++ List.replicate k (-10)) ∧ FX μ μ' ∧ (∀ q, q ≤ op → μ' 86 q = μ 86 q) ∧ τ.1 ≤ r.2.1
def SJ (E : ab_E) (d z : Nat) (B : Nat → Nat) (key F l op nt : Nat) : Prop := ∀ τ μ W C o, RX μ z B key τ W C → stp W (l + 1) → cnt W = nt → (l ≤ 2 → μ 86 op = 0) → (μ 86 op = 0 ∨ μ 86 op = 1) → PoR (X7_takesE_28 E (d + 3) (nI op) (nI nt) 1 o μ) E d z B key op nt l μ τ W C (rd z B key F l op nt τ)
def SP (E : ab_E) (d z : Nat) (B : Nat → Nat) (key F op nt : Nat) : Prop := ∀ τ μ k W C o, RX μ z B key τ (List.replicate k (-10) ++ W) C → stp W 6 → cnt (List.replicate k (-10) ++ W) = nt → PoP (X7_takesE_28 E (d + 3) (nI op) (nI nt) 1 o μ) E d z B key op k μ τ W C (rd z B key F 6 op nt τ)
section
variable {E : ab_E} {d : Nat} {μ μ' μ'' : ab_M} {z key : Nat} {B : Nat → Nat} {τ : Nat × Nat × Nat} {W C P : List Int32}
theorem PoR.tr {X Y : Option (Option Value × ab_M)} {op nt l : Nat} {τ1 : Nat × Nat × Nat} {r : Option (List Int32) × (Nat × Nat × Nat)} (h : PoR Y E d z B key op nt l μ' τ1 W C r) (hX : X = Y) (f : FX μ μ') (h1 : ∀ k, k < op → μ' 86 k = μ 86 k) (h3 : 3 ≤ l → μ' 86 op = μ 86 op) (ht : τ.1 ≤ τ1.1) : PoR X E d z B key op nt l μ τ W C r := by
  obtain ⟨r1, r2⟩ := r
  cases r1 with
  | none =>
    obtain ⟨ν, e1, e2, e3⟩ := h
    exact ⟨ν, hX.trans e1, e2, f.t e3⟩
  | some cs =>
    obtain ⟨ν, o, P, C1, e1, e2, e3, e4, e5, e6, e7, e8, e9, e10⟩ := h
    exact ⟨ν, o, P, C1, hX.trans e1, e2, e3, e4, f.t e5, fun k hk => (e6 k hk).trans (h1 k hk), fun hl => (e7 hl).trans (h3 hl), e8, e9, Nat.le_trans ht e10⟩
theorem sLoop {F l op nt : Nat} (hl : l < 5) (ho : op < 10) (IH : SJ E d z B key F (l + 1) op nt) (hs : stp W (l + 1)) (hc : cnt W = nt) : ∀ k i μ o τ P C1, (¬ l = 2 → i + k = 96) → (l = 2 → k ≤ 1) → i ≤ τ.1 → RX μ z B key τ (P ++ W) (C ++ C1) → (∀ x, x ∈ P → (¬ x = -11 ∧ l + 1 ≤ rkN x) ∧ ¬ 0 ≤ x ∧ ¬ x = -10) → (μ 86 op = 0 ∨ μ 86 op = 1) → (l = 2 → k = 1 → μ 86 op = 0) → (l = 2 → k = 0 → ¬ μ 86 op = 0) → (∀ l', l + 1 ≤ l' → l' < 5 → sgo B l' τ = none ∨ (l' = 2 ∧ ¬ μ 86 op = 0)) → PoR (X7_takesE_28 E (d + 3) (nI op) (nI nt) 0 o μ) E d z B key op nt l μ τ W C (lpR z B (rd z B key F (l + 1) op nt) (sgo B l) k (C1 ++ P) τ)
  | 0, i, μ, o, τ, P, C1, h96, hk1, hi, rx, hP, h01, ht1, ht0, hpo => by
    refine ⟨μ, o, P, C1, rfl, rfl, rx, hP, FX.rf, fun _ _ => rfl, fun _ => rfl, h01, fun l' q1 q2 => ?_, Nat.le_refl _⟩
    by_cases e : l' = l
    · subst e
      by_cases l2 : l' = 2
      · exact Or.inr ⟨l2, ht0 l2 rfl⟩
      · left
        show sgo B l' τ = none
        have h9 := h96 l2
        have hz := rx.1.1.1
        have h0 : τ.2.2 = 0 := by
          rcases Nat.eq_zero_or_pos τ.2.2 with h | h
          · exact h
          · have := rx.2.1.lt (by omega); omega
        exact if_neg (fun q => by rw [h0] at q; exact absurd q.1 (by decide))
    · exact hpo l' (by omega) q2
  | k + 1, i, μ, o, τ, P, C1, h96, hk1, hi, rx, hP, h01, ht1, ht0, hpo => by
    unfold lpR
    by_cases c : τ.2.2 = 3 ∧ isL l (B τ.1) = true
    · have esg : sgo B l τ = some (sgnR (B τ.1)) := if_pos c
      have hlt := rx.2.1.lt (by rw [c.1]; decide)
      have hb := rx.1.1.2.1 _ hlt
      obtain ⟨s1, s2, s3, s4⟩ := en_L l hl _ hb c.2
      obtain ⟨μ1, o1, e1, e2, e3, e4, e5⟩ := rS7 (E := E) (d := d) (nt := nt) (o := o) ho hl rx (fun x hx => ⟨(hP x hx).1, (hP x hx).2.1⟩) hs c (fun l2 => ht1 l2 (by have := hk1 l2; omega)) h01
      have hop : μ1 86 op = if l = 2 then 1 else if l < 2 then 0 else μ 86 op := by rw [e4, upd_s]
      have hlo : ∀ q, q < op → μ1 86 q = μ 86 q := fun q hq => by rw [e4, upd_n (by omega)]
      have h01' : μ1 86 op = 0 ∨ μ1 86 op = 1 := by
        rw [hop]
        by_cases l2 : l = 2
        · rw [if_pos l2]; exact Or.inr rfl
        · rw [if_neg l2]
          by_cases ll : l < 2
          · rw [if_pos ll]; exact Or.inl rfl
          · rw [if_neg ll]; exact h01
      have h3l : 3 ≤ l → μ1 86 op = μ 86 op := fun q => by rw [hop, if_neg (by omega), if_neg (by omega)]
      rw [esg]
      have n10 : ¬ sgnR (B τ.1) = -10 := fun q => by rw [q] at s3; exact absurd s3 (by decide)
      have n11 : ¬ sgnR (B τ.1) = -11 := fun q => by rw [q] at s3; exact absurd s3 (by decide)
      have IH1 := IH (nxt z B τ) μ1 (sgnR (B τ.1) :: W) (C ++ C1 ++ P) o1 e2 (Or.inr (by rw [s4]; omega)) (by show (if sgnR (B τ.1) = -10 then 1 else 0) + cnt W = nt; rw [if_neg n10, hc]; omega) (fun q => by rw [hop, if_neg (by omega), if_pos (by omega)]) h01'
      generalize hr : rd z B key F (l + 1) op nt (nxt z B τ) = r at IH1
      obtain ⟨r1, r2⟩ := r
      cases r1 with
      | none =>
        obtain ⟨ν, g1, g2, g3⟩ := IH1
        exact ⟨ν, e1.trans g1, g2, e3.t g3⟩
      | some c2 =>
        obtain ⟨ν, o2, P2, C2, g1, g2, g3, g4, g5, g6, g7, g8, g9, g10⟩ := IH1
        show PoR _ E d z B key op nt l μ τ W C (lpR z B (rd z B key F (l + 1) op nt) (sgo B l) k (C1 ++ P ++ c2 ++ [sgnR (B τ.1)]) r2)
        rw [g2, show C1 ++ P ++ (C2 ++ P2) ++ [sgnR (B τ.1)] = (C1 ++ P ++ C2) ++ (P2 ++ [sgnR (B τ.1)]) by simp [List.append_assoc]]
        have g10' : (nxt z B τ).1 ≤ r2.1 := g10
        have rx2 : RX ν z B key r2 ((P2 ++ [sgnR (B τ.1)]) ++ W) (C ++ (C1 ++ P ++ C2)) := by
          have : RX ν z B key r2 (P2 ++ sgnR (B τ.1) :: W) (C ++ C1 ++ P ++ C2) := g3
          rw [show (P2 ++ [sgnR (B τ.1)]) ++ W = P2 ++ sgnR (B τ.1) :: W by simp, show C ++ (C1 ++ P ++ C2) = C ++ C1 ++ P ++ C2 by simp [List.append_assoc]]
          exact this
        have hν3 : 3 ≤ l + 1 → ν 86 op = μ1 86 op := g7
        refine PoR.tr (μ' := ν) (τ1 := r2) (sLoop hl ho IH hs hc k (i + 1) ν o2 r2 (P2 ++ [sgnR (B τ.1)]) (C1 ++ P ++ C2) (fun q => by have := h96 q; omega) (fun q => by have := hk1 q; omega) (by omega) rx2 (fun x hx => ?_) g8 (fun q1 q2 => by have := hk1 q1; omega) (fun q1 q2 => ?_) g9) (e1.trans g1) (e3.t g5) (fun q hq => (g6 q hq).trans (hlo q hq)) (fun q => (hν3 (by omega)).trans (h3l q)) (by omega)
        · rcases List.mem_append.mp hx with hx | hx
          · obtain ⟨⟨x1, x2⟩, x3, x4⟩ := g4 x hx
            exact ⟨⟨x1, by omega⟩, x3, x4⟩
          · have : x = sgnR (B τ.1) := by simpa using hx
            rw [this]
            exact ⟨⟨n11, by omega⟩, s2, n10⟩
        · rw [hν3 (by omega), hop, if_pos q1]; decide
    · have esg : sgo B l τ = none := if_neg c
      rw [esg]
      refine ⟨μ, o, P, C1, rfl, rfl, rx, hP, FX.rf, fun _ _ => rfl, fun _ => rfl, h01, fun l' q1 q2 => ?_, Nat.le_refl _⟩
      by_cases e : l' = l
      · subst e; exact Or.inl esg
      · exact hpo l' (by omega) q2
theorem rdP_s {op nt : Nat} {sub : Nat → Nat → Nat → Nat × Nat × Nat → Option (List Int32) × (Nat × Nat × Nat)} {x : Int32} (h : pt key B τ = some x) : rdP z B key sub op nt τ = (some [x], nxt z B τ) := by
  unfold pt at h
  unfold rdP
  by_cases c2 : τ.2.2 = 2
  · rw [if_pos c2] at h ⊢
    by_cases c4 : τ.2.1 - τ.1 ≤ 4
    · rw [if_pos c4] at h ⊢; cases h; rfl
    · rw [if_neg c4] at h; exact nomatch h
  · rw [if_neg c2] at h ⊢
    by_cases c1 : τ.2.2 = 1
    · rw [if_pos c1] at h ⊢
      by_cases cl : τ.2.1 - τ.1 = 1
      · rw [if_pos cl] at h ⊢
        cases hq : nmI key (B τ.1) with
        | none => rw [hq] at h; exact nomatch h
        | some q => rw [hq] at h; cases h; rfl
      · rw [if_neg cl] at h; exact nomatch h
    · rw [if_neg c1] at h; exact nomatch h
theorem rdP_n {op nt : Nat} {sub : Nat → Nat → Nat → Nat × Nat × Nat → Option (List Int32) × (Nat × Nat × Nat)} (h : pt key B τ = none) (h1 : ¬ (isS B 33 τ ∧ nt < 8)) (h2 : ¬ (isS B 40 τ ∧ op < 8)) : rdP z B key sub op nt τ = (none, τ) := by
  unfold pt at h
  unfold rdP
  by_cases c2 : τ.2.2 = 2
  · rw [if_pos c2] at h ⊢
    by_cases c4 : τ.2.1 - τ.1 ≤ 4
    · rw [if_pos c4] at h; exact nomatch h
    · rw [if_neg c4]
  · rw [if_neg c2] at h ⊢
    by_cases c1 : τ.2.2 = 1
    · rw [if_pos c1] at h ⊢
      by_cases cl : τ.2.1 - τ.1 = 1
      · rw [if_pos cl] at h ⊢
        cases hq : nmI key (B τ.1) with
        | none => rfl
        | some q => rw [hq] at h; exact nomatch h
      · rw [if_neg cl]; rfl
    · rw [if_neg c1, if_neg h1]
      unfold rdP2
      rw [if_neg h2]
theorem sRd (hkey : key < 3) : ∀ F op nt, op ≤ 8 → nt ≤ 8 → (∀ l, l ≤ 5 → ms l op nt < F → SJ E d z B key F l op nt) ∧ (ms 6 op nt < F → SP E d z B key F op nt)
  | 0, op, nt, ho, hn => ⟨fun l _ h => by unfold ms at h; omega, fun h => by unfold ms at h; omega⟩
  | F + 1, op, nt, ho, hn => by
    obtain ⟨I1, I2⟩ := sRd hkey F op nt ho hn
    refine ⟨fun l hl5 hF => ?_, fun hF => ?_⟩
    · unfold ms at hF
      intro τ μ W C o rx hs hc ht h01
      by_cases h5 : l < 5
      · have IH := I1 (l + 1) (by omega) (by unfold ms; omega)
        rw [rd_j h5]
        have hs2 : stp W (l + 1 + 1) := by
          cases W with
          | nil => trivial
          | cons x W => rcases hs with h | h; exact Or.inl h; exact Or.inr (by omega)
        have IH1 := IH τ μ W C o rx hs2 hc (fun q => ht (by omega)) h01
        generalize hr : rd z B key F (l + 1) op nt τ = r at IH1 ⊢
        obtain ⟨r1, r2⟩ := r
        cases r1 with
        | none => exact IH1
        | some cs =>
          obtain ⟨ν, o2, P2, C2, g1, g2, g3, g4, g5, g6, g7, g8, g9, g10⟩ := IH1
          show PoR _ E d z B key op nt l μ τ W C (lpR z B (rd z B key F (l + 1) op nt) (sgo B l) (if l = 2 then 1 else 96) cs r2)
          rw [g2]
          refine PoR.tr (μ' := ν) (τ1 := r2) (sLoop h5 (by omega) IH hs hc (if l = 2 then 1 else 96) 0 ν o2 r2 P2 C2 (fun q => by rw [if_neg q]) (fun q => by rw [if_pos q]; omega) (Nat.zero_le _) g3 (fun x hx => ?_) g8 (fun q _ => ?_) (fun q q2 => by rw [if_pos q] at q2; omega) g9) g1 g5 g6 (fun q => g7 (by omega)) g10
          · obtain ⟨⟨x1, x2⟩, x3, x4⟩ := g4 x hx
            exact ⟨⟨x1, by omega⟩, x3, x4⟩
          · rw [g7 (by omega)]; exact ht (by omega)
      · have l5 : l = 5 := by omega
        subst l5
        have IH := I2 (by unfold ms; omega)
        rw [rd_5]
        have IH1 := IH τ μ 0 W C o rx (by cases W with | nil => trivial | cons x W => exact hs) hc
        generalize hr : rd z B key F 6 op nt τ = r at IH1 ⊢
        obtain ⟨r1, r2⟩ := r
        cases r1 with
        | none => exact IH1
        | some cs =>
          obtain ⟨ν, o2, g1, g2, g3, g4, g5⟩ := IH1
          rw [hc] at g1
          have g2' : RX ν z B key r2 ([] ++ W) (C ++ cs) := by
            have : RX ν z B key r2 W (C ++ cs ++ []) := g2
            rw [List.append_nil] at this; exact this
          exact ⟨ν, o2, [], cs, g1, by rw [List.append_nil], g2', fun x hx => absurd hx (by simp), g3, fun k hk => g4 k (by omega), fun _ => g4 op (Nat.le_refl _), by rw [g4 op (Nat.le_refl _)]; exact h01, fun l' q1 q2 => by omega, g5⟩
    · unfold ms at hF
      intro τ μ k W C o rx hs hc
      rw [rd_6]
      have c5 := rx.2.1.c5
      by_cases c33 : isS B 33 τ ∧ nt < 8
      · have n2 : ¬ τ.2.2 = 2 := by rw [c33.1.1]; decide
        have n1 : ¬ τ.2.2 = 1 := by rw [c33.1.1]; decide
        have er : rdP z B key (rd z B key F) op nt τ = bnd (rd z B key F 6 op (nt + 1) (nxt z B τ)) (fun cs τ1 => (some (cs ++ [-10]), τ1)) := by
          unfold rdP; rw [if_neg n2, if_neg n1, if_pos c33]
        obtain ⟨μ1, e1, e2, e3, e4, e5⟩ := rS1 (E := E) (d := d) (op := op) (o := o) rx c33
        have IH := (sRd hkey F op (nt + 1) ho (by omega)).2 (by unfold ms; omega)
        have hcn : cnt (-10 :: (List.replicate k (-10) ++ W)) = nt + 1 := by
          show (if (-10 : Int32) = -10 then 1 else 0) + cnt (List.replicate k (-10) ++ W) = nt + 1
          rw [if_pos rfl, hc]; omega
        have IH1 := IH (nxt z B τ) μ1 (k + 1) W C o e2 hs hcn
        rw [er]
        rw [hcn] at e1
        generalize hr : rd z B key F 6 op (nt + 1) (nxt z B τ) = r at IH1 ⊢
        obtain ⟨r1, r2⟩ := r
        cases r1 with
        | none =>
          obtain ⟨ν, g1, g2, g3⟩ := IH1
          exact ⟨ν, e1.trans g1, g2, e3.t g3⟩
        | some cs =>
          obtain ⟨ν, o2, g1, g2, g3, g4, g5⟩ := IH1
          refine ⟨ν, o2, e1.trans g1, ?_, e3.t g3, fun q hq => by rw [g4 q hq, e4], Nat.le_trans (by omega) g5⟩
          have : RX ν z B key r2 W (C ++ cs ++ List.replicate (k + 1) (-10)) := g2
          rw [show C ++ cs ++ List.replicate (k + 1) (-10) = C ++ (cs ++ [-10]) ++ List.replicate k (-10) by simp [List.replicate_succ]] at this
          exact this
      · by_cases c40 : isS B 40 τ ∧ op < 8
        · have n2 : ¬ τ.2.2 = 2 := by rw [c40.1.1]; decide
          have n1 : ¬ τ.2.2 = 1 := by rw [c40.1.1]; decide
          have er : rdP z B key (rd z B key F) op nt τ = bnd (rd z B key F 0 (op + 1) nt (nxt z B τ)) (clP z B) := by
            unfold rdP; rw [if_neg n2, if_neg n1, if_neg c33]; unfold rdP2; rw [if_pos c40]
          obtain ⟨μ1, e1, e2, e3, e4, e5⟩ := rS2 (E := E) (d := d) (nt := nt) (o := o) rx c40
          have IH := (sRd hkey F (op + 1) nt (by omega) hn).1 0 (by omega) (by unfold ms; omega)
          have hcn : cnt (-11 :: (List.replicate k (-10) ++ W)) = nt := by
            show (if (-11 : Int32) = -10 then 1 else 0) + cnt (List.replicate k (-10) ++ W) = nt
            rw [if_neg (by decide), hc]; omega
          have t0 : μ1 86 (op + 1) = 0 := by rw [e4, upd_s]
          have tl : ∀ q, q < op + 1 → μ1 86 q = μ 86 q := fun q hq => by rw [e4, upd_n (by omega)]
          have IH1 := IH (nxt z B τ) μ1 (-11 :: (List.replicate k (-10) ++ W)) C o e2 (Or.inl rfl) hcn (fun _ => t0) (Or.inl t0)
          rw [er]
          rw [hcn] at e1
          generalize hr : rd z B key F 0 (op + 1) nt (nxt z B τ) = r at IH1 ⊢
          obtain ⟨r1, r2⟩ := r
          cases r1 with
          | none =>
            obtain ⟨ν, g1, g2, g3⟩ := IH1
            exact ⟨ν, e1.trans g1, g2, e3.t g3⟩
          | some cs =>
            obtain ⟨ν, o2, P, C1, g1, g2, g3, g4, g5, g6, g7, g8, g9, g10⟩ := IH1
            have g10' : (nxt z B τ).1 ≤ r2.1 := g10
            by_cases c41 : isS B 41 r2
            · rw [show bnd (some cs, r2) (clP z B) = (some cs, nxt z B r2) from if_pos c41]
              obtain ⟨μ3, k1, k2, k3, k4, k5⟩ := rS6 (E := E) (d := d) (nt := nt) (o := o2) (show op < 100 by omega) g3 (fun x hx => ⟨(g4 x hx).1.1, (g4 x hx).2.1⟩) hs c41
              have k5' : r2.1 + 1 ≤ (nxt z B r2).1 := k5
              refine ⟨μ3, o2, (e1.trans g1).trans k1, ?_, (e3.t g5).t k3, fun q hq => by rw [k4, g6 q (by omega), tl q (by omega)], by show τ.1 ≤ (nxt z B r2).1; omega⟩
              rw [g2]
              rw [List.append_assoc C C1 P] at k2
              exact k2
            · rw [show bnd (some cs, r2) (clP z B) = (none, r2) from if_neg c41]
              by_cases c0 : r2.2.2 = 0
              · obtain ⟨μ3, k1, k2, k3⟩ := rS5 (E := E) (d := d) (nt := nt) (o := o2) (show op + 1 < 100 by omega) g3 (fun x hx => (g4 x hx).1.1) (Or.inl rfl) c0
                rw [if_neg (by omega)] at k1
                refine ⟨μ3, (e1.trans g1).trans k1, ?_, (e3.t g5).t k3.x⟩
                rw [k3.2 8 (by decide) (by decide)]
                exact g3.1.2.1
              · have k1 := rS8 (E := E) (d := d) (nt := nt) (o := o2) (show op + 1 < 10 by omega) g3 c0 (fun q => c41 q.1) (fun l hl => g9 l (by omega) hl)
                exact ⟨ν, (e1.trans g1).trans k1, g3.1.2.1, e3.t g5⟩
        · have e1 := rS3 (E := E) (d := d) (o := o) (show op < 100 by omega) (show nt < 100 by omega) rx c33 c40
          cases hp : pt key B τ with
          | none =>
            rw [rdP_n hp c33 c40]
            rw [kX7_part0 hkey rx hp, ab_cI_s, if_pos rfl] at e1
            exact ⟨μ, e1, rx.1.2.1, FX.rf⟩
          | some x =>
            rw [rdP_s hp]
            obtain ⟨μ1, f1, f2, f3, f4, f5⟩ := kX7_part1 (E := E) (d := d) hkey rx hs hp
            rw [f1, ab_cI_s, if_neg (by decide), kX7_nots (by have := f2.l; omega) f2.2.2.1.1 f2.2.2.1.2.1, ab_cI_s] at e1
            have f5' : τ.1 + 1 ≤ (nxt z B τ).1 := f5
            exact ⟨μ1, o, e1, f2, f3, fun q _ => by rw [f4], by show τ.1 ≤ (nxt z B τ).1; omega⟩
end
