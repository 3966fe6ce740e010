/-! the class reads -/
def ms (l op nt : Nat) : Nat := (6 - l) + 7 * (8 - op) + (8 - nt)
section
variable {E : ab_E} {d : Nat} {μ μ' μ'' : ab_M} {z key : Nat} {B : Nat → Nat} {τ : Nat × Nat × Nat}
theorem rd_j {F l op nt : Nat} (h : l < 5) : rd z B key (F + 1) l op nt τ = bnd (rd z B key F (l + 1) op nt τ) (lpR z B (rd z B key F (l + 1) op nt) (sgo B l) (if l = 2 then 1 else 96)) := by
  show (if l < 5 then _ else _) = _
  rw [if_pos h]
theorem rd_5 {F op nt : Nat} : rd z B key (F + 1) 5 op nt τ = rd z B key F 6 op nt τ := by
  show (if 5 < 5 then _ else _) = _
  rw [if_neg (by decide)]; rfl
theorem rd_6 {F op nt : Nat} : rd z B key (F + 1) 6 op nt τ = rdP z B key (rd z B key F) op nt τ := by
  show (if 6 < 5 then _ else _) = _
  rw [if_neg (by decide)]; rfl
noncomputable def cfR (E : ab_E) (F l op nt : Nat) (μ : ab_M) : Option (Option Value × ab_M) := if l ≤ 5 then X5_readJoined E (F + 7) (nI l) (nI op) (nI nt) μ else X5_readPiece E (F + 7) (nI op) (nI nt) μ
/-- the contract -/
def KR (E : ab_E) (z : Nat) (B : Nat → Nat) (key F l op nt : Nat) : Prop := ∀ τ μ C, TC μ z B τ → WT z B τ → μ 46 5 = nI key → CR μ C → C.length ≤ τ.1 → ∃ μ', cfR E F l op nt μ = some (some (.int (zb ((rd z B key F l op nt τ).1.isSome = true))), μ') ∧ FC μ μ' ∧ PoC μ' z B τ C (rd z B key F l op nt τ)
theorem zb_x {P : Prop} [Decidable P] : narrow .boolean (.int (zb P)) = .int (zb P) := zb_n P
theorem PoC_m {τ0 : Nat × Nat × Nat} {C cs : List Int32} {r : Option (List Int32) × (Nat × Nat × Nat)} (h : PoC μ z B τ (C ++ cs) r) (h0 : τ0.1 + cs.length ≤ τ.1) : PoC μ z B τ0 C (r.1.map (cs ++ ·), r.2) := by
  obtain ⟨r1, r2⟩ := r
  cases r1 with
  | none => exact h
  | some c2 =>
    obtain ⟨h1, h2, h3, h4⟩ := h
    refine ⟨h1, h2, by rw [← List.append_assoc]; exact h3, ?_⟩
    have h4' : τ.1 + c2.length ≤ r2.1 := h4
    show τ0.1 + (cs ++ c2).length ≤ r2.1
    rw [List.length_append]; omega
theorem cLoop {F l op nt most : Nat} (hl : l < 5) (hmost : most ≤ 96) (IH : KR E z B key F (l + 1) op nt) : ∀ k i o μ τ0 τ C cs, i + k = most → TC μ z B τ → WT z B τ → μ 46 5 = nI key → CR μ (C ++ cs) → τ0.1 + cs.length ≤ τ.1 → C.length ≤ τ0.1 → ∃ μ', X5_readJoined_48 E (F + 8) (nI l) (nI op) (nI nt) (9 + l) (nI most) (nI i) o μ = some (some (.int (zb ((lpR z B (rd z B key F (l + 1) op nt) (sgo B l) k cs τ).1.isSome = true))), μ') ∧ FC μ μ' ∧ PoC μ' z B τ0 C (lpR z B (rd z B key F (l + 1) op nt) (sgo B l) k cs τ)
  | 0, i, o, μ, τ0, τ, C, cs, e, t, w, hk, cr, hc, hC => by
    rw [X5_readJoined_48_q (show 9 + l < 14 by omega), if_pos (nI_le (by omega) (by omega))]
    exact ⟨μ, rfl, FC.rf, t, w, cr, hc⟩
  | k + 1, i, o, μ, τ0, τ, C, cs, e, t, w, hk, cr, hc, hC => by
    have hz := t.1.1
    rw [X5_readJoined_48_q (show 9 + l < 14 by omega), if_neg (nI_ge (by omega) (by omega)), kX5_sgL (d := F + 2) hl t w, ab_cI_s]
    unfold lpR
    by_cases c : τ.2.2 = 3 ∧ isL l (B τ.1) = true
    · have hlt := w.lt (by omega)
      have hb := t.b hlt
      have hw2 := w.2.2.1 hlt
      have hw3 := w.2.1
      obtain ⟨s1, s2, s3, s4⟩ := en_L l hl _ hb c.2
      have esg : sgo B l τ = some (sgnR (B τ.1)) := if_pos c
      obtain ⟨μ1, e1, e2, e3, e4⟩ := kX5_pass (E := E) (d := F + 5) t w
      have hlen : (C ++ cs).length ≤ τ.1 := by rw [List.length_append]; omega
      have hnf : τ.1 + 1 ≤ (nxt z B τ).1 := by have := (nf_b (B := B) hw3).1; show τ.1 + 1 ≤ nf z B τ.2.1; omega
      obtain ⟨μ2, f1, f2, f3⟩ := IH (nxt z B τ) μ1 (C ++ cs) e2 e4 (by rw [e3.2 5 (by decide) (by decide) (by decide)]; exact hk) (cr.f e3) (by omega)
      unfold cfR at f1
      rw [if_pos (show l + 1 ≤ 5 by omega)] at f1
      rw [zb_t c, if_neg (by decide), t.2.1, if_pos (za_in (show τ.1 < 96 by omega) (by decide)), za_cl (by omega), t.1.2.2.2 _ hlt, e1, ab_cV_s, za_1, f1, ab_cI_s, ← s1, esg]
      generalize hr : rd z B key F (l + 1) op nt (nxt z B τ) = r at f3 ⊢
      obtain ⟨r1, r2⟩ := r
      cases r1 with
      | none =>
        rw [zb_f (show ¬ (none : Option (List Int32)).isSome = true by decide), if_neg (fun q => q rfl)]
        exact ⟨μ2, rfl, e3.c.t f2, f3⟩
      | some c2 =>
        obtain ⟨g1, g2, g3, g4⟩ := f3
        have g4' : (nxt z B τ).1 + c2.length ≤ r2.1 := g4
        have r2z : r2.1 ≤ z := by have h1 := g2.1; have h2 := g2.2.1; exact Nat.le_trans h1 h2
        have hl2 : (C ++ cs ++ c2).length < 96 := by
          rw [List.length_append]; omega
        obtain ⟨μ3, k1, k2, k3, k4⟩ := kX5_wrS (E := E) (d := F + 7) (x := sgnR (B τ.1)) g1 g3 hl2 s2
        rw [zb_t (show (some c2).isSome = true from rfl), if_pos (by decide), k1, ab_cV_s, za_1]
        have ea : C ++ cs ++ c2 ++ [sgnR (B τ.1)] = C ++ (cs ++ c2 ++ [sgnR (B τ.1)]) := by simp [List.append_assoc]
        rw [ea] at k3
        obtain ⟨μ4, q1, q2, q3⟩ := cLoop hl hmost IH k (i + 1) (some (.int (nI (B τ.1)))) μ3 τ0 r2 C (cs ++ c2 ++ [sgnR (B τ.1)]) (by omega) k2 g2 (by rw [k4.2.2, f2.2.2, e3.2 5 (by decide) (by decide) (by decide)]; exact hk) k3 (by simp only [List.length_append, List.length_singleton]; omega) hC
        exact ⟨μ4, q1, ((e3.c.t f2).t k4).t q2, q3⟩
    · have esg : sgo B l τ = none := if_neg c
      rw [zb_f c, if_pos rfl, esg]
      exact ⟨μ, rfl, FC.rf, t, w, cr, hc⟩
theorem cRd (hkey : key < 3) : ∀ F l op nt, l ≤ 6 → op ≤ 8 → nt ≤ 8 → ms l op nt < F → KR E z B key F l op nt
  | 0, l, op, nt, hl, ho, hn, hF => by unfold ms at hF; omega
  | F + 1, l, op, nt, hl, ho, hn, hF => by
    intro τ μ C t w hk cr hC
    unfold ms at hF
    unfold cfR
    by_cases h5 : l < 5
    · have IH := cRd hkey F (l + 1) op nt (by omega) ho hn (by unfold ms; omega)
      obtain ⟨μ1, e1, e2, e3⟩ := IH τ μ C t w hk cr hC
      unfold cfR at e1
      rw [if_pos (show l + 1 ≤ 5 by omega)] at e1
      rw [if_pos (show l ≤ 5 by omega), X5_readJoined_q, if_pos (show nI l < (5 : Int32) from nI_lt (b := 5) h5 (by decide)), za_1, e1, ab_cI_s, rd_j h5]
      generalize hr : rd z B key F (l + 1) op nt τ = r at e3 ⊢
      obtain ⟨r1, r2⟩ := r
      cases r1 with
      | none =>
        rw [zb_f (show ¬ (none : Option (List Int32)).isSome = true by decide), if_neg (fun q => q rfl)]
        exact ⟨μ1, rfl, e2, e3⟩
      | some cs =>
        obtain ⟨g1, g2, g3, g4⟩ := e3
        have es : X5_signsOf E (F + 7) (nI l) μ1 = some (some (.ref (1000 + 2 * (9 + l))), μ1) := by
          rw [X5_signsOf_q]
          rcases (show l = 0 ∨ l = 1 ∨ l = 2 ∨ l = 3 ∨ l = 4 by omega) with rfl | rfl | rfl | rfl | rfl
          · rw [if_pos (show nI 0 = (0 : Int32) from rfl)]
          · rw [if_neg (by decide), if_pos (show nI 1 = (1 : Int32) from rfl)]
          · rw [if_neg (by decide), if_neg (by decide), if_pos (show nI 2 = (2 : Int32) from rfl)]
          · rw [if_neg (by decide), if_neg (by decide), if_neg (by decide), if_pos (show nI 3 = (3 : Int32) from rfl)]
          · rw [if_neg (by decide), if_neg (by decide), if_neg (by decide), if_neg (by decide)]
        rw [zb_t (show (some cs).isSome = true from rfl), if_pos (by decide), es, ab_cA_s, X5_readJoined_k30_q (show 9 + l < 14 by omega)]
        have hk1 : μ1 46 5 = nI key := by rw [e2.2.2]; exact hk
        by_cases l2 : l = 2
        · rw [if_neg (show ¬ ¬ nI l = (2 : Int32) from fun q => q (by rw [l2]; rfl)), if_pos l2]
          obtain ⟨μ2, q1, q2, q3⟩ := cLoop (most := 1) h5 (by omega) IH 1 0 none μ1 τ r2 C cs (by omega) g1 g2 hk1 g3 g4 hC
          exact ⟨μ2, q1, e2.t q2, q3⟩
        · rw [if_pos (show ¬ nI l = (2 : Int32) from fun q => l2 ((nI_eq (b := 2) (by omega) (by decide)).mp q)), if_neg l2]
          obtain ⟨μ2, q1, q2, q3⟩ := cLoop (most := 96) h5 (by omega) IH 96 0 none μ1 τ r2 C cs (by omega) g1 g2 hk1 g3 g4 hC
          exact ⟨μ2, q1, e2.t q2, q3⟩
    · by_cases h6 : l = 5
      · subst h6
        have IH := cRd hkey F 6 op nt (by omega) ho hn (by unfold ms; omega)
        obtain ⟨μ1, e1, e2, e3⟩ := IH τ μ C t w hk cr hC
        unfold cfR at e1
        rw [if_neg (by decide)] at e1
        rw [if_pos (by omega), X5_readJoined_q, if_neg (by decide), e1, ab_cI_s, if_pos zb_x, rd_5]
        exact ⟨μ1, rfl, e2, e3⟩
      · have l6 : l = 6 := by omega
        subst l6
        have c5 := w.c5
        have hz := t.1.1
        rw [if_neg (by decide), X5_readPiece_q, t.2.2.2, rd_6]
        unfold rdP
        by_cases c2 : τ.2.2 = 2
        · obtain ⟨μ1, e1, e2, e3⟩ := kX5_readNumber (E := E) (d := F + 3) t w cr hC c2
          rw [if_neg (show ¬ ¬ nI τ.2.2 = (2 : Int32) from fun q => q (by rw [c2]; rfl)), e1, ab_cI_s, if_pos zb_x, if_pos c2]
          refine ⟨μ1, ?_, e2, e3⟩
          by_cases c4 : τ.2.1 - τ.1 ≤ 4
          · rw [if_pos c4, zb_t c4]; rfl
          · rw [if_neg c4, zb_f c4]; rfl
        · rw [if_pos (show ¬ nI τ.2.2 = (2 : Int32) from fun q => c2 ((nI_eq (b := 2) (by omega) (by decide)).mp q)), if_neg c2]
          by_cases c1 : τ.2.2 = 1
          · obtain ⟨μ1, e1, e2, e3⟩ := kX5_readName (E := E) (d := F + 1) hkey hk t w cr hC c1
            rw [if_neg (show ¬ ¬ nI τ.2.2 = (1 : Int32) from fun q => q (by rw [c1]; rfl)), e1, ab_cI_s, if_pos zb_x, if_pos c1]
            exact ⟨μ1, rfl, e2, e3⟩
          · rw [if_pos (show ¬ nI τ.2.2 = (1 : Int32) from fun q => c1 ((nI_eq (b := 1) (by omega) (by decide)).mp q)), if_neg c1, kX5_isSignOf (P := fun b => b = 33) (d := F + 2) (by decide) fxs_33 t w, ab_cI_s, kX5_isSignOf (P := fun b => b = 40) (d := F + 2) (by decide) fxs_40 t w, ab_cI_s]
            have fail : ∃ μ', some (some (Value.int 0), μ) = some (some (Value.int (zb (((none : Option (List Int32)), τ).1.isSome = true))), μ') ∧ FC μ μ' ∧ PoC μ' z B τ C (none, τ) := ⟨μ, rfl, FC.rf, t.2.1, C.length, cr.1, cr.2.1⟩
            have pass : ¬ τ.2.2 = 0 → ∃ μ1, X5_pass E (F + 7) μ = some (none, μ1) ∧ TC μ1 z B (nxt z B τ) ∧ FT μ μ1 ∧ WT z B (nxt z B τ) ∧ μ1 46 5 = nI key ∧ CR μ1 C ∧ C.length ≤ (nxt z B τ).1 ∧ τ.1 + 1 ≤ (nxt z B τ).1 := by
              intro c0
              have hlt := w.lt c0
              have hw2 := w.2.2.1 hlt
              have hw3 := w.2.1
              obtain ⟨μ1, e1, e2, e3, e4⟩ := kX5_pass (E := E) (d := F + 5) t w
              have hnf : τ.1 + 1 ≤ (nxt z B τ).1 := by have := (nf_b (B := B) hw3).1; show τ.1 + 1 ≤ nf z B τ.2.1; omega
              exact ⟨μ1, e1, e2, e3, e4, by rw [e3.2 5 (by decide) (by decide) (by decide)]; exact hk, cr.f e3, by omega, hnf⟩
            by_cases c33 : isS B 33 τ ∧ nt < 8
            · obtain ⟨μ1, e1, e2, e3, e4, e5, e6, e7, e8⟩ := pass (by rw [c33.1.1]; decide)
              have IH := cRd hkey F 6 op (nt + 1) (by omega) ho (by omega) (by unfold ms; omega)
              obtain ⟨μ2, f1, f2, f3⟩ := IH (nxt z B τ) μ1 C e2 e4 e5 e6 e7
              unfold cfR at f1
              rw [if_neg (by decide)] at f1
              rw [zb_t (show τ.2.2 = 3 ∧ B τ.1 = 33 from c33.1), if_neg (by decide), if_neg (show ¬ (8 : Int32) ≤ nI nt from nI_ge (b := 8) c33.2 (by decide)), e1, ab_cV_s, za_1, f1, ab_cI_s, if_pos c33]
              generalize hr : rd z B key F 6 op (nt + 1) (nxt z B τ) = r at f3 ⊢
              obtain ⟨r1, r2⟩ := r
              cases r1 with
              | none =>
                obtain ⟨g1, w', g2, g3⟩ := f3
                obtain ⟨μ3, k1, k2, k3, k4⟩ := kX5_w' (E := E) (d := F + 7) (v := -33) g2 g3
                rw [k1, ab_cV_s, if_pos zb_x]
                exact ⟨μ3, rfl, (e3.c.t f2).t k4, k2.trans g1, k3⟩
              | some cs =>
                obtain ⟨g1, g2, g3, g4⟩ := f3
                have g4' : (nxt z B τ).1 + cs.length ≤ r2.1 := g4
                have r2z : r2.1 ≤ z := Nat.le_trans g2.1 g2.2.1
                obtain ⟨μ3, k1, k2, k3, k4⟩ := kX5_wrS (E := E) (d := F + 7) (x := -10) g1 g3 (by rw [List.length_append]; omega) (by decide)
                rw [show en (-10) = (-33 : Int32) by decide] at k1
                rw [k1, ab_cV_s, if_pos zb_x]
                refine ⟨μ3, rfl, (e3.c.t f2).t k4, k2, g2, by rw [← List.append_assoc]; exact k3, ?_⟩
                show τ.1 + (cs ++ [-10]).length ≤ r2.1
                rw [List.length_append, List.length_singleton]; omega
            · rw [if_neg c33]
              have rest : ∃ μ', (if zb (τ.2.2 = 3 ∧ B τ.1 = 40) = 0 then some (some (Value.int 0), μ) else (if (8 : Int32) ≤ nI op then some (some (Value.int 0), μ) else (ab_cV (X5_pass E (F + 7) μ) (fun μ11 => (ab_cI (X5_readJoined E (F + 7) 0 (nI op + 1) (nI nt) μ11) (fun x12 μ13 => (if x12 = 0 then some (some (Value.int 0), μ13) else (ab_cI (X5_readClosing E (F + 7) μ13) (fun x15 μ16 => (if x15 = 0 then some (some (Value.int 0), μ16) else some (some (Value.int 1), μ16))))))))))) = some (some (.int (zb ((rdP2 z B (rd z B key F) op nt τ).1.isSome = true))), μ') ∧ FC μ μ' ∧ PoC μ' z B τ C (rdP2 z B (rd z B key F) op nt τ) := by
                unfold rdP2
                by_cases c40 : τ.2.2 = 3 ∧ B τ.1 = 40
                · rw [zb_t c40, if_neg (by decide)]
                  by_cases co : op < 8
                  · obtain ⟨μ1, e1, e2, e3, e4, e5, e6, e7, e8⟩ := pass (by rw [c40.1]; decide)
                    have IH := cRd hkey F 0 (op + 1) nt (by omega) (by omega) hn (by unfold ms; omega)
                    obtain ⟨μ2, f1, f2, f3⟩ := IH (nxt z B τ) μ1 C e2 e4 e5 e6 e7
                    unfold cfR at f1
                    rw [if_pos (by decide), show nI 0 = (0 : Int32) from rfl] at f1
                    rw [if_neg (show ¬ (8 : Int32) ≤ nI op from nI_ge (b := 8) co (by decide)), e1, ab_cV_s, za_1, f1, ab_cI_s, if_pos (show isS B 40 τ ∧ op < 8 from ⟨c40, co⟩)]
                    generalize hr : rd z B key F 0 (op + 1) nt (nxt z B τ) = r at f3 ⊢
                    obtain ⟨r1, r2⟩ := r
                    cases r1 with
                    | none =>
                      rw [zb_f (show ¬ (none : Option (List Int32)).isSome = true by decide), if_pos rfl]
                      exact ⟨μ2, rfl, e3.c.t f2, f3⟩
                    | some cs =>
                      obtain ⟨g1, g2, g3, g4⟩ := f3
                      have g4' : (nxt z B τ).1 + cs.length ≤ r2.1 := g4
                      rw [zb_t (show (some cs).isSome = true from rfl), if_neg (by decide), X5_readClosing_q, kX5_isSignOf (P := fun b => b = 41) (d := F + 1) (by decide) fxs_41 g1 g2, ab_cI_s]
                      by_cases c41 : r2.2.2 = 3 ∧ B r2.1 = 41
                      · have hw2 := g2.2.2.1 (g2.lt (by rw [c41.1]; decide))
                        obtain ⟨μ3, k1, k2, k3, k4⟩ := kX5_pass (E := E) (d := F + 4) g1 g2
                        rw [zb_t c41, if_pos (by decide), k1, ab_cV_s, ab_cI_s, if_neg (by decide)]
                        rw [show bnd (some cs, r2) (clP z B) = (some cs, nxt z B r2) from if_pos (show isS B 41 r2 from c41)]
                        refine ⟨μ3, rfl, (e3.c.t f2).t k3.c, k2, k4, g3.f k3, ?_⟩
                        have h9 : r2.2.1 ≤ nf z B r2.2.1 := (nf_b (B := B) (show r2.2.1 ≤ z from g2.2.1)).1
                        have h8 : r2.1 < r2.2.1 := hw2
                        show τ.1 + cs.length ≤ nf z B r2.2.1
                        omega
                      · rw [zb_f c41, if_neg (fun q => q rfl), ab_cI_s, if_pos rfl]
                        rw [show bnd (some cs, r2) (clP z B) = (none, r2) from if_neg (show ¬ isS B 41 r2 from c41)]
                        exact ⟨μ2, rfl, e3.c.t f2, g1.2.1, (C ++ cs).length, g3.1, g3.2.1⟩
                  · rw [if_pos (show (8 : Int32) ≤ nI op from nI_le (a := 8) (by omega) (by omega)), if_neg (fun q => co q.2)]
                    exact fail
                · rw [zb_f c40, if_pos rfl, if_neg (fun q => c40 q.1)]
                  exact fail
              by_cases d33 : τ.2.2 = 3 ∧ B τ.1 = 33
              · rw [zb_t d33, if_neg (by decide), if_pos (show (8 : Int32) ≤ nI nt from nI_le (a := 8) (Nat.le_of_not_lt fun q => c33 ⟨d33, q⟩) (by omega))]
                exact rest
              · rw [zb_f d33, if_pos rfl]
                exact rest
end
