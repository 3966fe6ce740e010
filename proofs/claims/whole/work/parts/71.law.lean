/-! THE LAW'S LOOP -/
def LwP (E : ab_E) (d : Nat) (w : Int32) (X : Option (Option Value × ab_M)) : Prop := ∃ μ', X = law_18 E (d + 1) w μ' ∧ SI μ'
section
variable {E : ab_E} {d : Nat} {μ : ab_M} {w : Int32}
theorem l_if {c : Prop} [Decidable c] {A B : Option (Option Value × ab_M)} (h1 : c → LwP E d w A) (h2 : ¬ c → LwP E d w B) : LwP E d w (if c then A else B) := by
  by_cases h : c
  · rw [if_pos h]; exact h1 h
  · rw [if_neg h]; exact h2 h
theorem l_in {c : Prop} [Decidable c] {A : Option (Option Value × ab_M)} (h : c) (hA : LwP E d w A) : LwP E d w (if c then A else none) := by rw [if_pos h]; exact hA
theorem l_pr {f g : ab_M → Option (Option Value × ab_M)} (p : PR f g) (s : SI μ) {K : Int32 → ab_M → Option (Option Value × ab_M)} (hK : ∀ x μ8, K x μ8 = ab_cI (g μ8) (fun y μ13 => if x = y then law_18 E (d + 1) w μ13 else some (some (.int 0), μ13))) : LwP E d w (ab_cI (f μ) K) := by
  obtain ⟨v, μ1, μ2, e1, e2, s2⟩ := p μ s
  rw [e1, ab_cI_s, hK, e2, ab_cI_s, if_pos rfl]
  exact ⟨μ2, rfl, s2⟩
theorem law_lt {L v : Nat} (hL : L ≤ 3072) (hv : v ≤ 4000) : (Int32.ofNat L - 6 < nI v) ↔ L < v + 6 := by
  show (nI L - nI 6 < nI v) ↔ _
  rw [Int32.lt_iff_toInt_lt, Int32.toInt_sub, nI_toInt (by omega), nI_toInt (by omega), nI_toInt (by omega), Int.bmod_eq_of_le (by omega) (by omega)]
  omega
set_option maxHeartbeats 2000000 in
theorem law_step {v : Nat} (hE : E.2.2.category = 1) (hL : E.1 ≤ 3072) (hv : v + 6 ≤ E.1) (s : SI μ) : LwP E (d + 100) (nI v + 6) (law_18 E (d + 101) (nI v) μ) := by
  have g0 : ab_in (nI v) E.1 := za_in (by omega) (by omega)
  have g1 : ab_in (nI v + 1) E.1 := by rw [show nI v + (1 : Int32) = nI (v + 1) from nI_add v 1]; exact za_in (by omega) (by omega)
  have g2 : ab_in (nI v + 2) E.1 := by rw [show nI v + (2 : Int32) = nI (v + 2) from nI_add v 2]; exact za_in (by omega) (by omega)
  have g3 : ab_in (nI v + 3) E.1 := by rw [show nI v + (3 : Int32) = nI (v + 3) from nI_add v 3]; exact za_in (by omega) (by omega)
  have g4 : ab_in (nI v + 4) E.1 := by rw [show nI v + (4 : Int32) = nI (v + 4) from nI_add v 4]; exact za_in (by omega) (by omega)
  have g5 : ab_in (nI v + 5) E.1 := by rw [show nI v + (5 : Int32) = nI (v + 5) from nI_add v 5]; exact za_in (by omega) (by omega)
  rw [law_18_q, if_neg (fun q => by have := (law_lt hL (by omega)).mp q; omega)]
  refine l_in g0 ?_
  exact l_if (fun _ => l_in g1 (l_in g2 (l_in g3 (l_pr (p_saying) s (fun _ _ => by rw [if_pos g1, if_pos g2, if_pos g3]))))) (fun _ => l_if (fun _ => l_in g1 (l_in g2 (l_pr (p_told) s (fun _ _ => by rw [if_pos g1, if_pos g2])))) (fun _ => l_if (fun _ => l_in g1 (l_in g2 (l_pr (p_as) s (fun _ _ => by rw [if_pos g1, if_pos g2])))) (fun _ => l_if (fun _ => l_in g1 (l_in g2 (l_pr (p_turns) s (fun _ _ => by rw [if_pos g1, if_pos g2])))) (fun _ => l_if (fun _ => l_in g1 (l_in g2 (l_in g3 (l_pr (p_set) s (fun _ _ => by rw [if_pos g1, if_pos g2, if_pos g3]))))) (fun _ => l_if (fun _ => l_in g1 (l_in g2 (l_pr (p_moves) s (fun _ _ => by rw [if_pos g1, if_pos g2])))) (fun _ => l_if (fun _ => l_in g1 (l_pr (p_dusts) s (fun _ _ => by rw [if_pos g1]))) (fun _ => l_if (fun _ => l_in g1 (l_in g2 (l_pr (p_heed) s (fun _ _ => by rw [if_pos g1, if_pos g2])))) (fun _ => l_if (fun _ => l_in g1 (l_in g2 (l_pr (p_cornerOf) s (fun _ _ => by rw [if_pos g1, if_pos g2])))) (fun _ => l_if (fun _ => l_in g1 (l_pr (p_kicks) s (fun _ _ => by rw [if_pos g1]))) (fun _ => l_if (fun _ => l_in g1 (l_pr (p_deal) s (fun _ _ => by rw [if_pos g1]))) (fun _ => l_if (fun _ => l_in g1 (l_pr (p_seed) s (fun _ _ => by rw [if_pos g1]))) (fun _ => l_if (fun _ => l_in g1 (l_pr (p_evenings) s (fun _ _ => by rw [if_pos g1]))) (fun _ => l_if (fun _ => l_in g1 (l_pr (p_room) s (fun _ _ => by rw [if_pos g1]))) (fun _ => l_if (fun _ => l_in g1 (l_in g2 (l_pr (p_behind) s (fun _ _ => by rw [if_pos g1, if_pos g2])))) (fun _ => l_if (fun _ => l_in g1 (l_pr (p_sinks) s (fun _ _ => by rw [if_pos g1]))) (fun _ => l_if (fun _ => l_in g1 (l_in g2 (l_pr (p_hears) s (fun _ _ => by rw [if_pos g1, if_pos g2])))) (fun _ => l_if (fun _ => l_in g1 (l_pr (p_shine) s (fun _ _ => by rw [if_pos g1]))) (fun _ => l_if (fun _ => l_in g1 (l_in g2 (l_in g3 (l_pr (p_edge) s (fun _ _ => by rw [if_pos g1, if_pos g2, if_pos g3]))))) (fun _ => l_if (fun _ => l_in g1 (l_in g2 (l_in g3 (l_pr (p_place) s (fun _ _ => by rw [if_pos g1, if_pos g2, if_pos g3]))))) (fun _ => l_if (fun _ => l_in g1 (l_in g2 (l_in g3 (l_pr (p_becomes) s (fun _ _ => by rw [if_pos g1, if_pos g2, if_pos g3]))))) (fun _ => l_if (fun _ => l_in g1 (l_in g2 (l_pr (p_like) s (fun _ _ => by rw [if_pos g1, if_pos g2])))) (fun _ => l_if (fun _ => l_pr (p_fee) s (fun _ _ => rfl)) (fun _ => l_if (fun _ => l_in g1 (l_pr (p_fine) s (fun _ _ => by rw [if_pos g1]))) (fun _ => l_if (fun _ => l_in g1 (l_in g2 (l_in g3 (l_pr (p_feed) s (fun _ _ => by rw [if_pos g1, if_pos g2, if_pos g3]))))) (fun _ => l_if (fun _ => l_in g1 (l_pr (p_trim) s (fun _ _ => by rw [if_pos g1]))) (fun _ => l_if (fun _ => l_pr (p_text hE) s (fun _ _ => rfl)) (fun _ => l_if (fun _ => l_in g1 (l_in g2 (l_pr (p_textTold) s (fun _ _ => by rw [if_pos g1, if_pos g2])))) (fun _ => l_if (fun _ => l_in g1 (l_pr (p_why) s (fun _ _ => by rw [if_pos g1]))) (fun _ => l_if (fun _ => l_in g1 (l_in g2 (l_in g3 (l_pr (p_sheet) s (fun _ _ => by rw [if_pos g1, if_pos g2, if_pos g3]))))) (fun _ => l_if (fun _ => l_in g1 (l_in g2 (l_in g3 (l_pr (p_mark) s (fun _ _ => by rw [if_pos g1, if_pos g2, if_pos g3]))))) (fun _ => l_if (fun _ => l_in g1 (l_pr (p_pour) s (fun _ _ => by rw [if_pos g1]))) (fun _ => l_if (fun _ => l_in g1 (l_pr (p_reads) s (fun _ _ => by rw [if_pos g1]))) (fun _ => l_if (fun _ => l_in g1 (l_in g2 (l_in g3 (l_in g4 (l_in g5 (l_pr (p_copy) s (fun _ _ => by rw [if_pos g1, if_pos g2, if_pos g3, if_pos g4, if_pos g5]))))))) (fun _ => l_if (fun _ => l_in g1 (l_in g2 (l_in g3 (l_pr (p_lay) s (fun _ _ => by rw [if_pos g1, if_pos g2, if_pos g3]))))) (fun _ => l_if (fun _ => l_in g1 (l_in g2 (l_pr (p_ask) s (fun _ _ => by rw [if_pos g1, if_pos g2])))) (fun _ => l_if (fun _ => l_in g1 (l_in g2 (l_pr (p_item) s (fun _ _ => by rw [if_pos g1, if_pos g2])))) (fun _ => l_if (fun _ => l_in g1 (l_in g2 (l_pr (p_rest) s (fun _ _ => by rw [if_pos g1, if_pos g2])))) (fun _ => l_if (fun _ => l_in g1 (l_pr (p_tell) s (fun _ _ => by rw [if_pos g1]))) (fun _ => l_if (fun _ => l_in g1 (l_pr (p_check) s (fun _ _ => by rw [if_pos g1]))) (fun _ => l_if (fun _ => l_pr (p_keep) s (fun _ _ => rfl)) (fun _ => l_if (fun _ => l_pr (p_back) s (fun _ _ => rfl)) (fun _ => l_if (fun _ => l_in g1 (l_pr (p_count) s (fun _ _ => by rw [if_pos g1]))) (fun _ => ⟨μ, rfl, s⟩)))))))))))))))))))))))))))))))))))))))))))
theorem law_all (hE : E.2.2.category = 1) (hL : E.1 ≤ 3072) : ∀ j v μ, v ≤ 4000 → E.1 ≤ v + j + 5 → SI μ → ∃ μ', law_18 E (d + 101) (nI v) μ = some (some (.int 1), μ')
  | 0, v, μ, h4, h, s => by
    rw [law_18_q, if_pos ((law_lt hL h4).mpr (by omega))]
    exact ⟨μ, rfl⟩
  | j + 1, v, μ, h4, h, s => by
    by_cases hv : v + 6 ≤ E.1
    · obtain ⟨μ1, e1, s1⟩ := law_step (d := d) hE hL hv s
      rw [e1, show nI v + (6 : Int32) = nI (v + 6) from nI_add v 6]
      exact law_all hE hL j (v + 6) μ1 (by omega) (by omega) s1
    · rw [law_18_q, if_pos ((law_lt hL h4).mpr (by omega))]
      exact ⟨μ, rfl⟩
end
