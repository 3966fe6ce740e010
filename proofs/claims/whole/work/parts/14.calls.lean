section
variable {E : ab_E} {k k' pc pc' : Nat} {S : List ab_C} {L L' : ab_L} {st st' as : List Value} {μ : ab_M} {v : Option Value}
theorem ab_cal_i {rest : List Value} (h : ab_cal k' pc L as rest = some (.inr (.inr (k, st', pc', L', st)))) : k = k' ∧ st' = as ∧ pc' = pc + 3 ∧ L' = L ∧ st = rest ∧ (rest.map fun v => v.category).sum ≤ 8 ∧ (∀ w ∈ as, w.category = 1) ∧ as.length ≤ ab_mL k' := by
  unfold ab_cal at h
  split at h
  · rename_i hq
    cases h
    exact ⟨rfl, rfl, rfl, rfl, rfl, hq.1, fun w hw => by simpa using List.all_eq_true.mp hq.2.1 w hw, hq.2.2⟩
  · cases h
/-- what a call is -/
def ab_isCall (E : ab_E) (S : List ab_C) (k pc : Nat) (st : List Value) (k' : Nat) (as st' : List Value) : Prop :=
  (∃ (j r : Nat) (As : List Value), decode (ab_B k) pc = .ok (.invokevirtual j, 3) ∧ (ab_own k, j, k') ∈ ab_mlV ∧ as = .ref r :: As ∧ st = As.reverse ++ .ref r :: st' ∧ As.length = ab_np k' ∧ ab_isRecv E S k' r = true) ∨
  (∃ j : Nat, decode (ab_B k) pc = .ok (.invokestatic j, 3) ∧ (ab_own k, j, k') ∈ ab_mlS ++ ab_mlSN ∧ st = as.reverse ++ st' ∧ as.length = ab_np k') ∨
  (∃ (j r : Nat) (As : List Value), decode (ab_B k) pc = .ok (.invokespecial j, 3) ∧ (ab_own k, j, k') ∈ ab_mlI ++ ab_mlIN ∧ as = .ref r :: As ∧ st = As.reverse ++ .ref r :: st' ∧ As.length = ab_np k')
set_option maxHeartbeats 4000000 in
theorem ab_call_i (h : ab_core E S k pc L st μ = some (.inr (.inr (k', as, pc', L', st')))) : pc' = pc + 3 ∧ L' = L ∧ (st'.map fun v => v.category).sum ≤ 8 ∧ (∀ w ∈ as, w.category = 1) ∧ as.length ≤ ab_mL k' ∧ ab_isCall E S k pc st k' as st' := by
  unfold ab_core at h
  split at h
  · rename_i i n hf
    have hd := ab_fetch_d hf
    split at h
    · rename_i hl
      unfold ab_ex at h
      split at h
      case h_59 =>
        obtain rfl : n = 3 := by simpa [ab_len] using hl
        unfold ab_vir at h
        split at h
        · rename_i k2 hk2
          split at h
          · rename_i r rest hdr
            split at h
            · rename_i hq
              obtain ⟨rfl, rfl, rfl, rfl, rfl, q1, q2, q3⟩ := ab_cal_i h
              refine ⟨rfl, rfl, q1, q2, q3, Or.inl ⟨_, r, (st.take (ab_np k')).reverse, hd, ab_mk_mem hk2, rfl, ?_, by rw [List.length_reverse]; exact hq.1, hq.2⟩⟩
              rw [List.reverse_reverse, ← hdr, List.take_append_drop]
            · cases h
          · cases h
        · cases h
      case h_60 =>
        obtain rfl : n = 3 := by simpa [ab_len] using hl
        unfold ab_sta at h
        split at h
        · rename_i k2 hk2
          split at h
          · rename_i hq
            obtain ⟨rfl, rfl, rfl, rfl, rfl, q1, q2, q3⟩ := ab_cal_i h
            refine ⟨rfl, rfl, q1, q2, q3, Or.inr (Or.inl ⟨_, hd, ab_mk_mem hk2, ?_, by rw [List.length_reverse]; exact hq⟩)⟩
            rw [List.reverse_reverse, List.take_append_drop]
          · cases h
        · split at h
          · unfold ab_acp at h
            split at h
            · split at h
              · split at h
                · split at h
                  · unfold ab_nx at h; cases h
                  · cases h
                · cases h
              · cases h
            · cases h
          · cases h
      case h_61 =>
        obtain rfl : n = 3 := by simpa [ab_len] using hl
        unfold ab_spe at h
        split at h
        · rename_i k2 hk2
          split at h
          · rename_i r rest hdr
            split at h
            · rename_i hq
              obtain ⟨rfl, rfl, rfl, rfl, rfl, q1, q2, q3⟩ := ab_cal_i h
              refine ⟨rfl, rfl, q1, q2, q3, Or.inr (Or.inr ⟨_, r, (st.take (ab_np k')).reverse, hd, ab_mk_mem hk2, rfl, ?_, by rw [List.length_reverse]; exact hq⟩)⟩
              rw [List.reverse_reverse, ← hdr, List.take_append_drop]
            · cases h
          · cases h
        · split at h
          · split at h
            · unfold ab_nx at h; cases h
            · cases h
          · cases h
      all_goals (try simp only [ab_nx, ab_jp, ab_bin, ab_dv, ab_un, ab_br1, ab_br2, ab_ldI, ab_ldA, ab_stI, ab_stA, ab_inc, ab_ldc, ab_ldcw, ab_tsw, ab_lsw, ab_getf, ab_putf, ab_ald, ab_ast, ab_aald, ab_alen, ab_gets, ab_retI, ab_retA, ab_retV] at h)
      iterate 10 (all_goals (try (first | (cases h; done) | split at h)))
    · cases h
  · cases h
set_option maxHeartbeats 4000000 in
theorem ab_ret_i {μ' : ab_M} (h : ab_core E S k pc L st μ = some (.inr (.inl (v, μ')))) : st = v.toList ∧ μ' = μ ∧ ab_isRet k pc v := by
  unfold ab_core at h
  split at h
  · rename_i i n hf
    have hd := ab_fetch_d hf
    split at h
    · rename_i hl
      unfold ab_ex at h
      split at h
      case h_62 =>
        obtain rfl : n = 1 := by simpa [ab_len] using hl
        unfold ab_retI at h
        split at h
        · rename_i x ty hty
          split at h
          · rename_i hq
            cases h
            exact ⟨rfl, rfl, hd, ty, hty, hq.2, hq.1⟩
          · cases h
        · cases h
      case h_63 =>
        obtain rfl : n = 1 := by simpa [ab_len] using hl
        unfold ab_retA at h
        split at h
        · rename_i x nm hty
          cases h
          exact ⟨rfl, rfl, hd, nm, hty⟩
        · cases h
      case h_64 =>
        obtain rfl : n = 1 := by simpa [ab_len] using hl
        unfold ab_retV at h
        split at h
        · rename_i hty
          cases h
          exact ⟨rfl, rfl, hd, hty⟩
        · cases h
      all_goals (try simp only [ab_nx, ab_jp, ab_bin, ab_dv, ab_un, ab_br1, ab_br2, ab_ldI, ab_ldA, ab_stI, ab_stA, ab_inc, ab_ldc, ab_ldcw, ab_tsw, ab_lsw, ab_getf, ab_putf, ab_ald, ab_ast, ab_aald, ab_alen, ab_gets, ab_retI, ab_retA, ab_retV, ab_vir, ab_sta, ab_spe, ab_acp, ab_cal] at h)
      iterate 12 (all_goals (try (first | (cases h; done) | split at h)))
    · cases h
  · cases h
end
