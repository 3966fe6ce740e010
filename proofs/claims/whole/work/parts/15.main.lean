section
variable {p : Program} {l : Launch} {e : Env} {R : Room} {s : State} {m : MethodId} {args : Array Value} {below : List Frame} {meth : Method} {c : Code} {cells slots : Nat} {Q : State → Prop}
variable {D : va_G} {cT : Nat → ClassId} {ad : Nat → Nat} {B0 : Nat} {E : ab_E} {k k' pc pc' d mc ms : Nat} {S S1 : List ab_C} {L L' : ab_L} {st st' as : List Value} {μ μ1 : ab_M} {v : Option Value} {Ts : List Cond}
theorem ab_r_call (hC : ab_Ctx D cT ad B0 E s) (hF : ab_Fr p s m args meth c k) (hts : ∀ w ∈ Ts, w.before args s = true) (hU : ∀ w ∈ ab_U, w ∈ Ts) (hk' : k' < ab_nM) (hcat : (st'.map fun v => v.category).sum ≤ 8) (hcall : ab_isCall E S k pc st k' as st')
    (hM : Met l (ab_Y k') (ab_ws k') (ab_rm d mc ms) (ab_Pc D cT ad B0 E as S μ) (ab_Qc D cT ad B0 v S1 μ1) mc ms (fun q => B0 ≤ q)) (hR1 : d + 1 + 1 ≤ R.frames) (hR2 : 40 * (d + 1) + 100 ≤ R.locals) (hcs : s.heap.size + cells = B0 + S.length) (hr1 : cells + mc ≤ R.cells) (hr2 : slots + ms ≤ R.slots)
    (g : ab_Go p l e R s m args below meth c D cT ad B0 k Q (cells + mc) (slots + ms) S1 μ1 (pc + 3) L (v.toList ++ st')) : ab_Go p l e R s m args below meth c D cT ad B0 k Q cells slots S μ pc L st := by
  obtain ⟨hx, hb, hml, hr, hlk, hin, hown, htu⟩ := hF
  obtain ⟨w1, w2, w3, w4, w5, w6⟩ := ab_okM hk'
  have had := hC.2.2.2.2.2.2.2.2.2.2.1
  intro H locs ls h2 h3 h4 h5
  refine ab_W_sz fun hz => ?_
  have hsz := ab_size hC h2 h3 h4 hcs hz
  have hPre : ∀ U : State, U.heap = H → s.WarmedH U.vm → ab_Pc D cT ad B0 E as S μ (as.map (ab_tr ad)).toArray U := fun U hU hW =>
    ⟨rfl, hC.warm hW (fun q q1 q2 => by rw [hU]; exact h4.2.1 q q1 q2) (by rw [hU]; exact h4.1), by rw [hU]; exact hsz, h2, by rw [hU]; exact h3⟩
  have hroom : (ab_rm d mc ms).frames + 1 ≤ R.frames ∧ 8 + (ab_mL k' + 11) + (ab_rm d mc ms).locals ≤ R.locals := ⟨hR1, by show 8 + (ab_mL k' + 11) + (40 * d + 100) ≤ _; omega⟩
  have hsum : ((st'.map (ab_tr ad)).map fun v => v.category).sum ≤ 8 := by rw [ab_sum]; exact hcat
  have hgood := ab_GoodU hU hk'
  -- the run
  have run : va_Run p l e R s m args below meth c H locs cells slots mc ms (F0 m pc ls (st.map (ab_tr ad))) (st'.map (ab_tr ad)) (ab_Qc D cT ad B0 v S1 μ1 (as.map (ab_tr ad)).toArray) (fun q => B0 ≤ q) := by
    rcases hcall with ⟨j, r, As, hd, hj, rfl, rfl, hn, hrv⟩ | ⟨j, hd, hj, rfl, hn⟩ | ⟨j, r, As, hd, hj, rfl, rfl, hn⟩
    · obtain ⟨x1, x2, x3, -⟩ := ab_okmlV hj
      have hrec : ∃ cellB : Cell, H[ad r]? = some cellB ∧ cellB.vm.isStatics = false ∧ s.vm.findClass (ab_Y k').cls = some cellB.cls := by
        unfold ab_isRecv at hrv
        split at hrv
        · rename_i ci vs hcell
          obtain ⟨hr9, hS⟩ := ab_cell_S hcell (by simp)
          have ho : ci = ab_own k' := of_decide_eq_true hrv
          have hlt : ci < 8 := by
            have := h3 r _ (ab_wd_at hS)
            rw [ab_w1_0] at this
            obtain ⟨q, hq, -⟩ := this
            have := (List.getElem?_eq_some_iff.mp hq).1
            exact this
          have := va_recv hC.1 h3 (ab_cl_at hlt (by rw [ho]; exact ab_mlV0 hj)) (by rw [ab_wd_at hS, ab_w1_0] : (ab_wd cT ad S μ)[r]? = some (ad r, .inr (ci, vs.mapIdx (ab_f1 ad μ r))))
          rw [w5, ← ho]
          exact this
        · rename_i hcell
          obtain ⟨i, hi, rfl, -⟩ := ab_cell_8 hcell
          have ho : ab_own k' = 9 := of_decide_eq_true hrv
          have := vk_recv hC.2.2.2.2.1 hi h4
          rw [w5, ho]
          exact this
        · cases hrv
      have cw : CallW R s args (ab_R (ab_own k)) (ab_Y k').cls j (ab_Y k') (ab_B k') (ab_mL k') (ab_rt k') (ab_ws k') (ab_rm d mc ms) mc ms (ab_np k') :=
        ⟨callB_of (ab_np k') hts hgood rfl rfl rfl (htu _ w2) (htu _ x1) w4 hroom, htu _ x2, htu _ x3⟩
      exact va_runV (As := As.map (ab_tr ad)) (rest := st'.map (ab_tr ad)) (b := ad r) ⟨hx, hb, hml, hown, hts⟩ hM cw ⟨ab_blind, hrec, hPre⟩ rfl (by rw [List.length_map]; exact hn) h5.1 (by simp [ab_tr]) (lv_room hsum) hd ⟨hr1, hr2⟩
    · rcases List.mem_append.mp hj with hj | hj
      · obtain ⟨x1, x2, -⟩ := ab_okmlS hj
        exact va_runS (As := as.map (ab_tr ad)) (rest := st'.map (ab_tr ad)) ⟨hx, hb, hml, hown, hts⟩ hM ⟨callB_of (ab_np k') hts hgood rfl rfl rfl (htu _ w2) (htu _ x1) w4 hroom, htu _ x2⟩ ⟨ab_blind, hPre⟩ rfl (by rw [List.length_map]; exact hn) h5.1 (by simp) (lv_room hsum) hd ⟨hr1, hr2⟩
      · obtain ⟨x2, -⟩ := ab_okmlSN hj
        have hn9 : va_Nw (.methodLinkNest (ab_R (ab_own k)) j (ab_Y k') RX6) s := hC.2.1 (ab_own k, j, k') (List.mem_append_left _ hj)
        exact va_runSN (host := RX6) (As := as.map (ab_tr ad)) (rest := st'.map (ab_tr ad)) ⟨hx, hb, hml, hown, hts⟩ hM ⟨va_cnB (ab_np k') hts hgood rfl rfl rfl hn9 (htu _ w2) w4 hroom, htu _ x2, trivial⟩ ⟨ab_blind, hPre⟩ rfl (by rw [List.length_map]; exact hn) h5.1 (by simp) (lv_room hsum) hd ⟨hr1, hr2⟩
    · rcases List.mem_append.mp hj with hj | hj
      · obtain ⟨x1, x2, -, x4, x5⟩ := ab_okmlI hj
        have hM' := hM
        exact va_runI (As := As.map (ab_tr ad)) (rest := st'.map (ab_tr ad)) (b := ad r) (bytes := ab_B k') (maxL := ab_mL k') ⟨hx, hb, hml, hown, hts⟩ hM ⟨callB_of (ab_np k') hts hgood (by unfold ab_ws; rw [x5]) rfl rfl (htu _ w2) (htu _ x1) w4 hroom, x4, htu _ x2⟩ ⟨ab_blind, hPre⟩ rfl (by rw [List.length_map]; exact hn) h5.1 (by simp [ab_tr]) (lv_room hsum) hd ⟨hr1, hr2⟩
      · obtain ⟨x2, -, x4, x5⟩ := ab_okmlIN hj
        have hn9 : va_Nw (.methodLinkNest (ab_R (ab_own k)) j (ab_Y k') RX6) s := hC.2.1 (ab_own k, j, k') (List.mem_append_right _ hj)
        exact va_runIN (host := RX6) (As := As.map (ab_tr ad)) (rest := st'.map (ab_tr ad)) (b := ad r) (bytes := ab_B k') (maxL := ab_mL k') ⟨hx, hb, hml, hown, hts⟩ hM ⟨va_cnB (ab_np k') hts hgood (by unfold ab_ws; rw [x5]) rfl rfl hn9 (htu _ w2) w4 hroom, x4, htu _ x2⟩ ⟨ab_blind, hPre⟩ rfl (by rw [List.length_map]; exact hn) h5.1 (by simp [ab_tr]) (lv_room hsum) hd ⟨hr1, hr2⟩
  intro T hT X
  obtain ⟨v', st₀, t, T', L2, e0, X', hL, e1, e2, ⟨hv, hS9, hP1, hz1, hk1⟩, stp⟩ := run T hT X
  cases hv
  rw [e0] at hz1 hk1
  obtain ⟨t2, a1, b1⟩ := g T'.heap (locs ++ L2) ls hS9 (by rw [e1]; exact hP1) ⟨Nat.le_trans h4.1 (by rw [e1]; exact hz1), fun q q1 q2 => by rw [e1, hk1 q (Nat.lt_of_lt_of_le q1 h4.1) q2]; exact h4.2.1 q q1 q2, fun q hq => by
      rcases List.mem_append.mp hq with h | h
      · exact h4.2.2 q h
      · exact hL q h⟩ h5 T' rfl X'
  refine ⟨t2, stp t2 ?_, b1⟩
  have ee : (v.toList ++ st').map (ab_tr ad) = (v.map (ab_tr ad)).toList ++ st'.map (ab_tr ad) := by
    rw [List.map_append]; cases v <;> rfl
  rw [ee] at a1
  exact a1
end
theorem ab_sound (l : Launch) (D : va_G) (cT : Nat → ClassId) (ad : Nat → Nat) (B0 : Nat) (E : ab_E) : ∀ n, ab_Snd l D cT ad B0 E n := by
  intro n
  induction n with
  | zero => intro d k pc L st S S' μ μ' v h; cases h
  | succ n ih =>
    intro d k pc L st S S' μ μ' v h
    unfold ab_runB at h
    split at h
    · rename_i pc1 L1 st1 h1 hst
      obtain ⟨S1, μ1⟩ := h1
      obtain ⟨i1, i2, i3, i4⟩ := ih d k pc1 L1 st1 S1 S' μ1 μ' v h
      unfold ab_step at hst
      split at hst
      · rename_i hcore
        cases hst
        exact ⟨i1, i2, i3, fun p e R s m args below meth c cells slots Q Ts hC hF hts hU hR1 hR2 hcs hr1 hr2 hq =>
          ab_r_core hC ⟨by omega, by omega⟩ hcore hF (i4 p e R s m args below meth c cells slots Q Ts hC hF hts hU hR1 hR2 hcs hr1 hr2 hq)⟩
      · cases hst
      · cases hst
      · split at hst
        · rename_i i nn hf
          split at hst
          · rename_i hl
            obtain ⟨⟨q1, q2, q3, q4, q5⟩, hal, hst⟩ := Option.map_eq_some_iff.mp hst
            cases hst
            have hal : ab_alloc S k pc i L st μ = some (pc1, L1, st1, (S1, μ1)) := hal
            obtain ⟨g1, g2, g3⟩ := ab_alloc_grows hal
            refine ⟨Nat.le_trans g1 i1, Nat.le_trans g2 i2, fun q => i3 (g3 q), fun p e R s m args below meth c cells slots Q Ts hC hF hts hU hR1 hR2 hcs hr1 hr2 hq => ?_⟩
            have c1 : cells + (S1.length - S.length) + (S'.length - S1.length) = cells + (S'.length - S.length) := by omega
            have c2 : slots + (ab_tot S1 - ab_tot S) + (ab_tot S' - ab_tot S1) = slots + (ab_tot S' - ab_tot S) := by omega
            exact ab_r_alloc hC hal hl (ab_fetch_d hf) hF hcs (by omega) (by omega) (i4 p e R s m args below meth c _ _ Q Ts hC hF hts hU hR1 hR2 (by omega) (by rw [c1]; exact hr1) (by rw [c2]; exact hr2) (by rw [c1, c2]; exact hq))
          · cases hst
        · cases hst
    · rename_i r hst
      cases h
      unfold ab_step at hst
      split at hst
      · cases hst
      · rename_i hcore
        cases hst
        obtain ⟨rfl, rfl, hret⟩ := ab_ret_i hcore
        refine ⟨Nat.le_refl _, Nat.le_refl _, fun q => q, fun p e R s m args below meth c cells slots Q Ts hC hF hts hU hR1 hR2 hcs hr1 hr2 hq => ?_⟩
        intro H locs ls h2 h3 h4 h5
        have := hq H locs ls pc h2 h3 h4 hret
        rw [Nat.sub_self, Nat.sub_self] at this
        exact this
      · cases hst
      · split at hst
        · split at hst
          · obtain ⟨_, _, hst⟩ := Option.map_eq_some_iff.mp hst
            cases hst
          · cases hst
        · cases hst
    · rename_i k' as pc1 L1 st1 hst
      cases d with
      | zero => cases h
      | succ d =>
        simp only at h
        split at h
        · rename_i v1 h1 hrun
          obtain ⟨S1, μ1⟩ := h1
          obtain ⟨i1, i2, i3, i4⟩ := ih (d + 1) k pc1 L1 _ S1 S' μ1 μ' v h
          obtain ⟨j1, j2, j3, -⟩ := ih d k' 0 _ [] S S1 μ μ1 v1 hrun
          have hcore : ab_core E S k pc L st μ = some (.inr (.inr (k', as, pc1, L1, st1))) := by
            unfold ab_step at hst
            split at hst
            · cases hst
            · cases hst
            · rename_i e1; cases hst; exact e1
            · split at hst
              · split at hst
                · obtain ⟨_, _, hst⟩ := Option.map_eq_some_iff.mp hst
                  cases hst
                · cases hst
              · cases hst
          obtain ⟨rfl, rfl, q1, q2, q3, q4⟩ := ab_call_i hcore
          have hk' : k' < ab_nM := by
            rcases q4 with ⟨j, r, As, -, hj, -⟩ | ⟨j, -, hj, -⟩ | ⟨j, r, As, -, hj, -⟩
            · exact (ab_okmlV hj).2.2.2
            · rcases List.mem_append.mp hj with hj | hj
              · exact (ab_okmlS hj).2.2
              · exact (ab_okmlSN hj).2
            · rcases List.mem_append.mp hj with hj | hj
              · exact (ab_okmlI hj).2.2.1
              · exact (ab_okmlIN hj).2.1
          refine ⟨Nat.le_trans j1 i1, Nat.le_trans j2 i2, fun q => i3 (j3 q), fun p e R s m args below meth c cells slots Q Ts hC hF hts hU hR1 hR2 hcs hr1 hr2 hq => ?_⟩
          have c1 : cells + (S1.length - S.length) + (S'.length - S1.length) = cells + (S'.length - S.length) := by omega
          have c2 : slots + (ab_tot S1 - ab_tot S) + (ab_tot S' - ab_tot S1) = slots + (ab_tot S' - ab_tot S) := by omega
          exact ab_r_call hC hF hts hU hk' q1 q4 (ab_met hk' ih q2 q3 hrun) hR1 hR2 hcs (by omega) (by omega) (i4 p e R s m args below meth c _ _ Q Ts hC hF hts hU hR1 hR2 (by omega) (by rw [c1]; exact hr1) (by rw [c2]; exact hr2) (by rw [c1, c2]; exact hq))
        · cases h
    · cases h
