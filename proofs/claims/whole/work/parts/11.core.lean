section
variable {p : Program} {l : Launch} {e : Env} {R : Room} {s : State} {m : MethodId} {args : Array Value} {below : List Frame} {meth : Method} {c : Code} {cells slots : Nat} {Q : State → Prop}
variable {D : va_G} {cT : Nat → ClassId} {ad : Nat → Nat} {B0 : Nat} {E : ab_E} {k pc pc' : Nat} {S : List ab_C} {L L' : ab_L} {st st' : List Value} {μ μ' : ab_M}
theorem ab_fetch_d {i : Instr} {n : Nat} (h : ab_fetch k pc = some (i, n)) : decode (ab_B k) pc = .ok (i, n) := by
  unfold ab_fetch at h
  split at h
  · rename_i r e; rw [e]; cases h; rfl
  · cases h
theorem ab_r_spe {j : Nat} (hR : 1 ≤ R.frames ∧ 100 ≤ R.locals) (h : ab_spe k pc j L st μ = some (.inl (pc', L', st', μ'))) (hF : ab_Fr p s m args meth c k) (hd : decode (ab_B k) pc = .ok (.invokespecial j, 3))
    (g : ab_Go p l e R s m args below meth c D cT ad B0 k Q cells slots S μ' pc' L' st') : ab_Go p l e R s m args below meth c D cT ad B0 k Q cells slots S μ pc L st := by
  obtain ⟨hx, hb, hml, hr, hlk, hin, hown, hts⟩ := hF
  unfold ab_spe at h
  split at h
  · split at h
    · split at h
      · unfold ab_cal at h
        split at h <;> cases h
      · cases h
    · cases h
  · split at h
    · rename_i r rest
      split at h
      · rename_i hq
        obtain ⟨rfl, rfl, rfl, rfl⟩ := ab_nx_i h
        intro H locs ls h2 h3 h4 h5
        have hs : ((st'.map (ab_tr ad)).map fun v => v.category).sum ≤ 8 := by rw [ab_sum]; exact hq.2
        exact W.objInit hx hb hown (hts _ (ab_okO hq.1)) (hts _ ab_oO1) (hts _ ab_oO2) rfl (by rw [hml]; exact h5.1) rfl hd hR.1 (by have := lv_room (m := m) (pc := pc) (ls := ls) (rest := (Value.ref r :: st').map (ab_tr ad)) hs; exact Nat.le_trans (Nat.add_le_add_right this 12) (by omega)) (g H locs ls h2 h3 h4 h5)
      · cases h
    · cases h
theorem ab_r_core (hC : ab_Ctx D cT ad B0 E s) (hR : 1 ≤ R.frames ∧ 100 ≤ R.locals) (h : ab_core E S k pc L st μ = some (.inl (pc', L', st', μ'))) (hF : ab_Fr p s m args meth c k)
    (g : ab_Go p l e R s m args below meth c D cT ad B0 k Q cells slots S μ' pc' L' st') : ab_Go p l e R s m args below meth c D cT ad B0 k Q cells slots S μ pc L st := by
  have hx := hF.1
  have hb := hF.2.1
  unfold ab_core at h
  split at h
  · rename_i i n hf
    have hd := ab_fetch_d hf
    split at h
    · rename_i hl
      unfold ab_ex at h
      split at h
      · obtain rfl : n = 1 := by simpa [ab_len] using hl
        obtain ⟨rfl, rfl, rfl, rfl⟩ := ab_nx_i h
        exact fun H locs ls h2 h3 h4 h5 => lv_iconst hx hb hd rfl (g H locs ls h2 h3 h4 h5)
      · obtain rfl : n = 2 := by simpa [ab_len] using hl
        obtain ⟨rfl, rfl, rfl, rfl⟩ := ab_nx_i h
        exact fun H locs ls h2 h3 h4 h5 => lv_bipush hx hb hd rfl (g H locs ls h2 h3 h4 h5)
      · obtain rfl : n = 3 := by simpa [ab_len] using hl
        obtain ⟨rfl, rfl, rfl, rfl⟩ := ab_nx_i h
        exact fun H locs ls h2 h3 h4 h5 => lv_sipush hx hb hd rfl (g H locs ls h2 h3 h4 h5)
      · obtain rfl : n = 2 := by simpa [ab_len] using hl
        exact ab_r_ldc hC h hF hd g
      · obtain rfl : n = 3 := by simpa [ab_len] using hl
        exact ab_r_ldcw h hF hd g
      · obtain rfl : n = 2 := by simpa [ab_len] using hl
        exact ab_r_ldI h (fun x rest H locs ls hq k => lv_iload hx hb hd hq k) g
      · obtain rfl : n = 1 := by simpa [ab_len] using hl
        exact ab_r_ldI h (fun x rest H locs ls hq k => lv_iload_n hx hb hd rfl hq k) g
      · obtain rfl : n = 2 := by simpa [ab_len] using hl
        exact ab_r_ldA h (fun x rest H locs ls hq k => lv_aload hx hb hd hq k) g
      · obtain rfl : n = 1 := by simpa [ab_len] using hl
        exact ab_r_ldA h (fun x rest H locs ls hq k => lv_aload_n hx hb hd rfl hq k) g
      · obtain rfl : n = 2 := by simpa [ab_len] using hl
        exact ab_r_stI h (fun x rest H locs ls nL lv h1 h2 k => lv_istore hx hb hd h1 h2 rfl k) g
      · obtain rfl : n = 1 := by simpa [ab_len] using hl
        exact ab_r_stI h (fun x rest H locs ls nL lv h1 h2 k => lv_istore_n hx hb hd rfl h1 h2 rfl k) g
      · obtain rfl : n = 2 := by simpa [ab_len] using hl
        exact ab_r_stA h (fun x rest H locs ls nL lv h1 h2 k => lv_astore hx hb hd h1 h2 rfl k) g
      · obtain rfl : n = 1 := by simpa [ab_len] using hl
        exact ab_r_stA h (fun x rest H locs ls nL lv h1 h2 k => lv_astore_n hx hb hd rfl h1 h2 rfl k) g
      · obtain rfl : n = 3 := by simpa [ab_len] using hl
        exact ab_r_inc h hF hd g
      · obtain rfl : n = 1 := by simpa [ab_len] using hl
        exact ab_r_bin h (fun x y rest H locs ls k => lv_iadd hx hb hd k) g
      · obtain rfl : n = 1 := by simpa [ab_len] using hl
        exact ab_r_bin h (fun x y rest H locs ls k => lv_isub hx hb hd k) g
      · obtain rfl : n = 1 := by simpa [ab_len] using hl
        exact ab_r_bin h (fun x y rest H locs ls k => lv_imul hx hb hd k) g
      · obtain rfl : n = 1 := by simpa [ab_len] using hl
        exact ab_r_bin h (fun x y rest H locs ls k => lv_iand hx hb hd k) g
      · obtain rfl : n = 1 := by simpa [ab_len] using hl
        exact ab_r_bin h (fun x y rest H locs ls k => lv_ior hx hb hd k) g
      · obtain rfl : n = 1 := by simpa [ab_len] using hl
        exact ab_r_bin h (fun x y rest H locs ls k => lv_ixor hx hb hd k) g
      · obtain rfl : n = 1 := by simpa [ab_len] using hl
        exact ab_r_dv h (fun x y rest H locs ls h0 k => lv_idiv hx hb hd h0 k) g
      · obtain rfl : n = 1 := by simpa [ab_len] using hl
        exact ab_r_dv h (fun x y rest H locs ls h0 k => lv_irem hx hb hd h0 k) g
      · obtain rfl : n = 1 := by simpa [ab_len] using hl
        exact ab_r_un h (fun x rest H locs ls k => lv_ineg hx hb hd k) g
      · obtain rfl : n = 1 := by simpa [ab_len] using hl
        exact ab_r_bin h (fun x y rest H locs ls k => lv_ishl hx hb hd k) g
      · obtain rfl : n = 1 := by simpa [ab_len] using hl
        exact ab_r_bin h (fun x y rest H locs ls k => lv_ishr hx hb hd k) g
      · obtain rfl : n = 1 := by simpa [ab_len] using hl
        exact ab_r_bin h (fun x y rest H locs ls k => lv_iushr hx hb hd rfl k) g
      · obtain rfl : n = 1 := by simpa [ab_len] using hl
        exact ab_r_un h (fun x rest H locs ls k => lv_i2b hx hb hd rfl k) g
      · obtain rfl : n = 1 := by simpa [ab_len] using hl
        exact ab_r_un h (fun x rest H locs ls k => lv_i2s hx hb hd rfl k) g
      · obtain rfl : n = 1 := by simpa [ab_len] using hl
        exact ab_r_un h (fun x rest H locs ls k => lv_i2c hx hb hd rfl k) g
      · obtain rfl : n = 1 := by simpa [ab_len] using hl
        split at h
        · obtain ⟨rfl, rfl, rfl, rfl⟩ := ab_nx_i h
          exact fun H locs ls h2 h3 h4 h5 => lv_dup hx hb hd rfl (g H locs ls h2 h3 h4 h5)
        · obtain ⟨rfl, rfl, rfl, rfl⟩ := ab_nx_i h
          exact fun H locs ls h2 h3 h4 h5 => lv_dup hx hb hd rfl (g H locs ls h2 h3 h4 h5)
        · cases h
      · obtain rfl : n = 1 := by simpa [ab_len] using hl
        split at h
        · obtain ⟨rfl, rfl, rfl, rfl⟩ := ab_nx_i h
          exact fun H locs ls h2 h3 h4 h5 => lv_dup2_11 hx hb hd rfl rfl (g H locs ls h2 h3 h4 h5)
        · cases h
      · obtain rfl : n = 1 := by simpa [ab_len] using hl
        split at h
        · obtain ⟨rfl, rfl, rfl, rfl⟩ := ab_nx_i h
          exact fun H locs ls h2 h3 h4 h5 => lv_pop hx hb hd rfl (g H locs ls h2 h3 h4 h5)
        · cases h
      · obtain rfl : n = 3 := by simpa [ab_len] using hl
        exact ab_r_br2 h (fun x y rest H locs ls tgt ht k1 k2 => lv_icmp_eq hx hb hd ht (fun q => k1 (decide_eq_true q)) (fun q => k2 (fun z => q (of_decide_eq_true z)))) g
      · obtain rfl : n = 3 := by simpa [ab_len] using hl
        exact ab_r_br2 h (fun x y rest H locs ls tgt ht k1 k2 => lv_icmp_ne hx hb hd ht (fun q => k1 (decide_eq_true q)) (fun q => k2 (fun z => (of_decide_eq_true z) q))) g
      · obtain rfl : n = 3 := by simpa [ab_len] using hl
        exact ab_r_br2 h (fun x y rest H locs ls tgt ht k1 k2 => lv_icmp_lt hx hb hd ht (fun q => k1 (decide_eq_true q)) (fun q => k2 (fun z => q (of_decide_eq_true z)))) g
      · obtain rfl : n = 3 := by simpa [ab_len] using hl
        exact ab_r_br2 h (fun x y rest H locs ls tgt ht k1 k2 => lv_icmp_ge hx hb hd ht (fun q => k1 (decide_eq_true q)) (fun q => k2 (fun z => q (of_decide_eq_true z)))) g
      · obtain rfl : n = 3 := by simpa [ab_len] using hl
        exact ab_r_br2 h (fun x y rest H locs ls tgt ht k1 k2 => lv_icmp_gt hx hb hd ht (fun q => k1 (decide_eq_true q)) (fun q => k2 (fun z => q (of_decide_eq_true z)))) g
      · obtain rfl : n = 3 := by simpa [ab_len] using hl
        exact ab_r_br2 h (fun x y rest H locs ls tgt ht k1 k2 => lv_icmp_le hx hb hd ht (fun q => k1 (decide_eq_true q)) (fun q => k2 (fun z => q (of_decide_eq_true z)))) g
      · obtain rfl : n = 3 := by simpa [ab_len] using hl
        exact ab_r_br1 h (fun x rest H locs ls tgt ht k1 k2 => lv_if_eq hx hb hd ht (fun q => k1 (decide_eq_true q)) (fun q => k2 (fun z => q (of_decide_eq_true z)))) g
      · obtain rfl : n = 3 := by simpa [ab_len] using hl
        exact ab_r_br1 h (fun x rest H locs ls tgt ht k1 k2 => lv_if_ne hx hb hd ht (fun q => k1 (decide_eq_true q)) (fun q => k2 (fun z => (of_decide_eq_true z) q))) g
      · obtain rfl : n = 3 := by simpa [ab_len] using hl
        exact ab_r_br1 h (fun x rest H locs ls tgt ht k1 k2 => lv_if_lt hx hb hd ht (fun q => k1 (decide_eq_true q)) (fun q => k2 (fun z => q (of_decide_eq_true z)))) g
      · obtain rfl : n = 3 := by simpa [ab_len] using hl
        exact ab_r_br1 h (fun x rest H locs ls tgt ht k1 k2 => lv_if_ge hx hb hd ht (fun q => k1 (decide_eq_true q)) (fun q => k2 (fun z => q (of_decide_eq_true z)))) g
      · obtain rfl : n = 3 := by simpa [ab_len] using hl
        exact ab_r_br1 h (fun x rest H locs ls tgt ht k1 k2 => lv_if_gt hx hb hd ht (fun q => k1 (decide_eq_true q)) (fun q => k2 (fun z => q (of_decide_eq_true z)))) g
      · obtain rfl : n = 3 := by simpa [ab_len] using hl
        exact ab_r_br1 h (fun x rest H locs ls tgt ht k1 k2 => lv_if_le hx hb hd ht (fun q => k1 (decide_eq_true q)) (fun q => k2 (fun z => q (of_decide_eq_true z)))) g
      · obtain rfl : n = 3 := by simpa [ab_len] using hl
        obtain ⟨ht, rfl, rfl, rfl⟩ := ab_jp_i h
        exact fun H locs ls h2 h3 h4 h5 => lv_goto hx hb hd ht (g H locs ls h2 h3 h4 h5)
      · exact ab_r_tsw h hF hd g
      · exact ab_r_lsw h hF hd g
      · obtain rfl : n = 3 := by simpa [ab_len] using hl
        exact ab_r_getf hC h hF hd g
      · obtain rfl : n = 3 := by simpa [ab_len] using hl
        exact ab_r_putf hC h hF hd g
      · obtain rfl : n = 1 := by simpa [ab_len] using hl
        exact ab_r_iald hC h hF hd g
      · obtain rfl : n = 1 := by simpa [ab_len] using hl
        exact ab_r_bald hC h hF hd g
      · obtain rfl : n = 1 := by simpa [ab_len] using hl
        exact ab_r_cald hC h hF hd g
      · obtain rfl : n = 1 := by simpa [ab_len] using hl
        exact ab_r_ast (by decide) (by decide) hC h (fun x i r n rest H locs ls a1 a2 a3 a4 a5 kk => va_iast hx hb hC.1 a1 a2 a3 r 0 a4 rfl a5 hd (fun H1 locs1 e1 e2 e3 => kk H1 locs1 e1 e3)) g
      · obtain rfl : n = 1 := by simpa [ab_len] using hl
        exact ab_r_ast (by decide) (by decide) hC h (fun x i r n rest H locs ls a1 a2 a3 a4 a5 kk => va_zast hx hb hC.1 a1 a2 a3 r 1 a4 rfl a5 hd (fun H1 locs1 e1 e2 e3 => kk H1 locs1 e1 e3)) g
      · obtain rfl : n = 1 := by simpa [ab_len] using hl
        exact ab_r_ast (by decide) (by decide) hC h (fun x i r n rest H locs ls a1 a2 a3 a4 a5 kk => va_cast hx hb hC.1 a1 a2 a3 r 2 a4 rfl a5 hd (fun H1 locs1 e1 e2 e3 => kk H1 locs1 e1 e3)) g
      · obtain rfl : n = 1 := by simpa [ab_len] using hl
        exact ab_r_aald hC h hF hd g
      · obtain rfl : n = 1 := by simpa [ab_len] using hl
        exact ab_r_alen hC h hF hd g
      · obtain rfl : n = 3 := by simpa [ab_len] using hl
        exact ab_r_gets hC h hF hd g
      · unfold ab_vir at h
        split at h
        · split at h
          · split at h
            · unfold ab_cal at h
              split at h <;> cases h
            · cases h
          · cases h
        · cases h
      · obtain rfl : n = 3 := by simpa [ab_len] using hl
        unfold ab_sta at h
        split at h
        · split at h
          · unfold ab_cal at h
            split at h <;> cases h
          · cases h
        · split at h
          · exact ab_r_acp hC hR (by assumption) h hF hd g
          · cases h
      · obtain rfl : n = 3 := by simpa [ab_len] using hl
        exact ab_r_spe hR h hF hd g
      · unfold ab_retI at h
        split at h
        · split at h <;> cases h
        · cases h
      · unfold ab_retA at h
        split at h <;> cases h
      · unfold ab_retV at h
        split at h <;> cases h
      · cases h
    · cases h
  · cases h
end
