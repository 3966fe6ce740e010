section
variable {p : Program} {l : Launch} {e : Env} {R : Room} {s : State} {m : MethodId} {args : Array Value} {below : List Frame} {meth : Method} {c : Code} {cells slots : Nat} {Q : State → Prop}
variable {D : va_G} {cT : Nat → ClassId} {ad : Nat → Nat} {B0 : Nat} {E : ab_E} {k pc pc' : Nat} {S : List ab_C} {L L' : ab_L} {st st' : List Value} {μ μ' : ab_M}
theorem ab_r_iald (hC : ab_Ctx D cT ad B0 E s) (h : ab_ald E S [1, 9] pc L st μ = some (.inl (pc', L', st', μ'))) (hF : ab_Fr p s m args meth c k) (hd : decode (ab_B k) pc = .ok (.iaload, 1))
    (g : ab_Go p l e R s m args below meth c D cT ad B0 k Q cells slots S μ' pc' L' st') : ab_Go p l e R s m args below meth c D cT ad B0 k Q cells slots S μ pc L st := by
  obtain ⟨hx, hb, hml, hr, hlk, hin, hown, hts⟩ := hF
  unfold ab_ald at h
  split at h
  · rename_i i r rest
    split at h
    · rename_i v hv
      obtain ⟨rfl, rfl, rfl, rfl⟩ := ab_nx_i h
      intro H locs ls h2 h3 h4 h5
      have g2 : W p l e R s m args below meth c H locs cells slots Q (F0 m (pc + 1) ls (.int v :: rest.map (ab_tr ad))) := g H locs ls h2 h3 h4 h5
      unfold ab_av at hv
      split at hv
      · rename_i t n vs hcell
        split at hv
        · rename_i hq
          obtain ⟨ht, hi⟩ := hq
          simp only [List.mem_cons, List.not_mem_nil, or_false] at ht
          rcases ht with rfl | rfl
          · obtain ⟨hr9, hS⟩ := ab_cell_S hcell (by simp)
            rw [if_neg (by decide), if_neg (by decide)] at hv
            cases hv
            exact va_iald hx hb hC.1 h3 r 0 (by rw [ab_wd_at hS, ab_w1_a (by decide) (by decide)]) rfl hi hd g2
          · obtain ⟨rfl, rfl⟩ := ab_cell_9 hcell
            rw [if_neg (by decide), if_pos rfl] at hv
            cases hv
            exact va_sld hx hb hC.2.2.2.2.2.2.2.1 (Nat.lt_of_lt_of_le hC.2.2.2.2.2.2.2.2.1 hC.2.2.2.2.2.2.2.2.2.1) (Nat.not_le.mpr hC.2.2.2.2.2.2.2.2.1) h4 hi hd g2
        · cases hv
      · cases hv
    · cases h
  · cases h
theorem ab_r_bald (hC : ab_Ctx D cT ad B0 E s) (h : ab_ald E S [2, 4] pc L st μ = some (.inl (pc', L', st', μ'))) (hF : ab_Fr p s m args meth c k) (hd : decode (ab_B k) pc = .ok (.baload, 1))
    (g : ab_Go p l e R s m args below meth c D cT ad B0 k Q cells slots S μ' pc' L' st') : ab_Go p l e R s m args below meth c D cT ad B0 k Q cells slots S μ pc L st := by
  obtain ⟨hx, hb, hml, hr, hlk, hin, hown, hts⟩ := hF
  unfold ab_ald at h
  split at h
  · rename_i i r rest
    split at h
    · rename_i v hv
      obtain ⟨rfl, rfl, rfl, rfl⟩ := ab_nx_i h
      intro H locs ls h2 h3 h4 h5
      have g2 : W p l e R s m args below meth c H locs cells slots Q (F0 m (pc + 1) ls (.int v :: rest.map (ab_tr ad))) := g H locs ls h2 h3 h4 h5
      unfold ab_av at hv
      split at hv
      · rename_i t n vs hcell
        split at hv
        · rename_i hq
          obtain ⟨ht, hi⟩ := hq
          simp only [List.mem_cons, List.not_mem_nil, or_false] at ht
          rcases ht with rfl | rfl
          · obtain ⟨hr9, hS⟩ := ab_cell_S hcell (by simp)
            rw [if_neg (by decide), if_neg (by decide)] at hv
            cases hv
            exact va_zald hx hb hC.1 h3 r 1 (by rw [ab_wd_at hS, ab_w1_a (by decide) (by decide)]) rfl hi hd g2
          · obtain ⟨q, hq, rfl, rfl, e1⟩ := ab_cell_4 hcell
            rw [if_pos rfl, e1] at hv
            cases hv
            exact va_tb hx hb (hC.2.2.2.2.1.1 q hq).2.2.2 h4 hi rfl hd g2
        · cases hv
      · cases hv
    · cases h
  · cases h
theorem ab_r_cald (hC : ab_Ctx D cT ad B0 E s) (h : ab_ald E S [3] pc L st μ = some (.inl (pc', L', st', μ'))) (hF : ab_Fr p s m args meth c k) (hd : decode (ab_B k) pc = .ok (.caload, 1))
    (g : ab_Go p l e R s m args below meth c D cT ad B0 k Q cells slots S μ' pc' L' st') : ab_Go p l e R s m args below meth c D cT ad B0 k Q cells slots S μ pc L st := by
  obtain ⟨hx, hb, hml, hr, hlk, hin, hown, hts⟩ := hF
  unfold ab_ald at h
  split at h
  · rename_i i r rest
    split at h
    · rename_i v hv
      obtain ⟨rfl, rfl, rfl, rfl⟩ := ab_nx_i h
      intro H locs ls h2 h3 h4 h5
      have g2 : W p l e R s m args below meth c H locs cells slots Q (F0 m (pc + 1) ls (.int v :: rest.map (ab_tr ad))) := g H locs ls h2 h3 h4 h5
      unfold ab_av at hv
      split at hv
      · rename_i t n vs hcell
        split at hv
        · rename_i hq
          obtain ⟨ht, hi⟩ := hq
          simp only [List.mem_cons, List.not_mem_nil, or_false] at ht
          subst ht
          obtain ⟨hr9, hS⟩ := ab_cell_S hcell (by simp)
          rw [if_neg (by decide), if_neg (by decide)] at hv
          cases hv
          exact va_cald hx hb hC.1 h3 r 2 (by rw [ab_wd_at hS, ab_w1_a (by decide) (by decide)]) rfl hi hd g2
        · cases hv
      · cases hv
    · cases h
  · cases h
theorem ab_r_ast {t : Nat} {f : Int32 → Int32} (ht0 : t ≠ 0) (ht3 : t ≤ 3) (hC : ab_Ctx D cT ad B0 E s) (h : ab_ast S t f pc L st μ = some (.inl (pc', L', st', μ')))
    (row : ∀ (x i : Int32) (r n : Nat) (rest : List Value) (H : Heap) (locs : List Loc) (ls : Array Slot), va_P D ab_cm (ab_wd cT ad S μ) H → va_D (fun q => B0 ≤ q) (ab_wd cT ad S μ) → va_S (fun q => B0 ≤ q) s.heap H locs → (ab_wd cT ad S μ)[r]? = some (ad r, .inl (cT t, n, .inl (μ r))) → vp_in i n →
      (∀ (H1 : Heap) (locs1 : List Loc), va_P D ab_cm ((ab_wd cT ad S μ).set r (ad r, .inl (cT t, n, .inl (upd (μ r) i.toNatClampNeg (f x))))) H1 → va_S (fun q => B0 ≤ q) s.heap H1 locs1 → W p l e R s m args below meth c H1 locs1 cells slots Q (F0 m (pc + 1) ls rest)) → W p l e R s m args below meth c H locs cells slots Q (F0 m pc ls (.int x :: .int i :: .ref (ad r) :: rest)))
    (g : ab_Go p l e R s m args below meth c D cT ad B0 k Q cells slots S μ' pc' L' st') : ab_Go p l e R s m args below meth c D cT ad B0 k Q cells slots S μ pc L st := by
  have had := hC.2.2.2.2.2.2.2.2.2.2.1
  unfold ab_ast at h
  split at h
  · rename_i x i r rest
    split at h
    · split at h
      · rename_i t' n vs hS
        split at h
        · rename_i hq
          obtain ⟨rfl, hi⟩ := hq
          obtain ⟨rfl, rfl, rfl, rfl⟩ := ab_nx_i h
          intro H locs ls h2 h3 h4 h5
          refine row x i r n _ H locs ls h3 (ab_D had h2) h4 (by rw [ab_wd_at hS, ab_w1_a ht0 ht3]) hi (fun H1 locs1 e1 e3 => ?_)
          have e4 : (ab_wd cT ad S μ).set r (ab_w1 cT ad (ab_up μ r i.toNatClampNeg (f x)) r (t', n, vs)) = ab_wd cT ad S (ab_up μ r i.toNatClampNeg (f x)) := ab_wd_set hS (fun a ha => by simp [ab_up, ha])
          rw [ab_w1_a ht0 ht3, show ab_up μ r i.toNatClampNeg (f x) r = upd (μ r) i.toNatClampNeg (f x) by simp [ab_up]] at e4
          rw [e4] at e1
          exact g H1 locs1 ls h2 e1 e3 h5
        · cases h
      · cases h
    · cases h
  · cases h
theorem ab_r_aald (hC : ab_Ctx D cT ad B0 E s) (h : ab_aald S pc L st μ = some (.inl (pc', L', st', μ'))) (hF : ab_Fr p s m args meth c k) (hd : decode (ab_B k) pc = .ok (.aaload, 1))
    (g : ab_Go p l e R s m args below meth c D cT ad B0 k Q cells slots S μ' pc' L' st') : ab_Go p l e R s m args below meth c D cT ad B0 k Q cells slots S μ pc L st := by
  obtain ⟨hx, hb, hml, hr, hlk, hin, hown, hts⟩ := hF
  unfold ab_aald at h
  split at h
  · rename_i i r rest
    split at h
    · split at h
      · rename_i t n vs hS
        split at h
        · rename_i hq
          obtain ⟨ht, hi⟩ := hq
          split at h
          · rename_i q hv
            obtain ⟨rfl, rfl, rfl, rfl⟩ := ab_nx_i h
            intro H locs ls h2 h3 h4 h5
            have g2 : W p l e R s m args below meth c H locs cells slots Q (F0 m (pc + 1) ls (va_rf (ab_q1 ad vs i.toNatClampNeg) :: rest.map (ab_tr ad))) := by
              unfold ab_q1; rw [hv]; exact g H locs ls h2 h3 h4 h5
            rcases ht with rfl | rfl | rfl
            · have hlt : i.toNatClampNeg < n := Nat.not_le.mp fun q => hi (Or.inr q)
              have ha : (ab_wd cT ad S μ')[r]? = some (ad r, .inl (cT 5, n, .inr (.inr (.inr (.inr (ab_q1 ad vs)))))) := by rw [ab_wd_at hS, ab_w1_q (by decide)]
              have ht : (ab_tys cT)[3]? = some (cT 5, .array .int) := rfl
              exact W.aald (v := va_rf (ab_q1 ad vs i.toNatClampNeg)) (ty := .array .int) hx hb (h3 r _ ha) ((hC.1.2 3 _ ht).1 n (fun j => va_rf (ab_q1 ad vs j))) rfl (fun q => by cases q) (by show ¬ (i < 0 ∨ (arrV _ _ _).slots.size ≤ _); rw [arrV_size]; exact hi) (by show (arrV _ _ _).slots[_]? = _; rw [arrV_read _ _ hlt]) rfl rfl hd g2
            · exact va_aldq hx hb hC.1 h3 r 4 (by rw [ab_wd_at hS, ab_w1_q (by decide)]) rfl hi hd g2
            · exact va_aldq hx hb hC.1 h3 r 5 (by rw [ab_wd_at hS, ab_w1_q (by decide)]) rfl hi hd g2
          · cases h
        · cases h
      · cases h
    · cases h
  · cases h
theorem ab_r_alen (hC : ab_Ctx D cT ad B0 E s) (h : ab_alen E S pc L st μ = some (.inl (pc', L', st', μ'))) (hF : ab_Fr p s m args meth c k) (hd : decode (ab_B k) pc = .ok (.arraylength, 1))
    (g : ab_Go p l e R s m args below meth c D cT ad B0 k Q cells slots S μ' pc' L' st') : ab_Go p l e R s m args below meth c D cT ad B0 k Q cells slots S μ pc L st := by
  obtain ⟨hx, hb, hml, hr, hlk, hin, hown, hts⟩ := hF
  unfold ab_alen at h
  split at h
  · rename_i r rest
    split at h
    · rename_i t n vs hcell
      split at h
      · rename_i ht
        obtain ⟨rfl, rfl, rfl, rfl⟩ := ab_nx_i h
        intro H locs ls h2 h3 h4 h5
        have g2 : W p l e R s m args below meth c H locs cells slots Q (F0 m (pc + 1) ls (.int (Int32.ofNat n) :: rest.map (ab_tr ad))) := g H locs ls h2 h3 h4 h5
        rcases ht with rfl | rfl | rfl
        · obtain ⟨hr9, hS⟩ := ab_cell_S hcell (by simp)
          exact va_alen hx hb hC.1 h3 r 0 (by rw [ab_wd_at hS, ab_w1_a (by decide) (by decide)]) (ty := .int) rfl rfl hd g2
        · obtain ⟨q, hq, rfl, rfl, e1⟩ := ab_cell_4 hcell
          exact va_tlen hx hb (hC.2.2.2.2.1.1 q hq).2.2.2 h4 rfl hd g2
        · obtain ⟨rfl, rfl⟩ := ab_cell_9 hcell
          exact va_slen hx hb hC.2.2.2.2.2.2.2.1 (Nat.lt_of_lt_of_le hC.2.2.2.2.2.2.2.2.1 hC.2.2.2.2.2.2.2.2.2.1) (Nat.not_le.mpr hC.2.2.2.2.2.2.2.2.1) h4 hd g2
      · cases h
    · cases h
  · cases h
theorem ab_r_gets {j : Nat} (hC : ab_Ctx D cT ad B0 E s) (h : ab_gets E k pc j L st μ = some (.inl (pc', L', st', μ'))) (hF : ab_Fr p s m args meth c k) (hd : decode (ab_B k) pc = .ok (.getstatic j, 3))
    (g : ab_Go p l e R s m args below meth c D cT ad B0 k Q cells slots S μ' pc' L' st') : ab_Go p l e R s m args below meth c D cT ad B0 k Q cells slots S μ pc L st := by
  obtain ⟨hx, hb, hml, hr, hlk, hin, hown, hts⟩ := hF
  unfold ab_gets at h
  split at h
  · rename_i ho
    have hown9 : s.vm.findClass RJ0 = some m.cls := by rw [ho] at hown; exact hown
    split at h
    · rename_i ej
      subst ej
      obtain ⟨rfl, rfl, rfl, rfl⟩ := ab_nx_i h
      exact fun H locs ls h2 h3 h4 h5 => va_gets hx hb hC.2.2.2.2.2.1 h4 hown9 (hts _ ab_oS3) (fun _ h => h) hd (g H locs ls h2 h3 h4 h5)
    · split at h
      · rename_i ej
        subst ej
        obtain ⟨rfl, rfl, rfl, rfl⟩ := ab_nx_i h
        exact fun H locs ls h2 h3 h4 h5 => va_gets hx hb hC.2.2.2.2.2.2.1 h4 hown9 (hts _ ab_oS4) (fun _ h => h) hd (g H locs ls h2 h3 h4 h5)
      · cases h
  · cases h
theorem ab_cat (v : Value) : (ab_tr ad v).category = v.category := by cases v <;> rfl
theorem ab_sum (xs : List Value) : ((xs.map (ab_tr ad)).map fun v => v.category) = xs.map fun v => v.category := by
  rw [List.map_map]; exact List.map_congr_left (fun v _ => ab_cat v)
theorem ab_r_acp {j : Nat} (hC : ab_Ctx D cT ad B0 E s) (hR : 1 ≤ R.frames ∧ 100 ≤ R.locals) (hj : (ab_own k, j) ∈ ab_mlC) (h : ab_acp S pc L st μ = some (.inl (pc', L', st', μ'))) (hF : ab_Fr p s m args meth c k) (hd : decode (ab_B k) pc = .ok (.invokestatic j, 3))
    (g : ab_Go p l e R s m args below meth c D cT ad B0 k Q cells slots S μ' pc' L' st') : ab_Go p l e R s m args below meth c D cT ad B0 k Q cells slots S μ pc L st := by
  obtain ⟨hx, hb, hml, hr, hlk, hin, hown, hts⟩ := hF
  have had := hC.2.2.2.2.2.2.2.2.2.2.1
  unfold ab_acp at h
  split at h
  · rename_i n dp d sp r rest
    split at h
    · split at h
      · rename_i n0 _ n1 _ hS0 hS1
        split at h
        · rename_i hq
          obtain ⟨q1, q2, q3, q4, q5, q6⟩ := hq
          obtain ⟨rfl, rfl, rfl, rfl⟩ := ab_nx_i h
          intro H locs ls h2 h3 h4 h5
          refine va_copyi hx hb (by rw [hml, h5.1]) hown (hts _ (ab_okC hj)) (hts _ ab_oC1) (hts _ ab_oC2) (hts _ ab_oC3) hC.1 h3 (ab_D had h2) h4 r d 0 0 (by rw [ab_wd_at hS0, ab_w1_a (by decide) (by decide)]) (by rw [ab_wd_at hS1, ab_w1_a (by decide) (by decide)]) (ty := .int) rfl rfl rfl q1 q2 q3 q4 q5 (fun _ _ => rfl) hR.1 ?_ hd (fun H1 locs1 e1 e2 e3 => ?_)
          · rw [ab_sum]
            have : nativeFrameWords "java/lang/System" "arraycopy" 5 ≤ 40 := by decide +kernel
            omega
          · have e4 : (ab_wd cT ad S μ).set d (ab_w1 cT ad (ab_upA μ d (va_cpy (μ r) (μ d) sp.toNatClampNeg dp.toNatClampNeg n.toNatClampNeg)) d (1, n1, _)) = ab_wd cT ad S (ab_upA μ d (va_cpy (μ r) (μ d) sp.toNatClampNeg dp.toNatClampNeg n.toNatClampNeg)) := ab_wd_set hS1 (fun a ha => by simp [ab_upA, ha])
            rw [ab_w1_a (by decide) (by decide), show ab_upA μ d (va_cpy (μ r) (μ d) sp.toNatClampNeg dp.toNatClampNeg n.toNatClampNeg) d = va_cpy (μ r) (μ d) sp.toNatClampNeg dp.toNatClampNeg n.toNatClampNeg by simp [ab_upA]] at e4
            rw [e4] at e1
            exact g H1 locs1 ls h2 e1 e3 h5
        · cases h
      · cases h
    · cases h
  · cases h
end
