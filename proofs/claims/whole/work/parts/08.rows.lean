/-! ROW BY ROW: a step of the abstract machine is a step of the machine -/
section
variable {p : Program} {l : Launch} {e : Env} {R : Room} {s : State} {m : MethodId} {args : Array Value} {below : List Frame} {meth : Method} {c : Code} {cells slots : Nat} {Q : State → Prop}
variable {D : va_G} {cT : Nat → ClassId} {ad : Nat → Nat} {B0 : Nat} {E : ab_E} {k pc pc' : Nat} {S : List ab_C} {L L' : ab_L} {st st' : List Value} {μ μ' : ab_M}
theorem ab_nx_i (h : ab_nx pc L st μ = some (.inl (pc', L', st', μ'))) : pc' = pc ∧ L' = L ∧ st' = st ∧ μ' = μ := by
  unfold ab_nx at h; cases h; exact ⟨rfl, rfl, rfl, rfl⟩
theorem ab_jp_i {off : Int} (h : ab_jp pc off L st μ = some (.inl (pc', L', st', μ'))) : (pc : Int) + off = (pc' : Int) ∧ L' = L ∧ st' = st ∧ μ' = μ := by
  unfold ab_jp at h
  split at h
  · rename_i h0
    obtain ⟨rfl, rfl, rfl, rfl⟩ := ab_nx_i h
    exact ⟨(Int.toNat_of_nonneg h0).symm, rfl, rfl, rfl⟩
  · cases h
theorem ab_r_bin {f : Int32 → Int32 → Int32} (h : ab_bin pc f L st μ = some (.inl (pc', L', st', μ'))) (row : ∀ (x y : Int32) (rest : List Value) (H : Heap) (locs : List Loc) (ls : Array Slot), W p l e R s m args below meth c H locs cells slots Q (F0 m (pc + 1) ls (.int (f x y) :: rest)) → W p l e R s m args below meth c H locs cells slots Q (F0 m pc ls (.int y :: .int x :: rest)))
    (g : ab_Go p l e R s m args below meth c D cT ad B0 k Q cells slots S μ' pc' L' st') : ab_Go p l e R s m args below meth c D cT ad B0 k Q cells slots S μ pc L st := by
  unfold ab_bin at h
  split at h
  · obtain ⟨rfl, rfl, rfl, rfl⟩ := ab_nx_i h
    exact fun H locs ls h2 h3 h4 h5 => row _ _ _ H locs ls (g H locs ls h2 h3 h4 h5)
  · cases h
theorem ab_r_dv {f : Int32 → Int32 → Int32} (h : ab_dv pc f L st μ = some (.inl (pc', L', st', μ'))) (row : ∀ (x y : Int32) (rest : List Value) (H : Heap) (locs : List Loc) (ls : Array Slot), ¬ y = 0 → W p l e R s m args below meth c H locs cells slots Q (F0 m (pc + 1) ls (.int (f x y) :: rest)) → W p l e R s m args below meth c H locs cells slots Q (F0 m pc ls (.int y :: .int x :: rest)))
    (g : ab_Go p l e R s m args below meth c D cT ad B0 k Q cells slots S μ' pc' L' st') : ab_Go p l e R s m args below meth c D cT ad B0 k Q cells slots S μ pc L st := by
  unfold ab_dv at h
  split at h
  · split at h
    · cases h
    · rename_i h0
      obtain ⟨rfl, rfl, rfl, rfl⟩ := ab_nx_i h
      exact fun H locs ls h2 h3 h4 h5 => row _ _ _ H locs ls h0 (g H locs ls h2 h3 h4 h5)
  · cases h
theorem ab_r_un {f : Int32 → Int32} (h : ab_un pc f L st μ = some (.inl (pc', L', st', μ'))) (row : ∀ (x : Int32) (rest : List Value) (H : Heap) (locs : List Loc) (ls : Array Slot), W p l e R s m args below meth c H locs cells slots Q (F0 m (pc + 1) ls (.int (f x) :: rest)) → W p l e R s m args below meth c H locs cells slots Q (F0 m pc ls (.int x :: rest)))
    (g : ab_Go p l e R s m args below meth c D cT ad B0 k Q cells slots S μ' pc' L' st') : ab_Go p l e R s m args below meth c D cT ad B0 k Q cells slots S μ pc L st := by
  unfold ab_un at h
  split at h
  · obtain ⟨rfl, rfl, rfl, rfl⟩ := ab_nx_i h
    exact fun H locs ls h2 h3 h4 h5 => row _ _ H locs ls (g H locs ls h2 h3 h4 h5)
  · cases h
theorem ab_r_br2 {off : Int} {f : Int32 → Int32 → Bool} (h : ab_br2 pc off f L st μ = some (.inl (pc', L', st', μ'))) (row : ∀ (x y : Int32) (rest : List Value) (H : Heap) (locs : List Loc) (ls : Array Slot) (tgt : Nat), (pc : Int) + off = (tgt : Int) → (f x y = true → W p l e R s m args below meth c H locs cells slots Q (F0 m tgt ls rest)) → (¬ f x y = true → W p l e R s m args below meth c H locs cells slots Q (F0 m (pc + 3) ls rest)) → W p l e R s m args below meth c H locs cells slots Q (F0 m pc ls (.int y :: .int x :: rest)))
    (g : ab_Go p l e R s m args below meth c D cT ad B0 k Q cells slots S μ' pc' L' st') : ab_Go p l e R s m args below meth c D cT ad B0 k Q cells slots S μ pc L st := by
  unfold ab_br2 at h
  split at h
  · split at h
    · rename_i h0
      split at h
      · rename_i hf
        obtain ⟨rfl, rfl, rfl, rfl⟩ := ab_nx_i h
        exact fun H locs ls h2 h3 h4 h5 => row _ _ _ H locs ls _ (Int.toNat_of_nonneg h0).symm (fun _ => g H locs ls h2 h3 h4 h5) (fun q => absurd hf q)
      · rename_i hf
        obtain ⟨rfl, rfl, rfl, rfl⟩ := ab_nx_i h
        exact fun H locs ls h2 h3 h4 h5 => row _ _ _ H locs ls _ (Int.toNat_of_nonneg h0).symm (fun q => absurd q hf) (fun _ => g H locs ls h2 h3 h4 h5)
    · cases h
  · cases h
theorem ab_r_br1 {off : Int} {f : Int32 → Bool} (h : ab_br1 pc off f L st μ = some (.inl (pc', L', st', μ'))) (row : ∀ (x : Int32) (rest : List Value) (H : Heap) (locs : List Loc) (ls : Array Slot) (tgt : Nat), (pc : Int) + off = (tgt : Int) → (f x = true → W p l e R s m args below meth c H locs cells slots Q (F0 m tgt ls rest)) → (¬ f x = true → W p l e R s m args below meth c H locs cells slots Q (F0 m (pc + 3) ls rest)) → W p l e R s m args below meth c H locs cells slots Q (F0 m pc ls (.int x :: rest)))
    (g : ab_Go p l e R s m args below meth c D cT ad B0 k Q cells slots S μ' pc' L' st') : ab_Go p l e R s m args below meth c D cT ad B0 k Q cells slots S μ pc L st := by
  unfold ab_br1 at h
  split at h
  · split at h
    · rename_i h0
      split at h
      · rename_i hf
        obtain ⟨rfl, rfl, rfl, rfl⟩ := ab_nx_i h
        exact fun H locs ls h2 h3 h4 h5 => row _ _ H locs ls _ (Int.toNat_of_nonneg h0).symm (fun _ => g H locs ls h2 h3 h4 h5) (fun q => absurd hf q)
      · rename_i hf
        obtain ⟨rfl, rfl, rfl, rfl⟩ := ab_nx_i h
        exact fun H locs ls h2 h3 h4 h5 => row _ _ H locs ls _ (Int.toNat_of_nonneg h0).symm (fun q => absurd q hf) (fun _ => g H locs ls h2 h3 h4 h5)
    · cases h
  · cases h
theorem ab_LR.int {nL i : Nat} {ls : Array Slot} {x : Int32} (h : ab_LR ad nL L ls) (hi : L[i]? = some (some (.int x))) : ls[i]? = some (.val (.int x)) := (h.2.2.2 i _ hi).1
theorem ab_LR.ref {nL i x : Nat} {ls : Array Slot} (h : ab_LR ad nL L ls) (hi : L[i]? = some (some (.ref x))) : ls[i]? = some (.val (.ref (ad x))) := (h.2.2.2 i _ hi).1
theorem ab_r_ldI {i n : Nat} (h : ab_ldI (pc + n) i L st μ = some (.inl (pc', L', st', μ'))) (row : ∀ (x : Int32) (rest : List Value) (H : Heap) (locs : List Loc) (ls : Array Slot), ls[i]? = some (.val (.int x)) → W p l e R s m args below meth c H locs cells slots Q (F0 m (pc + n) ls (.int x :: rest)) → W p l e R s m args below meth c H locs cells slots Q (F0 m pc ls rest))
    (g : ab_Go p l e R s m args below meth c D cT ad B0 k Q cells slots S μ' pc' L' st') : ab_Go p l e R s m args below meth c D cT ad B0 k Q cells slots S μ pc L st := by
  unfold ab_ldI at h
  split at h
  · rename_i hx
    obtain ⟨rfl, rfl, rfl, rfl⟩ := ab_nx_i h
    exact fun H locs ls h2 h3 h4 h5 => row _ _ H locs ls (h5.int hx) (g H locs ls h2 h3 h4 h5)
  · cases h
theorem ab_r_ldA {i n : Nat} (h : ab_ldA (pc + n) i L st μ = some (.inl (pc', L', st', μ'))) (row : ∀ (x : Nat) (rest : List Value) (H : Heap) (locs : List Loc) (ls : Array Slot), ls[i]? = some (.val (.ref x)) → W p l e R s m args below meth c H locs cells slots Q (F0 m (pc + n) ls (.ref x :: rest)) → W p l e R s m args below meth c H locs cells slots Q (F0 m pc ls rest))
    (g : ab_Go p l e R s m args below meth c D cT ad B0 k Q cells slots S μ' pc' L' st') : ab_Go p l e R s m args below meth c D cT ad B0 k Q cells slots S μ pc L st := by
  unfold ab_ldA at h
  split at h
  · rename_i hx
    obtain ⟨rfl, rfl, rfl, rfl⟩ := ab_nx_i h
    exact fun H locs ls h2 h3 h4 h5 => row _ _ H locs ls (h5.ref hx) (g H locs ls h2 h3 h4 h5)
  · cases h
theorem ab_r_stI {i n : Nat} (h : ab_stI (pc + n) i L st μ = some (.inl (pc', L', st', μ'))) (row : ∀ (x : Int32) (rest : List Value) (H : Heap) (locs : List Loc) (ls : Array Slot) (nL : Nat) (lv : List (Nat × Value)), lv_has ls nL lv → i < nL → (∀ ls' : Array Slot, lv_has ls' nL ((i, Value.int x) :: lv.filter (fun q => !(q.1 == i) && !(q.1 + 1 == i && q.2.category == 2))) → W p l e R s m args below meth c H locs cells slots Q (F0 m (pc + n) ls' rest)) → W p l e R s m args below meth c H locs cells slots Q (F0 m pc ls (.int x :: rest)))
    (g : ab_Go p l e R s m args below meth c D cT ad B0 k Q cells slots S μ' pc' L' st') : ab_Go p l e R s m args below meth c D cT ad B0 k Q cells slots S μ pc L st := by
  unfold ab_stI at h
  split at h
  · split at h
    · rename_i hi
      obtain ⟨rfl, rfl, rfl, rfl⟩ := ab_nx_i h
      exact fun H locs ls h2 h3 h4 h5 => row _ _ H locs ls _ _ h5.has (Nat.lt_of_lt_of_le hi h5.2.2.1) (fun ls' h' => g H locs ls' h2 h3 h4 (h5.set rfl h'))
    · cases h
  · cases h
theorem ab_r_stA {i n : Nat} (h : ab_stA (pc + n) i L st μ = some (.inl (pc', L', st', μ'))) (row : ∀ (x : Nat) (rest : List Value) (H : Heap) (locs : List Loc) (ls : Array Slot) (nL : Nat) (lv : List (Nat × Value)), lv_has ls nL lv → i < nL → (∀ ls' : Array Slot, lv_has ls' nL ((i, Value.ref x) :: lv.filter (fun q => !(q.1 == i) && !(q.1 + 1 == i && q.2.category == 2))) → W p l e R s m args below meth c H locs cells slots Q (F0 m (pc + n) ls' rest)) → W p l e R s m args below meth c H locs cells slots Q (F0 m pc ls (.ref x :: rest)))
    (g : ab_Go p l e R s m args below meth c D cT ad B0 k Q cells slots S μ' pc' L' st') : ab_Go p l e R s m args below meth c D cT ad B0 k Q cells slots S μ pc L st := by
  unfold ab_stA at h
  split at h
  · split at h
    · rename_i hi
      obtain ⟨rfl, rfl, rfl, rfl⟩ := ab_nx_i h
      exact fun H locs ls h2 h3 h4 h5 => row _ _ H locs ls _ _ h5.has (Nat.lt_of_lt_of_le hi h5.2.2.1) (fun ls' h' => g H locs ls' h2 h3 h4 (h5.set rfl h'))
    · cases h
  · cases h
theorem ab_r_inc {i : Nat} {n : Int} (h : ab_inc (pc + 3) i n L st μ = some (.inl (pc', L', st', μ'))) (hF : ab_Fr p s m args meth c k) (hd : decode (ab_B k) pc = .ok (.iinc i n, 3))
    (g : ab_Go p l e R s m args below meth c D cT ad B0 k Q cells slots S μ' pc' L' st') : ab_Go p l e R s m args below meth c D cT ad B0 k Q cells slots S μ pc L st := by
  unfold ab_inc at h
  split at h
  · rename_i x hx
    obtain ⟨rfl, rfl, rfl, rfl⟩ := ab_nx_i h
    intro H locs ls h2 h3 h4 h5
    have hm : (i, Value.int x) ∈ ab_lv ad L := ab_lv_mem.mpr ⟨.int x, hx, rfl⟩
    obtain ⟨q, hq, eq⟩ := List.getElem_of_mem hm
    exact lv_iinc hF.1 hF.2.1 hd h5.has (k := q) (by rw [List.getElem?_eq_getElem hq, eq]) rfl (Nat.lt_of_lt_of_le (List.getElem?_eq_some_iff.mp hx).1 h5.2.2.1) rfl (fun ls' h' => g H locs ls' h2 h3 h4 (h5.set (v := .int (x + Int32.ofInt n)) rfl h'))
  · cases h
theorem ab_r_ldc {j : Nat} (hC : ab_Ctx D cT ad B0 E s) (h : ab_ldc k (pc + 2) j L st μ = some (.inl (pc', L', st', μ'))) (hF : ab_Fr p s m args meth c k) (hd : decode (ab_B k) pc = .ok (.ldc j, 2))
    (g : ab_Go p l e R s m args below meth c D cT ad B0 k Q cells slots S μ' pc' L' st') : ab_Go p l e R s m args below meth c D cT ad B0 k Q cells slots S μ pc L st := by
  obtain ⟨hx, hb, hml, hr, hlk, hin, hown, hts⟩ := hF
  unfold ab_ldc at h
  split at h
  · rename_i v hv
    obtain ⟨rfl, rfl, rfl, rfl⟩ := ab_nx_i h
    exact fun H locs ls h2 h3 h4 h5 => lv_ldc hx hb hown (hts _ (ab_okK hv)) hd (g H locs ls h2 h3 h4 h5)
  · split at h
    · rename_i i hi
      split at h
      · obtain ⟨rfl, rfl, rfl, rfl⟩ := ab_nx_i h
        have hz : vk_R (ab_R (ab_own k)) j (ab_tx.getD i "") (ad (1000 + 2 * i)) s := hC.2.2.2.1 (ab_own k, j, i) (ab_mk_mem hi)
        intro H locs ls h2 h3 h4 h5
        have g2 : W p l e R s m args below meth c H locs cells slots Q (F0 m (pc + 2) ls (.ref (ad (1000 + 2 * i)) :: st.map (ab_tr ad))) := g H locs ls h2 h3 h4 h5
        exact va_ldcS hx hb hown hz hd g2
      · cases h
    · cases h
theorem ab_r_ldcw {j : Nat} (h : ab_ldcw k (pc + 3) j L st μ = some (.inl (pc', L', st', μ'))) (hF : ab_Fr p s m args meth c k) (hd : decode (ab_B k) pc = .ok (.ldc_w j, 3))
    (g : ab_Go p l e R s m args below meth c D cT ad B0 k Q cells slots S μ' pc' L' st') : ab_Go p l e R s m args below meth c D cT ad B0 k Q cells slots S μ pc L st := by
  obtain ⟨hx, hb, hml, hr, hlk, hin, hown, hts⟩ := hF
  unfold ab_ldcw at h
  split at h
  · rename_i v hv
    obtain ⟨rfl, rfl, rfl, rfl⟩ := ab_nx_i h
    exact fun H locs ls h2 h3 h4 h5 => lv_ldcw hx hb hown (hts _ (ab_okK hv)) hd (g H locs ls h2 h3 h4 h5)
  · cases h
theorem ab_r_tsw {d lo hi : Int} {os : Array Int} {n : Nat} (h : ab_tsw pc d lo hi os L st μ = some (.inl (pc', L', st', μ'))) (hF : ab_Fr p s m args meth c k) (hd : decode (ab_B k) pc = .ok (.tableswitch d lo hi os, n))
    (g : ab_Go p l e R s m args below meth c D cT ad B0 k Q cells slots S μ' pc' L' st') : ab_Go p l e R s m args below meth c D cT ad B0 k Q cells slots S μ pc L st := by
  unfold ab_tsw at h
  split at h
  · split at h
    · rename_i hq
      obtain ⟨ht, rfl, rfl, rfl⟩ := ab_jp_i h
      exact fun H locs ls h2 h3 h4 h5 => lv_tableOut hF.1 hF.2.1 hd hq ht (g H locs ls h2 h3 h4 h5)
    · rename_i hq
      split at h
      · rename_i off ho
        obtain ⟨ht, rfl, rfl, rfl⟩ := ab_jp_i h
        exact fun H locs ls h2 h3 h4 h5 => lv_tableIn hF.1 hF.2.1 hd (fun q => hq (Or.inl q)) (fun q => hq (Or.inr q)) ho ht (g H locs ls h2 h3 h4 h5)
      · cases h
  · cases h
theorem ab_r_lsw {d : Int} {ps : Array (Int × Int)} {n : Nat} (h : ab_lsw pc d ps L st μ = some (.inl (pc', L', st', μ'))) (hF : ab_Fr p s m args meth c k) (hd : decode (ab_B k) pc = .ok (.lookupswitch d ps, n))
    (g : ab_Go p l e R s m args below meth c D cT ad B0 k Q cells slots S μ' pc' L' st') : ab_Go p l e R s m args below meth c D cT ad B0 k Q cells slots S μ pc L st := by
  unfold ab_lsw at h
  split at h
  · split at h
    · rename_i hq
      obtain ⟨ht, rfl, rfl, rfl⟩ := ab_jp_i h
      exact fun H locs ls h2 h3 h4 h5 => lv_lookup hF.1 hF.2.1 hd hq rfl ht (g H locs ls h2 h3 h4 h5)
    · cases h
  · cases h
/-- what a reference names -/
theorem ab_cell_S {r : Nat} {x : ab_C} (h : ab_cell E S r = some x) (h8 : x.1 ≠ 4 ∧ x.1 ≠ 8 ∧ x.1 ≠ 9) : r < 900 ∧ S[r]? = some x := by
  unfold ab_cell at h
  split at h
  · refine ⟨by assumption, ?_⟩
    split at h
    · split at h
      · cases h
      · rename_i e _; rw [e]; exact h
    · cases h
  · split at h
    · cases h; simp at h8
    · split at h
      · split at h
        · cases h; simp at h8
        · cases h; simp at h8
      · cases h
theorem ab_cell_8 {r n : Nat} {vs : List Value} (h : ab_cell E S r = some (8, n, vs)) : ∃ i, i < 14 ∧ r = 1000 + 2 * i ∧ n = i := by
  unfold ab_cell at h
  split at h
  · split at h
    · split at h
      · cases h
      · rename_i q; cases h; exact absurd (Or.inr (Or.inl rfl)) q
    · cases h
  · split at h
    · cases h
    · split at h
      · rename_i hr
        split at h
        · cases h; exact ⟨(r - 1000) / 2, by omega, by omega, rfl⟩
        · cases h
      · cases h
theorem ab_cell_4 {r n : Nat} {vs : List Value} (h : ab_cell E S r = some (4, n, vs)) : ∃ i, i < 14 ∧ r = 1001 + 2 * i ∧ n = ab_ln.getD i 0 ∧ (r - 1000) / 2 = i := by
  unfold ab_cell at h
  split at h
  · split at h
    · split at h
      · cases h
      · rename_i q; cases h; exact absurd (Or.inl rfl) q
    · cases h
  · split at h
    · cases h
    · split at h
      · rename_i hr
        split at h
        · cases h
        · cases h; exact ⟨(r - 1000) / 2, by omega, by omega, rfl, rfl⟩
      · cases h
theorem ab_cell_9 {r n : Nat} {vs : List Value} (h : ab_cell E S r = some (9, n, vs)) : r = 999 ∧ n = E.1 := by
  unfold ab_cell at h
  split at h
  · split at h
    · split at h
      · cases h
      · rename_i q; cases h; exact absurd (Or.inr (Or.inr rfl)) q
    · cases h
  · split at h
    · cases h; exact ⟨by assumption, rfl⟩
    · split at h
      · split at h <;> cases h
      · cases h
end
