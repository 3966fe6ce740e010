/-! AN EQUATION AN INSTRUCTION -/
section
variable {E : ab_E} {S : List ab_C} {d k pc pc' : Nat} {L L' : ab_L} {st st' : List Value} {μ μ' : ab_M}
theorem ab_core_of {i : Instr} {n : Nat} (hf : ab_fetch k pc = some (i, n)) (hl : ab_len i n = true) : ab_core E S k pc L st μ = ab_ex E S k pc i L st μ := by
  unfold ab_core; rw [hf]; simp only; rw [if_pos hl]
theorem e_iconst {n : Int} {v : Int32} (hf : ab_fetch k pc = some (.iconst n, 1)) (hv : Int32.ofInt n = v) : ab_Ev E S d k pc L st μ = ab_Ev E S d k (pc + 1) L (.int v :: st) μ := by
  subst hv; exact ab_Ev_next (ab_core_of hf rfl)
theorem e_bipush {n : Int} {v : Int32} (hf : ab_fetch k pc = some (.bipush n, 2)) (hv : (Int8.ofInt n).toInt32 = v) : ab_Ev E S d k pc L st μ = ab_Ev E S d k (pc + 2) L (.int v :: st) μ := by
  subst hv; exact ab_Ev_next (ab_core_of hf rfl)
theorem e_sipush {n : Int} {v : Int32} (hf : ab_fetch k pc = some (.sipush n, 3)) (hv : (Int16.ofInt n).toInt32 = v) : ab_Ev E S d k pc L st μ = ab_Ev E S d k (pc + 3) L (.int v :: st) μ := by
  subst hv; exact ab_Ev_next (ab_core_of hf rfl)
theorem e_ldc {j : Nat} {v : Int32} {o : Nat} (hf : ab_fetch k pc = some (.ldc j, 2)) (ho : ab_own k = o) (hv : ab_kc o j = some v) : ab_Ev E S d k pc L st μ = ab_Ev E S d k (pc + 2) L (.int v :: st) μ := by
  refine ab_Ev_next ((ab_core_of hf rfl).trans ?_)
  show ab_ldc k (pc + 2) j L st μ = _
  unfold ab_ldc; rw [ho, hv]; rfl
theorem e_ldc_w {j : Nat} {v : Int32} {o : Nat} (hf : ab_fetch k pc = some (.ldc_w j, 3)) (ho : ab_own k = o) (hv : ab_kc o j = some v) : ab_Ev E S d k pc L st μ = ab_Ev E S d k (pc + 3) L (.int v :: st) μ := by
  refine ab_Ev_next ((ab_core_of hf rfl).trans ?_)
  show ab_ldcw k (pc + 3) j L st μ = _
  unfold ab_ldcw; rw [ho, hv]; rfl
theorem e_ldcS {j i o : Nat} (hf : ab_fetch k pc = some (.ldc j, 2)) (ho : ab_own k = o) (hv : ab_kc o j = none ∧ ab_ks o j = some i ∧ i < 14) : ab_Ev E S d k pc L st μ = ab_Ev E S d k (pc + 2) L (.ref (1000 + 2 * i) :: st) μ := by
  refine ab_Ev_next ((ab_core_of hf rfl).trans ?_)
  show ab_ldc k (pc + 2) j L st μ = _
  unfold ab_ldc; rw [ho, hv.1, hv.2.1]; simp only; rw [if_pos hv.2.2]; rfl

theorem e_iload {i : Nat} {x : Int32} (hf : ab_fetch k pc = some (.iload i, 2)) (hl : L[i]? = some (some (.int x))) : ab_Ev E S d k pc L st μ = ab_Ev E S d k (pc + 2) L (.int x :: st) μ := by
  refine ab_Ev_next ((ab_core_of hf rfl).trans ?_)
  show ab_ldI (pc + 2) i L st μ = _
  unfold ab_ldI; rw [hl]; rfl
theorem e_iload_n {i : Fin 4} {x : Int32} (hf : ab_fetch k pc = some (.iload_n i, 1)) (hl : L[i.val]? = some (some (.int x))) : ab_Ev E S d k pc L st μ = ab_Ev E S d k (pc + 1) L (.int x :: st) μ := by
  refine ab_Ev_next ((ab_core_of hf rfl).trans ?_)
  show ab_ldI (pc + 1) i.val L st μ = _
  unfold ab_ldI; rw [hl]; rfl
theorem e_aload {i : Nat} {x : Nat} (hf : ab_fetch k pc = some (.aload i, 2)) (hl : L[i]? = some (some (.ref x))) : ab_Ev E S d k pc L st μ = ab_Ev E S d k (pc + 2) L (.ref x :: st) μ := by
  refine ab_Ev_next ((ab_core_of hf rfl).trans ?_)
  show ab_ldA (pc + 2) i L st μ = _
  unfold ab_ldA; rw [hl]; rfl
theorem e_aload_n {i : Fin 4} {x : Nat} (hf : ab_fetch k pc = some (.aload_n i, 1)) (hl : L[i.val]? = some (some (.ref x))) : ab_Ev E S d k pc L st μ = ab_Ev E S d k (pc + 1) L (.ref x :: st) μ := by
  refine ab_Ev_next ((ab_core_of hf rfl).trans ?_)
  show ab_ldA (pc + 1) i.val L st μ = _
  unfold ab_ldA; rw [hl]; rfl
theorem e_istore {i : Nat} {x : Int32} (hf : ab_fetch k pc = some (.istore i, 2)) (hi : i < L.length) (hL : L.set i (some (.int x)) = L') : ab_Ev E S d k pc L (.int x :: st) μ = ab_Ev E S d k (pc + 2) L' st μ := by
  subst hL
  refine ab_Ev_next ((ab_core_of hf rfl).trans ?_)
  show ab_stI (pc + 2) i L (.int x :: st) μ = _
  unfold ab_stI; simp only; rw [if_pos hi]; rfl
theorem e_istore_n {i : Fin 4} {x : Int32} (hf : ab_fetch k pc = some (.istore_n i, 1)) (hi : i.val < L.length) (hL : L.set i.val (some (.int x)) = L') : ab_Ev E S d k pc L (.int x :: st) μ = ab_Ev E S d k (pc + 1) L' st μ := by
  subst hL
  refine ab_Ev_next ((ab_core_of hf rfl).trans ?_)
  show ab_stI (pc + 1) i.val L (.int x :: st) μ = _
  unfold ab_stI; simp only; rw [if_pos hi]; rfl
theorem e_astore {i : Nat} {x : Nat} (hf : ab_fetch k pc = some (.astore i, 2)) (hi : i < L.length) (hL : L.set i (some (.ref x)) = L') : ab_Ev E S d k pc L (.ref x :: st) μ = ab_Ev E S d k (pc + 2) L' st μ := by
  subst hL
  refine ab_Ev_next ((ab_core_of hf rfl).trans ?_)
  show ab_stA (pc + 2) i L (.ref x :: st) μ = _
  unfold ab_stA; simp only; rw [if_pos hi]; rfl
theorem e_astore_n {i : Fin 4} {x : Nat} (hf : ab_fetch k pc = some (.astore_n i, 1)) (hi : i.val < L.length) (hL : L.set i.val (some (.ref x)) = L') : ab_Ev E S d k pc L (.ref x :: st) μ = ab_Ev E S d k (pc + 1) L' st μ := by
  subst hL
  refine ab_Ev_next ((ab_core_of hf rfl).trans ?_)
  show ab_stA (pc + 1) i.val L (.ref x :: st) μ = _
  unfold ab_stA; simp only; rw [if_pos hi]; rfl
theorem e_iinc {i : Nat} {n : Int} {x y : Int32} (hf : ab_fetch k pc = some (.iinc i n, 3)) (hl : L[i]? = some (some (.int x))) (hy : x + Int32.ofInt n = y) (hL : L.set i (some (.int y)) = L') : ab_Ev E S d k pc L st μ = ab_Ev E S d k (pc + 3) L' st μ := by
  subst hy; subst hL
  refine ab_Ev_next ((ab_core_of hf rfl).trans ?_)
  show ab_inc (pc + 3) i n L st μ = _
  unfold ab_inc; rw [hl]; rfl
theorem e_iadd {x y : Int32} (hf : ab_fetch k pc = some (.iadd, 1)) : ab_Ev E S d k pc L (.int y :: .int x :: st) μ = ab_Ev E S d k (pc + 1) L (.int (x + y) :: st) μ := ab_Ev_next (ab_core_of hf rfl)
theorem e_isub {x y : Int32} (hf : ab_fetch k pc = some (.isub, 1)) : ab_Ev E S d k pc L (.int y :: .int x :: st) μ = ab_Ev E S d k (pc + 1) L (.int (x - y) :: st) μ := ab_Ev_next (ab_core_of hf rfl)
theorem e_imul {x y : Int32} (hf : ab_fetch k pc = some (.imul, 1)) : ab_Ev E S d k pc L (.int y :: .int x :: st) μ = ab_Ev E S d k (pc + 1) L (.int (x * y) :: st) μ := ab_Ev_next (ab_core_of hf rfl)
theorem e_iand {x y : Int32} (hf : ab_fetch k pc = some (.iand, 1)) : ab_Ev E S d k pc L (.int y :: .int x :: st) μ = ab_Ev E S d k (pc + 1) L (.int (x &&& y) :: st) μ := ab_Ev_next (ab_core_of hf rfl)
theorem e_ior {x y : Int32} (hf : ab_fetch k pc = some (.ior, 1)) : ab_Ev E S d k pc L (.int y :: .int x :: st) μ = ab_Ev E S d k (pc + 1) L (.int (x ||| y) :: st) μ := ab_Ev_next (ab_core_of hf rfl)
theorem e_ixor {x y : Int32} (hf : ab_fetch k pc = some (.ixor, 1)) : ab_Ev E S d k pc L (.int y :: .int x :: st) μ = ab_Ev E S d k (pc + 1) L (.int (x ^^^ y) :: st) μ := ab_Ev_next (ab_core_of hf rfl)
theorem e_ishl {x y : Int32} (hf : ab_fetch k pc = some (.ishl, 1)) : ab_Ev E S d k pc L (.int y :: .int x :: st) μ = ab_Ev E S d k (pc + 1) L (.int (x <<< (y &&& 31)) :: st) μ := ab_Ev_next (ab_core_of hf rfl)
theorem e_ishr {x y : Int32} (hf : ab_fetch k pc = some (.ishr, 1)) : ab_Ev E S d k pc L (.int y :: .int x :: st) μ = ab_Ev E S d k (pc + 1) L (.int (x >>> (y &&& 31)) :: st) μ := ab_Ev_next (ab_core_of hf rfl)
theorem e_iushr {x y : Int32} (hf : ab_fetch k pc = some (.iushr, 1)) : ab_Ev E S d k pc L (.int y :: .int x :: st) μ = ab_Ev E S d k (pc + 1) L (.int ((x.toUInt32 >>> (y.toUInt32 &&& Int32.toUInt32 31)).toInt32) :: st) μ := ab_Ev_next (ab_core_of hf rfl)
theorem e_idiv {x y : Int32} (hf : ab_fetch k pc = some (.idiv, 1)) (hy : ¬ y = 0) : ab_Ev E S d k pc L (.int y :: .int x :: st) μ = ab_Ev E S d k (pc + 1) L (.int (x / y) :: st) μ := by
  refine ab_Ev_next ((ab_core_of hf rfl).trans ?_)
  show ab_dv pc (fun x y => x / y) L (.int y :: .int x :: st) μ = _
  unfold ab_dv; simp only; rw [if_neg hy]; rfl
theorem e_idivG {x y : Int32} (hf : ab_fetch k pc = some (.idiv, 1)) : ab_Ev E S d k pc L (.int y :: .int x :: st) μ = if ¬ y = 0 then ab_Ev E S d k (pc + 1) L (.int (x / y) :: st) μ else none := by
  by_cases hy : y = 0
  · rw [if_neg (fun q => q hy)]
    refine ab_Ev_stuck ((ab_core_of hf rfl).trans ?_)
    show ab_dv pc (fun x y => x / y) L (.int y :: .int x :: st) μ = _
    unfold ab_dv; simp only; rw [if_pos hy]
  · rw [if_pos hy]; exact e_idiv hf hy
theorem e_irem {x y : Int32} (hf : ab_fetch k pc = some (.irem, 1)) (hy : ¬ y = 0) : ab_Ev E S d k pc L (.int y :: .int x :: st) μ = ab_Ev E S d k (pc + 1) L (.int (x - x / y * y) :: st) μ := by
  refine ab_Ev_next ((ab_core_of hf rfl).trans ?_)
  show ab_dv pc (fun x y => x - x / y * y) L (.int y :: .int x :: st) μ = _
  unfold ab_dv; simp only; rw [if_neg hy]; rfl
theorem e_iremG {x y : Int32} (hf : ab_fetch k pc = some (.irem, 1)) : ab_Ev E S d k pc L (.int y :: .int x :: st) μ = if ¬ y = 0 then ab_Ev E S d k (pc + 1) L (.int (x - x / y * y) :: st) μ else none := by
  by_cases hy : y = 0
  · rw [if_neg (fun q => q hy)]
    refine ab_Ev_stuck ((ab_core_of hf rfl).trans ?_)
    show ab_dv pc (fun x y => x - x / y * y) L (.int y :: .int x :: st) μ = _
    unfold ab_dv; simp only; rw [if_pos hy]
  · rw [if_pos hy]; exact e_irem hf hy
theorem e_ineg {x : Int32} (hf : ab_fetch k pc = some (.ineg, 1)) : ab_Ev E S d k pc L (.int x :: st) μ = ab_Ev E S d k (pc + 1) L (.int (-x) :: st) μ := ab_Ev_next (ab_core_of hf rfl)
theorem e_i2b {x : Int32} (hf : ab_fetch k pc = some (.i2b, 1)) : ab_Ev E S d k pc L (.int x :: st) μ = ab_Ev E S d k (pc + 1) L (.int (x.toInt8.toInt32) :: st) μ := ab_Ev_next (ab_core_of hf rfl)
theorem e_i2s {x : Int32} (hf : ab_fetch k pc = some (.i2s, 1)) : ab_Ev E S d k pc L (.int x :: st) μ = ab_Ev E S d k (pc + 1) L (.int (x.toInt16.toInt32) :: st) μ := ab_Ev_next (ab_core_of hf rfl)
theorem e_i2c {x : Int32} (hf : ab_fetch k pc = some (.i2c, 1)) : ab_Ev E S d k pc L (.int x :: st) μ = ab_Ev E S d k (pc + 1) L (.int ((x.toUInt32 % 65536).toInt32) :: st) μ := ab_Ev_next (ab_core_of hf rfl)
theorem e_dupI {x : Int32} (hf : ab_fetch k pc = some (.dup, 1)) : ab_Ev E S d k pc L (.int x :: st) μ = ab_Ev E S d k (pc + 1) L (.int x :: .int x :: st) μ := ab_Ev_next (ab_core_of hf rfl)
theorem e_dupA {x : Nat} (hf : ab_fetch k pc = some (.dup, 1)) : ab_Ev E S d k pc L (.ref x :: st) μ = ab_Ev E S d k (pc + 1) L (.ref x :: .ref x :: st) μ := ab_Ev_next (ab_core_of hf rfl)
theorem e_dup2 {x : Nat} {y : Int32} (hf : ab_fetch k pc = some (.dup2, 1)) : ab_Ev E S d k pc L (.int y :: .ref x :: st) μ = ab_Ev E S d k (pc + 1) L (.int y :: .ref x :: .int y :: .ref x :: st) μ := ab_Ev_next (ab_core_of hf rfl)
theorem e_pop {x : Int32} (hf : ab_fetch k pc = some (.pop, 1)) : ab_Ev E S d k pc L (.int x :: st) μ = ab_Ev E S d k (pc + 1) L st μ := ab_Ev_next (ab_core_of hf rfl)
theorem e_icmp_eq {x y : Int32} {off : Int} {tgt : Nat} (hf : ab_fetch k pc = some (.if_icmp .eq off, 3)) (ht : (pc : Int) + off = (tgt : Int)) : ab_Ev E S d k pc L (.int y :: .int x :: st) μ = if x = y then ab_Ev E S d k tgt L st μ else ab_Ev E S d k (pc + 3) L st μ := by
  have hc : ab_core E S k pc L (.int y :: .int x :: st) μ = if x = y then ab_nx tgt L st μ else ab_nx (pc + 3) L st μ := by
    refine (ab_core_of hf rfl).trans ?_
    show ab_br2 pc off (fun x y => decide (x = y)) L (.int y :: .int x :: st) μ = _
    unfold ab_br2; simp only; rw [ht, if_pos (Int.natCast_nonneg tgt), Int.toNat_natCast]; simp only [decide_eq_true_eq]
  by_cases h : x = y
  · rw [if_pos h] at hc ⊢; exact ab_Ev_next hc
  · rw [if_neg h] at hc ⊢; exact ab_Ev_next hc
theorem e_icmp_ne {x y : Int32} {off : Int} {tgt : Nat} (hf : ab_fetch k pc = some (.if_icmp .ne off, 3)) (ht : (pc : Int) + off = (tgt : Int)) : ab_Ev E S d k pc L (.int y :: .int x :: st) μ = if ¬ x = y then ab_Ev E S d k tgt L st μ else ab_Ev E S d k (pc + 3) L st μ := by
  have hc : ab_core E S k pc L (.int y :: .int x :: st) μ = if ¬ x = y then ab_nx tgt L st μ else ab_nx (pc + 3) L st μ := by
    refine (ab_core_of hf rfl).trans ?_
    show ab_br2 pc off (fun x y => decide (¬ x = y)) L (.int y :: .int x :: st) μ = _
    unfold ab_br2; simp only; rw [ht, if_pos (Int.natCast_nonneg tgt), Int.toNat_natCast]; simp only [decide_eq_true_eq]
  by_cases h : ¬ x = y
  · rw [if_pos h] at hc ⊢; exact ab_Ev_next hc
  · rw [if_neg h] at hc ⊢; exact ab_Ev_next hc
theorem e_icmp_lt {x y : Int32} {off : Int} {tgt : Nat} (hf : ab_fetch k pc = some (.if_icmp .lt off, 3)) (ht : (pc : Int) + off = (tgt : Int)) : ab_Ev E S d k pc L (.int y :: .int x :: st) μ = if x < y then ab_Ev E S d k tgt L st μ else ab_Ev E S d k (pc + 3) L st μ := by
  have hc : ab_core E S k pc L (.int y :: .int x :: st) μ = if x < y then ab_nx tgt L st μ else ab_nx (pc + 3) L st μ := by
    refine (ab_core_of hf rfl).trans ?_
    show ab_br2 pc off (fun x y => decide (x < y)) L (.int y :: .int x :: st) μ = _
    unfold ab_br2; simp only; rw [ht, if_pos (Int.natCast_nonneg tgt), Int.toNat_natCast]; simp only [decide_eq_true_eq]
  by_cases h : x < y
  · rw [if_pos h] at hc ⊢; exact ab_Ev_next hc
  · rw [if_neg h] at hc ⊢; exact ab_Ev_next hc
theorem e_icmp_ge {x y : Int32} {off : Int} {tgt : Nat} (hf : ab_fetch k pc = some (.if_icmp .ge off, 3)) (ht : (pc : Int) + off = (tgt : Int)) : ab_Ev E S d k pc L (.int y :: .int x :: st) μ = if y ≤ x then ab_Ev E S d k tgt L st μ else ab_Ev E S d k (pc + 3) L st μ := by
  have hc : ab_core E S k pc L (.int y :: .int x :: st) μ = if y ≤ x then ab_nx tgt L st μ else ab_nx (pc + 3) L st μ := by
    refine (ab_core_of hf rfl).trans ?_
    show ab_br2 pc off (fun x y => decide (y ≤ x)) L (.int y :: .int x :: st) μ = _
    unfold ab_br2; simp only; rw [ht, if_pos (Int.natCast_nonneg tgt), Int.toNat_natCast]; simp only [decide_eq_true_eq]
  by_cases h : y ≤ x
  · rw [if_pos h] at hc ⊢; exact ab_Ev_next hc
  · rw [if_neg h] at hc ⊢; exact ab_Ev_next hc
theorem e_icmp_gt {x y : Int32} {off : Int} {tgt : Nat} (hf : ab_fetch k pc = some (.if_icmp .gt off, 3)) (ht : (pc : Int) + off = (tgt : Int)) : ab_Ev E S d k pc L (.int y :: .int x :: st) μ = if y < x then ab_Ev E S d k tgt L st μ else ab_Ev E S d k (pc + 3) L st μ := by
  have hc : ab_core E S k pc L (.int y :: .int x :: st) μ = if y < x then ab_nx tgt L st μ else ab_nx (pc + 3) L st μ := by
    refine (ab_core_of hf rfl).trans ?_
    show ab_br2 pc off (fun x y => decide (y < x)) L (.int y :: .int x :: st) μ = _
    unfold ab_br2; simp only; rw [ht, if_pos (Int.natCast_nonneg tgt), Int.toNat_natCast]; simp only [decide_eq_true_eq]
  by_cases h : y < x
  · rw [if_pos h] at hc ⊢; exact ab_Ev_next hc
  · rw [if_neg h] at hc ⊢; exact ab_Ev_next hc
theorem e_icmp_le {x y : Int32} {off : Int} {tgt : Nat} (hf : ab_fetch k pc = some (.if_icmp .le off, 3)) (ht : (pc : Int) + off = (tgt : Int)) : ab_Ev E S d k pc L (.int y :: .int x :: st) μ = if x ≤ y then ab_Ev E S d k tgt L st μ else ab_Ev E S d k (pc + 3) L st μ := by
  have hc : ab_core E S k pc L (.int y :: .int x :: st) μ = if x ≤ y then ab_nx tgt L st μ else ab_nx (pc + 3) L st μ := by
    refine (ab_core_of hf rfl).trans ?_
    show ab_br2 pc off (fun x y => decide (x ≤ y)) L (.int y :: .int x :: st) μ = _
    unfold ab_br2; simp only; rw [ht, if_pos (Int.natCast_nonneg tgt), Int.toNat_natCast]; simp only [decide_eq_true_eq]
  by_cases h : x ≤ y
  · rw [if_pos h] at hc ⊢; exact ab_Ev_next hc
  · rw [if_neg h] at hc ⊢; exact ab_Ev_next hc
theorem e_if_eq {x : Int32} {off : Int} {tgt : Nat} (hf : ab_fetch k pc = some (.ifCond .eq off, 3)) (ht : (pc : Int) + off = (tgt : Int)) : ab_Ev E S d k pc L (.int x :: st) μ = if x = 0 then ab_Ev E S d k tgt L st μ else ab_Ev E S d k (pc + 3) L st μ := by
  have hc : ab_core E S k pc L (.int x :: st) μ = if x = 0 then ab_nx tgt L st μ else ab_nx (pc + 3) L st μ := by
    refine (ab_core_of hf rfl).trans ?_
    show ab_br1 pc off (fun x => decide (x = 0)) L (.int x :: st) μ = _
    unfold ab_br1; simp only; rw [ht, if_pos (Int.natCast_nonneg tgt), Int.toNat_natCast]; simp only [decide_eq_true_eq]
  by_cases h : x = 0
  · rw [if_pos h] at hc ⊢; exact ab_Ev_next hc
  · rw [if_neg h] at hc ⊢; exact ab_Ev_next hc
theorem e_if_ne {x : Int32} {off : Int} {tgt : Nat} (hf : ab_fetch k pc = some (.ifCond .ne off, 3)) (ht : (pc : Int) + off = (tgt : Int)) : ab_Ev E S d k pc L (.int x :: st) μ = if ¬ x = 0 then ab_Ev E S d k tgt L st μ else ab_Ev E S d k (pc + 3) L st μ := by
  have hc : ab_core E S k pc L (.int x :: st) μ = if ¬ x = 0 then ab_nx tgt L st μ else ab_nx (pc + 3) L st μ := by
    refine (ab_core_of hf rfl).trans ?_
    show ab_br1 pc off (fun x => decide (¬ x = 0)) L (.int x :: st) μ = _
    unfold ab_br1; simp only; rw [ht, if_pos (Int.natCast_nonneg tgt), Int.toNat_natCast]; simp only [decide_eq_true_eq]
  by_cases h : ¬ x = 0
  · rw [if_pos h] at hc ⊢; exact ab_Ev_next hc
  · rw [if_neg h] at hc ⊢; exact ab_Ev_next hc
theorem e_if_lt {x : Int32} {off : Int} {tgt : Nat} (hf : ab_fetch k pc = some (.ifCond .lt off, 3)) (ht : (pc : Int) + off = (tgt : Int)) : ab_Ev E S d k pc L (.int x :: st) μ = if x < 0 then ab_Ev E S d k tgt L st μ else ab_Ev E S d k (pc + 3) L st μ := by
  have hc : ab_core E S k pc L (.int x :: st) μ = if x < 0 then ab_nx tgt L st μ else ab_nx (pc + 3) L st μ := by
    refine (ab_core_of hf rfl).trans ?_
    show ab_br1 pc off (fun x => decide (x < 0)) L (.int x :: st) μ = _
    unfold ab_br1; simp only; rw [ht, if_pos (Int.natCast_nonneg tgt), Int.toNat_natCast]; simp only [decide_eq_true_eq]
  by_cases h : x < 0
  · rw [if_pos h] at hc ⊢; exact ab_Ev_next hc
  · rw [if_neg h] at hc ⊢; exact ab_Ev_next hc
theorem e_if_ge {x : Int32} {off : Int} {tgt : Nat} (hf : ab_fetch k pc = some (.ifCond .ge off, 3)) (ht : (pc : Int) + off = (tgt : Int)) : ab_Ev E S d k pc L (.int x :: st) μ = if 0 ≤ x then ab_Ev E S d k tgt L st μ else ab_Ev E S d k (pc + 3) L st μ := by
  have hc : ab_core E S k pc L (.int x :: st) μ = if 0 ≤ x then ab_nx tgt L st μ else ab_nx (pc + 3) L st μ := by
    refine (ab_core_of hf rfl).trans ?_
    show ab_br1 pc off (fun x => decide (0 ≤ x)) L (.int x :: st) μ = _
    unfold ab_br1; simp only; rw [ht, if_pos (Int.natCast_nonneg tgt), Int.toNat_natCast]; simp only [decide_eq_true_eq]
  by_cases h : 0 ≤ x
  · rw [if_pos h] at hc ⊢; exact ab_Ev_next hc
  · rw [if_neg h] at hc ⊢; exact ab_Ev_next hc
theorem e_if_gt {x : Int32} {off : Int} {tgt : Nat} (hf : ab_fetch k pc = some (.ifCond .gt off, 3)) (ht : (pc : Int) + off = (tgt : Int)) : ab_Ev E S d k pc L (.int x :: st) μ = if 0 < x then ab_Ev E S d k tgt L st μ else ab_Ev E S d k (pc + 3) L st μ := by
  have hc : ab_core E S k pc L (.int x :: st) μ = if 0 < x then ab_nx tgt L st μ else ab_nx (pc + 3) L st μ := by
    refine (ab_core_of hf rfl).trans ?_
    show ab_br1 pc off (fun x => decide (0 < x)) L (.int x :: st) μ = _
    unfold ab_br1; simp only; rw [ht, if_pos (Int.natCast_nonneg tgt), Int.toNat_natCast]; simp only [decide_eq_true_eq]
  by_cases h : 0 < x
  · rw [if_pos h] at hc ⊢; exact ab_Ev_next hc
  · rw [if_neg h] at hc ⊢; exact ab_Ev_next hc
theorem e_if_le {x : Int32} {off : Int} {tgt : Nat} (hf : ab_fetch k pc = some (.ifCond .le off, 3)) (ht : (pc : Int) + off = (tgt : Int)) : ab_Ev E S d k pc L (.int x :: st) μ = if x ≤ 0 then ab_Ev E S d k tgt L st μ else ab_Ev E S d k (pc + 3) L st μ := by
  have hc : ab_core E S k pc L (.int x :: st) μ = if x ≤ 0 then ab_nx tgt L st μ else ab_nx (pc + 3) L st μ := by
    refine (ab_core_of hf rfl).trans ?_
    show ab_br1 pc off (fun x => decide (x ≤ 0)) L (.int x :: st) μ = _
    unfold ab_br1; simp only; rw [ht, if_pos (Int.natCast_nonneg tgt), Int.toNat_natCast]; simp only [decide_eq_true_eq]
  by_cases h : x ≤ 0
  · rw [if_pos h] at hc ⊢; exact ab_Ev_next hc
  · rw [if_neg h] at hc ⊢; exact ab_Ev_next hc
theorem e_goto {off : Int} {tgt : Nat} (hf : ab_fetch k pc = some (.goto off, 3)) (ht : (pc : Int) + off = (tgt : Int)) : ab_Ev E S d k pc L st μ = ab_Ev E S d k tgt L st μ := by
  refine ab_Ev_next ((ab_core_of hf rfl).trans ?_)
  show ab_jp pc off L st μ = _
  unfold ab_jp; rw [ht, if_pos (Int.natCast_nonneg tgt), Int.toNat_natCast]; rfl
/-- a switch, its cases one by one: what a number's case is -/
def ab_sw (x : Int32) (d' : Nat) : List (Int32 × Nat) → Nat
  | [] => d'
  | (a, t) :: r => if x = a then t else ab_sw x d' r
theorem e_tsw {dd lo hi : Int} {os : Array Int} {n : Nat} {x : Int32} {tg : Nat} (hf : ab_fetch k pc = some (.tableswitch dd lo hi os, n)) (h : ab_tsw pc dd lo hi os L (.int x :: st) μ = ab_nx tg L st μ) : ab_Ev E S d k pc L (.int x :: st) μ = ab_Ev E S d k tg L st μ := ab_Ev_next ((ab_core_of hf rfl).trans h)
theorem e_lsw {dd : Int} {ps : Array (Int × Int)} {n : Nat} {x : Int32} {tg : Nat} (hf : ab_fetch k pc = some (.lookupswitch dd ps, n)) (h : ab_lsw pc dd ps L (.int x :: st) μ = ab_nx tg L st μ) : ab_Ev E S d k pc L (.int x :: st) μ = ab_Ev E S d k tg L st μ := ab_Ev_next ((ab_core_of hf rfl).trans h)
theorem ab_tsw_in {dd lo hi : Int} {os : Array Int} {x a : Int32} {off : Int} {tg : Nat} (hx : x = a) (h1 : ¬ (a.toInt < lo ∨ hi < a.toInt)) (ho : os[(a.toInt - lo).toNat]? = some off) (ht : (pc : Int) + off = (tg : Int)) : ab_tsw pc dd lo hi os L (.int x :: st) μ = ab_nx tg L st μ := by
  subst hx; unfold ab_tsw; simp only; rw [if_neg h1, ho]; simp only; unfold ab_jp; rw [ht, if_pos (Int.natCast_nonneg tg), Int.toNat_natCast]
theorem ab_tsw_out {dd lo hi : Int} {os : Array Int} {x : Int32} {tg : Nat} (h1 : x.toInt < lo ∨ hi < x.toInt) (ht : (pc : Int) + dd = (tg : Int)) : ab_tsw pc dd lo hi os L (.int x :: st) μ = ab_nx tg L st μ := by
  unfold ab_tsw; simp only; rw [if_pos h1]; unfold ab_jp; rw [ht, if_pos (Int.natCast_nonneg tg), Int.toNat_natCast]
theorem ab_lsw_of {dd : Int} {ps : Array (Int × Int)} {x : Int32} {tg : Nat} (hp : (ps.toList.zip (ps.toList.drop 1)).all (fun (a, next) => a.1 < next.1) = true) (ht : (pc : Int) + Op.lookupswitch.offset ps.toList dd x.toInt = (tg : Int)) : ab_lsw pc dd ps L (.int x :: st) μ = ab_nx tg L st μ := by
  unfold ab_lsw; simp only; rw [if_pos hp]; unfold ab_jp; rw [ht, if_pos (Int.natCast_nonneg tg), Int.toNat_natCast]
theorem ab_cellS {x : ab_C} {r : Nat} (hr : r < 900) (h : S[r]? = some x) (hx : ¬ (x.1 = 4 ∨ x.1 = 8 ∨ x.1 = 9)) : ab_cell E S r = some x := by
  unfold ab_cell; rw [if_pos hr, h]; simp only; rw [if_neg hx]
theorem e_getI {o j r ci fi : Nat} {vs : List Value} {z : Int32} (hf : ab_fetch k pc = some (.getfield j, 3)) (ho : ab_own k = o) (hl : ab_fl o j = some (ci, fi)) (hr : r < 900) (hS : S[r]? = some (0, ci, vs)) (hv : vs[fi]? = some (.int z)) : ab_Ev E S d k pc L (.ref r :: st) μ = ab_Ev E S d k (pc + 3) L (.int (μ r fi) :: st) μ := by
  refine ab_Ev_next ((ab_core_of hf rfl).trans ?_)
  show ab_getf E S k pc j L (.ref r :: st) μ = _
  unfold ab_getf ab_fv; simp only; rw [ab_cellS hr hS (by simp)]; simp only; rw [ho, hl]; simp only; rw [if_pos (by first | rfl | trivial), hv]; rfl
theorem e_getA {o j r ci fi q : Nat} {vs : List Value} (hf : ab_fetch k pc = some (.getfield j, 3)) (ho : ab_own k = o) (hl : ab_fl o j = some (ci, fi)) (hr : r < 900) (hS : S[r]? = some (0, ci, vs)) (hv : vs[fi]? = some (.ref q)) : ab_Ev E S d k pc L (.ref r :: st) μ = ab_Ev E S d k (pc + 3) L (.ref q :: st) μ := by
  refine ab_Ev_next ((ab_core_of hf rfl).trans ?_)
  show ab_getf E S k pc j L (.ref r :: st) μ = _
  unfold ab_getf ab_fv; simp only; rw [ab_cellS hr hS (by simp)]; simp only; rw [ho, hl]; simp only; rw [if_pos (by first | rfl | trivial), hv]; rfl
theorem e_putI {o j r ci fi : Nat} {x : Int32} {vs : List Value} {z : Int32} (hf : ab_fetch k pc = some (.putfield j, 3)) (ho : ab_own k = o) (hl : ab_fl o j = some (ci, fi)) (hq : fi < ab_N ci ∧ (ab_T ci fi).2.2.2 = false ∧ ab_ty ci fi = .int) (hr : r < 900) (hS : S[r]? = some (0, ci, vs)) (hv : vs[fi]? = some (.int z)) : ab_Ev E S d k pc L (.int x :: .ref r :: st) μ = ab_Ev E S d k (pc + 3) L st (ab_up μ r fi x) := by
  refine ab_Ev_next ((ab_core_of hf rfl).trans ?_)
  show ab_putf S k pc j L (.int x :: .ref r :: st) μ = _
  unfold ab_putf; simp only; rw [if_pos hr, hS]; simp only; rw [ho, hl]; simp only; rw [if_pos ⟨by first | rfl | trivial, hq.1, hq.2.1, by rw [hq.2.2]; rfl, by rw [hq.2.2]; rfl⟩, hv]; rfl
theorem e_putZ {o j r ci fi : Nat} {x : Int32} {vs : List Value} {z : Int32} (hf : ab_fetch k pc = some (.putfield j, 3)) (ho : ab_own k = o) (hl : ab_fl o j = some (ci, fi)) (hq : fi < ab_N ci ∧ (ab_T ci fi).2.2.2 = false ∧ narrow (ab_ty ci fi) (.int x) = .int x ∧ fits (ab_ty ci fi) (.int x) = true) (hr : r < 900) (hS : S[r]? = some (0, ci, vs)) (hv : vs[fi]? = some (.int z)) : ab_Ev E S d k pc L (.int x :: .ref r :: st) μ = ab_Ev E S d k (pc + 3) L st (ab_up μ r fi x) := by
  refine ab_Ev_next ((ab_core_of hf rfl).trans ?_)
  show ab_putf S k pc j L (.int x :: .ref r :: st) μ = _
  unfold ab_putf; simp only; rw [if_pos hr, hS]; simp only; rw [ho, hl]; simp only; rw [if_pos ⟨by first | rfl | trivial, hq.1, hq.2.1, hq.2.2.1, hq.2.2.2⟩, hv]; rfl
theorem e_ald {i : Instr} {tg : List Nat} {t r n : Nat} {x : Int32} {vs : List Value} (he : ab_ex E S k pc i L (.int x :: .ref r :: st) μ = ab_ald E S tg pc L (.int x :: .ref r :: st) μ) (hf : ab_fetch k pc = some (i, 1)) (hlen : ab_len i 1 = true) (hr : r < 900) (hS : S[r]? = some (t, n, vs)) (ht : t ∈ tg ∧ t ≠ 4 ∧ t ≠ 8 ∧ t ≠ 9) : ab_Ev E S d k pc L (.int x :: .ref r :: st) μ = if ab_in x n then ab_Ev E S d k (pc + 1) L (.int (μ r x.toNatClampNeg) :: st) μ else none := by
  have hc : ab_core E S k pc L (.int x :: .ref r :: st) μ = if ab_in x n then ab_nx (pc + 1) L (.int (μ r x.toNatClampNeg) :: st) μ else none := by
    refine ((ab_core_of hf hlen).trans he).trans ?_
    unfold ab_ald ab_av; simp only; rw [ab_cellS hr hS (by simp [ht.2.1, ht.2.2.1, ht.2.2.2])]; simp only
    by_cases h : ab_in x n
    · rw [if_pos ⟨ht.1, h⟩, if_neg ht.2.1, if_neg ht.2.2.2, if_pos h]
    · rw [if_neg (fun q => h q.2), if_neg h]
  by_cases h : ab_in x n
  · rw [if_pos h] at hc ⊢; exact ab_Ev_next hc
  · rw [if_neg h] at hc ⊢; exact ab_Ev_stuck hc
theorem e_iaload {r n : Nat} {x : Int32} {vs : List Value} (hf : ab_fetch k pc = some (.iaload, 1)) (hr : r < 900) (hS : S[r]? = some (1, n, vs)) : ab_Ev E S d k pc L (.int x :: .ref r :: st) μ = if ab_in x n then ab_Ev E S d k (pc + 1) L (.int (μ r x.toNatClampNeg) :: st) μ else none := e_ald rfl hf rfl hr hS (by decide)
theorem e_zaload {r n : Nat} {x : Int32} {vs : List Value} (hf : ab_fetch k pc = some (.baload, 1)) (hr : r < 900) (hS : S[r]? = some (2, n, vs)) : ab_Ev E S d k pc L (.int x :: .ref r :: st) μ = if ab_in x n then ab_Ev E S d k (pc + 1) L (.int (μ r x.toNatClampNeg) :: st) μ else none := e_ald rfl hf rfl hr hS (by decide)
theorem e_caload {r n : Nat} {x : Int32} {vs : List Value} (hf : ab_fetch k pc = some (.caload, 1)) (hr : r < 900) (hS : S[r]? = some (3, n, vs)) : ab_Ev E S d k pc L (.int x :: .ref r :: st) μ = if ab_in x n then ab_Ev E S d k (pc + 1) L (.int (μ r x.toNatClampNeg) :: st) μ else none := e_ald rfl hf rfl hr hS (by decide)
theorem e_saload {x : Int32} (hf : ab_fetch k pc = some (.iaload, 1)) : ab_Ev E S d k pc L (.int x :: .ref 999 :: st) μ = if ab_in x E.1 then ab_Ev E S d k (pc + 1) L (.int (E.2.1 x.toNatClampNeg) :: st) μ else none := by
  have hc : ab_core E S k pc L (.int x :: .ref 999 :: st) μ = if ab_in x E.1 then ab_nx (pc + 1) L (.int (E.2.1 x.toNatClampNeg) :: st) μ else none := by
    refine (ab_core_of hf rfl).trans ?_
    show ab_ald E S [1, 9] pc L (.int x :: .ref 999 :: st) μ = _
    unfold ab_ald ab_av ab_cell; simp only
    rw [if_neg (by decide), if_pos (by first | rfl | trivial)]
    simp only
    by_cases h : ab_in x E.1
    · rw [if_pos ⟨by decide, h⟩, if_neg (by decide), if_pos (by first | rfl | trivial), if_pos h]
    · rw [if_neg (fun q => h q.2), if_neg h]
  by_cases h : ab_in x E.1
  · rw [if_pos h] at hc ⊢; exact ab_Ev_next hc
  · rw [if_neg h] at hc ⊢; exact ab_Ev_stuck hc
theorem ab_cell_b {i : Nat} (hi : i < 14) : ab_cell E S (1001 + 2 * i) = some (4, ab_ln.getD i 0, []) := by
  unfold ab_cell
  rw [if_neg (by omega), if_neg (by omega), if_pos (by omega), if_neg (by omega), show (1001 + 2 * i - 1000) / 2 = i by omega]
theorem ab_cell_t {i : Nat} (hi : i < 14) : ab_cell E S (1000 + 2 * i) = some (8, i, []) := by
  unfold ab_cell
  rw [if_neg (by omega), if_neg (by omega), if_pos (by omega), if_pos (by omega), show (1000 + 2 * i - 1000) / 2 = i by omega]
theorem e_baload {i : Nat} {x : Int32} (hf : ab_fetch k pc = some (.baload, 1)) (hi : i < 14) : ab_Ev E S d k pc L (.int x :: .ref (1001 + 2 * i) :: st) μ = if ab_in x (ab_ln.getD i 0) then ab_Ev E S d k (pc + 1) L (.int ((ab_by.getD i []).getD x.toNatClampNeg 0) :: st) μ else none := by
  have hc : ab_core E S k pc L (.int x :: .ref (1001 + 2 * i) :: st) μ = if ab_in x (ab_ln.getD i 0) then ab_nx (pc + 1) L (.int ((ab_by.getD i []).getD x.toNatClampNeg 0) :: st) μ else none := by
    refine (ab_core_of hf rfl).trans ?_
    show ab_ald E S [2, 4] pc L (.int x :: .ref (1001 + 2 * i) :: st) μ = _
    unfold ab_ald ab_av; simp only
    rw [ab_cell_b hi, show (1001 + 2 * i - 1000) / 2 = i by omega]
    simp only
    by_cases h : ab_in x (ab_ln.getD i 0)
    · rw [if_pos ⟨by decide, h⟩, if_pos (by first | rfl | trivial), if_pos h]
    · rw [if_neg (fun q => h q.2), if_neg h]
  by_cases h : ab_in x (ab_ln.getD i 0)
  · rw [if_pos h] at hc ⊢; exact ab_Ev_next hc
  · rw [if_neg h] at hc ⊢; exact ab_Ev_stuck hc
theorem e_getSv {i : Nat} (hf : ab_fetch k pc = some (.getfield ab_fsV, 3)) (ho : ab_own k = 9) (hi : i < 14) : ab_Ev E S d k pc L (.ref (1000 + 2 * i) :: st) μ = ab_Ev E S d k (pc + 3) L (.ref (1001 + 2 * i) :: st) μ := by
  refine ab_Ev_next ((ab_core_of hf rfl).trans ?_)
  show ab_getf E S k pc ab_fsV L (.ref (1000 + 2 * i) :: st) μ = _
  unfold ab_getf ab_fv; simp only; rw [ab_cell_t hi]; simp only; rw [if_pos ho, if_pos (by first | rfl | trivial), show 1001 + 2 * i = 1000 + 2 * i + 1 by omega]; rfl
theorem e_getSc {i : Nat} (hf : ab_fetch k pc = some (.getfield ab_fsC, 3)) (ho : ab_own k = 9) (hi : i < 14) : ab_Ev E S d k pc L (.ref (1000 + 2 * i) :: st) μ = ab_Ev E S d k (pc + 3) L (.int 0 :: st) μ := by
  refine ab_Ev_next ((ab_core_of hf rfl).trans ?_)
  show ab_getf E S k pc ab_fsC L (.ref (1000 + 2 * i) :: st) μ = _
  unfold ab_getf ab_fv; simp only; rw [ab_cell_t hi]; simp only; rw [if_pos ho, if_neg (by decide), if_pos (by first | rfl | trivial)]; rfl
theorem e_alenB {i : Nat} (hf : ab_fetch k pc = some (.arraylength, 1)) (hi : i < 14) : ab_Ev E S d k pc L (.ref (1001 + 2 * i) :: st) μ = ab_Ev E S d k (pc + 1) L (.int (Int32.ofNat (ab_ln.getD i 0)) :: st) μ := by
  refine ab_Ev_next ((ab_core_of hf rfl).trans ?_)
  show ab_alen E S pc L (.ref (1001 + 2 * i) :: st) μ = _
  unfold ab_alen; simp only; rw [ab_cell_b hi]; simp only; rw [if_pos (by decide)]; rfl
theorem e_alenS (hf : ab_fetch k pc = some (.arraylength, 1)) : ab_Ev E S d k pc L (.ref 999 :: st) μ = ab_Ev E S d k (pc + 1) L (.int (Int32.ofNat E.1) :: st) μ := by
  refine ab_Ev_next ((ab_core_of hf rfl).trans ?_)
  show ab_alen E S pc L (.ref 999 :: st) μ = _
  unfold ab_alen ab_cell; simp only; rw [if_neg (by decide), if_pos (by first | rfl | trivial)]; simp only; rw [if_pos (by decide)]; rfl
theorem e_alen {r n : Nat} {vs : List Value} (hf : ab_fetch k pc = some (.arraylength, 1)) (hr : r < 900) (hS : S[r]? = some (1, n, vs)) : ab_Ev E S d k pc L (.ref r :: st) μ = ab_Ev E S d k (pc + 1) L (.int (Int32.ofNat n) :: st) μ := by
  refine ab_Ev_next ((ab_core_of hf rfl).trans ?_)
  show ab_alen E S pc L (.ref r :: st) μ = _
  unfold ab_alen; simp only; rw [ab_cellS hr hS (by simp)]; simp only; rw [if_pos (by decide)]; rfl
theorem e_getsZ (hf : ab_fetch k pc = some (.getstatic ab_sfZ, 3)) (ho : ab_own k = 9) : ab_Ev E S d k pc L st μ = ab_Ev E S d k (pc + 3) L (.int 1 :: st) μ := by
  refine ab_Ev_next ((ab_core_of hf rfl).trans ?_)
  show ab_gets E k pc ab_sfZ L st μ = _
  unfold ab_gets; rw [if_pos ho, if_pos (by first | rfl | trivial)]; rfl
theorem e_getsF (hf : ab_fetch k pc = some (.getstatic ab_sfF, 3)) (ho : ab_own k = 9) : ab_Ev E S d k pc L st μ = ab_Ev E S d k (pc + 3) L (E.2.2 :: st) μ := by
  refine ab_Ev_next ((ab_core_of hf rfl).trans ?_)
  show ab_gets E k pc ab_sfF L st μ = _
  unfold ab_gets; rw [if_pos ho, if_neg (by decide), if_pos (by first | rfl | trivial)]; rfl
theorem e_ast {i : Instr} {t r n : Nat} {x y : Int32} {f : Int32 → Int32} {vs : List Value} (he : ab_ex E S k pc i L (.int y :: .int x :: .ref r :: st) μ = ab_ast S t f pc L (.int y :: .int x :: .ref r :: st) μ) (hf : ab_fetch k pc = some (i, 1)) (hlen : ab_len i 1 = true) (hr : r < 900) (hS : S[r]? = some (t, n, vs)) : ab_Ev E S d k pc L (.int y :: .int x :: .ref r :: st) μ = if ab_in x n then ab_Ev E S d k (pc + 1) L st (ab_up μ r x.toNatClampNeg (f y)) else none := by
  have hc : ab_core E S k pc L (.int y :: .int x :: .ref r :: st) μ = if ab_in x n then ab_nx (pc + 1) L st (ab_up μ r x.toNatClampNeg (f y)) else none := by
    refine ((ab_core_of hf hlen).trans he).trans ?_
    unfold ab_ast; simp only; rw [if_pos hr, hS]; simp only
    by_cases h : ab_in x n
    · rw [if_pos ⟨by first | rfl | trivial, h⟩, if_pos h]
    · rw [if_neg (fun q => h q.2), if_neg h]
  by_cases h : ab_in x n
  · rw [if_pos h] at hc ⊢; exact ab_Ev_next hc
  · rw [if_neg h] at hc ⊢; exact ab_Ev_stuck hc
theorem e_iastore {r n : Nat} {x y : Int32} {vs : List Value} (hf : ab_fetch k pc = some (.iastore, 1)) (hr : r < 900) (hS : S[r]? = some (1, n, vs)) : ab_Ev E S d k pc L (.int y :: .int x :: .ref r :: st) μ = if ab_in x n then ab_Ev E S d k (pc + 1) L st (ab_up μ r x.toNatClampNeg y) else none := e_ast (f := fun x => x) rfl hf rfl hr hS
theorem e_zastore {r n : Nat} {x y : Int32} {vs : List Value} (hf : ab_fetch k pc = some (.bastore, 1)) (hr : r < 900) (hS : S[r]? = some (2, n, vs)) : ab_Ev E S d k pc L (.int y :: .int x :: .ref r :: st) μ = if ab_in x n then ab_Ev E S d k (pc + 1) L st (ab_up μ r x.toNatClampNeg (vp_nar .boolean y)) else none := e_ast (f := vp_nar .boolean) rfl hf rfl hr hS
theorem e_aaload {t r n b w : Nat} {x : Int32} {vs : List Value} (hf : ab_fetch k pc = some (.aaload, 1)) (hr : r < 900) (hS : S[r]? = some (t, n, vs)) (ht : t = 5 ∨ t = 6 ∨ t = 7) (hv : ∀ j, j < n → vs[j]? = some (.ref (b + w * j))) : ab_Ev E S d k pc L (.int x :: .ref r :: st) μ = if ab_in x n then ab_Ev E S d k (pc + 1) L (.ref (b + w * x.toNatClampNeg) :: st) μ else none := by
  have hc : ab_core E S k pc L (.int x :: .ref r :: st) μ = if ab_in x n then ab_nx (pc + 1) L (.ref (b + w * x.toNatClampNeg) :: st) μ else none := by
    refine (ab_core_of hf rfl).trans ?_
    show ab_aald S pc L (.int x :: .ref r :: st) μ = _
    unfold ab_aald; simp only; rw [if_pos hr, hS]; simp only
    by_cases h : ab_in x n
    · rw [if_pos ⟨ht, h⟩, if_pos h, hv _ (Nat.not_le.mp fun q => h (Or.inr q))]
    · rw [if_neg (fun q => h q.2), if_neg h]
  by_cases h : ab_in x n
  · rw [if_pos h] at hc ⊢; exact ab_Ev_next hc
  · rw [if_neg h] at hc ⊢; exact ab_Ev_stuck hc
/-- places copied -/
def ab_cpy (μ : ab_M) (r dd sp dp n : Nat) : ab_M := ab_upA μ dd (va_cpy (μ r) (μ dd) sp dp n)
theorem e_acp {o j r dd n0 n1 : Nat} {sp dp n : Int32} {v0 v1 : List Value} (hf : ab_fetch k pc = some (.invokestatic j, 3)) (ho : ab_own k = o) (hj : ab_mk (ab_mlS ++ ab_mlSN) o j = none ∧ (o, j) ∈ ab_mlC) (hr : r < 900 ∧ dd < 900) (hS0 : S[r]? = some (1, n0, v0)) (hS1 : S[dd]? = some (1, n1, v1)) (hc : (st.map fun v => v.category).sum ≤ 8) :
    ab_Ev E S d k pc L (.int n :: .int dp :: .ref dd :: .int sp :: .ref r :: st) μ = if ¬ sp < 0 ∧ ¬ dp < 0 ∧ ¬ n < 0 ∧ sp.toNatClampNeg + n.toNatClampNeg ≤ n0 ∧ dp.toNatClampNeg + n.toNatClampNeg ≤ n1 then ab_Ev E S d k (pc + 3) L st (ab_cpy μ r dd sp.toNatClampNeg dp.toNatClampNeg n.toNatClampNeg) else none := by
  have hcc : ab_core E S k pc L (.int n :: .int dp :: .ref dd :: .int sp :: .ref r :: st) μ = if ¬ sp < 0 ∧ ¬ dp < 0 ∧ ¬ n < 0 ∧ sp.toNatClampNeg + n.toNatClampNeg ≤ n0 ∧ dp.toNatClampNeg + n.toNatClampNeg ≤ n1 then ab_nx (pc + 3) L st (ab_upA μ dd (va_cpy (μ r) (μ dd) sp.toNatClampNeg dp.toNatClampNeg n.toNatClampNeg)) else none := by
    refine (ab_core_of hf rfl).trans ?_
    show ab_sta S k pc j L _ μ = _
    unfold ab_sta; rw [ho, hj.1]; simp only; rw [if_pos hj.2]; unfold ab_acp; simp only; rw [if_pos hr, hS0, hS1]; simp only
    by_cases h : ¬ sp < 0 ∧ ¬ dp < 0 ∧ ¬ n < 0 ∧ sp.toNatClampNeg + n.toNatClampNeg ≤ n0 ∧ dp.toNatClampNeg + n.toNatClampNeg ≤ n1
    · rw [if_pos h, if_pos ⟨h.1, h.2.1, h.2.2.1, h.2.2.2.1, h.2.2.2.2, hc⟩]
    · rw [if_neg h, if_neg (fun q => h ⟨q.1, q.2.1, q.2.2.1, q.2.2.2.1, q.2.2.2.2.1⟩)]
  by_cases h : ¬ sp < 0 ∧ ¬ dp < 0 ∧ ¬ n < 0 ∧ sp.toNatClampNeg + n.toNatClampNeg ≤ n0 ∧ dp.toNatClampNeg + n.toNatClampNeg ≤ n1
  · rw [if_pos h] at hcc ⊢; exact ab_Ev_next hcc
  · rw [if_neg h] at hcc ⊢; exact ab_Ev_stuck hcc
/-- calls -/
theorem ab_c_vir {j r k' : Nat} {as rest : List Value} (hf : ab_fetch k pc = some (.invokevirtual j, 3)) (hk : ab_mk ab_mlV (ab_own k) j = some k') (hn : as.length = ab_np k') (hr : ab_isRecv E S k' r = true) (hg : (rest.map fun v => v.category).sum ≤ 8 ∧ ((Value.ref r :: as).all fun v => v.category == 1) = true ∧ (Value.ref r :: as).length ≤ ab_mL k') : ab_core E S k pc L (as.reverse ++ .ref r :: rest) μ = some (.inr (.inr (k', .ref r :: as, pc + 3, L, rest))) := by
  refine (ab_core_of hf rfl).trans ?_
  show ab_vir E S k pc j L (as.reverse ++ .ref r :: rest) = _
  unfold ab_vir; rw [hk]; simp only
  have hlen : as.reverse.length = ab_np k' := by rw [List.length_reverse]; exact hn
  rw [← hlen, List.drop_left, List.take_left]
  simp only
  rw [if_pos ⟨by first | rfl | trivial, hr⟩, List.reverse_reverse]
  unfold ab_cal; rw [if_pos hg]
theorem ab_c_sta {j k' : Nat} {as rest : List Value} (hf : ab_fetch k pc = some (.invokestatic j, 3)) (hk : ab_mk (ab_mlS ++ ab_mlSN) (ab_own k) j = some k') (hn : as.length = ab_np k') (hg : (rest.map fun v => v.category).sum ≤ 8 ∧ (as.all fun v => v.category == 1) = true ∧ as.length ≤ ab_mL k') : ab_core E S k pc L (as.reverse ++ rest) μ = some (.inr (.inr (k', as, pc + 3, L, rest))) := by
  refine (ab_core_of hf rfl).trans ?_
  show ab_sta S k pc j L (as.reverse ++ rest) μ = _
  unfold ab_sta; rw [hk]; simp only
  have hlen : as.reverse.length = ab_np k' := by rw [List.length_reverse]; exact hn
  rw [← hlen, List.drop_left, List.take_left, if_pos (by first | rfl | trivial), List.reverse_reverse]
  unfold ab_cal; rw [if_pos hg]
theorem ab_bI {o : Option (Option Value × ab_M)} {f : Option Value × ab_M → Option (Option Value × ab_M)} (h : ∀ r, o = some r → ∃ x, r.1 = some (.int x)) : o.bind f = ab_cI o (fun x μ => f (some (.int x), μ)) := by
  cases o with
  | none => rfl
  | some r =>
    obtain ⟨v, μ⟩ := r
    obtain ⟨x, hx⟩ := h _ rfl
    cases hx
    rfl
theorem ab_bV {o : Option (Option Value × ab_M)} {f : Option Value × ab_M → Option (Option Value × ab_M)} (h : ∀ r, o = some r → r.1 = none) : o.bind f = ab_cV o (fun μ => f (none, μ)) := by
  cases o with
  | none => rfl
  | some r =>
    obtain ⟨v, μ⟩ := r
    have hx := h _ rfl
    cases hx
    rfl
theorem ab_bA {o : Option (Option Value × ab_M)} {f : Option Value × ab_M → Option (Option Value × ab_M)} (h : ∀ r, o = some r → ∃ x, r.1 = some (.ref x)) : o.bind f = ab_cA o (fun x μ => f (some (.ref x), μ)) := by
  cases o with
  | none => rfl
  | some r =>
    obtain ⟨v, μ⟩ := r
    obtain ⟨x, hx⟩ := h _ rfl
    cases hx
    rfl
/-- which type a method returns: 0 an int, 1 nothing, 2 a String -/
def ab_rk (k : Nat) : Nat := match ab_rt k with
  | none => 1
  | some (.object _) => 2
  | _ => 0
theorem ab_rk0 (h : ab_rk k = 0) : ∃ ty, ab_rt k = some ty ∧ ab_isObj ty = false := by
  unfold ab_rk at h
  split at h
  · cases h
  · cases h
  · rename_i h1 h2
    cases e : ab_rt k with
    | none => exact absurd e h1
    | some ty =>
      refine ⟨ty, rfl, ?_⟩
      cases ty <;> first | rfl | exact absurd e (h2 _)
theorem ab_rk1 (h : ab_rk k = 1) : ab_rt k = none := by
  unfold ab_rk at h
  split at h
  · assumption
  · cases h
  · cases h
theorem ab_rk2 (h : ab_rk k = 2) : ∃ nm, ab_rt k = some (.object nm) := by
  unfold ab_rk at h
  split at h
  · cases h
  · rename_i nm e; exact ⟨nm, e⟩
  · cases h

theorem ab_recvO {k' r c : Nat} {vs : List Value} (hr : r < 900) (hS : S[r]? = some (0, c, vs)) (ho : ab_own k' = c) : ab_isRecv E S k' r = true := by
  unfold ab_isRecv; rw [ab_cellS hr hS (by simp)]; simp only; rw [ho]; exact decide_eq_true rfl
theorem ab_recvS {k' i : Nat} (hi : i < 14) (ho : ab_own k' = 9) : ab_isRecv E S k' (1000 + 2 * i) = true := by
  unfold ab_isRecv; rw [ab_cell_t hi]; simp only; rw [ho]; rfl
/-- what is told of a method: its class, parameters, locals, the kind of its answer, its type -/
def ab_Mf (k o n w rk : Nat) (ty : Option FieldType) : Prop := ab_own k = o ∧ ab_np k = n ∧ ab_mL k = w ∧ ab_rk k = rk ∧ ab_rt k = ty
theorem e_virI {o j r k' n w o' : Nat} {ty : Option FieldType} {as rest : List Value} {L'' : ab_L} (hf : ab_fetch k pc = some (.invokevirtual j, 3)) (ho : ab_own k = o) (hk : ab_mk ab_mlV o j = some k') (hm : ab_Mf k' o' n w 0 ty) (hr : ab_isRecv E S k' r = true) (hst : st = as.reverse ++ .ref r :: rest) (hn : as.length = n) (hg : (rest.map fun v => v.category).sum ≤ 8 ∧ ((Value.ref r :: as).all fun v => v.category == 1) = true ∧ (Value.ref r :: as).length ≤ w) (he : (Value.ref r :: as).map some ++ List.replicate (w - (Value.ref r :: as).length) none = L'') : ab_Ev E S (d + 1) k pc L st μ = ab_cI (ab_Ev E S d k' 0 L'' [] μ) (fun x μ' => ab_Ev E S (d + 1) k (pc + 3) L (.int x :: rest) μ') := by
  subst hst
  have he : ab_ent k' (.ref r :: as) = L'' := by unfold ab_ent; rw [hm.2.2.1]; exact he
  subst he
  exact (ab_Ev_call (ab_c_vir hf (by rw [ho]; exact hk) (by rw [hm.2.1]; exact hn) hr ⟨hg.1, hg.2.1, by rw [hm.2.2.1]; exact hg.2.2⟩)).trans (ab_bI (fun r hr9 => by obtain ⟨ty, h1, h2⟩ := ab_rk0 hm.2.2.2.1; exact ab_tyI hr9 h1 h2))
theorem e_virV {o j r k' n w o' : Nat} {ty : Option FieldType} {as rest : List Value} {L'' : ab_L} (hf : ab_fetch k pc = some (.invokevirtual j, 3)) (ho : ab_own k = o) (hk : ab_mk ab_mlV o j = some k') (hm : ab_Mf k' o' n w 1 ty) (hr : ab_isRecv E S k' r = true) (hst : st = as.reverse ++ .ref r :: rest) (hn : as.length = n) (hg : (rest.map fun v => v.category).sum ≤ 8 ∧ ((Value.ref r :: as).all fun v => v.category == 1) = true ∧ (Value.ref r :: as).length ≤ w) (he : (Value.ref r :: as).map some ++ List.replicate (w - (Value.ref r :: as).length) none = L'') : ab_Ev E S (d + 1) k pc L st μ = ab_cV (ab_Ev E S d k' 0 L'' [] μ) (fun μ' => ab_Ev E S (d + 1) k (pc + 3) L rest μ') := by
  subst hst
  have he : ab_ent k' (.ref r :: as) = L'' := by unfold ab_ent; rw [hm.2.2.1]; exact he
  subst he
  exact (ab_Ev_call (ab_c_vir hf (by rw [ho]; exact hk) (by rw [hm.2.1]; exact hn) hr ⟨hg.1, hg.2.1, by rw [hm.2.2.1]; exact hg.2.2⟩)).trans (ab_bV (fun r hr9 => ab_tyV hr9 (ab_rk1 hm.2.2.2.1)))
theorem e_virA {o j r k' n w o' : Nat} {ty : Option FieldType} {as rest : List Value} {L'' : ab_L} (hf : ab_fetch k pc = some (.invokevirtual j, 3)) (ho : ab_own k = o) (hk : ab_mk ab_mlV o j = some k') (hm : ab_Mf k' o' n w 2 ty) (hr : ab_isRecv E S k' r = true) (hst : st = as.reverse ++ .ref r :: rest) (hn : as.length = n) (hg : (rest.map fun v => v.category).sum ≤ 8 ∧ ((Value.ref r :: as).all fun v => v.category == 1) = true ∧ (Value.ref r :: as).length ≤ w) (he : (Value.ref r :: as).map some ++ List.replicate (w - (Value.ref r :: as).length) none = L'') : ab_Ev E S (d + 1) k pc L st μ = ab_cA (ab_Ev E S d k' 0 L'' [] μ) (fun x μ' => ab_Ev E S (d + 1) k (pc + 3) L (.ref x :: rest) μ') := by
  subst hst
  have he : ab_ent k' (.ref r :: as) = L'' := by unfold ab_ent; rw [hm.2.2.1]; exact he
  subst he
  exact (ab_Ev_call (ab_c_vir hf (by rw [ho]; exact hk) (by rw [hm.2.1]; exact hn) hr ⟨hg.1, hg.2.1, by rw [hm.2.2.1]; exact hg.2.2⟩)).trans (ab_bA (fun r hr9 => by obtain ⟨nm, h1⟩ := ab_rk2 hm.2.2.2.1; exact ab_tyA hr9 h1))
theorem e_staI {o j k' n w o' : Nat} {ty : Option FieldType} {as rest : List Value} {L'' : ab_L} (hf : ab_fetch k pc = some (.invokestatic j, 3)) (ho : ab_own k = o) (hk : ab_mk (ab_mlS ++ ab_mlSN) o j = some k') (hm : ab_Mf k' o' n w 0 ty) (hst : st = as.reverse ++ rest) (hn : as.length = n) (hg : (rest.map fun v => v.category).sum ≤ 8 ∧ (as.all fun v => v.category == 1) = true ∧ as.length ≤ w) (he : as.map some ++ List.replicate (w - as.length) none = L'') : ab_Ev E S (d + 1) k pc L st μ = ab_cI (ab_Ev E S d k' 0 L'' [] μ) (fun x μ' => ab_Ev E S (d + 1) k (pc + 3) L (.int x :: rest) μ') := by
  subst hst
  have he : ab_ent k' as = L'' := by unfold ab_ent; rw [hm.2.2.1]; exact he
  subst he
  exact (ab_Ev_call (ab_c_sta hf (by rw [ho]; exact hk) (by rw [hm.2.1]; exact hn) ⟨hg.1, hg.2.1, by rw [hm.2.2.1]; exact hg.2.2⟩)).trans (ab_bI (fun r hr9 => by obtain ⟨ty, h1, h2⟩ := ab_rk0 hm.2.2.2.1; exact ab_tyI hr9 h1 h2))
theorem e_staV {o j k' n w o' : Nat} {ty : Option FieldType} {as rest : List Value} {L'' : ab_L} (hf : ab_fetch k pc = some (.invokestatic j, 3)) (ho : ab_own k = o) (hk : ab_mk (ab_mlS ++ ab_mlSN) o j = some k') (hm : ab_Mf k' o' n w 1 ty) (hst : st = as.reverse ++ rest) (hn : as.length = n) (hg : (rest.map fun v => v.category).sum ≤ 8 ∧ (as.all fun v => v.category == 1) = true ∧ as.length ≤ w) (he : as.map some ++ List.replicate (w - as.length) none = L'') : ab_Ev E S (d + 1) k pc L st μ = ab_cV (ab_Ev E S d k' 0 L'' [] μ) (fun μ' => ab_Ev E S (d + 1) k (pc + 3) L rest μ') := by
  subst hst
  have he : ab_ent k' as = L'' := by unfold ab_ent; rw [hm.2.2.1]; exact he
  subst he
  exact (ab_Ev_call (ab_c_sta hf (by rw [ho]; exact hk) (by rw [hm.2.1]; exact hn) ⟨hg.1, hg.2.1, by rw [hm.2.2.1]; exact hg.2.2⟩)).trans (ab_bV (fun r hr9 => ab_tyV hr9 (ab_rk1 hm.2.2.2.1)))
theorem e_staA {o j k' n w o' : Nat} {ty : Option FieldType} {as rest : List Value} {L'' : ab_L} (hf : ab_fetch k pc = some (.invokestatic j, 3)) (ho : ab_own k = o) (hk : ab_mk (ab_mlS ++ ab_mlSN) o j = some k') (hm : ab_Mf k' o' n w 2 ty) (hst : st = as.reverse ++ rest) (hn : as.length = n) (hg : (rest.map fun v => v.category).sum ≤ 8 ∧ (as.all fun v => v.category == 1) = true ∧ as.length ≤ w) (he : as.map some ++ List.replicate (w - as.length) none = L'') : ab_Ev E S (d + 1) k pc L st μ = ab_cA (ab_Ev E S d k' 0 L'' [] μ) (fun x μ' => ab_Ev E S (d + 1) k (pc + 3) L (.ref x :: rest) μ') := by
  subst hst
  have he : ab_ent k' as = L'' := by unfold ab_ent; rw [hm.2.2.1]; exact he
  subst he
  exact (ab_Ev_call (ab_c_sta hf (by rw [ho]; exact hk) (by rw [hm.2.1]; exact hn) ⟨hg.1, hg.2.1, by rw [hm.2.2.1]; exact hg.2.2⟩)).trans (ab_bA (fun r hr9 => by obtain ⟨nm, h1⟩ := ab_rk2 hm.2.2.2.1; exact ab_tyA hr9 h1))
theorem e_acpK {n o j r dd n0 n1 : Nat} {x sp dp : Int32} {v0 v1 : List Value} (hf : ab_fetch k pc = some (.invokestatic j, 3)) (ho : ab_own k = o) (hj : ab_mk (ab_mlS ++ ab_mlSN) o j = none ∧ (o, j) ∈ ab_mlC) (hr : r < 900 ∧ dd < 900) (hS0 : S[r]? = some (1, n0, v0)) (hS1 : S[dd]? = some (1, n1, v1)) (hc : (st.map fun v => v.category).sum ≤ 8) (h0 : sp = 0 ∧ dp = 0) (hn : ¬ x < 0 ∧ x.toNatClampNeg = n) (hl : n ≤ n0 ∧ n ≤ n1) :
    ab_Ev E S d k pc L (.int x :: .int dp :: .ref dd :: .int sp :: .ref r :: st) μ = ab_Ev E S d k (pc + 3) L st (ab_cpy μ r dd 0 0 n) := by
  obtain ⟨rfl, rfl⟩ := h0
  rw [e_acp hf ho hj hr hS0 hS1 hc, if_pos ⟨by decide, by decide, hn.1, by rw [hn.2, show (0 : Int32).toNatClampNeg = 0 by decide]; omega, by rw [hn.2, show (0 : Int32).toNatClampNeg = 0 by decide]; omega⟩, hn.2, show (0 : Int32).toNatClampNeg = 0 by decide]
/-- a place of an array, known to be there -/
theorem e_ialoadK {r n j : Nat} {x : Int32} {vs : List Value} (hf : ab_fetch k pc = some (.iaload, 1)) (hr : r < 900) (hS : S[r]? = some (1, n, vs)) (hi : ab_in x n) (hj : x.toNatClampNeg = j) : ab_Ev E S d k pc L (.int x :: .ref r :: st) μ = ab_Ev E S d k (pc + 1) L (.int (μ r j) :: st) μ := by
  rw [e_iaload hf hr hS, if_pos hi, hj]
theorem e_iastoreK {r n j : Nat} {x y : Int32} {vs : List Value} (hf : ab_fetch k pc = some (.iastore, 1)) (hr : r < 900) (hS : S[r]? = some (1, n, vs)) (hi : ab_in x n) (hj : x.toNatClampNeg = j) : ab_Ev E S d k pc L (.int y :: .int x :: .ref r :: st) μ = ab_Ev E S d k (pc + 1) L st (ab_up μ r j y) := by
  rw [e_iastore hf hr hS, if_pos hi, hj]
theorem e_zastoreK {r n j : Nat} {x y z : Int32} {vs : List Value} (hf : ab_fetch k pc = some (.bastore, 1)) (hr : r < 900) (hS : S[r]? = some (2, n, vs)) (hi : ab_in x n) (hj : x.toNatClampNeg = j) (hz : vp_nar .boolean y = z) : ab_Ev E S d k pc L (.int y :: .int x :: .ref r :: st) μ = ab_Ev E S d k (pc + 1) L st (ab_up μ r j z) := by
  rw [e_zastore hf hr hS, if_pos hi, hj, hz]
theorem ab_byc {α : Type} {c : Prop} {a b1 b2 : α} [Decidable c] (h1 : c → a = b1) (h2 : ¬ c → a = b2) : a = if c then b1 else b2 := by
  by_cases hc : c
  · rw [if_pos hc]; exact h1 hc
  · rw [if_neg hc]; exact h2 hc
theorem ab_ne {x a : Int32} {z : Int} (h : ¬ x = a) (e : a.toInt = z) : x.toInt ≠ z := fun q => h (Int32.toInt_inj.mp (by rw [e]; exact q))
/-- returns -/
theorem e_iret {x : Int32} (hf : ab_fetch k pc = some (.ireturn, 1)) (ht : ab_rt k = some .int) : ab_Ev E S d k pc L [.int x] μ = some (some (.int x), μ) := by
  refine ab_Ev_ret ((ab_core_of hf rfl).trans ?_)
  show ab_retI k [.int x] μ = _
  unfold ab_retI; rw [ht]; simp only; rw [if_pos ⟨rfl, rfl⟩]
theorem e_zret {x : Int32} {ty : FieldType} (hf : ab_fetch k pc = some (.ireturn, 1)) (ht : ab_rt k = some ty) (ho : ab_isObj ty = false) : ab_Ev E S d k pc L [.int x] μ = if narrow ty (.int x) = .int x then some (some (.int x), μ) else none := by
  by_cases h : narrow ty (.int x) = .int x
  · rw [if_pos h]
    refine ab_Ev_ret ((ab_core_of hf rfl).trans ?_)
    show ab_retI k [.int x] μ = _
    unfold ab_retI; rw [ht]; simp only; rw [if_pos ⟨ho, h⟩]
  · rw [if_neg h]
    refine ab_Ev_stuck ((ab_core_of hf rfl).trans ?_)
    show ab_retI k [.int x] μ = _
    unfold ab_retI; rw [ht]; simp only; rw [if_neg (fun q => h q.2)]
theorem e_zretC {x : Int32} {ty : FieldType} (hf : ab_fetch k pc = some (.ireturn, 1)) (ht : ab_rt k = some ty) (ho : ab_isObj ty = false) (h : narrow ty (.int x) = .int x) : ab_Ev E S d k pc L [.int x] μ = some (some (.int x), μ) := by
  rw [e_zret hf ht ho, if_pos h]
theorem e_aret {x : Nat} {nm : String} (hf : ab_fetch k pc = some (.areturn, 1)) (ht : ab_rt k = some (.object nm)) : ab_Ev E S d k pc L [.ref x] μ = some (some (.ref x), μ) := by
  refine ab_Ev_ret ((ab_core_of hf rfl).trans ?_)
  show ab_retA k [.ref x] μ = _
  unfold ab_retA; rw [ht]
theorem e_ret (hf : ab_fetch k pc = some (.return_, 1)) (ht : ab_rt k = none) : ab_Ev E S d k pc L [] μ = some (none, μ) := by
  refine ab_Ev_ret ((ab_core_of hf rfl).trans ?_)
  show ab_retV k [] μ = _
  unfold ab_retV; rw [ht]
end
/-- both arms of a choice, each under what was chosen -/
theorem ab_ite {α : Type} {c : Prop} {a b a' b' : α} [Decidable c] (ha : c → a = a') (hb : ¬ c → b = b') : (if c then a else b) = (if c then a' else b') := by
  by_cases hc : c
  · rw [if_pos hc, if_pos hc]; exact ha hc
  · rw [if_neg hc, if_neg hc]; exact hb hc
theorem ab_cI_g {o : Option (Option Value × ab_M)} {f g : Int32 → ab_M → Option (Option Value × ab_M)} (h : ∀ x μ, f x μ = g x μ) : ab_cI o f = ab_cI o g := by
  rw [show f = g from funext fun x => funext fun μ => h x μ]
theorem ab_cV_g {o : Option (Option Value × ab_M)} {f g : ab_M → Option (Option Value × ab_M)} (h : ∀ μ, f μ = g μ) : ab_cV o f = ab_cV o g := by
  rw [show f = g from funext fun μ => h μ]
theorem ab_cA_g {o : Option (Option Value × ab_M)} {f g : Nat → ab_M → Option (Option Value × ab_M)} (h : ∀ x μ, f x μ = g x μ) : ab_cA o f = ab_cA o g := by
  rw [show f = g from funext fun x => funext fun μ => h x μ]
theorem ab_cI_s {x : Int32} {μ : ab_M} {f : Int32 → ab_M → Option (Option Value × ab_M)} : ab_cI (some (some (.int x), μ)) f = f x μ := rfl
theorem ab_cV_s {μ : ab_M} {f : ab_M → Option (Option Value × ab_M)} : ab_cV (some (none, μ)) f = f μ := rfl
theorem ab_cA_s {x : Nat} {μ : ab_M} {f : Nat → ab_M → Option (Option Value × ab_M)} : ab_cA (some (some (.ref x), μ)) f = f x μ := rfl

