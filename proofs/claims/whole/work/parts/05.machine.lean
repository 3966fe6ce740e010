/-! THE ABSTRACT MACHINE: cells have numbers; what they hold that never changes behind the constructors (classes, lengths, references) is S, the ints are μ. -/
abbrev ab_M : Type := Nat → Nat → Int32
/-- (0, class, fields: .int 0 where an int is) | (1 int[], 2 boolean[], 3 char[], length, []) | (5 int[][], 6 Sheet[], 7 Slot[], length, what they hold); of what is only read: (4 byte[]), (8 String) -/
abbrev ab_C : Type := Nat × Nat × List Value
abbrev ab_L : Type := List (Option Value)
/-- the script's length, the script, what SIOOBE_FORMATTER holds -/
abbrev ab_E : Type := Nat × (Nat → Int32) × Value
abbrev ab_H : Type := List ab_C × ab_M
abbrev ab_O : Type := (Nat × ab_L × List Value × ab_M) ⊕ ((Option Value × ab_M) ⊕ (Nat × List Value × Nat × ab_L × List Value))
abbrev ab_OB : Type := (Nat × ab_L × List Value × ab_H) ⊕ ((Option Value × ab_H) ⊕ (Nat × List Value × Nat × ab_L × List Value))
def ab_up (μ : ab_M) (r j : Nat) (x : Int32) : ab_M := fun a => if a = r then upd (μ r) j x else μ a
def ab_upA (μ : ab_M) (r : Nat) (f : Nat → Int32) : ab_M := fun a => if a = r then f else μ a
/-- an index in range, as the machine asks it -/
abbrev ab_in (i : Int32) (n : Nat) : Prop := ¬ (i < 0 ∨ n ≤ i.toNatClampNeg)
def ab_cell (E : ab_E) (S : List ab_C) (r : Nat) : Option ab_C :=
  if r < 900 then (match S[r]? with
    | some x => if x.1 = 4 ∨ x.1 = 8 ∨ x.1 = 9 then none else some x
    | none => none) else if r = 999 then some (9, E.1, []) else if 1000 ≤ r ∧ r < 1028 then (if r % 2 = 0 then some (8, (r - 1000) / 2, []) else some (4, (ab_ln.getD ((r - 1000) / 2) 0), [])) else none
def ab_nx (pc : Nat) (L : ab_L) (st : List Value) (μ : ab_M) : Option ab_O := some (.inl (pc, L, st, μ))
def ab_jp (pc : Nat) (off : Int) (L : ab_L) (st : List Value) (μ : ab_M) : Option ab_O := if 0 ≤ (pc : Int) + off then ab_nx ((pc : Int) + off).toNat L st μ else none
def ab_bin (pc : Nat) (f : Int32 → Int32 → Int32) (L : ab_L) (st : List Value) (μ : ab_M) : Option ab_O := match st with
  | .int y :: .int x :: r => ab_nx (pc + 1) L (.int (f x y) :: r) μ
  | _ => none
def ab_dv (pc : Nat) (f : Int32 → Int32 → Int32) (L : ab_L) (st : List Value) (μ : ab_M) : Option ab_O := match st with
  | .int y :: .int x :: r => if y = 0 then none else ab_nx (pc + 1) L (.int (f x y) :: r) μ
  | _ => none
def ab_un (pc : Nat) (f : Int32 → Int32) (L : ab_L) (st : List Value) (μ : ab_M) : Option ab_O := match st with
  | .int x :: r => ab_nx (pc + 1) L (.int (f x) :: r) μ
  | _ => none
def ab_br2 (pc : Nat) (off : Int) (f : Int32 → Int32 → Bool) (L : ab_L) (st : List Value) (μ : ab_M) : Option ab_O := match st with
  | .int y :: .int x :: r => if 0 ≤ (pc : Int) + off then (if f x y then ab_nx ((pc : Int) + off).toNat L r μ else ab_nx (pc + 3) L r μ) else none
  | _ => none
def ab_br1 (pc : Nat) (off : Int) (f : Int32 → Bool) (L : ab_L) (st : List Value) (μ : ab_M) : Option ab_O := match st with
  | .int x :: r => if 0 ≤ (pc : Int) + off then (if f x then ab_nx ((pc : Int) + off).toNat L r μ else ab_nx (pc + 3) L r μ) else none
  | _ => none
def ab_ldI (pc' i : Nat) (L : ab_L) (st : List Value) (μ : ab_M) : Option ab_O := match L[i]? with
  | some (some (.int x)) => ab_nx pc' L (.int x :: st) μ
  | _ => none
def ab_ldA (pc' i : Nat) (L : ab_L) (st : List Value) (μ : ab_M) : Option ab_O := match L[i]? with
  | some (some (.ref x)) => ab_nx pc' L (.ref x :: st) μ
  | _ => none
def ab_stI (pc' i : Nat) (L : ab_L) (st : List Value) (μ : ab_M) : Option ab_O := match st with
  | .int x :: r => if i < L.length then ab_nx pc' (L.set i (some (.int x))) r μ else none
  | _ => none
def ab_stA (pc' i : Nat) (L : ab_L) (st : List Value) (μ : ab_M) : Option ab_O := match st with
  | .ref x :: r => if i < L.length then ab_nx pc' (L.set i (some (.ref x))) r μ else none
  | _ => none
def ab_inc (pc' i : Nat) (n : Int) (L : ab_L) (st : List Value) (μ : ab_M) : Option ab_O := match L[i]? with
  | some (some (.int x)) => ab_nx pc' (L.set i (some (.int (x + Int32.ofInt n)))) st μ
  | _ => none
def ab_ldc (k pc' j : Nat) (L : ab_L) (st : List Value) (μ : ab_M) : Option ab_O := match ab_kc (ab_own k) j with
  | some v => ab_nx pc' L (.int v :: st) μ
  | none => match ab_ks (ab_own k) j with
    | some i => if i < 14 then ab_nx pc' L (.ref (1000 + 2 * i) :: st) μ else none
    | none => none
def ab_ldcw (k pc' j : Nat) (L : ab_L) (st : List Value) (μ : ab_M) : Option ab_O := match ab_kc (ab_own k) j with
  | some v => ab_nx pc' L (.int v :: st) μ
  | none => none
def ab_tsw (pc : Nat) (d lo hi : Int) (os : Array Int) (L : ab_L) (st : List Value) (μ : ab_M) : Option ab_O := match st with
  | .int x :: r => if x.toInt < lo ∨ hi < x.toInt then ab_jp pc d L r μ else match os[(x.toInt - lo).toNat]? with
    | some off => ab_jp pc off L r μ
    | none => none
  | _ => none
def ab_lsw (pc : Nat) (d : Int) (ps : Array (Int × Int)) (L : ab_L) (st : List Value) (μ : ab_M) : Option ab_O := match st with
  | .int x :: r => if (ps.toList.zip (ps.toList.drop 1)).all (fun (a, next) => a.1 < next.1) then ab_jp pc (Op.lookupswitch.offset ps.toList d x.toInt) L r μ else none
  | _ => none
/-- an int field | a reference's field | a String's -/
def ab_fv (E : ab_E) (S : List ab_C) (k j r : Nat) (μ : ab_M) : Option Value := match ab_cell E S r with
  | some (0, c, vs) => match ab_fl (ab_own k) j with
    | some (ci, fi) => if c = ci then match vs[fi]? with
        | some (.int _) => some (.int (μ r fi))
        | some (.ref q) => some (.ref q)
        | _ => none
      else none
    | none => none
  | some (8, _, _) => if ab_own k = 9 then (if j = ab_fsV then some (.ref (r + 1)) else if j = ab_fsC then some (.int 0) else none) else none
  | _ => none
def ab_getf (E : ab_E) (S : List ab_C) (k pc j : Nat) (L : ab_L) (st : List Value) (μ : ab_M) : Option ab_O := match st with
  | .ref r :: rest => match ab_fv E S k j r μ with
    | some v => ab_nx (pc + 3) L (v :: rest) μ
    | none => none
  | _ => none
def ab_putf (S : List ab_C) (k pc j : Nat) (L : ab_L) (st : List Value) (μ : ab_M) : Option ab_O := match st with
  | .int x :: .ref r :: rest => if r < 900 then match S[r]? with
    | some (0, c, vs) => match ab_fl (ab_own k) j with
      | some (ci, fi) => if c = ci ∧ fi < ab_N ci ∧ (ab_T ci fi).2.2.2 = false ∧ narrow (ab_ty ci fi) (.int x) = .int x ∧ fits (ab_ty ci fi) (.int x) = true then match vs[fi]? with
          | some (.int _) => ab_nx (pc + 3) L rest (ab_up μ r fi x)
          | _ => none
        else none
      | none => none
    | _ => none
    else none
  | _ => none
/-- what stands in an array of ints (tag 1, 2, 3), of bytes (4), of the script (9) -/
def ab_av (E : ab_E) (S : List ab_C) (μ : ab_M) (r : Nat) (tg : List Nat) (i : Int32) : Option Int32 := match ab_cell E S r with
  | some (t, n, _) => if t ∈ tg ∧ ab_in i n then (if t = 4 then some ((ab_by.getD ((r - 1000) / 2) []).getD i.toNatClampNeg 0) else if t = 9 then some (E.2.1 i.toNatClampNeg) else some (μ r i.toNatClampNeg)) else none
  | none => none
def ab_ald (E : ab_E) (S : List ab_C) (tg : List Nat) (pc : Nat) (L : ab_L) (st : List Value) (μ : ab_M) : Option ab_O := match st with
  | .int i :: .ref r :: rest => match ab_av E S μ r tg i with
    | some v => ab_nx (pc + 1) L (.int v :: rest) μ
    | none => none
  | _ => none
def ab_ast (S : List ab_C) (t : Nat) (f : Int32 → Int32) (pc : Nat) (L : ab_L) (st : List Value) (μ : ab_M) : Option ab_O := match st with
  | .int x :: .int i :: .ref r :: rest => if r < 900 then match S[r]? with
    | some (t', n, _) => if t' = t ∧ ab_in i n then ab_nx (pc + 1) L rest (ab_up μ r i.toNatClampNeg (f x)) else none
    | none => none
    else none
  | _ => none
def ab_aald (S : List ab_C) (pc : Nat) (L : ab_L) (st : List Value) (μ : ab_M) : Option ab_O := match st with
  | .int i :: .ref r :: rest => if r < 900 then match S[r]? with
    | some (t, n, vs) => if (t = 5 ∨ t = 6 ∨ t = 7) ∧ ab_in i n then match vs[i.toNatClampNeg]? with
        | some (.ref q) => ab_nx (pc + 1) L (.ref q :: rest) μ
        | _ => none
      else none
    | none => none
    else none
  | _ => none
def ab_alen (E : ab_E) (S : List ab_C) (pc : Nat) (L : ab_L) (st : List Value) (μ : ab_M) : Option ab_O := match st with
  | .ref r :: rest => match ab_cell E S r with
    | some (t, n, _) => if t = 1 ∨ t = 4 ∨ t = 9 then ab_nx (pc + 1) L (.int (Int32.ofNat n) :: rest) μ else none
    | none => none
  | _ => none
def ab_gets (E : ab_E) (k pc j : Nat) (L : ab_L) (st : List Value) (μ : ab_M) : Option ab_O :=
  if ab_own k = 9 then (if j = ab_sfZ then ab_nx (pc + 3) L (.int 1 :: st) μ else if j = ab_sfF then ab_nx (pc + 3) L (E.2.2 :: st) μ else none) else none
/-- a call: the method, its arguments (the receiver first), what is left of the stack -/
def ab_cal (k' pc : Nat) (L : ab_L) (as rest : List Value) : Option ab_O := if (rest.map fun v => v.category).sum ≤ 8 ∧ (as.all fun v => v.category == 1) = true ∧ as.length ≤ ab_mL k' then some (.inr (.inr (k', as, pc + 3, L, rest))) else none
def ab_isRecv (E : ab_E) (S : List ab_C) (k' r : Nat) : Bool := match ab_cell E S r with
  | some (0, c, _) => decide (c = ab_own k')
  | some (8, _, _) => decide (ab_own k' = 9)
  | _ => false
def ab_vir (E : ab_E) (S : List ab_C) (k pc j : Nat) (L : ab_L) (st : List Value) : Option ab_O := match ab_mk ab_mlV (ab_own k) j with
  | some k' => match st.drop (ab_np k') with
    | .ref r :: rest => if (st.take (ab_np k')).length = ab_np k' ∧ ab_isRecv E S k' r = true then ab_cal k' pc L (.ref r :: (st.take (ab_np k')).reverse) rest else none
    | _ => none
  | none => none
def ab_acp (S : List ab_C) (pc : Nat) (L : ab_L) (st : List Value) (μ : ab_M) : Option ab_O := match st with
  | .int n :: .int dp :: .ref d :: .int sp :: .ref r :: rest => if r < 900 ∧ d < 900 then match S[r]?, S[d]? with
    | some (1, n0, _), some (1, n1, _) => if ¬ sp < 0 ∧ ¬ dp < 0 ∧ ¬ n < 0 ∧ sp.toNatClampNeg + n.toNatClampNeg ≤ n0 ∧ dp.toNatClampNeg + n.toNatClampNeg ≤ n1 ∧ (rest.map fun v => v.category).sum ≤ 8 then
        ab_nx (pc + 3) L rest (ab_upA μ d (va_cpy (μ r) (μ d) sp.toNatClampNeg dp.toNatClampNeg n.toNatClampNeg)) else none
    | _, _ => none
    else none
  | _ => none
def ab_sta (S : List ab_C) (k pc j : Nat) (L : ab_L) (st : List Value) (μ : ab_M) : Option ab_O := match ab_mk (ab_mlS ++ ab_mlSN) (ab_own k) j with
  | some k' => if (st.take (ab_np k')).length = ab_np k' then ab_cal k' pc L (st.take (ab_np k')).reverse (st.drop (ab_np k')) else none
  | none => if (ab_own k, j) ∈ ab_mlC then ab_acp S pc L st μ else none
def ab_spe (k pc j : Nat) (L : ab_L) (st : List Value) (μ : ab_M) : Option ab_O := match ab_mk (ab_mlI ++ ab_mlIN) (ab_own k) j with
  | some k' => match st.drop (ab_np k') with
    | .ref r :: rest => if (st.take (ab_np k')).length = ab_np k' then ab_cal k' pc L (.ref r :: (st.take (ab_np k')).reverse) rest else none
    | _ => none
  | none => match st with
    | .ref _ :: rest => if (ab_own k, j) ∈ ab_mlO ∧ (rest.map fun v => v.category).sum ≤ 8 then ab_nx (pc + 3) L rest μ else none
    | _ => none
def ab_isObj (t : FieldType) : Bool := match t with
  | .object _ => true
  | _ => false
def ab_retI (k : Nat) (st : List Value) (μ : ab_M) : Option ab_O := match st, ab_rt k with
  | [.int x], some ty => if ab_isObj ty = false ∧ narrow ty (.int x) = .int x then some (.inr (.inl (some (.int x), μ))) else none
  | _, _ => none
def ab_retA (k : Nat) (st : List Value) (μ : ab_M) : Option ab_O := match st, ab_rt k with
  | [.ref x], some (.object _) => some (.inr (.inl (some (.ref x), μ)))
  | _, _ => none
def ab_retV (k : Nat) (st : List Value) (μ : ab_M) : Option ab_O := match st, ab_rt k with
  | [], none => some (.inr (.inl (none, μ)))
  | _, _ => none
/-- how long each instruction is, of those that are read -/
def ab_len (i : Instr) (n : Nat) : Bool := match i with
  | .bipush _ | .iload _ | .aload _ | .istore _ | .astore _ | .ldc _ | .newarray _ => n == 2
  | .sipush _ | .ldc_w _ | .iinc _ _ | .if_icmp _ _ | .ifCond _ _ | .goto _ | .getfield _ | .putfield _ | .getstatic _ | .invokevirtual _ | .invokestatic _ | .invokespecial _ | .new _ | .anewarray _ => n == 3
  | .multianewarray _ _ => n == 4
  | .tableswitch _ _ _ _ | .lookupswitch _ _ => true
  | _ => n == 1
def ab_ex (E : ab_E) (S : List ab_C) (k pc : Nat) (i : Instr) (L : ab_L) (st : List Value) (μ : ab_M) : Option ab_O := match i with
  | .iconst n => ab_nx (pc + 1) L (.int (Int32.ofInt n) :: st) μ
  | .bipush n => ab_nx (pc + 2) L (.int (Int8.ofInt n).toInt32 :: st) μ
  | .sipush n => ab_nx (pc + 3) L (.int (Int16.ofInt n).toInt32 :: st) μ
  | .ldc j => ab_ldc k (pc + 2) j L st μ
  | .ldc_w j => ab_ldcw k (pc + 3) j L st μ
  | .iload i => ab_ldI (pc + 2) i L st μ
  | .iload_n i => ab_ldI (pc + 1) i L st μ
  | .aload i => ab_ldA (pc + 2) i L st μ
  | .aload_n i => ab_ldA (pc + 1) i L st μ
  | .istore i => ab_stI (pc + 2) i L st μ
  | .istore_n i => ab_stI (pc + 1) i L st μ
  | .astore i => ab_stA (pc + 2) i L st μ
  | .astore_n i => ab_stA (pc + 1) i L st μ
  | .iinc i n => ab_inc (pc + 3) i n L st μ
  | .iadd => ab_bin pc (fun x y => x + y) L st μ
  | .isub => ab_bin pc (fun x y => x - y) L st μ
  | .imul => ab_bin pc (fun x y => x * y) L st μ
  | .iand => ab_bin pc (fun x y => x &&& y) L st μ
  | .ior => ab_bin pc (fun x y => x ||| y) L st μ
  | .ixor => ab_bin pc (fun x y => x ^^^ y) L st μ
  | .idiv => ab_dv pc (fun x y => x / y) L st μ
  | .irem => ab_dv pc (fun x y => x - x / y * y) L st μ
  | .ineg => ab_un pc (fun x => -x) L st μ
  | .ishl => ab_bin pc (fun x y => x <<< (y &&& 31)) L st μ
  | .ishr => ab_bin pc (fun x y => x >>> (y &&& 31)) L st μ
  | .iushr => ab_bin pc (fun x y => (x.toUInt32 >>> (y.toUInt32 &&& Int32.toUInt32 31)).toInt32) L st μ
  | .i2b => ab_un pc (fun x => x.toInt8.toInt32) L st μ
  | .i2s => ab_un pc (fun x => x.toInt16.toInt32) L st μ
  | .i2c => ab_un pc (fun x => (x.toUInt32 % 65536).toInt32) L st μ
  | .dup => match st with
    | .int x :: r => ab_nx (pc + 1) L (.int x :: .int x :: r) μ
    | .ref x :: r => ab_nx (pc + 1) L (.ref x :: .ref x :: r) μ
    | _ => none
  | .dup2 => match st with
    | .int y :: .ref x :: r => ab_nx (pc + 1) L (.int y :: .ref x :: .int y :: .ref x :: r) μ
    | _ => none
  | .pop => match st with
    | .int _ :: r => ab_nx (pc + 1) L r μ
    | _ => none
  | .if_icmp .eq off => ab_br2 pc off (fun x y => decide (x = y)) L st μ
  | .if_icmp .ne off => ab_br2 pc off (fun x y => decide (¬ x = y)) L st μ
  | .if_icmp .lt off => ab_br2 pc off (fun x y => decide (x < y)) L st μ
  | .if_icmp .ge off => ab_br2 pc off (fun x y => decide (y ≤ x)) L st μ
  | .if_icmp .gt off => ab_br2 pc off (fun x y => decide (y < x)) L st μ
  | .if_icmp .le off => ab_br2 pc off (fun x y => decide (x ≤ y)) L st μ
  | .ifCond .eq off => ab_br1 pc off (fun x => decide (x = 0)) L st μ
  | .ifCond .ne off => ab_br1 pc off (fun x => decide (¬ x = 0)) L st μ
  | .ifCond .lt off => ab_br1 pc off (fun x => decide (x < 0)) L st μ
  | .ifCond .ge off => ab_br1 pc off (fun x => decide (0 ≤ x)) L st μ
  | .ifCond .gt off => ab_br1 pc off (fun x => decide (0 < x)) L st μ
  | .ifCond .le off => ab_br1 pc off (fun x => decide (x ≤ 0)) L st μ
  | .goto off => ab_jp pc off L st μ
  | .tableswitch d lo hi os => ab_tsw pc d lo hi os L st μ
  | .lookupswitch d ps => ab_lsw pc d ps L st μ
  | .getfield j => ab_getf E S k pc j L st μ
  | .putfield j => ab_putf S k pc j L st μ
  | .iaload => ab_ald E S [1, 9] pc L st μ
  | .baload => ab_ald E S [2, 4] pc L st μ
  | .caload => ab_ald E S [3] pc L st μ
  | .iastore => ab_ast S 1 (fun x => x) pc L st μ
  | .bastore => ab_ast S 2 (vp_nar .boolean) pc L st μ
  | .castore => ab_ast S 3 (vp_nar .char) pc L st μ
  | .aaload => ab_aald S pc L st μ
  | .arraylength => ab_alen E S pc L st μ
  | .getstatic j => ab_gets E k pc j L st μ
  | .invokevirtual j => ab_vir E S k pc j L st
  | .invokestatic j => ab_sta S k pc j L st μ
  | .invokespecial j => ab_spe k pc j L st μ
  | .ireturn => ab_retI k st μ
  | .areturn => ab_retA k st μ
  | .return_ => ab_retV k st μ
  | _ => none
def ab_core (E : ab_E) (S : List ab_C) (k pc : Nat) (L : ab_L) (st : List Value) (μ : ab_M) : Option ab_O := match ab_fetch k pc with
  | some (i, n) => if ab_len i n then ab_ex E S k pc i L st μ else none
  | none => none
/-- a method's locals at its entry -/
def ab_ent (k : Nat) (as : List Value) : ab_L := as.map some ++ List.replicate (ab_mL k - as.length) none
/-- THE MACHINE over a heap whose shape stays -/
def ab_run (E : ab_E) (S : List ab_C) : Nat → Nat → Nat → Nat → ab_L → List Value → ab_M → Option (Option Value × ab_M)
  | 0, _, _, _, _, _, _ => none
  | n + 1, d, k, pc, L, st, μ => match ab_core E S k pc L st μ with
    | some (.inl (pc', L', st', μ')) => ab_run E S n d k pc' L' st' μ'
    | some (.inr (.inl r)) => some r
    | some (.inr (.inr (k', as, pc', L', st'))) => match d with
      | 0 => none
      | d' + 1 => match ab_run E S n d' k' 0 (ab_ent k' as) [] μ with
        | some (v, μ') => ab_run E S n (d' + 1) k pc' L' (v.toList ++ st') μ'
        | none => none
    | none => none
/-! what makes cells, or writes references -/
def ab_zs (c : Nat) : List Value := (List.range (ab_N c)).map fun j => defaultValue (ab_ty c j)
def ab_tag (t : ArrayType) : Nat := match t with
  | .int => 1
  | .boolean => 2
  | .char => 3
  | _ => 0
def ab_alloc (S : List ab_C) (k pc : Nat) (i : Instr) (L : ab_L) (st : List Value) (μ : ab_M) : Option (Nat × ab_L × List Value × ab_H) := match i with
  | .new j => match ab_kl (ab_own k) j with
    | some c => if S.length < 900 then some (pc + 3, L, .ref S.length :: st, S ++ [(0, c, ab_zs c)], ab_upA μ S.length (fun _ => 0)) else none
    | none => none
  | .newarray t => match st with
    | .int n :: r => if S.length < 900 ∧ ¬ n < 0 ∧ n.toNatClampNeg ≤ 10000 ∧ ab_tag t ≠ 0 then some (pc + 2, L, .ref S.length :: r, S ++ [(ab_tag t, n.toNatClampNeg, [])], ab_upA μ S.length (fun _ => 0)) else none
    | _ => none
  | .anewarray j => match st, ab_kl (ab_own k) j with
    | .int n :: r, some c => if S.length < 900 ∧ ¬ n < 0 ∧ n.toNatClampNeg ≤ 10000 ∧ (c = 3 ∨ c = 4) then some (pc + 3, L, .ref S.length :: r, S ++ [(c + 3, n.toNatClampNeg, List.replicate n.toNatClampNeg .null)], ab_upA μ S.length (fun _ => 0)) else none
    | _, _ => none
  | .multianewarray j dm => match st with
    | .int kk :: .int n :: r => if (ab_own k, j) = ab_kq ∧ dm = 2 ∧ S.length + n.toNatClampNeg < 900 ∧ ¬ n < 0 ∧ ¬ kk < 0 ∧ n.toNatClampNeg ≤ 1000 ∧ kk.toNatClampNeg ≤ 1000 then
        some (pc + 4, L, .ref S.length :: r, S ++ [(5, n.toNatClampNeg, (List.range n.toNatClampNeg).map fun q => .ref (S.length + 1 + q))] ++ List.replicate n.toNatClampNeg (1, kk.toNatClampNeg, []), fun a => if S.length ≤ a then (fun _ => 0) else μ a) else none
    | _ => none
  | .putfield j => match st with
    | .ref q :: .ref r :: rest => if r < 900 then match S[r]? with
      | some (0, c, vs) => match ab_fl (ab_own k) j with
        | some (ci, fi) => if c = ci ∧ fi < ab_N ci ∧ (ab_T ci fi).2.2.2 = true ∧ (ab_Y k).name = "<init>" ∧ ab_own k = ci ∧ (ab_ty ci fi).isReference = true ∧ fi < vs.length then some (pc + 3, L, rest, S.set r (0, c, vs.set fi (.ref q)), μ) else none
        | none => none
      | _ => none
      else none
    | _ => none
  | .aastore => match st with
    | .ref q :: .int i :: .ref r :: rest => if r < 900 ∧ q < 900 then match S[r]?, S[q]? with
      | some (t, n, vs), some (0, c, _) => if (c = 3 ∨ c = 4) ∧ t = c + 3 ∧ ab_in i n ∧ vs.length = n then some (pc + 1, L, rest, S.set r (t, n, vs.set i.toNatClampNeg (.ref q)), μ) else none
      | _, _ => none
      else none
    | _ => none
  | _ => none
def ab_step (E : ab_E) (k pc : Nat) (L : ab_L) (st : List Value) (h : ab_H) : Option ab_OB := match ab_core E h.1 k pc L st h.2 with
  | some (.inl (pc', L', st', μ')) => some (.inl (pc', L', st', (h.1, μ')))
  | some (.inr (.inl (v, μ'))) => some (.inr (.inl (v, (h.1, μ'))))
  | some (.inr (.inr c)) => some (.inr (.inr c))
  | none => match ab_fetch k pc with
    | some (i, n) => if ab_len i n then (ab_alloc h.1 k pc i L st h.2).map .inl else none
    | none => none
/-- THE MACHINE, cells made too -/
def ab_runB (E : ab_E) : Nat → Nat → Nat → Nat → ab_L → List Value → ab_H → Option (Option Value × ab_H)
  | 0, _, _, _, _, _, _ => none
  | n + 1, d, k, pc, L, st, h => match ab_step E k pc L st h with
    | some (.inl (pc', L', st', h')) => ab_runB E n d k pc' L' st' h'
    | some (.inr (.inl r)) => some r
    | some (.inr (.inr (k', as, pc', L', st'))) => match d with
      | 0 => none
      | d' + 1 => match ab_runB E n d' k' 0 (ab_ent k' as) [] h with
        | some (v, h') => ab_runB E n (d' + 1) k pc' L' (v.toList ++ st') h'
        | none => none
    | none => none
theorem ab_run_runB (E : ab_E) (S : List ab_C) : ∀ (n d k pc : Nat) (L : ab_L) (st : List Value) (μ : ab_M) (r : Option Value × ab_M), ab_run E S n d k pc L st μ = some r → ab_runB E n d k pc L st (S, μ) = some (r.1, (S, r.2)) := by
  intro n
  induction n with
  | zero => intro d k pc L st μ r h; cases h
  | succ n ih =>
    intro d k pc L st μ r h
    unfold ab_run at h
    unfold ab_runB ab_step
    split at h
    · rename_i e; rw [e]; exact ih _ _ _ _ _ _ _ h
    · rename_i e; rw [e]; cases h; rfl
    · rename_i e
      rw [e]
      cases d with
      | zero => cases h
      | succ d =>
        simp only at h ⊢
        split at h
        · rename_i e2
          rw [ih _ _ _ _ _ _ _ e2]
          exact ih _ _ _ _ _ _ _ h
        · cases h
    · cases h
