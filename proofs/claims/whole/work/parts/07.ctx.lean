/-! THE CONTEXT: what every state of the run holds beside the abstract heap -/
/-- the classes that have objects, by their numbers (0, Kinds, has none: Laws stands there) -/
abbrev ab_cm : List vw_C := [(RX1, TX1, 6), (RX1, TX1, 6), (RX2, TX2, 15), (RX3, TX3, 3), (RX4, TX4, 6), (RX5, TX5, 9), (RX6, TX6, 11), (RX7, TX7, 33)]
theorem ab_ne0 {c f : Nat} (h : f < ab_N c) : c ≠ 0 := fun q => by rw [q] at h; exact absurd h (Nat.not_lt_zero _)
theorem ab_kl0 {o j c : Nat} (h : (o, j, c) ∈ ab_klT) : c ≠ 0 := (show ∀ e ∈ ab_klT, e.2.2 ≠ 0 by decide) _ h
theorem ab_mlV0 {o j k : Nat} (h : (o, j, k) ∈ ab_mlV) : ab_own k ≠ 0 := (show ∀ e ∈ ab_mlV, ab_own e.2.2 ≠ 0 by decide +kernel) _ h
def ab_AOA (U : State) : Prop := (Cond.arrayOver (.array .int)).before #[] U = true
theorem ab_AOA_spec {A : Array Value} {U : State} (h : (Cond.arrayOver (.array .int)).before A U = true) : ∃ comp c k, U.vm.findClass (FieldType.array .int).toString = some comp ∧ (U.vm.classes.findIdx? fun (x : Class) => match x.kind with | .array component _ => component == comp | _ => false) = some c ∧ U.vm.classes[c]? = some k ∧ k.kind = .array comp (.array .int) ∧ U.vm.findClass ("[" ++ (FieldType.array .int).toString) = some c := by
  unfold Cond.before at h
  simp only [Cond.holds, Cond.value, beq_iff_eq] at h
  cases hc : U.vm.findClass (FieldType.array .int).toString with
  | none => simp [hc] at h
  | some comp =>
    simp only [hc, Option.bind_some, Option.bind_eq_some_iff, Option.map_eq_some_iff] at h
    obtain ⟨c, hi, k, hk, hb⟩ := h
    obtain ⟨hlt, hp, -⟩ := Array.findIdx?_eq_some_iff_getElem.mp hi
    have hkk : U.vm.classes[c] = k := (Array.getElem?_eq_some_iff.mp hk).2
    rw [hkk] at hp
    cases hkind : k.kind with
    | array component ty =>
      rw [hkind] at hb hp
      simp at hb hp
      exact ⟨comp, c, k, rfl, hi, hk, by rw [hkind, hp, hb.1], hb.2⟩
    | _ => rw [hkind] at hb; simp at hb
theorem ab_AOA.moved {u U : State} (hvm : u.vm.Alike U.vm) (h : ab_AOA u) : ab_AOA U := by
  obtain ⟨comp, c, k, h1, h2, h3, h4, h5⟩ := ab_AOA_spec h
  obtain ⟨k', hk', he⟩ := hvm.2.2 _ _ h3
  have hi : (U.vm.classes.findIdx? fun (x : Class) => match x.kind with | .array component _ => component == comp | _ => false) = some c := by
    have hb : U.vm.bare = u.vm.bare := by first | exact hvm.bare_eq | exact hvm.bare_eq.symm
    refine (va_idx_bare U.vm comp).symm.trans ?_
    rw [hb]
    exact (va_idx_bare u.vm comp).trans h2
  have hkind : k'.kind = .array comp (.array .int) := by rw [he]; exact h4
  have f1 : U.vm.findClass (FieldType.array .int).toString = some comp := by rw [hvm.findClass]; exact h1
  have f2 : U.vm.findClass ("[" ++ (FieldType.array .int).toString) = some c := by rw [hvm.findClass]; exact h5
  unfold ab_AOA Cond.before Cond.holds
  simp only [Cond.value]
  rw [f1, Option.bind_some]
  refine (congrArg (fun o : Option Nat => (o.bind (fun c => (U.vm.classes[c]?).map fun (k : Class) => match k.kind with | .array _ ty => decide (ty = FieldType.array .int) && decide (U.vm.findClass ("[" ++ (FieldType.array .int).toString) = some c) | _ => false) == some true)) hi).trans ?_
  simp [hk', hkind, f2]
theorem ab_AOA.use {A : Array Value} {U : State} (h : ab_AOA U) : (Cond.arrayOver (.array .int)).before A U = true := h
def ab_Ctx (D : va_G) (cT : Nat → ClassId) (ad : Nat → Nat) (B0 : Nat) (E : ab_E) (s : State) : Prop :=
  va_K D ab_cm (ab_tys cT) s ∧
  (∀ e ∈ ab_mlSN ++ ab_mlIN, va_Nw (.methodLinkNest (ab_R e.1) e.2.1 (ab_Y e.2.2) RX6) s) ∧
  (va_AO RX3 s ∧ va_AO RX4 s ∧ ab_AOA s) ∧
  (∀ e ∈ ab_ksT, vk_R (ab_R e.1) e.2.1 (ab_tx.getD e.2.2 "") (ad (1000 + 2 * e.2.2)) s) ∧
  vk_S 14 ab_ln ab_by (fun i => ad (1000 + 2 * i)) (fun i => ad (1001 + 2 * i)) (fun q => B0 ≤ q) s s.heap ∧
  va_Z "java/lang/String" "COMPACT_STRINGS" "Z" (.int 1) (fun q => B0 ≤ q) s s.heap ∧
  va_Z "jdk/internal/util/Preconditions" "SIOOBE_FORMATTER" "Ljava/util/function/BiFunction;" (ab_tr ad E.2.2) (fun q => B0 ≤ q) s s.heap ∧
  va_X (ad 999) E.1 E.2.1 s s.heap ∧ ad 999 < B0 ∧ B0 ≤ s.heap.size ∧ (∀ i, i < 900 → ad i = B0 + i) ∧ (E.2.2 = .null ∨ E.2.2 = .ref 998)
theorem ab_Ctx.mv {D : va_G} {cT : Nat → ClassId} {ad : Nat → Nat} {B0 : Nat} {E : ab_E} {s U : State} (h : ab_Ctx D cT ad B0 E s) (hA : s.vm.Alike U.vm) (hN : ∀ a i x hh, va_Nw (.methodLinkNest a i x hh) s → va_Nw (.methodLinkNest a i x hh) U) (hR : ∀ own k tx a, vk_R own k tx a s → vk_R own k tx a U) (hH : ∀ q : Nat, q < s.heap.size → ¬ B0 ≤ q → U.heap[q]? = s.heap[q]?) (hz : s.heap.size ≤ U.heap.size) : ab_Ctx D cT ad B0 E U := by
  obtain ⟨a1, a2, ⟨a3, a4, a5⟩, a6, a7, a8, a9, a10, a11, a12, a13, a14⟩ := h
  exact ⟨a1.moved hA, fun e he => hN _ _ _ _ (a2 e he), ⟨a3.moved hA, a4.moved hA, a5.moved hA⟩, fun e he => hR _ _ _ _ (a6 e he), (a7.moved hA).kept hH, (a8.moved hA).kept hH, (a9.moved hA).kept hH, (a10.moved hA).kept (hH _ (by omega) (by omega)), a11, by omega, a13, a14⟩
theorem ab_Ctx.warm {D : va_G} {cT : Nat → ClassId} {ad : Nat → Nat} {B0 : Nat} {E : ab_E} {s U : State} (h : ab_Ctx D cT ad B0 E s) (hW : s.WarmedH U.vm) (hH : ∀ q : Nat, q < s.heap.size → ¬ B0 ≤ q → U.heap[q]? = s.heap[q]?) (hz : s.heap.size ≤ U.heap.size) : ab_Ctx D cT ad B0 E U :=
  h.mv hW.alike (fun _ _ _ _ q => q.warmM hW) (fun _ _ _ _ q => q.warm hW) hH hz
theorem ab_Ctx.same {D : va_G} {cT : Nat → ClassId} {ad : Nat → Nat} {B0 : Nat} {E : ab_E} {s U : State} (h : ab_Ctx D cT ad B0 E s) (hv : U.vm = s.vm) (hH : U.heap = s.heap) : ab_Ctx D cT ad B0 E U :=
  h.mv (by rw [hv]; exact Vm.Alike.refl s.vm) (fun _ _ _ _ q => q.same rfl hv.symm) (fun _ _ _ _ q => q.same hv) (fun q _ _ => by rw [hH]) (by rw [hH]; exact Nat.le_refl _)
def ab_Fr (p : Program) (s : State) (m : MethodId) (args : Array Value) (meth : Method) (c : Code) (k : Nat) : Prop :=
  p.tables.exec = Jvm.exec ∧ c.code = ab_B k ∧ c.maxLocals = ab_mL k ∧ meth.sig.returnType = ab_rt k ∧ meth.locks = false ∧ ((ab_Y k).name = "<init>" → meth.name = "<init>") ∧ s.vm.findClass (ab_R (ab_own k)) = some m.cls ∧ ∀ w ∈ ab_U, w.before args s = true
def ab_Go (p : Program) (l : Launch) (e : Env) (R : Room) (s : State) (m : MethodId) (args : Array Value) (below : List Frame) (meth : Method) (c : Code) (D : va_G) (cT : Nat → ClassId) (ad : Nat → Nat) (B0 k : Nat) (Q : State → Prop) (cells slots : Nat) (S : List ab_C) (μ : ab_M) (pc : Nat) (L : ab_L) (st : List Value) : Prop :=
  ∀ (H : Heap) (locs : List Loc) (ls : Array Slot), S.length ≤ 900 → va_P D ab_cm (ab_wd cT ad S μ) H → va_S (fun q => B0 ≤ q) s.heap H locs → ab_LR ad (ab_mL k) L ls → W p l e R s m args below meth c H locs cells slots Q (F0 m pc ls (st.map (ab_tr ad)))
theorem ab_cl_at {c : Nat} (h : c < 8) (h0 : c ≠ 0) : ab_cm[c]? = some (ab_R c, ab_T c, ab_N c) := by
  rcases (show c = 1 ∨ c = 2 ∨ c = 3 ∨ c = 4 ∨ c = 5 ∨ c = 6 ∨ c = 7 by omega) with rfl | rfl | rfl | rfl | rfl | rfl | rfl <;> rfl
theorem ab_nm {c : Nat} (h : c < 8) : ∀ a, a < ab_N c → ∀ b, b < ab_N c → a ≠ b → (ab_T c a).2.1 ≠ (ab_T c b).2.1 := by
  rcases (show c = 0 ∨ c = 1 ∨ c = 2 ∨ c = 3 ∨ c = 4 ∨ c = 5 ∨ c = 6 ∨ c = 7 by omega) with rfl | rfl | rfl | rfl | rfl | rfl | rfl | rfl
  · exact nmX0
  · exact nmX1
  · exact nmX2
  · exact nmX3
  · exact nmX4
  · exact nmX5
  · exact nmX6
  · exact nmX7
theorem ab_ty_ok {c : Nat} (h : c < 8) : ∀ k, k < ab_N c → parseFieldDescriptor (ab_T c k).2.2.1 = some (ab_ty c k) := by
  rcases (show c = 0 ∨ c = 1 ∨ c = 2 ∨ c = 3 ∨ c = 4 ∨ c = 5 ∨ c = 6 ∨ c = 7 by omega) with rfl | rfl | rfl | rfl | rfl | rfl | rfl | rfl
  · exact tyX0_ok
  · exact tyX1_ok
  · exact tyX2_ok
  · exact tyX3_ok
  · exact tyX4_ok
  · exact tyX5_ok
  · exact tyX6_ok
  · exact tyX7_ok
