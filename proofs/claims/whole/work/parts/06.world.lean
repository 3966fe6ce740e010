/-! THE ABSTRACT HEAP AND THE MACHINE'S: cell i lies at B0 + i -/
def ab_tr (ad : Nat → Nat) (v : Value) : Value := match v with
  | .ref r => .ref (ad r)
  | v => v
/-- a field of the cell i -/
def ab_f1 (ad : Nat → Nat) (μ : ab_M) (i j : Nat) (v : Value) : Value := match v with
  | .int _ => .int (μ i j)
  | v => ab_tr ad v
/-- a place of an array of references -/
def ab_q1 (ad : Nat → Nat) (vs : List Value) (j : Nat) : Option Nat := match vs[j]? with
  | some (.ref q) => some (ad q)
  | _ => none
def ab_w1 (cT : Nat → ClassId) (ad : Nat → Nat) (μ : ab_M) (i : Nat) (c : ab_C) : Nat × va_E :=
  (ad i, if c.1 = 0 then .inr (c.2.1, c.2.2.mapIdx (ab_f1 ad μ i))
    else if c.1 ≤ 3 then .inl (cT c.1, c.2.1, .inl (μ i))
    else .inl (cT c.1, c.2.1, .inr (.inr (.inr (.inr (ab_q1 ad c.2.2))))))
def ab_wd (cT : Nat → ClassId) (ad : Nat → Nat) (S : List ab_C) (μ : ab_M) : va_W := S.mapIdx fun i c => ab_w1 cT ad μ i c
def ab_tys (cT : Nat → ClassId) : List (ClassId × FieldType) := [(cT 1, .int), (cT 2, .boolean), (cT 3, .char), (cT 5, .array .int), (cT 6, .object RX3), (cT 7, .object RX4)]
section
variable {cT : Nat → ClassId} {ad : Nat → Nat} {S : List ab_C} {μ μ' : ab_M} {r B0 : Nat} {c : ab_C}
theorem ab_w1_0 {ci : Nat} {vs : List Value} : ab_w1 cT ad μ r (0, ci, vs) = (ad r, .inr (ci, vs.mapIdx (ab_f1 ad μ r))) := rfl
theorem ab_w1_a {t n : Nat} {vs : List Value} (h0 : t ≠ 0) (h : t ≤ 3) : ab_w1 cT ad μ r (t, n, vs) = (ad r, .inl (cT t, n, .inl (μ r))) := by
  unfold ab_w1; simp [h0, h]
theorem ab_w1_q {t n : Nat} {vs : List Value} (h : 4 ≤ t) : ab_w1 cT ad μ r (t, n, vs) = (ad r, .inl (cT t, n, .inr (.inr (.inr (.inr (ab_q1 ad vs)))))) := by
  unfold ab_w1
  rw [if_neg (show ¬ (t, n, vs).1 = 0 by show ¬ t = 0; omega), if_neg (show ¬ (t, n, vs).1 ≤ 3 by show ¬ t ≤ 3; omega)]
theorem ab_wd_at (h : S[r]? = some c) : (ab_wd cT ad S μ)[r]? = some (ab_w1 cT ad μ r c) := by
  unfold ab_wd; rw [List.getElem?_mapIdx, h]; rfl
theorem ab_wd_inv {q : Nat × va_E} (h : (ab_wd cT ad S μ)[r]? = some q) : ∃ c, S[r]? = some c ∧ q = ab_w1 cT ad μ r c := by
  unfold ab_wd at h; rw [List.getElem?_mapIdx] at h
  cases e : S[r]? with
  | none => rw [e] at h; cases h
  | some c => rw [e] at h; exact ⟨c, rfl, (Option.some.inj h).symm⟩
theorem ab_wd_len : (ab_wd cT ad S μ).length = S.length := by unfold ab_wd; simp
theorem ab_D (had : ∀ i, i < 900 → ad i = B0 + i) (hS : S.length ≤ 900) : va_D (fun q => B0 ≤ q) (ab_wd cT ad S μ) := by
  have hlt : ∀ {i : Nat} {q : Nat × va_E}, (ab_wd cT ad S μ)[i]? = some q → i < 900 := fun {i q} h => by
    have := (List.getElem?_eq_some_iff.mp h).1
    rw [ab_wd_len] at this
    omega
  refine ⟨fun i j p q hp hq e => ?_, fun k q hq => ?_⟩
  · obtain ⟨c, -, rfl⟩ := ab_wd_inv hp
    obtain ⟨c', -, rfl⟩ := ab_wd_inv hq
    have e : ad i = ad j := e
    rw [had i (hlt hp), had j (hlt hq)] at e
    omega
  · obtain ⟨c, -, rfl⟩ := ab_wd_inv hq
    show B0 ≤ ad k
    rw [had k (hlt hq)]
    omega
theorem ab_w1_c {μ μ' : ab_M} (h : μ' r = μ r) : ab_w1 cT ad μ' r c = ab_w1 cT ad μ r c := by
  unfold ab_w1; rw [h]
  have : ab_f1 ad μ' r = ab_f1 ad μ r := by funext j v; unfold ab_f1; rw [h]
  rw [this]
theorem ab_wd_set (h : S[r]? = some c) (hμ : ∀ a, a ≠ r → μ' a = μ a) : (ab_wd cT ad S μ).set r (ab_w1 cT ad μ' r c) = ab_wd cT ad S μ' := by
  apply List.ext_getElem?
  intro i
  unfold ab_wd
  rw [List.getElem?_set, List.getElem?_mapIdx, List.getElem?_mapIdx]
  by_cases e : r = i
  · subst e
    have : r < S.length := (List.getElem?_eq_some_iff.mp h).1
    rw [if_pos rfl, List.length_mapIdx, if_pos this, h]
    rfl
  · rw [if_neg e]
    cases S[i]? with
    | none => rfl
    | some c => simp only [Option.map_some]; rw [ab_w1_c (hμ i (fun q => e q.symm))]
theorem ab_wd_setS {c' : ab_C} (h : r < S.length) : (ab_wd cT ad S μ).set r (ab_w1 cT ad μ r c') = ab_wd cT ad (S.set r c') μ := by
  apply List.ext_getElem?
  intro i
  unfold ab_wd
  rw [List.getElem?_set, List.getElem?_mapIdx, List.getElem?_mapIdx, List.getElem?_set]
  by_cases e : r = i
  · subst e; simp [h]
  · rw [if_neg e, if_neg e]
theorem ab_wd_push {S2 : List ab_C} (hμ : ∀ a, a < S.length → μ' a = μ a) : ab_wd cT ad (S ++ S2) μ' = ab_wd cT ad S μ ++ S2.mapIdx (fun i c => ab_w1 cT ad μ' (S.length + i) c) := by
  unfold ab_wd
  rw [List.mapIdx_append]
  congr 1
  · apply List.ext_getElem?
    intro i
    rw [List.getElem?_mapIdx, List.getElem?_mapIdx]
    cases e : S[i]? with
    | none => rfl
    | some c => simp only [Option.map_some]; rw [ab_w1_c (hμ i (List.getElem?_eq_some_iff.mp e).1)]
  · apply List.ext_getElem?
    intro i
    rw [List.getElem?_mapIdx, List.getElem?_mapIdx, Nat.add_comm]
end
/-! locals -/
def ab_LR (ad : Nat → Nat) (nL : Nat) (L : ab_L) (ls : Array Slot) : Prop := ls.size = nL ∧ lv_wf ls ∧ L.length ≤ nL ∧ ∀ (i : Nat) (v : Value), L[i]? = some (some v) → ls[i]? = some (.val (ab_tr ad v)) ∧ (ab_tr ad v).category = 1
def ab_lv (ad : Nat → Nat) (L : ab_L) : List (Nat × Value) := (List.range L.length).filterMap fun i => match L[i]? with
  | some (some v) => some (i, ab_tr ad v)
  | _ => none
theorem ab_lv_mem {ad : Nat → Nat} {L : ab_L} {q : Nat × Value} : q ∈ ab_lv ad L ↔ ∃ v, L[q.1]? = some (some v) ∧ q.2 = ab_tr ad v := by
  unfold ab_lv
  rw [List.mem_filterMap]
  constructor
  · rintro ⟨i, -, h⟩
    split at h
    · rename_i v e; cases h; exact ⟨v, e, rfl⟩
    · cases h
  · rintro ⟨v, h1, h2⟩
    refine ⟨q.1, List.mem_range.mpr (List.getElem?_eq_some_iff.mp h1).1, ?_⟩
    rw [h1]
    simp only [← h2]
theorem ab_LR.has {ad : Nat → Nat} {nL : Nat} {L : ab_L} {ls : Array Slot} (h : ab_LR ad nL L ls) : lv_has ls nL (ab_lv ad L) :=
  ⟨h.1, h.2.1, fun q hq => by obtain ⟨v, h1, h2⟩ := ab_lv_mem.mp hq; rw [h2]; exact (h.2.2.2 q.1 v h1).1⟩
theorem ab_LR.set {ad : Nat → Nat} {nL i : Nat} {L : ab_L} {ls ls' : Array Slot} {v : Value} (h : ab_LR ad nL L ls) (hv : (ab_tr ad v).category = 1) (h' : lv_has ls' nL ((i, ab_tr ad v) :: (ab_lv ad L).filter (fun q => !(q.1 == i) && !(q.1 + 1 == i && q.2.category == 2)))) : ab_LR ad nL (L.set i (some v)) ls' := by
  refine ⟨h'.1, h'.2.1, by rw [List.length_set]; exact h.2.2.1, fun j w hw => ?_⟩
  rw [List.getElem?_set] at hw
  by_cases e : i = j
  · subst e
    rw [if_pos rfl] at hw
    split at hw
    · cases hw
      exact ⟨h'.2.2 (i, ab_tr ad v) List.mem_cons_self, hv⟩
    · cases hw
  · rw [if_neg e] at hw
    have h1 := h.2.2.2 j w hw
    refine ⟨h'.2.2 (j, ab_tr ad w) (List.mem_cons_of_mem _ (List.mem_filter.mpr ⟨ab_lv_mem.mpr ⟨w, hw, rfl⟩, ?_⟩)), h1.2⟩
    have : (j == i) = false := by simpa using fun q => e q.symm
    simp [this, h1.2]
