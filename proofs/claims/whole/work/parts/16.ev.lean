/-! THE MACHINE WITHOUT FUEL -/
theorem ab_run_mono (E : ab_E) (S : List ab_C) : ∀ (n m d k pc : Nat) (L : ab_L) (st : List Value) (μ : ab_M) (r : Option Value × ab_M), n ≤ m → ab_run E S n d k pc L st μ = some r → ab_run E S m d k pc L st μ = some r := by
  intro n
  induction n with
  | zero => intro m d k pc L st μ r _ h; cases h
  | succ n ih =>
    intro m d k pc L st μ r hm h
    cases m with
    | zero => omega
    | succ m =>
      unfold ab_run at h ⊢
      split at h
      · exact ih m _ _ _ _ _ _ _ (by omega) h
      · exact h
      · cases d with
        | zero => cases h
        | succ d =>
          simp only at h ⊢
          split at h
          · rename_i e2
            rw [ih m _ _ _ _ _ _ _ (by omega) e2]
            exact ih m _ _ _ _ _ _ _ (by omega) h
          · cases h
      · cases h
noncomputable def ab_Ev (E : ab_E) (S : List ab_C) (d k pc : Nat) (L : ab_L) (st : List Value) (μ : ab_M) : Option (Option Value × ab_M) :=
  @dite _ (∃ r, ∃ n, ab_run E S n d k pc L st μ = some r) (Classical.propDecidable _) (fun h => some h.choose) (fun _ => none)
section
variable {E : ab_E} {S : List ab_C} {d k pc pc' : Nat} {L L' : ab_L} {st st' : List Value} {μ μ' : ab_M} {r : Option Value × ab_M}
theorem ab_Ev_iff : ab_Ev E S d k pc L st μ = some r ↔ ∃ n, ab_run E S n d k pc L st μ = some r := by
  unfold ab_Ev
  constructor
  · intro h
    split at h
    · rename_i hq
      obtain ⟨n, hn⟩ := hq.choose_spec
      cases h
      exact ⟨n, hn⟩
    · cases h
  · rintro ⟨n, hn⟩
    have hq : ∃ r, ∃ n, ab_run E S n d k pc L st μ = some r := ⟨r, n, hn⟩
    rw [dif_pos hq]
    obtain ⟨m, hm⟩ := hq.choose_spec
    rcases Nat.le_total n m with h | h
    · have := ab_run_mono E S n m d k pc L st μ r h hn
      rw [hm] at this
      exact this
    · have := ab_run_mono E S m n d k pc L st μ _ h hm
      rw [hn] at this
      exact this.symm
theorem ab_opt {α : Type} {a b : Option α} (h : ∀ x, a = some x ↔ b = some x) : a = b := by
  cases a with
  | none => cases b with
    | none => rfl
    | some y => exact absurd ((h y).mpr rfl) (by simp)
  | some x => exact ((h x).mp rfl).symm
theorem ab_Ev_next (h : ab_core E S k pc L st μ = some (.inl (pc', L', st', μ'))) : ab_Ev E S d k pc L st μ = ab_Ev E S d k pc' L' st' μ' := by
  apply ab_opt
  intro x
  rw [ab_Ev_iff, ab_Ev_iff]
  constructor
  · rintro ⟨n, hn⟩
    cases n with
    | zero => cases hn
    | succ n => unfold ab_run at hn; rw [h] at hn; exact ⟨n, hn⟩
  · rintro ⟨n, hn⟩
    refine ⟨n + 1, ?_⟩
    unfold ab_run; rw [h]; exact hn
theorem ab_Ev_ret (h : ab_core E S k pc L st μ = some (.inr (.inl r))) : ab_Ev E S d k pc L st μ = some r := by
  rw [ab_Ev_iff]
  refine ⟨1, ?_⟩
  unfold ab_run; rw [h]
theorem ab_Ev_stuck (h : ab_core E S k pc L st μ = none) : ab_Ev E S d k pc L st μ = none := by
  apply ab_opt
  intro x
  rw [ab_Ev_iff]
  constructor
  · rintro ⟨n, hn⟩
    cases n with
    | zero => cases hn
    | succ n => unfold ab_run at hn; rw [h] at hn; cases hn
  · intro h; cases h
theorem ab_Ev_call {k' : Nat} {as : List Value} (h : ab_core E S k pc L st μ = some (.inr (.inr (k', as, pc', L', st')))) : ab_Ev E S (d + 1) k pc L st μ = (ab_Ev E S d k' 0 (ab_ent k' as) [] μ).bind fun r => ab_Ev E S (d + 1) k pc' L' (r.1.toList ++ st') r.2 := by
  apply ab_opt
  intro x
  rw [Option.bind_eq_some_iff]
  constructor
  · intro hx
    obtain ⟨n, hn⟩ := ab_Ev_iff.mp hx
    cases n with
    | zero => cases hn
    | succ n =>
      unfold ab_run at hn
      rw [h] at hn
      simp only at hn
      split at hn
      · rename_i v1 μ1 e
        exact ⟨(v1, μ1), ab_Ev_iff.mpr ⟨n, e⟩, ab_Ev_iff.mpr ⟨n, hn⟩⟩
      · cases hn
  · rintro ⟨⟨v1, μ1⟩, h1, h2⟩
    obtain ⟨n1, h1⟩ := ab_Ev_iff.mp h1
    obtain ⟨n2, h2⟩ := ab_Ev_iff.mp h2
    refine ab_Ev_iff.mpr ⟨max n1 n2 + 1, ?_⟩
    unfold ab_run
    rw [h]
    simp only
    rw [ab_run_mono E S n1 (max n1 n2) _ _ _ _ _ _ _ (by omega) h1]
    exact ab_run_mono E S n2 (max n1 n2) _ _ _ _ _ _ _ (by omega) h2
/-- what comes back is what the method's type says -/
theorem ab_run_ty (E : ab_E) (S : List ab_C) : ∀ (n d k pc : Nat) (L : ab_L) (st : List Value) (μ : ab_M) (r : Option Value × ab_M), ab_run E S n d k pc L st μ = some r → ∃ pc', ab_isRet k pc' r.1 := by
  intro n
  induction n with
  | zero => intro d k pc L st μ r h; cases h
  | succ n ih =>
    intro d k pc L st μ r h
    unfold ab_run at h
    split at h
    · exact ih _ _ _ _ _ _ _ h
    · rename_i r2 e
      cases h
      obtain ⟨v, μ2⟩ := r
      exact ⟨pc, (ab_ret_i e).2.2⟩
    · cases d with
      | zero => cases h
      | succ d =>
        simp only at h
        split at h
        · exact ih _ _ _ _ _ _ _ h
        · cases h
    · cases h
/-- behind a call that answers an int | nothing | a reference -/
def ab_cI (o : Option (Option Value × ab_M)) (f : Int32 → ab_M → Option (Option Value × ab_M)) : Option (Option Value × ab_M) := match o with
  | some (some (.int x), μ) => f x μ
  | _ => none
def ab_cV (o : Option (Option Value × ab_M)) (f : ab_M → Option (Option Value × ab_M)) : Option (Option Value × ab_M) := match o with
  | some (none, μ) => f μ
  | _ => none
def ab_cA (o : Option (Option Value × ab_M)) (f : Nat → ab_M → Option (Option Value × ab_M)) : Option (Option Value × ab_M) := match o with
  | some (some (.ref x), μ) => f x μ
  | _ => none
theorem ab_tyI {r : Option Value × ab_M} {ty : FieldType} (h : ab_Ev E S d k pc L st μ = some r) (ht : ab_rt k = some ty) (hn : ab_isObj ty = false) : ∃ x, r.1 = some (.int x) := by
  obtain ⟨n, h⟩ := ab_Ev_iff.mp h
  obtain ⟨pc', hr⟩ := ab_run_ty E S _ _ _ _ _ _ _ _ h
  unfold ab_isRet at hr
  split at hr
  · rw [ht] at hr; cases hr.2
  · rename_i x e; exact ⟨x, e⟩
  · obtain ⟨-, n, h⟩ := hr; rw [ht] at h; cases h; cases hn
  · cases hr
theorem ab_tyV {r : Option Value × ab_M} (h : ab_Ev E S d k pc L st μ = some r) (ht : ab_rt k = none) : r.1 = none := by
  obtain ⟨n, h⟩ := ab_Ev_iff.mp h
  obtain ⟨pc', hr⟩ := ab_run_ty E S _ _ _ _ _ _ _ _ h
  unfold ab_isRet at hr
  split at hr
  · assumption
  · obtain ⟨-, ty, h, -⟩ := hr; rw [ht] at h; cases h
  · obtain ⟨-, n, h⟩ := hr; rw [ht] at h; cases h
  · cases hr
theorem ab_tyA {r : Option Value × ab_M} {nm : String} (h : ab_Ev E S d k pc L st μ = some r) (ht : ab_rt k = some (.object nm)) : ∃ q, r.1 = some (.ref q) := by
  obtain ⟨n, h⟩ := ab_Ev_iff.mp h
  obtain ⟨pc', hr⟩ := ab_run_ty E S _ _ _ _ _ _ _ _ h
  unfold ab_isRet at hr
  split at hr
  · rw [ht] at hr; cases hr.2
  · obtain ⟨-, ty, h, -, h2⟩ := hr; rw [ht] at h; cases h; cases h2
  · rename_i x e; exact ⟨x, e⟩
  · cases hr
end
