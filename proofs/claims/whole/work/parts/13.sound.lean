/-! THE MACHINE IS SOUND: what the abstract machine answers, the machine answers -/
def ab_ws (k : Nat) : List Cond := .code (ab_Y k) (ab_B k) (ab_mL k) (ab_rt k) :: ab_U
/-- what a call d deep may need -/
def ab_rm (d mc ms : Nat) : Room := { frames := d + 1, cells := mc, slots := ms, locals := 40 * d + 100 }
def ab_Pc (D : va_G) (cT : Nat → ClassId) (ad : Nat → Nat) (B0 : Nat) (E : ab_E) (as : List Value) (S : List ab_C) (μ : ab_M) : Array Value → State → Prop :=
  va_Pc (as.map (ab_tr ad)) (fun U => ab_Ctx D cT ad B0 E U ∧ U.heap.size = B0 + S.length ∧ S.length ≤ 900 ∧ va_P D ab_cm (ab_wd cT ad S μ) U.heap)
def ab_Qc (D : va_G) (cT : Nat → ClassId) (ad : Nat → Nat) (B0 : Nat) (v : Option Value) (S' : List ab_C) (μ' : ab_M) : Array Value → State → Outcome → State → Prop :=
  fun _ st oc t => oc = .returned (v.map (ab_tr ad)) ∧ S'.length ≤ 900 ∧ va_P D ab_cm (ab_wd cT ad S' μ') t.heap ∧ va_F (fun q => B0 ≤ q) st t
/-- what stands at a return -/
def ab_isRet (k pc : Nat) (v : Option Value) : Prop := match v with
  | none => decode (ab_B k) pc = .ok (.return_, 1) ∧ ab_rt k = none
  | some (.int x) => decode (ab_B k) pc = .ok (.ireturn, 1) ∧ ∃ ty, ab_rt k = some ty ∧ narrow ty (.int x) = .int x ∧ ab_isObj ty = false
  | some (.ref _) => decode (ab_B k) pc = .ok (.areturn, 1) ∧ ∃ n, ab_rt k = some (.object n)
  | _ => False
theorem ab_GoodU {Ts : List Cond} (h : ∀ w ∈ ab_U, w ∈ Ts) {k : Nat} (hk : k < ab_nM) : GoodIn Ts (ab_ws k) := by
  intro w hw
  have hU : w ∈ ab_U := by
    rcases List.mem_cons.mp hw with rfl | hw
    · exact (ab_okM hk).1
    · exact hw
  exact ⟨h w hU, good_of_word (List.mem_filter.mp hU).2⟩
section
variable {l : Launch} {D : va_G} {cT : Nat → ClassId} {ad : Nat → Nat} {B0 : Nat} {E : ab_E}
theorem ab_blind {as : List Value} {S : List ab_C} {μ : ab_M} : FrameBlind (ab_Pc D cT ad B0 E as S μ) := by
  intro a U g mk h
  obtain ⟨h1, h2, h3⟩ := h
  exact ⟨h1, h2.same rfl rfl, h3⟩
/-- frames that fuel n reaches -/
def ab_Snd (l : Launch) (D : va_G) (cT : Nat → ClassId) (ad : Nat → Nat) (B0 : Nat) (E : ab_E) (n : Nat) : Prop :=
  ∀ (d k pc : Nat) (L : ab_L) (st : List Value) (S S' : List ab_C) (μ μ' : ab_M) (v : Option Value), ab_runB E n d k pc L st (S, μ) = some (v, (S', μ')) →
    S.length ≤ S'.length ∧ ab_tot S ≤ ab_tot S' ∧ (S.length ≤ 900 → S'.length ≤ 900) ∧
    ∀ (p : Program) (e : Env) (R : Room) (s : State) (m : MethodId) (args : Array Value) (below : List Frame) (meth : Method) (c : Code) (cells slots : Nat) (Q : State → Prop) (Ts : List Cond),
      ab_Ctx D cT ad B0 E s → ab_Fr p s m args meth c k → (∀ w ∈ Ts, w.before args s = true) → (∀ w ∈ ab_U, w ∈ Ts) → d + 1 ≤ R.frames → 40 * d + 100 ≤ R.locals → s.heap.size + cells = B0 + S.length → cells + (S'.length - S.length) ≤ R.cells → slots + (ab_tot S' - ab_tot S) ≤ R.slots →
      (∀ (H : Heap) (locs : List Loc) (ls : Array Slot) (pc' : Nat), S'.length ≤ 900 → va_P D ab_cm (ab_wd cT ad S' μ') H → va_S (fun q => B0 ≤ q) s.heap H locs → ab_isRet k pc' v → W p l e R s m args below meth c H locs (cells + (S'.length - S.length)) (slots + (ab_tot S' - ab_tot S)) Q (F0 m pc' ls (v.toList.map (ab_tr ad)))) →
      ab_Go p l e R s m args below meth c D cT ad B0 k Q cells slots S μ pc L st
theorem ab_MetOfW {y : MethodName} {ws ws' : List Cond} {rm : Room} {Pc : Array Value → State → Prop} {Qc : Array Value → State → Outcome → State → Prop} {mc ms : Nat} {free : Addr → Prop} {cc : ByteArray} {maxL : Nat} {ret : Option FieldType}
    (hy : plainFor y = true) (hw : ws = Cond.code y cc maxL ret :: ws')
    (body : ∀ p e s m args below meth c s₁, BodyLoose p l y (headSpec ws rm) cc maxL ret e s m args below meth c s₁ → c.maxLocals = maxL → Pc args s →
      W p l e (headSpec ws rm).room s m args below meth c s.heap [] 0 0 (MQ below Qc args s mc ms free) (entryFrame m args maxL)) : Met l y ws rm Pc Qc mc ms free := by
  refine MetFree.of_bodySF (code := cc) (maxLocals := maxL) (ret := ret) hy ?_ ?_
  · intro args s m h hn
    obtain ⟨meth, c, h1, h2, h3, h4, h5, h6, -, -⟩ := Cond.code_spec hn (atoms_spec (ws := ws) h _ (by rw [hw]; exact List.mem_cons_self))
    exact ⟨meth, c, h1, h2, h3, h4, h5, h6⟩
  · intro p e s m args below meth c s₁ B hml hP _
    have hh0 : s₁.heap = s.heap := by rw [B.state]; rfl
    obtain ⟨t, a1, o, b1, b2, b3⟩ := body p e s m args below meth c s₁ B hml hP s₁ hh0 (Stand.of_body B)
    exact ⟨t, o, a1, b1, b2, ⟨b3.1, b3.2⟩⟩
theorem ab_lg : ∀ {as : List Value}, (∀ v ∈ as, v.category = 1) → lg_sl as = as.map .val
  | [], _ => rfl
  | v :: as, h => by
    have h1 := h v List.mem_cons_self
    have h2 := ab_lg (as := as) (fun w hw => h w (List.mem_cons_of_mem _ hw))
    show (if v.category = 2 then _ else _) ++ lg_sl as = _
    rw [h1, h2]
    rfl
theorem ab_lva : ∀ (as : List Value) (n : Nat), (∀ v ∈ as, v.category = 1) → ∀ (i : Nat) (v : Value), as[i]? = some v → (n + i, v) ∈ lv_args n as
  | [], _, _, i, v, h => by simp at h
  | w :: as, n, hc, 0, v, h => by
    cases h
    unfold lv_args
    exact List.mem_cons_self
  | w :: as, n, hc, i + 1, v, h => by
    have h1 : w.category = 1 := hc w List.mem_cons_self
    have h2 := ab_lva as (n + 1) (fun w hw => hc w (List.mem_cons_of_mem _ hw)) i v (by simpa using h)
    unfold lv_args
    simp only [h1]
    refine List.mem_cons_of_mem _ ?_
    have e : n + (i + 1) = n + 1 + i := by omega
    rw [e]
    exact h2
/-- the contract of a method, out of its body's run -/
theorem ab_met {n d k : Nat} {as : List Value} {S S' : List ab_C} {μ μ' : ab_M} {v : Option Value} (hk : k < ab_nM) (hS : ab_Snd l D cT ad B0 E n) (has : ∀ w ∈ as, w.category = 1) (hal : as.length ≤ ab_mL k) (h : ab_runB E n d k 0 (ab_ent k as) [] (S, μ) = some (v, (S', μ'))) :
    Met l (ab_Y k) (ab_ws k) (ab_rm d (S'.length - S.length) (ab_tot S' - ab_tot S)) (ab_Pc D cT ad B0 E as S μ) (ab_Qc D cT ad B0 v S' μ') (S'.length - S.length) (ab_tot S' - ab_tot S) (fun q => B0 ≤ q) := by
  obtain ⟨w1, w2, w3, w4, w5, w6⟩ := ab_okM hk
  obtain ⟨g1, g2, g3, g4⟩ := hS d k 0 (ab_ent k as) [] S S' μ μ' v h
  refine ab_MetOfW (cc := ab_B k) (maxL := ab_mL k) (ret := ab_rt k) w3 rfl ?_
  intro p e s m args below meth c s₁ B hml hv
  obtain ⟨rfl, hC, hsz, h900, hP⟩ := hv
  have hts := atoms_spec (ws := ab_ws k) B.pre
  have hc1 : ∀ w ∈ as.map (ab_tr ad), w.category = 1 := by
    intro w hw
    obtain ⟨u, hu, rfl⟩ := List.mem_map.mp hw
    rw [ab_cat]; exact has u hu
  have hlen : (lg_sl (as.map (ab_tr ad))).length ≤ ab_mL k := by rw [ab_lg hc1]; simpa using hal
  have hl := lv_entry (as.map (ab_tr ad)) (n := ab_mL k) hlen
  rw [lg_entry_eq]
  refine g4 p e _ s m _ below meth c 0 0 _ (ab_ws k) hC ⟨B.exec, B.bytes, hml, B.returns, B.notSynchronized, fun q => (name_of_methodNamed B.named B.method).1.trans q, by rw [← w5]; exact findClass_of_methodNamed B.named, fun w hw => hts w (List.mem_cons_of_mem _ hw)⟩ hts (fun w hw => List.mem_cons_of_mem _ hw) (Nat.le_refl _) (Nat.le_refl _) hsz (by rw [Nat.zero_add]; exact Nat.le_refl _) (by rw [Nat.zero_add]; exact Nat.le_refl _) ?_ s.heap [] _ h900 hP va_S.rf ⟨hl.1, hl.2.1, ?_, ?_⟩
  · intro H locs ls pc' q1 q2 q3 q4
    rw [Nat.zero_add, Nat.zero_add]
    have hq : ∀ t : State, t.heap = H → s.WarmedH t.vm → ab_Qc D cT ad B0 v S' μ' (as.map (ab_tr ad)).toArray s (.returned (v.map (ab_tr ad))) t := fun t ht _ => ⟨rfl, q1, by rw [ht]; exact q2, q3.F ht⟩
    unfold ab_isRet at q4
    split at q4
    · exact W.vret B.exec B.bytes (B.returns.trans q4.2) hq q3.2.2 q4.1 B.notSynchronized
    · obtain ⟨q5, ty, q6, q7, -⟩ := q4
      exact W.zret B.exec B.bytes (B.returns.trans q6) q7 hq q3.2.2 q5 B.notSynchronized
    · obtain ⟨q5, nm, q6⟩ := q4
      exact W.aret B.exec B.bytes (B.returns.trans q6) (Or.inl ⟨nm, rfl⟩) (Or.inr ⟨_, rfl⟩) hq q3.2.2 q5 B.notSynchronized
    · cases q4
  · unfold ab_ent; simp; omega
  · intro i w hw
    unfold ab_ent at hw
    by_cases hi : i < as.length
    · rw [List.getElem?_append_left (by simpa using hi), List.getElem?_map] at hw
      have e1 : as[i]? = some w := by
        cases e2 : as[i]? with
        | none => rw [e2] at hw; cases hw
        | some u => rw [e2] at hw; cases hw; rfl
      refine ⟨?_, by rw [ab_cat]; exact has w (List.mem_of_getElem? e1)⟩
      have := ab_lva (as.map (ab_tr ad)) 0 hc1 i (ab_tr ad w) (by rw [List.getElem?_map, e1]; rfl)
      rw [Nat.zero_add] at this
      exact hl.2.2 _ this
    · rw [List.getElem?_append_right (by simpa using Nat.le_of_not_lt hi), List.getElem?_replicate] at hw
      split at hw <;> cases hw
end
