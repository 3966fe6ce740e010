section
variable {p : Program} {l : Launch} {e : Env} {R : Room} {s : State} {m : MethodId} {args : Array Value} {below : List Frame} {meth : Method} {c : Code} {cells slots : Nat} {Q : State → Prop}
variable {D : va_G} {cT : Nat → ClassId} {ad : Nat → Nat} {B0 : Nat} {E : ab_E} {k pc pc' : Nat} {S : List ab_C} {L L' : ab_L} {st st' : List Value} {μ μ' : ab_M}
theorem ab_r_getf {j : Nat} (hC : ab_Ctx D cT ad B0 E s) (h : ab_getf E S k pc j L st μ = some (.inl (pc', L', st', μ'))) (hF : ab_Fr p s m args meth c k) (hd : decode (ab_B k) pc = .ok (.getfield j, 3))
    (g : ab_Go p l e R s m args below meth c D cT ad B0 k Q cells slots S μ' pc' L' st') : ab_Go p l e R s m args below meth c D cT ad B0 k Q cells slots S μ pc L st := by
  obtain ⟨hx, hb, hml, hr, hlk, hin, hown, hts⟩ := hF
  unfold ab_getf at h
  split at h
  · rename_i r rest
    split at h
    · rename_i v hv
      obtain ⟨rfl, rfl, rfl, rfl⟩ := ab_nx_i h
      intro H locs ls h2 h3 h4 h5
      have g2 : W p l e R s m args below meth c H locs cells slots Q (F0 m (pc + 3) ls (ab_tr ad v :: rest.map (ab_tr ad))) := g H locs ls h2 h3 h4 h5
      unfold ab_fv at hv
      split at hv
      · rename_i ci vs hcell
        obtain ⟨hr9, hS⟩ := ab_cell_S hcell (by simp)
        split at hv
        · rename_i ci' fi hfl
          split at hv
          · rename_i hcc
            subst hcc
            obtain ⟨w1, w2, w3, w4⟩ := ab_okF hfl
            refine va_get (q0 := r) (k := fi) hx hb hts (ab_okW w4) hown hC.1 h3 (by rw [ab_wd_at hS, ab_w1_0]) (ab_cl_at w4 (ab_ne0 w3)) w3 (hts _ w1) (fun x hx => by rw [w2] at hx; exact hx) (v := ab_tr ad v) ?_ hd g2
            rw [List.getElem?_mapIdx]
            split at hv
            · rename_i e1; rw [e1]; cases hv; rfl
            · rename_i e1; rw [e1]; cases hv; rfl
            · cases hv
          · cases hv
        · cases hv
      · rename_i n vs hcell
        obtain ⟨i, hi, rfl, -⟩ := ab_cell_8 hcell
        obtain ⟨b1, b2, b3, b4⟩ := hC.2.2.2.2.1.1 i hi
        split at hv
        · rename_i ho
          have hown9 : s.vm.findClass RJ0 = some m.cls := by rw [ho] at hown; exact hown
          split at hv
          · rename_i ej
            subst ej
            cases hv
            have g3 : W p l e R s m args below meth c H locs cells slots Q (F0 m (pc + 3) ls (.ref (ad (1001 + 2 * i)) :: rest.map (ab_tr ad))) := by
              rw [show 1001 + 2 * i = 1000 + 2 * i + 1 by omega]; exact g2
            exact vk_getf hx hb b3 h4 hown9 (hts _ ab_oS1) (fun _ h => h) hd g3
          · split at hv
            · rename_i ej
              subst ej
              cases hv
              exact vk_getf hx hb b2 h4 hown9 (hts _ ab_oS2) (fun _ h => h) hd g2
            · cases hv
        · cases hv
      · cases hv
    · cases h
  · cases h
theorem ab_map_set {vs : List Value} {r fi : Nat} {x : Int32} {y : Int32} (h : vs[fi]? = some (.int y)) : (vs.mapIdx (ab_f1 ad μ r)).set fi (.int x) = vs.mapIdx (ab_f1 ad (ab_up μ r fi x) r) := by
  apply List.ext_getElem?
  intro i
  rw [List.getElem?_set, List.getElem?_mapIdx, List.getElem?_mapIdx]
  by_cases e : fi = i
  · subst e
    have : fi < vs.length := (List.getElem?_eq_some_iff.mp h).1
    rw [if_pos rfl, List.length_mapIdx, if_pos this, h]
    simp [ab_f1, ab_up, upd]
  · rw [if_neg e]
    cases vs[i]? with
    | none => rfl
    | some v => cases v <;> simp [ab_f1, ab_up, upd, show ¬ i = fi from fun q => e q.symm]
theorem ab_r_putf {j : Nat} (hC : ab_Ctx D cT ad B0 E s) (h : ab_putf S k pc j L st μ = some (.inl (pc', L', st', μ'))) (hF : ab_Fr p s m args meth c k) (hd : decode (ab_B k) pc = .ok (.putfield j, 3))
    (g : ab_Go p l e R s m args below meth c D cT ad B0 k Q cells slots S μ' pc' L' st') : ab_Go p l e R s m args below meth c D cT ad B0 k Q cells slots S μ pc L st := by
  obtain ⟨hx, hb, hml, hr, hlk, hin, hown, hts⟩ := hF
  have had := hC.2.2.2.2.2.2.2.2.2.2.1
  unfold ab_putf at h
  split at h
  · rename_i x r rest
    split at h
    · rename_i hr9
      split at h
      · rename_i ci vs hS
        split at h
        · rename_i ci' fi hfl
          split at h
          · rename_i hq
            obtain ⟨rfl, q1, q2, q3, q4⟩ := hq
            split at h
            · rename_i y hy
              obtain ⟨rfl, rfl, rfl, rfl⟩ := ab_nx_i h
              obtain ⟨w1, w2, w3, w4⟩ := ab_okF hfl
              intro H locs ls h2 h3 h4 h5
              refine va_put (q0 := r) (k := fi) hx hb hts (ab_okW w4) (ab_ty ci) (ab_ty_ok w4) (ab_nm w4) hown hC.1 h3 (ab_D had h2) h4 (by rw [ab_wd_at hS, ab_w1_0]) (ab_cl_at w4 (ab_ne0 w3)) w3 (hts _ w1) (fun x hx => by rw [w2] at hx; exact hx) q2 (ab_ty_ok w4 fi w3) (v := .int x) q3 q4 (by rw [List.length_mapIdx]; exact (List.getElem?_eq_some_iff.mp hy).1) hd (fun H1 locs1 e1 e2 e3 => ?_)
              rw [ab_map_set hy] at e1
              have e4 : (ab_wd cT ad S μ).set r (ab_w1 cT ad (ab_up μ r fi x) r (0, ci, vs)) = ab_wd cT ad S (ab_up μ r fi x) := ab_wd_set hS (fun a ha => by simp [ab_up, ha])
              rw [ab_w1_0] at e4
              rw [e4] at e1
              exact g H1 locs1 ls h2 e1 e3 h5
            · cases h
          · cases h
        · cases h
      · cases h
    · cases h
  · cases h
end
