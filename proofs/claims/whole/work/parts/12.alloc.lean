theorem vr_outer (c : ClassId) (N h0 : Nat) : ∀ i : Nat, Jvm.Free.Multi.outerC c N h0 i = arrV c N (fun j => va_rf (if j < i then some (h0 + 1 + j) else none))
  | 0 => by
    show ({ cls := c, slots := Array.replicate N .null, vm := .none } : Cell) = _
    rw [arrV_new]
    refine congrArg (arrV c N) (funext fun j => ?_)
    simp [va_rf]
  | i + 1 => by
    show (Jvm.Free.Multi.outerC c N h0 i).setSlot i (.ref (h0 + 1 + i)) = _
    rw [vr_outer c N h0 i, arrV_store]
    refine congrArg (arrV c N) (funext fun j => ?_)
    by_cases e : j = i
    · subst e
      simp [updV, va_rf]
    · by_cases h : j < i
      · simp [updV, e, h, Nat.lt_succ_of_lt h]
      · simp [updV, e, h, show ¬ j < i + 1 by omega]

def ab_sz (x : ab_C) : Nat := if x.1 = 0 then x.2.2.length else x.2.1
def ab_tot (S : List ab_C) : Nat := (S.map ab_sz).sum
theorem ab_tot_app (S T : List ab_C) : ab_tot (S ++ T) = ab_tot S + ab_tot T := by unfold ab_tot; rw [List.map_append, List.sum_append]
theorem ab_sum_set : ∀ (xs : List Nat) (r a : Nat), xs[r]? = some a → (xs.set r a).sum = xs.sum
  | [], r, a, h => by simp at h
  | x :: xs, 0, a, h => by cases h; rfl
  | x :: xs, r + 1, a, h => by
    have := ab_sum_set xs r a (by simpa using h)
    simp [this]
theorem ab_tot_set {S : List ab_C} {r : Nat} {x y : ab_C} (h : S[r]? = some x) (e : ab_sz y = ab_sz x) : ab_tot (S.set r y) = ab_tot S := by
  unfold ab_tot
  rw [List.map_set, e]
  exact ab_sum_set _ r _ (by rw [List.getElem?_map, h]; rfl)
section
variable {p : Program} {l : Launch} {e : Env} {R : Room} {s : State} {m : MethodId} {args : Array Value} {below : List Frame} {meth : Method} {c : Code} {cells slots : Nat} {Q : State → Prop}
variable {D : va_G} {cT : Nat → ClassId} {ad : Nat → Nat} {B0 : Nat} {E : ab_E} {k pc pc' : Nat} {S S' : List ab_C} {L L' : ab_L} {st st' : List Value} {μ μ' : ab_M}
theorem ab_W_sz {H : Heap} {locs : List Loc} {g : JFrame} (kk : H.size ≤ s.heap.size + cells → W p l e R s m args below meth c H locs cells slots Q g) : W p l e R s m args below meth c H locs cells slots Q g := fun T hT X => kk (by have := X.same.2.2.1; rw [← hT]; exact this) T hT X
theorem ab_size (hC : ab_Ctx D cT ad B0 E s) {H : Heap} {locs : List Loc} (h2 : S.length ≤ 900) (h3 : va_P D ab_cm (ab_wd cT ad S μ) H) (h4 : va_S (fun q => B0 ≤ q) s.heap H locs) (hcs : s.heap.size + cells = B0 + S.length) (hz : H.size ≤ s.heap.size + cells) : H.size = B0 + S.length := by
  have had := hC.2.2.2.2.2.2.2.2.2.2.1
  have hB := hC.2.2.2.2.2.2.2.2.2.1
  have h0 := h4.1
  by_cases e : S.length = 0
  · omega
  · have hlt : S.length - 1 < S.length := by omega
    have h := h3 (S.length - 1) _ (ab_wd_at (List.getElem?_eq_getElem hlt))
    have h := h.lt
    have e2 : (ab_w1 cT ad μ (S.length - 1) S[S.length - 1]).1 = B0 + (S.length - 1) := had _ (by omega)
    rw [e2] at h
    omega
theorem ab_f1_dv {r j : Nat} (ty : FieldType) (h : μ r j = 0) : ab_f1 ad μ r j (defaultValue ty) = defaultValue ty := by
  cases ty <;> simp [defaultValue, ab_f1, ab_tr, h]
theorem ab_push1 (hC : ab_Ctx D cT ad B0 E s) {H H1 : Heap} {locs : List Loc} {x : ab_C} (h3 : va_P D ab_cm (ab_wd cT ad S μ) H) (h4 : va_S (fun q => B0 ≤ q) s.heap H locs) (hsz : H.size = B0 + S.length) (hlt : S.length < 900) (o1 : ∀ q, q < H.size → H1[q]? = H[q]?) (z1 : H1.size = H.size + 1)
    (hx : va_at D ab_cm (ab_w1 cT ad (ab_upA μ S.length (fun _ => 0)) S.length x) H1) : va_P D ab_cm (ab_wd cT ad (S ++ [x]) (ab_upA μ S.length (fun _ => 0))) H1 ∧ va_S (fun q => B0 ≤ q) s.heap H1 locs := by
  refine ⟨?_, Nat.le_trans h4.1 (by omega), fun x h1 h2 => (o1 x (Nat.lt_of_lt_of_le h1 h4.1)).trans (h4.2.1 x h1 h2), h4.2.2⟩
  rw [ab_wd_push (μ := μ) (fun a ha => by simp [ab_upA, Nat.ne_of_lt ha])]
  refine (h3.kept (fun k x hx => o1 x.1 ((h3 k x hx).lt))).app (fun k q hq => ?_)
  have hz : k < 1 := (List.getElem?_eq_some_iff.mp hq).1
  obtain rfl : k = 0 := by omega
  cases hq
  exact hx
theorem ab_r_new {j ci : Nat} (hC : ab_Ctx D cT ad B0 E s) (hj : ab_kl (ab_own k) j = some ci) (hlt : S.length < 900) (hF : ab_Fr p s m args meth c k) (hd : decode (ab_B k) pc = .ok (.new j, 3)) (hcs : s.heap.size + cells = B0 + S.length) (hr1 : cells + 1 ≤ R.cells) (hr2 : slots + ab_N ci ≤ R.slots)
    (g : ab_Go p l e R s m args below meth c D cT ad B0 k Q (cells + 1) (slots + ab_N ci) (S ++ [(0, ci, ab_zs ci)]) (ab_upA μ S.length (fun _ => 0)) (pc + 3) L (.ref S.length :: st)) : ab_Go p l e R s m args below meth c D cT ad B0 k Q cells slots S μ pc L st := by
  obtain ⟨hx, hb, hml, hr, hlk, hin, hown, hts⟩ := hF
  obtain ⟨w1, w2, w3, w4⟩ := ab_okklT (ab_mk_mem hj)
  have had := hC.2.2.2.2.2.2.2.2.2.2.1
  intro H locs ls h2 h3 h4 h5
  refine ab_W_sz fun hz => ?_
  have hsz := ab_size hC h2 h3 h4 hcs hz
  have hne := ab_kl0 (ab_mk_mem hj)
  have hKn := hC.1.1 ci _ (ab_cl_at w4 hne)
  refine W.newcK hx hb hown (hts _ w1) (hts _ w2) (hts _ w3) rfl hd hr1 hr2 hKn.2.1 rfl fun H1 kC hkC e1 z1 o1 => ?_
  have hb1 := (u_born (ab_ty ci) hts (ab_okW w4) hKn hkC e1 (ab_ty_ok w4))
  obtain ⟨p1, p2⟩ := ab_push1 (x := (0, ci, ab_zs ci)) hC h3 h4 hsz hlt o1 z1 (by
    rw [ab_w1_0]
    refine ⟨_, ab_cl_at w4 hne, ?_⟩
    show t_OB (ad S.length) _ _ _ _ _
    rw [had _ hlt, ← hsz]
    refine hb1.to (fun q hq => ?_)
    show _ = List.getD _ q Value.null
    rw [List.getD_eq_getElem?_getD, List.getElem?_mapIdx]
    unfold ab_zs
    rw [List.getElem?_map, List.getElem?_range hq]
    simp only [Option.map_some, Option.getD_some]
    exact (ab_f1_dv _ (by simp [ab_upA])).symm)
  have g2 := g H1 locs ls (by rw [List.length_append]; exact hlt) p1 p2 h5
  rw [List.map_cons, show ab_tr ad (.ref S.length) = .ref H.size by show Value.ref (ad S.length) = _; rw [had _ hlt, hsz]] at g2
  exact g2
theorem ab_r_newa {t : ArrayType} {n : Int32} (hC : ab_Ctx D cT ad B0 E s) (ht : ab_tag t ≠ 0) (hlt : S.length < 900) (hn : ¬ n < 0) (hn2 : n.toNatClampNeg ≤ 10000) (hF : ab_Fr p s m args meth c k) (hd : decode (ab_B k) pc = .ok (.newarray t, 2)) (hcs : s.heap.size + cells = B0 + S.length) (hr1 : cells + 1 ≤ R.cells) (hr2 : slots + n.toNatClampNeg ≤ R.slots)
    (g : ab_Go p l e R s m args below meth c D cT ad B0 k Q (cells + 1) (slots + n.toNatClampNeg) (S ++ [(ab_tag t, n.toNatClampNeg, [])]) (ab_upA μ S.length (fun _ => 0)) (pc + 2) L (.ref S.length :: st)) : ab_Go p l e R s m args below meth c D cT ad B0 k Q cells slots S μ pc L (.int n :: st) := by
  obtain ⟨hx, hb, hml, hr, hlk, hin, hown, hts⟩ := hF
  have had := hC.2.2.2.2.2.2.2.2.2.2.1
  intro H locs ls h2 h3 h4 h5
  refine ab_W_sz fun hz => ?_
  have hsz := ab_size hC h2 h3 h4 hcs hz
  have hfin : ∀ (H1 : Heap) (cA : ClassId), H1[H.size]? = some (arrV cA n.toNatClampNeg (fun _ => .int 0)) → H1.size = H.size + 1 → (∀ q, q < H.size → H1[q]? = H[q]?) → cA = cT (ab_tag t) → ab_tag t ≤ 3 → W p l e R s m args below meth c H1 locs (cells + 1) (slots + n.toNatClampNeg) Q (F0 m (pc + 2) ls (.ref H.size :: st.map (ab_tr ad))) := by
    intro H1 cA e1 z1 o1 ec ht3
    obtain ⟨p1, p2⟩ := ab_push1 (x := (ab_tag t, n.toNatClampNeg, [])) hC h3 h4 hsz hlt o1 z1 (by
      rw [ab_w1_a ht ht3]
      show H1[ad S.length]? = _
      rw [had _ hlt, ← hsz, e1, ec, vp_cell_i]
      simp [ab_upA])
    have g2 := g H1 locs ls (by rw [List.length_append]; exact hlt) p1 p2 h5
    rw [List.map_cons, show ab_tr ad (.ref S.length) = .ref H.size by show Value.ref (ad S.length) = _; rw [had _ hlt, hsz]] at g2
    exact g2
  cases t with
  | int =>
    refine va_newaK (atype := .int) hx hb (hts _ ab_oA_int) rfl hd rfl hn rfl (by show _ * componentBytes .int ≤ _; simp [componentBytes]; omega) hr1 hr2 rfl fun H1 cA e1 z1 o1 hAr hNm => ?_
    exact hfin H1 cA e1 z1 o1 (Option.some.inj (hNm.symm.trans (hC.1.2 0 _ rfl).2)) (by decide)
  | boolean =>
    refine va_newaK (atype := .boolean) hx hb (hts _ ab_oA_boolean) rfl hd rfl hn rfl (by show _ * componentBytes .boolean ≤ _; simp [componentBytes]; omega) hr1 hr2 rfl fun H1 cA e1 z1 o1 hAr hNm => ?_
    exact hfin H1 cA e1 z1 o1 (Option.some.inj (hNm.symm.trans (hC.1.2 1 _ rfl).2)) (by decide)
  | char =>
    refine va_newaK (atype := .char) hx hb (hts _ ab_oA_char) rfl hd rfl hn rfl (by show _ * componentBytes .char ≤ _; simp [componentBytes]; omega) hr1 hr2 rfl fun H1 cA e1 z1 o1 hAr hNm => ?_
    exact hfin H1 cA e1 z1 o1 (Option.some.inj (hNm.symm.trans (hC.1.2 2 _ rfl).2)) (by decide)
  | _ => exact absurd rfl ht
theorem ab_r_newq {j ci : Nat} {n : Int32} (hC : ab_Ctx D cT ad B0 E s) (hj : ab_kl (ab_own k) j = some ci) (hci : ci = 3 ∨ ci = 4) (hlt : S.length < 900) (hn : ¬ n < 0) (hn2 : n.toNatClampNeg ≤ 10000) (hF : ab_Fr p s m args meth c k) (hd : decode (ab_B k) pc = .ok (.anewarray j, 3)) (hcs : s.heap.size + cells = B0 + S.length) (hr1 : cells + 1 ≤ R.cells) (hr2 : slots + n.toNatClampNeg ≤ R.slots)
    (g : ab_Go p l e R s m args below meth c D cT ad B0 k Q (cells + 1) (slots + n.toNatClampNeg) (S ++ [(ci + 3, n.toNatClampNeg, List.replicate n.toNatClampNeg .null)]) (ab_upA μ S.length (fun _ => 0)) (pc + 3) L (.ref S.length :: st)) : ab_Go p l e R s m args below meth c D cT ad B0 k Q cells slots S μ pc L (.int n :: st) := by
  obtain ⟨hx, hb, hml, hr, hlk, hin, hown, hts⟩ := hF
  obtain ⟨w1, w2, w3, w4⟩ := ab_okklT (ab_mk_mem hj)
  have had := hC.2.2.2.2.2.2.2.2.2.2.1
  intro H locs ls h2 h3 h4 h5
  refine ab_W_sz fun hz => ?_
  have hsz := ab_size hC h2 h3 h4 hcs hz
  have hover : va_AO (ab_R ci) s := by
    rcases hci with rfl | rfl
    · exact hC.2.2.1.1
    · exact hC.2.2.1.2.1
  refine W.anew hx hb hown (hts _ w1) (va_AO.use hover) rfl hd rfl hn (by omega) hr1 hr2 fun cA kA comp f1 f2 f3 f4 => ?_
  generalize hH1 : H.push ({ cls := cA, slots := Array.replicate n.toNatClampNeg .null, vm := .none } : Cell) = H1
  have z1 : H1.size = H.size + 1 := by rw [← hH1, Array.size_push]
  have e1 : H1[H.size]? = some (arrV cA n.toNatClampNeg (fun _ => .null)) := by rw [← hH1, Array.getElem?_push_size, ← arrV_new]
  have o1 : ∀ q : Nat, q < H.size → H1[q]? = H[q]? := fun q hq => by rw [← hH1, Array.getElem?_push, if_neg (Nat.ne_of_lt hq)]
  have ec : cA = cT (ci + 3) := by
    rcases hci with rfl | rfl
    · obtain ⟨_, _, _, _, _, h⟩ := (hC.1.2 4 _ rfl).2
      exact Option.some.inj (f1.symm.trans h)
    · obtain ⟨_, _, _, _, _, h⟩ := (hC.1.2 5 _ rfl).2
      exact Option.some.inj (f1.symm.trans h)
  obtain ⟨p1, p2⟩ := ab_push1 (x := (ci + 3, n.toNatClampNeg, List.replicate n.toNatClampNeg .null)) hC h3 h4 hsz hlt o1 z1 (by
    rw [ab_w1_q (by rcases hci with rfl | rfl <;> decide)]
    show H1[ad S.length]? = _
    rw [had _ hlt, ← hsz, e1, ec, vp_cell_q]
    congr 2
    funext q
    unfold ab_q1
    rw [List.getElem?_replicate]
    split
    · rename_i e9; split at e9 <;> cases e9
    · rfl)
  have g2 := g H1 locs ls (by rw [List.length_append]; exact hlt) p1 p2 h5
  rw [List.map_cons, show ab_tr ad (.ref S.length) = .ref H.size by show Value.ref (ad S.length) = _; rw [had _ hlt, hsz]] at g2
  exact g2
theorem ab_r_multi {j : Nat} {n kk : Int32} (hC : ab_Ctx D cT ad B0 E s) (hj : (ab_own k, j) = ab_kq) (hlt : S.length + n.toNatClampNeg < 900) (hn : ¬ n < 0) (hk : ¬ kk < 0) (hn2 : n.toNatClampNeg ≤ 1000) (hk2 : kk.toNatClampNeg ≤ 1000) (hF : ab_Fr p s m args meth c k) (hd : decode (ab_B k) pc = .ok (.multianewarray j 2, 4)) (hcs : s.heap.size + cells = B0 + S.length) (hr1 : cells + (1 + n.toNatClampNeg) ≤ R.cells) (hr2 : slots + (n.toNatClampNeg + n.toNatClampNeg * kk.toNatClampNeg) ≤ R.slots)
    (g : ab_Go p l e R s m args below meth c D cT ad B0 k Q (cells + 1 + n.toNatClampNeg) (slots + n.toNatClampNeg + n.toNatClampNeg * kk.toNatClampNeg) (S ++ [(5, n.toNatClampNeg, (List.range n.toNatClampNeg).map fun q => .ref (S.length + 1 + q))] ++ List.replicate n.toNatClampNeg (1, kk.toNatClampNeg, [])) (fun a => if S.length ≤ a then (fun _ => 0) else μ a) (pc + 4) L (.ref S.length :: st)) : ab_Go p l e R s m args below meth c D cT ad B0 k Q cells slots S μ pc L (.int kk :: .int n :: st) := by
  obtain ⟨hx, hb, hml, hr, hlk, hin, hown, hts⟩ := hF
  have had := hC.2.2.2.2.2.2.2.2.2.2.1
  intro H locs ls h2 h3 h4 h5
  refine ab_W_sz fun hz => ?_
  have hsz := ab_size hC h2 h3 h4 hcs hz
  intro T hT Xs
  have e1 : ab_own k = ab_kq.1 := by rw [← hj]
  have e2 : j = ab_kq.2 := by rw [← hj]
  have hcl : (Cond.classLink (ab_R (ab_own k)) j ("[" ++ (FieldType.array .int).toString)).before args s = true := by rw [e1, e2]; exact hts _ ab_oQ
  obtain ⟨vm₁, cA, comp, -, fA, fC, hO, -, X', step⟩ := Xs.multianewarray2F (ty := .int) hx hown hcl (ab_AOA.use hC.2.2.1.2.2) (hts _ ab_oA_int) (g := F0 m pc ls (.int kk :: .int n :: st.map (ab_tr ad))) rfl (by rw [hb]; exact hd) rfl hn hk (by omega) (by show _ * componentBytes .int ≤ _; simp [componentBytes]; omega) (by omega) rfl rfl hr1 hr2
  have ecA : cA = cT 5 := Option.some.inj (fA.symm.trans (hC.1.2 3 _ rfl).2)
  have ecy : comp = cT 1 := Option.some.inj (fC.symm.trans (hC.1.2 0 _ rfl).2)
  subst ecA
  subst ecy
  generalize hFF : Jvm.Free.Multi.fill (T.setVm vm₁) (cT 5) (cT 1) n.toNatClampNeg kk.toNatClampNeg (defaultValue .int) n.toNatClampNeg = F at X' step
  have hTh : (T.setVm vm₁).heap = H := hT
  obtain ⟨f1, f2, -, -⟩ := Jvm.Free.Multi.fill_facts (T.setVm vm₁) (cT 5) (cT 1) n.toNatClampNeg kk.toNatClampNeg (defaultValue .int) n.toNatClampNeg
  rw [hFF, hTh] at f1 f2
  have hold : ∀ x : Nat, x < H.size → F.heap[x]? = H[x]? := fun x hx => by
    have := Jvm.Free.Multi.fill_old (T.setVm vm₁) (cT 5) (cT 1) n.toNatClampNeg kk.toNatClampNeg (defaultValue .int) (a := x) (by rw [hTh]; exact hx) n.toNatClampNeg
    rw [hFF, hTh] at this
    exact this
  have hrow : ∀ j : Nat, j < n.toNatClampNeg → F.heap[H.size + 1 + j]? = some (arrV (cT 1) kk.toNatClampNeg (fun _ => .int 0)) := fun j hj => by
    have := Jvm.Free.Multi.fill_inner (T.setVm vm₁) (cT 5) (cT 1) n.toNatClampNeg kk.toNatClampNeg (defaultValue .int) n.toNatClampNeg j hj
    rw [hFF, hTh] at this
    rw [this, ← arrV_new]
    rfl
  rw [vr_outer] at f2
  have hP : va_P D ab_cm (ab_wd cT ad (S ++ [(5, n.toNatClampNeg, (List.range n.toNatClampNeg).map fun q => .ref (S.length + 1 + q))] ++ List.replicate n.toNatClampNeg (1, kk.toNatClampNeg, [])) (fun a => if S.length ≤ a then (fun _ => 0) else μ a)) F.heap := by
    rw [List.append_assoc, ab_wd_push (μ := μ) (fun a ha => by simp [Nat.not_le.mpr ha])]
    refine (h3.kept (fun k x hx => hold x.1 ((h3 k x hx).lt))).app (fun q x hq => ?_)
    rw [List.getElem?_mapIdx] at hq
    cases q with
    | zero =>
      cases hq
      show va_at D ab_cm (ab_w1 _ _ _ _ _) _
      rw [ab_w1_q (by decide)]
      show F.heap[ad (S.length + 0)]? = _
      rw [had _ (by omega), Nat.add_zero, ← hsz, f2, vp_cell_q]
      congr 2
      funext q
      unfold ab_q1
      rw [List.getElem?_map]
      by_cases hq : q < n.toNatClampNeg
      · rw [List.getElem?_range hq, if_pos hq]
        simp only [Option.map_some]
        rw [had _ (by omega), hsz]
        congr 2
        omega
      · rw [if_neg hq, List.getElem?_eq_none (by rw [List.length_range]; omega)]
        rfl
    | succ q =>
      rw [List.cons_append, List.nil_append, List.getElem?_cons_succ, List.getElem?_replicate] at hq
      split at hq
      · rename_i hq9
        cases hq
        show va_at D ab_cm (ab_w1 _ _ _ _ _) _
        rw [ab_w1_a (by decide) (by decide)]
        show F.heap[ad (S.length + (q + 1))]? = _
        rw [had _ (by omega), show B0 + (S.length + (q + 1)) = H.size + 1 + q by omega, hrow q hq9, vp_cell_i]
        simp
      · cases hq
  have hS : va_S (fun q => B0 ≤ q) s.heap F.heap locs := ⟨by rw [f1]; have := h4.1; omega, fun x h1 h2 => (hold x (Nat.lt_of_lt_of_le h1 h4.1)).trans (h4.2.1 x h1 h2), h4.2.2⟩
  obtain ⟨t, a1, b1⟩ := g F.heap locs ls (by simp; omega) hP hS h5 F rfl X'
  refine ⟨t, step t ?_, b1⟩
  have e9 : T.heap.size = H.size := by rw [hT]
  rw [e9]
  rw [List.map_cons, show ab_tr ad (.ref S.length) = .ref H.size by show Value.ref (ad S.length) = _; rw [had _ (by omega), hsz]] at a1
  exact a1
theorem ab_map_setR {vs : List Value} {r fi q : Nat} (h : fi < vs.length) : (vs.mapIdx (ab_f1 ad μ r)).set fi (.ref (ad q)) = (vs.set fi (.ref q)).mapIdx (ab_f1 ad μ r) := by
  apply List.ext_getElem?
  intro i
  rw [List.getElem?_set, List.getElem?_mapIdx, List.getElem?_mapIdx, List.getElem?_set]
  by_cases e : fi = i
  · subst e
    simp [h, ab_f1, ab_tr]
  · rw [if_neg e, if_neg e]
theorem ab_r_putR {j ci fi q r : Nat} {vs : List Value} (hC : ab_Ctx D cT ad B0 E s) (hS : S[r]? = some (0, ci, vs)) (hfl : ab_fl (ab_own k) j = some (ci, fi)) (q2 : (ab_T ci fi).2.2.2 = true) (q3 : (ab_Y k).name = "<init>") (q4 : ab_own k = ci) (q5 : (ab_ty ci fi).isReference = true) (q6 : fi < vs.length) (hF : ab_Fr p s m args meth c k) (hd : decode (ab_B k) pc = .ok (.putfield j, 3))
    (g : ab_Go p l e R s m args below meth c D cT ad B0 k Q cells slots (S.set r (0, ci, vs.set fi (.ref q))) μ (pc + 3) L st) : ab_Go p l e R s m args below meth c D cT ad B0 k Q cells slots S μ pc L (.ref q :: .ref r :: st) := by
  obtain ⟨hx, hb, hml, hr, hlk, hin, hown, hts⟩ := hF
  have had := hC.2.2.2.2.2.2.2.2.2.2.1
  obtain ⟨w1, w2, w3, w4⟩ := ab_okF hfl
  intro H locs ls h2 h3 h4 h5
  refine va_putF (q0 := r) (k := fi) hx hb hts (ab_okW w4) (ab_ty ci) (ab_ty_ok w4) (ab_nm w4) hown hC.1 h3 (ab_D had h2) h4 (by rw [ab_wd_at hS, ab_w1_0]) (ab_cl_at w4 (ab_ne0 w3)) w3 (hts _ w1) (fun x hx => by rw [w2] at hx; exact hx) q2 (hin q3) (by rw [w2, q4]) (ab_ty_ok w4 fi w3) (v := .ref (ad q)) (by cases h9 : ab_ty ci fi <;> rw [h9] at q5 <;> first | rfl | cases q5) (by cases h9 : ab_ty ci fi <;> rw [h9] at q5 <;> first | rfl | cases q5) (by rw [List.length_mapIdx]; exact q6) hd (fun H1 locs1 e1 e2 e3 => ?_)
  rw [ab_map_setR q6] at e1
  have e4 : (ab_wd cT ad S μ).set r (ab_w1 cT ad μ r (0, ci, vs.set fi (.ref q))) = ab_wd cT ad (S.set r (0, ci, vs.set fi (.ref q))) μ := ab_wd_setS (List.getElem?_eq_some_iff.mp hS).1
  rw [ab_w1_0] at e4
  rw [e4] at e1
  exact g H1 locs1 ls (by rw [List.length_set]; exact h2) e1 e3 h5
theorem ab_r_aast {t n ci q r : Nat} {i : Int32} {vs ws : List Value} (hC : ab_Ctx D cT ad B0 E s) (hS : S[r]? = some (t, n, vs)) (hSq : S[q]? = some (0, ci, ws)) (hci : ci = 3 ∨ ci = 4) (ht : t = ci + 3) (hi : ab_in i n) (hvn : vs.length = n) (hF : ab_Fr p s m args meth c k) (hd : decode (ab_B k) pc = .ok (.aastore, 1))
    (g : ab_Go p l e R s m args below meth c D cT ad B0 k Q cells slots (S.set r (t, n, vs.set i.toNatClampNeg (.ref q))) μ (pc + 1) L st) : ab_Go p l e R s m args below meth c D cT ad B0 k Q cells slots S μ pc L (.ref q :: .int i :: .ref r :: st) := by
  obtain ⟨hx, hb, hml, hr, hlk, hin, hown, hts⟩ := hF
  have had := hC.2.2.2.2.2.2.2.2.2.2.1
  have ht4 : 4 ≤ t := by omega
  have hlt : i.toNatClampNeg < n := Nat.not_le.mp fun q => hi (Or.inr q)
  intro H locs ls h2 h3 h4 h5
  have row : ∀ (H1 : Heap) (locs1 : List Loc), va_P D ab_cm ((ab_wd cT ad S μ).set r (ad r, .inl (cT t, n, .inr (.inr (.inr (.inr (va_up (ab_q1 ad vs) i.toNatClampNeg (some (ad q))))))))) H1 → va_S (fun q => B0 ≤ q) s.heap H1 locs1 → W p l e R s m args below meth c H1 locs1 cells slots Q (F0 m (pc + 1) ls (st.map (ab_tr ad))) := by
    intro H1 locs1 e1 e3
    have e4 : (ab_wd cT ad S μ).set r (ab_w1 cT ad μ r (t, n, vs.set i.toNatClampNeg (.ref q))) = ab_wd cT ad (S.set r (t, n, vs.set i.toNatClampNeg (.ref q))) μ := ab_wd_setS (List.getElem?_eq_some_iff.mp hS).1
    rw [ab_w1_q ht4] at e4
    have e5 : ab_q1 ad (vs.set i.toNatClampNeg (.ref q)) = va_up (ab_q1 ad vs) i.toNatClampNeg (some (ad q)) := by
      funext z
      unfold ab_q1 va_up
      rw [List.getElem?_set]
      by_cases hz : i.toNatClampNeg = z
      · subst hz; simp [hvn, hlt]
      · rw [if_neg hz, if_neg (fun q => hz q.symm)]
    rw [e5] at e4
    rw [e4] at e1
    exact g H1 locs1 ls (by rw [List.length_set]; exact h2) e1 e3 h5
  have ha : (ab_wd cT ad S μ)[r]? = some (ad r, .inl (cT t, n, .inr (.inr (.inr (.inr (ab_q1 ad vs)))))) := by rw [ab_wd_at hS, ab_w1_q ht4]
  have hv : (ab_wd cT ad S μ)[q]? = some (ad q, .inr (ci, ws.mapIdx (ab_f1 ad μ q))) := by rw [ab_wd_at hSq, ab_w1_0]
  subst ht
  rcases hci with rfl | rfl
  · exact va_astq (r := (ab_R 3, ab_T 3, ab_N 3)) hx hb hC.1 h3 (ab_D had h2) h4 r 4 q 3 ha rfl hv (ab_cl_at (by decide) (by decide)) hi hd (fun H1 locs1 e1 e2 e3 => row H1 locs1 e1 e3)
  · exact va_astq (r := (ab_R 4, ab_T 4, ab_N 4)) hx hb hC.1 h3 (ab_D had h2) h4 r 5 q 4 ha rfl hv (ab_cl_at (by decide) (by decide)) hi hd (fun H1 locs1 e1 e2 e3 => row H1 locs1 e1 e3)
/-- shapes only grow -/
theorem ab_alloc_grows {i : Instr} (h : ab_alloc S k pc i L st μ = some (pc', L', st', (S', μ'))) : S.length ≤ S'.length ∧ ab_tot S ≤ ab_tot S' ∧ (S.length ≤ 900 → S'.length ≤ 900) := by
  unfold ab_alloc at h
  split at h
  · split at h
    · split at h
      · cases h; rw [ab_tot_app, List.length_append]; exact ⟨Nat.le_add_right _ _, Nat.le_add_right _ _, fun _ => by simp; omega⟩
      · cases h
    · cases h
  · split at h
    · split at h
      · cases h; rw [ab_tot_app, List.length_append]; exact ⟨Nat.le_add_right _ _, Nat.le_add_right _ _, fun _ => by simp; omega⟩
      · cases h
    · cases h
  · split at h
    · split at h
      · cases h; rw [ab_tot_app, List.length_append]; exact ⟨Nat.le_add_right _ _, Nat.le_add_right _ _, fun _ => by simp; omega⟩
      · cases h
    · cases h
  · split at h
    · split at h
      · cases h; rw [List.append_assoc, ab_tot_app, List.length_append]; exact ⟨Nat.le_add_right _ _, Nat.le_add_right _ _, fun _ => by simp; omega⟩
      · cases h
    · cases h
  · split at h
    · split at h
      · split at h
        · rename_i hS
          split at h
          · split at h
            · cases h; rw [List.length_set, ab_tot_set hS (by simp [ab_sz])]; exact ⟨Nat.le_refl _, Nat.le_refl _, fun q => q⟩
            · cases h
          · cases h
        · cases h
      · cases h
    · cases h
  · split at h
    · split at h
      · split at h
        · rename_i hS hS2
          split at h
          · rename_i hq
            cases h; rw [List.length_set, ab_tot_set hS (by obtain ⟨h1, rfl, -⟩ := hq; simp [ab_sz])]; exact ⟨Nat.le_refl _, Nat.le_refl _, fun q => q⟩
          · cases h
        · cases h
      · cases h
    · cases h
  · cases h
theorem ab_r_alloc {i : Instr} {n : Nat} (hC : ab_Ctx D cT ad B0 E s) (h : ab_alloc S k pc i L st μ = some (pc', L', st', (S', μ'))) (hl : ab_len i n = true) (hd : decode (ab_B k) pc = .ok (i, n)) (hF : ab_Fr p s m args meth c k) (hcs : s.heap.size + cells = B0 + S.length) (hr1 : cells + (S'.length - S.length) ≤ R.cells) (hr2 : slots + (ab_tot S' - ab_tot S) ≤ R.slots)
    (g : ab_Go p l e R s m args below meth c D cT ad B0 k Q (cells + (S'.length - S.length)) (slots + (ab_tot S' - ab_tot S)) S' μ' pc' L' st') : ab_Go p l e R s m args below meth c D cT ad B0 k Q cells slots S μ pc L st := by
  unfold ab_alloc at h
  split at h
  · obtain rfl : n = 3 := by simpa [ab_len] using hl
    split at h
    · rename_i ci hci
      split at h
      · rename_i hlt
        cases h
        have e1 : (S ++ [(0, ci, ab_zs ci)]).length - S.length = 1 := by rw [List.length_append]; simp
        have e2 : ab_tot (S ++ [(0, ci, ab_zs ci)]) - ab_tot S = ab_N ci := by rw [ab_tot_app]; simp [ab_tot, ab_sz, ab_zs]
        rw [e1] at hr1 g
        rw [e2] at hr2 g
        exact ab_r_new hC hci hlt hF hd hcs hr1 hr2 g
      · cases h
    · cases h
  · rename_i t
    obtain rfl : n = 2 := by simpa [ab_len] using hl
    split at h
    · split at h
      · rename_i x _ hq
        obtain ⟨q1, q2, q3, q4⟩ := hq
        cases h
        have e1 : (S ++ [(ab_tag t, x.toNatClampNeg, [])]).length - S.length = 1 := by rw [List.length_append]; simp
        have e2 : ab_tot (S ++ [(ab_tag t, x.toNatClampNeg, [])]) - ab_tot S = x.toNatClampNeg := by rw [ab_tot_app]; simp [ab_tot, ab_sz, q4]
        rw [e1] at hr1 g
        rw [e2] at hr2 g
        exact ab_r_newa hC q4 q1 q2 q3 hF hd hcs hr1 hr2 g
      · cases h
    · cases h
  · obtain rfl : n = 3 := by simpa [ab_len] using hl
    split at h
    · rename_i x _ ci hci
      split at h
      · rename_i hq
        obtain ⟨q1, q2, q3, q4⟩ := hq
        cases h
        have e1 : (S ++ [(ci + 3, x.toNatClampNeg, List.replicate x.toNatClampNeg Value.null)]).length - S.length = 1 := by rw [List.length_append]; simp
        have e2 : ab_tot (S ++ [(ci + 3, x.toNatClampNeg, List.replicate x.toNatClampNeg Value.null)]) - ab_tot S = x.toNatClampNeg := by rw [ab_tot_app]; simp [ab_tot, ab_sz]
        rw [e1] at hr1 g
        rw [e2] at hr2 g
        exact ab_r_newq hC hci q4 q1 q2 q3 hF hd hcs hr1 hr2 g
      · cases h
    · cases h
  · obtain rfl : n = 4 := by simpa [ab_len] using hl
    split at h
    · rename_i j dm kk x r
      split at h
      · rename_i hq
        obtain ⟨q1, rfl, q2, q3, q4, q5, q6⟩ := hq
        cases h
        have e1 : (S ++ [(5, x.toNatClampNeg, (List.range x.toNatClampNeg).map fun q => Value.ref (S.length + 1 + q))] ++ List.replicate x.toNatClampNeg (1, kk.toNatClampNeg, [])).length - S.length = 1 + x.toNatClampNeg := by simp; omega
        have e2 : ab_tot (S ++ [(5, x.toNatClampNeg, (List.range x.toNatClampNeg).map fun q => Value.ref (S.length + 1 + q))] ++ List.replicate x.toNatClampNeg (1, kk.toNatClampNeg, [])) - ab_tot S = x.toNatClampNeg + x.toNatClampNeg * kk.toNatClampNeg := by
          rw [ab_tot_app, ab_tot_app]; simp [ab_tot, ab_sz]; omega
        rw [e1] at hr1 g
        rw [e2] at hr2 g
        exact ab_r_multi hC q1 q2 q3 q4 q5 q6 hF hd hcs hr1 hr2 (by rw [Nat.add_assoc cells, Nat.add_assoc slots]; exact g)
      · cases h
    · cases h
  · obtain rfl : n = 3 := by simpa [ab_len] using hl
    split at h
    · split at h
      · split at h
        · rename_i hS
          split at h
          · rename_i hfl
            split at h
            · rename_i hq
              obtain ⟨rfl, q1, q2, q3, q4, q5, q6⟩ := hq
              cases h
              rw [List.length_set, Nat.sub_self, ab_tot_set hS (by simp [ab_sz]), Nat.sub_self] at g
              exact ab_r_putR hC hS hfl q2 q3 q4 q5 q6 hF hd g
            · cases h
          · cases h
        · cases h
      · cases h
    · cases h
  · obtain rfl : n = 1 := by simpa [ab_len] using hl
    split at h
    · split at h
      · split at h
        · rename_i hS hSq
          split at h
          · rename_i hq
            obtain ⟨q1, rfl, q2, q3⟩ := hq
            cases h
            rw [List.length_set, Nat.sub_self, ab_tot_set hS (by simp [ab_sz]), Nat.sub_self] at g
            exact ab_r_aast hC hS hSq q1 rfl q2 q3 hF hd g
          · cases h
        · cases h
      · cases h
    · cases h
  · cases h
end
