/-! text: the pair -/
section
variable {E : ab_E} {d : Nat} {μ μ' μ'' : ab_M} {z key n m : Nat} {B : Nat → Nat} {τ : Nat × Nat × Nat} {W C P cs : List Int32} {N N' : Nat → Int32}
/-- the rooms with a text more -/
theorem RC.nt {ν : ab_M} (h : RC μ 22 N n m) (g : G N n m) (tn : TN N N' m key cs) (hm : m < 14) (hk : key < 3) (hl : cs.length ≤ 96) (hn : n ≤ 10) (f22 : ∀ j, j ≠ 9 → ν 22 j = μ 22 j) (f229 : ν 22 9 = nI (m + 1)) (fr : ∀ a, 23 ≤ a → a < 29 → ν a = μ a) (f29 : ∀ k, k ≠ key → ν 29 k = μ 29 k) (f29k : ν 29 key = nI m) (ft : ∀ t, t < m → ν 2 t = μ 2 t ∧ ν 3 t = μ 3 t ∧ ν 4 t = μ 4 t ∧ ν (6 + t) = μ (6 + t)) (n2 : ν 2 m = nI key) (n3 : ν 3 m = nI (lvs cs)) (n4 : ν 4 m = nI cs.length) (n6 : ∀ i x, cs[i]? = some x → ν (6 + m) i = en x) : RC ν 22 N' n (m + 1) := by
  have lo : ∀ q, q ≠ 6 → q < 63 → N' q = N q := fun q h1 h2 => tn.2.2.2.2 q h1 (by omega) (by omega) (by omega)
  obtain ⟨⟨a1, a2, a3, a4, a5, a6, a7⟩, h2, h3, h4, h5⟩ := h
  obtain ⟨k1, k2⟩ := tn.k hl hm hk
  refine ⟨⟨by rw [f22 8 (by decide), lo 1 (by decide) (by decide)]; exact a1, by rw [f229, tn.1], by rw [f22 10 (by decide), lo 3 (by decide) (by decide)]; exact a3, by rw [f22 11 (by decide), lo 4 (by decide) (by decide)]; exact a4, by rw [f22 12 (by decide), lo 5 (by decide) (by decide)]; exact a5, by rw [f22 13 (by decide), lo 2 (by decide) (by decide)]; exact a6, by rw [f22 14 (by decide), lo 0 (by decide) (by decide)]; exact a7⟩, fun c hc => ?_, fun s hs => ?_, fun k hk' => ?_, fun t ht => ?_⟩
  · rw [fr (22 + 6) (by omega) (by omega), lo (7 + c) (by omega) (by omega)]; exact h2 c hc
  · unfold RS
    rw [fr (22 + 1) (by omega) (by omega), fr (22 + 2) (by omega) (by omega), fr (22 + 3) (by omega) (by omega), fr (22 + 4) (by omega) (by omega), fr (22 + 5) (by omega) (by omega), lo (13 + 5 * s) (by omega) (by omega), lo (14 + 5 * s) (by omega) (by omega), lo (15 + 5 * s) (by omega) (by omega), lo (16 + 5 * s) (by omega) (by omega), lo (17 + 5 * s) (by omega) (by omega)]
    exact h3 s hs
  · show ν 29 k = cn (if tk N' m = k then some m else lT N' k m)
    rw [k1]
    by_cases e : key = k
    · rw [if_pos e, ← e]; exact f29k
    · rw [if_neg e, f29 k (fun q => e q.symm), tn.lTe hm m (Nat.le_refl _)]; exact h4 k hk'
  · by_cases e : t = m
    · subst e
      unfold RLw
      rw [k1, k2, n2, n3, n4, tn.2.2.1]
      refine ⟨rfl, rfl, rfl, fun k hk' => ?_⟩
      rw [n6 k _ (List.getElem?_eq_getElem hk'), tn.2.2.2.1 k _ (List.getElem?_eq_getElem hk')]
    · have htm : t < m := by omega
      obtain ⟨e1, e2, e3, e4⟩ := ft t htm
      obtain ⟨j1, j2⟩ := tn.ot hm htm
      obtain ⟨r1, r2, r3, r4⟩ := h5 t htm
      unfold RLw
      rw [j1, j2, e1, e2, e3, e4, (tn.o hm htm).2]
      refine ⟨r1, r2, r3, fun k hk' => ?_⟩
      have h96 := (g.2.2.2.2.2 t htm).2.2.1
      rw [tn.c hm htm (by omega)]; exact r4 k hk'
theorem p_text (hE : E.2.2.category = 1) : PR (X6_text E (d + 100)) (X7_text E (d + 100)) := by
  intro μ s
  obtain ⟨n, m, e, sa, h4, so⟩ := id s
  obtain ⟨g, h, h2, h3⟩ := id sa
  obtain ⟨s1, ⟨z, z0, z1, z2, z3⟩, s3, s4, s5, s6⟩ := so
  have hm14 := g.2.2.2.2.1.2
  have hn10 := g.n10
  have hBk : ∀ k, k < z → (μ 47 k).toNatClampNeg < 256 ∧ μ 47 k = nI (μ 47 k).toNatClampNeg ∧ μ 81 k = nI (μ 47 k).toNatClampNeg := fun k hk => by
    obtain ⟨b, b0, b1, b2⟩ := z3 k hk
    rw [b1, za_cl (by omega)]; exact ⟨b0, rfl, b2⟩
  generalize hB : (fun k => (μ 47 k).toNatClampNeg) = B
  have hBB : ∀ k, (μ 47 k).toNatClampNeg = B k := fun k => by rw [← hB]
  have tb : TB μ z B := ⟨z0, fun k hk => by rw [← hBB]; exact (hBk k hk).1, z1, fun k hk => by rw [← hBB]; exact (hBk k hk).2.1⟩
  obtain ⟨μ1, e1, e2, e3⟩ := kX5_isText (E := E) (d := d) hE tb
  have f1 : ∀ a, a ≠ 46 → a ≠ 48 → ab_up μ1 46 1 0 a = μ a := fun a h1 h2 => by rw [za_up_a h1, e2.1 a h1 h2, za_up_a h1]
  have hX : X6_text E (d + 100) μ = _ := X6_text_q
  rw [e1, ab_cI_s] at hX
  -- what the reference finds in a state that keeps its cells
  have rbf : ∀ ν : ab_M, ν 76 = μ 76 → ν 81 = μ 81 → RB ν z B := fun ν q1 q2 => ⟨z0, fun k hk => by rw [← hBB]; exact (hBk k hk).1, by rw [q1]; exact z2, fun k hk => by rw [q2, ← hBB]; exact (hBk k hk).2.2⟩
  have skf : ∀ ν : ab_M, ν 82 = μ 82 → ν 83 = μ 83 → SK ν := fun ν q1 q2 => s6.f2 q1 q2
  -- a text that is none, or finds no room
  have idle : ∀ ν μ' : ab_M, (∀ a, (kp a ∨ (22 ≤ a ∧ a < 30) ∨ a = 77) → a ≠ 46 → ν a = μ a) → ν 46 1 = 0 → FX (ab_up ν 76 12 (μ' 76 12)) μ' → SI (ab_up μ' 76 6 0) := by
    intro ν μ' q1 q2 q3
    refine s.sc ⟨0, by omega, ?_, za_up_s, fun k hk => by omega⟩ ?_ ?_ fun a ha a1 a2 a3 a4 => ?_
    · rw [za_up_a (by decide), q3.1 46 (by decide) (by decide) (by decide) (by decide), za_up_a (by decide)]; exact q2
    · rw [za_up_j (by decide), q3.2 3 (by decide) (by decide) (by decide) (by decide), za_up_j (by decide), q1 76 (Or.inl (by unfold kp; omega)) (by decide)]
    · rw [za_up_j (by decide), q3.2 32 (by decide) (by decide) (by decide) (by decide), za_up_j (by decide), q1 76 (Or.inl (by unfold kp; omega)) (by decide)]
    · have ha' : a ≠ 84 ∧ a ≠ 85 ∧ a ≠ 86 := by unfold kp at ha; omega
      rw [za_up_a a3, q3.1 a a3 ha'.1 ha'.2.1 ha'.2.2, za_up_a a3, q1 a ha a1]
  have keep1 : ∀ a, (kp a ∨ (22 ≤ a ∧ a < 30) ∨ a = 77) → a ≠ 46 → ab_up μ1 46 1 0 a = μ a := fun a ha h1 => f1 a h1 (by unfold kp at ha; omega)
  have ref1 := kX7_reads_t (E := E) (d := d) (μ := ab_up μ1 46 1 0) (skf _ (f1 82 (by decide) (by decide)) (f1 83 (by decide) (by decide))) (rbf _ (f1 76 (by decide) (by decide)) (f1 81 (by decide) (by decide)))
  have ref2 := fun (ν : ab_M) (q1 : ν 76 = μ 76) (q2 : ν 81 = μ 81) (q3 : ν 82 = μ 82) (q4 : ν 83 = μ 83) => kX7_reads_t (E := E) (d := d) (μ := ν) (skf ν q3 q4) (rbf ν q1 q2)
  generalize txR (d + 91) z B (nf z B 0, ns z B 0, nc z B 0 false) = r at e3 hX ref1 ref2
  obtain ⟨r1, r2⟩ := r
  cases r1 with
  | none =>
    obtain ⟨μ', q1, q2⟩ := ref1
    rw [zb_f (show ¬ (none : Option (Nat × List Int32)).isSome = true by decide), if_neg (fun q => q rfl), za_up_j (by decide), e3] at hX
    exact ⟨_, _, _, hX, q1, idle _ μ' keep1 za_up_s q2⟩
  | some qc =>
    obtain ⟨q, cs⟩ := qc
    obtain ⟨q3, cr, k5, gd⟩ := e3
    rw [zb_t (show (some (q, cs)).isSome = true from rfl), if_pos (by decide), f1 22 (by decide) (by decide), h.1.2.1, g.2.2.2.2.1.1] at hX
    by_cases hm : m < 14
    · have hl := cr.1
      rw [if_pos (show nI m < (14 : Int32) from nI_lt (b := 14) hm (by decide)), X1_write_q, kX6_isWithin, ab_cI_s, zb_t (show (0 : Int32) ≤ nI m ∧ nI m ≤ 13 from ⟨nI_pos' (by omega), nI_le (b := 13) (by omega) (by decide)⟩), if_pos (by decide)] at hX
      have i14 := za_in hm (show 14 < 2 ^ 31 by decide)
      simp only [if_pos i14, za_cl (show m < 2 ^ 31 by omega)] at hX
      have w5 : ab_up μ1 46 1 0 46 5 = nI q := by rw [za_up_j (by decide)]; exact k5
      have w6 : ab_up μ1 46 1 0 46 6 = nI (lvs cs) := by rw [za_up_j (by decide)]; exact cr.2.2.2
      have w7 : ab_up μ1 46 1 0 46 7 = nI cs.length := by rw [za_up_j (by decide)]; exact cr.2.1
      have w48 : ∀ i x, cs[i]? = some x → ab_up μ1 46 1 0 48 i = en x := fun i x hx => by rw [za_up_a (by decide)]; exact cr.2.2.1 i x hx
      have w461 : ab_up μ1 46 1 0 46 1 = 0 := za_up_s
      generalize ab_up μ1 46 1 0 = ν1 at hX f1 w5 w6 w7 w48 w461 keep1
      have u1 : ∀ j, ab_up ν1 2 m (ν1 46 5) 46 j = ν1 46 j := fun j => by rw [za_up_a (by decide)]
      have u2 : ∀ x j, ab_up (ab_up ν1 2 m (ν1 46 5)) 3 m x 46 j = ν1 46 j := fun x j => by rw [za_up_a (by decide), u1]
      have u3 : ∀ x y j, ab_up (ab_up (ab_up ν1 2 m (ν1 46 5)) 3 m x) 4 m y 46 j = ν1 46 j := fun x y j => by rw [za_up_a (by decide), u2]
      rw [u3, u2, u1, w5, w6, w7, za_cl (show cs.length < 2 ^ 31 by omega), if_pos ⟨by decide, by decide, za_lt.mpr (nI_pos' (by omega)), by show 0 + cs.length ≤ 96; omega, by show 0 + cs.length ≤ 96; omega⟩, ab_cV_s] at hX
      have e0 : (0 : Int32).toNatClampNeg = 0 := by decide
      rw [e0, show 6 + 1 * m = 6 + m by omega] at hX
      generalize hν2 : ab_cpy (ab_up (ab_up (ab_up ν1 2 m (nI q)) 3 m (nI (lvs cs))) 4 m (nI cs.length)) 48 (6 + m) 0 0 cs.length = ν2 at hX
      have v0 : ∀ a, a ≠ 2 → a ≠ 3 → a ≠ 4 → a ≠ 6 + m → ν2 a = ν1 a := fun a h1 h2 h3 h4 => by rw [← hν2, cpy_n h4, za_up_a h3, za_up_a h2, za_up_a h1]
      rw [v0 46 (by omega) (by omega) (by omega) (by omega), w5, if_pos (za_in q3 (by decide)), za_cl (by omega)] at hX
      have v22 : ν2 22 9 = nI m := by rw [v0 22 (by omega) (by omega) (by omega) (by omega), f1 22 (by decide) (by decide), h.1.2.1, g.2.2.2.2.1.1]
      rw [v22, za_up_a (show (22 : Nat) ≠ 29 by decide), v22, za_1, za_up_s, za_s1 (by omega), Nat.add_sub_cancel] at hX
      generalize hν3 : ab_up (ab_up ν2 29 q (nI m)) 22 9 (nI (m + 1)) = ν3 at hX
      have v1 : ∀ a, a ≠ 2 → a ≠ 3 → a ≠ 4 → a ≠ 6 + m → a ≠ 22 → a ≠ 29 → ν3 a = ν1 a := fun a h1 h2 h3 h4 h5 h6 => by rw [← hν3, za_up_a h5, za_up_a h6, v0 a h1 h2 h3 h4]
      have v2 : ∀ a, a ≠ 2 → a ≠ 3 → a ≠ 4 → a ≠ 6 + m → a ≠ 22 → a ≠ 29 → a ≠ 46 → a ≠ 48 → ν3 a = μ a := fun a h1 h2 h3 h4 h5 h6 h7 h8 => by rw [v1 a h1 h2 h3 h4 h5 h6, f1 a h7 h8]
      obtain ⟨μ', y1, y2, y3, y4, y5⟩ := ref2 ν3 (v2 76 (by omega) (by omega) (by omega) (by omega) (by omega) (by omega) (by omega) (by omega)) (v2 81 (by omega) (by omega) (by omega) (by omega) (by omega) (by omega) (by omega) (by omega)) (v2 82 (by omega) (by omega) (by omega) (by omega) (by omega) (by omega) (by omega) (by omega)) (v2 83 (by omega) (by omega) (by omega) (by omega) (by omega) (by omega) (by omega) (by omega))
      have m77 : μ' 77 = μ 77 := by rw [y2.1 77 (by decide) (by decide) (by decide) (by decide), za_up_a (by decide), v2 77 (by omega) (by omega) (by omega) (by omega) (by omega) (by omega) (by omega) (by omega)]
      have m776 : ab_up μ' 76 6 0 77 6 = nI m := by rw [za_up_a (by decide), m77, g.2.2.2.2.1.1]
      have m1 : (63 : Int32) + (2 * nI m) = nI (63 + 2 * m) := za_63
      rw [m776, if_pos (show ¬ nI m = (14 : Int32) from fun w => by have := (nI_eq (b := 14) (by omega) (by decide)).mp w; omega), m1, za_1, if_pos (za_in (show 63 + 2 * m < 1435 by omega) (by decide)), if_pos (za_in (show 63 + 2 * m + 1 < 1435 by omega) (by decide)), za_cl (by omega), za_cl (by omega), za_up_j (show (12 : Nat) ≠ 6 by decide), y4, za_up_j (show (16 : Nat) ≠ 6 by decide), y3.2.2.1, za_up_a (show (76 : Nat) ≠ 77 by decide), za_up_j (show (17 : Nat) ≠ 6 by decide), y5, show (1000 : Int32) * nI q + nI cs.length = nI (1000 * q + cs.length) by rw [show (1000 : Int32) * nI q = nI (1000 * q) from pk_mul 1000 q, nI_add]] at y1
      generalize hν4 : ab_up (ab_up (ab_up μ' 76 6 0) 77 (63 + 2 * m) (nI (1000 * q + cs.length))) 77 (63 + 2 * m + 1) (nI (lvs cs)) = ν4 at y1
      have w77 : ν4 77 = upd (upd (μ 77) (63 + 2 * m) (nI (1000 * q + cs.length))) (63 + 2 * m + 1) (nI (lvs cs)) := by
        rw [← hν4]
        show (if 77 = 77 then upd ((if 77 = 77 then upd (ab_up μ' 76 6 0 77) (63 + 2 * m) (nI (1000 * q + cs.length)) else _)) (63 + 2 * m + 1) (nI (lvs cs)) else _) = _
        rw [if_pos rfl, if_pos rfl, za_up_a (by decide), m77]
      have w4 : ∀ a, a ≠ 77 → ν4 a = ab_up μ' 76 6 0 a := fun a ha => by rw [← hν4, za_up_a ha, za_up_a ha]
      obtain ⟨N', t1, t2, t3, t4⟩ := kX7_t117 (E := E) (d := d + 99) (cs := cs) (o := some (.int 1)) hm hl cs.length 0 ν4 (by omega) (by rw [w4 76 (by decide), za_up_j (by decide)]; exact y3.2.2.1) (fun i x hx => by rw [w4 84 (by decide), za_up_a (by decide)]; exact y3.2.2.2 i x hx)
      have tn : TN (μ 77) N' m q cs := by
        refine ⟨?_, ?_, ?_, fun i x hx => t3 i x (Nat.zero_le _) hx, fun j j1 j2 j3 j4 => ?_⟩
        · rw [t2, w77, upd_n (by omega), upd_n (by omega), g.2.2.2.2.1.1, za_1]
        · rw [t4 _ (by omega) (by omega), w77, upd_n (by omega), upd_s]
        · rw [t4 _ (by omega) (by omega), w77, show 64 + 2 * m = 63 + 2 * m + 1 by omega, upd_s]
        · rw [t4 j j1 (by omega), w77, upd_n (by omega), upd_n (by omega)]
      refine ⟨_, _, _, hX, y1.trans t1, ?_⟩
      -- what holds then
      have F1' : ∀ a, a ≠ 76 → a ≠ 77 → a ≠ 84 → a ≠ 85 → a ≠ 86 → wN ν4 N' a = ν3 a := fun a h1 h2 h3 h4 h5 => by rw [wN_a h2, w4 a h2, za_up_a h1, y2.1 a h1 h3 h4 h5, za_up_a h1]
      have F2 : ∀ a, a ≠ 2 → a ≠ 3 → a ≠ 4 → a ≠ 6 + m → a ≠ 22 → a ≠ 29 → a ≠ 46 → a ≠ 48 → a ≠ 76 → a ≠ 77 → a ≠ 84 → a ≠ 85 → a ≠ 86 → wN ν4 N' a = μ a := fun a h1 h2 h3 h4 h5 h6 h7 h8 h9 h10 h11 h12 h13 => by rw [F1' a h9 h10 h11 h12 h13, v2 a h1 h2 h3 h4 h5 h6 h7 h8]
      have F76 : ∀ j, ¬ (7 ≤ j ∧ j ≤ 11) → j ≠ 6 → j ≠ 12 → j ≠ 16 → j ≠ 17 → j ≠ 19 → wN ν4 N' 76 j = μ 76 j := fun j h1 h2 h3 h4 h5 h6 => by rw [wN_a (by decide), w4 76 (by decide), za_up_j h2, y2.2 j h1 h4 h5 h6, za_up_j h3, v2 76 (by omega) (by omega) (by omega) (by omega) (by omega) (by omega) (by omega) (by omega)]
      have Ft : ∀ t, t < m → wN ν4 N' 2 t = μ 2 t ∧ wN ν4 N' 3 t = μ 3 t ∧ wN ν4 N' 4 t = μ 4 t ∧ wN ν4 N' (6 + t) = μ (6 + t) := by
        intro t ht
        refine ⟨?_, ?_, ?_, ?_⟩
        · rw [F1' 2 (by omega) (by omega) (by omega) (by omega) (by omega), ← hν3, za_up_a (by omega), za_up_a (by omega), ← hν2, cpy_n (by omega), za_up_a (by decide), za_up_a (by decide), za_up_j (by omega), f1 2 (by decide) (by decide)]
        · rw [F1' 3 (by omega) (by omega) (by omega) (by omega) (by omega), ← hν3, za_up_a (by omega), za_up_a (by omega), ← hν2, cpy_n (by omega), za_up_a (by decide), za_up_j (by omega), za_up_a (by decide), f1 3 (by decide) (by decide)]
        · rw [F1' 4 (by omega) (by omega) (by omega) (by omega) (by omega), ← hν3, za_up_a (by omega), za_up_a (by omega), ← hν2, cpy_n (by omega), za_up_j (by omega), za_up_a (by decide), za_up_a (by decide), f1 4 (by decide) (by decide)]
        · exact F2 (6 + t) (by omega) (by omega) (by omega) (by omega) (by omega) (by omega) (by omega) (by omega) (by omega) (by omega) (by omega) (by omega) (by omega)
      have hRC : RC (wN ν4 N') 22 N' n (m + 1) := by
        refine RC.nt h g tn hm q3 hl hn10 (fun j hj => ?_) ?_ (fun a a1 a2 => F2 a (by omega) (by omega) (by omega) (by omega) (by omega) (by omega) (by omega) (by omega) (by omega) (by omega) (by omega) (by omega) (by omega)) (fun k hk => ?_) ?_ Ft ?_ ?_ ?_ (fun i x hx => ?_)
        · rw [F1' 22 (by omega) (by omega) (by omega) (by omega) (by omega), ← hν3, za_up_j hj, za_up_a (by decide), v0 22 (by omega) (by omega) (by omega) (by omega), f1 22 (by decide) (by decide)]
        · rw [F1' 22 (by omega) (by omega) (by omega) (by omega) (by omega), ← hν3, za_up_s]
        · rw [F1' 29 (by omega) (by omega) (by omega) (by omega) (by omega), ← hν3, za_up_a (by decide), za_up_j hk, v0 29 (by omega) (by omega) (by omega) (by omega), f1 29 (by decide) (by decide)]
        · rw [F1' 29 (by omega) (by omega) (by omega) (by omega) (by omega), ← hν3, za_up_a (by decide), za_up_s]
        · rw [F1' 2 (by omega) (by omega) (by omega) (by omega) (by omega), ← hν3, za_up_a (by omega), za_up_a (by omega), ← hν2, cpy_n (by omega), za_up_a (by decide), za_up_a (by decide), za_up_s]
        · rw [F1' 3 (by omega) (by omega) (by omega) (by omega) (by omega), ← hν3, za_up_a (by omega), za_up_a (by omega), ← hν2, cpy_n (by omega), za_up_a (by decide), za_up_s]
        · rw [F1' 4 (by omega) (by omega) (by omega) (by omega) (by omega), ← hν3, za_up_a (by omega), za_up_a (by omega), ← hν2, cpy_n (by omega), za_up_s]
        · have hi := (List.getElem?_eq_some_iff.mp hx).1
          rw [F1' (6 + m) (by omega) (by omega) (by omega) (by omega) (by omega), ← hν3, za_up_a (by omega), za_up_a (by omega), ← hν2, cpy_s hi, za_up_a (by decide), za_up_a (by decide), za_up_a (by decide)]
          exact w48 i x hx
      have hhi : hiE (μ 77) N' := fun k hk => tn.2.2.2.2 k (by omega) (by omega) (by omega) (by omega)
      have g' : G N' n (m + 1) := tn.Gd g hl hm q3 gd
      have f78 : wN ν4 N' 78 = μ 78 := F2 78 (by omega) (by omega) (by omega) (by omega) (by omega) (by omega) (by omega) (by omega) (by omega) (by omega) (by omega) (by omega) (by omega)
      refine ⟨n, m + 1, e, ⟨by rw [wN_77]; exact g', by rw [wN_77]; exact hRC, by rw [wN_77, tn.2.2.2.2 2 (by omega) (by omega) (by omega) (by omega)]; exact h2, h3⟩, by rw [wN_77, f78]; exact hhi.s.t h4, ?_, ⟨0, by omega, ?_, ?_, fun k hk => by omega⟩, s3.f2 fun a ha => F2 a (by omega) (by omega) (by omega) (by omega) (by omega) (by omega) (by omega) (by omega) (by omega) (by omega) (by omega) (by omega) (by omega), s4.f2 fun a ha => F2 a (by omega) (by omega) (by omega) (by omega) (by omega) (by omega) (by omega) (by omega) (by omega) (by omega) (by omega) (by omega) (by omega), s5.f2 ?_ (F76 32 (by omega) (by omega) (by omega) (by omega) (by omega) (by omega)) (F2 74 (by omega) (by omega) (by omega) (by omega) (by omega) (by omega) (by omega) (by omega) (by omega) (by omega) (by omega) (by omega) (by omega)) (F2 97 (by omega) (by omega) (by omega) (by omega) (by omega) (by omega) (by omega) (by omega) (by omega) (by omega) (by omega) (by omega) (by omega)), s6.f2 (F2 82 (by omega) (by omega) (by omega) (by omega) (by omega) (by omega) (by omega) (by omega) (by omega) (by omega) (by omega) (by omega) (by omega)) (F2 83 (by omega) (by omega) (by omega) (by omega) (by omega) (by omega) (by omega) (by omega) (by omega) (by omega) (by omega) (by omega) (by omega))⟩
      · have f0 : wN ν4 N' 0 = μ 0 := F2 0 (by omega) (by omega) (by omega) (by omega) (by omega) (by omega) (by omega) (by omega) (by omega) (by omega) (by omega) (by omega) (by omega)
        have f763 : wN ν4 N' 76 3 = μ 76 3 := F76 3 (by omega) (by omega) (by omega) (by omega) (by omega) (by omega)
        unfold SB
        rw [f0, f763, f78]
        rcases s1 with i | ⟨i1, i2, n', m', e', i3, i4, i5, i6, i7⟩
        · exact Or.inl i
        · exact Or.inr ⟨i1, i2, n', m', e', by omega, i4, i5.sm (fun a ha => F2 a (by omega) (by omega) (by omega) (by omega) (by omega) (by omega) (by omega) (by omega) (by omega) (by omega) (by omega) (by omega) (by omega)) (fun t ht => Ft t (by omega)), i6, i7⟩
      · rw [F1' 46 (by omega) (by omega) (by omega) (by omega) (by omega), v1 46 (by omega) (by omega) (by omega) (by omega) (by omega) (by omega)]; exact w461
      · rw [wN_a (by decide), w4 76 (by decide), za_up_s]; rfl
      · rw [F2 0 (by omega) (by omega) (by omega) (by omega) (by omega) (by omega) (by omega) (by omega) (by omega) (by omega) (by omega) (by omega) (by omega)]
    · rw [if_neg (show ¬ nI m < (14 : Int32) from za_lt.mpr (nI_le (a := 14) (by omega) (by omega)))] at hX
      obtain ⟨μ', y1, y2, y3, y4, y5⟩ := ref1
      have m776 : ab_up μ' 76 6 0 77 6 = nI m := by rw [za_up_a (by decide), y2.1 77 (by decide) (by decide) (by decide) (by decide), za_up_a (by decide), f1 77 (by decide) (by decide), g.2.2.2.2.1.1]
      rw [m776, if_neg (show ¬ ¬ nI m = (14 : Int32) from fun q => q (by rw [show m = 14 by omega]; rfl))] at y1
      exact ⟨_, _, _, hX, y1, idle _ μ' keep1 za_up_s y2⟩
end
