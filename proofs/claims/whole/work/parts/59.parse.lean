/-! the parser, as both read -/
def sgnR (b : Nat) : Int32 := if b = 38 then -2 else if b = 42 then -8 else if b = 43 then -6 else if b = 45 then -7 else if b = 47 then -9 else if b = 60 then -3 else if b = 61 then -4 else if b = 62 then -5 else if b = 124 then -1 else 0
def rkN (x : Int32) : Nat := if x = -1 then 1 else if x = -2 then 2 else if x < -5 then (if x < -7 then (if x < -9 then 6 else 5) else 4) else 3
def isL (l b : Nat) : Bool := decide (¬ sgnR b = 0 ∧ rkN (sgnR b) = l + 1)
def nmI (key b : Nat) : Option Nat := if key = 0 then (if b = 119 then some 0 else if b = 100 then some 1 else if b = 104 then some 2 else if b = 110 then some 3 else none) else if key = 1 then (if b = 100 then some 0 else if b = 102 then some 1 else none) else (if b = 119 then some 0 else if b = 100 then some 1 else none)
def sgo (B : Nat → Nat) (l : Nat) (τ : Nat × Nat × Nat) : Option Int32 := if τ.2.2 = 3 ∧ isL l (B τ.1) = true then some (sgnR (B τ.1)) else none
def isS (B : Nat → Nat) (b : Nat) (τ : Nat × Nat × Nat) : Prop := τ.2.2 = 3 ∧ B τ.1 = b
def bnd (r : Option (List Int32) × (Nat × Nat × Nat)) (f : List Int32 → Nat × Nat × Nat → Option (List Int32) × (Nat × Nat × Nat)) : Option (List Int32) × (Nat × Nat × Nat) := match r.1 with
  | some c => f c r.2
  | none => (none, r.2)
def lpR (z : Nat) (B : Nat → Nat) (sub : Nat × Nat × Nat → Option (List Int32) × (Nat × Nat × Nat)) (sg : Nat × Nat × Nat → Option Int32) : Nat → List Int32 → Nat × Nat × Nat → Option (List Int32) × (Nat × Nat × Nat)
  | 0, cs, τ => (some cs, τ)
  | k + 1, cs, τ => match sg τ with
    | none => (some cs, τ)
    | some o => bnd (sub (nxt z B τ)) (fun c2 τ2 => lpR z B sub sg k (cs ++ c2 ++ [o]) τ2)
def lf1 (z : Nat) (B : Nat → Nat) (o : Option Nat) (τ : Nat × Nat × Nat) : Option (List Int32) × (Nat × Nat × Nat) := match o with
  | some k => (some [nI (10000 + k)], nxt z B τ)
  | none => (none, τ)
noncomputable def clP (z : Nat) (B : Nat → Nat) (cs : List Int32) (τ : Nat × Nat × Nat) : Option (List Int32) × (Nat × Nat × Nat) := @ite _ (isS B 41 τ) (Classical.propDecidable _) (some cs, nxt z B τ) (none, τ)
noncomputable def rdP2 (z : Nat) (B : Nat → Nat) (sub : Nat → Nat → Nat → Nat × Nat × Nat → Option (List Int32) × (Nat × Nat × Nat)) (op nt : Nat) (τ : Nat × Nat × Nat) : Option (List Int32) × (Nat × Nat × Nat) := @ite _ (isS B 40 τ ∧ op < 8) (Classical.propDecidable _) (bnd (sub 0 (op + 1) nt (nxt z B τ)) (clP z B)) (none, τ)
noncomputable def rdP (z : Nat) (B : Nat → Nat) (key : Nat) (sub : Nat → Nat → Nat → Nat × Nat × Nat → Option (List Int32) × (Nat × Nat × Nat)) (op nt : Nat) (τ : Nat × Nat × Nat) : Option (List Int32) × (Nat × Nat × Nat) :=
  if τ.2.2 = 2 then (if τ.2.1 - τ.1 ≤ 4 then (some [nI (num B τ.1 τ.2.1)], nxt z B τ) else (none, τ))
  else if τ.2.2 = 1 then lf1 z B (if τ.2.1 - τ.1 = 1 then nmI key (B τ.1) else none) τ
  else @ite _ (isS B 33 τ ∧ nt < 8) (Classical.propDecidable _) (bnd (sub 6 op (nt + 1) (nxt z B τ)) (fun cs τ1 => (some (cs ++ [-10]), τ1))) (rdP2 z B sub op nt τ)
noncomputable def rd (z : Nat) (B : Nat → Nat) (key : Nat) : Nat → Nat → Nat → Nat → Nat × Nat × Nat → Option (List Int32) × (Nat × Nat × Nat)
  | 0, _, _, _, τ => (none, τ)
  | F + 1, l, op, nt, τ => if l < 5 then bnd (rd z B key F (l + 1) op nt τ) (lpR z B (rd z B key F (l + 1) op nt) (sgo B l) (if l = 2 then 1 else 96))
    else if l = 5 then rd z B key F 6 op nt τ else rdP z B key (rd z B key F) op nt τ
def lvs : List Int32 → Nat
  | [] => 0
  | c :: r => (if 0 ≤ c then 1 else 0) + lvs r
theorem lvs_a : ∀ l r, lvs (l ++ r) = lvs l + lvs r
  | [], r => by show lvs r = 0 + lvs r; omega
  | c :: l, r => by show (if 0 ≤ c then 1 else 0) + lvs (l ++ r) = (if 0 ≤ c then 1 else 0) + lvs l + lvs r; rw [lvs_a l r]; omega
theorem lvs_n {C : List Int32} {x : Int32} (h : ¬ 0 ≤ x) : lvs (C ++ [x]) = lvs C := by rw [lvs_a]; show lvs C + ((if 0 ≤ x then 1 else 0) + 0) = _; rw [if_neg h]; omega
theorem lvs_p {C : List Int32} {x : Int32} (h : 0 ≤ x) : lvs (C ++ [x]) = lvs C + 1 := by rw [lvs_a]; show lvs C + ((if 0 ≤ x then 1 else 0) + 0) = _; rw [if_pos h]
/-! strings -/
def fxs (i b : Nat) : Nat → Nat → Int32
  | 0, _ => -1
  | j + 1, k => if (ab_by.getD i []).getD k 0 = (nI b).toInt8.toInt32 then nI k else fxs i b j (k + 1)
theorem ln_5 : ∀ i, i < 14 → ab_ln.getD i 0 < 6 ∧ 0 < ab_ln.getD i 0 := by decide +kernel
theorem ln_s : ∀ i, i < 14 → (Int32.ofNat (ab_ln.getD i 0)) >>> ((0 : Int32) &&& 31) = nI (ab_ln.getD i 0) := by decide +kernel
theorem ch_b : ∀ b, b < 256 → ((nI b).toUInt32 % 65536).toInt32 = nI b := by decide +kernel
theorem fxs_L : ∀ l, l < 5 → ∀ b, b < 256 → (fxs (9 + l) b (ab_ln.getD (9 + l) 0) 0 < 0 ↔ isL l b = false) := by decide +kernel
theorem fxs_33 : ∀ b, b < 256 → (fxs 6 b (ab_ln.getD 6 0) 0 < 0 ↔ ¬ b = 33) := by decide +kernel
theorem fxs_40 : ∀ b, b < 256 → (fxs 7 b (ab_ln.getD 7 0) 0 < 0 ↔ ¬ b = 40) := by decide +kernel
theorem fxs_41 : ∀ b, b < 256 → (fxs 8 b (ab_ln.getD 8 0) 0 < 0 ↔ ¬ b = 41) := by decide +kernel
theorem fxs_n : ∀ key, key < 3 → ∀ b, b < 256 → fxs (3 + key) b (ab_ln.getD (3 + key) 0) 0 = (match nmI key b with | some k => nI k | none => -1) := by decide +kernel
theorem en_L : ∀ l, l < 5 → ∀ b, b < 256 → isL l b = true → en (sgnR b) = -(nI b) ∧ ¬ 0 ≤ sgnR b ∧ -9 ≤ sgnR b ∧ rkN (sgnR b) = l + 1 := by decide +kernel
section
variable {E : ab_E} {d : Nat} {μ μ' μ'' : ab_M} {z key : Nat} {B : Nat → Nat} {τ : Nat × Nat × Nat}
theorem kJ_ioc {i b : Nat} {o1 o2 : Option Value} (hi : i < 14) : ∀ j k, k + j = ab_ln.getD i 0 → J1_indexOfChar_4cfef_7 E d i o1 o2 (nI (ab_ln.getD i 0)) (nI b).toInt8.toInt32 (nI k) μ = some (some (.int (fxs i b j k)), μ)
  | 0, k, e => by
    have := (ln_5 i hi).1
    rw [J1_indexOfChar_4cfef_7_q hi, if_pos (nI_le (by omega) (by omega))]; rfl
  | j + 1, k, e => by
    have := (ln_5 i hi).1
    rw [J1_indexOfChar_4cfef_7_q hi, if_neg (nI_ge (by omega) (by omega)), if_pos (za_in (by omega) (by omega)), za_cl (by omega), za_1]
    unfold fxs
    by_cases c : (ab_by.getD i []).getD k 0 = (nI b).toInt8.toInt32
    · rw [if_neg (fun q => q c), if_pos c]
    · rw [if_pos c, if_neg c]
      exact kJ_ioc hi j (k + 1) (by omega)
theorem kJ_length {i : Nat} (hi : i < 14) : J0_length_8abf5 E (d + 1) i μ = some (some (.int (nI (ab_ln.getD i 0))), μ) := by
  rw [J0_length_8abf5_q hi, J0_coder_7d493_q hi, if_neg (by decide), ab_cI_s, ln_s i hi]
theorem kJ_indexOf {i b : Nat} (hi : i < 14) (hb : b < 256) : J0_indexOf_0f7a4 E (d + 4) i (nI b) μ = some (some (.int (fxs i b (ab_ln.getD i 0) 0)), μ) := by
  obtain ⟨h1, h2⟩ := ln_5 i hi
  have hl : nI (ab_ln.getD i 0) = Int32.ofNat (ab_ln.getD i 0) := rfl
  rw [J0_indexOf_0f7a4_q hi, J0_indexOf_7cf53_q hi, J0_isLatin1_aae02_q hi, if_neg (by decide), if_neg (fun q => q rfl), ab_cI_s, if_neg (by decide), kJ_length hi, ab_cI_s, J1_indexOf_4cfef_q hi, J1_canEncode_9a6ad_q, if_neg (za_lt.mpr (nI_pos' (by omega))), if_neg (show ¬ (255 : Int32) < nI b from za_lt.mpr (nI_le (b := 255) (by omega) (by decide))), ab_cI_s, if_pos (by decide), kJ_max, ab_cI_s, ← hl, kJ_min, ab_cI_s, if_neg (show ¬ (0 : Int32) < 0 by decide), if_neg (show ¬ nI (ab_ln.getD i 0) < nI (ab_ln.getD i 0) from fun q => by rw [Int32.lt_iff_toInt_lt] at q; omega), if_pos (show (0 : Int32) < nI (ab_ln.getD i 0) from nI_lt (a := 0) h2 (by omega)), J1_indexOfChar_4cfef_q hi, show (0 : Int32) = nI 0 from rfl, kJ_ioc hi (ab_ln.getD i 0) 0 (by omega), ab_cI_s, ab_cI_s, ab_cI_s]
theorem TC.b (t : TC μ z B τ) (h : τ.1 < z) : B τ.1 < 256 := t.1.2.1 _ h
theorem WT.lt (w : WT z B τ) (h : ¬ τ.2.2 = 0) : τ.1 < z := by
  rcases Nat.lt_or_ge τ.1 z with h1 | h1
  · exact h1
  · rcases w.2.2.2.1 with e | ⟨e, e2⟩
    · rw [e, srt_0] at h; exact absurd h1 h
    · rw [srt_0.mpr h1] at e2; exact absurd e2 (by decide)
theorem kX5_isSignOf {i : Nat} {P : Nat → Prop} [DecidablePred P] (hi : i < 14) (hP : ∀ b, b < 256 → (fxs i b (ab_ln.getD i 0) 0 < 0 ↔ ¬ P b)) (t : TC μ z B τ) (w : WT z B τ) : X5_isSignOf E (d + 5) i μ = some (some (.int (zb (τ.2.2 = 3 ∧ P (B τ.1)))), μ) := by
  have c5 := w.c5
  have hz := t.1.1
  rw [X5_isSignOf_q hi, t.2.2.2]
  by_cases c3 : τ.2.2 = 3
  · have hl := w.lt (by omega)
    have hb := t.b hl
    rw [if_neg (fun q => q (by rw [c3]; rfl)), t.2.1, if_pos (za_in (show τ.1 < 96 by omega) (by decide)), za_cl (by omega), t.1.2.2.2 _ hl, ch_b _ hb, kJ_indexOf hi hb, ab_cI_s]
    by_cases hp : P (B τ.1)
    · rw [if_neg (fun q => (hP _ hb).mp q hp), zb_t ⟨c3, hp⟩]
    · rw [if_pos ((hP _ hb).mpr hp), zb_f (fun q => hp q.2)]
  · rw [if_pos (show ¬ nI τ.2.2 = (3 : Int32) from fun q => c3 ((nI_eq (b := 3) (by omega) (by decide)).mp q)), zb_f (fun q => c3 q.1)]
theorem kX5_sgL {l : Nat} (hl : l < 5) (t : TC μ z B τ) (w : WT z B τ) : X5_isSignOf E (d + 5) (9 + l) μ = some (some (.int (zb (τ.2.2 = 3 ∧ isL l (B τ.1) = true))), μ) := kX5_isSignOf (P := fun b => isL l b = true) (by omega) (fun b hb => (fxs_L l hl b hb).trans (by rw [Bool.not_eq_true])) t w
/-- what the class has written -/
def CR (μ : ab_M) (C : List Int32) : Prop := C.length ≤ 96 ∧ μ 46 7 = nI C.length ∧ (∀ i x, C[i]? = some x → μ 48 i = en x) ∧ μ 46 6 = nI (lvs C)
def FC (μ μ' : ab_M) : Prop := (∀ a, a ≠ 46 → a ≠ 48 → μ' a = μ a) ∧ μ' 46 1 = μ 46 1 ∧ μ' 46 5 = μ 46 5
theorem FC.rf : FC μ μ := ⟨fun _ _ _ => rfl, rfl, rfl⟩
theorem FC.t (h : FC μ μ') (h2 : FC μ' μ'') : FC μ μ'' := ⟨fun a h1 h3 => (h2.1 a h1 h3).trans (h.1 a h1 h3), h2.2.1.trans h.2.1, h2.2.2.trans h.2.2⟩
theorem FT.c (h : FT μ μ') : FC μ μ' := ⟨fun a h1 _ => h.1 a h1, h.2 1 (by decide) (by decide) (by decide), h.2 5 (by decide) (by decide) (by decide)⟩
theorem CR.f {C : List Int32} (h : CR μ C) (f : FT μ μ') : CR μ' C := ⟨h.1, by rw [f.2 7 (by decide) (by decide) (by decide)]; exact h.2.1, fun i x hx => by rw [f.1 48 (by decide)]; exact h.2.2.1 i x hx, by rw [f.2 6 (by decide) (by decide) (by decide)]; exact h.2.2.2⟩
theorem kX5_w {w : Nat} {v : Int32} (hw : w < 96) (h : μ 46 7 = nI w) : X5_write E d v μ = some (none, ab_up (ab_up μ 48 w v) 46 7 (nI (w + 1))) := by
  rw [X5_write_q, za_up_a (show (46 : Nat) ≠ 48 by decide), h, if_neg (show ¬ (96 : Int32) ≤ nI w from nI_ge (b := 96) (by omega) (by decide)), if_pos (za_in hw (by decide)), za_cl (by omega), za_1]
theorem kX5_w' {w : Nat} {v : Int32} (hw : w ≤ 96) (h : μ 46 7 = nI w) : ∃ μ', X5_write E d v μ = some (none, μ') ∧ μ' 46 2 = μ 46 2 ∧ (∃ w', w' ≤ 96 ∧ μ' 46 7 = nI w') ∧ FC μ μ' := by
  by_cases c : w < 96
  · rw [kX5_w c h]
    refine ⟨_, rfl, ?_, ⟨w + 1, by omega, za_up_s⟩, fun a h1 h2 => ?_, ?_, ?_⟩
    · rw [za_up_j (by decide), za_up_a (by decide)]
    · rw [za_up_a h1, za_up_a h2]
    · rw [za_up_j (by decide), za_up_a (by decide)]
    · rw [za_up_j (by decide), za_up_a (by decide)]
  · rw [X5_write_q, h, if_pos (show (96 : Int32) ≤ nI w from nI_le (a := 96) (by omega) (by omega))]
    exact ⟨μ, rfl, rfl, ⟨w, hw, h⟩, FC.rf⟩
theorem app_get {C : List Int32} {x y : Int32} {i : Nat} (h : (C ++ [x])[i]? = some y) : (i < C.length ∧ C[i]? = some y) ∨ (i = C.length ∧ y = x) := by
  rcases Nat.lt_or_ge i C.length with hi | hi
  · left; rw [List.getElem?_append_left hi] at h; exact ⟨hi, h⟩
  · right
    rw [List.getElem?_append_right hi] at h
    rcases Nat.eq_zero_or_pos (i - C.length) with e | e
    · rw [e] at h; cases h; exact ⟨by omega, rfl⟩
    · rw [List.getElem?_eq_none (by simp; omega)] at h; exact nomatch h
/-- a step is written -/
theorem kX5_wr {C : List Int32} {x : Int32} (h : CR μ C) (hl : C.length < 96) : ∃ μ', X5_write E d (en x) μ = some (none, μ') ∧ (μ' 46 7 = nI (C ++ [x]).length ∧ (∀ i y, (C ++ [x])[i]? = some y → μ' 48 i = en y)) ∧ FC μ μ' ∧ ∀ j, j ≠ 7 → μ' 46 j = μ 46 j := by
  rw [kX5_w hl h.2.1]
  refine ⟨_, rfl, ⟨by rw [za_up_s]; simp, fun i y hy => ?_⟩, ⟨fun a h1 h2 => by rw [za_up_a h1, za_up_a h2], by rw [za_up_j (by decide), za_up_a (by decide)], by rw [za_up_j (by decide), za_up_a (by decide)]⟩, fun j hj => by rw [za_up_j hj, za_up_a (by decide)]⟩
  rw [za_up_a (by decide)]
  rcases app_get hy with ⟨hi, e⟩ | ⟨hi, e⟩
  · rw [za_up_j (by omega)]; exact h.2.2.1 i y e
  · rw [hi, za_up_s, e]
theorem TC.fc (t : TC μ z B τ) (f : ∀ j, j ≤ 4 → μ' 46 j = μ 46 j) (f47 : μ' 47 = μ 47) : TC μ' z B τ := by
  obtain ⟨⟨h1, h2, h3, h4⟩, h5, h6, h7⟩ := t
  refine ⟨⟨h1, h2, by rw [f 1 (by decide)]; exact h3, by rw [f47]; exact h4⟩, by rw [f 2 (by decide)]; exact h5, by rw [f 3 (by decide)]; exact h6, by rw [f 4 (by decide)]; exact h7⟩
/-- a sign is written -/
theorem kX5_wrS {C : List Int32} {x : Int32} (t : TC μ z B τ) (h : CR μ C) (hl : C.length < 96) (hx : ¬ 0 ≤ x) : ∃ μ', X5_write E d (en x) μ = some (none, μ') ∧ TC μ' z B τ ∧ CR μ' (C ++ [x]) ∧ FC μ μ' := by
  obtain ⟨μ', e1, ⟨e2, e3⟩, e4, e5⟩ := kX5_wr (E := E) (d := d) (x := x) h hl
  refine ⟨μ', e1, t.fc (fun j hj => e5 j (by omega)) (e4.1 47 (by decide) (by decide)), ⟨by simp; omega, e2, e3, ?_⟩, e4⟩
  rw [e5 6 (by decide), lvs_n hx]; exact h.2.2.2
/-- a leaf is written, and passed -/
theorem kX5_wrL {C : List Int32} {x : Int32} (t : TC μ z B τ) (w : WT z B τ) (h : CR μ C) (hl : C.length < 96) (hx : 0 ≤ x) : ∃ μ', X5_writeLeaf E (d + 3) x μ = some (none, μ') ∧ TC μ' z B (nxt z B τ) ∧ WT z B (nxt z B τ) ∧ CR μ' (C ++ [x]) ∧ FC μ μ' := by
  obtain ⟨μ1, e1, ⟨e2, e3⟩, e4, e5⟩ := kX5_wr (E := E) (d := d + 2) (x := x) h hl
  have ex : en x = x := by unfold en; rw [if_pos hx]
  rw [ex] at e1
  have t1 : TC (ab_up μ1 46 6 (nI (lvs (C ++ [x])))) z B τ := (t.fc (fun j hj => e5 j (by omega)) (e4.1 47 (by decide) (by decide))).fc (fun j hj => za_up_j (by omega)) (za_up_a (by decide))
  obtain ⟨μ2, f1, f2, f3, f4⟩ := kX5_pass (E := E) (d := d) t1 w
  have f0 : FC μ1 (ab_up μ1 46 6 (nI (lvs (C ++ [x])))) := ⟨fun a h1 _ => za_up_a h1, za_up_j (by decide), za_up_j (by decide)⟩
  refine ⟨μ2, ?_, f2, f4, CR.f ⟨by simp; omega, by rw [za_up_j (by decide)]; exact e2, fun i y hy => by rw [za_up_a (by decide)]; exact e3 i y hy, za_up_s⟩ f3, (e4.t f0).t f3.c⟩
  rw [X5_writeLeaf_q, e1, ab_cV_s, e5 6 (by decide), h.2.2.2, za_1, ← lvs_p hx, f1, ab_cV_s]
/-- what reading ends with -/
def PoC (μ' : ab_M) (z : Nat) (B : Nat → Nat) (τ : Nat × Nat × Nat) (C : List Int32) (r : Option (List Int32) × (Nat × Nat × Nat)) : Prop := match r.1 with
  | some cs => TC μ' z B r.2 ∧ WT z B r.2 ∧ CR μ' (C ++ cs) ∧ τ.1 + cs.length ≤ r.2.1
  | none => μ' 46 2 = nI r.2.1 ∧ ∃ w, w ≤ 96 ∧ μ' 46 7 = nI w
theorem kX5_num {f s : Nat} (tb : TB μ z B) (hs : s ≤ z) (h3 : μ 46 3 = nI s) (hall : ∀ t, f ≤ t → t < s → srt z B t = 2) (h4 : s - f ≤ 4) : ∀ j k, k + j = s → f ≤ k → X5_readNumber_22 E (d + 1) (nI (num B f k)) (nI k) μ = ab_cV (X5_writeLeaf E d (nI (num B f s)) μ) (fun μ3 => some (some (.int 1), μ3))
  | 0, k, e, hk => by
    have hz := tb.1
    rw [X5_readNumber_22_q, h3, if_pos (nI_le (by omega) (by omega)), show k = s by omega]
  | j + 1, k, e, hk => by
    have hz := tb.1
    obtain ⟨b1, b2, b3⟩ := fig_b (hall k hk (by omega))
    rw [X5_readNumber_22_q, h3, if_neg (nI_ge (by omega) (by omega)), if_pos (za_in (show k < 96 by omega) (by decide)), za_cl (by omega), tb.2.2.2 k b3, za_1, Int32.mul_comm, za_num b1, ← num_s hk (by omega)]
    exact kX5_num tb hs h3 hall h4 j (k + 1) (by omega) (by omega)
/-- a number is read -/
theorem kX5_readNumber {C : List Int32} (t : TC μ z B τ) (w : WT z B τ) (h : CR μ C) (hl : C.length ≤ τ.1) (c2 : τ.2.2 = 2) : ∃ μ', X5_readNumber E (d + 4) μ = some (some (.int (zb (τ.2.1 - τ.1 ≤ 4))), μ') ∧ FC μ μ' ∧ PoC μ' z B τ C (if τ.2.1 - τ.1 ≤ 4 then (some [nI (num B τ.1 τ.2.1)], nxt z B τ) else (none, τ)) := by
  have hz := t.1.1
  have hlt := w.lt (by omega)
  have h2 := w.2.2.1 hlt
  have h3 := w.2.1
  rw [X5_readNumber_q, t.2.1, t.2.2.1, za_sub (by omega)]
  by_cases c : τ.2.1 - τ.1 ≤ 4
  · have s2 : srt z B τ.1 = 2 := by rcases w.2.2.2.1 with e | ⟨e, -⟩ <;> omega
    have hall := w.2.2.2.2 (by rw [s2]; rfl)
    rw [s2] at hall
    have n1 : num B τ.1 τ.1 = 0 := by unfold num; rw [show min 4 (τ.1 - τ.1) = 0 by omega]; rfl
    have key := kX5_num (E := E) (d := d + 3) t.1 h3 t.2.2.1 hall c (τ.2.1 - τ.1) τ.1 (by omega) (Nat.le_refl _)
    rw [n1] at key
    have hnum := num_lt (B := B) (f := τ.1) (k := τ.2.1) (fun t h1 h2 => (fig_b (hall t h1 h2)).2.1)
    obtain ⟨μ', e1, e2, e3, e4, e5⟩ := kX5_wrL (E := E) (d := d) (x := nI (num B τ.1 τ.2.1)) t w h (by omega) (nI_pos' (by omega))
    rw [if_pos (show nI (τ.2.1 - τ.1) ≤ (4 : Int32) from nI_le (b := 4) c (by decide)), show (0 : Int32) = nI 0 from rfl, key, e1, ab_cV_s, if_pos c, zb_t c]
    exact ⟨μ', rfl, e5, e2, e3, e4, by have := (nf_b (B := B) h3).1; show τ.1 + 1 ≤ nf z B τ.2.1; omega⟩
  · rw [if_neg (show ¬ nI (τ.2.1 - τ.1) ≤ (4 : Int32) from nI_ge (a := 4) (by omega) (by omega)), if_neg c, zb_f c]
    exact ⟨μ, rfl, FC.rf, t.2.1, C.length, h.1, h.2.1⟩
/-- a name is read -/
theorem kX5_readName {C : List Int32} (hk : key < 3) (hkey : μ 46 5 = nI key) (t : TC μ z B τ) (w : WT z B τ) (h : CR μ C) (hl : C.length ≤ τ.1) (c1 : τ.2.2 = 1) : ∃ μ', X5_readName E (d + 6) μ = some (some (.int (zb ((lf1 z B (if τ.2.1 - τ.1 = 1 then nmI key (B τ.1) else none) τ).1.isSome = true))), μ') ∧ FC μ μ' ∧ PoC μ' z B τ C (lf1 z B (if τ.2.1 - τ.1 = 1 then nmI key (B τ.1) else none) τ) := by
  have hz := t.1.1
  have hlt := w.lt (by omega)
  have h2 := w.2.2.1 hlt
  have h3 := w.2.1
  have hb := t.b hlt
  have e0 : X1_namesOf E (d + 5) (μ 46 5) μ = some (some (.ref (1000 + 2 * (3 + key))), μ) := by
    rw [X1_namesOf_q, hkey]
    rcases (show key = 0 ∨ key = 1 ∨ key = 2 by omega) with rfl | rfl | rfl
    · rw [if_pos (show nI 0 = (0 : Int32) from rfl)]
    · rw [if_neg (by decide), if_pos (show nI 1 = (1 : Int32) from rfl)]
    · rw [if_neg (by decide), if_neg (by decide)]
  rw [X5_readName_q, e0, ab_cA_s, X5_readName_k7_q (show 3 + key < 14 by omega), t.2.1, if_pos (za_in (show τ.1 < 96 by omega) (by decide)), za_cl (by omega), t.1.2.2.2 _ hlt, ch_b _ hb, kJ_indexOf (show 3 + key < 14 by omega) hb, ab_cI_s, t.2.1, t.2.2.1, za_sub (by omega), fxs_n key hk _ hb]
  by_cases c : τ.2.1 - τ.1 = 1
  · rw [if_neg (show ¬ ¬ nI (τ.2.1 - τ.1) = (1 : Int32) from fun q => q (by rw [c]; rfl)), if_pos c]
    cases hn : nmI key (B τ.1) with
    | none =>
      rw [if_neg (by decide)]
      exact ⟨μ, rfl, FC.rf, t.2.1, C.length, h.1, h.2.1⟩
    | some k =>
      have hk4 : k < 4 := by
        unfold nmI at hn
        repeat' split at hn
        all_goals first | (cases hn; done) | (cases hn; omega)
      obtain ⟨μ', e1, e2, e3, e4, e5⟩ := kX5_wrL (E := E) (d := d + 2) (x := nI (10000 + k)) t w h (by omega) (nI_pos' (by omega))
      rw [if_pos (show (0 : Int32) ≤ nI k from nI_pos' (by omega)), show (10000 : Int32) + nI k = nI (10000 + k) from nI_add 10000 k, e1, ab_cV_s]
      exact ⟨μ', rfl, e5, e2, e3, e4, by have := (nf_b (B := B) h3).1; show τ.1 + 1 ≤ nf z B τ.2.1; omega⟩
  · rw [if_pos (show ¬ nI (τ.2.1 - τ.1) = (1 : Int32) from fun q => c ((nI_eq (b := 1) (by omega) (by decide)).mp q)), if_neg c]
    exact ⟨μ, rfl, FC.rf, t.2.1, C.length, h.1, h.2.1⟩
end
