/-! the context at the law's entry, all of it -/
theorem bg_ctx {s : State} {b L : Nat} {xs : Nat → Int32} (hts : ∀ w ∈ lw_tbl, w.before #[Value.ref b] s = true) (hgv : (Jvm.Cond.and given_1 narrow_1).before #[Value.ref b] s = true) (hX : va_X b L xs s s.heap) (hb : b < s.heap.size) : ∃ (D : va_G) (cT : Nat → ClassId) (ad : Nat → Nat) (E : ab_E), E.1 = L ∧ E.2.2.category = 1 ∧ ad 999 = b ∧ ab_Ctx D cT ad s.heap.size E s := by
  obtain ⟨D, cT, hK⟩ := bg_K hts
  obtain ⟨adK, adV, hS, hev⟩ := bg_str hgv
  have hs := flat_of_before _ hgv
  have hA : ∀ a : Nat, a < s.heap.size → ¬ (fun q => s.heap.size ≤ q) a := fun a ha q => Nat.not_le.mpr ha q
  have hZ1 : va_Z "java/lang/String" "COMPACT_STRINGS" "Z" (.int 1) (fun q => s.heap.size ≤ q) s s.heap := va_Zof (hts _ bg_z1) (hts _ bg_z2) (va_eqi (hs _ (by decide +kernel))) hA
  have hZ2 : va_Zq "jdk/internal/util/Preconditions" "SIOOBE_FORMATTER" "Ljava/util/function/BiFunction;" (fun q => s.heap.size ≤ q) s s.heap := va_Zqof (hts _ bg_z3) (hts _ bg_z4) (hs _ (by decide +kernel)) hA
  -- one word for both
  have key : ∀ (w : Value) (t : Nat), (w = .null ∨ w = .ref 998) → va_Z "jdk/internal/util/Preconditions" "SIOOBE_FORMATTER" "Ljava/util/function/BiFunction;" (ab_tr (fun _ => t) w) (fun q => s.heap.size ≤ q) s s.heap → ∃ (D : va_G) (cT : Nat → ClassId) (ad : Nat → Nat) (E : ab_E), E.1 = L ∧ E.2.2.category = 1 ∧ ad 999 = b ∧ ab_Ctx D cT ad s.heap.size E s := by
    intro w t hw hz
    refine ⟨D, cT, fun r => if r < 900 then s.heap.size + r else if r = 999 then b else if r = 998 then t else if r % 2 = 0 then adK ((r - 1000) / 2) else adV ((r - 1001) / 2), (L, xs, w), rfl, by rcases hw with rfl | rfl <;> rfl, rfl, hK, fun e he => va_Nw.of rfl (hts _ (bg_nest e he)), ⟨va_AO.of (hts _ bg_a3), va_AO.of (hts _ bg_a4), hts _ bg_aA⟩, fun e he => ?_, ?_, hZ1, ?_, hX, hb, Nat.le_refl _, fun i hi => if_pos hi, hw⟩
    · obtain ⟨h1, h2⟩ := bg_ix e he
      have hr := hts _ (bg_sr e.2.2 h1)
      have hv := hev e.2.2 h1
      unfold bgS at hv
      rw [h2] at hr hv
      have ea : (if 1000 + 2 * e.2.2 < 900 then s.heap.size + (1000 + 2 * e.2.2) else if 1000 + 2 * e.2.2 = 999 then b else if 1000 + 2 * e.2.2 = 998 then t else if (1000 + 2 * e.2.2) % 2 = 0 then adK ((1000 + 2 * e.2.2 - 1000) / 2) else adV ((1000 + 2 * e.2.2 - 1001) / 2)) = adK e.2.2 := by
        rw [if_neg (by omega), if_neg (by omega), if_neg (by omega), if_pos (by omega), show (1000 + 2 * e.2.2 - 1000) / 2 = e.2.2 by omega]
      show vk_R _ _ _ (if 1000 + 2 * e.2.2 < 900 then s.heap.size + (1000 + 2 * e.2.2) else if 1000 + 2 * e.2.2 = 999 then b else if 1000 + 2 * e.2.2 = 998 then t else if (1000 + 2 * e.2.2) % 2 = 0 then adK ((1000 + 2 * e.2.2 - 1000) / 2) else adV ((1000 + 2 * e.2.2 - 1001) / 2)) s
      rw [ea]
      exact vk_R.of hr hv
    · have e1 : (fun i => (if 1000 + 2 * i < 900 then s.heap.size + (1000 + 2 * i) else if 1000 + 2 * i = 999 then b else if 1000 + 2 * i = 998 then t else if (1000 + 2 * i) % 2 = 0 then adK ((1000 + 2 * i - 1000) / 2) else adV ((1000 + 2 * i - 1001) / 2))) = adK := by
        funext i
        rw [if_neg (by omega), if_neg (by omega), if_neg (by omega), if_pos (by omega), show (1000 + 2 * i - 1000) / 2 = i by omega]
      have e2 : (fun i => (if 1001 + 2 * i < 900 then s.heap.size + (1001 + 2 * i) else if 1001 + 2 * i = 999 then b else if 1001 + 2 * i = 998 then t else if (1001 + 2 * i) % 2 = 0 then adK ((1001 + 2 * i - 1000) / 2) else adV ((1001 + 2 * i - 1001) / 2))) = adV := by
        funext i
        rw [if_neg (by omega), if_neg (by omega), if_neg (by omega), if_neg (by omega), show (1001 + 2 * i - 1001) / 2 = i by omega]
      show vk_S 14 ab_ln ab_by (fun i => (if 1000 + 2 * i < 900 then s.heap.size + (1000 + 2 * i) else if 1000 + 2 * i = 999 then b else if 1000 + 2 * i = 998 then t else if (1000 + 2 * i) % 2 = 0 then adK ((1000 + 2 * i - 1000) / 2) else adV ((1000 + 2 * i - 1001) / 2))) (fun i => (if 1001 + 2 * i < 900 then s.heap.size + (1001 + 2 * i) else if 1001 + 2 * i = 999 then b else if 1001 + 2 * i = 998 then t else if (1001 + 2 * i) % 2 = 0 then adK ((1001 + 2 * i - 1000) / 2) else adV ((1001 + 2 * i - 1001) / 2))) _ s s.heap
      rw [e1, e2]
      exact hS
    · rcases hw with rfl | rfl
      · exact hz
      · exact hz
  rcases hZ2 with h | ⟨t, h⟩
  · exact key .null 0 (Or.inl rfl) h
  · exact key (.ref 998) t (Or.inr rfl) h
