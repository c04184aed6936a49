/-! ===== seen, told, taken over ===== -/
/-- seen in a cell that was cut so: it isn't cut through, and its light reaches -/
def snb (K O F : Nat → Nat) (n f i : Nat) : Prop := f < sg F n - sg F i ∧ sg F n - sg F (i + 1) - f ≤ lite (K i) (O i)
theorem zI_c {a b : Int} (h : a = b) : zI a = zI b := by rw [h]
theorem mdn {k : Int} (h0 : 0 ≤ k) (h1 : k < 1000000) : ((zI k + -1).toInt + 1).toNat < ((zI k).toInt + 1).toNat := by
  rw [show (-1 : Int32) = zI (-1) from rfl, zI_add, zI_t (by omega) (by omega), zI_t (by omega) (by omega)]; omega
theorem mup (B : Nat) {k : Int} (h0 : 0 ≤ k) (h1 : k < B) (h2 : B < 1000000) : B - (zI k + 1).toInt.toNat < B - (zI k).toInt.toNat := by
  rw [show (1 : Int32) = zI 1 from rfl, zI_add, zI_t (by omega) (by omega), zI_t (by omega) (by omega)]; omega
theorem zI_p1 (k : Nat) : zI (k : Int) + 1 = zI ((k + 1 : Nat) : Int) := by
  rw [show (1 : Int32) = zI 1 from rfl, zI_add]; exact zI_c (by omega)
theorem zI_m1 (k : Nat) : zI (k : Int) + -1 = zI ((k : Int) - 1) := by
  rw [show (-1 : Int32) = zI (-1) from rfl, zI_add]; exact zI_c (by omega)
section CX4
variable {x : XS} {b n : Nat} {K O W F : Nat → Nat}
theorem s_oathsSeen (ok : cOK n K O W F) (h : CX x b n K O W F) {f : Nat} (hf : f ≤ 99) {Q : Int32 → Prop} (hq : ∀ m : Nat, Msk m (fun o => ∃ i, i < n ∧ snb K O F n f i ∧ O i = o) → Q (zI m)) : wp_X2_oathsSeen x b (zI f) Q := by
  have hn := ok.1
  refine ⟨fun y1 y2 y3 => ∃ j m : Nat, j ≤ n ∧ y3 = zI (j - 1) ∧ y2 = zI (sg F n - sg F j - f : Int) ∧ y1 = zI m ∧ Msk m (fun o => ∃ i, j ≤ i ∧ i < n ∧ snb K O F n f i ∧ O i = o), fun _ _ y3 => (y3.toInt + 1).toNat, ?_, ?_⟩
  · refine ⟨n, 0, Nat.le_refl _, ?_, ?_, rfl, Msk_iff Msk_0 (fun j => ⟨fun z => z.elim, fun ⟨i, h1, h2, _⟩ => by omega⟩)⟩
    · rw [h.1]; simp only [zN]
    · rw [zI_neg]; exact zI_c (by omega)
  · rintro y1 y2 y3 ⟨j, m, hj, rfl, rfl, rfl, hm⟩
    refine ⟨fun c => ?_, fun c => ?_⟩
    · rw [show (0 : Int32) = zI 0 from rfl, zI_lt (by omega) (by omega) (by omega) (by omega)] at c
      exact hq m (Msk_iff hm (fun o => ⟨fun ⟨i, _, h2, h3⟩ => ⟨i, h2, h3⟩, fun ⟨i, h2, h3⟩ => ⟨i, by omega, h2, h3⟩⟩))
    · rw [show (0 : Int32) = zI 0 from rfl, zI_lt (by omega) (by omega) (by omega) (by omega)] at c
      obtain ⟨k, rfl⟩ : ∃ k, j = k + 1 := ⟨j - 1, by omega⟩
      have okk := ok.2 k (by omega)
      have e := sg_s F k
      have hs := sgF ok (j := k + 1) hj
      have hl := lite_b (k := K k) (o := O k)
      rw [show ((k + 1 : Nat) : Int) - 1 = (k : Int) by omega]
      have ey3 : zI (k : Int) + -1 = zI ((k : Int) - 1) := by rw [show (-1 : Int32) = zI (-1) from rfl, zI_add]; exact zI_c (by omega)
      have ey2 : zI (sg F n - sg F (k + 1) - f : Int) + zI (F k : Int) = zI (sg F n - sg F k - f : Int) := by rw [zI_add]; exact zI_c (by omega)
      have no : ¬ snb K O F n f k → Msk m (fun o => ∃ i, k ≤ i ∧ i < n ∧ snb K O F n f i ∧ O i = o) := fun hz => Msk_iff hm (fun o => ⟨fun ⟨i, h1, h2⟩ => ⟨i, by omega, h2⟩, fun ⟨i, h1, h2, h3, h4⟩ => by
        by_cases e : i = k
        · subst e; exact absurd h3 hz
        · exact ⟨i, by omega, h2, h3, h4⟩⟩)
      refine s_thickAt ok h (by omega) ?_
      rw [ey2]
      refine ⟨fun c2 => ?_, fun c2 => ?_⟩
      · rw [show (0 : Int32) = zI 0 from rfl, zI_le (by omega) (by omega) (by omega) (by omega)] at c2
        refine s_thickAt ok h (by omega) ?_
        rw [ey2]
        exact ⟨⟨k, m, by omega, ey3, rfl, rfl, no (fun z => by unfold snb at z; omega)⟩, mdn (by omega) (by omega)⟩
      · rw [show (0 : Int32) = zI 0 from rfl, zI_le (by omega) (by omega) (by omega) (by omega)] at c2
        refine s_lightAt ok h (by omega) ?_
        rw [show (0 : Int32) = zI 0 from rfl, zI_max (by omega) (by omega) (by omega) (by omega)]
        refine ⟨fun c3 => ?_, fun c3 => ?_⟩
        · rw [zI_lt (by omega) (by omega) (by split <;> omega) (by split <;> omega)] at c3
          refine s_thickAt ok h (by omega) ?_
          rw [ey2]
          exact ⟨⟨k, m, by omega, ey3, rfl, rfl, no (fun z => by unfold snb at z; split at c3 <;> omega)⟩, mdn (by omega) (by omega)⟩
        · rw [zI_lt (by omega) (by omega) (by split <;> omega) (by split <;> omega)] at c3
          refine s_oathAt ok h (by omega) ?_
          refine s_thickAt ok h (by omega) ?_
          rw [ey2, zI_shl (by omega), zI_or]
          refine ⟨⟨k, _, by omega, ey3, rfl, rfl, Msk_iff (Msk_or hm) (fun o => ⟨?_, ?_⟩)⟩, mdn (by omega) (by omega)⟩
          · rintro (⟨i, h1, h2⟩ | rfl)
            · exact ⟨i, by omega, h2⟩
            · exact ⟨k, by omega, by omega, by unfold snb; split at c3 <;> omega, rfl⟩
          · rintro ⟨i, h1, h2, h3, rfl⟩
            by_cases e : i = k
            · subst e; exact Or.inr rfl
            · exact Or.inl ⟨i, by omega, h2, h3, rfl⟩
end CX4
