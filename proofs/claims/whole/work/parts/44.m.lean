/-! ===== the reference: the lake carried into a row and back ===== -/
def getL (m : MS) (p : Nat) : Int32 := if p = 0 then m.1 0 else if p < 7 then m.2.1 1 (p - 1) else m.2.1 (2 + (p - 7) % 4) ((p - 7) / 4)
def setL (m : MS) (p : Nat) (r : Int32) : MS := if p = 0 then mI m 0 r else if p < 7 then mA m 1 (upd (m.2.1 1) (p - 1) r) else mA m (2 + (p - 7) % 4) (upd (m.2.1 (2 + (p - 7) % 4)) ((p - 7) / 4) r)
theorem getL_setL (m : MS) (p : Nat) (r : Int32) (j : Nat) : getL (setL m p r) j = if j = p then r else getL m j := by
  unfold getL setL
  by_cases p0 : p = 0
  · subst p0
    rw [if_pos rfl]
    by_cases j0 : j = 0
    · subst j0; simp [mI]
    · simp [j0, mI]
  rw [if_neg p0]
  by_cases p7 : p < 7
  · rw [if_pos p7]
    by_cases j0 : j = 0
    · subst j0
      rw [if_pos rfl, if_neg (by omega)]; simp [mA]
    rw [if_neg j0]
    by_cases j7 : j < 7
    · rw [if_pos j7]
      simp only [mA, va_up, if_true, upd]
      by_cases e : j = p
      · subst e; simp
      · rw [if_neg (by omega), if_neg e]; simp [j0, j7]
    · rw [if_neg j7, if_neg (by omega)]
      simp only [mA, va_up]
      rw [if_neg (by omega)]; simp [j0, j7]
  rw [if_neg p7]
  by_cases j0 : j = 0
  · subst j0
    rw [if_pos rfl, if_neg (by omega)]; simp [mA]
  rw [if_neg j0]
  by_cases j7 : j < 7
  · rw [if_pos j7, if_neg (by omega)]
    simp only [mA, va_up]
    rw [if_neg (by omega)]; simp [j0, j7]
  · rw [if_neg j7]
    simp only [mA, va_up]
    by_cases e : j = p
    · subst e; simp [upd]
    · rw [if_neg e]
      by_cases e4 : 2 + (j - 7) % 4 = 2 + (p - 7) % 4
      · rw [if_pos e4]
        simp only [upd]
        rw [if_neg (by omega), ← e4]; simp [j0, j7]
      · rw [if_neg e4]; simp [j0, j7]
theorem setL_fr (m : MS) {p : Nat} (r : Int32) : (∀ k, k ≠ 0 → (setL m p r).1 k = m.1 k) ∧ (∀ t, 6 ≤ t → (setL m p r).2.1 t = m.2.1 t) ∧ (setL m p r).2.2 = m.2.2 := by
  unfold setL
  split
  · exact ⟨fun k hk => by simp only [mI]; rw [if_neg hk], fun _ _ => rfl, rfl⟩
  split
  · exact ⟨fun _ _ => rfl, fun t ht => by simp only [mA, va_up]; rw [if_neg (by omega)], rfl⟩
  · exact ⟨fun _ _ => rfl, fun t ht => by simp only [mA, va_up]; rw [if_neg (by omega)], rfl⟩
/-- p values have been carried: into the row (b) or out of it -/
def CV (b : Bool) (m : MS) (q : Nat) (x : MS) (p : Nat) : Prop :=
  (x.1 10 = zI p ∧ x.1 11 = (if b = true then 1 else 0) ∧ x.2.2.2 = some q ∧ x.2.2.1 = m.2.2.1 ∧ (∀ k, k ≠ 0 → k ≠ 10 → k ≠ 11 → x.1 k = m.1 k) ∧ ∀ t, 6 ≤ t → t ≠ q → x.2.1 t = m.2.1 t) ∧
  (b = true → (∀ j, j < p → x.2.1 q j = getL m j) ∧ ∀ j, getL x j = getL m j) ∧ (b = false → x.2.1 q = m.2.1 q ∧ ∀ j, j < p → getL x j = m.2.1 q j)
theorem s_carry {b : Bool} {m x : MS} {q p : Nat} (hq6 : q = 6 ∨ q = 7) (hp : p < 199) (h : CV b m q x p) {Q : Int32 → MS → Prop} (hq : ∀ r x', CV b m q (setL x' p r) (p + 1) → Q r x') : wp_X12_carry x (getL x p) Q := by
  obtain ⟨⟨h1, h2, h3, h4, h5, h6⟩, h7, h8⟩ := h
  have hmk : mk q := by unfold mk; omega
  have hl : mlen q = 199 := by rcases hq6 with rfl | rfl <;> rfl
  have e1 : zI (p : Int) + 1 = zI ((p + 1 : Nat) : Int) := zI_p1 p
  have e2 : zI ((p + 1 : Nat) : Int) - 1 = zI (p : Int) := by rw [zI_s1]; exact zI_c (by omega)
  unfold wp_X12_carry
  rw [h2]
  cases b with
  | false =>
    obtain ⟨h8, h9⟩ := h8 rfl
    refine ⟨fun _ x1 e => ?_, fun z => absurd rfl z⟩
    rw [h1, e1] at e
    have g10 : x1.1 10 = zI ((p + 1 : Nat) : Int) := by rw [e]; simp [mI]
    refine ⟨q, by rw [e]; exact h3, hmk, ?_⟩
    rw [g10, e2, hl, zI_clN (by omega)]
    refine ⟨zI_in (by omega) (by omega) (by omega), hq _ _ ?_⟩
    have hf := setL_fr x1 (p := p) (x1.2.1 q p)
    have er : x1.2.1 q = m.2.1 q := by rw [e]; exact h8
    refine ⟨⟨(hf.1 10 (by omega)).trans g10, ?_, ?_, ?_, fun k a1 a2 a3 => ?_, fun t t6 tq => ?_⟩, fun z => absurd z (by decide), fun _ => ⟨(hf.2.1 q (by omega)).trans er, fun j hj => ?_⟩⟩
    · rw [hf.1 11 (by omega), e]; simpa [mI] using h2
    · rw [hf.2.2, e]; exact h3
    · rw [hf.2.2, e]; exact h4
    · rw [hf.1 k a1, e]; simpa [mI, a2] using h5 k a1 a2 a3
    · rw [hf.2.1 t t6, e]; exact h6 t t6 tq
    · rw [getL_setL]
      by_cases ej : j = p
      · rw [if_pos ej, ej, er]
      · rw [if_neg ej, ← h9 j (by omega), e]; simp [getL, mI]
  | true =>
    obtain ⟨h7, h9⟩ := h7 rfl
    refine ⟨fun z => absurd z (by decide), fun _ => ⟨q, h3, hmk, ?_⟩⟩
    rw [h1, hl]
    refine ⟨zI_in (by omega) (by omega) (by omega), fun x4 e4 x5 e5 => ?_⟩
    rw [zI_clN (by omega)] at e4
    have f10 : x4.1 10 = zI (p : Int) := by rw [e4]; exact h1
    rw [f10, e1] at e5
    have g10 : x5.1 10 = zI ((p + 1 : Nat) : Int) := by rw [e5]; simp [mI]
    have hr : ∀ j, x5.2.1 q j = if j = p then getL x p else x.2.1 q j := fun j => by rw [e5, e4]; simp [mI, mA, va_up, upd]
    have hg : ∀ j, getL x5 j = getL x j := fun j => by
      rw [e5, e4]
      unfold getL
      simp only [mI, mA, va_up]
      have n1 : ¬ (1 = q) := by omega
      have n2 : ¬ (2 + (j - 7) % 4 = q) := by omega
      rw [if_neg n1, if_neg n2]
      simp
    refine ⟨q, by rw [e5, e4]; exact h3, hmk, ?_⟩
    rw [g10, e2, hl, zI_clN (by omega)]
    refine ⟨zI_in (by omega) (by omega) (by omega), hq _ _ ?_⟩
    rw [hr p, if_pos rfl]
    have hf := setL_fr x5 (p := p) (getL x p)
    refine ⟨⟨(hf.1 10 (by omega)).trans g10, ?_, ?_, ?_, fun k a1 a2 a3 => ?_, fun t t6 tq => ?_⟩, fun _ => ⟨fun j hj => ?_, fun j => ?_⟩, fun z => absurd z (by decide)⟩
    · rw [hf.1 11 (by omega), e5, e4]; simpa [mI, mA] using h2
    · rw [hf.2.2, e5, e4]; exact h3
    · rw [hf.2.2, e5, e4]; exact h4
    · rw [hf.1 k a1, e5, e4]; simpa [mI, mA, a2] using h5 k a1 a2 a3
    · rw [hf.2.1 t t6, e5, e4]; simpa [mI, mA, va_up, tq] using h6 t t6 tq
    · rw [hf.2.1 q (by omega), hr j]
      by_cases ej : j = p
      · rw [if_pos ej, ej]; exact h9 p
      · rw [if_neg ej]; exact h7 j (by omega)
    · rw [getL_setL]
      by_cases ej : j = p
      · rw [if_pos ej, ej]; exact h9 p
      · rw [if_neg ej, hg j]; exact h9 j
theorem m_carryAll {m : MS} {q : Nat} {b : Bool} (hq6 : q = 6 ∨ q = 7) {Q : MS → Prop} (hq : ∀ x', CV b m q x' 199 → Q x') : wp_X12_carryAll m q (if b = true then 1 else 0) Q := by
  intro x1 e1
  refine ⟨match b with | false => Or.inl rfl | true => Or.inr rfl, fun x2 e2 x3 e3 => ?_⟩
  have h3 : CV b m q x3 0 := by
    refine ⟨⟨by rw [e3]; simp [mI]; rfl, by rw [e3, e2]; simp [mI], by rw [e3, e2, e1]; rfl, by rw [e3, e2, e1]; rfl, fun k a1 a2 a3 => by rw [e3, e2, e1]; simp [mI, mR, a2, a3], fun t _ _ => by rw [e3, e2, e1]; rfl⟩, fun _ => ⟨fun j hj => absurd hj (by omega), fun j => ?_⟩, fun _ => ⟨by rw [e3, e2, e1]; rfl, fun j hj => absurd hj (by omega)⟩⟩
    rw [e3, e2, e1]; simp [getL, mI, mR]
  refine s_carry hq6 (p := 0) (by omega) h3 (fun r5 x4 h4 => fun x6 e6 => ?_)
  have h6 : CV b m q x6 1 := by rw [e6]; exact h4
  refine ⟨fun y7 x8 => ∃ c : Nat, c ≤ 6 ∧ y7 = zI c ∧ CV b m q x8 (1 + c), fun y7 _ => 1000 - y7.toInt.toNat, ⟨0, by omega, rfl, h6⟩, ?_⟩
  rintro y7 x8 ⟨c, hc, rfl, h8⟩
  rw [show (6 : Int32) = zI 6 from rfl, zI_le (by omega) (by omega) (by omega) (by omega)]
  refine ⟨fun c6' => ?_, fun c6' => ⟨c6 (by omega), ?_⟩⟩
  · have e : c = 6 := by omega
    subst e
    refine ⟨fun y9 x10 => ∃ k : Nat, k ≤ 48 ∧ y9 = zI k ∧ CV b m q x10 (7 + 4 * k), fun y9 _ => 1000 - y9.toInt.toNat, ⟨0, by omega, rfl, h8⟩, ?_⟩
    rintro y9 x10 ⟨k, hk, rfl, h10⟩
    rw [show (48 : Int32) = zI 48 from rfl, zI_le (by omega) (by omega) (by omega) (by omega)]
    refine ⟨fun c48' => ?_, fun c48' => ?_⟩
    · have e : k = 48 := by omega
      subst e; exact hq x10 h10
    have v := c48 (k := k) (by omega)
    have eg : ∀ (x : MS) (t : Nat), t < 4 → getL x (7 + 4 * k + t) = x.2.1 (2 + t) k := fun x t ht => by
      unfold getL
      rw [if_neg (by omega), if_neg (by omega), show (7 + 4 * k + t - 7) % 4 = t by omega, show (7 + 4 * k + t - 7) / 4 = k by omega]
    have es : ∀ (x : MS) (t : Nat) (r : Int32), t < 4 → setL x (7 + 4 * k + t) r = mA x (2 + t) (upd (x.2.1 (2 + t)) k r) := fun x t r ht => by
      unfold setL
      rw [if_neg (by omega), if_neg (by omega), show (7 + 4 * k + t - 7) % 4 = t by omega, show (7 + 4 * k + t - 7) / 4 = k by omega]
    rw [zI_clN (by omega)]
    refine ⟨v, ?_⟩
    rw [← eg x10 0 (by omega)]
    refine s_carry hq6 (p := 7 + 4 * k + 0) (by omega) h10 (fun r12 x11 h11 => ⟨v, fun x13 e13 => ⟨v, ?_⟩⟩)
    rw [es _ 0 _ (by omega)] at h11
    rw [← e13] at h11
    rw [← eg x13 1 (by omega)]
    refine s_carry hq6 (p := 7 + 4 * k + 1) (by omega) h11 (fun r15 x14 h14 => ⟨v, fun x16 e16 => ⟨v, ?_⟩⟩)
    rw [es _ 1 _ (by omega)] at h14
    rw [← e16] at h14
    rw [← eg x16 2 (by omega)]
    refine s_carry hq6 (p := 7 + 4 * k + 2) (by omega) h14 (fun r18 x17 h17 => ⟨v, fun x19 e19 => ⟨v, ?_⟩⟩)
    rw [es _ 2 _ (by omega)] at h17
    rw [← e19] at h17
    rw [← eg x19 3 (by omega)]
    refine s_carry hq6 (p := 7 + 4 * k + 3) (by omega) h17 (fun r21 x20 h20 => ⟨v, fun x22 e22 => ?_⟩)
    rw [es _ 3 _ (by omega)] at h20
    rw [← e22] at h20
    rw [zI_p1]
    exact ⟨⟨k + 1, by omega, rfl, by rw [show 7 + 4 * (k + 1) = 7 + 4 * k + 3 + 1 by omega]; exact h20⟩, mux 1000 (by omega) (by omega) (by omega)⟩
  · rw [zI_clN (by omega)]
    have eg : getL x8 (1 + c) = x8.2.1 1 c := by unfold getL; rw [if_neg (by omega), if_pos (by omega), show 1 + c - 1 = c by omega]
    rw [← eg]
    refine s_carry hq6 (p := 1 + c) (by omega) h8 (fun r25 x24 h24 => ⟨c6 (by omega), fun x26 e26 => ?_⟩)
    have es : setL x24 (1 + c) r25 = mA x24 1 (upd (x24.2.1 1) c r25) := by unfold setL; rw [if_neg (by omega), if_pos (by omega), show 1 + c - 1 = c by omega]
    rw [es, ← e26] at h24
    rw [zI_p1]
    exact ⟨⟨c + 1, by omega, rfl, by rw [show 1 + (c + 1) = 1 + c + 1 by omega]; exact h24⟩, mux 1000 (by omega) (by omega) (by omega)⟩
