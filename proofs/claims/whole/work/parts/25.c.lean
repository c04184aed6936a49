section CX5
variable {x : XS} {b n : Nat} {K O W F : Nat → Nat}
/-- what is told of a layer -/
def tel (K O W F : Nat → Nat) (n i : Nat) (w : Int) : Int := if w = 0 then K i else if w = 1 then O i else if w = 2 then W i else if w = 3 then F i else if w = 4 then (sg F n : Int) - sg F (i + 1) else if w = 5 then (if rdb K O F n i then 1 else 0) else -1
theorem s_tellOf (ok : cOK n K O W F) (h : CX x b n K O W F) {i : Nat} (hi : i < n) {w : Int} (h1 : -2147483648 ≤ w) (h2 : w < 2147483648) {Q : Int32 → Prop} (hq : Q (zI (tel K O W F n i w))) : wp_X2_tellOf x b (zI i) (zI w) Q := by
  have hn := ok.1
  unfold wp_X2_tellOf
  have el : ∀ k : Int, -2147483648 ≤ k → k < 2147483648 → (zI w = zI k ↔ w = k) := fun k h3 h4 => zI_eq h1 h2 h3 h4
  have e0 := el 0 (by omega) (by omega)
  have e1 := el 1 (by omega) (by omega)
  have e2 := el 2 (by omega) (by omega)
  have e3 := el 3 (by omega) (by omega)
  have e4 := el 4 (by omega) (by omega)
  have e5 := el 5 (by omega) (by omega)
  refine ⟨fun c => ?_, fun c0 => ⟨fun c => ?_, fun c1 => ⟨fun c => ?_, fun c2 => ⟨fun c => ?_, fun c3 => ⟨fun c => ?_, fun c4 => ⟨fun c => ?_, fun c5 => ?_⟩⟩⟩⟩⟩⟩
  · have c := e0.mp c
    subst c
    refine s_hasI ok.1 h.1 hi ?_
    refine ⟨fun z => absurd z (by decide), fun _ => ⟨zI_in (by omega) (by omega) (by omega), ?_⟩⟩
    rw [zI_clN (by omega), (h.2 i hi).1]; exact hq
  · have c := e1.mp c
    subst c
    exact s_oathAt ok h hi hq
  · have c := e2.mp c
    subst c
    exact s_winterAt ok h hi hq
  · have c := e3.mp c
    subst c
    exact s_thickAt ok h hi hq
  · have c := e4.mp c
    subst c
    refine s_depthAt ok h (by omega) (by omega) ?_
    rw [show ((i : Int) + 1).toNat = i + 1 by omega]; exact hq
  · have c := e5.mp c
    subst c
    refine s_canRead ok h hi ?_
    cases hr : rdb K O F n i
    · rw [show tel K O W F n i 5 = 0 by simp [tel, hr]] at hq
      exact ⟨fun _ => hq, fun z => absurd rfl z⟩
    · rw [show tel K O W F n i 5 = 1 by simp [tel, hr]] at hq
      exact ⟨fun z => absurd z (by decide), fun _ => hq⟩
  · have e : tel K O W F n i w = -1 := by
      have a0 : ¬ w = 0 := fun z => c0 (e0.mpr z)
      have a1 : ¬ w = 1 := fun z => c1 (e1.mpr z)
      have a2 : ¬ w = 2 := fun z => c2 (e2.mpr z)
      have a3 : ¬ w = 3 := fun z => c3 (e3.mpr z)
      have a4 : ¬ w = 4 := fun z => c4 (e4.mpr z)
      have a5 : ¬ w = 5 := fun z => c5 (e5.mpr z)
      simp [tel, a0, a1, a2, a3, a4, a5]
    rw [e] at hq; exact hq
theorem xk_form : ∀ b, b < 161 → xtag b = 2 → 29 ≤ b ∧ 2 ≤ (b - 29) % 44 ∧ ((b - 29) % 44 - 2) % 7 = 0 := by decide +kernel
theorem xk_dis (b : Nat) (hb : b < 161) (c : Nat) (hc : c < 161) (h1 : xtag b = 2) (h2 : xtag c = 2) : b = c ∨ b + 7 ≤ c ∨ c + 7 ≤ b := by
  have := xk_form b hb h1
  have := xk_form c hc h2
  rcases (show (b - 29) / 44 = 0 ∨ (b - 29) / 44 = 1 ∨ (b - 29) / 44 = 2 by omega) with p | p | p <;> rcases (show (c - 29) / 44 = 0 ∨ (c - 29) / 44 = 1 ∨ (c - 29) / 44 = 2 by omega) with q | q | q <;> omega
theorem s_takeLayers {c : Nat} (hb : xk b 2) (hc : xk c 2) (hbc : b ≠ c) (ok : cOK n K O W F) (h : CX x c n K O W F) {Q : XS → Prop} (hq : ∀ x', CX x' b n K O W F → XF x x' b → Q x') : wp_X2_takeLayers x b c Q := by
  have hn := ok.1
  have hd := (xk_dis b hb.1 c hc.1 hb.2 hc.2).resolve_left hbc
  unfold wp_X2_takeLayers
  intro x1 e1
  have hF1 : XF x x1 b := by rw [e1]; exact XF_I _ _ _
  have h6 : x1.1 b 6 = zI n := by rw [e1]; simp [xI, h.1]
  refine ⟨fun y2 x3 => ∃ j : Nat, j ≤ n ∧ y2 = zI j ∧ x3.1 b 6 = zI n ∧ XF x x3 b ∧ ∀ i, i < j → x3.2.1 (b + 1) i = zI (K i) ∧ x3.2.1 (b + 2) i = zI (O i) ∧ x3.2.1 (b + 3) i = zI (W i) ∧ x3.2.1 (b + 4) i = zI (F i) ∧ x3.2.1 (b + 5) i = zI (melt (K i) (O i)) ∧ x3.2.1 (b + 6) i = zI (lite (K i) (O i)), fun y2 _ => 9 - y2.toInt.toNat, ⟨0, Nat.zero_le _, rfl, h6, hF1, fun i hi => absurd hi (Nat.not_lt_zero _)⟩, ?_⟩
  rintro y2 x3 ⟨j, hj, rfl, h36, hF3, ha⟩
  rw [h36]
  refine ⟨fun z => ?_, fun z => ⟨fun z2 => ?_, fun z2 => ?_⟩⟩
  · rw [zI_le (by omega) (by omega) (by omega) (by omega)] at z
    have e : j = n := by omega
    subst e
    exact hq x3 ⟨h36, ha⟩ hF3
  · rw [zI_le (by omega) (by omega) (by omega) (by omega)] at z
    rw [show (8 : Int32) = zI 8 from rfl, zI_le (by omega) (by omega) (by omega) (by omega)] at z2
    omega
  · rw [zI_le (by omega) (by omega) (by omega) (by omega)] at z
    have hin : vp_in (zI (j : Int)) 8 := zI_in (by omega) (by omega) (by omega)
    have ecl : (zI (j : Int)).toNatClampNeg = j := zI_clN (by omega)
    have h3 := h.2 j (by omega)
    have rd : ∀ t, 1 ≤ t → t ≤ 6 → x3.2.1 (c + t) = x.2.1 (c + t) := fun t h1 h2 => hF3.2.2 (c + t) (by omega)
    rw [ecl]
    refine ⟨hin, hin, fun x4 e4 => ⟨hin, hin, fun x5 e5 => ⟨hin, hin, fun x6 e6 => ⟨hin, hin, fun x7 e7 => ⟨hin, hin, fun x8 e8 => ⟨hin, hin, fun x9 e9 => ?_⟩⟩⟩⟩⟩⟩
    have a4 : XF x x4 b := XF_tr hF3 (by rw [e4]; exact XF_A (by omega) (by omega) _)
    have a5 : XF x x5 b := XF_tr a4 (by rw [e5]; exact XF_A (by omega) (by omega) _)
    have a6 : XF x x6 b := XF_tr a5 (by rw [e6]; exact XF_A (by omega) (by omega) _)
    have a7 : XF x x7 b := XF_tr a6 (by rw [e7]; exact XF_A (by omega) (by omega) _)
    have a8 : XF x x8 b := XF_tr a7 (by rw [e8]; exact XF_A (by omega) (by omega) _)
    have a9 : XF x x9 b := XF_tr a8 (by rw [e9]; exact XF_A (by omega) (by omega) _)
    have rdc : ∀ (z : XS), XF x z b → ∀ t, 1 ≤ t → t ≤ 6 → z.2.1 (c + t) j = x.2.1 (c + t) j := fun z hz t h1 h2 => by rw [hz.2.2 (c + t) (by omega)]
    rw [rdc x3 hF3 1 (by omega) (by omega), h3.1] at e4
    rw [rdc x4 a4 2 (by omega) (by omega), h3.2.1] at e5
    rw [rdc x5 a5 3 (by omega) (by omega), h3.2.2.1] at e6
    rw [rdc x6 a6 4 (by omega) (by omega), h3.2.2.2.1] at e7
    rw [rdc x7 a7 5 (by omega) (by omega), h3.2.2.2.2.1] at e8
    rw [rdc x8 a8 6 (by omega) (by omega), h3.2.2.2.2.2] at e9
    refine ⟨⟨j + 1, by omega, by rw [show (1 : Int32) = zI 1 from rfl, zI_add]; exact zI_c (by omega), ?_, a9, fun i hi => ?_⟩, ?_⟩
    · rw [e9, e8, e7, e6, e5, e4]; exact h36
    · by_cases e : i = j
      · rw [e9, e8, e7, e6, e5, e4, e]
        simp [xA, va_up, upd]
      · have h4 := ha i (by omega)
        rw [e9, e8, e7, e6, e5, e4]
        simp [xA, va_up, upd, e, h4]
    · exact mup 9 (by omega) (by omega) (by omega)
end CX5
