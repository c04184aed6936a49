/-! ===== the reference does a statement ===== -/
section MCO
variable {m m' x : MS} {A : AS} {L : LK} {S : SH} {d p b k : Nat}
theorem MF_R {σ : Nat → Nat} (h : RW m m' σ) : MF m m' := ⟨fun k _ => by rw [h.1], h.2.1, h.2.2.1⟩
theorem MF_0 (m : MS) (v : Int32) : MF m (mI m 0 v) := ⟨fun k hk => by simp only [mI]; rw [if_neg hk], fun _ _ => rfl, rfl⟩
theorem m_cu (ok : lO L) (h : LM m L) {c f : Nat} (hc : c < 6) (h1 : 1 ≤ f) (h2 : f ≤ 99) {Q : Int32 → MS → Prop} (hq : ∀ r m', LM m' (cuL L c f).2 → MC m m' c → 0 ≤ (cuL L c f).1 → Q r m') : wp_X12_cuts m (zI c) (zI f) Q := by
  have hle := cutS_le (L.2.2.2.2.2 c) (L.2.1 c) f
  have e : cuL L c f = ((L.2.1 c : Int) - (cutS (L.2.2.2.2.2 c) (L.2.1 c) f).1, (L.1, upc L.2.1 c (cutS (L.2.2.2.2.2 c) (L.2.1 c) f).1, L.2.2.1, L.2.2.2.1, L.2.2.2.2.1, upc L.2.2.2.2.2 c (cutS (L.2.2.2.2.2 c) (L.2.1 c) f).2)) := by
    unfold cuL; rw [if_pos (by omega)]; rfl
  rw [e] at hq
  exact m_cuts ok h hc h2 (fun m' hL hC => hq _ m' hL hC (by show (0 : Int) ≤ (L.2.1 c : Int) - ((cutS (L.2.2.2.2.2 c) (L.2.1 c) f).1 : Nat); omega))
theorem thL_n (L : LK) {e : Nat} (h1 : 1 ≤ e) (h2 : e ≤ 99) : thL L (e : Int) = (((sg (fun c => L.2.1 c - thN L.2.1 L.2.2.1 L.2.2.2.1 L.2.2.2.2.2 e c) 6 : Nat) : Int), (L.1, thN L.2.1 L.2.2.1 L.2.2.2.1 L.2.2.2.2.2 e, L.2.2.1, L.2.2.2.1, L.2.2.2.2.1, thF L.2.1 L.2.2.1 L.2.2.2.1 L.2.2.2.2.2 e)) := by
  unfold thL; rw [if_pos (by omega)]; rfl
theorem m_comes (ok : lO L) (h : LM x L) (hk : k ≤ 50) (hs : slen (vlS S p) ≠ 0) (h9 : x.2.1 9 k = zI (vlS S p)) (h10 : ∀ j, j + 2 < slen (vlS S p) → x.2.1 10 (4 * k + j) = zI (dgS S ((p + 1 + j : Nat) : Int)) ∧ 0 ≤ dgS S ((p + 1 + j : Nat) : Int)) {Q : Int32 → MS → Prop}
    (hq1 : ∀ x', LM x' (stL S p L).2 → MF x x' → 0 ≤ (stL S p L).1 → Q (zI 1) x')
    (hq0 : ∀ x', MF x x' → (stL S p L).1 < 0 → Q (zI 0) x') : wp_X12_comes x (zI k) Q := by
  have hsc := slen_cases (vlS S p)
  have ea : (4 : Int32) * zI (k : Int) = zI ((4 * k : Nat) : Int) := by rw [show (4 : Int32) = zI 4 from rfl, zI_mul]; exact zI_c (by omega)
  have e1 : zI ((4 * k : Nat) : Int) + 1 = zI ((4 * k + 1 : Nat) : Int) := zI_p1 _
  have e2 : zI ((4 * k : Nat) : Int) + 2 = zI ((4 * k + 2 : Nat) : Int) := by rw [show (2 : Int32) = zI ((2 : Nat) : Int) from rfl, aN]
  have e3 : zI ((4 * k : Nat) : Int) + 3 = zI ((4 * k + 3 : Nat) : Int) := by rw [show (3 : Int32) = zI ((3 : Nat) : Int) from rfl, aN]
  have hd : ∀ j : Nat, dgS S ((p + 1 + j : Nat) : Int) ≤ 9 := fun j => (dgS_b S _).2
  unfold wp_X12_comes
  rw [ea, e1, e2, e3, zI_clN (a := 4 * k) (by omega), zI_clN (a := 4 * k + 1) (by omega), zI_clN (a := 4 * k + 2) (by omega), zI_clN (a := 4 * k + 3) (by omega), zI_clN (a := k) (by omega), h9]
  have v0 : vp_in (zI ((4 * k : Nat) : Int)) 204 := zI_in (by omega) (by omega) (by omega)
  have v1 : vp_in (zI ((4 * k + 1 : Nat) : Int)) 204 := zI_in (by omega) (by omega) (by omega)
  have v2 : vp_in (zI ((4 * k + 2 : Nat) : Int)) 204 := zI_in (by omega) (by omega) (by omega)
  have v3 : vp_in (zI ((4 * k + 3 : Nat) : Int)) 204 := zI_in (by omega) (by omega) (by omega)
  have hvb : 99 ≤ vlS S p ∧ vlS S p ≤ 119 := by omega
  rw [show (99 : Int32) = zI 99 from rfl, show (100 : Int32) = zI 100 from rfl, show (110 : Int32) = zI 110 from rfl, show (116 : Int32) = zI 116 from rfl, zI_eq (a := vlS S p) (b := 99) (by omega) (by omega) (by omega) (by omega), zI_eq (a := vlS S p) (b := 100) (by omega) (by omega) (by omega) (by omega), zI_eq (a := vlS S p) (b := 110) (by omega) (by omega) (by omega) (by omega), zI_eq (a := vlS S p) (b := 116) (by omega) (by omega) (by omega) (by omega)]
  refine ⟨v0, v1, v2, zI_in (by omega) (by omega) (by omega), fun c => ?_, fun c => ⟨fun c2 => ?_, fun c2 => ⟨fun c3 => ?_, fun c3 => ⟨fun c4 => ?_, fun c4 => ?_⟩⟩⟩⟩
  · -- cut
    have es : stL S p L = cuL L (dgS S ((p + 1 : Nat) : Int)) (10 * dgS S ((p + 2 : Nat) : Int) + dgS S ((p + 3 : Nat) : Int)) := by unfold stL; rw [if_pos c]
    obtain ⟨g0, n0⟩ := h10 0 (by omega)
    obtain ⟨g1, n1⟩ := h10 1 (by omega)
    obtain ⟨g2, n2⟩ := h10 2 (by omega)
    have m0 := hd 0
    have m1 := hd 1
    have m2 := hd 2
    rw [show p + 1 + 0 = p + 1 by omega] at g0 n0 m0
    rw [show p + 1 + 1 = p + 2 by omega] at g1 n1 m1
    rw [show p + 1 + 2 = p + 3 by omega] at g2 n2 m2
    rw [show 4 * k + 0 = 4 * k by omega] at g0
    rw [es] at hq1 hq0
    generalize dgS S ((p + 1 : Nat) : Int) = a at *
    generalize dgS S ((p + 2 : Nat) : Int) = b at *
    generalize dgS S ((p + 3 : Nat) : Int) = e at *
    rw [g0, g1, g2, show (10 : Int32) = zI 10 from rfl, zI_mul, zI_add, show (6 : Int32) = zI 6 from rfl, show (0 : Int32) = zI 0 from rfl, zI_le (a := 6) (by omega) (by omega) (by omega) (by omega), zI_le (b := 0) (by omega) (by omega) (by omega) (by omega)]
    have no : ¬ (0 ≤ a ∧ a < 6 ∧ 1 ≤ 10 * b + e ∧ 10 * b + e ≤ 99) → (cuL L a (10 * b + e)).1 < 0 := fun z => by unfold cuL; rw [if_neg z]; show (-1 : Int) < 0; omega
    refine ⟨fun z => ⟨fun _ => hq0 x (MF_rf x) (no (by omega)), fun z2 => absurd z z2⟩, fun z => ⟨fun z2 => ⟨fun z3 => absurd z3 z, fun _ => ⟨fun _ => hq0 x (MF_rf x) (no (by omega)), fun z3 => absurd z2 z3⟩⟩, fun z2 => ?_⟩⟩
    obtain ⟨a, rfl⟩ : ∃ j : Nat, a = j := ⟨a.toNat, by omega⟩
    obtain ⟨f, hf⟩ : ∃ j : Nat, 10 * b + e = j := ⟨(10 * b + e).toNat, by omega⟩
    rw [hf] at hq1 ⊢
    refine m_cu ok h (by omega) (by omega) (by omega) (fun r x' hL hC h0 => ⟨fun z3 => absurd z3 z, fun _ => ⟨fun z3 => absurd z3 (by omega), fun _ => hq1 x' hL (MC_MF hC) h0⟩⟩)
  · -- drift
    have es : stL S p L = drL L := by unfold stL; rw [if_neg c, if_pos c2]
    rw [es] at hq1
    exact m_drifts (fun x' hR => hq1 x' (LM_drift h hR ok) (MF_R hR) (by show (0 : Int) ≤ ((L.2.1 5 : Nat) : Int); omega))
  · -- freeze
    have es : stL S p L = fzL L (dgS S ((p + 1 : Nat) : Int)) (dgS S ((p + 2 : Nat) : Int)) (dgS S ((p + 3 : Nat) : Int)) (dgS S ((p + 4 : Nat) : Int)) := by unfold stL; rw [if_neg c, if_neg c2, if_pos c3]
    obtain ⟨g0, n0⟩ := h10 0 (by omega)
    obtain ⟨g1, n1⟩ := h10 1 (by omega)
    obtain ⟨g2, n2⟩ := h10 2 (by omega)
    obtain ⟨g3, n3⟩ := h10 3 (by omega)
    have m0 := hd 0
    have m1 := hd 1
    have m2 := hd 2
    have m3 := hd 3
    rw [show p + 1 + 0 = p + 1 by omega] at g0 n0 m0
    rw [show p + 1 + 1 = p + 2 by omega] at g1 n1 m1
    rw [show p + 1 + 2 = p + 3 by omega] at g2 n2 m2
    rw [show p + 1 + 3 = p + 4 by omega] at g3 n3 m3
    rw [show 4 * k + 0 = 4 * k by omega] at g0
    rw [es] at hq1 hq0
    generalize dgS S ((p + 1 : Nat) : Int) = a at *
    generalize dgS S ((p + 2 : Nat) : Int) = b at *
    generalize dgS S ((p + 3 : Nat) : Int) = e at *
    generalize dgS S ((p + 4 : Nat) : Int) = f at *
    rw [g0, g1, g2, g3, show (6 : Int32) = zI 6 from rfl, show (8 : Int32) = zI 8 from rfl, show (0 : Int32) = zI 0 from rfl, zI_le (a := 6) (by omega) (by omega) (by omega) (by omega), zI_le (a := 8) (by omega) (by omega) (by omega) (by omega), zI_le (b := 0) (by omega) (by omega) (by omega) (by omega)]
    have no : ¬ (0 ≤ a ∧ a < 6 ∧ 0 ≤ b ∧ b < 8 ∧ 0 ≤ e ∧ e < 10 ∧ 1 ≤ f ∧ f ≤ 9) → (fzL L a b e f).1 < 0 := fun z => by unfold fzL; rw [if_neg z]; show (-1 : Int) < 0; omega
    refine ⟨fun z => hq0 x (MF_rf x) (no (by omega)), fun z => ⟨fun z2 => hq0 x (MF_rf x) (no (by omega)), fun z2 => ⟨v3, fun z3 => hq0 x (MF_rf x) (no (by omega)), fun z3 => ⟨v3, ?_⟩⟩⟩⟩
    obtain ⟨a, rfl⟩ : ∃ j : Nat, a = j := ⟨a.toNat, by omega⟩
    obtain ⟨b, rfl⟩ : ∃ j : Nat, b = j := ⟨b.toNat, by omega⟩
    obtain ⟨e, rfl⟩ : ∃ j : Nat, e = j := ⟨e.toNat, by omega⟩
    obtain ⟨f, rfl⟩ : ∃ j : Nat, f = j := ⟨f.toNat, by omega⟩
    refine m_fz ok h (by omega) (by omega) (by omega) (by omega) (by omega) (fun x' hL hC => ?_)
    by_cases z4 : 0 ≤ (fzL L (a : Int) (b : Int) (e : Int) (f : Int)).1
    · rw [if_pos z4]
      exact ⟨fun q => absurd q (by decide), fun _ => hq1 x' hL (MC_MF hC) z4⟩
    · rw [if_neg z4]
      exact ⟨fun _ => hq0 x' (MC_MF hC) (by omega), fun q => absurd rfl q⟩
  · -- thaw
    have es : stL S p L = thL L (dgS S ((p + 1 : Nat) : Int)) := by unfold stL; rw [if_neg c, if_neg c2, if_neg c3, if_pos c4]
    obtain ⟨g0, n0⟩ := h10 0 (by omega)
    have m0 := hd 0
    rw [show p + 1 + 0 = p + 1 by omega] at g0 n0 m0
    rw [show 4 * k + 0 = 4 * k by omega] at g0
    rw [es] at hq1 hq0
    generalize dgS S ((p + 1 : Nat) : Int) = a at *
    obtain ⟨a, rfl⟩ : ∃ j : Nat, a = j := ⟨a.toNat, by omega⟩
    rw [g0]
    refine ⟨fun y22 x23 => ∃ e : Nat, e ≤ a ∧ y22 = zI e ∧ LM x23 (L.1, thN L.2.1 L.2.2.1 L.2.2.2.1 L.2.2.2.2.2 e, L.2.2.1, L.2.2.2.1, L.2.2.2.2.1, thF L.2.1 L.2.2.1 L.2.2.2.1 L.2.2.2.2.2 e) ∧ MF x x23, fun y22 _ => 1000 - y22.toInt.toNat, ⟨0, by omega, rfl, h, MF_rf x⟩, ?_⟩
    rintro y22 x23 ⟨e, he, rfl, hL, hF⟩
    rw [zI_le (a := (a : Int)) (b := (e : Int)) (by omega) (by omega) (by omega) (by omega), show (zI (a : Int) ≤ (0 : Int32)) ↔ (a : Int) ≤ 0 from zI_le (b := 0) (by omega) (by omega) (by omega) (by omega)]
    refine ⟨fun z => ?_, fun z => m_warmDay (lOK_th ok e) hL (fun x6 hL6 hF6 => ?_)⟩
    · have ee : e = a := by omega
      subst ee
      refine ⟨fun z2 => hq0 x23 hF ?_, fun z2 => ?_⟩
      · have : ¬ (1 ≤ (e : Int) ∧ (e : Int) ≤ 99) := by omega
        unfold thL; rw [if_neg this]; show (-1 : Int) < 0; omega
      · rw [thL_n L (by omega) (by omega)] at hq1
        exact hq1 x23 hL hF (by show (0 : Int) ≤ ((sg (fun c => L.2.1 c - thN L.2.1 L.2.2.1 L.2.2.2.1 L.2.2.2.2.2 e c) 6 : Nat) : Int); omega)
    · rw [zI_p1]
      exact ⟨⟨e + 1, by omega, rfl, hL6, MF_tr hF hF6⟩, mux 1000 (by omega) (by omega) (by omega)⟩
  · -- a new winter
    have es : stL S p L = wiL L := by unfold stL; rw [if_neg c, if_neg c2, if_neg c3, if_neg c4]
    rw [es] at hq1 hq0
    have hw : L.1 ≤ 99 := ok.1
    have ew : x.1 0 = zI (L.1 : Int) := h.1
    intro x28 e28
    rw [ew, zI_p1] at e28
    have f0 : x28.1 0 = zI ((L.1 + 1 : Nat) : Int) := by rw [e28]; simp [mI]
    rw [f0, zI_le (a := 100) (by omega) (by omega) (by omega) (by omega)]
    refine ⟨fun z => hq0 x28 (by rw [e28]; exact MF_0 x _) ?_, fun z => hq1 x28 (by rw [e28]; exact m_wi ok h rfl (by omega)) (by rw [e28]; exact MF_0 x _) ?_⟩
    · unfold wiL; rw [if_pos (by omega)]; show (-2 : Int) < 0; omega
    · unfold wiL; rw [if_neg (by omega)]; show (0 : Int) ≤ (L.1 : Int) + 1; omega
end MCO
