/-! ===== the reference: elements, failures ===== -/
section MEL
variable {m m' x : MS} {A : AS} {L : LK} {S : SH}
/-- 0 an element, 1 no such shelf, 2 no row or no such place -/
def aElK (A : AS) (d i : Int) : Int := if 0 ≤ d ∧ d ≤ 7 then (if lkS (shG A d) 2 = 0 then (if 0 ≤ i ∧ i < shN (shG A d) then 0 else 2) else 2) else 1
def aElV (A : AS) (d i : Int) : Int := shE (shG A d) i.toNat
theorem y_element (h : MR m A) {d i : Int} (h1 : -2147483648 ≤ d) (h2 : d < 2147483648) (h3 : -2147483648 ≤ i) (h4 : i < 2147483648) {Q : Int64 → MS → Prop} (hq : ∀ r x', MR x' A → x'.1 6 = zI (aElK A d i) → (aElK A d i = 0 → r = lJ (aElV A d i)) → Q r x') : wp_X12_element m (zI d) (zI i) Q := by
  have s6 : ∀ (x' : MS) (v : Int32), x' = mI m 6 v → x'.1 6 = v ∧ MR x' A := fun x' v e => by rw [e]; exact ⟨by simp [mI], MR_6 h v⟩
  refine m_wrongRow h h1 h2 ?_
  have hb := wrS_b A d 2
  rw [show (-1 : Int32) = zI (-1) from rfl, zI_eq (by omega) (by omega) (by omega) (by omega), show (zI (wrS A d 2) < (0 : Int32)) ↔ wrS A d 2 < 0 from zI_lt (b := 0) (by omega) (by omega) (by omega) (by omega)]
  -- a fault: v is 1 or 2
  have bad : ∀ (v : Int32) (x2 : MS), x2 = mI m 6 v → (v = zI 1 ∨ v = zI 2) → v = zI (aElK A d i) → aElK A d i ≠ 0 → ((((x2.1 6) ≤ 0 → (vp_in ((100 * zI d) + zI i) 800 ∧ Q (x2.2.2.1 16 (Int32.toNatClampNeg ((100 * zI d) + zI i))) x2)) ∧ (¬ (x2.1 6) ≤ 0 → Q 0 x2))) := fun v x2 e hv hk hne => by
    obtain ⟨g1, g2⟩ := s6 x2 v e
    rw [g1]
    refine ⟨fun q => ?_, fun _ => hq 0 x2 g2 (g1.trans hk) (fun z => absurd z hne)⟩
    rcases hv with rfl | rfl
    · exact absurd q (by decide)
    · exact absurd q (by decide)
  refine ⟨fun c => ⟨fun c2 x2 e2 => bad 2 x2 e2 (Or.inr rfl) ?_ ?_, fun c2 => ?_⟩, fun c x11 e11 => bad 1 x11 e11 (Or.inl rfl) ?_ ?_⟩
  · unfold aElK
    unfold wrS at c c2
    by_cases z : 0 ≤ d ∧ d ≤ 7
    · rw [if_pos z] at c2 ⊢
      rw [if_neg (by omega)]; rfl
    · rw [if_neg z] at c; exact absurd rfl c
  · unfold aElK
    unfold wrS at c c2
    by_cases z : 0 ≤ d ∧ d ≤ 7
    · rw [if_pos z] at c2 ⊢
      rw [if_neg (by omega)]; decide
    · rw [if_neg z] at c; exact absurd rfl c
  · obtain ⟨hd, hl⟩ := wrS_0 (show 0 ≤ wrS A d 2 by omega)
    have hk : aElK A d i = if 0 ≤ i ∧ i < shN (shG A d) then 0 else 2 := by unfold aElK; rw [if_pos hd, if_pos hl]
    obtain ⟨d, rfl⟩ : ∃ j : Nat, d = j := ⟨d.toNat, by omega⟩
    obtain ⟨hS, ok⟩ := h.2.2 d (by omega)
    have hl' := lkS_0 hl
    rw [show shG A (d : Int) = A.2.2 d from rfl] at hl' hk
    obtain ⟨ht, hn, hE⟩ := hS.2.2 (by omega)
    have hN := ok.2.2.2.2.1
    refine ⟨zI_in (by omega) (by omega) (by omega), ?_⟩
    rw [zI_clN (by omega), hn, zI_s1, lJ_z (a := (shN (A.2.2 d) : Int) - 1) (by omega) (by omega), show (0 : Int64) = lJ 0 from rfl]
    refine s_in h3 h4 (by omega) (by omega) (by omega) (by omega) (fun z => ⟨fun _ x5 e5 => ?_, fun q => absurd q (by decide)⟩) (fun z => ⟨fun q => absurd rfl q, fun _ x7 e7 => bad 2 x7 e7 (Or.inr rfl) ?_ ?_⟩)
    · rw [if_pos (by omega)] at hk
      obtain ⟨g1, g2⟩ := s6 x5 _ e5
      rw [g1]
      refine ⟨fun _ => ?_, fun q => absurd (show (0 : Int32) ≤ 0 by decide) q⟩
      obtain ⟨i, rfl⟩ : ∃ j : Nat, i = j := ⟨i.toNat, by omega⟩
      rw [a100, zI_clN (by omega)]
      refine ⟨zI_in (by omega) (by omega) (by omega), hq _ x5 g2 (g1.trans (by rw [hk]; rfl)) (fun _ => ?_)⟩
      rw [e5]; exact hE i (by omega)
    · rw [hk, if_neg (by omega)]; rfl
    · rw [hk, if_neg (by omega)]; decide
  · unfold aElK
    unfold wrS at c
    by_cases z : 0 ≤ d ∧ d ≤ 7
    · rw [if_pos z] at c
      have := lkS_b (shG A d) 2
      omega
    · rw [if_neg z]; rfl
  · unfold aElK
    unfold wrS at c
    by_cases z : 0 ≤ d ∧ d ≤ 7
    · rw [if_pos z] at c
      have := lkS_b (shG A d) 2
      omega
    · rw [if_neg z]; decide
def tosV (k o : Nat) : Int := if k = 2 ∨ o = 0 then -15 else if k = 4 then 100 + o else if k = 5 then 206 else o
def aToss (A : AS) (d : Int) : Int :=
  if 0 ≤ d ∧ d ≤ 7 then (if lkS (shG A d) 1 = 0 then tosV (shK (shG A d)) (shO (shG A d)) else lkS (shG A d) 1) else -1
theorem y_toss (h : MR m A) {d : Int} (h1 : -2147483648 ≤ d) (h2 : d < 2147483648) {Q : Int32 → MS → Prop} (hq : ∀ x', MR x' A → Q (zI (aToss A d)) x') : wp_X12_toss m (zI d) Q := by
  intro x1 e1
  have h' : MR x1 A := by rw [e1]; exact MR_6 h 0
  have hq := hq x1 h'
  unfold aToss at hq
  refine m_wrongLayer h' h1 h2 ?_
  have hb := wrS_b A d 1
  rw [show (0 : Int32) = zI 0 from rfl, zI_le (by omega) (by omega) (by omega) (by omega)]
  refine ⟨fun c0 => ?_, fun c0 => m_wrongLayer h' h1 h2 ?_⟩
  · obtain ⟨hd, hl⟩ := wrS_0 c0
    rw [if_pos hd, if_pos hl] at hq
    obtain ⟨d, rfl⟩ : ∃ j : Nat, d = j := ⟨d.toNat, by omega⟩
    obtain ⟨hS, ok⟩ := h'.2.2 d (by omega)
    have hl' := lkS_0 hl
    rw [show shG A (d : Int) = A.2.2 d from rfl] at hl' hq
    obtain ⟨hk, ho⟩ := hS.2.1 (by omega)
    have v8 : vp_in (zI (d : Int)) 8 := zI_in (by omega) (by omega) (by omega)
    have k8 := ok.2.1
    have o10 := ok.2.2.1
    unfold tosV at hq
    rw [zI_clN (by omega), hk, ho, show (2 : Int32) = zI 2 from rfl, show (4 : Int32) = zI 4 from rfl, show (5 : Int32) = zI 5 from rfl, zI_eq (a := (shK (A.2.2 d) : Int)) (b := 2) (by omega) (by omega) (by omega) (by omega), zI_eq (a := (shK (A.2.2 d) : Int)) (b := 4) (by omega) (by omega) (by omega) (by omega), zI_eq (a := (shK (A.2.2 d) : Int)) (b := 5) (by omega) (by omega) (by omega) (by omega), zI_eq (a := (shO (A.2.2 d) : Int)) (b := 0) (by omega) (by omega) (by omega) (by omega)]
    refine ⟨v8, v8, fun c => ?_, fun c => ⟨fun c2 => ⟨fun c3 => ⟨fun c4 => ?_, fun c4 => ?_⟩, fun c3 => ?_⟩, fun c2 => ?_⟩⟩
    · rw [if_pos (by omega)] at hq; exact hq
    · rw [if_neg (by omega), if_neg (by omega), if_neg (by omega)] at hq; exact hq
    · rw [if_neg (by omega), if_neg (by omega), if_pos (by omega)] at hq; exact hq
    · rw [if_neg (by omega), if_pos (by omega)] at hq
      rw [show (100 : Int32) = zI 100 from rfl, zI_add]; exact hq
    · rw [if_pos (by omega)] at hq; exact hq
  · have hd : wrS A d 1 < 0 := by omega
    unfold wrS at hd ⊢
    by_cases z3 : 0 ≤ d ∧ d ≤ 7
    · rw [if_pos z3] at hd ⊢
      rw [if_pos z3, if_neg (by omega)] at hq
      exact hq
    · rw [if_neg z3]
      rw [if_neg z3] at hq
      exact hq
end MEL
