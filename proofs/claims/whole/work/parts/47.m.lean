/-! ===== the reference's answers (2): frosts, shelves ===== -/
section MRV
variable {m m' : MS} {A : AS} {L : LK} {S : SH}
theorem lkS_0 {p : Int} (h : lkS S p = 0) : (shH S : Int) = p := by
  unfold lkS at h
  split at h
  · omega
  split at h
  · assumption
  · omega
theorem wrS_b (A : AS) (d p : Int) : -12 ≤ wrS A d p ∧ wrS A d p ≤ 0 := by
  unfold wrS
  split
  · have := lkS_b (shG A d) p; omega
  · omega
theorem wrS_0 {A : AS} {d p : Int} (h : 0 ≤ wrS A d p) : (0 ≤ d ∧ d ≤ 7) ∧ lkS (shG A d) p = 0 := by
  unfold wrS at h
  split at h
  · rename_i z
    have := lkS_b (shG A d) p
    exact ⟨z, by omega⟩
  · omega
theorem y_freeze (h : MR m A) {d c f : Int} (h1 : -2147483648 ≤ d) (h2 : d < 2147483648) (h3 : -2147483648 ≤ c) (h4 : c < 2147483648) (h5 : -2147483648 ≤ f) (h6 : f < 2147483648) {Q : Int32 → MS → Prop} (hq : ∀ x', MR x' (aFreeze A d c f).2 → Q (zI (aFreeze A d c f).1) x') : wp_X12_freeze m (zI d) (zI c) (zI f) Q := by
  intro x1 e1
  have h' : MR x1 A := by rw [e1]; exact MR_6 h 0
  unfold aFreeze at hq
  refine s_isCell h3 h4 (fun z => ⟨fun q => absurd q (by decide), fun _ => ?_⟩) (fun z => ⟨fun _ => by rw [if_neg (by omega)] at hq; exact hq _ h', fun q => absurd rfl q⟩)
  rw [show (1 : Int64) = lJ 1 from rfl, show (9 : Int64) = lJ 9 from rfl]
  refine s_in h5 h6 (by omega) (by omega) (by omega) (by omega) (fun z2 => ⟨fun q => absurd q (by decide), fun _ => ?_⟩) (fun z2 => ⟨fun _ => by rw [if_neg (by omega)] at hq; exact hq _ h', fun q => absurd rfl q⟩)
  refine m_wrongLayer h' h1 h2 ?_
  have hb := wrS_b A d 1
  rw [show (0 : Int32) = zI 0 from rfl, zI_le (by omega) (by omega) (by omega) (by omega)]
  refine ⟨fun c0 => ?_, fun c0 => ?_⟩
  · obtain ⟨hd, hl⟩ := wrS_0 c0
    rw [if_pos (by omega), if_pos hl] at hq
    obtain ⟨d, rfl⟩ : ∃ j : Nat, d = j := ⟨d.toNat, by omega⟩
    obtain ⟨c, rfl⟩ : ∃ j : Nat, c = j := ⟨c.toNat, by omega⟩
    obtain ⟨f, rfl⟩ : ∃ j : Nat, f = j := ⟨f.toNat, by omega⟩
    obtain ⟨hS, ok⟩ := h'.2.2 d (by omega)
    have hl' := lkS_0 hl
    rw [show shG A (d : Int) = A.2.2 d from rfl] at hl' hq
    obtain ⟨hk, ho⟩ := hS.2.1 (by omega)
    have v8 : vp_in (zI (d : Int)) 8 := zI_in (by omega) (by omega) (by omega)
    have k8 := ok.2.1
    have o10 := ok.2.2.1
    refine ⟨v8, v8, ?_⟩
    rw [zI_clN (by omega), hk, ho]
    have ok2 := lO_fz h.1.2 (c : Int) (shK (A.2.2 d)) (shO (A.2.2 d)) (f : Int)
    unfold fzL at hq ok2
    rw [if_pos (by omega)] at hq ok2
    simp only [Int.toNat_natCast] at hq ok2
    refine m_freezes h'.1.2 h'.1.1 (by omega) k8 o10 (by omega) (by omega) (fun hn => ⟨fun _ => ?_, fun q => absurd rfl q⟩) (fun x' hn hL hC => ⟨fun q => absurd q (by decide), fun _ => ?_⟩)
    · rw [if_pos hn] at hq; exact hq _ h'
    · rw [if_neg (by omega)] at hq ok2
      have hc := hL.2 c (by omega)
      have e1 : x'.2.1 1 c = zI ((A.1.2.1 c + 1 : Nat) : Int) := by rw [hc.1]; simp [upc]
      refine ⟨c6 (by omega), ?_⟩
      rw [zI_clN (by omega), e1]
      have ei : (8 : Int32) * zI (c : Int) + zI ((A.1.2.1 c + 1 : Nat) : Int) - 1 = zI ((8 * c + A.1.2.1 c : Nat) : Int) := by rw [a8, zI_s1]; exact zI_c (by omega)
      rw [ei, zI_clN (by omega)]
      have e5 := (hc.2 (A.1.2.1 c) (by simp [upc])).2.2.2
      rw [show upc A.1.2.2.2.2.2 c (ups (A.1.2.2.2.2.2 c) (A.1.2.1 c) (thk (shK (A.2.2 d)) (shO (A.2.2 d)) f)) c (A.1.2.1 c) = thk (shK (A.2.2 d)) (shO (A.2.2 d)) f by simp [upc, ups]] at e5
      rw [e5]
      exact ⟨c48 (by omega), hq x' (MR_L h' (MK_C hC) hL ok2)⟩
  · have hd : wrS A d 1 < 0 := by omega
    unfold wrS at hd ⊢
    by_cases z3 : 0 ≤ d ∧ d ≤ 7
    · rw [if_pos z3] at hd ⊢
      rw [if_pos (by omega), if_neg (by omega)] at hq
      exact hq _ h'
    · rw [if_neg z3]
      rw [if_neg (by omega)] at hq
      exact hq _ h'
theorem y_toll (h : MR m A) {d : Int} (h1 : -2147483648 ≤ d) (h2 : d < 2147483648) {Q : Int32 → MS → Prop} (hq : ∀ x', MR x' A → Q (zI (aToll A d)) x') : wp_X12_toll m (zI d) Q := by
  intro x1 e1
  have h' : MR x1 A := by rw [e1]; exact MR_6 h 0
  unfold aToll at hq
  refine m_wrongLayer h' h1 h2 ?_
  have hb := wrS_b A d 1
  rw [show (0 : Int32) = zI 0 from rfl, zI_le (by omega) (by omega) (by omega) (by omega)]
  refine ⟨fun c0 => ?_, fun c0 => m_wrongLayer h' h1 h2 ?_⟩
  · obtain ⟨hd, hl⟩ := wrS_0 c0
    rw [if_pos hd, if_pos hl] at hq
    obtain ⟨d, rfl⟩ : ∃ j : Nat, d = j := ⟨d.toNat, by omega⟩
    obtain ⟨hS, ok⟩ := h'.2.2 d (by omega)
    have hl' := lkS_0 hl
    rw [show shG A (d : Int) = A.2.2 d from rfl] at hl' hq
    obtain ⟨hk, ho⟩ := hS.2.1 (by omega)
    have v8 : vp_in (zI (d : Int)) 8 := zI_in (by omega) (by omega) (by omega)
    refine ⟨v8, v8, ?_⟩
    rw [zI_clN (by omega), hk, ho]
    exact m_toll ok.2.1 (hq _ h')
  · have hd : wrS A d 1 < 0 := by omega
    unfold wrS at hd ⊢
    by_cases z3 : 0 ≤ d ∧ d ≤ 7
    · rw [if_pos z3] at hd ⊢
      rw [if_pos z3, if_neg (by omega)] at hq
      exact hq _ h'
    · rw [if_neg z3]
      rw [if_neg z3] at hq
      exact hq _ h'
end MRV
