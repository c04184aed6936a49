/-! ===== the reference's answers (4): put, kept ===== -/
section MRX
variable {m m' : MS} {A : AS} {L : LK} {S : SH}
theorem m_narrowed {t : Nat} (ht : t ≤ 2) {v : Int} (h1 : -2147483648 ≤ v) (h2 : v < 2147483648) {Q : Int64 → Prop} (hq : Q (lJ (nrw t v))) : wp_X12_narrowed (zI v) (zI t) Q := by
  unfold wp_X12_narrowed
  have hb := nrw_b t h1 h2
  rw [show (0 : Int32) = zI 0 from rfl, show (1 : Int32) = zI 1 from rfl, zI_eq (by omega) (by omega) (by omega) (by omega), zI_eq (by omega) (by omega) (by omega) (by omega), zI_8, zI_16]
  have b8 := nrw_b 0 h1 h2
  have b16 := nrw_b 1 h1 h2
  unfold nrw at hq b8 b16
  simp only [if_true] at b8
  rw [if_neg (by omega), if_pos rfl] at b16
  refine ⟨fun c => ⟨fun c2 => ?_, fun c2 => ?_⟩, fun c => ?_⟩
  · rw [if_neg (by omega), if_neg (by omega)] at hq; rw [lJ_z h1 h2]; exact hq
  · rw [if_neg (by omega), if_pos (by omega)] at hq; rw [lJ_z b16.1 b16.2.1]; exact hq
  · rw [if_pos (by omega)] at hq; rw [lJ_z b8.1 b8.2.1]; exact hq
theorem y_put (h : MR m A) {d i v : Int} (h1 : -2147483648 ≤ d) (h2 : d < 2147483648) (h3 : -2147483648 ≤ i) (h4 : i < 2147483648) (h5 : -2147483648 ≤ v) (h6 : v < 2147483648) {Q : Int32 → MS → Prop} (hq : ∀ x', MR x' (aPut A d i v).2 → Q (zI (aPut A d i v).1) x') : wp_X12_put m (zI d) (zI i) (zI v) Q := by
  intro x1 e1
  have h' : MR x1 A := by rw [e1]; exact MR_6 h 0
  unfold aPut at hq
  refine m_wrongRow h' h1 h2 ?_
  have hb := wrS_b A d 2
  rw [show (0 : Int32) = zI 0 from rfl, zI_le (by omega) (by omega) (by omega) (by omega)]
  refine ⟨fun c0 => ?_, fun c0 => ?_⟩
  · obtain ⟨hd, hl⟩ := wrS_0 c0
    rw [if_pos hd, if_pos hl] at hq
    obtain ⟨d, rfl⟩ : ∃ j : Nat, d = j := ⟨d.toNat, by omega⟩
    obtain ⟨hS, ok⟩ := h'.2.2 d (by omega)
    have hl' := lkS_0 hl
    rw [show shG A (d : Int) = A.2.2 d from rfl] at hl' hq
    obtain ⟨ht, hn, hE⟩ := hS.2.2 (by omega)
    have v8 : vp_in (zI (d : Int)) 8 := zI_in (by omega) (by omega) (by omega)
    have hN := ok.2.2.2.2.1
    refine ⟨v8, ?_⟩
    rw [zI_clN (by omega), hn, zI_s1, lJ_z (a := (shN (A.2.2 d) : Int) - 1) (by omega) (by omega), show (0 : Int64) = lJ 0 from rfl]
    refine s_in h3 h4 (by omega) (by omega) (by omega) (by omega) (fun z => ⟨fun _ => ⟨v8, ?_⟩, fun q => absurd q (by decide)⟩) (fun z => ⟨fun q => absurd rfl q, fun _ => by rw [if_neg (by omega)] at hq; exact hq _ h'⟩)
    rw [if_pos (by omega)] at hq
    obtain ⟨i, rfl⟩ : ∃ j : Nat, i = j := ⟨i.toNat, by omega⟩
    rw [ht]
    refine m_narrowed ok.2.2.2.1 h5 h6 ?_
    rw [a100, zI_clN (by omega)]
    refine ⟨zI_in (by omega) (by omega) (by omega), fun x5 e5 => ?_⟩
    have hE2 : ∀ k, upc (shE (A.2.2 d)) i (nrw (shT (A.2.2 d)) v) k = if k = i then nrw (shT (A.2.2 d)) v else shE (A.2.2 d) k := fun _ => rfl
    refine hq x5 (MR_sh h' (S := (shH (A.2.2 d), shK (A.2.2 d), shO (A.2.2 d), shT (A.2.2 d), shN (A.2.2 d), upc (shE (A.2.2 d)) i (nrw (shT (A.2.2 d)) v))) ⟨by rw [e5]; exact hS.1, fun z => by rw [e5]; exact hS.2.1 z, fun _ => ⟨by rw [e5]; exact ht, by rw [e5]; exact hn, fun k hk => ?_⟩⟩ ⟨ok.1, ok.2.1, ok.2.2.1, ok.2.2.2.1, hN, fun k hk => ?_⟩ (by rw [e5]; exact MSf_J _ (by omega) _))
    · show x5.2.2.1 16 (100 * d + k) = lJ (upc (shE (A.2.2 d)) i (nrw (shT (A.2.2 d)) v) k)
      rw [hE2, e5]
      simp only [mJ, va_up, vp_updL, if_true]
      by_cases e : k = i
      · subst e; simp
      · rw [if_neg (by omega), if_neg e]; exact hE k hk
    · show -2147483648 ≤ upc (shE (A.2.2 d)) i (nrw (shT (A.2.2 d)) v) k ∧ upc (shE (A.2.2 d)) i (nrw (shT (A.2.2 d)) v) k < 2147483648 ∧ (shT (A.2.2 d) = 0 → -128 ≤ upc (shE (A.2.2 d)) i (nrw (shT (A.2.2 d)) v) k ∧ upc (shE (A.2.2 d)) i (nrw (shT (A.2.2 d)) v) k ≤ 127) ∧ (shT (A.2.2 d) = 1 → -32768 ≤ upc (shE (A.2.2 d)) i (nrw (shT (A.2.2 d)) v) k ∧ upc (shE (A.2.2 d)) i (nrw (shT (A.2.2 d)) v) k ≤ 32767)
      rw [hE2]
      by_cases e : k = i
      · simp only [e, if_true]; exact nrw_b _ h5 h6
      · simp only [e, if_false]; exact ok.2.2.2.2.2 k hk
  · have hd : wrS A d 2 < 0 := by omega
    unfold wrS at hd ⊢
    by_cases z3 : 0 ≤ d ∧ d ≤ 7
    · rw [if_pos z3] at hd ⊢
      rw [if_pos z3, if_neg (by omega)] at hq
      exact hq _ h'
    · rw [if_neg z3]
      rw [if_neg z3] at hq
      exact hq _ h'
end MRX
