/-! ===== the reference's answers (1) ===== -/
section MRU
variable {m m' : MS} {A : AS} {L : LK} {S : SH}
theorem y_cut (h : MR m A) {c f : Int} (h1 : -2147483648 ≤ c) (h2 : c < 2147483648) (h3 : -2147483648 ≤ f) (h4 : f < 2147483648) {Q : Int32 → MS → Prop} (hq : ∀ x', MR x' (aCut A c f).2 → Q (zI (aCut A c f).1) x') : wp_X12_cut m (zI c) (zI f) Q := by
  rintro x1 rfl
  have h' := MR_6 h 0
  unfold aCut cuL at hq
  refine s_isCell h1 h2 (fun z => ⟨fun q => absurd q (by decide), fun _ => ?_⟩) (fun z => ⟨fun _ => by rw [if_neg (by omega)] at hq; exact hq _ h', fun q => absurd rfl q⟩)
  rw [show (1 : Int64) = lJ 1 from rfl, show (99 : Int64) = lJ 99 from rfl]
  refine s_in h3 h4 (by omega) (by omega) (by omega) (by omega) (fun z2 => ⟨fun q => absurd q (by decide), fun _ => ?_⟩) (fun z2 => ⟨fun _ => by rw [if_neg (by omega)] at hq; exact hq _ h', fun q => absurd rfl q⟩)
  rw [if_pos (by omega)] at hq
  obtain ⟨c, rfl⟩ : ∃ j : Nat, c = j := ⟨c.toNat, by omega⟩
  obtain ⟨f, rfl⟩ : ∃ j : Nat, f = j := ⟨f.toNat, by omega⟩
  have ok2 := lO_cu h.1.2 (c : Int) (f : Int)
  unfold cuL at ok2
  rw [if_pos (by omega)] at ok2
  refine m_cuts h'.1.2 h'.1.1 (by omega) (by omega) (fun x' hL hC => hq x' (MR_L h' (MK_C hC) hL ok2))
theorem y_winter (h : MR m A) {Q : Int32 → MS → Prop} (hq : ∀ x', MR x' (aWinter A).2 → Q (zI (aWinter A).1) x') : wp_X12_winter m Q := by
  rintro x1 rfl
  have h' := MR_6 h 0
  have hw := h.1.2.1
  have e0 : (mI m 6 0).1 0 = zI (A.1.1 : Int) := h'.1.1.1
  rw [e0, show (99 : Int32) = zI 99 from rfl, zI_eq (by omega) (by omega) (by omega) (by omega)]
  have ok2 := lO_wi h.1.2
  unfold aWinter at hq
  unfold wiL at hq ok2
  refine ⟨fun c x2 e2 => ?_, fun c => by rw [if_pos (by omega)] at hq; exact hq _ h'⟩
  rw [if_neg (by omega)] at hq ok2
  have e1 : x2.1 0 = zI ((A.1.1 : Int) + 1) := by rw [e2, zI_p1]; simp only [mI, if_true]; exact zI_c (by omega)
  rw [e1]
  refine hq x2 (MR_L h' (by rw [e2]; exact MK_I _ (by omega) _) ⟨by rw [e1]; exact zI_c (by show _ = ((A.1.1 + 1 : Nat) : Int); omega), fun c hc => ?_⟩ ok2)
  rw [e2]; exact h'.1.1.2 c hc
theorem LM_drift (h : LM m L) (hR : RW m m' (fun p => (p + 5) % 6)) (ok : lO L) : LM m' (drL L).2 := by
  obtain ⟨r1, r2, r3, r4, r5⟩ := hR
  refine ⟨by rw [r1]; exact h.1, fun c hc => ⟨by rw [r4 c hc]; exact (h.2 ((c + 5) % 6) (by omega)).1, fun i hi => ?_⟩⟩
  have hn := (ok.2 ((c + 5) % 6) (by omega)).1
  have hi' : i < L.2.1 ((c + 5) % 6) := hi
  obtain ⟨a1, a2, a3, a4⟩ := (h.2 ((c + 5) % 6) (by omega)).2 i hi'
  exact ⟨(r5 2 (by omega) (by omega) c hc i (by omega)).trans a1, (r5 3 (by omega) (by omega) c hc i (by omega)).trans a2, (r5 4 (by omega) (by omega) c hc i (by omega)).trans a3, (r5 5 (by omega) (by omega) c hc i (by omega)).trans a4⟩
theorem MK_R {σ : Nat → Nat} (hR : RW m m' σ) : MK m m' := ⟨by rw [hR.1], hR.2.1 7 (by omega), fun t _ _ => hR.2.1 t (by omega), by rw [hR.2.2.1]⟩
theorem y_drift (h : MR m A) {Q : Int32 → MS → Prop} (hq : ∀ x', MR x' (aDrift A).2 → Q (zI (aDrift A).1) x') : wp_X12_drift m Q := by
  rintro x1 rfl
  have h' := MR_6 h 0
  refine m_drifts (fun x2 hR => ⟨show vp_in (zI ((0 : Nat) : Int)) 6 from c6 (by omega), ?_⟩)
  have hL := LM_drift h'.1.1 hR h.1.2
  rw [show x2.2.1 1 (Int32.toNatClampNeg 0) = zI ((A.1.2.1 5 : Nat) : Int) from (hL.2 0 (by omega)).1]
  exact hq x2 (MR_L h' (MK_R hR) hL (lO_dr h.1.2))
theorem sg_two (f h k : Nat → Nat) : ∀ n, (∀ c, c < n → k c ≤ h c ∧ h c ≤ f c) → sg (fun c => f c - h c) n + sg (fun c => h c - k c) n = sg (fun c => f c - k c) n
  | 0, _ => rfl
  | n + 1, hh => by
    have := sg_two f h k n (fun c hc => hh c (by omega))
    have := hh n (by omega)
    rw [sg_s, sg_s, sg_s]; omega
theorem y_thaw (h : MR m A) {d : Int} (h1 : -2147483648 ≤ d) (h2 : d < 2147483648) {Q : Int32 → MS → Prop} (hq : ∀ x', MR x' (aThaw A d).2 → Q (zI (aThaw A d).1) x') : wp_X12_thaw m (zI d) Q := by
  rintro x1 rfl
  have h' := MR_6 h 0
  have ok := h.1.2
  unfold aThaw at hq
  have ok2 := lO_th ok d
  unfold thL at hq ok2
  rw [show (1 : Int64) = lJ 1 from rfl, show (99 : Int64) = lJ 99 from rfl]
  refine s_in h1 h2 (by omega) (by omega) (by omega) (by omega) (fun z => ⟨fun _ => ?_, fun q => absurd q (by decide)⟩) (fun z => ⟨fun q => absurd rfl q, fun _ => by rw [if_neg (by omega)] at hq; exact hq _ h'⟩)
  rw [if_pos z] at hq ok2
  obtain ⟨d, rfl⟩ : ∃ j : Nat, d = j := ⟨d.toNat, by omega⟩
  simp only [Int.toNat_natCast] at hq ok2
  have hs : ∀ e, sg (fun c => A.1.2.1 c - thN A.1.2.1 A.1.2.2.1 A.1.2.2.2.1 A.1.2.2.2.2.2 e c) 6 ≤ 48 := fun e => by
    have h1 := sg_sub_le A.1.2.1 (thN A.1.2.1 A.1.2.2.1 A.1.2.2.2.1 A.1.2.2.2.2.2 e) 6
    have h2 : sg A.1.2.1 6 ≤ 6 * 8 := sg_le (fun i hi => (ok.2 i hi).1)
    omega
  refine ⟨fun y3 y4 x5 => ∃ e : Nat, e ≤ d ∧ y4 = zI e ∧ y3 = zI ((sg (fun c => A.1.2.1 c - thN A.1.2.1 A.1.2.2.1 A.1.2.2.2.1 A.1.2.2.2.2.2 e c) 6 : Nat) : Int) ∧ LM x5 (A.1.1, thN A.1.2.1 A.1.2.2.1 A.1.2.2.2.1 A.1.2.2.2.2.2 e, A.1.2.2.1, A.1.2.2.2.1, A.1.2.2.2.2.1, thF A.1.2.1 A.1.2.2.1 A.1.2.2.2.1 A.1.2.2.2.2.2 e) ∧ MK m x5, fun _ y4 _ => 1000 - y4.toInt.toNat, ⟨0, by omega, rfl, ?_, h'.1.1, MK_I m (by omega) 0⟩, ?_⟩
  · show zI 0 = _
    refine zI_c ?_
    have : sg (fun c => A.1.2.1 c - thN A.1.2.1 A.1.2.2.1 A.1.2.2.2.1 A.1.2.2.2.2.2 0 c) 6 ≤ 6 * 0 := sg_le (fun i _ => by show A.1.2.1 i - A.1.2.1 i ≤ 0; omega)
    omega
  rintro y3 y4 x5 ⟨e, he, rfl, rfl, hL, hK⟩
  rw [zI_le (by omega) (by omega) (by omega) (by omega)]
  refine ⟨fun c => ?_, fun c => ?_⟩
  · have ee : e = d := by omega
    subst ee
    exact hq x5 (MR_L h hK hL ok2)
  · refine m_warmDay (lOK_th ok e) hL (fun x6 hL6 hF => ?_)
    rw [zI_p1, zI_add]
    refine ⟨⟨e + 1, by omega, rfl, ?_, hL6, MK_tr hK (MK_F hF)⟩, mux 1000 (by omega) (by omega) (by omega)⟩
    have h2 := sg_two A.1.2.1 (thN A.1.2.1 A.1.2.2.1 A.1.2.2.2.1 A.1.2.2.2.2.2 e) (thN A.1.2.1 A.1.2.2.1 A.1.2.2.2.1 A.1.2.2.2.2.2 (e + 1)) 6 (fun c hc => ⟨wrm_le _ _ _ _, wri_le _ _ _ e⟩)
    exact zI_c (by rw [← h2]; exact (Int.natCast_add _ _).symm)
/-- what is wrong with shelf d, of which p is asked -/
def wrS (A : AS) (d p : Int) : Int := if 0 ≤ d ∧ d ≤ 7 then lkS (shG A d) p else -1
theorem m_wrongLayer (h : MR m A) {d : Int} (h1 : -2147483648 ≤ d) (h2 : d < 2147483648) {Q : Int32 → Prop} (hq : Q (zI (wrS A d 1))) : wp_X12_wrongLayer m (zI d) Q := by
  unfold wrS lkS at hq
  unfold wp_X12_wrongLayer
  rw [show (0 : Int64) = lJ 0 from rfl, show (7 : Int64) = lJ 7 from rfl]
  refine s_in h1 h2 (by omega) (by omega) (by omega) (by omega) (fun z => ⟨fun _ => ?_, fun q => absurd q (by decide)⟩) (fun z => ⟨fun q => absurd rfl q, fun _ => by rw [if_neg (by omega)] at hq; exact hq⟩)
  obtain ⟨d, rfl⟩ : ∃ j : Nat, d = j := ⟨d.toNat, by omega⟩
  obtain ⟨hS, ok⟩ := h.2.2 d (by omega)
  have v8 : vp_in (zI (d : Int)) 8 := zI_in (by omega) (by omega) (by omega)
  have hH := ok.1
  rw [if_pos z, show shG A (d : Int) = A.2.2 d from rfl] at hq
  refine ⟨v8, ?_⟩
  rw [zI_clN (by omega), hS.1, show (0 : Int32) = zI 0 from rfl, show (1 : Int32) = zI 1 from rfl, zI_eq (by omega) (by omega) (by omega) (by omega), zI_eq (by omega) (by omega) (by omega) (by omega)]
  refine ⟨fun c => ⟨v8, fun c2 => ?_, fun c2 => ?_⟩, fun c => ?_⟩
  · rw [if_neg (by omega), if_pos (by omega)] at hq; exact hq
  · rw [if_neg (by omega), if_neg (by omega)] at hq; exact hq
  · rw [if_pos (by omega)] at hq; exact hq
theorem m_wrongRow (h : MR m A) {d : Int} (h1 : -2147483648 ≤ d) (h2 : d < 2147483648) {Q : Int32 → Prop} (hq : Q (zI (wrS A d 2))) : wp_X12_wrongRow m (zI d) Q := by
  unfold wrS lkS at hq
  unfold wp_X12_wrongRow
  rw [show (0 : Int64) = lJ 0 from rfl, show (7 : Int64) = lJ 7 from rfl]
  refine s_in h1 h2 (by omega) (by omega) (by omega) (by omega) (fun z => ⟨fun _ => ?_, fun q => absurd q (by decide)⟩) (fun z => ⟨fun q => absurd rfl q, fun _ => by rw [if_neg (by omega)] at hq; exact hq⟩)
  obtain ⟨d, rfl⟩ : ∃ j : Nat, d = j := ⟨d.toNat, by omega⟩
  obtain ⟨hS, ok⟩ := h.2.2 d (by omega)
  have v8 : vp_in (zI (d : Int)) 8 := zI_in (by omega) (by omega) (by omega)
  have hH := ok.1
  rw [if_pos z, show shG A (d : Int) = A.2.2 d from rfl] at hq
  refine ⟨v8, ?_⟩
  rw [zI_clN (by omega), hS.1, show (0 : Int32) = zI 0 from rfl, show (2 : Int32) = zI 2 from rfl, zI_eq (by omega) (by omega) (by omega) (by omega), zI_eq (by omega) (by omega) (by omega) (by omega)]
  refine ⟨fun c => ⟨v8, fun c2 => ?_, fun c2 => ?_⟩, fun c => ?_⟩
  · rw [if_neg (by omega), if_pos (by omega)] at hq; exact hq
  · rw [if_neg (by omega), if_neg (by omega)] at hq; exact hq
  · rw [if_pos (by omega)] at hq; exact hq
end MRU
