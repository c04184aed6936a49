/-! ===== the reference's answers (5): what is told of layers ===== -/
section MRY
variable {m m' : MS} {A : AS} {L : LK} {S : SH}
theorem m_depthOf (ok : lO L) (h : LM m L) {c i : Nat} (hc : c < 6) (hi : i < L.2.1 c) {Q : Int32 → Prop} (hq : Q (zI ((sg (L.2.2.2.2.2 c) (L.2.1 c) : Int) - sg (L.2.2.2.2.2 c) (i + 1)))) : wp_X12_depthOf m (zI c) (zI i) Q := by
  have okc := ok.2 c hc
  have hn := okc.1
  have hC := h.2 c hc
  refine ⟨fun y1 y2 => ∃ j : Nat, i + 1 ≤ j ∧ j ≤ L.2.1 c ∧ y2 = zI j ∧ y1 = zI ((sg (L.2.2.2.2.2 c) j : Int) - sg (L.2.2.2.2.2 c) (i + 1)), fun _ y2 => 1000 - y2.toInt.toNat, ⟨i + 1, by omega, by omega, zI_p1 i, (show zI 0 = _ from zI_c (by omega))⟩, ?_⟩
  rintro y1 y2 ⟨j, h1, hj, rfl, rfl⟩
  refine ⟨c6 hc, ?_⟩
  rw [zI_clN (by omega), hC.1, zI_le (by omega) (by omega) (by omega) (by omega)]
  refine ⟨fun c1 => by rw [show L.2.1 c = j by omega] at hq; exact hq, fun c1 => ?_⟩
  have e := sg_s (L.2.2.2.2.2 c) j
  rw [a8, zI_clN (by omega), (hC.2 j (by omega)).2.2.2, zI_p1, zI_add]
  exact ⟨c48 (by omega), ⟨j + 1, by omega, by omega, rfl, zI_c (by omega)⟩, mux 1000 (by omega) (by omega) (by omega)⟩
theorem m_isRead (ok : lO L) (h : LM m L) {c i : Nat} (hc : c < 6) (hi : i < L.2.1 c) {Q : Int32 → Prop} (hy : rdb (L.2.2.1 c) (L.2.2.2.1 c) (L.2.2.2.2.2 c) (L.2.1 c) i = true → Q (zI 1)) (hn : rdb (L.2.2.1 c) (L.2.2.2.1 c) (L.2.2.2.2.2 c) (L.2.1 c) i = false → Q (zI 0)) : wp_X12_isRead m (zI c) (zI i) Q := by
  have okc := ok.2 c hc
  have hn8 := okc.1
  have hC := h.2 c hc
  obtain ⟨o1, o2, o3, o4, o5⟩ := okc.2 i hi
  obtain ⟨h2, h3, h4, h5⟩ := hC.2 i hi
  refine m_depthOf ok h hc hi ?_
  have v48 := c48 (k := 8 * c + i) (by omega)
  have hm := sgF okc (j := i + 1) (by omega)
  have hl := lite_b (k := L.2.2.1 c i) (o := L.2.2.2.1 c i)
  rw [a8, zI_clN (by omega), h2, h3]
  refine ⟨v48, v48, m_light o1 o2 ?_⟩
  rw [zI_lt (by omega) (by omega) (by omega) (by omega)]
  refine ⟨fun c1 => hn ?_, fun c1 => hy ?_⟩
  · unfold rdb; rw [decide_eq_false_iff_not]; omega
  · unfold rdb; rw [decide_eq_true_eq]; omega
theorem m_isLayer (ok : lO L) (h : LM m L) {c i : Int} (h1 : -2147483648 ≤ c) (h2 : c < 2147483648) (h3 : -2147483648 ≤ i) (h4 : i < 2147483648) {Q : Int32 → Prop} (hy : isC c → (0 ≤ i ∧ i < nL L c) → Q (zI 1)) (hn : ¬ (isC c ∧ 0 ≤ i ∧ i < nL L c) → Q (zI 0)) : wp_X12_isLayer m (zI c) (zI i) Q := by
  refine s_isCell h1 h2 (fun z => ⟨fun q => absurd q (by decide), fun _ => ?_⟩) (fun z => ⟨fun _ => hn (fun q => z q.1), fun q => absurd rfl q⟩)
  refine s_isCell h1 h2 (fun _ => ⟨fun q => absurd q (by decide), fun _ => ?_⟩) (fun z2 => absurd z z2)
  obtain ⟨c, rfl⟩ : ∃ j : Nat, c = j := ⟨c.toNat, by omega⟩
  have hc : c < 6 := by omega
  have okc := (ok.2 c hc).1
  have en : (nL L (c : Int) : Int) = (L.2.1 c : Int) := rfl
  refine ⟨c6 hc, ?_⟩
  rw [zI_clN (by omega), (h.2 c hc).1, zI_s1, lJ_z (a := (L.2.1 c : Int) - 1) (by omega) (by omega), show (0 : Int64) = lJ 0 from rfl]
  refine s_in h3 h4 (by omega) (by omega) (by omega) (by omega) (fun z3 => ⟨fun q => absurd q (by decide), fun _ => hy z ⟨z3.1, by omega⟩⟩) (fun z3 => ⟨fun _ => hn (fun q => z3 ⟨q.2.1, by omega⟩), fun q => absurd rfl q⟩)
theorem y_layer (h : MR m A) {c i w : Int} (h1 : -2147483648 ≤ c) (h2 : c < 2147483648) (h3 : -2147483648 ≤ i) (h4 : i < 2147483648) (h5 : -2147483648 ≤ w) (h6 : w < 2147483648) {Q : Int32 → MS → Prop} (hq : ∀ x', MR x' A → Q (zI (aLayer A c i w)) x') : wp_X12_layer m (zI c) (zI i) (zI w) Q := by
  intro x1 e1
  have h' : MR x1 A := by rw [e1]; exact MR_6 h 0
  have hq := hq x1 h'
  unfold aLayer at hq
  refine m_isLayer h'.1.2 h'.1.1 h1 h2 h3 h4 (fun hc hi => ⟨fun q => absurd q (by decide), fun _ => ?_⟩) (fun z => ⟨fun _ => ?_, fun q => absurd rfl q⟩)
  · rw [if_pos hc, if_pos hi] at hq
    obtain ⟨c, rfl⟩ : ∃ j : Nat, c = j := ⟨c.toNat, by omega⟩
    obtain ⟨i, rfl⟩ : ∃ j : Nat, i = j := ⟨i.toNat, by omega⟩
    have hc6 : c < 6 := by omega
    have en : (nL A.1 (c : Int) : Int) = (A.1.2.1 c : Int) := rfl
    have hi6 : i < A.1.2.1 c := by omega
    have okc := h'.1.2.2 c hc6
    have hn := okc.1
    obtain ⟨e2, e3, e4, e5⟩ := (h'.1.1.2 c hc6).2 i hi6
    have v48 := c48 (k := 8 * c + i) (by omega)
    have hq : Q (zI (tel (A.1.2.2.1 c) (A.1.2.2.2.1 c) (A.1.2.2.2.2.1 c) (A.1.2.2.2.2.2 c) (A.1.2.1 c) i w)) x1 := hq
    unfold tel at hq
    rw [show (0 : Int64) = lJ 0 from rfl, show (5 : Int64) = lJ 5 from rfl, a8, zI_clN (by omega), e2, e3, e4, e5]
    have el : ∀ k : Int, -2147483648 ≤ k → k < 2147483648 → (zI w = zI k ↔ w = k) := fun k a b => zI_eq h5 h6 a b
    refine s_in h5 h6 (by omega) (by omega) (by omega) (by omega) (fun z => ⟨fun _ => ?_, fun q => absurd q (by decide)⟩) (fun z => ⟨fun q => absurd rfl q, fun _ => ?_⟩)
    · rw [show (zI w = (0 : Int32)) ↔ w = 0 from el 0 (by omega) (by omega), show (zI w = (1 : Int32)) ↔ w = 1 from el 1 (by omega) (by omega), show (zI w = (2 : Int32)) ↔ w = 2 from el 2 (by omega) (by omega), show (zI w = (3 : Int32)) ↔ w = 3 from el 3 (by omega) (by omega), show (zI w = (4 : Int32)) ↔ w = 4 from el 4 (by omega) (by omega)]
      refine ⟨fun d => ?_, fun d0 => ⟨fun d => ?_, fun d1 => ⟨fun d => ?_, fun d2 => ⟨fun d => ?_, fun d3 => ⟨fun d => ?_, fun d4 => ?_⟩⟩⟩⟩⟩
      · rw [if_pos d] at hq; exact ⟨v48, hq⟩
      · rw [if_neg d0, if_pos d] at hq; exact ⟨v48, hq⟩
      · rw [if_neg d0, if_neg d1, if_pos d] at hq; exact ⟨v48, hq⟩
      · rw [if_neg d0, if_neg d1, if_neg d2, if_pos d] at hq; exact ⟨v48, hq⟩
      · rw [if_neg d0, if_neg d1, if_neg d2, if_neg d3, if_pos d] at hq
        exact m_depthOf h'.1.2 h'.1.1 hc6 hi6 hq
      · rw [if_neg d0, if_neg d1, if_neg d2, if_neg d3, if_neg d4, if_pos (by omega)] at hq
        refine m_isRead h'.1.2 h'.1.1 hc6 hi6 (fun hr => ⟨fun q => absurd q (by decide), fun _ => ?_⟩) (fun hr => ⟨fun _ => ?_, fun q => absurd rfl q⟩)
        · rw [hr] at hq; exact hq
        · rw [hr] at hq; exact hq
    · rw [if_neg (by omega), if_neg (by omega), if_neg (by omega), if_neg (by omega), if_neg (by omega), if_neg (by omega)] at hq; exact hq
  · by_cases hc : isC c
    · rw [if_pos hc, if_neg (fun q => z ⟨hc, q⟩)] at hq; exact hq
    · rw [if_neg hc] at hq; exact hq
theorem y_cell (h : MR m A) {c w : Int} (h1 : -2147483648 ≤ c) (h2 : c < 2147483648) (h5 : -2147483648 ≤ w) (h6 : w < 2147483648) {Q : Int32 → MS → Prop} (hq : ∀ x', MR x' A → Q (zI (aCell A c w)) x') : wp_X12_cell m (zI c) (zI w) Q := by
  intro x1 e1
  have h' : MR x1 A := by rw [e1]; exact MR_6 h 0
  have hq := hq x1 h'
  unfold aCell at hq
  refine s_isCell h1 h2 (fun z => ⟨fun q => absurd q (by decide), fun _ => ?_⟩) (fun z => ⟨fun _ => by rw [if_neg z] at hq; exact hq, fun q => absurd rfl q⟩)
  rw [if_pos z] at hq
  rw [show (0 : Int64) = lJ 0 from rfl, show (1 : Int64) = lJ 1 from rfl]
  refine s_in h5 h6 (by omega) (by omega) (by omega) (by omega) (fun z2 => ⟨fun _ => ?_, fun q => absurd q (by decide)⟩) (fun z2 => ⟨fun q => absurd rfl q, fun _ => by rw [if_neg (by omega), if_neg (by omega)] at hq; exact hq⟩)
  obtain ⟨c, rfl⟩ : ∃ j : Nat, c = j := ⟨c.toNat, by omega⟩
  have hc6 : c < 6 := by omega
  rw [show (0 : Int32) = zI 0 from rfl, zI_eq h5 h6 (by omega) (by omega)]
  refine ⟨fun c1 => ?_, fun c1 => ⟨c6 hc6, ?_⟩⟩
  · rw [if_neg c1, if_pos (by omega)] at hq
    exact m_iceOf h'.1.2 h'.1.1 hc6 hq
  · rw [if_pos c1] at hq; rw [zI_clN (by omega), (h'.1.1.2 c hc6).1]; exact hq
theorem y_holds (h : MR m A) {c : Int} (h1 : -2147483648 ≤ c) (h2 : c < 2147483648) {Q : Int32 → MS → Prop} (hq : ∀ x', MR x' A → Q (zI (aHolds A c)) x') : wp_X12_holds m (zI c) Q := by
  intro x1 e1
  have h' : MR x1 A := by rw [e1]; exact MR_6 h 0
  have hq := hq x1 h'
  unfold aHolds at hq
  refine s_isCell h1 h2 (fun z => ⟨fun _ => ?_, fun q => absurd q (by decide)⟩) (fun z => ⟨fun q => absurd rfl q, fun _ => by rw [if_neg z] at hq; exact hq⟩)
  rw [if_pos z] at hq
  obtain ⟨c, rfl⟩ : ∃ j : Nat, c = j := ⟨c.toNat, by omega⟩
  have hc6 : c < 6 := by omega
  have hC := h'.1.1.2 c hc6
  have hn := (h'.1.2.2 c hc6).1
  have hq : Q (zI (match topR (rdb (A.1.2.2.1 c) (A.1.2.2.2.1 c) (A.1.2.2.2.2.2 c) (A.1.2.1 c)) (A.1.2.1 c) with | none => -4 | some i => (A.1.2.2.2.1 c i : Int))) x1 := hq
  refine ⟨c6 hc6, ?_⟩
  rw [zI_clN (by omega), hC.1, zI_s1]
  refine ⟨fun y => ∃ j : Nat, j ≤ A.1.2.1 c ∧ y = zI ((j : Int) - 1) ∧ topR (rdb (A.1.2.2.1 c) (A.1.2.2.2.1 c) (A.1.2.2.2.2.2 c) (A.1.2.1 c)) (A.1.2.1 c) = topR (rdb (A.1.2.2.1 c) (A.1.2.2.2.1 c) (A.1.2.2.2.2.2 c) (A.1.2.1 c)) j, fun y => (y.toInt + 1).toNat, ⟨A.1.2.1 c, Nat.le_refl _, rfl, rfl⟩, ?_⟩
  rintro y ⟨j, hj, rfl, ht⟩
  rw [ht] at hq
  rw [show (0 : Int32) = zI 0 from rfl, zI_lt (by omega) (by omega) (by omega) (by omega)]
  refine ⟨fun c1 => ?_, fun c1 => ?_⟩
  · have e : j = 0 := by omega
    subst e; exact hq
  obtain ⟨k, rfl⟩ : ∃ k, j = k + 1 := ⟨j - 1, by omega⟩
  rw [show zI (((k + 1 : Nat) : Int) - 1) = zI (k : Int) from zI_c (by omega)]
  obtain ⟨e2, e3, e4, e5⟩ := hC.2 k (by omega)
  refine m_isRead h'.1.2 h'.1.1 hc6 (by omega) (fun hr => ⟨fun q => absurd q (by decide), fun _ => ?_⟩) (fun hr => ⟨fun _ => ⟨⟨k, by omega, zI_m1 k, ?_⟩, mdn (by omega) (by omega)⟩, fun q => absurd rfl q⟩)
  · rw [a8, zI_clN (by omega), e3]
    refine ⟨c48 (by omega), ?_⟩
    simpa [topR, hr] using hq
  · rw [ht]; simp [topR, hr]
theorem m_lastsOf (ok : lO L) (h : LM m L) {c i : Nat} (hc : c < 6) (hi : i ≤ L.2.1 c) {Q : Int32 → Prop} (hq : Q (zI ((sg (dys (L.2.2.1 c) (L.2.2.2.1 c) (L.2.2.2.2.2 c)) (L.2.1 c) : Int) - sg (dys (L.2.2.1 c) (L.2.2.2.1 c) (L.2.2.2.2.2 c)) i))) : wp_X12_lastsOf m (zI c) (zI i) Q := by
  have okc := ok.2 c hc
  have hn := okc.1
  have hC := h.2 c hc
  refine ⟨fun y1 y2 => ∃ j : Nat, i ≤ j ∧ j ≤ L.2.1 c ∧ y2 = zI j ∧ y1 = zI ((sg (dys (L.2.2.1 c) (L.2.2.2.1 c) (L.2.2.2.2.2 c)) j : Int) - sg (dys (L.2.2.1 c) (L.2.2.2.1 c) (L.2.2.2.2.2 c)) i), fun _ y2 => 1000 - y2.toInt.toNat, ⟨i, by omega, hi, rfl, (show zI 0 = _ from zI_c (by omega))⟩, ?_⟩
  rintro y1 y2 ⟨j, h1, hj, rfl, rfl⟩
  refine ⟨c6 hc, ?_⟩
  rw [zI_clN (by omega), hC.1, zI_le (by omega) (by omega) (by omega) (by omega)]
  refine ⟨fun c1 => by rw [show L.2.1 c = j by omega] at hq; exact hq, fun c1 => ?_⟩
  obtain ⟨e2, e3, e4, e5⟩ := hC.2 j (by omega)
  obtain ⟨o1, o2, o3, o4, o5⟩ := okc.2 j (by omega)
  have hm := melt_b (k := L.2.2.1 c j) o2
  have v48 := c48 (k := 8 * c + j) (by omega)
  have e := sg_s (dys (L.2.2.1 c) (L.2.2.2.1 c) (L.2.2.2.2.2 c)) j
  rw [a8, zI_clN (by omega), e2, e3, e5]
  refine ⟨v48, v48, m_melts o1 ⟨v48, fun z => absurd ((zI_eq (b := 0) (by omega) (by omega) (by omega) (by omega)).mp z) (by omega), ?_⟩⟩
  have ed : (zI (L.2.2.2.2.2 c j : Int) + zI (melt (L.2.2.1 c j) (L.2.2.2.1 c j) : Int) - 1) / zI (melt (L.2.2.1 c j) (L.2.2.2.1 c j) : Int) = zI (dys (L.2.2.1 c) (L.2.2.2.1 c) (L.2.2.2.2.2 c) j : Int) := by
    rw [zI_add, show (1 : Int32) = zI 1 from rfl, zI_sub, show (L.2.2.2.2.2 c j : Int) + (melt (L.2.2.1 c j) (L.2.2.2.1 c j) : Int) - 1 = ((L.2.2.2.2.2 c j + melt (L.2.2.1 c j) (L.2.2.2.1 c j) - 1 : Nat) : Int) by omega]
    exact zI_div (by omega) (by omega) (by omega)
  rw [ed, zI_p1, zI_add]
  exact ⟨⟨j + 1, by omega, by omega, rfl, zI_c (by omega)⟩, mux 1000 (by omega) (by omega) (by omega)⟩
theorem y_lasts (h : MR m A) {c i : Int} (h1 : -2147483648 ≤ c) (h2 : c < 2147483648) (h3 : -2147483648 ≤ i) (h4 : i < 2147483648) {Q : Int32 → MS → Prop} (hq : ∀ x', MR x' A → Q (zI (aLasts A c i)) x') : wp_X12_lasts m (zI c) (zI i) Q := by
  intro x1 e1
  have h' : MR x1 A := by rw [e1]; exact MR_6 h 0
  have hq := hq x1 h'
  unfold aLasts at hq
  refine m_isLayer h'.1.2 h'.1.1 h1 h2 h3 h4 (fun hc hi => ⟨fun q => absurd q (by decide), fun _ => ?_⟩) (fun z => ⟨fun _ => ?_, fun q => absurd rfl q⟩)
  · rw [if_pos hc, if_pos hi] at hq
    obtain ⟨c, rfl⟩ : ∃ j : Nat, c = j := ⟨c.toNat, by omega⟩
    obtain ⟨i, rfl⟩ : ∃ j : Nat, i = j := ⟨i.toNat, by omega⟩
    have en : (nL A.1 (c : Int) : Int) = (A.1.2.1 c : Int) := rfl
    exact m_lastsOf h'.1.2 h'.1.1 (by omega) (by omega) hq
  · by_cases hc : isC c
    · rw [if_pos hc, if_neg (fun q => z ⟨hc, q⟩)] at hq; exact hq
    · rw [if_neg hc] at hq; exact hq
theorem y_frost (h : MR m A) {k o d : Int} (h1 : -2147483648 ≤ k) (h2 : k < 2147483648) (h3 : -2147483648 ≤ o) (h4 : o < 2147483648) (h5 : -2147483648 ≤ d) (h6 : d < 2147483648) {Q : Int32 → MS → Prop} (hq : ∀ x', MR x' A → Q (zI (aFrost k o d)) x') : wp_X12_frost m (zI k) (zI o) (zI d) Q := by
  intro x1 e1
  have h' : MR x1 A := by rw [e1]; exact MR_6 h 0
  have hq := hq x1 h'
  unfold aFrost at hq
  rw [show (0 : Int64) = lJ 0 from rfl, show (7 : Int64) = lJ 7 from rfl, show (9 : Int64) = lJ 9 from rfl, show (1 : Int64) = lJ 1 from rfl, show (99 : Int64) = lJ 99 from rfl]
  refine s_in h1 h2 (by omega) (by omega) (by omega) (by omega) (fun z => ⟨fun q => absurd q (by decide), fun _ => ?_⟩) (fun z => ⟨fun _ => by rw [if_neg (by omega)] at hq; exact hq, fun q => absurd rfl q⟩)
  refine s_in h3 h4 (by omega) (by omega) (by omega) (by omega) (fun z2 => ⟨fun q => absurd q (by decide), fun _ => ?_⟩) (fun z2 => ⟨fun _ => by rw [if_neg (by omega)] at hq; exact hq, fun q => absurd rfl q⟩)
  refine s_in h5 h6 (by omega) (by omega) (by omega) (by omega) (fun z3 => ⟨fun _ => ?_, fun q => absurd q (by decide)⟩) (fun z3 => ⟨fun q => absurd rfl q, fun _ => by rw [if_neg (by omega)] at hq; exact hq⟩)
  rw [if_pos (by omega)] at hq
  obtain ⟨k, rfl⟩ : ∃ j : Nat, k = j := ⟨k.toNat, by omega⟩
  obtain ⟨o, rfl⟩ : ∃ j : Nat, o = j := ⟨o.toNat, by omega⟩
  obtain ⟨d, rfl⟩ : ∃ j : Nat, d = j := ⟨d.toNat, by omega⟩
  simp only [Int.toNat_natCast] at hq
  refine ⟨fun y => ∃ f r : Nat, 1 ≤ f ∧ f + r = 10 ∧ y = zI f ∧ frS k o d 9 1 = frS k o d r f, fun y => 1000 - y.toInt.toNat, ⟨1, 9, by omega, by omega, rfl, rfl⟩, ?_⟩
  rintro y ⟨f, r, hf1, hfr, rfl, he⟩
  rw [he] at hq
  rw [show (10 : Int32) = zI 10 from rfl, zI_le (by omega) (by omega) (by omega) (by omega)]
  refine ⟨fun c => ?_, fun c => ?_⟩
  · have e : r = 0 := by omega
    subst e; exact hq
  · obtain ⟨r, rfl⟩ : ∃ j, r = j + 1 := ⟨r - 1, by omega⟩
    refine m_thick (by omega) hf1 (by omega) (m_melts (by omega) ?_)
    have hb := thk_b (k := k) (o := o) (f := f) (by omega) hf1 (by omega)
    have hm := melt_b (k := k) (o := o) (by omega)
    have hmul : d * melt k o ≤ 99 * 12 := Nat.mul_le_mul (by omega) (by omega)
    have em : zI (d : Int) * zI (melt k o : Int) = zI ((d * melt k o : Nat) : Int) := by rw [zI_mul]; exact zI_c (by simp)
    rw [em, zI_le (by omega) (by omega) (by omega) (by omega), zI_p1]
    have ef : frS k o d (r + 1) f = if thk k o f ≤ d * melt k o then frS k o d r (f + 1) else (f : Nat) := rfl
    refine ⟨fun c2 => ⟨⟨f + 1, r, by omega, by omega, rfl, ?_⟩, mux 1000 (by omega) (by omega) (by omega)⟩, fun c2 => ?_⟩
    · rw [he, ef, if_pos (by omega)]
    · rw [ef, if_neg (by omega)] at hq; exact hq
theorem m_layerAt (ok : lO L) (h : LM m L) {c d : Nat} (hc : c < 6) (hd : d ≤ 1000) {Q : Int32 → Prop} (hq : Q (zI (oI (layB (L.2.2.2.2.2 c) (L.2.1 c) d)))) : wp_X12_layerAt m (zI c) (zI d) Q := by
  have okc := ok.2 c hc
  have hn := okc.1
  have hC := h.2 c hc
  refine ⟨c6 hc, ?_⟩
  rw [zI_clN (by omega), hC.1, zI_s1]
  refine ⟨fun y1 y2 => ∃ j l : Nat, j ≤ L.2.1 c ∧ l ≤ d ∧ y1 = zI l ∧ y2 = zI ((j : Int) - 1) ∧ layB (L.2.2.2.2.2 c) (L.2.1 c) d = layB (L.2.2.2.2.2 c) j l, fun _ y2 => (y2.toInt + 1).toNat, ⟨L.2.1 c, d, Nat.le_refl _, Nat.le_refl _, rfl, rfl, rfl⟩, ?_⟩
  rintro y1 y2 ⟨j, l, hj, hl, rfl, rfl, he⟩
  rw [he] at hq
  rw [show (0 : Int32) = zI 0 from rfl, zI_lt (by omega) (by omega) (by omega) (by omega)]
  refine ⟨fun c1 => ?_, fun c1 => ?_⟩
  · have e : j = 0 := by omega
    subst e; exact hq
  obtain ⟨k, rfl⟩ : ∃ k, j = k + 1 := ⟨j - 1, by omega⟩
  rw [show zI (((k + 1 : Nat) : Int) - 1) = zI (k : Int) from zI_c (by omega)]
  obtain ⟨e2, e3, e4, e5⟩ := hC.2 k (by omega)
  obtain ⟨o1, o2, o3, o4, o5⟩ := okc.2 k (by omega)
  have v48 := c48 (k := 8 * c + k) (by omega)
  have el : layB (L.2.2.2.2.2 c) (k + 1) l = if l < L.2.2.2.2.2 c k then some k else layB (L.2.2.2.2.2 c) k (l - L.2.2.2.2.2 c k) := rfl
  rw [a8, zI_clN (by omega), e5, zI_le (by omega) (by omega) (by omega) (by omega)]
  refine ⟨v48, fun c2 => ⟨v48, ⟨k, l - L.2.2.2.2.2 c k, by omega, by omega, ?_, zI_m1 k, ?_⟩, mdn (by omega) (by omega)⟩, fun c2 => ?_⟩
  · rw [zI_sub]; exact zI_c (by omega)
  · rw [he, el, if_neg (by omega)]
  · rw [el, if_pos (by omega)] at hq; exact hq
theorem y_spans (h : MR m A) {c d : Int} (h1 : -2147483648 ≤ c) (h2 : c < 2147483648) (h3 : -2147483648 ≤ d) (h4 : d < 2147483648) {Q : Int32 → MS → Prop} (hq : ∀ x', MR x' A → Q (zI (aSpans A c d)) x') : wp_X12_spans m (zI c) (zI d) Q := by
  intro x1 e1
  have h' : MR x1 A := by rw [e1]; exact MR_6 h 0
  have hq := hq x1 h'
  unfold aSpans at hq
  refine s_isCell h1 h2 (fun z => ⟨fun q => absurd q (by decide), fun _ => ?_⟩) (fun z => ⟨fun _ => by rw [if_neg (fun q => z q.1)] at hq; exact hq, fun q => absurd rfl q⟩)
  rw [show (0 : Int64) = lJ 0 from rfl, show (98 : Int64) = lJ 98 from rfl]
  refine s_in h3 h4 (by omega) (by omega) (by omega) (by omega) (fun z2 => ⟨fun _ => ?_, fun q => absurd q (by decide)⟩) (fun z2 => ⟨fun q => absurd rfl q, fun _ => by rw [if_neg (fun q => z2 q.2)] at hq; exact hq⟩)
  rw [if_pos ⟨z, z2⟩] at hq
  obtain ⟨c, rfl⟩ : ∃ j : Nat, c = j := ⟨c.toNat, by omega⟩
  obtain ⟨d, rfl⟩ : ∃ j : Nat, d = j := ⟨d.toNat, by omega⟩
  have hc6 : c < 6 := by omega
  have hn := (h'.1.2.2 c hc6).1
  have hq : Q (zI (match layB (A.1.2.2.2.2.2 c) (A.1.2.1 c) d with | none => -4 | some i => (A.1.2.2.2.2.1 c i : Int))) x1 := hq
  refine m_layerAt h'.1.2 h'.1.1 hc6 (by omega) ?_
  cases hl : layB (A.1.2.2.2.2.2 c) (A.1.2.1 c) d with
  | none => rw [hl] at hq; exact ⟨fun q => absurd q (by decide), fun _ => hq⟩
  | some i =>
    rw [hl] at hq
    have hi := layB_lt _ _ _ _ hl
    have hp : (0 : Int32) ≤ zI (oI (some i)) := by
      show zI 0 ≤ zI (i : Int)
      rw [zI_le (by omega) (by omega) (by omega) (by omega)]; omega
    refine ⟨fun _ => ?_, fun q => absurd hp q⟩
    rw [show zI (oI (some i)) = zI (i : Int) from rfl, a8, zI_clN (by omega), ((h'.1.1.2 c hc6).2 i hi).2.2.1]
    exact ⟨c48 (by omega), hq⟩
theorem y_joined (h : MR m A) {c e : Int} (h1 : -2147483648 ≤ c) (h2 : c < 2147483648) (h3 : -2147483648 ≤ e) (h4 : e < 2147483648) {Q : Int32 → MS → Prop} (hq : ∀ x', MR x' A → Q (zI (aJoined A c e)) x') : wp_X12_joined m (zI c) (zI e) Q := by
  intro x1 e1
  have h' : MR x1 A := by rw [e1]; exact MR_6 h 0
  have hq := hq x1 h'
  unfold aJoined at hq
  refine s_isCell h1 h2 (fun z => ⟨fun q => absurd q (by decide), fun _ => ?_⟩) (fun z => ⟨fun _ => by rw [if_neg (fun q => z q.1)] at hq; exact hq, fun q => absurd rfl q⟩)
  refine s_isCell h3 h4 (fun z2 => ⟨fun q => absurd q (by decide), fun _ => ?_⟩) (fun z2 => ⟨fun _ => by rw [if_neg (fun q => z2 q.2.1)] at hq; exact hq, fun q => absurd rfl q⟩)
  rw [zI_eq h1 h2 h3 h4]
  refine ⟨fun z3 => ?_, fun z3 => by rw [if_neg (fun q => q.2.2 z3)] at hq; exact hq⟩
  rw [if_pos ⟨z, z2, z3⟩] at hq
  obtain ⟨c, rfl⟩ : ∃ j : Nat, c = j := ⟨c.toNat, by omega⟩
  obtain ⟨e, rfl⟩ : ∃ j : Nat, e = j := ⟨e.toNat, by omega⟩
  have hc6 : c < 6 := by omega
  have he6 : e < 6 := by omega
  have okc := h'.1.2.2 c hc6
  have oke := h'.1.2.2 e he6
  have hC := h'.1.1.2 c hc6
  have hE := h'.1.1.2 e he6
  have hnc := okc.1
  have hne := oke.1
  have sc := (sgF okc (Nat.le_refl _)).2
  rw [show (0 : Int32) = zI ((0 : Nat) : Int) from rfl]
  refine m_layerAt h'.1.2 h'.1.1 hc6 (by omega) (m_layerAt h'.1.2 h'.1.1 he6 (by omega) ?_)
  refine ⟨fun y6 y7 y8 => ∃ d r : Nat, d + r = 161 ∧ y6 = zI d ∧ y7 = zI (oI (layB (A.1.2.2.2.2.2 c) (A.1.2.1 c) d)) ∧ y8 = zI (oI (layB (A.1.2.2.2.2.2 e) (A.1.2.1 e) d)) ∧ jnS A.1 (c : Int) (e : Int) 161 0 = jnS A.1 (c : Int) (e : Int) r d, fun y6 _ _ => 1000 - y6.toInt.toNat, ⟨0, 161, by omega, rfl, rfl, rfl, rfl⟩, ?_⟩
  rintro y6 y7 y8 ⟨d, r, hd, rfl, rfl, rfl, hj⟩
  rw [hj] at hq
  cases hlc : layB (A.1.2.2.2.2.2 c) (A.1.2.1 c) d with
  | none =>
    rw [jn_stop (L := A.1) (c := (c : Int)) (e := (e : Int)) (r := r) (d := d) (Or.inl hlc)] at hq
    exact ⟨fun _ => hq, fun q => absurd (show zI (oI none) < zI ((0 : Nat) : Int) by decide) q⟩
  | some i =>
    have hi := layB_lt _ _ _ _ hlc
    have n1 : ¬ zI (i : Int) < zI ((0 : Nat) : Int) := by rw [zI_lt (by omega) (by omega) (by omega) (by omega)]; omega
    cases hle : layB (A.1.2.2.2.2.2 e) (A.1.2.1 e) d with
    | none =>
      rw [jn_stop (L := A.1) (c := (c : Int)) (e := (e : Int)) (r := r) (d := d) (Or.inr (Or.inl hle))] at hq
      exact ⟨fun _ => hq, fun _ => ⟨fun _ => hq, fun q => absurd (show zI (oI none) < zI ((0 : Nat) : Int) by decide) q⟩⟩
    | some k =>
      have hk := layB_lt _ _ _ _ hle
      have n2 : ¬ zI (k : Int) < zI ((0 : Nat) : Int) := by rw [zI_lt (by omega) (by omega) (by omega) (by omega)]; omega
      have o1 := (okc.2 i hi).2.1
      have o2 := (oke.2 k hk).2.1
      rw [show zI (oI (some i)) = zI (i : Int) from rfl, show zI (oI (some k)) = zI (k : Int) from rfl]
      refine ⟨fun q => absurd q n1, fun _ => ⟨fun q => absurd q n2, fun _ => ?_⟩⟩
      rw [a8 (c := c) (i := i), a8 (c := e) (i := k), zI_clN (a := 8 * c + i) (by omega), zI_clN (a := 8 * e + k) (by omega), (hC.2 i hi).2.1, (hE.2 k hk).2.1, zI_eq (by omega) (by omega) (by omega) (by omega)]
      refine ⟨c48 (by omega), c48 (by omega), fun c3 => ?_, fun c3 => ?_⟩
      · rw [jn_stop (L := A.1) (c := (c : Int)) (e := (e : Int)) (r := r) (d := d) (Or.inr (Or.inr ⟨i, k, hlc, hle, fun q => c3 (congrArg (fun n : Nat => (n : Int)) q)⟩))] at hq; exact hq
      · have hr : r ≠ 0 := by
          rintro rfl
          have := layB_no (A.1.2.2.2.2.2 c) (A.1.2.1 c) d (by omega)
          rw [this] at hlc; exact absurd hlc (by simp)
        obtain ⟨r, rfl⟩ : ∃ j, r = j + 1 := ⟨r - 1, by omega⟩
        have c3 : oL A.1 (c : Int) i = oL A.1 (e : Int) k := by
          show A.1.2.2.2.1 c i = A.1.2.2.2.1 e k
          omega
        rw [zI_p1]
        refine m_layerAt h'.1.2 h'.1.1 hc6 (by omega) (m_layerAt h'.1.2 h'.1.1 he6 (by omega) ⟨⟨d + 1, r, by omega, rfl, rfl, rfl, ?_⟩, mux 1000 (by omega) (by omega) (by omega)⟩)
        rw [hj]
        conv => lhs; unfold jnS
        rw [show layB (fL A.1 (c : Int)) (nL A.1 (c : Int)) d = some i from hlc, show layB (fL A.1 (e : Int)) (nL A.1 (e : Int)) d = some k from hle]
        simp only []
        rw [if_pos c3]
end MRY
