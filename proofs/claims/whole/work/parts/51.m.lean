/-! ===== the reference's answers (6): latest, where, thin, disorder ===== -/
section MRZ
variable {m m' : MS} {A : AS} {L : LK} {S : SH}
theorem zI_or0 (k : Nat) : zI (k : Int) ||| 0 = zI (k : Int) := by rw [show (0 : Int32) = zI ((0 : Nat) : Int) from rfl, zI_or, Nat.or_zero]
theorem zI_k1 (k : Nat) : zI (((k + 1 : Nat) : Int) - 1) = zI (k : Int) := zI_c (by omega)
theorem y_latest (h : MR m A) {o : Int} (h1 : -2147483648 ≤ o) (h2 : o < 2147483648) {Q : Int32 → MS → Prop} (hq : ∀ x', MR x' A → Q (zI (aLatest A o)) x') : wp_X12_latest m (zI o) Q := by
  intro x1 e1
  have h' : MR x1 A := by rw [e1]; exact MR_6 h 0
  have hq := hq x1 h'
  unfold aLatest at hq
  rw [show (0 : Int64) = lJ 0 from rfl, show (9 : Int64) = lJ 9 from rfl]
  refine s_in h1 h2 (by omega) (by omega) (by omega) (by omega) (fun z => ⟨fun _ => ?_, fun q => absurd q (by decide)⟩) (fun z => ⟨fun q => absurd rfl q, fun _ => by rw [if_neg z] at hq; exact hq⟩)
  rw [if_pos z] at hq
  obtain ⟨o, rfl⟩ : ∃ j : Nat, o = j := ⟨o.toNat, by omega⟩
  simp only [Int.toNat_natCast] at hq
  have ok := h'.1.2
  refine ⟨fun y3 y4 y5 => ∃ c : Nat, c ≤ 6 ∧ y5 = zI c ∧ y3 = zI (ltL A.1.2.1 A.1.2.2.2.1 A.1.2.2.2.2.1 o c).1 ∧ y4 = zI (ltL A.1.2.1 A.1.2.2.2.1 A.1.2.2.2.2.1 o c).2, fun _ _ y5 => 1000 - y5.toInt.toNat, ⟨0, by omega, rfl, rfl, rfl⟩, ?_⟩
  rintro y3 y4 y5 ⟨c, hc, rfl, rfl, rfl⟩
  rw [show (6 : Int32) = zI 6 from rfl, zI_le (by omega) (by omega) (by omega) (by omega)]
  refine ⟨fun z6 => ?_, fun z6 => ?_⟩
  · have e : c = 6 := by omega
    subst e; exact hq
  have hc6 : c < 6 := by omega
  have okc := ok.2 c hc6
  have hC := h'.1.1.2 c hc6
  have hn := okc.1
  refine ⟨c6 hc6, ?_⟩
  rw [zI_clN (by omega), hC.1, zI_s1, zI_p1]
  refine ⟨fun y6 y7 y8 => ∃ (j : Nat) (p : Int × Int), j ≤ A.1.2.1 c ∧ ltb p ∧ y8 = zI ((j : Int) - 1) ∧ y6 = zI p.1 ∧ y7 = zI p.2 ∧ ltI (A.1.2.2.2.1 c) (A.1.2.2.2.2.1 c) o c j p = ltL A.1.2.1 A.1.2.2.2.1 A.1.2.2.2.2.1 o (c + 1), fun _ _ y8 => (y8.toInt + 1).toNat, ⟨A.1.2.1 c, ltL A.1.2.1 A.1.2.2.2.1 A.1.2.2.2.2.1 o c, Nat.le_refl _, ltL_b ok o c (by omega), rfl, rfl, rfl, rfl⟩, ?_⟩
  rintro y6 y7 y8 ⟨j, p, hj, hp, rfl, rfl, rfl, he⟩
  have hp' := hp
  unfold ltb at hp'
  rw [show (0 : Int32) = zI 0 from rfl, zI_lt (by omega) (by omega) (by omega) (by omega)]
  refine ⟨fun z2 => ?_, fun z2 => ?_⟩
  · have e : j = 0 := by omega
    subst e
    exact ⟨⟨c + 1, by omega, rfl, by rw [← he]; rfl, by rw [← he]; rfl⟩, mux 1000 (by omega) (by omega) (by omega)⟩
  obtain ⟨k, rfl⟩ : ∃ k, j = k + 1 := ⟨j - 1, by omega⟩
  have okk := okc.2 k (by omega)
  rw [zI_k1]
  obtain ⟨e2, e3, e4, e5⟩ := hC.2 k (by omega)
  have v48 := c48 (k := 8 * c + k) (by omega)
  have stay : ¬ (A.1.2.2.2.1 c k = o ∧ p.2 < A.1.2.2.2.2.1 c k) → (∃ (j : Nat) (p2 : Int × Int), j ≤ A.1.2.1 c ∧ ltb p2 ∧ zI (k : Int) + -1 = zI ((j : Int) - 1) ∧ zI p.1 = zI p2.1 ∧ zI p.2 = zI p2.2 ∧ ltI (A.1.2.2.2.1 c) (A.1.2.2.2.2.1 c) o c j p2 = ltL A.1.2.1 A.1.2.2.2.1 A.1.2.2.2.2.1 o (c + 1)) := fun hz => ⟨k, p, by omega, hp, zI_m1 k, rfl, rfl, by rw [← he]; simp only [ltI]; rw [if_neg hz]⟩
  rw [a8, zI_clN (by omega), e3, e4, zI_eq (by omega) (by omega) (by omega) (by omega), zI_le (by omega) (by omega) (by omega) (by omega)]
  refine ⟨v48, fun z3 => ⟨stay (fun y => z3 (by omega)), mdn (by omega) (by omega)⟩, fun z3 => ⟨v48, fun z4 => ⟨stay (fun y => by omega), mdn (by omega) (by omega)⟩, fun z4 => ⟨v48, ⟨k, (10 * (c : Int) + k, (A.1.2.2.2.2.1 c k : Int)), by omega, ⟨by simp only; omega, by simp only; omega, by simp only; omega, by simp only; omega⟩, zI_m1 k, ?_, rfl, ?_⟩, mdn (by omega) (by omega)⟩⟩⟩
  · rw [show (10 : Int32) = zI 10 from rfl, zI_mul, zI_add]
  · rw [← he]; simp only [ltI]; rw [if_pos ⟨by omega, by omega⟩]
theorem y_where (h : MR m A) {o d : Int} (h1 : -2147483648 ≤ o) (h2 : o < 2147483648) (h3 : -2147483648 ≤ d) (h4 : d < 2147483648) {Q : Int32 → MS → Prop} (hq : ∀ x', MR x' A → Q (zI (aWhere A o d)) x') : wp_X12_where m (zI o) (zI d) Q := by
  intro x1 e1
  have h' : MR x1 A := by rw [e1]; exact MR_6 h 0
  have hq := hq x1 h'
  unfold aWhere at hq
  rw [show (0 : Int64) = lJ 0 from rfl, show (9 : Int64) = lJ 9 from rfl, show (99 : Int64) = lJ 99 from rfl]
  refine s_in h1 h2 (by omega) (by omega) (by omega) (by omega) (fun z => ⟨fun q => absurd q (by decide), fun _ => ?_⟩) (fun z => ⟨fun _ => by rw [if_neg (by omega)] at hq; exact hq, fun q => absurd rfl q⟩)
  refine s_in h3 h4 (by omega) (by omega) (by omega) (by omega) (fun z2 => ⟨fun _ => ?_, fun q => absurd q (by decide)⟩) (fun z2 => ⟨fun q => absurd rfl q, fun _ => by rw [if_neg (by omega)] at hq; exact hq⟩)
  rw [if_pos (by omega)] at hq
  obtain ⟨o, rfl⟩ : ∃ j : Nat, o = j := ⟨o.toNat, by omega⟩
  obtain ⟨d, rfl⟩ : ∃ j : Nat, d = j := ⟨d.toNat, by omega⟩
  simp only [Int.toNat_natCast] at hq
  have ok := h'.1.2
  refine ⟨fun y4 y5 => ∃ c k : Nat, c ≤ 6 ∧ y5 = zI c ∧ y4 = zI k ∧ Msk k (fun a => a < c ∧ kpo A.1.2.1 A.1.2.2.1 A.1.2.2.2.1 A.1.2.2.2.2.2 o d a), fun _ y5 => 1000 - y5.toInt.toNat, ⟨0, 0, by omega, rfl, rfl, Msk_iff Msk_0 (fun o => ⟨fun z => z.elim, fun ⟨h1, _⟩ => absurd h1 (by omega)⟩)⟩, ?_⟩
  rintro y4 y5 ⟨c, k0, hc, rfl, rfl, hm⟩
  rw [show (6 : Int32) = zI 6 from rfl, zI_le (by omega) (by omega) (by omega) (by omega)]
  refine ⟨fun z6 => ?_, fun z6 => ?_⟩
  · have e : c = 6 := by omega
    subst e
    have ek : k0 = mskO (kpo A.1.2.1 A.1.2.2.1 A.1.2.2.2.1 A.1.2.2.2.2.2 o d) 6 := mskO_is hm
    rw [ek]; exact hq
  have hc6 : c < 6 := by omega
  have okc := ok.2 c hc6
  have hC := h'.1.1.2 c hc6
  have hn := okc.1
  rw [zI_p1 c]
  refine ⟨fun y6 y7 => ∃ j k : Nat, j ≤ A.1.2.1 c ∧ y7 = zI j ∧ y6 = zI k ∧ Msk k (fun a => (a < c ∧ kpo A.1.2.1 A.1.2.2.1 A.1.2.2.2.1 A.1.2.2.2.2.2 o d a) ∨ (a = c ∧ ∃ i, i < j ∧ A.1.2.2.2.1 c i = o ∧ d < sg (dys (A.1.2.2.1 c) (A.1.2.2.2.1 c) (A.1.2.2.2.2.2 c)) (A.1.2.1 c) - sg (dys (A.1.2.2.1 c) (A.1.2.2.2.1 c) (A.1.2.2.2.2.2 c)) i)), fun _ y7 => 1000 - y7.toInt.toNat, ⟨0, k0, by omega, rfl, rfl, Msk_iff hm (fun a => ⟨fun z => Or.inl z, fun z => z.elim id (fun ⟨_, i, hi, _⟩ => absurd hi (by omega))⟩)⟩, ?_⟩
  rintro y6 y7 ⟨j, k, hj, rfl, rfl, hk⟩
  refine ⟨c6 hc6, ?_⟩
  rw [zI_clN (by omega), hC.1, zI_le (by omega) (by omega) (by omega) (by omega), zI_p1 j]
  refine ⟨fun z7 => ?_, fun z7 => ?_⟩
  · have e : j = A.1.2.1 c := by omega
    refine ⟨⟨c + 1, k, by omega, rfl, rfl, Msk_iff hk (fun a => ⟨?_, fun ⟨g1, g2⟩ => ?_⟩)⟩, mux 1000 (by omega) (by omega) (by omega)⟩
    · rintro (⟨g1, g2⟩ | ⟨g1, i, g2, g3⟩)
      · exact ⟨by omega, g2⟩
      · rw [g1]; exact ⟨by omega, i, by omega, g3⟩
    · by_cases ea : a = c
      · rw [ea] at g2
        obtain ⟨i, g3, g4⟩ := g2
        exact Or.inr ⟨ea, i, by omega, g4⟩
      · exact Or.inl ⟨by omega, g2⟩
  obtain ⟨e2, e3, e4, e5⟩ := hC.2 j (by omega)
  have o2 := (okc.2 j (by omega)).2.1
  have v48 := c48 (k := 8 * c + j) (by omega)
  have hs := sgD okc (j := j) (by omega)
  have no : ¬ (A.1.2.2.2.1 c j = o ∧ d < sg (dys (A.1.2.2.1 c) (A.1.2.2.2.1 c) (A.1.2.2.2.2.2 c)) (A.1.2.1 c) - sg (dys (A.1.2.2.1 c) (A.1.2.2.2.1 c) (A.1.2.2.2.2.2 c)) j) → Msk k (fun a => (a < c ∧ kpo A.1.2.1 A.1.2.2.1 A.1.2.2.2.1 A.1.2.2.2.2.2 o d a) ∨ (a = c ∧ ∃ i, i < j + 1 ∧ A.1.2.2.2.1 c i = o ∧ d < sg (dys (A.1.2.2.1 c) (A.1.2.2.2.1 c) (A.1.2.2.2.2.2 c)) (A.1.2.1 c) - sg (dys (A.1.2.2.1 c) (A.1.2.2.2.1 c) (A.1.2.2.2.2.2 c)) i)) := fun hz => Msk_iff hk (fun a => ⟨fun z => z.elim Or.inl (fun ⟨g1, i, g2, g3⟩ => Or.inr ⟨g1, i, by omega, g3⟩), fun z => z.elim Or.inl (fun ⟨g1, i, g2, g3⟩ => Or.inr ⟨g1, i, by
      by_cases ei : i = j
      · subst ei; exact absurd g3 hz
      · omega, g3⟩)⟩)
  rw [a8, zI_clN (by omega), e3, zI_or0, zI_eq (by omega) (by omega) (by omega) (by omega)]
  refine ⟨v48, fun z3 => ⟨⟨j + 1, k, by omega, rfl, rfl, no (fun q => z3 (by omega))⟩, mux 1000 (by omega) (by omega) (by omega)⟩, fun z3 => m_lastsOf ok h'.1.1 hc6 (by omega) ?_⟩
  rw [zI_le (by omega) (by omega) (by omega) (by omega)]
  refine ⟨fun z4 => ⟨⟨j + 1, k, by omega, rfl, rfl, no (fun q => by omega)⟩, mux 1000 (by omega) (by omega) (by omega)⟩, fun z4 => ?_⟩
  rw [zI_shl (by omega), zI_or]
  refine ⟨⟨j + 1, _, by omega, rfl, rfl, Msk_iff (Msk_or hk) (fun a => ⟨?_, ?_⟩)⟩, mux 1000 (by omega) (by omega) (by omega)⟩
  · rintro ((g | ⟨g1, i, g2, g3⟩) | g)
    · exact Or.inl g
    · exact Or.inr ⟨g1, i, by omega, g3⟩
    · exact Or.inr ⟨g, j, by omega, by omega, by omega⟩
  · rintro (g | ⟨g1, i, g2, g3⟩)
    · exact Or.inl (Or.inl g)
    · exact Or.inr g1
theorem m_lowestOf (ok : lO L) (h : LM m L) {c w : Nat} (hc : c < 6) (hw : w ≤ 99) {Q : Int32 → Prop} (hq : Q (zI (lowF (L.2.2.2.2.1 c) (L.2.2.2.2.2 c) w 0 (L.2.1 c)))) : wp_X12_lowestOf m (zI c) (zI w) Q := by
  have okc := ok.2 c hc
  have hn := okc.1
  have hC := h.2 c hc
  refine ⟨c6 hc, ?_⟩
  rw [zI_clN (by omega), hC.1, zI_s1]
  refine ⟨fun y1 y2 => ∃ j : Nat, j ≤ L.2.1 c ∧ y2 = zI ((j : Int) - 1) ∧ y1 = zI (lowF (L.2.2.2.2.1 c) (L.2.2.2.2.2 c) w j (L.2.1 c - j)), fun _ y2 => (y2.toInt + 1).toNat, ⟨L.2.1 c, Nat.le_refl _, rfl, by rw [Nat.sub_self]; rfl⟩, ?_⟩
  rintro y1 y2 ⟨j, hj, rfl, rfl⟩
  rw [show (0 : Int32) = zI 0 from rfl, zI_lt (by omega) (by omega) (by omega) (by omega)]
  refine ⟨fun c1 => ?_, fun c1 => ?_⟩
  · have e : j = 0 := by omega
    subst e; exact hq
  obtain ⟨k, rfl⟩ : ∃ k, j = k + 1 := ⟨j - 1, by omega⟩
  rw [zI_k1]
  obtain ⟨e2, e3, e4, e5⟩ := hC.2 k (by omega)
  have okk := okc.2 k (by omega)
  have v48 := c48 (k := 8 * c + k) (by omega)
  have el : lowF (L.2.2.2.2.1 c) (L.2.2.2.2.2 c) w k (L.2.1 c - k) = if L.2.2.2.2.1 c k = w then L.2.2.2.2.2 c k else lowF (L.2.2.2.2.1 c) (L.2.2.2.2.2 c) w (k + 1) (L.2.1 c - (k + 1)) := by
    rw [show L.2.1 c - k = (L.2.1 c - (k + 1)) + 1 by omega]; rfl
  rw [a8, zI_clN (by omega), e4, e5, zI_eq (by omega) (by omega) (by omega) (by omega)]
  refine ⟨v48, fun c2 => ⟨⟨k, by omega, zI_m1 k, ?_⟩, mdn (by omega) (by omega)⟩, fun c2 => ⟨v48, ⟨k, by omega, zI_m1 k, ?_⟩, mdn (by omega) (by omega)⟩⟩
  · rw [el, if_neg (by omega)]
  · rw [el, if_pos (by omega)]
theorem m_isThin (ok : lO L) (h : LM m L) {c i : Nat} (hc : c < 6) (hi : i < L.2.1 c) {Q : Int32 → Prop} (hy : thb L.2.1 L.2.2.2.2.1 L.2.2.2.2.2 c i = true → Q (zI 1)) (hn : thb L.2.1 L.2.2.2.2.1 L.2.2.2.2.2 c i = false → Q (zI 0)) : wp_X12_isThin m (zI c) (zI i) Q := by
  have okc := ok.2 c hc
  have hn8 := okc.1
  obtain ⟨e2, e3, e4, e5⟩ := (h.2 c hc).2 i hi
  have oki := okc.2 i hi
  have v48 := c48 (k := 8 * c + i) (by omega)
  have m1 : (c + 1) % 6 < 6 := Nat.mod_lt _ (by omega)
  have m5 : (c + 5) % 6 < 6 := Nat.mod_lt _ (by omega)
  unfold wp_X12_isThin
  have e6 : zI (c : Int) + 5 = zI ((c + 5 : Nat) : Int) := by rw [show (5 : Int32) = zI 5 from rfl, zI_add]; exact zI_c (by omega)
  rw [e6, zI_p1, zI_rem6 (by omega), zI_rem6 (by omega), a8, zI_clN (by omega), e4, e5, show (2 : Int32) = zI 2 from rfl, zI_add]
  have b5 := lowF_b (n := L.2.1 ((c + 5) % 6)) (W := L.2.2.2.2.1 ((c + 5) % 6)) (F := L.2.2.2.2.2 ((c + 5) % 6)) (w := L.2.2.2.2.1 c i) (fun i hi => ((ok.2 _ m5).2 i hi).2.2.2.2) (L.2.1 ((c + 5) % 6)) 0 (by omega)
  have b1 := lowF_b (n := L.2.1 ((c + 1) % 6)) (W := L.2.2.2.2.1 ((c + 1) % 6)) (F := L.2.2.2.2.2 ((c + 1) % 6)) (w := L.2.2.2.2.1 c i) (fun i hi => ((ok.2 _ m1).2 i hi).2.2.2.2) (L.2.1 ((c + 1) % 6)) 0 (by omega)
  refine ⟨v48, v48, m_lowestOf ok h m1 oki.2.2.1 ?_⟩
  rw [zI_lt (by omega) (by omega) (by omega) (by omega)]
  refine ⟨fun z => hn ?_, fun z => m_lowestOf ok h m5 oki.2.2.1 ?_⟩
  · unfold thb; rw [decide_eq_false_iff_not]; omega
  · rw [zI_lt (by omega) (by omega) (by omega) (by omega)]
    refine ⟨fun z2 => hn ?_, fun z2 => hy ?_⟩
    · unfold thb; rw [decide_eq_false_iff_not]; omega
    · unfold thb; rw [decide_eq_true_eq]; omega
/-- the first of them from layer j of cell c on -/
def fthR (p : Nat → Nat → Bool) (N : Nat → Nat) (c j k : Nat) : Int := match fthC (p c) c j k with
  | some r => r
  | none => fthL p N (c + 1) (5 - c)
theorem fthR_some {p : Nat → Nat → Bool} {N : Nat → Nat} {c j k : Nat} (h : p c j = true) : fthR p N c j (k + 1) = 10 * (c : Int) + j := by simp [fthR, fthC, h]
theorem fthR_next {p : Nat → Nat → Bool} {N : Nat → Nat} {c j k : Nat} (h : p c j = false) : fthR p N c j (k + 1) = fthR p N c (j + 1) k := by simp [fthR, fthC, h]
theorem fthR_end {p : Nat → Nat → Bool} {N : Nat → Nat} {c j : Nat} : fthR p N c j 0 = fthL p N (c + 1) (5 - c) := rfl
theorem fthL_R {p : Nat → Nat → Bool} {N : Nat → Nat} {c : Nat} (hc : c < 6) : fthL p N c (6 - c) = fthR p N c 0 (N c) := by
  rw [show 6 - c = (5 - c) + 1 by omega]; rfl
def thc (p : Nat → Nat → Bool) (N : Nat → Nat) (c : Nat) : Nat := sg (fun c => sg (cnt (p c)) (N c)) c
theorem y_thin (h : MR m A) {w : Int} (h1 : -2147483648 ≤ w) (h2 : w < 2147483648) {Q : Int32 → MS → Prop} (hq : ∀ x', MR x' A → Q (zI (aThin A w)) x') : wp_X12_thin m (zI w) Q := by
  intro x1 e1
  have h' : MR x1 A := by rw [e1]; exact MR_6 h 0
  have hq := hq x1 h'
  unfold aThin at hq
  rw [show (0 : Int64) = lJ 0 from rfl, show (1 : Int64) = lJ 1 from rfl]
  refine s_in h1 h2 (by omega) (by omega) (by omega) (by omega) (fun z => ⟨fun _ => ?_, fun q => absurd q (by decide)⟩) (fun z => ⟨fun q => absurd rfl q, fun _ => by rw [if_neg (by omega), if_neg (by omega)] at hq; exact hq⟩)
  have ok := h'.1.2
  generalize hp : thb A.1.2.1 A.1.2.2.2.2.1 A.1.2.2.2.2.2 = p at hq
  have hcb : ∀ c, c ≤ 6 → thc p A.1.2.1 c ≤ c * 8 := fun c hc => sg_le (fun i hi => Nat.le_trans (sg_cnt _ _) (ok.2 i (by omega)).1)
  have hq : Q (zI (if w = 0 then ((thc p A.1.2.1 6 : Nat) : Int) else if w = 1 then fthL p A.1.2.1 0 6 else -1)) x1 := hq
  refine ⟨fun y3 y4 y5 => ∃ (c : Nat) (r : Int), c ≤ 6 ∧ y5 = zI c ∧ y3 = zI (thc p A.1.2.1 c : Nat) ∧ y4 = zI r ∧ (thc p A.1.2.1 c = 0 → r = -4 ∧ fthL p A.1.2.1 0 6 = fthL p A.1.2.1 c (6 - c)) ∧ (thc p A.1.2.1 c ≠ 0 → r = fthL p A.1.2.1 0 6), fun _ _ y5 => 1000 - y5.toInt.toNat, ⟨0, -4, by omega, rfl, rfl, rfl, fun _ => ⟨rfl, rfl⟩, fun q => absurd rfl q⟩, ?_⟩
  rintro y3 y4 y5 ⟨c, r, hc, rfl, rfl, rfl, g1, g2⟩
  rw [show (6 : Int32) = zI 6 from rfl, zI_le (by omega) (by omega) (by omega) (by omega), show (0 : Int32) = zI 0 from rfl, zI_eq (a := w) h1 h2 (by omega) (by omega)]
  refine ⟨fun z6 => ?_, fun z6 => ?_⟩
  · have e : c = 6 := by omega
    subst e
    refine ⟨fun z2 => ?_, fun z2 => ?_⟩
    · rw [if_neg z2, if_pos (by omega)] at hq
      have er : r = fthL p A.1.2.1 0 6 := by
        by_cases z3 : thc p A.1.2.1 6 = 0
        · obtain ⟨a1, a2⟩ := g1 z3
          rw [a2, a1]; rfl
        · exact g2 z3
      rw [er]; exact hq
    · rw [if_pos z2] at hq; exact hq
  have hc6 : c < 6 := by omega
  have okc := ok.2 c hc6
  have hC := h'.1.1.2 c hc6
  have hn := okc.1
  have hb := hcb c (by omega)
  have s0 : sg (cnt (p c)) 0 = 0 := rfl
  rw [zI_p1 c]
  refine ⟨fun y7 y8 y9 => ∃ (j : Nat) (r : Int), j ≤ A.1.2.1 c ∧ y9 = zI j ∧ y7 = zI ((thc p A.1.2.1 c + sg (cnt (p c)) j : Nat) : Int) ∧ y8 = zI r ∧ (thc p A.1.2.1 c + sg (cnt (p c)) j = 0 → r = -4 ∧ fthL p A.1.2.1 0 6 = fthR p A.1.2.1 c j (A.1.2.1 c - j)) ∧ (thc p A.1.2.1 c + sg (cnt (p c)) j ≠ 0 → r = fthL p A.1.2.1 0 6), fun _ _ y9 => 1000 - y9.toInt.toNat, ⟨0, r, by omega, rfl, rfl, rfl, fun q => ⟨(g1 (by omega)).1, (g1 (by omega)).2.trans (fthL_R hc6)⟩, fun q => g2 (by omega)⟩, ?_⟩
  rintro y7 y8 y9 ⟨j, r, hj, rfl, rfl, rfl, g3, g4⟩
  refine ⟨c6 hc6, ?_⟩
  rw [zI_clN (by omega), hC.1, zI_le (by omega) (by omega) (by omega) (by omega), zI_p1 j]
  have e := sg_s (cnt (p c)) j
  have hjc : sg (cnt (p c)) j ≤ j := sg_cnt _ _
  refine ⟨fun z2 => ?_, fun z2 => ?_⟩
  · have ej : j = A.1.2.1 c := by omega
    have ec : thc p A.1.2.1 (c + 1) = thc p A.1.2.1 c + sg (cnt (p c)) j := by rw [ej]; rfl
    refine ⟨⟨c + 1, r, by omega, rfl, by rw [ec], rfl, fun q => ⟨(g3 (by omega)).1, ?_⟩, fun q => g4 (by omega)⟩, mux 1000 (by omega) (by omega) (by omega)⟩
    rw [(g3 (by omega)).2, show A.1.2.1 c - j = 0 by omega, fthR_end, show 6 - (c + 1) = 5 - c by omega]
  have es : A.1.2.1 c - j = (A.1.2.1 c - (j + 1)) + 1 := by omega
  rw [zI_eq (by omega) (by omega) (by omega) (by omega)]
  refine m_isThin ok h'.1.1 hc6 (by omega) (fun hr => ?_) (fun hr => ?_)
  · rw [hp] at hr
    have e1 : cnt (p c) j = 1 := by simp [cnt, hr]
    refine ⟨fun q => absurd q (by decide), fun _ => ⟨fun z3 => ⟨fun q => absurd q (by decide), fun _ => ⟨⟨j + 1, r, by omega, rfl, ?_, rfl, fun q => absurd q (by omega), fun _ => g4 (by omega)⟩, mux 1000 (by omega) (by omega) (by omega)⟩⟩, fun z3 => ⟨fun q => absurd q (by decide), fun _ => ⟨⟨j + 1, 10 * (c : Int) + j, by omega, rfl, ?_, ?_, fun q => absurd q (by omega), fun _ => ?_⟩, mux 1000 (by omega) (by omega) (by omega)⟩⟩⟩⟩
    · rw [zI_p1]; exact zI_c (by omega)
    · rw [zI_p1]; exact zI_c (by omega)
    · rw [show (10 : Int32) = zI 10 from rfl, zI_mul, zI_add]
    · rw [(g3 (by omega)).2, es, fthR_some hr]
  · rw [hp] at hr
    have e1 : cnt (p c) j = 0 := by simp [cnt, hr]
    refine ⟨fun _ => ⟨fun _ => ⟨⟨j + 1, r, by omega, rfl, ?_, rfl, fun q => ⟨(g3 (by omega)).1, ?_⟩, fun q => g4 (by omega)⟩, mux 1000 (by omega) (by omega) (by omega)⟩, fun q => absurd rfl q⟩, fun q => absurd rfl q⟩
    · rw [zI_add]; exact zI_c (by omega)
    · rw [(g3 (by omega)).2, es, fthR_next hr]
theorem y_disorder (h : MR m A) {Q : Int32 → MS → Prop} (hq : ∀ x', MR x' A → Q (zI (aDisorder A)) x') : wp_X12_disorder m Q := by
  intro x1 e1
  have h' : MR x1 A := by rw [e1]; exact MR_6 h 0
  have hq := hq x1 h'
  have ok := h'.1.2
  have hcb : ∀ c, c ≤ 6 → sg (fun c => sg (uno (A.1.2.2.2.2.1 c)) (A.1.2.1 c - 1)) c ≤ c * 8 := fun c hc => sg_le (fun i hi => Nat.le_trans (sg_uno _ _) (Nat.le_trans (Nat.sub_le _ _) (ok.2 i (by omega)).1))
  refine ⟨fun y2 y3 => ∃ c : Nat, c ≤ 6 ∧ y3 = zI c ∧ y2 = zI ((sg (fun c => sg (uno (A.1.2.2.2.2.1 c)) (A.1.2.1 c - 1)) c : Nat) : Int), fun _ y3 => 1000 - y3.toInt.toNat, ⟨0, by omega, rfl, rfl⟩, ?_⟩
  rintro y2 y3 ⟨c, hc, rfl, rfl⟩
  rw [show (6 : Int32) = zI 6 from rfl, zI_le (by omega) (by omega) (by omega) (by omega)]
  refine ⟨fun z6 => ?_, fun z6 => ?_⟩
  · have e : c = 6 := by omega
    subst e; exact hq
  have hc6 : c < 6 := by omega
  have okc := ok.2 c hc6
  have hC := h'.1.1.2 c hc6
  have hn := okc.1
  have hb := hcb c (by omega)
  have hs := sg_s (fun c => sg (uno (A.1.2.2.2.2.1 c)) (A.1.2.1 c - 1)) c
  rw [zI_p1 c]
  refine ⟨fun y4 y5 => ∃ j : Nat, 1 ≤ j ∧ (j ≤ A.1.2.1 c ∨ j = 1) ∧ y5 = zI j ∧ y4 = zI ((sg (fun c => sg (uno (A.1.2.2.2.2.1 c)) (A.1.2.1 c - 1)) c + sg (uno (A.1.2.2.2.2.1 c)) (j - 1) : Nat) : Int), fun _ y5 => 1000 - y5.toInt.toNat, ⟨1, by omega, Or.inr rfl, rfl, rfl⟩, ?_⟩
  rintro y4 y5 ⟨j, hj1, hj, rfl, rfl⟩
  refine ⟨c6 hc6, ?_⟩
  rw [zI_clN (by omega), hC.1, zI_le (by omega) (by omega) (by omega) (by omega), zI_p1 j]
  refine ⟨fun z2 => ⟨⟨c + 1, by omega, rfl, zI_c ?_⟩, mux 1000 (by omega) (by omega) (by omega)⟩, fun z2 => ?_⟩
  · have hs : sg (fun c => sg (uno (A.1.2.2.2.2.1 c)) (A.1.2.1 c - 1)) (c + 1) = sg (fun c => sg (uno (A.1.2.2.2.2.1 c)) (A.1.2.1 c - 1)) c + sg (uno (A.1.2.2.2.2.1 c)) (A.1.2.1 c - 1) := rfl
    rw [hs, show A.1.2.1 c - 1 = j - 1 by omega]
  obtain ⟨k, rfl⟩ : ∃ k, j = k + 1 := ⟨j - 1, by omega⟩
  have w1 := (hC.2 (k + 1) (by omega)).2.2.1
  have w0 := (hC.2 k (by omega)).2.2.1
  have ok1 := (okc.2 (k + 1) (by omega)).2.2.1
  have ok0 := (okc.2 k (by omega)).2.2.1
  have ei : zI ((8 * c + (k + 1) : Nat) : Int) - 1 = zI ((8 * c + k : Nat) : Int) := by rw [zI_s1]; exact zI_c (by omega)
  have e : sg (uno (A.1.2.2.2.2.1 c)) (k + 1) = sg (uno (A.1.2.2.2.2.1 c)) k + uno (A.1.2.2.2.2.1 c) k := rfl
  have eu : uno (A.1.2.2.2.2.1 c) k = if A.1.2.2.2.2.1 c (k + 1) < A.1.2.2.2.2.1 c k then 1 else 0 := rfl
  rw [a8, ei, zI_clN (a := 8 * c + k) (by omega), zI_clN (a := 8 * c + (k + 1)) (by omega), w1, w0, zI_le (by omega) (by omega) (by omega) (by omega)]
  refine ⟨c48 (by omega), c48 (by omega), fun z3 => ⟨⟨k + 2, by omega, by omega, rfl, ?_⟩, mux 1000 (by omega) (by omega) (by omega)⟩, fun z3 => ⟨⟨k + 2, by omega, by omega, rfl, ?_⟩, mux 1000 (by omega) (by omega) (by omega)⟩⟩
  · rw [if_neg (by omega)] at eu
    rw [show (0 : Int32) = zI 0 from rfl, zI_add, show k + 2 - 1 = k + 1 by omega, show k + 1 - 1 = k by omega]
    exact zI_c (by omega)
  · rw [if_pos (by omega)] at eu
    rw [zI_p1, show k + 2 - 1 = k + 1 by omega, show k + 1 - 1 = k by omega]
    exact zI_c (by omega)
end MRZ
