/-! ===== the reference's answers (7): seen, holes ===== -/
section MSA
variable {m m' : MS} {A : AS} {L : LK} {S : SH}
theorem m_seenIn (ok : lO L) (h : LM m L) {c f : Nat} (hc : c < 6) (hf : f ≤ 99) {Q : Int32 → Prop} (hq : Q (zI (snM L f c))) : wp_X12_seenIn m (zI c) (zI f) Q := by
  have okc := ok.2 c hc
  have hn := okc.1
  have hC := h.2 c hc
  refine ⟨c6 hc, ?_⟩
  rw [zI_clN (by omega), hC.1, zI_s1]
  refine ⟨fun y1 y2 => ∃ j : Nat, j ≤ L.2.1 c ∧ sg (L.2.2.2.2.2 c) (L.2.1 c) - sg (L.2.2.2.2.2 c) j ≤ f ∧ y1 = zI ((f : Int) - (sg (L.2.2.2.2.2 c) (L.2.1 c) - sg (L.2.2.2.2.2 c) j : Nat)) ∧ y2 = zI ((j : Int) - 1), fun _ y2 => (y2.toInt + 1).toNat, ⟨L.2.1 c, Nat.le_refl _, by omega, zI_c (by omega), rfl⟩, ?_⟩
  rintro y1 y2 ⟨j, hj, hjf, rfl, rfl⟩
  have hsj := sgF okc (j := j) hj
  rw [show (0 : Int32) = zI ((0 : Nat) : Int) from rfl, zI_lt (a := (j : Int) - 1) (by omega) (by omega) (by omega) (by omega)]
  refine ⟨j = 0 ∨ f < (sg (L.2.2.2.2.2 c) (L.2.1 c) - sg (L.2.2.2.2.2 c) j) + L.2.2.2.2.2 c (j - 1), ⟨fun z => Or.inl (by omega), fun z => ?_⟩, fun hJ => ?_⟩
  · obtain ⟨k, rfl⟩ : ∃ k, j = k + 1 := ⟨j - 1, by omega⟩
    rw [zI_k1]
    obtain ⟨e2, e3, e4, e5⟩ := hC.2 k (by omega)
    have okk := okc.2 k (by omega)
    have v48 := c48 (k := 8 * c + k) (by omega)
    have e := sg_s (L.2.2.2.2.2 c) k
    have hsk := sgF okc (j := k) (by omega)
    rw [a8, zI_clN (by omega), e5, zI_lt (by omega) (by omega) (by omega) (by omega)]
    refine ⟨v48, fun z2 => Or.inr (by rw [show k + 1 - 1 = k by omega]; omega), fun z2 => ⟨v48, ⟨k, by omega, by omega, ?_, zI_m1 k⟩, mdn (by omega) (by omega)⟩⟩
    rw [zI_sub]; exact zI_c (by omega)
  have no : ∀ i, j ≤ i → ¬ snb (L.2.2.1 c) (L.2.2.2.1 c) (L.2.2.2.2.2 c) (L.2.1 c) f i := fun i hi q => by
    have hm := sg_mono (L.2.2.2.2.2 c) hi
    unfold snb at q; omega
  rw [zI_neg]
  refine ⟨fun y5 y6 y7 => ∃ t k : Nat, t ≤ j ∧ y7 = zI ((t : Int) - 1) ∧ y6 = zI ((sg (L.2.2.2.2.2 c) (L.2.1 c) : Int) - sg (L.2.2.2.2.2 c) t - f) ∧ y5 = zI k ∧ Msk k (fun o => ∃ i, t ≤ i ∧ i < L.2.1 c ∧ snb (L.2.2.1 c) (L.2.2.2.1 c) (L.2.2.2.2.2 c) (L.2.1 c) f i ∧ L.2.2.2.1 c i = o), fun _ _ y7 => (y7.toInt + 1).toNat, ⟨j, 0, Nat.le_refl _, rfl, zI_c (by omega), rfl, Msk_iff Msk_0 (fun o => ⟨fun z => z.elim, fun ⟨i, g1, g2, g3, _⟩ => no i g1 g3⟩)⟩, ?_⟩
  rintro y5 y6 y7 ⟨t, k0, ht, rfl, rfl, rfl, hk⟩
  rw [zI_lt (a := (t : Int) - 1) (by omega) (by omega) (by omega) (by omega)]
  refine ⟨fun z => ?_, fun z => ?_⟩
  · have ek : k0 = snM L f c := snM_is ok hc (Msk_iff hk (fun o => ⟨fun ⟨i, g1, g2⟩ => ⟨i, g2⟩, fun ⟨i, g2⟩ => ⟨i, by omega, g2⟩⟩))
    rw [ek]; exact hq
  obtain ⟨k, rfl⟩ : ∃ k, t = k + 1 := ⟨t - 1, by omega⟩
  rw [zI_k1, zI_eq (by omega) (by omega) (by omega) (by omega)]
  obtain ⟨e2, e3, e4, e5⟩ := hC.2 k (by omega)
  have okk := okc.2 k (by omega)
  have v48 := c48 (k := 8 * c + k) (by omega)
  have e := sg_s (L.2.2.2.2.2 c) k
  have hsk := sgF okc (j := k) (by omega)
  have hsk1 := sgF okc (j := k + 1) (by omega)
  have hl := lite_b (k := L.2.2.1 c k) (o := L.2.2.2.1 c k)
  have hmj := sg_mono (L.2.2.2.2.2 c) ht
  rw [a8, zI_clN (by omega), e2, e3, e5]
  have ey : zI ((sg (L.2.2.2.2.2 c) (L.2.1 c) : Int) - sg (L.2.2.2.2.2 c) (k + 1) - f) + zI (L.2.2.2.2.2 c k : Int) = zI ((sg (L.2.2.2.2.2 c) (L.2.1 c) : Int) - sg (L.2.2.2.2.2 c) k - f) := by rw [zI_add]; exact zI_c (by omega)
  have e0 : zI (k0 : Int) ||| zI ((0 : Nat) : Int) = zI (k0 : Int) := by rw [zI_or, Nat.or_zero]
  have stay : ¬ snb (L.2.2.1 c) (L.2.2.2.1 c) (L.2.2.2.2.2 c) (L.2.1 c) f k → Msk k0 (fun o => ∃ i, k ≤ i ∧ i < L.2.1 c ∧ snb (L.2.2.1 c) (L.2.2.2.1 c) (L.2.2.2.2.2 c) (L.2.1 c) f i ∧ L.2.2.2.1 c i = o) := fun hz => Msk_iff hk (fun o => ⟨fun ⟨i, g1, g2⟩ => ⟨i, by omega, g2⟩, fun ⟨i, g1, g2, g3, g4⟩ => by
    by_cases ei : i = k
    · subst ei; exact absurd g3 hz
    · exact ⟨i, by omega, g2, g3, g4⟩⟩)
  have more : snb (L.2.2.1 c) (L.2.2.2.1 c) (L.2.2.2.2.2 c) (L.2.1 c) f k → Msk (k0 ||| 2 ^ L.2.2.2.1 c k) (fun o => ∃ i, k ≤ i ∧ i < L.2.1 c ∧ snb (L.2.2.1 c) (L.2.2.2.1 c) (L.2.2.2.2.2 c) (L.2.1 c) f i ∧ L.2.2.2.1 c i = o) := fun hz => Msk_iff (Msk_or hk) (fun o => ⟨fun z => z.elim (fun ⟨i, g1, g2⟩ => ⟨i, by omega, g2⟩) (fun g => ⟨k, by omega, by omega, hz, g.symm⟩), fun ⟨i, g1, g2, g3, g4⟩ => by
    by_cases ei : i = k
    · subst ei; exact Or.inr g4.symm
    · exact Or.inl ⟨i, by omega, g2, g3, g4⟩⟩)
  rw [ey, e0, zI_shl (by omega), zI_or]
  have nx : ∀ b : Nat, Msk b (fun o => ∃ i, k ≤ i ∧ i < L.2.1 c ∧ snb (L.2.2.1 c) (L.2.2.2.1 c) (L.2.2.2.2.2 c) (L.2.1 c) f i ∧ L.2.2.2.1 c i = o) → (∃ t k_1 : Nat, t ≤ j ∧ zI (k : Int) + -1 = zI ((t : Int) - 1) ∧ zI ((sg (L.2.2.2.2.2 c) (L.2.1 c) : Int) - sg (L.2.2.2.2.2 c) k - f) = zI ((sg (L.2.2.2.2.2 c) (L.2.1 c) : Int) - sg (L.2.2.2.2.2 c) t - f) ∧ zI (b : Int) = zI k_1 ∧ Msk k_1 (fun o => ∃ i, t ≤ i ∧ i < L.2.1 c ∧ snb (L.2.2.1 c) (L.2.2.2.1 c) (L.2.2.2.2.2 c) (L.2.1 c) f i ∧ L.2.2.2.1 c i = o)) ∧ ((zI (k : Int) + -1).toInt + 1).toNat < ((zI (k : Int)).toInt + 1).toNat := fun b hb => ⟨⟨k, b, by omega, zI_m1 k, rfl, rfl, hb⟩, mdn (by omega) (by omega)⟩
  refine ⟨fun z2 => ⟨v48, v48, m_light okk.1 okk.2.1 ?_⟩, fun z2 => ⟨v48, v48, m_light okk.1 okk.2.1 ?_⟩⟩
  · rw [zI_lt (by omega) (by omega) (by omega) (by omega)]
    refine ⟨fun z3 => ⟨v48, nx k0 (stay ?_)⟩, fun z3 => ⟨v48, v48, nx _ (more ?_)⟩⟩
    · intro q; unfold snb at q; omega
    · have hk1 : k + 1 < j := by omega
      have hkj : k + 1 ≤ j - 1 := by omega
      have hm1 := sg_mono (L.2.2.2.2.2 c) hkj
      have ej := sg_s (L.2.2.2.2.2 c) (j - 1)
      rw [show j - 1 + 1 = j by omega] at ej
      unfold snb; omega
  · have hkj : k + 1 = j := by omega
    rw [zI_lt (by omega) (by omega) (by omega) (by omega)]
    refine ⟨fun z3 => absurd z3 (by omega), fun z3 => ⟨v48, v48, nx _ (more ?_)⟩⟩
    subst hkj
    rw [show k + 1 - 1 = k by omega] at hJ
    unfold snb; omega
theorem m_seenBy (ok : lO L) (h : LM m L) {p f : Nat} (hp : p < 1024) (hf : f ≤ 99) {Q : Int32 → Prop} (hq : Q (zI (snU L f p 6))) : wp_X12_seenBy m (zI p) (zI f) Q := by
  refine ⟨fun y1 y2 => ∃ c : Nat, c ≤ 6 ∧ y2 = zI c ∧ y1 = zI (snU L f p c), fun _ y2 => 1000 - y2.toInt.toNat, ⟨0, by omega, rfl, rfl⟩, ?_⟩
  rintro y1 y2 ⟨c, hc, rfl, rfl⟩
  rw [show (6 : Int32) = zI 6 from rfl, zI_le (by omega) (by omega) (by omega) (by omega)]
  refine ⟨fun z6 => ?_, fun z6 => ?_⟩
  · have e : c = 6 := by omega
    subst e; exact hq
  rw [zI_bit (p := p) (c := c) hp (by omega), zI_p1 c, zI_or0]
  refine ⟨fun z => ⟨⟨c + 1, by omega, rfl, ?_⟩, mux 1000 (by omega) (by omega) (by omega)⟩, fun z => m_seenIn ok h (by omega) hf ?_⟩
  · simp only [snU]; rw [if_neg z]
  · rw [zI_or]
    refine ⟨⟨c + 1, by omega, rfl, ?_⟩, mux 1000 (by omega) (by omega) (by omega)⟩
    simp only [snU]; rw [if_pos z]
theorem y_seen (h : MR m A) {p f : Int} (h1 : -2147483648 ≤ p) (h2 : p < 2147483648) (h3 : -2147483648 ≤ f) (h4 : f < 2147483648) {Q : Int32 → MS → Prop} (hq : ∀ x', MR x' A → Q (zI (aSeen A p f)) x') : wp_X12_seen m (zI p) (zI f) Q := by
  intro x1 e1
  have h' : MR x1 A := by rw [e1]; exact MR_6 h 0
  have hq := hq x1 h'
  unfold aSeen at hq
  rw [show (0 : Int64) = lJ 0 from rfl, show (63 : Int64) = lJ 63 from rfl, show (99 : Int64) = lJ 99 from rfl]
  refine s_in h1 h2 (by omega) (by omega) (by omega) (by omega) (fun z => ⟨fun q => absurd q (by decide), fun _ => ?_⟩) (fun z => ⟨fun _ => by rw [if_neg (by omega)] at hq; exact hq, fun q => absurd rfl q⟩)
  refine s_in h3 h4 (by omega) (by omega) (by omega) (by omega) (fun z2 => ⟨fun q => absurd q (by decide), fun _ => ?_⟩) (fun z2 => ⟨fun _ => by rw [if_neg (by omega)] at hq; exact hq, fun q => absurd rfl q⟩)
  rw [if_pos (by omega)] at hq
  obtain ⟨p, rfl⟩ : ∃ j : Nat, p = j := ⟨p.toNat, by omega⟩
  obtain ⟨f, rfl⟩ : ∃ j : Nat, f = j := ⟨f.toNat, by omega⟩
  exact m_seenBy h'.1.2 h'.1.1 (by omega) (by omega) hq
theorem bit1 : ∀ p, p < 1024 → ∀ c, c < 10 → ((nI p >>> (nI c &&& 31)) &&& 1 = nI (p.testBit c).toNat) := by decide +kernel
theorem m_ones {k : Nat} (hk : k < 1024) {Q : Int32 → Prop} (hq : Q (zI (pc k))) : wp_X12_ones (zI k) Q := by
  have hb : ∀ c, c ≤ 10 → sg (fun j => (k.testBit j).toNat) c ≤ c * 1 := fun c _ => sg_le (fun i _ => by cases k.testBit i <;> simp)
  refine ⟨fun y1 y2 => ∃ c : Nat, c ≤ 10 ∧ y2 = zI c ∧ y1 = zI (sg (fun j => (k.testBit j).toNat) c), fun _ y2 => 1000 - y2.toInt.toNat, ⟨0, by omega, rfl, rfl⟩, ?_⟩
  rintro y1 y2 ⟨c, hc, rfl, rfl⟩
  rw [show (10 : Int32) = zI 10 from rfl, zI_le (by omega) (by omega) (by omega) (by omega)]
  refine ⟨fun z6 => ?_, fun z6 => ?_⟩
  · have e : c = 10 := by omega
    subst e; exact hq
  have e1 : (zI (k : Int) >>> (zI (c : Int) &&& 31)) &&& 1 = zI ((k.testBit c).toNat : Int) := by
    rw [zI_nI, zI_nI, zI_nI]; exact bit1 k hk c (by omega)
  rw [e1, zI_p1 c, zI_add]
  exact ⟨⟨c + 1, by omega, rfl, zI_c (by rw [sg_s]; exact (Int.natCast_add _ _).symm)⟩, mux 1000 (by omega) (by omega) (by omega)⟩
theorem y_holes (h : MR m A) {p f : Int} (h1 : -2147483648 ≤ p) (h2 : p < 2147483648) (h3 : -2147483648 ≤ f) (h4 : f < 2147483648) {Q : Int32 → MS → Prop} (hq : ∀ x', MR x' A → Q (zI (aHoles A p f)) x') : wp_X12_holes m (zI p) (zI f) Q := by
  intro x1 e1
  have h' : MR x1 A := by rw [e1]; exact MR_6 h 0
  have hq := hq x1 h'
  unfold aHoles at hq
  rw [show (0 : Int64) = lJ 0 from rfl, show (1023 : Int64) = lJ 1023 from rfl, show (99 : Int64) = lJ 99 from rfl]
  refine s_in h1 h2 (by omega) (by omega) (by omega) (by omega) (fun z => ⟨fun q => absurd q (by decide), fun _ => ?_⟩) (fun z => ⟨fun _ => by rw [if_neg (by omega)] at hq; exact hq, fun q => absurd rfl q⟩)
  refine s_in h3 h4 (by omega) (by omega) (by omega) (by omega) (fun z2 => ⟨fun _ => ?_, fun q => absurd q (by decide)⟩) (fun z2 => ⟨fun q => absurd rfl q, fun _ => by rw [if_neg (by omega)] at hq; exact hq⟩)
  rw [if_pos (by omega)] at hq
  obtain ⟨p, rfl⟩ : ∃ j : Nat, p = j := ⟨p.toNat, by omega⟩
  obtain ⟨f, rfl⟩ : ∃ j : Nat, f = j := ⟨f.toNat, by omega⟩
  simp only [Int.toNat_natCast] at hq
  refine ⟨fun y4 y5 => ∃ (k r : Nat) (b : Int), k + r = 64 ∧ y5 = zI k ∧ y4 = zI b ∧ (b = -4 ∨ 0 ≤ b ∧ b < 64) ∧ hlS A.1 f p 64 0 (-4) = hlS A.1 f p r k b, fun _ y5 => 1000 - y5.toInt.toNat, ⟨0, 64, -4, by omega, rfl, rfl, by omega, rfl⟩, ?_⟩
  rintro y4 y5 ⟨k, r, b, hk, rfl, rfl, hb, he⟩
  rw [he] at hq
  rw [show (64 : Int32) = zI 64 from rfl, zI_le (by omega) (by omega) (by omega) (by omega)]
  refine ⟨fun c => ?_, fun c => ?_⟩
  · have e : r = 0 := by omega
    subst e; exact hq
  obtain ⟨r, rfl⟩ : ∃ j, r = j + 1 := ⟨r - 1, by omega⟩
  refine m_seenBy h'.1.2 h'.1.1 (by omega) (by omega) ?_
  have hle := msL_le p (snU A.1 f k 6)
  rw [zI_p1 k, zI_msL, show (0 : Int32) = zI 0 from rfl, zI_eq (by omega) (by omega) (by omega) (by omega), zI_lt (by omega) (by omega) (by omega) (by omega)]
  have nx : ∀ b' : Int, hlS A.1 f p (r + 1) k b = hlS A.1 f p r (k + 1) b' → (b' = -4 ∨ 0 ≤ b' ∧ b' < 64) → (∃ (k_1 r : Nat) (b : Int), k_1 + r = 64 ∧ zI ((k + 1 : Nat) : Int) = zI k_1 ∧ zI b' = zI b ∧ (b = -4 ∨ 0 ≤ b ∧ b < 64) ∧ hlS A.1 f p 64 0 (-4) = hlS A.1 f p r k_1 b) ∧ 1000 - (zI ((k + 1 : Nat) : Int)).toInt.toNat < 1000 - (zI (k : Int)).toInt.toNat := fun b' e hb' =>
    ⟨⟨k + 1, r, b', by omega, rfl, rfl, hb', he.trans e⟩, mux 1000 (by omega) (by omega) (by omega)⟩
  refine ⟨fun z3 => nx b ?_ hb, fun z3 => ⟨fun z4 => nx k ?_ (by omega), fun z4 => ?_⟩⟩
  · simp only [hlS]; rw [if_neg (fun q => z3 (by omega))]
  · simp only [hlS]; rw [if_pos ⟨by omega, Or.inl z4⟩]
  · obtain ⟨b, rfl⟩ : ∃ j : Nat, b = j := ⟨b.toNat, by omega⟩
    have hpk := pc_b k
    have hpb := pc_b b
    refine m_ones (by omega) (m_ones (by omega) ?_)
    rw [zI_le (by omega) (by omega) (by omega) (by omega)]
    refine ⟨fun z5 => nx b ?_ hb, fun z5 => nx k ?_ (by omega)⟩
    · simp only [hlS, Int.toNat_natCast]; rw [if_neg (fun q => by omega)]
    · simp only [hlS, Int.toNat_natCast]; rw [if_pos ⟨by omega, Or.inr (by omega)⟩]
end MSA
