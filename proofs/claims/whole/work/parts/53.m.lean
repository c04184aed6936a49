/-! ===== the reference's answers (8): all oaths, one order, what is counted ===== -/
section MSB
variable {m m' : MS} {A : AS} {L : LK} {S : SH}
theorem m_oathBits (ok : lO L) (h : LM m L) {Q : Int32 → Prop} (hq : Q (zI (allM L))) : wp_X12_oathBits m Q := by
  refine ⟨fun y1 y2 => ∃ c k : Nat, c ≤ 6 ∧ y2 = zI c ∧ y1 = zI k ∧ Msk k (isO L.2.1 L.2.2.2.1 c), fun _ y2 => 1000 - y2.toInt.toNat, ⟨0, 0, by omega, rfl, rfl, Msk_iff Msk_0 (fun o => ⟨fun z => z.elim, fun ⟨c, i, h1, _⟩ => absurd h1 (by omega)⟩)⟩, ?_⟩
  rintro y1 y2 ⟨c, k0, hc, rfl, rfl, hm⟩
  rw [show (6 : Int32) = zI 6 from rfl, zI_le (by omega) (by omega) (by omega) (by omega)]
  refine ⟨fun z6 => ?_, fun z6 => ?_⟩
  · have e : c = 6 := by omega
    subst e
    have ek : k0 = allM L := mskO_is (Msk_iff hm (fun o => ⟨fun z => ⟨by obtain ⟨c, i, g1, g2, g3⟩ := z; have := (ok.2 c g1).2 i g2; omega, z⟩, fun z => z.2⟩))
    rw [ek]; exact hq
  have hc6 : c < 6 := by omega
  have okc := ok.2 c hc6
  have hC := h.2 c hc6
  have hn := okc.1
  rw [zI_p1 c]
  refine ⟨fun y3 y4 => ∃ j k : Nat, j ≤ L.2.1 c ∧ y4 = zI j ∧ y3 = zI k ∧ Msk k (fun o => isO L.2.1 L.2.2.2.1 c o ∨ ∃ i, i < j ∧ L.2.2.2.1 c i = o), fun _ y4 => 1000 - y4.toInt.toNat, ⟨0, k0, by omega, rfl, rfl, Msk_iff hm (fun a => ⟨fun z => Or.inl z, fun z => z.elim id (fun ⟨i, hi, _⟩ => absurd hi (by omega))⟩)⟩, ?_⟩
  rintro y3 y4 ⟨j, k, hj, rfl, rfl, hk⟩
  refine ⟨c6 hc6, ?_⟩
  rw [zI_clN (by omega), hC.1, zI_le (by omega) (by omega) (by omega) (by omega), zI_p1 j]
  refine ⟨fun z7 => ?_, fun z7 => ?_⟩
  · have e : j = L.2.1 c := by omega
    refine ⟨⟨c + 1, k, by omega, rfl, rfl, Msk_iff hk (fun a => ⟨?_, ?_⟩)⟩, mux 1000 (by omega) (by omega) (by omega)⟩
    · rintro (⟨d, i, g1, g2, g3⟩ | ⟨i, g2, g3⟩)
      · exact ⟨d, i, by omega, g2, g3⟩
      · exact ⟨c, i, by omega, by omega, g3⟩
    · rintro ⟨d, i, g1, g2, g3⟩
      by_cases ed : d = c
      · subst ed; exact Or.inr ⟨i, by omega, g3⟩
      · exact Or.inl ⟨d, i, by omega, g2, g3⟩
  obtain ⟨e2, e3, e4, e5⟩ := hC.2 j (by omega)
  have o2 := (okc.2 j (by omega)).2.1
  rw [a8, zI_clN (by omega), e3, zI_shl (by omega), zI_or]
  refine ⟨c48 (by omega), ⟨j + 1, _, by omega, rfl, rfl, Msk_iff (Msk_or hk) (fun a => ⟨?_, ?_⟩)⟩, mux 1000 (by omega) (by omega) (by omega)⟩
  · rintro ((g | ⟨i, g2, g3⟩) | g)
    · exact Or.inl g
    · exact Or.inr ⟨i, by omega, g3⟩
    · exact Or.inr ⟨j, by omega, g.symm⟩
  · rintro (g | ⟨i, g2, g3⟩)
    · exact Or.inl (Or.inl g)
    · by_cases ei : i = j
      · subst ei; exact Or.inr g3.symm
      · exact Or.inl (Or.inr ⟨i, by omega, g3⟩)
def ahD (n : Nat) (O : Nat → Nat) (o j : Nat) : Prop := ∃ i, i < n ∧ O i = o ∧ ∃ k, k < i ∧ O k = j
theorem m_aheadOf (ok : lO L) (h : LM m L) {o : Nat} (ho : o < 10) {Q : Int32 → Prop} (hq : Q (zI (AHm L o))) : wp_X12_aheadOf m (zI o) Q := by
  refine ⟨fun y1 y2 => ∃ c k : Nat, c ≤ 6 ∧ y2 = zI c ∧ y1 = zI k ∧ Msk k (fun a => ∃ d, d < c ∧ ahD (L.2.1 d) (L.2.2.2.1 d) o a), fun _ y2 => 1000 - y2.toInt.toNat, ⟨0, 0, by omega, rfl, rfl, Msk_iff Msk_0 (fun o => ⟨fun z => z.elim, fun ⟨c, h1, _⟩ => absurd h1 (by omega)⟩)⟩, ?_⟩
  rintro y1 y2 ⟨c, k0, hc, rfl, rfl, hm⟩
  rw [show (6 : Int32) = zI 6 from rfl, zI_le (by omega) (by omega) (by omega) (by omega)]
  refine ⟨fun z6 => ?_, fun z6 => ?_⟩
  · have e : c = 6 := by omega
    subst e
    rw [zI_shl (by omega), zI_msL]
    have ek : msL k0 (2 ^ o) = AHm L o := by
      refine mskO_is (fun a => ?_)
      have lt : (∃ d, d < 6 ∧ ahD (L.2.1 d) (L.2.2.2.1 d) o a) → a < 10 := fun ⟨d, hd, i, hi, _, k, hk, ek⟩ => by
        have := (ok.2 d hd).2 k (by omega)
        omega
      by_cases ha : a < 32
      · rw [msL_bit ha, Bool.and_eq_true, hm a, Nat.testBit_two_pow]
        constructor
        · rintro ⟨g1, g2⟩
          have hne : ¬ o = a := by simpa using g2
          refine ⟨lt g1, ?_⟩
          obtain ⟨d, hd, g⟩ := g1
          exact ⟨d, hd, fun q => hne q.symm, g⟩
        · rintro ⟨g1, d, hd, g2, g⟩
          have hne : ¬ o = a := fun q => g2 q.symm
          exact ⟨⟨d, hd, g⟩, by simp [hne]⟩
      · have hf : k0.testBit a = false := by
          cases hb : k0.testBit a
          · rfl
          · have := lt ((hm a).mp hb); omega
        unfold msL
        rw [Nat.testBit_and, hf]
        exact ⟨fun q => absurd q (by simp), fun q => absurd q.1 (by omega)⟩
    rw [ek]; exact hq
  have hc6 : c < 6 := by omega
  have okc := ok.2 c hc6
  have hC := h.2 c hc6
  have hn := okc.1
  rw [zI_p1 c]
  refine ⟨fun y3 y4 y5 => ∃ j k b : Nat, j ≤ L.2.1 c ∧ y5 = zI j ∧ y3 = zI k ∧ y4 = zI b ∧ Msk k (fun a => (∃ d, d < c ∧ ahD (L.2.1 d) (L.2.2.2.1 d) o a) ∨ ahD j (L.2.2.2.1 c) o a) ∧ Msk b (fun a => ∃ i, i < j ∧ L.2.2.2.1 c i = a), fun _ _ y5 => 1000 - y5.toInt.toNat, ⟨0, k0, 0, by omega, rfl, rfl, rfl, Msk_iff hm (fun a => ⟨fun z => Or.inl z, fun z => z.elim id (fun ⟨i, hi, _⟩ => absurd hi (by omega))⟩), Msk_iff Msk_0 (fun a => ⟨fun z => z.elim, fun ⟨i, hi, _⟩ => absurd hi (by omega)⟩)⟩, ?_⟩
  rintro y3 y4 y5 ⟨j, k, b, hj, rfl, rfl, rfl, hk, hb⟩
  refine ⟨c6 hc6, ?_⟩
  rw [zI_clN (by omega), hC.1, zI_le (by omega) (by omega) (by omega) (by omega), zI_p1 j]
  refine ⟨fun z7 => ?_, fun z7 => ?_⟩
  · have e : j = L.2.1 c := by omega
    rw [e] at hk
    refine ⟨⟨c + 1, k, by omega, rfl, rfl, Msk_iff hk (fun a => ⟨?_, ?_⟩)⟩, mux 1000 (by omega) (by omega) (by omega)⟩
    · rintro (⟨d, g1, g2⟩ | g)
      · exact ⟨d, by omega, g2⟩
      · exact ⟨c, by omega, g⟩
    · rintro ⟨d, g1, g2⟩
      by_cases ed : d = c
      · subst ed; exact Or.inr g2
      · exact Or.inl ⟨d, by omega, g2⟩
  obtain ⟨e2, e3, e4, e5⟩ := hC.2 j (by omega)
  have o2 := (okc.2 j (by omega)).2.1
  have v48 := c48 (k := 8 * c + j) (by omega)
  have hb' : Msk (b ||| 2 ^ L.2.2.2.1 c j) (fun a => ∃ i, i < j + 1 ∧ L.2.2.2.1 c i = a) := Msk_iff (Msk_or hb) (fun a => ⟨fun z => z.elim (fun ⟨i, g1, g2⟩ => ⟨i, by omega, g2⟩) (fun g => ⟨j, by omega, g.symm⟩), fun ⟨i, g1, g2⟩ => by
    by_cases ei : i = j
    · subst ei; exact Or.inr g2.symm
    · exact Or.inl ⟨i, by omega, g2⟩⟩)
  rw [a8, zI_clN (by omega), e3, zI_shl (by omega), zI_or, zI_or0, zI_or, zI_eq (by omega) (by omega) (by omega) (by omega)]
  refine ⟨v48, fun z3 => ⟨v48, ⟨j + 1, k, _, by omega, rfl, rfl, rfl, Msk_iff hk (fun a => ⟨fun z => z.elim Or.inl (fun ⟨i, g1, g2⟩ => Or.inr ⟨i, by omega, g2⟩), fun z => z.elim Or.inl (fun ⟨i, g1, g2, g3⟩ => Or.inr ⟨i, ?_, g2, g3⟩)⟩), hb'⟩, mux 1000 (by omega) (by omega) (by omega)⟩, fun z3 => ⟨v48, ⟨j + 1, _, _, by omega, rfl, rfl, rfl, Msk_iff (Msk_or2 hk hb) (fun a => ⟨?_, ?_⟩), hb'⟩, mux 1000 (by omega) (by omega) (by omega)⟩⟩
  · by_cases ei : i = j
    · subst ei; omega
    · omega
  · rintro ((g | ⟨i, g1, g2⟩) | ⟨i, g1, g2⟩)
    · exact Or.inl g
    · exact Or.inr ⟨i, by omega, g2⟩
    · exact Or.inr ⟨j, by omega, by omega, i, g1, g2⟩
  · rintro (g | ⟨i, g1, g2, d, g3, g4⟩)
    · exact Or.inl (Or.inl g)
    · by_cases ei : i = j
      · subst ei; exact Or.inr ⟨d, g3, g4⟩
      · exact Or.inl (Or.inr ⟨i, by omega, g2, d, g3, g4⟩)
theorem y_order (h : MR m A) {w : Int} (h1 : -2147483648 ≤ w) (h2 : w < 2147483648) {Q : Int32 → MS → Prop} (hq : ∀ x', MR x' A → Q (zI (aOrder A w)) x') : wp_X12_order m (zI w) Q := by
  intro x1 e1
  have h' : MR x1 A := by rw [e1]; exact MR_6 h 0
  have hq := hq x1 h'
  unfold aOrder at hq
  rw [show (0 : Int64) = lJ 0 from rfl, show (1 : Int64) = lJ 1 from rfl]
  refine s_in h1 h2 (by omega) (by omega) (by omega) (by omega) (fun z => ⟨fun _ => ?_, fun q => absurd q (by decide)⟩) (fun z => ⟨fun q => absurd rfl q, fun _ => by rw [if_neg (by omega)] at hq; exact hq⟩)
  rw [if_pos z] at hq
  have ok := h'.1.2
  have hL := h'.1.1
  have hb := allM_b A.1
  refine m_oathBits ok hL ?_
  refine ⟨fun y4 y5 y6 => ∃ (k r : Nat) (a b : Int), y4 = zI k ∧ k < 1024 ∧ y5 = zI a ∧ y6 = zI b ∧ pc k < r ∧ (-4 ≤ a ∧ a ≤ 9) ∧ (-4 ≤ b ∧ b ≤ 9) ∧ ordS A.1 11 (allM A.1) (-4) (-4) = ordS A.1 r k a b, fun y4 _ _ => y4.toInt.toNat, ⟨allM A.1, 11, -4, -4, rfl, hb, rfl, rfl, by have := pc_b (allM A.1); omega, by omega, by omega, rfl⟩, ?_⟩
  rintro y4 y5 y6 ⟨k, r, a, b, rfl, hk, rfl, rfl, hr, ha, hb2, he⟩
  obtain ⟨r, rfl⟩ : ∃ j, r = j + 1 := ⟨r - 1, by omega⟩
  rw [he] at hq
  unfold ordS at hq
  rw [show (0 : Int32) = zI ((0 : Nat) : Int) from rfl, zI_eq (a := (k : Int)) (by omega) (by omega) (by omega) (by omega), zI_eq (a := w) h1 h2 (by omega) (by omega)]
  refine ⟨fun c => ?_, fun c => ?_⟩
  · rw [if_pos (by omega)] at hq
    refine ⟨fun c2 => ?_, fun c2 => ?_⟩
    · simp only [] at hq; rw [if_neg (show ¬ w = 0 from c2)] at hq; exact hq
    · simp only [] at hq; rw [if_pos (show w = 0 from c2)] at hq; exact hq
  rw [if_neg (by omega)] at hq
  refine ⟨fun y8 y9 => ∃ j : Nat, j ≤ 10 ∧ y9 = zI ((j : Int) - 1) ∧ y8 = zI (oI (nxS A.1 k (10 - j) j)), fun _ y9 => (y9.toInt + 1).toNat, ⟨10, by omega, rfl, rfl⟩, ?_⟩
  rintro y8 y9 ⟨j, hj, rfl, rfl⟩
  rw [zI_lt (a := (j : Int) - 1) (by omega) (by omega) (by omega) (by omega)]
  refine ⟨fun c2 => ?_, fun c2 => ?_⟩
  · have e : j = 0 := by omega
    subst e
    rw [show 10 - 0 = 10 from rfl]
    cases hn : nxS A.1 k 10 0 with
    | none =>
      rw [hn] at hq
      exact ⟨fun q => absurd q (by decide), fun _ => hq⟩
    | some o =>
      rw [hn] at hq
      have ho := nxS_b _ _ _ _ _ hn
      have e1 := pc1 k hk o (by omega) ho.2.2
      have hle := msL_le k (2 ^ o)
      have hne : msL k (2 ^ o) ≠ k := fun q => by rw [q] at e1; omega
      rw [show zI (oI (some o)) = zI (o : Int) from rfl, zI_shl (by omega), zI_msL, zI_le (by omega) (by omega) (by omega) (by omega), zI_le (by omega) (by omega) (by omega) (by omega)]
      have nx : ∀ a' : Int, a' = (if a < 0 then (o : Int) else a) → (∃ (k_1 r : Nat) (a b : Int), zI ((msL k (2 ^ o) : Nat) : Int) = zI k_1 ∧ k_1 < 1024 ∧ zI a' = zI a ∧ zI (o : Int) = zI b ∧ pc k_1 < r ∧ (-4 ≤ a ∧ a ≤ 9) ∧ (-4 ≤ b ∧ b ≤ 9) ∧ ordS A.1 11 (allM A.1) (-4) (-4) = ordS A.1 r k_1 a b) ∧ (zI ((msL k (2 ^ o) : Nat) : Int)).toInt.toNat < (zI (k : Int)).toInt.toNat := fun a' ea => by
        refine ⟨⟨msL k (2 ^ o), r, a', o, rfl, by omega, rfl, rfl, by omega, ?_, by omega, ?_⟩, ?_⟩
        · rw [ea]; split <;> omega
        · rw [he]
          conv => lhs; unfold ordS
          rw [if_neg (by omega), hn, ea]
        · rw [zI_t (by omega) (by omega), zI_t (by omega) (by omega)]; omega
      refine ⟨fun _ => ⟨fun c3 => nx a ?_, fun c3 => nx o ?_⟩, fun q => absurd (by omega) q⟩
      · rw [if_neg (by omega)]
      · rw [if_pos (by omega)]
  obtain ⟨o, rfl⟩ : ∃ o, j = o + 1 := ⟨j - 1, by omega⟩
  rw [zI_k1, zI_bit hk (by omega)]
  have en : nxS A.1 k (10 - o) o = if k.testBit o = true ∧ AHm A.1 o &&& k = 0 then some o else nxS A.1 k (10 - (o + 1)) (o + 1) := by
    rw [show 10 - o = (10 - (o + 1)) + 1 by omega]; rfl
  have hA : AHm A.1 o < 1024 := mskO_b _
  refine ⟨fun c3 => ⟨⟨o, by omega, zI_m1 o, ?_⟩, mdn (by omega) (by omega)⟩, fun c3 => m_aheadOf ok hL (by omega) ?_⟩
  · rw [en, if_neg (fun q => c3 q.1)]
  have hle : AHm A.1 o &&& k ≤ AHm A.1 o := Nat.and_le_left
  rw [zI_and, zI_eq (by omega) (by omega) (by omega) (by omega)]
  refine ⟨fun c4 => ⟨⟨o, by omega, zI_m1 o, ?_⟩, mdn (by omega) (by omega)⟩, fun c4 => ⟨⟨o, by omega, zI_m1 o, ?_⟩, mdn (by omega) (by omega)⟩⟩
  · rw [en, if_neg (fun q => c4 (by rw [q.2]))]
  · rw [en, if_pos ⟨c3, by omega⟩]; rfl
theorem y_count (h : MR m A) {w : Int} (h1 : -2147483648 ≤ w) (h2 : w < 2147483648) {Q : Int32 → MS → Prop} (hq : ∀ x', MR x' A → Q (zI (aCount A w)) x') : wp_X12_count m (zI w) Q := by
  intro x1 e1
  have h' : MR x1 A := by rw [e1]; exact MR_6 h 0
  have hq := hq x1 h'
  have ok := h'.1.2
  have hL := h'.1.1
  have hcb : ∀ c, c ≤ 6 → sg (fun c => sg (cnt (rdb (A.1.2.2.1 c) (A.1.2.2.2.1 c) (A.1.2.2.2.2.2 c) (A.1.2.1 c))) (A.1.2.1 c)) c ≤ c * 8 := fun c hc => sg_le (fun i hi => Nat.le_trans (sg_cnt _ _) (ok.2 i (by omega)).1)
  refine ⟨fun y2 y3 y4 => ∃ c : Nat, c ≤ 6 ∧ y4 = zI c ∧ y2 = zI (sg A.1.2.1 c) ∧ y3 = zI ((sg (fun c => sg (cnt (rdb (A.1.2.2.1 c) (A.1.2.2.2.1 c) (A.1.2.2.2.2.2 c) (A.1.2.1 c))) (A.1.2.1 c)) c : Nat) : Int), fun _ _ y4 => 1000 - y4.toInt.toNat, ⟨0, by omega, rfl, rfl, rfl⟩, ?_⟩
  rintro y2 y3 y4 ⟨c, hc, rfl, rfl, rfl⟩
  have el : ∀ k : Int, -2147483648 ≤ k → k < 2147483648 → (zI w = zI k ↔ w = k) := fun k h3 h4 => zI_eq h1 h2 h3 h4
  rw [show (6 : Int32) = zI 6 from rfl, zI_le (by omega) (by omega) (by omega) (by omega)]
  refine ⟨fun z6 => ?_, fun z6 => ?_⟩
  · have e : c = 6 := by omega
    subst e
    rw [show (zI w = (0 : Int32)) ↔ w = 0 from el 0 (by omega) (by omega), show (zI w = (1 : Int32)) ↔ w = 1 from el 1 (by omega) (by omega), show (zI w = (2 : Int32)) ↔ w = 2 from el 2 (by omega) (by omega), show (zI w = (3 : Int32)) ↔ w = 3 from el 3 (by omega) (by omega), show (zI w = (4 : Int32)) ↔ w = 4 from el 4 (by omega) (by omega)]
    unfold aCount at hq
    refine ⟨fun d => ?_, fun d0 => ⟨fun d => ?_, fun d1 => ⟨fun d => ?_, fun d2 => ⟨fun d => ?_, fun d3 => ⟨fun d => ?_, fun d4 => ?_⟩⟩⟩⟩⟩
    · rw [if_pos d] at hq; rw [hL.1]; exact hq
    · rw [if_neg d0, if_pos d] at hq; exact hq
    · rw [if_neg d0, if_neg d1, if_pos d] at hq; exact m_iceOfAll ok hL hq
    · rw [if_neg d0, if_neg d1, if_neg d2, if_pos d] at hq; exact hq
    · rw [if_neg d0, if_neg d1, if_neg d2, if_neg d3, if_pos d] at hq; exact m_oathBits ok hL hq
    · rw [if_neg d0, if_neg d1, if_neg d2, if_neg d3, if_neg d4] at hq; exact hq
  have hc6 : c < 6 := by omega
  have okc := ok.2 c hc6
  have hC := hL.2 c hc6
  have hn := okc.1
  have hb := hcb c (by omega)
  refine ⟨c6 hc6, ?_⟩
  rw [zI_p1 c]
  refine ⟨fun y12 y13 => ∃ j : Nat, j ≤ A.1.2.1 c ∧ y13 = zI j ∧ y12 = zI ((sg (fun c => sg (cnt (rdb (A.1.2.2.1 c) (A.1.2.2.2.1 c) (A.1.2.2.2.2.2 c) (A.1.2.1 c))) (A.1.2.1 c)) c + sg (cnt (rdb (A.1.2.2.1 c) (A.1.2.2.2.1 c) (A.1.2.2.2.2.2 c) (A.1.2.1 c))) j : Nat) : Int), fun _ y13 => 1000 - y13.toInt.toNat, ⟨0, by omega, rfl, rfl⟩, ?_⟩
  rintro y12 y13 ⟨j, hj, rfl, rfl⟩
  refine ⟨c6 hc6, ?_⟩
  rw [zI_clN (by omega), hC.1, zI_le (by omega) (by omega) (by omega) (by omega), zI_p1 j, zI_add]
  refine ⟨fun z7 => ⟨⟨c + 1, by omega, rfl, zI_c ?_, zI_c ?_⟩, mux 1000 (by omega) (by omega) (by omega)⟩, fun z7 => ?_⟩
  · rw [sg_s]; exact (Int.natCast_add _ _).symm
  · rw [show j = A.1.2.1 c by omega]; rfl
  have e := sg_s (cnt (rdb (A.1.2.2.1 c) (A.1.2.2.2.1 c) (A.1.2.2.2.2.2 c) (A.1.2.1 c))) j
  refine m_isRead ok hL hc6 (by omega) (fun hr => ⟨fun q => absurd q (by decide), fun _ => ⟨⟨j + 1, by omega, rfl, ?_⟩, mux 1000 (by omega) (by omega) (by omega)⟩⟩) (fun hr => ⟨fun _ => ⟨⟨j + 1, by omega, rfl, ?_⟩, mux 1000 (by omega) (by omega) (by omega)⟩, fun q => absurd rfl q⟩)
  · have e1 : cnt (rdb (A.1.2.2.1 c) (A.1.2.2.2.1 c) (A.1.2.2.2.2.2 c) (A.1.2.1 c)) j = 1 := by simp [cnt, hr]
    rw [zI_p1]; exact zI_c (by omega)
  · have e1 : cnt (rdb (A.1.2.2.1 c) (A.1.2.2.2.1 c) (A.1.2.2.2.2.2 c) (A.1.2.1 c)) j = 0 := by simp [cnt, hr]
    rw [show (0 : Int32) = zI 0 from rfl, zI_add]; exact zI_c (by omega)
end MSB
