/-! ===== the reference: cuts, drifts, thaws ===== -/
section LMV
variable {m m' : MS} {w : Nat} {N N' : Nat → Nat} {K O W F K' O' W' F' : Nat → Nat → Nat} {A : AS} {L : LK}
theorem m_cuts (ok : lOK w N K O W F) (h : LMw m w N K O W F) {c f : Nat} (hc : c < 6) (hf : f ≤ 99) {Q : Int32 → MS → Prop}
    (hq : ∀ m', LMw m' w (upc N c (cutS (F c) (N c) f).1) K O W (upc F c (cutS (F c) (N c) f).2) → MC m m' c → Q (zI (N c - (cutS (F c) (N c) f).1 : Int)) m') : wp_X12_cuts m (zI c) (zI f) Q := by
  have okc := ok.2 c hc
  have hn := okc.1
  have hC := h.2 c hc
  have e0 : ∀ y : Int32, y + 0 = y := fun y => by simp
  have e00 : ∀ y : Int32, y - 0 = y := fun y => by simp
  refine ⟨fun y1 y2 x3 => ∃ (j l : Nat) (G : Nat → Nat), y1 = zI l ∧ l ≤ 99 ∧ j ≤ N c ∧ y2 = zI ((N c : Int) - j) ∧ CM x3 c j (K c) (O c) (W c) G ∧ (∀ i, i < j → 1 ≤ G i ∧ G i ≤ 20) ∧ MC m x3 c ∧ cutS (F c) (N c) f = cutS G j l, fun y1 _ _ => y1.toInt.toNat, ⟨N c, f, F c, rfl, hf, Nat.le_refl _, (show zI 0 = _ from zI_c (by omega)), hC, fun i hi => by have := okc.2 i hi; omega, MC_rf _ _, rfl⟩, ?_⟩
  rintro y1 y2 x3 ⟨j, l, G, rfl, hl, hj, rfl, h3, hG, hM, he⟩
  have fin : cutS G j l = (j, G) → Q (zI ((N c : Int) - j)) x3 := fun e => by
    rw [he, e] at hq
    refine hq x3 (LM_cong (LM_set ok h hM h3) (fun d hd => ⟨rfl, fun i hi => ⟨?_, ?_, ?_, rfl⟩⟩)) hM
    all_goals (unfold upc; split <;> simp_all)
  rw [show (0 : Int32) = zI 0 from rfl, zI_le (by omega) (by omega) (by omega) (by omega), zI_clN (by omega), h3.1, zI_le (by omega) (by omega) (by omega) (by omega)]
  refine ⟨fun c0 => fin (by rw [show l = 0 by omega]; exact cutS_0 G j), fun c0 => ⟨c6 hc, fun c1 => fin (by rw [show j = 0 by omega]; rfl), fun c1 => ⟨c6 hc, ?_⟩⟩⟩
  have ei : (8 : Int32) * zI (c : Int) + zI (j : Int) - 1 = zI ((8 * c + (j - 1) : Nat) : Int) := by
    rw [a8, zI_s1]; exact zI_c (by omega)
  have v48 := c48 (k := 8 * c + (j - 1)) (by omega)
  obtain ⟨h2, h3', h4, h5⟩ := h3.2 (j - 1) (by omega)
  obtain ⟨g1, g2⟩ := hG (j - 1) (by omega)
  rw [ei, zI_clN (by omega), h5, zI_le (by omega) (by omega) (by omega) (by omega)]
  have st : cutS G j l = if G (j - 1) ≤ l then cutS G (j - 1) (l - G (j - 1)) else (j, fun i => if i = j - 1 then G (j - 1) - l else G i) := by
    obtain ⟨k, rfl⟩ : ∃ k, j = k + 1 := ⟨j - 1, by omega⟩
    have hl0 : ¬ l = 0 := by omega
    simp [cutS, hl0]
  -- a finger row changed at j - 1, the number of layers at c
  have cm : ∀ (x4 x5 : MS) (v u : Int) (G' : Nat → Nat) (j' : Nat), x4 = mA x3 5 (upd (x3.2.1 5) (8 * c + (j - 1)) (zI v)) → x5 = mA x4 1 (upd (x4.2.1 1) c (zI u)) → u = j' → j' ≤ j → (∀ i, i < j' → i ≠ j - 1 → G' i = G i) → (j - 1 < j' → (G' (j - 1) : Int) = v) → MC m x5 c ∧ CM x5 c j' (K c) (O c) (W c) G' := fun x4 x5 v u G' j' e4 e5 eu hjj q1 q2 => by
    refine ⟨MC_tr hM (MC_tr (m2 := x4) (by rw [e4]; exact MC_t x3 (by omega) (by omega) (by omega) _) (by rw [e5]; exact MC_1 x4 c _)), ?_, fun i hi => ?_⟩
    · rw [e5]; simp [mA, va_up, upd, eu]
    · obtain ⟨p2, p3, p4, p5⟩ := h3.2 i (by omega)
      rw [e5, e4]
      refine ⟨by simpa [mA, va_up] using p2, by simpa [mA, va_up] using p3, by simpa [mA, va_up] using p4, ?_⟩
      by_cases e : i = j - 1
      · subst e
        simp [mA, va_up, upd, q2 hi]
      · have hne : ¬ (8 * c + i = 8 * c + (j - 1)) := by omega
        rw [q1 i hi e]
        simpa [mA, va_up, upd, hne, e] using p5
  have v4 : ∀ (x4 : MS) (v : Int), x4 = mA x3 5 (upd (x3.2.1 5) (8 * c + (j - 1)) (zI v)) → x4.2.1 5 (8 * c + (j - 1)) = zI v ∧ x4.2.1 1 c = zI (j : Int) := fun x4 v e4 => by
    rw [e4]
    exact ⟨by simp [mA, va_up, upd], by simpa [mA, va_up] using h3.1⟩
  have nx : ∀ (x5 : MS) (y1 y2 : Int32) (j' l' : Nat) (G' : Nat → Nat), y1 = zI l' → y2 = zI ((N c : Int) - j') → l' < l → j' ≤ N c → MC m x5 c ∧ CM x5 c j' (K c) (O c) (W c) G' → (∀ i, i < j' → 1 ≤ G' i ∧ G' i ≤ 20) → cutS G j l = cutS G' j' l' → (∃ (j l : Nat) (G : Nat → Nat), y1 = zI l ∧ l ≤ 99 ∧ j ≤ N c ∧ y2 = zI ((N c : Int) - j) ∧ CM x5 c j (K c) (O c) (W c) G ∧ (∀ i, i < j → 1 ≤ G i ∧ G i ≤ 20) ∧ MC m x5 c ∧ cutS (F c) (N c) f = cutS G j l) ∧ y1.toInt.toNat < (zI (l : Int)).toInt.toNat := fun x5 y1 y2 j' l' G' q1 q2 q3 q4 q5 q6 q7 => by
    refine ⟨⟨j', l', G', q1, by omega, q4, q2, q5.2, q6, q5.1, he.trans q7⟩, ?_⟩
    rw [q1, zI_t (by omega) (by omega), zI_t (by omega) (by omega)]; omega
  refine ⟨v48, fun c2 => ⟨v48, v48, fun x4 e4 => ⟨v48, ?_⟩⟩, fun c2 => ⟨v48, v48, v48, fun x8 e8 => ⟨v48, ?_⟩⟩⟩
  · rw [zI_sub] at e4
    obtain ⟨a1, a2⟩ := v4 x4 _ e4
    rw [a1, zI_eq (by omega) (by omega) (by omega) (by omega), a2]
    refine ⟨fun c3 => ⟨c6 hc, c6 hc, fun x5 e5 => ?_⟩, fun c3 => ⟨c6 hc, c6 hc, fun x6 e6 => ?_⟩⟩
    · rw [zI_sub] at e5
      rw [if_neg (by omega)] at st
      refine nx x5 _ _ j 0 (fun i => if i = j - 1 then G (j - 1) - l else G i) (by rw [zI_sub]; exact zI_c (by omega)) (by rw [zI_add]; exact zI_c (by omega)) (by omega) hj (cm x4 x5 _ _ _ j e4 e5 (by omega) (Nat.le_refl _) (fun i _ hne => by simp [hne]) (fun _ => by simp; omega)) (fun i hi => ?_) (by rw [st, cutS_0])
      have := hG i hi
      by_cases e : i = j - 1
      · simp [e]; omega
      · simp [e]; omega
    · rw [show (1 : Int32) = zI 1 from rfl, zI_sub] at e6
      rw [if_pos (by omega)] at st
      refine nx x6 _ _ (j - 1) 0 G (by rw [zI_sub]; exact zI_c (by omega)) (by rw [show (1 : Int32) = zI 1 from rfl, zI_add]; exact zI_c (by omega)) (by omega) (by omega) (cm x4 x6 _ _ _ (j - 1) e4 e6 (by omega) (by omega) (fun i _ hne => rfl) (fun z => by omega)) (fun i hi => hG i (by omega)) (by rw [st, show l - G (j - 1) = 0 by omega])
  · rw [zI_sub] at e8
    obtain ⟨a1, a2⟩ := v4 x8 _ e8
    rw [a1, zI_eq (by omega) (by omega) (by omega) (by omega), a2]
    refine ⟨fun c3 => absurd (by omega) c3, fun c3 => ⟨c6 hc, c6 hc, fun x6 e6 => ?_⟩⟩
    rw [show (1 : Int32) = zI 1 from rfl, zI_sub] at e6
    rw [if_pos (by omega)] at st
    refine nx x6 _ _ (j - 1) (l - G (j - 1)) G (by rw [zI_sub]; exact zI_c (by omega)) (by rw [show (1 : Int32) = zI 1 from rfl, zI_add]; exact zI_c (by omega)) (by omega) (by omega) (cm x8 x6 _ _ _ (j - 1) e8 e6 (by omega) (by omega) (fun i _ hne => rfl) (fun z => by omega)) (fun i hi => hG i (by omega)) st
theorem m_swap {t a b : Nat} (ha : a < mlen t) (hb : b < mlen t) (hm : mlen t < 1000) {Q : MS → Prop} (hq : ∀ x', x'.1 = m.1 → x'.2.2 = m.2.2 → (∀ u, u ≠ t → x'.2.1 u = m.2.1 u) → (∀ j, x'.2.1 t j = m.2.1 t (if j = b then a else if j = a then b else j)) → Q x') : wp_X12_swapInts m t (zI a) (zI b) Q := by
  refine ⟨zI_in (by omega) (by omega) (by omega), zI_in (by omega) (by omega) (by omega), zI_in (by omega) (by omega) (by omega), fun x1 e1 => ⟨zI_in (by omega) (by omega) (by omega), fun x2 e2 => ?_⟩⟩
  rw [zI_clN (by omega), zI_clN (by omega)] at e1 e2
  refine hq x2 (by rw [e2, e1]; rfl) (by rw [e2, e1]; rfl) (fun u hu => ?_) (fun j => ?_)
  · rw [e2, e1]; simp only [mA, va_up]; simp [hu]
  · rw [e2, e1]; simp only [mA, va_up]; simp only [if_true, upd]
    by_cases e : j = b
    · simp [e]
    · simp only [e, if_false]
      by_cases e2 : j = a
      · simp [e2]
      · simp [e2]
/-- the cells' rows in another order -/
def RW (m x : MS) (σ : Nat → Nat) : Prop := x.1 = m.1 ∧ (∀ t, 6 ≤ t → x.2.1 t = m.2.1 t) ∧ x.2.2 = m.2.2 ∧ (∀ p, p < 6 → x.2.1 1 p = m.2.1 1 (σ p)) ∧ ∀ t, 2 ≤ t → t < 6 → ∀ p, p < 6 → ∀ i, i < 8 → x.2.1 t (8 * p + i) = m.2.1 t (8 * σ p + i)
/-- of cells k and 5 the first s layers are swapped -/
def tw (k p : Nat) : Nat := if p = 5 then k else if p = k then 5 else p
def IW (m x : MS) (k s : Nat) : Prop := x.1 = m.1 ∧ (∀ t, 6 ≤ t → x.2.1 t = m.2.1 t) ∧ x.2.2 = m.2.2 ∧ (∀ p, p < 6 → x.2.1 1 p = m.2.1 1 (tw k p)) ∧ ∀ t, 2 ≤ t → t < 6 → ∀ p, p < 6 → ∀ i, i < 8 → x.2.1 t (8 * p + i) = m.2.1 t (8 * (if i < s then tw k p else p) + i)
def sk (k p : Nat) : Nat := if p = 5 then (k + 5) % 6 else if p < k then (p + 5) % 6 else p
theorem m_drifts {Q : MS → Prop} (hq : ∀ m', RW m m' (fun p => (p + 5) % 6) → Q m') : wp_X12_drifts m Q := by
  refine ⟨fun y1 x2 => ∃ k : Nat, k ≤ 5 ∧ y1 = zI k ∧ RW m x2 (sk k), fun y1 _ => 1000 - y1.toInt.toNat, ⟨0, by omega, rfl, rfl, fun _ _ => rfl, rfl, fun p hp => ?_, fun t h1 h2 p hp i hi => ?_⟩, ?_⟩
  · unfold sk; split
    · subst p; rfl
    · rfl
  · unfold sk; split
    · subst p; rfl
    · rfl
  rintro y1 x2 ⟨k, hk, rfl, hR⟩
  rw [show (5 : Int32) = zI (5 : Nat) from rfl, zI_le (by omega) (by omega) (by omega) (by omega)]
  refine ⟨fun c => ?_, fun c => ?_⟩
  · have e : k = 5 := by omega
    subst e
    obtain ⟨r1, r2, r3, r4, r5⟩ := hR
    have es : ∀ p, p < 6 → sk 5 p = (p + 5) % 6 := fun p hp => by
      unfold sk
      split
      · subst p; rfl
      · rw [if_pos (by omega)]
    exact hq x2 ⟨r1, r2, r3, fun p hp => by rw [r4 p hp, es p hp], fun t h1 h2 p hp i hi => by rw [r5 t h1 h2 p hp i hi, es p hp]⟩
  refine m_swap (t := 1) (by show k < 6; omega) (by show 5 < 6; omega) (by show 6 < 1000; omega) (fun x3 a1 a2 a3 a4 => ?_)
  have h0 : IW x2 x3 k 0 := ⟨a1, fun t ht => a3 t (by omega), a2, fun p hp => a4 p, fun t h1 h2 p hp i hi => by rw [a3 t (by omega), if_neg (by omega)]⟩
  refine ⟨fun y4 x5 => ∃ s : Nat, s ≤ 8 ∧ y4 = zI s ∧ IW x2 x5 k s, fun y4 _ => 1000 - y4.toInt.toNat, ⟨0, by omega, rfl, h0⟩, ?_⟩
  rintro y4 x5 ⟨s, hs, rfl, h5⟩
  rw [show (8 : Int32) = zI 8 from rfl, zI_le (by omega) (by omega) (by omega) (by omega)]
  refine ⟨fun c2 => ?_, fun c2 => ?_⟩
  · have e : s = 8 := by omega
    subst e
    rw [zI_p1]
    refine ⟨⟨k + 1, by omega, rfl, ?_⟩, mux 1000 (by omega) (by omega) (by omega)⟩
    obtain ⟨r1, r2, r3, r4, r5⟩ := hR
    obtain ⟨q1, q2, q3, q4, q5⟩ := h5
    have es : ∀ p, p < 6 → sk k (tw k p) = sk (k + 1) p ∧ tw k p < 6 := fun p hp => by
      unfold sk tw
      by_cases e5 : p = 5
      · subst e5
        rw [if_pos rfl, if_pos rfl, if_neg (by omega), if_neg (by omega)]
        omega
      · rw [if_neg e5, if_neg e5]
        by_cases ek : p = k
        · subst ek
          rw [if_pos rfl, if_pos rfl, if_pos (by omega)]; omega
        · rw [if_neg ek, if_neg e5]
          by_cases el : p < k
          · rw [if_pos el, if_pos (by omega)]; omega
          · rw [if_neg el, if_neg (by omega)]; omega
    refine ⟨q1.trans r1, fun t ht => (q2 t ht).trans (r2 t ht), q3.trans r3, fun p hp => ?_, fun t h1 h2 p hp i hi => ?_⟩
    · rw [q4 p hp, r4 _ (es p hp).2, (es p hp).1]
    · rw [q5 t h1 h2 p hp i hi, if_pos hi, r5 t h1 h2 _ (es p hp).2 i hi, (es p hp).1]
  have ea : (zI 8 : Int32) * zI (k : Int) + zI (s : Int) = zI ((8 * k + s : Nat) : Int) := a8
  have eb : (40 : Int32) + zI (s : Int) = zI ((40 + s : Nat) : Int) := by rw [show (40 : Int32) = zI 40 from rfl, zI_add]; exact zI_c (by omega)
  rw [ea, eb]
  refine m_swap (t := 2) (by show _ < 48; omega) (by show _ < 48; omega) (by show 48 < 1000; omega) (fun x6 b1 b2 b3 b4 => ?_)
  refine m_swap (t := 3) (by show _ < 48; omega) (by show _ < 48; omega) (by show 48 < 1000; omega) (fun x7 d1 d2 d3 d4 => ?_)
  refine m_swap (t := 4) (by show _ < 48; omega) (by show _ < 48; omega) (by show 48 < 1000; omega) (fun x8 f1 f2 f3 f4 => ?_)
  refine m_swap (t := 5) (by show _ < 48; omega) (by show _ < 48; omega) (by show 48 < 1000; omega) (fun x9 g1 g2 g3 g4 => ?_)
  rw [zI_p1]
  refine ⟨⟨s + 1, by omega, rfl, ?_⟩, mux 1000 (by omega) (by omega) (by omega)⟩
  obtain ⟨q1, q2, q3, q4, q5⟩ := h5
  have al : ∀ t, 2 ≤ t → t < 6 → ∀ j, x9.2.1 t j = x5.2.1 t (if j = 40 + s then 8 * k + s else if j = 8 * k + s then 40 + s else j) := fun t h1 h2 j => by
    have : t = 2 ∨ t = 3 ∨ t = 4 ∨ t = 5 := by omega
    rcases this with rfl | rfl | rfl | rfl
    · rw [g3 2 (by omega), f3 2 (by omega), d3 2 (by omega), b4]
    · rw [g3 3 (by omega), f3 3 (by omega), d4, b3 3 (by omega)]
    · rw [g3 4 (by omega), f4, d3 4 (by omega), b3 4 (by omega)]
    · rw [g4, f3 5 (by omega), d3 5 (by omega), b3 5 (by omega)]
  refine ⟨(g1.trans (f1.trans (d1.trans b1))).trans q1, fun t ht => ?_, (g2.trans (f2.trans (d2.trans b2))).trans q3, fun p hp => ?_, fun t h1 h2 p hp i hi => ?_⟩
  · rw [g3 t (by omega), f3 t (by omega), d3 t (by omega), b3 t (by omega)]; exact q2 t ht
  · rw [g3 1 (by omega), f3 1 (by omega), d3 1 (by omega), b3 1 (by omega)]; exact q4 p hp
  · rw [al t h1 h2]
    by_cases e : i = s
    · subst e
      rw [show (if i < i + 1 then tw k p else p) = tw k p from if_pos (by omega)]
      unfold tw
      by_cases e5 : p = 5
      · rw [if_pos (by omega), if_pos e5, q5 t h1 h2 k (by omega) i hi, if_neg (by omega)]
      · rw [if_neg (by omega), if_neg e5]
        by_cases ek : p = k
        · rw [if_pos (by omega), if_pos ek, show 40 + i = 8 * 5 + i by omega, q5 t h1 h2 5 (by omega) i hi, if_neg (by omega)]
        · rw [if_neg (by omega), if_neg ek, q5 t h1 h2 p hp i hi, if_neg (by omega)]
    · rw [if_neg (by omega), if_neg (by omega), q5 t h1 h2 p hp i hi]
      by_cases el : i < s
      · rw [if_pos el, if_pos (by omega)]
      · rw [if_neg el, if_neg (by omega)]
end LMV
