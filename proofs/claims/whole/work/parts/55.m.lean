/-! ===== the reference reads a text: bytes, digits, statements ===== -/
/-- what is read at a place: the byte without its sign, -1 behind the end -/
def hrS (S : SH) (p : Nat) : Int := if p < shN S then (if vlS S p < 0 then vlS S p + 256 else vlS S p) else -1
theorem vlS_8 {S : SH} (okS : sOK S) (hT : shT S = 0) (p : Nat) : -128 ≤ vlS S p ∧ vlS S p ≤ 127 := by
  obtain ⟨_, _, _, _, h5, h6⟩ := okS
  unfold vlS
  split
  · exact (h6 _ (by omega)).2.2.1 hT
  · omega
theorem hrS_b {S : SH} (okS : sOK S) (hT : shT S = 0) (p : Nat) : -1 ≤ hrS S p ∧ hrS S p ≤ 255 := by
  have hv := vlS_8 okS hT p
  unfold hrS
  split
  · split <;> omega
  · omega
theorem hrS_eq {S : SH} (okS : sOK S) (hT : shT S = 0) (p : Nat) {l : Int} (h1 : 1 ≤ l) (h2 : l ≤ 127) : hrS S p = l ↔ vlS S p = l := by
  have hv := vlS_8 okS hT p
  unfold hrS
  split
  · split <;> omega
  · rw [vlS_past (by omega)]; omega
theorem dg_cases {S : SH} (okS : sOK S) (hT : shT S = 0) (p : Nat) : (p < shN S ∧ 0 ≤ dgS S p ∧ dgS S p = vlS S p - 48 ∧ 48 ≤ hrS S p ∧ hrS S p ≤ 57) ∨ (dgS S p = -1 ∧ ¬ (48 ≤ hrS S p ∧ hrS S p ≤ 57)) := by
  have hv := vlS_8 okS hT p
  by_cases c : 48 ≤ vlS S p ∧ vlS S p ≤ 57
  · have e1 : dgS S p = vlS S p - 48 := by unfold dgS; rw [if_pos c]
    have hp : p < shN S := by
      by_cases q : p < shN S
      · exact q
      · rw [vlS_past (by omega)] at c; omega
    have e2 : hrS S p = vlS S p := by unfold hrS; rw [if_pos hp, if_neg (by omega)]
    exact Or.inl ⟨hp, by omega, e1, by omega, by omega⟩
  · have e1 : dgS S p = -1 := by unfold dgS; rw [if_neg c]
    refine Or.inr ⟨e1, ?_⟩
    unfold hrS
    split
    · split <;> omega
    · omega
theorem and255_0 : ∀ n : Nat, n < 256 → zI ((n : Int) - 128) &&& 255 = zI (if (n : Int) - 128 < 0 then (n : Int) - 128 + 256 else (n : Int) - 128) := by decide +kernel
theorem and255 {v : Int} (h1 : -128 ≤ v) (h2 : v ≤ 127) : zI v &&& 255 = zI (if v < 0 then v + 256 else v) := by
  obtain ⟨n, hn, rfl⟩ : ∃ n : Nat, n < 256 ∧ v = (n : Int) - 128 := ⟨(v + 128).toNat, by omega, by omega⟩
  exact and255_0 n hn
theorem slen_cases (v : Int) : (v = 99 ∧ slen v = 5) ∨ (v = 100 ∧ slen v = 2) ∨ (v = 110 ∧ slen v = 6) ∨ (v = 116 ∧ slen v = 3) ∨ (v = 119 ∧ slen v = 2) ∨ (v ≠ 99 ∧ v ≠ 100 ∧ v ≠ 110 ∧ v ≠ 116 ∧ v ≠ 119 ∧ slen v = 0) := by
  unfold slen
  split
  · omega
  split
  · omega
  split
  · omega
  split
  · omega
  split <;> omega
/-- all but what the reading of a text uses stays -/
def TF (m x : MS) : Prop := (∀ j, ¬ (13 ≤ j ∧ j ≤ 17) → x.1 j = m.1 j) ∧ (∀ t, ¬ (8 ≤ t ∧ t ≤ 10) → x.2.1 t = m.2.1 t) ∧ x.2.2 = m.2.2
theorem TF_rf (m : MS) : TF m m := ⟨fun _ _ => rfl, fun _ _ => rfl, rfl⟩
theorem TF_tr {m1 m2 m3 : MS} (h1 : TF m1 m2) (h2 : TF m2 m3) : TF m1 m3 := ⟨fun j h => (h2.1 j h).trans (h1.1 j h), fun t h => (h2.2.1 t h).trans (h1.2.1 t h), h2.2.2.trans h1.2.2⟩
theorem TF_I (m : MS) {k : Nat} (h1 : 13 ≤ k) (h2 : k ≤ 17) (v : Int32) : TF m (mI m k v) := ⟨fun j hj => by simp only [mI]; rw [if_neg (by omega)], fun _ _ => rfl, rfl⟩
theorem TF_A (m : MS) {t : Nat} (h1 : 8 ≤ t) (h2 : t ≤ 10) (f : Nat → Int32) : TF m (mA m t f) := ⟨fun _ _ => rfl, fun u hu => by simp only [mA, va_up]; rw [if_neg (by omega)], rfl⟩
/-- rows of the statements before k stay -/
def TW (m x : MS) (k : Nat) : Prop := (∀ i, i < k → x.2.1 8 i = m.2.1 8 i ∧ x.2.1 9 i = m.2.1 9 i) ∧ ∀ i, i < 4 * k → x.2.1 10 i = m.2.1 10 i
theorem TW_rf (m : MS) (k : Nat) : TW m m k := ⟨fun _ _ => ⟨rfl, rfl⟩, fun _ _ => rfl⟩
theorem TW_tr {m1 m2 m3 : MS} {k : Nat} (h1 : TW m1 m2 k) (h2 : TW m2 m3 k) : TW m1 m3 k := ⟨fun i h => ⟨(h2.1 i h).1.trans (h1.1 i h).1, (h2.1 i h).2.trans (h1.1 i h).2⟩, fun i h => (h2.2 i h).trans (h1.2 i h)⟩
theorem TW_8 (m : MS) (k : Nat) (v : Int32) : TW m (mA m 8 (upd (m.2.1 8) k v)) k := by
  refine ⟨fun i hi => ⟨?_, rfl⟩, fun i hi => rfl⟩
  have : ¬ i = k := by omega
  simp [mA, va_up, upd, this]
theorem TW_9 (m : MS) (k : Nat) (v : Int32) : TW m (mA m 9 (upd (m.2.1 9) k v)) k := by
  refine ⟨fun i hi => ⟨rfl, ?_⟩, fun i hi => rfl⟩
  have : ¬ i = k := by omega
  simp [mA, va_up, upd, this]
theorem TW_10 (m : MS) {k t : Nat} (ht : 4 * k ≤ t) (v : Int32) : TW m (mA m 10 (upd (m.2.1 10) t v)) k := by
  refine ⟨fun i hi => ⟨rfl, rfl⟩, fun i hi => ?_⟩
  have : ¬ i = t := by omega
  simp [mA, va_up, upd, this]
/-- where the reading stands: at p, bad or not, k statements -/
def TS (x : MS) (d : Nat) (S : SH) (p b k : Nat) : Prop := x.1 13 = zI ((100 * d : Nat) : Int) ∧ x.1 14 = zI (shN S) ∧ x.1 15 = zI p ∧ x.1 16 = zI b ∧ x.1 17 = zI k
section TSX
variable {m m' x : MS} {A : AS} {L : LK} {S : SH} {d p b k : Nat}
theorem TS_16 (h : TS x d S p b k) (v : Nat) : TS (mI x 16 (zI v)) d S p v k := ⟨by simpa [mI] using h.1, by simpa [mI] using h.2.1, by simpa [mI] using h.2.2.1, by simp [mI], by simpa [mI] using h.2.2.2.2⟩
theorem TS_15 (h : TS x d S p b k) (v : Nat) : TS (mI x 15 (zI v)) d S v b k := ⟨by simpa [mI] using h.1, by simpa [mI] using h.2.1, by simp [mI], by simpa [mI] using h.2.2.2.1, by simpa [mI] using h.2.2.2.2⟩
theorem TS_17 (h : TS x d S p b k) (v : Nat) : TS (mI x 17 (zI v)) d S p b v := ⟨by simpa [mI] using h.1, by simpa [mI] using h.2.1, by simpa [mI] using h.2.2.1, by simpa [mI] using h.2.2.2.1, by simp [mI]⟩
theorem TS_A (h : TS x d S p b k) (t : Nat) (f : Nat → Int32) : TS (mA x t f) d S p b k := h
theorem m_here (hd : d < 8) (okS : sOK S) (hT : shT S = 0) (hE : ∀ i, i < 100 → x.2.2.1 16 (100 * d + i) = lJ (shE S i)) (h : TS x d S p b k) (hp : p ≤ 1000) {Q : Int32 → Prop} (hq : Q (zI (hrS S p))) : wp_X12_here x Q := by
  have hN := okS.2.2.2.2.1
  obtain ⟨h13, h14, h15, _, _⟩ := h
  unfold wp_X12_here
  rw [h13, h14, h15, zI_lt (by omega) (by omega) (by omega) (by omega), aN]
  unfold hrS at hq
  refine ⟨fun c => ?_, fun c => by rw [if_neg (by omega)] at hq; exact hq⟩
  rw [if_pos (by omega)] at hq
  have hv := vlS_8 okS hT p
  have ev : shE S p = vlS S p := by
    unfold vlS
    rw [if_pos (by omega)]; rfl
  rw [zI_clN (by omega), hE p (by omega), ev, zJ_l (by omega) (by omega), and255 hv.1 hv.2]
  exact ⟨zI_in (by omega) (by omega) (by omega), hq⟩
theorem m_readDigit (hd : d < 8) (okS : sOK S) (hT : shT S = 0) (hE : ∀ i, i < 100 → x.2.2.1 16 (100 * d + i) = lJ (shE S i)) (h : TS x d S p b k) (hb : b ≤ 1) (hp : p ≤ 1000) {Q : Int32 → MS → Prop}
    (hq1 : ∀ r x', (b = 1 ∨ dgS S p < 0) → TS x' d S p 1 k → x'.2 = x.2 → TF x x' → Q r x')
    (hq0 : ∀ x', b = 0 → 0 ≤ dgS S p → TS x' d S (p + 1) 0 k → x'.2 = x.2 → TF x x' → Q (zI (dgS S p)) x') : wp_X12_readDigit x Q := by
  have hN := okS.2.2.2.2.1
  have t16 := h.2.2.2.1
  unfold wp_X12_readDigit
  rw [t16, show (0 : Int32) = zI ((0 : Nat) : Int) from rfl, show (1 : Int32) = zI ((1 : Nat) : Int) from rfl, zI_eq (by omega) (by omega) (by omega) (by omega)]
  refine ⟨fun c x1 e1 => ?_, fun c => ?_⟩
  · have g : TS x1 d S p 1 k := by rw [e1]; exact TS_16 h 1
    rw [g.2.2.2.1]
    exact ⟨fun q => absurd q (by decide), fun _ => hq1 _ x1 (Or.inl (by omega)) g (by rw [e1]; rfl) (by rw [e1]; exact TF_I x (by omega) (by omega) _)⟩
  · refine m_here hd okS hT hE h hp ?_
    have hr := hrS_b okS hT p
    rw [show (48 : Int64) = lJ 48 from rfl, show (57 : Int64) = lJ 57 from rfl]
    refine s_in (by omega) (by omega) (by omega) (by omega) (by omega) (by omega) (fun z => ⟨fun _ x6 e6 => ?_, fun q => absurd q (by decide)⟩) (fun z => ⟨fun q => absurd rfl q, fun _ x9 e9 => ?_⟩)
    · rcases dg_cases okS hT p with ⟨g1, g2, g3, g4⟩ | ⟨g1, g2⟩
      · have h6 : TS x6 d S p 0 k := by rw [e6]; exact TS_16 h 0
        rw [h6.2.2.2.1]
        refine ⟨fun _ x7 e7 => ?_, fun q => absurd rfl q⟩
        have e15 : x6.1 15 + zI ((1 : Nat) : Int) = zI ((p + 1 : Nat) : Int) := by rw [h6.2.2.1, aN]
        rw [e15] at e7
        have h7 : TS x7 d S (p + 1) 0 k := by rw [e7]; exact TS_15 h6 (p + 1)
        have sJ : x7.2.2.1 = x.2.2.1 := by rw [e7, e6]; rfl
        have hv := vlS_8 okS hT p
        have ev : shE S p = vlS S p := by
          unfold vlS
          rw [if_pos (by omega)]; rfl
        rw [h7.1, h7.2.2.1, aN, show zI ((100 * d + (p + 1) : Nat) : Int) - zI ((1 : Nat) : Int) = zI ((100 * d + p : Nat) : Int) by rw [zI_sub]; exact zI_c (by omega), zI_clN (by omega), sJ, hE p (by omega), ev, zJ_l (by omega) (by omega), show (48 : Int32) = zI 48 from rfl, zI_sub, ← g3]
        exact ⟨zI_in (by omega) (by omega) (by omega), hq0 x7 (by omega) g2 h7 (by rw [e7, e6]; rfl) (by rw [e7, e6]; exact TF_tr (TF_I x (by omega) (by omega) _) (TF_I _ (by omega) (by omega) _))⟩
      · exact absurd z g2
    · have g : TS x9 d S p 1 k := by rw [e9]; exact TS_16 h 1
      rw [g.2.2.2.1]
      refine ⟨fun q => absurd q (by decide), fun _ => hq1 _ x9 (Or.inr ?_) g (by rw [e9]; rfl) (by rw [e9]; exact TF_I x (by omega) (by omega) _)⟩
      rcases dg_cases okS hT p with ⟨g1, g2, g3, g4⟩ | ⟨g1, g2⟩
      · exact absurd g4 z
      · omega
/-- the first bad byte of the statement at p -/
def rsS (S : SH) (p : Nat) : Option Nat := if slen (vlS S p) = 0 then some p else scB S (p + slen (vlS S p)) (slen (vlS S p) - 1) (p + 1)
theorem fbB_rs (S : SH) (r p : Nat) : fbB S (r + 1) p = match rsS S p with
    | some q => (q : Int)
    | none => if p + slen (vlS S p) < shN S then fbB S r (p + slen (vlS S p)) else -1 := by
  unfold rsS
  conv => lhs; unfold fbB
  split
  · rfl
  · rfl
theorem a4 {c i : Nat} : (4 : Int32) * zI (c : Int) + zI (i : Int) = zI ((4 * c + i : Nat) : Int) := by rw [show (4 : Int32) = zI 4 from rfl, zI_mul, zI_add]; exact zI_c (by omega)
theorem m_readStatement (hd : d < 8) (okS : sOK S) (hT : shT S = 0) (hE : ∀ i, i < 100 → x.2.2.1 16 (100 * d + i) = lJ (shE S i)) (h : TS x d S p 0 k) (hp : p ≤ 200) (hk : k ≤ 49) {Q : MS → Prop}
    (hq1 : ∀ x' q, rsS S p = some q → TS x' d S q 1 (k + 1) → TF x x' → Q x')
    (hq0 : ∀ x', rsS S p = none → slen (vlS S p) ≠ 0 → TS x' d S (p + slen (vlS S p)) 0 (k + 1) → TF x x' → TW x x' k → x'.2.1 8 k = zI p → x'.2.1 9 k = zI (vlS S p) → (∀ j, j + 2 < slen (vlS S p) → x'.2.1 10 (4 * k + j) = zI (dgS S ((p + 1 + j : Nat) : Int))) → Q x') : wp_X12_readStatement x Q := by
  have hN := okS.2.2.2.2.1
  have hv := vlS_8 okS hT p
  have hr := hrS_b okS hT p
  have hsc := slen_cases (vlS S p)
  have hl : ∀ l : Int, 1 ≤ l → l ≤ 127 → (zI (hrS S p) = zI l ↔ vlS S p = l) := fun l h1 h2 => (zI_eq (by omega) (by omega) (by omega) (by omega)).trans (hrS_eq okS hT p h1 h2)
  obtain ⟨B, hB⟩ : ∃ B : Nat, (slen (vlS S p) = 0 ∧ B = 1) ∨ (slen (vlS S p) ≠ 0 ∧ B = 0) := by
    by_cases c : slen (vlS S p) = 0
    · exact ⟨1, Or.inl ⟨c, rfl⟩⟩
    · exact ⟨0, Or.inr ⟨c, rfl⟩⟩
  refine m_here hd okS hT hE h (by omega) ?_
  rw [h.2.2.1, h.2.2.2.2, zI_clN (a := k) (by omega), show (110 : Int32) = zI 110 from rfl, show (116 : Int32) = zI 116 from rfl, show (99 : Int32) = zI 99 from rfl, show (100 : Int32) = zI 100 from rfl, show (119 : Int32) = zI 119 from rfl, hl 110 (by omega) (by omega), hl 116 (by omega) (by omega), hl 99 (by omega) (by omega), hl 100 (by omega) (by omega), hl 119 (by omega) (by omega)]
  refine ⟨zI_in (by omega) (by omega) (by omega), fun x2 e2 => ⟨zI_in (by omega) (by omega) (by omega), fun x3 e3 => ?_⟩⟩
  have h3 : TS x3 d S p 0 k := by rw [e3, e2]; exact h
  have F3 : TF x x3 := by rw [e3]; exact TF_tr (m2 := x2) (by rw [e2]; exact TF_A x (by omega) (by omega) _) (TF_A x2 (by omega) (by omega) _)
  have W3 : TW x x3 k := by rw [e3]; exact TW_tr (m2 := x2) (by rw [e2]; exact TW_8 x k _) (TW_9 x2 k _)
  have r8 : x3.2.1 8 k = zI p := by rw [e3, e2]; simp [mA, va_up, upd]
  have r9 : x3.2.1 9 k = zI (hrS S p) := by rw [e3]; simp [mA, va_up, upd]
  rw [h3.2.2.2.1]
  refine ⟨fun v => v = zI (B : Int), ⟨fun q => absurd rfl q, fun _ => ⟨fun c => ?_, fun c => ⟨fun c2 => ?_, fun c2 => ⟨fun c3 => ?_, fun c3 => ⟨fun c4 => ?_, fun c4 => ⟨fun c5 => ?_, fun c5 => ?_⟩⟩⟩⟩⟩⟩, ?_⟩
  · show zI 0 = zI (B : Int); exact zI_c (by omega)
  · show zI 0 = zI (B : Int); exact zI_c (by omega)
  · show zI 0 = zI (B : Int); exact zI_c (by omega)
  · show zI 0 = zI (B : Int); exact zI_c (by omega)
  · show zI 0 = zI (B : Int); exact zI_c (by omega)
  · show zI 1 = zI (B : Int); exact zI_c (by omega)
  rintro v10 rfl
  have hzb : zb (zI (B : Int)) := by
    rcases hB with ⟨_, rfl⟩ | ⟨_, rfl⟩
    · exact zb1
    · exact zb0
  refine ⟨hzb, fun x11 e11 => ?_⟩
  have h11 : TS x11 d S p B k := by rw [e11]; exact TS_16 h3 B
  rw [h11.2.2.2.1, show (zI (B : Int) = (0 : Int32)) ↔ (B : Int) = 0 from zI_eq (b := 0) (by omega) (by omega) (by omega) (by omega)]
  refine ⟨fun v => v = zI ((1 - B : Nat) : Int), ⟨fun c => ?_, fun c => ?_⟩, ?_⟩
  · show zI 1 = zI ((1 - B : Nat) : Int); exact zI_c (by omega)
  · show zI 0 = zI ((1 - B : Nat) : Int); exact zI_c (by omega)
  rintro v13 rfl x14 e14
  rw [h11.2.2.1, aN] at e14
  have h14 : TS x14 d S (p + (1 - B)) B k := by rw [e14]; exact TS_15 h11 _
  have F14 : TF x x14 := by rw [e14, e11]; exact TF_tr F3 (TF_tr (TF_I x3 (by omega) (by omega) _) (TF_I _ (by omega) (by omega) _))
  have W14 : TW x x14 k := by rw [e14, e11]; exact W3
  have r8' : x14.2.1 8 k = zI p := by rw [e14, e11]; exact r8
  have r9' : x14.2.1 9 k = zI (hrS S p) := by rw [e14, e11]; exact r9
  refine ⟨fun v => v = zI ((slen (vlS S p) - 2 : Nat) : Int), ⟨fun c => ⟨fun c2 => ⟨fun c3 => ?_, fun c3 => ?_⟩, fun c2 => ?_⟩, fun c => ?_⟩, ?_⟩
  · show zI 0 = zI ((slen (vlS S p) - 2 : Nat) : Int); exact zI_c (by omega)
  · show zI 1 = zI ((slen (vlS S p) - 2 : Nat) : Int); exact zI_c (by omega)
  · show zI 3 = zI ((slen (vlS S p) - 2 : Nat) : Int); exact zI_c (by omega)
  · show zI 4 = zI ((slen (vlS S p) - 2 : Nat) : Int); exact zI_c (by omega)
  rintro v18 rfl
  have hR0 : slen (vlS S p) = 0 → rsS S p = some p := fun c => by unfold rsS; rw [if_pos c]
  have hR1 : slen (vlS S p) ≠ 0 → rsS S p = scB S (p + slen (vlS S p)) (slen (vlS S p) - 1) (p + 1) := fun c => by unfold rsS; rw [if_neg c]
  generalize slen (vlS S p) = l at *
  refine ⟨fun y19 x20 => ∃ j q b : Nat, j ≤ l - 2 ∧ b ≤ 1 ∧ q ≤ p + 6 ∧ y19 = zI j ∧ TS x20 d S q b k ∧ TF x x20 ∧ TW x x20 k ∧ x20.2.1 8 k = zI p ∧ x20.2.1 9 k = zI (hrS S p) ∧ (b = 1 → rsS S p = some q) ∧ (b = 0 → l ≠ 0 ∧ q = p + 1 + j ∧ rsS S p = scB S (p + l) (l - 1 - j) (p + 1 + j) ∧ ∀ t, t < j → x20.2.1 10 (4 * k + t) = zI (dgS S ((p + 1 + t : Nat) : Int))), fun y19 _ => 1000 - y19.toInt.toNat, ⟨0, p + (1 - B), B, by omega, by omega, by omega, rfl, h14, F14, W14, r8', r9', fun q => ?_, fun q => ⟨by omega, by omega, ?_, fun t ht => absurd ht (by omega)⟩⟩, ?_⟩
  · rw [hR0 (by omega), show p + (1 - B) = p by omega]
  · exact hR1 (by omega)
  rintro y19 x20 ⟨j, q, b, hj, hb, hqp, rfl, h20, F20, W20, s8, s9, g1, g0⟩
  have hE20 : ∀ i, i < 100 → x20.2.2.1 16 (100 * d + i) = lJ (shE S i) := fun i hi => by rw [F20.2.2]; exact hE i hi
  rw [zI_le (by omega) (by omega) (by omega) (by omega)]
  refine ⟨fun c => ?_, fun c => ?_⟩
  · rw [h20.2.2.2.1, show (zI (b : Int) = (0 : Int32)) ↔ (b : Int) = 0 from zI_eq (b := 0) (by omega) (by omega) (by omega) (by omega)]
    refine ⟨fun v => (v = zI ((1 : Nat) : Int) ∧ rsS S p = some q) ∨ (v = zI ((0 : Nat) : Int) ∧ b = 0 ∧ rsS S p = none), ⟨fun c2 => Or.inl ⟨rfl, g1 (by omega)⟩, fun c2 => m_here hd okS hT hE20 h20 (by omega) ?_⟩, ?_⟩
    · obtain ⟨a1, a2, a3, a4⟩ := g0 (by omega)
      have hq59 := (zI_eq (a := hrS S q) (b := 59) (by have := hrS_b okS hT q; omega) (by have := hrS_b okS hT q; omega) (by omega) (by omega)).trans (hrS_eq okS hT q (l := 59) (by omega) (by omega))
      rw [show (59 : Int32) = zI 59 from rfl, hq59]
      have ee : rsS S p = if vlS S q = 59 then none else some q := by
        rw [a3, show l - 1 - j = 0 + 1 by omega, show p + 1 + j = q by omega]
        show (if q + 1 = p + l then (if vlS S q = 59 then scB S (p + l) 0 (q + 1) else some q) else _) = _
        rw [if_pos (by omega)]; rfl
      refine ⟨fun c3 => Or.inr ⟨rfl, by omega, by rw [ee, if_pos c3]⟩, fun c3 => Or.inl ⟨rfl, by rw [ee, if_neg c3]⟩⟩
    · rintro v24 (⟨rfl, hR⟩ | ⟨rfl, hb0, hR⟩)
      · refine ⟨zb1, fun x25 e25 => ?_⟩
        have h25 : TS x25 d S q 1 k := by rw [e25]; exact TS_16 h20 1
        rw [h25.2.2.2.1]
        refine ⟨fun z => absurd z (by decide), fun _ x28 e28 x29 e29 => ?_⟩
        rw [h25.2.2.1, show zI (q : Int) + 0 = zI (q : Int) by simp] at e28
        have h28 : TS x28 d S q 1 k := by rw [e28]; exact TS_15 h25 q
        rw [h28.2.2.2.2, zI_p1] at e29
        exact hq1 x29 q hR (by rw [e29]; exact TS_17 h28 (k + 1)) (by rw [e29, e28, e25]; exact TF_tr F20 (TF_tr (TF_I _ (by omega) (by omega) _) (TF_tr (TF_I _ (by omega) (by omega) _) (TF_I _ (by omega) (by omega) _))))
      · obtain ⟨a1, a2, a3, a4⟩ := g0 hb0
        refine ⟨zb0, fun x25 e25 => ?_⟩
        have h25 : TS x25 d S q 0 k := by rw [e25]; exact TS_16 h20 0
        rw [h25.2.2.2.1]
        refine ⟨fun _ x26 e26 x27 e27 => ?_, fun z => absurd rfl z⟩
        rw [h25.2.2.1, zI_p1] at e26
        have h26 : TS x26 d S (q + 1) 0 k := by rw [e26]; exact TS_15 h25 (q + 1)
        rw [h26.2.2.2.2, zI_p1] at e27
        have e2 : x27.2 = x20.2 := by rw [e27, e26, e25]; rfl
        refine hq0 x27 hR a1 (by rw [e27, show p + l = q + 1 by omega]; exact TS_17 h26 (k + 1)) (by rw [e27, e26, e25]; exact TF_tr F20 (TF_tr (TF_I _ (by omega) (by omega) _) (TF_tr (TF_I _ (by omega) (by omega) _) (TF_I _ (by omega) (by omega) _)))) ?_ ?_ ?_ ?_
        · unfold TW; rw [e2]; exact W20
        · rw [e2]; exact s8
        · rw [e2, s9]
          refine zI_c ?_
          rcases hsc with ⟨z1, z2⟩ | ⟨z1, z2⟩ | ⟨z1, z2⟩ | ⟨z1, z2⟩ | ⟨z1, z2⟩ | ⟨z1, z2⟩
          · rw [z1]; exact (hrS_eq okS hT p (by omega) (by omega)).mpr z1
          · rw [z1]; exact (hrS_eq okS hT p (by omega) (by omega)).mpr z1
          · rw [z1]; exact (hrS_eq okS hT p (by omega) (by omega)).mpr z1
          · rw [z1]; exact (hrS_eq okS hT p (by omega) (by omega)).mpr z1
          · rw [z1]; exact (hrS_eq okS hT p (by omega) (by omega)).mpr z1
          · exact absurd z2.2.2.2.2 a1
        · rw [e2]; exact fun t ht => a4 t (by omega)
  · have nx : ∀ (r : Int32) (x34 x36 : MS) (q' b' : Nat), x36 = mA x34 10 (upd (x34.2.1 10) (4 * k + j) r) → b' ≤ 1 → q' ≤ p + 6 → TS x34 d S q' b' k → x34.2 = x20.2 → TF x20 x34 → (b' = 1 → rsS S p = some q') → (b' = 0 → b = 0 ∧ q' = q + 1 ∧ rsS S p = scB S (p + l) (l - 1 - (j + 1)) (p + 1 + (j + 1)) ∧ r = zI (dgS S ((p + 1 + j : Nat) : Int))) → (∃ j_1 q b : Nat, j_1 ≤ l - 2 ∧ b ≤ 1 ∧ q ≤ p + 6 ∧ zI ((j + 1 : Nat) : Int) = zI j_1 ∧ TS x36 d S q b k ∧ TF x x36 ∧ TW x x36 k ∧ x36.2.1 8 k = zI p ∧ x36.2.1 9 k = zI (hrS S p) ∧ (b = 1 → rsS S p = some q) ∧ (b = 0 → l ≠ 0 ∧ q = p + 1 + j_1 ∧ rsS S p = scB S (p + l) (l - 1 - j_1) (p + 1 + j_1) ∧ ∀ t, t < j_1 → x36.2.1 10 (4 * k + t) = zI (dgS S ((p + 1 + t : Nat) : Int)))) ∧ 1000 - (zI ((j + 1 : Nat) : Int)).toInt.toNat < 1000 - (zI (j : Int)).toInt.toNat := fun r x34 x36 q' b' e36 hb' hq' h34 e34 F34 k1 k0 => by
      refine ⟨⟨j + 1, q', b', by omega, hb', hq', rfl, by rw [e36]; exact h34, by rw [e36]; exact TF_tr F20 (TF_tr F34 (TF_A x34 (by omega) (by omega) _)), ?_, ?_, ?_, k1, fun hb0 => ?_⟩, mux 1000 (by omega) (by omega) (by omega)⟩
      · have w34 : TW x x34 k := by unfold TW; rw [e34]; exact W20
        rw [e36]; exact TW_tr w34 (TW_10 x34 (by omega) _)
      · rw [e36]; show x34.2.1 8 k = zI p; rw [e34]; exact s8
      · rw [e36]; show x34.2.1 9 k = zI (hrS S p); rw [e34]; exact s9
      · obtain ⟨z1, z2, z3, z4⟩ := k0 hb0
        obtain ⟨a1, a2, a3, a4⟩ := g0 z1
        refine ⟨a1, by omega, z3, fun t ht => ?_⟩
        rw [e36]
        by_cases et : t = j
        · subst et; simp [mA, va_up, upd, z4]
        · have hne : ¬ (4 * k + t = 4 * k + j) := by omega
          have := a4 t (by omega)
          rw [← e34] at this
          simpa [mA, va_up, upd, hne, et] using this
    have eS : b = 0 → rsS S p = if 0 ≤ dgS S q then scB S (p + l) (l - 1 - (j + 1)) (p + 1 + (j + 1)) else some q := fun hb0 => by
      obtain ⟨a1, a2, a3, a4⟩ := g0 hb0
      rw [a3, show l - 1 - j = (l - 1 - (j + 1)) + 1 by omega, show p + 1 + j = q by omega, show p + 1 + (j + 1) = q + 1 by omega]
      show (if q + 1 = p + l then _ else (if 0 ≤ dgS S q then scB S (p + l) (l - 1 - (j + 1)) (q + 1) else some q)) = _
      rw [if_neg (by omega)]
    have hqb : b = 0 → q = p + 1 + j := fun hb0 => (g0 hb0).2.1
    rw [a4, zI_clN (by omega), zI_p1]
    refine m_readDigit hd okS hT hE20 h20 hb (by omega) (fun r x34 hz h34 e34 F34 => ⟨zI_in (by omega) (by omega) (by omega), fun x36 e36 => nx r x34 x36 q 1 e36 (by omega) hqp h34 e34 F34 (fun _ => ?_) (fun z => absurd z (by omega))⟩) (fun x34 hb0 hdg h34 e34 F34 => ⟨zI_in (by omega) (by omega) (by omega), fun x36 e36 => nx _ x34 x36 (q + 1) 0 e36 (by omega) (by have := hqb hb0; omega) h34 e34 F34 (fun z => absurd z (by omega)) (fun _ => ⟨hb0, rfl, ?_, ?_⟩)⟩)
    · by_cases hb1 : b = 1
      · exact g1 hb1
      · rw [eS (by omega), if_neg (by omega)]
    · rw [eS hb0, if_pos hdg]
    · rw [hqb hb0]
end TSX
