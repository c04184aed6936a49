/-! ===== the reference as one value ===== -/
def sM (m : MS) (d : Nat) (S : SH) : Prop := m.2.1 11 d = zI (shH S) ∧ (shH S = 1 → m.2.1 12 d = zI (shK S) ∧ m.2.1 13 d = zI (shO S)) ∧ (shH S = 2 → m.2.1 14 d = zI (shT S) ∧ m.2.1 15 d = zI (shN S) ∧ ∀ i, i < 100 → m.2.2.1 16 (100 * d + i) = lJ (shE S i))
/-- row q holds a lake -/
def IM (m : MS) (q : Nat) (L : LK) : Prop := ∃ y : MS, LM y L ∧ ∀ j, j < 199 → m.2.1 q j = getL y j
def MR (m : MS) (A : AS) : Prop := (LM m A.1 ∧ lO A.1) ∧ (m.1 9 = zI (if A.2.1.isSome = true then 1 else 0) ∧ ∀ L, A.2.1 = some L → IM m 7 L ∧ lO L) ∧ ∀ d, d < 8 → sM m d (A.2.2 d) ∧ sOK (A.2.2 d)
theorem getL_LM {y z : MS} {L : LK} (ok : lO L) (h : LM y L) (e : ∀ j, j < 199 → getL z j = getL y j) : LM z L := by
  have g0 : ∀ m : MS, getL m 0 = m.1 0 := fun _ => rfl
  have g1 : ∀ (m : MS) c, c < 6 → getL m (1 + c) = m.2.1 1 c := fun m c hc => by unfold getL; rw [if_neg (by omega), if_pos (by omega), show 1 + c - 1 = c by omega]
  have g2 : ∀ (m : MS) k t, t < 4 → getL m (7 + 4 * k + t) = m.2.1 (2 + t) k := fun m k t ht => by
    unfold getL
    rw [if_neg (by omega), if_neg (by omega), show (7 + 4 * k + t - 7) % 4 = t by omega, show (7 + 4 * k + t - 7) / 4 = k by omega]
  refine ⟨by rw [← g0 z, e 0 (by omega), g0]; exact h.1, fun c hc => ⟨by rw [← g1 z c hc, e _ (by omega), g1 y c hc]; exact (h.2 c hc).1, fun i hi => ?_⟩⟩
  have hn := (ok.2 c hc).1
  have r : ∀ t, t < 4 → z.2.1 (2 + t) (8 * c + i) = y.2.1 (2 + t) (8 * c + i) := fun t ht => by rw [← g2 z _ t ht, e _ (by omega), g2 y _ t ht]
  obtain ⟨a1, a2, a3, a4⟩ := (h.2 c hc).2 i hi
  exact ⟨(r 0 (by omega)).trans a1, (r 1 (by omega)).trans a2, (r 2 (by omega)).trans a3, (r 3 (by omega)).trans a4⟩
section MRT
variable {m m' : MS} {A : AS} {L : LK} {S : SH}
/-- what the relation reads beside the lake stays -/
def MK (m m' : MS) : Prop := m'.1 9 = m.1 9 ∧ m'.2.1 7 = m.2.1 7 ∧ (∀ t, 11 ≤ t → t < 16 → m'.2.1 t = m.2.1 t) ∧ m'.2.2.1 16 = m.2.2.1 16
theorem MK_rf (m : MS) : MK m m := ⟨rfl, rfl, fun _ _ _ => rfl, rfl⟩
theorem MK_tr {m1 m2 m3 : MS} (h1 : MK m1 m2) (h2 : MK m2 m3) : MK m1 m3 := ⟨h2.1.trans h1.1, h2.2.1.trans h1.2.1, fun t a b => (h2.2.2.1 t a b).trans (h1.2.2.1 t a b), h2.2.2.2.trans h1.2.2.2⟩
theorem MK_F (h : MF m m') : MK m m' := ⟨h.1 9 (by omega), h.2.1 7 (by omega), fun t _ _ => h.2.1 t (by omega), by rw [h.2.2]⟩
theorem MK_C {c : Nat} (h : MC m m' c) : MK m m' := MK_F (MC_MF h)
theorem MK_I (m : MS) {k : Nat} (hk : k ≠ 9) (v : Int32) : MK m (mI m k v) := ⟨by simp only [mI]; rw [if_neg (fun z => hk z.symm)], rfl, fun _ _ _ => rfl, rfl⟩
theorem sM_on {d : Nat} (h : sM m d S) (a1 : ∀ t, 11 ≤ t → t < 16 → m'.2.1 t = m.2.1 t) (a2 : m'.2.2.1 16 = m.2.2.1 16) : sM m' d S := by
  obtain ⟨h1, h2, h3⟩ := h
  refine ⟨by rw [a1 11 (by omega) (by omega)]; exact h1, fun z => by rw [a1 12 (by omega) (by omega), a1 13 (by omega) (by omega)]; exact h2 z, fun z => by rw [a1 14 (by omega) (by omega), a1 15 (by omega) (by omega), a2]; exact h3 z⟩
theorem sM_K {d : Nat} (h : sM m d S) (hK : MK m m') : sM m' d S := by
  obtain ⟨h1, h2, h3⟩ := h
  refine ⟨by rw [hK.2.2.1 11 (by omega) (by omega)]; exact h1, fun z => by rw [hK.2.2.1 12 (by omega) (by omega), hK.2.2.1 13 (by omega) (by omega)]; exact h2 z, fun z => by rw [hK.2.2.1 14 (by omega) (by omega), hK.2.2.1 15 (by omega) (by omega), hK.2.2.2]; exact h3 z⟩
theorem MR_L (h : MR m A) (hK : MK m m') (hL : LM m' L) (ok : lO L) : MR m' (L, A.2) :=
  ⟨⟨hL, ok⟩, ⟨hK.1.trans h.2.1.1, fun L hL => ⟨by obtain ⟨y, q1, q2⟩ := (h.2.1.2 L hL).1; exact ⟨y, q1, fun j hj => by rw [hK.2.1]; exact q2 j hj⟩, (h.2.1.2 L hL).2⟩⟩, fun d hd => ⟨sM_K (h.2.2 d hd).1 hK, (h.2.2 d hd).2⟩⟩
theorem MR_6 (h : MR m A) (v : Int32) : MR (mI m 6 v) A := MR_L h (MK_I m (by omega) v) (LM_6 h.1.1 6 (by omega) v) h.1.2
/-- the lake laid by into row 6 -/
theorem m_open (h : MR m A) {Q : MS → Prop} (hq : ∀ x', MR x' A → IM x' 6 A.1 → MK m x' → (∀ k, k ≠ 0 → k ≠ 10 → k ≠ 11 → x'.1 k = m.1 k) → (∀ t, 8 ≤ t → x'.2.1 t = m.2.1 t) → x'.2.2.1 = m.2.2.1 → Q x') : wp_X12_open m Q := by
  refine m_carryAll (b := true) (Or.inl rfl) (fun x' hC => ?_)
  obtain ⟨⟨_, _, _, c4, c5, c6⟩, c7, _⟩ := hC
  obtain ⟨c7, c8⟩ := c7 rfl
  have hK : MK m x' := ⟨c5 9 (by omega) (by omega) (by omega), c6 7 (by omega) (by omega), fun t _ _ => c6 t (by omega) (by omega), by rw [c4]⟩
  exact hq x' (MR_L h hK (getL_LM h.1.2 h.1.1 (fun j _ => c8 j)) h.1.2) ⟨m, h.1.1, c7⟩ hK c5 (fun t ht => c6 t (by omega) (by omega)) c4
/-- the lake taken from row 6 again -/
theorem m_close (h : MR m A) {L : LK} (ok : lO L) (hI : IM m 6 L) {Q : MS → Prop} (hq : ∀ x', MR x' (L, A.2) → (∀ k, k ≠ 0 → k ≠ 10 → k ≠ 11 → x'.1 k = m.1 k) → (∀ t, 8 ≤ t → x'.2.1 t = m.2.1 t) → Q x') : wp_X12_close m Q := by
  refine m_carryAll (b := false) (Or.inl rfl) (fun x' hC => ?_)
  obtain ⟨⟨_, _, _, c4, c5, c6⟩, _, c8⟩ := hC
  obtain ⟨c8, c9⟩ := c8 rfl
  have hK : MK m x' := ⟨c5 9 (by omega) (by omega) (by omega), c6 7 (by omega) (by omega), fun t _ _ => c6 t (by omega) (by omega), by rw [c4]⟩
  obtain ⟨y, y1, y2⟩ := hI
  exact hq x' (MR_L h hK (getL_LM ok y1 (fun j hj => (c9 j hj).trans (y2 j hj))) ok) c5 (fun t ht => c6 t (by omega) (by omega))
theorem IM_keep {q : Nat} (h : IM m q L) (e : m'.2.1 q = m.2.1 q) : IM m' q L := by
  obtain ⟨y, y1, y2⟩ := h
  exact ⟨y, y1, fun j hj => by rw [e]; exact y2 j hj⟩
theorem m_iceOf (ok : lO L) (h : LM m L) {c : Nat} (hc : c < 6) {Q : Int32 → Prop} (hq : Q (zI ((sg (L.2.2.2.2.2 c) (L.2.1 c) : Nat) : Int))) : wp_X12_iceOf m (zI c) Q := by
  have okc := ok.2 c hc
  have hn := okc.1
  have hC := h.2 c hc
  refine ⟨fun y1 y2 => ∃ i : Nat, i ≤ L.2.1 c ∧ y2 = zI i ∧ y1 = zI ((sg (L.2.2.2.2.2 c) i : Nat) : Int), fun _ y2 => 1000 - y2.toInt.toNat, ⟨0, by omega, rfl, rfl⟩, ?_⟩
  rintro y1 y2 ⟨i, hi, rfl, rfl⟩
  refine ⟨c6 hc, ?_⟩
  rw [zI_clN (by omega), hC.1, zI_le (by omega) (by omega) (by omega) (by omega)]
  refine ⟨fun c1 => by rw [show L.2.1 c = i by omega] at hq; exact hq, fun c1 => ?_⟩
  rw [a8, zI_clN (by omega), (hC.2 i (by omega)).2.2.2, zI_p1, zI_add]
  exact ⟨c48 (by omega), ⟨i + 1, by omega, rfl, by rw [sg_s]; exact zI_c (by omega)⟩, mux 1000 (by omega) (by omega) (by omega)⟩
theorem m_iceOfAll (ok : lO L) (h : LM m L) {Q : Int32 → Prop} (hq : Q (zI (icL L))) : wp_X12_iceOfAll m Q := by
  refine ⟨fun y1 y2 => ∃ c : Nat, c ≤ 6 ∧ y2 = zI c ∧ y1 = zI ((sg (fun c => sg (L.2.2.2.2.2 c) (L.2.1 c)) c : Nat) : Int), fun _ y2 => 1000 - y2.toInt.toNat, ⟨0, by omega, rfl, rfl⟩, ?_⟩
  rintro y1 y2 ⟨c, hc, rfl, rfl⟩
  rw [show (6 : Int32) = zI 6 from rfl, zI_le (by omega) (by omega) (by omega) (by omega)]
  refine ⟨fun c1 => by rw [show c = 6 by omega]; exact hq, fun c1 => m_iceOf ok h (by omega) ?_⟩
  rw [zI_p1, zI_add]
  exact ⟨⟨c + 1, by omega, rfl, by rw [sg_s]; exact zI_c (by omega)⟩, mux 1000 (by omega) (by omega) (by omega)⟩
theorem y_image (h : MR m A) {Q : Int32 → MS → Prop} (hq : ∀ x', MR x' (aImage A).2 → Q (zI (aImage A).1) x') : wp_X12_image m Q := by
  rintro x1 rfl x2 rfl
  refine m_carryAll (b := true) (Or.inr rfl) (fun x' hC => ?_)
  obtain ⟨⟨_, _, _, c4, c5, c6⟩, c7, _⟩ := hC
  obtain ⟨c7, c8⟩ := c7 rfl
  have h2 : LM (mI (mI m 6 0) 9 1) A.1 := LM_6 (LM_6 h.1.1 6 (by omega) 0) 9 (by omega) 1
  have hL : LM x' A.1 := getL_LM h.1.2 h2 (fun j _ => c8 j)
  refine m_iceOfAll h.1.2 hL (hq x' ⟨⟨hL, h.1.2⟩, ⟨?_, fun L hL' => ?_⟩, fun d hd => ⟨sM_on (h.2.2 d hd).1 (fun t _ _ => c6 t (by omega) (by omega)) (by rw [c4]; rfl), (h.2.2 d hd).2⟩⟩)
  · rw [c5 9 (by omega) (by omega) (by omega)]; simp [mI, aImage]; rfl
  · have e : A.1 = L := by simpa [aImage] using hL'
    subst e; exact ⟨⟨_, h2, c7⟩, h.1.2⟩
theorem y_restore (h : MR m A) {Q : Int32 → MS → Prop} (hq : ∀ x', MR x' (aRestore A).2 → Q (zI (aRestore A).1) x') : wp_X12_restore m Q := by
  unfold aRestore at hq
  rintro x1 rfl
  have h9 : (mI m 6 0).1 9 = zI (if A.2.1.isSome = true then 1 else 0) := by rw [← h.2.1.1]; simp [mI]
  rw [h9]
  cases hL : A.2.1 with
  | none =>
    rw [hL] at hq
    exact ⟨fun c => absurd rfl c, fun _ => hq _ (MR_6 h 0)⟩
  | some L =>
    rw [hL] at hq
    refine ⟨fun _ => ?_, fun c => absurd c (by simp; decide)⟩
    obtain ⟨⟨y, y1, y2⟩, ok⟩ := h.2.1.2 L hL
    refine m_carryAll (b := false) (Or.inr rfl) (fun x' hC => ?_)
    obtain ⟨⟨_, _, _, c4, c5, c6⟩, _, c8⟩ := hC
    obtain ⟨c8, c9⟩ := c8 rfl
    have hK : MK m x' := ⟨by rw [c5 9 (by omega) (by omega) (by omega)]; simp [mI], c8, fun t _ _ => c6 t (by omega) (by omega), by rw [c4]; rfl⟩
    have hl : LM x' L := getL_LM ok y1 (fun j hj => (c9 j hj).trans (y2 j hj))
    exact m_iceOfAll ok hl (hq x' (MR_L h hK hl ok))
end MRT
