/-! ===== the reference: longs, cells ===== -/
def lJ (z : Int) : Int64 := Int64.ofInt z
theorem lJ_t {a : Int} (h1 : -2147483648 ≤ a) (h2 : a < 2147483648) : (lJ a).toInt = a := Int64.toInt_ofInt_of_le (by omega) (by omega)
theorem lJ_z {a : Int} (h1 : -2147483648 ≤ a) (h2 : a < 2147483648) : Int32.toInt64 (zI a) = lJ a := by
  apply Int64.toInt_inj.mp
  rw [Int32.toInt_toInt64, zI_t h1 h2, lJ_t h1 h2]
theorem zJ_l {a : Int} (h1 : -2147483648 ≤ a) (h2 : a < 2147483648) : Int64.toInt32 (lJ a) = zI a := by
  rw [← lJ_z h1 h2]; simp
theorem lgc {a b : Int} (h1 : -2147483648 ≤ a) (h2 : a < 2147483648) (h3 : -2147483648 ≤ b) (h4 : b < 2147483648) : lg_cmp (lJ a) (lJ b) = zI (if b < a then 1 else if a = b then 0 else -1) := by
  unfold lg_cmp
  have e1 : (lJ a > lJ b) ↔ b < a := by show lJ b < lJ a ↔ _; rw [Int64.lt_iff_toInt_lt, lJ_t h1 h2, lJ_t h3 h4]
  have e2 : (lJ a = lJ b) ↔ a = b := by rw [← Int64.toInt_inj, lJ_t h1 h2, lJ_t h3 h4]
  by_cases c1 : b < a
  · rw [if_pos (e1.mpr c1), if_pos c1]; rfl
  · rw [if_neg (fun z => c1 (e1.mp z)), if_neg c1]
    by_cases c2 : a = b
    · rw [if_pos (e2.mpr c2), if_pos c2]; rfl
    · rw [if_neg (fun z => c2 (e2.mp z)), if_neg c2]; rfl
theorem s_in {p a b : Int} (h1 : -2147483648 ≤ p) (h2 : p < 2147483648) (h3 : -2147483648 ≤ a) (h4 : a < 2147483648) (h5 : -2147483648 ≤ b) (h6 : b < 2147483648) {Q : Int32 → Prop} (hy : a ≤ p ∧ p ≤ b → Q (zI 1)) (hn : ¬ (a ≤ p ∧ p ≤ b) → Q (zI 0)) : wp_X12_in (Int32.toInt64 (zI p)) (lJ a) (lJ b) Q := by
  unfold wp_X12_in
  rw [lJ_z h1 h2, lgc h1 h2 h3 h4, lgc h1 h2 h5 h6, show (0 : Int32) = zI 0 from rfl, zI_lt (by split <;> (try split) <;> omega) (by split <;> (try split) <;> omega) (by omega) (by omega), zI_lt (by omega) (by omega) (by split <;> (try split) <;> omega) (by split <;> (try split) <;> omega)]
  refine ⟨fun c => hn ?_, fun c => ⟨fun c2 => hn ?_, fun c2 => hy ?_⟩⟩
  · split at c
    · omega
    · split at c <;> omega
  · split at c2
    · omega
    · split at c2 <;> omega
  · constructor
    · split at c
      · omega
      · split at c <;> omega
    · split at c2
      · omega
      · split at c2 <;> omega
theorem s_isCell {c : Int} (h1 : -2147483648 ≤ c) (h2 : c < 2147483648) {Q : Int32 → Prop} (hy : isC c → Q (zI 1)) (hn : ¬ isC c → Q (zI 0)) : wp_X12_isCell (zI c) Q := by
  unfold wp_X12_isCell
  rw [show (0 : Int64) = lJ 0 from rfl, show (5 : Int64) = lJ 5 from rfl]
  exact s_in h1 h2 (by omega) (by omega) (by omega) (by omega) (fun z => ⟨Or.inr rfl, hy (by unfold isC; omega)⟩) (fun z => ⟨Or.inl rfl, hn (by unfold isC; omega)⟩)
/-- a cell in the reference's rows -/
def CM (m : MS) (c n : Nat) (K O W F : Nat → Nat) : Prop := m.2.1 1 c = zI n ∧ ∀ i, i < n → m.2.1 2 (8 * c + i) = zI (K i) ∧ m.2.1 3 (8 * c + i) = zI (O i) ∧ m.2.1 4 (8 * c + i) = zI (W i) ∧ m.2.1 5 (8 * c + i) = zI (F i)
def LMw (m : MS) (w : Nat) (N : Nat → Nat) (K O W F : Nat → Nat → Nat) : Prop := m.1 0 = zI w ∧ ∀ c, c < 6 → CM m c (N c) (K c) (O c) (W c) (F c)
def LM (m : MS) (L : LK) : Prop := LMw m L.1 L.2.1 L.2.2.1 L.2.2.2.1 L.2.2.2.2.1 L.2.2.2.2.2
/-- all but the lake stays -/
def MF (m m' : MS) : Prop := (∀ k, k ≠ 0 → m'.1 k = m.1 k) ∧ (∀ t, 6 ≤ t → m'.2.1 t = m.2.1 t) ∧ m'.2.2 = m.2.2
theorem MF_rf (m : MS) : MF m m := ⟨fun _ _ => rfl, fun _ _ => rfl, rfl⟩
theorem MF_tr {m1 m2 m3 : MS} (h1 : MF m1 m2) (h2 : MF m2 m3) : MF m1 m3 := ⟨fun k h => (h2.1 k h).trans (h1.1 k h), fun t h => (h2.2.1 t h).trans (h1.2.1 t h), h2.2.2.trans h1.2.2⟩
/-- only cell c's rows may be others -/
def MC (m m' : MS) (c : Nat) : Prop := m'.1 = m.1 ∧ (∀ t, 6 ≤ t → m'.2.1 t = m.2.1 t) ∧ m'.2.2 = m.2.2 ∧ (∀ d, d ≠ c → m'.2.1 1 d = m.2.1 1 d) ∧ ∀ t, 2 ≤ t → t < 6 → ∀ k, ¬ (8 * c ≤ k ∧ k < 8 * c + 8) → m'.2.1 t k = m.2.1 t k
theorem MC_rf (m : MS) (c : Nat) : MC m m c := ⟨rfl, fun _ _ => rfl, rfl, fun _ _ => rfl, fun _ _ _ _ _ => rfl⟩
theorem MC_tr {m1 m2 m3 : MS} {c : Nat} (h1 : MC m1 m2 c) (h2 : MC m2 m3 c) : MC m1 m3 c := ⟨h2.1.trans h1.1, fun t h => (h2.2.1 t h).trans (h1.2.1 t h), h2.2.2.1.trans h1.2.2.1, fun d h => (h2.2.2.2.1 d h).trans (h1.2.2.2.1 d h), fun t a b k h => (h2.2.2.2.2 t a b k h).trans (h1.2.2.2.2 t a b k h)⟩
theorem MC_MF {m m' : MS} {c : Nat} (h : MC m m' c) : MF m m' := ⟨fun k _ => by rw [h.1], h.2.1, h.2.2.1⟩
theorem MC_1 (m : MS) (c : Nat) (v : Int32) : MC m (mA m 1 (upd (m.2.1 1) c v)) c := by
  refine ⟨rfl, fun t ht => ?_, rfl, fun d hd => ?_, fun t h1 h2 k hk => ?_⟩
  · simp only [mA, va_up]; rw [if_neg (by omega)]
  · simp only [mA, va_up, upd, if_true]; rw [if_neg hd]
  · simp only [mA, va_up]; rw [if_neg (by omega)]
theorem MC_t (m : MS) {c t k : Nat} (h1 : 2 ≤ t) (h2 : t < 6) (hk : 8 * c ≤ k ∧ k < 8 * c + 8) (v : Int32) : MC m (mA m t (upd (m.2.1 t) k v)) c := by
  refine ⟨rfl, fun u hu => ?_, rfl, fun d hd => ?_, fun u h3 h4 j hj => ?_⟩
  · simp only [mA, va_up]; rw [if_neg (by omega)]
  · simp only [mA, va_up]; rw [if_neg (by omega)]
  · simp only [mA, va_up]
    by_cases e : u = t
    · subst e; simp only [if_true, upd]; rw [if_neg (by omega)]
    · rw [if_neg e]
section LMT
variable {m m' : MS} {w : Nat} {N N' : Nat → Nat} {K O W F K' O' W' F' : Nat → Nat → Nat} {A : AS} {L : LK}
theorem CM_cong {c n : Nat} {K O W F K' O' W' F' : Nat → Nat} (h : CM m c n K O W F) (e : ∀ i, i < n → K' i = K i ∧ O' i = O i ∧ W' i = W i ∧ F' i = F i) : CM m c n K' O' W' F' :=
  ⟨h.1, fun i hi => by obtain ⟨e1, e2, e3, e4⟩ := e i hi; rw [e1, e2, e3, e4]; exact h.2 i hi⟩
theorem CM_keep {c d n : Nat} {K O W F : Nat → Nat} (h : CM m d n K O W F) (hn : n ≤ 8) (hC : MC m m' c) (hd : d ≠ c) : CM m' d n K O W F :=
  ⟨(hC.2.2.2.1 d hd).trans h.1, fun i hi => by
    obtain ⟨h1, h2, h3, h4⟩ := h.2 i hi
    refine ⟨?_, ?_, ?_, ?_⟩ <;> rw [hC.2.2.2.2 _ (by omega) (by omega) _ (by omega)] <;> assumption⟩
theorem LM_set (ok : lOK w N K O W F) (h : LMw m w N K O W F) {c : Nat} (hC : MC m m' c) {n : Nat} {K1 O1 W1 F1 : Nat → Nat} (hc : CM m' c n K1 O1 W1 F1) : LMw m' w (upc N c n) (upc K c K1) (upc O c O1) (upc W c W1) (upc F c F1) := by
  refine ⟨by rw [hC.1]; exact h.1, fun d hd => ?_⟩
  unfold upc
  by_cases e : d = c
  · subst e; simp only [if_true]; exact hc
  · simp only [e, if_false]; exact CM_keep (h.2 d hd) (ok.2 d hd).1 hC e
theorem LM_cong (h : LMw m w N K O W F) (e : ∀ c, c < 6 → N' c = N c ∧ ∀ i, i < N c → K' c i = K c i ∧ O' c i = O c i ∧ W' c i = W c i ∧ F' c i = F c i) : LMw m w N' K' O' W' F' :=
  ⟨h.1, fun c hc => by obtain ⟨e1, e2⟩ := e c hc; rw [e1]; exact CM_cong (h.2 c hc) e2⟩
theorem LM_6 (h : LMw m w N K O W F) (k : Nat) (hk : k ≠ 0) (v : Int32) : LMw (mI m k v) w N K O W F :=
  ⟨by simp only [mI]; rw [if_neg (fun z => hk z.symm)]; exact h.1, h.2⟩
theorem a8 {c i : Nat} : (8 : Int32) * zI (c : Int) + zI (i : Int) = zI ((8 * c + i : Nat) : Int) := by rw [show (8 : Int32) = zI 8 from rfl, zI_mul, zI_add]; exact zI_c (by omega)
theorem c6 {c : Nat} (hc : c < 6) : vp_in (zI (c : Int)) 6 := zI_in (by omega) (by omega) (by omega)
theorem c48 {k : Nat} (hk : k < 48) : vp_in (zI (k : Int)) 48 := zI_in (by omega) (by omega) (by omega)
theorem m_melts {k o : Nat} (hk : k < 8) {Q : Int32 → Prop} (hq : Q (zI (melt k o))) : wp_X12_meltsOf (zI k) (zI o) Q := by
  rcases xl8 hk with rfl | rfl | rfl | rfl | rfl | rfl | rfl | rfl
  all_goals
    unfold wp_X12_meltsOf
    simp (disch := omega) only [zN]
    simp [melt] at hq
    simp
    first
      | exact hq
      | (rw [show ((3 : Int) + (o : Int)) = ((3 + o : Nat) : Int) by omega]; exact hq)
theorem m_light {k o : Nat} (hk : k < 8) (ho : o < 10) {Q : Int32 → Prop} (hq : Q (zI (lite k o))) : wp_X12_lightOf (zI k) (zI o) Q := by
  rcases xl8 hk with rfl | rfl | rfl | rfl | rfl | rfl | rfl | rfl
  all_goals
    unfold wp_X12_lightOf
    simp (disch := omega) only [zN]
    simp [lite] at hq
    simp
    first
      | exact hq
      | (rw [show ((14 : Int) - (o : Int)) = ((14 - o : Nat) : Int) by omega]; exact hq)
end LMT
