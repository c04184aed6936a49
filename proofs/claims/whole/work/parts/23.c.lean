/-! ===== layers by kind; the rest of a cell's methods ===== -/
theorem zI_div {a d : Nat} (ha : a < 2147483648) (h0 : 0 < d) (hd : d < 2147483648) : zI (a : Int) / zI (d : Int) = zI ((a / d : Nat) : Int) := by
  rw [zI_nI, zI_nI, zI_nI]; exact pk_div (by omega) h0 (by omega)
theorem zI_max {a b : Int} (h1 : -2147483648 ≤ a) (h2 : a < 2147483648) (h3 : -2147483648 ≤ b) (h4 : b < 2147483648) : (if zI a < zI b then zI b else zI a) = zI (if a < b then b else a) := by
  by_cases c : a < b
  · rw [if_pos ((zI_lt h1 h2 h3 h4).mpr c), if_pos c]
  · rw [if_neg (fun z => c ((zI_lt h1 h2 h3 h4).mp z)), if_neg c]
theorem s_fing {k o f : Nat} (hk : k < 8) (h1 : 1 ≤ f) (h2 : f ≤ 9) {Q : Int32 → Prop} (hq : Q (zI (thk k o f))) : wv_fingersIn k (zI f) (zI o) Q := by
  have hd : zI (f : Int) / 2 = zI ((f / 2 : Nat) : Int) := zI_div (d := 2) (by omega) (by omega) (by omega)
  rcases xl8 hk with rfl | rfl | rfl | rfl | rfl | rfl | rfl | rfl
  · exact hq
  · show Q (zI f + 1)
    rw [show zI (f : Int) + 1 = zI ((thk 1 o f : Nat) : Int) by simp only [zN]; congr 1]; exact hq
  · show Q (if (1 : Int32) < zI (f : Int) / 2 then zI (f : Int) / 2 else 1)
    rw [hd, show (1 : Int32) = zI 1 from rfl, zI_max (by omega) (by omega) (by omega) (by omega), show (if (1 : Int) < ((f / 2 : Nat) : Int) then ((f / 2 : Nat) : Int) else 1) = ((thk 2 o f : Nat) : Int) by show _ = (((if f < 4 then 1 else f / 2) : Nat) : Int); split <;> split <;> omega]
    exact hq
  · show Q (2 * zI f)
    rw [show 2 * zI (f : Int) = zI ((thk 3 o f : Nat) : Int) by simp only [zN]; congr 1]; exact hq
  · show Q (zI f + 1)
    rw [show zI (f : Int) + 1 = zI ((thk 4 o f : Nat) : Int) by simp only [zN]; congr 1]; exact hq
  · show Q (2 * zI f - 1)
    rw [show 2 * zI (f : Int) - 1 = zI ((thk 5 o f : Nat) : Int) by simp only [zN]; congr 1; show _ = ((2 * f - 1 : Nat) : Int); omega]; exact hq
  · show Q (zI f + 1 + zI o)
    rw [show zI (f : Int) + 1 + zI (o : Int) = zI ((thk 6 o f : Nat) : Int) by simp only [zN]; congr 1]; exact hq
  · show Q (2 * zI f)
    rw [show 2 * zI (f : Int) = zI ((thk 7 o f : Nat) : Int) by simp only [zN]; congr 1]; exact hq
theorem s_melts {k o : Nat} (hk : k < 8) {Q : Int32 → Prop} (hq : Q (zI (melt k o))) : wv_melts k (zI o) Q := by
  rcases xl8 hk with rfl | rfl | rfl | rfl | rfl | rfl | rfl | rfl
  · exact hq
  · rw [show melt 1 o = 1 by simp [melt]] at hq; exact hq
  · exact hq
  · exact hq
  · exact hq
  · exact hq
  · rw [show melt 6 o = 1 by simp [melt]] at hq; exact hq
  · show Q (2 + 1 + zI o)
    rw [show (2 : Int32) + 1 + zI (o : Int) = zI ((melt 7 o : Nat) : Int) by simp only [zN]; congr 1]; exact hq
theorem s_light {k o : Nat} (hk : k < 8) (ho : o < 10) {Q : Int32 → Prop} (hq : Q (zI (lite k o))) : wv_light k (zI o) Q := by
  rcases xl8 hk with rfl | rfl | rfl | rfl | rfl | rfl | rfl | rfl
  · exact hq
  · exact hq
  · exact hq
  · exact hq
  · show Q (9 + 5 - zI o)
    rw [show (9 : Int32) + 5 - zI (o : Int) = zI ((lite 4 o : Nat) : Int) by simp only [zN]; congr 1; show _ = ((14 - o : Nat) : Int); omega]; exact hq
  · exact hq
  · exact hq
  · exact hq
theorem s_tollv {k o : Nat} (hk : k < 8) {Q : Int32 → Prop} (hq : Q (zI (tol k o))) : wv_tollWith k (zI o) Q := by
  rcases xl8 hk with rfl | rfl | rfl | rfl | rfl | rfl | rfl | rfl
  · exact hq
  · show Q (3 + zI o)
    rw [show (3 : Int32) + zI (o : Int) = zI (tol 1 o) by simp only [zN]; congr 1]; exact hq
  · show Q (3 * (zI o + 1))
    rw [show (3 : Int32) * (zI (o : Int) + 1) = zI (tol 2 o) by simp only [zN]; congr 1]; exact hq
  · exact hq
  · show Q (2 * (3 + zI o))
    rw [show (2 : Int32) * (3 + zI (o : Int)) = zI (tol 4 o) by simp only [zN]; congr 1]; exact hq
  · exact hq
  · show Q (3 + zI o + 7)
    rw [show (3 : Int32) + zI (o : Int) + 7 = zI (tol 6 o) by simp only [zN]; congr 1; show _ = (10 : Int) + o; omega]; exact hq
  · show Q (3 - 1 - zI o)
    rw [show (3 : Int32) - 1 - zI (o : Int) = zI (tol 7 o) by simp only [zN]; congr 1]; exact hq
def ups (f : Nat → Nat) (k v : Nat) : Nat → Nat := fun i => if i = k then v else f i
theorem cOK_up {n k o w f : Nat} {K O W F : Nat → Nat} (ok : cOK n K O W F) (hn : n < 8) (hk : k < 8) (ho : o < 10) (hw : w ≤ 99) (h1 : 1 ≤ f) (h2 : f ≤ 20) : cOK (n + 1) (ups K n k) (ups O n o) (ups W n w) (ups F n f) := by
  refine ⟨hn, fun i hi => ?_⟩
  by_cases e : i = n
  · subst e; simp [ups]; omega
  · have := ok.2 i (by omega)
    simp [ups, e]; omega
section CX3
variable {x : XS} {b n : Nat} {K O W F : Nat → Nat}
theorem s_freezeOn (ok : cOK n K O W F) (h : CX x b n K O W F) (hn : n < 8) {k o w f : Nat} (hk : k < 8) (ho : o < 10) (h1 : 1 ≤ f) (h2 : f ≤ 9) {Q : Int32 → XS → Prop} (hq : ∀ x', CX x' b (n + 1) (ups K n k) (ups O n o) (ups W n w) (ups F n (thk k o f)) → XF x x' b → Q (zI (thk k o f)) x') : wp_X2_freezeOn x b k (zI k) (zI o) (zI f) (zI w) Q := by
  have hin : vp_in (zI (n : Int)) 8 := zI_in (by omega) (by omega) (by omega)
  have ecl : (zI (n : Int)).toNatClampNeg = n := zI_clN (by omega)
  unfold wp_X2_freezeOn
  rw [h.1, ecl]
  refine ⟨fun c => absurd c (by rw [show (0 : Int32) = zI 0 from rfl, zI_lt (by omega) (by omega) (by omega) (by omega)]; omega), fun _ => ⟨fun _ => ?_, fun c => absurd ((zI_lt (b := 8) (by omega) (by omega) (by omega) (by omega)).mpr (by omega)) c⟩⟩
  refine ⟨hin, fun x1 e1 => ⟨hin, fun x2 e2 => ⟨hin, fun x3 e3 => ?_⟩⟩⟩
  refine s_fing hk h1 h2 ⟨hin, fun x5 e5 => ?_⟩
  refine s_melts hk ⟨hin, fun x7 e7 => ?_⟩
  refine s_light hk ho ⟨hin, fun x9 e9 => fun x10 e10 => ⟨hin, ?_⟩⟩
  have a1 : XF x x1 b := by rw [e1]; exact XF_A (by omega) (by omega) _
  have a2 : XF x x2 b := XF_tr a1 (by rw [e2]; exact XF_A (by omega) (by omega) _)
  have a3 : XF x x3 b := XF_tr a2 (by rw [e3]; exact XF_A (by omega) (by omega) _)
  have a5 : XF x x5 b := XF_tr a3 (by rw [e5]; exact XF_A (by omega) (by omega) _)
  have a7 : XF x x7 b := XF_tr a5 (by rw [e7]; exact XF_A (by omega) (by omega) _)
  have a9 : XF x x9 b := XF_tr a7 (by rw [e9]; exact XF_A (by omega) (by omega) _)
  have a10 : XF x x10 b := XF_tr a9 (by rw [e10]; exact XF_I _ _ _)
  have hX : CX x10 b (n + 1) (ups K n k) (ups O n o) (ups W n w) (ups F n (thk k o f)) := by
    subst e10 e9 e7 e5 e3 e2 e1
    refine ⟨?_, fun i hi => ?_⟩
    · simp only [xI, xA, and_self, if_true, h.1]
      simp only [zN]; rfl
    · by_cases e : i = n
      · subst e; simp [xI, xA, va_up, upd, ups]
      · have h3 := h.2 i (by omega)
        simp [xI, xA, va_up, upd, ups, e, h3]
  have h3 := hq x10 hX a10
  rw [(hX.2 n (by omega)).2.2.2.1]
  simpa [ups] using h3
theorem s_freezeOnF (h : CX x b 8 K O W F) {k : Nat} {p2 p3 p4 p5 : Int32} {Q : Int32 → XS → Prop} (hq : Q (zI (-2)) x) : wp_X2_freezeOn x b k p2 p3 p4 p5 Q := by
  unfold wp_X2_freezeOn
  rw [h.1]
  exact ⟨fun c => absurd c (by decide), fun _ => ⟨fun c => absurd c (by decide), fun _ => hq⟩⟩
theorem zI_mdy {m : Nat} (h1 : 1 ≤ m) (h2 : m ≤ 12) : (if (1 : Int32) < zI (m : Int) then zI (m : Int) else (1 : Int32)) = zI (m : Int) := by
  rw [show (1 : Int32) = zI 1 from rfl, zI_max (by omega) (by omega) (by omega) (by omega)]
  congr 1; split <;> omega
theorem dys_b (ok : cOK n K O W F) {i : Nat} (hi : i < n) : 1 ≤ dys K O F i ∧ dys K O F i ≤ 20 := by
  have h1 := ok.2 i hi
  have h2 := melt_b (k := K i) h1.2.1
  unfold dys
  generalize melt (K i) (O i) = m at h2
  constructor
  · rw [Nat.le_div_iff_mul_le (by omega)]; omega
  · refine Nat.le_trans (Nat.div_le_div_right (c := m) (show F i + m - 1 ≤ 20 + m - 1 by omega)) ?_
    have : (20 + m - 1) / m ≤ 20 := by
      rw [Nat.div_le_iff_le_mul_add_pred (by omega)]
      rcases (show m = 1 ∨ m = 2 ∨ m = 3 ∨ m = 4 ∨ m = 5 ∨ m = 6 ∨ m = 7 ∨ m = 8 ∨ m = 9 ∨ m = 10 ∨ m = 11 ∨ m = 12 by omega) with rfl | rfl | rfl | rfl | rfl | rfl | rfl | rfl | rfl | rfl | rfl | rfl <;> omega
    exact this
theorem sgD (ok : cOK n K O W F) {j : Nat} (hj : j ≤ n) : sg (dys K O F) j ≤ sg (dys K O F) n ∧ sg (dys K O F) n ≤ 160 := by
  refine ⟨sg_mono _ hj, ?_⟩
  have h1 := sg_le (f := dys K O F) (c := 20) (n := n) (fun i hi => (dys_b ok hi).2)
  have h2 := ok.1
  omega
theorem s_daysOf (ok : cOK n K O W F) (h : CX x b n K O W F) {i : Nat} (hi : i ≤ n) {Q : Int32 → Prop} (hq : Q (zI (sg (dys K O F) n - sg (dys K O F) i : Int))) : wp_X2_daysOf x b (zI i) Q := by
  have hn := ok.1
  refine ⟨fun y1 y2 => ∃ j : Nat, i ≤ j ∧ j ≤ n ∧ y1 = zI (sg (dys K O F) n - sg (dys K O F) j : Int) ∧ y2 = zI (j - 1), fun _ y2 => (y2.toInt + 1).toNat, ?_, ?_⟩
  · refine ⟨n, hi, Nat.le_refl _, ?_, ?_⟩
    · rw [Int.sub_self]; rfl
    · rw [h.1]; simp only [zN]
  · rintro y1 y2 ⟨j, hj1, hj2, rfl, rfl⟩
    refine ⟨fun c => ?_, fun c => ?_⟩
    · rw [zI_lt (by omega) (by omega) (by omega) (by omega)] at c
      have e : i = j := by omega
      subst e; exact hq
    · rw [zI_lt (by omega) (by omega) (by omega) (by omega)] at c
      obtain ⟨k, rfl⟩ : ∃ k, j = k + 1 := ⟨j - 1, by omega⟩
      have okk := ok.2 k (by omega)
      have hm := melt_b (k := K k) okk.2.1
      have hd := dys_b ok (i := k) (by omega)
      have e := sg_s (dys K O F) k
      have hs := sgD ok (j := k + 1) hj2
      rw [show ((k + 1 : Nat) : Int) - 1 = (k : Int) by omega]
      refine s_meltsAt ok h (by omega) ?_
      refine s_thickAt ok h (by omega) ?_
      rw [zI_mdy hm.1 hm.2]
      refine ⟨fun z => absurd ((zI_eq (b := 0) (by omega) (by omega) (by omega) (by omega)).mp z) (by omega), ?_⟩
      have ed : (zI (F k : Int) + zI (melt (K k) (O k) : Int) - 1) / zI (melt (K k) (O k) : Int) = zI (dys K O F k : Int) := by
        rw [zI_add, show (1 : Int32) = zI 1 from rfl, zI_sub, show (F k : Int) + (melt (K k) (O k) : Int) - 1 = ((F k + melt (K k) (O k) - 1 : Nat) : Int) by omega]
        exact zI_div (by omega) (by omega) (by omega)
      rw [ed]
      refine ⟨⟨k, by omega, by omega, ?_, ?_⟩, ?_⟩
      · rw [zI_add]; congr 1; omega
      · simp only [zN]; congr 1
      · simp only [zN]; rw [zI_t (by omega) (by omega), zI_t (by omega) (by omega)]; omega
/-- is a layer of that oath there behind so many days? -/
theorem s_keepsOath (ok : cOK n K O W F) (h : CX x b n K O W F) {o d : Nat} (ho : o < 10) (hd : d ≤ 1000) {Q : Int32 → Prop} (h1 : (∃ i, i < n ∧ O i = o ∧ d < sg (dys K O F) n - sg (dys K O F) i) → Q (zI 1)) (h0 : (¬ ∃ i, i < n ∧ O i = o ∧ d < sg (dys K O F) n - sg (dys K O F) i) → Q (zI 0)) : wp_X2_keepsOath x b (zI o) (zI d) Q := by
  have hn := ok.1
  refine ⟨fun y1 => ∃ j : Nat, j ≤ n ∧ y1 = zI j ∧ ∀ i, i < j → ¬ (O i = o ∧ d < sg (dys K O F) n - sg (dys K O F) i), fun y1 => 8 - y1.toInt.toNat, ?_, ?_⟩
  · exact ⟨0, Nat.zero_le _, rfl, fun i hi => absurd hi (Nat.not_lt_zero _)⟩
  · rintro y1 ⟨j, hj, rfl, hno⟩
    rw [h.1]
    have em : 8 - (zI (j : Int) + 1).toInt.toNat < 8 - (zI (j : Int)).toInt.toNat ∨ n ≤ j := by
      by_cases c : n ≤ j
      · exact Or.inr c
      · left; simp only [zN]; rw [zI_t (by omega) (by omega), zI_t (by omega) (by omega)]; omega
    refine ⟨fun c => ?_, fun c => ?_⟩
    · rw [zI_le (by omega) (by omega) (by omega) (by omega)] at c
      exact h0 (fun ⟨i, hi, hx⟩ => hno i (by omega) hx)
    · rw [zI_le (by omega) (by omega) (by omega) (by omega)] at c
      have okj := ok.2 j (by omega)
      have em := em.resolve_right (by omega)
      have nx : ¬ (O j = o ∧ d < sg (dys K O F) n - sg (dys K O F) j) → ∃ i : Nat, i ≤ n ∧ zI (j : Int) + 1 = zI i ∧ ∀ a, a < i → ¬ (O a = o ∧ d < sg (dys K O F) n - sg (dys K O F) a) := fun hz => ⟨j + 1, by omega, by simp only [zN]; congr 1, fun a ha => by
        by_cases e : a = j
        · subst e; exact hz
        · exact hno a (by omega)⟩
      refine s_oathAt ok h (by omega) ?_
      refine ⟨fun z => ?_, fun z => ?_⟩
      · rw [zI_eq (by omega) (by omega) (by omega) (by omega)] at z
        exact ⟨nx (fun q => z (by omega)), em⟩
      · rw [zI_eq (by omega) (by omega) (by omega) (by omega)] at z
        refine s_daysOf ok h (by omega) ?_
        have hs := sgD ok (j := j) hj
        refine ⟨fun q => ?_, fun q => ?_⟩
        · rw [zI_le (by omega) (by omega) (by omega) (by omega)] at q
          exact ⟨nx (fun r => by omega), em⟩
        · rw [zI_le (by omega) (by omega) (by omega) (by omega)] at q
          exact h1 ⟨j, by omega, by omega, by omega⟩
/-- the layer that has the finger behind so many -/
def layB (F : Nat → Nat) : Nat → Nat → Option Nat
  | 0, _ => none
  | k + 1, d => if d < F k then some k else layB F k (d - F k)
def oI : Option Nat → Int
  | none => -1
  | some i => i
theorem layB_lt (F : Nat → Nat) : ∀ n d i, layB F n d = some i → i < n
  | 0, d, i, h => by simp [layB] at h
  | k + 1, d, i, h => by
    unfold layB at h
    split at h
    · cases h; omega
    · have := layB_lt F k _ i h; omega
theorem s_layerBehind (ok : cOK n K O W F) (h : CX x b n K O W F) {d : Nat} (hd : d ≤ 1000) {Q : Int32 → Prop} (hq : Q (zI (oI (layB F n d)))) : wp_X2_layerBehind x b (zI d) Q := by
  have hn := ok.1
  refine ⟨fun y1 y2 => ∃ j l : Nat, j ≤ n ∧ l ≤ d ∧ y1 = zI l ∧ y2 = zI (j - 1) ∧ layB F n d = layB F j l, fun _ y2 => (y2.toInt + 1).toNat, ?_, ?_⟩
  · refine ⟨n, d, Nat.le_refl _, Nat.le_refl _, rfl, ?_, rfl⟩
    rw [h.1]; simp only [zN]
  · rintro y1 y2 ⟨j, l, hj, hl, rfl, rfl, he⟩
    rw [he] at hq
    simp (disch := omega) only [zN, zL]
    refine ⟨fun c => ?_, fun c => ?_⟩
    · have e : j = 0 := by omega
      subst e; exact hq
    · obtain ⟨k, rfl⟩ : ∃ k, j = k + 1 := ⟨j - 1, by omega⟩
      have okk := ok.2 k (by omega)
      rw [show ((k + 1 : Nat) : Int) - 1 = (k : Int) by omega]
      refine s_thickAt ok h (by omega) ?_
      simp (disch := omega) only [zN, zL]
      refine ⟨fun c2 => ?_, fun c2 => ?_⟩
      · refine s_thickAt ok h (by omega) ?_
        refine ⟨⟨k, l - F k, by omega, by omega, ?_, ?_, ?_⟩, ?_⟩
        · rw [zI_sub]; congr 1; omega
        · congr 1
        · rw [he]; simp only [layB]; rw [if_neg (by omega)]
        · rw [zI_t (by omega) (by omega), zI_t (by omega) (by omega)]; omega
      · simp only [layB] at hq
        rw [if_pos (by omega)] at hq
        exact hq
/-- the fingers of the lowest layer of a winter, from place j on -/
def lowF (W F : Nat → Nat) (w : Nat) : Nat → Nat → Nat
  | _, 0 => 0
  | j, k + 1 => if W j = w then F j else lowF W F w (j + 1) k
theorem s_lowest (ok : cOK n K O W F) (h : CX x b n K O W F) {w : Nat} (hw : w ≤ 99) {Q : Int32 → Prop} (hq : Q (zI (lowF W F w 0 n))) : wp_X2_lowestThickOf x b (zI w) Q := by
  have hn := ok.1
  refine ⟨fun y1 => ∃ j : Nat, j ≤ n ∧ y1 = zI j ∧ lowF W F w 0 n = lowF W F w j (n - j), fun y1 => 8 - y1.toInt.toNat, ⟨0, by omega, rfl, rfl⟩, ?_⟩
  rintro y1 ⟨j, hj, rfl, he⟩
  rw [he] at hq
  rw [h.1]
  refine ⟨fun c => ?_, fun c => ?_⟩
  · rw [zI_le (by omega) (by omega) (by omega) (by omega)] at c
    rw [show n - j = 0 by omega] at hq; exact hq
  · rw [zI_le (by omega) (by omega) (by omega) (by omega)] at c
    have okj := ok.2 j (by omega)
    obtain ⟨r, hr⟩ : ∃ r, n - j = r + 1 := ⟨n - j - 1, by omega⟩
    rw [hr] at he hq
    refine s_winterAt ok h (by omega) ?_
    refine ⟨fun z => ?_, fun z => ?_⟩
    · rw [zI_eq (by omega) (by omega) (by omega) (by omega)] at z
      refine ⟨⟨j + 1, by omega, by simp only [zN]; congr 1, ?_⟩, ?_⟩
      · rw [he, show n - (j + 1) = r by omega]; simp only [lowF]; rw [if_neg (by omega)]
      · simp only [zN]; rw [zI_t (by omega) (by omega), zI_t (by omega) (by omega)]; omega
    · rw [zI_eq (by omega) (by omega) (by omega) (by omega)] at z
      refine s_thickAt ok h (by omega) ?_
      simp only [lowF] at hq
      rw [if_pos (by omega)] at hq; exact hq
/-- neighbours out of order -/
def uno (W : Nat → Nat) (i : Nat) : Nat := if W (i + 1) < W i then 1 else 0
theorem s_unordered (ok : cOK n K O W F) (h : CX x b n K O W F) {Q : Int32 → Prop} (hq : Q (zI (sg (uno W) (n - 1)))) : wp_X2_unorderedPairs x b Q := by
  have hn := ok.1
  refine ⟨fun y1 y2 => ∃ j : Nat, 1 ≤ j ∧ (j ≤ n ∨ j = 1) ∧ y2 = zI j ∧ y1 = zI (sg (uno W) (j - 1)), fun _ y2 => 9 - y2.toInt.toNat, ⟨1, by omega, by omega, rfl, rfl⟩, ?_⟩
  rintro y1 y2 ⟨j, hj1, hj2, rfl, rfl⟩
  rw [h.1]
  refine ⟨fun c => ?_, fun c => ?_⟩
  · rw [zI_le (by omega) (by omega) (by omega) (by omega)] at c
    rw [show n - 1 = j - 1 by omega] at hq; exact hq
  · rw [zI_le (by omega) (by omega) (by omega) (by omega)] at c
    obtain ⟨k, rfl⟩ : ∃ k, j = k + 1 := ⟨j - 1, by omega⟩
    have okj := ok.2 (k + 1) (by omega)
    have okk := ok.2 k (by omega)
    have e := sg_s (uno W) k
    have eu : uno W k = if W (k + 1) < W k then 1 else 0 := rfl
    refine s_winterAt ok h (by omega) ?_
    rw [show zI ((k + 1 : Nat) : Int) - 1 = zI (k : Int) by simp only [zN]; congr 1; omega]
    refine s_winterAt ok h (by omega) ?_
    have em : 9 - (zI ((k + 1 : Nat) : Int) + 1).toInt.toNat < 9 - (zI ((k + 1 : Nat) : Int)).toInt.toNat := by
      simp only [zN]; rw [zI_t (by omega) (by omega), zI_t (by omega) (by omega)]; omega
    refine ⟨fun z => ⟨⟨k + 2, by omega, by omega, by simp only [zN]; congr 1, ?_⟩, em⟩, fun z => ⟨⟨k + 2, by omega, by omega, by simp only [zN]; congr 1, ?_⟩, em⟩⟩
    · rw [zI_le (by omega) (by omega) (by omega) (by omega)] at z
      rw [if_neg (by omega)] at eu
      congr 1; show (sg (uno W) k : Int) = (sg (uno W) (k + 1) : Int); omega
    · rw [zI_le (by omega) (by omega) (by omega) (by omega)] at z
      rw [if_pos (by omega)] at eu
      simp only [zN]; congr 1; show (sg (uno W) k : Int) + 1 = (sg (uno W) (k + 1) : Int); omega
def cnt (p : Nat → Bool) (i : Nat) : Nat := if p i then 1 else 0
theorem s_readable (ok : cOK n K O W F) (h : CX x b n K O W F) {Q : Int32 → Prop} (hq : Q (zI (sg (cnt (rdb K O F n)) n))) : wp_X2_readableLayers x b Q := by
  have hn := ok.1
  refine ⟨fun y1 y2 => ∃ j : Nat, j ≤ n ∧ y2 = zI j ∧ y1 = zI (sg (cnt (rdb K O F n)) j), fun _ y2 => 9 - y2.toInt.toNat, ⟨0, by omega, rfl, rfl⟩, ?_⟩
  rintro y1 y2 ⟨j, hj, rfl, rfl⟩
  rw [h.1]
  refine ⟨fun c => ?_, fun c => ?_⟩
  · rw [zI_le (by omega) (by omega) (by omega) (by omega)] at c
    rw [show n = j by omega] at hq ⊢; exact hq
  · rw [zI_le (by omega) (by omega) (by omega) (by omega)] at c
    have e := sg_s (cnt (rdb K O F n)) j
    have em : 9 - (zI (j : Int) + 1).toInt.toNat < 9 - (zI (j : Int)).toInt.toNat := by
      simp only [zN]; rw [zI_t (by omega) (by omega), zI_t (by omega) (by omega)]; omega
    refine s_canRead ok h (by omega) ?_
    cases hr : rdb K O F n j
    · have e0 : cnt (rdb K O F n) j = 0 := by simp [cnt, hr]
      refine ⟨fun _ => ⟨⟨j + 1, by omega, by simp only [zN]; congr 1, ?_⟩, em⟩, fun z => absurd rfl z⟩
      congr 1; omega
    · have e0 : cnt (rdb K O F n) j = 1 := by simp [cnt, hr]
      refine ⟨fun z => absurd z (by decide), fun _ => ⟨⟨j + 1, by omega, by simp only [zN]; congr 1, ?_⟩, em⟩⟩
      simp only [zN]; congr 1; omega
theorem s_oaths (ok : cOK n K O W F) (h : CX x b n K O W F) {Q : Int32 → Prop} (hq : ∀ m : Nat, Msk m (fun o => ∃ i, i < n ∧ O i = o) → Q (zI m)) : wp_X2_oaths x b Q := by
  have hn := ok.1
  refine ⟨fun y1 y2 => ∃ j m : Nat, j ≤ n ∧ y2 = zI j ∧ y1 = zI m ∧ Msk m (fun o => ∃ i, i < j ∧ O i = o), fun _ y2 => 9 - y2.toInt.toNat, ⟨0, 0, by omega, rfl, rfl, Msk_iff Msk_0 (fun j => ⟨fun z => z.elim, fun ⟨i, hi, _⟩ => absurd hi (Nat.not_lt_zero _)⟩)⟩, ?_⟩
  rintro y1 y2 ⟨j, m, hj, rfl, rfl, hm⟩
  rw [h.1]
  refine ⟨fun c => ?_, fun c => ?_⟩
  · rw [zI_le (by omega) (by omega) (by omega) (by omega)] at c
    have e : j = n := by omega
    subst e; exact hq m hm
  · rw [zI_le (by omega) (by omega) (by omega) (by omega)] at c
    have okj := ok.2 j (by omega)
    refine s_oathAt ok h (by omega) ?_
    rw [zI_shl (by omega), zI_or]
    refine ⟨⟨j + 1, _, by omega, by simp only [zN]; congr 1, rfl, Msk_iff (Msk_or hm) (fun o => ⟨?_, ?_⟩)⟩, ?_⟩
    · rintro (⟨i, hi, rfl⟩ | rfl)
      · exact ⟨i, by omega, rfl⟩
      · exact ⟨j, by omega, rfl⟩
    · rintro ⟨i, hi, rfl⟩
      by_cases e : i = j
      · subst e; exact Or.inr rfl
      · exact Or.inl ⟨i, by omega, rfl⟩
    · simp only [zN]; rw [zI_t (by omega) (by omega), zI_t (by omega) (by omega)]; omega
end CX3
