/-! ===== what the document tells of a layer, by kind and oath ===== -/
def melt (k o : Nat) : Nat := if k = 1 ∨ k = 6 then 1 else if k = 2 then 4 else if k = 3 then 3 else if k = 5 then 6 else if k = 7 then 3 + o else 2
def lite (k o : Nat) : Nat := if k = 1 then 14 else if k = 3 ∨ k = 5 then 3 else if k = 4 then 14 - o else if k = 6 then 28 else if k = 7 then 0 else 9
def thk (k o f : Nat) : Nat := if k = 0 then f else if k = 2 then (if f < 4 then 1 else f / 2) else if k = 3 ∨ k = 7 then 2 * f else if k = 5 then 2 * f - 1 else if k = 6 then f + 1 + o else f + 1
def tol (k o : Nat) : Int := if k = 0 then 3 else if k = 1 then 3 + o else if k = 2 then 3 * (o + 1) else if k = 3 then 2 else if k = 4 then 2 * (3 + o) else if k = 5 then 6 else if k = 6 then 10 + o else 2 - o
theorem melt_b {k o : Nat} (ho : o < 10) : 1 ≤ melt k o ∧ melt k o ≤ 12 := by unfold melt; split <;> (try split) <;> (try split) <;> (try split) <;> (try split) <;> omega
theorem lite_b {k o : Nat} : lite k o ≤ 28 := by unfold lite; split <;> (try split) <;> (try split) <;> (try split) <;> (try split) <;> omega
theorem thk_b {k o f : Nat} (ho : o < 10) (h1 : 1 ≤ f) (h2 : f ≤ 9) : 1 ≤ thk k o f ∧ thk k o f ≤ 20 := by unfold thk; split <;> (try split) <;> (try split) <;> (try split) <;> (try split) <;> (try split) <;> omega
/-- a cell as it may be: at most 8 layers, each in its bounds -/
def cOK (n : Nat) (K O W F : Nat → Nat) : Prop := n ≤ 8 ∧ ∀ i, i < n → K i < 8 ∧ O i < 10 ∧ W i ≤ 99 ∧ 1 ≤ F i ∧ F i ≤ 20
/-- the class's cell b holds it -/
def CX (x : XS) (b n : Nat) (K O W F : Nat → Nat) : Prop := x.1 b 6 = zI n ∧ ∀ i, i < n → x.2.1 (b + 1) i = zI (K i) ∧ x.2.1 (b + 2) i = zI (O i) ∧ x.2.1 (b + 3) i = zI (W i) ∧ x.2.1 (b + 4) i = zI (F i) ∧ x.2.1 (b + 5) i = zI (melt (K i) (O i)) ∧ x.2.1 (b + 6) i = zI (lite (K i) (O i))
/-- sums of fingers, of days -/
def dys (K O F : Nat → Nat) (i : Nat) : Nat := (F i + melt (K i) (O i) - 1) / melt (K i) (O i)
section CXS
variable {x : XS} {b n : Nat} {K O W F : Nat → Nat}
theorem s_has (hn : n ≤ 8) (h6 : x.1 b 6 = zI n) {z : Int} (h1 : -2147483648 ≤ z) (h2 : z < 2147483648) {Q : Int32 → Prop} (hq : Q (zI (if 0 ≤ z ∧ z < n then 1 else 0))) : wp_X2_has x b (zI z) Q := by
  unfold wp_X2_has
  rw [h6]
  simp (disch := omega) only [zN, zL]
  refine ⟨fun c => ?_, fun c => ⟨fun c2 => ?_, fun c2 => ⟨fun c3 => ?_, fun c3 => ?_⟩⟩⟩
  · rwa [if_neg (by omega)] at hq
  · rwa [if_neg (by omega)] at hq
  · omega
  · rwa [if_pos (by omega)] at hq
theorem s_hasI (hn : n ≤ 8) (h6 : x.1 b 6 = zI n) {i : Nat} (hi : i < n) {Q : Int32 → Prop} (hq : Q (zI 1)) : wp_X2_has x b (zI i) Q :=
  s_has hn h6 (by omega) (by omega) (by rw [if_pos (by omega)]; exact hq)
theorem s_hasO (hn : n ≤ 8) (h6 : x.1 b 6 = zI n) {z : Int} (h1 : -2147483648 ≤ z) (h2 : z < 2147483648) (hz : ¬ (0 ≤ z ∧ z < n)) {Q : Int32 → Prop} (hq : Q (zI 0)) : wp_X2_has x b (zI z) Q :=
  s_has hn h6 h1 h2 (by rw [if_neg hz]; exact hq)
theorem s_oathAt (ok : cOK n K O W F) (h : CX x b n K O W F) {i : Nat} (hi : i < n) {Q : Int32 → Prop} (hq : Q (zI (O i))) : wp_X2_oathAt x b (zI i) Q := by
  have hn := ok.1
  refine s_hasI ok.1 h.1 hi ?_
  refine ⟨fun c => absurd c (by decide), fun _ => ⟨zI_in (by omega) (by omega) (by omega), ?_⟩⟩
  rw [zI_clN (by omega), (h.2 i hi).2.1]; exact hq
theorem s_winterAt (ok : cOK n K O W F) (h : CX x b n K O W F) {i : Nat} (hi : i < n) {Q : Int32 → Prop} (hq : Q (zI (W i))) : wp_X2_winterAt x b (zI i) Q := by
  have hn := ok.1
  refine s_hasI ok.1 h.1 hi ?_
  refine ⟨fun c => absurd c (by decide), fun _ => ⟨zI_in (by omega) (by omega) (by omega), ?_⟩⟩
  rw [zI_clN (by omega), (h.2 i hi).2.2.1]; exact hq
theorem s_thickAt (ok : cOK n K O W F) (h : CX x b n K O W F) {i : Nat} (hi : i < n) {Q : Int32 → Prop} (hq : Q (zI (F i))) : wp_X2_thickAt x b (zI i) Q := by
  have hn := ok.1
  refine s_hasI ok.1 h.1 hi ?_
  refine ⟨fun c => absurd c (by decide), fun _ => ⟨zI_in (by omega) (by omega) (by omega), ?_⟩⟩
  rw [zI_clN (by omega), (h.2 i hi).2.2.2.1]; exact hq
theorem s_meltsAt (ok : cOK n K O W F) (h : CX x b n K O W F) {i : Nat} (hi : i < n) {Q : Int32 → Prop} (hq : Q (zI (melt (K i) (O i)))) : wp_X2_meltsAt x b (zI i) Q := by
  have hn := ok.1
  refine s_hasI ok.1 h.1 hi ?_
  refine ⟨fun c => absurd c (by decide), fun _ => ⟨zI_in (by omega) (by omega) (by omega), ?_⟩⟩
  rw [zI_clN (by omega), (h.2 i hi).2.2.2.2.1]; exact hq
theorem s_lightAt (ok : cOK n K O W F) (h : CX x b n K O W F) {i : Nat} (hi : i < n) {Q : Int32 → Prop} (hq : Q (zI (lite (K i) (O i)))) : wp_X2_lightAt x b (zI i) Q := by
  have hn := ok.1
  refine s_hasI ok.1 h.1 hi ?_
  refine ⟨fun c => absurd c (by decide), fun _ => ⟨zI_in (by omega) (by omega) (by omega), ?_⟩⟩
  rw [zI_clN (by omega), (h.2 i hi).2.2.2.2.2]; exact hq
theorem s_thickO (ok : cOK n K O W F) (h : CX x b n K O W F) {z : Int} (h1 : -2147483648 ≤ z) (h2 : z < 2147483648) (hz : ¬ (0 ≤ z ∧ z < n)) {Q : Int32 → Prop} (hq : Q (zI 0)) : wp_X2_thickAt x b (zI z) Q := by
  refine s_hasO ok.1 h.1 h1 h2 hz ?_
  exact ⟨fun _ => hq, fun c => absurd rfl c⟩
theorem sgF (ok : cOK n K O W F) {j : Nat} (hj : j ≤ n) : sg F j ≤ sg F n ∧ sg F n ≤ 160 := by
  refine ⟨sg_mono F hj, ?_⟩
  have h1 := sg_le (f := F) (c := 20) (n := n) (fun i hi => (ok.2 i hi).2.2.2.2)
  have h2 := ok.1
  omega
/-- the fingers above -/
theorem s_depthAt (ok : cOK n K O W F) (h : CX x b n K O W F) {z : Int} (h1 : -1 ≤ z) (h2 : z < n) {Q : Int32 → Prop} (hq : Q (zI (sg F n - sg F (z + 1).toNat : Int))) : wp_X2_depthAt x b (zI z) Q := by
  have hn := ok.1
  refine ⟨fun y1 y2 => ∃ j : Nat, z + 1 ≤ j ∧ j ≤ n ∧ y1 = zI (sg F n - sg F j : Int) ∧ y2 = zI (j - 1), fun _ y2 => (y2.toInt + 1).toNat, ?_, ?_⟩
  · refine ⟨n, by omega, by omega, ?_, ?_⟩
    · rw [Int.sub_self]; rfl
    · rw [h.1]; simp only [zN]
  · rintro y1 y2 ⟨j, hj1, hj2, rfl, rfl⟩
    simp (disch := omega) only [zN, zL]
    refine ⟨fun c => ?_, fun c => ?_⟩
    · have e : (z + 1).toNat = j := by omega
      rwa [e] at hq
    · obtain ⟨k, rfl⟩ : ∃ k, j = k + 1 := ⟨j - 1, by omega⟩
      rw [show ((k + 1 : Nat) : Int) - 1 = (k : Int) by omega]
      refine s_thickAt ok h (by omega) ?_
      have e := sg_s F k
      simp (disch := omega) only [zN, zL]
      refine ⟨⟨k, by omega, by omega, ?_, ?_⟩, ?_⟩
      · congr 1; omega
      · congr 1
      · rw [zI_t (by omega) (by omega), zI_t (by omega) (by omega)]; omega
theorem s_ice (ok : cOK n K O W F) (h : CX x b n K O W F) {Q : Int32 → Prop} (hq : Q (zI (sg F n))) : wp_X2_ice x b Q := by
  refine s_depthAt (z := -1) ok h (by omega) (by omega) ?_
  simpa [sg] using hq
/-- can it be read? -/
def rdb (K O F : Nat → Nat) (n i : Nat) : Bool := decide (sg F n - sg F (i + 1) ≤ lite (K i) (O i))
theorem s_canRead (ok : cOK n K O W F) (h : CX x b n K O W F) {i : Nat} (hi : i < n) {Q : Int32 → Prop} (hq : Q (zI (if rdb K O F n i then 1 else 0))) : wp_X2_canRead x b (zI i) Q := by
  have hn := ok.1
  refine s_hasI ok.1 h.1 hi ?_
  refine ⟨fun c => absurd c (by decide), fun _ => ?_⟩
  refine s_depthAt ok h (by omega) (by omega) ?_
  refine s_lightAt ok h hi ?_
  have e : ((i : Int) + 1).toNat = i + 1 := by omega
  have hm := sgF ok (j := i + 1) hi
  have hl := lite_b (k := K i) (o := O i)
  rw [e]
  simp (disch := omega) only [zN, zL]
  unfold rdb at hq
  refine ⟨fun c => ?_, fun c => ?_⟩
  · rwa [if_neg (by rw [decide_eq_true_eq]; omega)] at hq
  · rwa [if_pos (by rw [decide_eq_true_eq]; omega)] at hq
/-- the topmost layer that can be read; n: none -/
def topR (p : Nat → Bool) : Nat → Option Nat
  | 0 => none
  | k + 1 => if p k then some k else topR p k
theorem s_topmostRead (ok : cOK n K O W F) (h : CX x b n K O W F) {Q : Int32 → Prop} (hq : Q (zI (match topR (rdb K O F n) n with | none => -4 | some i => (O i : Int)))) : wp_X2_topmostRead x b Q := by
  have hn := ok.1
  refine ⟨fun y1 => ∃ j : Nat, j ≤ n ∧ y1 = zI (j - 1) ∧ topR (rdb K O F n) n = topR (rdb K O F n) j, fun y1 => (y1.toInt + 1).toNat, ?_, ?_⟩
  · refine ⟨n, by omega, ?_, rfl⟩
    rw [h.1]; simp only [zN]
  · rintro y1 ⟨j, hj, rfl, ht⟩
    simp (disch := omega) only [zN, zL]
    refine ⟨fun c => ?_, fun c => ?_⟩
    · have e : j = 0 := by omega
      subst e
      rw [ht] at hq
      exact hq
    · obtain ⟨k, rfl⟩ : ∃ k, j = k + 1 := ⟨j - 1, by omega⟩
      rw [show ((k + 1 : Nat) : Int) - 1 = (k : Int) by omega]
      refine s_canRead ok h (by omega) ?_
      cases hr : rdb K O F n k
      · simp (disch := omega) only [zN, zL, Bool.false_eq_true, if_false]
        refine ⟨⟨k, by omega, rfl, ?_⟩, ?_⟩
        · rw [ht]; simp [topR, hr]
        · rw [zI_t (by omega) (by omega), zI_t (by omega) (by omega)]; omega
      · simp (disch := omega) only [zN, zL, if_true]
        refine ⟨fun z => absurd z (by decide), fun _ => ?_⟩
        refine s_oathAt (i := k) ok h (by omega) ?_
        rw [ht] at hq
        simpa [topR, hr] using hq
end CXS
