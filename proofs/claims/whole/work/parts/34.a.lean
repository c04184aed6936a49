/-! ===== the class's answers (1) ===== -/
noncomputable def mskO (P : Nat → Prop) : Nat → Nat
  | 0 => 0
  | n + 1 => mskO P n ||| @ite _ (P n) (Classical.propDecidable _) (2 ^ n) 0
theorem mskO_ok (P : Nat → Prop) : ∀ n, Msk (mskO P n) (fun j => j < n ∧ P j)
  | 0 => Msk_iff Msk_0 (fun j => ⟨fun z => z.elim, fun h => absurd h.1 (by omega)⟩)
  | n + 1 => by
    unfold mskO
    by_cases h : P n
    · rw [if_pos h]
      refine Msk_iff (Msk_or (mskO_ok P n)) (fun j => ⟨?_, fun ⟨h1, h2⟩ => ?_⟩)
      · rintro (⟨h1, h2⟩ | rfl)
        · exact ⟨by omega, h2⟩
        · exact ⟨by omega, h⟩
      · by_cases e : j = n
        · exact Or.inr e
        · exact Or.inl ⟨by omega, h2⟩
    · rw [if_neg h, Nat.or_zero]
      refine Msk_iff (mskO_ok P n) (fun j => ⟨fun ⟨h1, h2⟩ => ⟨by omega, h2⟩, fun ⟨h1, h2⟩ => ⟨?_, h2⟩⟩)
      by_cases e : j = n
      · subst e; exact absurd h2 h
      · omega
theorem mskO_is {P : Nat → Prop} {n m : Nat} (h : Msk m (fun j => j < n ∧ P j)) : m = mskO P n := Msk_one h (mskO_ok P n) (fun _ => Iff.rfl)
theorem mskO_lt (P : Nat → Prop) : ∀ n, mskO P n < 2 ^ n
  | 0 => by simp [mskO]
  | n + 1 => by
    unfold mskO
    have h := mskO_lt P n
    have h2 : 2 ^ n < 2 ^ (n + 1) := Nat.pow_lt_pow_right (by omega) (by omega)
    refine Nat.or_lt_two_pow (by omega) ?_
    split <;> omega
section ASQ
variable {x x' : XS} {A : AS} {L : LK} {S : SH}
def nL (L : LK) (c : Int) : Nat := L.2.1 c.toNat
def kL (L : LK) (c : Int) : Nat → Nat := L.2.2.1 c.toNat
def oL (L : LK) (c : Int) : Nat → Nat := L.2.2.2.1 c.toNat
def wL (L : LK) (c : Int) : Nat → Nat := L.2.2.2.2.1 c.toNat
def fL (L : LK) (c : Int) : Nat → Nat := L.2.2.2.2.2 c.toNat
abbrev isC (c : Int) : Prop := 0 ≤ c ∧ c < 6

theorem x_cellAt (h : XR x A) {c : Int} (h1 : -2147483648 ≤ c) (h2 : c < 2147483648) {Q : Int32 → Prop} {P : Nat → Prop} (hn : ¬ isC c → Q (-1)) (hy : isC c → ∀ b, xk b 2 → cOK (nL A.1 c) (kL A.1 c) (oL A.1 c) (wL A.1 c) (fL A.1 c) → CX x b (nL A.1 c) (kL A.1 c) (oL A.1 c) (wL A.1 c) (fL A.1 c) → P b) : wp_X6_cellAt x 29 (zI c) (fun r : Option Nat => match r with | none => Q (-1) | some o1 => xk o1 2 ∧ P o1) := by
  refine s_cellAt xk_29 h.1.1.1 h1 h2 hn (fun c0 hc0 e => ⟨wLP_xk xk_29 h.1.1.1 hc0, ?_⟩)
  subst e
  exact hy (by unfold isC; omega) _ (wLP_xk xk_29 h.1.1.1 hc0) (h.1.2.2 c0 hc0) (h.1.1.2.2 c0 hc0)
def aLayer (A : AS) (c i w : Int) : Int :=
  if isC c then (if 0 ≤ i ∧ i < nL A.1 c then tel (kL A.1 c) (oL A.1 c) (wL A.1 c) (fL A.1 c) (nL A.1 c) i.toNat w else -1) else -1
theorem x_layer (h : XR x A) {c i w : Int} (h1 : -2147483648 ≤ c) (h2 : c < 2147483648) (h3 : -2147483648 ≤ i) (h4 : i < 2147483648) (h5 : -2147483648 ≤ w) (h6 : w < 2147483648) {Q : Int32 → Prop} (hq : Q (zI (aLayer A c i w))) : wp_X11_layer x (zI c) (zI i) (zI w) Q := by
  unfold aLayer at hq
  refine x_cellAt h h1 h2 (fun z => by rw [if_neg z] at hq; exact hq) (fun hc b hb ok hX => ?_)
  rw [if_pos hc] at hq
  by_cases hi : 0 ≤ i ∧ i < nL A.1 c
  · rw [if_pos hi] at hq
    obtain ⟨j, rfl⟩ : ∃ j : Nat, i = j := ⟨i.toNat, by omega⟩
    refine s_hasI ok.1 hX.1 (by omega) ⟨fun _ => s_tellOf ok hX (by omega) h5 h6 hq, fun z => absurd z (by decide)⟩
  · rw [if_neg hi] at hq
    exact s_hasO ok.1 hX.1 h3 h4 hi ⟨fun z => absurd rfl z, fun _ => hq⟩
def aCell (A : AS) (c w : Int) : Int :=
  if isC c then (if w = 0 then (nL A.1 c : Int) else if w = 1 then ((sg (fL A.1 c) (nL A.1 c) : Nat) : Int) else -1) else -1
theorem x_cell (h : XR x A) {c w : Int} (h1 : -2147483648 ≤ c) (h2 : c < 2147483648) (h5 : -2147483648 ≤ w) (h6 : w < 2147483648) {Q : Int32 → Prop} (hq : Q (zI (aCell A c w))) : wp_X11_cell x (zI c) (zI w) Q := by
  unfold aCell at hq
  refine x_cellAt h h1 h2 (fun z => by rw [if_neg z] at hq; exact hq) (fun hc b hb ok hX => ?_)
  rw [if_pos hc] at hq
  refine s_within (a := 0) (b := 1) h5 h6 (by omega) (by omega) (by omega) (by omega) (fun z => ⟨fun _ => ?_, fun q => absurd q (by decide)⟩) (fun z => ⟨fun q => absurd rfl q, fun _ => by rw [if_neg (by omega), if_neg (by omega)] at hq; exact hq⟩)
  rw [show (0 : Int32) = zI 0 from rfl, zI_eq (by omega) (by omega) (by omega) (by omega)]
  refine ⟨fun c1 => ?_, fun c1 => ?_⟩
  · rw [if_neg c1, if_pos (by omega)] at hq; exact s_ice ok hX hq
  · rw [if_pos c1] at hq; rw [hX.1]; exact hq
def aHolds (A : AS) (c : Int) : Int :=
  if isC c then (match topR (rdb (kL A.1 c) (oL A.1 c) (fL A.1 c) (nL A.1 c)) (nL A.1 c) with | none => -4 | some i => (oL A.1 c i : Int)) else -1
theorem x_holds (h : XR x A) {c : Int} (h1 : -2147483648 ≤ c) (h2 : c < 2147483648) {Q : Int32 → Prop} (hq : Q (zI (aHolds A c))) : wp_X11_holds x (zI c) Q := by
  unfold aHolds at hq
  refine x_cellAt h h1 h2 (fun z => by rw [if_neg z] at hq; exact hq) (fun hc b hb ok hX => ?_)
  rw [if_pos hc] at hq
  exact s_topmostRead ok hX hq
def aLatest (A : AS) (o : Int) : Int := if 0 ≤ o ∧ o ≤ 9 then (ltL A.1.2.1 A.1.2.2.2.1 A.1.2.2.2.2.1 o.toNat 6).1 else -1
theorem x_latest (h : XR x A) {o : Int} (h1 : -2147483648 ≤ o) (h2 : o < 2147483648) {Q : Int32 → Prop} (hq : Q (zI (aLatest A o))) : wp_X11_latest x (zI o) Q := by
  unfold aLatest at hq
  refine s_within (a := 0) (b := 9) h1 h2 (by omega) (by omega) (by omega) (by omega) (fun z => ⟨fun q => absurd q (by decide), fun _ => ?_⟩) (fun z => ⟨fun _ => by rw [if_neg z] at hq; exact hq, fun q => absurd rfl q⟩)
  rw [if_pos z] at hq
  obtain ⟨j, rfl⟩ : ∃ j : Nat, o = j := ⟨o.toNat, by omega⟩
  exact s_latestOf xk_29 h.1.2 h.1.1 (by omega) hq
def aLasts (A : AS) (c i : Int) : Int :=
  if isC c then (if 0 ≤ i ∧ i < nL A.1 c then (sg (dys (kL A.1 c) (oL A.1 c) (fL A.1 c)) (nL A.1 c) : Int) - sg (dys (kL A.1 c) (oL A.1 c) (fL A.1 c)) i.toNat else -1) else -1
theorem x_lasts (h : XR x A) {c i : Int} (h1 : -2147483648 ≤ c) (h2 : c < 2147483648) (h3 : -2147483648 ≤ i) (h4 : i < 2147483648) {Q : Int32 → Prop} (hq : Q (zI (aLasts A c i))) : wp_X11_lasts x (zI c) (zI i) Q := by
  unfold aLasts at hq
  refine x_cellAt h h1 h2 (fun z => by rw [if_neg z] at hq; exact hq) (fun hc b hb ok hX => ?_)
  rw [if_pos hc] at hq
  by_cases hi : 0 ≤ i ∧ i < nL A.1 c
  · rw [if_pos hi] at hq
    obtain ⟨j, rfl⟩ : ∃ j : Nat, i = j := ⟨i.toNat, by omega⟩
    refine s_hasI ok.1 hX.1 (by omega) ⟨fun _ => s_daysOf ok hX (by omega) hq, fun z => absurd z (by decide)⟩
  · rw [if_neg hi] at hq
    exact s_hasO ok.1 hX.1 h3 h4 hi ⟨fun z => absurd rfl z, fun _ => hq⟩
/-- the first frost f, f+1 .. that keeps so long -/
def frS (k o d : Nat) : Nat → Nat → Int
  | 0, _ => -4
  | r + 1, f => if thk k o f ≤ d * melt k o then frS k o d r (f + 1) else (f : Nat)
def aFrost (k o d : Int) : Int := if 0 ≤ k ∧ k < 8 ∧ 0 ≤ o ∧ o < 10 ∧ 1 ≤ d ∧ d ≤ 99 then frS k.toNat o.toNat d.toNat 9 1 else -1
theorem x_frost (x : XS) {k o d : Int} (h1 : -2147483648 ≤ k) (h2 : k < 2147483648) (h3 : -2147483648 ≤ o) (h4 : o < 2147483648) (h5 : -2147483648 ≤ d) (h6 : d < 2147483648) {Q : Int32 → Prop} (hq : Q (zI (aFrost k o d))) : wp_X11_frost x (zI k) (zI o) (zI d) Q := by
  unfold aFrost at hq
  refine s_kindAndOath h1 h2 h3 h4 (fun z => ⟨fun q => absurd q (by decide), fun _ => ?_⟩) (fun z => ⟨fun _ => by rw [if_neg (by omega)] at hq; exact hq, fun q => absurd rfl q⟩)
  refine s_within (a := 1) (b := 99) h5 h6 (by omega) (by omega) (by omega) (by omega) (fun z2 => ⟨fun _ => ?_, fun q => absurd q (by decide)⟩) (fun z2 => ⟨fun q => absurd rfl q, fun _ => by rw [if_neg (by omega)] at hq; exact hq⟩)
  obtain ⟨k, rfl⟩ : ∃ j : Nat, k = j := ⟨k.toNat, by omega⟩
  obtain ⟨o, rfl⟩ : ∃ j : Nat, o = j := ⟨o.toNat, by omega⟩
  obtain ⟨d, rfl⟩ : ∃ j : Nat, d = j := ⟨d.toNat, by omega⟩
  rw [if_pos (by omega)] at hq
  refine s_kindOf (by omega) ⟨by omega, ?_⟩
  refine ⟨fun y => ∃ f r : Nat, 1 ≤ f ∧ f + r = 10 ∧ y = zI f ∧ frS k o d 9 1 = frS k o d r f, fun y => 1000 - y.toInt.toNat, ⟨1, 9, by omega, by omega, rfl, rfl⟩, ?_⟩
  rintro y ⟨f, r, hf1, hfr, rfl, he⟩
  simp only [Int.toNat_natCast] at hq
  rw [he] at hq
  rw [show (9 : Int32) = zI 9 from rfl, zI_lt (by omega) (by omega) (by omega) (by omega)]
  refine ⟨fun c => ?_, fun c => ?_⟩
  · have e : r = 0 := by omega
    subst e; exact hq
  · obtain ⟨r, rfl⟩ : ∃ j, r = j + 1 := ⟨r - 1, by omega⟩
    refine s_fing (by omega) hf1 (by omega) (s_melts (by omega) ?_)
    have hb := thk_b (k := k) (o := o) (f := f) (by omega) hf1 (by omega)
    have hm := melt_b (k := k) (o := o) (by omega)
    have hmul : d * melt k o ≤ 99 * 12 := Nat.mul_le_mul (by omega) (by omega)
    have em : zI (d : Int) * zI (melt k o : Int) = zI ((d * melt k o : Nat) : Int) := by rw [zI_mul]; exact zI_c (by simp)
    rw [em, zI_le (by omega) (by omega) (by omega) (by omega), zI_p1]
    unfold frS at hq
    refine ⟨fun c2 => ⟨⟨f + 1, r, by omega, by omega, zI_c (by omega), ?_⟩, mux 1000 (by omega) (by omega) (by omega)⟩, fun c2 => ?_⟩
    · rw [he]; show frS k o d (r + 1) f = _; unfold frS; rw [if_pos (by omega)]; 
      cases r <;> rfl
    · rw [if_neg (by omega)] at hq; exact hq
noncomputable def aWhere (A : AS) (o d : Int) : Int := if 0 ≤ o ∧ o ≤ 9 ∧ 0 ≤ d ∧ d ≤ 99 then (mskO (kpo A.1.2.1 A.1.2.2.1 A.1.2.2.2.1 A.1.2.2.2.2.2 o.toNat d.toNat) 6 : Nat) else -1
theorem x_where (h : XR x A) {o d : Int} (h1 : -2147483648 ≤ o) (h2 : o < 2147483648) (h3 : -2147483648 ≤ d) (h4 : d < 2147483648) {Q : Int32 → Prop} (hq : Q (zI (aWhere A o d))) : wp_X11_where x (zI o) (zI d) Q := by
  unfold aWhere at hq
  refine s_within (a := 0) (b := 9) h1 h2 (by omega) (by omega) (by omega) (by omega) (fun z => ⟨fun q => absurd q (by decide), fun _ => ?_⟩) (fun z => ⟨fun _ => by rw [if_neg (by omega)] at hq; exact hq, fun q => absurd rfl q⟩)
  refine s_within (a := 0) (b := 99) h3 h4 (by omega) (by omega) (by omega) (by omega) (fun z2 => ⟨fun _ => ?_, fun q => absurd q (by decide)⟩) (fun z2 => ⟨fun q => absurd rfl q, fun _ => by rw [if_neg (by omega)] at hq; exact hq⟩)
  rw [if_pos (by omega)] at hq
  obtain ⟨o, rfl⟩ : ∃ j : Nat, o = j := ⟨o.toNat, by omega⟩
  obtain ⟨d, rfl⟩ : ∃ j : Nat, d = j := ⟨d.toNat, by omega⟩
  refine s_cellsWith xk_29 h.1.2 h.1.1 (by omega) (by omega) (fun m hm => ?_)
  rw [mskO_is hm]; exact hq
def aThin (A : AS) (w : Int) : Int := if w = 0 then (sg (fun c => sg (cnt (thb A.1.2.1 A.1.2.2.2.2.1 A.1.2.2.2.2.2 c)) (A.1.2.1 c)) 6 : Nat) else if w = 1 then fthL (thb A.1.2.1 A.1.2.2.2.2.1 A.1.2.2.2.2.2) A.1.2.1 0 6 else -1
theorem x_thin (h : XR x A) {w : Int} (h5 : -2147483648 ≤ w) (h6 : w < 2147483648) {Q : Int32 → Prop} (hq : Q (zI (aThin A w))) : wp_X11_thin x (zI w) Q := by
  unfold aThin at hq
  refine s_within (a := 0) (b := 1) h5 h6 (by omega) (by omega) (by omega) (by omega) (fun z => ⟨fun _ => ?_, fun q => absurd q (by decide)⟩) (fun z => ⟨fun q => absurd rfl q, fun _ => by rw [if_neg (by omega), if_neg (by omega)] at hq; exact hq⟩)
  rw [show (0 : Int32) = zI 0 from rfl, zI_eq (by omega) (by omega) (by omega) (by omega)]
  refine ⟨fun c1 => ?_, fun c1 => ?_⟩
  · rw [if_neg c1, if_pos (by omega)] at hq; exact s_firstThin xk_29 h.1.2 h.1.1 hq
  · rw [if_pos c1] at hq; exact s_thinLayers xk_29 h.1.2 h.1.1 hq
def aSpans (A : AS) (c d : Int) : Int :=
  if isC c ∧ 0 ≤ d ∧ d ≤ 98 then (match layB (fL A.1 c) (nL A.1 c) d.toNat with | none => -4 | some i => (wL A.1 c i : Int)) else -1
theorem x_spans (h : XR x A) {c d : Int} (h1 : -2147483648 ≤ c) (h2 : c < 2147483648) (h3 : -2147483648 ≤ d) (h4 : d < 2147483648) {Q : Int32 → Prop} (hq : Q (zI (aSpans A c d))) : wp_X11_spans x (zI c) (zI d) Q := by
  unfold aSpans at hq
  refine x_cellAt h h1 h2 (fun z => by rw [if_neg (fun q => z q.1)] at hq; exact hq) (fun hc b hb ok hX => ?_)
  refine s_within (a := 0) (b := 98) h3 h4 (by omega) (by omega) (by omega) (by omega) (fun z2 => ⟨fun _ => ?_, fun q => absurd q (by decide)⟩) (fun z2 => ⟨fun q => absurd rfl q, fun _ => by rw [if_neg (fun q => z2 q.2)] at hq; exact hq⟩)
  rw [if_pos ⟨hc, z2⟩] at hq
  obtain ⟨d, rfl⟩ : ∃ j : Nat, d = j := ⟨d.toNat, by omega⟩
  refine s_layerBehind ok hX (by omega) ?_
  rw [Int.toNat_natCast] at hq
  cases hl : layB (fL A.1 c) (nL A.1 c) d with
  | none => rw [hl] at hq; exact ⟨fun q => absurd q (by decide), fun _ => hq⟩
  | some i =>
    rw [hl] at hq
    have hi := layB_lt _ _ _ _ hl
    refine ⟨fun _ => s_winterAt ok hX hi hq, fun q => absurd ?_ q⟩
    show zI 0 ≤ zI (i : Int)
    rw [zI_le (by omega) (by omega) (by have := ok.1; omega) (by have := ok.1; omega)]; omega
def aDisorder (A : AS) : Int := (sg (fun c => sg (uno (A.1.2.2.2.2.1 c)) (A.1.2.1 c - 1)) 6 : Nat)
theorem x_disorder (h : XR x A) {Q : Int32 → Prop} (hq : Q (zI (aDisorder A))) : wp_X11_disorder x Q := s_allUnordered xk_29 h.1.2 h.1.1 hq
end ASQ
