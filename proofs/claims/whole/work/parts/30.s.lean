/-! ===== shelves ===== -/
/-- a shelf: held, kind, oath, sort, size, elements -/
abbrev SH := Nat × Nat × Nat × Nat × Nat × (Nat → Int)
def shH (S : SH) : Nat := S.1
def shK (S : SH) : Nat := S.2.1
def shO (S : SH) : Nat := S.2.2.1
def shT (S : SH) : Nat := S.2.2.2.1
def shN (S : SH) : Nat := S.2.2.2.2.1
def shE (S : SH) : Nat → Int := S.2.2.2.2.2
def sOK (S : SH) : Prop := shH S ≤ 2 ∧ shK S < 8 ∧ shO S < 10 ∧ shT S ≤ 2 ∧ shN S ≤ 100 ∧ ∀ i, i < 100 → -2147483648 ≤ shE S i ∧ shE S i < 2147483648 ∧ (shT S = 0 → -128 ≤ shE S i ∧ shE S i ≤ 127) ∧ (shT S = 1 → -32768 ≤ shE S i ∧ shE S i ≤ 32767)
def sX (x : XS) (d : Nat) (S : SH) : Prop := x.1 d 1 = zI (shH S) ∧ x.1 d 2 = zI (shK S) ∧ x.1 d 3 = zI (shO S) ∧ x.1 d 4 = zI (shT S) ∧ x.1 d 5 = zI (shN S) ∧ ∀ i, i < 100 → x.2.1 (d + 1) i = zI (shE S i)
def vlS (S : SH) (z : Int) : Int := if 0 ≤ z ∧ z < shN S then shE S z.toNat else 0
def dgS (S : SH) (z : Int) : Int := if 48 ≤ vlS S z ∧ vlS S z ≤ 57 then vlS S z - 48 else -1
section SHT
variable {x x' : XS} {d : Nat} {S : SH}
theorem vlS_b (ok : sOK S) (z : Int) : -2147483648 ≤ vlS S z ∧ vlS S z < 2147483648 := by
  unfold vlS
  obtain ⟨h1, h2, h3, h4, h5, h6⟩ := ok
  split
  · have := h6 z.toNat (by omega); omega
  · omega
theorem dgS_b (S : SH) (z : Int) : -1 ≤ dgS S z ∧ dgS S z ≤ 9 := by unfold dgS; split <;> omega
theorem s_hasPlace (ok : sOK S) (h : sX x d S) {z : Int} (h1 : -2147483648 ≤ z) (h2 : z < 2147483648) {Q : Int32 → Prop} (hy : 0 ≤ z ∧ z < shN S → Q (zI 1)) (hn : ¬ (0 ≤ z ∧ z < shN S) → Q (zI 0)) : wp_X9_hasPlace x d (zI z) Q := by
  have hN := ok.2.2.2.2.1
  unfold wp_X9_hasPlace
  rw [h.2.2.2.2.1, show (0 : Int32) = zI 0 from rfl, show (100 : Int32) = zI 100 from rfl, zI_lt h1 h2 (by omega) (by omega), zI_le (by omega) (by omega) h1 h2, zI_le (by omega) (by omega) h1 h2]
  exact ⟨fun c => hn (by omega), fun c => ⟨fun c2 => hn (by omega), fun c2 => ⟨fun c3 => hn (by omega), fun c3 => hy (by omega)⟩⟩⟩
theorem s_valueAt (ok : sOK S) (h : sX x d S) {z : Int} (h1 : -2147483648 ≤ z) (h2 : z < 2147483648) {Q : Int32 → Prop} (hq : Q (zI (vlS S z))) : wp_X9_valueAt x d (zI z) Q := by
  have hN := ok.2.2.2.2.1
  refine s_hasPlace ok h h1 h2 (fun c => ⟨fun z => absurd z (by decide), fun _ => ⟨zI_in (by omega) (by omega) (by omega), ?_⟩⟩) (fun c => ⟨fun _ => ?_, fun z => absurd rfl z⟩)
  · rw [zI_cl c.1 h2, h.2.2.2.2.2 _ (by omega)]
    unfold vlS at hq; rw [if_pos c] at hq; exact hq
  · unfold vlS at hq; rw [if_neg c] at hq; exact hq
theorem s_digitAt (ok : sOK S) (h : sX x d S) {z : Int} (h1 : -2147483648 ≤ z) (h2 : z < 2147483648) {Q : Int32 → Prop} (hq : Q (zI (dgS S z))) : wp_X9_digitAt x d (zI z) Q := by
  have hb := vlS_b ok z
  refine s_valueAt ok h h1 h2 ?_
  rw [show (48 : Int32) = zI 48 from rfl, show (57 : Int32) = zI 57 from rfl]
  refine s_within hb.1 hb.2 (by omega) (by omega) (by omega) (by omega) (fun c => ⟨fun z => absurd z (by decide), fun _ => ?_⟩) (fun c => ⟨fun _ => ?_, fun z => absurd rfl z⟩)
  · unfold dgS at hq; rw [if_pos c] at hq; rw [zI_sub]; exact hq
  · unfold dgS at hq; rw [if_neg c] at hq; exact hq
theorem s_lacks (ok : sOK S) (h : sX x d S) {p : Int} (h1 : -2147483648 ≤ p) (h2 : p < 2147483648) {Q : Int32 → Prop} (hq : Q (zI (if shH S = 0 then -11 else if (shH S : Int) = p then 0 else -12))) : wp_X9_lacks x d (zI p) Q := by
  have hH := ok.1
  unfold wp_X9_lacks
  rw [h.1, show (0 : Int32) = zI 0 from rfl, zI_eq (by omega) (by omega) (by omega) (by omega), zI_eq (by omega) (by omega) h1 h2]
  refine ⟨fun c => ⟨fun c2 => ?_, fun c2 => ?_⟩, fun c => ?_⟩
  · rw [if_neg (by omega), if_neg c2] at hq; exact hq
  · rw [if_neg (by omega), if_pos c2] at hq; exact hq
  · rw [if_pos (by omega)] at hq; exact hq
theorem s_hasStretch (ok : sOK S) (h : sX x d S) {p n : Int} (h1 : -2147483648 ≤ p) (h2 : p < 2147483648) (h3 : -2147483648 ≤ n) (h4 : n < 2147483648) {Q : Int32 → Prop} (hy : 0 ≤ p ∧ p ≤ shN S ∧ 0 ≤ n ∧ n ≤ shN S - p → Q (zI 1)) (hn : ¬ (0 ≤ p ∧ p ≤ shN S ∧ 0 ≤ n ∧ n ≤ shN S - p) → Q (zI 0)) : wp_X9_hasStretch x d (zI p) (zI n) Q := by
  have hN := ok.2.2.2.2.1
  unfold wp_X9_hasStretch
  rw [h.2.2.2.2.1, show (0 : Int32) = zI 0 from rfl, zI_sub, zI_lt h1 h2 (by omega) (by omega), zI_lt (by omega) (by omega) h1 h2, zI_lt h3 h4 (by omega) (by omega)]
  refine ⟨fun c => hn (by omega), fun c => ⟨fun c2 => hn (by omega), fun c2 => ?_⟩⟩
  rw [zI_lt (by omega) (by omega) h3 h4]
  exact ⟨fun c3 => hn (by omega), fun c3 => ⟨fun c4 => hn (by omega), fun c4 => hy (by omega)⟩⟩
/-- a number's lowest bits by the sort -/
def nrw (t : Nat) (z : Int) : Int := if t = 0 then z.bmod 256 else if t = 1 then z.bmod 65536 else z
theorem zI_8 (z : Int) : (zI z).toInt8.toInt32 = zI (z.bmod 256) := by
  apply Int32.toInt_inj.mp
  rw [Int8.toInt_toInt32, Int32.toInt_toInt8, zI_t (a := z.bmod 256) (by have := Int.le_bmod (x := z) (m := 256) (by omega); omega) (by have := Int.bmod_lt (x := z) (m := 256) (by omega); omega)]
  show ((Int32.ofInt z).toInt).bmod 256 = _
  rw [Int32.toInt_ofInt]
  exact Int.bmod_bmod_of_dvd (by decide)
theorem zI_16 (z : Int) : (zI z).toInt16.toInt32 = zI (z.bmod 65536) := by
  apply Int32.toInt_inj.mp
  rw [Int16.toInt_toInt32, Int32.toInt_toInt16, zI_t (a := z.bmod 65536) (by have := Int.le_bmod (x := z) (m := 65536) (by omega); omega) (by have := Int.bmod_lt (x := z) (m := 65536) (by omega); omega)]
  show ((Int32.ofInt z).toInt).bmod 65536 = _
  rw [Int32.toInt_ofInt]
  exact Int.bmod_bmod_of_dvd (by decide)
theorem s_lowestBits (ok : sOK S) (h : sX x d S) (z : Int) {Q : Int32 → Prop} (hq : Q (zI (nrw (shT S) z))) : wp_X9_lowestBits x d (zI z) Q := by
  have hT := ok.2.2.2.1
  unfold wp_X9_lowestBits
  rw [h.2.2.2.1, show (0 : Int32) = zI 0 from rfl, show (1 : Int32) = zI 1 from rfl, zI_eq (by omega) (by omega) (by omega) (by omega), zI_eq (by omega) (by omega) (by omega) (by omega), zI_8, zI_16]
  unfold nrw at hq
  refine ⟨fun c => ?_, fun c => ⟨fun c2 => ?_, fun c2 => ?_⟩⟩
  · rw [if_pos (by omega)] at hq; exact hq
  · rw [if_neg (by omega), if_pos (by omega)] at hq; exact hq
  · rw [if_neg (by omega), if_neg (by omega)] at hq; exact hq
def lstN (t : Nat) : Int := if t = 0 then -128 else if t = 1 then -32768 else -2147483648
theorem s_leastNumber (ok : sOK S) (h : sX x d S) {Q : Int32 → Prop} (hq : Q (zI (lstN (shT S)))) : wp_X9_leastNumber x d Q := by
  have hT := ok.2.2.2.1
  unfold wp_X9_leastNumber
  rw [h.2.2.2.1, show (0 : Int32) = zI 0 from rfl, show (1 : Int32) = zI 1 from rfl, zI_eq (by omega) (by omega) (by omega) (by omega), zI_eq (by omega) (by omega) (by omega) (by omega)]
  unfold lstN at hq
  refine ⟨fun c => ?_, fun c => ⟨fun c2 => ?_, fun c2 => ?_⟩⟩
  · rw [if_pos (by omega)] at hq; exact hq
  · rw [if_neg (by omega), if_pos (by omega)] at hq; exact hq
  · rw [if_neg (by omega), if_neg (by omega)] at hq; exact hq
/-- all but shelf d stays -/
def XSf (x x' : XS) (d : Nat) : Prop := (∀ i k, i ≠ d → x'.1 i k = x.1 i k) ∧ (∀ t, t ≠ d + 1 → x'.2.1 t = x.2.1 t) ∧ x'.2.2 = x.2.2
theorem xk_sh : ∀ d, d < 161 → xtag d = 9 → xlen (d + 1) = 100 ∧ ∃ j, j < 8 ∧ d = 11 + 2 * j := by decide +kernel
theorem s_takeLayer (h : sX x d S) {k o : Nat} {Q : XS → Prop} (hq : ∀ x', sX x' d (1, k, o, shT S, shN S, shE S) → XSf x x' d → Q x') : wp_X9_takeLayer x d (zI k) (zI o) Q := by
  rintro x1 rfl x2 rfl x3 rfl
  refine hq _ ⟨?_, ?_, ?_, ?_, ?_, ?_⟩ ⟨fun i k hi => ?_, fun _ _ => rfl, rfl⟩
  · simp [xI]; rfl
  · simp [xI]; rfl
  · simp [xI]; rfl
  · simpa [xI, shT] using h.2.2.2.1
  · simpa [xI, shN] using h.2.2.2.2.1
  · simpa [xI, shE] using h.2.2.2.2.2
  · simp [xI, hi]
theorem s_takeRow (hd : xk d 9) (h : sX x d S) {s n : Nat} {Q : XS → Prop} (hq : ∀ x', sX x' d (2, shK S, shO S, s, n, fun _ => 0) → XSf x x' d → Q x') : wp_X9_takeRow x d (zI s) (zI n) Q := by
  rintro x1 rfl x2 rfl x3 rfl
  refine s_fill (xk_sh d hd.1 hd.2).1 (by omega) fun x4 hB hv => hq _ ⟨?_, ?_, ?_, ?_, ?_, fun i hi => ?_⟩ ⟨fun i k hi => ?_, fun t ht => ?_, ?_⟩
  · rw [hB.1]; simp [xI]; rfl
  · rw [hB.1]; simpa [xI, shK] using h.2.1
  · rw [hB.1]; simpa [xI, shO] using h.2.2.1
  · rw [hB.1]; simp [xI]; rfl
  · rw [hB.1]; simp [xI]; rfl
  · rw [hv i hi]; rfl
  · rw [hB.1]; simp [xI, hi]
  · rw [hB.2.2 t ht]; rfl
  · rw [hB.2.1]; rfl
theorem s_shelfAt {z : Int} (h1 : -2147483648 ≤ z) (h2 : z < 2147483648) {Q : Option Nat → Prop} (hn : ¬ (0 ≤ z ∧ z ≤ 7) → Q none) (hy : ∀ j : Nat, j < 8 → z = j → Q (some (11 + 2 * j))) : wp_X11_shelfAt x (zI z) Q := by
  unfold wp_X11_shelfAt
  rw [show (0 : Int32) = zI 0 from rfl, show (7 : Int32) = zI 7 from rfl]
  refine s_within h1 h2 (by omega) (by omega) (by omega) (by omega) (fun c => ⟨fun z => absurd z (by decide), fun _ => ?_⟩) (fun c => ⟨fun _ => hn c, fun z => absurd rfl z⟩)
  obtain ⟨j, rfl⟩ : ∃ j : Nat, z = j := ⟨z.toNat, by omega⟩
  refine ⟨zI_in (by omega) (by omega) (by omega), fun o e => ?_⟩
  rw [e, zI_clN (by omega)]
  exact hy j (by omega) rfl
theorem xk_shj : ∀ j, j < 8 → 11 + 2 * j < 161 ∧ xtag (11 + 2 * j) = 9 := by decide +kernel
end SHT
