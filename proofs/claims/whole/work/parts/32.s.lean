/-! ===== texts: the first byte that does not fit, the statements done ===== -/
theorem mux (B : Nat) {a b : Nat} (h : a < b) (hb : b < 1000000) (ha : a < B) : B - (zI (b : Int)).toInt.toNat < B - (zI (a : Int)).toInt.toNat := by rw [zI_t (by omega) (by omega), zI_t (by omega) (by omega)]; omega
section TXU
variable {x x' : XS} {g d : Nat} {S : SH} {L : LK}
/-- the first bad byte at i .. in a statement that ends at e -/
def scB (S : SH) (e : Nat) : Nat → Nat → Option Nat
  | 0, _ => none
  | k + 1, i => if i + 1 = e then (if vlS S i = 59 then scB S e k (i + 1) else some i) else (if 0 ≤ dgS S i then scB S e k (i + 1) else some i)
def fbB (S : SH) : Nat → Nat → Int
  | 0, p => p
  | k + 1, p => if slen (vlS S p) = 0 then p else match scB S (p + slen (vlS S p)) (slen (vlS S p) - 1) (p + 1) with
    | some i => (i : Nat)
    | none => if p + slen (vlS S p) < shN S then fbB S k (p + slen (vlS S p)) else -1
theorem vlS_past {S : SH} {p : Nat} (h : shN S ≤ p) : vlS S p = 0 := by unfold vlS; rw [if_neg (by omega)]
theorem dgS_past {S : SH} {p : Nat} (h : shN S ≤ p) : dgS S p = -1 := by unfold dgS; rw [vlS_past h, if_neg (by omega)]
theorem s_firstBadByte (okS : sOK S) (hS : sX x d S) {Q : Int32 → Prop} (hq : Q (zI (fbB S 101 0))) : wp_X11_firstBadByte x d Q := by
  have hN := okS.2.2.2.2.1
  refine ⟨fun y1 => ∃ p k : Nat, p ≤ shN S ∧ (p < shN S ∨ p = 0) ∧ y1 = zI p ∧ shN S < p + k ∧ fbB S 101 0 = fbB S k p, fun y1 => 1000 - y1.toInt.toNat, ⟨0, 101, by omega, by omega, rfl, by omega, rfl⟩, ?_⟩
  rintro y1 ⟨p, k, hp, hp0, rfl, hk, he⟩
  obtain ⟨k, rfl⟩ : ∃ j, k = j + 1 := ⟨k - 1, by omega⟩
  have hv := vlS_b okS p
  refine s_valueAt okS hS (by omega) (by omega) (s_statementLength hv.1 hv.2 ?_)
  have hl := slen_b (vlS S p)
  rw [he] at hq
  unfold fbB at hq
  rw [show (0 : Int32) = zI 0 from rfl, zI_eq (by omega) (by omega) (by omega) (by omega)]
  generalize hL : slen (vlS S p) = l at hl hq ⊢
  refine ⟨fun c => ?_, fun c => by rw [if_pos (by omega)] at hq; exact hq⟩
  rw [if_neg (by omega)] at hq
  have ea : zI (p : Int) + zI (l : Int) = zI ((p + l : Nat) : Int) := by rw [zI_add]; exact zI_c (by omega)
  rw [zI_p1, ea]
  refine ⟨fun y4 => ∃ i r : Nat, p + 1 ≤ i ∧ i + r = p + l ∧ y4 = zI i ∧ scB S (p + l) (l - 1) (p + 1) = scB S (p + l) r i ∧ (i = p + 1 ∨ i ≤ shN S), fun y4 => 1000 - y4.toInt.toNat, ⟨p + 1, l - 1, by omega, by omega, zI_c (by omega), rfl, Or.inl rfl⟩, ?_⟩
  rintro y4 ⟨i, r, h1, h2, rfl, h3, h4⟩
  rw [h3] at hq
  rw [zI_le (by omega) (by omega) (by omega) (by omega), hS.2.2.2.2.1, zI_lt (by omega) (by omega) (by omega) (by omega), show (1 : Int32) = zI (1 : Nat) from rfl, zI_sub, zI_eq (by omega) (by omega) (by omega) (by omega)]
  refine ⟨fun c => ?_, fun c => ?_⟩
  · have er : r = 0 := by omega
    subst er
    simp only [scB] at hq h3
    refine ⟨fun c2 => ?_, fun c2 => ?_⟩
    · refine ⟨⟨p + l, k, by omega, by omega, rfl, by omega, ?_⟩, ?_⟩
      · rw [he, fbB, hL, if_neg (by omega), h3]
        simp only []
        rw [if_pos (by omega)]
      · exact mux 1000 (by omega) (by omega) (by omega)
    · rw [if_neg (by omega)] at hq; exact hq
  · obtain ⟨r, rfl⟩ : ∃ j, r = j + 1 := ⟨r - 1, by omega⟩
    have hvi := vlS_b okS i
    have hdi := dgS_b S i
    have en : zI (i : Int) + zI (1 : Nat) = zI ((i + 1 : Nat) : Int) := by rw [zI_add]; exact zI_c (by omega)
    have nx : scB S (p + l) (r + 1) i = scB S (p + l) r (i + 1) → i < shN S → (∃ i_1 r : Nat, p + 1 ≤ i_1 ∧ i_1 + r = p + l ∧ zI (i : Int) + zI (1 : Nat) = zI i_1 ∧ scB S (p + l) (l - 1) (p + 1) = scB S (p + l) r i_1 ∧ (i_1 = p + 1 ∨ i_1 ≤ shN S)) ∧ 1000 - (zI (i : Int) + zI (1 : Nat)).toInt.toNat < 1000 - (zI (i : Int)).toInt.toNat := fun e hi => by
      refine ⟨⟨i + 1, r, by omega, by omega, en, by rw [h3, e], Or.inr (by omega)⟩, ?_⟩
      rw [en, zI_t (by omega) (by omega), zI_t (by omega) (by omega)]; omega
    refine ⟨fun c2 => ?_, fun c2 => ?_⟩
    · refine s_digitAt okS hS (by omega) (by omega) ?_
      rw [zI_le (by omega) (by omega) (by omega) (by omega)]
      have e : scB S (p + l) (r + 1) i = if 0 ≤ dgS S i then scB S (p + l) r (i + 1) else some i := by simp only [scB]; rw [if_neg (by omega)]
      refine ⟨fun c3 => nx (by rw [e, if_pos c3]) ?_, fun c3 => ?_⟩
      · by_cases hi : i < shN S
        · exact hi
        · rw [dgS_past (by omega)] at c3; omega
      · rw [e, if_neg c3] at hq; exact hq
    · refine s_valueAt okS hS (by omega) (by omega) ?_
      rw [show (59 : Int32) = zI 59 from rfl, zI_eq hvi.1 hvi.2 (by omega) (by omega)]
      have e : scB S (p + l) (r + 1) i = if vlS S i = 59 then scB S (p + l) r (i + 1) else some i := by simp only [scB]; rw [if_pos (by omega)]
      refine ⟨fun c3 => nx (by rw [e, if_pos c3]) ?_, fun c3 => ?_⟩
      · by_cases hi : i < shN S
        · exact hi
        · rw [vlS_past (by omega)] at c3; omega
      · rw [e, if_neg c3] at hq; exact hq
/-- all but the lakes of now and of mind stays -/
def XN (x x' : XS) : Prop := (∀ i k, ¬ (29 ≤ i ∧ i < 73 ∨ 117 ≤ i) → x'.1 i k = x.1 i k) ∧ (∀ t, ¬ (29 ≤ t ∧ t < 73 ∨ 117 ≤ t) → x'.2.1 t = x.2.1 t) ∧ (∀ t, ¬ (29 ≤ t ∧ t < 73 ∨ 117 ≤ t) → x'.2.2 t = x.2.2 t)
theorem XN_rf (x : XS) : XN x x := ⟨fun _ _ _ => rfl, fun _ _ => rfl, fun _ _ => rfl⟩
theorem XN_tr {x y z : XS} (h1 : XN x y) (h2 : XN y z) : XN x z := ⟨fun i k h => (h2.1 i k h).trans (h1.1 i k h), fun t h => (h2.2.1 t h).trans (h1.2.1 t h), fun t h => (h2.2.2 t h).trans (h1.2.2 t h)⟩
theorem XN_29 {x x' : XS} (h : XG x x' 29) : XN x x' := ⟨fun i k hi => h.1 i k (by omega), fun t ht => h.2.1 t (by omega), fun t ht => h.2.2 t (by omega)⟩
theorem XN_117 {x x' : XS} (h : XG x x' 117) : XN x x' := ⟨fun i k hi => h.1 i k (by omega), fun t ht => h.2.1 t (by omega), fun t ht => h.2.2 t (by omega)⟩
theorem sX_N (hd : d < 28) (hS : sX x d S) (h : XN x x') : sX x' d S := by
  obtain ⟨h1, h2, h3, h4, h5, h6⟩ := hS
  exact ⟨(h.1 d 1 (by omega)).trans h1, (h.1 d 2 (by omega)).trans h2, (h.1 d 3 (by omega)).trans h3, (h.1 d 4 (by omega)).trans h4, (h.1 d 5 (by omega)).trans h5, fun i hi => by rw [h.2.1 (d + 1) (by omega)]; exact h6 i hi⟩
/-- the statements done from p on -/
def rdL (S : SH) : Nat → Nat → Nat → LK → Int × Option LK
  | 0, y, _, L => (y, some L)
  | k + 1, y, p, L => if shN S ≤ p then (y, some L) else if 0 ≤ (stL S p L).1 then rdL S k (y + 1) (p + max 1 (slen (vlS S p))) (stL S p L).2 else (-2000 - (p : Int), none)
theorem s_readStatements (hd : d < 28) (okS : sOK S) (hS : sX x d S) (ok : lO L) (h : lX x 29 L) (hm : wLP x 117) {Q : Int32 → XS → Prop}
    (hq : ∀ x', XN x x' → wLP x' 117 → lX x' 29 ((rdL S 110 0 0 L).2.getD L) → lO ((rdL S 110 0 0 L).2.getD L) → Q (zI (rdL S 110 0 0 L).1) x') : wp_X11_readStatements x d Q := by
  have hN := okS.2.2.2.2.1
  refine s_takeAll xk_117 xk_29 (by omega) hm ok h (fun x1 h1 hG => ?_)
  refine ⟨fun y2 y3 x4 => ∃ (y p k : Nat) (L4 : LK), y ≤ p ∧ p ≤ shN S + 6 ∧ y2 = zI y ∧ y3 = zI p ∧ shN S + 7 < p + k ∧ rdL S 110 0 0 L = rdL S k y p L4 ∧ lX x4 117 L4 ∧ lO L4 ∧ XG x x4 117, fun _ y3 _ => 1000 - y3.toInt.toNat, ⟨0, 0, 110, L, by omega, by omega, rfl, rfl, by omega, rfl, h1, ok, hG⟩, ?_⟩
  rintro y2 y3 x4 ⟨y, p, k, L4, hy, hp, rfl, rfl, hk, he, h4, ok4, hG4⟩
  obtain ⟨k, rfl⟩ : ∃ j, k = j + 1 := ⟨k - 1, by omega⟩
  rw [he] at hq
  simp only [rdL] at hq
  have h29 : lX x4 29 L := wLX_keep xk_117 xk_29 (by omega) h hG4
  have hS4 : sX x4 d S := sX_N hd hS (XN_117 hG4)
  rw [hS4.2.2.2.2.1, zI_le (by omega) (by omega) (by omega) (by omega)]
  refine ⟨fun c => ?_, fun c => ?_⟩
  · rw [if_pos (by omega)] at hq
    refine s_takeAll xk_29 xk_117 (by omega) h29.1 ok4 h4 (fun x5 h5 hG5 => ?_)
    exact hq x5 (XN_tr (XN_117 hG4) (XN_29 hG5)) (wLX_keep xk_29 xk_117 (by omega) h4 hG5).1 h5 ok4
  · rw [if_neg (by omega)] at hq
    refine s_doStatement okS hS4 ok4 h4 (by omega) (fun x6 h6 hG6 => ?_)
    have hb := stL_b ok4 S p
    have hS6 : sX x6 d S := sX_N hd hS4 (XN_117 hG6)
    rw [show (0 : Int32) = zI 0 from rfl, zI_le (by omega) (by omega) (by omega) (by omega)]
    refine ⟨fun c2 => ?_, fun c2 => ?_⟩
    · have hv := vlS_b okS p
      have hl := slen_b (vlS S p)
      refine s_valueAt okS hS6 (by omega) (by omega) (s_statementLength hv.1 hv.2 ?_)
      have em : (if (1 : Int32) < zI (slen (vlS S p)) then zI (slen (vlS S p)) else (1 : Int32)) = zI ((max 1 (slen (vlS S p)) : Nat) : Int) := by
        have e1 := zI_lt (a := 1) (b := slen (vlS S p)) (by omega) (by omega) (by omega) (by omega)
        by_cases c3 : (1 : Int) < slen (vlS S p)
        · rw [if_pos (show (1 : Int32) < zI (slen (vlS S p)) from e1.mpr c3)]; exact zI_c (by omega)
        · rw [if_neg (show ¬ (1 : Int32) < zI (slen (vlS S p)) from fun z => c3 (e1.mp z))]; show zI 1 = _; exact zI_c (by omega)
      have ep : zI (p : Int) + zI ((max 1 (slen (vlS S p)) : Nat) : Int) = zI ((p + max 1 (slen (vlS S p)) : Nat) : Int) := by rw [zI_add]; exact zI_c (by omega)
      rw [em, zI_p1, ep]
      refine ⟨⟨y + 1, p + max 1 (slen (vlS S p)), k, (stL S p L4).2, by omega, by omega, zI_c (by omega), rfl, by omega, ?_, h6, lO_st ok4 S p, XG_tr hG4 hG6⟩, mux 1000 (by omega) (by omega) (by omega)⟩
      rw [he]; simp only [rdL]; rw [if_neg (by omega), if_pos c2]
    · rw [if_neg c2] at hq
      rw [show (-2000 : Int32) = zI (-2000) from rfl, zI_sub]
      have hG7 := XG_tr hG4 hG6
      exact hq x6 (XN_117 hG7) h6.1 (wLX_keep xk_117 xk_29 (by omega) h hG7) ok
end TXU
