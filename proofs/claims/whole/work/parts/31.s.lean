/-! ===== lakes as one value; texts ===== -/
/-- a lake: winter, layers of each cell, kinds, oaths, winters, fingers -/
abbrev LK := Nat × (Nat → Nat) × (Nat → Nat → Nat) × (Nat → Nat → Nat) × (Nat → Nat → Nat) × (Nat → Nat → Nat)
def lX (x : XS) (g : Nat) (L : LK) : Prop := wLX x g L.1 L.2.1 L.2.2.1 L.2.2.2.1 L.2.2.2.2.1 L.2.2.2.2.2
def lO (L : LK) : Prop := lOK L.1 L.2.1 L.2.2.1 L.2.2.2.1 L.2.2.2.2.1 L.2.2.2.2.2
def fzL (L : LK) (c k o f : Int) : Int × LK :=
  if 0 ≤ c ∧ c < 6 ∧ 0 ≤ k ∧ k < 8 ∧ 0 ≤ o ∧ o < 10 ∧ 1 ≤ f ∧ f ≤ 9 then
    (if L.2.1 c.toNat = 8 then (-2, L) else
      ((thk k.toNat o.toNat f.toNat : Nat), (L.1, upc L.2.1 c.toNat (L.2.1 c.toNat + 1), upc L.2.2.1 c.toNat (ups (L.2.2.1 c.toNat) (L.2.1 c.toNat) k.toNat), upc L.2.2.2.1 c.toNat (ups (L.2.2.2.1 c.toNat) (L.2.1 c.toNat) o.toNat), upc L.2.2.2.2.1 c.toNat (ups (L.2.2.2.2.1 c.toNat) (L.2.1 c.toNat) L.1), upc L.2.2.2.2.2 c.toNat (ups (L.2.2.2.2.2 c.toNat) (L.2.1 c.toNat) (thk k.toNat o.toNat f.toNat)))))
  else (-1, L)
def cuL (L : LK) (c f : Int) : Int × LK :=
  if 0 ≤ c ∧ c < 6 ∧ 1 ≤ f ∧ f ≤ 99 then
    ((L.2.1 c.toNat : Int) - (cutS (L.2.2.2.2.2 c.toNat) (L.2.1 c.toNat) f.toNat).1, (L.1, upc L.2.1 c.toNat (cutS (L.2.2.2.2.2 c.toNat) (L.2.1 c.toNat) f.toNat).1, L.2.2.1, L.2.2.2.1, L.2.2.2.2.1, upc L.2.2.2.2.2 c.toNat (cutS (L.2.2.2.2.2 c.toNat) (L.2.1 c.toNat) f.toNat).2))
  else (-1, L)
def thL (L : LK) (d : Int) : Int × LK :=
  if 1 ≤ d ∧ d ≤ 99 then
    ((sg (fun c => L.2.1 c - thN L.2.1 L.2.2.1 L.2.2.2.1 L.2.2.2.2.2 d.toNat c) 6 : Nat), (L.1, thN L.2.1 L.2.2.1 L.2.2.2.1 L.2.2.2.2.2 d.toNat, L.2.2.1, L.2.2.2.1, L.2.2.2.2.1, thF L.2.1 L.2.2.1 L.2.2.2.1 L.2.2.2.2.2 d.toNat))
  else (-1, L)
def drL (L : LK) : Int × LK := ((L.2.1 5 : Nat), (L.1, rot L.2.1, rot L.2.2.1, rot L.2.2.2.1, rot L.2.2.2.2.1, rot L.2.2.2.2.2))
def wiL (L : LK) : Int × LK := if L.1 = 99 then (-2, L) else ((L.1 : Int) + 1, (L.1 + 1, L.2))
section TXT
variable {x x' : XS} {g d : Nat} {S : SH} {L : LK}
theorem lO_fz (ok : lO L) (c k o f : Int) : lO (fzL L c k o f).2 := by
  unfold fzL
  split
  · rename_i h
    split
    · exact ok
    · rename_i h8
      have okc := ok.2 c.toNat (by omega)
      have hn : L.2.1 c.toNat < 8 := by have := okc.1; omega
      have hb := thk_b (k := k.toNat) (o := o.toNat) (f := f.toNat) (by omega) (by omega) (by omega)
      exact lOK_set ok (cOK_up okc hn (by omega) (by omega) ok.1 hb.1 hb.2)
  · exact ok
theorem lO_cu (ok : lO L) (c f : Int) : lO (cuL L c f).2 := by
  unfold cuL
  split
  · rename_i h
    have okc := ok.2 c.toNat (by omega)
    refine lOK_cong (lOK_set (c := c.toNat) ok (cOK_cut okc f.toNat)) (fun d hd => ⟨rfl, ?_, ?_, ?_, rfl⟩)
    all_goals (unfold upc; split <;> simp_all)
  · exact ok
theorem lO_th (ok : lO L) (d : Int) : lO (thL L d).2 := by
  unfold thL
  split
  · exact lOK_th ok d.toNat
  · exact ok
theorem lO_dr (ok : lO L) : lO (drL L).2 := ⟨ok.1, fun c hc => ok.2 ((c + 5) % 6) (by omega)⟩
theorem lO_wi (ok : lO L) : lO (wiL L).2 := by
  unfold wiL
  have := ok.1
  split
  · exact ok
  · exact ⟨by show L.1 + 1 ≤ 99; omega, ok.2⟩
theorem s_fz (hg : xk g 6) (ok : lO L) (h : lX x g L) {c k o f : Int} (hc1 : -2147483648 ≤ c) (hc2 : c < 2147483648) (hk1 : -2147483648 ≤ k) (hk2 : k < 2147483648) (ho1 : -2147483648 ≤ o) (ho2 : o < 2147483648) (hf1 : -2147483648 ≤ f) (hf2 : f < 2147483648) {Q : Int32 → XS → Prop}
    (hq : ∀ x', lX x' g (fzL L c k o f).2 → XG x x' g → Q (zI (fzL L c k o f).1) x') : wp_X6_freezeIn x g (zI c) (zI k) (zI o) (zI f) Q := by
  unfold fzL at hq
  refine s_freezeIn hg ok h hc1 hc2 hk1 hk2 ho1 ho2 hf1 hf2 (fun z => ?_) (fun c0 e hc0 z h8 => ?_) (fun c0 k0 o0 f0 x' e1 e2 e3 e4 h1 h2 h3 h4 h5 h6 h7 h8 => ?_)
  · rw [if_neg z] at hq; exact hq x h (XG_rf x g)
  · subst e
    rw [if_pos (by omega), if_pos (show L.2.1 (Int.toNat (c0 : Int)) = 8 by simp only [Int.toNat_natCast]; exact h8)] at hq; exact hq x h (XG_rf x g)
  · subst e1 e2 e3 e4
    rw [if_pos (by omega), if_neg (show ¬ L.2.1 (Int.toNat (c0 : Int)) = 8 by simp only [Int.toNat_natCast]; omega)] at hq
    exact hq x' h7 h8
theorem s_cu (hg : xk g 6) (ok : lO L) (h : lX x g L) {c f : Int} (hc1 : -2147483648 ≤ c) (hc2 : c < 2147483648) (hf1 : -2147483648 ≤ f) (hf2 : f < 2147483648) {Q : Int32 → XS → Prop}
    (hq : ∀ x', lX x' g (cuL L c f).2 → XG x x' g → Q (zI (cuL L c f).1) x') : wp_X6_cutIn x g (zI c) (zI f) Q := by
  unfold cuL at hq
  refine s_cutIn hg ok h hc1 hc2 hf1 hf2 (fun z => ?_) (fun c0 f0 x' e1 e2 h1 h2 h3 h4 h5 => ?_)
  · rw [if_neg z] at hq; exact hq x h (XG_rf x g)
  · subst e1 e2
    rw [if_pos (by omega)] at hq
    exact hq x' h4 h5
theorem s_th (hg : xk g 6) (ok : lO L) (h : lX x g L) {d : Int} (hd1 : -2147483648 ≤ d) (hd2 : d < 2147483648) {Q : Int32 → XS → Prop}
    (hq : ∀ x', lX x' g (thL L d).2 → XG x x' g → Q (zI (thL L d).1) x') : wp_X6_thawFor x g (zI d) Q := by
  unfold thL at hq
  refine s_thawFor hg ok h hd1 hd2 (fun z => ?_) (fun d0 x' e h1 h2 h3 h4 => ?_)
  · rw [if_neg z] at hq; exact hq x h (XG_rf x g)
  · subst e
    rw [if_pos (by omega)] at hq
    exact hq x' h3 h4
theorem s_dr (hg : xk g 6) (ok : lO L) (h : lX x g L) {Q : Int32 → XS → Prop} (hq : ∀ x', lX x' g (drL L).2 → XG x x' g → Q (zI (drL L).1) x') : wp_X6_driftOn x g Q :=
  s_driftOn hg ok h (fun x' h1 h2 => hq x' h1 h2)
theorem s_wi (hg : xk g 6) (ok : lO L) (h : lX x g L) {Q : Int32 → XS → Prop} (hq : ∀ x', lX x' g (wiL L).2 → XG x x' g → Q (zI (wiL L).1) x') : wp_X6_nextWinter x g Q := by
  unfold wiL at hq
  refine s_nextWinter hg ok h (fun z => ?_) (fun x' h1 h2 h3 => ?_)
  · rw [if_pos z] at hq; exact hq x h (XG_rf x g)
  · rw [if_neg (by omega)] at hq; exact hq x' h2 h3
theorem sg_sub_le (f h : Nat → Nat) (n : Nat) : sg (fun c => f c - h c) n ≤ sg f n := by
  induction n with
  | zero => exact Nat.le_refl _
  | succ n ih => rw [sg_s, sg_s]; omega
theorem fzL_b (ok : lO L) (c k o f : Int) : -2 ≤ (fzL L c k o f).1 ∧ (fzL L c k o f).1 ≤ 1000 := by
  unfold fzL
  split
  · rename_i h
    split
    · exact ⟨by show (-2 : Int) ≤ -2; omega, by show (-2 : Int) ≤ 1000; omega⟩
    · have hb := thk_b (k := k.toNat) (o := o.toNat) (f := f.toNat) (by omega) (by omega) (by omega)
      exact ⟨by show (-2 : Int) ≤ (thk k.toNat o.toNat f.toNat : Nat); omega, by show ((thk k.toNat o.toNat f.toNat : Nat) : Int) ≤ 1000; omega⟩
  · exact ⟨by show (-2 : Int) ≤ -1; omega, by show (-1 : Int) ≤ 1000; omega⟩
theorem cuL_b (ok : lO L) (c f : Int) : -2 ≤ (cuL L c f).1 ∧ (cuL L c f).1 ≤ 1000 := by
  unfold cuL
  split
  · rename_i h
    have okc := (ok.2 c.toNat (by omega)).1
    have hle := cutS_le (L.2.2.2.2.2 c.toNat) (L.2.1 c.toNat) f.toNat
    show (-2 : Int) ≤ (L.2.1 c.toNat : Int) - ((cutS (L.2.2.2.2.2 c.toNat) (L.2.1 c.toNat) f.toNat).1 : Nat) ∧ (L.2.1 c.toNat : Int) - ((cutS (L.2.2.2.2.2 c.toNat) (L.2.1 c.toNat) f.toNat).1 : Nat) ≤ 1000
    omega
  · exact ⟨by show (-2 : Int) ≤ -1; omega, by show (-1 : Int) ≤ 1000; omega⟩
theorem thL_b (ok : lO L) (d : Int) : -2 ≤ (thL L d).1 ∧ (thL L d).1 ≤ 1000 := by
  unfold thL
  split
  · have h1 := sg_sub_le L.2.1 (thN L.2.1 L.2.2.1 L.2.2.2.1 L.2.2.2.2.2 d.toNat) 6
    have h2 : sg L.2.1 6 ≤ 6 * 8 := sg_le (fun i hi => (ok.2 i hi).1)
    show (-2 : Int) ≤ (sg (fun c => L.2.1 c - thN L.2.1 L.2.2.1 L.2.2.2.1 L.2.2.2.2.2 d.toNat c) 6 : Nat) ∧ ((sg (fun c => L.2.1 c - thN L.2.1 L.2.2.1 L.2.2.2.1 L.2.2.2.2.2 d.toNat c) 6 : Nat) : Int) ≤ 1000
    omega
  · exact ⟨by show (-2 : Int) ≤ -1; omega, by show (-1 : Int) ≤ 1000; omega⟩
theorem drL_b (ok : lO L) : -2 ≤ (drL L).1 ∧ (drL L).1 ≤ 1000 := by
  have := (ok.2 5 (by omega)).1
  show (-2 : Int) ≤ (L.2.1 5 : Nat) ∧ ((L.2.1 5 : Nat) : Int) ≤ 1000
  omega
theorem wiL_b (ok : lO L) : -2 ≤ (wiL L).1 ∧ (wiL L).1 ≤ 1000 := by
  have := ok.1
  unfold wiL
  split
  · exact ⟨by show (-2 : Int) ≤ -2; omega, by show (-2 : Int) ≤ 1000; omega⟩
  · show (-2 : Int) ≤ (L.1 : Int) + 1 ∧ (L.1 : Int) + 1 ≤ 1000
    omega
/-- one statement at p -/
def stL (S : SH) (p : Nat) (L : LK) : Int × LK :=
  if vlS S p = 99 then cuL L (dgS S (p + 1 : Nat)) (10 * dgS S (p + 2 : Nat) + dgS S (p + 3 : Nat)) else if vlS S p = 100 then drL L else if vlS S p = 110 then fzL L (dgS S (p + 1 : Nat)) (dgS S (p + 2 : Nat)) (dgS S (p + 3 : Nat)) (dgS S (p + 4 : Nat)) else if vlS S p = 116 then thL L (dgS S (p + 1 : Nat)) else wiL L
theorem stL_b (ok : lO L) (S : SH) (p : Nat) : -2 ≤ (stL S p L).1 ∧ (stL S p L).1 ≤ 1000 := by
  unfold stL
  split
  · exact cuL_b ok _ _
  split
  · exact drL_b ok
  split
  · exact fzL_b ok _ _ _ _
  split
  · exact thL_b ok _
  · exact wiL_b ok
theorem lO_st (ok : lO L) (S : SH) (p : Nat) : lO (stL S p L).2 := by
  unfold stL
  split
  · exact lO_cu ok _ _
  split
  · exact lO_dr ok
  split
  · exact lO_fz ok _ _ _ _
  split
  · exact lO_th ok _
  · exact lO_wi ok
theorem s_doStatement (okS : sOK S) (hS : sX x d S) (ok : lO L) (h : lX x 117 L) {p : Nat} (hp : p ≤ 1000) {Q : Int32 → XS → Prop} (hq : ∀ x', lX x' 117 (stL S p L).2 → XG x x' 117 → Q (zI (stL S p L).1) x') : wp_X11_doStatement x d (zI p) Q := by
  unfold wp_X11_doStatement
  have a : ∀ k : Nat, zI (p : Int) + zI (k : Int) = zI ((p + k : Nat) : Int) := fun k => by rw [zI_add]; exact zI_c (by omega)
  rw [show (1 : Int32) = zI (1 : Nat) from rfl, show (2 : Int32) = zI (2 : Nat) from rfl, show (3 : Int32) = zI (3 : Nat) from rfl, show (4 : Int32) = zI (4 : Nat) from rfl, a 1, a 2, a 3, a 4]
  have hv := vlS_b okS p
  have hd : ∀ z, -1 ≤ dgS S z ∧ dgS S z ≤ 9 := dgS_b S
  refine s_digitAt okS hS (by omega) (by omega) (s_valueAt okS hS (by omega) (by omega) ?_)
  have h1 := hd (p + 1 : Nat)
  have h2 := hd (p + 2 : Nat)
  have h3 := hd (p + 3 : Nat)
  have h4 := hd (p + 4 : Nat)
  rw [show (99 : Int32) = zI 99 from rfl, show (100 : Int32) = zI 100 from rfl, show (110 : Int32) = zI 110 from rfl, show (116 : Int32) = zI 116 from rfl, zI_eq hv.1 hv.2 (by omega) (by omega), zI_eq hv.1 hv.2 (by omega) (by omega), zI_eq hv.1 hv.2 (by omega) (by omega), zI_eq hv.1 hv.2 (by omega) (by omega)]
  unfold stL at hq
  refine ⟨fun c => ?_, fun c => ⟨fun c2 => ?_, fun c2 => ⟨fun c3 => ?_, fun c3 => ⟨fun c4 => ?_, fun c4 => ?_⟩⟩⟩⟩
  · rw [if_pos c] at hq
    refine s_digitAt okS hS (by omega) (by omega) (s_digitAt okS hS (by omega) (by omega) ?_)
    rw [show (10 : Int32) = zI 10 from rfl, zI_mul, zI_add]
    exact s_cu xk_117 ok h (by omega) (by omega) (by omega) (by omega) hq
  · rw [if_neg c, if_pos c2] at hq
    exact s_dr xk_117 ok h hq
  · rw [if_neg c, if_neg c2, if_pos c3] at hq
    refine s_digitAt okS hS (by omega) (by omega) (s_digitAt okS hS (by omega) (by omega) (s_digitAt okS hS (by omega) (by omega) ?_))
    exact s_fz xk_117 ok h (by omega) (by omega) (by omega) (by omega) (by omega) (by omega) (by omega) (by omega) hq
  · rw [if_neg c, if_neg c2, if_neg c3, if_pos c4] at hq
    exact s_th xk_117 ok h (by omega) (by omega) hq
  · rw [if_neg c, if_neg c2, if_neg c3, if_neg c4] at hq
    exact s_wi xk_117 ok h hq
/-- how long a statement is by its letter -/
def slen (v : Int) : Nat := if v = 99 then 5 else if v = 100 then 2 else if v = 110 then 6 else if v = 116 then 3 else if v = 119 then 2 else 0
theorem slen_b (v : Int) : slen v ≤ 6 ∧ (slen v = 0 ∨ 2 ≤ slen v) := by
  unfold slen
  split
  · omega
  split
  · omega
  split
  · omega
  split
  · omega
  split <;> omega
theorem s_statementLength {v : Int} (h1 : -2147483648 ≤ v) (h2 : v < 2147483648) {Q : Int32 → Prop} (hq : Q (zI (slen v))) : wp_X11_statementLength (zI v) Q := by
  unfold wp_X11_statementLength
  rw [show (99 : Int32) = zI 99 from rfl, show (100 : Int32) = zI 100 from rfl, show (110 : Int32) = zI 110 from rfl, show (116 : Int32) = zI 116 from rfl, show (119 : Int32) = zI 119 from rfl, zI_eq h1 h2 (by omega) (by omega), zI_eq h1 h2 (by omega) (by omega), zI_eq h1 h2 (by omega) (by omega), zI_eq h1 h2 (by omega) (by omega), zI_eq h1 h2 (by omega) (by omega)]
  unfold slen at hq
  refine ⟨fun c => ?_, fun c => ⟨fun c2 => ?_, fun c2 => ⟨fun c3 => ?_, fun c3 => ⟨fun c4 => ?_, fun c4 => ⟨fun c5 => ?_, fun c5 => ?_⟩⟩⟩⟩⟩
  · rw [if_pos c] at hq; exact hq
  · rw [if_neg c, if_pos c2] at hq; exact hq
  · rw [if_neg c, if_neg c2, if_pos c3] at hq; exact hq
  · rw [if_neg c, if_neg c2, if_neg c3, if_pos c4] at hq; exact hq
  · rw [if_neg c, if_neg c2, if_neg c3, if_neg c4, if_pos c5] at hq; exact hq
  · rw [if_neg c, if_neg c2, if_neg c3, if_neg c4, if_neg c5] at hq; exact hq
end TXT
