/-! ===== the two worlds: 161 cells of the class's object, 18 of the reference's ===== -/
/-- by a cell's number: what its int fields hold, its ints (a row), its cells' numbers (a row of cells) -/
abbrev XS := (Nat → Nat → Int32) × (Nat → Nat → Int32) × (Nat → Nat → Nat)
def xI (x : XS) (i k : Nat) (v : Int32) : XS := (fun a b => if a = i ∧ b = k then v else x.1 a b, x.2.1, x.2.2)
def xA (x : XS) (t : Nat) (f : Nat → Int32) : XS := (x.1, va_up x.2.1 t f, x.2.2)
def xP (x : XS) (t : Nat) (f : Nat → Nat) : XS := (x.1, x.2.1, va_up x.2.2 t f)
def xlt (k : Nat) : Nat := if k = 0 then 7 else if k = 1 then 3 else if k = 2 then 5 else if k = 3 then 10 else if k = 4 then 1 else if k = 5 then 8 else if k = 6 then 0 else 4
/-- what a cell is: a class's number; 20 ints, 21 layers, 22 cells, 23 shelves -/
def xtag (i : Nat) : Nat := if i = 0 then 11 else if i = 1 then 21 else if i < 10 then xlt (i - 2) else if i = 10 then 23 else if i < 27 then (if i % 2 = 1 then 9 else 20) else if i < 29 then 20 else if (i - 29) % 44 = 0 then 6 else if (i - 29) % 44 = 1 then 22 else if ((i - 29) % 44 - 2) % 7 = 0 then 2 else 20
def xlen (i : Nat) : Nat := if i = 27 then 6 else if i = 28 then 10 else if i < 27 then 100 else 8
def xk (i c : Nat) : Prop := i < 161 ∧ xtag i = c
def xfl2 (ad : Nat → Nat) (x : XS) (i : Nat) : List Value := [.ref (ad (i + 1)), .ref (ad (i + 2)), .ref (ad (i + 3)), .ref (ad (i + 4)), .ref (ad (i + 5)), .ref (ad (i + 6)), .int (x.1 i 6)]
def xfl6 (ad : Nat → Nat) (x : XS) (i : Nat) : List Value := [.ref (ad 1), .ref (ad (i + 1)), .int (x.1 i 2)]
def xfl9 (ad : Nat → Nat) (x : XS) (i : Nat) : List Value := [.ref (ad (i + 1)), .int (x.1 i 1), .int (x.1 i 2), .int (x.1 i 3), .int (x.1 i 4), .int (x.1 i 5)]
def xfl11 (ad : Nat → Nat) (x : XS) (i : Nat) : List Value := [.ref (ad 1), .ref (ad 29), .ref (ad 73), .ref (ad 117), .ref (ad 10), .ref (ad 27), .ref (ad 28), .int (x.1 i 7), .int (x.1 i 8)]
def XE (cs : Nat → ClassId) (ad : Nat → Nat) (x : XS) (i : Nat) : va_E :=
  if xtag i = 20 then .inl (cs 0, xlen i, .inl (x.2.1 i))
  else if xtag i = 21 then .inl (cs 1, 8, .inr (.inr (.inr (.inr (fun k => some (ad (2 + k)))))))
  else if xtag i = 22 then .inl (cs 2, 6, .inr (.inr (.inr (.inr (fun k => some (ad (x.2.2 i k)))))))
  else if xtag i = 23 then .inl (cs 3, 8, .inr (.inr (.inr (.inr (fun k => some (ad (11 + 2 * k)))))))
  else if xtag i = 2 then .inr (2, xfl2 ad x i)
  else if xtag i = 6 then .inr (6, xfl6 ad x i)
  else if xtag i = 9 then .inr (9, xfl9 ad x i)
  else if xtag i = 11 then .inr (11, xfl11 ad x i)
  else .inr (xtag i, [])
section XL
variable {cs : Nat → ClassId} {ad : Nat → Nat} {x : XS} {i t b : Nat}
theorem xe_20 (h : xk t 20) : XE cs ad x t = .inl (cs 0, xlen t, .inl (x.2.1 t)) := by simp [XE, h.2]
theorem xe_21 : XE cs ad x 1 = .inl (cs 1, 8, .inr (.inr (.inr (.inr (fun k => some (ad (2 + k))))))) := by simp [XE, xtag]
theorem xe_22 (h : xk t 22) : XE cs ad x t = .inl (cs 2, 6, .inr (.inr (.inr (.inr (fun k => some (ad (x.2.2 t k))))))) := by simp [XE, h.2]
theorem xe_23 : XE cs ad x 10 = .inl (cs 3, 8, .inr (.inr (.inr (.inr (fun k => some (ad (11 + 2 * k))))))) := by simp [XE, xtag]
theorem xe_2 (h : xk b 2) : XE cs ad x b = .inr (2, xfl2 ad x b) := by simp [XE, h.2]
theorem xe_6 (h : xk b 6) : XE cs ad x b = .inr (6, xfl6 ad x b) := by simp [XE, h.2]
theorem xe_9 (h : xk b 9) : XE cs ad x b = .inr (9, xfl9 ad x b) := by simp [XE, h.2]
theorem xe_11 : XE cs ad x 0 = .inr (11, xfl11 ad x 0) := by simp [XE, xtag]
theorem xe_ly {k : Nat} (h : k < 8) : XE cs ad x (2 + k) = .inr (xlt k, []) := by
  rcases (show k = 0 ∨ k = 1 ∨ k = 2 ∨ k = 3 ∨ k = 4 ∨ k = 5 ∨ k = 6 ∨ k = 7 by omega) with rfl | rfl | rfl | rfl | rfl | rfl | rfl | rfl <;> simp [XE, xtag, xlt]
theorem xe_setA (h : xk t 20) (f : Nat → Int32) : va_up (XE cs ad x) t (.inl (cs 0, xlen t, .inl f)) = XE cs ad (xA x t f) := by
  funext j
  by_cases hj : j = t
  · subst hj; simp [va_up, XE, xA, h.2]
  · simp [va_up, XE, xA, hj, xfl2, xfl6, xfl9, xfl11]
theorem xe_setP (h : xk t 22) (j o : Nat) : va_up (XE cs ad x) t (.inl (cs 2, 6, .inr (.inr (.inr (.inr (va_up (fun k => some (ad (x.2.2 t k))) j (some (ad o)))))))) = XE cs ad (xP x t (va_up (x.2.2 t) j o)) := by
  have e : (va_up (fun k => some (ad (x.2.2 t k))) j (some (ad o)) : Nat → Option Nat) = fun k => some (ad (va_up (x.2.2 t) j o k)) := by
    funext k
    by_cases hk : k = j <;> simp [va_up, hk]
  rw [e]
  funext i
  by_cases hj : i = t
  · subst hj; simp [va_up, XE, xP, h.2]
  · simp [va_up, XE, xP, hj, xfl2, xfl6, xfl9, xfl11]
theorem xe_put2_6 (h : xk b 2) (v : Int32) : va_up (XE cs ad x) b (.inr (2, (xfl2 ad x b).set 6 (.int v))) = XE cs ad (xI x b 6 v) := by
  funext j
  by_cases hj : j = b
  · subst hj; simp [va_up, XE, xI, h.2, xfl2]
  · simp [va_up, XE, xI, hj, xfl2, xfl6, xfl9, xfl11]
theorem xe_put6_2 (h : xk b 6) (v : Int32) : va_up (XE cs ad x) b (.inr (6, (xfl6 ad x b).set 2 (.int v))) = XE cs ad (xI x b 2 v) := by
  funext j
  by_cases hj : j = b
  · subst hj; simp [va_up, XE, xI, h.2, xfl6]
  · simp [va_up, XE, xI, hj, xfl2, xfl6, xfl9, xfl11]
theorem xe_put9_1 (h : xk b 9) (v : Int32) : va_up (XE cs ad x) b (.inr (9, (xfl9 ad x b).set 1 (.int v))) = XE cs ad (xI x b 1 v) := by
  funext j
  by_cases hj : j = b
  · subst hj; simp [va_up, XE, xI, h.2, xfl9]
  · simp [va_up, XE, xI, hj, xfl2, xfl6, xfl9, xfl11]
theorem xe_put9_2 (h : xk b 9) (v : Int32) : va_up (XE cs ad x) b (.inr (9, (xfl9 ad x b).set 2 (.int v))) = XE cs ad (xI x b 2 v) := by
  funext j
  by_cases hj : j = b
  · subst hj; simp [va_up, XE, xI, h.2, xfl9]
  · simp [va_up, XE, xI, hj, xfl2, xfl6, xfl9, xfl11]
theorem xe_put9_3 (h : xk b 9) (v : Int32) : va_up (XE cs ad x) b (.inr (9, (xfl9 ad x b).set 3 (.int v))) = XE cs ad (xI x b 3 v) := by
  funext j
  by_cases hj : j = b
  · subst hj; simp [va_up, XE, xI, h.2, xfl9]
  · simp [va_up, XE, xI, hj, xfl2, xfl6, xfl9, xfl11]
theorem xe_put9_4 (h : xk b 9) (v : Int32) : va_up (XE cs ad x) b (.inr (9, (xfl9 ad x b).set 4 (.int v))) = XE cs ad (xI x b 4 v) := by
  funext j
  by_cases hj : j = b
  · subst hj; simp [va_up, XE, xI, h.2, xfl9]
  · simp [va_up, XE, xI, hj, xfl2, xfl6, xfl9, xfl11]
theorem xe_put9_5 (h : xk b 9) (v : Int32) : va_up (XE cs ad x) b (.inr (9, (xfl9 ad x b).set 5 (.int v))) = XE cs ad (xI x b 5 v) := by
  funext j
  by_cases hj : j = b
  · subst hj; simp [va_up, XE, xI, h.2, xfl9]
  · simp [va_up, XE, xI, hj, xfl2, xfl6, xfl9, xfl11]
theorem xe_put11_7 (v : Int32) : va_up (XE cs ad x) 0 (.inr (11, (xfl11 ad x 0).set 7 (.int v))) = XE cs ad (xI x 0 7 v) := by
  funext j
  by_cases hj : j = 0
  · subst hj; simp [va_up, XE, xI, xtag, xfl11]
  · simp [va_up, XE, xI, hj, xfl2, xfl6, xfl9, xfl11]
theorem xe_put11_8 (v : Int32) : va_up (XE cs ad x) 0 (.inr (11, (xfl11 ad x 0).set 8 (.int v))) = XE cs ad (xI x 0 8 v) := by
  funext j
  by_cases hj : j = 0
  · subst hj; simp [va_up, XE, xI, xtag, xfl11]
  · simp [va_up, XE, xI, hj, xfl2, xfl6, xfl9, xfl11]
end XL
theorem xk_c0 : ∀ b, b < 161 → xtag b = 2 → b + 6 < 161 ∧ ∀ j, j < 7 → 1 ≤ j → xtag (b + j) = 20 ∧ xlen (b + j) = 8 := by decide +kernel
theorem xk_l0 : ∀ b, b < 161 → xtag b = 6 → b + 1 < 161 ∧ xtag (b + 1) = 22 := by decide +kernel
theorem xk_s0 : ∀ b, b < 161 → xtag b = 9 → b + 1 < 161 ∧ xtag (b + 1) = 20 ∧ xlen (b + 1) = 100 := by decide +kernel
theorem xk_c {b j : Nat} (h : xk b 2) (h1 : 1 ≤ j) (h2 : j < 7) : xk (b + j) 20 := ⟨Nat.lt_of_le_of_lt (Nat.add_le_add_left (Nat.le_of_lt_succ h2) b) (xk_c0 b h.1 h.2).1, ((xk_c0 b h.1 h.2).2 j h2 h1).1⟩
theorem xk_cl {b j : Nat} (h : xk b 2) (h1 : 1 ≤ j) (h2 : j < 7) : xlen (b + j) = 8 := ((xk_c0 b h.1 h.2).2 j h2 h1).2
theorem xk_l {b : Nat} (h : xk b 6) : xk (b + 1) 22 := xk_l0 b h.1 h.2
theorem xk_s {b : Nat} (h : xk b 9) : xk (b + 1) 20 := ⟨(xk_s0 b h.1 h.2).1, (xk_s0 b h.1 h.2).2.1⟩
theorem xk_sl {b : Nat} (h : xk b 9) : xlen (b + 1) = 100 := (xk_s0 b h.1 h.2).2.2
theorem xk_11 : xk 0 11 := ⟨by decide, by decide⟩
theorem xk_29 : xk 29 6 := ⟨by decide, by decide⟩
theorem xk_73 : xk 73 6 := ⟨by decide, by decide⟩
theorem xk_117 : xk 117 6 := ⟨by decide, by decide⟩
theorem xk_27 : xk 27 20 := ⟨by decide, by decide⟩
theorem xk_28 : xk 28 20 := ⟨by decide, by decide⟩
theorem xk_in {j : Int32} {N : Nat} (h : vp_in j N) : j.toNatClampNeg < N := Nat.lt_of_not_le (fun q => h (Or.inr q))
theorem xk_sh0 : ∀ k, k < 8 → xk (11 + 2 * k) 9 := by unfold xk; decide +kernel
theorem xk_ly {k : Nat} (h : k < 8) : 2 + k < 161 := by omega
theorem xl_27 : xlen 27 = 6 := by decide
theorem xl_28 : xlen 28 = 10 := by decide
/-- a truth value -/
def zb (v : Int32) : Prop := v = 0 ∨ v = 1
theorem zb_n {v : Int32} (h : zb v) : narrow .boolean (.int v) = .int v := by rcases h with rfl | rfl <;> rfl
theorem zb_f {v : Int32} (h : zb v) : fits .boolean (.int v) = true := by rcases h with rfl | rfl <;> rfl
def gT (cs : Nat → ClassId) : List (ClassId × FieldType) := [(cs 0, .int), (cs 1, .object "SaidInWinter$Layer"), (cs 2, .object "SaidInWinter$Cell"), (cs 3, .object "SaidInWinter$Shelf"), (cs 4, .long)]
def nestF : List (String × Nat × String × String × String × String) := [("SaidInWinter$Lake", 50, "SaidInWinter$Cell", "layers", "I", "SaidInWinter"), ("SaidInWinter", 126, "SaidInWinter$Cell", "layers", "I", "SaidInWinter"), ("SaidInWinter", 223, "SaidInWinter$Lake", "winter", "I", "SaidInWinter"), ("SaidInWinter", 245, "SaidInWinter$Shelf", "elements", "[I", "SaidInWinter"), ("SaidInWinter", 232, "SaidInWinter$Shelf", "held", "I", "SaidInWinter"), ("SaidInWinter", 93, "SaidInWinter$Shelf", "kind", "I", "SaidInWinter"), ("SaidInWinter", 96, "SaidInWinter$Shelf", "oath", "I", "SaidInWinter"), ("SaidInWinter", 74, "SaidInWinter$Shelf", "sort", "I", "SaidInWinter"), ("SaidInWinter", 290, "SaidInWinter$Shelf", "size", "I", "SaidInWinter")]
def nestM : List (String × Nat × MethodName × String) := [("SaidInWinter", 9, ⟨"SaidInWinter$Layer", "<init>", "()V"⟩, "SaidInWinter"), ("SaidInWinter", 12, ⟨"SaidInWinter$Clear", "<init>", "()V"⟩, "SaidInWinter"), ("SaidInWinter$Clear", 1, ⟨"SaidInWinter$Layer", "<init>", "()V"⟩, "SaidInWinter"), ("SaidInWinter", 15, ⟨"SaidInWinter$Forged", "<init>", "()V"⟩, "SaidInWinter"), ("SaidInWinter$Forged", 1, ⟨"SaidInWinter$Layer", "<init>", "()V"⟩, "SaidInWinter"), ("SaidInWinter", 18, ⟨"SaidInWinter$Snow", "<init>", "()V"⟩, "SaidInWinter"), ("SaidInWinter$Snow", 1, ⟨"SaidInWinter$Layer", "<init>", "()V"⟩, "SaidInWinter"), ("SaidInWinter", 21, ⟨"SaidInWinter$Bubbly", "<init>", "()V"⟩, "SaidInWinter"), ("SaidInWinter$Bubbly", 1, ⟨"SaidInWinter$Clear", "<init>", "()V"⟩, "SaidInWinter"), ("SaidInWinter", 24, ⟨"SaidInWinter$Salt", "<init>", "()V"⟩, "SaidInWinter"), ("SaidInWinter$Salt", 1, ⟨"SaidInWinter$Snow", "<init>", "()V"⟩, "SaidInWinter"), ("SaidInWinter", 27, ⟨"SaidInWinter$Black", "<init>", "()V"⟩, "SaidInWinter"), ("SaidInWinter$Black", 1, ⟨"SaidInWinter$Clear", "<init>", "()V"⟩, "SaidInWinter"), ("SaidInWinter", 30, ⟨"SaidInWinter$Cracked", "<init>", "()V"⟩, "SaidInWinter"), ("SaidInWinter$Cracked", 1, ⟨"SaidInWinter$Snow", "<init>", "()V"⟩, "SaidInWinter"), ("SaidInWinter$Lake", 21, ⟨"SaidInWinter$Cell", "<init>", "()V"⟩, "SaidInWinter"), ("SaidInWinter", 58, ⟨"SaidInWinter$Shelf", "<init>", "()V"⟩, "SaidInWinter"), ("SaidInWinter$Shelf", 45, ⟨"SaidInWinter", "within", "(III)Z"⟩, "SaidInWinter"), ("SaidInWinter$Lake", 22, ⟨"SaidInWinter", "within", "(III)Z"⟩, "SaidInWinter"), ("SaidInWinter$Lake", 38, ⟨"SaidInWinter", "isKindAndOath", "(II)Z"⟩, "SaidInWinter"), ("SaidInWinter$Lake", 42, ⟨"SaidInWinter", "kindOf", "([LSaidInWinter$Layer;I)LSaidInWinter$Layer;"⟩, "SaidInWinter"), ("SaidInWinter$Cell", 84, ⟨"SaidInWinter", "within", "(III)Z"⟩, "SaidInWinter")]
def gK (D : va_G) (cs : Nat → ClassId) (U : State) : Prop := va_K D vwCl (gT cs) U ∧ (∀ q ∈ nestF, va_Nw (.fieldLinkNest q.1 q.2.1 q.2.2.1 q.2.2.2.1 q.2.2.2.2.1 q.2.2.2.2.2) U) ∧ (∀ q ∈ nestM, va_Nw (.methodLinkNest q.1 q.2.1 q.2.2.1 q.2.2.2) U)
theorem gKs (D : va_G) (cs : Nat → ClassId) : zKs (gK D cs) := fun _ _ h k => ⟨va_K.moved h.alike k.1, fun q hq => va_Nw.warmF h (k.2.1 q hq), fun q hq => va_Nw.warmM h (k.2.2 q hq)⟩
def XH (D : va_G) (cs : Nat → ClassId) (ad : Nat → Nat) (x : XS) (H : Heap) : Prop := va_P D vwCl (wl 161 ad (XE cs ad x)) H
/-! the reference: 0 is its object, 1 to 15 rows of ints, 16 and 17 of longs -/
abbrev MS := (Nat → Int32) × (Nat → Nat → Int32) × (Nat → Nat → Int64) × Option Nat
def mI (m : MS) (k : Nat) (v : Int32) : MS := (fun j => if j = k then v else m.1 j, m.2)
def mA (m : MS) (t : Nat) (f : Nat → Int32) : MS := (m.1, va_up m.2.1 t f, m.2.2)
def mJ (m : MS) (t : Nat) (f : Nat → Int64) : MS := (m.1, m.2.1, va_up m.2.2.1 t f, m.2.2.2)
def mR (m : MS) (o : Option Nat) : MS := (m.1, m.2.1, m.2.2.1, o)
def mlen (t : Nat) : Nat := if t = 1 then 6 else if t < 6 then 48 else if t < 8 then 199 else if t < 10 then 51 else if t = 10 then 204 else if t < 16 then 8 else if t = 16 then 800 else 100
def mfl (ad : Nat → Nat) (m : MS) : List Value := [.int (m.1 0), .ref (ad 1), .ref (ad 2), .ref (ad 3), .ref (ad 4), .ref (ad 5), .int (m.1 6), .ref (ad 6), .ref (ad 7), .int (m.1 9), .int (m.1 10), .int (m.1 11), va_re ad m.2.2.2, .int (m.1 13), .int (m.1 14), .int (m.1 15), .int (m.1 16), .int (m.1 17), .ref (ad 8), .ref (ad 9), .ref (ad 10), .int (m.1 21), .ref (ad 11), .ref (ad 12), .ref (ad 13), .ref (ad 14), .ref (ad 15), .ref (ad 16), .ref (ad 17)]
def ME (cs : Nat → ClassId) (ad : Nat → Nat) (m : MS) (i : Nat) : va_E := if i = 0 then .inr (12, mfl ad m) else if i < 16 then .inl (cs 0, mlen i, .inl (m.2.1 i)) else .inl (cs 4, mlen i, .inr (.inl (m.2.2.1 i)))
def MH (D : va_G) (cs : Nat → ClassId) (ad : Nat → Nat) (m : MS) (H : Heap) : Prop := va_P D vwCl (wl 18 ad (ME cs ad m)) H
def mk (t : Nat) : Prop := 1 ≤ t ∧ t < 16
section MLs
variable {cs : Nat → ClassId} {ad : Nat → Nat} {m : MS} {t : Nat}
theorem me_0 : ME cs ad m 0 = .inr (12, mfl ad m) := by simp [ME]
theorem me_A (h : mk t) : ME cs ad m t = .inl (cs 0, mlen t, .inl (m.2.1 t)) := by simp [ME, h.2, Nat.pos_iff_ne_zero.mp h.1]
theorem me_16 : ME cs ad m 16 = .inl (cs 4, mlen 16, .inr (.inl (m.2.2.1 16))) := by simp [ME]
theorem me_17 : ME cs ad m 17 = .inl (cs 4, mlen 17, .inr (.inl (m.2.2.1 17))) := by simp [ME]
theorem mk_lt (h : mk t) : t < 18 := Nat.lt_trans h.2 (by decide)
theorem me_setA (h : mk t) (f : Nat → Int32) : va_up (ME cs ad m) t (.inl (cs 0, mlen t, .inl f)) = ME cs ad (mA m t f) := by
  funext j
  by_cases hj : j = t
  · subst hj; simp [va_up, ME, mA, h.2, Nat.pos_iff_ne_zero.mp h.1]
  · simp [va_up, ME, mA, hj, mfl]
theorem me_setJ16 (f : Nat → Int64) : va_up (ME cs ad m) 16 (.inl (cs 4, mlen 16, .inr (.inl f))) = ME cs ad (mJ m 16 f) := by
  funext j
  by_cases hj : j = 16
  · subst hj; simp [va_up, ME, mJ]
  · simp [va_up, ME, mJ, hj, mfl]
theorem me_setJ17 (f : Nat → Int64) : va_up (ME cs ad m) 17 (.inl (cs 4, mlen 17, .inr (.inl f))) = ME cs ad (mJ m 17 f) := by
  funext j
  by_cases hj : j = 17
  · subst hj; simp [va_up, ME, mJ]
  · simp [va_up, ME, mJ, hj, mfl]
theorem me_put {m' : MS} {fs : List Value} (h : fs = mfl ad m') (h2 : m'.2.1 = m.2.1) (h3 : m'.2.2.1 = m.2.2.1) : va_up (ME cs ad m) 0 (.inr (12, fs)) = ME cs ad m' := by
  funext j
  by_cases hj : j = 0
  · subst hj; simp [va_up, ME, h]
  · simp [va_up, ME, hj, h2, h3]
end MLs
theorem xin {t N : Nat} {j : Int32} (e : xlen t = N) (h : vp_in j N) : vp_in j (xlen t) := by rw [e]; exact h
theorem xl8 {k : Nat} (h : k < 8) : k = 0 ∨ k = 1 ∨ k = 2 ∨ k = 3 ∨ k = 4 ∨ k = 5 ∨ k = 6 ∨ k = 7 := by omega
theorem xl_r {k : Nat} (h : k < 8) : ∃ r : vw_C, vwCl[xlt k]? = some r := by
  rcases xl8 h with rfl | rfl | rfl | rfl | rfl | rfl | rfl | rfl <;> exact ⟨_, rfl⟩
theorem mk_1 : mk 1 := ⟨by decide, by decide⟩
theorem mk_2 : mk 2 := ⟨by decide, by decide⟩
theorem mk_3 : mk 3 := ⟨by decide, by decide⟩
theorem mk_4 : mk 4 := ⟨by decide, by decide⟩
theorem mk_5 : mk 5 := ⟨by decide, by decide⟩
theorem mk_6 : mk 6 := ⟨by decide, by decide⟩
theorem mk_7 : mk 7 := ⟨by decide, by decide⟩
theorem mk_8 : mk 8 := ⟨by decide, by decide⟩
theorem mk_9 : mk 9 := ⟨by decide, by decide⟩
theorem mk_10 : mk 10 := ⟨by decide, by decide⟩
theorem mk_11 : mk 11 := ⟨by decide, by decide⟩
theorem mk_12 : mk 12 := ⟨by decide, by decide⟩
theorem mk_13 : mk 13 := ⟨by decide, by decide⟩
theorem mk_14 : mk 14 := ⟨by decide, by decide⟩
theorem mk_15 : mk 15 := ⟨by decide, by decide⟩
