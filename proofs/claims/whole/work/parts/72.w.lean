/-! ===== the law's world ===== -/
abbrev lwS := XS × MS × (Nat → Int64)
def lwH (D : va_G) (cs : Nat → ClassId) (ad am : Nat → Nat) (ao : Nat) (s0 : State) (u : lwS) (H : Heap) : Prop := XH D cs ad u.1 H ∧ MH D cs am u.2.1 H ∧ va_P D vwCl (wl 1 (fun _ => ao) (oE cs u.2.2)) H ∧ hU s0 H
abbrev lwA (s0 : State) : Nat → Prop := fun q => s0.heap.size ≤ q
def lwC (C : zX) (D : va_G) (cs : Nat → ClassId) (ad am : Nat → Nat) (ao b L : Nat) (xs : Nat → Int32) : Prop :=
  zOK C cL_law 8 wsL_law RL ∧ C.R = room_1 ∧ gX D cs C.s C.s ∧ C.2.1.stackTraces = false ∧ (wInj 161 ad ∧ wInj 18 am) ∧ ((∀ q, wB 161 ad q → C.s.heap.size ≤ q) ∧ (∀ q, wB 18 am q → C.s.heap.size ≤ q) ∧ C.s.heap.size ≤ ao) ∧ ((∀ q, wB 161 ad q → ¬ wB 18 am q) ∧ ¬ wB 161 ad ao ∧ ¬ wB 18 am ao) ∧ va_X b L xs C.s C.s.heap ∧ b < C.s.heap.size ∧ L ≤ 3072
abbrev lwZ (C : zX) (D : va_G) (cs : Nat → ClassId) (ad am : Nat → Nat) (ao b : Nat) (u : lwS) (i kc ks pc : Nat) (st : List Value) : Prop := Z C (lwA C.s) (lwH D cs ad am ao C.s) 8 u [(0, .ref b), (1, .ref (ad 0)), (2, .ref (am 0)), (3, .ref ao), (4, .int (zI (i : Int)))] kc ks pc st
def lwR (u : lwS) (A : AS) : Prop := XR u.1 A ∧ MR u.2.1 A
theorem zI_of (v : Int32) : ∃ z : Int, v = zI z ∧ -2147483648 ≤ z ∧ z < 2147483648 := ⟨v.toInt, by show v = Int32.ofInt v.toInt; rw [Int32.ofInt_toInt], Int32.le_toInt v, Int32.toInt_lt v⟩
section LWT
variable {C : zX} {D : va_G} {cs : Nat → ClassId} {ad am : Nat → Nat} {ao b L : Nat} {xs : Nat → Int32} {u : lwS} {A : AS} {i kc ks pc : Nat} {st : List Value}
theorem lw_cl (Wc : lwC C D cs ad am ao b L xs) : zOK C cL_law 8 wsL_law RL := Wc.1
theorem z_larg {lv : List (Nat × Value)} (Wc : lwC C D cs ad am ao b L xs) (hi : i + 6 ≤ L) {j : Nat} {n : Int} (hj : j < 6) (hn : Int32.ofInt n = zI (j : Int)) (k0 k4 : Nat) (h0 : lv[k0]? = some (0, .ref b)) (h4 : lv[k4]? = some (4, .int (zI (i : Int)))) (d0 : decode cL_law pc = .ok (.aload_n 0, 1)) (d1 : decode cL_law (pc + 1) = .ok (.iload 4, 2)) (d2 : decode cL_law (pc + 3) = .ok (.iconst n, 1)) (d3 : decode cL_law (pc + 4) = .ok (.iadd, 1)) (d4 : decode cL_law (pc + 5) = .ok (.iaload, 1))
    (kk : Z C (lwA C.s) (lwH D cs ad am ao C.s) 8 u lv kc ks (pc + 6) (.int (xs (i + j)) :: st)) : Z C (lwA C.s) (lwH D cs ad am ao C.s) 8 u lv kc ks pc st := by
  have O := Wc.1
  obtain ⟨-, -, -, -, -, -, -, hX, hb, hL⟩ := Wc
  refine z_aload_n O d0 k0 h0 ?_
  refine z_iload O d1 k4 h4 ?_
  refine z_iconst O d2 hn ?_
  refine z_iadd O d3 ?_
  rw [zI_add, show (i : Int) + (j : Int) = ((i + j : Nat) : Int) by omega]
  intro H locs ls hH hS hl
  refine va_sld O.1 O.2.1 hX hb (by show ¬ C.s.heap.size ≤ b; omega) hS (zI_in (by omega) (by omega) (by omega)) d4 ?_
  rw [zI_clN (by omega)]
  exact kk H locs ls hH hS hl
theorem lw_room (hk : kc + 1 ≤ 601024 ∧ ks + 6 ≤ 7293034) : kc + 0 ≤ room_1.cells ∧ ks + 0 ≤ room_1.slots := ⟨by show kc + 0 ≤ 601024; omega, by show ks + 0 ≤ 7293034; omega⟩
theorem lw_room1 (hk : kc + 1 ≤ 601024 ∧ ks + 6 ≤ 7293034) : kc + 1 ≤ room_1.cells ∧ ks + 6 ≤ room_1.slots := hk
theorem lw_M {q : Nat} (h : ∀ q, wB 161 ad q → ¬ wB 18 am q) {e : Nat → va_E} {k : Nat} {p : Nat × va_E} (hk : (wl 18 am e)[k]? = some p) : ¬ wB 161 ad p.1 := fun z => h _ z (by
  obtain ⟨h1, rfl⟩ := wl_lt hk
  exact ⟨k, h1, rfl⟩)
theorem lw_o {e : Nat → va_E} {k : Nat} {p : Nat × va_E} (hk : (wl 1 (fun _ => ao) e)[k]? = some p) : p.1 = ao := by
  obtain ⟨h1, rfl⟩ := wl_lt hk
  rfl
theorem lw_X {e : Nat → va_E} {k : Nat} {p : Nat × va_E} (hk : (wl 161 ad e)[k]? = some p) : wB 161 ad p.1 := by
  obtain ⟨h1, rfl⟩ := wl_lt hk
  exact ⟨k, h1, rfl⟩
theorem lw_jX (Wc : lwC C D cs ad am ao b L xs) (u : lwS) : zJoin (lwH D cs ad am ao C.s) (XH D cs ad) (wB 161 ad) u (fun x' => (x', u.2)) := by
  obtain ⟨-, -, -, -, -, ⟨g1, g2, g3⟩, ⟨d1, d2, d3⟩, -, -, -⟩ := Wc
  intro H H1 x' ⟨hX, hM, ho, hu⟩ hq hz hx
  exact ⟨hx, hM.kept (fun k q hk => hq q.1 (hM k q hk).lt (lw_M (q := 0) d1 hk)), ho.kept (fun k q hk => hq q.1 (ho k q hk).lt (by rw [lw_o hk]; exact d2)), hU_kept hu (fun q h1 h2 => hq q h1 (fun z => absurd (g1 q z) (Nat.not_le.mpr h2)))⟩
theorem lw_jM (Wc : lwC C D cs ad am ao b L xs) (u : lwS) : zJoin (lwH D cs ad am ao C.s) (MH D cs am) (wB 18 am) u (fun m' => (u.1, m', u.2.2)) := by
  obtain ⟨-, -, -, -, -, ⟨g1, g2, g3⟩, ⟨d1, d2, d3⟩, -, -, -⟩ := Wc
  intro H H1 m' ⟨hX, hM, ho, hu⟩ hq hz hx
  exact ⟨hX.kept (fun k q hk => hq q.1 (hX k q hk).lt (fun z => d1 _ (lw_X hk) z)), hx, ho.kept (fun k q hk => hq q.1 (ho k q hk).lt (by rw [lw_o hk]; exact d3)), hU_kept hu (fun q h1 h2 => hq q h1 (fun z => absurd (g2 q z) (Nat.not_le.mpr h2)))⟩
theorem lw_jU (Wc : lwC C D cs ad am ao b L xs) (u : lwS) : zJoin (lwH D cs ad am ao C.s) (XU D cs ad C.s) (fun _ => False) u (fun x' => (x', u.2)) := by
  intro H H1 x' ⟨hX, hM, ho, hu⟩ hq hz hx
  exact ⟨hx.1, hM.kept (fun k q hk => hq q.1 (hM k q hk).lt (fun z => z)), ho.kept (fun k q hk => hq q.1 (ho k q hk).lt (fun z => z)), hx.2⟩
theorem lw_jO (Wc : lwC C D cs ad am ao b L xs) (u : lwS) : zJoin (lwH D cs ad am ao C.s) (XO D cs ad ao C.s) (fun q => q = ao) u (fun v => (v.1, u.2.1, v.2)) := by
  obtain ⟨-, -, -, -, -, ⟨g1, g2, g3⟩, ⟨d1, d2, d3⟩, -, -, -⟩ := Wc
  intro H H1 v ⟨hX, hM, ho, hu⟩ hq hz hx
  exact ⟨hx.1.1, hM.kept (fun k q hk => hq q.1 (hM k q hk).lt (fun z => d3 (by
    obtain ⟨h1, h2⟩ := wl_lt hk
    rw [h2] at z
    exact ⟨k, h1, z.symm⟩))), hx.2, hx.1.2⟩
end LWT
