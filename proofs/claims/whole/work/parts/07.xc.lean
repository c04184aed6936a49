def wp_X11_kindOf (x : XS)  (p1 : Int32) (Q : Option Nat → Prop) : Prop :=
 wp_X11_within p1 0 ((8 : Int32) - 1) (fun r1 : Int32 =>
 ((r1 = 0 →
 (vp_in 0 8 ∧ ∀ o2 : Nat, o2 = (Int32.toNatClampNeg 0) →
 Q (some o2))) ∧ (¬ r1 = 0 →
 (vp_in p1 8 ∧ ∀ o3 : Nat, o3 = (Int32.toNatClampNeg p1) →
 Q (some o3)))))
set_option maxHeartbeats 4000000 in
set_option maxRecDepth 100000 in
theorem t_X11_kindOf {l : Launch} {D : va_G} {cs : Nat → ClassId} {ad : Nat → Nat} (x : XS)  (p1 : Int32) (Q : Option Nat → Prop) (h : wp_X11_kindOf x  p1 Q) : zME l yX11_kindOf wsX11_kindOf ({ frames := 1, cells := 0, slots := 0, locals := 22 } : Room) (gK D cs) (XH D cs ad) (fun k => ad (2 + k)) x [.ref (ad 1), .int p1] Q := by
  refine zME_of (cc := cX11_kindOf) (nL := 2) (ret := (some (.object "SaidInWinter$Layer"))) (by decide +kernel) rfl (Nat.le_of_ble_eq_true rfl) (fun C hl O hE hK hH => ?_)
  subst hl
  have hX : ∀ (x : XS) (H : Heap), z0 (XH D cs ad) C.s.heap x H → va_P D vwCl (wl 161 ad (XE cs ad x)) H := fun _ _ h => h.2
  refine z_sub (lv' := [(0, .ref (ad 1)), (1, .int p1)]) [0, 1] rfl ?_
  refine z_iload_n O dX11_kindOf_0 1 rfl ?_
  refine z_iconst (v := 0) O dX11_kindOf_1 rfl ?_
  refine z_aload_n O dX11_kindOf_2 0 rfl ?_
  refine z_alen (v := 8) O hK.1 (hX _) 1 (by decide) xe_21 rfl rfl dX11_kindOf_3 ?_
  refine z_iconst (v := 1) O dX11_kindOf_4 rfl ?_
  refine z_isub O dX11_kindOf_5 ?_
  refine z_callR (gKs D cs) hK (fun _ h => h.2) (t_X11_within (gKs D cs) p1 0 ((8 : Int32) - 1) _ h) (zr_SS (As := [.int p1, .int 0, .int ((8 : Int32) - 1)]) (rest := []) O hE.1 3 gX11_kindOf_X11_within rfl rfl rfl (by decide +kernel) ⟨(Nat.le_of_ble_eq_true rfl), (Nat.le_of_ble_eq_true rfl)⟩ ⟨(Nat.le_of_ble_eq_true rfl), (Nat.le_of_ble_eq_true rfl)⟩ rfl rfl (Nat.le_of_ble_eq_true rfl) dX11_kindOf_6) (fun r1 h => ?_)
  refine z_if_eq O 18 dX11_kindOf_9 (by decide) (fun c4 => ?_) (fun c4 => ?_)
  · replace h := h.1 c4
    refine z_aload_n O dX11_kindOf_18 0 rfl ?_
    refine z_iconst (v := 0) O dX11_kindOf_19 rfl ?_
    have hb0 := h.1
    obtain ⟨o2, eo2⟩ : ∃ z, z = (Int32.toNatClampNeg 0) := ⟨_, rfl⟩
    have ho2 : o2 < 8 := by rw [eo2]; exact xk_in hb0
    replace h := h.2 o2 eo2
    refine z_aald (v := .ref (ad (2 + o2))) O hK.1 (hX _) 1 (by decide) xe_21 rfl hb0 (by rw [eo2]; rfl) dX11_kindOf_20 ?_
    exact z_retE (r := (some o2)) O hE (fun _ h => h.1) (Or.inl ⟨_, rfl⟩) rfl dX11_kindOf_21 h
  · replace h := h.2 c4
    refine z_aload_n O dX11_kindOf_12 0 rfl ?_
    refine z_iload_n O dX11_kindOf_13 1 rfl ?_
    have hb0 := h.1
    obtain ⟨o3, eo3⟩ : ∃ z, z = (Int32.toNatClampNeg p1) := ⟨_, rfl⟩
    have ho3 : o3 < 8 := by rw [eo3]; exact xk_in hb0
    replace h := h.2 o3 eo3
    refine z_aald (v := .ref (ad (2 + o3))) O hK.1 (hX _) 1 (by decide) xe_21 rfl hb0 (by rw [eo3]; rfl) dX11_kindOf_14 ?_
    refine z_goto O 21 dX11_kindOf_15 (by decide) ?_
    exact z_retE (r := (some o3)) O hE (fun _ h => h.1) (Or.inl ⟨_, rfl⟩) rfl dX11_kindOf_21 h
def wp_X6_cellAt (x : XS) (g : Nat) (p1 : Int32) (Q : Option Nat → Prop) : Prop :=
 wp_X11_within p1 0 5 (fun r1 : Int32 =>
 ((r1 = 0 →
 Q none) ∧ (¬ r1 = 0 →
 (vp_in p1 6 ∧ ∀ o2 : Nat, o2 = x.2.2 (g + 1) (Int32.toNatClampNeg p1) → xk o2 2 ∧
 Q (some o2)))))
set_option maxHeartbeats 4000000 in
set_option maxRecDepth 100000 in
theorem t_X6_cellAt {l : Launch} {D : va_G} {cs : Nat → ClassId} {ad : Nat → Nat} (x : XS) (g : Nat) (hg : xk g 6) (p1 : Int32) (Q : Option Nat → Prop) (h : wp_X6_cellAt x g p1 Q) : zME l yX6_cellAt wsX6_cellAt ({ frames := 1, cells := 0, slots := 0, locals := 22 } : Room) (gK D cs) (XH D cs ad) ad x [.ref (ad g), .int p1] Q := by
  refine zME_of (cc := cX6_cellAt) (nL := 2) (ret := (some (.object "SaidInWinter$Cell"))) (by decide +kernel) rfl (Nat.le_of_ble_eq_true rfl) (fun C hl O hE hK hH => ?_)
  subst hl
  have hX : ∀ (x : XS) (H : Heap), z0 (XH D cs ad) C.s.heap x H → va_P D vwCl (wl 161 ad (XE cs ad x)) H := fun _ _ h => h.2
  have i6 : ∀ w ∈ wsX60, w ∈ wsX6_cellAt := by decide +kernel
  refine z_sub (lv' := [(0, .ref (ad g)), (1, .int p1)]) [0, 1] rfl ?_
  refine z_iload_n O dX6_cellAt_0 1 rfl ?_
  refine z_iconst (v := 0) O dX6_cellAt_1 rfl ?_
  refine z_iconst (v := 5) O dX6_cellAt_2 rfl ?_
  refine z_callR (gKs D cs) hK (fun _ h => h.2) (t_X11_within (gKs D cs) p1 0 5 _ h) (zr_SN (As := [.int p1, .int 0, .int 5]) (rest := []) O hE.1 3 gX6_cellAt_X11_within_n22 rfl rfl rfl (hK.2.2 _ (List.mem_of_getElem? (i := 18) rfl)) (by decide +kernel) (by decide +kernel) (by decide +kernel) ⟨(Nat.le_of_ble_eq_true rfl), (Nat.le_of_ble_eq_true rfl)⟩ ⟨(Nat.le_of_ble_eq_true rfl), (Nat.le_of_ble_eq_true rfl)⟩ rfl rfl (Nat.le_of_ble_eq_true rfl) dX6_cellAt_3) (fun r1 h => ?_)
  refine z_if_eq O 18 dX6_cellAt_6 (by decide) (fun c3 => ?_) (fun c3 => ?_)
  · replace h := h.1 c3
    refine z_null O dX6_cellAt_18 ?_
    exact z_retE (r := none) O hE (fun _ h => h.1) (Or.inl ⟨_, rfl⟩) rfl dX6_cellAt_19 h
  · replace h := h.2 c3
    refine z_aload_n O dX6_cellAt_9 0 rfl ?_
    refine z_getf O hK.1 (hX _) (hg).1 (xe_6 hg) rfl i6 1 (by decide) (by decide +kernel) rfl dX6_cellAt_10 ?_
    refine z_iload_n O dX6_cellAt_13 1 rfl ?_
    have hb0 := h.1
    obtain ⟨o2, eo2⟩ : ∃ z, z = x.2.2 (g + 1) (Int32.toNatClampNeg p1) := ⟨_, rfl⟩
    have ho2 := (h.2 o2 eo2).1
    replace h := (h.2 o2 eo2).2
    refine z_aald (v := .ref (ad o2)) O hK.1 (hX _) 2 ((xk_l hg)).1 (xe_22 (xk_l hg)) rfl hb0 (by rw [eo2]; rfl) dX6_cellAt_14 ?_
    refine z_goto O 19 dX6_cellAt_15 (by decide) ?_
    exact z_retE (r := (some o2)) O hE (fun _ h => h.1) (Or.inl ⟨_, rfl⟩) rfl dX6_cellAt_19 h
def wp_X6_takeAll (x : XS) (g : Nat) (q1 : Nat)  (Q : XS → Prop) : Prop :=
 (∀ x1 : XS, x1 = xI x g 2 (x.1 q1 2) →
 (∃ (I10 : Int32 → XS → Prop) (U10 : Int32 → XS → Nat), I10 0 x1 ∧ ∀ (y2 : Int32) (x3 : XS), I10 y2 x3 →
 ((6 ≤ y2 →
 Q x3) ∧ (¬ 6 ≤ y2 →
 (vp_in y2 6 ∧ ∀ o4 : Nat, o4 = x3.2.2 (g + 1) (Int32.toNatClampNeg y2) → xk o4 2 ∧
 (vp_in y2 6 ∧ ∀ o5 : Nat, o5 = x3.2.2 (q1 + 1) (Int32.toNatClampNeg y2) → xk o5 2 ∧
 wp_X2_takeLayers x3 o4 o5 (fun (x6 : XS) =>
 (I10 (y2 + 1) x6 ∧ U10 (y2 + 1) x6 < U10 y2 x3))))))))
set_option maxHeartbeats 4000000 in
set_option maxRecDepth 100000 in
theorem t_X6_takeAll {l : Launch} {D : va_G} {cs : Nat → ClassId} {ad : Nat → Nat} (hI : wInj 161 ad) (x : XS) (g : Nat) (hg : xk g 6) (q1 : Nat) (hq1 : xk q1 6)  (Q : XS → Prop) (h : wp_X6_takeAll x g q1  Q) : zWV l yX6_takeAll wsX6_takeAll ({ frames := 1, cells := 0, slots := 0, locals := 22 } : Room) (gK D cs) (XH D cs ad) (wB 161 ad) x [.ref (ad g), .ref (ad q1)] 0 0 Q := by
  refine zWV_of (cc := cX6_takeAll) (nL := 3) (ret := none) (by decide +kernel) rfl (Nat.le_of_ble_eq_true rfl) (fun C hl O hE hK => ?_)
  subst hl
  have hX : ∀ (x : XS) (H : Heap), XH D cs ad x H → va_P D vwCl (wl 161 ad (XE cs ad x)) H := fun _ _ h => h
  have hB : ∀ {x : XS} (H : Heap), va_P D vwCl (wl 161 ad (XE cs ad x)) H → XH D cs ad x H := fun _ h => h
  have hA : ∀ q, wB 161 ad q → zA (wB 161 ad) C.s.heap.size q := fun _ h => Or.inl h
  have i6 : ∀ w ∈ wsX60, w ∈ wsX6_takeAll := by decide +kernel
  refine z_sub (lv' := [(0, .ref (ad g)), (1, .ref (ad q1))]) [0, 1] rfl ?_
  refine z_aload_n O dX6_takeAll_0 0 rfl ?_
  refine z_aload_n O dX6_takeAll_1 1 rfl ?_
  refine z_getf O hK.1 (hX _) (hq1).1 (xe_6 hq1) rfl i6 2 (by decide) (by decide +kernel) rfl dX6_takeAll_2 ?_
  obtain ⟨x1, ex1⟩ : ∃ z, z = xI x g 2 (x.1 q1 2) := ⟨_, rfl⟩
  replace h := h x1 ex1
  refine z_putf (x' := x1) (ty := .int) O hK.1 (hX _) hB hI hA (hg).1 (xe_6 hg) rfl i6 tyX6 tyX6_ok nmX6 2 (by decide) (by decide +kernel) rfl (by decide +kernel) rfl rfl (Nat.le_of_ble_eq_true rfl) (by rw [ex1]; exact xe_put6_2 hg (x.1 q1 2)) dX6_takeAll_5 ?_
  refine z_iconst (v := 0) O dX6_takeAll_8 rfl ?_
  refine z_istore_n (lv' := [(2, .int 0), (0, .ref (ad g)), (1, .ref (ad q1))]) O dX6_takeAll_9 (by decide) rfl ?_
  obtain ⟨I10, U10, h0, hs⟩ := h
  have kI10 : ∀ (n : Nat) (y2 : Int32) (x3 : XS), U10 y2 x3 < n → I10 y2 x3 → Z C (zA (wB 161 ad) C.s.heap.size) (XH D cs ad) 3 x3 [(0, .ref (ad g)), (1, .ref (ad q1)), (2, .int y2)] 0 0 10 [] := by
    intro n
    induction n with
    | zero => intro y2 x3 uI10; exact absurd uI10 (Nat.not_lt_zero _)
    | succ n iI10 =>
      intro y2 x3 uI10 h
      have h := hs y2 x3 h
      refine z_iload_n O dX6_takeAll_10 2 rfl ?_
      refine z_bipush (v := 6) O dX6_takeAll_11 rfl ?_
      refine z_icmp_ge O 37 dX6_takeAll_13 (by decide) (fun c7 => ?_) (fun c7 => ?_)
      · replace h := h.1 c7
        exact z_retWV O hE (Nat.le_of_ble_eq_true rfl) (Nat.le_of_ble_eq_true rfl) dX6_takeAll_37 h
      · replace h := h.2 c7
        refine z_aload_n O dX6_takeAll_16 0 rfl ?_
        refine z_getf O hK.1 (hX _) (hg).1 (xe_6 hg) rfl i6 1 (by decide) (by decide +kernel) rfl dX6_takeAll_17 ?_
        refine z_iload_n O dX6_takeAll_20 2 rfl ?_
        have hb0 := h.1
        obtain ⟨o4, eo4⟩ : ∃ z, z = x3.2.2 (g + 1) (Int32.toNatClampNeg y2) := ⟨_, rfl⟩
        have ho4 := (h.2 o4 eo4).1
        replace h := (h.2 o4 eo4).2
        refine z_aald (v := .ref (ad o4)) O hK.1 (hX _) 2 ((xk_l hg)).1 (xe_22 (xk_l hg)) rfl hb0 (by rw [eo4]; rfl) dX6_takeAll_21 ?_
        refine z_aload_n O dX6_takeAll_22 1 rfl ?_
        refine z_getf O hK.1 (hX _) (hq1).1 (xe_6 hq1) rfl i6 1 (by decide) (by decide +kernel) rfl dX6_takeAll_23 ?_
        refine z_iload_n O dX6_takeAll_26 2 rfl ?_
        have hb0 := h.1
        obtain ⟨o5, eo5⟩ : ∃ z, z = x3.2.2 (q1 + 1) (Int32.toNatClampNeg y2) := ⟨_, rfl⟩
        have ho5 := (h.2 o5 eo5).1
        replace h := (h.2 o5 eo5).2
        refine z_aald (v := .ref (ad o5)) O hK.1 (hX _) 2 ((xk_l hq1)).1 (xe_22 (xk_l hq1)) rfl hb0 (by rw [eo5]; rfl) dX6_takeAll_27 ?_
        refine z_cWV (gKs D cs) hK (fun _ h => h) (fun _ h => Or.inl h) (fun _ h => Or.inr h) (t_X2_takeLayers hI x3 o4 ho4 o5 ho5  _ h) (zr_V (As := [.ref (ad o5)]) (rest := []) O hE.1 1 gX6_takeAll_X2_takeLayers rfl rfl rfl (by decide +kernel) ⟨(Nat.le_of_ble_eq_true rfl), (Nat.le_of_ble_eq_true rfl)⟩ ⟨(Nat.le_of_ble_eq_true rfl), (Nat.le_of_ble_eq_true rfl)⟩ (fun H hH => z_recv hK.1 (hX _ H hH) (ho4).1 (xe_2 ho4) rfl) rfl rfl (Nat.le_of_ble_eq_true rfl) dX6_takeAll_28) (fun x6 h => ?_)
        refine z_iinc (lv' := [(2, .int (y2 + 1)), (0, .ref (ad g)), (1, .ref (ad q1))]) O dX6_takeAll_31 2 rfl rfl (by decide) rfl ?_
        refine z_goto O 10 dX6_takeAll_34 (by decide) ?_
        exact z_sub [1, 2, 0] rfl (iI10 (y2 + 1) x6 (Nat.lt_of_lt_of_le h.2 (Nat.le_of_lt_succ uI10)) h.1)
  exact z_sub [1, 2, 0] rfl (kI10 _ 0 x1 (Nat.lt_succ_self _) h0)
def wp_X6_freezeIn (x : XS) (g : Nat) (p1 : Int32) (p2 : Int32) (p3 : Int32) (p4 : Int32) (Q : Int32 → XS → Prop) : Prop :=
 wp_X6_cellAt x g p1 (fun r : Option Nat => match r with
 | none => Q (-1) x
 | some o1 => xk o1 2 ∧
 wp_X11_isKindAndOath p2 p3 (fun r2 : Int32 =>
 ((r2 = 0 →
 Q (-1) x) ∧ (¬ r2 = 0 →
 wp_X11_within p4 1 9 (fun r3 : Int32 =>
 ((¬ r3 = 0 →
 wp_X11_kindOf x p2 (fun r : Option Nat => match r with
 | none => False
 | some o4 => o4 < 8 ∧
 wp_X2_freezeOn x o1 o4 p2 p3 p4 (x.1 g 2) (fun (r6 : Int32) (x5 : XS) =>
 Q r6 x5))) ∧ (r3 = 0 →
 Q (-1) x)))))))
set_option maxHeartbeats 4000000 in
set_option maxRecDepth 100000 in
theorem t_X6_freezeIn {l : Launch} {D : va_G} {cs : Nat → ClassId} {ad : Nat → Nat} (hI : wInj 161 ad) (x : XS) (g : Nat) (hg : xk g 6) (p1 : Int32) (p2 : Int32) (p3 : Int32) (p4 : Int32) (Q : Int32 → XS → Prop) (h : wp_X6_freezeIn x g p1 p2 p3 p4 Q) : zWR l yX6_freezeIn wsX6_freezeIn ({ frames := 4, cells := 0, slots := 0, locals := 92 } : Room) (gK D cs) (XH D cs ad) (wB 161 ad) x [.ref (ad g), .int p1, .int p2, .int p3, .int p4] 0 0 Q := by
  refine zWR_of (cc := cX6_freezeIn) (nL := 6) (ret := (some .int)) (by decide +kernel) rfl (Nat.le_of_ble_eq_true rfl) (fun C hl O hE hK => ?_)
  subst hl
  have hX : ∀ (x : XS) (H : Heap), XH D cs ad x H → va_P D vwCl (wl 161 ad (XE cs ad x)) H := fun _ _ h => h
  have hB : ∀ {x : XS} (H : Heap), va_P D vwCl (wl 161 ad (XE cs ad x)) H → XH D cs ad x H := fun _ h => h
  have hA : ∀ q, wB 161 ad q → zA (wB 161 ad) C.s.heap.size q := fun _ h => Or.inl h
  have i6 : ∀ w ∈ wsX60, w ∈ wsX6_freezeIn := by decide +kernel
  refine z_sub (lv' := [(0, .ref (ad g)), (1, .int p1), (2, .int p2), (3, .int p3), (4, .int p4)]) [0, 1, 2, 3, 4] rfl ?_
  refine z_aload_n O dX6_freezeIn_0 0 rfl ?_
  refine z_iload_n O dX6_freezeIn_1 1 rfl ?_
  refine z_callE (gKs D cs) hK (fun _ h => h) (t_X6_cellAt x g hg p1 _ h) (zr_V (As := [.int p1]) (rest := []) O hE.1 1 gX6_freezeIn_X6_cellAt rfl rfl rfl (by decide +kernel) ⟨(Nat.le_of_ble_eq_true rfl), (Nat.le_of_ble_eq_true rfl)⟩ ⟨(Nat.le_of_ble_eq_true rfl), (Nat.le_of_ble_eq_true rfl)⟩ (fun H hH => z_recv hK.1 (hX _ H hH) (hg).1 (xe_6 hg) rfl) rfl rfl (Nat.le_of_ble_eq_true rfl) dX6_freezeIn_2) (fun h => ?_) (fun o1 h => ?_)
  · skip
    refine z_astoreN (lv' := [(5, .null), (0, .ref (ad g)), (1, .int p1), (2, .int p2), (3, .int p3), (4, .int p4)]) O dX6_freezeIn_5 (by decide) rfl ?_
    refine z_aloadN O dX6_freezeIn_7 0 rfl ?_
    refine z_ifnullN O 31 dX6_freezeIn_9 (by decide) ?_
    refine z_iconst (v := -1) O dX6_freezeIn_31 rfl ?_
    exact z_retWR O hE (Nat.le_of_ble_eq_true rfl) (Nat.le_of_ble_eq_true rfl) rfl dX6_freezeIn_32 h
  · have ho1 := h.1
    replace h := h.2
    refine z_astore (lv' := [(5, .ref (ad o1)), (0, .ref (ad g)), (1, .int p1), (2, .int p2), (3, .int p3), (4, .int p4)]) O dX6_freezeIn_5 (by decide) rfl ?_
    refine z_aload O dX6_freezeIn_7 0 rfl ?_
    refine z_ifnull O dX6_freezeIn_9 ?_
    refine z_iload_n O dX6_freezeIn_12 3 rfl ?_
    refine z_iload_n O dX6_freezeIn_13 4 rfl ?_
    refine z_callR (gKs D cs) hK (fun _ h => h) (t_X11_isKindAndOath (gKs D cs) p2 p3 _ h) (zr_SN (As := [.int p2, .int p3]) (rest := []) O hE.1 2 gX6_freezeIn_X11_isKindAndOath_n38 rfl rfl rfl (hK.2.2 _ (List.mem_of_getElem? (i := 19) rfl)) (by decide +kernel) (by decide +kernel) (by decide +kernel) ⟨(Nat.le_of_ble_eq_true rfl), (Nat.le_of_ble_eq_true rfl)⟩ ⟨(Nat.le_of_ble_eq_true rfl), (Nat.le_of_ble_eq_true rfl)⟩ rfl rfl (Nat.le_of_ble_eq_true rfl) dX6_freezeIn_14) (fun r2 h => ?_)
    refine z_if_eq O 31 dX6_freezeIn_17 (by decide) (fun c8 => ?_) (fun c8 => ?_)
    · replace h := h.1 c8
      refine z_iconst (v := -1) O dX6_freezeIn_31 rfl ?_
      exact z_retWR O hE (Nat.le_of_ble_eq_true rfl) (Nat.le_of_ble_eq_true rfl) rfl dX6_freezeIn_32 h
    · replace h := h.2 c8
      refine z_iload O dX6_freezeIn_20 5 rfl ?_
      refine z_iconst (v := 1) O dX6_freezeIn_22 rfl ?_
      refine z_bipush (v := 9) O dX6_freezeIn_23 rfl ?_
      refine z_callR (gKs D cs) hK (fun _ h => h) (t_X11_within (gKs D cs) p4 1 9 _ h) (zr_SN (As := [.int p4, .int 1, .int 9]) (rest := []) O hE.1 3 gX6_freezeIn_X11_within_n22 rfl rfl rfl (hK.2.2 _ (List.mem_of_getElem? (i := 18) rfl)) (by decide +kernel) (by decide +kernel) (by decide +kernel) ⟨(Nat.le_of_ble_eq_true rfl), (Nat.le_of_ble_eq_true rfl)⟩ ⟨(Nat.le_of_ble_eq_true rfl), (Nat.le_of_ble_eq_true rfl)⟩ rfl rfl (Nat.le_of_ble_eq_true rfl) dX6_freezeIn_25) (fun r3 h => ?_)
      refine z_if_ne O 33 dX6_freezeIn_28 (by decide) (fun c7 => ?_) (fun c7 => ?_)
      · replace h := h.1 c7
        refine z_aload O dX6_freezeIn_33 0 rfl ?_
        refine z_aload_n O dX6_freezeIn_35 1 rfl ?_
        refine z_getf O hK.1 (hX _) (hg).1 (xe_6 hg) rfl i6 0 (by decide) (by decide +kernel) rfl dX6_freezeIn_36 ?_
        refine z_iload_n O dX6_freezeIn_39 3 rfl ?_
        refine z_callE (gKs D cs) hK (fun _ h => h) (t_X11_kindOf x  p2 _ h) (zr_SN (As := [.ref (ad 1), .int p2]) (rest := [.ref (ad o1)]) O hE.1 2 gX6_freezeIn_X11_kindOf_n42 rfl rfl rfl (hK.2.2 _ (List.mem_of_getElem? (i := 20) rfl)) (by decide +kernel) (by decide +kernel) (by decide +kernel) ⟨(Nat.le_of_ble_eq_true rfl), (Nat.le_of_ble_eq_true rfl)⟩ ⟨(Nat.le_of_ble_eq_true rfl), (Nat.le_of_ble_eq_true rfl)⟩ rfl rfl (Nat.le_of_ble_eq_true rfl) dX6_freezeIn_40) (fun h => False.elim h) (fun o4 h => ?_)
        have ho4 := h.1
        replace h := h.2
        refine z_iload_n O dX6_freezeIn_43 3 rfl ?_
        refine z_iload_n O dX6_freezeIn_44 4 rfl ?_
        refine z_iload O dX6_freezeIn_45 5 rfl ?_
        refine z_aload_n O dX6_freezeIn_47 1 rfl ?_
        refine z_getf O hK.1 (hX _) (hg).1 (xe_6 hg) rfl i6 2 (by decide) (by decide +kernel) rfl dX6_freezeIn_48 ?_
        refine z_cWR (gKs D cs) hK (fun _ h => h) (fun _ h => Or.inl h) (fun _ h => Or.inr h) (t_X2_freezeOn hI x o1 ho1 o4 ho4 p2 p3 p4 (x.1 g 2) _ h) (zr_V (As := [.ref (ad (2 + o4)), .int p2, .int p3, .int p4, .int (x.1 g 2)]) (rest := []) O hE.1 5 gX6_freezeIn_X2_freezeOn rfl rfl rfl (by decide +kernel) ⟨(Nat.le_of_ble_eq_true rfl), (Nat.le_of_ble_eq_true rfl)⟩ ⟨(Nat.le_of_ble_eq_true rfl), (Nat.le_of_ble_eq_true rfl)⟩ (fun H hH => z_recv hK.1 (hX _ H hH) (ho1).1 (xe_2 ho1) rfl) rfl rfl (Nat.le_of_ble_eq_true rfl) dX6_freezeIn_51) (fun r6 x5 h => ?_)
        exact z_retWR O hE (Nat.le_of_ble_eq_true rfl) (Nat.le_of_ble_eq_true rfl) rfl dX6_freezeIn_54 h
      · replace h := h.2 c7
        refine z_iconst (v := -1) O dX6_freezeIn_31 rfl ?_
        exact z_retWR O hE (Nat.le_of_ble_eq_true rfl) (Nat.le_of_ble_eq_true rfl) rfl dX6_freezeIn_32 h
def wp_X6_thawFor (x : XS) (g : Nat) (p1 : Int32) (Q : Int32 → XS → Prop) : Prop :=
 wp_X11_within p1 1 99 (fun r1 : Int32 =>
 ((¬ r1 = 0 →
 (∃ (I26 : Int32 → Int32 → XS → Prop) (U26 : Int32 → Int32 → XS → Nat), I26 0 0 x ∧ ∀ (y2 : Int32) (y3 : Int32) (x4 : XS), I26 y2 y3 x4 →
 ((6 ≤ y3 →
 Q y2 x4) ∧ (¬ 6 ≤ y3 →
 (vp_in y3 6 ∧ ∀ o5 : Nat, o5 = x4.2.2 (g + 1) (Int32.toNatClampNeg y3) → xk o5 2 ∧
 (∃ (I42 : Int32 → Int32 → XS → Prop) (U42 : Int32 → Int32 → XS → Nat), I42 y2 0 x4 ∧ ∀ (y6 : Int32) (y7 : Int32) (x8 : XS), I42 y6 y7 x8 →
 ((p1 ≤ y7 →
 (I26 y6 (y3 + 1) x8 ∧ U26 y6 (y3 + 1) x8 < U26 y2 y3 x4)) ∧ (¬ p1 ≤ y7 →
 (((x8.1 o5 6) ≤ 0 →
 (I26 y6 (y3 + 1) x8 ∧ U26 y6 (y3 + 1) x8 < U26 y2 y3 x4)) ∧ (¬ (x8.1 o5 6) ≤ 0 →
 wp_X2_warmDay x8 o5 (fun (r10 : Int32) (x9 : XS) =>
 (I42 (y6 + r10) (y7 + 1) x9 ∧ U42 (y6 + r10) (y7 + 1) x9 < U42 y6 y7 x8)))))))))))) ∧ (r1 = 0 →
 Q (-1) x)))
set_option maxHeartbeats 4000000 in
set_option maxRecDepth 100000 in
theorem t_X6_thawFor {l : Launch} {D : va_G} {cs : Nat → ClassId} {ad : Nat → Nat} (hI : wInj 161 ad) (x : XS) (g : Nat) (hg : xk g 6) (p1 : Int32) (Q : Int32 → XS → Prop) (h : wp_X6_thawFor x g p1 Q) : zWR l yX6_thawFor wsX6_thawFor ({ frames := 4, cells := 0, slots := 0, locals := 88 } : Room) (gK D cs) (XH D cs ad) (wB 161 ad) x [.ref (ad g), .int p1] 0 0 Q := by
  refine zWR_of (cc := cX6_thawFor) (nL := 8) (ret := (some .int)) (by decide +kernel) rfl (Nat.le_of_ble_eq_true rfl) (fun C hl O hE hK => ?_)
  subst hl
  have hX : ∀ (x : XS) (H : Heap), XH D cs ad x H → va_P D vwCl (wl 161 ad (XE cs ad x)) H := fun _ _ h => h
  have hB : ∀ {x : XS} (H : Heap), va_P D vwCl (wl 161 ad (XE cs ad x)) H → XH D cs ad x H := fun _ h => h
  have hA : ∀ q, wB 161 ad q → zA (wB 161 ad) C.s.heap.size q := fun _ h => Or.inl h
  have i2 : ∀ w ∈ wsX20, w ∈ wsX6_thawFor := by decide +kernel
  have i6 : ∀ w ∈ wsX60, w ∈ wsX6_thawFor := by decide +kernel
  refine z_sub (lv' := [(0, .ref (ad g)), (1, .int p1)]) [0, 1] rfl ?_
  refine z_iload_n O dX6_thawFor_0 1 rfl ?_
  refine z_iconst (v := 1) O dX6_thawFor_1 rfl ?_
  refine z_bipush (v := 99) O dX6_thawFor_2 rfl ?_
  refine z_callR (gKs D cs) hK (fun _ h => h) (t_X11_within (gKs D cs) p1 1 99 _ h) (zr_SN (As := [.int p1, .int 1, .int 99]) (rest := []) O hE.1 3 gX6_thawFor_X11_within_n22 rfl rfl rfl (hK.2.2 _ (List.mem_of_getElem? (i := 18) rfl)) (by decide +kernel) (by decide +kernel) (by decide +kernel) ⟨(Nat.le_of_ble_eq_true rfl), (Nat.le_of_ble_eq_true rfl)⟩ ⟨(Nat.le_of_ble_eq_true rfl), (Nat.le_of_ble_eq_true rfl)⟩ rfl rfl (Nat.le_of_ble_eq_true rfl) dX6_thawFor_4) (fun r1 h => ?_)
  refine z_if_ne O 12 dX6_thawFor_7 (by decide) (fun c14 => ?_) (fun c14 => ?_)
  · replace h := h.1 c14
    refine z_iconst (v := 0) O dX6_thawFor_12 rfl ?_
    refine z_istore_n (lv' := [(2, .int 0), (0, .ref (ad g)), (1, .int p1)]) O dX6_thawFor_13 (by decide) rfl ?_
    refine z_aload_n O dX6_thawFor_14 1 rfl ?_
    refine z_getf O hK.1 (hX _) (hg).1 (xe_6 hg) rfl i6 1 (by decide) (by decide +kernel) rfl dX6_thawFor_15 ?_
    refine z_astore_n (lv' := [(3, .ref (ad (g + 1))), (2, .int 0), (0, .ref (ad g)), (1, .int p1)]) O dX6_thawFor_18 (by decide) rfl ?_
    refine z_aload_n O dX6_thawFor_19 0 rfl ?_
    refine z_alen (v := 6) O hK.1 (hX _) 2 ((xk_l hg)).1 (xe_22 (xk_l hg)) rfl rfl dX6_thawFor_20 ?_
    refine z_istore (lv' := [(4, .int 6), (3, .ref (ad (g + 1))), (2, .int 0), (0, .ref (ad g)), (1, .int p1)]) O dX6_thawFor_21 (by decide) rfl ?_
    refine z_iconst (v := 0) O dX6_thawFor_23 rfl ?_
    refine z_istore (lv' := [(5, .int 0), (4, .int 6), (3, .ref (ad (g + 1))), (2, .int 0), (0, .ref (ad g)), (1, .int p1)]) O dX6_thawFor_24 (by decide) rfl ?_
    obtain ⟨I26, U26, h0, hs⟩ := h
    have kI26 : ∀ (n : Nat) (y2 : Int32) (y3 : Int32) (x4 : XS), U26 y2 y3 x4 < n → I26 y2 y3 x4 → Z C (zA (wB 161 ad) C.s.heap.size) (XH D cs ad) 8 x4 [(1, .int p1), (2, .int y2), (3, .ref (ad (g + 1))), (4, .int 6), (5, .int y3)] 0 0 26 [] := by
      intro n
      induction n with
      | zero => intro y2 y3 x4 uI26; exact absurd uI26 (Nat.not_lt_zero _)
      | succ n iI26 =>
        intro y2 y3 x4 uI26 h
        have h := hs y2 y3 x4 h
        refine z_iload O dX6_thawFor_26 4 rfl ?_
        refine z_iload O dX6_thawFor_28 3 rfl ?_
        refine z_icmp_ge O 76 dX6_thawFor_30 (by decide) (fun c13 => ?_) (fun c13 => ?_)
        · replace h := h.1 c13
          refine z_iload_n O dX6_thawFor_76 1 rfl ?_
          exact z_retWR O hE (Nat.le_of_ble_eq_true rfl) (Nat.le_of_ble_eq_true rfl) rfl dX6_thawFor_77 h
        · replace h := h.2 c13
          refine z_aload_n O dX6_thawFor_33 2 rfl ?_
          refine z_iload O dX6_thawFor_34 4 rfl ?_
          have hb0 := h.1
          obtain ⟨o5, eo5⟩ : ∃ z, z = x4.2.2 (g + 1) (Int32.toNatClampNeg y3) := ⟨_, rfl⟩
          have ho5 := (h.2 o5 eo5).1
          replace h := (h.2 o5 eo5).2
          refine z_aald (v := .ref (ad o5)) O hK.1 (hX _) 2 ((xk_l hg)).1 (xe_22 (xk_l hg)) rfl hb0 (by rw [eo5]; rfl) dX6_thawFor_36 ?_
          refine z_astore (lv' := [(6, .ref (ad o5)), (1, .int p1), (2, .int y2), (3, .ref (ad (g + 1))), (4, .int 6), (5, .int y3)]) O dX6_thawFor_37 (by decide) rfl ?_
          refine z_iconst (v := 0) O dX6_thawFor_39 rfl ?_
          refine z_istore (lv' := [(7, .int 0), (6, .ref (ad o5)), (1, .int p1), (2, .int y2), (3, .ref (ad (g + 1))), (4, .int 6), (5, .int y3)]) O dX6_thawFor_40 (by decide) rfl ?_
          obtain ⟨I42, U42, h0, hs⟩ := h
          have kI42 : ∀ (n : Nat) (y6 : Int32) (y7 : Int32) (x8 : XS), U42 y6 y7 x8 < n → I42 y6 y7 x8 → Z C (zA (wB 161 ad) C.s.heap.size) (XH D cs ad) 8 x8 [(1, .int p1), (2, .int y6), (3, .ref (ad (g + 1))), (4, .int 6), (5, .int y3), (6, .ref (ad o5)), (7, .int y7)] 0 0 42 [] := by
            intro n
            induction n with
            | zero => intro y6 y7 x8 uI42; exact absurd uI42 (Nat.not_lt_zero _)
            | succ n iI42 =>
              intro y6 y7 x8 uI42 h
              have h := hs y6 y7 x8 h
              refine z_iload O dX6_thawFor_42 6 rfl ?_
              refine z_iload_n O dX6_thawFor_44 0 rfl ?_
              refine z_icmp_ge O 70 dX6_thawFor_45 (by decide) (fun c12 => ?_) (fun c12 => ?_)
              · replace h := h.1 c12
                refine z_iinc (lv' := [(5, .int (y3 + 1)), (1, .int p1), (2, .int y6), (3, .ref (ad (g + 1))), (4, .int 6), (6, .ref (ad o5)), (7, .int y7)]) O dX6_thawFor_70 4 rfl rfl (by decide) rfl ?_
                refine z_goto O 26 dX6_thawFor_73 (by decide) ?_
                exact z_sub [1, 2, 3, 4, 0] rfl (iI26 y6 (y3 + 1) x8 (Nat.lt_of_lt_of_le h.2 (Nat.le_of_lt_succ uI26)) h.1)
              · replace h := h.2 c12
                refine z_aload O dX6_thawFor_48 5 rfl ?_
                refine z_getfN O hK.1 (hX _) (ho5).1 (xe_2 ho5) rfl i2 6 (by decide) (hK.2.1 _ (List.mem_of_getElem? (i := 0) rfl)) rfl dX6_thawFor_50 ?_
                refine z_if_le O 70 dX6_thawFor_53 (by decide) (fun c11 => ?_) (fun c11 => ?_)
                · replace h := h.1 c11
                  refine z_iinc (lv' := [(5, .int (y3 + 1)), (1, .int p1), (2, .int y6), (3, .ref (ad (g + 1))), (4, .int 6), (6, .ref (ad o5)), (7, .int y7)]) O dX6_thawFor_70 4 rfl rfl (by decide) rfl ?_
                  refine z_goto O 26 dX6_thawFor_73 (by decide) ?_
                  exact z_sub [1, 2, 3, 4, 0] rfl (iI26 y6 (y3 + 1) x8 (Nat.lt_of_lt_of_le h.2 (Nat.le_of_lt_succ uI26)) h.1)
                · replace h := h.2 c11
                  refine z_iload_n O dX6_thawFor_56 1 rfl ?_
                  refine z_aload O dX6_thawFor_57 5 rfl ?_
                  refine z_cWR (gKs D cs) hK (fun _ h => h) (fun _ h => Or.inl h) (fun _ h => Or.inr h) (t_X2_warmDay hI x8 o5 ho5  _ h) (zr_V (As := []) (rest := [.int y6]) O hE.1 0 gX6_thawFor_X2_warmDay rfl rfl rfl (by decide +kernel) ⟨(Nat.le_of_ble_eq_true rfl), (Nat.le_of_ble_eq_true rfl)⟩ ⟨(Nat.le_of_ble_eq_true rfl), (Nat.le_of_ble_eq_true rfl)⟩ (fun H hH => z_recv hK.1 (hX _ H hH) (ho5).1 (xe_2 ho5) rfl) rfl rfl (Nat.le_of_ble_eq_true rfl) dX6_thawFor_59) (fun r10 x9 h => ?_)
                  refine z_iadd O dX6_thawFor_62 ?_
                  refine z_istore_n (lv' := [(2, .int (y6 + r10)), (1, .int p1), (3, .ref (ad (g + 1))), (4, .int 6), (5, .int y3), (6, .ref (ad o5)), (7, .int y7)]) O dX6_thawFor_63 (by decide) rfl ?_
                  refine z_iinc (lv' := [(7, .int (y7 + 1)), (2, .int (y6 + r10)), (1, .int p1), (3, .ref (ad (g + 1))), (4, .int 6), (5, .int y3), (6, .ref (ad o5))]) O dX6_thawFor_64 6 rfl rfl (by decide) rfl ?_
                  refine z_goto O 42 dX6_thawFor_67 (by decide) ?_
                  exact z_sub [2, 1, 3, 4, 5, 6, 0] rfl (iI42 (y6 + r10) (y7 + 1) x9 (Nat.lt_of_lt_of_le h.2 (Nat.le_of_lt_succ uI42)) h.1)
          exact z_sub [2, 3, 4, 5, 6, 1, 0] rfl (kI42 _ y2 0 x4 (Nat.lt_succ_self _) h0)
    exact z_sub [5, 3, 2, 1, 0] rfl (kI26 _ 0 0 x (Nat.lt_succ_self _) h0)
  · replace h := h.2 c14
    refine z_iconst (v := -1) O dX6_thawFor_10 rfl ?_
    exact z_retWR O hE (Nat.le_of_ble_eq_true rfl) (Nat.le_of_ble_eq_true rfl) rfl dX6_thawFor_11 h
def wp_X6_cutIn (x : XS) (g : Nat) (p1 : Int32) (p2 : Int32) (Q : Int32 → XS → Prop) : Prop :=
 wp_X6_cellAt x g p1 (fun r : Option Nat => match r with
 | none => Q (-1) x
 | some o1 => xk o1 2 ∧
 wp_X11_within p2 1 99 (fun r2 : Int32 =>
 ((¬ r2 = 0 →
 wp_X2_cutOff x o1 p2 (fun (r4 : Int32) (x3 : XS) =>
 Q r4 x3)) ∧ (r2 = 0 →
 Q (-1) x))))
set_option maxHeartbeats 4000000 in
set_option maxRecDepth 100000 in
theorem t_X6_cutIn {l : Launch} {D : va_G} {cs : Nat → ClassId} {ad : Nat → Nat} (hI : wInj 161 ad) (x : XS) (g : Nat) (hg : xk g 6) (p1 : Int32) (p2 : Int32) (Q : Int32 → XS → Prop) (h : wp_X6_cutIn x g p1 p2 Q) : zWR l yX6_cutIn wsX6_cutIn ({ frames := 3, cells := 0, slots := 0, locals := 67 } : Room) (gK D cs) (XH D cs ad) (wB 161 ad) x [.ref (ad g), .int p1, .int p2] 0 0 Q := by
  refine zWR_of (cc := cX6_cutIn) (nL := 4) (ret := (some .int)) (by decide +kernel) rfl (Nat.le_of_ble_eq_true rfl) (fun C hl O hE hK => ?_)
  subst hl
  have hX : ∀ (x : XS) (H : Heap), XH D cs ad x H → va_P D vwCl (wl 161 ad (XE cs ad x)) H := fun _ _ h => h
  have hB : ∀ {x : XS} (H : Heap), va_P D vwCl (wl 161 ad (XE cs ad x)) H → XH D cs ad x H := fun _ h => h
  have hA : ∀ q, wB 161 ad q → zA (wB 161 ad) C.s.heap.size q := fun _ h => Or.inl h
  refine z_sub (lv' := [(0, .ref (ad g)), (1, .int p1), (2, .int p2)]) [0, 1, 2] rfl ?_
  refine z_aload_n O dX6_cutIn_0 0 rfl ?_
  refine z_iload_n O dX6_cutIn_1 1 rfl ?_
  refine z_callE (gKs D cs) hK (fun _ h => h) (t_X6_cellAt x g hg p1 _ h) (zr_V (As := [.int p1]) (rest := []) O hE.1 1 gX6_cutIn_X6_cellAt rfl rfl rfl (by decide +kernel) ⟨(Nat.le_of_ble_eq_true rfl), (Nat.le_of_ble_eq_true rfl)⟩ ⟨(Nat.le_of_ble_eq_true rfl), (Nat.le_of_ble_eq_true rfl)⟩ (fun H hH => z_recv hK.1 (hX _ H hH) (hg).1 (xe_6 hg) rfl) rfl rfl (Nat.le_of_ble_eq_true rfl) dX6_cutIn_2) (fun h => ?_) (fun o1 h => ?_)
  · skip
    refine z_astore_nN (lv' := [(3, .null), (0, .ref (ad g)), (1, .int p1), (2, .int p2)]) O dX6_cutIn_5 (by decide) rfl ?_
    refine z_aload_nN O dX6_cutIn_6 0 rfl ?_
    refine z_ifnullN O 20 dX6_cutIn_7 (by decide) ?_
    refine z_iconst (v := -1) O dX6_cutIn_20 rfl ?_
    refine z_goto O 29 dX6_cutIn_21 (by decide) ?_
    exact z_retWR O hE (Nat.le_of_ble_eq_true rfl) (Nat.le_of_ble_eq_true rfl) rfl dX6_cutIn_29 h
  · have ho1 := h.1
    replace h := h.2
    refine z_astore_n (lv' := [(3, .ref (ad o1)), (0, .ref (ad g)), (1, .int p1), (2, .int p2)]) O dX6_cutIn_5 (by decide) rfl ?_
    refine z_aload_n O dX6_cutIn_6 0 rfl ?_
    refine z_ifnull O dX6_cutIn_7 ?_
    refine z_iload_n O dX6_cutIn_10 3 rfl ?_
    refine z_iconst (v := 1) O dX6_cutIn_11 rfl ?_
    refine z_bipush (v := 99) O dX6_cutIn_12 rfl ?_
    refine z_callR (gKs D cs) hK (fun _ h => h) (t_X11_within (gKs D cs) p2 1 99 _ h) (zr_SN (As := [.int p2, .int 1, .int 99]) (rest := []) O hE.1 3 gX6_cutIn_X11_within_n22 rfl rfl rfl (hK.2.2 _ (List.mem_of_getElem? (i := 18) rfl)) (by decide +kernel) (by decide +kernel) (by decide +kernel) ⟨(Nat.le_of_ble_eq_true rfl), (Nat.le_of_ble_eq_true rfl)⟩ ⟨(Nat.le_of_ble_eq_true rfl), (Nat.le_of_ble_eq_true rfl)⟩ rfl rfl (Nat.le_of_ble_eq_true rfl) dX6_cutIn_14) (fun r2 h => ?_)
    refine z_if_ne O 24 dX6_cutIn_17 (by decide) (fun c5 => ?_) (fun c5 => ?_)
    · replace h := h.1 c5
      refine z_aload_n O dX6_cutIn_24 0 rfl ?_
      refine z_iload_n O dX6_cutIn_25 3 rfl ?_
      refine z_cWR (gKs D cs) hK (fun _ h => h) (fun _ h => Or.inl h) (fun _ h => Or.inr h) (t_X2_cutOff hI x o1 ho1 p2 _ h) (zr_V (As := [.int p2]) (rest := []) O hE.1 1 gX6_cutIn_X2_cutOff rfl rfl rfl (by decide +kernel) ⟨(Nat.le_of_ble_eq_true rfl), (Nat.le_of_ble_eq_true rfl)⟩ ⟨(Nat.le_of_ble_eq_true rfl), (Nat.le_of_ble_eq_true rfl)⟩ (fun H hH => z_recv hK.1 (hX _ H hH) (ho1).1 (xe_2 ho1) rfl) rfl rfl (Nat.le_of_ble_eq_true rfl) dX6_cutIn_26) (fun r4 x3 h => ?_)
      exact z_retWR O hE (Nat.le_of_ble_eq_true rfl) (Nat.le_of_ble_eq_true rfl) rfl dX6_cutIn_29 h
    · replace h := h.2 c5
      refine z_iconst (v := -1) O dX6_cutIn_20 rfl ?_
      refine z_goto O 29 dX6_cutIn_21 (by decide) ?_
      exact z_retWR O hE (Nat.le_of_ble_eq_true rfl) (Nat.le_of_ble_eq_true rfl) rfl dX6_cutIn_29 h
def wp_X6_driftOn (x : XS) (g : Nat)  (Q : Int32 → XS → Prop) : Prop :=
 (vp_in 5 6 ∧ ∀ o1 : Nat, o1 = x.2.2 (g + 1) (Int32.toNatClampNeg 5) → xk o1 2 ∧
 (∃ (I9 : Int32 → XS → Prop) (U9 : Int32 → XS → Nat), I9 5 x ∧ ∀ (y2 : Int32) (x3 : XS), I9 y2 x3 →
 ((y2 ≤ 0 →
 (vp_in 0 6 ∧
 ∀ x4 : XS, x4 = xP x3 (g + 1) (va_up (x3.2.2 (g + 1)) (Int32.toNatClampNeg 0) o1) →
 Q (x4.1 o1 6) x4)) ∧ (¬ y2 ≤ 0 →
 (vp_in (y2 - 1) 6 ∧ ∀ o5 : Nat, o5 = x3.2.2 (g + 1) (Int32.toNatClampNeg (y2 - 1)) → xk o5 2 ∧
 (vp_in y2 6 ∧
 ∀ x6 : XS, x6 = xP x3 (g + 1) (va_up (x3.2.2 (g + 1)) (Int32.toNatClampNeg y2) o5) →
 (I9 (y2 + (-1)) x6 ∧ U9 (y2 + (-1)) x6 < U9 y2 x3)))))))
set_option maxHeartbeats 4000000 in
set_option maxRecDepth 100000 in
theorem t_X6_driftOn {l : Launch} {D : va_G} {cs : Nat → ClassId} {ad : Nat → Nat} (hI : wInj 161 ad) (x : XS) (g : Nat) (hg : xk g 6)  (Q : Int32 → XS → Prop) (h : wp_X6_driftOn x g  Q) : zWR l yX6_driftOn wsX6_driftOn ({ frames := 0, cells := 0, slots := 0, locals := 0 } : Room) (gK D cs) (XH D cs ad) (wB 161 ad) x [.ref (ad g)] 0 0 Q := by
  refine zWR_of (cc := cX6_driftOn) (nL := 3) (ret := (some .int)) (by decide +kernel) rfl (Nat.le_of_ble_eq_true rfl) (fun C hl O hE hK => ?_)
  subst hl
  have hX : ∀ (x : XS) (H : Heap), XH D cs ad x H → va_P D vwCl (wl 161 ad (XE cs ad x)) H := fun _ _ h => h
  have hB : ∀ {x : XS} (H : Heap), va_P D vwCl (wl 161 ad (XE cs ad x)) H → XH D cs ad x H := fun _ h => h
  have hA : ∀ q, wB 161 ad q → zA (wB 161 ad) C.s.heap.size q := fun _ h => Or.inl h
  have i2 : ∀ w ∈ wsX20, w ∈ wsX6_driftOn := by decide +kernel
  have i6 : ∀ w ∈ wsX60, w ∈ wsX6_driftOn := by decide +kernel
  refine z_sub (lv' := [(0, .ref (ad g))]) [0] rfl ?_
  refine z_aload_n O dX6_driftOn_0 0 rfl ?_
  refine z_getf O hK.1 (hX _) (hg).1 (xe_6 hg) rfl i6 1 (by decide) (by decide +kernel) rfl dX6_driftOn_1 ?_
  refine z_iconst (v := 5) O dX6_driftOn_4 rfl ?_
  have hb0 := h.1
  obtain ⟨o1, eo1⟩ : ∃ z, z = x.2.2 (g + 1) (Int32.toNatClampNeg 5) := ⟨_, rfl⟩
  have ho1 := (h.2 o1 eo1).1
  replace h := (h.2 o1 eo1).2
  refine z_aald (v := .ref (ad o1)) O hK.1 (hX _) 2 ((xk_l hg)).1 (xe_22 (xk_l hg)) rfl hb0 (by rw [eo1]; rfl) dX6_driftOn_5 ?_
  refine z_astore_n (lv' := [(1, .ref (ad o1)), (0, .ref (ad g))]) O dX6_driftOn_6 (by decide) rfl ?_
  refine z_iconst (v := 5) O dX6_driftOn_7 rfl ?_
  refine z_istore_n (lv' := [(2, .int 5), (1, .ref (ad o1)), (0, .ref (ad g))]) O dX6_driftOn_8 (by decide) rfl ?_
  obtain ⟨I9, U9, h0, hs⟩ := h
  have kI9 : ∀ (n : Nat) (y2 : Int32) (x3 : XS), U9 y2 x3 < n → I9 y2 x3 → Z C (zA (wB 161 ad) C.s.heap.size) (XH D cs ad) 3 x3 [(0, .ref (ad g)), (1, .ref (ad o1)), (2, .int y2)] 0 0 9 [] := by
    intro n
    induction n with
    | zero => intro y2 x3 uI9; exact absurd uI9 (Nat.not_lt_zero _)
    | succ n iI9 =>
      intro y2 x3 uI9 h
      have h := hs y2 x3 h
      refine z_iload_n O dX6_driftOn_9 2 rfl ?_
      refine z_if_le O 33 dX6_driftOn_10 (by decide) (fun c7 => ?_) (fun c7 => ?_)
      · replace h := h.1 c7
        refine z_aload_n O dX6_driftOn_33 0 rfl ?_
        refine z_getf O hK.1 (hX _) (hg).1 (xe_6 hg) rfl i6 1 (by decide) (by decide +kernel) rfl dX6_driftOn_34 ?_
        refine z_iconst (v := 0) O dX6_driftOn_37 rfl ?_
        refine z_aload_n O dX6_driftOn_38 1 rfl ?_
        have hb0 := h.1
        replace h := h.2
        obtain ⟨x4, ex4⟩ : ∃ z, z = xP x3 (g + 1) (va_up (x3.2.2 (g + 1)) (Int32.toNatClampNeg 0) o1) := ⟨_, rfl⟩
        replace h := h x4 ex4
        refine z_aast (x' := x4) O hK.1 (hX _) hB hI hA 2 ((xk_l hg)).1 (xe_22 (xk_l hg)) rfl (ho1).1 (xe_2 ho1) rfl hb0 (by rw [ex4]; exact xe_setP (xk_l hg) _ _) dX6_driftOn_39 ?_
        refine z_aload_n O dX6_driftOn_40 1 rfl ?_
        refine z_getfN O hK.1 (hX _) (ho1).1 (xe_2 ho1) rfl i2 6 (by decide) (hK.2.1 _ (List.mem_of_getElem? (i := 0) rfl)) rfl dX6_driftOn_41 ?_
        exact z_retWR O hE (Nat.le_of_ble_eq_true rfl) (Nat.le_of_ble_eq_true rfl) rfl dX6_driftOn_44 h
      · replace h := h.2 c7
        refine z_aload_n O dX6_driftOn_13 0 rfl ?_
        refine z_getf O hK.1 (hX _) (hg).1 (xe_6 hg) rfl i6 1 (by decide) (by decide +kernel) rfl dX6_driftOn_14 ?_
        refine z_iload_n O dX6_driftOn_17 2 rfl ?_
        refine z_aload_n O dX6_driftOn_18 0 rfl ?_
        refine z_getf O hK.1 (hX _) (hg).1 (xe_6 hg) rfl i6 1 (by decide) (by decide +kernel) rfl dX6_driftOn_19 ?_
        refine z_iload_n O dX6_driftOn_22 2 rfl ?_
        refine z_iconst (v := 1) O dX6_driftOn_23 rfl ?_
        refine z_isub O dX6_driftOn_24 ?_
        have hb0 := h.1
        obtain ⟨o5, eo5⟩ : ∃ z, z = x3.2.2 (g + 1) (Int32.toNatClampNeg (y2 - 1)) := ⟨_, rfl⟩
        have ho5 := (h.2 o5 eo5).1
        replace h := (h.2 o5 eo5).2
        refine z_aald (v := .ref (ad o5)) O hK.1 (hX _) 2 ((xk_l hg)).1 (xe_22 (xk_l hg)) rfl hb0 (by rw [eo5]; rfl) dX6_driftOn_25 ?_
        have hb0 := h.1
        replace h := h.2
        obtain ⟨x6, ex6⟩ : ∃ z, z = xP x3 (g + 1) (va_up (x3.2.2 (g + 1)) (Int32.toNatClampNeg y2) o5) := ⟨_, rfl⟩
        replace h := h x6 ex6
        refine z_aast (x' := x6) O hK.1 (hX _) hB hI hA 2 ((xk_l hg)).1 (xe_22 (xk_l hg)) rfl (ho5).1 (xe_2 ho5) rfl hb0 (by rw [ex6]; exact xe_setP (xk_l hg) _ _) dX6_driftOn_26 ?_
        refine z_iinc (lv' := [(2, .int (y2 + (-1))), (0, .ref (ad g)), (1, .ref (ad o1))]) O dX6_driftOn_27 2 rfl rfl (by decide) rfl ?_
        refine z_goto O 9 dX6_driftOn_30 (by decide) ?_
        exact z_sub [1, 2, 0] rfl (iI9 (y2 + (-1)) x6 (Nat.lt_of_lt_of_le h.2 (Nat.le_of_lt_succ uI9)) h.1)
  exact z_sub [2, 1, 0] rfl (kI9 _ 5 x (Nat.lt_succ_self _) h0)
def wp_X6_nextWinter (x : XS) (g : Nat)  (Q : Int32 → XS → Prop) : Prop :=
 (((x.1 g 2) < 99 →
 (∀ x1 : XS, x1 = xI x g 2 ((x.1 g 2) + 1) →
 Q (x1.1 g 2) x1)) ∧ (¬ (x.1 g 2) < 99 →
 Q (-2) x))
set_option maxHeartbeats 4000000 in
set_option maxRecDepth 100000 in
theorem t_X6_nextWinter {l : Launch} {D : va_G} {cs : Nat → ClassId} {ad : Nat → Nat} (hI : wInj 161 ad) (x : XS) (g : Nat) (hg : xk g 6)  (Q : Int32 → XS → Prop) (h : wp_X6_nextWinter x g  Q) : zWR l yX6_nextWinter wsX6_nextWinter ({ frames := 0, cells := 0, slots := 0, locals := 0 } : Room) (gK D cs) (XH D cs ad) (wB 161 ad) x [.ref (ad g)] 0 0 Q := by
  refine zWR_of (cc := cX6_nextWinter) (nL := 1) (ret := (some .int)) (by decide +kernel) rfl (Nat.le_of_ble_eq_true rfl) (fun C hl O hE hK => ?_)
  subst hl
  have hX : ∀ (x : XS) (H : Heap), XH D cs ad x H → va_P D vwCl (wl 161 ad (XE cs ad x)) H := fun _ _ h => h
  have hB : ∀ {x : XS} (H : Heap), va_P D vwCl (wl 161 ad (XE cs ad x)) H → XH D cs ad x H := fun _ h => h
  have hA : ∀ q, wB 161 ad q → zA (wB 161 ad) C.s.heap.size q := fun _ h => Or.inl h
  have i6 : ∀ w ∈ wsX60, w ∈ wsX6_nextWinter := by decide +kernel
  refine z_sub (lv' := [(0, .ref (ad g))]) [0] rfl ?_
  refine z_aload_n O dX6_nextWinter_0 0 rfl ?_
  refine z_getf O hK.1 (hX _) (hg).1 (xe_6 hg) rfl i6 2 (by decide) (by decide +kernel) rfl dX6_nextWinter_1 ?_
  refine z_bipush (v := 99) O dX6_nextWinter_4 rfl ?_
  refine z_icmp_lt O 12 dX6_nextWinter_6 (by decide) (fun c2 => ?_) (fun c2 => ?_)
  · replace h := h.1 c2
    refine z_aload_n O dX6_nextWinter_12 0 rfl ?_
    refine z_dup O dX6_nextWinter_13 rfl ?_
    refine z_getf O hK.1 (hX _) (hg).1 (xe_6 hg) rfl i6 2 (by decide) (by decide +kernel) rfl dX6_nextWinter_14 ?_
    refine z_iconst (v := 1) O dX6_nextWinter_17 rfl ?_
    refine z_iadd O dX6_nextWinter_18 ?_
    obtain ⟨x1, ex1⟩ : ∃ z, z = xI x g 2 ((x.1 g 2) + 1) := ⟨_, rfl⟩
    replace h := h x1 ex1
    refine z_putf (x' := x1) (ty := .int) O hK.1 (hX _) hB hI hA (hg).1 (xe_6 hg) rfl i6 tyX6 tyX6_ok nmX6 2 (by decide) (by decide +kernel) rfl (by decide +kernel) rfl rfl (Nat.le_of_ble_eq_true rfl) (by rw [ex1]; exact xe_put6_2 hg ((x.1 g 2) + 1)) dX6_nextWinter_19 ?_
    refine z_aload_n O dX6_nextWinter_22 0 rfl ?_
    refine z_getf O hK.1 (hX _) (hg).1 (xe_6 hg) rfl i6 2 (by decide) (by decide +kernel) rfl dX6_nextWinter_23 ?_
    exact z_retWR O hE (Nat.le_of_ble_eq_true rfl) (Nat.le_of_ble_eq_true rfl) rfl dX6_nextWinter_26 h
  · replace h := h.2 c2
    refine z_bipush (v := -2) O dX6_nextWinter_9 rfl ?_
    exact z_retWR O hE (Nat.le_of_ble_eq_true rfl) (Nat.le_of_ble_eq_true rfl) rfl dX6_nextWinter_11 h
def wp_X6_allLayers (x : XS) (g : Nat)  (Q : Int32 → Prop) : Prop :=
 (∃ (I13 : Int32 → Int32 → Prop) (U13 : Int32 → Int32 → Nat), I13 0 0 ∧ ∀ (y1 : Int32) (y2 : Int32), I13 y1 y2 →
 ((6 ≤ y2 →
 Q y1) ∧ (¬ 6 ≤ y2 →
 (vp_in y2 6 ∧ ∀ o3 : Nat, o3 = x.2.2 (g + 1) (Int32.toNatClampNeg y2) → xk o3 2 ∧
 (I13 (y1 + (x.1 o3 6)) (y2 + 1) ∧ U13 (y1 + (x.1 o3 6)) (y2 + 1) < U13 y1 y2)))))
set_option maxHeartbeats 4000000 in
set_option maxRecDepth 100000 in
theorem t_X6_allLayers {l : Launch} {D : va_G} {cs : Nat → ClassId} {ad : Nat → Nat} (x : XS) (g : Nat) (hg : xk g 6)  (Q : Int32 → Prop) (h : wp_X6_allLayers x g  Q) : zMR l yX6_allLayers wsX6_allLayers ({ frames := 0, cells := 0, slots := 0, locals := 0 } : Room) (gK D cs) (XH D cs ad) x [.ref (ad g)] Q := by
  refine zMR_of (cc := cX6_allLayers) (nL := 6) (ret := (some .int)) (by decide +kernel) rfl (Nat.le_of_ble_eq_true rfl) (fun C hl O hE hK hH => ?_)
  subst hl
  have hX : ∀ (x : XS) (H : Heap), z0 (XH D cs ad) C.s.heap x H → va_P D vwCl (wl 161 ad (XE cs ad x)) H := fun _ _ h => h.2
  have i2 : ∀ w ∈ wsX20, w ∈ wsX6_allLayers := by decide +kernel
  have i6 : ∀ w ∈ wsX60, w ∈ wsX6_allLayers := by decide +kernel
  refine z_sub (lv' := [(0, .ref (ad g))]) [0] rfl ?_
  refine z_iconst (v := 0) O dX6_allLayers_0 rfl ?_
  refine z_istore_n (lv' := [(1, .int 0), (0, .ref (ad g))]) O dX6_allLayers_1 (by decide) rfl ?_
  refine z_aload_n O dX6_allLayers_2 1 rfl ?_
  refine z_getf O hK.1 (hX _) (hg).1 (xe_6 hg) rfl i6 1 (by decide) (by decide +kernel) rfl dX6_allLayers_3 ?_
  refine z_astore_n (lv' := [(2, .ref (ad (g + 1))), (1, .int 0), (0, .ref (ad g))]) O dX6_allLayers_6 (by decide) rfl ?_
  refine z_aload_n O dX6_allLayers_7 0 rfl ?_
  refine z_alen (v := 6) O hK.1 (hX _) 2 ((xk_l hg)).1 (xe_22 (xk_l hg)) rfl rfl dX6_allLayers_8 ?_
  refine z_istore_n (lv' := [(3, .int 6), (2, .ref (ad (g + 1))), (1, .int 0), (0, .ref (ad g))]) O dX6_allLayers_9 (by decide) rfl ?_
  refine z_iconst (v := 0) O dX6_allLayers_10 rfl ?_
  refine z_istore (lv' := [(4, .int 0), (3, .int 6), (2, .ref (ad (g + 1))), (1, .int 0), (0, .ref (ad g))]) O dX6_allLayers_11 (by decide) rfl ?_
  obtain ⟨I13, U13, h0, hs⟩ := h
  have kI13 : ∀ (n : Nat) (y1 : Int32) (y2 : Int32), U13 y1 y2 < n → I13 y1 y2 → Z C (fun _ => False) (z0 (XH D cs ad) C.s.heap) 6 x [(1, .int y1), (2, .ref (ad (g + 1))), (3, .int 6), (4, .int y2)] 0 0 13 [] := by
    intro n
    induction n with
    | zero => intro y1 y2 uI13; exact absurd uI13 (Nat.not_lt_zero _)
    | succ n iI13 =>
      intro y1 y2 uI13 h
      have h := hs y1 y2 h
      refine z_iload O dX6_allLayers_13 3 rfl ?_
      refine z_iload_n O dX6_allLayers_15 2 rfl ?_
      refine z_icmp_ge O 39 dX6_allLayers_16 (by decide) (fun c4 => ?_) (fun c4 => ?_)
      · replace h := h.1 c4
        refine z_iload_n O dX6_allLayers_39 0 rfl ?_
        exact z_retR O hE (fun _ h => h.1) rfl dX6_allLayers_40 h
      · replace h := h.2 c4
        refine z_aload_n O dX6_allLayers_19 1 rfl ?_
        refine z_iload O dX6_allLayers_20 3 rfl ?_
        have hb0 := h.1
        obtain ⟨o3, eo3⟩ : ∃ z, z = x.2.2 (g + 1) (Int32.toNatClampNeg y2) := ⟨_, rfl⟩
        have ho3 := (h.2 o3 eo3).1
        replace h := (h.2 o3 eo3).2
        refine z_aald (v := .ref (ad o3)) O hK.1 (hX _) 2 ((xk_l hg)).1 (xe_22 (xk_l hg)) rfl hb0 (by rw [eo3]; rfl) dX6_allLayers_22 ?_
        refine z_astore (lv' := [(5, .ref (ad o3)), (1, .int y1), (2, .ref (ad (g + 1))), (3, .int 6), (4, .int y2)]) O dX6_allLayers_23 (by decide) rfl ?_
        refine z_iload_n O dX6_allLayers_25 1 rfl ?_
        refine z_aload O dX6_allLayers_26 0 rfl ?_
        refine z_getfN O hK.1 (hX _) (ho3).1 (xe_2 ho3) rfl i2 6 (by decide) (hK.2.1 _ (List.mem_of_getElem? (i := 0) rfl)) rfl dX6_allLayers_28 ?_
        refine z_iadd O dX6_allLayers_31 ?_
        refine z_istore_n (lv' := [(1, .int (y1 + (x.1 o3 6))), (5, .ref (ad o3)), (2, .ref (ad (g + 1))), (3, .int 6), (4, .int y2)]) O dX6_allLayers_32 (by decide) rfl ?_
        refine z_iinc (lv' := [(4, .int (y2 + 1)), (1, .int (y1 + (x.1 o3 6))), (5, .ref (ad o3)), (2, .ref (ad (g + 1))), (3, .int 6)]) O dX6_allLayers_33 4 rfl rfl (by decide) rfl ?_
        refine z_goto O 13 dX6_allLayers_36 (by decide) ?_
        exact z_sub [1, 3, 4, 0] rfl (iI13 (y1 + (x.1 o3 6)) (y2 + 1) (Nat.lt_of_lt_of_le h.2 (Nat.le_of_lt_succ uI13)) h.1)
  exact z_sub [3, 2, 1, 0] rfl (kI13 _ 0 0 (Nat.lt_succ_self _) h0)
def wp_X6_allIce (x : XS) (g : Nat)  (Q : Int32 → Prop) : Prop :=
 (∃ (I13 : Int32 → Int32 → Prop) (U13 : Int32 → Int32 → Nat), I13 0 0 ∧ ∀ (y1 : Int32) (y2 : Int32), I13 y1 y2 →
 ((6 ≤ y2 →
 Q y1) ∧ (¬ 6 ≤ y2 →
 (vp_in y2 6 ∧ ∀ o3 : Nat, o3 = x.2.2 (g + 1) (Int32.toNatClampNeg y2) → xk o3 2 ∧
 wp_X2_ice x o3 (fun r4 : Int32 =>
 (I13 (y1 + r4) (y2 + 1) ∧ U13 (y1 + r4) (y2 + 1) < U13 y1 y2))))))
set_option maxHeartbeats 4000000 in
set_option maxRecDepth 100000 in
theorem t_X6_allIce {l : Launch} {D : va_G} {cs : Nat → ClassId} {ad : Nat → Nat} (x : XS) (g : Nat) (hg : xk g 6)  (Q : Int32 → Prop) (h : wp_X6_allIce x g  Q) : zMR l yX6_allIce wsX6_allIce ({ frames := 4, cells := 0, slots := 0, locals := 85 } : Room) (gK D cs) (XH D cs ad) x [.ref (ad g)] Q := by
  refine zMR_of (cc := cX6_allIce) (nL := 6) (ret := (some .int)) (by decide +kernel) rfl (Nat.le_of_ble_eq_true rfl) (fun C hl O hE hK hH => ?_)
  subst hl
  have hX : ∀ (x : XS) (H : Heap), z0 (XH D cs ad) C.s.heap x H → va_P D vwCl (wl 161 ad (XE cs ad x)) H := fun _ _ h => h.2
  have i6 : ∀ w ∈ wsX60, w ∈ wsX6_allIce := by decide +kernel
  refine z_sub (lv' := [(0, .ref (ad g))]) [0] rfl ?_
  refine z_iconst (v := 0) O dX6_allIce_0 rfl ?_
  refine z_istore_n (lv' := [(1, .int 0), (0, .ref (ad g))]) O dX6_allIce_1 (by decide) rfl ?_
  refine z_aload_n O dX6_allIce_2 1 rfl ?_
  refine z_getf O hK.1 (hX _) (hg).1 (xe_6 hg) rfl i6 1 (by decide) (by decide +kernel) rfl dX6_allIce_3 ?_
  refine z_astore_n (lv' := [(2, .ref (ad (g + 1))), (1, .int 0), (0, .ref (ad g))]) O dX6_allIce_6 (by decide) rfl ?_
  refine z_aload_n O dX6_allIce_7 0 rfl ?_
  refine z_alen (v := 6) O hK.1 (hX _) 2 ((xk_l hg)).1 (xe_22 (xk_l hg)) rfl rfl dX6_allIce_8 ?_
  refine z_istore_n (lv' := [(3, .int 6), (2, .ref (ad (g + 1))), (1, .int 0), (0, .ref (ad g))]) O dX6_allIce_9 (by decide) rfl ?_
  refine z_iconst (v := 0) O dX6_allIce_10 rfl ?_
  refine z_istore (lv' := [(4, .int 0), (3, .int 6), (2, .ref (ad (g + 1))), (1, .int 0), (0, .ref (ad g))]) O dX6_allIce_11 (by decide) rfl ?_
  obtain ⟨I13, U13, h0, hs⟩ := h
  have kI13 : ∀ (n : Nat) (y1 : Int32) (y2 : Int32), U13 y1 y2 < n → I13 y1 y2 → Z C (fun _ => False) (z0 (XH D cs ad) C.s.heap) 6 x [(1, .int y1), (2, .ref (ad (g + 1))), (3, .int 6), (4, .int y2)] 0 0 13 [] := by
    intro n
    induction n with
    | zero => intro y1 y2 uI13; exact absurd uI13 (Nat.not_lt_zero _)
    | succ n iI13 =>
      intro y1 y2 uI13 h
      have h := hs y1 y2 h
      refine z_iload O dX6_allIce_13 3 rfl ?_
      refine z_iload_n O dX6_allIce_15 2 rfl ?_
      refine z_icmp_ge O 39 dX6_allIce_16 (by decide) (fun c5 => ?_) (fun c5 => ?_)
      · replace h := h.1 c5
        refine z_iload_n O dX6_allIce_39 0 rfl ?_
        exact z_retR O hE (fun _ h => h.1) rfl dX6_allIce_40 h
      · replace h := h.2 c5
        refine z_aload_n O dX6_allIce_19 1 rfl ?_
        refine z_iload O dX6_allIce_20 3 rfl ?_
        have hb0 := h.1
        obtain ⟨o3, eo3⟩ : ∃ z, z = x.2.2 (g + 1) (Int32.toNatClampNeg y2) := ⟨_, rfl⟩
        have ho3 := (h.2 o3 eo3).1
        replace h := (h.2 o3 eo3).2
        refine z_aald (v := .ref (ad o3)) O hK.1 (hX _) 2 ((xk_l hg)).1 (xe_22 (xk_l hg)) rfl hb0 (by rw [eo3]; rfl) dX6_allIce_22 ?_
        refine z_astore (lv' := [(5, .ref (ad o3)), (1, .int y1), (2, .ref (ad (g + 1))), (3, .int 6), (4, .int y2)]) O dX6_allIce_23 (by decide) rfl ?_
        refine z_iload_n O dX6_allIce_25 1 rfl ?_
        refine z_aload O dX6_allIce_26 0 rfl ?_
        refine z_callR (gKs D cs) hK (fun _ h => h.2) (t_X2_ice x o3 ho3  _ h) (zr_V (As := []) (rest := [.int y1]) O hE.1 0 gX6_allIce_X2_ice rfl rfl rfl (by decide +kernel) ⟨(Nat.le_of_ble_eq_true rfl), (Nat.le_of_ble_eq_true rfl)⟩ ⟨(Nat.le_of_ble_eq_true rfl), (Nat.le_of_ble_eq_true rfl)⟩ (fun H hH => z_recv hK.1 (hX _ H hH) (ho3).1 (xe_2 ho3) rfl) rfl rfl (Nat.le_of_ble_eq_true rfl) dX6_allIce_28) (fun r4 h => ?_)
        refine z_iadd O dX6_allIce_31 ?_
        refine z_istore_n (lv' := [(1, .int (y1 + r4)), (5, .ref (ad o3)), (2, .ref (ad (g + 1))), (3, .int 6), (4, .int y2)]) O dX6_allIce_32 (by decide) rfl ?_
        refine z_iinc (lv' := [(4, .int (y2 + 1)), (1, .int (y1 + r4)), (5, .ref (ad o3)), (2, .ref (ad (g + 1))), (3, .int 6)]) O dX6_allIce_33 4 rfl rfl (by decide) rfl ?_
        refine z_goto O 13 dX6_allIce_36 (by decide) ?_
        exact z_sub [1, 3, 4, 0] rfl (iI13 (y1 + r4) (y2 + 1) (Nat.lt_of_lt_of_le h.2 (Nat.le_of_lt_succ uI13)) h.1)
  exact z_sub [3, 2, 1, 0] rfl (kI13 _ 0 0 (Nat.lt_succ_self _) h0)
def wp_X6_allReadable (x : XS) (g : Nat)  (Q : Int32 → Prop) : Prop :=
 (∃ (I13 : Int32 → Int32 → Prop) (U13 : Int32 → Int32 → Nat), I13 0 0 ∧ ∀ (y1 : Int32) (y2 : Int32), I13 y1 y2 →
 ((6 ≤ y2 →
 Q y1) ∧ (¬ 6 ≤ y2 →
 (vp_in y2 6 ∧ ∀ o3 : Nat, o3 = x.2.2 (g + 1) (Int32.toNatClampNeg y2) → xk o3 2 ∧
 wp_X2_readableLayers x o3 (fun r4 : Int32 =>
 (I13 (y1 + r4) (y2 + 1) ∧ U13 (y1 + r4) (y2 + 1) < U13 y1 y2))))))
set_option maxHeartbeats 4000000 in
set_option maxRecDepth 100000 in
theorem t_X6_allReadable {l : Launch} {D : va_G} {cs : Nat → ClassId} {ad : Nat → Nat} (x : XS) (g : Nat) (hg : xk g 6)  (Q : Int32 → Prop) (h : wp_X6_allReadable x g  Q) : zMR l yX6_allReadable wsX6_allReadable ({ frames := 5, cells := 0, slots := 0, locals := 108 } : Room) (gK D cs) (XH D cs ad) x [.ref (ad g)] Q := by
  refine zMR_of (cc := cX6_allReadable) (nL := 6) (ret := (some .int)) (by decide +kernel) rfl (Nat.le_of_ble_eq_true rfl) (fun C hl O hE hK hH => ?_)
  subst hl
  have hX : ∀ (x : XS) (H : Heap), z0 (XH D cs ad) C.s.heap x H → va_P D vwCl (wl 161 ad (XE cs ad x)) H := fun _ _ h => h.2
  have i6 : ∀ w ∈ wsX60, w ∈ wsX6_allReadable := by decide +kernel
  refine z_sub (lv' := [(0, .ref (ad g))]) [0] rfl ?_
  refine z_iconst (v := 0) O dX6_allReadable_0 rfl ?_
  refine z_istore_n (lv' := [(1, .int 0), (0, .ref (ad g))]) O dX6_allReadable_1 (by decide) rfl ?_
  refine z_aload_n O dX6_allReadable_2 1 rfl ?_
  refine z_getf O hK.1 (hX _) (hg).1 (xe_6 hg) rfl i6 1 (by decide) (by decide +kernel) rfl dX6_allReadable_3 ?_
  refine z_astore_n (lv' := [(2, .ref (ad (g + 1))), (1, .int 0), (0, .ref (ad g))]) O dX6_allReadable_6 (by decide) rfl ?_
  refine z_aload_n O dX6_allReadable_7 0 rfl ?_
  refine z_alen (v := 6) O hK.1 (hX _) 2 ((xk_l hg)).1 (xe_22 (xk_l hg)) rfl rfl dX6_allReadable_8 ?_
  refine z_istore_n (lv' := [(3, .int 6), (2, .ref (ad (g + 1))), (1, .int 0), (0, .ref (ad g))]) O dX6_allReadable_9 (by decide) rfl ?_
  refine z_iconst (v := 0) O dX6_allReadable_10 rfl ?_
  refine z_istore (lv' := [(4, .int 0), (3, .int 6), (2, .ref (ad (g + 1))), (1, .int 0), (0, .ref (ad g))]) O dX6_allReadable_11 (by decide) rfl ?_
  obtain ⟨I13, U13, h0, hs⟩ := h
  have kI13 : ∀ (n : Nat) (y1 : Int32) (y2 : Int32), U13 y1 y2 < n → I13 y1 y2 → Z C (fun _ => False) (z0 (XH D cs ad) C.s.heap) 6 x [(1, .int y1), (2, .ref (ad (g + 1))), (3, .int 6), (4, .int y2)] 0 0 13 [] := by
    intro n
    induction n with
    | zero => intro y1 y2 uI13; exact absurd uI13 (Nat.not_lt_zero _)
    | succ n iI13 =>
      intro y1 y2 uI13 h
      have h := hs y1 y2 h
      refine z_iload O dX6_allReadable_13 3 rfl ?_
      refine z_iload_n O dX6_allReadable_15 2 rfl ?_
      refine z_icmp_ge O 39 dX6_allReadable_16 (by decide) (fun c5 => ?_) (fun c5 => ?_)
      · replace h := h.1 c5
        refine z_iload_n O dX6_allReadable_39 0 rfl ?_
        exact z_retR O hE (fun _ h => h.1) rfl dX6_allReadable_40 h
      · replace h := h.2 c5
        refine z_aload_n O dX6_allReadable_19 1 rfl ?_
        refine z_iload O dX6_allReadable_20 3 rfl ?_
        have hb0 := h.1
        obtain ⟨o3, eo3⟩ : ∃ z, z = x.2.2 (g + 1) (Int32.toNatClampNeg y2) := ⟨_, rfl⟩
        have ho3 := (h.2 o3 eo3).1
        replace h := (h.2 o3 eo3).2
        refine z_aald (v := .ref (ad o3)) O hK.1 (hX _) 2 ((xk_l hg)).1 (xe_22 (xk_l hg)) rfl hb0 (by rw [eo3]; rfl) dX6_allReadable_22 ?_
        refine z_astore (lv' := [(5, .ref (ad o3)), (1, .int y1), (2, .ref (ad (g + 1))), (3, .int 6), (4, .int y2)]) O dX6_allReadable_23 (by decide) rfl ?_
        refine z_iload_n O dX6_allReadable_25 1 rfl ?_
        refine z_aload O dX6_allReadable_26 0 rfl ?_
        refine z_callR (gKs D cs) hK (fun _ h => h.2) (t_X2_readableLayers x o3 ho3  _ h) (zr_V (As := []) (rest := [.int y1]) O hE.1 0 gX6_allReadable_X2_readableLayers rfl rfl rfl (by decide +kernel) ⟨(Nat.le_of_ble_eq_true rfl), (Nat.le_of_ble_eq_true rfl)⟩ ⟨(Nat.le_of_ble_eq_true rfl), (Nat.le_of_ble_eq_true rfl)⟩ (fun H hH => z_recv hK.1 (hX _ H hH) (ho3).1 (xe_2 ho3) rfl) rfl rfl (Nat.le_of_ble_eq_true rfl) dX6_allReadable_28) (fun r4 h => ?_)
        refine z_iadd O dX6_allReadable_31 ?_
        refine z_istore_n (lv' := [(1, .int (y1 + r4)), (5, .ref (ad o3)), (2, .ref (ad (g + 1))), (3, .int 6), (4, .int y2)]) O dX6_allReadable_32 (by decide) rfl ?_
        refine z_iinc (lv' := [(4, .int (y2 + 1)), (1, .int (y1 + r4)), (5, .ref (ad o3)), (2, .ref (ad (g + 1))), (3, .int 6)]) O dX6_allReadable_33 4 rfl rfl (by decide) rfl ?_
        refine z_goto O 13 dX6_allReadable_36 (by decide) ?_
        exact z_sub [1, 3, 4, 0] rfl (iI13 (y1 + r4) (y2 + 1) (Nat.lt_of_lt_of_le h.2 (Nat.le_of_lt_succ uI13)) h.1)
  exact z_sub [3, 2, 1, 0] rfl (kI13 _ 0 0 (Nat.lt_succ_self _) h0)
def wp_X6_allOaths (x : XS) (g : Nat)  (Q : Int32 → Prop) : Prop :=
 (∃ (I13 : Int32 → Int32 → Prop) (U13 : Int32 → Int32 → Nat), I13 0 0 ∧ ∀ (y1 : Int32) (y2 : Int32), I13 y1 y2 →
 ((6 ≤ y2 →
 Q y1) ∧ (¬ 6 ≤ y2 →
 (vp_in y2 6 ∧ ∀ o3 : Nat, o3 = x.2.2 (g + 1) (Int32.toNatClampNeg y2) → xk o3 2 ∧
 wp_X2_oaths x o3 (fun r4 : Int32 =>
 (I13 (y1 ||| r4) (y2 + 1) ∧ U13 (y1 ||| r4) (y2 + 1) < U13 y1 y2))))))
set_option maxHeartbeats 4000000 in
set_option maxRecDepth 100000 in
theorem t_X6_allOaths {l : Launch} {D : va_G} {cs : Nat → ClassId} {ad : Nat → Nat} (x : XS) (g : Nat) (hg : xk g 6)  (Q : Int32 → Prop) (h : wp_X6_allOaths x g  Q) : zMR l yX6_allOaths wsX6_allOaths ({ frames := 3, cells := 0, slots := 0, locals := 64 } : Room) (gK D cs) (XH D cs ad) x [.ref (ad g)] Q := by
  refine zMR_of (cc := cX6_allOaths) (nL := 6) (ret := (some .int)) (by decide +kernel) rfl (Nat.le_of_ble_eq_true rfl) (fun C hl O hE hK hH => ?_)
  subst hl
  have hX : ∀ (x : XS) (H : Heap), z0 (XH D cs ad) C.s.heap x H → va_P D vwCl (wl 161 ad (XE cs ad x)) H := fun _ _ h => h.2
  have i6 : ∀ w ∈ wsX60, w ∈ wsX6_allOaths := by decide +kernel
  refine z_sub (lv' := [(0, .ref (ad g))]) [0] rfl ?_
  refine z_iconst (v := 0) O dX6_allOaths_0 rfl ?_
  refine z_istore_n (lv' := [(1, .int 0), (0, .ref (ad g))]) O dX6_allOaths_1 (by decide) rfl ?_
  refine z_aload_n O dX6_allOaths_2 1 rfl ?_
  refine z_getf O hK.1 (hX _) (hg).1 (xe_6 hg) rfl i6 1 (by decide) (by decide +kernel) rfl dX6_allOaths_3 ?_
  refine z_astore_n (lv' := [(2, .ref (ad (g + 1))), (1, .int 0), (0, .ref (ad g))]) O dX6_allOaths_6 (by decide) rfl ?_
  refine z_aload_n O dX6_allOaths_7 0 rfl ?_
  refine z_alen (v := 6) O hK.1 (hX _) 2 ((xk_l hg)).1 (xe_22 (xk_l hg)) rfl rfl dX6_allOaths_8 ?_
  refine z_istore_n (lv' := [(3, .int 6), (2, .ref (ad (g + 1))), (1, .int 0), (0, .ref (ad g))]) O dX6_allOaths_9 (by decide) rfl ?_
  refine z_iconst (v := 0) O dX6_allOaths_10 rfl ?_
  refine z_istore (lv' := [(4, .int 0), (3, .int 6), (2, .ref (ad (g + 1))), (1, .int 0), (0, .ref (ad g))]) O dX6_allOaths_11 (by decide) rfl ?_
  obtain ⟨I13, U13, h0, hs⟩ := h
  have kI13 : ∀ (n : Nat) (y1 : Int32) (y2 : Int32), U13 y1 y2 < n → I13 y1 y2 → Z C (fun _ => False) (z0 (XH D cs ad) C.s.heap) 6 x [(1, .int y1), (2, .ref (ad (g + 1))), (3, .int 6), (4, .int y2)] 0 0 13 [] := by
    intro n
    induction n with
    | zero => intro y1 y2 uI13; exact absurd uI13 (Nat.not_lt_zero _)
    | succ n iI13 =>
      intro y1 y2 uI13 h
      have h := hs y1 y2 h
      refine z_iload O dX6_allOaths_13 3 rfl ?_
      refine z_iload_n O dX6_allOaths_15 2 rfl ?_
      refine z_icmp_ge O 39 dX6_allOaths_16 (by decide) (fun c5 => ?_) (fun c5 => ?_)
      · replace h := h.1 c5
        refine z_iload_n O dX6_allOaths_39 0 rfl ?_
        exact z_retR O hE (fun _ h => h.1) rfl dX6_allOaths_40 h
      · replace h := h.2 c5
        refine z_aload_n O dX6_allOaths_19 1 rfl ?_
        refine z_iload O dX6_allOaths_20 3 rfl ?_
        have hb0 := h.1
        obtain ⟨o3, eo3⟩ : ∃ z, z = x.2.2 (g + 1) (Int32.toNatClampNeg y2) := ⟨_, rfl⟩
        have ho3 := (h.2 o3 eo3).1
        replace h := (h.2 o3 eo3).2
        refine z_aald (v := .ref (ad o3)) O hK.1 (hX _) 2 ((xk_l hg)).1 (xe_22 (xk_l hg)) rfl hb0 (by rw [eo3]; rfl) dX6_allOaths_22 ?_
        refine z_astore (lv' := [(5, .ref (ad o3)), (1, .int y1), (2, .ref (ad (g + 1))), (3, .int 6), (4, .int y2)]) O dX6_allOaths_23 (by decide) rfl ?_
        refine z_iload_n O dX6_allOaths_25 1 rfl ?_
        refine z_aload O dX6_allOaths_26 0 rfl ?_
        refine z_callR (gKs D cs) hK (fun _ h => h.2) (t_X2_oaths x o3 ho3  _ h) (zr_V (As := []) (rest := [.int y1]) O hE.1 0 gX6_allOaths_X2_oaths rfl rfl rfl (by decide +kernel) ⟨(Nat.le_of_ble_eq_true rfl), (Nat.le_of_ble_eq_true rfl)⟩ ⟨(Nat.le_of_ble_eq_true rfl), (Nat.le_of_ble_eq_true rfl)⟩ (fun H hH => z_recv hK.1 (hX _ H hH) (ho3).1 (xe_2 ho3) rfl) rfl rfl (Nat.le_of_ble_eq_true rfl) dX6_allOaths_28) (fun r4 h => ?_)
        refine z_ior O dX6_allOaths_31 ?_
        refine z_istore_n (lv' := [(1, .int (y1 ||| r4)), (5, .ref (ad o3)), (2, .ref (ad (g + 1))), (3, .int 6), (4, .int y2)]) O dX6_allOaths_32 (by decide) rfl ?_
        refine z_iinc (lv' := [(4, .int (y2 + 1)), (1, .int (y1 ||| r4)), (5, .ref (ad o3)), (2, .ref (ad (g + 1))), (3, .int 6)]) O dX6_allOaths_33 4 rfl rfl (by decide) rfl ?_
        refine z_goto O 13 dX6_allOaths_36 (by decide) ?_
        exact z_sub [1, 3, 4, 0] rfl (iI13 (y1 ||| r4) (y2 + 1) (Nat.lt_of_lt_of_le h.2 (Nat.le_of_lt_succ uI13)) h.1)
  exact z_sub [3, 2, 1, 0] rfl (kI13 _ 0 0 (Nat.lt_succ_self _) h0)
def wp_X6_allUnordered (x : XS) (g : Nat)  (Q : Int32 → Prop) : Prop :=
 (∃ (I13 : Int32 → Int32 → Prop) (U13 : Int32 → Int32 → Nat), I13 0 0 ∧ ∀ (y1 : Int32) (y2 : Int32), I13 y1 y2 →
 ((6 ≤ y2 →
 Q y1) ∧ (¬ 6 ≤ y2 →
 (vp_in y2 6 ∧ ∀ o3 : Nat, o3 = x.2.2 (g + 1) (Int32.toNatClampNeg y2) → xk o3 2 ∧
 wp_X2_unorderedPairs x o3 (fun r4 : Int32 =>
 (I13 (y1 + r4) (y2 + 1) ∧ U13 (y1 + r4) (y2 + 1) < U13 y1 y2))))))
set_option maxHeartbeats 4000000 in
set_option maxRecDepth 100000 in
theorem t_X6_allUnordered {l : Launch} {D : va_G} {cs : Nat → ClassId} {ad : Nat → Nat} (x : XS) (g : Nat) (hg : xk g 6)  (Q : Int32 → Prop) (h : wp_X6_allUnordered x g  Q) : zMR l yX6_allUnordered wsX6_allUnordered ({ frames := 3, cells := 0, slots := 0, locals := 64 } : Room) (gK D cs) (XH D cs ad) x [.ref (ad g)] Q := by
  refine zMR_of (cc := cX6_allUnordered) (nL := 6) (ret := (some .int)) (by decide +kernel) rfl (Nat.le_of_ble_eq_true rfl) (fun C hl O hE hK hH => ?_)
  subst hl
  have hX : ∀ (x : XS) (H : Heap), z0 (XH D cs ad) C.s.heap x H → va_P D vwCl (wl 161 ad (XE cs ad x)) H := fun _ _ h => h.2
  have i6 : ∀ w ∈ wsX60, w ∈ wsX6_allUnordered := by decide +kernel
  refine z_sub (lv' := [(0, .ref (ad g))]) [0] rfl ?_
  refine z_iconst (v := 0) O dX6_allUnordered_0 rfl ?_
  refine z_istore_n (lv' := [(1, .int 0), (0, .ref (ad g))]) O dX6_allUnordered_1 (by decide) rfl ?_
  refine z_aload_n O dX6_allUnordered_2 1 rfl ?_
  refine z_getf O hK.1 (hX _) (hg).1 (xe_6 hg) rfl i6 1 (by decide) (by decide +kernel) rfl dX6_allUnordered_3 ?_
  refine z_astore_n (lv' := [(2, .ref (ad (g + 1))), (1, .int 0), (0, .ref (ad g))]) O dX6_allUnordered_6 (by decide) rfl ?_
  refine z_aload_n O dX6_allUnordered_7 0 rfl ?_
  refine z_alen (v := 6) O hK.1 (hX _) 2 ((xk_l hg)).1 (xe_22 (xk_l hg)) rfl rfl dX6_allUnordered_8 ?_
  refine z_istore_n (lv' := [(3, .int 6), (2, .ref (ad (g + 1))), (1, .int 0), (0, .ref (ad g))]) O dX6_allUnordered_9 (by decide) rfl ?_
  refine z_iconst (v := 0) O dX6_allUnordered_10 rfl ?_
  refine z_istore (lv' := [(4, .int 0), (3, .int 6), (2, .ref (ad (g + 1))), (1, .int 0), (0, .ref (ad g))]) O dX6_allUnordered_11 (by decide) rfl ?_
  obtain ⟨I13, U13, h0, hs⟩ := h
  have kI13 : ∀ (n : Nat) (y1 : Int32) (y2 : Int32), U13 y1 y2 < n → I13 y1 y2 → Z C (fun _ => False) (z0 (XH D cs ad) C.s.heap) 6 x [(1, .int y1), (2, .ref (ad (g + 1))), (3, .int 6), (4, .int y2)] 0 0 13 [] := by
    intro n
    induction n with
    | zero => intro y1 y2 uI13; exact absurd uI13 (Nat.not_lt_zero _)
    | succ n iI13 =>
      intro y1 y2 uI13 h
      have h := hs y1 y2 h
      refine z_iload O dX6_allUnordered_13 3 rfl ?_
      refine z_iload_n O dX6_allUnordered_15 2 rfl ?_
      refine z_icmp_ge O 39 dX6_allUnordered_16 (by decide) (fun c5 => ?_) (fun c5 => ?_)
      · replace h := h.1 c5
        refine z_iload_n O dX6_allUnordered_39 0 rfl ?_
        exact z_retR O hE (fun _ h => h.1) rfl dX6_allUnordered_40 h
      · replace h := h.2 c5
        refine z_aload_n O dX6_allUnordered_19 1 rfl ?_
        refine z_iload O dX6_allUnordered_20 3 rfl ?_
        have hb0 := h.1
        obtain ⟨o3, eo3⟩ : ∃ z, z = x.2.2 (g + 1) (Int32.toNatClampNeg y2) := ⟨_, rfl⟩
        have ho3 := (h.2 o3 eo3).1
        replace h := (h.2 o3 eo3).2
        refine z_aald (v := .ref (ad o3)) O hK.1 (hX _) 2 ((xk_l hg)).1 (xe_22 (xk_l hg)) rfl hb0 (by rw [eo3]; rfl) dX6_allUnordered_22 ?_
        refine z_astore (lv' := [(5, .ref (ad o3)), (1, .int y1), (2, .ref (ad (g + 1))), (3, .int 6), (4, .int y2)]) O dX6_allUnordered_23 (by decide) rfl ?_
        refine z_iload_n O dX6_allUnordered_25 1 rfl ?_
        refine z_aload O dX6_allUnordered_26 0 rfl ?_
        refine z_callR (gKs D cs) hK (fun _ h => h.2) (t_X2_unorderedPairs x o3 ho3  _ h) (zr_V (As := []) (rest := [.int y1]) O hE.1 0 gX6_allUnordered_X2_unorderedPairs rfl rfl rfl (by decide +kernel) ⟨(Nat.le_of_ble_eq_true rfl), (Nat.le_of_ble_eq_true rfl)⟩ ⟨(Nat.le_of_ble_eq_true rfl), (Nat.le_of_ble_eq_true rfl)⟩ (fun H hH => z_recv hK.1 (hX _ H hH) (ho3).1 (xe_2 ho3) rfl) rfl rfl (Nat.le_of_ble_eq_true rfl) dX6_allUnordered_28) (fun r4 h => ?_)
        refine z_iadd O dX6_allUnordered_31 ?_
        refine z_istore_n (lv' := [(1, .int (y1 + r4)), (5, .ref (ad o3)), (2, .ref (ad (g + 1))), (3, .int 6), (4, .int y2)]) O dX6_allUnordered_32 (by decide) rfl ?_
        refine z_iinc (lv' := [(4, .int (y2 + 1)), (1, .int (y1 + r4)), (5, .ref (ad o3)), (2, .ref (ad (g + 1))), (3, .int 6)]) O dX6_allUnordered_33 4 rfl rfl (by decide) rfl ?_
        refine z_goto O 13 dX6_allUnordered_36 (by decide) ?_
        exact z_sub [1, 3, 4, 0] rfl (iI13 (y1 + r4) (y2 + 1) (Nat.lt_of_lt_of_le h.2 (Nat.le_of_lt_succ uI13)) h.1)
  exact z_sub [3, 2, 1, 0] rfl (kI13 _ 0 0 (Nat.lt_succ_self _) h0)
def wp_X6_latestOf (x : XS) (g : Nat) (p1 : Int32) (Q : Int32 → Prop) : Prop :=
 (∃ (I8 : Int32 → Int32 → Int32 → Prop) (U8 : Int32 → Int32 → Int32 → Nat), I8 (-4) (-1) 0 ∧ ∀ (y1 : Int32) (y2 : Int32) (y3 : Int32), I8 y1 y2 y3 →
 ((6 ≤ y3 →
 Q y1) ∧ (¬ 6 ≤ y3 →
 (vp_in y3 6 ∧ ∀ o4 : Nat, o4 = x.2.2 (g + 1) (Int32.toNatClampNeg y3) → xk o4 2 ∧
 (∃ (I33 : Int32 → Int32 → Int32 → Prop) (U33 : Int32 → Int32 → Int32 → Nat), I33 y1 y2 ((x.1 o4 6) - 1) ∧ ∀ (y5 : Int32) (y6 : Int32) (y7 : Int32), I33 y5 y6 y7 →
 ((y7 < 0 →
 (I8 y5 y6 (y3 + 1) ∧ U8 y5 y6 (y3 + 1) < U8 y1 y2 y3)) ∧ (¬ y7 < 0 →
 wp_X2_oathAt x o4 y7 (fun r8 : Int32 =>
 ((¬ r8 = p1 →
 (I33 y5 y6 (y7 + (-1)) ∧ U33 y5 y6 (y7 + (-1)) < U33 y5 y6 y7)) ∧ (r8 = p1 →
 wp_X2_winterAt x o4 y7 (fun r9 : Int32 =>
 ((r9 ≤ y6 →
 (I33 y5 y6 (y7 + (-1)) ∧ U33 y5 y6 (y7 + (-1)) < U33 y5 y6 y7)) ∧ (¬ r9 ≤ y6 →
 wp_X2_winterAt x o4 y7 (fun r10 : Int32 =>
 (I33 ((10 * y3) + y7) r10 (y7 + (-1)) ∧ U33 ((10 * y3) + y7) r10 (y7 + (-1)) < U33 y5 y6 y7)))))))))))))))
set_option maxHeartbeats 4000000 in
set_option maxRecDepth 100000 in
theorem t_X6_latestOf {l : Launch} {D : va_G} {cs : Nat → ClassId} {ad : Nat → Nat} (x : XS) (g : Nat) (hg : xk g 6) (p1 : Int32) (Q : Int32 → Prop) (h : wp_X6_latestOf x g p1 Q) : zMR l yX6_latestOf wsX6_latestOf ({ frames := 2, cells := 0, slots := 0, locals := 42 } : Room) (gK D cs) (XH D cs ad) x [.ref (ad g), .int p1] Q := by
  refine zMR_of (cc := cX6_latestOf) (nL := 7) (ret := (some .int)) (by decide +kernel) rfl (Nat.le_of_ble_eq_true rfl) (fun C hl O hE hK hH => ?_)
  subst hl
  have hX : ∀ (x : XS) (H : Heap), z0 (XH D cs ad) C.s.heap x H → va_P D vwCl (wl 161 ad (XE cs ad x)) H := fun _ _ h => h.2
  have i2 : ∀ w ∈ wsX20, w ∈ wsX6_latestOf := by decide +kernel
  have i6 : ∀ w ∈ wsX60, w ∈ wsX6_latestOf := by decide +kernel
  refine z_sub (lv' := [(0, .ref (ad g)), (1, .int p1)]) [0, 1] rfl ?_
  refine z_bipush (v := -4) O dX6_latestOf_0 rfl ?_
  refine z_istore_n (lv' := [(2, .int (-4)), (0, .ref (ad g)), (1, .int p1)]) O dX6_latestOf_2 (by decide) rfl ?_
  refine z_iconst (v := -1) O dX6_latestOf_3 rfl ?_
  refine z_istore_n (lv' := [(3, .int (-1)), (2, .int (-4)), (0, .ref (ad g)), (1, .int p1)]) O dX6_latestOf_4 (by decide) rfl ?_
  refine z_iconst (v := 0) O dX6_latestOf_5 rfl ?_
  refine z_istore (lv' := [(4, .int 0), (3, .int (-1)), (2, .int (-4)), (0, .ref (ad g)), (1, .int p1)]) O dX6_latestOf_6 (by decide) rfl ?_
  obtain ⟨I8, U8, h0, hs⟩ := h
  have kI8 : ∀ (n : Nat) (y1 : Int32) (y2 : Int32) (y3 : Int32), U8 y1 y2 y3 < n → I8 y1 y2 y3 → Z C (fun _ => False) (z0 (XH D cs ad) C.s.heap) 7 x [(0, .ref (ad g)), (1, .int p1), (2, .int y1), (3, .int y2), (4, .int y3)] 0 0 8 [] := by
    intro n
    induction n with
    | zero => intro y1 y2 y3 uI8; exact absurd uI8 (Nat.not_lt_zero _)
    | succ n iI8 =>
      intro y1 y2 y3 uI8 h
      have h := hs y1 y2 y3 h
      refine z_iload O dX6_latestOf_8 4 rfl ?_
      refine z_bipush (v := 6) O dX6_latestOf_10 rfl ?_
      refine z_icmp_ge O 89 dX6_latestOf_12 (by decide) (fun c14 => ?_) (fun c14 => ?_)
      · replace h := h.1 c14
        refine z_iload_n O dX6_latestOf_89 2 rfl ?_
        exact z_retR O hE (fun _ h => h.1) rfl dX6_latestOf_90 h
      · replace h := h.2 c14
        refine z_aload_n O dX6_latestOf_15 0 rfl ?_
        refine z_getf O hK.1 (hX _) (hg).1 (xe_6 hg) rfl i6 1 (by decide) (by decide +kernel) rfl dX6_latestOf_16 ?_
        refine z_iload O dX6_latestOf_19 4 rfl ?_
        have hb0 := h.1
        obtain ⟨o4, eo4⟩ : ∃ z, z = x.2.2 (g + 1) (Int32.toNatClampNeg y3) := ⟨_, rfl⟩
        have ho4 := (h.2 o4 eo4).1
        replace h := (h.2 o4 eo4).2
        refine z_aald (v := .ref (ad o4)) O hK.1 (hX _) 2 ((xk_l hg)).1 (xe_22 (xk_l hg)) rfl hb0 (by rw [eo4]; rfl) dX6_latestOf_21 ?_
        refine z_astore (lv' := [(5, .ref (ad o4)), (0, .ref (ad g)), (1, .int p1), (2, .int y1), (3, .int y2), (4, .int y3)]) O dX6_latestOf_22 (by decide) rfl ?_
        refine z_aload O dX6_latestOf_24 0 rfl ?_
        refine z_getfN O hK.1 (hX _) (ho4).1 (xe_2 ho4) rfl i2 6 (by decide) (hK.2.1 _ (List.mem_of_getElem? (i := 0) rfl)) rfl dX6_latestOf_26 ?_
        refine z_iconst (v := 1) O dX6_latestOf_29 rfl ?_
        refine z_isub O dX6_latestOf_30 ?_
        refine z_istore (lv' := [(6, .int ((x.1 o4 6) - 1)), (5, .ref (ad o4)), (0, .ref (ad g)), (1, .int p1), (2, .int y1), (3, .int y2), (4, .int y3)]) O dX6_latestOf_31 (by decide) rfl ?_
        obtain ⟨I33, U33, h0, hs⟩ := h
        have kI33 : ∀ (n : Nat) (y5 : Int32) (y6 : Int32) (y7 : Int32), U33 y5 y6 y7 < n → I33 y5 y6 y7 → Z C (fun _ => False) (z0 (XH D cs ad) C.s.heap) 7 x [(0, .ref (ad g)), (1, .int p1), (2, .int y5), (3, .int y6), (4, .int y3), (5, .ref (ad o4)), (6, .int y7)] 0 0 33 [] := by
          intro n
          induction n with
          | zero => intro y5 y6 y7 uI33; exact absurd uI33 (Nat.not_lt_zero _)
          | succ n iI33 =>
            intro y5 y6 y7 uI33 h
            have h := hs y5 y6 y7 h
            refine z_iload O dX6_latestOf_33 6 rfl ?_
            refine z_if_lt O 83 dX6_latestOf_35 (by decide) (fun c13 => ?_) (fun c13 => ?_)
            · replace h := h.1 c13
              refine z_iinc (lv' := [(4, .int (y3 + 1)), (0, .ref (ad g)), (1, .int p1), (2, .int y5), (3, .int y6), (5, .ref (ad o4)), (6, .int y7)]) O dX6_latestOf_83 4 rfl rfl (by decide) rfl ?_
              refine z_goto O 8 dX6_latestOf_86 (by decide) ?_
              exact z_sub [1, 2, 3, 4, 0] rfl (iI8 y5 y6 (y3 + 1) (Nat.lt_of_lt_of_le h.2 (Nat.le_of_lt_succ uI8)) h.1)
            · replace h := h.2 c13
              refine z_aload O dX6_latestOf_38 5 rfl ?_
              refine z_iload O dX6_latestOf_40 6 rfl ?_
              refine z_callR (gKs D cs) hK (fun _ h => h.2) (t_X2_oathAt x o4 ho4 y7 _ h) (zr_V (As := [.int y7]) (rest := []) O hE.1 1 gX6_latestOf_X2_oathAt rfl rfl rfl (by decide +kernel) ⟨(Nat.le_of_ble_eq_true rfl), (Nat.le_of_ble_eq_true rfl)⟩ ⟨(Nat.le_of_ble_eq_true rfl), (Nat.le_of_ble_eq_true rfl)⟩ (fun H hH => z_recv hK.1 (hX _ H hH) (ho4).1 (xe_2 ho4) rfl) rfl rfl (Nat.le_of_ble_eq_true rfl) dX6_latestOf_42) (fun r8 h => ?_)
              refine z_iload_n O dX6_latestOf_45 1 rfl ?_
              refine z_icmp_ne O 77 dX6_latestOf_46 (by decide) (fun c12 => ?_) (fun c12 => ?_)
              · replace h := h.1 c12
                refine z_iinc (lv' := [(6, .int (y7 + (-1))), (0, .ref (ad g)), (1, .int p1), (2, .int y5), (3, .int y6), (4, .int y3), (5, .ref (ad o4))]) O dX6_latestOf_77 6 rfl rfl (by decide) rfl ?_
                refine z_goto O 33 dX6_latestOf_80 (by decide) ?_
                exact z_sub [1, 2, 3, 4, 5, 6, 0] rfl (iI33 y5 y6 (y7 + (-1)) (Nat.lt_of_lt_of_le h.2 (Nat.le_of_lt_succ uI33)) h.1)
              · replace h := h.2 c12
                refine z_aload O dX6_latestOf_49 5 rfl ?_
                refine z_iload O dX6_latestOf_51 6 rfl ?_
                refine z_callR (gKs D cs) hK (fun _ h => h.2) (t_X2_winterAt x o4 ho4 y7 _ h) (zr_V (As := [.int y7]) (rest := []) O hE.1 1 gX6_latestOf_X2_winterAt rfl rfl rfl (by decide +kernel) ⟨(Nat.le_of_ble_eq_true rfl), (Nat.le_of_ble_eq_true rfl)⟩ ⟨(Nat.le_of_ble_eq_true rfl), (Nat.le_of_ble_eq_true rfl)⟩ (fun H hH => z_recv hK.1 (hX _ H hH) (ho4).1 (xe_2 ho4) rfl) rfl rfl (Nat.le_of_ble_eq_true rfl) dX6_latestOf_53) (fun r9 h => ?_)
                refine z_iload_n O dX6_latestOf_56 3 rfl ?_
                refine z_icmp_le O 77 dX6_latestOf_57 (by decide) (fun c11 => ?_) (fun c11 => ?_)
                · replace h := h.1 c11
                  refine z_iinc (lv' := [(6, .int (y7 + (-1))), (0, .ref (ad g)), (1, .int p1), (2, .int y5), (3, .int y6), (4, .int y3), (5, .ref (ad o4))]) O dX6_latestOf_77 6 rfl rfl (by decide) rfl ?_
                  refine z_goto O 33 dX6_latestOf_80 (by decide) ?_
                  exact z_sub [1, 2, 3, 4, 5, 6, 0] rfl (iI33 y5 y6 (y7 + (-1)) (Nat.lt_of_lt_of_le h.2 (Nat.le_of_lt_succ uI33)) h.1)
                · replace h := h.2 c11
                  refine z_bipush (v := 10) O dX6_latestOf_60 rfl ?_
                  refine z_iload O dX6_latestOf_62 4 rfl ?_
                  refine z_imul O dX6_latestOf_64 ?_
                  refine z_iload O dX6_latestOf_65 6 rfl ?_
                  refine z_iadd O dX6_latestOf_67 ?_
                  refine z_istore_n (lv' := [(2, .int ((10 * y3) + y7)), (0, .ref (ad g)), (1, .int p1), (3, .int y6), (4, .int y3), (5, .ref (ad o4)), (6, .int y7)]) O dX6_latestOf_68 (by decide) rfl ?_
                  refine z_aload O dX6_latestOf_69 5 rfl ?_
                  refine z_iload O dX6_latestOf_71 6 rfl ?_
                  refine z_callR (gKs D cs) hK (fun _ h => h.2) (t_X2_winterAt x o4 ho4 y7 _ h) (zr_V (As := [.int y7]) (rest := []) O hE.1 1 gX6_latestOf_X2_winterAt rfl rfl rfl (by decide +kernel) ⟨(Nat.le_of_ble_eq_true rfl), (Nat.le_of_ble_eq_true rfl)⟩ ⟨(Nat.le_of_ble_eq_true rfl), (Nat.le_of_ble_eq_true rfl)⟩ (fun H hH => z_recv hK.1 (hX _ H hH) (ho4).1 (xe_2 ho4) rfl) rfl rfl (Nat.le_of_ble_eq_true rfl) dX6_latestOf_73) (fun r10 h => ?_)
                  refine z_istore_n (lv' := [(3, .int r10), (2, .int ((10 * y3) + y7)), (0, .ref (ad g)), (1, .int p1), (4, .int y3), (5, .ref (ad o4)), (6, .int y7)]) O dX6_latestOf_76 (by decide) rfl ?_
                  refine z_iinc (lv' := [(6, .int (y7 + (-1))), (3, .int r10), (2, .int ((10 * y3) + y7)), (0, .ref (ad g)), (1, .int p1), (4, .int y3), (5, .ref (ad o4))]) O dX6_latestOf_77 6 rfl rfl (by decide) rfl ?_
                  refine z_goto O 33 dX6_latestOf_80 (by decide) ?_
                  exact z_sub [3, 4, 2, 1, 5, 6, 0] rfl (iI33 ((10 * y3) + y7) r10 (y7 + (-1)) (Nat.lt_of_lt_of_le h.2 (Nat.le_of_lt_succ uI33)) h.1)
        exact z_sub [2, 3, 4, 5, 6, 1, 0] rfl (kI33 _ y1 y2 ((x.1 o4 6) - 1) (Nat.lt_succ_self _) h0)
  exact z_sub [3, 4, 2, 1, 0] rfl (kI8 _ (-4) (-1) 0 (Nat.lt_succ_self _) h0)
def wp_X6_tellSeen (x : XS) (g : Nat) (q2 : Nat) (p1 : Int32) (Q : XS → Prop) : Prop :=
 (∃ (I2 : Int32 → XS → Prop) (U2 : Int32 → XS → Nat), I2 0 x ∧ ∀ (y1 : Int32) (x2 : XS), I2 y1 x2 →
 ((6 ≤ y1 →
 Q x2) ∧ (¬ 6 ≤ y1 →
 (((Int32.ofNat (xlen q2)) ≤ y1 →
 Q x2) ∧ (¬ (Int32.ofNat (xlen q2)) ≤ y1 →
 (vp_in y1 6 ∧ ∀ o3 : Nat, o3 = x2.2.2 (g + 1) (Int32.toNatClampNeg y1) → xk o3 2 ∧
 wp_X2_oathsSeen x2 o3 p1 (fun r4 : Int32 =>
 (vp_in y1 (xlen q2) ∧
 ∀ x5 : XS, x5 = xA x2 q2 (upd (x2.2.1 q2) (Int32.toNatClampNeg y1) r4) →
 (I2 (y1 + 1) x5 ∧ U2 (y1 + 1) x5 < U2 y1 x2)))))))))
set_option maxHeartbeats 4000000 in
set_option maxRecDepth 100000 in
theorem t_X6_tellSeen {l : Launch} {D : va_G} {cs : Nat → ClassId} {ad : Nat → Nat} (hI : wInj 161 ad) (x : XS) (g : Nat) (hg : xk g 6) (q2 : Nat) (hq2 : xk q2 20) (p1 : Int32) (Q : XS → Prop) (h : wp_X6_tellSeen x g q2 p1 Q) : zWV l yX6_tellSeen wsX6_tellSeen ({ frames := 3, cells := 0, slots := 0, locals := 67 } : Room) (gK D cs) (XH D cs ad) (wB 161 ad) x [.ref (ad g), .int p1, .ref (ad q2)] 0 0 Q := by
  refine zWV_of (cc := cX6_tellSeen) (nL := 4) (ret := none) (by decide +kernel) rfl (Nat.le_of_ble_eq_true rfl) (fun C hl O hE hK => ?_)
  subst hl
  have hX : ∀ (x : XS) (H : Heap), XH D cs ad x H → va_P D vwCl (wl 161 ad (XE cs ad x)) H := fun _ _ h => h
  have hB : ∀ {x : XS} (H : Heap), va_P D vwCl (wl 161 ad (XE cs ad x)) H → XH D cs ad x H := fun _ h => h
  have hA : ∀ q, wB 161 ad q → zA (wB 161 ad) C.s.heap.size q := fun _ h => Or.inl h
  have i6 : ∀ w ∈ wsX60, w ∈ wsX6_tellSeen := by decide +kernel
  refine z_sub (lv' := [(0, .ref (ad g)), (1, .int p1), (2, .ref (ad q2))]) [0, 1, 2] rfl ?_
  refine z_iconst (v := 0) O dX6_tellSeen_0 rfl ?_
  refine z_istore_n (lv' := [(3, .int 0), (0, .ref (ad g)), (1, .int p1), (2, .ref (ad q2))]) O dX6_tellSeen_1 (by decide) rfl ?_
  obtain ⟨I2, U2, h0, hs⟩ := h
  have kI2 : ∀ (n : Nat) (y1 : Int32) (x2 : XS), U2 y1 x2 < n → I2 y1 x2 → Z C (zA (wB 161 ad) C.s.heap.size) (XH D cs ad) 4 x2 [(0, .ref (ad g)), (1, .int p1), (2, .ref (ad q2)), (3, .int y1)] 0 0 2 [] := by
    intro n
    induction n with
    | zero => intro y1 x2 uI2; exact absurd uI2 (Nat.not_lt_zero _)
    | succ n iI2 =>
      intro y1 x2 uI2 h
      have h := hs y1 x2 h
      refine z_iload_n O dX6_tellSeen_2 3 rfl ?_
      refine z_bipush (v := 6) O dX6_tellSeen_3 rfl ?_
      refine z_icmp_ge O 33 dX6_tellSeen_5 (by decide) (fun c7 => ?_) (fun c7 => ?_)
      · replace h := h.1 c7
        exact z_retWV O hE (Nat.le_of_ble_eq_true rfl) (Nat.le_of_ble_eq_true rfl) dX6_tellSeen_33 h
      · replace h := h.2 c7
        refine z_iload_n O dX6_tellSeen_8 3 rfl ?_
        refine z_aload_n O dX6_tellSeen_9 2 rfl ?_
        refine z_alen (v := Int32.ofNat (xlen q2)) O hK.1 (hX _) 0 (hq2).1 (xe_20 hq2) rfl (show Int32.ofNat (xlen q2) = Int32.ofNat (xlen q2) from rfl) dX6_tellSeen_10 ?_
        refine z_icmp_ge O 33 dX6_tellSeen_11 (by decide) (fun c6 => ?_) (fun c6 => ?_)
        · replace h := h.1 c6
          exact z_retWV O hE (Nat.le_of_ble_eq_true rfl) (Nat.le_of_ble_eq_true rfl) dX6_tellSeen_33 h
        · replace h := h.2 c6
          refine z_aload_n O dX6_tellSeen_14 2 rfl ?_
          refine z_iload_n O dX6_tellSeen_15 3 rfl ?_
          refine z_aload_n O dX6_tellSeen_16 0 rfl ?_
          refine z_getf O hK.1 (hX _) (hg).1 (xe_6 hg) rfl i6 1 (by decide) (by decide +kernel) rfl dX6_tellSeen_17 ?_
          refine z_iload_n O dX6_tellSeen_20 3 rfl ?_
          have hb0 := h.1
          obtain ⟨o3, eo3⟩ : ∃ z, z = x2.2.2 (g + 1) (Int32.toNatClampNeg y1) := ⟨_, rfl⟩
          have ho3 := (h.2 o3 eo3).1
          replace h := (h.2 o3 eo3).2
          refine z_aald (v := .ref (ad o3)) O hK.1 (hX _) 2 ((xk_l hg)).1 (xe_22 (xk_l hg)) rfl hb0 (by rw [eo3]; rfl) dX6_tellSeen_21 ?_
          refine z_iload_n O dX6_tellSeen_22 1 rfl ?_
          refine z_callR (gKs D cs) hK (fun _ h => h) (t_X2_oathsSeen x2 o3 ho3 p1 _ h) (zr_V (As := [.int p1]) (rest := [.int y1, .ref (ad q2)]) O hE.1 1 gX6_tellSeen_X2_oathsSeen rfl rfl rfl (by decide +kernel) ⟨(Nat.le_of_ble_eq_true rfl), (Nat.le_of_ble_eq_true rfl)⟩ ⟨(Nat.le_of_ble_eq_true rfl), (Nat.le_of_ble_eq_true rfl)⟩ (fun H hH => z_recv hK.1 (hX _ H hH) (ho3).1 (xe_2 ho3) rfl) rfl rfl (Nat.le_of_ble_eq_true rfl) dX6_tellSeen_23) (fun r4 h => ?_)
          have hb0 := h.1
          replace h := h.2
          obtain ⟨x5, ex5⟩ : ∃ z, z = xA x2 q2 (upd (x2.2.1 q2) (Int32.toNatClampNeg y1) r4) := ⟨_, rfl⟩
          replace h := h x5 ex5
          refine z_iast (x' := x5) O hK.1 (hX _) hB hI hA 0 (hq2).1 (xe_20 hq2) rfl hb0 (by rw [ex5]; exact xe_setA hq2 _) dX6_tellSeen_26 ?_
          refine z_iinc (lv' := [(3, .int (y1 + 1)), (0, .ref (ad g)), (1, .int p1), (2, .ref (ad q2))]) O dX6_tellSeen_27 3 rfl rfl (by decide) rfl ?_
          refine z_goto O 2 dX6_tellSeen_30 (by decide) ?_
          exact z_sub [1, 2, 3, 0] rfl (iI2 (y1 + 1) x5 (Nat.lt_of_lt_of_le h.2 (Nat.le_of_lt_succ uI2)) h.1)
  exact z_sub [1, 2, 3, 0] rfl (kI2 _ 0 x (Nat.lt_succ_self _) h0)
def wp_X6_cellsWith (x : XS) (g : Nat) (p1 : Int32) (p2 : Int32) (Q : Int32 → Prop) : Prop :=
 (∃ (I5 : Int32 → Int32 → Prop) (U5 : Int32 → Int32 → Nat), I5 0 0 ∧ ∀ (y1 : Int32) (y2 : Int32), I5 y1 y2 →
 ((6 ≤ y2 →
 Q y1) ∧ (¬ 6 ≤ y2 →
 (vp_in y2 6 ∧ ∀ o3 : Nat, o3 = x.2.2 (g + 1) (Int32.toNatClampNeg y2) → xk o3 2 ∧
 wp_X2_keepsOath x o3 p1 p2 (fun r4 : Int32 =>
 ((r4 = 0 →
 (I5 y1 (y2 + 1) ∧ U5 y1 (y2 + 1) < U5 y1 y2)) ∧ (¬ r4 = 0 →
 (I5 (y1 ||| (1 <<< (y2 &&& 31))) (y2 + 1) ∧ U5 (y1 ||| (1 <<< (y2 &&& 31))) (y2 + 1) < U5 y1 y2))))))))
set_option maxHeartbeats 4000000 in
set_option maxRecDepth 100000 in
theorem t_X6_cellsWith {l : Launch} {D : va_G} {cs : Nat → ClassId} {ad : Nat → Nat} (x : XS) (g : Nat) (hg : xk g 6) (p1 : Int32) (p2 : Int32) (Q : Int32 → Prop) (h : wp_X6_cellsWith x g p1 p2 Q) : zMR l yX6_cellsWith wsX6_cellsWith ({ frames := 4, cells := 0, slots := 0, locals := 89 } : Room) (gK D cs) (XH D cs ad) x [.ref (ad g), .int p1, .int p2] Q := by
  refine zMR_of (cc := cX6_cellsWith) (nL := 5) (ret := (some .int)) (by decide +kernel) rfl (Nat.le_of_ble_eq_true rfl) (fun C hl O hE hK hH => ?_)
  subst hl
  have hX : ∀ (x : XS) (H : Heap), z0 (XH D cs ad) C.s.heap x H → va_P D vwCl (wl 161 ad (XE cs ad x)) H := fun _ _ h => h.2
  have i6 : ∀ w ∈ wsX60, w ∈ wsX6_cellsWith := by decide +kernel
  refine z_sub (lv' := [(0, .ref (ad g)), (1, .int p1), (2, .int p2)]) [0, 1, 2] rfl ?_
  refine z_iconst (v := 0) O dX6_cellsWith_0 rfl ?_
  refine z_istore_n (lv' := [(3, .int 0), (0, .ref (ad g)), (1, .int p1), (2, .int p2)]) O dX6_cellsWith_1 (by decide) rfl ?_
  refine z_iconst (v := 0) O dX6_cellsWith_2 rfl ?_
  refine z_istore (lv' := [(4, .int 0), (3, .int 0), (0, .ref (ad g)), (1, .int p1), (2, .int p2)]) O dX6_cellsWith_3 (by decide) rfl ?_
  obtain ⟨I5, U5, h0, hs⟩ := h
  have kI5 : ∀ (n : Nat) (y1 : Int32) (y2 : Int32), U5 y1 y2 < n → I5 y1 y2 → Z C (fun _ => False) (z0 (XH D cs ad) C.s.heap) 5 x [(0, .ref (ad g)), (1, .int p1), (2, .int p2), (3, .int y1), (4, .int y2)] 0 0 5 [] := by
    intro n
    induction n with
    | zero => intro y1 y2 uI5; exact absurd uI5 (Nat.not_lt_zero _)
    | succ n iI5 =>
      intro y1 y2 uI5 h
      have h := hs y1 y2 h
      refine z_iload O dX6_cellsWith_5 4 rfl ?_
      refine z_bipush (v := 6) O dX6_cellsWith_7 rfl ?_
      refine z_icmp_ge O 40 dX6_cellsWith_9 (by decide) (fun c6 => ?_) (fun c6 => ?_)
      · replace h := h.1 c6
        refine z_iload_n O dX6_cellsWith_40 3 rfl ?_
        exact z_retR O hE (fun _ h => h.1) rfl dX6_cellsWith_41 h
      · replace h := h.2 c6
        refine z_aload_n O dX6_cellsWith_12 0 rfl ?_
        refine z_getf O hK.1 (hX _) (hg).1 (xe_6 hg) rfl i6 1 (by decide) (by decide +kernel) rfl dX6_cellsWith_13 ?_
        refine z_iload O dX6_cellsWith_16 4 rfl ?_
        have hb0 := h.1
        obtain ⟨o3, eo3⟩ : ∃ z, z = x.2.2 (g + 1) (Int32.toNatClampNeg y2) := ⟨_, rfl⟩
        have ho3 := (h.2 o3 eo3).1
        replace h := (h.2 o3 eo3).2
        refine z_aald (v := .ref (ad o3)) O hK.1 (hX _) 2 ((xk_l hg)).1 (xe_22 (xk_l hg)) rfl hb0 (by rw [eo3]; rfl) dX6_cellsWith_18 ?_
        refine z_iload_n O dX6_cellsWith_19 1 rfl ?_
        refine z_iload_n O dX6_cellsWith_20 2 rfl ?_
        refine z_callR (gKs D cs) hK (fun _ h => h.2) (t_X2_keepsOath x o3 ho3 p1 p2 _ h) (zr_V (As := [.int p1, .int p2]) (rest := []) O hE.1 2 gX6_cellsWith_X2_keepsOath rfl rfl rfl (by decide +kernel) ⟨(Nat.le_of_ble_eq_true rfl), (Nat.le_of_ble_eq_true rfl)⟩ ⟨(Nat.le_of_ble_eq_true rfl), (Nat.le_of_ble_eq_true rfl)⟩ (fun H hH => z_recv hK.1 (hX _ H hH) (ho3).1 (xe_2 ho3) rfl) rfl rfl (Nat.le_of_ble_eq_true rfl) dX6_cellsWith_21) (fun r4 h => ?_)
        refine z_if_eq O 34 dX6_cellsWith_24 (by decide) (fun c5 => ?_) (fun c5 => ?_)
        · replace h := h.1 c5
          refine z_iinc (lv' := [(4, .int (y2 + 1)), (0, .ref (ad g)), (1, .int p1), (2, .int p2), (3, .int y1)]) O dX6_cellsWith_34 4 rfl rfl (by decide) rfl ?_
          refine z_goto O 5 dX6_cellsWith_37 (by decide) ?_
          exact z_sub [1, 2, 3, 4, 0] rfl (iI5 y1 (y2 + 1) (Nat.lt_of_lt_of_le h.2 (Nat.le_of_lt_succ uI5)) h.1)
        · replace h := h.2 c5
          refine z_iload_n O dX6_cellsWith_27 3 rfl ?_
          refine z_iconst (v := 1) O dX6_cellsWith_28 rfl ?_
          refine z_iload O dX6_cellsWith_29 4 rfl ?_
          refine z_ishl O dX6_cellsWith_31 ?_
          refine z_ior O dX6_cellsWith_32 ?_
          refine z_istore_n (lv' := [(3, .int (y1 ||| (1 <<< (y2 &&& 31)))), (0, .ref (ad g)), (1, .int p1), (2, .int p2), (4, .int y2)]) O dX6_cellsWith_33 (by decide) rfl ?_
          refine z_iinc (lv' := [(4, .int (y2 + 1)), (3, .int (y1 ||| (1 <<< (y2 &&& 31)))), (0, .ref (ad g)), (1, .int p1), (2, .int p2)]) O dX6_cellsWith_34 4 rfl rfl (by decide) rfl ?_
          refine z_goto O 5 dX6_cellsWith_37 (by decide) ?_
          exact z_sub [2, 3, 4, 1, 0] rfl (iI5 (y1 ||| (1 <<< (y2 &&& 31))) (y2 + 1) (Nat.lt_of_lt_of_le h.2 (Nat.le_of_lt_succ uI5)) h.1)
  exact z_sub [2, 3, 4, 1, 0] rfl (kI5 _ 0 0 (Nat.lt_succ_self _) h0)
def wp_X6_isThin (x : XS) (g : Nat) (p1 : Int32) (p2 : Int32) (Q : Int32 → Prop) : Prop :=
 (vp_in p1 6 ∧ ∀ o1 : Nat, o1 = x.2.2 (g + 1) (Int32.toNatClampNeg p1) → xk o1 2 ∧
 (vp_in (((p1 + 6) - 1) - ((p1 + 6) - 1) / 6 * 6) 6 ∧ ∀ o2 : Nat, o2 = x.2.2 (g + 1) (Int32.toNatClampNeg (((p1 + 6) - 1) - ((p1 + 6) - 1) / 6 * 6)) → xk o2 2 ∧
 (vp_in ((p1 + 1) - (p1 + 1) / 6 * 6) 6 ∧ ∀ o3 : Nat, o3 = x.2.2 (g + 1) (Int32.toNatClampNeg ((p1 + 1) - (p1 + 1) / 6 * 6)) → xk o3 2 ∧
 wp_X2_winterAt x o1 p2 (fun r4 : Int32 =>
 wp_X2_thickAt x o1 p2 (fun r5 : Int32 =>
 wp_X2_lowestThickOf x o2 r4 (fun r6 : Int32 =>
 ((r6 < (r5 + 2) →
 Q 0) ∧ (¬ r6 < (r5 + 2) →
 wp_X2_lowestThickOf x o3 r4 (fun r7 : Int32 =>
 ((r7 < (r5 + 2) →
 Q 0) ∧ (¬ r7 < (r5 + 2) →
 Q 1)))))))))))
set_option maxHeartbeats 4000000 in
set_option maxRecDepth 100000 in
theorem t_X6_isThin {l : Launch} {D : va_G} {cs : Nat → ClassId} {ad : Nat → Nat} (x : XS) (g : Nat) (hg : xk g 6) (p1 : Int32) (p2 : Int32) (Q : Int32 → Prop) (h : wp_X6_isThin x g p1 p2 Q) : zMR l yX6_isThin wsX6_isThin ({ frames := 3, cells := 0, slots := 0, locals := 64 } : Room) (gK D cs) (XH D cs ad) x [.ref (ad g), .int p1, .int p2] Q := by
  refine zMR_of (cc := cX6_isThin) (nL := 8) (ret := (some .boolean)) (by decide +kernel) rfl (Nat.le_of_ble_eq_true rfl) (fun C hl O hE hK hH => ?_)
  subst hl
  have hX : ∀ (x : XS) (H : Heap), z0 (XH D cs ad) C.s.heap x H → va_P D vwCl (wl 161 ad (XE cs ad x)) H := fun _ _ h => h.2
  have i6 : ∀ w ∈ wsX60, w ∈ wsX6_isThin := by decide +kernel
  refine z_sub (lv' := [(0, .ref (ad g)), (1, .int p1), (2, .int p2)]) [0, 1, 2] rfl ?_
  refine z_aload_n O dX6_isThin_0 0 rfl ?_
  refine z_getf O hK.1 (hX _) (hg).1 (xe_6 hg) rfl i6 1 (by decide) (by decide +kernel) rfl dX6_isThin_1 ?_
  refine z_iload_n O dX6_isThin_4 1 rfl ?_
  have hb0 := h.1
  obtain ⟨o1, eo1⟩ : ∃ z, z = x.2.2 (g + 1) (Int32.toNatClampNeg p1) := ⟨_, rfl⟩
  have ho1 := (h.2 o1 eo1).1
  replace h := (h.2 o1 eo1).2
  refine z_aald (v := .ref (ad o1)) O hK.1 (hX _) 2 ((xk_l hg)).1 (xe_22 (xk_l hg)) rfl hb0 (by rw [eo1]; rfl) dX6_isThin_5 ?_
  refine z_astore_n (lv' := [(3, .ref (ad o1)), (0, .ref (ad g)), (1, .int p1), (2, .int p2)]) O dX6_isThin_6 (by decide) rfl ?_
  refine z_aload_n O dX6_isThin_7 1 rfl ?_
  refine z_getf O hK.1 (hX _) (hg).1 (xe_6 hg) rfl i6 1 (by decide) (by decide +kernel) rfl dX6_isThin_8 ?_
  refine z_iload_n O dX6_isThin_11 2 rfl ?_
  refine z_bipush (v := 6) O dX6_isThin_12 rfl ?_
  refine z_iadd O dX6_isThin_14 ?_
  refine z_iconst (v := 1) O dX6_isThin_15 rfl ?_
  refine z_isub O dX6_isThin_16 ?_
  refine z_bipush (v := 6) O dX6_isThin_17 rfl ?_
  refine z_irem O dX6_isThin_19 (by decide) ?_
  have hb0 := h.1
  obtain ⟨o2, eo2⟩ : ∃ z, z = x.2.2 (g + 1) (Int32.toNatClampNeg (((p1 + 6) - 1) - ((p1 + 6) - 1) / 6 * 6)) := ⟨_, rfl⟩
  have ho2 := (h.2 o2 eo2).1
  replace h := (h.2 o2 eo2).2
  refine z_aald (v := .ref (ad o2)) O hK.1 (hX _) 2 ((xk_l hg)).1 (xe_22 (xk_l hg)) rfl hb0 (by rw [eo2]; rfl) dX6_isThin_20 ?_
  refine z_astore (lv' := [(4, .ref (ad o2)), (3, .ref (ad o1)), (0, .ref (ad g)), (1, .int p1), (2, .int p2)]) O dX6_isThin_21 (by decide) rfl ?_
  refine z_aload_n O dX6_isThin_23 2 rfl ?_
  refine z_getf O hK.1 (hX _) (hg).1 (xe_6 hg) rfl i6 1 (by decide) (by decide +kernel) rfl dX6_isThin_24 ?_
  refine z_iload_n O dX6_isThin_27 3 rfl ?_
  refine z_iconst (v := 1) O dX6_isThin_28 rfl ?_
  refine z_iadd O dX6_isThin_29 ?_
  refine z_bipush (v := 6) O dX6_isThin_30 rfl ?_
  refine z_irem O dX6_isThin_32 (by decide) ?_
  have hb0 := h.1
  obtain ⟨o3, eo3⟩ : ∃ z, z = x.2.2 (g + 1) (Int32.toNatClampNeg ((p1 + 1) - (p1 + 1) / 6 * 6)) := ⟨_, rfl⟩
  have ho3 := (h.2 o3 eo3).1
  replace h := (h.2 o3 eo3).2
  refine z_aald (v := .ref (ad o3)) O hK.1 (hX _) 2 ((xk_l hg)).1 (xe_22 (xk_l hg)) rfl hb0 (by rw [eo3]; rfl) dX6_isThin_33 ?_
  refine z_astore (lv' := [(5, .ref (ad o3)), (4, .ref (ad o2)), (3, .ref (ad o1)), (0, .ref (ad g)), (1, .int p1), (2, .int p2)]) O dX6_isThin_34 (by decide) rfl ?_
  refine z_aload_n O dX6_isThin_36 2 rfl ?_
  refine z_iload_n O dX6_isThin_37 5 rfl ?_
  refine z_callR (gKs D cs) hK (fun _ h => h.2) (t_X2_winterAt x o1 ho1 p2 _ h) (zr_V (As := [.int p2]) (rest := []) O hE.1 1 gX6_isThin_X2_winterAt rfl rfl rfl (by decide +kernel) ⟨(Nat.le_of_ble_eq_true rfl), (Nat.le_of_ble_eq_true rfl)⟩ ⟨(Nat.le_of_ble_eq_true rfl), (Nat.le_of_ble_eq_true rfl)⟩ (fun H hH => z_recv hK.1 (hX _ H hH) (ho1).1 (xe_2 ho1) rfl) rfl rfl (Nat.le_of_ble_eq_true rfl) dX6_isThin_38) (fun r4 h => ?_)
  refine z_istore (lv' := [(6, .int r4), (5, .ref (ad o3)), (4, .ref (ad o2)), (3, .ref (ad o1)), (0, .ref (ad g)), (1, .int p1), (2, .int p2)]) O dX6_isThin_41 (by decide) rfl ?_
  refine z_aload_n O dX6_isThin_43 3 rfl ?_
  refine z_iload_n O dX6_isThin_44 6 rfl ?_
  refine z_callR (gKs D cs) hK (fun _ h => h.2) (t_X2_thickAt x o1 ho1 p2 _ h) (zr_V (As := [.int p2]) (rest := []) O hE.1 1 gX6_isThin_X2_thickAt rfl rfl rfl (by decide +kernel) ⟨(Nat.le_of_ble_eq_true rfl), (Nat.le_of_ble_eq_true rfl)⟩ ⟨(Nat.le_of_ble_eq_true rfl), (Nat.le_of_ble_eq_true rfl)⟩ (fun H hH => z_recv hK.1 (hX _ H hH) (ho1).1 (xe_2 ho1) rfl) rfl rfl (Nat.le_of_ble_eq_true rfl) dX6_isThin_45) (fun r5 h => ?_)
  refine z_iconst (v := 2) O dX6_isThin_48 rfl ?_
  refine z_iadd O dX6_isThin_49 ?_
  refine z_istore (lv' := [(7, .int (r5 + 2)), (6, .int r4), (5, .ref (ad o3)), (4, .ref (ad o2)), (3, .ref (ad o1)), (0, .ref (ad g)), (1, .int p1), (2, .int p2)]) O dX6_isThin_50 (by decide) rfl ?_
  refine z_aload O dX6_isThin_52 3 rfl ?_
  refine z_iload O dX6_isThin_54 1 rfl ?_
  refine z_callR (gKs D cs) hK (fun _ h => h.2) (t_X2_lowestThickOf x o2 ho2 r4 _ h) (zr_V (As := [.int r4]) (rest := []) O hE.1 1 gX6_isThin_X2_lowestThickOf rfl rfl rfl (by decide +kernel) ⟨(Nat.le_of_ble_eq_true rfl), (Nat.le_of_ble_eq_true rfl)⟩ ⟨(Nat.le_of_ble_eq_true rfl), (Nat.le_of_ble_eq_true rfl)⟩ (fun H hH => z_recv hK.1 (hX _ H hH) (ho2).1 (xe_2 ho2) rfl) rfl rfl (Nat.le_of_ble_eq_true rfl) dX6_isThin_56) (fun r6 h => ?_)
  refine z_iload O dX6_isThin_59 0 rfl ?_
  refine z_icmp_lt O 80 dX6_isThin_61 (by decide) (fun c9 => ?_) (fun c9 => ?_)
  · replace h := h.1 c9
    refine z_iconst (v := 0) O dX6_isThin_80 rfl ?_
    exact z_retR O hE (fun _ h => h.1) rfl dX6_isThin_81 h
  · replace h := h.2 c9
    refine z_aload O dX6_isThin_64 2 rfl ?_
    refine z_iload O dX6_isThin_66 1 rfl ?_
    refine z_callR (gKs D cs) hK (fun _ h => h.2) (t_X2_lowestThickOf x o3 ho3 r4 _ h) (zr_V (As := [.int r4]) (rest := []) O hE.1 1 gX6_isThin_X2_lowestThickOf rfl rfl rfl (by decide +kernel) ⟨(Nat.le_of_ble_eq_true rfl), (Nat.le_of_ble_eq_true rfl)⟩ ⟨(Nat.le_of_ble_eq_true rfl), (Nat.le_of_ble_eq_true rfl)⟩ (fun H hH => z_recv hK.1 (hX _ H hH) (ho3).1 (xe_2 ho3) rfl) rfl rfl (Nat.le_of_ble_eq_true rfl) dX6_isThin_68) (fun r7 h => ?_)
    refine z_iload O dX6_isThin_71 0 rfl ?_
    refine z_icmp_lt O 80 dX6_isThin_73 (by decide) (fun c8 => ?_) (fun c8 => ?_)
    · replace h := h.1 c8
      refine z_iconst (v := 0) O dX6_isThin_80 rfl ?_
      exact z_retR O hE (fun _ h => h.1) rfl dX6_isThin_81 h
    · replace h := h.2 c8
      refine z_iconst (v := 1) O dX6_isThin_76 rfl ?_
      refine z_goto O 81 dX6_isThin_77 (by decide) ?_
      exact z_retR O hE (fun _ h => h.1) rfl dX6_isThin_81 h
def wp_X6_thinLayers (x : XS) (g : Nat)  (Q : Int32 → Prop) : Prop :=
 (∃ (I4 : Int32 → Int32 → Prop) (U4 : Int32 → Int32 → Nat), I4 0 0 ∧ ∀ (y1 : Int32) (y2 : Int32), I4 y1 y2 →
 ((6 ≤ y2 →
 Q y1) ∧ (¬ 6 ≤ y2 →
 (∃ (I12 : Int32 → Int32 → Prop) (U12 : Int32 → Int32 → Nat), I12 y1 0 ∧ ∀ (y3 : Int32) (y4 : Int32), I12 y3 y4 →
 (vp_in y2 6 ∧ ∀ o5 : Nat, o5 = x.2.2 (g + 1) (Int32.toNatClampNeg y2) → xk o5 2 ∧
 (((x.1 o5 6) ≤ y4 →
 (I4 y3 (y2 + 1) ∧ U4 y3 (y2 + 1) < U4 y1 y2)) ∧ (¬ (x.1 o5 6) ≤ y4 →
 wp_X6_isThin x g y2 y4 (fun r6 : Int32 =>
 ((r6 = 0 →
 (I12 y3 (y4 + 1) ∧ U12 y3 (y4 + 1) < U12 y3 y4)) ∧ (¬ r6 = 0 →
 (I12 (y3 + 1) (y4 + 1) ∧ U12 (y3 + 1) (y4 + 1) < U12 y3 y4)))))))))))
set_option maxHeartbeats 4000000 in
set_option maxRecDepth 100000 in
theorem t_X6_thinLayers {l : Launch} {D : va_G} {cs : Nat → ClassId} {ad : Nat → Nat} (x : XS) (g : Nat) (hg : xk g 6)  (Q : Int32 → Prop) (h : wp_X6_thinLayers x g  Q) : zMR l yX6_thinLayers wsX6_thinLayers ({ frames := 4, cells := 0, slots := 0, locals := 91 } : Room) (gK D cs) (XH D cs ad) x [.ref (ad g)] Q := by
  refine zMR_of (cc := cX6_thinLayers) (nL := 4) (ret := (some .int)) (by decide +kernel) rfl (Nat.le_of_ble_eq_true rfl) (fun C hl O hE hK hH => ?_)
  subst hl
  have hX : ∀ (x : XS) (H : Heap), z0 (XH D cs ad) C.s.heap x H → va_P D vwCl (wl 161 ad (XE cs ad x)) H := fun _ _ h => h.2
  have i2 : ∀ w ∈ wsX20, w ∈ wsX6_thinLayers := by decide +kernel
  have i6 : ∀ w ∈ wsX60, w ∈ wsX6_thinLayers := by decide +kernel
  refine z_sub (lv' := [(0, .ref (ad g))]) [0] rfl ?_
  refine z_iconst (v := 0) O dX6_thinLayers_0 rfl ?_
  refine z_istore_n (lv' := [(1, .int 0), (0, .ref (ad g))]) O dX6_thinLayers_1 (by decide) rfl ?_
  refine z_iconst (v := 0) O dX6_thinLayers_2 rfl ?_
  refine z_istore_n (lv' := [(2, .int 0), (1, .int 0), (0, .ref (ad g))]) O dX6_thinLayers_3 (by decide) rfl ?_
  obtain ⟨I4, U4, h0, hs⟩ := h
  have kI4 : ∀ (n : Nat) (y1 : Int32) (y2 : Int32), U4 y1 y2 < n → I4 y1 y2 → Z C (fun _ => False) (z0 (XH D cs ad) C.s.heap) 4 x [(0, .ref (ad g)), (1, .int y1), (2, .int y2)] 0 0 4 [] := by
    intro n
    induction n with
    | zero => intro y1 y2 uI4; exact absurd uI4 (Nat.not_lt_zero _)
    | succ n iI4 =>
      intro y1 y2 uI4 h
      have h := hs y1 y2 h
      refine z_iload_n O dX6_thinLayers_4 2 rfl ?_
      refine z_bipush (v := 6) O dX6_thinLayers_5 rfl ?_
      refine z_icmp_ge O 49 dX6_thinLayers_7 (by decide) (fun c9 => ?_) (fun c9 => ?_)
      · replace h := h.1 c9
        refine z_iload_n O dX6_thinLayers_49 1 rfl ?_
        exact z_retR O hE (fun _ h => h.1) rfl dX6_thinLayers_50 h
      · replace h := h.2 c9
        refine z_iconst (v := 0) O dX6_thinLayers_10 rfl ?_
        refine z_istore_n (lv' := [(3, .int 0), (0, .ref (ad g)), (1, .int y1), (2, .int y2)]) O dX6_thinLayers_11 (by decide) rfl ?_
        obtain ⟨I12, U12, h0, hs⟩ := h
        have kI12 : ∀ (n : Nat) (y3 : Int32) (y4 : Int32), U12 y3 y4 < n → I12 y3 y4 → Z C (fun _ => False) (z0 (XH D cs ad) C.s.heap) 4 x [(0, .ref (ad g)), (1, .int y3), (2, .int y2), (3, .int y4)] 0 0 12 [] := by
          intro n
          induction n with
          | zero => intro y3 y4 uI12; exact absurd uI12 (Nat.not_lt_zero _)
          | succ n iI12 =>
            intro y3 y4 uI12 h
            have h := hs y3 y4 h
            refine z_iload_n O dX6_thinLayers_12 3 rfl ?_
            refine z_aload_n O dX6_thinLayers_13 0 rfl ?_
            refine z_getf O hK.1 (hX _) (hg).1 (xe_6 hg) rfl i6 1 (by decide) (by decide +kernel) rfl dX6_thinLayers_14 ?_
            refine z_iload_n O dX6_thinLayers_17 2 rfl ?_
            have hb0 := h.1
            obtain ⟨o5, eo5⟩ : ∃ z, z = x.2.2 (g + 1) (Int32.toNatClampNeg y2) := ⟨_, rfl⟩
            have ho5 := (h.2 o5 eo5).1
            replace h := (h.2 o5 eo5).2
            refine z_aald (v := .ref (ad o5)) O hK.1 (hX _) 2 ((xk_l hg)).1 (xe_22 (xk_l hg)) rfl hb0 (by rw [eo5]; rfl) dX6_thinLayers_18 ?_
            refine z_getfN O hK.1 (hX _) (ho5).1 (xe_2 ho5) rfl i2 6 (by decide) (hK.2.1 _ (List.mem_of_getElem? (i := 0) rfl)) rfl dX6_thinLayers_19 ?_
            refine z_icmp_ge O 43 dX6_thinLayers_22 (by decide) (fun c8 => ?_) (fun c8 => ?_)
            · replace h := h.1 c8
              refine z_iinc (lv' := [(2, .int (y2 + 1)), (0, .ref (ad g)), (1, .int y3), (3, .int y4)]) O dX6_thinLayers_43 2 rfl rfl (by decide) rfl ?_
              refine z_goto O 4 dX6_thinLayers_46 (by decide) ?_
              exact z_sub [1, 2, 0] rfl (iI4 y3 (y2 + 1) (Nat.lt_of_lt_of_le h.2 (Nat.le_of_lt_succ uI4)) h.1)
            · replace h := h.2 c8
              refine z_aload_n O dX6_thinLayers_25 0 rfl ?_
              refine z_iload_n O dX6_thinLayers_26 2 rfl ?_
              refine z_iload_n O dX6_thinLayers_27 3 rfl ?_
              refine z_callR (gKs D cs) hK (fun _ h => h.2) (t_X6_isThin x g hg y2 y4 _ h) (zr_V (As := [.int y2, .int y4]) (rest := []) O hE.1 2 gX6_thinLayers_X6_isThin rfl rfl rfl (by decide +kernel) ⟨(Nat.le_of_ble_eq_true rfl), (Nat.le_of_ble_eq_true rfl)⟩ ⟨(Nat.le_of_ble_eq_true rfl), (Nat.le_of_ble_eq_true rfl)⟩ (fun H hH => z_recv hK.1 (hX _ H hH) (hg).1 (xe_6 hg) rfl) rfl rfl (Nat.le_of_ble_eq_true rfl) dX6_thinLayers_28) (fun r6 h => ?_)
              refine z_if_eq O 37 dX6_thinLayers_31 (by decide) (fun c7 => ?_) (fun c7 => ?_)
              · replace h := h.1 c7
                refine z_iinc (lv' := [(3, .int (y4 + 1)), (0, .ref (ad g)), (1, .int y3), (2, .int y2)]) O dX6_thinLayers_37 3 rfl rfl (by decide) rfl ?_
                refine z_goto O 12 dX6_thinLayers_40 (by decide) ?_
                exact z_sub [1, 2, 3, 0] rfl (iI12 y3 (y4 + 1) (Nat.lt_of_lt_of_le h.2 (Nat.le_of_lt_succ uI12)) h.1)
              · replace h := h.2 c7
                refine z_iinc (lv' := [(1, .int (y3 + 1)), (0, .ref (ad g)), (2, .int y2), (3, .int y4)]) O dX6_thinLayers_34 1 rfl rfl (by decide) rfl ?_
                refine z_iinc (lv' := [(3, .int (y4 + 1)), (1, .int (y3 + 1)), (0, .ref (ad g)), (2, .int y2)]) O dX6_thinLayers_37 3 rfl rfl (by decide) rfl ?_
                refine z_goto O 12 dX6_thinLayers_40 (by decide) ?_
                exact z_sub [2, 1, 3, 0] rfl (iI12 (y3 + 1) (y4 + 1) (Nat.lt_of_lt_of_le h.2 (Nat.le_of_lt_succ uI12)) h.1)
        exact z_sub [1, 2, 3, 0] rfl (kI12 _ y1 0 (Nat.lt_succ_self _) h0)
  exact z_sub [2, 1, 0] rfl (kI4 _ 0 0 (Nat.lt_succ_self _) h0)
def wp_X6_firstThin (x : XS) (g : Nat)  (Q : Int32 → Prop) : Prop :=
 (∃ (I2 : Int32 → Prop) (U2 : Int32 → Nat), I2 0 ∧ ∀ (y1 : Int32), I2 y1 →
 ((6 ≤ y1 →
 Q (-4)) ∧ (¬ 6 ≤ y1 →
 (∃ (I10 : Int32 → Prop) (U10 : Int32 → Nat), I10 0 ∧ ∀ (y2 : Int32), I10 y2 →
 (vp_in y1 6 ∧ ∀ o3 : Nat, o3 = x.2.2 (g + 1) (Int32.toNatClampNeg y1) → xk o3 2 ∧
 (((x.1 o3 6) ≤ y2 →
 (I2 (y1 + 1) ∧ U2 (y1 + 1) < U2 y1)) ∧ (¬ (x.1 o3 6) ≤ y2 →
 wp_X6_isThin x g y1 y2 (fun r4 : Int32 =>
 ((r4 = 0 →
 (I10 (y2 + 1) ∧ U10 (y2 + 1) < U10 y2)) ∧ (¬ r4 = 0 →
 Q ((10 * y1) + y2)))))))))))
set_option maxHeartbeats 4000000 in
set_option maxRecDepth 100000 in
theorem t_X6_firstThin {l : Launch} {D : va_G} {cs : Nat → ClassId} {ad : Nat → Nat} (x : XS) (g : Nat) (hg : xk g 6)  (Q : Int32 → Prop) (h : wp_X6_firstThin x g  Q) : zMR l yX6_firstThin wsX6_firstThin ({ frames := 4, cells := 0, slots := 0, locals := 91 } : Room) (gK D cs) (XH D cs ad) x [.ref (ad g)] Q := by
  refine zMR_of (cc := cX6_firstThin) (nL := 3) (ret := (some .int)) (by decide +kernel) rfl (Nat.le_of_ble_eq_true rfl) (fun C hl O hE hK hH => ?_)
  subst hl
  have hX : ∀ (x : XS) (H : Heap), z0 (XH D cs ad) C.s.heap x H → va_P D vwCl (wl 161 ad (XE cs ad x)) H := fun _ _ h => h.2
  have i2 : ∀ w ∈ wsX20, w ∈ wsX6_firstThin := by decide +kernel
  have i6 : ∀ w ∈ wsX60, w ∈ wsX6_firstThin := by decide +kernel
  refine z_sub (lv' := [(0, .ref (ad g))]) [0] rfl ?_
  refine z_iconst (v := 0) O dX6_firstThin_0 rfl ?_
  refine z_istore_n (lv' := [(1, .int 0), (0, .ref (ad g))]) O dX6_firstThin_1 (by decide) rfl ?_
  obtain ⟨I2, U2, h0, hs⟩ := h
  have kI2 : ∀ (n : Nat) (y1 : Int32), U2 y1 < n → I2 y1 → Z C (fun _ => False) (z0 (XH D cs ad) C.s.heap) 3 x [(0, .ref (ad g)), (1, .int y1)] 0 0 2 [] := by
    intro n
    induction n with
    | zero => intro y1 uI2; exact absurd uI2 (Nat.not_lt_zero _)
    | succ n iI2 =>
      intro y1 uI2 h
      have h := hs y1 h
      refine z_iload_n O dX6_firstThin_2 1 rfl ?_
      refine z_bipush (v := 6) O dX6_firstThin_3 rfl ?_
      refine z_icmp_ge O 51 dX6_firstThin_5 (by decide) (fun c7 => ?_) (fun c7 => ?_)
      · replace h := h.1 c7
        refine z_bipush (v := -4) O dX6_firstThin_51 rfl ?_
        exact z_retR O hE (fun _ h => h.1) rfl dX6_firstThin_53 h
      · replace h := h.2 c7
        refine z_iconst (v := 0) O dX6_firstThin_8 rfl ?_
        refine z_istore_n (lv' := [(2, .int 0), (0, .ref (ad g)), (1, .int y1)]) O dX6_firstThin_9 (by decide) rfl ?_
        obtain ⟨I10, U10, h0, hs⟩ := h
        have kI10 : ∀ (n : Nat) (y2 : Int32), U10 y2 < n → I10 y2 → Z C (fun _ => False) (z0 (XH D cs ad) C.s.heap) 3 x [(0, .ref (ad g)), (1, .int y1), (2, .int y2)] 0 0 10 [] := by
          intro n
          induction n with
          | zero => intro y2 uI10; exact absurd uI10 (Nat.not_lt_zero _)
          | succ n iI10 =>
            intro y2 uI10 h
            have h := hs y2 h
            refine z_iload_n O dX6_firstThin_10 2 rfl ?_
            refine z_aload_n O dX6_firstThin_11 0 rfl ?_
            refine z_getf O hK.1 (hX _) (hg).1 (xe_6 hg) rfl i6 1 (by decide) (by decide +kernel) rfl dX6_firstThin_12 ?_
            refine z_iload_n O dX6_firstThin_15 1 rfl ?_
            have hb0 := h.1
            obtain ⟨o3, eo3⟩ : ∃ z, z = x.2.2 (g + 1) (Int32.toNatClampNeg y1) := ⟨_, rfl⟩
            have ho3 := (h.2 o3 eo3).1
            replace h := (h.2 o3 eo3).2
            refine z_aald (v := .ref (ad o3)) O hK.1 (hX _) 2 ((xk_l hg)).1 (xe_22 (xk_l hg)) rfl hb0 (by rw [eo3]; rfl) dX6_firstThin_16 ?_
            refine z_getfN O hK.1 (hX _) (ho3).1 (xe_2 ho3) rfl i2 6 (by decide) (hK.2.1 _ (List.mem_of_getElem? (i := 0) rfl)) rfl dX6_firstThin_17 ?_
            refine z_icmp_ge O 45 dX6_firstThin_20 (by decide) (fun c6 => ?_) (fun c6 => ?_)
            · replace h := h.1 c6
              refine z_iinc (lv' := [(1, .int (y1 + 1)), (0, .ref (ad g)), (2, .int y2)]) O dX6_firstThin_45 1 rfl rfl (by decide) rfl ?_
              refine z_goto O 2 dX6_firstThin_48 (by decide) ?_
              exact z_sub [1, 0] rfl (iI2 (y1 + 1) (Nat.lt_of_lt_of_le h.2 (Nat.le_of_lt_succ uI2)) h.1)
            · replace h := h.2 c6
              refine z_aload_n O dX6_firstThin_23 0 rfl ?_
              refine z_iload_n O dX6_firstThin_24 1 rfl ?_
              refine z_iload_n O dX6_firstThin_25 2 rfl ?_
              refine z_callR (gKs D cs) hK (fun _ h => h.2) (t_X6_isThin x g hg y1 y2 _ h) (zr_V (As := [.int y1, .int y2]) (rest := []) O hE.1 2 gX6_firstThin_X6_isThin rfl rfl rfl (by decide +kernel) ⟨(Nat.le_of_ble_eq_true rfl), (Nat.le_of_ble_eq_true rfl)⟩ ⟨(Nat.le_of_ble_eq_true rfl), (Nat.le_of_ble_eq_true rfl)⟩ (fun H hH => z_recv hK.1 (hX _ H hH) (hg).1 (xe_6 hg) rfl) rfl rfl (Nat.le_of_ble_eq_true rfl) dX6_firstThin_26) (fun r4 h => ?_)
              refine z_if_eq O 39 dX6_firstThin_29 (by decide) (fun c5 => ?_) (fun c5 => ?_)
              · replace h := h.1 c5
                refine z_iinc (lv' := [(2, .int (y2 + 1)), (0, .ref (ad g)), (1, .int y1)]) O dX6_firstThin_39 2 rfl rfl (by decide) rfl ?_
                refine z_goto O 10 dX6_firstThin_42 (by decide) ?_
                exact z_sub [1, 2, 0] rfl (iI10 (y2 + 1) (Nat.lt_of_lt_of_le h.2 (Nat.le_of_lt_succ uI10)) h.1)
              · replace h := h.2 c5
                refine z_bipush (v := 10) O dX6_firstThin_32 rfl ?_
                refine z_iload_n O dX6_firstThin_34 1 rfl ?_
                refine z_imul O dX6_firstThin_35 ?_
                refine z_iload_n O dX6_firstThin_36 2 rfl ?_
                refine z_iadd O dX6_firstThin_37 ?_
                exact z_retR O hE (fun _ h => h.1) rfl dX6_firstThin_38 h
        exact z_sub [1, 2, 0] rfl (kI10 _ 0 (Nat.lt_succ_self _) h0)
  exact z_sub [1, 0] rfl (kI2 _ 0 (Nat.lt_succ_self _) h0)
def wp_X6_tellAllAhead (x : XS) (g : Nat) (q1 : Nat)  (Q : XS → Prop) : Prop :=
 wp_J7_fill_53178 x q1 0 (fun (x1 : XS) =>
 (∃ (I16 : Int32 → XS → Prop) (U16 : Int32 → XS → Nat), I16 0 x1 ∧ ∀ (y2 : Int32) (x3 : XS), I16 y2 x3 →
 ((6 ≤ y2 →
 Q x3) ∧ (¬ 6 ≤ y2 →
 (vp_in y2 6 ∧ ∀ o4 : Nat, o4 = x3.2.2 (g + 1) (Int32.toNatClampNeg y2) → xk o4 2 ∧
 wp_X2_tellAhead x3 o4 q1 (fun (x5 : XS) =>
 (I16 (y2 + 1) x5 ∧ U16 (y2 + 1) x5 < U16 y2 x3)))))))
set_option maxHeartbeats 4000000 in
set_option maxRecDepth 100000 in
theorem t_X6_tellAllAhead {l : Launch} {D : va_G} {cs : Nat → ClassId} {ad : Nat → Nat} (hI : wInj 161 ad) (x : XS) (g : Nat) (hg : xk g 6) (q1 : Nat) (hq1 : xk q1 20)  (Q : XS → Prop) (h : wp_X6_tellAllAhead x g q1  Q) : zWV l yX6_tellAllAhead wsX6_tellAllAhead ({ frames := 3, cells := 0, slots := 0, locals := 66 } : Room) (gK D cs) (XH D cs ad) (wB 161 ad) x [.ref (ad g), .ref (ad q1)] 0 0 Q := by
  refine zWV_of (cc := cX6_tellAllAhead) (nL := 6) (ret := none) (by decide +kernel) rfl (Nat.le_of_ble_eq_true rfl) (fun C hl O hE hK => ?_)
  subst hl
  have hX : ∀ (x : XS) (H : Heap), XH D cs ad x H → va_P D vwCl (wl 161 ad (XE cs ad x)) H := fun _ _ h => h
  have hB : ∀ {x : XS} (H : Heap), va_P D vwCl (wl 161 ad (XE cs ad x)) H → XH D cs ad x H := fun _ h => h
  have hA : ∀ q, wB 161 ad q → zA (wB 161 ad) C.s.heap.size q := fun _ h => Or.inl h
  have i6 : ∀ w ∈ wsX60, w ∈ wsX6_tellAllAhead := by decide +kernel
  refine z_sub (lv' := [(0, .ref (ad g)), (1, .ref (ad q1))]) [0, 1] rfl ?_
  refine z_aload_n O dX6_tellAllAhead_0 1 rfl ?_
  refine z_iconst (v := 0) O dX6_tellAllAhead_1 rfl ?_
  refine z_cWV (gKs D cs) hK (fun _ h => h) (fun _ h => Or.inl h) (fun _ h => Or.inr h) (t_J7_fill_53178 hI x q1 hq1 0 _ h) (zr_SS (As := [.ref (ad q1), .int 0]) (rest := []) O hE.1 2 gX6_tellAllAhead_J7_fill_53178 rfl rfl rfl (by decide +kernel) ⟨(Nat.le_of_ble_eq_true rfl), (Nat.le_of_ble_eq_true rfl)⟩ ⟨(Nat.le_of_ble_eq_true rfl), (Nat.le_of_ble_eq_true rfl)⟩ rfl rfl (Nat.le_of_ble_eq_true rfl) dX6_tellAllAhead_2) (fun x1 h => ?_)
  refine z_aload_n O dX6_tellAllAhead_5 0 rfl ?_
  refine z_getf O hK.1 (hX _) (hg).1 (xe_6 hg) rfl i6 1 (by decide) (by decide +kernel) rfl dX6_tellAllAhead_6 ?_
  refine z_astore_n (lv' := [(2, .ref (ad (g + 1))), (0, .ref (ad g)), (1, .ref (ad q1))]) O dX6_tellAllAhead_9 (by decide) rfl ?_
  refine z_aload_n O dX6_tellAllAhead_10 0 rfl ?_
  refine z_alen (v := 6) O hK.1 (hX _) 2 ((xk_l hg)).1 (xe_22 (xk_l hg)) rfl rfl dX6_tellAllAhead_11 ?_
  refine z_istore_n (lv' := [(3, .int 6), (2, .ref (ad (g + 1))), (0, .ref (ad g)), (1, .ref (ad q1))]) O dX6_tellAllAhead_12 (by decide) rfl ?_
  refine z_iconst (v := 0) O dX6_tellAllAhead_13 rfl ?_
  refine z_istore (lv' := [(4, .int 0), (3, .int 6), (2, .ref (ad (g + 1))), (0, .ref (ad g)), (1, .ref (ad q1))]) O dX6_tellAllAhead_14 (by decide) rfl ?_
  obtain ⟨I16, U16, h0, hs⟩ := h
  have kI16 : ∀ (n : Nat) (y2 : Int32) (x3 : XS), U16 y2 x3 < n → I16 y2 x3 → Z C (zA (wB 161 ad) C.s.heap.size) (XH D cs ad) 6 x3 [(1, .ref (ad q1)), (2, .ref (ad (g + 1))), (3, .int 6), (4, .int y2)] 0 0 16 [] := by
    intro n
    induction n with
    | zero => intro y2 x3 uI16; exact absurd uI16 (Nat.not_lt_zero _)
    | succ n iI16 =>
      intro y2 x3 uI16 h
      have h := hs y2 x3 h
      refine z_iload O dX6_tellAllAhead_16 3 rfl ?_
      refine z_iload_n O dX6_tellAllAhead_18 2 rfl ?_
      refine z_icmp_ge O 40 dX6_tellAllAhead_19 (by decide) (fun c6 => ?_) (fun c6 => ?_)
      · replace h := h.1 c6
        exact z_retWV O hE (Nat.le_of_ble_eq_true rfl) (Nat.le_of_ble_eq_true rfl) dX6_tellAllAhead_40 h
      · replace h := h.2 c6
        refine z_aload_n O dX6_tellAllAhead_22 1 rfl ?_
        refine z_iload O dX6_tellAllAhead_23 3 rfl ?_
        have hb0 := h.1
        obtain ⟨o4, eo4⟩ : ∃ z, z = x3.2.2 (g + 1) (Int32.toNatClampNeg y2) := ⟨_, rfl⟩
        have ho4 := (h.2 o4 eo4).1
        replace h := (h.2 o4 eo4).2
        refine z_aald (v := .ref (ad o4)) O hK.1 (hX _) 2 ((xk_l hg)).1 (xe_22 (xk_l hg)) rfl hb0 (by rw [eo4]; rfl) dX6_tellAllAhead_25 ?_
        refine z_astore (lv' := [(5, .ref (ad o4)), (1, .ref (ad q1)), (2, .ref (ad (g + 1))), (3, .int 6), (4, .int y2)]) O dX6_tellAllAhead_26 (by decide) rfl ?_
        refine z_aload O dX6_tellAllAhead_28 0 rfl ?_
        refine z_aload_n O dX6_tellAllAhead_30 1 rfl ?_
        refine z_cWV (gKs D cs) hK (fun _ h => h) (fun _ h => Or.inl h) (fun _ h => Or.inr h) (t_X2_tellAhead hI x3 o4 ho4 q1 hq1  _ h) (zr_V (As := [.ref (ad q1)]) (rest := []) O hE.1 1 gX6_tellAllAhead_X2_tellAhead rfl rfl rfl (by decide +kernel) ⟨(Nat.le_of_ble_eq_true rfl), (Nat.le_of_ble_eq_true rfl)⟩ ⟨(Nat.le_of_ble_eq_true rfl), (Nat.le_of_ble_eq_true rfl)⟩ (fun H hH => z_recv hK.1 (hX _ H hH) (ho4).1 (xe_2 ho4) rfl) rfl rfl (Nat.le_of_ble_eq_true rfl) dX6_tellAllAhead_31) (fun x5 h => ?_)
        refine z_iinc (lv' := [(4, .int (y2 + 1)), (5, .ref (ad o4)), (1, .ref (ad q1)), (2, .ref (ad (g + 1))), (3, .int 6)]) O dX6_tellAllAhead_34 4 rfl rfl (by decide) rfl ?_
        refine z_goto O 16 dX6_tellAllAhead_37 (by decide) ?_
        exact z_sub [2, 3, 4, 0] rfl (iI16 (y2 + 1) x5 (Nat.lt_of_lt_of_le h.2 (Nat.le_of_lt_succ uI16)) h.1)
  exact z_sub [4, 2, 1, 0] rfl (kI16 _ 0 x1 (Nat.lt_succ_self _) h0)
