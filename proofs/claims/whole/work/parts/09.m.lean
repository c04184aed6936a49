def wp_X12_thrown (x : MS)   (Q : Int32 → Prop) : Prop :=
 Q (x.1 6)
set_option maxHeartbeats 4000000 in
set_option maxRecDepth 100000 in
theorem t_X12_thrown {l : Launch} {D : va_G} {cs : Nat → ClassId} {ad : Nat → Nat} (x : MS)   (Q : Int32 → Prop) (h : wp_X12_thrown x   Q) : zMR l yX12_thrown wsX12_thrown ({ frames := 0, cells := 0, slots := 0, locals := 0 } : Room) (gK D cs) (MH D cs ad) x [.ref (ad 0)] Q := by
  refine zMR_of (cc := cX12_thrown) (nL := 1) (ret := (some .int)) (by decide +kernel) rfl (Nat.le_of_ble_eq_true rfl) (fun C hl O hE hK hH => ?_)
  subst hl
  have hX : ∀ (x : MS) (H : Heap), z0 (MH D cs ad) C.s.heap x H → va_P D vwCl (wl 18 ad (ME cs ad x)) H := fun _ _ h => h.2
  have i12 : ∀ w ∈ wsX120, w ∈ wsX12_thrown := by decide +kernel
  refine z_sub (lv' := [(0, .ref (ad 0))]) [0] rfl ?_
  refine z_aload_n O dX12_thrown_0 0 rfl ?_
  refine z_getf O hK.1 (hX _) (by decide) me_0 rfl i12 6 (by decide) (by decide +kernel) rfl dX12_thrown_1 ?_
  exact z_retR O hE (fun _ h => h.1) rfl dX12_thrown_4 h
def wp_X12_in   (p0 : Int64) (p2 : Int64) (p4 : Int64) (Q : Int32 → Prop) : Prop :=
 (((lg_cmp p0 p2) < 0 →
 Q 0) ∧ (¬ (lg_cmp p0 p2) < 0 →
 ((0 < (lg_cmp p0 p4) →
 Q 0) ∧ (¬ 0 < (lg_cmp p0 p4) →
 Q 1))))
set_option maxHeartbeats 4000000 in
set_option maxRecDepth 100000 in
theorem t_X12_in {σ : Type} {l : Launch} {Ks : State → Prop} (hKs : zKs Ks) {Hx : σ → Heap → Prop} {x : σ} (p0 : Int64) (p2 : Int64) (p4 : Int64) (Q : Int32 → Prop) (h : wp_X12_in  p0 p2 p4 Q) : zMR l yX12_in wsX12_in ({ frames := 0, cells := 0, slots := 0, locals := 0 } : Room) Ks Hx x [.long p0, .long p2, .long p4] Q := by
  refine zMR_of (cc := cX12_in) (nL := 6) (ret := (some .boolean)) (by decide +kernel) rfl (Nat.le_of_ble_eq_true rfl) (fun C hl O hE hK hH => ?_)
  subst hl
  refine z_sub (lv' := [(0, .long p0), (2, .long p2), (4, .long p4)]) [0, 1, 2] rfl ?_
  refine z_lload_n O dX12_in_0 0 rfl ?_
  refine z_lload_n O dX12_in_1 1 rfl ?_
  refine z_lcmp O dX12_in_2 ?_
  refine z_if_lt O 17 dX12_in_3 (by decide) (fun c2 => ?_) (fun c2 => ?_)
  · replace h := h.1 c2
    refine z_iconst (v := 0) O dX12_in_17 rfl ?_
    exact z_retR O hE (fun _ h => h.1) rfl dX12_in_18 h
  · replace h := h.2 c2
    refine z_lload_n O dX12_in_6 0 rfl ?_
    refine z_lload O dX12_in_7 2 rfl ?_
    refine z_lcmp O dX12_in_9 ?_
    refine z_if_gt O 17 dX12_in_10 (by decide) (fun c1 => ?_) (fun c1 => ?_)
    · replace h := h.1 c1
      refine z_iconst (v := 0) O dX12_in_17 rfl ?_
      exact z_retR O hE (fun _ h => h.1) rfl dX12_in_18 h
    · replace h := h.2 c1
      refine z_iconst (v := 1) O dX12_in_13 rfl ?_
      refine z_goto O 18 dX12_in_14 (by decide) ?_
      exact z_retR O hE (fun _ h => h.1) rfl dX12_in_18 h
def wp_X12_isCell   (p0 : Int32) (Q : Int32 → Prop) : Prop :=
 wp_X12_in (Int32.toInt64 p0) 0 5 (fun r1 : Int32 =>
 (zb r1 ∧ Q r1))
set_option maxHeartbeats 4000000 in
set_option maxRecDepth 100000 in
theorem t_X12_isCell {σ : Type} {l : Launch} {Ks : State → Prop} (hKs : zKs Ks) {Hx : σ → Heap → Prop} {x : σ} (p0 : Int32) (Q : Int32 → Prop) (h : wp_X12_isCell  p0 Q) : zMR l yX12_isCell wsX12_isCell ({ frames := 1, cells := 0, slots := 0, locals := 25 } : Room) Ks Hx x [.int p0] Q := by
  refine zMR_of (cc := cX12_isCell) (nL := 1) (ret := (some .boolean)) (by decide +kernel) rfl (Nat.le_of_ble_eq_true rfl) (fun C hl O hE hK hH => ?_)
  subst hl
  refine z_sub (lv' := [(0, .int p0)]) [0] rfl ?_
  refine z_iload_n O dX12_isCell_0 0 rfl ?_
  refine z_i2l O dX12_isCell_1 ?_
  refine z_lconst (v := 0) O dX12_isCell_2 rfl ?_
  refine z_ldc2 (v := 5) O (by decide +kernel) dX12_isCell_3 ?_
  refine z_callR hKs hK (fun _ h => h.2) (t_X12_in hKs (Int32.toInt64 p0) 0 5 _ h) (zr_SS (As := [.long (Int32.toInt64 p0), .long 0, .long 5]) (rest := []) O hE.1 3 gX12_isCell_X12_in rfl rfl rfl (by decide +kernel) ⟨(Nat.le_of_ble_eq_true rfl), (Nat.le_of_ble_eq_true rfl)⟩ ⟨(Nat.le_of_ble_eq_true rfl), (Nat.le_of_ble_eq_true rfl)⟩ rfl rfl (Nat.le_of_ble_eq_true rfl) dX12_isCell_6) (fun r1 h => ?_)
  exact z_retR O hE (fun _ h => h.1) (zb_n h.1) dX12_isCell_9 h.2
def wp_X12_thickOf   (p0 : Int32) (p1 : Int32) (p2 : Int32) (Q : Int32 → Prop) : Prop :=
 ((p0 = 0 →
 Q p2) ∧ (¬ p0 = 0 →
 ((p0 = 2 →
 ((4 ≤ p2 →
 Q (p2 / 2)) ∧ (¬ 4 ≤ p2 →
 Q 1))) ∧ (¬ p0 = 2 →
 ((p0 = 3 →
 Q (2 * p2)) ∧ (¬ p0 = 3 →
 ((p0 = 5 →
 Q ((2 * p2) - 1)) ∧ (¬ p0 = 5 →
 ((p0 = 6 →
 Q ((p2 + 1) + p1)) ∧ (¬ p0 = 6 →
 ((p0 = 7 →
 Q (2 * p2)) ∧ (¬ p0 = 7 →
 Q (p2 + 1)))))))))))))
set_option maxHeartbeats 4000000 in
set_option maxRecDepth 100000 in
theorem t_X12_thickOf {σ : Type} {l : Launch} {Ks : State → Prop} (hKs : zKs Ks) {Hx : σ → Heap → Prop} {x : σ} (p0 : Int32) (p1 : Int32) (p2 : Int32) (Q : Int32 → Prop) (h : wp_X12_thickOf  p0 p1 p2 Q) : zMR l yX12_thickOf wsX12_thickOf ({ frames := 0, cells := 0, slots := 0, locals := 0 } : Room) Ks Hx x [.int p0, .int p1, .int p2] Q := by
  refine zMR_of (cc := cX12_thickOf) (nL := 3) (ret := (some .int)) (by decide +kernel) rfl (Nat.le_of_ble_eq_true rfl) (fun C hl O hE hK hH => ?_)
  subst hl
  refine z_sub (lv' := [(0, .int p0), (1, .int p1), (2, .int p2)]) [0, 1, 2] rfl ?_
  refine z_iload_n O dX12_thickOf_0 0 rfl ?_
  by_cases c1 : p0 = 0
  · replace h := h.1 c1
    refine z_tableIn (v := 0) (off := 47) O 48 dX12_thickOf_1 c1 (by decide) (by decide) (by decide) (by decide) ?_
    refine z_iload_n O dX12_thickOf_48 2 rfl ?_
    exact z_retR O hE (fun _ h => h.1) rfl dX12_thickOf_49 h
  replace h := h.2 c1
  by_cases c2 : p0 = 2
  · replace h := h.1 c2
    refine z_tableIn (v := 2) (off := 49) O 50 dX12_thickOf_1 c2 (by decide) (by decide) (by decide) (by decide) ?_
    refine z_iload_n O dX12_thickOf_50 2 rfl ?_
    refine z_iconst (v := 4) O dX12_thickOf_51 rfl ?_
    refine z_icmp_ge O 59 dX12_thickOf_52 (by decide) (fun c3 => ?_) (fun c3 => ?_)
    · replace h := h.1 c3
      refine z_iload_n O dX12_thickOf_59 2 rfl ?_
      refine z_iconst (v := 2) O dX12_thickOf_60 rfl ?_
      refine z_idiv O dX12_thickOf_61 (by decide) ?_
      exact z_retR O hE (fun _ h => h.1) rfl dX12_thickOf_62 h
    · replace h := h.2 c3
      refine z_iconst (v := 1) O dX12_thickOf_55 rfl ?_
      refine z_goto O 62 dX12_thickOf_56 (by decide) ?_
      exact z_retR O hE (fun _ h => h.1) rfl dX12_thickOf_62 h
  replace h := h.2 c2
  by_cases c4 : p0 = 3
  · replace h := h.1 c4
    refine z_tableIn (v := 3) (off := 62) O 63 dX12_thickOf_1 c4 (by decide) (by decide) (by decide) (by decide) ?_
    refine z_iconst (v := 2) O dX12_thickOf_63 rfl ?_
    refine z_iload_n O dX12_thickOf_64 2 rfl ?_
    refine z_imul O dX12_thickOf_65 ?_
    exact z_retR O hE (fun _ h => h.1) rfl dX12_thickOf_66 h
  replace h := h.2 c4
  by_cases c5 : p0 = 5
  · replace h := h.1 c5
    refine z_tableIn (v := 5) (off := 66) O 67 dX12_thickOf_1 c5 (by decide) (by decide) (by decide) (by decide) ?_
    refine z_iconst (v := 2) O dX12_thickOf_67 rfl ?_
    refine z_iload_n O dX12_thickOf_68 2 rfl ?_
    refine z_imul O dX12_thickOf_69 ?_
    refine z_iconst (v := 1) O dX12_thickOf_70 rfl ?_
    refine z_isub O dX12_thickOf_71 ?_
    exact z_retR O hE (fun _ h => h.1) rfl dX12_thickOf_72 h
  replace h := h.2 c5
  by_cases c6 : p0 = 6
  · replace h := h.1 c6
    refine z_tableIn (v := 6) (off := 72) O 73 dX12_thickOf_1 c6 (by decide) (by decide) (by decide) (by decide) ?_
    refine z_iload_n O dX12_thickOf_73 2 rfl ?_
    refine z_iconst (v := 1) O dX12_thickOf_74 rfl ?_
    refine z_iadd O dX12_thickOf_75 ?_
    refine z_iload_n O dX12_thickOf_76 1 rfl ?_
    refine z_iadd O dX12_thickOf_77 ?_
    exact z_retR O hE (fun _ h => h.1) rfl dX12_thickOf_78 h
  replace h := h.2 c6
  by_cases c7 : p0 = 7
  · replace h := h.1 c7
    refine z_tableIn (v := 7) (off := 62) O 63 dX12_thickOf_1 c7 (by decide) (by decide) (by decide) (by decide) ?_
    refine z_iconst (v := 2) O dX12_thickOf_63 rfl ?_
    refine z_iload_n O dX12_thickOf_64 2 rfl ?_
    refine z_imul O dX12_thickOf_65 ?_
    exact z_retR O hE (fun _ h => h.1) rfl dX12_thickOf_66 h
  replace h := h.2 c7
  by_cases c8 : p0 = 1
  · refine z_tableIn (v := 1) (off := 78) O 79 dX12_thickOf_1 c8 (by decide) (by decide) (by decide) (by decide) ?_
    refine z_iload_n O dX12_thickOf_79 2 rfl ?_
    refine z_iconst (v := 1) O dX12_thickOf_80 rfl ?_
    refine z_iadd O dX12_thickOf_81 ?_
    exact z_retR O hE (fun _ h => h.1) rfl dX12_thickOf_82 h
  by_cases c9 : p0 = 4
  · refine z_tableIn (v := 4) (off := 78) O 79 dX12_thickOf_1 c9 (by decide) (by decide) (by decide) (by decide) ?_
    refine z_iload_n O dX12_thickOf_79 2 rfl ?_
    refine z_iconst (v := 1) O dX12_thickOf_80 rfl ?_
    refine z_iadd O dX12_thickOf_81 ?_
    exact z_retR O hE (fun _ h => h.1) rfl dX12_thickOf_82 h
  refine z_tableOut O 79 dX12_thickOf_1 (by have gc1 := lv_neT (a := 0) c1 (by decide); have gc2 := lv_neT (a := 2) c2 (by decide); have gc4 := lv_neT (a := 3) c4 (by decide); have gc5 := lv_neT (a := 5) c5 (by decide); have gc6 := lv_neT (a := 6) c6 (by decide); have gc7 := lv_neT (a := 7) c7 (by decide); have gc8 := lv_neT (a := 1) c8 (by decide); have gc9 := lv_neT (a := 4) c9 (by decide); omega) (by decide) ?_
  refine z_iload_n O dX12_thickOf_79 2 rfl ?_
  refine z_iconst (v := 1) O dX12_thickOf_80 rfl ?_
  refine z_iadd O dX12_thickOf_81 ?_
  exact z_retR O hE (fun _ h => h.1) rfl dX12_thickOf_82 h
def wp_X12_meltsOf   (p0 : Int32) (p1 : Int32) (Q : Int32 → Prop) : Prop :=
 ((p0 = 1 →
 Q 1) ∧ (¬ p0 = 1 →
 ((p0 = 2 →
 Q 4) ∧ (¬ p0 = 2 →
 ((p0 = 3 →
 Q 3) ∧ (¬ p0 = 3 →
 ((p0 = 5 →
 Q 6) ∧ (¬ p0 = 5 →
 ((p0 = 6 →
 Q 1) ∧ (¬ p0 = 6 →
 ((p0 = 7 →
 Q (3 + p1)) ∧ (¬ p0 = 7 →
 Q 2))))))))))))
set_option maxHeartbeats 4000000 in
set_option maxRecDepth 100000 in
theorem t_X12_meltsOf {σ : Type} {l : Launch} {Ks : State → Prop} (hKs : zKs Ks) {Hx : σ → Heap → Prop} {x : σ} (p0 : Int32) (p1 : Int32) (Q : Int32 → Prop) (h : wp_X12_meltsOf  p0 p1 Q) : zMR l yX12_meltsOf wsX12_meltsOf ({ frames := 0, cells := 0, slots := 0, locals := 0 } : Room) Ks Hx x [.int p0, .int p1] Q := by
  refine zMR_of (cc := cX12_meltsOf) (nL := 2) (ret := (some .int)) (by decide +kernel) rfl (Nat.le_of_ble_eq_true rfl) (fun C hl O hE hK hH => ?_)
  subst hl
  refine z_sub (lv' := [(0, .int p0), (1, .int p1)]) [0, 1] rfl ?_
  refine z_iload_n O dX12_meltsOf_0 0 rfl ?_
  by_cases c1 : p0 = 1
  · replace h := h.1 c1
    refine z_tableIn (v := 1) (off := 43) O 44 dX12_meltsOf_1 c1 (by decide) (by decide) (by decide) (by decide) ?_
    refine z_iconst (v := 1) O dX12_meltsOf_44 rfl ?_
    exact z_retR O hE (fun _ h => h.1) rfl dX12_meltsOf_45 h
  replace h := h.2 c1
  by_cases c2 : p0 = 2
  · replace h := h.1 c2
    refine z_tableIn (v := 2) (off := 45) O 46 dX12_meltsOf_1 c2 (by decide) (by decide) (by decide) (by decide) ?_
    refine z_iconst (v := 4) O dX12_meltsOf_46 rfl ?_
    exact z_retR O hE (fun _ h => h.1) rfl dX12_meltsOf_47 h
  replace h := h.2 c2
  by_cases c3 : p0 = 3
  · replace h := h.1 c3
    refine z_tableIn (v := 3) (off := 47) O 48 dX12_meltsOf_1 c3 (by decide) (by decide) (by decide) (by decide) ?_
    refine z_iconst (v := 3) O dX12_meltsOf_48 rfl ?_
    exact z_retR O hE (fun _ h => h.1) rfl dX12_meltsOf_49 h
  replace h := h.2 c3
  by_cases c4 : p0 = 5
  · replace h := h.1 c4
    refine z_tableIn (v := 5) (off := 49) O 50 dX12_meltsOf_1 c4 (by decide) (by decide) (by decide) (by decide) ?_
    refine z_bipush (v := 6) O dX12_meltsOf_50 rfl ?_
    exact z_retR O hE (fun _ h => h.1) rfl dX12_meltsOf_52 h
  replace h := h.2 c4
  by_cases c5 : p0 = 6
  · replace h := h.1 c5
    refine z_tableIn (v := 6) (off := 43) O 44 dX12_meltsOf_1 c5 (by decide) (by decide) (by decide) (by decide) ?_
    refine z_iconst (v := 1) O dX12_meltsOf_44 rfl ?_
    exact z_retR O hE (fun _ h => h.1) rfl dX12_meltsOf_45 h
  replace h := h.2 c5
  by_cases c6 : p0 = 7
  · replace h := h.1 c6
    refine z_tableIn (v := 7) (off := 52) O 53 dX12_meltsOf_1 c6 (by decide) (by decide) (by decide) (by decide) ?_
    refine z_iconst (v := 3) O dX12_meltsOf_53 rfl ?_
    refine z_iload_n O dX12_meltsOf_54 1 rfl ?_
    refine z_iadd O dX12_meltsOf_55 ?_
    exact z_retR O hE (fun _ h => h.1) rfl dX12_meltsOf_56 h
  replace h := h.2 c6
  by_cases c7 : p0 = 4
  · refine z_tableIn (v := 4) (off := 56) O 57 dX12_meltsOf_1 c7 (by decide) (by decide) (by decide) (by decide) ?_
    refine z_iconst (v := 2) O dX12_meltsOf_57 rfl ?_
    exact z_retR O hE (fun _ h => h.1) rfl dX12_meltsOf_58 h
  refine z_tableOut O 57 dX12_meltsOf_1 (by have gc1 := lv_neT (a := 1) c1 (by decide); have gc2 := lv_neT (a := 2) c2 (by decide); have gc3 := lv_neT (a := 3) c3 (by decide); have gc4 := lv_neT (a := 5) c4 (by decide); have gc5 := lv_neT (a := 6) c5 (by decide); have gc6 := lv_neT (a := 7) c6 (by decide); have gc7 := lv_neT (a := 4) c7 (by decide); omega) (by decide) ?_
  refine z_iconst (v := 2) O dX12_meltsOf_57 rfl ?_
  exact z_retR O hE (fun _ h => h.1) rfl dX12_meltsOf_58 h
def wp_X12_lightOf   (p0 : Int32) (p1 : Int32) (Q : Int32 → Prop) : Prop :=
 ((p0 = 1 →
 Q 14) ∧ (¬ p0 = 1 →
 ((p0 = 3 →
 Q 3) ∧ (¬ p0 = 3 →
 ((p0 = 4 →
 Q (14 - p1)) ∧ (¬ p0 = 4 →
 ((p0 = 5 →
 Q 3) ∧ (¬ p0 = 5 →
 ((p0 = 6 →
 Q 28) ∧ (¬ p0 = 6 →
 ((p0 = 7 →
 Q 0) ∧ (¬ p0 = 7 →
 Q 9))))))))))))
set_option maxHeartbeats 4000000 in
set_option maxRecDepth 100000 in
theorem t_X12_lightOf {σ : Type} {l : Launch} {Ks : State → Prop} (hKs : zKs Ks) {Hx : σ → Heap → Prop} {x : σ} (p0 : Int32) (p1 : Int32) (Q : Int32 → Prop) (h : wp_X12_lightOf  p0 p1 Q) : zMR l yX12_lightOf wsX12_lightOf ({ frames := 0, cells := 0, slots := 0, locals := 0 } : Room) Ks Hx x [.int p0, .int p1] Q := by
  refine zMR_of (cc := cX12_lightOf) (nL := 2) (ret := (some .int)) (by decide +kernel) rfl (Nat.le_of_ble_eq_true rfl) (fun C hl O hE hK hH => ?_)
  subst hl
  refine z_sub (lv' := [(0, .int p0), (1, .int p1)]) [0, 1] rfl ?_
  refine z_iload_n O dX12_lightOf_0 0 rfl ?_
  by_cases c1 : p0 = 1
  · replace h := h.1 c1
    refine z_tableIn (v := 1) (off := 43) O 44 dX12_lightOf_1 c1 (by decide) (by decide) (by decide) (by decide) ?_
    refine z_bipush (v := 14) O dX12_lightOf_44 rfl ?_
    exact z_retR O hE (fun _ h => h.1) rfl dX12_lightOf_46 h
  replace h := h.2 c1
  by_cases c2 : p0 = 3
  · replace h := h.1 c2
    refine z_tableIn (v := 3) (off := 46) O 47 dX12_lightOf_1 c2 (by decide) (by decide) (by decide) (by decide) ?_
    refine z_iconst (v := 3) O dX12_lightOf_47 rfl ?_
    exact z_retR O hE (fun _ h => h.1) rfl dX12_lightOf_48 h
  replace h := h.2 c2
  by_cases c3 : p0 = 4
  · replace h := h.1 c3
    refine z_tableIn (v := 4) (off := 48) O 49 dX12_lightOf_1 c3 (by decide) (by decide) (by decide) (by decide) ?_
    refine z_bipush (v := 14) O dX12_lightOf_49 rfl ?_
    refine z_iload_n O dX12_lightOf_51 1 rfl ?_
    refine z_isub O dX12_lightOf_52 ?_
    exact z_retR O hE (fun _ h => h.1) rfl dX12_lightOf_53 h
  replace h := h.2 c3
  by_cases c4 : p0 = 5
  · replace h := h.1 c4
    refine z_tableIn (v := 5) (off := 46) O 47 dX12_lightOf_1 c4 (by decide) (by decide) (by decide) (by decide) ?_
    refine z_iconst (v := 3) O dX12_lightOf_47 rfl ?_
    exact z_retR O hE (fun _ h => h.1) rfl dX12_lightOf_48 h
  replace h := h.2 c4
  by_cases c5 : p0 = 6
  · replace h := h.1 c5
    refine z_tableIn (v := 6) (off := 53) O 54 dX12_lightOf_1 c5 (by decide) (by decide) (by decide) (by decide) ?_
    refine z_bipush (v := 28) O dX12_lightOf_54 rfl ?_
    exact z_retR O hE (fun _ h => h.1) rfl dX12_lightOf_56 h
  replace h := h.2 c5
  by_cases c6 : p0 = 7
  · replace h := h.1 c6
    refine z_tableIn (v := 7) (off := 56) O 57 dX12_lightOf_1 c6 (by decide) (by decide) (by decide) (by decide) ?_
    refine z_iconst (v := 0) O dX12_lightOf_57 rfl ?_
    exact z_retR O hE (fun _ h => h.1) rfl dX12_lightOf_58 h
  replace h := h.2 c6
  by_cases c7 : p0 = 2
  · refine z_tableIn (v := 2) (off := 58) O 59 dX12_lightOf_1 c7 (by decide) (by decide) (by decide) (by decide) ?_
    refine z_bipush (v := 9) O dX12_lightOf_59 rfl ?_
    exact z_retR O hE (fun _ h => h.1) rfl dX12_lightOf_61 h
  refine z_tableOut O 59 dX12_lightOf_1 (by have gc1 := lv_neT (a := 1) c1 (by decide); have gc2 := lv_neT (a := 3) c2 (by decide); have gc3 := lv_neT (a := 4) c3 (by decide); have gc4 := lv_neT (a := 5) c4 (by decide); have gc5 := lv_neT (a := 6) c5 (by decide); have gc6 := lv_neT (a := 7) c6 (by decide); have gc7 := lv_neT (a := 2) c7 (by decide); omega) (by decide) ?_
  refine z_bipush (v := 9) O dX12_lightOf_59 rfl ?_
  exact z_retR O hE (fun _ h => h.1) rfl dX12_lightOf_61 h
def wp_X12_tollOf   (p0 : Int32) (p1 : Int32) (Q : Int32 → Prop) : Prop :=
 ((p0 = 0 →
 Q 3) ∧ (¬ p0 = 0 →
 ((p0 = 1 →
 Q (3 + p1)) ∧ (¬ p0 = 1 →
 ((p0 = 2 →
 Q (3 * (p1 + 1))) ∧ (¬ p0 = 2 →
 ((p0 = 3 →
 Q 2) ∧ (¬ p0 = 3 →
 ((p0 = 4 →
 Q (2 * (3 + p1))) ∧ (¬ p0 = 4 →
 ((p0 = 5 →
 Q 6) ∧ (¬ p0 = 5 →
 ((p0 = 6 →
 Q (10 + p1)) ∧ (¬ p0 = 6 →
 Q (2 - p1)))))))))))))))
set_option maxHeartbeats 4000000 in
set_option maxRecDepth 100000 in
theorem t_X12_tollOf {σ : Type} {l : Launch} {Ks : State → Prop} (hKs : zKs Ks) {Hx : σ → Heap → Prop} {x : σ} (p0 : Int32) (p1 : Int32) (Q : Int32 → Prop) (h : wp_X12_tollOf  p0 p1 Q) : zMR l yX12_tollOf wsX12_tollOf ({ frames := 0, cells := 0, slots := 0, locals := 0 } : Room) Ks Hx x [.int p0, .int p1] Q := by
  refine zMR_of (cc := cX12_tollOf) (nL := 2) (ret := (some .int)) (by decide +kernel) rfl (Nat.le_of_ble_eq_true rfl) (fun C hl O hE hK hH => ?_)
  subst hl
  refine z_sub (lv' := [(0, .int p0), (1, .int p1)]) [0, 1] rfl ?_
  refine z_iload_n O dX12_tollOf_0 0 rfl ?_
  by_cases c1 : p0 = 0
  · replace h := h.1 c1
    refine z_tableIn (v := 0) (off := 43) O 44 dX12_tollOf_1 c1 (by decide) (by decide) (by decide) (by decide) ?_
    refine z_iconst (v := 3) O dX12_tollOf_44 rfl ?_
    exact z_retR O hE (fun _ h => h.1) rfl dX12_tollOf_45 h
  replace h := h.2 c1
  by_cases c2 : p0 = 1
  · replace h := h.1 c2
    refine z_tableIn (v := 1) (off := 45) O 46 dX12_tollOf_1 c2 (by decide) (by decide) (by decide) (by decide) ?_
    refine z_iconst (v := 3) O dX12_tollOf_46 rfl ?_
    refine z_iload_n O dX12_tollOf_47 1 rfl ?_
    refine z_iadd O dX12_tollOf_48 ?_
    exact z_retR O hE (fun _ h => h.1) rfl dX12_tollOf_49 h
  replace h := h.2 c2
  by_cases c3 : p0 = 2
  · replace h := h.1 c3
    refine z_tableIn (v := 2) (off := 49) O 50 dX12_tollOf_1 c3 (by decide) (by decide) (by decide) (by decide) ?_
    refine z_iconst (v := 3) O dX12_tollOf_50 rfl ?_
    refine z_iload_n O dX12_tollOf_51 1 rfl ?_
    refine z_iconst (v := 1) O dX12_tollOf_52 rfl ?_
    refine z_iadd O dX12_tollOf_53 ?_
    refine z_imul O dX12_tollOf_54 ?_
    exact z_retR O hE (fun _ h => h.1) rfl dX12_tollOf_55 h
  replace h := h.2 c3
  by_cases c4 : p0 = 3
  · replace h := h.1 c4
    refine z_tableIn (v := 3) (off := 55) O 56 dX12_tollOf_1 c4 (by decide) (by decide) (by decide) (by decide) ?_
    refine z_iconst (v := 2) O dX12_tollOf_56 rfl ?_
    exact z_retR O hE (fun _ h => h.1) rfl dX12_tollOf_57 h
  replace h := h.2 c4
  by_cases c5 : p0 = 4
  · replace h := h.1 c5
    refine z_tableIn (v := 4) (off := 57) O 58 dX12_tollOf_1 c5 (by decide) (by decide) (by decide) (by decide) ?_
    refine z_iconst (v := 2) O dX12_tollOf_58 rfl ?_
    refine z_iconst (v := 3) O dX12_tollOf_59 rfl ?_
    refine z_iload_n O dX12_tollOf_60 1 rfl ?_
    refine z_iadd O dX12_tollOf_61 ?_
    refine z_imul O dX12_tollOf_62 ?_
    exact z_retR O hE (fun _ h => h.1) rfl dX12_tollOf_63 h
  replace h := h.2 c5
  by_cases c6 : p0 = 5
  · replace h := h.1 c6
    refine z_tableIn (v := 5) (off := 63) O 64 dX12_tollOf_1 c6 (by decide) (by decide) (by decide) (by decide) ?_
    refine z_bipush (v := 6) O dX12_tollOf_64 rfl ?_
    exact z_retR O hE (fun _ h => h.1) rfl dX12_tollOf_66 h
  replace h := h.2 c6
  by_cases c7 : p0 = 6
  · replace h := h.1 c7
    refine z_tableIn (v := 6) (off := 66) O 67 dX12_tollOf_1 c7 (by decide) (by decide) (by decide) (by decide) ?_
    refine z_bipush (v := 10) O dX12_tollOf_67 rfl ?_
    refine z_iload_n O dX12_tollOf_69 1 rfl ?_
    refine z_iadd O dX12_tollOf_70 ?_
    exact z_retR O hE (fun _ h => h.1) rfl dX12_tollOf_71 h
  replace h := h.2 c7
  refine z_tableOut O 72 dX12_tollOf_1 (by have gc1 := lv_neT (a := 0) c1 (by decide); have gc2 := lv_neT (a := 1) c2 (by decide); have gc3 := lv_neT (a := 2) c3 (by decide); have gc4 := lv_neT (a := 3) c4 (by decide); have gc5 := lv_neT (a := 4) c5 (by decide); have gc6 := lv_neT (a := 5) c6 (by decide); have gc7 := lv_neT (a := 6) c7 (by decide); omega) (by decide) ?_
  refine z_iconst (v := 2) O dX12_tollOf_72 rfl ?_
  refine z_iload_n O dX12_tollOf_73 1 rfl ?_
  refine z_isub O dX12_tollOf_74 ?_
  exact z_retR O hE (fun _ h => h.1) rfl dX12_tollOf_75 h
def wp_X12_freezes (x : MS)  (p1 : Int32) (p2 : Int32) (p3 : Int32) (p4 : Int32) (Q : Int32 → MS → Prop) : Prop :=
 (vp_in p1 6 ∧
 ((¬ (x.2.1 1 (Int32.toNatClampNeg p1)) = 8 →
 (vp_in p1 6 ∧
 (vp_in ((8 * p1) + (x.2.1 1 (Int32.toNatClampNeg p1))) 48 ∧
 ∀ x1 : MS, x1 = mA x 2 (upd (x.2.1 2) (Int32.toNatClampNeg ((8 * p1) + (x.2.1 1 (Int32.toNatClampNeg p1)))) p2) →
 (vp_in ((8 * p1) + (x.2.1 1 (Int32.toNatClampNeg p1))) 48 ∧
 ∀ x2 : MS, x2 = mA x1 3 (upd (x1.2.1 3) (Int32.toNatClampNeg ((8 * p1) + (x.2.1 1 (Int32.toNatClampNeg p1)))) p3) →
 (vp_in ((8 * p1) + (x.2.1 1 (Int32.toNatClampNeg p1))) 48 ∧
 ∀ x3 : MS, x3 = mA x2 4 (upd (x2.2.1 4) (Int32.toNatClampNeg ((8 * p1) + (x.2.1 1 (Int32.toNatClampNeg p1)))) (x2.1 0)) →
 wp_X12_thickOf p2 p3 p4 (fun r4 : Int32 =>
 (vp_in ((8 * p1) + (x.2.1 1 (Int32.toNatClampNeg p1))) 48 ∧
 ∀ x5 : MS, x5 = mA x3 5 (upd (x3.2.1 5) (Int32.toNatClampNeg ((8 * p1) + (x.2.1 1 (Int32.toNatClampNeg p1)))) r4) →
 (vp_in p1 6 ∧
 (vp_in p1 6 ∧
 ∀ x6 : MS, x6 = mA x5 1 (upd (x5.2.1 1) (Int32.toNatClampNeg p1) ((x5.2.1 1 (Int32.toNatClampNeg p1)) + 1)) →
 Q 1 x6))))))))) ∧ ((x.2.1 1 (Int32.toNatClampNeg p1)) = 8 →
 Q 0 x)))
set_option maxHeartbeats 4000000 in
set_option maxRecDepth 100000 in
theorem t_X12_freezes {l : Launch} {D : va_G} {cs : Nat → ClassId} {ad : Nat → Nat} (hI : wInj 18 ad) (x : MS)  (p1 : Int32) (p2 : Int32) (p3 : Int32) (p4 : Int32) (Q : Int32 → MS → Prop) (h : wp_X12_freezes x  p1 p2 p3 p4 Q) : zWR l yX12_freezes wsX12_freezes ({ frames := 1, cells := 0, slots := 0, locals := 22 } : Room) (gK D cs) (MH D cs ad) (wB 18 ad) x [.ref (ad 0), .int p1, .int p2, .int p3, .int p4] 0 0 Q := by
  refine zWR_of (cc := cX12_freezes) (nL := 6) (ret := (some .boolean)) (by decide +kernel) rfl (Nat.le_of_ble_eq_true rfl) (fun C hl O hE hK => ?_)
  subst hl
  have hX : ∀ (x : MS) (H : Heap), MH D cs ad x H → va_P D vwCl (wl 18 ad (ME cs ad x)) H := fun _ _ h => h
  have hB : ∀ {x : MS} (H : Heap), va_P D vwCl (wl 18 ad (ME cs ad x)) H → MH D cs ad x H := fun _ h => h
  have hA : ∀ q, wB 18 ad q → zA (wB 18 ad) C.s.heap.size q := fun _ h => Or.inl h
  have i12 : ∀ w ∈ wsX120, w ∈ wsX12_freezes := by decide +kernel
  refine z_sub (lv' := [(0, .ref (ad 0)), (1, .int p1), (2, .int p2), (3, .int p3), (4, .int p4)]) [0, 1, 2, 3, 4] rfl ?_
  refine z_aload_n O dX12_freezes_0 0 rfl ?_
  refine z_getf O hK.1 (hX _) (by decide) me_0 rfl i12 1 (by decide) (by decide +kernel) rfl dX12_freezes_1 ?_
  refine z_iload_n O dX12_freezes_4 1 rfl ?_
  refine z_iald O hK.1 (hX _) 0 (mk_lt mk_1) (me_A mk_1) rfl (show vp_in p1 (mlen 1) from h.1) dX12_freezes_5 ?_
  replace h := h.2
  refine z_bipush (v := 8) O dX12_freezes_6 rfl ?_
  refine z_icmp_ne O 13 dX12_freezes_8 (by decide) (fun c7 => ?_) (fun c7 => ?_)
  · replace h := h.1 c7
    refine z_bipush (v := 8) O dX12_freezes_13 rfl ?_
    refine z_iload_n O dX12_freezes_15 1 rfl ?_
    refine z_imul O dX12_freezes_16 ?_
    refine z_aload_n O dX12_freezes_17 0 rfl ?_
    refine z_getf O hK.1 (hX _) (by decide) me_0 rfl i12 1 (by decide) (by decide +kernel) rfl dX12_freezes_18 ?_
    refine z_iload_n O dX12_freezes_21 1 rfl ?_
    refine z_iald O hK.1 (hX _) 0 (mk_lt mk_1) (me_A mk_1) rfl (show vp_in p1 (mlen 1) from h.1) dX12_freezes_22 ?_
    replace h := h.2
    refine z_iadd O dX12_freezes_23 ?_
    refine z_istore (lv' := [(5, .int ((8 * p1) + (x.2.1 1 (Int32.toNatClampNeg p1)))), (0, .ref (ad 0)), (1, .int p1), (2, .int p2), (3, .int p3), (4, .int p4)]) O dX12_freezes_24 (by decide) rfl ?_
    refine z_aload_n O dX12_freezes_26 1 rfl ?_
    refine z_getf O hK.1 (hX _) (by decide) me_0 rfl i12 2 (by decide) (by decide +kernel) rfl dX12_freezes_27 ?_
    refine z_iload O dX12_freezes_30 0 rfl ?_
    refine z_iload_n O dX12_freezes_32 3 rfl ?_
    have hb0 := h.1
    replace h := h.2
    obtain ⟨x1, ex1⟩ : ∃ z, z = mA x 2 (upd (x.2.1 2) (Int32.toNatClampNeg ((8 * p1) + (x.2.1 1 (Int32.toNatClampNeg p1)))) p2) := ⟨_, rfl⟩
    replace h := h x1 ex1
    refine z_iast (x' := x1) O hK.1 (hX _) hB hI hA 0 (mk_lt mk_2) (me_A mk_2) rfl (show vp_in ((8 * p1) + (x.2.1 1 (Int32.toNatClampNeg p1))) (mlen 2) from hb0) (by rw [ex1]; exact me_setA mk_2 _) dX12_freezes_33 ?_
    refine z_aload_n O dX12_freezes_34 1 rfl ?_
    refine z_getf O hK.1 (hX _) (by decide) me_0 rfl i12 3 (by decide) (by decide +kernel) rfl dX12_freezes_35 ?_
    refine z_iload O dX12_freezes_38 0 rfl ?_
    refine z_iload_n O dX12_freezes_40 4 rfl ?_
    have hb0 := h.1
    replace h := h.2
    obtain ⟨x2, ex2⟩ : ∃ z, z = mA x1 3 (upd (x1.2.1 3) (Int32.toNatClampNeg ((8 * p1) + (x.2.1 1 (Int32.toNatClampNeg p1)))) p3) := ⟨_, rfl⟩
    replace h := h x2 ex2
    refine z_iast (x' := x2) O hK.1 (hX _) hB hI hA 0 (mk_lt mk_3) (me_A mk_3) rfl (show vp_in ((8 * p1) + (x.2.1 1 (Int32.toNatClampNeg p1))) (mlen 3) from hb0) (by rw [ex2]; exact me_setA mk_3 _) dX12_freezes_41 ?_
    refine z_aload_n O dX12_freezes_42 1 rfl ?_
    refine z_getf O hK.1 (hX _) (by decide) me_0 rfl i12 4 (by decide) (by decide +kernel) rfl dX12_freezes_43 ?_
    refine z_iload O dX12_freezes_46 0 rfl ?_
    refine z_aload_n O dX12_freezes_48 1 rfl ?_
    refine z_getf O hK.1 (hX _) (by decide) me_0 rfl i12 0 (by decide) (by decide +kernel) rfl dX12_freezes_49 ?_
    have hb0 := h.1
    replace h := h.2
    obtain ⟨x3, ex3⟩ : ∃ z, z = mA x2 4 (upd (x2.2.1 4) (Int32.toNatClampNeg ((8 * p1) + (x.2.1 1 (Int32.toNatClampNeg p1)))) (x2.1 0)) := ⟨_, rfl⟩
    replace h := h x3 ex3
    refine z_iast (x' := x3) O hK.1 (hX _) hB hI hA 0 (mk_lt mk_4) (me_A mk_4) rfl (show vp_in ((8 * p1) + (x.2.1 1 (Int32.toNatClampNeg p1))) (mlen 4) from hb0) (by rw [ex3]; exact me_setA mk_4 _) dX12_freezes_52 ?_
    refine z_aload_n O dX12_freezes_53 1 rfl ?_
    refine z_getf O hK.1 (hX _) (by decide) me_0 rfl i12 5 (by decide) (by decide +kernel) rfl dX12_freezes_54 ?_
    refine z_iload O dX12_freezes_57 0 rfl ?_
    refine z_iload_n O dX12_freezes_59 3 rfl ?_
    refine z_iload_n O dX12_freezes_60 4 rfl ?_
    refine z_iload O dX12_freezes_61 5 rfl ?_
    refine z_callR (gKs D cs) hK (fun _ h => h) (t_X12_thickOf (gKs D cs) p2 p3 p4 _ h) (zr_SS (As := [.int p2, .int p3, .int p4]) (rest := [.int ((8 * p1) + (x.2.1 1 (Int32.toNatClampNeg p1))), .ref (ad 5)]) O hE.1 3 gX12_freezes_X12_thickOf rfl rfl rfl (by decide +kernel) ⟨(Nat.le_of_ble_eq_true rfl), (Nat.le_of_ble_eq_true rfl)⟩ ⟨(Nat.le_of_ble_eq_true rfl), (Nat.le_of_ble_eq_true rfl)⟩ rfl rfl (Nat.le_of_ble_eq_true rfl) dX12_freezes_63) (fun r4 h => ?_)
    have hb0 := h.1
    replace h := h.2
    obtain ⟨x5, ex5⟩ : ∃ z, z = mA x3 5 (upd (x3.2.1 5) (Int32.toNatClampNeg ((8 * p1) + (x.2.1 1 (Int32.toNatClampNeg p1)))) r4) := ⟨_, rfl⟩
    replace h := h x5 ex5
    refine z_iast (x' := x5) O hK.1 (hX _) hB hI hA 0 (mk_lt mk_5) (me_A mk_5) rfl (show vp_in ((8 * p1) + (x.2.1 1 (Int32.toNatClampNeg p1))) (mlen 5) from hb0) (by rw [ex5]; exact me_setA mk_5 _) dX12_freezes_66 ?_
    refine z_aload_n O dX12_freezes_67 1 rfl ?_
    refine z_getf O hK.1 (hX _) (by decide) me_0 rfl i12 1 (by decide) (by decide +kernel) rfl dX12_freezes_68 ?_
    refine z_iload_n O dX12_freezes_71 2 rfl ?_
    refine z_dup2 O dX12_freezes_72 rfl rfl ?_
    refine z_iald O hK.1 (hX _) 0 (mk_lt mk_1) (me_A mk_1) rfl (show vp_in p1 (mlen 1) from h.1) dX12_freezes_73 ?_
    replace h := h.2
    refine z_iconst (v := 1) O dX12_freezes_74 rfl ?_
    refine z_iadd O dX12_freezes_75 ?_
    have hb0 := h.1
    replace h := h.2
    obtain ⟨x6, ex6⟩ : ∃ z, z = mA x5 1 (upd (x5.2.1 1) (Int32.toNatClampNeg p1) ((x5.2.1 1 (Int32.toNatClampNeg p1)) + 1)) := ⟨_, rfl⟩
    replace h := h x6 ex6
    refine z_iast (x' := x6) O hK.1 (hX _) hB hI hA 0 (mk_lt mk_1) (me_A mk_1) rfl (show vp_in p1 (mlen 1) from hb0) (by rw [ex6]; exact me_setA mk_1 _) dX12_freezes_76 ?_
    refine z_iconst (v := 1) O dX12_freezes_77 rfl ?_
    exact z_retWR O hE (Nat.le_of_ble_eq_true rfl) (Nat.le_of_ble_eq_true rfl) rfl dX12_freezes_78 h
  · replace h := h.2 c7
    refine z_iconst (v := 0) O dX12_freezes_11 rfl ?_
    exact z_retWR O hE (Nat.le_of_ble_eq_true rfl) (Nat.le_of_ble_eq_true rfl) rfl dX12_freezes_12 h
def wp_X12_warmDay (x : MS)   (Q : Int32 → MS → Prop) : Prop :=
 (∃ (I4 : Int32 → Int32 → MS → Prop) (U4 : Int32 → Int32 → MS → Nat), I4 0 0 x ∧ ∀ (y1 : Int32) (y2 : Int32) (x3 : MS), I4 y1 y2 x3 →
 ((6 ≤ y2 →
 Q y1 x3) ∧ (¬ 6 ≤ y2 →
 (vp_in y2 6 ∧
 (vp_in y2 6 ∧
 (((x3.2.1 1 (Int32.toNatClampNeg y2)) ≤ 0 →
 (I4 y1 (y2 + 1) x3 ∧ U4 y1 (y2 + 1) x3 < U4 y1 y2 x3)) ∧ (¬ (x3.2.1 1 (Int32.toNatClampNeg y2)) ≤ 0 →
 (vp_in (((8 * y2) + (x3.2.1 1 (Int32.toNatClampNeg y2))) - 1) 48 ∧
 (vp_in (((8 * y2) + (x3.2.1 1 (Int32.toNatClampNeg y2))) - 1) 48 ∧
 (vp_in (((8 * y2) + (x3.2.1 1 (Int32.toNatClampNeg y2))) - 1) 48 ∧
 wp_X12_meltsOf (x3.2.1 2 (Int32.toNatClampNeg (((8 * y2) + (x3.2.1 1 (Int32.toNatClampNeg y2))) - 1))) (x3.2.1 3 (Int32.toNatClampNeg (((8 * y2) + (x3.2.1 1 (Int32.toNatClampNeg y2))) - 1))) (fun r4 : Int32 =>
 (vp_in (((8 * y2) + (x3.2.1 1 (Int32.toNatClampNeg y2))) - 1) 48 ∧
 ∀ x5 : MS, x5 = mA x3 5 (upd (x3.2.1 5) (Int32.toNatClampNeg (((8 * y2) + (x3.2.1 1 (Int32.toNatClampNeg y2))) - 1)) ((x3.2.1 5 (Int32.toNatClampNeg (((8 * y2) + (x3.2.1 1 (Int32.toNatClampNeg y2))) - 1))) - r4)) →
 (vp_in (((8 * y2) + (x3.2.1 1 (Int32.toNatClampNeg y2))) - 1) 48 ∧
 ((0 < (x5.2.1 5 (Int32.toNatClampNeg (((8 * y2) + (x3.2.1 1 (Int32.toNatClampNeg y2))) - 1))) →
 (vp_in y2 6 ∧
 (vp_in y2 6 ∧
 ∀ x6 : MS, x6 = mA x5 1 (upd (x5.2.1 1) (Int32.toNatClampNeg y2) ((x5.2.1 1 (Int32.toNatClampNeg y2)) - 0)) →
 (I4 (y1 + 0) (y2 + 1) x6 ∧ U4 (y1 + 0) (y2 + 1) x6 < U4 y1 y2 x3)))) ∧ (¬ 0 < (x5.2.1 5 (Int32.toNatClampNeg (((8 * y2) + (x3.2.1 1 (Int32.toNatClampNeg y2))) - 1))) →
 (vp_in y2 6 ∧
 (vp_in y2 6 ∧
 ∀ x7 : MS, x7 = mA x5 1 (upd (x5.2.1 1) (Int32.toNatClampNeg y2) ((x5.2.1 1 (Int32.toNatClampNeg y2)) - 1)) →
 (I4 (y1 + 1) (y2 + 1) x7 ∧ U4 (y1 + 1) (y2 + 1) x7 < U4 y1 y2 x3))))))))))))))))))
set_option maxHeartbeats 4000000 in
set_option maxRecDepth 100000 in
theorem t_X12_warmDay {l : Launch} {D : va_G} {cs : Nat → ClassId} {ad : Nat → Nat} (hI : wInj 18 ad) (x : MS)   (Q : Int32 → MS → Prop) (h : wp_X12_warmDay x   Q) : zWR l yX12_warmDay wsX12_warmDay ({ frames := 1, cells := 0, slots := 0, locals := 21 } : Room) (gK D cs) (MH D cs ad) (wB 18 ad) x [.ref (ad 0)] 0 0 Q := by
  refine zWR_of (cc := cX12_warmDay) (nL := 5) (ret := (some .int)) (by decide +kernel) rfl (Nat.le_of_ble_eq_true rfl) (fun C hl O hE hK => ?_)
  subst hl
  have hX : ∀ (x : MS) (H : Heap), MH D cs ad x H → va_P D vwCl (wl 18 ad (ME cs ad x)) H := fun _ _ h => h
  have hB : ∀ {x : MS} (H : Heap), va_P D vwCl (wl 18 ad (ME cs ad x)) H → MH D cs ad x H := fun _ h => h
  have hA : ∀ q, wB 18 ad q → zA (wB 18 ad) C.s.heap.size q := fun _ h => Or.inl h
  have i12 : ∀ w ∈ wsX120, w ∈ wsX12_warmDay := by decide +kernel
  refine z_sub (lv' := [(0, .ref (ad 0))]) [0] rfl ?_
  refine z_iconst (v := 0) O dX12_warmDay_0 rfl ?_
  refine z_istore_n (lv' := [(1, .int 0), (0, .ref (ad 0))]) O dX12_warmDay_1 (by decide) rfl ?_
  refine z_iconst (v := 0) O dX12_warmDay_2 rfl ?_
  refine z_istore_n (lv' := [(2, .int 0), (1, .int 0), (0, .ref (ad 0))]) O dX12_warmDay_3 (by decide) rfl ?_
  obtain ⟨I4, U4, h0, hs⟩ := h
  have kI4 : ∀ (n : Nat) (y1 : Int32) (y2 : Int32) (x3 : MS), U4 y1 y2 x3 < n → I4 y1 y2 x3 → Z C (zA (wB 18 ad) C.s.heap.size) (MH D cs ad) 5 x3 [(0, .ref (ad 0)), (1, .int y1), (2, .int y2)] 0 0 4 [] := by
    intro n
    induction n with
    | zero => intro y1 y2 x3 uI4; exact absurd uI4 (Nat.not_lt_zero _)
    | succ n iI4 =>
      intro y1 y2 x3 uI4 h
      have h := hs y1 y2 x3 h
      refine z_iload_n O dX12_warmDay_4 2 rfl ?_
      refine z_bipush (v := 6) O dX12_warmDay_5 rfl ?_
      refine z_icmp_ge O 111 dX12_warmDay_7 (by decide) (fun c10 => ?_) (fun c10 => ?_)
      · replace h := h.1 c10
        refine z_iload_n O dX12_warmDay_111 1 rfl ?_
        exact z_retWR O hE (Nat.le_of_ble_eq_true rfl) (Nat.le_of_ble_eq_true rfl) rfl dX12_warmDay_112 h
      · replace h := h.2 c10
        refine z_bipush (v := 8) O dX12_warmDay_10 rfl ?_
        refine z_iload_n O dX12_warmDay_12 2 rfl ?_
        refine z_imul O dX12_warmDay_13 ?_
        refine z_aload_n O dX12_warmDay_14 0 rfl ?_
        refine z_getf O hK.1 (hX _) (by decide) me_0 rfl i12 1 (by decide) (by decide +kernel) rfl dX12_warmDay_15 ?_
        refine z_iload_n O dX12_warmDay_18 2 rfl ?_
        refine z_iald O hK.1 (hX _) 0 (mk_lt mk_1) (me_A mk_1) rfl (show vp_in y2 (mlen 1) from h.1) dX12_warmDay_19 ?_
        replace h := h.2
        refine z_iadd O dX12_warmDay_20 ?_
        refine z_iconst (v := 1) O dX12_warmDay_21 rfl ?_
        refine z_isub O dX12_warmDay_22 ?_
        refine z_istore_n (lv' := [(3, .int (((8 * y2) + (x3.2.1 1 (Int32.toNatClampNeg y2))) - 1)), (0, .ref (ad 0)), (1, .int y1), (2, .int y2)]) O dX12_warmDay_23 (by decide) rfl ?_
        refine z_aload_n O dX12_warmDay_24 1 rfl ?_
        refine z_getf O hK.1 (hX _) (by decide) me_0 rfl i12 1 (by decide) (by decide +kernel) rfl dX12_warmDay_25 ?_
        refine z_iload_n O dX12_warmDay_28 3 rfl ?_
        refine z_iald O hK.1 (hX _) 0 (mk_lt mk_1) (me_A mk_1) rfl (show vp_in y2 (mlen 1) from h.1) dX12_warmDay_29 ?_
        replace h := h.2
        refine z_if_le O 105 dX12_warmDay_30 (by decide) (fun c9 => ?_) (fun c9 => ?_)
        · replace h := h.1 c9
          refine z_iinc (lv' := [(2, .int (y2 + 1)), (3, .int (((8 * y2) + (x3.2.1 1 (Int32.toNatClampNeg y2))) - 1)), (0, .ref (ad 0)), (1, .int y1)]) O dX12_warmDay_105 3 rfl rfl (by decide) rfl ?_
          refine z_goto O 4 dX12_warmDay_108 (by decide) ?_
          exact z_sub [2, 3, 0] rfl (iI4 y1 (y2 + 1) x3 (Nat.lt_of_lt_of_le h.2 (Nat.le_of_lt_succ uI4)) h.1)
        · replace h := h.2 c9
          refine z_aload_n O dX12_warmDay_33 1 rfl ?_
          refine z_getf O hK.1 (hX _) (by decide) me_0 rfl i12 5 (by decide) (by decide +kernel) rfl dX12_warmDay_34 ?_
          refine z_iload_n O dX12_warmDay_37 0 rfl ?_
          refine z_dup2 O dX12_warmDay_38 rfl rfl ?_
          refine z_iald O hK.1 (hX _) 0 (mk_lt mk_5) (me_A mk_5) rfl (show vp_in (((8 * y2) + (x3.2.1 1 (Int32.toNatClampNeg y2))) - 1) (mlen 5) from h.1) dX12_warmDay_39 ?_
          replace h := h.2
          refine z_aload_n O dX12_warmDay_40 1 rfl ?_
          refine z_getf O hK.1 (hX _) (by decide) me_0 rfl i12 2 (by decide) (by decide +kernel) rfl dX12_warmDay_41 ?_
          refine z_iload_n O dX12_warmDay_44 0 rfl ?_
          refine z_iald O hK.1 (hX _) 0 (mk_lt mk_2) (me_A mk_2) rfl (show vp_in (((8 * y2) + (x3.2.1 1 (Int32.toNatClampNeg y2))) - 1) (mlen 2) from h.1) dX12_warmDay_45 ?_
          replace h := h.2
          refine z_aload_n O dX12_warmDay_46 1 rfl ?_
          refine z_getf O hK.1 (hX _) (by decide) me_0 rfl i12 3 (by decide) (by decide +kernel) rfl dX12_warmDay_47 ?_
          refine z_iload_n O dX12_warmDay_50 0 rfl ?_
          refine z_iald O hK.1 (hX _) 0 (mk_lt mk_3) (me_A mk_3) rfl (show vp_in (((8 * y2) + (x3.2.1 1 (Int32.toNatClampNeg y2))) - 1) (mlen 3) from h.1) dX12_warmDay_51 ?_
          replace h := h.2
          refine z_callR (gKs D cs) hK (fun _ h => h) (t_X12_meltsOf (gKs D cs) (x3.2.1 2 (Int32.toNatClampNeg (((8 * y2) + (x3.2.1 1 (Int32.toNatClampNeg y2))) - 1))) (x3.2.1 3 (Int32.toNatClampNeg (((8 * y2) + (x3.2.1 1 (Int32.toNatClampNeg y2))) - 1))) _ h) (zr_SS (As := [.int (x3.2.1 2 (Int32.toNatClampNeg (((8 * y2) + (x3.2.1 1 (Int32.toNatClampNeg y2))) - 1))), .int (x3.2.1 3 (Int32.toNatClampNeg (((8 * y2) + (x3.2.1 1 (Int32.toNatClampNeg y2))) - 1)))]) (rest := [.int (x3.2.1 5 (Int32.toNatClampNeg (((8 * y2) + (x3.2.1 1 (Int32.toNatClampNeg y2))) - 1))), .int (((8 * y2) + (x3.2.1 1 (Int32.toNatClampNeg y2))) - 1), .ref (ad 5)]) O hE.1 2 gX12_warmDay_X12_meltsOf rfl rfl rfl (by decide +kernel) ⟨(Nat.le_of_ble_eq_true rfl), (Nat.le_of_ble_eq_true rfl)⟩ ⟨(Nat.le_of_ble_eq_true rfl), (Nat.le_of_ble_eq_true rfl)⟩ rfl rfl (Nat.le_of_ble_eq_true rfl) dX12_warmDay_52) (fun r4 h => ?_)
          refine z_isub O dX12_warmDay_55 ?_
          have hb0 := h.1
          replace h := h.2
          obtain ⟨x5, ex5⟩ : ∃ z, z = mA x3 5 (upd (x3.2.1 5) (Int32.toNatClampNeg (((8 * y2) + (x3.2.1 1 (Int32.toNatClampNeg y2))) - 1)) ((x3.2.1 5 (Int32.toNatClampNeg (((8 * y2) + (x3.2.1 1 (Int32.toNatClampNeg y2))) - 1))) - r4)) := ⟨_, rfl⟩
          replace h := h x5 ex5
          refine z_iast (x' := x5) O hK.1 (hX _) hB hI hA 0 (mk_lt mk_5) (me_A mk_5) rfl (show vp_in (((8 * y2) + (x3.2.1 1 (Int32.toNatClampNeg y2))) - 1) (mlen 5) from hb0) (by rw [ex5]; exact me_setA mk_5 _) dX12_warmDay_56 ?_
          refine z_aload_n O dX12_warmDay_57 1 rfl ?_
          refine z_getf O hK.1 (hX _) (by decide) me_0 rfl i12 5 (by decide) (by decide +kernel) rfl dX12_warmDay_58 ?_
          refine z_iload_n O dX12_warmDay_61 0 rfl ?_
          refine z_iald O hK.1 (hX _) 0 (mk_lt mk_5) (me_A mk_5) rfl (show vp_in (((8 * y2) + (x3.2.1 1 (Int32.toNatClampNeg y2))) - 1) (mlen 5) from h.1) dX12_warmDay_62 ?_
          replace h := h.2
          refine z_if_gt O 70 dX12_warmDay_63 (by decide) (fun c8 => ?_) (fun c8 => ?_)
          · replace h := h.1 c8
            refine z_iconst (v := 0) O dX12_warmDay_70 rfl ?_
            refine z_istore (lv' := [(4, .int 0), (3, .int (((8 * y2) + (x3.2.1 1 (Int32.toNatClampNeg y2))) - 1)), (0, .ref (ad 0)), (1, .int y1), (2, .int y2)]) O dX12_warmDay_71 (by decide) rfl ?_
            refine z_aload_n O dX12_warmDay_73 2 rfl ?_
            refine z_getf O hK.1 (hX _) (by decide) me_0 rfl i12 1 (by decide) (by decide +kernel) rfl dX12_warmDay_74 ?_
            refine z_iload_n O dX12_warmDay_77 4 rfl ?_
            refine z_dup2 O dX12_warmDay_78 rfl rfl ?_
            refine z_iald O hK.1 (hX _) 0 (mk_lt mk_1) (me_A mk_1) rfl (show vp_in y2 (mlen 1) from h.1) dX12_warmDay_79 ?_
            replace h := h.2
            refine z_iload O dX12_warmDay_80 0 rfl ?_
            refine z_if_eq O 89 dX12_warmDay_82 (by decide) (fun _ => ?_) (fun c => absurd c (by decide))
            refine z_iconst (v := 0) O dX12_warmDay_89 rfl ?_
            refine z_isub O dX12_warmDay_90 ?_
            have hb0 := h.1
            replace h := h.2
            obtain ⟨x6, ex6⟩ : ∃ z, z = mA x5 1 (upd (x5.2.1 1) (Int32.toNatClampNeg y2) ((x5.2.1 1 (Int32.toNatClampNeg y2)) - 0)) := ⟨_, rfl⟩
            replace h := h x6 ex6
            refine z_iast (x' := x6) O hK.1 (hX _) hB hI hA 0 (mk_lt mk_1) (me_A mk_1) rfl (show vp_in y2 (mlen 1) from hb0) (by rw [ex6]; exact me_setA mk_1 _) dX12_warmDay_91 ?_
            refine z_iload_n O dX12_warmDay_92 3 rfl ?_
            refine z_iload O dX12_warmDay_93 0 rfl ?_
            refine z_if_eq O 102 dX12_warmDay_95 (by decide) (fun _ => ?_) (fun c => absurd c (by decide))
            refine z_iconst (v := 0) O dX12_warmDay_102 rfl ?_
            refine z_iadd O dX12_warmDay_103 ?_
            refine z_istore_n (lv' := [(1, .int (y1 + 0)), (4, .int 0), (3, .int (((8 * y2) + (x3.2.1 1 (Int32.toNatClampNeg y2))) - 1)), (0, .ref (ad 0)), (2, .int y2)]) O dX12_warmDay_104 (by decide) rfl ?_
            refine z_iinc (lv' := [(2, .int (y2 + 1)), (1, .int (y1 + 0)), (4, .int 0), (3, .int (((8 * y2) + (x3.2.1 1 (Int32.toNatClampNeg y2))) - 1)), (0, .ref (ad 0))]) O dX12_warmDay_105 4 rfl rfl (by decide) rfl ?_
            refine z_goto O 4 dX12_warmDay_108 (by decide) ?_
            exact z_sub [4, 1, 0] rfl (iI4 (y1 + 0) (y2 + 1) x6 (Nat.lt_of_lt_of_le h.2 (Nat.le_of_lt_succ uI4)) h.1)
          · replace h := h.2 c8
            refine z_iconst (v := 1) O dX12_warmDay_66 rfl ?_
            refine z_goto O 71 dX12_warmDay_67 (by decide) ?_
            refine z_istore (lv' := [(4, .int 1), (3, .int (((8 * y2) + (x3.2.1 1 (Int32.toNatClampNeg y2))) - 1)), (0, .ref (ad 0)), (1, .int y1), (2, .int y2)]) O dX12_warmDay_71 (by decide) rfl ?_
            refine z_aload_n O dX12_warmDay_73 2 rfl ?_
            refine z_getf O hK.1 (hX _) (by decide) me_0 rfl i12 1 (by decide) (by decide +kernel) rfl dX12_warmDay_74 ?_
            refine z_iload_n O dX12_warmDay_77 4 rfl ?_
            refine z_dup2 O dX12_warmDay_78 rfl rfl ?_
            refine z_iald O hK.1 (hX _) 0 (mk_lt mk_1) (me_A mk_1) rfl (show vp_in y2 (mlen 1) from h.1) dX12_warmDay_79 ?_
            replace h := h.2
            refine z_iload O dX12_warmDay_80 0 rfl ?_
            refine z_if_eq O 89 dX12_warmDay_82 (by decide) (fun c => absurd c (by decide)) (fun _ => ?_)
            refine z_iconst (v := 1) O dX12_warmDay_85 rfl ?_
            refine z_goto O 90 dX12_warmDay_86 (by decide) ?_
            refine z_isub O dX12_warmDay_90 ?_
            have hb0 := h.1
            replace h := h.2
            obtain ⟨x7, ex7⟩ : ∃ z, z = mA x5 1 (upd (x5.2.1 1) (Int32.toNatClampNeg y2) ((x5.2.1 1 (Int32.toNatClampNeg y2)) - 1)) := ⟨_, rfl⟩
            replace h := h x7 ex7
            refine z_iast (x' := x7) O hK.1 (hX _) hB hI hA 0 (mk_lt mk_1) (me_A mk_1) rfl (show vp_in y2 (mlen 1) from hb0) (by rw [ex7]; exact me_setA mk_1 _) dX12_warmDay_91 ?_
            refine z_iload_n O dX12_warmDay_92 3 rfl ?_
            refine z_iload O dX12_warmDay_93 0 rfl ?_
            refine z_if_eq O 102 dX12_warmDay_95 (by decide) (fun c => absurd c (by decide)) (fun _ => ?_)
            refine z_iconst (v := 1) O dX12_warmDay_98 rfl ?_
            refine z_goto O 103 dX12_warmDay_99 (by decide) ?_
            refine z_iadd O dX12_warmDay_103 ?_
            refine z_istore_n (lv' := [(1, .int (y1 + 1)), (4, .int 1), (3, .int (((8 * y2) + (x3.2.1 1 (Int32.toNatClampNeg y2))) - 1)), (0, .ref (ad 0)), (2, .int y2)]) O dX12_warmDay_104 (by decide) rfl ?_
            refine z_iinc (lv' := [(2, .int (y2 + 1)), (1, .int (y1 + 1)), (4, .int 1), (3, .int (((8 * y2) + (x3.2.1 1 (Int32.toNatClampNeg y2))) - 1)), (0, .ref (ad 0))]) O dX12_warmDay_105 4 rfl rfl (by decide) rfl ?_
            refine z_goto O 4 dX12_warmDay_108 (by decide) ?_
            exact z_sub [4, 1, 0] rfl (iI4 (y1 + 1) (y2 + 1) x7 (Nat.lt_of_lt_of_le h.2 (Nat.le_of_lt_succ uI4)) h.1)
  exact z_sub [2, 1, 0] rfl (kI4 _ 0 0 x (Nat.lt_succ_self _) h0)
def wp_X12_cuts (x : MS)  (p1 : Int32) (p2 : Int32) (Q : Int32 → MS → Prop) : Prop :=
 (∃ (I5 : Int32 → Int32 → MS → Prop) (U5 : Int32 → Int32 → MS → Nat), I5 p2 0 x ∧ ∀ (y1 : Int32) (y2 : Int32) (x3 : MS), I5 y1 y2 x3 →
 ((y1 ≤ 0 →
 Q y2 x3) ∧ (¬ y1 ≤ 0 →
 (vp_in p1 6 ∧
 (((x3.2.1 1 (Int32.toNatClampNeg p1)) ≤ 0 →
 Q y2 x3) ∧ (¬ (x3.2.1 1 (Int32.toNatClampNeg p1)) ≤ 0 →
 (vp_in p1 6 ∧
 (vp_in (((8 * p1) + (x3.2.1 1 (Int32.toNatClampNeg p1))) - 1) 48 ∧
 ((y1 ≤ (x3.2.1 5 (Int32.toNatClampNeg (((8 * p1) + (x3.2.1 1 (Int32.toNatClampNeg p1))) - 1))) →
 (vp_in (((8 * p1) + (x3.2.1 1 (Int32.toNatClampNeg p1))) - 1) 48 ∧
 (vp_in (((8 * p1) + (x3.2.1 1 (Int32.toNatClampNeg p1))) - 1) 48 ∧
 ∀ x4 : MS, x4 = mA x3 5 (upd (x3.2.1 5) (Int32.toNatClampNeg (((8 * p1) + (x3.2.1 1 (Int32.toNatClampNeg p1))) - 1)) ((x3.2.1 5 (Int32.toNatClampNeg (((8 * p1) + (x3.2.1 1 (Int32.toNatClampNeg p1))) - 1))) - y1)) →
 (vp_in (((8 * p1) + (x3.2.1 1 (Int32.toNatClampNeg p1))) - 1) 48 ∧
 ((¬ (x4.2.1 5 (Int32.toNatClampNeg (((8 * p1) + (x3.2.1 1 (Int32.toNatClampNeg p1))) - 1))) = 0 →
 (vp_in p1 6 ∧
 (vp_in p1 6 ∧
 ∀ x5 : MS, x5 = mA x4 1 (upd (x4.2.1 1) (Int32.toNatClampNeg p1) ((x4.2.1 1 (Int32.toNatClampNeg p1)) - 0)) →
 (I5 (y1 - y1) (y2 + 0) x5 ∧ U5 (y1 - y1) (y2 + 0) x5 < U5 y1 y2 x3)))) ∧ ((x4.2.1 5 (Int32.toNatClampNeg (((8 * p1) + (x3.2.1 1 (Int32.toNatClampNeg p1))) - 1))) = 0 →
 (vp_in p1 6 ∧
 (vp_in p1 6 ∧
 ∀ x6 : MS, x6 = mA x4 1 (upd (x4.2.1 1) (Int32.toNatClampNeg p1) ((x4.2.1 1 (Int32.toNatClampNeg p1)) - 1)) →
 (I5 (y1 - y1) (y2 + 1) x6 ∧ U5 (y1 - y1) (y2 + 1) x6 < U5 y1 y2 x3))))))))) ∧ (¬ y1 ≤ (x3.2.1 5 (Int32.toNatClampNeg (((8 * p1) + (x3.2.1 1 (Int32.toNatClampNeg p1))) - 1))) →
 (vp_in (((8 * p1) + (x3.2.1 1 (Int32.toNatClampNeg p1))) - 1) 48 ∧
 (vp_in (((8 * p1) + (x3.2.1 1 (Int32.toNatClampNeg p1))) - 1) 48 ∧
 (vp_in (((8 * p1) + (x3.2.1 1 (Int32.toNatClampNeg p1))) - 1) 48 ∧
 ∀ x8 : MS, x8 = mA x3 5 (upd (x3.2.1 5) (Int32.toNatClampNeg (((8 * p1) + (x3.2.1 1 (Int32.toNatClampNeg p1))) - 1)) ((x3.2.1 5 (Int32.toNatClampNeg (((8 * p1) + (x3.2.1 1 (Int32.toNatClampNeg p1))) - 1))) - (x3.2.1 5 (Int32.toNatClampNeg (((8 * p1) + (x3.2.1 1 (Int32.toNatClampNeg p1))) - 1))))) →
 (vp_in (((8 * p1) + (x3.2.1 1 (Int32.toNatClampNeg p1))) - 1) 48 ∧
 ((¬ (x8.2.1 5 (Int32.toNatClampNeg (((8 * p1) + (x3.2.1 1 (Int32.toNatClampNeg p1))) - 1))) = 0 →
 (vp_in p1 6 ∧
 (vp_in p1 6 ∧
 ∀ x9 : MS, x9 = mA x8 1 (upd (x8.2.1 1) (Int32.toNatClampNeg p1) ((x8.2.1 1 (Int32.toNatClampNeg p1)) - 0)) →
 (I5 (y1 - (x3.2.1 5 (Int32.toNatClampNeg (((8 * p1) + (x3.2.1 1 (Int32.toNatClampNeg p1))) - 1)))) (y2 + 0) x9 ∧ U5 (y1 - (x3.2.1 5 (Int32.toNatClampNeg (((8 * p1) + (x3.2.1 1 (Int32.toNatClampNeg p1))) - 1)))) (y2 + 0) x9 < U5 y1 y2 x3)))) ∧ ((x8.2.1 5 (Int32.toNatClampNeg (((8 * p1) + (x3.2.1 1 (Int32.toNatClampNeg p1))) - 1))) = 0 →
 (vp_in p1 6 ∧
 (vp_in p1 6 ∧
 ∀ x10 : MS, x10 = mA x8 1 (upd (x8.2.1 1) (Int32.toNatClampNeg p1) ((x8.2.1 1 (Int32.toNatClampNeg p1)) - 1)) →
 (I5 (y1 - (x3.2.1 5 (Int32.toNatClampNeg (((8 * p1) + (x3.2.1 1 (Int32.toNatClampNeg p1))) - 1)))) (y2 + 1) x10 ∧ U5 (y1 - (x3.2.1 5 (Int32.toNatClampNeg (((8 * p1) + (x3.2.1 1 (Int32.toNatClampNeg p1))) - 1)))) (y2 + 1) x10 < U5 y1 y2 x3)))))))))))))))))))
set_option maxHeartbeats 4000000 in
set_option maxRecDepth 100000 in
theorem t_X12_cuts {l : Launch} {D : va_G} {cs : Nat → ClassId} {ad : Nat → Nat} (hI : wInj 18 ad) (x : MS)  (p1 : Int32) (p2 : Int32) (Q : Int32 → MS → Prop) (h : wp_X12_cuts x  p1 p2 Q) : zWR l yX12_cuts wsX12_cuts ({ frames := 0, cells := 0, slots := 0, locals := 0 } : Room) (gK D cs) (MH D cs ad) (wB 18 ad) x [.ref (ad 0), .int p1, .int p2] 0 0 Q := by
  refine zWR_of (cc := cX12_cuts) (nL := 8) (ret := (some .int)) (by decide +kernel) rfl (Nat.le_of_ble_eq_true rfl) (fun C hl O hE hK => ?_)
  subst hl
  have hX : ∀ (x : MS) (H : Heap), MH D cs ad x H → va_P D vwCl (wl 18 ad (ME cs ad x)) H := fun _ _ h => h
  have hB : ∀ {x : MS} (H : Heap), va_P D vwCl (wl 18 ad (ME cs ad x)) H → MH D cs ad x H := fun _ h => h
  have hA : ∀ q, wB 18 ad q → zA (wB 18 ad) C.s.heap.size q := fun _ h => Or.inl h
  have i12 : ∀ w ∈ wsX120, w ∈ wsX12_cuts := by decide +kernel
  refine z_sub (lv' := [(0, .ref (ad 0)), (1, .int p1), (2, .int p2)]) [0, 1, 2] rfl ?_
  refine z_iload_n O dX12_cuts_0 2 rfl ?_
  refine z_istore_n (lv' := [(3, .int p2), (0, .ref (ad 0)), (1, .int p1), (2, .int p2)]) O dX12_cuts_1 (by decide) rfl ?_
  refine z_iconst (v := 0) O dX12_cuts_2 rfl ?_
  refine z_istore (lv' := [(4, .int 0), (3, .int p2), (0, .ref (ad 0)), (1, .int p1), (2, .int p2)]) O dX12_cuts_3 (by decide) rfl ?_
  obtain ⟨I5, U5, h0, hs⟩ := h
  have kI5 : ∀ (n : Nat) (y1 : Int32) (y2 : Int32) (x3 : MS), U5 y1 y2 x3 < n → I5 y1 y2 x3 → Z C (zA (wB 18 ad) C.s.heap.size) (MH D cs ad) 8 x3 [(0, .ref (ad 0)), (1, .int p1), (3, .int y1), (4, .int y2)] 0 0 5 [] := by
    intro n
    induction n with
    | zero => intro y1 y2 x3 uI5; exact absurd uI5 (Nat.not_lt_zero _)
    | succ n iI5 =>
      intro y1 y2 x3 uI5 h
      have h := hs y1 y2 x3 h
      refine z_iload_n O dX12_cuts_5 2 rfl ?_
      refine z_if_le O 128 dX12_cuts_6 (by decide) (fun c14 => ?_) (fun c14 => ?_)
      · replace h := h.1 c14
        refine z_iload O dX12_cuts_128 3 rfl ?_
        exact z_retWR O hE (Nat.le_of_ble_eq_true rfl) (Nat.le_of_ble_eq_true rfl) rfl dX12_cuts_130 h
      · replace h := h.2 c14
        refine z_aload_n O dX12_cuts_9 0 rfl ?_
        refine z_getf O hK.1 (hX _) (by decide) me_0 rfl i12 1 (by decide) (by decide +kernel) rfl dX12_cuts_10 ?_
        refine z_iload_n O dX12_cuts_13 1 rfl ?_
        refine z_iald O hK.1 (hX _) 0 (mk_lt mk_1) (me_A mk_1) rfl (show vp_in p1 (mlen 1) from h.1) dX12_cuts_14 ?_
        replace h := h.2
        refine z_if_le O 128 dX12_cuts_15 (by decide) (fun c13 => ?_) (fun c13 => ?_)
        · replace h := h.1 c13
          refine z_iload O dX12_cuts_128 3 rfl ?_
          exact z_retWR O hE (Nat.le_of_ble_eq_true rfl) (Nat.le_of_ble_eq_true rfl) rfl dX12_cuts_130 h
        · replace h := h.2 c13
          refine z_bipush (v := 8) O dX12_cuts_18 rfl ?_
          refine z_iload_n O dX12_cuts_20 1 rfl ?_
          refine z_imul O dX12_cuts_21 ?_
          refine z_aload_n O dX12_cuts_22 0 rfl ?_
          refine z_getf O hK.1 (hX _) (by decide) me_0 rfl i12 1 (by decide) (by decide +kernel) rfl dX12_cuts_23 ?_
          refine z_iload_n O dX12_cuts_26 1 rfl ?_
          refine z_iald O hK.1 (hX _) 0 (mk_lt mk_1) (me_A mk_1) rfl (show vp_in p1 (mlen 1) from h.1) dX12_cuts_27 ?_
          replace h := h.2
          refine z_iadd O dX12_cuts_28 ?_
          refine z_iconst (v := 1) O dX12_cuts_29 rfl ?_
          refine z_isub O dX12_cuts_30 ?_
          refine z_istore (lv' := [(5, .int (((8 * p1) + (x3.2.1 1 (Int32.toNatClampNeg p1))) - 1)), (0, .ref (ad 0)), (1, .int p1), (3, .int y1), (4, .int y2)]) O dX12_cuts_31 (by decide) rfl ?_
          refine z_aload_n O dX12_cuts_33 1 rfl ?_
          refine z_getf O hK.1 (hX _) (by decide) me_0 rfl i12 5 (by decide) (by decide +kernel) rfl dX12_cuts_34 ?_
          refine z_iload O dX12_cuts_37 0 rfl ?_
          refine z_iald O hK.1 (hX _) 0 (mk_lt mk_5) (me_A mk_5) rfl (show vp_in (((8 * p1) + (x3.2.1 1 (Int32.toNatClampNeg p1))) - 1) (mlen 5) from h.1) dX12_cuts_39 ?_
          replace h := h.2
          refine z_iload_n O dX12_cuts_40 3 rfl ?_
          refine z_icmp_ge O 54 dX12_cuts_41 (by decide) (fun c12 => ?_) (fun c12 => ?_)
          · replace h := h.1 c12
            refine z_iload_n O dX12_cuts_54 3 rfl ?_
            refine z_istore (lv' := [(6, .int y1), (5, .int (((8 * p1) + (x3.2.1 1 (Int32.toNatClampNeg p1))) - 1)), (0, .ref (ad 0)), (1, .int p1), (3, .int y1), (4, .int y2)]) O dX12_cuts_55 (by decide) rfl ?_
            refine z_aload_n O dX12_cuts_57 2 rfl ?_
            refine z_getf O hK.1 (hX _) (by decide) me_0 rfl i12 5 (by decide) (by decide +kernel) rfl dX12_cuts_58 ?_
            refine z_iload O dX12_cuts_61 1 rfl ?_
            refine z_dup2 O dX12_cuts_63 rfl rfl ?_
            refine z_iald O hK.1 (hX _) 0 (mk_lt mk_5) (me_A mk_5) rfl (show vp_in (((8 * p1) + (x3.2.1 1 (Int32.toNatClampNeg p1))) - 1) (mlen 5) from h.1) dX12_cuts_64 ?_
            replace h := h.2
            refine z_iload O dX12_cuts_65 0 rfl ?_
            refine z_isub O dX12_cuts_67 ?_
            have hb0 := h.1
            replace h := h.2
            obtain ⟨x4, ex4⟩ : ∃ z, z = mA x3 5 (upd (x3.2.1 5) (Int32.toNatClampNeg (((8 * p1) + (x3.2.1 1 (Int32.toNatClampNeg p1))) - 1)) ((x3.2.1 5 (Int32.toNatClampNeg (((8 * p1) + (x3.2.1 1 (Int32.toNatClampNeg p1))) - 1))) - y1)) := ⟨_, rfl⟩
            replace h := h x4 ex4
            refine z_iast (x' := x4) O hK.1 (hX _) hB hI hA 0 (mk_lt mk_5) (me_A mk_5) rfl (show vp_in (((8 * p1) + (x3.2.1 1 (Int32.toNatClampNeg p1))) - 1) (mlen 5) from hb0) (by rw [ex4]; exact me_setA mk_5 _) dX12_cuts_68 ?_
            refine z_iload_n O dX12_cuts_69 4 rfl ?_
            refine z_iload O dX12_cuts_70 0 rfl ?_
            refine z_isub O dX12_cuts_72 ?_
            refine z_istore_n (lv' := [(3, .int (y1 - y1)), (6, .int y1), (5, .int (((8 * p1) + (x3.2.1 1 (Int32.toNatClampNeg p1))) - 1)), (0, .ref (ad 0)), (1, .int p1), (4, .int y2)]) O dX12_cuts_73 (by decide) rfl ?_
            refine z_aload_n O dX12_cuts_74 3 rfl ?_
            refine z_getf O hK.1 (hX _) (by decide) me_0 rfl i12 5 (by decide) (by decide +kernel) rfl dX12_cuts_75 ?_
            refine z_iload O dX12_cuts_78 2 rfl ?_
            refine z_iald O hK.1 (hX _) 0 (mk_lt mk_5) (me_A mk_5) rfl (show vp_in (((8 * p1) + (x3.2.1 1 (Int32.toNatClampNeg p1))) - 1) (mlen 5) from h.1) dX12_cuts_80 ?_
            replace h := h.2
            refine z_if_ne O 88 dX12_cuts_81 (by decide) (fun c7 => ?_) (fun c7 => ?_)
            · replace h := h.1 c7
              refine z_iconst (v := 0) O dX12_cuts_88 rfl ?_
              refine z_istore (lv' := [(7, .int 0), (3, .int (y1 - y1)), (6, .int y1), (5, .int (((8 * p1) + (x3.2.1 1 (Int32.toNatClampNeg p1))) - 1)), (0, .ref (ad 0)), (1, .int p1), (4, .int y2)]) O dX12_cuts_89 (by decide) rfl ?_
              refine z_aload_n O dX12_cuts_91 4 rfl ?_
              refine z_getf O hK.1 (hX _) (by decide) me_0 rfl i12 1 (by decide) (by decide +kernel) rfl dX12_cuts_92 ?_
              refine z_iload_n O dX12_cuts_95 5 rfl ?_
              refine z_dup2 O dX12_cuts_96 rfl rfl ?_
              refine z_iald O hK.1 (hX _) 0 (mk_lt mk_1) (me_A mk_1) rfl (show vp_in p1 (mlen 1) from h.1) dX12_cuts_97 ?_
              replace h := h.2
              refine z_iload O dX12_cuts_98 0 rfl ?_
              refine z_if_eq O 107 dX12_cuts_100 (by decide) (fun _ => ?_) (fun c => absurd c (by decide))
              refine z_iconst (v := 0) O dX12_cuts_107 rfl ?_
              refine z_isub O dX12_cuts_108 ?_
              have hb0 := h.1
              replace h := h.2
              obtain ⟨x5, ex5⟩ : ∃ z, z = mA x4 1 (upd (x4.2.1 1) (Int32.toNatClampNeg p1) ((x4.2.1 1 (Int32.toNatClampNeg p1)) - 0)) := ⟨_, rfl⟩
              replace h := h x5 ex5
              refine z_iast (x' := x5) O hK.1 (hX _) hB hI hA 0 (mk_lt mk_1) (me_A mk_1) rfl (show vp_in p1 (mlen 1) from hb0) (by rw [ex5]; exact me_setA mk_1 _) dX12_cuts_109 ?_
              refine z_iload O dX12_cuts_110 6 rfl ?_
              refine z_iload O dX12_cuts_112 0 rfl ?_
              refine z_if_eq O 121 dX12_cuts_114 (by decide) (fun _ => ?_) (fun c => absurd c (by decide))
              refine z_iconst (v := 0) O dX12_cuts_121 rfl ?_
              refine z_iadd O dX12_cuts_122 ?_
              refine z_istore (lv' := [(4, .int (y2 + 0)), (7, .int 0), (3, .int (y1 - y1)), (6, .int y1), (5, .int (((8 * p1) + (x3.2.1 1 (Int32.toNatClampNeg p1))) - 1)), (0, .ref (ad 0)), (1, .int p1)]) O dX12_cuts_123 (by decide) rfl ?_
              refine z_goto O 5 dX12_cuts_125 (by decide) ?_
              exact z_sub [5, 6, 2, 0] rfl (iI5 (y1 - y1) (y2 + 0) x5 (Nat.lt_of_lt_of_le h.2 (Nat.le_of_lt_succ uI5)) h.1)
            · replace h := h.2 c7
              refine z_iconst (v := 1) O dX12_cuts_84 rfl ?_
              refine z_goto O 89 dX12_cuts_85 (by decide) ?_
              refine z_istore (lv' := [(7, .int 1), (3, .int (y1 - y1)), (6, .int y1), (5, .int (((8 * p1) + (x3.2.1 1 (Int32.toNatClampNeg p1))) - 1)), (0, .ref (ad 0)), (1, .int p1), (4, .int y2)]) O dX12_cuts_89 (by decide) rfl ?_
              refine z_aload_n O dX12_cuts_91 4 rfl ?_
              refine z_getf O hK.1 (hX _) (by decide) me_0 rfl i12 1 (by decide) (by decide +kernel) rfl dX12_cuts_92 ?_
              refine z_iload_n O dX12_cuts_95 5 rfl ?_
              refine z_dup2 O dX12_cuts_96 rfl rfl ?_
              refine z_iald O hK.1 (hX _) 0 (mk_lt mk_1) (me_A mk_1) rfl (show vp_in p1 (mlen 1) from h.1) dX12_cuts_97 ?_
              replace h := h.2
              refine z_iload O dX12_cuts_98 0 rfl ?_
              refine z_if_eq O 107 dX12_cuts_100 (by decide) (fun c => absurd c (by decide)) (fun _ => ?_)
              refine z_iconst (v := 1) O dX12_cuts_103 rfl ?_
              refine z_goto O 108 dX12_cuts_104 (by decide) ?_
              refine z_isub O dX12_cuts_108 ?_
              have hb0 := h.1
              replace h := h.2
              obtain ⟨x6, ex6⟩ : ∃ z, z = mA x4 1 (upd (x4.2.1 1) (Int32.toNatClampNeg p1) ((x4.2.1 1 (Int32.toNatClampNeg p1)) - 1)) := ⟨_, rfl⟩
              replace h := h x6 ex6
              refine z_iast (x' := x6) O hK.1 (hX _) hB hI hA 0 (mk_lt mk_1) (me_A mk_1) rfl (show vp_in p1 (mlen 1) from hb0) (by rw [ex6]; exact me_setA mk_1 _) dX12_cuts_109 ?_
              refine z_iload O dX12_cuts_110 6 rfl ?_
              refine z_iload O dX12_cuts_112 0 rfl ?_
              refine z_if_eq O 121 dX12_cuts_114 (by decide) (fun c => absurd c (by decide)) (fun _ => ?_)
              refine z_iconst (v := 1) O dX12_cuts_117 rfl ?_
              refine z_goto O 122 dX12_cuts_118 (by decide) ?_
              refine z_iadd O dX12_cuts_122 ?_
              refine z_istore (lv' := [(4, .int (y2 + 1)), (7, .int 1), (3, .int (y1 - y1)), (6, .int y1), (5, .int (((8 * p1) + (x3.2.1 1 (Int32.toNatClampNeg p1))) - 1)), (0, .ref (ad 0)), (1, .int p1)]) O dX12_cuts_123 (by decide) rfl ?_
              refine z_goto O 5 dX12_cuts_125 (by decide) ?_
              exact z_sub [5, 6, 2, 0] rfl (iI5 (y1 - y1) (y2 + 1) x6 (Nat.lt_of_lt_of_le h.2 (Nat.le_of_lt_succ uI5)) h.1)
          · replace h := h.2 c12
            refine z_aload_n O dX12_cuts_44 1 rfl ?_
            refine z_getf O hK.1 (hX _) (by decide) me_0 rfl i12 5 (by decide) (by decide +kernel) rfl dX12_cuts_45 ?_
            refine z_iload O dX12_cuts_48 0 rfl ?_
            refine z_iald O hK.1 (hX _) 0 (mk_lt mk_5) (me_A mk_5) rfl (show vp_in (((8 * p1) + (x3.2.1 1 (Int32.toNatClampNeg p1))) - 1) (mlen 5) from h.1) dX12_cuts_50 ?_
            replace h := h.2
            refine z_goto O 55 dX12_cuts_51 (by decide) ?_
            refine z_istore (lv' := [(6, .int (x3.2.1 5 (Int32.toNatClampNeg (((8 * p1) + (x3.2.1 1 (Int32.toNatClampNeg p1))) - 1)))), (5, .int (((8 * p1) + (x3.2.1 1 (Int32.toNatClampNeg p1))) - 1)), (0, .ref (ad 0)), (1, .int p1), (3, .int y1), (4, .int y2)]) O dX12_cuts_55 (by decide) rfl ?_
            refine z_aload_n O dX12_cuts_57 2 rfl ?_
            refine z_getf O hK.1 (hX _) (by decide) me_0 rfl i12 5 (by decide) (by decide +kernel) rfl dX12_cuts_58 ?_
            refine z_iload O dX12_cuts_61 1 rfl ?_
            refine z_dup2 O dX12_cuts_63 rfl rfl ?_
            refine z_iald O hK.1 (hX _) 0 (mk_lt mk_5) (me_A mk_5) rfl (show vp_in (((8 * p1) + (x3.2.1 1 (Int32.toNatClampNeg p1))) - 1) (mlen 5) from h.1) dX12_cuts_64 ?_
            replace h := h.2
            refine z_iload O dX12_cuts_65 0 rfl ?_
            refine z_isub O dX12_cuts_67 ?_
            have hb0 := h.1
            replace h := h.2
            obtain ⟨x8, ex8⟩ : ∃ z, z = mA x3 5 (upd (x3.2.1 5) (Int32.toNatClampNeg (((8 * p1) + (x3.2.1 1 (Int32.toNatClampNeg p1))) - 1)) ((x3.2.1 5 (Int32.toNatClampNeg (((8 * p1) + (x3.2.1 1 (Int32.toNatClampNeg p1))) - 1))) - (x3.2.1 5 (Int32.toNatClampNeg (((8 * p1) + (x3.2.1 1 (Int32.toNatClampNeg p1))) - 1))))) := ⟨_, rfl⟩
            replace h := h x8 ex8
            refine z_iast (x' := x8) O hK.1 (hX _) hB hI hA 0 (mk_lt mk_5) (me_A mk_5) rfl (show vp_in (((8 * p1) + (x3.2.1 1 (Int32.toNatClampNeg p1))) - 1) (mlen 5) from hb0) (by rw [ex8]; exact me_setA mk_5 _) dX12_cuts_68 ?_
            refine z_iload_n O dX12_cuts_69 4 rfl ?_
            refine z_iload O dX12_cuts_70 0 rfl ?_
            refine z_isub O dX12_cuts_72 ?_
            refine z_istore_n (lv' := [(3, .int (y1 - (x3.2.1 5 (Int32.toNatClampNeg (((8 * p1) + (x3.2.1 1 (Int32.toNatClampNeg p1))) - 1))))), (6, .int (x3.2.1 5 (Int32.toNatClampNeg (((8 * p1) + (x3.2.1 1 (Int32.toNatClampNeg p1))) - 1)))), (5, .int (((8 * p1) + (x3.2.1 1 (Int32.toNatClampNeg p1))) - 1)), (0, .ref (ad 0)), (1, .int p1), (4, .int y2)]) O dX12_cuts_73 (by decide) rfl ?_
            refine z_aload_n O dX12_cuts_74 3 rfl ?_
            refine z_getf O hK.1 (hX _) (by decide) me_0 rfl i12 5 (by decide) (by decide +kernel) rfl dX12_cuts_75 ?_
            refine z_iload O dX12_cuts_78 2 rfl ?_
            refine z_iald O hK.1 (hX _) 0 (mk_lt mk_5) (me_A mk_5) rfl (show vp_in (((8 * p1) + (x3.2.1 1 (Int32.toNatClampNeg p1))) - 1) (mlen 5) from h.1) dX12_cuts_80 ?_
            replace h := h.2
            refine z_if_ne O 88 dX12_cuts_81 (by decide) (fun c11 => ?_) (fun c11 => ?_)
            · replace h := h.1 c11
              refine z_iconst (v := 0) O dX12_cuts_88 rfl ?_
              refine z_istore (lv' := [(7, .int 0), (3, .int (y1 - (x3.2.1 5 (Int32.toNatClampNeg (((8 * p1) + (x3.2.1 1 (Int32.toNatClampNeg p1))) - 1))))), (6, .int (x3.2.1 5 (Int32.toNatClampNeg (((8 * p1) + (x3.2.1 1 (Int32.toNatClampNeg p1))) - 1)))), (5, .int (((8 * p1) + (x3.2.1 1 (Int32.toNatClampNeg p1))) - 1)), (0, .ref (ad 0)), (1, .int p1), (4, .int y2)]) O dX12_cuts_89 (by decide) rfl ?_
              refine z_aload_n O dX12_cuts_91 4 rfl ?_
              refine z_getf O hK.1 (hX _) (by decide) me_0 rfl i12 1 (by decide) (by decide +kernel) rfl dX12_cuts_92 ?_
              refine z_iload_n O dX12_cuts_95 5 rfl ?_
              refine z_dup2 O dX12_cuts_96 rfl rfl ?_
              refine z_iald O hK.1 (hX _) 0 (mk_lt mk_1) (me_A mk_1) rfl (show vp_in p1 (mlen 1) from h.1) dX12_cuts_97 ?_
              replace h := h.2
              refine z_iload O dX12_cuts_98 0 rfl ?_
              refine z_if_eq O 107 dX12_cuts_100 (by decide) (fun _ => ?_) (fun c => absurd c (by decide))
              refine z_iconst (v := 0) O dX12_cuts_107 rfl ?_
              refine z_isub O dX12_cuts_108 ?_
              have hb0 := h.1
              replace h := h.2
              obtain ⟨x9, ex9⟩ : ∃ z, z = mA x8 1 (upd (x8.2.1 1) (Int32.toNatClampNeg p1) ((x8.2.1 1 (Int32.toNatClampNeg p1)) - 0)) := ⟨_, rfl⟩
              replace h := h x9 ex9
              refine z_iast (x' := x9) O hK.1 (hX _) hB hI hA 0 (mk_lt mk_1) (me_A mk_1) rfl (show vp_in p1 (mlen 1) from hb0) (by rw [ex9]; exact me_setA mk_1 _) dX12_cuts_109 ?_
              refine z_iload O dX12_cuts_110 6 rfl ?_
              refine z_iload O dX12_cuts_112 0 rfl ?_
              refine z_if_eq O 121 dX12_cuts_114 (by decide) (fun _ => ?_) (fun c => absurd c (by decide))
              refine z_iconst (v := 0) O dX12_cuts_121 rfl ?_
              refine z_iadd O dX12_cuts_122 ?_
              refine z_istore (lv' := [(4, .int (y2 + 0)), (7, .int 0), (3, .int (y1 - (x3.2.1 5 (Int32.toNatClampNeg (((8 * p1) + (x3.2.1 1 (Int32.toNatClampNeg p1))) - 1))))), (6, .int (x3.2.1 5 (Int32.toNatClampNeg (((8 * p1) + (x3.2.1 1 (Int32.toNatClampNeg p1))) - 1)))), (5, .int (((8 * p1) + (x3.2.1 1 (Int32.toNatClampNeg p1))) - 1)), (0, .ref (ad 0)), (1, .int p1)]) O dX12_cuts_123 (by decide) rfl ?_
              refine z_goto O 5 dX12_cuts_125 (by decide) ?_
              exact z_sub [5, 6, 2, 0] rfl (iI5 (y1 - (x3.2.1 5 (Int32.toNatClampNeg (((8 * p1) + (x3.2.1 1 (Int32.toNatClampNeg p1))) - 1)))) (y2 + 0) x9 (Nat.lt_of_lt_of_le h.2 (Nat.le_of_lt_succ uI5)) h.1)
            · replace h := h.2 c11
              refine z_iconst (v := 1) O dX12_cuts_84 rfl ?_
              refine z_goto O 89 dX12_cuts_85 (by decide) ?_
              refine z_istore (lv' := [(7, .int 1), (3, .int (y1 - (x3.2.1 5 (Int32.toNatClampNeg (((8 * p1) + (x3.2.1 1 (Int32.toNatClampNeg p1))) - 1))))), (6, .int (x3.2.1 5 (Int32.toNatClampNeg (((8 * p1) + (x3.2.1 1 (Int32.toNatClampNeg p1))) - 1)))), (5, .int (((8 * p1) + (x3.2.1 1 (Int32.toNatClampNeg p1))) - 1)), (0, .ref (ad 0)), (1, .int p1), (4, .int y2)]) O dX12_cuts_89 (by decide) rfl ?_
              refine z_aload_n O dX12_cuts_91 4 rfl ?_
              refine z_getf O hK.1 (hX _) (by decide) me_0 rfl i12 1 (by decide) (by decide +kernel) rfl dX12_cuts_92 ?_
              refine z_iload_n O dX12_cuts_95 5 rfl ?_
              refine z_dup2 O dX12_cuts_96 rfl rfl ?_
              refine z_iald O hK.1 (hX _) 0 (mk_lt mk_1) (me_A mk_1) rfl (show vp_in p1 (mlen 1) from h.1) dX12_cuts_97 ?_
              replace h := h.2
              refine z_iload O dX12_cuts_98 0 rfl ?_
              refine z_if_eq O 107 dX12_cuts_100 (by decide) (fun c => absurd c (by decide)) (fun _ => ?_)
              refine z_iconst (v := 1) O dX12_cuts_103 rfl ?_
              refine z_goto O 108 dX12_cuts_104 (by decide) ?_
              refine z_isub O dX12_cuts_108 ?_
              have hb0 := h.1
              replace h := h.2
              obtain ⟨x10, ex10⟩ : ∃ z, z = mA x8 1 (upd (x8.2.1 1) (Int32.toNatClampNeg p1) ((x8.2.1 1 (Int32.toNatClampNeg p1)) - 1)) := ⟨_, rfl⟩
              replace h := h x10 ex10
              refine z_iast (x' := x10) O hK.1 (hX _) hB hI hA 0 (mk_lt mk_1) (me_A mk_1) rfl (show vp_in p1 (mlen 1) from hb0) (by rw [ex10]; exact me_setA mk_1 _) dX12_cuts_109 ?_
              refine z_iload O dX12_cuts_110 6 rfl ?_
              refine z_iload O dX12_cuts_112 0 rfl ?_
              refine z_if_eq O 121 dX12_cuts_114 (by decide) (fun c => absurd c (by decide)) (fun _ => ?_)
              refine z_iconst (v := 1) O dX12_cuts_117 rfl ?_
              refine z_goto O 122 dX12_cuts_118 (by decide) ?_
              refine z_iadd O dX12_cuts_122 ?_
              refine z_istore (lv' := [(4, .int (y2 + 1)), (7, .int 1), (3, .int (y1 - (x3.2.1 5 (Int32.toNatClampNeg (((8 * p1) + (x3.2.1 1 (Int32.toNatClampNeg p1))) - 1))))), (6, .int (x3.2.1 5 (Int32.toNatClampNeg (((8 * p1) + (x3.2.1 1 (Int32.toNatClampNeg p1))) - 1)))), (5, .int (((8 * p1) + (x3.2.1 1 (Int32.toNatClampNeg p1))) - 1)), (0, .ref (ad 0)), (1, .int p1)]) O dX12_cuts_123 (by decide) rfl ?_
              refine z_goto O 5 dX12_cuts_125 (by decide) ?_
              exact z_sub [5, 6, 2, 0] rfl (iI5 (y1 - (x3.2.1 5 (Int32.toNatClampNeg (((8 * p1) + (x3.2.1 1 (Int32.toNatClampNeg p1))) - 1)))) (y2 + 1) x10 (Nat.lt_of_lt_of_le h.2 (Nat.le_of_lt_succ uI5)) h.1)
  exact z_sub [2, 3, 1, 0] rfl (kI5 _ p2 0 x (Nat.lt_succ_self _) h0)
def wp_X12_swapInts (x : MS) (q1 : Nat) (p2 : Int32) (p3 : Int32) (Q : MS → Prop) : Prop :=
 (vp_in p2 (mlen q1) ∧
 (vp_in p3 (mlen q1) ∧
 (vp_in p2 (mlen q1) ∧
 ∀ x1 : MS, x1 = mA x q1 (upd (x.2.1 q1) (Int32.toNatClampNeg p2) (x.2.1 q1 (Int32.toNatClampNeg p3))) →
 (vp_in p3 (mlen q1) ∧
 ∀ x2 : MS, x2 = mA x1 q1 (upd (x1.2.1 q1) (Int32.toNatClampNeg p3) (x.2.1 q1 (Int32.toNatClampNeg p2))) →
 Q x2))))
set_option maxHeartbeats 4000000 in
set_option maxRecDepth 100000 in
theorem t_X12_swapInts {l : Launch} {D : va_G} {cs : Nat → ClassId} {ad : Nat → Nat} (hI : wInj 18 ad) (x : MS) (q1 : Nat) (hq1 : mk q1) (p2 : Int32) (p3 : Int32) (Q : MS → Prop) (h : wp_X12_swapInts x q1 p2 p3 Q) : zWV l yX12_swapInts wsX12_swapInts ({ frames := 0, cells := 0, slots := 0, locals := 0 } : Room) (gK D cs) (MH D cs ad) (wB 18 ad) x [.ref (ad 0), .ref (ad q1), .int p2, .int p3] 0 0 Q := by
  refine zWV_of (cc := cX12_swapInts) (nL := 5) (ret := none) (by decide +kernel) rfl (Nat.le_of_ble_eq_true rfl) (fun C hl O hE hK => ?_)
  subst hl
  have hX : ∀ (x : MS) (H : Heap), MH D cs ad x H → va_P D vwCl (wl 18 ad (ME cs ad x)) H := fun _ _ h => h
  have hB : ∀ {x : MS} (H : Heap), va_P D vwCl (wl 18 ad (ME cs ad x)) H → MH D cs ad x H := fun _ h => h
  have hA : ∀ q, wB 18 ad q → zA (wB 18 ad) C.s.heap.size q := fun _ h => Or.inl h
  refine z_sub (lv' := [(0, .ref (ad 0)), (1, .ref (ad q1)), (2, .int p2), (3, .int p3)]) [0, 1, 2, 3] rfl ?_
  refine z_aload_n O dX12_swapInts_0 1 rfl ?_
  refine z_iload_n O dX12_swapInts_1 2 rfl ?_
  refine z_iald O hK.1 (hX _) 0 (mk_lt hq1) (me_A hq1) rfl h.1 dX12_swapInts_2 ?_
  replace h := h.2
  refine z_istore (lv' := [(4, .int (x.2.1 q1 (Int32.toNatClampNeg p2))), (0, .ref (ad 0)), (1, .ref (ad q1)), (2, .int p2), (3, .int p3)]) O dX12_swapInts_3 (by decide) rfl ?_
  refine z_aload_n O dX12_swapInts_5 2 rfl ?_
  refine z_iload_n O dX12_swapInts_6 3 rfl ?_
  refine z_aload_n O dX12_swapInts_7 2 rfl ?_
  refine z_iload_n O dX12_swapInts_8 4 rfl ?_
  refine z_iald O hK.1 (hX _) 0 (mk_lt hq1) (me_A hq1) rfl h.1 dX12_swapInts_9 ?_
  replace h := h.2
  have hb0 := h.1
  replace h := h.2
  obtain ⟨x1, ex1⟩ : ∃ z, z = mA x q1 (upd (x.2.1 q1) (Int32.toNatClampNeg p2) (x.2.1 q1 (Int32.toNatClampNeg p3))) := ⟨_, rfl⟩
  replace h := h x1 ex1
  refine z_iast (x' := x1) O hK.1 (hX _) hB hI hA 0 (mk_lt hq1) (me_A hq1) rfl hb0 (by rw [ex1]; exact me_setA hq1 _) dX12_swapInts_10 ?_
  refine z_aload_n O dX12_swapInts_11 2 rfl ?_
  refine z_iload_n O dX12_swapInts_12 4 rfl ?_
  refine z_iload O dX12_swapInts_13 0 rfl ?_
  have hb0 := h.1
  replace h := h.2
  obtain ⟨x2, ex2⟩ : ∃ z, z = mA x1 q1 (upd (x1.2.1 q1) (Int32.toNatClampNeg p3) (x.2.1 q1 (Int32.toNatClampNeg p2))) := ⟨_, rfl⟩
  replace h := h x2 ex2
  refine z_iast (x' := x2) O hK.1 (hX _) hB hI hA 0 (mk_lt hq1) (me_A hq1) rfl hb0 (by rw [ex2]; exact me_setA hq1 _) dX12_swapInts_15 ?_
  exact z_retWV O hE (Nat.le_of_ble_eq_true rfl) (Nat.le_of_ble_eq_true rfl) dX12_swapInts_16 h
def wp_X12_drifts (x : MS)   (Q : MS → Prop) : Prop :=
 (∃ (I2 : Int32 → MS → Prop) (U2 : Int32 → MS → Nat), I2 0 x ∧ ∀ (y1 : Int32) (x2 : MS), I2 y1 x2 →
 ((5 ≤ y1 →
 Q x2) ∧ (¬ 5 ≤ y1 →
 wp_X12_swapInts x2 1 y1 5 (fun (x3 : MS) =>
 (∃ (I19 : Int32 → MS → Prop) (U19 : Int32 → MS → Nat), I19 0 x3 ∧ ∀ (y4 : Int32) (x5 : MS), I19 y4 x5 →
 ((8 ≤ y4 →
 (I2 (y1 + 1) x5 ∧ U2 (y1 + 1) x5 < U2 y1 x2)) ∧ (¬ 8 ≤ y4 →
 wp_X12_swapInts x5 2 ((8 * y1) + y4) (40 + y4) (fun (x6 : MS) =>
 wp_X12_swapInts x6 3 ((8 * y1) + y4) (40 + y4) (fun (x7 : MS) =>
 wp_X12_swapInts x7 4 ((8 * y1) + y4) (40 + y4) (fun (x8 : MS) =>
 wp_X12_swapInts x8 5 ((8 * y1) + y4) (40 + y4) (fun (x9 : MS) =>
 (I19 (y4 + 1) x9 ∧ U19 (y4 + 1) x9 < U19 y4 x5))))))))))))
set_option maxHeartbeats 4000000 in
set_option maxRecDepth 100000 in
theorem t_X12_drifts {l : Launch} {D : va_G} {cs : Nat → ClassId} {ad : Nat → Nat} (hI : wInj 18 ad) (x : MS)   (Q : MS → Prop) (h : wp_X12_drifts x   Q) : zWV l yX12_drifts wsX12_drifts ({ frames := 1, cells := 0, slots := 0, locals := 24 } : Room) (gK D cs) (MH D cs ad) (wB 18 ad) x [.ref (ad 0)] 0 0 Q := by
  refine zWV_of (cc := cX12_drifts) (nL := 4) (ret := none) (by decide +kernel) rfl (Nat.le_of_ble_eq_true rfl) (fun C hl O hE hK => ?_)
  subst hl
  have hX : ∀ (x : MS) (H : Heap), MH D cs ad x H → va_P D vwCl (wl 18 ad (ME cs ad x)) H := fun _ _ h => h
  have hB : ∀ {x : MS} (H : Heap), va_P D vwCl (wl 18 ad (ME cs ad x)) H → MH D cs ad x H := fun _ h => h
  have hA : ∀ q, wB 18 ad q → zA (wB 18 ad) C.s.heap.size q := fun _ h => Or.inl h
  have i12 : ∀ w ∈ wsX120, w ∈ wsX12_drifts := by decide +kernel
  refine z_sub (lv' := [(0, .ref (ad 0))]) [0] rfl ?_
  refine z_iconst (v := 0) O dX12_drifts_0 rfl ?_
  refine z_istore_n (lv' := [(1, .int 0), (0, .ref (ad 0))]) O dX12_drifts_1 (by decide) rfl ?_
  obtain ⟨I2, U2, h0, hs⟩ := h
  have kI2 : ∀ (n : Nat) (y1 : Int32) (x2 : MS), U2 y1 x2 < n → I2 y1 x2 → Z C (zA (wB 18 ad) C.s.heap.size) (MH D cs ad) 4 x2 [(0, .ref (ad 0)), (1, .int y1)] 0 0 2 [] := by
    intro n
    induction n with
    | zero => intro y1 x2 uI2; exact absurd uI2 (Nat.not_lt_zero _)
    | succ n iI2 =>
      intro y1 x2 uI2 h
      have h := hs y1 x2 h
      refine z_iload_n O dX12_drifts_2 1 rfl ?_
      refine z_iconst (v := 5) O dX12_drifts_3 rfl ?_
      refine z_icmp_ge O 96 dX12_drifts_4 (by decide) (fun c11 => ?_) (fun c11 => ?_)
      · replace h := h.1 c11
        exact z_retWV O hE (Nat.le_of_ble_eq_true rfl) (Nat.le_of_ble_eq_true rfl) dX12_drifts_96 h
      · replace h := h.2 c11
        refine z_aload_n O dX12_drifts_7 0 rfl ?_
        refine z_aload_n O dX12_drifts_8 0 rfl ?_
        refine z_getf O hK.1 (hX _) (by decide) me_0 rfl i12 1 (by decide) (by decide +kernel) rfl dX12_drifts_9 ?_
        refine z_iload_n O dX12_drifts_12 1 rfl ?_
        refine z_iconst (v := 5) O dX12_drifts_13 rfl ?_
        refine z_cWV (gKs D cs) hK (fun _ h => h) (fun _ h => Or.inl h) (fun _ h => Or.inr h) (t_X12_swapInts hI x2 1 mk_1 y1 5 _ h) (zr_V (As := [.ref (ad 1), .int y1, .int 5]) (rest := []) O hE.1 3 gX12_drifts_X12_swapInts rfl rfl rfl (by decide +kernel) ⟨(Nat.le_of_ble_eq_true rfl), (Nat.le_of_ble_eq_true rfl)⟩ ⟨(Nat.le_of_ble_eq_true rfl), (Nat.le_of_ble_eq_true rfl)⟩ (fun H hH => z_recv hK.1 (hX _ H hH) (by decide) me_0 rfl) rfl rfl (Nat.le_of_ble_eq_true rfl) dX12_drifts_14) (fun x3 h => ?_)
        refine z_iconst (v := 0) O dX12_drifts_17 rfl ?_
        refine z_istore_n (lv' := [(2, .int 0), (0, .ref (ad 0)), (1, .int y1)]) O dX12_drifts_18 (by decide) rfl ?_
        obtain ⟨I19, U19, h0, hs⟩ := h
        have kI19 : ∀ (n : Nat) (y4 : Int32) (x5 : MS), U19 y4 x5 < n → I19 y4 x5 → Z C (zA (wB 18 ad) C.s.heap.size) (MH D cs ad) 4 x5 [(0, .ref (ad 0)), (1, .int y1), (2, .int y4)] 0 0 19 [] := by
          intro n
          induction n with
          | zero => intro y4 x5 uI19; exact absurd uI19 (Nat.not_lt_zero _)
          | succ n iI19 =>
            intro y4 x5 uI19 h
            have h := hs y4 x5 h
            refine z_iload_n O dX12_drifts_19 2 rfl ?_
            refine z_bipush (v := 8) O dX12_drifts_20 rfl ?_
            refine z_icmp_ge O 90 dX12_drifts_22 (by decide) (fun c10 => ?_) (fun c10 => ?_)
            · replace h := h.1 c10
              refine z_iinc (lv' := [(1, .int (y1 + 1)), (0, .ref (ad 0)), (2, .int y4)]) O dX12_drifts_90 1 rfl rfl (by decide) rfl ?_
              refine z_goto O 2 dX12_drifts_93 (by decide) ?_
              exact z_sub [1, 0] rfl (iI2 (y1 + 1) x5 (Nat.lt_of_lt_of_le h.2 (Nat.le_of_lt_succ uI2)) h.1)
            · replace h := h.2 c10
              refine z_bipush (v := 8) O dX12_drifts_25 rfl ?_
              refine z_iload_n O dX12_drifts_27 1 rfl ?_
              refine z_imul O dX12_drifts_28 ?_
              refine z_iload_n O dX12_drifts_29 2 rfl ?_
              refine z_iadd O dX12_drifts_30 ?_
              refine z_istore_n (lv' := [(3, .int ((8 * y1) + y4)), (0, .ref (ad 0)), (1, .int y1), (2, .int y4)]) O dX12_drifts_31 (by decide) rfl ?_
              refine z_aload_n O dX12_drifts_32 1 rfl ?_
              refine z_aload_n O dX12_drifts_33 1 rfl ?_
              refine z_getf O hK.1 (hX _) (by decide) me_0 rfl i12 2 (by decide) (by decide +kernel) rfl dX12_drifts_34 ?_
              refine z_iload_n O dX12_drifts_37 0 rfl ?_
              refine z_bipush (v := 40) O dX12_drifts_38 rfl ?_
              refine z_iload_n O dX12_drifts_40 3 rfl ?_
              refine z_iadd O dX12_drifts_41 ?_
              refine z_cWV (gKs D cs) hK (fun _ h => h) (fun _ h => Or.inl h) (fun _ h => Or.inr h) (t_X12_swapInts hI x5 2 mk_2 ((8 * y1) + y4) (40 + y4) _ h) (zr_V (As := [.ref (ad 2), .int ((8 * y1) + y4), .int (40 + y4)]) (rest := []) O hE.1 3 gX12_drifts_X12_swapInts rfl rfl rfl (by decide +kernel) ⟨(Nat.le_of_ble_eq_true rfl), (Nat.le_of_ble_eq_true rfl)⟩ ⟨(Nat.le_of_ble_eq_true rfl), (Nat.le_of_ble_eq_true rfl)⟩ (fun H hH => z_recv hK.1 (hX _ H hH) (by decide) me_0 rfl) rfl rfl (Nat.le_of_ble_eq_true rfl) dX12_drifts_42) (fun x6 h => ?_)
              refine z_aload_n O dX12_drifts_45 1 rfl ?_
              refine z_aload_n O dX12_drifts_46 1 rfl ?_
              refine z_getf O hK.1 (hX _) (by decide) me_0 rfl i12 3 (by decide) (by decide +kernel) rfl dX12_drifts_47 ?_
              refine z_iload_n O dX12_drifts_50 0 rfl ?_
              refine z_bipush (v := 40) O dX12_drifts_51 rfl ?_
              refine z_iload_n O dX12_drifts_53 3 rfl ?_
              refine z_iadd O dX12_drifts_54 ?_
              refine z_cWV (gKs D cs) hK (fun _ h => h) (fun _ h => Or.inl h) (fun _ h => Or.inr h) (t_X12_swapInts hI x6 3 mk_3 ((8 * y1) + y4) (40 + y4) _ h) (zr_V (As := [.ref (ad 3), .int ((8 * y1) + y4), .int (40 + y4)]) (rest := []) O hE.1 3 gX12_drifts_X12_swapInts rfl rfl rfl (by decide +kernel) ⟨(Nat.le_of_ble_eq_true rfl), (Nat.le_of_ble_eq_true rfl)⟩ ⟨(Nat.le_of_ble_eq_true rfl), (Nat.le_of_ble_eq_true rfl)⟩ (fun H hH => z_recv hK.1 (hX _ H hH) (by decide) me_0 rfl) rfl rfl (Nat.le_of_ble_eq_true rfl) dX12_drifts_55) (fun x7 h => ?_)
              refine z_aload_n O dX12_drifts_58 1 rfl ?_
              refine z_aload_n O dX12_drifts_59 1 rfl ?_
              refine z_getf O hK.1 (hX _) (by decide) me_0 rfl i12 4 (by decide) (by decide +kernel) rfl dX12_drifts_60 ?_
              refine z_iload_n O dX12_drifts_63 0 rfl ?_
              refine z_bipush (v := 40) O dX12_drifts_64 rfl ?_
              refine z_iload_n O dX12_drifts_66 3 rfl ?_
              refine z_iadd O dX12_drifts_67 ?_
              refine z_cWV (gKs D cs) hK (fun _ h => h) (fun _ h => Or.inl h) (fun _ h => Or.inr h) (t_X12_swapInts hI x7 4 mk_4 ((8 * y1) + y4) (40 + y4) _ h) (zr_V (As := [.ref (ad 4), .int ((8 * y1) + y4), .int (40 + y4)]) (rest := []) O hE.1 3 gX12_drifts_X12_swapInts rfl rfl rfl (by decide +kernel) ⟨(Nat.le_of_ble_eq_true rfl), (Nat.le_of_ble_eq_true rfl)⟩ ⟨(Nat.le_of_ble_eq_true rfl), (Nat.le_of_ble_eq_true rfl)⟩ (fun H hH => z_recv hK.1 (hX _ H hH) (by decide) me_0 rfl) rfl rfl (Nat.le_of_ble_eq_true rfl) dX12_drifts_68) (fun x8 h => ?_)
              refine z_aload_n O dX12_drifts_71 1 rfl ?_
              refine z_aload_n O dX12_drifts_72 1 rfl ?_
              refine z_getf O hK.1 (hX _) (by decide) me_0 rfl i12 5 (by decide) (by decide +kernel) rfl dX12_drifts_73 ?_
              refine z_iload_n O dX12_drifts_76 0 rfl ?_
              refine z_bipush (v := 40) O dX12_drifts_77 rfl ?_
              refine z_iload_n O dX12_drifts_79 3 rfl ?_
              refine z_iadd O dX12_drifts_80 ?_
              refine z_cWV (gKs D cs) hK (fun _ h => h) (fun _ h => Or.inl h) (fun _ h => Or.inr h) (t_X12_swapInts hI x8 5 mk_5 ((8 * y1) + y4) (40 + y4) _ h) (zr_V (As := [.ref (ad 5), .int ((8 * y1) + y4), .int (40 + y4)]) (rest := []) O hE.1 3 gX12_drifts_X12_swapInts rfl rfl rfl (by decide +kernel) ⟨(Nat.le_of_ble_eq_true rfl), (Nat.le_of_ble_eq_true rfl)⟩ ⟨(Nat.le_of_ble_eq_true rfl), (Nat.le_of_ble_eq_true rfl)⟩ (fun H hH => z_recv hK.1 (hX _ H hH) (by decide) me_0 rfl) rfl rfl (Nat.le_of_ble_eq_true rfl) dX12_drifts_81) (fun x9 h => ?_)
              refine z_iinc (lv' := [(2, .int (y4 + 1)), (3, .int ((8 * y1) + y4)), (0, .ref (ad 0)), (1, .int y1)]) O dX12_drifts_84 3 rfl rfl (by decide) rfl ?_
              refine z_goto O 19 dX12_drifts_87 (by decide) ?_
              exact z_sub [2, 3, 0] rfl (iI19 (y4 + 1) x9 (Nat.lt_of_lt_of_le h.2 (Nat.le_of_lt_succ uI19)) h.1)
        exact z_sub [1, 2, 0] rfl (kI19 _ 0 x3 (Nat.lt_succ_self _) h0)
  exact z_sub [1, 0] rfl (kI2 _ 0 x (Nat.lt_succ_self _) h0)
def wp_X12_carry (x : MS)  (p1 : Int32) (Q : Int32 → MS → Prop) : Prop :=
 (((x.1 11) = 0 →
 (∀ x1 : MS, x1 = mI x 10 ((x.1 10) + 1) →
 (∃ t2 : Nat, x1.2.2.2 = some t2 ∧ mk t2 ∧
 (vp_in ((x1.1 10) - 1) (mlen t2) ∧
 Q (x1.2.1 t2 (Int32.toNatClampNeg ((x1.1 10) - 1))) x1)))) ∧ (¬ (x.1 11) = 0 →
 (∃ t3 : Nat, x.2.2.2 = some t3 ∧ mk t3 ∧
 (vp_in (x.1 10) (mlen t3) ∧
 ∀ x4 : MS, x4 = mA x t3 (upd (x.2.1 t3) (Int32.toNatClampNeg (x.1 10)) p1) →
 (∀ x5 : MS, x5 = mI x4 10 ((x4.1 10) + 1) →
 (∃ t6 : Nat, x5.2.2.2 = some t6 ∧ mk t6 ∧
 (vp_in ((x5.1 10) - 1) (mlen t6) ∧
 Q (x5.2.1 t6 (Int32.toNatClampNeg ((x5.1 10) - 1))) x5)))))))
set_option maxHeartbeats 4000000 in
set_option maxRecDepth 100000 in
theorem t_X12_carry {l : Launch} {D : va_G} {cs : Nat → ClassId} {ad : Nat → Nat} (hI : wInj 18 ad) (x : MS)  (p1 : Int32) (Q : Int32 → MS → Prop) (h : wp_X12_carry x  p1 Q) : zWR l yX12_carry wsX12_carry ({ frames := 0, cells := 0, slots := 0, locals := 0 } : Room) (gK D cs) (MH D cs ad) (wB 18 ad) x [.ref (ad 0), .int p1] 0 0 Q := by
  refine zWR_of (cc := cX12_carry) (nL := 2) (ret := (some .int)) (by decide +kernel) rfl (Nat.le_of_ble_eq_true rfl) (fun C hl O hE hK => ?_)
  subst hl
  have hX : ∀ (x : MS) (H : Heap), MH D cs ad x H → va_P D vwCl (wl 18 ad (ME cs ad x)) H := fun _ _ h => h
  have hB : ∀ {x : MS} (H : Heap), va_P D vwCl (wl 18 ad (ME cs ad x)) H → MH D cs ad x H := fun _ h => h
  have hA : ∀ q, wB 18 ad q → zA (wB 18 ad) C.s.heap.size q := fun _ h => Or.inl h
  have i12 : ∀ w ∈ wsX120, w ∈ wsX12_carry := by decide +kernel
  refine z_sub (lv' := [(0, .ref (ad 0)), (1, .int p1)]) [0, 1] rfl ?_
  refine z_aload_n O dX12_carry_0 0 rfl ?_
  refine z_getf O hK.1 (hX _) (by decide) me_0 rfl i12 11 (by decide) (by decide +kernel) rfl dX12_carry_1 ?_
  refine z_if_eq O 17 dX12_carry_4 (by decide) (fun c7 => ?_) (fun c7 => ?_)
  · replace h := h.1 c7
    refine z_aload_n O dX12_carry_17 0 rfl ?_
    refine z_dup O dX12_carry_18 rfl ?_
    refine z_getf O hK.1 (hX _) (by decide) me_0 rfl i12 10 (by decide) (by decide +kernel) rfl dX12_carry_19 ?_
    refine z_iconst (v := 1) O dX12_carry_22 rfl ?_
    refine z_iadd O dX12_carry_23 ?_
    obtain ⟨x1, ex1⟩ : ∃ z, z = mI x 10 ((x.1 10) + 1) := ⟨_, rfl⟩
    replace h := h x1 ex1
    refine z_putf (x' := x1) (ty := .int) O hK.1 (hX _) hB hI hA (by decide) me_0 rfl i12 tyX12 tyX12_ok nmX12 10 (by decide) (by decide +kernel) rfl (by decide +kernel) rfl rfl (Nat.le_of_ble_eq_true rfl) (by rw [ex1]; exact me_put rfl rfl rfl) dX12_carry_24 ?_
    refine z_aload_n O dX12_carry_27 0 rfl ?_
    obtain ⟨t2, et2, ht2, h⟩ := h
    refine z_getf (v := .ref (ad t2)) O hK.1 (hX _) (by decide) me_0 rfl i12 12 (by decide) (by decide +kernel) (by show some (va_re ad x1.2.2.2) = _; rw [et2]; rfl) dX12_carry_28 ?_
    refine z_aload_n O dX12_carry_31 0 rfl ?_
    refine z_getf O hK.1 (hX _) (by decide) me_0 rfl i12 10 (by decide) (by decide +kernel) rfl dX12_carry_32 ?_
    refine z_iconst (v := 1) O dX12_carry_35 rfl ?_
    refine z_isub O dX12_carry_36 ?_
    refine z_iald O hK.1 (hX _) 0 (mk_lt ht2) (me_A ht2) rfl h.1 dX12_carry_37 ?_
    replace h := h.2
    exact z_retWR O hE (Nat.le_of_ble_eq_true rfl) (Nat.le_of_ble_eq_true rfl) rfl dX12_carry_38 h
  · replace h := h.2 c7
    refine z_aload_n O dX12_carry_7 0 rfl ?_
    obtain ⟨t3, et3, ht3, h⟩ := h
    refine z_getf (v := .ref (ad t3)) O hK.1 (hX _) (by decide) me_0 rfl i12 12 (by decide) (by decide +kernel) (by show some (va_re ad x.2.2.2) = _; rw [et3]; rfl) dX12_carry_8 ?_
    refine z_aload_n O dX12_carry_11 0 rfl ?_
    refine z_getf O hK.1 (hX _) (by decide) me_0 rfl i12 10 (by decide) (by decide +kernel) rfl dX12_carry_12 ?_
    refine z_iload_n O dX12_carry_15 1 rfl ?_
    have hb0 := h.1
    replace h := h.2
    obtain ⟨x4, ex4⟩ : ∃ z, z = mA x t3 (upd (x.2.1 t3) (Int32.toNatClampNeg (x.1 10)) p1) := ⟨_, rfl⟩
    replace h := h x4 ex4
    refine z_iast (x' := x4) O hK.1 (hX _) hB hI hA 0 (mk_lt ht3) (me_A ht3) rfl hb0 (by rw [ex4]; exact me_setA ht3 _) dX12_carry_16 ?_
    refine z_aload_n O dX12_carry_17 0 rfl ?_
    refine z_dup O dX12_carry_18 rfl ?_
    refine z_getf O hK.1 (hX _) (by decide) me_0 rfl i12 10 (by decide) (by decide +kernel) rfl dX12_carry_19 ?_
    refine z_iconst (v := 1) O dX12_carry_22 rfl ?_
    refine z_iadd O dX12_carry_23 ?_
    obtain ⟨x5, ex5⟩ : ∃ z, z = mI x4 10 ((x4.1 10) + 1) := ⟨_, rfl⟩
    replace h := h x5 ex5
    refine z_putf (x' := x5) (ty := .int) O hK.1 (hX _) hB hI hA (by decide) me_0 rfl i12 tyX12 tyX12_ok nmX12 10 (by decide) (by decide +kernel) rfl (by decide +kernel) rfl rfl (Nat.le_of_ble_eq_true rfl) (by rw [ex5]; exact me_put rfl rfl rfl) dX12_carry_24 ?_
    refine z_aload_n O dX12_carry_27 0 rfl ?_
    obtain ⟨t6, et6, ht6, h⟩ := h
    refine z_getf (v := .ref (ad t6)) O hK.1 (hX _) (by decide) me_0 rfl i12 12 (by decide) (by decide +kernel) (by show some (va_re ad x5.2.2.2) = _; rw [et6]; rfl) dX12_carry_28 ?_
    refine z_aload_n O dX12_carry_31 0 rfl ?_
    refine z_getf O hK.1 (hX _) (by decide) me_0 rfl i12 10 (by decide) (by decide +kernel) rfl dX12_carry_32 ?_
    refine z_iconst (v := 1) O dX12_carry_35 rfl ?_
    refine z_isub O dX12_carry_36 ?_
    refine z_iald O hK.1 (hX _) 0 (mk_lt ht6) (me_A ht6) rfl h.1 dX12_carry_37 ?_
    replace h := h.2
    exact z_retWR O hE (Nat.le_of_ble_eq_true rfl) (Nat.le_of_ble_eq_true rfl) rfl dX12_carry_38 h
def wp_X12_carryAll (x : MS) (q1 : Nat) (p2 : Int32) (Q : MS → Prop) : Prop :=
 (∀ x1 : MS, x1 = mR x (some q1) →
 (zb p2 ∧
 ∀ x2 : MS, x2 = mI x1 11 p2 →
 (∀ x3 : MS, x3 = mI x2 10 0 →
 wp_X12_carry x3 (x3.1 0) (fun (r5 : Int32) (x4 : MS) =>
 (∀ x6 : MS, x6 = mI x4 0 r5 →
 (∃ (I29 : Int32 → MS → Prop) (U29 : Int32 → MS → Nat), I29 0 x6 ∧ ∀ (y7 : Int32) (x8 : MS), I29 y7 x8 →
 ((6 ≤ y7 →
 (∃ (I59 : Int32 → MS → Prop) (U59 : Int32 → MS → Nat), I59 0 x8 ∧ ∀ (y9 : Int32) (x10 : MS), I59 y9 x10 →
 ((48 ≤ y9 →
 Q x10) ∧ (¬ 48 ≤ y9 →
 (vp_in y9 48 ∧
 wp_X12_carry x10 (x10.2.1 2 (Int32.toNatClampNeg y9)) (fun (r12 : Int32) (x11 : MS) =>
 (vp_in y9 48 ∧
 ∀ x13 : MS, x13 = mA x11 2 (upd (x11.2.1 2) (Int32.toNatClampNeg y9) r12) →
 (vp_in y9 48 ∧
 wp_X12_carry x13 (x13.2.1 3 (Int32.toNatClampNeg y9)) (fun (r15 : Int32) (x14 : MS) =>
 (vp_in y9 48 ∧
 ∀ x16 : MS, x16 = mA x14 3 (upd (x14.2.1 3) (Int32.toNatClampNeg y9) r15) →
 (vp_in y9 48 ∧
 wp_X12_carry x16 (x16.2.1 4 (Int32.toNatClampNeg y9)) (fun (r18 : Int32) (x17 : MS) =>
 (vp_in y9 48 ∧
 ∀ x19 : MS, x19 = mA x17 4 (upd (x17.2.1 4) (Int32.toNatClampNeg y9) r18) →
 (vp_in y9 48 ∧
 wp_X12_carry x19 (x19.2.1 5 (Int32.toNatClampNeg y9)) (fun (r21 : Int32) (x20 : MS) =>
 (vp_in y9 48 ∧
 ∀ x22 : MS, x22 = mA x20 5 (upd (x20.2.1 5) (Int32.toNatClampNeg y9) r21) →
 (I59 (y9 + 1) x22 ∧ U59 (y9 + 1) x22 < U59 y9 x10))))))))))))))))) ∧ (¬ 6 ≤ y7 →
 (vp_in y7 6 ∧
 wp_X12_carry x8 (x8.2.1 1 (Int32.toNatClampNeg y7)) (fun (r25 : Int32) (x24 : MS) =>
 (vp_in y7 6 ∧
 ∀ x26 : MS, x26 = mA x24 1 (upd (x24.2.1 1) (Int32.toNatClampNeg y7) r25) →
 (I29 (y7 + 1) x26 ∧ U29 (y7 + 1) x26 < U29 y7 x8))))))))))))
set_option maxHeartbeats 4000000 in
set_option maxRecDepth 100000 in
theorem t_X12_carryAll {l : Launch} {D : va_G} {cs : Nat → ClassId} {ad : Nat → Nat} (hI : wInj 18 ad) (x : MS) (q1 : Nat) (hq1 : mk q1) (p2 : Int32) (Q : MS → Prop) (h : wp_X12_carryAll x q1 p2 Q) : zWV l yX12_carryAll wsX12_carryAll ({ frames := 1, cells := 0, slots := 0, locals := 21 } : Room) (gK D cs) (MH D cs ad) (wB 18 ad) x [.ref (ad 0), .ref (ad q1), .int p2] 0 0 Q := by
  refine zWV_of (cc := cX12_carryAll) (nL := 4) (ret := none) (by decide +kernel) rfl (Nat.le_of_ble_eq_true rfl) (fun C hl O hE hK => ?_)
  subst hl
  have hX : ∀ (x : MS) (H : Heap), MH D cs ad x H → va_P D vwCl (wl 18 ad (ME cs ad x)) H := fun _ _ h => h
  have hB : ∀ {x : MS} (H : Heap), va_P D vwCl (wl 18 ad (ME cs ad x)) H → MH D cs ad x H := fun _ h => h
  have hA : ∀ q, wB 18 ad q → zA (wB 18 ad) C.s.heap.size q := fun _ h => Or.inl h
  have i12 : ∀ w ∈ wsX120, w ∈ wsX12_carryAll := by decide +kernel
  refine z_sub (lv' := [(0, .ref (ad 0)), (1, .ref (ad q1)), (2, .int p2)]) [0, 1, 2] rfl ?_
  refine z_aload_n O dX12_carryAll_0 0 rfl ?_
  refine z_aload_n O dX12_carryAll_1 1 rfl ?_
  obtain ⟨x1, ex1⟩ : ∃ z, z = mR x (some q1) := ⟨_, rfl⟩
  replace h := h x1 ex1
  refine z_putf (x' := x1) (ty := (.array .int)) O hK.1 (hX _) hB hI hA (by decide) me_0 rfl i12 tyX12 tyX12_ok nmX12 12 (by decide) (by decide +kernel) rfl (by decide +kernel) rfl rfl (Nat.le_of_ble_eq_true rfl) (by rw [ex1]; exact me_put rfl rfl rfl) dX12_carryAll_2 ?_
  refine z_aload_n O dX12_carryAll_5 0 rfl ?_
  refine z_iload_n O dX12_carryAll_6 2 rfl ?_
  have hz := h.1
  replace h := h.2
  obtain ⟨x2, ex2⟩ : ∃ z, z = mI x1 11 p2 := ⟨_, rfl⟩
  replace h := h x2 ex2
  refine z_putf (x' := x2) (ty := .boolean) O hK.1 (hX _) hB hI hA (by decide) me_0 rfl i12 tyX12 tyX12_ok nmX12 11 (by decide) (by decide +kernel) rfl (by decide +kernel) (zb_n hz) (zb_f hz) (Nat.le_of_ble_eq_true rfl) (by rw [ex2]; exact me_put rfl rfl rfl) dX12_carryAll_7 ?_
  refine z_aload_n O dX12_carryAll_10 0 rfl ?_
  refine z_iconst (v := 0) O dX12_carryAll_11 rfl ?_
  obtain ⟨x3, ex3⟩ : ∃ z, z = mI x2 10 0 := ⟨_, rfl⟩
  replace h := h x3 ex3
  refine z_putf (x' := x3) (ty := .int) O hK.1 (hX _) hB hI hA (by decide) me_0 rfl i12 tyX12 tyX12_ok nmX12 10 (by decide) (by decide +kernel) rfl (by decide +kernel) rfl rfl (Nat.le_of_ble_eq_true rfl) (by rw [ex3]; exact me_put rfl rfl rfl) dX12_carryAll_12 ?_
  refine z_aload_n O dX12_carryAll_15 0 rfl ?_
  refine z_aload_n O dX12_carryAll_16 0 rfl ?_
  refine z_aload_n O dX12_carryAll_17 0 rfl ?_
  refine z_getf O hK.1 (hX _) (by decide) me_0 rfl i12 0 (by decide) (by decide +kernel) rfl dX12_carryAll_18 ?_
  refine z_cWR (gKs D cs) hK (fun _ h => h) (fun _ h => Or.inl h) (fun _ h => Or.inr h) (t_X12_carry hI x3  (x3.1 0) _ h) (zr_V (As := [.int (x3.1 0)]) (rest := [.ref (ad 0)]) O hE.1 1 gX12_carryAll_X12_carry rfl rfl rfl (by decide +kernel) ⟨(Nat.le_of_ble_eq_true rfl), (Nat.le_of_ble_eq_true rfl)⟩ ⟨(Nat.le_of_ble_eq_true rfl), (Nat.le_of_ble_eq_true rfl)⟩ (fun H hH => z_recv hK.1 (hX _ H hH) (by decide) me_0 rfl) rfl rfl (Nat.le_of_ble_eq_true rfl) dX12_carryAll_21) (fun r5 x4 h => ?_)
  obtain ⟨x6, ex6⟩ : ∃ z, z = mI x4 0 r5 := ⟨_, rfl⟩
  replace h := h x6 ex6
  refine z_putf (x' := x6) (ty := .int) O hK.1 (hX _) hB hI hA (by decide) me_0 rfl i12 tyX12 tyX12_ok nmX12 0 (by decide) (by decide +kernel) rfl (by decide +kernel) rfl rfl (Nat.le_of_ble_eq_true rfl) (by rw [ex6]; exact me_put rfl rfl rfl) dX12_carryAll_24 ?_
  refine z_iconst (v := 0) O dX12_carryAll_27 rfl ?_
  refine z_istore_n (lv' := [(3, .int 0), (0, .ref (ad 0)), (1, .ref (ad q1)), (2, .int p2)]) O dX12_carryAll_28 (by decide) rfl ?_
  obtain ⟨I29, U29, h0, hs⟩ := h
  have kI29 : ∀ (n : Nat) (y7 : Int32) (x8 : MS), U29 y7 x8 < n → I29 y7 x8 → Z C (zA (wB 18 ad) C.s.heap.size) (MH D cs ad) 4 x8 [(0, .ref (ad 0)), (3, .int y7)] 0 0 29 [] := by
    intro n
    induction n with
    | zero => intro y7 x8 uI29; exact absurd uI29 (Nat.not_lt_zero _)
    | succ n iI29 =>
      intro y7 x8 uI29 h
      have h := hs y7 x8 h
      refine z_iload_n O dX12_carryAll_29 1 rfl ?_
      refine z_bipush (v := 6) O dX12_carryAll_30 rfl ?_
      refine z_icmp_ge O 57 dX12_carryAll_32 (by decide) (fun c27 => ?_) (fun c27 => ?_)
      · replace h := h.1 c27
        refine z_iconst (v := 0) O dX12_carryAll_57 rfl ?_
        refine z_istore_n (lv' := [(3, .int 0), (0, .ref (ad 0))]) O dX12_carryAll_58 (by decide) rfl ?_
        obtain ⟨I59, U59, h0, hs⟩ := h
        have kI59 : ∀ (n : Nat) (y9 : Int32) (x10 : MS), U59 y9 x10 < n → I59 y9 x10 → Z C (zA (wB 18 ad) C.s.heap.size) (MH D cs ad) 4 x10 [(0, .ref (ad 0)), (3, .int y9)] 0 0 59 [] := by
          intro n
          induction n with
          | zero => intro y9 x10 uI59; exact absurd uI59 (Nat.not_lt_zero _)
          | succ n iI59 =>
            intro y9 x10 uI59 h
            have h := hs y9 x10 h
            refine z_iload_n O dX12_carryAll_59 1 rfl ?_
            refine z_bipush (v := 48) O dX12_carryAll_60 rfl ?_
            refine z_icmp_ge O 135 dX12_carryAll_62 (by decide) (fun c23 => ?_) (fun c23 => ?_)
            · replace h := h.1 c23
              exact z_retWV O hE (Nat.le_of_ble_eq_true rfl) (Nat.le_of_ble_eq_true rfl) dX12_carryAll_135 h
            · replace h := h.2 c23
              refine z_aload_n O dX12_carryAll_65 0 rfl ?_
              refine z_getf O hK.1 (hX _) (by decide) me_0 rfl i12 2 (by decide) (by decide +kernel) rfl dX12_carryAll_66 ?_
              refine z_iload_n O dX12_carryAll_69 1 rfl ?_
              refine z_aload_n O dX12_carryAll_70 0 rfl ?_
              refine z_aload_n O dX12_carryAll_71 0 rfl ?_
              refine z_getf O hK.1 (hX _) (by decide) me_0 rfl i12 2 (by decide) (by decide +kernel) rfl dX12_carryAll_72 ?_
              refine z_iload_n O dX12_carryAll_75 1 rfl ?_
              refine z_iald O hK.1 (hX _) 0 (mk_lt mk_2) (me_A mk_2) rfl (show vp_in y9 (mlen 2) from h.1) dX12_carryAll_76 ?_
              replace h := h.2
              refine z_cWR (gKs D cs) hK (fun _ h => h) (fun _ h => Or.inl h) (fun _ h => Or.inr h) (t_X12_carry hI x10  (x10.2.1 2 (Int32.toNatClampNeg y9)) _ h) (zr_V (As := [.int (x10.2.1 2 (Int32.toNatClampNeg y9))]) (rest := [.int y9, .ref (ad 2)]) O hE.1 1 gX12_carryAll_X12_carry rfl rfl rfl (by decide +kernel) ⟨(Nat.le_of_ble_eq_true rfl), (Nat.le_of_ble_eq_true rfl)⟩ ⟨(Nat.le_of_ble_eq_true rfl), (Nat.le_of_ble_eq_true rfl)⟩ (fun H hH => z_recv hK.1 (hX _ H hH) (by decide) me_0 rfl) rfl rfl (Nat.le_of_ble_eq_true rfl) dX12_carryAll_77) (fun r12 x11 h => ?_)
              have hb0 := h.1
              replace h := h.2
              obtain ⟨x13, ex13⟩ : ∃ z, z = mA x11 2 (upd (x11.2.1 2) (Int32.toNatClampNeg y9) r12) := ⟨_, rfl⟩
              replace h := h x13 ex13
              refine z_iast (x' := x13) O hK.1 (hX _) hB hI hA 0 (mk_lt mk_2) (me_A mk_2) rfl (show vp_in y9 (mlen 2) from hb0) (by rw [ex13]; exact me_setA mk_2 _) dX12_carryAll_80 ?_
              refine z_aload_n O dX12_carryAll_81 0 rfl ?_
              refine z_getf O hK.1 (hX _) (by decide) me_0 rfl i12 3 (by decide) (by decide +kernel) rfl dX12_carryAll_82 ?_
              refine z_iload_n O dX12_carryAll_85 1 rfl ?_
              refine z_aload_n O dX12_carryAll_86 0 rfl ?_
              refine z_aload_n O dX12_carryAll_87 0 rfl ?_
              refine z_getf O hK.1 (hX _) (by decide) me_0 rfl i12 3 (by decide) (by decide +kernel) rfl dX12_carryAll_88 ?_
              refine z_iload_n O dX12_carryAll_91 1 rfl ?_
              refine z_iald O hK.1 (hX _) 0 (mk_lt mk_3) (me_A mk_3) rfl (show vp_in y9 (mlen 3) from h.1) dX12_carryAll_92 ?_
              replace h := h.2
              refine z_cWR (gKs D cs) hK (fun _ h => h) (fun _ h => Or.inl h) (fun _ h => Or.inr h) (t_X12_carry hI x13  (x13.2.1 3 (Int32.toNatClampNeg y9)) _ h) (zr_V (As := [.int (x13.2.1 3 (Int32.toNatClampNeg y9))]) (rest := [.int y9, .ref (ad 3)]) O hE.1 1 gX12_carryAll_X12_carry rfl rfl rfl (by decide +kernel) ⟨(Nat.le_of_ble_eq_true rfl), (Nat.le_of_ble_eq_true rfl)⟩ ⟨(Nat.le_of_ble_eq_true rfl), (Nat.le_of_ble_eq_true rfl)⟩ (fun H hH => z_recv hK.1 (hX _ H hH) (by decide) me_0 rfl) rfl rfl (Nat.le_of_ble_eq_true rfl) dX12_carryAll_93) (fun r15 x14 h => ?_)
              have hb0 := h.1
              replace h := h.2
              obtain ⟨x16, ex16⟩ : ∃ z, z = mA x14 3 (upd (x14.2.1 3) (Int32.toNatClampNeg y9) r15) := ⟨_, rfl⟩
              replace h := h x16 ex16
              refine z_iast (x' := x16) O hK.1 (hX _) hB hI hA 0 (mk_lt mk_3) (me_A mk_3) rfl (show vp_in y9 (mlen 3) from hb0) (by rw [ex16]; exact me_setA mk_3 _) dX12_carryAll_96 ?_
              refine z_aload_n O dX12_carryAll_97 0 rfl ?_
              refine z_getf O hK.1 (hX _) (by decide) me_0 rfl i12 4 (by decide) (by decide +kernel) rfl dX12_carryAll_98 ?_
              refine z_iload_n O dX12_carryAll_101 1 rfl ?_
              refine z_aload_n O dX12_carryAll_102 0 rfl ?_
              refine z_aload_n O dX12_carryAll_103 0 rfl ?_
              refine z_getf O hK.1 (hX _) (by decide) me_0 rfl i12 4 (by decide) (by decide +kernel) rfl dX12_carryAll_104 ?_
              refine z_iload_n O dX12_carryAll_107 1 rfl ?_
              refine z_iald O hK.1 (hX _) 0 (mk_lt mk_4) (me_A mk_4) rfl (show vp_in y9 (mlen 4) from h.1) dX12_carryAll_108 ?_
              replace h := h.2
              refine z_cWR (gKs D cs) hK (fun _ h => h) (fun _ h => Or.inl h) (fun _ h => Or.inr h) (t_X12_carry hI x16  (x16.2.1 4 (Int32.toNatClampNeg y9)) _ h) (zr_V (As := [.int (x16.2.1 4 (Int32.toNatClampNeg y9))]) (rest := [.int y9, .ref (ad 4)]) O hE.1 1 gX12_carryAll_X12_carry rfl rfl rfl (by decide +kernel) ⟨(Nat.le_of_ble_eq_true rfl), (Nat.le_of_ble_eq_true rfl)⟩ ⟨(Nat.le_of_ble_eq_true rfl), (Nat.le_of_ble_eq_true rfl)⟩ (fun H hH => z_recv hK.1 (hX _ H hH) (by decide) me_0 rfl) rfl rfl (Nat.le_of_ble_eq_true rfl) dX12_carryAll_109) (fun r18 x17 h => ?_)
              have hb0 := h.1
              replace h := h.2
              obtain ⟨x19, ex19⟩ : ∃ z, z = mA x17 4 (upd (x17.2.1 4) (Int32.toNatClampNeg y9) r18) := ⟨_, rfl⟩
              replace h := h x19 ex19
              refine z_iast (x' := x19) O hK.1 (hX _) hB hI hA 0 (mk_lt mk_4) (me_A mk_4) rfl (show vp_in y9 (mlen 4) from hb0) (by rw [ex19]; exact me_setA mk_4 _) dX12_carryAll_112 ?_
              refine z_aload_n O dX12_carryAll_113 0 rfl ?_
              refine z_getf O hK.1 (hX _) (by decide) me_0 rfl i12 5 (by decide) (by decide +kernel) rfl dX12_carryAll_114 ?_
              refine z_iload_n O dX12_carryAll_117 1 rfl ?_
              refine z_aload_n O dX12_carryAll_118 0 rfl ?_
              refine z_aload_n O dX12_carryAll_119 0 rfl ?_
              refine z_getf O hK.1 (hX _) (by decide) me_0 rfl i12 5 (by decide) (by decide +kernel) rfl dX12_carryAll_120 ?_
              refine z_iload_n O dX12_carryAll_123 1 rfl ?_
              refine z_iald O hK.1 (hX _) 0 (mk_lt mk_5) (me_A mk_5) rfl (show vp_in y9 (mlen 5) from h.1) dX12_carryAll_124 ?_
              replace h := h.2
              refine z_cWR (gKs D cs) hK (fun _ h => h) (fun _ h => Or.inl h) (fun _ h => Or.inr h) (t_X12_carry hI x19  (x19.2.1 5 (Int32.toNatClampNeg y9)) _ h) (zr_V (As := [.int (x19.2.1 5 (Int32.toNatClampNeg y9))]) (rest := [.int y9, .ref (ad 5)]) O hE.1 1 gX12_carryAll_X12_carry rfl rfl rfl (by decide +kernel) ⟨(Nat.le_of_ble_eq_true rfl), (Nat.le_of_ble_eq_true rfl)⟩ ⟨(Nat.le_of_ble_eq_true rfl), (Nat.le_of_ble_eq_true rfl)⟩ (fun H hH => z_recv hK.1 (hX _ H hH) (by decide) me_0 rfl) rfl rfl (Nat.le_of_ble_eq_true rfl) dX12_carryAll_125) (fun r21 x20 h => ?_)
              have hb0 := h.1
              replace h := h.2
              obtain ⟨x22, ex22⟩ : ∃ z, z = mA x20 5 (upd (x20.2.1 5) (Int32.toNatClampNeg y9) r21) := ⟨_, rfl⟩
              replace h := h x22 ex22
              refine z_iast (x' := x22) O hK.1 (hX _) hB hI hA 0 (mk_lt mk_5) (me_A mk_5) rfl (show vp_in y9 (mlen 5) from hb0) (by rw [ex22]; exact me_setA mk_5 _) dX12_carryAll_128 ?_
              refine z_iinc (lv' := [(3, .int (y9 + 1)), (0, .ref (ad 0))]) O dX12_carryAll_129 1 rfl rfl (by decide) rfl ?_
              refine z_goto O 59 dX12_carryAll_132 (by decide) ?_
              exact z_sub [1, 0] rfl (iI59 (y9 + 1) x22 (Nat.lt_of_lt_of_le h.2 (Nat.le_of_lt_succ uI59)) h.1)
        exact z_sub [1, 0] rfl (kI59 _ 0 x8 (Nat.lt_succ_self _) h0)
      · replace h := h.2 c27
        refine z_aload_n O dX12_carryAll_35 0 rfl ?_
        refine z_getf O hK.1 (hX _) (by decide) me_0 rfl i12 1 (by decide) (by decide +kernel) rfl dX12_carryAll_36 ?_
        refine z_iload_n O dX12_carryAll_39 1 rfl ?_
        refine z_aload_n O dX12_carryAll_40 0 rfl ?_
        refine z_aload_n O dX12_carryAll_41 0 rfl ?_
        refine z_getf O hK.1 (hX _) (by decide) me_0 rfl i12 1 (by decide) (by decide +kernel) rfl dX12_carryAll_42 ?_
        refine z_iload_n O dX12_carryAll_45 1 rfl ?_
        refine z_iald O hK.1 (hX _) 0 (mk_lt mk_1) (me_A mk_1) rfl (show vp_in y7 (mlen 1) from h.1) dX12_carryAll_46 ?_
        replace h := h.2
        refine z_cWR (gKs D cs) hK (fun _ h => h) (fun _ h => Or.inl h) (fun _ h => Or.inr h) (t_X12_carry hI x8  (x8.2.1 1 (Int32.toNatClampNeg y7)) _ h) (zr_V (As := [.int (x8.2.1 1 (Int32.toNatClampNeg y7))]) (rest := [.int y7, .ref (ad 1)]) O hE.1 1 gX12_carryAll_X12_carry rfl rfl rfl (by decide +kernel) ⟨(Nat.le_of_ble_eq_true rfl), (Nat.le_of_ble_eq_true rfl)⟩ ⟨(Nat.le_of_ble_eq_true rfl), (Nat.le_of_ble_eq_true rfl)⟩ (fun H hH => z_recv hK.1 (hX _ H hH) (by decide) me_0 rfl) rfl rfl (Nat.le_of_ble_eq_true rfl) dX12_carryAll_47) (fun r25 x24 h => ?_)
        have hb0 := h.1
        replace h := h.2
        obtain ⟨x26, ex26⟩ : ∃ z, z = mA x24 1 (upd (x24.2.1 1) (Int32.toNatClampNeg y7) r25) := ⟨_, rfl⟩
        replace h := h x26 ex26
        refine z_iast (x' := x26) O hK.1 (hX _) hB hI hA 0 (mk_lt mk_1) (me_A mk_1) rfl (show vp_in y7 (mlen 1) from hb0) (by rw [ex26]; exact me_setA mk_1 _) dX12_carryAll_50 ?_
        refine z_iinc (lv' := [(3, .int (y7 + 1)), (0, .ref (ad 0))]) O dX12_carryAll_51 1 rfl rfl (by decide) rfl ?_
        refine z_goto O 29 dX12_carryAll_54 (by decide) ?_
        exact z_sub [1, 0] rfl (iI29 (y7 + 1) x26 (Nat.lt_of_lt_of_le h.2 (Nat.le_of_lt_succ uI29)) h.1)
  exact z_sub [1, 0] rfl (kI29 _ 0 x6 (Nat.lt_succ_self _) h0)
def wp_X12_open (x : MS)   (Q : MS → Prop) : Prop :=
 wp_X12_carryAll x 6 1 (fun (x1 : MS) =>
 Q x1)
set_option maxHeartbeats 4000000 in
set_option maxRecDepth 100000 in
theorem t_X12_open {l : Launch} {D : va_G} {cs : Nat → ClassId} {ad : Nat → Nat} (hI : wInj 18 ad) (x : MS)   (Q : MS → Prop) (h : wp_X12_open x   Q) : zWV l yX12_open wsX12_open ({ frames := 2, cells := 0, slots := 0, locals := 44 } : Room) (gK D cs) (MH D cs ad) (wB 18 ad) x [.ref (ad 0)] 0 0 Q := by
  refine zWV_of (cc := cX12_open) (nL := 1) (ret := none) (by decide +kernel) rfl (Nat.le_of_ble_eq_true rfl) (fun C hl O hE hK => ?_)
  subst hl
  have hX : ∀ (x : MS) (H : Heap), MH D cs ad x H → va_P D vwCl (wl 18 ad (ME cs ad x)) H := fun _ _ h => h
  have hB : ∀ {x : MS} (H : Heap), va_P D vwCl (wl 18 ad (ME cs ad x)) H → MH D cs ad x H := fun _ h => h
  have hA : ∀ q, wB 18 ad q → zA (wB 18 ad) C.s.heap.size q := fun _ h => Or.inl h
  have i12 : ∀ w ∈ wsX120, w ∈ wsX12_open := by decide +kernel
  refine z_sub (lv' := [(0, .ref (ad 0))]) [0] rfl ?_
  refine z_aload_n O dX12_open_0 0 rfl ?_
  refine z_aload_n O dX12_open_1 0 rfl ?_
  refine z_getf O hK.1 (hX _) (by decide) me_0 rfl i12 7 (by decide) (by decide +kernel) rfl dX12_open_2 ?_
  refine z_iconst (v := 1) O dX12_open_5 rfl ?_
  refine z_cWV (gKs D cs) hK (fun _ h => h) (fun _ h => Or.inl h) (fun _ h => Or.inr h) (t_X12_carryAll hI x 6 mk_6 1 _ h) (zr_V (As := [.ref (ad 6), .int 1]) (rest := []) O hE.1 2 gX12_open_X12_carryAll rfl rfl rfl (by decide +kernel) ⟨(Nat.le_of_ble_eq_true rfl), (Nat.le_of_ble_eq_true rfl)⟩ ⟨(Nat.le_of_ble_eq_true rfl), (Nat.le_of_ble_eq_true rfl)⟩ (fun H hH => z_recv hK.1 (hX _ H hH) (by decide) me_0 rfl) rfl rfl (Nat.le_of_ble_eq_true rfl) dX12_open_6) (fun x1 h => ?_)
  exact z_retWV O hE (Nat.le_of_ble_eq_true rfl) (Nat.le_of_ble_eq_true rfl) dX12_open_9 h
def wp_X12_close (x : MS)   (Q : MS → Prop) : Prop :=
 wp_X12_carryAll x 6 0 (fun (x1 : MS) =>
 Q x1)
set_option maxHeartbeats 4000000 in
set_option maxRecDepth 100000 in
theorem t_X12_close {l : Launch} {D : va_G} {cs : Nat → ClassId} {ad : Nat → Nat} (hI : wInj 18 ad) (x : MS)   (Q : MS → Prop) (h : wp_X12_close x   Q) : zWV l yX12_close wsX12_close ({ frames := 2, cells := 0, slots := 0, locals := 44 } : Room) (gK D cs) (MH D cs ad) (wB 18 ad) x [.ref (ad 0)] 0 0 Q := by
  refine zWV_of (cc := cX12_close) (nL := 1) (ret := none) (by decide +kernel) rfl (Nat.le_of_ble_eq_true rfl) (fun C hl O hE hK => ?_)
  subst hl
  have hX : ∀ (x : MS) (H : Heap), MH D cs ad x H → va_P D vwCl (wl 18 ad (ME cs ad x)) H := fun _ _ h => h
  have hB : ∀ {x : MS} (H : Heap), va_P D vwCl (wl 18 ad (ME cs ad x)) H → MH D cs ad x H := fun _ h => h
  have hA : ∀ q, wB 18 ad q → zA (wB 18 ad) C.s.heap.size q := fun _ h => Or.inl h
  have i12 : ∀ w ∈ wsX120, w ∈ wsX12_close := by decide +kernel
  refine z_sub (lv' := [(0, .ref (ad 0))]) [0] rfl ?_
  refine z_aload_n O dX12_close_0 0 rfl ?_
  refine z_aload_n O dX12_close_1 0 rfl ?_
  refine z_getf O hK.1 (hX _) (by decide) me_0 rfl i12 7 (by decide) (by decide +kernel) rfl dX12_close_2 ?_
  refine z_iconst (v := 0) O dX12_close_5 rfl ?_
  refine z_cWV (gKs D cs) hK (fun _ h => h) (fun _ h => Or.inl h) (fun _ h => Or.inr h) (t_X12_carryAll hI x 6 mk_6 0 _ h) (zr_V (As := [.ref (ad 6), .int 0]) (rest := []) O hE.1 2 gX12_close_X12_carryAll rfl rfl rfl (by decide +kernel) ⟨(Nat.le_of_ble_eq_true rfl), (Nat.le_of_ble_eq_true rfl)⟩ ⟨(Nat.le_of_ble_eq_true rfl), (Nat.le_of_ble_eq_true rfl)⟩ (fun H hH => z_recv hK.1 (hX _ H hH) (by decide) me_0 rfl) rfl rfl (Nat.le_of_ble_eq_true rfl) dX12_close_6) (fun x1 h => ?_)
  exact z_retWV O hE (Nat.le_of_ble_eq_true rfl) (Nat.le_of_ble_eq_true rfl) dX12_close_9 h
def wp_X12_iceOf (x : MS)  (p1 : Int32) (Q : Int32 → Prop) : Prop :=
 (∃ (I4 : Int32 → Int32 → Prop) (U4 : Int32 → Int32 → Nat), I4 0 0 ∧ ∀ (y1 : Int32) (y2 : Int32), I4 y1 y2 →
 (vp_in p1 6 ∧
 (((x.2.1 1 (Int32.toNatClampNeg p1)) ≤ y2 →
 Q y1) ∧ (¬ (x.2.1 1 (Int32.toNatClampNeg p1)) ≤ y2 →
 (vp_in ((8 * p1) + y2) 48 ∧
 (I4 (y1 + (x.2.1 5 (Int32.toNatClampNeg ((8 * p1) + y2)))) (y2 + 1) ∧ U4 (y1 + (x.2.1 5 (Int32.toNatClampNeg ((8 * p1) + y2)))) (y2 + 1) < U4 y1 y2))))))
set_option maxHeartbeats 4000000 in
set_option maxRecDepth 100000 in
theorem t_X12_iceOf {l : Launch} {D : va_G} {cs : Nat → ClassId} {ad : Nat → Nat} (x : MS)  (p1 : Int32) (Q : Int32 → Prop) (h : wp_X12_iceOf x  p1 Q) : zMR l yX12_iceOf wsX12_iceOf ({ frames := 0, cells := 0, slots := 0, locals := 0 } : Room) (gK D cs) (MH D cs ad) x [.ref (ad 0), .int p1] Q := by
  refine zMR_of (cc := cX12_iceOf) (nL := 4) (ret := (some .int)) (by decide +kernel) rfl (Nat.le_of_ble_eq_true rfl) (fun C hl O hE hK hH => ?_)
  subst hl
  have hX : ∀ (x : MS) (H : Heap), z0 (MH D cs ad) C.s.heap x H → va_P D vwCl (wl 18 ad (ME cs ad x)) H := fun _ _ h => h.2
  have i12 : ∀ w ∈ wsX120, w ∈ wsX12_iceOf := by decide +kernel
  refine z_sub (lv' := [(0, .ref (ad 0)), (1, .int p1)]) [0, 1] rfl ?_
  refine z_iconst (v := 0) O dX12_iceOf_0 rfl ?_
  refine z_istore_n (lv' := [(2, .int 0), (0, .ref (ad 0)), (1, .int p1)]) O dX12_iceOf_1 (by decide) rfl ?_
  refine z_iconst (v := 0) O dX12_iceOf_2 rfl ?_
  refine z_istore_n (lv' := [(3, .int 0), (2, .int 0), (0, .ref (ad 0)), (1, .int p1)]) O dX12_iceOf_3 (by decide) rfl ?_
  obtain ⟨I4, U4, h0, hs⟩ := h
  have kI4 : ∀ (n : Nat) (y1 : Int32) (y2 : Int32), U4 y1 y2 < n → I4 y1 y2 → Z C (fun _ => False) (z0 (MH D cs ad) C.s.heap) 4 x [(0, .ref (ad 0)), (1, .int p1), (2, .int y1), (3, .int y2)] 0 0 4 [] := by
    intro n
    induction n with
    | zero => intro y1 y2 uI4; exact absurd uI4 (Nat.not_lt_zero _)
    | succ n iI4 =>
      intro y1 y2 uI4 h
      have h := hs y1 y2 h
      refine z_iload_n O dX12_iceOf_4 3 rfl ?_
      refine z_aload_n O dX12_iceOf_5 0 rfl ?_
      refine z_getf O hK.1 (hX _) (by decide) me_0 rfl i12 1 (by decide) (by decide +kernel) rfl dX12_iceOf_6 ?_
      refine z_iload_n O dX12_iceOf_9 1 rfl ?_
      refine z_iald O hK.1 (hX _) 0 (mk_lt mk_1) (me_A mk_1) rfl (show vp_in p1 (mlen 1) from h.1) dX12_iceOf_10 ?_
      replace h := h.2
      refine z_icmp_ge O 34 dX12_iceOf_11 (by decide) (fun c3 => ?_) (fun c3 => ?_)
      · replace h := h.1 c3
        refine z_iload_n O dX12_iceOf_34 2 rfl ?_
        exact z_retR O hE (fun _ h => h.1) rfl dX12_iceOf_35 h
      · replace h := h.2 c3
        refine z_iload_n O dX12_iceOf_14 2 rfl ?_
        refine z_aload_n O dX12_iceOf_15 0 rfl ?_
        refine z_getf O hK.1 (hX _) (by decide) me_0 rfl i12 5 (by decide) (by decide +kernel) rfl dX12_iceOf_16 ?_
        refine z_bipush (v := 8) O dX12_iceOf_19 rfl ?_
        refine z_iload_n O dX12_iceOf_21 1 rfl ?_
        refine z_imul O dX12_iceOf_22 ?_
        refine z_iload_n O dX12_iceOf_23 3 rfl ?_
        refine z_iadd O dX12_iceOf_24 ?_
        refine z_iald O hK.1 (hX _) 0 (mk_lt mk_5) (me_A mk_5) rfl (show vp_in ((8 * p1) + y2) (mlen 5) from h.1) dX12_iceOf_25 ?_
        replace h := h.2
        refine z_iadd O dX12_iceOf_26 ?_
        refine z_istore_n (lv' := [(2, .int (y1 + (x.2.1 5 (Int32.toNatClampNeg ((8 * p1) + y2))))), (0, .ref (ad 0)), (1, .int p1), (3, .int y2)]) O dX12_iceOf_27 (by decide) rfl ?_
        refine z_iinc (lv' := [(3, .int (y2 + 1)), (2, .int (y1 + (x.2.1 5 (Int32.toNatClampNeg ((8 * p1) + y2))))), (0, .ref (ad 0)), (1, .int p1)]) O dX12_iceOf_28 3 rfl rfl (by decide) rfl ?_
        refine z_goto O 4 dX12_iceOf_31 (by decide) ?_
        exact z_sub [2, 3, 1, 0] rfl (iI4 (y1 + (x.2.1 5 (Int32.toNatClampNeg ((8 * p1) + y2)))) (y2 + 1) (Nat.lt_of_lt_of_le h.2 (Nat.le_of_lt_succ uI4)) h.1)
  exact z_sub [2, 3, 1, 0] rfl (kI4 _ 0 0 (Nat.lt_succ_self _) h0)
def wp_X12_iceOfAll (x : MS)   (Q : Int32 → Prop) : Prop :=
 (∃ (I4 : Int32 → Int32 → Prop) (U4 : Int32 → Int32 → Nat), I4 0 0 ∧ ∀ (y1 : Int32) (y2 : Int32), I4 y1 y2 →
 ((6 ≤ y2 →
 Q y1) ∧ (¬ 6 ≤ y2 →
 wp_X12_iceOf x y2 (fun r3 : Int32 =>
 (I4 (y1 + r3) (y2 + 1) ∧ U4 (y1 + r3) (y2 + 1) < U4 y1 y2)))))
set_option maxHeartbeats 4000000 in
set_option maxRecDepth 100000 in
theorem t_X12_iceOfAll {l : Launch} {D : va_G} {cs : Nat → ClassId} {ad : Nat → Nat} (x : MS)   (Q : Int32 → Prop) (h : wp_X12_iceOfAll x   Q) : zMR l yX12_iceOfAll wsX12_iceOfAll ({ frames := 1, cells := 0, slots := 0, locals := 23 } : Room) (gK D cs) (MH D cs ad) x [.ref (ad 0)] Q := by
  refine zMR_of (cc := cX12_iceOfAll) (nL := 3) (ret := (some .int)) (by decide +kernel) rfl (Nat.le_of_ble_eq_true rfl) (fun C hl O hE hK hH => ?_)
  subst hl
  have hX : ∀ (x : MS) (H : Heap), z0 (MH D cs ad) C.s.heap x H → va_P D vwCl (wl 18 ad (ME cs ad x)) H := fun _ _ h => h.2
  refine z_sub (lv' := [(0, .ref (ad 0))]) [0] rfl ?_
  refine z_iconst (v := 0) O dX12_iceOfAll_0 rfl ?_
  refine z_istore_n (lv' := [(1, .int 0), (0, .ref (ad 0))]) O dX12_iceOfAll_1 (by decide) rfl ?_
  refine z_iconst (v := 0) O dX12_iceOfAll_2 rfl ?_
  refine z_istore_n (lv' := [(2, .int 0), (1, .int 0), (0, .ref (ad 0))]) O dX12_iceOfAll_3 (by decide) rfl ?_
  obtain ⟨I4, U4, h0, hs⟩ := h
  have kI4 : ∀ (n : Nat) (y1 : Int32) (y2 : Int32), U4 y1 y2 < n → I4 y1 y2 → Z C (fun _ => False) (z0 (MH D cs ad) C.s.heap) 3 x [(0, .ref (ad 0)), (1, .int y1), (2, .int y2)] 0 0 4 [] := by
    intro n
    induction n with
    | zero => intro y1 y2 uI4; exact absurd uI4 (Nat.not_lt_zero _)
    | succ n iI4 =>
      intro y1 y2 uI4 h
      have h := hs y1 y2 h
      refine z_iload_n O dX12_iceOfAll_4 2 rfl ?_
      refine z_bipush (v := 6) O dX12_iceOfAll_5 rfl ?_
      refine z_icmp_ge O 24 dX12_iceOfAll_7 (by decide) (fun c4 => ?_) (fun c4 => ?_)
      · replace h := h.1 c4
        refine z_iload_n O dX12_iceOfAll_24 1 rfl ?_
        exact z_retR O hE (fun _ h => h.1) rfl dX12_iceOfAll_25 h
      · replace h := h.2 c4
        refine z_iload_n O dX12_iceOfAll_10 1 rfl ?_
        refine z_aload_n O dX12_iceOfAll_11 0 rfl ?_
        refine z_iload_n O dX12_iceOfAll_12 2 rfl ?_
        refine z_callR (gKs D cs) hK (fun _ h => h.2) (t_X12_iceOf x  y2 _ h) (zr_V (As := [.int y2]) (rest := [.int y1]) O hE.1 1 gX12_iceOfAll_X12_iceOf rfl rfl rfl (by decide +kernel) ⟨(Nat.le_of_ble_eq_true rfl), (Nat.le_of_ble_eq_true rfl)⟩ ⟨(Nat.le_of_ble_eq_true rfl), (Nat.le_of_ble_eq_true rfl)⟩ (fun H hH => z_recv hK.1 (hX _ H hH) (by decide) me_0 rfl) rfl rfl (Nat.le_of_ble_eq_true rfl) dX12_iceOfAll_13) (fun r3 h => ?_)
        refine z_iadd O dX12_iceOfAll_16 ?_
        refine z_istore_n (lv' := [(1, .int (y1 + r3)), (0, .ref (ad 0)), (2, .int y2)]) O dX12_iceOfAll_17 (by decide) rfl ?_
        refine z_iinc (lv' := [(2, .int (y2 + 1)), (1, .int (y1 + r3)), (0, .ref (ad 0))]) O dX12_iceOfAll_18 2 rfl rfl (by decide) rfl ?_
        refine z_goto O 4 dX12_iceOfAll_21 (by decide) ?_
        exact z_sub [2, 1, 0] rfl (iI4 (y1 + r3) (y2 + 1) (Nat.lt_of_lt_of_le h.2 (Nat.le_of_lt_succ uI4)) h.1)
  exact z_sub [2, 1, 0] rfl (kI4 _ 0 0 (Nat.lt_succ_self _) h0)
def wp_X12_image (x : MS)   (Q : Int32 → MS → Prop) : Prop :=
 (∀ x1 : MS, x1 = mI x 6 0 →
 (∀ x2 : MS, x2 = mI x1 9 1 →
 wp_X12_carryAll x2 7 1 (fun (x3 : MS) =>
 wp_X12_iceOfAll x3  (fun r4 : Int32 =>
 Q r4 x3))))
set_option maxHeartbeats 4000000 in
set_option maxRecDepth 100000 in
theorem t_X12_image {l : Launch} {D : va_G} {cs : Nat → ClassId} {ad : Nat → Nat} (hI : wInj 18 ad) (x : MS)   (Q : Int32 → MS → Prop) (h : wp_X12_image x   Q) : zWR l yX12_image wsX12_image ({ frames := 2, cells := 0, slots := 0, locals := 45 } : Room) (gK D cs) (MH D cs ad) (wB 18 ad) x [.ref (ad 0)] 0 0 Q := by
  refine zWR_of (cc := cX12_image) (nL := 1) (ret := (some .int)) (by decide +kernel) rfl (Nat.le_of_ble_eq_true rfl) (fun C hl O hE hK => ?_)
  subst hl
  have hX : ∀ (x : MS) (H : Heap), MH D cs ad x H → va_P D vwCl (wl 18 ad (ME cs ad x)) H := fun _ _ h => h
  have hB : ∀ {x : MS} (H : Heap), va_P D vwCl (wl 18 ad (ME cs ad x)) H → MH D cs ad x H := fun _ h => h
  have hA : ∀ q, wB 18 ad q → zA (wB 18 ad) C.s.heap.size q := fun _ h => Or.inl h
  have i12 : ∀ w ∈ wsX120, w ∈ wsX12_image := by decide +kernel
  refine z_sub (lv' := [(0, .ref (ad 0))]) [0] rfl ?_
  refine z_aload_n O dX12_image_0 0 rfl ?_
  refine z_iconst (v := 0) O dX12_image_1 rfl ?_
  obtain ⟨x1, ex1⟩ : ∃ z, z = mI x 6 0 := ⟨_, rfl⟩
  replace h := h x1 ex1
  refine z_putf (x' := x1) (ty := .int) O hK.1 (hX _) hB hI hA (by decide) me_0 rfl i12 tyX12 tyX12_ok nmX12 6 (by decide) (by decide +kernel) rfl (by decide +kernel) rfl rfl (Nat.le_of_ble_eq_true rfl) (by rw [ex1]; exact me_put rfl rfl rfl) dX12_image_2 ?_
  refine z_aload_n O dX12_image_5 0 rfl ?_
  refine z_iconst (v := 1) O dX12_image_6 rfl ?_
  obtain ⟨x2, ex2⟩ : ∃ z, z = mI x1 9 1 := ⟨_, rfl⟩
  replace h := h x2 ex2
  refine z_putf (x' := x2) (ty := .boolean) O hK.1 (hX _) hB hI hA (by decide) me_0 rfl i12 tyX12 tyX12_ok nmX12 9 (by decide) (by decide +kernel) rfl (by decide +kernel) rfl rfl (Nat.le_of_ble_eq_true rfl) (by rw [ex2]; exact me_put rfl rfl rfl) dX12_image_7 ?_
  refine z_aload_n O dX12_image_10 0 rfl ?_
  refine z_aload_n O dX12_image_11 0 rfl ?_
  refine z_getf O hK.1 (hX _) (by decide) me_0 rfl i12 8 (by decide) (by decide +kernel) rfl dX12_image_12 ?_
  refine z_iconst (v := 1) O dX12_image_15 rfl ?_
  refine z_cWV (gKs D cs) hK (fun _ h => h) (fun _ h => Or.inl h) (fun _ h => Or.inr h) (t_X12_carryAll hI x2 7 mk_7 1 _ h) (zr_V (As := [.ref (ad 7), .int 1]) (rest := []) O hE.1 2 gX12_image_X12_carryAll rfl rfl rfl (by decide +kernel) ⟨(Nat.le_of_ble_eq_true rfl), (Nat.le_of_ble_eq_true rfl)⟩ ⟨(Nat.le_of_ble_eq_true rfl), (Nat.le_of_ble_eq_true rfl)⟩ (fun H hH => z_recv hK.1 (hX _ H hH) (by decide) me_0 rfl) rfl rfl (Nat.le_of_ble_eq_true rfl) dX12_image_16) (fun x3 h => ?_)
  refine z_aload_n O dX12_image_19 0 rfl ?_
  refine z_callR (gKs D cs) hK (fun _ h => h) (t_X12_iceOfAll x3   _ h) (zr_V (As := []) (rest := []) O hE.1 0 gX12_image_X12_iceOfAll rfl rfl rfl (by decide +kernel) ⟨(Nat.le_of_ble_eq_true rfl), (Nat.le_of_ble_eq_true rfl)⟩ ⟨(Nat.le_of_ble_eq_true rfl), (Nat.le_of_ble_eq_true rfl)⟩ (fun H hH => z_recv hK.1 (hX _ H hH) (by decide) me_0 rfl) rfl rfl (Nat.le_of_ble_eq_true rfl) dX12_image_20) (fun r4 h => ?_)
  exact z_retWR O hE (Nat.le_of_ble_eq_true rfl) (Nat.le_of_ble_eq_true rfl) rfl dX12_image_23 h
def wp_X12_restore (x : MS)   (Q : Int32 → MS → Prop) : Prop :=
 (∀ x1 : MS, x1 = mI x 6 0 →
 ((¬ (x1.1 9) = 0 →
 wp_X12_carryAll x1 7 0 (fun (x2 : MS) =>
 wp_X12_iceOfAll x2  (fun r3 : Int32 =>
 Q r3 x2))) ∧ ((x1.1 9) = 0 →
 Q (-3) x1)))
set_option maxHeartbeats 4000000 in
set_option maxRecDepth 100000 in
theorem t_X12_restore {l : Launch} {D : va_G} {cs : Nat → ClassId} {ad : Nat → Nat} (hI : wInj 18 ad) (x : MS)   (Q : Int32 → MS → Prop) (h : wp_X12_restore x   Q) : zWR l yX12_restore wsX12_restore ({ frames := 2, cells := 0, slots := 0, locals := 45 } : Room) (gK D cs) (MH D cs ad) (wB 18 ad) x [.ref (ad 0)] 0 0 Q := by
  refine zWR_of (cc := cX12_restore) (nL := 1) (ret := (some .int)) (by decide +kernel) rfl (Nat.le_of_ble_eq_true rfl) (fun C hl O hE hK => ?_)
  subst hl
  have hX : ∀ (x : MS) (H : Heap), MH D cs ad x H → va_P D vwCl (wl 18 ad (ME cs ad x)) H := fun _ _ h => h
  have hB : ∀ {x : MS} (H : Heap), va_P D vwCl (wl 18 ad (ME cs ad x)) H → MH D cs ad x H := fun _ h => h
  have hA : ∀ q, wB 18 ad q → zA (wB 18 ad) C.s.heap.size q := fun _ h => Or.inl h
  have i12 : ∀ w ∈ wsX120, w ∈ wsX12_restore := by decide +kernel
  refine z_sub (lv' := [(0, .ref (ad 0))]) [0] rfl ?_
  refine z_aload_n O dX12_restore_0 0 rfl ?_
  refine z_iconst (v := 0) O dX12_restore_1 rfl ?_
  obtain ⟨x1, ex1⟩ : ∃ z, z = mI x 6 0 := ⟨_, rfl⟩
  replace h := h x1 ex1
  refine z_putf (x' := x1) (ty := .int) O hK.1 (hX _) hB hI hA (by decide) me_0 rfl i12 tyX12 tyX12_ok nmX12 6 (by decide) (by decide +kernel) rfl (by decide +kernel) rfl rfl (Nat.le_of_ble_eq_true rfl) (by rw [ex1]; exact me_put rfl rfl rfl) dX12_restore_2 ?_
  refine z_aload_n O dX12_restore_5 0 rfl ?_
  refine z_getf O hK.1 (hX _) (by decide) me_0 rfl i12 9 (by decide) (by decide +kernel) rfl dX12_restore_6 ?_
  refine z_if_ne O 15 dX12_restore_9 (by decide) (fun c4 => ?_) (fun c4 => ?_)
  · replace h := h.1 c4
    refine z_aload_n O dX12_restore_15 0 rfl ?_
    refine z_aload_n O dX12_restore_16 0 rfl ?_
    refine z_getf O hK.1 (hX _) (by decide) me_0 rfl i12 8 (by decide) (by decide +kernel) rfl dX12_restore_17 ?_
    refine z_iconst (v := 0) O dX12_restore_20 rfl ?_
    refine z_cWV (gKs D cs) hK (fun _ h => h) (fun _ h => Or.inl h) (fun _ h => Or.inr h) (t_X12_carryAll hI x1 7 mk_7 0 _ h) (zr_V (As := [.ref (ad 7), .int 0]) (rest := []) O hE.1 2 gX12_restore_X12_carryAll rfl rfl rfl (by decide +kernel) ⟨(Nat.le_of_ble_eq_true rfl), (Nat.le_of_ble_eq_true rfl)⟩ ⟨(Nat.le_of_ble_eq_true rfl), (Nat.le_of_ble_eq_true rfl)⟩ (fun H hH => z_recv hK.1 (hX _ H hH) (by decide) me_0 rfl) rfl rfl (Nat.le_of_ble_eq_true rfl) dX12_restore_21) (fun x2 h => ?_)
    refine z_aload_n O dX12_restore_24 0 rfl ?_
    refine z_callR (gKs D cs) hK (fun _ h => h) (t_X12_iceOfAll x2   _ h) (zr_V (As := []) (rest := []) O hE.1 0 gX12_restore_X12_iceOfAll rfl rfl rfl (by decide +kernel) ⟨(Nat.le_of_ble_eq_true rfl), (Nat.le_of_ble_eq_true rfl)⟩ ⟨(Nat.le_of_ble_eq_true rfl), (Nat.le_of_ble_eq_true rfl)⟩ (fun H hH => z_recv hK.1 (hX _ H hH) (by decide) me_0 rfl) rfl rfl (Nat.le_of_ble_eq_true rfl) dX12_restore_25) (fun r3 h => ?_)
    exact z_retWR O hE (Nat.le_of_ble_eq_true rfl) (Nat.le_of_ble_eq_true rfl) rfl dX12_restore_28 h
  · replace h := h.2 c4
    refine z_bipush (v := -3) O dX12_restore_12 rfl ?_
    exact z_retWR O hE (Nat.le_of_ble_eq_true rfl) (Nat.le_of_ble_eq_true rfl) rfl dX12_restore_14 h
def wp_X12_here (x : MS)   (Q : Int32 → Prop) : Prop :=
 (((x.1 15) < (x.1 14) →
 (vp_in ((x.1 13) + (x.1 15)) 800 ∧
 Q (((Int64.toInt32 (x.2.2.1 16 (Int32.toNatClampNeg ((x.1 13) + (x.1 15)))))) &&& 255))) ∧ (¬ (x.1 15) < (x.1 14) →
 Q (-1)))
set_option maxHeartbeats 4000000 in
set_option maxRecDepth 100000 in
theorem t_X12_here {l : Launch} {D : va_G} {cs : Nat → ClassId} {ad : Nat → Nat} (x : MS)   (Q : Int32 → Prop) (h : wp_X12_here x   Q) : zMR l yX12_here wsX12_here ({ frames := 0, cells := 0, slots := 0, locals := 0 } : Room) (gK D cs) (MH D cs ad) x [.ref (ad 0)] Q := by
  refine zMR_of (cc := cX12_here) (nL := 1) (ret := (some .int)) (by decide +kernel) rfl (Nat.le_of_ble_eq_true rfl) (fun C hl O hE hK hH => ?_)
  subst hl
  have hX : ∀ (x : MS) (H : Heap), z0 (MH D cs ad) C.s.heap x H → va_P D vwCl (wl 18 ad (ME cs ad x)) H := fun _ _ h => h.2
  have i12 : ∀ w ∈ wsX120, w ∈ wsX12_here := by decide +kernel
  refine z_sub (lv' := [(0, .ref (ad 0))]) [0] rfl ?_
  refine z_aload_n O dX12_here_0 0 rfl ?_
  refine z_getf O hK.1 (hX _) (by decide) me_0 rfl i12 15 (by decide) (by decide +kernel) rfl dX12_here_1 ?_
  refine z_aload_n O dX12_here_4 0 rfl ?_
  refine z_getf O hK.1 (hX _) (by decide) me_0 rfl i12 14 (by decide) (by decide +kernel) rfl dX12_here_5 ?_
  refine z_icmp_lt O 15 dX12_here_8 (by decide) (fun c1 => ?_) (fun c1 => ?_)
  · replace h := h.1 c1
    refine z_aload_n O dX12_here_15 0 rfl ?_
    refine z_getf O hK.1 (hX _) (by decide) me_0 rfl i12 27 (by decide) (by decide +kernel) rfl dX12_here_16 ?_
    refine z_aload_n O dX12_here_19 0 rfl ?_
    refine z_getf O hK.1 (hX _) (by decide) me_0 rfl i12 13 (by decide) (by decide +kernel) rfl dX12_here_20 ?_
    refine z_aload_n O dX12_here_23 0 rfl ?_
    refine z_getf O hK.1 (hX _) (by decide) me_0 rfl i12 15 (by decide) (by decide +kernel) rfl dX12_here_24 ?_
    refine z_iadd O dX12_here_27 ?_
    refine z_lald O hK.1 (hX _) 4 (by decide) me_16 rfl (show vp_in ((x.1 13) + (x.1 15)) (mlen 16) from h.1) dX12_here_28 ?_
    replace h := h.2
    refine z_l2i O dX12_here_29 ?_
    refine z_sipush (v := 255) O dX12_here_30 rfl ?_
    refine z_iand O dX12_here_33 ?_
    exact z_retR O hE (fun _ h => h.1) rfl dX12_here_34 h
  · replace h := h.2 c1
    refine z_iconst (v := -1) O dX12_here_11 rfl ?_
    refine z_goto O 34 dX12_here_12 (by decide) ?_
    exact z_retR O hE (fun _ h => h.1) rfl dX12_here_34 h
def wp_X12_readDigit (x : MS)   (Q : Int32 → MS → Prop) : Prop :=
 ((¬ (x.1 16) = 0 →
 (∀ x1 : MS, x1 = mI x 16 1 →
 (((x1.1 16) = 0 →
 (∀ x2 : MS, x2 = mI x1 15 ((x1.1 15) + 1) →
 (vp_in (((x2.1 13) + (x2.1 15)) - 1) 800 ∧
 Q (((Int64.toInt32 (x2.2.2.1 16 (Int32.toNatClampNeg (((x2.1 13) + (x2.1 15)) - 1))))) - 48) x2))) ∧ (¬ (x1.1 16) = 0 →
 Q 0 x1)))) ∧ ((x.1 16) = 0 →
 wp_X12_here x  (fun r4 : Int32 =>
 wp_X12_in (Int32.toInt64 r4) 48 57 (fun r5 : Int32 =>
 ((¬ r5 = 0 →
 (∀ x6 : MS, x6 = mI x 16 0 →
 (((x6.1 16) = 0 →
 (∀ x7 : MS, x7 = mI x6 15 ((x6.1 15) + 1) →
 (vp_in (((x7.1 13) + (x7.1 15)) - 1) 800 ∧
 Q (((Int64.toInt32 (x7.2.2.1 16 (Int32.toNatClampNeg (((x7.1 13) + (x7.1 15)) - 1))))) - 48) x7))) ∧ (¬ (x6.1 16) = 0 →
 Q 0 x6)))) ∧ (r5 = 0 →
 (∀ x9 : MS, x9 = mI x 16 1 →
 (((x9.1 16) = 0 →
 (∀ x10 : MS, x10 = mI x9 15 ((x9.1 15) + 1) →
 (vp_in (((x10.1 13) + (x10.1 15)) - 1) 800 ∧
 Q (((Int64.toInt32 (x10.2.2.1 16 (Int32.toNatClampNeg (((x10.1 13) + (x10.1 15)) - 1))))) - 48) x10))) ∧ (¬ (x9.1 16) = 0 →
 Q 0 x9)))))))))
set_option maxHeartbeats 4000000 in
set_option maxRecDepth 100000 in
theorem t_X12_readDigit {l : Launch} {D : va_G} {cs : Nat → ClassId} {ad : Nat → Nat} (hI : wInj 18 ad) (x : MS)   (Q : Int32 → MS → Prop) (h : wp_X12_readDigit x   Q) : zWR l yX12_readDigit wsX12_readDigit ({ frames := 1, cells := 0, slots := 0, locals := 25 } : Room) (gK D cs) (MH D cs ad) (wB 18 ad) x [.ref (ad 0)] 0 0 Q := by
  refine zWR_of (cc := cX12_readDigit) (nL := 1) (ret := (some .int)) (by decide +kernel) rfl (Nat.le_of_ble_eq_true rfl) (fun C hl O hE hK => ?_)
  subst hl
  have hX : ∀ (x : MS) (H : Heap), MH D cs ad x H → va_P D vwCl (wl 18 ad (ME cs ad x)) H := fun _ _ h => h
  have hB : ∀ {x : MS} (H : Heap), va_P D vwCl (wl 18 ad (ME cs ad x)) H → MH D cs ad x H := fun _ h => h
  have hA : ∀ q, wB 18 ad q → zA (wB 18 ad) C.s.heap.size q := fun _ h => Or.inl h
  have i12 : ∀ w ∈ wsX120, w ∈ wsX12_readDigit := by decide +kernel
  refine z_sub (lv' := [(0, .ref (ad 0))]) [0] rfl ?_
  refine z_aload_n O dX12_readDigit_0 0 rfl ?_
  refine z_aload_n O dX12_readDigit_1 0 rfl ?_
  refine z_getf O hK.1 (hX _) (by decide) me_0 rfl i12 16 (by decide) (by decide +kernel) rfl dX12_readDigit_2 ?_
  refine z_if_ne O 25 dX12_readDigit_5 (by decide) (fun c13 => ?_) (fun c13 => ?_)
  · replace h := h.1 c13
    refine z_iconst (v := 1) O dX12_readDigit_25 rfl ?_
    refine z_goto O 30 dX12_readDigit_26 (by decide) ?_
    obtain ⟨x1, ex1⟩ : ∃ z, z = mI x 16 1 := ⟨_, rfl⟩
    replace h := h x1 ex1
    refine z_putf (x' := x1) (ty := .boolean) O hK.1 (hX _) hB hI hA (by decide) me_0 rfl i12 tyX12 tyX12_ok nmX12 16 (by decide) (by decide +kernel) rfl (by decide +kernel) rfl rfl (Nat.le_of_ble_eq_true rfl) (by rw [ex1]; exact me_put rfl rfl rfl) dX12_readDigit_30 ?_
    refine z_aload_n O dX12_readDigit_33 0 rfl ?_
    refine z_getf O hK.1 (hX _) (by decide) me_0 rfl i12 16 (by decide) (by decide +kernel) rfl dX12_readDigit_34 ?_
    refine z_if_eq O 42 dX12_readDigit_37 (by decide) (fun c3 => ?_) (fun c3 => ?_)
    · replace h := h.1 c3
      refine z_aload_n O dX12_readDigit_42 0 rfl ?_
      refine z_dup O dX12_readDigit_43 rfl ?_
      refine z_getf O hK.1 (hX _) (by decide) me_0 rfl i12 15 (by decide) (by decide +kernel) rfl dX12_readDigit_44 ?_
      refine z_iconst (v := 1) O dX12_readDigit_47 rfl ?_
      refine z_iadd O dX12_readDigit_48 ?_
      obtain ⟨x2, ex2⟩ : ∃ z, z = mI x1 15 ((x1.1 15) + 1) := ⟨_, rfl⟩
      replace h := h x2 ex2
      refine z_putf (x' := x2) (ty := .int) O hK.1 (hX _) hB hI hA (by decide) me_0 rfl i12 tyX12 tyX12_ok nmX12 15 (by decide) (by decide +kernel) rfl (by decide +kernel) rfl rfl (Nat.le_of_ble_eq_true rfl) (by rw [ex2]; exact me_put rfl rfl rfl) dX12_readDigit_49 ?_
      refine z_aload_n O dX12_readDigit_52 0 rfl ?_
      refine z_getf O hK.1 (hX _) (by decide) me_0 rfl i12 27 (by decide) (by decide +kernel) rfl dX12_readDigit_53 ?_
      refine z_aload_n O dX12_readDigit_56 0 rfl ?_
      refine z_getf O hK.1 (hX _) (by decide) me_0 rfl i12 13 (by decide) (by decide +kernel) rfl dX12_readDigit_57 ?_
      refine z_aload_n O dX12_readDigit_60 0 rfl ?_
      refine z_getf O hK.1 (hX _) (by decide) me_0 rfl i12 15 (by decide) (by decide +kernel) rfl dX12_readDigit_61 ?_
      refine z_iadd O dX12_readDigit_64 ?_
      refine z_iconst (v := 1) O dX12_readDigit_65 rfl ?_
      refine z_isub O dX12_readDigit_66 ?_
      refine z_lald O hK.1 (hX _) 4 (by decide) me_16 rfl (show vp_in (((x2.1 13) + (x2.1 15)) - 1) (mlen 16) from h.1) dX12_readDigit_67 ?_
      replace h := h.2
      refine z_l2i O dX12_readDigit_68 ?_
      refine z_bipush (v := 48) O dX12_readDigit_69 rfl ?_
      refine z_isub O dX12_readDigit_71 ?_
      exact z_retWR O hE (Nat.le_of_ble_eq_true rfl) (Nat.le_of_ble_eq_true rfl) rfl dX12_readDigit_72 h
    · replace h := h.2 c3
      refine z_iconst (v := 0) O dX12_readDigit_40 rfl ?_
      exact z_retWR O hE (Nat.le_of_ble_eq_true rfl) (Nat.le_of_ble_eq_true rfl) rfl dX12_readDigit_41 h
  · replace h := h.2 c13
    refine z_aload_n O dX12_readDigit_8 0 rfl ?_
    refine z_callR (gKs D cs) hK (fun _ h => h) (t_X12_here x   _ h) (zr_V (As := []) (rest := [.ref (ad 0)]) O hE.1 0 gX12_readDigit_X12_here rfl rfl rfl (by decide +kernel) ⟨(Nat.le_of_ble_eq_true rfl), (Nat.le_of_ble_eq_true rfl)⟩ ⟨(Nat.le_of_ble_eq_true rfl), (Nat.le_of_ble_eq_true rfl)⟩ (fun H hH => z_recv hK.1 (hX _ H hH) (by decide) me_0 rfl) rfl rfl (Nat.le_of_ble_eq_true rfl) dX12_readDigit_9) (fun r4 h => ?_)
    refine z_i2l O dX12_readDigit_12 ?_
    refine z_ldc2 (v := 48) O (by decide +kernel) dX12_readDigit_13 ?_
    refine z_ldc2 (v := 57) O (by decide +kernel) dX12_readDigit_16 ?_
    refine z_callR (gKs D cs) hK (fun _ h => h) (t_X12_in (gKs D cs) (Int32.toInt64 r4) 48 57 _ h) (zr_SS (As := [.long (Int32.toInt64 r4), .long 48, .long 57]) (rest := [.ref (ad 0)]) O hE.1 3 gX12_readDigit_X12_in rfl rfl rfl (by decide +kernel) ⟨(Nat.le_of_ble_eq_true rfl), (Nat.le_of_ble_eq_true rfl)⟩ ⟨(Nat.le_of_ble_eq_true rfl), (Nat.le_of_ble_eq_true rfl)⟩ rfl rfl (Nat.le_of_ble_eq_true rfl) dX12_readDigit_19) (fun r5 h => ?_)
    refine z_if_ne O 29 dX12_readDigit_22 (by decide) (fun c12 => ?_) (fun c12 => ?_)
    · replace h := h.1 c12
      refine z_iconst (v := 0) O dX12_readDigit_29 rfl ?_
      obtain ⟨x6, ex6⟩ : ∃ z, z = mI x 16 0 := ⟨_, rfl⟩
      replace h := h x6 ex6
      refine z_putf (x' := x6) (ty := .boolean) O hK.1 (hX _) hB hI hA (by decide) me_0 rfl i12 tyX12 tyX12_ok nmX12 16 (by decide) (by decide +kernel) rfl (by decide +kernel) rfl rfl (Nat.le_of_ble_eq_true rfl) (by rw [ex6]; exact me_put rfl rfl rfl) dX12_readDigit_30 ?_
      refine z_aload_n O dX12_readDigit_33 0 rfl ?_
      refine z_getf O hK.1 (hX _) (by decide) me_0 rfl i12 16 (by decide) (by decide +kernel) rfl dX12_readDigit_34 ?_
      refine z_if_eq O 42 dX12_readDigit_37 (by decide) (fun c8 => ?_) (fun c8 => ?_)
      · replace h := h.1 c8
        refine z_aload_n O dX12_readDigit_42 0 rfl ?_
        refine z_dup O dX12_readDigit_43 rfl ?_
        refine z_getf O hK.1 (hX _) (by decide) me_0 rfl i12 15 (by decide) (by decide +kernel) rfl dX12_readDigit_44 ?_
        refine z_iconst (v := 1) O dX12_readDigit_47 rfl ?_
        refine z_iadd O dX12_readDigit_48 ?_
        obtain ⟨x7, ex7⟩ : ∃ z, z = mI x6 15 ((x6.1 15) + 1) := ⟨_, rfl⟩
        replace h := h x7 ex7
        refine z_putf (x' := x7) (ty := .int) O hK.1 (hX _) hB hI hA (by decide) me_0 rfl i12 tyX12 tyX12_ok nmX12 15 (by decide) (by decide +kernel) rfl (by decide +kernel) rfl rfl (Nat.le_of_ble_eq_true rfl) (by rw [ex7]; exact me_put rfl rfl rfl) dX12_readDigit_49 ?_
        refine z_aload_n O dX12_readDigit_52 0 rfl ?_
        refine z_getf O hK.1 (hX _) (by decide) me_0 rfl i12 27 (by decide) (by decide +kernel) rfl dX12_readDigit_53 ?_
        refine z_aload_n O dX12_readDigit_56 0 rfl ?_
        refine z_getf O hK.1 (hX _) (by decide) me_0 rfl i12 13 (by decide) (by decide +kernel) rfl dX12_readDigit_57 ?_
        refine z_aload_n O dX12_readDigit_60 0 rfl ?_
        refine z_getf O hK.1 (hX _) (by decide) me_0 rfl i12 15 (by decide) (by decide +kernel) rfl dX12_readDigit_61 ?_
        refine z_iadd O dX12_readDigit_64 ?_
        refine z_iconst (v := 1) O dX12_readDigit_65 rfl ?_
        refine z_isub O dX12_readDigit_66 ?_
        refine z_lald O hK.1 (hX _) 4 (by decide) me_16 rfl (show vp_in (((x7.1 13) + (x7.1 15)) - 1) (mlen 16) from h.1) dX12_readDigit_67 ?_
        replace h := h.2
        refine z_l2i O dX12_readDigit_68 ?_
        refine z_bipush (v := 48) O dX12_readDigit_69 rfl ?_
        refine z_isub O dX12_readDigit_71 ?_
        exact z_retWR O hE (Nat.le_of_ble_eq_true rfl) (Nat.le_of_ble_eq_true rfl) rfl dX12_readDigit_72 h
      · replace h := h.2 c8
        refine z_iconst (v := 0) O dX12_readDigit_40 rfl ?_
        exact z_retWR O hE (Nat.le_of_ble_eq_true rfl) (Nat.le_of_ble_eq_true rfl) rfl dX12_readDigit_41 h
    · replace h := h.2 c12
      refine z_iconst (v := 1) O dX12_readDigit_25 rfl ?_
      refine z_goto O 30 dX12_readDigit_26 (by decide) ?_
      obtain ⟨x9, ex9⟩ : ∃ z, z = mI x 16 1 := ⟨_, rfl⟩
      replace h := h x9 ex9
      refine z_putf (x' := x9) (ty := .boolean) O hK.1 (hX _) hB hI hA (by decide) me_0 rfl i12 tyX12 tyX12_ok nmX12 16 (by decide) (by decide +kernel) rfl (by decide +kernel) rfl rfl (Nat.le_of_ble_eq_true rfl) (by rw [ex9]; exact me_put rfl rfl rfl) dX12_readDigit_30 ?_
      refine z_aload_n O dX12_readDigit_33 0 rfl ?_
      refine z_getf O hK.1 (hX _) (by decide) me_0 rfl i12 16 (by decide) (by decide +kernel) rfl dX12_readDigit_34 ?_
      refine z_if_eq O 42 dX12_readDigit_37 (by decide) (fun c11 => ?_) (fun c11 => ?_)
      · replace h := h.1 c11
        refine z_aload_n O dX12_readDigit_42 0 rfl ?_
        refine z_dup O dX12_readDigit_43 rfl ?_
        refine z_getf O hK.1 (hX _) (by decide) me_0 rfl i12 15 (by decide) (by decide +kernel) rfl dX12_readDigit_44 ?_
        refine z_iconst (v := 1) O dX12_readDigit_47 rfl ?_
        refine z_iadd O dX12_readDigit_48 ?_
        obtain ⟨x10, ex10⟩ : ∃ z, z = mI x9 15 ((x9.1 15) + 1) := ⟨_, rfl⟩
        replace h := h x10 ex10
        refine z_putf (x' := x10) (ty := .int) O hK.1 (hX _) hB hI hA (by decide) me_0 rfl i12 tyX12 tyX12_ok nmX12 15 (by decide) (by decide +kernel) rfl (by decide +kernel) rfl rfl (Nat.le_of_ble_eq_true rfl) (by rw [ex10]; exact me_put rfl rfl rfl) dX12_readDigit_49 ?_
        refine z_aload_n O dX12_readDigit_52 0 rfl ?_
        refine z_getf O hK.1 (hX _) (by decide) me_0 rfl i12 27 (by decide) (by decide +kernel) rfl dX12_readDigit_53 ?_
        refine z_aload_n O dX12_readDigit_56 0 rfl ?_
        refine z_getf O hK.1 (hX _) (by decide) me_0 rfl i12 13 (by decide) (by decide +kernel) rfl dX12_readDigit_57 ?_
        refine z_aload_n O dX12_readDigit_60 0 rfl ?_
        refine z_getf O hK.1 (hX _) (by decide) me_0 rfl i12 15 (by decide) (by decide +kernel) rfl dX12_readDigit_61 ?_
        refine z_iadd O dX12_readDigit_64 ?_
        refine z_iconst (v := 1) O dX12_readDigit_65 rfl ?_
        refine z_isub O dX12_readDigit_66 ?_
        refine z_lald O hK.1 (hX _) 4 (by decide) me_16 rfl (show vp_in (((x10.1 13) + (x10.1 15)) - 1) (mlen 16) from h.1) dX12_readDigit_67 ?_
        replace h := h.2
        refine z_l2i O dX12_readDigit_68 ?_
        refine z_bipush (v := 48) O dX12_readDigit_69 rfl ?_
        refine z_isub O dX12_readDigit_71 ?_
        exact z_retWR O hE (Nat.le_of_ble_eq_true rfl) (Nat.le_of_ble_eq_true rfl) rfl dX12_readDigit_72 h
      · replace h := h.2 c11
        refine z_iconst (v := 0) O dX12_readDigit_40 rfl ?_
        exact z_retWR O hE (Nat.le_of_ble_eq_true rfl) (Nat.le_of_ble_eq_true rfl) rfl dX12_readDigit_41 h
def wp_X12_readStatement (x : MS)   (Q : MS → Prop) : Prop :=
 wp_X12_here x  (fun r1 : Int32 =>
 (vp_in (x.1 17) 51 ∧
 ∀ x2 : MS, x2 = mA x 8 (upd (x.2.1 8) (Int32.toNatClampNeg (x.1 17)) (x.1 15)) →
 (vp_in (x.1 17) 51 ∧
 ∀ x3 : MS, x3 = mA x2 9 (upd (x2.2.1 9) (Int32.toNatClampNeg (x.1 17)) r1) →
 (∃ J70 : Int32 → Prop, (((¬ (x3.1 16) = 0 →
 J70 1) ∧ ((x3.1 16) = 0 →
 ((r1 = 110 →
 J70 0) ∧ (¬ r1 = 110 →
 ((r1 = 116 →
 J70 0) ∧ (¬ r1 = 116 →
 ((r1 = 99 →
 J70 0) ∧ (¬ r1 = 99 →
 ((r1 = 100 →
 J70 0) ∧ (¬ r1 = 100 →
 ((r1 = 119 →
 J70 0) ∧ (¬ r1 = 119 →
 J70 1))))))))))))) ∧
 (∀ (v10 : Int32), J70 v10 →
 (zb v10 ∧
 ∀ x11 : MS, x11 = mI x3 16 v10 →
 (∃ J90 : Int32 → Prop, ((((x11.1 16) = 0 →
 J90 1) ∧ (¬ (x11.1 16) = 0 →
 J90 0))) ∧
 (∀ (v13 : Int32), J90 v13 →
 (∀ x14 : MS, x14 = mI x11 15 ((x11.1 15) + v13) →
 (∃ J125 : Int32 → Prop, (((¬ r1 = 110 →
 ((¬ r1 = 99 →
 ((¬ r1 = 116 →
 J125 0) ∧ (r1 = 116 →
 J125 1))) ∧ (r1 = 99 →
 J125 3))) ∧ (r1 = 110 →
 J125 4))) ∧
 (∀ (v18 : Int32), J125 v18 →
 (∃ (I129 : Int32 → MS → Prop) (U129 : Int32 → MS → Nat), I129 0 x14 ∧ ∀ (y19 : Int32) (x20 : MS), I129 y19 x20 →
 ((v18 ≤ y19 →
 (∃ J178 : Int32 → Prop, (((¬ (x20.1 16) = 0 →
 J178 1) ∧ ((x20.1 16) = 0 →
 wp_X12_here x20  (fun r31 : Int32 =>
 ((r31 = 59 →
 J178 0) ∧ (¬ r31 = 59 →
 J178 1)))))) ∧
 (∀ (v24 : Int32), J178 v24 →
 (zb v24 ∧
 ∀ x25 : MS, x25 = mI x20 16 v24 →
 (((x25.1 16) = 0 →
 (∀ x26 : MS, x26 = mI x25 15 ((x25.1 15) + 1) →
 (∀ x27 : MS, x27 = mI x26 17 ((x26.1 17) + 1) →
 Q x27))) ∧ (¬ (x25.1 16) = 0 →
 (∀ x28 : MS, x28 = mI x25 15 ((x25.1 15) + 0) →
 (∀ x29 : MS, x29 = mI x28 17 ((x28.1 17) + 1) →
 Q x29)))))))) ∧ (¬ v18 ≤ y19 →
 wp_X12_readDigit x20  (fun (r35 : Int32) (x34 : MS) =>
 (vp_in ((4 * (x.1 17)) + y19) 204 ∧
 ∀ x36 : MS, x36 = mA x34 10 (upd (x34.2.1 10) (Int32.toNatClampNeg ((4 * (x.1 17)) + y19)) r35) →
 (I129 (y19 + 1) x36 ∧ U129 (y19 + 1) x36 < U129 y19 x20)))))))))))))))))
set_option maxHeartbeats 4000000 in
set_option maxRecDepth 100000 in
theorem t_X12_readStatement {l : Launch} {D : va_G} {cs : Nat → ClassId} {ad : Nat → Nat} (hI : wInj 18 ad) (x : MS)   (Q : MS → Prop) (h : wp_X12_readStatement x   Q) : zWV l yX12_readStatement wsX12_readStatement ({ frames := 2, cells := 0, slots := 0, locals := 45 } : Room) (gK D cs) (MH D cs ad) (wB 18 ad) x [.ref (ad 0)] 0 0 Q := by
  refine zWV_of (cc := cX12_readStatement) (nL := 5) (ret := none) (by decide +kernel) rfl (Nat.le_of_ble_eq_true rfl) (fun C hl O hE hK => ?_)
  subst hl
  have hX : ∀ (x : MS) (H : Heap), MH D cs ad x H → va_P D vwCl (wl 18 ad (ME cs ad x)) H := fun _ _ h => h
  have hB : ∀ {x : MS} (H : Heap), va_P D vwCl (wl 18 ad (ME cs ad x)) H → MH D cs ad x H := fun _ h => h
  have hA : ∀ q, wB 18 ad q → zA (wB 18 ad) C.s.heap.size q := fun _ h => Or.inl h
  have i12 : ∀ w ∈ wsX120, w ∈ wsX12_readStatement := by decide +kernel
  refine z_sub (lv' := [(0, .ref (ad 0))]) [0] rfl ?_
  refine z_aload_n O dX12_readStatement_0 0 rfl ?_
  refine z_getf O hK.1 (hX _) (by decide) me_0 rfl i12 17 (by decide) (by decide +kernel) rfl dX12_readStatement_1 ?_
  refine z_istore_n (lv' := [(1, .int (x.1 17)), (0, .ref (ad 0))]) O dX12_readStatement_4 (by decide) rfl ?_
  refine z_aload_n O dX12_readStatement_5 1 rfl ?_
  refine z_callR (gKs D cs) hK (fun _ h => h) (t_X12_here x   _ h) (zr_V (As := []) (rest := []) O hE.1 0 gX12_readStatement_X12_here rfl rfl rfl (by decide +kernel) ⟨(Nat.le_of_ble_eq_true rfl), (Nat.le_of_ble_eq_true rfl)⟩ ⟨(Nat.le_of_ble_eq_true rfl), (Nat.le_of_ble_eq_true rfl)⟩ (fun H hH => z_recv hK.1 (hX _ H hH) (by decide) me_0 rfl) rfl rfl (Nat.le_of_ble_eq_true rfl) dX12_readStatement_6) (fun r1 h => ?_)
  refine z_istore_n (lv' := [(2, .int r1), (1, .int (x.1 17)), (0, .ref (ad 0))]) O dX12_readStatement_9 (by decide) rfl ?_
  refine z_aload_n O dX12_readStatement_10 2 rfl ?_
  refine z_getf O hK.1 (hX _) (by decide) me_0 rfl i12 18 (by decide) (by decide +kernel) rfl dX12_readStatement_11 ?_
  refine z_iload_n O dX12_readStatement_14 1 rfl ?_
  refine z_aload_n O dX12_readStatement_15 2 rfl ?_
  refine z_getf O hK.1 (hX _) (by decide) me_0 rfl i12 15 (by decide) (by decide +kernel) rfl dX12_readStatement_16 ?_
  have hb0 := h.1
  replace h := h.2
  obtain ⟨x2, ex2⟩ : ∃ z, z = mA x 8 (upd (x.2.1 8) (Int32.toNatClampNeg (x.1 17)) (x.1 15)) := ⟨_, rfl⟩
  replace h := h x2 ex2
  refine z_iast (x' := x2) O hK.1 (hX _) hB hI hA 0 (mk_lt mk_8) (me_A mk_8) rfl (show vp_in (x.1 17) (mlen 8) from hb0) (by rw [ex2]; exact me_setA mk_8 _) dX12_readStatement_19 ?_
  refine z_aload_n O dX12_readStatement_20 2 rfl ?_
  refine z_getf O hK.1 (hX _) (by decide) me_0 rfl i12 19 (by decide) (by decide +kernel) rfl dX12_readStatement_21 ?_
  refine z_iload_n O dX12_readStatement_24 1 rfl ?_
  refine z_iload_n O dX12_readStatement_25 0 rfl ?_
  have hb0 := h.1
  replace h := h.2
  obtain ⟨x3, ex3⟩ : ∃ z, z = mA x2 9 (upd (x2.2.1 9) (Int32.toNatClampNeg (x.1 17)) r1) := ⟨_, rfl⟩
  replace h := h x3 ex3
  refine z_iast (x' := x3) O hK.1 (hX _) hB hI hA 0 (mk_lt mk_9) (me_A mk_9) rfl (show vp_in (x.1 17) (mlen 9) from hb0) (by rw [ex3]; exact me_setA mk_9 _) dX12_readStatement_26 ?_
  refine z_aload_n O dX12_readStatement_27 2 rfl ?_
  refine z_aload_n O dX12_readStatement_28 2 rfl ?_
  refine z_getf O hK.1 (hX _) (by decide) me_0 rfl i12 16 (by decide) (by decide +kernel) rfl dX12_readStatement_29 ?_
  obtain ⟨J70, h, hJ⟩ := h
  have kJ70 : ∀ (v10 : Int32), J70 v10 → Z C (zA (wB 18 ad) C.s.heap.size) (MH D cs ad) 5 x3 [(0, .ref (ad 0)), (1, .int (x.1 17)), (2, .int r1)] 0 0 70 [.int v10, .ref (ad 0)] := by
    intro v10 h
    have h := hJ v10 h
    have hz := h.1
    replace h := h.2
    obtain ⟨x11, ex11⟩ : ∃ z, z = mI x3 16 v10 := ⟨_, rfl⟩
    replace h := h x11 ex11
    refine z_putf (x' := x11) (ty := .boolean) O hK.1 (hX _) hB hI hA (by decide) me_0 rfl i12 tyX12 tyX12_ok nmX12 16 (by decide) (by decide +kernel) rfl (by decide +kernel) (zb_n hz) (zb_f hz) (Nat.le_of_ble_eq_true rfl) (by rw [ex11]; exact me_put rfl rfl rfl) dX12_readStatement_70 ?_
    refine z_aload_n O dX12_readStatement_73 0 rfl ?_
    refine z_dup O dX12_readStatement_74 rfl ?_
    refine z_getf O hK.1 (hX _) (by decide) me_0 rfl i12 15 (by decide) (by decide +kernel) rfl dX12_readStatement_75 ?_
    refine z_aload_n O dX12_readStatement_78 0 rfl ?_
    refine z_getf O hK.1 (hX _) (by decide) me_0 rfl i12 16 (by decide) (by decide +kernel) rfl dX12_readStatement_79 ?_
    obtain ⟨J90, h, hJ⟩ := h
    have kJ90 : ∀ (v13 : Int32), J90 v13 → Z C (zA (wB 18 ad) C.s.heap.size) (MH D cs ad) 5 x11 [(0, .ref (ad 0)), (1, .int (x.1 17)), (2, .int r1)] 0 0 90 [.int v13, .int (x11.1 15), .ref (ad 0)] := by
      intro v13 h
      have h := hJ v13 h
      refine z_iadd O dX12_readStatement_90 ?_
      obtain ⟨x14, ex14⟩ : ∃ z, z = mI x11 15 ((x11.1 15) + v13) := ⟨_, rfl⟩
      replace h := h x14 ex14
      refine z_putf (x' := x14) (ty := .int) O hK.1 (hX _) hB hI hA (by decide) me_0 rfl i12 tyX12 tyX12_ok nmX12 15 (by decide) (by decide +kernel) rfl (by decide +kernel) rfl rfl (Nat.le_of_ble_eq_true rfl) (by rw [ex14]; exact me_put rfl rfl rfl) dX12_readStatement_91 ?_
      refine z_iload_n O dX12_readStatement_94 2 rfl ?_
      refine z_bipush (v := 110) O dX12_readStatement_95 rfl ?_
      obtain ⟨J125, h, hJ⟩ := h
      have kJ125 : ∀ (v18 : Int32), J125 v18 → Z C (zA (wB 18 ad) C.s.heap.size) (MH D cs ad) 5 x14 [(0, .ref (ad 0)), (1, .int (x.1 17))] 0 0 125 [.int v18] := by
        intro v18 h
        have h := hJ v18 h
        refine z_istore_n (lv' := [(3, .int v18), (0, .ref (ad 0)), (1, .int (x.1 17))]) O dX12_readStatement_125 (by decide) rfl ?_
        refine z_iconst (v := 0) O dX12_readStatement_126 rfl ?_
        refine z_istore (lv' := [(4, .int 0), (3, .int v18), (0, .ref (ad 0)), (1, .int (x.1 17))]) O dX12_readStatement_127 (by decide) rfl ?_
        obtain ⟨I129, U129, h0, hs⟩ := h
        have kI129 : ∀ (n : Nat) (y19 : Int32) (x20 : MS), U129 y19 x20 < n → I129 y19 x20 → Z C (zA (wB 18 ad) C.s.heap.size) (MH D cs ad) 5 x20 [(0, .ref (ad 0)), (1, .int (x.1 17)), (3, .int v18), (4, .int y19)] 0 0 129 [] := by
          intro n
          induction n with
          | zero => intro y19 x20 uI129; exact absurd uI129 (Nat.not_lt_zero _)
          | succ n iI129 =>
            intro y19 x20 uI129 h
            have h := hs y19 x20 h
            refine z_iload O dX12_readStatement_129 3 rfl ?_
            refine z_iload_n O dX12_readStatement_131 2 rfl ?_
            refine z_icmp_ge O 156 dX12_readStatement_132 (by decide) (fun c37 => ?_) (fun c37 => ?_)
            · replace h := h.1 c37
              refine z_aload_n O dX12_readStatement_156 0 rfl ?_
              refine z_aload_n O dX12_readStatement_157 0 rfl ?_
              refine z_getf O hK.1 (hX _) (by decide) me_0 rfl i12 16 (by decide) (by decide +kernel) rfl dX12_readStatement_158 ?_
              obtain ⟨J178, h, hJ⟩ := h
              have kJ178 : ∀ (v24 : Int32), J178 v24 → Z C (zA (wB 18 ad) C.s.heap.size) (MH D cs ad) 5 x20 [(0, .ref (ad 0))] 0 0 178 [.int v24, .ref (ad 0)] := by
                intro v24 h
                have h := hJ v24 h
                have hz := h.1
                replace h := h.2
                obtain ⟨x25, ex25⟩ : ∃ z, z = mI x20 16 v24 := ⟨_, rfl⟩
                replace h := h x25 ex25
                refine z_putf (x' := x25) (ty := .boolean) O hK.1 (hX _) hB hI hA (by decide) me_0 rfl i12 tyX12 tyX12_ok nmX12 16 (by decide) (by decide +kernel) rfl (by decide +kernel) (zb_n hz) (zb_f hz) (Nat.le_of_ble_eq_true rfl) (by rw [ex25]; exact me_put rfl rfl rfl) dX12_readStatement_178 ?_
                refine z_aload_n O dX12_readStatement_181 0 rfl ?_
                refine z_dup O dX12_readStatement_182 rfl ?_
                refine z_getf O hK.1 (hX _) (by decide) me_0 rfl i12 15 (by decide) (by decide +kernel) rfl dX12_readStatement_183 ?_
                refine z_aload_n O dX12_readStatement_186 0 rfl ?_
                refine z_getf O hK.1 (hX _) (by decide) me_0 rfl i12 16 (by decide) (by decide +kernel) rfl dX12_readStatement_187 ?_
                refine z_if_eq O 197 dX12_readStatement_190 (by decide) (fun c30 => ?_) (fun c30 => ?_)
                · replace h := h.1 c30
                  refine z_iconst (v := 1) O dX12_readStatement_197 rfl ?_
                  refine z_iadd O dX12_readStatement_198 ?_
                  obtain ⟨x26, ex26⟩ : ∃ z, z = mI x25 15 ((x25.1 15) + 1) := ⟨_, rfl⟩
                  replace h := h x26 ex26
                  refine z_putf (x' := x26) (ty := .int) O hK.1 (hX _) hB hI hA (by decide) me_0 rfl i12 tyX12 tyX12_ok nmX12 15 (by decide) (by decide +kernel) rfl (by decide +kernel) rfl rfl (Nat.le_of_ble_eq_true rfl) (by rw [ex26]; exact me_put rfl rfl rfl) dX12_readStatement_199 ?_
                  refine z_aload_n O dX12_readStatement_202 0 rfl ?_
                  refine z_dup O dX12_readStatement_203 rfl ?_
                  refine z_getf O hK.1 (hX _) (by decide) me_0 rfl i12 17 (by decide) (by decide +kernel) rfl dX12_readStatement_204 ?_
                  refine z_iconst (v := 1) O dX12_readStatement_207 rfl ?_
                  refine z_iadd O dX12_readStatement_208 ?_
                  obtain ⟨x27, ex27⟩ : ∃ z, z = mI x26 17 ((x26.1 17) + 1) := ⟨_, rfl⟩
                  replace h := h x27 ex27
                  refine z_putf (x' := x27) (ty := .int) O hK.1 (hX _) hB hI hA (by decide) me_0 rfl i12 tyX12 tyX12_ok nmX12 17 (by decide) (by decide +kernel) rfl (by decide +kernel) rfl rfl (Nat.le_of_ble_eq_true rfl) (by rw [ex27]; exact me_put rfl rfl rfl) dX12_readStatement_209 ?_
                  exact z_retWV O hE (Nat.le_of_ble_eq_true rfl) (Nat.le_of_ble_eq_true rfl) dX12_readStatement_212 h
                · replace h := h.2 c30
                  refine z_iconst (v := 0) O dX12_readStatement_193 rfl ?_
                  refine z_goto O 198 dX12_readStatement_194 (by decide) ?_
                  refine z_iadd O dX12_readStatement_198 ?_
                  obtain ⟨x28, ex28⟩ : ∃ z, z = mI x25 15 ((x25.1 15) + 0) := ⟨_, rfl⟩
                  replace h := h x28 ex28
                  refine z_putf (x' := x28) (ty := .int) O hK.1 (hX _) hB hI hA (by decide) me_0 rfl i12 tyX12 tyX12_ok nmX12 15 (by decide) (by decide +kernel) rfl (by decide +kernel) rfl rfl (Nat.le_of_ble_eq_true rfl) (by rw [ex28]; exact me_put rfl rfl rfl) dX12_readStatement_199 ?_
                  refine z_aload_n O dX12_readStatement_202 0 rfl ?_
                  refine z_dup O dX12_readStatement_203 rfl ?_
                  refine z_getf O hK.1 (hX _) (by decide) me_0 rfl i12 17 (by decide) (by decide +kernel) rfl dX12_readStatement_204 ?_
                  refine z_iconst (v := 1) O dX12_readStatement_207 rfl ?_
                  refine z_iadd O dX12_readStatement_208 ?_
                  obtain ⟨x29, ex29⟩ : ∃ z, z = mI x28 17 ((x28.1 17) + 1) := ⟨_, rfl⟩
                  replace h := h x29 ex29
                  refine z_putf (x' := x29) (ty := .int) O hK.1 (hX _) hB hI hA (by decide) me_0 rfl i12 tyX12 tyX12_ok nmX12 17 (by decide) (by decide +kernel) rfl (by decide +kernel) rfl rfl (Nat.le_of_ble_eq_true rfl) (by rw [ex29]; exact me_put rfl rfl rfl) dX12_readStatement_209 ?_
                  exact z_retWV O hE (Nat.le_of_ble_eq_true rfl) (Nat.le_of_ble_eq_true rfl) dX12_readStatement_212 h
              clear hJ
              refine z_if_ne O 173 dX12_readStatement_161 (by decide) (fun c33 => ?_) (fun c33 => ?_)
              · replace h := h.1 c33
                refine z_iconst (v := 1) O dX12_readStatement_173 rfl ?_
                refine z_goto O 178 dX12_readStatement_174 (by decide) ?_
                exact z_sub [0] rfl (kJ178 1 h)
              · replace h := h.2 c33
                refine z_aload_n O dX12_readStatement_164 0 rfl ?_
                refine z_callR (gKs D cs) hK (fun _ h => h) (t_X12_here x20   _ h) (zr_V (As := []) (rest := [.ref (ad 0)]) O hE.1 0 gX12_readStatement_X12_here rfl rfl rfl (by decide +kernel) ⟨(Nat.le_of_ble_eq_true rfl), (Nat.le_of_ble_eq_true rfl)⟩ ⟨(Nat.le_of_ble_eq_true rfl), (Nat.le_of_ble_eq_true rfl)⟩ (fun H hH => z_recv hK.1 (hX _ H hH) (by decide) me_0 rfl) rfl rfl (Nat.le_of_ble_eq_true rfl) dX12_readStatement_165) (fun r31 h => ?_)
                refine z_bipush (v := 59) O dX12_readStatement_168 rfl ?_
                refine z_icmp_eq O 177 dX12_readStatement_170 (by decide) (fun c32 => ?_) (fun c32 => ?_)
                · replace h := h.1 c32
                  refine z_iconst (v := 0) O dX12_readStatement_177 rfl ?_
                  exact z_sub [0] rfl (kJ178 0 h)
                · replace h := h.2 c32
                  refine z_iconst (v := 1) O dX12_readStatement_173 rfl ?_
                  refine z_goto O 178 dX12_readStatement_174 (by decide) ?_
                  exact z_sub [0] rfl (kJ178 1 h)
            · replace h := h.2 c37
              refine z_aload_n O dX12_readStatement_135 0 rfl ?_
              refine z_getf O hK.1 (hX _) (by decide) me_0 rfl i12 20 (by decide) (by decide +kernel) rfl dX12_readStatement_136 ?_
              refine z_iconst (v := 4) O dX12_readStatement_139 rfl ?_
              refine z_iload_n O dX12_readStatement_140 1 rfl ?_
              refine z_imul O dX12_readStatement_141 ?_
              refine z_iload O dX12_readStatement_142 3 rfl ?_
              refine z_iadd O dX12_readStatement_144 ?_
              refine z_aload_n O dX12_readStatement_145 0 rfl ?_
              refine z_cWR (gKs D cs) hK (fun _ h => h) (fun _ h => Or.inl h) (fun _ h => Or.inr h) (t_X12_readDigit hI x20   _ h) (zr_V (As := []) (rest := [.int ((4 * (x.1 17)) + y19), .ref (ad 10)]) O hE.1 0 gX12_readStatement_X12_readDigit rfl rfl rfl (by decide +kernel) ⟨(Nat.le_of_ble_eq_true rfl), (Nat.le_of_ble_eq_true rfl)⟩ ⟨(Nat.le_of_ble_eq_true rfl), (Nat.le_of_ble_eq_true rfl)⟩ (fun H hH => z_recv hK.1 (hX _ H hH) (by decide) me_0 rfl) rfl rfl (Nat.le_of_ble_eq_true rfl) dX12_readStatement_146) (fun r35 x34 h => ?_)
              have hb0 := h.1
              replace h := h.2
              obtain ⟨x36, ex36⟩ : ∃ z, z = mA x34 10 (upd (x34.2.1 10) (Int32.toNatClampNeg ((4 * (x.1 17)) + y19)) r35) := ⟨_, rfl⟩
              replace h := h x36 ex36
              refine z_iast (x' := x36) O hK.1 (hX _) hB hI hA 0 (mk_lt mk_10) (me_A mk_10) rfl (show vp_in ((4 * (x.1 17)) + y19) (mlen 10) from hb0) (by rw [ex36]; exact me_setA mk_10 _) dX12_readStatement_149 ?_
              refine z_iinc (lv' := [(4, .int (y19 + 1)), (0, .ref (ad 0)), (1, .int (x.1 17)), (3, .int v18)]) O dX12_readStatement_150 3 rfl rfl (by decide) rfl ?_
              refine z_goto O 129 dX12_readStatement_153 (by decide) ?_
              exact z_sub [1, 2, 3, 0] rfl (iI129 (y19 + 1) x36 (Nat.lt_of_lt_of_le h.2 (Nat.le_of_lt_succ uI129)) h.1)
        exact z_sub [2, 3, 1, 0] rfl (kI129 _ 0 x14 (Nat.lt_succ_self _) h0)
      clear hJ
      refine z_icmp_ne O 104 dX12_readStatement_97 (by decide) (fun c40 => ?_) (fun c40 => ?_)
      · replace h := h.1 c40
        refine z_iload_n O dX12_readStatement_104 2 rfl ?_
        refine z_bipush (v := 99) O dX12_readStatement_105 rfl ?_
        refine z_icmp_ne O 114 dX12_readStatement_107 (by decide) (fun c39 => ?_) (fun c39 => ?_)
        · replace h := h.1 c39
          refine z_iload_n O dX12_readStatement_114 2 rfl ?_
          refine z_bipush (v := 116) O dX12_readStatement_115 rfl ?_
          refine z_icmp_ne O 124 dX12_readStatement_117 (by decide) (fun c38 => ?_) (fun c38 => ?_)
          · replace h := h.1 c38
            refine z_iconst (v := 0) O dX12_readStatement_124 rfl ?_
            exact z_sub [0, 1] rfl (kJ125 0 h)
          · replace h := h.2 c38
            refine z_iconst (v := 1) O dX12_readStatement_120 rfl ?_
            refine z_goto O 125 dX12_readStatement_121 (by decide) ?_
            exact z_sub [0, 1] rfl (kJ125 1 h)
        · replace h := h.2 c39
          refine z_iconst (v := 3) O dX12_readStatement_110 rfl ?_
          refine z_goto O 125 dX12_readStatement_111 (by decide) ?_
          exact z_sub [0, 1] rfl (kJ125 3 h)
      · replace h := h.2 c40
        refine z_iconst (v := 4) O dX12_readStatement_100 rfl ?_
        refine z_goto O 125 dX12_readStatement_101 (by decide) ?_
        exact z_sub [0, 1] rfl (kJ125 4 h)
    clear hJ
    refine z_if_eq O 89 dX12_readStatement_82 (by decide) (fun c41 => ?_) (fun c41 => ?_)
    · replace h := h.1 c41
      refine z_iconst (v := 1) O dX12_readStatement_89 rfl ?_
      exact z_sub [0, 1, 2] rfl (kJ90 1 h)
    · replace h := h.2 c41
      refine z_iconst (v := 0) O dX12_readStatement_85 rfl ?_
      refine z_goto O 90 dX12_readStatement_86 (by decide) ?_
      exact z_sub [0, 1, 2] rfl (kJ90 0 h)
  clear hJ
  refine z_if_ne O 65 dX12_readStatement_32 (by decide) (fun c47 => ?_) (fun c47 => ?_)
  · replace h := h.1 c47
    refine z_iconst (v := 1) O dX12_readStatement_65 rfl ?_
    refine z_goto O 70 dX12_readStatement_66 (by decide) ?_
    exact z_sub [2, 1, 0] rfl (kJ70 1 h)
  · replace h := h.2 c47
    refine z_iload_n O dX12_readStatement_35 0 rfl ?_
    refine z_bipush (v := 110) O dX12_readStatement_36 rfl ?_
    refine z_icmp_eq O 69 dX12_readStatement_38 (by decide) (fun c46 => ?_) (fun c46 => ?_)
    · replace h := h.1 c46
      refine z_iconst (v := 0) O dX12_readStatement_69 rfl ?_
      exact z_sub [2, 1, 0] rfl (kJ70 0 h)
    · replace h := h.2 c46
      refine z_iload_n O dX12_readStatement_41 0 rfl ?_
      refine z_bipush (v := 116) O dX12_readStatement_42 rfl ?_
      refine z_icmp_eq O 69 dX12_readStatement_44 (by decide) (fun c45 => ?_) (fun c45 => ?_)
      · replace h := h.1 c45
        refine z_iconst (v := 0) O dX12_readStatement_69 rfl ?_
        exact z_sub [2, 1, 0] rfl (kJ70 0 h)
      · replace h := h.2 c45
        refine z_iload_n O dX12_readStatement_47 0 rfl ?_
        refine z_bipush (v := 99) O dX12_readStatement_48 rfl ?_
        refine z_icmp_eq O 69 dX12_readStatement_50 (by decide) (fun c44 => ?_) (fun c44 => ?_)
        · replace h := h.1 c44
          refine z_iconst (v := 0) O dX12_readStatement_69 rfl ?_
          exact z_sub [2, 1, 0] rfl (kJ70 0 h)
        · replace h := h.2 c44
          refine z_iload_n O dX12_readStatement_53 0 rfl ?_
          refine z_bipush (v := 100) O dX12_readStatement_54 rfl ?_
          refine z_icmp_eq O 69 dX12_readStatement_56 (by decide) (fun c43 => ?_) (fun c43 => ?_)
          · replace h := h.1 c43
            refine z_iconst (v := 0) O dX12_readStatement_69 rfl ?_
            exact z_sub [2, 1, 0] rfl (kJ70 0 h)
          · replace h := h.2 c43
            refine z_iload_n O dX12_readStatement_59 0 rfl ?_
            refine z_bipush (v := 119) O dX12_readStatement_60 rfl ?_
            refine z_icmp_eq O 69 dX12_readStatement_62 (by decide) (fun c42 => ?_) (fun c42 => ?_)
            · replace h := h.1 c42
              refine z_iconst (v := 0) O dX12_readStatement_69 rfl ?_
              exact z_sub [2, 1, 0] rfl (kJ70 0 h)
            · replace h := h.2 c42
              refine z_iconst (v := 1) O dX12_readStatement_65 rfl ?_
              refine z_goto O 70 dX12_readStatement_66 (by decide) ?_
              exact z_sub [2, 1, 0] rfl (kJ70 1 h)
def wp_X12_comes (x : MS)  (p1 : Int32) (Q : Int32 → MS → Prop) : Prop :=
 (vp_in (4 * p1) 204 ∧
 (vp_in ((4 * p1) + 1) 204 ∧
 (vp_in ((4 * p1) + 2) 204 ∧
 (vp_in p1 51 ∧
 (((x.2.1 9 (Int32.toNatClampNeg p1)) = 99 →
 ((6 ≤ (x.2.1 10 (Int32.toNatClampNeg (4 * p1))) →
 ((6 ≤ (x.2.1 10 (Int32.toNatClampNeg (4 * p1))) →
 Q 0 x) ∧ (¬ 6 ≤ (x.2.1 10 (Int32.toNatClampNeg (4 * p1))) →
 ((((10 * (x.2.1 10 (Int32.toNatClampNeg ((4 * p1) + 1)))) + (x.2.1 10 (Int32.toNatClampNeg ((4 * p1) + 2)))) ≤ 0 →
 Q 0 x) ∧ (¬ ((10 * (x.2.1 10 (Int32.toNatClampNeg ((4 * p1) + 1)))) + (x.2.1 10 (Int32.toNatClampNeg ((4 * p1) + 2)))) ≤ 0 →
 Q 1 x))))) ∧ (¬ 6 ≤ (x.2.1 10 (Int32.toNatClampNeg (4 * p1))) →
 ((((10 * (x.2.1 10 (Int32.toNatClampNeg ((4 * p1) + 1)))) + (x.2.1 10 (Int32.toNatClampNeg ((4 * p1) + 2)))) ≤ 0 →
 ((6 ≤ (x.2.1 10 (Int32.toNatClampNeg (4 * p1))) →
 Q 0 x) ∧ (¬ 6 ≤ (x.2.1 10 (Int32.toNatClampNeg (4 * p1))) →
 ((((10 * (x.2.1 10 (Int32.toNatClampNeg ((4 * p1) + 1)))) + (x.2.1 10 (Int32.toNatClampNeg ((4 * p1) + 2)))) ≤ 0 →
 Q 0 x) ∧ (¬ ((10 * (x.2.1 10 (Int32.toNatClampNeg ((4 * p1) + 1)))) + (x.2.1 10 (Int32.toNatClampNeg ((4 * p1) + 2)))) ≤ 0 →
 Q 1 x))))) ∧ (¬ ((10 * (x.2.1 10 (Int32.toNatClampNeg ((4 * p1) + 1)))) + (x.2.1 10 (Int32.toNatClampNeg ((4 * p1) + 2)))) ≤ 0 →
 wp_X12_cuts x (x.2.1 10 (Int32.toNatClampNeg (4 * p1))) ((10 * (x.2.1 10 (Int32.toNatClampNeg ((4 * p1) + 1)))) + (x.2.1 10 (Int32.toNatClampNeg ((4 * p1) + 2)))) (fun (r7 : Int32) (x6 : MS) =>
 ((6 ≤ (x.2.1 10 (Int32.toNatClampNeg (4 * p1))) →
 Q 0 x6) ∧ (¬ 6 ≤ (x.2.1 10 (Int32.toNatClampNeg (4 * p1))) →
 ((((10 * (x.2.1 10 (Int32.toNatClampNeg ((4 * p1) + 1)))) + (x.2.1 10 (Int32.toNatClampNeg ((4 * p1) + 2)))) ≤ 0 →
 Q 0 x6) ∧ (¬ ((10 * (x.2.1 10 (Int32.toNatClampNeg ((4 * p1) + 1)))) + (x.2.1 10 (Int32.toNatClampNeg ((4 * p1) + 2)))) ≤ 0 →
 Q 1 x6)))))))))) ∧ (¬ (x.2.1 9 (Int32.toNatClampNeg p1)) = 99 →
 (((x.2.1 9 (Int32.toNatClampNeg p1)) = 100 →
 wp_X12_drifts x  (fun (x13 : MS) =>
 Q 1 x13)) ∧ (¬ (x.2.1 9 (Int32.toNatClampNeg p1)) = 100 →
 (((x.2.1 9 (Int32.toNatClampNeg p1)) = 110 →
 ((6 ≤ (x.2.1 10 (Int32.toNatClampNeg (4 * p1))) →
 Q 0 x) ∧ (¬ 6 ≤ (x.2.1 10 (Int32.toNatClampNeg (4 * p1))) →
 ((8 ≤ (x.2.1 10 (Int32.toNatClampNeg ((4 * p1) + 1))) →
 Q 0 x) ∧ (¬ 8 ≤ (x.2.1 10 (Int32.toNatClampNeg ((4 * p1) + 1))) →
 (vp_in ((4 * p1) + 3) 204 ∧
 (((x.2.1 10 (Int32.toNatClampNeg ((4 * p1) + 3))) ≤ 0 →
 Q 0 x) ∧ (¬ (x.2.1 10 (Int32.toNatClampNeg ((4 * p1) + 3))) ≤ 0 →
 (vp_in ((4 * p1) + 3) 204 ∧
 wp_X12_freezes x (x.2.1 10 (Int32.toNatClampNeg (4 * p1))) (x.2.1 10 (Int32.toNatClampNeg ((4 * p1) + 1))) (x.2.1 10 (Int32.toNatClampNeg ((4 * p1) + 2))) (x.2.1 10 (Int32.toNatClampNeg ((4 * p1) + 3))) (fun (r16 : Int32) (x15 : MS) =>
 ((r16 = 0 →
 Q 0 x15) ∧ (¬ r16 = 0 →
 Q 1 x15)))))))))))) ∧ (¬ (x.2.1 9 (Int32.toNatClampNeg p1)) = 110 →
 (((x.2.1 9 (Int32.toNatClampNeg p1)) = 116 →
 (∃ (I143 : Int32 → MS → Prop) (U143 : Int32 → MS → Nat), I143 0 x ∧ ∀ (y22 : Int32) (x23 : MS), I143 y22 x23 →
 (((x.2.1 10 (Int32.toNatClampNeg (4 * p1))) ≤ y22 →
 (((x.2.1 10 (Int32.toNatClampNeg (4 * p1))) ≤ 0 →
 Q 0 x23) ∧ (¬ (x.2.1 10 (Int32.toNatClampNeg (4 * p1))) ≤ 0 →
 Q 1 x23))) ∧ (¬ (x.2.1 10 (Int32.toNatClampNeg (4 * p1))) ≤ y22 →
 wp_X12_warmDay x23  (fun (r26 : Int32) (x25 : MS) =>
 (I143 (y22 + 1) x25 ∧ U143 (y22 + 1) x25 < U143 y22 x23)))))) ∧ (¬ (x.2.1 9 (Int32.toNatClampNeg p1)) = 116 →
 (∀ x28 : MS, x28 = mI x 0 ((x.1 0) + 1) →
 ((100 ≤ (x28.1 0) →
 Q 0 x28) ∧ (¬ 100 ≤ (x28.1 0) →
 Q 1 x28)))))))))))))))
set_option maxHeartbeats 4000000 in
set_option maxRecDepth 100000 in
theorem t_X12_comes {l : Launch} {D : va_G} {cs : Nat → ClassId} {ad : Nat → Nat} (hI : wInj 18 ad) (x : MS)  (p1 : Int32) (Q : Int32 → MS → Prop) (h : wp_X12_comes x  p1 Q) : zWR l yX12_comes wsX12_comes ({ frames := 2, cells := 0, slots := 0, locals := 47 } : Room) (gK D cs) (MH D cs ad) (wB 18 ad) x [.ref (ad 0), .int p1] 0 0 Q := by
  refine zWR_of (cc := cX12_comes) (nL := 7) (ret := (some .boolean)) (by decide +kernel) rfl (Nat.le_of_ble_eq_true rfl) (fun C hl O hE hK => ?_)
  subst hl
  have hX : ∀ (x : MS) (H : Heap), MH D cs ad x H → va_P D vwCl (wl 18 ad (ME cs ad x)) H := fun _ _ h => h
  have hB : ∀ {x : MS} (H : Heap), va_P D vwCl (wl 18 ad (ME cs ad x)) H → MH D cs ad x H := fun _ h => h
  have hA : ∀ q, wB 18 ad q → zA (wB 18 ad) C.s.heap.size q := fun _ h => Or.inl h
  have i12 : ∀ w ∈ wsX120, w ∈ wsX12_comes := by decide +kernel
  refine z_sub (lv' := [(0, .ref (ad 0)), (1, .int p1)]) [0, 1] rfl ?_
  refine z_aload_n O dX12_comes_0 0 rfl ?_
  refine z_getf O hK.1 (hX _) (by decide) me_0 rfl i12 20 (by decide) (by decide +kernel) rfl dX12_comes_1 ?_
  refine z_iconst (v := 4) O dX12_comes_4 rfl ?_
  refine z_iload_n O dX12_comes_5 1 rfl ?_
  refine z_imul O dX12_comes_6 ?_
  refine z_iald O hK.1 (hX _) 0 (mk_lt mk_10) (me_A mk_10) rfl (show vp_in (4 * p1) (mlen 10) from h.1) dX12_comes_7 ?_
  replace h := h.2
  refine z_istore_n (lv' := [(2, .int (x.2.1 10 (Int32.toNatClampNeg (4 * p1)))), (0, .ref (ad 0)), (1, .int p1)]) O dX12_comes_8 (by decide) rfl ?_
  refine z_aload_n O dX12_comes_9 1 rfl ?_
  refine z_getf O hK.1 (hX _) (by decide) me_0 rfl i12 20 (by decide) (by decide +kernel) rfl dX12_comes_10 ?_
  refine z_iconst (v := 4) O dX12_comes_13 rfl ?_
  refine z_iload_n O dX12_comes_14 2 rfl ?_
  refine z_imul O dX12_comes_15 ?_
  refine z_iconst (v := 1) O dX12_comes_16 rfl ?_
  refine z_iadd O dX12_comes_17 ?_
  refine z_iald O hK.1 (hX _) 0 (mk_lt mk_10) (me_A mk_10) rfl (show vp_in ((4 * p1) + 1) (mlen 10) from h.1) dX12_comes_18 ?_
  replace h := h.2
  refine z_istore_n (lv' := [(3, .int (x.2.1 10 (Int32.toNatClampNeg ((4 * p1) + 1)))), (2, .int (x.2.1 10 (Int32.toNatClampNeg (4 * p1)))), (0, .ref (ad 0)), (1, .int p1)]) O dX12_comes_19 (by decide) rfl ?_
  refine z_aload_n O dX12_comes_20 2 rfl ?_
  refine z_getf O hK.1 (hX _) (by decide) me_0 rfl i12 20 (by decide) (by decide +kernel) rfl dX12_comes_21 ?_
  refine z_iconst (v := 4) O dX12_comes_24 rfl ?_
  refine z_iload_n O dX12_comes_25 3 rfl ?_
  refine z_imul O dX12_comes_26 ?_
  refine z_iconst (v := 2) O dX12_comes_27 rfl ?_
  refine z_iadd O dX12_comes_28 ?_
  refine z_iald O hK.1 (hX _) 0 (mk_lt mk_10) (me_A mk_10) rfl (show vp_in ((4 * p1) + 2) (mlen 10) from h.1) dX12_comes_29 ?_
  replace h := h.2
  refine z_istore (lv' := [(4, .int (x.2.1 10 (Int32.toNatClampNeg ((4 * p1) + 2)))), (3, .int (x.2.1 10 (Int32.toNatClampNeg ((4 * p1) + 1)))), (2, .int (x.2.1 10 (Int32.toNatClampNeg (4 * p1)))), (0, .ref (ad 0)), (1, .int p1)]) O dX12_comes_30 (by decide) rfl ?_
  refine z_bipush (v := 10) O dX12_comes_32 rfl ?_
  refine z_iload_n O dX12_comes_34 1 rfl ?_
  refine z_imul O dX12_comes_35 ?_
  refine z_iload O dX12_comes_36 0 rfl ?_
  refine z_iadd O dX12_comes_38 ?_
  refine z_istore (lv' := [(5, .int ((10 * (x.2.1 10 (Int32.toNatClampNeg ((4 * p1) + 1)))) + (x.2.1 10 (Int32.toNatClampNeg ((4 * p1) + 2))))), (4, .int (x.2.1 10 (Int32.toNatClampNeg ((4 * p1) + 2)))), (3, .int (x.2.1 10 (Int32.toNatClampNeg ((4 * p1) + 1)))), (2, .int (x.2.1 10 (Int32.toNatClampNeg (4 * p1)))), (0, .ref (ad 0)), (1, .int p1)]) O dX12_comes_39 (by decide) rfl ?_
  refine z_aload_n O dX12_comes_41 4 rfl ?_
  refine z_getf O hK.1 (hX _) (by decide) me_0 rfl i12 19 (by decide) (by decide +kernel) rfl dX12_comes_42 ?_
  refine z_iload_n O dX12_comes_45 5 rfl ?_
  refine z_iald O hK.1 (hX _) 0 (mk_lt mk_9) (me_A mk_9) rfl (show vp_in p1 (mlen 9) from h.1) dX12_comes_46 ?_
  replace h := h.2
  by_cases c1 : (x.2.1 9 (Int32.toNatClampNeg p1)) = 99
  · replace h := h.1 c1
    refine z_lookup (off := 123) O 170 dX12_comes_47 (by decide) (by rw [c1]; try decide) (by decide) ?_
    refine z_iload_n O dX12_comes_170 3 rfl ?_
    refine z_bipush (v := 6) O dX12_comes_171 rfl ?_
    refine z_icmp_ge O 189 dX12_comes_173 (by decide) (fun c11 => ?_) (fun c11 => ?_)
    · replace h := h.1 c11
      refine z_iload_n O dX12_comes_189 3 rfl ?_
      refine z_bipush (v := 6) O dX12_comes_190 rfl ?_
      refine z_icmp_ge O 204 dX12_comes_192 (by decide) (fun c3 => ?_) (fun c3 => ?_)
      · replace h := h.1 c3
        refine z_iconst (v := 0) O dX12_comes_204 rfl ?_
        exact z_retWR O hE (Nat.le_of_ble_eq_true rfl) (Nat.le_of_ble_eq_true rfl) rfl dX12_comes_205 h
      · replace h := h.2 c3
        refine z_iload O dX12_comes_195 0 rfl ?_
        refine z_if_le O 204 dX12_comes_197 (by decide) (fun c2 => ?_) (fun c2 => ?_)
        · replace h := h.1 c2
          refine z_iconst (v := 0) O dX12_comes_204 rfl ?_
          exact z_retWR O hE (Nat.le_of_ble_eq_true rfl) (Nat.le_of_ble_eq_true rfl) rfl dX12_comes_205 h
        · replace h := h.2 c2
          refine z_iconst (v := 1) O dX12_comes_200 rfl ?_
          refine z_goto O 205 dX12_comes_201 (by decide) ?_
          exact z_retWR O hE (Nat.le_of_ble_eq_true rfl) (Nat.le_of_ble_eq_true rfl) rfl dX12_comes_205 h
    · replace h := h.2 c11
      refine z_iload O dX12_comes_176 0 rfl ?_
      refine z_if_le O 189 dX12_comes_178 (by decide) (fun c10 => ?_) (fun c10 => ?_)
      · replace h := h.1 c10
        refine z_iload_n O dX12_comes_189 3 rfl ?_
        refine z_bipush (v := 6) O dX12_comes_190 rfl ?_
        refine z_icmp_ge O 204 dX12_comes_192 (by decide) (fun c5 => ?_) (fun c5 => ?_)
        · replace h := h.1 c5
          refine z_iconst (v := 0) O dX12_comes_204 rfl ?_
          exact z_retWR O hE (Nat.le_of_ble_eq_true rfl) (Nat.le_of_ble_eq_true rfl) rfl dX12_comes_205 h
        · replace h := h.2 c5
          refine z_iload O dX12_comes_195 0 rfl ?_
          refine z_if_le O 204 dX12_comes_197 (by decide) (fun c4 => ?_) (fun c4 => ?_)
          · replace h := h.1 c4
            refine z_iconst (v := 0) O dX12_comes_204 rfl ?_
            exact z_retWR O hE (Nat.le_of_ble_eq_true rfl) (Nat.le_of_ble_eq_true rfl) rfl dX12_comes_205 h
          · replace h := h.2 c4
            refine z_iconst (v := 1) O dX12_comes_200 rfl ?_
            refine z_goto O 205 dX12_comes_201 (by decide) ?_
            exact z_retWR O hE (Nat.le_of_ble_eq_true rfl) (Nat.le_of_ble_eq_true rfl) rfl dX12_comes_205 h
      · replace h := h.2 c10
        refine z_aload_n O dX12_comes_181 4 rfl ?_
        refine z_iload_n O dX12_comes_182 3 rfl ?_
        refine z_iload O dX12_comes_183 0 rfl ?_
        refine z_cWR (gKs D cs) hK (fun _ h => h) (fun _ h => Or.inl h) (fun _ h => Or.inr h) (t_X12_cuts hI x  (x.2.1 10 (Int32.toNatClampNeg (4 * p1))) ((10 * (x.2.1 10 (Int32.toNatClampNeg ((4 * p1) + 1)))) + (x.2.1 10 (Int32.toNatClampNeg ((4 * p1) + 2)))) _ h) (zr_V (As := [.int (x.2.1 10 (Int32.toNatClampNeg (4 * p1))), .int ((10 * (x.2.1 10 (Int32.toNatClampNeg ((4 * p1) + 1)))) + (x.2.1 10 (Int32.toNatClampNeg ((4 * p1) + 2))))]) (rest := []) O hE.1 2 gX12_comes_X12_cuts rfl rfl rfl (by decide +kernel) ⟨(Nat.le_of_ble_eq_true rfl), (Nat.le_of_ble_eq_true rfl)⟩ ⟨(Nat.le_of_ble_eq_true rfl), (Nat.le_of_ble_eq_true rfl)⟩ (fun H hH => z_recv hK.1 (hX _ H hH) (by decide) me_0 rfl) rfl rfl (Nat.le_of_ble_eq_true rfl) dX12_comes_185) (fun r7 x6 h => ?_)
        refine z_pop O dX12_comes_188 rfl ?_
        refine z_iload_n O dX12_comes_189 3 rfl ?_
        refine z_bipush (v := 6) O dX12_comes_190 rfl ?_
        refine z_icmp_ge O 204 dX12_comes_192 (by decide) (fun c9 => ?_) (fun c9 => ?_)
        · replace h := h.1 c9
          refine z_iconst (v := 0) O dX12_comes_204 rfl ?_
          exact z_retWR O hE (Nat.le_of_ble_eq_true rfl) (Nat.le_of_ble_eq_true rfl) rfl dX12_comes_205 h
        · replace h := h.2 c9
          refine z_iload O dX12_comes_195 0 rfl ?_
          refine z_if_le O 204 dX12_comes_197 (by decide) (fun c8 => ?_) (fun c8 => ?_)
          · replace h := h.1 c8
            refine z_iconst (v := 0) O dX12_comes_204 rfl ?_
            exact z_retWR O hE (Nat.le_of_ble_eq_true rfl) (Nat.le_of_ble_eq_true rfl) rfl dX12_comes_205 h
          · replace h := h.2 c8
            refine z_iconst (v := 1) O dX12_comes_200 rfl ?_
            refine z_goto O 205 dX12_comes_201 (by decide) ?_
            exact z_retWR O hE (Nat.le_of_ble_eq_true rfl) (Nat.le_of_ble_eq_true rfl) rfl dX12_comes_205 h
  replace h := h.2 c1
  by_cases c12 : (x.2.1 9 (Int32.toNatClampNeg p1)) = 100
  · replace h := h.1 c12
    refine z_lookup (off := 159) O 206 dX12_comes_47 (by decide) (by rw [c12]; try decide) (by decide) ?_
    refine z_aload_n O dX12_comes_206 4 rfl ?_
    refine z_cWV (gKs D cs) hK (fun _ h => h) (fun _ h => Or.inl h) (fun _ h => Or.inr h) (t_X12_drifts hI x   _ h) (zr_V (As := []) (rest := []) O hE.1 0 gX12_comes_X12_drifts rfl rfl rfl (by decide +kernel) ⟨(Nat.le_of_ble_eq_true rfl), (Nat.le_of_ble_eq_true rfl)⟩ ⟨(Nat.le_of_ble_eq_true rfl), (Nat.le_of_ble_eq_true rfl)⟩ (fun H hH => z_recv hK.1 (hX _ H hH) (by decide) me_0 rfl) rfl rfl (Nat.le_of_ble_eq_true rfl) dX12_comes_207) (fun x13 h => ?_)
    refine z_iconst (v := 1) O dX12_comes_210 rfl ?_
    exact z_retWR O hE (Nat.le_of_ble_eq_true rfl) (Nat.le_of_ble_eq_true rfl) rfl dX12_comes_211 h
  replace h := h.2 c12
  by_cases c14 : (x.2.1 9 (Int32.toNatClampNeg p1)) = 110
  · replace h := h.1 c14
    refine z_lookup (off := 41) O 88 dX12_comes_47 (by decide) (by rw [c14]; try decide) (by decide) ?_
    refine z_iload_n O dX12_comes_88 3 rfl ?_
    refine z_bipush (v := 6) O dX12_comes_89 rfl ?_
    refine z_icmp_ge O 138 dX12_comes_91 (by decide) (fun c20 => ?_) (fun c20 => ?_)
    · replace h := h.1 c20
      refine z_iconst (v := 0) O dX12_comes_138 rfl ?_
      exact z_retWR O hE (Nat.le_of_ble_eq_true rfl) (Nat.le_of_ble_eq_true rfl) rfl dX12_comes_139 h
    · replace h := h.2 c20
      refine z_iload_n O dX12_comes_94 2 rfl ?_
      refine z_bipush (v := 8) O dX12_comes_95 rfl ?_
      refine z_icmp_ge O 138 dX12_comes_97 (by decide) (fun c19 => ?_) (fun c19 => ?_)
      · replace h := h.1 c19
        refine z_iconst (v := 0) O dX12_comes_138 rfl ?_
        exact z_retWR O hE (Nat.le_of_ble_eq_true rfl) (Nat.le_of_ble_eq_true rfl) rfl dX12_comes_139 h
      · replace h := h.2 c19
        refine z_aload_n O dX12_comes_100 4 rfl ?_
        refine z_getf O hK.1 (hX _) (by decide) me_0 rfl i12 20 (by decide) (by decide +kernel) rfl dX12_comes_101 ?_
        refine z_iconst (v := 4) O dX12_comes_104 rfl ?_
        refine z_iload_n O dX12_comes_105 5 rfl ?_
        refine z_imul O dX12_comes_106 ?_
        refine z_iconst (v := 3) O dX12_comes_107 rfl ?_
        refine z_iadd O dX12_comes_108 ?_
        refine z_iald O hK.1 (hX _) 0 (mk_lt mk_10) (me_A mk_10) rfl (show vp_in ((4 * p1) + 3) (mlen 10) from h.1) dX12_comes_109 ?_
        replace h := h.2
        refine z_if_le O 138 dX12_comes_110 (by decide) (fun c18 => ?_) (fun c18 => ?_)
        · replace h := h.1 c18
          refine z_iconst (v := 0) O dX12_comes_138 rfl ?_
          exact z_retWR O hE (Nat.le_of_ble_eq_true rfl) (Nat.le_of_ble_eq_true rfl) rfl dX12_comes_139 h
        · replace h := h.2 c18
          refine z_aload_n O dX12_comes_113 4 rfl ?_
          refine z_iload_n O dX12_comes_114 3 rfl ?_
          refine z_iload_n O dX12_comes_115 2 rfl ?_
          refine z_iload O dX12_comes_116 1 rfl ?_
          refine z_aload_n O dX12_comes_118 4 rfl ?_
          refine z_getf O hK.1 (hX _) (by decide) me_0 rfl i12 20 (by decide) (by decide +kernel) rfl dX12_comes_119 ?_
          refine z_iconst (v := 4) O dX12_comes_122 rfl ?_
          refine z_iload_n O dX12_comes_123 5 rfl ?_
          refine z_imul O dX12_comes_124 ?_
          refine z_iconst (v := 3) O dX12_comes_125 rfl ?_
          refine z_iadd O dX12_comes_126 ?_
          refine z_iald O hK.1 (hX _) 0 (mk_lt mk_10) (me_A mk_10) rfl (show vp_in ((4 * p1) + 3) (mlen 10) from h.1) dX12_comes_127 ?_
          replace h := h.2
          refine z_cWR (gKs D cs) hK (fun _ h => h) (fun _ h => Or.inl h) (fun _ h => Or.inr h) (t_X12_freezes hI x  (x.2.1 10 (Int32.toNatClampNeg (4 * p1))) (x.2.1 10 (Int32.toNatClampNeg ((4 * p1) + 1))) (x.2.1 10 (Int32.toNatClampNeg ((4 * p1) + 2))) (x.2.1 10 (Int32.toNatClampNeg ((4 * p1) + 3))) _ h) (zr_V (As := [.int (x.2.1 10 (Int32.toNatClampNeg (4 * p1))), .int (x.2.1 10 (Int32.toNatClampNeg ((4 * p1) + 1))), .int (x.2.1 10 (Int32.toNatClampNeg ((4 * p1) + 2))), .int (x.2.1 10 (Int32.toNatClampNeg ((4 * p1) + 3)))]) (rest := []) O hE.1 4 gX12_comes_X12_freezes rfl rfl rfl (by decide +kernel) ⟨(Nat.le_of_ble_eq_true rfl), (Nat.le_of_ble_eq_true rfl)⟩ ⟨(Nat.le_of_ble_eq_true rfl), (Nat.le_of_ble_eq_true rfl)⟩ (fun H hH => z_recv hK.1 (hX _ H hH) (by decide) me_0 rfl) rfl rfl (Nat.le_of_ble_eq_true rfl) dX12_comes_128) (fun r16 x15 h => ?_)
          refine z_if_eq O 138 dX12_comes_131 (by decide) (fun c17 => ?_) (fun c17 => ?_)
          · replace h := h.1 c17
            refine z_iconst (v := 0) O dX12_comes_138 rfl ?_
            exact z_retWR O hE (Nat.le_of_ble_eq_true rfl) (Nat.le_of_ble_eq_true rfl) rfl dX12_comes_139 h
          · replace h := h.2 c17
            refine z_iconst (v := 1) O dX12_comes_134 rfl ?_
            refine z_goto O 139 dX12_comes_135 (by decide) ?_
            exact z_retWR O hE (Nat.le_of_ble_eq_true rfl) (Nat.le_of_ble_eq_true rfl) rfl dX12_comes_139 h
  replace h := h.2 c14
  by_cases c21 : (x.2.1 9 (Int32.toNatClampNeg p1)) = 116
  · replace h := h.1 c21
    refine z_lookup (off := 93) O 140 dX12_comes_47 (by decide) (by rw [c21]; try decide) (by decide) ?_
    refine z_iconst (v := 0) O dX12_comes_140 rfl ?_
    refine z_istore (lv' := [(6, .int 0), (5, .int ((10 * (x.2.1 10 (Int32.toNatClampNeg ((4 * p1) + 1)))) + (x.2.1 10 (Int32.toNatClampNeg ((4 * p1) + 2))))), (4, .int (x.2.1 10 (Int32.toNatClampNeg ((4 * p1) + 2)))), (3, .int (x.2.1 10 (Int32.toNatClampNeg ((4 * p1) + 1)))), (2, .int (x.2.1 10 (Int32.toNatClampNeg (4 * p1)))), (0, .ref (ad 0)), (1, .int p1)]) O dX12_comes_141 (by decide) rfl ?_
    obtain ⟨I143, U143, h0, hs⟩ := h
    have kI143 : ∀ (n : Nat) (y22 : Int32) (x23 : MS), U143 y22 x23 < n → I143 y22 x23 → Z C (zA (wB 18 ad) C.s.heap.size) (MH D cs ad) 7 x23 [(0, .ref (ad 0)), (2, .int (x.2.1 10 (Int32.toNatClampNeg (4 * p1)))), (6, .int y22)] 0 0 143 [] := by
      intro n
      induction n with
      | zero => intro y22 x23 uI143; exact absurd uI143 (Nat.not_lt_zero _)
      | succ n iI143 =>
        intro y22 x23 uI143 h
        have h := hs y22 x23 h
        refine z_iload O dX12_comes_143 2 rfl ?_
        refine z_iload_n O dX12_comes_145 1 rfl ?_
        refine z_icmp_ge O 160 dX12_comes_146 (by decide) (fun c27 => ?_) (fun c27 => ?_)
        · replace h := h.1 c27
          refine z_iload_n O dX12_comes_160 1 rfl ?_
          refine z_if_le O 168 dX12_comes_161 (by decide) (fun c24 => ?_) (fun c24 => ?_)
          · replace h := h.1 c24
            refine z_iconst (v := 0) O dX12_comes_168 rfl ?_
            exact z_retWR O hE (Nat.le_of_ble_eq_true rfl) (Nat.le_of_ble_eq_true rfl) rfl dX12_comes_169 h
          · replace h := h.2 c24
            refine z_iconst (v := 1) O dX12_comes_164 rfl ?_
            refine z_goto O 169 dX12_comes_165 (by decide) ?_
            exact z_retWR O hE (Nat.le_of_ble_eq_true rfl) (Nat.le_of_ble_eq_true rfl) rfl dX12_comes_169 h
        · replace h := h.2 c27
          refine z_aload_n O dX12_comes_149 0 rfl ?_
          refine z_cWR (gKs D cs) hK (fun _ h => h) (fun _ h => Or.inl h) (fun _ h => Or.inr h) (t_X12_warmDay hI x23   _ h) (zr_V (As := []) (rest := []) O hE.1 0 gX12_comes_X12_warmDay rfl rfl rfl (by decide +kernel) ⟨(Nat.le_of_ble_eq_true rfl), (Nat.le_of_ble_eq_true rfl)⟩ ⟨(Nat.le_of_ble_eq_true rfl), (Nat.le_of_ble_eq_true rfl)⟩ (fun H hH => z_recv hK.1 (hX _ H hH) (by decide) me_0 rfl) rfl rfl (Nat.le_of_ble_eq_true rfl) dX12_comes_150) (fun r26 x25 h => ?_)
          refine z_pop O dX12_comes_153 rfl ?_
          refine z_iinc (lv' := [(6, .int (y22 + 1)), (0, .ref (ad 0)), (2, .int (x.2.1 10 (Int32.toNatClampNeg (4 * p1))))]) O dX12_comes_154 2 rfl rfl (by decide) rfl ?_
          refine z_goto O 143 dX12_comes_157 (by decide) ?_
          exact z_sub [1, 2, 0] rfl (iI143 (y22 + 1) x25 (Nat.lt_of_lt_of_le h.2 (Nat.le_of_lt_succ uI143)) h.1)
    exact z_sub [5, 4, 0] rfl (kI143 _ 0 x (Nat.lt_succ_self _) h0)
  replace h := h.2 c21
  refine z_lookup (off := 165) O 212 dX12_comes_47 (by decide) ((lv_osw c1 (by decide)).trans ((lv_osw c12 (by decide)).trans ((lv_osw c14 (by decide)).trans ((lv_osw c21 (by decide)).trans rfl)))) (by decide) ?_
  refine z_aload_n O dX12_comes_212 4 rfl ?_
  refine z_dup O dX12_comes_213 rfl ?_
  refine z_getf O hK.1 (hX _) (by decide) me_0 rfl i12 0 (by decide) (by decide +kernel) rfl dX12_comes_214 ?_
  refine z_iconst (v := 1) O dX12_comes_217 rfl ?_
  refine z_iadd O dX12_comes_218 ?_
  obtain ⟨x28, ex28⟩ : ∃ z, z = mI x 0 ((x.1 0) + 1) := ⟨_, rfl⟩
  replace h := h x28 ex28
  refine z_putf (x' := x28) (ty := .int) O hK.1 (hX _) hB hI hA (by decide) me_0 rfl i12 tyX12 tyX12_ok nmX12 0 (by decide) (by decide +kernel) rfl (by decide +kernel) rfl rfl (Nat.le_of_ble_eq_true rfl) (by rw [ex28]; exact me_put rfl rfl rfl) dX12_comes_219 ?_
  refine z_aload_n O dX12_comes_222 4 rfl ?_
  refine z_getf O hK.1 (hX _) (by decide) me_0 rfl i12 0 (by decide) (by decide +kernel) rfl dX12_comes_223 ?_
  refine z_bipush (v := 100) O dX12_comes_226 rfl ?_
  refine z_icmp_ge O 235 dX12_comes_228 (by decide) (fun c29 => ?_) (fun c29 => ?_)
  · replace h := h.1 c29
    refine z_iconst (v := 0) O dX12_comes_235 rfl ?_
    exact z_retWR O hE (Nat.le_of_ble_eq_true rfl) (Nat.le_of_ble_eq_true rfl) rfl dX12_comes_236 h
  · replace h := h.2 c29
    refine z_iconst (v := 1) O dX12_comes_231 rfl ?_
    refine z_goto O 236 dX12_comes_232 (by decide) ?_
    exact z_retWR O hE (Nat.le_of_ble_eq_true rfl) (Nat.le_of_ble_eq_true rfl) rfl dX12_comes_236 h
def wp_X12_wrongRow (x : MS)  (p1 : Int32) (Q : Int32 → Prop) : Prop :=
 wp_X12_in (Int32.toInt64 p1) 0 7 (fun r1 : Int32 =>
 ((¬ r1 = 0 →
 (vp_in p1 8 ∧
 ((¬ (x.2.1 11 (Int32.toNatClampNeg p1)) = 0 →
 (vp_in p1 8 ∧
 (((x.2.1 11 (Int32.toNatClampNeg p1)) = 2 →
 Q 0) ∧ (¬ (x.2.1 11 (Int32.toNatClampNeg p1)) = 2 →
 Q (-12))))) ∧ ((x.2.1 11 (Int32.toNatClampNeg p1)) = 0 →
 Q (-11))))) ∧ (r1 = 0 →
 Q (-1))))
set_option maxHeartbeats 4000000 in
set_option maxRecDepth 100000 in
theorem t_X12_wrongRow {l : Launch} {D : va_G} {cs : Nat → ClassId} {ad : Nat → Nat} (x : MS)  (p1 : Int32) (Q : Int32 → Prop) (h : wp_X12_wrongRow x  p1 Q) : zMR l yX12_wrongRow wsX12_wrongRow ({ frames := 1, cells := 0, slots := 0, locals := 25 } : Room) (gK D cs) (MH D cs ad) x [.ref (ad 0), .int p1] Q := by
  refine zMR_of (cc := cX12_wrongRow) (nL := 2) (ret := (some .int)) (by decide +kernel) rfl (Nat.le_of_ble_eq_true rfl) (fun C hl O hE hK hH => ?_)
  subst hl
  have hX : ∀ (x : MS) (H : Heap), z0 (MH D cs ad) C.s.heap x H → va_P D vwCl (wl 18 ad (ME cs ad x)) H := fun _ _ h => h.2
  have i12 : ∀ w ∈ wsX120, w ∈ wsX12_wrongRow := by decide +kernel
  refine z_sub (lv' := [(0, .ref (ad 0)), (1, .int p1)]) [0, 1] rfl ?_
  refine z_iload_n O dX12_wrongRow_0 1 rfl ?_
  refine z_i2l O dX12_wrongRow_1 ?_
  refine z_lconst (v := 0) O dX12_wrongRow_2 rfl ?_
  refine z_ldc2 (v := 7) O (by decide +kernel) dX12_wrongRow_3 ?_
  refine z_callR (gKs D cs) hK (fun _ h => h.2) (t_X12_in (gKs D cs) (Int32.toInt64 p1) 0 7 _ h) (zr_SS (As := [.long (Int32.toInt64 p1), .long 0, .long 7]) (rest := []) O hE.1 3 gX12_wrongRow_X12_in rfl rfl rfl (by decide +kernel) ⟨(Nat.le_of_ble_eq_true rfl), (Nat.le_of_ble_eq_true rfl)⟩ ⟨(Nat.le_of_ble_eq_true rfl), (Nat.le_of_ble_eq_true rfl)⟩ rfl rfl (Nat.le_of_ble_eq_true rfl) dX12_wrongRow_6) (fun r1 h => ?_)
  refine z_if_ne O 16 dX12_wrongRow_9 (by decide) (fun c4 => ?_) (fun c4 => ?_)
  · replace h := h.1 c4
    refine z_aload_n O dX12_wrongRow_16 0 rfl ?_
    refine z_getf O hK.1 (hX _) (by decide) me_0 rfl i12 22 (by decide) (by decide +kernel) rfl dX12_wrongRow_17 ?_
    refine z_iload_n O dX12_wrongRow_20 1 rfl ?_
    refine z_iald O hK.1 (hX _) 0 (mk_lt mk_11) (me_A mk_11) rfl (show vp_in p1 (mlen 11) from h.1) dX12_wrongRow_21 ?_
    replace h := h.2
    refine z_if_ne O 30 dX12_wrongRow_22 (by decide) (fun c3 => ?_) (fun c3 => ?_)
    · replace h := h.1 c3
      refine z_aload_n O dX12_wrongRow_30 0 rfl ?_
      refine z_getf O hK.1 (hX _) (by decide) me_0 rfl i12 22 (by decide) (by decide +kernel) rfl dX12_wrongRow_31 ?_
      refine z_iload_n O dX12_wrongRow_34 1 rfl ?_
      refine z_iald O hK.1 (hX _) 0 (mk_lt mk_11) (me_A mk_11) rfl (show vp_in p1 (mlen 11) from h.1) dX12_wrongRow_35 ?_
      replace h := h.2
      refine z_iconst (v := 2) O dX12_wrongRow_36 rfl ?_
      refine z_icmp_eq O 45 dX12_wrongRow_37 (by decide) (fun c2 => ?_) (fun c2 => ?_)
      · replace h := h.1 c2
        refine z_iconst (v := 0) O dX12_wrongRow_45 rfl ?_
        exact z_retR O hE (fun _ h => h.1) rfl dX12_wrongRow_46 h
      · replace h := h.2 c2
        refine z_bipush (v := -12) O dX12_wrongRow_40 rfl ?_
        refine z_goto O 46 dX12_wrongRow_42 (by decide) ?_
        exact z_retR O hE (fun _ h => h.1) rfl dX12_wrongRow_46 h
    · replace h := h.2 c3
      refine z_bipush (v := -11) O dX12_wrongRow_25 rfl ?_
      refine z_goto O 46 dX12_wrongRow_27 (by decide) ?_
      exact z_retR O hE (fun _ h => h.1) rfl dX12_wrongRow_46 h
  · replace h := h.2 c4
    refine z_iconst (v := -1) O dX12_wrongRow_12 rfl ?_
    refine z_goto O 46 dX12_wrongRow_13 (by decide) ?_
    exact z_retR O hE (fun _ h => h.1) rfl dX12_wrongRow_46 h
def wp_X12_wrongSort (x : MS)  (p1 : Int32) (p2 : Int32) (Q : Int32 → Prop) : Prop :=
 wp_X12_wrongRow x p1 (fun r1 : Int32 =>
 ((0 ≤ r1 →
 (vp_in p1 8 ∧
 (((x.2.1 14 (Int32.toNatClampNeg p1)) = p2 →
 Q 0) ∧ (¬ (x.2.1 14 (Int32.toNatClampNeg p1)) = p2 →
 Q (-12))))) ∧ (¬ 0 ≤ r1 →
 wp_X12_wrongRow x p1 (fun r3 : Int32 =>
 Q r3))))
set_option maxHeartbeats 4000000 in
set_option maxRecDepth 100000 in
theorem t_X12_wrongSort {l : Launch} {D : va_G} {cs : Nat → ClassId} {ad : Nat → Nat} (x : MS)  (p1 : Int32) (p2 : Int32) (Q : Int32 → Prop) (h : wp_X12_wrongSort x  p1 p2 Q) : zMR l yX12_wrongSort wsX12_wrongSort ({ frames := 2, cells := 0, slots := 0, locals := 46 } : Room) (gK D cs) (MH D cs ad) x [.ref (ad 0), .int p1, .int p2] Q := by
  refine zMR_of (cc := cX12_wrongSort) (nL := 3) (ret := (some .int)) (by decide +kernel) rfl (Nat.le_of_ble_eq_true rfl) (fun C hl O hE hK hH => ?_)
  subst hl
  have hX : ∀ (x : MS) (H : Heap), z0 (MH D cs ad) C.s.heap x H → va_P D vwCl (wl 18 ad (ME cs ad x)) H := fun _ _ h => h.2
  have i12 : ∀ w ∈ wsX120, w ∈ wsX12_wrongSort := by decide +kernel
  refine z_sub (lv' := [(0, .ref (ad 0)), (1, .int p1), (2, .int p2)]) [0, 1, 2] rfl ?_
  refine z_aload_n O dX12_wrongSort_0 0 rfl ?_
  refine z_iload_n O dX12_wrongSort_1 1 rfl ?_
  refine z_callR (gKs D cs) hK (fun _ h => h.2) (t_X12_wrongRow x  p1 _ h) (zr_V (As := [.int p1]) (rest := []) O hE.1 1 gX12_wrongSort_X12_wrongRow rfl rfl rfl (by decide +kernel) ⟨(Nat.le_of_ble_eq_true rfl), (Nat.le_of_ble_eq_true rfl)⟩ ⟨(Nat.le_of_ble_eq_true rfl), (Nat.le_of_ble_eq_true rfl)⟩ (fun H hH => z_recv hK.1 (hX _ H hH) (by decide) me_0 rfl) rfl rfl (Nat.le_of_ble_eq_true rfl) dX12_wrongSort_2) (fun r1 h => ?_)
  refine z_if_ge O 16 dX12_wrongSort_5 (by decide) (fun c4 => ?_) (fun c4 => ?_)
  · replace h := h.1 c4
    refine z_aload_n O dX12_wrongSort_16 0 rfl ?_
    refine z_getf O hK.1 (hX _) (by decide) me_0 rfl i12 25 (by decide) (by decide +kernel) rfl dX12_wrongSort_17 ?_
    refine z_iload_n O dX12_wrongSort_20 1 rfl ?_
    refine z_iald O hK.1 (hX _) 0 (mk_lt mk_14) (me_A mk_14) rfl (show vp_in p1 (mlen 14) from h.1) dX12_wrongSort_21 ?_
    replace h := h.2
    refine z_iload_n O dX12_wrongSort_22 2 rfl ?_
    refine z_icmp_eq O 31 dX12_wrongSort_23 (by decide) (fun c2 => ?_) (fun c2 => ?_)
    · replace h := h.1 c2
      refine z_iconst (v := 0) O dX12_wrongSort_31 rfl ?_
      exact z_retR O hE (fun _ h => h.1) rfl dX12_wrongSort_32 h
    · replace h := h.2 c2
      refine z_bipush (v := -12) O dX12_wrongSort_26 rfl ?_
      refine z_goto O 32 dX12_wrongSort_28 (by decide) ?_
      exact z_retR O hE (fun _ h => h.1) rfl dX12_wrongSort_32 h
  · replace h := h.2 c4
    refine z_aload_n O dX12_wrongSort_8 0 rfl ?_
    refine z_iload_n O dX12_wrongSort_9 1 rfl ?_
    refine z_callR (gKs D cs) hK (fun _ h => h.2) (t_X12_wrongRow x  p1 _ h) (zr_V (As := [.int p1]) (rest := []) O hE.1 1 gX12_wrongSort_X12_wrongRow rfl rfl rfl (by decide +kernel) ⟨(Nat.le_of_ble_eq_true rfl), (Nat.le_of_ble_eq_true rfl)⟩ ⟨(Nat.le_of_ble_eq_true rfl), (Nat.le_of_ble_eq_true rfl)⟩ (fun H hH => z_recv hK.1 (hX _ H hH) (by decide) me_0 rfl) rfl rfl (Nat.le_of_ble_eq_true rfl) dX12_wrongSort_10) (fun r3 h => ?_)
    refine z_goto O 32 dX12_wrongSort_13 (by decide) ?_
    exact z_retR O hE (fun _ h => h.1) rfl dX12_wrongSort_32 h
def wp_X12_lake (x : MS)  (p1 : Int32) (Q : Int32 → MS → Prop) : Prop :=
 (∀ x1 : MS, x1 = mI x 6 0 →
 wp_X12_wrongSort x1 p1 0 (fun r2 : Int32 =>
 ((0 ≤ r2 →
 (∀ x3 : MS, x3 = mI x1 13 (100 * p1) →
 (vp_in p1 8 ∧
 (∀ x4 : MS, x4 = mI x3 14 (x3.2.1 15 (Int32.toNatClampNeg p1)) →
 (∀ x5 : MS, x5 = mI x4 15 0 →
 (∀ x6 : MS, x6 = mI x5 16 0 →
 (∀ x7 : MS, x7 = mI x6 17 0 →
 (∃ (I51 : MS → Prop) (U51 : MS → Nat), I51 x7 ∧ ∀ (x8 : MS), I51 x8 →
 ((¬ (x8.1 16) = 0 →
 (((x8.1 16) = 0 →
 wp_X12_open x8  (fun (x9 : MS) =>
 (∃ (I105 : Int32 → MS → Prop) (U105 : Int32 → MS → Nat), I105 0 x9 ∧ ∀ (y10 : Int32) (x11 : MS), I105 y10 x11 →
 (((x11.1 17) ≤ y10 →
 Q (x11.1 17) x11) ∧ (¬ (x11.1 17) ≤ y10 →
 wp_X12_comes x11 y10 (fun (r13 : Int32) (x12 : MS) =>
 ((¬ r13 = 0 →
 (I105 (y10 + 1) x12 ∧ U105 (y10 + 1) x12 < U105 y10 x11)) ∧ (r13 = 0 →
 wp_X12_close x12  (fun (x14 : MS) =>
 (vp_in y10 51 ∧
 Q ((-2000) - (x14.2.1 8 (Int32.toNatClampNeg y10))) x14)))))))))) ∧ (¬ (x8.1 16) = 0 →
 Q ((-1000) - (x8.1 15)) x8))) ∧ ((x8.1 16) = 0 →
 (((x8.1 17) = 0 →
 wp_X12_readStatement x8  (fun (x18 : MS) =>
 (I51 x18 ∧ U51 x18 < U51 x8))) ∧ (¬ (x8.1 17) = 0 →
 (((x8.1 14) ≤ (x8.1 15) →
 (((x8.1 16) = 0 →
 wp_X12_open x8  (fun (x19 : MS) =>
 (∃ (I105 : Int32 → MS → Prop) (U105 : Int32 → MS → Nat), I105 0 x19 ∧ ∀ (y20 : Int32) (x21 : MS), I105 y20 x21 →
 (((x21.1 17) ≤ y20 →
 Q (x21.1 17) x21) ∧ (¬ (x21.1 17) ≤ y20 →
 wp_X12_comes x21 y20 (fun (r23 : Int32) (x22 : MS) =>
 ((¬ r23 = 0 →
 (I105 (y20 + 1) x22 ∧ U105 (y20 + 1) x22 < U105 y20 x21)) ∧ (r23 = 0 →
 wp_X12_close x22  (fun (x24 : MS) =>
 (vp_in y20 51 ∧
 Q ((-2000) - (x24.2.1 8 (Int32.toNatClampNeg y20))) x24)))))))))) ∧ (¬ (x8.1 16) = 0 →
 Q ((-1000) - (x8.1 15)) x8))) ∧ (¬ (x8.1 14) ≤ (x8.1 15) →
 wp_X12_readStatement x8  (fun (x28 : MS) =>
 (I51 x28 ∧ U51 x28 < U51 x8)))))))))))))))) ∧ (¬ 0 ≤ r2 →
 Q r2 x1))))
set_option maxHeartbeats 4000000 in
set_option maxRecDepth 100000 in
theorem t_X12_lake {l : Launch} {D : va_G} {cs : Nat → ClassId} {ad : Nat → Nat} (hI : wInj 18 ad) (x : MS)  (p1 : Int32) (Q : Int32 → MS → Prop) (h : wp_X12_lake x  p1 Q) : zWR l yX12_lake wsX12_lake ({ frames := 3, cells := 0, slots := 0, locals := 73 } : Room) (gK D cs) (MH D cs ad) (wB 18 ad) x [.ref (ad 0), .int p1] 0 0 Q := by
  refine zWR_of (cc := cX12_lake) (nL := 4) (ret := (some .int)) (by decide +kernel) rfl (Nat.le_of_ble_eq_true rfl) (fun C hl O hE hK => ?_)
  subst hl
  have hX : ∀ (x : MS) (H : Heap), MH D cs ad x H → va_P D vwCl (wl 18 ad (ME cs ad x)) H := fun _ _ h => h
  have hB : ∀ {x : MS} (H : Heap), va_P D vwCl (wl 18 ad (ME cs ad x)) H → MH D cs ad x H := fun _ h => h
  have hA : ∀ q, wB 18 ad q → zA (wB 18 ad) C.s.heap.size q := fun _ h => Or.inl h
  have i12 : ∀ w ∈ wsX120, w ∈ wsX12_lake := by decide +kernel
  refine z_sub (lv' := [(0, .ref (ad 0)), (1, .int p1)]) [0, 1] rfl ?_
  refine z_aload_n O dX12_lake_0 0 rfl ?_
  refine z_iconst (v := 0) O dX12_lake_1 rfl ?_
  obtain ⟨x1, ex1⟩ : ∃ z, z = mI x 6 0 := ⟨_, rfl⟩
  replace h := h x1 ex1
  refine z_putf (x' := x1) (ty := .int) O hK.1 (hX _) hB hI hA (by decide) me_0 rfl i12 tyX12 tyX12_ok nmX12 6 (by decide) (by decide +kernel) rfl (by decide +kernel) rfl rfl (Nat.le_of_ble_eq_true rfl) (by rw [ex1]; exact me_put rfl rfl rfl) dX12_lake_2 ?_
  refine z_aload_n O dX12_lake_5 0 rfl ?_
  refine z_iload_n O dX12_lake_6 1 rfl ?_
  refine z_iconst (v := 0) O dX12_lake_7 rfl ?_
  refine z_callR (gKs D cs) hK (fun _ h => h) (t_X12_wrongSort x1  p1 0 _ h) (zr_V (As := [.int p1, .int 0]) (rest := []) O hE.1 2 gX12_lake_X12_wrongSort rfl rfl rfl (by decide +kernel) ⟨(Nat.le_of_ble_eq_true rfl), (Nat.le_of_ble_eq_true rfl)⟩ ⟨(Nat.le_of_ble_eq_true rfl), (Nat.le_of_ble_eq_true rfl)⟩ (fun H hH => z_recv hK.1 (hX _ H hH) (by decide) me_0 rfl) rfl rfl (Nat.le_of_ble_eq_true rfl) dX12_lake_8) (fun r2 h => ?_)
  refine z_istore_n (lv' := [(2, .int r2), (0, .ref (ad 0)), (1, .int p1)]) O dX12_lake_11 (by decide) rfl ?_
  refine z_iload_n O dX12_lake_12 0 rfl ?_
  refine z_if_ge O 18 dX12_lake_13 (by decide) (fun c32 => ?_) (fun c32 => ?_)
  · replace h := h.1 c32
    refine z_aload_n O dX12_lake_18 1 rfl ?_
    refine z_bipush (v := 100) O dX12_lake_19 rfl ?_
    refine z_iload_n O dX12_lake_21 2 rfl ?_
    refine z_imul O dX12_lake_22 ?_
    obtain ⟨x3, ex3⟩ : ∃ z, z = mI x1 13 (100 * p1) := ⟨_, rfl⟩
    replace h := h x3 ex3
    refine z_putf (x' := x3) (ty := .int) O hK.1 (hX _) hB hI hA (by decide) me_0 rfl i12 tyX12 tyX12_ok nmX12 13 (by decide) (by decide +kernel) rfl (by decide +kernel) rfl rfl (Nat.le_of_ble_eq_true rfl) (by rw [ex3]; exact me_put rfl rfl rfl) dX12_lake_23 ?_
    refine z_aload_n O dX12_lake_26 1 rfl ?_
    refine z_aload_n O dX12_lake_27 1 rfl ?_
    refine z_getf O hK.1 (hX _) (by decide) me_0 rfl i12 26 (by decide) (by decide +kernel) rfl dX12_lake_28 ?_
    refine z_iload_n O dX12_lake_31 2 rfl ?_
    refine z_iald O hK.1 (hX _) 0 (mk_lt mk_15) (me_A mk_15) rfl (show vp_in p1 (mlen 15) from h.1) dX12_lake_32 ?_
    replace h := h.2
    obtain ⟨x4, ex4⟩ : ∃ z, z = mI x3 14 (x3.2.1 15 (Int32.toNatClampNeg p1)) := ⟨_, rfl⟩
    replace h := h x4 ex4
    refine z_putf (x' := x4) (ty := .int) O hK.1 (hX _) hB hI hA (by decide) me_0 rfl i12 tyX12 tyX12_ok nmX12 14 (by decide) (by decide +kernel) rfl (by decide +kernel) rfl rfl (Nat.le_of_ble_eq_true rfl) (by rw [ex4]; exact me_put rfl rfl rfl) dX12_lake_33 ?_
    refine z_aload_n O dX12_lake_36 1 rfl ?_
    refine z_iconst (v := 0) O dX12_lake_37 rfl ?_
    obtain ⟨x5, ex5⟩ : ∃ z, z = mI x4 15 0 := ⟨_, rfl⟩
    replace h := h x5 ex5
    refine z_putf (x' := x5) (ty := .int) O hK.1 (hX _) hB hI hA (by decide) me_0 rfl i12 tyX12 tyX12_ok nmX12 15 (by decide) (by decide +kernel) rfl (by decide +kernel) rfl rfl (Nat.le_of_ble_eq_true rfl) (by rw [ex5]; exact me_put rfl rfl rfl) dX12_lake_38 ?_
    refine z_aload_n O dX12_lake_41 1 rfl ?_
    refine z_iconst (v := 0) O dX12_lake_42 rfl ?_
    obtain ⟨x6, ex6⟩ : ∃ z, z = mI x5 16 0 := ⟨_, rfl⟩
    replace h := h x6 ex6
    refine z_putf (x' := x6) (ty := .boolean) O hK.1 (hX _) hB hI hA (by decide) me_0 rfl i12 tyX12 tyX12_ok nmX12 16 (by decide) (by decide +kernel) rfl (by decide +kernel) rfl rfl (Nat.le_of_ble_eq_true rfl) (by rw [ex6]; exact me_put rfl rfl rfl) dX12_lake_43 ?_
    refine z_aload_n O dX12_lake_46 1 rfl ?_
    refine z_iconst (v := 0) O dX12_lake_47 rfl ?_
    obtain ⟨x7, ex7⟩ : ∃ z, z = mI x6 17 0 := ⟨_, rfl⟩
    replace h := h x7 ex7
    refine z_putf (x' := x7) (ty := .int) O hK.1 (hX _) hB hI hA (by decide) me_0 rfl i12 tyX12 tyX12_ok nmX12 17 (by decide) (by decide +kernel) rfl (by decide +kernel) rfl rfl (Nat.le_of_ble_eq_true rfl) (by rw [ex7]; exact me_put rfl rfl rfl) dX12_lake_48 ?_
    obtain ⟨I51, U51, h0, hs⟩ := h
    have kI51 : ∀ (n : Nat) (x8 : MS), U51 x8 < n → I51 x8 → Z C (zA (wB 18 ad) C.s.heap.size) (MH D cs ad) 4 x8 [(0, .ref (ad 0))] 0 0 51 [] := by
      intro n
      induction n with
      | zero => intro x8 uI51; exact absurd uI51 (Nat.not_lt_zero _)
      | succ n iI51 =>
        intro x8 uI51 h
        have h := hs x8 h
        refine z_aload_n O dX12_lake_51 0 rfl ?_
        refine z_getf O hK.1 (hX _) (by decide) me_0 rfl i12 16 (by decide) (by decide +kernel) rfl dX12_lake_52 ?_
        refine z_if_ne O 83 dX12_lake_55 (by decide) (fun c31 => ?_) (fun c31 => ?_)
        · replace h := h.1 c31
          refine z_aload_n O dX12_lake_83 0 rfl ?_
          refine z_getf O hK.1 (hX _) (by decide) me_0 rfl i12 16 (by decide) (by decide +kernel) rfl dX12_lake_84 ?_
          refine z_if_eq O 99 dX12_lake_87 (by decide) (fun c17 => ?_) (fun c17 => ?_)
          · replace h := h.1 c17
            refine z_aload_n O dX12_lake_99 0 rfl ?_
            refine z_cWV (gKs D cs) hK (fun _ h => h) (fun _ h => Or.inl h) (fun _ h => Or.inr h) (t_X12_open hI x8   _ h) (zr_V (As := []) (rest := []) O hE.1 0 gX12_lake_X12_open rfl rfl rfl (by decide +kernel) ⟨(Nat.le_of_ble_eq_true rfl), (Nat.le_of_ble_eq_true rfl)⟩ ⟨(Nat.le_of_ble_eq_true rfl), (Nat.le_of_ble_eq_true rfl)⟩ (fun H hH => z_recv hK.1 (hX _ H hH) (by decide) me_0 rfl) rfl rfl (Nat.le_of_ble_eq_true rfl) dX12_lake_100) (fun x9 h => ?_)
            refine z_iconst (v := 0) O dX12_lake_103 rfl ?_
            refine z_istore_n (lv' := [(3, .int 0), (0, .ref (ad 0))]) O dX12_lake_104 (by decide) rfl ?_
            obtain ⟨I105, U105, h0, hs⟩ := h
            have kI105 : ∀ (n : Nat) (y10 : Int32) (x11 : MS), U105 y10 x11 < n → I105 y10 x11 → Z C (zA (wB 18 ad) C.s.heap.size) (MH D cs ad) 4 x11 [(0, .ref (ad 0)), (3, .int y10)] 0 0 105 [] := by
              intro n
              induction n with
              | zero => intro y10 x11 uI105; exact absurd uI105 (Nat.not_lt_zero _)
              | succ n iI105 =>
                intro y10 x11 uI105 h
                have h := hs y10 x11 h
                refine z_iload_n O dX12_lake_105 1 rfl ?_
                refine z_aload_n O dX12_lake_106 0 rfl ?_
                refine z_getf O hK.1 (hX _) (by decide) me_0 rfl i12 17 (by decide) (by decide +kernel) rfl dX12_lake_107 ?_
                refine z_icmp_ge O 142 dX12_lake_110 (by decide) (fun c16 => ?_) (fun c16 => ?_)
                · replace h := h.1 c16
                  refine z_aload_n O dX12_lake_142 0 rfl ?_
                  refine z_getf O hK.1 (hX _) (by decide) me_0 rfl i12 17 (by decide) (by decide +kernel) rfl dX12_lake_143 ?_
                  exact z_retWR O hE (Nat.le_of_ble_eq_true rfl) (Nat.le_of_ble_eq_true rfl) rfl dX12_lake_146 h
                · replace h := h.2 c16
                  refine z_aload_n O dX12_lake_113 0 rfl ?_
                  refine z_iload_n O dX12_lake_114 1 rfl ?_
                  refine z_cWR (gKs D cs) hK (fun _ h => h) (fun _ h => Or.inl h) (fun _ h => Or.inr h) (t_X12_comes hI x11  y10 _ h) (zr_V (As := [.int y10]) (rest := []) O hE.1 1 gX12_lake_X12_comes rfl rfl rfl (by decide +kernel) ⟨(Nat.le_of_ble_eq_true rfl), (Nat.le_of_ble_eq_true rfl)⟩ ⟨(Nat.le_of_ble_eq_true rfl), (Nat.le_of_ble_eq_true rfl)⟩ (fun H hH => z_recv hK.1 (hX _ H hH) (by decide) me_0 rfl) rfl rfl (Nat.le_of_ble_eq_true rfl) dX12_lake_115) (fun r13 x12 h => ?_)
                  refine z_if_ne O 136 dX12_lake_118 (by decide) (fun c15 => ?_) (fun c15 => ?_)
                  · replace h := h.1 c15
                    refine z_iinc (lv' := [(3, .int (y10 + 1)), (0, .ref (ad 0))]) O dX12_lake_136 1 rfl rfl (by decide) rfl ?_
                    refine z_goto O 105 dX12_lake_139 (by decide) ?_
                    exact z_sub [1, 0] rfl (iI105 (y10 + 1) x12 (Nat.lt_of_lt_of_le h.2 (Nat.le_of_lt_succ uI105)) h.1)
                  · replace h := h.2 c15
                    refine z_aload_n O dX12_lake_121 0 rfl ?_
                    refine z_cWV (gKs D cs) hK (fun _ h => h) (fun _ h => Or.inl h) (fun _ h => Or.inr h) (t_X12_close hI x12   _ h) (zr_V (As := []) (rest := []) O hE.1 0 gX12_lake_X12_close rfl rfl rfl (by decide +kernel) ⟨(Nat.le_of_ble_eq_true rfl), (Nat.le_of_ble_eq_true rfl)⟩ ⟨(Nat.le_of_ble_eq_true rfl), (Nat.le_of_ble_eq_true rfl)⟩ (fun H hH => z_recv hK.1 (hX _ H hH) (by decide) me_0 rfl) rfl rfl (Nat.le_of_ble_eq_true rfl) dX12_lake_122) (fun x14 h => ?_)
                    refine z_sipush (v := -2000) O dX12_lake_125 rfl ?_
                    refine z_aload_n O dX12_lake_128 0 rfl ?_
                    refine z_getf O hK.1 (hX _) (by decide) me_0 rfl i12 18 (by decide) (by decide +kernel) rfl dX12_lake_129 ?_
                    refine z_iload_n O dX12_lake_132 1 rfl ?_
                    refine z_iald O hK.1 (hX _) 0 (mk_lt mk_8) (me_A mk_8) rfl (show vp_in y10 (mlen 8) from h.1) dX12_lake_133 ?_
                    replace h := h.2
                    refine z_isub O dX12_lake_134 ?_
                    exact z_retWR O hE (Nat.le_of_ble_eq_true rfl) (Nat.le_of_ble_eq_true rfl) rfl dX12_lake_135 h
            exact z_sub [1, 0] rfl (kI105 _ 0 x9 (Nat.lt_succ_self _) h0)
          · replace h := h.2 c17
            refine z_sipush (v := -1000) O dX12_lake_90 rfl ?_
            refine z_aload_n O dX12_lake_93 0 rfl ?_
            refine z_getf O hK.1 (hX _) (by decide) me_0 rfl i12 15 (by decide) (by decide +kernel) rfl dX12_lake_94 ?_
            refine z_isub O dX12_lake_97 ?_
            exact z_retWR O hE (Nat.le_of_ble_eq_true rfl) (Nat.le_of_ble_eq_true rfl) rfl dX12_lake_98 h
        · replace h := h.2 c31
          refine z_aload_n O dX12_lake_58 0 rfl ?_
          refine z_getf O hK.1 (hX _) (by decide) me_0 rfl i12 17 (by decide) (by decide +kernel) rfl dX12_lake_59 ?_
          refine z_if_eq O 76 dX12_lake_62 (by decide) (fun c30 => ?_) (fun c30 => ?_)
          · replace h := h.1 c30
            refine z_aload_n O dX12_lake_76 0 rfl ?_
            refine z_cWV (gKs D cs) hK (fun _ h => h) (fun _ h => Or.inl h) (fun _ h => Or.inr h) (t_X12_readStatement hI x8   _ h) (zr_V (As := []) (rest := []) O hE.1 0 gX12_lake_X12_readStatement rfl rfl rfl (by decide +kernel) ⟨(Nat.le_of_ble_eq_true rfl), (Nat.le_of_ble_eq_true rfl)⟩ ⟨(Nat.le_of_ble_eq_true rfl), (Nat.le_of_ble_eq_true rfl)⟩ (fun H hH => z_recv hK.1 (hX _ H hH) (by decide) me_0 rfl) rfl rfl (Nat.le_of_ble_eq_true rfl) dX12_lake_77) (fun x18 h => ?_)
            refine z_goto O 51 dX12_lake_80 (by decide) ?_
            exact z_sub [0] rfl (iI51 x18 (Nat.lt_of_lt_of_le h.2 (Nat.le_of_lt_succ uI51)) h.1)
          · replace h := h.2 c30
            refine z_aload_n O dX12_lake_65 0 rfl ?_
            refine z_getf O hK.1 (hX _) (by decide) me_0 rfl i12 15 (by decide) (by decide +kernel) rfl dX12_lake_66 ?_
            refine z_aload_n O dX12_lake_69 0 rfl ?_
            refine z_getf O hK.1 (hX _) (by decide) me_0 rfl i12 14 (by decide) (by decide +kernel) rfl dX12_lake_70 ?_
            refine z_icmp_ge O 83 dX12_lake_73 (by decide) (fun c29 => ?_) (fun c29 => ?_)
            · replace h := h.1 c29
              refine z_aload_n O dX12_lake_83 0 rfl ?_
              refine z_getf O hK.1 (hX _) (by decide) me_0 rfl i12 16 (by decide) (by decide +kernel) rfl dX12_lake_84 ?_
              refine z_if_eq O 99 dX12_lake_87 (by decide) (fun c27 => ?_) (fun c27 => ?_)
              · replace h := h.1 c27
                refine z_aload_n O dX12_lake_99 0 rfl ?_
                refine z_cWV (gKs D cs) hK (fun _ h => h) (fun _ h => Or.inl h) (fun _ h => Or.inr h) (t_X12_open hI x8   _ h) (zr_V (As := []) (rest := []) O hE.1 0 gX12_lake_X12_open rfl rfl rfl (by decide +kernel) ⟨(Nat.le_of_ble_eq_true rfl), (Nat.le_of_ble_eq_true rfl)⟩ ⟨(Nat.le_of_ble_eq_true rfl), (Nat.le_of_ble_eq_true rfl)⟩ (fun H hH => z_recv hK.1 (hX _ H hH) (by decide) me_0 rfl) rfl rfl (Nat.le_of_ble_eq_true rfl) dX12_lake_100) (fun x19 h => ?_)
                refine z_iconst (v := 0) O dX12_lake_103 rfl ?_
                refine z_istore_n (lv' := [(3, .int 0), (0, .ref (ad 0))]) O dX12_lake_104 (by decide) rfl ?_
                obtain ⟨I105, U105, h0, hs⟩ := h
                have kI105 : ∀ (n : Nat) (y20 : Int32) (x21 : MS), U105 y20 x21 < n → I105 y20 x21 → Z C (zA (wB 18 ad) C.s.heap.size) (MH D cs ad) 4 x21 [(0, .ref (ad 0)), (3, .int y20)] 0 0 105 [] := by
                  intro n
                  induction n with
                  | zero => intro y20 x21 uI105; exact absurd uI105 (Nat.not_lt_zero _)
                  | succ n iI105 =>
                    intro y20 x21 uI105 h
                    have h := hs y20 x21 h
                    refine z_iload_n O dX12_lake_105 1 rfl ?_
                    refine z_aload_n O dX12_lake_106 0 rfl ?_
                    refine z_getf O hK.1 (hX _) (by decide) me_0 rfl i12 17 (by decide) (by decide +kernel) rfl dX12_lake_107 ?_
                    refine z_icmp_ge O 142 dX12_lake_110 (by decide) (fun c26 => ?_) (fun c26 => ?_)
                    · replace h := h.1 c26
                      refine z_aload_n O dX12_lake_142 0 rfl ?_
                      refine z_getf O hK.1 (hX _) (by decide) me_0 rfl i12 17 (by decide) (by decide +kernel) rfl dX12_lake_143 ?_
                      exact z_retWR O hE (Nat.le_of_ble_eq_true rfl) (Nat.le_of_ble_eq_true rfl) rfl dX12_lake_146 h
                    · replace h := h.2 c26
                      refine z_aload_n O dX12_lake_113 0 rfl ?_
                      refine z_iload_n O dX12_lake_114 1 rfl ?_
                      refine z_cWR (gKs D cs) hK (fun _ h => h) (fun _ h => Or.inl h) (fun _ h => Or.inr h) (t_X12_comes hI x21  y20 _ h) (zr_V (As := [.int y20]) (rest := []) O hE.1 1 gX12_lake_X12_comes rfl rfl rfl (by decide +kernel) ⟨(Nat.le_of_ble_eq_true rfl), (Nat.le_of_ble_eq_true rfl)⟩ ⟨(Nat.le_of_ble_eq_true rfl), (Nat.le_of_ble_eq_true rfl)⟩ (fun H hH => z_recv hK.1 (hX _ H hH) (by decide) me_0 rfl) rfl rfl (Nat.le_of_ble_eq_true rfl) dX12_lake_115) (fun r23 x22 h => ?_)
                      refine z_if_ne O 136 dX12_lake_118 (by decide) (fun c25 => ?_) (fun c25 => ?_)
                      · replace h := h.1 c25
                        refine z_iinc (lv' := [(3, .int (y20 + 1)), (0, .ref (ad 0))]) O dX12_lake_136 1 rfl rfl (by decide) rfl ?_
                        refine z_goto O 105 dX12_lake_139 (by decide) ?_
                        exact z_sub [1, 0] rfl (iI105 (y20 + 1) x22 (Nat.lt_of_lt_of_le h.2 (Nat.le_of_lt_succ uI105)) h.1)
                      · replace h := h.2 c25
                        refine z_aload_n O dX12_lake_121 0 rfl ?_
                        refine z_cWV (gKs D cs) hK (fun _ h => h) (fun _ h => Or.inl h) (fun _ h => Or.inr h) (t_X12_close hI x22   _ h) (zr_V (As := []) (rest := []) O hE.1 0 gX12_lake_X12_close rfl rfl rfl (by decide +kernel) ⟨(Nat.le_of_ble_eq_true rfl), (Nat.le_of_ble_eq_true rfl)⟩ ⟨(Nat.le_of_ble_eq_true rfl), (Nat.le_of_ble_eq_true rfl)⟩ (fun H hH => z_recv hK.1 (hX _ H hH) (by decide) me_0 rfl) rfl rfl (Nat.le_of_ble_eq_true rfl) dX12_lake_122) (fun x24 h => ?_)
                        refine z_sipush (v := -2000) O dX12_lake_125 rfl ?_
                        refine z_aload_n O dX12_lake_128 0 rfl ?_
                        refine z_getf O hK.1 (hX _) (by decide) me_0 rfl i12 18 (by decide) (by decide +kernel) rfl dX12_lake_129 ?_
                        refine z_iload_n O dX12_lake_132 1 rfl ?_
                        refine z_iald O hK.1 (hX _) 0 (mk_lt mk_8) (me_A mk_8) rfl (show vp_in y20 (mlen 8) from h.1) dX12_lake_133 ?_
                        replace h := h.2
                        refine z_isub O dX12_lake_134 ?_
                        exact z_retWR O hE (Nat.le_of_ble_eq_true rfl) (Nat.le_of_ble_eq_true rfl) rfl dX12_lake_135 h
                exact z_sub [1, 0] rfl (kI105 _ 0 x19 (Nat.lt_succ_self _) h0)
              · replace h := h.2 c27
                refine z_sipush (v := -1000) O dX12_lake_90 rfl ?_
                refine z_aload_n O dX12_lake_93 0 rfl ?_
                refine z_getf O hK.1 (hX _) (by decide) me_0 rfl i12 15 (by decide) (by decide +kernel) rfl dX12_lake_94 ?_
                refine z_isub O dX12_lake_97 ?_
                exact z_retWR O hE (Nat.le_of_ble_eq_true rfl) (Nat.le_of_ble_eq_true rfl) rfl dX12_lake_98 h
            · replace h := h.2 c29
              refine z_aload_n O dX12_lake_76 0 rfl ?_
              refine z_cWV (gKs D cs) hK (fun _ h => h) (fun _ h => Or.inl h) (fun _ h => Or.inr h) (t_X12_readStatement hI x8   _ h) (zr_V (As := []) (rest := []) O hE.1 0 gX12_lake_X12_readStatement rfl rfl rfl (by decide +kernel) ⟨(Nat.le_of_ble_eq_true rfl), (Nat.le_of_ble_eq_true rfl)⟩ ⟨(Nat.le_of_ble_eq_true rfl), (Nat.le_of_ble_eq_true rfl)⟩ (fun H hH => z_recv hK.1 (hX _ H hH) (by decide) me_0 rfl) rfl rfl (Nat.le_of_ble_eq_true rfl) dX12_lake_77) (fun x28 h => ?_)
              refine z_goto O 51 dX12_lake_80 (by decide) ?_
              exact z_sub [0] rfl (iI51 x28 (Nat.lt_of_lt_of_le h.2 (Nat.le_of_lt_succ uI51)) h.1)
    exact z_sub [1] rfl (kI51 _ x7 (Nat.lt_succ_self _) h0)
  · replace h := h.2 c32
    refine z_iload_n O dX12_lake_16 0 rfl ?_
    exact z_retWR O hE (Nat.le_of_ble_eq_true rfl) (Nat.le_of_ble_eq_true rfl) rfl dX12_lake_17 h
def wp_X12_wrongLayer (x : MS)  (p1 : Int32) (Q : Int32 → Prop) : Prop :=
 wp_X12_in (Int32.toInt64 p1) 0 7 (fun r1 : Int32 =>
 ((¬ r1 = 0 →
 (vp_in p1 8 ∧
 ((¬ (x.2.1 11 (Int32.toNatClampNeg p1)) = 0 →
 (vp_in p1 8 ∧
 (((x.2.1 11 (Int32.toNatClampNeg p1)) = 1 →
 Q 0) ∧ (¬ (x.2.1 11 (Int32.toNatClampNeg p1)) = 1 →
 Q (-12))))) ∧ ((x.2.1 11 (Int32.toNatClampNeg p1)) = 0 →
 Q (-11))))) ∧ (r1 = 0 →
 Q (-1))))
set_option maxHeartbeats 4000000 in
set_option maxRecDepth 100000 in
theorem t_X12_wrongLayer {l : Launch} {D : va_G} {cs : Nat → ClassId} {ad : Nat → Nat} (x : MS)  (p1 : Int32) (Q : Int32 → Prop) (h : wp_X12_wrongLayer x  p1 Q) : zMR l yX12_wrongLayer wsX12_wrongLayer ({ frames := 1, cells := 0, slots := 0, locals := 25 } : Room) (gK D cs) (MH D cs ad) x [.ref (ad 0), .int p1] Q := by
  refine zMR_of (cc := cX12_wrongLayer) (nL := 2) (ret := (some .int)) (by decide +kernel) rfl (Nat.le_of_ble_eq_true rfl) (fun C hl O hE hK hH => ?_)
  subst hl
  have hX : ∀ (x : MS) (H : Heap), z0 (MH D cs ad) C.s.heap x H → va_P D vwCl (wl 18 ad (ME cs ad x)) H := fun _ _ h => h.2
  have i12 : ∀ w ∈ wsX120, w ∈ wsX12_wrongLayer := by decide +kernel
  refine z_sub (lv' := [(0, .ref (ad 0)), (1, .int p1)]) [0, 1] rfl ?_
  refine z_iload_n O dX12_wrongLayer_0 1 rfl ?_
  refine z_i2l O dX12_wrongLayer_1 ?_
  refine z_lconst (v := 0) O dX12_wrongLayer_2 rfl ?_
  refine z_ldc2 (v := 7) O (by decide +kernel) dX12_wrongLayer_3 ?_
  refine z_callR (gKs D cs) hK (fun _ h => h.2) (t_X12_in (gKs D cs) (Int32.toInt64 p1) 0 7 _ h) (zr_SS (As := [.long (Int32.toInt64 p1), .long 0, .long 7]) (rest := []) O hE.1 3 gX12_wrongLayer_X12_in rfl rfl rfl (by decide +kernel) ⟨(Nat.le_of_ble_eq_true rfl), (Nat.le_of_ble_eq_true rfl)⟩ ⟨(Nat.le_of_ble_eq_true rfl), (Nat.le_of_ble_eq_true rfl)⟩ rfl rfl (Nat.le_of_ble_eq_true rfl) dX12_wrongLayer_6) (fun r1 h => ?_)
  refine z_if_ne O 16 dX12_wrongLayer_9 (by decide) (fun c4 => ?_) (fun c4 => ?_)
  · replace h := h.1 c4
    refine z_aload_n O dX12_wrongLayer_16 0 rfl ?_
    refine z_getf O hK.1 (hX _) (by decide) me_0 rfl i12 22 (by decide) (by decide +kernel) rfl dX12_wrongLayer_17 ?_
    refine z_iload_n O dX12_wrongLayer_20 1 rfl ?_
    refine z_iald O hK.1 (hX _) 0 (mk_lt mk_11) (me_A mk_11) rfl (show vp_in p1 (mlen 11) from h.1) dX12_wrongLayer_21 ?_
    replace h := h.2
    refine z_if_ne O 30 dX12_wrongLayer_22 (by decide) (fun c3 => ?_) (fun c3 => ?_)
    · replace h := h.1 c3
      refine z_aload_n O dX12_wrongLayer_30 0 rfl ?_
      refine z_getf O hK.1 (hX _) (by decide) me_0 rfl i12 22 (by decide) (by decide +kernel) rfl dX12_wrongLayer_31 ?_
      refine z_iload_n O dX12_wrongLayer_34 1 rfl ?_
      refine z_iald O hK.1 (hX _) 0 (mk_lt mk_11) (me_A mk_11) rfl (show vp_in p1 (mlen 11) from h.1) dX12_wrongLayer_35 ?_
      replace h := h.2
      refine z_iconst (v := 1) O dX12_wrongLayer_36 rfl ?_
      refine z_icmp_eq O 45 dX12_wrongLayer_37 (by decide) (fun c2 => ?_) (fun c2 => ?_)
      · replace h := h.1 c2
        refine z_iconst (v := 0) O dX12_wrongLayer_45 rfl ?_
        exact z_retR O hE (fun _ h => h.1) rfl dX12_wrongLayer_46 h
      · replace h := h.2 c2
        refine z_bipush (v := -12) O dX12_wrongLayer_40 rfl ?_
        refine z_goto O 46 dX12_wrongLayer_42 (by decide) ?_
        exact z_retR O hE (fun _ h => h.1) rfl dX12_wrongLayer_46 h
    · replace h := h.2 c3
      refine z_bipush (v := -11) O dX12_wrongLayer_25 rfl ?_
      refine z_goto O 46 dX12_wrongLayer_27 (by decide) ?_
      exact z_retR O hE (fun _ h => h.1) rfl dX12_wrongLayer_46 h
  · replace h := h.2 c4
    refine z_iconst (v := -1) O dX12_wrongLayer_12 rfl ?_
    refine z_goto O 46 dX12_wrongLayer_13 (by decide) ?_
    exact z_retR O hE (fun _ h => h.1) rfl dX12_wrongLayer_46 h
def wp_X12_freeze (x : MS)  (p1 : Int32) (p2 : Int32) (p3 : Int32) (Q : Int32 → MS → Prop) : Prop :=
 (∀ x1 : MS, x1 = mI x 6 0 →
 wp_X12_isCell p2 (fun r2 : Int32 =>
 ((r2 = 0 →
 Q (-1) x1) ∧ (¬ r2 = 0 →
 wp_X12_in (Int32.toInt64 p3) 1 9 (fun r3 : Int32 =>
 ((r3 = 0 →
 Q (-1) x1) ∧ (¬ r3 = 0 →
 wp_X12_wrongLayer x1 p1 (fun r4 : Int32 =>
 ((0 ≤ r4 →
 (vp_in p1 8 ∧
 (vp_in p1 8 ∧
 wp_X12_freezes x1 p2 (x1.2.1 12 (Int32.toNatClampNeg p1)) (x1.2.1 13 (Int32.toNatClampNeg p1)) p3 (fun (r6 : Int32) (x5 : MS) =>
 ((r6 = 0 →
 Q (-2) x5) ∧ (¬ r6 = 0 →
 (vp_in p2 6 ∧
 (vp_in (((8 * p2) + (x5.2.1 1 (Int32.toNatClampNeg p2))) - 1) 48 ∧
 Q (x5.2.1 5 (Int32.toNatClampNeg (((8 * p2) + (x5.2.1 1 (Int32.toNatClampNeg p2))) - 1))) x5)))))))) ∧ (¬ 0 ≤ r4 →
 Q r4 x1))))))))))
set_option maxHeartbeats 4000000 in
set_option maxRecDepth 100000 in
theorem t_X12_freeze {l : Launch} {D : va_G} {cs : Nat → ClassId} {ad : Nat → Nat} (hI : wInj 18 ad) (x : MS)  (p1 : Int32) (p2 : Int32) (p3 : Int32) (Q : Int32 → MS → Prop) (h : wp_X12_freeze x  p1 p2 p3 Q) : zWR l yX12_freeze wsX12_freeze ({ frames := 2, cells := 0, slots := 0, locals := 47 } : Room) (gK D cs) (MH D cs ad) (wB 18 ad) x [.ref (ad 0), .int p1, .int p2, .int p3] 0 0 Q := by
  refine zWR_of (cc := cX12_freeze) (nL := 5) (ret := (some .int)) (by decide +kernel) rfl (Nat.le_of_ble_eq_true rfl) (fun C hl O hE hK => ?_)
  subst hl
  have hX : ∀ (x : MS) (H : Heap), MH D cs ad x H → va_P D vwCl (wl 18 ad (ME cs ad x)) H := fun _ _ h => h
  have hB : ∀ {x : MS} (H : Heap), va_P D vwCl (wl 18 ad (ME cs ad x)) H → MH D cs ad x H := fun _ h => h
  have hA : ∀ q, wB 18 ad q → zA (wB 18 ad) C.s.heap.size q := fun _ h => Or.inl h
  have i12 : ∀ w ∈ wsX120, w ∈ wsX12_freeze := by decide +kernel
  refine z_sub (lv' := [(0, .ref (ad 0)), (1, .int p1), (2, .int p2), (3, .int p3)]) [0, 1, 2, 3] rfl ?_
  refine z_aload_n O dX12_freeze_0 0 rfl ?_
  refine z_iconst (v := 0) O dX12_freeze_1 rfl ?_
  obtain ⟨x1, ex1⟩ : ∃ z, z = mI x 6 0 := ⟨_, rfl⟩
  replace h := h x1 ex1
  refine z_putf (x' := x1) (ty := .int) O hK.1 (hX _) hB hI hA (by decide) me_0 rfl i12 tyX12 tyX12_ok nmX12 6 (by decide) (by decide +kernel) rfl (by decide +kernel) rfl rfl (Nat.le_of_ble_eq_true rfl) (by rw [ex1]; exact me_put rfl rfl rfl) dX12_freeze_2 ?_
  refine z_iload_n O dX12_freeze_5 2 rfl ?_
  refine z_callR (gKs D cs) hK (fun _ h => h) (t_X12_isCell (gKs D cs) p2 _ h) (zr_SS (As := [.int p2]) (rest := []) O hE.1 1 gX12_freeze_X12_isCell rfl rfl rfl (by decide +kernel) ⟨(Nat.le_of_ble_eq_true rfl), (Nat.le_of_ble_eq_true rfl)⟩ ⟨(Nat.le_of_ble_eq_true rfl), (Nat.le_of_ble_eq_true rfl)⟩ rfl rfl (Nat.le_of_ble_eq_true rfl) dX12_freeze_6) (fun r2 h => ?_)
  refine z_if_eq O 32 dX12_freeze_9 (by decide) (fun c10 => ?_) (fun c10 => ?_)
  · replace h := h.1 c10
    refine z_iconst (v := -1) O dX12_freeze_32 rfl ?_
    refine z_istore (lv' := [(4, .int (-1)), (0, .ref (ad 0)), (1, .int p1), (2, .int p2), (3, .int p3)]) O dX12_freeze_33 (by decide) rfl ?_
    refine z_iload O dX12_freeze_35 0 rfl ?_
    refine z_if_ge O 43 dX12_freeze_37 (by decide) (fun c => absurd c (by decide)) (fun _ => ?_)
    refine z_iload O dX12_freeze_40 0 rfl ?_
    exact z_retWR O hE (Nat.le_of_ble_eq_true rfl) (Nat.le_of_ble_eq_true rfl) rfl dX12_freeze_42 h
  · replace h := h.2 c10
    refine z_iload_n O dX12_freeze_12 3 rfl ?_
    refine z_i2l O dX12_freeze_13 ?_
    refine z_lconst (v := 1) O dX12_freeze_14 rfl ?_
    refine z_ldc2 (v := 9) O (by decide +kernel) dX12_freeze_15 ?_
    refine z_callR (gKs D cs) hK (fun _ h => h) (t_X12_in (gKs D cs) (Int32.toInt64 p3) 1 9 _ h) (zr_SS (As := [.long (Int32.toInt64 p3), .long 1, .long 9]) (rest := []) O hE.1 3 gX12_freeze_X12_in rfl rfl rfl (by decide +kernel) ⟨(Nat.le_of_ble_eq_true rfl), (Nat.le_of_ble_eq_true rfl)⟩ ⟨(Nat.le_of_ble_eq_true rfl), (Nat.le_of_ble_eq_true rfl)⟩ rfl rfl (Nat.le_of_ble_eq_true rfl) dX12_freeze_18) (fun r3 h => ?_)
    refine z_if_eq O 32 dX12_freeze_21 (by decide) (fun c9 => ?_) (fun c9 => ?_)
    · replace h := h.1 c9
      refine z_iconst (v := -1) O dX12_freeze_32 rfl ?_
      refine z_istore (lv' := [(4, .int (-1)), (0, .ref (ad 0)), (1, .int p1), (2, .int p2), (3, .int p3)]) O dX12_freeze_33 (by decide) rfl ?_
      refine z_iload O dX12_freeze_35 0 rfl ?_
      refine z_if_ge O 43 dX12_freeze_37 (by decide) (fun c => absurd c (by decide)) (fun _ => ?_)
      refine z_iload O dX12_freeze_40 0 rfl ?_
      exact z_retWR O hE (Nat.le_of_ble_eq_true rfl) (Nat.le_of_ble_eq_true rfl) rfl dX12_freeze_42 h
    · replace h := h.2 c9
      refine z_aload_n O dX12_freeze_24 0 rfl ?_
      refine z_iload_n O dX12_freeze_25 1 rfl ?_
      refine z_callR (gKs D cs) hK (fun _ h => h) (t_X12_wrongLayer x1  p1 _ h) (zr_V (As := [.int p1]) (rest := []) O hE.1 1 gX12_freeze_X12_wrongLayer rfl rfl rfl (by decide +kernel) ⟨(Nat.le_of_ble_eq_true rfl), (Nat.le_of_ble_eq_true rfl)⟩ ⟨(Nat.le_of_ble_eq_true rfl), (Nat.le_of_ble_eq_true rfl)⟩ (fun H hH => z_recv hK.1 (hX _ H hH) (by decide) me_0 rfl) rfl rfl (Nat.le_of_ble_eq_true rfl) dX12_freeze_26) (fun r4 h => ?_)
      refine z_goto O 33 dX12_freeze_29 (by decide) ?_
      refine z_istore (lv' := [(4, .int r4), (0, .ref (ad 0)), (1, .int p1), (2, .int p2), (3, .int p3)]) O dX12_freeze_33 (by decide) rfl ?_
      refine z_iload O dX12_freeze_35 0 rfl ?_
      refine z_if_ge O 43 dX12_freeze_37 (by decide) (fun c8 => ?_) (fun c8 => ?_)
      · replace h := h.1 c8
        refine z_aload_n O dX12_freeze_43 1 rfl ?_
        refine z_iload_n O dX12_freeze_44 3 rfl ?_
        refine z_aload_n O dX12_freeze_45 1 rfl ?_
        refine z_getf O hK.1 (hX _) (by decide) me_0 rfl i12 23 (by decide) (by decide +kernel) rfl dX12_freeze_46 ?_
        refine z_iload_n O dX12_freeze_49 2 rfl ?_
        refine z_iald O hK.1 (hX _) 0 (mk_lt mk_12) (me_A mk_12) rfl (show vp_in p1 (mlen 12) from h.1) dX12_freeze_50 ?_
        replace h := h.2
        refine z_aload_n O dX12_freeze_51 1 rfl ?_
        refine z_getf O hK.1 (hX _) (by decide) me_0 rfl i12 24 (by decide) (by decide +kernel) rfl dX12_freeze_52 ?_
        refine z_iload_n O dX12_freeze_55 2 rfl ?_
        refine z_iald O hK.1 (hX _) 0 (mk_lt mk_13) (me_A mk_13) rfl (show vp_in p1 (mlen 13) from h.1) dX12_freeze_56 ?_
        replace h := h.2
        refine z_iload_n O dX12_freeze_57 4 rfl ?_
        refine z_cWR (gKs D cs) hK (fun _ h => h) (fun _ h => Or.inl h) (fun _ h => Or.inr h) (t_X12_freezes hI x1  p2 (x1.2.1 12 (Int32.toNatClampNeg p1)) (x1.2.1 13 (Int32.toNatClampNeg p1)) p3 _ h) (zr_V (As := [.int p2, .int (x1.2.1 12 (Int32.toNatClampNeg p1)), .int (x1.2.1 13 (Int32.toNatClampNeg p1)), .int p3]) (rest := []) O hE.1 4 gX12_freeze_X12_freezes rfl rfl rfl (by decide +kernel) ⟨(Nat.le_of_ble_eq_true rfl), (Nat.le_of_ble_eq_true rfl)⟩ ⟨(Nat.le_of_ble_eq_true rfl), (Nat.le_of_ble_eq_true rfl)⟩ (fun H hH => z_recv hK.1 (hX _ H hH) (by decide) me_0 rfl) rfl rfl (Nat.le_of_ble_eq_true rfl) dX12_freeze_58) (fun r6 x5 h => ?_)
        refine z_if_eq O 85 dX12_freeze_61 (by decide) (fun c7 => ?_) (fun c7 => ?_)
        · replace h := h.1 c7
          refine z_bipush (v := -2) O dX12_freeze_85 rfl ?_
          exact z_retWR O hE (Nat.le_of_ble_eq_true rfl) (Nat.le_of_ble_eq_true rfl) rfl dX12_freeze_87 h
        · replace h := h.2 c7
          refine z_aload_n O dX12_freeze_64 1 rfl ?_
          refine z_getf O hK.1 (hX _) (by decide) me_0 rfl i12 5 (by decide) (by decide +kernel) rfl dX12_freeze_65 ?_
          refine z_bipush (v := 8) O dX12_freeze_68 rfl ?_
          refine z_iload_n O dX12_freeze_70 3 rfl ?_
          refine z_imul O dX12_freeze_71 ?_
          refine z_aload_n O dX12_freeze_72 1 rfl ?_
          refine z_getf O hK.1 (hX _) (by decide) me_0 rfl i12 1 (by decide) (by decide +kernel) rfl dX12_freeze_73 ?_
          refine z_iload_n O dX12_freeze_76 3 rfl ?_
          refine z_iald O hK.1 (hX _) 0 (mk_lt mk_1) (me_A mk_1) rfl (show vp_in p2 (mlen 1) from h.1) dX12_freeze_77 ?_
          replace h := h.2
          refine z_iadd O dX12_freeze_78 ?_
          refine z_iconst (v := 1) O dX12_freeze_79 rfl ?_
          refine z_isub O dX12_freeze_80 ?_
          refine z_iald O hK.1 (hX _) 0 (mk_lt mk_5) (me_A mk_5) rfl (show vp_in (((8 * p2) + (x5.2.1 1 (Int32.toNatClampNeg p2))) - 1) (mlen 5) from h.1) dX12_freeze_81 ?_
          replace h := h.2
          refine z_goto O 87 dX12_freeze_82 (by decide) ?_
          exact z_retWR O hE (Nat.le_of_ble_eq_true rfl) (Nat.le_of_ble_eq_true rfl) rfl dX12_freeze_87 h
      · replace h := h.2 c8
        refine z_iload O dX12_freeze_40 0 rfl ?_
        exact z_retWR O hE (Nat.le_of_ble_eq_true rfl) (Nat.le_of_ble_eq_true rfl) rfl dX12_freeze_42 h
def wp_X12_thaw (x : MS)  (p1 : Int32) (Q : Int32 → MS → Prop) : Prop :=
 (∀ x1 : MS, x1 = mI x 6 0 →
 wp_X12_in (Int32.toInt64 p1) 1 99 (fun r2 : Int32 =>
 ((¬ r2 = 0 →
 (∃ (I23 : Int32 → Int32 → MS → Prop) (U23 : Int32 → Int32 → MS → Nat), I23 0 0 x1 ∧ ∀ (y3 : Int32) (y4 : Int32) (x5 : MS), I23 y3 y4 x5 →
 ((p1 ≤ y4 →
 Q y3 x5) ∧ (¬ p1 ≤ y4 →
 wp_X12_warmDay x5  (fun (r7 : Int32) (x6 : MS) =>
 (I23 (y3 + r7) (y4 + 1) x6 ∧ U23 (y3 + r7) (y4 + 1) x6 < U23 y3 y4 x5)))))) ∧ (r2 = 0 →
 Q (-1) x1))))
set_option maxHeartbeats 4000000 in
set_option maxRecDepth 100000 in
theorem t_X12_thaw {l : Launch} {D : va_G} {cs : Nat → ClassId} {ad : Nat → Nat} (hI : wInj 18 ad) (x : MS)  (p1 : Int32) (Q : Int32 → MS → Prop) (h : wp_X12_thaw x  p1 Q) : zWR l yX12_thaw wsX12_thaw ({ frames := 2, cells := 0, slots := 0, locals := 45 } : Room) (gK D cs) (MH D cs ad) (wB 18 ad) x [.ref (ad 0), .int p1] 0 0 Q := by
  refine zWR_of (cc := cX12_thaw) (nL := 4) (ret := (some .int)) (by decide +kernel) rfl (Nat.le_of_ble_eq_true rfl) (fun C hl O hE hK => ?_)
  subst hl
  have hX : ∀ (x : MS) (H : Heap), MH D cs ad x H → va_P D vwCl (wl 18 ad (ME cs ad x)) H := fun _ _ h => h
  have hB : ∀ {x : MS} (H : Heap), va_P D vwCl (wl 18 ad (ME cs ad x)) H → MH D cs ad x H := fun _ h => h
  have hA : ∀ q, wB 18 ad q → zA (wB 18 ad) C.s.heap.size q := fun _ h => Or.inl h
  have i12 : ∀ w ∈ wsX120, w ∈ wsX12_thaw := by decide +kernel
  refine z_sub (lv' := [(0, .ref (ad 0)), (1, .int p1)]) [0, 1] rfl ?_
  refine z_aload_n O dX12_thaw_0 0 rfl ?_
  refine z_iconst (v := 0) O dX12_thaw_1 rfl ?_
  obtain ⟨x1, ex1⟩ : ∃ z, z = mI x 6 0 := ⟨_, rfl⟩
  replace h := h x1 ex1
  refine z_putf (x' := x1) (ty := .int) O hK.1 (hX _) hB hI hA (by decide) me_0 rfl i12 tyX12 tyX12_ok nmX12 6 (by decide) (by decide +kernel) rfl (by decide +kernel) rfl rfl (Nat.le_of_ble_eq_true rfl) (by rw [ex1]; exact me_put rfl rfl rfl) dX12_thaw_2 ?_
  refine z_iload_n O dX12_thaw_5 1 rfl ?_
  refine z_i2l O dX12_thaw_6 ?_
  refine z_lconst (v := 1) O dX12_thaw_7 rfl ?_
  refine z_ldc2 (v := 99) O (by decide +kernel) dX12_thaw_8 ?_
  refine z_callR (gKs D cs) hK (fun _ h => h) (t_X12_in (gKs D cs) (Int32.toInt64 p1) 1 99 _ h) (zr_SS (As := [.long (Int32.toInt64 p1), .long 1, .long 99]) (rest := []) O hE.1 3 gX12_thaw_X12_in rfl rfl rfl (by decide +kernel) ⟨(Nat.le_of_ble_eq_true rfl), (Nat.le_of_ble_eq_true rfl)⟩ ⟨(Nat.le_of_ble_eq_true rfl), (Nat.le_of_ble_eq_true rfl)⟩ rfl rfl (Nat.le_of_ble_eq_true rfl) dX12_thaw_11) (fun r2 h => ?_)
  refine z_if_ne O 19 dX12_thaw_14 (by decide) (fun c9 => ?_) (fun c9 => ?_)
  · replace h := h.1 c9
    refine z_iconst (v := 0) O dX12_thaw_19 rfl ?_
    refine z_istore_n (lv' := [(2, .int 0), (0, .ref (ad 0)), (1, .int p1)]) O dX12_thaw_20 (by decide) rfl ?_
    refine z_iconst (v := 0) O dX12_thaw_21 rfl ?_
    refine z_istore_n (lv' := [(3, .int 0), (2, .int 0), (0, .ref (ad 0)), (1, .int p1)]) O dX12_thaw_22 (by decide) rfl ?_
    obtain ⟨I23, U23, h0, hs⟩ := h
    have kI23 : ∀ (n : Nat) (y3 : Int32) (y4 : Int32) (x5 : MS), U23 y3 y4 x5 < n → I23 y3 y4 x5 → Z C (zA (wB 18 ad) C.s.heap.size) (MH D cs ad) 4 x5 [(0, .ref (ad 0)), (1, .int p1), (2, .int y3), (3, .int y4)] 0 0 23 [] := by
      intro n
      induction n with
      | zero => intro y3 y4 x5 uI23; exact absurd uI23 (Nat.not_lt_zero _)
      | succ n iI23 =>
        intro y3 y4 x5 uI23 h
        have h := hs y3 y4 x5 h
        refine z_iload_n O dX12_thaw_23 3 rfl ?_
        refine z_iload_n O dX12_thaw_24 1 rfl ?_
        refine z_icmp_ge O 41 dX12_thaw_25 (by decide) (fun c8 => ?_) (fun c8 => ?_)
        · replace h := h.1 c8
          refine z_iload_n O dX12_thaw_41 2 rfl ?_
          exact z_retWR O hE (Nat.le_of_ble_eq_true rfl) (Nat.le_of_ble_eq_true rfl) rfl dX12_thaw_42 h
        · replace h := h.2 c8
          refine z_iload_n O dX12_thaw_28 2 rfl ?_
          refine z_aload_n O dX12_thaw_29 0 rfl ?_
          refine z_cWR (gKs D cs) hK (fun _ h => h) (fun _ h => Or.inl h) (fun _ h => Or.inr h) (t_X12_warmDay hI x5   _ h) (zr_V (As := []) (rest := [.int y3]) O hE.1 0 gX12_thaw_X12_warmDay rfl rfl rfl (by decide +kernel) ⟨(Nat.le_of_ble_eq_true rfl), (Nat.le_of_ble_eq_true rfl)⟩ ⟨(Nat.le_of_ble_eq_true rfl), (Nat.le_of_ble_eq_true rfl)⟩ (fun H hH => z_recv hK.1 (hX _ H hH) (by decide) me_0 rfl) rfl rfl (Nat.le_of_ble_eq_true rfl) dX12_thaw_30) (fun r7 x6 h => ?_)
          refine z_iadd O dX12_thaw_33 ?_
          refine z_istore_n (lv' := [(2, .int (y3 + r7)), (0, .ref (ad 0)), (1, .int p1), (3, .int y4)]) O dX12_thaw_34 (by decide) rfl ?_
          refine z_iinc (lv' := [(3, .int (y4 + 1)), (2, .int (y3 + r7)), (0, .ref (ad 0)), (1, .int p1)]) O dX12_thaw_35 3 rfl rfl (by decide) rfl ?_
          refine z_goto O 23 dX12_thaw_38 (by decide) ?_
          exact z_sub [2, 3, 1, 0] rfl (iI23 (y3 + r7) (y4 + 1) x6 (Nat.lt_of_lt_of_le h.2 (Nat.le_of_lt_succ uI23)) h.1)
    exact z_sub [2, 3, 1, 0] rfl (kI23 _ 0 0 x1 (Nat.lt_succ_self _) h0)
  · replace h := h.2 c9
    refine z_iconst (v := -1) O dX12_thaw_17 rfl ?_
    exact z_retWR O hE (Nat.le_of_ble_eq_true rfl) (Nat.le_of_ble_eq_true rfl) rfl dX12_thaw_18 h
def wp_X12_cut (x : MS)  (p1 : Int32) (p2 : Int32) (Q : Int32 → MS → Prop) : Prop :=
 (∀ x1 : MS, x1 = mI x 6 0 →
 wp_X12_isCell p1 (fun r2 : Int32 =>
 ((r2 = 0 →
 Q (-1) x1) ∧ (¬ r2 = 0 →
 wp_X12_in (Int32.toInt64 p2) 1 99 (fun r3 : Int32 =>
 ((r3 = 0 →
 Q (-1) x1) ∧ (¬ r3 = 0 →
 wp_X12_cuts x1 p1 p2 (fun (r5 : Int32) (x4 : MS) =>
 Q r5 x4))))))))
set_option maxHeartbeats 4000000 in
set_option maxRecDepth 100000 in
theorem t_X12_cut {l : Launch} {D : va_G} {cs : Nat → ClassId} {ad : Nat → Nat} (hI : wInj 18 ad) (x : MS)  (p1 : Int32) (p2 : Int32) (Q : Int32 → MS → Prop) (h : wp_X12_cut x  p1 p2 Q) : zWR l yX12_cut wsX12_cut ({ frames := 2, cells := 0, slots := 0, locals := 45 } : Room) (gK D cs) (MH D cs ad) (wB 18 ad) x [.ref (ad 0), .int p1, .int p2] 0 0 Q := by
  refine zWR_of (cc := cX12_cut) (nL := 3) (ret := (some .int)) (by decide +kernel) rfl (Nat.le_of_ble_eq_true rfl) (fun C hl O hE hK => ?_)
  subst hl
  have hX : ∀ (x : MS) (H : Heap), MH D cs ad x H → va_P D vwCl (wl 18 ad (ME cs ad x)) H := fun _ _ h => h
  have hB : ∀ {x : MS} (H : Heap), va_P D vwCl (wl 18 ad (ME cs ad x)) H → MH D cs ad x H := fun _ h => h
  have hA : ∀ q, wB 18 ad q → zA (wB 18 ad) C.s.heap.size q := fun _ h => Or.inl h
  have i12 : ∀ w ∈ wsX120, w ∈ wsX12_cut := by decide +kernel
  refine z_sub (lv' := [(0, .ref (ad 0)), (1, .int p1), (2, .int p2)]) [0, 1, 2] rfl ?_
  refine z_aload_n O dX12_cut_0 0 rfl ?_
  refine z_iconst (v := 0) O dX12_cut_1 rfl ?_
  obtain ⟨x1, ex1⟩ : ∃ z, z = mI x 6 0 := ⟨_, rfl⟩
  replace h := h x1 ex1
  refine z_putf (x' := x1) (ty := .int) O hK.1 (hX _) hB hI hA (by decide) me_0 rfl i12 tyX12 tyX12_ok nmX12 6 (by decide) (by decide +kernel) rfl (by decide +kernel) rfl rfl (Nat.le_of_ble_eq_true rfl) (by rw [ex1]; exact me_put rfl rfl rfl) dX12_cut_2 ?_
  refine z_iload_n O dX12_cut_5 1 rfl ?_
  refine z_callR (gKs D cs) hK (fun _ h => h) (t_X12_isCell (gKs D cs) p1 _ h) (zr_SS (As := [.int p1]) (rest := []) O hE.1 1 gX12_cut_X12_isCell rfl rfl rfl (by decide +kernel) ⟨(Nat.le_of_ble_eq_true rfl), (Nat.le_of_ble_eq_true rfl)⟩ ⟨(Nat.le_of_ble_eq_true rfl), (Nat.le_of_ble_eq_true rfl)⟩ rfl rfl (Nat.le_of_ble_eq_true rfl) dX12_cut_6) (fun r2 h => ?_)
  refine z_if_eq O 33 dX12_cut_9 (by decide) (fun c7 => ?_) (fun c7 => ?_)
  · replace h := h.1 c7
    refine z_iconst (v := -1) O dX12_cut_33 rfl ?_
    exact z_retWR O hE (Nat.le_of_ble_eq_true rfl) (Nat.le_of_ble_eq_true rfl) rfl dX12_cut_34 h
  · replace h := h.2 c7
    refine z_iload_n O dX12_cut_12 2 rfl ?_
    refine z_i2l O dX12_cut_13 ?_
    refine z_lconst (v := 1) O dX12_cut_14 rfl ?_
    refine z_ldc2 (v := 99) O (by decide +kernel) dX12_cut_15 ?_
    refine z_callR (gKs D cs) hK (fun _ h => h) (t_X12_in (gKs D cs) (Int32.toInt64 p2) 1 99 _ h) (zr_SS (As := [.long (Int32.toInt64 p2), .long 1, .long 99]) (rest := []) O hE.1 3 gX12_cut_X12_in rfl rfl rfl (by decide +kernel) ⟨(Nat.le_of_ble_eq_true rfl), (Nat.le_of_ble_eq_true rfl)⟩ ⟨(Nat.le_of_ble_eq_true rfl), (Nat.le_of_ble_eq_true rfl)⟩ rfl rfl (Nat.le_of_ble_eq_true rfl) dX12_cut_18) (fun r3 h => ?_)
    refine z_if_eq O 33 dX12_cut_21 (by decide) (fun c6 => ?_) (fun c6 => ?_)
    · replace h := h.1 c6
      refine z_iconst (v := -1) O dX12_cut_33 rfl ?_
      exact z_retWR O hE (Nat.le_of_ble_eq_true rfl) (Nat.le_of_ble_eq_true rfl) rfl dX12_cut_34 h
    · replace h := h.2 c6
      refine z_aload_n O dX12_cut_24 0 rfl ?_
      refine z_iload_n O dX12_cut_25 1 rfl ?_
      refine z_iload_n O dX12_cut_26 2 rfl ?_
      refine z_cWR (gKs D cs) hK (fun _ h => h) (fun _ h => Or.inl h) (fun _ h => Or.inr h) (t_X12_cuts hI x1  p1 p2 _ h) (zr_V (As := [.int p1, .int p2]) (rest := []) O hE.1 2 gX12_cut_X12_cuts rfl rfl rfl (by decide +kernel) ⟨(Nat.le_of_ble_eq_true rfl), (Nat.le_of_ble_eq_true rfl)⟩ ⟨(Nat.le_of_ble_eq_true rfl), (Nat.le_of_ble_eq_true rfl)⟩ (fun H hH => z_recv hK.1 (hX _ H hH) (by decide) me_0 rfl) rfl rfl (Nat.le_of_ble_eq_true rfl) dX12_cut_27) (fun r5 x4 h => ?_)
      refine z_goto O 34 dX12_cut_30 (by decide) ?_
      exact z_retWR O hE (Nat.le_of_ble_eq_true rfl) (Nat.le_of_ble_eq_true rfl) rfl dX12_cut_34 h
def wp_X12_drift (x : MS)   (Q : Int32 → MS → Prop) : Prop :=
 (∀ x1 : MS, x1 = mI x 6 0 →
 wp_X12_drifts x1  (fun (x2 : MS) =>
 (vp_in 0 6 ∧
 Q (x2.2.1 1 (Int32.toNatClampNeg 0)) x2)))
set_option maxHeartbeats 4000000 in
set_option maxRecDepth 100000 in
theorem t_X12_drift {l : Launch} {D : va_G} {cs : Nat → ClassId} {ad : Nat → Nat} (hI : wInj 18 ad) (x : MS)   (Q : Int32 → MS → Prop) (h : wp_X12_drift x   Q) : zWR l yX12_drift wsX12_drift ({ frames := 2, cells := 0, slots := 0, locals := 47 } : Room) (gK D cs) (MH D cs ad) (wB 18 ad) x [.ref (ad 0)] 0 0 Q := by
  refine zWR_of (cc := cX12_drift) (nL := 1) (ret := (some .int)) (by decide +kernel) rfl (Nat.le_of_ble_eq_true rfl) (fun C hl O hE hK => ?_)
  subst hl
  have hX : ∀ (x : MS) (H : Heap), MH D cs ad x H → va_P D vwCl (wl 18 ad (ME cs ad x)) H := fun _ _ h => h
  have hB : ∀ {x : MS} (H : Heap), va_P D vwCl (wl 18 ad (ME cs ad x)) H → MH D cs ad x H := fun _ h => h
  have hA : ∀ q, wB 18 ad q → zA (wB 18 ad) C.s.heap.size q := fun _ h => Or.inl h
  have i12 : ∀ w ∈ wsX120, w ∈ wsX12_drift := by decide +kernel
  refine z_sub (lv' := [(0, .ref (ad 0))]) [0] rfl ?_
  refine z_aload_n O dX12_drift_0 0 rfl ?_
  refine z_iconst (v := 0) O dX12_drift_1 rfl ?_
  obtain ⟨x1, ex1⟩ : ∃ z, z = mI x 6 0 := ⟨_, rfl⟩
  replace h := h x1 ex1
  refine z_putf (x' := x1) (ty := .int) O hK.1 (hX _) hB hI hA (by decide) me_0 rfl i12 tyX12 tyX12_ok nmX12 6 (by decide) (by decide +kernel) rfl (by decide +kernel) rfl rfl (Nat.le_of_ble_eq_true rfl) (by rw [ex1]; exact me_put rfl rfl rfl) dX12_drift_2 ?_
  refine z_aload_n O dX12_drift_5 0 rfl ?_
  refine z_cWV (gKs D cs) hK (fun _ h => h) (fun _ h => Or.inl h) (fun _ h => Or.inr h) (t_X12_drifts hI x1   _ h) (zr_V (As := []) (rest := []) O hE.1 0 gX12_drift_X12_drifts rfl rfl rfl (by decide +kernel) ⟨(Nat.le_of_ble_eq_true rfl), (Nat.le_of_ble_eq_true rfl)⟩ ⟨(Nat.le_of_ble_eq_true rfl), (Nat.le_of_ble_eq_true rfl)⟩ (fun H hH => z_recv hK.1 (hX _ H hH) (by decide) me_0 rfl) rfl rfl (Nat.le_of_ble_eq_true rfl) dX12_drift_6) (fun x2 h => ?_)
  refine z_aload_n O dX12_drift_9 0 rfl ?_
  refine z_getf O hK.1 (hX _) (by decide) me_0 rfl i12 1 (by decide) (by decide +kernel) rfl dX12_drift_10 ?_
  refine z_iconst (v := 0) O dX12_drift_13 rfl ?_
  refine z_iald O hK.1 (hX _) 0 (mk_lt mk_1) (me_A mk_1) rfl (show vp_in 0 (mlen 1) from h.1) dX12_drift_14 ?_
  replace h := h.2
  exact z_retWR O hE (Nat.le_of_ble_eq_true rfl) (Nat.le_of_ble_eq_true rfl) rfl dX12_drift_15 h
def wp_X12_winter (x : MS)   (Q : Int32 → MS → Prop) : Prop :=
 (∀ x1 : MS, x1 = mI x 6 0 →
 ((¬ (x1.1 0) = 99 →
 (∀ x2 : MS, x2 = mI x1 0 ((x1.1 0) + 1) →
 Q (x2.1 0) x2)) ∧ ((x1.1 0) = 99 →
 Q (-2) x1)))
set_option maxHeartbeats 4000000 in
set_option maxRecDepth 100000 in
theorem t_X12_winter {l : Launch} {D : va_G} {cs : Nat → ClassId} {ad : Nat → Nat} (hI : wInj 18 ad) (x : MS)   (Q : Int32 → MS → Prop) (h : wp_X12_winter x   Q) : zWR l yX12_winter wsX12_winter ({ frames := 0, cells := 0, slots := 0, locals := 0 } : Room) (gK D cs) (MH D cs ad) (wB 18 ad) x [.ref (ad 0)] 0 0 Q := by
  refine zWR_of (cc := cX12_winter) (nL := 1) (ret := (some .int)) (by decide +kernel) rfl (Nat.le_of_ble_eq_true rfl) (fun C hl O hE hK => ?_)
  subst hl
  have hX : ∀ (x : MS) (H : Heap), MH D cs ad x H → va_P D vwCl (wl 18 ad (ME cs ad x)) H := fun _ _ h => h
  have hB : ∀ {x : MS} (H : Heap), va_P D vwCl (wl 18 ad (ME cs ad x)) H → MH D cs ad x H := fun _ h => h
  have hA : ∀ q, wB 18 ad q → zA (wB 18 ad) C.s.heap.size q := fun _ h => Or.inl h
  have i12 : ∀ w ∈ wsX120, w ∈ wsX12_winter := by decide +kernel
  refine z_sub (lv' := [(0, .ref (ad 0))]) [0] rfl ?_
  refine z_aload_n O dX12_winter_0 0 rfl ?_
  refine z_iconst (v := 0) O dX12_winter_1 rfl ?_
  obtain ⟨x1, ex1⟩ : ∃ z, z = mI x 6 0 := ⟨_, rfl⟩
  replace h := h x1 ex1
  refine z_putf (x' := x1) (ty := .int) O hK.1 (hX _) hB hI hA (by decide) me_0 rfl i12 tyX12 tyX12_ok nmX12 6 (by decide) (by decide +kernel) rfl (by decide +kernel) rfl rfl (Nat.le_of_ble_eq_true rfl) (by rw [ex1]; exact me_put rfl rfl rfl) dX12_winter_2 ?_
  refine z_aload_n O dX12_winter_5 0 rfl ?_
  refine z_getf O hK.1 (hX _) (by decide) me_0 rfl i12 0 (by decide) (by decide +kernel) rfl dX12_winter_6 ?_
  refine z_bipush (v := 99) O dX12_winter_9 rfl ?_
  refine z_icmp_ne O 17 dX12_winter_11 (by decide) (fun c3 => ?_) (fun c3 => ?_)
  · replace h := h.1 c3
    refine z_aload_n O dX12_winter_17 0 rfl ?_
    refine z_dup O dX12_winter_18 rfl ?_
    refine z_getf O hK.1 (hX _) (by decide) me_0 rfl i12 0 (by decide) (by decide +kernel) rfl dX12_winter_19 ?_
    refine z_iconst (v := 1) O dX12_winter_22 rfl ?_
    refine z_iadd O dX12_winter_23 ?_
    obtain ⟨x2, ex2⟩ : ∃ z, z = mI x1 0 ((x1.1 0) + 1) := ⟨_, rfl⟩
    replace h := h x2 ex2
    refine z_putf (x' := x2) (ty := .int) O hK.1 (hX _) hB hI hA (by decide) me_0 rfl i12 tyX12 tyX12_ok nmX12 0 (by decide) (by decide +kernel) rfl (by decide +kernel) rfl rfl (Nat.le_of_ble_eq_true rfl) (by rw [ex2]; exact me_put rfl rfl rfl) dX12_winter_24 ?_
    refine z_aload_n O dX12_winter_27 0 rfl ?_
    refine z_getf O hK.1 (hX _) (by decide) me_0 rfl i12 0 (by decide) (by decide +kernel) rfl dX12_winter_28 ?_
    exact z_retWR O hE (Nat.le_of_ble_eq_true rfl) (Nat.le_of_ble_eq_true rfl) rfl dX12_winter_31 h
  · replace h := h.2 c3
    refine z_bipush (v := -2) O dX12_winter_14 rfl ?_
    exact z_retWR O hE (Nat.le_of_ble_eq_true rfl) (Nat.le_of_ble_eq_true rfl) rfl dX12_winter_16 h
def wp_X12_depthOf (x : MS)  (p1 : Int32) (p2 : Int32) (Q : Int32 → Prop) : Prop :=
 (∃ (I7 : Int32 → Int32 → Prop) (U7 : Int32 → Int32 → Nat), I7 0 (p2 + 1) ∧ ∀ (y1 : Int32) (y2 : Int32), I7 y1 y2 →
 (vp_in p1 6 ∧
 (((x.2.1 1 (Int32.toNatClampNeg p1)) ≤ y2 →
 Q y1) ∧ (¬ (x.2.1 1 (Int32.toNatClampNeg p1)) ≤ y2 →
 (vp_in ((8 * p1) + y2) 48 ∧
 (I7 (y1 + (x.2.1 5 (Int32.toNatClampNeg ((8 * p1) + y2)))) (y2 + 1) ∧ U7 (y1 + (x.2.1 5 (Int32.toNatClampNeg ((8 * p1) + y2)))) (y2 + 1) < U7 y1 y2))))))
set_option maxHeartbeats 4000000 in
set_option maxRecDepth 100000 in
theorem t_X12_depthOf {l : Launch} {D : va_G} {cs : Nat → ClassId} {ad : Nat → Nat} (x : MS)  (p1 : Int32) (p2 : Int32) (Q : Int32 → Prop) (h : wp_X12_depthOf x  p1 p2 Q) : zMR l yX12_depthOf wsX12_depthOf ({ frames := 0, cells := 0, slots := 0, locals := 0 } : Room) (gK D cs) (MH D cs ad) x [.ref (ad 0), .int p1, .int p2] Q := by
  refine zMR_of (cc := cX12_depthOf) (nL := 5) (ret := (some .int)) (by decide +kernel) rfl (Nat.le_of_ble_eq_true rfl) (fun C hl O hE hK hH => ?_)
  subst hl
  have hX : ∀ (x : MS) (H : Heap), z0 (MH D cs ad) C.s.heap x H → va_P D vwCl (wl 18 ad (ME cs ad x)) H := fun _ _ h => h.2
  have i12 : ∀ w ∈ wsX120, w ∈ wsX12_depthOf := by decide +kernel
  refine z_sub (lv' := [(0, .ref (ad 0)), (1, .int p1), (2, .int p2)]) [0, 1, 2] rfl ?_
  refine z_iconst (v := 0) O dX12_depthOf_0 rfl ?_
  refine z_istore_n (lv' := [(3, .int 0), (0, .ref (ad 0)), (1, .int p1), (2, .int p2)]) O dX12_depthOf_1 (by decide) rfl ?_
  refine z_iload_n O dX12_depthOf_2 3 rfl ?_
  refine z_iconst (v := 1) O dX12_depthOf_3 rfl ?_
  refine z_iadd O dX12_depthOf_4 ?_
  refine z_istore (lv' := [(4, .int (p2 + 1)), (3, .int 0), (0, .ref (ad 0)), (1, .int p1), (2, .int p2)]) O dX12_depthOf_5 (by decide) rfl ?_
  obtain ⟨I7, U7, h0, hs⟩ := h
  have kI7 : ∀ (n : Nat) (y1 : Int32) (y2 : Int32), U7 y1 y2 < n → I7 y1 y2 → Z C (fun _ => False) (z0 (MH D cs ad) C.s.heap) 5 x [(0, .ref (ad 0)), (1, .int p1), (3, .int y1), (4, .int y2)] 0 0 7 [] := by
    intro n
    induction n with
    | zero => intro y1 y2 uI7; exact absurd uI7 (Nat.not_lt_zero _)
    | succ n iI7 =>
      intro y1 y2 uI7 h
      have h := hs y1 y2 h
      refine z_iload O dX12_depthOf_7 3 rfl ?_
      refine z_aload_n O dX12_depthOf_9 0 rfl ?_
      refine z_getf O hK.1 (hX _) (by decide) me_0 rfl i12 1 (by decide) (by decide +kernel) rfl dX12_depthOf_10 ?_
      refine z_iload_n O dX12_depthOf_13 1 rfl ?_
      refine z_iald O hK.1 (hX _) 0 (mk_lt mk_1) (me_A mk_1) rfl (show vp_in p1 (mlen 1) from h.1) dX12_depthOf_14 ?_
      replace h := h.2
      refine z_icmp_ge O 39 dX12_depthOf_15 (by decide) (fun c3 => ?_) (fun c3 => ?_)
      · replace h := h.1 c3
        refine z_iload_n O dX12_depthOf_39 2 rfl ?_
        exact z_retR O hE (fun _ h => h.1) rfl dX12_depthOf_40 h
      · replace h := h.2 c3
        refine z_iload_n O dX12_depthOf_18 2 rfl ?_
        refine z_aload_n O dX12_depthOf_19 0 rfl ?_
        refine z_getf O hK.1 (hX _) (by decide) me_0 rfl i12 5 (by decide) (by decide +kernel) rfl dX12_depthOf_20 ?_
        refine z_bipush (v := 8) O dX12_depthOf_23 rfl ?_
        refine z_iload_n O dX12_depthOf_25 1 rfl ?_
        refine z_imul O dX12_depthOf_26 ?_
        refine z_iload O dX12_depthOf_27 3 rfl ?_
        refine z_iadd O dX12_depthOf_29 ?_
        refine z_iald O hK.1 (hX _) 0 (mk_lt mk_5) (me_A mk_5) rfl (show vp_in ((8 * p1) + y2) (mlen 5) from h.1) dX12_depthOf_30 ?_
        replace h := h.2
        refine z_iadd O dX12_depthOf_31 ?_
        refine z_istore_n (lv' := [(3, .int (y1 + (x.2.1 5 (Int32.toNatClampNeg ((8 * p1) + y2))))), (0, .ref (ad 0)), (1, .int p1), (4, .int y2)]) O dX12_depthOf_32 (by decide) rfl ?_
        refine z_iinc (lv' := [(4, .int (y2 + 1)), (3, .int (y1 + (x.2.1 5 (Int32.toNatClampNeg ((8 * p1) + y2))))), (0, .ref (ad 0)), (1, .int p1)]) O dX12_depthOf_33 3 rfl rfl (by decide) rfl ?_
        refine z_goto O 7 dX12_depthOf_36 (by decide) ?_
        exact z_sub [2, 3, 1, 0] rfl (iI7 (y1 + (x.2.1 5 (Int32.toNatClampNeg ((8 * p1) + y2)))) (y2 + 1) (Nat.lt_of_lt_of_le h.2 (Nat.le_of_lt_succ uI7)) h.1)
  exact z_sub [2, 3, 1, 0] rfl (kI7 _ 0 (p2 + 1) (Nat.lt_succ_self _) h0)
def wp_X12_isRead (x : MS)  (p1 : Int32) (p2 : Int32) (Q : Int32 → Prop) : Prop :=
 wp_X12_depthOf x p1 p2 (fun r1 : Int32 =>
 (vp_in ((8 * p1) + p2) 48 ∧
 (vp_in ((8 * p1) + p2) 48 ∧
 wp_X12_lightOf (x.2.1 2 (Int32.toNatClampNeg ((8 * p1) + p2))) (x.2.1 3 (Int32.toNatClampNeg ((8 * p1) + p2))) (fun r2 : Int32 =>
 ((r2 < r1 →
 Q 0) ∧ (¬ r2 < r1 →
 Q 1))))))
set_option maxHeartbeats 4000000 in
set_option maxRecDepth 100000 in
theorem t_X12_isRead {l : Launch} {D : va_G} {cs : Nat → ClassId} {ad : Nat → Nat} (x : MS)  (p1 : Int32) (p2 : Int32) (Q : Int32 → Prop) (h : wp_X12_isRead x  p1 p2 Q) : zMR l yX12_isRead wsX12_isRead ({ frames := 1, cells := 0, slots := 0, locals := 24 } : Room) (gK D cs) (MH D cs ad) x [.ref (ad 0), .int p1, .int p2] Q := by
  refine zMR_of (cc := cX12_isRead) (nL := 4) (ret := (some .boolean)) (by decide +kernel) rfl (Nat.le_of_ble_eq_true rfl) (fun C hl O hE hK hH => ?_)
  subst hl
  have hX : ∀ (x : MS) (H : Heap), z0 (MH D cs ad) C.s.heap x H → va_P D vwCl (wl 18 ad (ME cs ad x)) H := fun _ _ h => h.2
  have i12 : ∀ w ∈ wsX120, w ∈ wsX12_isRead := by decide +kernel
  refine z_sub (lv' := [(0, .ref (ad 0)), (1, .int p1), (2, .int p2)]) [0, 1, 2] rfl ?_
  refine z_bipush (v := 8) O dX12_isRead_0 rfl ?_
  refine z_iload_n O dX12_isRead_2 1 rfl ?_
  refine z_imul O dX12_isRead_3 ?_
  refine z_iload_n O dX12_isRead_4 2 rfl ?_
  refine z_iadd O dX12_isRead_5 ?_
  refine z_istore_n (lv' := [(3, .int ((8 * p1) + p2)), (0, .ref (ad 0)), (1, .int p1), (2, .int p2)]) O dX12_isRead_6 (by decide) rfl ?_
  refine z_aload_n O dX12_isRead_7 1 rfl ?_
  refine z_iload_n O dX12_isRead_8 2 rfl ?_
  refine z_iload_n O dX12_isRead_9 3 rfl ?_
  refine z_callR (gKs D cs) hK (fun _ h => h.2) (t_X12_depthOf x  p1 p2 _ h) (zr_V (As := [.int p1, .int p2]) (rest := []) O hE.1 2 gX12_isRead_X12_depthOf rfl rfl rfl (by decide +kernel) ⟨(Nat.le_of_ble_eq_true rfl), (Nat.le_of_ble_eq_true rfl)⟩ ⟨(Nat.le_of_ble_eq_true rfl), (Nat.le_of_ble_eq_true rfl)⟩ (fun H hH => z_recv hK.1 (hX _ H hH) (by decide) me_0 rfl) rfl rfl (Nat.le_of_ble_eq_true rfl) dX12_isRead_10) (fun r1 h => ?_)
  refine z_aload_n O dX12_isRead_13 1 rfl ?_
  refine z_getf O hK.1 (hX _) (by decide) me_0 rfl i12 2 (by decide) (by decide +kernel) rfl dX12_isRead_14 ?_
  refine z_iload_n O dX12_isRead_17 0 rfl ?_
  refine z_iald O hK.1 (hX _) 0 (mk_lt mk_2) (me_A mk_2) rfl (show vp_in ((8 * p1) + p2) (mlen 2) from h.1) dX12_isRead_18 ?_
  replace h := h.2
  refine z_aload_n O dX12_isRead_19 1 rfl ?_
  refine z_getf O hK.1 (hX _) (by decide) me_0 rfl i12 3 (by decide) (by decide +kernel) rfl dX12_isRead_20 ?_
  refine z_iload_n O dX12_isRead_23 0 rfl ?_
  refine z_iald O hK.1 (hX _) 0 (mk_lt mk_3) (me_A mk_3) rfl (show vp_in ((8 * p1) + p2) (mlen 3) from h.1) dX12_isRead_24 ?_
  replace h := h.2
  refine z_callR (gKs D cs) hK (fun _ h => h.2) (t_X12_lightOf (gKs D cs) (x.2.1 2 (Int32.toNatClampNeg ((8 * p1) + p2))) (x.2.1 3 (Int32.toNatClampNeg ((8 * p1) + p2))) _ h) (zr_SS (As := [.int (x.2.1 2 (Int32.toNatClampNeg ((8 * p1) + p2))), .int (x.2.1 3 (Int32.toNatClampNeg ((8 * p1) + p2)))]) (rest := [.int r1]) O hE.1 2 gX12_isRead_X12_lightOf rfl rfl rfl (by decide +kernel) ⟨(Nat.le_of_ble_eq_true rfl), (Nat.le_of_ble_eq_true rfl)⟩ ⟨(Nat.le_of_ble_eq_true rfl), (Nat.le_of_ble_eq_true rfl)⟩ rfl rfl (Nat.le_of_ble_eq_true rfl) dX12_isRead_25) (fun r2 h => ?_)
  refine z_icmp_gt O 35 dX12_isRead_28 (by decide) (fun c3 => ?_) (fun c3 => ?_)
  · replace h := h.1 c3
    refine z_iconst (v := 0) O dX12_isRead_35 rfl ?_
    exact z_retR O hE (fun _ h => h.1) rfl dX12_isRead_36 h
  · replace h := h.2 c3
    refine z_iconst (v := 1) O dX12_isRead_31 rfl ?_
    refine z_goto O 36 dX12_isRead_32 (by decide) ?_
    exact z_retR O hE (fun _ h => h.1) rfl dX12_isRead_36 h
def wp_X12_isLayer (x : MS)  (p1 : Int32) (p2 : Int32) (Q : Int32 → Prop) : Prop :=
 wp_X12_isCell p1 (fun r1 : Int32 =>
 ((r1 = 0 →
 Q 0) ∧ (¬ r1 = 0 →
 wp_X12_isCell p1 (fun r2 : Int32 =>
 ((r2 = 0 →
 (vp_in 0 6 ∧
 wp_X12_in (Int32.toInt64 p2) 0 ((Int32.toInt64 ((x.2.1 1 (Int32.toNatClampNeg 0)) - 1))) (fun r3 : Int32 =>
 ((r3 = 0 →
 Q 0) ∧ (¬ r3 = 0 →
 Q 1))))) ∧ (¬ r2 = 0 →
 (vp_in p1 6 ∧
 wp_X12_in (Int32.toInt64 p2) 0 ((Int32.toInt64 ((x.2.1 1 (Int32.toNatClampNeg p1)) - 1))) (fun r5 : Int32 =>
 ((r5 = 0 →
 Q 0) ∧ (¬ r5 = 0 →
 Q 1))))))))))
set_option maxHeartbeats 4000000 in
set_option maxRecDepth 100000 in
theorem t_X12_isLayer {l : Launch} {D : va_G} {cs : Nat → ClassId} {ad : Nat → Nat} (x : MS)  (p1 : Int32) (p2 : Int32) (Q : Int32 → Prop) (h : wp_X12_isLayer x  p1 p2 Q) : zMR l yX12_isLayer wsX12_isLayer ({ frames := 2, cells := 0, slots := 0, locals := 45 } : Room) (gK D cs) (MH D cs ad) x [.ref (ad 0), .int p1, .int p2] Q := by
  refine zMR_of (cc := cX12_isLayer) (nL := 3) (ret := (some .boolean)) (by decide +kernel) rfl (Nat.le_of_ble_eq_true rfl) (fun C hl O hE hK hH => ?_)
  subst hl
  have hX : ∀ (x : MS) (H : Heap), z0 (MH D cs ad) C.s.heap x H → va_P D vwCl (wl 18 ad (ME cs ad x)) H := fun _ _ h => h.2
  have i12 : ∀ w ∈ wsX120, w ∈ wsX12_isLayer := by decide +kernel
  refine z_sub (lv' := [(0, .ref (ad 0)), (1, .int p1), (2, .int p2)]) [0, 1, 2] rfl ?_
  refine z_iload_n O dX12_isLayer_0 1 rfl ?_
  refine z_callR (gKs D cs) hK (fun _ h => h.2) (t_X12_isCell (gKs D cs) p1 _ h) (zr_SS (As := [.int p1]) (rest := []) O hE.1 1 gX12_isLayer_X12_isCell rfl rfl rfl (by decide +kernel) ⟨(Nat.le_of_ble_eq_true rfl), (Nat.le_of_ble_eq_true rfl)⟩ ⟨(Nat.le_of_ble_eq_true rfl), (Nat.le_of_ble_eq_true rfl)⟩ rfl rfl (Nat.le_of_ble_eq_true rfl) dX12_isLayer_1) (fun r1 h => ?_)
  refine z_if_eq O 40 dX12_isLayer_4 (by decide) (fun c8 => ?_) (fun c8 => ?_)
  · replace h := h.1 c8
    refine z_iconst (v := 0) O dX12_isLayer_40 rfl ?_
    exact z_retR O hE (fun _ h => h.1) rfl dX12_isLayer_41 h
  · replace h := h.2 c8
    refine z_iload_n O dX12_isLayer_7 2 rfl ?_
    refine z_i2l O dX12_isLayer_8 ?_
    refine z_lconst (v := 0) O dX12_isLayer_9 rfl ?_
    refine z_aload_n O dX12_isLayer_10 0 rfl ?_
    refine z_getf O hK.1 (hX _) (by decide) me_0 rfl i12 1 (by decide) (by decide +kernel) rfl dX12_isLayer_11 ?_
    refine z_iload_n O dX12_isLayer_14 1 rfl ?_
    refine z_callR (gKs D cs) hK (fun _ h => h.2) (t_X12_isCell (gKs D cs) p1 _ h) (zr_SS (As := [.int p1]) (rest := [.ref (ad 1), .long 0, .long (Int32.toInt64 p2)]) O hE.1 1 gX12_isLayer_X12_isCell rfl rfl rfl (by decide +kernel) ⟨(Nat.le_of_ble_eq_true rfl), (Nat.le_of_ble_eq_true rfl)⟩ ⟨(Nat.le_of_ble_eq_true rfl), (Nat.le_of_ble_eq_true rfl)⟩ rfl rfl (Nat.le_of_ble_eq_true rfl) dX12_isLayer_15) (fun r2 h => ?_)
    refine z_if_eq O 25 dX12_isLayer_18 (by decide) (fun c7 => ?_) (fun c7 => ?_)
    · replace h := h.1 c7
      refine z_iconst (v := 0) O dX12_isLayer_25 rfl ?_
      refine z_iald O hK.1 (hX _) 0 (mk_lt mk_1) (me_A mk_1) rfl (show vp_in 0 (mlen 1) from h.1) dX12_isLayer_26 ?_
      replace h := h.2
      refine z_iconst (v := 1) O dX12_isLayer_27 rfl ?_
      refine z_isub O dX12_isLayer_28 ?_
      refine z_i2l O dX12_isLayer_29 ?_
      refine z_callR (gKs D cs) hK (fun _ h => h.2) (t_X12_in (gKs D cs) (Int32.toInt64 p2) 0 ((Int32.toInt64 ((x.2.1 1 (Int32.toNatClampNeg 0)) - 1))) _ h) (zr_SS (As := [.long (Int32.toInt64 p2), .long 0, .long ((Int32.toInt64 ((x.2.1 1 (Int32.toNatClampNeg 0)) - 1)))]) (rest := []) O hE.1 3 gX12_isLayer_X12_in rfl rfl rfl (by decide +kernel) ⟨(Nat.le_of_ble_eq_true rfl), (Nat.le_of_ble_eq_true rfl)⟩ ⟨(Nat.le_of_ble_eq_true rfl), (Nat.le_of_ble_eq_true rfl)⟩ rfl rfl (Nat.le_of_ble_eq_true rfl) dX12_isLayer_30) (fun r3 h => ?_)
      refine z_if_eq O 40 dX12_isLayer_33 (by decide) (fun c4 => ?_) (fun c4 => ?_)
      · replace h := h.1 c4
        refine z_iconst (v := 0) O dX12_isLayer_40 rfl ?_
        exact z_retR O hE (fun _ h => h.1) rfl dX12_isLayer_41 h
      · replace h := h.2 c4
        refine z_iconst (v := 1) O dX12_isLayer_36 rfl ?_
        refine z_goto O 41 dX12_isLayer_37 (by decide) ?_
        exact z_retR O hE (fun _ h => h.1) rfl dX12_isLayer_41 h
    · replace h := h.2 c7
      refine z_iload_n O dX12_isLayer_21 1 rfl ?_
      refine z_goto O 26 dX12_isLayer_22 (by decide) ?_
      refine z_iald O hK.1 (hX _) 0 (mk_lt mk_1) (me_A mk_1) rfl (show vp_in p1 (mlen 1) from h.1) dX12_isLayer_26 ?_
      replace h := h.2
      refine z_iconst (v := 1) O dX12_isLayer_27 rfl ?_
      refine z_isub O dX12_isLayer_28 ?_
      refine z_i2l O dX12_isLayer_29 ?_
      refine z_callR (gKs D cs) hK (fun _ h => h.2) (t_X12_in (gKs D cs) (Int32.toInt64 p2) 0 ((Int32.toInt64 ((x.2.1 1 (Int32.toNatClampNeg p1)) - 1))) _ h) (zr_SS (As := [.long (Int32.toInt64 p2), .long 0, .long ((Int32.toInt64 ((x.2.1 1 (Int32.toNatClampNeg p1)) - 1)))]) (rest := []) O hE.1 3 gX12_isLayer_X12_in rfl rfl rfl (by decide +kernel) ⟨(Nat.le_of_ble_eq_true rfl), (Nat.le_of_ble_eq_true rfl)⟩ ⟨(Nat.le_of_ble_eq_true rfl), (Nat.le_of_ble_eq_true rfl)⟩ rfl rfl (Nat.le_of_ble_eq_true rfl) dX12_isLayer_30) (fun r5 h => ?_)
      refine z_if_eq O 40 dX12_isLayer_33 (by decide) (fun c6 => ?_) (fun c6 => ?_)
      · replace h := h.1 c6
        refine z_iconst (v := 0) O dX12_isLayer_40 rfl ?_
        exact z_retR O hE (fun _ h => h.1) rfl dX12_isLayer_41 h
      · replace h := h.2 c6
        refine z_iconst (v := 1) O dX12_isLayer_36 rfl ?_
        refine z_goto O 41 dX12_isLayer_37 (by decide) ?_
        exact z_retR O hE (fun _ h => h.1) rfl dX12_isLayer_41 h
def wp_X12_layer (x : MS)  (p1 : Int32) (p2 : Int32) (p3 : Int32) (Q : Int32 → MS → Prop) : Prop :=
 (∀ x1 : MS, x1 = mI x 6 0 →
 wp_X12_isLayer x1 p1 p2 (fun r2 : Int32 =>
 ((r2 = 0 →
 Q (-1) x1) ∧ (¬ r2 = 0 →
 wp_X12_in (Int32.toInt64 p3) 0 5 (fun r3 : Int32 =>
 ((¬ r3 = 0 →
 ((p3 = 0 →
 (vp_in ((8 * p1) + p2) 48 ∧
 Q (x1.2.1 2 (Int32.toNatClampNeg ((8 * p1) + p2))) x1)) ∧ (¬ p3 = 0 →
 ((p3 = 1 →
 (vp_in ((8 * p1) + p2) 48 ∧
 Q (x1.2.1 3 (Int32.toNatClampNeg ((8 * p1) + p2))) x1)) ∧ (¬ p3 = 1 →
 ((p3 = 2 →
 (vp_in ((8 * p1) + p2) 48 ∧
 Q (x1.2.1 4 (Int32.toNatClampNeg ((8 * p1) + p2))) x1)) ∧ (¬ p3 = 2 →
 ((p3 = 3 →
 (vp_in ((8 * p1) + p2) 48 ∧
 Q (x1.2.1 5 (Int32.toNatClampNeg ((8 * p1) + p2))) x1)) ∧ (¬ p3 = 3 →
 ((p3 = 4 →
 wp_X12_depthOf x1 p1 p2 (fun r9 : Int32 =>
 Q r9 x1)) ∧ (¬ p3 = 4 →
 wp_X12_isRead x1 p1 p2 (fun r10 : Int32 =>
 ((r10 = 0 →
 Q 0 x1) ∧ (¬ r10 = 0 →
 Q 1 x1)))))))))))))) ∧ (r3 = 0 →
 Q (-1) x1)))))))
set_option maxHeartbeats 4000000 in
set_option maxRecDepth 100000 in
theorem t_X12_layer {l : Launch} {D : va_G} {cs : Nat → ClassId} {ad : Nat → Nat} (hI : wInj 18 ad) (x : MS)  (p1 : Int32) (p2 : Int32) (p3 : Int32) (Q : Int32 → MS → Prop) (h : wp_X12_layer x  p1 p2 p3 Q) : zWR l yX12_layer wsX12_layer ({ frames := 3, cells := 0, slots := 0, locals := 67 } : Room) (gK D cs) (MH D cs ad) (wB 18 ad) x [.ref (ad 0), .int p1, .int p2, .int p3] 0 0 Q := by
  refine zWR_of (cc := cX12_layer) (nL := 5) (ret := (some .int)) (by decide +kernel) rfl (Nat.le_of_ble_eq_true rfl) (fun C hl O hE hK => ?_)
  subst hl
  have hX : ∀ (x : MS) (H : Heap), MH D cs ad x H → va_P D vwCl (wl 18 ad (ME cs ad x)) H := fun _ _ h => h
  have hB : ∀ {x : MS} (H : Heap), va_P D vwCl (wl 18 ad (ME cs ad x)) H → MH D cs ad x H := fun _ h => h
  have hA : ∀ q, wB 18 ad q → zA (wB 18 ad) C.s.heap.size q := fun _ h => Or.inl h
  have i12 : ∀ w ∈ wsX120, w ∈ wsX12_layer := by decide +kernel
  refine z_sub (lv' := [(0, .ref (ad 0)), (1, .int p1), (2, .int p2), (3, .int p3)]) [0, 1, 2, 3] rfl ?_
  refine z_aload_n O dX12_layer_0 0 rfl ?_
  refine z_iconst (v := 0) O dX12_layer_1 rfl ?_
  obtain ⟨x1, ex1⟩ : ∃ z, z = mI x 6 0 := ⟨_, rfl⟩
  replace h := h x1 ex1
  refine z_putf (x' := x1) (ty := .int) O hK.1 (hX _) hB hI hA (by decide) me_0 rfl i12 tyX12 tyX12_ok nmX12 6 (by decide) (by decide +kernel) rfl (by decide +kernel) rfl rfl (Nat.le_of_ble_eq_true rfl) (by rw [ex1]; exact me_put rfl rfl rfl) dX12_layer_2 ?_
  refine z_aload_n O dX12_layer_5 0 rfl ?_
  refine z_iload_n O dX12_layer_6 1 rfl ?_
  refine z_iload_n O dX12_layer_7 2 rfl ?_
  refine z_callR (gKs D cs) hK (fun _ h => h) (t_X12_isLayer x1  p1 p2 _ h) (zr_V (As := [.int p1, .int p2]) (rest := []) O hE.1 2 gX12_layer_X12_isLayer rfl rfl rfl (by decide +kernel) ⟨(Nat.le_of_ble_eq_true rfl), (Nat.le_of_ble_eq_true rfl)⟩ ⟨(Nat.le_of_ble_eq_true rfl), (Nat.le_of_ble_eq_true rfl)⟩ (fun H hH => z_recv hK.1 (hX _ H hH) (by decide) me_0 rfl) rfl rfl (Nat.le_of_ble_eq_true rfl) dX12_layer_8) (fun r2 h => ?_)
  refine z_if_eq O 26 dX12_layer_11 (by decide) (fun c13 => ?_) (fun c13 => ?_)
  · replace h := h.1 c13
    refine z_iconst (v := -1) O dX12_layer_26 rfl ?_
    exact z_retWR O hE (Nat.le_of_ble_eq_true rfl) (Nat.le_of_ble_eq_true rfl) rfl dX12_layer_27 h
  · replace h := h.2 c13
    refine z_iload_n O dX12_layer_14 3 rfl ?_
    refine z_i2l O dX12_layer_15 ?_
    refine z_lconst (v := 0) O dX12_layer_16 rfl ?_
    refine z_ldc2 (v := 5) O (by decide +kernel) dX12_layer_17 ?_
    refine z_callR (gKs D cs) hK (fun _ h => h) (t_X12_in (gKs D cs) (Int32.toInt64 p3) 0 5 _ h) (zr_SS (As := [.long (Int32.toInt64 p3), .long 0, .long 5]) (rest := []) O hE.1 3 gX12_layer_X12_in rfl rfl rfl (by decide +kernel) ⟨(Nat.le_of_ble_eq_true rfl), (Nat.le_of_ble_eq_true rfl)⟩ ⟨(Nat.le_of_ble_eq_true rfl), (Nat.le_of_ble_eq_true rfl)⟩ rfl rfl (Nat.le_of_ble_eq_true rfl) dX12_layer_20) (fun r3 h => ?_)
    refine z_if_ne O 28 dX12_layer_23 (by decide) (fun c12 => ?_) (fun c12 => ?_)
    · replace h := h.1 c12
      refine z_bipush (v := 8) O dX12_layer_28 rfl ?_
      refine z_iload_n O dX12_layer_30 1 rfl ?_
      refine z_imul O dX12_layer_31 ?_
      refine z_iload_n O dX12_layer_32 2 rfl ?_
      refine z_iadd O dX12_layer_33 ?_
      refine z_istore (lv' := [(4, .int ((8 * p1) + p2)), (0, .ref (ad 0)), (1, .int p1), (2, .int p2), (3, .int p3)]) O dX12_layer_34 (by decide) rfl ?_
      refine z_iload_n O dX12_layer_36 4 rfl ?_
      by_cases c4 : p3 = 0
      · replace h := h.1 c4
        refine z_tableIn (v := 0) (off := 35) O 72 dX12_layer_37 c4 (by decide) (by decide) (by decide) (by decide) ?_
        refine z_aload_n O dX12_layer_72 1 rfl ?_
        refine z_getf O hK.1 (hX _) (by decide) me_0 rfl i12 2 (by decide) (by decide +kernel) rfl dX12_layer_73 ?_
        refine z_iload O dX12_layer_76 0 rfl ?_
        refine z_iald O hK.1 (hX _) 0 (mk_lt mk_2) (me_A mk_2) rfl (show vp_in ((8 * p1) + p2) (mlen 2) from h.1) dX12_layer_78 ?_
        replace h := h.2
        exact z_retWR O hE (Nat.le_of_ble_eq_true rfl) (Nat.le_of_ble_eq_true rfl) rfl dX12_layer_79 h
      replace h := h.2 c4
      by_cases c5 : p3 = 1
      · replace h := h.1 c5
        refine z_tableIn (v := 1) (off := 43) O 80 dX12_layer_37 c5 (by decide) (by decide) (by decide) (by decide) ?_
        refine z_aload_n O dX12_layer_80 1 rfl ?_
        refine z_getf O hK.1 (hX _) (by decide) me_0 rfl i12 3 (by decide) (by decide +kernel) rfl dX12_layer_81 ?_
        refine z_iload O dX12_layer_84 0 rfl ?_
        refine z_iald O hK.1 (hX _) 0 (mk_lt mk_3) (me_A mk_3) rfl (show vp_in ((8 * p1) + p2) (mlen 3) from h.1) dX12_layer_86 ?_
        replace h := h.2
        exact z_retWR O hE (Nat.le_of_ble_eq_true rfl) (Nat.le_of_ble_eq_true rfl) rfl dX12_layer_87 h
      replace h := h.2 c5
      by_cases c6 : p3 = 2
      · replace h := h.1 c6
        refine z_tableIn (v := 2) (off := 51) O 88 dX12_layer_37 c6 (by decide) (by decide) (by decide) (by decide) ?_
        refine z_aload_n O dX12_layer_88 1 rfl ?_
        refine z_getf O hK.1 (hX _) (by decide) me_0 rfl i12 4 (by decide) (by decide +kernel) rfl dX12_layer_89 ?_
        refine z_iload O dX12_layer_92 0 rfl ?_
        refine z_iald O hK.1 (hX _) 0 (mk_lt mk_4) (me_A mk_4) rfl (show vp_in ((8 * p1) + p2) (mlen 4) from h.1) dX12_layer_94 ?_
        replace h := h.2
        exact z_retWR O hE (Nat.le_of_ble_eq_true rfl) (Nat.le_of_ble_eq_true rfl) rfl dX12_layer_95 h
      replace h := h.2 c6
      by_cases c7 : p3 = 3
      · replace h := h.1 c7
        refine z_tableIn (v := 3) (off := 59) O 96 dX12_layer_37 c7 (by decide) (by decide) (by decide) (by decide) ?_
        refine z_aload_n O dX12_layer_96 1 rfl ?_
        refine z_getf O hK.1 (hX _) (by decide) me_0 rfl i12 5 (by decide) (by decide +kernel) rfl dX12_layer_97 ?_
        refine z_iload O dX12_layer_100 0 rfl ?_
        refine z_iald O hK.1 (hX _) 0 (mk_lt mk_5) (me_A mk_5) rfl (show vp_in ((8 * p1) + p2) (mlen 5) from h.1) dX12_layer_102 ?_
        replace h := h.2
        exact z_retWR O hE (Nat.le_of_ble_eq_true rfl) (Nat.le_of_ble_eq_true rfl) rfl dX12_layer_103 h
      replace h := h.2 c7
      by_cases c8 : p3 = 4
      · replace h := h.1 c8
        refine z_tableIn (v := 4) (off := 67) O 104 dX12_layer_37 c8 (by decide) (by decide) (by decide) (by decide) ?_
        refine z_aload_n O dX12_layer_104 1 rfl ?_
        refine z_iload_n O dX12_layer_105 2 rfl ?_
        refine z_iload_n O dX12_layer_106 3 rfl ?_
        refine z_callR (gKs D cs) hK (fun _ h => h) (t_X12_depthOf x1  p1 p2 _ h) (zr_V (As := [.int p1, .int p2]) (rest := []) O hE.1 2 gX12_layer_X12_depthOf rfl rfl rfl (by decide +kernel) ⟨(Nat.le_of_ble_eq_true rfl), (Nat.le_of_ble_eq_true rfl)⟩ ⟨(Nat.le_of_ble_eq_true rfl), (Nat.le_of_ble_eq_true rfl)⟩ (fun H hH => z_recv hK.1 (hX _ H hH) (by decide) me_0 rfl) rfl rfl (Nat.le_of_ble_eq_true rfl) dX12_layer_107) (fun r9 h => ?_)
        exact z_retWR O hE (Nat.le_of_ble_eq_true rfl) (Nat.le_of_ble_eq_true rfl) rfl dX12_layer_110 h
      replace h := h.2 c8
      refine z_tableOut O 111 dX12_layer_37 (by have gc4 := lv_neT (a := 0) c4 (by decide); have gc5 := lv_neT (a := 1) c5 (by decide); have gc6 := lv_neT (a := 2) c6 (by decide); have gc7 := lv_neT (a := 3) c7 (by decide); have gc8 := lv_neT (a := 4) c8 (by decide); omega) (by decide) ?_
      refine z_aload_n O dX12_layer_111 1 rfl ?_
      refine z_iload_n O dX12_layer_112 2 rfl ?_
      refine z_iload_n O dX12_layer_113 3 rfl ?_
      refine z_callR (gKs D cs) hK (fun _ h => h) (t_X12_isRead x1  p1 p2 _ h) (zr_V (As := [.int p1, .int p2]) (rest := []) O hE.1 2 gX12_layer_X12_isRead rfl rfl rfl (by decide +kernel) ⟨(Nat.le_of_ble_eq_true rfl), (Nat.le_of_ble_eq_true rfl)⟩ ⟨(Nat.le_of_ble_eq_true rfl), (Nat.le_of_ble_eq_true rfl)⟩ (fun H hH => z_recv hK.1 (hX _ H hH) (by decide) me_0 rfl) rfl rfl (Nat.le_of_ble_eq_true rfl) dX12_layer_114) (fun r10 h => ?_)
      refine z_if_eq O 124 dX12_layer_117 (by decide) (fun c11 => ?_) (fun c11 => ?_)
      · replace h := h.1 c11
        refine z_iconst (v := 0) O dX12_layer_124 rfl ?_
        exact z_retWR O hE (Nat.le_of_ble_eq_true rfl) (Nat.le_of_ble_eq_true rfl) rfl dX12_layer_125 h
      · replace h := h.2 c11
        refine z_iconst (v := 1) O dX12_layer_120 rfl ?_
        refine z_goto O 125 dX12_layer_121 (by decide) ?_
        exact z_retWR O hE (Nat.le_of_ble_eq_true rfl) (Nat.le_of_ble_eq_true rfl) rfl dX12_layer_125 h
    · replace h := h.2 c12
      refine z_iconst (v := -1) O dX12_layer_26 rfl ?_
      exact z_retWR O hE (Nat.le_of_ble_eq_true rfl) (Nat.le_of_ble_eq_true rfl) rfl dX12_layer_27 h
def wp_X12_cell (x : MS)  (p1 : Int32) (p2 : Int32) (Q : Int32 → MS → Prop) : Prop :=
 (∀ x1 : MS, x1 = mI x 6 0 →
 wp_X12_isCell p1 (fun r2 : Int32 =>
 ((r2 = 0 →
 Q (-1) x1) ∧ (¬ r2 = 0 →
 wp_X12_in (Int32.toInt64 p2) 0 1 (fun r3 : Int32 =>
 ((¬ r3 = 0 →
 ((¬ p2 = 0 →
 wp_X12_iceOf x1 p1 (fun r4 : Int32 =>
 Q r4 x1)) ∧ (p2 = 0 →
 (vp_in p1 6 ∧
 Q (x1.2.1 1 (Int32.toNatClampNeg p1)) x1)))) ∧ (r3 = 0 →
 Q (-1) x1)))))))
set_option maxHeartbeats 4000000 in
set_option maxRecDepth 100000 in
theorem t_X12_cell {l : Launch} {D : va_G} {cs : Nat → ClassId} {ad : Nat → Nat} (hI : wInj 18 ad) (x : MS)  (p1 : Int32) (p2 : Int32) (Q : Int32 → MS → Prop) (h : wp_X12_cell x  p1 p2 Q) : zWR l yX12_cell wsX12_cell ({ frames := 2, cells := 0, slots := 0, locals := 45 } : Room) (gK D cs) (MH D cs ad) (wB 18 ad) x [.ref (ad 0), .int p1, .int p2] 0 0 Q := by
  refine zWR_of (cc := cX12_cell) (nL := 3) (ret := (some .int)) (by decide +kernel) rfl (Nat.le_of_ble_eq_true rfl) (fun C hl O hE hK => ?_)
  subst hl
  have hX : ∀ (x : MS) (H : Heap), MH D cs ad x H → va_P D vwCl (wl 18 ad (ME cs ad x)) H := fun _ _ h => h
  have hB : ∀ {x : MS} (H : Heap), va_P D vwCl (wl 18 ad (ME cs ad x)) H → MH D cs ad x H := fun _ h => h
  have hA : ∀ q, wB 18 ad q → zA (wB 18 ad) C.s.heap.size q := fun _ h => Or.inl h
  have i12 : ∀ w ∈ wsX120, w ∈ wsX12_cell := by decide +kernel
  refine z_sub (lv' := [(0, .ref (ad 0)), (1, .int p1), (2, .int p2)]) [0, 1, 2] rfl ?_
  refine z_aload_n O dX12_cell_0 0 rfl ?_
  refine z_iconst (v := 0) O dX12_cell_1 rfl ?_
  obtain ⟨x1, ex1⟩ : ∃ z, z = mI x 6 0 := ⟨_, rfl⟩
  replace h := h x1 ex1
  refine z_putf (x' := x1) (ty := .int) O hK.1 (hX _) hB hI hA (by decide) me_0 rfl i12 tyX12 tyX12_ok nmX12 6 (by decide) (by decide +kernel) rfl (by decide +kernel) rfl rfl (Nat.le_of_ble_eq_true rfl) (by rw [ex1]; exact me_put rfl rfl rfl) dX12_cell_2 ?_
  refine z_iload_n O dX12_cell_5 1 rfl ?_
  refine z_callR (gKs D cs) hK (fun _ h => h) (t_X12_isCell (gKs D cs) p1 _ h) (zr_SS (As := [.int p1]) (rest := []) O hE.1 1 gX12_cell_X12_isCell rfl rfl rfl (by decide +kernel) ⟨(Nat.le_of_ble_eq_true rfl), (Nat.le_of_ble_eq_true rfl)⟩ ⟨(Nat.le_of_ble_eq_true rfl), (Nat.le_of_ble_eq_true rfl)⟩ rfl rfl (Nat.le_of_ble_eq_true rfl) dX12_cell_6) (fun r2 h => ?_)
  refine z_if_eq O 22 dX12_cell_9 (by decide) (fun c7 => ?_) (fun c7 => ?_)
  · replace h := h.1 c7
    refine z_iconst (v := -1) O dX12_cell_22 rfl ?_
    refine z_goto O 44 dX12_cell_23 (by decide) ?_
    exact z_retWR O hE (Nat.le_of_ble_eq_true rfl) (Nat.le_of_ble_eq_true rfl) rfl dX12_cell_44 h
  · replace h := h.2 c7
    refine z_iload_n O dX12_cell_12 2 rfl ?_
    refine z_i2l O dX12_cell_13 ?_
    refine z_lconst (v := 0) O dX12_cell_14 rfl ?_
    refine z_lconst (v := 1) O dX12_cell_15 rfl ?_
    refine z_callR (gKs D cs) hK (fun _ h => h) (t_X12_in (gKs D cs) (Int32.toInt64 p2) 0 1 _ h) (zr_SS (As := [.long (Int32.toInt64 p2), .long 0, .long 1]) (rest := []) O hE.1 3 gX12_cell_X12_in rfl rfl rfl (by decide +kernel) ⟨(Nat.le_of_ble_eq_true rfl), (Nat.le_of_ble_eq_true rfl)⟩ ⟨(Nat.le_of_ble_eq_true rfl), (Nat.le_of_ble_eq_true rfl)⟩ rfl rfl (Nat.le_of_ble_eq_true rfl) dX12_cell_16) (fun r3 h => ?_)
    refine z_if_ne O 26 dX12_cell_19 (by decide) (fun c6 => ?_) (fun c6 => ?_)
    · replace h := h.1 c6
      refine z_iload_n O dX12_cell_26 2 rfl ?_
      refine z_if_ne O 39 dX12_cell_27 (by decide) (fun c5 => ?_) (fun c5 => ?_)
      · replace h := h.1 c5
        refine z_aload_n O dX12_cell_39 0 rfl ?_
        refine z_iload_n O dX12_cell_40 1 rfl ?_
        refine z_callR (gKs D cs) hK (fun _ h => h) (t_X12_iceOf x1  p1 _ h) (zr_V (As := [.int p1]) (rest := []) O hE.1 1 gX12_cell_X12_iceOf rfl rfl rfl (by decide +kernel) ⟨(Nat.le_of_ble_eq_true rfl), (Nat.le_of_ble_eq_true rfl)⟩ ⟨(Nat.le_of_ble_eq_true rfl), (Nat.le_of_ble_eq_true rfl)⟩ (fun H hH => z_recv hK.1 (hX _ H hH) (by decide) me_0 rfl) rfl rfl (Nat.le_of_ble_eq_true rfl) dX12_cell_41) (fun r4 h => ?_)
        exact z_retWR O hE (Nat.le_of_ble_eq_true rfl) (Nat.le_of_ble_eq_true rfl) rfl dX12_cell_44 h
      · replace h := h.2 c5
        refine z_aload_n O dX12_cell_30 0 rfl ?_
        refine z_getf O hK.1 (hX _) (by decide) me_0 rfl i12 1 (by decide) (by decide +kernel) rfl dX12_cell_31 ?_
        refine z_iload_n O dX12_cell_34 1 rfl ?_
        refine z_iald O hK.1 (hX _) 0 (mk_lt mk_1) (me_A mk_1) rfl (show vp_in p1 (mlen 1) from h.1) dX12_cell_35 ?_
        replace h := h.2
        refine z_goto O 44 dX12_cell_36 (by decide) ?_
        exact z_retWR O hE (Nat.le_of_ble_eq_true rfl) (Nat.le_of_ble_eq_true rfl) rfl dX12_cell_44 h
    · replace h := h.2 c6
      refine z_iconst (v := -1) O dX12_cell_22 rfl ?_
      refine z_goto O 44 dX12_cell_23 (by decide) ?_
      exact z_retWR O hE (Nat.le_of_ble_eq_true rfl) (Nat.le_of_ble_eq_true rfl) rfl dX12_cell_44 h
def wp_X12_holds (x : MS)  (p1 : Int32) (Q : Int32 → MS → Prop) : Prop :=
 (∀ x1 : MS, x1 = mI x 6 0 →
 wp_X12_isCell p1 (fun r2 : Int32 =>
 ((¬ r2 = 0 →
 (vp_in p1 6 ∧
 (∃ (I23 : Int32 → Prop) (U23 : Int32 → Nat), I23 ((x1.2.1 1 (Int32.toNatClampNeg p1)) - 1) ∧ ∀ (y3 : Int32), I23 y3 →
 ((y3 < 0 →
 Q (-4) x1) ∧ (¬ y3 < 0 →
 wp_X12_isRead x1 p1 y3 (fun r4 : Int32 =>
 ((r4 = 0 →
 (I23 (y3 + (-1)) ∧ U23 (y3 + (-1)) < U23 y3)) ∧ (¬ r4 = 0 →
 (vp_in ((8 * p1) + y3) 48 ∧
 Q (x1.2.1 3 (Int32.toNatClampNeg ((8 * p1) + y3))) x1))))))))) ∧ (r2 = 0 →
 Q (-1) x1))))
set_option maxHeartbeats 4000000 in
set_option maxRecDepth 100000 in
theorem t_X12_holds {l : Launch} {D : va_G} {cs : Nat → ClassId} {ad : Nat → Nat} (hI : wInj 18 ad) (x : MS)  (p1 : Int32) (Q : Int32 → MS → Prop) (h : wp_X12_holds x  p1 Q) : zWR l yX12_holds wsX12_holds ({ frames := 2, cells := 0, slots := 0, locals := 47 } : Room) (gK D cs) (MH D cs ad) (wB 18 ad) x [.ref (ad 0), .int p1] 0 0 Q := by
  refine zWR_of (cc := cX12_holds) (nL := 3) (ret := (some .int)) (by decide +kernel) rfl (Nat.le_of_ble_eq_true rfl) (fun C hl O hE hK => ?_)
  subst hl
  have hX : ∀ (x : MS) (H : Heap), MH D cs ad x H → va_P D vwCl (wl 18 ad (ME cs ad x)) H := fun _ _ h => h
  have hB : ∀ {x : MS} (H : Heap), va_P D vwCl (wl 18 ad (ME cs ad x)) H → MH D cs ad x H := fun _ h => h
  have hA : ∀ q, wB 18 ad q → zA (wB 18 ad) C.s.heap.size q := fun _ h => Or.inl h
  have i12 : ∀ w ∈ wsX120, w ∈ wsX12_holds := by decide +kernel
  refine z_sub (lv' := [(0, .ref (ad 0)), (1, .int p1)]) [0, 1] rfl ?_
  refine z_aload_n O dX12_holds_0 0 rfl ?_
  refine z_iconst (v := 0) O dX12_holds_1 rfl ?_
  obtain ⟨x1, ex1⟩ : ∃ z, z = mI x 6 0 := ⟨_, rfl⟩
  replace h := h x1 ex1
  refine z_putf (x' := x1) (ty := .int) O hK.1 (hX _) hB hI hA (by decide) me_0 rfl i12 tyX12 tyX12_ok nmX12 6 (by decide) (by decide +kernel) rfl (by decide +kernel) rfl rfl (Nat.le_of_ble_eq_true rfl) (by rw [ex1]; exact me_put rfl rfl rfl) dX12_holds_2 ?_
  refine z_iload_n O dX12_holds_5 1 rfl ?_
  refine z_callR (gKs D cs) hK (fun _ h => h) (t_X12_isCell (gKs D cs) p1 _ h) (zr_SS (As := [.int p1]) (rest := []) O hE.1 1 gX12_holds_X12_isCell rfl rfl rfl (by decide +kernel) ⟨(Nat.le_of_ble_eq_true rfl), (Nat.le_of_ble_eq_true rfl)⟩ ⟨(Nat.le_of_ble_eq_true rfl), (Nat.le_of_ble_eq_true rfl)⟩ rfl rfl (Nat.le_of_ble_eq_true rfl) dX12_holds_6) (fun r2 h => ?_)
  refine z_if_ne O 14 dX12_holds_9 (by decide) (fun c7 => ?_) (fun c7 => ?_)
  · replace h := h.1 c7
    refine z_aload_n O dX12_holds_14 0 rfl ?_
    refine z_getf O hK.1 (hX _) (by decide) me_0 rfl i12 1 (by decide) (by decide +kernel) rfl dX12_holds_15 ?_
    refine z_iload_n O dX12_holds_18 1 rfl ?_
    refine z_iald O hK.1 (hX _) 0 (mk_lt mk_1) (me_A mk_1) rfl (show vp_in p1 (mlen 1) from h.1) dX12_holds_19 ?_
    replace h := h.2
    refine z_iconst (v := 1) O dX12_holds_20 rfl ?_
    refine z_isub O dX12_holds_21 ?_
    refine z_istore_n (lv' := [(2, .int ((x1.2.1 1 (Int32.toNatClampNeg p1)) - 1)), (0, .ref (ad 0)), (1, .int p1)]) O dX12_holds_22 (by decide) rfl ?_
    obtain ⟨I23, U23, h0, hs⟩ := h
    have kI23 : ∀ (n : Nat) (y3 : Int32), U23 y3 < n → I23 y3 → Z C (zA (wB 18 ad) C.s.heap.size) (MH D cs ad) 3 x1 [(0, .ref (ad 0)), (1, .int p1), (2, .int y3)] 0 0 23 [] := by
      intro n
      induction n with
      | zero => intro y3 uI23; exact absurd uI23 (Nat.not_lt_zero _)
      | succ n iI23 =>
        intro y3 uI23 h
        have h := hs y3 h
        refine z_iload_n O dX12_holds_23 2 rfl ?_
        refine z_if_lt O 54 dX12_holds_24 (by decide) (fun c6 => ?_) (fun c6 => ?_)
        · replace h := h.1 c6
          refine z_bipush (v := -4) O dX12_holds_54 rfl ?_
          exact z_retWR O hE (Nat.le_of_ble_eq_true rfl) (Nat.le_of_ble_eq_true rfl) rfl dX12_holds_56 h
        · replace h := h.2 c6
          refine z_aload_n O dX12_holds_27 0 rfl ?_
          refine z_iload_n O dX12_holds_28 1 rfl ?_
          refine z_iload_n O dX12_holds_29 2 rfl ?_
          refine z_callR (gKs D cs) hK (fun _ h => h) (t_X12_isRead x1  p1 y3 _ h) (zr_V (As := [.int p1, .int y3]) (rest := []) O hE.1 2 gX12_holds_X12_isRead rfl rfl rfl (by decide +kernel) ⟨(Nat.le_of_ble_eq_true rfl), (Nat.le_of_ble_eq_true rfl)⟩ ⟨(Nat.le_of_ble_eq_true rfl), (Nat.le_of_ble_eq_true rfl)⟩ (fun H hH => z_recv hK.1 (hX _ H hH) (by decide) me_0 rfl) rfl rfl (Nat.le_of_ble_eq_true rfl) dX12_holds_30) (fun r4 h => ?_)
          refine z_if_eq O 48 dX12_holds_33 (by decide) (fun c5 => ?_) (fun c5 => ?_)
          · replace h := h.1 c5
            refine z_iinc (lv' := [(2, .int (y3 + (-1))), (0, .ref (ad 0)), (1, .int p1)]) O dX12_holds_48 2 rfl rfl (by decide) rfl ?_
            refine z_goto O 23 dX12_holds_51 (by decide) ?_
            exact z_sub [1, 2, 0] rfl (iI23 (y3 + (-1)) (Nat.lt_of_lt_of_le h.2 (Nat.le_of_lt_succ uI23)) h.1)
          · replace h := h.2 c5
            refine z_aload_n O dX12_holds_36 0 rfl ?_
            refine z_getf O hK.1 (hX _) (by decide) me_0 rfl i12 3 (by decide) (by decide +kernel) rfl dX12_holds_37 ?_
            refine z_bipush (v := 8) O dX12_holds_40 rfl ?_
            refine z_iload_n O dX12_holds_42 1 rfl ?_
            refine z_imul O dX12_holds_43 ?_
            refine z_iload_n O dX12_holds_44 2 rfl ?_
            refine z_iadd O dX12_holds_45 ?_
            refine z_iald O hK.1 (hX _) 0 (mk_lt mk_3) (me_A mk_3) rfl (show vp_in ((8 * p1) + y3) (mlen 3) from h.1) dX12_holds_46 ?_
            replace h := h.2
            exact z_retWR O hE (Nat.le_of_ble_eq_true rfl) (Nat.le_of_ble_eq_true rfl) rfl dX12_holds_47 h
    exact z_sub [1, 2, 0] rfl (kI23 _ ((x1.2.1 1 (Int32.toNatClampNeg p1)) - 1) (Nat.lt_succ_self _) h0)
  · replace h := h.2 c7
    refine z_iconst (v := -1) O dX12_holds_12 rfl ?_
    exact z_retWR O hE (Nat.le_of_ble_eq_true rfl) (Nat.le_of_ble_eq_true rfl) rfl dX12_holds_13 h
def wp_X12_latest (x : MS)  (p1 : Int32) (Q : Int32 → MS → Prop) : Prop :=
 (∀ x1 : MS, x1 = mI x 6 0 →
 wp_X12_in (Int32.toInt64 p1) 0 9 (fun r2 : Int32 =>
 ((¬ r2 = 0 →
 (∃ (I27 : Int32 → Int32 → Int32 → Prop) (U27 : Int32 → Int32 → Int32 → Nat), I27 (-4) (-1) 0 ∧ ∀ (y3 : Int32) (y4 : Int32) (y5 : Int32), I27 y3 y4 y5 →
 ((6 ≤ y5 →
 Q y3 x1) ∧ (¬ 6 ≤ y5 →
 (vp_in y5 6 ∧
 (∃ (I45 : Int32 → Int32 → Int32 → Prop) (U45 : Int32 → Int32 → Int32 → Nat), I45 y3 y4 ((x1.2.1 1 (Int32.toNatClampNeg y5)) - 1) ∧ ∀ (y6 : Int32) (y7 : Int32) (y8 : Int32), I45 y6 y7 y8 →
 ((y8 < 0 →
 (I27 y6 y7 (y5 + 1) ∧ U27 y6 y7 (y5 + 1) < U27 y3 y4 y5)) ∧ (¬ y8 < 0 →
 (vp_in ((8 * y5) + y8) 48 ∧
 ((¬ (x1.2.1 3 (Int32.toNatClampNeg ((8 * y5) + y8))) = p1 →
 (I45 y6 y7 (y8 + (-1)) ∧ U45 y6 y7 (y8 + (-1)) < U45 y6 y7 y8)) ∧ ((x1.2.1 3 (Int32.toNatClampNeg ((8 * y5) + y8))) = p1 →
 (vp_in ((8 * y5) + y8) 48 ∧
 (((x1.2.1 4 (Int32.toNatClampNeg ((8 * y5) + y8))) ≤ y7 →
 (I45 y6 y7 (y8 + (-1)) ∧ U45 y6 y7 (y8 + (-1)) < U45 y6 y7 y8)) ∧ (¬ (x1.2.1 4 (Int32.toNatClampNeg ((8 * y5) + y8))) ≤ y7 →
 (vp_in ((8 * y5) + y8) 48 ∧
 (I45 ((10 * y5) + y8) (x1.2.1 4 (Int32.toNatClampNeg ((8 * y5) + y8))) (y8 + (-1)) ∧ U45 ((10 * y5) + y8) (x1.2.1 4 (Int32.toNatClampNeg ((8 * y5) + y8))) (y8 + (-1)) < U45 y6 y7 y8)))))))))))))))) ∧ (r2 = 0 →
 Q (-1) x1))))
set_option maxHeartbeats 4000000 in
set_option maxRecDepth 100000 in
theorem t_X12_latest {l : Launch} {D : va_G} {cs : Nat → ClassId} {ad : Nat → Nat} (hI : wInj 18 ad) (x : MS)  (p1 : Int32) (Q : Int32 → MS → Prop) (h : wp_X12_latest x  p1 Q) : zWR l yX12_latest wsX12_latest ({ frames := 1, cells := 0, slots := 0, locals := 25 } : Room) (gK D cs) (MH D cs ad) (wB 18 ad) x [.ref (ad 0), .int p1] 0 0 Q := by
  refine zWR_of (cc := cX12_latest) (nL := 8) (ret := (some .int)) (by decide +kernel) rfl (Nat.le_of_ble_eq_true rfl) (fun C hl O hE hK => ?_)
  subst hl
  have hX : ∀ (x : MS) (H : Heap), MH D cs ad x H → va_P D vwCl (wl 18 ad (ME cs ad x)) H := fun _ _ h => h
  have hB : ∀ {x : MS} (H : Heap), va_P D vwCl (wl 18 ad (ME cs ad x)) H → MH D cs ad x H := fun _ h => h
  have hA : ∀ q, wB 18 ad q → zA (wB 18 ad) C.s.heap.size q := fun _ h => Or.inl h
  have i12 : ∀ w ∈ wsX120, w ∈ wsX12_latest := by decide +kernel
  refine z_sub (lv' := [(0, .ref (ad 0)), (1, .int p1)]) [0, 1] rfl ?_
  refine z_aload_n O dX12_latest_0 0 rfl ?_
  refine z_iconst (v := 0) O dX12_latest_1 rfl ?_
  obtain ⟨x1, ex1⟩ : ∃ z, z = mI x 6 0 := ⟨_, rfl⟩
  replace h := h x1 ex1
  refine z_putf (x' := x1) (ty := .int) O hK.1 (hX _) hB hI hA (by decide) me_0 rfl i12 tyX12 tyX12_ok nmX12 6 (by decide) (by decide +kernel) rfl (by decide +kernel) rfl rfl (Nat.le_of_ble_eq_true rfl) (by rw [ex1]; exact me_put rfl rfl rfl) dX12_latest_2 ?_
  refine z_iload_n O dX12_latest_5 1 rfl ?_
  refine z_i2l O dX12_latest_6 ?_
  refine z_lconst (v := 0) O dX12_latest_7 rfl ?_
  refine z_ldc2 (v := 9) O (by decide +kernel) dX12_latest_8 ?_
  refine z_callR (gKs D cs) hK (fun _ h => h) (t_X12_in (gKs D cs) (Int32.toInt64 p1) 0 9 _ h) (zr_SS (As := [.long (Int32.toInt64 p1), .long 0, .long 9]) (rest := []) O hE.1 3 gX12_latest_X12_in rfl rfl rfl (by decide +kernel) ⟨(Nat.le_of_ble_eq_true rfl), (Nat.le_of_ble_eq_true rfl)⟩ ⟨(Nat.le_of_ble_eq_true rfl), (Nat.le_of_ble_eq_true rfl)⟩ rfl rfl (Nat.le_of_ble_eq_true rfl) dX12_latest_11) (fun r2 h => ?_)
  refine z_if_ne O 19 dX12_latest_14 (by decide) (fun c13 => ?_) (fun c13 => ?_)
  · replace h := h.1 c13
    refine z_bipush (v := -4) O dX12_latest_19 rfl ?_
    refine z_istore_n (lv' := [(2, .int (-4)), (0, .ref (ad 0)), (1, .int p1)]) O dX12_latest_21 (by decide) rfl ?_
    refine z_iconst (v := -1) O dX12_latest_22 rfl ?_
    refine z_istore_n (lv' := [(3, .int (-1)), (2, .int (-4)), (0, .ref (ad 0)), (1, .int p1)]) O dX12_latest_23 (by decide) rfl ?_
    refine z_iconst (v := 0) O dX12_latest_24 rfl ?_
    refine z_istore (lv' := [(4, .int 0), (3, .int (-1)), (2, .int (-4)), (0, .ref (ad 0)), (1, .int p1)]) O dX12_latest_25 (by decide) rfl ?_
    obtain ⟨I27, U27, h0, hs⟩ := h
    have kI27 : ∀ (n : Nat) (y3 : Int32) (y4 : Int32) (y5 : Int32), U27 y3 y4 y5 < n → I27 y3 y4 y5 → Z C (zA (wB 18 ad) C.s.heap.size) (MH D cs ad) 8 x1 [(0, .ref (ad 0)), (1, .int p1), (2, .int y3), (3, .int y4), (4, .int y5)] 0 0 27 [] := by
      intro n
      induction n with
      | zero => intro y3 y4 y5 uI27; exact absurd uI27 (Nat.not_lt_zero _)
      | succ n iI27 =>
        intro y3 y4 y5 uI27 h
        have h := hs y3 y4 y5 h
        refine z_iload O dX12_latest_27 4 rfl ?_
        refine z_bipush (v := 6) O dX12_latest_29 rfl ?_
        refine z_icmp_ge O 136 dX12_latest_31 (by decide) (fun c12 => ?_) (fun c12 => ?_)
        · replace h := h.1 c12
          refine z_iload_n O dX12_latest_136 2 rfl ?_
          exact z_retWR O hE (Nat.le_of_ble_eq_true rfl) (Nat.le_of_ble_eq_true rfl) rfl dX12_latest_137 h
        · replace h := h.2 c12
          refine z_aload_n O dX12_latest_34 0 rfl ?_
          refine z_getf O hK.1 (hX _) (by decide) me_0 rfl i12 1 (by decide) (by decide +kernel) rfl dX12_latest_35 ?_
          refine z_iload O dX12_latest_38 4 rfl ?_
          refine z_iald O hK.1 (hX _) 0 (mk_lt mk_1) (me_A mk_1) rfl (show vp_in y5 (mlen 1) from h.1) dX12_latest_40 ?_
          replace h := h.2
          refine z_iconst (v := 1) O dX12_latest_41 rfl ?_
          refine z_isub O dX12_latest_42 ?_
          refine z_istore (lv' := [(5, .int ((x1.2.1 1 (Int32.toNatClampNeg y5)) - 1)), (0, .ref (ad 0)), (1, .int p1), (2, .int y3), (3, .int y4), (4, .int y5)]) O dX12_latest_43 (by decide) rfl ?_
          obtain ⟨I45, U45, h0, hs⟩ := h
          have kI45 : ∀ (n : Nat) (y6 : Int32) (y7 : Int32) (y8 : Int32), U45 y6 y7 y8 < n → I45 y6 y7 y8 → Z C (zA (wB 18 ad) C.s.heap.size) (MH D cs ad) 8 x1 [(0, .ref (ad 0)), (1, .int p1), (2, .int y6), (3, .int y7), (4, .int y5), (5, .int y8)] 0 0 45 [] := by
            intro n
            induction n with
            | zero => intro y6 y7 y8 uI45; exact absurd uI45 (Nat.not_lt_zero _)
            | succ n iI45 =>
              intro y6 y7 y8 uI45 h
              have h := hs y6 y7 y8 h
              refine z_iload O dX12_latest_45 5 rfl ?_
              refine z_if_lt O 130 dX12_latest_47 (by decide) (fun c11 => ?_) (fun c11 => ?_)
              · replace h := h.1 c11
                refine z_iinc (lv' := [(4, .int (y5 + 1)), (0, .ref (ad 0)), (1, .int p1), (2, .int y6), (3, .int y7), (5, .int y8)]) O dX12_latest_130 4 rfl rfl (by decide) rfl ?_
                refine z_goto O 27 dX12_latest_133 (by decide) ?_
                exact z_sub [1, 2, 3, 4, 0] rfl (iI27 y6 y7 (y5 + 1) (Nat.lt_of_lt_of_le h.2 (Nat.le_of_lt_succ uI27)) h.1)
              · replace h := h.2 c11
                refine z_bipush (v := 8) O dX12_latest_50 rfl ?_
                refine z_iload O dX12_latest_52 4 rfl ?_
                refine z_imul O dX12_latest_54 ?_
                refine z_iload O dX12_latest_55 5 rfl ?_
                refine z_iadd O dX12_latest_57 ?_
                refine z_istore (lv' := [(6, .int ((8 * y5) + y8)), (0, .ref (ad 0)), (1, .int p1), (2, .int y6), (3, .int y7), (4, .int y5), (5, .int y8)]) O dX12_latest_58 (by decide) rfl ?_
                refine z_aload_n O dX12_latest_60 1 rfl ?_
                refine z_getf O hK.1 (hX _) (by decide) me_0 rfl i12 3 (by decide) (by decide +kernel) rfl dX12_latest_61 ?_
                refine z_iload O dX12_latest_64 0 rfl ?_
                refine z_iald O hK.1 (hX _) 0 (mk_lt mk_3) (me_A mk_3) rfl (show vp_in ((8 * y5) + y8) (mlen 3) from h.1) dX12_latest_66 ?_
                replace h := h.2
                refine z_iload_n O dX12_latest_67 2 rfl ?_
                refine z_icmp_ne O 86 dX12_latest_68 (by decide) (fun c10 => ?_) (fun c10 => ?_)
                · replace h := h.1 c10
                  refine z_iconst (v := 0) O dX12_latest_86 rfl ?_
                  refine z_istore (lv' := [(7, .int 0), (6, .int ((8 * y5) + y8)), (0, .ref (ad 0)), (1, .int p1), (2, .int y6), (3, .int y7), (4, .int y5), (5, .int y8)]) O dX12_latest_87 (by decide) rfl ?_
                  refine z_iload O dX12_latest_89 0 rfl ?_
                  refine z_if_eq O 105 dX12_latest_91 (by decide) (fun _ => ?_) (fun c => absurd c (by decide))
                  refine z_iload_n O dX12_latest_105 4 rfl ?_
                  refine z_istore_n (lv' := [(2, .int y6), (7, .int 0), (6, .int ((8 * y5) + y8)), (0, .ref (ad 0)), (1, .int p1), (3, .int y7), (4, .int y5), (5, .int y8)]) O dX12_latest_106 (by decide) rfl ?_
                  refine z_iload O dX12_latest_107 1 rfl ?_
                  refine z_if_eq O 122 dX12_latest_109 (by decide) (fun _ => ?_) (fun c => absurd c (by decide))
                  refine z_iload_n O dX12_latest_122 5 rfl ?_
                  refine z_istore_n (lv' := [(3, .int y7), (2, .int y6), (7, .int 0), (6, .int ((8 * y5) + y8)), (0, .ref (ad 0)), (1, .int p1), (4, .int y5), (5, .int y8)]) O dX12_latest_123 (by decide) rfl ?_
                  refine z_iinc (lv' := [(5, .int (y8 + (-1))), (3, .int y7), (2, .int y6), (7, .int 0), (6, .int ((8 * y5) + y8)), (0, .ref (ad 0)), (1, .int p1), (4, .int y5)]) O dX12_latest_124 7 rfl rfl (by decide) rfl ?_
                  refine z_goto O 45 dX12_latest_127 (by decide) ?_
                  exact z_sub [5, 6, 2, 1, 7, 0] rfl (iI45 y6 y7 (y8 + (-1)) (Nat.lt_of_lt_of_le h.2 (Nat.le_of_lt_succ uI45)) h.1)
                · replace h := h.2 c10
                  refine z_aload_n O dX12_latest_71 1 rfl ?_
                  refine z_getf O hK.1 (hX _) (by decide) me_0 rfl i12 4 (by decide) (by decide +kernel) rfl dX12_latest_72 ?_
                  refine z_iload O dX12_latest_75 0 rfl ?_
                  refine z_iald O hK.1 (hX _) 0 (mk_lt mk_4) (me_A mk_4) rfl (show vp_in ((8 * y5) + y8) (mlen 4) from h.1) dX12_latest_77 ?_
                  replace h := h.2
                  refine z_iload_n O dX12_latest_78 4 rfl ?_
                  refine z_icmp_le O 86 dX12_latest_79 (by decide) (fun c9 => ?_) (fun c9 => ?_)
                  · replace h := h.1 c9
                    refine z_iconst (v := 0) O dX12_latest_86 rfl ?_
                    refine z_istore (lv' := [(7, .int 0), (6, .int ((8 * y5) + y8)), (0, .ref (ad 0)), (1, .int p1), (2, .int y6), (3, .int y7), (4, .int y5), (5, .int y8)]) O dX12_latest_87 (by decide) rfl ?_
                    refine z_iload O dX12_latest_89 0 rfl ?_
                    refine z_if_eq O 105 dX12_latest_91 (by decide) (fun _ => ?_) (fun c => absurd c (by decide))
                    refine z_iload_n O dX12_latest_105 4 rfl ?_
                    refine z_istore_n (lv' := [(2, .int y6), (7, .int 0), (6, .int ((8 * y5) + y8)), (0, .ref (ad 0)), (1, .int p1), (3, .int y7), (4, .int y5), (5, .int y8)]) O dX12_latest_106 (by decide) rfl ?_
                    refine z_iload O dX12_latest_107 1 rfl ?_
                    refine z_if_eq O 122 dX12_latest_109 (by decide) (fun _ => ?_) (fun c => absurd c (by decide))
                    refine z_iload_n O dX12_latest_122 5 rfl ?_
                    refine z_istore_n (lv' := [(3, .int y7), (2, .int y6), (7, .int 0), (6, .int ((8 * y5) + y8)), (0, .ref (ad 0)), (1, .int p1), (4, .int y5), (5, .int y8)]) O dX12_latest_123 (by decide) rfl ?_
                    refine z_iinc (lv' := [(5, .int (y8 + (-1))), (3, .int y7), (2, .int y6), (7, .int 0), (6, .int ((8 * y5) + y8)), (0, .ref (ad 0)), (1, .int p1), (4, .int y5)]) O dX12_latest_124 7 rfl rfl (by decide) rfl ?_
                    refine z_goto O 45 dX12_latest_127 (by decide) ?_
                    exact z_sub [5, 6, 2, 1, 7, 0] rfl (iI45 y6 y7 (y8 + (-1)) (Nat.lt_of_lt_of_le h.2 (Nat.le_of_lt_succ uI45)) h.1)
                  · replace h := h.2 c9
                    refine z_iconst (v := 1) O dX12_latest_82 rfl ?_
                    refine z_goto O 87 dX12_latest_83 (by decide) ?_
                    refine z_istore (lv' := [(7, .int 1), (6, .int ((8 * y5) + y8)), (0, .ref (ad 0)), (1, .int p1), (2, .int y6), (3, .int y7), (4, .int y5), (5, .int y8)]) O dX12_latest_87 (by decide) rfl ?_
                    refine z_iload O dX12_latest_89 0 rfl ?_
                    refine z_if_eq O 105 dX12_latest_91 (by decide) (fun c => absurd c (by decide)) (fun _ => ?_)
                    refine z_bipush (v := 10) O dX12_latest_94 rfl ?_
                    refine z_iload O dX12_latest_96 6 rfl ?_
                    refine z_imul O dX12_latest_98 ?_
                    refine z_iload O dX12_latest_99 7 rfl ?_
                    refine z_iadd O dX12_latest_101 ?_
                    refine z_goto O 106 dX12_latest_102 (by decide) ?_
                    refine z_istore_n (lv' := [(2, .int ((10 * y5) + y8)), (7, .int 1), (6, .int ((8 * y5) + y8)), (0, .ref (ad 0)), (1, .int p1), (3, .int y7), (4, .int y5), (5, .int y8)]) O dX12_latest_106 (by decide) rfl ?_
                    refine z_iload O dX12_latest_107 1 rfl ?_
                    refine z_if_eq O 122 dX12_latest_109 (by decide) (fun c => absurd c (by decide)) (fun _ => ?_)
                    refine z_aload_n O dX12_latest_112 3 rfl ?_
                    refine z_getf O hK.1 (hX _) (by decide) me_0 rfl i12 4 (by decide) (by decide +kernel) rfl dX12_latest_113 ?_
                    refine z_iload O dX12_latest_116 2 rfl ?_
                    refine z_iald O hK.1 (hX _) 0 (mk_lt mk_4) (me_A mk_4) rfl (show vp_in ((8 * y5) + y8) (mlen 4) from h.1) dX12_latest_118 ?_
                    replace h := h.2
                    refine z_goto O 123 dX12_latest_119 (by decide) ?_
                    refine z_istore_n (lv' := [(3, .int (x1.2.1 4 (Int32.toNatClampNeg ((8 * y5) + y8)))), (2, .int ((10 * y5) + y8)), (7, .int 1), (6, .int ((8 * y5) + y8)), (0, .ref (ad 0)), (1, .int p1), (4, .int y5), (5, .int y8)]) O dX12_latest_123 (by decide) rfl ?_
                    refine z_iinc (lv' := [(5, .int (y8 + (-1))), (3, .int (x1.2.1 4 (Int32.toNatClampNeg ((8 * y5) + y8)))), (2, .int ((10 * y5) + y8)), (7, .int 1), (6, .int ((8 * y5) + y8)), (0, .ref (ad 0)), (1, .int p1), (4, .int y5)]) O dX12_latest_124 7 rfl rfl (by decide) rfl ?_
                    refine z_goto O 45 dX12_latest_127 (by decide) ?_
                    exact z_sub [5, 6, 2, 1, 7, 0] rfl (iI45 ((10 * y5) + y8) (x1.2.1 4 (Int32.toNatClampNeg ((8 * y5) + y8))) (y8 + (-1)) (Nat.lt_of_lt_of_le h.2 (Nat.le_of_lt_succ uI45)) h.1)
          exact z_sub [1, 2, 3, 4, 5, 0] rfl (kI45 _ y3 y4 ((x1.2.1 1 (Int32.toNatClampNeg y5)) - 1) (Nat.lt_succ_self _) h0)
    exact z_sub [3, 4, 2, 1, 0] rfl (kI27 _ (-4) (-1) 0 (Nat.lt_succ_self _) h0)
  · replace h := h.2 c13
    refine z_iconst (v := -1) O dX12_latest_17 rfl ?_
    exact z_retWR O hE (Nat.le_of_ble_eq_true rfl) (Nat.le_of_ble_eq_true rfl) rfl dX12_latest_18 h
def wp_X12_seenIn (x : MS)  (p1 : Int32) (p2 : Int32) (Q : Int32 → Prop) : Prop :=
 (vp_in p1 6 ∧
 (∃ (I12 : Int32 → Int32 → Prop) (U12 : Int32 → Int32 → Nat), I12 p2 ((x.2.1 1 (Int32.toNatClampNeg p1)) - 1) ∧ ∀ (y1 : Int32) (y2 : Int32), I12 y1 y2 →
 (∃ J54 : Prop, (((y2 < 0 →
 J54 ) ∧ (¬ y2 < 0 →
 (vp_in ((8 * p1) + y2) 48 ∧
 ((y1 < (x.2.1 5 (Int32.toNatClampNeg ((8 * p1) + y2))) →
 J54 ) ∧ (¬ y1 < (x.2.1 5 (Int32.toNatClampNeg ((8 * p1) + y2))) →
 (vp_in ((8 * p1) + y2) 48 ∧
 (I12 (y1 - (x.2.1 5 (Int32.toNatClampNeg ((8 * p1) + y2)))) (y2 + (-1)) ∧ U12 (y1 - (x.2.1 5 (Int32.toNatClampNeg ((8 * p1) + y2)))) (y2 + (-1)) < U12 y1 y2)))))))) ∧
 (J54 →
 (∃ (I65 : Int32 → Int32 → Int32 → Prop) (U65 : Int32 → Int32 → Int32 → Nat), I65 0 (-y1) y2 ∧ ∀ (y5 : Int32) (y6 : Int32) (y7 : Int32), I65 y5 y6 y7 →
 ((y7 < 0 →
 Q y5) ∧ (¬ y7 < 0 →
 ((¬ y7 = y2 →
 (vp_in ((8 * p1) + y7) 48 ∧
 (vp_in ((8 * p1) + y7) 48 ∧
 wp_X12_lightOf (x.2.1 2 (Int32.toNatClampNeg ((8 * p1) + y7))) (x.2.1 3 (Int32.toNatClampNeg ((8 * p1) + y7))) (fun r8 : Int32 =>
 ((r8 < y6 →
 (vp_in ((8 * p1) + y7) 48 ∧
 (I65 (y5 ||| 0) (y6 + (x.2.1 5 (Int32.toNatClampNeg ((8 * p1) + y7)))) (y7 + (-1)) ∧ U65 (y5 ||| 0) (y6 + (x.2.1 5 (Int32.toNatClampNeg ((8 * p1) + y7)))) (y7 + (-1)) < U65 y5 y6 y7))) ∧ (¬ r8 < y6 →
 (vp_in ((8 * p1) + y7) 48 ∧
 (vp_in ((8 * p1) + y7) 48 ∧
 (I65 (y5 ||| (1 <<< ((x.2.1 3 (Int32.toNatClampNeg ((8 * p1) + y7))) &&& 31))) (y6 + (x.2.1 5 (Int32.toNatClampNeg ((8 * p1) + y7)))) (y7 + (-1)) ∧ U65 (y5 ||| (1 <<< ((x.2.1 3 (Int32.toNatClampNeg ((8 * p1) + y7))) &&& 31))) (y6 + (x.2.1 5 (Int32.toNatClampNeg ((8 * p1) + y7)))) (y7 + (-1)) < U65 y5 y6 y7))))))))) ∧ (y7 = y2 →
 (vp_in ((8 * p1) + y7) 48 ∧
 (vp_in ((8 * p1) + y7) 48 ∧
 wp_X12_lightOf (x.2.1 2 (Int32.toNatClampNeg ((8 * p1) + y7))) (x.2.1 3 (Int32.toNatClampNeg ((8 * p1) + y7))) (fun r10 : Int32 =>
 ((r10 < (0 : Int32) →
 (vp_in ((8 * p1) + y7) 48 ∧
 (I65 (y5 ||| 0) (y6 + (x.2.1 5 (Int32.toNatClampNeg ((8 * p1) + y7)))) (y7 + (-1)) ∧ U65 (y5 ||| 0) (y6 + (x.2.1 5 (Int32.toNatClampNeg ((8 * p1) + y7)))) (y7 + (-1)) < U65 y5 y6 y7))) ∧ (¬ r10 < (0 : Int32) →
 (vp_in ((8 * p1) + y7) 48 ∧
 (vp_in ((8 * p1) + y7) 48 ∧
 (I65 (y5 ||| (1 <<< ((x.2.1 3 (Int32.toNatClampNeg ((8 * p1) + y7))) &&& 31))) (y6 + (x.2.1 5 (Int32.toNatClampNeg ((8 * p1) + y7)))) (y7 + (-1)) ∧ U65 (y5 ||| (1 <<< ((x.2.1 3 (Int32.toNatClampNeg ((8 * p1) + y7))) &&& 31))) (y6 + (x.2.1 5 (Int32.toNatClampNeg ((8 * p1) + y7)))) (y7 + (-1)) < U65 y5 y6 y7)))))))))))))))))
set_option maxHeartbeats 4000000 in
set_option maxRecDepth 100000 in
theorem t_X12_seenIn {l : Launch} {D : va_G} {cs : Nat → ClassId} {ad : Nat → Nat} (x : MS)  (p1 : Int32) (p2 : Int32) (Q : Int32 → Prop) (h : wp_X12_seenIn x  p1 p2 Q) : zMR l yX12_seenIn wsX12_seenIn ({ frames := 1, cells := 0, slots := 0, locals := 21 } : Room) (gK D cs) (MH D cs ad) x [.ref (ad 0), .int p1, .int p2] Q := by
  refine zMR_of (cc := cX12_seenIn) (nL := 10) (ret := (some .int)) (by decide +kernel) rfl (Nat.le_of_ble_eq_true rfl) (fun C hl O hE hK hH => ?_)
  subst hl
  have hX : ∀ (x : MS) (H : Heap), z0 (MH D cs ad) C.s.heap x H → va_P D vwCl (wl 18 ad (ME cs ad x)) H := fun _ _ h => h.2
  have i12 : ∀ w ∈ wsX120, w ∈ wsX12_seenIn := by decide +kernel
  refine z_sub (lv' := [(0, .ref (ad 0)), (1, .int p1), (2, .int p2)]) [0, 1, 2] rfl ?_
  refine z_iload_n O dX12_seenIn_0 2 rfl ?_
  refine z_istore_n (lv' := [(3, .int p2), (0, .ref (ad 0)), (1, .int p1), (2, .int p2)]) O dX12_seenIn_1 (by decide) rfl ?_
  refine z_aload_n O dX12_seenIn_2 1 rfl ?_
  refine z_getf O hK.1 (hX _) (by decide) me_0 rfl i12 1 (by decide) (by decide +kernel) rfl dX12_seenIn_3 ?_
  refine z_iload_n O dX12_seenIn_6 2 rfl ?_
  refine z_iald O hK.1 (hX _) 0 (mk_lt mk_1) (me_A mk_1) rfl (show vp_in p1 (mlen 1) from h.1) dX12_seenIn_7 ?_
  replace h := h.2
  refine z_iconst (v := 1) O dX12_seenIn_8 rfl ?_
  refine z_isub O dX12_seenIn_9 ?_
  refine z_istore (lv' := [(4, .int ((x.2.1 1 (Int32.toNatClampNeg p1)) - 1)), (3, .int p2), (0, .ref (ad 0)), (1, .int p1), (2, .int p2)]) O dX12_seenIn_10 (by decide) rfl ?_
  obtain ⟨I12, U12, h0, hs⟩ := h
  have kI12 : ∀ (n : Nat) (y1 : Int32) (y2 : Int32), U12 y1 y2 < n → I12 y1 y2 → Z C (fun _ => False) (z0 (MH D cs ad) C.s.heap) 10 x [(0, .ref (ad 0)), (1, .int p1), (3, .int y1), (4, .int y2)] 0 0 12 [] := by
    intro n
    induction n with
    | zero => intro y1 y2 uI12; exact absurd uI12 (Nat.not_lt_zero _)
    | succ n iI12 =>
      intro y1 y2 uI12 h
      have h := hs y1 y2 h
      refine z_iload O dX12_seenIn_12 3 rfl ?_
      obtain ⟨J54, h, hJ⟩ := h
      have kJ54 : J54 → Z C (fun _ => False) (z0 (MH D cs ad) C.s.heap) 10 x [(0, .ref (ad 0)), (1, .int p1), (3, .int y1), (4, .int y2)] 0 0 54 [] := by
        intro  h
        have h := hJ  h
        refine z_iconst (v := 0) O dX12_seenIn_54 rfl ?_
        refine z_istore (lv' := [(5, .int 0), (0, .ref (ad 0)), (1, .int p1), (3, .int y1), (4, .int y2)]) O dX12_seenIn_55 (by decide) rfl ?_
        refine z_iload_n O dX12_seenIn_57 3 rfl ?_
        refine z_ineg O dX12_seenIn_58 ?_
        refine z_istore (lv' := [(6, .int (-y1)), (5, .int 0), (0, .ref (ad 0)), (1, .int p1), (3, .int y1), (4, .int y2)]) O dX12_seenIn_59 (by decide) rfl ?_
        refine z_iload O dX12_seenIn_61 5 rfl ?_
        refine z_istore (lv' := [(7, .int y2), (6, .int (-y1)), (5, .int 0), (0, .ref (ad 0)), (1, .int p1), (3, .int y1), (4, .int y2)]) O dX12_seenIn_63 (by decide) rfl ?_
        obtain ⟨I65, U65, h0, hs⟩ := h
        have kI65 : ∀ (n : Nat) (y5 : Int32) (y6 : Int32) (y7 : Int32), U65 y5 y6 y7 < n → I65 y5 y6 y7 → Z C (fun _ => False) (z0 (MH D cs ad) C.s.heap) 10 x [(0, .ref (ad 0)), (1, .int p1), (4, .int y2), (5, .int y5), (6, .int y6), (7, .int y7)] 0 0 65 [] := by
          intro n
          induction n with
          | zero => intro y5 y6 y7 uI65; exact absurd uI65 (Nat.not_lt_zero _)
          | succ n iI65 =>
            intro y5 y6 y7 uI65 h
            have h := hs y5 y6 y7 h
            refine z_iload O dX12_seenIn_65 5 rfl ?_
            refine z_if_lt O 152 dX12_seenIn_67 (by decide) (fun c13 => ?_) (fun c13 => ?_)
            · replace h := h.1 c13
              refine z_iload O dX12_seenIn_152 3 rfl ?_
              exact z_retR O hE (fun _ h => h.1) rfl dX12_seenIn_154 h
            · replace h := h.2 c13
              refine z_bipush (v := 8) O dX12_seenIn_70 rfl ?_
              refine z_iload_n O dX12_seenIn_72 1 rfl ?_
              refine z_imul O dX12_seenIn_73 ?_
              refine z_iload O dX12_seenIn_74 5 rfl ?_
              refine z_iadd O dX12_seenIn_76 ?_
              refine z_istore (lv' := [(8, .int ((8 * p1) + y7)), (0, .ref (ad 0)), (1, .int p1), (4, .int y2), (5, .int y5), (6, .int y6), (7, .int y7)]) O dX12_seenIn_77 (by decide) rfl ?_
              refine z_iload O dX12_seenIn_79 6 rfl ?_
              refine z_iload O dX12_seenIn_81 3 rfl ?_
              refine z_icmp_ne O 90 dX12_seenIn_83 (by decide) (fun c12 => ?_) (fun c12 => ?_)
              · replace h := h.1 c12
                refine z_iload O dX12_seenIn_90 5 rfl ?_
                refine z_istore (lv' := [(9, .int y6), (8, .int ((8 * p1) + y7)), (0, .ref (ad 0)), (1, .int p1), (4, .int y2), (5, .int y5), (6, .int y6), (7, .int y7)]) O dX12_seenIn_92 (by decide) rfl ?_
                refine z_iload O dX12_seenIn_94 5 rfl ?_
                refine z_iload O dX12_seenIn_96 0 rfl ?_
                refine z_aload_n O dX12_seenIn_98 2 rfl ?_
                refine z_getf O hK.1 (hX _) (by decide) me_0 rfl i12 2 (by decide) (by decide +kernel) rfl dX12_seenIn_99 ?_
                refine z_iload O dX12_seenIn_102 1 rfl ?_
                refine z_iald O hK.1 (hX _) 0 (mk_lt mk_2) (me_A mk_2) rfl (show vp_in ((8 * p1) + y7) (mlen 2) from h.1) dX12_seenIn_104 ?_
                replace h := h.2
                refine z_aload_n O dX12_seenIn_105 2 rfl ?_
                refine z_getf O hK.1 (hX _) (by decide) me_0 rfl i12 3 (by decide) (by decide +kernel) rfl dX12_seenIn_106 ?_
                refine z_iload O dX12_seenIn_109 1 rfl ?_
                refine z_iald O hK.1 (hX _) 0 (mk_lt mk_3) (me_A mk_3) rfl (show vp_in ((8 * p1) + y7) (mlen 3) from h.1) dX12_seenIn_111 ?_
                replace h := h.2
                refine z_callR (gKs D cs) hK (fun _ h => h.2) (t_X12_lightOf (gKs D cs) (x.2.1 2 (Int32.toNatClampNeg ((8 * p1) + y7))) (x.2.1 3 (Int32.toNatClampNeg ((8 * p1) + y7))) _ h) (zr_SS (As := [.int (x.2.1 2 (Int32.toNatClampNeg ((8 * p1) + y7))), .int (x.2.1 3 (Int32.toNatClampNeg ((8 * p1) + y7)))]) (rest := [.int y6, .int y5]) O hE.1 2 gX12_seenIn_X12_lightOf rfl rfl rfl (by decide +kernel) ⟨(Nat.le_of_ble_eq_true rfl), (Nat.le_of_ble_eq_true rfl)⟩ ⟨(Nat.le_of_ble_eq_true rfl), (Nat.le_of_ble_eq_true rfl)⟩ rfl rfl (Nat.le_of_ble_eq_true rfl) dX12_seenIn_112) (fun r8 h => ?_)
                refine z_icmp_gt O 130 dX12_seenIn_115 (by decide) (fun c9 => ?_) (fun c9 => ?_)
                · replace h := h.1 c9
                  refine z_iconst (v := 0) O dX12_seenIn_130 rfl ?_
                  refine z_ior O dX12_seenIn_131 ?_
                  refine z_istore (lv' := [(5, .int (y5 ||| 0)), (9, .int y6), (8, .int ((8 * p1) + y7)), (0, .ref (ad 0)), (1, .int p1), (4, .int y2), (6, .int y6), (7, .int y7)]) O dX12_seenIn_132 (by decide) rfl ?_
                  refine z_iload O dX12_seenIn_134 6 rfl ?_
                  refine z_aload_n O dX12_seenIn_136 3 rfl ?_
                  refine z_getf O hK.1 (hX _) (by decide) me_0 rfl i12 5 (by decide) (by decide +kernel) rfl dX12_seenIn_137 ?_
                  refine z_iload O dX12_seenIn_140 2 rfl ?_
                  refine z_iald O hK.1 (hX _) 0 (mk_lt mk_5) (me_A mk_5) rfl (show vp_in ((8 * p1) + y7) (mlen 5) from h.1) dX12_seenIn_142 ?_
                  replace h := h.2
                  refine z_iadd O dX12_seenIn_143 ?_
                  refine z_istore (lv' := [(6, .int (y6 + (x.2.1 5 (Int32.toNatClampNeg ((8 * p1) + y7))))), (5, .int (y5 ||| 0)), (9, .int y6), (8, .int ((8 * p1) + y7)), (0, .ref (ad 0)), (1, .int p1), (4, .int y2), (7, .int y7)]) O dX12_seenIn_144 (by decide) rfl ?_
                  refine z_iinc (lv' := [(7, .int (y7 + (-1))), (6, .int (y6 + (x.2.1 5 (Int32.toNatClampNeg ((8 * p1) + y7))))), (5, .int (y5 ||| 0)), (9, .int y6), (8, .int ((8 * p1) + y7)), (0, .ref (ad 0)), (1, .int p1), (4, .int y2)]) O dX12_seenIn_146 7 rfl rfl (by decide) rfl ?_
                  refine z_goto O 65 dX12_seenIn_149 (by decide) ?_
                  exact z_sub [5, 6, 7, 2, 1, 0] rfl (iI65 (y5 ||| 0) (y6 + (x.2.1 5 (Int32.toNatClampNeg ((8 * p1) + y7)))) (y7 + (-1)) (Nat.lt_of_lt_of_le h.2 (Nat.le_of_lt_succ uI65)) h.1)
                · replace h := h.2 c9
                  refine z_iconst (v := 1) O dX12_seenIn_118 rfl ?_
                  refine z_aload_n O dX12_seenIn_119 2 rfl ?_
                  refine z_getf O hK.1 (hX _) (by decide) me_0 rfl i12 3 (by decide) (by decide +kernel) rfl dX12_seenIn_120 ?_
                  refine z_iload O dX12_seenIn_123 1 rfl ?_
                  refine z_iald O hK.1 (hX _) 0 (mk_lt mk_3) (me_A mk_3) rfl (show vp_in ((8 * p1) + y7) (mlen 3) from h.1) dX12_seenIn_125 ?_
                  replace h := h.2
                  refine z_ishl O dX12_seenIn_126 ?_
                  refine z_goto O 131 dX12_seenIn_127 (by decide) ?_
                  refine z_ior O dX12_seenIn_131 ?_
                  refine z_istore (lv' := [(5, .int (y5 ||| (1 <<< ((x.2.1 3 (Int32.toNatClampNeg ((8 * p1) + y7))) &&& 31)))), (9, .int y6), (8, .int ((8 * p1) + y7)), (0, .ref (ad 0)), (1, .int p1), (4, .int y2), (6, .int y6), (7, .int y7)]) O dX12_seenIn_132 (by decide) rfl ?_
                  refine z_iload O dX12_seenIn_134 6 rfl ?_
                  refine z_aload_n O dX12_seenIn_136 3 rfl ?_
                  refine z_getf O hK.1 (hX _) (by decide) me_0 rfl i12 5 (by decide) (by decide +kernel) rfl dX12_seenIn_137 ?_
                  refine z_iload O dX12_seenIn_140 2 rfl ?_
                  refine z_iald O hK.1 (hX _) 0 (mk_lt mk_5) (me_A mk_5) rfl (show vp_in ((8 * p1) + y7) (mlen 5) from h.1) dX12_seenIn_142 ?_
                  replace h := h.2
                  refine z_iadd O dX12_seenIn_143 ?_
                  refine z_istore (lv' := [(6, .int (y6 + (x.2.1 5 (Int32.toNatClampNeg ((8 * p1) + y7))))), (5, .int (y5 ||| (1 <<< ((x.2.1 3 (Int32.toNatClampNeg ((8 * p1) + y7))) &&& 31)))), (9, .int y6), (8, .int ((8 * p1) + y7)), (0, .ref (ad 0)), (1, .int p1), (4, .int y2), (7, .int y7)]) O dX12_seenIn_144 (by decide) rfl ?_
                  refine z_iinc (lv' := [(7, .int (y7 + (-1))), (6, .int (y6 + (x.2.1 5 (Int32.toNatClampNeg ((8 * p1) + y7))))), (5, .int (y5 ||| (1 <<< ((x.2.1 3 (Int32.toNatClampNeg ((8 * p1) + y7))) &&& 31)))), (9, .int y6), (8, .int ((8 * p1) + y7)), (0, .ref (ad 0)), (1, .int p1), (4, .int y2)]) O dX12_seenIn_146 7 rfl rfl (by decide) rfl ?_
                  refine z_goto O 65 dX12_seenIn_149 (by decide) ?_
                  exact z_sub [5, 6, 7, 2, 1, 0] rfl (iI65 (y5 ||| (1 <<< ((x.2.1 3 (Int32.toNatClampNeg ((8 * p1) + y7))) &&& 31))) (y6 + (x.2.1 5 (Int32.toNatClampNeg ((8 * p1) + y7)))) (y7 + (-1)) (Nat.lt_of_lt_of_le h.2 (Nat.le_of_lt_succ uI65)) h.1)
              · replace h := h.2 c12
                refine z_iconst (v := 0) O dX12_seenIn_86 rfl ?_
                refine z_goto O 92 dX12_seenIn_87 (by decide) ?_
                refine z_istore (lv' := [(9, .int 0), (8, .int ((8 * p1) + y7)), (0, .ref (ad 0)), (1, .int p1), (4, .int y2), (5, .int y5), (6, .int y6), (7, .int y7)]) O dX12_seenIn_92 (by decide) rfl ?_
                refine z_iload O dX12_seenIn_94 5 rfl ?_
                refine z_iload O dX12_seenIn_96 0 rfl ?_
                refine z_aload_n O dX12_seenIn_98 2 rfl ?_
                refine z_getf O hK.1 (hX _) (by decide) me_0 rfl i12 2 (by decide) (by decide +kernel) rfl dX12_seenIn_99 ?_
                refine z_iload O dX12_seenIn_102 1 rfl ?_
                refine z_iald O hK.1 (hX _) 0 (mk_lt mk_2) (me_A mk_2) rfl (show vp_in ((8 * p1) + y7) (mlen 2) from h.1) dX12_seenIn_104 ?_
                replace h := h.2
                refine z_aload_n O dX12_seenIn_105 2 rfl ?_
                refine z_getf O hK.1 (hX _) (by decide) me_0 rfl i12 3 (by decide) (by decide +kernel) rfl dX12_seenIn_106 ?_
                refine z_iload O dX12_seenIn_109 1 rfl ?_
                refine z_iald O hK.1 (hX _) 0 (mk_lt mk_3) (me_A mk_3) rfl (show vp_in ((8 * p1) + y7) (mlen 3) from h.1) dX12_seenIn_111 ?_
                replace h := h.2
                refine z_callR (gKs D cs) hK (fun _ h => h.2) (t_X12_lightOf (gKs D cs) (x.2.1 2 (Int32.toNatClampNeg ((8 * p1) + y7))) (x.2.1 3 (Int32.toNatClampNeg ((8 * p1) + y7))) _ h) (zr_SS (As := [.int (x.2.1 2 (Int32.toNatClampNeg ((8 * p1) + y7))), .int (x.2.1 3 (Int32.toNatClampNeg ((8 * p1) + y7)))]) (rest := [.int 0, .int y5]) O hE.1 2 gX12_seenIn_X12_lightOf rfl rfl rfl (by decide +kernel) ⟨(Nat.le_of_ble_eq_true rfl), (Nat.le_of_ble_eq_true rfl)⟩ ⟨(Nat.le_of_ble_eq_true rfl), (Nat.le_of_ble_eq_true rfl)⟩ rfl rfl (Nat.le_of_ble_eq_true rfl) dX12_seenIn_112) (fun r10 h => ?_)
                refine z_icmp_gt O 130 dX12_seenIn_115 (by decide) (fun c11 => ?_) (fun c11 => ?_)
                · replace h := h.1 c11
                  refine z_iconst (v := 0) O dX12_seenIn_130 rfl ?_
                  refine z_ior O dX12_seenIn_131 ?_
                  refine z_istore (lv' := [(5, .int (y5 ||| 0)), (9, .int 0), (8, .int ((8 * p1) + y7)), (0, .ref (ad 0)), (1, .int p1), (4, .int y2), (6, .int y6), (7, .int y7)]) O dX12_seenIn_132 (by decide) rfl ?_
                  refine z_iload O dX12_seenIn_134 6 rfl ?_
                  refine z_aload_n O dX12_seenIn_136 3 rfl ?_
                  refine z_getf O hK.1 (hX _) (by decide) me_0 rfl i12 5 (by decide) (by decide +kernel) rfl dX12_seenIn_137 ?_
                  refine z_iload O dX12_seenIn_140 2 rfl ?_
                  refine z_iald O hK.1 (hX _) 0 (mk_lt mk_5) (me_A mk_5) rfl (show vp_in ((8 * p1) + y7) (mlen 5) from h.1) dX12_seenIn_142 ?_
                  replace h := h.2
                  refine z_iadd O dX12_seenIn_143 ?_
                  refine z_istore (lv' := [(6, .int (y6 + (x.2.1 5 (Int32.toNatClampNeg ((8 * p1) + y7))))), (5, .int (y5 ||| 0)), (9, .int 0), (8, .int ((8 * p1) + y7)), (0, .ref (ad 0)), (1, .int p1), (4, .int y2), (7, .int y7)]) O dX12_seenIn_144 (by decide) rfl ?_
                  refine z_iinc (lv' := [(7, .int (y7 + (-1))), (6, .int (y6 + (x.2.1 5 (Int32.toNatClampNeg ((8 * p1) + y7))))), (5, .int (y5 ||| 0)), (9, .int 0), (8, .int ((8 * p1) + y7)), (0, .ref (ad 0)), (1, .int p1), (4, .int y2)]) O dX12_seenIn_146 7 rfl rfl (by decide) rfl ?_
                  refine z_goto O 65 dX12_seenIn_149 (by decide) ?_
                  exact z_sub [5, 6, 7, 2, 1, 0] rfl (iI65 (y5 ||| 0) (y6 + (x.2.1 5 (Int32.toNatClampNeg ((8 * p1) + y7)))) (y7 + (-1)) (Nat.lt_of_lt_of_le h.2 (Nat.le_of_lt_succ uI65)) h.1)
                · replace h := h.2 c11
                  refine z_iconst (v := 1) O dX12_seenIn_118 rfl ?_
                  refine z_aload_n O dX12_seenIn_119 2 rfl ?_
                  refine z_getf O hK.1 (hX _) (by decide) me_0 rfl i12 3 (by decide) (by decide +kernel) rfl dX12_seenIn_120 ?_
                  refine z_iload O dX12_seenIn_123 1 rfl ?_
                  refine z_iald O hK.1 (hX _) 0 (mk_lt mk_3) (me_A mk_3) rfl (show vp_in ((8 * p1) + y7) (mlen 3) from h.1) dX12_seenIn_125 ?_
                  replace h := h.2
                  refine z_ishl O dX12_seenIn_126 ?_
                  refine z_goto O 131 dX12_seenIn_127 (by decide) ?_
                  refine z_ior O dX12_seenIn_131 ?_
                  refine z_istore (lv' := [(5, .int (y5 ||| (1 <<< ((x.2.1 3 (Int32.toNatClampNeg ((8 * p1) + y7))) &&& 31)))), (9, .int 0), (8, .int ((8 * p1) + y7)), (0, .ref (ad 0)), (1, .int p1), (4, .int y2), (6, .int y6), (7, .int y7)]) O dX12_seenIn_132 (by decide) rfl ?_
                  refine z_iload O dX12_seenIn_134 6 rfl ?_
                  refine z_aload_n O dX12_seenIn_136 3 rfl ?_
                  refine z_getf O hK.1 (hX _) (by decide) me_0 rfl i12 5 (by decide) (by decide +kernel) rfl dX12_seenIn_137 ?_
                  refine z_iload O dX12_seenIn_140 2 rfl ?_
                  refine z_iald O hK.1 (hX _) 0 (mk_lt mk_5) (me_A mk_5) rfl (show vp_in ((8 * p1) + y7) (mlen 5) from h.1) dX12_seenIn_142 ?_
                  replace h := h.2
                  refine z_iadd O dX12_seenIn_143 ?_
                  refine z_istore (lv' := [(6, .int (y6 + (x.2.1 5 (Int32.toNatClampNeg ((8 * p1) + y7))))), (5, .int (y5 ||| (1 <<< ((x.2.1 3 (Int32.toNatClampNeg ((8 * p1) + y7))) &&& 31)))), (9, .int 0), (8, .int ((8 * p1) + y7)), (0, .ref (ad 0)), (1, .int p1), (4, .int y2), (7, .int y7)]) O dX12_seenIn_144 (by decide) rfl ?_
                  refine z_iinc (lv' := [(7, .int (y7 + (-1))), (6, .int (y6 + (x.2.1 5 (Int32.toNatClampNeg ((8 * p1) + y7))))), (5, .int (y5 ||| (1 <<< ((x.2.1 3 (Int32.toNatClampNeg ((8 * p1) + y7))) &&& 31)))), (9, .int 0), (8, .int ((8 * p1) + y7)), (0, .ref (ad 0)), (1, .int p1), (4, .int y2)]) O dX12_seenIn_146 7 rfl rfl (by decide) rfl ?_
                  refine z_goto O 65 dX12_seenIn_149 (by decide) ?_
                  exact z_sub [5, 6, 7, 2, 1, 0] rfl (iI65 (y5 ||| (1 <<< ((x.2.1 3 (Int32.toNatClampNeg ((8 * p1) + y7))) &&& 31))) (y6 + (x.2.1 5 (Int32.toNatClampNeg ((8 * p1) + y7)))) (y7 + (-1)) (Nat.lt_of_lt_of_le h.2 (Nat.le_of_lt_succ uI65)) h.1)
        exact z_sub [3, 4, 6, 2, 1, 0] rfl (kI65 _ 0 (-y1) y2 (Nat.lt_succ_self _) h0)
      clear hJ
      refine z_if_lt O 54 dX12_seenIn_14 (by decide) (fun c15 => ?_) (fun c15 => ?_)
      · replace h := h.1 c15
        exact z_sub [0, 1, 2, 3] rfl (kJ54  h)
      · replace h := h.2 c15
        refine z_aload_n O dX12_seenIn_17 0 rfl ?_
        refine z_getf O hK.1 (hX _) (by decide) me_0 rfl i12 5 (by decide) (by decide +kernel) rfl dX12_seenIn_18 ?_
        refine z_bipush (v := 8) O dX12_seenIn_21 rfl ?_
        refine z_iload_n O dX12_seenIn_23 1 rfl ?_
        refine z_imul O dX12_seenIn_24 ?_
        refine z_iload O dX12_seenIn_25 3 rfl ?_
        refine z_iadd O dX12_seenIn_27 ?_
        refine z_iald O hK.1 (hX _) 0 (mk_lt mk_5) (me_A mk_5) rfl (show vp_in ((8 * p1) + y2) (mlen 5) from h.1) dX12_seenIn_28 ?_
        replace h := h.2
        refine z_iload_n O dX12_seenIn_29 2 rfl ?_
        refine z_icmp_gt O 54 dX12_seenIn_30 (by decide) (fun c14 => ?_) (fun c14 => ?_)
        · replace h := h.1 c14
          exact z_sub [0, 1, 2, 3] rfl (kJ54  h)
        · replace h := h.2 c14
          refine z_iload_n O dX12_seenIn_33 2 rfl ?_
          refine z_aload_n O dX12_seenIn_34 0 rfl ?_
          refine z_getf O hK.1 (hX _) (by decide) me_0 rfl i12 5 (by decide) (by decide +kernel) rfl dX12_seenIn_35 ?_
          refine z_bipush (v := 8) O dX12_seenIn_38 rfl ?_
          refine z_iload_n O dX12_seenIn_40 1 rfl ?_
          refine z_imul O dX12_seenIn_41 ?_
          refine z_iload O dX12_seenIn_42 3 rfl ?_
          refine z_iadd O dX12_seenIn_44 ?_
          refine z_iald O hK.1 (hX _) 0 (mk_lt mk_5) (me_A mk_5) rfl (show vp_in ((8 * p1) + y2) (mlen 5) from h.1) dX12_seenIn_45 ?_
          replace h := h.2
          refine z_isub O dX12_seenIn_46 ?_
          refine z_istore_n (lv' := [(3, .int (y1 - (x.2.1 5 (Int32.toNatClampNeg ((8 * p1) + y2))))), (0, .ref (ad 0)), (1, .int p1), (4, .int y2)]) O dX12_seenIn_47 (by decide) rfl ?_
          refine z_iinc (lv' := [(4, .int (y2 + (-1))), (3, .int (y1 - (x.2.1 5 (Int32.toNatClampNeg ((8 * p1) + y2))))), (0, .ref (ad 0)), (1, .int p1)]) O dX12_seenIn_48 3 rfl rfl (by decide) rfl ?_
          refine z_goto O 12 dX12_seenIn_51 (by decide) ?_
          exact z_sub [2, 3, 1, 0] rfl (iI12 (y1 - (x.2.1 5 (Int32.toNatClampNeg ((8 * p1) + y2)))) (y2 + (-1)) (Nat.lt_of_lt_of_le h.2 (Nat.le_of_lt_succ uI12)) h.1)
  exact z_sub [2, 3, 1, 0] rfl (kI12 _ p2 ((x.2.1 1 (Int32.toNatClampNeg p1)) - 1) (Nat.lt_succ_self _) h0)
def wp_X12_seenBy (x : MS)  (p1 : Int32) (p2 : Int32) (Q : Int32 → Prop) : Prop :=
 (∃ (I5 : Int32 → Int32 → Prop) (U5 : Int32 → Int32 → Nat), I5 0 0 ∧ ∀ (y1 : Int32) (y2 : Int32), I5 y1 y2 →
 ((6 ≤ y2 →
 Q y1) ∧ (¬ 6 ≤ y2 →
 ((¬ ((p1 >>> (y2 &&& 31)) &&& 1) = 1 →
 (I5 (y1 ||| 0) (y2 + 1) ∧ U5 (y1 ||| 0) (y2 + 1) < U5 y1 y2)) ∧ (((p1 >>> (y2 &&& 31)) &&& 1) = 1 →
 wp_X12_seenIn x y2 p2 (fun r3 : Int32 =>
 (I5 (y1 ||| r3) (y2 + 1) ∧ U5 (y1 ||| r3) (y2 + 1) < U5 y1 y2)))))))
set_option maxHeartbeats 4000000 in
set_option maxRecDepth 100000 in
theorem t_X12_seenBy {l : Launch} {D : va_G} {cs : Nat → ClassId} {ad : Nat → Nat} (x : MS)  (p1 : Int32) (p2 : Int32) (Q : Int32 → Prop) (h : wp_X12_seenBy x  p1 p2 Q) : zMR l yX12_seenBy wsX12_seenBy ({ frames := 2, cells := 0, slots := 0, locals := 50 } : Room) (gK D cs) (MH D cs ad) x [.ref (ad 0), .int p1, .int p2] Q := by
  refine zMR_of (cc := cX12_seenBy) (nL := 5) (ret := (some .int)) (by decide +kernel) rfl (Nat.le_of_ble_eq_true rfl) (fun C hl O hE hK hH => ?_)
  subst hl
  have hX : ∀ (x : MS) (H : Heap), z0 (MH D cs ad) C.s.heap x H → va_P D vwCl (wl 18 ad (ME cs ad x)) H := fun _ _ h => h.2
  refine z_sub (lv' := [(0, .ref (ad 0)), (1, .int p1), (2, .int p2)]) [0, 1, 2] rfl ?_
  refine z_iconst (v := 0) O dX12_seenBy_0 rfl ?_
  refine z_istore_n (lv' := [(3, .int 0), (0, .ref (ad 0)), (1, .int p1), (2, .int p2)]) O dX12_seenBy_1 (by decide) rfl ?_
  refine z_iconst (v := 0) O dX12_seenBy_2 rfl ?_
  refine z_istore (lv' := [(4, .int 0), (3, .int 0), (0, .ref (ad 0)), (1, .int p1), (2, .int p2)]) O dX12_seenBy_3 (by decide) rfl ?_
  obtain ⟨I5, U5, h0, hs⟩ := h
  have kI5 : ∀ (n : Nat) (y1 : Int32) (y2 : Int32), U5 y1 y2 < n → I5 y1 y2 → Z C (fun _ => False) (z0 (MH D cs ad) C.s.heap) 5 x [(0, .ref (ad 0)), (1, .int p1), (2, .int p2), (3, .int y1), (4, .int y2)] 0 0 5 [] := by
    intro n
    induction n with
    | zero => intro y1 y2 uI5; exact absurd uI5 (Nat.not_lt_zero _)
    | succ n iI5 =>
      intro y1 y2 uI5 h
      have h := hs y1 y2 h
      refine z_iload O dX12_seenBy_5 4 rfl ?_
      refine z_bipush (v := 6) O dX12_seenBy_7 rfl ?_
      refine z_icmp_ge O 42 dX12_seenBy_9 (by decide) (fun c5 => ?_) (fun c5 => ?_)
      · replace h := h.1 c5
        refine z_iload_n O dX12_seenBy_42 3 rfl ?_
        exact z_retR O hE (fun _ h => h.1) rfl dX12_seenBy_43 h
      · replace h := h.2 c5
        refine z_iload_n O dX12_seenBy_12 3 rfl ?_
        refine z_iload_n O dX12_seenBy_13 1 rfl ?_
        refine z_iload O dX12_seenBy_14 4 rfl ?_
        refine z_ishr O dX12_seenBy_16 ?_
        refine z_iconst (v := 1) O dX12_seenBy_17 rfl ?_
        refine z_iand O dX12_seenBy_18 ?_
        refine z_iconst (v := 1) O dX12_seenBy_19 rfl ?_
        refine z_icmp_ne O 33 dX12_seenBy_20 (by decide) (fun c4 => ?_) (fun c4 => ?_)
        · replace h := h.1 c4
          refine z_iconst (v := 0) O dX12_seenBy_33 rfl ?_
          refine z_ior O dX12_seenBy_34 ?_
          refine z_istore_n (lv' := [(3, .int (y1 ||| 0)), (0, .ref (ad 0)), (1, .int p1), (2, .int p2), (4, .int y2)]) O dX12_seenBy_35 (by decide) rfl ?_
          refine z_iinc (lv' := [(4, .int (y2 + 1)), (3, .int (y1 ||| 0)), (0, .ref (ad 0)), (1, .int p1), (2, .int p2)]) O dX12_seenBy_36 4 rfl rfl (by decide) rfl ?_
          refine z_goto O 5 dX12_seenBy_39 (by decide) ?_
          exact z_sub [2, 3, 4, 1, 0] rfl (iI5 (y1 ||| 0) (y2 + 1) (Nat.lt_of_lt_of_le h.2 (Nat.le_of_lt_succ uI5)) h.1)
        · replace h := h.2 c4
          refine z_aload_n O dX12_seenBy_23 0 rfl ?_
          refine z_iload O dX12_seenBy_24 4 rfl ?_
          refine z_iload_n O dX12_seenBy_26 2 rfl ?_
          refine z_callR (gKs D cs) hK (fun _ h => h.2) (t_X12_seenIn x  y2 p2 _ h) (zr_V (As := [.int y2, .int p2]) (rest := [.int y1]) O hE.1 2 gX12_seenBy_X12_seenIn rfl rfl rfl (by decide +kernel) ⟨(Nat.le_of_ble_eq_true rfl), (Nat.le_of_ble_eq_true rfl)⟩ ⟨(Nat.le_of_ble_eq_true rfl), (Nat.le_of_ble_eq_true rfl)⟩ (fun H hH => z_recv hK.1 (hX _ H hH) (by decide) me_0 rfl) rfl rfl (Nat.le_of_ble_eq_true rfl) dX12_seenBy_27) (fun r3 h => ?_)
          refine z_goto O 34 dX12_seenBy_30 (by decide) ?_
          refine z_ior O dX12_seenBy_34 ?_
          refine z_istore_n (lv' := [(3, .int (y1 ||| r3)), (0, .ref (ad 0)), (1, .int p1), (2, .int p2), (4, .int y2)]) O dX12_seenBy_35 (by decide) rfl ?_
          refine z_iinc (lv' := [(4, .int (y2 + 1)), (3, .int (y1 ||| r3)), (0, .ref (ad 0)), (1, .int p1), (2, .int p2)]) O dX12_seenBy_36 4 rfl rfl (by decide) rfl ?_
          refine z_goto O 5 dX12_seenBy_39 (by decide) ?_
          exact z_sub [2, 3, 4, 1, 0] rfl (iI5 (y1 ||| r3) (y2 + 1) (Nat.lt_of_lt_of_le h.2 (Nat.le_of_lt_succ uI5)) h.1)
  exact z_sub [2, 3, 4, 1, 0] rfl (kI5 _ 0 0 (Nat.lt_succ_self _) h0)
def wp_X12_seen (x : MS)  (p1 : Int32) (p2 : Int32) (Q : Int32 → MS → Prop) : Prop :=
 (∀ x1 : MS, x1 = mI x 6 0 →
 wp_X12_in (Int32.toInt64 p1) 0 63 (fun r2 : Int32 =>
 ((r2 = 0 →
 Q (-1) x1) ∧ (¬ r2 = 0 →
 wp_X12_in (Int32.toInt64 p2) 0 99 (fun r3 : Int32 =>
 ((r3 = 0 →
 Q (-1) x1) ∧ (¬ r3 = 0 →
 wp_X12_seenBy x1 p1 p2 (fun r4 : Int32 =>
 Q r4 x1))))))))
set_option maxHeartbeats 4000000 in
set_option maxRecDepth 100000 in
theorem t_X12_seen {l : Launch} {D : va_G} {cs : Nat → ClassId} {ad : Nat → Nat} (hI : wInj 18 ad) (x : MS)  (p1 : Int32) (p2 : Int32) (Q : Int32 → MS → Prop) (h : wp_X12_seen x  p1 p2 Q) : zWR l yX12_seen wsX12_seen ({ frames := 3, cells := 0, slots := 0, locals := 74 } : Room) (gK D cs) (MH D cs ad) (wB 18 ad) x [.ref (ad 0), .int p1, .int p2] 0 0 Q := by
  refine zWR_of (cc := cX12_seen) (nL := 3) (ret := (some .int)) (by decide +kernel) rfl (Nat.le_of_ble_eq_true rfl) (fun C hl O hE hK => ?_)
  subst hl
  have hX : ∀ (x : MS) (H : Heap), MH D cs ad x H → va_P D vwCl (wl 18 ad (ME cs ad x)) H := fun _ _ h => h
  have hB : ∀ {x : MS} (H : Heap), va_P D vwCl (wl 18 ad (ME cs ad x)) H → MH D cs ad x H := fun _ h => h
  have hA : ∀ q, wB 18 ad q → zA (wB 18 ad) C.s.heap.size q := fun _ h => Or.inl h
  have i12 : ∀ w ∈ wsX120, w ∈ wsX12_seen := by decide +kernel
  refine z_sub (lv' := [(0, .ref (ad 0)), (1, .int p1), (2, .int p2)]) [0, 1, 2] rfl ?_
  refine z_aload_n O dX12_seen_0 0 rfl ?_
  refine z_iconst (v := 0) O dX12_seen_1 rfl ?_
  obtain ⟨x1, ex1⟩ : ∃ z, z = mI x 6 0 := ⟨_, rfl⟩
  replace h := h x1 ex1
  refine z_putf (x' := x1) (ty := .int) O hK.1 (hX _) hB hI hA (by decide) me_0 rfl i12 tyX12 tyX12_ok nmX12 6 (by decide) (by decide +kernel) rfl (by decide +kernel) rfl rfl (Nat.le_of_ble_eq_true rfl) (by rw [ex1]; exact me_put rfl rfl rfl) dX12_seen_2 ?_
  refine z_iload_n O dX12_seen_5 1 rfl ?_
  refine z_i2l O dX12_seen_6 ?_
  refine z_lconst (v := 0) O dX12_seen_7 rfl ?_
  refine z_ldc2 (v := 63) O (by decide +kernel) dX12_seen_8 ?_
  refine z_callR (gKs D cs) hK (fun _ h => h) (t_X12_in (gKs D cs) (Int32.toInt64 p1) 0 63 _ h) (zr_SS (As := [.long (Int32.toInt64 p1), .long 0, .long 63]) (rest := []) O hE.1 3 gX12_seen_X12_in rfl rfl rfl (by decide +kernel) ⟨(Nat.le_of_ble_eq_true rfl), (Nat.le_of_ble_eq_true rfl)⟩ ⟨(Nat.le_of_ble_eq_true rfl), (Nat.le_of_ble_eq_true rfl)⟩ rfl rfl (Nat.le_of_ble_eq_true rfl) dX12_seen_11) (fun r2 h => ?_)
  refine z_if_eq O 38 dX12_seen_14 (by decide) (fun c6 => ?_) (fun c6 => ?_)
  · replace h := h.1 c6
    refine z_iconst (v := -1) O dX12_seen_38 rfl ?_
    exact z_retWR O hE (Nat.le_of_ble_eq_true rfl) (Nat.le_of_ble_eq_true rfl) rfl dX12_seen_39 h
  · replace h := h.2 c6
    refine z_iload_n O dX12_seen_17 2 rfl ?_
    refine z_i2l O dX12_seen_18 ?_
    refine z_lconst (v := 0) O dX12_seen_19 rfl ?_
    refine z_ldc2 (v := 99) O (by decide +kernel) dX12_seen_20 ?_
    refine z_callR (gKs D cs) hK (fun _ h => h) (t_X12_in (gKs D cs) (Int32.toInt64 p2) 0 99 _ h) (zr_SS (As := [.long (Int32.toInt64 p2), .long 0, .long 99]) (rest := []) O hE.1 3 gX12_seen_X12_in rfl rfl rfl (by decide +kernel) ⟨(Nat.le_of_ble_eq_true rfl), (Nat.le_of_ble_eq_true rfl)⟩ ⟨(Nat.le_of_ble_eq_true rfl), (Nat.le_of_ble_eq_true rfl)⟩ rfl rfl (Nat.le_of_ble_eq_true rfl) dX12_seen_23) (fun r3 h => ?_)
    refine z_if_eq O 38 dX12_seen_26 (by decide) (fun c5 => ?_) (fun c5 => ?_)
    · replace h := h.1 c5
      refine z_iconst (v := -1) O dX12_seen_38 rfl ?_
      exact z_retWR O hE (Nat.le_of_ble_eq_true rfl) (Nat.le_of_ble_eq_true rfl) rfl dX12_seen_39 h
    · replace h := h.2 c5
      refine z_aload_n O dX12_seen_29 0 rfl ?_
      refine z_iload_n O dX12_seen_30 1 rfl ?_
      refine z_iload_n O dX12_seen_31 2 rfl ?_
      refine z_callR (gKs D cs) hK (fun _ h => h) (t_X12_seenBy x1  p1 p2 _ h) (zr_V (As := [.int p1, .int p2]) (rest := []) O hE.1 2 gX12_seen_X12_seenBy rfl rfl rfl (by decide +kernel) ⟨(Nat.le_of_ble_eq_true rfl), (Nat.le_of_ble_eq_true rfl)⟩ ⟨(Nat.le_of_ble_eq_true rfl), (Nat.le_of_ble_eq_true rfl)⟩ (fun H hH => z_recv hK.1 (hX _ H hH) (by decide) me_0 rfl) rfl rfl (Nat.le_of_ble_eq_true rfl) dX12_seen_32) (fun r4 h => ?_)
      refine z_goto O 39 dX12_seen_35 (by decide) ?_
      exact z_retWR O hE (Nat.le_of_ble_eq_true rfl) (Nat.le_of_ble_eq_true rfl) rfl dX12_seen_39 h
def wp_X12_ones   (p0 : Int32) (Q : Int32 → Prop) : Prop :=
 (∃ (I4 : Int32 → Int32 → Prop) (U4 : Int32 → Int32 → Nat), I4 0 0 ∧ ∀ (y1 : Int32) (y2 : Int32), I4 y1 y2 →
 ((10 ≤ y2 →
 Q y1) ∧ (¬ 10 ≤ y2 →
 (I4 (y1 + ((p0 >>> (y2 &&& 31)) &&& 1)) (y2 + 1) ∧ U4 (y1 + ((p0 >>> (y2 &&& 31)) &&& 1)) (y2 + 1) < U4 y1 y2))))
set_option maxHeartbeats 4000000 in
set_option maxRecDepth 100000 in
theorem t_X12_ones {σ : Type} {l : Launch} {Ks : State → Prop} (hKs : zKs Ks) {Hx : σ → Heap → Prop} {x : σ} (p0 : Int32) (Q : Int32 → Prop) (h : wp_X12_ones  p0 Q) : zMR l yX12_ones wsX12_ones ({ frames := 0, cells := 0, slots := 0, locals := 0 } : Room) Ks Hx x [.int p0] Q := by
  refine zMR_of (cc := cX12_ones) (nL := 3) (ret := (some .int)) (by decide +kernel) rfl (Nat.le_of_ble_eq_true rfl) (fun C hl O hE hK hH => ?_)
  subst hl
  refine z_sub (lv' := [(0, .int p0)]) [0] rfl ?_
  refine z_iconst (v := 0) O dX12_ones_0 rfl ?_
  refine z_istore_n (lv' := [(1, .int 0), (0, .int p0)]) O dX12_ones_1 (by decide) rfl ?_
  refine z_iconst (v := 0) O dX12_ones_2 rfl ?_
  refine z_istore_n (lv' := [(2, .int 0), (1, .int 0), (0, .int p0)]) O dX12_ones_3 (by decide) rfl ?_
  obtain ⟨I4, U4, h0, hs⟩ := h
  have kI4 : ∀ (n : Nat) (y1 : Int32) (y2 : Int32), U4 y1 y2 < n → I4 y1 y2 → Z C (fun _ => False) (z0 Hx C.s.heap) 3 x [(0, .int p0), (1, .int y1), (2, .int y2)] 0 0 4 [] := by
    intro n
    induction n with
    | zero => intro y1 y2 uI4; exact absurd uI4 (Nat.not_lt_zero _)
    | succ n iI4 =>
      intro y1 y2 uI4 h
      have h := hs y1 y2 h
      refine z_iload_n O dX12_ones_4 2 rfl ?_
      refine z_bipush (v := 10) O dX12_ones_5 rfl ?_
      refine z_icmp_ge O 24 dX12_ones_7 (by decide) (fun c3 => ?_) (fun c3 => ?_)
      · replace h := h.1 c3
        refine z_iload_n O dX12_ones_24 1 rfl ?_
        exact z_retR O hE (fun _ h => h.1) rfl dX12_ones_25 h
      · replace h := h.2 c3
        refine z_iload_n O dX12_ones_10 1 rfl ?_
        refine z_iload_n O dX12_ones_11 0 rfl ?_
        refine z_iload_n O dX12_ones_12 2 rfl ?_
        refine z_ishr O dX12_ones_13 ?_
        refine z_iconst (v := 1) O dX12_ones_14 rfl ?_
        refine z_iand O dX12_ones_15 ?_
        refine z_iadd O dX12_ones_16 ?_
        refine z_istore_n (lv' := [(1, .int (y1 + ((p0 >>> (y2 &&& 31)) &&& 1))), (0, .int p0), (2, .int y2)]) O dX12_ones_17 (by decide) rfl ?_
        refine z_iinc (lv' := [(2, .int (y2 + 1)), (1, .int (y1 + ((p0 >>> (y2 &&& 31)) &&& 1))), (0, .int p0)]) O dX12_ones_18 2 rfl rfl (by decide) rfl ?_
        refine z_goto O 4 dX12_ones_21 (by decide) ?_
        exact z_sub [2, 1, 0] rfl (iI4 (y1 + ((p0 >>> (y2 &&& 31)) &&& 1)) (y2 + 1) (Nat.lt_of_lt_of_le h.2 (Nat.le_of_lt_succ uI4)) h.1)
  exact z_sub [2, 1, 0] rfl (kI4 _ 0 0 (Nat.lt_succ_self _) h0)
def wp_X12_holes (x : MS)  (p1 : Int32) (p2 : Int32) (Q : Int32 → MS → Prop) : Prop :=
 (∀ x1 : MS, x1 = mI x 6 0 →
 wp_X12_in (Int32.toInt64 p1) 0 1023 (fun r2 : Int32 =>
 ((r2 = 0 →
 Q (-1) x1) ∧ (¬ r2 = 0 →
 wp_X12_in (Int32.toInt64 p2) 0 99 (fun r3 : Int32 =>
 ((¬ r3 = 0 →
 (∃ (I37 : Int32 → Int32 → Prop) (U37 : Int32 → Int32 → Nat), I37 (-4) 0 ∧ ∀ (y4 : Int32) (y5 : Int32), I37 y4 y5 →
 ((64 ≤ y5 →
 Q y4 x1) ∧ (¬ 64 ≤ y5 →
 wp_X12_seenBy x1 y5 p2 (fun r6 : Int32 =>
 ((¬ (p1 &&& (r6 ^^^ (-1))) = 0 →
 (I37 y4 (y5 + 1) ∧ U37 y4 (y5 + 1) < U37 y4 y5)) ∧ ((p1 &&& (r6 ^^^ (-1))) = 0 →
 ((y4 < 0 →
 (I37 y5 (y5 + 1) ∧ U37 y5 (y5 + 1) < U37 y4 y5)) ∧ (¬ y4 < 0 →
 wp_X12_ones y5 (fun r7 : Int32 =>
 wp_X12_ones y4 (fun r8 : Int32 =>
 ((r8 ≤ r7 →
 (I37 y4 (y5 + 1) ∧ U37 y4 (y5 + 1) < U37 y4 y5)) ∧ (¬ r8 ≤ r7 →
 (I37 y5 (y5 + 1) ∧ U37 y5 (y5 + 1) < U37 y4 y5)))))))))))))) ∧ (r3 = 0 →
 Q (-1) x1)))))))
set_option maxHeartbeats 4000000 in
set_option maxRecDepth 100000 in
theorem t_X12_holes {l : Launch} {D : va_G} {cs : Nat → ClassId} {ad : Nat → Nat} (hI : wInj 18 ad) (x : MS)  (p1 : Int32) (p2 : Int32) (Q : Int32 → MS → Prop) (h : wp_X12_holes x  p1 p2 Q) : zWR l yX12_holes wsX12_holes ({ frames := 3, cells := 0, slots := 0, locals := 74 } : Room) (gK D cs) (MH D cs ad) (wB 18 ad) x [.ref (ad 0), .int p1, .int p2] 0 0 Q := by
  refine zWR_of (cc := cX12_holes) (nL := 6) (ret := (some .int)) (by decide +kernel) rfl (Nat.le_of_ble_eq_true rfl) (fun C hl O hE hK => ?_)
  subst hl
  have hX : ∀ (x : MS) (H : Heap), MH D cs ad x H → va_P D vwCl (wl 18 ad (ME cs ad x)) H := fun _ _ h => h
  have hB : ∀ {x : MS} (H : Heap), va_P D vwCl (wl 18 ad (ME cs ad x)) H → MH D cs ad x H := fun _ h => h
  have hA : ∀ q, wB 18 ad q → zA (wB 18 ad) C.s.heap.size q := fun _ h => Or.inl h
  have i12 : ∀ w ∈ wsX120, w ∈ wsX12_holes := by decide +kernel
  refine z_sub (lv' := [(0, .ref (ad 0)), (1, .int p1), (2, .int p2)]) [0, 1, 2] rfl ?_
  refine z_aload_n O dX12_holes_0 0 rfl ?_
  refine z_iconst (v := 0) O dX12_holes_1 rfl ?_
  obtain ⟨x1, ex1⟩ : ∃ z, z = mI x 6 0 := ⟨_, rfl⟩
  replace h := h x1 ex1
  refine z_putf (x' := x1) (ty := .int) O hK.1 (hX _) hB hI hA (by decide) me_0 rfl i12 tyX12 tyX12_ok nmX12 6 (by decide) (by decide +kernel) rfl (by decide +kernel) rfl rfl (Nat.le_of_ble_eq_true rfl) (by rw [ex1]; exact me_put rfl rfl rfl) dX12_holes_2 ?_
  refine z_iload_n O dX12_holes_5 1 rfl ?_
  refine z_i2l O dX12_holes_6 ?_
  refine z_lconst (v := 0) O dX12_holes_7 rfl ?_
  refine z_ldc2 (v := 1023) O (by decide +kernel) dX12_holes_8 ?_
  refine z_callR (gKs D cs) hK (fun _ h => h) (t_X12_in (gKs D cs) (Int32.toInt64 p1) 0 1023 _ h) (zr_SS (As := [.long (Int32.toInt64 p1), .long 0, .long 1023]) (rest := []) O hE.1 3 gX12_holes_X12_in rfl rfl rfl (by decide +kernel) ⟨(Nat.le_of_ble_eq_true rfl), (Nat.le_of_ble_eq_true rfl)⟩ ⟨(Nat.le_of_ble_eq_true rfl), (Nat.le_of_ble_eq_true rfl)⟩ rfl rfl (Nat.le_of_ble_eq_true rfl) dX12_holes_11) (fun r2 h => ?_)
  refine z_if_eq O 29 dX12_holes_14 (by decide) (fun c14 => ?_) (fun c14 => ?_)
  · replace h := h.1 c14
    refine z_iconst (v := -1) O dX12_holes_29 rfl ?_
    exact z_retWR O hE (Nat.le_of_ble_eq_true rfl) (Nat.le_of_ble_eq_true rfl) rfl dX12_holes_30 h
  · replace h := h.2 c14
    refine z_iload_n O dX12_holes_17 2 rfl ?_
    refine z_i2l O dX12_holes_18 ?_
    refine z_lconst (v := 0) O dX12_holes_19 rfl ?_
    refine z_ldc2 (v := 99) O (by decide +kernel) dX12_holes_20 ?_
    refine z_callR (gKs D cs) hK (fun _ h => h) (t_X12_in (gKs D cs) (Int32.toInt64 p2) 0 99 _ h) (zr_SS (As := [.long (Int32.toInt64 p2), .long 0, .long 99]) (rest := []) O hE.1 3 gX12_holes_X12_in rfl rfl rfl (by decide +kernel) ⟨(Nat.le_of_ble_eq_true rfl), (Nat.le_of_ble_eq_true rfl)⟩ ⟨(Nat.le_of_ble_eq_true rfl), (Nat.le_of_ble_eq_true rfl)⟩ rfl rfl (Nat.le_of_ble_eq_true rfl) dX12_holes_23) (fun r3 h => ?_)
    refine z_if_ne O 31 dX12_holes_26 (by decide) (fun c13 => ?_) (fun c13 => ?_)
    · replace h := h.1 c13
      refine z_bipush (v := -4) O dX12_holes_31 rfl ?_
      refine z_istore_n (lv' := [(3, .int (-4)), (0, .ref (ad 0)), (1, .int p1), (2, .int p2)]) O dX12_holes_33 (by decide) rfl ?_
      refine z_iconst (v := 0) O dX12_holes_34 rfl ?_
      refine z_istore (lv' := [(4, .int 0), (3, .int (-4)), (0, .ref (ad 0)), (1, .int p1), (2, .int p2)]) O dX12_holes_35 (by decide) rfl ?_
      obtain ⟨I37, U37, h0, hs⟩ := h
      have kI37 : ∀ (n : Nat) (y4 : Int32) (y5 : Int32), U37 y4 y5 < n → I37 y4 y5 → Z C (zA (wB 18 ad) C.s.heap.size) (MH D cs ad) 6 x1 [(0, .ref (ad 0)), (1, .int p1), (2, .int p2), (3, .int y4), (4, .int y5)] 0 0 37 [] := by
        intro n
        induction n with
        | zero => intro y4 y5 uI37; exact absurd uI37 (Nat.not_lt_zero _)
        | succ n iI37 =>
          intro y4 y5 uI37 h
          have h := hs y4 y5 h
          refine z_iload O dX12_holes_37 4 rfl ?_
          refine z_bipush (v := 64) O dX12_holes_39 rfl ?_
          refine z_icmp_ge O 99 dX12_holes_41 (by decide) (fun c12 => ?_) (fun c12 => ?_)
          · replace h := h.1 c12
            refine z_iload_n O dX12_holes_99 3 rfl ?_
            exact z_retWR O hE (Nat.le_of_ble_eq_true rfl) (Nat.le_of_ble_eq_true rfl) rfl dX12_holes_100 h
          · replace h := h.2 c12
            refine z_iload_n O dX12_holes_44 1 rfl ?_
            refine z_aload_n O dX12_holes_45 0 rfl ?_
            refine z_iload O dX12_holes_46 4 rfl ?_
            refine z_iload_n O dX12_holes_48 2 rfl ?_
            refine z_callR (gKs D cs) hK (fun _ h => h) (t_X12_seenBy x1  y5 p2 _ h) (zr_V (As := [.int y5, .int p2]) (rest := [.int p1]) O hE.1 2 gX12_holes_X12_seenBy rfl rfl rfl (by decide +kernel) ⟨(Nat.le_of_ble_eq_true rfl), (Nat.le_of_ble_eq_true rfl)⟩ ⟨(Nat.le_of_ble_eq_true rfl), (Nat.le_of_ble_eq_true rfl)⟩ (fun H hH => z_recv hK.1 (hX _ H hH) (by decide) me_0 rfl) rfl rfl (Nat.le_of_ble_eq_true rfl) dX12_holes_49) (fun r6 h => ?_)
            refine z_iconst (v := -1) O dX12_holes_52 rfl ?_
            refine z_ixor O dX12_holes_53 ?_
            refine z_iand O dX12_holes_54 ?_
            refine z_if_ne O 62 dX12_holes_55 (by decide) (fun c11 => ?_) (fun c11 => ?_)
            · replace h := h.1 c11
              refine z_iconst (v := 0) O dX12_holes_62 rfl ?_
              refine z_istore (lv' := [(5, .int 0), (0, .ref (ad 0)), (1, .int p1), (2, .int p2), (3, .int y4), (4, .int y5)]) O dX12_holes_63 (by decide) rfl ?_
              refine z_iload O dX12_holes_65 0 rfl ?_
              refine z_if_eq O 91 dX12_holes_67 (by decide) (fun _ => ?_) (fun c => absurd c (by decide))
              refine z_iload_n O dX12_holes_91 4 rfl ?_
              refine z_istore_n (lv' := [(3, .int y4), (5, .int 0), (0, .ref (ad 0)), (1, .int p1), (2, .int p2), (4, .int y5)]) O dX12_holes_92 (by decide) rfl ?_
              refine z_iinc (lv' := [(4, .int (y5 + 1)), (3, .int y4), (5, .int 0), (0, .ref (ad 0)), (1, .int p1), (2, .int p2)]) O dX12_holes_93 5 rfl rfl (by decide) rfl ?_
              refine z_goto O 37 dX12_holes_96 (by decide) ?_
              exact z_sub [3, 4, 5, 1, 0] rfl (iI37 y4 (y5 + 1) (Nat.lt_of_lt_of_le h.2 (Nat.le_of_lt_succ uI37)) h.1)
            · replace h := h.2 c11
              refine z_iconst (v := 1) O dX12_holes_58 rfl ?_
              refine z_goto O 63 dX12_holes_59 (by decide) ?_
              refine z_istore (lv' := [(5, .int 1), (0, .ref (ad 0)), (1, .int p1), (2, .int p2), (3, .int y4), (4, .int y5)]) O dX12_holes_63 (by decide) rfl ?_
              refine z_iload O dX12_holes_65 0 rfl ?_
              refine z_if_eq O 91 dX12_holes_67 (by decide) (fun c => absurd c (by decide)) (fun _ => ?_)
              refine z_iload_n O dX12_holes_70 4 rfl ?_
              refine z_if_lt O 86 dX12_holes_71 (by decide) (fun c10 => ?_) (fun c10 => ?_)
              · replace h := h.1 c10
                refine z_iload O dX12_holes_86 5 rfl ?_
                refine z_goto O 92 dX12_holes_88 (by decide) ?_
                refine z_istore_n (lv' := [(3, .int y5), (5, .int 1), (0, .ref (ad 0)), (1, .int p1), (2, .int p2), (4, .int y5)]) O dX12_holes_92 (by decide) rfl ?_
                refine z_iinc (lv' := [(4, .int (y5 + 1)), (3, .int y5), (5, .int 1), (0, .ref (ad 0)), (1, .int p1), (2, .int p2)]) O dX12_holes_93 5 rfl rfl (by decide) rfl ?_
                refine z_goto O 37 dX12_holes_96 (by decide) ?_
                exact z_sub [3, 4, 5, 1, 0] rfl (iI37 y5 (y5 + 1) (Nat.lt_of_lt_of_le h.2 (Nat.le_of_lt_succ uI37)) h.1)
              · replace h := h.2 c10
                refine z_iload O dX12_holes_74 5 rfl ?_
                refine z_callR (gKs D cs) hK (fun _ h => h) (t_X12_ones (gKs D cs) y5 _ h) (zr_SS (As := [.int y5]) (rest := []) O hE.1 1 gX12_holes_X12_ones rfl rfl rfl (by decide +kernel) ⟨(Nat.le_of_ble_eq_true rfl), (Nat.le_of_ble_eq_true rfl)⟩ ⟨(Nat.le_of_ble_eq_true rfl), (Nat.le_of_ble_eq_true rfl)⟩ rfl rfl (Nat.le_of_ble_eq_true rfl) dX12_holes_76) (fun r7 h => ?_)
                refine z_iload_n O dX12_holes_79 4 rfl ?_
                refine z_callR (gKs D cs) hK (fun _ h => h) (t_X12_ones (gKs D cs) y4 _ h) (zr_SS (As := [.int y4]) (rest := [.int r7]) O hE.1 1 gX12_holes_X12_ones rfl rfl rfl (by decide +kernel) ⟨(Nat.le_of_ble_eq_true rfl), (Nat.le_of_ble_eq_true rfl)⟩ ⟨(Nat.le_of_ble_eq_true rfl), (Nat.le_of_ble_eq_true rfl)⟩ rfl rfl (Nat.le_of_ble_eq_true rfl) dX12_holes_80) (fun r8 h => ?_)
                refine z_icmp_ge O 91 dX12_holes_83 (by decide) (fun c9 => ?_) (fun c9 => ?_)
                · replace h := h.1 c9
                  refine z_iload_n O dX12_holes_91 4 rfl ?_
                  refine z_istore_n (lv' := [(3, .int y4), (5, .int 1), (0, .ref (ad 0)), (1, .int p1), (2, .int p2), (4, .int y5)]) O dX12_holes_92 (by decide) rfl ?_
                  refine z_iinc (lv' := [(4, .int (y5 + 1)), (3, .int y4), (5, .int 1), (0, .ref (ad 0)), (1, .int p1), (2, .int p2)]) O dX12_holes_93 5 rfl rfl (by decide) rfl ?_
                  refine z_goto O 37 dX12_holes_96 (by decide) ?_
                  exact z_sub [3, 4, 5, 1, 0] rfl (iI37 y4 (y5 + 1) (Nat.lt_of_lt_of_le h.2 (Nat.le_of_lt_succ uI37)) h.1)
                · replace h := h.2 c9
                  refine z_iload O dX12_holes_86 5 rfl ?_
                  refine z_goto O 92 dX12_holes_88 (by decide) ?_
                  refine z_istore_n (lv' := [(3, .int y5), (5, .int 1), (0, .ref (ad 0)), (1, .int p1), (2, .int p2), (4, .int y5)]) O dX12_holes_92 (by decide) rfl ?_
                  refine z_iinc (lv' := [(4, .int (y5 + 1)), (3, .int y5), (5, .int 1), (0, .ref (ad 0)), (1, .int p1), (2, .int p2)]) O dX12_holes_93 5 rfl rfl (by decide) rfl ?_
                  refine z_goto O 37 dX12_holes_96 (by decide) ?_
                  exact z_sub [3, 4, 5, 1, 0] rfl (iI37 y5 (y5 + 1) (Nat.lt_of_lt_of_le h.2 (Nat.le_of_lt_succ uI37)) h.1)
      exact z_sub [2, 3, 4, 1, 0] rfl (kI37 _ (-4) 0 (Nat.lt_succ_self _) h0)
    · replace h := h.2 c13
      refine z_iconst (v := -1) O dX12_holes_29 rfl ?_
      exact z_retWR O hE (Nat.le_of_ble_eq_true rfl) (Nat.le_of_ble_eq_true rfl) rfl dX12_holes_30 h
def wp_X12_lastsOf (x : MS)  (p1 : Int32) (p2 : Int32) (Q : Int32 → Prop) : Prop :=
 (∃ (I5 : Int32 → Int32 → Prop) (U5 : Int32 → Int32 → Nat), I5 0 p2 ∧ ∀ (y1 : Int32) (y2 : Int32), I5 y1 y2 →
 (vp_in p1 6 ∧
 (((x.2.1 1 (Int32.toNatClampNeg p1)) ≤ y2 →
 Q y1) ∧ (¬ (x.2.1 1 (Int32.toNatClampNeg p1)) ≤ y2 →
 (vp_in ((8 * p1) + y2) 48 ∧
 (vp_in ((8 * p1) + y2) 48 ∧
 wp_X12_meltsOf (x.2.1 2 (Int32.toNatClampNeg ((8 * p1) + y2))) (x.2.1 3 (Int32.toNatClampNeg ((8 * p1) + y2))) (fun r3 : Int32 =>
 (vp_in ((8 * p1) + y2) 48 ∧
 ((¬ r3 = 0) ∧
 (I5 (y1 + ((((x.2.1 5 (Int32.toNatClampNeg ((8 * p1) + y2))) + r3) - 1) / r3)) (y2 + 1) ∧ U5 (y1 + ((((x.2.1 5 (Int32.toNatClampNeg ((8 * p1) + y2))) + r3) - 1) / r3)) (y2 + 1) < U5 y1 y2))))))))))
set_option maxHeartbeats 4000000 in
set_option maxRecDepth 100000 in
theorem t_X12_lastsOf {l : Launch} {D : va_G} {cs : Nat → ClassId} {ad : Nat → Nat} (x : MS)  (p1 : Int32) (p2 : Int32) (Q : Int32 → Prop) (h : wp_X12_lastsOf x  p1 p2 Q) : zMR l yX12_lastsOf wsX12_lastsOf ({ frames := 1, cells := 0, slots := 0, locals := 21 } : Room) (gK D cs) (MH D cs ad) x [.ref (ad 0), .int p1, .int p2] Q := by
  refine zMR_of (cc := cX12_lastsOf) (nL := 7) (ret := (some .int)) (by decide +kernel) rfl (Nat.le_of_ble_eq_true rfl) (fun C hl O hE hK hH => ?_)
  subst hl
  have hX : ∀ (x : MS) (H : Heap), z0 (MH D cs ad) C.s.heap x H → va_P D vwCl (wl 18 ad (ME cs ad x)) H := fun _ _ h => h.2
  have i12 : ∀ w ∈ wsX120, w ∈ wsX12_lastsOf := by decide +kernel
  refine z_sub (lv' := [(0, .ref (ad 0)), (1, .int p1), (2, .int p2)]) [0, 1, 2] rfl ?_
  refine z_iconst (v := 0) O dX12_lastsOf_0 rfl ?_
  refine z_istore_n (lv' := [(3, .int 0), (0, .ref (ad 0)), (1, .int p1), (2, .int p2)]) O dX12_lastsOf_1 (by decide) rfl ?_
  refine z_iload_n O dX12_lastsOf_2 3 rfl ?_
  refine z_istore (lv' := [(4, .int p2), (3, .int 0), (0, .ref (ad 0)), (1, .int p1), (2, .int p2)]) O dX12_lastsOf_3 (by decide) rfl ?_
  obtain ⟨I5, U5, h0, hs⟩ := h
  have kI5 : ∀ (n : Nat) (y1 : Int32) (y2 : Int32), U5 y1 y2 < n → I5 y1 y2 → Z C (fun _ => False) (z0 (MH D cs ad) C.s.heap) 7 x [(0, .ref (ad 0)), (1, .int p1), (3, .int y1), (4, .int y2)] 0 0 5 [] := by
    intro n
    induction n with
    | zero => intro y1 y2 uI5; exact absurd uI5 (Nat.not_lt_zero _)
    | succ n iI5 =>
      intro y1 y2 uI5 h
      have h := hs y1 y2 h
      refine z_iload O dX12_lastsOf_5 3 rfl ?_
      refine z_aload_n O dX12_lastsOf_7 0 rfl ?_
      refine z_getf O hK.1 (hX _) (by decide) me_0 rfl i12 1 (by decide) (by decide +kernel) rfl dX12_lastsOf_8 ?_
      refine z_iload_n O dX12_lastsOf_11 1 rfl ?_
      refine z_iald O hK.1 (hX _) 0 (mk_lt mk_1) (me_A mk_1) rfl (show vp_in p1 (mlen 1) from h.1) dX12_lastsOf_12 ?_
      replace h := h.2
      refine z_icmp_ge O 68 dX12_lastsOf_13 (by decide) (fun c4 => ?_) (fun c4 => ?_)
      · replace h := h.1 c4
        refine z_iload_n O dX12_lastsOf_68 2 rfl ?_
        exact z_retR O hE (fun _ h => h.1) rfl dX12_lastsOf_69 h
      · replace h := h.2 c4
        refine z_bipush (v := 8) O dX12_lastsOf_16 rfl ?_
        refine z_iload_n O dX12_lastsOf_18 1 rfl ?_
        refine z_imul O dX12_lastsOf_19 ?_
        refine z_iload O dX12_lastsOf_20 3 rfl ?_
        refine z_iadd O dX12_lastsOf_22 ?_
        refine z_istore (lv' := [(5, .int ((8 * p1) + y2)), (0, .ref (ad 0)), (1, .int p1), (3, .int y1), (4, .int y2)]) O dX12_lastsOf_23 (by decide) rfl ?_
        refine z_aload_n O dX12_lastsOf_25 1 rfl ?_
        refine z_getf O hK.1 (hX _) (by decide) me_0 rfl i12 2 (by decide) (by decide +kernel) rfl dX12_lastsOf_26 ?_
        refine z_iload O dX12_lastsOf_29 0 rfl ?_
        refine z_iald O hK.1 (hX _) 0 (mk_lt mk_2) (me_A mk_2) rfl (show vp_in ((8 * p1) + y2) (mlen 2) from h.1) dX12_lastsOf_31 ?_
        replace h := h.2
        refine z_aload_n O dX12_lastsOf_32 1 rfl ?_
        refine z_getf O hK.1 (hX _) (by decide) me_0 rfl i12 3 (by decide) (by decide +kernel) rfl dX12_lastsOf_33 ?_
        refine z_iload O dX12_lastsOf_36 0 rfl ?_
        refine z_iald O hK.1 (hX _) 0 (mk_lt mk_3) (me_A mk_3) rfl (show vp_in ((8 * p1) + y2) (mlen 3) from h.1) dX12_lastsOf_38 ?_
        replace h := h.2
        refine z_callR (gKs D cs) hK (fun _ h => h.2) (t_X12_meltsOf (gKs D cs) (x.2.1 2 (Int32.toNatClampNeg ((8 * p1) + y2))) (x.2.1 3 (Int32.toNatClampNeg ((8 * p1) + y2))) _ h) (zr_SS (As := [.int (x.2.1 2 (Int32.toNatClampNeg ((8 * p1) + y2))), .int (x.2.1 3 (Int32.toNatClampNeg ((8 * p1) + y2)))]) (rest := []) O hE.1 2 gX12_lastsOf_X12_meltsOf rfl rfl rfl (by decide +kernel) ⟨(Nat.le_of_ble_eq_true rfl), (Nat.le_of_ble_eq_true rfl)⟩ ⟨(Nat.le_of_ble_eq_true rfl), (Nat.le_of_ble_eq_true rfl)⟩ rfl rfl (Nat.le_of_ble_eq_true rfl) dX12_lastsOf_39) (fun r3 h => ?_)
        refine z_istore (lv' := [(6, .int r3), (5, .int ((8 * p1) + y2)), (0, .ref (ad 0)), (1, .int p1), (3, .int y1), (4, .int y2)]) O dX12_lastsOf_42 (by decide) rfl ?_
        refine z_iload_n O dX12_lastsOf_44 4 rfl ?_
        refine z_aload_n O dX12_lastsOf_45 2 rfl ?_
        refine z_getf O hK.1 (hX _) (by decide) me_0 rfl i12 5 (by decide) (by decide +kernel) rfl dX12_lastsOf_46 ?_
        refine z_iload O dX12_lastsOf_49 1 rfl ?_
        refine z_iald O hK.1 (hX _) 0 (mk_lt mk_5) (me_A mk_5) rfl (show vp_in ((8 * p1) + y2) (mlen 5) from h.1) dX12_lastsOf_51 ?_
        replace h := h.2
        refine z_iload O dX12_lastsOf_52 0 rfl ?_
        refine z_iadd O dX12_lastsOf_54 ?_
        refine z_iconst (v := 1) O dX12_lastsOf_55 rfl ?_
        refine z_isub O dX12_lastsOf_56 ?_
        refine z_iload O dX12_lastsOf_57 0 rfl ?_
        refine z_idiv O dX12_lastsOf_59 h.1 ?_
        replace h := h.2
        refine z_iadd O dX12_lastsOf_60 ?_
        refine z_istore_n (lv' := [(3, .int (y1 + ((((x.2.1 5 (Int32.toNatClampNeg ((8 * p1) + y2))) + r3) - 1) / r3))), (6, .int r3), (5, .int ((8 * p1) + y2)), (0, .ref (ad 0)), (1, .int p1), (4, .int y2)]) O dX12_lastsOf_61 (by decide) rfl ?_
        refine z_iinc (lv' := [(4, .int (y2 + 1)), (3, .int (y1 + ((((x.2.1 5 (Int32.toNatClampNeg ((8 * p1) + y2))) + r3) - 1) / r3))), (6, .int r3), (5, .int ((8 * p1) + y2)), (0, .ref (ad 0)), (1, .int p1)]) O dX12_lastsOf_62 5 rfl rfl (by decide) rfl ?_
        refine z_goto O 5 dX12_lastsOf_65 (by decide) ?_
        exact z_sub [4, 5, 1, 0] rfl (iI5 (y1 + ((((x.2.1 5 (Int32.toNatClampNeg ((8 * p1) + y2))) + r3) - 1) / r3)) (y2 + 1) (Nat.lt_of_lt_of_le h.2 (Nat.le_of_lt_succ uI5)) h.1)
  exact z_sub [2, 3, 1, 0] rfl (kI5 _ 0 p2 (Nat.lt_succ_self _) h0)
def wp_X12_lasts (x : MS)  (p1 : Int32) (p2 : Int32) (Q : Int32 → MS → Prop) : Prop :=
 (∀ x1 : MS, x1 = mI x 6 0 →
 wp_X12_isLayer x1 p1 p2 (fun r2 : Int32 =>
 ((r2 = 0 →
 Q (-1) x1) ∧ (¬ r2 = 0 →
 wp_X12_lastsOf x1 p1 p2 (fun r3 : Int32 =>
 Q r3 x1)))))
set_option maxHeartbeats 4000000 in
set_option maxRecDepth 100000 in
theorem t_X12_lasts {l : Launch} {D : va_G} {cs : Nat → ClassId} {ad : Nat → Nat} (hI : wInj 18 ad) (x : MS)  (p1 : Int32) (p2 : Int32) (Q : Int32 → MS → Prop) (h : wp_X12_lasts x  p1 p2 Q) : zWR l yX12_lasts wsX12_lasts ({ frames := 3, cells := 0, slots := 0, locals := 67 } : Room) (gK D cs) (MH D cs ad) (wB 18 ad) x [.ref (ad 0), .int p1, .int p2] 0 0 Q := by
  refine zWR_of (cc := cX12_lasts) (nL := 3) (ret := (some .int)) (by decide +kernel) rfl (Nat.le_of_ble_eq_true rfl) (fun C hl O hE hK => ?_)
  subst hl
  have hX : ∀ (x : MS) (H : Heap), MH D cs ad x H → va_P D vwCl (wl 18 ad (ME cs ad x)) H := fun _ _ h => h
  have hB : ∀ {x : MS} (H : Heap), va_P D vwCl (wl 18 ad (ME cs ad x)) H → MH D cs ad x H := fun _ h => h
  have hA : ∀ q, wB 18 ad q → zA (wB 18 ad) C.s.heap.size q := fun _ h => Or.inl h
  have i12 : ∀ w ∈ wsX120, w ∈ wsX12_lasts := by decide +kernel
  refine z_sub (lv' := [(0, .ref (ad 0)), (1, .int p1), (2, .int p2)]) [0, 1, 2] rfl ?_
  refine z_aload_n O dX12_lasts_0 0 rfl ?_
  refine z_iconst (v := 0) O dX12_lasts_1 rfl ?_
  obtain ⟨x1, ex1⟩ : ∃ z, z = mI x 6 0 := ⟨_, rfl⟩
  replace h := h x1 ex1
  refine z_putf (x' := x1) (ty := .int) O hK.1 (hX _) hB hI hA (by decide) me_0 rfl i12 tyX12 tyX12_ok nmX12 6 (by decide) (by decide +kernel) rfl (by decide +kernel) rfl rfl (Nat.le_of_ble_eq_true rfl) (by rw [ex1]; exact me_put rfl rfl rfl) dX12_lasts_2 ?_
  refine z_aload_n O dX12_lasts_5 0 rfl ?_
  refine z_iload_n O dX12_lasts_6 1 rfl ?_
  refine z_iload_n O dX12_lasts_7 2 rfl ?_
  refine z_callR (gKs D cs) hK (fun _ h => h) (t_X12_isLayer x1  p1 p2 _ h) (zr_V (As := [.int p1, .int p2]) (rest := []) O hE.1 2 gX12_lasts_X12_isLayer rfl rfl rfl (by decide +kernel) ⟨(Nat.le_of_ble_eq_true rfl), (Nat.le_of_ble_eq_true rfl)⟩ ⟨(Nat.le_of_ble_eq_true rfl), (Nat.le_of_ble_eq_true rfl)⟩ (fun H hH => z_recv hK.1 (hX _ H hH) (by decide) me_0 rfl) rfl rfl (Nat.le_of_ble_eq_true rfl) dX12_lasts_8) (fun r2 h => ?_)
  refine z_if_eq O 23 dX12_lasts_11 (by decide) (fun c4 => ?_) (fun c4 => ?_)
  · replace h := h.1 c4
    refine z_iconst (v := -1) O dX12_lasts_23 rfl ?_
    exact z_retWR O hE (Nat.le_of_ble_eq_true rfl) (Nat.le_of_ble_eq_true rfl) rfl dX12_lasts_24 h
  · replace h := h.2 c4
    refine z_aload_n O dX12_lasts_14 0 rfl ?_
    refine z_iload_n O dX12_lasts_15 1 rfl ?_
    refine z_iload_n O dX12_lasts_16 2 rfl ?_
    refine z_callR (gKs D cs) hK (fun _ h => h) (t_X12_lastsOf x1  p1 p2 _ h) (zr_V (As := [.int p1, .int p2]) (rest := []) O hE.1 2 gX12_lasts_X12_lastsOf rfl rfl rfl (by decide +kernel) ⟨(Nat.le_of_ble_eq_true rfl), (Nat.le_of_ble_eq_true rfl)⟩ ⟨(Nat.le_of_ble_eq_true rfl), (Nat.le_of_ble_eq_true rfl)⟩ (fun H hH => z_recv hK.1 (hX _ H hH) (by decide) me_0 rfl) rfl rfl (Nat.le_of_ble_eq_true rfl) dX12_lasts_17) (fun r3 h => ?_)
    refine z_goto O 24 dX12_lasts_20 (by decide) ?_
    exact z_retWR O hE (Nat.le_of_ble_eq_true rfl) (Nat.le_of_ble_eq_true rfl) rfl dX12_lasts_24 h
def wp_X12_frost (x : MS)  (p1 : Int32) (p2 : Int32) (p3 : Int32) (Q : Int32 → MS → Prop) : Prop :=
 (∀ x1 : MS, x1 = mI x 6 0 →
 wp_X12_in (Int32.toInt64 p1) 0 7 (fun r2 : Int32 =>
 ((r2 = 0 →
 Q (-1) x1) ∧ (¬ r2 = 0 →
 wp_X12_in (Int32.toInt64 p2) 0 9 (fun r3 : Int32 =>
 ((r3 = 0 →
 Q (-1) x1) ∧ (¬ r3 = 0 →
 wp_X12_in (Int32.toInt64 p3) 1 99 (fun r4 : Int32 =>
 ((¬ r4 = 0 →
 (∃ (I46 : Int32 → Prop) (U46 : Int32 → Nat), I46 1 ∧ ∀ (y5 : Int32), I46 y5 →
 ((10 ≤ y5 →
 Q (-4) x1) ∧ (¬ 10 ≤ y5 →
 wp_X12_thickOf p1 p2 y5 (fun r6 : Int32 =>
 wp_X12_meltsOf p1 p2 (fun r7 : Int32 =>
 ((r6 ≤ (p3 * r7) →
 (I46 (y5 + 1) ∧ U46 (y5 + 1) < U46 y5)) ∧ (¬ r6 ≤ (p3 * r7) →
 Q y5 x1)))))))) ∧ (r4 = 0 →
 Q (-1) x1))))))))))
set_option maxHeartbeats 4000000 in
set_option maxRecDepth 100000 in
theorem t_X12_frost {l : Launch} {D : va_G} {cs : Nat → ClassId} {ad : Nat → Nat} (hI : wInj 18 ad) (x : MS)  (p1 : Int32) (p2 : Int32) (p3 : Int32) (Q : Int32 → MS → Prop) (h : wp_X12_frost x  p1 p2 p3 Q) : zWR l yX12_frost wsX12_frost ({ frames := 1, cells := 0, slots := 0, locals := 25 } : Room) (gK D cs) (MH D cs ad) (wB 18 ad) x [.ref (ad 0), .int p1, .int p2, .int p3] 0 0 Q := by
  refine zWR_of (cc := cX12_frost) (nL := 5) (ret := (some .int)) (by decide +kernel) rfl (Nat.le_of_ble_eq_true rfl) (fun C hl O hE hK => ?_)
  subst hl
  have hX : ∀ (x : MS) (H : Heap), MH D cs ad x H → va_P D vwCl (wl 18 ad (ME cs ad x)) H := fun _ _ h => h
  have hB : ∀ {x : MS} (H : Heap), va_P D vwCl (wl 18 ad (ME cs ad x)) H → MH D cs ad x H := fun _ h => h
  have hA : ∀ q, wB 18 ad q → zA (wB 18 ad) C.s.heap.size q := fun _ h => Or.inl h
  have i12 : ∀ w ∈ wsX120, w ∈ wsX12_frost := by decide +kernel
  refine z_sub (lv' := [(0, .ref (ad 0)), (1, .int p1), (2, .int p2), (3, .int p3)]) [0, 1, 2, 3] rfl ?_
  refine z_aload_n O dX12_frost_0 0 rfl ?_
  refine z_iconst (v := 0) O dX12_frost_1 rfl ?_
  obtain ⟨x1, ex1⟩ : ∃ z, z = mI x 6 0 := ⟨_, rfl⟩
  replace h := h x1 ex1
  refine z_putf (x' := x1) (ty := .int) O hK.1 (hX _) hB hI hA (by decide) me_0 rfl i12 tyX12 tyX12_ok nmX12 6 (by decide) (by decide +kernel) rfl (by decide +kernel) rfl rfl (Nat.le_of_ble_eq_true rfl) (by rw [ex1]; exact me_put rfl rfl rfl) dX12_frost_2 ?_
  refine z_iload_n O dX12_frost_5 1 rfl ?_
  refine z_i2l O dX12_frost_6 ?_
  refine z_lconst (v := 0) O dX12_frost_7 rfl ?_
  refine z_ldc2 (v := 7) O (by decide +kernel) dX12_frost_8 ?_
  refine z_callR (gKs D cs) hK (fun _ h => h) (t_X12_in (gKs D cs) (Int32.toInt64 p1) 0 7 _ h) (zr_SS (As := [.long (Int32.toInt64 p1), .long 0, .long 7]) (rest := []) O hE.1 3 gX12_frost_X12_in rfl rfl rfl (by decide +kernel) ⟨(Nat.le_of_ble_eq_true rfl), (Nat.le_of_ble_eq_true rfl)⟩ ⟨(Nat.le_of_ble_eq_true rfl), (Nat.le_of_ble_eq_true rfl)⟩ rfl rfl (Nat.le_of_ble_eq_true rfl) dX12_frost_11) (fun r2 h => ?_)
  refine z_if_eq O 41 dX12_frost_14 (by decide) (fun c12 => ?_) (fun c12 => ?_)
  · replace h := h.1 c12
    refine z_iconst (v := -1) O dX12_frost_41 rfl ?_
    exact z_retWR O hE (Nat.le_of_ble_eq_true rfl) (Nat.le_of_ble_eq_true rfl) rfl dX12_frost_42 h
  · replace h := h.2 c12
    refine z_iload_n O dX12_frost_17 2 rfl ?_
    refine z_i2l O dX12_frost_18 ?_
    refine z_lconst (v := 0) O dX12_frost_19 rfl ?_
    refine z_ldc2 (v := 9) O (by decide +kernel) dX12_frost_20 ?_
    refine z_callR (gKs D cs) hK (fun _ h => h) (t_X12_in (gKs D cs) (Int32.toInt64 p2) 0 9 _ h) (zr_SS (As := [.long (Int32.toInt64 p2), .long 0, .long 9]) (rest := []) O hE.1 3 gX12_frost_X12_in rfl rfl rfl (by decide +kernel) ⟨(Nat.le_of_ble_eq_true rfl), (Nat.le_of_ble_eq_true rfl)⟩ ⟨(Nat.le_of_ble_eq_true rfl), (Nat.le_of_ble_eq_true rfl)⟩ rfl rfl (Nat.le_of_ble_eq_true rfl) dX12_frost_23) (fun r3 h => ?_)
    refine z_if_eq O 41 dX12_frost_26 (by decide) (fun c11 => ?_) (fun c11 => ?_)
    · replace h := h.1 c11
      refine z_iconst (v := -1) O dX12_frost_41 rfl ?_
      exact z_retWR O hE (Nat.le_of_ble_eq_true rfl) (Nat.le_of_ble_eq_true rfl) rfl dX12_frost_42 h
    · replace h := h.2 c11
      refine z_iload_n O dX12_frost_29 3 rfl ?_
      refine z_i2l O dX12_frost_30 ?_
      refine z_lconst (v := 1) O dX12_frost_31 rfl ?_
      refine z_ldc2 (v := 99) O (by decide +kernel) dX12_frost_32 ?_
      refine z_callR (gKs D cs) hK (fun _ h => h) (t_X12_in (gKs D cs) (Int32.toInt64 p3) 1 99 _ h) (zr_SS (As := [.long (Int32.toInt64 p3), .long 1, .long 99]) (rest := []) O hE.1 3 gX12_frost_X12_in rfl rfl rfl (by decide +kernel) ⟨(Nat.le_of_ble_eq_true rfl), (Nat.le_of_ble_eq_true rfl)⟩ ⟨(Nat.le_of_ble_eq_true rfl), (Nat.le_of_ble_eq_true rfl)⟩ rfl rfl (Nat.le_of_ble_eq_true rfl) dX12_frost_35) (fun r4 h => ?_)
      refine z_if_ne O 43 dX12_frost_38 (by decide) (fun c10 => ?_) (fun c10 => ?_)
      · replace h := h.1 c10
        refine z_iconst (v := 1) O dX12_frost_43 rfl ?_
        refine z_istore (lv' := [(4, .int 1), (0, .ref (ad 0)), (1, .int p1), (2, .int p2), (3, .int p3)]) O dX12_frost_44 (by decide) rfl ?_
        obtain ⟨I46, U46, h0, hs⟩ := h
        have kI46 : ∀ (n : Nat) (y5 : Int32), U46 y5 < n → I46 y5 → Z C (zA (wB 18 ad) C.s.heap.size) (MH D cs ad) 5 x1 [(1, .int p1), (2, .int p2), (3, .int p3), (4, .int y5)] 0 0 46 [] := by
          intro n
          induction n with
          | zero => intro y5 uI46; exact absurd uI46 (Nat.not_lt_zero _)
          | succ n iI46 =>
            intro y5 uI46 h
            have h := hs y5 h
            refine z_iload O dX12_frost_46 3 rfl ?_
            refine z_bipush (v := 10) O dX12_frost_48 rfl ?_
            refine z_icmp_ge O 79 dX12_frost_50 (by decide) (fun c9 => ?_) (fun c9 => ?_)
            · replace h := h.1 c9
              refine z_bipush (v := -4) O dX12_frost_79 rfl ?_
              exact z_retWR O hE (Nat.le_of_ble_eq_true rfl) (Nat.le_of_ble_eq_true rfl) rfl dX12_frost_81 h
            · replace h := h.2 c9
              refine z_iload_n O dX12_frost_53 0 rfl ?_
              refine z_iload_n O dX12_frost_54 1 rfl ?_
              refine z_iload O dX12_frost_55 3 rfl ?_
              refine z_callR (gKs D cs) hK (fun _ h => h) (t_X12_thickOf (gKs D cs) p1 p2 y5 _ h) (zr_SS (As := [.int p1, .int p2, .int y5]) (rest := []) O hE.1 3 gX12_frost_X12_thickOf rfl rfl rfl (by decide +kernel) ⟨(Nat.le_of_ble_eq_true rfl), (Nat.le_of_ble_eq_true rfl)⟩ ⟨(Nat.le_of_ble_eq_true rfl), (Nat.le_of_ble_eq_true rfl)⟩ rfl rfl (Nat.le_of_ble_eq_true rfl) dX12_frost_57) (fun r6 h => ?_)
              refine z_iload_n O dX12_frost_60 2 rfl ?_
              refine z_iload_n O dX12_frost_61 0 rfl ?_
              refine z_iload_n O dX12_frost_62 1 rfl ?_
              refine z_callR (gKs D cs) hK (fun _ h => h) (t_X12_meltsOf (gKs D cs) p1 p2 _ h) (zr_SS (As := [.int p1, .int p2]) (rest := [.int p3, .int r6]) O hE.1 2 gX12_frost_X12_meltsOf rfl rfl rfl (by decide +kernel) ⟨(Nat.le_of_ble_eq_true rfl), (Nat.le_of_ble_eq_true rfl)⟩ ⟨(Nat.le_of_ble_eq_true rfl), (Nat.le_of_ble_eq_true rfl)⟩ rfl rfl (Nat.le_of_ble_eq_true rfl) dX12_frost_63) (fun r7 h => ?_)
              refine z_imul O dX12_frost_66 ?_
              refine z_icmp_le O 73 dX12_frost_67 (by decide) (fun c8 => ?_) (fun c8 => ?_)
              · replace h := h.1 c8
                refine z_iinc (lv' := [(4, .int (y5 + 1)), (1, .int p1), (2, .int p2), (3, .int p3)]) O dX12_frost_73 3 rfl rfl (by decide) rfl ?_
                refine z_goto O 46 dX12_frost_76 (by decide) ?_
                exact z_sub [1, 2, 3, 0] rfl (iI46 (y5 + 1) (Nat.lt_of_lt_of_le h.2 (Nat.le_of_lt_succ uI46)) h.1)
              · replace h := h.2 c8
                refine z_iload O dX12_frost_70 3 rfl ?_
                exact z_retWR O hE (Nat.le_of_ble_eq_true rfl) (Nat.le_of_ble_eq_true rfl) rfl dX12_frost_72 h
        exact z_sub [2, 3, 4, 0] rfl (kI46 _ 1 (Nat.lt_succ_self _) h0)
      · replace h := h.2 c10
        refine z_iconst (v := -1) O dX12_frost_41 rfl ?_
        exact z_retWR O hE (Nat.le_of_ble_eq_true rfl) (Nat.le_of_ble_eq_true rfl) rfl dX12_frost_42 h
def wp_X12_where (x : MS)  (p1 : Int32) (p2 : Int32) (Q : Int32 → MS → Prop) : Prop :=
 (∀ x1 : MS, x1 = mI x 6 0 →
 wp_X12_in (Int32.toInt64 p1) 0 9 (fun r2 : Int32 =>
 ((r2 = 0 →
 Q (-1) x1) ∧ (¬ r2 = 0 →
 wp_X12_in (Int32.toInt64 p2) 0 99 (fun r3 : Int32 =>
 ((¬ r3 = 0 →
 (∃ (I36 : Int32 → Int32 → Prop) (U36 : Int32 → Int32 → Nat), I36 0 0 ∧ ∀ (y4 : Int32) (y5 : Int32), I36 y4 y5 →
 ((6 ≤ y5 →
 Q y4 x1) ∧ (¬ 6 ≤ y5 →
 (∃ (I46 : Int32 → Int32 → Prop) (U46 : Int32 → Int32 → Nat), I46 y4 0 ∧ ∀ (y6 : Int32) (y7 : Int32), I46 y6 y7 →
 (vp_in y5 6 ∧
 (((x1.2.1 1 (Int32.toNatClampNeg y5)) ≤ y7 →
 (I36 y6 (y5 + 1) ∧ U36 y6 (y5 + 1) < U36 y4 y5)) ∧ (¬ (x1.2.1 1 (Int32.toNatClampNeg y5)) ≤ y7 →
 (vp_in ((8 * y5) + y7) 48 ∧
 ((¬ (x1.2.1 3 (Int32.toNatClampNeg ((8 * y5) + y7))) = p1 →
 (I46 (y6 ||| 0) (y7 + 1) ∧ U46 (y6 ||| 0) (y7 + 1) < U46 y6 y7)) ∧ ((x1.2.1 3 (Int32.toNatClampNeg ((8 * y5) + y7))) = p1 →
 wp_X12_lastsOf x1 y5 y7 (fun r8 : Int32 =>
 ((r8 ≤ p2 →
 (I46 (y6 ||| 0) (y7 + 1) ∧ U46 (y6 ||| 0) (y7 + 1) < U46 y6 y7)) ∧ (¬ r8 ≤ p2 →
 (I46 (y6 ||| (1 <<< (y5 &&& 31))) (y7 + 1) ∧ U46 (y6 ||| (1 <<< (y5 &&& 31))) (y7 + 1) < U46 y6 y7))))))))))))))) ∧ (r3 = 0 →
 Q (-1) x1)))))))
set_option maxHeartbeats 4000000 in
set_option maxRecDepth 100000 in
theorem t_X12_where {l : Launch} {D : va_G} {cs : Nat → ClassId} {ad : Nat → Nat} (hI : wInj 18 ad) (x : MS)  (p1 : Int32) (p2 : Int32) (Q : Int32 → MS → Prop) (h : wp_X12_where x  p1 p2 Q) : zWR l yX12_where wsX12_where ({ frames := 2, cells := 0, slots := 0, locals := 47 } : Room) (gK D cs) (MH D cs ad) (wB 18 ad) x [.ref (ad 0), .int p1, .int p2] 0 0 Q := by
  refine zWR_of (cc := cX12_where) (nL := 6) (ret := (some .int)) (by decide +kernel) rfl (Nat.le_of_ble_eq_true rfl) (fun C hl O hE hK => ?_)
  subst hl
  have hX : ∀ (x : MS) (H : Heap), MH D cs ad x H → va_P D vwCl (wl 18 ad (ME cs ad x)) H := fun _ _ h => h
  have hB : ∀ {x : MS} (H : Heap), va_P D vwCl (wl 18 ad (ME cs ad x)) H → MH D cs ad x H := fun _ h => h
  have hA : ∀ q, wB 18 ad q → zA (wB 18 ad) C.s.heap.size q := fun _ h => Or.inl h
  have i12 : ∀ w ∈ wsX120, w ∈ wsX12_where := by decide +kernel
  refine z_sub (lv' := [(0, .ref (ad 0)), (1, .int p1), (2, .int p2)]) [0, 1, 2] rfl ?_
  refine z_aload_n O dX12_where_0 0 rfl ?_
  refine z_iconst (v := 0) O dX12_where_1 rfl ?_
  obtain ⟨x1, ex1⟩ : ∃ z, z = mI x 6 0 := ⟨_, rfl⟩
  replace h := h x1 ex1
  refine z_putf (x' := x1) (ty := .int) O hK.1 (hX _) hB hI hA (by decide) me_0 rfl i12 tyX12 tyX12_ok nmX12 6 (by decide) (by decide +kernel) rfl (by decide +kernel) rfl rfl (Nat.le_of_ble_eq_true rfl) (by rw [ex1]; exact me_put rfl rfl rfl) dX12_where_2 ?_
  refine z_iload_n O dX12_where_5 1 rfl ?_
  refine z_i2l O dX12_where_6 ?_
  refine z_lconst (v := 0) O dX12_where_7 rfl ?_
  refine z_ldc2 (v := 9) O (by decide +kernel) dX12_where_8 ?_
  refine z_callR (gKs D cs) hK (fun _ h => h) (t_X12_in (gKs D cs) (Int32.toInt64 p1) 0 9 _ h) (zr_SS (As := [.long (Int32.toInt64 p1), .long 0, .long 9]) (rest := []) O hE.1 3 gX12_where_X12_in rfl rfl rfl (by decide +kernel) ⟨(Nat.le_of_ble_eq_true rfl), (Nat.le_of_ble_eq_true rfl)⟩ ⟨(Nat.le_of_ble_eq_true rfl), (Nat.le_of_ble_eq_true rfl)⟩ rfl rfl (Nat.le_of_ble_eq_true rfl) dX12_where_11) (fun r2 h => ?_)
  refine z_if_eq O 29 dX12_where_14 (by decide) (fun c14 => ?_) (fun c14 => ?_)
  · replace h := h.1 c14
    refine z_iconst (v := -1) O dX12_where_29 rfl ?_
    exact z_retWR O hE (Nat.le_of_ble_eq_true rfl) (Nat.le_of_ble_eq_true rfl) rfl dX12_where_30 h
  · replace h := h.2 c14
    refine z_iload_n O dX12_where_17 2 rfl ?_
    refine z_i2l O dX12_where_18 ?_
    refine z_lconst (v := 0) O dX12_where_19 rfl ?_
    refine z_ldc2 (v := 99) O (by decide +kernel) dX12_where_20 ?_
    refine z_callR (gKs D cs) hK (fun _ h => h) (t_X12_in (gKs D cs) (Int32.toInt64 p2) 0 99 _ h) (zr_SS (As := [.long (Int32.toInt64 p2), .long 0, .long 99]) (rest := []) O hE.1 3 gX12_where_X12_in rfl rfl rfl (by decide +kernel) ⟨(Nat.le_of_ble_eq_true rfl), (Nat.le_of_ble_eq_true rfl)⟩ ⟨(Nat.le_of_ble_eq_true rfl), (Nat.le_of_ble_eq_true rfl)⟩ rfl rfl (Nat.le_of_ble_eq_true rfl) dX12_where_23) (fun r3 h => ?_)
    refine z_if_ne O 31 dX12_where_26 (by decide) (fun c13 => ?_) (fun c13 => ?_)
    · replace h := h.1 c13
      refine z_iconst (v := 0) O dX12_where_31 rfl ?_
      refine z_istore_n (lv' := [(3, .int 0), (0, .ref (ad 0)), (1, .int p1), (2, .int p2)]) O dX12_where_32 (by decide) rfl ?_
      refine z_iconst (v := 0) O dX12_where_33 rfl ?_
      refine z_istore (lv' := [(4, .int 0), (3, .int 0), (0, .ref (ad 0)), (1, .int p1), (2, .int p2)]) O dX12_where_34 (by decide) rfl ?_
      obtain ⟨I36, U36, h0, hs⟩ := h
      have kI36 : ∀ (n : Nat) (y4 : Int32) (y5 : Int32), U36 y4 y5 < n → I36 y4 y5 → Z C (zA (wB 18 ad) C.s.heap.size) (MH D cs ad) 6 x1 [(0, .ref (ad 0)), (1, .int p1), (2, .int p2), (3, .int y4), (4, .int y5)] 0 0 36 [] := by
        intro n
        induction n with
        | zero => intro y4 y5 uI36; exact absurd uI36 (Nat.not_lt_zero _)
        | succ n iI36 =>
          intro y4 y5 uI36 h
          have h := hs y4 y5 h
          refine z_iload O dX12_where_36 4 rfl ?_
          refine z_bipush (v := 6) O dX12_where_38 rfl ?_
          refine z_icmp_ge O 110 dX12_where_40 (by decide) (fun c12 => ?_) (fun c12 => ?_)
          · replace h := h.1 c12
            refine z_iload_n O dX12_where_110 3 rfl ?_
            exact z_retWR O hE (Nat.le_of_ble_eq_true rfl) (Nat.le_of_ble_eq_true rfl) rfl dX12_where_111 h
          · replace h := h.2 c12
            refine z_iconst (v := 0) O dX12_where_43 rfl ?_
            refine z_istore (lv' := [(5, .int 0), (0, .ref (ad 0)), (1, .int p1), (2, .int p2), (3, .int y4), (4, .int y5)]) O dX12_where_44 (by decide) rfl ?_
            obtain ⟨I46, U46, h0, hs⟩ := h
            have kI46 : ∀ (n : Nat) (y6 : Int32) (y7 : Int32), U46 y6 y7 < n → I46 y6 y7 → Z C (zA (wB 18 ad) C.s.heap.size) (MH D cs ad) 6 x1 [(0, .ref (ad 0)), (1, .int p1), (2, .int p2), (3, .int y6), (4, .int y5), (5, .int y7)] 0 0 46 [] := by
              intro n
              induction n with
              | zero => intro y6 y7 uI46; exact absurd uI46 (Nat.not_lt_zero _)
              | succ n iI46 =>
                intro y6 y7 uI46 h
                have h := hs y6 y7 h
                refine z_iload O dX12_where_46 5 rfl ?_
                refine z_aload_n O dX12_where_48 0 rfl ?_
                refine z_getf O hK.1 (hX _) (by decide) me_0 rfl i12 1 (by decide) (by decide +kernel) rfl dX12_where_49 ?_
                refine z_iload O dX12_where_52 4 rfl ?_
                refine z_iald O hK.1 (hX _) 0 (mk_lt mk_1) (me_A mk_1) rfl (show vp_in y5 (mlen 1) from h.1) dX12_where_54 ?_
                replace h := h.2
                refine z_icmp_ge O 104 dX12_where_55 (by decide) (fun c11 => ?_) (fun c11 => ?_)
                · replace h := h.1 c11
                  refine z_iinc (lv' := [(4, .int (y5 + 1)), (0, .ref (ad 0)), (1, .int p1), (2, .int p2), (3, .int y6), (5, .int y7)]) O dX12_where_104 4 rfl rfl (by decide) rfl ?_
                  refine z_goto O 36 dX12_where_107 (by decide) ?_
                  exact z_sub [1, 2, 3, 4, 0] rfl (iI36 y6 (y5 + 1) (Nat.lt_of_lt_of_le h.2 (Nat.le_of_lt_succ uI36)) h.1)
                · replace h := h.2 c11
                  refine z_iload_n O dX12_where_58 3 rfl ?_
                  refine z_aload_n O dX12_where_59 0 rfl ?_
                  refine z_getf O hK.1 (hX _) (by decide) me_0 rfl i12 3 (by decide) (by decide +kernel) rfl dX12_where_60 ?_
                  refine z_bipush (v := 8) O dX12_where_63 rfl ?_
                  refine z_iload O dX12_where_65 4 rfl ?_
                  refine z_imul O dX12_where_67 ?_
                  refine z_iload O dX12_where_68 5 rfl ?_
                  refine z_iadd O dX12_where_70 ?_
                  refine z_iald O hK.1 (hX _) 0 (mk_lt mk_3) (me_A mk_3) rfl (show vp_in ((8 * y5) + y7) (mlen 3) from h.1) dX12_where_71 ?_
                  replace h := h.2
                  refine z_iload_n O dX12_where_72 1 rfl ?_
                  refine z_icmp_ne O 95 dX12_where_73 (by decide) (fun c10 => ?_) (fun c10 => ?_)
                  · replace h := h.1 c10
                    refine z_iconst (v := 0) O dX12_where_95 rfl ?_
                    refine z_ior O dX12_where_96 ?_
                    refine z_istore_n (lv' := [(3, .int (y6 ||| 0)), (0, .ref (ad 0)), (1, .int p1), (2, .int p2), (4, .int y5), (5, .int y7)]) O dX12_where_97 (by decide) rfl ?_
                    refine z_iinc (lv' := [(5, .int (y7 + 1)), (3, .int (y6 ||| 0)), (0, .ref (ad 0)), (1, .int p1), (2, .int p2), (4, .int y5)]) O dX12_where_98 5 rfl rfl (by decide) rfl ?_
                    refine z_goto O 46 dX12_where_101 (by decide) ?_
                    exact z_sub [2, 3, 4, 1, 5, 0] rfl (iI46 (y6 ||| 0) (y7 + 1) (Nat.lt_of_lt_of_le h.2 (Nat.le_of_lt_succ uI46)) h.1)
                  · replace h := h.2 c10
                    refine z_aload_n O dX12_where_76 0 rfl ?_
                    refine z_iload O dX12_where_77 4 rfl ?_
                    refine z_iload O dX12_where_79 5 rfl ?_
                    refine z_callR (gKs D cs) hK (fun _ h => h) (t_X12_lastsOf x1  y5 y7 _ h) (zr_V (As := [.int y5, .int y7]) (rest := [.int y6]) O hE.1 2 gX12_where_X12_lastsOf rfl rfl rfl (by decide +kernel) ⟨(Nat.le_of_ble_eq_true rfl), (Nat.le_of_ble_eq_true rfl)⟩ ⟨(Nat.le_of_ble_eq_true rfl), (Nat.le_of_ble_eq_true rfl)⟩ (fun H hH => z_recv hK.1 (hX _ H hH) (by decide) me_0 rfl) rfl rfl (Nat.le_of_ble_eq_true rfl) dX12_where_81) (fun r8 h => ?_)
                    refine z_iload_n O dX12_where_84 2 rfl ?_
                    refine z_icmp_le O 95 dX12_where_85 (by decide) (fun c9 => ?_) (fun c9 => ?_)
                    · replace h := h.1 c9
                      refine z_iconst (v := 0) O dX12_where_95 rfl ?_
                      refine z_ior O dX12_where_96 ?_
                      refine z_istore_n (lv' := [(3, .int (y6 ||| 0)), (0, .ref (ad 0)), (1, .int p1), (2, .int p2), (4, .int y5), (5, .int y7)]) O dX12_where_97 (by decide) rfl ?_
                      refine z_iinc (lv' := [(5, .int (y7 + 1)), (3, .int (y6 ||| 0)), (0, .ref (ad 0)), (1, .int p1), (2, .int p2), (4, .int y5)]) O dX12_where_98 5 rfl rfl (by decide) rfl ?_
                      refine z_goto O 46 dX12_where_101 (by decide) ?_
                      exact z_sub [2, 3, 4, 1, 5, 0] rfl (iI46 (y6 ||| 0) (y7 + 1) (Nat.lt_of_lt_of_le h.2 (Nat.le_of_lt_succ uI46)) h.1)
                    · replace h := h.2 c9
                      refine z_iconst (v := 1) O dX12_where_88 rfl ?_
                      refine z_iload O dX12_where_89 4 rfl ?_
                      refine z_ishl O dX12_where_91 ?_
                      refine z_goto O 96 dX12_where_92 (by decide) ?_
                      refine z_ior O dX12_where_96 ?_
                      refine z_istore_n (lv' := [(3, .int (y6 ||| (1 <<< (y5 &&& 31)))), (0, .ref (ad 0)), (1, .int p1), (2, .int p2), (4, .int y5), (5, .int y7)]) O dX12_where_97 (by decide) rfl ?_
                      refine z_iinc (lv' := [(5, .int (y7 + 1)), (3, .int (y6 ||| (1 <<< (y5 &&& 31)))), (0, .ref (ad 0)), (1, .int p1), (2, .int p2), (4, .int y5)]) O dX12_where_98 5 rfl rfl (by decide) rfl ?_
                      refine z_goto O 46 dX12_where_101 (by decide) ?_
                      exact z_sub [2, 3, 4, 1, 5, 0] rfl (iI46 (y6 ||| (1 <<< (y5 &&& 31))) (y7 + 1) (Nat.lt_of_lt_of_le h.2 (Nat.le_of_lt_succ uI46)) h.1)
            exact z_sub [1, 2, 3, 4, 5, 0] rfl (kI46 _ y4 0 (Nat.lt_succ_self _) h0)
      exact z_sub [2, 3, 4, 1, 0] rfl (kI36 _ 0 0 (Nat.lt_succ_self _) h0)
    · replace h := h.2 c13
      refine z_iconst (v := -1) O dX12_where_29 rfl ?_
      exact z_retWR O hE (Nat.le_of_ble_eq_true rfl) (Nat.le_of_ble_eq_true rfl) rfl dX12_where_30 h
def wp_X12_lowestOf (x : MS)  (p1 : Int32) (p2 : Int32) (Q : Int32 → Prop) : Prop :=
 (vp_in p1 6 ∧
 (∃ (I12 : Int32 → Int32 → Prop) (U12 : Int32 → Int32 → Nat), I12 0 ((x.2.1 1 (Int32.toNatClampNeg p1)) - 1) ∧ ∀ (y1 : Int32) (y2 : Int32), I12 y1 y2 →
 ((y2 < 0 →
 Q y1) ∧ (¬ y2 < 0 →
 (vp_in ((8 * p1) + y2) 48 ∧
 ((¬ (x.2.1 4 (Int32.toNatClampNeg ((8 * p1) + y2))) = p2 →
 (I12 y1 (y2 + (-1)) ∧ U12 y1 (y2 + (-1)) < U12 y1 y2)) ∧ ((x.2.1 4 (Int32.toNatClampNeg ((8 * p1) + y2))) = p2 →
 (vp_in ((8 * p1) + y2) 48 ∧
 (I12 (x.2.1 5 (Int32.toNatClampNeg ((8 * p1) + y2))) (y2 + (-1)) ∧ U12 (x.2.1 5 (Int32.toNatClampNeg ((8 * p1) + y2))) (y2 + (-1)) < U12 y1 y2)))))))))
set_option maxHeartbeats 4000000 in
set_option maxRecDepth 100000 in
theorem t_X12_lowestOf {l : Launch} {D : va_G} {cs : Nat → ClassId} {ad : Nat → Nat} (x : MS)  (p1 : Int32) (p2 : Int32) (Q : Int32 → Prop) (h : wp_X12_lowestOf x  p1 p2 Q) : zMR l yX12_lowestOf wsX12_lowestOf ({ frames := 0, cells := 0, slots := 0, locals := 0 } : Room) (gK D cs) (MH D cs ad) x [.ref (ad 0), .int p1, .int p2] Q := by
  refine zMR_of (cc := cX12_lowestOf) (nL := 5) (ret := (some .int)) (by decide +kernel) rfl (Nat.le_of_ble_eq_true rfl) (fun C hl O hE hK hH => ?_)
  subst hl
  have hX : ∀ (x : MS) (H : Heap), z0 (MH D cs ad) C.s.heap x H → va_P D vwCl (wl 18 ad (ME cs ad x)) H := fun _ _ h => h.2
  have i12 : ∀ w ∈ wsX120, w ∈ wsX12_lowestOf := by decide +kernel
  refine z_sub (lv' := [(0, .ref (ad 0)), (1, .int p1), (2, .int p2)]) [0, 1, 2] rfl ?_
  refine z_iconst (v := 0) O dX12_lowestOf_0 rfl ?_
  refine z_istore_n (lv' := [(3, .int 0), (0, .ref (ad 0)), (1, .int p1), (2, .int p2)]) O dX12_lowestOf_1 (by decide) rfl ?_
  refine z_aload_n O dX12_lowestOf_2 1 rfl ?_
  refine z_getf O hK.1 (hX _) (by decide) me_0 rfl i12 1 (by decide) (by decide +kernel) rfl dX12_lowestOf_3 ?_
  refine z_iload_n O dX12_lowestOf_6 2 rfl ?_
  refine z_iald O hK.1 (hX _) 0 (mk_lt mk_1) (me_A mk_1) rfl (show vp_in p1 (mlen 1) from h.1) dX12_lowestOf_7 ?_
  replace h := h.2
  refine z_iconst (v := 1) O dX12_lowestOf_8 rfl ?_
  refine z_isub O dX12_lowestOf_9 ?_
  refine z_istore (lv' := [(4, .int ((x.2.1 1 (Int32.toNatClampNeg p1)) - 1)), (3, .int 0), (0, .ref (ad 0)), (1, .int p1), (2, .int p2)]) O dX12_lowestOf_10 (by decide) rfl ?_
  obtain ⟨I12, U12, h0, hs⟩ := h
  have kI12 : ∀ (n : Nat) (y1 : Int32) (y2 : Int32), U12 y1 y2 < n → I12 y1 y2 → Z C (fun _ => False) (z0 (MH D cs ad) C.s.heap) 5 x [(0, .ref (ad 0)), (1, .int p1), (2, .int p2), (3, .int y1), (4, .int y2)] 0 0 12 [] := by
    intro n
    induction n with
    | zero => intro y1 y2 uI12; exact absurd uI12 (Nat.not_lt_zero _)
    | succ n iI12 =>
      intro y1 y2 uI12 h
      have h := hs y1 y2 h
      refine z_iload O dX12_lowestOf_12 4 rfl ?_
      refine z_if_lt O 56 dX12_lowestOf_14 (by decide) (fun c4 => ?_) (fun c4 => ?_)
      · replace h := h.1 c4
        refine z_iload_n O dX12_lowestOf_56 3 rfl ?_
        exact z_retR O hE (fun _ h => h.1) rfl dX12_lowestOf_57 h
      · replace h := h.2 c4
        refine z_aload_n O dX12_lowestOf_17 0 rfl ?_
        refine z_getf O hK.1 (hX _) (by decide) me_0 rfl i12 4 (by decide) (by decide +kernel) rfl dX12_lowestOf_18 ?_
        refine z_bipush (v := 8) O dX12_lowestOf_21 rfl ?_
        refine z_iload_n O dX12_lowestOf_23 1 rfl ?_
        refine z_imul O dX12_lowestOf_24 ?_
        refine z_iload O dX12_lowestOf_25 4 rfl ?_
        refine z_iadd O dX12_lowestOf_27 ?_
        refine z_iald O hK.1 (hX _) 0 (mk_lt mk_4) (me_A mk_4) rfl (show vp_in ((8 * p1) + y2) (mlen 4) from h.1) dX12_lowestOf_28 ?_
        replace h := h.2
        refine z_iload_n O dX12_lowestOf_29 2 rfl ?_
        refine z_icmp_ne O 48 dX12_lowestOf_30 (by decide) (fun c3 => ?_) (fun c3 => ?_)
        · replace h := h.1 c3
          refine z_iload_n O dX12_lowestOf_48 3 rfl ?_
          refine z_istore_n (lv' := [(3, .int y1), (0, .ref (ad 0)), (1, .int p1), (2, .int p2), (4, .int y2)]) O dX12_lowestOf_49 (by decide) rfl ?_
          refine z_iinc (lv' := [(4, .int (y2 + (-1))), (3, .int y1), (0, .ref (ad 0)), (1, .int p1), (2, .int p2)]) O dX12_lowestOf_50 4 rfl rfl (by decide) rfl ?_
          refine z_goto O 12 dX12_lowestOf_53 (by decide) ?_
          exact z_sub [2, 3, 4, 1, 0] rfl (iI12 y1 (y2 + (-1)) (Nat.lt_of_lt_of_le h.2 (Nat.le_of_lt_succ uI12)) h.1)
        · replace h := h.2 c3
          refine z_aload_n O dX12_lowestOf_33 0 rfl ?_
          refine z_getf O hK.1 (hX _) (by decide) me_0 rfl i12 5 (by decide) (by decide +kernel) rfl dX12_lowestOf_34 ?_
          refine z_bipush (v := 8) O dX12_lowestOf_37 rfl ?_
          refine z_iload_n O dX12_lowestOf_39 1 rfl ?_
          refine z_imul O dX12_lowestOf_40 ?_
          refine z_iload O dX12_lowestOf_41 4 rfl ?_
          refine z_iadd O dX12_lowestOf_43 ?_
          refine z_iald O hK.1 (hX _) 0 (mk_lt mk_5) (me_A mk_5) rfl (show vp_in ((8 * p1) + y2) (mlen 5) from h.1) dX12_lowestOf_44 ?_
          replace h := h.2
          refine z_goto O 49 dX12_lowestOf_45 (by decide) ?_
          refine z_istore_n (lv' := [(3, .int (x.2.1 5 (Int32.toNatClampNeg ((8 * p1) + y2)))), (0, .ref (ad 0)), (1, .int p1), (2, .int p2), (4, .int y2)]) O dX12_lowestOf_49 (by decide) rfl ?_
          refine z_iinc (lv' := [(4, .int (y2 + (-1))), (3, .int (x.2.1 5 (Int32.toNatClampNeg ((8 * p1) + y2)))), (0, .ref (ad 0)), (1, .int p1), (2, .int p2)]) O dX12_lowestOf_50 4 rfl rfl (by decide) rfl ?_
          refine z_goto O 12 dX12_lowestOf_53 (by decide) ?_
          exact z_sub [2, 3, 4, 1, 0] rfl (iI12 (x.2.1 5 (Int32.toNatClampNeg ((8 * p1) + y2))) (y2 + (-1)) (Nat.lt_of_lt_of_le h.2 (Nat.le_of_lt_succ uI12)) h.1)
  exact z_sub [2, 3, 4, 1, 0] rfl (kI12 _ 0 ((x.2.1 1 (Int32.toNatClampNeg p1)) - 1) (Nat.lt_succ_self _) h0)
def wp_X12_isThin (x : MS)  (p1 : Int32) (p2 : Int32) (Q : Int32 → Prop) : Prop :=
 (vp_in ((8 * p1) + p2) 48 ∧
 (vp_in ((8 * p1) + p2) 48 ∧
 wp_X12_lowestOf x ((p1 + 1) - (p1 + 1) / 6 * 6) (x.2.1 4 (Int32.toNatClampNeg ((8 * p1) + p2))) (fun r1 : Int32 =>
 ((r1 < ((x.2.1 5 (Int32.toNatClampNeg ((8 * p1) + p2))) + 2) →
 Q 0) ∧ (¬ r1 < ((x.2.1 5 (Int32.toNatClampNeg ((8 * p1) + p2))) + 2) →
 wp_X12_lowestOf x ((p1 + 5) - (p1 + 5) / 6 * 6) (x.2.1 4 (Int32.toNatClampNeg ((8 * p1) + p2))) (fun r2 : Int32 =>
 ((r2 < ((x.2.1 5 (Int32.toNatClampNeg ((8 * p1) + p2))) + 2) →
 Q 0) ∧ (¬ r2 < ((x.2.1 5 (Int32.toNatClampNeg ((8 * p1) + p2))) + 2) →
 Q 1))))))))
set_option maxHeartbeats 4000000 in
set_option maxRecDepth 100000 in
theorem t_X12_isThin {l : Launch} {D : va_G} {cs : Nat → ClassId} {ad : Nat → Nat} (x : MS)  (p1 : Int32) (p2 : Int32) (Q : Int32 → Prop) (h : wp_X12_isThin x  p1 p2 Q) : zMR l yX12_isThin wsX12_isThin ({ frames := 1, cells := 0, slots := 0, locals := 24 } : Room) (gK D cs) (MH D cs ad) x [.ref (ad 0), .int p1, .int p2] Q := by
  refine zMR_of (cc := cX12_isThin) (nL := 5) (ret := (some .boolean)) (by decide +kernel) rfl (Nat.le_of_ble_eq_true rfl) (fun C hl O hE hK hH => ?_)
  subst hl
  have hX : ∀ (x : MS) (H : Heap), z0 (MH D cs ad) C.s.heap x H → va_P D vwCl (wl 18 ad (ME cs ad x)) H := fun _ _ h => h.2
  have i12 : ∀ w ∈ wsX120, w ∈ wsX12_isThin := by decide +kernel
  refine z_sub (lv' := [(0, .ref (ad 0)), (1, .int p1), (2, .int p2)]) [0, 1, 2] rfl ?_
  refine z_aload_n O dX12_isThin_0 0 rfl ?_
  refine z_getf O hK.1 (hX _) (by decide) me_0 rfl i12 4 (by decide) (by decide +kernel) rfl dX12_isThin_1 ?_
  refine z_bipush (v := 8) O dX12_isThin_4 rfl ?_
  refine z_iload_n O dX12_isThin_6 1 rfl ?_
  refine z_imul O dX12_isThin_7 ?_
  refine z_iload_n O dX12_isThin_8 2 rfl ?_
  refine z_iadd O dX12_isThin_9 ?_
  refine z_iald O hK.1 (hX _) 0 (mk_lt mk_4) (me_A mk_4) rfl (show vp_in ((8 * p1) + p2) (mlen 4) from h.1) dX12_isThin_10 ?_
  replace h := h.2
  refine z_istore_n (lv' := [(3, .int (x.2.1 4 (Int32.toNatClampNeg ((8 * p1) + p2)))), (0, .ref (ad 0)), (1, .int p1), (2, .int p2)]) O dX12_isThin_11 (by decide) rfl ?_
  refine z_aload_n O dX12_isThin_12 1 rfl ?_
  refine z_getf O hK.1 (hX _) (by decide) me_0 rfl i12 5 (by decide) (by decide +kernel) rfl dX12_isThin_13 ?_
  refine z_bipush (v := 8) O dX12_isThin_16 rfl ?_
  refine z_iload_n O dX12_isThin_18 2 rfl ?_
  refine z_imul O dX12_isThin_19 ?_
  refine z_iload_n O dX12_isThin_20 3 rfl ?_
  refine z_iadd O dX12_isThin_21 ?_
  refine z_iald O hK.1 (hX _) 0 (mk_lt mk_5) (me_A mk_5) rfl (show vp_in ((8 * p1) + p2) (mlen 5) from h.1) dX12_isThin_22 ?_
  replace h := h.2
  refine z_iconst (v := 2) O dX12_isThin_23 rfl ?_
  refine z_iadd O dX12_isThin_24 ?_
  refine z_istore (lv' := [(4, .int ((x.2.1 5 (Int32.toNatClampNeg ((8 * p1) + p2))) + 2)), (3, .int (x.2.1 4 (Int32.toNatClampNeg ((8 * p1) + p2)))), (0, .ref (ad 0)), (1, .int p1), (2, .int p2)]) O dX12_isThin_25 (by decide) rfl ?_
  refine z_aload_n O dX12_isThin_27 2 rfl ?_
  refine z_iload_n O dX12_isThin_28 3 rfl ?_
  refine z_iconst (v := 1) O dX12_isThin_29 rfl ?_
  refine z_iadd O dX12_isThin_30 ?_
  refine z_bipush (v := 6) O dX12_isThin_31 rfl ?_
  refine z_irem O dX12_isThin_33 (by decide) ?_
  refine z_iload_n O dX12_isThin_34 1 rfl ?_
  refine z_callR (gKs D cs) hK (fun _ h => h.2) (t_X12_lowestOf x  ((p1 + 1) - (p1 + 1) / 6 * 6) (x.2.1 4 (Int32.toNatClampNeg ((8 * p1) + p2))) _ h) (zr_V (As := [.int ((p1 + 1) - (p1 + 1) / 6 * 6), .int (x.2.1 4 (Int32.toNatClampNeg ((8 * p1) + p2)))]) (rest := []) O hE.1 2 gX12_isThin_X12_lowestOf rfl rfl rfl (by decide +kernel) ⟨(Nat.le_of_ble_eq_true rfl), (Nat.le_of_ble_eq_true rfl)⟩ ⟨(Nat.le_of_ble_eq_true rfl), (Nat.le_of_ble_eq_true rfl)⟩ (fun H hH => z_recv hK.1 (hX _ H hH) (by decide) me_0 rfl) rfl rfl (Nat.le_of_ble_eq_true rfl) dX12_isThin_35) (fun r1 h => ?_)
  refine z_iload O dX12_isThin_38 0 rfl ?_
  refine z_icmp_lt O 63 dX12_isThin_40 (by decide) (fun c4 => ?_) (fun c4 => ?_)
  · replace h := h.1 c4
    refine z_iconst (v := 0) O dX12_isThin_63 rfl ?_
    exact z_retR O hE (fun _ h => h.1) rfl dX12_isThin_64 h
  · replace h := h.2 c4
    refine z_aload_n O dX12_isThin_43 2 rfl ?_
    refine z_iload_n O dX12_isThin_44 3 rfl ?_
    refine z_iconst (v := 5) O dX12_isThin_45 rfl ?_
    refine z_iadd O dX12_isThin_46 ?_
    refine z_bipush (v := 6) O dX12_isThin_47 rfl ?_
    refine z_irem O dX12_isThin_49 (by decide) ?_
    refine z_iload_n O dX12_isThin_50 1 rfl ?_
    refine z_callR (gKs D cs) hK (fun _ h => h.2) (t_X12_lowestOf x  ((p1 + 5) - (p1 + 5) / 6 * 6) (x.2.1 4 (Int32.toNatClampNeg ((8 * p1) + p2))) _ h) (zr_V (As := [.int ((p1 + 5) - (p1 + 5) / 6 * 6), .int (x.2.1 4 (Int32.toNatClampNeg ((8 * p1) + p2)))]) (rest := []) O hE.1 2 gX12_isThin_X12_lowestOf rfl rfl rfl (by decide +kernel) ⟨(Nat.le_of_ble_eq_true rfl), (Nat.le_of_ble_eq_true rfl)⟩ ⟨(Nat.le_of_ble_eq_true rfl), (Nat.le_of_ble_eq_true rfl)⟩ (fun H hH => z_recv hK.1 (hX _ H hH) (by decide) me_0 rfl) rfl rfl (Nat.le_of_ble_eq_true rfl) dX12_isThin_51) (fun r2 h => ?_)
    refine z_iload O dX12_isThin_54 0 rfl ?_
    refine z_icmp_lt O 63 dX12_isThin_56 (by decide) (fun c3 => ?_) (fun c3 => ?_)
    · replace h := h.1 c3
      refine z_iconst (v := 0) O dX12_isThin_63 rfl ?_
      exact z_retR O hE (fun _ h => h.1) rfl dX12_isThin_64 h
    · replace h := h.2 c3
      refine z_iconst (v := 1) O dX12_isThin_59 rfl ?_
      refine z_goto O 64 dX12_isThin_60 (by decide) ?_
      exact z_retR O hE (fun _ h => h.1) rfl dX12_isThin_64 h
def wp_X12_thin (x : MS)  (p1 : Int32) (Q : Int32 → MS → Prop) : Prop :=
 (∀ x1 : MS, x1 = mI x 6 0 →
 wp_X12_in (Int32.toInt64 p1) 0 1 (fun r2 : Int32 =>
 ((¬ r2 = 0 →
 (∃ (I25 : Int32 → Int32 → Int32 → Prop) (U25 : Int32 → Int32 → Int32 → Nat), I25 0 (-4) 0 ∧ ∀ (y3 : Int32) (y4 : Int32) (y5 : Int32), I25 y3 y4 y5 →
 ((6 ≤ y5 →
 ((¬ p1 = 0 →
 Q y4 x1) ∧ (p1 = 0 →
 Q y3 x1))) ∧ (¬ 6 ≤ y5 →
 (∃ (I35 : Int32 → Int32 → Int32 → Prop) (U35 : Int32 → Int32 → Int32 → Nat), I35 y3 y4 0 ∧ ∀ (y7 : Int32) (y8 : Int32) (y9 : Int32), I35 y7 y8 y9 →
 (vp_in y5 6 ∧
 (((x1.2.1 1 (Int32.toNatClampNeg y5)) ≤ y9 →
 (I25 y7 y8 (y5 + 1) ∧ U25 y7 y8 (y5 + 1) < U25 y3 y4 y5)) ∧ (¬ (x1.2.1 1 (Int32.toNatClampNeg y5)) ≤ y9 →
 wp_X12_isThin x1 y5 y9 (fun r10 : Int32 =>
 ((r10 = 0 →
 ((r10 = 0 →
 (I35 (y7 + 0) y8 (y9 + 1) ∧ U35 (y7 + 0) y8 (y9 + 1) < U35 y7 y8 y9)) ∧ (¬ r10 = 0 →
 (I35 (y7 + 1) y8 (y9 + 1) ∧ U35 (y7 + 1) y8 (y9 + 1) < U35 y7 y8 y9)))) ∧ (¬ r10 = 0 →
 ((¬ y7 = 0 →
 ((r10 = 0 →
 (I35 (y7 + 0) y8 (y9 + 1) ∧ U35 (y7 + 0) y8 (y9 + 1) < U35 y7 y8 y9)) ∧ (¬ r10 = 0 →
 (I35 (y7 + 1) y8 (y9 + 1) ∧ U35 (y7 + 1) y8 (y9 + 1) < U35 y7 y8 y9)))) ∧ (y7 = 0 →
 ((r10 = 0 →
 (I35 (y7 + 0) ((10 * y5) + y9) (y9 + 1) ∧ U35 (y7 + 0) ((10 * y5) + y9) (y9 + 1) < U35 y7 y8 y9)) ∧ (¬ r10 = 0 →
 (I35 (y7 + 1) ((10 * y5) + y9) (y9 + 1) ∧ U35 (y7 + 1) ((10 * y5) + y9) (y9 + 1) < U35 y7 y8 y9)))))))))))))))) ∧ (r2 = 0 →
 Q (-1) x1))))
set_option maxHeartbeats 4000000 in
set_option maxRecDepth 100000 in
theorem t_X12_thin {l : Launch} {D : va_G} {cs : Nat → ClassId} {ad : Nat → Nat} (hI : wInj 18 ad) (x : MS)  (p1 : Int32) (Q : Int32 → MS → Prop) (h : wp_X12_thin x  p1 Q) : zWR l yX12_thin wsX12_thin ({ frames := 2, cells := 0, slots := 0, locals := 48 } : Room) (gK D cs) (MH D cs ad) (wB 18 ad) x [.ref (ad 0), .int p1] 0 0 Q := by
  refine zWR_of (cc := cX12_thin) (nL := 7) (ret := (some .int)) (by decide +kernel) rfl (Nat.le_of_ble_eq_true rfl) (fun C hl O hE hK => ?_)
  subst hl
  have hX : ∀ (x : MS) (H : Heap), MH D cs ad x H → va_P D vwCl (wl 18 ad (ME cs ad x)) H := fun _ _ h => h
  have hB : ∀ {x : MS} (H : Heap), va_P D vwCl (wl 18 ad (ME cs ad x)) H → MH D cs ad x H := fun _ h => h
  have hA : ∀ q, wB 18 ad q → zA (wB 18 ad) C.s.heap.size q := fun _ h => Or.inl h
  have i12 : ∀ w ∈ wsX120, w ∈ wsX12_thin := by decide +kernel
  refine z_sub (lv' := [(0, .ref (ad 0)), (1, .int p1)]) [0, 1] rfl ?_
  refine z_aload_n O dX12_thin_0 0 rfl ?_
  refine z_iconst (v := 0) O dX12_thin_1 rfl ?_
  obtain ⟨x1, ex1⟩ : ∃ z, z = mI x 6 0 := ⟨_, rfl⟩
  replace h := h x1 ex1
  refine z_putf (x' := x1) (ty := .int) O hK.1 (hX _) hB hI hA (by decide) me_0 rfl i12 tyX12 tyX12_ok nmX12 6 (by decide) (by decide +kernel) rfl (by decide +kernel) rfl rfl (Nat.le_of_ble_eq_true rfl) (by rw [ex1]; exact me_put rfl rfl rfl) dX12_thin_2 ?_
  refine z_iload_n O dX12_thin_5 1 rfl ?_
  refine z_i2l O dX12_thin_6 ?_
  refine z_lconst (v := 0) O dX12_thin_7 rfl ?_
  refine z_lconst (v := 1) O dX12_thin_8 rfl ?_
  refine z_callR (gKs D cs) hK (fun _ h => h) (t_X12_in (gKs D cs) (Int32.toInt64 p1) 0 1 _ h) (zr_SS (As := [.long (Int32.toInt64 p1), .long 0, .long 1]) (rest := []) O hE.1 3 gX12_thin_X12_in rfl rfl rfl (by decide +kernel) ⟨(Nat.le_of_ble_eq_true rfl), (Nat.le_of_ble_eq_true rfl)⟩ ⟨(Nat.le_of_ble_eq_true rfl), (Nat.le_of_ble_eq_true rfl)⟩ rfl rfl (Nat.le_of_ble_eq_true rfl) dX12_thin_9) (fun r2 h => ?_)
  refine z_if_ne O 17 dX12_thin_12 (by decide) (fun c18 => ?_) (fun c18 => ?_)
  · replace h := h.1 c18
    refine z_iconst (v := 0) O dX12_thin_17 rfl ?_
    refine z_istore_n (lv' := [(2, .int 0), (0, .ref (ad 0)), (1, .int p1)]) O dX12_thin_18 (by decide) rfl ?_
    refine z_bipush (v := -4) O dX12_thin_19 rfl ?_
    refine z_istore_n (lv' := [(3, .int (-4)), (2, .int 0), (0, .ref (ad 0)), (1, .int p1)]) O dX12_thin_21 (by decide) rfl ?_
    refine z_iconst (v := 0) O dX12_thin_22 rfl ?_
    refine z_istore (lv' := [(4, .int 0), (3, .int (-4)), (2, .int 0), (0, .ref (ad 0)), (1, .int p1)]) O dX12_thin_23 (by decide) rfl ?_
    obtain ⟨I25, U25, h0, hs⟩ := h
    have kI25 : ∀ (n : Nat) (y3 : Int32) (y4 : Int32) (y5 : Int32), U25 y3 y4 y5 < n → I25 y3 y4 y5 → Z C (zA (wB 18 ad) C.s.heap.size) (MH D cs ad) 7 x1 [(0, .ref (ad 0)), (1, .int p1), (2, .int y3), (3, .int y4), (4, .int y5)] 0 0 25 [] := by
      intro n
      induction n with
      | zero => intro y3 y4 y5 uI25; exact absurd uI25 (Nat.not_lt_zero _)
      | succ n iI25 =>
        intro y3 y4 y5 uI25 h
        have h := hs y3 y4 y5 h
        refine z_iload O dX12_thin_25 4 rfl ?_
        refine z_bipush (v := 6) O dX12_thin_27 rfl ?_
        refine z_icmp_ge O 104 dX12_thin_29 (by decide) (fun c17 => ?_) (fun c17 => ?_)
        · replace h := h.1 c17
          refine z_iload_n O dX12_thin_104 1 rfl ?_
          refine z_if_ne O 112 dX12_thin_105 (by decide) (fun c6 => ?_) (fun c6 => ?_)
          · replace h := h.1 c6
            refine z_iload_n O dX12_thin_112 3 rfl ?_
            exact z_retWR O hE (Nat.le_of_ble_eq_true rfl) (Nat.le_of_ble_eq_true rfl) rfl dX12_thin_113 h
          · replace h := h.2 c6
            refine z_iload_n O dX12_thin_108 2 rfl ?_
            refine z_goto O 113 dX12_thin_109 (by decide) ?_
            exact z_retWR O hE (Nat.le_of_ble_eq_true rfl) (Nat.le_of_ble_eq_true rfl) rfl dX12_thin_113 h
        · replace h := h.2 c17
          refine z_iconst (v := 0) O dX12_thin_32 rfl ?_
          refine z_istore (lv' := [(5, .int 0), (0, .ref (ad 0)), (1, .int p1), (2, .int y3), (3, .int y4), (4, .int y5)]) O dX12_thin_33 (by decide) rfl ?_
          obtain ⟨I35, U35, h0, hs⟩ := h
          have kI35 : ∀ (n : Nat) (y7 : Int32) (y8 : Int32) (y9 : Int32), U35 y7 y8 y9 < n → I35 y7 y8 y9 → Z C (zA (wB 18 ad) C.s.heap.size) (MH D cs ad) 7 x1 [(0, .ref (ad 0)), (1, .int p1), (2, .int y7), (3, .int y8), (4, .int y5), (5, .int y9)] 0 0 35 [] := by
            intro n
            induction n with
            | zero => intro y7 y8 y9 uI35; exact absurd uI35 (Nat.not_lt_zero _)
            | succ n iI35 =>
              intro y7 y8 y9 uI35 h
              have h := hs y7 y8 y9 h
              refine z_iload O dX12_thin_35 5 rfl ?_
              refine z_aload_n O dX12_thin_37 0 rfl ?_
              refine z_getf O hK.1 (hX _) (by decide) me_0 rfl i12 1 (by decide) (by decide +kernel) rfl dX12_thin_38 ?_
              refine z_iload O dX12_thin_41 4 rfl ?_
              refine z_iald O hK.1 (hX _) 0 (mk_lt mk_1) (me_A mk_1) rfl (show vp_in y5 (mlen 1) from h.1) dX12_thin_43 ?_
              replace h := h.2
              refine z_icmp_ge O 98 dX12_thin_44 (by decide) (fun c16 => ?_) (fun c16 => ?_)
              · replace h := h.1 c16
                refine z_iinc (lv' := [(4, .int (y5 + 1)), (0, .ref (ad 0)), (1, .int p1), (2, .int y7), (3, .int y8), (5, .int y9)]) O dX12_thin_98 4 rfl rfl (by decide) rfl ?_
                refine z_goto O 25 dX12_thin_101 (by decide) ?_
                exact z_sub [1, 2, 3, 4, 0] rfl (iI25 y7 y8 (y5 + 1) (Nat.lt_of_lt_of_le h.2 (Nat.le_of_lt_succ uI25)) h.1)
              · replace h := h.2 c16
                refine z_aload_n O dX12_thin_47 0 rfl ?_
                refine z_iload O dX12_thin_48 4 rfl ?_
                refine z_iload O dX12_thin_50 5 rfl ?_
                refine z_callR (gKs D cs) hK (fun _ h => h) (t_X12_isThin x1  y5 y9 _ h) (zr_V (As := [.int y5, .int y9]) (rest := []) O hE.1 2 gX12_thin_X12_isThin rfl rfl rfl (by decide +kernel) ⟨(Nat.le_of_ble_eq_true rfl), (Nat.le_of_ble_eq_true rfl)⟩ ⟨(Nat.le_of_ble_eq_true rfl), (Nat.le_of_ble_eq_true rfl)⟩ (fun H hH => z_recv hK.1 (hX _ H hH) (by decide) me_0 rfl) rfl rfl (Nat.le_of_ble_eq_true rfl) dX12_thin_52) (fun r10 h => ?_)
                refine z_istore (lv' := [(6, .int r10), (0, .ref (ad 0)), (1, .int p1), (2, .int y7), (3, .int y8), (4, .int y5), (5, .int y9)]) O dX12_thin_55 (by decide) rfl ?_
                refine z_iload O dX12_thin_57 0 rfl ?_
                refine z_if_eq O 77 dX12_thin_59 (by decide) (fun c15 => ?_) (fun c15 => ?_)
                · replace h := h.1 c15
                  refine z_iload_n O dX12_thin_77 4 rfl ?_
                  refine z_istore_n (lv' := [(3, .int y8), (6, .int r10), (0, .ref (ad 0)), (1, .int p1), (2, .int y7), (4, .int y5), (5, .int y9)]) O dX12_thin_78 (by decide) rfl ?_
                  refine z_iload_n O dX12_thin_79 4 rfl ?_
                  refine z_iload O dX12_thin_80 1 rfl ?_
                  refine z_if_eq O 89 dX12_thin_82 (by decide) (fun c11 => ?_) (fun c11 => ?_)
                  · replace h := h.1 c11
                    refine z_iconst (v := 0) O dX12_thin_89 rfl ?_
                    refine z_iadd O dX12_thin_90 ?_
                    refine z_istore_n (lv' := [(2, .int (y7 + 0)), (3, .int y8), (6, .int r10), (0, .ref (ad 0)), (1, .int p1), (4, .int y5), (5, .int y9)]) O dX12_thin_91 (by decide) rfl ?_
                    refine z_iinc (lv' := [(5, .int (y9 + 1)), (2, .int (y7 + 0)), (3, .int y8), (6, .int r10), (0, .ref (ad 0)), (1, .int p1), (4, .int y5)]) O dX12_thin_92 6 rfl rfl (by decide) rfl ?_
                    refine z_goto O 35 dX12_thin_95 (by decide) ?_
                    exact z_sub [4, 5, 1, 2, 6, 0] rfl (iI35 (y7 + 0) y8 (y9 + 1) (Nat.lt_of_lt_of_le h.2 (Nat.le_of_lt_succ uI35)) h.1)
                  · replace h := h.2 c11
                    refine z_iconst (v := 1) O dX12_thin_85 rfl ?_
                    refine z_goto O 90 dX12_thin_86 (by decide) ?_
                    refine z_iadd O dX12_thin_90 ?_
                    refine z_istore_n (lv' := [(2, .int (y7 + 1)), (3, .int y8), (6, .int r10), (0, .ref (ad 0)), (1, .int p1), (4, .int y5), (5, .int y9)]) O dX12_thin_91 (by decide) rfl ?_
                    refine z_iinc (lv' := [(5, .int (y9 + 1)), (2, .int (y7 + 1)), (3, .int y8), (6, .int r10), (0, .ref (ad 0)), (1, .int p1), (4, .int y5)]) O dX12_thin_92 6 rfl rfl (by decide) rfl ?_
                    refine z_goto O 35 dX12_thin_95 (by decide) ?_
                    exact z_sub [4, 5, 1, 2, 6, 0] rfl (iI35 (y7 + 1) y8 (y9 + 1) (Nat.lt_of_lt_of_le h.2 (Nat.le_of_lt_succ uI35)) h.1)
                · replace h := h.2 c15
                  refine z_iload_n O dX12_thin_62 3 rfl ?_
                  refine z_if_ne O 77 dX12_thin_63 (by decide) (fun c14 => ?_) (fun c14 => ?_)
                  · replace h := h.1 c14
                    refine z_iload_n O dX12_thin_77 4 rfl ?_
                    refine z_istore_n (lv' := [(3, .int y8), (6, .int r10), (0, .ref (ad 0)), (1, .int p1), (2, .int y7), (4, .int y5), (5, .int y9)]) O dX12_thin_78 (by decide) rfl ?_
                    refine z_iload_n O dX12_thin_79 4 rfl ?_
                    refine z_iload O dX12_thin_80 1 rfl ?_
                    refine z_if_eq O 89 dX12_thin_82 (by decide) (fun c12 => ?_) (fun c12 => ?_)
                    · replace h := h.1 c12
                      refine z_iconst (v := 0) O dX12_thin_89 rfl ?_
                      refine z_iadd O dX12_thin_90 ?_
                      refine z_istore_n (lv' := [(2, .int (y7 + 0)), (3, .int y8), (6, .int r10), (0, .ref (ad 0)), (1, .int p1), (4, .int y5), (5, .int y9)]) O dX12_thin_91 (by decide) rfl ?_
                      refine z_iinc (lv' := [(5, .int (y9 + 1)), (2, .int (y7 + 0)), (3, .int y8), (6, .int r10), (0, .ref (ad 0)), (1, .int p1), (4, .int y5)]) O dX12_thin_92 6 rfl rfl (by decide) rfl ?_
                      refine z_goto O 35 dX12_thin_95 (by decide) ?_
                      exact z_sub [4, 5, 1, 2, 6, 0] rfl (iI35 (y7 + 0) y8 (y9 + 1) (Nat.lt_of_lt_of_le h.2 (Nat.le_of_lt_succ uI35)) h.1)
                    · replace h := h.2 c12
                      refine z_iconst (v := 1) O dX12_thin_85 rfl ?_
                      refine z_goto O 90 dX12_thin_86 (by decide) ?_
                      refine z_iadd O dX12_thin_90 ?_
                      refine z_istore_n (lv' := [(2, .int (y7 + 1)), (3, .int y8), (6, .int r10), (0, .ref (ad 0)), (1, .int p1), (4, .int y5), (5, .int y9)]) O dX12_thin_91 (by decide) rfl ?_
                      refine z_iinc (lv' := [(5, .int (y9 + 1)), (2, .int (y7 + 1)), (3, .int y8), (6, .int r10), (0, .ref (ad 0)), (1, .int p1), (4, .int y5)]) O dX12_thin_92 6 rfl rfl (by decide) rfl ?_
                      refine z_goto O 35 dX12_thin_95 (by decide) ?_
                      exact z_sub [4, 5, 1, 2, 6, 0] rfl (iI35 (y7 + 1) y8 (y9 + 1) (Nat.lt_of_lt_of_le h.2 (Nat.le_of_lt_succ uI35)) h.1)
                  · replace h := h.2 c14
                    refine z_bipush (v := 10) O dX12_thin_66 rfl ?_
                    refine z_iload O dX12_thin_68 5 rfl ?_
                    refine z_imul O dX12_thin_70 ?_
                    refine z_iload O dX12_thin_71 6 rfl ?_
                    refine z_iadd O dX12_thin_73 ?_
                    refine z_goto O 78 dX12_thin_74 (by decide) ?_
                    refine z_istore_n (lv' := [(3, .int ((10 * y5) + y9)), (6, .int r10), (0, .ref (ad 0)), (1, .int p1), (2, .int y7), (4, .int y5), (5, .int y9)]) O dX12_thin_78 (by decide) rfl ?_
                    refine z_iload_n O dX12_thin_79 4 rfl ?_
                    refine z_iload O dX12_thin_80 1 rfl ?_
                    refine z_if_eq O 89 dX12_thin_82 (by decide) (fun c13 => ?_) (fun c13 => ?_)
                    · replace h := h.1 c13
                      refine z_iconst (v := 0) O dX12_thin_89 rfl ?_
                      refine z_iadd O dX12_thin_90 ?_
                      refine z_istore_n (lv' := [(2, .int (y7 + 0)), (3, .int ((10 * y5) + y9)), (6, .int r10), (0, .ref (ad 0)), (1, .int p1), (4, .int y5), (5, .int y9)]) O dX12_thin_91 (by decide) rfl ?_
                      refine z_iinc (lv' := [(5, .int (y9 + 1)), (2, .int (y7 + 0)), (3, .int ((10 * y5) + y9)), (6, .int r10), (0, .ref (ad 0)), (1, .int p1), (4, .int y5)]) O dX12_thin_92 6 rfl rfl (by decide) rfl ?_
                      refine z_goto O 35 dX12_thin_95 (by decide) ?_
                      exact z_sub [4, 5, 1, 2, 6, 0] rfl (iI35 (y7 + 0) ((10 * y5) + y9) (y9 + 1) (Nat.lt_of_lt_of_le h.2 (Nat.le_of_lt_succ uI35)) h.1)
                    · replace h := h.2 c13
                      refine z_iconst (v := 1) O dX12_thin_85 rfl ?_
                      refine z_goto O 90 dX12_thin_86 (by decide) ?_
                      refine z_iadd O dX12_thin_90 ?_
                      refine z_istore_n (lv' := [(2, .int (y7 + 1)), (3, .int ((10 * y5) + y9)), (6, .int r10), (0, .ref (ad 0)), (1, .int p1), (4, .int y5), (5, .int y9)]) O dX12_thin_91 (by decide) rfl ?_
                      refine z_iinc (lv' := [(5, .int (y9 + 1)), (2, .int (y7 + 1)), (3, .int ((10 * y5) + y9)), (6, .int r10), (0, .ref (ad 0)), (1, .int p1), (4, .int y5)]) O dX12_thin_92 6 rfl rfl (by decide) rfl ?_
                      refine z_goto O 35 dX12_thin_95 (by decide) ?_
                      exact z_sub [4, 5, 1, 2, 6, 0] rfl (iI35 (y7 + 1) ((10 * y5) + y9) (y9 + 1) (Nat.lt_of_lt_of_le h.2 (Nat.le_of_lt_succ uI35)) h.1)
          exact z_sub [1, 2, 3, 4, 5, 0] rfl (kI35 _ y3 y4 0 (Nat.lt_succ_self _) h0)
    exact z_sub [3, 4, 2, 1, 0] rfl (kI25 _ 0 (-4) 0 (Nat.lt_succ_self _) h0)
  · replace h := h.2 c18
    refine z_iconst (v := -1) O dX12_thin_15 rfl ?_
    exact z_retWR O hE (Nat.le_of_ble_eq_true rfl) (Nat.le_of_ble_eq_true rfl) rfl dX12_thin_16 h
def wp_X12_layerAt (x : MS)  (p1 : Int32) (p2 : Int32) (Q : Int32 → Prop) : Prop :=
 (vp_in p1 6 ∧
 (∃ (I12 : Int32 → Int32 → Prop) (U12 : Int32 → Int32 → Nat), I12 p2 ((x.2.1 1 (Int32.toNatClampNeg p1)) - 1) ∧ ∀ (y1 : Int32) (y2 : Int32), I12 y1 y2 →
 ((y2 < 0 →
 Q (-1)) ∧ (¬ y2 < 0 →
 (vp_in ((8 * p1) + y2) 48 ∧
 (((x.2.1 5 (Int32.toNatClampNeg ((8 * p1) + y2))) ≤ y1 →
 (vp_in ((8 * p1) + y2) 48 ∧
 (I12 (y1 - (x.2.1 5 (Int32.toNatClampNeg ((8 * p1) + y2)))) (y2 + (-1)) ∧ U12 (y1 - (x.2.1 5 (Int32.toNatClampNeg ((8 * p1) + y2)))) (y2 + (-1)) < U12 y1 y2))) ∧ (¬ (x.2.1 5 (Int32.toNatClampNeg ((8 * p1) + y2))) ≤ y1 →
 Q y2)))))))
set_option maxHeartbeats 4000000 in
set_option maxRecDepth 100000 in
theorem t_X12_layerAt {l : Launch} {D : va_G} {cs : Nat → ClassId} {ad : Nat → Nat} (x : MS)  (p1 : Int32) (p2 : Int32) (Q : Int32 → Prop) (h : wp_X12_layerAt x  p1 p2 Q) : zMR l yX12_layerAt wsX12_layerAt ({ frames := 0, cells := 0, slots := 0, locals := 0 } : Room) (gK D cs) (MH D cs ad) x [.ref (ad 0), .int p1, .int p2] Q := by
  refine zMR_of (cc := cX12_layerAt) (nL := 5) (ret := (some .int)) (by decide +kernel) rfl (Nat.le_of_ble_eq_true rfl) (fun C hl O hE hK hH => ?_)
  subst hl
  have hX : ∀ (x : MS) (H : Heap), z0 (MH D cs ad) C.s.heap x H → va_P D vwCl (wl 18 ad (ME cs ad x)) H := fun _ _ h => h.2
  have i12 : ∀ w ∈ wsX120, w ∈ wsX12_layerAt := by decide +kernel
  refine z_sub (lv' := [(0, .ref (ad 0)), (1, .int p1), (2, .int p2)]) [0, 1, 2] rfl ?_
  refine z_iload_n O dX12_layerAt_0 2 rfl ?_
  refine z_istore_n (lv' := [(3, .int p2), (0, .ref (ad 0)), (1, .int p1), (2, .int p2)]) O dX12_layerAt_1 (by decide) rfl ?_
  refine z_aload_n O dX12_layerAt_2 1 rfl ?_
  refine z_getf O hK.1 (hX _) (by decide) me_0 rfl i12 1 (by decide) (by decide +kernel) rfl dX12_layerAt_3 ?_
  refine z_iload_n O dX12_layerAt_6 2 rfl ?_
  refine z_iald O hK.1 (hX _) 0 (mk_lt mk_1) (me_A mk_1) rfl (show vp_in p1 (mlen 1) from h.1) dX12_layerAt_7 ?_
  replace h := h.2
  refine z_iconst (v := 1) O dX12_layerAt_8 rfl ?_
  refine z_isub O dX12_layerAt_9 ?_
  refine z_istore (lv' := [(4, .int ((x.2.1 1 (Int32.toNatClampNeg p1)) - 1)), (3, .int p2), (0, .ref (ad 0)), (1, .int p1), (2, .int p2)]) O dX12_layerAt_10 (by decide) rfl ?_
  obtain ⟨I12, U12, h0, hs⟩ := h
  have kI12 : ∀ (n : Nat) (y1 : Int32) (y2 : Int32), U12 y1 y2 < n → I12 y1 y2 → Z C (fun _ => False) (z0 (MH D cs ad) C.s.heap) 5 x [(0, .ref (ad 0)), (1, .int p1), (3, .int y1), (4, .int y2)] 0 0 12 [] := by
    intro n
    induction n with
    | zero => intro y1 y2 uI12; exact absurd uI12 (Nat.not_lt_zero _)
    | succ n iI12 =>
      intro y1 y2 uI12 h
      have h := hs y1 y2 h
      refine z_iload O dX12_layerAt_12 3 rfl ?_
      refine z_if_lt O 57 dX12_layerAt_14 (by decide) (fun c4 => ?_) (fun c4 => ?_)
      · replace h := h.1 c4
        refine z_iconst (v := -1) O dX12_layerAt_57 rfl ?_
        exact z_retR O hE (fun _ h => h.1) rfl dX12_layerAt_58 h
      · replace h := h.2 c4
        refine z_iload_n O dX12_layerAt_17 2 rfl ?_
        refine z_aload_n O dX12_layerAt_18 0 rfl ?_
        refine z_getf O hK.1 (hX _) (by decide) me_0 rfl i12 5 (by decide) (by decide +kernel) rfl dX12_layerAt_19 ?_
        refine z_bipush (v := 8) O dX12_layerAt_22 rfl ?_
        refine z_iload_n O dX12_layerAt_24 1 rfl ?_
        refine z_imul O dX12_layerAt_25 ?_
        refine z_iload O dX12_layerAt_26 3 rfl ?_
        refine z_iadd O dX12_layerAt_28 ?_
        refine z_iald O hK.1 (hX _) 0 (mk_lt mk_5) (me_A mk_5) rfl (show vp_in ((8 * p1) + y2) (mlen 5) from h.1) dX12_layerAt_29 ?_
        replace h := h.2
        refine z_icmp_ge O 36 dX12_layerAt_30 (by decide) (fun c3 => ?_) (fun c3 => ?_)
        · replace h := h.1 c3
          refine z_iload_n O dX12_layerAt_36 2 rfl ?_
          refine z_aload_n O dX12_layerAt_37 0 rfl ?_
          refine z_getf O hK.1 (hX _) (by decide) me_0 rfl i12 5 (by decide) (by decide +kernel) rfl dX12_layerAt_38 ?_
          refine z_bipush (v := 8) O dX12_layerAt_41 rfl ?_
          refine z_iload_n O dX12_layerAt_43 1 rfl ?_
          refine z_imul O dX12_layerAt_44 ?_
          refine z_iload O dX12_layerAt_45 3 rfl ?_
          refine z_iadd O dX12_layerAt_47 ?_
          refine z_iald O hK.1 (hX _) 0 (mk_lt mk_5) (me_A mk_5) rfl (show vp_in ((8 * p1) + y2) (mlen 5) from h.1) dX12_layerAt_48 ?_
          replace h := h.2
          refine z_isub O dX12_layerAt_49 ?_
          refine z_istore_n (lv' := [(3, .int (y1 - (x.2.1 5 (Int32.toNatClampNeg ((8 * p1) + y2))))), (0, .ref (ad 0)), (1, .int p1), (4, .int y2)]) O dX12_layerAt_50 (by decide) rfl ?_
          refine z_iinc (lv' := [(4, .int (y2 + (-1))), (3, .int (y1 - (x.2.1 5 (Int32.toNatClampNeg ((8 * p1) + y2))))), (0, .ref (ad 0)), (1, .int p1)]) O dX12_layerAt_51 3 rfl rfl (by decide) rfl ?_
          refine z_goto O 12 dX12_layerAt_54 (by decide) ?_
          exact z_sub [2, 3, 1, 0] rfl (iI12 (y1 - (x.2.1 5 (Int32.toNatClampNeg ((8 * p1) + y2)))) (y2 + (-1)) (Nat.lt_of_lt_of_le h.2 (Nat.le_of_lt_succ uI12)) h.1)
        · replace h := h.2 c3
          refine z_iload O dX12_layerAt_33 3 rfl ?_
          exact z_retR O hE (fun _ h => h.1) rfl dX12_layerAt_35 h
  exact z_sub [2, 3, 1, 0] rfl (kI12 _ p2 ((x.2.1 1 (Int32.toNatClampNeg p1)) - 1) (Nat.lt_succ_self _) h0)
def wp_X12_spans (x : MS)  (p1 : Int32) (p2 : Int32) (Q : Int32 → MS → Prop) : Prop :=
 (∀ x1 : MS, x1 = mI x 6 0 →
 wp_X12_isCell p1 (fun r2 : Int32 =>
 ((r2 = 0 →
 Q (-1) x1) ∧ (¬ r2 = 0 →
 wp_X12_in (Int32.toInt64 p2) 0 98 (fun r3 : Int32 =>
 ((¬ r3 = 0 →
 wp_X12_layerAt x1 p1 p2 (fun r4 : Int32 =>
 ((0 ≤ r4 →
 (vp_in ((8 * p1) + r4) 48 ∧
 Q (x1.2.1 4 (Int32.toNatClampNeg ((8 * p1) + r4))) x1)) ∧ (¬ 0 ≤ r4 →
 Q (-4) x1)))) ∧ (r3 = 0 →
 Q (-1) x1)))))))
set_option maxHeartbeats 4000000 in
set_option maxRecDepth 100000 in
theorem t_X12_spans {l : Launch} {D : va_G} {cs : Nat → ClassId} {ad : Nat → Nat} (hI : wInj 18 ad) (x : MS)  (p1 : Int32) (p2 : Int32) (Q : Int32 → MS → Prop) (h : wp_X12_spans x  p1 p2 Q) : zWR l yX12_spans wsX12_spans ({ frames := 2, cells := 0, slots := 0, locals := 45 } : Room) (gK D cs) (MH D cs ad) (wB 18 ad) x [.ref (ad 0), .int p1, .int p2] 0 0 Q := by
  refine zWR_of (cc := cX12_spans) (nL := 4) (ret := (some .int)) (by decide +kernel) rfl (Nat.le_of_ble_eq_true rfl) (fun C hl O hE hK => ?_)
  subst hl
  have hX : ∀ (x : MS) (H : Heap), MH D cs ad x H → va_P D vwCl (wl 18 ad (ME cs ad x)) H := fun _ _ h => h
  have hB : ∀ {x : MS} (H : Heap), va_P D vwCl (wl 18 ad (ME cs ad x)) H → MH D cs ad x H := fun _ h => h
  have hA : ∀ q, wB 18 ad q → zA (wB 18 ad) C.s.heap.size q := fun _ h => Or.inl h
  have i12 : ∀ w ∈ wsX120, w ∈ wsX12_spans := by decide +kernel
  refine z_sub (lv' := [(0, .ref (ad 0)), (1, .int p1), (2, .int p2)]) [0, 1, 2] rfl ?_
  refine z_aload_n O dX12_spans_0 0 rfl ?_
  refine z_iconst (v := 0) O dX12_spans_1 rfl ?_
  obtain ⟨x1, ex1⟩ : ∃ z, z = mI x 6 0 := ⟨_, rfl⟩
  replace h := h x1 ex1
  refine z_putf (x' := x1) (ty := .int) O hK.1 (hX _) hB hI hA (by decide) me_0 rfl i12 tyX12 tyX12_ok nmX12 6 (by decide) (by decide +kernel) rfl (by decide +kernel) rfl rfl (Nat.le_of_ble_eq_true rfl) (by rw [ex1]; exact me_put rfl rfl rfl) dX12_spans_2 ?_
  refine z_iload_n O dX12_spans_5 1 rfl ?_
  refine z_callR (gKs D cs) hK (fun _ h => h) (t_X12_isCell (gKs D cs) p1 _ h) (zr_SS (As := [.int p1]) (rest := []) O hE.1 1 gX12_spans_X12_isCell rfl rfl rfl (by decide +kernel) ⟨(Nat.le_of_ble_eq_true rfl), (Nat.le_of_ble_eq_true rfl)⟩ ⟨(Nat.le_of_ble_eq_true rfl), (Nat.le_of_ble_eq_true rfl)⟩ rfl rfl (Nat.le_of_ble_eq_true rfl) dX12_spans_6) (fun r2 h => ?_)
  refine z_if_eq O 24 dX12_spans_9 (by decide) (fun c7 => ?_) (fun c7 => ?_)
  · replace h := h.1 c7
    refine z_iconst (v := -1) O dX12_spans_24 rfl ?_
    exact z_retWR O hE (Nat.le_of_ble_eq_true rfl) (Nat.le_of_ble_eq_true rfl) rfl dX12_spans_25 h
  · replace h := h.2 c7
    refine z_iload_n O dX12_spans_12 2 rfl ?_
    refine z_i2l O dX12_spans_13 ?_
    refine z_lconst (v := 0) O dX12_spans_14 rfl ?_
    refine z_ldc2 (v := 98) O (by decide +kernel) dX12_spans_15 ?_
    refine z_callR (gKs D cs) hK (fun _ h => h) (t_X12_in (gKs D cs) (Int32.toInt64 p2) 0 98 _ h) (zr_SS (As := [.long (Int32.toInt64 p2), .long 0, .long 98]) (rest := []) O hE.1 3 gX12_spans_X12_in rfl rfl rfl (by decide +kernel) ⟨(Nat.le_of_ble_eq_true rfl), (Nat.le_of_ble_eq_true rfl)⟩ ⟨(Nat.le_of_ble_eq_true rfl), (Nat.le_of_ble_eq_true rfl)⟩ rfl rfl (Nat.le_of_ble_eq_true rfl) dX12_spans_18) (fun r3 h => ?_)
    refine z_if_ne O 26 dX12_spans_21 (by decide) (fun c6 => ?_) (fun c6 => ?_)
    · replace h := h.1 c6
      refine z_aload_n O dX12_spans_26 0 rfl ?_
      refine z_iload_n O dX12_spans_27 1 rfl ?_
      refine z_iload_n O dX12_spans_28 2 rfl ?_
      refine z_callR (gKs D cs) hK (fun _ h => h) (t_X12_layerAt x1  p1 p2 _ h) (zr_V (As := [.int p1, .int p2]) (rest := []) O hE.1 2 gX12_spans_X12_layerAt rfl rfl rfl (by decide +kernel) ⟨(Nat.le_of_ble_eq_true rfl), (Nat.le_of_ble_eq_true rfl)⟩ ⟨(Nat.le_of_ble_eq_true rfl), (Nat.le_of_ble_eq_true rfl)⟩ (fun H hH => z_recv hK.1 (hX _ H hH) (by decide) me_0 rfl) rfl rfl (Nat.le_of_ble_eq_true rfl) dX12_spans_29) (fun r4 h => ?_)
      refine z_istore_n (lv' := [(3, .int r4), (0, .ref (ad 0)), (1, .int p1), (2, .int p2)]) O dX12_spans_32 (by decide) rfl ?_
      refine z_iload_n O dX12_spans_33 0 rfl ?_
      refine z_if_ge O 42 dX12_spans_34 (by decide) (fun c5 => ?_) (fun c5 => ?_)
      · replace h := h.1 c5
        refine z_aload_n O dX12_spans_42 1 rfl ?_
        refine z_getf O hK.1 (hX _) (by decide) me_0 rfl i12 4 (by decide) (by decide +kernel) rfl dX12_spans_43 ?_
        refine z_bipush (v := 8) O dX12_spans_46 rfl ?_
        refine z_iload_n O dX12_spans_48 2 rfl ?_
        refine z_imul O dX12_spans_49 ?_
        refine z_iload_n O dX12_spans_50 0 rfl ?_
        refine z_iadd O dX12_spans_51 ?_
        refine z_iald O hK.1 (hX _) 0 (mk_lt mk_4) (me_A mk_4) rfl (show vp_in ((8 * p1) + r4) (mlen 4) from h.1) dX12_spans_52 ?_
        replace h := h.2
        exact z_retWR O hE (Nat.le_of_ble_eq_true rfl) (Nat.le_of_ble_eq_true rfl) rfl dX12_spans_53 h
      · replace h := h.2 c5
        refine z_bipush (v := -4) O dX12_spans_37 rfl ?_
        refine z_goto O 53 dX12_spans_39 (by decide) ?_
        exact z_retWR O hE (Nat.le_of_ble_eq_true rfl) (Nat.le_of_ble_eq_true rfl) rfl dX12_spans_53 h
    · replace h := h.2 c6
      refine z_iconst (v := -1) O dX12_spans_24 rfl ?_
      exact z_retWR O hE (Nat.le_of_ble_eq_true rfl) (Nat.le_of_ble_eq_true rfl) rfl dX12_spans_25 h
def wp_X12_disorder (x : MS)   (Q : Int32 → MS → Prop) : Prop :=
 (∀ x1 : MS, x1 = mI x 6 0 →
 (∃ (I9 : Int32 → Int32 → Prop) (U9 : Int32 → Int32 → Nat), I9 0 0 ∧ ∀ (y2 : Int32) (y3 : Int32), I9 y2 y3 →
 ((6 ≤ y3 →
 Q y2 x1) ∧ (¬ 6 ≤ y3 →
 (∃ (I17 : Int32 → Int32 → Prop) (U17 : Int32 → Int32 → Nat), I17 y2 1 ∧ ∀ (y4 : Int32) (y5 : Int32), I17 y4 y5 →
 (vp_in y3 6 ∧
 (((x1.2.1 1 (Int32.toNatClampNeg y3)) ≤ y5 →
 (I9 y4 (y3 + 1) ∧ U9 y4 (y3 + 1) < U9 y2 y3)) ∧ (¬ (x1.2.1 1 (Int32.toNatClampNeg y3)) ≤ y5 →
 (vp_in ((8 * y3) + y5) 48 ∧
 (vp_in (((8 * y3) + y5) - 1) 48 ∧
 (((x1.2.1 4 (Int32.toNatClampNeg (((8 * y3) + y5) - 1))) ≤ (x1.2.1 4 (Int32.toNatClampNeg ((8 * y3) + y5))) →
 (I17 (y4 + 0) (y5 + 1) ∧ U17 (y4 + 0) (y5 + 1) < U17 y4 y5)) ∧ (¬ (x1.2.1 4 (Int32.toNatClampNeg (((8 * y3) + y5) - 1))) ≤ (x1.2.1 4 (Int32.toNatClampNeg ((8 * y3) + y5))) →
 (I17 (y4 + 1) (y5 + 1) ∧ U17 (y4 + 1) (y5 + 1) < U17 y4 y5)))))))))))))
set_option maxHeartbeats 4000000 in
set_option maxRecDepth 100000 in
theorem t_X12_disorder {l : Launch} {D : va_G} {cs : Nat → ClassId} {ad : Nat → Nat} (hI : wInj 18 ad) (x : MS)   (Q : Int32 → MS → Prop) (h : wp_X12_disorder x   Q) : zWR l yX12_disorder wsX12_disorder ({ frames := 0, cells := 0, slots := 0, locals := 0 } : Room) (gK D cs) (MH D cs ad) (wB 18 ad) x [.ref (ad 0)] 0 0 Q := by
  refine zWR_of (cc := cX12_disorder) (nL := 4) (ret := (some .int)) (by decide +kernel) rfl (Nat.le_of_ble_eq_true rfl) (fun C hl O hE hK => ?_)
  subst hl
  have hX : ∀ (x : MS) (H : Heap), MH D cs ad x H → va_P D vwCl (wl 18 ad (ME cs ad x)) H := fun _ _ h => h
  have hB : ∀ {x : MS} (H : Heap), va_P D vwCl (wl 18 ad (ME cs ad x)) H → MH D cs ad x H := fun _ h => h
  have hA : ∀ q, wB 18 ad q → zA (wB 18 ad) C.s.heap.size q := fun _ h => Or.inl h
  have i12 : ∀ w ∈ wsX120, w ∈ wsX12_disorder := by decide +kernel
  refine z_sub (lv' := [(0, .ref (ad 0))]) [0] rfl ?_
  refine z_aload_n O dX12_disorder_0 0 rfl ?_
  refine z_iconst (v := 0) O dX12_disorder_1 rfl ?_
  obtain ⟨x1, ex1⟩ : ∃ z, z = mI x 6 0 := ⟨_, rfl⟩
  replace h := h x1 ex1
  refine z_putf (x' := x1) (ty := .int) O hK.1 (hX _) hB hI hA (by decide) me_0 rfl i12 tyX12 tyX12_ok nmX12 6 (by decide) (by decide +kernel) rfl (by decide +kernel) rfl rfl (Nat.le_of_ble_eq_true rfl) (by rw [ex1]; exact me_put rfl rfl rfl) dX12_disorder_2 ?_
  refine z_iconst (v := 0) O dX12_disorder_5 rfl ?_
  refine z_istore_n (lv' := [(1, .int 0), (0, .ref (ad 0))]) O dX12_disorder_6 (by decide) rfl ?_
  refine z_iconst (v := 0) O dX12_disorder_7 rfl ?_
  refine z_istore_n (lv' := [(2, .int 0), (1, .int 0), (0, .ref (ad 0))]) O dX12_disorder_8 (by decide) rfl ?_
  obtain ⟨I9, U9, h0, hs⟩ := h
  have kI9 : ∀ (n : Nat) (y2 : Int32) (y3 : Int32), U9 y2 y3 < n → I9 y2 y3 → Z C (zA (wB 18 ad) C.s.heap.size) (MH D cs ad) 4 x1 [(0, .ref (ad 0)), (1, .int y2), (2, .int y3)] 0 0 9 [] := by
    intro n
    induction n with
    | zero => intro y2 y3 uI9; exact absurd uI9 (Nat.not_lt_zero _)
    | succ n iI9 =>
      intro y2 y3 uI9 h
      have h := hs y2 y3 h
      refine z_iload_n O dX12_disorder_9 2 rfl ?_
      refine z_bipush (v := 6) O dX12_disorder_10 rfl ?_
      refine z_icmp_ge O 74 dX12_disorder_12 (by decide) (fun c8 => ?_) (fun c8 => ?_)
      · replace h := h.1 c8
        refine z_iload_n O dX12_disorder_74 1 rfl ?_
        exact z_retWR O hE (Nat.le_of_ble_eq_true rfl) (Nat.le_of_ble_eq_true rfl) rfl dX12_disorder_75 h
      · replace h := h.2 c8
        refine z_iconst (v := 1) O dX12_disorder_15 rfl ?_
        refine z_istore_n (lv' := [(3, .int 1), (0, .ref (ad 0)), (1, .int y2), (2, .int y3)]) O dX12_disorder_16 (by decide) rfl ?_
        obtain ⟨I17, U17, h0, hs⟩ := h
        have kI17 : ∀ (n : Nat) (y4 : Int32) (y5 : Int32), U17 y4 y5 < n → I17 y4 y5 → Z C (zA (wB 18 ad) C.s.heap.size) (MH D cs ad) 4 x1 [(0, .ref (ad 0)), (1, .int y4), (2, .int y3), (3, .int y5)] 0 0 17 [] := by
          intro n
          induction n with
          | zero => intro y4 y5 uI17; exact absurd uI17 (Nat.not_lt_zero _)
          | succ n iI17 =>
            intro y4 y5 uI17 h
            have h := hs y4 y5 h
            refine z_iload_n O dX12_disorder_17 3 rfl ?_
            refine z_aload_n O dX12_disorder_18 0 rfl ?_
            refine z_getf O hK.1 (hX _) (by decide) me_0 rfl i12 1 (by decide) (by decide +kernel) rfl dX12_disorder_19 ?_
            refine z_iload_n O dX12_disorder_22 2 rfl ?_
            refine z_iald O hK.1 (hX _) 0 (mk_lt mk_1) (me_A mk_1) rfl (show vp_in y3 (mlen 1) from h.1) dX12_disorder_23 ?_
            replace h := h.2
            refine z_icmp_ge O 68 dX12_disorder_24 (by decide) (fun c7 => ?_) (fun c7 => ?_)
            · replace h := h.1 c7
              refine z_iinc (lv' := [(2, .int (y3 + 1)), (0, .ref (ad 0)), (1, .int y4), (3, .int y5)]) O dX12_disorder_68 2 rfl rfl (by decide) rfl ?_
              refine z_goto O 9 dX12_disorder_71 (by decide) ?_
              exact z_sub [1, 2, 0] rfl (iI9 y4 (y3 + 1) (Nat.lt_of_lt_of_le h.2 (Nat.le_of_lt_succ uI9)) h.1)
            · replace h := h.2 c7
              refine z_iload_n O dX12_disorder_27 1 rfl ?_
              refine z_aload_n O dX12_disorder_28 0 rfl ?_
              refine z_getf O hK.1 (hX _) (by decide) me_0 rfl i12 4 (by decide) (by decide +kernel) rfl dX12_disorder_29 ?_
              refine z_bipush (v := 8) O dX12_disorder_32 rfl ?_
              refine z_iload_n O dX12_disorder_34 2 rfl ?_
              refine z_imul O dX12_disorder_35 ?_
              refine z_iload_n O dX12_disorder_36 3 rfl ?_
              refine z_iadd O dX12_disorder_37 ?_
              refine z_iald O hK.1 (hX _) 0 (mk_lt mk_4) (me_A mk_4) rfl (show vp_in ((8 * y3) + y5) (mlen 4) from h.1) dX12_disorder_38 ?_
              replace h := h.2
              refine z_aload_n O dX12_disorder_39 0 rfl ?_
              refine z_getf O hK.1 (hX _) (by decide) me_0 rfl i12 4 (by decide) (by decide +kernel) rfl dX12_disorder_40 ?_
              refine z_bipush (v := 8) O dX12_disorder_43 rfl ?_
              refine z_iload_n O dX12_disorder_45 2 rfl ?_
              refine z_imul O dX12_disorder_46 ?_
              refine z_iload_n O dX12_disorder_47 3 rfl ?_
              refine z_iadd O dX12_disorder_48 ?_
              refine z_iconst (v := 1) O dX12_disorder_49 rfl ?_
              refine z_isub O dX12_disorder_50 ?_
              refine z_iald O hK.1 (hX _) 0 (mk_lt mk_4) (me_A mk_4) rfl (show vp_in (((8 * y3) + y5) - 1) (mlen 4) from h.1) dX12_disorder_51 ?_
              replace h := h.2
              refine z_icmp_ge O 59 dX12_disorder_52 (by decide) (fun c6 => ?_) (fun c6 => ?_)
              · replace h := h.1 c6
                refine z_iconst (v := 0) O dX12_disorder_59 rfl ?_
                refine z_iadd O dX12_disorder_60 ?_
                refine z_istore_n (lv' := [(1, .int (y4 + 0)), (0, .ref (ad 0)), (2, .int y3), (3, .int y5)]) O dX12_disorder_61 (by decide) rfl ?_
                refine z_iinc (lv' := [(3, .int (y5 + 1)), (1, .int (y4 + 0)), (0, .ref (ad 0)), (2, .int y3)]) O dX12_disorder_62 3 rfl rfl (by decide) rfl ?_
                refine z_goto O 17 dX12_disorder_65 (by decide) ?_
                exact z_sub [2, 1, 3, 0] rfl (iI17 (y4 + 0) (y5 + 1) (Nat.lt_of_lt_of_le h.2 (Nat.le_of_lt_succ uI17)) h.1)
              · replace h := h.2 c6
                refine z_iconst (v := 1) O dX12_disorder_55 rfl ?_
                refine z_goto O 60 dX12_disorder_56 (by decide) ?_
                refine z_iadd O dX12_disorder_60 ?_
                refine z_istore_n (lv' := [(1, .int (y4 + 1)), (0, .ref (ad 0)), (2, .int y3), (3, .int y5)]) O dX12_disorder_61 (by decide) rfl ?_
                refine z_iinc (lv' := [(3, .int (y5 + 1)), (1, .int (y4 + 1)), (0, .ref (ad 0)), (2, .int y3)]) O dX12_disorder_62 3 rfl rfl (by decide) rfl ?_
                refine z_goto O 17 dX12_disorder_65 (by decide) ?_
                exact z_sub [2, 1, 3, 0] rfl (iI17 (y4 + 1) (y5 + 1) (Nat.lt_of_lt_of_le h.2 (Nat.le_of_lt_succ uI17)) h.1)
        exact z_sub [1, 2, 3, 0] rfl (kI17 _ y2 1 (Nat.lt_succ_self _) h0)
  exact z_sub [2, 1, 0] rfl (kI9 _ 0 0 (Nat.lt_succ_self _) h0)
def wp_X12_oathBits (x : MS)   (Q : Int32 → Prop) : Prop :=
 (∃ (I4 : Int32 → Int32 → Prop) (U4 : Int32 → Int32 → Nat), I4 0 0 ∧ ∀ (y1 : Int32) (y2 : Int32), I4 y1 y2 →
 ((6 ≤ y2 →
 Q y1) ∧ (¬ 6 ≤ y2 →
 (∃ (I12 : Int32 → Int32 → Prop) (U12 : Int32 → Int32 → Nat), I12 y1 0 ∧ ∀ (y3 : Int32) (y4 : Int32), I12 y3 y4 →
 (vp_in y2 6 ∧
 (((x.2.1 1 (Int32.toNatClampNeg y2)) ≤ y4 →
 (I4 y3 (y2 + 1) ∧ U4 y3 (y2 + 1) < U4 y1 y2)) ∧ (¬ (x.2.1 1 (Int32.toNatClampNeg y2)) ≤ y4 →
 (vp_in ((8 * y2) + y4) 48 ∧
 (I12 (y3 ||| (1 <<< ((x.2.1 3 (Int32.toNatClampNeg ((8 * y2) + y4))) &&& 31))) (y4 + 1) ∧ U12 (y3 ||| (1 <<< ((x.2.1 3 (Int32.toNatClampNeg ((8 * y2) + y4))) &&& 31))) (y4 + 1) < U12 y3 y4)))))))))
set_option maxHeartbeats 4000000 in
set_option maxRecDepth 100000 in
theorem t_X12_oathBits {l : Launch} {D : va_G} {cs : Nat → ClassId} {ad : Nat → Nat} (x : MS)   (Q : Int32 → Prop) (h : wp_X12_oathBits x   Q) : zMR l yX12_oathBits wsX12_oathBits ({ frames := 0, cells := 0, slots := 0, locals := 0 } : Room) (gK D cs) (MH D cs ad) x [.ref (ad 0)] Q := by
  refine zMR_of (cc := cX12_oathBits) (nL := 4) (ret := (some .int)) (by decide +kernel) rfl (Nat.le_of_ble_eq_true rfl) (fun C hl O hE hK hH => ?_)
  subst hl
  have hX : ∀ (x : MS) (H : Heap), z0 (MH D cs ad) C.s.heap x H → va_P D vwCl (wl 18 ad (ME cs ad x)) H := fun _ _ h => h.2
  have i12 : ∀ w ∈ wsX120, w ∈ wsX12_oathBits := by decide +kernel
  refine z_sub (lv' := [(0, .ref (ad 0))]) [0] rfl ?_
  refine z_iconst (v := 0) O dX12_oathBits_0 rfl ?_
  refine z_istore_n (lv' := [(1, .int 0), (0, .ref (ad 0))]) O dX12_oathBits_1 (by decide) rfl ?_
  refine z_iconst (v := 0) O dX12_oathBits_2 rfl ?_
  refine z_istore_n (lv' := [(2, .int 0), (1, .int 0), (0, .ref (ad 0))]) O dX12_oathBits_3 (by decide) rfl ?_
  obtain ⟨I4, U4, h0, hs⟩ := h
  have kI4 : ∀ (n : Nat) (y1 : Int32) (y2 : Int32), U4 y1 y2 < n → I4 y1 y2 → Z C (fun _ => False) (z0 (MH D cs ad) C.s.heap) 4 x [(0, .ref (ad 0)), (1, .int y1), (2, .int y2)] 0 0 4 [] := by
    intro n
    induction n with
    | zero => intro y1 y2 uI4; exact absurd uI4 (Nat.not_lt_zero _)
    | succ n iI4 =>
      intro y1 y2 uI4 h
      have h := hs y1 y2 h
      refine z_iload_n O dX12_oathBits_4 2 rfl ?_
      refine z_bipush (v := 6) O dX12_oathBits_5 rfl ?_
      refine z_icmp_ge O 50 dX12_oathBits_7 (by decide) (fun c6 => ?_) (fun c6 => ?_)
      · replace h := h.1 c6
        refine z_iload_n O dX12_oathBits_50 1 rfl ?_
        exact z_retR O hE (fun _ h => h.1) rfl dX12_oathBits_51 h
      · replace h := h.2 c6
        refine z_iconst (v := 0) O dX12_oathBits_10 rfl ?_
        refine z_istore_n (lv' := [(3, .int 0), (0, .ref (ad 0)), (1, .int y1), (2, .int y2)]) O dX12_oathBits_11 (by decide) rfl ?_
        obtain ⟨I12, U12, h0, hs⟩ := h
        have kI12 : ∀ (n : Nat) (y3 : Int32) (y4 : Int32), U12 y3 y4 < n → I12 y3 y4 → Z C (fun _ => False) (z0 (MH D cs ad) C.s.heap) 4 x [(0, .ref (ad 0)), (1, .int y3), (2, .int y2), (3, .int y4)] 0 0 12 [] := by
          intro n
          induction n with
          | zero => intro y3 y4 uI12; exact absurd uI12 (Nat.not_lt_zero _)
          | succ n iI12 =>
            intro y3 y4 uI12 h
            have h := hs y3 y4 h
            refine z_iload_n O dX12_oathBits_12 3 rfl ?_
            refine z_aload_n O dX12_oathBits_13 0 rfl ?_
            refine z_getf O hK.1 (hX _) (by decide) me_0 rfl i12 1 (by decide) (by decide +kernel) rfl dX12_oathBits_14 ?_
            refine z_iload_n O dX12_oathBits_17 2 rfl ?_
            refine z_iald O hK.1 (hX _) 0 (mk_lt mk_1) (me_A mk_1) rfl (show vp_in y2 (mlen 1) from h.1) dX12_oathBits_18 ?_
            replace h := h.2
            refine z_icmp_ge O 44 dX12_oathBits_19 (by decide) (fun c5 => ?_) (fun c5 => ?_)
            · replace h := h.1 c5
              refine z_iinc (lv' := [(2, .int (y2 + 1)), (0, .ref (ad 0)), (1, .int y3), (3, .int y4)]) O dX12_oathBits_44 2 rfl rfl (by decide) rfl ?_
              refine z_goto O 4 dX12_oathBits_47 (by decide) ?_
              exact z_sub [1, 2, 0] rfl (iI4 y3 (y2 + 1) (Nat.lt_of_lt_of_le h.2 (Nat.le_of_lt_succ uI4)) h.1)
            · replace h := h.2 c5
              refine z_iload_n O dX12_oathBits_22 1 rfl ?_
              refine z_iconst (v := 1) O dX12_oathBits_23 rfl ?_
              refine z_aload_n O dX12_oathBits_24 0 rfl ?_
              refine z_getf O hK.1 (hX _) (by decide) me_0 rfl i12 3 (by decide) (by decide +kernel) rfl dX12_oathBits_25 ?_
              refine z_bipush (v := 8) O dX12_oathBits_28 rfl ?_
              refine z_iload_n O dX12_oathBits_30 2 rfl ?_
              refine z_imul O dX12_oathBits_31 ?_
              refine z_iload_n O dX12_oathBits_32 3 rfl ?_
              refine z_iadd O dX12_oathBits_33 ?_
              refine z_iald O hK.1 (hX _) 0 (mk_lt mk_3) (me_A mk_3) rfl (show vp_in ((8 * y2) + y4) (mlen 3) from h.1) dX12_oathBits_34 ?_
              replace h := h.2
              refine z_ishl O dX12_oathBits_35 ?_
              refine z_ior O dX12_oathBits_36 ?_
              refine z_istore_n (lv' := [(1, .int (y3 ||| (1 <<< ((x.2.1 3 (Int32.toNatClampNeg ((8 * y2) + y4))) &&& 31)))), (0, .ref (ad 0)), (2, .int y2), (3, .int y4)]) O dX12_oathBits_37 (by decide) rfl ?_
              refine z_iinc (lv' := [(3, .int (y4 + 1)), (1, .int (y3 ||| (1 <<< ((x.2.1 3 (Int32.toNatClampNeg ((8 * y2) + y4))) &&& 31)))), (0, .ref (ad 0)), (2, .int y2)]) O dX12_oathBits_38 3 rfl rfl (by decide) rfl ?_
              refine z_goto O 12 dX12_oathBits_41 (by decide) ?_
              exact z_sub [2, 1, 3, 0] rfl (iI12 (y3 ||| (1 <<< ((x.2.1 3 (Int32.toNatClampNeg ((8 * y2) + y4))) &&& 31))) (y4 + 1) (Nat.lt_of_lt_of_le h.2 (Nat.le_of_lt_succ uI12)) h.1)
        exact z_sub [1, 2, 3, 0] rfl (kI12 _ y1 0 (Nat.lt_succ_self _) h0)
  exact z_sub [2, 1, 0] rfl (kI4 _ 0 0 (Nat.lt_succ_self _) h0)
def wp_X12_aheadOf (x : MS)  (p1 : Int32) (Q : Int32 → Prop) : Prop :=
 (∃ (I4 : Int32 → Int32 → Prop) (U4 : Int32 → Int32 → Nat), I4 0 0 ∧ ∀ (y1 : Int32) (y2 : Int32), I4 y1 y2 →
 ((6 ≤ y2 →
 Q (y1 &&& ((1 <<< (p1 &&& 31)) ^^^ (-1)))) ∧ (¬ 6 ≤ y2 →
 (∃ (I16 : Int32 → Int32 → Int32 → Prop) (U16 : Int32 → Int32 → Int32 → Nat), I16 y1 0 0 ∧ ∀ (y3 : Int32) (y4 : Int32) (y5 : Int32), I16 y3 y4 y5 →
 (vp_in y2 6 ∧
 (((x.2.1 1 (Int32.toNatClampNeg y2)) ≤ y5 →
 (I4 y3 (y2 + 1) ∧ U4 y3 (y2 + 1) < U4 y1 y2)) ∧ (¬ (x.2.1 1 (Int32.toNatClampNeg y2)) ≤ y5 →
 (vp_in ((8 * y2) + y5) 48 ∧
 ((¬ (x.2.1 3 (Int32.toNatClampNeg ((8 * y2) + y5))) = p1 →
 (vp_in ((8 * y2) + y5) 48 ∧
 (I16 (y3 ||| 0) (y4 ||| (1 <<< ((x.2.1 3 (Int32.toNatClampNeg ((8 * y2) + y5))) &&& 31))) (y5 + 1) ∧ U16 (y3 ||| 0) (y4 ||| (1 <<< ((x.2.1 3 (Int32.toNatClampNeg ((8 * y2) + y5))) &&& 31))) (y5 + 1) < U16 y3 y4 y5))) ∧ ((x.2.1 3 (Int32.toNatClampNeg ((8 * y2) + y5))) = p1 →
 (vp_in ((8 * y2) + y5) 48 ∧
 (I16 (y3 ||| y4) (y4 ||| (1 <<< ((x.2.1 3 (Int32.toNatClampNeg ((8 * y2) + y5))) &&& 31))) (y5 + 1) ∧ U16 (y3 ||| y4) (y4 ||| (1 <<< ((x.2.1 3 (Int32.toNatClampNeg ((8 * y2) + y5))) &&& 31))) (y5 + 1) < U16 y3 y4 y5))))))))))))
set_option maxHeartbeats 4000000 in
set_option maxRecDepth 100000 in
theorem t_X12_aheadOf {l : Launch} {D : va_G} {cs : Nat → ClassId} {ad : Nat → Nat} (x : MS)  (p1 : Int32) (Q : Int32 → Prop) (h : wp_X12_aheadOf x  p1 Q) : zMR l yX12_aheadOf wsX12_aheadOf ({ frames := 0, cells := 0, slots := 0, locals := 0 } : Room) (gK D cs) (MH D cs ad) x [.ref (ad 0), .int p1] Q := by
  refine zMR_of (cc := cX12_aheadOf) (nL := 6) (ret := (some .int)) (by decide +kernel) rfl (Nat.le_of_ble_eq_true rfl) (fun C hl O hE hK hH => ?_)
  subst hl
  have hX : ∀ (x : MS) (H : Heap), z0 (MH D cs ad) C.s.heap x H → va_P D vwCl (wl 18 ad (ME cs ad x)) H := fun _ _ h => h.2
  have i12 : ∀ w ∈ wsX120, w ∈ wsX12_aheadOf := by decide +kernel
  refine z_sub (lv' := [(0, .ref (ad 0)), (1, .int p1)]) [0, 1] rfl ?_
  refine z_iconst (v := 0) O dX12_aheadOf_0 rfl ?_
  refine z_istore_n (lv' := [(2, .int 0), (0, .ref (ad 0)), (1, .int p1)]) O dX12_aheadOf_1 (by decide) rfl ?_
  refine z_iconst (v := 0) O dX12_aheadOf_2 rfl ?_
  refine z_istore_n (lv' := [(3, .int 0), (2, .int 0), (0, .ref (ad 0)), (1, .int p1)]) O dX12_aheadOf_3 (by decide) rfl ?_
  obtain ⟨I4, U4, h0, hs⟩ := h
  have kI4 : ∀ (n : Nat) (y1 : Int32) (y2 : Int32), U4 y1 y2 < n → I4 y1 y2 → Z C (fun _ => False) (z0 (MH D cs ad) C.s.heap) 6 x [(0, .ref (ad 0)), (1, .int p1), (2, .int y1), (3, .int y2)] 0 0 4 [] := by
    intro n
    induction n with
    | zero => intro y1 y2 uI4; exact absurd uI4 (Nat.not_lt_zero _)
    | succ n iI4 =>
      intro y1 y2 uI4 h
      have h := hs y1 y2 h
      refine z_iload_n O dX12_aheadOf_4 3 rfl ?_
      refine z_bipush (v := 6) O dX12_aheadOf_5 rfl ?_
      refine z_icmp_ge O 83 dX12_aheadOf_7 (by decide) (fun c8 => ?_) (fun c8 => ?_)
      · replace h := h.1 c8
        refine z_iload_n O dX12_aheadOf_83 2 rfl ?_
        refine z_iconst (v := 1) O dX12_aheadOf_84 rfl ?_
        refine z_iload_n O dX12_aheadOf_85 1 rfl ?_
        refine z_ishl O dX12_aheadOf_86 ?_
        refine z_iconst (v := -1) O dX12_aheadOf_87 rfl ?_
        refine z_ixor O dX12_aheadOf_88 ?_
        refine z_iand O dX12_aheadOf_89 ?_
        exact z_retR O hE (fun _ h => h.1) rfl dX12_aheadOf_90 h
      · replace h := h.2 c8
        refine z_iconst (v := 0) O dX12_aheadOf_10 rfl ?_
        refine z_istore (lv' := [(4, .int 0), (0, .ref (ad 0)), (1, .int p1), (2, .int y1), (3, .int y2)]) O dX12_aheadOf_11 (by decide) rfl ?_
        refine z_iconst (v := 0) O dX12_aheadOf_13 rfl ?_
        refine z_istore (lv' := [(5, .int 0), (4, .int 0), (0, .ref (ad 0)), (1, .int p1), (2, .int y1), (3, .int y2)]) O dX12_aheadOf_14 (by decide) rfl ?_
        obtain ⟨I16, U16, h0, hs⟩ := h
        have kI16 : ∀ (n : Nat) (y3 : Int32) (y4 : Int32) (y5 : Int32), U16 y3 y4 y5 < n → I16 y3 y4 y5 → Z C (fun _ => False) (z0 (MH D cs ad) C.s.heap) 6 x [(0, .ref (ad 0)), (1, .int p1), (2, .int y3), (3, .int y2), (4, .int y4), (5, .int y5)] 0 0 16 [] := by
          intro n
          induction n with
          | zero => intro y3 y4 y5 uI16; exact absurd uI16 (Nat.not_lt_zero _)
          | succ n iI16 =>
            intro y3 y4 y5 uI16 h
            have h := hs y3 y4 y5 h
            refine z_iload O dX12_aheadOf_16 5 rfl ?_
            refine z_aload_n O dX12_aheadOf_18 0 rfl ?_
            refine z_getf O hK.1 (hX _) (by decide) me_0 rfl i12 1 (by decide) (by decide +kernel) rfl dX12_aheadOf_19 ?_
            refine z_iload_n O dX12_aheadOf_22 3 rfl ?_
            refine z_iald O hK.1 (hX _) 0 (mk_lt mk_1) (me_A mk_1) rfl (show vp_in y2 (mlen 1) from h.1) dX12_aheadOf_23 ?_
            replace h := h.2
            refine z_icmp_ge O 77 dX12_aheadOf_24 (by decide) (fun c7 => ?_) (fun c7 => ?_)
            · replace h := h.1 c7
              refine z_iinc (lv' := [(3, .int (y2 + 1)), (0, .ref (ad 0)), (1, .int p1), (2, .int y3), (4, .int y4), (5, .int y5)]) O dX12_aheadOf_77 3 rfl rfl (by decide) rfl ?_
              refine z_goto O 4 dX12_aheadOf_80 (by decide) ?_
              exact z_sub [1, 2, 3, 0] rfl (iI4 y3 (y2 + 1) (Nat.lt_of_lt_of_le h.2 (Nat.le_of_lt_succ uI4)) h.1)
            · replace h := h.2 c7
              refine z_iload_n O dX12_aheadOf_27 2 rfl ?_
              refine z_aload_n O dX12_aheadOf_28 0 rfl ?_
              refine z_getf O hK.1 (hX _) (by decide) me_0 rfl i12 3 (by decide) (by decide +kernel) rfl dX12_aheadOf_29 ?_
              refine z_bipush (v := 8) O dX12_aheadOf_32 rfl ?_
              refine z_iload_n O dX12_aheadOf_34 3 rfl ?_
              refine z_imul O dX12_aheadOf_35 ?_
              refine z_iload O dX12_aheadOf_36 5 rfl ?_
              refine z_iadd O dX12_aheadOf_38 ?_
              refine z_iald O hK.1 (hX _) 0 (mk_lt mk_3) (me_A mk_3) rfl (show vp_in ((8 * y2) + y5) (mlen 3) from h.1) dX12_aheadOf_39 ?_
              replace h := h.2
              refine z_iload_n O dX12_aheadOf_40 1 rfl ?_
              refine z_icmp_ne O 49 dX12_aheadOf_41 (by decide) (fun c6 => ?_) (fun c6 => ?_)
              · replace h := h.1 c6
                refine z_iconst (v := 0) O dX12_aheadOf_49 rfl ?_
                refine z_ior O dX12_aheadOf_50 ?_
                refine z_istore_n (lv' := [(2, .int (y3 ||| 0)), (0, .ref (ad 0)), (1, .int p1), (3, .int y2), (4, .int y4), (5, .int y5)]) O dX12_aheadOf_51 (by decide) rfl ?_
                refine z_iload O dX12_aheadOf_52 4 rfl ?_
                refine z_iconst (v := 1) O dX12_aheadOf_54 rfl ?_
                refine z_aload_n O dX12_aheadOf_55 1 rfl ?_
                refine z_getf O hK.1 (hX _) (by decide) me_0 rfl i12 3 (by decide) (by decide +kernel) rfl dX12_aheadOf_56 ?_
                refine z_bipush (v := 8) O dX12_aheadOf_59 rfl ?_
                refine z_iload_n O dX12_aheadOf_61 3 rfl ?_
                refine z_imul O dX12_aheadOf_62 ?_
                refine z_iload O dX12_aheadOf_63 5 rfl ?_
                refine z_iadd O dX12_aheadOf_65 ?_
                refine z_iald O hK.1 (hX _) 0 (mk_lt mk_3) (me_A mk_3) rfl (show vp_in ((8 * y2) + y5) (mlen 3) from h.1) dX12_aheadOf_66 ?_
                replace h := h.2
                refine z_ishl O dX12_aheadOf_67 ?_
                refine z_ior O dX12_aheadOf_68 ?_
                refine z_istore (lv' := [(4, .int (y4 ||| (1 <<< ((x.2.1 3 (Int32.toNatClampNeg ((8 * y2) + y5))) &&& 31)))), (2, .int (y3 ||| 0)), (0, .ref (ad 0)), (1, .int p1), (3, .int y2), (5, .int y5)]) O dX12_aheadOf_69 (by decide) rfl ?_
                refine z_iinc (lv' := [(5, .int (y5 + 1)), (4, .int (y4 ||| (1 <<< ((x.2.1 3 (Int32.toNatClampNeg ((8 * y2) + y5))) &&& 31)))), (2, .int (y3 ||| 0)), (0, .ref (ad 0)), (1, .int p1), (3, .int y2)]) O dX12_aheadOf_71 5 rfl rfl (by decide) rfl ?_
                refine z_goto O 16 dX12_aheadOf_74 (by decide) ?_
                exact z_sub [3, 4, 2, 5, 1, 0] rfl (iI16 (y3 ||| 0) (y4 ||| (1 <<< ((x.2.1 3 (Int32.toNatClampNeg ((8 * y2) + y5))) &&& 31))) (y5 + 1) (Nat.lt_of_lt_of_le h.2 (Nat.le_of_lt_succ uI16)) h.1)
              · replace h := h.2 c6
                refine z_iload O dX12_aheadOf_44 4 rfl ?_
                refine z_goto O 50 dX12_aheadOf_46 (by decide) ?_
                refine z_ior O dX12_aheadOf_50 ?_
                refine z_istore_n (lv' := [(2, .int (y3 ||| y4)), (0, .ref (ad 0)), (1, .int p1), (3, .int y2), (4, .int y4), (5, .int y5)]) O dX12_aheadOf_51 (by decide) rfl ?_
                refine z_iload O dX12_aheadOf_52 4 rfl ?_
                refine z_iconst (v := 1) O dX12_aheadOf_54 rfl ?_
                refine z_aload_n O dX12_aheadOf_55 1 rfl ?_
                refine z_getf O hK.1 (hX _) (by decide) me_0 rfl i12 3 (by decide) (by decide +kernel) rfl dX12_aheadOf_56 ?_
                refine z_bipush (v := 8) O dX12_aheadOf_59 rfl ?_
                refine z_iload_n O dX12_aheadOf_61 3 rfl ?_
                refine z_imul O dX12_aheadOf_62 ?_
                refine z_iload O dX12_aheadOf_63 5 rfl ?_
                refine z_iadd O dX12_aheadOf_65 ?_
                refine z_iald O hK.1 (hX _) 0 (mk_lt mk_3) (me_A mk_3) rfl (show vp_in ((8 * y2) + y5) (mlen 3) from h.1) dX12_aheadOf_66 ?_
                replace h := h.2
                refine z_ishl O dX12_aheadOf_67 ?_
                refine z_ior O dX12_aheadOf_68 ?_
                refine z_istore (lv' := [(4, .int (y4 ||| (1 <<< ((x.2.1 3 (Int32.toNatClampNeg ((8 * y2) + y5))) &&& 31)))), (2, .int (y3 ||| y4)), (0, .ref (ad 0)), (1, .int p1), (3, .int y2), (5, .int y5)]) O dX12_aheadOf_69 (by decide) rfl ?_
                refine z_iinc (lv' := [(5, .int (y5 + 1)), (4, .int (y4 ||| (1 <<< ((x.2.1 3 (Int32.toNatClampNeg ((8 * y2) + y5))) &&& 31)))), (2, .int (y3 ||| y4)), (0, .ref (ad 0)), (1, .int p1), (3, .int y2)]) O dX12_aheadOf_71 5 rfl rfl (by decide) rfl ?_
                refine z_goto O 16 dX12_aheadOf_74 (by decide) ?_
                exact z_sub [3, 4, 2, 5, 1, 0] rfl (iI16 (y3 ||| y4) (y4 ||| (1 <<< ((x.2.1 3 (Int32.toNatClampNeg ((8 * y2) + y5))) &&& 31))) (y5 + 1) (Nat.lt_of_lt_of_le h.2 (Nat.le_of_lt_succ uI16)) h.1)
        exact z_sub [2, 3, 4, 5, 1, 0] rfl (kI16 _ y1 0 0 (Nat.lt_succ_self _) h0)
  exact z_sub [2, 3, 1, 0] rfl (kI4 _ 0 0 (Nat.lt_succ_self _) h0)
def wp_X12_order (x : MS)  (p1 : Int32) (Q : Int32 → MS → Prop) : Prop :=
 (∀ x1 : MS, x1 = mI x 6 0 →
 wp_X12_in (Int32.toInt64 p1) 0 1 (fun r2 : Int32 =>
 ((¬ r2 = 0 →
 wp_X12_oathBits x1  (fun r3 : Int32 =>
 (∃ (I29 : Int32 → Int32 → Int32 → Prop) (U29 : Int32 → Int32 → Int32 → Nat), I29 r3 (-4) (-4) ∧ ∀ (y4 : Int32) (y5 : Int32) (y6 : Int32), I29 y4 y5 y6 →
 ((y4 = 0 →
 ((¬ p1 = 0 →
 Q y6 x1) ∧ (p1 = 0 →
 Q y5 x1))) ∧ (¬ y4 = 0 →
 (∃ (I40 : Int32 → Int32 → Prop) (U40 : Int32 → Int32 → Nat), I40 (-1) 9 ∧ ∀ (y8 : Int32) (y9 : Int32), I40 y8 y9 →
 ((y9 < 0 →
 ((0 ≤ y8 →
 ((0 ≤ y5 →
 (I29 (y4 &&& ((1 <<< (y8 &&& 31)) ^^^ (-1))) y5 y8 ∧ U29 (y4 &&& ((1 <<< (y8 &&& 31)) ^^^ (-1))) y5 y8 < U29 y4 y5 y6)) ∧ (¬ 0 ≤ y5 →
 (I29 (y4 &&& ((1 <<< (y8 &&& 31)) ^^^ (-1))) y8 y8 ∧ U29 (y4 &&& ((1 <<< (y8 &&& 31)) ^^^ (-1))) y8 y8 < U29 y4 y5 y6)))) ∧ (¬ 0 ≤ y8 →
 Q (-4) x1))) ∧ (¬ y9 < 0 →
 ((¬ ((y4 >>> (y9 &&& 31)) &&& 1) = 1 →
 (I40 y8 (y9 + (-1)) ∧ U40 y8 (y9 + (-1)) < U40 y8 y9)) ∧ (((y4 >>> (y9 &&& 31)) &&& 1) = 1 →
 wp_X12_aheadOf x1 y9 (fun r12 : Int32 =>
 ((¬ (r12 &&& y4) = 0 →
 (I40 y8 (y9 + (-1)) ∧ U40 y8 (y9 + (-1)) < U40 y8 y9)) ∧ ((r12 &&& y4) = 0 →
 (I40 y9 (y9 + (-1)) ∧ U40 y9 (y9 + (-1)) < U40 y8 y9)))))))))))))) ∧ (r2 = 0 →
 Q (-1) x1))))
set_option maxHeartbeats 4000000 in
set_option maxRecDepth 100000 in
theorem t_X12_order {l : Launch} {D : va_G} {cs : Nat → ClassId} {ad : Nat → Nat} (hI : wInj 18 ad) (x : MS)  (p1 : Int32) (Q : Int32 → MS → Prop) (h : wp_X12_order x  p1 Q) : zWR l yX12_order wsX12_order ({ frames := 1, cells := 0, slots := 0, locals := 25 } : Room) (gK D cs) (MH D cs ad) (wB 18 ad) x [.ref (ad 0), .int p1] 0 0 Q := by
  refine zWR_of (cc := cX12_order) (nL := 7) (ret := (some .int)) (by decide +kernel) rfl (Nat.le_of_ble_eq_true rfl) (fun C hl O hE hK => ?_)
  subst hl
  have hX : ∀ (x : MS) (H : Heap), MH D cs ad x H → va_P D vwCl (wl 18 ad (ME cs ad x)) H := fun _ _ h => h
  have hB : ∀ {x : MS} (H : Heap), va_P D vwCl (wl 18 ad (ME cs ad x)) H → MH D cs ad x H := fun _ h => h
  have hA : ∀ q, wB 18 ad q → zA (wB 18 ad) C.s.heap.size q := fun _ h => Or.inl h
  have i12 : ∀ w ∈ wsX120, w ∈ wsX12_order := by decide +kernel
  refine z_sub (lv' := [(0, .ref (ad 0)), (1, .int p1)]) [0, 1] rfl ?_
  refine z_aload_n O dX12_order_0 0 rfl ?_
  refine z_iconst (v := 0) O dX12_order_1 rfl ?_
  obtain ⟨x1, ex1⟩ : ∃ z, z = mI x 6 0 := ⟨_, rfl⟩
  replace h := h x1 ex1
  refine z_putf (x' := x1) (ty := .int) O hK.1 (hX _) hB hI hA (by decide) me_0 rfl i12 tyX12 tyX12_ok nmX12 6 (by decide) (by decide +kernel) rfl (by decide +kernel) rfl rfl (Nat.le_of_ble_eq_true rfl) (by rw [ex1]; exact me_put rfl rfl rfl) dX12_order_2 ?_
  refine z_iload_n O dX12_order_5 1 rfl ?_
  refine z_i2l O dX12_order_6 ?_
  refine z_lconst (v := 0) O dX12_order_7 rfl ?_
  refine z_lconst (v := 1) O dX12_order_8 rfl ?_
  refine z_callR (gKs D cs) hK (fun _ h => h) (t_X12_in (gKs D cs) (Int32.toInt64 p1) 0 1 _ h) (zr_SS (As := [.long (Int32.toInt64 p1), .long 0, .long 1]) (rest := []) O hE.1 3 gX12_order_X12_in rfl rfl rfl (by decide +kernel) ⟨(Nat.le_of_ble_eq_true rfl), (Nat.le_of_ble_eq_true rfl)⟩ ⟨(Nat.le_of_ble_eq_true rfl), (Nat.le_of_ble_eq_true rfl)⟩ rfl rfl (Nat.le_of_ble_eq_true rfl) dX12_order_9) (fun r2 h => ?_)
  refine z_if_ne O 17 dX12_order_12 (by decide) (fun c17 => ?_) (fun c17 => ?_)
  · replace h := h.1 c17
    refine z_aload_n O dX12_order_17 0 rfl ?_
    refine z_callR (gKs D cs) hK (fun _ h => h) (t_X12_oathBits x1   _ h) (zr_V (As := []) (rest := []) O hE.1 0 gX12_order_X12_oathBits rfl rfl rfl (by decide +kernel) ⟨(Nat.le_of_ble_eq_true rfl), (Nat.le_of_ble_eq_true rfl)⟩ ⟨(Nat.le_of_ble_eq_true rfl), (Nat.le_of_ble_eq_true rfl)⟩ (fun H hH => z_recv hK.1 (hX _ H hH) (by decide) me_0 rfl) rfl rfl (Nat.le_of_ble_eq_true rfl) dX12_order_18) (fun r3 h => ?_)
    refine z_istore_n (lv' := [(2, .int r3), (0, .ref (ad 0)), (1, .int p1)]) O dX12_order_21 (by decide) rfl ?_
    refine z_bipush (v := -4) O dX12_order_22 rfl ?_
    refine z_istore_n (lv' := [(3, .int (-4)), (2, .int r3), (0, .ref (ad 0)), (1, .int p1)]) O dX12_order_24 (by decide) rfl ?_
    refine z_bipush (v := -4) O dX12_order_25 rfl ?_
    refine z_istore (lv' := [(4, .int (-4)), (3, .int (-4)), (2, .int r3), (0, .ref (ad 0)), (1, .int p1)]) O dX12_order_27 (by decide) rfl ?_
    obtain ⟨I29, U29, h0, hs⟩ := h
    have kI29 : ∀ (n : Nat) (y4 : Int32) (y5 : Int32) (y6 : Int32), U29 y4 y5 y6 < n → I29 y4 y5 y6 → Z C (zA (wB 18 ad) C.s.heap.size) (MH D cs ad) 7 x1 [(0, .ref (ad 0)), (1, .int p1), (2, .int y4), (3, .int y5), (4, .int y6)] 0 0 29 [] := by
      intro n
      induction n with
      | zero => intro y4 y5 y6 uI29; exact absurd uI29 (Nat.not_lt_zero _)
      | succ n iI29 =>
        intro y4 y5 y6 uI29 h
        have h := hs y4 y5 y6 h
        refine z_iload_n O dX12_order_29 2 rfl ?_
        refine z_if_eq O 116 dX12_order_30 (by decide) (fun c16 => ?_) (fun c16 => ?_)
        · replace h := h.1 c16
          refine z_iload_n O dX12_order_116 1 rfl ?_
          refine z_if_ne O 124 dX12_order_117 (by decide) (fun c7 => ?_) (fun c7 => ?_)
          · replace h := h.1 c7
            refine z_iload O dX12_order_124 4 rfl ?_
            exact z_retWR O hE (Nat.le_of_ble_eq_true rfl) (Nat.le_of_ble_eq_true rfl) rfl dX12_order_126 h
          · replace h := h.2 c7
            refine z_iload_n O dX12_order_120 3 rfl ?_
            refine z_goto O 126 dX12_order_121 (by decide) ?_
            exact z_retWR O hE (Nat.le_of_ble_eq_true rfl) (Nat.le_of_ble_eq_true rfl) rfl dX12_order_126 h
        · replace h := h.2 c16
          refine z_iconst (v := -1) O dX12_order_33 rfl ?_
          refine z_istore (lv' := [(5, .int (-1)), (0, .ref (ad 0)), (1, .int p1), (2, .int y4), (3, .int y5), (4, .int y6)]) O dX12_order_34 (by decide) rfl ?_
          refine z_bipush (v := 9) O dX12_order_36 rfl ?_
          refine z_istore (lv' := [(6, .int 9), (5, .int (-1)), (0, .ref (ad 0)), (1, .int p1), (2, .int y4), (3, .int y5), (4, .int y6)]) O dX12_order_38 (by decide) rfl ?_
          obtain ⟨I40, U40, h0, hs⟩ := h
          have kI40 : ∀ (n : Nat) (y8 : Int32) (y9 : Int32), U40 y8 y9 < n → I40 y8 y9 → Z C (zA (wB 18 ad) C.s.heap.size) (MH D cs ad) 7 x1 [(0, .ref (ad 0)), (1, .int p1), (2, .int y4), (3, .int y5), (5, .int y8), (6, .int y9)] 0 0 40 [] := by
            intro n
            induction n with
            | zero => intro y8 y9 uI40; exact absurd uI40 (Nat.not_lt_zero _)
            | succ n iI40 =>
              intro y8 y9 uI40 h
              have h := hs y8 y9 h
              refine z_iload O dX12_order_40 5 rfl ?_
              refine z_if_lt O 81 dX12_order_42 (by decide) (fun c15 => ?_) (fun c15 => ?_)
              · replace h := h.1 c15
                refine z_iload O dX12_order_81 4 rfl ?_
                refine z_if_ge O 89 dX12_order_83 (by decide) (fun c11 => ?_) (fun c11 => ?_)
                · replace h := h.1 c11
                  refine z_iload_n O dX12_order_89 3 rfl ?_
                  refine z_if_ge O 98 dX12_order_90 (by decide) (fun c10 => ?_) (fun c10 => ?_)
                  · replace h := h.1 c10
                    refine z_iload_n O dX12_order_98 3 rfl ?_
                    refine z_istore_n (lv' := [(3, .int y5), (0, .ref (ad 0)), (1, .int p1), (2, .int y4), (5, .int y8), (6, .int y9)]) O dX12_order_99 (by decide) rfl ?_
                    refine z_iload O dX12_order_100 4 rfl ?_
                    refine z_istore (lv' := [(4, .int y8), (3, .int y5), (0, .ref (ad 0)), (1, .int p1), (2, .int y4), (5, .int y8), (6, .int y9)]) O dX12_order_102 (by decide) rfl ?_
                    refine z_iload_n O dX12_order_104 4 rfl ?_
                    refine z_iconst (v := 1) O dX12_order_105 rfl ?_
                    refine z_iload O dX12_order_106 5 rfl ?_
                    refine z_ishl O dX12_order_108 ?_
                    refine z_iconst (v := -1) O dX12_order_109 rfl ?_
                    refine z_ixor O dX12_order_110 ?_
                    refine z_iand O dX12_order_111 ?_
                    refine z_istore_n (lv' := [(2, .int (y4 &&& ((1 <<< (y8 &&& 31)) ^^^ (-1)))), (4, .int y8), (3, .int y5), (0, .ref (ad 0)), (1, .int p1), (5, .int y8), (6, .int y9)]) O dX12_order_112 (by decide) rfl ?_
                    refine z_goto O 29 dX12_order_113 (by decide) ?_
                    exact z_sub [3, 4, 0, 2, 1] rfl (iI29 (y4 &&& ((1 <<< (y8 &&& 31)) ^^^ (-1))) y5 y8 (Nat.lt_of_lt_of_le h.2 (Nat.le_of_lt_succ uI29)) h.1)
                  · replace h := h.2 c10
                    refine z_iload O dX12_order_93 4 rfl ?_
                    refine z_goto O 99 dX12_order_95 (by decide) ?_
                    refine z_istore_n (lv' := [(3, .int y8), (0, .ref (ad 0)), (1, .int p1), (2, .int y4), (5, .int y8), (6, .int y9)]) O dX12_order_99 (by decide) rfl ?_
                    refine z_iload O dX12_order_100 4 rfl ?_
                    refine z_istore (lv' := [(4, .int y8), (3, .int y8), (0, .ref (ad 0)), (1, .int p1), (2, .int y4), (5, .int y8), (6, .int y9)]) O dX12_order_102 (by decide) rfl ?_
                    refine z_iload_n O dX12_order_104 4 rfl ?_
                    refine z_iconst (v := 1) O dX12_order_105 rfl ?_
                    refine z_iload O dX12_order_106 5 rfl ?_
                    refine z_ishl O dX12_order_108 ?_
                    refine z_iconst (v := -1) O dX12_order_109 rfl ?_
                    refine z_ixor O dX12_order_110 ?_
                    refine z_iand O dX12_order_111 ?_
                    refine z_istore_n (lv' := [(2, .int (y4 &&& ((1 <<< (y8 &&& 31)) ^^^ (-1)))), (4, .int y8), (3, .int y8), (0, .ref (ad 0)), (1, .int p1), (5, .int y8), (6, .int y9)]) O dX12_order_112 (by decide) rfl ?_
                    refine z_goto O 29 dX12_order_113 (by decide) ?_
                    exact z_sub [3, 4, 0, 2, 1] rfl (iI29 (y4 &&& ((1 <<< (y8 &&& 31)) ^^^ (-1))) y8 y8 (Nat.lt_of_lt_of_le h.2 (Nat.le_of_lt_succ uI29)) h.1)
                · replace h := h.2 c11
                  refine z_bipush (v := -4) O dX12_order_86 rfl ?_
                  exact z_retWR O hE (Nat.le_of_ble_eq_true rfl) (Nat.le_of_ble_eq_true rfl) rfl dX12_order_88 h
              · replace h := h.2 c15
                refine z_iload_n O dX12_order_45 2 rfl ?_
                refine z_iload O dX12_order_46 5 rfl ?_
                refine z_ishr O dX12_order_48 ?_
                refine z_iconst (v := 1) O dX12_order_49 rfl ?_
                refine z_iand O dX12_order_50 ?_
                refine z_iconst (v := 1) O dX12_order_51 rfl ?_
                refine z_icmp_ne O 71 dX12_order_52 (by decide) (fun c14 => ?_) (fun c14 => ?_)
                · replace h := h.1 c14
                  refine z_iload O dX12_order_71 4 rfl ?_
                  refine z_istore (lv' := [(5, .int y8), (0, .ref (ad 0)), (1, .int p1), (2, .int y4), (3, .int y5), (6, .int y9)]) O dX12_order_73 (by decide) rfl ?_
                  refine z_iinc (lv' := [(6, .int (y9 + (-1))), (5, .int y8), (0, .ref (ad 0)), (1, .int p1), (2, .int y4), (3, .int y5)]) O dX12_order_75 5 rfl rfl (by decide) rfl ?_
                  refine z_goto O 40 dX12_order_78 (by decide) ?_
                  exact z_sub [2, 3, 4, 5, 1, 0] rfl (iI40 y8 (y9 + (-1)) (Nat.lt_of_lt_of_le h.2 (Nat.le_of_lt_succ uI40)) h.1)
                · replace h := h.2 c14
                  refine z_aload_n O dX12_order_55 0 rfl ?_
                  refine z_iload O dX12_order_56 5 rfl ?_
                  refine z_callR (gKs D cs) hK (fun _ h => h) (t_X12_aheadOf x1  y9 _ h) (zr_V (As := [.int y9]) (rest := []) O hE.1 1 gX12_order_X12_aheadOf rfl rfl rfl (by decide +kernel) ⟨(Nat.le_of_ble_eq_true rfl), (Nat.le_of_ble_eq_true rfl)⟩ ⟨(Nat.le_of_ble_eq_true rfl), (Nat.le_of_ble_eq_true rfl)⟩ (fun H hH => z_recv hK.1 (hX _ H hH) (by decide) me_0 rfl) rfl rfl (Nat.le_of_ble_eq_true rfl) dX12_order_58) (fun r12 h => ?_)
                  refine z_iload_n O dX12_order_61 2 rfl ?_
                  refine z_iand O dX12_order_62 ?_
                  refine z_if_ne O 71 dX12_order_63 (by decide) (fun c13 => ?_) (fun c13 => ?_)
                  · replace h := h.1 c13
                    refine z_iload O dX12_order_71 4 rfl ?_
                    refine z_istore (lv' := [(5, .int y8), (0, .ref (ad 0)), (1, .int p1), (2, .int y4), (3, .int y5), (6, .int y9)]) O dX12_order_73 (by decide) rfl ?_
                    refine z_iinc (lv' := [(6, .int (y9 + (-1))), (5, .int y8), (0, .ref (ad 0)), (1, .int p1), (2, .int y4), (3, .int y5)]) O dX12_order_75 5 rfl rfl (by decide) rfl ?_
                    refine z_goto O 40 dX12_order_78 (by decide) ?_
                    exact z_sub [2, 3, 4, 5, 1, 0] rfl (iI40 y8 (y9 + (-1)) (Nat.lt_of_lt_of_le h.2 (Nat.le_of_lt_succ uI40)) h.1)
                  · replace h := h.2 c13
                    refine z_iload O dX12_order_66 5 rfl ?_
                    refine z_goto O 73 dX12_order_68 (by decide) ?_
                    refine z_istore (lv' := [(5, .int y9), (0, .ref (ad 0)), (1, .int p1), (2, .int y4), (3, .int y5), (6, .int y9)]) O dX12_order_73 (by decide) rfl ?_
                    refine z_iinc (lv' := [(6, .int (y9 + (-1))), (5, .int y9), (0, .ref (ad 0)), (1, .int p1), (2, .int y4), (3, .int y5)]) O dX12_order_75 5 rfl rfl (by decide) rfl ?_
                    refine z_goto O 40 dX12_order_78 (by decide) ?_
                    exact z_sub [2, 3, 4, 5, 1, 0] rfl (iI40 y9 (y9 + (-1)) (Nat.lt_of_lt_of_le h.2 (Nat.le_of_lt_succ uI40)) h.1)
          exact z_sub [2, 3, 4, 5, 1, 0] rfl (kI40 _ (-1) 9 (Nat.lt_succ_self _) h0)
    exact z_sub [3, 4, 2, 1, 0] rfl (kI29 _ r3 (-4) (-4) (Nat.lt_succ_self _) h0)
  · replace h := h.2 c17
    refine z_iconst (v := -1) O dX12_order_15 rfl ?_
    exact z_retWR O hE (Nat.le_of_ble_eq_true rfl) (Nat.le_of_ble_eq_true rfl) rfl dX12_order_16 h
def wp_X12_joined (x : MS)  (p1 : Int32) (p2 : Int32) (Q : Int32 → MS → Prop) : Prop :=
 (∀ x1 : MS, x1 = mI x 6 0 →
 wp_X12_isCell p1 (fun r2 : Int32 =>
 ((r2 = 0 →
 Q (-1) x1) ∧ (¬ r2 = 0 →
 wp_X12_isCell p2 (fun r3 : Int32 =>
 ((r3 = 0 →
 Q (-1) x1) ∧ (¬ r3 = 0 →
 ((¬ p1 = p2 →
 wp_X12_layerAt x1 p1 0 (fun r4 : Int32 =>
 wp_X12_layerAt x1 p2 0 (fun r5 : Int32 =>
 (∃ (I44 : Int32 → Int32 → Int32 → Prop) (U44 : Int32 → Int32 → Int32 → Nat), I44 0 r4 r5 ∧ ∀ (y6 : Int32) (y7 : Int32) (y8 : Int32), I44 y6 y7 y8 →
 ((y7 < 0 →
 Q y6 x1) ∧ (¬ y7 < 0 →
 ((y8 < 0 →
 Q y6 x1) ∧ (¬ y8 < 0 →
 (vp_in ((8 * p1) + y7) 48 ∧
 (vp_in ((8 * p2) + y8) 48 ∧
 ((¬ (x1.2.1 3 (Int32.toNatClampNeg ((8 * p1) + y7))) = (x1.2.1 3 (Int32.toNatClampNeg ((8 * p2) + y8))) →
 Q y6 x1) ∧ ((x1.2.1 3 (Int32.toNatClampNeg ((8 * p1) + y7))) = (x1.2.1 3 (Int32.toNatClampNeg ((8 * p2) + y8))) →
 wp_X12_layerAt x1 p1 (y6 + 1) (fun r9 : Int32 =>
 wp_X12_layerAt x1 p2 (y6 + 1) (fun r10 : Int32 =>
 (I44 (y6 + 1) r9 r10 ∧ U44 (y6 + 1) r9 r10 < U44 y6 y7 y8))))))))))))))) ∧ (p1 = p2 →
 Q (-1) x1)))))))))
set_option maxHeartbeats 4000000 in
set_option maxRecDepth 100000 in
theorem t_X12_joined {l : Launch} {D : va_G} {cs : Nat → ClassId} {ad : Nat → Nat} (hI : wInj 18 ad) (x : MS)  (p1 : Int32) (p2 : Int32) (Q : Int32 → MS → Prop) (h : wp_X12_joined x  p1 p2 Q) : zWR l yX12_joined wsX12_joined ({ frames := 2, cells := 0, slots := 0, locals := 45 } : Room) (gK D cs) (MH D cs ad) (wB 18 ad) x [.ref (ad 0), .int p1, .int p2] 0 0 Q := by
  refine zWR_of (cc := cX12_joined) (nL := 6) (ret := (some .int)) (by decide +kernel) rfl (Nat.le_of_ble_eq_true rfl) (fun C hl O hE hK => ?_)
  subst hl
  have hX : ∀ (x : MS) (H : Heap), MH D cs ad x H → va_P D vwCl (wl 18 ad (ME cs ad x)) H := fun _ _ h => h
  have hB : ∀ {x : MS} (H : Heap), va_P D vwCl (wl 18 ad (ME cs ad x)) H → MH D cs ad x H := fun _ h => h
  have hA : ∀ q, wB 18 ad q → zA (wB 18 ad) C.s.heap.size q := fun _ h => Or.inl h
  have i12 : ∀ w ∈ wsX120, w ∈ wsX12_joined := by decide +kernel
  refine z_sub (lv' := [(0, .ref (ad 0)), (1, .int p1), (2, .int p2)]) [0, 1, 2] rfl ?_
  refine z_aload_n O dX12_joined_0 0 rfl ?_
  refine z_iconst (v := 0) O dX12_joined_1 rfl ?_
  obtain ⟨x1, ex1⟩ : ∃ z, z = mI x 6 0 := ⟨_, rfl⟩
  replace h := h x1 ex1
  refine z_putf (x' := x1) (ty := .int) O hK.1 (hX _) hB hI hA (by decide) me_0 rfl i12 tyX12 tyX12_ok nmX12 6 (by decide) (by decide +kernel) rfl (by decide +kernel) rfl rfl (Nat.le_of_ble_eq_true rfl) (by rw [ex1]; exact me_put rfl rfl rfl) dX12_joined_2 ?_
  refine z_iload_n O dX12_joined_5 1 rfl ?_
  refine z_callR (gKs D cs) hK (fun _ h => h) (t_X12_isCell (gKs D cs) p1 _ h) (zr_SS (As := [.int p1]) (rest := []) O hE.1 1 gX12_joined_X12_isCell rfl rfl rfl (by decide +kernel) ⟨(Nat.le_of_ble_eq_true rfl), (Nat.le_of_ble_eq_true rfl)⟩ ⟨(Nat.le_of_ble_eq_true rfl), (Nat.le_of_ble_eq_true rfl)⟩ rfl rfl (Nat.le_of_ble_eq_true rfl) dX12_joined_6) (fun r2 h => ?_)
  refine z_if_eq O 24 dX12_joined_9 (by decide) (fun c16 => ?_) (fun c16 => ?_)
  · replace h := h.1 c16
    refine z_iconst (v := -1) O dX12_joined_24 rfl ?_
    exact z_retWR O hE (Nat.le_of_ble_eq_true rfl) (Nat.le_of_ble_eq_true rfl) rfl dX12_joined_25 h
  · replace h := h.2 c16
    refine z_iload_n O dX12_joined_12 2 rfl ?_
    refine z_callR (gKs D cs) hK (fun _ h => h) (t_X12_isCell (gKs D cs) p2 _ h) (zr_SS (As := [.int p2]) (rest := []) O hE.1 1 gX12_joined_X12_isCell rfl rfl rfl (by decide +kernel) ⟨(Nat.le_of_ble_eq_true rfl), (Nat.le_of_ble_eq_true rfl)⟩ ⟨(Nat.le_of_ble_eq_true rfl), (Nat.le_of_ble_eq_true rfl)⟩ rfl rfl (Nat.le_of_ble_eq_true rfl) dX12_joined_13) (fun r3 h => ?_)
    refine z_if_eq O 24 dX12_joined_16 (by decide) (fun c15 => ?_) (fun c15 => ?_)
    · replace h := h.1 c15
      refine z_iconst (v := -1) O dX12_joined_24 rfl ?_
      exact z_retWR O hE (Nat.le_of_ble_eq_true rfl) (Nat.le_of_ble_eq_true rfl) rfl dX12_joined_25 h
    · replace h := h.2 c15
      refine z_iload_n O dX12_joined_19 1 rfl ?_
      refine z_iload_n O dX12_joined_20 2 rfl ?_
      refine z_icmp_ne O 26 dX12_joined_21 (by decide) (fun c14 => ?_) (fun c14 => ?_)
      · replace h := h.1 c14
        refine z_iconst (v := 0) O dX12_joined_26 rfl ?_
        refine z_istore_n (lv' := [(3, .int 0), (0, .ref (ad 0)), (1, .int p1), (2, .int p2)]) O dX12_joined_27 (by decide) rfl ?_
        refine z_aload_n O dX12_joined_28 1 rfl ?_
        refine z_iload_n O dX12_joined_29 2 rfl ?_
        refine z_iconst (v := 0) O dX12_joined_30 rfl ?_
        refine z_callR (gKs D cs) hK (fun _ h => h) (t_X12_layerAt x1  p1 0 _ h) (zr_V (As := [.int p1, .int 0]) (rest := []) O hE.1 2 gX12_joined_X12_layerAt rfl rfl rfl (by decide +kernel) ⟨(Nat.le_of_ble_eq_true rfl), (Nat.le_of_ble_eq_true rfl)⟩ ⟨(Nat.le_of_ble_eq_true rfl), (Nat.le_of_ble_eq_true rfl)⟩ (fun H hH => z_recv hK.1 (hX _ H hH) (by decide) me_0 rfl) rfl rfl (Nat.le_of_ble_eq_true rfl) dX12_joined_31) (fun r4 h => ?_)
        refine z_istore (lv' := [(4, .int r4), (3, .int 0), (0, .ref (ad 0)), (1, .int p1), (2, .int p2)]) O dX12_joined_34 (by decide) rfl ?_
        refine z_aload_n O dX12_joined_36 2 rfl ?_
        refine z_iload_n O dX12_joined_37 4 rfl ?_
        refine z_iconst (v := 0) O dX12_joined_38 rfl ?_
        refine z_callR (gKs D cs) hK (fun _ h => h) (t_X12_layerAt x1  p2 0 _ h) (zr_V (As := [.int p2, .int 0]) (rest := []) O hE.1 2 gX12_joined_X12_layerAt rfl rfl rfl (by decide +kernel) ⟨(Nat.le_of_ble_eq_true rfl), (Nat.le_of_ble_eq_true rfl)⟩ ⟨(Nat.le_of_ble_eq_true rfl), (Nat.le_of_ble_eq_true rfl)⟩ (fun H hH => z_recv hK.1 (hX _ H hH) (by decide) me_0 rfl) rfl rfl (Nat.le_of_ble_eq_true rfl) dX12_joined_39) (fun r5 h => ?_)
        refine z_istore (lv' := [(5, .int r5), (4, .int r4), (3, .int 0), (0, .ref (ad 0)), (1, .int p1), (2, .int p2)]) O dX12_joined_42 (by decide) rfl ?_
        obtain ⟨I44, U44, h0, hs⟩ := h
        have kI44 : ∀ (n : Nat) (y6 : Int32) (y7 : Int32) (y8 : Int32), U44 y6 y7 y8 < n → I44 y6 y7 y8 → Z C (zA (wB 18 ad) C.s.heap.size) (MH D cs ad) 6 x1 [(0, .ref (ad 0)), (1, .int p1), (2, .int p2), (3, .int y6), (4, .int y7), (5, .int y8)] 0 0 44 [] := by
          intro n
          induction n with
          | zero => intro y6 y7 y8 uI44; exact absurd uI44 (Nat.not_lt_zero _)
          | succ n iI44 =>
            intro y6 y7 y8 uI44 h
            have h := hs y6 y7 y8 h
            refine z_iload O dX12_joined_44 4 rfl ?_
            refine z_if_lt O 103 dX12_joined_46 (by decide) (fun c13 => ?_) (fun c13 => ?_)
            · replace h := h.1 c13
              refine z_iload_n O dX12_joined_103 3 rfl ?_
              exact z_retWR O hE (Nat.le_of_ble_eq_true rfl) (Nat.le_of_ble_eq_true rfl) rfl dX12_joined_104 h
            · replace h := h.2 c13
              refine z_iload O dX12_joined_49 5 rfl ?_
              refine z_if_lt O 103 dX12_joined_51 (by decide) (fun c12 => ?_) (fun c12 => ?_)
              · replace h := h.1 c12
                refine z_iload_n O dX12_joined_103 3 rfl ?_
                exact z_retWR O hE (Nat.le_of_ble_eq_true rfl) (Nat.le_of_ble_eq_true rfl) rfl dX12_joined_104 h
              · replace h := h.2 c12
                refine z_aload_n O dX12_joined_54 0 rfl ?_
                refine z_getf O hK.1 (hX _) (by decide) me_0 rfl i12 3 (by decide) (by decide +kernel) rfl dX12_joined_55 ?_
                refine z_bipush (v := 8) O dX12_joined_58 rfl ?_
                refine z_iload_n O dX12_joined_60 1 rfl ?_
                refine z_imul O dX12_joined_61 ?_
                refine z_iload O dX12_joined_62 4 rfl ?_
                refine z_iadd O dX12_joined_64 ?_
                refine z_iald O hK.1 (hX _) 0 (mk_lt mk_3) (me_A mk_3) rfl (show vp_in ((8 * p1) + y7) (mlen 3) from h.1) dX12_joined_65 ?_
                replace h := h.2
                refine z_aload_n O dX12_joined_66 0 rfl ?_
                refine z_getf O hK.1 (hX _) (by decide) me_0 rfl i12 3 (by decide) (by decide +kernel) rfl dX12_joined_67 ?_
                refine z_bipush (v := 8) O dX12_joined_70 rfl ?_
                refine z_iload_n O dX12_joined_72 2 rfl ?_
                refine z_imul O dX12_joined_73 ?_
                refine z_iload O dX12_joined_74 5 rfl ?_
                refine z_iadd O dX12_joined_76 ?_
                refine z_iald O hK.1 (hX _) 0 (mk_lt mk_3) (me_A mk_3) rfl (show vp_in ((8 * p2) + y8) (mlen 3) from h.1) dX12_joined_77 ?_
                replace h := h.2
                refine z_icmp_ne O 103 dX12_joined_78 (by decide) (fun c11 => ?_) (fun c11 => ?_)
                · replace h := h.1 c11
                  refine z_iload_n O dX12_joined_103 3 rfl ?_
                  exact z_retWR O hE (Nat.le_of_ble_eq_true rfl) (Nat.le_of_ble_eq_true rfl) rfl dX12_joined_104 h
                · replace h := h.2 c11
                  refine z_iinc (lv' := [(3, .int (y6 + 1)), (0, .ref (ad 0)), (1, .int p1), (2, .int p2), (4, .int y7), (5, .int y8)]) O dX12_joined_81 3 rfl rfl (by decide) rfl ?_
                  refine z_aload_n O dX12_joined_84 1 rfl ?_
                  refine z_iload_n O dX12_joined_85 2 rfl ?_
                  refine z_iload_n O dX12_joined_86 0 rfl ?_
                  refine z_callR (gKs D cs) hK (fun _ h => h) (t_X12_layerAt x1  p1 (y6 + 1) _ h) (zr_V (As := [.int p1, .int (y6 + 1)]) (rest := []) O hE.1 2 gX12_joined_X12_layerAt rfl rfl rfl (by decide +kernel) ⟨(Nat.le_of_ble_eq_true rfl), (Nat.le_of_ble_eq_true rfl)⟩ ⟨(Nat.le_of_ble_eq_true rfl), (Nat.le_of_ble_eq_true rfl)⟩ (fun H hH => z_recv hK.1 (hX _ H hH) (by decide) me_0 rfl) rfl rfl (Nat.le_of_ble_eq_true rfl) dX12_joined_87) (fun r9 h => ?_)
                  refine z_istore (lv' := [(4, .int r9), (3, .int (y6 + 1)), (0, .ref (ad 0)), (1, .int p1), (2, .int p2), (5, .int y8)]) O dX12_joined_90 (by decide) rfl ?_
                  refine z_aload_n O dX12_joined_92 2 rfl ?_
                  refine z_iload_n O dX12_joined_93 4 rfl ?_
                  refine z_iload_n O dX12_joined_94 1 rfl ?_
                  refine z_callR (gKs D cs) hK (fun _ h => h) (t_X12_layerAt x1  p2 (y6 + 1) _ h) (zr_V (As := [.int p2, .int (y6 + 1)]) (rest := []) O hE.1 2 gX12_joined_X12_layerAt rfl rfl rfl (by decide +kernel) ⟨(Nat.le_of_ble_eq_true rfl), (Nat.le_of_ble_eq_true rfl)⟩ ⟨(Nat.le_of_ble_eq_true rfl), (Nat.le_of_ble_eq_true rfl)⟩ (fun H hH => z_recv hK.1 (hX _ H hH) (by decide) me_0 rfl) rfl rfl (Nat.le_of_ble_eq_true rfl) dX12_joined_95) (fun r10 h => ?_)
                  refine z_istore (lv' := [(5, .int r10), (4, .int r9), (3, .int (y6 + 1)), (0, .ref (ad 0)), (1, .int p1), (2, .int p2)]) O dX12_joined_98 (by decide) rfl ?_
                  refine z_goto O 44 dX12_joined_100 (by decide) ?_
                  exact z_sub [3, 4, 5, 2, 1, 0] rfl (iI44 (y6 + 1) r9 r10 (Nat.lt_of_lt_of_le h.2 (Nat.le_of_lt_succ uI44)) h.1)
        exact z_sub [3, 4, 5, 2, 1, 0] rfl (kI44 _ 0 r4 r5 (Nat.lt_succ_self _) h0)
      · replace h := h.2 c14
        refine z_iconst (v := -1) O dX12_joined_24 rfl ?_
        exact z_retWR O hE (Nat.le_of_ble_eq_true rfl) (Nat.le_of_ble_eq_true rfl) rfl dX12_joined_25 h
def wp_X12_draw (x : MS)  (p1 : Int32) (Q : Int32 → MS → Prop) : Prop :=
 (∀ x1 : MS, x1 = mI x 21 (((x.1 21) * 1103515245) + 12345) →
 ((¬ p1 = 0) ∧
 Q ((((x1.1 21) &&& 2147483647) / 65536) - (((x1.1 21) &&& 2147483647) / 65536) / p1 * p1) x1))
set_option maxHeartbeats 4000000 in
set_option maxRecDepth 100000 in
theorem t_X12_draw {l : Launch} {D : va_G} {cs : Nat → ClassId} {ad : Nat → Nat} (hI : wInj 18 ad) (x : MS)  (p1 : Int32) (Q : Int32 → MS → Prop) (h : wp_X12_draw x  p1 Q) : zWR l yX12_draw wsX12_draw ({ frames := 0, cells := 0, slots := 0, locals := 0 } : Room) (gK D cs) (MH D cs ad) (wB 18 ad) x [.ref (ad 0), .int p1] 0 0 Q := by
  refine zWR_of (cc := cX12_draw) (nL := 2) (ret := (some .int)) (by decide +kernel) rfl (Nat.le_of_ble_eq_true rfl) (fun C hl O hE hK => ?_)
  subst hl
  have hX : ∀ (x : MS) (H : Heap), MH D cs ad x H → va_P D vwCl (wl 18 ad (ME cs ad x)) H := fun _ _ h => h
  have hB : ∀ {x : MS} (H : Heap), va_P D vwCl (wl 18 ad (ME cs ad x)) H → MH D cs ad x H := fun _ h => h
  have hA : ∀ q, wB 18 ad q → zA (wB 18 ad) C.s.heap.size q := fun _ h => Or.inl h
  have i12 : ∀ w ∈ wsX120, w ∈ wsX12_draw := by decide +kernel
  refine z_sub (lv' := [(0, .ref (ad 0)), (1, .int p1)]) [0, 1] rfl ?_
  refine z_aload_n O dX12_draw_0 0 rfl ?_
  refine z_aload_n O dX12_draw_1 0 rfl ?_
  refine z_getf O hK.1 (hX _) (by decide) me_0 rfl i12 21 (by decide) (by decide +kernel) rfl dX12_draw_2 ?_
  refine z_ldc (v := 1103515245) O (by decide +kernel) dX12_draw_5 ?_
  refine z_imul O dX12_draw_7 ?_
  refine z_sipush (v := 12345) O dX12_draw_8 rfl ?_
  refine z_iadd O dX12_draw_11 ?_
  obtain ⟨x1, ex1⟩ : ∃ z, z = mI x 21 (((x.1 21) * 1103515245) + 12345) := ⟨_, rfl⟩
  replace h := h x1 ex1
  refine z_putf (x' := x1) (ty := .int) O hK.1 (hX _) hB hI hA (by decide) me_0 rfl i12 tyX12 tyX12_ok nmX12 21 (by decide) (by decide +kernel) rfl (by decide +kernel) rfl rfl (Nat.le_of_ble_eq_true rfl) (by rw [ex1]; exact me_put rfl rfl rfl) dX12_draw_12 ?_
  refine z_aload_n O dX12_draw_15 0 rfl ?_
  refine z_getf O hK.1 (hX _) (by decide) me_0 rfl i12 21 (by decide) (by decide +kernel) rfl dX12_draw_16 ?_
  refine z_ldc (v := 2147483647) O (by decide +kernel) dX12_draw_19 ?_
  refine z_iand O dX12_draw_21 ?_
  refine z_ldc (v := 65536) O (by decide +kernel) dX12_draw_22 ?_
  refine z_idiv O dX12_draw_24 (by decide) ?_
  refine z_iload_n O dX12_draw_25 1 rfl ?_
  refine z_irem O dX12_draw_26 h.1 ?_
  replace h := h.2
  exact z_retWR O hE (Nat.le_of_ble_eq_true rfl) (Nat.le_of_ble_eq_true rfl) rfl dX12_draw_27 h
def wp_X12_seeded (x : MS)  (p1 : Int32) (p2 : Int32) (Q : Int32 → MS → Prop) : Prop :=
 (∀ x1 : MS, x1 = mI x 6 0 →
 wp_X12_in (Int32.toInt64 p1) 1 40 (fun r2 : Int32 =>
 ((¬ r2 = 0 →
 wp_X12_open x1  (fun (x3 : MS) =>
 (∀ x4 : MS, x4 = mI x3 21 p2 →
 (∃ (I30 : Int32 → MS → Prop) (U30 : Int32 → MS → Nat), I30 0 x4 ∧ ∀ (y5 : Int32) (x6 : MS), I30 y5 x6 →
 ((p1 ≤ y5 →
 wp_X12_iceOfAll x6  (fun r7 : Int32 =>
 wp_X12_close x6  (fun (x8 : MS) =>
 Q r7 x8))) ∧ (¬ p1 ≤ y5 →
 wp_X12_draw x6 4 (fun (r10 : Int32) (x9 : MS) =>
 ((2 ≤ r10 →
 ((¬ r10 = 2 →
 ((99 ≤ (x9.1 0) →
 (∀ x11 : MS, x11 = mI x9 0 ((x9.1 0) + 0) →
 (I30 (y5 + 1) x11 ∧ U30 (y5 + 1) x11 < U30 y5 x6))) ∧ (¬ 99 ≤ (x9.1 0) →
 (∀ x12 : MS, x12 = mI x9 0 ((x9.1 0) + 1) →
 (I30 (y5 + 1) x12 ∧ U30 (y5 + 1) x12 < U30 y5 x6))))) ∧ (r10 = 2 →
 wp_X12_warmDay x9  (fun (r15 : Int32) (x14 : MS) =>
 (I30 (y5 + 1) x14 ∧ U30 (y5 + 1) x14 < U30 y5 x6))))) ∧ (¬ 2 ≤ r10 →
 wp_X12_draw x9 6 (fun (r18 : Int32) (x17 : MS) =>
 wp_X12_draw x17 8 (fun (r20 : Int32) (x19 : MS) =>
 wp_X12_draw x19 10 (fun (r22 : Int32) (x21 : MS) =>
 wp_X12_draw x21 9 (fun (r24 : Int32) (x23 : MS) =>
 wp_X12_freezes x23 r18 r20 r22 (r24 + 1) (fun (r26 : Int32) (x25 : MS) =>
 (I30 (y5 + 1) x25 ∧ U30 (y5 + 1) x25 < U30 y5 x6))))))))))))))) ∧ (r2 = 0 →
 Q (-1) x1))))
set_option maxHeartbeats 4000000 in
set_option maxRecDepth 100000 in
theorem t_X12_seeded {l : Launch} {D : va_G} {cs : Nat → ClassId} {ad : Nat → Nat} (hI : wInj 18 ad) (x : MS)  (p1 : Int32) (p2 : Int32) (Q : Int32 → MS → Prop) (h : wp_X12_seeded x  p1 p2 Q) : zWR l yX12_seeded wsX12_seeded ({ frames := 3, cells := 0, slots := 0, locals := 64 } : Room) (gK D cs) (MH D cs ad) (wB 18 ad) x [.ref (ad 0), .int p1, .int p2] 0 0 Q := by
  refine zWR_of (cc := cX12_seeded) (nL := 8) (ret := (some .int)) (by decide +kernel) rfl (Nat.le_of_ble_eq_true rfl) (fun C hl O hE hK => ?_)
  subst hl
  have hX : ∀ (x : MS) (H : Heap), MH D cs ad x H → va_P D vwCl (wl 18 ad (ME cs ad x)) H := fun _ _ h => h
  have hB : ∀ {x : MS} (H : Heap), va_P D vwCl (wl 18 ad (ME cs ad x)) H → MH D cs ad x H := fun _ h => h
  have hA : ∀ q, wB 18 ad q → zA (wB 18 ad) C.s.heap.size q := fun _ h => Or.inl h
  have i12 : ∀ w ∈ wsX120, w ∈ wsX12_seeded := by decide +kernel
  refine z_sub (lv' := [(0, .ref (ad 0)), (1, .int p1), (2, .int p2)]) [0, 1, 2] rfl ?_
  refine z_aload_n O dX12_seeded_0 0 rfl ?_
  refine z_iconst (v := 0) O dX12_seeded_1 rfl ?_
  obtain ⟨x1, ex1⟩ : ∃ z, z = mI x 6 0 := ⟨_, rfl⟩
  replace h := h x1 ex1
  refine z_putf (x' := x1) (ty := .int) O hK.1 (hX _) hB hI hA (by decide) me_0 rfl i12 tyX12 tyX12_ok nmX12 6 (by decide) (by decide +kernel) rfl (by decide +kernel) rfl rfl (Nat.le_of_ble_eq_true rfl) (by rw [ex1]; exact me_put rfl rfl rfl) dX12_seeded_2 ?_
  refine z_iload_n O dX12_seeded_5 1 rfl ?_
  refine z_i2l O dX12_seeded_6 ?_
  refine z_lconst (v := 1) O dX12_seeded_7 rfl ?_
  refine z_ldc2 (v := 40) O (by decide +kernel) dX12_seeded_8 ?_
  refine z_callR (gKs D cs) hK (fun _ h => h) (t_X12_in (gKs D cs) (Int32.toInt64 p1) 1 40 _ h) (zr_SS (As := [.long (Int32.toInt64 p1), .long 1, .long 40]) (rest := []) O hE.1 3 gX12_seeded_X12_in rfl rfl rfl (by decide +kernel) ⟨(Nat.le_of_ble_eq_true rfl), (Nat.le_of_ble_eq_true rfl)⟩ ⟨(Nat.le_of_ble_eq_true rfl), (Nat.le_of_ble_eq_true rfl)⟩ rfl rfl (Nat.le_of_ble_eq_true rfl) dX12_seeded_11) (fun r2 h => ?_)
  refine z_if_ne O 19 dX12_seeded_14 (by decide) (fun c29 => ?_) (fun c29 => ?_)
  · replace h := h.1 c29
    refine z_aload_n O dX12_seeded_19 0 rfl ?_
    refine z_cWV (gKs D cs) hK (fun _ h => h) (fun _ h => Or.inl h) (fun _ h => Or.inr h) (t_X12_open hI x1   _ h) (zr_V (As := []) (rest := []) O hE.1 0 gX12_seeded_X12_open rfl rfl rfl (by decide +kernel) ⟨(Nat.le_of_ble_eq_true rfl), (Nat.le_of_ble_eq_true rfl)⟩ ⟨(Nat.le_of_ble_eq_true rfl), (Nat.le_of_ble_eq_true rfl)⟩ (fun H hH => z_recv hK.1 (hX _ H hH) (by decide) me_0 rfl) rfl rfl (Nat.le_of_ble_eq_true rfl) dX12_seeded_20) (fun x3 h => ?_)
    refine z_aload_n O dX12_seeded_23 0 rfl ?_
    refine z_iload_n O dX12_seeded_24 2 rfl ?_
    obtain ⟨x4, ex4⟩ : ∃ z, z = mI x3 21 p2 := ⟨_, rfl⟩
    replace h := h x4 ex4
    refine z_putf (x' := x4) (ty := .int) O hK.1 (hX _) hB hI hA (by decide) me_0 rfl i12 tyX12 tyX12_ok nmX12 21 (by decide) (by decide +kernel) rfl (by decide +kernel) rfl rfl (Nat.le_of_ble_eq_true rfl) (by rw [ex4]; exact me_put rfl rfl rfl) dX12_seeded_25 ?_
    refine z_iconst (v := 0) O dX12_seeded_28 rfl ?_
    refine z_istore_n (lv' := [(3, .int 0), (0, .ref (ad 0)), (1, .int p1), (2, .int p2)]) O dX12_seeded_29 (by decide) rfl ?_
    obtain ⟨I30, U30, h0, hs⟩ := h
    have kI30 : ∀ (n : Nat) (y5 : Int32) (x6 : MS), U30 y5 x6 < n → I30 y5 x6 → Z C (zA (wB 18 ad) C.s.heap.size) (MH D cs ad) 8 x6 [(0, .ref (ad 0)), (1, .int p1), (3, .int y5)] 0 0 30 [] := by
      intro n
      induction n with
      | zero => intro y5 x6 uI30; exact absurd uI30 (Nat.not_lt_zero _)
      | succ n iI30 =>
        intro y5 x6 uI30 h
        have h := hs y5 x6 h
        refine z_iload_n O dX12_seeded_30 2 rfl ?_
        refine z_iload_n O dX12_seeded_31 1 rfl ?_
        refine z_icmp_ge O 137 dX12_seeded_32 (by decide) (fun c28 => ?_) (fun c28 => ?_)
        · replace h := h.1 c28
          refine z_aload_n O dX12_seeded_137 0 rfl ?_
          refine z_callR (gKs D cs) hK (fun _ h => h) (t_X12_iceOfAll x6   _ h) (zr_V (As := []) (rest := []) O hE.1 0 gX12_seeded_X12_iceOfAll rfl rfl rfl (by decide +kernel) ⟨(Nat.le_of_ble_eq_true rfl), (Nat.le_of_ble_eq_true rfl)⟩ ⟨(Nat.le_of_ble_eq_true rfl), (Nat.le_of_ble_eq_true rfl)⟩ (fun H hH => z_recv hK.1 (hX _ H hH) (by decide) me_0 rfl) rfl rfl (Nat.le_of_ble_eq_true rfl) dX12_seeded_138) (fun r7 h => ?_)
          refine z_istore_n (lv' := [(3, .int r7), (0, .ref (ad 0)), (1, .int p1)]) O dX12_seeded_141 (by decide) rfl ?_
          refine z_aload_n O dX12_seeded_142 1 rfl ?_
          refine z_cWV (gKs D cs) hK (fun _ h => h) (fun _ h => Or.inl h) (fun _ h => Or.inr h) (t_X12_close hI x6   _ h) (zr_V (As := []) (rest := []) O hE.1 0 gX12_seeded_X12_close rfl rfl rfl (by decide +kernel) ⟨(Nat.le_of_ble_eq_true rfl), (Nat.le_of_ble_eq_true rfl)⟩ ⟨(Nat.le_of_ble_eq_true rfl), (Nat.le_of_ble_eq_true rfl)⟩ (fun H hH => z_recv hK.1 (hX _ H hH) (by decide) me_0 rfl) rfl rfl (Nat.le_of_ble_eq_true rfl) dX12_seeded_143) (fun x8 h => ?_)
          refine z_iload_n O dX12_seeded_146 0 rfl ?_
          exact z_retWR O hE (Nat.le_of_ble_eq_true rfl) (Nat.le_of_ble_eq_true rfl) rfl dX12_seeded_147 h
        · replace h := h.2 c28
          refine z_aload_n O dX12_seeded_35 0 rfl ?_
          refine z_iconst (v := 4) O dX12_seeded_36 rfl ?_
          refine z_cWR (gKs D cs) hK (fun _ h => h) (fun _ h => Or.inl h) (fun _ h => Or.inr h) (t_X12_draw hI x6  4 _ h) (zr_V (As := [.int 4]) (rest := []) O hE.1 1 gX12_seeded_X12_draw rfl rfl rfl (by decide +kernel) ⟨(Nat.le_of_ble_eq_true rfl), (Nat.le_of_ble_eq_true rfl)⟩ ⟨(Nat.le_of_ble_eq_true rfl), (Nat.le_of_ble_eq_true rfl)⟩ (fun H hH => z_recv hK.1 (hX _ H hH) (by decide) me_0 rfl) rfl rfl (Nat.le_of_ble_eq_true rfl) dX12_seeded_37) (fun r10 x9 h => ?_)
          refine z_istore (lv' := [(4, .int r10), (0, .ref (ad 0)), (1, .int p1), (3, .int y5)]) O dX12_seeded_40 (by decide) rfl ?_
          refine z_iload O dX12_seeded_42 0 rfl ?_
          refine z_iconst (v := 2) O dX12_seeded_44 rfl ?_
          refine z_icmp_ge O 94 dX12_seeded_45 (by decide) (fun c27 => ?_) (fun c27 => ?_)
          · replace h := h.1 c27
            refine z_iload O dX12_seeded_94 0 rfl ?_
            refine z_iconst (v := 2) O dX12_seeded_96 rfl ?_
            refine z_icmp_ne O 108 dX12_seeded_97 (by decide) (fun c16 => ?_) (fun c16 => ?_)
            · replace h := h.1 c16
              refine z_aload_n O dX12_seeded_108 1 rfl ?_
              refine z_dup O dX12_seeded_109 rfl ?_
              refine z_getf O hK.1 (hX _) (by decide) me_0 rfl i12 0 (by decide) (by decide +kernel) rfl dX12_seeded_110 ?_
              refine z_aload_n O dX12_seeded_113 1 rfl ?_
              refine z_getf O hK.1 (hX _) (by decide) me_0 rfl i12 0 (by decide) (by decide +kernel) rfl dX12_seeded_114 ?_
              refine z_bipush (v := 99) O dX12_seeded_117 rfl ?_
              refine z_icmp_ge O 126 dX12_seeded_119 (by decide) (fun c13 => ?_) (fun c13 => ?_)
              · replace h := h.1 c13
                refine z_iconst (v := 0) O dX12_seeded_126 rfl ?_
                refine z_iadd O dX12_seeded_127 ?_
                obtain ⟨x11, ex11⟩ : ∃ z, z = mI x9 0 ((x9.1 0) + 0) := ⟨_, rfl⟩
                replace h := h x11 ex11
                refine z_putf (x' := x11) (ty := .int) O hK.1 (hX _) hB hI hA (by decide) me_0 rfl i12 tyX12 tyX12_ok nmX12 0 (by decide) (by decide +kernel) rfl (by decide +kernel) rfl rfl (Nat.le_of_ble_eq_true rfl) (by rw [ex11]; exact me_put rfl rfl rfl) dX12_seeded_128 ?_
                refine z_iinc (lv' := [(3, .int (y5 + 1)), (4, .int r10), (0, .ref (ad 0)), (1, .int p1)]) O dX12_seeded_131 3 rfl rfl (by decide) rfl ?_
                refine z_goto O 30 dX12_seeded_134 (by decide) ?_
                exact z_sub [2, 3, 0] rfl (iI30 (y5 + 1) x11 (Nat.lt_of_lt_of_le h.2 (Nat.le_of_lt_succ uI30)) h.1)
              · replace h := h.2 c13
                refine z_iconst (v := 1) O dX12_seeded_122 rfl ?_
                refine z_goto O 127 dX12_seeded_123 (by decide) ?_
                refine z_iadd O dX12_seeded_127 ?_
                obtain ⟨x12, ex12⟩ : ∃ z, z = mI x9 0 ((x9.1 0) + 1) := ⟨_, rfl⟩
                replace h := h x12 ex12
                refine z_putf (x' := x12) (ty := .int) O hK.1 (hX _) hB hI hA (by decide) me_0 rfl i12 tyX12 tyX12_ok nmX12 0 (by decide) (by decide +kernel) rfl (by decide +kernel) rfl rfl (Nat.le_of_ble_eq_true rfl) (by rw [ex12]; exact me_put rfl rfl rfl) dX12_seeded_128 ?_
                refine z_iinc (lv' := [(3, .int (y5 + 1)), (4, .int r10), (0, .ref (ad 0)), (1, .int p1)]) O dX12_seeded_131 3 rfl rfl (by decide) rfl ?_
                refine z_goto O 30 dX12_seeded_134 (by decide) ?_
                exact z_sub [2, 3, 0] rfl (iI30 (y5 + 1) x12 (Nat.lt_of_lt_of_le h.2 (Nat.le_of_lt_succ uI30)) h.1)
            · replace h := h.2 c16
              refine z_aload_n O dX12_seeded_100 1 rfl ?_
              refine z_cWR (gKs D cs) hK (fun _ h => h) (fun _ h => Or.inl h) (fun _ h => Or.inr h) (t_X12_warmDay hI x9   _ h) (zr_V (As := []) (rest := []) O hE.1 0 gX12_seeded_X12_warmDay rfl rfl rfl (by decide +kernel) ⟨(Nat.le_of_ble_eq_true rfl), (Nat.le_of_ble_eq_true rfl)⟩ ⟨(Nat.le_of_ble_eq_true rfl), (Nat.le_of_ble_eq_true rfl)⟩ (fun H hH => z_recv hK.1 (hX _ H hH) (by decide) me_0 rfl) rfl rfl (Nat.le_of_ble_eq_true rfl) dX12_seeded_101) (fun r15 x14 h => ?_)
              refine z_pop O dX12_seeded_104 rfl ?_
              refine z_goto O 131 dX12_seeded_105 (by decide) ?_
              refine z_iinc (lv' := [(3, .int (y5 + 1)), (4, .int r10), (0, .ref (ad 0)), (1, .int p1)]) O dX12_seeded_131 3 rfl rfl (by decide) rfl ?_
              refine z_goto O 30 dX12_seeded_134 (by decide) ?_
              exact z_sub [2, 3, 0] rfl (iI30 (y5 + 1) x14 (Nat.lt_of_lt_of_le h.2 (Nat.le_of_lt_succ uI30)) h.1)
          · replace h := h.2 c27
            refine z_aload_n O dX12_seeded_48 1 rfl ?_
            refine z_bipush (v := 6) O dX12_seeded_49 rfl ?_
            refine z_cWR (gKs D cs) hK (fun _ h => h) (fun _ h => Or.inl h) (fun _ h => Or.inr h) (t_X12_draw hI x9  6 _ h) (zr_V (As := [.int 6]) (rest := []) O hE.1 1 gX12_seeded_X12_draw rfl rfl rfl (by decide +kernel) ⟨(Nat.le_of_ble_eq_true rfl), (Nat.le_of_ble_eq_true rfl)⟩ ⟨(Nat.le_of_ble_eq_true rfl), (Nat.le_of_ble_eq_true rfl)⟩ (fun H hH => z_recv hK.1 (hX _ H hH) (by decide) me_0 rfl) rfl rfl (Nat.le_of_ble_eq_true rfl) dX12_seeded_51) (fun r18 x17 h => ?_)
            refine z_istore (lv' := [(5, .int r18), (4, .int r10), (0, .ref (ad 0)), (1, .int p1), (3, .int y5)]) O dX12_seeded_54 (by decide) rfl ?_
            refine z_aload_n O dX12_seeded_56 2 rfl ?_
            refine z_bipush (v := 8) O dX12_seeded_57 rfl ?_
            refine z_cWR (gKs D cs) hK (fun _ h => h) (fun _ h => Or.inl h) (fun _ h => Or.inr h) (t_X12_draw hI x17  8 _ h) (zr_V (As := [.int 8]) (rest := []) O hE.1 1 gX12_seeded_X12_draw rfl rfl rfl (by decide +kernel) ⟨(Nat.le_of_ble_eq_true rfl), (Nat.le_of_ble_eq_true rfl)⟩ ⟨(Nat.le_of_ble_eq_true rfl), (Nat.le_of_ble_eq_true rfl)⟩ (fun H hH => z_recv hK.1 (hX _ H hH) (by decide) me_0 rfl) rfl rfl (Nat.le_of_ble_eq_true rfl) dX12_seeded_59) (fun r20 x19 h => ?_)
            refine z_istore (lv' := [(6, .int r20), (5, .int r18), (4, .int r10), (0, .ref (ad 0)), (1, .int p1), (3, .int y5)]) O dX12_seeded_62 (by decide) rfl ?_
            refine z_aload_n O dX12_seeded_64 3 rfl ?_
            refine z_bipush (v := 10) O dX12_seeded_65 rfl ?_
            refine z_cWR (gKs D cs) hK (fun _ h => h) (fun _ h => Or.inl h) (fun _ h => Or.inr h) (t_X12_draw hI x19  10 _ h) (zr_V (As := [.int 10]) (rest := []) O hE.1 1 gX12_seeded_X12_draw rfl rfl rfl (by decide +kernel) ⟨(Nat.le_of_ble_eq_true rfl), (Nat.le_of_ble_eq_true rfl)⟩ ⟨(Nat.le_of_ble_eq_true rfl), (Nat.le_of_ble_eq_true rfl)⟩ (fun H hH => z_recv hK.1 (hX _ H hH) (by decide) me_0 rfl) rfl rfl (Nat.le_of_ble_eq_true rfl) dX12_seeded_67) (fun r22 x21 h => ?_)
            refine z_istore (lv' := [(7, .int r22), (6, .int r20), (5, .int r18), (4, .int r10), (0, .ref (ad 0)), (1, .int p1), (3, .int y5)]) O dX12_seeded_70 (by decide) rfl ?_
            refine z_aload_n O dX12_seeded_72 4 rfl ?_
            refine z_iload O dX12_seeded_73 2 rfl ?_
            refine z_iload O dX12_seeded_75 1 rfl ?_
            refine z_iload O dX12_seeded_77 0 rfl ?_
            refine z_aload_n O dX12_seeded_79 4 rfl ?_
            refine z_bipush (v := 9) O dX12_seeded_80 rfl ?_
            refine z_cWR (gKs D cs) hK (fun _ h => h) (fun _ h => Or.inl h) (fun _ h => Or.inr h) (t_X12_draw hI x21  9 _ h) (zr_V (As := [.int 9]) (rest := [.int r22, .int r20, .int r18, .ref (ad 0)]) O hE.1 1 gX12_seeded_X12_draw rfl rfl rfl (by decide +kernel) ⟨(Nat.le_of_ble_eq_true rfl), (Nat.le_of_ble_eq_true rfl)⟩ ⟨(Nat.le_of_ble_eq_true rfl), (Nat.le_of_ble_eq_true rfl)⟩ (fun H hH => z_recv hK.1 (hX _ H hH) (by decide) me_0 rfl) rfl rfl (Nat.le_of_ble_eq_true rfl) dX12_seeded_82) (fun r24 x23 h => ?_)
            refine z_iconst (v := 1) O dX12_seeded_85 rfl ?_
            refine z_iadd O dX12_seeded_86 ?_
            refine z_cWR (gKs D cs) hK (fun _ h => h) (fun _ h => Or.inl h) (fun _ h => Or.inr h) (t_X12_freezes hI x23  r18 r20 r22 (r24 + 1) _ h) (zr_V (As := [.int r18, .int r20, .int r22, .int (r24 + 1)]) (rest := []) O hE.1 4 gX12_seeded_X12_freezes rfl rfl rfl (by decide +kernel) ⟨(Nat.le_of_ble_eq_true rfl), (Nat.le_of_ble_eq_true rfl)⟩ ⟨(Nat.le_of_ble_eq_true rfl), (Nat.le_of_ble_eq_true rfl)⟩ (fun H hH => z_recv hK.1 (hX _ H hH) (by decide) me_0 rfl) rfl rfl (Nat.le_of_ble_eq_true rfl) dX12_seeded_87) (fun r26 x25 h => ?_)
            refine z_pop O dX12_seeded_90 rfl ?_
            refine z_goto O 131 dX12_seeded_91 (by decide) ?_
            refine z_iinc (lv' := [(3, .int (y5 + 1)), (7, .int r22), (6, .int r20), (5, .int r18), (4, .int r10), (0, .ref (ad 0)), (1, .int p1)]) O dX12_seeded_131 6 rfl rfl (by decide) rfl ?_
            refine z_goto O 30 dX12_seeded_134 (by decide) ?_
            exact z_sub [5, 6, 0] rfl (iI30 (y5 + 1) x25 (Nat.lt_of_lt_of_le h.2 (Nat.le_of_lt_succ uI30)) h.1)
    exact z_sub [1, 2, 0] rfl (kI30 _ 0 x4 (Nat.lt_succ_self _) h0)
  · replace h := h.2 c29
    refine z_iconst (v := -1) O dX12_seeded_17 rfl ?_
    exact z_retWR O hE (Nat.le_of_ble_eq_true rfl) (Nat.le_of_ble_eq_true rfl) rfl dX12_seeded_18 h
def wp_X12_skippedIn (x : MS)  (p1 : Int32) (Q : Int64 → Prop) : Prop :=
 (vp_in p1 8 ∧
 ((¬ (x.2.1 14 (Int32.toNatClampNeg p1)) = 0 →
 (vp_in p1 8 ∧
 ((¬ (x.2.1 14 (Int32.toNatClampNeg p1)) = 1 →
 Q (-2147483648)) ∧ ((x.2.1 14 (Int32.toNatClampNeg p1)) = 1 →
 Q (-32768))))) ∧ ((x.2.1 14 (Int32.toNatClampNeg p1)) = 0 →
 Q (-128))))
set_option maxHeartbeats 4000000 in
set_option maxRecDepth 100000 in
theorem t_X12_skippedIn {l : Launch} {D : va_G} {cs : Nat → ClassId} {ad : Nat → Nat} (x : MS)  (p1 : Int32) (Q : Int64 → Prop) (h : wp_X12_skippedIn x  p1 Q) : zML l yX12_skippedIn wsX12_skippedIn ({ frames := 0, cells := 0, slots := 0, locals := 0 } : Room) (gK D cs) (MH D cs ad) x [.ref (ad 0), .int p1] Q := by
  refine zML_of (cc := cX12_skippedIn) (nL := 2) (ret := (some .long)) (by decide +kernel) rfl (Nat.le_of_ble_eq_true rfl) (fun C hl O hE hK hH => ?_)
  subst hl
  have hX : ∀ (x : MS) (H : Heap), z0 (MH D cs ad) C.s.heap x H → va_P D vwCl (wl 18 ad (ME cs ad x)) H := fun _ _ h => h.2
  have i12 : ∀ w ∈ wsX120, w ∈ wsX12_skippedIn := by decide +kernel
  refine z_sub (lv' := [(0, .ref (ad 0)), (1, .int p1)]) [0, 1] rfl ?_
  refine z_aload_n O dX12_skippedIn_0 0 rfl ?_
  refine z_getf O hK.1 (hX _) (by decide) me_0 rfl i12 25 (by decide) (by decide +kernel) rfl dX12_skippedIn_1 ?_
  refine z_iload_n O dX12_skippedIn_4 1 rfl ?_
  refine z_iald O hK.1 (hX _) 0 (mk_lt mk_14) (me_A mk_14) rfl (show vp_in p1 (mlen 14) from h.1) dX12_skippedIn_5 ?_
  replace h := h.2
  refine z_if_ne O 15 dX12_skippedIn_6 (by decide) (fun c2 => ?_) (fun c2 => ?_)
  · replace h := h.1 c2
    refine z_aload_n O dX12_skippedIn_15 0 rfl ?_
    refine z_getf O hK.1 (hX _) (by decide) me_0 rfl i12 25 (by decide) (by decide +kernel) rfl dX12_skippedIn_16 ?_
    refine z_iload_n O dX12_skippedIn_19 1 rfl ?_
    refine z_iald O hK.1 (hX _) 0 (mk_lt mk_14) (me_A mk_14) rfl (show vp_in p1 (mlen 14) from h.1) dX12_skippedIn_20 ?_
    replace h := h.2
    refine z_iconst (v := 1) O dX12_skippedIn_21 rfl ?_
    refine z_icmp_ne O 31 dX12_skippedIn_22 (by decide) (fun c1 => ?_) (fun c1 => ?_)
    · replace h := h.1 c1
      refine z_ldc2 (v := -2147483648) O (by decide +kernel) dX12_skippedIn_31 ?_
      exact z_retL O hE (fun _ h => h.1) dX12_skippedIn_34 h
    · replace h := h.2 c1
      refine z_ldc2 (v := -32768) O (by decide +kernel) dX12_skippedIn_25 ?_
      refine z_goto O 34 dX12_skippedIn_28 (by decide) ?_
      exact z_retL O hE (fun _ h => h.1) dX12_skippedIn_34 h
  · replace h := h.2 c2
    refine z_ldc2 (v := -128) O (by decide +kernel) dX12_skippedIn_9 ?_
    refine z_goto O 34 dX12_skippedIn_12 (by decide) ?_
    exact z_retL O hE (fun _ h => h.1) dX12_skippedIn_34 h
def wp_X12_judge (x : MS)  (p1 : Int32) (Q : Int32 → MS → Prop) : Prop :=
 (∀ x1 : MS, x1 = mI x 6 0 →
 wp_X12_wrongRow x1 p1 (fun r2 : Int32 =>
 ((0 ≤ r2 →
 (∃ (I19 : Int32 → Prop) (U19 : Int32 → Nat), I19 0 ∧ ∀ (y3 : Int32), I19 y3 →
 ((6 ≤ y3 →
 (vp_in p1 8 ∧
 ((6 ≤ (x1.2.1 15 (Int32.toNatClampNeg p1)) →
 (vp_in p1 8 ∧
 (((x1.2.1 15 (Int32.toNatClampNeg p1)) ≤ 6 →
 Q (-4) x1) ∧ (¬ (x1.2.1 15 (Int32.toNatClampNeg p1)) ≤ 6 →
 Q 6 x1)))) ∧ (¬ 6 ≤ (x1.2.1 15 (Int32.toNatClampNeg p1)) →
 (vp_in p1 8 ∧
 Q (x1.2.1 15 (Int32.toNatClampNeg p1)) x1))))) ∧ (¬ 6 ≤ y3 →
 (vp_in p1 8 ∧
 (((x1.2.1 15 (Int32.toNatClampNeg p1)) ≤ y3 →
 (vp_in p1 8 ∧
 ((6 ≤ (x1.2.1 15 (Int32.toNatClampNeg p1)) →
 (vp_in p1 8 ∧
 (((x1.2.1 15 (Int32.toNatClampNeg p1)) ≤ 6 →
 Q (-4) x1) ∧ (¬ (x1.2.1 15 (Int32.toNatClampNeg p1)) ≤ 6 →
 Q 6 x1)))) ∧ (¬ 6 ≤ (x1.2.1 15 (Int32.toNatClampNeg p1)) →
 (vp_in p1 8 ∧
 Q (x1.2.1 15 (Int32.toNatClampNeg p1)) x1))))) ∧ (¬ (x1.2.1 15 (Int32.toNatClampNeg p1)) ≤ y3 →
 (vp_in ((100 * p1) + y3) 800 ∧
 wp_X12_skippedIn x1 p1 (fun r8 : Int64 =>
 (((lg_cmp (x1.2.2.1 16 (Int32.toNatClampNeg ((100 * p1) + y3))) r8) = 0 →
 (I19 (y3 + 1) ∧ U19 (y3 + 1) < U19 y3)) ∧ (¬ (lg_cmp (x1.2.2.1 16 (Int32.toNatClampNeg ((100 * p1) + y3))) r8) = 0 →
 wp_X12_iceOf x1 y3 (fun r9 : Int32 =>
 (((lg_cmp (x1.2.2.1 16 (Int32.toNatClampNeg ((100 * p1) + y3))) (Int32.toInt64 r9)) = 0 →
 (I19 (y3 + 1) ∧ U19 (y3 + 1) < U19 y3)) ∧ (¬ (lg_cmp (x1.2.2.1 16 (Int32.toNatClampNeg ((100 * p1) + y3))) (Int32.toInt64 r9)) = 0 →
 Q y3 x1)))))))))))))) ∧ (¬ 0 ≤ r2 →
 Q r2 x1))))
set_option maxHeartbeats 4000000 in
set_option maxRecDepth 100000 in
theorem t_X12_judge {l : Launch} {D : va_G} {cs : Nat → ClassId} {ad : Nat → Nat} (hI : wInj 18 ad) (x : MS)  (p1 : Int32) (Q : Int32 → MS → Prop) (h : wp_X12_judge x  p1 Q) : zWR l yX12_judge wsX12_judge ({ frames := 2, cells := 0, slots := 0, locals := 46 } : Room) (gK D cs) (MH D cs ad) (wB 18 ad) x [.ref (ad 0), .int p1] 0 0 Q := by
  refine zWR_of (cc := cX12_judge) (nL := 6) (ret := (some .int)) (by decide +kernel) rfl (Nat.le_of_ble_eq_true rfl) (fun C hl O hE hK => ?_)
  subst hl
  have hX : ∀ (x : MS) (H : Heap), MH D cs ad x H → va_P D vwCl (wl 18 ad (ME cs ad x)) H := fun _ _ h => h
  have hB : ∀ {x : MS} (H : Heap), va_P D vwCl (wl 18 ad (ME cs ad x)) H → MH D cs ad x H := fun _ h => h
  have hA : ∀ q, wB 18 ad q → zA (wB 18 ad) C.s.heap.size q := fun _ h => Or.inl h
  have i12 : ∀ w ∈ wsX120, w ∈ wsX12_judge := by decide +kernel
  refine z_sub (lv' := [(0, .ref (ad 0)), (1, .int p1)]) [0, 1] rfl ?_
  refine z_aload_n O dX12_judge_0 0 rfl ?_
  refine z_iconst (v := 0) O dX12_judge_1 rfl ?_
  obtain ⟨x1, ex1⟩ : ∃ z, z = mI x 6 0 := ⟨_, rfl⟩
  replace h := h x1 ex1
  refine z_putf (x' := x1) (ty := .int) O hK.1 (hX _) hB hI hA (by decide) me_0 rfl i12 tyX12 tyX12_ok nmX12 6 (by decide) (by decide +kernel) rfl (by decide +kernel) rfl rfl (Nat.le_of_ble_eq_true rfl) (by rw [ex1]; exact me_put rfl rfl rfl) dX12_judge_2 ?_
  refine z_aload_n O dX12_judge_5 0 rfl ?_
  refine z_iload_n O dX12_judge_6 1 rfl ?_
  refine z_callR (gKs D cs) hK (fun _ h => h) (t_X12_wrongRow x1  p1 _ h) (zr_V (As := [.int p1]) (rest := []) O hE.1 1 gX12_judge_X12_wrongRow rfl rfl rfl (by decide +kernel) ⟨(Nat.le_of_ble_eq_true rfl), (Nat.le_of_ble_eq_true rfl)⟩ ⟨(Nat.le_of_ble_eq_true rfl), (Nat.le_of_ble_eq_true rfl)⟩ (fun H hH => z_recv hK.1 (hX _ H hH) (by decide) me_0 rfl) rfl rfl (Nat.le_of_ble_eq_true rfl) dX12_judge_7) (fun r2 h => ?_)
  refine z_istore_n (lv' := [(2, .int r2), (0, .ref (ad 0)), (1, .int p1)]) O dX12_judge_10 (by decide) rfl ?_
  refine z_iload_n O dX12_judge_11 0 rfl ?_
  refine z_if_ge O 17 dX12_judge_12 (by decide) (fun c14 => ?_) (fun c14 => ?_)
  · replace h := h.1 c14
    refine z_iconst (v := 0) O dX12_judge_17 rfl ?_
    refine z_istore_n (lv' := [(3, .int 0), (2, .int r2), (0, .ref (ad 0)), (1, .int p1)]) O dX12_judge_18 (by decide) rfl ?_
    obtain ⟨I19, U19, h0, hs⟩ := h
    have kI19 : ∀ (n : Nat) (y3 : Int32), U19 y3 < n → I19 y3 → Z C (zA (wB 18 ad) C.s.heap.size) (MH D cs ad) 6 x1 [(0, .ref (ad 0)), (1, .int p1), (3, .int y3)] 0 0 19 [] := by
      intro n
      induction n with
      | zero => intro y3 uI19; exact absurd uI19 (Nat.not_lt_zero _)
      | succ n iI19 =>
        intro y3 uI19 h
        have h := hs y3 h
        refine z_iload_n O dX12_judge_19 2 rfl ?_
        refine z_bipush (v := 6) O dX12_judge_20 rfl ?_
        refine z_icmp_ge O 79 dX12_judge_22 (by decide) (fun c13 => ?_) (fun c13 => ?_)
        · replace h := h.1 c13
          refine z_aload_n O dX12_judge_79 0 rfl ?_
          refine z_getf O hK.1 (hX _) (by decide) me_0 rfl i12 26 (by decide) (by decide +kernel) rfl dX12_judge_80 ?_
          refine z_iload_n O dX12_judge_83 1 rfl ?_
          refine z_iald O hK.1 (hX _) 0 (mk_lt mk_15) (me_A mk_15) rfl (show vp_in p1 (mlen 15) from h.1) dX12_judge_84 ?_
          replace h := h.2
          refine z_bipush (v := 6) O dX12_judge_85 rfl ?_
          refine z_icmp_ge O 99 dX12_judge_87 (by decide) (fun c5 => ?_) (fun c5 => ?_)
          · replace h := h.1 c5
            refine z_aload_n O dX12_judge_99 0 rfl ?_
            refine z_getf O hK.1 (hX _) (by decide) me_0 rfl i12 26 (by decide) (by decide +kernel) rfl dX12_judge_100 ?_
            refine z_iload_n O dX12_judge_103 1 rfl ?_
            refine z_iald O hK.1 (hX _) 0 (mk_lt mk_15) (me_A mk_15) rfl (show vp_in p1 (mlen 15) from h.1) dX12_judge_104 ?_
            replace h := h.2
            refine z_bipush (v := 6) O dX12_judge_105 rfl ?_
            refine z_icmp_le O 115 dX12_judge_107 (by decide) (fun c4 => ?_) (fun c4 => ?_)
            · replace h := h.1 c4
              refine z_bipush (v := -4) O dX12_judge_115 rfl ?_
              exact z_retWR O hE (Nat.le_of_ble_eq_true rfl) (Nat.le_of_ble_eq_true rfl) rfl dX12_judge_117 h
            · replace h := h.2 c4
              refine z_bipush (v := 6) O dX12_judge_110 rfl ?_
              refine z_goto O 117 dX12_judge_112 (by decide) ?_
              exact z_retWR O hE (Nat.le_of_ble_eq_true rfl) (Nat.le_of_ble_eq_true rfl) rfl dX12_judge_117 h
          · replace h := h.2 c5
            refine z_aload_n O dX12_judge_90 0 rfl ?_
            refine z_getf O hK.1 (hX _) (by decide) me_0 rfl i12 26 (by decide) (by decide +kernel) rfl dX12_judge_91 ?_
            refine z_iload_n O dX12_judge_94 1 rfl ?_
            refine z_iald O hK.1 (hX _) 0 (mk_lt mk_15) (me_A mk_15) rfl (show vp_in p1 (mlen 15) from h.1) dX12_judge_95 ?_
            replace h := h.2
            refine z_goto O 117 dX12_judge_96 (by decide) ?_
            exact z_retWR O hE (Nat.le_of_ble_eq_true rfl) (Nat.le_of_ble_eq_true rfl) rfl dX12_judge_117 h
        · replace h := h.2 c13
          refine z_iload_n O dX12_judge_25 2 rfl ?_
          refine z_aload_n O dX12_judge_26 0 rfl ?_
          refine z_getf O hK.1 (hX _) (by decide) me_0 rfl i12 26 (by decide) (by decide +kernel) rfl dX12_judge_27 ?_
          refine z_iload_n O dX12_judge_30 1 rfl ?_
          refine z_iald O hK.1 (hX _) 0 (mk_lt mk_15) (me_A mk_15) rfl (show vp_in p1 (mlen 15) from h.1) dX12_judge_31 ?_
          replace h := h.2
          refine z_icmp_ge O 79 dX12_judge_32 (by decide) (fun c12 => ?_) (fun c12 => ?_)
          · replace h := h.1 c12
            refine z_aload_n O dX12_judge_79 0 rfl ?_
            refine z_getf O hK.1 (hX _) (by decide) me_0 rfl i12 26 (by decide) (by decide +kernel) rfl dX12_judge_80 ?_
            refine z_iload_n O dX12_judge_83 1 rfl ?_
            refine z_iald O hK.1 (hX _) 0 (mk_lt mk_15) (me_A mk_15) rfl (show vp_in p1 (mlen 15) from h.1) dX12_judge_84 ?_
            replace h := h.2
            refine z_bipush (v := 6) O dX12_judge_85 rfl ?_
            refine z_icmp_ge O 99 dX12_judge_87 (by decide) (fun c7 => ?_) (fun c7 => ?_)
            · replace h := h.1 c7
              refine z_aload_n O dX12_judge_99 0 rfl ?_
              refine z_getf O hK.1 (hX _) (by decide) me_0 rfl i12 26 (by decide) (by decide +kernel) rfl dX12_judge_100 ?_
              refine z_iload_n O dX12_judge_103 1 rfl ?_
              refine z_iald O hK.1 (hX _) 0 (mk_lt mk_15) (me_A mk_15) rfl (show vp_in p1 (mlen 15) from h.1) dX12_judge_104 ?_
              replace h := h.2
              refine z_bipush (v := 6) O dX12_judge_105 rfl ?_
              refine z_icmp_le O 115 dX12_judge_107 (by decide) (fun c6 => ?_) (fun c6 => ?_)
              · replace h := h.1 c6
                refine z_bipush (v := -4) O dX12_judge_115 rfl ?_
                exact z_retWR O hE (Nat.le_of_ble_eq_true rfl) (Nat.le_of_ble_eq_true rfl) rfl dX12_judge_117 h
              · replace h := h.2 c6
                refine z_bipush (v := 6) O dX12_judge_110 rfl ?_
                refine z_goto O 117 dX12_judge_112 (by decide) ?_
                exact z_retWR O hE (Nat.le_of_ble_eq_true rfl) (Nat.le_of_ble_eq_true rfl) rfl dX12_judge_117 h
            · replace h := h.2 c7
              refine z_aload_n O dX12_judge_90 0 rfl ?_
              refine z_getf O hK.1 (hX _) (by decide) me_0 rfl i12 26 (by decide) (by decide +kernel) rfl dX12_judge_91 ?_
              refine z_iload_n O dX12_judge_94 1 rfl ?_
              refine z_iald O hK.1 (hX _) 0 (mk_lt mk_15) (me_A mk_15) rfl (show vp_in p1 (mlen 15) from h.1) dX12_judge_95 ?_
              replace h := h.2
              refine z_goto O 117 dX12_judge_96 (by decide) ?_
              exact z_retWR O hE (Nat.le_of_ble_eq_true rfl) (Nat.le_of_ble_eq_true rfl) rfl dX12_judge_117 h
          · replace h := h.2 c12
            refine z_aload_n O dX12_judge_35 0 rfl ?_
            refine z_getf O hK.1 (hX _) (by decide) me_0 rfl i12 27 (by decide) (by decide +kernel) rfl dX12_judge_36 ?_
            refine z_bipush (v := 100) O dX12_judge_39 rfl ?_
            refine z_iload_n O dX12_judge_41 1 rfl ?_
            refine z_imul O dX12_judge_42 ?_
            refine z_iload_n O dX12_judge_43 2 rfl ?_
            refine z_iadd O dX12_judge_44 ?_
            refine z_lald O hK.1 (hX _) 4 (by decide) me_16 rfl (show vp_in ((100 * p1) + y3) (mlen 16) from h.1) dX12_judge_45 ?_
            replace h := h.2
            refine z_lstore (lv' := [(4, .long (x1.2.2.1 16 (Int32.toNatClampNeg ((100 * p1) + y3)))), (0, .ref (ad 0)), (1, .int p1), (3, .int y3)]) O dX12_judge_46 (by decide) rfl ?_
            refine z_lload O dX12_judge_48 0 rfl ?_
            refine z_aload_n O dX12_judge_50 1 rfl ?_
            refine z_iload_n O dX12_judge_51 2 rfl ?_
            refine z_callL (gKs D cs) hK (fun _ h => h) (t_X12_skippedIn x1  p1 _ h) (zr_V (As := [.int p1]) (rest := [.long (x1.2.2.1 16 (Int32.toNatClampNeg ((100 * p1) + y3)))]) O hE.1 1 gX12_judge_X12_skippedIn rfl rfl rfl (by decide +kernel) ⟨(Nat.le_of_ble_eq_true rfl), (Nat.le_of_ble_eq_true rfl)⟩ ⟨(Nat.le_of_ble_eq_true rfl), (Nat.le_of_ble_eq_true rfl)⟩ (fun H hH => z_recv hK.1 (hX _ H hH) (by decide) me_0 rfl) rfl rfl (Nat.le_of_ble_eq_true rfl) dX12_judge_52) (fun r8 h => ?_)
            refine z_lcmp O dX12_judge_55 ?_
            refine z_if_eq O 73 dX12_judge_56 (by decide) (fun c11 => ?_) (fun c11 => ?_)
            · replace h := h.1 c11
              refine z_iinc (lv' := [(3, .int (y3 + 1)), (4, .long (x1.2.2.1 16 (Int32.toNatClampNeg ((100 * p1) + y3)))), (0, .ref (ad 0)), (1, .int p1)]) O dX12_judge_73 3 rfl rfl (by decide) rfl ?_
              refine z_goto O 19 dX12_judge_76 (by decide) ?_
              exact z_sub [2, 3, 0] rfl (iI19 (y3 + 1) (Nat.lt_of_lt_of_le h.2 (Nat.le_of_lt_succ uI19)) h.1)
            · replace h := h.2 c11
              refine z_lload O dX12_judge_59 0 rfl ?_
              refine z_aload_n O dX12_judge_61 1 rfl ?_
              refine z_iload_n O dX12_judge_62 3 rfl ?_
              refine z_callR (gKs D cs) hK (fun _ h => h) (t_X12_iceOf x1  y3 _ h) (zr_V (As := [.int y3]) (rest := [.long (x1.2.2.1 16 (Int32.toNatClampNeg ((100 * p1) + y3)))]) O hE.1 1 gX12_judge_X12_iceOf rfl rfl rfl (by decide +kernel) ⟨(Nat.le_of_ble_eq_true rfl), (Nat.le_of_ble_eq_true rfl)⟩ ⟨(Nat.le_of_ble_eq_true rfl), (Nat.le_of_ble_eq_true rfl)⟩ (fun H hH => z_recv hK.1 (hX _ H hH) (by decide) me_0 rfl) rfl rfl (Nat.le_of_ble_eq_true rfl) dX12_judge_63) (fun r9 h => ?_)
              refine z_i2l O dX12_judge_66 ?_
              refine z_lcmp O dX12_judge_67 ?_
              refine z_if_eq O 73 dX12_judge_68 (by decide) (fun c10 => ?_) (fun c10 => ?_)
              · replace h := h.1 c10
                refine z_iinc (lv' := [(3, .int (y3 + 1)), (4, .long (x1.2.2.1 16 (Int32.toNatClampNeg ((100 * p1) + y3)))), (0, .ref (ad 0)), (1, .int p1)]) O dX12_judge_73 3 rfl rfl (by decide) rfl ?_
                refine z_goto O 19 dX12_judge_76 (by decide) ?_
                exact z_sub [2, 3, 0] rfl (iI19 (y3 + 1) (Nat.lt_of_lt_of_le h.2 (Nat.le_of_lt_succ uI19)) h.1)
              · replace h := h.2 c10
                refine z_iload_n O dX12_judge_71 3 rfl ?_
                exact z_retWR O hE (Nat.le_of_ble_eq_true rfl) (Nat.le_of_ble_eq_true rfl) rfl dX12_judge_72 h
    exact z_sub [2, 3, 0] rfl (kI19 _ 0 (Nat.lt_succ_self _) h0)
  · replace h := h.2 c14
    refine z_iload_n O dX12_judge_15 0 rfl ?_
    exact z_retWR O hE (Nat.le_of_ble_eq_true rfl) (Nat.le_of_ble_eq_true rfl) rfl dX12_judge_16 h
def wp_X12_count (x : MS)  (p1 : Int32) (Q : Int32 → MS → Prop) : Prop :=
 (∀ x1 : MS, x1 = mI x 6 0 →
 (∃ (I12 : Int32 → Int32 → Int32 → Prop) (U12 : Int32 → Int32 → Int32 → Nat), I12 0 0 0 ∧ ∀ (y2 : Int32) (y3 : Int32) (y4 : Int32), I12 y2 y3 y4 →
 ((6 ≤ y4 →
 ((p1 = 0 →
 Q (x1.1 0) x1) ∧ (¬ p1 = 0 →
 ((p1 = 1 →
 Q y2 x1) ∧ (¬ p1 = 1 →
 ((p1 = 2 →
 wp_X12_iceOfAll x1  (fun r8 : Int32 =>
 Q r8 x1)) ∧ (¬ p1 = 2 →
 ((p1 = 3 →
 Q y3 x1) ∧ (¬ p1 = 3 →
 ((p1 = 4 →
 wp_X12_oathBits x1  (fun r11 : Int32 =>
 Q r11 x1)) ∧ (¬ p1 = 4 →
 Q (-1) x1))))))))))) ∧ (¬ 6 ≤ y4 →
 (vp_in y4 6 ∧
 (∃ (I32 : Int32 → Int32 → Prop) (U32 : Int32 → Int32 → Nat), I32 y3 0 ∧ ∀ (y12 : Int32) (y13 : Int32), I32 y12 y13 →
 (vp_in y4 6 ∧
 (((x1.2.1 1 (Int32.toNatClampNeg y4)) ≤ y13 →
 (I12 (y2 + (x1.2.1 1 (Int32.toNatClampNeg y4))) y12 (y4 + 1) ∧ U12 (y2 + (x1.2.1 1 (Int32.toNatClampNeg y4))) y12 (y4 + 1) < U12 y2 y3 y4)) ∧ (¬ (x1.2.1 1 (Int32.toNatClampNeg y4)) ≤ y13 →
 wp_X12_isRead x1 y4 y13 (fun r14 : Int32 =>
 ((r14 = 0 →
 (I32 (y12 + 0) (y13 + 1) ∧ U32 (y12 + 0) (y13 + 1) < U32 y12 y13)) ∧ (¬ r14 = 0 →
 (I32 (y12 + 1) (y13 + 1) ∧ U32 (y12 + 1) (y13 + 1) < U32 y12 y13)))))))))))))
set_option maxHeartbeats 4000000 in
set_option maxRecDepth 100000 in
theorem t_X12_count {l : Launch} {D : va_G} {cs : Nat → ClassId} {ad : Nat → Nat} (hI : wInj 18 ad) (x : MS)  (p1 : Int32) (Q : Int32 → MS → Prop) (h : wp_X12_count x  p1 Q) : zWR l yX12_count wsX12_count ({ frames := 2, cells := 0, slots := 0, locals := 47 } : Room) (gK D cs) (MH D cs ad) (wB 18 ad) x [.ref (ad 0), .int p1] 0 0 Q := by
  refine zWR_of (cc := cX12_count) (nL := 6) (ret := (some .int)) (by decide +kernel) rfl (Nat.le_of_ble_eq_true rfl) (fun C hl O hE hK => ?_)
  subst hl
  have hX : ∀ (x : MS) (H : Heap), MH D cs ad x H → va_P D vwCl (wl 18 ad (ME cs ad x)) H := fun _ _ h => h
  have hB : ∀ {x : MS} (H : Heap), va_P D vwCl (wl 18 ad (ME cs ad x)) H → MH D cs ad x H := fun _ h => h
  have hA : ∀ q, wB 18 ad q → zA (wB 18 ad) C.s.heap.size q := fun _ h => Or.inl h
  have i12 : ∀ w ∈ wsX120, w ∈ wsX12_count := by decide +kernel
  refine z_sub (lv' := [(0, .ref (ad 0)), (1, .int p1)]) [0, 1] rfl ?_
  refine z_aload_n O dX12_count_0 0 rfl ?_
  refine z_iconst (v := 0) O dX12_count_1 rfl ?_
  obtain ⟨x1, ex1⟩ : ∃ z, z = mI x 6 0 := ⟨_, rfl⟩
  replace h := h x1 ex1
  refine z_putf (x' := x1) (ty := .int) O hK.1 (hX _) hB hI hA (by decide) me_0 rfl i12 tyX12 tyX12_ok nmX12 6 (by decide) (by decide +kernel) rfl (by decide +kernel) rfl rfl (Nat.le_of_ble_eq_true rfl) (by rw [ex1]; exact me_put rfl rfl rfl) dX12_count_2 ?_
  refine z_iconst (v := 0) O dX12_count_5 rfl ?_
  refine z_istore_n (lv' := [(2, .int 0), (0, .ref (ad 0)), (1, .int p1)]) O dX12_count_6 (by decide) rfl ?_
  refine z_iconst (v := 0) O dX12_count_7 rfl ?_
  refine z_istore_n (lv' := [(3, .int 0), (2, .int 0), (0, .ref (ad 0)), (1, .int p1)]) O dX12_count_8 (by decide) rfl ?_
  refine z_iconst (v := 0) O dX12_count_9 rfl ?_
  refine z_istore (lv' := [(4, .int 0), (3, .int 0), (2, .int 0), (0, .ref (ad 0)), (1, .int p1)]) O dX12_count_10 (by decide) rfl ?_
  obtain ⟨I12, U12, h0, hs⟩ := h
  have kI12 : ∀ (n : Nat) (y2 : Int32) (y3 : Int32) (y4 : Int32), U12 y2 y3 y4 < n → I12 y2 y3 y4 → Z C (zA (wB 18 ad) C.s.heap.size) (MH D cs ad) 6 x1 [(0, .ref (ad 0)), (1, .int p1), (2, .int y2), (3, .int y3), (4, .int y4)] 0 0 12 [] := by
    intro n
    induction n with
    | zero => intro y2 y3 y4 uI12; exact absurd uI12 (Nat.not_lt_zero _)
    | succ n iI12 =>
      intro y2 y3 y4 uI12 h
      have h := hs y2 y3 y4 h
      refine z_iload O dX12_count_12 4 rfl ?_
      refine z_bipush (v := 6) O dX12_count_14 rfl ?_
      refine z_icmp_ge O 75 dX12_count_16 (by decide) (fun c17 => ?_) (fun c17 => ?_)
      · replace h := h.1 c17
        refine z_iload_n O dX12_count_75 1 rfl ?_
        by_cases c5 : p1 = 0
        · replace h := h.1 c5
          refine z_tableIn (v := 0) (off := 36) O 112 dX12_count_76 c5 (by decide) (by decide) (by decide) (by decide) ?_
          refine z_aload_n O dX12_count_112 0 rfl ?_
          refine z_getf O hK.1 (hX _) (by decide) me_0 rfl i12 0 (by decide) (by decide +kernel) rfl dX12_count_113 ?_
          exact z_retWR O hE (Nat.le_of_ble_eq_true rfl) (Nat.le_of_ble_eq_true rfl) rfl dX12_count_116 h
        replace h := h.2 c5
        by_cases c6 : p1 = 1
        · replace h := h.1 c6
          refine z_tableIn (v := 1) (off := 41) O 117 dX12_count_76 c6 (by decide) (by decide) (by decide) (by decide) ?_
          refine z_iload_n O dX12_count_117 2 rfl ?_
          exact z_retWR O hE (Nat.le_of_ble_eq_true rfl) (Nat.le_of_ble_eq_true rfl) rfl dX12_count_118 h
        replace h := h.2 c6
        by_cases c7 : p1 = 2
        · replace h := h.1 c7
          refine z_tableIn (v := 2) (off := 43) O 119 dX12_count_76 c7 (by decide) (by decide) (by decide) (by decide) ?_
          refine z_aload_n O dX12_count_119 0 rfl ?_
          refine z_callR (gKs D cs) hK (fun _ h => h) (t_X12_iceOfAll x1   _ h) (zr_V (As := []) (rest := []) O hE.1 0 gX12_count_X12_iceOfAll rfl rfl rfl (by decide +kernel) ⟨(Nat.le_of_ble_eq_true rfl), (Nat.le_of_ble_eq_true rfl)⟩ ⟨(Nat.le_of_ble_eq_true rfl), (Nat.le_of_ble_eq_true rfl)⟩ (fun H hH => z_recv hK.1 (hX _ H hH) (by decide) me_0 rfl) rfl rfl (Nat.le_of_ble_eq_true rfl) dX12_count_120) (fun r8 h => ?_)
          exact z_retWR O hE (Nat.le_of_ble_eq_true rfl) (Nat.le_of_ble_eq_true rfl) rfl dX12_count_123 h
        replace h := h.2 c7
        by_cases c9 : p1 = 3
        · replace h := h.1 c9
          refine z_tableIn (v := 3) (off := 48) O 124 dX12_count_76 c9 (by decide) (by decide) (by decide) (by decide) ?_
          refine z_iload_n O dX12_count_124 3 rfl ?_
          exact z_retWR O hE (Nat.le_of_ble_eq_true rfl) (Nat.le_of_ble_eq_true rfl) rfl dX12_count_125 h
        replace h := h.2 c9
        by_cases c10 : p1 = 4
        · replace h := h.1 c10
          refine z_tableIn (v := 4) (off := 50) O 126 dX12_count_76 c10 (by decide) (by decide) (by decide) (by decide) ?_
          refine z_aload_n O dX12_count_126 0 rfl ?_
          refine z_callR (gKs D cs) hK (fun _ h => h) (t_X12_oathBits x1   _ h) (zr_V (As := []) (rest := []) O hE.1 0 gX12_count_X12_oathBits rfl rfl rfl (by decide +kernel) ⟨(Nat.le_of_ble_eq_true rfl), (Nat.le_of_ble_eq_true rfl)⟩ ⟨(Nat.le_of_ble_eq_true rfl), (Nat.le_of_ble_eq_true rfl)⟩ (fun H hH => z_recv hK.1 (hX _ H hH) (by decide) me_0 rfl) rfl rfl (Nat.le_of_ble_eq_true rfl) dX12_count_127) (fun r11 h => ?_)
          exact z_retWR O hE (Nat.le_of_ble_eq_true rfl) (Nat.le_of_ble_eq_true rfl) rfl dX12_count_130 h
        replace h := h.2 c10
        refine z_tableOut O 131 dX12_count_76 (by have gc5 := lv_neT (a := 0) c5 (by decide); have gc6 := lv_neT (a := 1) c6 (by decide); have gc7 := lv_neT (a := 2) c7 (by decide); have gc9 := lv_neT (a := 3) c9 (by decide); have gc10 := lv_neT (a := 4) c10 (by decide); omega) (by decide) ?_
        refine z_iconst (v := -1) O dX12_count_131 rfl ?_
        exact z_retWR O hE (Nat.le_of_ble_eq_true rfl) (Nat.le_of_ble_eq_true rfl) rfl dX12_count_132 h
      · replace h := h.2 c17
        refine z_iload_n O dX12_count_19 2 rfl ?_
        refine z_aload_n O dX12_count_20 0 rfl ?_
        refine z_getf O hK.1 (hX _) (by decide) me_0 rfl i12 1 (by decide) (by decide +kernel) rfl dX12_count_21 ?_
        refine z_iload O dX12_count_24 4 rfl ?_
        refine z_iald O hK.1 (hX _) 0 (mk_lt mk_1) (me_A mk_1) rfl (show vp_in y4 (mlen 1) from h.1) dX12_count_26 ?_
        replace h := h.2
        refine z_iadd O dX12_count_27 ?_
        refine z_istore_n (lv' := [(2, .int (y2 + (x1.2.1 1 (Int32.toNatClampNeg y4)))), (0, .ref (ad 0)), (1, .int p1), (3, .int y3), (4, .int y4)]) O dX12_count_28 (by decide) rfl ?_
        refine z_iconst (v := 0) O dX12_count_29 rfl ?_
        refine z_istore (lv' := [(5, .int 0), (2, .int (y2 + (x1.2.1 1 (Int32.toNatClampNeg y4)))), (0, .ref (ad 0)), (1, .int p1), (3, .int y3), (4, .int y4)]) O dX12_count_30 (by decide) rfl ?_
        obtain ⟨I32, U32, h0, hs⟩ := h
        have kI32 : ∀ (n : Nat) (y12 : Int32) (y13 : Int32), U32 y12 y13 < n → I32 y12 y13 → Z C (zA (wB 18 ad) C.s.heap.size) (MH D cs ad) 6 x1 [(0, .ref (ad 0)), (1, .int p1), (2, .int (y2 + (x1.2.1 1 (Int32.toNatClampNeg y4)))), (3, .int y12), (4, .int y4), (5, .int y13)] 0 0 32 [] := by
          intro n
          induction n with
          | zero => intro y12 y13 uI32; exact absurd uI32 (Nat.not_lt_zero _)
          | succ n iI32 =>
            intro y12 y13 uI32 h
            have h := hs y12 y13 h
            refine z_iload O dX12_count_32 5 rfl ?_
            refine z_aload_n O dX12_count_34 0 rfl ?_
            refine z_getf O hK.1 (hX _) (by decide) me_0 rfl i12 1 (by decide) (by decide +kernel) rfl dX12_count_35 ?_
            refine z_iload O dX12_count_38 4 rfl ?_
            refine z_iald O hK.1 (hX _) 0 (mk_lt mk_1) (me_A mk_1) rfl (show vp_in y4 (mlen 1) from h.1) dX12_count_40 ?_
            replace h := h.2
            refine z_icmp_ge O 69 dX12_count_41 (by decide) (fun c16 => ?_) (fun c16 => ?_)
            · replace h := h.1 c16
              refine z_iinc (lv' := [(4, .int (y4 + 1)), (0, .ref (ad 0)), (1, .int p1), (2, .int (y2 + (x1.2.1 1 (Int32.toNatClampNeg y4)))), (3, .int y12), (5, .int y13)]) O dX12_count_69 4 rfl rfl (by decide) rfl ?_
              refine z_goto O 12 dX12_count_72 (by decide) ?_
              exact z_sub [1, 2, 3, 4, 0] rfl (iI12 (y2 + (x1.2.1 1 (Int32.toNatClampNeg y4))) y12 (y4 + 1) (Nat.lt_of_lt_of_le h.2 (Nat.le_of_lt_succ uI12)) h.1)
            · replace h := h.2 c16
              refine z_iload_n O dX12_count_44 3 rfl ?_
              refine z_aload_n O dX12_count_45 0 rfl ?_
              refine z_iload O dX12_count_46 4 rfl ?_
              refine z_iload O dX12_count_48 5 rfl ?_
              refine z_callR (gKs D cs) hK (fun _ h => h) (t_X12_isRead x1  y4 y13 _ h) (zr_V (As := [.int y4, .int y13]) (rest := [.int y12]) O hE.1 2 gX12_count_X12_isRead rfl rfl rfl (by decide +kernel) ⟨(Nat.le_of_ble_eq_true rfl), (Nat.le_of_ble_eq_true rfl)⟩ ⟨(Nat.le_of_ble_eq_true rfl), (Nat.le_of_ble_eq_true rfl)⟩ (fun H hH => z_recv hK.1 (hX _ H hH) (by decide) me_0 rfl) rfl rfl (Nat.le_of_ble_eq_true rfl) dX12_count_50) (fun r14 h => ?_)
              refine z_if_eq O 60 dX12_count_53 (by decide) (fun c15 => ?_) (fun c15 => ?_)
              · replace h := h.1 c15
                refine z_iconst (v := 0) O dX12_count_60 rfl ?_
                refine z_iadd O dX12_count_61 ?_
                refine z_istore_n (lv' := [(3, .int (y12 + 0)), (0, .ref (ad 0)), (1, .int p1), (2, .int (y2 + (x1.2.1 1 (Int32.toNatClampNeg y4)))), (4, .int y4), (5, .int y13)]) O dX12_count_62 (by decide) rfl ?_
                refine z_iinc (lv' := [(5, .int (y13 + 1)), (3, .int (y12 + 0)), (0, .ref (ad 0)), (1, .int p1), (2, .int (y2 + (x1.2.1 1 (Int32.toNatClampNeg y4)))), (4, .int y4)]) O dX12_count_63 5 rfl rfl (by decide) rfl ?_
                refine z_goto O 32 dX12_count_66 (by decide) ?_
                exact z_sub [2, 3, 4, 1, 5, 0] rfl (iI32 (y12 + 0) (y13 + 1) (Nat.lt_of_lt_of_le h.2 (Nat.le_of_lt_succ uI32)) h.1)
              · replace h := h.2 c15
                refine z_iconst (v := 1) O dX12_count_56 rfl ?_
                refine z_goto O 61 dX12_count_57 (by decide) ?_
                refine z_iadd O dX12_count_61 ?_
                refine z_istore_n (lv' := [(3, .int (y12 + 1)), (0, .ref (ad 0)), (1, .int p1), (2, .int (y2 + (x1.2.1 1 (Int32.toNatClampNeg y4)))), (4, .int y4), (5, .int y13)]) O dX12_count_62 (by decide) rfl ?_
                refine z_iinc (lv' := [(5, .int (y13 + 1)), (3, .int (y12 + 1)), (0, .ref (ad 0)), (1, .int p1), (2, .int (y2 + (x1.2.1 1 (Int32.toNatClampNeg y4)))), (4, .int y4)]) O dX12_count_63 5 rfl rfl (by decide) rfl ?_
                refine z_goto O 32 dX12_count_66 (by decide) ?_
                exact z_sub [2, 3, 4, 1, 5, 0] rfl (iI32 (y12 + 1) (y13 + 1) (Nat.lt_of_lt_of_le h.2 (Nat.le_of_lt_succ uI32)) h.1)
        exact z_sub [2, 3, 1, 4, 5, 0] rfl (kI32 _ y3 0 (Nat.lt_succ_self _) h0)
  exact z_sub [3, 4, 2, 1, 0] rfl (kI12 _ 0 0 0 (Nat.lt_succ_self _) h0)
def wp_X12_keep (x : MS)  (p1 : Int32) (p2 : Int32) (p3 : Int32) (p4 : Int32) (Q : Int32 → MS → Prop) : Prop :=
 (∀ x1 : MS, x1 = mI x 6 0 →
 wp_X12_in (Int32.toInt64 p1) 0 7 (fun r2 : Int32 =>
 ((r2 = 0 →
 Q (-1) x1) ∧ (¬ r2 = 0 →
 wp_X12_in (Int32.toInt64 p2) 0 1 (fun r3 : Int32 =>
 ((r3 = 0 →
 Q (-1) x1) ∧ (¬ r3 = 0 →
 ((¬ p2 = 1 →
 (vp_in p1 8 ∧
 ∀ x4 : MS, x4 = mA x1 11 (upd (x1.2.1 11) (Int32.toNatClampNeg p1) p2) →
 ((¬ p2 = 1 →
 (vp_in p1 8 ∧
 ∀ x5 : MS, x5 = mA x4 12 (upd (x4.2.1 12) (Int32.toNatClampNeg p1) 0) →
 ((¬ p2 = 1 →
 (vp_in p1 8 ∧
 ∀ x6 : MS, x6 = mA x5 13 (upd (x5.2.1 13) (Int32.toNatClampNeg p1) 0) →
 Q 0 x6)) ∧ (p2 = 1 →
 (vp_in p1 8 ∧
 ∀ x7 : MS, x7 = mA x5 13 (upd (x5.2.1 13) (Int32.toNatClampNeg p1) p4) →
 Q 0 x7))))) ∧ (p2 = 1 →
 (vp_in p1 8 ∧
 ∀ x9 : MS, x9 = mA x4 12 (upd (x4.2.1 12) (Int32.toNatClampNeg p1) p3) →
 ((¬ p2 = 1 →
 (vp_in p1 8 ∧
 ∀ x10 : MS, x10 = mA x9 13 (upd (x9.2.1 13) (Int32.toNatClampNeg p1) 0) →
 Q 0 x10)) ∧ (p2 = 1 →
 (vp_in p1 8 ∧
 ∀ x11 : MS, x11 = mA x9 13 (upd (x9.2.1 13) (Int32.toNatClampNeg p1) p4) →
 Q 0 x11)))))))) ∧ (p2 = 1 →
 wp_X12_in (Int32.toInt64 p3) 0 7 (fun r14 : Int32 =>
 ((r14 = 0 →
 Q (-1) x1) ∧ (¬ r14 = 0 →
 wp_X12_in (Int32.toInt64 p4) 0 9 (fun r15 : Int32 =>
 ((¬ r15 = 0 →
 (vp_in p1 8 ∧
 ∀ x16 : MS, x16 = mA x1 11 (upd (x1.2.1 11) (Int32.toNatClampNeg p1) p2) →
 ((¬ p2 = 1 →
 (vp_in p1 8 ∧
 ∀ x17 : MS, x17 = mA x16 12 (upd (x16.2.1 12) (Int32.toNatClampNeg p1) 0) →
 ((¬ p2 = 1 →
 (vp_in p1 8 ∧
 ∀ x18 : MS, x18 = mA x17 13 (upd (x17.2.1 13) (Int32.toNatClampNeg p1) 0) →
 Q 0 x18)) ∧ (p2 = 1 →
 (vp_in p1 8 ∧
 ∀ x19 : MS, x19 = mA x17 13 (upd (x17.2.1 13) (Int32.toNatClampNeg p1) p4) →
 Q 0 x19))))) ∧ (p2 = 1 →
 (vp_in p1 8 ∧
 ∀ x21 : MS, x21 = mA x16 12 (upd (x16.2.1 12) (Int32.toNatClampNeg p1) p3) →
 ((¬ p2 = 1 →
 (vp_in p1 8 ∧
 ∀ x22 : MS, x22 = mA x21 13 (upd (x21.2.1 13) (Int32.toNatClampNeg p1) 0) →
 Q 0 x22)) ∧ (p2 = 1 →
 (vp_in p1 8 ∧
 ∀ x23 : MS, x23 = mA x21 13 (upd (x21.2.1 13) (Int32.toNatClampNeg p1) p4) →
 Q 0 x23)))))))) ∧ (r15 = 0 →
 Q (-1) x1)))))))))))))))
set_option maxHeartbeats 4000000 in
set_option maxRecDepth 100000 in
theorem t_X12_keep {l : Launch} {D : va_G} {cs : Nat → ClassId} {ad : Nat → Nat} (hI : wInj 18 ad) (x : MS)  (p1 : Int32) (p2 : Int32) (p3 : Int32) (p4 : Int32) (Q : Int32 → MS → Prop) (h : wp_X12_keep x  p1 p2 p3 p4 Q) : zWR l yX12_keep wsX12_keep ({ frames := 1, cells := 0, slots := 0, locals := 25 } : Room) (gK D cs) (MH D cs ad) (wB 18 ad) x [.ref (ad 0), .int p1, .int p2, .int p3, .int p4] 0 0 Q := by
  refine zWR_of (cc := cX12_keep) (nL := 5) (ret := (some .int)) (by decide +kernel) rfl (Nat.le_of_ble_eq_true rfl) (fun C hl O hE hK => ?_)
  subst hl
  have hX : ∀ (x : MS) (H : Heap), MH D cs ad x H → va_P D vwCl (wl 18 ad (ME cs ad x)) H := fun _ _ h => h
  have hB : ∀ {x : MS} (H : Heap), va_P D vwCl (wl 18 ad (ME cs ad x)) H → MH D cs ad x H := fun _ h => h
  have hA : ∀ q, wB 18 ad q → zA (wB 18 ad) C.s.heap.size q := fun _ h => Or.inl h
  have i12 : ∀ w ∈ wsX120, w ∈ wsX12_keep := by decide +kernel
  refine z_sub (lv' := [(0, .ref (ad 0)), (1, .int p1), (2, .int p2), (3, .int p3), (4, .int p4)]) [0, 1, 2, 3, 4] rfl ?_
  refine z_aload_n O dX12_keep_0 0 rfl ?_
  refine z_iconst (v := 0) O dX12_keep_1 rfl ?_
  obtain ⟨x1, ex1⟩ : ∃ z, z = mI x 6 0 := ⟨_, rfl⟩
  replace h := h x1 ex1
  refine z_putf (x' := x1) (ty := .int) O hK.1 (hX _) hB hI hA (by decide) me_0 rfl i12 tyX12 tyX12_ok nmX12 6 (by decide) (by decide +kernel) rfl (by decide +kernel) rfl rfl (Nat.le_of_ble_eq_true rfl) (by rw [ex1]; exact me_put rfl rfl rfl) dX12_keep_2 ?_
  refine z_iload_n O dX12_keep_5 1 rfl ?_
  refine z_i2l O dX12_keep_6 ?_
  refine z_lconst (v := 0) O dX12_keep_7 rfl ?_
  refine z_ldc2 (v := 7) O (by decide +kernel) dX12_keep_8 ?_
  refine z_callR (gKs D cs) hK (fun _ h => h) (t_X12_in (gKs D cs) (Int32.toInt64 p1) 0 7 _ h) (zr_SS (As := [.long (Int32.toInt64 p1), .long 0, .long 7]) (rest := []) O hE.1 3 gX12_keep_X12_in rfl rfl rfl (by decide +kernel) ⟨(Nat.le_of_ble_eq_true rfl), (Nat.le_of_ble_eq_true rfl)⟩ ⟨(Nat.le_of_ble_eq_true rfl), (Nat.le_of_ble_eq_true rfl)⟩ rfl rfl (Nat.le_of_ble_eq_true rfl) dX12_keep_11) (fun r2 h => ?_)
  refine z_if_eq O 57 dX12_keep_14 (by decide) (fun c30 => ?_) (fun c30 => ?_)
  · replace h := h.1 c30
    refine z_iconst (v := -1) O dX12_keep_57 rfl ?_
    exact z_retWR O hE (Nat.le_of_ble_eq_true rfl) (Nat.le_of_ble_eq_true rfl) rfl dX12_keep_58 h
  · replace h := h.2 c30
    refine z_iload_n O dX12_keep_17 2 rfl ?_
    refine z_i2l O dX12_keep_18 ?_
    refine z_lconst (v := 0) O dX12_keep_19 rfl ?_
    refine z_lconst (v := 1) O dX12_keep_20 rfl ?_
    refine z_callR (gKs D cs) hK (fun _ h => h) (t_X12_in (gKs D cs) (Int32.toInt64 p2) 0 1 _ h) (zr_SS (As := [.long (Int32.toInt64 p2), .long 0, .long 1]) (rest := []) O hE.1 3 gX12_keep_X12_in rfl rfl rfl (by decide +kernel) ⟨(Nat.le_of_ble_eq_true rfl), (Nat.le_of_ble_eq_true rfl)⟩ ⟨(Nat.le_of_ble_eq_true rfl), (Nat.le_of_ble_eq_true rfl)⟩ rfl rfl (Nat.le_of_ble_eq_true rfl) dX12_keep_21) (fun r3 h => ?_)
    refine z_if_eq O 57 dX12_keep_24 (by decide) (fun c29 => ?_) (fun c29 => ?_)
    · replace h := h.1 c29
      refine z_iconst (v := -1) O dX12_keep_57 rfl ?_
      exact z_retWR O hE (Nat.le_of_ble_eq_true rfl) (Nat.le_of_ble_eq_true rfl) rfl dX12_keep_58 h
    · replace h := h.2 c29
      refine z_iload_n O dX12_keep_27 2 rfl ?_
      refine z_iconst (v := 1) O dX12_keep_28 rfl ?_
      refine z_icmp_ne O 59 dX12_keep_29 (by decide) (fun c28 => ?_) (fun c28 => ?_)
      · replace h := h.1 c28
        refine z_aload_n O dX12_keep_59 0 rfl ?_
        refine z_getf O hK.1 (hX _) (by decide) me_0 rfl i12 22 (by decide) (by decide +kernel) rfl dX12_keep_60 ?_
        refine z_iload_n O dX12_keep_63 1 rfl ?_
        refine z_iload_n O dX12_keep_64 2 rfl ?_
        have hb0 := h.1
        replace h := h.2
        obtain ⟨x4, ex4⟩ : ∃ z, z = mA x1 11 (upd (x1.2.1 11) (Int32.toNatClampNeg p1) p2) := ⟨_, rfl⟩
        replace h := h x4 ex4
        refine z_iast (x' := x4) O hK.1 (hX _) hB hI hA 0 (mk_lt mk_11) (me_A mk_11) rfl (show vp_in p1 (mlen 11) from hb0) (by rw [ex4]; exact me_setA mk_11 _) dX12_keep_65 ?_
        refine z_aload_n O dX12_keep_66 0 rfl ?_
        refine z_getf O hK.1 (hX _) (by decide) me_0 rfl i12 23 (by decide) (by decide +kernel) rfl dX12_keep_67 ?_
        refine z_iload_n O dX12_keep_70 1 rfl ?_
        refine z_iload_n O dX12_keep_71 2 rfl ?_
        refine z_iconst (v := 1) O dX12_keep_72 rfl ?_
        refine z_icmp_ne O 80 dX12_keep_73 (by decide) (fun c13 => ?_) (fun c13 => ?_)
        · replace h := h.1 c13
          refine z_iconst (v := 0) O dX12_keep_80 rfl ?_
          have hb0 := h.1
          replace h := h.2
          obtain ⟨x5, ex5⟩ : ∃ z, z = mA x4 12 (upd (x4.2.1 12) (Int32.toNatClampNeg p1) 0) := ⟨_, rfl⟩
          replace h := h x5 ex5
          refine z_iast (x' := x5) O hK.1 (hX _) hB hI hA 0 (mk_lt mk_12) (me_A mk_12) rfl (show vp_in p1 (mlen 12) from hb0) (by rw [ex5]; exact me_setA mk_12 _) dX12_keep_81 ?_
          refine z_aload_n O dX12_keep_82 0 rfl ?_
          refine z_getf O hK.1 (hX _) (by decide) me_0 rfl i12 24 (by decide) (by decide +kernel) rfl dX12_keep_83 ?_
          refine z_iload_n O dX12_keep_86 1 rfl ?_
          refine z_iload_n O dX12_keep_87 2 rfl ?_
          refine z_iconst (v := 1) O dX12_keep_88 rfl ?_
          refine z_icmp_ne O 97 dX12_keep_89 (by decide) (fun c8 => ?_) (fun c8 => ?_)
          · replace h := h.1 c8
            refine z_iconst (v := 0) O dX12_keep_97 rfl ?_
            have hb0 := h.1
            replace h := h.2
            obtain ⟨x6, ex6⟩ : ∃ z, z = mA x5 13 (upd (x5.2.1 13) (Int32.toNatClampNeg p1) 0) := ⟨_, rfl⟩
            replace h := h x6 ex6
            refine z_iast (x' := x6) O hK.1 (hX _) hB hI hA 0 (mk_lt mk_13) (me_A mk_13) rfl (show vp_in p1 (mlen 13) from hb0) (by rw [ex6]; exact me_setA mk_13 _) dX12_keep_98 ?_
            refine z_iconst (v := 0) O dX12_keep_99 rfl ?_
            exact z_retWR O hE (Nat.le_of_ble_eq_true rfl) (Nat.le_of_ble_eq_true rfl) rfl dX12_keep_100 h
          · replace h := h.2 c8
            refine z_iload O dX12_keep_92 4 rfl ?_
            refine z_goto O 98 dX12_keep_94 (by decide) ?_
            have hb0 := h.1
            replace h := h.2
            obtain ⟨x7, ex7⟩ : ∃ z, z = mA x5 13 (upd (x5.2.1 13) (Int32.toNatClampNeg p1) p4) := ⟨_, rfl⟩
            replace h := h x7 ex7
            refine z_iast (x' := x7) O hK.1 (hX _) hB hI hA 0 (mk_lt mk_13) (me_A mk_13) rfl (show vp_in p1 (mlen 13) from hb0) (by rw [ex7]; exact me_setA mk_13 _) dX12_keep_98 ?_
            refine z_iconst (v := 0) O dX12_keep_99 rfl ?_
            exact z_retWR O hE (Nat.le_of_ble_eq_true rfl) (Nat.le_of_ble_eq_true rfl) rfl dX12_keep_100 h
        · replace h := h.2 c13
          refine z_iload_n O dX12_keep_76 3 rfl ?_
          refine z_goto O 81 dX12_keep_77 (by decide) ?_
          have hb0 := h.1
          replace h := h.2
          obtain ⟨x9, ex9⟩ : ∃ z, z = mA x4 12 (upd (x4.2.1 12) (Int32.toNatClampNeg p1) p3) := ⟨_, rfl⟩
          replace h := h x9 ex9
          refine z_iast (x' := x9) O hK.1 (hX _) hB hI hA 0 (mk_lt mk_12) (me_A mk_12) rfl (show vp_in p1 (mlen 12) from hb0) (by rw [ex9]; exact me_setA mk_12 _) dX12_keep_81 ?_
          refine z_aload_n O dX12_keep_82 0 rfl ?_
          refine z_getf O hK.1 (hX _) (by decide) me_0 rfl i12 24 (by decide) (by decide +kernel) rfl dX12_keep_83 ?_
          refine z_iload_n O dX12_keep_86 1 rfl ?_
          refine z_iload_n O dX12_keep_87 2 rfl ?_
          refine z_iconst (v := 1) O dX12_keep_88 rfl ?_
          refine z_icmp_ne O 97 dX12_keep_89 (by decide) (fun c12 => ?_) (fun c12 => ?_)
          · replace h := h.1 c12
            refine z_iconst (v := 0) O dX12_keep_97 rfl ?_
            have hb0 := h.1
            replace h := h.2
            obtain ⟨x10, ex10⟩ : ∃ z, z = mA x9 13 (upd (x9.2.1 13) (Int32.toNatClampNeg p1) 0) := ⟨_, rfl⟩
            replace h := h x10 ex10
            refine z_iast (x' := x10) O hK.1 (hX _) hB hI hA 0 (mk_lt mk_13) (me_A mk_13) rfl (show vp_in p1 (mlen 13) from hb0) (by rw [ex10]; exact me_setA mk_13 _) dX12_keep_98 ?_
            refine z_iconst (v := 0) O dX12_keep_99 rfl ?_
            exact z_retWR O hE (Nat.le_of_ble_eq_true rfl) (Nat.le_of_ble_eq_true rfl) rfl dX12_keep_100 h
          · replace h := h.2 c12
            refine z_iload O dX12_keep_92 4 rfl ?_
            refine z_goto O 98 dX12_keep_94 (by decide) ?_
            have hb0 := h.1
            replace h := h.2
            obtain ⟨x11, ex11⟩ : ∃ z, z = mA x9 13 (upd (x9.2.1 13) (Int32.toNatClampNeg p1) p4) := ⟨_, rfl⟩
            replace h := h x11 ex11
            refine z_iast (x' := x11) O hK.1 (hX _) hB hI hA 0 (mk_lt mk_13) (me_A mk_13) rfl (show vp_in p1 (mlen 13) from hb0) (by rw [ex11]; exact me_setA mk_13 _) dX12_keep_98 ?_
            refine z_iconst (v := 0) O dX12_keep_99 rfl ?_
            exact z_retWR O hE (Nat.le_of_ble_eq_true rfl) (Nat.le_of_ble_eq_true rfl) rfl dX12_keep_100 h
      · replace h := h.2 c28
        refine z_iload_n O dX12_keep_32 3 rfl ?_
        refine z_i2l O dX12_keep_33 ?_
        refine z_lconst (v := 0) O dX12_keep_34 rfl ?_
        refine z_ldc2 (v := 7) O (by decide +kernel) dX12_keep_35 ?_
        refine z_callR (gKs D cs) hK (fun _ h => h) (t_X12_in (gKs D cs) (Int32.toInt64 p3) 0 7 _ h) (zr_SS (As := [.long (Int32.toInt64 p3), .long 0, .long 7]) (rest := []) O hE.1 3 gX12_keep_X12_in rfl rfl rfl (by decide +kernel) ⟨(Nat.le_of_ble_eq_true rfl), (Nat.le_of_ble_eq_true rfl)⟩ ⟨(Nat.le_of_ble_eq_true rfl), (Nat.le_of_ble_eq_true rfl)⟩ rfl rfl (Nat.le_of_ble_eq_true rfl) dX12_keep_38) (fun r14 h => ?_)
        refine z_if_eq O 57 dX12_keep_41 (by decide) (fun c27 => ?_) (fun c27 => ?_)
        · replace h := h.1 c27
          refine z_iconst (v := -1) O dX12_keep_57 rfl ?_
          exact z_retWR O hE (Nat.le_of_ble_eq_true rfl) (Nat.le_of_ble_eq_true rfl) rfl dX12_keep_58 h
        · replace h := h.2 c27
          refine z_iload O dX12_keep_44 4 rfl ?_
          refine z_i2l O dX12_keep_46 ?_
          refine z_lconst (v := 0) O dX12_keep_47 rfl ?_
          refine z_ldc2 (v := 9) O (by decide +kernel) dX12_keep_48 ?_
          refine z_callR (gKs D cs) hK (fun _ h => h) (t_X12_in (gKs D cs) (Int32.toInt64 p4) 0 9 _ h) (zr_SS (As := [.long (Int32.toInt64 p4), .long 0, .long 9]) (rest := []) O hE.1 3 gX12_keep_X12_in rfl rfl rfl (by decide +kernel) ⟨(Nat.le_of_ble_eq_true rfl), (Nat.le_of_ble_eq_true rfl)⟩ ⟨(Nat.le_of_ble_eq_true rfl), (Nat.le_of_ble_eq_true rfl)⟩ rfl rfl (Nat.le_of_ble_eq_true rfl) dX12_keep_51) (fun r15 h => ?_)
          refine z_if_ne O 59 dX12_keep_54 (by decide) (fun c26 => ?_) (fun c26 => ?_)
          · replace h := h.1 c26
            refine z_aload_n O dX12_keep_59 0 rfl ?_
            refine z_getf O hK.1 (hX _) (by decide) me_0 rfl i12 22 (by decide) (by decide +kernel) rfl dX12_keep_60 ?_
            refine z_iload_n O dX12_keep_63 1 rfl ?_
            refine z_iload_n O dX12_keep_64 2 rfl ?_
            have hb0 := h.1
            replace h := h.2
            obtain ⟨x16, ex16⟩ : ∃ z, z = mA x1 11 (upd (x1.2.1 11) (Int32.toNatClampNeg p1) p2) := ⟨_, rfl⟩
            replace h := h x16 ex16
            refine z_iast (x' := x16) O hK.1 (hX _) hB hI hA 0 (mk_lt mk_11) (me_A mk_11) rfl (show vp_in p1 (mlen 11) from hb0) (by rw [ex16]; exact me_setA mk_11 _) dX12_keep_65 ?_
            refine z_aload_n O dX12_keep_66 0 rfl ?_
            refine z_getf O hK.1 (hX _) (by decide) me_0 rfl i12 23 (by decide) (by decide +kernel) rfl dX12_keep_67 ?_
            refine z_iload_n O dX12_keep_70 1 rfl ?_
            refine z_iload_n O dX12_keep_71 2 rfl ?_
            refine z_iconst (v := 1) O dX12_keep_72 rfl ?_
            refine z_icmp_ne O 80 dX12_keep_73 (by decide) (fun c25 => ?_) (fun c25 => ?_)
            · replace h := h.1 c25
              refine z_iconst (v := 0) O dX12_keep_80 rfl ?_
              have hb0 := h.1
              replace h := h.2
              obtain ⟨x17, ex17⟩ : ∃ z, z = mA x16 12 (upd (x16.2.1 12) (Int32.toNatClampNeg p1) 0) := ⟨_, rfl⟩
              replace h := h x17 ex17
              refine z_iast (x' := x17) O hK.1 (hX _) hB hI hA 0 (mk_lt mk_12) (me_A mk_12) rfl (show vp_in p1 (mlen 12) from hb0) (by rw [ex17]; exact me_setA mk_12 _) dX12_keep_81 ?_
              refine z_aload_n O dX12_keep_82 0 rfl ?_
              refine z_getf O hK.1 (hX _) (by decide) me_0 rfl i12 24 (by decide) (by decide +kernel) rfl dX12_keep_83 ?_
              refine z_iload_n O dX12_keep_86 1 rfl ?_
              refine z_iload_n O dX12_keep_87 2 rfl ?_
              refine z_iconst (v := 1) O dX12_keep_88 rfl ?_
              refine z_icmp_ne O 97 dX12_keep_89 (by decide) (fun c20 => ?_) (fun c20 => ?_)
              · replace h := h.1 c20
                refine z_iconst (v := 0) O dX12_keep_97 rfl ?_
                have hb0 := h.1
                replace h := h.2
                obtain ⟨x18, ex18⟩ : ∃ z, z = mA x17 13 (upd (x17.2.1 13) (Int32.toNatClampNeg p1) 0) := ⟨_, rfl⟩
                replace h := h x18 ex18
                refine z_iast (x' := x18) O hK.1 (hX _) hB hI hA 0 (mk_lt mk_13) (me_A mk_13) rfl (show vp_in p1 (mlen 13) from hb0) (by rw [ex18]; exact me_setA mk_13 _) dX12_keep_98 ?_
                refine z_iconst (v := 0) O dX12_keep_99 rfl ?_
                exact z_retWR O hE (Nat.le_of_ble_eq_true rfl) (Nat.le_of_ble_eq_true rfl) rfl dX12_keep_100 h
              · replace h := h.2 c20
                refine z_iload O dX12_keep_92 4 rfl ?_
                refine z_goto O 98 dX12_keep_94 (by decide) ?_
                have hb0 := h.1
                replace h := h.2
                obtain ⟨x19, ex19⟩ : ∃ z, z = mA x17 13 (upd (x17.2.1 13) (Int32.toNatClampNeg p1) p4) := ⟨_, rfl⟩
                replace h := h x19 ex19
                refine z_iast (x' := x19) O hK.1 (hX _) hB hI hA 0 (mk_lt mk_13) (me_A mk_13) rfl (show vp_in p1 (mlen 13) from hb0) (by rw [ex19]; exact me_setA mk_13 _) dX12_keep_98 ?_
                refine z_iconst (v := 0) O dX12_keep_99 rfl ?_
                exact z_retWR O hE (Nat.le_of_ble_eq_true rfl) (Nat.le_of_ble_eq_true rfl) rfl dX12_keep_100 h
            · replace h := h.2 c25
              refine z_iload_n O dX12_keep_76 3 rfl ?_
              refine z_goto O 81 dX12_keep_77 (by decide) ?_
              have hb0 := h.1
              replace h := h.2
              obtain ⟨x21, ex21⟩ : ∃ z, z = mA x16 12 (upd (x16.2.1 12) (Int32.toNatClampNeg p1) p3) := ⟨_, rfl⟩
              replace h := h x21 ex21
              refine z_iast (x' := x21) O hK.1 (hX _) hB hI hA 0 (mk_lt mk_12) (me_A mk_12) rfl (show vp_in p1 (mlen 12) from hb0) (by rw [ex21]; exact me_setA mk_12 _) dX12_keep_81 ?_
              refine z_aload_n O dX12_keep_82 0 rfl ?_
              refine z_getf O hK.1 (hX _) (by decide) me_0 rfl i12 24 (by decide) (by decide +kernel) rfl dX12_keep_83 ?_
              refine z_iload_n O dX12_keep_86 1 rfl ?_
              refine z_iload_n O dX12_keep_87 2 rfl ?_
              refine z_iconst (v := 1) O dX12_keep_88 rfl ?_
              refine z_icmp_ne O 97 dX12_keep_89 (by decide) (fun c24 => ?_) (fun c24 => ?_)
              · replace h := h.1 c24
                refine z_iconst (v := 0) O dX12_keep_97 rfl ?_
                have hb0 := h.1
                replace h := h.2
                obtain ⟨x22, ex22⟩ : ∃ z, z = mA x21 13 (upd (x21.2.1 13) (Int32.toNatClampNeg p1) 0) := ⟨_, rfl⟩
                replace h := h x22 ex22
                refine z_iast (x' := x22) O hK.1 (hX _) hB hI hA 0 (mk_lt mk_13) (me_A mk_13) rfl (show vp_in p1 (mlen 13) from hb0) (by rw [ex22]; exact me_setA mk_13 _) dX12_keep_98 ?_
                refine z_iconst (v := 0) O dX12_keep_99 rfl ?_
                exact z_retWR O hE (Nat.le_of_ble_eq_true rfl) (Nat.le_of_ble_eq_true rfl) rfl dX12_keep_100 h
              · replace h := h.2 c24
                refine z_iload O dX12_keep_92 4 rfl ?_
                refine z_goto O 98 dX12_keep_94 (by decide) ?_
                have hb0 := h.1
                replace h := h.2
                obtain ⟨x23, ex23⟩ : ∃ z, z = mA x21 13 (upd (x21.2.1 13) (Int32.toNatClampNeg p1) p4) := ⟨_, rfl⟩
                replace h := h x23 ex23
                refine z_iast (x' := x23) O hK.1 (hX _) hB hI hA 0 (mk_lt mk_13) (me_A mk_13) rfl (show vp_in p1 (mlen 13) from hb0) (by rw [ex23]; exact me_setA mk_13 _) dX12_keep_98 ?_
                refine z_iconst (v := 0) O dX12_keep_99 rfl ?_
                exact z_retWR O hE (Nat.le_of_ble_eq_true rfl) (Nat.le_of_ble_eq_true rfl) rfl dX12_keep_100 h
          · replace h := h.2 c26
            refine z_iconst (v := -1) O dX12_keep_57 rfl ?_
            exact z_retWR O hE (Nat.le_of_ble_eq_true rfl) (Nat.le_of_ble_eq_true rfl) rfl dX12_keep_58 h
def wp_X12_narrowed   (p0 : Int32) (p1 : Int32) (Q : Int64 → Prop) : Prop :=
 ((¬ p1 = 0 →
 ((¬ p1 = 1 →
 Q (Int32.toInt64 p0)) ∧ (p1 = 1 →
 Q (Int32.toInt64 p0.toInt16.toInt32)))) ∧ (p1 = 0 →
 Q (Int32.toInt64 p0.toInt8.toInt32)))
set_option maxHeartbeats 4000000 in
set_option maxRecDepth 100000 in
theorem t_X12_narrowed {σ : Type} {l : Launch} {Ks : State → Prop} (hKs : zKs Ks) {Hx : σ → Heap → Prop} {x : σ} (p0 : Int32) (p1 : Int32) (Q : Int64 → Prop) (h : wp_X12_narrowed  p0 p1 Q) : zML l yX12_narrowed wsX12_narrowed ({ frames := 0, cells := 0, slots := 0, locals := 0 } : Room) Ks Hx x [.int p0, .int p1] Q := by
  refine zML_of (cc := cX12_narrowed) (nL := 2) (ret := (some .long)) (by decide +kernel) rfl (Nat.le_of_ble_eq_true rfl) (fun C hl O hE hK hH => ?_)
  subst hl
  refine z_sub (lv' := [(0, .int p0), (1, .int p1)]) [0, 1] rfl ?_
  refine z_iload_n O dX12_narrowed_0 1 rfl ?_
  refine z_if_ne O 10 dX12_narrowed_1 (by decide) (fun c2 => ?_) (fun c2 => ?_)
  · replace h := h.1 c2
    refine z_iload_n O dX12_narrowed_10 1 rfl ?_
    refine z_iconst (v := 1) O dX12_narrowed_11 rfl ?_
    refine z_icmp_ne O 21 dX12_narrowed_12 (by decide) (fun c1 => ?_) (fun c1 => ?_)
    · replace h := h.1 c1
      refine z_iload_n O dX12_narrowed_21 0 rfl ?_
      refine z_i2l O dX12_narrowed_22 ?_
      exact z_retL O hE (fun _ h => h.1) dX12_narrowed_23 h
    · replace h := h.2 c1
      refine z_iload_n O dX12_narrowed_15 0 rfl ?_
      refine z_i2s O dX12_narrowed_16 ?_
      refine z_i2l O dX12_narrowed_17 ?_
      refine z_goto O 23 dX12_narrowed_18 (by decide) ?_
      exact z_retL O hE (fun _ h => h.1) dX12_narrowed_23 h
  · replace h := h.2 c2
    refine z_iload_n O dX12_narrowed_4 0 rfl ?_
    refine z_i2b O dX12_narrowed_5 ?_
    refine z_i2l O dX12_narrowed_6 ?_
    refine z_goto O 23 dX12_narrowed_7 (by decide) ?_
    exact z_retL O hE (fun _ h => h.1) dX12_narrowed_23 h
def wp_X12_row (x : MS)  (p1 : Int32) (p2 : Int32) (p3 : Int32) (Q : Int32 → MS → Prop) : Prop :=
 (∀ x1 : MS, x1 = mI x 6 0 →
 wp_X12_in (Int32.toInt64 p1) 0 7 (fun r2 : Int32 =>
 ((r2 = 0 →
 Q (-1) x1) ∧ (¬ r2 = 0 →
 wp_X12_in (Int32.toInt64 p2) 0 2 (fun r3 : Int32 =>
 ((r3 = 0 →
 Q (-1) x1) ∧ (¬ r3 = 0 →
 ((p3 ≤ 100 →
 ((0 ≤ p3 →
 (vp_in p1 8 ∧
 ∀ x4 : MS, x4 = mA x1 11 (upd (x1.2.1 11) (Int32.toNatClampNeg p1) 2) →
 (vp_in p1 8 ∧
 ∀ x5 : MS, x5 = mA x4 14 (upd (x4.2.1 14) (Int32.toNatClampNeg p1) p2) →
 (vp_in p1 8 ∧
 ∀ x6 : MS, x6 = mA x5 15 (upd (x5.2.1 15) (Int32.toNatClampNeg p1) p3) →
 (∃ (I68 : Int32 → MS → Prop) (U68 : Int32 → MS → Nat), I68 0 x6 ∧ ∀ (y7 : Int32) (x8 : MS), I68 y7 x8 →
 ((100 ≤ y7 →
 Q 0 x8) ∧ (¬ 100 ≤ y7 →
 (vp_in ((100 * p1) + y7) 800 ∧
 ∀ x9 : MS, x9 = mJ x8 16 (vp_updL (x8.2.2.1 16) (Int32.toNatClampNeg ((100 * p1) + y7)) 0) →
 (I68 (y7 + 1) x9 ∧ U68 (y7 + 1) x9 < U68 y7 x8))))))))) ∧ (¬ 0 ≤ p3 →
 Q (-14) x1))) ∧ (¬ p3 ≤ 100 →
 Q (-1) x1)))))))))
set_option maxHeartbeats 4000000 in
set_option maxRecDepth 100000 in
theorem t_X12_row {l : Launch} {D : va_G} {cs : Nat → ClassId} {ad : Nat → Nat} (hI : wInj 18 ad) (x : MS)  (p1 : Int32) (p2 : Int32) (p3 : Int32) (Q : Int32 → MS → Prop) (h : wp_X12_row x  p1 p2 p3 Q) : zWR l yX12_row wsX12_row ({ frames := 1, cells := 0, slots := 0, locals := 25 } : Room) (gK D cs) (MH D cs ad) (wB 18 ad) x [.ref (ad 0), .int p1, .int p2, .int p3] 0 0 Q := by
  refine zWR_of (cc := cX12_row) (nL := 5) (ret := (some .int)) (by decide +kernel) rfl (Nat.le_of_ble_eq_true rfl) (fun C hl O hE hK => ?_)
  subst hl
  have hX : ∀ (x : MS) (H : Heap), MH D cs ad x H → va_P D vwCl (wl 18 ad (ME cs ad x)) H := fun _ _ h => h
  have hB : ∀ {x : MS} (H : Heap), va_P D vwCl (wl 18 ad (ME cs ad x)) H → MH D cs ad x H := fun _ h => h
  have hA : ∀ q, wB 18 ad q → zA (wB 18 ad) C.s.heap.size q := fun _ h => Or.inl h
  have i12 : ∀ w ∈ wsX120, w ∈ wsX12_row := by decide +kernel
  refine z_sub (lv' := [(0, .ref (ad 0)), (1, .int p1), (2, .int p2), (3, .int p3)]) [0, 1, 2, 3] rfl ?_
  refine z_aload_n O dX12_row_0 0 rfl ?_
  refine z_iconst (v := 0) O dX12_row_1 rfl ?_
  obtain ⟨x1, ex1⟩ : ∃ z, z = mI x 6 0 := ⟨_, rfl⟩
  replace h := h x1 ex1
  refine z_putf (x' := x1) (ty := .int) O hK.1 (hX _) hB hI hA (by decide) me_0 rfl i12 tyX12 tyX12_ok nmX12 6 (by decide) (by decide +kernel) rfl (by decide +kernel) rfl rfl (Nat.le_of_ble_eq_true rfl) (by rw [ex1]; exact me_put rfl rfl rfl) dX12_row_2 ?_
  refine z_iload_n O dX12_row_5 1 rfl ?_
  refine z_i2l O dX12_row_6 ?_
  refine z_lconst (v := 0) O dX12_row_7 rfl ?_
  refine z_ldc2 (v := 7) O (by decide +kernel) dX12_row_8 ?_
  refine z_callR (gKs D cs) hK (fun _ h => h) (t_X12_in (gKs D cs) (Int32.toInt64 p1) 0 7 _ h) (zr_SS (As := [.long (Int32.toInt64 p1), .long 0, .long 7]) (rest := []) O hE.1 3 gX12_row_X12_in rfl rfl rfl (by decide +kernel) ⟨(Nat.le_of_ble_eq_true rfl), (Nat.le_of_ble_eq_true rfl)⟩ ⟨(Nat.le_of_ble_eq_true rfl), (Nat.le_of_ble_eq_true rfl)⟩ rfl rfl (Nat.le_of_ble_eq_true rfl) dX12_row_11) (fun r2 h => ?_)
  refine z_if_eq O 35 dX12_row_14 (by decide) (fun c14 => ?_) (fun c14 => ?_)
  · replace h := h.1 c14
    refine z_iconst (v := -1) O dX12_row_35 rfl ?_
    exact z_retWR O hE (Nat.le_of_ble_eq_true rfl) (Nat.le_of_ble_eq_true rfl) rfl dX12_row_36 h
  · replace h := h.2 c14
    refine z_iload_n O dX12_row_17 2 rfl ?_
    refine z_i2l O dX12_row_18 ?_
    refine z_lconst (v := 0) O dX12_row_19 rfl ?_
    refine z_ldc2 (v := 2) O (by decide +kernel) dX12_row_20 ?_
    refine z_callR (gKs D cs) hK (fun _ h => h) (t_X12_in (gKs D cs) (Int32.toInt64 p2) 0 2 _ h) (zr_SS (As := [.long (Int32.toInt64 p2), .long 0, .long 2]) (rest := []) O hE.1 3 gX12_row_X12_in rfl rfl rfl (by decide +kernel) ⟨(Nat.le_of_ble_eq_true rfl), (Nat.le_of_ble_eq_true rfl)⟩ ⟨(Nat.le_of_ble_eq_true rfl), (Nat.le_of_ble_eq_true rfl)⟩ rfl rfl (Nat.le_of_ble_eq_true rfl) dX12_row_23) (fun r3 h => ?_)
    refine z_if_eq O 35 dX12_row_26 (by decide) (fun c13 => ?_) (fun c13 => ?_)
    · replace h := h.1 c13
      refine z_iconst (v := -1) O dX12_row_35 rfl ?_
      exact z_retWR O hE (Nat.le_of_ble_eq_true rfl) (Nat.le_of_ble_eq_true rfl) rfl dX12_row_36 h
    · replace h := h.2 c13
      refine z_iload_n O dX12_row_29 3 rfl ?_
      refine z_bipush (v := 100) O dX12_row_30 rfl ?_
      refine z_icmp_le O 37 dX12_row_32 (by decide) (fun c12 => ?_) (fun c12 => ?_)
      · replace h := h.1 c12
        refine z_iload_n O dX12_row_37 3 rfl ?_
        refine z_if_ge O 44 dX12_row_38 (by decide) (fun c11 => ?_) (fun c11 => ?_)
        · replace h := h.1 c11
          refine z_aload_n O dX12_row_44 0 rfl ?_
          refine z_getf O hK.1 (hX _) (by decide) me_0 rfl i12 22 (by decide) (by decide +kernel) rfl dX12_row_45 ?_
          refine z_iload_n O dX12_row_48 1 rfl ?_
          refine z_iconst (v := 2) O dX12_row_49 rfl ?_
          have hb0 := h.1
          replace h := h.2
          obtain ⟨x4, ex4⟩ : ∃ z, z = mA x1 11 (upd (x1.2.1 11) (Int32.toNatClampNeg p1) 2) := ⟨_, rfl⟩
          replace h := h x4 ex4
          refine z_iast (x' := x4) O hK.1 (hX _) hB hI hA 0 (mk_lt mk_11) (me_A mk_11) rfl (show vp_in p1 (mlen 11) from hb0) (by rw [ex4]; exact me_setA mk_11 _) dX12_row_50 ?_
          refine z_aload_n O dX12_row_51 0 rfl ?_
          refine z_getf O hK.1 (hX _) (by decide) me_0 rfl i12 25 (by decide) (by decide +kernel) rfl dX12_row_52 ?_
          refine z_iload_n O dX12_row_55 1 rfl ?_
          refine z_iload_n O dX12_row_56 2 rfl ?_
          have hb0 := h.1
          replace h := h.2
          obtain ⟨x5, ex5⟩ : ∃ z, z = mA x4 14 (upd (x4.2.1 14) (Int32.toNatClampNeg p1) p2) := ⟨_, rfl⟩
          replace h := h x5 ex5
          refine z_iast (x' := x5) O hK.1 (hX _) hB hI hA 0 (mk_lt mk_14) (me_A mk_14) rfl (show vp_in p1 (mlen 14) from hb0) (by rw [ex5]; exact me_setA mk_14 _) dX12_row_57 ?_
          refine z_aload_n O dX12_row_58 0 rfl ?_
          refine z_getf O hK.1 (hX _) (by decide) me_0 rfl i12 26 (by decide) (by decide +kernel) rfl dX12_row_59 ?_
          refine z_iload_n O dX12_row_62 1 rfl ?_
          refine z_iload_n O dX12_row_63 3 rfl ?_
          have hb0 := h.1
          replace h := h.2
          obtain ⟨x6, ex6⟩ : ∃ z, z = mA x5 15 (upd (x5.2.1 15) (Int32.toNatClampNeg p1) p3) := ⟨_, rfl⟩
          replace h := h x6 ex6
          refine z_iast (x' := x6) O hK.1 (hX _) hB hI hA 0 (mk_lt mk_15) (me_A mk_15) rfl (show vp_in p1 (mlen 15) from hb0) (by rw [ex6]; exact me_setA mk_15 _) dX12_row_64 ?_
          refine z_iconst (v := 0) O dX12_row_65 rfl ?_
          refine z_istore (lv' := [(4, .int 0), (0, .ref (ad 0)), (1, .int p1), (2, .int p2), (3, .int p3)]) O dX12_row_66 (by decide) rfl ?_
          obtain ⟨I68, U68, h0, hs⟩ := h
          have kI68 : ∀ (n : Nat) (y7 : Int32) (x8 : MS), U68 y7 x8 < n → I68 y7 x8 → Z C (zA (wB 18 ad) C.s.heap.size) (MH D cs ad) 5 x8 [(0, .ref (ad 0)), (1, .int p1), (4, .int y7)] 0 0 68 [] := by
            intro n
            induction n with
            | zero => intro y7 x8 uI68; exact absurd uI68 (Nat.not_lt_zero _)
            | succ n iI68 =>
              intro y7 x8 uI68 h
              have h := hs y7 x8 h
              refine z_iload O dX12_row_68 2 rfl ?_
              refine z_bipush (v := 100) O dX12_row_70 rfl ?_
              refine z_icmp_ge O 94 dX12_row_72 (by decide) (fun c10 => ?_) (fun c10 => ?_)
              · replace h := h.1 c10
                refine z_iconst (v := 0) O dX12_row_94 rfl ?_
                exact z_retWR O hE (Nat.le_of_ble_eq_true rfl) (Nat.le_of_ble_eq_true rfl) rfl dX12_row_95 h
              · replace h := h.2 c10
                refine z_aload_n O dX12_row_75 0 rfl ?_
                refine z_getf O hK.1 (hX _) (by decide) me_0 rfl i12 27 (by decide) (by decide +kernel) rfl dX12_row_76 ?_
                refine z_bipush (v := 100) O dX12_row_79 rfl ?_
                refine z_iload_n O dX12_row_81 1 rfl ?_
                refine z_imul O dX12_row_82 ?_
                refine z_iload O dX12_row_83 2 rfl ?_
                refine z_iadd O dX12_row_85 ?_
                refine z_lconst (v := 0) O dX12_row_86 rfl ?_
                have hb0 := h.1
                replace h := h.2
                obtain ⟨x9, ex9⟩ : ∃ z, z = mJ x8 16 (vp_updL (x8.2.2.1 16) (Int32.toNatClampNeg ((100 * p1) + y7)) 0) := ⟨_, rfl⟩
                replace h := h x9 ex9
                refine z_last (x' := x9) O hK.1 (hX _) hB hI hA 4 (by decide) me_16 rfl (show vp_in ((100 * p1) + y7) (mlen 16) from hb0) (by rw [ex9]; exact me_setJ16 _) dX12_row_87 ?_
                refine z_iinc (lv' := [(4, .int (y7 + 1)), (0, .ref (ad 0)), (1, .int p1)]) O dX12_row_88 2 rfl rfl (by decide) rfl ?_
                refine z_goto O 68 dX12_row_91 (by decide) ?_
                exact z_sub [1, 2, 0] rfl (iI68 (y7 + 1) x9 (Nat.lt_of_lt_of_le h.2 (Nat.le_of_lt_succ uI68)) h.1)
          exact z_sub [1, 2, 0] rfl (kI68 _ 0 x6 (Nat.lt_succ_self _) h0)
        · replace h := h.2 c11
          refine z_bipush (v := -14) O dX12_row_41 rfl ?_
          exact z_retWR O hE (Nat.le_of_ble_eq_true rfl) (Nat.le_of_ble_eq_true rfl) rfl dX12_row_43 h
      · replace h := h.2 c12
        refine z_iconst (v := -1) O dX12_row_35 rfl ?_
        exact z_retWR O hE (Nat.le_of_ble_eq_true rfl) (Nat.le_of_ble_eq_true rfl) rfl dX12_row_36 h
def wp_X12_put (x : MS)  (p1 : Int32) (p2 : Int32) (p3 : Int32) (Q : Int32 → MS → Prop) : Prop :=
 (∀ x1 : MS, x1 = mI x 6 0 →
 wp_X12_wrongRow x1 p1 (fun r2 : Int32 =>
 ((0 ≤ r2 →
 (vp_in p1 8 ∧
 wp_X12_in (Int32.toInt64 p2) 0 ((Int32.toInt64 ((x1.2.1 15 (Int32.toNatClampNeg p1)) - 1))) (fun r3 : Int32 =>
 ((¬ r3 = 0 →
 (vp_in p1 8 ∧
 wp_X12_narrowed p3 (x1.2.1 14 (Int32.toNatClampNeg p1)) (fun r4 : Int64 =>
 (vp_in ((100 * p1) + p2) 800 ∧
 ∀ x5 : MS, x5 = mJ x1 16 (vp_updL (x1.2.2.1 16) (Int32.toNatClampNeg ((100 * p1) + p2)) r4) →
 Q 0 x5)))) ∧ (r3 = 0 →
 Q (-13) x1))))) ∧ (¬ 0 ≤ r2 →
 Q r2 x1))))
set_option maxHeartbeats 4000000 in
set_option maxRecDepth 100000 in
theorem t_X12_put {l : Launch} {D : va_G} {cs : Nat → ClassId} {ad : Nat → Nat} (hI : wInj 18 ad) (x : MS)  (p1 : Int32) (p2 : Int32) (p3 : Int32) (Q : Int32 → MS → Prop) (h : wp_X12_put x  p1 p2 p3 Q) : zWR l yX12_put wsX12_put ({ frames := 2, cells := 0, slots := 0, locals := 46 } : Room) (gK D cs) (MH D cs ad) (wB 18 ad) x [.ref (ad 0), .int p1, .int p2, .int p3] 0 0 Q := by
  refine zWR_of (cc := cX12_put) (nL := 5) (ret := (some .int)) (by decide +kernel) rfl (Nat.le_of_ble_eq_true rfl) (fun C hl O hE hK => ?_)
  subst hl
  have hX : ∀ (x : MS) (H : Heap), MH D cs ad x H → va_P D vwCl (wl 18 ad (ME cs ad x)) H := fun _ _ h => h
  have hB : ∀ {x : MS} (H : Heap), va_P D vwCl (wl 18 ad (ME cs ad x)) H → MH D cs ad x H := fun _ h => h
  have hA : ∀ q, wB 18 ad q → zA (wB 18 ad) C.s.heap.size q := fun _ h => Or.inl h
  have i12 : ∀ w ∈ wsX120, w ∈ wsX12_put := by decide +kernel
  refine z_sub (lv' := [(0, .ref (ad 0)), (1, .int p1), (2, .int p2), (3, .int p3)]) [0, 1, 2, 3] rfl ?_
  refine z_aload_n O dX12_put_0 0 rfl ?_
  refine z_iconst (v := 0) O dX12_put_1 rfl ?_
  obtain ⟨x1, ex1⟩ : ∃ z, z = mI x 6 0 := ⟨_, rfl⟩
  replace h := h x1 ex1
  refine z_putf (x' := x1) (ty := .int) O hK.1 (hX _) hB hI hA (by decide) me_0 rfl i12 tyX12 tyX12_ok nmX12 6 (by decide) (by decide +kernel) rfl (by decide +kernel) rfl rfl (Nat.le_of_ble_eq_true rfl) (by rw [ex1]; exact me_put rfl rfl rfl) dX12_put_2 ?_
  refine z_aload_n O dX12_put_5 0 rfl ?_
  refine z_iload_n O dX12_put_6 1 rfl ?_
  refine z_callR (gKs D cs) hK (fun _ h => h) (t_X12_wrongRow x1  p1 _ h) (zr_V (As := [.int p1]) (rest := []) O hE.1 1 gX12_put_X12_wrongRow rfl rfl rfl (by decide +kernel) ⟨(Nat.le_of_ble_eq_true rfl), (Nat.le_of_ble_eq_true rfl)⟩ ⟨(Nat.le_of_ble_eq_true rfl), (Nat.le_of_ble_eq_true rfl)⟩ (fun H hH => z_recv hK.1 (hX _ H hH) (by decide) me_0 rfl) rfl rfl (Nat.le_of_ble_eq_true rfl) dX12_put_7) (fun r2 h => ?_)
  refine z_istore (lv' := [(4, .int r2), (0, .ref (ad 0)), (1, .int p1), (2, .int p2), (3, .int p3)]) O dX12_put_10 (by decide) rfl ?_
  refine z_iload O dX12_put_12 0 rfl ?_
  refine z_if_ge O 20 dX12_put_14 (by decide) (fun c7 => ?_) (fun c7 => ?_)
  · replace h := h.1 c7
    refine z_iload_n O dX12_put_20 3 rfl ?_
    refine z_i2l O dX12_put_21 ?_
    refine z_lconst (v := 0) O dX12_put_22 rfl ?_
    refine z_aload_n O dX12_put_23 1 rfl ?_
    refine z_getf O hK.1 (hX _) (by decide) me_0 rfl i12 26 (by decide) (by decide +kernel) rfl dX12_put_24 ?_
    refine z_iload_n O dX12_put_27 2 rfl ?_
    refine z_iald O hK.1 (hX _) 0 (mk_lt mk_15) (me_A mk_15) rfl (show vp_in p1 (mlen 15) from h.1) dX12_put_28 ?_
    replace h := h.2
    refine z_iconst (v := 1) O dX12_put_29 rfl ?_
    refine z_isub O dX12_put_30 ?_
    refine z_i2l O dX12_put_31 ?_
    refine z_callR (gKs D cs) hK (fun _ h => h) (t_X12_in (gKs D cs) (Int32.toInt64 p2) 0 ((Int32.toInt64 ((x1.2.1 15 (Int32.toNatClampNeg p1)) - 1))) _ h) (zr_SS (As := [.long (Int32.toInt64 p2), .long 0, .long ((Int32.toInt64 ((x1.2.1 15 (Int32.toNatClampNeg p1)) - 1)))]) (rest := []) O hE.1 3 gX12_put_X12_in rfl rfl rfl (by decide +kernel) ⟨(Nat.le_of_ble_eq_true rfl), (Nat.le_of_ble_eq_true rfl)⟩ ⟨(Nat.le_of_ble_eq_true rfl), (Nat.le_of_ble_eq_true rfl)⟩ rfl rfl (Nat.le_of_ble_eq_true rfl) dX12_put_32) (fun r3 h => ?_)
    refine z_if_ne O 41 dX12_put_35 (by decide) (fun c6 => ?_) (fun c6 => ?_)
    · replace h := h.1 c6
      refine z_aload_n O dX12_put_41 1 rfl ?_
      refine z_getf O hK.1 (hX _) (by decide) me_0 rfl i12 27 (by decide) (by decide +kernel) rfl dX12_put_42 ?_
      refine z_bipush (v := 100) O dX12_put_45 rfl ?_
      refine z_iload_n O dX12_put_47 2 rfl ?_
      refine z_imul O dX12_put_48 ?_
      refine z_iload_n O dX12_put_49 3 rfl ?_
      refine z_iadd O dX12_put_50 ?_
      refine z_iload_n O dX12_put_51 4 rfl ?_
      refine z_aload_n O dX12_put_52 1 rfl ?_
      refine z_getf O hK.1 (hX _) (by decide) me_0 rfl i12 25 (by decide) (by decide +kernel) rfl dX12_put_53 ?_
      refine z_iload_n O dX12_put_56 2 rfl ?_
      refine z_iald O hK.1 (hX _) 0 (mk_lt mk_14) (me_A mk_14) rfl (show vp_in p1 (mlen 14) from h.1) dX12_put_57 ?_
      replace h := h.2
      refine z_callL (gKs D cs) hK (fun _ h => h) (t_X12_narrowed (gKs D cs) p3 (x1.2.1 14 (Int32.toNatClampNeg p1)) _ h) (zr_SS (As := [.int p3, .int (x1.2.1 14 (Int32.toNatClampNeg p1))]) (rest := [.int ((100 * p1) + p2), .ref (ad 16)]) O hE.1 2 gX12_put_X12_narrowed rfl rfl rfl (by decide +kernel) ⟨(Nat.le_of_ble_eq_true rfl), (Nat.le_of_ble_eq_true rfl)⟩ ⟨(Nat.le_of_ble_eq_true rfl), (Nat.le_of_ble_eq_true rfl)⟩ rfl rfl (Nat.le_of_ble_eq_true rfl) dX12_put_58) (fun r4 h => ?_)
      have hb0 := h.1
      replace h := h.2
      obtain ⟨x5, ex5⟩ : ∃ z, z = mJ x1 16 (vp_updL (x1.2.2.1 16) (Int32.toNatClampNeg ((100 * p1) + p2)) r4) := ⟨_, rfl⟩
      replace h := h x5 ex5
      refine z_last (x' := x5) O hK.1 (hX _) hB hI hA 4 (by decide) me_16 rfl (show vp_in ((100 * p1) + p2) (mlen 16) from hb0) (by rw [ex5]; exact me_setJ16 _) dX12_put_61 ?_
      refine z_iconst (v := 0) O dX12_put_62 rfl ?_
      exact z_retWR O hE (Nat.le_of_ble_eq_true rfl) (Nat.le_of_ble_eq_true rfl) rfl dX12_put_63 h
    · replace h := h.2 c6
      refine z_bipush (v := -13) O dX12_put_38 rfl ?_
      exact z_retWR O hE (Nat.le_of_ble_eq_true rfl) (Nat.le_of_ble_eq_true rfl) rfl dX12_put_40 h
  · replace h := h.2 c7
    refine z_iload O dX12_put_17 0 rfl ?_
    exact z_retWR O hE (Nat.le_of_ble_eq_true rfl) (Nat.le_of_ble_eq_true rfl) rfl dX12_put_19 h
def wp_X12_element (x : MS)  (p1 : Int32) (p2 : Int32) (Q : Int64 → MS → Prop) : Prop :=
 wp_X12_wrongRow x p1 (fun r1 : Int32 =>
 ((¬ r1 = (-1) →
 ((r1 < 0 →
 (∀ x2 : MS, x2 = mI x 6 2 →
 (((x2.1 6) ≤ 0 →
 (vp_in ((100 * p1) + p2) 800 ∧
 Q (x2.2.2.1 16 (Int32.toNatClampNeg ((100 * p1) + p2))) x2)) ∧ (¬ (x2.1 6) ≤ 0 →
 Q 0 x2)))) ∧ (¬ r1 < 0 →
 (vp_in p1 8 ∧
 wp_X12_in (Int32.toInt64 p2) 0 ((Int32.toInt64 ((x.2.1 15 (Int32.toNatClampNeg p1)) - 1))) (fun r4 : Int32 =>
 ((¬ r4 = 0 →
 (∀ x5 : MS, x5 = mI x 6 0 →
 (((x5.1 6) ≤ 0 →
 (vp_in ((100 * p1) + p2) 800 ∧
 Q (x5.2.2.1 16 (Int32.toNatClampNeg ((100 * p1) + p2))) x5)) ∧ (¬ (x5.1 6) ≤ 0 →
 Q 0 x5)))) ∧ (r4 = 0 →
 (∀ x7 : MS, x7 = mI x 6 2 →
 (((x7.1 6) ≤ 0 →
 (vp_in ((100 * p1) + p2) 800 ∧
 Q (x7.2.2.1 16 (Int32.toNatClampNeg ((100 * p1) + p2))) x7)) ∧ (¬ (x7.1 6) ≤ 0 →
 Q 0 x7)))))))))) ∧ (r1 = (-1) →
 (∀ x11 : MS, x11 = mI x 6 1 →
 (((x11.1 6) ≤ 0 →
 (vp_in ((100 * p1) + p2) 800 ∧
 Q (x11.2.2.1 16 (Int32.toNatClampNeg ((100 * p1) + p2))) x11)) ∧ (¬ (x11.1 6) ≤ 0 →
 Q 0 x11))))))
set_option maxHeartbeats 4000000 in
set_option maxRecDepth 100000 in
theorem t_X12_element {l : Launch} {D : va_G} {cs : Nat → ClassId} {ad : Nat → Nat} (hI : wInj 18 ad) (x : MS)  (p1 : Int32) (p2 : Int32) (Q : Int64 → MS → Prop) (h : wp_X12_element x  p1 p2 Q) : zWL l yX12_element wsX12_element ({ frames := 2, cells := 0, slots := 0, locals := 46 } : Room) (gK D cs) (MH D cs ad) (wB 18 ad) x [.ref (ad 0), .int p1, .int p2] 0 0 Q := by
  refine zWL_of (cc := cX12_element) (nL := 4) (ret := (some .long)) (by decide +kernel) rfl (Nat.le_of_ble_eq_true rfl) (fun C hl O hE hK => ?_)
  subst hl
  have hX : ∀ (x : MS) (H : Heap), MH D cs ad x H → va_P D vwCl (wl 18 ad (ME cs ad x)) H := fun _ _ h => h
  have hB : ∀ {x : MS} (H : Heap), va_P D vwCl (wl 18 ad (ME cs ad x)) H → MH D cs ad x H := fun _ h => h
  have hA : ∀ q, wB 18 ad q → zA (wB 18 ad) C.s.heap.size q := fun _ h => Or.inl h
  have i12 : ∀ w ∈ wsX120, w ∈ wsX12_element := by decide +kernel
  refine z_sub (lv' := [(0, .ref (ad 0)), (1, .int p1), (2, .int p2)]) [0, 1, 2] rfl ?_
  refine z_aload_n O dX12_element_0 0 rfl ?_
  refine z_iload_n O dX12_element_1 1 rfl ?_
  refine z_callR (gKs D cs) hK (fun _ h => h) (t_X12_wrongRow x  p1 _ h) (zr_V (As := [.int p1]) (rest := []) O hE.1 1 gX12_element_X12_wrongRow rfl rfl rfl (by decide +kernel) ⟨(Nat.le_of_ble_eq_true rfl), (Nat.le_of_ble_eq_true rfl)⟩ ⟨(Nat.le_of_ble_eq_true rfl), (Nat.le_of_ble_eq_true rfl)⟩ (fun H hH => z_recv hK.1 (hX _ H hH) (by decide) me_0 rfl) rfl rfl (Nat.le_of_ble_eq_true rfl) dX12_element_2) (fun r1 h => ?_)
  refine z_istore_n (lv' := [(3, .int r1), (0, .ref (ad 0)), (1, .int p1), (2, .int p2)]) O dX12_element_5 (by decide) rfl ?_
  refine z_aload_n O dX12_element_6 1 rfl ?_
  refine z_iload_n O dX12_element_7 0 rfl ?_
  refine z_iconst (v := -1) O dX12_element_8 rfl ?_
  refine z_icmp_ne O 16 dX12_element_9 (by decide) (fun c13 => ?_) (fun c13 => ?_)
  · replace h := h.1 c13
    refine z_iload_n O dX12_element_16 0 rfl ?_
    refine z_if_lt O 38 dX12_element_17 (by decide) (fun c10 => ?_) (fun c10 => ?_)
    · replace h := h.1 c10
      refine z_iconst (v := 2) O dX12_element_38 rfl ?_
      refine z_goto O 43 dX12_element_39 (by decide) ?_
      obtain ⟨x2, ex2⟩ : ∃ z, z = mI x 6 2 := ⟨_, rfl⟩
      replace h := h x2 ex2
      refine z_putf (x' := x2) (ty := .int) O hK.1 (hX _) hB hI hA (by decide) me_0 rfl i12 tyX12 tyX12_ok nmX12 6 (by decide) (by decide +kernel) rfl (by decide +kernel) rfl rfl (Nat.le_of_ble_eq_true rfl) (by rw [ex2]; exact me_put rfl rfl rfl) dX12_element_43 ?_
      refine z_aload_n O dX12_element_46 1 rfl ?_
      refine z_getf O hK.1 (hX _) (by decide) me_0 rfl i12 6 (by decide) (by decide +kernel) rfl dX12_element_47 ?_
      refine z_if_le O 57 dX12_element_50 (by decide) (fun c3 => ?_) (fun c3 => ?_)
      · replace h := h.1 c3
        refine z_aload_n O dX12_element_57 1 rfl ?_
        refine z_getf O hK.1 (hX _) (by decide) me_0 rfl i12 27 (by decide) (by decide +kernel) rfl dX12_element_58 ?_
        refine z_bipush (v := 100) O dX12_element_61 rfl ?_
        refine z_iload_n O dX12_element_63 2 rfl ?_
        refine z_imul O dX12_element_64 ?_
        refine z_iload_n O dX12_element_65 3 rfl ?_
        refine z_iadd O dX12_element_66 ?_
        refine z_lald O hK.1 (hX _) 4 (by decide) me_16 rfl (show vp_in ((100 * p1) + p2) (mlen 16) from h.1) dX12_element_67 ?_
        replace h := h.2
        exact z_retWL O hE (Nat.le_of_ble_eq_true rfl) (Nat.le_of_ble_eq_true rfl) dX12_element_68 h
      · replace h := h.2 c3
        refine z_lconst (v := 0) O dX12_element_53 rfl ?_
        refine z_goto O 68 dX12_element_54 (by decide) ?_
        exact z_retWL O hE (Nat.le_of_ble_eq_true rfl) (Nat.le_of_ble_eq_true rfl) dX12_element_68 h
    · replace h := h.2 c10
      refine z_iload_n O dX12_element_20 3 rfl ?_
      refine z_i2l O dX12_element_21 ?_
      refine z_lconst (v := 0) O dX12_element_22 rfl ?_
      refine z_aload_n O dX12_element_23 1 rfl ?_
      refine z_getf O hK.1 (hX _) (by decide) me_0 rfl i12 26 (by decide) (by decide +kernel) rfl dX12_element_24 ?_
      refine z_iload_n O dX12_element_27 2 rfl ?_
      refine z_iald O hK.1 (hX _) 0 (mk_lt mk_15) (me_A mk_15) rfl (show vp_in p1 (mlen 15) from h.1) dX12_element_28 ?_
      replace h := h.2
      refine z_iconst (v := 1) O dX12_element_29 rfl ?_
      refine z_isub O dX12_element_30 ?_
      refine z_i2l O dX12_element_31 ?_
      refine z_callR (gKs D cs) hK (fun _ h => h) (t_X12_in (gKs D cs) (Int32.toInt64 p2) 0 ((Int32.toInt64 ((x.2.1 15 (Int32.toNatClampNeg p1)) - 1))) _ h) (zr_SS (As := [.long (Int32.toInt64 p2), .long 0, .long ((Int32.toInt64 ((x.2.1 15 (Int32.toNatClampNeg p1)) - 1)))]) (rest := [.ref (ad 0)]) O hE.1 3 gX12_element_X12_in rfl rfl rfl (by decide +kernel) ⟨(Nat.le_of_ble_eq_true rfl), (Nat.le_of_ble_eq_true rfl)⟩ ⟨(Nat.le_of_ble_eq_true rfl), (Nat.le_of_ble_eq_true rfl)⟩ rfl rfl (Nat.le_of_ble_eq_true rfl) dX12_element_32) (fun r4 h => ?_)
      refine z_if_ne O 42 dX12_element_35 (by decide) (fun c9 => ?_) (fun c9 => ?_)
      · replace h := h.1 c9
        refine z_iconst (v := 0) O dX12_element_42 rfl ?_
        obtain ⟨x5, ex5⟩ : ∃ z, z = mI x 6 0 := ⟨_, rfl⟩
        replace h := h x5 ex5
        refine z_putf (x' := x5) (ty := .int) O hK.1 (hX _) hB hI hA (by decide) me_0 rfl i12 tyX12 tyX12_ok nmX12 6 (by decide) (by decide +kernel) rfl (by decide +kernel) rfl rfl (Nat.le_of_ble_eq_true rfl) (by rw [ex5]; exact me_put rfl rfl rfl) dX12_element_43 ?_
        refine z_aload_n O dX12_element_46 1 rfl ?_
        refine z_getf O hK.1 (hX _) (by decide) me_0 rfl i12 6 (by decide) (by decide +kernel) rfl dX12_element_47 ?_
        refine z_if_le O 57 dX12_element_50 (by decide) (fun c6 => ?_) (fun c6 => ?_)
        · replace h := h.1 c6
          refine z_aload_n O dX12_element_57 1 rfl ?_
          refine z_getf O hK.1 (hX _) (by decide) me_0 rfl i12 27 (by decide) (by decide +kernel) rfl dX12_element_58 ?_
          refine z_bipush (v := 100) O dX12_element_61 rfl ?_
          refine z_iload_n O dX12_element_63 2 rfl ?_
          refine z_imul O dX12_element_64 ?_
          refine z_iload_n O dX12_element_65 3 rfl ?_
          refine z_iadd O dX12_element_66 ?_
          refine z_lald O hK.1 (hX _) 4 (by decide) me_16 rfl (show vp_in ((100 * p1) + p2) (mlen 16) from h.1) dX12_element_67 ?_
          replace h := h.2
          exact z_retWL O hE (Nat.le_of_ble_eq_true rfl) (Nat.le_of_ble_eq_true rfl) dX12_element_68 h
        · replace h := h.2 c6
          refine z_lconst (v := 0) O dX12_element_53 rfl ?_
          refine z_goto O 68 dX12_element_54 (by decide) ?_
          exact z_retWL O hE (Nat.le_of_ble_eq_true rfl) (Nat.le_of_ble_eq_true rfl) dX12_element_68 h
      · replace h := h.2 c9
        refine z_iconst (v := 2) O dX12_element_38 rfl ?_
        refine z_goto O 43 dX12_element_39 (by decide) ?_
        obtain ⟨x7, ex7⟩ : ∃ z, z = mI x 6 2 := ⟨_, rfl⟩
        replace h := h x7 ex7
        refine z_putf (x' := x7) (ty := .int) O hK.1 (hX _) hB hI hA (by decide) me_0 rfl i12 tyX12 tyX12_ok nmX12 6 (by decide) (by decide +kernel) rfl (by decide +kernel) rfl rfl (Nat.le_of_ble_eq_true rfl) (by rw [ex7]; exact me_put rfl rfl rfl) dX12_element_43 ?_
        refine z_aload_n O dX12_element_46 1 rfl ?_
        refine z_getf O hK.1 (hX _) (by decide) me_0 rfl i12 6 (by decide) (by decide +kernel) rfl dX12_element_47 ?_
        refine z_if_le O 57 dX12_element_50 (by decide) (fun c8 => ?_) (fun c8 => ?_)
        · replace h := h.1 c8
          refine z_aload_n O dX12_element_57 1 rfl ?_
          refine z_getf O hK.1 (hX _) (by decide) me_0 rfl i12 27 (by decide) (by decide +kernel) rfl dX12_element_58 ?_
          refine z_bipush (v := 100) O dX12_element_61 rfl ?_
          refine z_iload_n O dX12_element_63 2 rfl ?_
          refine z_imul O dX12_element_64 ?_
          refine z_iload_n O dX12_element_65 3 rfl ?_
          refine z_iadd O dX12_element_66 ?_
          refine z_lald O hK.1 (hX _) 4 (by decide) me_16 rfl (show vp_in ((100 * p1) + p2) (mlen 16) from h.1) dX12_element_67 ?_
          replace h := h.2
          exact z_retWL O hE (Nat.le_of_ble_eq_true rfl) (Nat.le_of_ble_eq_true rfl) dX12_element_68 h
        · replace h := h.2 c8
          refine z_lconst (v := 0) O dX12_element_53 rfl ?_
          refine z_goto O 68 dX12_element_54 (by decide) ?_
          exact z_retWL O hE (Nat.le_of_ble_eq_true rfl) (Nat.le_of_ble_eq_true rfl) dX12_element_68 h
  · replace h := h.2 c13
    refine z_iconst (v := 1) O dX12_element_12 rfl ?_
    refine z_goto O 43 dX12_element_13 (by decide) ?_
    obtain ⟨x11, ex11⟩ : ∃ z, z = mI x 6 1 := ⟨_, rfl⟩
    replace h := h x11 ex11
    refine z_putf (x' := x11) (ty := .int) O hK.1 (hX _) hB hI hA (by decide) me_0 rfl i12 tyX12 tyX12_ok nmX12 6 (by decide) (by decide +kernel) rfl (by decide +kernel) rfl rfl (Nat.le_of_ble_eq_true rfl) (by rw [ex11]; exact me_put rfl rfl rfl) dX12_element_43 ?_
    refine z_aload_n O dX12_element_46 1 rfl ?_
    refine z_getf O hK.1 (hX _) (by decide) me_0 rfl i12 6 (by decide) (by decide +kernel) rfl dX12_element_47 ?_
    refine z_if_le O 57 dX12_element_50 (by decide) (fun c12 => ?_) (fun c12 => ?_)
    · replace h := h.1 c12
      refine z_aload_n O dX12_element_57 1 rfl ?_
      refine z_getf O hK.1 (hX _) (by decide) me_0 rfl i12 27 (by decide) (by decide +kernel) rfl dX12_element_58 ?_
      refine z_bipush (v := 100) O dX12_element_61 rfl ?_
      refine z_iload_n O dX12_element_63 2 rfl ?_
      refine z_imul O dX12_element_64 ?_
      refine z_iload_n O dX12_element_65 3 rfl ?_
      refine z_iadd O dX12_element_66 ?_
      refine z_lald O hK.1 (hX _) 4 (by decide) me_16 rfl (show vp_in ((100 * p1) + p2) (mlen 16) from h.1) dX12_element_67 ?_
      replace h := h.2
      exact z_retWL O hE (Nat.le_of_ble_eq_true rfl) (Nat.le_of_ble_eq_true rfl) dX12_element_68 h
    · replace h := h.2 c12
      refine z_lconst (v := 0) O dX12_element_53 rfl ?_
      refine z_goto O 68 dX12_element_54 (by decide) ?_
      exact z_retWL O hE (Nat.le_of_ble_eq_true rfl) (Nat.le_of_ble_eq_true rfl) dX12_element_68 h
def wp_X12_copy (x : MS)  (p1 : Int32) (p2 : Int32) (p3 : Int32) (p4 : Int32) (p5 : Int32) (Q : Int32 → MS → Prop) : Prop :=
 (∀ x1 : MS, x1 = mI x 6 0 →
 wp_X12_in (Int32.toInt64 p1) 0 7 (fun r2 : Int32 =>
 ((r2 = 0 →
 Q (-1) x1) ∧ (¬ r2 = 0 →
 wp_X12_in (Int32.toInt64 p3) 0 7 (fun r3 : Int32 =>
 ((¬ r3 = 0 →
 (vp_in p1 8 ∧
 (((x1.2.1 11 (Int32.toNatClampNeg p1)) = 0 →
 Q (-11) x1) ∧ (¬ (x1.2.1 11 (Int32.toNatClampNeg p1)) = 0 →
 (vp_in p3 8 ∧
 ((¬ (x1.2.1 11 (Int32.toNatClampNeg p3)) = 0 →
 (vp_in p1 8 ∧
 ((¬ (x1.2.1 11 (Int32.toNatClampNeg p1)) = 2 →
 Q (-12) x1) ∧ ((x1.2.1 11 (Int32.toNatClampNeg p1)) = 2 →
 (vp_in p3 8 ∧
 ((¬ (x1.2.1 11 (Int32.toNatClampNeg p3)) = 2 →
 Q (-12) x1) ∧ ((x1.2.1 11 (Int32.toNatClampNeg p3)) = 2 →
 (vp_in p1 8 ∧
 (vp_in p3 8 ∧
 (((x1.2.1 14 (Int32.toNatClampNeg p1)) = (x1.2.1 14 (Int32.toNatClampNeg p3)) →
 ((p5 < 0 →
 Q (-13) x1) ∧ (¬ p5 < 0 →
 ((p2 < 0 →
 Q (-13) x1) ∧ (¬ p2 < 0 →
 ((p4 < 0 →
 Q (-13) x1) ∧ (¬ p4 < 0 →
 (vp_in p1 8 ∧
 ((((x1.2.1 15 (Int32.toNatClampNeg p1)) - p5) < p2 →
 Q (-13) x1) ∧ (¬ ((x1.2.1 15 (Int32.toNatClampNeg p1)) - p5) < p2 →
 (vp_in p3 8 ∧
 ((p4 ≤ ((x1.2.1 15 (Int32.toNatClampNeg p3)) - p5) →
 (∃ (I137 : Int32 → MS → Prop) (U137 : Int32 → MS → Nat), I137 0 x1 ∧ ∀ (y4 : Int32) (x5 : MS), I137 y4 x5 →
 ((p5 ≤ y4 →
 (∃ (I174 : Int32 → MS → Prop) (U174 : Int32 → MS → Nat), I174 0 x5 ∧ ∀ (y6 : Int32) (x7 : MS), I174 y6 x7 →
 ((p5 ≤ y6 →
 Q p5 x7) ∧ (¬ p5 ≤ y6 →
 (vp_in y6 100 ∧
 (vp_in (((100 * p3) + p4) + y6) 800 ∧
 ∀ x8 : MS, x8 = mJ x7 16 (vp_updL (x7.2.2.1 16) (Int32.toNatClampNeg (((100 * p3) + p4) + y6)) (x7.2.2.1 17 (Int32.toNatClampNeg y6))) →
 (I174 (y6 + 1) x8 ∧ U174 (y6 + 1) x8 < U174 y6 x7))))))) ∧ (¬ p5 ≤ y4 →
 (vp_in (((100 * p1) + p2) + y4) 800 ∧
 (vp_in y4 100 ∧
 ∀ x10 : MS, x10 = mJ x5 17 (vp_updL (x5.2.2.1 17) (Int32.toNatClampNeg y4) (x5.2.2.1 16 (Int32.toNatClampNeg (((100 * p1) + p2) + y4)))) →
 (I137 (y4 + 1) x10 ∧ U137 (y4 + 1) x10 < U137 y4 x5))))))) ∧ (¬ p4 ≤ ((x1.2.1 15 (Int32.toNatClampNeg p3)) - p5) →
 Q (-13) x1))))))))))))) ∧ (¬ (x1.2.1 14 (Int32.toNatClampNeg p1)) = (x1.2.1 14 (Int32.toNatClampNeg p3)) →
 Q (-12) x1))))))))))) ∧ ((x1.2.1 11 (Int32.toNatClampNeg p3)) = 0 →
 Q (-11) x1))))))) ∧ (r3 = 0 →
 Q (-1) x1)))))))
set_option maxHeartbeats 4000000 in
set_option maxRecDepth 100000 in
theorem t_X12_copy {l : Launch} {D : va_G} {cs : Nat → ClassId} {ad : Nat → Nat} (hI : wInj 18 ad) (x : MS)  (p1 : Int32) (p2 : Int32) (p3 : Int32) (p4 : Int32) (p5 : Int32) (Q : Int32 → MS → Prop) (h : wp_X12_copy x  p1 p2 p3 p4 p5 Q) : zWR l yX12_copy wsX12_copy ({ frames := 1, cells := 0, slots := 0, locals := 25 } : Room) (gK D cs) (MH D cs ad) (wB 18 ad) x [.ref (ad 0), .int p1, .int p2, .int p3, .int p4, .int p5] 0 0 Q := by
  refine zWR_of (cc := cX12_copy) (nL := 7) (ret := (some .int)) (by decide +kernel) rfl (Nat.le_of_ble_eq_true rfl) (fun C hl O hE hK => ?_)
  subst hl
  have hX : ∀ (x : MS) (H : Heap), MH D cs ad x H → va_P D vwCl (wl 18 ad (ME cs ad x)) H := fun _ _ h => h
  have hB : ∀ {x : MS} (H : Heap), va_P D vwCl (wl 18 ad (ME cs ad x)) H → MH D cs ad x H := fun _ h => h
  have hA : ∀ q, wB 18 ad q → zA (wB 18 ad) C.s.heap.size q := fun _ h => Or.inl h
  have i12 : ∀ w ∈ wsX120, w ∈ wsX12_copy := by decide +kernel
  refine z_sub (lv' := [(0, .ref (ad 0)), (1, .int p1), (2, .int p2), (3, .int p3), (4, .int p4), (5, .int p5)]) [0, 1, 2, 3, 4, 5] rfl ?_
  refine z_aload_n O dX12_copy_0 0 rfl ?_
  refine z_iconst (v := 0) O dX12_copy_1 rfl ?_
  obtain ⟨x1, ex1⟩ : ∃ z, z = mI x 6 0 := ⟨_, rfl⟩
  replace h := h x1 ex1
  refine z_putf (x' := x1) (ty := .int) O hK.1 (hX _) hB hI hA (by decide) me_0 rfl i12 tyX12 tyX12_ok nmX12 6 (by decide) (by decide +kernel) rfl (by decide +kernel) rfl rfl (Nat.le_of_ble_eq_true rfl) (by rw [ex1]; exact me_put rfl rfl rfl) dX12_copy_2 ?_
  refine z_iload_n O dX12_copy_5 1 rfl ?_
  refine z_i2l O dX12_copy_6 ?_
  refine z_lconst (v := 0) O dX12_copy_7 rfl ?_
  refine z_ldc2 (v := 7) O (by decide +kernel) dX12_copy_8 ?_
  refine z_callR (gKs D cs) hK (fun _ h => h) (t_X12_in (gKs D cs) (Int32.toInt64 p1) 0 7 _ h) (zr_SS (As := [.long (Int32.toInt64 p1), .long 0, .long 7]) (rest := []) O hE.1 3 gX12_copy_X12_in rfl rfl rfl (by decide +kernel) ⟨(Nat.le_of_ble_eq_true rfl), (Nat.le_of_ble_eq_true rfl)⟩ ⟨(Nat.le_of_ble_eq_true rfl), (Nat.le_of_ble_eq_true rfl)⟩ rfl rfl (Nat.le_of_ble_eq_true rfl) dX12_copy_11) (fun r2 h => ?_)
  refine z_if_eq O 29 dX12_copy_14 (by decide) (fun c23 => ?_) (fun c23 => ?_)
  · replace h := h.1 c23
    refine z_iconst (v := -1) O dX12_copy_29 rfl ?_
    exact z_retWR O hE (Nat.le_of_ble_eq_true rfl) (Nat.le_of_ble_eq_true rfl) rfl dX12_copy_30 h
  · replace h := h.2 c23
    refine z_iload_n O dX12_copy_17 3 rfl ?_
    refine z_i2l O dX12_copy_18 ?_
    refine z_lconst (v := 0) O dX12_copy_19 rfl ?_
    refine z_ldc2 (v := 7) O (by decide +kernel) dX12_copy_20 ?_
    refine z_callR (gKs D cs) hK (fun _ h => h) (t_X12_in (gKs D cs) (Int32.toInt64 p3) 0 7 _ h) (zr_SS (As := [.long (Int32.toInt64 p3), .long 0, .long 7]) (rest := []) O hE.1 3 gX12_copy_X12_in rfl rfl rfl (by decide +kernel) ⟨(Nat.le_of_ble_eq_true rfl), (Nat.le_of_ble_eq_true rfl)⟩ ⟨(Nat.le_of_ble_eq_true rfl), (Nat.le_of_ble_eq_true rfl)⟩ rfl rfl (Nat.le_of_ble_eq_true rfl) dX12_copy_23) (fun r3 h => ?_)
    refine z_if_ne O 31 dX12_copy_26 (by decide) (fun c22 => ?_) (fun c22 => ?_)
    · replace h := h.1 c22
      refine z_aload_n O dX12_copy_31 0 rfl ?_
      refine z_getf O hK.1 (hX _) (by decide) me_0 rfl i12 22 (by decide) (by decide +kernel) rfl dX12_copy_32 ?_
      refine z_iload_n O dX12_copy_35 1 rfl ?_
      refine z_iald O hK.1 (hX _) 0 (mk_lt mk_11) (me_A mk_11) rfl (show vp_in p1 (mlen 11) from h.1) dX12_copy_36 ?_
      replace h := h.2
      refine z_if_eq O 49 dX12_copy_37 (by decide) (fun c21 => ?_) (fun c21 => ?_)
      · replace h := h.1 c21
        refine z_bipush (v := -11) O dX12_copy_49 rfl ?_
        exact z_retWR O hE (Nat.le_of_ble_eq_true rfl) (Nat.le_of_ble_eq_true rfl) rfl dX12_copy_51 h
      · replace h := h.2 c21
        refine z_aload_n O dX12_copy_40 0 rfl ?_
        refine z_getf O hK.1 (hX _) (by decide) me_0 rfl i12 22 (by decide) (by decide +kernel) rfl dX12_copy_41 ?_
        refine z_iload_n O dX12_copy_44 3 rfl ?_
        refine z_iald O hK.1 (hX _) 0 (mk_lt mk_11) (me_A mk_11) rfl (show vp_in p3 (mlen 11) from h.1) dX12_copy_45 ?_
        replace h := h.2
        refine z_if_ne O 52 dX12_copy_46 (by decide) (fun c20 => ?_) (fun c20 => ?_)
        · replace h := h.1 c20
          refine z_aload_n O dX12_copy_52 0 rfl ?_
          refine z_getf O hK.1 (hX _) (by decide) me_0 rfl i12 22 (by decide) (by decide +kernel) rfl dX12_copy_53 ?_
          refine z_iload_n O dX12_copy_56 1 rfl ?_
          refine z_iald O hK.1 (hX _) 0 (mk_lt mk_11) (me_A mk_11) rfl (show vp_in p1 (mlen 11) from h.1) dX12_copy_57 ?_
          replace h := h.2
          refine z_iconst (v := 2) O dX12_copy_58 rfl ?_
          refine z_icmp_ne O 87 dX12_copy_59 (by decide) (fun c19 => ?_) (fun c19 => ?_)
          · replace h := h.1 c19
            refine z_bipush (v := -12) O dX12_copy_87 rfl ?_
            exact z_retWR O hE (Nat.le_of_ble_eq_true rfl) (Nat.le_of_ble_eq_true rfl) rfl dX12_copy_89 h
          · replace h := h.2 c19
            refine z_aload_n O dX12_copy_62 0 rfl ?_
            refine z_getf O hK.1 (hX _) (by decide) me_0 rfl i12 22 (by decide) (by decide +kernel) rfl dX12_copy_63 ?_
            refine z_iload_n O dX12_copy_66 3 rfl ?_
            refine z_iald O hK.1 (hX _) 0 (mk_lt mk_11) (me_A mk_11) rfl (show vp_in p3 (mlen 11) from h.1) dX12_copy_67 ?_
            replace h := h.2
            refine z_iconst (v := 2) O dX12_copy_68 rfl ?_
            refine z_icmp_ne O 87 dX12_copy_69 (by decide) (fun c18 => ?_) (fun c18 => ?_)
            · replace h := h.1 c18
              refine z_bipush (v := -12) O dX12_copy_87 rfl ?_
              exact z_retWR O hE (Nat.le_of_ble_eq_true rfl) (Nat.le_of_ble_eq_true rfl) rfl dX12_copy_89 h
            · replace h := h.2 c18
              refine z_aload_n O dX12_copy_72 0 rfl ?_
              refine z_getf O hK.1 (hX _) (by decide) me_0 rfl i12 25 (by decide) (by decide +kernel) rfl dX12_copy_73 ?_
              refine z_iload_n O dX12_copy_76 1 rfl ?_
              refine z_iald O hK.1 (hX _) 0 (mk_lt mk_14) (me_A mk_14) rfl (show vp_in p1 (mlen 14) from h.1) dX12_copy_77 ?_
              replace h := h.2
              refine z_aload_n O dX12_copy_78 0 rfl ?_
              refine z_getf O hK.1 (hX _) (by decide) me_0 rfl i12 25 (by decide) (by decide +kernel) rfl dX12_copy_79 ?_
              refine z_iload_n O dX12_copy_82 3 rfl ?_
              refine z_iald O hK.1 (hX _) 0 (mk_lt mk_14) (me_A mk_14) rfl (show vp_in p3 (mlen 14) from h.1) dX12_copy_83 ?_
              replace h := h.2
              refine z_icmp_eq O 90 dX12_copy_84 (by decide) (fun c17 => ?_) (fun c17 => ?_)
              · replace h := h.1 c17
                refine z_iload O dX12_copy_90 5 rfl ?_
                refine z_if_lt O 131 dX12_copy_92 (by decide) (fun c16 => ?_) (fun c16 => ?_)
                · replace h := h.1 c16
                  refine z_bipush (v := -13) O dX12_copy_131 rfl ?_
                  exact z_retWR O hE (Nat.le_of_ble_eq_true rfl) (Nat.le_of_ble_eq_true rfl) rfl dX12_copy_133 h
                · replace h := h.2 c16
                  refine z_iload_n O dX12_copy_95 2 rfl ?_
                  refine z_if_lt O 131 dX12_copy_96 (by decide) (fun c15 => ?_) (fun c15 => ?_)
                  · replace h := h.1 c15
                    refine z_bipush (v := -13) O dX12_copy_131 rfl ?_
                    exact z_retWR O hE (Nat.le_of_ble_eq_true rfl) (Nat.le_of_ble_eq_true rfl) rfl dX12_copy_133 h
                  · replace h := h.2 c15
                    refine z_iload O dX12_copy_99 4 rfl ?_
                    refine z_if_lt O 131 dX12_copy_101 (by decide) (fun c14 => ?_) (fun c14 => ?_)
                    · replace h := h.1 c14
                      refine z_bipush (v := -13) O dX12_copy_131 rfl ?_
                      exact z_retWR O hE (Nat.le_of_ble_eq_true rfl) (Nat.le_of_ble_eq_true rfl) rfl dX12_copy_133 h
                    · replace h := h.2 c14
                      refine z_iload_n O dX12_copy_104 2 rfl ?_
                      refine z_aload_n O dX12_copy_105 0 rfl ?_
                      refine z_getf O hK.1 (hX _) (by decide) me_0 rfl i12 26 (by decide) (by decide +kernel) rfl dX12_copy_106 ?_
                      refine z_iload_n O dX12_copy_109 1 rfl ?_
                      refine z_iald O hK.1 (hX _) 0 (mk_lt mk_15) (me_A mk_15) rfl (show vp_in p1 (mlen 15) from h.1) dX12_copy_110 ?_
                      replace h := h.2
                      refine z_iload O dX12_copy_111 5 rfl ?_
                      refine z_isub O dX12_copy_113 ?_
                      refine z_icmp_gt O 131 dX12_copy_114 (by decide) (fun c13 => ?_) (fun c13 => ?_)
                      · replace h := h.1 c13
                        refine z_bipush (v := -13) O dX12_copy_131 rfl ?_
                        exact z_retWR O hE (Nat.le_of_ble_eq_true rfl) (Nat.le_of_ble_eq_true rfl) rfl dX12_copy_133 h
                      · replace h := h.2 c13
                        refine z_iload O dX12_copy_117 4 rfl ?_
                        refine z_aload_n O dX12_copy_119 0 rfl ?_
                        refine z_getf O hK.1 (hX _) (by decide) me_0 rfl i12 26 (by decide) (by decide +kernel) rfl dX12_copy_120 ?_
                        refine z_iload_n O dX12_copy_123 3 rfl ?_
                        refine z_iald O hK.1 (hX _) 0 (mk_lt mk_15) (me_A mk_15) rfl (show vp_in p3 (mlen 15) from h.1) dX12_copy_124 ?_
                        replace h := h.2
                        refine z_iload O dX12_copy_125 5 rfl ?_
                        refine z_isub O dX12_copy_127 ?_
                        refine z_icmp_le O 134 dX12_copy_128 (by decide) (fun c12 => ?_) (fun c12 => ?_)
                        · replace h := h.1 c12
                          refine z_iconst (v := 0) O dX12_copy_134 rfl ?_
                          refine z_istore (lv' := [(6, .int 0), (0, .ref (ad 0)), (1, .int p1), (2, .int p2), (3, .int p3), (4, .int p4), (5, .int p5)]) O dX12_copy_135 (by decide) rfl ?_
                          obtain ⟨I137, U137, h0, hs⟩ := h
                          have kI137 : ∀ (n : Nat) (y4 : Int32) (x5 : MS), U137 y4 x5 < n → I137 y4 x5 → Z C (zA (wB 18 ad) C.s.heap.size) (MH D cs ad) 7 x5 [(0, .ref (ad 0)), (1, .int p1), (2, .int p2), (3, .int p3), (4, .int p4), (5, .int p5), (6, .int y4)] 0 0 137 [] := by
                            intro n
                            induction n with
                            | zero => intro y4 x5 uI137; exact absurd uI137 (Nat.not_lt_zero _)
                            | succ n iI137 =>
                              intro y4 x5 uI137 h
                              have h := hs y4 x5 h
                              refine z_iload O dX12_copy_137 6 rfl ?_
                              refine z_iload O dX12_copy_139 5 rfl ?_
                              refine z_icmp_ge O 171 dX12_copy_141 (by decide) (fun c11 => ?_) (fun c11 => ?_)
                              · replace h := h.1 c11
                                refine z_iconst (v := 0) O dX12_copy_171 rfl ?_
                                refine z_istore (lv' := [(6, .int 0), (0, .ref (ad 0)), (1, .int p1), (2, .int p2), (3, .int p3), (4, .int p4), (5, .int p5)]) O dX12_copy_172 (by decide) rfl ?_
                                obtain ⟨I174, U174, h0, hs⟩ := h
                                have kI174 : ∀ (n : Nat) (y6 : Int32) (x7 : MS), U174 y6 x7 < n → I174 y6 x7 → Z C (zA (wB 18 ad) C.s.heap.size) (MH D cs ad) 7 x7 [(0, .ref (ad 0)), (3, .int p3), (4, .int p4), (5, .int p5), (6, .int y6)] 0 0 174 [] := by
                                  intro n
                                  induction n with
                                  | zero => intro y6 x7 uI174; exact absurd uI174 (Nat.not_lt_zero _)
                                  | succ n iI174 =>
                                    intro y6 x7 uI174 h
                                    have h := hs y6 x7 h
                                    refine z_iload O dX12_copy_174 4 rfl ?_
                                    refine z_iload O dX12_copy_176 3 rfl ?_
                                    refine z_icmp_ge O 209 dX12_copy_178 (by decide) (fun c9 => ?_) (fun c9 => ?_)
                                    · replace h := h.1 c9
                                      refine z_iload O dX12_copy_209 3 rfl ?_
                                      exact z_retWR O hE (Nat.le_of_ble_eq_true rfl) (Nat.le_of_ble_eq_true rfl) rfl dX12_copy_211 h
                                    · replace h := h.2 c9
                                      refine z_aload_n O dX12_copy_181 0 rfl ?_
                                      refine z_getf O hK.1 (hX _) (by decide) me_0 rfl i12 27 (by decide) (by decide +kernel) rfl dX12_copy_182 ?_
                                      refine z_bipush (v := 100) O dX12_copy_185 rfl ?_
                                      refine z_iload_n O dX12_copy_187 1 rfl ?_
                                      refine z_imul O dX12_copy_188 ?_
                                      refine z_iload O dX12_copy_189 2 rfl ?_
                                      refine z_iadd O dX12_copy_191 ?_
                                      refine z_iload O dX12_copy_192 4 rfl ?_
                                      refine z_iadd O dX12_copy_194 ?_
                                      refine z_aload_n O dX12_copy_195 0 rfl ?_
                                      refine z_getf O hK.1 (hX _) (by decide) me_0 rfl i12 28 (by decide) (by decide +kernel) rfl dX12_copy_196 ?_
                                      refine z_iload O dX12_copy_199 4 rfl ?_
                                      refine z_lald O hK.1 (hX _) 4 (by decide) me_17 rfl (show vp_in y6 (mlen 17) from h.1) dX12_copy_201 ?_
                                      replace h := h.2
                                      have hb0 := h.1
                                      replace h := h.2
                                      obtain ⟨x8, ex8⟩ : ∃ z, z = mJ x7 16 (vp_updL (x7.2.2.1 16) (Int32.toNatClampNeg (((100 * p3) + p4) + y6)) (x7.2.2.1 17 (Int32.toNatClampNeg y6))) := ⟨_, rfl⟩
                                      replace h := h x8 ex8
                                      refine z_last (x' := x8) O hK.1 (hX _) hB hI hA 4 (by decide) me_16 rfl (show vp_in (((100 * p3) + p4) + y6) (mlen 16) from hb0) (by rw [ex8]; exact me_setJ16 _) dX12_copy_202 ?_
                                      refine z_iinc (lv' := [(6, .int (y6 + 1)), (0, .ref (ad 0)), (3, .int p3), (4, .int p4), (5, .int p5)]) O dX12_copy_203 4 rfl rfl (by decide) rfl ?_
                                      refine z_goto O 174 dX12_copy_206 (by decide) ?_
                                      exact z_sub [1, 2, 3, 4, 0] rfl (iI174 (y6 + 1) x8 (Nat.lt_of_lt_of_le h.2 (Nat.le_of_lt_succ uI174)) h.1)
                                exact z_sub [1, 4, 5, 6, 0] rfl (kI174 _ 0 x5 (Nat.lt_succ_self _) h0)
                              · replace h := h.2 c11
                                refine z_aload_n O dX12_copy_144 0 rfl ?_
                                refine z_getf O hK.1 (hX _) (by decide) me_0 rfl i12 28 (by decide) (by decide +kernel) rfl dX12_copy_145 ?_
                                refine z_iload O dX12_copy_148 6 rfl ?_
                                refine z_aload_n O dX12_copy_150 0 rfl ?_
                                refine z_getf O hK.1 (hX _) (by decide) me_0 rfl i12 27 (by decide) (by decide +kernel) rfl dX12_copy_151 ?_
                                refine z_bipush (v := 100) O dX12_copy_154 rfl ?_
                                refine z_iload_n O dX12_copy_156 1 rfl ?_
                                refine z_imul O dX12_copy_157 ?_
                                refine z_iload_n O dX12_copy_158 2 rfl ?_
                                refine z_iadd O dX12_copy_159 ?_
                                refine z_iload O dX12_copy_160 6 rfl ?_
                                refine z_iadd O dX12_copy_162 ?_
                                refine z_lald O hK.1 (hX _) 4 (by decide) me_16 rfl (show vp_in (((100 * p1) + p2) + y4) (mlen 16) from h.1) dX12_copy_163 ?_
                                replace h := h.2
                                have hb0 := h.1
                                replace h := h.2
                                obtain ⟨x10, ex10⟩ : ∃ z, z = mJ x5 17 (vp_updL (x5.2.2.1 17) (Int32.toNatClampNeg y4) (x5.2.2.1 16 (Int32.toNatClampNeg (((100 * p1) + p2) + y4)))) := ⟨_, rfl⟩
                                replace h := h x10 ex10
                                refine z_last (x' := x10) O hK.1 (hX _) hB hI hA 4 (by decide) me_17 rfl (show vp_in y4 (mlen 17) from hb0) (by rw [ex10]; exact me_setJ17 _) dX12_copy_164 ?_
                                refine z_iinc (lv' := [(6, .int (y4 + 1)), (0, .ref (ad 0)), (1, .int p1), (2, .int p2), (3, .int p3), (4, .int p4), (5, .int p5)]) O dX12_copy_165 6 rfl rfl (by decide) rfl ?_
                                refine z_goto O 137 dX12_copy_168 (by decide) ?_
                                exact z_sub [1, 2, 3, 4, 5, 6, 0] rfl (iI137 (y4 + 1) x10 (Nat.lt_of_lt_of_le h.2 (Nat.le_of_lt_succ uI137)) h.1)
                          exact z_sub [1, 2, 3, 4, 5, 6, 0] rfl (kI137 _ 0 x1 (Nat.lt_succ_self _) h0)
                        · replace h := h.2 c12
                          refine z_bipush (v := -13) O dX12_copy_131 rfl ?_
                          exact z_retWR O hE (Nat.le_of_ble_eq_true rfl) (Nat.le_of_ble_eq_true rfl) rfl dX12_copy_133 h
              · replace h := h.2 c17
                refine z_bipush (v := -12) O dX12_copy_87 rfl ?_
                exact z_retWR O hE (Nat.le_of_ble_eq_true rfl) (Nat.le_of_ble_eq_true rfl) rfl dX12_copy_89 h
        · replace h := h.2 c20
          refine z_bipush (v := -11) O dX12_copy_49 rfl ?_
          exact z_retWR O hE (Nat.le_of_ble_eq_true rfl) (Nat.le_of_ble_eq_true rfl) rfl dX12_copy_51 h
    · replace h := h.2 c22
      refine z_iconst (v := -1) O dX12_copy_29 rfl ?_
      exact z_retWR O hE (Nat.le_of_ble_eq_true rfl) (Nat.le_of_ble_eq_true rfl) rfl dX12_copy_30 h
def wp_X12_toll (x : MS)  (p1 : Int32) (Q : Int32 → MS → Prop) : Prop :=
 (∀ x1 : MS, x1 = mI x 6 0 →
 wp_X12_wrongLayer x1 p1 (fun r2 : Int32 =>
 ((0 ≤ r2 →
 (vp_in p1 8 ∧
 (vp_in p1 8 ∧
 wp_X12_tollOf (x1.2.1 12 (Int32.toNatClampNeg p1)) (x1.2.1 13 (Int32.toNatClampNeg p1)) (fun r3 : Int32 =>
 Q r3 x1)))) ∧ (¬ 0 ≤ r2 →
 wp_X12_wrongLayer x1 p1 (fun r4 : Int32 =>
 Q r4 x1)))))
set_option maxHeartbeats 4000000 in
set_option maxRecDepth 100000 in
theorem t_X12_toll {l : Launch} {D : va_G} {cs : Nat → ClassId} {ad : Nat → Nat} (hI : wInj 18 ad) (x : MS)  (p1 : Int32) (Q : Int32 → MS → Prop) (h : wp_X12_toll x  p1 Q) : zWR l yX12_toll wsX12_toll ({ frames := 2, cells := 0, slots := 0, locals := 46 } : Room) (gK D cs) (MH D cs ad) (wB 18 ad) x [.ref (ad 0), .int p1] 0 0 Q := by
  refine zWR_of (cc := cX12_toll) (nL := 2) (ret := (some .int)) (by decide +kernel) rfl (Nat.le_of_ble_eq_true rfl) (fun C hl O hE hK => ?_)
  subst hl
  have hX : ∀ (x : MS) (H : Heap), MH D cs ad x H → va_P D vwCl (wl 18 ad (ME cs ad x)) H := fun _ _ h => h
  have hB : ∀ {x : MS} (H : Heap), va_P D vwCl (wl 18 ad (ME cs ad x)) H → MH D cs ad x H := fun _ h => h
  have hA : ∀ q, wB 18 ad q → zA (wB 18 ad) C.s.heap.size q := fun _ h => Or.inl h
  have i12 : ∀ w ∈ wsX120, w ∈ wsX12_toll := by decide +kernel
  refine z_sub (lv' := [(0, .ref (ad 0)), (1, .int p1)]) [0, 1] rfl ?_
  refine z_aload_n O dX12_toll_0 0 rfl ?_
  refine z_iconst (v := 0) O dX12_toll_1 rfl ?_
  obtain ⟨x1, ex1⟩ : ∃ z, z = mI x 6 0 := ⟨_, rfl⟩
  replace h := h x1 ex1
  refine z_putf (x' := x1) (ty := .int) O hK.1 (hX _) hB hI hA (by decide) me_0 rfl i12 tyX12 tyX12_ok nmX12 6 (by decide) (by decide +kernel) rfl (by decide +kernel) rfl rfl (Nat.le_of_ble_eq_true rfl) (by rw [ex1]; exact me_put rfl rfl rfl) dX12_toll_2 ?_
  refine z_aload_n O dX12_toll_5 0 rfl ?_
  refine z_iload_n O dX12_toll_6 1 rfl ?_
  refine z_callR (gKs D cs) hK (fun _ h => h) (t_X12_wrongLayer x1  p1 _ h) (zr_V (As := [.int p1]) (rest := []) O hE.1 1 gX12_toll_X12_wrongLayer rfl rfl rfl (by decide +kernel) ⟨(Nat.le_of_ble_eq_true rfl), (Nat.le_of_ble_eq_true rfl)⟩ ⟨(Nat.le_of_ble_eq_true rfl), (Nat.le_of_ble_eq_true rfl)⟩ (fun H hH => z_recv hK.1 (hX _ H hH) (by decide) me_0 rfl) rfl rfl (Nat.le_of_ble_eq_true rfl) dX12_toll_7) (fun r2 h => ?_)
  refine z_if_ge O 21 dX12_toll_10 (by decide) (fun c5 => ?_) (fun c5 => ?_)
  · replace h := h.1 c5
    refine z_aload_n O dX12_toll_21 0 rfl ?_
    refine z_getf O hK.1 (hX _) (by decide) me_0 rfl i12 23 (by decide) (by decide +kernel) rfl dX12_toll_22 ?_
    refine z_iload_n O dX12_toll_25 1 rfl ?_
    refine z_iald O hK.1 (hX _) 0 (mk_lt mk_12) (me_A mk_12) rfl (show vp_in p1 (mlen 12) from h.1) dX12_toll_26 ?_
    replace h := h.2
    refine z_aload_n O dX12_toll_27 0 rfl ?_
    refine z_getf O hK.1 (hX _) (by decide) me_0 rfl i12 24 (by decide) (by decide +kernel) rfl dX12_toll_28 ?_
    refine z_iload_n O dX12_toll_31 1 rfl ?_
    refine z_iald O hK.1 (hX _) 0 (mk_lt mk_13) (me_A mk_13) rfl (show vp_in p1 (mlen 13) from h.1) dX12_toll_32 ?_
    replace h := h.2
    refine z_callR (gKs D cs) hK (fun _ h => h) (t_X12_tollOf (gKs D cs) (x1.2.1 12 (Int32.toNatClampNeg p1)) (x1.2.1 13 (Int32.toNatClampNeg p1)) _ h) (zr_SS (As := [.int (x1.2.1 12 (Int32.toNatClampNeg p1)), .int (x1.2.1 13 (Int32.toNatClampNeg p1))]) (rest := []) O hE.1 2 gX12_toll_X12_tollOf rfl rfl rfl (by decide +kernel) ⟨(Nat.le_of_ble_eq_true rfl), (Nat.le_of_ble_eq_true rfl)⟩ ⟨(Nat.le_of_ble_eq_true rfl), (Nat.le_of_ble_eq_true rfl)⟩ rfl rfl (Nat.le_of_ble_eq_true rfl) dX12_toll_33) (fun r3 h => ?_)
    exact z_retWR O hE (Nat.le_of_ble_eq_true rfl) (Nat.le_of_ble_eq_true rfl) rfl dX12_toll_36 h
  · replace h := h.2 c5
    refine z_aload_n O dX12_toll_13 0 rfl ?_
    refine z_iload_n O dX12_toll_14 1 rfl ?_
    refine z_callR (gKs D cs) hK (fun _ h => h) (t_X12_wrongLayer x1  p1 _ h) (zr_V (As := [.int p1]) (rest := []) O hE.1 1 gX12_toll_X12_wrongLayer rfl rfl rfl (by decide +kernel) ⟨(Nat.le_of_ble_eq_true rfl), (Nat.le_of_ble_eq_true rfl)⟩ ⟨(Nat.le_of_ble_eq_true rfl), (Nat.le_of_ble_eq_true rfl)⟩ (fun H hH => z_recv hK.1 (hX _ H hH) (by decide) me_0 rfl) rfl rfl (Nat.le_of_ble_eq_true rfl) dX12_toll_15) (fun r4 h => ?_)
    refine z_goto O 36 dX12_toll_18 (by decide) ?_
    exact z_retWR O hE (Nat.le_of_ble_eq_true rfl) (Nat.le_of_ble_eq_true rfl) rfl dX12_toll_36 h
def wp_X12_toss (x : MS)  (p1 : Int32) (Q : Int32 → MS → Prop) : Prop :=
 (∀ x1 : MS, x1 = mI x 6 0 →
 wp_X12_wrongLayer x1 p1 (fun r2 : Int32 =>
 ((0 ≤ r2 →
 (vp_in p1 8 ∧
 (vp_in p1 8 ∧
 (((x1.2.1 12 (Int32.toNatClampNeg p1)) = 2 →
 Q (-15) x1) ∧ (¬ (x1.2.1 12 (Int32.toNatClampNeg p1)) = 2 →
 ((¬ (x1.2.1 13 (Int32.toNatClampNeg p1)) = 0 →
 ((¬ (x1.2.1 12 (Int32.toNatClampNeg p1)) = 4 →
 ((¬ (x1.2.1 12 (Int32.toNatClampNeg p1)) = 5 →
 Q (x1.2.1 13 (Int32.toNatClampNeg p1)) x1) ∧ ((x1.2.1 12 (Int32.toNatClampNeg p1)) = 5 →
 Q 206 x1))) ∧ ((x1.2.1 12 (Int32.toNatClampNeg p1)) = 4 →
 Q (100 + (x1.2.1 13 (Int32.toNatClampNeg p1))) x1))) ∧ ((x1.2.1 13 (Int32.toNatClampNeg p1)) = 0 →
 Q (-15) x1))))))) ∧ (¬ 0 ≤ r2 →
 wp_X12_wrongLayer x1 p1 (fun r7 : Int32 =>
 Q r7 x1)))))
set_option maxHeartbeats 4000000 in
set_option maxRecDepth 100000 in
theorem t_X12_toss {l : Launch} {D : va_G} {cs : Nat → ClassId} {ad : Nat → Nat} (hI : wInj 18 ad) (x : MS)  (p1 : Int32) (Q : Int32 → MS → Prop) (h : wp_X12_toss x  p1 Q) : zWR l yX12_toss wsX12_toss ({ frames := 2, cells := 0, slots := 0, locals := 46 } : Room) (gK D cs) (MH D cs ad) (wB 18 ad) x [.ref (ad 0), .int p1] 0 0 Q := by
  refine zWR_of (cc := cX12_toss) (nL := 4) (ret := (some .int)) (by decide +kernel) rfl (Nat.le_of_ble_eq_true rfl) (fun C hl O hE hK => ?_)
  subst hl
  have hX : ∀ (x : MS) (H : Heap), MH D cs ad x H → va_P D vwCl (wl 18 ad (ME cs ad x)) H := fun _ _ h => h
  have hB : ∀ {x : MS} (H : Heap), va_P D vwCl (wl 18 ad (ME cs ad x)) H → MH D cs ad x H := fun _ h => h
  have hA : ∀ q, wB 18 ad q → zA (wB 18 ad) C.s.heap.size q := fun _ h => Or.inl h
  have i12 : ∀ w ∈ wsX120, w ∈ wsX12_toss := by decide +kernel
  refine z_sub (lv' := [(0, .ref (ad 0)), (1, .int p1)]) [0, 1] rfl ?_
  refine z_aload_n O dX12_toss_0 0 rfl ?_
  refine z_iconst (v := 0) O dX12_toss_1 rfl ?_
  obtain ⟨x1, ex1⟩ : ∃ z, z = mI x 6 0 := ⟨_, rfl⟩
  replace h := h x1 ex1
  refine z_putf (x' := x1) (ty := .int) O hK.1 (hX _) hB hI hA (by decide) me_0 rfl i12 tyX12 tyX12_ok nmX12 6 (by decide) (by decide +kernel) rfl (by decide +kernel) rfl rfl (Nat.le_of_ble_eq_true rfl) (by rw [ex1]; exact me_put rfl rfl rfl) dX12_toss_2 ?_
  refine z_aload_n O dX12_toss_5 0 rfl ?_
  refine z_iload_n O dX12_toss_6 1 rfl ?_
  refine z_callR (gKs D cs) hK (fun _ h => h) (t_X12_wrongLayer x1  p1 _ h) (zr_V (As := [.int p1]) (rest := []) O hE.1 1 gX12_toss_X12_wrongLayer rfl rfl rfl (by decide +kernel) ⟨(Nat.le_of_ble_eq_true rfl), (Nat.le_of_ble_eq_true rfl)⟩ ⟨(Nat.le_of_ble_eq_true rfl), (Nat.le_of_ble_eq_true rfl)⟩ (fun H hH => z_recv hK.1 (hX _ H hH) (by decide) me_0 rfl) rfl rfl (Nat.le_of_ble_eq_true rfl) dX12_toss_7) (fun r2 h => ?_)
  refine z_if_ge O 19 dX12_toss_10 (by decide) (fun c8 => ?_) (fun c8 => ?_)
  · replace h := h.1 c8
    refine z_aload_n O dX12_toss_19 0 rfl ?_
    refine z_getf O hK.1 (hX _) (by decide) me_0 rfl i12 23 (by decide) (by decide +kernel) rfl dX12_toss_20 ?_
    refine z_iload_n O dX12_toss_23 1 rfl ?_
    refine z_iald O hK.1 (hX _) 0 (mk_lt mk_12) (me_A mk_12) rfl (show vp_in p1 (mlen 12) from h.1) dX12_toss_24 ?_
    replace h := h.2
    refine z_istore_n (lv' := [(2, .int (x1.2.1 12 (Int32.toNatClampNeg p1))), (0, .ref (ad 0)), (1, .int p1)]) O dX12_toss_25 (by decide) rfl ?_
    refine z_aload_n O dX12_toss_26 1 rfl ?_
    refine z_getf O hK.1 (hX _) (by decide) me_0 rfl i12 24 (by decide) (by decide +kernel) rfl dX12_toss_27 ?_
    refine z_iload_n O dX12_toss_30 2 rfl ?_
    refine z_iald O hK.1 (hX _) 0 (mk_lt mk_13) (me_A mk_13) rfl (show vp_in p1 (mlen 13) from h.1) dX12_toss_31 ?_
    replace h := h.2
    refine z_istore_n (lv' := [(3, .int (x1.2.1 13 (Int32.toNatClampNeg p1))), (2, .int (x1.2.1 12 (Int32.toNatClampNeg p1))), (0, .ref (ad 0)), (1, .int p1)]) O dX12_toss_32 (by decide) rfl ?_
    refine z_iload_n O dX12_toss_33 1 rfl ?_
    refine z_iconst (v := 2) O dX12_toss_34 rfl ?_
    refine z_icmp_eq O 42 dX12_toss_35 (by decide) (fun c6 => ?_) (fun c6 => ?_)
    · replace h := h.1 c6
      refine z_bipush (v := -15) O dX12_toss_42 rfl ?_
      exact z_retWR O hE (Nat.le_of_ble_eq_true rfl) (Nat.le_of_ble_eq_true rfl) rfl dX12_toss_44 h
    · replace h := h.2 c6
      refine z_iload_n O dX12_toss_38 0 rfl ?_
      refine z_if_ne O 45 dX12_toss_39 (by decide) (fun c5 => ?_) (fun c5 => ?_)
      · replace h := h.1 c5
        refine z_iload_n O dX12_toss_45 1 rfl ?_
        refine z_iconst (v := 4) O dX12_toss_46 rfl ?_
        refine z_icmp_ne O 57 dX12_toss_47 (by decide) (fun c4 => ?_) (fun c4 => ?_)
        · replace h := h.1 c4
          refine z_iload_n O dX12_toss_57 1 rfl ?_
          refine z_iconst (v := 5) O dX12_toss_58 rfl ?_
          refine z_icmp_ne O 68 dX12_toss_59 (by decide) (fun c3 => ?_) (fun c3 => ?_)
          · replace h := h.1 c3
            refine z_iload_n O dX12_toss_68 0 rfl ?_
            exact z_retWR O hE (Nat.le_of_ble_eq_true rfl) (Nat.le_of_ble_eq_true rfl) rfl dX12_toss_69 h
          · replace h := h.2 c3
            refine z_sipush (v := 206) O dX12_toss_62 rfl ?_
            refine z_goto O 69 dX12_toss_65 (by decide) ?_
            exact z_retWR O hE (Nat.le_of_ble_eq_true rfl) (Nat.le_of_ble_eq_true rfl) rfl dX12_toss_69 h
        · replace h := h.2 c4
          refine z_bipush (v := 100) O dX12_toss_50 rfl ?_
          refine z_iload_n O dX12_toss_52 0 rfl ?_
          refine z_iadd O dX12_toss_53 ?_
          refine z_goto O 69 dX12_toss_54 (by decide) ?_
          exact z_retWR O hE (Nat.le_of_ble_eq_true rfl) (Nat.le_of_ble_eq_true rfl) rfl dX12_toss_69 h
      · replace h := h.2 c5
        refine z_bipush (v := -15) O dX12_toss_42 rfl ?_
        exact z_retWR O hE (Nat.le_of_ble_eq_true rfl) (Nat.le_of_ble_eq_true rfl) rfl dX12_toss_44 h
  · replace h := h.2 c8
    refine z_aload_n O dX12_toss_13 0 rfl ?_
    refine z_iload_n O dX12_toss_14 1 rfl ?_
    refine z_callR (gKs D cs) hK (fun _ h => h) (t_X12_wrongLayer x1  p1 _ h) (zr_V (As := [.int p1]) (rest := []) O hE.1 1 gX12_toss_X12_wrongLayer rfl rfl rfl (by decide +kernel) ⟨(Nat.le_of_ble_eq_true rfl), (Nat.le_of_ble_eq_true rfl)⟩ ⟨(Nat.le_of_ble_eq_true rfl), (Nat.le_of_ble_eq_true rfl)⟩ (fun H hH => z_recv hK.1 (hX _ H hH) (by decide) me_0 rfl) rfl rfl (Nat.le_of_ble_eq_true rfl) dX12_toss_15) (fun r7 h => ?_)
    exact z_retWR O hE (Nat.le_of_ble_eq_true rfl) (Nat.le_of_ble_eq_true rfl) rfl dX12_toss_18 h
