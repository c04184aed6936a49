def wp_X9_takeLayer (x : XS) (d : Nat) (p1 : Int32) (p2 : Int32) (Q : XS → Prop) : Prop :=
 (∀ x1 : XS, x1 = xI x d 1 1 →
 (∀ x2 : XS, x2 = xI x1 d 2 p1 →
 (∀ x3 : XS, x3 = xI x2 d 3 p2 →
 Q x3)))
set_option maxHeartbeats 4000000 in
set_option maxRecDepth 100000 in
theorem t_X9_takeLayer {l : Launch} {D : va_G} {cs : Nat → ClassId} {ad : Nat → Nat} (hI : wInj 161 ad) (x : XS) (d : Nat) (hd : xk d 9) (p1 : Int32) (p2 : Int32) (Q : XS → Prop) (h : wp_X9_takeLayer x d p1 p2 Q) : zWV l yX9_takeLayer wsX9_takeLayer ({ frames := 0, cells := 0, slots := 0, locals := 0 } : Room) (gK D cs) (XH D cs ad) (wB 161 ad) x [.ref (ad d), .int p1, .int p2] 0 0 Q := by
  refine zWV_of (cc := cX9_takeLayer) (nL := 3) (ret := none) (by decide +kernel) rfl (Nat.le_of_ble_eq_true rfl) (fun C hl O hE hK => ?_)
  subst hl
  have hX : ∀ (x : XS) (H : Heap), XH D cs ad x H → va_P D vwCl (wl 161 ad (XE cs ad x)) H := fun _ _ h => h
  have hB : ∀ {x : XS} (H : Heap), va_P D vwCl (wl 161 ad (XE cs ad x)) H → XH D cs ad x H := fun _ h => h
  have hA : ∀ q, wB 161 ad q → zA (wB 161 ad) C.s.heap.size q := fun _ h => Or.inl h
  have i9 : ∀ w ∈ wsX90, w ∈ wsX9_takeLayer := by decide +kernel
  refine z_sub (lv' := [(0, .ref (ad d)), (1, .int p1), (2, .int p2)]) [0, 1, 2] rfl ?_
  refine z_aload_n O dX9_takeLayer_0 0 rfl ?_
  refine z_iconst (v := 1) O dX9_takeLayer_1 rfl ?_
  obtain ⟨x1, ex1⟩ : ∃ z, z = xI x d 1 1 := ⟨_, rfl⟩
  replace h := h x1 ex1
  refine z_putf (x' := x1) (ty := .int) O hK.1 (hX _) hB hI hA (hd).1 (xe_9 hd) rfl i9 tyX9 tyX9_ok nmX9 1 (by decide) (by decide +kernel) rfl (by decide +kernel) rfl rfl (Nat.le_of_ble_eq_true rfl) (by rw [ex1]; exact xe_put9_1 hd 1) dX9_takeLayer_2 ?_
  refine z_aload_n O dX9_takeLayer_5 0 rfl ?_
  refine z_iload_n O dX9_takeLayer_6 1 rfl ?_
  obtain ⟨x2, ex2⟩ : ∃ z, z = xI x1 d 2 p1 := ⟨_, rfl⟩
  replace h := h x2 ex2
  refine z_putf (x' := x2) (ty := .int) O hK.1 (hX _) hB hI hA (hd).1 (xe_9 hd) rfl i9 tyX9 tyX9_ok nmX9 2 (by decide) (by decide +kernel) rfl (by decide +kernel) rfl rfl (Nat.le_of_ble_eq_true rfl) (by rw [ex2]; exact xe_put9_2 hd p1) dX9_takeLayer_7 ?_
  refine z_aload_n O dX9_takeLayer_10 0 rfl ?_
  refine z_iload_n O dX9_takeLayer_11 2 rfl ?_
  obtain ⟨x3, ex3⟩ : ∃ z, z = xI x2 d 3 p2 := ⟨_, rfl⟩
  replace h := h x3 ex3
  refine z_putf (x' := x3) (ty := .int) O hK.1 (hX _) hB hI hA (hd).1 (xe_9 hd) rfl i9 tyX9 tyX9_ok nmX9 3 (by decide) (by decide +kernel) rfl (by decide +kernel) rfl rfl (Nat.le_of_ble_eq_true rfl) (by rw [ex3]; exact xe_put9_3 hd p2) dX9_takeLayer_12 ?_
  exact z_retWV O hE (Nat.le_of_ble_eq_true rfl) (Nat.le_of_ble_eq_true rfl) dX9_takeLayer_15 h
def wp_X9_takeRow (x : XS) (d : Nat) (p1 : Int32) (p2 : Int32) (Q : XS → Prop) : Prop :=
 (∀ x1 : XS, x1 = xI x d 1 2 →
 (∀ x2 : XS, x2 = xI x1 d 4 p1 →
 (∀ x3 : XS, x3 = xI x2 d 5 p2 →
 wp_J7_fill_53178 x3 (d + 1) 0 (fun (x4 : XS) =>
 Q x4))))
set_option maxHeartbeats 4000000 in
set_option maxRecDepth 100000 in
theorem t_X9_takeRow {l : Launch} {D : va_G} {cs : Nat → ClassId} {ad : Nat → Nat} (hI : wInj 161 ad) (x : XS) (d : Nat) (hd : xk d 9) (p1 : Int32) (p2 : Int32) (Q : XS → Prop) (h : wp_X9_takeRow x d p1 p2 Q) : zWV l yX9_takeRow wsX9_takeRow ({ frames := 1, cells := 0, slots := 0, locals := 23 } : Room) (gK D cs) (XH D cs ad) (wB 161 ad) x [.ref (ad d), .int p1, .int p2] 0 0 Q := by
  refine zWV_of (cc := cX9_takeRow) (nL := 3) (ret := none) (by decide +kernel) rfl (Nat.le_of_ble_eq_true rfl) (fun C hl O hE hK => ?_)
  subst hl
  have hX : ∀ (x : XS) (H : Heap), XH D cs ad x H → va_P D vwCl (wl 161 ad (XE cs ad x)) H := fun _ _ h => h
  have hB : ∀ {x : XS} (H : Heap), va_P D vwCl (wl 161 ad (XE cs ad x)) H → XH D cs ad x H := fun _ h => h
  have hA : ∀ q, wB 161 ad q → zA (wB 161 ad) C.s.heap.size q := fun _ h => Or.inl h
  have i9 : ∀ w ∈ wsX90, w ∈ wsX9_takeRow := by decide +kernel
  refine z_sub (lv' := [(0, .ref (ad d)), (1, .int p1), (2, .int p2)]) [0, 1, 2] rfl ?_
  refine z_aload_n O dX9_takeRow_0 0 rfl ?_
  refine z_iconst (v := 2) O dX9_takeRow_1 rfl ?_
  obtain ⟨x1, ex1⟩ : ∃ z, z = xI x d 1 2 := ⟨_, rfl⟩
  replace h := h x1 ex1
  refine z_putf (x' := x1) (ty := .int) O hK.1 (hX _) hB hI hA (hd).1 (xe_9 hd) rfl i9 tyX9 tyX9_ok nmX9 1 (by decide) (by decide +kernel) rfl (by decide +kernel) rfl rfl (Nat.le_of_ble_eq_true rfl) (by rw [ex1]; exact xe_put9_1 hd 2) dX9_takeRow_2 ?_
  refine z_aload_n O dX9_takeRow_5 0 rfl ?_
  refine z_iload_n O dX9_takeRow_6 1 rfl ?_
  obtain ⟨x2, ex2⟩ : ∃ z, z = xI x1 d 4 p1 := ⟨_, rfl⟩
  replace h := h x2 ex2
  refine z_putf (x' := x2) (ty := .int) O hK.1 (hX _) hB hI hA (hd).1 (xe_9 hd) rfl i9 tyX9 tyX9_ok nmX9 4 (by decide) (by decide +kernel) rfl (by decide +kernel) rfl rfl (Nat.le_of_ble_eq_true rfl) (by rw [ex2]; exact xe_put9_4 hd p1) dX9_takeRow_7 ?_
  refine z_aload_n O dX9_takeRow_10 0 rfl ?_
  refine z_iload_n O dX9_takeRow_11 2 rfl ?_
  obtain ⟨x3, ex3⟩ : ∃ z, z = xI x2 d 5 p2 := ⟨_, rfl⟩
  replace h := h x3 ex3
  refine z_putf (x' := x3) (ty := .int) O hK.1 (hX _) hB hI hA (hd).1 (xe_9 hd) rfl i9 tyX9 tyX9_ok nmX9 5 (by decide) (by decide +kernel) rfl (by decide +kernel) rfl rfl (Nat.le_of_ble_eq_true rfl) (by rw [ex3]; exact xe_put9_5 hd p2) dX9_takeRow_12 ?_
  refine z_aload_n O dX9_takeRow_15 0 rfl ?_
  refine z_getf O hK.1 (hX _) (hd).1 (xe_9 hd) rfl i9 0 (by decide) (by decide +kernel) rfl dX9_takeRow_16 ?_
  refine z_iconst (v := 0) O dX9_takeRow_19 rfl ?_
  refine z_cWV (gKs D cs) hK (fun _ h => h) (fun _ h => Or.inl h) (fun _ h => Or.inr h) (t_J7_fill_53178 hI x3 (d + 1) (xk_s hd) 0 _ h) (zr_SS (As := [.ref (ad (d + 1)), .int 0]) (rest := []) O hE.1 2 gX9_takeRow_J7_fill_53178 rfl rfl rfl (by decide +kernel) ⟨(Nat.le_of_ble_eq_true rfl), (Nat.le_of_ble_eq_true rfl)⟩ ⟨(Nat.le_of_ble_eq_true rfl), (Nat.le_of_ble_eq_true rfl)⟩ rfl rfl (Nat.le_of_ble_eq_true rfl) dX9_takeRow_20) (fun x4 h => ?_)
  exact z_retWV O hE (Nat.le_of_ble_eq_true rfl) (Nat.le_of_ble_eq_true rfl) dX9_takeRow_23 h
def wp_X9_lacks (x : XS) (d : Nat) (p1 : Int32) (Q : Int32 → Prop) : Prop :=
 ((¬ (x.1 d 1) = 0 →
 ((¬ (x.1 d 1) = p1 →
 Q (-12)) ∧ ((x.1 d 1) = p1 →
 Q 0))) ∧ ((x.1 d 1) = 0 →
 Q (-11)))
set_option maxHeartbeats 4000000 in
set_option maxRecDepth 100000 in
theorem t_X9_lacks {l : Launch} {D : va_G} {cs : Nat → ClassId} {ad : Nat → Nat} (x : XS) (d : Nat) (hd : xk d 9) (p1 : Int32) (Q : Int32 → Prop) (h : wp_X9_lacks x d p1 Q) : zMR l yX9_lacks wsX9_lacks ({ frames := 0, cells := 0, slots := 0, locals := 0 } : Room) (gK D cs) (XH D cs ad) x [.ref (ad d), .int p1] Q := by
  refine zMR_of (cc := cX9_lacks) (nL := 2) (ret := (some .int)) (by decide +kernel) rfl (Nat.le_of_ble_eq_true rfl) (fun C hl O hE hK hH => ?_)
  subst hl
  have hX : ∀ (x : XS) (H : Heap), z0 (XH D cs ad) C.s.heap x H → va_P D vwCl (wl 161 ad (XE cs ad x)) H := fun _ _ h => h.2
  have i9 : ∀ w ∈ wsX90, w ∈ wsX9_lacks := by decide +kernel
  refine z_sub (lv' := [(0, .ref (ad d)), (1, .int p1)]) [0, 1] rfl ?_
  refine z_aload_n O dX9_lacks_0 0 rfl ?_
  refine z_getf O hK.1 (hX _) (hd).1 (xe_9 hd) rfl i9 1 (by decide) (by decide +kernel) rfl dX9_lacks_1 ?_
  refine z_if_ne O 10 dX9_lacks_4 (by decide) (fun c2 => ?_) (fun c2 => ?_)
  · replace h := h.1 c2
    refine z_aload_n O dX9_lacks_10 0 rfl ?_
    refine z_getf O hK.1 (hX _) (hd).1 (xe_9 hd) rfl i9 1 (by decide) (by decide +kernel) rfl dX9_lacks_11 ?_
    refine z_iload_n O dX9_lacks_14 1 rfl ?_
    refine z_icmp_ne O 22 dX9_lacks_15 (by decide) (fun c1 => ?_) (fun c1 => ?_)
    · replace h := h.1 c1
      refine z_bipush (v := -12) O dX9_lacks_22 rfl ?_
      exact z_retR O hE (fun _ h => h.1) rfl dX9_lacks_24 h
    · replace h := h.2 c1
      refine z_iconst (v := 0) O dX9_lacks_18 rfl ?_
      refine z_goto O 24 dX9_lacks_19 (by decide) ?_
      exact z_retR O hE (fun _ h => h.1) rfl dX9_lacks_24 h
  · replace h := h.2 c2
    refine z_bipush (v := -11) O dX9_lacks_7 rfl ?_
    exact z_retR O hE (fun _ h => h.1) rfl dX9_lacks_9 h
def wp_X9_hasPlace (x : XS) (d : Nat) (p1 : Int32) (Q : Int32 → Prop) : Prop :=
 ((p1 < 0 →
 Q 0) ∧ (¬ p1 < 0 →
 (((x.1 d 5) ≤ p1 →
 Q 0) ∧ (¬ (x.1 d 5) ≤ p1 →
 ((100 ≤ p1 →
 Q 0) ∧ (¬ 100 ≤ p1 →
 Q 1))))))
set_option maxHeartbeats 4000000 in
set_option maxRecDepth 100000 in
theorem t_X9_hasPlace {l : Launch} {D : va_G} {cs : Nat → ClassId} {ad : Nat → Nat} (x : XS) (d : Nat) (hd : xk d 9) (p1 : Int32) (Q : Int32 → Prop) (h : wp_X9_hasPlace x d p1 Q) : zMR l yX9_hasPlace wsX9_hasPlace ({ frames := 0, cells := 0, slots := 0, locals := 0 } : Room) (gK D cs) (XH D cs ad) x [.ref (ad d), .int p1] Q := by
  refine zMR_of (cc := cX9_hasPlace) (nL := 2) (ret := (some .boolean)) (by decide +kernel) rfl (Nat.le_of_ble_eq_true rfl) (fun C hl O hE hK hH => ?_)
  subst hl
  have hX : ∀ (x : XS) (H : Heap), z0 (XH D cs ad) C.s.heap x H → va_P D vwCl (wl 161 ad (XE cs ad x)) H := fun _ _ h => h.2
  have i9 : ∀ w ∈ wsX90, w ∈ wsX9_hasPlace := by decide +kernel
  refine z_sub (lv' := [(0, .ref (ad d)), (1, .int p1)]) [0, 1] rfl ?_
  refine z_iload_n O dX9_hasPlace_0 1 rfl ?_
  refine z_if_lt O 25 dX9_hasPlace_1 (by decide) (fun c3 => ?_) (fun c3 => ?_)
  · replace h := h.1 c3
    refine z_iconst (v := 0) O dX9_hasPlace_25 rfl ?_
    exact z_retR O hE (fun _ h => h.1) rfl dX9_hasPlace_26 h
  · replace h := h.2 c3
    refine z_iload_n O dX9_hasPlace_4 1 rfl ?_
    refine z_aload_n O dX9_hasPlace_5 0 rfl ?_
    refine z_getf O hK.1 (hX _) (hd).1 (xe_9 hd) rfl i9 5 (by decide) (by decide +kernel) rfl dX9_hasPlace_6 ?_
    refine z_icmp_ge O 25 dX9_hasPlace_9 (by decide) (fun c2 => ?_) (fun c2 => ?_)
    · replace h := h.1 c2
      refine z_iconst (v := 0) O dX9_hasPlace_25 rfl ?_
      exact z_retR O hE (fun _ h => h.1) rfl dX9_hasPlace_26 h
    · replace h := h.2 c2
      refine z_iload_n O dX9_hasPlace_12 1 rfl ?_
      refine z_aload_n O dX9_hasPlace_13 0 rfl ?_
      refine z_getf O hK.1 (hX _) (hd).1 (xe_9 hd) rfl i9 0 (by decide) (by decide +kernel) rfl dX9_hasPlace_14 ?_
      refine z_alen (v := 100) O hK.1 (hX _) 0 ((xk_s hd)).1 (xe_20 (xk_s hd)) rfl (show Int32.ofNat (xlen (d + 1)) = 100 from (by rw [(xk_sl hd)]; rfl)) dX9_hasPlace_17 ?_
      refine z_icmp_ge O 25 dX9_hasPlace_18 (by decide) (fun c1 => ?_) (fun c1 => ?_)
      · replace h := h.1 c1
        refine z_iconst (v := 0) O dX9_hasPlace_25 rfl ?_
        exact z_retR O hE (fun _ h => h.1) rfl dX9_hasPlace_26 h
      · replace h := h.2 c1
        refine z_iconst (v := 1) O dX9_hasPlace_21 rfl ?_
        refine z_goto O 26 dX9_hasPlace_22 (by decide) ?_
        exact z_retR O hE (fun _ h => h.1) rfl dX9_hasPlace_26 h
def wp_X9_hasStretch (x : XS) (d : Nat) (p1 : Int32) (p2 : Int32) (Q : Int32 → Prop) : Prop :=
 ((p1 < 0 →
 Q 0) ∧ (¬ p1 < 0 →
 (((x.1 d 5) < p1 →
 Q 0) ∧ (¬ (x.1 d 5) < p1 →
 ((p2 < 0 →
 Q 0) ∧ (¬ p2 < 0 →
 ((((x.1 d 5) - p1) < p2 →
 Q 0) ∧ (¬ ((x.1 d 5) - p1) < p2 →
 Q 1))))))))
set_option maxHeartbeats 4000000 in
set_option maxRecDepth 100000 in
theorem t_X9_hasStretch {l : Launch} {D : va_G} {cs : Nat → ClassId} {ad : Nat → Nat} (x : XS) (d : Nat) (hd : xk d 9) (p1 : Int32) (p2 : Int32) (Q : Int32 → Prop) (h : wp_X9_hasStretch x d p1 p2 Q) : zMR l yX9_hasStretch wsX9_hasStretch ({ frames := 0, cells := 0, slots := 0, locals := 0 } : Room) (gK D cs) (XH D cs ad) x [.ref (ad d), .int p1, .int p2] Q := by
  refine zMR_of (cc := cX9_hasStretch) (nL := 3) (ret := (some .boolean)) (by decide +kernel) rfl (Nat.le_of_ble_eq_true rfl) (fun C hl O hE hK hH => ?_)
  subst hl
  have hX : ∀ (x : XS) (H : Heap), z0 (XH D cs ad) C.s.heap x H → va_P D vwCl (wl 161 ad (XE cs ad x)) H := fun _ _ h => h.2
  have i9 : ∀ w ∈ wsX90, w ∈ wsX9_hasStretch := by decide +kernel
  refine z_sub (lv' := [(0, .ref (ad d)), (1, .int p1), (2, .int p2)]) [0, 1, 2] rfl ?_
  refine z_iload_n O dX9_hasStretch_0 1 rfl ?_
  refine z_if_lt O 30 dX9_hasStretch_1 (by decide) (fun c4 => ?_) (fun c4 => ?_)
  · replace h := h.1 c4
    refine z_iconst (v := 0) O dX9_hasStretch_30 rfl ?_
    exact z_retR O hE (fun _ h => h.1) rfl dX9_hasStretch_31 h
  · replace h := h.2 c4
    refine z_iload_n O dX9_hasStretch_4 1 rfl ?_
    refine z_aload_n O dX9_hasStretch_5 0 rfl ?_
    refine z_getf O hK.1 (hX _) (hd).1 (xe_9 hd) rfl i9 5 (by decide) (by decide +kernel) rfl dX9_hasStretch_6 ?_
    refine z_icmp_gt O 30 dX9_hasStretch_9 (by decide) (fun c3 => ?_) (fun c3 => ?_)
    · replace h := h.1 c3
      refine z_iconst (v := 0) O dX9_hasStretch_30 rfl ?_
      exact z_retR O hE (fun _ h => h.1) rfl dX9_hasStretch_31 h
    · replace h := h.2 c3
      refine z_iload_n O dX9_hasStretch_12 2 rfl ?_
      refine z_if_lt O 30 dX9_hasStretch_13 (by decide) (fun c2 => ?_) (fun c2 => ?_)
      · replace h := h.1 c2
        refine z_iconst (v := 0) O dX9_hasStretch_30 rfl ?_
        exact z_retR O hE (fun _ h => h.1) rfl dX9_hasStretch_31 h
      · replace h := h.2 c2
        refine z_iload_n O dX9_hasStretch_16 2 rfl ?_
        refine z_aload_n O dX9_hasStretch_17 0 rfl ?_
        refine z_getf O hK.1 (hX _) (hd).1 (xe_9 hd) rfl i9 5 (by decide) (by decide +kernel) rfl dX9_hasStretch_18 ?_
        refine z_iload_n O dX9_hasStretch_21 1 rfl ?_
        refine z_isub O dX9_hasStretch_22 ?_
        refine z_icmp_gt O 30 dX9_hasStretch_23 (by decide) (fun c1 => ?_) (fun c1 => ?_)
        · replace h := h.1 c1
          refine z_iconst (v := 0) O dX9_hasStretch_30 rfl ?_
          exact z_retR O hE (fun _ h => h.1) rfl dX9_hasStretch_31 h
        · replace h := h.2 c1
          refine z_iconst (v := 1) O dX9_hasStretch_26 rfl ?_
          refine z_goto O 31 dX9_hasStretch_27 (by decide) ?_
          exact z_retR O hE (fun _ h => h.1) rfl dX9_hasStretch_31 h
def wp_X9_valueAt (x : XS) (d : Nat) (p1 : Int32) (Q : Int32 → Prop) : Prop :=
 wp_X9_hasPlace x d p1 (fun r1 : Int32 =>
 ((r1 = 0 →
 Q 0) ∧ (¬ r1 = 0 →
 (vp_in p1 100 ∧
 Q (x.2.1 (d + 1) (Int32.toNatClampNeg p1))))))
set_option maxHeartbeats 4000000 in
set_option maxRecDepth 100000 in
theorem t_X9_valueAt {l : Launch} {D : va_G} {cs : Nat → ClassId} {ad : Nat → Nat} (x : XS) (d : Nat) (hd : xk d 9) (p1 : Int32) (Q : Int32 → Prop) (h : wp_X9_valueAt x d p1 Q) : zMR l yX9_valueAt wsX9_valueAt ({ frames := 1, cells := 0, slots := 0, locals := 21 } : Room) (gK D cs) (XH D cs ad) x [.ref (ad d), .int p1] Q := by
  refine zMR_of (cc := cX9_valueAt) (nL := 2) (ret := (some .int)) (by decide +kernel) rfl (Nat.le_of_ble_eq_true rfl) (fun C hl O hE hK hH => ?_)
  subst hl
  have hX : ∀ (x : XS) (H : Heap), z0 (XH D cs ad) C.s.heap x H → va_P D vwCl (wl 161 ad (XE cs ad x)) H := fun _ _ h => h.2
  have i9 : ∀ w ∈ wsX90, w ∈ wsX9_valueAt := by decide +kernel
  refine z_sub (lv' := [(0, .ref (ad d)), (1, .int p1)]) [0, 1] rfl ?_
  refine z_aload_n O dX9_valueAt_0 0 rfl ?_
  refine z_iload_n O dX9_valueAt_1 1 rfl ?_
  refine z_callR (gKs D cs) hK (fun _ h => h.2) (t_X9_hasPlace x d hd p1 _ h) (zr_V (As := [.int p1]) (rest := []) O hE.1 1 gX9_valueAt_X9_hasPlace rfl rfl rfl (by decide +kernel) ⟨(Nat.le_of_ble_eq_true rfl), (Nat.le_of_ble_eq_true rfl)⟩ ⟨(Nat.le_of_ble_eq_true rfl), (Nat.le_of_ble_eq_true rfl)⟩ (fun H hH => z_recv hK.1 (hX _ H hH) (hd).1 (xe_9 hd) rfl) rfl rfl (Nat.le_of_ble_eq_true rfl) dX9_valueAt_2) (fun r1 h => ?_)
  refine z_if_eq O 17 dX9_valueAt_5 (by decide) (fun c2 => ?_) (fun c2 => ?_)
  · replace h := h.1 c2
    refine z_iconst (v := 0) O dX9_valueAt_17 rfl ?_
    exact z_retR O hE (fun _ h => h.1) rfl dX9_valueAt_18 h
  · replace h := h.2 c2
    refine z_aload_n O dX9_valueAt_8 0 rfl ?_
    refine z_getf O hK.1 (hX _) (hd).1 (xe_9 hd) rfl i9 0 (by decide) (by decide +kernel) rfl dX9_valueAt_9 ?_
    refine z_iload_n O dX9_valueAt_12 1 rfl ?_
    refine z_iald O hK.1 (hX _) 0 ((xk_s hd)).1 (xe_20 (xk_s hd)) rfl (xin (xk_sl hd) h.1) dX9_valueAt_13 ?_
    replace h := h.2
    refine z_goto O 18 dX9_valueAt_14 (by decide) ?_
    exact z_retR O hE (fun _ h => h.1) rfl dX9_valueAt_18 h
def wp_X9_digitAt (x : XS) (d : Nat) (p1 : Int32) (Q : Int32 → Prop) : Prop :=
 wp_X9_valueAt x d p1 (fun r1 : Int32 =>
 wp_X11_within r1 48 57 (fun r2 : Int32 =>
 ((r2 = 0 →
 Q (-1)) ∧ (¬ r2 = 0 →
 Q (r1 - 48)))))
set_option maxHeartbeats 4000000 in
set_option maxRecDepth 100000 in
theorem t_X9_digitAt {l : Launch} {D : va_G} {cs : Nat → ClassId} {ad : Nat → Nat} (x : XS) (d : Nat) (hd : xk d 9) (p1 : Int32) (Q : Int32 → Prop) (h : wp_X9_digitAt x d p1 Q) : zMR l yX9_digitAt wsX9_digitAt ({ frames := 2, cells := 0, slots := 0, locals := 42 } : Room) (gK D cs) (XH D cs ad) x [.ref (ad d), .int p1] Q := by
  refine zMR_of (cc := cX9_digitAt) (nL := 3) (ret := (some .int)) (by decide +kernel) rfl (Nat.le_of_ble_eq_true rfl) (fun C hl O hE hK hH => ?_)
  subst hl
  have hX : ∀ (x : XS) (H : Heap), z0 (XH D cs ad) C.s.heap x H → va_P D vwCl (wl 161 ad (XE cs ad x)) H := fun _ _ h => h.2
  refine z_sub (lv' := [(0, .ref (ad d)), (1, .int p1)]) [0, 1] rfl ?_
  refine z_aload_n O dX9_digitAt_0 0 rfl ?_
  refine z_iload_n O dX9_digitAt_1 1 rfl ?_
  refine z_callR (gKs D cs) hK (fun _ h => h.2) (t_X9_valueAt x d hd p1 _ h) (zr_V (As := [.int p1]) (rest := []) O hE.1 1 gX9_digitAt_X9_valueAt rfl rfl rfl (by decide +kernel) ⟨(Nat.le_of_ble_eq_true rfl), (Nat.le_of_ble_eq_true rfl)⟩ ⟨(Nat.le_of_ble_eq_true rfl), (Nat.le_of_ble_eq_true rfl)⟩ (fun H hH => z_recv hK.1 (hX _ H hH) (hd).1 (xe_9 hd) rfl) rfl rfl (Nat.le_of_ble_eq_true rfl) dX9_digitAt_2) (fun r1 h => ?_)
  refine z_istore_n (lv' := [(2, .int r1), (0, .ref (ad d)), (1, .int p1)]) O dX9_digitAt_5 (by decide) rfl ?_
  refine z_iload_n O dX9_digitAt_6 0 rfl ?_
  refine z_bipush (v := 48) O dX9_digitAt_7 rfl ?_
  refine z_bipush (v := 57) O dX9_digitAt_9 rfl ?_
  refine z_callR (gKs D cs) hK (fun _ h => h.2) (t_X11_within (gKs D cs) r1 48 57 _ h) (zr_SN (As := [.int r1, .int 48, .int 57]) (rest := []) O hE.1 3 gX9_digitAt_X11_within_n45 rfl rfl rfl (hK.2.2 _ (List.mem_of_getElem? (i := 17) rfl)) (by decide +kernel) (by decide +kernel) (by decide +kernel) ⟨(Nat.le_of_ble_eq_true rfl), (Nat.le_of_ble_eq_true rfl)⟩ ⟨(Nat.le_of_ble_eq_true rfl), (Nat.le_of_ble_eq_true rfl)⟩ rfl rfl (Nat.le_of_ble_eq_true rfl) dX9_digitAt_11) (fun r2 h => ?_)
  refine z_if_eq O 24 dX9_digitAt_14 (by decide) (fun c3 => ?_) (fun c3 => ?_)
  · replace h := h.1 c3
    refine z_iconst (v := -1) O dX9_digitAt_24 rfl ?_
    exact z_retR O hE (fun _ h => h.1) rfl dX9_digitAt_25 h
  · replace h := h.2 c3
    refine z_iload_n O dX9_digitAt_17 0 rfl ?_
    refine z_bipush (v := 48) O dX9_digitAt_18 rfl ?_
    refine z_isub O dX9_digitAt_20 ?_
    refine z_goto O 25 dX9_digitAt_21 (by decide) ?_
    exact z_retR O hE (fun _ h => h.1) rfl dX9_digitAt_25 h
def wp_X9_lowestBits (x : XS) (d : Nat) (p1 : Int32) (Q : Int32 → Prop) : Prop :=
 (((x.1 d 4) = 0 →
 Q p1.toInt8.toInt32) ∧ (¬ (x.1 d 4) = 0 →
 (((x.1 d 4) = 1 →
 Q p1.toInt16.toInt32) ∧ (¬ (x.1 d 4) = 1 →
 Q p1))))
set_option maxHeartbeats 4000000 in
set_option maxRecDepth 100000 in
theorem t_X9_lowestBits {l : Launch} {D : va_G} {cs : Nat → ClassId} {ad : Nat → Nat} (x : XS) (d : Nat) (hd : xk d 9) (p1 : Int32) (Q : Int32 → Prop) (h : wp_X9_lowestBits x d p1 Q) : zMR l yX9_lowestBits wsX9_lowestBits ({ frames := 0, cells := 0, slots := 0, locals := 0 } : Room) (gK D cs) (XH D cs ad) x [.ref (ad d), .int p1] Q := by
  refine zMR_of (cc := cX9_lowestBits) (nL := 2) (ret := (some .int)) (by decide +kernel) rfl (Nat.le_of_ble_eq_true rfl) (fun C hl O hE hK hH => ?_)
  subst hl
  have hX : ∀ (x : XS) (H : Heap), z0 (XH D cs ad) C.s.heap x H → va_P D vwCl (wl 161 ad (XE cs ad x)) H := fun _ _ h => h.2
  have i9 : ∀ w ∈ wsX90, w ∈ wsX9_lowestBits := by decide +kernel
  refine z_sub (lv' := [(0, .ref (ad d)), (1, .int p1)]) [0, 1] rfl ?_
  refine z_aload_n O dX9_lowestBits_0 0 rfl ?_
  refine z_getf O hK.1 (hX _) (hd).1 (xe_9 hd) rfl i9 4 (by decide) (by decide +kernel) rfl dX9_lowestBits_1 ?_
  by_cases c1 : (x.1 d 4) = 0
  · replace h := h.1 c1
    refine z_lookup (off := 28) O 32 dX9_lowestBits_4 (by decide) (by rw [c1]; try decide) (by decide) ?_
    refine z_iload_n O dX9_lowestBits_32 1 rfl ?_
    refine z_i2b O dX9_lowestBits_33 ?_
    exact z_retR O hE (fun _ h => h.1) rfl dX9_lowestBits_34 h
  replace h := h.2 c1
  by_cases c2 : (x.1 d 4) = 1
  · replace h := h.1 c2
    refine z_lookup (off := 31) O 35 dX9_lowestBits_4 (by decide) (by rw [c2]; try decide) (by decide) ?_
    refine z_iload_n O dX9_lowestBits_35 1 rfl ?_
    refine z_i2s O dX9_lowestBits_36 ?_
    exact z_retR O hE (fun _ h => h.1) rfl dX9_lowestBits_37 h
  replace h := h.2 c2
  refine z_lookup (off := 34) O 38 dX9_lowestBits_4 (by decide) ((lv_osw c1 (by decide)).trans ((lv_osw c2 (by decide)).trans rfl)) (by decide) ?_
  refine z_iload_n O dX9_lowestBits_38 1 rfl ?_
  exact z_retR O hE (fun _ h => h.1) rfl dX9_lowestBits_39 h
def wp_X9_leastNumber (x : XS) (d : Nat)  (Q : Int32 → Prop) : Prop :=
 (((x.1 d 4) = 0 →
 Q (-128)) ∧ (¬ (x.1 d 4) = 0 →
 (((x.1 d 4) = 1 →
 Q (-32768)) ∧ (¬ (x.1 d 4) = 1 →
 Q (-2147483648)))))
set_option maxHeartbeats 4000000 in
set_option maxRecDepth 100000 in
theorem t_X9_leastNumber {l : Launch} {D : va_G} {cs : Nat → ClassId} {ad : Nat → Nat} (x : XS) (d : Nat) (hd : xk d 9)  (Q : Int32 → Prop) (h : wp_X9_leastNumber x d  Q) : zMR l yX9_leastNumber wsX9_leastNumber ({ frames := 0, cells := 0, slots := 0, locals := 0 } : Room) (gK D cs) (XH D cs ad) x [.ref (ad d)] Q := by
  refine zMR_of (cc := cX9_leastNumber) (nL := 1) (ret := (some .int)) (by decide +kernel) rfl (Nat.le_of_ble_eq_true rfl) (fun C hl O hE hK hH => ?_)
  subst hl
  have hX : ∀ (x : XS) (H : Heap), z0 (XH D cs ad) C.s.heap x H → va_P D vwCl (wl 161 ad (XE cs ad x)) H := fun _ _ h => h.2
  have i9 : ∀ w ∈ wsX90, w ∈ wsX9_leastNumber := by decide +kernel
  refine z_sub (lv' := [(0, .ref (ad d))]) [0] rfl ?_
  refine z_aload_n O dX9_leastNumber_0 0 rfl ?_
  refine z_getf O hK.1 (hX _) (hd).1 (xe_9 hd) rfl i9 4 (by decide) (by decide +kernel) rfl dX9_leastNumber_1 ?_
  by_cases c1 : (x.1 d 4) = 0
  · replace h := h.1 c1
    refine z_lookup (off := 28) O 32 dX9_leastNumber_4 (by decide) (by rw [c1]; try decide) (by decide) ?_
    refine z_bipush (v := -128) O dX9_leastNumber_32 rfl ?_
    exact z_retR O hE (fun _ h => h.1) rfl dX9_leastNumber_34 h
  replace h := h.2 c1
  by_cases c2 : (x.1 d 4) = 1
  · replace h := h.1 c2
    refine z_lookup (off := 31) O 35 dX9_leastNumber_4 (by decide) (by rw [c2]; try decide) (by decide) ?_
    refine z_sipush (v := -32768) O dX9_leastNumber_35 rfl ?_
    exact z_retR O hE (fun _ h => h.1) rfl dX9_leastNumber_38 h
  replace h := h.2 c2
  refine z_lookup (off := 35) O 39 dX9_leastNumber_4 (by decide) ((lv_osw c1 (by decide)).trans ((lv_osw c2 (by decide)).trans rfl)) (by decide) ?_
  refine z_ldc (v := -2147483648) O (by decide +kernel) dX9_leastNumber_39 ?_
  exact z_retR O hE (fun _ h => h.1) rfl dX9_leastNumber_41 h
def wp_X2_has (x : XS) (b : Nat) (p1 : Int32) (Q : Int32 → Prop) : Prop :=
 ((p1 < 0 →
 Q 0) ∧ (¬ p1 < 0 →
 (((x.1 b 6) ≤ p1 →
 Q 0) ∧ (¬ (x.1 b 6) ≤ p1 →
 ((8 ≤ p1 →
 Q 0) ∧ (¬ 8 ≤ p1 →
 Q 1))))))
set_option maxHeartbeats 4000000 in
set_option maxRecDepth 100000 in
theorem t_X2_has {l : Launch} {D : va_G} {cs : Nat → ClassId} {ad : Nat → Nat} (x : XS) (b : Nat) (hb : xk b 2) (p1 : Int32) (Q : Int32 → Prop) (h : wp_X2_has x b p1 Q) : zMR l yX2_has wsX2_has ({ frames := 0, cells := 0, slots := 0, locals := 0 } : Room) (gK D cs) (XH D cs ad) x [.ref (ad b), .int p1] Q := by
  refine zMR_of (cc := cX2_has) (nL := 2) (ret := (some .boolean)) (by decide +kernel) rfl (Nat.le_of_ble_eq_true rfl) (fun C hl O hE hK hH => ?_)
  subst hl
  have hX : ∀ (x : XS) (H : Heap), z0 (XH D cs ad) C.s.heap x H → va_P D vwCl (wl 161 ad (XE cs ad x)) H := fun _ _ h => h.2
  have i2 : ∀ w ∈ wsX20, w ∈ wsX2_has := by decide +kernel
  refine z_sub (lv' := [(0, .ref (ad b)), (1, .int p1)]) [0, 1] rfl ?_
  refine z_iload_n O dX2_has_0 1 rfl ?_
  refine z_if_lt O 22 dX2_has_1 (by decide) (fun c3 => ?_) (fun c3 => ?_)
  · replace h := h.1 c3
    refine z_iconst (v := 0) O dX2_has_22 rfl ?_
    exact z_retR O hE (fun _ h => h.1) rfl dX2_has_23 h
  · replace h := h.2 c3
    refine z_iload_n O dX2_has_4 1 rfl ?_
    refine z_aload_n O dX2_has_5 0 rfl ?_
    refine z_getf O hK.1 (hX _) (hb).1 (xe_2 hb) rfl i2 6 (by decide) (by decide +kernel) rfl dX2_has_6 ?_
    refine z_icmp_ge O 22 dX2_has_9 (by decide) (fun c2 => ?_) (fun c2 => ?_)
    · replace h := h.1 c2
      refine z_iconst (v := 0) O dX2_has_22 rfl ?_
      exact z_retR O hE (fun _ h => h.1) rfl dX2_has_23 h
    · replace h := h.2 c2
      refine z_iload_n O dX2_has_12 1 rfl ?_
      refine z_bipush (v := 8) O dX2_has_13 rfl ?_
      refine z_icmp_ge O 22 dX2_has_15 (by decide) (fun c1 => ?_) (fun c1 => ?_)
      · replace h := h.1 c1
        refine z_iconst (v := 0) O dX2_has_22 rfl ?_
        exact z_retR O hE (fun _ h => h.1) rfl dX2_has_23 h
      · replace h := h.2 c1
        refine z_iconst (v := 1) O dX2_has_18 rfl ?_
        refine z_goto O 23 dX2_has_19 (by decide) ?_
        exact z_retR O hE (fun _ h => h.1) rfl dX2_has_23 h
def wp_X2_oathAt (x : XS) (b : Nat) (p1 : Int32) (Q : Int32 → Prop) : Prop :=
 wp_X2_has x b p1 (fun r1 : Int32 =>
 ((r1 = 0 →
 Q 0) ∧ (¬ r1 = 0 →
 (vp_in p1 8 ∧
 Q (x.2.1 (b + 2) (Int32.toNatClampNeg p1))))))
set_option maxHeartbeats 4000000 in
set_option maxRecDepth 100000 in
theorem t_X2_oathAt {l : Launch} {D : va_G} {cs : Nat → ClassId} {ad : Nat → Nat} (x : XS) (b : Nat) (hb : xk b 2) (p1 : Int32) (Q : Int32 → Prop) (h : wp_X2_oathAt x b p1 Q) : zMR l yX2_oathAt wsX2_oathAt ({ frames := 1, cells := 0, slots := 0, locals := 21 } : Room) (gK D cs) (XH D cs ad) x [.ref (ad b), .int p1] Q := by
  refine zMR_of (cc := cX2_oathAt) (nL := 2) (ret := (some .int)) (by decide +kernel) rfl (Nat.le_of_ble_eq_true rfl) (fun C hl O hE hK hH => ?_)
  subst hl
  have hX : ∀ (x : XS) (H : Heap), z0 (XH D cs ad) C.s.heap x H → va_P D vwCl (wl 161 ad (XE cs ad x)) H := fun _ _ h => h.2
  have i2 : ∀ w ∈ wsX20, w ∈ wsX2_oathAt := by decide +kernel
  refine z_sub (lv' := [(0, .ref (ad b)), (1, .int p1)]) [0, 1] rfl ?_
  refine z_aload_n O dX2_oathAt_0 0 rfl ?_
  refine z_iload_n O dX2_oathAt_1 1 rfl ?_
  refine z_callR (gKs D cs) hK (fun _ h => h.2) (t_X2_has x b hb p1 _ h) (zr_V (As := [.int p1]) (rest := []) O hE.1 1 gX2_oathAt_X2_has rfl rfl rfl (by decide +kernel) ⟨(Nat.le_of_ble_eq_true rfl), (Nat.le_of_ble_eq_true rfl)⟩ ⟨(Nat.le_of_ble_eq_true rfl), (Nat.le_of_ble_eq_true rfl)⟩ (fun H hH => z_recv hK.1 (hX _ H hH) (hb).1 (xe_2 hb) rfl) rfl rfl (Nat.le_of_ble_eq_true rfl) dX2_oathAt_2) (fun r1 h => ?_)
  refine z_if_eq O 17 dX2_oathAt_5 (by decide) (fun c2 => ?_) (fun c2 => ?_)
  · replace h := h.1 c2
    refine z_iconst (v := 0) O dX2_oathAt_17 rfl ?_
    exact z_retR O hE (fun _ h => h.1) rfl dX2_oathAt_18 h
  · replace h := h.2 c2
    refine z_aload_n O dX2_oathAt_8 0 rfl ?_
    refine z_getf O hK.1 (hX _) (hb).1 (xe_2 hb) rfl i2 1 (by decide) (by decide +kernel) rfl dX2_oathAt_9 ?_
    refine z_iload_n O dX2_oathAt_12 1 rfl ?_
    refine z_iald O hK.1 (hX _) 0 ((xk_c (j := 2) hb (by decide) (by decide))).1 (xe_20 (xk_c (j := 2) hb (by decide) (by decide))) rfl (xin (xk_cl (j := 2) hb (by decide) (by decide)) h.1) dX2_oathAt_13 ?_
    replace h := h.2
    refine z_goto O 18 dX2_oathAt_14 (by decide) ?_
    exact z_retR O hE (fun _ h => h.1) rfl dX2_oathAt_18 h
def wp_X2_winterAt (x : XS) (b : Nat) (p1 : Int32) (Q : Int32 → Prop) : Prop :=
 wp_X2_has x b p1 (fun r1 : Int32 =>
 ((r1 = 0 →
 Q 0) ∧ (¬ r1 = 0 →
 (vp_in p1 8 ∧
 Q (x.2.1 (b + 3) (Int32.toNatClampNeg p1))))))
set_option maxHeartbeats 4000000 in
set_option maxRecDepth 100000 in
theorem t_X2_winterAt {l : Launch} {D : va_G} {cs : Nat → ClassId} {ad : Nat → Nat} (x : XS) (b : Nat) (hb : xk b 2) (p1 : Int32) (Q : Int32 → Prop) (h : wp_X2_winterAt x b p1 Q) : zMR l yX2_winterAt wsX2_winterAt ({ frames := 1, cells := 0, slots := 0, locals := 21 } : Room) (gK D cs) (XH D cs ad) x [.ref (ad b), .int p1] Q := by
  refine zMR_of (cc := cX2_winterAt) (nL := 2) (ret := (some .int)) (by decide +kernel) rfl (Nat.le_of_ble_eq_true rfl) (fun C hl O hE hK hH => ?_)
  subst hl
  have hX : ∀ (x : XS) (H : Heap), z0 (XH D cs ad) C.s.heap x H → va_P D vwCl (wl 161 ad (XE cs ad x)) H := fun _ _ h => h.2
  have i2 : ∀ w ∈ wsX20, w ∈ wsX2_winterAt := by decide +kernel
  refine z_sub (lv' := [(0, .ref (ad b)), (1, .int p1)]) [0, 1] rfl ?_
  refine z_aload_n O dX2_winterAt_0 0 rfl ?_
  refine z_iload_n O dX2_winterAt_1 1 rfl ?_
  refine z_callR (gKs D cs) hK (fun _ h => h.2) (t_X2_has x b hb p1 _ h) (zr_V (As := [.int p1]) (rest := []) O hE.1 1 gX2_winterAt_X2_has rfl rfl rfl (by decide +kernel) ⟨(Nat.le_of_ble_eq_true rfl), (Nat.le_of_ble_eq_true rfl)⟩ ⟨(Nat.le_of_ble_eq_true rfl), (Nat.le_of_ble_eq_true rfl)⟩ (fun H hH => z_recv hK.1 (hX _ H hH) (hb).1 (xe_2 hb) rfl) rfl rfl (Nat.le_of_ble_eq_true rfl) dX2_winterAt_2) (fun r1 h => ?_)
  refine z_if_eq O 17 dX2_winterAt_5 (by decide) (fun c2 => ?_) (fun c2 => ?_)
  · replace h := h.1 c2
    refine z_iconst (v := 0) O dX2_winterAt_17 rfl ?_
    exact z_retR O hE (fun _ h => h.1) rfl dX2_winterAt_18 h
  · replace h := h.2 c2
    refine z_aload_n O dX2_winterAt_8 0 rfl ?_
    refine z_getf O hK.1 (hX _) (hb).1 (xe_2 hb) rfl i2 2 (by decide) (by decide +kernel) rfl dX2_winterAt_9 ?_
    refine z_iload_n O dX2_winterAt_12 1 rfl ?_
    refine z_iald O hK.1 (hX _) 0 ((xk_c (j := 3) hb (by decide) (by decide))).1 (xe_20 (xk_c (j := 3) hb (by decide) (by decide))) rfl (xin (xk_cl (j := 3) hb (by decide) (by decide)) h.1) dX2_winterAt_13 ?_
    replace h := h.2
    refine z_goto O 18 dX2_winterAt_14 (by decide) ?_
    exact z_retR O hE (fun _ h => h.1) rfl dX2_winterAt_18 h
def wp_X2_thickAt (x : XS) (b : Nat) (p1 : Int32) (Q : Int32 → Prop) : Prop :=
 wp_X2_has x b p1 (fun r1 : Int32 =>
 ((r1 = 0 →
 Q 0) ∧ (¬ r1 = 0 →
 (vp_in p1 8 ∧
 Q (x.2.1 (b + 4) (Int32.toNatClampNeg p1))))))
set_option maxHeartbeats 4000000 in
set_option maxRecDepth 100000 in
theorem t_X2_thickAt {l : Launch} {D : va_G} {cs : Nat → ClassId} {ad : Nat → Nat} (x : XS) (b : Nat) (hb : xk b 2) (p1 : Int32) (Q : Int32 → Prop) (h : wp_X2_thickAt x b p1 Q) : zMR l yX2_thickAt wsX2_thickAt ({ frames := 1, cells := 0, slots := 0, locals := 21 } : Room) (gK D cs) (XH D cs ad) x [.ref (ad b), .int p1] Q := by
  refine zMR_of (cc := cX2_thickAt) (nL := 2) (ret := (some .int)) (by decide +kernel) rfl (Nat.le_of_ble_eq_true rfl) (fun C hl O hE hK hH => ?_)
  subst hl
  have hX : ∀ (x : XS) (H : Heap), z0 (XH D cs ad) C.s.heap x H → va_P D vwCl (wl 161 ad (XE cs ad x)) H := fun _ _ h => h.2
  have i2 : ∀ w ∈ wsX20, w ∈ wsX2_thickAt := by decide +kernel
  refine z_sub (lv' := [(0, .ref (ad b)), (1, .int p1)]) [0, 1] rfl ?_
  refine z_aload_n O dX2_thickAt_0 0 rfl ?_
  refine z_iload_n O dX2_thickAt_1 1 rfl ?_
  refine z_callR (gKs D cs) hK (fun _ h => h.2) (t_X2_has x b hb p1 _ h) (zr_V (As := [.int p1]) (rest := []) O hE.1 1 gX2_thickAt_X2_has rfl rfl rfl (by decide +kernel) ⟨(Nat.le_of_ble_eq_true rfl), (Nat.le_of_ble_eq_true rfl)⟩ ⟨(Nat.le_of_ble_eq_true rfl), (Nat.le_of_ble_eq_true rfl)⟩ (fun H hH => z_recv hK.1 (hX _ H hH) (hb).1 (xe_2 hb) rfl) rfl rfl (Nat.le_of_ble_eq_true rfl) dX2_thickAt_2) (fun r1 h => ?_)
  refine z_if_eq O 17 dX2_thickAt_5 (by decide) (fun c2 => ?_) (fun c2 => ?_)
  · replace h := h.1 c2
    refine z_iconst (v := 0) O dX2_thickAt_17 rfl ?_
    exact z_retR O hE (fun _ h => h.1) rfl dX2_thickAt_18 h
  · replace h := h.2 c2
    refine z_aload_n O dX2_thickAt_8 0 rfl ?_
    refine z_getf O hK.1 (hX _) (hb).1 (xe_2 hb) rfl i2 3 (by decide) (by decide +kernel) rfl dX2_thickAt_9 ?_
    refine z_iload_n O dX2_thickAt_12 1 rfl ?_
    refine z_iald O hK.1 (hX _) 0 ((xk_c (j := 4) hb (by decide) (by decide))).1 (xe_20 (xk_c (j := 4) hb (by decide) (by decide))) rfl (xin (xk_cl (j := 4) hb (by decide) (by decide)) h.1) dX2_thickAt_13 ?_
    replace h := h.2
    refine z_goto O 18 dX2_thickAt_14 (by decide) ?_
    exact z_retR O hE (fun _ h => h.1) rfl dX2_thickAt_18 h
def wp_X2_meltsAt (x : XS) (b : Nat) (p1 : Int32) (Q : Int32 → Prop) : Prop :=
 wp_X2_has x b p1 (fun r1 : Int32 =>
 ((r1 = 0 →
 Q 0) ∧ (¬ r1 = 0 →
 (vp_in p1 8 ∧
 Q (x.2.1 (b + 5) (Int32.toNatClampNeg p1))))))
set_option maxHeartbeats 4000000 in
set_option maxRecDepth 100000 in
theorem t_X2_meltsAt {l : Launch} {D : va_G} {cs : Nat → ClassId} {ad : Nat → Nat} (x : XS) (b : Nat) (hb : xk b 2) (p1 : Int32) (Q : Int32 → Prop) (h : wp_X2_meltsAt x b p1 Q) : zMR l yX2_meltsAt wsX2_meltsAt ({ frames := 1, cells := 0, slots := 0, locals := 21 } : Room) (gK D cs) (XH D cs ad) x [.ref (ad b), .int p1] Q := by
  refine zMR_of (cc := cX2_meltsAt) (nL := 2) (ret := (some .int)) (by decide +kernel) rfl (Nat.le_of_ble_eq_true rfl) (fun C hl O hE hK hH => ?_)
  subst hl
  have hX : ∀ (x : XS) (H : Heap), z0 (XH D cs ad) C.s.heap x H → va_P D vwCl (wl 161 ad (XE cs ad x)) H := fun _ _ h => h.2
  have i2 : ∀ w ∈ wsX20, w ∈ wsX2_meltsAt := by decide +kernel
  refine z_sub (lv' := [(0, .ref (ad b)), (1, .int p1)]) [0, 1] rfl ?_
  refine z_aload_n O dX2_meltsAt_0 0 rfl ?_
  refine z_iload_n O dX2_meltsAt_1 1 rfl ?_
  refine z_callR (gKs D cs) hK (fun _ h => h.2) (t_X2_has x b hb p1 _ h) (zr_V (As := [.int p1]) (rest := []) O hE.1 1 gX2_meltsAt_X2_has rfl rfl rfl (by decide +kernel) ⟨(Nat.le_of_ble_eq_true rfl), (Nat.le_of_ble_eq_true rfl)⟩ ⟨(Nat.le_of_ble_eq_true rfl), (Nat.le_of_ble_eq_true rfl)⟩ (fun H hH => z_recv hK.1 (hX _ H hH) (hb).1 (xe_2 hb) rfl) rfl rfl (Nat.le_of_ble_eq_true rfl) dX2_meltsAt_2) (fun r1 h => ?_)
  refine z_if_eq O 17 dX2_meltsAt_5 (by decide) (fun c2 => ?_) (fun c2 => ?_)
  · replace h := h.1 c2
    refine z_iconst (v := 0) O dX2_meltsAt_17 rfl ?_
    exact z_retR O hE (fun _ h => h.1) rfl dX2_meltsAt_18 h
  · replace h := h.2 c2
    refine z_aload_n O dX2_meltsAt_8 0 rfl ?_
    refine z_getf O hK.1 (hX _) (hb).1 (xe_2 hb) rfl i2 4 (by decide) (by decide +kernel) rfl dX2_meltsAt_9 ?_
    refine z_iload_n O dX2_meltsAt_12 1 rfl ?_
    refine z_iald O hK.1 (hX _) 0 ((xk_c (j := 5) hb (by decide) (by decide))).1 (xe_20 (xk_c (j := 5) hb (by decide) (by decide))) rfl (xin (xk_cl (j := 5) hb (by decide) (by decide)) h.1) dX2_meltsAt_13 ?_
    replace h := h.2
    refine z_goto O 18 dX2_meltsAt_14 (by decide) ?_
    exact z_retR O hE (fun _ h => h.1) rfl dX2_meltsAt_18 h
def wp_X2_lightAt (x : XS) (b : Nat) (p1 : Int32) (Q : Int32 → Prop) : Prop :=
 wp_X2_has x b p1 (fun r1 : Int32 =>
 ((r1 = 0 →
 Q 0) ∧ (¬ r1 = 0 →
 (vp_in p1 8 ∧
 Q (x.2.1 (b + 6) (Int32.toNatClampNeg p1))))))
set_option maxHeartbeats 4000000 in
set_option maxRecDepth 100000 in
theorem t_X2_lightAt {l : Launch} {D : va_G} {cs : Nat → ClassId} {ad : Nat → Nat} (x : XS) (b : Nat) (hb : xk b 2) (p1 : Int32) (Q : Int32 → Prop) (h : wp_X2_lightAt x b p1 Q) : zMR l yX2_lightAt wsX2_lightAt ({ frames := 1, cells := 0, slots := 0, locals := 21 } : Room) (gK D cs) (XH D cs ad) x [.ref (ad b), .int p1] Q := by
  refine zMR_of (cc := cX2_lightAt) (nL := 2) (ret := (some .int)) (by decide +kernel) rfl (Nat.le_of_ble_eq_true rfl) (fun C hl O hE hK hH => ?_)
  subst hl
  have hX : ∀ (x : XS) (H : Heap), z0 (XH D cs ad) C.s.heap x H → va_P D vwCl (wl 161 ad (XE cs ad x)) H := fun _ _ h => h.2
  have i2 : ∀ w ∈ wsX20, w ∈ wsX2_lightAt := by decide +kernel
  refine z_sub (lv' := [(0, .ref (ad b)), (1, .int p1)]) [0, 1] rfl ?_
  refine z_aload_n O dX2_lightAt_0 0 rfl ?_
  refine z_iload_n O dX2_lightAt_1 1 rfl ?_
  refine z_callR (gKs D cs) hK (fun _ h => h.2) (t_X2_has x b hb p1 _ h) (zr_V (As := [.int p1]) (rest := []) O hE.1 1 gX2_lightAt_X2_has rfl rfl rfl (by decide +kernel) ⟨(Nat.le_of_ble_eq_true rfl), (Nat.le_of_ble_eq_true rfl)⟩ ⟨(Nat.le_of_ble_eq_true rfl), (Nat.le_of_ble_eq_true rfl)⟩ (fun H hH => z_recv hK.1 (hX _ H hH) (hb).1 (xe_2 hb) rfl) rfl rfl (Nat.le_of_ble_eq_true rfl) dX2_lightAt_2) (fun r1 h => ?_)
  refine z_if_eq O 17 dX2_lightAt_5 (by decide) (fun c2 => ?_) (fun c2 => ?_)
  · replace h := h.1 c2
    refine z_iconst (v := 0) O dX2_lightAt_17 rfl ?_
    exact z_retR O hE (fun _ h => h.1) rfl dX2_lightAt_18 h
  · replace h := h.2 c2
    refine z_aload_n O dX2_lightAt_8 0 rfl ?_
    refine z_getf O hK.1 (hX _) (hb).1 (xe_2 hb) rfl i2 5 (by decide) (by decide +kernel) rfl dX2_lightAt_9 ?_
    refine z_iload_n O dX2_lightAt_12 1 rfl ?_
    refine z_iald O hK.1 (hX _) 0 ((xk_c (j := 6) hb (by decide) (by decide))).1 (xe_20 (xk_c (j := 6) hb (by decide) (by decide))) rfl (xin (xk_cl (j := 6) hb (by decide) (by decide)) h.1) dX2_lightAt_13 ?_
    replace h := h.2
    refine z_goto O 18 dX2_lightAt_14 (by decide) ?_
    exact z_retR O hE (fun _ h => h.1) rfl dX2_lightAt_18 h
def wp_X2_depthAt (x : XS) (b : Nat) (p1 : Int32) (Q : Int32 → Prop) : Prop :=
 (∃ (I9 : Int32 → Int32 → Prop) (U9 : Int32 → Int32 → Nat), I9 0 ((x.1 b 6) - 1) ∧ ∀ (y1 : Int32) (y2 : Int32), I9 y1 y2 →
 ((y2 ≤ p1 →
 Q y1) ∧ (¬ y2 ≤ p1 →
 wp_X2_thickAt x b y2 (fun r3 : Int32 =>
 (I9 (y1 + r3) (y2 + (-1)) ∧ U9 (y1 + r3) (y2 + (-1)) < U9 y1 y2)))))
set_option maxHeartbeats 4000000 in
set_option maxRecDepth 100000 in
theorem t_X2_depthAt {l : Launch} {D : va_G} {cs : Nat → ClassId} {ad : Nat → Nat} (x : XS) (b : Nat) (hb : xk b 2) (p1 : Int32) (Q : Int32 → Prop) (h : wp_X2_depthAt x b p1 Q) : zMR l yX2_depthAt wsX2_depthAt ({ frames := 2, cells := 0, slots := 0, locals := 42 } : Room) (gK D cs) (XH D cs ad) x [.ref (ad b), .int p1] Q := by
  refine zMR_of (cc := cX2_depthAt) (nL := 4) (ret := (some .int)) (by decide +kernel) rfl (Nat.le_of_ble_eq_true rfl) (fun C hl O hE hK hH => ?_)
  subst hl
  have hX : ∀ (x : XS) (H : Heap), z0 (XH D cs ad) C.s.heap x H → va_P D vwCl (wl 161 ad (XE cs ad x)) H := fun _ _ h => h.2
  have i2 : ∀ w ∈ wsX20, w ∈ wsX2_depthAt := by decide +kernel
  refine z_sub (lv' := [(0, .ref (ad b)), (1, .int p1)]) [0, 1] rfl ?_
  refine z_iconst (v := 0) O dX2_depthAt_0 rfl ?_
  refine z_istore_n (lv' := [(2, .int 0), (0, .ref (ad b)), (1, .int p1)]) O dX2_depthAt_1 (by decide) rfl ?_
  refine z_aload_n O dX2_depthAt_2 1 rfl ?_
  refine z_getf O hK.1 (hX _) (hb).1 (xe_2 hb) rfl i2 6 (by decide) (by decide +kernel) rfl dX2_depthAt_3 ?_
  refine z_iconst (v := 1) O dX2_depthAt_6 rfl ?_
  refine z_isub O dX2_depthAt_7 ?_
  refine z_istore_n (lv' := [(3, .int ((x.1 b 6) - 1)), (2, .int 0), (0, .ref (ad b)), (1, .int p1)]) O dX2_depthAt_8 (by decide) rfl ?_
  obtain ⟨I9, U9, h0, hs⟩ := h
  have kI9 : ∀ (n : Nat) (y1 : Int32) (y2 : Int32), U9 y1 y2 < n → I9 y1 y2 → Z C (fun _ => False) (z0 (XH D cs ad) C.s.heap) 4 x [(0, .ref (ad b)), (1, .int p1), (2, .int y1), (3, .int y2)] 0 0 9 [] := by
    intro n
    induction n with
    | zero => intro y1 y2 uI9; exact absurd uI9 (Nat.not_lt_zero _)
    | succ n iI9 =>
      intro y1 y2 uI9 h
      have h := hs y1 y2 h
      refine z_iload_n O dX2_depthAt_9 3 rfl ?_
      refine z_iload_n O dX2_depthAt_10 1 rfl ?_
      refine z_icmp_le O 28 dX2_depthAt_11 (by decide) (fun c4 => ?_) (fun c4 => ?_)
      · replace h := h.1 c4
        refine z_iload_n O dX2_depthAt_28 2 rfl ?_
        exact z_retR O hE (fun _ h => h.1) rfl dX2_depthAt_29 h
      · replace h := h.2 c4
        refine z_iload_n O dX2_depthAt_14 2 rfl ?_
        refine z_aload_n O dX2_depthAt_15 0 rfl ?_
        refine z_iload_n O dX2_depthAt_16 3 rfl ?_
        refine z_callR (gKs D cs) hK (fun _ h => h.2) (t_X2_thickAt x b hb y2 _ h) (zr_V (As := [.int y2]) (rest := [.int y1]) O hE.1 1 gX2_depthAt_X2_thickAt rfl rfl rfl (by decide +kernel) ⟨(Nat.le_of_ble_eq_true rfl), (Nat.le_of_ble_eq_true rfl)⟩ ⟨(Nat.le_of_ble_eq_true rfl), (Nat.le_of_ble_eq_true rfl)⟩ (fun H hH => z_recv hK.1 (hX _ H hH) (hb).1 (xe_2 hb) rfl) rfl rfl (Nat.le_of_ble_eq_true rfl) dX2_depthAt_17) (fun r3 h => ?_)
        refine z_iadd O dX2_depthAt_20 ?_
        refine z_istore_n (lv' := [(2, .int (y1 + r3)), (0, .ref (ad b)), (1, .int p1), (3, .int y2)]) O dX2_depthAt_21 (by decide) rfl ?_
        refine z_iinc (lv' := [(3, .int (y2 + (-1))), (2, .int (y1 + r3)), (0, .ref (ad b)), (1, .int p1)]) O dX2_depthAt_22 3 rfl rfl (by decide) rfl ?_
        refine z_goto O 9 dX2_depthAt_25 (by decide) ?_
        exact z_sub [2, 3, 1, 0] rfl (iI9 (y1 + r3) (y2 + (-1)) (Nat.lt_of_lt_of_le h.2 (Nat.le_of_lt_succ uI9)) h.1)
  exact z_sub [2, 3, 1, 0] rfl (kI9 _ 0 ((x.1 b 6) - 1) (Nat.lt_succ_self _) h0)
def wp_X2_ice (x : XS) (b : Nat)  (Q : Int32 → Prop) : Prop :=
 wp_X2_depthAt x b (-1) (fun r1 : Int32 =>
 Q r1)
set_option maxHeartbeats 4000000 in
set_option maxRecDepth 100000 in
theorem t_X2_ice {l : Launch} {D : va_G} {cs : Nat → ClassId} {ad : Nat → Nat} (x : XS) (b : Nat) (hb : xk b 2)  (Q : Int32 → Prop) (h : wp_X2_ice x b  Q) : zMR l yX2_ice wsX2_ice ({ frames := 3, cells := 0, slots := 0, locals := 65 } : Room) (gK D cs) (XH D cs ad) x [.ref (ad b)] Q := by
  refine zMR_of (cc := cX2_ice) (nL := 1) (ret := (some .int)) (by decide +kernel) rfl (Nat.le_of_ble_eq_true rfl) (fun C hl O hE hK hH => ?_)
  subst hl
  have hX : ∀ (x : XS) (H : Heap), z0 (XH D cs ad) C.s.heap x H → va_P D vwCl (wl 161 ad (XE cs ad x)) H := fun _ _ h => h.2
  refine z_sub (lv' := [(0, .ref (ad b))]) [0] rfl ?_
  refine z_aload_n O dX2_ice_0 0 rfl ?_
  refine z_iconst (v := -1) O dX2_ice_1 rfl ?_
  refine z_callR (gKs D cs) hK (fun _ h => h.2) (t_X2_depthAt x b hb (-1) _ h) (zr_V (As := [.int (-1)]) (rest := []) O hE.1 1 gX2_ice_X2_depthAt rfl rfl rfl (by decide +kernel) ⟨(Nat.le_of_ble_eq_true rfl), (Nat.le_of_ble_eq_true rfl)⟩ ⟨(Nat.le_of_ble_eq_true rfl), (Nat.le_of_ble_eq_true rfl)⟩ (fun H hH => z_recv hK.1 (hX _ H hH) (hb).1 (xe_2 hb) rfl) rfl rfl (Nat.le_of_ble_eq_true rfl) dX2_ice_2) (fun r1 h => ?_)
  exact z_retR O hE (fun _ h => h.1) rfl dX2_ice_5 h
def wp_X2_canRead (x : XS) (b : Nat) (p1 : Int32) (Q : Int32 → Prop) : Prop :=
 wp_X2_has x b p1 (fun r1 : Int32 =>
 ((r1 = 0 →
 Q 0) ∧ (¬ r1 = 0 →
 wp_X2_depthAt x b p1 (fun r2 : Int32 =>
 wp_X2_lightAt x b p1 (fun r3 : Int32 =>
 ((r3 < r2 →
 Q 0) ∧ (¬ r3 < r2 →
 Q 1)))))))
set_option maxHeartbeats 4000000 in
set_option maxRecDepth 100000 in
theorem t_X2_canRead {l : Launch} {D : va_G} {cs : Nat → ClassId} {ad : Nat → Nat} (x : XS) (b : Nat) (hb : xk b 2) (p1 : Int32) (Q : Int32 → Prop) (h : wp_X2_canRead x b p1 Q) : zMR l yX2_canRead wsX2_canRead ({ frames := 3, cells := 0, slots := 0, locals := 65 } : Room) (gK D cs) (XH D cs ad) x [.ref (ad b), .int p1] Q := by
  refine zMR_of (cc := cX2_canRead) (nL := 2) (ret := (some .boolean)) (by decide +kernel) rfl (Nat.le_of_ble_eq_true rfl) (fun C hl O hE hK hH => ?_)
  subst hl
  have hX : ∀ (x : XS) (H : Heap), z0 (XH D cs ad) C.s.heap x H → va_P D vwCl (wl 161 ad (XE cs ad x)) H := fun _ _ h => h.2
  refine z_sub (lv' := [(0, .ref (ad b)), (1, .int p1)]) [0, 1] rfl ?_
  refine z_aload_n O dX2_canRead_0 0 rfl ?_
  refine z_iload_n O dX2_canRead_1 1 rfl ?_
  refine z_callR (gKs D cs) hK (fun _ h => h.2) (t_X2_has x b hb p1 _ h) (zr_V (As := [.int p1]) (rest := []) O hE.1 1 gX2_canRead_X2_has rfl rfl rfl (by decide +kernel) ⟨(Nat.le_of_ble_eq_true rfl), (Nat.le_of_ble_eq_true rfl)⟩ ⟨(Nat.le_of_ble_eq_true rfl), (Nat.le_of_ble_eq_true rfl)⟩ (fun H hH => z_recv hK.1 (hX _ H hH) (hb).1 (xe_2 hb) rfl) rfl rfl (Nat.le_of_ble_eq_true rfl) dX2_canRead_2) (fun r1 h => ?_)
  refine z_if_eq O 25 dX2_canRead_5 (by decide) (fun c5 => ?_) (fun c5 => ?_)
  · replace h := h.1 c5
    refine z_iconst (v := 0) O dX2_canRead_25 rfl ?_
    exact z_retR O hE (fun _ h => h.1) rfl dX2_canRead_26 h
  · replace h := h.2 c5
    refine z_aload_n O dX2_canRead_8 0 rfl ?_
    refine z_iload_n O dX2_canRead_9 1 rfl ?_
    refine z_callR (gKs D cs) hK (fun _ h => h.2) (t_X2_depthAt x b hb p1 _ h) (zr_V (As := [.int p1]) (rest := []) O hE.1 1 gX2_canRead_X2_depthAt rfl rfl rfl (by decide +kernel) ⟨(Nat.le_of_ble_eq_true rfl), (Nat.le_of_ble_eq_true rfl)⟩ ⟨(Nat.le_of_ble_eq_true rfl), (Nat.le_of_ble_eq_true rfl)⟩ (fun H hH => z_recv hK.1 (hX _ H hH) (hb).1 (xe_2 hb) rfl) rfl rfl (Nat.le_of_ble_eq_true rfl) dX2_canRead_10) (fun r2 h => ?_)
    refine z_aload_n O dX2_canRead_13 0 rfl ?_
    refine z_iload_n O dX2_canRead_14 1 rfl ?_
    refine z_callR (gKs D cs) hK (fun _ h => h.2) (t_X2_lightAt x b hb p1 _ h) (zr_V (As := [.int p1]) (rest := [.int r2]) O hE.1 1 gX2_canRead_X2_lightAt rfl rfl rfl (by decide +kernel) ⟨(Nat.le_of_ble_eq_true rfl), (Nat.le_of_ble_eq_true rfl)⟩ ⟨(Nat.le_of_ble_eq_true rfl), (Nat.le_of_ble_eq_true rfl)⟩ (fun H hH => z_recv hK.1 (hX _ H hH) (hb).1 (xe_2 hb) rfl) rfl rfl (Nat.le_of_ble_eq_true rfl) dX2_canRead_15) (fun r3 h => ?_)
    refine z_icmp_gt O 25 dX2_canRead_18 (by decide) (fun c4 => ?_) (fun c4 => ?_)
    · replace h := h.1 c4
      refine z_iconst (v := 0) O dX2_canRead_25 rfl ?_
      exact z_retR O hE (fun _ h => h.1) rfl dX2_canRead_26 h
    · replace h := h.2 c4
      refine z_iconst (v := 1) O dX2_canRead_21 rfl ?_
      refine z_goto O 26 dX2_canRead_22 (by decide) ?_
      exact z_retR O hE (fun _ h => h.1) rfl dX2_canRead_26 h
def wp_X2_tellOf (x : XS) (b : Nat) (p1 : Int32) (p2 : Int32) (Q : Int32 → Prop) : Prop :=
 ((p2 = 0 →
 wp_X2_has x b p1 (fun r2 : Int32 =>
 ((r2 = 0 →
 Q 0) ∧ (¬ r2 = 0 →
 (vp_in p1 8 ∧
 Q (x.2.1 (b + 1) (Int32.toNatClampNeg p1))))))) ∧ (¬ p2 = 0 →
 ((p2 = 1 →
 wp_X2_oathAt x b p1 (fun r5 : Int32 =>
 Q r5)) ∧ (¬ p2 = 1 →
 ((p2 = 2 →
 wp_X2_winterAt x b p1 (fun r7 : Int32 =>
 Q r7)) ∧ (¬ p2 = 2 →
 ((p2 = 3 →
 wp_X2_thickAt x b p1 (fun r9 : Int32 =>
 Q r9)) ∧ (¬ p2 = 3 →
 ((p2 = 4 →
 wp_X2_depthAt x b p1 (fun r11 : Int32 =>
 Q r11)) ∧ (¬ p2 = 4 →
 ((p2 = 5 →
 wp_X2_canRead x b p1 (fun r13 : Int32 =>
 ((r13 = 0 →
 Q 0) ∧ (¬ r13 = 0 →
 Q 1)))) ∧ (¬ p2 = 5 →
 Q (-1)))))))))))))
set_option maxHeartbeats 4000000 in
set_option maxRecDepth 100000 in
theorem t_X2_tellOf {l : Launch} {D : va_G} {cs : Nat → ClassId} {ad : Nat → Nat} (x : XS) (b : Nat) (hb : xk b 2) (p1 : Int32) (p2 : Int32) (Q : Int32 → Prop) (h : wp_X2_tellOf x b p1 p2 Q) : zMR l yX2_tellOf wsX2_tellOf ({ frames := 4, cells := 0, slots := 0, locals := 86 } : Room) (gK D cs) (XH D cs ad) x [.ref (ad b), .int p1, .int p2] Q := by
  refine zMR_of (cc := cX2_tellOf) (nL := 3) (ret := (some .int)) (by decide +kernel) rfl (Nat.le_of_ble_eq_true rfl) (fun C hl O hE hK hH => ?_)
  subst hl
  have hX : ∀ (x : XS) (H : Heap), z0 (XH D cs ad) C.s.heap x H → va_P D vwCl (wl 161 ad (XE cs ad x)) H := fun _ _ h => h.2
  have i2 : ∀ w ∈ wsX20, w ∈ wsX2_tellOf := by decide +kernel
  refine z_sub (lv' := [(0, .ref (ad b)), (1, .int p1), (2, .int p2)]) [0, 1, 2] rfl ?_
  refine z_iload_n O dX2_tellOf_0 2 rfl ?_
  by_cases c1 : p2 = 0
  · replace h := h.1 c1
    refine z_tableIn (v := 0) (off := 39) O 40 dX2_tellOf_1 c1 (by decide) (by decide) (by decide) (by decide) ?_
    refine z_aload_n O dX2_tellOf_40 0 rfl ?_
    refine z_iload_n O dX2_tellOf_41 1 rfl ?_
    refine z_callR (gKs D cs) hK (fun _ h => h.2) (t_X2_has x b hb p1 _ h) (zr_V (As := [.int p1]) (rest := []) O hE.1 1 gX2_tellOf_X2_has rfl rfl rfl (by decide +kernel) ⟨(Nat.le_of_ble_eq_true rfl), (Nat.le_of_ble_eq_true rfl)⟩ ⟨(Nat.le_of_ble_eq_true rfl), (Nat.le_of_ble_eq_true rfl)⟩ (fun H hH => z_recv hK.1 (hX _ H hH) (hb).1 (xe_2 hb) rfl) rfl rfl (Nat.le_of_ble_eq_true rfl) dX2_tellOf_42) (fun r2 h => ?_)
    refine z_if_eq O 57 dX2_tellOf_45 (by decide) (fun c3 => ?_) (fun c3 => ?_)
    · replace h := h.1 c3
      refine z_iconst (v := 0) O dX2_tellOf_57 rfl ?_
      exact z_retR O hE (fun _ h => h.1) rfl dX2_tellOf_58 h
    · replace h := h.2 c3
      refine z_aload_n O dX2_tellOf_48 0 rfl ?_
      refine z_getf O hK.1 (hX _) (hb).1 (xe_2 hb) rfl i2 0 (by decide) (by decide +kernel) rfl dX2_tellOf_49 ?_
      refine z_iload_n O dX2_tellOf_52 1 rfl ?_
      refine z_iald O hK.1 (hX _) 0 ((xk_c (j := 1) hb (by decide) (by decide))).1 (xe_20 (xk_c (j := 1) hb (by decide) (by decide))) rfl (xin (xk_cl (j := 1) hb (by decide) (by decide)) h.1) dX2_tellOf_53 ?_
      replace h := h.2
      refine z_goto O 58 dX2_tellOf_54 (by decide) ?_
      exact z_retR O hE (fun _ h => h.1) rfl dX2_tellOf_58 h
  replace h := h.2 c1
  by_cases c4 : p2 = 1
  · replace h := h.1 c4
    refine z_tableIn (v := 1) (off := 58) O 59 dX2_tellOf_1 c4 (by decide) (by decide) (by decide) (by decide) ?_
    refine z_aload_n O dX2_tellOf_59 0 rfl ?_
    refine z_iload_n O dX2_tellOf_60 1 rfl ?_
    refine z_callR (gKs D cs) hK (fun _ h => h.2) (t_X2_oathAt x b hb p1 _ h) (zr_V (As := [.int p1]) (rest := []) O hE.1 1 gX2_tellOf_X2_oathAt rfl rfl rfl (by decide +kernel) ⟨(Nat.le_of_ble_eq_true rfl), (Nat.le_of_ble_eq_true rfl)⟩ ⟨(Nat.le_of_ble_eq_true rfl), (Nat.le_of_ble_eq_true rfl)⟩ (fun H hH => z_recv hK.1 (hX _ H hH) (hb).1 (xe_2 hb) rfl) rfl rfl (Nat.le_of_ble_eq_true rfl) dX2_tellOf_61) (fun r5 h => ?_)
    exact z_retR O hE (fun _ h => h.1) rfl dX2_tellOf_64 h
  replace h := h.2 c4
  by_cases c6 : p2 = 2
  · replace h := h.1 c6
    refine z_tableIn (v := 2) (off := 64) O 65 dX2_tellOf_1 c6 (by decide) (by decide) (by decide) (by decide) ?_
    refine z_aload_n O dX2_tellOf_65 0 rfl ?_
    refine z_iload_n O dX2_tellOf_66 1 rfl ?_
    refine z_callR (gKs D cs) hK (fun _ h => h.2) (t_X2_winterAt x b hb p1 _ h) (zr_V (As := [.int p1]) (rest := []) O hE.1 1 gX2_tellOf_X2_winterAt rfl rfl rfl (by decide +kernel) ⟨(Nat.le_of_ble_eq_true rfl), (Nat.le_of_ble_eq_true rfl)⟩ ⟨(Nat.le_of_ble_eq_true rfl), (Nat.le_of_ble_eq_true rfl)⟩ (fun H hH => z_recv hK.1 (hX _ H hH) (hb).1 (xe_2 hb) rfl) rfl rfl (Nat.le_of_ble_eq_true rfl) dX2_tellOf_67) (fun r7 h => ?_)
    exact z_retR O hE (fun _ h => h.1) rfl dX2_tellOf_70 h
  replace h := h.2 c6
  by_cases c8 : p2 = 3
  · replace h := h.1 c8
    refine z_tableIn (v := 3) (off := 70) O 71 dX2_tellOf_1 c8 (by decide) (by decide) (by decide) (by decide) ?_
    refine z_aload_n O dX2_tellOf_71 0 rfl ?_
    refine z_iload_n O dX2_tellOf_72 1 rfl ?_
    refine z_callR (gKs D cs) hK (fun _ h => h.2) (t_X2_thickAt x b hb p1 _ h) (zr_V (As := [.int p1]) (rest := []) O hE.1 1 gX2_tellOf_X2_thickAt rfl rfl rfl (by decide +kernel) ⟨(Nat.le_of_ble_eq_true rfl), (Nat.le_of_ble_eq_true rfl)⟩ ⟨(Nat.le_of_ble_eq_true rfl), (Nat.le_of_ble_eq_true rfl)⟩ (fun H hH => z_recv hK.1 (hX _ H hH) (hb).1 (xe_2 hb) rfl) rfl rfl (Nat.le_of_ble_eq_true rfl) dX2_tellOf_73) (fun r9 h => ?_)
    exact z_retR O hE (fun _ h => h.1) rfl dX2_tellOf_76 h
  replace h := h.2 c8
  by_cases c10 : p2 = 4
  · replace h := h.1 c10
    refine z_tableIn (v := 4) (off := 76) O 77 dX2_tellOf_1 c10 (by decide) (by decide) (by decide) (by decide) ?_
    refine z_aload_n O dX2_tellOf_77 0 rfl ?_
    refine z_iload_n O dX2_tellOf_78 1 rfl ?_
    refine z_callR (gKs D cs) hK (fun _ h => h.2) (t_X2_depthAt x b hb p1 _ h) (zr_V (As := [.int p1]) (rest := []) O hE.1 1 gX2_tellOf_X2_depthAt rfl rfl rfl (by decide +kernel) ⟨(Nat.le_of_ble_eq_true rfl), (Nat.le_of_ble_eq_true rfl)⟩ ⟨(Nat.le_of_ble_eq_true rfl), (Nat.le_of_ble_eq_true rfl)⟩ (fun H hH => z_recv hK.1 (hX _ H hH) (hb).1 (xe_2 hb) rfl) rfl rfl (Nat.le_of_ble_eq_true rfl) dX2_tellOf_79) (fun r11 h => ?_)
    exact z_retR O hE (fun _ h => h.1) rfl dX2_tellOf_82 h
  replace h := h.2 c10
  by_cases c12 : p2 = 5
  · replace h := h.1 c12
    refine z_tableIn (v := 5) (off := 82) O 83 dX2_tellOf_1 c12 (by decide) (by decide) (by decide) (by decide) ?_
    refine z_aload_n O dX2_tellOf_83 0 rfl ?_
    refine z_iload_n O dX2_tellOf_84 1 rfl ?_
    refine z_callR (gKs D cs) hK (fun _ h => h.2) (t_X2_canRead x b hb p1 _ h) (zr_V (As := [.int p1]) (rest := []) O hE.1 1 gX2_tellOf_X2_canRead rfl rfl rfl (by decide +kernel) ⟨(Nat.le_of_ble_eq_true rfl), (Nat.le_of_ble_eq_true rfl)⟩ ⟨(Nat.le_of_ble_eq_true rfl), (Nat.le_of_ble_eq_true rfl)⟩ (fun H hH => z_recv hK.1 (hX _ H hH) (hb).1 (xe_2 hb) rfl) rfl rfl (Nat.le_of_ble_eq_true rfl) dX2_tellOf_85) (fun r13 h => ?_)
    refine z_if_eq O 95 dX2_tellOf_88 (by decide) (fun c14 => ?_) (fun c14 => ?_)
    · replace h := h.1 c14
      refine z_iconst (v := 0) O dX2_tellOf_95 rfl ?_
      exact z_retR O hE (fun _ h => h.1) rfl dX2_tellOf_96 h
    · replace h := h.2 c14
      refine z_iconst (v := 1) O dX2_tellOf_91 rfl ?_
      refine z_goto O 96 dX2_tellOf_92 (by decide) ?_
      exact z_retR O hE (fun _ h => h.1) rfl dX2_tellOf_96 h
  replace h := h.2 c12
  refine z_tableOut O 97 dX2_tellOf_1 (by have gc1 := lv_neT (a := 0) c1 (by decide); have gc4 := lv_neT (a := 1) c4 (by decide); have gc6 := lv_neT (a := 2) c6 (by decide); have gc8 := lv_neT (a := 3) c8 (by decide); have gc10 := lv_neT (a := 4) c10 (by decide); have gc12 := lv_neT (a := 5) c12 (by decide); omega) (by decide) ?_
  refine z_iconst (v := -1) O dX2_tellOf_97 rfl ?_
  exact z_retR O hE (fun _ h => h.1) rfl dX2_tellOf_98 h
def wp_X2_freezeOn (x : XS) (b : Nat) (q1 : Nat) (p2 : Int32) (p3 : Int32) (p4 : Int32) (p5 : Int32) (Q : Int32 → XS → Prop) : Prop :=
 (((x.1 b 6) < 0 →
 Q (-2) x) ∧ (¬ (x.1 b 6) < 0 →
 (((x.1 b 6) < 8 →
 (vp_in (x.1 b 6) 8 ∧
 ∀ x1 : XS, x1 = xA x (b + 1) (upd (x.2.1 (b + 1)) (Int32.toNatClampNeg (x.1 b 6)) p2) →
 (vp_in (x.1 b 6) 8 ∧
 ∀ x2 : XS, x2 = xA x1 (b + 2) (upd (x1.2.1 (b + 2)) (Int32.toNatClampNeg (x.1 b 6)) p3) →
 (vp_in (x.1 b 6) 8 ∧
 ∀ x3 : XS, x3 = xA x2 (b + 3) (upd (x2.2.1 (b + 3)) (Int32.toNatClampNeg (x.1 b 6)) p5) →
 wv_fingersIn q1 p4 p3 (fun r4 : Int32 =>
 (vp_in (x.1 b 6) 8 ∧
 ∀ x5 : XS, x5 = xA x3 (b + 4) (upd (x3.2.1 (b + 4)) (Int32.toNatClampNeg (x.1 b 6)) r4) →
 wv_melts q1 p3 (fun r6 : Int32 =>
 (vp_in (x.1 b 6) 8 ∧
 ∀ x7 : XS, x7 = xA x5 (b + 5) (upd (x5.2.1 (b + 5)) (Int32.toNatClampNeg (x.1 b 6)) r6) →
 wv_light q1 p3 (fun r8 : Int32 =>
 (vp_in (x.1 b 6) 8 ∧
 ∀ x9 : XS, x9 = xA x7 (b + 6) (upd (x7.2.1 (b + 6)) (Int32.toNatClampNeg (x.1 b 6)) r8) →
 (∀ x10 : XS, x10 = xI x9 b 6 ((x9.1 b 6) + 1) →
 (vp_in (x.1 b 6) 8 ∧
 Q (x10.2.1 (b + 4) (Int32.toNatClampNeg (x.1 b 6))) x10)))))))))))) ∧ (¬ (x.1 b 6) < 8 →
 Q (-2) x))))
set_option maxHeartbeats 4000000 in
set_option maxRecDepth 100000 in
theorem t_X2_freezeOn {l : Launch} {D : va_G} {cs : Nat → ClassId} {ad : Nat → Nat} (hI : wInj 161 ad) (x : XS) (b : Nat) (hb : xk b 2) (q1 : Nat) (hq1 : q1 < 8) (p2 : Int32) (p3 : Int32) (p4 : Int32) (p5 : Int32) (Q : Int32 → XS → Prop) (h : wp_X2_freezeOn x b q1 p2 p3 p4 p5 Q) : zWR l yX2_freezeOn wsX2_freezeOn ({ frames := 3, cells := 0, slots := 0, locals := 66 } : Room) (gK D cs) (XH D cs ad) (wB 161 ad) x [.ref (ad b), .ref (ad (2 + q1)), .int p2, .int p3, .int p4, .int p5] 0 0 Q := by
  refine zWR_of (cc := cX2_freezeOn) (nL := 7) (ret := (some .int)) (by decide +kernel) rfl (Nat.le_of_ble_eq_true rfl) (fun C hl O hE hK => ?_)
  subst hl
  have hX : ∀ (x : XS) (H : Heap), XH D cs ad x H → va_P D vwCl (wl 161 ad (XE cs ad x)) H := fun _ _ h => h
  have hB : ∀ {x : XS} (H : Heap), va_P D vwCl (wl 161 ad (XE cs ad x)) H → XH D cs ad x H := fun _ h => h
  have hA : ∀ q, wB 161 ad q → zA (wB 161 ad) C.s.heap.size q := fun _ h => Or.inl h
  have i2 : ∀ w ∈ wsX20, w ∈ wsX2_freezeOn := by decide +kernel
  refine z_sub (lv' := [(0, .ref (ad b)), (1, .ref (ad (2 + q1))), (2, .int p2), (3, .int p3), (4, .int p4), (5, .int p5)]) [0, 1, 2, 3, 4, 5] rfl ?_
  refine z_aload_n O dX2_freezeOn_0 0 rfl ?_
  refine z_getf O hK.1 (hX _) (hb).1 (xe_2 hb) rfl i2 6 (by decide) (by decide +kernel) rfl dX2_freezeOn_1 ?_
  refine z_istore (lv' := [(6, .int (x.1 b 6)), (0, .ref (ad b)), (1, .ref (ad (2 + q1))), (2, .int p2), (3, .int p3), (4, .int p4), (5, .int p5)]) O dX2_freezeOn_4 (by decide) rfl ?_
  refine z_iload O dX2_freezeOn_6 0 rfl ?_
  refine z_if_lt O 18 dX2_freezeOn_8 (by decide) (fun c12 => ?_) (fun c12 => ?_)
  · replace h := h.1 c12
    refine z_bipush (v := -2) O dX2_freezeOn_18 rfl ?_
    exact z_retWR O hE (Nat.le_of_ble_eq_true rfl) (Nat.le_of_ble_eq_true rfl) rfl dX2_freezeOn_20 h
  · replace h := h.2 c12
    refine z_iload O dX2_freezeOn_11 0 rfl ?_
    refine z_bipush (v := 8) O dX2_freezeOn_13 rfl ?_
    refine z_icmp_lt O 21 dX2_freezeOn_15 (by decide) (fun c11 => ?_) (fun c11 => ?_)
    · replace h := h.1 c11
      refine z_aload_n O dX2_freezeOn_21 1 rfl ?_
      refine z_getf O hK.1 (hX _) (hb).1 (xe_2 hb) rfl i2 0 (by decide) (by decide +kernel) rfl dX2_freezeOn_22 ?_
      refine z_iload O dX2_freezeOn_25 0 rfl ?_
      refine z_iload_n O dX2_freezeOn_27 3 rfl ?_
      have hb0 := h.1
      replace h := h.2
      obtain ⟨x1, ex1⟩ : ∃ z, z = xA x (b + 1) (upd (x.2.1 (b + 1)) (Int32.toNatClampNeg (x.1 b 6)) p2) := ⟨_, rfl⟩
      replace h := h x1 ex1
      refine z_iast (x' := x1) O hK.1 (hX _) hB hI hA 0 ((xk_c (j := 1) hb (by decide) (by decide))).1 (xe_20 (xk_c (j := 1) hb (by decide) (by decide))) rfl (xin (xk_cl (j := 1) hb (by decide) (by decide)) hb0) (by rw [ex1]; exact xe_setA (xk_c (j := 1) hb (by decide) (by decide)) _) dX2_freezeOn_28 ?_
      refine z_aload_n O dX2_freezeOn_29 1 rfl ?_
      refine z_getf O hK.1 (hX _) (hb).1 (xe_2 hb) rfl i2 1 (by decide) (by decide +kernel) rfl dX2_freezeOn_30 ?_
      refine z_iload O dX2_freezeOn_33 0 rfl ?_
      refine z_iload_n O dX2_freezeOn_35 4 rfl ?_
      have hb0 := h.1
      replace h := h.2
      obtain ⟨x2, ex2⟩ : ∃ z, z = xA x1 (b + 2) (upd (x1.2.1 (b + 2)) (Int32.toNatClampNeg (x.1 b 6)) p3) := ⟨_, rfl⟩
      replace h := h x2 ex2
      refine z_iast (x' := x2) O hK.1 (hX _) hB hI hA 0 ((xk_c (j := 2) hb (by decide) (by decide))).1 (xe_20 (xk_c (j := 2) hb (by decide) (by decide))) rfl (xin (xk_cl (j := 2) hb (by decide) (by decide)) hb0) (by rw [ex2]; exact xe_setA (xk_c (j := 2) hb (by decide) (by decide)) _) dX2_freezeOn_36 ?_
      refine z_aload_n O dX2_freezeOn_37 1 rfl ?_
      refine z_getf O hK.1 (hX _) (hb).1 (xe_2 hb) rfl i2 2 (by decide) (by decide +kernel) rfl dX2_freezeOn_38 ?_
      refine z_iload O dX2_freezeOn_41 0 rfl ?_
      refine z_iload O dX2_freezeOn_43 6 rfl ?_
      have hb0 := h.1
      replace h := h.2
      obtain ⟨x3, ex3⟩ : ∃ z, z = xA x2 (b + 3) (upd (x2.2.1 (b + 3)) (Int32.toNatClampNeg (x.1 b 6)) p5) := ⟨_, rfl⟩
      replace h := h x3 ex3
      refine z_iast (x' := x3) O hK.1 (hX _) hB hI hA 0 ((xk_c (j := 3) hb (by decide) (by decide))).1 (xe_20 (xk_c (j := 3) hb (by decide) (by decide))) rfl (xin (xk_cl (j := 3) hb (by decide) (by decide)) hb0) (by rw [ex3]; exact xe_setA (xk_c (j := 3) hb (by decide) (by decide)) _) dX2_freezeOn_45 ?_
      refine z_aload_n O dX2_freezeOn_46 1 rfl ?_
      refine z_getf O hK.1 (hX _) (hb).1 (xe_2 hb) rfl i2 3 (by decide) (by decide +kernel) rfl dX2_freezeOn_47 ?_
      refine z_iload O dX2_freezeOn_50 0 rfl ?_
      refine z_aload_n O dX2_freezeOn_52 2 rfl ?_
      refine z_iload O dX2_freezeOn_53 5 rfl ?_
      refine z_iload_n O dX2_freezeOn_55 4 rfl ?_
      obtain ⟨Qv, hQv⟩ : ∃ Z : Int32 → Prop, Z = (fun r4 : Int32 =>
 (vp_in (x.1 b 6) 8 ∧
 ∀ x5 : XS, x5 = xA x3 (b + 4) (upd (x3.2.1 (b + 4)) (Int32.toNatClampNeg (x.1 b 6)) r4) →
 wv_melts q1 p3 (fun r6 : Int32 =>
 (vp_in (x.1 b 6) 8 ∧
 ∀ x7 : XS, x7 = xA x5 (b + 5) (upd (x5.2.1 (b + 5)) (Int32.toNatClampNeg (x.1 b 6)) r6) →
 wv_light q1 p3 (fun r8 : Int32 =>
 (vp_in (x.1 b 6) 8 ∧
 ∀ x9 : XS, x9 = xA x7 (b + 6) (upd (x7.2.1 (b + 6)) (Int32.toNatClampNeg (x.1 b 6)) r8) →
 (∀ x10 : XS, x10 = xI x9 b 6 ((x9.1 b 6) + 1) →
 (vp_in (x.1 b 6) 8 ∧
 Q (x10.2.1 (b + 4) (Int32.toNatClampNeg (x.1 b 6))) x10)))))))) := ⟨_, rfl⟩
      have h : wv_fingersIn q1 p4 p3 Qv := by rw [hQv]; exact h
      have kv56 : ∀ r4 : Int32, Qv r4 → Z C (zA (wB 161 ad) C.s.heap.size) (XH D cs ad) 7 x3 [(6, .int (x.1 b 6)), (0, .ref (ad b)), (1, .ref (ad (2 + q1))), (2, .int p2), (3, .int p3), (4, .int p4), (5, .int p5)] 0 0 59 [.int r4, .int (x.1 b 6), .ref (ad (b + 4))] := by
        intro r4 h
        rw [hQv] at h
        have hb0 := h.1
        replace h := h.2
        obtain ⟨x5, ex5⟩ : ∃ z, z = xA x3 (b + 4) (upd (x3.2.1 (b + 4)) (Int32.toNatClampNeg (x.1 b 6)) r4) := ⟨_, rfl⟩
        replace h := h x5 ex5
        refine z_iast (x' := x5) O hK.1 (hX _) hB hI hA 0 ((xk_c (j := 4) hb (by decide) (by decide))).1 (xe_20 (xk_c (j := 4) hb (by decide) (by decide))) rfl (xin (xk_cl (j := 4) hb (by decide) (by decide)) hb0) (by rw [ex5]; exact xe_setA (xk_c (j := 4) hb (by decide) (by decide)) _) dX2_freezeOn_59 ?_
        refine z_aload_n O dX2_freezeOn_60 1 rfl ?_
        refine z_getf O hK.1 (hX _) (hb).1 (xe_2 hb) rfl i2 4 (by decide) (by decide +kernel) rfl dX2_freezeOn_61 ?_
        refine z_iload O dX2_freezeOn_64 0 rfl ?_
        refine z_aload_n O dX2_freezeOn_66 2 rfl ?_
        refine z_iload_n O dX2_freezeOn_67 4 rfl ?_
        obtain ⟨Qv, hQv⟩ : ∃ Z : Int32 → Prop, Z = (fun r6 : Int32 =>
 (vp_in (x.1 b 6) 8 ∧
 ∀ x7 : XS, x7 = xA x5 (b + 5) (upd (x5.2.1 (b + 5)) (Int32.toNatClampNeg (x.1 b 6)) r6) →
 wv_light q1 p3 (fun r8 : Int32 =>
 (vp_in (x.1 b 6) 8 ∧
 ∀ x9 : XS, x9 = xA x7 (b + 6) (upd (x7.2.1 (b + 6)) (Int32.toNatClampNeg (x.1 b 6)) r8) →
 (∀ x10 : XS, x10 = xI x9 b 6 ((x9.1 b 6) + 1) →
 (vp_in (x.1 b 6) 8 ∧
 Q (x10.2.1 (b + 4) (Int32.toNatClampNeg (x.1 b 6))) x10)))))) := ⟨_, rfl⟩
        have h : wv_melts q1 p3 Qv := by rw [hQv]; exact h
        have kv68 : ∀ r6 : Int32, Qv r6 → Z C (zA (wB 161 ad) C.s.heap.size) (XH D cs ad) 7 x5 [(6, .int (x.1 b 6)), (0, .ref (ad b)), (1, .ref (ad (2 + q1))), (2, .int p2), (3, .int p3), (4, .int p4), (5, .int p5)] 0 0 71 [.int r6, .int (x.1 b 6), .ref (ad (b + 5))] := by
          intro r6 h
          rw [hQv] at h
          have hb0 := h.1
          replace h := h.2
          obtain ⟨x7, ex7⟩ : ∃ z, z = xA x5 (b + 5) (upd (x5.2.1 (b + 5)) (Int32.toNatClampNeg (x.1 b 6)) r6) := ⟨_, rfl⟩
          replace h := h x7 ex7
          refine z_iast (x' := x7) O hK.1 (hX _) hB hI hA 0 ((xk_c (j := 5) hb (by decide) (by decide))).1 (xe_20 (xk_c (j := 5) hb (by decide) (by decide))) rfl (xin (xk_cl (j := 5) hb (by decide) (by decide)) hb0) (by rw [ex7]; exact xe_setA (xk_c (j := 5) hb (by decide) (by decide)) _) dX2_freezeOn_71 ?_
          refine z_aload_n O dX2_freezeOn_72 1 rfl ?_
          refine z_getf O hK.1 (hX _) (hb).1 (xe_2 hb) rfl i2 5 (by decide) (by decide +kernel) rfl dX2_freezeOn_73 ?_
          refine z_iload O dX2_freezeOn_76 0 rfl ?_
          refine z_aload_n O dX2_freezeOn_78 2 rfl ?_
          refine z_iload_n O dX2_freezeOn_79 4 rfl ?_
          obtain ⟨Qv, hQv⟩ : ∃ Z : Int32 → Prop, Z = (fun r8 : Int32 =>
 (vp_in (x.1 b 6) 8 ∧
 ∀ x9 : XS, x9 = xA x7 (b + 6) (upd (x7.2.1 (b + 6)) (Int32.toNatClampNeg (x.1 b 6)) r8) →
 (∀ x10 : XS, x10 = xI x9 b 6 ((x9.1 b 6) + 1) →
 (vp_in (x.1 b 6) 8 ∧
 Q (x10.2.1 (b + 4) (Int32.toNatClampNeg (x.1 b 6))) x10)))) := ⟨_, rfl⟩
          have h : wv_light q1 p3 Qv := by rw [hQv]; exact h
          have kv80 : ∀ r8 : Int32, Qv r8 → Z C (zA (wB 161 ad) C.s.heap.size) (XH D cs ad) 7 x7 [(6, .int (x.1 b 6)), (0, .ref (ad b)), (1, .ref (ad (2 + q1))), (2, .int p2), (3, .int p3), (4, .int p4), (5, .int p5)] 0 0 83 [.int r8, .int (x.1 b 6), .ref (ad (b + 6))] := by
            intro r8 h
            rw [hQv] at h
            have hb0 := h.1
            replace h := h.2
            obtain ⟨x9, ex9⟩ : ∃ z, z = xA x7 (b + 6) (upd (x7.2.1 (b + 6)) (Int32.toNatClampNeg (x.1 b 6)) r8) := ⟨_, rfl⟩
            replace h := h x9 ex9
            refine z_iast (x' := x9) O hK.1 (hX _) hB hI hA 0 ((xk_c (j := 6) hb (by decide) (by decide))).1 (xe_20 (xk_c (j := 6) hb (by decide) (by decide))) rfl (xin (xk_cl (j := 6) hb (by decide) (by decide)) hb0) (by rw [ex9]; exact xe_setA (xk_c (j := 6) hb (by decide) (by decide)) _) dX2_freezeOn_83 ?_
            refine z_aload_n O dX2_freezeOn_84 1 rfl ?_
            refine z_dup O dX2_freezeOn_85 rfl ?_
            refine z_getf O hK.1 (hX _) (hb).1 (xe_2 hb) rfl i2 6 (by decide) (by decide +kernel) rfl dX2_freezeOn_86 ?_
            refine z_iconst (v := 1) O dX2_freezeOn_89 rfl ?_
            refine z_iadd O dX2_freezeOn_90 ?_
            obtain ⟨x10, ex10⟩ : ∃ z, z = xI x9 b 6 ((x9.1 b 6) + 1) := ⟨_, rfl⟩
            replace h := h x10 ex10
            refine z_putf (x' := x10) (ty := .int) O hK.1 (hX _) hB hI hA (hb).1 (xe_2 hb) rfl i2 tyX2 tyX2_ok nmX2 6 (by decide) (by decide +kernel) rfl (by decide +kernel) rfl rfl (Nat.le_of_ble_eq_true rfl) (by rw [ex10]; exact xe_put2_6 hb ((x9.1 b 6) + 1)) dX2_freezeOn_91 ?_
            refine z_aload_n O dX2_freezeOn_94 1 rfl ?_
            refine z_getf O hK.1 (hX _) (hb).1 (xe_2 hb) rfl i2 3 (by decide) (by decide +kernel) rfl dX2_freezeOn_95 ?_
            refine z_iload O dX2_freezeOn_98 0 rfl ?_
            refine z_iald O hK.1 (hX _) 0 ((xk_c (j := 4) hb (by decide) (by decide))).1 (xe_20 (xk_c (j := 4) hb (by decide) (by decide))) rfl (xin (xk_cl (j := 4) hb (by decide) (by decide)) h.1) dX2_freezeOn_100 ?_
            replace h := h.2
            exact z_retWR O hE (Nat.le_of_ble_eq_true rfl) (Nat.le_of_ble_eq_true rfl) rfl dX2_freezeOn_101 h
          clear hQv
          rcases xl8 hq1 with rfl | rfl | rfl | rfl | rfl | rfl | rfl | rfl
          · exact z_callR (gKs D cs) hK (fun _ h => h) (t_X7_light x7 0 (by decide) p3 _ h) (zr_V (As := [.int p3]) (rest := [.int (x.1 b 6), .ref (ad (b + 6))]) O hE.1 1 gX2_freezeOn_X7_light rfl rfl rfl (by decide +kernel) ⟨(Nat.le_of_ble_eq_true rfl), (Nat.le_of_ble_eq_true rfl)⟩ ⟨(Nat.le_of_ble_eq_true rfl), (Nat.le_of_ble_eq_true rfl)⟩ (fun H hH => z_recv hK.1 (hX _ H hH) (by decide) (xe_ly (k := 0) (by decide)) rfl) rfl rfl (Nat.le_of_ble_eq_true rfl) dX2_freezeOn_80) kv80
          · exact z_callR (gKs D cs) hK (fun _ h => h) (t_X3_light x7 1 (by decide) p3 _ h) (zr_O (As := [.int p3]) (rest := [.int (x.1 b 6), .ref (ad (b + 6))]) O hE.1 1 gX2_freezeOn_X3_light_u65X3 rfl rfl rfl (b0 := cX7_light) (m0 := 2) (r0 := (some .int)) (by decide +kernel) (by decide +kernel) ⟨(Nat.le_of_ble_eq_true rfl), (Nat.le_of_ble_eq_true rfl)⟩ ⟨(Nat.le_of_ble_eq_true rfl), (Nat.le_of_ble_eq_true rfl)⟩ (fun H hH => z_recv hK.1 (hX _ H hH) (by decide) (xe_ly (k := 1) (by decide)) rfl) rfl rfl (Nat.le_of_ble_eq_true rfl) dX2_freezeOn_80) kv80
          · exact z_callR (gKs D cs) hK (fun _ h => h) (t_X7_light x7 2 (by decide) p3 _ h) (zr_U (As := [.int p3]) (rest := [.int (x.1 b 6), .ref (ad (b + 6))]) O hE.1 1 gX2_freezeOn_X7_light_u65X5 rfl rfl rfl rfl (by decide +kernel) ⟨(Nat.le_of_ble_eq_true rfl), (Nat.le_of_ble_eq_true rfl)⟩ ⟨(Nat.le_of_ble_eq_true rfl), (Nat.le_of_ble_eq_true rfl)⟩ (fun H hH => z_recv hK.1 (hX _ H hH) (by decide) (xe_ly (k := 2) (by decide)) rfl) rfl rfl (Nat.le_of_ble_eq_true rfl) dX2_freezeOn_80) kv80
          · exact z_callR (gKs D cs) hK (fun _ h => h) (t_X10_light x7 3 (by decide) p3 _ h) (zr_O (As := [.int p3]) (rest := [.int (x.1 b 6), .ref (ad (b + 6))]) O hE.1 1 gX2_freezeOn_X10_light_u65X10 rfl rfl rfl (b0 := cX7_light) (m0 := 2) (r0 := (some .int)) (by decide +kernel) (by decide +kernel) ⟨(Nat.le_of_ble_eq_true rfl), (Nat.le_of_ble_eq_true rfl)⟩ ⟨(Nat.le_of_ble_eq_true rfl), (Nat.le_of_ble_eq_true rfl)⟩ (fun H hH => z_recv hK.1 (hX _ H hH) (by decide) (xe_ly (k := 3) (by decide)) rfl) rfl rfl (Nat.le_of_ble_eq_true rfl) dX2_freezeOn_80) kv80
          · exact z_callR (gKs D cs) hK (fun _ h => h) (t_X1_light x7 4 (by decide) p3 _ h) (zr_O (As := [.int p3]) (rest := [.int (x.1 b 6), .ref (ad (b + 6))]) O hE.1 1 gX2_freezeOn_X1_light_u65X1 rfl rfl rfl (b0 := cX7_light) (m0 := 2) (r0 := (some .int)) (by decide +kernel) (by decide +kernel) ⟨(Nat.le_of_ble_eq_true rfl), (Nat.le_of_ble_eq_true rfl)⟩ ⟨(Nat.le_of_ble_eq_true rfl), (Nat.le_of_ble_eq_true rfl)⟩ (fun H hH => z_recv hK.1 (hX _ H hH) (by decide) (xe_ly (k := 4) (by decide)) rfl) rfl rfl (Nat.le_of_ble_eq_true rfl) dX2_freezeOn_80) kv80
          · exact z_callR (gKs D cs) hK (fun _ h => h) (t_X10_light x7 5 (by decide) p3 _ h) (zr_O (As := [.int p3]) (rest := [.int (x.1 b 6), .ref (ad (b + 6))]) O hE.1 1 gX2_freezeOn_X10_light_u65X8 rfl rfl rfl (b0 := cX7_light) (m0 := 2) (r0 := (some .int)) (by decide +kernel) (by decide +kernel) ⟨(Nat.le_of_ble_eq_true rfl), (Nat.le_of_ble_eq_true rfl)⟩ ⟨(Nat.le_of_ble_eq_true rfl), (Nat.le_of_ble_eq_true rfl)⟩ (fun H hH => z_recv hK.1 (hX _ H hH) (by decide) (xe_ly (k := 5) (by decide)) rfl) rfl rfl (Nat.le_of_ble_eq_true rfl) dX2_freezeOn_80) kv80
          · exact z_callR (gKs D cs) hK (fun _ h => h) (t_X0_light x7 6 (by decide) p3 _ h) (zr_O (As := [.int p3]) (rest := [.int (x.1 b 6), .ref (ad (b + 6))]) O hE.1 1 gX2_freezeOn_X0_light_u65X0 rfl rfl rfl (b0 := cX7_light) (m0 := 2) (r0 := (some .int)) (by decide +kernel) (by decide +kernel) ⟨(Nat.le_of_ble_eq_true rfl), (Nat.le_of_ble_eq_true rfl)⟩ ⟨(Nat.le_of_ble_eq_true rfl), (Nat.le_of_ble_eq_true rfl)⟩ (fun H hH => z_recv hK.1 (hX _ H hH) (by decide) (xe_ly (k := 6) (by decide)) rfl) rfl rfl (Nat.le_of_ble_eq_true rfl) dX2_freezeOn_80) kv80
          · exact z_callR (gKs D cs) hK (fun _ h => h) (t_X4_light x7 7 (by decide) p3 _ h) (zr_O (As := [.int p3]) (rest := [.int (x.1 b 6), .ref (ad (b + 6))]) O hE.1 1 gX2_freezeOn_X4_light_u65X4 rfl rfl rfl (b0 := cX7_light) (m0 := 2) (r0 := (some .int)) (by decide +kernel) (by decide +kernel) ⟨(Nat.le_of_ble_eq_true rfl), (Nat.le_of_ble_eq_true rfl)⟩ ⟨(Nat.le_of_ble_eq_true rfl), (Nat.le_of_ble_eq_true rfl)⟩ (fun H hH => z_recv hK.1 (hX _ H hH) (by decide) (xe_ly (k := 7) (by decide)) rfl) rfl rfl (Nat.le_of_ble_eq_true rfl) dX2_freezeOn_80) kv80
        clear hQv
        rcases xl8 hq1 with rfl | rfl | rfl | rfl | rfl | rfl | rfl | rfl
        · exact z_callR (gKs D cs) hK (fun _ h => h) (t_X7_melts x5 0 (by decide) p3 _ h) (zr_V (As := [.int p3]) (rest := [.int (x.1 b 6), .ref (ad (b + 5))]) O hE.1 1 gX2_freezeOn_X7_melts rfl rfl rfl (by decide +kernel) ⟨(Nat.le_of_ble_eq_true rfl), (Nat.le_of_ble_eq_true rfl)⟩ ⟨(Nat.le_of_ble_eq_true rfl), (Nat.le_of_ble_eq_true rfl)⟩ (fun H hH => z_recv hK.1 (hX _ H hH) (by decide) (xe_ly (k := 0) (by decide)) rfl) rfl rfl (Nat.le_of_ble_eq_true rfl) dX2_freezeOn_68) kv68
        · exact z_callR (gKs D cs) hK (fun _ h => h) (t_X3_melts x5 1 (by decide) p3 _ h) (zr_O (As := [.int p3]) (rest := [.int (x.1 b 6), .ref (ad (b + 5))]) O hE.1 1 gX2_freezeOn_X3_melts_u63X3 rfl rfl rfl (b0 := cX7_melts) (m0 := 2) (r0 := (some .int)) (by decide +kernel) (by decide +kernel) ⟨(Nat.le_of_ble_eq_true rfl), (Nat.le_of_ble_eq_true rfl)⟩ ⟨(Nat.le_of_ble_eq_true rfl), (Nat.le_of_ble_eq_true rfl)⟩ (fun H hH => z_recv hK.1 (hX _ H hH) (by decide) (xe_ly (k := 1) (by decide)) rfl) rfl rfl (Nat.le_of_ble_eq_true rfl) dX2_freezeOn_68) kv68
        · exact z_callR (gKs D cs) hK (fun _ h => h) (t_X5_melts x5 2 (by decide) p3 _ h) (zr_O (As := [.int p3]) (rest := [.int (x.1 b 6), .ref (ad (b + 5))]) O hE.1 1 gX2_freezeOn_X5_melts_u63X5 rfl rfl rfl (b0 := cX7_melts) (m0 := 2) (r0 := (some .int)) (by decide +kernel) (by decide +kernel) ⟨(Nat.le_of_ble_eq_true rfl), (Nat.le_of_ble_eq_true rfl)⟩ ⟨(Nat.le_of_ble_eq_true rfl), (Nat.le_of_ble_eq_true rfl)⟩ (fun H hH => z_recv hK.1 (hX _ H hH) (by decide) (xe_ly (k := 2) (by decide)) rfl) rfl rfl (Nat.le_of_ble_eq_true rfl) dX2_freezeOn_68) kv68
        · exact z_callR (gKs D cs) hK (fun _ h => h) (t_X10_melts x5 3 (by decide) p3 _ h) (zr_O (As := [.int p3]) (rest := [.int (x.1 b 6), .ref (ad (b + 5))]) O hE.1 1 gX2_freezeOn_X10_melts_u63X10 rfl rfl rfl (b0 := cX7_melts) (m0 := 2) (r0 := (some .int)) (by decide +kernel) (by decide +kernel) ⟨(Nat.le_of_ble_eq_true rfl), (Nat.le_of_ble_eq_true rfl)⟩ ⟨(Nat.le_of_ble_eq_true rfl), (Nat.le_of_ble_eq_true rfl)⟩ (fun H hH => z_recv hK.1 (hX _ H hH) (by decide) (xe_ly (k := 3) (by decide)) rfl) rfl rfl (Nat.le_of_ble_eq_true rfl) dX2_freezeOn_68) kv68
        · exact z_callR (gKs D cs) hK (fun _ h => h) (t_X1_melts x5 4 (by decide) p3 _ h) (zr_O (As := [.int p3]) (rest := [.int (x.1 b 6), .ref (ad (b + 5))]) O hE.1 1 gX2_freezeOn_X1_melts_u63X1 rfl rfl rfl (b0 := cX7_melts) (m0 := 2) (r0 := (some .int)) (by decide +kernel) (by decide +kernel) ⟨(Nat.le_of_ble_eq_true rfl), (Nat.le_of_ble_eq_true rfl)⟩ ⟨(Nat.le_of_ble_eq_true rfl), (Nat.le_of_ble_eq_true rfl)⟩ (fun H hH => z_recv hK.1 (hX _ H hH) (by decide) (xe_ly (k := 4) (by decide)) rfl) rfl rfl (Nat.le_of_ble_eq_true rfl) dX2_freezeOn_68) kv68
        · exact z_callR (gKs D cs) hK (fun _ h => h) (t_X8_melts x5 5 (by decide) p3 _ h) (zr_O (As := [.int p3]) (rest := [.int (x.1 b 6), .ref (ad (b + 5))]) O hE.1 1 gX2_freezeOn_X8_melts_u63X8 rfl rfl rfl (b0 := cX7_melts) (m0 := 2) (r0 := (some .int)) (by decide +kernel) (by decide +kernel) ⟨(Nat.le_of_ble_eq_true rfl), (Nat.le_of_ble_eq_true rfl)⟩ ⟨(Nat.le_of_ble_eq_true rfl), (Nat.le_of_ble_eq_true rfl)⟩ (fun H hH => z_recv hK.1 (hX _ H hH) (by decide) (xe_ly (k := 5) (by decide)) rfl) rfl rfl (Nat.le_of_ble_eq_true rfl) dX2_freezeOn_68) kv68
        · exact z_callR (gKs D cs) hK (fun _ h => h) (t_X3_melts x5 6 (by decide) p3 _ h) (zr_O (As := [.int p3]) (rest := [.int (x.1 b 6), .ref (ad (b + 5))]) O hE.1 1 gX2_freezeOn_X3_melts_u63X0 rfl rfl rfl (b0 := cX7_melts) (m0 := 2) (r0 := (some .int)) (by decide +kernel) (by decide +kernel) ⟨(Nat.le_of_ble_eq_true rfl), (Nat.le_of_ble_eq_true rfl)⟩ ⟨(Nat.le_of_ble_eq_true rfl), (Nat.le_of_ble_eq_true rfl)⟩ (fun H hH => z_recv hK.1 (hX _ H hH) (by decide) (xe_ly (k := 6) (by decide)) rfl) rfl rfl (Nat.le_of_ble_eq_true rfl) dX2_freezeOn_68) kv68
        · exact z_callR (gKs D cs) hK (fun _ h => h) (t_X4_melts x5 7 (by decide) p3 _ h) (zr_O (As := [.int p3]) (rest := [.int (x.1 b 6), .ref (ad (b + 5))]) O hE.1 1 gX2_freezeOn_X4_melts_u63X4 rfl rfl rfl (b0 := cX7_melts) (m0 := 2) (r0 := (some .int)) (by decide +kernel) (by decide +kernel) ⟨(Nat.le_of_ble_eq_true rfl), (Nat.le_of_ble_eq_true rfl)⟩ ⟨(Nat.le_of_ble_eq_true rfl), (Nat.le_of_ble_eq_true rfl)⟩ (fun H hH => z_recv hK.1 (hX _ H hH) (by decide) (xe_ly (k := 7) (by decide)) rfl) rfl rfl (Nat.le_of_ble_eq_true rfl) dX2_freezeOn_68) kv68
      clear hQv
      rcases xl8 hq1 with rfl | rfl | rfl | rfl | rfl | rfl | rfl | rfl
      · exact z_callR (gKs D cs) hK (fun _ h => h) (t_X7_fingersIn x3 0 (by decide) p4 p3 _ h) (zr_V (As := [.int p4, .int p3]) (rest := [.int (x.1 b 6), .ref (ad (b + 4))]) O hE.1 2 gX2_freezeOn_X7_fingersIn rfl rfl rfl (by decide +kernel) ⟨(Nat.le_of_ble_eq_true rfl), (Nat.le_of_ble_eq_true rfl)⟩ ⟨(Nat.le_of_ble_eq_true rfl), (Nat.le_of_ble_eq_true rfl)⟩ (fun H hH => z_recv hK.1 (hX _ H hH) (by decide) (xe_ly (k := 0) (by decide)) rfl) rfl rfl (Nat.le_of_ble_eq_true rfl) dX2_freezeOn_56) kv56
      · exact z_callR (gKs D cs) hK (fun _ h => h) (t_X3_fingersIn x3 1 (by decide) p4 p3 _ h) (zr_O (As := [.int p4, .int p3]) (rest := [.int (x.1 b 6), .ref (ad (b + 4))]) O hE.1 2 gX2_freezeOn_X3_fingersIn_u57X3 rfl rfl rfl (b0 := cX7_fingersIn) (m0 := 3) (r0 := (some .int)) (by decide +kernel) (by decide +kernel) ⟨(Nat.le_of_ble_eq_true rfl), (Nat.le_of_ble_eq_true rfl)⟩ ⟨(Nat.le_of_ble_eq_true rfl), (Nat.le_of_ble_eq_true rfl)⟩ (fun H hH => z_recv hK.1 (hX _ H hH) (by decide) (xe_ly (k := 1) (by decide)) rfl) rfl rfl (Nat.le_of_ble_eq_true rfl) dX2_freezeOn_56) kv56
      · exact z_callR (gKs D cs) hK (fun _ h => h) (t_X5_fingersIn x3 2 (by decide) p4 p3 _ h) (zr_O (As := [.int p4, .int p3]) (rest := [.int (x.1 b 6), .ref (ad (b + 4))]) O hE.1 2 gX2_freezeOn_X5_fingersIn_u57X5 rfl rfl rfl (b0 := cX7_fingersIn) (m0 := 3) (r0 := (some .int)) (by decide +kernel) (by decide +kernel) ⟨(Nat.le_of_ble_eq_true rfl), (Nat.le_of_ble_eq_true rfl)⟩ ⟨(Nat.le_of_ble_eq_true rfl), (Nat.le_of_ble_eq_true rfl)⟩ (fun H hH => z_recv hK.1 (hX _ H hH) (by decide) (xe_ly (k := 2) (by decide)) rfl) rfl rfl (Nat.le_of_ble_eq_true rfl) dX2_freezeOn_56) kv56
      · exact z_callR (gKs D cs) hK (fun _ h => h) (t_X10_fingersIn x3 3 (by decide) p4 p3 _ h) (zr_O (As := [.int p4, .int p3]) (rest := [.int (x.1 b 6), .ref (ad (b + 4))]) O hE.1 2 gX2_freezeOn_X10_fingersIn_u57X10 rfl rfl rfl (b0 := cX7_fingersIn) (m0 := 3) (r0 := (some .int)) (by decide +kernel) (by decide +kernel) ⟨(Nat.le_of_ble_eq_true rfl), (Nat.le_of_ble_eq_true rfl)⟩ ⟨(Nat.le_of_ble_eq_true rfl), (Nat.le_of_ble_eq_true rfl)⟩ (fun H hH => z_recv hK.1 (hX _ H hH) (by decide) (xe_ly (k := 3) (by decide)) rfl) rfl rfl (Nat.le_of_ble_eq_true rfl) dX2_freezeOn_56) kv56
      · exact z_callR (gKs D cs) hK (fun _ h => h) (t_X3_fingersIn x3 4 (by decide) p4 p3 _ h) (zr_O (As := [.int p4, .int p3]) (rest := [.int (x.1 b 6), .ref (ad (b + 4))]) O hE.1 2 gX2_freezeOn_X3_fingersIn_u57X1 rfl rfl rfl (b0 := cX7_fingersIn) (m0 := 3) (r0 := (some .int)) (by decide +kernel) (by decide +kernel) ⟨(Nat.le_of_ble_eq_true rfl), (Nat.le_of_ble_eq_true rfl)⟩ ⟨(Nat.le_of_ble_eq_true rfl), (Nat.le_of_ble_eq_true rfl)⟩ (fun H hH => z_recv hK.1 (hX _ H hH) (by decide) (xe_ly (k := 4) (by decide)) rfl) rfl rfl (Nat.le_of_ble_eq_true rfl) dX2_freezeOn_56) kv56
      · exact z_callR (gKs D cs) hK (fun _ h => h) (t_X8_fingersIn x3 5 (by decide) p4 p3 _ h) (zr_O (As := [.int p4, .int p3]) (rest := [.int (x.1 b 6), .ref (ad (b + 4))]) O hE.1 2 gX2_freezeOn_X8_fingersIn_u57X8 rfl rfl rfl (b0 := cX7_fingersIn) (m0 := 3) (r0 := (some .int)) (by decide +kernel) (by decide +kernel) ⟨(Nat.le_of_ble_eq_true rfl), (Nat.le_of_ble_eq_true rfl)⟩ ⟨(Nat.le_of_ble_eq_true rfl), (Nat.le_of_ble_eq_true rfl)⟩ (fun H hH => z_recv hK.1 (hX _ H hH) (by decide) (xe_ly (k := 5) (by decide)) rfl) rfl rfl (Nat.le_of_ble_eq_true rfl) dX2_freezeOn_56) kv56
      · exact z_callR (gKs D cs) hK (fun _ h => h) (t_X0_fingersIn x3 6 (by decide) p4 p3 _ h) (zr_O (As := [.int p4, .int p3]) (rest := [.int (x.1 b 6), .ref (ad (b + 4))]) O hE.1 2 gX2_freezeOn_X0_fingersIn_u57X0 rfl rfl rfl (b0 := cX7_fingersIn) (m0 := 3) (r0 := (some .int)) (by decide +kernel) (by decide +kernel) ⟨(Nat.le_of_ble_eq_true rfl), (Nat.le_of_ble_eq_true rfl)⟩ ⟨(Nat.le_of_ble_eq_true rfl), (Nat.le_of_ble_eq_true rfl)⟩ (fun H hH => z_recv hK.1 (hX _ H hH) (by decide) (xe_ly (k := 6) (by decide)) rfl) rfl rfl (Nat.le_of_ble_eq_true rfl) dX2_freezeOn_56) kv56
      · exact z_callR (gKs D cs) hK (fun _ h => h) (t_X10_fingersIn x3 7 (by decide) p4 p3 _ h) (zr_O (As := [.int p4, .int p3]) (rest := [.int (x.1 b 6), .ref (ad (b + 4))]) O hE.1 2 gX2_freezeOn_X10_fingersIn_u57X4 rfl rfl rfl (b0 := cX7_fingersIn) (m0 := 3) (r0 := (some .int)) (by decide +kernel) (by decide +kernel) ⟨(Nat.le_of_ble_eq_true rfl), (Nat.le_of_ble_eq_true rfl)⟩ ⟨(Nat.le_of_ble_eq_true rfl), (Nat.le_of_ble_eq_true rfl)⟩ (fun H hH => z_recv hK.1 (hX _ H hH) (by decide) (xe_ly (k := 7) (by decide)) rfl) rfl rfl (Nat.le_of_ble_eq_true rfl) dX2_freezeOn_56) kv56
    · replace h := h.2 c11
      refine z_bipush (v := -2) O dX2_freezeOn_18 rfl ?_
      exact z_retWR O hE (Nat.le_of_ble_eq_true rfl) (Nat.le_of_ble_eq_true rfl) rfl dX2_freezeOn_20 h
def wp_X2_cutOff (x : XS) (b : Nat) (p1 : Int32) (Q : Int32 → XS → Prop) : Prop :=
 (∃ (I15 : Int32 → Int32 → XS → Prop) (U15 : Int32 → Int32 → XS → Nat), I15 p1 ((x.1 b 6) - 1) x ∧ ∀ (y1 : Int32) (y2 : Int32) (x3 : XS), I15 y1 y2 x3 →
 wp_X2_has x3 b y2 (fun r4 : Int32 =>
 ((r4 = 0 →
 Q ((x.1 b 6) - (x3.1 b 6)) x3) ∧ (¬ r4 = 0 →
 ((y1 ≤ 0 →
 Q ((x.1 b 6) - (x3.1 b 6)) x3) ∧ (¬ y1 ≤ 0 →
 wp_X2_thickAt x3 b y2 (fun r5 : Int32 =>
 (vp_in y2 8 ∧
 (vp_in y2 8 ∧
 ∀ x6 : XS, x6 = xA x3 (b + 4) (upd (x3.2.1 (b + 4)) (Int32.toNatClampNeg y2) ((x3.2.1 (b + 4) (Int32.toNatClampNeg y2)) - (if r5 < y1 then r5 else y1))) →
 (vp_in y2 8 ∧
 ((¬ (x6.2.1 (b + 4) (Int32.toNatClampNeg y2)) = 0 →
 (I15 (y1 - (if r5 < y1 then r5 else y1)) (y2 + (-1)) x6 ∧ U15 (y1 - (if r5 < y1 then r5 else y1)) (y2 + (-1)) x6 < U15 y1 y2 x3)) ∧ ((x6.2.1 (b + 4) (Int32.toNatClampNeg y2)) = 0 →
 (∀ x7 : XS, x7 = xI x6 b 6 ((x6.1 b 6) - 1) →
 (I15 (y1 - (if r5 < y1 then r5 else y1)) (y2 + (-1)) x7 ∧ U15 (y1 - (if r5 < y1 then r5 else y1)) (y2 + (-1)) x7 < U15 y1 y2 x3))))))))))))))
set_option maxHeartbeats 4000000 in
set_option maxRecDepth 100000 in
theorem t_X2_cutOff {l : Launch} {D : va_G} {cs : Nat → ClassId} {ad : Nat → Nat} (hI : wInj 161 ad) (x : XS) (b : Nat) (hb : xk b 2) (p1 : Int32) (Q : Int32 → XS → Prop) (h : wp_X2_cutOff x b p1 Q) : zWR l yX2_cutOff wsX2_cutOff ({ frames := 2, cells := 0, slots := 0, locals := 42 } : Room) (gK D cs) (XH D cs ad) (wB 161 ad) x [.ref (ad b), .int p1] 0 0 Q := by
  refine zWR_of (cc := cX2_cutOff) (nL := 6) (ret := (some .int)) (by decide +kernel) rfl (Nat.le_of_ble_eq_true rfl) (fun C hl O hE hK => ?_)
  subst hl
  have hX : ∀ (x : XS) (H : Heap), XH D cs ad x H → va_P D vwCl (wl 161 ad (XE cs ad x)) H := fun _ _ h => h
  have hB : ∀ {x : XS} (H : Heap), va_P D vwCl (wl 161 ad (XE cs ad x)) H → XH D cs ad x H := fun _ h => h
  have hA : ∀ q, wB 161 ad q → zA (wB 161 ad) C.s.heap.size q := fun _ h => Or.inl h
  have i2 : ∀ w ∈ wsX20, w ∈ wsX2_cutOff := by decide +kernel
  refine z_sub (lv' := [(0, .ref (ad b)), (1, .int p1)]) [0, 1] rfl ?_
  refine z_aload_n O dX2_cutOff_0 0 rfl ?_
  refine z_getf O hK.1 (hX _) (hb).1 (xe_2 hb) rfl i2 6 (by decide) (by decide +kernel) rfl dX2_cutOff_1 ?_
  refine z_istore_n (lv' := [(2, .int (x.1 b 6)), (0, .ref (ad b)), (1, .int p1)]) O dX2_cutOff_4 (by decide) rfl ?_
  refine z_iload_n O dX2_cutOff_5 2 rfl ?_
  refine z_istore_n (lv' := [(3, .int p1), (2, .int (x.1 b 6)), (0, .ref (ad b)), (1, .int p1)]) O dX2_cutOff_6 (by decide) rfl ?_
  refine z_aload_n O dX2_cutOff_7 2 rfl ?_
  refine z_getf O hK.1 (hX _) (hb).1 (xe_2 hb) rfl i2 6 (by decide) (by decide +kernel) rfl dX2_cutOff_8 ?_
  refine z_iconst (v := 1) O dX2_cutOff_11 rfl ?_
  refine z_isub O dX2_cutOff_12 ?_
  refine z_istore (lv' := [(4, .int ((x.1 b 6) - 1)), (3, .int p1), (2, .int (x.1 b 6)), (0, .ref (ad b)), (1, .int p1)]) O dX2_cutOff_13 (by decide) rfl ?_
  obtain ⟨I15, U15, h0, hs⟩ := h
  have kI15 : ∀ (n : Nat) (y1 : Int32) (y2 : Int32) (x3 : XS), U15 y1 y2 x3 < n → I15 y1 y2 x3 → Z C (zA (wB 161 ad) C.s.heap.size) (XH D cs ad) 6 x3 [(0, .ref (ad b)), (2, .int (x.1 b 6)), (3, .int y1), (4, .int y2)] 0 0 15 [] := by
    intro n
    induction n with
    | zero => intro y1 y2 x3 uI15; exact absurd uI15 (Nat.not_lt_zero _)
    | succ n iI15 =>
      intro y1 y2 x3 uI15 h
      have h := hs y1 y2 x3 h
      refine z_aload_n O dX2_cutOff_15 0 rfl ?_
      refine z_iload O dX2_cutOff_16 3 rfl ?_
      refine z_callR (gKs D cs) hK (fun _ h => h) (t_X2_has x3 b hb y2 _ h) (zr_V (As := [.int y2]) (rest := []) O hE.1 1 gX2_cutOff_X2_has rfl rfl rfl (by decide +kernel) ⟨(Nat.le_of_ble_eq_true rfl), (Nat.le_of_ble_eq_true rfl)⟩ ⟨(Nat.le_of_ble_eq_true rfl), (Nat.le_of_ble_eq_true rfl)⟩ (fun H hH => z_recv hK.1 (hX _ H hH) (hb).1 (xe_2 hb) rfl) rfl rfl (Nat.le_of_ble_eq_true rfl) dX2_cutOff_18) (fun r4 h => ?_)
      refine z_if_eq O 83 dX2_cutOff_21 (by decide) (fun c10 => ?_) (fun c10 => ?_)
      · replace h := h.1 c10
        refine z_iload_n O dX2_cutOff_83 1 rfl ?_
        refine z_aload_n O dX2_cutOff_84 0 rfl ?_
        refine z_getf O hK.1 (hX _) (hb).1 (xe_2 hb) rfl i2 6 (by decide) (by decide +kernel) rfl dX2_cutOff_85 ?_
        refine z_isub O dX2_cutOff_88 ?_
        exact z_retWR O hE (Nat.le_of_ble_eq_true rfl) (Nat.le_of_ble_eq_true rfl) rfl dX2_cutOff_89 h
      · replace h := h.2 c10
        refine z_iload_n O dX2_cutOff_24 2 rfl ?_
        refine z_if_le O 83 dX2_cutOff_25 (by decide) (fun c9 => ?_) (fun c9 => ?_)
        · replace h := h.1 c9
          refine z_iload_n O dX2_cutOff_83 1 rfl ?_
          refine z_aload_n O dX2_cutOff_84 0 rfl ?_
          refine z_getf O hK.1 (hX _) (hb).1 (xe_2 hb) rfl i2 6 (by decide) (by decide +kernel) rfl dX2_cutOff_85 ?_
          refine z_isub O dX2_cutOff_88 ?_
          exact z_retWR O hE (Nat.le_of_ble_eq_true rfl) (Nat.le_of_ble_eq_true rfl) rfl dX2_cutOff_89 h
        · replace h := h.2 c9
          refine z_iload_n O dX2_cutOff_28 2 rfl ?_
          refine z_aload_n O dX2_cutOff_29 0 rfl ?_
          refine z_iload O dX2_cutOff_30 3 rfl ?_
          refine z_callR (gKs D cs) hK (fun _ h => h) (t_X2_thickAt x3 b hb y2 _ h) (zr_V (As := [.int y2]) (rest := [.int y1]) O hE.1 1 gX2_cutOff_X2_thickAt rfl rfl rfl (by decide +kernel) ⟨(Nat.le_of_ble_eq_true rfl), (Nat.le_of_ble_eq_true rfl)⟩ ⟨(Nat.le_of_ble_eq_true rfl), (Nat.le_of_ble_eq_true rfl)⟩ (fun H hH => z_recv hK.1 (hX _ H hH) (hb).1 (xe_2 hb) rfl) rfl rfl (Nat.le_of_ble_eq_true rfl) dX2_cutOff_32) (fun r5 h => ?_)
          refine z_min O hE.1 (by decide +kernel) (by decide +kernel) (by decide +kernel) (by decide +kernel) ⟨(Nat.le_of_ble_eq_true rfl), (Nat.le_of_ble_eq_true rfl), Nat.zero_le _, Nat.zero_le _⟩ dX2_cutOff_35 ?_
          refine z_istore (lv' := [(5, .int (if r5 < y1 then r5 else y1)), (0, .ref (ad b)), (2, .int (x.1 b 6)), (3, .int y1), (4, .int y2)]) O dX2_cutOff_38 (by decide) rfl ?_
          refine z_iload_n O dX2_cutOff_40 3 rfl ?_
          refine z_iload O dX2_cutOff_41 0 rfl ?_
          refine z_isub O dX2_cutOff_43 ?_
          refine z_istore_n (lv' := [(3, .int (y1 - (if r5 < y1 then r5 else y1))), (5, .int (if r5 < y1 then r5 else y1)), (0, .ref (ad b)), (2, .int (x.1 b 6)), (4, .int y2)]) O dX2_cutOff_44 (by decide) rfl ?_
          refine z_aload_n O dX2_cutOff_45 2 rfl ?_
          refine z_getf O hK.1 (hX _) (hb).1 (xe_2 hb) rfl i2 3 (by decide) (by decide +kernel) rfl dX2_cutOff_46 ?_
          refine z_iload O dX2_cutOff_49 4 rfl ?_
          refine z_dup2 O dX2_cutOff_51 rfl rfl ?_
          refine z_iald O hK.1 (hX _) 0 ((xk_c (j := 4) hb (by decide) (by decide))).1 (xe_20 (xk_c (j := 4) hb (by decide) (by decide))) rfl (xin (xk_cl (j := 4) hb (by decide) (by decide)) h.1) dX2_cutOff_52 ?_
          replace h := h.2
          refine z_iload O dX2_cutOff_53 1 rfl ?_
          refine z_isub O dX2_cutOff_55 ?_
          have hb0 := h.1
          replace h := h.2
          obtain ⟨x6, ex6⟩ : ∃ z, z = xA x3 (b + 4) (upd (x3.2.1 (b + 4)) (Int32.toNatClampNeg y2) ((x3.2.1 (b + 4) (Int32.toNatClampNeg y2)) - (if r5 < y1 then r5 else y1))) := ⟨_, rfl⟩
          replace h := h x6 ex6
          refine z_iast (x' := x6) O hK.1 (hX _) hB hI hA 0 ((xk_c (j := 4) hb (by decide) (by decide))).1 (xe_20 (xk_c (j := 4) hb (by decide) (by decide))) rfl (xin (xk_cl (j := 4) hb (by decide) (by decide)) hb0) (by rw [ex6]; exact xe_setA (xk_c (j := 4) hb (by decide) (by decide)) _) dX2_cutOff_56 ?_
          refine z_aload_n O dX2_cutOff_57 2 rfl ?_
          refine z_getf O hK.1 (hX _) (hb).1 (xe_2 hb) rfl i2 3 (by decide) (by decide +kernel) rfl dX2_cutOff_58 ?_
          refine z_iload O dX2_cutOff_61 4 rfl ?_
          refine z_iald O hK.1 (hX _) 0 ((xk_c (j := 4) hb (by decide) (by decide))).1 (xe_20 (xk_c (j := 4) hb (by decide) (by decide))) rfl (xin (xk_cl (j := 4) hb (by decide) (by decide)) h.1) dX2_cutOff_63 ?_
          replace h := h.2
          refine z_if_ne O 77 dX2_cutOff_64 (by decide) (fun c8 => ?_) (fun c8 => ?_)
          · replace h := h.1 c8
            refine z_iinc (lv' := [(4, .int (y2 + (-1))), (3, .int (y1 - (if r5 < y1 then r5 else y1))), (5, .int (if r5 < y1 then r5 else y1)), (0, .ref (ad b)), (2, .int (x.1 b 6))]) O dX2_cutOff_77 4 rfl rfl (by decide) rfl ?_
            refine z_goto O 15 dX2_cutOff_80 (by decide) ?_
            exact z_sub [3, 4, 1, 0] rfl (iI15 (y1 - (if r5 < y1 then r5 else y1)) (y2 + (-1)) x6 (Nat.lt_of_lt_of_le h.2 (Nat.le_of_lt_succ uI15)) h.1)
          · replace h := h.2 c8
            refine z_aload_n O dX2_cutOff_67 2 rfl ?_
            refine z_dup O dX2_cutOff_68 rfl ?_
            refine z_getf O hK.1 (hX _) (hb).1 (xe_2 hb) rfl i2 6 (by decide) (by decide +kernel) rfl dX2_cutOff_69 ?_
            refine z_iconst (v := 1) O dX2_cutOff_72 rfl ?_
            refine z_isub O dX2_cutOff_73 ?_
            obtain ⟨x7, ex7⟩ : ∃ z, z = xI x6 b 6 ((x6.1 b 6) - 1) := ⟨_, rfl⟩
            replace h := h x7 ex7
            refine z_putf (x' := x7) (ty := .int) O hK.1 (hX _) hB hI hA (hb).1 (xe_2 hb) rfl i2 tyX2 tyX2_ok nmX2 6 (by decide) (by decide +kernel) rfl (by decide +kernel) rfl rfl (Nat.le_of_ble_eq_true rfl) (by rw [ex7]; exact xe_put2_6 hb ((x6.1 b 6) - 1)) dX2_cutOff_74 ?_
            refine z_iinc (lv' := [(4, .int (y2 + (-1))), (3, .int (y1 - (if r5 < y1 then r5 else y1))), (5, .int (if r5 < y1 then r5 else y1)), (0, .ref (ad b)), (2, .int (x.1 b 6))]) O dX2_cutOff_77 4 rfl rfl (by decide) rfl ?_
            refine z_goto O 15 dX2_cutOff_80 (by decide) ?_
            exact z_sub [3, 4, 1, 0] rfl (iI15 (y1 - (if r5 < y1 then r5 else y1)) (y2 + (-1)) x7 (Nat.lt_of_lt_of_le h.2 (Nat.le_of_lt_succ uI15)) h.1)
  exact z_sub [3, 2, 1, 0] rfl (kI15 _ p1 ((x.1 b 6) - 1) x (Nat.lt_succ_self _) h0)
def wp_X2_warmDay (x : XS) (b : Nat)  (Q : Int32 → XS → Prop) : Prop :=
 wp_X2_has x b ((x.1 b 6) - 1) (fun r1 : Int32 =>
 ((r1 = 0 →
 Q 0 x) ∧ (¬ r1 = 0 →
 wp_X2_meltsAt x b ((x.1 b 6) - 1) (fun r2 : Int32 =>
 wp_X2_thickAt x b ((x.1 b 6) - 1) (fun r3 : Int32 =>
 wp_X2_cutOff x b (if r3 < r2 then r3 else r2) (fun (r5 : Int32) (x4 : XS) =>
 Q r5 x4))))))
set_option maxHeartbeats 4000000 in
set_option maxRecDepth 100000 in
theorem t_X2_warmDay {l : Launch} {D : va_G} {cs : Nat → ClassId} {ad : Nat → Nat} (hI : wInj 161 ad) (x : XS) (b : Nat) (hb : xk b 2)  (Q : Int32 → XS → Prop) (h : wp_X2_warmDay x b  Q) : zWR l yX2_warmDay wsX2_warmDay ({ frames := 3, cells := 0, slots := 0, locals := 67 } : Room) (gK D cs) (XH D cs ad) (wB 161 ad) x [.ref (ad b)] 0 0 Q := by
  refine zWR_of (cc := cX2_warmDay) (nL := 2) (ret := (some .int)) (by decide +kernel) rfl (Nat.le_of_ble_eq_true rfl) (fun C hl O hE hK => ?_)
  subst hl
  have hX : ∀ (x : XS) (H : Heap), XH D cs ad x H → va_P D vwCl (wl 161 ad (XE cs ad x)) H := fun _ _ h => h
  have hB : ∀ {x : XS} (H : Heap), va_P D vwCl (wl 161 ad (XE cs ad x)) H → XH D cs ad x H := fun _ h => h
  have hA : ∀ q, wB 161 ad q → zA (wB 161 ad) C.s.heap.size q := fun _ h => Or.inl h
  have i2 : ∀ w ∈ wsX20, w ∈ wsX2_warmDay := by decide +kernel
  refine z_sub (lv' := [(0, .ref (ad b))]) [0] rfl ?_
  refine z_aload_n O dX2_warmDay_0 0 rfl ?_
  refine z_getf O hK.1 (hX _) (hb).1 (xe_2 hb) rfl i2 6 (by decide) (by decide +kernel) rfl dX2_warmDay_1 ?_
  refine z_iconst (v := 1) O dX2_warmDay_4 rfl ?_
  refine z_isub O dX2_warmDay_5 ?_
  refine z_istore_n (lv' := [(1, .int ((x.1 b 6) - 1)), (0, .ref (ad b))]) O dX2_warmDay_6 (by decide) rfl ?_
  refine z_aload_n O dX2_warmDay_7 1 rfl ?_
  refine z_iload_n O dX2_warmDay_8 0 rfl ?_
  refine z_callR (gKs D cs) hK (fun _ h => h) (t_X2_has x b hb ((x.1 b 6) - 1) _ h) (zr_V (As := [.int ((x.1 b 6) - 1)]) (rest := []) O hE.1 1 gX2_warmDay_X2_has rfl rfl rfl (by decide +kernel) ⟨(Nat.le_of_ble_eq_true rfl), (Nat.le_of_ble_eq_true rfl)⟩ ⟨(Nat.le_of_ble_eq_true rfl), (Nat.le_of_ble_eq_true rfl)⟩ (fun H hH => z_recv hK.1 (hX _ H hH) (hb).1 (xe_2 hb) rfl) rfl rfl (Nat.le_of_ble_eq_true rfl) dX2_warmDay_9) (fun r1 h => ?_)
  refine z_if_eq O 35 dX2_warmDay_12 (by decide) (fun c6 => ?_) (fun c6 => ?_)
  · replace h := h.1 c6
    refine z_iconst (v := 0) O dX2_warmDay_35 rfl ?_
    exact z_retWR O hE (Nat.le_of_ble_eq_true rfl) (Nat.le_of_ble_eq_true rfl) rfl dX2_warmDay_36 h
  · replace h := h.2 c6
    refine z_aload_n O dX2_warmDay_15 1 rfl ?_
    refine z_aload_n O dX2_warmDay_16 1 rfl ?_
    refine z_iload_n O dX2_warmDay_17 0 rfl ?_
    refine z_callR (gKs D cs) hK (fun _ h => h) (t_X2_meltsAt x b hb ((x.1 b 6) - 1) _ h) (zr_V (As := [.int ((x.1 b 6) - 1)]) (rest := [.ref (ad b)]) O hE.1 1 gX2_warmDay_X2_meltsAt rfl rfl rfl (by decide +kernel) ⟨(Nat.le_of_ble_eq_true rfl), (Nat.le_of_ble_eq_true rfl)⟩ ⟨(Nat.le_of_ble_eq_true rfl), (Nat.le_of_ble_eq_true rfl)⟩ (fun H hH => z_recv hK.1 (hX _ H hH) (hb).1 (xe_2 hb) rfl) rfl rfl (Nat.le_of_ble_eq_true rfl) dX2_warmDay_18) (fun r2 h => ?_)
    refine z_aload_n O dX2_warmDay_21 1 rfl ?_
    refine z_iload_n O dX2_warmDay_22 0 rfl ?_
    refine z_callR (gKs D cs) hK (fun _ h => h) (t_X2_thickAt x b hb ((x.1 b 6) - 1) _ h) (zr_V (As := [.int ((x.1 b 6) - 1)]) (rest := [.int r2, .ref (ad b)]) O hE.1 1 gX2_warmDay_X2_thickAt rfl rfl rfl (by decide +kernel) ⟨(Nat.le_of_ble_eq_true rfl), (Nat.le_of_ble_eq_true rfl)⟩ ⟨(Nat.le_of_ble_eq_true rfl), (Nat.le_of_ble_eq_true rfl)⟩ (fun H hH => z_recv hK.1 (hX _ H hH) (hb).1 (xe_2 hb) rfl) rfl rfl (Nat.le_of_ble_eq_true rfl) dX2_warmDay_23) (fun r3 h => ?_)
    refine z_min O hE.1 (by decide +kernel) (by decide +kernel) (by decide +kernel) (by decide +kernel) ⟨(Nat.le_of_ble_eq_true rfl), (Nat.le_of_ble_eq_true rfl), Nat.zero_le _, Nat.zero_le _⟩ dX2_warmDay_26 ?_
    refine z_cWR (gKs D cs) hK (fun _ h => h) (fun _ h => Or.inl h) (fun _ h => Or.inr h) (t_X2_cutOff hI x b hb (if r3 < r2 then r3 else r2) _ h) (zr_V (As := [.int (if r3 < r2 then r3 else r2)]) (rest := []) O hE.1 1 gX2_warmDay_X2_cutOff rfl rfl rfl (by decide +kernel) ⟨(Nat.le_of_ble_eq_true rfl), (Nat.le_of_ble_eq_true rfl)⟩ ⟨(Nat.le_of_ble_eq_true rfl), (Nat.le_of_ble_eq_true rfl)⟩ (fun H hH => z_recv hK.1 (hX _ H hH) (hb).1 (xe_2 hb) rfl) rfl rfl (Nat.le_of_ble_eq_true rfl) dX2_warmDay_29) (fun r5 x4 h => ?_)
    refine z_goto O 36 dX2_warmDay_32 (by decide) ?_
    exact z_retWR O hE (Nat.le_of_ble_eq_true rfl) (Nat.le_of_ble_eq_true rfl) rfl dX2_warmDay_36 h
def wp_X2_takeLayers (x : XS) (b : Nat) (q1 : Nat)  (Q : XS → Prop) : Prop :=
 (∀ x1 : XS, x1 = xI x b 6 (x.1 q1 6) →
 (∃ (I10 : Int32 → XS → Prop) (U10 : Int32 → XS → Nat), I10 0 x1 ∧ ∀ (y2 : Int32) (x3 : XS), I10 y2 x3 →
 (((x3.1 b 6) ≤ y2 →
 Q x3) ∧ (¬ (x3.1 b 6) ≤ y2 →
 ((8 ≤ y2 →
 Q x3) ∧ (¬ 8 ≤ y2 →
 (vp_in y2 8 ∧
 (vp_in y2 8 ∧
 ∀ x4 : XS, x4 = xA x3 (b + 1) (upd (x3.2.1 (b + 1)) (Int32.toNatClampNeg y2) (x3.2.1 (q1 + 1) (Int32.toNatClampNeg y2))) →
 (vp_in y2 8 ∧
 (vp_in y2 8 ∧
 ∀ x5 : XS, x5 = xA x4 (b + 2) (upd (x4.2.1 (b + 2)) (Int32.toNatClampNeg y2) (x4.2.1 (q1 + 2) (Int32.toNatClampNeg y2))) →
 (vp_in y2 8 ∧
 (vp_in y2 8 ∧
 ∀ x6 : XS, x6 = xA x5 (b + 3) (upd (x5.2.1 (b + 3)) (Int32.toNatClampNeg y2) (x5.2.1 (q1 + 3) (Int32.toNatClampNeg y2))) →
 (vp_in y2 8 ∧
 (vp_in y2 8 ∧
 ∀ x7 : XS, x7 = xA x6 (b + 4) (upd (x6.2.1 (b + 4)) (Int32.toNatClampNeg y2) (x6.2.1 (q1 + 4) (Int32.toNatClampNeg y2))) →
 (vp_in y2 8 ∧
 (vp_in y2 8 ∧
 ∀ x8 : XS, x8 = xA x7 (b + 5) (upd (x7.2.1 (b + 5)) (Int32.toNatClampNeg y2) (x7.2.1 (q1 + 5) (Int32.toNatClampNeg y2))) →
 (vp_in y2 8 ∧
 (vp_in y2 8 ∧
 ∀ x9 : XS, x9 = xA x8 (b + 6) (upd (x8.2.1 (b + 6)) (Int32.toNatClampNeg y2) (x8.2.1 (q1 + 6) (Int32.toNatClampNeg y2))) →
 (I10 (y2 + 1) x9 ∧ U10 (y2 + 1) x9 < U10 y2 x3)))))))))))))))))))
set_option maxHeartbeats 4000000 in
set_option maxRecDepth 100000 in
theorem t_X2_takeLayers {l : Launch} {D : va_G} {cs : Nat → ClassId} {ad : Nat → Nat} (hI : wInj 161 ad) (x : XS) (b : Nat) (hb : xk b 2) (q1 : Nat) (hq1 : xk q1 2)  (Q : XS → Prop) (h : wp_X2_takeLayers x b q1  Q) : zWV l yX2_takeLayers wsX2_takeLayers ({ frames := 0, cells := 0, slots := 0, locals := 0 } : Room) (gK D cs) (XH D cs ad) (wB 161 ad) x [.ref (ad b), .ref (ad q1)] 0 0 Q := by
  refine zWV_of (cc := cX2_takeLayers) (nL := 3) (ret := none) (by decide +kernel) rfl (Nat.le_of_ble_eq_true rfl) (fun C hl O hE hK => ?_)
  subst hl
  have hX : ∀ (x : XS) (H : Heap), XH D cs ad x H → va_P D vwCl (wl 161 ad (XE cs ad x)) H := fun _ _ h => h
  have hB : ∀ {x : XS} (H : Heap), va_P D vwCl (wl 161 ad (XE cs ad x)) H → XH D cs ad x H := fun _ h => h
  have hA : ∀ q, wB 161 ad q → zA (wB 161 ad) C.s.heap.size q := fun _ h => Or.inl h
  have i2 : ∀ w ∈ wsX20, w ∈ wsX2_takeLayers := by decide +kernel
  refine z_sub (lv' := [(0, .ref (ad b)), (1, .ref (ad q1))]) [0, 1] rfl ?_
  refine z_aload_n O dX2_takeLayers_0 0 rfl ?_
  refine z_aload_n O dX2_takeLayers_1 1 rfl ?_
  refine z_getf O hK.1 (hX _) (hq1).1 (xe_2 hq1) rfl i2 6 (by decide) (by decide +kernel) rfl dX2_takeLayers_2 ?_
  obtain ⟨x1, ex1⟩ : ∃ z, z = xI x b 6 (x.1 q1 6) := ⟨_, rfl⟩
  replace h := h x1 ex1
  refine z_putf (x' := x1) (ty := .int) O hK.1 (hX _) hB hI hA (hb).1 (xe_2 hb) rfl i2 tyX2 tyX2_ok nmX2 6 (by decide) (by decide +kernel) rfl (by decide +kernel) rfl rfl (Nat.le_of_ble_eq_true rfl) (by rw [ex1]; exact xe_put2_6 hb (x.1 q1 6)) dX2_takeLayers_5 ?_
  refine z_iconst (v := 0) O dX2_takeLayers_8 rfl ?_
  refine z_istore_n (lv' := [(2, .int 0), (0, .ref (ad b)), (1, .ref (ad q1))]) O dX2_takeLayers_9 (by decide) rfl ?_
  obtain ⟨I10, U10, h0, hs⟩ := h
  have kI10 : ∀ (n : Nat) (y2 : Int32) (x3 : XS), U10 y2 x3 < n → I10 y2 x3 → Z C (zA (wB 161 ad) C.s.heap.size) (XH D cs ad) 3 x3 [(0, .ref (ad b)), (1, .ref (ad q1)), (2, .int y2)] 0 0 10 [] := by
    intro n
    induction n with
    | zero => intro y2 x3 uI10; exact absurd uI10 (Nat.not_lt_zero _)
    | succ n iI10 =>
      intro y2 x3 uI10 h
      have h := hs y2 x3 h
      refine z_iload_n O dX2_takeLayers_10 2 rfl ?_
      refine z_aload_n O dX2_takeLayers_11 0 rfl ?_
      refine z_getf O hK.1 (hX _) (hb).1 (xe_2 hb) rfl i2 6 (by decide) (by decide +kernel) rfl dX2_takeLayers_12 ?_
      refine z_icmp_ge O 102 dX2_takeLayers_15 (by decide) (fun c11 => ?_) (fun c11 => ?_)
      · replace h := h.1 c11
        exact z_retWV O hE (Nat.le_of_ble_eq_true rfl) (Nat.le_of_ble_eq_true rfl) dX2_takeLayers_102 h
      · replace h := h.2 c11
        refine z_iload_n O dX2_takeLayers_18 2 rfl ?_
        refine z_bipush (v := 8) O dX2_takeLayers_19 rfl ?_
        refine z_icmp_ge O 102 dX2_takeLayers_21 (by decide) (fun c10 => ?_) (fun c10 => ?_)
        · replace h := h.1 c10
          exact z_retWV O hE (Nat.le_of_ble_eq_true rfl) (Nat.le_of_ble_eq_true rfl) dX2_takeLayers_102 h
        · replace h := h.2 c10
          refine z_aload_n O dX2_takeLayers_24 0 rfl ?_
          refine z_getf O hK.1 (hX _) (hb).1 (xe_2 hb) rfl i2 0 (by decide) (by decide +kernel) rfl dX2_takeLayers_25 ?_
          refine z_iload_n O dX2_takeLayers_28 2 rfl ?_
          refine z_aload_n O dX2_takeLayers_29 1 rfl ?_
          refine z_getf O hK.1 (hX _) (hq1).1 (xe_2 hq1) rfl i2 0 (by decide) (by decide +kernel) rfl dX2_takeLayers_30 ?_
          refine z_iload_n O dX2_takeLayers_33 2 rfl ?_
          refine z_iald O hK.1 (hX _) 0 ((xk_c (j := 1) hq1 (by decide) (by decide))).1 (xe_20 (xk_c (j := 1) hq1 (by decide) (by decide))) rfl (xin (xk_cl (j := 1) hq1 (by decide) (by decide)) h.1) dX2_takeLayers_34 ?_
          replace h := h.2
          have hb0 := h.1
          replace h := h.2
          obtain ⟨x4, ex4⟩ : ∃ z, z = xA x3 (b + 1) (upd (x3.2.1 (b + 1)) (Int32.toNatClampNeg y2) (x3.2.1 (q1 + 1) (Int32.toNatClampNeg y2))) := ⟨_, rfl⟩
          replace h := h x4 ex4
          refine z_iast (x' := x4) O hK.1 (hX _) hB hI hA 0 ((xk_c (j := 1) hb (by decide) (by decide))).1 (xe_20 (xk_c (j := 1) hb (by decide) (by decide))) rfl (xin (xk_cl (j := 1) hb (by decide) (by decide)) hb0) (by rw [ex4]; exact xe_setA (xk_c (j := 1) hb (by decide) (by decide)) _) dX2_takeLayers_35 ?_
          refine z_aload_n O dX2_takeLayers_36 0 rfl ?_
          refine z_getf O hK.1 (hX _) (hb).1 (xe_2 hb) rfl i2 1 (by decide) (by decide +kernel) rfl dX2_takeLayers_37 ?_
          refine z_iload_n O dX2_takeLayers_40 2 rfl ?_
          refine z_aload_n O dX2_takeLayers_41 1 rfl ?_
          refine z_getf O hK.1 (hX _) (hq1).1 (xe_2 hq1) rfl i2 1 (by decide) (by decide +kernel) rfl dX2_takeLayers_42 ?_
          refine z_iload_n O dX2_takeLayers_45 2 rfl ?_
          refine z_iald O hK.1 (hX _) 0 ((xk_c (j := 2) hq1 (by decide) (by decide))).1 (xe_20 (xk_c (j := 2) hq1 (by decide) (by decide))) rfl (xin (xk_cl (j := 2) hq1 (by decide) (by decide)) h.1) dX2_takeLayers_46 ?_
          replace h := h.2
          have hb0 := h.1
          replace h := h.2
          obtain ⟨x5, ex5⟩ : ∃ z, z = xA x4 (b + 2) (upd (x4.2.1 (b + 2)) (Int32.toNatClampNeg y2) (x4.2.1 (q1 + 2) (Int32.toNatClampNeg y2))) := ⟨_, rfl⟩
          replace h := h x5 ex5
          refine z_iast (x' := x5) O hK.1 (hX _) hB hI hA 0 ((xk_c (j := 2) hb (by decide) (by decide))).1 (xe_20 (xk_c (j := 2) hb (by decide) (by decide))) rfl (xin (xk_cl (j := 2) hb (by decide) (by decide)) hb0) (by rw [ex5]; exact xe_setA (xk_c (j := 2) hb (by decide) (by decide)) _) dX2_takeLayers_47 ?_
          refine z_aload_n O dX2_takeLayers_48 0 rfl ?_
          refine z_getf O hK.1 (hX _) (hb).1 (xe_2 hb) rfl i2 2 (by decide) (by decide +kernel) rfl dX2_takeLayers_49 ?_
          refine z_iload_n O dX2_takeLayers_52 2 rfl ?_
          refine z_aload_n O dX2_takeLayers_53 1 rfl ?_
          refine z_getf O hK.1 (hX _) (hq1).1 (xe_2 hq1) rfl i2 2 (by decide) (by decide +kernel) rfl dX2_takeLayers_54 ?_
          refine z_iload_n O dX2_takeLayers_57 2 rfl ?_
          refine z_iald O hK.1 (hX _) 0 ((xk_c (j := 3) hq1 (by decide) (by decide))).1 (xe_20 (xk_c (j := 3) hq1 (by decide) (by decide))) rfl (xin (xk_cl (j := 3) hq1 (by decide) (by decide)) h.1) dX2_takeLayers_58 ?_
          replace h := h.2
          have hb0 := h.1
          replace h := h.2
          obtain ⟨x6, ex6⟩ : ∃ z, z = xA x5 (b + 3) (upd (x5.2.1 (b + 3)) (Int32.toNatClampNeg y2) (x5.2.1 (q1 + 3) (Int32.toNatClampNeg y2))) := ⟨_, rfl⟩
          replace h := h x6 ex6
          refine z_iast (x' := x6) O hK.1 (hX _) hB hI hA 0 ((xk_c (j := 3) hb (by decide) (by decide))).1 (xe_20 (xk_c (j := 3) hb (by decide) (by decide))) rfl (xin (xk_cl (j := 3) hb (by decide) (by decide)) hb0) (by rw [ex6]; exact xe_setA (xk_c (j := 3) hb (by decide) (by decide)) _) dX2_takeLayers_59 ?_
          refine z_aload_n O dX2_takeLayers_60 0 rfl ?_
          refine z_getf O hK.1 (hX _) (hb).1 (xe_2 hb) rfl i2 3 (by decide) (by decide +kernel) rfl dX2_takeLayers_61 ?_
          refine z_iload_n O dX2_takeLayers_64 2 rfl ?_
          refine z_aload_n O dX2_takeLayers_65 1 rfl ?_
          refine z_getf O hK.1 (hX _) (hq1).1 (xe_2 hq1) rfl i2 3 (by decide) (by decide +kernel) rfl dX2_takeLayers_66 ?_
          refine z_iload_n O dX2_takeLayers_69 2 rfl ?_
          refine z_iald O hK.1 (hX _) 0 ((xk_c (j := 4) hq1 (by decide) (by decide))).1 (xe_20 (xk_c (j := 4) hq1 (by decide) (by decide))) rfl (xin (xk_cl (j := 4) hq1 (by decide) (by decide)) h.1) dX2_takeLayers_70 ?_
          replace h := h.2
          have hb0 := h.1
          replace h := h.2
          obtain ⟨x7, ex7⟩ : ∃ z, z = xA x6 (b + 4) (upd (x6.2.1 (b + 4)) (Int32.toNatClampNeg y2) (x6.2.1 (q1 + 4) (Int32.toNatClampNeg y2))) := ⟨_, rfl⟩
          replace h := h x7 ex7
          refine z_iast (x' := x7) O hK.1 (hX _) hB hI hA 0 ((xk_c (j := 4) hb (by decide) (by decide))).1 (xe_20 (xk_c (j := 4) hb (by decide) (by decide))) rfl (xin (xk_cl (j := 4) hb (by decide) (by decide)) hb0) (by rw [ex7]; exact xe_setA (xk_c (j := 4) hb (by decide) (by decide)) _) dX2_takeLayers_71 ?_
          refine z_aload_n O dX2_takeLayers_72 0 rfl ?_
          refine z_getf O hK.1 (hX _) (hb).1 (xe_2 hb) rfl i2 4 (by decide) (by decide +kernel) rfl dX2_takeLayers_73 ?_
          refine z_iload_n O dX2_takeLayers_76 2 rfl ?_
          refine z_aload_n O dX2_takeLayers_77 1 rfl ?_
          refine z_getf O hK.1 (hX _) (hq1).1 (xe_2 hq1) rfl i2 4 (by decide) (by decide +kernel) rfl dX2_takeLayers_78 ?_
          refine z_iload_n O dX2_takeLayers_81 2 rfl ?_
          refine z_iald O hK.1 (hX _) 0 ((xk_c (j := 5) hq1 (by decide) (by decide))).1 (xe_20 (xk_c (j := 5) hq1 (by decide) (by decide))) rfl (xin (xk_cl (j := 5) hq1 (by decide) (by decide)) h.1) dX2_takeLayers_82 ?_
          replace h := h.2
          have hb0 := h.1
          replace h := h.2
          obtain ⟨x8, ex8⟩ : ∃ z, z = xA x7 (b + 5) (upd (x7.2.1 (b + 5)) (Int32.toNatClampNeg y2) (x7.2.1 (q1 + 5) (Int32.toNatClampNeg y2))) := ⟨_, rfl⟩
          replace h := h x8 ex8
          refine z_iast (x' := x8) O hK.1 (hX _) hB hI hA 0 ((xk_c (j := 5) hb (by decide) (by decide))).1 (xe_20 (xk_c (j := 5) hb (by decide) (by decide))) rfl (xin (xk_cl (j := 5) hb (by decide) (by decide)) hb0) (by rw [ex8]; exact xe_setA (xk_c (j := 5) hb (by decide) (by decide)) _) dX2_takeLayers_83 ?_
          refine z_aload_n O dX2_takeLayers_84 0 rfl ?_
          refine z_getf O hK.1 (hX _) (hb).1 (xe_2 hb) rfl i2 5 (by decide) (by decide +kernel) rfl dX2_takeLayers_85 ?_
          refine z_iload_n O dX2_takeLayers_88 2 rfl ?_
          refine z_aload_n O dX2_takeLayers_89 1 rfl ?_
          refine z_getf O hK.1 (hX _) (hq1).1 (xe_2 hq1) rfl i2 5 (by decide) (by decide +kernel) rfl dX2_takeLayers_90 ?_
          refine z_iload_n O dX2_takeLayers_93 2 rfl ?_
          refine z_iald O hK.1 (hX _) 0 ((xk_c (j := 6) hq1 (by decide) (by decide))).1 (xe_20 (xk_c (j := 6) hq1 (by decide) (by decide))) rfl (xin (xk_cl (j := 6) hq1 (by decide) (by decide)) h.1) dX2_takeLayers_94 ?_
          replace h := h.2
          have hb0 := h.1
          replace h := h.2
          obtain ⟨x9, ex9⟩ : ∃ z, z = xA x8 (b + 6) (upd (x8.2.1 (b + 6)) (Int32.toNatClampNeg y2) (x8.2.1 (q1 + 6) (Int32.toNatClampNeg y2))) := ⟨_, rfl⟩
          replace h := h x9 ex9
          refine z_iast (x' := x9) O hK.1 (hX _) hB hI hA 0 ((xk_c (j := 6) hb (by decide) (by decide))).1 (xe_20 (xk_c (j := 6) hb (by decide) (by decide))) rfl (xin (xk_cl (j := 6) hb (by decide) (by decide)) hb0) (by rw [ex9]; exact xe_setA (xk_c (j := 6) hb (by decide) (by decide)) _) dX2_takeLayers_95 ?_
          refine z_iinc (lv' := [(2, .int (y2 + 1)), (0, .ref (ad b)), (1, .ref (ad q1))]) O dX2_takeLayers_96 2 rfl rfl (by decide) rfl ?_
          refine z_goto O 10 dX2_takeLayers_99 (by decide) ?_
          exact z_sub [1, 2, 0] rfl (iI10 (y2 + 1) x9 (Nat.lt_of_lt_of_le h.2 (Nat.le_of_lt_succ uI10)) h.1)
  exact z_sub [1, 2, 0] rfl (kI10 _ 0 x1 (Nat.lt_succ_self _) h0)
def wp_X2_topmostRead (x : XS) (b : Nat)  (Q : Int32 → Prop) : Prop :=
 (∃ (I7 : Int32 → Prop) (U7 : Int32 → Nat), I7 ((x.1 b 6) - 1) ∧ ∀ (y1 : Int32), I7 y1 →
 ((y1 < 0 →
 Q (-4)) ∧ (¬ y1 < 0 →
 wp_X2_canRead x b y1 (fun r2 : Int32 =>
 ((r2 = 0 →
 (I7 (y1 + (-1)) ∧ U7 (y1 + (-1)) < U7 y1)) ∧ (¬ r2 = 0 →
 wp_X2_oathAt x b y1 (fun r3 : Int32 =>
 Q r3)))))))
set_option maxHeartbeats 4000000 in
set_option maxRecDepth 100000 in
theorem t_X2_topmostRead {l : Launch} {D : va_G} {cs : Nat → ClassId} {ad : Nat → Nat} (x : XS) (b : Nat) (hb : xk b 2)  (Q : Int32 → Prop) (h : wp_X2_topmostRead x b  Q) : zMR l yX2_topmostRead wsX2_topmostRead ({ frames := 4, cells := 0, slots := 0, locals := 86 } : Room) (gK D cs) (XH D cs ad) x [.ref (ad b)] Q := by
  refine zMR_of (cc := cX2_topmostRead) (nL := 2) (ret := (some .int)) (by decide +kernel) rfl (Nat.le_of_ble_eq_true rfl) (fun C hl O hE hK hH => ?_)
  subst hl
  have hX : ∀ (x : XS) (H : Heap), z0 (XH D cs ad) C.s.heap x H → va_P D vwCl (wl 161 ad (XE cs ad x)) H := fun _ _ h => h.2
  have i2 : ∀ w ∈ wsX20, w ∈ wsX2_topmostRead := by decide +kernel
  refine z_sub (lv' := [(0, .ref (ad b))]) [0] rfl ?_
  refine z_aload_n O dX2_topmostRead_0 0 rfl ?_
  refine z_getf O hK.1 (hX _) (hb).1 (xe_2 hb) rfl i2 6 (by decide) (by decide +kernel) rfl dX2_topmostRead_1 ?_
  refine z_iconst (v := 1) O dX2_topmostRead_4 rfl ?_
  refine z_isub O dX2_topmostRead_5 ?_
  refine z_istore_n (lv' := [(1, .int ((x.1 b 6) - 1)), (0, .ref (ad b))]) O dX2_topmostRead_6 (by decide) rfl ?_
  obtain ⟨I7, U7, h0, hs⟩ := h
  have kI7 : ∀ (n : Nat) (y1 : Int32), U7 y1 < n → I7 y1 → Z C (fun _ => False) (z0 (XH D cs ad) C.s.heap) 2 x [(0, .ref (ad b)), (1, .int y1)] 0 0 7 [] := by
    intro n
    induction n with
    | zero => intro y1 uI7; exact absurd uI7 (Nat.not_lt_zero _)
    | succ n iI7 =>
      intro y1 uI7 h
      have h := hs y1 h
      refine z_iload_n O dX2_topmostRead_7 1 rfl ?_
      refine z_if_lt O 31 dX2_topmostRead_8 (by decide) (fun c5 => ?_) (fun c5 => ?_)
      · replace h := h.1 c5
        refine z_bipush (v := -4) O dX2_topmostRead_31 rfl ?_
        exact z_retR O hE (fun _ h => h.1) rfl dX2_topmostRead_33 h
      · replace h := h.2 c5
        refine z_aload_n O dX2_topmostRead_11 0 rfl ?_
        refine z_iload_n O dX2_topmostRead_12 1 rfl ?_
        refine z_callR (gKs D cs) hK (fun _ h => h.2) (t_X2_canRead x b hb y1 _ h) (zr_V (As := [.int y1]) (rest := []) O hE.1 1 gX2_topmostRead_X2_canRead rfl rfl rfl (by decide +kernel) ⟨(Nat.le_of_ble_eq_true rfl), (Nat.le_of_ble_eq_true rfl)⟩ ⟨(Nat.le_of_ble_eq_true rfl), (Nat.le_of_ble_eq_true rfl)⟩ (fun H hH => z_recv hK.1 (hX _ H hH) (hb).1 (xe_2 hb) rfl) rfl rfl (Nat.le_of_ble_eq_true rfl) dX2_topmostRead_13) (fun r2 h => ?_)
        refine z_if_eq O 25 dX2_topmostRead_16 (by decide) (fun c4 => ?_) (fun c4 => ?_)
        · replace h := h.1 c4
          refine z_iinc (lv' := [(1, .int (y1 + (-1))), (0, .ref (ad b))]) O dX2_topmostRead_25 1 rfl rfl (by decide) rfl ?_
          refine z_goto O 7 dX2_topmostRead_28 (by decide) ?_
          exact z_sub [1, 0] rfl (iI7 (y1 + (-1)) (Nat.lt_of_lt_of_le h.2 (Nat.le_of_lt_succ uI7)) h.1)
        · replace h := h.2 c4
          refine z_aload_n O dX2_topmostRead_19 0 rfl ?_
          refine z_iload_n O dX2_topmostRead_20 1 rfl ?_
          refine z_callR (gKs D cs) hK (fun _ h => h.2) (t_X2_oathAt x b hb y1 _ h) (zr_V (As := [.int y1]) (rest := []) O hE.1 1 gX2_topmostRead_X2_oathAt rfl rfl rfl (by decide +kernel) ⟨(Nat.le_of_ble_eq_true rfl), (Nat.le_of_ble_eq_true rfl)⟩ ⟨(Nat.le_of_ble_eq_true rfl), (Nat.le_of_ble_eq_true rfl)⟩ (fun H hH => z_recv hK.1 (hX _ H hH) (hb).1 (xe_2 hb) rfl) rfl rfl (Nat.le_of_ble_eq_true rfl) dX2_topmostRead_21) (fun r3 h => ?_)
          exact z_retR O hE (fun _ h => h.1) rfl dX2_topmostRead_24 h
  exact z_sub [1, 0] rfl (kI7 _ ((x.1 b 6) - 1) (Nat.lt_succ_self _) h0)
def wp_X2_oathsSeen (x : XS) (b : Nat) (p1 : Int32) (Q : Int32 → Prop) : Prop :=
 (∃ (I13 : Int32 → Int32 → Int32 → Prop) (U13 : Int32 → Int32 → Int32 → Nat), I13 0 (-p1) ((x.1 b 6) - 1) ∧ ∀ (y1 : Int32) (y2 : Int32) (y3 : Int32), I13 y1 y2 y3 →
 ((y3 < 0 →
 Q y1) ∧ (¬ y3 < 0 →
 wp_X2_thickAt x b y3 (fun r4 : Int32 =>
 (((y2 + r4) ≤ 0 →
 wp_X2_thickAt x b y3 (fun r5 : Int32 =>
 (I13 y1 (y2 + r5) (y3 + (-1)) ∧ U13 y1 (y2 + r5) (y3 + (-1)) < U13 y1 y2 y3))) ∧ (¬ (y2 + r4) ≤ 0 →
 wp_X2_lightAt x b y3 (fun r6 : Int32 =>
 ((r6 < ((if (0 : Int32) < y2 then y2 else (0 : Int32))) →
 wp_X2_thickAt x b y3 (fun r7 : Int32 =>
 (I13 y1 (y2 + r7) (y3 + (-1)) ∧ U13 y1 (y2 + r7) (y3 + (-1)) < U13 y1 y2 y3))) ∧ (¬ r6 < ((if (0 : Int32) < y2 then y2 else (0 : Int32))) →
 wp_X2_oathAt x b y3 (fun r8 : Int32 =>
 wp_X2_thickAt x b y3 (fun r9 : Int32 =>
 (I13 (y1 ||| (1 <<< (r8 &&& 31))) (y2 + r9) (y3 + (-1)) ∧ U13 (y1 ||| (1 <<< (r8 &&& 31))) (y2 + r9) (y3 + (-1)) < U13 y1 y2 y3))))))))))))
set_option maxHeartbeats 4000000 in
set_option maxRecDepth 100000 in
theorem t_X2_oathsSeen {l : Launch} {D : va_G} {cs : Nat → ClassId} {ad : Nat → Nat} (x : XS) (b : Nat) (hb : xk b 2) (p1 : Int32) (Q : Int32 → Prop) (h : wp_X2_oathsSeen x b p1 Q) : zMR l yX2_oathsSeen wsX2_oathsSeen ({ frames := 2, cells := 0, slots := 0, locals := 42 } : Room) (gK D cs) (XH D cs ad) x [.ref (ad b), .int p1] Q := by
  refine zMR_of (cc := cX2_oathsSeen) (nL := 6) (ret := (some .int)) (by decide +kernel) rfl (Nat.le_of_ble_eq_true rfl) (fun C hl O hE hK hH => ?_)
  subst hl
  have hX : ∀ (x : XS) (H : Heap), z0 (XH D cs ad) C.s.heap x H → va_P D vwCl (wl 161 ad (XE cs ad x)) H := fun _ _ h => h.2
  have i2 : ∀ w ∈ wsX20, w ∈ wsX2_oathsSeen := by decide +kernel
  refine z_sub (lv' := [(0, .ref (ad b)), (1, .int p1)]) [0, 1] rfl ?_
  refine z_iconst (v := 0) O dX2_oathsSeen_0 rfl ?_
  refine z_istore_n (lv' := [(2, .int 0), (0, .ref (ad b)), (1, .int p1)]) O dX2_oathsSeen_1 (by decide) rfl ?_
  refine z_iload_n O dX2_oathsSeen_2 2 rfl ?_
  refine z_ineg O dX2_oathsSeen_3 ?_
  refine z_istore_n (lv' := [(3, .int (-p1)), (2, .int 0), (0, .ref (ad b)), (1, .int p1)]) O dX2_oathsSeen_4 (by decide) rfl ?_
  refine z_aload_n O dX2_oathsSeen_5 2 rfl ?_
  refine z_getf O hK.1 (hX _) (hb).1 (xe_2 hb) rfl i2 6 (by decide) (by decide +kernel) rfl dX2_oathsSeen_6 ?_
  refine z_iconst (v := 1) O dX2_oathsSeen_9 rfl ?_
  refine z_isub O dX2_oathsSeen_10 ?_
  refine z_istore (lv' := [(4, .int ((x.1 b 6) - 1)), (3, .int (-p1)), (2, .int 0), (0, .ref (ad b)), (1, .int p1)]) O dX2_oathsSeen_11 (by decide) rfl ?_
  obtain ⟨I13, U13, h0, hs⟩ := h
  have kI13 : ∀ (n : Nat) (y1 : Int32) (y2 : Int32) (y3 : Int32), U13 y1 y2 y3 < n → I13 y1 y2 y3 → Z C (fun _ => False) (z0 (XH D cs ad) C.s.heap) 6 x [(0, .ref (ad b)), (2, .int y1), (3, .int y2), (4, .int y3)] 0 0 13 [] := by
    intro n
    induction n with
    | zero => intro y1 y2 y3 uI13; exact absurd uI13 (Nat.not_lt_zero _)
    | succ n iI13 =>
      intro y1 y2 y3 uI13 h
      have h := hs y1 y2 y3 h
      refine z_iload O dX2_oathsSeen_13 3 rfl ?_
      refine z_if_lt O 81 dX2_oathsSeen_15 (by decide) (fun c12 => ?_) (fun c12 => ?_)
      · replace h := h.1 c12
        refine z_iload_n O dX2_oathsSeen_81 1 rfl ?_
        exact z_retR O hE (fun _ h => h.1) rfl dX2_oathsSeen_82 h
      · replace h := h.2 c12
        refine z_iload_n O dX2_oathsSeen_18 2 rfl ?_
        refine z_aload_n O dX2_oathsSeen_19 0 rfl ?_
        refine z_iload O dX2_oathsSeen_20 3 rfl ?_
        refine z_callR (gKs D cs) hK (fun _ h => h.2) (t_X2_thickAt x b hb y3 _ h) (zr_V (As := [.int y3]) (rest := [.int y2]) O hE.1 1 gX2_oathsSeen_X2_thickAt rfl rfl rfl (by decide +kernel) ⟨(Nat.le_of_ble_eq_true rfl), (Nat.le_of_ble_eq_true rfl)⟩ ⟨(Nat.le_of_ble_eq_true rfl), (Nat.le_of_ble_eq_true rfl)⟩ (fun H hH => z_recv hK.1 (hX _ H hH) (hb).1 (xe_2 hb) rfl) rfl rfl (Nat.le_of_ble_eq_true rfl) dX2_oathsSeen_22) (fun r4 h => ?_)
        refine z_iadd O dX2_oathsSeen_25 ?_
        refine z_if_le O 33 dX2_oathsSeen_26 (by decide) (fun c11 => ?_) (fun c11 => ?_)
        · replace h := h.1 c11
          refine z_iconst (v := 0) O dX2_oathsSeen_33 rfl ?_
          refine z_istore (lv' := [(5, .int 0), (0, .ref (ad b)), (2, .int y1), (3, .int y2), (4, .int y3)]) O dX2_oathsSeen_34 (by decide) rfl ?_
          refine z_iload O dX2_oathsSeen_36 0 rfl ?_
          refine z_if_eq O 66 dX2_oathsSeen_38 (by decide) (fun _ => ?_) (fun c => absurd c (by decide))
          refine z_iload_n O dX2_oathsSeen_66 3 rfl ?_
          refine z_aload_n O dX2_oathsSeen_67 1 rfl ?_
          refine z_iload O dX2_oathsSeen_68 4 rfl ?_
          refine z_callR (gKs D cs) hK (fun _ h => h.2) (t_X2_thickAt x b hb y3 _ h) (zr_V (As := [.int y3]) (rest := [.int y2]) O hE.1 1 gX2_oathsSeen_X2_thickAt rfl rfl rfl (by decide +kernel) ⟨(Nat.le_of_ble_eq_true rfl), (Nat.le_of_ble_eq_true rfl)⟩ ⟨(Nat.le_of_ble_eq_true rfl), (Nat.le_of_ble_eq_true rfl)⟩ (fun H hH => z_recv hK.1 (hX _ H hH) (hb).1 (xe_2 hb) rfl) rfl rfl (Nat.le_of_ble_eq_true rfl) dX2_oathsSeen_70) (fun r5 h => ?_)
          refine z_iadd O dX2_oathsSeen_73 ?_
          refine z_istore_n (lv' := [(3, .int (y2 + r5)), (5, .int 0), (0, .ref (ad b)), (2, .int y1), (4, .int y3)]) O dX2_oathsSeen_74 (by decide) rfl ?_
          refine z_iinc (lv' := [(4, .int (y3 + (-1))), (3, .int (y2 + r5)), (5, .int 0), (0, .ref (ad b)), (2, .int y1)]) O dX2_oathsSeen_75 4 rfl rfl (by decide) rfl ?_
          refine z_goto O 13 dX2_oathsSeen_78 (by decide) ?_
          exact z_sub [3, 4, 1, 0] rfl (iI13 y1 (y2 + r5) (y3 + (-1)) (Nat.lt_of_lt_of_le h.2 (Nat.le_of_lt_succ uI13)) h.1)
        · replace h := h.2 c11
          refine z_iconst (v := 1) O dX2_oathsSeen_29 rfl ?_
          refine z_goto O 34 dX2_oathsSeen_30 (by decide) ?_
          refine z_istore (lv' := [(5, .int 1), (0, .ref (ad b)), (2, .int y1), (3, .int y2), (4, .int y3)]) O dX2_oathsSeen_34 (by decide) rfl ?_
          refine z_iload O dX2_oathsSeen_36 0 rfl ?_
          refine z_if_eq O 66 dX2_oathsSeen_38 (by decide) (fun c => absurd c (by decide)) (fun _ => ?_)
          refine z_iconst (v := 0) O dX2_oathsSeen_41 rfl ?_
          refine z_iload_n O dX2_oathsSeen_42 3 rfl ?_
          refine z_max O hE.1 (by decide +kernel) (by decide +kernel) (by decide +kernel) (by decide +kernel) ⟨(Nat.le_of_ble_eq_true rfl), (Nat.le_of_ble_eq_true rfl), Nat.zero_le _, Nat.zero_le _⟩ dX2_oathsSeen_43 ?_
          refine z_aload_n O dX2_oathsSeen_46 1 rfl ?_
          refine z_iload O dX2_oathsSeen_47 4 rfl ?_
          refine z_callR (gKs D cs) hK (fun _ h => h.2) (t_X2_lightAt x b hb y3 _ h) (zr_V (As := [.int y3]) (rest := [.int ((if (0 : Int32) < y2 then y2 else (0 : Int32)))]) O hE.1 1 gX2_oathsSeen_X2_lightAt rfl rfl rfl (by decide +kernel) ⟨(Nat.le_of_ble_eq_true rfl), (Nat.le_of_ble_eq_true rfl)⟩ ⟨(Nat.le_of_ble_eq_true rfl), (Nat.le_of_ble_eq_true rfl)⟩ (fun H hH => z_recv hK.1 (hX _ H hH) (hb).1 (xe_2 hb) rfl) rfl rfl (Nat.le_of_ble_eq_true rfl) dX2_oathsSeen_49) (fun r6 h => ?_)
          refine z_icmp_gt O 66 dX2_oathsSeen_52 (by decide) (fun c10 => ?_) (fun c10 => ?_)
          · replace h := h.1 c10
            refine z_iload_n O dX2_oathsSeen_66 3 rfl ?_
            refine z_aload_n O dX2_oathsSeen_67 1 rfl ?_
            refine z_iload O dX2_oathsSeen_68 4 rfl ?_
            refine z_callR (gKs D cs) hK (fun _ h => h.2) (t_X2_thickAt x b hb y3 _ h) (zr_V (As := [.int y3]) (rest := [.int y2]) O hE.1 1 gX2_oathsSeen_X2_thickAt rfl rfl rfl (by decide +kernel) ⟨(Nat.le_of_ble_eq_true rfl), (Nat.le_of_ble_eq_true rfl)⟩ ⟨(Nat.le_of_ble_eq_true rfl), (Nat.le_of_ble_eq_true rfl)⟩ (fun H hH => z_recv hK.1 (hX _ H hH) (hb).1 (xe_2 hb) rfl) rfl rfl (Nat.le_of_ble_eq_true rfl) dX2_oathsSeen_70) (fun r7 h => ?_)
            refine z_iadd O dX2_oathsSeen_73 ?_
            refine z_istore_n (lv' := [(3, .int (y2 + r7)), (5, .int 1), (0, .ref (ad b)), (2, .int y1), (4, .int y3)]) O dX2_oathsSeen_74 (by decide) rfl ?_
            refine z_iinc (lv' := [(4, .int (y3 + (-1))), (3, .int (y2 + r7)), (5, .int 1), (0, .ref (ad b)), (2, .int y1)]) O dX2_oathsSeen_75 4 rfl rfl (by decide) rfl ?_
            refine z_goto O 13 dX2_oathsSeen_78 (by decide) ?_
            exact z_sub [3, 4, 1, 0] rfl (iI13 y1 (y2 + r7) (y3 + (-1)) (Nat.lt_of_lt_of_le h.2 (Nat.le_of_lt_succ uI13)) h.1)
          · replace h := h.2 c10
            refine z_iload_n O dX2_oathsSeen_55 2 rfl ?_
            refine z_iconst (v := 1) O dX2_oathsSeen_56 rfl ?_
            refine z_aload_n O dX2_oathsSeen_57 1 rfl ?_
            refine z_iload O dX2_oathsSeen_58 4 rfl ?_
            refine z_callR (gKs D cs) hK (fun _ h => h.2) (t_X2_oathAt x b hb y3 _ h) (zr_V (As := [.int y3]) (rest := [.int 1, .int y1]) O hE.1 1 gX2_oathsSeen_X2_oathAt rfl rfl rfl (by decide +kernel) ⟨(Nat.le_of_ble_eq_true rfl), (Nat.le_of_ble_eq_true rfl)⟩ ⟨(Nat.le_of_ble_eq_true rfl), (Nat.le_of_ble_eq_true rfl)⟩ (fun H hH => z_recv hK.1 (hX _ H hH) (hb).1 (xe_2 hb) rfl) rfl rfl (Nat.le_of_ble_eq_true rfl) dX2_oathsSeen_60) (fun r8 h => ?_)
            refine z_ishl O dX2_oathsSeen_63 ?_
            refine z_ior O dX2_oathsSeen_64 ?_
            refine z_istore_n (lv' := [(2, .int (y1 ||| (1 <<< (r8 &&& 31)))), (5, .int 1), (0, .ref (ad b)), (3, .int y2), (4, .int y3)]) O dX2_oathsSeen_65 (by decide) rfl ?_
            refine z_iload_n O dX2_oathsSeen_66 3 rfl ?_
            refine z_aload_n O dX2_oathsSeen_67 2 rfl ?_
            refine z_iload O dX2_oathsSeen_68 4 rfl ?_
            refine z_callR (gKs D cs) hK (fun _ h => h.2) (t_X2_thickAt x b hb y3 _ h) (zr_V (As := [.int y3]) (rest := [.int y2]) O hE.1 1 gX2_oathsSeen_X2_thickAt rfl rfl rfl (by decide +kernel) ⟨(Nat.le_of_ble_eq_true rfl), (Nat.le_of_ble_eq_true rfl)⟩ ⟨(Nat.le_of_ble_eq_true rfl), (Nat.le_of_ble_eq_true rfl)⟩ (fun H hH => z_recv hK.1 (hX _ H hH) (hb).1 (xe_2 hb) rfl) rfl rfl (Nat.le_of_ble_eq_true rfl) dX2_oathsSeen_70) (fun r9 h => ?_)
            refine z_iadd O dX2_oathsSeen_73 ?_
            refine z_istore_n (lv' := [(3, .int (y2 + r9)), (2, .int (y1 ||| (1 <<< (r8 &&& 31)))), (5, .int 1), (0, .ref (ad b)), (4, .int y3)]) O dX2_oathsSeen_74 (by decide) rfl ?_
            refine z_iinc (lv' := [(4, .int (y3 + (-1))), (3, .int (y2 + r9)), (2, .int (y1 ||| (1 <<< (r8 &&& 31)))), (5, .int 1), (0, .ref (ad b))]) O dX2_oathsSeen_75 4 rfl rfl (by decide) rfl ?_
            refine z_goto O 13 dX2_oathsSeen_78 (by decide) ?_
            exact z_sub [4, 2, 1, 0] rfl (iI13 (y1 ||| (1 <<< (r8 &&& 31))) (y2 + r9) (y3 + (-1)) (Nat.lt_of_lt_of_le h.2 (Nat.le_of_lt_succ uI13)) h.1)
  exact z_sub [3, 2, 1, 0] rfl (kI13 _ 0 (-p1) ((x.1 b 6) - 1) (Nat.lt_succ_self _) h0)
def wp_X2_daysOf (x : XS) (b : Nat) (p1 : Int32) (Q : Int32 → Prop) : Prop :=
 (∃ (I9 : Int32 → Int32 → Prop) (U9 : Int32 → Int32 → Nat), I9 0 ((x.1 b 6) - 1) ∧ ∀ (y1 : Int32) (y2 : Int32), I9 y1 y2 →
 ((y2 < p1 →
 Q y1) ∧ (¬ y2 < p1 →
 wp_X2_meltsAt x b y2 (fun r3 : Int32 =>
 wp_X2_thickAt x b y2 (fun r4 : Int32 =>
 ((¬ (if (1 : Int32) < r3 then r3 else (1 : Int32)) = 0) ∧
 (I9 (y1 + (((r4 + ((if (1 : Int32) < r3 then r3 else (1 : Int32)))) - 1) / ((if (1 : Int32) < r3 then r3 else (1 : Int32))))) (y2 + (-1)) ∧ U9 (y1 + (((r4 + ((if (1 : Int32) < r3 then r3 else (1 : Int32)))) - 1) / ((if (1 : Int32) < r3 then r3 else (1 : Int32))))) (y2 + (-1)) < U9 y1 y2)))))))
set_option maxHeartbeats 4000000 in
set_option maxRecDepth 100000 in
theorem t_X2_daysOf {l : Launch} {D : va_G} {cs : Nat → ClassId} {ad : Nat → Nat} (x : XS) (b : Nat) (hb : xk b 2) (p1 : Int32) (Q : Int32 → Prop) (h : wp_X2_daysOf x b p1 Q) : zMR l yX2_daysOf wsX2_daysOf ({ frames := 2, cells := 0, slots := 0, locals := 42 } : Room) (gK D cs) (XH D cs ad) x [.ref (ad b), .int p1] Q := by
  refine zMR_of (cc := cX2_daysOf) (nL := 5) (ret := (some .int)) (by decide +kernel) rfl (Nat.le_of_ble_eq_true rfl) (fun C hl O hE hK hH => ?_)
  subst hl
  have hX : ∀ (x : XS) (H : Heap), z0 (XH D cs ad) C.s.heap x H → va_P D vwCl (wl 161 ad (XE cs ad x)) H := fun _ _ h => h.2
  have i2 : ∀ w ∈ wsX20, w ∈ wsX2_daysOf := by decide +kernel
  refine z_sub (lv' := [(0, .ref (ad b)), (1, .int p1)]) [0, 1] rfl ?_
  refine z_iconst (v := 0) O dX2_daysOf_0 rfl ?_
  refine z_istore_n (lv' := [(2, .int 0), (0, .ref (ad b)), (1, .int p1)]) O dX2_daysOf_1 (by decide) rfl ?_
  refine z_aload_n O dX2_daysOf_2 1 rfl ?_
  refine z_getf O hK.1 (hX _) (hb).1 (xe_2 hb) rfl i2 6 (by decide) (by decide +kernel) rfl dX2_daysOf_3 ?_
  refine z_iconst (v := 1) O dX2_daysOf_6 rfl ?_
  refine z_isub O dX2_daysOf_7 ?_
  refine z_istore_n (lv' := [(3, .int ((x.1 b 6) - 1)), (2, .int 0), (0, .ref (ad b)), (1, .int p1)]) O dX2_daysOf_8 (by decide) rfl ?_
  obtain ⟨I9, U9, h0, hs⟩ := h
  have kI9 : ∀ (n : Nat) (y1 : Int32) (y2 : Int32), U9 y1 y2 < n → I9 y1 y2 → Z C (fun _ => False) (z0 (XH D cs ad) C.s.heap) 5 x [(0, .ref (ad b)), (1, .int p1), (2, .int y1), (3, .int y2)] 0 0 9 [] := by
    intro n
    induction n with
    | zero => intro y1 y2 uI9; exact absurd uI9 (Nat.not_lt_zero _)
    | succ n iI9 =>
      intro y1 y2 uI9 h
      have h := hs y1 y2 h
      refine z_iload_n O dX2_daysOf_9 3 rfl ?_
      refine z_iload_n O dX2_daysOf_10 1 rfl ?_
      refine z_icmp_lt O 47 dX2_daysOf_11 (by decide) (fun c5 => ?_) (fun c5 => ?_)
      · replace h := h.1 c5
        refine z_iload_n O dX2_daysOf_47 2 rfl ?_
        exact z_retR O hE (fun _ h => h.1) rfl dX2_daysOf_48 h
      · replace h := h.2 c5
        refine z_iconst (v := 1) O dX2_daysOf_14 rfl ?_
        refine z_aload_n O dX2_daysOf_15 0 rfl ?_
        refine z_iload_n O dX2_daysOf_16 3 rfl ?_
        refine z_callR (gKs D cs) hK (fun _ h => h.2) (t_X2_meltsAt x b hb y2 _ h) (zr_V (As := [.int y2]) (rest := [.int 1]) O hE.1 1 gX2_daysOf_X2_meltsAt rfl rfl rfl (by decide +kernel) ⟨(Nat.le_of_ble_eq_true rfl), (Nat.le_of_ble_eq_true rfl)⟩ ⟨(Nat.le_of_ble_eq_true rfl), (Nat.le_of_ble_eq_true rfl)⟩ (fun H hH => z_recv hK.1 (hX _ H hH) (hb).1 (xe_2 hb) rfl) rfl rfl (Nat.le_of_ble_eq_true rfl) dX2_daysOf_17) (fun r3 h => ?_)
        refine z_max O hE.1 (by decide +kernel) (by decide +kernel) (by decide +kernel) (by decide +kernel) ⟨(Nat.le_of_ble_eq_true rfl), (Nat.le_of_ble_eq_true rfl), Nat.zero_le _, Nat.zero_le _⟩ dX2_daysOf_20 ?_
        refine z_istore (lv' := [(4, .int ((if (1 : Int32) < r3 then r3 else (1 : Int32)))), (0, .ref (ad b)), (1, .int p1), (2, .int y1), (3, .int y2)]) O dX2_daysOf_23 (by decide) rfl ?_
        refine z_iload_n O dX2_daysOf_25 3 rfl ?_
        refine z_aload_n O dX2_daysOf_26 1 rfl ?_
        refine z_iload_n O dX2_daysOf_27 4 rfl ?_
        refine z_callR (gKs D cs) hK (fun _ h => h.2) (t_X2_thickAt x b hb y2 _ h) (zr_V (As := [.int y2]) (rest := [.int y1]) O hE.1 1 gX2_daysOf_X2_thickAt rfl rfl rfl (by decide +kernel) ⟨(Nat.le_of_ble_eq_true rfl), (Nat.le_of_ble_eq_true rfl)⟩ ⟨(Nat.le_of_ble_eq_true rfl), (Nat.le_of_ble_eq_true rfl)⟩ (fun H hH => z_recv hK.1 (hX _ H hH) (hb).1 (xe_2 hb) rfl) rfl rfl (Nat.le_of_ble_eq_true rfl) dX2_daysOf_28) (fun r4 h => ?_)
        refine z_iload O dX2_daysOf_31 0 rfl ?_
        refine z_iadd O dX2_daysOf_33 ?_
        refine z_iconst (v := 1) O dX2_daysOf_34 rfl ?_
        refine z_isub O dX2_daysOf_35 ?_
        refine z_iload O dX2_daysOf_36 0 rfl ?_
        refine z_idiv O dX2_daysOf_38 h.1 ?_
        replace h := h.2
        refine z_iadd O dX2_daysOf_39 ?_
        refine z_istore_n (lv' := [(2, .int (y1 + (((r4 + ((if (1 : Int32) < r3 then r3 else (1 : Int32)))) - 1) / ((if (1 : Int32) < r3 then r3 else (1 : Int32)))))), (4, .int ((if (1 : Int32) < r3 then r3 else (1 : Int32)))), (0, .ref (ad b)), (1, .int p1), (3, .int y2)]) O dX2_daysOf_40 (by decide) rfl ?_
        refine z_iinc (lv' := [(3, .int (y2 + (-1))), (2, .int (y1 + (((r4 + ((if (1 : Int32) < r3 then r3 else (1 : Int32)))) - 1) / ((if (1 : Int32) < r3 then r3 else (1 : Int32)))))), (4, .int ((if (1 : Int32) < r3 then r3 else (1 : Int32)))), (0, .ref (ad b)), (1, .int p1)]) O dX2_daysOf_41 4 rfl rfl (by decide) rfl ?_
        refine z_goto O 9 dX2_daysOf_44 (by decide) ?_
        exact z_sub [3, 4, 1, 0] rfl (iI9 (y1 + (((r4 + ((if (1 : Int32) < r3 then r3 else (1 : Int32)))) - 1) / ((if (1 : Int32) < r3 then r3 else (1 : Int32))))) (y2 + (-1)) (Nat.lt_of_lt_of_le h.2 (Nat.le_of_lt_succ uI9)) h.1)
  exact z_sub [2, 3, 1, 0] rfl (kI9 _ 0 ((x.1 b 6) - 1) (Nat.lt_succ_self _) h0)
def wp_X2_keepsOath (x : XS) (b : Nat) (p1 : Int32) (p2 : Int32) (Q : Int32 → Prop) : Prop :=
 (∃ (I2 : Int32 → Prop) (U2 : Int32 → Nat), I2 0 ∧ ∀ (y1 : Int32), I2 y1 →
 (((x.1 b 6) ≤ y1 →
 Q 0) ∧ (¬ (x.1 b 6) ≤ y1 →
 wp_X2_oathAt x b y1 (fun r2 : Int32 =>
 ((¬ r2 = p1 →
 (I2 (y1 + 1) ∧ U2 (y1 + 1) < U2 y1)) ∧ (r2 = p1 →
 wp_X2_daysOf x b y1 (fun r3 : Int32 =>
 ((r3 ≤ p2 →
 (I2 (y1 + 1) ∧ U2 (y1 + 1) < U2 y1)) ∧ (¬ r3 ≤ p2 →
 Q 1)))))))))
set_option maxHeartbeats 4000000 in
set_option maxRecDepth 100000 in
theorem t_X2_keepsOath {l : Launch} {D : va_G} {cs : Nat → ClassId} {ad : Nat → Nat} (x : XS) (b : Nat) (hb : xk b 2) (p1 : Int32) (p2 : Int32) (Q : Int32 → Prop) (h : wp_X2_keepsOath x b p1 p2 Q) : zMR l yX2_keepsOath wsX2_keepsOath ({ frames := 3, cells := 0, slots := 0, locals := 66 } : Room) (gK D cs) (XH D cs ad) x [.ref (ad b), .int p1, .int p2] Q := by
  refine zMR_of (cc := cX2_keepsOath) (nL := 4) (ret := (some .boolean)) (by decide +kernel) rfl (Nat.le_of_ble_eq_true rfl) (fun C hl O hE hK hH => ?_)
  subst hl
  have hX : ∀ (x : XS) (H : Heap), z0 (XH D cs ad) C.s.heap x H → va_P D vwCl (wl 161 ad (XE cs ad x)) H := fun _ _ h => h.2
  have i2 : ∀ w ∈ wsX20, w ∈ wsX2_keepsOath := by decide +kernel
  refine z_sub (lv' := [(0, .ref (ad b)), (1, .int p1), (2, .int p2)]) [0, 1, 2] rfl ?_
  refine z_iconst (v := 0) O dX2_keepsOath_0 rfl ?_
  refine z_istore_n (lv' := [(3, .int 0), (0, .ref (ad b)), (1, .int p1), (2, .int p2)]) O dX2_keepsOath_1 (by decide) rfl ?_
  obtain ⟨I2, U2, h0, hs⟩ := h
  have kI2 : ∀ (n : Nat) (y1 : Int32), U2 y1 < n → I2 y1 → Z C (fun _ => False) (z0 (XH D cs ad) C.s.heap) 4 x [(0, .ref (ad b)), (1, .int p1), (2, .int p2), (3, .int y1)] 0 0 2 [] := by
    intro n
    induction n with
    | zero => intro y1 uI2; exact absurd uI2 (Nat.not_lt_zero _)
    | succ n iI2 =>
      intro y1 uI2 h
      have h := hs y1 h
      refine z_iload_n O dX2_keepsOath_2 3 rfl ?_
      refine z_aload_n O dX2_keepsOath_3 0 rfl ?_
      refine z_getf O hK.1 (hX _) (hb).1 (xe_2 hb) rfl i2 6 (by decide) (by decide +kernel) rfl dX2_keepsOath_4 ?_
      refine z_icmp_ge O 36 dX2_keepsOath_7 (by decide) (fun c6 => ?_) (fun c6 => ?_)
      · replace h := h.1 c6
        refine z_iconst (v := 0) O dX2_keepsOath_36 rfl ?_
        exact z_retR O hE (fun _ h => h.1) rfl dX2_keepsOath_37 h
      · replace h := h.2 c6
        refine z_aload_n O dX2_keepsOath_10 0 rfl ?_
        refine z_iload_n O dX2_keepsOath_11 3 rfl ?_
        refine z_callR (gKs D cs) hK (fun _ h => h.2) (t_X2_oathAt x b hb y1 _ h) (zr_V (As := [.int y1]) (rest := []) O hE.1 1 gX2_keepsOath_X2_oathAt rfl rfl rfl (by decide +kernel) ⟨(Nat.le_of_ble_eq_true rfl), (Nat.le_of_ble_eq_true rfl)⟩ ⟨(Nat.le_of_ble_eq_true rfl), (Nat.le_of_ble_eq_true rfl)⟩ (fun H hH => z_recv hK.1 (hX _ H hH) (hb).1 (xe_2 hb) rfl) rfl rfl (Nat.le_of_ble_eq_true rfl) dX2_keepsOath_12) (fun r2 h => ?_)
        refine z_iload_n O dX2_keepsOath_15 1 rfl ?_
        refine z_icmp_ne O 30 dX2_keepsOath_16 (by decide) (fun c5 => ?_) (fun c5 => ?_)
        · replace h := h.1 c5
          refine z_iinc (lv' := [(3, .int (y1 + 1)), (0, .ref (ad b)), (1, .int p1), (2, .int p2)]) O dX2_keepsOath_30 3 rfl rfl (by decide) rfl ?_
          refine z_goto O 2 dX2_keepsOath_33 (by decide) ?_
          exact z_sub [1, 2, 3, 0] rfl (iI2 (y1 + 1) (Nat.lt_of_lt_of_le h.2 (Nat.le_of_lt_succ uI2)) h.1)
        · replace h := h.2 c5
          refine z_aload_n O dX2_keepsOath_19 0 rfl ?_
          refine z_iload_n O dX2_keepsOath_20 3 rfl ?_
          refine z_callR (gKs D cs) hK (fun _ h => h.2) (t_X2_daysOf x b hb y1 _ h) (zr_V (As := [.int y1]) (rest := []) O hE.1 1 gX2_keepsOath_X2_daysOf rfl rfl rfl (by decide +kernel) ⟨(Nat.le_of_ble_eq_true rfl), (Nat.le_of_ble_eq_true rfl)⟩ ⟨(Nat.le_of_ble_eq_true rfl), (Nat.le_of_ble_eq_true rfl)⟩ (fun H hH => z_recv hK.1 (hX _ H hH) (hb).1 (xe_2 hb) rfl) rfl rfl (Nat.le_of_ble_eq_true rfl) dX2_keepsOath_21) (fun r3 h => ?_)
          refine z_iload_n O dX2_keepsOath_24 2 rfl ?_
          refine z_icmp_le O 30 dX2_keepsOath_25 (by decide) (fun c4 => ?_) (fun c4 => ?_)
          · replace h := h.1 c4
            refine z_iinc (lv' := [(3, .int (y1 + 1)), (0, .ref (ad b)), (1, .int p1), (2, .int p2)]) O dX2_keepsOath_30 3 rfl rfl (by decide) rfl ?_
            refine z_goto O 2 dX2_keepsOath_33 (by decide) ?_
            exact z_sub [1, 2, 3, 0] rfl (iI2 (y1 + 1) (Nat.lt_of_lt_of_le h.2 (Nat.le_of_lt_succ uI2)) h.1)
          · replace h := h.2 c4
            refine z_iconst (v := 1) O dX2_keepsOath_28 rfl ?_
            exact z_retR O hE (fun _ h => h.1) rfl dX2_keepsOath_29 h
  exact z_sub [1, 2, 3, 0] rfl (kI2 _ 0 (Nat.lt_succ_self _) h0)
def wp_X2_layerBehind (x : XS) (b : Nat) (p1 : Int32) (Q : Int32 → Prop) : Prop :=
 (∃ (I9 : Int32 → Int32 → Prop) (U9 : Int32 → Int32 → Nat), I9 p1 ((x.1 b 6) - 1) ∧ ∀ (y1 : Int32) (y2 : Int32), I9 y1 y2 →
 ((y2 < 0 →
 Q (-1)) ∧ (¬ y2 < 0 →
 wp_X2_thickAt x b y2 (fun r3 : Int32 =>
 ((r3 ≤ y1 →
 wp_X2_thickAt x b y2 (fun r4 : Int32 =>
 (I9 (y1 - r4) (y2 + (-1)) ∧ U9 (y1 - r4) (y2 + (-1)) < U9 y1 y2))) ∧ (¬ r3 ≤ y1 →
 Q y2))))))
set_option maxHeartbeats 4000000 in
set_option maxRecDepth 100000 in
theorem t_X2_layerBehind {l : Launch} {D : va_G} {cs : Nat → ClassId} {ad : Nat → Nat} (x : XS) (b : Nat) (hb : xk b 2) (p1 : Int32) (Q : Int32 → Prop) (h : wp_X2_layerBehind x b p1 Q) : zMR l yX2_layerBehind wsX2_layerBehind ({ frames := 2, cells := 0, slots := 0, locals := 42 } : Room) (gK D cs) (XH D cs ad) x [.ref (ad b), .int p1] Q := by
  refine zMR_of (cc := cX2_layerBehind) (nL := 4) (ret := (some .int)) (by decide +kernel) rfl (Nat.le_of_ble_eq_true rfl) (fun C hl O hE hK hH => ?_)
  subst hl
  have hX : ∀ (x : XS) (H : Heap), z0 (XH D cs ad) C.s.heap x H → va_P D vwCl (wl 161 ad (XE cs ad x)) H := fun _ _ h => h.2
  have i2 : ∀ w ∈ wsX20, w ∈ wsX2_layerBehind := by decide +kernel
  refine z_sub (lv' := [(0, .ref (ad b)), (1, .int p1)]) [0, 1] rfl ?_
  refine z_iload_n O dX2_layerBehind_0 1 rfl ?_
  refine z_istore_n (lv' := [(2, .int p1), (0, .ref (ad b)), (1, .int p1)]) O dX2_layerBehind_1 (by decide) rfl ?_
  refine z_aload_n O dX2_layerBehind_2 1 rfl ?_
  refine z_getf O hK.1 (hX _) (hb).1 (xe_2 hb) rfl i2 6 (by decide) (by decide +kernel) rfl dX2_layerBehind_3 ?_
  refine z_iconst (v := 1) O dX2_layerBehind_6 rfl ?_
  refine z_isub O dX2_layerBehind_7 ?_
  refine z_istore_n (lv' := [(3, .int ((x.1 b 6) - 1)), (2, .int p1), (0, .ref (ad b)), (1, .int p1)]) O dX2_layerBehind_8 (by decide) rfl ?_
  obtain ⟨I9, U9, h0, hs⟩ := h
  have kI9 : ∀ (n : Nat) (y1 : Int32) (y2 : Int32), U9 y1 y2 < n → I9 y1 y2 → Z C (fun _ => False) (z0 (XH D cs ad) C.s.heap) 4 x [(0, .ref (ad b)), (2, .int y1), (3, .int y2)] 0 0 9 [] := by
    intro n
    induction n with
    | zero => intro y1 y2 uI9; exact absurd uI9 (Nat.not_lt_zero _)
    | succ n iI9 =>
      intro y1 y2 uI9 h
      have h := hs y1 y2 h
      refine z_iload_n O dX2_layerBehind_9 2 rfl ?_
      refine z_if_lt O 38 dX2_layerBehind_10 (by decide) (fun c6 => ?_) (fun c6 => ?_)
      · replace h := h.1 c6
        refine z_iconst (v := -1) O dX2_layerBehind_38 rfl ?_
        exact z_retR O hE (fun _ h => h.1) rfl dX2_layerBehind_39 h
      · replace h := h.2 c6
        refine z_iload_n O dX2_layerBehind_13 1 rfl ?_
        refine z_aload_n O dX2_layerBehind_14 0 rfl ?_
        refine z_iload_n O dX2_layerBehind_15 2 rfl ?_
        refine z_callR (gKs D cs) hK (fun _ h => h.2) (t_X2_thickAt x b hb y2 _ h) (zr_V (As := [.int y2]) (rest := [.int y1]) O hE.1 1 gX2_layerBehind_X2_thickAt rfl rfl rfl (by decide +kernel) ⟨(Nat.le_of_ble_eq_true rfl), (Nat.le_of_ble_eq_true rfl)⟩ ⟨(Nat.le_of_ble_eq_true rfl), (Nat.le_of_ble_eq_true rfl)⟩ (fun H hH => z_recv hK.1 (hX _ H hH) (hb).1 (xe_2 hb) rfl) rfl rfl (Nat.le_of_ble_eq_true rfl) dX2_layerBehind_16) (fun r3 h => ?_)
        refine z_icmp_ge O 24 dX2_layerBehind_19 (by decide) (fun c5 => ?_) (fun c5 => ?_)
        · replace h := h.1 c5
          refine z_iload_n O dX2_layerBehind_24 1 rfl ?_
          refine z_aload_n O dX2_layerBehind_25 0 rfl ?_
          refine z_iload_n O dX2_layerBehind_26 2 rfl ?_
          refine z_callR (gKs D cs) hK (fun _ h => h.2) (t_X2_thickAt x b hb y2 _ h) (zr_V (As := [.int y2]) (rest := [.int y1]) O hE.1 1 gX2_layerBehind_X2_thickAt rfl rfl rfl (by decide +kernel) ⟨(Nat.le_of_ble_eq_true rfl), (Nat.le_of_ble_eq_true rfl)⟩ ⟨(Nat.le_of_ble_eq_true rfl), (Nat.le_of_ble_eq_true rfl)⟩ (fun H hH => z_recv hK.1 (hX _ H hH) (hb).1 (xe_2 hb) rfl) rfl rfl (Nat.le_of_ble_eq_true rfl) dX2_layerBehind_27) (fun r4 h => ?_)
          refine z_isub O dX2_layerBehind_30 ?_
          refine z_istore_n (lv' := [(2, .int (y1 - r4)), (0, .ref (ad b)), (3, .int y2)]) O dX2_layerBehind_31 (by decide) rfl ?_
          refine z_iinc (lv' := [(3, .int (y2 + (-1))), (2, .int (y1 - r4)), (0, .ref (ad b))]) O dX2_layerBehind_32 2 rfl rfl (by decide) rfl ?_
          refine z_goto O 9 dX2_layerBehind_35 (by decide) ?_
          exact z_sub [2, 1, 0] rfl (iI9 (y1 - r4) (y2 + (-1)) (Nat.lt_of_lt_of_le h.2 (Nat.le_of_lt_succ uI9)) h.1)
        · replace h := h.2 c5
          refine z_iload_n O dX2_layerBehind_22 2 rfl ?_
          exact z_retR O hE (fun _ h => h.1) rfl dX2_layerBehind_23 h
  exact z_sub [2, 1, 0] rfl (kI9 _ p1 ((x.1 b 6) - 1) (Nat.lt_succ_self _) h0)
def wp_X2_lowestThickOf (x : XS) (b : Nat) (p1 : Int32) (Q : Int32 → Prop) : Prop :=
 (∃ (I2 : Int32 → Prop) (U2 : Int32 → Nat), I2 0 ∧ ∀ (y1 : Int32), I2 y1 →
 (((x.1 b 6) ≤ y1 →
 Q 0) ∧ (¬ (x.1 b 6) ≤ y1 →
 wp_X2_winterAt x b y1 (fun r2 : Int32 =>
 ((¬ r2 = p1 →
 (I2 (y1 + 1) ∧ U2 (y1 + 1) < U2 y1)) ∧ (r2 = p1 →
 wp_X2_thickAt x b y1 (fun r3 : Int32 =>
 Q r3)))))))
set_option maxHeartbeats 4000000 in
set_option maxRecDepth 100000 in
theorem t_X2_lowestThickOf {l : Launch} {D : va_G} {cs : Nat → ClassId} {ad : Nat → Nat} (x : XS) (b : Nat) (hb : xk b 2) (p1 : Int32) (Q : Int32 → Prop) (h : wp_X2_lowestThickOf x b p1 Q) : zMR l yX2_lowestThickOf wsX2_lowestThickOf ({ frames := 2, cells := 0, slots := 0, locals := 42 } : Room) (gK D cs) (XH D cs ad) x [.ref (ad b), .int p1] Q := by
  refine zMR_of (cc := cX2_lowestThickOf) (nL := 3) (ret := (some .int)) (by decide +kernel) rfl (Nat.le_of_ble_eq_true rfl) (fun C hl O hE hK hH => ?_)
  subst hl
  have hX : ∀ (x : XS) (H : Heap), z0 (XH D cs ad) C.s.heap x H → va_P D vwCl (wl 161 ad (XE cs ad x)) H := fun _ _ h => h.2
  have i2 : ∀ w ∈ wsX20, w ∈ wsX2_lowestThickOf := by decide +kernel
  refine z_sub (lv' := [(0, .ref (ad b)), (1, .int p1)]) [0, 1] rfl ?_
  refine z_iconst (v := 0) O dX2_lowestThickOf_0 rfl ?_
  refine z_istore_n (lv' := [(2, .int 0), (0, .ref (ad b)), (1, .int p1)]) O dX2_lowestThickOf_1 (by decide) rfl ?_
  obtain ⟨I2, U2, h0, hs⟩ := h
  have kI2 : ∀ (n : Nat) (y1 : Int32), U2 y1 < n → I2 y1 → Z C (fun _ => False) (z0 (XH D cs ad) C.s.heap) 3 x [(0, .ref (ad b)), (1, .int p1), (2, .int y1)] 0 0 2 [] := by
    intro n
    induction n with
    | zero => intro y1 uI2; exact absurd uI2 (Nat.not_lt_zero _)
    | succ n iI2 =>
      intro y1 uI2 h
      have h := hs y1 h
      refine z_iload_n O dX2_lowestThickOf_2 2 rfl ?_
      refine z_aload_n O dX2_lowestThickOf_3 0 rfl ?_
      refine z_getf O hK.1 (hX _) (hb).1 (xe_2 hb) rfl i2 6 (by decide) (by decide +kernel) rfl dX2_lowestThickOf_4 ?_
      refine z_icmp_ge O 31 dX2_lowestThickOf_7 (by decide) (fun c5 => ?_) (fun c5 => ?_)
      · replace h := h.1 c5
        refine z_iconst (v := 0) O dX2_lowestThickOf_31 rfl ?_
        exact z_retR O hE (fun _ h => h.1) rfl dX2_lowestThickOf_32 h
      · replace h := h.2 c5
        refine z_aload_n O dX2_lowestThickOf_10 0 rfl ?_
        refine z_iload_n O dX2_lowestThickOf_11 2 rfl ?_
        refine z_callR (gKs D cs) hK (fun _ h => h.2) (t_X2_winterAt x b hb y1 _ h) (zr_V (As := [.int y1]) (rest := []) O hE.1 1 gX2_lowestThickOf_X2_winterAt rfl rfl rfl (by decide +kernel) ⟨(Nat.le_of_ble_eq_true rfl), (Nat.le_of_ble_eq_true rfl)⟩ ⟨(Nat.le_of_ble_eq_true rfl), (Nat.le_of_ble_eq_true rfl)⟩ (fun H hH => z_recv hK.1 (hX _ H hH) (hb).1 (xe_2 hb) rfl) rfl rfl (Nat.le_of_ble_eq_true rfl) dX2_lowestThickOf_12) (fun r2 h => ?_)
        refine z_iload_n O dX2_lowestThickOf_15 1 rfl ?_
        refine z_icmp_ne O 25 dX2_lowestThickOf_16 (by decide) (fun c4 => ?_) (fun c4 => ?_)
        · replace h := h.1 c4
          refine z_iinc (lv' := [(2, .int (y1 + 1)), (0, .ref (ad b)), (1, .int p1)]) O dX2_lowestThickOf_25 2 rfl rfl (by decide) rfl ?_
          refine z_goto O 2 dX2_lowestThickOf_28 (by decide) ?_
          exact z_sub [1, 2, 0] rfl (iI2 (y1 + 1) (Nat.lt_of_lt_of_le h.2 (Nat.le_of_lt_succ uI2)) h.1)
        · replace h := h.2 c4
          refine z_aload_n O dX2_lowestThickOf_19 0 rfl ?_
          refine z_iload_n O dX2_lowestThickOf_20 2 rfl ?_
          refine z_callR (gKs D cs) hK (fun _ h => h.2) (t_X2_thickAt x b hb y1 _ h) (zr_V (As := [.int y1]) (rest := []) O hE.1 1 gX2_lowestThickOf_X2_thickAt rfl rfl rfl (by decide +kernel) ⟨(Nat.le_of_ble_eq_true rfl), (Nat.le_of_ble_eq_true rfl)⟩ ⟨(Nat.le_of_ble_eq_true rfl), (Nat.le_of_ble_eq_true rfl)⟩ (fun H hH => z_recv hK.1 (hX _ H hH) (hb).1 (xe_2 hb) rfl) rfl rfl (Nat.le_of_ble_eq_true rfl) dX2_lowestThickOf_21) (fun r3 h => ?_)
          exact z_retR O hE (fun _ h => h.1) rfl dX2_lowestThickOf_24 h
  exact z_sub [1, 2, 0] rfl (kI2 _ 0 (Nat.lt_succ_self _) h0)
def wp_X2_unorderedPairs (x : XS) (b : Nat)  (Q : Int32 → Prop) : Prop :=
 (∃ (I4 : Int32 → Int32 → Prop) (U4 : Int32 → Int32 → Nat), I4 0 1 ∧ ∀ (y1 : Int32) (y2 : Int32), I4 y1 y2 →
 (((x.1 b 6) ≤ y2 →
 Q y1) ∧ (¬ (x.1 b 6) ≤ y2 →
 wp_X2_winterAt x b y2 (fun r3 : Int32 =>
 wp_X2_winterAt x b (y2 - 1) (fun r4 : Int32 =>
 ((r4 ≤ r3 →
 (I4 y1 (y2 + 1) ∧ U4 y1 (y2 + 1) < U4 y1 y2)) ∧ (¬ r4 ≤ r3 →
 (I4 (y1 + 1) (y2 + 1) ∧ U4 (y1 + 1) (y2 + 1) < U4 y1 y2))))))))
set_option maxHeartbeats 4000000 in
set_option maxRecDepth 100000 in
theorem t_X2_unorderedPairs {l : Launch} {D : va_G} {cs : Nat → ClassId} {ad : Nat → Nat} (x : XS) (b : Nat) (hb : xk b 2)  (Q : Int32 → Prop) (h : wp_X2_unorderedPairs x b  Q) : zMR l yX2_unorderedPairs wsX2_unorderedPairs ({ frames := 2, cells := 0, slots := 0, locals := 42 } : Room) (gK D cs) (XH D cs ad) x [.ref (ad b)] Q := by
  refine zMR_of (cc := cX2_unorderedPairs) (nL := 3) (ret := (some .int)) (by decide +kernel) rfl (Nat.le_of_ble_eq_true rfl) (fun C hl O hE hK hH => ?_)
  subst hl
  have hX : ∀ (x : XS) (H : Heap), z0 (XH D cs ad) C.s.heap x H → va_P D vwCl (wl 161 ad (XE cs ad x)) H := fun _ _ h => h.2
  have i2 : ∀ w ∈ wsX20, w ∈ wsX2_unorderedPairs := by decide +kernel
  refine z_sub (lv' := [(0, .ref (ad b))]) [0] rfl ?_
  refine z_iconst (v := 0) O dX2_unorderedPairs_0 rfl ?_
  refine z_istore_n (lv' := [(1, .int 0), (0, .ref (ad b))]) O dX2_unorderedPairs_1 (by decide) rfl ?_
  refine z_iconst (v := 1) O dX2_unorderedPairs_2 rfl ?_
  refine z_istore_n (lv' := [(2, .int 1), (1, .int 0), (0, .ref (ad b))]) O dX2_unorderedPairs_3 (by decide) rfl ?_
  obtain ⟨I4, U4, h0, hs⟩ := h
  have kI4 : ∀ (n : Nat) (y1 : Int32) (y2 : Int32), U4 y1 y2 < n → I4 y1 y2 → Z C (fun _ => False) (z0 (XH D cs ad) C.s.heap) 3 x [(0, .ref (ad b)), (1, .int y1), (2, .int y2)] 0 0 4 [] := by
    intro n
    induction n with
    | zero => intro y1 y2 uI4; exact absurd uI4 (Nat.not_lt_zero _)
    | succ n iI4 =>
      intro y1 y2 uI4 h
      have h := hs y1 y2 h
      refine z_iload_n O dX2_unorderedPairs_4 2 rfl ?_
      refine z_aload_n O dX2_unorderedPairs_5 0 rfl ?_
      refine z_getf O hK.1 (hX _) (hb).1 (xe_2 hb) rfl i2 6 (by decide) (by decide +kernel) rfl dX2_unorderedPairs_6 ?_
      refine z_icmp_ge O 36 dX2_unorderedPairs_9 (by decide) (fun c6 => ?_) (fun c6 => ?_)
      · replace h := h.1 c6
        refine z_iload_n O dX2_unorderedPairs_36 1 rfl ?_
        exact z_retR O hE (fun _ h => h.1) rfl dX2_unorderedPairs_37 h
      · replace h := h.2 c6
        refine z_aload_n O dX2_unorderedPairs_12 0 rfl ?_
        refine z_iload_n O dX2_unorderedPairs_13 2 rfl ?_
        refine z_callR (gKs D cs) hK (fun _ h => h.2) (t_X2_winterAt x b hb y2 _ h) (zr_V (As := [.int y2]) (rest := []) O hE.1 1 gX2_unorderedPairs_X2_winterAt rfl rfl rfl (by decide +kernel) ⟨(Nat.le_of_ble_eq_true rfl), (Nat.le_of_ble_eq_true rfl)⟩ ⟨(Nat.le_of_ble_eq_true rfl), (Nat.le_of_ble_eq_true rfl)⟩ (fun H hH => z_recv hK.1 (hX _ H hH) (hb).1 (xe_2 hb) rfl) rfl rfl (Nat.le_of_ble_eq_true rfl) dX2_unorderedPairs_14) (fun r3 h => ?_)
        refine z_aload_n O dX2_unorderedPairs_17 0 rfl ?_
        refine z_iload_n O dX2_unorderedPairs_18 2 rfl ?_
        refine z_iconst (v := 1) O dX2_unorderedPairs_19 rfl ?_
        refine z_isub O dX2_unorderedPairs_20 ?_
        refine z_callR (gKs D cs) hK (fun _ h => h.2) (t_X2_winterAt x b hb (y2 - 1) _ h) (zr_V (As := [.int (y2 - 1)]) (rest := [.int r3]) O hE.1 1 gX2_unorderedPairs_X2_winterAt rfl rfl rfl (by decide +kernel) ⟨(Nat.le_of_ble_eq_true rfl), (Nat.le_of_ble_eq_true rfl)⟩ ⟨(Nat.le_of_ble_eq_true rfl), (Nat.le_of_ble_eq_true rfl)⟩ (fun H hH => z_recv hK.1 (hX _ H hH) (hb).1 (xe_2 hb) rfl) rfl rfl (Nat.le_of_ble_eq_true rfl) dX2_unorderedPairs_21) (fun r4 h => ?_)
        refine z_icmp_ge O 30 dX2_unorderedPairs_24 (by decide) (fun c5 => ?_) (fun c5 => ?_)
        · replace h := h.1 c5
          refine z_iinc (lv' := [(2, .int (y2 + 1)), (0, .ref (ad b)), (1, .int y1)]) O dX2_unorderedPairs_30 2 rfl rfl (by decide) rfl ?_
          refine z_goto O 4 dX2_unorderedPairs_33 (by decide) ?_
          exact z_sub [1, 2, 0] rfl (iI4 y1 (y2 + 1) (Nat.lt_of_lt_of_le h.2 (Nat.le_of_lt_succ uI4)) h.1)
        · replace h := h.2 c5
          refine z_iinc (lv' := [(1, .int (y1 + 1)), (0, .ref (ad b)), (2, .int y2)]) O dX2_unorderedPairs_27 1 rfl rfl (by decide) rfl ?_
          refine z_iinc (lv' := [(2, .int (y2 + 1)), (1, .int (y1 + 1)), (0, .ref (ad b))]) O dX2_unorderedPairs_30 2 rfl rfl (by decide) rfl ?_
          refine z_goto O 4 dX2_unorderedPairs_33 (by decide) ?_
          exact z_sub [2, 1, 0] rfl (iI4 (y1 + 1) (y2 + 1) (Nat.lt_of_lt_of_le h.2 (Nat.le_of_lt_succ uI4)) h.1)
  exact z_sub [2, 1, 0] rfl (kI4 _ 0 1 (Nat.lt_succ_self _) h0)
def wp_X2_readableLayers (x : XS) (b : Nat)  (Q : Int32 → Prop) : Prop :=
 (∃ (I4 : Int32 → Int32 → Prop) (U4 : Int32 → Int32 → Nat), I4 0 0 ∧ ∀ (y1 : Int32) (y2 : Int32), I4 y1 y2 →
 (((x.1 b 6) ≤ y2 →
 Q y1) ∧ (¬ (x.1 b 6) ≤ y2 →
 wp_X2_canRead x b y2 (fun r3 : Int32 =>
 ((r3 = 0 →
 (I4 y1 (y2 + 1) ∧ U4 y1 (y2 + 1) < U4 y1 y2)) ∧ (¬ r3 = 0 →
 (I4 (y1 + 1) (y2 + 1) ∧ U4 (y1 + 1) (y2 + 1) < U4 y1 y2)))))))
set_option maxHeartbeats 4000000 in
set_option maxRecDepth 100000 in
theorem t_X2_readableLayers {l : Launch} {D : va_G} {cs : Nat → ClassId} {ad : Nat → Nat} (x : XS) (b : Nat) (hb : xk b 2)  (Q : Int32 → Prop) (h : wp_X2_readableLayers x b  Q) : zMR l yX2_readableLayers wsX2_readableLayers ({ frames := 4, cells := 0, slots := 0, locals := 86 } : Room) (gK D cs) (XH D cs ad) x [.ref (ad b)] Q := by
  refine zMR_of (cc := cX2_readableLayers) (nL := 3) (ret := (some .int)) (by decide +kernel) rfl (Nat.le_of_ble_eq_true rfl) (fun C hl O hE hK hH => ?_)
  subst hl
  have hX : ∀ (x : XS) (H : Heap), z0 (XH D cs ad) C.s.heap x H → va_P D vwCl (wl 161 ad (XE cs ad x)) H := fun _ _ h => h.2
  have i2 : ∀ w ∈ wsX20, w ∈ wsX2_readableLayers := by decide +kernel
  refine z_sub (lv' := [(0, .ref (ad b))]) [0] rfl ?_
  refine z_iconst (v := 0) O dX2_readableLayers_0 rfl ?_
  refine z_istore_n (lv' := [(1, .int 0), (0, .ref (ad b))]) O dX2_readableLayers_1 (by decide) rfl ?_
  refine z_iconst (v := 0) O dX2_readableLayers_2 rfl ?_
  refine z_istore_n (lv' := [(2, .int 0), (1, .int 0), (0, .ref (ad b))]) O dX2_readableLayers_3 (by decide) rfl ?_
  obtain ⟨I4, U4, h0, hs⟩ := h
  have kI4 : ∀ (n : Nat) (y1 : Int32) (y2 : Int32), U4 y1 y2 < n → I4 y1 y2 → Z C (fun _ => False) (z0 (XH D cs ad) C.s.heap) 3 x [(0, .ref (ad b)), (1, .int y1), (2, .int y2)] 0 0 4 [] := by
    intro n
    induction n with
    | zero => intro y1 y2 uI4; exact absurd uI4 (Nat.not_lt_zero _)
    | succ n iI4 =>
      intro y1 y2 uI4 h
      have h := hs y1 y2 h
      refine z_iload_n O dX2_readableLayers_4 2 rfl ?_
      refine z_aload_n O dX2_readableLayers_5 0 rfl ?_
      refine z_getf O hK.1 (hX _) (hb).1 (xe_2 hb) rfl i2 6 (by decide) (by decide +kernel) rfl dX2_readableLayers_6 ?_
      refine z_icmp_ge O 29 dX2_readableLayers_9 (by decide) (fun c5 => ?_) (fun c5 => ?_)
      · replace h := h.1 c5
        refine z_iload_n O dX2_readableLayers_29 1 rfl ?_
        exact z_retR O hE (fun _ h => h.1) rfl dX2_readableLayers_30 h
      · replace h := h.2 c5
        refine z_aload_n O dX2_readableLayers_12 0 rfl ?_
        refine z_iload_n O dX2_readableLayers_13 2 rfl ?_
        refine z_callR (gKs D cs) hK (fun _ h => h.2) (t_X2_canRead x b hb y2 _ h) (zr_V (As := [.int y2]) (rest := []) O hE.1 1 gX2_readableLayers_X2_canRead rfl rfl rfl (by decide +kernel) ⟨(Nat.le_of_ble_eq_true rfl), (Nat.le_of_ble_eq_true rfl)⟩ ⟨(Nat.le_of_ble_eq_true rfl), (Nat.le_of_ble_eq_true rfl)⟩ (fun H hH => z_recv hK.1 (hX _ H hH) (hb).1 (xe_2 hb) rfl) rfl rfl (Nat.le_of_ble_eq_true rfl) dX2_readableLayers_14) (fun r3 h => ?_)
        refine z_if_eq O 23 dX2_readableLayers_17 (by decide) (fun c4 => ?_) (fun c4 => ?_)
        · replace h := h.1 c4
          refine z_iinc (lv' := [(2, .int (y2 + 1)), (0, .ref (ad b)), (1, .int y1)]) O dX2_readableLayers_23 2 rfl rfl (by decide) rfl ?_
          refine z_goto O 4 dX2_readableLayers_26 (by decide) ?_
          exact z_sub [1, 2, 0] rfl (iI4 y1 (y2 + 1) (Nat.lt_of_lt_of_le h.2 (Nat.le_of_lt_succ uI4)) h.1)
        · replace h := h.2 c4
          refine z_iinc (lv' := [(1, .int (y1 + 1)), (0, .ref (ad b)), (2, .int y2)]) O dX2_readableLayers_20 1 rfl rfl (by decide) rfl ?_
          refine z_iinc (lv' := [(2, .int (y2 + 1)), (1, .int (y1 + 1)), (0, .ref (ad b))]) O dX2_readableLayers_23 2 rfl rfl (by decide) rfl ?_
          refine z_goto O 4 dX2_readableLayers_26 (by decide) ?_
          exact z_sub [2, 1, 0] rfl (iI4 (y1 + 1) (y2 + 1) (Nat.lt_of_lt_of_le h.2 (Nat.le_of_lt_succ uI4)) h.1)
  exact z_sub [2, 1, 0] rfl (kI4 _ 0 0 (Nat.lt_succ_self _) h0)
def wp_X2_oaths (x : XS) (b : Nat)  (Q : Int32 → Prop) : Prop :=
 (∃ (I4 : Int32 → Int32 → Prop) (U4 : Int32 → Int32 → Nat), I4 0 0 ∧ ∀ (y1 : Int32) (y2 : Int32), I4 y1 y2 →
 (((x.1 b 6) ≤ y2 →
 Q y1) ∧ (¬ (x.1 b 6) ≤ y2 →
 wp_X2_oathAt x b y2 (fun r3 : Int32 =>
 (I4 (y1 ||| (1 <<< (r3 &&& 31))) (y2 + 1) ∧ U4 (y1 ||| (1 <<< (r3 &&& 31))) (y2 + 1) < U4 y1 y2)))))
set_option maxHeartbeats 4000000 in
set_option maxRecDepth 100000 in
theorem t_X2_oaths {l : Launch} {D : va_G} {cs : Nat → ClassId} {ad : Nat → Nat} (x : XS) (b : Nat) (hb : xk b 2)  (Q : Int32 → Prop) (h : wp_X2_oaths x b  Q) : zMR l yX2_oaths wsX2_oaths ({ frames := 2, cells := 0, slots := 0, locals := 42 } : Room) (gK D cs) (XH D cs ad) x [.ref (ad b)] Q := by
  refine zMR_of (cc := cX2_oaths) (nL := 3) (ret := (some .int)) (by decide +kernel) rfl (Nat.le_of_ble_eq_true rfl) (fun C hl O hE hK hH => ?_)
  subst hl
  have hX : ∀ (x : XS) (H : Heap), z0 (XH D cs ad) C.s.heap x H → va_P D vwCl (wl 161 ad (XE cs ad x)) H := fun _ _ h => h.2
  have i2 : ∀ w ∈ wsX20, w ∈ wsX2_oaths := by decide +kernel
  refine z_sub (lv' := [(0, .ref (ad b))]) [0] rfl ?_
  refine z_iconst (v := 0) O dX2_oaths_0 rfl ?_
  refine z_istore_n (lv' := [(1, .int 0), (0, .ref (ad b))]) O dX2_oaths_1 (by decide) rfl ?_
  refine z_iconst (v := 0) O dX2_oaths_2 rfl ?_
  refine z_istore_n (lv' := [(2, .int 0), (1, .int 0), (0, .ref (ad b))]) O dX2_oaths_3 (by decide) rfl ?_
  obtain ⟨I4, U4, h0, hs⟩ := h
  have kI4 : ∀ (n : Nat) (y1 : Int32) (y2 : Int32), U4 y1 y2 < n → I4 y1 y2 → Z C (fun _ => False) (z0 (XH D cs ad) C.s.heap) 3 x [(0, .ref (ad b)), (1, .int y1), (2, .int y2)] 0 0 4 [] := by
    intro n
    induction n with
    | zero => intro y1 y2 uI4; exact absurd uI4 (Nat.not_lt_zero _)
    | succ n iI4 =>
      intro y1 y2 uI4 h
      have h := hs y1 y2 h
      refine z_iload_n O dX2_oaths_4 2 rfl ?_
      refine z_aload_n O dX2_oaths_5 0 rfl ?_
      refine z_getf O hK.1 (hX _) (hb).1 (xe_2 hb) rfl i2 6 (by decide) (by decide +kernel) rfl dX2_oaths_6 ?_
      refine z_icmp_ge O 28 dX2_oaths_9 (by decide) (fun c4 => ?_) (fun c4 => ?_)
      · replace h := h.1 c4
        refine z_iload_n O dX2_oaths_28 1 rfl ?_
        exact z_retR O hE (fun _ h => h.1) rfl dX2_oaths_29 h
      · replace h := h.2 c4
        refine z_iload_n O dX2_oaths_12 1 rfl ?_
        refine z_iconst (v := 1) O dX2_oaths_13 rfl ?_
        refine z_aload_n O dX2_oaths_14 0 rfl ?_
        refine z_iload_n O dX2_oaths_15 2 rfl ?_
        refine z_callR (gKs D cs) hK (fun _ h => h.2) (t_X2_oathAt x b hb y2 _ h) (zr_V (As := [.int y2]) (rest := [.int 1, .int y1]) O hE.1 1 gX2_oaths_X2_oathAt rfl rfl rfl (by decide +kernel) ⟨(Nat.le_of_ble_eq_true rfl), (Nat.le_of_ble_eq_true rfl)⟩ ⟨(Nat.le_of_ble_eq_true rfl), (Nat.le_of_ble_eq_true rfl)⟩ (fun H hH => z_recv hK.1 (hX _ H hH) (hb).1 (xe_2 hb) rfl) rfl rfl (Nat.le_of_ble_eq_true rfl) dX2_oaths_16) (fun r3 h => ?_)
        refine z_ishl O dX2_oaths_19 ?_
        refine z_ior O dX2_oaths_20 ?_
        refine z_istore_n (lv' := [(1, .int (y1 ||| (1 <<< (r3 &&& 31)))), (0, .ref (ad b)), (2, .int y2)]) O dX2_oaths_21 (by decide) rfl ?_
        refine z_iinc (lv' := [(2, .int (y2 + 1)), (1, .int (y1 ||| (1 <<< (r3 &&& 31)))), (0, .ref (ad b))]) O dX2_oaths_22 2 rfl rfl (by decide) rfl ?_
        refine z_goto O 4 dX2_oaths_25 (by decide) ?_
        exact z_sub [2, 1, 0] rfl (iI4 (y1 ||| (1 <<< (r3 &&& 31))) (y2 + 1) (Nat.lt_of_lt_of_le h.2 (Nat.le_of_lt_succ uI4)) h.1)
  exact z_sub [2, 1, 0] rfl (kI4 _ 0 0 (Nat.lt_succ_self _) h0)
def wp_X2_tellAhead (x : XS) (b : Nat) (q1 : Nat)  (Q : XS → Prop) : Prop :=
 (∃ (I4 : Int32 → Int32 → XS → Prop) (U4 : Int32 → Int32 → XS → Nat), I4 0 0 x ∧ ∀ (y1 : Int32) (y2 : Int32) (x3 : XS), I4 y1 y2 x3 →
 (((x3.1 b 6) ≤ y2 →
 Q x3) ∧ (¬ (x3.1 b 6) ≤ y2 →
 wp_X2_oathAt x3 b y2 (fun r4 : Int32 =>
 wp_X11_within r4 0 ((Int32.ofNat (xlen q1)) - 1) (fun r5 : Int32 =>
 ((r5 = 0 →
 (I4 (y1 ||| (1 <<< (r4 &&& 31))) (y2 + 1) x3 ∧ U4 (y1 ||| (1 <<< (r4 &&& 31))) (y2 + 1) x3 < U4 y1 y2 x3)) ∧ (¬ r5 = 0 →
 (vp_in r4 (xlen q1) ∧
 (vp_in r4 (xlen q1) ∧
 ∀ x6 : XS, x6 = xA x3 q1 (upd (x3.2.1 q1) (Int32.toNatClampNeg r4) ((x3.2.1 q1 (Int32.toNatClampNeg r4)) ||| (y1 &&& ((1 <<< (r4 &&& 31)) ^^^ (-1))))) →
 (I4 (y1 ||| (1 <<< (r4 &&& 31))) (y2 + 1) x6 ∧ U4 (y1 ||| (1 <<< (r4 &&& 31))) (y2 + 1) x6 < U4 y1 y2 x3))))))))))
set_option maxHeartbeats 4000000 in
set_option maxRecDepth 100000 in
theorem t_X2_tellAhead {l : Launch} {D : va_G} {cs : Nat → ClassId} {ad : Nat → Nat} (hI : wInj 161 ad) (x : XS) (b : Nat) (hb : xk b 2) (q1 : Nat) (hq1 : xk q1 20)  (Q : XS → Prop) (h : wp_X2_tellAhead x b q1  Q) : zWV l yX2_tellAhead wsX2_tellAhead ({ frames := 2, cells := 0, slots := 0, locals := 42 } : Room) (gK D cs) (XH D cs ad) (wB 161 ad) x [.ref (ad b), .ref (ad q1)] 0 0 Q := by
  refine zWV_of (cc := cX2_tellAhead) (nL := 5) (ret := none) (by decide +kernel) rfl (Nat.le_of_ble_eq_true rfl) (fun C hl O hE hK => ?_)
  subst hl
  have hX : ∀ (x : XS) (H : Heap), XH D cs ad x H → va_P D vwCl (wl 161 ad (XE cs ad x)) H := fun _ _ h => h
  have hB : ∀ {x : XS} (H : Heap), va_P D vwCl (wl 161 ad (XE cs ad x)) H → XH D cs ad x H := fun _ h => h
  have hA : ∀ q, wB 161 ad q → zA (wB 161 ad) C.s.heap.size q := fun _ h => Or.inl h
  have i2 : ∀ w ∈ wsX20, w ∈ wsX2_tellAhead := by decide +kernel
  refine z_sub (lv' := [(0, .ref (ad b)), (1, .ref (ad q1))]) [0, 1] rfl ?_
  refine z_iconst (v := 0) O dX2_tellAhead_0 rfl ?_
  refine z_istore_n (lv' := [(2, .int 0), (0, .ref (ad b)), (1, .ref (ad q1))]) O dX2_tellAhead_1 (by decide) rfl ?_
  refine z_iconst (v := 0) O dX2_tellAhead_2 rfl ?_
  refine z_istore_n (lv' := [(3, .int 0), (2, .int 0), (0, .ref (ad b)), (1, .ref (ad q1))]) O dX2_tellAhead_3 (by decide) rfl ?_
  obtain ⟨I4, U4, h0, hs⟩ := h
  have kI4 : ∀ (n : Nat) (y1 : Int32) (y2 : Int32) (x3 : XS), U4 y1 y2 x3 < n → I4 y1 y2 x3 → Z C (zA (wB 161 ad) C.s.heap.size) (XH D cs ad) 5 x3 [(0, .ref (ad b)), (1, .ref (ad q1)), (2, .int y1), (3, .int y2)] 0 0 4 [] := by
    intro n
    induction n with
    | zero => intro y1 y2 x3 uI4; exact absurd uI4 (Nat.not_lt_zero _)
    | succ n iI4 =>
      intro y1 y2 x3 uI4 h
      have h := hs y1 y2 x3 h
      refine z_iload_n O dX2_tellAhead_4 3 rfl ?_
      refine z_aload_n O dX2_tellAhead_5 0 rfl ?_
      refine z_getf O hK.1 (hX _) (hb).1 (xe_2 hb) rfl i2 6 (by decide) (by decide +kernel) rfl dX2_tellAhead_6 ?_
      refine z_icmp_ge O 60 dX2_tellAhead_9 (by decide) (fun c8 => ?_) (fun c8 => ?_)
      · replace h := h.1 c8
        exact z_retWV O hE (Nat.le_of_ble_eq_true rfl) (Nat.le_of_ble_eq_true rfl) dX2_tellAhead_60 h
      · replace h := h.2 c8
        refine z_aload_n O dX2_tellAhead_12 0 rfl ?_
        refine z_iload_n O dX2_tellAhead_13 3 rfl ?_
        refine z_callR (gKs D cs) hK (fun _ h => h) (t_X2_oathAt x3 b hb y2 _ h) (zr_V (As := [.int y2]) (rest := []) O hE.1 1 gX2_tellAhead_X2_oathAt rfl rfl rfl (by decide +kernel) ⟨(Nat.le_of_ble_eq_true rfl), (Nat.le_of_ble_eq_true rfl)⟩ ⟨(Nat.le_of_ble_eq_true rfl), (Nat.le_of_ble_eq_true rfl)⟩ (fun H hH => z_recv hK.1 (hX _ H hH) (hb).1 (xe_2 hb) rfl) rfl rfl (Nat.le_of_ble_eq_true rfl) dX2_tellAhead_14) (fun r4 h => ?_)
        refine z_istore (lv' := [(4, .int r4), (0, .ref (ad b)), (1, .ref (ad q1)), (2, .int y1), (3, .int y2)]) O dX2_tellAhead_17 (by decide) rfl ?_
        refine z_iload O dX2_tellAhead_19 0 rfl ?_
        refine z_iconst (v := 0) O dX2_tellAhead_21 rfl ?_
        refine z_aload_n O dX2_tellAhead_22 2 rfl ?_
        refine z_alen (v := Int32.ofNat (xlen q1)) O hK.1 (hX _) 0 (hq1).1 (xe_20 hq1) rfl (show Int32.ofNat (xlen q1) = Int32.ofNat (xlen q1) from rfl) dX2_tellAhead_23 ?_
        refine z_iconst (v := 1) O dX2_tellAhead_24 rfl ?_
        refine z_isub O dX2_tellAhead_25 ?_
        refine z_callR (gKs D cs) hK (fun _ h => h) (t_X11_within (gKs D cs) r4 0 ((Int32.ofNat (xlen q1)) - 1) _ h) (zr_SN (As := [.int r4, .int 0, .int ((Int32.ofNat (xlen q1)) - 1)]) (rest := []) O hE.1 3 gX2_tellAhead_X11_within_n84 rfl rfl rfl (hK.2.2 _ (List.mem_of_getElem? (i := 21) rfl)) (by decide +kernel) (by decide +kernel) (by decide +kernel) ⟨(Nat.le_of_ble_eq_true rfl), (Nat.le_of_ble_eq_true rfl)⟩ ⟨(Nat.le_of_ble_eq_true rfl), (Nat.le_of_ble_eq_true rfl)⟩ rfl rfl (Nat.le_of_ble_eq_true rfl) dX2_tellAhead_26) (fun r5 h => ?_)
        refine z_if_eq O 47 dX2_tellAhead_29 (by decide) (fun c7 => ?_) (fun c7 => ?_)
        · replace h := h.1 c7
          refine z_iload_n O dX2_tellAhead_47 3 rfl ?_
          refine z_iconst (v := 1) O dX2_tellAhead_48 rfl ?_
          refine z_iload O dX2_tellAhead_49 0 rfl ?_
          refine z_ishl O dX2_tellAhead_51 ?_
          refine z_ior O dX2_tellAhead_52 ?_
          refine z_istore_n (lv' := [(2, .int (y1 ||| (1 <<< (r4 &&& 31)))), (4, .int r4), (0, .ref (ad b)), (1, .ref (ad q1)), (3, .int y2)]) O dX2_tellAhead_53 (by decide) rfl ?_
          refine z_iinc (lv' := [(3, .int (y2 + 1)), (2, .int (y1 ||| (1 <<< (r4 &&& 31)))), (4, .int r4), (0, .ref (ad b)), (1, .ref (ad q1))]) O dX2_tellAhead_54 4 rfl rfl (by decide) rfl ?_
          refine z_goto O 4 dX2_tellAhead_57 (by decide) ?_
          exact z_sub [3, 4, 1, 0] rfl (iI4 (y1 ||| (1 <<< (r4 &&& 31))) (y2 + 1) x3 (Nat.lt_of_lt_of_le h.2 (Nat.le_of_lt_succ uI4)) h.1)
        · replace h := h.2 c7
          refine z_aload_n O dX2_tellAhead_32 2 rfl ?_
          refine z_iload O dX2_tellAhead_33 0 rfl ?_
          refine z_dup2 O dX2_tellAhead_35 rfl rfl ?_
          refine z_iald O hK.1 (hX _) 0 (hq1).1 (xe_20 hq1) rfl h.1 dX2_tellAhead_36 ?_
          replace h := h.2
          refine z_iload_n O dX2_tellAhead_37 3 rfl ?_
          refine z_iconst (v := 1) O dX2_tellAhead_38 rfl ?_
          refine z_iload O dX2_tellAhead_39 0 rfl ?_
          refine z_ishl O dX2_tellAhead_41 ?_
          refine z_iconst (v := -1) O dX2_tellAhead_42 rfl ?_
          refine z_ixor O dX2_tellAhead_43 ?_
          refine z_iand O dX2_tellAhead_44 ?_
          refine z_ior O dX2_tellAhead_45 ?_
          have hb0 := h.1
          replace h := h.2
          obtain ⟨x6, ex6⟩ : ∃ z, z = xA x3 q1 (upd (x3.2.1 q1) (Int32.toNatClampNeg r4) ((x3.2.1 q1 (Int32.toNatClampNeg r4)) ||| (y1 &&& ((1 <<< (r4 &&& 31)) ^^^ (-1))))) := ⟨_, rfl⟩
          replace h := h x6 ex6
          refine z_iast (x' := x6) O hK.1 (hX _) hB hI hA 0 (hq1).1 (xe_20 hq1) rfl hb0 (by rw [ex6]; exact xe_setA hq1 _) dX2_tellAhead_46 ?_
          refine z_iload_n O dX2_tellAhead_47 3 rfl ?_
          refine z_iconst (v := 1) O dX2_tellAhead_48 rfl ?_
          refine z_iload O dX2_tellAhead_49 0 rfl ?_
          refine z_ishl O dX2_tellAhead_51 ?_
          refine z_ior O dX2_tellAhead_52 ?_
          refine z_istore_n (lv' := [(2, .int (y1 ||| (1 <<< (r4 &&& 31)))), (4, .int r4), (0, .ref (ad b)), (1, .ref (ad q1)), (3, .int y2)]) O dX2_tellAhead_53 (by decide) rfl ?_
          refine z_iinc (lv' := [(3, .int (y2 + 1)), (2, .int (y1 ||| (1 <<< (r4 &&& 31)))), (4, .int r4), (0, .ref (ad b)), (1, .ref (ad q1))]) O dX2_tellAhead_54 4 rfl rfl (by decide) rfl ?_
          refine z_goto O 4 dX2_tellAhead_57 (by decide) ?_
          exact z_sub [3, 4, 1, 0] rfl (iI4 (y1 ||| (1 <<< (r4 &&& 31))) (y2 + 1) x6 (Nat.lt_of_lt_of_le h.2 (Nat.le_of_lt_succ uI4)) h.1)
  exact z_sub [2, 3, 1, 0] rfl (kI4 _ 0 0 x (Nat.lt_succ_self _) h0)
