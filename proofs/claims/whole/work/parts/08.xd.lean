def wp_X11_shelfAt (x : XS)  (p1 : Int32) (Q : Option Nat → Prop) : Prop :=
 wp_X11_within p1 0 7 (fun r1 : Int32 =>
 ((r1 = 0 →
 Q none) ∧ (¬ r1 = 0 →
 (vp_in p1 8 ∧ ∀ o2 : Nat, o2 = 11 + 2 * (Int32.toNatClampNeg p1) →
 Q (some o2)))))
set_option maxHeartbeats 4000000 in
set_option maxRecDepth 100000 in
theorem t_X11_shelfAt {l : Launch} {D : va_G} {cs : Nat → ClassId} {ad : Nat → Nat} (x : XS)  (p1 : Int32) (Q : Option Nat → Prop) (h : wp_X11_shelfAt x  p1 Q) : zME l yX11_shelfAt wsX11_shelfAt ({ frames := 1, cells := 0, slots := 0, locals := 22 } : Room) (gK D cs) (XH D cs ad) ad x [.ref (ad 0), .int p1] Q := by
  refine zME_of (cc := cX11_shelfAt) (nL := 2) (ret := (some (.object "SaidInWinter$Shelf"))) (by decide +kernel) rfl (Nat.le_of_ble_eq_true rfl) (fun C hl O hE hK hH => ?_)
  subst hl
  have hX : ∀ (x : XS) (H : Heap), z0 (XH D cs ad) C.s.heap x H → va_P D vwCl (wl 161 ad (XE cs ad x)) H := fun _ _ h => h.2
  have i11 : ∀ w ∈ wsX110, w ∈ wsX11_shelfAt := by decide +kernel
  refine z_sub (lv' := [(0, .ref (ad 0)), (1, .int p1)]) [0, 1] rfl ?_
  refine z_iload_n O dX11_shelfAt_0 1 rfl ?_
  refine z_iconst (v := 0) O dX11_shelfAt_1 rfl ?_
  refine z_bipush (v := 7) O dX11_shelfAt_2 rfl ?_
  refine z_callR (gKs D cs) hK (fun _ h => h.2) (t_X11_within (gKs D cs) p1 0 7 _ h) (zr_SS (As := [.int p1, .int 0, .int 7]) (rest := []) O hE.1 3 gX11_shelfAt_X11_within rfl rfl rfl (by decide +kernel) ⟨(Nat.le_of_ble_eq_true rfl), (Nat.le_of_ble_eq_true rfl)⟩ ⟨(Nat.le_of_ble_eq_true rfl), (Nat.le_of_ble_eq_true rfl)⟩ rfl rfl (Nat.le_of_ble_eq_true rfl) dX11_shelfAt_4) (fun r1 h => ?_)
  refine z_if_eq O 19 dX11_shelfAt_7 (by decide) (fun c3 => ?_) (fun c3 => ?_)
  · replace h := h.1 c3
    refine z_null O dX11_shelfAt_19 ?_
    exact z_retE (r := none) O hE (fun _ h => h.1) (Or.inl ⟨_, rfl⟩) rfl dX11_shelfAt_20 h
  · replace h := h.2 c3
    refine z_aload_n O dX11_shelfAt_10 0 rfl ?_
    refine z_getf O hK.1 (hX _) (by decide) xe_11 rfl i11 4 (by decide) (by decide +kernel) rfl dX11_shelfAt_11 ?_
    refine z_iload_n O dX11_shelfAt_14 1 rfl ?_
    have hb0 := h.1
    obtain ⟨o2, eo2⟩ : ∃ z, z = 11 + 2 * (Int32.toNatClampNeg p1) := ⟨_, rfl⟩
    have ho2 : xk o2 9 := by rw [eo2]; exact xk_sh0 _ (xk_in hb0)
    replace h := h.2 o2 eo2
    refine z_aald (v := .ref (ad o2)) O hK.1 (hX _) 3 (by decide) xe_23 rfl hb0 (by rw [eo2]; rfl) dX11_shelfAt_15 ?_
    refine z_goto O 20 dX11_shelfAt_16 (by decide) ?_
    exact z_retE (r := (some o2)) O hE (fun _ h => h.1) (Or.inl ⟨_, rfl⟩) rfl dX11_shelfAt_20 h
def wp_X11_firstBadByte (x : XS) (q0 : Nat)  (Q : Int32 → Prop) : Prop :=
 (∃ (I2 : Int32 → Prop) (U2 : Int32 → Nat), I2 0 ∧ ∀ (y1 : Int32), I2 y1 →
 wp_X9_valueAt x q0 y1 (fun r2 : Int32 =>
 wp_X11_statementLength r2 (fun r3 : Int32 =>
 ((¬ r3 = 0 →
 (∃ (I21 : Int32 → Prop) (U21 : Int32 → Nat), I21 (y1 + 1) ∧ ∀ (y4 : Int32), I21 y4 →
 (((y1 + r3) ≤ y4 →
 (((y1 + r3) < (x.1 q0 5) →
 (I2 (y1 + r3) ∧ U2 (y1 + r3) < U2 y1)) ∧ (¬ (y1 + r3) < (x.1 q0 5) →
 Q (-1)))) ∧ (¬ (y1 + r3) ≤ y4 →
 ((¬ y4 = ((y1 + r3) - 1) →
 wp_X9_digitAt x q0 y4 (fun r6 : Int32 =>
 ((0 ≤ r6 →
 (I21 (y4 + 1) ∧ U21 (y4 + 1) < U21 y4)) ∧ (¬ 0 ≤ r6 →
 Q y4)))) ∧ (y4 = ((y1 + r3) - 1) →
 wp_X9_valueAt x q0 y4 (fun r8 : Int32 =>
 ((r8 = 59 →
 (I21 (y4 + 1) ∧ U21 (y4 + 1) < U21 y4)) ∧ (¬ r8 = 59 →
 Q y4))))))))) ∧ (r3 = 0 →
 Q y1)))))
set_option maxHeartbeats 4000000 in
set_option maxRecDepth 100000 in
theorem t_X11_firstBadByte {l : Launch} {D : va_G} {cs : Nat → ClassId} {ad : Nat → Nat} (x : XS) (q0 : Nat) (hq0 : xk q0 9)  (Q : Int32 → Prop) (h : wp_X11_firstBadByte x q0  Q) : zMR l yX11_firstBadByte wsX11_firstBadByte ({ frames := 3, cells := 0, slots := 0, locals := 64 } : Room) (gK D cs) (XH D cs ad) x [.ref (ad q0)] Q := by
  refine zMR_of (cc := cX11_firstBadByte) (nL := 5) (ret := (some .int)) (by decide +kernel) rfl (Nat.le_of_ble_eq_true rfl) (fun C hl O hE hK hH => ?_)
  subst hl
  have hX : ∀ (x : XS) (H : Heap), z0 (XH D cs ad) C.s.heap x H → va_P D vwCl (wl 161 ad (XE cs ad x)) H := fun _ _ h => h.2
  have i9 : ∀ w ∈ wsX90, w ∈ wsX11_firstBadByte := by decide +kernel
  refine z_sub (lv' := [(0, .ref (ad q0))]) [0] rfl ?_
  refine z_iconst (v := 0) O dX11_firstBadByte_0 rfl ?_
  refine z_istore_n (lv' := [(1, .int 0), (0, .ref (ad q0))]) O dX11_firstBadByte_1 (by decide) rfl ?_
  obtain ⟨I2, U2, h0, hs⟩ := h
  have kI2 : ∀ (n : Nat) (y1 : Int32), U2 y1 < n → I2 y1 → Z C (fun _ => False) (z0 (XH D cs ad) C.s.heap) 5 x [(0, .ref (ad q0)), (1, .int y1)] 0 0 2 [] := by
    intro n
    induction n with
    | zero => intro y1 uI2; exact absurd uI2 (Nat.not_lt_zero _)
    | succ n iI2 =>
      intro y1 uI2 h
      have h := hs y1 h
      refine z_aload_n O dX11_firstBadByte_2 0 rfl ?_
      refine z_iload_n O dX11_firstBadByte_3 1 rfl ?_
      refine z_callR (gKs D cs) hK (fun _ h => h.2) (t_X9_valueAt x q0 hq0 y1 _ h) (zr_V (As := [.int y1]) (rest := []) O hE.1 1 gX11_firstBadByte_X9_valueAt rfl rfl rfl (by decide +kernel) ⟨(Nat.le_of_ble_eq_true rfl), (Nat.le_of_ble_eq_true rfl)⟩ ⟨(Nat.le_of_ble_eq_true rfl), (Nat.le_of_ble_eq_true rfl)⟩ (fun H hH => z_recv hK.1 (hX _ H hH) (hq0).1 (xe_9 hq0) rfl) rfl rfl (Nat.le_of_ble_eq_true rfl) dX11_firstBadByte_4) (fun r2 h => ?_)
      refine z_callR (gKs D cs) hK (fun _ h => h.2) (t_X11_statementLength (gKs D cs) r2 _ h) (zr_SS (As := [.int r2]) (rest := []) O hE.1 1 gX11_firstBadByte_X11_statementLength rfl rfl rfl (by decide +kernel) ⟨(Nat.le_of_ble_eq_true rfl), (Nat.le_of_ble_eq_true rfl)⟩ ⟨(Nat.le_of_ble_eq_true rfl), (Nat.le_of_ble_eq_true rfl)⟩ rfl rfl (Nat.le_of_ble_eq_true rfl) dX11_firstBadByte_7) (fun r3 h => ?_)
      refine z_istore_n (lv' := [(2, .int r3), (0, .ref (ad q0)), (1, .int y1)]) O dX11_firstBadByte_10 (by decide) rfl ?_
      refine z_iload_n O dX11_firstBadByte_11 0 rfl ?_
      refine z_if_ne O 17 dX11_firstBadByte_12 (by decide) (fun c12 => ?_) (fun c12 => ?_)
      · replace h := h.1 c12
        refine z_iload_n O dX11_firstBadByte_17 2 rfl ?_
        refine z_iconst (v := 1) O dX11_firstBadByte_18 rfl ?_
        refine z_iadd O dX11_firstBadByte_19 ?_
        refine z_istore_n (lv' := [(3, .int (y1 + 1)), (2, .int r3), (0, .ref (ad q0)), (1, .int y1)]) O dX11_firstBadByte_20 (by decide) rfl ?_
        obtain ⟨I21, U21, h0, hs⟩ := h
        have kI21 : ∀ (n : Nat) (y4 : Int32), U21 y4 < n → I21 y4 → Z C (fun _ => False) (z0 (XH D cs ad) C.s.heap) 5 x [(0, .ref (ad q0)), (1, .int y1), (2, .int r3), (3, .int y4)] 0 0 21 [] := by
          intro n
          induction n with
          | zero => intro y4 uI21; exact absurd uI21 (Nat.not_lt_zero _)
          | succ n iI21 =>
            intro y4 uI21 h
            have h := hs y4 h
            refine z_iload_n O dX11_firstBadByte_21 3 rfl ?_
            refine z_iload_n O dX11_firstBadByte_22 1 rfl ?_
            refine z_iload_n O dX11_firstBadByte_23 2 rfl ?_
            refine z_iadd O dX11_firstBadByte_24 ?_
            refine z_icmp_ge O 78 dX11_firstBadByte_25 (by decide) (fun c11 => ?_) (fun c11 => ?_)
            · replace h := h.1 c11
              refine z_iload_n O dX11_firstBadByte_78 1 rfl ?_
              refine z_iload_n O dX11_firstBadByte_79 2 rfl ?_
              refine z_iadd O dX11_firstBadByte_80 ?_
              refine z_istore_n (lv' := [(1, .int (y1 + r3)), (0, .ref (ad q0)), (2, .int r3), (3, .int y4)]) O dX11_firstBadByte_81 (by decide) rfl ?_
              refine z_iload_n O dX11_firstBadByte_82 0 rfl ?_
              refine z_aload_n O dX11_firstBadByte_83 1 rfl ?_
              refine z_getfN O hK.1 (hX _) (hq0).1 (xe_9 hq0) rfl i9 5 (by decide) (hK.2.1 _ (List.mem_of_getElem? (i := 8) rfl)) rfl dX11_firstBadByte_84 ?_
              refine z_icmp_lt O 2 dX11_firstBadByte_87 (by decide) (fun c5 => ?_) (fun c5 => ?_)
              · replace h := h.1 c5
                exact z_sub [1, 0] rfl (iI2 (y1 + r3) (Nat.lt_of_lt_of_le h.2 (Nat.le_of_lt_succ uI2)) h.1)
              · replace h := h.2 c5
                refine z_iconst (v := -1) O dX11_firstBadByte_90 rfl ?_
                exact z_retR O hE (fun _ h => h.1) rfl dX11_firstBadByte_91 h
            · replace h := h.2 c11
              refine z_iload_n O dX11_firstBadByte_28 3 rfl ?_
              refine z_iload_n O dX11_firstBadByte_29 1 rfl ?_
              refine z_iload_n O dX11_firstBadByte_30 2 rfl ?_
              refine z_iadd O dX11_firstBadByte_31 ?_
              refine z_iconst (v := 1) O dX11_firstBadByte_32 rfl ?_
              refine z_isub O dX11_firstBadByte_33 ?_
              refine z_icmp_ne O 41 dX11_firstBadByte_34 (by decide) (fun c10 => ?_) (fun c10 => ?_)
              · replace h := h.1 c10
                refine z_iconst (v := 0) O dX11_firstBadByte_41 rfl ?_
                refine z_istore (lv' := [(4, .int 0), (0, .ref (ad q0)), (1, .int y1), (2, .int r3), (3, .int y4)]) O dX11_firstBadByte_42 (by decide) rfl ?_
                refine z_iload O dX11_firstBadByte_44 0 rfl ?_
                refine z_if_eq O 62 dX11_firstBadByte_46 (by decide) (fun _ => ?_) (fun c => absurd c (by decide))
                refine z_aload_n O dX11_firstBadByte_62 1 rfl ?_
                refine z_iload_n O dX11_firstBadByte_63 4 rfl ?_
                refine z_callR (gKs D cs) hK (fun _ h => h.2) (t_X9_digitAt x q0 hq0 y4 _ h) (zr_V (As := [.int y4]) (rest := []) O hE.1 1 gX11_firstBadByte_X9_digitAt rfl rfl rfl (by decide +kernel) ⟨(Nat.le_of_ble_eq_true rfl), (Nat.le_of_ble_eq_true rfl)⟩ ⟨(Nat.le_of_ble_eq_true rfl), (Nat.le_of_ble_eq_true rfl)⟩ (fun H hH => z_recv hK.1 (hX _ H hH) (hq0).1 (xe_9 hq0) rfl) rfl rfl (Nat.le_of_ble_eq_true rfl) dX11_firstBadByte_64) (fun r6 h => ?_)
                refine z_if_ge O 72 dX11_firstBadByte_67 (by decide) (fun c7 => ?_) (fun c7 => ?_)
                · replace h := h.1 c7
                  refine z_iinc (lv' := [(3, .int (y4 + 1)), (4, .int 0), (0, .ref (ad q0)), (1, .int y1), (2, .int r3)]) O dX11_firstBadByte_72 4 rfl rfl (by decide) rfl ?_
                  refine z_goto O 21 dX11_firstBadByte_75 (by decide) ?_
                  exact z_sub [2, 3, 4, 0] rfl (iI21 (y4 + 1) (Nat.lt_of_lt_of_le h.2 (Nat.le_of_lt_succ uI21)) h.1)
                · replace h := h.2 c7
                  refine z_iload_n O dX11_firstBadByte_70 4 rfl ?_
                  exact z_retR O hE (fun _ h => h.1) rfl dX11_firstBadByte_71 h
              · replace h := h.2 c10
                refine z_iconst (v := 1) O dX11_firstBadByte_37 rfl ?_
                refine z_goto O 42 dX11_firstBadByte_38 (by decide) ?_
                refine z_istore (lv' := [(4, .int 1), (0, .ref (ad q0)), (1, .int y1), (2, .int r3), (3, .int y4)]) O dX11_firstBadByte_42 (by decide) rfl ?_
                refine z_iload O dX11_firstBadByte_44 0 rfl ?_
                refine z_if_eq O 62 dX11_firstBadByte_46 (by decide) (fun c => absurd c (by decide)) (fun _ => ?_)
                refine z_aload_n O dX11_firstBadByte_49 1 rfl ?_
                refine z_iload_n O dX11_firstBadByte_50 4 rfl ?_
                refine z_callR (gKs D cs) hK (fun _ h => h.2) (t_X9_valueAt x q0 hq0 y4 _ h) (zr_V (As := [.int y4]) (rest := []) O hE.1 1 gX11_firstBadByte_X9_valueAt rfl rfl rfl (by decide +kernel) ⟨(Nat.le_of_ble_eq_true rfl), (Nat.le_of_ble_eq_true rfl)⟩ ⟨(Nat.le_of_ble_eq_true rfl), (Nat.le_of_ble_eq_true rfl)⟩ (fun H hH => z_recv hK.1 (hX _ H hH) (hq0).1 (xe_9 hq0) rfl) rfl rfl (Nat.le_of_ble_eq_true rfl) dX11_firstBadByte_51) (fun r8 h => ?_)
                refine z_bipush (v := 59) O dX11_firstBadByte_54 rfl ?_
                refine z_icmp_eq O 72 dX11_firstBadByte_56 (by decide) (fun c9 => ?_) (fun c9 => ?_)
                · replace h := h.1 c9
                  refine z_iinc (lv' := [(3, .int (y4 + 1)), (4, .int 1), (0, .ref (ad q0)), (1, .int y1), (2, .int r3)]) O dX11_firstBadByte_72 4 rfl rfl (by decide) rfl ?_
                  refine z_goto O 21 dX11_firstBadByte_75 (by decide) ?_
                  exact z_sub [2, 3, 4, 0] rfl (iI21 (y4 + 1) (Nat.lt_of_lt_of_le h.2 (Nat.le_of_lt_succ uI21)) h.1)
                · replace h := h.2 c9
                  refine z_goto O 70 dX11_firstBadByte_59 (by decide) ?_
                  refine z_iload_n O dX11_firstBadByte_70 4 rfl ?_
                  exact z_retR O hE (fun _ h => h.1) rfl dX11_firstBadByte_71 h
        exact z_sub [2, 3, 1, 0] rfl (kI21 _ (y1 + 1) (Nat.lt_succ_self _) h0)
      · replace h := h.2 c12
        refine z_iload_n O dX11_firstBadByte_15 2 rfl ?_
        exact z_retR O hE (fun _ h => h.1) rfl dX11_firstBadByte_16 h
  exact z_sub [1, 0] rfl (kI2 _ 0 (Nat.lt_succ_self _) h0)
def wp_X11_doStatement (x : XS) (q1 : Nat) (p2 : Int32) (Q : Int32 → XS → Prop) : Prop :=
 wp_X9_digitAt x q1 (p2 + 1) (fun r1 : Int32 =>
 wp_X9_valueAt x q1 p2 (fun r2 : Int32 =>
 ((r2 = 99 →
 wp_X9_digitAt x q1 (p2 + 2) (fun r4 : Int32 =>
 wp_X9_digitAt x q1 (p2 + 3) (fun r5 : Int32 =>
 wp_X6_cutIn x 117 r1 ((10 * r4) + r5) (fun (r7 : Int32) (x6 : XS) =>
 Q r7 x6)))) ∧ (¬ r2 = 99 →
 ((r2 = 100 →
 wp_X6_driftOn x 117 (fun (r10 : Int32) (x9 : XS) =>
 Q r10 x9)) ∧ (¬ r2 = 100 →
 ((r2 = 110 →
 wp_X9_digitAt x q1 (p2 + 2) (fun r12 : Int32 =>
 wp_X9_digitAt x q1 (p2 + 3) (fun r13 : Int32 =>
 wp_X9_digitAt x q1 (p2 + 4) (fun r14 : Int32 =>
 wp_X6_freezeIn x 117 r1 r12 r13 r14 (fun (r16 : Int32) (x15 : XS) =>
 Q r16 x15))))) ∧ (¬ r2 = 110 →
 ((r2 = 116 →
 wp_X6_thawFor x 117 r1 (fun (r19 : Int32) (x18 : XS) =>
 Q r19 x18)) ∧ (¬ r2 = 116 →
 wp_X6_nextWinter x 117 (fun (r21 : Int32) (x20 : XS) =>
 Q r21 x20)))))))))))
set_option maxHeartbeats 4000000 in
set_option maxRecDepth 100000 in
theorem t_X11_doStatement {l : Launch} {D : va_G} {cs : Nat → ClassId} {ad : Nat → Nat} (hI : wInj 161 ad) (x : XS) (q1 : Nat) (hq1 : xk q1 9) (p2 : Int32) (Q : Int32 → XS → Prop) (h : wp_X11_doStatement x q1 p2 Q) : zWR l yX11_doStatement wsX11_doStatement ({ frames := 5, cells := 0, slots := 0, locals := 117 } : Room) (gK D cs) (XH D cs ad) (wB 161 ad) x [.ref (ad 0), .ref (ad q1), .int p2] 0 0 Q := by
  refine zWR_of (cc := cX11_doStatement) (nL := 4) (ret := (some .int)) (by decide +kernel) rfl (Nat.le_of_ble_eq_true rfl) (fun C hl O hE hK => ?_)
  subst hl
  have hX : ∀ (x : XS) (H : Heap), XH D cs ad x H → va_P D vwCl (wl 161 ad (XE cs ad x)) H := fun _ _ h => h
  have hB : ∀ {x : XS} (H : Heap), va_P D vwCl (wl 161 ad (XE cs ad x)) H → XH D cs ad x H := fun _ h => h
  have hA : ∀ q, wB 161 ad q → zA (wB 161 ad) C.s.heap.size q := fun _ h => Or.inl h
  have i11 : ∀ w ∈ wsX110, w ∈ wsX11_doStatement := by decide +kernel
  refine z_sub (lv' := [(0, .ref (ad 0)), (1, .ref (ad q1)), (2, .int p2)]) [0, 1, 2] rfl ?_
  refine z_aload_n O dX11_doStatement_0 1 rfl ?_
  refine z_iload_n O dX11_doStatement_1 2 rfl ?_
  refine z_iconst (v := 1) O dX11_doStatement_2 rfl ?_
  refine z_iadd O dX11_doStatement_3 ?_
  refine z_callR (gKs D cs) hK (fun _ h => h) (t_X9_digitAt x q1 hq1 (p2 + 1) _ h) (zr_V (As := [.int (p2 + 1)]) (rest := []) O hE.1 1 gX11_doStatement_X9_digitAt rfl rfl rfl (by decide +kernel) ⟨(Nat.le_of_ble_eq_true rfl), (Nat.le_of_ble_eq_true rfl)⟩ ⟨(Nat.le_of_ble_eq_true rfl), (Nat.le_of_ble_eq_true rfl)⟩ (fun H hH => z_recv hK.1 (hX _ H hH) (hq1).1 (xe_9 hq1) rfl) rfl rfl (Nat.le_of_ble_eq_true rfl) dX11_doStatement_4) (fun r1 h => ?_)
  refine z_istore_n (lv' := [(3, .int r1), (0, .ref (ad 0)), (1, .ref (ad q1)), (2, .int p2)]) O dX11_doStatement_7 (by decide) rfl ?_
  refine z_aload_n O dX11_doStatement_8 2 rfl ?_
  refine z_iload_n O dX11_doStatement_9 3 rfl ?_
  refine z_callR (gKs D cs) hK (fun _ h => h) (t_X9_valueAt x q1 hq1 p2 _ h) (zr_V (As := [.int p2]) (rest := []) O hE.1 1 gX11_doStatement_X9_valueAt rfl rfl rfl (by decide +kernel) ⟨(Nat.le_of_ble_eq_true rfl), (Nat.le_of_ble_eq_true rfl)⟩ ⟨(Nat.le_of_ble_eq_true rfl), (Nat.le_of_ble_eq_true rfl)⟩ (fun H hH => z_recv hK.1 (hX _ H hH) (hq1).1 (xe_9 hq1) rfl) rfl rfl (Nat.le_of_ble_eq_true rfl) dX11_doStatement_10) (fun r2 h => ?_)
  by_cases c3 : r2 = 99
  · replace h := h.1 c3
    refine z_lookup (off := 82) O 95 dX11_doStatement_13 (by decide) (by rw [c3]; try decide) (by decide) ?_
    refine z_aload_n O dX11_doStatement_95 1 rfl ?_
    refine z_getf O hK.1 (hX _) (by decide) xe_11 rfl i11 3 (by decide) (by decide +kernel) rfl dX11_doStatement_96 ?_
    refine z_iload_n O dX11_doStatement_99 0 rfl ?_
    refine z_bipush (v := 10) O dX11_doStatement_100 rfl ?_
    refine z_aload_n O dX11_doStatement_102 2 rfl ?_
    refine z_iload_n O dX11_doStatement_103 3 rfl ?_
    refine z_iconst (v := 2) O dX11_doStatement_104 rfl ?_
    refine z_iadd O dX11_doStatement_105 ?_
    refine z_callR (gKs D cs) hK (fun _ h => h) (t_X9_digitAt x q1 hq1 (p2 + 2) _ h) (zr_V (As := [.int (p2 + 2)]) (rest := [.int 10, .int r1, .ref (ad 117)]) O hE.1 1 gX11_doStatement_X9_digitAt rfl rfl rfl (by decide +kernel) ⟨(Nat.le_of_ble_eq_true rfl), (Nat.le_of_ble_eq_true rfl)⟩ ⟨(Nat.le_of_ble_eq_true rfl), (Nat.le_of_ble_eq_true rfl)⟩ (fun H hH => z_recv hK.1 (hX _ H hH) (hq1).1 (xe_9 hq1) rfl) rfl rfl (Nat.le_of_ble_eq_true rfl) dX11_doStatement_106) (fun r4 h => ?_)
    refine z_imul O dX11_doStatement_109 ?_
    refine z_aload_n O dX11_doStatement_110 2 rfl ?_
    refine z_iload_n O dX11_doStatement_111 3 rfl ?_
    refine z_iconst (v := 3) O dX11_doStatement_112 rfl ?_
    refine z_iadd O dX11_doStatement_113 ?_
    refine z_callR (gKs D cs) hK (fun _ h => h) (t_X9_digitAt x q1 hq1 (p2 + 3) _ h) (zr_V (As := [.int (p2 + 3)]) (rest := [.int (10 * r4), .int r1, .ref (ad 117)]) O hE.1 1 gX11_doStatement_X9_digitAt rfl rfl rfl (by decide +kernel) ⟨(Nat.le_of_ble_eq_true rfl), (Nat.le_of_ble_eq_true rfl)⟩ ⟨(Nat.le_of_ble_eq_true rfl), (Nat.le_of_ble_eq_true rfl)⟩ (fun H hH => z_recv hK.1 (hX _ H hH) (hq1).1 (xe_9 hq1) rfl) rfl rfl (Nat.le_of_ble_eq_true rfl) dX11_doStatement_114) (fun r5 h => ?_)
    refine z_iadd O dX11_doStatement_117 ?_
    refine z_cWR (gKs D cs) hK (fun _ h => h) (fun _ h => Or.inl h) (fun _ h => Or.inr h) (t_X6_cutIn hI x 117 xk_117 r1 ((10 * r4) + r5) _ h) (zr_V (As := [.int r1, .int ((10 * r4) + r5)]) (rest := []) O hE.1 2 gX11_doStatement_X6_cutIn rfl rfl rfl (by decide +kernel) ⟨(Nat.le_of_ble_eq_true rfl), (Nat.le_of_ble_eq_true rfl)⟩ ⟨(Nat.le_of_ble_eq_true rfl), (Nat.le_of_ble_eq_true rfl)⟩ (fun H hH => z_recv hK.1 (hX _ H hH) (xk_117).1 (xe_6 xk_117) rfl) rfl rfl (Nat.le_of_ble_eq_true rfl) dX11_doStatement_118) (fun r7 x6 h => ?_)
    exact z_retWR O hE (Nat.le_of_ble_eq_true rfl) (Nat.le_of_ble_eq_true rfl) rfl dX11_doStatement_121 h
  replace h := h.2 c3
  by_cases c8 : r2 = 100
  · replace h := h.1 c8
    refine z_lookup (off := 109) O 122 dX11_doStatement_13 (by decide) (by rw [c8]; try decide) (by decide) ?_
    refine z_aload_n O dX11_doStatement_122 1 rfl ?_
    refine z_getf O hK.1 (hX _) (by decide) xe_11 rfl i11 3 (by decide) (by decide +kernel) rfl dX11_doStatement_123 ?_
    refine z_cWR (gKs D cs) hK (fun _ h => h) (fun _ h => Or.inl h) (fun _ h => Or.inr h) (t_X6_driftOn hI x 117 xk_117  _ h) (zr_V (As := []) (rest := []) O hE.1 0 gX11_doStatement_X6_driftOn rfl rfl rfl (by decide +kernel) ⟨(Nat.le_of_ble_eq_true rfl), (Nat.le_of_ble_eq_true rfl)⟩ ⟨(Nat.le_of_ble_eq_true rfl), (Nat.le_of_ble_eq_true rfl)⟩ (fun H hH => z_recv hK.1 (hX _ H hH) (xk_117).1 (xe_6 xk_117) rfl) rfl rfl (Nat.le_of_ble_eq_true rfl) dX11_doStatement_126) (fun r10 x9 h => ?_)
    exact z_retWR O hE (Nat.le_of_ble_eq_true rfl) (Nat.le_of_ble_eq_true rfl) rfl dX11_doStatement_129 h
  replace h := h.2 c8
  by_cases c11 : r2 = 110
  · replace h := h.1 c11
    refine z_lookup (off := 43) O 56 dX11_doStatement_13 (by decide) (by rw [c11]; try decide) (by decide) ?_
    refine z_aload_n O dX11_doStatement_56 1 rfl ?_
    refine z_getf O hK.1 (hX _) (by decide) xe_11 rfl i11 3 (by decide) (by decide +kernel) rfl dX11_doStatement_57 ?_
    refine z_iload_n O dX11_doStatement_60 0 rfl ?_
    refine z_aload_n O dX11_doStatement_61 2 rfl ?_
    refine z_iload_n O dX11_doStatement_62 3 rfl ?_
    refine z_iconst (v := 2) O dX11_doStatement_63 rfl ?_
    refine z_iadd O dX11_doStatement_64 ?_
    refine z_callR (gKs D cs) hK (fun _ h => h) (t_X9_digitAt x q1 hq1 (p2 + 2) _ h) (zr_V (As := [.int (p2 + 2)]) (rest := [.int r1, .ref (ad 117)]) O hE.1 1 gX11_doStatement_X9_digitAt rfl rfl rfl (by decide +kernel) ⟨(Nat.le_of_ble_eq_true rfl), (Nat.le_of_ble_eq_true rfl)⟩ ⟨(Nat.le_of_ble_eq_true rfl), (Nat.le_of_ble_eq_true rfl)⟩ (fun H hH => z_recv hK.1 (hX _ H hH) (hq1).1 (xe_9 hq1) rfl) rfl rfl (Nat.le_of_ble_eq_true rfl) dX11_doStatement_65) (fun r12 h => ?_)
    refine z_aload_n O dX11_doStatement_68 2 rfl ?_
    refine z_iload_n O dX11_doStatement_69 3 rfl ?_
    refine z_iconst (v := 3) O dX11_doStatement_70 rfl ?_
    refine z_iadd O dX11_doStatement_71 ?_
    refine z_callR (gKs D cs) hK (fun _ h => h) (t_X9_digitAt x q1 hq1 (p2 + 3) _ h) (zr_V (As := [.int (p2 + 3)]) (rest := [.int r12, .int r1, .ref (ad 117)]) O hE.1 1 gX11_doStatement_X9_digitAt rfl rfl rfl (by decide +kernel) ⟨(Nat.le_of_ble_eq_true rfl), (Nat.le_of_ble_eq_true rfl)⟩ ⟨(Nat.le_of_ble_eq_true rfl), (Nat.le_of_ble_eq_true rfl)⟩ (fun H hH => z_recv hK.1 (hX _ H hH) (hq1).1 (xe_9 hq1) rfl) rfl rfl (Nat.le_of_ble_eq_true rfl) dX11_doStatement_72) (fun r13 h => ?_)
    refine z_aload_n O dX11_doStatement_75 2 rfl ?_
    refine z_iload_n O dX11_doStatement_76 3 rfl ?_
    refine z_iconst (v := 4) O dX11_doStatement_77 rfl ?_
    refine z_iadd O dX11_doStatement_78 ?_
    refine z_callR (gKs D cs) hK (fun _ h => h) (t_X9_digitAt x q1 hq1 (p2 + 4) _ h) (zr_V (As := [.int (p2 + 4)]) (rest := [.int r13, .int r12, .int r1, .ref (ad 117)]) O hE.1 1 gX11_doStatement_X9_digitAt rfl rfl rfl (by decide +kernel) ⟨(Nat.le_of_ble_eq_true rfl), (Nat.le_of_ble_eq_true rfl)⟩ ⟨(Nat.le_of_ble_eq_true rfl), (Nat.le_of_ble_eq_true rfl)⟩ (fun H hH => z_recv hK.1 (hX _ H hH) (hq1).1 (xe_9 hq1) rfl) rfl rfl (Nat.le_of_ble_eq_true rfl) dX11_doStatement_79) (fun r14 h => ?_)
    refine z_cWR (gKs D cs) hK (fun _ h => h) (fun _ h => Or.inl h) (fun _ h => Or.inr h) (t_X6_freezeIn hI x 117 xk_117 r1 r12 r13 r14 _ h) (zr_V (As := [.int r1, .int r12, .int r13, .int r14]) (rest := []) O hE.1 4 gX11_doStatement_X6_freezeIn rfl rfl rfl (by decide +kernel) ⟨(Nat.le_of_ble_eq_true rfl), (Nat.le_of_ble_eq_true rfl)⟩ ⟨(Nat.le_of_ble_eq_true rfl), (Nat.le_of_ble_eq_true rfl)⟩ (fun H hH => z_recv hK.1 (hX _ H hH) (xk_117).1 (xe_6 xk_117) rfl) rfl rfl (Nat.le_of_ble_eq_true rfl) dX11_doStatement_82) (fun r16 x15 h => ?_)
    exact z_retWR O hE (Nat.le_of_ble_eq_true rfl) (Nat.le_of_ble_eq_true rfl) rfl dX11_doStatement_85 h
  replace h := h.2 c11
  by_cases c17 : r2 = 116
  · replace h := h.1 c17
    refine z_lookup (off := 73) O 86 dX11_doStatement_13 (by decide) (by rw [c17]; try decide) (by decide) ?_
    refine z_aload_n O dX11_doStatement_86 1 rfl ?_
    refine z_getf O hK.1 (hX _) (by decide) xe_11 rfl i11 3 (by decide) (by decide +kernel) rfl dX11_doStatement_87 ?_
    refine z_iload_n O dX11_doStatement_90 0 rfl ?_
    refine z_cWR (gKs D cs) hK (fun _ h => h) (fun _ h => Or.inl h) (fun _ h => Or.inr h) (t_X6_thawFor hI x 117 xk_117 r1 _ h) (zr_V (As := [.int r1]) (rest := []) O hE.1 1 gX11_doStatement_X6_thawFor rfl rfl rfl (by decide +kernel) ⟨(Nat.le_of_ble_eq_true rfl), (Nat.le_of_ble_eq_true rfl)⟩ ⟨(Nat.le_of_ble_eq_true rfl), (Nat.le_of_ble_eq_true rfl)⟩ (fun H hH => z_recv hK.1 (hX _ H hH) (xk_117).1 (xe_6 xk_117) rfl) rfl rfl (Nat.le_of_ble_eq_true rfl) dX11_doStatement_91) (fun r19 x18 h => ?_)
    exact z_retWR O hE (Nat.le_of_ble_eq_true rfl) (Nat.le_of_ble_eq_true rfl) rfl dX11_doStatement_94 h
  replace h := h.2 c17
  refine z_lookup (off := 117) O 130 dX11_doStatement_13 (by decide) ((lv_osw c3 (by decide)).trans ((lv_osw c8 (by decide)).trans ((lv_osw c11 (by decide)).trans ((lv_osw c17 (by decide)).trans rfl)))) (by decide) ?_
  refine z_aload_n O dX11_doStatement_130 1 rfl ?_
  refine z_getf O hK.1 (hX _) (by decide) xe_11 rfl i11 3 (by decide) (by decide +kernel) rfl dX11_doStatement_131 ?_
  refine z_cWR (gKs D cs) hK (fun _ h => h) (fun _ h => Or.inl h) (fun _ h => Or.inr h) (t_X6_nextWinter hI x 117 xk_117  _ h) (zr_V (As := []) (rest := []) O hE.1 0 gX11_doStatement_X6_nextWinter rfl rfl rfl (by decide +kernel) ⟨(Nat.le_of_ble_eq_true rfl), (Nat.le_of_ble_eq_true rfl)⟩ ⟨(Nat.le_of_ble_eq_true rfl), (Nat.le_of_ble_eq_true rfl)⟩ (fun H hH => z_recv hK.1 (hX _ H hH) (xk_117).1 (xe_6 xk_117) rfl) rfl rfl (Nat.le_of_ble_eq_true rfl) dX11_doStatement_134) (fun r21 x20 h => ?_)
  exact z_retWR O hE (Nat.le_of_ble_eq_true rfl) (Nat.le_of_ble_eq_true rfl) rfl dX11_doStatement_137 h
def wp_X11_readStatements (x : XS) (q1 : Nat)  (Q : Int32 → XS → Prop) : Prop :=
 wp_X6_takeAll x 117 29 (fun (x1 : XS) =>
 (∃ (I18 : Int32 → Int32 → XS → Prop) (U18 : Int32 → Int32 → XS → Nat), I18 0 0 x1 ∧ ∀ (y2 : Int32) (y3 : Int32) (x4 : XS), I18 y2 y3 x4 →
 (((x4.1 q1 5) ≤ y3 →
 wp_X6_takeAll x4 29 117 (fun (x5 : XS) =>
 Q y2 x5)) ∧ (¬ (x4.1 q1 5) ≤ y3 →
 wp_X11_doStatement x4 q1 y3 (fun (r7 : Int32) (x6 : XS) =>
 ((0 ≤ r7 →
 wp_X9_valueAt x6 q1 y3 (fun r8 : Int32 =>
 wp_X11_statementLength r8 (fun r9 : Int32 =>
 (I18 (y2 + 1) (y3 + ((if (1 : Int32) < r9 then r9 else (1 : Int32)))) x6 ∧ U18 (y2 + 1) (y3 + ((if (1 : Int32) < r9 then r9 else (1 : Int32)))) x6 < U18 y2 y3 x4)))) ∧ (¬ 0 ≤ r7 →
 Q ((-2000) - y3) x6)))))))
set_option maxHeartbeats 4000000 in
set_option maxRecDepth 100000 in
theorem t_X11_readStatements {l : Launch} {D : va_G} {cs : Nat → ClassId} {ad : Nat → Nat} (hI : wInj 161 ad) (x : XS) (q1 : Nat) (hq1 : xk q1 9)  (Q : Int32 → XS → Prop) (h : wp_X11_readStatements x q1  Q) : zWR l yX11_readStatements wsX11_readStatements ({ frames := 6, cells := 0, slots := 0, locals := 140 } : Room) (gK D cs) (XH D cs ad) (wB 161 ad) x [.ref (ad 0), .ref (ad q1)] 0 0 Q := by
  refine zWR_of (cc := cX11_readStatements) (nL := 5) (ret := (some .int)) (by decide +kernel) rfl (Nat.le_of_ble_eq_true rfl) (fun C hl O hE hK => ?_)
  subst hl
  have hX : ∀ (x : XS) (H : Heap), XH D cs ad x H → va_P D vwCl (wl 161 ad (XE cs ad x)) H := fun _ _ h => h
  have hB : ∀ {x : XS} (H : Heap), va_P D vwCl (wl 161 ad (XE cs ad x)) H → XH D cs ad x H := fun _ h => h
  have hA : ∀ q, wB 161 ad q → zA (wB 161 ad) C.s.heap.size q := fun _ h => Or.inl h
  have i11 : ∀ w ∈ wsX110, w ∈ wsX11_readStatements := by decide +kernel
  have i9 : ∀ w ∈ wsX90, w ∈ wsX11_readStatements := by decide +kernel
  refine z_sub (lv' := [(0, .ref (ad 0)), (1, .ref (ad q1))]) [0, 1] rfl ?_
  refine z_aload_n O dX11_readStatements_0 0 rfl ?_
  refine z_getf O hK.1 (hX _) (by decide) xe_11 rfl i11 3 (by decide) (by decide +kernel) rfl dX11_readStatements_1 ?_
  refine z_aload_n O dX11_readStatements_4 0 rfl ?_
  refine z_getf O hK.1 (hX _) (by decide) xe_11 rfl i11 1 (by decide) (by decide +kernel) rfl dX11_readStatements_5 ?_
  refine z_cWV (gKs D cs) hK (fun _ h => h) (fun _ h => Or.inl h) (fun _ h => Or.inr h) (t_X6_takeAll hI x 117 xk_117 29 xk_29  _ h) (zr_V (As := [.ref (ad 29)]) (rest := []) O hE.1 1 gX11_readStatements_X6_takeAll rfl rfl rfl (by decide +kernel) ⟨(Nat.le_of_ble_eq_true rfl), (Nat.le_of_ble_eq_true rfl)⟩ ⟨(Nat.le_of_ble_eq_true rfl), (Nat.le_of_ble_eq_true rfl)⟩ (fun H hH => z_recv hK.1 (hX _ H hH) (xk_117).1 (xe_6 xk_117) rfl) rfl rfl (Nat.le_of_ble_eq_true rfl) dX11_readStatements_8) (fun x1 h => ?_)
  refine z_iconst (v := 0) O dX11_readStatements_11 rfl ?_
  refine z_istore_n (lv' := [(2, .int 0), (0, .ref (ad 0)), (1, .ref (ad q1))]) O dX11_readStatements_12 (by decide) rfl ?_
  refine z_iconst (v := 1) O dX11_readStatements_13 rfl ?_
  refine z_istore_n (lv' := [(3, .int 1), (2, .int 0), (0, .ref (ad 0)), (1, .ref (ad q1))]) O dX11_readStatements_14 (by decide) rfl ?_
  refine z_iconst (v := 0) O dX11_readStatements_15 rfl ?_
  refine z_istore (lv' := [(4, .int 0), (3, .int 1), (2, .int 0), (0, .ref (ad 0)), (1, .ref (ad q1))]) O dX11_readStatements_16 (by decide) rfl ?_
  obtain ⟨I18, U18, h0, hs⟩ := h
  have kI18 : ∀ (n : Nat) (y2 : Int32) (y3 : Int32) (x4 : XS), U18 y2 y3 x4 < n → I18 y2 y3 x4 → Z C (zA (wB 161 ad) C.s.heap.size) (XH D cs ad) 5 x4 [(0, .ref (ad 0)), (1, .ref (ad q1)), (2, .int y2), (4, .int y3)] 0 0 18 [] := by
    intro n
    induction n with
    | zero => intro y2 y3 x4 uI18; exact absurd uI18 (Nat.not_lt_zero _)
    | succ n iI18 =>
      intro y2 y3 x4 uI18 h
      have h := hs y2 y3 x4 h
      refine z_iload O dX11_readStatements_18 3 rfl ?_
      refine z_aload_n O dX11_readStatements_20 1 rfl ?_
      refine z_getfN O hK.1 (hX _) (hq1).1 (xe_9 hq1) rfl i9 5 (by decide) (hK.2.1 _ (List.mem_of_getElem? (i := 8) rfl)) rfl dX11_readStatements_21 ?_
      refine z_icmp_ge O 70 dX11_readStatements_24 (by decide) (fun c11 => ?_) (fun c11 => ?_)
      · replace h := h.1 c11
        refine z_aload_n O dX11_readStatements_70 0 rfl ?_
        refine z_getf O hK.1 (hX _) (by decide) xe_11 rfl i11 1 (by decide) (by decide +kernel) rfl dX11_readStatements_71 ?_
        refine z_aload_n O dX11_readStatements_74 0 rfl ?_
        refine z_getf O hK.1 (hX _) (by decide) xe_11 rfl i11 3 (by decide) (by decide +kernel) rfl dX11_readStatements_75 ?_
        refine z_cWV (gKs D cs) hK (fun _ h => h) (fun _ h => Or.inl h) (fun _ h => Or.inr h) (t_X6_takeAll hI x4 29 xk_29 117 xk_117  _ h) (zr_V (As := [.ref (ad 117)]) (rest := []) O hE.1 1 gX11_readStatements_X6_takeAll rfl rfl rfl (by decide +kernel) ⟨(Nat.le_of_ble_eq_true rfl), (Nat.le_of_ble_eq_true rfl)⟩ ⟨(Nat.le_of_ble_eq_true rfl), (Nat.le_of_ble_eq_true rfl)⟩ (fun H hH => z_recv hK.1 (hX _ H hH) (xk_29).1 (xe_6 xk_29) rfl) rfl rfl (Nat.le_of_ble_eq_true rfl) dX11_readStatements_78) (fun x5 h => ?_)
        refine z_iload_n O dX11_readStatements_81 2 rfl ?_
        exact z_retWR O hE (Nat.le_of_ble_eq_true rfl) (Nat.le_of_ble_eq_true rfl) rfl dX11_readStatements_82 h
      · replace h := h.2 c11
        refine z_aload_n O dX11_readStatements_27 0 rfl ?_
        refine z_aload_n O dX11_readStatements_28 1 rfl ?_
        refine z_iload O dX11_readStatements_29 3 rfl ?_
        refine z_cWR (gKs D cs) hK (fun _ h => h) (fun _ h => Or.inl h) (fun _ h => Or.inr h) (t_X11_doStatement hI x4 q1 hq1 y3 _ h) (zr_V (As := [.ref (ad q1), .int y3]) (rest := []) O hE.1 2 gX11_readStatements_X11_doStatement rfl rfl rfl (by decide +kernel) ⟨(Nat.le_of_ble_eq_true rfl), (Nat.le_of_ble_eq_true rfl)⟩ ⟨(Nat.le_of_ble_eq_true rfl), (Nat.le_of_ble_eq_true rfl)⟩ (fun H hH => z_recv hK.1 (hX _ H hH) (by decide) xe_11 rfl) rfl rfl (Nat.le_of_ble_eq_true rfl) dX11_readStatements_31) (fun r7 x6 h => ?_)
        refine z_if_ge O 44 dX11_readStatements_34 (by decide) (fun c10 => ?_) (fun c10 => ?_)
        · replace h := h.1 c10
          refine z_iconst (v := 1) O dX11_readStatements_44 rfl ?_
          refine z_aload_n O dX11_readStatements_45 1 rfl ?_
          refine z_iload O dX11_readStatements_46 3 rfl ?_
          refine z_callR (gKs D cs) hK (fun _ h => h) (t_X9_valueAt x6 q1 hq1 y3 _ h) (zr_V (As := [.int y3]) (rest := [.int 1]) O hE.1 1 gX11_readStatements_X9_valueAt rfl rfl rfl (by decide +kernel) ⟨(Nat.le_of_ble_eq_true rfl), (Nat.le_of_ble_eq_true rfl)⟩ ⟨(Nat.le_of_ble_eq_true rfl), (Nat.le_of_ble_eq_true rfl)⟩ (fun H hH => z_recv hK.1 (hX _ H hH) (hq1).1 (xe_9 hq1) rfl) rfl rfl (Nat.le_of_ble_eq_true rfl) dX11_readStatements_48) (fun r8 h => ?_)
          refine z_callR (gKs D cs) hK (fun _ h => h) (t_X11_statementLength (gKs D cs) r8 _ h) (zr_SS (As := [.int r8]) (rest := [.int 1]) O hE.1 1 gX11_readStatements_X11_statementLength rfl rfl rfl (by decide +kernel) ⟨(Nat.le_of_ble_eq_true rfl), (Nat.le_of_ble_eq_true rfl)⟩ ⟨(Nat.le_of_ble_eq_true rfl), (Nat.le_of_ble_eq_true rfl)⟩ rfl rfl (Nat.le_of_ble_eq_true rfl) dX11_readStatements_51) (fun r9 h => ?_)
          refine z_max O hE.1 (by decide +kernel) (by decide +kernel) (by decide +kernel) (by decide +kernel) ⟨(Nat.le_of_ble_eq_true rfl), (Nat.le_of_ble_eq_true rfl), Nat.zero_le _, Nat.zero_le _⟩ dX11_readStatements_54 ?_
          refine z_istore_n (lv' := [(3, .int ((if (1 : Int32) < r9 then r9 else (1 : Int32)))), (0, .ref (ad 0)), (1, .ref (ad q1)), (2, .int y2), (4, .int y3)]) O dX11_readStatements_57 (by decide) rfl ?_
          refine z_iinc (lv' := [(2, .int (y2 + 1)), (3, .int ((if (1 : Int32) < r9 then r9 else (1 : Int32)))), (0, .ref (ad 0)), (1, .ref (ad q1)), (4, .int y3)]) O dX11_readStatements_58 3 rfl rfl (by decide) rfl ?_
          refine z_iload O dX11_readStatements_61 4 rfl ?_
          refine z_iload_n O dX11_readStatements_63 1 rfl ?_
          refine z_iadd O dX11_readStatements_64 ?_
          refine z_istore (lv' := [(4, .int (y3 + ((if (1 : Int32) < r9 then r9 else (1 : Int32))))), (2, .int (y2 + 1)), (3, .int ((if (1 : Int32) < r9 then r9 else (1 : Int32)))), (0, .ref (ad 0)), (1, .ref (ad q1))]) O dX11_readStatements_65 (by decide) rfl ?_
          refine z_goto O 18 dX11_readStatements_67 (by decide) ?_
          exact z_sub [3, 4, 1, 0] rfl (iI18 (y2 + 1) (y3 + ((if (1 : Int32) < r9 then r9 else (1 : Int32)))) x6 (Nat.lt_of_lt_of_le h.2 (Nat.le_of_lt_succ uI18)) h.1)
        · replace h := h.2 c10
          refine z_sipush (v := -2000) O dX11_readStatements_37 rfl ?_
          refine z_iload O dX11_readStatements_40 3 rfl ?_
          refine z_isub O dX11_readStatements_42 ?_
          exact z_retWR O hE (Nat.le_of_ble_eq_true rfl) (Nat.le_of_ble_eq_true rfl) rfl dX11_readStatements_43 h
  exact z_sub [3, 4, 2, 0] rfl (kI18 _ 0 0 x1 (Nat.lt_succ_self _) h0)
def wp_X11_lake (x : XS)  (p1 : Int32) (Q : Int32 → XS → Prop) : Prop :=
 wp_X11_shelfAt x p1 (fun r : Option Nat => match r with
 | none => Q (-1) x
 | some o1 => xk o1 9 ∧
 wp_X9_lacks x o1 2 (fun r2 : Int32 =>
 ((r2 = 0 →
 (((x.1 o1 4) = 0 →
 wp_X11_firstBadByte x o1 (fun r3 : Int32 =>
 ((0 ≤ r3 →
 Q ((-1000) - r3) x) ∧ (¬ 0 ≤ r3 →
 wp_X11_readStatements x o1 (fun (r5 : Int32) (x4 : XS) =>
 Q r5 x4))))) ∧ (¬ (x.1 o1 4) = 0 →
 Q (-12) x))) ∧ (¬ r2 = 0 →
 Q r2 x))))
set_option maxHeartbeats 4000000 in
set_option maxRecDepth 100000 in
theorem t_X11_lake {l : Launch} {D : va_G} {cs : Nat → ClassId} {ad : Nat → Nat} (hI : wInj 161 ad) (x : XS)  (p1 : Int32) (Q : Int32 → XS → Prop) (h : wp_X11_lake x  p1 Q) : zWR l yX11_lake wsX11_lake ({ frames := 7, cells := 0, slots := 0, locals := 164 } : Room) (gK D cs) (XH D cs ad) (wB 161 ad) x [.ref (ad 0), .int p1] 0 0 Q := by
  refine zWR_of (cc := cX11_lake) (nL := 5) (ret := (some .int)) (by decide +kernel) rfl (Nat.le_of_ble_eq_true rfl) (fun C hl O hE hK => ?_)
  subst hl
  have hX : ∀ (x : XS) (H : Heap), XH D cs ad x H → va_P D vwCl (wl 161 ad (XE cs ad x)) H := fun _ _ h => h
  have hB : ∀ {x : XS} (H : Heap), va_P D vwCl (wl 161 ad (XE cs ad x)) H → XH D cs ad x H := fun _ h => h
  have hA : ∀ q, wB 161 ad q → zA (wB 161 ad) C.s.heap.size q := fun _ h => Or.inl h
  have i9 : ∀ w ∈ wsX90, w ∈ wsX11_lake := by decide +kernel
  refine z_sub (lv' := [(0, .ref (ad 0)), (1, .int p1)]) [0, 1] rfl ?_
  refine z_aload_n O dX11_lake_0 0 rfl ?_
  refine z_iload_n O dX11_lake_1 1 rfl ?_
  refine z_callE (gKs D cs) hK (fun _ h => h) (t_X11_shelfAt x  p1 _ h) (zr_V (As := [.int p1]) (rest := []) O hE.1 1 gX11_lake_X11_shelfAt rfl rfl rfl (by decide +kernel) ⟨(Nat.le_of_ble_eq_true rfl), (Nat.le_of_ble_eq_true rfl)⟩ ⟨(Nat.le_of_ble_eq_true rfl), (Nat.le_of_ble_eq_true rfl)⟩ (fun H hH => z_recv hK.1 (hX _ H hH) (by decide) xe_11 rfl) rfl rfl (Nat.le_of_ble_eq_true rfl) dX11_lake_2) (fun h => ?_) (fun o1 h => ?_)
  · skip
    refine z_astore_nN (lv' := [(2, .null), (0, .ref (ad 0)), (1, .int p1)]) O dX11_lake_5 (by decide) rfl ?_
    refine z_aload_nN O dX11_lake_6 0 rfl ?_
    refine z_ifnonnullN O dX11_lake_7 ?_
    refine z_iconst (v := -1) O dX11_lake_10 rfl ?_
    exact z_retWR O hE (Nat.le_of_ble_eq_true rfl) (Nat.le_of_ble_eq_true rfl) rfl dX11_lake_11 h
  · have ho1 := h.1
    replace h := h.2
    refine z_astore_n (lv' := [(2, .ref (ad o1)), (0, .ref (ad 0)), (1, .int p1)]) O dX11_lake_5 (by decide) rfl ?_
    refine z_aload_n O dX11_lake_6 0 rfl ?_
    refine z_ifnonnull O 12 dX11_lake_7 (by decide) ?_
    refine z_aload_n O dX11_lake_12 0 rfl ?_
    refine z_iconst (v := 2) O dX11_lake_13 rfl ?_
    refine z_callR (gKs D cs) hK (fun _ h => h) (t_X9_lacks x o1 ho1 2 _ h) (zr_V (As := [.int 2]) (rest := []) O hE.1 1 gX11_lake_X9_lacks rfl rfl rfl (by decide +kernel) ⟨(Nat.le_of_ble_eq_true rfl), (Nat.le_of_ble_eq_true rfl)⟩ ⟨(Nat.le_of_ble_eq_true rfl), (Nat.le_of_ble_eq_true rfl)⟩ (fun H hH => z_recv hK.1 (hX _ H hH) (ho1).1 (xe_9 ho1) rfl) rfl rfl (Nat.le_of_ble_eq_true rfl) dX11_lake_14) (fun r2 h => ?_)
    refine z_istore_n (lv' := [(3, .int r2), (2, .ref (ad o1)), (0, .ref (ad 0)), (1, .int p1)]) O dX11_lake_17 (by decide) rfl ?_
    refine z_iload_n O dX11_lake_18 0 rfl ?_
    refine z_if_eq O 24 dX11_lake_19 (by decide) (fun c8 => ?_) (fun c8 => ?_)
    · replace h := h.1 c8
      refine z_aload_n O dX11_lake_24 1 rfl ?_
      refine z_getfN O hK.1 (hX _) (ho1).1 (xe_9 ho1) rfl i9 4 (by decide) (hK.2.1 _ (List.mem_of_getElem? (i := 7) rfl)) rfl dX11_lake_25 ?_
      refine z_if_eq O 34 dX11_lake_28 (by decide) (fun c7 => ?_) (fun c7 => ?_)
      · replace h := h.1 c7
        refine z_aload_n O dX11_lake_34 1 rfl ?_
        refine z_callR (gKs D cs) hK (fun _ h => h) (t_X11_firstBadByte x o1 ho1  _ h) (zr_SS (As := [.ref (ad o1)]) (rest := []) O hE.1 1 gX11_lake_X11_firstBadByte rfl rfl rfl (by decide +kernel) ⟨(Nat.le_of_ble_eq_true rfl), (Nat.le_of_ble_eq_true rfl)⟩ ⟨(Nat.le_of_ble_eq_true rfl), (Nat.le_of_ble_eq_true rfl)⟩ rfl rfl (Nat.le_of_ble_eq_true rfl) dX11_lake_35) (fun r3 h => ?_)
        refine z_istore (lv' := [(4, .int r3), (3, .int r2), (2, .ref (ad o1)), (0, .ref (ad 0)), (1, .int p1)]) O dX11_lake_38 (by decide) rfl ?_
        refine z_iload O dX11_lake_40 0 rfl ?_
        refine z_if_ge O 53 dX11_lake_42 (by decide) (fun c6 => ?_) (fun c6 => ?_)
        · replace h := h.1 c6
          refine z_sipush (v := -1000) O dX11_lake_53 rfl ?_
          refine z_iload O dX11_lake_56 0 rfl ?_
          refine z_isub O dX11_lake_58 ?_
          exact z_retWR O hE (Nat.le_of_ble_eq_true rfl) (Nat.le_of_ble_eq_true rfl) rfl dX11_lake_59 h
        · replace h := h.2 c6
          refine z_aload_n O dX11_lake_45 3 rfl ?_
          refine z_aload_n O dX11_lake_46 2 rfl ?_
          refine z_cWR (gKs D cs) hK (fun _ h => h) (fun _ h => Or.inl h) (fun _ h => Or.inr h) (t_X11_readStatements hI x o1 ho1  _ h) (zr_V (As := [.ref (ad o1)]) (rest := []) O hE.1 1 gX11_lake_X11_readStatements rfl rfl rfl (by decide +kernel) ⟨(Nat.le_of_ble_eq_true rfl), (Nat.le_of_ble_eq_true rfl)⟩ ⟨(Nat.le_of_ble_eq_true rfl), (Nat.le_of_ble_eq_true rfl)⟩ (fun H hH => z_recv hK.1 (hX _ H hH) (by decide) xe_11 rfl) rfl rfl (Nat.le_of_ble_eq_true rfl) dX11_lake_47) (fun r5 x4 h => ?_)
          refine z_goto O 59 dX11_lake_50 (by decide) ?_
          exact z_retWR O hE (Nat.le_of_ble_eq_true rfl) (Nat.le_of_ble_eq_true rfl) rfl dX11_lake_59 h
      · replace h := h.2 c7
        refine z_bipush (v := -12) O dX11_lake_31 rfl ?_
        exact z_retWR O hE (Nat.le_of_ble_eq_true rfl) (Nat.le_of_ble_eq_true rfl) rfl dX11_lake_33 h
    · replace h := h.2 c8
      refine z_iload_n O dX11_lake_22 0 rfl ?_
      exact z_retWR O hE (Nat.le_of_ble_eq_true rfl) (Nat.le_of_ble_eq_true rfl) rfl dX11_lake_23 h
def wp_X11_freeze (x : XS)  (p1 : Int32) (p2 : Int32) (p3 : Int32) (Q : Int32 → XS → Prop) : Prop :=
 wp_X11_shelfAt x p1 (fun r : Option Nat => match r with
 | none => Q (-1) x
 | some o1 => xk o1 9 ∧
 wp_X6_cellAt x 29 p2 (fun r : Option Nat => match r with
 | none => Q (-1) x
 | some o2 => xk o2 2 ∧
 wp_X11_within p3 1 9 (fun r3 : Int32 =>
 ((¬ r3 = 0 →
 wp_X9_lacks x o1 1 (fun r4 : Int32 =>
 ((¬ r4 = 0 →
 Q r4 x) ∧ (r4 = 0 →
 wp_X6_freezeIn x 29 p2 (x.1 o1 2) (x.1 o1 3) p3 (fun (r6 : Int32) (x5 : XS) =>
 Q r6 x5))))) ∧ (r3 = 0 →
 Q (-1) x)))))
set_option maxHeartbeats 4000000 in
set_option maxRecDepth 100000 in
theorem t_X11_freeze {l : Launch} {D : va_G} {cs : Nat → ClassId} {ad : Nat → Nat} (hI : wInj 161 ad) (x : XS)  (p1 : Int32) (p2 : Int32) (p3 : Int32) (Q : Int32 → XS → Prop) (h : wp_X11_freeze x  p1 p2 p3 Q) : zWR l yX11_freeze wsX11_freeze ({ frames := 5, cells := 0, slots := 0, locals := 117 } : Room) (gK D cs) (XH D cs ad) (wB 161 ad) x [.ref (ad 0), .int p1, .int p2, .int p3] 0 0 Q := by
  refine zWR_of (cc := cX11_freeze) (nL := 6) (ret := (some .int)) (by decide +kernel) rfl (Nat.le_of_ble_eq_true rfl) (fun C hl O hE hK => ?_)
  subst hl
  have hX : ∀ (x : XS) (H : Heap), XH D cs ad x H → va_P D vwCl (wl 161 ad (XE cs ad x)) H := fun _ _ h => h
  have hB : ∀ {x : XS} (H : Heap), va_P D vwCl (wl 161 ad (XE cs ad x)) H → XH D cs ad x H := fun _ h => h
  have hA : ∀ q, wB 161 ad q → zA (wB 161 ad) C.s.heap.size q := fun _ h => Or.inl h
  have i11 : ∀ w ∈ wsX110, w ∈ wsX11_freeze := by decide +kernel
  have i9 : ∀ w ∈ wsX90, w ∈ wsX11_freeze := by decide +kernel
  refine z_sub (lv' := [(0, .ref (ad 0)), (1, .int p1), (2, .int p2), (3, .int p3)]) [0, 1, 2, 3] rfl ?_
  refine z_aload_n O dX11_freeze_0 0 rfl ?_
  refine z_iload_n O dX11_freeze_1 1 rfl ?_
  refine z_callE (gKs D cs) hK (fun _ h => h) (t_X11_shelfAt x  p1 _ h) (zr_V (As := [.int p1]) (rest := []) O hE.1 1 gX11_freeze_X11_shelfAt rfl rfl rfl (by decide +kernel) ⟨(Nat.le_of_ble_eq_true rfl), (Nat.le_of_ble_eq_true rfl)⟩ ⟨(Nat.le_of_ble_eq_true rfl), (Nat.le_of_ble_eq_true rfl)⟩ (fun H hH => z_recv hK.1 (hX _ H hH) (by decide) xe_11 rfl) rfl rfl (Nat.le_of_ble_eq_true rfl) dX11_freeze_2) (fun h => ?_) (fun o1 h => ?_)
  · skip
    refine z_astoreN (lv' := [(4, .null), (0, .ref (ad 0)), (1, .int p1), (2, .int p2), (3, .int p3)]) O dX11_freeze_5 (by decide) rfl ?_
    refine z_aloadN O dX11_freeze_7 0 rfl ?_
    refine z_ifnullN O 33 dX11_freeze_9 (by decide) ?_
    refine z_iconst (v := -1) O dX11_freeze_33 rfl ?_
    exact z_retWR O hE (Nat.le_of_ble_eq_true rfl) (Nat.le_of_ble_eq_true rfl) rfl dX11_freeze_34 h
  · have ho1 := h.1
    replace h := h.2
    refine z_astore (lv' := [(4, .ref (ad o1)), (0, .ref (ad 0)), (1, .int p1), (2, .int p2), (3, .int p3)]) O dX11_freeze_5 (by decide) rfl ?_
    refine z_aload O dX11_freeze_7 0 rfl ?_
    refine z_ifnull O dX11_freeze_9 ?_
    refine z_aload_n O dX11_freeze_12 1 rfl ?_
    refine z_getf O hK.1 (hX _) (by decide) xe_11 rfl i11 1 (by decide) (by decide +kernel) rfl dX11_freeze_13 ?_
    refine z_iload_n O dX11_freeze_16 3 rfl ?_
    refine z_callE (gKs D cs) hK (fun _ h => h) (t_X6_cellAt x 29 xk_29 p2 _ h) (zr_V (As := [.int p2]) (rest := []) O hE.1 1 gX11_freeze_X6_cellAt rfl rfl rfl (by decide +kernel) ⟨(Nat.le_of_ble_eq_true rfl), (Nat.le_of_ble_eq_true rfl)⟩ ⟨(Nat.le_of_ble_eq_true rfl), (Nat.le_of_ble_eq_true rfl)⟩ (fun H hH => z_recv hK.1 (hX _ H hH) (xk_29).1 (xe_6 xk_29) rfl) rfl rfl (Nat.le_of_ble_eq_true rfl) dX11_freeze_17) (fun h => ?_) (fun o2 h => ?_)
    · skip
      refine z_ifnullN O 33 dX11_freeze_20 (by decide) ?_
      refine z_iconst (v := -1) O dX11_freeze_33 rfl ?_
      exact z_retWR O hE (Nat.le_of_ble_eq_true rfl) (Nat.le_of_ble_eq_true rfl) rfl dX11_freeze_34 h
    · have ho2 := h.1
      replace h := h.2
      refine z_ifnull O dX11_freeze_20 ?_
      refine z_iload_n O dX11_freeze_23 4 rfl ?_
      refine z_iconst (v := 1) O dX11_freeze_24 rfl ?_
      refine z_bipush (v := 9) O dX11_freeze_25 rfl ?_
      refine z_callR (gKs D cs) hK (fun _ h => h) (t_X11_within (gKs D cs) p3 1 9 _ h) (zr_SS (As := [.int p3, .int 1, .int 9]) (rest := []) O hE.1 3 gX11_freeze_X11_within rfl rfl rfl (by decide +kernel) ⟨(Nat.le_of_ble_eq_true rfl), (Nat.le_of_ble_eq_true rfl)⟩ ⟨(Nat.le_of_ble_eq_true rfl), (Nat.le_of_ble_eq_true rfl)⟩ rfl rfl (Nat.le_of_ble_eq_true rfl) dX11_freeze_27) (fun r3 h => ?_)
      refine z_if_ne O 35 dX11_freeze_30 (by decide) (fun c8 => ?_) (fun c8 => ?_)
      · replace h := h.1 c8
        refine z_aload O dX11_freeze_35 0 rfl ?_
        refine z_iconst (v := 1) O dX11_freeze_37 rfl ?_
        refine z_callR (gKs D cs) hK (fun _ h => h) (t_X9_lacks x o1 ho1 1 _ h) (zr_V (As := [.int 1]) (rest := []) O hE.1 1 gX11_freeze_X9_lacks rfl rfl rfl (by decide +kernel) ⟨(Nat.le_of_ble_eq_true rfl), (Nat.le_of_ble_eq_true rfl)⟩ ⟨(Nat.le_of_ble_eq_true rfl), (Nat.le_of_ble_eq_true rfl)⟩ (fun H hH => z_recv hK.1 (hX _ H hH) (ho1).1 (xe_9 ho1) rfl) rfl rfl (Nat.le_of_ble_eq_true rfl) dX11_freeze_38) (fun r4 h => ?_)
        refine z_istore (lv' := [(5, .int r4), (4, .ref (ad o1)), (0, .ref (ad 0)), (1, .int p1), (2, .int p2), (3, .int p3)]) O dX11_freeze_41 (by decide) rfl ?_
        refine z_iload O dX11_freeze_43 0 rfl ?_
        refine z_if_ne O 70 dX11_freeze_45 (by decide) (fun c7 => ?_) (fun c7 => ?_)
        · replace h := h.1 c7
          refine z_iload O dX11_freeze_70 0 rfl ?_
          exact z_retWR O hE (Nat.le_of_ble_eq_true rfl) (Nat.le_of_ble_eq_true rfl) rfl dX11_freeze_72 h
        · replace h := h.2 c7
          refine z_aload_n O dX11_freeze_48 2 rfl ?_
          refine z_getf O hK.1 (hX _) (by decide) xe_11 rfl i11 1 (by decide) (by decide +kernel) rfl dX11_freeze_49 ?_
          refine z_iload_n O dX11_freeze_52 4 rfl ?_
          refine z_aload O dX11_freeze_53 1 rfl ?_
          refine z_getfN O hK.1 (hX _) (ho1).1 (xe_9 ho1) rfl i9 2 (by decide) (hK.2.1 _ (List.mem_of_getElem? (i := 5) rfl)) rfl dX11_freeze_55 ?_
          refine z_aload O dX11_freeze_58 1 rfl ?_
          refine z_getfN O hK.1 (hX _) (ho1).1 (xe_9 ho1) rfl i9 3 (by decide) (hK.2.1 _ (List.mem_of_getElem? (i := 6) rfl)) rfl dX11_freeze_60 ?_
          refine z_iload_n O dX11_freeze_63 5 rfl ?_
          refine z_cWR (gKs D cs) hK (fun _ h => h) (fun _ h => Or.inl h) (fun _ h => Or.inr h) (t_X6_freezeIn hI x 29 xk_29 p2 (x.1 o1 2) (x.1 o1 3) p3 _ h) (zr_V (As := [.int p2, .int (x.1 o1 2), .int (x.1 o1 3), .int p3]) (rest := []) O hE.1 4 gX11_freeze_X6_freezeIn rfl rfl rfl (by decide +kernel) ⟨(Nat.le_of_ble_eq_true rfl), (Nat.le_of_ble_eq_true rfl)⟩ ⟨(Nat.le_of_ble_eq_true rfl), (Nat.le_of_ble_eq_true rfl)⟩ (fun H hH => z_recv hK.1 (hX _ H hH) (xk_29).1 (xe_6 xk_29) rfl) rfl rfl (Nat.le_of_ble_eq_true rfl) dX11_freeze_64) (fun r6 x5 h => ?_)
          refine z_goto O 72 dX11_freeze_67 (by decide) ?_
          exact z_retWR O hE (Nat.le_of_ble_eq_true rfl) (Nat.le_of_ble_eq_true rfl) rfl dX11_freeze_72 h
      · replace h := h.2 c8
        refine z_iconst (v := -1) O dX11_freeze_33 rfl ?_
        exact z_retWR O hE (Nat.le_of_ble_eq_true rfl) (Nat.le_of_ble_eq_true rfl) rfl dX11_freeze_34 h
def wp_X11_thaw (x : XS)  (p1 : Int32) (Q : Int32 → XS → Prop) : Prop :=
 wp_X6_thawFor x 29 p1 (fun (r2 : Int32) (x1 : XS) =>
 Q r2 x1)
set_option maxHeartbeats 4000000 in
set_option maxRecDepth 100000 in
theorem t_X11_thaw {l : Launch} {D : va_G} {cs : Nat → ClassId} {ad : Nat → Nat} (hI : wInj 161 ad) (x : XS)  (p1 : Int32) (Q : Int32 → XS → Prop) (h : wp_X11_thaw x  p1 Q) : zWR l yX11_thaw wsX11_thaw ({ frames := 5, cells := 0, slots := 0, locals := 115 } : Room) (gK D cs) (XH D cs ad) (wB 161 ad) x [.ref (ad 0), .int p1] 0 0 Q := by
  refine zWR_of (cc := cX11_thaw) (nL := 2) (ret := (some .int)) (by decide +kernel) rfl (Nat.le_of_ble_eq_true rfl) (fun C hl O hE hK => ?_)
  subst hl
  have hX : ∀ (x : XS) (H : Heap), XH D cs ad x H → va_P D vwCl (wl 161 ad (XE cs ad x)) H := fun _ _ h => h
  have hB : ∀ {x : XS} (H : Heap), va_P D vwCl (wl 161 ad (XE cs ad x)) H → XH D cs ad x H := fun _ h => h
  have hA : ∀ q, wB 161 ad q → zA (wB 161 ad) C.s.heap.size q := fun _ h => Or.inl h
  have i11 : ∀ w ∈ wsX110, w ∈ wsX11_thaw := by decide +kernel
  refine z_sub (lv' := [(0, .ref (ad 0)), (1, .int p1)]) [0, 1] rfl ?_
  refine z_aload_n O dX11_thaw_0 0 rfl ?_
  refine z_getf O hK.1 (hX _) (by decide) xe_11 rfl i11 1 (by decide) (by decide +kernel) rfl dX11_thaw_1 ?_
  refine z_iload_n O dX11_thaw_4 1 rfl ?_
  refine z_cWR (gKs D cs) hK (fun _ h => h) (fun _ h => Or.inl h) (fun _ h => Or.inr h) (t_X6_thawFor hI x 29 xk_29 p1 _ h) (zr_V (As := [.int p1]) (rest := []) O hE.1 1 gX11_thaw_X6_thawFor rfl rfl rfl (by decide +kernel) ⟨(Nat.le_of_ble_eq_true rfl), (Nat.le_of_ble_eq_true rfl)⟩ ⟨(Nat.le_of_ble_eq_true rfl), (Nat.le_of_ble_eq_true rfl)⟩ (fun H hH => z_recv hK.1 (hX _ H hH) (xk_29).1 (xe_6 xk_29) rfl) rfl rfl (Nat.le_of_ble_eq_true rfl) dX11_thaw_5) (fun r2 x1 h => ?_)
  exact z_retWR O hE (Nat.le_of_ble_eq_true rfl) (Nat.le_of_ble_eq_true rfl) rfl dX11_thaw_8 h
def wp_X11_cut (x : XS)  (p1 : Int32) (p2 : Int32) (Q : Int32 → XS → Prop) : Prop :=
 wp_X6_cutIn x 29 p1 p2 (fun (r2 : Int32) (x1 : XS) =>
 Q r2 x1)
set_option maxHeartbeats 4000000 in
set_option maxRecDepth 100000 in
theorem t_X11_cut {l : Launch} {D : va_G} {cs : Nat → ClassId} {ad : Nat → Nat} (hI : wInj 161 ad) (x : XS)  (p1 : Int32) (p2 : Int32) (Q : Int32 → XS → Prop) (h : wp_X11_cut x  p1 p2 Q) : zWR l yX11_cut wsX11_cut ({ frames := 4, cells := 0, slots := 0, locals := 90 } : Room) (gK D cs) (XH D cs ad) (wB 161 ad) x [.ref (ad 0), .int p1, .int p2] 0 0 Q := by
  refine zWR_of (cc := cX11_cut) (nL := 3) (ret := (some .int)) (by decide +kernel) rfl (Nat.le_of_ble_eq_true rfl) (fun C hl O hE hK => ?_)
  subst hl
  have hX : ∀ (x : XS) (H : Heap), XH D cs ad x H → va_P D vwCl (wl 161 ad (XE cs ad x)) H := fun _ _ h => h
  have hB : ∀ {x : XS} (H : Heap), va_P D vwCl (wl 161 ad (XE cs ad x)) H → XH D cs ad x H := fun _ h => h
  have hA : ∀ q, wB 161 ad q → zA (wB 161 ad) C.s.heap.size q := fun _ h => Or.inl h
  have i11 : ∀ w ∈ wsX110, w ∈ wsX11_cut := by decide +kernel
  refine z_sub (lv' := [(0, .ref (ad 0)), (1, .int p1), (2, .int p2)]) [0, 1, 2] rfl ?_
  refine z_aload_n O dX11_cut_0 0 rfl ?_
  refine z_getf O hK.1 (hX _) (by decide) xe_11 rfl i11 1 (by decide) (by decide +kernel) rfl dX11_cut_1 ?_
  refine z_iload_n O dX11_cut_4 1 rfl ?_
  refine z_iload_n O dX11_cut_5 2 rfl ?_
  refine z_cWR (gKs D cs) hK (fun _ h => h) (fun _ h => Or.inl h) (fun _ h => Or.inr h) (t_X6_cutIn hI x 29 xk_29 p1 p2 _ h) (zr_V (As := [.int p1, .int p2]) (rest := []) O hE.1 2 gX11_cut_X6_cutIn rfl rfl rfl (by decide +kernel) ⟨(Nat.le_of_ble_eq_true rfl), (Nat.le_of_ble_eq_true rfl)⟩ ⟨(Nat.le_of_ble_eq_true rfl), (Nat.le_of_ble_eq_true rfl)⟩ (fun H hH => z_recv hK.1 (hX _ H hH) (xk_29).1 (xe_6 xk_29) rfl) rfl rfl (Nat.le_of_ble_eq_true rfl) dX11_cut_6) (fun r2 x1 h => ?_)
  exact z_retWR O hE (Nat.le_of_ble_eq_true rfl) (Nat.le_of_ble_eq_true rfl) rfl dX11_cut_9 h
def wp_X11_drift (x : XS)   (Q : Int32 → XS → Prop) : Prop :=
 wp_X6_driftOn x 29 (fun (r2 : Int32) (x1 : XS) =>
 Q r2 x1)
set_option maxHeartbeats 4000000 in
set_option maxRecDepth 100000 in
theorem t_X11_drift {l : Launch} {D : va_G} {cs : Nat → ClassId} {ad : Nat → Nat} (hI : wInj 161 ad) (x : XS)   (Q : Int32 → XS → Prop) (h : wp_X11_drift x   Q) : zWR l yX11_drift wsX11_drift ({ frames := 1, cells := 0, slots := 0, locals := 22 } : Room) (gK D cs) (XH D cs ad) (wB 161 ad) x [.ref (ad 0)] 0 0 Q := by
  refine zWR_of (cc := cX11_drift) (nL := 1) (ret := (some .int)) (by decide +kernel) rfl (Nat.le_of_ble_eq_true rfl) (fun C hl O hE hK => ?_)
  subst hl
  have hX : ∀ (x : XS) (H : Heap), XH D cs ad x H → va_P D vwCl (wl 161 ad (XE cs ad x)) H := fun _ _ h => h
  have hB : ∀ {x : XS} (H : Heap), va_P D vwCl (wl 161 ad (XE cs ad x)) H → XH D cs ad x H := fun _ h => h
  have hA : ∀ q, wB 161 ad q → zA (wB 161 ad) C.s.heap.size q := fun _ h => Or.inl h
  have i11 : ∀ w ∈ wsX110, w ∈ wsX11_drift := by decide +kernel
  refine z_sub (lv' := [(0, .ref (ad 0))]) [0] rfl ?_
  refine z_aload_n O dX11_drift_0 0 rfl ?_
  refine z_getf O hK.1 (hX _) (by decide) xe_11 rfl i11 1 (by decide) (by decide +kernel) rfl dX11_drift_1 ?_
  refine z_cWR (gKs D cs) hK (fun _ h => h) (fun _ h => Or.inl h) (fun _ h => Or.inr h) (t_X6_driftOn hI x 29 xk_29  _ h) (zr_V (As := []) (rest := []) O hE.1 0 gX11_drift_X6_driftOn rfl rfl rfl (by decide +kernel) ⟨(Nat.le_of_ble_eq_true rfl), (Nat.le_of_ble_eq_true rfl)⟩ ⟨(Nat.le_of_ble_eq_true rfl), (Nat.le_of_ble_eq_true rfl)⟩ (fun H hH => z_recv hK.1 (hX _ H hH) (xk_29).1 (xe_6 xk_29) rfl) rfl rfl (Nat.le_of_ble_eq_true rfl) dX11_drift_4) (fun r2 x1 h => ?_)
  exact z_retWR O hE (Nat.le_of_ble_eq_true rfl) (Nat.le_of_ble_eq_true rfl) rfl dX11_drift_7 h
def wp_X11_winter (x : XS)   (Q : Int32 → XS → Prop) : Prop :=
 wp_X6_nextWinter x 29 (fun (r2 : Int32) (x1 : XS) =>
 Q r2 x1)
set_option maxHeartbeats 4000000 in
set_option maxRecDepth 100000 in
theorem t_X11_winter {l : Launch} {D : va_G} {cs : Nat → ClassId} {ad : Nat → Nat} (hI : wInj 161 ad) (x : XS)   (Q : Int32 → XS → Prop) (h : wp_X11_winter x   Q) : zWR l yX11_winter wsX11_winter ({ frames := 1, cells := 0, slots := 0, locals := 20 } : Room) (gK D cs) (XH D cs ad) (wB 161 ad) x [.ref (ad 0)] 0 0 Q := by
  refine zWR_of (cc := cX11_winter) (nL := 1) (ret := (some .int)) (by decide +kernel) rfl (Nat.le_of_ble_eq_true rfl) (fun C hl O hE hK => ?_)
  subst hl
  have hX : ∀ (x : XS) (H : Heap), XH D cs ad x H → va_P D vwCl (wl 161 ad (XE cs ad x)) H := fun _ _ h => h
  have hB : ∀ {x : XS} (H : Heap), va_P D vwCl (wl 161 ad (XE cs ad x)) H → XH D cs ad x H := fun _ h => h
  have hA : ∀ q, wB 161 ad q → zA (wB 161 ad) C.s.heap.size q := fun _ h => Or.inl h
  have i11 : ∀ w ∈ wsX110, w ∈ wsX11_winter := by decide +kernel
  refine z_sub (lv' := [(0, .ref (ad 0))]) [0] rfl ?_
  refine z_aload_n O dX11_winter_0 0 rfl ?_
  refine z_getf O hK.1 (hX _) (by decide) xe_11 rfl i11 1 (by decide) (by decide +kernel) rfl dX11_winter_1 ?_
  refine z_cWR (gKs D cs) hK (fun _ h => h) (fun _ h => Or.inl h) (fun _ h => Or.inr h) (t_X6_nextWinter hI x 29 xk_29  _ h) (zr_V (As := []) (rest := []) O hE.1 0 gX11_winter_X6_nextWinter rfl rfl rfl (by decide +kernel) ⟨(Nat.le_of_ble_eq_true rfl), (Nat.le_of_ble_eq_true rfl)⟩ ⟨(Nat.le_of_ble_eq_true rfl), (Nat.le_of_ble_eq_true rfl)⟩ (fun H hH => z_recv hK.1 (hX _ H hH) (xk_29).1 (xe_6 xk_29) rfl) rfl rfl (Nat.le_of_ble_eq_true rfl) dX11_winter_4) (fun r2 x1 h => ?_)
  exact z_retWR O hE (Nat.le_of_ble_eq_true rfl) (Nat.le_of_ble_eq_true rfl) rfl dX11_winter_7 h
def wp_X11_layer (x : XS)  (p1 : Int32) (p2 : Int32) (p3 : Int32) (Q : Int32 → Prop) : Prop :=
 wp_X6_cellAt x 29 p1 (fun r : Option Nat => match r with
 | none => Q (-1)
 | some o1 => xk o1 2 ∧
 wp_X2_has x o1 p2 (fun r2 : Int32 =>
 ((¬ r2 = 0 →
 wp_X2_tellOf x o1 p2 p3 (fun r3 : Int32 =>
 Q r3)) ∧ (r2 = 0 →
 Q (-1)))))
set_option maxHeartbeats 4000000 in
set_option maxRecDepth 100000 in
theorem t_X11_layer {l : Launch} {D : va_G} {cs : Nat → ClassId} {ad : Nat → Nat} (x : XS)  (p1 : Int32) (p2 : Int32) (p3 : Int32) (Q : Int32 → Prop) (h : wp_X11_layer x  p1 p2 p3 Q) : zMR l yX11_layer wsX11_layer ({ frames := 5, cells := 0, slots := 0, locals := 108 } : Room) (gK D cs) (XH D cs ad) x [.ref (ad 0), .int p1, .int p2, .int p3] Q := by
  refine zMR_of (cc := cX11_layer) (nL := 5) (ret := (some .int)) (by decide +kernel) rfl (Nat.le_of_ble_eq_true rfl) (fun C hl O hE hK hH => ?_)
  subst hl
  have hX : ∀ (x : XS) (H : Heap), z0 (XH D cs ad) C.s.heap x H → va_P D vwCl (wl 161 ad (XE cs ad x)) H := fun _ _ h => h.2
  have i11 : ∀ w ∈ wsX110, w ∈ wsX11_layer := by decide +kernel
  refine z_sub (lv' := [(0, .ref (ad 0)), (1, .int p1), (2, .int p2), (3, .int p3)]) [0, 1, 2, 3] rfl ?_
  refine z_aload_n O dX11_layer_0 0 rfl ?_
  refine z_getf O hK.1 (hX _) (by decide) xe_11 rfl i11 1 (by decide) (by decide +kernel) rfl dX11_layer_1 ?_
  refine z_iload_n O dX11_layer_4 1 rfl ?_
  refine z_callE (gKs D cs) hK (fun _ h => h.2) (t_X6_cellAt x 29 xk_29 p1 _ h) (zr_V (As := [.int p1]) (rest := []) O hE.1 1 gX11_layer_X6_cellAt rfl rfl rfl (by decide +kernel) ⟨(Nat.le_of_ble_eq_true rfl), (Nat.le_of_ble_eq_true rfl)⟩ ⟨(Nat.le_of_ble_eq_true rfl), (Nat.le_of_ble_eq_true rfl)⟩ (fun H hH => z_recv hK.1 (hX _ H hH) (xk_29).1 (xe_6 xk_29) rfl) rfl rfl (Nat.le_of_ble_eq_true rfl) dX11_layer_5) (fun h => ?_) (fun o1 h => ?_)
  · skip
    refine z_astoreN (lv' := [(4, .null), (0, .ref (ad 0)), (1, .int p1), (2, .int p2), (3, .int p3)]) O dX11_layer_8 (by decide) rfl ?_
    refine z_aloadN O dX11_layer_10 0 rfl ?_
    refine z_ifnullN O 24 dX11_layer_12 (by decide) ?_
    refine z_iconst (v := -1) O dX11_layer_24 rfl ?_
    refine z_goto O 35 dX11_layer_25 (by decide) ?_
    exact z_retR O hE (fun _ h => h.1) rfl dX11_layer_35 h
  · have ho1 := h.1
    replace h := h.2
    refine z_astore (lv' := [(4, .ref (ad o1)), (0, .ref (ad 0)), (1, .int p1), (2, .int p2), (3, .int p3)]) O dX11_layer_8 (by decide) rfl ?_
    refine z_aload O dX11_layer_10 0 rfl ?_
    refine z_ifnull O dX11_layer_12 ?_
    refine z_aload O dX11_layer_15 0 rfl ?_
    refine z_iload_n O dX11_layer_17 3 rfl ?_
    refine z_callR (gKs D cs) hK (fun _ h => h.2) (t_X2_has x o1 ho1 p2 _ h) (zr_V (As := [.int p2]) (rest := []) O hE.1 1 gX11_layer_X2_has rfl rfl rfl (by decide +kernel) ⟨(Nat.le_of_ble_eq_true rfl), (Nat.le_of_ble_eq_true rfl)⟩ ⟨(Nat.le_of_ble_eq_true rfl), (Nat.le_of_ble_eq_true rfl)⟩ (fun H hH => z_recv hK.1 (hX _ H hH) (ho1).1 (xe_2 ho1) rfl) rfl rfl (Nat.le_of_ble_eq_true rfl) dX11_layer_18) (fun r2 h => ?_)
    refine z_if_ne O 28 dX11_layer_21 (by decide) (fun c4 => ?_) (fun c4 => ?_)
    · replace h := h.1 c4
      refine z_aload O dX11_layer_28 0 rfl ?_
      refine z_iload_n O dX11_layer_30 3 rfl ?_
      refine z_iload_n O dX11_layer_31 4 rfl ?_
      refine z_callR (gKs D cs) hK (fun _ h => h.2) (t_X2_tellOf x o1 ho1 p2 p3 _ h) (zr_V (As := [.int p2, .int p3]) (rest := []) O hE.1 2 gX11_layer_X2_tellOf rfl rfl rfl (by decide +kernel) ⟨(Nat.le_of_ble_eq_true rfl), (Nat.le_of_ble_eq_true rfl)⟩ ⟨(Nat.le_of_ble_eq_true rfl), (Nat.le_of_ble_eq_true rfl)⟩ (fun H hH => z_recv hK.1 (hX _ H hH) (ho1).1 (xe_2 ho1) rfl) rfl rfl (Nat.le_of_ble_eq_true rfl) dX11_layer_32) (fun r3 h => ?_)
      exact z_retR O hE (fun _ h => h.1) rfl dX11_layer_35 h
    · replace h := h.2 c4
      refine z_iconst (v := -1) O dX11_layer_24 rfl ?_
      refine z_goto O 35 dX11_layer_25 (by decide) ?_
      exact z_retR O hE (fun _ h => h.1) rfl dX11_layer_35 h
def wp_X11_cell (x : XS)  (p1 : Int32) (p2 : Int32) (Q : Int32 → Prop) : Prop :=
 wp_X6_cellAt x 29 p1 (fun r : Option Nat => match r with
 | none => Q (-1)
 | some o1 => xk o1 2 ∧
 wp_X11_within p2 0 1 (fun r2 : Int32 =>
 ((¬ r2 = 0 →
 ((¬ p2 = 0 →
 wp_X2_ice x o1 (fun r3 : Int32 =>
 Q r3)) ∧ (p2 = 0 →
 Q (x.1 o1 6)))) ∧ (r2 = 0 →
 Q (-1)))))
set_option maxHeartbeats 4000000 in
set_option maxRecDepth 100000 in
theorem t_X11_cell {l : Launch} {D : va_G} {cs : Nat → ClassId} {ad : Nat → Nat} (x : XS)  (p1 : Int32) (p2 : Int32) (Q : Int32 → Prop) (h : wp_X11_cell x  p1 p2 Q) : zMR l yX11_cell wsX11_cell ({ frames := 4, cells := 0, slots := 0, locals := 85 } : Room) (gK D cs) (XH D cs ad) x [.ref (ad 0), .int p1, .int p2] Q := by
  refine zMR_of (cc := cX11_cell) (nL := 4) (ret := (some .int)) (by decide +kernel) rfl (Nat.le_of_ble_eq_true rfl) (fun C hl O hE hK hH => ?_)
  subst hl
  have hX : ∀ (x : XS) (H : Heap), z0 (XH D cs ad) C.s.heap x H → va_P D vwCl (wl 161 ad (XE cs ad x)) H := fun _ _ h => h.2
  have i11 : ∀ w ∈ wsX110, w ∈ wsX11_cell := by decide +kernel
  have i2 : ∀ w ∈ wsX20, w ∈ wsX11_cell := by decide +kernel
  refine z_sub (lv' := [(0, .ref (ad 0)), (1, .int p1), (2, .int p2)]) [0, 1, 2] rfl ?_
  refine z_aload_n O dX11_cell_0 0 rfl ?_
  refine z_getf O hK.1 (hX _) (by decide) xe_11 rfl i11 1 (by decide) (by decide +kernel) rfl dX11_cell_1 ?_
  refine z_iload_n O dX11_cell_4 1 rfl ?_
  refine z_callE (gKs D cs) hK (fun _ h => h.2) (t_X6_cellAt x 29 xk_29 p1 _ h) (zr_V (As := [.int p1]) (rest := []) O hE.1 1 gX11_cell_X6_cellAt rfl rfl rfl (by decide +kernel) ⟨(Nat.le_of_ble_eq_true rfl), (Nat.le_of_ble_eq_true rfl)⟩ ⟨(Nat.le_of_ble_eq_true rfl), (Nat.le_of_ble_eq_true rfl)⟩ (fun H hH => z_recv hK.1 (hX _ H hH) (xk_29).1 (xe_6 xk_29) rfl) rfl rfl (Nat.le_of_ble_eq_true rfl) dX11_cell_5) (fun h => ?_) (fun o1 h => ?_)
  · skip
    refine z_astore_nN (lv' := [(3, .null), (0, .ref (ad 0)), (1, .int p1), (2, .int p2)]) O dX11_cell_8 (by decide) rfl ?_
    refine z_aload_nN O dX11_cell_9 0 rfl ?_
    refine z_ifnullN O 22 dX11_cell_10 (by decide) ?_
    refine z_iconst (v := -1) O dX11_cell_22 rfl ?_
    exact z_retR O hE (fun _ h => h.1) rfl dX11_cell_23 h
  · have ho1 := h.1
    replace h := h.2
    refine z_astore_n (lv' := [(3, .ref (ad o1)), (0, .ref (ad 0)), (1, .int p1), (2, .int p2)]) O dX11_cell_8 (by decide) rfl ?_
    refine z_aload_n O dX11_cell_9 0 rfl ?_
    refine z_ifnull O dX11_cell_10 ?_
    refine z_iload_n O dX11_cell_13 3 rfl ?_
    refine z_iconst (v := 0) O dX11_cell_14 rfl ?_
    refine z_iconst (v := 1) O dX11_cell_15 rfl ?_
    refine z_callR (gKs D cs) hK (fun _ h => h.2) (t_X11_within (gKs D cs) p2 0 1 _ h) (zr_SS (As := [.int p2, .int 0, .int 1]) (rest := []) O hE.1 3 gX11_cell_X11_within rfl rfl rfl (by decide +kernel) ⟨(Nat.le_of_ble_eq_true rfl), (Nat.le_of_ble_eq_true rfl)⟩ ⟨(Nat.le_of_ble_eq_true rfl), (Nat.le_of_ble_eq_true rfl)⟩ rfl rfl (Nat.le_of_ble_eq_true rfl) dX11_cell_16) (fun r2 h => ?_)
    refine z_if_ne O 24 dX11_cell_19 (by decide) (fun c5 => ?_) (fun c5 => ?_)
    · replace h := h.1 c5
      refine z_iload_n O dX11_cell_24 3 rfl ?_
      refine z_if_ne O 35 dX11_cell_25 (by decide) (fun c4 => ?_) (fun c4 => ?_)
      · replace h := h.1 c4
        refine z_aload_n O dX11_cell_35 0 rfl ?_
        refine z_callR (gKs D cs) hK (fun _ h => h.2) (t_X2_ice x o1 ho1  _ h) (zr_V (As := []) (rest := []) O hE.1 0 gX11_cell_X2_ice rfl rfl rfl (by decide +kernel) ⟨(Nat.le_of_ble_eq_true rfl), (Nat.le_of_ble_eq_true rfl)⟩ ⟨(Nat.le_of_ble_eq_true rfl), (Nat.le_of_ble_eq_true rfl)⟩ (fun H hH => z_recv hK.1 (hX _ H hH) (ho1).1 (xe_2 ho1) rfl) rfl rfl (Nat.le_of_ble_eq_true rfl) dX11_cell_36) (fun r3 h => ?_)
        exact z_retR O hE (fun _ h => h.1) rfl dX11_cell_39 h
      · replace h := h.2 c4
        refine z_aload_n O dX11_cell_28 0 rfl ?_
        refine z_getfN O hK.1 (hX _) (ho1).1 (xe_2 ho1) rfl i2 6 (by decide) (hK.2.1 _ (List.mem_of_getElem? (i := 1) rfl)) rfl dX11_cell_29 ?_
        refine z_goto O 39 dX11_cell_32 (by decide) ?_
        exact z_retR O hE (fun _ h => h.1) rfl dX11_cell_39 h
    · replace h := h.2 c5
      refine z_iconst (v := -1) O dX11_cell_22 rfl ?_
      exact z_retR O hE (fun _ h => h.1) rfl dX11_cell_23 h
def wp_X11_holds (x : XS)  (p1 : Int32) (Q : Int32 → Prop) : Prop :=
 wp_X6_cellAt x 29 p1 (fun r : Option Nat => match r with
 | none => Q (-1)
 | some o1 => xk o1 2 ∧
 wp_X2_topmostRead x o1 (fun r2 : Int32 =>
 Q r2))
set_option maxHeartbeats 4000000 in
set_option maxRecDepth 100000 in
theorem t_X11_holds {l : Launch} {D : va_G} {cs : Nat → ClassId} {ad : Nat → Nat} (x : XS)  (p1 : Int32) (Q : Int32 → Prop) (h : wp_X11_holds x  p1 Q) : zMR l yX11_holds wsX11_holds ({ frames := 5, cells := 0, slots := 0, locals := 107 } : Room) (gK D cs) (XH D cs ad) x [.ref (ad 0), .int p1] Q := by
  refine zMR_of (cc := cX11_holds) (nL := 3) (ret := (some .int)) (by decide +kernel) rfl (Nat.le_of_ble_eq_true rfl) (fun C hl O hE hK hH => ?_)
  subst hl
  have hX : ∀ (x : XS) (H : Heap), z0 (XH D cs ad) C.s.heap x H → va_P D vwCl (wl 161 ad (XE cs ad x)) H := fun _ _ h => h.2
  have i11 : ∀ w ∈ wsX110, w ∈ wsX11_holds := by decide +kernel
  refine z_sub (lv' := [(0, .ref (ad 0)), (1, .int p1)]) [0, 1] rfl ?_
  refine z_aload_n O dX11_holds_0 0 rfl ?_
  refine z_getf O hK.1 (hX _) (by decide) xe_11 rfl i11 1 (by decide) (by decide +kernel) rfl dX11_holds_1 ?_
  refine z_iload_n O dX11_holds_4 1 rfl ?_
  refine z_callE (gKs D cs) hK (fun _ h => h.2) (t_X6_cellAt x 29 xk_29 p1 _ h) (zr_V (As := [.int p1]) (rest := []) O hE.1 1 gX11_holds_X6_cellAt rfl rfl rfl (by decide +kernel) ⟨(Nat.le_of_ble_eq_true rfl), (Nat.le_of_ble_eq_true rfl)⟩ ⟨(Nat.le_of_ble_eq_true rfl), (Nat.le_of_ble_eq_true rfl)⟩ (fun H hH => z_recv hK.1 (hX _ H hH) (xk_29).1 (xe_6 xk_29) rfl) rfl rfl (Nat.le_of_ble_eq_true rfl) dX11_holds_5) (fun h => ?_) (fun o1 h => ?_)
  · skip
    refine z_astore_nN (lv' := [(2, .null), (0, .ref (ad 0)), (1, .int p1)]) O dX11_holds_8 (by decide) rfl ?_
    refine z_aload_nN O dX11_holds_9 0 rfl ?_
    refine z_ifnonnullN O dX11_holds_10 ?_
    refine z_iconst (v := -1) O dX11_holds_13 rfl ?_
    refine z_goto O 21 dX11_holds_14 (by decide) ?_
    exact z_retR O hE (fun _ h => h.1) rfl dX11_holds_21 h
  · have ho1 := h.1
    replace h := h.2
    refine z_astore_n (lv' := [(2, .ref (ad o1)), (0, .ref (ad 0)), (1, .int p1)]) O dX11_holds_8 (by decide) rfl ?_
    refine z_aload_n O dX11_holds_9 0 rfl ?_
    refine z_ifnonnull O 17 dX11_holds_10 (by decide) ?_
    refine z_aload_n O dX11_holds_17 0 rfl ?_
    refine z_callR (gKs D cs) hK (fun _ h => h.2) (t_X2_topmostRead x o1 ho1  _ h) (zr_V (As := []) (rest := []) O hE.1 0 gX11_holds_X2_topmostRead rfl rfl rfl (by decide +kernel) ⟨(Nat.le_of_ble_eq_true rfl), (Nat.le_of_ble_eq_true rfl)⟩ ⟨(Nat.le_of_ble_eq_true rfl), (Nat.le_of_ble_eq_true rfl)⟩ (fun H hH => z_recv hK.1 (hX _ H hH) (ho1).1 (xe_2 ho1) rfl) rfl rfl (Nat.le_of_ble_eq_true rfl) dX11_holds_18) (fun r2 h => ?_)
    exact z_retR O hE (fun _ h => h.1) rfl dX11_holds_21 h
def wp_X11_latest (x : XS)  (p1 : Int32) (Q : Int32 → Prop) : Prop :=
 wp_X11_within p1 0 9 (fun r1 : Int32 =>
 ((r1 = 0 →
 Q (-1)) ∧ (¬ r1 = 0 →
 wp_X6_latestOf x 29 p1 (fun r2 : Int32 =>
 Q r2))))
set_option maxHeartbeats 4000000 in
set_option maxRecDepth 100000 in
theorem t_X11_latest {l : Launch} {D : va_G} {cs : Nat → ClassId} {ad : Nat → Nat} (x : XS)  (p1 : Int32) (Q : Int32 → Prop) (h : wp_X11_latest x  p1 Q) : zMR l yX11_latest wsX11_latest ({ frames := 3, cells := 0, slots := 0, locals := 68 } : Room) (gK D cs) (XH D cs ad) x [.ref (ad 0), .int p1] Q := by
  refine zMR_of (cc := cX11_latest) (nL := 2) (ret := (some .int)) (by decide +kernel) rfl (Nat.le_of_ble_eq_true rfl) (fun C hl O hE hK hH => ?_)
  subst hl
  have hX : ∀ (x : XS) (H : Heap), z0 (XH D cs ad) C.s.heap x H → va_P D vwCl (wl 161 ad (XE cs ad x)) H := fun _ _ h => h.2
  have i11 : ∀ w ∈ wsX110, w ∈ wsX11_latest := by decide +kernel
  refine z_sub (lv' := [(0, .ref (ad 0)), (1, .int p1)]) [0, 1] rfl ?_
  refine z_iload_n O dX11_latest_0 1 rfl ?_
  refine z_iconst (v := 0) O dX11_latest_1 rfl ?_
  refine z_bipush (v := 9) O dX11_latest_2 rfl ?_
  refine z_callR (gKs D cs) hK (fun _ h => h.2) (t_X11_within (gKs D cs) p1 0 9 _ h) (zr_SS (As := [.int p1, .int 0, .int 9]) (rest := []) O hE.1 3 gX11_latest_X11_within rfl rfl rfl (by decide +kernel) ⟨(Nat.le_of_ble_eq_true rfl), (Nat.le_of_ble_eq_true rfl)⟩ ⟨(Nat.le_of_ble_eq_true rfl), (Nat.le_of_ble_eq_true rfl)⟩ rfl rfl (Nat.le_of_ble_eq_true rfl) dX11_latest_4) (fun r1 h => ?_)
  refine z_if_eq O 21 dX11_latest_7 (by decide) (fun c3 => ?_) (fun c3 => ?_)
  · replace h := h.1 c3
    refine z_iconst (v := -1) O dX11_latest_21 rfl ?_
    exact z_retR O hE (fun _ h => h.1) rfl dX11_latest_22 h
  · replace h := h.2 c3
    refine z_aload_n O dX11_latest_10 0 rfl ?_
    refine z_getf O hK.1 (hX _) (by decide) xe_11 rfl i11 1 (by decide) (by decide +kernel) rfl dX11_latest_11 ?_
    refine z_iload_n O dX11_latest_14 1 rfl ?_
    refine z_callR (gKs D cs) hK (fun _ h => h.2) (t_X6_latestOf x 29 xk_29 p1 _ h) (zr_V (As := [.int p1]) (rest := []) O hE.1 1 gX11_latest_X6_latestOf rfl rfl rfl (by decide +kernel) ⟨(Nat.le_of_ble_eq_true rfl), (Nat.le_of_ble_eq_true rfl)⟩ ⟨(Nat.le_of_ble_eq_true rfl), (Nat.le_of_ble_eq_true rfl)⟩ (fun H hH => z_recv hK.1 (hX _ H hH) (xk_29).1 (xe_6 xk_29) rfl) rfl rfl (Nat.le_of_ble_eq_true rfl) dX11_latest_15) (fun r2 h => ?_)
    refine z_goto O 22 dX11_latest_18 (by decide) ?_
    exact z_retR O hE (fun _ h => h.1) rfl dX11_latest_22 h
def wp_X11_seenInAll (x : XS)  (p1 : Int32) (Q : Int32 → Prop) : Prop :=
 (∃ (I4 : Int32 → Int32 → Prop) (U4 : Int32 → Int32 → Nat), I4 0 0 ∧ ∀ (y1 : Int32) (y2 : Int32), I4 y1 y2 →
 ((6 ≤ y2 →
 Q y1) ∧ (¬ 6 ≤ y2 →
 ((¬ ((p1 >>> (y2 &&& 31)) &&& 1) = 1 →
 (I4 y1 (y2 + 1) ∧ U4 y1 (y2 + 1) < U4 y1 y2)) ∧ (((p1 >>> (y2 &&& 31)) &&& 1) = 1 →
 (vp_in y2 6 ∧
 (I4 (y1 ||| (x.2.1 27 (Int32.toNatClampNeg y2))) (y2 + 1) ∧ U4 (y1 ||| (x.2.1 27 (Int32.toNatClampNeg y2))) (y2 + 1) < U4 y1 y2)))))))
set_option maxHeartbeats 4000000 in
set_option maxRecDepth 100000 in
theorem t_X11_seenInAll {l : Launch} {D : va_G} {cs : Nat → ClassId} {ad : Nat → Nat} (x : XS)  (p1 : Int32) (Q : Int32 → Prop) (h : wp_X11_seenInAll x  p1 Q) : zMR l yX11_seenInAll wsX11_seenInAll ({ frames := 0, cells := 0, slots := 0, locals := 0 } : Room) (gK D cs) (XH D cs ad) x [.ref (ad 0), .int p1] Q := by
  refine zMR_of (cc := cX11_seenInAll) (nL := 4) (ret := (some .int)) (by decide +kernel) rfl (Nat.le_of_ble_eq_true rfl) (fun C hl O hE hK hH => ?_)
  subst hl
  have hX : ∀ (x : XS) (H : Heap), z0 (XH D cs ad) C.s.heap x H → va_P D vwCl (wl 161 ad (XE cs ad x)) H := fun _ _ h => h.2
  have i11 : ∀ w ∈ wsX110, w ∈ wsX11_seenInAll := by decide +kernel
  refine z_sub (lv' := [(0, .ref (ad 0)), (1, .int p1)]) [0, 1] rfl ?_
  refine z_iconst (v := 0) O dX11_seenInAll_0 rfl ?_
  refine z_istore_n (lv' := [(2, .int 0), (0, .ref (ad 0)), (1, .int p1)]) O dX11_seenInAll_1 (by decide) rfl ?_
  refine z_iconst (v := 0) O dX11_seenInAll_2 rfl ?_
  refine z_istore_n (lv' := [(3, .int 0), (2, .int 0), (0, .ref (ad 0)), (1, .int p1)]) O dX11_seenInAll_3 (by decide) rfl ?_
  obtain ⟨I4, U4, h0, hs⟩ := h
  have kI4 : ∀ (n : Nat) (y1 : Int32) (y2 : Int32), U4 y1 y2 < n → I4 y1 y2 → Z C (fun _ => False) (z0 (XH D cs ad) C.s.heap) 4 x [(0, .ref (ad 0)), (1, .int p1), (2, .int y1), (3, .int y2)] 0 0 4 [] := by
    intro n
    induction n with
    | zero => intro y1 y2 uI4; exact absurd uI4 (Nat.not_lt_zero _)
    | succ n iI4 =>
      intro y1 y2 uI4 h
      have h := hs y1 y2 h
      refine z_iload_n O dX11_seenInAll_4 3 rfl ?_
      refine z_bipush (v := 6) O dX11_seenInAll_5 rfl ?_
      refine z_icmp_ge O 34 dX11_seenInAll_7 (by decide) (fun c4 => ?_) (fun c4 => ?_)
      · replace h := h.1 c4
        refine z_iload_n O dX11_seenInAll_34 2 rfl ?_
        exact z_retR O hE (fun _ h => h.1) rfl dX11_seenInAll_35 h
      · replace h := h.2 c4
        refine z_iload_n O dX11_seenInAll_10 1 rfl ?_
        refine z_iload_n O dX11_seenInAll_11 3 rfl ?_
        refine z_ishr O dX11_seenInAll_12 ?_
        refine z_iconst (v := 1) O dX11_seenInAll_13 rfl ?_
        refine z_iand O dX11_seenInAll_14 ?_
        refine z_iconst (v := 1) O dX11_seenInAll_15 rfl ?_
        refine z_icmp_ne O 28 dX11_seenInAll_16 (by decide) (fun c3 => ?_) (fun c3 => ?_)
        · replace h := h.1 c3
          refine z_iinc (lv' := [(3, .int (y2 + 1)), (0, .ref (ad 0)), (1, .int p1), (2, .int y1)]) O dX11_seenInAll_28 3 rfl rfl (by decide) rfl ?_
          refine z_goto O 4 dX11_seenInAll_31 (by decide) ?_
          exact z_sub [1, 2, 3, 0] rfl (iI4 y1 (y2 + 1) (Nat.lt_of_lt_of_le h.2 (Nat.le_of_lt_succ uI4)) h.1)
        · replace h := h.2 c3
          refine z_iload_n O dX11_seenInAll_19 2 rfl ?_
          refine z_aload_n O dX11_seenInAll_20 0 rfl ?_
          refine z_getf O hK.1 (hX _) (by decide) xe_11 rfl i11 5 (by decide) (by decide +kernel) rfl dX11_seenInAll_21 ?_
          refine z_iload_n O dX11_seenInAll_24 3 rfl ?_
          refine z_iald O hK.1 (hX _) 0 (xk_27).1 (xe_20 xk_27) rfl (xin xl_27 h.1) dX11_seenInAll_25 ?_
          replace h := h.2
          refine z_ior O dX11_seenInAll_26 ?_
          refine z_istore_n (lv' := [(2, .int (y1 ||| (x.2.1 27 (Int32.toNatClampNeg y2)))), (0, .ref (ad 0)), (1, .int p1), (3, .int y2)]) O dX11_seenInAll_27 (by decide) rfl ?_
          refine z_iinc (lv' := [(3, .int (y2 + 1)), (2, .int (y1 ||| (x.2.1 27 (Int32.toNatClampNeg y2)))), (0, .ref (ad 0)), (1, .int p1)]) O dX11_seenInAll_28 3 rfl rfl (by decide) rfl ?_
          refine z_goto O 4 dX11_seenInAll_31 (by decide) ?_
          exact z_sub [2, 3, 1, 0] rfl (iI4 (y1 ||| (x.2.1 27 (Int32.toNatClampNeg y2))) (y2 + 1) (Nat.lt_of_lt_of_le h.2 (Nat.le_of_lt_succ uI4)) h.1)
  exact z_sub [2, 3, 1, 0] rfl (kI4 _ 0 0 (Nat.lt_succ_self _) h0)
def wp_X11_seen (x : XS)  (p1 : Int32) (p2 : Int32) (Q : Int32 → XS → Prop) : Prop :=
 wp_X11_within p1 0 63 (fun r1 : Int32 =>
 ((r1 = 0 →
 Q (-1) x) ∧ (¬ r1 = 0 →
 wp_X11_within p2 0 99 (fun r2 : Int32 =>
 ((¬ r2 = 0 →
 wp_X6_tellSeen x 29 27 p2 (fun (x3 : XS) =>
 wp_X11_seenInAll x3 p1 (fun r4 : Int32 =>
 Q r4 x3))) ∧ (r2 = 0 →
 Q (-1) x))))))
set_option maxHeartbeats 4000000 in
set_option maxRecDepth 100000 in
theorem t_X11_seen {l : Launch} {D : va_G} {cs : Nat → ClassId} {ad : Nat → Nat} (hI : wInj 161 ad) (x : XS)  (p1 : Int32) (p2 : Int32) (Q : Int32 → XS → Prop) (h : wp_X11_seen x  p1 p2 Q) : zWR l yX11_seen wsX11_seen ({ frames := 4, cells := 0, slots := 0, locals := 90 } : Room) (gK D cs) (XH D cs ad) (wB 161 ad) x [.ref (ad 0), .int p1, .int p2] 0 0 Q := by
  refine zWR_of (cc := cX11_seen) (nL := 3) (ret := (some .int)) (by decide +kernel) rfl (Nat.le_of_ble_eq_true rfl) (fun C hl O hE hK => ?_)
  subst hl
  have hX : ∀ (x : XS) (H : Heap), XH D cs ad x H → va_P D vwCl (wl 161 ad (XE cs ad x)) H := fun _ _ h => h
  have hB : ∀ {x : XS} (H : Heap), va_P D vwCl (wl 161 ad (XE cs ad x)) H → XH D cs ad x H := fun _ h => h
  have hA : ∀ q, wB 161 ad q → zA (wB 161 ad) C.s.heap.size q := fun _ h => Or.inl h
  have i11 : ∀ w ∈ wsX110, w ∈ wsX11_seen := by decide +kernel
  refine z_sub (lv' := [(0, .ref (ad 0)), (1, .int p1), (2, .int p2)]) [0, 1, 2] rfl ?_
  refine z_iload_n O dX11_seen_0 1 rfl ?_
  refine z_iconst (v := 0) O dX11_seen_1 rfl ?_
  refine z_bipush (v := 63) O dX11_seen_2 rfl ?_
  refine z_callR (gKs D cs) hK (fun _ h => h) (t_X11_within (gKs D cs) p1 0 63 _ h) (zr_SS (As := [.int p1, .int 0, .int 63]) (rest := []) O hE.1 3 gX11_seen_X11_within rfl rfl rfl (by decide +kernel) ⟨(Nat.le_of_ble_eq_true rfl), (Nat.le_of_ble_eq_true rfl)⟩ ⟨(Nat.le_of_ble_eq_true rfl), (Nat.le_of_ble_eq_true rfl)⟩ rfl rfl (Nat.le_of_ble_eq_true rfl) dX11_seen_4) (fun r1 h => ?_)
  refine z_if_eq O 20 dX11_seen_7 (by decide) (fun c6 => ?_) (fun c6 => ?_)
  · replace h := h.1 c6
    refine z_iconst (v := -1) O dX11_seen_20 rfl ?_
    exact z_retWR O hE (Nat.le_of_ble_eq_true rfl) (Nat.le_of_ble_eq_true rfl) rfl dX11_seen_21 h
  · replace h := h.2 c6
    refine z_iload_n O dX11_seen_10 2 rfl ?_
    refine z_iconst (v := 0) O dX11_seen_11 rfl ?_
    refine z_bipush (v := 99) O dX11_seen_12 rfl ?_
    refine z_callR (gKs D cs) hK (fun _ h => h) (t_X11_within (gKs D cs) p2 0 99 _ h) (zr_SS (As := [.int p2, .int 0, .int 99]) (rest := []) O hE.1 3 gX11_seen_X11_within rfl rfl rfl (by decide +kernel) ⟨(Nat.le_of_ble_eq_true rfl), (Nat.le_of_ble_eq_true rfl)⟩ ⟨(Nat.le_of_ble_eq_true rfl), (Nat.le_of_ble_eq_true rfl)⟩ rfl rfl (Nat.le_of_ble_eq_true rfl) dX11_seen_14) (fun r2 h => ?_)
    refine z_if_ne O 22 dX11_seen_17 (by decide) (fun c5 => ?_) (fun c5 => ?_)
    · replace h := h.1 c5
      refine z_aload_n O dX11_seen_22 0 rfl ?_
      refine z_getf O hK.1 (hX _) (by decide) xe_11 rfl i11 1 (by decide) (by decide +kernel) rfl dX11_seen_23 ?_
      refine z_iload_n O dX11_seen_26 2 rfl ?_
      refine z_aload_n O dX11_seen_27 0 rfl ?_
      refine z_getf O hK.1 (hX _) (by decide) xe_11 rfl i11 5 (by decide) (by decide +kernel) rfl dX11_seen_28 ?_
      refine z_cWV (gKs D cs) hK (fun _ h => h) (fun _ h => Or.inl h) (fun _ h => Or.inr h) (t_X6_tellSeen hI x 29 xk_29 27 xk_27 p2 _ h) (zr_V (As := [.int p2, .ref (ad 27)]) (rest := []) O hE.1 2 gX11_seen_X6_tellSeen rfl rfl rfl (by decide +kernel) ⟨(Nat.le_of_ble_eq_true rfl), (Nat.le_of_ble_eq_true rfl)⟩ ⟨(Nat.le_of_ble_eq_true rfl), (Nat.le_of_ble_eq_true rfl)⟩ (fun H hH => z_recv hK.1 (hX _ H hH) (xk_29).1 (xe_6 xk_29) rfl) rfl rfl (Nat.le_of_ble_eq_true rfl) dX11_seen_31) (fun x3 h => ?_)
      refine z_aload_n O dX11_seen_34 0 rfl ?_
      refine z_iload_n O dX11_seen_35 1 rfl ?_
      refine z_callR (gKs D cs) hK (fun _ h => h) (t_X11_seenInAll x3  p1 _ h) (zr_V (As := [.int p1]) (rest := []) O hE.1 1 gX11_seen_X11_seenInAll rfl rfl rfl (by decide +kernel) ⟨(Nat.le_of_ble_eq_true rfl), (Nat.le_of_ble_eq_true rfl)⟩ ⟨(Nat.le_of_ble_eq_true rfl), (Nat.le_of_ble_eq_true rfl)⟩ (fun H hH => z_recv hK.1 (hX _ H hH) (by decide) xe_11 rfl) rfl rfl (Nat.le_of_ble_eq_true rfl) dX11_seen_36) (fun r4 h => ?_)
      exact z_retWR O hE (Nat.le_of_ble_eq_true rfl) (Nat.le_of_ble_eq_true rfl) rfl dX11_seen_39 h
    · replace h := h.2 c5
      refine z_iconst (v := -1) O dX11_seen_20 rfl ?_
      exact z_retWR O hE (Nat.le_of_ble_eq_true rfl) (Nat.le_of_ble_eq_true rfl) rfl dX11_seen_21 h
def wp_X11_holes (x : XS)  (p1 : Int32) (p2 : Int32) (Q : Int32 → XS → Prop) : Prop :=
 wp_X11_within p1 0 1023 (fun r1 : Int32 =>
 ((r1 = 0 →
 Q (-1) x) ∧ (¬ r1 = 0 →
 wp_X11_within p2 0 99 (fun r2 : Int32 =>
 ((¬ r2 = 0 →
 wp_X6_tellSeen x 29 27 p2 (fun (x3 : XS) =>
 (∃ (I45 : Int32 → Int32 → Int32 → Prop) (U45 : Int32 → Int32 → Int32 → Nat), I45 (-4) 7 0 ∧ ∀ (y4 : Int32) (y5 : Int32) (y6 : Int32), I45 y4 y5 y6 →
 ((64 ≤ y6 →
 Q y4 x3) ∧ (¬ 64 ≤ y6 →
 wp_J6_bitCount_0f7a4 y6 (fun r7 : Int32 =>
 ((y5 ≤ r7 →
 (I45 y4 y5 (y6 + 1) ∧ U45 y4 y5 (y6 + 1) < U45 y4 y5 y6)) ∧ (¬ y5 ≤ r7 →
 wp_X11_seenInAll x3 y6 (fun r8 : Int32 =>
 ((¬ (p1 &&& (r8 ^^^ (-1))) = 0 →
 (I45 y4 y5 (y6 + 1) ∧ U45 y4 y5 (y6 + 1) < U45 y4 y5 y6)) ∧ ((p1 &&& (r8 ^^^ (-1))) = 0 →
 wp_J6_bitCount_0f7a4 y6 (fun r9 : Int32 =>
 (I45 y6 r9 (y6 + 1) ∧ U45 y6 r9 (y6 + 1) < U45 y4 y5 y6))))))))))))) ∧ (r2 = 0 →
 Q (-1) x))))))
set_option maxHeartbeats 4000000 in
set_option maxRecDepth 100000 in
theorem t_X11_holes {l : Launch} {D : va_G} {cs : Nat → ClassId} {ad : Nat → Nat} (hI : wInj 161 ad) (x : XS)  (p1 : Int32) (p2 : Int32) (Q : Int32 → XS → Prop) (h : wp_X11_holes x  p1 p2 Q) : zWR l yX11_holes wsX11_holes ({ frames := 4, cells := 0, slots := 0, locals := 90 } : Room) (gK D cs) (XH D cs ad) (wB 161 ad) x [.ref (ad 0), .int p1, .int p2] 0 0 Q := by
  refine zWR_of (cc := cX11_holes) (nL := 6) (ret := (some .int)) (by decide +kernel) rfl (Nat.le_of_ble_eq_true rfl) (fun C hl O hE hK => ?_)
  subst hl
  have hX : ∀ (x : XS) (H : Heap), XH D cs ad x H → va_P D vwCl (wl 161 ad (XE cs ad x)) H := fun _ _ h => h
  have hB : ∀ {x : XS} (H : Heap), va_P D vwCl (wl 161 ad (XE cs ad x)) H → XH D cs ad x H := fun _ h => h
  have hA : ∀ q, wB 161 ad q → zA (wB 161 ad) C.s.heap.size q := fun _ h => Or.inl h
  have i11 : ∀ w ∈ wsX110, w ∈ wsX11_holes := by decide +kernel
  refine z_sub (lv' := [(0, .ref (ad 0)), (1, .int p1), (2, .int p2)]) [0, 1, 2] rfl ?_
  refine z_iload_n O dX11_holes_0 1 rfl ?_
  refine z_iconst (v := 0) O dX11_holes_1 rfl ?_
  refine z_sipush (v := 1023) O dX11_holes_2 rfl ?_
  refine z_callR (gKs D cs) hK (fun _ h => h) (t_X11_within (gKs D cs) p1 0 1023 _ h) (zr_SS (As := [.int p1, .int 0, .int 1023]) (rest := []) O hE.1 3 gX11_holes_X11_within rfl rfl rfl (by decide +kernel) ⟨(Nat.le_of_ble_eq_true rfl), (Nat.le_of_ble_eq_true rfl)⟩ ⟨(Nat.le_of_ble_eq_true rfl), (Nat.le_of_ble_eq_true rfl)⟩ rfl rfl (Nat.le_of_ble_eq_true rfl) dX11_holes_5) (fun r1 h => ?_)
  refine z_if_eq O 21 dX11_holes_8 (by decide) (fun c14 => ?_) (fun c14 => ?_)
  · replace h := h.1 c14
    refine z_iconst (v := -1) O dX11_holes_21 rfl ?_
    exact z_retWR O hE (Nat.le_of_ble_eq_true rfl) (Nat.le_of_ble_eq_true rfl) rfl dX11_holes_22 h
  · replace h := h.2 c14
    refine z_iload_n O dX11_holes_11 2 rfl ?_
    refine z_iconst (v := 0) O dX11_holes_12 rfl ?_
    refine z_bipush (v := 99) O dX11_holes_13 rfl ?_
    refine z_callR (gKs D cs) hK (fun _ h => h) (t_X11_within (gKs D cs) p2 0 99 _ h) (zr_SS (As := [.int p2, .int 0, .int 99]) (rest := []) O hE.1 3 gX11_holes_X11_within rfl rfl rfl (by decide +kernel) ⟨(Nat.le_of_ble_eq_true rfl), (Nat.le_of_ble_eq_true rfl)⟩ ⟨(Nat.le_of_ble_eq_true rfl), (Nat.le_of_ble_eq_true rfl)⟩ rfl rfl (Nat.le_of_ble_eq_true rfl) dX11_holes_15) (fun r2 h => ?_)
    refine z_if_ne O 23 dX11_holes_18 (by decide) (fun c13 => ?_) (fun c13 => ?_)
    · replace h := h.1 c13
      refine z_aload_n O dX11_holes_23 0 rfl ?_
      refine z_getf O hK.1 (hX _) (by decide) xe_11 rfl i11 1 (by decide) (by decide +kernel) rfl dX11_holes_24 ?_
      refine z_iload_n O dX11_holes_27 2 rfl ?_
      refine z_aload_n O dX11_holes_28 0 rfl ?_
      refine z_getf O hK.1 (hX _) (by decide) xe_11 rfl i11 5 (by decide) (by decide +kernel) rfl dX11_holes_29 ?_
      refine z_cWV (gKs D cs) hK (fun _ h => h) (fun _ h => Or.inl h) (fun _ h => Or.inr h) (t_X6_tellSeen hI x 29 xk_29 27 xk_27 p2 _ h) (zr_V (As := [.int p2, .ref (ad 27)]) (rest := []) O hE.1 2 gX11_holes_X6_tellSeen rfl rfl rfl (by decide +kernel) ⟨(Nat.le_of_ble_eq_true rfl), (Nat.le_of_ble_eq_true rfl)⟩ ⟨(Nat.le_of_ble_eq_true rfl), (Nat.le_of_ble_eq_true rfl)⟩ (fun H hH => z_recv hK.1 (hX _ H hH) (xk_29).1 (xe_6 xk_29) rfl) rfl rfl (Nat.le_of_ble_eq_true rfl) dX11_holes_32) (fun x3 h => ?_)
      refine z_bipush (v := -4) O dX11_holes_35 rfl ?_
      refine z_istore_n (lv' := [(3, .int (-4)), (0, .ref (ad 0)), (1, .int p1), (2, .int p2)]) O dX11_holes_37 (by decide) rfl ?_
      refine z_bipush (v := 7) O dX11_holes_38 rfl ?_
      refine z_istore (lv' := [(4, .int 7), (3, .int (-4)), (0, .ref (ad 0)), (1, .int p1), (2, .int p2)]) O dX11_holes_40 (by decide) rfl ?_
      refine z_iconst (v := 0) O dX11_holes_42 rfl ?_
      refine z_istore (lv' := [(5, .int 0), (4, .int 7), (3, .int (-4)), (0, .ref (ad 0)), (1, .int p1), (2, .int p2)]) O dX11_holes_43 (by decide) rfl ?_
      obtain ⟨I45, U45, h0, hs⟩ := h
      have kI45 : ∀ (n : Nat) (y4 : Int32) (y5 : Int32) (y6 : Int32), U45 y4 y5 y6 < n → I45 y4 y5 y6 → Z C (zA (wB 161 ad) C.s.heap.size) (XH D cs ad) 6 x3 [(0, .ref (ad 0)), (1, .int p1), (3, .int y4), (4, .int y5), (5, .int y6)] 0 0 45 [] := by
        intro n
        induction n with
        | zero => intro y4 y5 y6 uI45; exact absurd uI45 (Nat.not_lt_zero _)
        | succ n iI45 =>
          intro y4 y5 y6 uI45 h
          have h := hs y4 y5 y6 h
          refine z_iload O dX11_holes_45 4 rfl ?_
          refine z_bipush (v := 64) O dX11_holes_47 rfl ?_
          refine z_icmp_ge O 91 dX11_holes_49 (by decide) (fun c12 => ?_) (fun c12 => ?_)
          · replace h := h.1 c12
            refine z_iload_n O dX11_holes_91 2 rfl ?_
            exact z_retWR O hE (Nat.le_of_ble_eq_true rfl) (Nat.le_of_ble_eq_true rfl) rfl dX11_holes_92 h
          · replace h := h.2 c12
            refine z_iload O dX11_holes_52 4 rfl ?_
            refine z_callR (gKs D cs) hK (fun _ h => h) (t_J6_bitCount_0f7a4 (gKs D cs) y6 _ h) (zr_SS (As := [.int y6]) (rest := []) O hE.1 1 gX11_holes_J6_bitCount_0f7a4 rfl rfl rfl (by decide +kernel) ⟨(Nat.le_of_ble_eq_true rfl), (Nat.le_of_ble_eq_true rfl)⟩ ⟨(Nat.le_of_ble_eq_true rfl), (Nat.le_of_ble_eq_true rfl)⟩ rfl rfl (Nat.le_of_ble_eq_true rfl) dX11_holes_54) (fun r7 h => ?_)
            refine z_iload O dX11_holes_57 3 rfl ?_
            refine z_icmp_ge O 85 dX11_holes_59 (by decide) (fun c11 => ?_) (fun c11 => ?_)
            · replace h := h.1 c11
              refine z_iinc (lv' := [(5, .int (y6 + 1)), (0, .ref (ad 0)), (1, .int p1), (3, .int y4), (4, .int y5)]) O dX11_holes_85 4 rfl rfl (by decide) rfl ?_
              refine z_goto O 45 dX11_holes_88 (by decide) ?_
              exact z_sub [1, 2, 3, 4, 0] rfl (iI45 y4 y5 (y6 + 1) (Nat.lt_of_lt_of_le h.2 (Nat.le_of_lt_succ uI45)) h.1)
            · replace h := h.2 c11
              refine z_iload_n O dX11_holes_62 1 rfl ?_
              refine z_aload_n O dX11_holes_63 0 rfl ?_
              refine z_iload O dX11_holes_64 4 rfl ?_
              refine z_callR (gKs D cs) hK (fun _ h => h) (t_X11_seenInAll x3  y6 _ h) (zr_V (As := [.int y6]) (rest := [.int p1]) O hE.1 1 gX11_holes_X11_seenInAll rfl rfl rfl (by decide +kernel) ⟨(Nat.le_of_ble_eq_true rfl), (Nat.le_of_ble_eq_true rfl)⟩ ⟨(Nat.le_of_ble_eq_true rfl), (Nat.le_of_ble_eq_true rfl)⟩ (fun H hH => z_recv hK.1 (hX _ H hH) (by decide) xe_11 rfl) rfl rfl (Nat.le_of_ble_eq_true rfl) dX11_holes_66) (fun r8 h => ?_)
              refine z_iconst (v := -1) O dX11_holes_69 rfl ?_
              refine z_ixor O dX11_holes_70 ?_
              refine z_iand O dX11_holes_71 ?_
              refine z_if_ne O 85 dX11_holes_72 (by decide) (fun c10 => ?_) (fun c10 => ?_)
              · replace h := h.1 c10
                refine z_iinc (lv' := [(5, .int (y6 + 1)), (0, .ref (ad 0)), (1, .int p1), (3, .int y4), (4, .int y5)]) O dX11_holes_85 4 rfl rfl (by decide) rfl ?_
                refine z_goto O 45 dX11_holes_88 (by decide) ?_
                exact z_sub [1, 2, 3, 4, 0] rfl (iI45 y4 y5 (y6 + 1) (Nat.lt_of_lt_of_le h.2 (Nat.le_of_lt_succ uI45)) h.1)
              · replace h := h.2 c10
                refine z_iload O dX11_holes_75 4 rfl ?_
                refine z_istore_n (lv' := [(3, .int y6), (0, .ref (ad 0)), (1, .int p1), (4, .int y5), (5, .int y6)]) O dX11_holes_77 (by decide) rfl ?_
                refine z_iload O dX11_holes_78 4 rfl ?_
                refine z_callR (gKs D cs) hK (fun _ h => h) (t_J6_bitCount_0f7a4 (gKs D cs) y6 _ h) (zr_SS (As := [.int y6]) (rest := []) O hE.1 1 gX11_holes_J6_bitCount_0f7a4 rfl rfl rfl (by decide +kernel) ⟨(Nat.le_of_ble_eq_true rfl), (Nat.le_of_ble_eq_true rfl)⟩ ⟨(Nat.le_of_ble_eq_true rfl), (Nat.le_of_ble_eq_true rfl)⟩ rfl rfl (Nat.le_of_ble_eq_true rfl) dX11_holes_80) (fun r9 h => ?_)
                refine z_istore (lv' := [(4, .int r9), (3, .int y6), (0, .ref (ad 0)), (1, .int p1), (5, .int y6)]) O dX11_holes_83 (by decide) rfl ?_
                refine z_iinc (lv' := [(5, .int (y6 + 1)), (4, .int r9), (3, .int y6), (0, .ref (ad 0)), (1, .int p1)]) O dX11_holes_85 4 rfl rfl (by decide) rfl ?_
                refine z_goto O 45 dX11_holes_88 (by decide) ?_
                exact z_sub [3, 4, 2, 1, 0] rfl (iI45 y6 r9 (y6 + 1) (Nat.lt_of_lt_of_le h.2 (Nat.le_of_lt_succ uI45)) h.1)
      exact z_sub [3, 4, 2, 1, 0] rfl (kI45 _ (-4) 7 0 (Nat.lt_succ_self _) h0)
    · replace h := h.2 c13
      refine z_iconst (v := -1) O dX11_holes_21 rfl ?_
      exact z_retWR O hE (Nat.le_of_ble_eq_true rfl) (Nat.le_of_ble_eq_true rfl) rfl dX11_holes_22 h
def wp_X11_lasts (x : XS)  (p1 : Int32) (p2 : Int32) (Q : Int32 → Prop) : Prop :=
 wp_X6_cellAt x 29 p1 (fun r : Option Nat => match r with
 | none => Q (-1)
 | some o1 => xk o1 2 ∧
 wp_X2_has x o1 p2 (fun r2 : Int32 =>
 ((¬ r2 = 0 →
 wp_X2_daysOf x o1 p2 (fun r3 : Int32 =>
 Q r3)) ∧ (r2 = 0 →
 Q (-1)))))
set_option maxHeartbeats 4000000 in
set_option maxRecDepth 100000 in
theorem t_X11_lasts {l : Launch} {D : va_G} {cs : Nat → ClassId} {ad : Nat → Nat} (x : XS)  (p1 : Int32) (p2 : Int32) (Q : Int32 → Prop) (h : wp_X11_lasts x  p1 p2 Q) : zMR l yX11_lasts wsX11_lasts ({ frames := 3, cells := 0, slots := 0, locals := 66 } : Room) (gK D cs) (XH D cs ad) x [.ref (ad 0), .int p1, .int p2] Q := by
  refine zMR_of (cc := cX11_lasts) (nL := 4) (ret := (some .int)) (by decide +kernel) rfl (Nat.le_of_ble_eq_true rfl) (fun C hl O hE hK hH => ?_)
  subst hl
  have hX : ∀ (x : XS) (H : Heap), z0 (XH D cs ad) C.s.heap x H → va_P D vwCl (wl 161 ad (XE cs ad x)) H := fun _ _ h => h.2
  have i11 : ∀ w ∈ wsX110, w ∈ wsX11_lasts := by decide +kernel
  refine z_sub (lv' := [(0, .ref (ad 0)), (1, .int p1), (2, .int p2)]) [0, 1, 2] rfl ?_
  refine z_aload_n O dX11_lasts_0 0 rfl ?_
  refine z_getf O hK.1 (hX _) (by decide) xe_11 rfl i11 1 (by decide) (by decide +kernel) rfl dX11_lasts_1 ?_
  refine z_iload_n O dX11_lasts_4 1 rfl ?_
  refine z_callE (gKs D cs) hK (fun _ h => h.2) (t_X6_cellAt x 29 xk_29 p1 _ h) (zr_V (As := [.int p1]) (rest := []) O hE.1 1 gX11_lasts_X6_cellAt rfl rfl rfl (by decide +kernel) ⟨(Nat.le_of_ble_eq_true rfl), (Nat.le_of_ble_eq_true rfl)⟩ ⟨(Nat.le_of_ble_eq_true rfl), (Nat.le_of_ble_eq_true rfl)⟩ (fun H hH => z_recv hK.1 (hX _ H hH) (xk_29).1 (xe_6 xk_29) rfl) rfl rfl (Nat.le_of_ble_eq_true rfl) dX11_lasts_5) (fun h => ?_) (fun o1 h => ?_)
  · skip
    refine z_astore_nN (lv' := [(3, .null), (0, .ref (ad 0)), (1, .int p1), (2, .int p2)]) O dX11_lasts_8 (by decide) rfl ?_
    refine z_aload_nN O dX11_lasts_9 0 rfl ?_
    refine z_ifnullN O 21 dX11_lasts_10 (by decide) ?_
    refine z_iconst (v := -1) O dX11_lasts_21 rfl ?_
    refine z_goto O 30 dX11_lasts_22 (by decide) ?_
    exact z_retR O hE (fun _ h => h.1) rfl dX11_lasts_30 h
  · have ho1 := h.1
    replace h := h.2
    refine z_astore_n (lv' := [(3, .ref (ad o1)), (0, .ref (ad 0)), (1, .int p1), (2, .int p2)]) O dX11_lasts_8 (by decide) rfl ?_
    refine z_aload_n O dX11_lasts_9 0 rfl ?_
    refine z_ifnull O dX11_lasts_10 ?_
    refine z_aload_n O dX11_lasts_13 0 rfl ?_
    refine z_iload_n O dX11_lasts_14 3 rfl ?_
    refine z_callR (gKs D cs) hK (fun _ h => h.2) (t_X2_has x o1 ho1 p2 _ h) (zr_V (As := [.int p2]) (rest := []) O hE.1 1 gX11_lasts_X2_has rfl rfl rfl (by decide +kernel) ⟨(Nat.le_of_ble_eq_true rfl), (Nat.le_of_ble_eq_true rfl)⟩ ⟨(Nat.le_of_ble_eq_true rfl), (Nat.le_of_ble_eq_true rfl)⟩ (fun H hH => z_recv hK.1 (hX _ H hH) (ho1).1 (xe_2 ho1) rfl) rfl rfl (Nat.le_of_ble_eq_true rfl) dX11_lasts_15) (fun r2 h => ?_)
    refine z_if_ne O 25 dX11_lasts_18 (by decide) (fun c4 => ?_) (fun c4 => ?_)
    · replace h := h.1 c4
      refine z_aload_n O dX11_lasts_25 0 rfl ?_
      refine z_iload_n O dX11_lasts_26 3 rfl ?_
      refine z_callR (gKs D cs) hK (fun _ h => h.2) (t_X2_daysOf x o1 ho1 p2 _ h) (zr_V (As := [.int p2]) (rest := []) O hE.1 1 gX11_lasts_X2_daysOf rfl rfl rfl (by decide +kernel) ⟨(Nat.le_of_ble_eq_true rfl), (Nat.le_of_ble_eq_true rfl)⟩ ⟨(Nat.le_of_ble_eq_true rfl), (Nat.le_of_ble_eq_true rfl)⟩ (fun H hH => z_recv hK.1 (hX _ H hH) (ho1).1 (xe_2 ho1) rfl) rfl rfl (Nat.le_of_ble_eq_true rfl) dX11_lasts_27) (fun r3 h => ?_)
      exact z_retR O hE (fun _ h => h.1) rfl dX11_lasts_30 h
    · replace h := h.2 c4
      refine z_iconst (v := -1) O dX11_lasts_21 rfl ?_
      refine z_goto O 30 dX11_lasts_22 (by decide) ?_
      exact z_retR O hE (fun _ h => h.1) rfl dX11_lasts_30 h
def wp_X11_frost (x : XS)  (p1 : Int32) (p2 : Int32) (p3 : Int32) (Q : Int32 → Prop) : Prop :=
 wp_X11_isKindAndOath p1 p2 (fun r1 : Int32 =>
 ((r1 = 0 →
 Q (-1)) ∧ (¬ r1 = 0 →
 wp_X11_within p3 1 99 (fun r2 : Int32 =>
 ((¬ r2 = 0 →
 wp_X11_kindOf x p1 (fun r : Option Nat => match r with
 | none => False
 | some o3 => o3 < 8 ∧
 (∃ (I33 : Int32 → Prop) (U33 : Int32 → Nat), I33 1 ∧ ∀ (y4 : Int32), I33 y4 →
 ((9 < y4 →
 Q (-4)) ∧ (¬ 9 < y4 →
 wv_fingersIn o3 y4 p2 (fun r5 : Int32 =>
 wv_melts o3 p2 (fun r6 : Int32 =>
 ((r5 ≤ (p3 * r6) →
 (I33 (y4 + 1) ∧ U33 (y4 + 1) < U33 y4)) ∧ (¬ r5 ≤ (p3 * r6) →
 Q y4))))))))) ∧ (r2 = 0 →
 Q (-1)))))))
set_option maxHeartbeats 4000000 in
set_option maxRecDepth 100000 in
theorem t_X11_frost {l : Launch} {D : va_G} {cs : Nat → ClassId} {ad : Nat → Nat} (x : XS)  (p1 : Int32) (p2 : Int32) (p3 : Int32) (Q : Int32 → Prop) (h : wp_X11_frost x  p1 p2 p3 Q) : zMR l yX11_frost wsX11_frost ({ frames := 3, cells := 0, slots := 0, locals := 66 } : Room) (gK D cs) (XH D cs ad) x [.ref (ad 0), .int p1, .int p2, .int p3] Q := by
  refine zMR_of (cc := cX11_frost) (nL := 6) (ret := (some .int)) (by decide +kernel) rfl (Nat.le_of_ble_eq_true rfl) (fun C hl O hE hK hH => ?_)
  subst hl
  have hX : ∀ (x : XS) (H : Heap), z0 (XH D cs ad) C.s.heap x H → va_P D vwCl (wl 161 ad (XE cs ad x)) H := fun _ _ h => h.2
  have i11 : ∀ w ∈ wsX110, w ∈ wsX11_frost := by decide +kernel
  refine z_sub (lv' := [(0, .ref (ad 0)), (1, .int p1), (2, .int p2), (3, .int p3)]) [0, 1, 2, 3] rfl ?_
  refine z_iload_n O dX11_frost_0 1 rfl ?_
  refine z_iload_n O dX11_frost_1 2 rfl ?_
  refine z_callR (gKs D cs) hK (fun _ h => h.2) (t_X11_isKindAndOath (gKs D cs) p1 p2 _ h) (zr_SS (As := [.int p1, .int p2]) (rest := []) O hE.1 2 gX11_frost_X11_isKindAndOath rfl rfl rfl (by decide +kernel) ⟨(Nat.le_of_ble_eq_true rfl), (Nat.le_of_ble_eq_true rfl)⟩ ⟨(Nat.le_of_ble_eq_true rfl), (Nat.le_of_ble_eq_true rfl)⟩ rfl rfl (Nat.le_of_ble_eq_true rfl) dX11_frost_2) (fun r1 h => ?_)
  refine z_if_eq O 18 dX11_frost_5 (by decide) (fun c10 => ?_) (fun c10 => ?_)
  · replace h := h.1 c10
    refine z_iconst (v := -1) O dX11_frost_18 rfl ?_
    exact z_retR O hE (fun _ h => h.1) rfl dX11_frost_19 h
  · replace h := h.2 c10
    refine z_iload_n O dX11_frost_8 3 rfl ?_
    refine z_iconst (v := 1) O dX11_frost_9 rfl ?_
    refine z_bipush (v := 99) O dX11_frost_10 rfl ?_
    refine z_callR (gKs D cs) hK (fun _ h => h.2) (t_X11_within (gKs D cs) p3 1 99 _ h) (zr_SS (As := [.int p3, .int 1, .int 99]) (rest := []) O hE.1 3 gX11_frost_X11_within rfl rfl rfl (by decide +kernel) ⟨(Nat.le_of_ble_eq_true rfl), (Nat.le_of_ble_eq_true rfl)⟩ ⟨(Nat.le_of_ble_eq_true rfl), (Nat.le_of_ble_eq_true rfl)⟩ rfl rfl (Nat.le_of_ble_eq_true rfl) dX11_frost_12) (fun r2 h => ?_)
    refine z_if_ne O 20 dX11_frost_15 (by decide) (fun c9 => ?_) (fun c9 => ?_)
    · replace h := h.1 c9
      refine z_aload_n O dX11_frost_20 0 rfl ?_
      refine z_getf O hK.1 (hX _) (by decide) xe_11 rfl i11 0 (by decide) (by decide +kernel) rfl dX11_frost_21 ?_
      refine z_iload_n O dX11_frost_24 1 rfl ?_
      refine z_callE (gKs D cs) hK (fun _ h => h.2) (t_X11_kindOf x  p1 _ h) (zr_SS (As := [.ref (ad 1), .int p1]) (rest := []) O hE.1 2 gX11_frost_X11_kindOf rfl rfl rfl (by decide +kernel) ⟨(Nat.le_of_ble_eq_true rfl), (Nat.le_of_ble_eq_true rfl)⟩ ⟨(Nat.le_of_ble_eq_true rfl), (Nat.le_of_ble_eq_true rfl)⟩ rfl rfl (Nat.le_of_ble_eq_true rfl) dX11_frost_25) (fun h => False.elim h) (fun o3 h => ?_)
      have ho3 := h.1
      replace h := h.2
      refine z_astore (lv' := [(4, .ref (ad (2 + o3))), (0, .ref (ad 0)), (1, .int p1), (2, .int p2), (3, .int p3)]) O dX11_frost_28 (by decide) rfl ?_
      refine z_iconst (v := 1) O dX11_frost_30 rfl ?_
      refine z_istore (lv' := [(5, .int 1), (4, .ref (ad (2 + o3))), (0, .ref (ad 0)), (1, .int p1), (2, .int p2), (3, .int p3)]) O dX11_frost_31 (by decide) rfl ?_
      obtain ⟨I33, U33, h0, hs⟩ := h
      have kI33 : ∀ (n : Nat) (y4 : Int32), U33 y4 < n → I33 y4 → Z C (fun _ => False) (z0 (XH D cs ad) C.s.heap) 6 x [(2, .int p2), (3, .int p3), (4, .ref (ad (2 + o3))), (5, .int y4)] 0 0 33 [] := by
        intro n
        induction n with
        | zero => intro y4 uI33; exact absurd uI33 (Nat.not_lt_zero _)
        | succ n iI33 =>
          intro y4 uI33 h
          have h := hs y4 h
          refine z_iload O dX11_frost_33 3 rfl ?_
          refine z_bipush (v := 9) O dX11_frost_35 rfl ?_
          refine z_icmp_gt O 68 dX11_frost_37 (by decide) (fun c8 => ?_) (fun c8 => ?_)
          · replace h := h.1 c8
            refine z_bipush (v := -4) O dX11_frost_68 rfl ?_
            exact z_retR O hE (fun _ h => h.1) rfl dX11_frost_70 h
          · replace h := h.2 c8
            refine z_aload O dX11_frost_40 2 rfl ?_
            refine z_iload O dX11_frost_42 3 rfl ?_
            refine z_iload_n O dX11_frost_44 0 rfl ?_
            obtain ⟨Qv, hQv⟩ : ∃ Z : Int32 → Prop, Z = (fun r5 : Int32 =>
 wv_melts o3 p2 (fun r6 : Int32 =>
 ((r5 ≤ (p3 * r6) →
 (I33 (y4 + 1) ∧ U33 (y4 + 1) < U33 y4)) ∧ (¬ r5 ≤ (p3 * r6) →
 Q y4)))) := ⟨_, rfl⟩
            have h : wv_fingersIn o3 y4 p2 Qv := by rw [hQv]; exact h
            have kv45 : ∀ r5 : Int32, Qv r5 → Z C (fun _ => False) (z0 (XH D cs ad) C.s.heap) 6 x [(2, .int p2), (3, .int p3), (4, .ref (ad (2 + o3))), (5, .int y4)] 0 0 48 [.int r5] := by
              intro r5 h
              rw [hQv] at h
              refine z_iload_n O dX11_frost_48 1 rfl ?_
              refine z_aload O dX11_frost_49 2 rfl ?_
              refine z_iload_n O dX11_frost_51 0 rfl ?_
              obtain ⟨Qv, hQv⟩ : ∃ Z : Int32 → Prop, Z = (fun r6 : Int32 =>
 ((r5 ≤ (p3 * r6) →
 (I33 (y4 + 1) ∧ U33 (y4 + 1) < U33 y4)) ∧ (¬ r5 ≤ (p3 * r6) →
 Q y4))) := ⟨_, rfl⟩
              have h : wv_melts o3 p2 Qv := by rw [hQv]; exact h
              have kv52 : ∀ r6 : Int32, Qv r6 → Z C (fun _ => False) (z0 (XH D cs ad) C.s.heap) 6 x [(2, .int p2), (3, .int p3), (4, .ref (ad (2 + o3))), (5, .int y4)] 0 0 55 [.int r6, .int p3, .int r5] := by
                intro r6 h
                rw [hQv] at h
                refine z_imul O dX11_frost_55 ?_
                refine z_icmp_le O 62 dX11_frost_56 (by decide) (fun c7 => ?_) (fun c7 => ?_)
                · replace h := h.1 c7
                  refine z_iinc (lv' := [(5, .int (y4 + 1)), (2, .int p2), (3, .int p3), (4, .ref (ad (2 + o3)))]) O dX11_frost_62 3 rfl rfl (by decide) rfl ?_
                  refine z_goto O 33 dX11_frost_65 (by decide) ?_
                  exact z_sub [1, 2, 3, 0] rfl (iI33 (y4 + 1) (Nat.lt_of_lt_of_le h.2 (Nat.le_of_lt_succ uI33)) h.1)
                · replace h := h.2 c7
                  refine z_iload O dX11_frost_59 3 rfl ?_
                  exact z_retR O hE (fun _ h => h.1) rfl dX11_frost_61 h
              clear hQv
              rcases xl8 ho3 with rfl | rfl | rfl | rfl | rfl | rfl | rfl | rfl
              · exact z_callR (gKs D cs) hK (fun _ h => h.2) (t_X7_melts x 0 (by decide) p2 _ h) (zr_V (As := [.int p2]) (rest := [.int p3, .int r5]) O hE.1 1 gX11_frost_X7_melts rfl rfl rfl (by decide +kernel) ⟨(Nat.le_of_ble_eq_true rfl), (Nat.le_of_ble_eq_true rfl)⟩ ⟨(Nat.le_of_ble_eq_true rfl), (Nat.le_of_ble_eq_true rfl)⟩ (fun H hH => z_recv hK.1 (hX _ H hH) (by decide) (xe_ly (k := 0) (by decide)) rfl) rfl rfl (Nat.le_of_ble_eq_true rfl) dX11_frost_52) kv52
              · exact z_callR (gKs D cs) hK (fun _ h => h.2) (t_X3_melts x 1 (by decide) p2 _ h) (zr_O (As := [.int p2]) (rest := [.int p3, .int r5]) O hE.1 1 gX11_frost_X3_melts_u164X3 rfl rfl rfl (b0 := cX7_melts) (m0 := 2) (r0 := (some .int)) (by decide +kernel) (by decide +kernel) ⟨(Nat.le_of_ble_eq_true rfl), (Nat.le_of_ble_eq_true rfl)⟩ ⟨(Nat.le_of_ble_eq_true rfl), (Nat.le_of_ble_eq_true rfl)⟩ (fun H hH => z_recv hK.1 (hX _ H hH) (by decide) (xe_ly (k := 1) (by decide)) rfl) rfl rfl (Nat.le_of_ble_eq_true rfl) dX11_frost_52) kv52
              · exact z_callR (gKs D cs) hK (fun _ h => h.2) (t_X5_melts x 2 (by decide) p2 _ h) (zr_O (As := [.int p2]) (rest := [.int p3, .int r5]) O hE.1 1 gX11_frost_X5_melts_u164X5 rfl rfl rfl (b0 := cX7_melts) (m0 := 2) (r0 := (some .int)) (by decide +kernel) (by decide +kernel) ⟨(Nat.le_of_ble_eq_true rfl), (Nat.le_of_ble_eq_true rfl)⟩ ⟨(Nat.le_of_ble_eq_true rfl), (Nat.le_of_ble_eq_true rfl)⟩ (fun H hH => z_recv hK.1 (hX _ H hH) (by decide) (xe_ly (k := 2) (by decide)) rfl) rfl rfl (Nat.le_of_ble_eq_true rfl) dX11_frost_52) kv52
              · exact z_callR (gKs D cs) hK (fun _ h => h.2) (t_X10_melts x 3 (by decide) p2 _ h) (zr_O (As := [.int p2]) (rest := [.int p3, .int r5]) O hE.1 1 gX11_frost_X10_melts_u164X10 rfl rfl rfl (b0 := cX7_melts) (m0 := 2) (r0 := (some .int)) (by decide +kernel) (by decide +kernel) ⟨(Nat.le_of_ble_eq_true rfl), (Nat.le_of_ble_eq_true rfl)⟩ ⟨(Nat.le_of_ble_eq_true rfl), (Nat.le_of_ble_eq_true rfl)⟩ (fun H hH => z_recv hK.1 (hX _ H hH) (by decide) (xe_ly (k := 3) (by decide)) rfl) rfl rfl (Nat.le_of_ble_eq_true rfl) dX11_frost_52) kv52
              · exact z_callR (gKs D cs) hK (fun _ h => h.2) (t_X1_melts x 4 (by decide) p2 _ h) (zr_O (As := [.int p2]) (rest := [.int p3, .int r5]) O hE.1 1 gX11_frost_X1_melts_u164X1 rfl rfl rfl (b0 := cX7_melts) (m0 := 2) (r0 := (some .int)) (by decide +kernel) (by decide +kernel) ⟨(Nat.le_of_ble_eq_true rfl), (Nat.le_of_ble_eq_true rfl)⟩ ⟨(Nat.le_of_ble_eq_true rfl), (Nat.le_of_ble_eq_true rfl)⟩ (fun H hH => z_recv hK.1 (hX _ H hH) (by decide) (xe_ly (k := 4) (by decide)) rfl) rfl rfl (Nat.le_of_ble_eq_true rfl) dX11_frost_52) kv52
              · exact z_callR (gKs D cs) hK (fun _ h => h.2) (t_X8_melts x 5 (by decide) p2 _ h) (zr_O (As := [.int p2]) (rest := [.int p3, .int r5]) O hE.1 1 gX11_frost_X8_melts_u164X8 rfl rfl rfl (b0 := cX7_melts) (m0 := 2) (r0 := (some .int)) (by decide +kernel) (by decide +kernel) ⟨(Nat.le_of_ble_eq_true rfl), (Nat.le_of_ble_eq_true rfl)⟩ ⟨(Nat.le_of_ble_eq_true rfl), (Nat.le_of_ble_eq_true rfl)⟩ (fun H hH => z_recv hK.1 (hX _ H hH) (by decide) (xe_ly (k := 5) (by decide)) rfl) rfl rfl (Nat.le_of_ble_eq_true rfl) dX11_frost_52) kv52
              · exact z_callR (gKs D cs) hK (fun _ h => h.2) (t_X3_melts x 6 (by decide) p2 _ h) (zr_O (As := [.int p2]) (rest := [.int p3, .int r5]) O hE.1 1 gX11_frost_X3_melts_u164X0 rfl rfl rfl (b0 := cX7_melts) (m0 := 2) (r0 := (some .int)) (by decide +kernel) (by decide +kernel) ⟨(Nat.le_of_ble_eq_true rfl), (Nat.le_of_ble_eq_true rfl)⟩ ⟨(Nat.le_of_ble_eq_true rfl), (Nat.le_of_ble_eq_true rfl)⟩ (fun H hH => z_recv hK.1 (hX _ H hH) (by decide) (xe_ly (k := 6) (by decide)) rfl) rfl rfl (Nat.le_of_ble_eq_true rfl) dX11_frost_52) kv52
              · exact z_callR (gKs D cs) hK (fun _ h => h.2) (t_X4_melts x 7 (by decide) p2 _ h) (zr_O (As := [.int p2]) (rest := [.int p3, .int r5]) O hE.1 1 gX11_frost_X4_melts_u164X4 rfl rfl rfl (b0 := cX7_melts) (m0 := 2) (r0 := (some .int)) (by decide +kernel) (by decide +kernel) ⟨(Nat.le_of_ble_eq_true rfl), (Nat.le_of_ble_eq_true rfl)⟩ ⟨(Nat.le_of_ble_eq_true rfl), (Nat.le_of_ble_eq_true rfl)⟩ (fun H hH => z_recv hK.1 (hX _ H hH) (by decide) (xe_ly (k := 7) (by decide)) rfl) rfl rfl (Nat.le_of_ble_eq_true rfl) dX11_frost_52) kv52
            clear hQv
            rcases xl8 ho3 with rfl | rfl | rfl | rfl | rfl | rfl | rfl | rfl
            · exact z_callR (gKs D cs) hK (fun _ h => h.2) (t_X7_fingersIn x 0 (by decide) y4 p2 _ h) (zr_V (As := [.int y4, .int p2]) (rest := []) O hE.1 2 gX11_frost_X7_fingersIn rfl rfl rfl (by decide +kernel) ⟨(Nat.le_of_ble_eq_true rfl), (Nat.le_of_ble_eq_true rfl)⟩ ⟨(Nat.le_of_ble_eq_true rfl), (Nat.le_of_ble_eq_true rfl)⟩ (fun H hH => z_recv hK.1 (hX _ H hH) (by decide) (xe_ly (k := 0) (by decide)) rfl) rfl rfl (Nat.le_of_ble_eq_true rfl) dX11_frost_45) kv45
            · exact z_callR (gKs D cs) hK (fun _ h => h.2) (t_X3_fingersIn x 1 (by decide) y4 p2 _ h) (zr_O (As := [.int y4, .int p2]) (rest := []) O hE.1 2 gX11_frost_X3_fingersIn_u161X3 rfl rfl rfl (b0 := cX7_fingersIn) (m0 := 3) (r0 := (some .int)) (by decide +kernel) (by decide +kernel) ⟨(Nat.le_of_ble_eq_true rfl), (Nat.le_of_ble_eq_true rfl)⟩ ⟨(Nat.le_of_ble_eq_true rfl), (Nat.le_of_ble_eq_true rfl)⟩ (fun H hH => z_recv hK.1 (hX _ H hH) (by decide) (xe_ly (k := 1) (by decide)) rfl) rfl rfl (Nat.le_of_ble_eq_true rfl) dX11_frost_45) kv45
            · exact z_callR (gKs D cs) hK (fun _ h => h.2) (t_X5_fingersIn x 2 (by decide) y4 p2 _ h) (zr_O (As := [.int y4, .int p2]) (rest := []) O hE.1 2 gX11_frost_X5_fingersIn_u161X5 rfl rfl rfl (b0 := cX7_fingersIn) (m0 := 3) (r0 := (some .int)) (by decide +kernel) (by decide +kernel) ⟨(Nat.le_of_ble_eq_true rfl), (Nat.le_of_ble_eq_true rfl)⟩ ⟨(Nat.le_of_ble_eq_true rfl), (Nat.le_of_ble_eq_true rfl)⟩ (fun H hH => z_recv hK.1 (hX _ H hH) (by decide) (xe_ly (k := 2) (by decide)) rfl) rfl rfl (Nat.le_of_ble_eq_true rfl) dX11_frost_45) kv45
            · exact z_callR (gKs D cs) hK (fun _ h => h.2) (t_X10_fingersIn x 3 (by decide) y4 p2 _ h) (zr_O (As := [.int y4, .int p2]) (rest := []) O hE.1 2 gX11_frost_X10_fingersIn_u161X10 rfl rfl rfl (b0 := cX7_fingersIn) (m0 := 3) (r0 := (some .int)) (by decide +kernel) (by decide +kernel) ⟨(Nat.le_of_ble_eq_true rfl), (Nat.le_of_ble_eq_true rfl)⟩ ⟨(Nat.le_of_ble_eq_true rfl), (Nat.le_of_ble_eq_true rfl)⟩ (fun H hH => z_recv hK.1 (hX _ H hH) (by decide) (xe_ly (k := 3) (by decide)) rfl) rfl rfl (Nat.le_of_ble_eq_true rfl) dX11_frost_45) kv45
            · exact z_callR (gKs D cs) hK (fun _ h => h.2) (t_X3_fingersIn x 4 (by decide) y4 p2 _ h) (zr_O (As := [.int y4, .int p2]) (rest := []) O hE.1 2 gX11_frost_X3_fingersIn_u161X1 rfl rfl rfl (b0 := cX7_fingersIn) (m0 := 3) (r0 := (some .int)) (by decide +kernel) (by decide +kernel) ⟨(Nat.le_of_ble_eq_true rfl), (Nat.le_of_ble_eq_true rfl)⟩ ⟨(Nat.le_of_ble_eq_true rfl), (Nat.le_of_ble_eq_true rfl)⟩ (fun H hH => z_recv hK.1 (hX _ H hH) (by decide) (xe_ly (k := 4) (by decide)) rfl) rfl rfl (Nat.le_of_ble_eq_true rfl) dX11_frost_45) kv45
            · exact z_callR (gKs D cs) hK (fun _ h => h.2) (t_X8_fingersIn x 5 (by decide) y4 p2 _ h) (zr_O (As := [.int y4, .int p2]) (rest := []) O hE.1 2 gX11_frost_X8_fingersIn_u161X8 rfl rfl rfl (b0 := cX7_fingersIn) (m0 := 3) (r0 := (some .int)) (by decide +kernel) (by decide +kernel) ⟨(Nat.le_of_ble_eq_true rfl), (Nat.le_of_ble_eq_true rfl)⟩ ⟨(Nat.le_of_ble_eq_true rfl), (Nat.le_of_ble_eq_true rfl)⟩ (fun H hH => z_recv hK.1 (hX _ H hH) (by decide) (xe_ly (k := 5) (by decide)) rfl) rfl rfl (Nat.le_of_ble_eq_true rfl) dX11_frost_45) kv45
            · exact z_callR (gKs D cs) hK (fun _ h => h.2) (t_X0_fingersIn x 6 (by decide) y4 p2 _ h) (zr_O (As := [.int y4, .int p2]) (rest := []) O hE.1 2 gX11_frost_X0_fingersIn_u161X0 rfl rfl rfl (b0 := cX7_fingersIn) (m0 := 3) (r0 := (some .int)) (by decide +kernel) (by decide +kernel) ⟨(Nat.le_of_ble_eq_true rfl), (Nat.le_of_ble_eq_true rfl)⟩ ⟨(Nat.le_of_ble_eq_true rfl), (Nat.le_of_ble_eq_true rfl)⟩ (fun H hH => z_recv hK.1 (hX _ H hH) (by decide) (xe_ly (k := 6) (by decide)) rfl) rfl rfl (Nat.le_of_ble_eq_true rfl) dX11_frost_45) kv45
            · exact z_callR (gKs D cs) hK (fun _ h => h.2) (t_X10_fingersIn x 7 (by decide) y4 p2 _ h) (zr_O (As := [.int y4, .int p2]) (rest := []) O hE.1 2 gX11_frost_X10_fingersIn_u161X4 rfl rfl rfl (b0 := cX7_fingersIn) (m0 := 3) (r0 := (some .int)) (by decide +kernel) (by decide +kernel) ⟨(Nat.le_of_ble_eq_true rfl), (Nat.le_of_ble_eq_true rfl)⟩ ⟨(Nat.le_of_ble_eq_true rfl), (Nat.le_of_ble_eq_true rfl)⟩ (fun H hH => z_recv hK.1 (hX _ H hH) (by decide) (xe_ly (k := 7) (by decide)) rfl) rfl rfl (Nat.le_of_ble_eq_true rfl) dX11_frost_45) kv45
      exact z_sub [4, 5, 1, 0] rfl (kI33 _ 1 (Nat.lt_succ_self _) h0)
    · replace h := h.2 c9
      refine z_iconst (v := -1) O dX11_frost_18 rfl ?_
      exact z_retR O hE (fun _ h => h.1) rfl dX11_frost_19 h
def wp_X11_where (x : XS)  (p1 : Int32) (p2 : Int32) (Q : Int32 → Prop) : Prop :=
 wp_X11_within p1 0 9 (fun r1 : Int32 =>
 ((r1 = 0 →
 Q (-1)) ∧ (¬ r1 = 0 →
 wp_X11_within p2 0 99 (fun r2 : Int32 =>
 ((¬ r2 = 0 →
 wp_X6_cellsWith x 29 p1 p2 (fun r3 : Int32 =>
 Q r3)) ∧ (r2 = 0 →
 Q (-1)))))))
set_option maxHeartbeats 4000000 in
set_option maxRecDepth 100000 in
theorem t_X11_where {l : Launch} {D : va_G} {cs : Nat → ClassId} {ad : Nat → Nat} (x : XS)  (p1 : Int32) (p2 : Int32) (Q : Int32 → Prop) (h : wp_X11_where x  p1 p2 Q) : zMR l yX11_where wsX11_where ({ frames := 5, cells := 0, slots := 0, locals := 113 } : Room) (gK D cs) (XH D cs ad) x [.ref (ad 0), .int p1, .int p2] Q := by
  refine zMR_of (cc := cX11_where) (nL := 3) (ret := (some .int)) (by decide +kernel) rfl (Nat.le_of_ble_eq_true rfl) (fun C hl O hE hK hH => ?_)
  subst hl
  have hX : ∀ (x : XS) (H : Heap), z0 (XH D cs ad) C.s.heap x H → va_P D vwCl (wl 161 ad (XE cs ad x)) H := fun _ _ h => h.2
  have i11 : ∀ w ∈ wsX110, w ∈ wsX11_where := by decide +kernel
  refine z_sub (lv' := [(0, .ref (ad 0)), (1, .int p1), (2, .int p2)]) [0, 1, 2] rfl ?_
  refine z_iload_n O dX11_where_0 1 rfl ?_
  refine z_iconst (v := 0) O dX11_where_1 rfl ?_
  refine z_bipush (v := 9) O dX11_where_2 rfl ?_
  refine z_callR (gKs D cs) hK (fun _ h => h.2) (t_X11_within (gKs D cs) p1 0 9 _ h) (zr_SS (As := [.int p1, .int 0, .int 9]) (rest := []) O hE.1 3 gX11_where_X11_within rfl rfl rfl (by decide +kernel) ⟨(Nat.le_of_ble_eq_true rfl), (Nat.le_of_ble_eq_true rfl)⟩ ⟨(Nat.le_of_ble_eq_true rfl), (Nat.le_of_ble_eq_true rfl)⟩ rfl rfl (Nat.le_of_ble_eq_true rfl) dX11_where_4) (fun r1 h => ?_)
  refine z_if_eq O 20 dX11_where_7 (by decide) (fun c5 => ?_) (fun c5 => ?_)
  · replace h := h.1 c5
    refine z_iconst (v := -1) O dX11_where_20 rfl ?_
    exact z_retR O hE (fun _ h => h.1) rfl dX11_where_21 h
  · replace h := h.2 c5
    refine z_iload_n O dX11_where_10 2 rfl ?_
    refine z_iconst (v := 0) O dX11_where_11 rfl ?_
    refine z_bipush (v := 99) O dX11_where_12 rfl ?_
    refine z_callR (gKs D cs) hK (fun _ h => h.2) (t_X11_within (gKs D cs) p2 0 99 _ h) (zr_SS (As := [.int p2, .int 0, .int 99]) (rest := []) O hE.1 3 gX11_where_X11_within rfl rfl rfl (by decide +kernel) ⟨(Nat.le_of_ble_eq_true rfl), (Nat.le_of_ble_eq_true rfl)⟩ ⟨(Nat.le_of_ble_eq_true rfl), (Nat.le_of_ble_eq_true rfl)⟩ rfl rfl (Nat.le_of_ble_eq_true rfl) dX11_where_14) (fun r2 h => ?_)
    refine z_if_ne O 22 dX11_where_17 (by decide) (fun c4 => ?_) (fun c4 => ?_)
    · replace h := h.1 c4
      refine z_aload_n O dX11_where_22 0 rfl ?_
      refine z_getf O hK.1 (hX _) (by decide) xe_11 rfl i11 1 (by decide) (by decide +kernel) rfl dX11_where_23 ?_
      refine z_iload_n O dX11_where_26 1 rfl ?_
      refine z_iload_n O dX11_where_27 2 rfl ?_
      refine z_callR (gKs D cs) hK (fun _ h => h.2) (t_X6_cellsWith x 29 xk_29 p1 p2 _ h) (zr_V (As := [.int p1, .int p2]) (rest := []) O hE.1 2 gX11_where_X6_cellsWith rfl rfl rfl (by decide +kernel) ⟨(Nat.le_of_ble_eq_true rfl), (Nat.le_of_ble_eq_true rfl)⟩ ⟨(Nat.le_of_ble_eq_true rfl), (Nat.le_of_ble_eq_true rfl)⟩ (fun H hH => z_recv hK.1 (hX _ H hH) (xk_29).1 (xe_6 xk_29) rfl) rfl rfl (Nat.le_of_ble_eq_true rfl) dX11_where_28) (fun r3 h => ?_)
      exact z_retR O hE (fun _ h => h.1) rfl dX11_where_31 h
    · replace h := h.2 c4
      refine z_iconst (v := -1) O dX11_where_20 rfl ?_
      exact z_retR O hE (fun _ h => h.1) rfl dX11_where_21 h
def wp_X11_thin (x : XS)  (p1 : Int32) (Q : Int32 → Prop) : Prop :=
 wp_X11_within p1 0 1 (fun r1 : Int32 =>
 ((¬ r1 = 0 →
 ((¬ p1 = 0 →
 wp_X6_firstThin x 29 (fun r2 : Int32 =>
 Q r2)) ∧ (p1 = 0 →
 wp_X6_thinLayers x 29 (fun r3 : Int32 =>
 Q r3)))) ∧ (r1 = 0 →
 Q (-1))))
set_option maxHeartbeats 4000000 in
set_option maxRecDepth 100000 in
theorem t_X11_thin {l : Launch} {D : va_G} {cs : Nat → ClassId} {ad : Nat → Nat} (x : XS)  (p1 : Int32) (Q : Int32 → Prop) (h : wp_X11_thin x  p1 Q) : zMR l yX11_thin wsX11_thin ({ frames := 5, cells := 0, slots := 0, locals := 114 } : Room) (gK D cs) (XH D cs ad) x [.ref (ad 0), .int p1] Q := by
  refine zMR_of (cc := cX11_thin) (nL := 2) (ret := (some .int)) (by decide +kernel) rfl (Nat.le_of_ble_eq_true rfl) (fun C hl O hE hK hH => ?_)
  subst hl
  have hX : ∀ (x : XS) (H : Heap), z0 (XH D cs ad) C.s.heap x H → va_P D vwCl (wl 161 ad (XE cs ad x)) H := fun _ _ h => h.2
  have i11 : ∀ w ∈ wsX110, w ∈ wsX11_thin := by decide +kernel
  refine z_sub (lv' := [(0, .ref (ad 0)), (1, .int p1)]) [0, 1] rfl ?_
  refine z_iload_n O dX11_thin_0 1 rfl ?_
  refine z_iconst (v := 0) O dX11_thin_1 rfl ?_
  refine z_iconst (v := 1) O dX11_thin_2 rfl ?_
  refine z_callR (gKs D cs) hK (fun _ h => h.2) (t_X11_within (gKs D cs) p1 0 1 _ h) (zr_SS (As := [.int p1, .int 0, .int 1]) (rest := []) O hE.1 3 gX11_thin_X11_within rfl rfl rfl (by decide +kernel) ⟨(Nat.le_of_ble_eq_true rfl), (Nat.le_of_ble_eq_true rfl)⟩ ⟨(Nat.le_of_ble_eq_true rfl), (Nat.le_of_ble_eq_true rfl)⟩ rfl rfl (Nat.le_of_ble_eq_true rfl) dX11_thin_3) (fun r1 h => ?_)
  refine z_if_ne O 11 dX11_thin_6 (by decide) (fun c5 => ?_) (fun c5 => ?_)
  · replace h := h.1 c5
    refine z_iload_n O dX11_thin_11 1 rfl ?_
    refine z_if_ne O 25 dX11_thin_12 (by decide) (fun c4 => ?_) (fun c4 => ?_)
    · replace h := h.1 c4
      refine z_aload_n O dX11_thin_25 0 rfl ?_
      refine z_getf O hK.1 (hX _) (by decide) xe_11 rfl i11 1 (by decide) (by decide +kernel) rfl dX11_thin_26 ?_
      refine z_callR (gKs D cs) hK (fun _ h => h.2) (t_X6_firstThin x 29 xk_29  _ h) (zr_V (As := []) (rest := []) O hE.1 0 gX11_thin_X6_firstThin rfl rfl rfl (by decide +kernel) ⟨(Nat.le_of_ble_eq_true rfl), (Nat.le_of_ble_eq_true rfl)⟩ ⟨(Nat.le_of_ble_eq_true rfl), (Nat.le_of_ble_eq_true rfl)⟩ (fun H hH => z_recv hK.1 (hX _ H hH) (xk_29).1 (xe_6 xk_29) rfl) rfl rfl (Nat.le_of_ble_eq_true rfl) dX11_thin_29) (fun r2 h => ?_)
      exact z_retR O hE (fun _ h => h.1) rfl dX11_thin_32 h
    · replace h := h.2 c4
      refine z_aload_n O dX11_thin_15 0 rfl ?_
      refine z_getf O hK.1 (hX _) (by decide) xe_11 rfl i11 1 (by decide) (by decide +kernel) rfl dX11_thin_16 ?_
      refine z_callR (gKs D cs) hK (fun _ h => h.2) (t_X6_thinLayers x 29 xk_29  _ h) (zr_V (As := []) (rest := []) O hE.1 0 gX11_thin_X6_thinLayers rfl rfl rfl (by decide +kernel) ⟨(Nat.le_of_ble_eq_true rfl), (Nat.le_of_ble_eq_true rfl)⟩ ⟨(Nat.le_of_ble_eq_true rfl), (Nat.le_of_ble_eq_true rfl)⟩ (fun H hH => z_recv hK.1 (hX _ H hH) (xk_29).1 (xe_6 xk_29) rfl) rfl rfl (Nat.le_of_ble_eq_true rfl) dX11_thin_19) (fun r3 h => ?_)
      refine z_goto O 32 dX11_thin_22 (by decide) ?_
      exact z_retR O hE (fun _ h => h.1) rfl dX11_thin_32 h
  · replace h := h.2 c5
    refine z_iconst (v := -1) O dX11_thin_9 rfl ?_
    exact z_retR O hE (fun _ h => h.1) rfl dX11_thin_10 h
def wp_X11_spans (x : XS)  (p1 : Int32) (p2 : Int32) (Q : Int32 → Prop) : Prop :=
 wp_X6_cellAt x 29 p1 (fun r : Option Nat => match r with
 | none => Q (-1)
 | some o1 => xk o1 2 ∧
 wp_X11_within p2 0 98 (fun r2 : Int32 =>
 ((¬ r2 = 0 →
 wp_X2_layerBehind x o1 p2 (fun r3 : Int32 =>
 ((0 ≤ r3 →
 wp_X2_winterAt x o1 r3 (fun r4 : Int32 =>
 Q r4)) ∧ (¬ 0 ≤ r3 →
 Q (-4))))) ∧ (r2 = 0 →
 Q (-1)))))
set_option maxHeartbeats 4000000 in
set_option maxRecDepth 100000 in
theorem t_X11_spans {l : Launch} {D : va_G} {cs : Nat → ClassId} {ad : Nat → Nat} (x : XS)  (p1 : Int32) (p2 : Int32) (Q : Int32 → Prop) (h : wp_X11_spans x  p1 p2 Q) : zMR l yX11_spans wsX11_spans ({ frames := 3, cells := 0, slots := 0, locals := 65 } : Room) (gK D cs) (XH D cs ad) x [.ref (ad 0), .int p1, .int p2] Q := by
  refine zMR_of (cc := cX11_spans) (nL := 5) (ret := (some .int)) (by decide +kernel) rfl (Nat.le_of_ble_eq_true rfl) (fun C hl O hE hK hH => ?_)
  subst hl
  have hX : ∀ (x : XS) (H : Heap), z0 (XH D cs ad) C.s.heap x H → va_P D vwCl (wl 161 ad (XE cs ad x)) H := fun _ _ h => h.2
  have i11 : ∀ w ∈ wsX110, w ∈ wsX11_spans := by decide +kernel
  refine z_sub (lv' := [(0, .ref (ad 0)), (1, .int p1), (2, .int p2)]) [0, 1, 2] rfl ?_
  refine z_aload_n O dX11_spans_0 0 rfl ?_
  refine z_getf O hK.1 (hX _) (by decide) xe_11 rfl i11 1 (by decide) (by decide +kernel) rfl dX11_spans_1 ?_
  refine z_iload_n O dX11_spans_4 1 rfl ?_
  refine z_callE (gKs D cs) hK (fun _ h => h.2) (t_X6_cellAt x 29 xk_29 p1 _ h) (zr_V (As := [.int p1]) (rest := []) O hE.1 1 gX11_spans_X6_cellAt rfl rfl rfl (by decide +kernel) ⟨(Nat.le_of_ble_eq_true rfl), (Nat.le_of_ble_eq_true rfl)⟩ ⟨(Nat.le_of_ble_eq_true rfl), (Nat.le_of_ble_eq_true rfl)⟩ (fun H hH => z_recv hK.1 (hX _ H hH) (xk_29).1 (xe_6 xk_29) rfl) rfl rfl (Nat.le_of_ble_eq_true rfl) dX11_spans_5) (fun h => ?_) (fun o1 h => ?_)
  · skip
    refine z_astore_nN (lv' := [(3, .null), (0, .ref (ad 0)), (1, .int p1), (2, .int p2)]) O dX11_spans_8 (by decide) rfl ?_
    refine z_aload_nN O dX11_spans_9 0 rfl ?_
    refine z_ifnullN O 23 dX11_spans_10 (by decide) ?_
    refine z_iconst (v := -1) O dX11_spans_23 rfl ?_
    exact z_retR O hE (fun _ h => h.1) rfl dX11_spans_24 h
  · have ho1 := h.1
    replace h := h.2
    refine z_astore_n (lv' := [(3, .ref (ad o1)), (0, .ref (ad 0)), (1, .int p1), (2, .int p2)]) O dX11_spans_8 (by decide) rfl ?_
    refine z_aload_n O dX11_spans_9 0 rfl ?_
    refine z_ifnull O dX11_spans_10 ?_
    refine z_iload_n O dX11_spans_13 3 rfl ?_
    refine z_iconst (v := 0) O dX11_spans_14 rfl ?_
    refine z_bipush (v := 98) O dX11_spans_15 rfl ?_
    refine z_callR (gKs D cs) hK (fun _ h => h.2) (t_X11_within (gKs D cs) p2 0 98 _ h) (zr_SS (As := [.int p2, .int 0, .int 98]) (rest := []) O hE.1 3 gX11_spans_X11_within rfl rfl rfl (by decide +kernel) ⟨(Nat.le_of_ble_eq_true rfl), (Nat.le_of_ble_eq_true rfl)⟩ ⟨(Nat.le_of_ble_eq_true rfl), (Nat.le_of_ble_eq_true rfl)⟩ rfl rfl (Nat.le_of_ble_eq_true rfl) dX11_spans_17) (fun r2 h => ?_)
    refine z_if_ne O 25 dX11_spans_20 (by decide) (fun c6 => ?_) (fun c6 => ?_)
    · replace h := h.1 c6
      refine z_aload_n O dX11_spans_25 0 rfl ?_
      refine z_iload_n O dX11_spans_26 3 rfl ?_
      refine z_callR (gKs D cs) hK (fun _ h => h.2) (t_X2_layerBehind x o1 ho1 p2 _ h) (zr_V (As := [.int p2]) (rest := []) O hE.1 1 gX11_spans_X2_layerBehind rfl rfl rfl (by decide +kernel) ⟨(Nat.le_of_ble_eq_true rfl), (Nat.le_of_ble_eq_true rfl)⟩ ⟨(Nat.le_of_ble_eq_true rfl), (Nat.le_of_ble_eq_true rfl)⟩ (fun H hH => z_recv hK.1 (hX _ H hH) (ho1).1 (xe_2 ho1) rfl) rfl rfl (Nat.le_of_ble_eq_true rfl) dX11_spans_27) (fun r3 h => ?_)
      refine z_istore (lv' := [(4, .int r3), (3, .ref (ad o1)), (0, .ref (ad 0)), (1, .int p1), (2, .int p2)]) O dX11_spans_30 (by decide) rfl ?_
      refine z_iload O dX11_spans_32 0 rfl ?_
      refine z_if_ge O 42 dX11_spans_34 (by decide) (fun c5 => ?_) (fun c5 => ?_)
      · replace h := h.1 c5
        refine z_aload_n O dX11_spans_42 1 rfl ?_
        refine z_iload O dX11_spans_43 0 rfl ?_
        refine z_callR (gKs D cs) hK (fun _ h => h.2) (t_X2_winterAt x o1 ho1 r3 _ h) (zr_V (As := [.int r3]) (rest := []) O hE.1 1 gX11_spans_X2_winterAt rfl rfl rfl (by decide +kernel) ⟨(Nat.le_of_ble_eq_true rfl), (Nat.le_of_ble_eq_true rfl)⟩ ⟨(Nat.le_of_ble_eq_true rfl), (Nat.le_of_ble_eq_true rfl)⟩ (fun H hH => z_recv hK.1 (hX _ H hH) (ho1).1 (xe_2 ho1) rfl) rfl rfl (Nat.le_of_ble_eq_true rfl) dX11_spans_45) (fun r4 h => ?_)
        exact z_retR O hE (fun _ h => h.1) rfl dX11_spans_48 h
      · replace h := h.2 c5
        refine z_bipush (v := -4) O dX11_spans_37 rfl ?_
        refine z_goto O 48 dX11_spans_39 (by decide) ?_
        exact z_retR O hE (fun _ h => h.1) rfl dX11_spans_48 h
    · replace h := h.2 c6
      refine z_iconst (v := -1) O dX11_spans_23 rfl ?_
      exact z_retR O hE (fun _ h => h.1) rfl dX11_spans_24 h
def wp_X11_disorder (x : XS)   (Q : Int32 → Prop) : Prop :=
 wp_X6_allUnordered x 29 (fun r1 : Int32 =>
 Q r1)
set_option maxHeartbeats 4000000 in
set_option maxRecDepth 100000 in
theorem t_X11_disorder {l : Launch} {D : va_G} {cs : Nat → ClassId} {ad : Nat → Nat} (x : XS)   (Q : Int32 → Prop) (h : wp_X11_disorder x   Q) : zMR l yX11_disorder wsX11_disorder ({ frames := 4, cells := 0, slots := 0, locals := 89 } : Room) (gK D cs) (XH D cs ad) x [.ref (ad 0)] Q := by
  refine zMR_of (cc := cX11_disorder) (nL := 1) (ret := (some .int)) (by decide +kernel) rfl (Nat.le_of_ble_eq_true rfl) (fun C hl O hE hK hH => ?_)
  subst hl
  have hX : ∀ (x : XS) (H : Heap), z0 (XH D cs ad) C.s.heap x H → va_P D vwCl (wl 161 ad (XE cs ad x)) H := fun _ _ h => h.2
  have i11 : ∀ w ∈ wsX110, w ∈ wsX11_disorder := by decide +kernel
  refine z_sub (lv' := [(0, .ref (ad 0))]) [0] rfl ?_
  refine z_aload_n O dX11_disorder_0 0 rfl ?_
  refine z_getf O hK.1 (hX _) (by decide) xe_11 rfl i11 1 (by decide) (by decide +kernel) rfl dX11_disorder_1 ?_
  refine z_callR (gKs D cs) hK (fun _ h => h.2) (t_X6_allUnordered x 29 xk_29  _ h) (zr_V (As := []) (rest := []) O hE.1 0 gX11_disorder_X6_allUnordered rfl rfl rfl (by decide +kernel) ⟨(Nat.le_of_ble_eq_true rfl), (Nat.le_of_ble_eq_true rfl)⟩ ⟨(Nat.le_of_ble_eq_true rfl), (Nat.le_of_ble_eq_true rfl)⟩ (fun H hH => z_recv hK.1 (hX _ H hH) (xk_29).1 (xe_6 xk_29) rfl) rfl rfl (Nat.le_of_ble_eq_true rfl) dX11_disorder_4) (fun r1 h => ?_)
  exact z_retR O hE (fun _ h => h.1) rfl dX11_disorder_7 h
def wp_X11_leastNext (x : XS)  (p1 : Int32) (p2 : Int32) (Q : Int32 → Prop) : Prop :=
 (∃ (I2 : Int32 → Prop) (U2 : Int32 → Nat), I2 0 ∧ ∀ (y1 : Int32), I2 y1 →
 ((10 ≤ y1 →
 Q (-4)) ∧ (¬ 10 ≤ y1 →
 ((¬ (((p1 &&& (p2 ^^^ (-1))) >>> (y1 &&& 31)) &&& 1) = 1 →
 (I2 (y1 + 1) ∧ U2 (y1 + 1) < U2 y1)) ∧ ((((p1 &&& (p2 ^^^ (-1))) >>> (y1 &&& 31)) &&& 1) = 1 →
 (vp_in y1 10 ∧
 ((¬ ((x.2.1 28 (Int32.toNatClampNeg y1)) &&& (p2 ^^^ (-1))) = 0 →
 (I2 (y1 + 1) ∧ U2 (y1 + 1) < U2 y1)) ∧ (((x.2.1 28 (Int32.toNatClampNeg y1)) &&& (p2 ^^^ (-1))) = 0 →
 Q y1))))))))
set_option maxHeartbeats 4000000 in
set_option maxRecDepth 100000 in
theorem t_X11_leastNext {l : Launch} {D : va_G} {cs : Nat → ClassId} {ad : Nat → Nat} (x : XS)  (p1 : Int32) (p2 : Int32) (Q : Int32 → Prop) (h : wp_X11_leastNext x  p1 p2 Q) : zMR l yX11_leastNext wsX11_leastNext ({ frames := 0, cells := 0, slots := 0, locals := 0 } : Room) (gK D cs) (XH D cs ad) x [.ref (ad 0), .int p1, .int p2] Q := by
  refine zMR_of (cc := cX11_leastNext) (nL := 5) (ret := (some .int)) (by decide +kernel) rfl (Nat.le_of_ble_eq_true rfl) (fun C hl O hE hK hH => ?_)
  subst hl
  have hX : ∀ (x : XS) (H : Heap), z0 (XH D cs ad) C.s.heap x H → va_P D vwCl (wl 161 ad (XE cs ad x)) H := fun _ _ h => h.2
  have i11 : ∀ w ∈ wsX110, w ∈ wsX11_leastNext := by decide +kernel
  refine z_sub (lv' := [(0, .ref (ad 0)), (1, .int p1), (2, .int p2)]) [0, 1, 2] rfl ?_
  refine z_iconst (v := 0) O dX11_leastNext_0 rfl ?_
  refine z_istore_n (lv' := [(3, .int 0), (0, .ref (ad 0)), (1, .int p1), (2, .int p2)]) O dX11_leastNext_1 (by decide) rfl ?_
  obtain ⟨I2, U2, h0, hs⟩ := h
  have kI2 : ∀ (n : Nat) (y1 : Int32), U2 y1 < n → I2 y1 → Z C (fun _ => False) (z0 (XH D cs ad) C.s.heap) 5 x [(0, .ref (ad 0)), (1, .int p1), (2, .int p2), (3, .int y1)] 0 0 2 [] := by
    intro n
    induction n with
    | zero => intro y1 uI2; exact absurd uI2 (Nat.not_lt_zero _)
    | succ n iI2 =>
      intro y1 uI2 h
      have h := hs y1 h
      refine z_iload_n O dX11_leastNext_2 3 rfl ?_
      refine z_bipush (v := 10) O dX11_leastNext_3 rfl ?_
      refine z_icmp_ge O 54 dX11_leastNext_5 (by decide) (fun c4 => ?_) (fun c4 => ?_)
      · replace h := h.1 c4
        refine z_bipush (v := -4) O dX11_leastNext_54 rfl ?_
        exact z_retR O hE (fun _ h => h.1) rfl dX11_leastNext_56 h
      · replace h := h.2 c4
        refine z_iload_n O dX11_leastNext_8 1 rfl ?_
        refine z_iload_n O dX11_leastNext_9 2 rfl ?_
        refine z_iconst (v := -1) O dX11_leastNext_10 rfl ?_
        refine z_ixor O dX11_leastNext_11 ?_
        refine z_iand O dX11_leastNext_12 ?_
        refine z_iload_n O dX11_leastNext_13 3 rfl ?_
        refine z_ishr O dX11_leastNext_14 ?_
        refine z_iconst (v := 1) O dX11_leastNext_15 rfl ?_
        refine z_iand O dX11_leastNext_16 ?_
        refine z_iconst (v := 1) O dX11_leastNext_17 rfl ?_
        refine z_icmp_ne O 25 dX11_leastNext_18 (by decide) (fun c3 => ?_) (fun c3 => ?_)
        · replace h := h.1 c3
          refine z_iconst (v := 0) O dX11_leastNext_25 rfl ?_
          refine z_istore (lv' := [(4, .int 0), (0, .ref (ad 0)), (1, .int p1), (2, .int p2), (3, .int y1)]) O dX11_leastNext_26 (by decide) rfl ?_
          refine z_iload O dX11_leastNext_28 0 rfl ?_
          refine z_if_eq O 48 dX11_leastNext_30 (by decide) (fun _ => ?_) (fun c => absurd c (by decide))
          refine z_iinc (lv' := [(3, .int (y1 + 1)), (4, .int 0), (0, .ref (ad 0)), (1, .int p1), (2, .int p2)]) O dX11_leastNext_48 4 rfl rfl (by decide) rfl ?_
          refine z_goto O 2 dX11_leastNext_51 (by decide) ?_
          exact z_sub [2, 3, 4, 0] rfl (iI2 (y1 + 1) (Nat.lt_of_lt_of_le h.2 (Nat.le_of_lt_succ uI2)) h.1)
        · replace h := h.2 c3
          refine z_iconst (v := 1) O dX11_leastNext_21 rfl ?_
          refine z_goto O 26 dX11_leastNext_22 (by decide) ?_
          refine z_istore (lv' := [(4, .int 1), (0, .ref (ad 0)), (1, .int p1), (2, .int p2), (3, .int y1)]) O dX11_leastNext_26 (by decide) rfl ?_
          refine z_iload O dX11_leastNext_28 0 rfl ?_
          refine z_if_eq O 48 dX11_leastNext_30 (by decide) (fun c => absurd c (by decide)) (fun _ => ?_)
          refine z_aload_n O dX11_leastNext_33 1 rfl ?_
          refine z_getf O hK.1 (hX _) (by decide) xe_11 rfl i11 6 (by decide) (by decide +kernel) rfl dX11_leastNext_34 ?_
          refine z_iload_n O dX11_leastNext_37 4 rfl ?_
          refine z_iald O hK.1 (hX _) 0 (xk_28).1 (xe_20 xk_28) rfl (xin xl_28 h.1) dX11_leastNext_38 ?_
          replace h := h.2
          refine z_iload_n O dX11_leastNext_39 3 rfl ?_
          refine z_iconst (v := -1) O dX11_leastNext_40 rfl ?_
          refine z_ixor O dX11_leastNext_41 ?_
          refine z_iand O dX11_leastNext_42 ?_
          refine z_if_ne O 48 dX11_leastNext_43 (by decide) (fun c2 => ?_) (fun c2 => ?_)
          · replace h := h.1 c2
            refine z_iinc (lv' := [(3, .int (y1 + 1)), (4, .int 1), (0, .ref (ad 0)), (1, .int p1), (2, .int p2)]) O dX11_leastNext_48 4 rfl rfl (by decide) rfl ?_
            refine z_goto O 2 dX11_leastNext_51 (by decide) ?_
            exact z_sub [2, 3, 4, 0] rfl (iI2 (y1 + 1) (Nat.lt_of_lt_of_le h.2 (Nat.le_of_lt_succ uI2)) h.1)
          · replace h := h.2 c2
            refine z_iload_n O dX11_leastNext_46 4 rfl ?_
            exact z_retR O hE (fun _ h => h.1) rfl dX11_leastNext_47 h
  exact z_sub [1, 2, 3, 0] rfl (kI2 _ 0 (Nat.lt_succ_self _) h0)
def wp_X11_order (x : XS)  (p1 : Int32) (Q : Int32 → XS → Prop) : Prop :=
 wp_X11_within p1 0 1 (fun r1 : Int32 =>
 ((¬ r1 = 0 →
 wp_X6_tellAllAhead x 29 28 (fun (x2 : XS) =>
 wp_X6_allOaths x2 29 (fun r3 : Int32 =>
 wp_J6_bitCount_0f7a4 r3 (fun r4 : Int32 =>
 (∃ (I46 : Int32 → Int32 → Int32 → Int32 → Prop) (U46 : Int32 → Int32 → Int32 → Int32 → Nat), I46 0 (-4) (-4) r4 ∧ ∀ (y5 : Int32) (y6 : Int32) (y7 : Int32) (y8 : Int32), I46 y5 y6 y7 y8 →
 ((y8 ≤ 0 →
 ((¬ p1 = 0 →
 Q y7 x2) ∧ (p1 = 0 →
 Q y6 x2))) ∧ (¬ y8 ≤ 0 →
 wp_X11_leastNext x2 r3 y5 (fun r10 : Int32 =>
 ((0 ≤ r10 →
 ((¬ y5 = 0 →
 (I46 (y5 ||| (1 <<< (r10 &&& 31))) y6 r10 (y8 + (-1)) ∧ U46 (y5 ||| (1 <<< (r10 &&& 31))) y6 r10 (y8 + (-1)) < U46 y5 y6 y7 y8)) ∧ (y5 = 0 →
 (I46 (y5 ||| (1 <<< (r10 &&& 31))) r10 r10 (y8 + (-1)) ∧ U46 (y5 ||| (1 <<< (r10 &&& 31))) r10 r10 (y8 + (-1)) < U46 y5 y6 y7 y8)))) ∧ (¬ 0 ≤ r10 →
 Q (-4) x2)))))))))) ∧ (r1 = 0 →
 Q (-1) x)))
set_option maxHeartbeats 4000000 in
set_option maxRecDepth 100000 in
theorem t_X11_order {l : Launch} {D : va_G} {cs : Nat → ClassId} {ad : Nat → Nat} (hI : wInj 161 ad) (x : XS)  (p1 : Int32) (Q : Int32 → XS → Prop) (h : wp_X11_order x  p1 Q) : zWR l yX11_order wsX11_order ({ frames := 4, cells := 0, slots := 0, locals := 91 } : Room) (gK D cs) (XH D cs ad) (wB 161 ad) x [.ref (ad 0), .int p1] 0 0 Q := by
  refine zWR_of (cc := cX11_order) (nL := 7) (ret := (some .int)) (by decide +kernel) rfl (Nat.le_of_ble_eq_true rfl) (fun C hl O hE hK => ?_)
  subst hl
  have hX : ∀ (x : XS) (H : Heap), XH D cs ad x H → va_P D vwCl (wl 161 ad (XE cs ad x)) H := fun _ _ h => h
  have hB : ∀ {x : XS} (H : Heap), va_P D vwCl (wl 161 ad (XE cs ad x)) H → XH D cs ad x H := fun _ h => h
  have hA : ∀ q, wB 161 ad q → zA (wB 161 ad) C.s.heap.size q := fun _ h => Or.inl h
  have i11 : ∀ w ∈ wsX110, w ∈ wsX11_order := by decide +kernel
  refine z_sub (lv' := [(0, .ref (ad 0)), (1, .int p1)]) [0, 1] rfl ?_
  refine z_iload_n O dX11_order_0 1 rfl ?_
  refine z_iconst (v := 0) O dX11_order_1 rfl ?_
  refine z_iconst (v := 1) O dX11_order_2 rfl ?_
  refine z_callR (gKs D cs) hK (fun _ h => h) (t_X11_within (gKs D cs) p1 0 1 _ h) (zr_SS (As := [.int p1, .int 0, .int 1]) (rest := []) O hE.1 3 gX11_order_X11_within rfl rfl rfl (by decide +kernel) ⟨(Nat.le_of_ble_eq_true rfl), (Nat.le_of_ble_eq_true rfl)⟩ ⟨(Nat.le_of_ble_eq_true rfl), (Nat.le_of_ble_eq_true rfl)⟩ rfl rfl (Nat.le_of_ble_eq_true rfl) dX11_order_3) (fun r1 h => ?_)
  refine z_if_ne O 11 dX11_order_6 (by decide) (fun c14 => ?_) (fun c14 => ?_)
  · replace h := h.1 c14
    refine z_aload_n O dX11_order_11 0 rfl ?_
    refine z_getf O hK.1 (hX _) (by decide) xe_11 rfl i11 1 (by decide) (by decide +kernel) rfl dX11_order_12 ?_
    refine z_aload_n O dX11_order_15 0 rfl ?_
    refine z_getf O hK.1 (hX _) (by decide) xe_11 rfl i11 6 (by decide) (by decide +kernel) rfl dX11_order_16 ?_
    refine z_cWV (gKs D cs) hK (fun _ h => h) (fun _ h => Or.inl h) (fun _ h => Or.inr h) (t_X6_tellAllAhead hI x 29 xk_29 28 xk_28  _ h) (zr_V (As := [.ref (ad 28)]) (rest := []) O hE.1 1 gX11_order_X6_tellAllAhead rfl rfl rfl (by decide +kernel) ⟨(Nat.le_of_ble_eq_true rfl), (Nat.le_of_ble_eq_true rfl)⟩ ⟨(Nat.le_of_ble_eq_true rfl), (Nat.le_of_ble_eq_true rfl)⟩ (fun H hH => z_recv hK.1 (hX _ H hH) (xk_29).1 (xe_6 xk_29) rfl) rfl rfl (Nat.le_of_ble_eq_true rfl) dX11_order_19) (fun x2 h => ?_)
    refine z_aload_n O dX11_order_22 0 rfl ?_
    refine z_getf O hK.1 (hX _) (by decide) xe_11 rfl i11 1 (by decide) (by decide +kernel) rfl dX11_order_23 ?_
    refine z_callR (gKs D cs) hK (fun _ h => h) (t_X6_allOaths x2 29 xk_29  _ h) (zr_V (As := []) (rest := []) O hE.1 0 gX11_order_X6_allOaths rfl rfl rfl (by decide +kernel) ⟨(Nat.le_of_ble_eq_true rfl), (Nat.le_of_ble_eq_true rfl)⟩ ⟨(Nat.le_of_ble_eq_true rfl), (Nat.le_of_ble_eq_true rfl)⟩ (fun H hH => z_recv hK.1 (hX _ H hH) (xk_29).1 (xe_6 xk_29) rfl) rfl rfl (Nat.le_of_ble_eq_true rfl) dX11_order_26) (fun r3 h => ?_)
    refine z_istore_n (lv' := [(2, .int r3), (0, .ref (ad 0)), (1, .int p1)]) O dX11_order_29 (by decide) rfl ?_
    refine z_iconst (v := 0) O dX11_order_30 rfl ?_
    refine z_istore_n (lv' := [(3, .int 0), (2, .int r3), (0, .ref (ad 0)), (1, .int p1)]) O dX11_order_31 (by decide) rfl ?_
    refine z_bipush (v := -4) O dX11_order_32 rfl ?_
    refine z_istore (lv' := [(4, .int (-4)), (3, .int 0), (2, .int r3), (0, .ref (ad 0)), (1, .int p1)]) O dX11_order_34 (by decide) rfl ?_
    refine z_bipush (v := -4) O dX11_order_36 rfl ?_
    refine z_istore (lv' := [(5, .int (-4)), (4, .int (-4)), (3, .int 0), (2, .int r3), (0, .ref (ad 0)), (1, .int p1)]) O dX11_order_38 (by decide) rfl ?_
    refine z_iload_n O dX11_order_40 3 rfl ?_
    refine z_callR (gKs D cs) hK (fun _ h => h) (t_J6_bitCount_0f7a4 (gKs D cs) r3 _ h) (zr_SS (As := [.int r3]) (rest := []) O hE.1 1 gX11_order_J6_bitCount_0f7a4 rfl rfl rfl (by decide +kernel) ⟨(Nat.le_of_ble_eq_true rfl), (Nat.le_of_ble_eq_true rfl)⟩ ⟨(Nat.le_of_ble_eq_true rfl), (Nat.le_of_ble_eq_true rfl)⟩ rfl rfl (Nat.le_of_ble_eq_true rfl) dX11_order_41) (fun r4 h => ?_)
    refine z_istore (lv' := [(6, .int r4), (5, .int (-4)), (4, .int (-4)), (3, .int 0), (2, .int r3), (0, .ref (ad 0)), (1, .int p1)]) O dX11_order_44 (by decide) rfl ?_
    obtain ⟨I46, U46, h0, hs⟩ := h
    have kI46 : ∀ (n : Nat) (y5 : Int32) (y6 : Int32) (y7 : Int32) (y8 : Int32), U46 y5 y6 y7 y8 < n → I46 y5 y6 y7 y8 → Z C (zA (wB 161 ad) C.s.heap.size) (XH D cs ad) 7 x2 [(0, .ref (ad 0)), (1, .int p1), (2, .int r3), (3, .int y5), (4, .int y6), (5, .int y7), (6, .int y8)] 0 0 46 [] := by
      intro n
      induction n with
      | zero => intro y5 y6 y7 y8 uI46; exact absurd uI46 (Nat.not_lt_zero _)
      | succ n iI46 =>
        intro y5 y6 y7 y8 uI46 h
        have h := hs y5 y6 y7 y8 h
        refine z_iload O dX11_order_46 6 rfl ?_
        refine z_if_le O 93 dX11_order_48 (by decide) (fun c13 => ?_) (fun c13 => ?_)
        · replace h := h.1 c13
          refine z_iload_n O dX11_order_93 1 rfl ?_
          refine z_if_ne O 102 dX11_order_94 (by decide) (fun c9 => ?_) (fun c9 => ?_)
          · replace h := h.1 c9
            refine z_iload O dX11_order_102 5 rfl ?_
            exact z_retWR O hE (Nat.le_of_ble_eq_true rfl) (Nat.le_of_ble_eq_true rfl) rfl dX11_order_104 h
          · replace h := h.2 c9
            refine z_iload O dX11_order_97 4 rfl ?_
            refine z_goto O 104 dX11_order_99 (by decide) ?_
            exact z_retWR O hE (Nat.le_of_ble_eq_true rfl) (Nat.le_of_ble_eq_true rfl) rfl dX11_order_104 h
        · replace h := h.2 c13
          refine z_aload_n O dX11_order_51 0 rfl ?_
          refine z_iload_n O dX11_order_52 2 rfl ?_
          refine z_iload_n O dX11_order_53 3 rfl ?_
          refine z_callR (gKs D cs) hK (fun _ h => h) (t_X11_leastNext x2  r3 y5 _ h) (zr_V (As := [.int r3, .int y5]) (rest := []) O hE.1 2 gX11_order_X11_leastNext rfl rfl rfl (by decide +kernel) ⟨(Nat.le_of_ble_eq_true rfl), (Nat.le_of_ble_eq_true rfl)⟩ ⟨(Nat.le_of_ble_eq_true rfl), (Nat.le_of_ble_eq_true rfl)⟩ (fun H hH => z_recv hK.1 (hX _ H hH) (by decide) xe_11 rfl) rfl rfl (Nat.le_of_ble_eq_true rfl) dX11_order_54) (fun r10 h => ?_)
          refine z_istore (lv' := [(5, .int r10), (0, .ref (ad 0)), (1, .int p1), (2, .int r3), (3, .int y5), (4, .int y6), (6, .int y8)]) O dX11_order_57 (by decide) rfl ?_
          refine z_iload O dX11_order_59 0 rfl ?_
          refine z_if_ge O 67 dX11_order_61 (by decide) (fun c12 => ?_) (fun c12 => ?_)
          · replace h := h.1 c12
            refine z_iload_n O dX11_order_67 4 rfl ?_
            refine z_if_ne O 76 dX11_order_68 (by decide) (fun c11 => ?_) (fun c11 => ?_)
            · replace h := h.1 c11
              refine z_iload O dX11_order_76 5 rfl ?_
              refine z_istore (lv' := [(4, .int y6), (5, .int r10), (0, .ref (ad 0)), (1, .int p1), (2, .int r3), (3, .int y5), (6, .int y8)]) O dX11_order_78 (by decide) rfl ?_
              refine z_iload_n O dX11_order_80 5 rfl ?_
              refine z_iconst (v := 1) O dX11_order_81 rfl ?_
              refine z_iload O dX11_order_82 1 rfl ?_
              refine z_ishl O dX11_order_84 ?_
              refine z_ior O dX11_order_85 ?_
              refine z_istore_n (lv' := [(3, .int (y5 ||| (1 <<< (r10 &&& 31)))), (4, .int y6), (5, .int r10), (0, .ref (ad 0)), (1, .int p1), (2, .int r3), (6, .int y8)]) O dX11_order_86 (by decide) rfl ?_
              refine z_iinc (lv' := [(6, .int (y8 + (-1))), (3, .int (y5 ||| (1 <<< (r10 &&& 31)))), (4, .int y6), (5, .int r10), (0, .ref (ad 0)), (1, .int p1), (2, .int r3)]) O dX11_order_87 6 rfl rfl (by decide) rfl ?_
              refine z_goto O 46 dX11_order_90 (by decide) ?_
              exact z_sub [4, 5, 6, 1, 2, 3, 0] rfl (iI46 (y5 ||| (1 <<< (r10 &&& 31))) y6 r10 (y8 + (-1)) (Nat.lt_of_lt_of_le h.2 (Nat.le_of_lt_succ uI46)) h.1)
            · replace h := h.2 c11
              refine z_iload O dX11_order_71 0 rfl ?_
              refine z_goto O 78 dX11_order_73 (by decide) ?_
              refine z_istore (lv' := [(4, .int r10), (5, .int r10), (0, .ref (ad 0)), (1, .int p1), (2, .int r3), (3, .int y5), (6, .int y8)]) O dX11_order_78 (by decide) rfl ?_
              refine z_iload_n O dX11_order_80 5 rfl ?_
              refine z_iconst (v := 1) O dX11_order_81 rfl ?_
              refine z_iload O dX11_order_82 1 rfl ?_
              refine z_ishl O dX11_order_84 ?_
              refine z_ior O dX11_order_85 ?_
              refine z_istore_n (lv' := [(3, .int (y5 ||| (1 <<< (r10 &&& 31)))), (4, .int r10), (5, .int r10), (0, .ref (ad 0)), (1, .int p1), (2, .int r3), (6, .int y8)]) O dX11_order_86 (by decide) rfl ?_
              refine z_iinc (lv' := [(6, .int (y8 + (-1))), (3, .int (y5 ||| (1 <<< (r10 &&& 31)))), (4, .int r10), (5, .int r10), (0, .ref (ad 0)), (1, .int p1), (2, .int r3)]) O dX11_order_87 6 rfl rfl (by decide) rfl ?_
              refine z_goto O 46 dX11_order_90 (by decide) ?_
              exact z_sub [4, 5, 6, 1, 2, 3, 0] rfl (iI46 (y5 ||| (1 <<< (r10 &&& 31))) r10 r10 (y8 + (-1)) (Nat.lt_of_lt_of_le h.2 (Nat.le_of_lt_succ uI46)) h.1)
          · replace h := h.2 c12
            refine z_bipush (v := -4) O dX11_order_64 rfl ?_
            exact z_retWR O hE (Nat.le_of_ble_eq_true rfl) (Nat.le_of_ble_eq_true rfl) rfl dX11_order_66 h
    exact z_sub [5, 6, 4, 3, 2, 1, 0] rfl (kI46 _ 0 (-4) (-4) r4 (Nat.lt_succ_self _) h0)
  · replace h := h.2 c14
    refine z_iconst (v := -1) O dX11_order_9 rfl ?_
    exact z_retWR O hE (Nat.le_of_ble_eq_true rfl) (Nat.le_of_ble_eq_true rfl) rfl dX11_order_10 h
def wp_X11_alikeFingers (x : XS) (q0 : Nat) (q1 : Nat)  (Q : Int32 → Prop) : Prop :=
 wp_X2_thickAt x q0 ((x.1 q0 6) - 1) (fun r1 : Int32 =>
 wp_X2_thickAt x q1 ((x.1 q1 6) - 1) (fun r2 : Int32 =>
 (∃ (I32 : Int32 → Int32 → Int32 → Int32 → Int32 → Prop) (U32 : Int32 → Int32 → Int32 → Int32 → Int32 → Nat), I32 0 ((x.1 q0 6) - 1) ((x.1 q1 6) - 1) r1 r2 ∧ ∀ (y3 : Int32) (y4 : Int32) (y5 : Int32) (y6 : Int32) (y7 : Int32), I32 y3 y4 y5 y6 y7 →
 ((y4 < 0 →
 Q y3) ∧ (¬ y4 < 0 →
 ((y5 < 0 →
 Q y3) ∧ (¬ y5 < 0 →
 wp_X2_oathAt x q0 y4 (fun r8 : Int32 =>
 wp_X2_oathAt x q1 y5 (fun r9 : Int32 =>
 ((¬ r8 = r9 →
 Q y3) ∧ (r8 = r9 →
 ((¬ (y6 - (if y7 < y6 then y7 else y6)) = 0 →
 ((¬ (y7 - (if y7 < y6 then y7 else y6)) = 0 →
 (I32 (y3 + (if y7 < y6 then y7 else y6)) y4 y5 (y6 - (if y7 < y6 then y7 else y6)) (y7 - (if y7 < y6 then y7 else y6)) ∧ U32 (y3 + (if y7 < y6 then y7 else y6)) y4 y5 (y6 - (if y7 < y6 then y7 else y6)) (y7 - (if y7 < y6 then y7 else y6)) < U32 y3 y4 y5 y6 y7)) ∧ ((y7 - (if y7 < y6 then y7 else y6)) = 0 →
 wp_X2_thickAt x q1 (y5 + (-1)) (fun r10 : Int32 =>
 (I32 (y3 + (if y7 < y6 then y7 else y6)) y4 (y5 + (-1)) (y6 - (if y7 < y6 then y7 else y6)) r10 ∧ U32 (y3 + (if y7 < y6 then y7 else y6)) y4 (y5 + (-1)) (y6 - (if y7 < y6 then y7 else y6)) r10 < U32 y3 y4 y5 y6 y7))))) ∧ ((y6 - (if y7 < y6 then y7 else y6)) = 0 →
 wp_X2_thickAt x q0 (y4 + (-1)) (fun r12 : Int32 =>
 ((¬ (y7 - (if y7 < y6 then y7 else y6)) = 0 →
 (I32 (y3 + (if y7 < y6 then y7 else y6)) (y4 + (-1)) y5 r12 (y7 - (if y7 < y6 then y7 else y6)) ∧ U32 (y3 + (if y7 < y6 then y7 else y6)) (y4 + (-1)) y5 r12 (y7 - (if y7 < y6 then y7 else y6)) < U32 y3 y4 y5 y6 y7)) ∧ ((y7 - (if y7 < y6 then y7 else y6)) = 0 →
 wp_X2_thickAt x q1 (y5 + (-1)) (fun r13 : Int32 =>
 (I32 (y3 + (if y7 < y6 then y7 else y6)) (y4 + (-1)) (y5 + (-1)) r12 r13 ∧ U32 (y3 + (if y7 < y6 then y7 else y6)) (y4 + (-1)) (y5 + (-1)) r12 r13 < U32 y3 y4 y5 y6 y7))))))))))))))))))
set_option maxHeartbeats 4000000 in
set_option maxRecDepth 100000 in
theorem t_X11_alikeFingers {l : Launch} {D : va_G} {cs : Nat → ClassId} {ad : Nat → Nat} (x : XS) (q0 : Nat) (hq0 : xk q0 2) (q1 : Nat) (hq1 : xk q1 2)  (Q : Int32 → Prop) (h : wp_X11_alikeFingers x q0 q1  Q) : zMR l yX11_alikeFingers wsX11_alikeFingers ({ frames := 2, cells := 0, slots := 0, locals := 42 } : Room) (gK D cs) (XH D cs ad) x [.ref (ad q0), .ref (ad q1)] Q := by
  refine zMR_of (cc := cX11_alikeFingers) (nL := 8) (ret := (some .int)) (by decide +kernel) rfl (Nat.le_of_ble_eq_true rfl) (fun C hl O hE hK hH => ?_)
  subst hl
  have hX : ∀ (x : XS) (H : Heap), z0 (XH D cs ad) C.s.heap x H → va_P D vwCl (wl 161 ad (XE cs ad x)) H := fun _ _ h => h.2
  have i2 : ∀ w ∈ wsX20, w ∈ wsX11_alikeFingers := by decide +kernel
  refine z_sub (lv' := [(0, .ref (ad q0)), (1, .ref (ad q1))]) [0, 1] rfl ?_
  refine z_iconst (v := 0) O dX11_alikeFingers_0 rfl ?_
  refine z_istore_n (lv' := [(2, .int 0), (0, .ref (ad q0)), (1, .ref (ad q1))]) O dX11_alikeFingers_1 (by decide) rfl ?_
  refine z_aload_n O dX11_alikeFingers_2 1 rfl ?_
  refine z_getfN O hK.1 (hX _) (hq0).1 (xe_2 hq0) rfl i2 6 (by decide) (hK.2.1 _ (List.mem_of_getElem? (i := 1) rfl)) rfl dX11_alikeFingers_3 ?_
  refine z_iconst (v := 1) O dX11_alikeFingers_6 rfl ?_
  refine z_isub O dX11_alikeFingers_7 ?_
  refine z_istore_n (lv' := [(3, .int ((x.1 q0 6) - 1)), (2, .int 0), (0, .ref (ad q0)), (1, .ref (ad q1))]) O dX11_alikeFingers_8 (by decide) rfl ?_
  refine z_aload_n O dX11_alikeFingers_9 3 rfl ?_
  refine z_getfN O hK.1 (hX _) (hq1).1 (xe_2 hq1) rfl i2 6 (by decide) (hK.2.1 _ (List.mem_of_getElem? (i := 1) rfl)) rfl dX11_alikeFingers_10 ?_
  refine z_iconst (v := 1) O dX11_alikeFingers_13 rfl ?_
  refine z_isub O dX11_alikeFingers_14 ?_
  refine z_istore (lv' := [(4, .int ((x.1 q1 6) - 1)), (3, .int ((x.1 q0 6) - 1)), (2, .int 0), (0, .ref (ad q0)), (1, .ref (ad q1))]) O dX11_alikeFingers_15 (by decide) rfl ?_
  refine z_aload_n O dX11_alikeFingers_17 3 rfl ?_
  refine z_iload_n O dX11_alikeFingers_18 1 rfl ?_
  refine z_callR (gKs D cs) hK (fun _ h => h.2) (t_X2_thickAt x q0 hq0 ((x.1 q0 6) - 1) _ h) (zr_V (As := [.int ((x.1 q0 6) - 1)]) (rest := []) O hE.1 1 gX11_alikeFingers_X2_thickAt rfl rfl rfl (by decide +kernel) ⟨(Nat.le_of_ble_eq_true rfl), (Nat.le_of_ble_eq_true rfl)⟩ ⟨(Nat.le_of_ble_eq_true rfl), (Nat.le_of_ble_eq_true rfl)⟩ (fun H hH => z_recv hK.1 (hX _ H hH) (hq0).1 (xe_2 hq0) rfl) rfl rfl (Nat.le_of_ble_eq_true rfl) dX11_alikeFingers_19) (fun r1 h => ?_)
  refine z_istore (lv' := [(5, .int r1), (4, .int ((x.1 q1 6) - 1)), (3, .int ((x.1 q0 6) - 1)), (2, .int 0), (0, .ref (ad q0)), (1, .ref (ad q1))]) O dX11_alikeFingers_22 (by decide) rfl ?_
  refine z_aload_n O dX11_alikeFingers_24 5 rfl ?_
  refine z_iload O dX11_alikeFingers_25 1 rfl ?_
  refine z_callR (gKs D cs) hK (fun _ h => h.2) (t_X2_thickAt x q1 hq1 ((x.1 q1 6) - 1) _ h) (zr_V (As := [.int ((x.1 q1 6) - 1)]) (rest := []) O hE.1 1 gX11_alikeFingers_X2_thickAt rfl rfl rfl (by decide +kernel) ⟨(Nat.le_of_ble_eq_true rfl), (Nat.le_of_ble_eq_true rfl)⟩ ⟨(Nat.le_of_ble_eq_true rfl), (Nat.le_of_ble_eq_true rfl)⟩ (fun H hH => z_recv hK.1 (hX _ H hH) (hq1).1 (xe_2 hq1) rfl) rfl rfl (Nat.le_of_ble_eq_true rfl) dX11_alikeFingers_27) (fun r2 h => ?_)
  refine z_istore (lv' := [(6, .int r2), (5, .int r1), (4, .int ((x.1 q1 6) - 1)), (3, .int ((x.1 q0 6) - 1)), (2, .int 0), (0, .ref (ad q0)), (1, .ref (ad q1))]) O dX11_alikeFingers_30 (by decide) rfl ?_
  obtain ⟨I32, U32, h0, hs⟩ := h
  have kI32 : ∀ (n : Nat) (y3 : Int32) (y4 : Int32) (y5 : Int32) (y6 : Int32) (y7 : Int32), U32 y3 y4 y5 y6 y7 < n → I32 y3 y4 y5 y6 y7 → Z C (fun _ => False) (z0 (XH D cs ad) C.s.heap) 8 x [(0, .ref (ad q0)), (1, .ref (ad q1)), (2, .int y3), (3, .int y4), (4, .int y5), (5, .int y6), (6, .int y7)] 0 0 32 [] := by
    intro n
    induction n with
    | zero => intro y3 y4 y5 y6 y7 uI32; exact absurd uI32 (Nat.not_lt_zero _)
    | succ n iI32 =>
      intro y3 y4 y5 y6 y7 uI32 h
      have h := hs y3 y4 y5 y6 y7 h
      refine z_iload_n O dX11_alikeFingers_32 3 rfl ?_
      refine z_if_lt O 117 dX11_alikeFingers_33 (by decide) (fun c18 => ?_) (fun c18 => ?_)
      · replace h := h.1 c18
        refine z_iload_n O dX11_alikeFingers_117 2 rfl ?_
        exact z_retR O hE (fun _ h => h.1) rfl dX11_alikeFingers_118 h
      · replace h := h.2 c18
        refine z_iload O dX11_alikeFingers_36 4 rfl ?_
        refine z_if_lt O 117 dX11_alikeFingers_38 (by decide) (fun c17 => ?_) (fun c17 => ?_)
        · replace h := h.1 c17
          refine z_iload_n O dX11_alikeFingers_117 2 rfl ?_
          exact z_retR O hE (fun _ h => h.1) rfl dX11_alikeFingers_118 h
        · replace h := h.2 c17
          refine z_aload_n O dX11_alikeFingers_41 0 rfl ?_
          refine z_iload_n O dX11_alikeFingers_42 3 rfl ?_
          refine z_callR (gKs D cs) hK (fun _ h => h.2) (t_X2_oathAt x q0 hq0 y4 _ h) (zr_V (As := [.int y4]) (rest := []) O hE.1 1 gX11_alikeFingers_X2_oathAt rfl rfl rfl (by decide +kernel) ⟨(Nat.le_of_ble_eq_true rfl), (Nat.le_of_ble_eq_true rfl)⟩ ⟨(Nat.le_of_ble_eq_true rfl), (Nat.le_of_ble_eq_true rfl)⟩ (fun H hH => z_recv hK.1 (hX _ H hH) (hq0).1 (xe_2 hq0) rfl) rfl rfl (Nat.le_of_ble_eq_true rfl) dX11_alikeFingers_43) (fun r8 h => ?_)
          refine z_aload_n O dX11_alikeFingers_46 1 rfl ?_
          refine z_iload O dX11_alikeFingers_47 4 rfl ?_
          refine z_callR (gKs D cs) hK (fun _ h => h.2) (t_X2_oathAt x q1 hq1 y5 _ h) (zr_V (As := [.int y5]) (rest := [.int r8]) O hE.1 1 gX11_alikeFingers_X2_oathAt rfl rfl rfl (by decide +kernel) ⟨(Nat.le_of_ble_eq_true rfl), (Nat.le_of_ble_eq_true rfl)⟩ ⟨(Nat.le_of_ble_eq_true rfl), (Nat.le_of_ble_eq_true rfl)⟩ (fun H hH => z_recv hK.1 (hX _ H hH) (hq1).1 (xe_2 hq1) rfl) rfl rfl (Nat.le_of_ble_eq_true rfl) dX11_alikeFingers_49) (fun r9 h => ?_)
          refine z_icmp_ne O 117 dX11_alikeFingers_52 (by decide) (fun c16 => ?_) (fun c16 => ?_)
          · replace h := h.1 c16
            refine z_iload_n O dX11_alikeFingers_117 2 rfl ?_
            exact z_retR O hE (fun _ h => h.1) rfl dX11_alikeFingers_118 h
          · replace h := h.2 c16
            refine z_iload O dX11_alikeFingers_55 5 rfl ?_
            refine z_iload O dX11_alikeFingers_57 6 rfl ?_
            refine z_min O hE.1 (by decide +kernel) (by decide +kernel) (by decide +kernel) (by decide +kernel) ⟨(Nat.le_of_ble_eq_true rfl), (Nat.le_of_ble_eq_true rfl), Nat.zero_le _, Nat.zero_le _⟩ dX11_alikeFingers_59 ?_
            refine z_istore (lv' := [(7, .int (if y7 < y6 then y7 else y6)), (0, .ref (ad q0)), (1, .ref (ad q1)), (2, .int y3), (3, .int y4), (4, .int y5), (5, .int y6), (6, .int y7)]) O dX11_alikeFingers_62 (by decide) rfl ?_
            refine z_iload_n O dX11_alikeFingers_64 3 rfl ?_
            refine z_iload O dX11_alikeFingers_65 0 rfl ?_
            refine z_iadd O dX11_alikeFingers_67 ?_
            refine z_istore_n (lv' := [(2, .int (y3 + (if y7 < y6 then y7 else y6))), (7, .int (if y7 < y6 then y7 else y6)), (0, .ref (ad q0)), (1, .ref (ad q1)), (3, .int y4), (4, .int y5), (5, .int y6), (6, .int y7)]) O dX11_alikeFingers_68 (by decide) rfl ?_
            refine z_iload O dX11_alikeFingers_69 6 rfl ?_
            refine z_iload O dX11_alikeFingers_71 1 rfl ?_
            refine z_isub O dX11_alikeFingers_73 ?_
            refine z_istore (lv' := [(5, .int (y6 - (if y7 < y6 then y7 else y6))), (2, .int (y3 + (if y7 < y6 then y7 else y6))), (7, .int (if y7 < y6 then y7 else y6)), (0, .ref (ad q0)), (1, .ref (ad q1)), (3, .int y4), (4, .int y5), (6, .int y7)]) O dX11_alikeFingers_74 (by decide) rfl ?_
            refine z_iload O dX11_alikeFingers_76 7 rfl ?_
            refine z_iload O dX11_alikeFingers_78 2 rfl ?_
            refine z_isub O dX11_alikeFingers_80 ?_
            refine z_istore (lv' := [(6, .int (y7 - (if y7 < y6 then y7 else y6))), (5, .int (y6 - (if y7 < y6 then y7 else y6))), (2, .int (y3 + (if y7 < y6 then y7 else y6))), (7, .int (if y7 < y6 then y7 else y6)), (0, .ref (ad q0)), (1, .ref (ad q1)), (3, .int y4), (4, .int y5)]) O dX11_alikeFingers_81 (by decide) rfl ?_
            refine z_iload O dX11_alikeFingers_83 1 rfl ?_
            refine z_if_ne O 98 dX11_alikeFingers_85 (by decide) (fun c15 => ?_) (fun c15 => ?_)
            · replace h := h.1 c15
              refine z_iload O dX11_alikeFingers_98 0 rfl ?_
              refine z_if_ne O 114 dX11_alikeFingers_100 (by decide) (fun c11 => ?_) (fun c11 => ?_)
              · replace h := h.1 c11
                refine z_goto O 32 dX11_alikeFingers_114 (by decide) ?_
                exact z_sub [4, 5, 2, 6, 7, 1, 0] rfl (iI32 (y3 + (if y7 < y6 then y7 else y6)) y4 y5 (y6 - (if y7 < y6 then y7 else y6)) (y7 - (if y7 < y6 then y7 else y6)) (Nat.lt_of_lt_of_le h.2 (Nat.le_of_lt_succ uI32)) h.1)
              · replace h := h.2 c11
                refine z_iinc (lv' := [(4, .int (y5 + (-1))), (6, .int (y7 - (if y7 < y6 then y7 else y6))), (5, .int (y6 - (if y7 < y6 then y7 else y6))), (2, .int (y3 + (if y7 < y6 then y7 else y6))), (7, .int (if y7 < y6 then y7 else y6)), (0, .ref (ad q0)), (1, .ref (ad q1)), (3, .int y4)]) O dX11_alikeFingers_103 7 rfl rfl (by decide) rfl ?_
                refine z_aload_n O dX11_alikeFingers_106 6 rfl ?_
                refine z_iload O dX11_alikeFingers_107 0 rfl ?_
                refine z_callR (gKs D cs) hK (fun _ h => h.2) (t_X2_thickAt x q1 hq1 (y5 + (-1)) _ h) (zr_V (As := [.int (y5 + (-1))]) (rest := []) O hE.1 1 gX11_alikeFingers_X2_thickAt rfl rfl rfl (by decide +kernel) ⟨(Nat.le_of_ble_eq_true rfl), (Nat.le_of_ble_eq_true rfl)⟩ ⟨(Nat.le_of_ble_eq_true rfl), (Nat.le_of_ble_eq_true rfl)⟩ (fun H hH => z_recv hK.1 (hX _ H hH) (hq1).1 (xe_2 hq1) rfl) rfl rfl (Nat.le_of_ble_eq_true rfl) dX11_alikeFingers_109) (fun r10 h => ?_)
                refine z_istore (lv' := [(6, .int r10), (4, .int (y5 + (-1))), (5, .int (y6 - (if y7 < y6 then y7 else y6))), (2, .int (y3 + (if y7 < y6 then y7 else y6))), (7, .int (if y7 < y6 then y7 else y6)), (0, .ref (ad q0)), (1, .ref (ad q1)), (3, .int y4)]) O dX11_alikeFingers_112 (by decide) rfl ?_
                refine z_goto O 32 dX11_alikeFingers_114 (by decide) ?_
                exact z_sub [5, 6, 3, 7, 1, 2, 0] rfl (iI32 (y3 + (if y7 < y6 then y7 else y6)) y4 (y5 + (-1)) (y6 - (if y7 < y6 then y7 else y6)) r10 (Nat.lt_of_lt_of_le h.2 (Nat.le_of_lt_succ uI32)) h.1)
            · replace h := h.2 c15
              refine z_iinc (lv' := [(3, .int (y4 + (-1))), (6, .int (y7 - (if y7 < y6 then y7 else y6))), (5, .int (y6 - (if y7 < y6 then y7 else y6))), (2, .int (y3 + (if y7 < y6 then y7 else y6))), (7, .int (if y7 < y6 then y7 else y6)), (0, .ref (ad q0)), (1, .ref (ad q1)), (4, .int y5)]) O dX11_alikeFingers_88 6 rfl rfl (by decide) rfl ?_
              refine z_aload_n O dX11_alikeFingers_91 5 rfl ?_
              refine z_iload_n O dX11_alikeFingers_92 0 rfl ?_
              refine z_callR (gKs D cs) hK (fun _ h => h.2) (t_X2_thickAt x q0 hq0 (y4 + (-1)) _ h) (zr_V (As := [.int (y4 + (-1))]) (rest := []) O hE.1 1 gX11_alikeFingers_X2_thickAt rfl rfl rfl (by decide +kernel) ⟨(Nat.le_of_ble_eq_true rfl), (Nat.le_of_ble_eq_true rfl)⟩ ⟨(Nat.le_of_ble_eq_true rfl), (Nat.le_of_ble_eq_true rfl)⟩ (fun H hH => z_recv hK.1 (hX _ H hH) (hq0).1 (xe_2 hq0) rfl) rfl rfl (Nat.le_of_ble_eq_true rfl) dX11_alikeFingers_93) (fun r12 h => ?_)
              refine z_istore (lv' := [(5, .int r12), (3, .int (y4 + (-1))), (6, .int (y7 - (if y7 < y6 then y7 else y6))), (2, .int (y3 + (if y7 < y6 then y7 else y6))), (7, .int (if y7 < y6 then y7 else y6)), (0, .ref (ad q0)), (1, .ref (ad q1)), (4, .int y5)]) O dX11_alikeFingers_96 (by decide) rfl ?_
              refine z_iload O dX11_alikeFingers_98 2 rfl ?_
              refine z_if_ne O 114 dX11_alikeFingers_100 (by decide) (fun c14 => ?_) (fun c14 => ?_)
              · replace h := h.1 c14
                refine z_goto O 32 dX11_alikeFingers_114 (by decide) ?_
                exact z_sub [5, 6, 3, 1, 7, 0, 2] rfl (iI32 (y3 + (if y7 < y6 then y7 else y6)) (y4 + (-1)) y5 r12 (y7 - (if y7 < y6 then y7 else y6)) (Nat.lt_of_lt_of_le h.2 (Nat.le_of_lt_succ uI32)) h.1)
              · replace h := h.2 c14
                refine z_iinc (lv' := [(4, .int (y5 + (-1))), (5, .int r12), (3, .int (y4 + (-1))), (6, .int (y7 - (if y7 < y6 then y7 else y6))), (2, .int (y3 + (if y7 < y6 then y7 else y6))), (7, .int (if y7 < y6 then y7 else y6)), (0, .ref (ad q0)), (1, .ref (ad q1))]) O dX11_alikeFingers_103 7 rfl rfl (by decide) rfl ?_
                refine z_aload_n O dX11_alikeFingers_106 7 rfl ?_
                refine z_iload O dX11_alikeFingers_107 0 rfl ?_
                refine z_callR (gKs D cs) hK (fun _ h => h.2) (t_X2_thickAt x q1 hq1 (y5 + (-1)) _ h) (zr_V (As := [.int (y5 + (-1))]) (rest := []) O hE.1 1 gX11_alikeFingers_X2_thickAt rfl rfl rfl (by decide +kernel) ⟨(Nat.le_of_ble_eq_true rfl), (Nat.le_of_ble_eq_true rfl)⟩ ⟨(Nat.le_of_ble_eq_true rfl), (Nat.le_of_ble_eq_true rfl)⟩ (fun H hH => z_recv hK.1 (hX _ H hH) (hq1).1 (xe_2 hq1) rfl) rfl rfl (Nat.le_of_ble_eq_true rfl) dX11_alikeFingers_109) (fun r13 h => ?_)
                refine z_istore (lv' := [(6, .int r13), (4, .int (y5 + (-1))), (5, .int r12), (3, .int (y4 + (-1))), (2, .int (y3 + (if y7 < y6 then y7 else y6))), (7, .int (if y7 < y6 then y7 else y6)), (0, .ref (ad q0)), (1, .ref (ad q1))]) O dX11_alikeFingers_112 (by decide) rfl ?_
                refine z_goto O 32 dX11_alikeFingers_114 (by decide) ?_
                exact z_sub [6, 7, 4, 3, 1, 2, 0] rfl (iI32 (y3 + (if y7 < y6 then y7 else y6)) (y4 + (-1)) (y5 + (-1)) r12 r13 (Nat.lt_of_lt_of_le h.2 (Nat.le_of_lt_succ uI32)) h.1)
  exact z_sub [5, 6, 4, 3, 2, 1, 0] rfl (kI32 _ 0 ((x.1 q0 6) - 1) ((x.1 q1 6) - 1) r1 r2 (Nat.lt_succ_self _) h0)
def wp_X11_joined (x : XS)  (p1 : Int32) (p2 : Int32) (Q : Int32 → Prop) : Prop :=
 wp_X6_cellAt x 29 p1 (fun r : Option Nat => match r with
 | none => wp_X6_cellAt x 29 p2 (fun r : Option Nat => match r with
 | none => Q (-1)
 | some o2 => xk o2 2 ∧
 Q (-1))
 | some o1 => xk o1 2 ∧
 wp_X6_cellAt x 29 p2 (fun r : Option Nat => match r with
 | none => Q (-1)
 | some o3 => xk o3 2 ∧
 ((¬ p1 = p2 →
 wp_X11_alikeFingers x o1 o3 (fun r4 : Int32 =>
 Q r4)) ∧ (p1 = p2 →
 Q (-1)))))
set_option maxHeartbeats 4000000 in
set_option maxRecDepth 100000 in
theorem t_X11_joined {l : Launch} {D : va_G} {cs : Nat → ClassId} {ad : Nat → Nat} (x : XS)  (p1 : Int32) (p2 : Int32) (Q : Int32 → Prop) (h : wp_X11_joined x  p1 p2 Q) : zMR l yX11_joined wsX11_joined ({ frames := 3, cells := 0, slots := 0, locals := 69 } : Room) (gK D cs) (XH D cs ad) x [.ref (ad 0), .int p1, .int p2] Q := by
  refine zMR_of (cc := cX11_joined) (nL := 5) (ret := (some .int)) (by decide +kernel) rfl (Nat.le_of_ble_eq_true rfl) (fun C hl O hE hK hH => ?_)
  subst hl
  have hX : ∀ (x : XS) (H : Heap), z0 (XH D cs ad) C.s.heap x H → va_P D vwCl (wl 161 ad (XE cs ad x)) H := fun _ _ h => h.2
  have i11 : ∀ w ∈ wsX110, w ∈ wsX11_joined := by decide +kernel
  refine z_sub (lv' := [(0, .ref (ad 0)), (1, .int p1), (2, .int p2)]) [0, 1, 2] rfl ?_
  refine z_aload_n O dX11_joined_0 0 rfl ?_
  refine z_getf O hK.1 (hX _) (by decide) xe_11 rfl i11 1 (by decide) (by decide +kernel) rfl dX11_joined_1 ?_
  refine z_iload_n O dX11_joined_4 1 rfl ?_
  refine z_callE (gKs D cs) hK (fun _ h => h.2) (t_X6_cellAt x 29 xk_29 p1 _ h) (zr_V (As := [.int p1]) (rest := []) O hE.1 1 gX11_joined_X6_cellAt rfl rfl rfl (by decide +kernel) ⟨(Nat.le_of_ble_eq_true rfl), (Nat.le_of_ble_eq_true rfl)⟩ ⟨(Nat.le_of_ble_eq_true rfl), (Nat.le_of_ble_eq_true rfl)⟩ (fun H hH => z_recv hK.1 (hX _ H hH) (xk_29).1 (xe_6 xk_29) rfl) rfl rfl (Nat.le_of_ble_eq_true rfl) dX11_joined_5) (fun h => ?_) (fun o1 h => ?_)
  · skip
    refine z_astore_nN (lv' := [(3, .null), (0, .ref (ad 0)), (1, .int p1), (2, .int p2)]) O dX11_joined_8 (by decide) rfl ?_
    refine z_aload_n O dX11_joined_9 1 rfl ?_
    refine z_getf O hK.1 (hX _) (by decide) xe_11 rfl i11 1 (by decide) (by decide +kernel) rfl dX11_joined_10 ?_
    refine z_iload_n O dX11_joined_13 3 rfl ?_
    refine z_callE (gKs D cs) hK (fun _ h => h.2) (t_X6_cellAt x 29 xk_29 p2 _ h) (zr_V (As := [.int p2]) (rest := []) O hE.1 1 gX11_joined_X6_cellAt rfl rfl rfl (by decide +kernel) ⟨(Nat.le_of_ble_eq_true rfl), (Nat.le_of_ble_eq_true rfl)⟩ ⟨(Nat.le_of_ble_eq_true rfl), (Nat.le_of_ble_eq_true rfl)⟩ (fun H hH => z_recv hK.1 (hX _ H hH) (xk_29).1 (xe_6 xk_29) rfl) rfl rfl (Nat.le_of_ble_eq_true rfl) dX11_joined_14) (fun h => ?_) (fun o2 h => ?_)
    · skip
      refine z_astoreN (lv' := [(4, .null), (3, .null), (0, .ref (ad 0)), (1, .int p1), (2, .int p2)]) O dX11_joined_17 (by decide) rfl ?_
      refine z_aload_nN O dX11_joined_19 1 rfl ?_
      refine z_ifnullN O 33 dX11_joined_20 (by decide) ?_
      refine z_iconst (v := -1) O dX11_joined_33 rfl ?_
      refine z_goto O 43 dX11_joined_34 (by decide) ?_
      exact z_retR O hE (fun _ h => h.1) rfl dX11_joined_43 h
    · have ho2 := h.1
      replace h := h.2
      refine z_astore (lv' := [(4, .ref (ad o2)), (3, .null), (0, .ref (ad 0)), (1, .int p1), (2, .int p2)]) O dX11_joined_17 (by decide) rfl ?_
      refine z_aload_nN O dX11_joined_19 1 rfl ?_
      refine z_ifnullN O 33 dX11_joined_20 (by decide) ?_
      refine z_iconst (v := -1) O dX11_joined_33 rfl ?_
      refine z_goto O 43 dX11_joined_34 (by decide) ?_
      exact z_retR O hE (fun _ h => h.1) rfl dX11_joined_43 h
  · have ho1 := h.1
    replace h := h.2
    refine z_astore_n (lv' := [(3, .ref (ad o1)), (0, .ref (ad 0)), (1, .int p1), (2, .int p2)]) O dX11_joined_8 (by decide) rfl ?_
    refine z_aload_n O dX11_joined_9 1 rfl ?_
    refine z_getf O hK.1 (hX _) (by decide) xe_11 rfl i11 1 (by decide) (by decide +kernel) rfl dX11_joined_10 ?_
    refine z_iload_n O dX11_joined_13 3 rfl ?_
    refine z_callE (gKs D cs) hK (fun _ h => h.2) (t_X6_cellAt x 29 xk_29 p2 _ h) (zr_V (As := [.int p2]) (rest := []) O hE.1 1 gX11_joined_X6_cellAt rfl rfl rfl (by decide +kernel) ⟨(Nat.le_of_ble_eq_true rfl), (Nat.le_of_ble_eq_true rfl)⟩ ⟨(Nat.le_of_ble_eq_true rfl), (Nat.le_of_ble_eq_true rfl)⟩ (fun H hH => z_recv hK.1 (hX _ H hH) (xk_29).1 (xe_6 xk_29) rfl) rfl rfl (Nat.le_of_ble_eq_true rfl) dX11_joined_14) (fun h => ?_) (fun o3 h => ?_)
    · skip
      refine z_astoreN (lv' := [(4, .null), (3, .ref (ad o1)), (0, .ref (ad 0)), (1, .int p1), (2, .int p2)]) O dX11_joined_17 (by decide) rfl ?_
      refine z_aload_n O dX11_joined_19 1 rfl ?_
      refine z_ifnull O dX11_joined_20 ?_
      refine z_aloadN O dX11_joined_23 0 rfl ?_
      refine z_ifnullN O 33 dX11_joined_25 (by decide) ?_
      refine z_iconst (v := -1) O dX11_joined_33 rfl ?_
      refine z_goto O 43 dX11_joined_34 (by decide) ?_
      exact z_retR O hE (fun _ h => h.1) rfl dX11_joined_43 h
    · have ho3 := h.1
      replace h := h.2
      refine z_astore (lv' := [(4, .ref (ad o3)), (3, .ref (ad o1)), (0, .ref (ad 0)), (1, .int p1), (2, .int p2)]) O dX11_joined_17 (by decide) rfl ?_
      refine z_aload_n O dX11_joined_19 1 rfl ?_
      refine z_ifnull O dX11_joined_20 ?_
      refine z_aload O dX11_joined_23 0 rfl ?_
      refine z_ifnull O dX11_joined_25 ?_
      refine z_iload_n O dX11_joined_28 3 rfl ?_
      refine z_iload_n O dX11_joined_29 4 rfl ?_
      refine z_icmp_ne O 37 dX11_joined_30 (by decide) (fun c5 => ?_) (fun c5 => ?_)
      · replace h := h.1 c5
        refine z_aload_n O dX11_joined_37 1 rfl ?_
        refine z_aload O dX11_joined_38 0 rfl ?_
        refine z_callR (gKs D cs) hK (fun _ h => h.2) (t_X11_alikeFingers x o1 ho1 o3 ho3  _ h) (zr_SS (As := [.ref (ad o1), .ref (ad o3)]) (rest := []) O hE.1 2 gX11_joined_X11_alikeFingers rfl rfl rfl (by decide +kernel) ⟨(Nat.le_of_ble_eq_true rfl), (Nat.le_of_ble_eq_true rfl)⟩ ⟨(Nat.le_of_ble_eq_true rfl), (Nat.le_of_ble_eq_true rfl)⟩ rfl rfl (Nat.le_of_ble_eq_true rfl) dX11_joined_40) (fun r4 h => ?_)
        exact z_retR O hE (fun _ h => h.1) rfl dX11_joined_43 h
      · replace h := h.2 c5
        refine z_iconst (v := -1) O dX11_joined_33 rfl ?_
        refine z_goto O 43 dX11_joined_34 (by decide) ?_
        exact z_retR O hE (fun _ h => h.1) rfl dX11_joined_43 h
def wp_X11_drawBelow (x : XS)  (p1 : Int32) (Q : Int32 → XS → Prop) : Prop :=
 (∀ x1 : XS, x1 = xI x 0 8 (((x.1 0 8) * 1103515245) + 12345) →
 ((1 ≤ p1 →
 ((¬ p1 = 0) ∧
 Q ((((x1.1 0 8) &&& 2147483647) / 65536) - (((x1.1 0 8) &&& 2147483647) / 65536) / p1 * p1) x1)) ∧ (¬ 1 ≤ p1 →
 Q 0 x1)))
set_option maxHeartbeats 4000000 in
set_option maxRecDepth 100000 in
theorem t_X11_drawBelow {l : Launch} {D : va_G} {cs : Nat → ClassId} {ad : Nat → Nat} (hI : wInj 161 ad) (x : XS)  (p1 : Int32) (Q : Int32 → XS → Prop) (h : wp_X11_drawBelow x  p1 Q) : zWR l yX11_drawBelow wsX11_drawBelow ({ frames := 0, cells := 0, slots := 0, locals := 0 } : Room) (gK D cs) (XH D cs ad) (wB 161 ad) x [.ref (ad 0), .int p1] 0 0 Q := by
  refine zWR_of (cc := cX11_drawBelow) (nL := 2) (ret := (some .int)) (by decide +kernel) rfl (Nat.le_of_ble_eq_true rfl) (fun C hl O hE hK => ?_)
  subst hl
  have hX : ∀ (x : XS) (H : Heap), XH D cs ad x H → va_P D vwCl (wl 161 ad (XE cs ad x)) H := fun _ _ h => h
  have hB : ∀ {x : XS} (H : Heap), va_P D vwCl (wl 161 ad (XE cs ad x)) H → XH D cs ad x H := fun _ h => h
  have hA : ∀ q, wB 161 ad q → zA (wB 161 ad) C.s.heap.size q := fun _ h => Or.inl h
  have i11 : ∀ w ∈ wsX110, w ∈ wsX11_drawBelow := by decide +kernel
  refine z_sub (lv' := [(0, .ref (ad 0)), (1, .int p1)]) [0, 1] rfl ?_
  refine z_aload_n O dX11_drawBelow_0 0 rfl ?_
  refine z_aload_n O dX11_drawBelow_1 0 rfl ?_
  refine z_getf O hK.1 (hX _) (by decide) xe_11 rfl i11 8 (by decide) (by decide +kernel) rfl dX11_drawBelow_2 ?_
  refine z_ldcw (v := 1103515245) O (by decide +kernel) dX11_drawBelow_5 ?_
  refine z_imul O dX11_drawBelow_8 ?_
  refine z_sipush (v := 12345) O dX11_drawBelow_9 rfl ?_
  refine z_iadd O dX11_drawBelow_12 ?_
  obtain ⟨x1, ex1⟩ : ∃ z, z = xI x 0 8 (((x.1 0 8) * 1103515245) + 12345) := ⟨_, rfl⟩
  replace h := h x1 ex1
  refine z_putf (x' := x1) (ty := .int) O hK.1 (hX _) hB hI hA (by decide) xe_11 rfl i11 tyX11 tyX11_ok nmX11 8 (by decide) (by decide +kernel) rfl (by decide +kernel) rfl rfl (Nat.le_of_ble_eq_true rfl) (by rw [ex1]; exact xe_put11_8 (((x.1 0 8) * 1103515245) + 12345)) dX11_drawBelow_13 ?_
  refine z_iload_n O dX11_drawBelow_16 1 rfl ?_
  refine z_iconst (v := 1) O dX11_drawBelow_17 rfl ?_
  refine z_icmp_ge O 25 dX11_drawBelow_18 (by decide) (fun c2 => ?_) (fun c2 => ?_)
  · replace h := h.1 c2
    refine z_aload_n O dX11_drawBelow_25 0 rfl ?_
    refine z_getf O hK.1 (hX _) (by decide) xe_11 rfl i11 8 (by decide) (by decide +kernel) rfl dX11_drawBelow_26 ?_
    refine z_ldcw (v := 2147483647) O (by decide +kernel) dX11_drawBelow_29 ?_
    refine z_iand O dX11_drawBelow_32 ?_
    refine z_ldcw (v := 65536) O (by decide +kernel) dX11_drawBelow_33 ?_
    refine z_idiv O dX11_drawBelow_36 (by decide) ?_
    refine z_iload_n O dX11_drawBelow_37 1 rfl ?_
    refine z_irem O dX11_drawBelow_38 h.1 ?_
    replace h := h.2
    exact z_retWR O hE (Nat.le_of_ble_eq_true rfl) (Nat.le_of_ble_eq_true rfl) rfl dX11_drawBelow_39 h
  · replace h := h.2 c2
    refine z_iconst (v := 0) O dX11_drawBelow_21 rfl ?_
    refine z_goto O 39 dX11_drawBelow_22 (by decide) ?_
    exact z_retWR O hE (Nat.le_of_ble_eq_true rfl) (Nat.le_of_ble_eq_true rfl) rfl dX11_drawBelow_39 h
def wp_X11_freezeDrawn (x : XS)   (Q : XS → Prop) : Prop :=
 wp_X11_drawBelow x 6 (fun (r2 : Int32) (x1 : XS) =>
 wp_X11_drawBelow x1 8 (fun (r4 : Int32) (x3 : XS) =>
 wp_X11_drawBelow x3 10 (fun (r6 : Int32) (x5 : XS) =>
 wp_X11_drawBelow x5 9 (fun (r8 : Int32) (x7 : XS) =>
 wp_X6_freezeIn x7 117 r2 r4 r6 (r8 + 1) (fun (r10 : Int32) (x9 : XS) =>
 Q x9)))))
set_option maxHeartbeats 4000000 in
set_option maxRecDepth 100000 in
theorem t_X11_freezeDrawn {l : Launch} {D : va_G} {cs : Nat → ClassId} {ad : Nat → Nat} (hI : wInj 161 ad) (x : XS)   (Q : XS → Prop) (h : wp_X11_freezeDrawn x   Q) : zWV l yX11_freezeDrawn wsX11_freezeDrawn ({ frames := 5, cells := 0, slots := 0, locals := 117 } : Room) (gK D cs) (XH D cs ad) (wB 161 ad) x [.ref (ad 0)] 0 0 Q := by
  refine zWV_of (cc := cX11_freezeDrawn) (nL := 5) (ret := none) (by decide +kernel) rfl (Nat.le_of_ble_eq_true rfl) (fun C hl O hE hK => ?_)
  subst hl
  have hX : ∀ (x : XS) (H : Heap), XH D cs ad x H → va_P D vwCl (wl 161 ad (XE cs ad x)) H := fun _ _ h => h
  have hB : ∀ {x : XS} (H : Heap), va_P D vwCl (wl 161 ad (XE cs ad x)) H → XH D cs ad x H := fun _ h => h
  have hA : ∀ q, wB 161 ad q → zA (wB 161 ad) C.s.heap.size q := fun _ h => Or.inl h
  have i11 : ∀ w ∈ wsX110, w ∈ wsX11_freezeDrawn := by decide +kernel
  refine z_sub (lv' := [(0, .ref (ad 0))]) [0] rfl ?_
  refine z_aload_n O dX11_freezeDrawn_0 0 rfl ?_
  refine z_bipush (v := 6) O dX11_freezeDrawn_1 rfl ?_
  refine z_cWR (gKs D cs) hK (fun _ h => h) (fun _ h => Or.inl h) (fun _ h => Or.inr h) (t_X11_drawBelow hI x  6 _ h) (zr_V (As := [.int 6]) (rest := []) O hE.1 1 gX11_freezeDrawn_X11_drawBelow rfl rfl rfl (by decide +kernel) ⟨(Nat.le_of_ble_eq_true rfl), (Nat.le_of_ble_eq_true rfl)⟩ ⟨(Nat.le_of_ble_eq_true rfl), (Nat.le_of_ble_eq_true rfl)⟩ (fun H hH => z_recv hK.1 (hX _ H hH) (by decide) xe_11 rfl) rfl rfl (Nat.le_of_ble_eq_true rfl) dX11_freezeDrawn_3) (fun r2 x1 h => ?_)
  refine z_istore_n (lv' := [(1, .int r2), (0, .ref (ad 0))]) O dX11_freezeDrawn_6 (by decide) rfl ?_
  refine z_aload_n O dX11_freezeDrawn_7 1 rfl ?_
  refine z_bipush (v := 8) O dX11_freezeDrawn_8 rfl ?_
  refine z_cWR (gKs D cs) hK (fun _ h => h) (fun _ h => Or.inl h) (fun _ h => Or.inr h) (t_X11_drawBelow hI x1  8 _ h) (zr_V (As := [.int 8]) (rest := []) O hE.1 1 gX11_freezeDrawn_X11_drawBelow rfl rfl rfl (by decide +kernel) ⟨(Nat.le_of_ble_eq_true rfl), (Nat.le_of_ble_eq_true rfl)⟩ ⟨(Nat.le_of_ble_eq_true rfl), (Nat.le_of_ble_eq_true rfl)⟩ (fun H hH => z_recv hK.1 (hX _ H hH) (by decide) xe_11 rfl) rfl rfl (Nat.le_of_ble_eq_true rfl) dX11_freezeDrawn_10) (fun r4 x3 h => ?_)
  refine z_istore_n (lv' := [(2, .int r4), (1, .int r2), (0, .ref (ad 0))]) O dX11_freezeDrawn_13 (by decide) rfl ?_
  refine z_aload_n O dX11_freezeDrawn_14 2 rfl ?_
  refine z_bipush (v := 10) O dX11_freezeDrawn_15 rfl ?_
  refine z_cWR (gKs D cs) hK (fun _ h => h) (fun _ h => Or.inl h) (fun _ h => Or.inr h) (t_X11_drawBelow hI x3  10 _ h) (zr_V (As := [.int 10]) (rest := []) O hE.1 1 gX11_freezeDrawn_X11_drawBelow rfl rfl rfl (by decide +kernel) ⟨(Nat.le_of_ble_eq_true rfl), (Nat.le_of_ble_eq_true rfl)⟩ ⟨(Nat.le_of_ble_eq_true rfl), (Nat.le_of_ble_eq_true rfl)⟩ (fun H hH => z_recv hK.1 (hX _ H hH) (by decide) xe_11 rfl) rfl rfl (Nat.le_of_ble_eq_true rfl) dX11_freezeDrawn_17) (fun r6 x5 h => ?_)
  refine z_istore_n (lv' := [(3, .int r6), (2, .int r4), (1, .int r2), (0, .ref (ad 0))]) O dX11_freezeDrawn_20 (by decide) rfl ?_
  refine z_aload_n O dX11_freezeDrawn_21 3 rfl ?_
  refine z_bipush (v := 9) O dX11_freezeDrawn_22 rfl ?_
  refine z_cWR (gKs D cs) hK (fun _ h => h) (fun _ h => Or.inl h) (fun _ h => Or.inr h) (t_X11_drawBelow hI x5  9 _ h) (zr_V (As := [.int 9]) (rest := []) O hE.1 1 gX11_freezeDrawn_X11_drawBelow rfl rfl rfl (by decide +kernel) ⟨(Nat.le_of_ble_eq_true rfl), (Nat.le_of_ble_eq_true rfl)⟩ ⟨(Nat.le_of_ble_eq_true rfl), (Nat.le_of_ble_eq_true rfl)⟩ (fun H hH => z_recv hK.1 (hX _ H hH) (by decide) xe_11 rfl) rfl rfl (Nat.le_of_ble_eq_true rfl) dX11_freezeDrawn_24) (fun r8 x7 h => ?_)
  refine z_iconst (v := 1) O dX11_freezeDrawn_27 rfl ?_
  refine z_iadd O dX11_freezeDrawn_28 ?_
  refine z_istore (lv' := [(4, .int (r8 + 1)), (3, .int r6), (2, .int r4), (1, .int r2), (0, .ref (ad 0))]) O dX11_freezeDrawn_29 (by decide) rfl ?_
  refine z_aload_n O dX11_freezeDrawn_31 4 rfl ?_
  refine z_getf O hK.1 (hX _) (by decide) xe_11 rfl i11 3 (by decide) (by decide +kernel) rfl dX11_freezeDrawn_32 ?_
  refine z_iload_n O dX11_freezeDrawn_35 3 rfl ?_
  refine z_iload_n O dX11_freezeDrawn_36 2 rfl ?_
  refine z_iload_n O dX11_freezeDrawn_37 1 rfl ?_
  refine z_iload O dX11_freezeDrawn_38 0 rfl ?_
  refine z_cWR (gKs D cs) hK (fun _ h => h) (fun _ h => Or.inl h) (fun _ h => Or.inr h) (t_X6_freezeIn hI x7 117 xk_117 r2 r4 r6 (r8 + 1) _ h) (zr_V (As := [.int r2, .int r4, .int r6, .int (r8 + 1)]) (rest := []) O hE.1 4 gX11_freezeDrawn_X6_freezeIn rfl rfl rfl (by decide +kernel) ⟨(Nat.le_of_ble_eq_true rfl), (Nat.le_of_ble_eq_true rfl)⟩ ⟨(Nat.le_of_ble_eq_true rfl), (Nat.le_of_ble_eq_true rfl)⟩ (fun H hH => z_recv hK.1 (hX _ H hH) (xk_117).1 (xe_6 xk_117) rfl) rfl rfl (Nat.le_of_ble_eq_true rfl) dX11_freezeDrawn_40) (fun r10 x9 h => ?_)
  refine z_pop O dX11_freezeDrawn_43 rfl ?_
  exact z_retWV O hE (Nat.le_of_ble_eq_true rfl) (Nat.le_of_ble_eq_true rfl) dX11_freezeDrawn_44 h
def wp_X11_happen (x : XS)  (p1 : Int32) (Q : XS → Prop) : Prop :=
 ((¬ p1 = 2 →
 ((¬ p1 = 3 →
 wp_X11_freezeDrawn x  (fun (x1 : XS) =>
 Q x1)) ∧ (p1 = 3 →
 wp_X6_nextWinter x 117 (fun (r3 : Int32) (x2 : XS) =>
 Q x2)))) ∧ (p1 = 2 →
 wp_X6_thawFor x 117 1 (fun (r6 : Int32) (x5 : XS) =>
 Q x5)))
set_option maxHeartbeats 4000000 in
set_option maxRecDepth 100000 in
theorem t_X11_happen {l : Launch} {D : va_G} {cs : Nat → ClassId} {ad : Nat → Nat} (hI : wInj 161 ad) (x : XS)  (p1 : Int32) (Q : XS → Prop) (h : wp_X11_happen x  p1 Q) : zWV l yX11_happen wsX11_happen ({ frames := 6, cells := 0, slots := 0, locals := 141 } : Room) (gK D cs) (XH D cs ad) (wB 161 ad) x [.ref (ad 0), .int p1] 0 0 Q := by
  refine zWV_of (cc := cX11_happen) (nL := 2) (ret := none) (by decide +kernel) rfl (Nat.le_of_ble_eq_true rfl) (fun C hl O hE hK => ?_)
  subst hl
  have hX : ∀ (x : XS) (H : Heap), XH D cs ad x H → va_P D vwCl (wl 161 ad (XE cs ad x)) H := fun _ _ h => h
  have hB : ∀ {x : XS} (H : Heap), va_P D vwCl (wl 161 ad (XE cs ad x)) H → XH D cs ad x H := fun _ h => h
  have hA : ∀ q, wB 161 ad q → zA (wB 161 ad) C.s.heap.size q := fun _ h => Or.inl h
  have i11 : ∀ w ∈ wsX110, w ∈ wsX11_happen := by decide +kernel
  refine z_sub (lv' := [(0, .ref (ad 0)), (1, .int p1)]) [0, 1] rfl ?_
  refine z_iload_n O dX11_happen_0 1 rfl ?_
  refine z_iconst (v := 2) O dX11_happen_1 rfl ?_
  refine z_icmp_ne O 17 dX11_happen_2 (by decide) (fun c7 => ?_) (fun c7 => ?_)
  · replace h := h.1 c7
    refine z_iload_n O dX11_happen_17 1 rfl ?_
    refine z_iconst (v := 3) O dX11_happen_18 rfl ?_
    refine z_icmp_ne O 33 dX11_happen_19 (by decide) (fun c4 => ?_) (fun c4 => ?_)
    · replace h := h.1 c4
      refine z_aload_n O dX11_happen_33 0 rfl ?_
      refine z_cWV (gKs D cs) hK (fun _ h => h) (fun _ h => Or.inl h) (fun _ h => Or.inr h) (t_X11_freezeDrawn hI x   _ h) (zr_V (As := []) (rest := []) O hE.1 0 gX11_happen_X11_freezeDrawn rfl rfl rfl (by decide +kernel) ⟨(Nat.le_of_ble_eq_true rfl), (Nat.le_of_ble_eq_true rfl)⟩ ⟨(Nat.le_of_ble_eq_true rfl), (Nat.le_of_ble_eq_true rfl)⟩ (fun H hH => z_recv hK.1 (hX _ H hH) (by decide) xe_11 rfl) rfl rfl (Nat.le_of_ble_eq_true rfl) dX11_happen_34) (fun x1 h => ?_)
      exact z_retWV O hE (Nat.le_of_ble_eq_true rfl) (Nat.le_of_ble_eq_true rfl) dX11_happen_37 h
    · replace h := h.2 c4
      refine z_aload_n O dX11_happen_22 0 rfl ?_
      refine z_getf O hK.1 (hX _) (by decide) xe_11 rfl i11 3 (by decide) (by decide +kernel) rfl dX11_happen_23 ?_
      refine z_cWR (gKs D cs) hK (fun _ h => h) (fun _ h => Or.inl h) (fun _ h => Or.inr h) (t_X6_nextWinter hI x 117 xk_117  _ h) (zr_V (As := []) (rest := []) O hE.1 0 gX11_happen_X6_nextWinter rfl rfl rfl (by decide +kernel) ⟨(Nat.le_of_ble_eq_true rfl), (Nat.le_of_ble_eq_true rfl)⟩ ⟨(Nat.le_of_ble_eq_true rfl), (Nat.le_of_ble_eq_true rfl)⟩ (fun H hH => z_recv hK.1 (hX _ H hH) (xk_117).1 (xe_6 xk_117) rfl) rfl rfl (Nat.le_of_ble_eq_true rfl) dX11_happen_26) (fun r3 x2 h => ?_)
      refine z_pop O dX11_happen_29 rfl ?_
      refine z_goto O 37 dX11_happen_30 (by decide) ?_
      exact z_retWV O hE (Nat.le_of_ble_eq_true rfl) (Nat.le_of_ble_eq_true rfl) dX11_happen_37 h
  · replace h := h.2 c7
    refine z_aload_n O dX11_happen_5 0 rfl ?_
    refine z_getf O hK.1 (hX _) (by decide) xe_11 rfl i11 3 (by decide) (by decide +kernel) rfl dX11_happen_6 ?_
    refine z_iconst (v := 1) O dX11_happen_9 rfl ?_
    refine z_cWR (gKs D cs) hK (fun _ h => h) (fun _ h => Or.inl h) (fun _ h => Or.inr h) (t_X6_thawFor hI x 117 xk_117 1 _ h) (zr_V (As := [.int 1]) (rest := []) O hE.1 1 gX11_happen_X6_thawFor rfl rfl rfl (by decide +kernel) ⟨(Nat.le_of_ble_eq_true rfl), (Nat.le_of_ble_eq_true rfl)⟩ ⟨(Nat.le_of_ble_eq_true rfl), (Nat.le_of_ble_eq_true rfl)⟩ (fun H hH => z_recv hK.1 (hX _ H hH) (xk_117).1 (xe_6 xk_117) rfl) rfl rfl (Nat.le_of_ble_eq_true rfl) dX11_happen_10) (fun r6 x5 h => ?_)
    refine z_pop O dX11_happen_13 rfl ?_
    refine z_goto O 37 dX11_happen_14 (by decide) ?_
    exact z_retWV O hE (Nat.le_of_ble_eq_true rfl) (Nat.le_of_ble_eq_true rfl) dX11_happen_37 h
def wp_X11_seeded (x : XS)  (p1 : Int32) (p2 : Int32) (Q : Int32 → XS → Prop) : Prop :=
 wp_X11_within p1 1 40 (fun r1 : Int32 =>
 ((¬ r1 = 0 →
 wp_X6_takeAll x 117 29 (fun (x2 : XS) =>
 (∀ x3 : XS, x3 = xI x2 0 8 p2 →
 (∃ (I30 : Int32 → XS → Prop) (U30 : Int32 → XS → Nat), I30 0 x3 ∧ ∀ (y4 : Int32) (x5 : XS), I30 y4 x5 →
 ((p1 ≤ y4 →
 wp_X6_allIce x5 117 (fun r6 : Int32 =>
 Q r6 x5)) ∧ (¬ p1 ≤ y4 →
 wp_X11_drawBelow x5 4 (fun (r8 : Int32) (x7 : XS) =>
 wp_X11_happen x7 r8 (fun (x9 : XS) =>
 (I30 (y4 + 1) x9 ∧ U30 (y4 + 1) x9 < U30 y4 x5))))))))) ∧ (r1 = 0 →
 Q (-1) x)))
set_option maxHeartbeats 4000000 in
set_option maxRecDepth 100000 in
theorem t_X11_seeded {l : Launch} {D : va_G} {cs : Nat → ClassId} {ad : Nat → Nat} (hI : wInj 161 ad) (x : XS)  (p1 : Int32) (p2 : Int32) (Q : Int32 → XS → Prop) (h : wp_X11_seeded x  p1 p2 Q) : zWR l yX11_seeded wsX11_seeded ({ frames := 7, cells := 0, slots := 0, locals := 162 } : Room) (gK D cs) (XH D cs ad) (wB 161 ad) x [.ref (ad 0), .int p1, .int p2] 0 0 Q := by
  refine zWR_of (cc := cX11_seeded) (nL := 4) (ret := (some .int)) (by decide +kernel) rfl (Nat.le_of_ble_eq_true rfl) (fun C hl O hE hK => ?_)
  subst hl
  have hX : ∀ (x : XS) (H : Heap), XH D cs ad x H → va_P D vwCl (wl 161 ad (XE cs ad x)) H := fun _ _ h => h
  have hB : ∀ {x : XS} (H : Heap), va_P D vwCl (wl 161 ad (XE cs ad x)) H → XH D cs ad x H := fun _ h => h
  have hA : ∀ q, wB 161 ad q → zA (wB 161 ad) C.s.heap.size q := fun _ h => Or.inl h
  have i11 : ∀ w ∈ wsX110, w ∈ wsX11_seeded := by decide +kernel
  refine z_sub (lv' := [(0, .ref (ad 0)), (1, .int p1), (2, .int p2)]) [0, 1, 2] rfl ?_
  refine z_iload_n O dX11_seeded_0 1 rfl ?_
  refine z_iconst (v := 1) O dX11_seeded_1 rfl ?_
  refine z_bipush (v := 40) O dX11_seeded_2 rfl ?_
  refine z_callR (gKs D cs) hK (fun _ h => h) (t_X11_within (gKs D cs) p1 1 40 _ h) (zr_SS (As := [.int p1, .int 1, .int 40]) (rest := []) O hE.1 3 gX11_seeded_X11_within rfl rfl rfl (by decide +kernel) ⟨(Nat.le_of_ble_eq_true rfl), (Nat.le_of_ble_eq_true rfl)⟩ ⟨(Nat.le_of_ble_eq_true rfl), (Nat.le_of_ble_eq_true rfl)⟩ rfl rfl (Nat.le_of_ble_eq_true rfl) dX11_seeded_4) (fun r1 h => ?_)
  refine z_if_ne O 12 dX11_seeded_7 (by decide) (fun c11 => ?_) (fun c11 => ?_)
  · replace h := h.1 c11
    refine z_aload_n O dX11_seeded_12 0 rfl ?_
    refine z_getf O hK.1 (hX _) (by decide) xe_11 rfl i11 3 (by decide) (by decide +kernel) rfl dX11_seeded_13 ?_
    refine z_aload_n O dX11_seeded_16 0 rfl ?_
    refine z_getf O hK.1 (hX _) (by decide) xe_11 rfl i11 1 (by decide) (by decide +kernel) rfl dX11_seeded_17 ?_
    refine z_cWV (gKs D cs) hK (fun _ h => h) (fun _ h => Or.inl h) (fun _ h => Or.inr h) (t_X6_takeAll hI x 117 xk_117 29 xk_29  _ h) (zr_V (As := [.ref (ad 29)]) (rest := []) O hE.1 1 gX11_seeded_X6_takeAll rfl rfl rfl (by decide +kernel) ⟨(Nat.le_of_ble_eq_true rfl), (Nat.le_of_ble_eq_true rfl)⟩ ⟨(Nat.le_of_ble_eq_true rfl), (Nat.le_of_ble_eq_true rfl)⟩ (fun H hH => z_recv hK.1 (hX _ H hH) (xk_117).1 (xe_6 xk_117) rfl) rfl rfl (Nat.le_of_ble_eq_true rfl) dX11_seeded_20) (fun x2 h => ?_)
    refine z_aload_n O dX11_seeded_23 0 rfl ?_
    refine z_iload_n O dX11_seeded_24 2 rfl ?_
    obtain ⟨x3, ex3⟩ : ∃ z, z = xI x2 0 8 p2 := ⟨_, rfl⟩
    replace h := h x3 ex3
    refine z_putf (x' := x3) (ty := .int) O hK.1 (hX _) hB hI hA (by decide) xe_11 rfl i11 tyX11 tyX11_ok nmX11 8 (by decide) (by decide +kernel) rfl (by decide +kernel) rfl rfl (Nat.le_of_ble_eq_true rfl) (by rw [ex3]; exact xe_put11_8 p2) dX11_seeded_25 ?_
    refine z_iconst (v := 0) O dX11_seeded_28 rfl ?_
    refine z_istore_n (lv' := [(3, .int 0), (0, .ref (ad 0)), (1, .int p1), (2, .int p2)]) O dX11_seeded_29 (by decide) rfl ?_
    obtain ⟨I30, U30, h0, hs⟩ := h
    have kI30 : ∀ (n : Nat) (y4 : Int32) (x5 : XS), U30 y4 x5 < n → I30 y4 x5 → Z C (zA (wB 161 ad) C.s.heap.size) (XH D cs ad) 4 x5 [(0, .ref (ad 0)), (1, .int p1), (3, .int y4)] 0 0 30 [] := by
      intro n
      induction n with
      | zero => intro y4 x5 uI30; exact absurd uI30 (Nat.not_lt_zero _)
      | succ n iI30 =>
        intro y4 x5 uI30 h
        have h := hs y4 x5 h
        refine z_iload_n O dX11_seeded_30 2 rfl ?_
        refine z_iload_n O dX11_seeded_31 1 rfl ?_
        refine z_icmp_ge O 50 dX11_seeded_32 (by decide) (fun c10 => ?_) (fun c10 => ?_)
        · replace h := h.1 c10
          refine z_aload_n O dX11_seeded_50 0 rfl ?_
          refine z_getf O hK.1 (hX _) (by decide) xe_11 rfl i11 3 (by decide) (by decide +kernel) rfl dX11_seeded_51 ?_
          refine z_callR (gKs D cs) hK (fun _ h => h) (t_X6_allIce x5 117 xk_117  _ h) (zr_V (As := []) (rest := []) O hE.1 0 gX11_seeded_X6_allIce rfl rfl rfl (by decide +kernel) ⟨(Nat.le_of_ble_eq_true rfl), (Nat.le_of_ble_eq_true rfl)⟩ ⟨(Nat.le_of_ble_eq_true rfl), (Nat.le_of_ble_eq_true rfl)⟩ (fun H hH => z_recv hK.1 (hX _ H hH) (xk_117).1 (xe_6 xk_117) rfl) rfl rfl (Nat.le_of_ble_eq_true rfl) dX11_seeded_54) (fun r6 h => ?_)
          exact z_retWR O hE (Nat.le_of_ble_eq_true rfl) (Nat.le_of_ble_eq_true rfl) rfl dX11_seeded_57 h
        · replace h := h.2 c10
          refine z_aload_n O dX11_seeded_35 0 rfl ?_
          refine z_aload_n O dX11_seeded_36 0 rfl ?_
          refine z_iconst (v := 4) O dX11_seeded_37 rfl ?_
          refine z_cWR (gKs D cs) hK (fun _ h => h) (fun _ h => Or.inl h) (fun _ h => Or.inr h) (t_X11_drawBelow hI x5  4 _ h) (zr_V (As := [.int 4]) (rest := [.ref (ad 0)]) O hE.1 1 gX11_seeded_X11_drawBelow rfl rfl rfl (by decide +kernel) ⟨(Nat.le_of_ble_eq_true rfl), (Nat.le_of_ble_eq_true rfl)⟩ ⟨(Nat.le_of_ble_eq_true rfl), (Nat.le_of_ble_eq_true rfl)⟩ (fun H hH => z_recv hK.1 (hX _ H hH) (by decide) xe_11 rfl) rfl rfl (Nat.le_of_ble_eq_true rfl) dX11_seeded_38) (fun r8 x7 h => ?_)
          refine z_cWV (gKs D cs) hK (fun _ h => h) (fun _ h => Or.inl h) (fun _ h => Or.inr h) (t_X11_happen hI x7  r8 _ h) (zr_V (As := [.int r8]) (rest := []) O hE.1 1 gX11_seeded_X11_happen rfl rfl rfl (by decide +kernel) ⟨(Nat.le_of_ble_eq_true rfl), (Nat.le_of_ble_eq_true rfl)⟩ ⟨(Nat.le_of_ble_eq_true rfl), (Nat.le_of_ble_eq_true rfl)⟩ (fun H hH => z_recv hK.1 (hX _ H hH) (by decide) xe_11 rfl) rfl rfl (Nat.le_of_ble_eq_true rfl) dX11_seeded_41) (fun x9 h => ?_)
          refine z_iinc (lv' := [(3, .int (y4 + 1)), (0, .ref (ad 0)), (1, .int p1)]) O dX11_seeded_44 2 rfl rfl (by decide) rfl ?_
          refine z_goto O 30 dX11_seeded_47 (by decide) ?_
          exact z_sub [1, 2, 0] rfl (iI30 (y4 + 1) x9 (Nat.lt_of_lt_of_le h.2 (Nat.le_of_lt_succ uI30)) h.1)
    exact z_sub [1, 2, 0] rfl (kI30 _ 0 x3 (Nat.lt_succ_self _) h0)
  · replace h := h.2 c11
    refine z_iconst (v := -1) O dX11_seeded_10 rfl ?_
    exact z_retWR O hE (Nat.le_of_ble_eq_true rfl) (Nat.le_of_ble_eq_true rfl) rfl dX11_seeded_11 h
def wp_X11_firstWrong (x : XS) (q1 : Nat)  (Q : Int32 → Prop) : Prop :=
 (∃ (I2 : Int32 → Prop) (U2 : Int32 → Nat), I2 0 ∧ ∀ (y1 : Int32), I2 y1 →
 ((6 ≤ y1 →
 ((¬ (x.1 q1 5) = 6 →
 Q ((if 6 < (x.1 q1 5) then 6 else (x.1 q1 5)))) ∧ ((x.1 q1 5) = 6 →
 Q (-4)))) ∧ (¬ 6 ≤ y1 →
 (((x.1 q1 5) ≤ y1 →
 ((¬ (x.1 q1 5) = 6 →
 Q ((if 6 < (x.1 q1 5) then 6 else (x.1 q1 5)))) ∧ ((x.1 q1 5) = 6 →
 Q (-4)))) ∧ (¬ (x.1 q1 5) ≤ y1 →
 wp_X9_valueAt x q1 y1 (fun r4 : Int32 =>
 wp_X6_cellAt x 29 y1 (fun r : Option Nat => match r with
 | none => wp_X9_leastNumber x q1 (fun r6 : Int32 =>
 ((r4 = r6 →
 (I2 (y1 + 1) ∧ U2 (y1 + 1) < U2 y1)) ∧ (¬ r4 = r6 →
 (I2 (y1 + 1) ∧ U2 (y1 + 1) < U2 y1))))
 | some o5 => xk o5 2 ∧
 wp_X9_leastNumber x q1 (fun r8 : Int32 =>
 ((r4 = r8 →
 (I2 (y1 + 1) ∧ U2 (y1 + 1) < U2 y1)) ∧ (¬ r4 = r8 →
 wp_X2_ice x o5 (fun r9 : Int32 =>
 ((r4 = r9 →
 (I2 (y1 + 1) ∧ U2 (y1 + 1) < U2 y1)) ∧ (¬ r4 = r9 →
 Q y1)))))))))))))
set_option maxHeartbeats 4000000 in
set_option maxRecDepth 100000 in
theorem t_X11_firstWrong {l : Launch} {D : va_G} {cs : Nat → ClassId} {ad : Nat → Nat} (x : XS) (q1 : Nat) (hq1 : xk q1 9)  (Q : Int32 → Prop) (h : wp_X11_firstWrong x q1  Q) : zMR l yX11_firstWrong wsX11_firstWrong ({ frames := 4, cells := 0, slots := 0, locals := 85 } : Room) (gK D cs) (XH D cs ad) x [.ref (ad 0), .ref (ad q1)] Q := by
  refine zMR_of (cc := cX11_firstWrong) (nL := 5) (ret := (some .int)) (by decide +kernel) rfl (Nat.le_of_ble_eq_true rfl) (fun C hl O hE hK hH => ?_)
  subst hl
  have hX : ∀ (x : XS) (H : Heap), z0 (XH D cs ad) C.s.heap x H → va_P D vwCl (wl 161 ad (XE cs ad x)) H := fun _ _ h => h.2
  have i11 : ∀ w ∈ wsX110, w ∈ wsX11_firstWrong := by decide +kernel
  have i9 : ∀ w ∈ wsX90, w ∈ wsX11_firstWrong := by decide +kernel
  refine z_sub (lv' := [(0, .ref (ad 0)), (1, .ref (ad q1))]) [0, 1] rfl ?_
  refine z_iconst (v := 0) O dX11_firstWrong_0 rfl ?_
  refine z_istore_n (lv' := [(2, .int 0), (0, .ref (ad 0)), (1, .ref (ad q1))]) O dX11_firstWrong_1 (by decide) rfl ?_
  obtain ⟨I2, U2, h0, hs⟩ := h
  have kI2 : ∀ (n : Nat) (y1 : Int32), U2 y1 < n → I2 y1 → Z C (fun _ => False) (z0 (XH D cs ad) C.s.heap) 5 x [(0, .ref (ad 0)), (1, .ref (ad q1)), (2, .int y1)] 0 0 2 [] := by
    intro n
    induction n with
    | zero => intro y1 uI2; exact absurd uI2 (Nat.not_lt_zero _)
    | succ n iI2 =>
      intro y1 uI2 h
      have h := hs y1 h
      refine z_iload_n O dX11_firstWrong_2 2 rfl ?_
      refine z_bipush (v := 6) O dX11_firstWrong_3 rfl ?_
      refine z_icmp_ge O 62 dX11_firstWrong_5 (by decide) (fun c13 => ?_) (fun c13 => ?_)
      · replace h := h.1 c13
        refine z_aload_n O dX11_firstWrong_62 1 rfl ?_
        refine z_getfN O hK.1 (hX _) (hq1).1 (xe_9 hq1) rfl i9 5 (by decide) (hK.2.1 _ (List.mem_of_getElem? (i := 8) rfl)) rfl dX11_firstWrong_63 ?_
        refine z_bipush (v := 6) O dX11_firstWrong_66 rfl ?_
        refine z_icmp_ne O 76 dX11_firstWrong_68 (by decide) (fun c2 => ?_) (fun c2 => ?_)
        · replace h := h.1 c2
          refine z_aload_n O dX11_firstWrong_76 1 rfl ?_
          refine z_getfN O hK.1 (hX _) (hq1).1 (xe_9 hq1) rfl i9 5 (by decide) (hK.2.1 _ (List.mem_of_getElem? (i := 8) rfl)) rfl dX11_firstWrong_77 ?_
          refine z_bipush (v := 6) O dX11_firstWrong_80 rfl ?_
          refine z_min O hE.1 (by decide +kernel) (by decide +kernel) (by decide +kernel) (by decide +kernel) ⟨(Nat.le_of_ble_eq_true rfl), (Nat.le_of_ble_eq_true rfl), Nat.zero_le _, Nat.zero_le _⟩ dX11_firstWrong_82 ?_
          exact z_retR O hE (fun _ h => h.1) rfl dX11_firstWrong_85 h
        · replace h := h.2 c2
          refine z_bipush (v := -4) O dX11_firstWrong_71 rfl ?_
          refine z_goto O 85 dX11_firstWrong_73 (by decide) ?_
          exact z_retR O hE (fun _ h => h.1) rfl dX11_firstWrong_85 h
      · replace h := h.2 c13
        refine z_iload_n O dX11_firstWrong_8 2 rfl ?_
        refine z_aload_n O dX11_firstWrong_9 1 rfl ?_
        refine z_getfN O hK.1 (hX _) (hq1).1 (xe_9 hq1) rfl i9 5 (by decide) (hK.2.1 _ (List.mem_of_getElem? (i := 8) rfl)) rfl dX11_firstWrong_10 ?_
        refine z_icmp_ge O 62 dX11_firstWrong_13 (by decide) (fun c12 => ?_) (fun c12 => ?_)
        · replace h := h.1 c12
          refine z_aload_n O dX11_firstWrong_62 1 rfl ?_
          refine z_getfN O hK.1 (hX _) (hq1).1 (xe_9 hq1) rfl i9 5 (by decide) (hK.2.1 _ (List.mem_of_getElem? (i := 8) rfl)) rfl dX11_firstWrong_63 ?_
          refine z_bipush (v := 6) O dX11_firstWrong_66 rfl ?_
          refine z_icmp_ne O 76 dX11_firstWrong_68 (by decide) (fun c3 => ?_) (fun c3 => ?_)
          · replace h := h.1 c3
            refine z_aload_n O dX11_firstWrong_76 1 rfl ?_
            refine z_getfN O hK.1 (hX _) (hq1).1 (xe_9 hq1) rfl i9 5 (by decide) (hK.2.1 _ (List.mem_of_getElem? (i := 8) rfl)) rfl dX11_firstWrong_77 ?_
            refine z_bipush (v := 6) O dX11_firstWrong_80 rfl ?_
            refine z_min O hE.1 (by decide +kernel) (by decide +kernel) (by decide +kernel) (by decide +kernel) ⟨(Nat.le_of_ble_eq_true rfl), (Nat.le_of_ble_eq_true rfl), Nat.zero_le _, Nat.zero_le _⟩ dX11_firstWrong_82 ?_
            exact z_retR O hE (fun _ h => h.1) rfl dX11_firstWrong_85 h
          · replace h := h.2 c3
            refine z_bipush (v := -4) O dX11_firstWrong_71 rfl ?_
            refine z_goto O 85 dX11_firstWrong_73 (by decide) ?_
            exact z_retR O hE (fun _ h => h.1) rfl dX11_firstWrong_85 h
        · replace h := h.2 c12
          refine z_aload_n O dX11_firstWrong_16 1 rfl ?_
          refine z_iload_n O dX11_firstWrong_17 2 rfl ?_
          refine z_callR (gKs D cs) hK (fun _ h => h.2) (t_X9_valueAt x q1 hq1 y1 _ h) (zr_V (As := [.int y1]) (rest := []) O hE.1 1 gX11_firstWrong_X9_valueAt rfl rfl rfl (by decide +kernel) ⟨(Nat.le_of_ble_eq_true rfl), (Nat.le_of_ble_eq_true rfl)⟩ ⟨(Nat.le_of_ble_eq_true rfl), (Nat.le_of_ble_eq_true rfl)⟩ (fun H hH => z_recv hK.1 (hX _ H hH) (hq1).1 (xe_9 hq1) rfl) rfl rfl (Nat.le_of_ble_eq_true rfl) dX11_firstWrong_18) (fun r4 h => ?_)
          refine z_istore_n (lv' := [(3, .int r4), (0, .ref (ad 0)), (1, .ref (ad q1)), (2, .int y1)]) O dX11_firstWrong_21 (by decide) rfl ?_
          refine z_aload_n O dX11_firstWrong_22 1 rfl ?_
          refine z_getf O hK.1 (hX _) (by decide) xe_11 rfl i11 1 (by decide) (by decide +kernel) rfl dX11_firstWrong_23 ?_
          refine z_iload_n O dX11_firstWrong_26 3 rfl ?_
          refine z_callE (gKs D cs) hK (fun _ h => h.2) (t_X6_cellAt x 29 xk_29 y1 _ h) (zr_V (As := [.int y1]) (rest := []) O hE.1 1 gX11_firstWrong_X6_cellAt rfl rfl rfl (by decide +kernel) ⟨(Nat.le_of_ble_eq_true rfl), (Nat.le_of_ble_eq_true rfl)⟩ ⟨(Nat.le_of_ble_eq_true rfl), (Nat.le_of_ble_eq_true rfl)⟩ (fun H hH => z_recv hK.1 (hX _ H hH) (xk_29).1 (xe_6 xk_29) rfl) rfl rfl (Nat.le_of_ble_eq_true rfl) dX11_firstWrong_27) (fun h => ?_) (fun o5 h => ?_)
          · skip
            refine z_astoreN (lv' := [(4, .null), (3, .int r4), (0, .ref (ad 0)), (1, .ref (ad q1)), (2, .int y1)]) O dX11_firstWrong_30 (by decide) rfl ?_
            refine z_iload_n O dX11_firstWrong_32 1 rfl ?_
            refine z_aload_n O dX11_firstWrong_33 3 rfl ?_
            refine z_callR (gKs D cs) hK (fun _ h => h.2) (t_X9_leastNumber x q1 hq1  _ h) (zr_V (As := []) (rest := [.int r4]) O hE.1 0 gX11_firstWrong_X9_leastNumber rfl rfl rfl (by decide +kernel) ⟨(Nat.le_of_ble_eq_true rfl), (Nat.le_of_ble_eq_true rfl)⟩ ⟨(Nat.le_of_ble_eq_true rfl), (Nat.le_of_ble_eq_true rfl)⟩ (fun H hH => z_recv hK.1 (hX _ H hH) (hq1).1 (xe_9 hq1) rfl) rfl rfl (Nat.le_of_ble_eq_true rfl) dX11_firstWrong_34) (fun r6 h => ?_)
            refine z_icmp_eq O 56 dX11_firstWrong_37 (by decide) (fun c7 => ?_) (fun c7 => ?_)
            · replace h := h.1 c7
              refine z_iinc (lv' := [(2, .int (y1 + 1)), (4, .null), (3, .int r4), (0, .ref (ad 0)), (1, .ref (ad q1))]) O dX11_firstWrong_56 4 rfl rfl (by decide) rfl ?_
              refine z_goto O 2 dX11_firstWrong_59 (by decide) ?_
              exact z_sub [3, 4, 0] rfl (iI2 (y1 + 1) (Nat.lt_of_lt_of_le h.2 (Nat.le_of_lt_succ uI2)) h.1)
            · replace h := h.2 c7
              refine z_aloadN O dX11_firstWrong_40 0 rfl ?_
              refine z_ifnullN O 56 dX11_firstWrong_42 (by decide) ?_
              refine z_iinc (lv' := [(2, .int (y1 + 1)), (4, .null), (3, .int r4), (0, .ref (ad 0)), (1, .ref (ad q1))]) O dX11_firstWrong_56 4 rfl rfl (by decide) rfl ?_
              refine z_goto O 2 dX11_firstWrong_59 (by decide) ?_
              exact z_sub [3, 4, 0] rfl (iI2 (y1 + 1) (Nat.lt_of_lt_of_le h.2 (Nat.le_of_lt_succ uI2)) h.1)
          · have ho5 := h.1
            replace h := h.2
            refine z_astore (lv' := [(4, .ref (ad o5)), (3, .int r4), (0, .ref (ad 0)), (1, .ref (ad q1)), (2, .int y1)]) O dX11_firstWrong_30 (by decide) rfl ?_
            refine z_iload_n O dX11_firstWrong_32 1 rfl ?_
            refine z_aload_n O dX11_firstWrong_33 3 rfl ?_
            refine z_callR (gKs D cs) hK (fun _ h => h.2) (t_X9_leastNumber x q1 hq1  _ h) (zr_V (As := []) (rest := [.int r4]) O hE.1 0 gX11_firstWrong_X9_leastNumber rfl rfl rfl (by decide +kernel) ⟨(Nat.le_of_ble_eq_true rfl), (Nat.le_of_ble_eq_true rfl)⟩ ⟨(Nat.le_of_ble_eq_true rfl), (Nat.le_of_ble_eq_true rfl)⟩ (fun H hH => z_recv hK.1 (hX _ H hH) (hq1).1 (xe_9 hq1) rfl) rfl rfl (Nat.le_of_ble_eq_true rfl) dX11_firstWrong_34) (fun r8 h => ?_)
            refine z_icmp_eq O 56 dX11_firstWrong_37 (by decide) (fun c11 => ?_) (fun c11 => ?_)
            · replace h := h.1 c11
              refine z_iinc (lv' := [(2, .int (y1 + 1)), (4, .ref (ad o5)), (3, .int r4), (0, .ref (ad 0)), (1, .ref (ad q1))]) O dX11_firstWrong_56 4 rfl rfl (by decide) rfl ?_
              refine z_goto O 2 dX11_firstWrong_59 (by decide) ?_
              exact z_sub [3, 4, 0] rfl (iI2 (y1 + 1) (Nat.lt_of_lt_of_le h.2 (Nat.le_of_lt_succ uI2)) h.1)
            · replace h := h.2 c11
              refine z_aload O dX11_firstWrong_40 0 rfl ?_
              refine z_ifnull O dX11_firstWrong_42 ?_
              refine z_iload_n O dX11_firstWrong_45 1 rfl ?_
              refine z_aload O dX11_firstWrong_46 0 rfl ?_
              refine z_callR (gKs D cs) hK (fun _ h => h.2) (t_X2_ice x o5 ho5  _ h) (zr_V (As := []) (rest := [.int r4]) O hE.1 0 gX11_firstWrong_X2_ice rfl rfl rfl (by decide +kernel) ⟨(Nat.le_of_ble_eq_true rfl), (Nat.le_of_ble_eq_true rfl)⟩ ⟨(Nat.le_of_ble_eq_true rfl), (Nat.le_of_ble_eq_true rfl)⟩ (fun H hH => z_recv hK.1 (hX _ H hH) (ho5).1 (xe_2 ho5) rfl) rfl rfl (Nat.le_of_ble_eq_true rfl) dX11_firstWrong_48) (fun r9 h => ?_)
              refine z_icmp_eq O 56 dX11_firstWrong_51 (by decide) (fun c10 => ?_) (fun c10 => ?_)
              · replace h := h.1 c10
                refine z_iinc (lv' := [(2, .int (y1 + 1)), (4, .ref (ad o5)), (3, .int r4), (0, .ref (ad 0)), (1, .ref (ad q1))]) O dX11_firstWrong_56 4 rfl rfl (by decide) rfl ?_
                refine z_goto O 2 dX11_firstWrong_59 (by decide) ?_
                exact z_sub [3, 4, 0] rfl (iI2 (y1 + 1) (Nat.lt_of_lt_of_le h.2 (Nat.le_of_lt_succ uI2)) h.1)
              · replace h := h.2 c10
                refine z_iload_n O dX11_firstWrong_54 4 rfl ?_
                exact z_retR O hE (fun _ h => h.1) rfl dX11_firstWrong_55 h
  exact z_sub [1, 2, 0] rfl (kI2 _ 0 (Nat.lt_succ_self _) h0)
def wp_X11_judge (x : XS)  (p1 : Int32) (Q : Int32 → Prop) : Prop :=
 wp_X11_shelfAt x p1 (fun r : Option Nat => match r with
 | none => Q (-1)
 | some o1 => xk o1 9 ∧
 wp_X9_lacks x o1 2 (fun r2 : Int32 =>
 ((¬ r2 = 0 →
 Q r2) ∧ (r2 = 0 →
 wp_X11_firstWrong x o1 (fun r3 : Int32 =>
 Q r3)))))
set_option maxHeartbeats 4000000 in
set_option maxRecDepth 100000 in
theorem t_X11_judge {l : Launch} {D : va_G} {cs : Nat → ClassId} {ad : Nat → Nat} (x : XS)  (p1 : Int32) (Q : Int32 → Prop) (h : wp_X11_judge x  p1 Q) : zMR l yX11_judge wsX11_judge ({ frames := 5, cells := 0, slots := 0, locals := 109 } : Room) (gK D cs) (XH D cs ad) x [.ref (ad 0), .int p1] Q := by
  refine zMR_of (cc := cX11_judge) (nL := 4) (ret := (some .int)) (by decide +kernel) rfl (Nat.le_of_ble_eq_true rfl) (fun C hl O hE hK hH => ?_)
  subst hl
  have hX : ∀ (x : XS) (H : Heap), z0 (XH D cs ad) C.s.heap x H → va_P D vwCl (wl 161 ad (XE cs ad x)) H := fun _ _ h => h.2
  refine z_sub (lv' := [(0, .ref (ad 0)), (1, .int p1)]) [0, 1] rfl ?_
  refine z_aload_n O dX11_judge_0 0 rfl ?_
  refine z_iload_n O dX11_judge_1 1 rfl ?_
  refine z_callE (gKs D cs) hK (fun _ h => h.2) (t_X11_shelfAt x  p1 _ h) (zr_V (As := [.int p1]) (rest := []) O hE.1 1 gX11_judge_X11_shelfAt rfl rfl rfl (by decide +kernel) ⟨(Nat.le_of_ble_eq_true rfl), (Nat.le_of_ble_eq_true rfl)⟩ ⟨(Nat.le_of_ble_eq_true rfl), (Nat.le_of_ble_eq_true rfl)⟩ (fun H hH => z_recv hK.1 (hX _ H hH) (by decide) xe_11 rfl) rfl rfl (Nat.le_of_ble_eq_true rfl) dX11_judge_2) (fun h => ?_) (fun o1 h => ?_)
  · skip
    refine z_astore_nN (lv' := [(2, .null), (0, .ref (ad 0)), (1, .int p1)]) O dX11_judge_5 (by decide) rfl ?_
    refine z_aload_nN O dX11_judge_6 0 rfl ?_
    refine z_ifnonnullN O dX11_judge_7 ?_
    refine z_iconst (v := -1) O dX11_judge_10 rfl ?_
    exact z_retR O hE (fun _ h => h.1) rfl dX11_judge_11 h
  · have ho1 := h.1
    replace h := h.2
    refine z_astore_n (lv' := [(2, .ref (ad o1)), (0, .ref (ad 0)), (1, .int p1)]) O dX11_judge_5 (by decide) rfl ?_
    refine z_aload_n O dX11_judge_6 0 rfl ?_
    refine z_ifnonnull O 12 dX11_judge_7 (by decide) ?_
    refine z_aload_n O dX11_judge_12 0 rfl ?_
    refine z_iconst (v := 2) O dX11_judge_13 rfl ?_
    refine z_callR (gKs D cs) hK (fun _ h => h.2) (t_X9_lacks x o1 ho1 2 _ h) (zr_V (As := [.int 2]) (rest := []) O hE.1 1 gX11_judge_X9_lacks rfl rfl rfl (by decide +kernel) ⟨(Nat.le_of_ble_eq_true rfl), (Nat.le_of_ble_eq_true rfl)⟩ ⟨(Nat.le_of_ble_eq_true rfl), (Nat.le_of_ble_eq_true rfl)⟩ (fun H hH => z_recv hK.1 (hX _ H hH) (ho1).1 (xe_9 ho1) rfl) rfl rfl (Nat.le_of_ble_eq_true rfl) dX11_judge_14) (fun r2 h => ?_)
    refine z_istore_n (lv' := [(3, .int r2), (2, .ref (ad o1)), (0, .ref (ad 0)), (1, .int p1)]) O dX11_judge_17 (by decide) rfl ?_
    refine z_iload_n O dX11_judge_18 0 rfl ?_
    refine z_if_ne O 30 dX11_judge_19 (by decide) (fun c4 => ?_) (fun c4 => ?_)
    · replace h := h.1 c4
      refine z_iload_n O dX11_judge_30 0 rfl ?_
      exact z_retR O hE (fun _ h => h.1) rfl dX11_judge_31 h
    · replace h := h.2 c4
      refine z_aload_n O dX11_judge_22 2 rfl ?_
      refine z_aload_n O dX11_judge_23 1 rfl ?_
      refine z_callR (gKs D cs) hK (fun _ h => h.2) (t_X11_firstWrong x o1 ho1  _ h) (zr_V (As := [.ref (ad o1)]) (rest := []) O hE.1 1 gX11_judge_X11_firstWrong rfl rfl rfl (by decide +kernel) ⟨(Nat.le_of_ble_eq_true rfl), (Nat.le_of_ble_eq_true rfl)⟩ ⟨(Nat.le_of_ble_eq_true rfl), (Nat.le_of_ble_eq_true rfl)⟩ (fun H hH => z_recv hK.1 (hX _ H hH) (by decide) xe_11 rfl) rfl rfl (Nat.le_of_ble_eq_true rfl) dX11_judge_24) (fun r3 h => ?_)
      refine z_goto O 31 dX11_judge_27 (by decide) ?_
      exact z_retR O hE (fun _ h => h.1) rfl dX11_judge_31 h
def wp_X11_image (x : XS)   (Q : Int32 → XS → Prop) : Prop :=
 wp_X6_takeAll x 73 29 (fun (x1 : XS) =>
 (∀ x2 : XS, x2 = xI x1 0 7 1 →
 wp_X6_allIce x2 29 (fun r3 : Int32 =>
 Q r3 x2)))
set_option maxHeartbeats 4000000 in
set_option maxRecDepth 100000 in
theorem t_X11_image {l : Launch} {D : va_G} {cs : Nat → ClassId} {ad : Nat → Nat} (hI : wInj 161 ad) (x : XS)   (Q : Int32 → XS → Prop) (h : wp_X11_image x   Q) : zWR l yX11_image wsX11_image ({ frames := 5, cells := 0, slots := 0, locals := 110 } : Room) (gK D cs) (XH D cs ad) (wB 161 ad) x [.ref (ad 0)] 0 0 Q := by
  refine zWR_of (cc := cX11_image) (nL := 1) (ret := (some .int)) (by decide +kernel) rfl (Nat.le_of_ble_eq_true rfl) (fun C hl O hE hK => ?_)
  subst hl
  have hX : ∀ (x : XS) (H : Heap), XH D cs ad x H → va_P D vwCl (wl 161 ad (XE cs ad x)) H := fun _ _ h => h
  have hB : ∀ {x : XS} (H : Heap), va_P D vwCl (wl 161 ad (XE cs ad x)) H → XH D cs ad x H := fun _ h => h
  have hA : ∀ q, wB 161 ad q → zA (wB 161 ad) C.s.heap.size q := fun _ h => Or.inl h
  have i11 : ∀ w ∈ wsX110, w ∈ wsX11_image := by decide +kernel
  refine z_sub (lv' := [(0, .ref (ad 0))]) [0] rfl ?_
  refine z_aload_n O dX11_image_0 0 rfl ?_
  refine z_getf O hK.1 (hX _) (by decide) xe_11 rfl i11 2 (by decide) (by decide +kernel) rfl dX11_image_1 ?_
  refine z_aload_n O dX11_image_4 0 rfl ?_
  refine z_getf O hK.1 (hX _) (by decide) xe_11 rfl i11 1 (by decide) (by decide +kernel) rfl dX11_image_5 ?_
  refine z_cWV (gKs D cs) hK (fun _ h => h) (fun _ h => Or.inl h) (fun _ h => Or.inr h) (t_X6_takeAll hI x 73 xk_73 29 xk_29  _ h) (zr_V (As := [.ref (ad 29)]) (rest := []) O hE.1 1 gX11_image_X6_takeAll rfl rfl rfl (by decide +kernel) ⟨(Nat.le_of_ble_eq_true rfl), (Nat.le_of_ble_eq_true rfl)⟩ ⟨(Nat.le_of_ble_eq_true rfl), (Nat.le_of_ble_eq_true rfl)⟩ (fun H hH => z_recv hK.1 (hX _ H hH) (xk_73).1 (xe_6 xk_73) rfl) rfl rfl (Nat.le_of_ble_eq_true rfl) dX11_image_8) (fun x1 h => ?_)
  refine z_aload_n O dX11_image_11 0 rfl ?_
  refine z_iconst (v := 1) O dX11_image_12 rfl ?_
  obtain ⟨x2, ex2⟩ : ∃ z, z = xI x1 0 7 1 := ⟨_, rfl⟩
  replace h := h x2 ex2
  refine z_putf (x' := x2) (ty := .boolean) O hK.1 (hX _) hB hI hA (by decide) xe_11 rfl i11 tyX11 tyX11_ok nmX11 7 (by decide) (by decide +kernel) rfl (by decide +kernel) rfl rfl (Nat.le_of_ble_eq_true rfl) (by rw [ex2]; exact xe_put11_7 1) dX11_image_13 ?_
  refine z_aload_n O dX11_image_16 0 rfl ?_
  refine z_getf O hK.1 (hX _) (by decide) xe_11 rfl i11 1 (by decide) (by decide +kernel) rfl dX11_image_17 ?_
  refine z_callR (gKs D cs) hK (fun _ h => h) (t_X6_allIce x2 29 xk_29  _ h) (zr_V (As := []) (rest := []) O hE.1 0 gX11_image_X6_allIce rfl rfl rfl (by decide +kernel) ⟨(Nat.le_of_ble_eq_true rfl), (Nat.le_of_ble_eq_true rfl)⟩ ⟨(Nat.le_of_ble_eq_true rfl), (Nat.le_of_ble_eq_true rfl)⟩ (fun H hH => z_recv hK.1 (hX _ H hH) (xk_29).1 (xe_6 xk_29) rfl) rfl rfl (Nat.le_of_ble_eq_true rfl) dX11_image_20) (fun r3 h => ?_)
  exact z_retWR O hE (Nat.le_of_ble_eq_true rfl) (Nat.le_of_ble_eq_true rfl) rfl dX11_image_23 h
def wp_X11_restore (x : XS)   (Q : Int32 → XS → Prop) : Prop :=
 ((¬ (x.1 0 7) = 0 →
 wp_X6_takeAll x 29 73 (fun (x1 : XS) =>
 wp_X6_allIce x1 29 (fun r2 : Int32 =>
 Q r2 x1))) ∧ ((x.1 0 7) = 0 →
 Q (-3) x))
set_option maxHeartbeats 4000000 in
set_option maxRecDepth 100000 in
theorem t_X11_restore {l : Launch} {D : va_G} {cs : Nat → ClassId} {ad : Nat → Nat} (hI : wInj 161 ad) (x : XS)   (Q : Int32 → XS → Prop) (h : wp_X11_restore x   Q) : zWR l yX11_restore wsX11_restore ({ frames := 5, cells := 0, slots := 0, locals := 110 } : Room) (gK D cs) (XH D cs ad) (wB 161 ad) x [.ref (ad 0)] 0 0 Q := by
  refine zWR_of (cc := cX11_restore) (nL := 1) (ret := (some .int)) (by decide +kernel) rfl (Nat.le_of_ble_eq_true rfl) (fun C hl O hE hK => ?_)
  subst hl
  have hX : ∀ (x : XS) (H : Heap), XH D cs ad x H → va_P D vwCl (wl 161 ad (XE cs ad x)) H := fun _ _ h => h
  have hB : ∀ {x : XS} (H : Heap), va_P D vwCl (wl 161 ad (XE cs ad x)) H → XH D cs ad x H := fun _ h => h
  have hA : ∀ q, wB 161 ad q → zA (wB 161 ad) C.s.heap.size q := fun _ h => Or.inl h
  have i11 : ∀ w ∈ wsX110, w ∈ wsX11_restore := by decide +kernel
  refine z_sub (lv' := [(0, .ref (ad 0))]) [0] rfl ?_
  refine z_aload_n O dX11_restore_0 0 rfl ?_
  refine z_getf O hK.1 (hX _) (by decide) xe_11 rfl i11 7 (by decide) (by decide +kernel) rfl dX11_restore_1 ?_
  refine z_if_ne O 10 dX11_restore_4 (by decide) (fun c3 => ?_) (fun c3 => ?_)
  · replace h := h.1 c3
    refine z_aload_n O dX11_restore_10 0 rfl ?_
    refine z_getf O hK.1 (hX _) (by decide) xe_11 rfl i11 1 (by decide) (by decide +kernel) rfl dX11_restore_11 ?_
    refine z_aload_n O dX11_restore_14 0 rfl ?_
    refine z_getf O hK.1 (hX _) (by decide) xe_11 rfl i11 2 (by decide) (by decide +kernel) rfl dX11_restore_15 ?_
    refine z_cWV (gKs D cs) hK (fun _ h => h) (fun _ h => Or.inl h) (fun _ h => Or.inr h) (t_X6_takeAll hI x 29 xk_29 73 xk_73  _ h) (zr_V (As := [.ref (ad 73)]) (rest := []) O hE.1 1 gX11_restore_X6_takeAll rfl rfl rfl (by decide +kernel) ⟨(Nat.le_of_ble_eq_true rfl), (Nat.le_of_ble_eq_true rfl)⟩ ⟨(Nat.le_of_ble_eq_true rfl), (Nat.le_of_ble_eq_true rfl)⟩ (fun H hH => z_recv hK.1 (hX _ H hH) (xk_29).1 (xe_6 xk_29) rfl) rfl rfl (Nat.le_of_ble_eq_true rfl) dX11_restore_18) (fun x1 h => ?_)
    refine z_aload_n O dX11_restore_21 0 rfl ?_
    refine z_getf O hK.1 (hX _) (by decide) xe_11 rfl i11 1 (by decide) (by decide +kernel) rfl dX11_restore_22 ?_
    refine z_callR (gKs D cs) hK (fun _ h => h) (t_X6_allIce x1 29 xk_29  _ h) (zr_V (As := []) (rest := []) O hE.1 0 gX11_restore_X6_allIce rfl rfl rfl (by decide +kernel) ⟨(Nat.le_of_ble_eq_true rfl), (Nat.le_of_ble_eq_true rfl)⟩ ⟨(Nat.le_of_ble_eq_true rfl), (Nat.le_of_ble_eq_true rfl)⟩ (fun H hH => z_recv hK.1 (hX _ H hH) (xk_29).1 (xe_6 xk_29) rfl) rfl rfl (Nat.le_of_ble_eq_true rfl) dX11_restore_25) (fun r2 h => ?_)
    exact z_retWR O hE (Nat.le_of_ble_eq_true rfl) (Nat.le_of_ble_eq_true rfl) rfl dX11_restore_28 h
  · replace h := h.2 c3
    refine z_bipush (v := -3) O dX11_restore_7 rfl ?_
    exact z_retWR O hE (Nat.le_of_ble_eq_true rfl) (Nat.le_of_ble_eq_true rfl) rfl dX11_restore_9 h
def wp_X11_count (x : XS)  (p1 : Int32) (Q : Int32 → Prop) : Prop :=
 ((p1 = 0 →
 Q (x.1 29 2)) ∧ (¬ p1 = 0 →
 ((p1 = 1 →
 wp_X6_allLayers x 29 (fun r3 : Int32 =>
 Q r3)) ∧ (¬ p1 = 1 →
 ((p1 = 2 →
 wp_X6_allIce x 29 (fun r5 : Int32 =>
 Q r5)) ∧ (¬ p1 = 2 →
 ((p1 = 3 →
 wp_X6_allReadable x 29 (fun r7 : Int32 =>
 Q r7)) ∧ (¬ p1 = 3 →
 ((p1 = 4 →
 wp_X6_allOaths x 29 (fun r9 : Int32 =>
 Q r9)) ∧ (¬ p1 = 4 →
 Q (-1)))))))))))
set_option maxHeartbeats 4000000 in
set_option maxRecDepth 100000 in
theorem t_X11_count {l : Launch} {D : va_G} {cs : Nat → ClassId} {ad : Nat → Nat} (x : XS)  (p1 : Int32) (Q : Int32 → Prop) (h : wp_X11_count x  p1 Q) : zMR l yX11_count wsX11_count ({ frames := 6, cells := 0, slots := 0, locals := 133 } : Room) (gK D cs) (XH D cs ad) x [.ref (ad 0), .int p1] Q := by
  refine zMR_of (cc := cX11_count) (nL := 2) (ret := (some .int)) (by decide +kernel) rfl (Nat.le_of_ble_eq_true rfl) (fun C hl O hE hK hH => ?_)
  subst hl
  have hX : ∀ (x : XS) (H : Heap), z0 (XH D cs ad) C.s.heap x H → va_P D vwCl (wl 161 ad (XE cs ad x)) H := fun _ _ h => h.2
  have i11 : ∀ w ∈ wsX110, w ∈ wsX11_count := by decide +kernel
  have i6 : ∀ w ∈ wsX60, w ∈ wsX11_count := by decide +kernel
  refine z_sub (lv' := [(0, .ref (ad 0)), (1, .int p1)]) [0, 1] rfl ?_
  refine z_iload_n O dX11_count_0 1 rfl ?_
  by_cases c1 : p1 = 0
  · replace h := h.1 c1
    refine z_tableIn (v := 0) (off := 35) O 36 dX11_count_1 c1 (by decide) (by decide) (by decide) (by decide) ?_
    refine z_aload_n O dX11_count_36 0 rfl ?_
    refine z_getf O hK.1 (hX _) (by decide) xe_11 rfl i11 1 (by decide) (by decide +kernel) rfl dX11_count_37 ?_
    refine z_getfN O hK.1 (hX _) (xk_29).1 (xe_6 xk_29) rfl i6 2 (by decide) (hK.2.1 _ (List.mem_of_getElem? (i := 2) rfl)) rfl dX11_count_40 ?_
    exact z_retR O hE (fun _ h => h.1) rfl dX11_count_43 h
  replace h := h.2 c1
  by_cases c2 : p1 = 1
  · replace h := h.1 c2
    refine z_tableIn (v := 1) (off := 43) O 44 dX11_count_1 c2 (by decide) (by decide) (by decide) (by decide) ?_
    refine z_aload_n O dX11_count_44 0 rfl ?_
    refine z_getf O hK.1 (hX _) (by decide) xe_11 rfl i11 1 (by decide) (by decide +kernel) rfl dX11_count_45 ?_
    refine z_callR (gKs D cs) hK (fun _ h => h.2) (t_X6_allLayers x 29 xk_29  _ h) (zr_V (As := []) (rest := []) O hE.1 0 gX11_count_X6_allLayers rfl rfl rfl (by decide +kernel) ⟨(Nat.le_of_ble_eq_true rfl), (Nat.le_of_ble_eq_true rfl)⟩ ⟨(Nat.le_of_ble_eq_true rfl), (Nat.le_of_ble_eq_true rfl)⟩ (fun H hH => z_recv hK.1 (hX _ H hH) (xk_29).1 (xe_6 xk_29) rfl) rfl rfl (Nat.le_of_ble_eq_true rfl) dX11_count_48) (fun r3 h => ?_)
    exact z_retR O hE (fun _ h => h.1) rfl dX11_count_51 h
  replace h := h.2 c2
  by_cases c4 : p1 = 2
  · replace h := h.1 c4
    refine z_tableIn (v := 2) (off := 51) O 52 dX11_count_1 c4 (by decide) (by decide) (by decide) (by decide) ?_
    refine z_aload_n O dX11_count_52 0 rfl ?_
    refine z_getf O hK.1 (hX _) (by decide) xe_11 rfl i11 1 (by decide) (by decide +kernel) rfl dX11_count_53 ?_
    refine z_callR (gKs D cs) hK (fun _ h => h.2) (t_X6_allIce x 29 xk_29  _ h) (zr_V (As := []) (rest := []) O hE.1 0 gX11_count_X6_allIce rfl rfl rfl (by decide +kernel) ⟨(Nat.le_of_ble_eq_true rfl), (Nat.le_of_ble_eq_true rfl)⟩ ⟨(Nat.le_of_ble_eq_true rfl), (Nat.le_of_ble_eq_true rfl)⟩ (fun H hH => z_recv hK.1 (hX _ H hH) (xk_29).1 (xe_6 xk_29) rfl) rfl rfl (Nat.le_of_ble_eq_true rfl) dX11_count_56) (fun r5 h => ?_)
    exact z_retR O hE (fun _ h => h.1) rfl dX11_count_59 h
  replace h := h.2 c4
  by_cases c6 : p1 = 3
  · replace h := h.1 c6
    refine z_tableIn (v := 3) (off := 59) O 60 dX11_count_1 c6 (by decide) (by decide) (by decide) (by decide) ?_
    refine z_aload_n O dX11_count_60 0 rfl ?_
    refine z_getf O hK.1 (hX _) (by decide) xe_11 rfl i11 1 (by decide) (by decide +kernel) rfl dX11_count_61 ?_
    refine z_callR (gKs D cs) hK (fun _ h => h.2) (t_X6_allReadable x 29 xk_29  _ h) (zr_V (As := []) (rest := []) O hE.1 0 gX11_count_X6_allReadable rfl rfl rfl (by decide +kernel) ⟨(Nat.le_of_ble_eq_true rfl), (Nat.le_of_ble_eq_true rfl)⟩ ⟨(Nat.le_of_ble_eq_true rfl), (Nat.le_of_ble_eq_true rfl)⟩ (fun H hH => z_recv hK.1 (hX _ H hH) (xk_29).1 (xe_6 xk_29) rfl) rfl rfl (Nat.le_of_ble_eq_true rfl) dX11_count_64) (fun r7 h => ?_)
    exact z_retR O hE (fun _ h => h.1) rfl dX11_count_67 h
  replace h := h.2 c6
  by_cases c8 : p1 = 4
  · replace h := h.1 c8
    refine z_tableIn (v := 4) (off := 67) O 68 dX11_count_1 c8 (by decide) (by decide) (by decide) (by decide) ?_
    refine z_aload_n O dX11_count_68 0 rfl ?_
    refine z_getf O hK.1 (hX _) (by decide) xe_11 rfl i11 1 (by decide) (by decide +kernel) rfl dX11_count_69 ?_
    refine z_callR (gKs D cs) hK (fun _ h => h.2) (t_X6_allOaths x 29 xk_29  _ h) (zr_V (As := []) (rest := []) O hE.1 0 gX11_count_X6_allOaths rfl rfl rfl (by decide +kernel) ⟨(Nat.le_of_ble_eq_true rfl), (Nat.le_of_ble_eq_true rfl)⟩ ⟨(Nat.le_of_ble_eq_true rfl), (Nat.le_of_ble_eq_true rfl)⟩ (fun H hH => z_recv hK.1 (hX _ H hH) (xk_29).1 (xe_6 xk_29) rfl) rfl rfl (Nat.le_of_ble_eq_true rfl) dX11_count_72) (fun r9 h => ?_)
    exact z_retR O hE (fun _ h => h.1) rfl dX11_count_75 h
  replace h := h.2 c8
  refine z_tableOut O 76 dX11_count_1 (by have gc1 := lv_neT (a := 0) c1 (by decide); have gc2 := lv_neT (a := 1) c2 (by decide); have gc4 := lv_neT (a := 2) c4 (by decide); have gc6 := lv_neT (a := 3) c6 (by decide); have gc8 := lv_neT (a := 4) c8 (by decide); omega) (by decide) ?_
  refine z_iconst (v := -1) O dX11_count_76 rfl ?_
  exact z_retR O hE (fun _ h => h.1) rfl dX11_count_77 h
def wp_X11_keep (x : XS)  (p1 : Int32) (p2 : Int32) (p3 : Int32) (p4 : Int32) (Q : Int32 → XS → Prop) : Prop :=
 wp_X11_shelfAt x p1 (fun r : Option Nat => match r with
 | none => Q (-1) x
 | some o1 => xk o1 9 ∧
 wp_X11_within p2 0 1 (fun r2 : Int32 =>
 ((r2 = 0 →
 Q (-1) x) ∧ (¬ r2 = 0 →
 ((¬ p2 = 1 →
 ((¬ p2 = 0 →
 wp_X9_takeLayer x o1 p3 p4 (fun (x3 : XS) =>
 Q 0 x3)) ∧ (p2 = 0 →
 (∀ x4 : XS, x4 = xI x o1 1 0 →
 Q 0 x4)))) ∧ (p2 = 1 →
 wp_X11_isKindAndOath p3 p4 (fun r6 : Int32 =>
 ((¬ r6 = 0 →
 ((¬ p2 = 0 →
 wp_X9_takeLayer x o1 p3 p4 (fun (x7 : XS) =>
 Q 0 x7)) ∧ (p2 = 0 →
 (∀ x8 : XS, x8 = xI x o1 1 0 →
 Q 0 x8)))) ∧ (r6 = 0 →
 Q (-1) x)))))))))
set_option maxHeartbeats 4000000 in
set_option maxRecDepth 100000 in
theorem t_X11_keep {l : Launch} {D : va_G} {cs : Nat → ClassId} {ad : Nat → Nat} (hI : wInj 161 ad) (x : XS)  (p1 : Int32) (p2 : Int32) (p3 : Int32) (p4 : Int32) (Q : Int32 → XS → Prop) (h : wp_X11_keep x  p1 p2 p3 p4 Q) : zWR l yX11_keep wsX11_keep ({ frames := 2, cells := 0, slots := 0, locals := 43 } : Room) (gK D cs) (XH D cs ad) (wB 161 ad) x [.ref (ad 0), .int p1, .int p2, .int p3, .int p4] 0 0 Q := by
  refine zWR_of (cc := cX11_keep) (nL := 6) (ret := (some .int)) (by decide +kernel) rfl (Nat.le_of_ble_eq_true rfl) (fun C hl O hE hK => ?_)
  subst hl
  have hX : ∀ (x : XS) (H : Heap), XH D cs ad x H → va_P D vwCl (wl 161 ad (XE cs ad x)) H := fun _ _ h => h
  have hB : ∀ {x : XS} (H : Heap), va_P D vwCl (wl 161 ad (XE cs ad x)) H → XH D cs ad x H := fun _ h => h
  have hA : ∀ q, wB 161 ad q → zA (wB 161 ad) C.s.heap.size q := fun _ h => Or.inl h
  have i9 : ∀ w ∈ wsX90, w ∈ wsX11_keep := by decide +kernel
  refine z_sub (lv' := [(0, .ref (ad 0)), (1, .int p1), (2, .int p2), (3, .int p3), (4, .int p4)]) [0, 1, 2, 3, 4] rfl ?_
  refine z_aload_n O dX11_keep_0 0 rfl ?_
  refine z_iload_n O dX11_keep_1 1 rfl ?_
  refine z_callE (gKs D cs) hK (fun _ h => h) (t_X11_shelfAt x  p1 _ h) (zr_V (As := [.int p1]) (rest := []) O hE.1 1 gX11_keep_X11_shelfAt rfl rfl rfl (by decide +kernel) ⟨(Nat.le_of_ble_eq_true rfl), (Nat.le_of_ble_eq_true rfl)⟩ ⟨(Nat.le_of_ble_eq_true rfl), (Nat.le_of_ble_eq_true rfl)⟩ (fun H hH => z_recv hK.1 (hX _ H hH) (by decide) xe_11 rfl) rfl rfl (Nat.le_of_ble_eq_true rfl) dX11_keep_2) (fun h => ?_) (fun o1 h => ?_)
  · skip
    refine z_astoreN (lv' := [(5, .null), (0, .ref (ad 0)), (1, .int p1), (2, .int p2), (3, .int p3), (4, .int p4)]) O dX11_keep_5 (by decide) rfl ?_
    refine z_aloadN O dX11_keep_7 0 rfl ?_
    refine z_ifnullN O 35 dX11_keep_9 (by decide) ?_
    refine z_iconst (v := -1) O dX11_keep_35 rfl ?_
    exact z_retWR O hE (Nat.le_of_ble_eq_true rfl) (Nat.le_of_ble_eq_true rfl) rfl dX11_keep_36 h
  · have ho1 := h.1
    replace h := h.2
    refine z_astore (lv' := [(5, .ref (ad o1)), (0, .ref (ad 0)), (1, .int p1), (2, .int p2), (3, .int p3), (4, .int p4)]) O dX11_keep_5 (by decide) rfl ?_
    refine z_aload O dX11_keep_7 0 rfl ?_
    refine z_ifnull O dX11_keep_9 ?_
    refine z_iload_n O dX11_keep_12 3 rfl ?_
    refine z_iconst (v := 0) O dX11_keep_13 rfl ?_
    refine z_iconst (v := 1) O dX11_keep_14 rfl ?_
    refine z_callR (gKs D cs) hK (fun _ h => h) (t_X11_within (gKs D cs) p2 0 1 _ h) (zr_SS (As := [.int p2, .int 0, .int 1]) (rest := []) O hE.1 3 gX11_keep_X11_within rfl rfl rfl (by decide +kernel) ⟨(Nat.le_of_ble_eq_true rfl), (Nat.le_of_ble_eq_true rfl)⟩ ⟨(Nat.le_of_ble_eq_true rfl), (Nat.le_of_ble_eq_true rfl)⟩ rfl rfl (Nat.le_of_ble_eq_true rfl) dX11_keep_15) (fun r2 h => ?_)
    refine z_if_eq O 35 dX11_keep_18 (by decide) (fun c12 => ?_) (fun c12 => ?_)
    · replace h := h.1 c12
      refine z_iconst (v := -1) O dX11_keep_35 rfl ?_
      exact z_retWR O hE (Nat.le_of_ble_eq_true rfl) (Nat.le_of_ble_eq_true rfl) rfl dX11_keep_36 h
    · replace h := h.2 c12
      refine z_iload_n O dX11_keep_21 3 rfl ?_
      refine z_iconst (v := 1) O dX11_keep_22 rfl ?_
      refine z_icmp_ne O 37 dX11_keep_23 (by decide) (fun c11 => ?_) (fun c11 => ?_)
      · replace h := h.1 c11
        refine z_iload_n O dX11_keep_37 3 rfl ?_
        refine z_if_ne O 50 dX11_keep_38 (by decide) (fun c5 => ?_) (fun c5 => ?_)
        · replace h := h.1 c5
          refine z_aload O dX11_keep_50 0 rfl ?_
          refine z_iload_n O dX11_keep_52 4 rfl ?_
          refine z_iload O dX11_keep_53 5 rfl ?_
          refine z_cWV (gKs D cs) hK (fun _ h => h) (fun _ h => Or.inl h) (fun _ h => Or.inr h) (t_X9_takeLayer hI x o1 ho1 p3 p4 _ h) (zr_V (As := [.int p3, .int p4]) (rest := []) O hE.1 2 gX11_keep_X9_takeLayer rfl rfl rfl (by decide +kernel) ⟨(Nat.le_of_ble_eq_true rfl), (Nat.le_of_ble_eq_true rfl)⟩ ⟨(Nat.le_of_ble_eq_true rfl), (Nat.le_of_ble_eq_true rfl)⟩ (fun H hH => z_recv hK.1 (hX _ H hH) (ho1).1 (xe_9 ho1) rfl) rfl rfl (Nat.le_of_ble_eq_true rfl) dX11_keep_55) (fun x3 h => ?_)
          refine z_iconst (v := 0) O dX11_keep_58 rfl ?_
          exact z_retWR O hE (Nat.le_of_ble_eq_true rfl) (Nat.le_of_ble_eq_true rfl) rfl dX11_keep_59 h
        · replace h := h.2 c5
          refine z_aload O dX11_keep_41 0 rfl ?_
          refine z_iconst (v := 0) O dX11_keep_43 rfl ?_
          obtain ⟨x4, ex4⟩ : ∃ z, z = xI x o1 1 0 := ⟨_, rfl⟩
          replace h := h x4 ex4
          refine z_putfN (x' := x4) (ty := .int) O hK.1 (hX _) hB hI hA (ho1).1 (xe_9 ho1) rfl i9 tyX9 tyX9_ok nmX9 1 (by decide) (hK.2.1 _ (List.mem_of_getElem? (i := 4) rfl)) rfl (by decide +kernel) rfl rfl (Nat.le_of_ble_eq_true rfl) (by rw [ex4]; exact xe_put9_1 ho1 0) dX11_keep_44 ?_
          refine z_goto O 58 dX11_keep_47 (by decide) ?_
          refine z_iconst (v := 0) O dX11_keep_58 rfl ?_
          exact z_retWR O hE (Nat.le_of_ble_eq_true rfl) (Nat.le_of_ble_eq_true rfl) rfl dX11_keep_59 h
      · replace h := h.2 c11
        refine z_iload_n O dX11_keep_26 4 rfl ?_
        refine z_iload O dX11_keep_27 5 rfl ?_
        refine z_callR (gKs D cs) hK (fun _ h => h) (t_X11_isKindAndOath (gKs D cs) p3 p4 _ h) (zr_SS (As := [.int p3, .int p4]) (rest := []) O hE.1 2 gX11_keep_X11_isKindAndOath rfl rfl rfl (by decide +kernel) ⟨(Nat.le_of_ble_eq_true rfl), (Nat.le_of_ble_eq_true rfl)⟩ ⟨(Nat.le_of_ble_eq_true rfl), (Nat.le_of_ble_eq_true rfl)⟩ rfl rfl (Nat.le_of_ble_eq_true rfl) dX11_keep_29) (fun r6 h => ?_)
        refine z_if_ne O 37 dX11_keep_32 (by decide) (fun c10 => ?_) (fun c10 => ?_)
        · replace h := h.1 c10
          refine z_iload_n O dX11_keep_37 3 rfl ?_
          refine z_if_ne O 50 dX11_keep_38 (by decide) (fun c9 => ?_) (fun c9 => ?_)
          · replace h := h.1 c9
            refine z_aload O dX11_keep_50 0 rfl ?_
            refine z_iload_n O dX11_keep_52 4 rfl ?_
            refine z_iload O dX11_keep_53 5 rfl ?_
            refine z_cWV (gKs D cs) hK (fun _ h => h) (fun _ h => Or.inl h) (fun _ h => Or.inr h) (t_X9_takeLayer hI x o1 ho1 p3 p4 _ h) (zr_V (As := [.int p3, .int p4]) (rest := []) O hE.1 2 gX11_keep_X9_takeLayer rfl rfl rfl (by decide +kernel) ⟨(Nat.le_of_ble_eq_true rfl), (Nat.le_of_ble_eq_true rfl)⟩ ⟨(Nat.le_of_ble_eq_true rfl), (Nat.le_of_ble_eq_true rfl)⟩ (fun H hH => z_recv hK.1 (hX _ H hH) (ho1).1 (xe_9 ho1) rfl) rfl rfl (Nat.le_of_ble_eq_true rfl) dX11_keep_55) (fun x7 h => ?_)
            refine z_iconst (v := 0) O dX11_keep_58 rfl ?_
            exact z_retWR O hE (Nat.le_of_ble_eq_true rfl) (Nat.le_of_ble_eq_true rfl) rfl dX11_keep_59 h
          · replace h := h.2 c9
            refine z_aload O dX11_keep_41 0 rfl ?_
            refine z_iconst (v := 0) O dX11_keep_43 rfl ?_
            obtain ⟨x8, ex8⟩ : ∃ z, z = xI x o1 1 0 := ⟨_, rfl⟩
            replace h := h x8 ex8
            refine z_putfN (x' := x8) (ty := .int) O hK.1 (hX _) hB hI hA (ho1).1 (xe_9 ho1) rfl i9 tyX9 tyX9_ok nmX9 1 (by decide) (hK.2.1 _ (List.mem_of_getElem? (i := 4) rfl)) rfl (by decide +kernel) rfl rfl (Nat.le_of_ble_eq_true rfl) (by rw [ex8]; exact xe_put9_1 ho1 0) dX11_keep_44 ?_
            refine z_goto O 58 dX11_keep_47 (by decide) ?_
            refine z_iconst (v := 0) O dX11_keep_58 rfl ?_
            exact z_retWR O hE (Nat.le_of_ble_eq_true rfl) (Nat.le_of_ble_eq_true rfl) rfl dX11_keep_59 h
        · replace h := h.2 c10
          refine z_iconst (v := -1) O dX11_keep_35 rfl ?_
          exact z_retWR O hE (Nat.le_of_ble_eq_true rfl) (Nat.le_of_ble_eq_true rfl) rfl dX11_keep_36 h
def wp_X11_row (x : XS)  (p1 : Int32) (p2 : Int32) (p3 : Int32) (Q : Int32 → XS → Prop) : Prop :=
 wp_X11_shelfAt x p1 (fun r : Option Nat => match r with
 | none => Q (-1) x
 | some o1 => xk o1 9 ∧
 wp_X11_within p2 0 2 (fun r2 : Int32 =>
 ((r2 = 0 →
 Q (-1) x) ∧ (¬ r2 = 0 →
 ((p3 ≤ 100 →
 ((0 ≤ p3 →
 wp_X9_takeRow x o1 p2 p3 (fun (x3 : XS) =>
 Q 0 x3)) ∧ (¬ 0 ≤ p3 →
 Q (-14) x))) ∧ (¬ p3 ≤ 100 →
 Q (-1) x))))))
set_option maxHeartbeats 4000000 in
set_option maxRecDepth 100000 in
theorem t_X11_row {l : Launch} {D : va_G} {cs : Nat → ClassId} {ad : Nat → Nat} (hI : wInj 161 ad) (x : XS)  (p1 : Int32) (p2 : Int32) (p3 : Int32) (Q : Int32 → XS → Prop) (h : wp_X11_row x  p1 p2 p3 Q) : zWR l yX11_row wsX11_row ({ frames := 2, cells := 0, slots := 0, locals := 45 } : Room) (gK D cs) (XH D cs ad) (wB 161 ad) x [.ref (ad 0), .int p1, .int p2, .int p3] 0 0 Q := by
  refine zWR_of (cc := cX11_row) (nL := 5) (ret := (some .int)) (by decide +kernel) rfl (Nat.le_of_ble_eq_true rfl) (fun C hl O hE hK => ?_)
  subst hl
  have hX : ∀ (x : XS) (H : Heap), XH D cs ad x H → va_P D vwCl (wl 161 ad (XE cs ad x)) H := fun _ _ h => h
  have hB : ∀ {x : XS} (H : Heap), va_P D vwCl (wl 161 ad (XE cs ad x)) H → XH D cs ad x H := fun _ h => h
  have hA : ∀ q, wB 161 ad q → zA (wB 161 ad) C.s.heap.size q := fun _ h => Or.inl h
  refine z_sub (lv' := [(0, .ref (ad 0)), (1, .int p1), (2, .int p2), (3, .int p3)]) [0, 1, 2, 3] rfl ?_
  refine z_aload_n O dX11_row_0 0 rfl ?_
  refine z_iload_n O dX11_row_1 1 rfl ?_
  refine z_callE (gKs D cs) hK (fun _ h => h) (t_X11_shelfAt x  p1 _ h) (zr_V (As := [.int p1]) (rest := []) O hE.1 1 gX11_row_X11_shelfAt rfl rfl rfl (by decide +kernel) ⟨(Nat.le_of_ble_eq_true rfl), (Nat.le_of_ble_eq_true rfl)⟩ ⟨(Nat.le_of_ble_eq_true rfl), (Nat.le_of_ble_eq_true rfl)⟩ (fun H hH => z_recv hK.1 (hX _ H hH) (by decide) xe_11 rfl) rfl rfl (Nat.le_of_ble_eq_true rfl) dX11_row_2) (fun h => ?_) (fun o1 h => ?_)
  · skip
    refine z_astoreN (lv' := [(4, .null), (0, .ref (ad 0)), (1, .int p1), (2, .int p2), (3, .int p3)]) O dX11_row_5 (by decide) rfl ?_
    refine z_aloadN O dX11_row_7 0 rfl ?_
    refine z_ifnullN O 27 dX11_row_9 (by decide) ?_
    refine z_iconst (v := -1) O dX11_row_27 rfl ?_
    exact z_retWR O hE (Nat.le_of_ble_eq_true rfl) (Nat.le_of_ble_eq_true rfl) rfl dX11_row_28 h
  · have ho1 := h.1
    replace h := h.2
    refine z_astore (lv' := [(4, .ref (ad o1)), (0, .ref (ad 0)), (1, .int p1), (2, .int p2), (3, .int p3)]) O dX11_row_5 (by decide) rfl ?_
    refine z_aload O dX11_row_7 0 rfl ?_
    refine z_ifnull O dX11_row_9 ?_
    refine z_iload_n O dX11_row_12 3 rfl ?_
    refine z_iconst (v := 0) O dX11_row_13 rfl ?_
    refine z_iconst (v := 2) O dX11_row_14 rfl ?_
    refine z_callR (gKs D cs) hK (fun _ h => h) (t_X11_within (gKs D cs) p2 0 2 _ h) (zr_SS (As := [.int p2, .int 0, .int 2]) (rest := []) O hE.1 3 gX11_row_X11_within rfl rfl rfl (by decide +kernel) ⟨(Nat.le_of_ble_eq_true rfl), (Nat.le_of_ble_eq_true rfl)⟩ ⟨(Nat.le_of_ble_eq_true rfl), (Nat.le_of_ble_eq_true rfl)⟩ rfl rfl (Nat.le_of_ble_eq_true rfl) dX11_row_15) (fun r2 h => ?_)
    refine z_if_eq O 27 dX11_row_18 (by decide) (fun c6 => ?_) (fun c6 => ?_)
    · replace h := h.1 c6
      refine z_iconst (v := -1) O dX11_row_27 rfl ?_
      exact z_retWR O hE (Nat.le_of_ble_eq_true rfl) (Nat.le_of_ble_eq_true rfl) rfl dX11_row_28 h
    · replace h := h.2 c6
      refine z_iload_n O dX11_row_21 4 rfl ?_
      refine z_bipush (v := 100) O dX11_row_22 rfl ?_
      refine z_icmp_le O 29 dX11_row_24 (by decide) (fun c5 => ?_) (fun c5 => ?_)
      · replace h := h.1 c5
        refine z_iload_n O dX11_row_29 4 rfl ?_
        refine z_if_ge O 36 dX11_row_30 (by decide) (fun c4 => ?_) (fun c4 => ?_)
        · replace h := h.1 c4
          refine z_aload O dX11_row_36 0 rfl ?_
          refine z_iload_n O dX11_row_38 3 rfl ?_
          refine z_iload_n O dX11_row_39 4 rfl ?_
          refine z_cWV (gKs D cs) hK (fun _ h => h) (fun _ h => Or.inl h) (fun _ h => Or.inr h) (t_X9_takeRow hI x o1 ho1 p2 p3 _ h) (zr_V (As := [.int p2, .int p3]) (rest := []) O hE.1 2 gX11_row_X9_takeRow rfl rfl rfl (by decide +kernel) ⟨(Nat.le_of_ble_eq_true rfl), (Nat.le_of_ble_eq_true rfl)⟩ ⟨(Nat.le_of_ble_eq_true rfl), (Nat.le_of_ble_eq_true rfl)⟩ (fun H hH => z_recv hK.1 (hX _ H hH) (ho1).1 (xe_9 ho1) rfl) rfl rfl (Nat.le_of_ble_eq_true rfl) dX11_row_40) (fun x3 h => ?_)
          refine z_iconst (v := 0) O dX11_row_43 rfl ?_
          exact z_retWR O hE (Nat.le_of_ble_eq_true rfl) (Nat.le_of_ble_eq_true rfl) rfl dX11_row_44 h
        · replace h := h.2 c4
          refine z_bipush (v := -14) O dX11_row_33 rfl ?_
          exact z_retWR O hE (Nat.le_of_ble_eq_true rfl) (Nat.le_of_ble_eq_true rfl) rfl dX11_row_35 h
      · replace h := h.2 c5
        refine z_iconst (v := -1) O dX11_row_27 rfl ?_
        exact z_retWR O hE (Nat.le_of_ble_eq_true rfl) (Nat.le_of_ble_eq_true rfl) rfl dX11_row_28 h
def wp_X11_put (x : XS)  (p1 : Int32) (p2 : Int32) (p3 : Int32) (Q : Int32 → XS → Prop) : Prop :=
 wp_X11_shelfAt x p1 (fun r : Option Nat => match r with
 | none => Q (-1) x
 | some o1 => xk o1 9 ∧
 wp_X9_lacks x o1 2 (fun r2 : Int32 =>
 ((r2 = 0 →
 wp_X9_hasPlace x o1 p2 (fun r3 : Int32 =>
 ((¬ r3 = 0 →
 wp_X9_lowestBits x o1 p3 (fun r4 : Int32 =>
 (vp_in p2 100 ∧
 ∀ x5 : XS, x5 = xA x (o1 + 1) (upd (x.2.1 (o1 + 1)) (Int32.toNatClampNeg p2) r4) →
 Q 0 x5))) ∧ (r3 = 0 →
 Q (-13) x)))) ∧ (¬ r2 = 0 →
 Q r2 x))))
set_option maxHeartbeats 4000000 in
set_option maxRecDepth 100000 in
theorem t_X11_put {l : Launch} {D : va_G} {cs : Nat → ClassId} {ad : Nat → Nat} (hI : wInj 161 ad) (x : XS)  (p1 : Int32) (p2 : Int32) (p3 : Int32) (Q : Int32 → XS → Prop) (h : wp_X11_put x  p1 p2 p3 Q) : zWR l yX11_put wsX11_put ({ frames := 2, cells := 0, slots := 0, locals := 43 } : Room) (gK D cs) (XH D cs ad) (wB 161 ad) x [.ref (ad 0), .int p1, .int p2, .int p3] 0 0 Q := by
  refine zWR_of (cc := cX11_put) (nL := 6) (ret := (some .int)) (by decide +kernel) rfl (Nat.le_of_ble_eq_true rfl) (fun C hl O hE hK => ?_)
  subst hl
  have hX : ∀ (x : XS) (H : Heap), XH D cs ad x H → va_P D vwCl (wl 161 ad (XE cs ad x)) H := fun _ _ h => h
  have hB : ∀ {x : XS} (H : Heap), va_P D vwCl (wl 161 ad (XE cs ad x)) H → XH D cs ad x H := fun _ h => h
  have hA : ∀ q, wB 161 ad q → zA (wB 161 ad) C.s.heap.size q := fun _ h => Or.inl h
  have i9 : ∀ w ∈ wsX90, w ∈ wsX11_put := by decide +kernel
  refine z_sub (lv' := [(0, .ref (ad 0)), (1, .int p1), (2, .int p2), (3, .int p3)]) [0, 1, 2, 3] rfl ?_
  refine z_aload_n O dX11_put_0 0 rfl ?_
  refine z_iload_n O dX11_put_1 1 rfl ?_
  refine z_callE (gKs D cs) hK (fun _ h => h) (t_X11_shelfAt x  p1 _ h) (zr_V (As := [.int p1]) (rest := []) O hE.1 1 gX11_put_X11_shelfAt rfl rfl rfl (by decide +kernel) ⟨(Nat.le_of_ble_eq_true rfl), (Nat.le_of_ble_eq_true rfl)⟩ ⟨(Nat.le_of_ble_eq_true rfl), (Nat.le_of_ble_eq_true rfl)⟩ (fun H hH => z_recv hK.1 (hX _ H hH) (by decide) xe_11 rfl) rfl rfl (Nat.le_of_ble_eq_true rfl) dX11_put_2) (fun h => ?_) (fun o1 h => ?_)
  · skip
    refine z_astoreN (lv' := [(4, .null), (0, .ref (ad 0)), (1, .int p1), (2, .int p2), (3, .int p3)]) O dX11_put_5 (by decide) rfl ?_
    refine z_aloadN O dX11_put_7 0 rfl ?_
    refine z_ifnonnullN O dX11_put_9 ?_
    refine z_iconst (v := -1) O dX11_put_12 rfl ?_
    exact z_retWR O hE (Nat.le_of_ble_eq_true rfl) (Nat.le_of_ble_eq_true rfl) rfl dX11_put_13 h
  · have ho1 := h.1
    replace h := h.2
    refine z_astore (lv' := [(4, .ref (ad o1)), (0, .ref (ad 0)), (1, .int p1), (2, .int p2), (3, .int p3)]) O dX11_put_5 (by decide) rfl ?_
    refine z_aload O dX11_put_7 0 rfl ?_
    refine z_ifnonnull O 14 dX11_put_9 (by decide) ?_
    refine z_aload O dX11_put_14 0 rfl ?_
    refine z_iconst (v := 2) O dX11_put_16 rfl ?_
    refine z_callR (gKs D cs) hK (fun _ h => h) (t_X9_lacks x o1 ho1 2 _ h) (zr_V (As := [.int 2]) (rest := []) O hE.1 1 gX11_put_X9_lacks rfl rfl rfl (by decide +kernel) ⟨(Nat.le_of_ble_eq_true rfl), (Nat.le_of_ble_eq_true rfl)⟩ ⟨(Nat.le_of_ble_eq_true rfl), (Nat.le_of_ble_eq_true rfl)⟩ (fun H hH => z_recv hK.1 (hX _ H hH) (ho1).1 (xe_9 ho1) rfl) rfl rfl (Nat.le_of_ble_eq_true rfl) dX11_put_17) (fun r2 h => ?_)
    refine z_istore (lv' := [(5, .int r2), (4, .ref (ad o1)), (0, .ref (ad 0)), (1, .int p1), (2, .int p2), (3, .int p3)]) O dX11_put_20 (by decide) rfl ?_
    refine z_iload O dX11_put_22 0 rfl ?_
    refine z_if_eq O 30 dX11_put_24 (by decide) (fun c7 => ?_) (fun c7 => ?_)
    · replace h := h.1 c7
      refine z_aload O dX11_put_30 1 rfl ?_
      refine z_iload_n O dX11_put_32 4 rfl ?_
      refine z_callR (gKs D cs) hK (fun _ h => h) (t_X9_hasPlace x o1 ho1 p2 _ h) (zr_V (As := [.int p2]) (rest := []) O hE.1 1 gX11_put_X9_hasPlace rfl rfl rfl (by decide +kernel) ⟨(Nat.le_of_ble_eq_true rfl), (Nat.le_of_ble_eq_true rfl)⟩ ⟨(Nat.le_of_ble_eq_true rfl), (Nat.le_of_ble_eq_true rfl)⟩ (fun H hH => z_recv hK.1 (hX _ H hH) (ho1).1 (xe_9 ho1) rfl) rfl rfl (Nat.le_of_ble_eq_true rfl) dX11_put_33) (fun r3 h => ?_)
      refine z_if_ne O 42 dX11_put_36 (by decide) (fun c6 => ?_) (fun c6 => ?_)
      · replace h := h.1 c6
        refine z_aload O dX11_put_42 1 rfl ?_
        refine z_getfN O hK.1 (hX _) (ho1).1 (xe_9 ho1) rfl i9 0 (by decide) (hK.2.1 _ (List.mem_of_getElem? (i := 3) rfl)) rfl dX11_put_44 ?_
        refine z_iload_n O dX11_put_47 4 rfl ?_
        refine z_aload O dX11_put_48 1 rfl ?_
        refine z_iload_n O dX11_put_50 5 rfl ?_
        refine z_callR (gKs D cs) hK (fun _ h => h) (t_X9_lowestBits x o1 ho1 p3 _ h) (zr_V (As := [.int p3]) (rest := [.int p2, .ref (ad (o1 + 1))]) O hE.1 1 gX11_put_X9_lowestBits rfl rfl rfl (by decide +kernel) ⟨(Nat.le_of_ble_eq_true rfl), (Nat.le_of_ble_eq_true rfl)⟩ ⟨(Nat.le_of_ble_eq_true rfl), (Nat.le_of_ble_eq_true rfl)⟩ (fun H hH => z_recv hK.1 (hX _ H hH) (ho1).1 (xe_9 ho1) rfl) rfl rfl (Nat.le_of_ble_eq_true rfl) dX11_put_51) (fun r4 h => ?_)
        have hb0 := h.1
        replace h := h.2
        obtain ⟨x5, ex5⟩ : ∃ z, z = xA x (o1 + 1) (upd (x.2.1 (o1 + 1)) (Int32.toNatClampNeg p2) r4) := ⟨_, rfl⟩
        replace h := h x5 ex5
        refine z_iast (x' := x5) O hK.1 (hX _) hB hI hA 0 ((xk_s ho1)).1 (xe_20 (xk_s ho1)) rfl (xin (xk_sl ho1) hb0) (by rw [ex5]; exact xe_setA (xk_s ho1) _) dX11_put_54 ?_
        refine z_iconst (v := 0) O dX11_put_55 rfl ?_
        exact z_retWR O hE (Nat.le_of_ble_eq_true rfl) (Nat.le_of_ble_eq_true rfl) rfl dX11_put_56 h
      · replace h := h.2 c6
        refine z_bipush (v := -13) O dX11_put_39 rfl ?_
        exact z_retWR O hE (Nat.le_of_ble_eq_true rfl) (Nat.le_of_ble_eq_true rfl) rfl dX11_put_41 h
    · replace h := h.2 c7
      refine z_iload O dX11_put_27 0 rfl ?_
      exact z_retWR O hE (Nat.le_of_ble_eq_true rfl) (Nat.le_of_ble_eq_true rfl) rfl dX11_put_29 h
def wp_X11_copy (x : XS)  (p1 : Int32) (p2 : Int32) (p3 : Int32) (p4 : Int32) (p5 : Int32) (Q : Int32 → XS → Prop) : Prop :=
 wp_X11_shelfAt x p1 (fun r : Option Nat => match r with
 | none => wp_X11_shelfAt x p3 (fun r : Option Nat => match r with
 | none => Q (-1) x
 | some o2 => xk o2 9 ∧
 Q (-1) x)
 | some o1 => xk o1 9 ∧
 wp_X11_shelfAt x p3 (fun r : Option Nat => match r with
 | none => Q (-1) x
 | some o3 => xk o3 9 ∧
 (((x.1 o1 1) = 0 →
 Q (-11) x) ∧ (¬ (x.1 o1 1) = 0 →
 ((¬ (x.1 o3 1) = 0 →
 ((¬ (x.1 o1 1) = 2 →
 Q (-12) x) ∧ ((x.1 o1 1) = 2 →
 ((¬ (x.1 o3 1) = 2 →
 Q (-12) x) ∧ ((x.1 o3 1) = 2 →
 (((x.1 o1 4) = (x.1 o3 4) →
 wp_X9_hasStretch x o1 p2 p5 (fun r4 : Int32 =>
 ((r4 = 0 →
 Q (-13) x) ∧ (¬ r4 = 0 →
 wp_X9_hasStretch x o3 p4 p5 (fun r5 : Int32 =>
 ((¬ r5 = 0 →
 ((¬ p2 < 0) ∧ (¬ p4 < 0) ∧ (¬ p5 < 0) ∧ ((Int32.toNatClampNeg p2) + (Int32.toNatClampNeg p5) ≤ 100) ∧ ((Int32.toNatClampNeg p4) + (Int32.toNatClampNeg p5) ≤ 100) ∧
 ∀ x6 : XS, x6 = xA x (o3 + 1) (va_cpy (x.2.1 (o1 + 1)) (x.2.1 (o3 + 1)) (Int32.toNatClampNeg p2) (Int32.toNatClampNeg p4) (Int32.toNatClampNeg p5)) →
 Q p5 x6)) ∧ (r5 = 0 →
 Q (-13) x))))))) ∧ (¬ (x.1 o1 4) = (x.1 o3 4) →
 Q (-12) x))))))) ∧ ((x.1 o3 1) = 0 →
 Q (-11) x))))))
set_option maxHeartbeats 4000000 in
set_option maxRecDepth 100000 in
theorem t_X11_copy {l : Launch} {D : va_G} {cs : Nat → ClassId} {ad : Nat → Nat} (hI : wInj 161 ad) (x : XS)  (p1 : Int32) (p2 : Int32) (p3 : Int32) (p4 : Int32) (p5 : Int32) (Q : Int32 → XS → Prop) (h : wp_X11_copy x  p1 p2 p3 p4 p5 Q) : zWR l yX11_copy wsX11_copy ({ frames := 2, cells := 0, slots := 0, locals := 60 } : Room) (gK D cs) (XH D cs ad) (wB 161 ad) x [.ref (ad 0), .int p1, .int p2, .int p3, .int p4, .int p5] 0 0 Q := by
  refine zWR_of (cc := cX11_copy) (nL := 8) (ret := (some .int)) (by decide +kernel) rfl (Nat.le_of_ble_eq_true rfl) (fun C hl O hE hK => ?_)
  subst hl
  have hX : ∀ (x : XS) (H : Heap), XH D cs ad x H → va_P D vwCl (wl 161 ad (XE cs ad x)) H := fun _ _ h => h
  have hB : ∀ {x : XS} (H : Heap), va_P D vwCl (wl 161 ad (XE cs ad x)) H → XH D cs ad x H := fun _ h => h
  have hA : ∀ q, wB 161 ad q → zA (wB 161 ad) C.s.heap.size q := fun _ h => Or.inl h
  have i9 : ∀ w ∈ wsX90, w ∈ wsX11_copy := by decide +kernel
  refine z_sub (lv' := [(0, .ref (ad 0)), (1, .int p1), (2, .int p2), (3, .int p3), (4, .int p4), (5, .int p5)]) [0, 1, 2, 3, 4, 5] rfl ?_
  refine z_aload_n O dX11_copy_0 0 rfl ?_
  refine z_iload_n O dX11_copy_1 1 rfl ?_
  refine z_callE (gKs D cs) hK (fun _ h => h) (t_X11_shelfAt x  p1 _ h) (zr_V (As := [.int p1]) (rest := []) O hE.1 1 gX11_copy_X11_shelfAt rfl rfl rfl (by decide +kernel) ⟨(Nat.le_of_ble_eq_true rfl), (Nat.le_of_ble_eq_true rfl)⟩ ⟨(Nat.le_of_ble_eq_true rfl), (Nat.le_of_ble_eq_true rfl)⟩ (fun H hH => z_recv hK.1 (hX _ H hH) (by decide) xe_11 rfl) rfl rfl (Nat.le_of_ble_eq_true rfl) dX11_copy_2) (fun h => ?_) (fun o1 h => ?_)
  · skip
    refine z_astoreN (lv' := [(6, .null), (0, .ref (ad 0)), (1, .int p1), (2, .int p2), (3, .int p3), (4, .int p4), (5, .int p5)]) O dX11_copy_5 (by decide) rfl ?_
    refine z_aload_n O dX11_copy_7 1 rfl ?_
    refine z_iload_n O dX11_copy_8 4 rfl ?_
    refine z_callE (gKs D cs) hK (fun _ h => h) (t_X11_shelfAt x  p3 _ h) (zr_V (As := [.int p3]) (rest := []) O hE.1 1 gX11_copy_X11_shelfAt rfl rfl rfl (by decide +kernel) ⟨(Nat.le_of_ble_eq_true rfl), (Nat.le_of_ble_eq_true rfl)⟩ ⟨(Nat.le_of_ble_eq_true rfl), (Nat.le_of_ble_eq_true rfl)⟩ (fun H hH => z_recv hK.1 (hX _ H hH) (by decide) xe_11 rfl) rfl rfl (Nat.le_of_ble_eq_true rfl) dX11_copy_9) (fun h => ?_) (fun o2 h => ?_)
    · skip
      refine z_astoreN (lv' := [(7, .null), (6, .null), (0, .ref (ad 0)), (1, .int p1), (2, .int p2), (3, .int p3), (4, .int p4), (5, .int p5)]) O dX11_copy_12 (by decide) rfl ?_
      refine z_aloadN O dX11_copy_14 1 rfl ?_
      refine z_ifnullN O 24 dX11_copy_16 (by decide) ?_
      refine z_iconst (v := -1) O dX11_copy_24 rfl ?_
      exact z_retWR O hE (Nat.le_of_ble_eq_true rfl) (Nat.le_of_ble_eq_true rfl) rfl dX11_copy_25 h
    · have ho2 := h.1
      replace h := h.2
      refine z_astore (lv' := [(7, .ref (ad o2)), (6, .null), (0, .ref (ad 0)), (1, .int p1), (2, .int p2), (3, .int p3), (4, .int p4), (5, .int p5)]) O dX11_copy_12 (by decide) rfl ?_
      refine z_aloadN O dX11_copy_14 1 rfl ?_
      refine z_ifnullN O 24 dX11_copy_16 (by decide) ?_
      refine z_iconst (v := -1) O dX11_copy_24 rfl ?_
      exact z_retWR O hE (Nat.le_of_ble_eq_true rfl) (Nat.le_of_ble_eq_true rfl) rfl dX11_copy_25 h
  · have ho1 := h.1
    replace h := h.2
    refine z_astore (lv' := [(6, .ref (ad o1)), (0, .ref (ad 0)), (1, .int p1), (2, .int p2), (3, .int p3), (4, .int p4), (5, .int p5)]) O dX11_copy_5 (by decide) rfl ?_
    refine z_aload_n O dX11_copy_7 1 rfl ?_
    refine z_iload_n O dX11_copy_8 4 rfl ?_
    refine z_callE (gKs D cs) hK (fun _ h => h) (t_X11_shelfAt x  p3 _ h) (zr_V (As := [.int p3]) (rest := []) O hE.1 1 gX11_copy_X11_shelfAt rfl rfl rfl (by decide +kernel) ⟨(Nat.le_of_ble_eq_true rfl), (Nat.le_of_ble_eq_true rfl)⟩ ⟨(Nat.le_of_ble_eq_true rfl), (Nat.le_of_ble_eq_true rfl)⟩ (fun H hH => z_recv hK.1 (hX _ H hH) (by decide) xe_11 rfl) rfl rfl (Nat.le_of_ble_eq_true rfl) dX11_copy_9) (fun h => ?_) (fun o3 h => ?_)
    · skip
      refine z_astoreN (lv' := [(7, .null), (6, .ref (ad o1)), (0, .ref (ad 0)), (1, .int p1), (2, .int p2), (3, .int p3), (4, .int p4), (5, .int p5)]) O dX11_copy_12 (by decide) rfl ?_
      refine z_aload O dX11_copy_14 1 rfl ?_
      refine z_ifnull O dX11_copy_16 ?_
      refine z_aloadN O dX11_copy_19 0 rfl ?_
      refine z_ifnonnullN O dX11_copy_21 ?_
      refine z_iconst (v := -1) O dX11_copy_24 rfl ?_
      exact z_retWR O hE (Nat.le_of_ble_eq_true rfl) (Nat.le_of_ble_eq_true rfl) rfl dX11_copy_25 h
    · have ho3 := h.1
      replace h := h.2
      refine z_astore (lv' := [(7, .ref (ad o3)), (6, .ref (ad o1)), (0, .ref (ad 0)), (1, .int p1), (2, .int p2), (3, .int p3), (4, .int p4), (5, .int p5)]) O dX11_copy_12 (by decide) rfl ?_
      refine z_aload O dX11_copy_14 1 rfl ?_
      refine z_ifnull O dX11_copy_16 ?_
      refine z_aload O dX11_copy_19 0 rfl ?_
      refine z_ifnonnull O 26 dX11_copy_21 (by decide) ?_
      refine z_aload O dX11_copy_26 1 rfl ?_
      refine z_getfN O hK.1 (hX _) (ho1).1 (xe_9 ho1) rfl i9 1 (by decide) (hK.2.1 _ (List.mem_of_getElem? (i := 4) rfl)) rfl dX11_copy_28 ?_
      refine z_if_eq O 42 dX11_copy_31 (by decide) (fun c13 => ?_) (fun c13 => ?_)
      · replace h := h.1 c13
        refine z_bipush (v := -11) O dX11_copy_42 rfl ?_
        exact z_retWR O hE (Nat.le_of_ble_eq_true rfl) (Nat.le_of_ble_eq_true rfl) rfl dX11_copy_44 h
      · replace h := h.2 c13
        refine z_aload O dX11_copy_34 0 rfl ?_
        refine z_getfN O hK.1 (hX _) (ho3).1 (xe_9 ho3) rfl i9 1 (by decide) (hK.2.1 _ (List.mem_of_getElem? (i := 4) rfl)) rfl dX11_copy_36 ?_
        refine z_if_ne O 45 dX11_copy_39 (by decide) (fun c12 => ?_) (fun c12 => ?_)
        · replace h := h.1 c12
          refine z_aload O dX11_copy_45 1 rfl ?_
          refine z_getfN O hK.1 (hX _) (ho1).1 (xe_9 ho1) rfl i9 1 (by decide) (hK.2.1 _ (List.mem_of_getElem? (i := 4) rfl)) rfl dX11_copy_47 ?_
          refine z_iconst (v := 2) O dX11_copy_50 rfl ?_
          refine z_icmp_ne O 76 dX11_copy_51 (by decide) (fun c11 => ?_) (fun c11 => ?_)
          · replace h := h.1 c11
            refine z_bipush (v := -12) O dX11_copy_76 rfl ?_
            exact z_retWR O hE (Nat.le_of_ble_eq_true rfl) (Nat.le_of_ble_eq_true rfl) rfl dX11_copy_78 h
          · replace h := h.2 c11
            refine z_aload O dX11_copy_54 0 rfl ?_
            refine z_getfN O hK.1 (hX _) (ho3).1 (xe_9 ho3) rfl i9 1 (by decide) (hK.2.1 _ (List.mem_of_getElem? (i := 4) rfl)) rfl dX11_copy_56 ?_
            refine z_iconst (v := 2) O dX11_copy_59 rfl ?_
            refine z_icmp_ne O 76 dX11_copy_60 (by decide) (fun c10 => ?_) (fun c10 => ?_)
            · replace h := h.1 c10
              refine z_bipush (v := -12) O dX11_copy_76 rfl ?_
              exact z_retWR O hE (Nat.le_of_ble_eq_true rfl) (Nat.le_of_ble_eq_true rfl) rfl dX11_copy_78 h
            · replace h := h.2 c10
              refine z_aload O dX11_copy_63 1 rfl ?_
              refine z_getfN O hK.1 (hX _) (ho1).1 (xe_9 ho1) rfl i9 4 (by decide) (hK.2.1 _ (List.mem_of_getElem? (i := 7) rfl)) rfl dX11_copy_65 ?_
              refine z_aload O dX11_copy_68 0 rfl ?_
              refine z_getfN O hK.1 (hX _) (ho3).1 (xe_9 ho3) rfl i9 4 (by decide) (hK.2.1 _ (List.mem_of_getElem? (i := 7) rfl)) rfl dX11_copy_70 ?_
              refine z_icmp_eq O 79 dX11_copy_73 (by decide) (fun c9 => ?_) (fun c9 => ?_)
              · replace h := h.1 c9
                refine z_aload O dX11_copy_79 1 rfl ?_
                refine z_iload_n O dX11_copy_81 4 rfl ?_
                refine z_iload O dX11_copy_82 7 rfl ?_
                refine z_callR (gKs D cs) hK (fun _ h => h) (t_X9_hasStretch x o1 ho1 p2 p5 _ h) (zr_V (As := [.int p2, .int p5]) (rest := []) O hE.1 2 gX11_copy_X9_hasStretch rfl rfl rfl (by decide +kernel) ⟨(Nat.le_of_ble_eq_true rfl), (Nat.le_of_ble_eq_true rfl)⟩ ⟨(Nat.le_of_ble_eq_true rfl), (Nat.le_of_ble_eq_true rfl)⟩ (fun H hH => z_recv hK.1 (hX _ H hH) (ho1).1 (xe_9 ho1) rfl) rfl rfl (Nat.le_of_ble_eq_true rfl) dX11_copy_84) (fun r4 h => ?_)
                refine z_if_eq O 102 dX11_copy_87 (by decide) (fun c8 => ?_) (fun c8 => ?_)
                · replace h := h.1 c8
                  refine z_bipush (v := -13) O dX11_copy_102 rfl ?_
                  exact z_retWR O hE (Nat.le_of_ble_eq_true rfl) (Nat.le_of_ble_eq_true rfl) rfl dX11_copy_104 h
                · replace h := h.2 c8
                  refine z_aload O dX11_copy_90 0 rfl ?_
                  refine z_iload O dX11_copy_92 6 rfl ?_
                  refine z_iload O dX11_copy_94 7 rfl ?_
                  refine z_callR (gKs D cs) hK (fun _ h => h) (t_X9_hasStretch x o3 ho3 p4 p5 _ h) (zr_V (As := [.int p4, .int p5]) (rest := []) O hE.1 2 gX11_copy_X9_hasStretch rfl rfl rfl (by decide +kernel) ⟨(Nat.le_of_ble_eq_true rfl), (Nat.le_of_ble_eq_true rfl)⟩ ⟨(Nat.le_of_ble_eq_true rfl), (Nat.le_of_ble_eq_true rfl)⟩ (fun H hH => z_recv hK.1 (hX _ H hH) (ho3).1 (xe_9 ho3) rfl) rfl rfl (Nat.le_of_ble_eq_true rfl) dX11_copy_96) (fun r5 h => ?_)
                  refine z_if_ne O 105 dX11_copy_99 (by decide) (fun c7 => ?_) (fun c7 => ?_)
                  · replace h := h.1 c7
                    refine z_aload O dX11_copy_105 1 rfl ?_
                    refine z_getfN O hK.1 (hX _) (ho1).1 (xe_9 ho1) rfl i9 0 (by decide) (hK.2.1 _ (List.mem_of_getElem? (i := 3) rfl)) rfl dX11_copy_107 ?_
                    refine z_iload_n O dX11_copy_110 4 rfl ?_
                    refine z_aload O dX11_copy_111 0 rfl ?_
                    refine z_getfN O hK.1 (hX _) (ho3).1 (xe_9 ho3) rfl i9 0 (by decide) (hK.2.1 _ (List.mem_of_getElem? (i := 3) rfl)) rfl dX11_copy_113 ?_
                    refine z_iload O dX11_copy_116 6 rfl ?_
                    refine z_iload O dX11_copy_118 7 rfl ?_
                    obtain ⟨hb1, hb2, hb3, hb4, hb5, h⟩ := h
                    obtain ⟨x6, ex6⟩ : ∃ z, z = xA x (o3 + 1) (va_cpy (x.2.1 (o1 + 1)) (x.2.1 (o3 + 1)) (Int32.toNatClampNeg p2) (Int32.toNatClampNeg p4) (Int32.toNatClampNeg p5)) := ⟨_, rfl⟩
                    replace h := h x6 ex6
                    refine z_acopy (x' := x6) O hE.1 hK.1 (hX _) hB hI hA rfl (xk_s ho1).1 (xe_20 (xk_s ho1)) (xk_s ho3).1 (xe_20 (xk_s ho3)) (by decide +kernel) (by decide +kernel) (by decide +kernel) (by decide +kernel) hb1 hb2 hb3 (by rw [(xk_sl ho1)]; exact hb4) (by rw [(xk_sl ho3)]; exact hb5) ⟨(Nat.le_of_ble_eq_true rfl), (Nat.le_of_ble_eq_true rfl)⟩ (by rw [ex6]; exact xe_setA (xk_s ho3) _) dX11_copy_120 ?_
                    refine z_iload O dX11_copy_123 7 rfl ?_
                    exact z_retWR O hE (Nat.le_of_ble_eq_true rfl) (Nat.le_of_ble_eq_true rfl) rfl dX11_copy_125 h
                  · replace h := h.2 c7
                    refine z_bipush (v := -13) O dX11_copy_102 rfl ?_
                    exact z_retWR O hE (Nat.le_of_ble_eq_true rfl) (Nat.le_of_ble_eq_true rfl) rfl dX11_copy_104 h
              · replace h := h.2 c9
                refine z_bipush (v := -12) O dX11_copy_76 rfl ?_
                exact z_retWR O hE (Nat.le_of_ble_eq_true rfl) (Nat.le_of_ble_eq_true rfl) rfl dX11_copy_78 h
        · replace h := h.2 c12
          refine z_bipush (v := -11) O dX11_copy_42 rfl ?_
          exact z_retWR O hE (Nat.le_of_ble_eq_true rfl) (Nat.le_of_ble_eq_true rfl) rfl dX11_copy_44 h
def wp_X11_toll (x : XS)  (p1 : Int32) (Q : Int32 → Prop) : Prop :=
 wp_X11_shelfAt x p1 (fun r : Option Nat => match r with
 | none => Q (-1)
 | some o1 => xk o1 9 ∧
 wp_X9_lacks x o1 1 (fun r2 : Int32 =>
 ((¬ r2 = 0 →
 Q r2) ∧ (r2 = 0 →
 wp_X11_kindOf x (x.1 o1 2) (fun r : Option Nat => match r with
 | none => False
 | some o3 => o3 < 8 ∧
 wv_tollWith o3 (x.1 o1 3) (fun r4 : Int32 =>
 Q r4))))))
set_option maxHeartbeats 4000000 in
set_option maxRecDepth 100000 in
theorem t_X11_toll {l : Launch} {D : va_G} {cs : Nat → ClassId} {ad : Nat → Nat} (x : XS)  (p1 : Int32) (Q : Int32 → Prop) (h : wp_X11_toll x  p1 Q) : zMR l yX11_toll wsX11_toll ({ frames := 3, cells := 0, slots := 0, locals := 63 } : Room) (gK D cs) (XH D cs ad) x [.ref (ad 0), .int p1] Q := by
  refine zMR_of (cc := cX11_toll) (nL := 4) (ret := (some .int)) (by decide +kernel) rfl (Nat.le_of_ble_eq_true rfl) (fun C hl O hE hK hH => ?_)
  subst hl
  have hX : ∀ (x : XS) (H : Heap), z0 (XH D cs ad) C.s.heap x H → va_P D vwCl (wl 161 ad (XE cs ad x)) H := fun _ _ h => h.2
  have i11 : ∀ w ∈ wsX110, w ∈ wsX11_toll := by decide +kernel
  have i9 : ∀ w ∈ wsX90, w ∈ wsX11_toll := by decide +kernel
  refine z_sub (lv' := [(0, .ref (ad 0)), (1, .int p1)]) [0, 1] rfl ?_
  refine z_aload_n O dX11_toll_0 0 rfl ?_
  refine z_iload_n O dX11_toll_1 1 rfl ?_
  refine z_callE (gKs D cs) hK (fun _ h => h.2) (t_X11_shelfAt x  p1 _ h) (zr_V (As := [.int p1]) (rest := []) O hE.1 1 gX11_toll_X11_shelfAt rfl rfl rfl (by decide +kernel) ⟨(Nat.le_of_ble_eq_true rfl), (Nat.le_of_ble_eq_true rfl)⟩ ⟨(Nat.le_of_ble_eq_true rfl), (Nat.le_of_ble_eq_true rfl)⟩ (fun H hH => z_recv hK.1 (hX _ H hH) (by decide) xe_11 rfl) rfl rfl (Nat.le_of_ble_eq_true rfl) dX11_toll_2) (fun h => ?_) (fun o1 h => ?_)
  · skip
    refine z_astore_nN (lv' := [(2, .null), (0, .ref (ad 0)), (1, .int p1)]) O dX11_toll_5 (by decide) rfl ?_
    refine z_aload_nN O dX11_toll_6 0 rfl ?_
    refine z_ifnonnullN O dX11_toll_7 ?_
    refine z_iconst (v := -1) O dX11_toll_10 rfl ?_
    exact z_retR O hE (fun _ h => h.1) rfl dX11_toll_11 h
  · have ho1 := h.1
    replace h := h.2
    refine z_astore_n (lv' := [(2, .ref (ad o1)), (0, .ref (ad 0)), (1, .int p1)]) O dX11_toll_5 (by decide) rfl ?_
    refine z_aload_n O dX11_toll_6 0 rfl ?_
    refine z_ifnonnull O 12 dX11_toll_7 (by decide) ?_
    refine z_aload_n O dX11_toll_12 0 rfl ?_
    refine z_iconst (v := 1) O dX11_toll_13 rfl ?_
    refine z_callR (gKs D cs) hK (fun _ h => h.2) (t_X9_lacks x o1 ho1 1 _ h) (zr_V (As := [.int 1]) (rest := []) O hE.1 1 gX11_toll_X9_lacks rfl rfl rfl (by decide +kernel) ⟨(Nat.le_of_ble_eq_true rfl), (Nat.le_of_ble_eq_true rfl)⟩ ⟨(Nat.le_of_ble_eq_true rfl), (Nat.le_of_ble_eq_true rfl)⟩ (fun H hH => z_recv hK.1 (hX _ H hH) (ho1).1 (xe_9 ho1) rfl) rfl rfl (Nat.le_of_ble_eq_true rfl) dX11_toll_14) (fun r2 h => ?_)
    refine z_istore_n (lv' := [(3, .int r2), (2, .ref (ad o1)), (0, .ref (ad 0)), (1, .int p1)]) O dX11_toll_17 (by decide) rfl ?_
    refine z_iload_n O dX11_toll_18 0 rfl ?_
    refine z_if_ne O 43 dX11_toll_19 (by decide) (fun c5 => ?_) (fun c5 => ?_)
    · replace h := h.1 c5
      refine z_iload_n O dX11_toll_43 0 rfl ?_
      exact z_retR O hE (fun _ h => h.1) rfl dX11_toll_44 h
    · replace h := h.2 c5
      refine z_aload_n O dX11_toll_22 2 rfl ?_
      refine z_getf O hK.1 (hX _) (by decide) xe_11 rfl i11 0 (by decide) (by decide +kernel) rfl dX11_toll_23 ?_
      refine z_aload_n O dX11_toll_26 1 rfl ?_
      refine z_getfN O hK.1 (hX _) (ho1).1 (xe_9 ho1) rfl i9 2 (by decide) (hK.2.1 _ (List.mem_of_getElem? (i := 5) rfl)) rfl dX11_toll_27 ?_
      refine z_callE (gKs D cs) hK (fun _ h => h.2) (t_X11_kindOf x  (x.1 o1 2) _ h) (zr_SS (As := [.ref (ad 1), .int (x.1 o1 2)]) (rest := []) O hE.1 2 gX11_toll_X11_kindOf rfl rfl rfl (by decide +kernel) ⟨(Nat.le_of_ble_eq_true rfl), (Nat.le_of_ble_eq_true rfl)⟩ ⟨(Nat.le_of_ble_eq_true rfl), (Nat.le_of_ble_eq_true rfl)⟩ rfl rfl (Nat.le_of_ble_eq_true rfl) dX11_toll_30) (fun h => False.elim h) (fun o3 h => ?_)
      have ho3 := h.1
      replace h := h.2
      refine z_aload_n O dX11_toll_33 1 rfl ?_
      refine z_getfN O hK.1 (hX _) (ho1).1 (xe_9 ho1) rfl i9 3 (by decide) (hK.2.1 _ (List.mem_of_getElem? (i := 6) rfl)) rfl dX11_toll_34 ?_
      obtain ⟨Qv, hQv⟩ : ∃ Z : Int32 → Prop, Z = (fun r4 : Int32 =>
 Q r4) := ⟨_, rfl⟩
      have h : wv_tollWith o3 (x.1 o1 3) Qv := by rw [hQv]; exact h
      have kv37 : ∀ r4 : Int32, Qv r4 → Z C (fun _ => False) (z0 (XH D cs ad) C.s.heap) 4 x [(3, .int r2), (2, .ref (ad o1)), (0, .ref (ad 0)), (1, .int p1)] 0 0 40 [.int r4] := by
        intro r4 h
        rw [hQv] at h
        refine z_goto O 44 dX11_toll_40 (by decide) ?_
        exact z_retR O hE (fun _ h => h.1) rfl dX11_toll_44 h
      clear hQv
      rcases xl8 ho3 with rfl | rfl | rfl | rfl | rfl | rfl | rfl | rfl
      · exact z_callR (gKs D cs) hK (fun _ h => h.2) (t_X7_tollWith x 0 (by decide) (x.1 o1 3) _ h) (zr_V (As := [.int (x.1 o1 3)]) (rest := []) O hE.1 1 gX11_toll_X7_tollWith rfl rfl rfl (by decide +kernel) ⟨(Nat.le_of_ble_eq_true rfl), (Nat.le_of_ble_eq_true rfl)⟩ ⟨(Nat.le_of_ble_eq_true rfl), (Nat.le_of_ble_eq_true rfl)⟩ (fun H hH => z_recv hK.1 (hX _ H hH) (by decide) (xe_ly (k := 0) (by decide)) rfl) rfl rfl (Nat.le_of_ble_eq_true rfl) dX11_toll_37) kv37
      · exact z_callR (gKs D cs) hK (fun _ h => h.2) (t_X3_tollWith x 1 (by decide) (x.1 o1 3) _ h) (zr_O (As := [.int (x.1 o1 3)]) (rest := []) O hE.1 1 gX11_toll_X3_tollWith_u274X3 rfl rfl rfl (b0 := cX7_tollWith) (m0 := 2) (r0 := (some .int)) (by decide +kernel) (by decide +kernel) ⟨(Nat.le_of_ble_eq_true rfl), (Nat.le_of_ble_eq_true rfl)⟩ ⟨(Nat.le_of_ble_eq_true rfl), (Nat.le_of_ble_eq_true rfl)⟩ (fun H hH => z_recv hK.1 (hX _ H hH) (by decide) (xe_ly (k := 1) (by decide)) rfl) rfl rfl (Nat.le_of_ble_eq_true rfl) dX11_toll_37) kv37
      · exact z_callR (gKs D cs) hK (fun _ h => h.2) (t_X5_tollWith x 2 (by decide) (x.1 o1 3) _ h) (zr_O (As := [.int (x.1 o1 3)]) (rest := []) O hE.1 1 gX11_toll_X5_tollWith_u274X5 rfl rfl rfl (b0 := cX7_tollWith) (m0 := 2) (r0 := (some .int)) (by decide +kernel) (by decide +kernel) ⟨(Nat.le_of_ble_eq_true rfl), (Nat.le_of_ble_eq_true rfl)⟩ ⟨(Nat.le_of_ble_eq_true rfl), (Nat.le_of_ble_eq_true rfl)⟩ (fun H hH => z_recv hK.1 (hX _ H hH) (by decide) (xe_ly (k := 2) (by decide)) rfl) rfl rfl (Nat.le_of_ble_eq_true rfl) dX11_toll_37) kv37
      · exact z_callR (gKs D cs) hK (fun _ h => h.2) (t_X10_tollWith x 3 (by decide) (x.1 o1 3) _ h) (zr_O (As := [.int (x.1 o1 3)]) (rest := []) O hE.1 1 gX11_toll_X10_tollWith_u274X10 rfl rfl rfl (b0 := cX7_tollWith) (m0 := 2) (r0 := (some .int)) (by decide +kernel) (by decide +kernel) ⟨(Nat.le_of_ble_eq_true rfl), (Nat.le_of_ble_eq_true rfl)⟩ ⟨(Nat.le_of_ble_eq_true rfl), (Nat.le_of_ble_eq_true rfl)⟩ (fun H hH => z_recv hK.1 (hX _ H hH) (by decide) (xe_ly (k := 3) (by decide)) rfl) rfl rfl (Nat.le_of_ble_eq_true rfl) dX11_toll_37) kv37
      · exact z_callR (gKs D cs) hK (fun _ h => h.2) (t_X1_tollWith x 4 (by decide) (x.1 o1 3) _ h) (zr_O (As := [.int (x.1 o1 3)]) (rest := []) O hE.1 1 gX11_toll_X1_tollWith_u274X1 rfl rfl rfl (b0 := cX7_tollWith) (m0 := 2) (r0 := (some .int)) (by decide +kernel) (by decide +kernel) ⟨(Nat.le_of_ble_eq_true rfl), (Nat.le_of_ble_eq_true rfl)⟩ ⟨(Nat.le_of_ble_eq_true rfl), (Nat.le_of_ble_eq_true rfl)⟩ (fun H hH => z_recv hK.1 (hX _ H hH) (by decide) (xe_ly (k := 4) (by decide)) rfl) rfl rfl (Nat.le_of_ble_eq_true rfl) dX11_toll_37) kv37
      · exact z_callR (gKs D cs) hK (fun _ h => h.2) (t_X8_tollWith x 5 (by decide) (x.1 o1 3) _ h) (zr_O (As := [.int (x.1 o1 3)]) (rest := []) O hE.1 1 gX11_toll_X8_tollWith_u274X8 rfl rfl rfl (b0 := cX7_tollWith) (m0 := 2) (r0 := (some .int)) (by decide +kernel) (by decide +kernel) ⟨(Nat.le_of_ble_eq_true rfl), (Nat.le_of_ble_eq_true rfl)⟩ ⟨(Nat.le_of_ble_eq_true rfl), (Nat.le_of_ble_eq_true rfl)⟩ (fun H hH => z_recv hK.1 (hX _ H hH) (by decide) (xe_ly (k := 5) (by decide)) rfl) rfl rfl (Nat.le_of_ble_eq_true rfl) dX11_toll_37) kv37
      · exact z_callR (gKs D cs) hK (fun _ h => h.2) (t_X0_tollWith x 6 (by decide) (x.1 o1 3) _ h) (zr_O (As := [.int (x.1 o1 3)]) (rest := []) O hE.1 1 gX11_toll_X0_tollWith_u274X0 rfl rfl rfl (b0 := cX7_tollWith) (m0 := 2) (r0 := (some .int)) (by decide +kernel) (by decide +kernel) ⟨(Nat.le_of_ble_eq_true rfl), (Nat.le_of_ble_eq_true rfl)⟩ ⟨(Nat.le_of_ble_eq_true rfl), (Nat.le_of_ble_eq_true rfl)⟩ (fun H hH => z_recv hK.1 (hX _ H hH) (by decide) (xe_ly (k := 6) (by decide)) rfl) rfl rfl (Nat.le_of_ble_eq_true rfl) dX11_toll_37) kv37
      · exact z_callR (gKs D cs) hK (fun _ h => h.2) (t_X4_tollWith x 7 (by decide) (x.1 o1 3) _ h) (zr_O (As := [.int (x.1 o1 3)]) (rest := []) O hE.1 1 gX11_toll_X4_tollWith_u274X4 rfl rfl rfl (b0 := cX7_tollWith) (m0 := 2) (r0 := (some .int)) (by decide +kernel) (by decide +kernel) ⟨(Nat.le_of_ble_eq_true rfl), (Nat.le_of_ble_eq_true rfl)⟩ ⟨(Nat.le_of_ble_eq_true rfl), (Nat.le_of_ble_eq_true rfl)⟩ (fun H hH => z_recv hK.1 (hX _ H hH) (by decide) (xe_ly (k := 7) (by decide)) rfl) rfl rfl (Nat.le_of_ble_eq_true rfl) dX11_toll_37) kv37
