def eNX2 : va_E := .inr (2, [.null, .null, .null, .null, .null, .null, .int 0])
def eCX2 (cs : Nat → ClassId) (u : Nat → Nat) (i : Nat) : va_E := if i = 0 then .inr (2, [.ref (u 1), .ref (u 2), .ref (u 3), .ref (u 4), .ref (u 5), .ref (u 6), .int 0]) else .inl (cs 0, 8, .inl (fun _ => 0))
set_option maxHeartbeats 8000000 in
set_option maxRecDepth 100000 in
theorem t_X2_init {l : Launch} {D : va_G} {cs : Nat → ClassId} : zCV l yX2_init wsX2_init ({ frames := 1, cells := 6, slots := 48, locals := 12 } : Room) (gK D cs) D eNX2 7 (eCX2 cs) 6 48 [] := by
  refine zCV_of (cc := cX2_init) (nL := 1) (by decide +kernel) rfl (fun _ => (Nat.le_of_ble_eq_true rfl)) (fun a C hl O hnm ha hE hK => ?_)
  subst hl
  have hnm : C.2.2.2.2.2.2.2.2.1.name = "<init>" := hnm
  have hA : ∀ q, C.s.heap.size ≤ q → zA (fun q => q = a) C.s.heap.size q := fun q h => Or.inr h
  have hG : GI (zA (fun q => q = a) C.s.heap.size) (1, fun _ => a, fun _ => eNX2) := ⟨fun i j hi hj _ => by have : i < 1 := hi; have : j < 1 := hj; omega, fun q hq => by obtain ⟨i, _, e⟩ := hq; exact Or.inl e⟩
  have ii : ∀ w ∈ wsX20, w ∈ wsX2_init := by decide +kernel
  refine z_sub (lv' := [(0, .ref a)]) [0] rfl ?_
  refine z_aload_n O dX2_init_0 0 rfl ?_
  refine z_objInit O hE.1 (by decide +kernel) (by decide +kernel) (by decide +kernel) ⟨(Nat.le_of_ble_eq_true rfl), (Nat.le_of_ble_eq_true rfl)⟩ dX2_init_1 ?_
  refine z_aload_n O dX2_init_4 0 rfl ?_
  refine z_bipush (v := 8) O dX2_init_5 rfl ?_
  refine z_newA O hE.1 hK.1 hA hG (kg := 1) rfl .int .int rfl (by decide +kernel) 0 rfl h_pI (8, .inl (fun _ => 0)) (h_aI 8) (by decide) rfl (by decide) ⟨(Nat.le_of_ble_eq_true rfl), (Nat.le_of_ble_eq_true rfl)⟩ dX2_init_7 (fun q1 hG => ?_)
  refine z_putF O hnm hK.1 hG (i := 0) (Nat.le_of_ble_eq_true rfl) rfl rfl ii tyX2 tyX2_ok nmX2 0 (by decide) (by decide +kernel) rfl rfl (ty := .array .int) rfl rfl rfl (Nat.le_of_ble_eq_true rfl) [.ref q1, .null, .null, .null, .null, .null, .int 0] rfl rfl dX2_init_9 (fun hG => ?_)
  refine z_aload_n O dX2_init_12 0 rfl ?_
  refine z_bipush (v := 8) O dX2_init_13 rfl ?_
  refine z_newA O hE.1 hK.1 hA hG (kg := 2) rfl .int .int rfl (by decide +kernel) 0 rfl h_pI (8, .inl (fun _ => 0)) (h_aI 8) (by decide) rfl (by decide) ⟨(Nat.le_of_ble_eq_true rfl), (Nat.le_of_ble_eq_true rfl)⟩ dX2_init_15 (fun q2 hG => ?_)
  refine z_putF O hnm hK.1 hG (i := 0) (Nat.le_of_ble_eq_true rfl) rfl rfl ii tyX2 tyX2_ok nmX2 1 (by decide) (by decide +kernel) rfl rfl (ty := .array .int) rfl rfl rfl (Nat.le_of_ble_eq_true rfl) [.ref q1, .ref q2, .null, .null, .null, .null, .int 0] rfl rfl dX2_init_17 (fun hG => ?_)
  refine z_aload_n O dX2_init_20 0 rfl ?_
  refine z_bipush (v := 8) O dX2_init_21 rfl ?_
  refine z_newA O hE.1 hK.1 hA hG (kg := 3) rfl .int .int rfl (by decide +kernel) 0 rfl h_pI (8, .inl (fun _ => 0)) (h_aI 8) (by decide) rfl (by decide) ⟨(Nat.le_of_ble_eq_true rfl), (Nat.le_of_ble_eq_true rfl)⟩ dX2_init_23 (fun q3 hG => ?_)
  refine z_putF O hnm hK.1 hG (i := 0) (Nat.le_of_ble_eq_true rfl) rfl rfl ii tyX2 tyX2_ok nmX2 2 (by decide) (by decide +kernel) rfl rfl (ty := .array .int) rfl rfl rfl (Nat.le_of_ble_eq_true rfl) [.ref q1, .ref q2, .ref q3, .null, .null, .null, .int 0] rfl rfl dX2_init_25 (fun hG => ?_)
  refine z_aload_n O dX2_init_28 0 rfl ?_
  refine z_bipush (v := 8) O dX2_init_29 rfl ?_
  refine z_newA O hE.1 hK.1 hA hG (kg := 4) rfl .int .int rfl (by decide +kernel) 0 rfl h_pI (8, .inl (fun _ => 0)) (h_aI 8) (by decide) rfl (by decide) ⟨(Nat.le_of_ble_eq_true rfl), (Nat.le_of_ble_eq_true rfl)⟩ dX2_init_31 (fun q4 hG => ?_)
  refine z_putF O hnm hK.1 hG (i := 0) (Nat.le_of_ble_eq_true rfl) rfl rfl ii tyX2 tyX2_ok nmX2 3 (by decide) (by decide +kernel) rfl rfl (ty := .array .int) rfl rfl rfl (Nat.le_of_ble_eq_true rfl) [.ref q1, .ref q2, .ref q3, .ref q4, .null, .null, .int 0] rfl rfl dX2_init_33 (fun hG => ?_)
  refine z_aload_n O dX2_init_36 0 rfl ?_
  refine z_bipush (v := 8) O dX2_init_37 rfl ?_
  refine z_newA O hE.1 hK.1 hA hG (kg := 5) rfl .int .int rfl (by decide +kernel) 0 rfl h_pI (8, .inl (fun _ => 0)) (h_aI 8) (by decide) rfl (by decide) ⟨(Nat.le_of_ble_eq_true rfl), (Nat.le_of_ble_eq_true rfl)⟩ dX2_init_39 (fun q5 hG => ?_)
  refine z_putF O hnm hK.1 hG (i := 0) (Nat.le_of_ble_eq_true rfl) rfl rfl ii tyX2 tyX2_ok nmX2 4 (by decide) (by decide +kernel) rfl rfl (ty := .array .int) rfl rfl rfl (Nat.le_of_ble_eq_true rfl) [.ref q1, .ref q2, .ref q3, .ref q4, .ref q5, .null, .int 0] rfl rfl dX2_init_41 (fun hG => ?_)
  refine z_aload_n O dX2_init_44 0 rfl ?_
  refine z_bipush (v := 8) O dX2_init_45 rfl ?_
  refine z_newA O hE.1 hK.1 hA hG (kg := 6) rfl .int .int rfl (by decide +kernel) 0 rfl h_pI (8, .inl (fun _ => 0)) (h_aI 8) (by decide) rfl (by decide) ⟨(Nat.le_of_ble_eq_true rfl), (Nat.le_of_ble_eq_true rfl)⟩ dX2_init_47 (fun q6 hG => ?_)
  refine z_putF O hnm hK.1 hG (i := 0) (Nat.le_of_ble_eq_true rfl) rfl rfl ii tyX2 tyX2_ok nmX2 5 (by decide) (by decide +kernel) rfl rfl (ty := .array .int) rfl rfl rfl (Nat.le_of_ble_eq_true rfl) [.ref q1, .ref q2, .ref q3, .ref q4, .ref q5, .ref q6, .int 0] rfl rfl dX2_init_49 (fun hG => ?_)
  exact z_retC O hE (Nat.le_of_ble_eq_true rfl) (Nat.le_of_ble_eq_true rfl) hG rfl rfl (by decide) (fun i hi => by
    rcases (show i = 0 ∨ i = 1 ∨ i = 2 ∨ i = 3 ∨ i = 4 ∨ i = 5 ∨ i = 6 by omega) with rfl | rfl | rfl | rfl | rfl | rfl | rfl <;> rfl) dX2_init_52
def eNX9 : va_E := .inr (9, [.null, .int 0, .int 0, .int 0, .int 0, .int 0])
def eCX9 (cs : Nat → ClassId) (u : Nat → Nat) (i : Nat) : va_E := if i = 0 then .inr (9, [.ref (u 1), .int 0, .int 0, .int 0, .int 0, .int 0]) else .inl (cs 0, 100, .inl (fun _ => 0))
set_option maxHeartbeats 8000000 in
set_option maxRecDepth 100000 in
theorem t_X9_init {l : Launch} {D : va_G} {cs : Nat → ClassId} : zCV l yX9_init wsX9_init ({ frames := 1, cells := 1, slots := 100, locals := 12 } : Room) (gK D cs) D eNX9 2 (eCX9 cs) 1 100 [] := by
  refine zCV_of (cc := cX9_init) (nL := 1) (by decide +kernel) rfl (fun _ => (Nat.le_of_ble_eq_true rfl)) (fun a C hl O hnm ha hE hK => ?_)
  subst hl
  have hnm : C.2.2.2.2.2.2.2.2.1.name = "<init>" := hnm
  have hA : ∀ q, C.s.heap.size ≤ q → zA (fun q => q = a) C.s.heap.size q := fun q h => Or.inr h
  have hG : GI (zA (fun q => q = a) C.s.heap.size) (1, fun _ => a, fun _ => eNX9) := ⟨fun i j hi hj _ => by have : i < 1 := hi; have : j < 1 := hj; omega, fun q hq => by obtain ⟨i, _, e⟩ := hq; exact Or.inl e⟩
  have ii : ∀ w ∈ wsX90, w ∈ wsX9_init := by decide +kernel
  refine z_sub (lv' := [(0, .ref a)]) [0] rfl ?_
  refine z_aload_n O dX9_init_0 0 rfl ?_
  refine z_objInit O hE.1 (by decide +kernel) (by decide +kernel) (by decide +kernel) ⟨(Nat.le_of_ble_eq_true rfl), (Nat.le_of_ble_eq_true rfl)⟩ dX9_init_1 ?_
  refine z_aload_n O dX9_init_4 0 rfl ?_
  refine z_bipush (v := 100) O dX9_init_5 rfl ?_
  refine z_newA O hE.1 hK.1 hA hG (kg := 1) rfl .int .int rfl (by decide +kernel) 0 rfl h_pI (100, .inl (fun _ => 0)) (h_aI 100) (by decide) rfl (by decide) ⟨(Nat.le_of_ble_eq_true rfl), (Nat.le_of_ble_eq_true rfl)⟩ dX9_init_7 (fun q1 hG => ?_)
  refine z_putF O hnm hK.1 hG (i := 0) (Nat.le_of_ble_eq_true rfl) rfl rfl ii tyX9 tyX9_ok nmX9 0 (by decide) (by decide +kernel) rfl rfl (ty := .array .int) rfl rfl rfl (Nat.le_of_ble_eq_true rfl) [.ref q1, .int 0, .int 0, .int 0, .int 0, .int 0] rfl rfl dX9_init_9 (fun hG => ?_)
  exact z_retC O hE (Nat.le_of_ble_eq_true rfl) (Nat.le_of_ble_eq_true rfl) hG rfl rfl (by decide) (fun i hi => by
    rcases (show i = 0 ∨ i = 1 by omega) with rfl | rfl <;> rfl) dX9_init_12
