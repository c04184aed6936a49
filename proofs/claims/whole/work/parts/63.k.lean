def m0 : MS := (fun _ => 0, fun _ _ => 0, fun _ _ => 0, none)
def eNX12 : va_E := .inr (12, [.int 0, .null, .null, .null, .null, .null, .int 0, .null, .null, .int 0, .int 0, .int 0, .null, .int 0, .int 0, .int 0, .int 0, .int 0, .null, .null, .null, .int 0, .null, .null, .null, .null, .null, .null, .null])
def eCX12 (cs : Nat → ClassId) (u : Nat → Nat) (i : Nat) : va_E := ME cs u m0 i
set_option maxHeartbeats 8000000 in
set_option maxRecDepth 100000 in
theorem t_X12_init {l : Launch} {D : va_G} {cs : Nat → ClassId} : zCV l yX12_init wsX12_init ({ frames := 1, cells := 17, slots := 1842, locals := 12 } : Room) (gK D cs) D eNX12 18 (eCX12 cs) 17 1842 [] := by
  refine zCV_of (cc := cX12_init) (nL := 1) (by decide +kernel) rfl (fun _ => (Nat.le_of_ble_eq_true rfl)) (fun a C hl O hnm ha hE hK => ?_)
  subst hl
  have hnm : C.2.2.2.2.2.2.2.2.1.name = "<init>" := hnm
  have hA : ∀ q, C.s.heap.size ≤ q → zA (fun q => q = a) C.s.heap.size q := fun q h => Or.inr h
  have hG : GI (zA (fun q => q = a) C.s.heap.size) (1, fun _ => a, fun _ => eNX12) := ⟨fun i j hi hj _ => by have : i < 1 := hi; have : j < 1 := hj; omega, fun q hq => by obtain ⟨i, _, e⟩ := hq; exact Or.inl e⟩
  have ii : ∀ w ∈ wsX120, w ∈ wsX12_init := by decide +kernel
  refine z_sub (lv' := [(0, .ref a)]) [0] rfl ?_
  refine z_aload_n O dX12_init_0 0 rfl ?_
  refine z_objInit O hE.1 (by decide +kernel) (by decide +kernel) (by decide +kernel) ⟨(Nat.le_of_ble_eq_true rfl), (Nat.le_of_ble_eq_true rfl)⟩ dX12_init_1 ?_
  refine z_aload_n O dX12_init_4 0 rfl ?_
  refine z_bipush (v := 6) O dX12_init_5 rfl ?_
  refine z_newA O hE.1 hK.1 hA hG (kg := 1) rfl .int .int rfl (by decide +kernel) 0 rfl h_pI (6, .inl (fun _ => 0)) (h_aI 6) (by decide) rfl (by decide) ⟨(Nat.le_of_ble_eq_true rfl), (Nat.le_of_ble_eq_true rfl)⟩ dX12_init_7 (fun q1 hG => ?_)
  refine z_putF O hnm hK.1 hG (i := 0) (Nat.le_of_ble_eq_true rfl) rfl rfl ii tyX12 tyX12_ok nmX12 1 (by decide) (by decide +kernel) rfl rfl (ty := .array .int) rfl rfl rfl (Nat.le_of_ble_eq_true rfl) [.int 0, .ref q1, .null, .null, .null, .null, .int 0, .null, .null, .int 0, .int 0, .int 0, .null, .int 0, .int 0, .int 0, .int 0, .int 0, .null, .null, .null, .int 0, .null, .null, .null, .null, .null, .null, .null] rfl rfl dX12_init_9 (fun hG => ?_)
  refine z_aload_n O dX12_init_12 0 rfl ?_
  refine z_bipush (v := 48) O dX12_init_13 rfl ?_
  refine z_newA O hE.1 hK.1 hA hG (kg := 2) rfl .int .int rfl (by decide +kernel) 0 rfl h_pI (48, .inl (fun _ => 0)) (h_aI 48) (by decide) rfl (by decide) ⟨(Nat.le_of_ble_eq_true rfl), (Nat.le_of_ble_eq_true rfl)⟩ dX12_init_15 (fun q2 hG => ?_)
  refine z_putF O hnm hK.1 hG (i := 0) (Nat.le_of_ble_eq_true rfl) rfl rfl ii tyX12 tyX12_ok nmX12 2 (by decide) (by decide +kernel) rfl rfl (ty := .array .int) rfl rfl rfl (Nat.le_of_ble_eq_true rfl) [.int 0, .ref q1, .ref q2, .null, .null, .null, .int 0, .null, .null, .int 0, .int 0, .int 0, .null, .int 0, .int 0, .int 0, .int 0, .int 0, .null, .null, .null, .int 0, .null, .null, .null, .null, .null, .null, .null] rfl rfl dX12_init_17 (fun hG => ?_)
  refine z_aload_n O dX12_init_20 0 rfl ?_
  refine z_bipush (v := 48) O dX12_init_21 rfl ?_
  refine z_newA O hE.1 hK.1 hA hG (kg := 3) rfl .int .int rfl (by decide +kernel) 0 rfl h_pI (48, .inl (fun _ => 0)) (h_aI 48) (by decide) rfl (by decide) ⟨(Nat.le_of_ble_eq_true rfl), (Nat.le_of_ble_eq_true rfl)⟩ dX12_init_23 (fun q3 hG => ?_)
  refine z_putF O hnm hK.1 hG (i := 0) (Nat.le_of_ble_eq_true rfl) rfl rfl ii tyX12 tyX12_ok nmX12 3 (by decide) (by decide +kernel) rfl rfl (ty := .array .int) rfl rfl rfl (Nat.le_of_ble_eq_true rfl) [.int 0, .ref q1, .ref q2, .ref q3, .null, .null, .int 0, .null, .null, .int 0, .int 0, .int 0, .null, .int 0, .int 0, .int 0, .int 0, .int 0, .null, .null, .null, .int 0, .null, .null, .null, .null, .null, .null, .null] rfl rfl dX12_init_25 (fun hG => ?_)
  refine z_aload_n O dX12_init_28 0 rfl ?_
  refine z_bipush (v := 48) O dX12_init_29 rfl ?_
  refine z_newA O hE.1 hK.1 hA hG (kg := 4) rfl .int .int rfl (by decide +kernel) 0 rfl h_pI (48, .inl (fun _ => 0)) (h_aI 48) (by decide) rfl (by decide) ⟨(Nat.le_of_ble_eq_true rfl), (Nat.le_of_ble_eq_true rfl)⟩ dX12_init_31 (fun q4 hG => ?_)
  refine z_putF O hnm hK.1 hG (i := 0) (Nat.le_of_ble_eq_true rfl) rfl rfl ii tyX12 tyX12_ok nmX12 4 (by decide) (by decide +kernel) rfl rfl (ty := .array .int) rfl rfl rfl (Nat.le_of_ble_eq_true rfl) [.int 0, .ref q1, .ref q2, .ref q3, .ref q4, .null, .int 0, .null, .null, .int 0, .int 0, .int 0, .null, .int 0, .int 0, .int 0, .int 0, .int 0, .null, .null, .null, .int 0, .null, .null, .null, .null, .null, .null, .null] rfl rfl dX12_init_33 (fun hG => ?_)
  refine z_aload_n O dX12_init_36 0 rfl ?_
  refine z_bipush (v := 48) O dX12_init_37 rfl ?_
  refine z_newA O hE.1 hK.1 hA hG (kg := 5) rfl .int .int rfl (by decide +kernel) 0 rfl h_pI (48, .inl (fun _ => 0)) (h_aI 48) (by decide) rfl (by decide) ⟨(Nat.le_of_ble_eq_true rfl), (Nat.le_of_ble_eq_true rfl)⟩ dX12_init_39 (fun q5 hG => ?_)
  refine z_putF O hnm hK.1 hG (i := 0) (Nat.le_of_ble_eq_true rfl) rfl rfl ii tyX12 tyX12_ok nmX12 5 (by decide) (by decide +kernel) rfl rfl (ty := .array .int) rfl rfl rfl (Nat.le_of_ble_eq_true rfl) [.int 0, .ref q1, .ref q2, .ref q3, .ref q4, .ref q5, .int 0, .null, .null, .int 0, .int 0, .int 0, .null, .int 0, .int 0, .int 0, .int 0, .int 0, .null, .null, .null, .int 0, .null, .null, .null, .null, .null, .null, .null] rfl rfl dX12_init_41 (fun hG => ?_)
  refine z_aload_n O dX12_init_44 0 rfl ?_
  refine z_sipush (v := 199) O dX12_init_45 rfl ?_
  refine z_newA O hE.1 hK.1 hA hG (kg := 6) rfl .int .int rfl (by decide +kernel) 0 rfl h_pI (199, .inl (fun _ => 0)) (h_aI 199) (by decide) rfl (by decide) ⟨(Nat.le_of_ble_eq_true rfl), (Nat.le_of_ble_eq_true rfl)⟩ dX12_init_48 (fun q6 hG => ?_)
  refine z_putF O hnm hK.1 hG (i := 0) (Nat.le_of_ble_eq_true rfl) rfl rfl ii tyX12 tyX12_ok nmX12 7 (by decide) (by decide +kernel) rfl rfl (ty := .array .int) rfl rfl rfl (Nat.le_of_ble_eq_true rfl) [.int 0, .ref q1, .ref q2, .ref q3, .ref q4, .ref q5, .int 0, .ref q6, .null, .int 0, .int 0, .int 0, .null, .int 0, .int 0, .int 0, .int 0, .int 0, .null, .null, .null, .int 0, .null, .null, .null, .null, .null, .null, .null] rfl rfl dX12_init_50 (fun hG => ?_)
  refine z_aload_n O dX12_init_53 0 rfl ?_
  refine z_sipush (v := 199) O dX12_init_54 rfl ?_
  refine z_newA O hE.1 hK.1 hA hG (kg := 7) rfl .int .int rfl (by decide +kernel) 0 rfl h_pI (199, .inl (fun _ => 0)) (h_aI 199) (by decide) rfl (by decide) ⟨(Nat.le_of_ble_eq_true rfl), (Nat.le_of_ble_eq_true rfl)⟩ dX12_init_57 (fun q7 hG => ?_)
  refine z_putF O hnm hK.1 hG (i := 0) (Nat.le_of_ble_eq_true rfl) rfl rfl ii tyX12 tyX12_ok nmX12 8 (by decide) (by decide +kernel) rfl rfl (ty := .array .int) rfl rfl rfl (Nat.le_of_ble_eq_true rfl) [.int 0, .ref q1, .ref q2, .ref q3, .ref q4, .ref q5, .int 0, .ref q6, .ref q7, .int 0, .int 0, .int 0, .null, .int 0, .int 0, .int 0, .int 0, .int 0, .null, .null, .null, .int 0, .null, .null, .null, .null, .null, .null, .null] rfl rfl dX12_init_59 (fun hG => ?_)
  refine z_aload_n O dX12_init_62 0 rfl ?_
  refine z_bipush (v := 51) O dX12_init_63 rfl ?_
  refine z_newA O hE.1 hK.1 hA hG (kg := 8) rfl .int .int rfl (by decide +kernel) 0 rfl h_pI (51, .inl (fun _ => 0)) (h_aI 51) (by decide) rfl (by decide) ⟨(Nat.le_of_ble_eq_true rfl), (Nat.le_of_ble_eq_true rfl)⟩ dX12_init_65 (fun q8 hG => ?_)
  refine z_putF O hnm hK.1 hG (i := 0) (Nat.le_of_ble_eq_true rfl) rfl rfl ii tyX12 tyX12_ok nmX12 18 (by decide) (by decide +kernel) rfl rfl (ty := .array .int) rfl rfl rfl (Nat.le_of_ble_eq_true rfl) [.int 0, .ref q1, .ref q2, .ref q3, .ref q4, .ref q5, .int 0, .ref q6, .ref q7, .int 0, .int 0, .int 0, .null, .int 0, .int 0, .int 0, .int 0, .int 0, .ref q8, .null, .null, .int 0, .null, .null, .null, .null, .null, .null, .null] rfl rfl dX12_init_67 (fun hG => ?_)
  refine z_aload_n O dX12_init_70 0 rfl ?_
  refine z_bipush (v := 51) O dX12_init_71 rfl ?_
  refine z_newA O hE.1 hK.1 hA hG (kg := 9) rfl .int .int rfl (by decide +kernel) 0 rfl h_pI (51, .inl (fun _ => 0)) (h_aI 51) (by decide) rfl (by decide) ⟨(Nat.le_of_ble_eq_true rfl), (Nat.le_of_ble_eq_true rfl)⟩ dX12_init_73 (fun q9 hG => ?_)
  refine z_putF O hnm hK.1 hG (i := 0) (Nat.le_of_ble_eq_true rfl) rfl rfl ii tyX12 tyX12_ok nmX12 19 (by decide) (by decide +kernel) rfl rfl (ty := .array .int) rfl rfl rfl (Nat.le_of_ble_eq_true rfl) [.int 0, .ref q1, .ref q2, .ref q3, .ref q4, .ref q5, .int 0, .ref q6, .ref q7, .int 0, .int 0, .int 0, .null, .int 0, .int 0, .int 0, .int 0, .int 0, .ref q8, .ref q9, .null, .int 0, .null, .null, .null, .null, .null, .null, .null] rfl rfl dX12_init_75 (fun hG => ?_)
  refine z_aload_n O dX12_init_78 0 rfl ?_
  refine z_sipush (v := 204) O dX12_init_79 rfl ?_
  refine z_newA O hE.1 hK.1 hA hG (kg := 10) rfl .int .int rfl (by decide +kernel) 0 rfl h_pI (204, .inl (fun _ => 0)) (h_aI 204) (by decide) rfl (by decide) ⟨(Nat.le_of_ble_eq_true rfl), (Nat.le_of_ble_eq_true rfl)⟩ dX12_init_82 (fun q10 hG => ?_)
  refine z_putF O hnm hK.1 hG (i := 0) (Nat.le_of_ble_eq_true rfl) rfl rfl ii tyX12 tyX12_ok nmX12 20 (by decide) (by decide +kernel) rfl rfl (ty := .array .int) rfl rfl rfl (Nat.le_of_ble_eq_true rfl) [.int 0, .ref q1, .ref q2, .ref q3, .ref q4, .ref q5, .int 0, .ref q6, .ref q7, .int 0, .int 0, .int 0, .null, .int 0, .int 0, .int 0, .int 0, .int 0, .ref q8, .ref q9, .ref q10, .int 0, .null, .null, .null, .null, .null, .null, .null] rfl rfl dX12_init_84 (fun hG => ?_)
  refine z_aload_n O dX12_init_87 0 rfl ?_
  refine z_bipush (v := 8) O dX12_init_88 rfl ?_
  refine z_newA O hE.1 hK.1 hA hG (kg := 11) rfl .int .int rfl (by decide +kernel) 0 rfl h_pI (8, .inl (fun _ => 0)) (h_aI 8) (by decide) rfl (by decide) ⟨(Nat.le_of_ble_eq_true rfl), (Nat.le_of_ble_eq_true rfl)⟩ dX12_init_90 (fun q11 hG => ?_)
  refine z_putF O hnm hK.1 hG (i := 0) (Nat.le_of_ble_eq_true rfl) rfl rfl ii tyX12 tyX12_ok nmX12 22 (by decide) (by decide +kernel) rfl rfl (ty := .array .int) rfl rfl rfl (Nat.le_of_ble_eq_true rfl) [.int 0, .ref q1, .ref q2, .ref q3, .ref q4, .ref q5, .int 0, .ref q6, .ref q7, .int 0, .int 0, .int 0, .null, .int 0, .int 0, .int 0, .int 0, .int 0, .ref q8, .ref q9, .ref q10, .int 0, .ref q11, .null, .null, .null, .null, .null, .null] rfl rfl dX12_init_92 (fun hG => ?_)
  refine z_aload_n O dX12_init_95 0 rfl ?_
  refine z_bipush (v := 8) O dX12_init_96 rfl ?_
  refine z_newA O hE.1 hK.1 hA hG (kg := 12) rfl .int .int rfl (by decide +kernel) 0 rfl h_pI (8, .inl (fun _ => 0)) (h_aI 8) (by decide) rfl (by decide) ⟨(Nat.le_of_ble_eq_true rfl), (Nat.le_of_ble_eq_true rfl)⟩ dX12_init_98 (fun q12 hG => ?_)
  refine z_putF O hnm hK.1 hG (i := 0) (Nat.le_of_ble_eq_true rfl) rfl rfl ii tyX12 tyX12_ok nmX12 23 (by decide) (by decide +kernel) rfl rfl (ty := .array .int) rfl rfl rfl (Nat.le_of_ble_eq_true rfl) [.int 0, .ref q1, .ref q2, .ref q3, .ref q4, .ref q5, .int 0, .ref q6, .ref q7, .int 0, .int 0, .int 0, .null, .int 0, .int 0, .int 0, .int 0, .int 0, .ref q8, .ref q9, .ref q10, .int 0, .ref q11, .ref q12, .null, .null, .null, .null, .null] rfl rfl dX12_init_100 (fun hG => ?_)
  refine z_aload_n O dX12_init_103 0 rfl ?_
  refine z_bipush (v := 8) O dX12_init_104 rfl ?_
  refine z_newA O hE.1 hK.1 hA hG (kg := 13) rfl .int .int rfl (by decide +kernel) 0 rfl h_pI (8, .inl (fun _ => 0)) (h_aI 8) (by decide) rfl (by decide) ⟨(Nat.le_of_ble_eq_true rfl), (Nat.le_of_ble_eq_true rfl)⟩ dX12_init_106 (fun q13 hG => ?_)
  refine z_putF O hnm hK.1 hG (i := 0) (Nat.le_of_ble_eq_true rfl) rfl rfl ii tyX12 tyX12_ok nmX12 24 (by decide) (by decide +kernel) rfl rfl (ty := .array .int) rfl rfl rfl (Nat.le_of_ble_eq_true rfl) [.int 0, .ref q1, .ref q2, .ref q3, .ref q4, .ref q5, .int 0, .ref q6, .ref q7, .int 0, .int 0, .int 0, .null, .int 0, .int 0, .int 0, .int 0, .int 0, .ref q8, .ref q9, .ref q10, .int 0, .ref q11, .ref q12, .ref q13, .null, .null, .null, .null] rfl rfl dX12_init_108 (fun hG => ?_)
  refine z_aload_n O dX12_init_111 0 rfl ?_
  refine z_bipush (v := 8) O dX12_init_112 rfl ?_
  refine z_newA O hE.1 hK.1 hA hG (kg := 14) rfl .int .int rfl (by decide +kernel) 0 rfl h_pI (8, .inl (fun _ => 0)) (h_aI 8) (by decide) rfl (by decide) ⟨(Nat.le_of_ble_eq_true rfl), (Nat.le_of_ble_eq_true rfl)⟩ dX12_init_114 (fun q14 hG => ?_)
  refine z_putF O hnm hK.1 hG (i := 0) (Nat.le_of_ble_eq_true rfl) rfl rfl ii tyX12 tyX12_ok nmX12 25 (by decide) (by decide +kernel) rfl rfl (ty := .array .int) rfl rfl rfl (Nat.le_of_ble_eq_true rfl) [.int 0, .ref q1, .ref q2, .ref q3, .ref q4, .ref q5, .int 0, .ref q6, .ref q7, .int 0, .int 0, .int 0, .null, .int 0, .int 0, .int 0, .int 0, .int 0, .ref q8, .ref q9, .ref q10, .int 0, .ref q11, .ref q12, .ref q13, .ref q14, .null, .null, .null] rfl rfl dX12_init_116 (fun hG => ?_)
  refine z_aload_n O dX12_init_119 0 rfl ?_
  refine z_bipush (v := 8) O dX12_init_120 rfl ?_
  refine z_newA O hE.1 hK.1 hA hG (kg := 15) rfl .int .int rfl (by decide +kernel) 0 rfl h_pI (8, .inl (fun _ => 0)) (h_aI 8) (by decide) rfl (by decide) ⟨(Nat.le_of_ble_eq_true rfl), (Nat.le_of_ble_eq_true rfl)⟩ dX12_init_122 (fun q15 hG => ?_)
  refine z_putF O hnm hK.1 hG (i := 0) (Nat.le_of_ble_eq_true rfl) rfl rfl ii tyX12 tyX12_ok nmX12 26 (by decide) (by decide +kernel) rfl rfl (ty := .array .int) rfl rfl rfl (Nat.le_of_ble_eq_true rfl) [.int 0, .ref q1, .ref q2, .ref q3, .ref q4, .ref q5, .int 0, .ref q6, .ref q7, .int 0, .int 0, .int 0, .null, .int 0, .int 0, .int 0, .int 0, .int 0, .ref q8, .ref q9, .ref q10, .int 0, .ref q11, .ref q12, .ref q13, .ref q14, .ref q15, .null, .null] rfl rfl dX12_init_124 (fun hG => ?_)
  refine z_aload_n O dX12_init_127 0 rfl ?_
  refine z_sipush (v := 800) O dX12_init_128 rfl ?_
  refine z_newA O hE.1 hK.1 hA hG (kg := 16) rfl .long .long rfl (by decide +kernel) 4 rfl h_pJ (800, .inr (.inl (fun _ => 0))) (h_aJ 800) (by decide) rfl (by decide) ⟨(Nat.le_of_ble_eq_true rfl), (Nat.le_of_ble_eq_true rfl)⟩ dX12_init_131 (fun q16 hG => ?_)
  refine z_putF O hnm hK.1 hG (i := 0) (Nat.le_of_ble_eq_true rfl) rfl rfl ii tyX12 tyX12_ok nmX12 27 (by decide) (by decide +kernel) rfl rfl (ty := .array .long) rfl rfl rfl (Nat.le_of_ble_eq_true rfl) [.int 0, .ref q1, .ref q2, .ref q3, .ref q4, .ref q5, .int 0, .ref q6, .ref q7, .int 0, .int 0, .int 0, .null, .int 0, .int 0, .int 0, .int 0, .int 0, .ref q8, .ref q9, .ref q10, .int 0, .ref q11, .ref q12, .ref q13, .ref q14, .ref q15, .ref q16, .null] rfl rfl dX12_init_133 (fun hG => ?_)
  refine z_aload_n O dX12_init_136 0 rfl ?_
  refine z_bipush (v := 100) O dX12_init_137 rfl ?_
  refine z_newA O hE.1 hK.1 hA hG (kg := 17) rfl .long .long rfl (by decide +kernel) 4 rfl h_pJ (100, .inr (.inl (fun _ => 0))) (h_aJ 100) (by decide) rfl (by decide) ⟨(Nat.le_of_ble_eq_true rfl), (Nat.le_of_ble_eq_true rfl)⟩ dX12_init_139 (fun q17 hG => ?_)
  refine z_putF O hnm hK.1 hG (i := 0) (Nat.le_of_ble_eq_true rfl) rfl rfl ii tyX12 tyX12_ok nmX12 28 (by decide) (by decide +kernel) rfl rfl (ty := .array .long) rfl rfl rfl (Nat.le_of_ble_eq_true rfl) [.int 0, .ref q1, .ref q2, .ref q3, .ref q4, .ref q5, .int 0, .ref q6, .ref q7, .int 0, .int 0, .int 0, .null, .int 0, .int 0, .int 0, .int 0, .int 0, .ref q8, .ref q9, .ref q10, .int 0, .ref q11, .ref q12, .ref q13, .ref q14, .ref q15, .ref q16, .ref q17] rfl rfl dX12_init_141 (fun hG => ?_)
  refine z_aload_n O dX12_init_144 0 rfl ?_
  refine z_iconst (v := 0) O dX12_init_145 rfl ?_
  refine z_putG O hK.1 hG (i := 0) (Nat.le_of_ble_eq_true rfl) rfl rfl ii tyX12 tyX12_ok nmX12 6 (by decide) (by decide +kernel) rfl (ty := .int) rfl rfl rfl (Nat.le_of_ble_eq_true rfl) [.int 0, .ref q1, .ref q2, .ref q3, .ref q4, .ref q5, .int 0, .ref q6, .ref q7, .int 0, .int 0, .int 0, .null, .int 0, .int 0, .int 0, .int 0, .int 0, .ref q8, .ref q9, .ref q10, .int 0, .ref q11, .ref q12, .ref q13, .ref q14, .ref q15, .ref q16, .ref q17] rfl rfl dX12_init_146 (fun hG => ?_)
  exact z_retC O hE (Nat.le_of_ble_eq_true rfl) (Nat.le_of_ble_eq_true rfl) hG rfl rfl (by decide) (fun i hi => by
    rcases (show i = 0 ∨ i = 1 ∨ i = 2 ∨ i = 3 ∨ i = 4 ∨ i = 5 ∨ i = 6 ∨ i = 7 ∨ i = 8 ∨ i = 9 ∨ i = 10 ∨ i = 11 ∨ i = 12 ∨ i = 13 ∨ i = 14 ∨ i = 15 ∨ i = 16 ∨ i = 17 by omega) with rfl | rfl | rfl | rfl | rfl | rfl | rfl | rfl | rfl | rfl | rfl | rfl | rfl | rfl | rfl | rfl | rfl | rfl <;> rfl) dX12_init_149
