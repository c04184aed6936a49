/-! ===== constructors that make little ===== -/
theorem h_pI : ∀ (U : State) (c : ClassId), va_RA U c .int → U.vm.findClass ("[" ++ FieldType.toString .int) = some c := fun _ _ h => h
theorem h_pJ : ∀ (U : State) (c : ClassId), va_RA U c .long → U.vm.findClass ("[" ++ FieldType.toString .long) = some c := fun _ _ h => h
theorem h_aI (N : Nat) : ∀ cA : ClassId, vp_cell cA (N, .inl (fun _ => 0)) = arrV cA N (fun _ => defaultValue .int) := fun _ => rfl
theorem h_aJ (N : Nat) : ∀ cA : ClassId, vp_cell cA (N, .inr (.inl (fun _ => 0))) = arrV cA N (fun _ => defaultValue .long) := fun _ => rfl
theorem nM {D : va_G} {cs : Nat → ClassId} {U : State} (h : gK D cs U) (i : Nat) {a : String} {n : Nat} {y : MethodName} {o : String} (hq : nestM[i]? = some (a, n, y, o)) : va_Nw (.methodLinkNest a n y o) U := h.2.2 _ (List.mem_of_getElem? hq)
set_option maxHeartbeats 4000000 in
set_option maxRecDepth 100000 in
theorem t_X7_init {σ : Type} {l : Launch} {Ks : State → Prop} {Hx : σ → Heap → Prop} {x : σ} (a : Nat) : zMV l yX7_init wsX7_init ({ frames := 1, cells := 0, slots := 0, locals := 12 } : Room) Ks Hx x [.ref a] (fun _ => True) := by
  refine zMV_of (cc := cX7_init) (nL := 1) (ret := none) (by decide +kernel) rfl (Nat.le_of_ble_eq_true rfl) (fun C hl O hE hK hH => ?_)
  subst hl
  refine z_sub (lv' := [(0, .ref a)]) [0] rfl ?_
  refine z_aload_n O dX7_init_0 0 rfl ?_
  refine z_objInit O hE.1 (by decide +kernel) (by decide +kernel) (by decide +kernel) ⟨(Nat.le_of_ble_eq_true rfl), (Nat.le_of_ble_eq_true rfl)⟩ dX7_init_1 ?_
  exact z_retV O hE (fun _ h => h.1) dX7_init_4 trivial
set_option maxHeartbeats 4000000 in
set_option maxRecDepth 100000 in
theorem t_X3_init {σ : Type} {l : Launch} {D : va_G} {cs : Nat → ClassId} {Hx : σ → Heap → Prop} {x : σ} (a : Nat) : zMV l yX3_init wsX3_init ({ frames := 2, cells := 0, slots := 0, locals := 32 } : Room) (gK D cs) Hx x [.ref a] (fun _ => True) := by
  refine zMV_of (cc := cX3_init) (nL := 1) (ret := none) (by decide +kernel) rfl (Nat.le_of_ble_eq_true rfl) (fun C hl O hE hK hH => ?_)
  subst hl
  refine z_sub (lv' := [(0, .ref a)]) [0] rfl ?_
  refine z_aload_n O dX3_init_0 0 rfl ?_
  refine z_callV (gKs D cs) hK (fun _ h => h.2) (t_X7_init a) (zr_IN (As := []) (rest := []) O hE.1 0 gX3_init_X7_init_n1 rfl rfl rfl (nM hK 2 rfl) (by decide +kernel) (by decide +kernel) rfl (by decide +kernel) ⟨(Nat.le_of_ble_eq_true rfl), (Nat.le_of_ble_eq_true rfl)⟩ ⟨(Nat.le_of_ble_eq_true rfl), (Nat.le_of_ble_eq_true rfl)⟩ rfl rfl (Nat.le_of_ble_eq_true rfl) dX3_init_1) (fun _ => ?_)
  exact z_retV O hE (fun _ h => h.1) dX3_init_4 trivial
set_option maxHeartbeats 4000000 in
set_option maxRecDepth 100000 in
theorem t_X5_init {σ : Type} {l : Launch} {D : va_G} {cs : Nat → ClassId} {Hx : σ → Heap → Prop} {x : σ} (a : Nat) : zMV l yX5_init wsX5_init ({ frames := 2, cells := 0, slots := 0, locals := 32 } : Room) (gK D cs) Hx x [.ref a] (fun _ => True) := by
  refine zMV_of (cc := cX5_init) (nL := 1) (ret := none) (by decide +kernel) rfl (Nat.le_of_ble_eq_true rfl) (fun C hl O hE hK hH => ?_)
  subst hl
  refine z_sub (lv' := [(0, .ref a)]) [0] rfl ?_
  refine z_aload_n O dX5_init_0 0 rfl ?_
  refine z_callV (gKs D cs) hK (fun _ h => h.2) (t_X7_init a) (zr_IN (As := []) (rest := []) O hE.1 0 gX5_init_X7_init_n1 rfl rfl rfl (nM hK 4 rfl) (by decide +kernel) (by decide +kernel) rfl (by decide +kernel) ⟨(Nat.le_of_ble_eq_true rfl), (Nat.le_of_ble_eq_true rfl)⟩ ⟨(Nat.le_of_ble_eq_true rfl), (Nat.le_of_ble_eq_true rfl)⟩ rfl rfl (Nat.le_of_ble_eq_true rfl) dX5_init_1) (fun _ => ?_)
  exact z_retV O hE (fun _ h => h.1) dX5_init_4 trivial
set_option maxHeartbeats 4000000 in
set_option maxRecDepth 100000 in
theorem t_X10_init {σ : Type} {l : Launch} {D : va_G} {cs : Nat → ClassId} {Hx : σ → Heap → Prop} {x : σ} (a : Nat) : zMV l yX10_init wsX10_init ({ frames := 2, cells := 0, slots := 0, locals := 32 } : Room) (gK D cs) Hx x [.ref a] (fun _ => True) := by
  refine zMV_of (cc := cX10_init) (nL := 1) (ret := none) (by decide +kernel) rfl (Nat.le_of_ble_eq_true rfl) (fun C hl O hE hK hH => ?_)
  subst hl
  refine z_sub (lv' := [(0, .ref a)]) [0] rfl ?_
  refine z_aload_n O dX10_init_0 0 rfl ?_
  refine z_callV (gKs D cs) hK (fun _ h => h.2) (t_X7_init a) (zr_IN (As := []) (rest := []) O hE.1 0 gX10_init_X7_init_n1 rfl rfl rfl (nM hK 6 rfl) (by decide +kernel) (by decide +kernel) rfl (by decide +kernel) ⟨(Nat.le_of_ble_eq_true rfl), (Nat.le_of_ble_eq_true rfl)⟩ ⟨(Nat.le_of_ble_eq_true rfl), (Nat.le_of_ble_eq_true rfl)⟩ rfl rfl (Nat.le_of_ble_eq_true rfl) dX10_init_1) (fun _ => ?_)
  exact z_retV O hE (fun _ h => h.1) dX10_init_4 trivial
set_option maxHeartbeats 4000000 in
set_option maxRecDepth 100000 in
theorem t_X1_init {σ : Type} {l : Launch} {D : va_G} {cs : Nat → ClassId} {Hx : σ → Heap → Prop} {x : σ} (a : Nat) : zMV l yX1_init wsX1_init ({ frames := 3, cells := 0, slots := 0, locals := 52 } : Room) (gK D cs) Hx x [.ref a] (fun _ => True) := by
  refine zMV_of (cc := cX1_init) (nL := 1) (ret := none) (by decide +kernel) rfl (Nat.le_of_ble_eq_true rfl) (fun C hl O hE hK hH => ?_)
  subst hl
  refine z_sub (lv' := [(0, .ref a)]) [0] rfl ?_
  refine z_aload_n O dX1_init_0 0 rfl ?_
  refine z_callV (gKs D cs) hK (fun _ h => h.2) (t_X3_init a) (zr_IN (As := []) (rest := []) O hE.1 0 gX1_init_X3_init_n1 rfl rfl rfl (nM hK 8 rfl) (by decide +kernel) (by decide +kernel) rfl (by decide +kernel) ⟨(Nat.le_of_ble_eq_true rfl), (Nat.le_of_ble_eq_true rfl)⟩ ⟨(Nat.le_of_ble_eq_true rfl), (Nat.le_of_ble_eq_true rfl)⟩ rfl rfl (Nat.le_of_ble_eq_true rfl) dX1_init_1) (fun _ => ?_)
  exact z_retV O hE (fun _ h => h.1) dX1_init_4 trivial
set_option maxHeartbeats 4000000 in
set_option maxRecDepth 100000 in
theorem t_X8_init {σ : Type} {l : Launch} {D : va_G} {cs : Nat → ClassId} {Hx : σ → Heap → Prop} {x : σ} (a : Nat) : zMV l yX8_init wsX8_init ({ frames := 3, cells := 0, slots := 0, locals := 52 } : Room) (gK D cs) Hx x [.ref a] (fun _ => True) := by
  refine zMV_of (cc := cX8_init) (nL := 1) (ret := none) (by decide +kernel) rfl (Nat.le_of_ble_eq_true rfl) (fun C hl O hE hK hH => ?_)
  subst hl
  refine z_sub (lv' := [(0, .ref a)]) [0] rfl ?_
  refine z_aload_n O dX8_init_0 0 rfl ?_
  refine z_callV (gKs D cs) hK (fun _ h => h.2) (t_X10_init a) (zr_IN (As := []) (rest := []) O hE.1 0 gX8_init_X10_init_n1 rfl rfl rfl (nM hK 10 rfl) (by decide +kernel) (by decide +kernel) rfl (by decide +kernel) ⟨(Nat.le_of_ble_eq_true rfl), (Nat.le_of_ble_eq_true rfl)⟩ ⟨(Nat.le_of_ble_eq_true rfl), (Nat.le_of_ble_eq_true rfl)⟩ rfl rfl (Nat.le_of_ble_eq_true rfl) dX8_init_1) (fun _ => ?_)
  exact z_retV O hE (fun _ h => h.1) dX8_init_4 trivial
set_option maxHeartbeats 4000000 in
set_option maxRecDepth 100000 in
theorem t_X0_init {σ : Type} {l : Launch} {D : va_G} {cs : Nat → ClassId} {Hx : σ → Heap → Prop} {x : σ} (a : Nat) : zMV l yX0_init wsX0_init ({ frames := 3, cells := 0, slots := 0, locals := 52 } : Room) (gK D cs) Hx x [.ref a] (fun _ => True) := by
  refine zMV_of (cc := cX0_init) (nL := 1) (ret := none) (by decide +kernel) rfl (Nat.le_of_ble_eq_true rfl) (fun C hl O hE hK hH => ?_)
  subst hl
  refine z_sub (lv' := [(0, .ref a)]) [0] rfl ?_
  refine z_aload_n O dX0_init_0 0 rfl ?_
  refine z_callV (gKs D cs) hK (fun _ h => h.2) (t_X3_init a) (zr_IN (As := []) (rest := []) O hE.1 0 gX0_init_X3_init_n1 rfl rfl rfl (nM hK 12 rfl) (by decide +kernel) (by decide +kernel) rfl (by decide +kernel) ⟨(Nat.le_of_ble_eq_true rfl), (Nat.le_of_ble_eq_true rfl)⟩ ⟨(Nat.le_of_ble_eq_true rfl), (Nat.le_of_ble_eq_true rfl)⟩ rfl rfl (Nat.le_of_ble_eq_true rfl) dX0_init_1) (fun _ => ?_)
  exact z_retV O hE (fun _ h => h.1) dX0_init_4 trivial
set_option maxHeartbeats 4000000 in
set_option maxRecDepth 100000 in
theorem t_X4_init {σ : Type} {l : Launch} {D : va_G} {cs : Nat → ClassId} {Hx : σ → Heap → Prop} {x : σ} (a : Nat) : zMV l yX4_init wsX4_init ({ frames := 3, cells := 0, slots := 0, locals := 52 } : Room) (gK D cs) Hx x [.ref a] (fun _ => True) := by
  refine zMV_of (cc := cX4_init) (nL := 1) (ret := none) (by decide +kernel) rfl (Nat.le_of_ble_eq_true rfl) (fun C hl O hE hK hH => ?_)
  subst hl
  refine z_sub (lv' := [(0, .ref a)]) [0] rfl ?_
  refine z_aload_n O dX4_init_0 0 rfl ?_
  refine z_callV (gKs D cs) hK (fun _ h => h.2) (t_X10_init a) (zr_IN (As := []) (rest := []) O hE.1 0 gX4_init_X10_init_n1 rfl rfl rfl (nM hK 14 rfl) (by decide +kernel) (by decide +kernel) rfl (by decide +kernel) ⟨(Nat.le_of_ble_eq_true rfl), (Nat.le_of_ble_eq_true rfl)⟩ ⟨(Nat.le_of_ble_eq_true rfl), (Nat.le_of_ble_eq_true rfl)⟩ rfl rfl (Nat.le_of_ble_eq_true rfl) dX4_init_1) (fun _ => ?_)
  exact z_retV O hE (fun _ h => h.1) dX4_init_4 trivial
