def wp_X11_within   (p0 : Int32) (p1 : Int32) (p2 : Int32) (Q : Int32 → Prop) : Prop :=
 ((p0 < p1 →
 Q 0) ∧ (¬ p0 < p1 →
 ((p2 < p0 →
 Q 0) ∧ (¬ p2 < p0 →
 Q 1))))
set_option maxHeartbeats 4000000 in
set_option maxRecDepth 100000 in
theorem t_X11_within {σ : Type} {l : Launch} {Ks : State → Prop} (hKs : zKs Ks) {Hx : σ → Heap → Prop} {x : σ} (p0 : Int32) (p1 : Int32) (p2 : Int32) (Q : Int32 → Prop) (h : wp_X11_within  p0 p1 p2 Q) : zMR l yX11_within wsX11_within ({ frames := 0, cells := 0, slots := 0, locals := 0 } : Room) Ks Hx x [.int p0, .int p1, .int p2] Q := by
  refine zMR_of (cc := cX11_within) (nL := 3) (ret := (some .boolean)) (by decide +kernel) rfl (Nat.le_of_ble_eq_true rfl) (fun C hl O hE hK hH => ?_)
  subst hl
  refine z_sub (lv' := [(0, .int p0), (1, .int p1), (2, .int p2)]) [0, 1, 2] rfl ?_
  refine z_iload_n O dX11_within_0 0 rfl ?_
  refine z_iload_n O dX11_within_1 1 rfl ?_
  refine z_icmp_lt O 14 dX11_within_2 (by decide) (fun c2 => ?_) (fun c2 => ?_)
  · replace h := h.1 c2
    refine z_iconst (v := 0) O dX11_within_14 rfl ?_
    exact z_retR O hE (fun _ h => h.1) rfl dX11_within_15 h
  · replace h := h.2 c2
    refine z_iload_n O dX11_within_5 0 rfl ?_
    refine z_iload_n O dX11_within_6 2 rfl ?_
    refine z_icmp_gt O 14 dX11_within_7 (by decide) (fun c1 => ?_) (fun c1 => ?_)
    · replace h := h.1 c1
      refine z_iconst (v := 0) O dX11_within_14 rfl ?_
      exact z_retR O hE (fun _ h => h.1) rfl dX11_within_15 h
    · replace h := h.2 c1
      refine z_iconst (v := 1) O dX11_within_10 rfl ?_
      refine z_goto O 15 dX11_within_11 (by decide) ?_
      exact z_retR O hE (fun _ h => h.1) rfl dX11_within_15 h
def wp_X11_isKindAndOath   (p0 : Int32) (p1 : Int32) (Q : Int32 → Prop) : Prop :=
 wp_X11_within p0 0 7 (fun r1 : Int32 =>
 ((r1 = 0 →
 Q 0) ∧ (¬ r1 = 0 →
 wp_X11_within p1 0 9 (fun r2 : Int32 =>
 ((r2 = 0 →
 Q 0) ∧ (¬ r2 = 0 →
 Q 1))))))
set_option maxHeartbeats 4000000 in
set_option maxRecDepth 100000 in
theorem t_X11_isKindAndOath {σ : Type} {l : Launch} {Ks : State → Prop} (hKs : zKs Ks) {Hx : σ → Heap → Prop} {x : σ} (p0 : Int32) (p1 : Int32) (Q : Int32 → Prop) (h : wp_X11_isKindAndOath  p0 p1 Q) : zMR l yX11_isKindAndOath wsX11_isKindAndOath ({ frames := 1, cells := 0, slots := 0, locals := 22 } : Room) Ks Hx x [.int p0, .int p1] Q := by
  refine zMR_of (cc := cX11_isKindAndOath) (nL := 2) (ret := (some .boolean)) (by decide +kernel) rfl (Nat.le_of_ble_eq_true rfl) (fun C hl O hE hK hH => ?_)
  subst hl
  refine z_sub (lv' := [(0, .int p0), (1, .int p1)]) [0, 1] rfl ?_
  refine z_iload_n O dX11_isKindAndOath_0 0 rfl ?_
  refine z_iconst (v := 0) O dX11_isKindAndOath_1 rfl ?_
  refine z_bipush (v := 7) O dX11_isKindAndOath_2 rfl ?_
  refine z_callR hKs hK (fun _ h => h.2) (t_X11_within hKs p0 0 7 _ h) (zr_SS (As := [.int p0, .int 0, .int 7]) (rest := []) O hE.1 3 gX11_isKindAndOath_X11_within rfl rfl rfl (by decide +kernel) ⟨(Nat.le_of_ble_eq_true rfl), (Nat.le_of_ble_eq_true rfl)⟩ ⟨(Nat.le_of_ble_eq_true rfl), (Nat.le_of_ble_eq_true rfl)⟩ rfl rfl (Nat.le_of_ble_eq_true rfl) dX11_isKindAndOath_4) (fun r1 h => ?_)
  refine z_if_eq O 24 dX11_isKindAndOath_7 (by decide) (fun c4 => ?_) (fun c4 => ?_)
  · replace h := h.1 c4
    refine z_iconst (v := 0) O dX11_isKindAndOath_24 rfl ?_
    exact z_retR O hE (fun _ h => h.1) rfl dX11_isKindAndOath_25 h
  · replace h := h.2 c4
    refine z_iload_n O dX11_isKindAndOath_10 1 rfl ?_
    refine z_iconst (v := 0) O dX11_isKindAndOath_11 rfl ?_
    refine z_bipush (v := 9) O dX11_isKindAndOath_12 rfl ?_
    refine z_callR hKs hK (fun _ h => h.2) (t_X11_within hKs p1 0 9 _ h) (zr_SS (As := [.int p1, .int 0, .int 9]) (rest := []) O hE.1 3 gX11_isKindAndOath_X11_within rfl rfl rfl (by decide +kernel) ⟨(Nat.le_of_ble_eq_true rfl), (Nat.le_of_ble_eq_true rfl)⟩ ⟨(Nat.le_of_ble_eq_true rfl), (Nat.le_of_ble_eq_true rfl)⟩ rfl rfl (Nat.le_of_ble_eq_true rfl) dX11_isKindAndOath_14) (fun r2 h => ?_)
    refine z_if_eq O 24 dX11_isKindAndOath_17 (by decide) (fun c3 => ?_) (fun c3 => ?_)
    · replace h := h.1 c3
      refine z_iconst (v := 0) O dX11_isKindAndOath_24 rfl ?_
      exact z_retR O hE (fun _ h => h.1) rfl dX11_isKindAndOath_25 h
    · replace h := h.2 c3
      refine z_iconst (v := 1) O dX11_isKindAndOath_20 rfl ?_
      refine z_goto O 25 dX11_isKindAndOath_21 (by decide) ?_
      exact z_retR O hE (fun _ h => h.1) rfl dX11_isKindAndOath_25 h
def wp_X11_statementLength   (p0 : Int32) (Q : Int32 → Prop) : Prop :=
 ((p0 = 99 →
 Q 5) ∧ (¬ p0 = 99 →
 ((p0 = 100 →
 Q 2) ∧ (¬ p0 = 100 →
 ((p0 = 110 →
 Q 6) ∧ (¬ p0 = 110 →
 ((p0 = 116 →
 Q 3) ∧ (¬ p0 = 116 →
 ((p0 = 119 →
 Q 2) ∧ (¬ p0 = 119 →
 Q 0))))))))))
set_option maxHeartbeats 4000000 in
set_option maxRecDepth 100000 in
theorem t_X11_statementLength {σ : Type} {l : Launch} {Ks : State → Prop} (hKs : zKs Ks) {Hx : σ → Heap → Prop} {x : σ} (p0 : Int32) (Q : Int32 → Prop) (h : wp_X11_statementLength  p0 Q) : zMR l yX11_statementLength wsX11_statementLength ({ frames := 0, cells := 0, slots := 0, locals := 0 } : Room) Ks Hx x [.int p0] Q := by
  refine zMR_of (cc := cX11_statementLength) (nL := 1) (ret := (some .int)) (by decide +kernel) rfl (Nat.le_of_ble_eq_true rfl) (fun C hl O hE hK hH => ?_)
  subst hl
  refine z_sub (lv' := [(0, .int p0)]) [0] rfl ?_
  refine z_iload_n O dX11_statementLength_0 0 rfl ?_
  by_cases c1 : p0 = 99
  · replace h := h.1 c1
    refine z_lookup (off := 56) O 57 dX11_statementLength_1 (by decide) (by rw [c1]; try decide) (by decide) ?_
    refine z_iconst (v := 5) O dX11_statementLength_57 rfl ?_
    exact z_retR O hE (fun _ h => h.1) rfl dX11_statementLength_58 h
  replace h := h.2 c1
  by_cases c2 : p0 = 100
  · replace h := h.1 c2
    refine z_lookup (off := 58) O 59 dX11_statementLength_1 (by decide) (by rw [c2]; try decide) (by decide) ?_
    refine z_iconst (v := 2) O dX11_statementLength_59 rfl ?_
    exact z_retR O hE (fun _ h => h.1) rfl dX11_statementLength_60 h
  replace h := h.2 c2
  by_cases c3 : p0 = 110
  · replace h := h.1 c3
    refine z_lookup (off := 51) O 52 dX11_statementLength_1 (by decide) (by rw [c3]; try decide) (by decide) ?_
    refine z_bipush (v := 6) O dX11_statementLength_52 rfl ?_
    exact z_retR O hE (fun _ h => h.1) rfl dX11_statementLength_54 h
  replace h := h.2 c3
  by_cases c4 : p0 = 116
  · replace h := h.1 c4
    refine z_lookup (off := 54) O 55 dX11_statementLength_1 (by decide) (by rw [c4]; try decide) (by decide) ?_
    refine z_iconst (v := 3) O dX11_statementLength_55 rfl ?_
    exact z_retR O hE (fun _ h => h.1) rfl dX11_statementLength_56 h
  replace h := h.2 c4
  by_cases c5 : p0 = 119
  · replace h := h.1 c5
    refine z_lookup (off := 58) O 59 dX11_statementLength_1 (by decide) (by rw [c5]; try decide) (by decide) ?_
    refine z_iconst (v := 2) O dX11_statementLength_59 rfl ?_
    exact z_retR O hE (fun _ h => h.1) rfl dX11_statementLength_60 h
  replace h := h.2 c5
  refine z_lookup (off := 60) O 61 dX11_statementLength_1 (by decide) ((lv_osw c1 (by decide)).trans ((lv_osw c2 (by decide)).trans ((lv_osw c3 (by decide)).trans ((lv_osw c4 (by decide)).trans ((lv_osw c5 (by decide)).trans rfl))))) (by decide) ?_
  refine z_iconst (v := 0) O dX11_statementLength_61 rfl ?_
  exact z_retR O hE (fun _ h => h.1) rfl dX11_statementLength_62 h
def wp_J7_fill_53178 (x : XS) (q0 : Nat) (p1 : Int32) (Q : XS → Prop) : Prop :=
 (∃ (I5 : Int32 → XS → Prop) (U5 : Int32 → XS → Nat), I5 0 x ∧ ∀ (y1 : Int32) (x2 : XS), I5 y1 x2 →
 (((Int32.ofNat (xlen q0)) ≤ y1 →
 Q x2) ∧ (¬ (Int32.ofNat (xlen q0)) ≤ y1 →
 (vp_in y1 (xlen q0) ∧
 ∀ x3 : XS, x3 = xA x2 q0 (upd (x2.2.1 q0) (Int32.toNatClampNeg y1) p1) →
 (I5 (y1 + 1) x3 ∧ U5 (y1 + 1) x3 < U5 y1 x2)))))
set_option maxHeartbeats 4000000 in
set_option maxRecDepth 100000 in
theorem t_J7_fill_53178 {l : Launch} {D : va_G} {cs : Nat → ClassId} {ad : Nat → Nat} (hI : wInj 161 ad) (x : XS) (q0 : Nat) (hq0 : xk q0 20) (p1 : Int32) (Q : XS → Prop) (h : wp_J7_fill_53178 x q0 p1 Q) : zWV l yJ7_fill_53178 wsJ7_fill_53178 ({ frames := 0, cells := 0, slots := 0, locals := 0 } : Room) (gK D cs) (XH D cs ad) (wB 161 ad) x [.ref (ad q0), .int p1] 0 0 Q := by
  refine zWV_of (cc := cJ7_fill_53178) (nL := 4) (ret := none) (by decide +kernel) rfl (Nat.le_of_ble_eq_true rfl) (fun C hl O hE hK => ?_)
  subst hl
  have hX : ∀ (x : XS) (H : Heap), XH D cs ad x H → va_P D vwCl (wl 161 ad (XE cs ad x)) H := fun _ _ h => h
  have hB : ∀ {x : XS} (H : Heap), va_P D vwCl (wl 161 ad (XE cs ad x)) H → XH D cs ad x H := fun _ h => h
  have hA : ∀ q, wB 161 ad q → zA (wB 161 ad) C.s.heap.size q := fun _ h => Or.inl h
  refine z_sub (lv' := [(0, .ref (ad q0)), (1, .int p1)]) [0, 1] rfl ?_
  refine z_iconst (v := 0) O dJ7_fill_53178_0 rfl ?_
  refine z_istore_n (lv' := [(2, .int 0), (0, .ref (ad q0)), (1, .int p1)]) O dJ7_fill_53178_1 (by decide) rfl ?_
  refine z_aload_n O dJ7_fill_53178_2 1 rfl ?_
  refine z_alen (v := Int32.ofNat (xlen q0)) O hK.1 (hX _) 0 (hq0).1 (xe_20 hq0) rfl (show Int32.ofNat (xlen q0) = Int32.ofNat (xlen q0) from rfl) dJ7_fill_53178_3 ?_
  refine z_istore_n (lv' := [(3, .int (Int32.ofNat (xlen q0))), (2, .int 0), (0, .ref (ad q0)), (1, .int p1)]) O dJ7_fill_53178_4 (by decide) rfl ?_
  obtain ⟨I5, U5, h0, hs⟩ := h
  have kI5 : ∀ (n : Nat) (y1 : Int32) (x2 : XS), U5 y1 x2 < n → I5 y1 x2 → Z C (zA (wB 161 ad) C.s.heap.size) (XH D cs ad) 4 x2 [(0, .ref (ad q0)), (1, .int p1), (2, .int y1), (3, .int (Int32.ofNat (xlen q0)))] 0 0 5 [] := by
    intro n
    induction n with
    | zero => intro y1 x2 uI5; exact absurd uI5 (Nat.not_lt_zero _)
    | succ n iI5 =>
      intro y1 x2 uI5 h
      have h := hs y1 x2 h
      refine z_iload_n O dJ7_fill_53178_5 2 rfl ?_
      refine z_iload_n O dJ7_fill_53178_6 3 rfl ?_
      refine z_icmp_ge O 20 dJ7_fill_53178_7 (by decide) (fun c4 => ?_) (fun c4 => ?_)
      · replace h := h.1 c4
        exact z_retWV O hE (Nat.le_of_ble_eq_true rfl) (Nat.le_of_ble_eq_true rfl) dJ7_fill_53178_20 h
      · replace h := h.2 c4
        refine z_aload_n O dJ7_fill_53178_10 0 rfl ?_
        refine z_iload_n O dJ7_fill_53178_11 2 rfl ?_
        refine z_iload_n O dJ7_fill_53178_12 1 rfl ?_
        have hb0 := h.1
        replace h := h.2
        obtain ⟨x3, ex3⟩ : ∃ z, z = xA x2 q0 (upd (x2.2.1 q0) (Int32.toNatClampNeg y1) p1) := ⟨_, rfl⟩
        replace h := h x3 ex3
        refine z_iast (x' := x3) O hK.1 (hX _) hB hI hA 0 (hq0).1 (xe_20 hq0) rfl hb0 (by rw [ex3]; exact xe_setA hq0 _) dJ7_fill_53178_13 ?_
        refine z_iinc (lv' := [(2, .int (y1 + 1)), (0, .ref (ad q0)), (1, .int p1), (3, .int (Int32.ofNat (xlen q0)))]) O dJ7_fill_53178_14 2 rfl rfl (by decide) rfl ?_
        refine z_goto O 5 dJ7_fill_53178_17 (by decide) ?_
        exact z_sub [1, 2, 0, 3] rfl (iI5 (y1 + 1) x3 (Nat.lt_of_lt_of_le h.2 (Nat.le_of_lt_succ uI5)) h.1)
  exact z_sub [2, 3, 1, 0] rfl (kI5 _ 0 x (Nat.lt_succ_self _) h0)
def wp_J6_bitCount_0f7a4   (p0 : Int32) (Q : Int32 → Prop) : Prop :=
 Q ((((((((p0 - (((Int32.toUInt32 p0 >>> (Int32.toUInt32 1 &&& Int32.toUInt32 31)).toInt32) &&& 1431655765)) &&& 858993459) + (((Int32.toUInt32 (p0 - (((Int32.toUInt32 p0 >>> (Int32.toUInt32 1 &&& Int32.toUInt32 31)).toInt32) &&& 1431655765)) >>> (Int32.toUInt32 2 &&& Int32.toUInt32 31)).toInt32) &&& 858993459)) + ((Int32.toUInt32 (((p0 - (((Int32.toUInt32 p0 >>> (Int32.toUInt32 1 &&& Int32.toUInt32 31)).toInt32) &&& 1431655765)) &&& 858993459) + (((Int32.toUInt32 (p0 - (((Int32.toUInt32 p0 >>> (Int32.toUInt32 1 &&& Int32.toUInt32 31)).toInt32) &&& 1431655765)) >>> (Int32.toUInt32 2 &&& Int32.toUInt32 31)).toInt32) &&& 858993459)) >>> (Int32.toUInt32 4 &&& Int32.toUInt32 31)).toInt32)) &&& 252645135) + ((Int32.toUInt32 (((((p0 - (((Int32.toUInt32 p0 >>> (Int32.toUInt32 1 &&& Int32.toUInt32 31)).toInt32) &&& 1431655765)) &&& 858993459) + (((Int32.toUInt32 (p0 - (((Int32.toUInt32 p0 >>> (Int32.toUInt32 1 &&& Int32.toUInt32 31)).toInt32) &&& 1431655765)) >>> (Int32.toUInt32 2 &&& Int32.toUInt32 31)).toInt32) &&& 858993459)) + ((Int32.toUInt32 (((p0 - (((Int32.toUInt32 p0 >>> (Int32.toUInt32 1 &&& Int32.toUInt32 31)).toInt32) &&& 1431655765)) &&& 858993459) + (((Int32.toUInt32 (p0 - (((Int32.toUInt32 p0 >>> (Int32.toUInt32 1 &&& Int32.toUInt32 31)).toInt32) &&& 1431655765)) >>> (Int32.toUInt32 2 &&& Int32.toUInt32 31)).toInt32) &&& 858993459)) >>> (Int32.toUInt32 4 &&& Int32.toUInt32 31)).toInt32)) &&& 252645135) >>> (Int32.toUInt32 8 &&& Int32.toUInt32 31)).toInt32)) + ((Int32.toUInt32 ((((((p0 - (((Int32.toUInt32 p0 >>> (Int32.toUInt32 1 &&& Int32.toUInt32 31)).toInt32) &&& 1431655765)) &&& 858993459) + (((Int32.toUInt32 (p0 - (((Int32.toUInt32 p0 >>> (Int32.toUInt32 1 &&& Int32.toUInt32 31)).toInt32) &&& 1431655765)) >>> (Int32.toUInt32 2 &&& Int32.toUInt32 31)).toInt32) &&& 858993459)) + ((Int32.toUInt32 (((p0 - (((Int32.toUInt32 p0 >>> (Int32.toUInt32 1 &&& Int32.toUInt32 31)).toInt32) &&& 1431655765)) &&& 858993459) + (((Int32.toUInt32 (p0 - (((Int32.toUInt32 p0 >>> (Int32.toUInt32 1 &&& Int32.toUInt32 31)).toInt32) &&& 1431655765)) >>> (Int32.toUInt32 2 &&& Int32.toUInt32 31)).toInt32) &&& 858993459)) >>> (Int32.toUInt32 4 &&& Int32.toUInt32 31)).toInt32)) &&& 252645135) + ((Int32.toUInt32 (((((p0 - (((Int32.toUInt32 p0 >>> (Int32.toUInt32 1 &&& Int32.toUInt32 31)).toInt32) &&& 1431655765)) &&& 858993459) + (((Int32.toUInt32 (p0 - (((Int32.toUInt32 p0 >>> (Int32.toUInt32 1 &&& Int32.toUInt32 31)).toInt32) &&& 1431655765)) >>> (Int32.toUInt32 2 &&& Int32.toUInt32 31)).toInt32) &&& 858993459)) + ((Int32.toUInt32 (((p0 - (((Int32.toUInt32 p0 >>> (Int32.toUInt32 1 &&& Int32.toUInt32 31)).toInt32) &&& 1431655765)) &&& 858993459) + (((Int32.toUInt32 (p0 - (((Int32.toUInt32 p0 >>> (Int32.toUInt32 1 &&& Int32.toUInt32 31)).toInt32) &&& 1431655765)) >>> (Int32.toUInt32 2 &&& Int32.toUInt32 31)).toInt32) &&& 858993459)) >>> (Int32.toUInt32 4 &&& Int32.toUInt32 31)).toInt32)) &&& 252645135) >>> (Int32.toUInt32 8 &&& Int32.toUInt32 31)).toInt32)) >>> (Int32.toUInt32 16 &&& Int32.toUInt32 31)).toInt32)) &&& 63)
set_option maxHeartbeats 4000000 in
set_option maxRecDepth 100000 in
theorem t_J6_bitCount_0f7a4 {σ : Type} {l : Launch} {Ks : State → Prop} (hKs : zKs Ks) {Hx : σ → Heap → Prop} {x : σ} (p0 : Int32) (Q : Int32 → Prop) (h : wp_J6_bitCount_0f7a4  p0 Q) : zMR l yJ6_bitCount_0f7a4 wsJ6_bitCount_0f7a4 ({ frames := 0, cells := 0, slots := 0, locals := 0 } : Room) Ks Hx x [.int p0] Q := by
  refine zMR_of (cc := cJ6_bitCount_0f7a4) (nL := 1) (ret := (some .int)) (by decide +kernel) rfl (Nat.le_of_ble_eq_true rfl) (fun C hl O hE hK hH => ?_)
  subst hl
  refine z_sub (lv' := [(0, .int p0)]) [0] rfl ?_
  refine z_iload_n O dJ6_bitCount_0f7a4_0 0 rfl ?_
  refine z_iload_n O dJ6_bitCount_0f7a4_1 0 rfl ?_
  refine z_iconst (v := 1) O dJ6_bitCount_0f7a4_2 rfl ?_
  refine z_iushr O dJ6_bitCount_0f7a4_3 ?_
  refine z_ldcw (v := 1431655765) O (by decide +kernel) dJ6_bitCount_0f7a4_4 ?_
  refine z_iand O dJ6_bitCount_0f7a4_7 ?_
  refine z_isub O dJ6_bitCount_0f7a4_8 ?_
  refine z_istore_n (lv' := [(0, .int (p0 - (((Int32.toUInt32 p0 >>> (Int32.toUInt32 1 &&& Int32.toUInt32 31)).toInt32) &&& 1431655765)))]) O dJ6_bitCount_0f7a4_9 (by decide) rfl ?_
  refine z_iload_n O dJ6_bitCount_0f7a4_10 0 rfl ?_
  refine z_ldcw (v := 858993459) O (by decide +kernel) dJ6_bitCount_0f7a4_11 ?_
  refine z_iand O dJ6_bitCount_0f7a4_14 ?_
  refine z_iload_n O dJ6_bitCount_0f7a4_15 0 rfl ?_
  refine z_iconst (v := 2) O dJ6_bitCount_0f7a4_16 rfl ?_
  refine z_iushr O dJ6_bitCount_0f7a4_17 ?_
  refine z_ldcw (v := 858993459) O (by decide +kernel) dJ6_bitCount_0f7a4_18 ?_
  refine z_iand O dJ6_bitCount_0f7a4_21 ?_
  refine z_iadd O dJ6_bitCount_0f7a4_22 ?_
  refine z_istore_n (lv' := [(0, .int (((p0 - (((Int32.toUInt32 p0 >>> (Int32.toUInt32 1 &&& Int32.toUInt32 31)).toInt32) &&& 1431655765)) &&& 858993459) + (((Int32.toUInt32 (p0 - (((Int32.toUInt32 p0 >>> (Int32.toUInt32 1 &&& Int32.toUInt32 31)).toInt32) &&& 1431655765)) >>> (Int32.toUInt32 2 &&& Int32.toUInt32 31)).toInt32) &&& 858993459)))]) O dJ6_bitCount_0f7a4_23 (by decide) rfl ?_
  refine z_iload_n O dJ6_bitCount_0f7a4_24 0 rfl ?_
  refine z_iload_n O dJ6_bitCount_0f7a4_25 0 rfl ?_
  refine z_iconst (v := 4) O dJ6_bitCount_0f7a4_26 rfl ?_
  refine z_iushr O dJ6_bitCount_0f7a4_27 ?_
  refine z_iadd O dJ6_bitCount_0f7a4_28 ?_
  refine z_ldcw (v := 252645135) O (by decide +kernel) dJ6_bitCount_0f7a4_29 ?_
  refine z_iand O dJ6_bitCount_0f7a4_32 ?_
  refine z_istore_n (lv' := [(0, .int (((((p0 - (((Int32.toUInt32 p0 >>> (Int32.toUInt32 1 &&& Int32.toUInt32 31)).toInt32) &&& 1431655765)) &&& 858993459) + (((Int32.toUInt32 (p0 - (((Int32.toUInt32 p0 >>> (Int32.toUInt32 1 &&& Int32.toUInt32 31)).toInt32) &&& 1431655765)) >>> (Int32.toUInt32 2 &&& Int32.toUInt32 31)).toInt32) &&& 858993459)) + ((Int32.toUInt32 (((p0 - (((Int32.toUInt32 p0 >>> (Int32.toUInt32 1 &&& Int32.toUInt32 31)).toInt32) &&& 1431655765)) &&& 858993459) + (((Int32.toUInt32 (p0 - (((Int32.toUInt32 p0 >>> (Int32.toUInt32 1 &&& Int32.toUInt32 31)).toInt32) &&& 1431655765)) >>> (Int32.toUInt32 2 &&& Int32.toUInt32 31)).toInt32) &&& 858993459)) >>> (Int32.toUInt32 4 &&& Int32.toUInt32 31)).toInt32)) &&& 252645135))]) O dJ6_bitCount_0f7a4_33 (by decide) rfl ?_
  refine z_iload_n O dJ6_bitCount_0f7a4_34 0 rfl ?_
  refine z_iload_n O dJ6_bitCount_0f7a4_35 0 rfl ?_
  refine z_bipush (v := 8) O dJ6_bitCount_0f7a4_36 rfl ?_
  refine z_iushr O dJ6_bitCount_0f7a4_38 ?_
  refine z_iadd O dJ6_bitCount_0f7a4_39 ?_
  refine z_istore_n (lv' := [(0, .int ((((((p0 - (((Int32.toUInt32 p0 >>> (Int32.toUInt32 1 &&& Int32.toUInt32 31)).toInt32) &&& 1431655765)) &&& 858993459) + (((Int32.toUInt32 (p0 - (((Int32.toUInt32 p0 >>> (Int32.toUInt32 1 &&& Int32.toUInt32 31)).toInt32) &&& 1431655765)) >>> (Int32.toUInt32 2 &&& Int32.toUInt32 31)).toInt32) &&& 858993459)) + ((Int32.toUInt32 (((p0 - (((Int32.toUInt32 p0 >>> (Int32.toUInt32 1 &&& Int32.toUInt32 31)).toInt32) &&& 1431655765)) &&& 858993459) + (((Int32.toUInt32 (p0 - (((Int32.toUInt32 p0 >>> (Int32.toUInt32 1 &&& Int32.toUInt32 31)).toInt32) &&& 1431655765)) >>> (Int32.toUInt32 2 &&& Int32.toUInt32 31)).toInt32) &&& 858993459)) >>> (Int32.toUInt32 4 &&& Int32.toUInt32 31)).toInt32)) &&& 252645135) + ((Int32.toUInt32 (((((p0 - (((Int32.toUInt32 p0 >>> (Int32.toUInt32 1 &&& Int32.toUInt32 31)).toInt32) &&& 1431655765)) &&& 858993459) + (((Int32.toUInt32 (p0 - (((Int32.toUInt32 p0 >>> (Int32.toUInt32 1 &&& Int32.toUInt32 31)).toInt32) &&& 1431655765)) >>> (Int32.toUInt32 2 &&& Int32.toUInt32 31)).toInt32) &&& 858993459)) + ((Int32.toUInt32 (((p0 - (((Int32.toUInt32 p0 >>> (Int32.toUInt32 1 &&& Int32.toUInt32 31)).toInt32) &&& 1431655765)) &&& 858993459) + (((Int32.toUInt32 (p0 - (((Int32.toUInt32 p0 >>> (Int32.toUInt32 1 &&& Int32.toUInt32 31)).toInt32) &&& 1431655765)) >>> (Int32.toUInt32 2 &&& Int32.toUInt32 31)).toInt32) &&& 858993459)) >>> (Int32.toUInt32 4 &&& Int32.toUInt32 31)).toInt32)) &&& 252645135) >>> (Int32.toUInt32 8 &&& Int32.toUInt32 31)).toInt32)))]) O dJ6_bitCount_0f7a4_40 (by decide) rfl ?_
  refine z_iload_n O dJ6_bitCount_0f7a4_41 0 rfl ?_
  refine z_iload_n O dJ6_bitCount_0f7a4_42 0 rfl ?_
  refine z_bipush (v := 16) O dJ6_bitCount_0f7a4_43 rfl ?_
  refine z_iushr O dJ6_bitCount_0f7a4_45 ?_
  refine z_iadd O dJ6_bitCount_0f7a4_46 ?_
  refine z_istore_n (lv' := [(0, .int (((((((p0 - (((Int32.toUInt32 p0 >>> (Int32.toUInt32 1 &&& Int32.toUInt32 31)).toInt32) &&& 1431655765)) &&& 858993459) + (((Int32.toUInt32 (p0 - (((Int32.toUInt32 p0 >>> (Int32.toUInt32 1 &&& Int32.toUInt32 31)).toInt32) &&& 1431655765)) >>> (Int32.toUInt32 2 &&& Int32.toUInt32 31)).toInt32) &&& 858993459)) + ((Int32.toUInt32 (((p0 - (((Int32.toUInt32 p0 >>> (Int32.toUInt32 1 &&& Int32.toUInt32 31)).toInt32) &&& 1431655765)) &&& 858993459) + (((Int32.toUInt32 (p0 - (((Int32.toUInt32 p0 >>> (Int32.toUInt32 1 &&& Int32.toUInt32 31)).toInt32) &&& 1431655765)) >>> (Int32.toUInt32 2 &&& Int32.toUInt32 31)).toInt32) &&& 858993459)) >>> (Int32.toUInt32 4 &&& Int32.toUInt32 31)).toInt32)) &&& 252645135) + ((Int32.toUInt32 (((((p0 - (((Int32.toUInt32 p0 >>> (Int32.toUInt32 1 &&& Int32.toUInt32 31)).toInt32) &&& 1431655765)) &&& 858993459) + (((Int32.toUInt32 (p0 - (((Int32.toUInt32 p0 >>> (Int32.toUInt32 1 &&& Int32.toUInt32 31)).toInt32) &&& 1431655765)) >>> (Int32.toUInt32 2 &&& Int32.toUInt32 31)).toInt32) &&& 858993459)) + ((Int32.toUInt32 (((p0 - (((Int32.toUInt32 p0 >>> (Int32.toUInt32 1 &&& Int32.toUInt32 31)).toInt32) &&& 1431655765)) &&& 858993459) + (((Int32.toUInt32 (p0 - (((Int32.toUInt32 p0 >>> (Int32.toUInt32 1 &&& Int32.toUInt32 31)).toInt32) &&& 1431655765)) >>> (Int32.toUInt32 2 &&& Int32.toUInt32 31)).toInt32) &&& 858993459)) >>> (Int32.toUInt32 4 &&& Int32.toUInt32 31)).toInt32)) &&& 252645135) >>> (Int32.toUInt32 8 &&& Int32.toUInt32 31)).toInt32)) + ((Int32.toUInt32 ((((((p0 - (((Int32.toUInt32 p0 >>> (Int32.toUInt32 1 &&& Int32.toUInt32 31)).toInt32) &&& 1431655765)) &&& 858993459) + (((Int32.toUInt32 (p0 - (((Int32.toUInt32 p0 >>> (Int32.toUInt32 1 &&& Int32.toUInt32 31)).toInt32) &&& 1431655765)) >>> (Int32.toUInt32 2 &&& Int32.toUInt32 31)).toInt32) &&& 858993459)) + ((Int32.toUInt32 (((p0 - (((Int32.toUInt32 p0 >>> (Int32.toUInt32 1 &&& Int32.toUInt32 31)).toInt32) &&& 1431655765)) &&& 858993459) + (((Int32.toUInt32 (p0 - (((Int32.toUInt32 p0 >>> (Int32.toUInt32 1 &&& Int32.toUInt32 31)).toInt32) &&& 1431655765)) >>> (Int32.toUInt32 2 &&& Int32.toUInt32 31)).toInt32) &&& 858993459)) >>> (Int32.toUInt32 4 &&& Int32.toUInt32 31)).toInt32)) &&& 252645135) + ((Int32.toUInt32 (((((p0 - (((Int32.toUInt32 p0 >>> (Int32.toUInt32 1 &&& Int32.toUInt32 31)).toInt32) &&& 1431655765)) &&& 858993459) + (((Int32.toUInt32 (p0 - (((Int32.toUInt32 p0 >>> (Int32.toUInt32 1 &&& Int32.toUInt32 31)).toInt32) &&& 1431655765)) >>> (Int32.toUInt32 2 &&& Int32.toUInt32 31)).toInt32) &&& 858993459)) + ((Int32.toUInt32 (((p0 - (((Int32.toUInt32 p0 >>> (Int32.toUInt32 1 &&& Int32.toUInt32 31)).toInt32) &&& 1431655765)) &&& 858993459) + (((Int32.toUInt32 (p0 - (((Int32.toUInt32 p0 >>> (Int32.toUInt32 1 &&& Int32.toUInt32 31)).toInt32) &&& 1431655765)) >>> (Int32.toUInt32 2 &&& Int32.toUInt32 31)).toInt32) &&& 858993459)) >>> (Int32.toUInt32 4 &&& Int32.toUInt32 31)).toInt32)) &&& 252645135) >>> (Int32.toUInt32 8 &&& Int32.toUInt32 31)).toInt32)) >>> (Int32.toUInt32 16 &&& Int32.toUInt32 31)).toInt32)))]) O dJ6_bitCount_0f7a4_47 (by decide) rfl ?_
  refine z_iload_n O dJ6_bitCount_0f7a4_48 0 rfl ?_
  refine z_bipush (v := 63) O dJ6_bitCount_0f7a4_49 rfl ?_
  refine z_iand O dJ6_bitCount_0f7a4_51 ?_
  exact z_retR O hE (fun _ h => h.1) rfl dJ6_bitCount_0f7a4_52 h
def wp_X7_fingersIn   (p1 : Int32) (p2 : Int32) (Q : Int32 → Prop) : Prop :=
 Q p1
set_option maxHeartbeats 4000000 in
set_option maxRecDepth 100000 in
theorem t_X7_fingersIn {l : Launch} {D : va_G} {cs : Nat → ClassId} {ad : Nat → Nat} (x : XS) (k : Nat) (hk : k < 8) (p1 : Int32) (p2 : Int32) (Q : Int32 → Prop) (h : wp_X7_fingersIn p1 p2 Q) : zMR l yX7_fingersIn wsX7_fingersIn ({ frames := 0, cells := 0, slots := 0, locals := 0 } : Room) (gK D cs) (XH D cs ad) x [.ref (ad (2 + k)), .int p1, .int p2] Q := by
  refine zMR_of (cc := cX7_fingersIn) (nL := 3) (ret := (some .int)) (by decide +kernel) rfl (Nat.le_of_ble_eq_true rfl) (fun C hl O hE hK hH => ?_)
  subst hl
  have hX : ∀ (x : XS) (H : Heap), z0 (XH D cs ad) C.s.heap x H → va_P D vwCl (wl 161 ad (XE cs ad x)) H := fun _ _ h => h.2
  refine z_sub (lv' := [(0, .ref (ad (2 + k))), (1, .int p1), (2, .int p2)]) [0, 1, 2] rfl ?_
  refine z_iload_n O dX7_fingersIn_0 1 rfl ?_
  exact z_retR O hE (fun _ h => h.1) rfl dX7_fingersIn_1 h
def wp_X3_fingersIn   (p1 : Int32) (p2 : Int32) (Q : Int32 → Prop) : Prop :=
 wp_X7_fingersIn p1 p2 (fun r1 : Int32 =>
 Q (r1 + 1))
set_option maxHeartbeats 4000000 in
set_option maxRecDepth 100000 in
theorem t_X3_fingersIn {l : Launch} {D : va_G} {cs : Nat → ClassId} {ad : Nat → Nat} (x : XS) (k : Nat) (hk : k < 8) (p1 : Int32) (p2 : Int32) (Q : Int32 → Prop) (h : wp_X3_fingersIn p1 p2 Q) : zMR l yX3_fingersIn wsX3_fingersIn ({ frames := 1, cells := 0, slots := 0, locals := 22 } : Room) (gK D cs) (XH D cs ad) x [.ref (ad (2 + k)), .int p1, .int p2] Q := by
  refine zMR_of (cc := cX3_fingersIn) (nL := 3) (ret := (some .int)) (by decide +kernel) rfl (Nat.le_of_ble_eq_true rfl) (fun C hl O hE hK hH => ?_)
  subst hl
  have hX : ∀ (x : XS) (H : Heap), z0 (XH D cs ad) C.s.heap x H → va_P D vwCl (wl 161 ad (XE cs ad x)) H := fun _ _ h => h.2
  obtain ⟨r0, hr0⟩ := xl_r hk
  refine z_sub (lv' := [(0, .ref (ad (2 + k))), (1, .int p1), (2, .int p2)]) [0, 1, 2] rfl ?_
  refine z_aload_n O dX3_fingersIn_0 0 rfl ?_
  refine z_iload_n O dX3_fingersIn_1 1 rfl ?_
  refine z_iload_n O dX3_fingersIn_2 2 rfl ?_
  refine z_callR (gKs D cs) hK (fun _ h => h.2) (t_X7_fingersIn x k hk p1 p2 _ h) (zr_SU (As := [.int p1, .int p2]) (rest := []) (Cn := r0.1) (hK.1.1 _ _ hr0).2 O hE.1 2 gX3_fingersIn_X7_fingersIn_s7 rfl rfl rfl (by decide +kernel) ⟨(Nat.le_of_ble_eq_true rfl), (Nat.le_of_ble_eq_true rfl)⟩ ⟨(Nat.le_of_ble_eq_true rfl), (Nat.le_of_ble_eq_true rfl)⟩ (fun H hH => z_recv hK.1 (hX _ H hH) (xk_ly hk) (xe_ly hk) hr0) rfl rfl (Nat.le_of_ble_eq_true rfl) dX3_fingersIn_3) (fun r1 h => ?_)
  refine z_iconst (v := 1) O dX3_fingersIn_6 rfl ?_
  refine z_iadd O dX3_fingersIn_7 ?_
  exact z_retR O hE (fun _ h => h.1) rfl dX3_fingersIn_8 h
def wp_X0_fingersIn   (p1 : Int32) (p2 : Int32) (Q : Int32 → Prop) : Prop :=
 wp_X3_fingersIn p1 p2 (fun r1 : Int32 =>
 Q (r1 + p2))
set_option maxHeartbeats 4000000 in
set_option maxRecDepth 100000 in
theorem t_X0_fingersIn {l : Launch} {D : va_G} {cs : Nat → ClassId} {ad : Nat → Nat} (x : XS) (k : Nat) (hk : k < 8) (p1 : Int32) (p2 : Int32) (Q : Int32 → Prop) (h : wp_X0_fingersIn p1 p2 Q) : zMR l yX0_fingersIn wsX0_fingersIn ({ frames := 2, cells := 0, slots := 0, locals := 44 } : Room) (gK D cs) (XH D cs ad) x [.ref (ad (2 + k)), .int p1, .int p2] Q := by
  refine zMR_of (cc := cX0_fingersIn) (nL := 3) (ret := (some .int)) (by decide +kernel) rfl (Nat.le_of_ble_eq_true rfl) (fun C hl O hE hK hH => ?_)
  subst hl
  have hX : ∀ (x : XS) (H : Heap), z0 (XH D cs ad) C.s.heap x H → va_P D vwCl (wl 161 ad (XE cs ad x)) H := fun _ _ h => h.2
  obtain ⟨r0, hr0⟩ := xl_r hk
  refine z_sub (lv' := [(0, .ref (ad (2 + k))), (1, .int p1), (2, .int p2)]) [0, 1, 2] rfl ?_
  refine z_aload_n O dX0_fingersIn_0 0 rfl ?_
  refine z_iload_n O dX0_fingersIn_1 1 rfl ?_
  refine z_iload_n O dX0_fingersIn_2 2 rfl ?_
  refine z_callR (gKs D cs) hK (fun _ h => h.2) (t_X3_fingersIn x k hk p1 p2 _ h) (zr_SU (As := [.int p1, .int p2]) (rest := []) (Cn := r0.1) (hK.1.1 _ _ hr0).2 O hE.1 2 gX0_fingersIn_X3_fingersIn_s7 rfl rfl rfl (by decide +kernel) ⟨(Nat.le_of_ble_eq_true rfl), (Nat.le_of_ble_eq_true rfl)⟩ ⟨(Nat.le_of_ble_eq_true rfl), (Nat.le_of_ble_eq_true rfl)⟩ (fun H hH => z_recv hK.1 (hX _ H hH) (xk_ly hk) (xe_ly hk) hr0) rfl rfl (Nat.le_of_ble_eq_true rfl) dX0_fingersIn_3) (fun r1 h => ?_)
  refine z_iload_n O dX0_fingersIn_6 2 rfl ?_
  refine z_iadd O dX0_fingersIn_7 ?_
  exact z_retR O hE (fun _ h => h.1) rfl dX0_fingersIn_8 h
def wp_X7_light   (p1 : Int32) (Q : Int32 → Prop) : Prop :=
 Q 9
set_option maxHeartbeats 4000000 in
set_option maxRecDepth 100000 in
theorem t_X7_light {l : Launch} {D : va_G} {cs : Nat → ClassId} {ad : Nat → Nat} (x : XS) (k : Nat) (hk : k < 8) (p1 : Int32) (Q : Int32 → Prop) (h : wp_X7_light p1 Q) : zMR l yX7_light wsX7_light ({ frames := 0, cells := 0, slots := 0, locals := 0 } : Room) (gK D cs) (XH D cs ad) x [.ref (ad (2 + k)), .int p1] Q := by
  refine zMR_of (cc := cX7_light) (nL := 2) (ret := (some .int)) (by decide +kernel) rfl (Nat.le_of_ble_eq_true rfl) (fun C hl O hE hK hH => ?_)
  subst hl
  have hX : ∀ (x : XS) (H : Heap), z0 (XH D cs ad) C.s.heap x H → va_P D vwCl (wl 161 ad (XE cs ad x)) H := fun _ _ h => h.2
  refine z_sub (lv' := [(0, .ref (ad (2 + k))), (1, .int p1)]) [0, 1] rfl ?_
  refine z_bipush (v := 9) O dX7_light_0 rfl ?_
  exact z_retR O hE (fun _ h => h.1) rfl dX7_light_2 h
def wp_X3_light   (p1 : Int32) (Q : Int32 → Prop) : Prop :=
 wp_X7_light p1 (fun r1 : Int32 =>
 Q (r1 + 5))
set_option maxHeartbeats 4000000 in
set_option maxRecDepth 100000 in
theorem t_X3_light {l : Launch} {D : va_G} {cs : Nat → ClassId} {ad : Nat → Nat} (x : XS) (k : Nat) (hk : k < 8) (p1 : Int32) (Q : Int32 → Prop) (h : wp_X3_light p1 Q) : zMR l yX3_light wsX3_light ({ frames := 1, cells := 0, slots := 0, locals := 21 } : Room) (gK D cs) (XH D cs ad) x [.ref (ad (2 + k)), .int p1] Q := by
  refine zMR_of (cc := cX3_light) (nL := 2) (ret := (some .int)) (by decide +kernel) rfl (Nat.le_of_ble_eq_true rfl) (fun C hl O hE hK hH => ?_)
  subst hl
  have hX : ∀ (x : XS) (H : Heap), z0 (XH D cs ad) C.s.heap x H → va_P D vwCl (wl 161 ad (XE cs ad x)) H := fun _ _ h => h.2
  obtain ⟨r0, hr0⟩ := xl_r hk
  refine z_sub (lv' := [(0, .ref (ad (2 + k))), (1, .int p1)]) [0, 1] rfl ?_
  refine z_aload_n O dX3_light_0 0 rfl ?_
  refine z_iload_n O dX3_light_1 1 rfl ?_
  refine z_callR (gKs D cs) hK (fun _ h => h.2) (t_X7_light x k hk p1 _ h) (zr_SU (As := [.int p1]) (rest := []) (Cn := r0.1) (hK.1.1 _ _ hr0).2 O hE.1 1 gX3_light_X7_light_s15 rfl rfl rfl (by decide +kernel) ⟨(Nat.le_of_ble_eq_true rfl), (Nat.le_of_ble_eq_true rfl)⟩ ⟨(Nat.le_of_ble_eq_true rfl), (Nat.le_of_ble_eq_true rfl)⟩ (fun H hH => z_recv hK.1 (hX _ H hH) (xk_ly hk) (xe_ly hk) hr0) rfl rfl (Nat.le_of_ble_eq_true rfl) dX3_light_2) (fun r1 h => ?_)
  refine z_iconst (v := 5) O dX3_light_5 rfl ?_
  refine z_iadd O dX3_light_6 ?_
  exact z_retR O hE (fun _ h => h.1) rfl dX3_light_7 h
def wp_X0_light   (p1 : Int32) (Q : Int32 → Prop) : Prop :=
 wp_X3_light p1 (fun r1 : Int32 =>
 Q (2 * r1))
set_option maxHeartbeats 4000000 in
set_option maxRecDepth 100000 in
theorem t_X0_light {l : Launch} {D : va_G} {cs : Nat → ClassId} {ad : Nat → Nat} (x : XS) (k : Nat) (hk : k < 8) (p1 : Int32) (Q : Int32 → Prop) (h : wp_X0_light p1 Q) : zMR l yX0_light wsX0_light ({ frames := 2, cells := 0, slots := 0, locals := 42 } : Room) (gK D cs) (XH D cs ad) x [.ref (ad (2 + k)), .int p1] Q := by
  refine zMR_of (cc := cX0_light) (nL := 2) (ret := (some .int)) (by decide +kernel) rfl (Nat.le_of_ble_eq_true rfl) (fun C hl O hE hK hH => ?_)
  subst hl
  have hX : ∀ (x : XS) (H : Heap), z0 (XH D cs ad) C.s.heap x H → va_P D vwCl (wl 161 ad (XE cs ad x)) H := fun _ _ h => h.2
  obtain ⟨r0, hr0⟩ := xl_r hk
  refine z_sub (lv' := [(0, .ref (ad (2 + k))), (1, .int p1)]) [0, 1] rfl ?_
  refine z_iconst (v := 2) O dX0_light_0 rfl ?_
  refine z_aload_n O dX0_light_1 0 rfl ?_
  refine z_iload_n O dX0_light_2 1 rfl ?_
  refine z_callR (gKs D cs) hK (fun _ h => h.2) (t_X3_light x k hk p1 _ h) (zr_SU (As := [.int p1]) (rest := [.int 2]) (Cn := r0.1) (hK.1.1 _ _ hr0).2 O hE.1 1 gX0_light_X3_light_s11 rfl rfl rfl (by decide +kernel) ⟨(Nat.le_of_ble_eq_true rfl), (Nat.le_of_ble_eq_true rfl)⟩ ⟨(Nat.le_of_ble_eq_true rfl), (Nat.le_of_ble_eq_true rfl)⟩ (fun H hH => z_recv hK.1 (hX _ H hH) (xk_ly hk) (xe_ly hk) hr0) rfl rfl (Nat.le_of_ble_eq_true rfl) dX0_light_3) (fun r1 h => ?_)
  refine z_imul O dX0_light_6 ?_
  exact z_retR O hE (fun _ h => h.1) rfl dX0_light_7 h
def wp_X7_tollWith   (p1 : Int32) (Q : Int32 → Prop) : Prop :=
 Q 3
set_option maxHeartbeats 4000000 in
set_option maxRecDepth 100000 in
theorem t_X7_tollWith {l : Launch} {D : va_G} {cs : Nat → ClassId} {ad : Nat → Nat} (x : XS) (k : Nat) (hk : k < 8) (p1 : Int32) (Q : Int32 → Prop) (h : wp_X7_tollWith p1 Q) : zMR l yX7_tollWith wsX7_tollWith ({ frames := 0, cells := 0, slots := 0, locals := 0 } : Room) (gK D cs) (XH D cs ad) x [.ref (ad (2 + k)), .int p1] Q := by
  refine zMR_of (cc := cX7_tollWith) (nL := 2) (ret := (some .int)) (by decide +kernel) rfl (Nat.le_of_ble_eq_true rfl) (fun C hl O hE hK hH => ?_)
  subst hl
  have hX : ∀ (x : XS) (H : Heap), z0 (XH D cs ad) C.s.heap x H → va_P D vwCl (wl 161 ad (XE cs ad x)) H := fun _ _ h => h.2
  refine z_sub (lv' := [(0, .ref (ad (2 + k))), (1, .int p1)]) [0, 1] rfl ?_
  refine z_iconst (v := 3) O dX7_tollWith_0 rfl ?_
  exact z_retR O hE (fun _ h => h.1) rfl dX7_tollWith_1 h
def wp_X3_tollWith   (p1 : Int32) (Q : Int32 → Prop) : Prop :=
 wp_X7_tollWith p1 (fun r1 : Int32 =>
 Q (r1 + p1))
set_option maxHeartbeats 4000000 in
set_option maxRecDepth 100000 in
theorem t_X3_tollWith {l : Launch} {D : va_G} {cs : Nat → ClassId} {ad : Nat → Nat} (x : XS) (k : Nat) (hk : k < 8) (p1 : Int32) (Q : Int32 → Prop) (h : wp_X3_tollWith p1 Q) : zMR l yX3_tollWith wsX3_tollWith ({ frames := 1, cells := 0, slots := 0, locals := 21 } : Room) (gK D cs) (XH D cs ad) x [.ref (ad (2 + k)), .int p1] Q := by
  refine zMR_of (cc := cX3_tollWith) (nL := 2) (ret := (some .int)) (by decide +kernel) rfl (Nat.le_of_ble_eq_true rfl) (fun C hl O hE hK hH => ?_)
  subst hl
  have hX : ∀ (x : XS) (H : Heap), z0 (XH D cs ad) C.s.heap x H → va_P D vwCl (wl 161 ad (XE cs ad x)) H := fun _ _ h => h.2
  obtain ⟨r0, hr0⟩ := xl_r hk
  refine z_sub (lv' := [(0, .ref (ad (2 + k))), (1, .int p1)]) [0, 1] rfl ?_
  refine z_aload_n O dX3_tollWith_0 0 rfl ?_
  refine z_iload_n O dX3_tollWith_1 1 rfl ?_
  refine z_callR (gKs D cs) hK (fun _ h => h.2) (t_X7_tollWith x k hk p1 _ h) (zr_SU (As := [.int p1]) (rest := []) (Cn := r0.1) (hK.1.1 _ _ hr0).2 O hE.1 1 gX3_tollWith_X7_tollWith_s18 rfl rfl rfl (by decide +kernel) ⟨(Nat.le_of_ble_eq_true rfl), (Nat.le_of_ble_eq_true rfl)⟩ ⟨(Nat.le_of_ble_eq_true rfl), (Nat.le_of_ble_eq_true rfl)⟩ (fun H hH => z_recv hK.1 (hX _ H hH) (xk_ly hk) (xe_ly hk) hr0) rfl rfl (Nat.le_of_ble_eq_true rfl) dX3_tollWith_2) (fun r1 h => ?_)
  refine z_iload_n O dX3_tollWith_5 1 rfl ?_
  refine z_iadd O dX3_tollWith_6 ?_
  exact z_retR O hE (fun _ h => h.1) rfl dX3_tollWith_7 h
def wp_X0_tollWith   (p1 : Int32) (Q : Int32 → Prop) : Prop :=
 wp_X3_tollWith p1 (fun r1 : Int32 =>
 Q (r1 + 7))
set_option maxHeartbeats 4000000 in
set_option maxRecDepth 100000 in
theorem t_X0_tollWith {l : Launch} {D : va_G} {cs : Nat → ClassId} {ad : Nat → Nat} (x : XS) (k : Nat) (hk : k < 8) (p1 : Int32) (Q : Int32 → Prop) (h : wp_X0_tollWith p1 Q) : zMR l yX0_tollWith wsX0_tollWith ({ frames := 2, cells := 0, slots := 0, locals := 42 } : Room) (gK D cs) (XH D cs ad) x [.ref (ad (2 + k)), .int p1] Q := by
  refine zMR_of (cc := cX0_tollWith) (nL := 2) (ret := (some .int)) (by decide +kernel) rfl (Nat.le_of_ble_eq_true rfl) (fun C hl O hE hK hH => ?_)
  subst hl
  have hX : ∀ (x : XS) (H : Heap), z0 (XH D cs ad) C.s.heap x H → va_P D vwCl (wl 161 ad (XE cs ad x)) H := fun _ _ h => h.2
  obtain ⟨r0, hr0⟩ := xl_r hk
  refine z_sub (lv' := [(0, .ref (ad (2 + k))), (1, .int p1)]) [0, 1] rfl ?_
  refine z_aload_n O dX0_tollWith_0 0 rfl ?_
  refine z_iload_n O dX0_tollWith_1 1 rfl ?_
  refine z_callR (gKs D cs) hK (fun _ h => h.2) (t_X3_tollWith x k hk p1 _ h) (zr_SU (As := [.int p1]) (rest := []) (Cn := r0.1) (hK.1.1 _ _ hr0).2 O hE.1 1 gX0_tollWith_X3_tollWith_s15 rfl rfl rfl (by decide +kernel) ⟨(Nat.le_of_ble_eq_true rfl), (Nat.le_of_ble_eq_true rfl)⟩ ⟨(Nat.le_of_ble_eq_true rfl), (Nat.le_of_ble_eq_true rfl)⟩ (fun H hH => z_recv hK.1 (hX _ H hH) (xk_ly hk) (xe_ly hk) hr0) rfl rfl (Nat.le_of_ble_eq_true rfl) dX0_tollWith_2) (fun r1 h => ?_)
  refine z_bipush (v := 7) O dX0_tollWith_5 rfl ?_
  refine z_iadd O dX0_tollWith_7 ?_
  exact z_retR O hE (fun _ h => h.1) rfl dX0_tollWith_8 h
def wp_X7_melts   (p1 : Int32) (Q : Int32 → Prop) : Prop :=
 Q 2
set_option maxHeartbeats 4000000 in
set_option maxRecDepth 100000 in
theorem t_X7_melts {l : Launch} {D : va_G} {cs : Nat → ClassId} {ad : Nat → Nat} (x : XS) (k : Nat) (hk : k < 8) (p1 : Int32) (Q : Int32 → Prop) (h : wp_X7_melts p1 Q) : zMR l yX7_melts wsX7_melts ({ frames := 0, cells := 0, slots := 0, locals := 0 } : Room) (gK D cs) (XH D cs ad) x [.ref (ad (2 + k)), .int p1] Q := by
  refine zMR_of (cc := cX7_melts) (nL := 2) (ret := (some .int)) (by decide +kernel) rfl (Nat.le_of_ble_eq_true rfl) (fun C hl O hE hK hH => ?_)
  subst hl
  have hX : ∀ (x : XS) (H : Heap), z0 (XH D cs ad) C.s.heap x H → va_P D vwCl (wl 161 ad (XE cs ad x)) H := fun _ _ h => h.2
  refine z_sub (lv' := [(0, .ref (ad (2 + k))), (1, .int p1)]) [0, 1] rfl ?_
  refine z_iconst (v := 2) O dX7_melts_0 rfl ?_
  exact z_retR O hE (fun _ h => h.1) rfl dX7_melts_1 h
def wp_X3_melts   (p1 : Int32) (Q : Int32 → Prop) : Prop :=
 wp_X7_melts p1 (fun r1 : Int32 =>
 Q (r1 - 1))
set_option maxHeartbeats 4000000 in
set_option maxRecDepth 100000 in
theorem t_X3_melts {l : Launch} {D : va_G} {cs : Nat → ClassId} {ad : Nat → Nat} (x : XS) (k : Nat) (hk : k < 8) (p1 : Int32) (Q : Int32 → Prop) (h : wp_X3_melts p1 Q) : zMR l yX3_melts wsX3_melts ({ frames := 1, cells := 0, slots := 0, locals := 21 } : Room) (gK D cs) (XH D cs ad) x [.ref (ad (2 + k)), .int p1] Q := by
  refine zMR_of (cc := cX3_melts) (nL := 2) (ret := (some .int)) (by decide +kernel) rfl (Nat.le_of_ble_eq_true rfl) (fun C hl O hE hK hH => ?_)
  subst hl
  have hX : ∀ (x : XS) (H : Heap), z0 (XH D cs ad) C.s.heap x H → va_P D vwCl (wl 161 ad (XE cs ad x)) H := fun _ _ h => h.2
  obtain ⟨r0, hr0⟩ := xl_r hk
  refine z_sub (lv' := [(0, .ref (ad (2 + k))), (1, .int p1)]) [0, 1] rfl ?_
  refine z_aload_n O dX3_melts_0 0 rfl ?_
  refine z_iload_n O dX3_melts_1 1 rfl ?_
  refine z_callR (gKs D cs) hK (fun _ h => h.2) (t_X7_melts x k hk p1 _ h) (zr_SU (As := [.int p1]) (rest := []) (Cn := r0.1) (hK.1.1 _ _ hr0).2 O hE.1 1 gX3_melts_X7_melts_s11 rfl rfl rfl (by decide +kernel) ⟨(Nat.le_of_ble_eq_true rfl), (Nat.le_of_ble_eq_true rfl)⟩ ⟨(Nat.le_of_ble_eq_true rfl), (Nat.le_of_ble_eq_true rfl)⟩ (fun H hH => z_recv hK.1 (hX _ H hH) (xk_ly hk) (xe_ly hk) hr0) rfl rfl (Nat.le_of_ble_eq_true rfl) dX3_melts_2) (fun r1 h => ?_)
  refine z_iconst (v := 1) O dX3_melts_5 rfl ?_
  refine z_isub O dX3_melts_6 ?_
  exact z_retR O hE (fun _ h => h.1) rfl dX3_melts_7 h
def wp_X1_melts   (p1 : Int32) (Q : Int32 → Prop) : Prop :=
 wp_X3_melts p1 (fun r1 : Int32 =>
 Q (r1 + 1))
set_option maxHeartbeats 4000000 in
set_option maxRecDepth 100000 in
theorem t_X1_melts {l : Launch} {D : va_G} {cs : Nat → ClassId} {ad : Nat → Nat} (x : XS) (k : Nat) (hk : k < 8) (p1 : Int32) (Q : Int32 → Prop) (h : wp_X1_melts p1 Q) : zMR l yX1_melts wsX1_melts ({ frames := 2, cells := 0, slots := 0, locals := 42 } : Room) (gK D cs) (XH D cs ad) x [.ref (ad (2 + k)), .int p1] Q := by
  refine zMR_of (cc := cX1_melts) (nL := 2) (ret := (some .int)) (by decide +kernel) rfl (Nat.le_of_ble_eq_true rfl) (fun C hl O hE hK hH => ?_)
  subst hl
  have hX : ∀ (x : XS) (H : Heap), z0 (XH D cs ad) C.s.heap x H → va_P D vwCl (wl 161 ad (XE cs ad x)) H := fun _ _ h => h.2
  obtain ⟨r0, hr0⟩ := xl_r hk
  refine z_sub (lv' := [(0, .ref (ad (2 + k))), (1, .int p1)]) [0, 1] rfl ?_
  refine z_aload_n O dX1_melts_0 0 rfl ?_
  refine z_iload_n O dX1_melts_1 1 rfl ?_
  refine z_callR (gKs D cs) hK (fun _ h => h.2) (t_X3_melts x k hk p1 _ h) (zr_SU (As := [.int p1]) (rest := []) (Cn := r0.1) (hK.1.1 _ _ hr0).2 O hE.1 1 gX1_melts_X3_melts_s7 rfl rfl rfl (by decide +kernel) ⟨(Nat.le_of_ble_eq_true rfl), (Nat.le_of_ble_eq_true rfl)⟩ ⟨(Nat.le_of_ble_eq_true rfl), (Nat.le_of_ble_eq_true rfl)⟩ (fun H hH => z_recv hK.1 (hX _ H hH) (xk_ly hk) (xe_ly hk) hr0) rfl rfl (Nat.le_of_ble_eq_true rfl) dX1_melts_2) (fun r1 h => ?_)
  refine z_iconst (v := 1) O dX1_melts_5 rfl ?_
  refine z_iadd O dX1_melts_6 ?_
  exact z_retR O hE (fun _ h => h.1) rfl dX1_melts_7 h
def wp_X1_light   (p1 : Int32) (Q : Int32 → Prop) : Prop :=
 wp_X3_light p1 (fun r1 : Int32 =>
 Q (r1 - p1))
set_option maxHeartbeats 4000000 in
set_option maxRecDepth 100000 in
theorem t_X1_light {l : Launch} {D : va_G} {cs : Nat → ClassId} {ad : Nat → Nat} (x : XS) (k : Nat) (hk : k < 8) (p1 : Int32) (Q : Int32 → Prop) (h : wp_X1_light p1 Q) : zMR l yX1_light wsX1_light ({ frames := 2, cells := 0, slots := 0, locals := 42 } : Room) (gK D cs) (XH D cs ad) x [.ref (ad (2 + k)), .int p1] Q := by
  refine zMR_of (cc := cX1_light) (nL := 2) (ret := (some .int)) (by decide +kernel) rfl (Nat.le_of_ble_eq_true rfl) (fun C hl O hE hK hH => ?_)
  subst hl
  have hX : ∀ (x : XS) (H : Heap), z0 (XH D cs ad) C.s.heap x H → va_P D vwCl (wl 161 ad (XE cs ad x)) H := fun _ _ h => h.2
  obtain ⟨r0, hr0⟩ := xl_r hk
  refine z_sub (lv' := [(0, .ref (ad (2 + k))), (1, .int p1)]) [0, 1] rfl ?_
  refine z_aload_n O dX1_light_0 0 rfl ?_
  refine z_iload_n O dX1_light_1 1 rfl ?_
  refine z_callR (gKs D cs) hK (fun _ h => h.2) (t_X3_light x k hk p1 _ h) (zr_SU (As := [.int p1]) (rest := []) (Cn := r0.1) (hK.1.1 _ _ hr0).2 O hE.1 1 gX1_light_X3_light_s11 rfl rfl rfl (by decide +kernel) ⟨(Nat.le_of_ble_eq_true rfl), (Nat.le_of_ble_eq_true rfl)⟩ ⟨(Nat.le_of_ble_eq_true rfl), (Nat.le_of_ble_eq_true rfl)⟩ (fun H hH => z_recv hK.1 (hX _ H hH) (xk_ly hk) (xe_ly hk) hr0) rfl rfl (Nat.le_of_ble_eq_true rfl) dX1_light_2) (fun r1 h => ?_)
  refine z_iload_n O dX1_light_5 1 rfl ?_
  refine z_isub O dX1_light_6 ?_
  exact z_retR O hE (fun _ h => h.1) rfl dX1_light_7 h
def wp_X1_tollWith   (p1 : Int32) (Q : Int32 → Prop) : Prop :=
 wp_X3_tollWith p1 (fun r1 : Int32 =>
 Q (2 * r1))
set_option maxHeartbeats 4000000 in
set_option maxRecDepth 100000 in
theorem t_X1_tollWith {l : Launch} {D : va_G} {cs : Nat → ClassId} {ad : Nat → Nat} (x : XS) (k : Nat) (hk : k < 8) (p1 : Int32) (Q : Int32 → Prop) (h : wp_X1_tollWith p1 Q) : zMR l yX1_tollWith wsX1_tollWith ({ frames := 2, cells := 0, slots := 0, locals := 42 } : Room) (gK D cs) (XH D cs ad) x [.ref (ad (2 + k)), .int p1] Q := by
  refine zMR_of (cc := cX1_tollWith) (nL := 2) (ret := (some .int)) (by decide +kernel) rfl (Nat.le_of_ble_eq_true rfl) (fun C hl O hE hK hH => ?_)
  subst hl
  have hX : ∀ (x : XS) (H : Heap), z0 (XH D cs ad) C.s.heap x H → va_P D vwCl (wl 161 ad (XE cs ad x)) H := fun _ _ h => h.2
  obtain ⟨r0, hr0⟩ := xl_r hk
  refine z_sub (lv' := [(0, .ref (ad (2 + k))), (1, .int p1)]) [0, 1] rfl ?_
  refine z_iconst (v := 2) O dX1_tollWith_0 rfl ?_
  refine z_aload_n O dX1_tollWith_1 0 rfl ?_
  refine z_iload_n O dX1_tollWith_2 1 rfl ?_
  refine z_callR (gKs D cs) hK (fun _ h => h.2) (t_X3_tollWith x k hk p1 _ h) (zr_SU (As := [.int p1]) (rest := [.int 2]) (Cn := r0.1) (hK.1.1 _ _ hr0).2 O hE.1 1 gX1_tollWith_X3_tollWith_s14 rfl rfl rfl (by decide +kernel) ⟨(Nat.le_of_ble_eq_true rfl), (Nat.le_of_ble_eq_true rfl)⟩ ⟨(Nat.le_of_ble_eq_true rfl), (Nat.le_of_ble_eq_true rfl)⟩ (fun H hH => z_recv hK.1 (hX _ H hH) (xk_ly hk) (xe_ly hk) hr0) rfl rfl (Nat.le_of_ble_eq_true rfl) dX1_tollWith_3) (fun r1 h => ?_)
  refine z_imul O dX1_tollWith_6 ?_
  exact z_retR O hE (fun _ h => h.1) rfl dX1_tollWith_7 h
def wp_X5_fingersIn   (p1 : Int32) (p2 : Int32) (Q : Int32 → Prop) : Prop :=
 wp_X7_fingersIn p1 p2 (fun r1 : Int32 =>
 Q ((if (1 : Int32) < (r1 / 2) then (r1 / 2) else (1 : Int32))))
set_option maxHeartbeats 4000000 in
set_option maxRecDepth 100000 in
theorem t_X5_fingersIn {l : Launch} {D : va_G} {cs : Nat → ClassId} {ad : Nat → Nat} (x : XS) (k : Nat) (hk : k < 8) (p1 : Int32) (p2 : Int32) (Q : Int32 → Prop) (h : wp_X5_fingersIn p1 p2 Q) : zMR l yX5_fingersIn wsX5_fingersIn ({ frames := 1, cells := 0, slots := 0, locals := 22 } : Room) (gK D cs) (XH D cs ad) x [.ref (ad (2 + k)), .int p1, .int p2] Q := by
  refine zMR_of (cc := cX5_fingersIn) (nL := 3) (ret := (some .int)) (by decide +kernel) rfl (Nat.le_of_ble_eq_true rfl) (fun C hl O hE hK hH => ?_)
  subst hl
  have hX : ∀ (x : XS) (H : Heap), z0 (XH D cs ad) C.s.heap x H → va_P D vwCl (wl 161 ad (XE cs ad x)) H := fun _ _ h => h.2
  obtain ⟨r0, hr0⟩ := xl_r hk
  refine z_sub (lv' := [(0, .ref (ad (2 + k))), (1, .int p1), (2, .int p2)]) [0, 1, 2] rfl ?_
  refine z_iconst (v := 1) O dX5_fingersIn_0 rfl ?_
  refine z_aload_n O dX5_fingersIn_1 0 rfl ?_
  refine z_iload_n O dX5_fingersIn_2 1 rfl ?_
  refine z_iload_n O dX5_fingersIn_3 2 rfl ?_
  refine z_callR (gKs D cs) hK (fun _ h => h.2) (t_X7_fingersIn x k hk p1 p2 _ h) (zr_SU (As := [.int p1, .int p2]) (rest := [.int 1]) (Cn := r0.1) (hK.1.1 _ _ hr0).2 O hE.1 2 gX5_fingersIn_X7_fingersIn_s7 rfl rfl rfl (by decide +kernel) ⟨(Nat.le_of_ble_eq_true rfl), (Nat.le_of_ble_eq_true rfl)⟩ ⟨(Nat.le_of_ble_eq_true rfl), (Nat.le_of_ble_eq_true rfl)⟩ (fun H hH => z_recv hK.1 (hX _ H hH) (xk_ly hk) (xe_ly hk) hr0) rfl rfl (Nat.le_of_ble_eq_true rfl) dX5_fingersIn_4) (fun r1 h => ?_)
  refine z_iconst (v := 2) O dX5_fingersIn_7 rfl ?_
  refine z_idiv O dX5_fingersIn_8 (by decide) ?_
  refine z_max O hE.1 (by decide +kernel) (by decide +kernel) (by decide +kernel) (by decide +kernel) ⟨(Nat.le_of_ble_eq_true rfl), (Nat.le_of_ble_eq_true rfl), Nat.zero_le _, Nat.zero_le _⟩ dX5_fingersIn_9 ?_
  exact z_retR O hE (fun _ h => h.1) rfl dX5_fingersIn_12 h
def wp_X10_fingersIn   (p1 : Int32) (p2 : Int32) (Q : Int32 → Prop) : Prop :=
 wp_X7_fingersIn p1 p2 (fun r1 : Int32 =>
 Q (2 * r1))
set_option maxHeartbeats 4000000 in
set_option maxRecDepth 100000 in
theorem t_X10_fingersIn {l : Launch} {D : va_G} {cs : Nat → ClassId} {ad : Nat → Nat} (x : XS) (k : Nat) (hk : k < 8) (p1 : Int32) (p2 : Int32) (Q : Int32 → Prop) (h : wp_X10_fingersIn p1 p2 Q) : zMR l yX10_fingersIn wsX10_fingersIn ({ frames := 1, cells := 0, slots := 0, locals := 22 } : Room) (gK D cs) (XH D cs ad) x [.ref (ad (2 + k)), .int p1, .int p2] Q := by
  refine zMR_of (cc := cX10_fingersIn) (nL := 3) (ret := (some .int)) (by decide +kernel) rfl (Nat.le_of_ble_eq_true rfl) (fun C hl O hE hK hH => ?_)
  subst hl
  have hX : ∀ (x : XS) (H : Heap), z0 (XH D cs ad) C.s.heap x H → va_P D vwCl (wl 161 ad (XE cs ad x)) H := fun _ _ h => h.2
  obtain ⟨r0, hr0⟩ := xl_r hk
  refine z_sub (lv' := [(0, .ref (ad (2 + k))), (1, .int p1), (2, .int p2)]) [0, 1, 2] rfl ?_
  refine z_iconst (v := 2) O dX10_fingersIn_0 rfl ?_
  refine z_aload_n O dX10_fingersIn_1 0 rfl ?_
  refine z_iload_n O dX10_fingersIn_2 1 rfl ?_
  refine z_iload_n O dX10_fingersIn_3 2 rfl ?_
  refine z_callR (gKs D cs) hK (fun _ h => h.2) (t_X7_fingersIn x k hk p1 p2 _ h) (zr_SU (As := [.int p1, .int p2]) (rest := [.int 2]) (Cn := r0.1) (hK.1.1 _ _ hr0).2 O hE.1 2 gX10_fingersIn_X7_fingersIn_s7 rfl rfl rfl (by decide +kernel) ⟨(Nat.le_of_ble_eq_true rfl), (Nat.le_of_ble_eq_true rfl)⟩ ⟨(Nat.le_of_ble_eq_true rfl), (Nat.le_of_ble_eq_true rfl)⟩ (fun H hH => z_recv hK.1 (hX _ H hH) (xk_ly hk) (xe_ly hk) hr0) rfl rfl (Nat.le_of_ble_eq_true rfl) dX10_fingersIn_4) (fun r1 h => ?_)
  refine z_imul O dX10_fingersIn_7 ?_
  exact z_retR O hE (fun _ h => h.1) rfl dX10_fingersIn_8 h
def wp_X8_fingersIn   (p1 : Int32) (p2 : Int32) (Q : Int32 → Prop) : Prop :=
 wp_X10_fingersIn p1 p2 (fun r1 : Int32 =>
 Q (r1 - 1))
set_option maxHeartbeats 4000000 in
set_option maxRecDepth 100000 in
theorem t_X8_fingersIn {l : Launch} {D : va_G} {cs : Nat → ClassId} {ad : Nat → Nat} (x : XS) (k : Nat) (hk : k < 8) (p1 : Int32) (p2 : Int32) (Q : Int32 → Prop) (h : wp_X8_fingersIn p1 p2 Q) : zMR l yX8_fingersIn wsX8_fingersIn ({ frames := 2, cells := 0, slots := 0, locals := 44 } : Room) (gK D cs) (XH D cs ad) x [.ref (ad (2 + k)), .int p1, .int p2] Q := by
  refine zMR_of (cc := cX8_fingersIn) (nL := 3) (ret := (some .int)) (by decide +kernel) rfl (Nat.le_of_ble_eq_true rfl) (fun C hl O hE hK hH => ?_)
  subst hl
  have hX : ∀ (x : XS) (H : Heap), z0 (XH D cs ad) C.s.heap x H → va_P D vwCl (wl 161 ad (XE cs ad x)) H := fun _ _ h => h.2
  obtain ⟨r0, hr0⟩ := xl_r hk
  refine z_sub (lv' := [(0, .ref (ad (2 + k))), (1, .int p1), (2, .int p2)]) [0, 1, 2] rfl ?_
  refine z_aload_n O dX8_fingersIn_0 0 rfl ?_
  refine z_iload_n O dX8_fingersIn_1 1 rfl ?_
  refine z_iload_n O dX8_fingersIn_2 2 rfl ?_
  refine z_callR (gKs D cs) hK (fun _ h => h.2) (t_X10_fingersIn x k hk p1 p2 _ h) (zr_SU (As := [.int p1, .int p2]) (rest := []) (Cn := r0.1) (hK.1.1 _ _ hr0).2 O hE.1 2 gX8_fingersIn_X10_fingersIn_s7 rfl rfl rfl (by decide +kernel) ⟨(Nat.le_of_ble_eq_true rfl), (Nat.le_of_ble_eq_true rfl)⟩ ⟨(Nat.le_of_ble_eq_true rfl), (Nat.le_of_ble_eq_true rfl)⟩ (fun H hH => z_recv hK.1 (hX _ H hH) (xk_ly hk) (xe_ly hk) hr0) rfl rfl (Nat.le_of_ble_eq_true rfl) dX8_fingersIn_3) (fun r1 h => ?_)
  refine z_iconst (v := 1) O dX8_fingersIn_6 rfl ?_
  refine z_isub O dX8_fingersIn_7 ?_
  exact z_retR O hE (fun _ h => h.1) rfl dX8_fingersIn_8 h
def wp_X5_melts   (p1 : Int32) (Q : Int32 → Prop) : Prop :=
 wp_X7_melts p1 (fun r1 : Int32 =>
 Q (2 * r1))
set_option maxHeartbeats 4000000 in
set_option maxRecDepth 100000 in
theorem t_X5_melts {l : Launch} {D : va_G} {cs : Nat → ClassId} {ad : Nat → Nat} (x : XS) (k : Nat) (hk : k < 8) (p1 : Int32) (Q : Int32 → Prop) (h : wp_X5_melts p1 Q) : zMR l yX5_melts wsX5_melts ({ frames := 1, cells := 0, slots := 0, locals := 21 } : Room) (gK D cs) (XH D cs ad) x [.ref (ad (2 + k)), .int p1] Q := by
  refine zMR_of (cc := cX5_melts) (nL := 2) (ret := (some .int)) (by decide +kernel) rfl (Nat.le_of_ble_eq_true rfl) (fun C hl O hE hK hH => ?_)
  subst hl
  have hX : ∀ (x : XS) (H : Heap), z0 (XH D cs ad) C.s.heap x H → va_P D vwCl (wl 161 ad (XE cs ad x)) H := fun _ _ h => h.2
  obtain ⟨r0, hr0⟩ := xl_r hk
  refine z_sub (lv' := [(0, .ref (ad (2 + k))), (1, .int p1)]) [0, 1] rfl ?_
  refine z_iconst (v := 2) O dX5_melts_0 rfl ?_
  refine z_aload_n O dX5_melts_1 0 rfl ?_
  refine z_iload_n O dX5_melts_2 1 rfl ?_
  refine z_callR (gKs D cs) hK (fun _ h => h.2) (t_X7_melts x k hk p1 _ h) (zr_SU (As := [.int p1]) (rest := [.int 2]) (Cn := r0.1) (hK.1.1 _ _ hr0).2 O hE.1 1 gX5_melts_X7_melts_s16 rfl rfl rfl (by decide +kernel) ⟨(Nat.le_of_ble_eq_true rfl), (Nat.le_of_ble_eq_true rfl)⟩ ⟨(Nat.le_of_ble_eq_true rfl), (Nat.le_of_ble_eq_true rfl)⟩ (fun H hH => z_recv hK.1 (hX _ H hH) (xk_ly hk) (xe_ly hk) hr0) rfl rfl (Nat.le_of_ble_eq_true rfl) dX5_melts_3) (fun r1 h => ?_)
  refine z_imul O dX5_melts_6 ?_
  exact z_retR O hE (fun _ h => h.1) rfl dX5_melts_7 h
def wp_X10_melts   (p1 : Int32) (Q : Int32 → Prop) : Prop :=
 wp_X7_melts p1 (fun r1 : Int32 =>
 Q (r1 + 1))
set_option maxHeartbeats 4000000 in
set_option maxRecDepth 100000 in
theorem t_X10_melts {l : Launch} {D : va_G} {cs : Nat → ClassId} {ad : Nat → Nat} (x : XS) (k : Nat) (hk : k < 8) (p1 : Int32) (Q : Int32 → Prop) (h : wp_X10_melts p1 Q) : zMR l yX10_melts wsX10_melts ({ frames := 1, cells := 0, slots := 0, locals := 21 } : Room) (gK D cs) (XH D cs ad) x [.ref (ad (2 + k)), .int p1] Q := by
  refine zMR_of (cc := cX10_melts) (nL := 2) (ret := (some .int)) (by decide +kernel) rfl (Nat.le_of_ble_eq_true rfl) (fun C hl O hE hK hH => ?_)
  subst hl
  have hX : ∀ (x : XS) (H : Heap), z0 (XH D cs ad) C.s.heap x H → va_P D vwCl (wl 161 ad (XE cs ad x)) H := fun _ _ h => h.2
  obtain ⟨r0, hr0⟩ := xl_r hk
  refine z_sub (lv' := [(0, .ref (ad (2 + k))), (1, .int p1)]) [0, 1] rfl ?_
  refine z_aload_n O dX10_melts_0 0 rfl ?_
  refine z_iload_n O dX10_melts_1 1 rfl ?_
  refine z_callR (gKs D cs) hK (fun _ h => h.2) (t_X7_melts x k hk p1 _ h) (zr_SU (As := [.int p1]) (rest := []) (Cn := r0.1) (hK.1.1 _ _ hr0).2 O hE.1 1 gX10_melts_X7_melts_s11 rfl rfl rfl (by decide +kernel) ⟨(Nat.le_of_ble_eq_true rfl), (Nat.le_of_ble_eq_true rfl)⟩ ⟨(Nat.le_of_ble_eq_true rfl), (Nat.le_of_ble_eq_true rfl)⟩ (fun H hH => z_recv hK.1 (hX _ H hH) (xk_ly hk) (xe_ly hk) hr0) rfl rfl (Nat.le_of_ble_eq_true rfl) dX10_melts_2) (fun r1 h => ?_)
  refine z_iconst (v := 1) O dX10_melts_5 rfl ?_
  refine z_iadd O dX10_melts_6 ?_
  exact z_retR O hE (fun _ h => h.1) rfl dX10_melts_7 h
def wp_X8_melts   (p1 : Int32) (Q : Int32 → Prop) : Prop :=
 wp_X10_melts p1 (fun r1 : Int32 =>
 Q (2 * r1))
set_option maxHeartbeats 4000000 in
set_option maxRecDepth 100000 in
theorem t_X8_melts {l : Launch} {D : va_G} {cs : Nat → ClassId} {ad : Nat → Nat} (x : XS) (k : Nat) (hk : k < 8) (p1 : Int32) (Q : Int32 → Prop) (h : wp_X8_melts p1 Q) : zMR l yX8_melts wsX8_melts ({ frames := 2, cells := 0, slots := 0, locals := 42 } : Room) (gK D cs) (XH D cs ad) x [.ref (ad (2 + k)), .int p1] Q := by
  refine zMR_of (cc := cX8_melts) (nL := 2) (ret := (some .int)) (by decide +kernel) rfl (Nat.le_of_ble_eq_true rfl) (fun C hl O hE hK hH => ?_)
  subst hl
  have hX : ∀ (x : XS) (H : Heap), z0 (XH D cs ad) C.s.heap x H → va_P D vwCl (wl 161 ad (XE cs ad x)) H := fun _ _ h => h.2
  obtain ⟨r0, hr0⟩ := xl_r hk
  refine z_sub (lv' := [(0, .ref (ad (2 + k))), (1, .int p1)]) [0, 1] rfl ?_
  refine z_iconst (v := 2) O dX8_melts_0 rfl ?_
  refine z_aload_n O dX8_melts_1 0 rfl ?_
  refine z_iload_n O dX8_melts_2 1 rfl ?_
  refine z_callR (gKs D cs) hK (fun _ h => h.2) (t_X10_melts x k hk p1 _ h) (zr_SU (As := [.int p1]) (rest := [.int 2]) (Cn := r0.1) (hK.1.1 _ _ hr0).2 O hE.1 1 gX8_melts_X10_melts_s11 rfl rfl rfl (by decide +kernel) ⟨(Nat.le_of_ble_eq_true rfl), (Nat.le_of_ble_eq_true rfl)⟩ ⟨(Nat.le_of_ble_eq_true rfl), (Nat.le_of_ble_eq_true rfl)⟩ (fun H hH => z_recv hK.1 (hX _ H hH) (xk_ly hk) (xe_ly hk) hr0) rfl rfl (Nat.le_of_ble_eq_true rfl) dX8_melts_3) (fun r1 h => ?_)
  refine z_imul O dX8_melts_6 ?_
  exact z_retR O hE (fun _ h => h.1) rfl dX8_melts_7 h
def wp_X4_melts   (p1 : Int32) (Q : Int32 → Prop) : Prop :=
 wp_X10_melts p1 (fun r1 : Int32 =>
 Q (r1 + p1))
set_option maxHeartbeats 4000000 in
set_option maxRecDepth 100000 in
theorem t_X4_melts {l : Launch} {D : va_G} {cs : Nat → ClassId} {ad : Nat → Nat} (x : XS) (k : Nat) (hk : k < 8) (p1 : Int32) (Q : Int32 → Prop) (h : wp_X4_melts p1 Q) : zMR l yX4_melts wsX4_melts ({ frames := 2, cells := 0, slots := 0, locals := 42 } : Room) (gK D cs) (XH D cs ad) x [.ref (ad (2 + k)), .int p1] Q := by
  refine zMR_of (cc := cX4_melts) (nL := 2) (ret := (some .int)) (by decide +kernel) rfl (Nat.le_of_ble_eq_true rfl) (fun C hl O hE hK hH => ?_)
  subst hl
  have hX : ∀ (x : XS) (H : Heap), z0 (XH D cs ad) C.s.heap x H → va_P D vwCl (wl 161 ad (XE cs ad x)) H := fun _ _ h => h.2
  obtain ⟨r0, hr0⟩ := xl_r hk
  refine z_sub (lv' := [(0, .ref (ad (2 + k))), (1, .int p1)]) [0, 1] rfl ?_
  refine z_aload_n O dX4_melts_0 0 rfl ?_
  refine z_iload_n O dX4_melts_1 1 rfl ?_
  refine z_callR (gKs D cs) hK (fun _ h => h.2) (t_X10_melts x k hk p1 _ h) (zr_SU (As := [.int p1]) (rest := []) (Cn := r0.1) (hK.1.1 _ _ hr0).2 O hE.1 1 gX4_melts_X10_melts_s7 rfl rfl rfl (by decide +kernel) ⟨(Nat.le_of_ble_eq_true rfl), (Nat.le_of_ble_eq_true rfl)⟩ ⟨(Nat.le_of_ble_eq_true rfl), (Nat.le_of_ble_eq_true rfl)⟩ (fun H hH => z_recv hK.1 (hX _ H hH) (xk_ly hk) (xe_ly hk) hr0) rfl rfl (Nat.le_of_ble_eq_true rfl) dX4_melts_2) (fun r1 h => ?_)
  refine z_iload_n O dX4_melts_5 1 rfl ?_
  refine z_iadd O dX4_melts_6 ?_
  exact z_retR O hE (fun _ h => h.1) rfl dX4_melts_7 h
def wp_X10_light   (p1 : Int32) (Q : Int32 → Prop) : Prop :=
 wp_X7_light p1 (fun r1 : Int32 =>
 Q (r1 / 3))
set_option maxHeartbeats 4000000 in
set_option maxRecDepth 100000 in
theorem t_X10_light {l : Launch} {D : va_G} {cs : Nat → ClassId} {ad : Nat → Nat} (x : XS) (k : Nat) (hk : k < 8) (p1 : Int32) (Q : Int32 → Prop) (h : wp_X10_light p1 Q) : zMR l yX10_light wsX10_light ({ frames := 1, cells := 0, slots := 0, locals := 21 } : Room) (gK D cs) (XH D cs ad) x [.ref (ad (2 + k)), .int p1] Q := by
  refine zMR_of (cc := cX10_light) (nL := 2) (ret := (some .int)) (by decide +kernel) rfl (Nat.le_of_ble_eq_true rfl) (fun C hl O hE hK hH => ?_)
  subst hl
  have hX : ∀ (x : XS) (H : Heap), z0 (XH D cs ad) C.s.heap x H → va_P D vwCl (wl 161 ad (XE cs ad x)) H := fun _ _ h => h.2
  obtain ⟨r0, hr0⟩ := xl_r hk
  refine z_sub (lv' := [(0, .ref (ad (2 + k))), (1, .int p1)]) [0, 1] rfl ?_
  refine z_aload_n O dX10_light_0 0 rfl ?_
  refine z_iload_n O dX10_light_1 1 rfl ?_
  refine z_callR (gKs D cs) hK (fun _ h => h.2) (t_X7_light x k hk p1 _ h) (zr_SU (As := [.int p1]) (rest := []) (Cn := r0.1) (hK.1.1 _ _ hr0).2 O hE.1 1 gX10_light_X7_light_s15 rfl rfl rfl (by decide +kernel) ⟨(Nat.le_of_ble_eq_true rfl), (Nat.le_of_ble_eq_true rfl)⟩ ⟨(Nat.le_of_ble_eq_true rfl), (Nat.le_of_ble_eq_true rfl)⟩ (fun H hH => z_recv hK.1 (hX _ H hH) (xk_ly hk) (xe_ly hk) hr0) rfl rfl (Nat.le_of_ble_eq_true rfl) dX10_light_2) (fun r1 h => ?_)
  refine z_iconst (v := 3) O dX10_light_5 rfl ?_
  refine z_idiv O dX10_light_6 (by decide) ?_
  exact z_retR O hE (fun _ h => h.1) rfl dX10_light_7 h
def wp_X4_light   (p1 : Int32) (Q : Int32 → Prop) : Prop :=
 Q 0
set_option maxHeartbeats 4000000 in
set_option maxRecDepth 100000 in
theorem t_X4_light {l : Launch} {D : va_G} {cs : Nat → ClassId} {ad : Nat → Nat} (x : XS) (k : Nat) (hk : k < 8) (p1 : Int32) (Q : Int32 → Prop) (h : wp_X4_light p1 Q) : zMR l yX4_light wsX4_light ({ frames := 0, cells := 0, slots := 0, locals := 0 } : Room) (gK D cs) (XH D cs ad) x [.ref (ad (2 + k)), .int p1] Q := by
  refine zMR_of (cc := cX4_light) (nL := 2) (ret := (some .int)) (by decide +kernel) rfl (Nat.le_of_ble_eq_true rfl) (fun C hl O hE hK hH => ?_)
  subst hl
  have hX : ∀ (x : XS) (H : Heap), z0 (XH D cs ad) C.s.heap x H → va_P D vwCl (wl 161 ad (XE cs ad x)) H := fun _ _ h => h.2
  refine z_sub (lv' := [(0, .ref (ad (2 + k))), (1, .int p1)]) [0, 1] rfl ?_
  refine z_iconst (v := 0) O dX4_light_0 rfl ?_
  exact z_retR O hE (fun _ h => h.1) rfl dX4_light_1 h
def wp_X10_tollWith   (p1 : Int32) (Q : Int32 → Prop) : Prop :=
 wp_X7_tollWith p1 (fun r1 : Int32 =>
 Q (r1 - 1))
set_option maxHeartbeats 4000000 in
set_option maxRecDepth 100000 in
theorem t_X10_tollWith {l : Launch} {D : va_G} {cs : Nat → ClassId} {ad : Nat → Nat} (x : XS) (k : Nat) (hk : k < 8) (p1 : Int32) (Q : Int32 → Prop) (h : wp_X10_tollWith p1 Q) : zMR l yX10_tollWith wsX10_tollWith ({ frames := 1, cells := 0, slots := 0, locals := 21 } : Room) (gK D cs) (XH D cs ad) x [.ref (ad (2 + k)), .int p1] Q := by
  refine zMR_of (cc := cX10_tollWith) (nL := 2) (ret := (some .int)) (by decide +kernel) rfl (Nat.le_of_ble_eq_true rfl) (fun C hl O hE hK hH => ?_)
  subst hl
  have hX : ∀ (x : XS) (H : Heap), z0 (XH D cs ad) C.s.heap x H → va_P D vwCl (wl 161 ad (XE cs ad x)) H := fun _ _ h => h.2
  obtain ⟨r0, hr0⟩ := xl_r hk
  refine z_sub (lv' := [(0, .ref (ad (2 + k))), (1, .int p1)]) [0, 1] rfl ?_
  refine z_aload_n O dX10_tollWith_0 0 rfl ?_
  refine z_iload_n O dX10_tollWith_1 1 rfl ?_
  refine z_callR (gKs D cs) hK (fun _ h => h.2) (t_X7_tollWith x k hk p1 _ h) (zr_SU (As := [.int p1]) (rest := []) (Cn := r0.1) (hK.1.1 _ _ hr0).2 O hE.1 1 gX10_tollWith_X7_tollWith_s18 rfl rfl rfl (by decide +kernel) ⟨(Nat.le_of_ble_eq_true rfl), (Nat.le_of_ble_eq_true rfl)⟩ ⟨(Nat.le_of_ble_eq_true rfl), (Nat.le_of_ble_eq_true rfl)⟩ (fun H hH => z_recv hK.1 (hX _ H hH) (xk_ly hk) (xe_ly hk) hr0) rfl rfl (Nat.le_of_ble_eq_true rfl) dX10_tollWith_2) (fun r1 h => ?_)
  refine z_iconst (v := 1) O dX10_tollWith_5 rfl ?_
  refine z_isub O dX10_tollWith_6 ?_
  exact z_retR O hE (fun _ h => h.1) rfl dX10_tollWith_7 h
def wp_X4_tollWith   (p1 : Int32) (Q : Int32 → Prop) : Prop :=
 wp_X10_tollWith p1 (fun r1 : Int32 =>
 Q (r1 - p1))
set_option maxHeartbeats 4000000 in
set_option maxRecDepth 100000 in
theorem t_X4_tollWith {l : Launch} {D : va_G} {cs : Nat → ClassId} {ad : Nat → Nat} (x : XS) (k : Nat) (hk : k < 8) (p1 : Int32) (Q : Int32 → Prop) (h : wp_X4_tollWith p1 Q) : zMR l yX4_tollWith wsX4_tollWith ({ frames := 2, cells := 0, slots := 0, locals := 42 } : Room) (gK D cs) (XH D cs ad) x [.ref (ad (2 + k)), .int p1] Q := by
  refine zMR_of (cc := cX4_tollWith) (nL := 2) (ret := (some .int)) (by decide +kernel) rfl (Nat.le_of_ble_eq_true rfl) (fun C hl O hE hK hH => ?_)
  subst hl
  have hX : ∀ (x : XS) (H : Heap), z0 (XH D cs ad) C.s.heap x H → va_P D vwCl (wl 161 ad (XE cs ad x)) H := fun _ _ h => h.2
  obtain ⟨r0, hr0⟩ := xl_r hk
  refine z_sub (lv' := [(0, .ref (ad (2 + k))), (1, .int p1)]) [0, 1] rfl ?_
  refine z_aload_n O dX4_tollWith_0 0 rfl ?_
  refine z_iload_n O dX4_tollWith_1 1 rfl ?_
  refine z_callR (gKs D cs) hK (fun _ h => h.2) (t_X10_tollWith x k hk p1 _ h) (zr_SU (As := [.int p1]) (rest := []) (Cn := r0.1) (hK.1.1 _ _ hr0).2 O hE.1 1 gX4_tollWith_X10_tollWith_s11 rfl rfl rfl (by decide +kernel) ⟨(Nat.le_of_ble_eq_true rfl), (Nat.le_of_ble_eq_true rfl)⟩ ⟨(Nat.le_of_ble_eq_true rfl), (Nat.le_of_ble_eq_true rfl)⟩ (fun H hH => z_recv hK.1 (hX _ H hH) (xk_ly hk) (xe_ly hk) hr0) rfl rfl (Nat.le_of_ble_eq_true rfl) dX4_tollWith_2) (fun r1 h => ?_)
  refine z_iload_n O dX4_tollWith_5 1 rfl ?_
  refine z_isub O dX4_tollWith_6 ?_
  exact z_retR O hE (fun _ h => h.1) rfl dX4_tollWith_7 h
def wp_X5_tollWith   (p1 : Int32) (Q : Int32 → Prop) : Prop :=
 wp_X7_tollWith p1 (fun r1 : Int32 =>
 Q (r1 * (p1 + 1)))
set_option maxHeartbeats 4000000 in
set_option maxRecDepth 100000 in
theorem t_X5_tollWith {l : Launch} {D : va_G} {cs : Nat → ClassId} {ad : Nat → Nat} (x : XS) (k : Nat) (hk : k < 8) (p1 : Int32) (Q : Int32 → Prop) (h : wp_X5_tollWith p1 Q) : zMR l yX5_tollWith wsX5_tollWith ({ frames := 1, cells := 0, slots := 0, locals := 21 } : Room) (gK D cs) (XH D cs ad) x [.ref (ad (2 + k)), .int p1] Q := by
  refine zMR_of (cc := cX5_tollWith) (nL := 2) (ret := (some .int)) (by decide +kernel) rfl (Nat.le_of_ble_eq_true rfl) (fun C hl O hE hK hH => ?_)
  subst hl
  have hX : ∀ (x : XS) (H : Heap), z0 (XH D cs ad) C.s.heap x H → va_P D vwCl (wl 161 ad (XE cs ad x)) H := fun _ _ h => h.2
  obtain ⟨r0, hr0⟩ := xl_r hk
  refine z_sub (lv' := [(0, .ref (ad (2 + k))), (1, .int p1)]) [0, 1] rfl ?_
  refine z_aload_n O dX5_tollWith_0 0 rfl ?_
  refine z_iload_n O dX5_tollWith_1 1 rfl ?_
  refine z_callR (gKs D cs) hK (fun _ h => h.2) (t_X7_tollWith x k hk p1 _ h) (zr_SU (As := [.int p1]) (rest := []) (Cn := r0.1) (hK.1.1 _ _ hr0).2 O hE.1 1 gX5_tollWith_X7_tollWith_s20 rfl rfl rfl (by decide +kernel) ⟨(Nat.le_of_ble_eq_true rfl), (Nat.le_of_ble_eq_true rfl)⟩ ⟨(Nat.le_of_ble_eq_true rfl), (Nat.le_of_ble_eq_true rfl)⟩ (fun H hH => z_recv hK.1 (hX _ H hH) (xk_ly hk) (xe_ly hk) hr0) rfl rfl (Nat.le_of_ble_eq_true rfl) dX5_tollWith_2) (fun r1 h => ?_)
  refine z_iload_n O dX5_tollWith_5 1 rfl ?_
  refine z_iconst (v := 1) O dX5_tollWith_6 rfl ?_
  refine z_iadd O dX5_tollWith_7 ?_
  refine z_imul O dX5_tollWith_8 ?_
  exact z_retR O hE (fun _ h => h.1) rfl dX5_tollWith_9 h
def wp_X8_tollWith   (p1 : Int32) (Q : Int32 → Prop) : Prop :=
 wp_X10_tollWith p1 (fun r1 : Int32 =>
 Q (r1 + 4))
set_option maxHeartbeats 4000000 in
set_option maxRecDepth 100000 in
theorem t_X8_tollWith {l : Launch} {D : va_G} {cs : Nat → ClassId} {ad : Nat → Nat} (x : XS) (k : Nat) (hk : k < 8) (p1 : Int32) (Q : Int32 → Prop) (h : wp_X8_tollWith p1 Q) : zMR l yX8_tollWith wsX8_tollWith ({ frames := 2, cells := 0, slots := 0, locals := 42 } : Room) (gK D cs) (XH D cs ad) x [.ref (ad (2 + k)), .int p1] Q := by
  refine zMR_of (cc := cX8_tollWith) (nL := 2) (ret := (some .int)) (by decide +kernel) rfl (Nat.le_of_ble_eq_true rfl) (fun C hl O hE hK hH => ?_)
  subst hl
  have hX : ∀ (x : XS) (H : Heap), z0 (XH D cs ad) C.s.heap x H → va_P D vwCl (wl 161 ad (XE cs ad x)) H := fun _ _ h => h.2
  obtain ⟨r0, hr0⟩ := xl_r hk
  refine z_sub (lv' := [(0, .ref (ad (2 + k))), (1, .int p1)]) [0, 1] rfl ?_
  refine z_aload_n O dX8_tollWith_0 0 rfl ?_
  refine z_iload_n O dX8_tollWith_1 1 rfl ?_
  refine z_callR (gKs D cs) hK (fun _ h => h.2) (t_X10_tollWith x k hk p1 _ h) (zr_SU (As := [.int p1]) (rest := []) (Cn := r0.1) (hK.1.1 _ _ hr0).2 O hE.1 1 gX8_tollWith_X10_tollWith_s15 rfl rfl rfl (by decide +kernel) ⟨(Nat.le_of_ble_eq_true rfl), (Nat.le_of_ble_eq_true rfl)⟩ ⟨(Nat.le_of_ble_eq_true rfl), (Nat.le_of_ble_eq_true rfl)⟩ (fun H hH => z_recv hK.1 (hX _ H hH) (xk_ly hk) (xe_ly hk) hr0) rfl rfl (Nat.le_of_ble_eq_true rfl) dX8_tollWith_2) (fun r1 h => ?_)
  refine z_iconst (v := 4) O dX8_tollWith_5 rfl ?_
  refine z_iadd O dX8_tollWith_6 ?_
  exact z_retR O hE (fun _ h => h.1) rfl dX8_tollWith_7 h
/-- fingersIn of the layer of kind k -/
def wv_fingersIn (k : Nat) (p1 : Int32) (p2 : Int32) (Q : Int32 → Prop) : Prop := if k = 0 then wp_X7_fingersIn p1 p2 Q else if k = 1 then wp_X3_fingersIn p1 p2 Q else if k = 2 then wp_X5_fingersIn p1 p2 Q else if k = 3 then wp_X10_fingersIn p1 p2 Q else if k = 4 then wp_X3_fingersIn p1 p2 Q else if k = 5 then wp_X8_fingersIn p1 p2 Q else if k = 6 then wp_X0_fingersIn p1 p2 Q else wp_X10_fingersIn p1 p2 Q
/-- melts of the layer of kind k -/
def wv_melts (k : Nat) (p1 : Int32) (Q : Int32 → Prop) : Prop := if k = 0 then wp_X7_melts p1 Q else if k = 1 then wp_X3_melts p1 Q else if k = 2 then wp_X5_melts p1 Q else if k = 3 then wp_X10_melts p1 Q else if k = 4 then wp_X1_melts p1 Q else if k = 5 then wp_X8_melts p1 Q else if k = 6 then wp_X3_melts p1 Q else wp_X4_melts p1 Q
/-- light of the layer of kind k -/
def wv_light (k : Nat) (p1 : Int32) (Q : Int32 → Prop) : Prop := if k = 0 then wp_X7_light p1 Q else if k = 1 then wp_X3_light p1 Q else if k = 2 then wp_X7_light p1 Q else if k = 3 then wp_X10_light p1 Q else if k = 4 then wp_X1_light p1 Q else if k = 5 then wp_X10_light p1 Q else if k = 6 then wp_X0_light p1 Q else wp_X4_light p1 Q
/-- tollWith of the layer of kind k -/
def wv_tollWith (k : Nat) (p1 : Int32) (Q : Int32 → Prop) : Prop := if k = 0 then wp_X7_tollWith p1 Q else if k = 1 then wp_X3_tollWith p1 Q else if k = 2 then wp_X5_tollWith p1 Q else if k = 3 then wp_X10_tollWith p1 Q else if k = 4 then wp_X1_tollWith p1 Q else if k = 5 then wp_X8_tollWith p1 Q else if k = 6 then wp_X0_tollWith p1 Q else wp_X4_tollWith p1 Q
