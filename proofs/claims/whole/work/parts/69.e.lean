/-! ===== element and toss: answers that throw ===== -/
section ZSW
variable {C : zX} {A : Nat → Prop} {nL : Nat} {lv : List (Nat × Value)} {kc ks pc : Nat} {st rest : List Value} {cc : ByteArray} {Ts : List Cond} {own : String}
variable {y : MethodName} {ws ws' : List Cond} {rm Rm : Room} {mc ms n index maxL : Nat} {bytes : ByteArray} {ret : Option FieldType} {av As : List Value} {HH : Heap → Prop} {b : Nat} {hh : List (Nat × Nat × Nat × Nat)}
theorem zr_SW (O : zOK C cc nL Ts own) (hR : C.R = Rm) (n : Nat) (hG : GoodIn Ts (va_wsS own index y ws)) (hw : ws = Cond.codeWith y bytes maxL ret hh :: ws') (hrc : rm.cells = mc) (hrs : rm.slots = ms) (hd0 : y.cls ≠ "java/lang/invoke/MethodHandle" ∧ y.cls ≠ "java/lang/invoke/VarHandle" ∧ (parseMethodDescriptor y.desc).map (fun d => d.parameters.length) = some n) (hRm : rm.frames + 1 ≤ Rm.frames ∧ 8 + (maxL + 11) + rm.locals ≤ Rm.locals) (hcs : kc + mc ≤ Rm.cells ∧ ks + ms ≤ Rm.slots) (hn : As.length = n) (hst : st = As.reverse ++ rest) (hcat : (rest.map fun v => v.category).sum ≤ 8) (hd : decode cc pc = .ok (.invokestatic index, 3)) : zRun C nL y ws rm mc ms pc kc ks As st rest HH := by
  subst hR
  intro Pc Qc free hM hbl H locs ls hH hls hpre
  exact vx_runSW ⟨O.1, O.2.1, O.2.2.1, O.2.2.2.1, O.2.2.2.2.1⟩ hM (vx_cwSW n O.2.2.2.2.1 hG hw hrc hrs hd0 hRm) ⟨hbl, hpre⟩ rfl hn hls hst (lv_room hcat) hd hcs
end ZSW
section TOSS
variable {l : Launch} {D : va_G} {cs : Nat → ClassId} {ad : Nat → Nat} {s0 : State}
def wp_X11_toss (x : XS) (p1 : Int32) (Q : Int32 → Prop) : Prop :=
 wp_X11_shelfAt x p1 (fun r : Option Nat => match r with
 | none => Q (-1)
 | some o1 => xk o1 9 ∧
 wp_X9_lacks x o1 1 (fun r2 : Int32 =>
 ((¬ r2 = 0 →
 Q r2) ∧ (r2 = 0 →
 wp_X11_kindOf x (x.1 o1 2) (fun r : Option Nat => match r with
 | none => False
 | some o3 => o3 < 8 ∧
 wp_X11_caughtFailure o3 (x.1 o1 3) Q)))))
set_option maxHeartbeats 4000000 in
set_option maxRecDepth 100000 in
theorem t_X11_toss (hl : l.stackTraces = false) (x : XS) (p1 : Int32) (Q : Int32 → Prop) (h : wp_X11_toss x p1 Q) : zWR l yX11_toss wsX11_toss ({ frames := 8, cells := 1, slots := 6, locals := 124 } : Room) (gX D cs s0) (XU D cs ad s0) (fun _ => False) x [.ref (ad 0), .int p1] 1 6 (fun r x' => x' = x ∧ Q r) := by
  refine zWR_of (cc := cX11_toss) (nL := 4) (ret := (some .int)) (by decide +kernel) rfl (Nat.le_of_ble_eq_true rfl) (fun C hC O hE hK => ?_)
  subst hC
  have hX : ∀ (x : XS) (H : Heap), XU D cs ad s0 x H → va_P D vwCl (wl 161 ad (XE cs ad x)) H := fun _ _ h => h.1
  have i11 : ∀ w ∈ wsX110, w ∈ wsX11_toss := by decide +kernel
  have i9 : ∀ w ∈ wsX90, w ∈ wsX11_toss := by decide +kernel
  have hA : ∀ q, C.s.heap.size ≤ q → zA (fun _ => False) C.s.heap.size q := fun q h => Or.inr h
  refine z_sub (lv' := [(0, .ref (ad 0)), (1, .int p1)]) [0, 1] rfl ?_
  refine z_aload_n O dX11_toss_0 0 rfl ?_
  refine z_iload_n O dX11_toss_1 1 rfl ?_
  refine z_callE (gKs D cs) hK.1 (fun _ h => h.1) (t_X11_shelfAt x  p1 _ h) (zr_V (As := [.int p1]) (rest := []) O hE.1 1 gX11_toss_X11_shelfAt rfl rfl rfl (by decide +kernel) ⟨(Nat.le_of_ble_eq_true rfl), (Nat.le_of_ble_eq_true rfl)⟩ ⟨(Nat.le_of_ble_eq_true rfl), (Nat.le_of_ble_eq_true rfl)⟩ (fun H hH => z_recv hK.1.1 (hX _ H hH) (by decide) xe_11 rfl) rfl rfl (Nat.le_of_ble_eq_true rfl) dX11_toss_2) (fun h => ?_) (fun o1 h => ?_)
  · refine z_astore_nN (lv' := [(2, .null), (0, .ref (ad 0)), (1, .int p1)]) O dX11_toss_5 (by decide) rfl ?_
    refine z_aload_nN O dX11_toss_6 0 rfl ?_
    refine z_ifnonnullN O dX11_toss_7 ?_
    refine z_iconst (v := -1) O dX11_toss_10 rfl ?_
    exact z_retWR O hE (Nat.le_of_ble_eq_true rfl) (Nat.le_of_ble_eq_true rfl) rfl dX11_toss_11 ⟨rfl, h⟩
  · have ho1 := h.1
    replace h := h.2
    refine z_astore_n (lv' := [(2, .ref (ad o1)), (0, .ref (ad 0)), (1, .int p1)]) O dX11_toss_5 (by decide) rfl ?_
    refine z_aload_n O dX11_toss_6 0 rfl ?_
    refine z_ifnonnull O 12 dX11_toss_7 (by decide) ?_
    refine z_aload_n O dX11_toss_12 0 rfl ?_
    refine z_iconst (v := 1) O dX11_toss_13 rfl ?_
    refine z_callR (gKs D cs) hK.1 (fun _ h => h.1) (t_X9_lacks x o1 ho1 1 _ h) (zr_V (As := [.int 1]) (rest := []) O hE.1 1 gX11_toss_X9_lacks rfl rfl rfl (by decide +kernel) ⟨(Nat.le_of_ble_eq_true rfl), (Nat.le_of_ble_eq_true rfl)⟩ ⟨(Nat.le_of_ble_eq_true rfl), (Nat.le_of_ble_eq_true rfl)⟩ (fun H hH => z_recv hK.1.1 (hX _ H hH) (ho1).1 (xe_9 ho1) rfl) rfl rfl (Nat.le_of_ble_eq_true rfl) dX11_toss_14) (fun r2 h => ?_)
    refine z_istore_n (lv' := [(3, .int r2), (2, .ref (ad o1)), (0, .ref (ad 0)), (1, .int p1)]) O dX11_toss_17 (by decide) rfl ?_
    refine z_iload_n O dX11_toss_18 0 rfl ?_
    refine z_if_ne O 43 dX11_toss_19 (by decide) (fun c5 => ?_) (fun c5 => ?_)
    · replace h := h.1 c5
      refine z_iload_n O dX11_toss_43 0 rfl ?_
      exact z_retWR O hE (Nat.le_of_ble_eq_true rfl) (Nat.le_of_ble_eq_true rfl) rfl dX11_toss_44 ⟨rfl, h⟩
    · replace h := h.2 c5
      refine z_aload_n O dX11_toss_22 2 rfl ?_
      refine z_getf O hK.1.1 (hX _) (by decide) xe_11 rfl i11 0 (by decide) (by decide +kernel) rfl dX11_toss_23 ?_
      refine z_aload_n O dX11_toss_26 1 rfl ?_
      refine z_getfN O hK.1.1 (hX _) (ho1).1 (xe_9 ho1) rfl i9 2 (by decide) (hK.1.2.1 _ (List.mem_of_getElem? (i := 5) rfl)) rfl dX11_toss_27 ?_
      refine z_callE (gKs D cs) hK.1 (fun _ h => h.1) (t_X11_kindOf x  (x.1 o1 2) _ h) (zr_SS (As := [.ref (ad 1), .int (x.1 o1 2)]) (rest := []) O hE.1 2 gX11_toss_X11_kindOf rfl rfl rfl (by decide +kernel) ⟨(Nat.le_of_ble_eq_true rfl), (Nat.le_of_ble_eq_true rfl)⟩ ⟨(Nat.le_of_ble_eq_true rfl), (Nat.le_of_ble_eq_true rfl)⟩ rfl rfl (Nat.le_of_ble_eq_true rfl) dX11_toss_30) (fun h => False.elim h) (fun o3 h => ?_)
      have ho3 := h.1
      replace h := h.2
      refine z_aload_n O dX11_toss_33 1 rfl ?_
      refine z_getfN O hK.1.1 (hX _) (ho1).1 (xe_9 ho1) rfl i9 3 (by decide) (hK.1.2.1 _ (List.mem_of_getElem? (i := 6) rfl)) rfl dX11_toss_34 ?_
      refine z_callWR (fun u => u) (gXs D cs s0) hK (fun _ h => h) (fun _ _ _ _ _ _ h => h) (fun _ h => h.elim) hA (t_X11_caughtFailure hl x o3 ho3 (x.1 o1 3) Q h) (zr_SW (As := [.ref (ad (2 + o3)), .int (x.1 o1 3)]) (rest := []) O hE.1 2 gX11_toss_X11_caughtFailure rfl rfl rfl (by decide +kernel) ⟨(Nat.le_of_ble_eq_true rfl), (Nat.le_of_ble_eq_true rfl)⟩ ⟨(Nat.le_of_ble_eq_true rfl), (Nat.le_of_ble_eq_true rfl)⟩ rfl rfl (Nat.le_of_ble_eq_true rfl) dX11_toss_37) (fun r u hu => ?_)
      obtain ⟨rfl, hu⟩ := hu
      refine z_goto O 44 dX11_toss_40 (by decide) ?_
      exact z_retWR O hE (Nat.le_of_ble_eq_true rfl) (Nat.le_of_ble_eq_true rfl) rfl dX11_toss_44 ⟨rfl, hu⟩
end TOSS
/-- a method that answers a long or throws -/
def zTL {σ : Type} (l : Launch) (y : MethodName) (ws : List Cond) (rm : Room) (Ks : State → Prop) (Hx : σ → Heap → Prop) (x : σ) (av : List Value) (Q : Int64 → Prop) (P : String → Prop) : Prop := vx_Met l y ws rm (va_Pc av (fun U => Hx x U.heap ∧ Ks U)) (va_Ql (fun (v : Int64) (_ : Unit) => Q v) (fun _ _ => True) (fun _ => False)) (vx_X (fun _ : Unit => True) (fun E _ _ => P E) (fun _ => False)) 1 6 (fun _ => False)
def zGo (C : zX) (Q : Int64 → Prop) (P : String → Prop) : Prop := C.2.2.2.2.2.2.2.2.2.2 = vx_MQ C.2.2.2.2.2.2.2.1 (va_Ql (fun (v : Int64) (_ : Unit) => Q v) (fun _ _ => True) (fun _ => False)) (vx_X (fun _ : Unit => True) (fun E _ _ => P E) (fun _ => False)) C.2.2.2.2.2.2.1 C.s 1 6 (fun _ => False)
section ZTL
variable {σ : Type} {l : Launch} {y : MethodName} {ws ws' : List Cond} {rm Rm : Room} {Ks : State → Prop} {Hx : σ → Heap → Prop} {x : σ} {av : List Value} {cc : ByteArray} {nL : Nat} {Q : Int64 → Prop} {P : String → Prop}
theorem zTL_of (hy : plainName y.cls = true) (hw : ws = Cond.code y cc nL (some .long) :: ws') (hlen : (lg_sl av).length ≤ nL)
    (body : ∀ C : zX, C.2.1 = l → zOK C cc nL ws y.cls → C.R = rm → C.2.2.2.2.2.2.2.2.1.sig.returnType = some .long → zGo C Q P → (∀ z ∈ C.2.2.2.2.2.2.2.2.2.1.exceptionTable.toList, False) → Ks C.s → Hx x C.s.heap → Z C (fun _ => False) (z0 Hx C.s.heap) nL x (lv_args 0 av) 0 0 0 []) : zTL l y ws rm Ks Hx x av Q P := by
  refine vx_ofW (cc := cc) (maxL := nL) (ret := some .long) hy hw (fun p e s m args below meth c s₁ B hml htab hv => ?_)
  obtain ⟨rfl, h1, h2⟩ := hv
  have hl := lv_entry av (n := nL) hlen
  rw [lg_entry_eq]
  exact body (p, l, e, _, s, m, av.toArray, below, meth, c, vx_MQ below (va_Ql (fun (v : Int64) (_ : Unit) => Q v) (fun _ _ => True) (fun _ => False)) (vx_X (fun _ : Unit => True) (fun E _ _ => P E) (fun _ => False)) av.toArray s 1 6 (fun _ => False)) rfl ⟨B.exec, B.bytes, hml, findClass_of_methodNamed B.named, atoms_spec (ws := ws) B.pre, B.notSynchronized⟩ rfl B.returns rfl htab h2 h1 s.heap [] _ ⟨rfl, h1⟩ va_S.rf hl
variable {C : zX} {Ts : List Cond} {own : String} {lv : List (Nat × Value)} {pc : Nat}
theorem z_retLX {v : Int64} {kc ks : Nat} (O : zOK C cc nL Ts own) (hret : C.2.2.2.2.2.2.2.2.1.sig.returnType = some .long) (hgo : zGo C Q P) (h1 : kc ≤ 1) (h2 : ks ≤ 6) (hd : decode cc pc = .ok (.lreturn, 1)) (hq : Q v) : Z C (fun _ => False) (z0 Hx C.s.heap) nL x lv kc ks pc [.long v] := by
  intro H locs ls hH hS hl
  unfold zW
  rw [hgo]
  exact vx_ret (W.widen h1 h2 (W.lret O.1 O.2.1 hret (fun t ht _ => ⟨⟨v, (), rfl, hq, trivial⟩, hS.F ht⟩) hS.2.2 hd O.2.2.2.2.2))
variable {D : va_G} {cs : Nat → ClassId} {s0 : State}
def badX (cls : String) : List Cond := [.castable cls cls, .declares (Bundle.initS "java/lang/RuntimeException"), .declares (Bundle.initS "java/lang/Exception"), .declares (Bundle.initS Bundle.tN)]
theorem badX_at {cls : String} {U : State} (hK : gX D cs s0 U) (hcls : cls ∈ [eIS, eIA, eUO]) (a : Array Value) : ∀ w ∈ badX cls, w.before a U = true :=
  vx_c (va_Nw.use rfl (hK.2.2.2.1 cls hcls)) (vx_c (va_Nw.use rfl (hK.2.2.2.2.1 _ (List.mem_of_getElem? (i := 0) rfl))) (vx_c (va_Nw.use rfl (hK.2.2.2.2.1 _ (List.mem_of_getElem? (i := 1) rfl))) (vx_c (va_Nw.use rfl (hK.2.2.2.2.1 _ (List.mem_of_getElem? (i := 2) rfl))) vx_n)))
theorem z_thrS (O : zOK C cc nL Ts own) (hR : C.R = Rm) (hgo : zGo C Q P) (htab : ∀ z ∈ C.2.2.2.2.2.2.2.2.2.1.exceptionTable.toList, False) (hl : C.2.1.stackTraces = false) (hK : gX D cs s0 C.s) (hUh : hU s0 C.s.heap) {cls text : String} {ik is ic : Nat} (hcls : cls ∈ [eIS, eIA, eUO]) (hfit : Bundle.fit cls = true) (hstr : (own, is, text) ∈ strX) (hk : Cond.classLink own ik cls ∈ Ts) (hini : Cond.initialized cls ∈ Ts) (hat : ∀ w ∈ (vx_atS own ic cls eUp).filter goodWord, w ∈ Ts) (hbad : ∀ w ∈ (vx_atS own ic cls eUp).filter (fun w => !goodWord w), w ∈ badX cls) (hgood : ∀ w ∈ Cond.classLink own ik cls :: Cond.initialized cls :: vx_atS own ic cls eUp, vx_ot w = true) (hRm : 5 < Rm.frames ∧ 82 ≤ Rm.locals ∧ 1 ≤ Rm.cells ∧ 6 ≤ Rm.slots)
    (d0 : decode cc pc = .ok (.new ik, 3)) (d3 : decode cc (pc + 3) = .ok (.dup, 1)) (d4 : decode cc (pc + 4) = .ok (.ldc is, 2)) (d6 : decode cc (pc + 6) = .ok (.invokespecial ic, 3)) (d9 : decode cc (pc + 9) = .ok (.athrow, 1)) (hP : P cls) : Z C (fun _ => False) (z0 Hx C.s.heap) nL x lv 0 0 pc [] := by
  subst hR
  intro H locs ls hH hS hls
  unfold zW
  rw [hgo]
  obtain ⟨sa, hsa⟩ := hK.2.2.1 _ hstr
  exact vx_throwS (cc := cc) (own := own) (cls := cls) (names := eUp) (A := fun _ => False) O.1 O.2.1 hl O.2.2.2.1 hfit (by decide +kernel) (O.2.2.2.2.1 _ hk) (O.2.2.2.2.1 _ hini) hsa (vx_hat (B := badX cls) (fun w hw => O.2.2.2.2.1 w (hat w hw)) hbad (badX_at hK hcls _)) hgood ((vx_Zq.moved hK.2.1 hUh.1).narrow (fun _ h => h.elim)) ((vx_Zq.moved hK.2.1 hUh.2).narrow (fun _ h => h.elim)) hS (hls.1.trans O.2.2.1.symm) d0 d3 d4 d6 d9 (fun z hz => (htab z hz).elim) hRm.1 hRm.2.1 (by have := hRm.2.2.1; omega) (by have := hRm.2.2.2; omega) O.2.2.2.2.2 (fun t _ h1 h2 => ⟨(), trivial, hP, by rw [← hH.1]; exact h1, fun q hq _ => by rw [← hH.1] at hq ⊢; exact h2 q hq⟩) hS.2.2 (Nat.le_refl _) (Nat.le_refl _)
theorem z_thrSW (O : zOK C cc nL Ts own) (hR : C.R = Rm) (hgo : zGo C Q P) (htab : ∀ z ∈ C.2.2.2.2.2.2.2.2.2.1.exceptionTable.toList, False) (hl : C.2.1.stackTraces = false) (hK : gX D cs s0 C.s) (hUh : hU s0 C.s.heap) {cls text : String} {ik is ic : Nat} (hcls : cls ∈ [eIS, eIA, eUO]) (hfit : Bundle.fit cls = true) (hstr : (own, is, text) ∈ strX) (hk : Cond.classLink own ik cls ∈ Ts) (hini : Cond.initialized cls ∈ Ts) (hat : ∀ w ∈ (vx_atS own ic cls eUp).filter goodWord, w ∈ Ts) (hbad : ∀ w ∈ (vx_atS own ic cls eUp).filter (fun w => !goodWord w), w ∈ badX cls) (hgood : ∀ w ∈ Cond.classLink own ik cls :: Cond.initialized cls :: vx_atS own ic cls eUp, vx_ot w = true) (hRm : 5 < Rm.frames ∧ 82 ≤ Rm.locals ∧ 1 ≤ Rm.cells ∧ 6 ≤ Rm.slots)
    (d0 : decode cc pc = .ok (.new ik, 3)) (d3 : decode cc (pc + 3) = .ok (.dup, 1)) (d4 : decode cc (pc + 4) = .ok (.ldc_w is, 3)) (d7 : decode cc (pc + 7) = .ok (.invokespecial ic, 3)) (d10 : decode cc (pc + 10) = .ok (.athrow, 1)) (hP : P cls) : Z C (fun _ => False) (z0 Hx C.s.heap) nL x lv 0 0 pc [] := by
  subst hR
  intro H locs ls hH hS hls
  unfold zW
  rw [hgo]
  obtain ⟨sa, hsa⟩ := hK.2.2.1 _ hstr
  exact vx_throwSW (cc := cc) (own := own) (cls := cls) (names := eUp) (A := fun _ => False) O.1 O.2.1 hl O.2.2.2.1 hfit (by decide +kernel) (O.2.2.2.2.1 _ hk) (O.2.2.2.2.1 _ hini) hsa (vx_hat (B := badX cls) (fun w hw => O.2.2.2.2.1 w (hat w hw)) hbad (badX_at hK hcls _)) hgood ((vx_Zq.moved hK.2.1 hUh.1).narrow (fun _ h => h.elim)) ((vx_Zq.moved hK.2.1 hUh.2).narrow (fun _ h => h.elim)) hS (hls.1.trans O.2.2.1.symm) d0 d3 d4 d7 d10 (fun z hz => (htab z hz).elim) hRm.1 hRm.2.1 (by have := hRm.2.2.1; omega) (by have := hRm.2.2.2; omega) O.2.2.2.2.2 (fun t _ h1 h2 => ⟨(), trivial, hP, by rw [← hH.1]; exact h1, fun q hq _ => by rw [← hH.1] at hq ⊢; exact h2 q hq⟩) hS.2.2 (Nat.le_refl _) (Nat.le_refl _)
end ZTL
section ELEM
variable {l : Launch} {D : va_G} {cs : Nat → ClassId} {ad : Nat → Nat} {s0 : State}
def wp_X11_element (x : XS) (p1 p2 : Int32) (Q : Int64 → Prop) (P : String → Prop) : Prop :=
 wp_X11_shelfAt x p1 (fun r : Option Nat => match r with
 | none => P eIA
 | some o1 => xk o1 9 ∧
 wp_X9_lacks x o1 2 (fun r2 : Int32 =>
 ((¬ r2 = 0 → P eIS) ∧ (r2 = 0 →
 wp_X9_hasPlace x o1 p2 (fun r3 : Int32 =>
 ((r3 = 0 → P eIS) ∧ (¬ r3 = 0 → vp_in p2 100 ∧ Q (Int32.toInt64 (x.2.1 (o1 + 1) (Int32.toNatClampNeg p2))))))))))
set_option maxHeartbeats 4000000 in
set_option maxRecDepth 100000 in
theorem t_X11_element (hl : l.stackTraces = false) (x : XS) (p1 p2 : Int32) (Q : Int64 → Prop) (P : String → Prop) (h : wp_X11_element x p1 p2 Q P) : zTL l yX11_element wsX11_element ({ frames := 6, cells := 1, slots := 6, locals := 82 } : Room) (gX D cs s0) (XU D cs ad s0) x [.ref (ad 0), .int p1, .int p2] Q P := by
  refine zTL_of (cc := cX11_element) (nL := 4) (by decide +kernel) rfl (Nat.le_of_ble_eq_true rfl) (fun C hC O hR hret hgo htab hK hH0 => ?_)
  subst hC
  have hX : ∀ (x : XS) (H : Heap), z0 (XU D cs ad s0) C.s.heap x H → va_P D vwCl (wl 161 ad (XE cs ad x)) H := fun _ _ h => h.2.1
  have i11 : ∀ w ∈ wsX110, w ∈ wsX11_element := by decide +kernel
  have i9 : ∀ w ∈ wsX90, w ∈ wsX11_element := by decide +kernel
  refine z_sub (lv' := [(0, .ref (ad 0)), (1, .int p1), (2, .int p2)]) [0, 1, 2] rfl ?_
  refine z_aload_n O dX11_element_0 0 rfl ?_
  refine z_iload_n O dX11_element_1 1 rfl ?_
  refine z_callE (gKs D cs) hK.1 (fun _ h => h.2.1) (t_X11_shelfAt x  p1 _ h) (zr_V (As := [.int p1]) (rest := []) O hR 1 gX11_element_X11_shelfAt rfl rfl rfl (by decide +kernel) ⟨(Nat.le_of_ble_eq_true rfl), (Nat.le_of_ble_eq_true rfl)⟩ ⟨(Nat.le_of_ble_eq_true rfl), (Nat.le_of_ble_eq_true rfl)⟩ (fun H hH => z_recv hK.1.1 (hX _ H hH) (by decide) xe_11 rfl) rfl rfl (Nat.le_of_ble_eq_true rfl) dX11_element_2) (fun h => ?_) (fun o1 h => ?_)
  · refine z_astore_nN (lv' := [(3, .null), (0, .ref (ad 0)), (1, .int p1), (2, .int p2)]) O dX11_element_5 (by decide) rfl ?_
    refine z_aload_nN O dX11_element_6 0 rfl ?_
    refine z_ifnonnullN O dX11_element_7 ?_
    exact z_thrS O hR hgo htab hl hK hH0.2 (by simp) (by decide +kernel) (List.mem_of_getElem? (i := 0) rfl) (by decide +kernel) (by decide +kernel) (fun w hw => List.mem_cons_of_mem _ (List.mem_append_left _ (List.mem_append_right _ hw))) (by decide +kernel) (by decide +kernel) ⟨by decide, by decide, by decide, by decide⟩ dX11_element_10 dX11_element_13 dX11_element_14 dX11_element_16 dX11_element_19 h
  · have ho1 := h.1
    replace h := h.2
    refine z_astore_n (lv' := [(3, .ref (ad o1)), (0, .ref (ad 0)), (1, .int p1), (2, .int p2)]) O dX11_element_5 (by decide) rfl ?_
    refine z_aload_n O dX11_element_6 0 rfl ?_
    refine z_ifnonnull O 20 dX11_element_7 (by decide) ?_
    refine z_aload_n O dX11_element_20 0 rfl ?_
    refine z_iconst (v := 2) O dX11_element_21 rfl ?_
    refine z_callR (gKs D cs) hK.1 (fun _ h => h.2.1) (t_X9_lacks x o1 ho1 2 _ h) (zr_V (As := [.int 2]) (rest := []) O hR 1 gX11_element_X9_lacks rfl rfl rfl (by decide +kernel) ⟨(Nat.le_of_ble_eq_true rfl), (Nat.le_of_ble_eq_true rfl)⟩ ⟨(Nat.le_of_ble_eq_true rfl), (Nat.le_of_ble_eq_true rfl)⟩ (fun H hH => z_recv hK.1.1 (hX _ H hH) (ho1).1 (xe_9 ho1) rfl) rfl rfl (Nat.le_of_ble_eq_true rfl) dX11_element_22) (fun r2 h => ?_)
    refine z_if_eq O 39 dX11_element_25 (by decide) (fun c5 => ?_) (fun c5 => ?_)
    · replace h := h.2 c5
      refine z_aload_n O dX11_element_39 0 rfl ?_
      refine z_iload_n O dX11_element_40 3 rfl ?_
      refine z_callR (gKs D cs) hK.1 (fun _ h => h.2.1) (t_X9_hasPlace x o1 ho1 p2 _ h) (zr_V (As := [.int p2]) (rest := []) O hR 1 gX11_element_X9_hasPlace rfl rfl rfl (by decide +kernel) ⟨(Nat.le_of_ble_eq_true rfl), (Nat.le_of_ble_eq_true rfl)⟩ ⟨(Nat.le_of_ble_eq_true rfl), (Nat.le_of_ble_eq_true rfl)⟩ (fun H hH => z_recv hK.1.1 (hX _ H hH) (ho1).1 (xe_9 ho1) rfl) rfl rfl (Nat.le_of_ble_eq_true rfl) dX11_element_41) (fun r3 h => ?_)
      refine z_if_ne O 58 dX11_element_44 (by decide) (fun c6 => ?_) (fun c6 => ?_)
      · obtain ⟨hin, h⟩ := h.2 c6
        refine z_aload_n O dX11_element_58 0 rfl ?_
        refine z_getfN O hK.1.1 (hX _) (ho1).1 (xe_9 ho1) rfl i9 0 (by decide) (hK.1.2.1 _ (List.mem_of_getElem? (i := 3) rfl)) rfl dX11_element_59 ?_
        refine z_iload_n O dX11_element_62 3 rfl ?_
        refine z_iald O hK.1.1 (hX _) 0 (xk_s ho1).1 (xe_20 (xk_s ho1)) rfl (xin (xk_sl ho1) hin) dX11_element_63 ?_
        refine z_i2l O dX11_element_64 ?_
        exact z_retLX O hret hgo (Nat.zero_le _) (Nat.zero_le _) dX11_element_65 h
      · exact z_thrSW O hR hgo htab hl hK hH0.2 (by simp) (by decide +kernel) (List.mem_of_getElem? (i := 2) rfl) (by decide +kernel) (by decide +kernel) (fun w hw => List.mem_cons_of_mem _ (List.mem_append_right _ hw)) (by decide +kernel) (by decide +kernel) ⟨by decide, by decide, by decide, by decide⟩ dX11_element_47 dX11_element_50 dX11_element_51 dX11_element_54 dX11_element_57 (h.1 c6)
    · exact z_thrSW O hR hgo htab hl hK hH0.2 (by simp) (by decide +kernel) (List.mem_of_getElem? (i := 1) rfl) (by decide +kernel) (by decide +kernel) (fun w hw => List.mem_cons_of_mem _ (List.mem_append_right _ hw)) (by decide +kernel) (by decide +kernel) ⟨by decide, by decide, by decide, by decide⟩ dX11_element_28 dX11_element_31 dX11_element_32 dX11_element_35 dX11_element_38 (h.1 c5)
end ELEM
