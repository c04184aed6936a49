/-! ===== worlds that grow: what constructors do ===== -/
/-- n cells, their places, what they are -/
abbrev GS := Nat × (Nat → Nat) × (Nat → va_E)
def GH (D : va_G) (g : GS) (H : Heap) : Prop := va_P D vwCl (wl g.1 g.2.1 g.2.2) H
/-- a cell more; k is how many there were -/
def gUp (k : Nat) (g : GS) (q : Nat) (e : va_E) : GS := (k + 1, va_up g.2.1 k q, va_up g.2.2 k e)
def gSet (g : GS) (i : Nat) (e : va_E) : GS := (g.1, g.2.1, va_up g.2.2 i e)
def GI (A : Nat → Prop) (g : GS) : Prop := wInj g.1 g.2.1 ∧ ∀ q, wB g.1 g.2.1 q → A q
/-- the last cell gone over into m cells of its own -/
def gJoin (g : GS) (n m : Nat) (u : Nat → Nat) (E : Nat → va_E) : GS := (n + m, fun i => if i < n then g.2.1 i else u (i - n), fun i => if i < n then g.2.2 i else E (i - n))
theorem wl_cong {n : Nat} {ad ad' : Nat → Nat} {e e' : Nat → va_E} (h : ∀ i, i < n → ad i = ad' i ∧ e i = e' i) : wl n ad e = wl n ad' e' := by
  unfold wl
  exact List.map_congr_left (fun i hi => by rw [(h i (List.mem_range.mp hi)).1, (h i (List.mem_range.mp hi)).2])
theorem wl_push (g : GS) (q : Nat) (e : va_E) : wl g.1 g.2.1 g.2.2 ++ [(q, e)] = wl (gUp g.1 g q e).1 (gUp g.1 g q e).2.1 (gUp g.1 g q e).2.2 := by
  have h := wl_cong (n := g.1) (ad := g.2.1) (ad' := (gUp g.1 g q e).2.1) (e := g.2.2) (e' := (gUp g.1 g q e).2.2) (fun i hi => by
    have hne : ¬ i = g.1 := by omega
    simp [gUp, va_up, hne])
  rw [h]
  show _ = (List.range (g.1 + 1)).map _
  rw [List.range_succ, List.map_append]
  simp [wl, gUp, va_up]
theorem GI_of {A : Nat → Prop} {n : Nat} {ad : Nat → Nat} {e : Nat → va_E} (hD : va_D A (wl n ad e)) : wInj n ad ∧ ∀ q, wB n ad q → A q :=
  ⟨fun i j hi hj h => hD.1 i j _ _ (wl_get hi) (wl_get hj) h, fun q hq => by
    obtain ⟨i, hi, e⟩ := hq
    rw [e]; exact hD.2 i _ (wl_get hi)⟩
theorem wl_at {D : va_G} {n : Nat} {ad : Nat → Nat} {e : Nat → va_E} {H : Heap} (h : va_P D vwCl (wl n ad e) H) {i : Nat} (hi : i < n) : va_at D vwCl (ad i, e i) H := h i _ (wl_get hi)
theorem wl_P {D : va_G} {n : Nat} {ad : Nat → Nat} {e : Nat → va_E} {H : Heap} (h : ∀ i, i < n → va_at D vwCl (ad i, e i) H) : va_P D vwCl (wl n ad e) H := fun k q hk => by
  obtain ⟨h1, rfl⟩ := wl_lt hk
  exact h k h1
theorem wl_ltH {D : va_G} {n : Nat} {ad : Nat → Nat} {e : Nat → va_E} {H : Heap} (h : va_P D vwCl (wl n ad e) H) {i : Nat} (hi : i < n) : ad i < H.size := (h i _ (wl_get hi)).lt
section GRW
variable {C : zX} {A : Nat → Prop} {D : va_G} {nL : Nat} {g : GS} {lv lv' : List (Nat × Value)} {kc ks pc : Nat} {st : List Value} {cc : ByteArray} {Ts : List Cond} {own : String} {Rm : Room} {tys : List (ClassId × FieldType)}
theorem z_new (O : zOK C cc nL Ts own) (hR : C.R = Rm) (hK : va_K D vwCl tys C.s) (hA : ∀ q, C.s.heap.size ≤ q → A q) (hG : GI A g) {kg : Nat} (hkg : g.1 = kg) {Cn : String} {T : u_T} {N ci index : Nat} (hin : ∀ w ∈ u_ws Cn T N, w ∈ Ts) (ty : Nat → FieldType) (hty : ∀ k, k < N → parseFieldDescriptor (T k).2.2.1 = some (ty k)) (hcl : Cond.classLink own index Cn ∈ Ts) (hinst : Cond.instantiable Cn N ∈ Ts) (hini : Cond.initialized Cn ∈ Ts) (hc : vwCl[ci]? = some (Cn, T, N)) (fs : List Value) (hfs : ∀ j, j < N → defaultValue (ty j) = vp_V fs j) (hroom : kc + 1 ≤ Rm.cells ∧ ks + N ≤ Rm.slots) (hd : decode cc pc = .ok (.new index, 3))
    (kk : ∀ q, GI A (gUp kg g q (.inr (ci, fs))) → Z C A (GH D) nL (gUp kg g q (.inr (ci, fs))) lv (kc + 1) (ks + N) (pc + 3) (.ref q :: st)) : Z C A (GH D) nL g lv kc ks pc st := by
  subst hR hkg
  intro H locs ls hH hS hl
  refine va_new O.1 O.2.1 O.2.2.2.2.1 hin ty hty O.2.2.2.1 (O.2.2.2.2.1 _ hcl) (O.2.2.2.2.1 _ hinst) (O.2.2.2.2.1 _ hini) hK hH (wl_D hG.1 hG.2) hS hA hc hfs hroom.1 hroom.2 hd (fun q H1 hP hD1 hS1 => ?_)
  rw [wl_push] at hP hD1
  exact kk q (GI_of hD1) H1 locs ls hP hS1 hl
theorem z_newA {n : Int32} (O : zOK C cc nL Ts own) (hR : C.R = Rm) (hK : va_K D vwCl tys C.s) (hA : ∀ q, C.s.heap.size ≤ q → A q) (hG : GI A g) {kg : Nat} (hkg : g.1 = kg) (atype : ArrayType) (ty : FieldType) (hty : newarray.typeOf atype = ty) (harr : Cond.arrayClass (newarray.typeOf atype) ∈ Ts) {cA0 : ClassId} (t0 : Nat) (ht : tys[t0]? = some (cA0, ty)) (hprim : ∀ (U : State) (c : ClassId), va_RA U c ty → U.vm.findClass ("[" ++ ty.toString) = some c) {N' : Nat} (a0 : vp_A) (ha : ∀ cA : ClassId, vp_cell cA a0 = arrV cA N' (fun _ => defaultValue ty)) (hn : ¬ n < 0) (hN : n.toNatClampNeg = N') (hbytes : N' * componentBytes ty ≤ 536870912) (hroom : kc + 1 ≤ Rm.cells ∧ ks + N' ≤ Rm.slots) (hd : decode cc pc = .ok (.newarray atype, 2))
    (kk : ∀ q, GI A (gUp kg g q (.inl (cA0, a0))) → Z C A (GH D) nL (gUp kg g q (.inl (cA0, a0))) lv (kc + 1) (ks + N') (pc + 2) (.ref q :: st)) : Z C A (GH D) nL g lv kc ks pc (.int n :: st) := by
  subst hR hkg
  intro H locs ls hH hS hl
  refine va_newa O.1 O.2.1 (O.2.2.2.2.1 _ harr) hty hK hH (wl_D hG.1 hG.2) hS hA ha hn hN hbytes hroom.1 hroom.2 hd (fun q cA H1 hK1 hP hD1 hS1 => ?_)
  have e : cA = cA0 := by
    have h1 := (hK1.2 tys.length (cA, ty) (by simp)).2
    have h2 := (hK.2 t0 _ ht).2
    exact Option.some.inj ((hprim _ _ h1).symm.trans (hprim _ _ h2))
  subst e
  rw [wl_push] at hP hD1
  exact kk q (GI_of hD1) H1 locs ls hP hS1 hl
theorem z_newQ {n : Int32} (O : zOK C cc nL Ts own) (hR : C.R = Rm) (hK : va_K D vwCl tys C.s) (hA : ∀ q, C.s.heap.size ≤ q → A q) (hG : GI A g) {kg : Nat} (hkg : g.1 = kg) {E : String} {index : Nat} (hcl : Cond.classLink own index E ∈ Ts) (hover : va_AO E C.s) {cA0 : ClassId} (t0 : Nat) (ht : tys[t0]? = some (cA0, .object E)) {N' : Nat} (hn : ¬ n < 0) (hN : n.toNatClampNeg = N') (hbytes : N' * 4 ≤ 536870912) (hroom : kc + 1 ≤ Rm.cells ∧ ks + N' ≤ Rm.slots) (hd : decode cc pc = .ok (.anewarray index, 3))
    (kk : ∀ q, GI A (gUp kg g q (.inl (cA0, N', .inr (.inr (.inr (.inr (fun _ => none))))))) → Z C A (GH D) nL (gUp kg g q (.inl (cA0, N', .inr (.inr (.inr (.inr (fun _ => none))))))) lv (kc + 1) (ks + N') (pc + 3) (.ref q :: st)) : Z C A (GH D) nL g lv kc ks pc (.int n :: st) := by
  subst hR hkg
  intro H locs ls hH hS hl
  refine va_newq O.1 O.2.1 O.2.2.2.1 (O.2.2.2.2.1 _ hcl) hover hK hH (wl_D hG.1 hG.2) hS hA hn hN hbytes hroom.1 hroom.2 hd (fun q cA H1 hK1 hP hD1 hS1 => ?_)
  have e : cA = cA0 := by
    obtain ⟨_, _, _, _, _, h1⟩ := (hK1.2 tys.length (cA, .object E) (by simp)).2
    obtain ⟨_, _, _, _, _, h2⟩ := (hK.2 t0 _ ht).2
    exact Option.some.inj (h1.symm.trans h2)
  subst e
  rw [wl_push] at hP hD1
  exact kk q (GI_of hD1) H1 locs ls hP hS1 hl
theorem z_putF {v : Value} {ai : Nat} (O : zOK C cc nL Ts own) (hnmI : C.2.2.2.2.2.2.2.2.1.name = "<init>") (hK : va_K D vwCl tys C.s) (hG : GI A g) {i ci : Nat} {fs : List Value} (hi : i < g.1) (he : g.2.2 i = .inr (ci, fs)) {Cn : String} {T : u_T} {N : Nat} (hc : vwCl[ci]? = some (Cn, T, N)) (hin : ∀ w ∈ u_ws Cn T N, w ∈ Ts) (ty0 : Nat → FieldType) (hty : ∀ k, k < N → parseFieldDescriptor (T k).2.2.1 = some (ty0 k)) (hnm : ∀ a, a < N → ∀ b, b < N → a ≠ b → (T a).2.1 ≠ (T b).2.1) (k : Nat) (hk : k < N) {index : Nat} (hlink : Cond.fieldLink own index (T k).1 (T k).2.1 (T k).2.2.1 ∈ Ts) (hfin : (T k).2.2.2 = true) (hdecl : (T k).1 = own) {ty : FieldType} (hpd : parseFieldDescriptor (T k).2.2.1 = some ty) (hn : narrow ty v = v) (hfit : fits ty v = true) (hl0 : k < fs.length) (fs' : List Value) (hfs : fs.set k v = fs') (hai : g.2.1 i = ai) (hd : decode cc pc = .ok (.putfield index, 3))
    (kk : GI A (gSet g i (.inr (ci, fs'))) → Z C A (GH D) nL (gSet g i (.inr (ci, fs'))) lv kc ks (pc + 3) st) : Z C A (GH D) nL g lv kc ks pc (v :: .ref ai :: st) := by
  subst hai hfs
  intro H locs ls hH hS hl
  refine va_putF O.1 O.2.1 O.2.2.2.2.1 hin ty0 hty hnm O.2.2.2.1 hK hH (wl_D hG.1 hG.2) hS i ((wl_get hi).trans (by rw [he])) hc k hk (O.2.2.2.2.1 _ hlink) (fun _ h => h) hfin hnmI hdecl hpd hn hfit hl0 hd (fun H1 locs1 h1 _ h3 => ?_)
  rw [wl_set] at h1
  exact kk hG H1 locs1 ls h1 h3 hl
theorem z_putG {v : Value} {ai : Nat} {C : zX} {A : Nat → Prop} {D : va_G} {nL : Nat} {g : GS} {lv : List (Nat × Value)} {kc ks pc : Nat} {st : List Value} {cc : ByteArray} {Ts : List Cond} {own : String} {tys : List (ClassId × FieldType)} (O : zOK C cc nL Ts own) (hK : va_K D vwCl tys C.s) (hG : GI A g) {i ci : Nat} {fs : List Value} (hi : i < g.1) (he : g.2.2 i = .inr (ci, fs)) {Cn : String} {T : u_T} {N : Nat} (hc : vwCl[ci]? = some (Cn, T, N)) (hin : ∀ w ∈ u_ws Cn T N, w ∈ Ts) (ty0 : Nat → FieldType) (hty : ∀ k, k < N → parseFieldDescriptor (T k).2.2.1 = some (ty0 k)) (hnm : ∀ a, a < N → ∀ b, b < N → a ≠ b → (T a).2.1 ≠ (T b).2.1) (k : Nat) (hk : k < N) {index : Nat} (hlink : Cond.fieldLink own index (T k).1 (T k).2.1 (T k).2.2.1 ∈ Ts) (hfin : (T k).2.2.2 = false) {ty : FieldType} (hpd : parseFieldDescriptor (T k).2.2.1 = some ty) (hn : narrow ty v = v) (hfit : fits ty v = true) (hl0 : k < fs.length) (fs' : List Value) (hfs : fs.set k v = fs') (hai : g.2.1 i = ai) (hd : decode cc pc = .ok (.putfield index, 3))
    (kk : GI A (gSet g i (.inr (ci, fs'))) → Z C A (GH D) nL (gSet g i (.inr (ci, fs'))) lv kc ks (pc + 3) st) : Z C A (GH D) nL g lv kc ks pc (v :: .ref ai :: st) := by
  subst hai hfs
  exact z_putf (n := g.1) (ad := g.2.1) (E := fun g => g.2.2) O hK (fun _ h => h) (fun _ h => h) hG.1 hG.2 hi he hc hin ty0 hty hnm k hk hlink hfin hpd hn hfit hl0 rfl hd (kk hG)
theorem z_aastO {j : Int32} {ai ao : Nat} (O : zOK C cc nL Ts own) (hK : va_K D vwCl tys C.s) (hG : GI A g) (t0 : Nat) {i o N ci : Nat} {cA : ClassId} {f : Nat → Option Nat} {r : vw_C} {vs : List Value} {E : String} (hi : i < g.1) (he : g.2.2 i = .inl (cA, N, .inr (.inr (.inr (.inr f))))) (ht : tys[t0]? = some (cA, .object E)) (hca : va_Nw (.castable r.1 E) C.s) (ho : o < g.1) (hov : g.2.2 o = .inr (ci, vs)) (hc : vwCl[ci]? = some r) (hin : vp_in j N) (hai : g.2.1 i = ai) (hao : g.2.1 o = ao) (hd : decode cc pc = .ok (.aastore, 1))
    (kk : GI A (gSet g i (.inl (cA, N, .inr (.inr (.inr (.inr (va_up f j.toNatClampNeg (some ao)))))))) → Z C A (GH D) nL (gSet g i (.inl (cA, N, .inr (.inr (.inr (.inr (va_up f j.toNatClampNeg (some ao)))))))) lv kc ks (pc + 1) st) : Z C A (GH D) nL g lv kc ks pc (.ref ao :: .int j :: .ref ai :: st) := by
  subst hai hao
  intro H locs ls hH hS hl
  refine va_astqO O.1 O.2.1 hK hH (wl_D hG.1 hG.2) hS i t0 o ci ((wl_get hi).trans (by rw [he])) ht hca ((wl_get ho).trans (by rw [hov])) hc hin hd (fun H1 locs1 h1 _ h3 => ?_)
  rw [wl_set] at h1
  exact kk hG H1 locs1 ls h1 h3 hl
theorem z_aastG {j : Int32} {ai ao : Nat} (O : zOK C cc nL Ts own) (hK : va_K D vwCl tys C.s) (hG : GI A g) (t0 : Nat) {i o N ci : Nat} {cA : ClassId} {f : Nat → Option Nat} {r : vw_C} {vs : List Value} (hi : i < g.1) (he : g.2.2 i = .inl (cA, N, .inr (.inr (.inr (.inr f))))) (ht : tys[t0]? = some (cA, .object r.1)) (ho : o < g.1) (hov : g.2.2 o = .inr (ci, vs)) (hc : vwCl[ci]? = some r) (hin : vp_in j N) (hai : g.2.1 i = ai) (hao : g.2.1 o = ao) (hd : decode cc pc = .ok (.aastore, 1))
    (kk : GI A (gSet g i (.inl (cA, N, .inr (.inr (.inr (.inr (va_up f j.toNatClampNeg (some ao)))))))) → Z C A (GH D) nL (gSet g i (.inl (cA, N, .inr (.inr (.inr (.inr (va_up f j.toNatClampNeg (some ao)))))))) lv kc ks (pc + 1) st) : Z C A (GH D) nL g lv kc ks pc (.ref ao :: .int j :: .ref ai :: st) := by
  subst hai hao
  intro H locs ls hH hS hl
  refine va_astq O.1 O.2.1 hK hH (wl_D hG.1 hG.2) hS i t0 o ci ((wl_get hi).trans (by rw [he])) ht ((wl_get ho).trans (by rw [hov])) hc hin hd (fun H1 locs1 h1 _ h3 => ?_)
  rw [wl_set] at h1
  exact kk hG H1 locs1 ls h1 h3 hl
theorem z_objInit {σ : Type} {Hp : σ → Heap → Prop} {x : σ} (O : zOK C cc nL Ts own) (hR : C.R = Rm) {idx a : Nat} (hlink : Cond.methodLink own idx objectInit ∈ Ts) (hinst : Cond.instanceMethod objectInit ∈ Ts) (hcode : Cond.code objectInit ⟨#[0xb1]⟩ 1 none ∈ Ts) (hRm : 1 ≤ Rm.frames ∧ (st.map fun v => v.category).sum + 12 ≤ Rm.locals) (hd : decode cc pc = .ok (.invokespecial idx, 3)) (kk : Z C A Hp nL x lv kc ks (pc + 3) st) : Z C A Hp nL x lv kc ks pc (.ref a :: st) := by
  subst hR
  intro H locs ls hH hS hl
  exact W.objInit O.1 O.2.1 O.2.2.2.1 (O.2.2.2.2.1 _ hlink) (O.2.2.2.2.1 _ hinst) (O.2.2.2.2.1 _ hcode) rfl (by rw [O.2.2.1]; exact hl.1) rfl hd hRm.1 (by
    have := hRm.2
    show 2 * 0 + _ + 12 ≤ C.R.locals
    omega) (W.eq (g2 := F0 C.2.2.2.2.2.1 (pc + 3) ls st) rfl (kk H locs ls hH hS hl))
end GRW
section GRC
variable {C : zX} {A : Nat → Prop} {D : va_G} {nL : Nat} {g : GS} {lv : List (Nat × Value)} {kc ks pc : Nat} {st rest : List Value} {cc : ByteArray} {Ts : List Cond} {own : String}
variable {y : MethodName} {ws ws' : List Cond} {rm Rm : Room} {mc ms n index maxL : Nat} {bytes : ByteArray} {As : List Value} {HH : Heap → Prop} {b : Nat} {host : String} {Ks : State → Prop}
theorem zr_IN (O : zOK C cc nL Ts own) (hR : C.R = Rm) (n : Nat) (hG : GoodIn Ts ws) (hw : ws = Cond.code y bytes maxL none :: ws') (hrc : rm.cells = mc) (hrs : rm.slots = ms) (hN : va_Nw (.methodLinkNest own index y host) C.s) (hini : Cond.initialized y.cls ∈ Ts) (hinst : Cond.instanceMethod y ∈ Ts) (hy : y.name = "<init>") (hd0 : y.cls ≠ "java/lang/invoke/MethodHandle" ∧ y.cls ≠ "java/lang/invoke/VarHandle" ∧ (parseMethodDescriptor y.desc).map (fun d => d.parameters.length) = some n) (hRm : rm.frames + 1 ≤ Rm.frames ∧ 8 + (maxL + 11) + rm.locals ≤ Rm.locals) (hcs : kc + mc ≤ Rm.cells ∧ ks + ms ≤ Rm.slots) (hn : As.length = n) (hst : st = As.reverse ++ .ref b :: rest) (hcat : (rest.map fun v => v.category).sum ≤ 8) (hd : decode cc pc = .ok (.invokespecial index, 3)) : zRun C nL y ws rm mc ms pc kc ks (.ref b :: As) st rest HH := by
  subst hR
  intro Pc Qc free hM hbl H locs ls hH hls hpre
  exact va_runIN ⟨O.1, O.2.1, O.2.2.1, O.2.2.2.1, O.2.2.2.2.1⟩ hM ⟨va_cnB n O.2.2.2.2.1 hG hw hrc hrs hN (O.2.2.2.2.1 _ hini) hd0 hRm, hy, O.2.2.2.2.1 _ hinst⟩ ⟨hbl, hpre⟩ rfl hn hls hst (lv_room hcat) hd hcs
theorem zr_I (O : zOK C cc nL Ts own) (hR : C.R = Rm) (n : Nat) (hG : GoodIn Ts ws) (hw : ws = Cond.code y bytes maxL none :: ws') (hrc : rm.cells = mc) (hrs : rm.slots = ms) (hini : Cond.initialized y.cls ∈ Ts) (hlink : Cond.methodLink own index y ∈ Ts) (hinst : Cond.instanceMethod y ∈ Ts) (hy : y.name = "<init>") (hd0 : y.cls ≠ "java/lang/invoke/MethodHandle" ∧ y.cls ≠ "java/lang/invoke/VarHandle" ∧ (parseMethodDescriptor y.desc).map (fun d => d.parameters.length) = some n) (hRm : rm.frames + 1 ≤ Rm.frames ∧ 8 + (maxL + 11) + rm.locals ≤ Rm.locals) (hcs : kc + mc ≤ Rm.cells ∧ ks + ms ≤ Rm.slots) (hn : As.length = n) (hst : st = As.reverse ++ .ref b :: rest) (hcat : (rest.map fun v => v.category).sum ≤ 8) (hd : decode cc pc = .ok (.invokespecial index, 3)) : zRun C nL y ws rm mc ms pc kc ks (.ref b :: As) st rest HH := by
  subst hR
  intro Pc Qc free hM hbl H locs ls hH hls hpre
  exact va_runI ⟨O.1, O.2.1, O.2.2.1, O.2.2.2.1, O.2.2.2.2.1⟩ hM (cwI n O.2.2.2.2.1 hG hw hrc hrs (O.2.2.2.2.1 _ hini) (O.2.2.2.2.1 _ hlink) (O.2.2.2.2.1 _ hinst) hy hd0 hRm) ⟨hbl, hpre⟩ rfl hn hls hst (lv_room hcat) hd hcs
/-- a constructor: one cell as 'new' leaves it, m cells behind it -/
def zCV (l : Launch) (y : MethodName) (ws : List Cond) (rm : Room) (Ks : State → Prop) (D : va_G) (e0 : va_E) (m : Nat) (E : (Nat → Nat) → Nat → va_E) (mc ms : Nat) (av : List Value) : Prop :=
  ∀ (a sz : Nat), Met l y ws rm (va_Pc (.ref a :: av) (fun U => U.heap.size = sz ∧ va_P D vwCl (wl 1 (fun _ => a) (fun _ => e0)) U.heap ∧ Ks U)) (va_Qv (fun u : Nat → Nat => u 0 = a ∧ wInj m u ∧ ∀ i, 1 ≤ i → i < m → sz ≤ u i) (fun u t => va_P D vwCl (wl m u (E u)) t.heap) (zA (fun q => q = a) sz)) mc ms (zA (fun q => q = a) sz)
theorem zCV_of {l : Launch} {e0 : va_E} {m : Nat} {E : (Nat → Nat) → Nat → va_E} {av : List Value} (hy : plainName y.cls = true) (hw : ws = Cond.code y cc nL none :: ws') (hlen : ∀ a : Nat, (lg_sl (.ref a :: av)).length ≤ nL)
    (body : ∀ (a : Nat) (C : zX), C.2.1 = l → zOK C cc nL ws y.cls → C.2.2.2.2.2.2.2.2.1.name = y.name → a < C.s.heap.size → zEnd C rm none (va_Qv (fun u : Nat → Nat => u 0 = a ∧ wInj m u ∧ ∀ i, 1 ≤ i → i < m → C.s.heap.size ≤ u i) (fun u t => va_P D vwCl (wl m u (E u)) t.heap) (zA (fun q => q = a) C.s.heap.size)) mc ms (zA (fun q => q = a) C.s.heap.size) → Ks C.s → Z C (zA (fun q => q = a) C.s.heap.size) (GH D) nL (1, fun _ => a, fun _ => e0) (lv_args 0 (.ref a :: av)) 0 0 0 []) : zCV l y ws rm Ks D e0 m E mc ms av := by
  intro a sz
  refine z_body hy hw (hlen a) (fun _ _ h => h.1) (fun C O hE hl h _ hnm ls hls => ?_)
  obtain ⟨-, rfl, h3, h4⟩ := h
  exact body a C hl O hnm (wl_ltH h3 (i := 0) (by omega)) hE h4 C.s.heap [] ls h3 va_S.rf hls
theorem z_retC {a : Nat} {m : Nat} {E : (Nat → Nat) → Nat → va_E} (O : zOK C cc nL Ts own) (hE : zEnd C Rm none (va_Qv (fun u : Nat → Nat => u 0 = a ∧ wInj m u ∧ ∀ i, 1 ≤ i → i < m → C.s.heap.size ≤ u i) (fun u t => va_P D vwCl (wl m u (E u)) t.heap) (zA (fun q => q = a) C.s.heap.size)) mc ms (zA (fun q => q = a) C.s.heap.size)) (h1 : kc ≤ mc) (h2 : ks ≤ ms) (hG : GI (zA (fun q => q = a) C.s.heap.size) g) (hm : g.1 = m) (h0 : g.2.1 0 = a) (hm0 : 1 ≤ m) (he : ∀ i, i < m → g.2.2 i = E g.2.1 i) (hd : decode cc pc = .ok (.return_, 1)) : Z C (zA (fun q => q = a) C.s.heap.size) (GH D) nL g lv kc ks pc [] := by
  intro H locs ls hH hS hl
  unfold zW
  rw [hE.2.2]
  refine W.widen h1 h2 (W.vret O.1 O.2.1 hE.2.1 (fun t ht _ => ⟨⟨g.2.1, rfl, ⟨h0, by rw [← hm]; exact hG.1, fun i hi1 hi => ?_⟩, ?_⟩, hS.F ht⟩) hS.2.2 hd O.2.2.2.2.2)
  · rcases hG.2 (g.2.1 i) ⟨i, by omega, rfl⟩ with h | h
    · have := hG.1 i 0 (by omega) (by omega) (h.trans h0.symm); omega
    · exact h
  · show va_P D vwCl (wl m g.2.1 (E g.2.1)) t.heap
    rw [ht]
    rw [show wl m g.2.1 (E g.2.1) = wl g.1 g.2.1 g.2.2 by rw [hm]; exact wl_cong (fun i hi => ⟨rfl, (he i hi).symm⟩)]
    exact hH
/-- a constructor's call on the cell made last -/
theorem z_callC {e0 : va_E} {m k : Nat} {E : (Nat → Nat) → Nat → va_E} {av : List Value} {a : Nat} (hKs : zKs Ks) (hK : Ks C.s) (hA : ∀ q, C.s.heap.size ≤ q → A q) (hG : GI A g) (hgk : g.1 = k + 1) (ha : g.2.1 k = a) (he : g.2.2 k = e0) (hm1 : 1 ≤ m) (hM : zCV C.2.1 y ws rm Ks D e0 m E mc ms av) (hr : zRun C nL y ws rm mc ms pc kc ks (.ref a :: av) st rest (GH D g))
    (kk : ∀ u : Nat → Nat, u 0 = a → GI A (gJoin g k m u (E u)) → Z C A (GH D) nL (gJoin g k m u (E u)) lv (kc + mc) (ks + ms) (pc + 3) rest) : Z C A (GH D) nL g lv kc ks pc st := fun H locs ls hH hS hl => by
  have hAa : A a := hG.2 a ⟨k, by omega, ha.symm⟩
  have h1 : va_P D vwCl (wl 1 (fun _ => a) (fun _ => e0)) H := wl_P (fun i hi => by
    have := wl_at hH (i := k) (by omega)
    rw [ha, he] at this; exact this)
  refine va_callv (hr _ _ _ (hM a H.size) (fun a U g mk h => ⟨h.1, h.2.1, h.2.2.1, hKs U (U.calling g mk a) (State.WarmedH.refl U) h.2.2.2⟩) H locs ls hH hl.1 (fun U hU hW => ⟨rfl, by rw [hU], by rw [hU]; exact h1, hKs _ _ hW hK⟩)) hS (fun q _ h => h.elim (fun h => by rw [h]; exact hAa) (fun h => hA q (Nat.le_trans hS.1 h))) (fun q h => h.elim (fun h => by rw [h]; exact hAa) (fun h => hA q (Nat.le_trans hS.1 h)))
    (fun u t H1 locs1 ht _ hu hb hz hk hS1 => ?_)
  obtain ⟨u0, uI, uF⟩ := hu
  rw [ht] at hb
  have hlt : ∀ i, i < k + 1 → g.2.1 i < H.size := fun i hi => wl_ltH hH (by omega)
  refine kk u u0 ⟨fun i j hi hj hij => ?_, fun q hq => ?_⟩ H1 locs1 ls (wl_P (fun i hi => ?_)) hS1 hl
  · have hi' : i < k + m := hi
    have hj' : j < k + m := hj
    have hij : (if i < k then g.2.1 i else u (i - k)) = (if j < k then g.2.1 j else u (j - k)) := hij
    have sep : ∀ x z, x < k → k ≤ z → z < k + m → g.2.1 x = u (z - k) → False := fun x z hx hz1 hz2 hxz => by
      by_cases e : z = k
      · rw [e, Nat.sub_self, u0] at hxz
        have := hG.1 x k (by omega) (by omega) (hxz.trans ha.symm); omega
      · have := uF (z - k) (by omega) (by omega)
        have := hlt x (by omega)
        omega
    by_cases ci : i < k
    · by_cases cj : j < k
      · rw [if_pos ci, if_pos cj] at hij
        exact hG.1 i j (by omega) (by omega) hij
      · rw [if_pos ci, if_neg cj] at hij
        exact (sep i j ci (by omega) hj' hij).elim
    · by_cases cj : j < k
      · rw [if_neg ci, if_pos cj] at hij
        exact (sep j i cj (by omega) hi' hij.symm).elim
      · rw [if_neg ci, if_neg cj] at hij
        have := uI (i - k) (j - k) (by omega) (by omega) hij
        omega
  · obtain ⟨i, hi, e⟩ := hq
    have hi' : i < k + m := hi
    have e : q = (if i < k then g.2.1 i else u (i - k)) := e
    by_cases ci : i < k
    · rw [if_pos ci] at e
      exact hG.2 q ⟨i, by omega, e⟩
    · rw [if_neg ci] at e
      by_cases e0 : i = k
      · rw [e0, Nat.sub_self, u0] at e
        rw [e]; exact hAa
      · have := uF (i - k) (by omega) (by omega)
        exact hA q (Nat.le_trans hS.1 (by rw [e]; exact this))
  · have hi' : i < k + m := hi
    by_cases ci : i < k
    · have h2 := wl_at hH (i := i) (by omega)
      have h3 : va_at D vwCl (g.2.1 i, g.2.2 i) H1 := h2.kept (hk _ (hlt i (by omega)) (fun h => by
        rcases h with h | h
        · have := hG.1 i k (by omega) (by omega) (h.trans ha.symm); omega
        · have := hlt i (by omega); omega))
      show va_at D vwCl ((if i < k then g.2.1 i else u (i - k)), (if i < k then g.2.2 i else E u (i - k))) H1
      rw [if_pos ci, if_pos ci]; exact h3
    · have h2 := wl_at hb (i := i - k) (by omega)
      show va_at D vwCl ((if i < k then g.2.1 i else u (i - k)), (if i < k then g.2.2 i else E u (i - k))) H1
      rw [if_neg ci, if_neg ci]; exact h2
end GRC
