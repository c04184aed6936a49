/-! ===== throwing methods called by an inherited name ===== -/
section VXU
/-! vx_callU, vx_runU follow va_callVU, va_runU of the kit, with one case more. -/
variable {p : Program} {l : Launch} {e : Env} {R : Room} {s : State} {m : MethodId} {args : Array Value} {below : List Frame} {meth : Method} {c : Code} {H : Heap} {locs : List Loc} {cells slots : Nat}
theorem vx_callU {T : State} (X : Stand p l e R s m args below meth c T locs cells slots) (hexec : p.tables.exec = Jvm.exec) {own C owner : String} {index : Nat} {x y : MethodName} {bytes : ByteArray} {maxL : Nat} {ret : Option FieldType}
    (hown : s.vm.findClass own = some m.cls) (hlink : (Cond.methodLink own index x).before args s = true) (hsame : (Cond.sameMethod x.cls owner x.name x.desc).before args s = true)
    (hd0 : va_Decl s ⟨owner, x.name, x.desc⟩) (howner : owner ≠ "java/lang/invoke/MethodHandle" ∧ owner ≠ "java/lang/invoke/VarHandle")
    (hsel : (Cond.selects C x y).before args s = true) (hinst : (Cond.instanceMethod y).before args s = true) (hcode : (Cond.code y bytes maxL ret).before args s = true)
    {W9 : Nat} {Pre : Pt → Array Value → Prop} {Post : Pt → Array Value → Option Value → Pt → Prop} {PostX : Pt → Array Value → Addr → Pt → Prop} (hK : vx_Back l R p e below s args y 3 W9 Pre Post PostX)
    {b : Addr} {cellB : Cell} (hcell : T.heap[b]? = some cellB) (hobj : cellB.vm.isStatics = false) (hcls : s.vm.findClass C = some cellB.cls)
    {g : JFrame} (hg : g.method = m) (hsize : g.locals.size = c.maxLocals) {argsL rest : List Value} (hlen : ∀ sig, parseMethodDescriptor x.desc = some sig → argsL.length = sig.parameters.length)
    (hstack : g.stack = argsL.reverse ++ .ref b :: rest) (hW : 2 * g.monitorRoom + (rest.map fun v => v.category).sum ≤ W9) (hdg : decode c.code g.pc = .ok (.invokevirtual index, 3))
    (hpre : ∀ vm₁, s.WarmedH vm₁ → Pre ⟨T.setVm vm₁, locs, cells, slots⟩ (Value.ref b :: argsL).toArray) :
    (∃ (v : Option Value) (vm₁ : Vm) (B : Pt), s.WarmedH vm₁ ∧ Stand p l e R s m args below meth c B.U B.locs B.cells B.slots ∧ Post ⟨T.setVm vm₁, locs, cells, slots⟩ (Value.ref b :: argsL).toArray v B ∧
      ∀ target, Steps p.tables e below (B.U.setTop { g with pc := g.pc + 3, stack := v.toList ++ rest }) target → Steps p.tables e below (T.setTop g) target) ∨
    (∃ (q : Addr) (vm₁ : Vm) (B : Pt), s.WarmedH vm₁ ∧ Stand p l e R s m args below meth c B.U B.locs B.cells B.slots ∧ PostX ⟨T.setVm vm₁, locs, cells, slots⟩ (Value.ref b :: argsL).toArray q B ∧
      Steps p.tables e below (T.setTop g) ((B.U.setTop { g with stack := rest }).pushFrame (.throwing q))) := by
  obtain ⟨r0, r, hn, hrm, hstR, hsigR⟩ := hd0
  obtain ⟨cn, ck, r1, hcn, hck, hni, hf, hn1⟩ := Cond.sameMethod_found hsame
  cases hn.symm.trans hn1
  obtain ⟨mk, methM, hnamed, hmethM, -, habM⟩ := Cond.instanceMethod_spec hinst
  obtain ⟨c2, r2, m2, q1, q2, q3, q4, kP, hkP, hkPi⟩ := Cond.selects_spec hsel
  cases hcls.symm.trans q1
  cases hf.symm.trans q2
  cases hnamed.symm.trans q3
  have hselP : selectMethod e.platform s.vm cellB.cls r0 = .method mk := by rw [Launch.admits_selectMethod X.admits]; exact q4
  obtain ⟨vm₁, X₁, hstep₁⟩ := X.invokevirtualUp hexec hown hlink hsame howner hn hrm hstR (a := b) (cell := cellB) hcell
    (fun z h => by rw [h] at hobj; cases hobj) hselP hmethM habM hkP hkPi (g := g) hg (argsL := argsL) (rest := rest) (hlen _ hsigR) hstack hdg
  rcases hK m meth c ⟨T.setVm vm₁, locs, cells, slots⟩ { g with stack := rest } (.invokevirtual index) mk (Value.ref b :: argsL).toArray X₁ hg hsize hdg hW (X₁.named hnamed) (hpre vm₁ X₁.warmed) with ⟨v, B, X', hpost, hsteps⟩ | ⟨q, B, X', hpost, hsteps⟩
  · exact Or.inl ⟨v, vm₁, B, X₁.warmed, X', hpost, fun target h => hstep₁ _ fun acts => by rw [doInvoke_state]; exact hsteps.trans h⟩
  · exact Or.inr ⟨q, vm₁, B, X₁.warmed, X', hpost, hstep₁ _ fun acts => by rw [doInvoke_state]; exact hsteps⟩
theorem vx_runU {x y : MethodName} {bytes cc : ByteArray} {maxL nL mc ms n index : Nat} {ret : Option FieldType} {ws : List Cond} {rm : Room} {Pc : Array Value → State → Prop} {Qc : Array Value → State → Outcome → State → Prop} {XC : String → State → State → Prop} {free : Addr → Prop} {Ts : List Cond} {own C owner : String} {b : Addr} {As rest : List Value} {g : JFrame}
    (S : CallFix p m c cc nL s args Ts own) (hM : vx_Met l y ws rm Pc Qc XC mc ms free) (cw : va_CU R s args own C owner index x y bytes maxL ret ws rm mc ms n) (hp : PreV s H C b Pc As)
    (hg : g.method = m) (hn : As.length = n) (hsize : g.locals.size = nL) (hstack : g.stack = As.reverse ++ .ref b :: rest) (hW : 2 * g.monitorRoom + (rest.map fun v => v.category).sum ≤ 8) (hdg : decode cc g.pc = .ok (.invokevirtual index, 3)) (hf : cells + mc ≤ R.cells ∧ slots + ms ≤ R.slots) :
    vx_Run p l e R s m args below meth c H locs cells slots mc ms g rest (Qc (Value.ref b :: As).toArray) XC free := by
  obtain ⟨hrc, hrs, hfr, hlo, hws, hcw⟩ := cw.back
  have hini := cw.init
  have hK : vx_Back l R p e below s args y 3 8 (PreOf R mc ms Pc) (PostOf Qc mc ms free) (vx_Post XC mc ms free) := vx_back (bytes := bytes) (maxL := maxL) (ret := ret) hM hp.1 hrc hrs hfr hlo hws hcw (fun a' U hW => word_at hW (Or.inl (by first | rfl | simp [Cond.onTables, Cond.keeps, Cond.steady])) hini)
  obtain ⟨hx, hb, hml, ho, -⟩ := S
  obtain ⟨-, ⟨cellB, hcB, hoB, hclB⟩, hPc⟩ := hp
  intro T hT X
  rcases vx_callU X hx (C := C) (owner := owner) (bytes := bytes) (maxL := maxL) (ret := ret) ho cw.link cw.same cw.decl cw.notMH cw.sel cw.inst cw.code hK (by rw [hT]; exact hcB) hoB hclB hg (hsize.trans hml.symm) (argsL := As) (rest := rest) (fun sig h => hn.trans (cw.len sig h)) hstack hW (by rw [hb]; exact hdg)
    (fun vm₁ hW₁ => ⟨hf.1, hf.2, hPc (T.setVm vm₁) hT hW₁⟩) with ⟨v, vm₁, ⟨U', l2, c2, s2⟩, hW₁, X', ⟨g', mk, t, L, e1, e2, hq, h1, hL, h2, h3⟩, st⟩ | ⟨q, vm₁, ⟨U', l2, c2, s2⟩, hW₁, X', ⟨g', mk, t, L, E, ce, e1, e2, hq, hce, hcv, hcl, h1, hL, h2, h3⟩, st⟩
  · dsimp only [Pt.U, Pt.locs, Pt.cells, Pt.slots] at X' e1 e2 h1 h2 h3 st
    subst h1; subst h2; subst h3
    exact Or.inl ⟨v, (T.setVm vm₁).calling g' mk (Value.ref b :: As).toArray, t, U', L, hT, X', hL, e1, e2, hq, st⟩
  · dsimp only [Pt.U, Pt.locs, Pt.cells, Pt.slots] at X' e1 e2 h1 h2 h3 st hcl
    subst h1; subst h2; subst h3
    exact Or.inr ⟨q, (T.setVm vm₁).calling g' mk (Value.ref b :: As).toArray, t, U', L, E, ce, hT, X', hL, e1, e2, hq, hce, hcv, vx_cls hW₁ hcl, st⟩
end VXU
/-! ===== throws and catches over worlds ===== -/
abbrev eIS : String := "java/lang/IllegalStateException"
abbrev eIA : String := "java/lang/IllegalArgumentException"
abbrev eUO : String := "java/lang/UnsupportedOperationException"
abbrev eUp : List String := ["java/lang/RuntimeException", "java/lang/Exception"]
def strX : List (String × Nat × String) := [("SaidInWinter", 253, "no such shelf"), ("SaidInWinter", 260, "no row on this shelf"), ("SaidInWinter", 263, "no such place in the row"), ("SaidInWinter$Bubbly", 19, "an oath is broken in bubbles"), ("SaidInWinter$Layer", 9, "an oath is broken"), ("SaidInWinter$Salt", 20, "an oath is broken in salt")]
def ncX : List (String × String) := [(eIA, eIS), (eUO, eIS), (eUO, eIA), (eIS, eIA)]
def decX : List MethodName := [Bundle.initS "java/lang/RuntimeException", Bundle.initS "java/lang/Exception", Bundle.initS Bundle.tN]
def gX (D : va_G) (cs : Nat → ClassId) (s0 : State) (U : State) : Prop := gK D cs U ∧ s0.vm.Alike U.vm ∧ (∀ q ∈ strX, ∃ a : Nat, vk_R q.1 q.2.1 q.2.2 a U) ∧ (∀ E ∈ [eIS, eIA, eUO], va_Nw (.castable E E) U) ∧ (∀ y ∈ decX, va_Nw (.declares y) U) ∧ ∀ q ∈ ncX, va_Nc q.1 q.2 U
theorem gXs (D : va_G) (cs : Nat → ClassId) (s0 : State) : zKs (gX D cs s0) := fun u U h k => ⟨gKs D cs u U h k.1, k.2.1.trans h.alike, fun q hq => by obtain ⟨a, ha⟩ := k.2.2.1 q hq; exact ⟨a, vk_R.warm h ha⟩, fun E hE => va_Nw.warmC h (k.2.2.2.1 E hE), fun y hy => va_Nw.warmD h (k.2.2.2.2.1 y hy), fun q hq => va_Nc.moved h.alike (k.2.2.2.2.2 q hq)⟩
def hU (s0 : State) (H : Heap) : Prop := vx_Zq Bundle.tN "UNASSIGNED_STACK" Bundle.steD (fun q => s0.heap.size ≤ q) s0 H ∧ vx_Zq Bundle.tN "SUPPRESSED_SENTINEL" Bundle.listD (fun q => s0.heap.size ≤ q) s0 H
theorem hU_kept {s0 : State} {H H1 : Heap} (h : hU s0 H) (hq : ∀ q : Nat, q < H.size → q < s0.heap.size → H1[q]? = H[q]?) : hU s0 H1 := ⟨h.1.kept (fun a ha hn => hq a ha (Nat.lt_of_not_le hn)), h.2.kept (fun a ha hn => hq a ha (Nat.lt_of_not_le hn))⟩
def XU (D : va_G) (cs : Nat → ClassId) (ad : Nat → Nat) (s0 : State) (x : XS) (H : Heap) : Prop := XH D cs ad x H ∧ hU s0 H
theorem XU_kept {D : va_G} {cs : Nat → ClassId} {ad : Nat → Nat} {s0 : State} {x : XS} {H H1 : Heap} (h : XU D cs ad s0 x H) (hq : ∀ q : Nat, q < H.size → H1[q]? = H[q]?) : XU D cs ad s0 x H1 := ⟨h.1.kept (fun k q hk => hq q.1 (h.1 k q hk).lt), hU_kept h.2 (fun q hq1 _ => hq q hq1)⟩
/-- a method that answers nothing and always throws, of a class in px -/
def zTH {σ : Type} (l : Launch) (y : MethodName) (ws : List Cond) (rm : Room) (Ks : State → Prop) (Hx : σ → Heap → Prop) (x : σ) (av : List Value) (E : String) : Prop := vx_Met l y ws rm (va_Pc av (fun U => Hx x U.heap ∧ Ks U)) (va_Qv (fun _ : Unit => False) (fun _ _ => True) (fun _ => False)) (vx_X (fun _ : Unit => True) (fun E' _ _ => E' = E) (fun _ => False)) 1 6 (fun _ => False)
def zRunX (C : zX) (nL : Nat) (y : MethodName) (ws : List Cond) (rm : Room) (mc ms pc kc ks : Nat) (av : List Value) (st rest : List Value) (HH : Heap → Prop) : Prop :=
  ∀ (Pc : Array Value → State → Prop) (Qc : Array Value → State → Outcome → State → Prop) (XC : String → State → State → Prop) (free : Addr → Prop), vx_Met C.2.1 y ws rm Pc Qc XC mc ms free → FrameBlind Pc → ∀ (H : Heap) (locs : List Loc) (ls : Array Slot), HH H → ls.size = nL → (∀ U : State, U.heap = H → C.s.WarmedH U.vm → Pc av.toArray U) →
    vx_Run C.1 C.2.1 C.2.2.1 C.2.2.2.1 C.2.2.2.2.1 C.2.2.2.2.2.1 C.2.2.2.2.2.2.1 C.2.2.2.2.2.2.2.1 C.2.2.2.2.2.2.2.2.1 C.2.2.2.2.2.2.2.2.2.1 H locs kc ks mc ms (F0 C.2.2.2.2.2.1 pc ls st) rest (Qc av.toArray) XC free
section ZXR
variable {C : zX} {A : Nat → Prop} {nL : Nat} {lv : List (Nat × Value)} {kc ks pc : Nat} {st rest : List Value} {cc : ByteArray} {Ts : List Cond} {own owner Cn : String}
variable {y z : MethodName} {ws ws' : List Cond} {rm Rm : Room} {mc ms n index maxL : Nat} {bytes : ByteArray} {ret : Option FieldType} {av As : List Value} {HH : Heap → Prop} {b : Nat}
theorem zx_V (O : zOK C cc nL Ts own) (hR : C.R = Rm) (n : Nat) (hG : GoodIn Ts (wsV own index Cn y ws)) (hw : ws = Cond.code y bytes maxL ret :: ws') (hrc : rm.cells = mc) (hrs : rm.slots = ms) (hd0 : y.cls = Cn ∧ y.cls ≠ "java/lang/invoke/MethodHandle" ∧ y.cls ≠ "java/lang/invoke/VarHandle" ∧ (parseMethodDescriptor y.desc).map (fun d => d.parameters.length) = some n) (hRm : rm.frames + 1 ≤ Rm.frames ∧ 8 + (maxL + 11) + rm.locals ≤ Rm.locals) (hcs : kc + mc ≤ Rm.cells ∧ ks + ms ≤ Rm.slots) (hrecv : ∀ H, HH H → ∃ cellB : Cell, H[b]? = some cellB ∧ cellB.vm.isStatics = false ∧ C.s.vm.findClass Cn = some cellB.cls) (hn : As.length = n) (hst : st = As.reverse ++ .ref b :: rest) (hcat : (rest.map fun v => v.category).sum ≤ 8) (hd : decode cc pc = .ok (.invokevirtual index, 3)) : zRunX C nL y ws rm mc ms pc kc ks (.ref b :: As) st rest HH := by
  subst hR
  intro Pc Qc XC free hM hbl H locs ls hH hls hpre
  exact vx_runV ⟨O.1, O.2.1, O.2.2.1, O.2.2.2.1, O.2.2.2.2.1⟩ hM (cwV n O.2.2.2.2.1 hG hw hrc hrs hd0 hRm) ⟨hbl, hrecv H hH, hpre⟩ rfl hn hls hst (lv_room hcat) hd hcs
theorem zx_U (O : zOK C cc nL Ts own) (hR : C.R = Rm) (n : Nat) (hG : GoodIn Ts (va_wsU own index Cn owner z y ws)) (hw : ws = Cond.code y bytes maxL ret :: ws') (hrc : rm.cells = mc) (hrs : rm.slots = ms) (hyx : y = ⟨owner, z.name, z.desc⟩) (hd0 : owner ≠ "java/lang/invoke/MethodHandle" ∧ owner ≠ "java/lang/invoke/VarHandle" ∧ (parseMethodDescriptor z.desc).map (fun d => d.parameters.length) = some n) (hRm : rm.frames + 1 ≤ Rm.frames ∧ 8 + (maxL + 11) + rm.locals ≤ Rm.locals) (hcs : kc + mc ≤ Rm.cells ∧ ks + ms ≤ Rm.slots) (hrecv : ∀ H, HH H → ∃ cellB : Cell, H[b]? = some cellB ∧ cellB.vm.isStatics = false ∧ C.s.vm.findClass Cn = some cellB.cls) (hn : As.length = n) (hst : st = As.reverse ++ .ref b :: rest) (hcat : (rest.map fun v => v.category).sum ≤ 8) (hd : decode cc pc = .ok (.invokevirtual index, 3)) : zRunX C nL y ws rm mc ms pc kc ks (.ref b :: As) st rest HH := by
  subst hR
  intro Pc Qc XC free hM hbl H locs ls hH hls hpre
  exact vx_runU ⟨O.1, O.2.1, O.2.2.1, O.2.2.2.1, O.2.2.2.2.1⟩ hM (va_cwU n O.2.2.2.2.1 hG hw hrc hrs hyx hd0 hRm) ⟨hbl, hrecv H hH, hpre⟩ rfl hn hls hst (lv_room hcat) hd hcs
theorem zx_O (O : zOK C cc nL Ts own) (hR : C.R = Rm) (n : Nat) (hG : GoodIn Ts (va_wsO own index Cn owner z y ws)) (hw : ws = Cond.code y bytes maxL ret :: ws') (hrc : rm.cells = mc) (hrs : rm.slots = ms) {b0 : ByteArray} {m0 : Nat} {r0 : Option FieldType} (h0 : Cond.code ⟨owner, z.name, z.desc⟩ b0 m0 r0 ∈ Ts) (hd0 : owner ≠ "java/lang/invoke/MethodHandle" ∧ owner ≠ "java/lang/invoke/VarHandle" ∧ (parseMethodDescriptor z.desc).map (fun d => d.parameters.length) = some n) (hRm : rm.frames + 1 ≤ Rm.frames ∧ 8 + (maxL + 11) + rm.locals ≤ Rm.locals) (hcs : kc + mc ≤ Rm.cells ∧ ks + ms ≤ Rm.slots) (hrecv : ∀ H, HH H → ∃ cellB : Cell, H[b]? = some cellB ∧ cellB.vm.isStatics = false ∧ C.s.vm.findClass Cn = some cellB.cls) (hn : As.length = n) (hst : st = As.reverse ++ .ref b :: rest) (hcat : (rest.map fun v => v.category).sum ≤ 8) (hd : decode cc pc = .ok (.invokevirtual index, 3)) : zRunX C nL y ws rm mc ms pc kc ks (.ref b :: As) st rest HH := by
  subst hR
  intro Pc Qc XC free hM hbl H locs ls hH hls hpre
  exact vx_runU ⟨O.1, O.2.1, O.2.2.1, O.2.2.2.1, O.2.2.2.2.1⟩ hM (va_cwO n O.2.2.2.2.1 hG hw hrc hrs h0 hd0 hRm) ⟨hbl, hrecv H hH, hpre⟩ rfl hn hls hst (lv_room hcat) hd hcs
variable {σ τ : Type} {Hp : σ → Heap → Prop} {x : σ} {Ks : State → Prop} {Hx : τ → Heap → Prop} {x0 : τ} {E name : String}
/-- a call that throws E, caught here by the row r of the table -/
theorem z_callTH (O : zOK C cc nL Ts own) (hKs : zKs Ks) (hK : Ks C.s) (hx : ∀ H, Hp x H → Hx x0 H) (hkp : ∀ H H1 : Heap, Hp x H → (∀ q : Nat, q < H.size → H1[q]? = H[q]?) → Hp x H1) (hA : ∀ q, C.s.heap.size ≤ q → A q) (hM : zTH C.2.1 y ws rm Ks Hx x0 av E) (hr : zRunX C nL y ws rm 1 6 pc kc ks av st rest (Hp x))
    (pre : List ExceptionTableEntry) (r : ExceptionTableEntry) (suf : List ExceptionTableEntry) (hsplit : C.2.2.2.2.2.2.2.2.2.1.exceptionTable.toList = pre ++ r :: suf) (hpass : ∀ z ∈ pre, z.catchType ≠ 0 ∧ ∃ nm : String, Cond.classLink own z.catchType nm ∈ Ts ∧ va_Nc E nm C.s) (hcov : covers r pc = true) (h0 : r.catchType ≠ 0) (hlink : Cond.classLink own r.catchType name ∈ Ts) (hcast : va_Nw (.castable E name) C.s)
    (kk : ∀ q : Nat, Z C A Hp nL x lv (kc + 1) (ks + 6) r.handlerPc [.ref q]) : Z C A Hp nL x lv kc ks pc st := fun H locs ls hH hS hl =>
  vx_callv (hr _ _ _ _ hM (zr_blind hKs) H locs ls hH hl.1 (fun U hU hW => ⟨rfl, by rw [hU]; exact hx H hH, hKs _ _ hW hK⟩)) hS (fun _ _ h => h.elim) (fun _ h => h.elim) (fun _ _ h => h.elim)
    (fun E' ce q9 u t H1 locs1 ht _ _ hE hz hk hS1 hce hcv hcl => by
      have hE : E' = E := hE
      subst hE
      exact vx_catch O.2.2.2.1 pre r suf hsplit (fun z hz => Or.inr ⟨(hpass z hz).1, by obtain ⟨nm, h1, h2⟩ := (hpass z hz).2; exact ⟨nm, O.2.2.2.2.1 _ h1, h2⟩⟩) hcov h0 (O.2.2.2.2.1 _ hlink) (va_Nw.use rfl hcast) hce hcv hcl (kk q9 H1 locs1 ls (hkp H H1 hH (fun q hq => hk q hq (fun h => h))) hS1 hl))
    (fun u t H1 locs1 _ _ hu _ _ _ _ => hu.elim)
end ZXR
section ZXM
variable {σ : Type} {l : Launch} {y : MethodName} {ws ws' : List Cond} {rm : Room} {Ks : State → Prop} {Hx : σ → Heap → Prop} {x : σ} {av : List Value} {cc : ByteArray} {nL : Nat} {ret : Option FieldType} {hh : List (Nat × Nat × Nat × Nat)}
/-- a body with handlers, from its entry -/
theorem z_bodyW {Pc : Array Value → State → Prop} {Qc : Array Value → State → Outcome → State → Prop} {mc ms : Nat} {free : Nat → Prop} (hy : plainName y.cls = true) (hw : ws = Cond.codeWith y cc nL ret hh :: ws') (hlen : (lg_sl av).length ≤ nL) (hPc : ∀ a s, Pc a s → a = av.toArray)
    (body : ∀ C : zX, zOK C cc nL ws y.cls → zEnd C rm ret Qc mc ms free → C.2.1 = l → Pc av.toArray C.s → C.2.2.2.2.2.2.2.2.2.1.exceptionTable.toList = tableOf hh → ∀ ls : Array Slot, lv_has ls nL (lv_args 0 av) → zW C C.s.heap [] 0 0 0 ls []) : Met l y ws rm Pc Qc mc ms free := by
  refine va_MetW (cc := cc) (maxL := nL) (ret := ret) (hh := hh) hy hw ?_
  intro p e s m args below meth c s₁ B hml hv
  have ha := hPc _ _ hv
  subst ha
  have hl := lv_entry av (n := nL) hlen
  have hT := vx_table (x := y) (y := y) B (atoms_spec (ws := ws) B.pre _ (by rw [hw]; exact List.mem_cons_self))
  rw [lg_entry_eq]
  exact body (p, l, e, _, s, m, av.toArray, below, meth, c, _) ⟨B.exec, B.bytes, hml, findClass_of_methodNamed B.named, atoms_spec (ws := ws) B.pre, B.notSynchronized⟩ ⟨rfl, B.returns, rfl⟩ rfl hv hT _ hl
theorem zWR_ofW {B : Nat → Prop} {mc ms : Nat} {Q : Int32 → σ → Prop} (hy : plainName y.cls = true) (hw : ws = Cond.codeWith y cc nL ret hh :: ws') (hlen : (lg_sl av).length ≤ nL) (body : ∀ C : zX, C.2.1 = l → zOK C cc nL ws y.cls → zEnd C rm ret (va_Qi Q (fun x' t => Hx x' t.heap) (zA B C.s.heap.size)) mc ms (zA B C.s.heap.size) → Ks C.s → C.2.2.2.2.2.2.2.2.2.1.exceptionTable.toList = tableOf hh → Z C (zA B C.s.heap.size) Hx nL x (lv_args 0 av) 0 0 0 []) : zWR l y ws rm Ks Hx B x av mc ms Q := by
  intro sz
  refine z_bodyW hy hw hlen (fun _ _ h => h.1) (fun C O hE hl h hT ls hls => ?_)
  obtain ⟨-, rfl, h3, h4⟩ := h
  exact body C hl O hE h4 hT C.s.heap [] ls h3 va_S.rf hls
end ZXM
/-! ===== the layers' failures ===== -/
section FAILS
variable {l : Launch} {D : va_G} {cs : Nat → ClassId} {ad : Nat → Nat} {s0 : State}
set_option maxHeartbeats 4000000 in
set_option maxRecDepth 100000 in
theorem t_X7_fail (hl : l.stackTraces = false) (x : XS) (a : Nat) : zTH l yX7_fail wsX7_fail ({ frames := 6, cells := 1, slots := 6, locals := 82 } : Room) (gX D cs s0) (XU D cs ad s0) x [.ref a] eIS := by
  refine vx_ofW (cc := cX7_fail) (maxL := 1) (ret := none) (by decide +kernel) rfl (fun p e s m args below meth c s₁ B hml htab hv => ?_)
  obtain ⟨rfl, ⟨hH, hUh⟩, hK, hvm, hstr, hcas, hdec, -⟩ := hv
  have ht := atoms_spec (ws := wsX7_fail) B.pre
  obtain ⟨sa, hsa⟩ := hstr ("SaidInWinter$Layer", 9, "an oath is broken") (List.mem_of_getElem? (i := 4) rfl)
  have hls := lv_entry [.ref a] (n := 1) (Nat.le_of_ble_eq_true rfl)
  rw [lg_entry_eq]
  refine vx_throwS (cc := cX7_fail) (own := "SaidInWinter$Layer") (cls := eIS) (names := eUp) (A := fun _ => False) B.exec B.bytes hl (findClass_of_methodNamed B.named) (by decide +kernel) (by decide +kernel) (ht _ (by decide +kernel)) (ht _ (by decide +kernel)) hsa
    (vx_hat (B := [.castable eIS eIS, .declares (Bundle.initS "java/lang/RuntimeException"), .declares (Bundle.initS "java/lang/Exception"), .declares (Bundle.initS Bundle.tN)]) (fun w hw => ht w (List.mem_cons_of_mem _ (List.mem_append_right _ hw))) (by decide +kernel)
      (vx_c (va_Nw.use rfl (hcas eIS (by simp))) (vx_c (va_Nw.use rfl (hdec _ (List.mem_of_getElem? (i := 0) rfl))) (vx_c (va_Nw.use rfl (hdec _ (List.mem_of_getElem? (i := 1) rfl))) (vx_c (va_Nw.use rfl (hdec _ (List.mem_of_getElem? (i := 2) rfl))) vx_n)))))
    (by decide +kernel) ((vx_Zq.moved hvm hUh.1).narrow (fun _ h => h.elim)) ((vx_Zq.moved hvm hUh.2).narrow (fun _ h => h.elim)) va_S.rf (hls.1.trans hml.symm) dX7_fail_0 dX7_fail_3 dX7_fail_4 dX7_fail_6 dX7_fail_9 (fun x hx => (htab x hx).elim) (Nat.le_of_ble_eq_true rfl) (Nat.le_of_ble_eq_true rfl) (Nat.le_of_ble_eq_true rfl) (Nat.le_of_ble_eq_true rfl) B.notSynchronized
    (fun t _ h1 h2 => ⟨(), trivial, rfl, h1, fun q hq _ => h2 q hq⟩) (fun z hz => nomatch hz) (Nat.le_of_ble_eq_true rfl) (Nat.le_of_ble_eq_true rfl)
set_option maxHeartbeats 4000000 in
set_option maxRecDepth 100000 in
theorem t_X1_fail (hl : l.stackTraces = false) (x : XS) (a : Nat) : zTH l yX1_fail wsX1_fail ({ frames := 6, cells := 1, slots := 6, locals := 82 } : Room) (gX D cs s0) (XU D cs ad s0) x [.ref a] eIA := by
  refine vx_ofW (cc := cX1_fail) (maxL := 1) (ret := none) (by decide +kernel) rfl (fun p e s m args below meth c s₁ B hml htab hv => ?_)
  obtain ⟨rfl, ⟨hH, hUh⟩, hK, hvm, hstr, hcas, hdec, -⟩ := hv
  have ht := atoms_spec (ws := wsX1_fail) B.pre
  obtain ⟨sa, hsa⟩ := hstr ("SaidInWinter$Bubbly", 19, "an oath is broken in bubbles") (List.mem_of_getElem? (i := 3) rfl)
  have hls := lv_entry [.ref a] (n := 1) (Nat.le_of_ble_eq_true rfl)
  rw [lg_entry_eq]
  refine vx_throwS (cc := cX1_fail) (own := "SaidInWinter$Bubbly") (cls := eIA) (names := eUp) (A := fun _ => False) B.exec B.bytes hl (findClass_of_methodNamed B.named) (by decide +kernel) (by decide +kernel) (ht _ (by decide +kernel)) (ht _ (by decide +kernel)) hsa
    (vx_hat (B := [.castable eIA eIA, .declares (Bundle.initS "java/lang/RuntimeException"), .declares (Bundle.initS "java/lang/Exception"), .declares (Bundle.initS Bundle.tN)]) (fun w hw => ht w (List.mem_cons_of_mem _ (List.mem_append_right _ hw))) (by decide +kernel)
      (vx_c (va_Nw.use rfl (hcas eIA (by simp))) (vx_c (va_Nw.use rfl (hdec _ (List.mem_of_getElem? (i := 0) rfl))) (vx_c (va_Nw.use rfl (hdec _ (List.mem_of_getElem? (i := 1) rfl))) (vx_c (va_Nw.use rfl (hdec _ (List.mem_of_getElem? (i := 2) rfl))) vx_n)))))
    (by decide +kernel) ((vx_Zq.moved hvm hUh.1).narrow (fun _ h => h.elim)) ((vx_Zq.moved hvm hUh.2).narrow (fun _ h => h.elim)) va_S.rf (hls.1.trans hml.symm) dX1_fail_0 dX1_fail_3 dX1_fail_4 dX1_fail_6 dX1_fail_9 (fun x hx => (htab x hx).elim) (Nat.le_of_ble_eq_true rfl) (Nat.le_of_ble_eq_true rfl) (Nat.le_of_ble_eq_true rfl) (Nat.le_of_ble_eq_true rfl) B.notSynchronized
    (fun t _ h1 h2 => ⟨(), trivial, rfl, h1, fun q hq _ => h2 q hq⟩) (fun z hz => nomatch hz) (Nat.le_of_ble_eq_true rfl) (Nat.le_of_ble_eq_true rfl)
set_option maxHeartbeats 4000000 in
set_option maxRecDepth 100000 in
theorem t_X8_fail (hl : l.stackTraces = false) (x : XS) (a : Nat) : zTH l yX8_fail wsX8_fail ({ frames := 6, cells := 1, slots := 6, locals := 82 } : Room) (gX D cs s0) (XU D cs ad s0) x [.ref a] eUO := by
  refine vx_ofW (cc := cX8_fail) (maxL := 1) (ret := none) (by decide +kernel) rfl (fun p e s m args below meth c s₁ B hml htab hv => ?_)
  obtain ⟨rfl, ⟨hH, hUh⟩, hK, hvm, hstr, hcas, hdec, -⟩ := hv
  have ht := atoms_spec (ws := wsX8_fail) B.pre
  obtain ⟨sa, hsa⟩ := hstr ("SaidInWinter$Salt", 20, "an oath is broken in salt") (List.mem_of_getElem? (i := 5) rfl)
  have hls := lv_entry [.ref a] (n := 1) (Nat.le_of_ble_eq_true rfl)
  rw [lg_entry_eq]
  refine vx_throwS (cc := cX8_fail) (own := "SaidInWinter$Salt") (cls := eUO) (names := eUp) (A := fun _ => False) B.exec B.bytes hl (findClass_of_methodNamed B.named) (by decide +kernel) (by decide +kernel) (ht _ (by decide +kernel)) (ht _ (by decide +kernel)) hsa
    (vx_hat (B := [.castable eUO eUO, .declares (Bundle.initS "java/lang/RuntimeException"), .declares (Bundle.initS "java/lang/Exception"), .declares (Bundle.initS Bundle.tN)]) (fun w hw => ht w (List.mem_cons_of_mem _ (List.mem_append_right _ hw))) (by decide +kernel)
      (vx_c (va_Nw.use rfl (hcas eUO (by simp))) (vx_c (va_Nw.use rfl (hdec _ (List.mem_of_getElem? (i := 0) rfl))) (vx_c (va_Nw.use rfl (hdec _ (List.mem_of_getElem? (i := 1) rfl))) (vx_c (va_Nw.use rfl (hdec _ (List.mem_of_getElem? (i := 2) rfl))) vx_n)))))
    (by decide +kernel) ((vx_Zq.moved hvm hUh.1).narrow (fun _ h => h.elim)) ((vx_Zq.moved hvm hUh.2).narrow (fun _ h => h.elim)) va_S.rf (hls.1.trans hml.symm) dX8_fail_0 dX8_fail_3 dX8_fail_4 dX8_fail_6 dX8_fail_9 (fun x hx => (htab x hx).elim) (Nat.le_of_ble_eq_true rfl) (Nat.le_of_ble_eq_true rfl) (Nat.le_of_ble_eq_true rfl) (Nat.le_of_ble_eq_true rfl) B.notSynchronized
    (fun t _ h1 h2 => ⟨(), trivial, rfl, h1, fun q hq _ => h2 q hq⟩) (fun z hz => nomatch hz) (Nat.le_of_ble_eq_true rfl) (Nat.le_of_ble_eq_true rfl)
theorem t_X5_fail {σ : Type} {Ks : State → Prop} {Hx : σ → Heap → Prop} {x : σ} (a : Nat) : zMV l yX5_fail wsX5_fail ({ frames := 0, cells := 0, slots := 0, locals := 0 } : Room) Ks Hx x [.ref a] (fun _ => True) := by
  refine zMV_of (cc := cX5_fail) (nL := 1) (ret := none) (by decide +kernel) rfl (Nat.le_of_ble_eq_true rfl) (fun C hl O hE hK hH => ?_)
  exact z_retV O hE (fun _ h => h.1) dX5_fail_0 trivial
def wp_X11_caughtFailure (k : Nat) (p1 : Int32) (Q : Int32 → Prop) : Prop := (p1 = 0 → Q (-15)) ∧ (¬ p1 = 0 → (k = 2 → Q (-15)) ∧ (k = 4 → Q (100 + p1)) ∧ (k = 5 → wp_X8_tollWith p1 (fun r => Q (200 + r))) ∧ (k ≠ 2 → k ≠ 4 → k ≠ 5 → Q p1))
set_option maxHeartbeats 4000000 in
set_option maxRecDepth 100000 in
theorem t_X11_caughtFailure (hl : l.stackTraces = false) (x : XS) (k : Nat) (hk : k < 8) (p1 : Int32) (Q : Int32 → Prop) (h : wp_X11_caughtFailure k p1 Q) : zWR l yX11_caughtFailure wsX11_caughtFailure ({ frames := 7, cells := 1, slots := 6, locals := 102 } : Room) (gX D cs s0) (XU D cs ad s0) (fun _ => False) x [.ref (ad (2 + k)), .int p1] 1 6 (fun r x' => x' = x ∧ Q r) := by
  refine zWR_ofW (cc := cX11_caughtFailure) (nL := 3) (ret := some .int) (hh := [(7, 11, 14, 258), (7, 11, 17, 251), (7, 11, 23, 323)]) (by decide +kernel) rfl (Nat.le_of_ble_eq_true rfl) (fun C hC O hE hK hT => ?_)
  subst hC
  have hX : ∀ (x : XS) (H : Heap), XU D cs ad s0 x H → va_P D vwCl (wl 161 ad (XE cs ad x)) H := fun _ _ h => h.1
  have hkp : ∀ H H1 : Heap, XU D cs ad s0 x H → (∀ q : Nat, q < H.size → H1[q]? = H[q]?) → XU D cs ad s0 x H1 := fun _ _ h hq => XU_kept h hq
  have hA : ∀ q, C.s.heap.size ≤ q → zA (fun _ => False) C.s.heap.size q := fun q h => Or.inr h
  refine z_sub (lv' := [(0, .ref (ad (2 + k))), (1, .int p1)]) [0, 1] rfl ?_
  refine z_iload_n O dX11_caughtFailure_0 1 rfl ?_
  refine z_if_ne O 7 dX11_caughtFailure_1 (by decide) (fun c => ?_) (fun c => ?_)
  · obtain ⟨h2, h4, h5, h0⟩ := h.2 c
    have k0 : Q p1 → ∀ q : Nat, Z C (zA (fun _ => False) C.s.heap.size) (XU D cs ad s0) 3 x [(0, .ref (ad (2 + k))), (1, .int p1)] 1 6 14 [.ref q] := by
      intro hq q
      refine z_astore_n (lv' := [(2, .ref q), (0, .ref (ad (2 + k))), (1, .int p1)]) O dX11_caughtFailure_14 (by decide) rfl ?_
      refine z_iload_n O dX11_caughtFailure_15 2 rfl ?_
      exact z_retWR O hE (Nat.le_of_ble_eq_true rfl) (Nat.le_of_ble_eq_true rfl) rfl dX11_caughtFailure_16 ⟨rfl, hq⟩
    refine z_aload_n O dX11_caughtFailure_7 0 rfl ?_
    rcases xl8 hk with rfl | rfl | rfl | rfl | rfl | rfl | rfl | rfl
    · refine z_callTH (name := eIS) O (gXs D cs s0) hK (fun _ h => h) hkp hA (t_X7_fail hl x _) (zx_V (As := []) (rest := []) O hE.1 0 gX11_caughtFailure_X7_fail rfl rfl rfl (by decide +kernel) ⟨(Nat.le_of_ble_eq_true rfl), (Nat.le_of_ble_eq_true rfl)⟩ ⟨(Nat.le_of_ble_eq_true rfl), (Nat.le_of_ble_eq_true rfl)⟩ (fun H hH => z_recv hK.1.1 (hX _ H hH) (by decide) (xe_ly (k := 0) (by decide)) rfl) rfl rfl (Nat.le_of_ble_eq_true rfl) dX11_caughtFailure_8) [] ⟨7, 11, 14, 258⟩ [⟨7, 11, 17, 251⟩, ⟨7, 11, 23, 323⟩] hT (fun z hz => nomatch hz) rfl (by decide) (by decide +kernel) (hK.2.2.2.1 eIS (by simp)) (k0 (h0 (by decide) (by decide) (by decide)))
    · refine z_callTH (name := eIS) O (gXs D cs s0) hK (fun _ h => h) hkp hA (t_X7_fail hl x _) (zx_U (As := []) (rest := []) O hE.1 0 gX11_caughtFailure_X7_fail_u320X3 rfl rfl rfl rfl (by decide +kernel) ⟨(Nat.le_of_ble_eq_true rfl), (Nat.le_of_ble_eq_true rfl)⟩ ⟨(Nat.le_of_ble_eq_true rfl), (Nat.le_of_ble_eq_true rfl)⟩ (fun H hH => z_recv hK.1.1 (hX _ H hH) (by decide) (xe_ly (k := 1) (by decide)) rfl) rfl rfl (Nat.le_of_ble_eq_true rfl) dX11_caughtFailure_8) [] ⟨7, 11, 14, 258⟩ [⟨7, 11, 17, 251⟩, ⟨7, 11, 23, 323⟩] hT (fun z hz => nomatch hz) rfl (by decide) (by decide +kernel) (hK.2.2.2.1 eIS (by simp)) (k0 (h0 (by decide) (by decide) (by decide)))
    · refine z_callV (gKs D cs) hK.1 (fun _ h => h.1) (t_X5_fail _) (zr_O (As := []) (rest := []) O hE.1 0 gX11_caughtFailure_X5_fail_u320X5 rfl rfl rfl (b0 := cX7_fail) (m0 := 1) (r0 := none) (by decide +kernel) (by decide +kernel) ⟨(Nat.le_of_ble_eq_true rfl), (Nat.le_of_ble_eq_true rfl)⟩ ⟨(Nat.le_of_ble_eq_true rfl), (Nat.le_of_ble_eq_true rfl)⟩ (fun H hH => z_recv hK.1.1 (hX _ H hH) (by decide) (xe_ly (k := 2) (by decide)) rfl) rfl rfl (Nat.le_of_ble_eq_true rfl) dX11_caughtFailure_8) (fun _ => ?_)
      refine z_goto O 34 dX11_caughtFailure_11 (by decide) ?_
      refine z_bipush (v := -15) O dX11_caughtFailure_34 rfl ?_
      exact z_retWR O hE (Nat.le_of_ble_eq_true rfl) (Nat.le_of_ble_eq_true rfl) rfl dX11_caughtFailure_36 ⟨rfl, h2 rfl⟩
    · refine z_callTH (name := eIS) O (gXs D cs s0) hK (fun _ h => h) hkp hA (t_X7_fail hl x _) (zx_U (As := []) (rest := []) O hE.1 0 gX11_caughtFailure_X7_fail_u320X10 rfl rfl rfl rfl (by decide +kernel) ⟨(Nat.le_of_ble_eq_true rfl), (Nat.le_of_ble_eq_true rfl)⟩ ⟨(Nat.le_of_ble_eq_true rfl), (Nat.le_of_ble_eq_true rfl)⟩ (fun H hH => z_recv hK.1.1 (hX _ H hH) (by decide) (xe_ly (k := 3) (by decide)) rfl) rfl rfl (Nat.le_of_ble_eq_true rfl) dX11_caughtFailure_8) [] ⟨7, 11, 14, 258⟩ [⟨7, 11, 17, 251⟩, ⟨7, 11, 23, 323⟩] hT (fun z hz => nomatch hz) rfl (by decide) (by decide +kernel) (hK.2.2.2.1 eIS (by simp)) (k0 (h0 (by decide) (by decide) (by decide)))
    · refine z_callTH (name := eIA) O (gXs D cs s0) hK (fun _ h => h) hkp hA (t_X1_fail hl x _) (zx_O (As := []) (rest := []) O hE.1 0 gX11_caughtFailure_X1_fail_u320X1 rfl rfl rfl (b0 := cX7_fail) (m0 := 1) (r0 := none) (by decide +kernel) (by decide +kernel) ⟨(Nat.le_of_ble_eq_true rfl), (Nat.le_of_ble_eq_true rfl)⟩ ⟨(Nat.le_of_ble_eq_true rfl), (Nat.le_of_ble_eq_true rfl)⟩ (fun H hH => z_recv hK.1.1 (hX _ H hH) (by decide) (xe_ly (k := 4) (by decide)) rfl) rfl rfl (Nat.le_of_ble_eq_true rfl) dX11_caughtFailure_8) [⟨7, 11, 14, 258⟩] ⟨7, 11, 17, 251⟩ [⟨7, 11, 23, 323⟩] hT (fun z hz => by rw [List.mem_singleton.mp hz]; exact ⟨by decide, eIS, by decide +kernel, hK.2.2.2.2.2 (eIA, eIS) (List.mem_of_getElem? (i := 0) rfl)⟩) rfl (by decide) (by decide +kernel) (hK.2.2.2.1 eIA (by simp)) (fun q => ?_)
      refine z_astore_n (lv' := [(2, .ref q), (0, .ref (ad (2 + 4))), (1, .int p1)]) O dX11_caughtFailure_17 (by decide) rfl ?_
      refine z_bipush (v := 100) O dX11_caughtFailure_18 rfl ?_
      refine z_iload_n O dX11_caughtFailure_20 2 rfl ?_
      refine z_iadd O dX11_caughtFailure_21 ?_
      exact z_retWR O hE (Nat.le_of_ble_eq_true rfl) (Nat.le_of_ble_eq_true rfl) rfl dX11_caughtFailure_22 ⟨rfl, h4 rfl⟩
    · refine z_callTH (name := eUO) O (gXs D cs s0) hK (fun _ h => h) hkp hA (t_X8_fail hl x _) (zx_O (As := []) (rest := []) O hE.1 0 gX11_caughtFailure_X8_fail_u320X8 rfl rfl rfl (b0 := cX7_fail) (m0 := 1) (r0 := none) (by decide +kernel) (by decide +kernel) ⟨(Nat.le_of_ble_eq_true rfl), (Nat.le_of_ble_eq_true rfl)⟩ ⟨(Nat.le_of_ble_eq_true rfl), (Nat.le_of_ble_eq_true rfl)⟩ (fun H hH => z_recv hK.1.1 (hX _ H hH) (by decide) (xe_ly (k := 5) (by decide)) rfl) rfl rfl (Nat.le_of_ble_eq_true rfl) dX11_caughtFailure_8) [⟨7, 11, 14, 258⟩, ⟨7, 11, 17, 251⟩] ⟨7, 11, 23, 323⟩ [] hT (fun z hz => by
        rcases List.mem_cons.mp hz with e | hz
        · rw [e]; exact ⟨by decide, eIS, by decide +kernel, hK.2.2.2.2.2 (eUO, eIS) (List.mem_of_getElem? (i := 1) rfl)⟩
        · rw [List.mem_singleton.mp hz]; exact ⟨by decide, eIA, by decide +kernel, hK.2.2.2.2.2 (eUO, eIA) (List.mem_of_getElem? (i := 2) rfl)⟩) rfl (by decide) (by decide +kernel) (hK.2.2.2.1 eUO (by simp)) (fun q => ?_)
      refine z_astore_n (lv' := [(2, .ref q), (0, .ref (ad (2 + 5))), (1, .int p1)]) O dX11_caughtFailure_23 (by decide) rfl ?_
      refine z_sipush (v := 200) O dX11_caughtFailure_24 rfl ?_
      refine z_aload_n O dX11_caughtFailure_27 1 rfl ?_
      refine z_iload_n O dX11_caughtFailure_28 2 rfl ?_
      refine z_callR (gKs D cs) hK.1 (fun _ h => h.1) (t_X8_tollWith x 5 (by decide) p1 _ (h5 rfl)) (zr_O (As := [.int p1]) (rest := [.int 200]) O hE.1 1 gX11_caughtFailure_X8_tollWith_u274X8 rfl rfl rfl (b0 := cX7_tollWith) (m0 := 2) (r0 := (some .int)) (by decide +kernel) (by decide +kernel) ⟨(Nat.le_of_ble_eq_true rfl), (Nat.le_of_ble_eq_true rfl)⟩ ⟨(Nat.le_of_ble_eq_true rfl), (Nat.le_of_ble_eq_true rfl)⟩ (fun H hH => z_recv hK.1.1 (hX _ H hH) (by decide) (xe_ly (k := 5) (by decide)) rfl) rfl rfl (Nat.le_of_ble_eq_true rfl) dX11_caughtFailure_29) (fun r hr => ?_)
      refine z_iadd O dX11_caughtFailure_32 ?_
      exact z_retWR O hE (Nat.le_of_ble_eq_true rfl) (Nat.le_of_ble_eq_true rfl) rfl dX11_caughtFailure_33 ⟨rfl, hr⟩
    · refine z_callTH (name := eIS) O (gXs D cs s0) hK (fun _ h => h) hkp hA (t_X7_fail hl x _) (zx_U (As := []) (rest := []) O hE.1 0 gX11_caughtFailure_X7_fail_u320X0 rfl rfl rfl rfl (by decide +kernel) ⟨(Nat.le_of_ble_eq_true rfl), (Nat.le_of_ble_eq_true rfl)⟩ ⟨(Nat.le_of_ble_eq_true rfl), (Nat.le_of_ble_eq_true rfl)⟩ (fun H hH => z_recv hK.1.1 (hX _ H hH) (by decide) (xe_ly (k := 6) (by decide)) rfl) rfl rfl (Nat.le_of_ble_eq_true rfl) dX11_caughtFailure_8) [] ⟨7, 11, 14, 258⟩ [⟨7, 11, 17, 251⟩, ⟨7, 11, 23, 323⟩] hT (fun z hz => nomatch hz) rfl (by decide) (by decide +kernel) (hK.2.2.2.1 eIS (by simp)) (k0 (h0 (by decide) (by decide) (by decide)))
    · refine z_callTH (name := eIS) O (gXs D cs s0) hK (fun _ h => h) hkp hA (t_X7_fail hl x _) (zx_U (As := []) (rest := []) O hE.1 0 gX11_caughtFailure_X7_fail_u320X4 rfl rfl rfl rfl (by decide +kernel) ⟨(Nat.le_of_ble_eq_true rfl), (Nat.le_of_ble_eq_true rfl)⟩ ⟨(Nat.le_of_ble_eq_true rfl), (Nat.le_of_ble_eq_true rfl)⟩ (fun H hH => z_recv hK.1.1 (hX _ H hH) (by decide) (xe_ly (k := 7) (by decide)) rfl) rfl rfl (Nat.le_of_ble_eq_true rfl) dX11_caughtFailure_8) [] ⟨7, 11, 14, 258⟩ [⟨7, 11, 17, 251⟩, ⟨7, 11, 23, 323⟩] hT (fun z hz => nomatch hz) rfl (by decide) (by decide +kernel) (hK.2.2.2.1 eIS (by simp)) (k0 (h0 (by decide) (by decide) (by decide)))
  · refine z_bipush (v := -15) O dX11_caughtFailure_4 rfl ?_
    exact z_retWR O hE (Nat.le_of_ble_eq_true rfl) (Nat.le_of_ble_eq_true rfl) rfl dX11_caughtFailure_6 ⟨rfl, h.1 c⟩
end FAILS
