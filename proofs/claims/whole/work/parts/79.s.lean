/-! ===== the law from its entry ===== -/
/-! THE CLAIM OUT OF ONE WALK OF THE LAW'S BODY. Your part is whole_start (and what it stands on); all else here is the same for every law, but numbers. -/
def R_law : String := "SaidInWinterLaw"
def lw_P (b : Addr) (xs : List Int32) (args : Array Value) (s : State) : Prop := args = #[.ref b] ∧ s.IntsAt b xs ∧ xs.length ≤ 3072 ∧ (Jvm.Cond.and given_1 narrow_1).before args s = true
def lw_Q (_ : Array Value) (s : State) (o : Outcome) (t : State) : Prop := o = .returned (some (.int 1)) ∧ Framed s o t [] 601024 7293034
def lw_Z (below : List Frame) (a : Array Value) (s : State) : State → Prop := fun t => ∃ o, t.status = .running ∧ Ended t below o ∧ lw_Q a s o t
/-- the law's own end, with 1 on the stack, nothing written that was there before, its room as the claim has it -/
theorem lw_ret {p : Program} {l : Launch} {e : Env} {s : State} {m : MethodId} {below : List Frame} {meth : Method} {c : Code} {b : Nat} (hx : p.tables.exec = Jvm.exec) (hb : c.code = code) (hr : meth.sig.returnType = ret) (hlocks : meth.locks = false) {pc : Nat} {H : Heap} {ls : Array Slot} (hdg : decode code pc = .ok (.ireturn, 1)) : W p l e room_1 s m #[Value.ref b] below meth c H [] 601024 7293034 (lw_Z below #[Value.ref b] s) (F0 m pc ls [.int 1]) := by
  intro T hT X
  obtain ⟨fs, hret, hrun, hended, hW, hframe⟩ := X.leave (v := some (.int 1)) (hlocks := hlocks) (fun h => by rw [hr] at h; cases h)
  have hmeth' : T.vm.method? m = some meth := X.method'
  refine ⟨T.setFrames fs, ?_, .returned (some (.int 1)), hrun, hended, rfl, ⟨_, rfl⟩, hW, hframe⟩
  jvm_step X.here [X.here.top, hx, hb, hdg, hmeth', hr, ret, narrow_b1]
  (try refine ⟨rfl, ?_⟩); (try refine ⟨rfl, ?_⟩)
  first | (intro acts; rw [hret _ acts rfl rfl rfl]) | rw [hret _ _ rfl rfl rfl]
  exact Steps.refl _
/-- what holds at the law's entry: the machine, the code, the tables' words (any of lw_tbl by 'hts w (by decide +kernel)'), the script of L ints xs at the cell b, what the Statement gives of the start (any of its parts by flat_of_before) -/
def lw_At (p : Program) (s : State) (m : MethodId) (meth : Method) (c : Code) (b L : Nat) (xs : Nat → Int32) : Prop :=
  p.tables.exec = Jvm.exec ∧ c.code = code ∧ meth.sig.returnType = ret ∧ c.maxLocals = 8 ∧ s.vm.findClass R_law = some m.cls ∧ (∀ w ∈ lw_tbl, w.before #[Value.ref b] s = true) ∧ va_X b L xs s s.heap ∧ b < s.heap.size ∧ meth.locks = false ∧ (Jvm.Cond.and given_1 narrow_1).before #[Value.ref b] s = true
-- ===== YOUR PART BEGINS =====
theorem gUp_at {k q : Nat} {g : GS} {e : va_E} : (gUp k g q e).2.1 k = q ∧ (gUp k g q e).2.2 k = e := ⟨if_pos rfl, if_pos rfl⟩
theorem gJoin_hi {g : GS} {n m i : Nat} {u : Nat → Nat} {E : Nat → va_E} (h : ¬ i < n) : (gJoin g n m u E).2.1 i = u (i - n) ∧ (gJoin g n m u E).2.2 i = E (i - n) := ⟨if_neg h, if_neg h⟩
/-- the heap is what the law began with, where it stood -/
theorem z_convS {σ τ : Type} {C : zX} {A : Nat → Prop} {Hp : σ → Heap → Prop} {Hp2 : τ → Heap → Prop} {nL : Nat} {x : σ} {x2 : τ} {lv : List (Nat × Value)} {kc ks pc : Nat} {st : List Value} (h : ∀ H locs, Hp x H → va_S A C.s.heap H locs → Hp2 x2 H) (k : Z C A Hp2 nL x2 lv kc ks pc st) : Z C A Hp nL x lv kc ks pc st := fun H locs ls hH hS hl => k H locs ls (h H locs hH hS) hS hl
set_option maxHeartbeats 8000000 in
set_option maxRecDepth 100000 in
/-- YOUR PART: from the entry, for every script of at most 3072 ints, the law comes to its end with true ('hflags': the launch's flags, for a law that throws: no stack traces) -/
theorem whole_start {p : Program} {e : Env} {s : State} {m : MethodId} {below : List Frame} {meth : Method} {c : Code} (l : Launch) (hflags : l.flags = flags0) {b L : Nat} {xs : Nat → Int32} (hL : L ≤ 3072) (C0 : lw_At p s m meth c b L xs) : W p l e room_1 s m #[Value.ref b] below meth c s.heap [] 0 0 (lw_Z below #[Value.ref b] s) (entryFrame m ([Value.ref b] : List Value).toArray 8) := by
  obtain ⟨hx, hb, hr, hml, hown, hts, hX, hbl, hlocks, hgv⟩ := id C0
  obtain ⟨D, cs, hK, hKX, hUh⟩ := lw_gK hts hgv
  have hfl := lw_flags hflags
  have hl := lv_entry ([.ref b]) (n := 8) (Nat.le_of_ble_eq_true rfl)
  rw [lg_entry_eq]
  generalize (lg_sl ([.ref b]) ++ List.replicate (8 - (lg_sl ([.ref b])).length) Slot.unset).toArray = ls at hl ⊢
  obtain ⟨C, hC⟩ : ∃ C : zX, C = (p, l, e, room_1, s, m, #[Value.ref b], below, meth, c, lw_Z below #[Value.ref b] s) := ⟨_, rfl⟩
  have hCs : C.s = s := by rw [hC]
  have O : zOK C cL_law 8 wsL_law RL := by
    rw [hC]
    exact ⟨hx, hb, hml, hown, fun w hw => hts w (wsL_law_in w hw), hlocks⟩
  have hR : C.R = room_1 := by rw [hC]
  have hCl : C.2.1 = l := by rw [hC]
  suffices kz : Z C (lwA C.s) (GH D) 8 (0, fun _ => 0, fun _ => .inr (0, [])) [(0, .ref b)] 0 0 0 [] by
    subst hC
    exact kz s.heap [] ls (fun k q h => by simp [wl] at h) va_S.rf hl
  have hA : ∀ q, C.s.heap.size ≤ q → lwA C.s q := fun _ h => h
  have hG : GI (lwA C.s) ((0, fun _ => 0, fun _ => .inr (0, [])) : GS) := ⟨fun i j hi _ _ => absurd hi (Nat.not_lt_zero i), fun q hq => by obtain ⟨i, hi, _⟩ := hq; exact absurd hi (Nat.not_lt_zero i)⟩
  rw [← hCs] at hK hKX hUh hX hbl
  refine z_new O hR hK.1.1 hA hG (kg := 0) rfl (ci := 11) inlX11 tyX11 tyX11_ok (by decide +kernel) (by decide +kernel) (by decide +kernel) rfl [.null, .null, .null, .null, .null, .null, .null, .int 0, .int 0] (fun j hj => by
    rcases (show j = 0 ∨ j = 1 ∨ j = 2 ∨ j = 3 ∨ j = 4 ∨ j = 5 ∨ j = 6 ∨ j = 7 ∨ j = 8 by omega) with rfl | rfl | rfl | rfl | rfl | rfl | rfl | rfl | rfl <;> rfl) ⟨(Nat.le_of_ble_eq_true rfl), (Nat.le_of_ble_eq_true rfl)⟩ dL_law_0 (fun a1 hG => ?_)
  refine z_dup O dL_law_3 rfl ?_
  refine z_callC (gK2s D cs) hK hA hG (k := 0) rfl rfl rfl (by decide) t_X11_init (zr_I (As := []) (rest := [.ref a1]) O hR 0 gL_law_X11_init rfl rfl rfl (by decide +kernel) (by decide +kernel) (by decide +kernel) rfl (by decide +kernel) ⟨(Nat.le_of_ble_eq_true rfl), (Nat.le_of_ble_eq_true rfl)⟩ ⟨(Nat.le_of_ble_eq_true rfl), (Nat.le_of_ble_eq_true rfl)⟩ rfl rfl (Nat.le_of_ble_eq_true rfl) dL_law_4) (fun u hu hG => ?_)
  refine z_astore_n (lv' := [(1, .ref a1), (0, .ref b)]) O dL_law_7 (by decide) rfl ?_
  generalize hg1 : gJoin (gUp 0 ((0, fun _ => 0, fun _ => .inr (0, [])) : GS) a1 (.inr (11, [.null, .null, .null, .null, .null, .null, .null, .int 0, .int 0]))) 0 161 u (eCX11 cs u) = g1 at hG ⊢
  have n1 : g1.1 = 161 := by rw [← hg1]; rfl
  have f1 : ∀ i, i < 161 → g1.2.1 i = u i ∧ g1.2.2 i = eCX11 cs u i := fun i _ => by
    rw [← hg1]
    exact gJoin_hi (Nat.not_lt_zero i)
  clear hg1
  refine z_new O hR hK.1.1 hA hG (kg := 161) n1 (ci := 12) inlX12 tyX12 tyX12_ok (by decide +kernel) (by decide +kernel) (by decide +kernel) rfl [.int 0, .null, .null, .null, .null, .null, .int 0, .null, .null, .int 0, .int 0, .int 0, .null, .int 0, .int 0, .int 0, .int 0, .int 0, .null, .null, .null, .int 0, .null, .null, .null, .null, .null, .null, .null] (fun j hj => by
    rcases (show j = 0 ∨ j = 1 ∨ j = 2 ∨ j = 3 ∨ j = 4 ∨ j = 5 ∨ j = 6 ∨ j = 7 ∨ j = 8 ∨ j = 9 ∨ j = 10 ∨ j = 11 ∨ j = 12 ∨ j = 13 ∨ j = 14 ∨ j = 15 ∨ j = 16 ∨ j = 17 ∨ j = 18 ∨ j = 19 ∨ j = 20 ∨ j = 21 ∨ j = 22 ∨ j = 23 ∨ j = 24 ∨ j = 25 ∨ j = 26 ∨ j = 27 ∨ j = 28 by omega) with rfl | rfl | rfl | rfl | rfl | rfl | rfl | rfl | rfl | rfl | rfl | rfl | rfl | rfl | rfl | rfl | rfl | rfl | rfl | rfl | rfl | rfl | rfl | rfl | rfl | rfl | rfl | rfl | rfl <;> rfl) ⟨(Nat.le_of_ble_eq_true rfl), (Nat.le_of_ble_eq_true rfl)⟩ dL_law_8 (fun a2 hG => ?_)
  refine z_dup O dL_law_11 rfl ?_
  refine z_callC (gKs D cs) hK.1 hA hG (k := 161) rfl gUp_at.1 gUp_at.2 (by decide) t_X12_init (zr_I (As := []) (rest := [.ref a2]) O hR 0 gL_law_X12_init rfl rfl rfl (by decide +kernel) (by decide +kernel) (by decide +kernel) rfl (by decide +kernel) ⟨(Nat.le_of_ble_eq_true rfl), (Nat.le_of_ble_eq_true rfl)⟩ ⟨(Nat.le_of_ble_eq_true rfl), (Nat.le_of_ble_eq_true rfl)⟩ rfl rfl (Nat.le_of_ble_eq_true rfl) dL_law_12) (fun v hv hG => ?_)
  refine z_astore_n (lv' := [(2, .ref a2), (1, .ref a1), (0, .ref b)]) O dL_law_15 (by decide) rfl ?_
  generalize hg2 : gJoin (gUp 161 g1 a2 (.inr (12, [.int 0, .null, .null, .null, .null, .null, .int 0, .null, .null, .int 0, .int 0, .int 0, .null, .int 0, .int 0, .int 0, .int 0, .int 0, .null, .null, .null, .int 0, .null, .null, .null, .null, .null, .null, .null]))) 161 18 v (eCX12 cs v) = g2 at hG ⊢
  have n2 : g2.1 = 179 := by rw [← hg2]; rfl
  have f2 : ∀ i, i < 161 → g2.2.1 i = u i ∧ g2.2.2 i = eCX11 cs u i := fun i hi => by
    rw [← hg2]
    exact ⟨(if_pos hi).trans ((if_neg (by omega)).trans (f1 i hi).1), (if_pos hi).trans ((if_neg (by omega)).trans (f1 i hi).2)⟩
  have m2 : ∀ i, i < 18 → g2.2.1 (161 + i) = v i ∧ g2.2.2 (161 + i) = eCX12 cs v i := fun i hi => by
    rw [← hg2]
    exact ⟨(if_neg (by omega)).trans (by rw [Nat.add_sub_cancel_left]), (if_neg (by omega)).trans (by rw [Nat.add_sub_cancel_left])⟩
  clear hg2
  refine z_iconst (v := 1) O dL_law_16 rfl ?_
  refine z_newA O hR hK.1.1 hA hG (kg := 179) n2 .long .long rfl (by decide +kernel) 4 rfl h_pJ (1, .inr (.inl (fun _ => 0))) (h_aJ 1) (by decide) rfl (by decide) ⟨(Nat.le_of_ble_eq_true rfl), (Nat.le_of_ble_eq_true rfl)⟩ dL_law_17 (fun ao hG => ?_)
  refine z_astore_n (lv' := [(3, .ref ao), (2, .ref a2), (1, .ref a1), (0, .ref b)]) O dL_law_19 (by decide) rfl ?_
  refine z_iconst (v := 0) O dL_law_20 rfl ?_
  refine z_istore (lv' := [(4, .int 0), (3, .ref ao), (2, .ref a2), (1, .ref a1), (0, .ref b)]) O dL_law_21 (by decide) rfl ?_
  generalize hg3 : gUp 179 g2 ao (.inl (cs 4, 1, .inr (.inl (fun _ => 0)))) = g3 at hG ⊢
  have n3 : g3.1 = 180 := by rw [← hg3]; rfl
  have f3 : ∀ i, i < 161 → g3.2.1 i = u i ∧ g3.2.2 i = eCX11 cs u i := fun i hi => by
    rw [← hg3]
    exact ⟨(if_neg (by omega)).trans (f2 i hi).1, (if_neg (by omega)).trans (f2 i hi).2⟩
  have m3 : ∀ i, i < 18 → g3.2.1 (161 + i) = v i ∧ g3.2.2 (161 + i) = eCX12 cs v i := fun i hi => by
    rw [← hg3]
    exact ⟨(if_neg (by omega)).trans (m2 i hi).1, (if_neg (by omega)).trans (m2 i hi).2⟩
  have o3 : g3.2.1 179 = ao ∧ g3.2.2 179 = .inl (cs 4, 1, .inr (.inl (fun _ => 0))) := by
    rw [← hg3]
    exact gUp_at
  clear hg3
  obtain ⟨hI, hB, hd⟩ := lw_apart n3 hG (fun i hi => (f3 i hi).1) (fun i hi => (m3 i hi).1) o3.1
  have Wc : lwC C D cs (fun j => u (pX j)) v ao b L xs := ⟨O, hR, hKX, by rw [hCl]; exact hfl, hI, hB, hd, hX, hbl, hL⟩
  refine z_convS (fun H locs hH hS => lw_made n3 f3 m3 o3 hH (hU_kept hUh (fun q h1 h2 => hS.2.1 q h1 (Nat.not_le.mpr h1)))) ?_
  have e1 : u (pX 0) = a1 := hu
  have e2 : v 0 = a2 := hv
  refine z_sub (lv' := [(0, .ref b), (1, .ref (u (pX 0))), (2, .ref (v 0)), (3, .ref ao), (4, .int (zI ((0 : Nat) : Int)))]) [4, 3, 2, 1, 0] (by rw [e1, e2]; rfl) ?_
  refine lw_loop Wc (fun u i kc ks h1 h2 => ?_) 512 0 _ _ _ as0 (by omega) (Nat.zero_le _) (by decide) (by decide) ⟨XR0, MR0⟩
  refine z_iconst (v := 1) O dL_law_1284 rfl ?_
  subst hC
  intro H locs ls hH hS hl
  refine va_forget (fun q hq => hS.2.2 q hq) ?_
  refine W.widen h1 h2 ?_
  exact lw_ret hx hb hr hlocks dL_law_1285
-- ===== YOUR PART ENDS =====
set_option maxHeartbeats 4000000 in
theorem lw_walk (l : Launch) (hflags : l.flags = flags0) (b : Addr) (xs : List Int32) : MetFree l x (headSpec (Jvm.Cond.code x code maxLocals ret :: tables_1) room_1) (lw_P b xs) (fun _ _ _ _ _ => True) lw_Q := by
  refine MetFree.of_bodyS (code := code) (maxLocals := maxLocals) (ret := ret) (by decide) ?_ ?_
  · intro args s m h hn
    obtain ⟨meth, c, h1, h2, h3, h4, h5, h6, -, -⟩ := Cond.code_spec hn (atoms_spec (ws := Jvm.Cond.code x code maxLocals ret :: tables_1) h _ List.mem_cons_self)
    exact ⟨meth, c, h1, h2, h3, h4, h5, h6⟩
  · intro p e s m args below meth c s₁ B hml0 hP _
    obtain ⟨rfl, hx, hbd, hgv⟩ := hP
    obtain ⟨scr, harrAt, hlist, hof, hsmall⟩ := hx
    obtain ⟨hcb, hkn, -, -⟩ := State.arrayAt?_spec harrAt
    have hown : s.vm.findClass R_law = some m.cls := findClass_of_methodNamed B.named
    have hts0 : ∀ c ∈ (Jvm.Cond.code x code maxLocals ret :: tables_1), c.before #[Value.ref b] s = true := atoms_spec (ws := Jvm.Cond.code x code maxLocals ret :: tables_1) B.pre
    have hts : ∀ w ∈ lw_tbl, w.before #[Value.ref b] s = true := k2_hts_sels lw_privs (fun w hw => hts0 w (List.mem_cons_of_mem _ hw)) lw_privs_ok
    have hml : c.maxLocals = 8 := B.maxLocals_eq (hts0 _ List.mem_cons_self)
    have X₀ : Stand p l e room_1 s m #[Value.ref b] below meth c s₁ [] 0 0 := Stand.of_body B
    have hh0 : s₁.heap = s.heap := by rw [B.state]; rfl
    have hsz : scr.slots.size = xs.length := by rw [← Array.length_toList, hlist, List.length_map]
    have hval : ∀ j : Nat, j < xs.length → scr.slots[j]? = some (.int (xs.getD j 0)) := fun j hj => by
      rw [← Array.getElem?_toList, hlist]
      simp [hj]
    have hbl : b < s.heap.size := (Array.getElem?_eq_some_iff.mp hcb).1
    have hX : va_X b xs.length (fun j => xs.getD j 0) s s.heap := ⟨scr, hcb, hof, hkn, hsz, hval⟩
    have K : W p l e room_1 s m #[Value.ref b] below meth c s₁.heap [] 0 0 (lw_Z below #[Value.ref b] s) (entryFrame m ([Value.ref b] : List Value).toArray 8) := by
      rw [hh0]
      exact whole_start l hflags hbd ⟨B.exec, B.bytes, B.returns, hml, hown, hts, hX, hbl, B.notSynchronized, hgv⟩
    obtain ⟨t, a1, o, b1, b2, b3⟩ := K s₁ rfl X₀
    exact ⟨t, o, a1, b1, b2, b3⟩
theorem lw_pre_spec {args : Array Value} {s : State} (h : (Jvm.Cond.and given_1 narrow_1).before args s = true) (hr : rest_1_c.before args s = true) : ∃ (b : Addr) (xs : List Int32), lw_P b xs args s := by
  have hs := flat_of_before _ h
  have hq := flat_of_before _ hr
  have hc : (Cond.count 1).before args s = true := hs _ (by decide +kernel)
  have harr : (Cond.arrayOf (.arg 0) .int).before args s = true := hs _ (by decide +kernel)
  have hle : (Cond.le (.length (.arg 0)) (.int 3072)).before args s = true := hs _ (by decide +kernel)
  have hlen : (Cond.isInt (.length (.arg 0))).before args s = true := hq _ (by decide +kernel)
  have hall : (Cond.all (.arg 0) (.isInt (.elem (.arg 0) (.index 0)))).before args s = true := hq _ (by decide +kernel)
  obtain ⟨b, xs, hb, hx⟩ := State.ints_of_pre rfl harr hlen hall
  have hsm : xs.length < 2 ^ 31 := hx.choose_spec.2.2.2
  have hev : (Term.length (.arg 0)).eval args s none [] s = some (.int xs.length.toInt32) := hx.length_eval hb
  have hv := Cond.le_ints hev (show (Term.int 3072).eval args s none [] s = some (.int 3072) from rfl)
  have hd : xs.length.toInt32 ≤ 3072 := by
    simpa [Cond.before, Cond.holds, hv] using hle
  have hN : xs.length ≤ 3072 := (Int32.ofNat_le_ofNat hsm (by decide)).mp (show Int32.ofNat xs.length ≤ Int32.ofNat 3072 from hd)
  exact ⟨b, xs, Cond.one_arg hc (show args[0]? = some (.ref b) from hb), hx, hN, h⟩
theorem lw_comes (l : Launch) (hflags : l.flags = flags0) : Comes l x (Jvm.Cond.code x code maxLocals ret :: tables_1) room_1 (fun tb e args s => Calls_1 tb e args s ∧ rest_1 tb e args s ∧ Pre_1 tb e args s)
    (fun _ _ args s o t => lw_Q args s o t) := by
  intro p e ha hc hk s m args below hf hfit hheap happ hpre
  obtain ⟨b, xs, hP⟩ := lw_pre_spec hpre.2.2 hpre.2.1
  obtain ⟨k, o, h1, h2, h3, hQ⟩ := lw_walk l hflags b xs p e ha hc hk s m args below hf ((Spec.applies_iff_loose hf).mp happ).1 hP trivial
  exact ⟨k, o, h1, h2, h3, hQ⟩
theorem lw_frame {s t : State} {o : Outcome} {args : Array Value} (h : Framed s o t [] 601024 7293034) :
    Framed s o t (fieldLocs frame_1_writes args s ++ arrayLocs frame_1_arrays args s ++ staticLocs frame_1_statics s) 601024 7293034 := h
theorem lw_limb (L : Cond) (hL : ∀ (args : Array Value) (s t : State), L.after args s (.returned (some (.int 1))) t = true) :
    ArmFor flags0 classFile x code maxLocals ret World_1 tables_1 room_1 Calls_1 rest_1 Pre_1
      (fun tb e a s o t => postC L tb e a s o t ∧ Framed s o t (fieldLocs frame_1_writes a s ++ arrayLocs frame_1_arrays a s ++ staticLocs frame_1_statics s) 601024 7293034) := by
  intro l hflags _ _ p e ha hc hk s m args below hf hfit hheap happ hpre
  obtain ⟨k, o, h1, h2, h3, rfl, hF⟩ := lw_comes l hflags p e ha hc hk s m args below hf hfit hheap happ hpre
  exact ⟨k, _, h1, h2, h3, hL args s _, lw_frame hF⟩
theorem i_vc : Claimed_1_1 ∧ Claimed_1_2 := ⟨lw_limb limb_1_1 (fun args s t => by simp [limb_1_1, Cond.after, Cond.holds, Cond.value]), lw_limb limb_1_2 (fun args s t => Cond.after_iff.mpr (by
  first | (rw [show limb_1_2 = Cond.eq .result (.int 1) from rfl, Cond.eq_ints (x := 1) (y := 1) rfl rfl]; simp; done) | (simp [limb_1_2, Cond.value, Term.eval]; done)))⟩
