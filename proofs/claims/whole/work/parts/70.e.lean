/-! ===== the law's own element ===== -/
section ZCT
variable {σ τ : Type} {C : zX} {A : Nat → Prop} {Hp : σ → Heap → Prop} {nL : Nat} {x : σ} {lv : List (Nat × Value)} {kc ks pc : Nat} {st rest : List Value} {cc : ByteArray} {Ts : List Cond} {own name E : String}
variable {y : MethodName} {ws : List Cond} {rm : Room} {av : List Value} {Ks : State → Prop} {Hx : τ → Heap → Prop} {x0 : τ} {Q : Int64 → Prop} {P : String → Prop}
/-- q of the class E is thrown over this frame -/
def Zt (C : zX) (A : Nat → Prop) (Hp : σ → Heap → Prop) (nL : Nat) (x : σ) (lv : List (Nat × Value)) (kc ks pc : Nat) (rest : List Value) (E : String) : Prop := ∀ (H : Heap) (locs : List Loc) (ls : Array Slot) (q : Nat) (ce : Cell), Hp x H → va_S A C.s.heap H locs → lv_has ls nL lv → H[q]? = some ce → ce.vm = .none → C.s.vm.findClass E = some ce.cls → vx_W C.1 C.2.1 C.2.2.1 C.2.2.2.1 C.2.2.2.2.1 C.2.2.2.2.2.1 C.2.2.2.2.2.2.1 C.2.2.2.2.2.2.2.1 C.2.2.2.2.2.2.2.2.1 C.2.2.2.2.2.2.2.2.2.1 H locs kc ks C.2.2.2.2.2.2.2.2.2.2 (F0 C.2.2.2.2.2.1 pc ls rest) q
theorem z_catch (O : zOK C cc nL Ts own) (pre : List ExceptionTableEntry) (r : ExceptionTableEntry) (suf : List ExceptionTableEntry) (hsplit : C.2.2.2.2.2.2.2.2.2.1.exceptionTable.toList = pre ++ r :: suf) (hpass : ∀ z ∈ pre, z.catchType ≠ 0 ∧ ∃ nm : String, Cond.classLink own z.catchType nm ∈ Ts ∧ va_Nc E nm C.s) (hcov : covers r pc = true) (h0 : r.catchType ≠ 0) (hlink : Cond.classLink own r.catchType name ∈ Ts) (hcast : va_Nw (.castable E name) C.s)
    (kk : ∀ q : Nat, Z C A Hp nL x lv kc ks r.handlerPc [.ref q]) : Zt C A Hp nL x lv kc ks pc rest E := fun H locs ls q ce hH hS hl hce hcv hcl =>
  vx_catch O.2.2.2.1 pre r suf hsplit (fun z hz => Or.inr ⟨(hpass z hz).1, by obtain ⟨nm, h1, h2⟩ := (hpass z hz).2; exact ⟨nm, O.2.2.2.2.1 _ h1, h2⟩⟩) hcov h0 (O.2.2.2.2.1 _ hlink) (va_Nw.use rfl hcast) hce hcv hcl (kk q H locs ls hH hS hl)
theorem z_callTL (hKs : zKs Ks) (hK : Ks C.s) (hx : ∀ H, Hp x H → Hx x0 H) (hkp : ∀ H H1 : Heap, Hp x H → (∀ q : Nat, q < H.size → H1[q]? = H[q]?) → Hp x H1) (hM : zTL C.2.1 y ws rm Ks Hx x0 av Q P) (hr : zRunX C nL y ws rm 1 6 pc kc ks av st rest (Hp x))
    (kx : ∀ E : String, P E → Zt C A Hp nL x lv (kc + 1) (ks + 6) pc rest E) (kk : ∀ r : Int64, Q r → Z C A Hp nL x lv (kc + 1) (ks + 6) (pc + 3) (.long r :: rest)) : Z C A Hp nL x lv kc ks pc st := fun H locs ls hH hS hl =>
  vx_calll (hr _ _ _ _ hM (zr_blind hKs) H locs ls hH hl.1 (fun U hU hW => ⟨rfl, by rw [hU]; exact hx H hH, hKs _ _ hW hK⟩)) hS (fun _ _ h => h.elim) (fun _ h => h.elim) (fun _ _ h => h.elim)
    (fun E ce q9 u t H1 locs1 ht _ _ hE hz hk hS1 hce hcv hcl => kx E hE H1 locs1 ls q9 ce (hkp H H1 hH (fun q hq => hk q hq (fun h => h))) hS1 hl hce hcv hcl)
    (fun r u t H1 locs1 ht _ hq _ hz hk hS1 => kk r hq H1 locs1 ls (hkp H H1 hH (fun q hq => hk q hq (fun h => h))) hS1 hl)
end ZCT
section LEL
variable {l : Launch} {D : va_G} {cs : Nat → ClassId} {ad : Nat → Nat} {s0 : State} {ao : Nat}
def oE (cs : Nat → ClassId) (f : Nat → Int64) : Nat → va_E := fun _ => .inl (cs 4, 1, .inr (.inl f))
def XO (D : va_G) (cs : Nat → ClassId) (ad : Nat → Nat) (ao : Nat) (s0 : State) (u : XS × (Nat → Int64)) (H : Heap) : Prop := XU D cs ad s0 u.1 H ∧ va_P D vwCl (wl 1 (fun _ => ao) (oE cs u.2)) H
theorem XO_kept {u : XS × (Nat → Int64)} {H H1 : Heap} (h : XO D cs ad ao s0 u H) (hq : ∀ q : Nat, q < H.size → H1[q]? = H[q]?) : XO D cs ad ao s0 u H1 := ⟨XU_kept h.1 hq, h.2.kept (fun k q hk => hq q.1 (h.2 k q hk).lt)⟩
/-- the long is written into the row out, nothing else -/
theorem z_lastO {C : zX} {A : Nat → Prop} {nL : Nat} {lv : List (Nat × Value)} {kc ks pc : Nat} {st : List Value} {cc : ByteArray} {Ts : List Cond} {own : String} {x : XS} {f : Nat → Int64} {v : Int64} (O : zOK C cc nL Ts own) (hK : va_K D vwCl (gT cs) C.s) (h1 : ¬ wB 161 ad ao) (h2 : s0.heap.size ≤ ao) (hA : A ao) (hd : decode cc pc = .ok (.lastore, 1))
    (kk : Z C A (XO D cs ad ao s0) nL (x, vp_updL f 0 v) lv kc ks (pc + 1) st) : Z C A (XO D cs ad ao s0) nL (x, f) lv kc ks pc (.long v :: .int 0 :: .ref ao :: st) := by
  intro H locs ls hH hS hl
  have hD : va_D A (wl 1 (fun _ => ao) (oE cs f)) := wl_D (fun i j hi hj _ => by omega) (fun q hq => by obtain ⟨i, _, e⟩ := hq; rw [e]; exact hA)
  have ha : (wl 1 (fun _ => ao) (oE cs f))[0]? = some (ao, .inl (cs 4, 1, .inr (.inl f))) := rfl
  have he : H[ao]? = some (vp_cell (cs 4) (1, .inr (.inl f))) := hH.2 0 _ ha
  refine W.last O.1 O.2.1 he ((hK.2 4 (cs 4, .long) rfl).1 1 (fun j => .long (f j))) (fun q => by cases q) (by show ¬ ((0 : Int32) < 0 ∨ (arrV _ _ _).slots.size ≤ _); rw [arrV_size]; exact (by decide : ¬ ((0 : Int32) < 0 ∨ (1 : Nat) ≤ Int32.toNatClampNeg 0))) rfl rfl hd (fun H1 e z oq => ?_)
  refine kk H1 _ ls ⟨⟨hH.1.1.kept (fun k q hk => oq q.1 (fun e => h1 ?_)), hU_kept hH.1.2 (fun q hq hs => oq q (fun e => by rw [e] at hs; omega))⟩, ?_⟩ (hS.put z oq hA) hl
  · obtain ⟨hk2, e2⟩ := wl_lt hk
    exact ⟨k, hk2, by rw [← e, e2]⟩
  · refine hH.2.set hD ha ?_ oq
    show H1[ao]? = some (vp_cell _ _)
    rw [e]
    rw [vp_cell_l, vp_cell_l, arrV_store]
    congr 2
    funext q
    by_cases hq : q = 0
    · subst hq
      simp [updV, vp_updL]
    · simp [updV, vp_updL, hq]
def wp_L_element (x : XS) (f : Nat → Int64) (p1 p2 : Int32) (Q : Int32 → (Nat → Int64) → Prop) : Prop := wp_X11_element x p1 p2 (fun v => Q 0 (vp_updL f 0 v)) (fun E => (E = eIA ∧ Q 1 f) ∨ (E = eIS ∧ Q 2 f))
set_option maxHeartbeats 4000000 in
set_option maxRecDepth 100000 in
theorem t_L_element (hl : l.stackTraces = false) (hd1 : ¬ wB 161 ad ao) (hd2 : s0.heap.size ≤ ao) (x : XS) (f : Nat → Int64) (p1 p2 : Int32) (Q : Int32 → (Nat → Int64) → Prop) (h : wp_L_element x f p1 p2 Q) : zWR l yL_element wsL_element ({ frames := 7, cells := 1, slots := 6, locals := 105 } : Room) (gX D cs s0) (XO D cs ad ao s0) (fun q => q = ao) (x, f) [.ref (ad 0), .int p1, .int p2, .ref ao] 1 6 (fun r u => u.1 = x ∧ Q r u.2) := by
  refine zWR_ofW (cc := cL_element) (nL := 5) (ret := some .int) (hh := [(0, 9, 12, 13), (0, 9, 16, 15)]) (by decide +kernel) rfl (Nat.le_of_ble_eq_true rfl) (fun C hC O hE hK hT => ?_)
  subst hC
  have hX : ∀ (H : Heap), XO D cs ad ao s0 (x, f) H → va_P D vwCl (wl 161 ad (XE cs ad x)) H := fun _ h => h.1.1
  have hkp : ∀ H H1 : Heap, XO D cs ad ao s0 (x, f) H → (∀ q : Nat, q < H.size → H1[q]? = H[q]?) → XO D cs ad ao s0 (x, f) H1 := fun _ _ h hq => XO_kept h hq
  refine z_sub (lv' := [(0, .ref (ad 0)), (1, .int p1), (2, .int p2), (3, .ref ao)]) [0, 1, 2, 3] rfl ?_
  refine z_aload_n O dL_element_0 3 rfl ?_
  refine z_iconst (v := 0) O dL_element_1 rfl ?_
  refine z_aload_n O dL_element_2 0 rfl ?_
  refine z_iload_n O dL_element_3 1 rfl ?_
  refine z_iload_n O dL_element_4 2 rfl ?_
  refine z_callTL (gXs D cs s0) hK (fun _ h => h.1) hkp (t_X11_element hl x p1 p2 _ _ h) (zx_V (As := [.int p1, .int p2]) (rest := [.int 0, .ref ao]) O hE.1 2 gL_element_X11_element rfl rfl rfl (by decide +kernel) ⟨(Nat.le_of_ble_eq_true rfl), (Nat.le_of_ble_eq_true rfl)⟩ ⟨(Nat.le_of_ble_eq_true rfl), (Nat.le_of_ble_eq_true rfl)⟩ (fun H hH => z_recv hK.1.1 (hX H hH) (by decide) xe_11 rfl) rfl rfl (Nat.le_of_ble_eq_true rfl) dL_element_5) (fun E hE2 => ?_) (fun r hr => ?_)
  · rcases hE2 with ⟨rfl, hq⟩ | ⟨rfl, hq⟩
    · refine z_catch (name := eIA) O [] ⟨0, 9, 12, 13⟩ [⟨0, 9, 16, 15⟩] hT (fun z hz => nomatch hz) rfl (by decide) (by decide +kernel) (hK.2.2.2.1 eIA (by simp)) (fun q => ?_)
      refine z_astore (lv' := [(4, .ref q), (0, .ref (ad 0)), (1, .int p1), (2, .int p2), (3, .ref ao)]) O dL_element_12 (by decide) rfl ?_
      refine z_iconst (v := 1) O dL_element_14 rfl ?_
      exact z_retWR O hE (Nat.le_of_ble_eq_true rfl) (Nat.le_of_ble_eq_true rfl) rfl dL_element_15 ⟨rfl, hq⟩
    · refine z_catch (name := eIS) O [⟨0, 9, 12, 13⟩] ⟨0, 9, 16, 15⟩ [] hT (fun z hz => by rw [List.mem_singleton.mp hz]; exact ⟨by decide, eIA, by decide +kernel, hK.2.2.2.2.2 (eIS, eIA) (List.mem_of_getElem? (i := 3) rfl)⟩) rfl (by decide) (by decide +kernel) (hK.2.2.2.1 eIS (by simp)) (fun q => ?_)
      refine z_astore (lv' := [(4, .ref q), (0, .ref (ad 0)), (1, .int p1), (2, .int p2), (3, .ref ao)]) O dL_element_16 (by decide) rfl ?_
      refine z_iconst (v := 2) O dL_element_18 rfl ?_
      exact z_retWR O hE (Nat.le_of_ble_eq_true rfl) (Nat.le_of_ble_eq_true rfl) rfl dL_element_19 ⟨rfl, hq⟩
  · refine z_lastO O hK.1.1 hd1 hd2 (Or.inl rfl) dL_element_8 ?_
    refine z_goto O 20 dL_element_9 (by decide) ?_
    refine z_iconst (v := 0) O dL_element_20 rfl ?_
    exact z_retWR O hE (Nat.le_of_ble_eq_true rfl) (Nat.le_of_ble_eq_true rfl) rfl dL_element_21 ⟨rfl, hr⟩
end LEL
