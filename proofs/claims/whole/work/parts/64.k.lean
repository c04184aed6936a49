/-! ===== a lake's constructor ===== -/
theorem arr_q {cA : ClassId} {n : Nat} {f f' : Nat → Option Nat} (h : ∀ j, j < n → f j = f' j) : vp_cell cA (n, .inr (.inr (.inr (.inr f)))) = vp_cell cA (n, .inr (.inr (.inr (.inr f')))) := by
  rw [vp_cell_q, vp_cell_q]
  unfold arrV
  exact congrArg (fun F : Fin n → Value => ({ cls := cA, slots := Array.ofFn F } : Cell)) (funext fun j => by
    show va_rf (f j) = va_rf (f' j)
    rw [h j j.2])
def lyN : List String := ["SaidInWinter$Clear", "SaidInWinter$Forged", "SaidInWinter$Snow", "SaidInWinter$Bubbly", "SaidInWinter$Salt", "SaidInWinter$Black", "SaidInWinter$Cracked"]
def aoN : List String := ["SaidInWinter$Layer", "SaidInWinter$Cell", "SaidInWinter$Shelf"]
def gK2 (D : va_G) (cs : Nat → ClassId) (U : State) : Prop := gK D cs U ∧ (∀ E ∈ aoN, va_AO E U) ∧ (∀ E ∈ lyN, va_Nw (.castable E "SaidInWinter$Layer") U)
theorem gK2s (D : va_G) (cs : Nat → ClassId) : zKs (gK2 D cs) := fun u U h k => ⟨gKs D cs u U h k.1, fun E hE => va_AO.moved h.alike (k.2.1 E hE), fun E hE => va_Nw.warmC h (k.2.2 E hE)⟩
theorem z_getG {ai : Nat} {C : zX} {A : Nat → Prop} {D : va_G} {nL : Nat} {g : GS} {lv : List (Nat × Value)} {kc ks pc : Nat} {st : List Value} {cc : ByteArray} {Ts : List Cond} {own : String} {tys : List (ClassId × FieldType)} (O : zOK C cc nL Ts own) (hK : va_K D vwCl tys C.s) {i ci : Nat} {fs : List Value} (hi : i < g.1) (he : g.2.2 i = .inr (ci, fs)) {Cn : String} {T : u_T} {N : Nat} (hc : vwCl[ci]? = some (Cn, T, N)) (hin : ∀ w ∈ u_ws Cn T N, w ∈ Ts) (k : Nat) (hk : k < N) {index : Nat} (hlink : Cond.fieldLink own index (T k).1 (T k).2.1 (T k).2.2.1 ∈ Ts) {v : Value} (hv : fs[k]? = some v) (hai : g.2.1 i = ai) (hd : decode cc pc = .ok (.getfield index, 3))
    (kk : Z C A (GH D) nL g lv kc ks (pc + 3) (v :: st)) : Z C A (GH D) nL g lv kc ks pc (.ref ai :: st) := by
  subst hai
  exact z_getf (n := g.1) (ad := g.2.1) (E := fun g => g.2.2) O hK (fun _ h => h) hi he hc hin k hk hlink hv hd kk
def eNX6 : va_E := .inr (6, [.null, .null, .int 0])
def eCX6 (cs : Nat → ClassId) (kq : Nat) (u : Nat → Nat) (i : Nat) : va_E := if i = 0 then .inr (6, [.ref kq, .ref (u 1), .int 0]) else if i = 1 then .inl (cs 2, 6, .inr (.inr (.inr (.inr (fun j => if j < 6 then some (u (2 + 7 * j)) else none))))) else if (i - 2) % 7 = 0 then .inr (2, [.ref (u (i + 1)), .ref (u (i + 2)), .ref (u (i + 3)), .ref (u (i + 4)), .ref (u (i + 5)), .ref (u (i + 6)), .int 0]) else .inl (cs 0, 8, .inl (fun _ => 0))
theorem eCX6_2 {cs : Nat → ClassId} {kq i : Nat} {u : Nat → Nat} (h : 2 ≤ i) (h7 : (i - 2) % 7 = 0) : eCX6 cs kq u i = .inr (2, [.ref (u (i + 1)), .ref (u (i + 2)), .ref (u (i + 3)), .ref (u (i + 4)), .ref (u (i + 5)), .ref (u (i + 6)), .int 0]) := by
  unfold eCX6
  rw [if_neg (show ¬ i = 0 by omega), if_neg (show ¬ i = 1 by omega), if_pos h7]
theorem eCX6_3 {cs : Nat → ClassId} {kq i : Nat} {u : Nat → Nat} (h : 2 ≤ i) (h7 : ¬ (i - 2) % 7 = 0) : eCX6 cs kq u i = .inl (cs 0, 8, .inl (fun _ => 0)) := by
  unfold eCX6
  rw [if_neg (show ¬ i = 0 by omega), if_neg (show ¬ i = 1 by omega), if_neg h7]
theorem i32c : ∀ c, c < 10 → (Int32.ofNat c).toNatClampNeg = c ∧ Int32.ofNat c + Int32.ofInt 1 = Int32.ofNat (c + 1) := by decide +kernel
theorem i32l6 : ∀ c, c < 6 → ¬ (6 : Int32) ≤ Int32.ofNat c ∧ vp_in (Int32.ofNat c) 6 := by unfold vp_in; decide +kernel
theorem i32l8 : ∀ c, c < 8 → ¬ (8 : Int32) ≤ Int32.ofNat c ∧ vp_in (Int32.ofNat c) 8 := by unfold vp_in; decide +kernel
def JX6 (A : Nat → Prop) (cs : Nat → ClassId) (a kq c : Nat) (g : GS) : Prop := GI A g ∧ g.1 = 2 + 7 * c ∧ g.2.1 0 = a ∧ g.2.2 0 = .inr (6, [.ref kq, .ref (g.2.1 1), .int 0]) ∧ g.2.2 1 = .inl (cs 2, 6, .inr (.inr (.inr (.inr (fun j => if j < c then some (g.2.1 (2 + 7 * j)) else none))))) ∧ ∀ i, 2 ≤ i → i < 2 + 7 * c → g.2.2 i = eCX6 cs kq g.2.1 i
theorem JX6_step {A : Nat → Prop} {cs : Nat → ClassId} {a kq c q : Nat} {g : GS} {u : Nat → Nat} (h : JX6 A cs a kq c g) (hu : u 0 = q) {v : va_E} (hv : v = .inl (cs 2, 6, .inr (.inr (.inr (.inr (va_up (fun j => if j < c then some (g.2.1 (2 + 7 * j)) else none) c (some q)))))))
    (hG : GI A (gSet (gJoin (gUp (2 + 7 * c) g q eNX2) (2 + 7 * c) 7 u (eCX2 cs u)) 1 v)) : JX6 A cs a kq (c + 1) (gSet (gJoin (gUp (2 + 7 * c) g q eNX2) (2 + 7 * c) 7 u (eCX2 cs u)) 1 v) := by
  obtain ⟨h1, h2, h3, h4, h5, h6⟩ := h
  generalize hg : gSet (gJoin (gUp (2 + 7 * c) g q eNX2) (2 + 7 * c) 7 u (eCX2 cs u)) 1 v = g3 at hG ⊢
  have a1 : ∀ i, i < 2 + 7 * c → g3.2.1 i = g.2.1 i := fun i hi => by
    rw [← hg]
    show (if i < 2 + 7 * c then va_up g.2.1 (2 + 7 * c) q i else _) = _
    rw [if_pos hi]
    exact if_neg (by omega)
  have a2 : ∀ i, 2 + 7 * c ≤ i → g3.2.1 i = u (i - (2 + 7 * c)) := fun i hi => by
    rw [← hg]
    exact if_neg (by omega)
  have e1 : ∀ i, i < 2 + 7 * c → i ≠ 1 → g3.2.2 i = g.2.2 i := fun i hi h1 => by
    rw [← hg]
    refine (if_neg h1).trans ((if_pos hi).trans (if_neg (by omega)))
  have e2 : ∀ i, 2 + 7 * c ≤ i → g3.2.2 i = eCX2 cs u (i - (2 + 7 * c)) := fun i hi => by
    rw [← hg]
    refine (if_neg (by omega)).trans (if_neg (by omega))
  have e3 : g3.2.2 1 = v := by
    rw [← hg]
    exact (if_pos rfl : (if (1 : Nat) = 1 then v else (gJoin (gUp (2 + 7 * c) g q eNX2) (2 + 7 * c) 7 u (eCX2 cs u)).2.2 1) = v)
  have n3 : g3.1 = 2 + 7 * c + 7 := by rw [← hg]; rfl
  refine ⟨hG, by rw [n3]; omega, by rw [a1 0 (by omega)]; exact h3, by rw [e1 0 (by omega) (by omega), a1 1 (by omega)]; exact h4, ?_, fun i hi1 hi2 => ?_⟩
  · rw [e3, hv]
    have : (va_up (fun j => if j < c then some (g.2.1 (2 + 7 * j)) else none) c (some q) : Nat → Option Nat) = fun j => if j < c + 1 then some (g3.2.1 (2 + 7 * j)) else none := by
      funext j
      by_cases hj : j = c
      · subst hj
        rw [show va_up (fun j' => if j' < j then some (g.2.1 (2 + 7 * j')) else none) j (some q) j = some q from if_pos rfl, if_pos (by omega), a2 _ (by omega), Nat.sub_self, hu]
      · rw [show va_up (fun j => if j < c then some (g.2.1 (2 + 7 * j)) else none) c (some q) j = (if j < c then some (g.2.1 (2 + 7 * j)) else none) from if_neg hj]
        by_cases hl : j < c
        · rw [if_pos hl, if_pos (by omega), a1 _ (by omega)]
        · rw [if_neg hl, if_neg (by omega)]
    rw [this]
  · by_cases hl : i < 2 + 7 * c
    · rw [e1 i hl (by omega), h6 i hi1 hl]
      by_cases h7 : (i - 2) % 7 = 0
      · rw [eCX6_2 hi1 h7, eCX6_2 hi1 h7, a1 (i + 1) (by omega), a1 (i + 2) (by omega), a1 (i + 3) (by omega), a1 (i + 4) (by omega), a1 (i + 5) (by omega), a1 (i + 6) (by omega)]
      · rw [eCX6_3 hi1 h7, eCX6_3 hi1 h7]
    · obtain ⟨t, rfl⟩ : ∃ t, i = 2 + 7 * c + t := ⟨i - (2 + 7 * c), by omega⟩
      have s : ∀ x, 2 + 7 * c + x - (2 + 7 * c) = x := fun x => by omega
      rw [e2 _ (by omega), s]
      by_cases h7 : t = 0
      · subst h7
        rw [eCX6_2 hi1 (by omega)]
        simp only [Nat.add_zero]
        rw [a2 _ (by omega), a2 _ (by omega), a2 _ (by omega), a2 _ (by omega), a2 _ (by omega), a2 _ (by omega), s, s, s, s, s, s]
        rfl
      · rw [eCX6_3 hi1 (by omega)]
        exact if_neg h7
set_option maxHeartbeats 8000000 in
set_option maxRecDepth 100000 in
theorem t_X6_init {l : Launch} {D : va_G} {cs : Nat → ClassId} (kq : Nat) : zCV l yX6_init wsX6_init ({ frames := 2, cells := 43, slots := 336, locals := 32 } : Room) (gK2 D cs) D eNX6 44 (eCX6 cs kq) 43 336 [.ref kq] := by
  refine zCV_of (cc := cX6_init) (nL := 3) (by decide +kernel) rfl (fun _ => (Nat.le_of_ble_eq_true rfl)) (fun a C hl O hnm ha hE hK => ?_)
  subst hl
  have hnm : C.2.2.2.2.2.2.2.2.1.name = "<init>" := hnm
  have hA : ∀ q, C.s.heap.size ≤ q → zA (fun q => q = a) C.s.heap.size q := fun q h => Or.inr h
  have hG : GI (zA (fun q => q = a) C.s.heap.size) (1, fun _ => a, fun _ => eNX6) := ⟨fun i j hi hj _ => by have : i < 1 := hi; have : j < 1 := hj; omega, fun q hq => by obtain ⟨i, _, e⟩ := hq; exact Or.inl e⟩
  have i6 : ∀ w ∈ wsX60, w ∈ wsX6_init := by decide +kernel
  have i2 : ∀ w ∈ wsX20, w ∈ wsX6_init := by decide +kernel
  have kI : ∀ (n c : Nat) (g : GS) (kc ks : Nat), c + n = 6 → kc = 1 + 7 * c → ks = 6 + 55 * c → JX6 (zA (fun q => q = a) C.s.heap.size) cs a kq c g → Z C (zA (fun q => q = a) C.s.heap.size) (GH D) 3 g [(0, .ref a), (2, .int (Int32.ofNat c))] kc ks 20 [] := by
    intro n
    induction n with
    | zero =>
      intro c g kc ks hc hkc hks h
      obtain rfl : c = 6 := by omega
      refine z_iload_n O dX6_init_20 1 rfl ?_
      refine z_bipush (v := 6) O dX6_init_21 rfl ?_
      refine z_icmp_ge O 45 dX6_init_23 (by decide) (fun _ => ?_) (fun c4 => absurd (show (6 : Int32) ≤ Int32.ofNat 6 by decide) c4)
      obtain ⟨h1, h2, h3, h4, h5, h6⟩ := h
      refine z_retC O hE (by omega) (by omega) h1 h2 h3 (by decide) (fun i hi => ?_) dX6_init_45
      by_cases e0 : i = 0
      · subst e0; exact h4
      · by_cases e1 : i = 1
        · subst e1; exact h5
        · exact h6 i (by omega) (by omega)
    | succ n iI =>
      intro c g kc ks hc hkc hks h
      have hc6 : c < 6 := by omega
      refine z_iload_n O dX6_init_20 1 rfl ?_
      refine z_bipush (v := 6) O dX6_init_21 rfl ?_
      refine z_icmp_ge O 45 dX6_init_23 (by decide) (fun c4 => absurd c4 (i32l6 c hc6).1) (fun _ => ?_)
      have h' := h
      obtain ⟨h1, h2, h3, h4, h5, h6⟩ := h'
      refine z_aload_n O dX6_init_26 0 rfl ?_
      refine z_getG O hK.1.1 (i := 0) (by omega) h4 rfl i6 1 (by decide) (by decide +kernel) rfl h3 dX6_init_27 ?_
      refine z_iload_n O dX6_init_30 1 rfl ?_
      refine z_new O hE.1 hK.1.1 hA h1 h2 i2 tyX2 tyX2_ok (ci := 2) (by decide +kernel) (by decide +kernel) (by decide +kernel) rfl [.null, .null, .null, .null, .null, .null, .int 0] (fun j hj => by
        rcases (show j = 0 ∨ j = 1 ∨ j = 2 ∨ j = 3 ∨ j = 4 ∨ j = 5 ∨ j = 6 by omega) with rfl | rfl | rfl | rfl | rfl | rfl | rfl <;> rfl) ⟨by show kc + 1 ≤ 43; omega, by show ks + 7 ≤ 336; omega⟩ dX6_init_31 (fun q hG => ?_)
      refine z_dup O dX6_init_34 rfl ?_
      refine z_callC (gKs D cs) hK.1 hA hG (k := 2 + 7 * c) rfl (if_pos rfl) (if_pos rfl) (by decide) t_X2_init (zr_IN (As := []) (rest := [.ref q, .int (Int32.ofNat c), .ref (g.2.1 1)]) O hE.1 0 gX6_init_X2_init_n21 rfl rfl rfl (nM hK.1 15 rfl) (by decide +kernel) (by decide +kernel) rfl (by decide +kernel) ⟨(Nat.le_of_ble_eq_true rfl), (Nat.le_of_ble_eq_true rfl)⟩ ⟨by show kc + 1 + 6 ≤ 43; omega, by show ks + 7 + 48 ≤ 336; omega⟩ rfl rfl (Nat.le_of_ble_eq_true rfl) dX6_init_35) (fun u hu hG => ?_)
      have q1 : (gJoin (gUp (2 + 7 * c) g q (.inr (2, [.null, .null, .null, .null, .null, .null, .int 0]))) (2 + 7 * c) 7 u (eCX2 cs u)).2.2 1 = .inl (cs 2, 6, .inr (.inr (.inr (.inr (fun j => if j < c then some (g.2.1 (2 + 7 * j)) else none))))) := (if_pos (by omega)).trans ((if_neg (by omega)).trans h5)
      have q2 : (gJoin (gUp (2 + 7 * c) g q (.inr (2, [.null, .null, .null, .null, .null, .null, .int 0]))) (2 + 7 * c) 7 u (eCX2 cs u)).2.1 1 = g.2.1 1 := (if_pos (by omega)).trans (if_neg (by omega))
      have q3 : (gJoin (gUp (2 + 7 * c) g q (.inr (2, [.null, .null, .null, .null, .null, .null, .int 0]))) (2 + 7 * c) 7 u (eCX2 cs u)).2.1 (2 + 7 * c) = q := (if_neg (by omega)).trans (by rw [Nat.sub_self]; exact hu)
      have q4 : (gJoin (gUp (2 + 7 * c) g q (.inr (2, [.null, .null, .null, .null, .null, .null, .int 0]))) (2 + 7 * c) 7 u (eCX2 cs u)).2.2 (2 + 7 * c) = .inr (2, [.ref (u 1), .ref (u 2), .ref (u 3), .ref (u 4), .ref (u 5), .ref (u 6), .int 0]) := (if_neg (by omega)).trans (by rw [Nat.sub_self]; rfl)
      refine z_aastG O hK.1.1 hG 2 (i := 1) (o := 2 + 7 * c) (show 1 < 2 + 7 * c + 7 by omega) q1 rfl (show 2 + 7 * c < 2 + 7 * c + 7 by omega) q4 rfl (i32l6 c hc6).2 q2 q3 dX6_init_38 (fun hG => ?_)
      refine z_iinc O dX6_init_39 1 rfl (i32c c (by omega)).2 (by decide) rfl ?_
      refine z_goto O 20 dX6_init_42 (by decide) ?_
      rw [(i32c c (by omega)).1] at hG ⊢
      exact z_sub [1, 0] rfl (iI (c + 1) _ _ _ (by omega) (by omega) (by omega) (JX6_step h hu rfl hG))
  refine z_sub (lv' := [(0, .ref a), (1, .ref kq)]) [0, 1] rfl ?_
  refine z_aload_n O dX6_init_0 0 rfl ?_
  refine z_objInit O hE.1 (by decide +kernel) (by decide +kernel) (by decide +kernel) ⟨(Nat.le_of_ble_eq_true rfl), (Nat.le_of_ble_eq_true rfl)⟩ dX6_init_1 ?_
  refine z_aload_n O dX6_init_4 0 rfl ?_
  refine z_bipush (v := 6) O dX6_init_5 rfl ?_
  refine z_newQ O hE.1 hK.1.1 hA hG (kg := 1) rfl (by decide +kernel) (hK.2.1 "SaidInWinter$Cell" (List.mem_of_getElem? (i := 1) rfl)) 2 rfl (by decide) rfl (by decide) ⟨(Nat.le_of_ble_eq_true rfl), (Nat.le_of_ble_eq_true rfl)⟩ dX6_init_7 (fun q1 hG => ?_)
  refine z_putF O hnm hK.1.1 hG (i := 0) (Nat.le_of_ble_eq_true rfl) rfl rfl i6 tyX6 tyX6_ok nmX6 1 (by decide) (by decide +kernel) rfl rfl (ty := .array (.object "SaidInWinter$Cell")) rfl rfl rfl (Nat.le_of_ble_eq_true rfl) [.null, .ref q1, .int 0] rfl rfl dX6_init_10 (fun hG => ?_)
  refine z_aload_n O dX6_init_13 0 rfl ?_
  refine z_aload_n O dX6_init_14 1 rfl ?_
  refine z_putF O hnm hK.1.1 hG (i := 0) (Nat.le_of_ble_eq_true rfl) rfl rfl i6 tyX6 tyX6_ok nmX6 0 (by decide) (by decide +kernel) rfl rfl (ty := .array (.object "SaidInWinter$Layer")) rfl rfl rfl (Nat.le_of_ble_eq_true rfl) [.ref kq, .ref q1, .int 0] rfl rfl dX6_init_15 (fun hG => ?_)
  refine z_iconst (v := 0) O dX6_init_18 rfl ?_
  refine z_istore_n (lv' := [(2, .int 0), (0, .ref a), (1, .ref kq)]) O dX6_init_19 (by decide) rfl ?_
  refine z_sub [1, 0] rfl (kI 6 0 _ _ _ rfl rfl rfl ⟨hG, rfl, rfl, rfl, ?_, fun i h1 h2 => absurd h2 (by omega)⟩)
  show Sum.inl _ = Sum.inl _
  congr 5
