/-! ===== the object's constructor ===== -/
theorem z_conv {σ τ : Type} {C : zX} {A : Nat → Prop} {Hp : σ → Heap → Prop} {Hp2 : τ → Heap → Prop} {nL : Nat} {x : σ} {x2 : τ} {lv : List (Nat × Value)} {kc ks pc : Nat} {st : List Value} (h : ∀ H, Hp x H → Hp2 x2 H) (k : Z C A Hp2 nL x2 lv kc ks pc st) : Z C A Hp nL x lv kc ks pc st := fun H locs ls hH hS hl => k H locs ls (h H hH) hS hl
set_option maxHeartbeats 16000000 in
set_option maxRecDepth 100000 in
theorem t_X11_init {l : Launch} {D : va_G} {cs : Nat → ClassId} : zCV l yX11_init wsX11_init ({ frames := 4, cells := 160, slots := 1897, locals := 72 } : Room) (gK2 D cs) D eNX11 161 (eCX11 cs) 160 1897 [] := by
  refine zCV_of (cc := cX11_init) (nL := 2) (by decide +kernel) rfl (fun _ => (Nat.le_of_ble_eq_true rfl)) (fun a C hl O hnm ha hE hK => ?_)
  subst hl
  have hnm : C.2.2.2.2.2.2.2.2.1.name = "<init>" := hnm
  have hA : ∀ q, C.s.heap.size ≤ q → zA (fun q => q = a) C.s.heap.size q := fun q h => Or.inr h
  have hG : GI (zA (fun q => q = a) C.s.heap.size) (1, fun _ => a, fun _ => eNX11) := ⟨fun i j hi hj _ => by have : i < 1 := hi; have : j < 1 := hj; omega, fun q hq => by obtain ⟨i, _, e⟩ := hq; exact Or.inl e⟩
  have i11 : ∀ w ∈ wsX110, w ∈ wsX11_init := by decide +kernel
  have i6 : ∀ w ∈ wsX60, w ∈ wsX11_init := by decide +kernel
  have i9 : ∀ w ∈ wsX90, w ∈ wsX11_init := by decide +kernel
  have j7 : ∀ w ∈ wsX70, w ∈ wsX11_init := by decide +kernel
  have j3 : ∀ w ∈ wsX30, w ∈ wsX11_init := by decide +kernel
  have j5 : ∀ w ∈ wsX50, w ∈ wsX11_init := by decide +kernel
  have j10 : ∀ w ∈ wsX100, w ∈ wsX11_init := by decide +kernel
  have j1 : ∀ w ∈ wsX10, w ∈ wsX11_init := by decide +kernel
  have j8 : ∀ w ∈ wsX80, w ∈ wsX11_init := by decide +kernel
  have j0 : ∀ w ∈ wsX00, w ∈ wsX11_init := by decide +kernel
  have j4 : ∀ w ∈ wsX40, w ∈ wsX11_init := by decide +kernel
  have kF : ∀ (vs : List Value) (g : GS) (kc ks : Nat), kc = 158 → ks = 1881 → JX9 (zA (fun q => q = a) C.s.heap.size) cs a vs 8 g → Z C (zA (fun q => q = a) C.s.heap.size) (GH D) 2 g [(0, .ref a)] kc ks 176 [] := by
    intro vs g kc ks hkc hks h
    obtain ⟨h1, h2, h3, h4, h4', h5, h6⟩ := h
    subst h4'
    refine z_aload_n O dX11_init_176 0 rfl ?_
    refine z_bipush (v := 6) O dX11_init_177 rfl ?_
    refine z_newA O hE.1 hK.1.1 hA h1 h2 .int .int rfl (by decide +kernel) 0 rfl h_pI (6, .inl (fun _ => 0)) (h_aI 6) (by decide) rfl (by decide) ⟨by show kc + 1 ≤ 160; omega, by show ks + 6 ≤ 1897; omega⟩ dX11_init_179 (fun q1 hG => ?_)
    refine z_putF O hnm hK.1.1 hG (i := 0) (Nat.le_of_ble_eq_true rfl) h4 rfl i11 tyX11 tyX11_ok nmX11 5 (by decide) (by decide +kernel) rfl rfl (ty := .array .int) rfl rfl rfl (Nat.le_of_ble_eq_true rfl) [.ref (g.2.1 1), .ref (g.2.1 10), .ref (g.2.1 54), .ref (g.2.1 98), .ref (g.2.1 142), .ref q1, .null, .int 0, .int 0] rfl h3 dX11_init_181 (fun hG => ?_)
    refine z_aload_n O dX11_init_184 0 rfl ?_
    refine z_bipush (v := 10) O dX11_init_185 rfl ?_
    refine z_newA O hE.1 hK.1.1 hA hG (kg := 160) rfl .int .int rfl (by decide +kernel) 0 rfl h_pI (10, .inl (fun _ => 0)) (h_aI 10) (by decide) rfl (by decide) ⟨by show kc + 1 + 1 ≤ 160; omega, by show ks + 6 + 10 ≤ 1897; omega⟩ dX11_init_187 (fun q2 hG => ?_)
    refine z_putF O hnm hK.1.1 hG (i := 0) (Nat.le_of_ble_eq_true rfl) rfl rfl i11 tyX11 tyX11_ok nmX11 6 (by decide) (by decide +kernel) rfl rfl (ty := .array .int) rfl rfl rfl (Nat.le_of_ble_eq_true rfl) [.ref (g.2.1 1), .ref (g.2.1 10), .ref (g.2.1 54), .ref (g.2.1 98), .ref (g.2.1 142), .ref q1, .ref q2, .int 0, .int 0] rfl h3 dX11_init_189 (fun hG => ?_)
    generalize hg : gSet (gUp 160 (gSet (gUp (143 + 2 * 8) g q1 (.inl (cs 0, 6, .inl (fun _ => 0)))) 0 (.inr (11, [.ref (g.2.1 1), .ref (g.2.1 10), .ref (g.2.1 54), .ref (g.2.1 98), .ref (g.2.1 142), .ref q1, .null, .int 0, .int 0]))) q2 (.inl (cs 0, 10, .inl (fun _ => 0)))) 0 (.inr (11, [.ref (g.2.1 1), .ref (g.2.1 10), .ref (g.2.1 54), .ref (g.2.1 98), .ref (g.2.1 142), .ref q1, .ref q2, .int 0, .int 0])) = g3 at hG ⊢
    have a1 : ∀ i, i < 159 → g3.2.1 i = g.2.1 i := fun i hi => by
      rw [← hg]
      exact (if_neg (show ¬ i = 160 by omega)).trans (if_neg (show ¬ i = 143 + 2 * 8 by omega))
    have e1 : ∀ i, i < 159 → i ≠ 0 → g3.2.2 i = g.2.2 i := fun i hi h0 => by
      rw [← hg]
      exact (if_neg h0).trans ((if_neg (show ¬ i = 160 by omega)).trans ((if_neg h0).trans (if_neg (show ¬ i = 143 + 2 * 8 by omega))))
    have n3 : g3.1 = 161 := by rw [← hg]; rfl
    have b0 : g3.2.2 0 = .inr (11, [.ref (g.2.1 1), .ref (g.2.1 10), .ref (g.2.1 54), .ref (g.2.1 98), .ref (g.2.1 142), .ref q1, .ref q2, .int 0, .int 0]) := by rw [← hg]; rfl
    have b1 : g3.2.1 159 = q1 := by rw [← hg]; rfl
    have b2 : g3.2.1 160 = q2 := by rw [← hg]; rfl
    have b3 : g3.2.2 159 = .inl (cs 0, 6, .inl (fun _ => 0)) := by rw [← hg]; rfl
    have b4 : g3.2.2 160 = .inl (cs 0, 10, .inl (fun _ => 0)) := by rw [← hg]; rfl
    clear hg
    have hB := PB_keep h5 (fun i hi => a1 i (by omega)) (fun i hi => e1 i (by omega))
    have hS := PS_keep h6 (fun i hi => a1 i (by omega)) (fun i hi => e1 i (by omega))
    have z0' : g3.2.1 0 = a := (a1 0 (by omega)).trans h3
    rw [← b1, ← b2, ← a1 1 (by omega), ← a1 10 (by omega), ← a1 54 (by omega), ← a1 98 (by omega), ← a1 142 (by omega)] at b0
    refine z_conv (X11_fin n3 b0 hB hS b3 b4) ?_
    exact z_retC O hE (by omega) (by omega) (g := (161, g3.2.1, eCX11 cs g3.2.1)) ⟨by rw [← n3]; exact hG.1, fun q hq => hG.2 q (by rw [n3]; exact hq)⟩ rfl z0' (by decide) (fun i hi => rfl) dX11_init_192
  have kC : ∀ (n c : Nat) (vs : List Value) (g : GS) (kc ks : Nat), c + n = 8 → kc = 142 + 2 * c → ks = 1033 + 106 * c → JX9 (zA (fun q => q = a) C.s.heap.size) cs a vs c g → Z C (zA (fun q => q = a) C.s.heap.size) (GH D) 2 g [(0, .ref a), (1, .int (Int32.ofNat c))] kc ks 151 [] := by
    intro n
    induction n with
    | zero =>
      intro c vs g kc ks hc hkc hks h
      obtain rfl : c = 8 := by omega
      refine z_iload_n O dX11_init_151 1 rfl ?_
      refine z_bipush (v := 8) O dX11_init_152 rfl ?_
      refine z_icmp_ge O 176 dX11_init_154 (by decide) (fun _ => ?_) (fun c4 => absurd (show (8 : Int32) ≤ Int32.ofNat 8 by decide) c4)
      exact z_sub [0] rfl (kF vs g kc ks (by omega) (by omega) h)
    | succ n iI =>
      intro c vs g kc ks hc hkc hks h
      have hc8 : c < 8 := by omega
      refine z_iload_n O dX11_init_151 1 rfl ?_
      refine z_bipush (v := 8) O dX11_init_152 rfl ?_
      refine z_icmp_ge O 176 dX11_init_154 (by decide) (fun c4 => absurd c4 (i32l8 c hc8).1) (fun _ => ?_)
      have h' := h
      obtain ⟨h1, h2, h3, h4, h4', h5, h6⟩ := h'
      refine z_aload_n O dX11_init_157 0 rfl ?_
      refine z_getG O hK.1.1 (i := 0) (by omega) h4 rfl i11 4 (by decide) (by decide +kernel) (v := .ref (g.2.1 142)) (by rw [h4']; rfl) h3 dX11_init_158 ?_
      refine z_iload_n O dX11_init_161 1 rfl ?_
      refine z_new O hE.1 hK.1.1 hA h1 h2 (ci := 9) i9 tyX9 tyX9_ok (by decide +kernel) (by decide +kernel) (by decide +kernel) rfl [.null, .int 0, .int 0, .int 0, .int 0, .int 0] (fun j hj => by
        rcases (show j = 0 ∨ j = 1 ∨ j = 2 ∨ j = 3 ∨ j = 4 ∨ j = 5 by omega) with rfl | rfl | rfl | rfl | rfl | rfl <;> rfl) ⟨by show kc + 1 ≤ 160; omega, by show ks + 6 ≤ 1897; omega⟩ dX11_init_162 (fun q hG => ?_)
      refine z_dup O dX11_init_165 rfl ?_
      refine z_callC (gKs D cs) hK.1 hA hG (k := 143 + 2 * c) rfl (if_pos rfl) (if_pos rfl) (by decide) t_X9_init (zr_IN (As := []) (rest := [.ref q, .int (Int32.ofNat c), .ref (g.2.1 142)]) O hE.1 0 gX11_init_X9_init_n58 rfl rfl rfl (nM hK.1 16 rfl) (by decide +kernel) (by decide +kernel) rfl (by decide +kernel) ⟨(Nat.le_of_ble_eq_true rfl), (Nat.le_of_ble_eq_true rfl)⟩ ⟨by show kc + 1 + 1 ≤ 160; omega, by show ks + 6 + 100 ≤ 1897; omega⟩ rfl rfl (Nat.le_of_ble_eq_true rfl) dX11_init_166) (fun u hu hG => ?_)
      have q1 : (gJoin (gUp (143 + 2 * c) g q (.inr (9, [.null, .int 0, .int 0, .int 0, .int 0, .int 0]))) (143 + 2 * c) 2 u (eCX9 cs u)).2.2 142 = .inl (cs 3, 8, .inr (.inr (.inr (.inr (fun j => if j < c then some (g.2.1 (143 + 2 * j)) else none))))) := (if_pos (by omega)).trans ((if_neg (by omega)).trans h6.1)
      have q2 : (gJoin (gUp (143 + 2 * c) g q (.inr (9, [.null, .int 0, .int 0, .int 0, .int 0, .int 0]))) (143 + 2 * c) 2 u (eCX9 cs u)).2.1 142 = g.2.1 142 := (if_pos (by omega)).trans (if_neg (by omega))
      have q3 : (gJoin (gUp (143 + 2 * c) g q (.inr (9, [.null, .int 0, .int 0, .int 0, .int 0, .int 0]))) (143 + 2 * c) 2 u (eCX9 cs u)).2.1 (143 + 2 * c) = q := (if_neg (by omega)).trans (by rw [Nat.sub_self]; exact hu)
      have q4 : (gJoin (gUp (143 + 2 * c) g q (.inr (9, [.null, .int 0, .int 0, .int 0, .int 0, .int 0]))) (143 + 2 * c) 2 u (eCX9 cs u)).2.2 (143 + 2 * c) = .inr (9, [.ref (u 1), .int 0, .int 0, .int 0, .int 0, .int 0]) := (if_neg (by omega)).trans (by rw [Nat.sub_self]; rfl)
      refine z_aastG O hK.1.1 hG 3 (i := 142) (o := 143 + 2 * c) (show 142 < 143 + 2 * c + 2 by omega) q1 rfl (show 143 + 2 * c < 143 + 2 * c + 2 by omega) q4 rfl (i32l8 c hc8).2 q2 q3 dX11_init_169 (fun hG => ?_)
      refine z_iinc O dX11_init_170 1 rfl (i32c c (by omega)).2 (by decide) rfl ?_
      refine z_goto O 151 dX11_init_173 (by decide) ?_
      rw [(i32c c (by omega)).1] at hG ⊢
      exact z_sub [1, 0] rfl (iI (c + 1) vs _ _ _ (by omega) (by omega) (by omega) (JX9_step h hu rfl hG))
  have kL3 : ∀ (kq l1 l2 l3 : Nat) (g : GS) (kc ks : Nat), kc = 141 → ks = 1025 → GI (zA (fun q => q = a) C.s.heap.size) g → g.1 = 142 → g.2.1 0 = a → g.2.1 1 = kq → g.2.1 10 = l1 → g.2.1 54 = l2 → g.2.1 98 = l3 → g.2.2 0 = .inr (11, [.ref kq, .ref l1, .ref l2, .ref l3, .null, .null, .null, .int 0, .int 0]) → PB cs 3 g → Z C (zA (fun q => q = a) C.s.heap.size) (GH D) 2 g [(0, .ref a)] kc ks 140 [] := by
    intro kq l1 l2 l3 g kc ks hkc hks hG hn h0 hkq hl1 hl2 hl3 h1 hB
    refine z_aload_n O dX11_init_140 0 rfl ?_
    refine z_bipush (v := 8) O dX11_init_141 rfl ?_
    refine z_newQ (N' := 8) O hE.1 hK.1.1 hA hG (kg := 142) hn (by decide +kernel) (hK.2.1 "SaidInWinter$Shelf" (List.mem_of_getElem? (i := 2) rfl)) 3 rfl (by decide) rfl (by decide) ⟨by show kc + 1 ≤ 160; omega, by show ks + 8 ≤ 1897; omega⟩ dX11_init_143 (fun q hG => ?_)
    refine z_putF O hnm hK.1.1 hG (i := 0) (Nat.le_of_ble_eq_true rfl) h1 rfl i11 tyX11 tyX11_ok nmX11 4 (by decide) (by decide +kernel) rfl rfl (ty := .array (.object "SaidInWinter$Shelf")) rfl rfl rfl (Nat.le_of_ble_eq_true rfl) [.ref kq, .ref l1, .ref l2, .ref l3, .ref q, .null, .null, .int 0, .int 0] rfl h0 dX11_init_146 (fun hG => ?_)
    refine z_iconst (v := 0) O dX11_init_149 rfl ?_
    refine z_istore_n (lv' := [(1, .int 0), (0, .ref a)]) O dX11_init_150 (by decide) rfl ?_
    generalize hg : gSet (gUp 142 g q (.inl (cs 3, 8, .inr (.inr (.inr (.inr (fun _ => none))))))) 0 (.inr (11, [.ref kq, .ref l1, .ref l2, .ref l3, .ref q, .null, .null, .int 0, .int 0])) = g3 at hG ⊢
    have a1 : ∀ i, i < 142 → g3.2.1 i = g.2.1 i := fun i hi => by
      rw [← hg]
      exact if_neg (show ¬ i = 142 by omega)
    have e1 : ∀ i, i < 142 → i ≠ 0 → g3.2.2 i = g.2.2 i := fun i hi h0 => by
      rw [← hg]
      exact (if_neg h0).trans (if_neg (show ¬ i = 142 by omega))
    have n3 : g3.1 = 143 := by rw [← hg]; rfl
    have b0 : g3.2.2 0 = .inr (11, [.ref kq, .ref l1, .ref l2, .ref l3, .ref q, .null, .null, .int 0, .int 0]) := by rw [← hg]; rfl
    have b1 : g3.2.1 142 = q := by rw [← hg]; rfl
    have b2 : g3.2.2 142 = .inl (cs 3, 8, .inr (.inr (.inr (.inr (fun _ => none))))) := by rw [← hg]; rfl
    clear hg
    refine z_sub [1, 0] rfl (kC 8 0 _ g3 _ _ rfl (by omega) (by omega) ⟨hG, n3, (a1 0 (by omega)).trans h0, b0, ?_, PB_keep hB (fun i hi => a1 i (by omega)) (fun i hi => e1 i (by omega)), ?_, fun c' hc => absurd hc (Nat.not_lt_zero _)⟩)
    · rw [a1 1 (by omega), a1 10 (by omega), a1 54 (by omega), a1 98 (by omega), hkq, hl1, hl2, hl3, b1]
    · rw [b2]
      have : (fun j => if j < 0 then some (g3.2.1 (143 + 2 * j)) else none : Nat → Option Nat) = fun _ => none := by
        funext j
        exact if_neg (Nat.not_lt_zero j)
      rw [this]
  have kL2 : ∀ (kq l1 l2 : Nat) (g : GS) (kc ks : Nat), kc = 97 → ks = 686 → GI (zA (fun q => q = a) C.s.heap.size) g → g.1 = 98 → g.2.1 0 = a → g.2.1 1 = kq → g.2.1 10 = l1 → g.2.1 54 = l2 → g.2.2 0 = .inr (11, [.ref kq, .ref l1, .ref l2, .null, .null, .null, .null, .int 0, .int 0]) → PB cs 2 g → Z C (zA (fun q => q = a) C.s.heap.size) (GH D) 2 g [(0, .ref a)] kc ks 125 [] := by
    intro kq l1 l2 g kc ks hkc hks hG hn h0 hkq hl1 hl2 h1 hB
    subst hkq
    refine z_aload_n O dX11_init_125 0 rfl ?_
    refine z_new O hE.1 hK.1.1 hA hG (kg := 98) hn (ci := 6) i6 tyX6 tyX6_ok (by decide +kernel) (by decide +kernel) (by decide +kernel) rfl [.null, .null, .int 0] (fun j hj => by
      rcases (show j = 0 ∨ j = 1 ∨ j = 2 by omega) with rfl | rfl | rfl <;> rfl) ⟨by show kc + 1 ≤ 160; omega, by show ks + 3 ≤ 1897; omega⟩ dX11_init_126 (fun l3 hG => ?_)
    refine z_dup O dX11_init_129 rfl ?_
    refine z_aload_n O dX11_init_130 0 rfl ?_
    refine z_getG O hK.1.1 (i := 0) (Nat.le_of_ble_eq_true rfl) h1 rfl i11 0 (by decide) (by decide +kernel) (v := .ref (g.2.1 1)) rfl h0 dX11_init_131 ?_
    refine z_callC (gK2s D cs) hK hA hG (k := 98) rfl rfl rfl (by decide) (t_X6_init (g.2.1 1)) (zr_I (As := [.ref (g.2.1 1)]) (rest := [.ref l3, .ref a]) O hE.1 1 gX11_init_X6_init rfl rfl rfl (by decide +kernel) (by decide +kernel) (by decide +kernel) rfl (by decide +kernel) ⟨(Nat.le_of_ble_eq_true rfl), (Nat.le_of_ble_eq_true rfl)⟩ ⟨by show kc + 1 + 43 ≤ 160; omega, by show ks + 3 + 336 ≤ 1897; omega⟩ rfl rfl (Nat.le_of_ble_eq_true rfl) dX11_init_134) (fun u hu hG => ?_)
    refine z_putF O hnm hK.1.1 hG (i := 0) (Nat.le_of_ble_eq_true rfl) h1 rfl i11 tyX11 tyX11_ok nmX11 3 (by decide) (by decide +kernel) rfl rfl (ty := .object "SaidInWinter$Lake") rfl rfl rfl (Nat.le_of_ble_eq_true rfl) [.ref (g.2.1 1), .ref l1, .ref l2, .ref l3, .null, .null, .null, .int 0, .int 0] rfl h0 dX11_init_137 (fun hG => ?_)
    obtain ⟨hB2, hk⟩ := PB_lake (q := l3) (n := 98) (u := u) (e := .inr (6, [.null, .null, .int 0])) (v := .inr (11, [.ref (g.2.1 1), .ref l1, .ref l2, .ref l3, .null, .null, .null, .int 0, .int 0])) hB rfl
    exact kL3 (g.2.1 1) l1 l2 l3 _ _ _ (by omega) (by omega) hG rfl ((hk 0 (by decide)).trans h0) (hk 1 (by decide)) ((hk 10 (by decide)).trans hl1) ((hk 54 (by decide)).trans hl2) hu rfl hB2
  have kL1 : ∀ (kq l1 : Nat) (g : GS) (kc ks : Nat), kc = 53 → ks = 347 → GI (zA (fun q => q = a) C.s.heap.size) g → g.1 = 54 → g.2.1 0 = a → g.2.1 1 = kq → g.2.1 10 = l1 → g.2.2 0 = .inr (11, [.ref kq, .ref l1, .null, .null, .null, .null, .null, .int 0, .int 0]) → PB cs 1 g → Z C (zA (fun q => q = a) C.s.heap.size) (GH D) 2 g [(0, .ref a)] kc ks 110 [] := by
    intro kq l1 g kc ks hkc hks hG hn h0 hkq hl1 h1 hB
    subst hkq
    refine z_aload_n O dX11_init_110 0 rfl ?_
    refine z_new O hE.1 hK.1.1 hA hG (kg := 54) hn (ci := 6) i6 tyX6 tyX6_ok (by decide +kernel) (by decide +kernel) (by decide +kernel) rfl [.null, .null, .int 0] (fun j hj => by
      rcases (show j = 0 ∨ j = 1 ∨ j = 2 by omega) with rfl | rfl | rfl <;> rfl) ⟨by show kc + 1 ≤ 160; omega, by show ks + 3 ≤ 1897; omega⟩ dX11_init_111 (fun l2 hG => ?_)
    refine z_dup O dX11_init_114 rfl ?_
    refine z_aload_n O dX11_init_115 0 rfl ?_
    refine z_getG O hK.1.1 (i := 0) (Nat.le_of_ble_eq_true rfl) h1 rfl i11 0 (by decide) (by decide +kernel) (v := .ref (g.2.1 1)) rfl h0 dX11_init_116 ?_
    refine z_callC (gK2s D cs) hK hA hG (k := 54) rfl rfl rfl (by decide) (t_X6_init (g.2.1 1)) (zr_I (As := [.ref (g.2.1 1)]) (rest := [.ref l2, .ref a]) O hE.1 1 gX11_init_X6_init rfl rfl rfl (by decide +kernel) (by decide +kernel) (by decide +kernel) rfl (by decide +kernel) ⟨(Nat.le_of_ble_eq_true rfl), (Nat.le_of_ble_eq_true rfl)⟩ ⟨by show kc + 1 + 43 ≤ 160; omega, by show ks + 3 + 336 ≤ 1897; omega⟩ rfl rfl (Nat.le_of_ble_eq_true rfl) dX11_init_119) (fun u hu hG => ?_)
    refine z_putF O hnm hK.1.1 hG (i := 0) (Nat.le_of_ble_eq_true rfl) h1 rfl i11 tyX11 tyX11_ok nmX11 2 (by decide) (by decide +kernel) rfl rfl (ty := .object "SaidInWinter$Lake") rfl rfl rfl (Nat.le_of_ble_eq_true rfl) [.ref (g.2.1 1), .ref l1, .ref l2, .null, .null, .null, .null, .int 0, .int 0] rfl h0 dX11_init_122 (fun hG => ?_)
    obtain ⟨hB2, hk⟩ := PB_lake (q := l2) (n := 54) (u := u) (e := .inr (6, [.null, .null, .int 0])) (v := .inr (11, [.ref (g.2.1 1), .ref l1, .ref l2, .null, .null, .null, .null, .int 0, .int 0])) hB rfl
    exact kL2 (g.2.1 1) l1 l2 _ _ _ (by omega) (by omega) hG rfl ((hk 0 (by decide)).trans h0) (hk 1 (by decide)) ((hk 10 (by decide)).trans hl1) hu rfl hB2
  have kL0 : ∀ (kq : Nat) (g : GS) (kc ks : Nat), kc = 9 → ks = 8 → GI (zA (fun q => q = a) C.s.heap.size) g → g.1 = 10 → g.2.1 0 = a → g.2.1 1 = kq → g.2.2 0 = .inr (11, [.ref kq, .null, .null, .null, .null, .null, .null, .int 0, .int 0]) → PB cs 0 g → Z C (zA (fun q => q = a) C.s.heap.size) (GH D) 2 g [(0, .ref a)] kc ks 95 [] := by
    intro kq g kc ks hkc hks hG hn h0 hkq h1 hB
    subst hkq
    refine z_aload_n O dX11_init_95 0 rfl ?_
    refine z_new O hE.1 hK.1.1 hA hG (kg := 10) hn (ci := 6) i6 tyX6 tyX6_ok (by decide +kernel) (by decide +kernel) (by decide +kernel) rfl [.null, .null, .int 0] (fun j hj => by
      rcases (show j = 0 ∨ j = 1 ∨ j = 2 by omega) with rfl | rfl | rfl <;> rfl) ⟨by show kc + 1 ≤ 160; omega, by show ks + 3 ≤ 1897; omega⟩ dX11_init_96 (fun l1 hG => ?_)
    refine z_dup O dX11_init_99 rfl ?_
    refine z_aload_n O dX11_init_100 0 rfl ?_
    refine z_getG O hK.1.1 (i := 0) (Nat.le_of_ble_eq_true rfl) h1 rfl i11 0 (by decide) (by decide +kernel) (v := .ref (g.2.1 1)) rfl h0 dX11_init_101 ?_
    refine z_callC (gK2s D cs) hK hA hG (k := 10) rfl rfl rfl (by decide) (t_X6_init (g.2.1 1)) (zr_I (As := [.ref (g.2.1 1)]) (rest := [.ref l1, .ref a]) O hE.1 1 gX11_init_X6_init rfl rfl rfl (by decide +kernel) (by decide +kernel) (by decide +kernel) rfl (by decide +kernel) ⟨(Nat.le_of_ble_eq_true rfl), (Nat.le_of_ble_eq_true rfl)⟩ ⟨by show kc + 1 + 43 ≤ 160; omega, by show ks + 3 + 336 ≤ 1897; omega⟩ rfl rfl (Nat.le_of_ble_eq_true rfl) dX11_init_104) (fun u hu hG => ?_)
    refine z_putF O hnm hK.1.1 hG (i := 0) (Nat.le_of_ble_eq_true rfl) h1 rfl i11 tyX11 tyX11_ok nmX11 1 (by decide) (by decide +kernel) rfl rfl (ty := .object "SaidInWinter$Lake") rfl rfl rfl (Nat.le_of_ble_eq_true rfl) [.ref (g.2.1 1), .ref l1, .null, .null, .null, .null, .null, .int 0, .int 0] rfl h0 dX11_init_107 (fun hG => ?_)
    obtain ⟨hB2, hk⟩ := PB_lake (q := l1) (n := 10) (u := u) (e := .inr (6, [.null, .null, .int 0])) (v := .inr (11, [.ref (g.2.1 1), .ref l1, .null, .null, .null, .null, .null, .int 0, .int 0])) hB rfl
    exact kL1 (g.2.1 1) l1 _ _ _ (by omega) (by omega) hG rfl ((hk 0 (by decide)).trans h0) (hk 1 (by decide))  hu rfl hB2
  refine z_sub (lv' := [(0, .ref a)]) [0] rfl ?_
  refine z_aload_n O dX11_init_0 0 rfl ?_
  refine z_objInit O hE.1 (by decide +kernel) (by decide +kernel) (by decide +kernel) ⟨(Nat.le_of_ble_eq_true rfl), (Nat.le_of_ble_eq_true rfl)⟩ dX11_init_1 ?_
  refine z_aload_n O dX11_init_4 0 rfl ?_
  refine z_bipush (v := 8) O dX11_init_5 rfl ?_
  refine z_newQ (N' := 8) O hE.1 hK.1.1 hA hG (kg := 1) rfl (by decide +kernel) (hK.2.1 "SaidInWinter$Layer" (List.mem_of_getElem? (i := 0) rfl)) 1 rfl (by decide) rfl (by decide) ⟨(Nat.le_of_ble_eq_true rfl), (Nat.le_of_ble_eq_true rfl)⟩ dX11_init_7 (fun qk hG => ?_)
  refine z_dup O dX11_init_10 rfl ?_
  refine z_iconst (v := 0) O dX11_init_11 rfl ?_
  refine z_new O hE.1 hK.1.1 hA hG (kg := 2) rfl (ci := 7) j7 tyX7 tyX7_ok (by decide +kernel) (by decide +kernel) (by decide +kernel) rfl [] (fun j hj => absurd hj (Nat.not_lt_zero _)) ⟨(Nat.le_of_ble_eq_true rfl), (Nat.le_of_ble_eq_true rfl)⟩ dX11_init_12 (fun q0 hG => ?_)
  refine z_dup O dX11_init_15 rfl ?_
  refine z_callV (gKs D cs) hK.1 (fun _ h => h) (t_X7_init (Hx := GH D) q0) (zr_IN (As := []) (rest := [.ref q0, .int 0, .ref qk, .ref qk, .ref a]) O hE.1 0 gX11_init_X7_init_n9 rfl rfl rfl (nM hK.1 0 rfl) (by decide +kernel) (by decide +kernel) rfl (by decide +kernel) ⟨(Nat.le_of_ble_eq_true rfl), (Nat.le_of_ble_eq_true rfl)⟩ ⟨(Nat.le_of_ble_eq_true rfl), (Nat.le_of_ble_eq_true rfl)⟩ rfl rfl (Nat.le_of_ble_eq_true rfl) dX11_init_16) (fun _ => ?_)
  refine z_aastG O hK.1.1 hG 1 (i := 1) (o := 2) (Nat.le_of_ble_eq_true rfl) rfl rfl (Nat.le_of_ble_eq_true rfl) rfl rfl (i32l8 0 (by decide)).2 rfl rfl dX11_init_19 (fun hG => ?_)
  refine z_dup O dX11_init_20 rfl ?_
  refine z_iconst (v := 1) O dX11_init_21 rfl ?_
  refine z_new O hE.1 hK.1.1 hA hG (kg := 3) rfl (ci := 3) j3 tyX3 tyX3_ok (by decide +kernel) (by decide +kernel) (by decide +kernel) rfl [] (fun j hj => absurd hj (Nat.not_lt_zero _)) ⟨(Nat.le_of_ble_eq_true rfl), (Nat.le_of_ble_eq_true rfl)⟩ dX11_init_22 (fun q1 hG => ?_)
  refine z_dup O dX11_init_25 rfl ?_
  refine z_callV (gKs D cs) hK.1 (fun _ h => h) (t_X3_init (Hx := GH D) q1) (zr_IN (As := []) (rest := [.ref q1, .int 1, .ref qk, .ref qk, .ref a]) O hE.1 0 gX11_init_X3_init_n12 rfl rfl rfl (nM hK.1 1 rfl) (by decide +kernel) (by decide +kernel) rfl (by decide +kernel) ⟨(Nat.le_of_ble_eq_true rfl), (Nat.le_of_ble_eq_true rfl)⟩ ⟨(Nat.le_of_ble_eq_true rfl), (Nat.le_of_ble_eq_true rfl)⟩ rfl rfl (Nat.le_of_ble_eq_true rfl) dX11_init_26) (fun _ => ?_)
  refine z_aastO O hK.1.1 hG 1 (i := 1) (o := 3) (r := (RX3, TX3, 0)) (Nat.le_of_ble_eq_true rfl) rfl rfl (hK.2.2 RX3 (List.mem_of_getElem? (i := 0) rfl)) (Nat.le_of_ble_eq_true rfl) rfl rfl (i32l8 1 (by decide)).2 rfl rfl dX11_init_29 (fun hG => ?_)
  refine z_dup O dX11_init_30 rfl ?_
  refine z_iconst (v := 2) O dX11_init_31 rfl ?_
  refine z_new O hE.1 hK.1.1 hA hG (kg := 4) rfl (ci := 5) j5 tyX5 tyX5_ok (by decide +kernel) (by decide +kernel) (by decide +kernel) rfl [] (fun j hj => absurd hj (Nat.not_lt_zero _)) ⟨(Nat.le_of_ble_eq_true rfl), (Nat.le_of_ble_eq_true rfl)⟩ dX11_init_32 (fun q2 hG => ?_)
  refine z_dup O dX11_init_35 rfl ?_
  refine z_callV (gKs D cs) hK.1 (fun _ h => h) (t_X5_init (Hx := GH D) q2) (zr_IN (As := []) (rest := [.ref q2, .int 2, .ref qk, .ref qk, .ref a]) O hE.1 0 gX11_init_X5_init_n15 rfl rfl rfl (nM hK.1 3 rfl) (by decide +kernel) (by decide +kernel) rfl (by decide +kernel) ⟨(Nat.le_of_ble_eq_true rfl), (Nat.le_of_ble_eq_true rfl)⟩ ⟨(Nat.le_of_ble_eq_true rfl), (Nat.le_of_ble_eq_true rfl)⟩ rfl rfl (Nat.le_of_ble_eq_true rfl) dX11_init_36) (fun _ => ?_)
  refine z_aastO O hK.1.1 hG 1 (i := 1) (o := 4) (r := (RX5, TX5, 0)) (Nat.le_of_ble_eq_true rfl) rfl rfl (hK.2.2 RX5 (List.mem_of_getElem? (i := 1) rfl)) (Nat.le_of_ble_eq_true rfl) rfl rfl (i32l8 2 (by decide)).2 rfl rfl dX11_init_39 (fun hG => ?_)
  refine z_dup O dX11_init_40 rfl ?_
  refine z_iconst (v := 3) O dX11_init_41 rfl ?_
  refine z_new O hE.1 hK.1.1 hA hG (kg := 5) rfl (ci := 10) j10 tyX10 tyX10_ok (by decide +kernel) (by decide +kernel) (by decide +kernel) rfl [] (fun j hj => absurd hj (Nat.not_lt_zero _)) ⟨(Nat.le_of_ble_eq_true rfl), (Nat.le_of_ble_eq_true rfl)⟩ dX11_init_42 (fun q3 hG => ?_)
  refine z_dup O dX11_init_45 rfl ?_
  refine z_callV (gKs D cs) hK.1 (fun _ h => h) (t_X10_init (Hx := GH D) q3) (zr_IN (As := []) (rest := [.ref q3, .int 3, .ref qk, .ref qk, .ref a]) O hE.1 0 gX11_init_X10_init_n18 rfl rfl rfl (nM hK.1 5 rfl) (by decide +kernel) (by decide +kernel) rfl (by decide +kernel) ⟨(Nat.le_of_ble_eq_true rfl), (Nat.le_of_ble_eq_true rfl)⟩ ⟨(Nat.le_of_ble_eq_true rfl), (Nat.le_of_ble_eq_true rfl)⟩ rfl rfl (Nat.le_of_ble_eq_true rfl) dX11_init_46) (fun _ => ?_)
  refine z_aastO O hK.1.1 hG 1 (i := 1) (o := 5) (r := (RX10, TX10, 0)) (Nat.le_of_ble_eq_true rfl) rfl rfl (hK.2.2 RX10 (List.mem_of_getElem? (i := 2) rfl)) (Nat.le_of_ble_eq_true rfl) rfl rfl (i32l8 3 (by decide)).2 rfl rfl dX11_init_49 (fun hG => ?_)
  refine z_dup O dX11_init_50 rfl ?_
  refine z_iconst (v := 4) O dX11_init_51 rfl ?_
  refine z_new O hE.1 hK.1.1 hA hG (kg := 6) rfl (ci := 1) j1 tyX1 tyX1_ok (by decide +kernel) (by decide +kernel) (by decide +kernel) rfl [] (fun j hj => absurd hj (Nat.not_lt_zero _)) ⟨(Nat.le_of_ble_eq_true rfl), (Nat.le_of_ble_eq_true rfl)⟩ dX11_init_52 (fun q4 hG => ?_)
  refine z_dup O dX11_init_55 rfl ?_
  refine z_callV (gKs D cs) hK.1 (fun _ h => h) (t_X1_init (Hx := GH D) q4) (zr_IN (As := []) (rest := [.ref q4, .int 4, .ref qk, .ref qk, .ref a]) O hE.1 0 gX11_init_X1_init_n21 rfl rfl rfl (nM hK.1 7 rfl) (by decide +kernel) (by decide +kernel) rfl (by decide +kernel) ⟨(Nat.le_of_ble_eq_true rfl), (Nat.le_of_ble_eq_true rfl)⟩ ⟨(Nat.le_of_ble_eq_true rfl), (Nat.le_of_ble_eq_true rfl)⟩ rfl rfl (Nat.le_of_ble_eq_true rfl) dX11_init_56) (fun _ => ?_)
  refine z_aastO O hK.1.1 hG 1 (i := 1) (o := 6) (r := (RX1, TX1, 0)) (Nat.le_of_ble_eq_true rfl) rfl rfl (hK.2.2 RX1 (List.mem_of_getElem? (i := 3) rfl)) (Nat.le_of_ble_eq_true rfl) rfl rfl (i32l8 4 (by decide)).2 rfl rfl dX11_init_59 (fun hG => ?_)
  refine z_dup O dX11_init_60 rfl ?_
  refine z_iconst (v := 5) O dX11_init_61 rfl ?_
  refine z_new O hE.1 hK.1.1 hA hG (kg := 7) rfl (ci := 8) j8 tyX8 tyX8_ok (by decide +kernel) (by decide +kernel) (by decide +kernel) rfl [] (fun j hj => absurd hj (Nat.not_lt_zero _)) ⟨(Nat.le_of_ble_eq_true rfl), (Nat.le_of_ble_eq_true rfl)⟩ dX11_init_62 (fun q5 hG => ?_)
  refine z_dup O dX11_init_65 rfl ?_
  refine z_callV (gKs D cs) hK.1 (fun _ h => h) (t_X8_init (Hx := GH D) q5) (zr_IN (As := []) (rest := [.ref q5, .int 5, .ref qk, .ref qk, .ref a]) O hE.1 0 gX11_init_X8_init_n24 rfl rfl rfl (nM hK.1 9 rfl) (by decide +kernel) (by decide +kernel) rfl (by decide +kernel) ⟨(Nat.le_of_ble_eq_true rfl), (Nat.le_of_ble_eq_true rfl)⟩ ⟨(Nat.le_of_ble_eq_true rfl), (Nat.le_of_ble_eq_true rfl)⟩ rfl rfl (Nat.le_of_ble_eq_true rfl) dX11_init_66) (fun _ => ?_)
  refine z_aastO O hK.1.1 hG 1 (i := 1) (o := 7) (r := (RX8, TX8, 0)) (Nat.le_of_ble_eq_true rfl) rfl rfl (hK.2.2 RX8 (List.mem_of_getElem? (i := 4) rfl)) (Nat.le_of_ble_eq_true rfl) rfl rfl (i32l8 5 (by decide)).2 rfl rfl dX11_init_69 (fun hG => ?_)
  refine z_dup O dX11_init_70 rfl ?_
  refine z_bipush (v := 6) O dX11_init_71 rfl ?_
  refine z_new O hE.1 hK.1.1 hA hG (kg := 8) rfl (ci := 0) j0 tyX0 tyX0_ok (by decide +kernel) (by decide +kernel) (by decide +kernel) rfl [] (fun j hj => absurd hj (Nat.not_lt_zero _)) ⟨(Nat.le_of_ble_eq_true rfl), (Nat.le_of_ble_eq_true rfl)⟩ dX11_init_73 (fun q6 hG => ?_)
  refine z_dup O dX11_init_76 rfl ?_
  refine z_callV (gKs D cs) hK.1 (fun _ h => h) (t_X0_init (Hx := GH D) q6) (zr_IN (As := []) (rest := [.ref q6, .int 6, .ref qk, .ref qk, .ref a]) O hE.1 0 gX11_init_X0_init_n27 rfl rfl rfl (nM hK.1 11 rfl) (by decide +kernel) (by decide +kernel) rfl (by decide +kernel) ⟨(Nat.le_of_ble_eq_true rfl), (Nat.le_of_ble_eq_true rfl)⟩ ⟨(Nat.le_of_ble_eq_true rfl), (Nat.le_of_ble_eq_true rfl)⟩ rfl rfl (Nat.le_of_ble_eq_true rfl) dX11_init_77) (fun _ => ?_)
  refine z_aastO O hK.1.1 hG 1 (i := 1) (o := 8) (r := (RX0, TX0, 0)) (Nat.le_of_ble_eq_true rfl) rfl rfl (hK.2.2 RX0 (List.mem_of_getElem? (i := 5) rfl)) (Nat.le_of_ble_eq_true rfl) rfl rfl (i32l8 6 (by decide)).2 rfl rfl dX11_init_80 (fun hG => ?_)
  refine z_dup O dX11_init_81 rfl ?_
  refine z_bipush (v := 7) O dX11_init_82 rfl ?_
  refine z_new O hE.1 hK.1.1 hA hG (kg := 9) rfl (ci := 4) j4 tyX4 tyX4_ok (by decide +kernel) (by decide +kernel) (by decide +kernel) rfl [] (fun j hj => absurd hj (Nat.not_lt_zero _)) ⟨(Nat.le_of_ble_eq_true rfl), (Nat.le_of_ble_eq_true rfl)⟩ dX11_init_84 (fun q7 hG => ?_)
  refine z_dup O dX11_init_87 rfl ?_
  refine z_callV (gKs D cs) hK.1 (fun _ h => h) (t_X4_init (Hx := GH D) q7) (zr_IN (As := []) (rest := [.ref q7, .int 7, .ref qk, .ref qk, .ref a]) O hE.1 0 gX11_init_X4_init_n30 rfl rfl rfl (nM hK.1 13 rfl) (by decide +kernel) (by decide +kernel) rfl (by decide +kernel) ⟨(Nat.le_of_ble_eq_true rfl), (Nat.le_of_ble_eq_true rfl)⟩ ⟨(Nat.le_of_ble_eq_true rfl), (Nat.le_of_ble_eq_true rfl)⟩ rfl rfl (Nat.le_of_ble_eq_true rfl) dX11_init_88) (fun _ => ?_)
  refine z_aastO O hK.1.1 hG 1 (i := 1) (o := 9) (r := (RX4, TX4, 0)) (Nat.le_of_ble_eq_true rfl) rfl rfl (hK.2.2 RX4 (List.mem_of_getElem? (i := 6) rfl)) (Nat.le_of_ble_eq_true rfl) rfl rfl (i32l8 7 (by decide)).2 rfl rfl dX11_init_91 (fun hG => ?_)
  refine z_putF O hnm hK.1.1 hG (i := 0) (Nat.le_of_ble_eq_true rfl) rfl rfl i11 tyX11 tyX11_ok nmX11 0 (by decide) (by decide +kernel) rfl rfl (ty := .array (.object "SaidInWinter$Layer")) rfl rfl rfl (Nat.le_of_ble_eq_true rfl) [.ref qk, .null, .null, .null, .null, .null, .null, .int 0, .int 0] rfl rfl dX11_init_92 (fun hG => ?_)
  refine kL0 qk _ _ _ rfl rfl hG rfl rfl rfl rfl ⟨fun k hk => ?_, ⟨_, rfl, fun k hk => ?_⟩, fun b' i hb => absurd hb (Nat.not_lt_zero _)⟩
  · rcases xl8 hk with rfl | rfl | rfl | rfl | rfl | rfl | rfl | rfl <;> rfl
  · rcases xl8 hk with rfl | rfl | rfl | rfl | rfl | rfl | rfl | rfl <;> rfl
