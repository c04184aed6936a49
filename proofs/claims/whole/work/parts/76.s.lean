/-! ===== where both begin ===== -/
def lk0 : LK := (0, fun _ => 0, fun _ _ => 0, fun _ _ => 0, fun _ _ => 0, fun _ _ => 0)
def sh0 : SH := (0, 0, 0, 0, 0, fun _ => 0)
def as0 : AS := (lk0, none, fun _ => sh0)
theorem lP0 (q : Nat) : wLP x0 q := ⟨fun c hc => ⟨c, hc, by show q + 1 + 1 + 7 * c = q + 2 + 7 * c; omega⟩, fun c d _ _ h => by
  have h : q + 1 + 1 + 7 * c = q + 1 + 1 + 7 * d := h
  omega⟩
theorem lO0 : lO lk0 := ⟨Nat.zero_le _, fun c _ => ⟨Nat.zero_le _, fun i hi => absurd hi (Nat.not_lt_zero i)⟩⟩
theorem sO0 : sOK sh0 := ⟨Nat.zero_le _, by decide, by decide, Nat.zero_le _, Nat.zero_le _, fun i _ => ⟨(by decide : (-2147483648 : Int) ≤ 0), (by decide : (0 : Int) < 2147483648), fun _ => ⟨(by decide : (-128 : Int) ≤ 0), (by decide : (0 : Int) ≤ 127)⟩, fun _ => ⟨(by decide : (-32768 : Int) ≤ 0), (by decide : (0 : Int) ≤ 32767)⟩⟩⟩
theorem XR0 : XR x0 as0 := ⟨⟨⟨lP0 29, rfl, fun c _ => ⟨rfl, fun i hi => absurd hi (Nat.not_lt_zero i)⟩⟩, lO0⟩, lP0 117, ⟨lP0 73, rfl, fun L h => by cases h⟩, fun d _ => ⟨⟨rfl, rfl, rfl, rfl, rfl, fun _ _ => rfl⟩, sO0⟩⟩
theorem MR0 : MR m0 as0 := ⟨⟨⟨rfl, fun c _ => ⟨rfl, fun i hi => absurd hi (Nat.not_lt_zero i)⟩⟩, lO0⟩, ⟨rfl, fun L h => by cases h⟩, fun d _ => ⟨⟨rfl, fun h => absurd (show (0 : Nat) = 1 from h) (by decide), fun h => absurd (show (0 : Nat) = 2 from h) (by decide)⟩, sO0⟩⟩
theorem pX_in : ∀ j, j < 161 → pX j < 161 ∧ rX (pX j) = j := by decide +kernel
/-- all that the constructors have made, as the law's world -/
theorem lw_made {D : va_G} {cs : Nat → ClassId} {s0 : State} {g : GS} {u v : Nat → Nat} {ao : Nat} (hn : g.1 = 180) (h1 : ∀ i, i < 161 → g.2.1 i = u i ∧ g.2.2 i = eCX11 cs u i) (h2 : ∀ i, i < 18 → g.2.1 (161 + i) = v i ∧ g.2.2 (161 + i) = eCX12 cs v i) (h3 : g.2.1 179 = ao ∧ g.2.2 179 = .inl (cs 4, 1, .inr (.inl (fun _ => 0)))) {H : Heap} (hH : GH D g H) (hu : hU s0 H) : lwH D cs (fun j => u (pX j)) v ao s0 (x0, m0, fun _ => 0) H := by
  refine ⟨wl_P (fun i hi => ?_), wl_P (fun i hi => ?_), wl_P (fun i hi => ?_), hu⟩
  · obtain ⟨p1, p2⟩ := pX_in i hi
    have h := wl_at hH (i := pX i) (by omega)
    rw [(h1 _ p1).1, (h1 _ p1).2] at h
    have e : eCX11 cs u (pX i) = XE cs (fun j => u (pX j)) x0 i := by unfold eCX11; rw [p2]
    rw [e] at h
    exact h
  · have h := wl_at hH (i := 161 + i) (by omega)
    rw [(h2 _ hi).1, (h2 _ hi).2] at h
    exact h
  · obtain rfl : i = 0 := by omega
    have h := wl_at hH (i := 179) (by omega)
    rw [h3.1, h3.2] at h
    exact h
theorem lw_apart {A : Nat → Prop} {g : GS} {u v : Nat → Nat} {ao : Nat} (hn : g.1 = 180) (hG : GI A g) (h1 : ∀ i, i < 161 → g.2.1 i = u i) (h2 : ∀ i, i < 18 → g.2.1 (161 + i) = v i) (h3 : g.2.1 179 = ao) : (wInj 161 (fun j => u (pX j)) ∧ wInj 18 v) ∧ ((∀ q, wB 161 (fun j => u (pX j)) q → A q) ∧ (∀ q, wB 18 v q → A q) ∧ A ao) ∧ ((∀ q, wB 161 (fun j => u (pX j)) q → ¬ wB 18 v q) ∧ ¬ wB 161 (fun j => u (pX j)) ao ∧ ¬ wB 18 v ao) := by
  obtain ⟨gI, gA⟩ := hG
  rw [hn] at gI gA
  refine ⟨⟨fun i j hi hj h => ?_, fun i j hi hj h => ?_⟩, ⟨fun q hq => ?_, fun q hq => ?_, ?_⟩, ⟨fun q hq hq2 => ?_, fun hq => ?_, fun hq => ?_⟩⟩
  · obtain ⟨p1, p2⟩ := pX_in i hi
    obtain ⟨p3, p4⟩ := pX_in j hj
    have h : u (pX i) = u (pX j) := h
    rw [← h1 _ p1, ← h1 _ p3] at h
    have := gI _ _ (by omega) (by omega) h
    rw [← p2, ← p4, this]
  · rw [← h2 _ hi, ← h2 _ hj] at h
    have := gI _ _ (by omega) (by omega) h
    omega
  · obtain ⟨i, hi, rfl⟩ := hq
    obtain ⟨p1, p2⟩ := pX_in i hi
    show A (u (pX i))
    rw [← h1 _ p1]
    exact gA _ ⟨pX i, by omega, rfl⟩
  · obtain ⟨i, hi, rfl⟩ := hq
    rw [← h2 _ hi]
    exact gA _ ⟨161 + i, by omega, rfl⟩
  · rw [← h3]
    exact gA _ ⟨179, by omega, rfl⟩
  · obtain ⟨i, hi, e⟩ := hq
    obtain ⟨j, hj, e2⟩ := hq2
    obtain ⟨p1, p2⟩ := pX_in i hi
    have e : q = u (pX i) := e
    rw [e, ← h1 _ p1, ← h2 _ hj] at e2
    have := gI _ _ (by omega) (by omega) e2
    omega
  · obtain ⟨i, hi, e⟩ := hq
    obtain ⟨p1, p2⟩ := pX_in i hi
    have e : ao = u (pX i) := e
    rw [← h1 _ p1, ← h3] at e
    have := gI _ _ (by omega) (by omega) e
    omega
  · obtain ⟨j, hj, e⟩ := hq
    rw [← h2 _ hj, ← h3] at e
    have := gI _ _ (by omega) (by omega) e
    omega
/-- what the tables say of the classes and the rows -/
theorem lw_ao {C : String} {a : Array Value} {s : State} (h : (Cond.arrayOver (.object C)).before a s = true) : ∃ c : ClassId, ArrOfT s c (.object C) ∧ va_RA s c (.object C) := by
  obtain ⟨comp, c, k, h1, -, h3, h4, h5⟩ := Cond.arrayOver_spec h
  exact ⟨c, fun N z => ⟨(fun k h => by cases h), k, h3, comp, h4⟩, k, comp, h3, h4, h1, h5⟩
theorem lw_aI {a : Array Value} {s : State} (h : (Cond.arrayClass .int).before a s = true) : ∃ c : ClassId, ArrOfT s c .int ∧ va_RA s c .int := by
  obtain ⟨c, k, comp, h1, h2, h3⟩ := Cond.arrayClass_spec h
  exact ⟨c, fun N z => ⟨(fun k h => by cases h), k, h2, comp, h3⟩, h1⟩
theorem lw_aJ {a : Array Value} {s : State} (h : (Cond.arrayClass .long).before a s = true) : ∃ c : ClassId, ArrOfT s c .long ∧ va_RA s c .long := by
  obtain ⟨c, k, comp, h1, h2, h3⟩ := Cond.arrayClass_spec h
  exact ⟨c, fun N z => ⟨(fun k h => by cases h), k, h2, comp, h3⟩, h1⟩
theorem lw_flags {l : Launch} (hflags : l.flags = flags0) : l.stackTraces = false := by
  unfold Launch.stackTraces
  rw [hflags]
  decide
theorem lw_gK {a : Array Value} {s : State} (hts : ∀ w ∈ lw_tbl, w.before a s = true) (hgv : (Jvm.Cond.and given_1 narrow_1).before a s = true) : ∃ (D : va_G) (cs : Nat → ClassId), gK2 D cs s ∧ gX D cs s s ∧ hU s s.heap := by
  have hf := flat_of_before _ hgv
  obtain ⟨c0, i0, k0⟩ := u_known (C := RX0) (T := TX0) (N := 0) (n := 0) hts inX0 (hts _ (by decide +kernel))
  obtain ⟨c1, i1, k1⟩ := u_known (C := RX1) (T := TX1) (N := 0) (n := 0) hts inX1 (hts _ (by decide +kernel))
  obtain ⟨c2, i2, k2⟩ := u_known (C := RX2) (T := TX2) (N := 7) (n := 7) hts inX2 (hts _ (by decide +kernel))
  obtain ⟨c3, i3, k3⟩ := u_known (C := RX3) (T := TX3) (N := 0) (n := 0) hts inX3 (hts _ (by decide +kernel))
  obtain ⟨c4, i4, k4⟩ := u_known (C := RX4) (T := TX4) (N := 0) (n := 0) hts inX4 (hts _ (by decide +kernel))
  obtain ⟨c5, i5, k5⟩ := u_known (C := RX5) (T := TX5) (N := 0) (n := 0) hts inX5 (hts _ (by decide +kernel))
  obtain ⟨c6, i6, k6⟩ := u_known (C := RX6) (T := TX6) (N := 3) (n := 3) hts inX6 (hts _ (by decide +kernel))
  obtain ⟨c7, i7, k7⟩ := u_known (C := RX7) (T := TX7) (N := 0) (n := 0) hts inX7 (hts _ (by decide +kernel))
  obtain ⟨c8, i8, k8⟩ := u_known (C := RX8) (T := TX8) (N := 0) (n := 0) hts inX8 (hts _ (by decide +kernel))
  obtain ⟨c9, i9, k9⟩ := u_known (C := RX9) (T := TX9) (N := 6) (n := 6) hts inX9 (hts _ (by decide +kernel))
  obtain ⟨c10, i10, k10⟩ := u_known (C := RX10) (T := TX10) (N := 0) (n := 0) hts inX10 (hts _ (by decide +kernel))
  obtain ⟨c11, i11, k11⟩ := u_known (C := RX11) (T := TX11) (N := 9) (n := 9) hts inX11 (hts _ (by decide +kernel))
  obtain ⟨c12, i12, k12⟩ := u_known (C := RX12) (T := TX12) (N := 29) (n := 29) hts inX12 (hts _ (by decide +kernel))
  obtain ⟨a0, q0, r0⟩ := lw_aI (hts (.arrayClass .int) (by decide +kernel))
  obtain ⟨a1, q1, r1⟩ := lw_ao (C := "SaidInWinter$Layer") (hts _ (by decide +kernel))
  obtain ⟨a2, q2, r2⟩ := lw_ao (C := "SaidInWinter$Cell") (hts _ (by decide +kernel))
  obtain ⟨a3, q3, r3⟩ := lw_ao (C := "SaidInWinter$Shelf") (hts _ (by decide +kernel))
  obtain ⟨a4, q4, r4⟩ := lw_aJ (hts (.arrayClass .long) (by decide +kernel))
  have hK : gK ((fun k => [c0, c1, c2, c3, c4, c5, c6, c7, c8, c9, c10, c11, c12].getD k 0), (fun k => [i0, i1, i2, i3, i4, i5, i6, i7, i8, i9, i10, i11, i12].getD k (fun _ => 0))) (fun k => [a0, a1, a2, a3, a4].getD k 0) s := by
    refine ⟨⟨fun k q hq => ?_, fun k q hq => ?_⟩, fun q hq => ?_, fun q hq => ?_⟩
    · match k, hq with
      | 0, hq => cases hq; exact k0
      | 1, hq => cases hq; exact k1
      | 2, hq => cases hq; exact k2
      | 3, hq => cases hq; exact k3
      | 4, hq => cases hq; exact k4
      | 5, hq => cases hq; exact k5
      | 6, hq => cases hq; exact k6
      | 7, hq => cases hq; exact k7
      | 8, hq => cases hq; exact k8
      | 9, hq => cases hq; exact k9
      | 10, hq => cases hq; exact k10
      | 11, hq => cases hq; exact k11
      | 12, hq => cases hq; exact k12
      | k + 13, hq => simp [vwCl] at hq
    · match k, hq with
      | 0, hq => cases hq; exact ⟨q0, r0⟩
      | 1, hq => cases hq; exact ⟨q1, r1⟩
      | 2, hq => cases hq; exact ⟨q2, r2⟩
      | 3, hq => cases hq; exact ⟨q3, r3⟩
      | 4, hq => cases hq; exact ⟨q4, r4⟩
      | k + 5, hq => simp [gT] at hq
    · exact va_Nw.of rfl (hts _ ((by decide +kernel : ∀ q ∈ nestF, Cond.fieldLinkNest q.1 q.2.1 q.2.2.1 q.2.2.2.1 q.2.2.2.2.1 q.2.2.2.2.2 ∈ lw_tbl) q hq))
    · exact va_Nw.of rfl (hts _ ((by decide +kernel : ∀ q ∈ nestM, Cond.methodLinkNest q.1 q.2.1 q.2.2.1 q.2.2.2 ∈ lw_tbl) q hq))
  refine ⟨_, _, ⟨hK, fun E hE => va_AO.of (hts _ ((by decide +kernel : ∀ E ∈ aoN, Cond.arrayOver (.object E) ∈ lw_tbl) E hE)), fun E hE => va_Nw.of rfl (hts _ ((by decide +kernel : ∀ E ∈ lyN, Cond.castable E "SaidInWinter$Layer" ∈ lw_tbl) E hE))⟩, ⟨hK, Vm.Alike.refl _, fun q hq => ?_, fun E hE => va_Nw.of rfl (hts _ ((by decide +kernel : ∀ E ∈ [eIS, eIA, eUO], Cond.castable E E ∈ lw_tbl) E hE)), fun y hy => va_Nw.of rfl (hts _ ((by decide +kernel : ∀ y ∈ decX, Cond.declares y ∈ lw_tbl) y hy)), fun q hq => va_Nc.of (hf _ ((by decide +kernel : ∀ q ∈ ncX, Cond.not (.castable q.1 q.2) ∈ flatC (Jvm.Cond.and given_1 narrow_1)) q hq))⟩, ?_, ?_⟩
  · have h1 := hts _ ((by decide +kernel : ∀ q ∈ strX, Cond.stringRef q.1 q.2.1 q.2.2 ∈ lw_tbl) q hq)
    have hc : ∃ cur : Nat, s.vm.findClass q.1 = some cur := by
      have hm : q.1 = RX11 ∨ q.1 = RX1 ∨ q.1 = RX7 ∨ q.1 = RX8 := (by decide +kernel : ∀ q ∈ strX, q.1 = RX11 ∨ q.1 = RX1 ∨ q.1 = RX7 ∨ q.1 = RX8) q hq
      rcases hm with e | e | e | e
      · rw [e]; exact ⟨_, k11.2.1⟩
      · rw [e]; exact ⟨_, k1.2.1⟩
      · rw [e]; exact ⟨_, k7.2.1⟩
      · rw [e]; exact ⟨_, k8.2.1⟩
    obtain ⟨cur, hc⟩ := hc
    obtain ⟨_, _, _, sa, -, -, -, -, -, h2⟩ := Cond.stringRef_spec hc h1
    exact ⟨sa, vk_R.of h1 h2⟩
  · exact vx_Zqof (hts _ (by decide +kernel)) (hts _ (by decide +kernel)) (hf _ (by decide +kernel)) (fun q hq => Nat.not_le.mpr hq)
  · exact vx_Zqof (hts _ (by decide +kernel)) (hts _ (by decide +kernel)) (hf _ (by decide +kernel)) (fun q hq => Nat.not_le.mpr hq)
