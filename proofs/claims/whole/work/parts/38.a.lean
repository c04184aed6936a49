/-! ===== what is drawn; the order ===== -/
def dr (s : Int32) : Int32 := s * 1103515245 + 12345
def dv (n : Nat) (s : Int32) : Nat := ((s.toBitVec.toNat &&& 2147483647) / 65536) % n
theorem zI_raw (s : Int32) : s = zI ((s.toBitVec.toNat : Nat) : Int) := by
  apply Int32.toBitVec.inj
  show s.toBitVec = BitVec.ofInt 32 (s.toBitVec.toNat : Int)
  simp
theorem dv_is (s : Int32) {n : Nat} (h1 : 1 ≤ n) (h2 : n ≤ 1000) : ((s &&& 2147483647) / 65536) - ((s &&& 2147483647) / 65536) / zI n * zI n = zI (dv n s) := by
  have e : s &&& 2147483647 = zI ((s.toBitVec.toNat &&& 2147483647 : Nat) : Int) := by
    conv => lhs; rw [zI_raw s]
    rw [show (2147483647 : Int32) = zI ((2147483647 : Nat) : Int) from rfl, zI_and]
  have hb : s.toBitVec.toNat &&& 2147483647 ≤ 2147483647 := Nat.and_le_right
  unfold dv
  rw [e]
  generalize s.toBitVec.toNat &&& 2147483647 = a at hb
  rw [show (65536 : Int32) = zI ((65536 : Nat) : Int) from rfl, zI_div (by omega) (by omega) (by omega), zI_div (by omega) (by omega) (by omega), zI_mul, zI_sub]
  refine zI_c ?_
  have hm := Nat.div_add_mod (a / 65536) n
  have hc : ((a / 65536 / n : Nat) : Int) * (n : Int) = ((n * (a / 65536 / n) : Nat) : Int) := by rw [Nat.mul_comm]; simp
  rw [hc]
  omega
theorem dv_lt (s : Int32) {n : Nat} (h1 : 1 ≤ n) : dv n s < n := Nat.mod_lt _ (by omega)
/-- so many things drawn -/
def seS : Nat → LK → Int32 → LK × Int32
  | 0, L, s => (L, s)
  | r + 1, L, s =>
    if dv 4 (dr s) = 2 then seS r (thL L 1).2 (dr s) else if dv 4 (dr s) = 3 then seS r (wiL L).2 (dr s) else
      seS r (fzL L (dv 6 (dr (dr s))) (dv 8 (dr (dr (dr s)))) (dv 10 (dr (dr (dr (dr s))))) ((dv 9 (dr (dr (dr (dr (dr s))))) : Nat) + 1 : Int)).2 (dr (dr (dr (dr (dr s)))))
def aSeeded (A : AS) (n s : Int) : Int := if 1 ≤ n ∧ n ≤ 40 then icL (seS n.toNat A.1 (zI s)).1 else -1
section ASD
variable {x x' : XS} {A : AS} {L : LK} {S : SH}
theorem s_draw {s : Int32} (hs : x.1 0 8 = s) {n : Nat} (h1 : 1 ≤ n) (h2 : n ≤ 1000) {Q : Int32 → XS → Prop} (hq : Q (zI (dv n (dr s))) (xI x 0 8 (dr s))) : wp_X11_drawBelow x (zI n) Q := by
  rintro x1 rfl
  rw [hs]
  have e : (xI x 0 8 (s * 1103515245 + 12345)).1 0 8 = dr s := by simp [xI]; rfl
  rw [e, show (1 : Int32) = zI (1 : Nat) from rfl, zI_le (by omega) (by omega) (by omega) (by omega)]
  refine ⟨fun _ => ⟨?_, ?_⟩, fun z => absurd (by omega) z⟩
  · rw [show (0 : Int32) = zI 0 from rfl, zI_eq (by omega) (by omega) (by omega) (by omega)]; omega
  · rw [dv_is _ h1 h2]; exact hq
theorem lX_seed (h : lX x 117 L) (v : Int32) : lX (xI x 0 8 v) 117 L := wLX_on h (fun i k _ _ => by simp only [xI]; rw [if_neg (by omega)]) (fun _ _ _ => rfl) (fun _ _ _ => rfl)
theorem xI_08 (x : XS) (v : Int32) : (xI x 0 8 v).1 0 8 = v := by simp [xI]
theorem seed_G {s : Int32} (hs : x.1 0 8 = s) (hG : XG x x' 117) : x'.1 0 8 = s := (hG.1 0 8 (by omega)).trans hs
theorem x_seeded (h : XR x A) {n s : Int} (h1 : -2147483648 ≤ n) (h2 : n < 2147483648) {Q : Int32 → XS → Prop} (hq : ∀ x', XR x' A → Q (zI (aSeeded A n s)) x') : wp_X11_seeded x (zI n) (zI s) Q := by
  unfold aSeeded at hq
  refine s_within (a := 1) (b := 40) h1 h2 (by omega) (by omega) (by omega) (by omega) (fun z => ⟨fun _ => ?_, fun q => absurd q (by decide)⟩) (fun z => ⟨fun q => absurd rfl q, fun _ => by rw [if_neg (by omega)] at hq; exact hq x h⟩)
  rw [if_pos z] at hq
  obtain ⟨n, rfl⟩ : ∃ j : Nat, n = j := ⟨n.toNat, by omega⟩
  refine s_takeAll xk_117 xk_29 (by omega) h.2.1 h.1.2 h.1.1 (fun x2 hl hG => ?_)
  rintro x3 rfl
  simp only [Int.toNat_natCast] at hq
  refine ⟨fun y4 x5 => ∃ (k r : Nat) (L : LK) (s' : Int32), k + r = n ∧ y4 = zI k ∧ x5.1 0 8 = s' ∧ lX x5 117 L ∧ lO L ∧ XR x5 A ∧ seS n A.1 (zI s) = seS r L s', fun y4 _ => 1000 - y4.toInt.toNat, ⟨0, n, A.1, zI s, by omega, rfl, xI_08 _ _, lX_seed hl _, h.1.2, XR_seed (XR_117 h hG hl.1) _, rfl⟩, ?_⟩
  rintro y4 x5 ⟨k, r, L, s', hk, rfl, hs, h5, ok, hR, he⟩
  rw [he] at hq
  rw [zI_le (by omega) (by omega) (by omega) (by omega)]
  refine ⟨fun c => ?_, fun c => ?_⟩
  · have e : r = 0 := by omega
    subst e
    exact s_allIce xk_117 ok h5 (hq x5 hR)
  obtain ⟨r, rfl⟩ : ∃ j, r = j + 1 := ⟨r - 1, by omega⟩
  have e1 : zI (k : Int) + 1 = zI ((k + 1 : Nat) : Int) := zI_p1 k
  rw [e1, show (4 : Int32) = zI (4 : Nat) from rfl]
  refine s_draw hs (by omega) (by omega) ?_
  have hd := dv_lt (dr s') (n := 4) (by omega)
  have R1 := XR_seed hR (dr s')
  have l1 := lX_seed h5 (dr s')
  have nx : ∀ (x9 : XS) (L' : LK) (s9 : Int32), x9.1 0 8 = s9 → lX x9 117 L' → lO L' → XR x9 A → seS (r + 1) L s' = seS r L' s9 → (∃ (k_1 r : Nat) (L : LK) (s' : Int32), k_1 + r = n ∧ zI ((k + 1 : Nat) : Int) = zI k_1 ∧ x9.1 0 8 = s' ∧ lX x9 117 L ∧ lO L ∧ XR x9 A ∧ seS n A.1 (zI s) = seS r L s') ∧ 1000 - (zI ((k + 1 : Nat) : Int)).toInt.toNat < 1000 - (zI (k : Int)).toInt.toNat := fun x9 L' s9 g1 g2 g3 g4 g5 =>
    ⟨⟨k + 1, r, L', s9, by omega, rfl, g1, g2, g3, g4, he.trans g5⟩, mux 1000 (by omega) (by omega) (by omega)⟩
  unfold wp_X11_happen
  rw [show (2 : Int32) = zI 2 from rfl, show (3 : Int32) = zI 3 from rfl, zI_eq (by omega) (by omega) (by omega) (by omega), zI_eq (by omega) (by omega) (by omega) (by omega)]
  refine ⟨fun c2 => ⟨fun c3 => ?_, fun c3 => ?_⟩, fun c2 => ?_⟩
  · unfold wp_X11_freezeDrawn
    rw [show (6 : Int32) = zI (6 : Nat) from rfl, show (8 : Int32) = zI (8 : Nat) from rfl, show (10 : Int32) = zI (10 : Nat) from rfl, show (9 : Int32) = zI (9 : Nat) from rfl]
    refine s_draw (xI_08 _ _) (by omega) (by omega) (s_draw (xI_08 _ _) (by omega) (by omega) (s_draw (xI_08 _ _) (by omega) (by omega) (s_draw (xI_08 _ _) (by omega) (by omega) ?_)))
    have b1 := dv_lt (dr (dr s')) (n := 6) (by omega)
    have b2 := dv_lt (dr (dr (dr s'))) (n := 8) (by omega)
    have b3 := dv_lt (dr (dr (dr (dr s')))) (n := 10) (by omega)
    have b4 := dv_lt (dr (dr (dr (dr (dr s'))))) (n := 9) (by omega)
    rw [show (1 : Int32) = zI 1 from rfl, zI_add]
    have R5 := XR_seed (XR_seed (XR_seed (XR_seed R1 (dr (dr s'))) (dr (dr (dr s')))) (dr (dr (dr (dr s'))))) (dr (dr (dr (dr (dr s')))))
    have l5 := lX_seed (lX_seed (lX_seed (lX_seed l1 (dr (dr s'))) (dr (dr (dr s')))) (dr (dr (dr (dr s'))))) (dr (dr (dr (dr (dr s')))))
    refine s_fz xk_117 ok l5 (by omega) (by omega) (by omega) (by omega) (by omega) (by omega) (by omega) (by omega) (fun x9 h9 hG9 => ?_)
    refine nx x9 _ _ (seed_G (xI_08 _ _) hG9) h9 (lO_fz ok _ _ _ _) (XR_117 R5 hG9 h9.1) ?_
    simp only [seS]; rw [if_neg (by omega), if_neg (by omega)]
  · refine s_wi xk_117 ok l1 (fun x9 h9 hG9 => ?_)
    refine nx x9 _ _ (seed_G (xI_08 _ _) hG9) h9 (lO_wi ok) (XR_117 R1 hG9 h9.1) ?_
    simp only [seS]; rw [if_neg (by omega), if_pos (by omega)]
  · rw [show (1 : Int32) = zI 1 from rfl]
    refine s_th xk_117 ok l1 (by omega) (by omega) (fun x9 h9 hG9 => ?_)
    refine nx x9 _ _ (seed_G (xI_08 _ _) hG9) h9 (lO_th ok 1) (XR_117 R1 hG9 h9.1) ?_
    simp only [seS]; rw [if_pos (by omega)]
noncomputable def AHm (L : LK) (o : Nat) : Nat := mskO (ahL L.2.1 L.2.2.2.1 6 o) 10
noncomputable def allM (L : LK) : Nat := mskO (isO L.2.1 L.2.2.2.1 6) 10
/-- the least oath of rem, from o on, with none of rem ahead -/
noncomputable def nxS (L : LK) (rem : Nat) : Nat → Nat → Option Nat
  | 0, _ => none
  | r + 1, o => if rem.testBit o = true ∧ AHm L o &&& rem = 0 then some o else nxS L rem r (o + 1)
noncomputable def ordS (L : LK) : Nat → Nat → Int → Int → Option (Int × Int)
  | 0, _, _, _ => none
  | r + 1, rem, a, b => if rem = 0 then some (a, b) else match nxS L rem 10 0 with
    | none => none
    | some o => ordS L r (msL rem (2 ^ o)) (if a < 0 then (o : Int) else a) o
theorem nxS_b (L : LK) (rem : Nat) : ∀ r o k, nxS L rem r o = some k → o ≤ k ∧ k < o + r ∧ rem.testBit k = true
  | 0, o, k, h => by simp [nxS] at h
  | r + 1, o, k, h => by
    unfold nxS at h
    split at h
    · rename_i c
      simp only [Option.some.injEq] at h
      subst h; exact ⟨by omega, by omega, c.1⟩
    · have := nxS_b L rem r (o + 1) k h
      exact ⟨by omega, by omega, this.2.2⟩
theorem allM_b (L : LK) : allM L < 1024 := mskO_b _
theorem AHm_sub (ok : lO L) {o j : Nat} (h : (AHm L o).testBit j = true) : (allM L).testBit j = true ∧ j < 10 := by
  obtain ⟨h1, c, hc, _, i, hi, _, k, hk, ek⟩ := (mskO_bit _ j).mp h
  exact ⟨(mskO_bit _ j).mpr ⟨h1, c, k, hc, by omega, ek⟩, h1⟩
theorem ah_eq (ok : lO L) (o k : Nat) : msL (AHm L o) k = AHm L o &&& msL (allM L) k := by
  apply Nat.eq_of_testBit_eq
  intro j
  rw [Nat.testBit_and]
  by_cases hj : j < 32
  · rw [msL_bit hj, msL_bit hj]
    cases hA : (AHm L o).testBit j
    · rfl
    · rw [(AHm_sub ok hA).1]; simp
  · have hA : (AHm L o).testBit j = false := by
      cases hA : (AHm L o).testBit j
      · rfl
      · have := (AHm_sub ok hA).2; omega
    have hM : (msL (AHm L o) k).testBit j = false := by unfold msL; rw [Nat.testBit_and, hA]; rfl
    rw [hM, hA]; rfl
theorem s_leastNext (ok : lO L) {k : Nat} (hx : ∀ o, o < 10 → x.2.1 28 o = zI (AHm L o)) {Q : Int32 → Prop} (hq : Q (zI (match nxS L (msL (allM L) k) 10 0 with | none => -4 | some o => (o : Int)))) : wp_X11_leastNext x (zI (allM L)) (zI k) Q := by
  unfold wp_X11_leastNext
  rw [zI_msL]
  have hb := allM_b L
  have hle := msL_le (allM L) k
  refine ⟨fun y => ∃ o r : Nat, o + r = 10 ∧ y = zI o ∧ nxS L (msL (allM L) k) 10 0 = nxS L (msL (allM L) k) r o, fun y => 1000 - y.toInt.toNat, ⟨0, 10, by omega, rfl, rfl⟩, ?_⟩
  rintro y ⟨o, r, ho, rfl, he⟩
  rw [he] at hq
  rw [show (10 : Int32) = zI 10 from rfl, zI_le (by omega) (by omega) (by omega) (by omega)]
  refine ⟨fun c => ?_, fun c => ?_⟩
  · have e : r = 0 := by omega
    subst e; exact hq
  obtain ⟨r, rfl⟩ : ∃ j, r = j + 1 := ⟨r - 1, by omega⟩
  have e1 : zI (o : Int) + 1 = zI ((o + 1 : Nat) : Int) := zI_p1 o
  rw [zI_bit (by omega) (by omega), e1, zI_clN (by omega), hx o (by omega), zI_msL, show (0 : Int32) = zI 0 from rfl]
  have hA : AHm L o < 1024 := mskO_b _
  have hle2 := msL_le (AHm L o) k
  rw [zI_eq (by omega) (by omega) (by omega) (by omega), ah_eq ok]
  have nx : ¬ ((msL (allM L) k).testBit o = true ∧ AHm L o &&& msL (allM L) k = 0) → (∃ o_1 r : Nat, o_1 + r = 10 ∧ zI ((o + 1 : Nat) : Int) = zI o_1 ∧ nxS L (msL (allM L) k) 10 0 = nxS L (msL (allM L) k) r o_1) ∧ 1000 - (zI ((o + 1 : Nat) : Int)).toInt.toNat < 1000 - (zI (o : Int)).toInt.toNat := fun z =>
    ⟨⟨o + 1, r, by omega, rfl, by rw [he]; conv => lhs; unfold nxS
                                  rw [if_neg z]⟩, mux 1000 (by omega) (by omega) (by omega)⟩
  refine ⟨fun c2 => nx (fun z => c2 z.1), fun c2 => ⟨zI_in (by omega) (by omega) (by omega), fun c3 => nx (fun z => c3 (by rw [z.2]; rfl)), fun c3 => ?_⟩⟩
  unfold nxS at hq
  rw [if_pos ⟨c2, by omega⟩] at hq
  exact hq
theorem pc0 : ∀ m, m < 1024 → (pc m = 0 ↔ m = 0) := by decide +kernel
theorem pc1 : ∀ m, m < 1024 → ∀ o, o < 10 → m.testBit o = true → pc (msL m (2 ^ o)) + 1 = pc m := by decide +kernel
theorem msL_two {a k o : Nat} (ha : a < 1024) : msL a (k ||| 2 ^ o) = msL (msL a k) (2 ^ o) := by
  apply Nat.eq_of_testBit_eq
  intro j
  by_cases hj : j < 32
  · rw [msL_bit hj, msL_bit hj, msL_bit hj, Nat.testBit_or]
    cases a.testBit j <;> cases k.testBit j <;> cases (2 ^ o).testBit j <;> rfl
  · have h1 : a.testBit j = false := Nat.testBit_lt_two_pow (Nat.lt_of_lt_of_le (show a < 2 ^ 10 from ha) (show (2 : Nat) ^ 10 ≤ 2 ^ j from Nat.pow_le_pow_right (by omega) (by omega)))
    unfold msL
    rw [Nat.testBit_and, Nat.testBit_and, Nat.testBit_and, h1]; rfl
theorem msL_0 {a : Nat} (ha : a < 1024) : msL a 0 = a := by
  apply Nat.eq_of_testBit_eq
  intro j
  by_cases hj : j < 32
  · rw [msL_bit hj]; simp
  · have h1 : a.testBit j = false := Nat.testBit_lt_two_pow (Nat.lt_of_lt_of_le (show a < 2 ^ 10 from ha) (show (2 : Nat) ^ 10 ≤ 2 ^ j from Nat.pow_le_pow_right (by omega) (by omega)))
    unfold msL
    rw [Nat.testBit_and, h1]; rfl
noncomputable def aOrder (A : AS) (w : Int) : Int :=
  if 0 ≤ w ∧ w ≤ 1 then (match ordS A.1 11 (allM A.1) (-4) (-4) with | none => -4 | some p => if w = 0 then p.1 else p.2) else -1
end ASD
