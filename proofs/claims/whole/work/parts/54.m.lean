/-! ===== the reference's answers (9): kept, copied, judged, seeded ===== -/
section MSC
variable {m m' : MS} {A : AS} {L : LK} {S : SH}
theorem y_keep (h : MR m A) {d w k o : Int} (h1 : -2147483648 ≤ d) (h2 : d < 2147483648) (h3 : -2147483648 ≤ w) (h4 : w < 2147483648) (h5 : -2147483648 ≤ k) (h6 : k < 2147483648) (h7 : -2147483648 ≤ o) (h8 : o < 2147483648) {Q : Int32 → MS → Prop} (hq : ∀ x', MR x' (aKeep A d w k o).2 → Q (zI (aKeep A d w k o).1) x') : wp_X12_keep m (zI d) (zI w) (zI k) (zI o) Q := by
  intro x1 e1
  have h' : MR x1 A := by rw [e1]; exact MR_6 h 0
  unfold aKeep at hq
  rw [show (0 : Int64) = lJ 0 from rfl, show (7 : Int64) = lJ 7 from rfl, show (1 : Int64) = lJ 1 from rfl, show (9 : Int64) = lJ 9 from rfl]
  refine s_in h1 h2 (by omega) (by omega) (by omega) (by omega) (fun z => ⟨fun q => absurd q (by decide), fun _ => ?_⟩) (fun z => ⟨fun _ => by rw [if_neg (by omega)] at hq; exact hq _ h', fun q => absurd rfl q⟩)
  rw [if_pos (by omega)] at hq
  refine s_in h3 h4 (by omega) (by omega) (by omega) (by omega) (fun z2 => ⟨fun q => absurd q (by decide), fun _ => ?_⟩) (fun z2 => ⟨fun _ => by rw [if_neg (by omega), if_neg (by omega)] at hq; exact hq _ h', fun q => absurd rfl q⟩)
  obtain ⟨d, rfl⟩ : ∃ j : Nat, d = j := ⟨d.toNat, by omega⟩
  have v8 : vp_in (zI (d : Int)) 8 := zI_in (by omega) (by omega) (by omega)
  obtain ⟨hS, ok⟩ := h'.2.2 d (by omega)
  rw [zI_clN (by omega), show (1 : Int32) = zI 1 from rfl, zI_eq h3 h4 (by omega) (by omega)]
  refine ⟨fun c1 => ⟨v8, fun x4 e4 => ⟨fun _ => ⟨v8, fun x5 e5 => ⟨fun _ => ⟨v8, fun x6 e6 => ?_⟩, fun c2 => absurd c2 c1⟩⟩, fun c2 => absurd c2 c1⟩⟩, fun c1 => ?_⟩
  · rw [if_neg c1, if_pos (by omega)] at hq
    have ew : w = 0 := by omega
    have g : x6.2.1 11 d = zI 0 := by rw [e6, e5, e4, ew]; simp [mA, va_up, upd]
    have M4 : MSf x1 x4 d := by rw [e4]; exact MSf_A x1 (by omega) _
    have M5 : MSf x4 x5 d := by rw [e5]; exact MSf_A x4 (by omega) _
    have M6 : MSf x5 x6 d := by rw [e6]; exact MSf_A x5 (by omega) _
    exact hq x6 (MR_sh h' (j := d) (S := (0, (A.2.2 d).2)) ⟨g, fun z => absurd (show (0 : Nat) = 1 from z) (by decide), fun z => absurd (show (0 : Nat) = 2 from z) (by decide)⟩ ⟨by show 0 ≤ 2; omega, ok.2⟩ (MSf_tr M4 (MSf_tr M5 M6)))
  · rw [if_pos c1] at hq
    refine s_in h5 h6 (by omega) (by omega) (by omega) (by omega) (fun z3 => ⟨fun q => absurd q (by decide), fun _ => ?_⟩) (fun z3 => ⟨fun _ => by rw [if_neg (by omega)] at hq; exact hq _ h', fun q => absurd rfl q⟩)
    refine s_in h7 h8 (by omega) (by omega) (by omega) (by omega) (fun z4 => ⟨fun _ => ⟨v8, fun x4 e4 => ⟨fun q => absurd c1 q, fun _ => ⟨v8, fun x5 e5 => ⟨fun q => absurd c1 q, fun _ => ⟨v8, fun x6 e6 => ?_⟩⟩⟩⟩⟩, fun q => absurd q (by decide)⟩) (fun z4 => ⟨fun q => absurd rfl q, fun _ => by rw [if_neg (by omega)] at hq; exact hq _ h'⟩)
    rw [if_pos (by omega)] at hq
    obtain ⟨k, rfl⟩ : ∃ j : Nat, k = j := ⟨k.toNat, by omega⟩
    obtain ⟨o, rfl⟩ : ∃ j : Nat, o = j := ⟨o.toNat, by omega⟩
    have g : x6.2.1 11 d = zI 1 ∧ x6.2.1 12 d = zI (k : Int) ∧ x6.2.1 13 d = zI (o : Int) := by
      rw [e6, e5, e4, c1]; refine ⟨?_, ?_, ?_⟩ <;> simp [mA, va_up, upd]
    have M4 : MSf x1 x4 d := by rw [e4]; exact MSf_A x1 (by omega) _
    have M5 : MSf x4 x5 d := by rw [e5]; exact MSf_A x4 (by omega) _
    have M6 : MSf x5 x6 d := by rw [e6]; exact MSf_A x5 (by omega) _
    exact hq x6 (MR_sh h' (j := d) (S := (1, k, o, shT (shG A d), shN (shG A d), shE (shG A d))) ⟨g.1, fun _ => g.2, fun z => absurd (show (1 : Nat) = 2 from z) (by decide)⟩ ⟨by show 1 ≤ 2; omega, by show k < 8; omega, by show o < 10; omega, ok.2.2.2⟩ (MSf_tr M4 (MSf_tr M5 M6)))
theorem aN (a b : Nat) : zI (a : Int) + zI (b : Int) = zI ((a + b : Nat) : Int) := by rw [zI_add]; exact zI_c (by omega)
theorem MK_J17 (m : MS) (f : Nat → Int64) : MK m (mJ m 17 f) := ⟨rfl, rfl, fun _ _ _ => rfl, by simp only [mJ, va_up]; rfl⟩
theorem y_copy (h : MR m A) {d p e q n : Int} (h1 : -2147483648 ≤ d) (h2 : d < 2147483648) (h3 : -2147483648 ≤ p) (h4 : p < 2147483648) (h5 : -2147483648 ≤ e) (h6 : e < 2147483648) (h7 : -2147483648 ≤ q) (h8 : q < 2147483648) (h9 : -2147483648 ≤ n) (h10 : n < 2147483648) {Q : Int32 → MS → Prop} (hq : ∀ x', MR x' (aCopy A d p e q n).2 → Q (zI (aCopy A d p e q n).1) x') : wp_X12_copy m (zI d) (zI p) (zI e) (zI q) (zI n) Q := by
  intro x1 e1
  have h' : MR x1 A := by rw [e1]; exact MR_6 h 0
  unfold aCopy at hq
  rw [show (0 : Int64) = lJ 0 from rfl, show (7 : Int64) = lJ 7 from rfl]
  refine s_in h1 h2 (by omega) (by omega) (by omega) (by omega) (fun z => ⟨fun q => absurd q (by decide), fun _ => ?_⟩) (fun z => ⟨fun _ => by rw [if_neg (by omega)] at hq; exact hq _ h', fun q => absurd rfl q⟩)
  refine s_in h5 h6 (by omega) (by omega) (by omega) (by omega) (fun z2 => ⟨fun _ => ?_, fun q => absurd q (by decide)⟩) (fun z2 => ⟨fun q => absurd rfl q, fun _ => by rw [if_neg (by omega)] at hq; exact hq _ h'⟩)
  rw [if_pos (by omega)] at hq
  obtain ⟨d, rfl⟩ : ∃ j : Nat, d = j := ⟨d.toNat, by omega⟩
  obtain ⟨e, rfl⟩ : ∃ j : Nat, e = j := ⟨e.toNat, by omega⟩
  have vd : vp_in (zI (d : Int)) 8 := zI_in (by omega) (by omega) (by omega)
  have ve : vp_in (zI (e : Int)) 8 := zI_in (by omega) (by omega) (by omega)
  obtain ⟨hS, ok⟩ := h'.2.2 d (by omega)
  obtain ⟨hS2, ok2⟩ := h'.2.2 e (by omega)
  rw [show shG A (d : Int) = A.2.2 d from rfl, show shG A (e : Int) = A.2.2 e from rfl] at hq
  have b1 := ok.1
  have b2 := ok2.1
  have b3 := ok.2.2.2.1
  have b4 := ok2.2.2.2.1
  have b5 := ok.2.2.2.2.1
  have b6 := ok2.2.2.2.2.1
  rw [zI_clN (a := d) (by omega), zI_clN (a := e) (by omega), hS.1, hS2.1, show (0 : Int32) = zI 0 from rfl, show (2 : Int32) = zI 2 from rfl, zI_eq (a := (shH (A.2.2 d) : Int)) (b := 0) (by omega) (by omega) (by omega) (by omega), zI_eq (a := (shH (A.2.2 e) : Int)) (b := 0) (by omega) (by omega) (by omega) (by omega), zI_eq (a := (shH (A.2.2 d) : Int)) (b := 2) (by omega) (by omega) (by omega) (by omega), zI_eq (a := (shH (A.2.2 e) : Int)) (b := 2) (by omega) (by omega) (by omega) (by omega)]
  refine ⟨vd, fun c => by rw [if_pos (by omega)] at hq; exact hq _ h', fun c => ⟨ve, fun c2 => ?_, fun c2 => by rw [if_pos (by omega)] at hq; exact hq _ h'⟩⟩
  rw [if_neg (by omega)] at hq
  refine ⟨vd, fun c3 => by rw [if_pos (by omega)] at hq; exact hq _ h', fun c3 => ⟨ve, fun c4 => by rw [if_pos (by omega)] at hq; exact hq _ h', fun c4 => ?_⟩⟩
  obtain ⟨t1, n1, E1⟩ := hS.2.2 (by omega)
  obtain ⟨t2, n2, E2⟩ := hS2.2.2 (by omega)
  rw [t1, t2, n1, n2, zI_eq (a := (shT (A.2.2 d) : Int)) (by omega) (by omega) (by omega) (by omega)]
  refine ⟨vd, ve, fun c5 => ?_, fun c5 => by rw [if_pos (by omega)] at hq; exact hq _ h'⟩
  rw [if_neg (by omega)] at hq
  rw [zI_lt (a := n) (by omega) (by omega) (by omega) (by omega), zI_lt (a := p) (by omega) (by omega) (by omega) (by omega), zI_lt (a := q) (by omega) (by omega) (by omega) (by omega)]
  refine ⟨fun c6 => by rw [if_neg (by omega)] at hq; exact hq _ h', fun c6 => ⟨fun c7 => by rw [if_neg (by omega)] at hq; exact hq _ h', fun c7 => ⟨fun c8 => by rw [if_neg (by omega)] at hq; exact hq _ h', fun c8 => ⟨vd, ?_⟩⟩⟩⟩
  rw [zI_sub, zI_lt (by omega) (by omega) (by omega) (by omega)]
  refine ⟨fun c9 => by rw [if_neg (by omega)] at hq; exact hq _ h', fun c9 => ⟨ve, ?_⟩⟩
  rw [zI_sub, zI_le (by omega) (by omega) (by omega) (by omega)]
  refine ⟨fun c10 => ?_, fun c10 => by rw [if_neg (by omega)] at hq; exact hq _ h'⟩
  rw [if_pos (by omega)] at hq
  obtain ⟨p, rfl⟩ : ∃ j : Nat, p = j := ⟨p.toNat, by omega⟩
  obtain ⟨q, rfl⟩ : ∃ j : Nat, q = j := ⟨q.toNat, by omega⟩
  obtain ⟨n, rfl⟩ : ∃ j : Nat, n = j := ⟨n.toNat, by omega⟩
  simp only [Int.toNat_natCast] at hq
  refine ⟨fun y4 x5 => ∃ k : Nat, k ≤ n ∧ y4 = zI k ∧ MK x1 x5 ∧ LM x5 A.1 ∧ ∀ a, a < k → x5.2.2.1 17 a = lJ (shE (A.2.2 d) (p + a)), fun y4 _ => 1000 - y4.toInt.toNat, ⟨0, by omega, rfl, MK_rf x1, h'.1.1, fun a ha => absurd ha (by omega)⟩, ?_⟩
  rintro y4 x5 ⟨k, hk, rfl, hK, hL, hb⟩
  rw [zI_le (by omega) (by omega) (by omega) (by omega)]
  refine ⟨fun c11 => ?_, fun c11 => ?_⟩
  · have ek : k = n := by omega
    subst ek
    have h5 : MR x5 A := MR_L h' hK hL h'.1.2
    obtain ⟨hS5, _⟩ := h5.2.2 e (by omega)
    obtain ⟨t5, n5, E5⟩ := hS5.2.2 (by omega)
    refine ⟨fun y6 x7 => ∃ j : Nat, j ≤ k ∧ y6 = zI j ∧ MSf x5 x7 e ∧ x7.2.1 = x5.2.1 ∧ x7.2.2.1 17 = x5.2.2.1 17 ∧ ∀ b, b < 100 → x7.2.2.1 16 (100 * e + b) = lJ (cpE (shE (A.2.2 d)) (shE (A.2.2 e)) p q j b), fun y6 _ => 1000 - y6.toInt.toNat, ⟨0, by omega, rfl, MSf_rf x5 e, rfl, rfl, fun b hb => ?_⟩, ?_⟩
    · rw [E5 b hb]; unfold cpE; rw [if_neg (by omega)]
    rintro y6 x7 ⟨j, hj, rfl, hM, r1, r2, r3⟩
    rw [zI_le (by omega) (by omega) (by omega) (by omega)]
    refine ⟨fun c12 => ?_, fun c12 => ?_⟩
    · have ej : j = k := by omega
      subst ej
      refine hq x7 (MR_sh h5 (j := e) (S := (shH (A.2.2 e), shK (A.2.2 e), shO (A.2.2 e), shT (A.2.2 e), shN (A.2.2 e), cpE (shE (A.2.2 d)) (shE (A.2.2 e)) p q j)) ⟨by rw [r1]; exact hS5.1, fun z => by rw [r1]; exact hS5.2.1 z, fun _ => ⟨by rw [r1]; exact t5, by rw [r1]; exact n5, r3⟩⟩ ⟨ok2.1, ok2.2.1, ok2.2.2.1, ok2.2.2.2.1, b6, fun b hb => ?_⟩ hM)
      show -2147483648 ≤ cpE (shE (A.2.2 d)) (shE (A.2.2 e)) p q j b ∧ cpE (shE (A.2.2 d)) (shE (A.2.2 e)) p q j b < 2147483648 ∧ (shT (A.2.2 e) = 0 → -128 ≤ cpE (shE (A.2.2 d)) (shE (A.2.2 e)) p q j b ∧ cpE (shE (A.2.2 d)) (shE (A.2.2 e)) p q j b ≤ 127) ∧ (shT (A.2.2 e) = 1 → -32768 ≤ cpE (shE (A.2.2 d)) (shE (A.2.2 e)) p q j b ∧ cpE (shE (A.2.2 d)) (shE (A.2.2 e)) p q j b ≤ 32767)
      have eT : shT (A.2.2 e) = shT (A.2.2 d) := by omega
      unfold cpE
      by_cases c : q ≤ b ∧ b < q + j
      · rw [if_pos c, eT]; exact ok.2.2.2.2.2 _ (by omega)
      · rw [if_neg c]; exact ok2.2.2.2.2.2 _ hb
    · have e16 : (zI (100 : Int) : Int32) * zI (e : Int) = zI ((100 * e : Nat) : Int) := by rw [zI_mul]; exact zI_c (by omega)
      rw [show (100 : Int32) = zI 100 from rfl, e16, aN, aN, zI_clN (a := j) (by omega), zI_clN (a := 100 * e + q + j) (by omega), zI_p1]
      refine ⟨zI_in (by omega) (by omega) (by omega), zI_in (by omega) (by omega) (by omega), fun x8 e8 => ⟨⟨j + 1, by omega, rfl, ?_, ?_, ?_, fun b hb' => ?_⟩, mux 1000 (by omega) (by omega) (by omega)⟩⟩
      · rw [e8]; exact MSf_tr hM (MSf_J x7 (by omega) _)
      · rw [e8]; exact r1
      · rw [e8]; simp only [mJ, va_up]; rw [if_neg (by omega)]; exact r2
      · rw [e8]
        simp only [mJ, va_up, vp_updL, if_true]
        by_cases eb : b = q + j
        · rw [if_pos (by omega), r2, hb j (by omega)]
          unfold cpE
          rw [if_pos (by omega), show b - q = j by omega]
        · rw [if_neg (by omega), r3 b hb']
          unfold cpE
          by_cases c : q ≤ b ∧ b < q + j
          · rw [if_pos c, if_pos (by omega)]
          · rw [if_neg c, if_neg (by omega)]
  · have e16 : (zI (100 : Int) : Int32) * zI (d : Int) = zI ((100 * d : Nat) : Int) := by rw [zI_mul]; exact zI_c (by omega)
    rw [show (100 : Int32) = zI 100 from rfl, e16, aN, aN, zI_clN (a := k) (by omega), zI_clN (a := 100 * d + p + k) (by omega), zI_p1]
    refine ⟨zI_in (by omega) (by omega) (by omega), zI_in (by omega) (by omega) (by omega), fun x10 e10 => ⟨⟨k + 1, by omega, rfl, ?_, ?_, fun a ha => ?_⟩, mux 1000 (by omega) (by omega) (by omega)⟩⟩
    · rw [e10]; exact MK_tr hK (MK_J17 x5 _)
    · rw [e10]; exact hL
    · rw [e10]
      simp only [mJ, va_up, vp_updL, if_true]
      by_cases ea : a = k
      · rw [if_pos ea, ea, hK.2.2.2, show 100 * d + p + k = 100 * d + (p + k) by omega, E1 (p + k) (by omega)]
      · rw [if_neg ea]; exact hb a (by omega)
theorem lgc0 {a b : Int} (h1 : -2147483648 ≤ a) (h2 : a < 2147483648) (h3 : -2147483648 ≤ b) (h4 : b < 2147483648) : lg_cmp (lJ a) (lJ b) = zI 0 ↔ a = b := by
  rw [lgc h1 h2 h3 h4, zI_eq (by split <;> (try split) <;> omega) (by split <;> (try split) <;> omega) (by omega) (by omega)]
  constructor
  · intro z
    split at z
    · omega
    · split at z
      · assumption
      · omega
  · intro z
    rw [if_neg (by omega), if_pos z]
theorem m_skipped {d : Nat} (hd : d < 8) (hT : shT S ≤ 2) (h : m.2.1 14 d = zI (shT S)) {Q : Int64 → Prop} (hq : Q (lJ (lstN (shT S)))) : wp_X12_skippedIn m (zI d) Q := by
  have v8 : vp_in (zI (d : Int)) 8 := zI_in (by omega) (by omega) (by omega)
  refine ⟨v8, ?_⟩
  rw [zI_clN (by omega), h, show (0 : Int32) = zI 0 from rfl, show (1 : Int32) = zI 1 from rfl, zI_eq (by omega) (by omega) (by omega) (by omega), zI_eq (by omega) (by omega) (by omega) (by omega)]
  unfold lstN at hq
  refine ⟨fun c => ⟨v8, fun c2 => ?_, fun c2 => ?_⟩, fun c => ?_⟩
  · rw [if_neg (by omega), if_neg (by omega)] at hq; exact hq
  · rw [if_neg (by omega), if_pos (by omega)] at hq; exact hq
  · rw [if_pos (by omega)] at hq; exact hq
theorem y_judge (h : MR m A) {d : Int} (h1 : -2147483648 ≤ d) (h2 : d < 2147483648) {Q : Int32 → MS → Prop} (hq : ∀ x', MR x' A → Q (zI (aJudge A d)) x') : wp_X12_judge m (zI d) Q := by
  intro x1 e1
  have h' : MR x1 A := by rw [e1]; exact MR_6 h 0
  have hq := hq x1 h'
  unfold aJudge at hq
  refine m_wrongRow h' h1 h2 ?_
  have hb := wrS_b A d 2
  rw [show (0 : Int32) = zI 0 from rfl, zI_le (by omega) (by omega) (by omega) (by omega)]
  refine ⟨fun c0 => ?_, fun c0 => ?_⟩
  · obtain ⟨hd, hl⟩ := wrS_0 c0
    rw [if_pos hd, if_pos hl] at hq
    obtain ⟨d, rfl⟩ : ∃ j : Nat, d = j := ⟨d.toNat, by omega⟩
    obtain ⟨hS, ok⟩ := h'.2.2 d (by omega)
    have hl' := lkS_0 hl
    rw [show shG A (d : Int) = A.2.2 d from rfl] at hl' hq
    obtain ⟨ht, hn, hE⟩ := hS.2.2 (by omega)
    have v8 : vp_in (zI (d : Int)) 8 := zI_in (by omega) (by omega) (by omega)
    have hN := ok.2.2.2.2.1
    generalize A.2.2 d = S at *
    refine ⟨fun y => ∃ c r : Nat, c + r = 6 ∧ y = zI c ∧ fwS A S 6 0 = fwS A S r c, fun y => 1000 - y.toInt.toNat, ⟨0, 6, by omega, rfl, rfl⟩, ?_⟩
    rintro y ⟨c, r, hc, rfl, he⟩
    rw [he] at hq
    rw [zI_clN (a := d) (by omega), hn, show (6 : Int32) = zI 6 from rfl, zI_le (a := 6) (b := (c : Int)) (by omega) (by omega) (by omega) (by omega), zI_le (a := 6) (b := (shN S : Int)) (by omega) (by omega) (by omega) (by omega), zI_le (a := (shN S : Int)) (b := 6) (by omega) (by omega) (by omega) (by omega), zI_le (a := (shN S : Int)) (b := (c : Int)) (by omega) (by omega) (by omega) (by omega)]
    have en : Q (zI (if shN S = 6 then -4 else ((min 6 (shN S) : Nat) : Int))) x1 → (vp_in (zI (d : Int)) 8 ∧ ((6 ≤ (shN S : Int) → (vp_in (zI (d : Int)) 8 ∧ (((shN S : Int) ≤ 6 → Q (-4) x1) ∧ (¬ (shN S : Int) ≤ 6 → Q (zI 6) x1)))) ∧ (¬ 6 ≤ (shN S : Int) → (vp_in (zI (d : Int)) 8 ∧ Q (zI (shN S)) x1)))) := fun hq => by
      refine ⟨v8, fun c => ⟨v8, fun c2 => ?_, fun c2 => ?_⟩, fun c => ⟨v8, ?_⟩⟩
      · rw [if_pos (by omega)] at hq; exact hq
      · rw [if_neg (by omega), show ((min 6 (shN S) : Nat) : Int) = 6 by omega] at hq; exact hq
      · rw [if_neg (by omega), show ((min 6 (shN S) : Nat) : Int) = (shN S : Int) by omega] at hq; exact hq
    refine ⟨fun c6 => en ?_, fun c6 => ⟨v8, fun c7 => en ?_, fun c7 => ?_⟩⟩
    · have e0 : r = 0 := by omega
      subst e0; exact hq
    · obtain ⟨r, rfl⟩ : ∃ j, r = j + 1 := ⟨r - 1, by omega⟩
      unfold fwS at hq; rw [if_pos (by omega)] at hq; exact hq
    · obtain ⟨r, rfl⟩ : ∃ j, r = j + 1 := ⟨r - 1, by omega⟩
      have ef : fwS A S (r + 1) c = if vlS S c = lstN (shT S) ∨ vlS S c = (sg (A.1.2.2.2.2.2 c) (A.1.2.1 c) : Nat) then fwS A S r (c + 1) else (c : Nat) := by
        show (if shN S ≤ c then _ else _) = _
        rw [if_neg (by omega)]
      rw [ef] at hq
      have ev : vlS S c = shE S c := by unfold vlS; rw [if_pos (by omega)]; rfl
      have nx : vlS S c = lstN (shT S) ∨ vlS S c = (sg (A.1.2.2.2.2.2 c) (A.1.2.1 c) : Nat) → (∃ c_1 r : Nat, c_1 + r = 6 ∧ zI ((c + 1 : Nat) : Int) = zI c_1 ∧ fwS A S 6 0 = fwS A S r c_1) ∧ 1000 - (zI ((c + 1 : Nat) : Int)).toInt.toNat < 1000 - (zI (c : Int)).toInt.toNat := fun z =>
        ⟨⟨c + 1, r, by omega, rfl, by rw [he, ef, if_pos z]⟩, mux 1000 (by omega) (by omega) (by omega)⟩
      have hv := vlS_b ok c
      have hls : -2147483648 ≤ lstN (shT S) ∧ lstN (shT S) < 2147483648 := by unfold lstN; split <;> (try split) <;> omega
      rw [a100, zI_clN (by omega), hE c (by omega), zI_p1 c]
      refine ⟨zI_in (by omega) (by omega) (by omega), m_skipped (by omega) ok.2.2.2.1 ht ?_⟩
      rw [← ev, lgc0 hv.1 hv.2 hls.1 hls.2]
      refine ⟨fun z => nx (Or.inl z), fun z => m_iceOf h'.1.2 h'.1.1 (by omega) ?_⟩
      have hsg := sgF (h'.1.2.2 c (by omega)) (Nat.le_refl _)
      rw [lJ_z (by omega) (by omega), lgc0 hv.1 hv.2 (by omega) (by omega)]
      refine ⟨fun z2 => nx (Or.inr z2), fun z2 => ?_⟩
      rw [if_neg (by rintro (q | q); exact z q; exact z2 q)] at hq; exact hq
  · have hd : wrS A d 2 < 0 := by omega
    unfold wrS at hd ⊢
    by_cases z3 : 0 ≤ d ∧ d ≤ 7
    · rw [if_pos z3] at hd ⊢
      rw [if_pos z3, if_neg (by omega)] at hq
      exact hq
    · rw [if_neg z3]
      rw [if_neg z3] at hq
      exact hq
theorem m_draw {s : Int32} (hs : m.1 21 = s) {n : Nat} (h1 : 1 ≤ n) (h2 : n ≤ 1000) {Q : Int32 → MS → Prop} (hq : Q (zI (dv n (dr s))) (mI m 21 (dr s))) : wp_X12_draw m (zI n) Q := by
  rintro x1 rfl
  rw [hs]
  have e : (mI m 21 (s * 1103515245 + 12345)).1 21 = dr s := by simp [mI]; rfl
  rw [e]
  refine ⟨?_, ?_⟩
  · rw [show (0 : Int32) = zI 0 from rfl, zI_eq (by omega) (by omega) (by omega) (by omega)]; omega
  · rw [dv_is _ h1 h2]; exact hq
theorem m_fz (ok : lO L) (h : LM m L) {c k o f : Nat} (hc : c < 6) (hk : k < 8) (ho : o < 10) (hf1 : 1 ≤ f) (hf2 : f ≤ 9) {Q : Int32 → MS → Prop}
    (hq : ∀ m', LM m' (fzL L c k o f).2 → MC m m' c → Q (zI (if 0 ≤ (fzL L c k o f).1 then 1 else 0)) m') : wp_X12_freezes m (zI c) (zI k) (zI o) (zI f) Q := by
  unfold fzL at hq
  rw [if_pos (by omega)] at hq
  simp only [Int.toNat_natCast] at hq
  refine m_freezes ok h hc hk ho hf1 hf2 (fun hn => ?_) (fun x' hn hL hC => ?_)
  · rw [if_pos hn] at hq
    exact hq m h (MC_rf m c)
  · rw [if_neg (by omega)] at hq
    have := hq x' hL hC
    rw [if_pos (show (0 : Int) ≤ ((thk k o f : Nat) : Int) by omega)] at this
    exact this
theorem thL_1 (L : LK) : (thL L 1).2 = (L.1, thN L.2.1 L.2.2.1 L.2.2.2.1 L.2.2.2.2.2 1, L.2.2.1, L.2.2.2.1, L.2.2.2.2.1, thF L.2.1 L.2.2.1 L.2.2.2.1 L.2.2.2.2.2 1) := by
  unfold thL; rw [if_pos (by omega)]; rfl
theorem m_wi (ok : lO L) (h : LM m L) {v : Int32} (hv : v = zI (L.1 + 1 : Nat)) (hw : L.1 < 99) : LM (mI m 0 v) (wiL L).2 := by
  unfold wiL
  rw [if_neg (by omega)]
  exact ⟨by simp only [mI, if_true]; exact hv, fun c hc => h.2 c hc⟩
theorem LM_0 (h : LM m L) : LM (mI m 0 (zI (L.1 : Int))) L := ⟨by simp [mI], fun c hc => h.2 c hc⟩
theorem y_seeded (h : MR m A) {n s : Int} (h1 : -2147483648 ≤ n) (h2 : n < 2147483648) {Q : Int32 → MS → Prop} (hq : ∀ x', MR x' A → Q (zI (aSeeded A n s)) x') : wp_X12_seeded m (zI n) (zI s) Q := by
  intro x1 e1
  have h' : MR x1 A := by rw [e1]; exact MR_6 h 0
  unfold aSeeded at hq
  rw [show (1 : Int64) = lJ 1 from rfl, show (40 : Int64) = lJ 40 from rfl]
  refine s_in h1 h2 (by omega) (by omega) (by omega) (by omega) (fun z => ⟨fun _ => ?_, fun q => absurd q (by decide)⟩) (fun z => ⟨fun q => absurd rfl q, fun _ => by rw [if_neg (by omega)] at hq; exact hq _ h'⟩)
  rw [if_pos z] at hq
  obtain ⟨n, rfl⟩ : ∃ j : Nat, n = j := ⟨n.toNat, by omega⟩
  simp only [Int.toNat_natCast] at hq
  refine m_open h' (fun x3 h3 hI3 hK3 _ _ _ => fun x4 e4 => ?_)
  have h4 : MR x4 A := by rw [e4]; exact MR_L h3 (MK_I x3 (by omega) _) (LM_6 h3.1.1 21 (by omega) _) h3.1.2
  refine ⟨fun y5 x6 => ∃ (k r : Nat) (L : LK) (s' : Int32), k + r = n ∧ y5 = zI k ∧ x6.1 21 = s' ∧ MR x6 (L, A.2) ∧ IM x6 6 A.1 ∧ seS n A.1 (zI s) = seS r L s', fun y5 _ => 1000 - y5.toInt.toNat, ⟨0, n, A.1, zI s, by omega, rfl, by rw [e4]; simp [mI], h4, IM_keep hI3 (by rw [e4]; rfl), rfl⟩, ?_⟩
  rintro y5 x6 ⟨k, r, L, s', hk, rfl, hs, hR, hI, he⟩
  rw [he] at hq
  rw [zI_le (by omega) (by omega) (by omega) (by omega)]
  refine ⟨fun c => ?_, fun c => ?_⟩
  · have e : r = 0 := by omega
    subst e
    exact m_iceOfAll hR.1.2 hR.1.1 (m_close hR h'.1.2 hI (fun x8 h8 _ _ => hq x8 h8))
  obtain ⟨r, rfl⟩ : ∃ j, r = j + 1 := ⟨r - 1, by omega⟩
  rw [show (4 : Int32) = zI (4 : Nat) from rfl, zI_p1 k]
  refine m_draw hs (by omega) (by omega) ?_
  have hd := dv_lt (dr s') (n := 4) (by omega)
  have R1 : MR (mI x6 21 (dr s')) (L, A.2) := MR_L (A := (L, A.2)) hR (MK_I x6 (by omega) _) (LM_6 hR.1.1 21 (by omega) _) hR.1.2
  have I1 : IM (mI x6 21 (dr s')) 6 A.1 := IM_keep hI rfl
  have i21 : ∀ (x : MS) (v : Int32), (mI x 21 v).1 21 = v := fun x v => by simp [mI]
  have nx : ∀ (x9 : MS) (L' : LK) (s9 : Int32), x9.1 21 = s9 → MR x9 (L', A.2) → IM x9 6 A.1 → seS (r + 1) L s' = seS r L' s9 → (∃ (k_1 r : Nat) (L : LK) (s' : Int32), k_1 + r = n ∧ zI ((k + 1 : Nat) : Int) = zI k_1 ∧ x9.1 21 = s' ∧ MR x9 (L, A.2) ∧ IM x9 6 A.1 ∧ seS n A.1 (zI s) = seS r L s') ∧ 1000 - (zI ((k + 1 : Nat) : Int)).toInt.toNat < 1000 - (zI (k : Int)).toInt.toNat := fun x9 L' s9 g1 g2 g3 g4 =>
    ⟨⟨k + 1, r, L', s9, by omega, rfl, g1, g2, g3, he.trans g4⟩, mux 1000 (by omega) (by omega) (by omega)⟩
  rw [show (2 : Int32) = zI 2 from rfl, zI_le (a := 2) (by omega) (by omega) (by omega) (by omega), zI_eq (b := 2) (by omega) (by omega) (by omega) (by omega)]
  refine ⟨fun c2 => ⟨fun c3 => ?_, fun c3 => ?_⟩, fun c2 => ?_⟩
  · have e3 : dv 4 (dr s') = 3 := by omega
    have ew : (mI x6 21 (dr s')).1 0 = zI (L.1 : Int) := R1.1.1.1
    have hw := hR.1.2.1
    have hw : L.1 ≤ 99 := hw
    have es : seS (r + 1) L s' = seS r (wiL L).2 (dr s') := by simp only [seS]; rw [if_neg (by omega), if_pos (by omega)]
    rw [ew, show (99 : Int32) = zI 99 from rfl, zI_le (by omega) (by omega) (by omega) (by omega)]
    have h21 : (mI x6 21 (dr s')).1 21 = dr s' := i21 _ _
    have L1 : LM (mI x6 21 (dr s')) L := R1.1.1
    have O1 : lO L := R1.1.2
    generalize mI x6 21 (dr s') = x9 at *
    generalize dr s' = s9 at *
    refine ⟨fun c4 x11 e11 => nx x11 (wiL L).2 s9 ?_ ?_ ?_ es, fun c4 x12 e12 => nx x12 (wiL L).2 s9 ?_ ?_ ?_ es⟩
    · rw [e11]; simpa [mI] using h21
    · have e0 : (wiL L).2 = L := by unfold wiL; rw [if_pos (by omega)]
      have e5 : zI (L.1 : Int) + 0 = zI (L.1 : Int) := by simp
      rw [e0, e11, e5]
      exact MR_L (A := (L, A.2)) R1 (MK_I _ (by omega) _) (LM_0 L1) O1
    · rw [e11]; exact IM_keep I1 rfl
    · rw [e12]; simpa [mI] using h21
    · rw [e12, zI_p1]
      exact MR_L (A := (L, A.2)) R1 (MK_I _ (by omega) _) (m_wi O1 L1 rfl (by omega)) (lO_wi O1)
    · rw [e12]; exact IM_keep I1 rfl
  · have es : seS (r + 1) L s' = seS r (thL L 1).2 (dr s') := by simp only [seS]; rw [if_pos (by omega)]
    refine m_warmDay R1.1.2 R1.1.1 (fun x9 h9 hF => nx x9 (thL L 1).2 (dr s') ((hF.1 21 (by omega)).trans (i21 _ _)) ?_ (IM_keep I1 (hF.2.1 6 (by omega))) es)
    exact MR_L (A := (L, A.2)) R1 (MK_F hF) (by rw [thL_1]; exact h9) (lO_th R1.1.2 1)
  · have b1 := dv_lt (dr (dr s')) (n := 6) (by omega)
    have b2 := dv_lt (dr (dr (dr s'))) (n := 8) (by omega)
    have b3 := dv_lt (dr (dr (dr (dr s')))) (n := 10) (by omega)
    have b4 := dv_lt (dr (dr (dr (dr (dr s'))))) (n := 9) (by omega)
    rw [show (6 : Int32) = zI (6 : Nat) from rfl, show (8 : Int32) = zI (8 : Nat) from rfl, show (10 : Int32) = zI (10 : Nat) from rfl, show (9 : Int32) = zI (9 : Nat) from rfl]
    refine m_draw (i21 _ _) (by omega) (by omega) (m_draw (i21 _ _) (by omega) (by omega) (m_draw (i21 _ _) (by omega) (by omega) (m_draw (i21 _ _) (by omega) (by omega) ?_)))
    rw [zI_p1]
    have st : ∀ (x : MS) (v : Int32), MR x (L, A.2) → MR (mI x 21 v) (L, A.2) := fun x v hx => MR_L (A := (L, A.2)) hx (MK_I x (by omega) _) (LM_6 hx.1.1 21 (by omega) _) hx.1.2
    have R5 := st _ (dr (dr (dr (dr (dr s'))))) (st _ (dr (dr (dr (dr s')))) (st _ (dr (dr (dr s'))) (st _ (dr (dr s')) R1)))
    refine m_fz R5.1.2 R5.1.1 b1 b2 b3 (by omega) (by omega) (fun x9 h9 hC => nx x9 _ (dr (dr (dr (dr (dr s'))))) (by rw [hC.1, i21]) (MR_L (A := (L, A.2)) R5 (MK_C hC) h9 (lO_fz R5.1.2 _ _ _ _)) (IM_keep (IM_keep I1 rfl) (hC.2.1 6 (by omega))) ?_)
    have ef : ((dv 9 (dr (dr (dr (dr (dr s'))))) : Nat) : Int) + 1 = ((dv 9 (dr (dr (dr (dr (dr s'))))) + 1 : Nat) : Int) := by omega
    simp only [seS]; rw [if_neg (by omega), if_neg (by omega), ef]
end MSC
