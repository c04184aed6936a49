/-! ===== the reference's answers (3): shelves changed ===== -/
section MRW
variable {m m' : MS} {A : AS} {L : LK} {S : SH}
/-- all but shelf j stays -/
def MSf (m m' : MS) (j : Nat) : Prop := m'.1 = m.1 ∧ (∀ t, t < 11 → m'.2.1 t = m.2.1 t) ∧ (∀ t i, i ≠ j → 11 ≤ t → t < 16 → m'.2.1 t i = m.2.1 t i) ∧ ∀ k, ¬ (100 * j ≤ k ∧ k < 100 * j + 100) → m'.2.2.1 16 k = m.2.2.1 16 k
theorem MSf_rf (m : MS) (j : Nat) : MSf m m j := ⟨rfl, fun _ _ => rfl, fun _ _ _ _ _ => rfl, fun _ _ => rfl⟩
theorem MSf_tr {m1 m2 m3 : MS} {j : Nat} (h1 : MSf m1 m2 j) (h2 : MSf m2 m3 j) : MSf m1 m3 j := ⟨h2.1.trans h1.1, fun t h => (h2.2.1 t h).trans (h1.2.1 t h), fun t i a b c => (h2.2.2.1 t i a b c).trans (h1.2.2.1 t i a b c), fun k h => (h2.2.2.2 k h).trans (h1.2.2.2 k h)⟩
theorem MSf_A (m : MS) {t j : Nat} (h1 : 11 ≤ t) (v : Int32) : MSf m (mA m t (upd (m.2.1 t) j v)) j := by
  refine ⟨rfl, fun u hu => ?_, fun u i hi a b => ?_, fun _ _ => rfl⟩
  · simp only [mA, va_up]; rw [if_neg (by omega)]
  · simp only [mA, va_up]
    by_cases e : u = t
    · subst e; simp [upd, hi]
    · rw [if_neg e]
theorem MSf_J (m : MS) {j k : Nat} (hk : 100 * j ≤ k ∧ k < 100 * j + 100) (v : Int64) : MSf m (mJ m 16 (vp_updL (m.2.2.1 16) k v)) j := by
  refine ⟨rfl, fun _ _ => rfl, fun _ _ _ _ _ => rfl, fun i hi => ?_⟩
  simp only [mJ, va_up, vp_updL, if_true]; rw [if_neg (by omega)]
theorem MR_sh (h : MR m A) {j : Nat} (hS : sM m' j S) (ok : sOK S) (hf : MSf m m' j) : MR m' (A.1, A.2.1, upc A.2.2 j S) := by
  obtain ⟨c0, ⟨c1, c2⟩, c3⟩ := h
  refine ⟨⟨⟨by rw [hf.1]; exact c0.1.1, fun c hc => ⟨by rw [hf.2.1 1 (by omega)]; exact (c0.1.2 c hc).1, fun i hi => by
    rw [hf.2.1 2 (by omega), hf.2.1 3 (by omega), hf.2.1 4 (by omega), hf.2.1 5 (by omega)]; exact (c0.1.2 c hc).2 i hi⟩⟩, c0.2⟩, ⟨by rw [hf.1]; exact c1, fun L hL => ⟨IM_keep (c2 L hL).1 (hf.2.1 7 (by omega)), (c2 L hL).2⟩⟩, fun d hd => ?_⟩
  show sM m' d (upc A.2.2 j S d) ∧ sOK (upc A.2.2 j S d)
  unfold upc
  by_cases e : d = j
  · subst e; simp only [if_true]; exact ⟨hS, ok⟩
  · simp only [e, if_false]
    obtain ⟨⟨h1, h2, h3⟩, h4⟩ := c3 d hd
    refine ⟨⟨by rw [hf.2.2.1 11 d e (by omega) (by omega)]; exact h1, fun z => by rw [hf.2.2.1 12 d e (by omega) (by omega), hf.2.2.1 13 d e (by omega) (by omega)]; exact h2 z, fun z => ?_⟩, h4⟩
    rw [hf.2.2.1 14 d e (by omega) (by omega), hf.2.2.1 15 d e (by omega) (by omega)]
    obtain ⟨g1, g2, g3⟩ := h3 z
    exact ⟨g1, g2, fun i hi => by rw [hf.2.2.2 (100 * d + i) (by omega)]; exact g3 i hi⟩
theorem a100 {d i : Nat} : (100 : Int32) * zI (d : Int) + zI (i : Int) = zI ((100 * d + i : Nat) : Int) := by rw [show (100 : Int32) = zI 100 from rfl, zI_mul, zI_add]; exact zI_c (by omega)
theorem y_row (h : MR m A) {d t n : Int} (h1 : -2147483648 ≤ d) (h2 : d < 2147483648) (h3 : -2147483648 ≤ t) (h4 : t < 2147483648) (h5 : -2147483648 ≤ n) (h6 : n < 2147483648) {Q : Int32 → MS → Prop} (hq : ∀ x', MR x' (aRow A d t n).2 → Q (zI (aRow A d t n).1) x') : wp_X12_row m (zI d) (zI t) (zI n) Q := by
  intro x1 e1
  have h' : MR x1 A := by rw [e1]; exact MR_6 h 0
  unfold aRow at hq
  rw [show (0 : Int64) = lJ 0 from rfl, show (7 : Int64) = lJ 7 from rfl, show (2 : Int64) = lJ 2 from rfl]
  refine s_in h1 h2 (by omega) (by omega) (by omega) (by omega) (fun z => ⟨fun q => absurd q (by decide), fun _ => ?_⟩) (fun z => ⟨fun _ => by rw [if_neg (by omega)] at hq; exact hq _ h', fun q => absurd rfl q⟩)
  refine s_in h3 h4 (by omega) (by omega) (by omega) (by omega) (fun z2 => ⟨fun q => absurd q (by decide), fun _ => ?_⟩) (fun z2 => ⟨fun _ => by rw [if_neg (by omega)] at hq; exact hq _ h', fun q => absurd rfl q⟩)
  rw [show (100 : Int32) = zI 100 from rfl, show (0 : Int32) = zI 0 from rfl, zI_le (by omega) (by omega) (by omega) (by omega), zI_le (by omega) (by omega) (by omega) (by omega)]
  refine ⟨fun c => ⟨fun c2 => ?_, fun c2 => ?_⟩, fun c => ?_⟩
  · rw [if_pos (by omega), if_pos c2] at hq
    obtain ⟨d, rfl⟩ : ∃ j : Nat, d = j := ⟨d.toNat, by omega⟩
    obtain ⟨t, rfl⟩ : ∃ j : Nat, t = j := ⟨t.toNat, by omega⟩
    obtain ⟨n, rfl⟩ : ∃ j : Nat, n = j := ⟨n.toNat, by omega⟩
    obtain ⟨hS, ok⟩ := h'.2.2 d (by omega)
    have v8 : vp_in (zI (d : Int)) 8 := zI_in (by omega) (by omega) (by omega)
    rw [zI_clN (by omega)]
    refine ⟨v8, fun x4 e4 => ⟨v8, fun x5 e5 => ⟨v8, fun x6 e6 => ?_⟩⟩⟩
    have M4 : MSf x1 x4 d := by rw [e4]; exact MSf_A _ (by omega) _
    have M5 : MSf x4 x5 d := by rw [e5]; exact MSf_A x4 (by omega) _
    have M6 : MSf x5 x6 d := by rw [e6]; exact MSf_A x5 (by omega) _
    have g : x6.2.1 11 d = zI 2 ∧ x6.2.1 14 d = zI (t : Int) ∧ x6.2.1 15 d = zI (n : Int) := by
      rw [e6, e5, e4]; refine ⟨?_, ?_, ?_⟩ <;> simp [mA, va_up, upd] <;> rfl
    refine ⟨fun y7 x8 => ∃ i : Nat, i ≤ 100 ∧ y7 = zI i ∧ MSf x1 x8 d ∧ (x8.2.1 11 d = zI 2 ∧ x8.2.1 14 d = zI (t : Int) ∧ x8.2.1 15 d = zI (n : Int)) ∧ ∀ k, k < i → x8.2.2.1 16 (100 * d + k) = lJ 0, fun y7 _ => 1000 - y7.toInt.toNat, ⟨0, by omega, rfl, MSf_tr M4 (MSf_tr M5 M6), g, fun k hk => absurd hk (by omega)⟩, ?_⟩
    rintro y7 x8 ⟨i, hi, rfl, hM, hg, hk⟩
    rw [zI_le (by omega) (by omega) (by omega) (by omega)]
    refine ⟨fun c3 => ?_, fun c3 => ?_⟩
    · have e : i = 100 := by omega
      subst e
      refine hq x8 (MR_sh h' (S := (2, shK (shG A d), shO (shG A d), t, n, fun _ => 0)) ⟨hg.1, fun z => absurd (show (2 : Nat) = 1 from z) (by decide), fun _ => ⟨hg.2.1, hg.2.2, hk⟩⟩ ⟨by show 2 ≤ 2; omega, ok.2.1, ok.2.2.1, by show t ≤ 2; omega, by show n ≤ 100; omega, fun i hi => ?_⟩ hM)
      show -2147483648 ≤ (0 : Int) ∧ (0 : Int) < 2147483648 ∧ (t = 0 → -128 ≤ (0 : Int) ∧ (0 : Int) ≤ 127) ∧ (t = 1 → -32768 ≤ (0 : Int) ∧ (0 : Int) ≤ 32767)
      omega
    · rw [show (zI 100 : Int32) * zI (d : Int) + zI (i : Int) = zI ((100 * d + i : Nat) : Int) from a100, zI_clN (by omega), zI_p1]
      refine ⟨zI_in (by omega) (by omega) (by omega), fun x9 e9 => ⟨⟨i + 1, by omega, rfl, ?_, ?_, fun k hk' => ?_⟩, mux 1000 (by omega) (by omega) (by omega)⟩⟩
      · rw [e9]; exact MSf_tr hM (MSf_J x8 (by omega) _)
      · rw [e9]; exact hg
      · rw [e9]; simp only [mJ, va_up, vp_updL, if_true]
        by_cases e : k = i
        · subst e; simp
        · rw [if_neg (by omega)]; exact hk k (by omega)
  · rw [if_pos (by omega), if_neg c2] at hq; exact hq _ h'
  · rw [if_neg (by omega)] at hq; exact hq _ h'
end MRW
