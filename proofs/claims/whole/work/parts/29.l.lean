/-! ===== lakes: what is told into rows ===== -/
theorem zI_xor (a b : Nat) : zI a ^^^ zI b = zI ((a ^^^ b : Nat) : Int) := by
  apply Int32.toBitVec.inj
  rw [Int32.toBitVec_xor]
  show BitVec.ofInt 32 a ^^^ BitVec.ofInt 32 b = BitVec.ofInt 32 ((a ^^^ b : Nat) : Int)
  simp
theorem zI_less {m o : Nat} {P : Nat → Prop} (h : Msk m P) (hP : ∀ j, P j → j < 32) : ∃ k : Nat, zI m &&& (zI ((2 ^ o : Nat) : Int) ^^^ (-1)) = zI k ∧ Msk k (fun j => P j ∧ j ≠ o) := by
  refine ⟨m &&& (2 ^ o ^^^ (2 ^ 32 - 1)), ?_, fun j => ?_⟩
  · rw [show (-1 : Int32) = zI ((2 ^ 32 - 1 : Nat) : Int) by decide +kernel, zI_xor, zI_and]
  · rw [Nat.testBit_and, Nat.testBit_xor, Nat.testBit_two_pow_sub_one, Nat.testBit_two_pow, Bool.and_eq_true, h j]
    refine and_congr_right fun hp => ?_
    have := hP j hp
    rw [decide_eq_true this]
    by_cases e : o = j
    · subst e; simp
    · have e2 : j ≠ o := fun z => e z.symm
      simp [e, e2]
theorem s_fill {x : XS} {t N : Nat} (hl : xlen t = N) (hN : N ≤ 1000) {v : Int32} {Q : XS → Prop} (hq : ∀ x', XB x x' t → (∀ j, j < N → x'.2.1 t j = v) → Q x') : wp_J7_fill_53178 x t v Q := by
  unfold wp_J7_fill_53178
  rw [hl, show Int32.ofNat N = zI N from (zI_nI N).symm]
  refine ⟨fun y x1 => ∃ i : Nat, i ≤ N ∧ y = zI i ∧ XB x x1 t ∧ ∀ j, j < i → x1.2.1 t j = v, fun y _ => 1000 - y.toInt.toNat, ⟨0, by omega, rfl, XB_rf x t, fun j hj => absurd hj (by omega)⟩, ?_⟩
  rintro y x1 ⟨i, hi, rfl, hB, hv⟩
  rw [zI_le (by omega) (by omega) (by omega) (by omega)]
  refine ⟨fun c => hq x1 hB fun j hj => hv j (by omega), fun c => ⟨zI_in (by omega) (by omega) (by omega), fun x2 e2 => ⟨⟨i + 1, by omega, zI_p1 i, ?_, ?_⟩, mup 1000 (by omega) (by omega) (by omega)⟩⟩⟩
  · rw [e2]; exact XB_tr hB (XB_A _ _ _)
  · intro j hj
    rw [e2, zI_clN (by omega)]
    simp only [xA, va_up, upd, if_true]
    by_cases h : j = i
    · simp [h]
    · simp only [h, if_false]; exact hv j (by omega)
def snL (N : Nat → Nat) (K O F : Nat → Nat → Nat) (f c o : Nat) : Prop := ∃ i, i < N c ∧ snb (K c) (O c) (F c) (N c) f i ∧ O c i = o
theorem s_tellSeen {x : XS} {g w : Nat} {N : Nat → Nat} {K O W F : Nat → Nat → Nat} (hg : xk g 6) (ok : lOK w N K O W F) (h : wLX x g w N K O W F) {f : Nat} (hf : f ≤ 99) {Q : XS → Prop} (hq : ∀ x', XB x x' 27 → (∀ c, c < 6 → ∃ m : Nat, x'.2.1 27 c = zI m ∧ Msk m (snL N K O F f c)) → Q x') : wp_X6_tellSeen x g 27 (zI f) Q := by
  unfold wp_X6_tellSeen
  rw [show xlen 27 = 6 from rfl]
  refine ⟨fun y x1 => ∃ i : Nat, i ≤ 6 ∧ y = zI i ∧ XB x x1 27 ∧ ∀ c, c < i → ∃ m : Nat, x1.2.1 27 c = zI m ∧ Msk m (snL N K O F f c), fun y _ => 7 - y.toInt.toNat, ⟨0, by omega, rfl, XB_rf x 27, fun j hj => absurd hj (by omega)⟩, ?_⟩
  rintro y x1 ⟨i, hi, rfl, hB, hv⟩
  rw [show Int32.ofNat 6 = zI 6 from rfl, show (6 : Int32) = zI 6 from rfl, zI_le (by omega) (by omega) (by omega) (by omega)]
  refine ⟨fun c => hq x1 hB fun j hj => hv j (by omega), fun c => ⟨fun c => absurd c (by omega), fun _ => ?_⟩⟩
  have h1 := wLX_B (by omega) hg h hB
  refine wl_cell hg h1.1 (P := fun o3 => _) (by omega) ?_
  refine s_oathsSeen (ok.2 i (by omega)) (h1.2.2 i (by omega)) hf ?_
  intro m hm
  refine ⟨zI_in (by omega) (by omega) (by omega), fun x2 e2 => ⟨⟨i + 1, by omega, zI_p1 i, ?_, ?_⟩, mup 7 (by omega) (by omega) (by omega)⟩⟩
  · rw [e2]; exact XB_tr hB (XB_A _ _ _)
  · intro j hj
    rw [e2, zI_clN (by omega)]
    simp only [xA, va_up, upd, if_true]
    by_cases h : j = i
    · subst h; simp only [if_true]; exact ⟨m, rfl, hm⟩
    · simp only [h, if_false]; exact hv j (by omega)
/-- the oaths j told before an oath o in a cell -/
def ahC (n : Nat) (O : Nat → Nat) (o j : Nat) : Prop := j ≠ o ∧ ∃ i, i < n ∧ O i = o ∧ ∃ k, k < i ∧ O k = j
theorem s_tellAhead {x : XS} {b n : Nat} {K O W F : Nat → Nat} (hb : xk b 2) (ok : cOK n K O W F) (h : CX x b n K O W F) {P : Nat → Nat → Prop} (hP : ∀ o, o < 10 → ∃ m : Nat, x.2.1 28 o = zI m ∧ Msk m (P o)) {Q : XS → Prop} (hq : ∀ x', XB x x' 28 → (∀ o, o < 10 → ∃ m : Nat, x'.2.1 28 o = zI m ∧ Msk m (fun j => P o j ∨ ahC n O o j)) → Q x') : wp_X2_tellAhead x b 28 Q := by
  have hn := ok.1
  have hbf := xk_form b hb.1 hb.2
  have hO : ∀ i, i < n → O i < 10 := fun i hi => by have := ok.2 i hi; omega
  unfold wp_X2_tellAhead
  rw [show xlen 28 = 10 from rfl]
  refine ⟨fun y1 y2 x1 => ∃ i m : Nat, i ≤ n ∧ y2 = zI i ∧ y1 = zI m ∧ Msk m (fun o => ∃ k, k < i ∧ O k = o) ∧ XB x x1 28 ∧ ∀ o, o < 10 → ∃ m : Nat, x1.2.1 28 o = zI m ∧ Msk m (fun j => P o j ∨ ahC i O o j), fun _ y2 _ => 9 - y2.toInt.toNat, ⟨0, 0, by omega, rfl, rfl, Msk_iff Msk_0 (fun o => ⟨fun z => z.elim, fun ⟨k, hk, _⟩ => absurd hk (by omega)⟩), XB_rf x 28, fun o ho => ?_⟩, ?_⟩
  · obtain ⟨m, e, hm⟩ := hP o ho
    exact ⟨m, e, Msk_iff hm fun j => ⟨Or.inl, fun z => z.elim id fun ⟨_, i, hi, _⟩ => absurd hi (by omega)⟩⟩
  rintro y1 y2 x1 ⟨i, m, hi, rfl, rfl, hm, hB, hv⟩
  have h1 : CX x1 b n K O W F := CX_keep h (by rw [hB.1]) (fun t ht _ => hB.2.2 t (by omega))
  rw [h1.1, zI_le (by omega) (by omega) (by omega) (by omega)]
  refine ⟨fun c => hq x1 hB fun o ho => ?_, fun c => ?_⟩
  · have e : i = n := by omega
    subst e; exact hv o ho
  refine s_oathAt ok h1 (by omega) ?_
  have hOi := hO i (by omega)
  rw [show (0 : Int32) = zI 0 from rfl, show Int32.ofNat 10 - 1 = zI 9 from rfl]
  refine s_within (by omega) (by omega) (by omega) (by omega) (by omega) (by omega) (fun _ => ?_) (fun z => absurd (by omega) z)
  refine ⟨fun z => absurd z (by decide), fun _ => ⟨zI_in (by omega) (by omega) (by omega), zI_in (by omega) (by omega) (by omega), fun x2 e2 => ?_⟩⟩
  rw [zI_shl (by omega)] at e2 ⊢
  obtain ⟨k, ek, hk⟩ := zI_less (o := O i) hm (fun j ⟨k, hk, e⟩ => by have := hO k (by omega); omega)
  rw [ek, zI_clN (by omega)] at e2
  obtain ⟨m2, em2, hm2⟩ := hv (O i) hOi
  rw [em2, zI_or] at e2
  refine ⟨⟨i + 1, m ||| 2 ^ O i, by omega, zI_p1 i, zI_or _ _, Msk_iff (Msk_or hm) (fun o => ⟨?_, ?_⟩), ?_, ?_⟩, mup 9 (by omega) (by omega) (by omega)⟩
  · rintro (⟨k, hk, e⟩ | e)
    · exact ⟨k, by omega, e⟩
    · exact ⟨i, by omega, e.symm⟩
  · rintro ⟨k, hk, e⟩
    by_cases hki : k = i
    · subst hki; exact Or.inr e.symm
    · exact Or.inl ⟨k, by omega, e⟩
  · rw [e2]; exact XB_tr hB (XB_A _ _ _)
  · intro o ho
    rw [e2]
    simp only [xA, va_up, upd, if_true]
    by_cases hoi : o = O i
    · subst hoi
      simp only [if_true]
      refine ⟨_, rfl, Msk_iff (Msk_or2 hm2 hk) fun j => ⟨?_, ?_⟩⟩
      · rintro ((h | ⟨h1, i1, h2, h3⟩) | ⟨⟨k, hk, e⟩, h⟩)
        · exact Or.inl h
        · exact Or.inr ⟨h1, i1, by omega, h3⟩
        · exact Or.inr ⟨h, i, by omega, rfl, k, hk, e⟩
      · rintro (h | ⟨h1, i1, h2, h3, k, h4, h5⟩)
        · exact Or.inl (Or.inl h)
        · by_cases hi1 : i1 = i
          · subst hi1; exact Or.inr ⟨⟨k, h4, h5⟩, h1⟩
          · exact Or.inl (Or.inr ⟨h1, i1, by omega, h3, k, h4, h5⟩)
    · simp only [hoi, if_false]
      obtain ⟨m3, e3, hm3⟩ := hv o ho
      refine ⟨m3, e3, Msk_iff hm3 fun j => ⟨?_, ?_⟩⟩
      · rintro (h | ⟨h1, i1, h2, h3⟩)
        · exact Or.inl h
        · exact Or.inr ⟨h1, i1, by omega, h3⟩
      · rintro (h | ⟨h1, i1, h2, h3, h4⟩)
        · exact Or.inl h
        · refine Or.inr ⟨h1, i1, ?_, h3, h4⟩
          by_cases hi1 : i1 = i
          · subst hi1; exact absurd h3.symm hoi
          · omega
/-- the oaths j told before an oath o in a lake's first cells -/
def ahL (N : Nat → Nat) (O : Nat → Nat → Nat) (k o j : Nat) : Prop := ∃ c, c < k ∧ ahC (N c) (O c) o j
theorem s_tellAllAhead {x : XS} {g w : Nat} {N : Nat → Nat} {K O W F : Nat → Nat → Nat} (hg : xk g 6) (ok : lOK w N K O W F) (h : wLX x g w N K O W F) {Q : XS → Prop} (hq : ∀ x', XB x x' 28 → (∀ o, o < 10 → ∃ m : Nat, x'.2.1 28 o = zI m ∧ Msk m (ahL N O 6 o)) → Q x') : wp_X6_tellAllAhead x g 28 Q := by
  unfold wp_X6_tellAllAhead
  refine s_fill (N := 10) rfl (by omega) fun x0 hB0 hv0 => ?_
  refine ⟨fun y x1 => ∃ i : Nat, i ≤ 6 ∧ y = zI i ∧ XB x x1 28 ∧ ∀ o, o < 10 → ∃ m : Nat, x1.2.1 28 o = zI m ∧ Msk m (ahL N O i o), fun y _ => 7 - y.toInt.toNat, ⟨0, by omega, rfl, hB0, fun o ho => ⟨0, hv0 o ho, Msk_iff Msk_0 fun j => ⟨fun z => z.elim, fun ⟨c, hc, _⟩ => absurd hc (by omega)⟩⟩⟩, ?_⟩
  rintro y x1 ⟨i, hi, rfl, hB, hv⟩
  rw [show (6 : Int32) = zI 6 from rfl, zI_le (by omega) (by omega) (by omega) (by omega)]
  refine ⟨fun c => hq x1 hB fun j hj => ?_, fun c => ?_⟩
  · have e : i = 6 := by omega
    subst e; exact hv j hj
  have h1 := wLX_B (by omega) hg h hB
  refine wl_cell hg h1.1 (P := fun o3 => _) (by omega) ?_
  refine s_tellAhead (wLP_xk hg h1.1 (by omega)) (ok.2 i (by omega)) (h1.2.2 i (by omega)) hv ?_
  intro x2 hB2 hv2
  refine ⟨⟨i + 1, by omega, zI_p1 i, XB_tr hB hB2, fun o ho => ?_⟩, mup 7 (by omega) (by omega) (by omega)⟩
  obtain ⟨m, e, hm⟩ := hv2 o ho
  refine ⟨m, e, Msk_iff hm fun j => ⟨?_, ?_⟩⟩
  · rintro (⟨c, hc, h⟩ | h)
    · exact ⟨c, by omega, h⟩
    · exact ⟨i, by omega, h⟩
  · rintro ⟨c, hc, h⟩
    by_cases hci : c = i
    · subst hci; exact Or.inr h
    · exact Or.inl ⟨c, by omega, h⟩
