/-! ===== the class's answers (3) ===== -/
section ASS
variable {x x' : XS} {A : AS} {L : LK} {S : SH}
/-- a stretch put into another row -/
def cpE (E G : Nat → Int) (p q n : Nat) : Nat → Int := fun k => if q ≤ k ∧ k < q + n then E (p + (k - q)) else G k
def aCopy (A : AS) (d p e q n : Int) : Int × AS :=
  if 0 ≤ d ∧ d ≤ 7 ∧ 0 ≤ e ∧ e ≤ 7 then
    (if shH (shG A d) = 0 ∨ shH (shG A e) = 0 then (-11, A) else
    if ¬ shH (shG A d) = 2 ∨ ¬ shH (shG A e) = 2 ∨ ¬ shT (shG A d) = shT (shG A e) then (-12, A) else
    if (0 ≤ p ∧ p ≤ shN (shG A d) ∧ 0 ≤ n ∧ n ≤ shN (shG A d) - p) ∧ (0 ≤ q ∧ q ≤ shN (shG A e) ∧ 0 ≤ n ∧ n ≤ shN (shG A e) - q) then
      (n, shU A e (shH (shG A e), shK (shG A e), shO (shG A e), shT (shG A e), shN (shG A e), cpE (shE (shG A d)) (shE (shG A e)) p.toNat q.toNat n.toNat))
    else (-13, A))
  else (-1, A)
theorem x_copy (h : XR x A) {d p e q n : Int} (h1 : -2147483648 ≤ d) (h2 : d < 2147483648) (h3 : -2147483648 ≤ p) (h4 : p < 2147483648) (h5 : -2147483648 ≤ e) (h6 : e < 2147483648) (h7 : -2147483648 ≤ q) (h8 : q < 2147483648) (h9 : -2147483648 ≤ n) (h10 : n < 2147483648) {Q : Int32 → XS → Prop} (hq : ∀ x', XR x' (aCopy A d p e q n).2 → Q (zI (aCopy A d p e q n).1) x') : wp_X11_copy x (zI d) (zI p) (zI e) (zI q) (zI n) Q := by
  unfold aCopy at hq
  refine s_shelfAt h1 h2 (fun z => ?_) (fun j hj e1 => ⟨xk_shj j hj, ?_⟩)
  · rw [if_neg (by omega)] at hq
    exact s_shelfAt h5 h6 (fun _ => hq x h) (fun i hi _ => ⟨xk_shj i hi, hq x h⟩)
  refine s_shelfAt h5 h6 (fun z => by rw [if_neg (by omega)] at hq; exact hq x h) (fun i hi e2 => ⟨xk_shj i hi, ?_⟩)
  subst e1 e2
  obtain ⟨hS, ok⟩ := h.2.2.2 j hj
  obtain ⟨hS2, ok2⟩ := h.2.2.2 i hi
  rw [if_pos (by omega), show shG A (j : Int) = A.2.2 j from rfl, show shG A (i : Int) = A.2.2 i from rfl] at hq
  have b1 := ok.1
  have b2 := ok2.1
  have b3 := ok.2.2.2.1
  have b4 := ok2.2.2.2.1
  have b5 := ok.2.2.2.2.1
  have b6 := ok2.2.2.2.2.1
  rw [hS.1, hS2.1, hS.2.2.2.1, hS2.2.2.2.1, show (0 : Int32) = zI 0 from rfl, show (2 : Int32) = zI 2 from rfl, zI_eq (by omega) (by omega) (by omega) (by omega), zI_eq (by omega) (by omega) (by omega) (by omega), zI_eq (by omega) (by omega) (by omega) (by omega), zI_eq (by omega) (by omega) (by omega) (by omega), zI_eq (by omega) (by omega) (by omega) (by omega)]
  refine ⟨fun c => by rw [if_pos (by omega)] at hq; exact hq x h, fun c => ⟨fun c2 => ?_, fun c2 => by rw [if_pos (by omega)] at hq; exact hq x h⟩⟩
  rw [if_neg (by omega)] at hq
  refine ⟨fun c3 => by rw [if_pos (by omega)] at hq; exact hq x h, fun c3 => ⟨fun c4 => by rw [if_pos (by omega)] at hq; exact hq x h, fun c4 => ⟨fun c5 => ?_, fun c5 => by rw [if_pos (by omega)] at hq; exact hq x h⟩⟩⟩
  rw [if_neg (by omega)] at hq
  refine s_hasStretch ok hS h3 h4 h9 h10 (fun z => ⟨fun q => absurd q (by decide), fun _ => ?_⟩) (fun z => ⟨fun _ => by rw [if_neg (fun q => z q.1)] at hq; exact hq x h, fun q => absurd rfl q⟩)
  refine s_hasStretch ok2 hS2 h7 h8 h9 h10 (fun z2 => ⟨fun _ => ?_, fun q => absurd q (by decide)⟩) (fun z2 => ⟨fun q => absurd rfl q, fun _ => by rw [if_neg (fun q => z2 q.2)] at hq; exact hq x h⟩)
  rw [if_pos ⟨z, z2⟩] at hq
  obtain ⟨p, rfl⟩ : ∃ j : Nat, p = j := ⟨p.toNat, by omega⟩
  obtain ⟨q, rfl⟩ : ∃ j : Nat, q = j := ⟨q.toNat, by omega⟩
  obtain ⟨n, rfl⟩ : ∃ j : Nat, n = j := ⟨n.toNat, by omega⟩
  rw [zI_lt (by omega) (by omega) (by omega) (by omega), zI_lt (by omega) (by omega) (by omega) (by omega), zI_lt (by omega) (by omega) (by omega) (by omega), zI_clN (by omega), zI_clN (by omega), zI_clN (by omega)]
  refine ⟨by omega, by omega, by omega, by omega, by omega, ?_⟩
  rintro x6 rfl
  simp only [Int.toNat_natCast] at hq
  refine hq _ (XR_sh h hi (S := (shH (A.2.2 i), shK (A.2.2 i), shO (A.2.2 i), shT (A.2.2 i), shN (A.2.2 i), cpE (shE (A.2.2 j)) (shE (A.2.2 i)) p q n)) ⟨hS2.1, hS2.2.1, hS2.2.2.1, hS2.2.2.2.1, hS2.2.2.2.2.1, fun k hk => ?_⟩ ⟨ok2.1, ok2.2.1, ok2.2.2.1, ok2.2.2.2.1, b6, fun k hk => ?_⟩ ⟨fun _ _ _ => rfl, fun t ht => ?_, rfl⟩)
  · show (if 11 + 2 * i + 1 = 11 + 2 * i + 1 then va_cpy (x.2.1 (11 + 2 * j + 1)) (x.2.1 (11 + 2 * i + 1)) p q n else x.2.1 (11 + 2 * i + 1)) k = zI (cpE (shE (A.2.2 j)) (shE (A.2.2 i)) p q n k)
    rw [if_pos rfl]
    unfold va_cpy cpE
    by_cases c : q ≤ k ∧ k < q + n
    · rw [if_pos c, if_pos c]; exact hS.2.2.2.2.2 _ (by omega)
    · rw [if_neg c, if_neg c]; exact hS2.2.2.2.2.2 _ hk
  · show -2147483648 ≤ cpE (shE (A.2.2 j)) (shE (A.2.2 i)) p q n k ∧ cpE (shE (A.2.2 j)) (shE (A.2.2 i)) p q n k < 2147483648 ∧ (shT (A.2.2 i) = 0 → -128 ≤ cpE (shE (A.2.2 j)) (shE (A.2.2 i)) p q n k ∧ cpE (shE (A.2.2 j)) (shE (A.2.2 i)) p q n k ≤ 127) ∧ (shT (A.2.2 i) = 1 → -32768 ≤ cpE (shE (A.2.2 j)) (shE (A.2.2 i)) p q n k ∧ cpE (shE (A.2.2 j)) (shE (A.2.2 i)) p q n k ≤ 32767)
    have eT : shT (A.2.2 i) = shT (A.2.2 j) := by omega
    unfold cpE
    by_cases c : q ≤ k ∧ k < q + n
    · rw [if_pos c, eT]; exact ok.2.2.2.2.2 _ (by omega)
    · rw [if_neg c]; exact ok2.2.2.2.2.2 _ hk
  · have ht' : t ≠ 11 + 2 * i + 1 := ht
    simp only [xA, va_up]; rw [if_neg ht']
def fwS (A : AS) (S : SH) : Nat → Nat → Int
  | 0, _ => if shN S = 6 then -4 else (min 6 (shN S) : Nat)
  | r + 1, c => if shN S ≤ c then (if shN S = 6 then -4 else (min 6 (shN S) : Nat)) else if vlS S c = lstN (shT S) ∨ vlS S c = (sg (A.1.2.2.2.2.2 c) (A.1.2.1 c) : Nat) then fwS A S r (c + 1) else (c : Nat)
def aJudge (A : AS) (d : Int) : Int :=
  if 0 ≤ d ∧ d ≤ 7 then (if lkS (shG A d) 2 = 0 then fwS A (shG A d) 6 0 else lkS (shG A d) 2) else -1
theorem x_judge (h : XR x A) {d : Int} (h1 : -2147483648 ≤ d) (h2 : d < 2147483648) {Q : Int32 → Prop} (hq : Q (zI (aJudge A d))) : wp_X11_judge x (zI d) Q := by
  unfold aJudge at hq
  refine s_shelfAt h1 h2 (fun z => by rw [if_neg (by omega)] at hq; exact hq) (fun j hj e => ⟨xk_shj j hj, ?_⟩)
  subst e
  obtain ⟨hS, ok⟩ := h.2.2.2 j hj
  rw [if_pos (by omega), show shG A (j : Int) = A.2.2 j from rfl] at hq
  refine s_lacks (p := 2) ok hS (by omega) (by omega) ?_
  rw [show (if shH (A.2.2 j) = 0 then (-11 : Int) else if (shH (A.2.2 j) : Int) = 2 then 0 else -12) = lkS (A.2.2 j) 2 from rfl]
  have hl := lkS_b (A.2.2 j) 2
  rw [show (0 : Int32) = zI 0 from rfl, zI_eq (by omega) (by omega) (by omega) (by omega)]
  refine ⟨fun c => by rw [if_neg c] at hq; exact hq, fun c => ?_⟩
  rw [if_pos c] at hq
  generalize A.2.2 j = S at *
  have hN := ok.2.2.2.2.1
  refine ⟨fun y => ∃ c r : Nat, c + r = 6 ∧ y = zI c ∧ fwS A S 6 0 = fwS A S r c, fun y => 1000 - y.toInt.toNat, ⟨0, 6, by omega, rfl, rfl⟩, ?_⟩
  rintro y ⟨c, r, hc, rfl, he⟩
  rw [he] at hq
  rw [hS.2.2.2.2.1, show (6 : Int32) = zI 6 from rfl, zI_le (by omega) (by omega) (by omega) (by omega), zI_le (by omega) (by omega) (by omega) (by omega), zI_eq (by omega) (by omega) (by omega) (by omega)]
  have en : Q (zI (if shN S = 6 then -4 else ((min 6 (shN S) : Nat) : Int))) → ((¬ (shN S : Int) = 6 → Q (if zI 6 < zI (shN S) then zI 6 else zI (shN S))) ∧ ((shN S : Int) = 6 → Q (-4))) := fun hq => by
    refine ⟨fun c => ?_, fun c => by rw [if_pos (by omega)] at hq; exact hq⟩
    rw [if_neg (by omega)] at hq
    have e1 := zI_lt (a := 6) (b := shN S) (by omega) (by omega) (by omega) (by omega)
    by_cases c3 : (6 : Int) < shN S
    · rw [if_pos (e1.mpr c3)]; rw [show ((min 6 (shN S) : Nat) : Int) = 6 by omega] at hq; exact hq
    · rw [if_neg (fun z => c3 (e1.mp z))]; rw [show ((min 6 (shN S) : Nat) : Int) = (shN S : Int) by omega] at hq; exact hq
  refine ⟨fun c6 => en ?_, fun c6 => ⟨fun c7 => en ?_, fun c7 => ?_⟩⟩
  · have e0 : r = 0 := by omega
    subst e0; exact hq
  · obtain ⟨r, rfl⟩ : ∃ j, r = j + 1 := ⟨r - 1, by omega⟩
    unfold fwS at hq; rw [if_pos (by omega)] at hq; exact hq
  · obtain ⟨r, rfl⟩ : ∃ j, r = j + 1 := ⟨r - 1, by omega⟩
    have ef : fwS A S (r + 1) c = if vlS S c = lstN (shT S) ∨ vlS S c = (sg (A.1.2.2.2.2.2 c) (A.1.2.1 c) : Nat) then fwS A S r (c + 1) else (c : Nat) := by
      show (if shN S ≤ c then _ else _) = _
      rw [if_neg (by omega)]
    rw [ef] at hq
    have nx : vlS S c = lstN (shT S) ∨ vlS S c = (sg (A.1.2.2.2.2.2 c) (A.1.2.1 c) : Nat) → (∃ c_1 r : Nat, c_1 + r = 6 ∧ zI (c : Int) + 1 = zI c_1 ∧ fwS A S 6 0 = fwS A S r c_1) ∧ 1000 - (zI (c : Int) + 1).toInt.toNat < 1000 - (zI (c : Int)).toInt.toNat := fun z => by
      have e1 : zI (c : Int) + 1 = zI ((c + 1 : Nat) : Int) := zI_p1 c
      rw [e1]
      exact ⟨⟨c + 1, r, by omega, rfl, by rw [he, ef, if_pos z]⟩, mux 1000 (by omega) (by omega) (by omega)⟩
    have hv := vlS_b ok c
    have hls : -2147483648 ≤ lstN (shT S) ∧ lstN (shT S) < 2147483648 := by unfold lstN; split <;> (try split) <;> omega
    refine s_valueAt ok hS (by omega) (by omega) ?_
    refine s_cellAt xk_29 h.1.1.1 (by omega) (by omega) (fun z => absurd (by omega) z) (fun c0 hc0 ec => ⟨wLP_xk xk_29 h.1.1.1 hc0, ?_⟩)
    have ec : c = c0 := by omega
    subst ec
    refine s_leastNumber ok hS ?_
    rw [zI_eq hv.1 hv.2 hls.1 hls.2]
    refine ⟨fun z => nx (Or.inl z), fun z => ?_⟩
    refine s_ice (h.1.2.2 c hc0) (h.1.1.2.2 c hc0) ?_
    have hsg := sgF (h.1.2.2 c hc0) (Nat.le_refl _)
    rw [zI_eq hv.1 hv.2 (by omega) (by omega)]
    refine ⟨fun z2 => nx (Or.inr z2), fun z2 => ?_⟩
    rw [if_neg (by rintro (q | q); exact z q; exact z2 q)] at hq; exact hq
end ASS
