/-! ===== masks; what is seen ===== -/
def pc (m : Nat) : Nat := sg (fun j => (m.testBit j).toNat) 10
theorem bit0 : ∀ p, p < 1024 → ∀ c, c < 10 → (((nI p >>> (nI c &&& 31)) &&& 1 = 1) ↔ p.testBit c = true) := by decide +kernel
theorem zI_bit {p c : Nat} (hp : p < 1024) (hc : c < 10) : (((zI p >>> (zI c &&& 31)) &&& 1 = 1) ↔ p.testBit c = true) := by rw [zI_nI, zI_nI]; exact bit0 p hp c hc
theorem bc0 : ∀ m, m < 1024 → wp_J6_bitCount_0f7a4 (nI m) (fun r => r = nI (pc m)) := by
  unfold wp_J6_bitCount_0f7a4
  dsimp only
  decide +kernel
theorem s_bitCount {m : Nat} (hm : m < 1024) {Q : Int32 → Prop} (hq : Q (zI (pc m))) : wp_J6_bitCount_0f7a4 (zI m) Q := by
  have e := bc0 m hm
  unfold wp_J6_bitCount_0f7a4 at e ⊢
  rw [zI_nI, e, ← zI_nI]; exact hq
theorem pc_b (m : Nat) : pc m ≤ 10 := by
  have := sg_le (f := fun j => (m.testBit j).toNat) (c := 1) (n := 10) (fun i _ => by cases m.testBit i <;> simp)
  unfold pc; omega
/-- a mask without another's bits -/
def msL (m k : Nat) : Nat := m &&& (k ^^^ (2 ^ 32 - 1))
theorem zI_msL (m k : Nat) : zI m &&& (zI k ^^^ (-1)) = zI (msL m k) := by
  rw [show (-1 : Int32) = zI ((2 ^ 32 - 1 : Nat) : Int) by decide +kernel, zI_xor, zI_and]; rfl
theorem msL_bit {m k j : Nat} (hj : j < 32) : (msL m k).testBit j = (m.testBit j && !k.testBit j) := by
  unfold msL
  rw [Nat.testBit_and, Nat.testBit_xor, Nat.testBit_two_pow_sub_one, decide_eq_true hj]
  cases m.testBit j <;> cases k.testBit j <;> rfl
theorem msL_le (m k : Nat) : msL m k ≤ m := Nat.and_le_left
theorem mskO_b (P : Nat → Prop) : mskO P 10 < 1024 := mskO_lt P 10
theorem mskO_bit (P : Nat → Prop) (j : Nat) : (mskO P 10).testBit j = true ↔ j < 10 ∧ P j := mskO_ok P 10 j
noncomputable def snM (L : LK) (f c : Nat) : Nat := mskO (snL L.2.1 L.2.2.1 L.2.2.2.1 L.2.2.2.2.2 f c) 10
theorem snM_is {L : LK} (ok : lO L) {f c m : Nat} (hc : c < 6) (h : Msk m (snL L.2.1 L.2.2.1 L.2.2.2.1 L.2.2.2.2.2 f c)) : m = snM L f c :=
  mskO_is (Msk_iff h (fun o => ⟨fun z => ⟨by obtain ⟨i, h1, h2, h3⟩ := z; have := (ok.2 c hc).2 i h1; omega, z⟩, fun z => z.2⟩))
/-- the oaths seen in the cells of a mask -/
noncomputable def snU (L : LK) (f p : Nat) : Nat → Nat
  | 0 => 0
  | c + 1 => if p.testBit c = true then snU L f p c ||| snM L f c else snU L f p c
theorem snU_b (L : LK) (f p : Nat) : ∀ c, snU L f p c < 1024
  | 0 => by simp [snU]
  | c + 1 => by
    unfold snU
    split
    · exact Nat.or_lt_two_pow (n := 10) (snU_b L f p c) (mskO_b _)
    · exact snU_b L f p c
section ASM
variable {x x' : XS} {A : AS} {L : LK} {S : SH}
theorem s_seenInAll {f p : Nat} (hp : p < 1024) (h : ∀ c, c < 6 → x.2.1 27 c = zI (snM L f c)) {Q : Int32 → Prop} (hq : Q (zI (snU L f p 6))) : wp_X11_seenInAll x (zI p) Q := by
  refine ⟨fun y1 y2 => ∃ c : Nat, c ≤ 6 ∧ y2 = zI c ∧ y1 = zI (snU L f p c), fun _ y2 => 1000 - y2.toInt.toNat, ⟨0, by omega, rfl, rfl⟩, ?_⟩
  rintro y1 y2 ⟨c, hc, rfl, rfl⟩
  rw [show (6 : Int32) = zI 6 from rfl, zI_le (by omega) (by omega) (by omega) (by omega)]
  refine ⟨fun c6 => ?_, fun c6 => ?_⟩
  · have e : c = 6 := by omega
    subst e; exact hq
  have hb := zI_bit (p := p) (c := c) hp (by omega)
  have e1 : zI (c : Int) + 1 = zI ((c + 1 : Nat) : Int) := zI_p1 c
  rw [hb, e1]
  refine ⟨fun z => ⟨⟨c + 1, by omega, rfl, ?_⟩, mux 1000 (by omega) (by omega) (by omega)⟩, fun z => ⟨zI_in (by omega) (by omega) (by omega), ⟨c + 1, by omega, rfl, ?_⟩, mux 1000 (by omega) (by omega) (by omega)⟩⟩
  · simp only [snU]; rw [if_neg z]
  · simp only [snU]; rw [if_pos z, zI_clN (by omega), h c (by omega), zI_or]
theorem x_tell (h : XR x A) {f : Nat} (hf : f ≤ 99) {Q : XS → Prop} (hq : ∀ x', XR x' A → (∀ c, c < 6 → x'.2.1 27 c = zI (snM A.1 f c)) → Q x') : wp_X6_tellSeen x 29 27 (zI f) Q := by
  refine s_tellSeen xk_29 h.1.2 h.1.1 hf (fun x' hB hv => hq x' (XR_B h (Or.inl rfl) hB) (fun c hc => ?_))
  obtain ⟨m, e, hm⟩ := hv c hc
  rw [e, snM_is h.1.2 hc hm]
noncomputable def aSeen (A : AS) (p f : Int) : Int := if 0 ≤ p ∧ p ≤ 63 ∧ 0 ≤ f ∧ f ≤ 99 then (snU A.1 f.toNat p.toNat 6 : Nat) else -1
theorem x_seen (h : XR x A) {p f : Int} (h1 : -2147483648 ≤ p) (h2 : p < 2147483648) (h3 : -2147483648 ≤ f) (h4 : f < 2147483648) {Q : Int32 → XS → Prop} (hq : ∀ x', XR x' A → Q (zI (aSeen A p f)) x') : wp_X11_seen x (zI p) (zI f) Q := by
  unfold aSeen at hq
  refine s_within (a := 0) (b := 63) h1 h2 (by omega) (by omega) (by omega) (by omega) (fun z => ⟨fun q => absurd q (by decide), fun _ => ?_⟩) (fun z => ⟨fun _ => by rw [if_neg (by omega)] at hq; exact hq x h, fun q => absurd rfl q⟩)
  refine s_within (a := 0) (b := 99) h3 h4 (by omega) (by omega) (by omega) (by omega) (fun z2 => ⟨fun _ => ?_, fun q => absurd q (by decide)⟩) (fun z2 => ⟨fun q => absurd rfl q, fun _ => by rw [if_neg (by omega)] at hq; exact hq x h⟩)
  rw [if_pos (by omega)] at hq
  obtain ⟨p, rfl⟩ : ∃ j : Nat, p = j := ⟨p.toNat, by omega⟩
  obtain ⟨f, rfl⟩ : ∃ j : Nat, f = j := ⟨f.toNat, by omega⟩
  exact x_tell h (by omega) (fun x' h' hv => s_seenInAll (by omega) hv (hq x' h'))
/-- the smallest set of cells in which all of p is seen, from the mask k on -/
noncomputable def hlS (L : LK) (f p : Nat) : Nat → Nat → Int → Int
  | 0, _, b => b
  | r + 1, k, b => hlS L f p r (k + 1) (if msL p (snU L f k 6) = 0 ∧ (b < 0 ∨ pc k < pc b.toNat) then (k : Nat) else b)
noncomputable def aHoles (A : AS) (p f : Int) : Int := if 0 ≤ p ∧ p ≤ 1023 ∧ 0 ≤ f ∧ f ≤ 99 then hlS A.1 f.toNat p.toNat 64 0 (-4) else -1
theorem pc7 : ∀ k, k < 64 → pc k < 7 := by decide +kernel
theorem x_holes (h : XR x A) {p f : Int} (h1 : -2147483648 ≤ p) (h2 : p < 2147483648) (h3 : -2147483648 ≤ f) (h4 : f < 2147483648) {Q : Int32 → XS → Prop} (hq : ∀ x', XR x' A → Q (zI (aHoles A p f)) x') : wp_X11_holes x (zI p) (zI f) Q := by
  unfold aHoles at hq
  refine s_within (a := 0) (b := 1023) h1 h2 (by omega) (by omega) (by omega) (by omega) (fun z => ⟨fun q => absurd q (by decide), fun _ => ?_⟩) (fun z => ⟨fun _ => by rw [if_neg (by omega)] at hq; exact hq x h, fun q => absurd rfl q⟩)
  refine s_within (a := 0) (b := 99) h3 h4 (by omega) (by omega) (by omega) (by omega) (fun z2 => ⟨fun _ => ?_, fun q => absurd q (by decide)⟩) (fun z2 => ⟨fun q => absurd rfl q, fun _ => by rw [if_neg (by omega)] at hq; exact hq x h⟩)
  rw [if_pos (by omega)] at hq
  obtain ⟨p, rfl⟩ : ∃ j : Nat, p = j := ⟨p.toNat, by omega⟩
  obtain ⟨f, rfl⟩ : ∃ j : Nat, f = j := ⟨f.toNat, by omega⟩
  refine x_tell h (by omega) (fun x3 h' hv => ?_)
  have hq := hq x3 h'
  simp only [Int.toNat_natCast] at hq
  refine ⟨fun y4 y5 y6 => ∃ (k r : Nat) (b : Int), k + r = 64 ∧ y6 = zI k ∧ y4 = zI b ∧ (b = -4 ∨ 0 ≤ b ∧ b < 64) ∧ y5 = zI (if b < 0 then 7 else ((pc b.toNat : Nat) : Int)) ∧ hlS A.1 f p 64 0 (-4) = hlS A.1 f p r k b, fun _ _ y6 => 1000 - y6.toInt.toNat, ⟨0, 64, -4, by omega, rfl, rfl, by omega, rfl, rfl⟩, ?_⟩
  rintro y4 y5 y6 ⟨k, r, b, hk, rfl, rfl, hb, rfl, he⟩
  rw [he] at hq
  rw [show (64 : Int32) = zI 64 from rfl, zI_le (by omega) (by omega) (by omega) (by omega)]
  refine ⟨fun c => ?_, fun c => ?_⟩
  · have e : r = 0 := by omega
    subst e; exact hq
  obtain ⟨r, rfl⟩ : ∃ j, r = j + 1 := ⟨r - 1, by omega⟩
  have e1 : zI (k : Int) + 1 = zI ((k + 1 : Nat) : Int) := zI_p1 k
  have hpk := pc_b k
  have hpb := pc_b b.toNat
  have hp7 := pc7 k (by omega)
  refine s_bitCount (by omega) ?_
  have hy5 : (-2147483648 : Int) ≤ (if b < 0 then 7 else ((pc b.toNat : Nat) : Int)) ∧ (if b < 0 then 7 else ((pc b.toNat : Nat) : Int)) < 2147483648 := by split <;> omega
  rw [zI_le hy5.1 hy5.2 (by omega) (by omega), e1]
  have nx : ∀ b' : Int, hlS A.1 f p (r + 1) k b = hlS A.1 f p r (k + 1) b' → (b' = -4 ∨ 0 ≤ b' ∧ b' < 64) → ∀ v : Int32, v = zI (if b' < 0 then 7 else ((pc b'.toNat : Nat) : Int)) → (∃ (k_1 r : Nat) (b : Int), k_1 + r = 64 ∧ zI ((k + 1 : Nat) : Int) = zI k_1 ∧ zI b' = zI b ∧ (b = -4 ∨ 0 ≤ b ∧ b < 64) ∧ v = zI (if b < 0 then 7 else ((pc b.toNat : Nat) : Int)) ∧ hlS A.1 f p 64 0 (-4) = hlS A.1 f p r k_1 b) ∧ 1000 - (zI ((k + 1 : Nat) : Int)).toInt.toNat < 1000 - (zI (k : Int)).toInt.toNat := fun b' e hb' v hv =>
    ⟨⟨k + 1, r, b', by omega, rfl, rfl, hb', hv, he.trans e⟩, mux 1000 (by omega) (by omega) (by omega)⟩
  refine ⟨fun c2 => nx b ?_ hb _ rfl, fun c2 => ?_⟩
  · simp only [hlS]; rw [if_neg]
    rintro ⟨_, c3 | c3⟩
    · rw [if_pos c3] at c2; omega
    · split at c2 <;> omega
  · refine s_seenInAll (by omega) hv ?_
    rw [zI_msL, show (0 : Int32) = zI 0 from rfl]
    have hle := msL_le p (snU A.1 f k 6)
    rw [zI_eq (by omega) (by omega) (by omega) (by omega)]
    refine ⟨fun c3 => nx b ?_ hb _ rfl, fun c3 => ?_⟩
    · simp only [hlS]; rw [if_neg]
      rintro ⟨c4, _⟩
      omega
    · refine s_bitCount (by omega) (nx (k : Nat) ?_ (by omega) _ ?_)
      · simp only [hlS]; rw [if_pos]
        refine ⟨by omega, ?_⟩
        by_cases c5 : b < 0
        · exact Or.inl c5
        · rw [if_neg c5] at c2; exact Or.inr (by omega)
      · rw [if_neg (by omega), Int.toNat_natCast]
end ASM
