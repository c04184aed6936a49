/-! ===== the order, joined: the class ===== -/
section ASE
variable {x x' : XS} {A : AS} {L : LK} {S : SH}
theorem x_order (h : XR x A) {w : Int} (h1 : -2147483648 ≤ w) (h2 : w < 2147483648) {Q : Int32 → XS → Prop} (hq : ∀ x', XR x' A → Q (zI (aOrder A w)) x') : wp_X11_order x (zI w) Q := by
  unfold aOrder at hq
  refine s_within (a := 0) (b := 1) h1 h2 (by omega) (by omega) (by omega) (by omega) (fun z => ⟨fun _ => ?_, fun q => absurd q (by decide)⟩) (fun z => ⟨fun q => absurd rfl q, fun _ => by rw [if_neg (by omega)] at hq; exact hq x h⟩)
  rw [if_pos z] at hq
  refine s_tellAllAhead xk_29 h.1.2 h.1.1 (fun x2 hB hv => ?_)
  have h' := XR_B h (Or.inr rfl) hB
  have hq := hq x2 h'
  have ok := h.1.2
  have hx : ∀ o, o < 10 → x2.2.1 28 o = zI (AHm A.1 o) := fun o ho => by
    obtain ⟨m, e, hm⟩ := hv o ho
    rw [e]
    refine zI_c ?_
    have e2 : m = AHm A.1 o := mskO_is (Msk_iff hm (fun j => ⟨fun z => ⟨?_, z⟩, fun z => z.2⟩))
    · rw [e2]
    · obtain ⟨c, hc, _, i, hi, _, k, hk, ek⟩ := z
      have := (ok.2 c hc).2 k (by omega)
      omega
  refine s_allOaths xk_29 ok h'.1.1 (fun m hm => ?_)
  have em : m = allM A.1 := mskO_is (Msk_iff hm (fun o => ⟨fun z => ⟨by obtain ⟨c, i, g1, g2, g3⟩ := z; have := (ok.2 c g1).2 i g2; omega, z⟩, fun z => z.2⟩))
  subst em
  have hb := allM_b A.1
  refine s_bitCount hb ?_
  refine ⟨fun y5 y6 y7 y8 => ∃ (k r : Nat) (a b : Int), y5 = zI k ∧ k < 1024 ∧ y6 = zI a ∧ y7 = zI b ∧ y8 = zI (pc (msL (allM A.1) k)) ∧ pc (msL (allM A.1) k) < r ∧ (k = 0 ↔ a < 0) ∧ (-4 ≤ a ∧ a ≤ 9) ∧ (-4 ≤ b ∧ b ≤ 9) ∧ ordS A.1 11 (allM A.1) (-4) (-4) = ordS A.1 r (msL (allM A.1) k) a b, fun _ _ _ y8 => 1000 + y8.toInt.toNat, ⟨0, 11, -4, -4, rfl, by omega, rfl, rfl, by rw [msL_0 hb], by rw [msL_0 hb]; have := pc_b (allM A.1); omega, by omega, by omega, by omega, by rw [msL_0 hb]⟩, ?_⟩
  rintro y5 y6 y7 y8 ⟨k, r, a, b, rfl, hk, rfl, rfl, rfl, hr, hka, ha, hb2, he⟩
  obtain ⟨r, rfl⟩ : ∃ j, r = j + 1 := ⟨r - 1, by omega⟩
  have hle := msL_le (allM A.1) k
  have hp := pc_b (msL (allM A.1) k)
  have hp0 := pc0 (msL (allM A.1) k) (by omega)
  rw [he] at hq
  unfold ordS at hq
  rw [show (0 : Int32) = zI 0 from rfl, zI_le (by omega) (by omega) (by omega) (by omega), zI_eq h1 h2 (by omega) (by omega)]
  refine ⟨fun c => ?_, fun c => ?_⟩
  · rw [if_pos (by omega)] at hq
    refine ⟨fun c2 => ?_, fun c2 => ?_⟩
    · simp only [] at hq; rw [if_neg c2] at hq; exact hq
    · simp only [] at hq; rw [if_pos c2] at hq; exact hq
  rw [if_neg (by omega)] at hq
  refine s_leastNext ok hx ?_
  cases hn : nxS A.1 (msL (allM A.1) k) 10 0 with
  | none =>
    rw [hn] at hq
    exact ⟨fun q => absurd q (by decide), fun _ => hq⟩
  | some o =>
    rw [hn] at hq
    have ho := nxS_b _ _ _ _ _ hn
    have e1 := pc1 (msL (allM A.1) k) (by omega) o (by omega) ho.2.2
    have e2 := msL_two (k := k) (o := o) hb
    have hk2 : k ||| 2 ^ o < 1024 := Nat.or_lt_two_pow (n := 10) hk (Nat.pow_lt_pow_right (by omega) (by omega))
    have hk0 : k ||| 2 ^ o ≠ 0 := fun z => by
      have : (k ||| 2 ^ o).testBit o = true := by rw [Nat.testBit_or, Nat.testBit_two_pow]; simp
      rw [z] at this; simp at this
    simp only []
    rw [zI_le (by omega) (by omega) (by omega) (by omega), zI_shl (by omega), zI_or, zI_eq (by omega) (by omega) (by omega) (by omega), zI_m1]
    have nx : ∀ a' : Int, a' = (if a < 0 then (o : Int) else a) → (∃ (k_1 r : Nat) (a b : Int), zI ((k ||| 2 ^ o : Nat) : Int) = zI k_1 ∧ k_1 < 1024 ∧ zI a' = zI a ∧ zI (o : Int) = zI b ∧ zI ((pc (msL (allM A.1) k) : Int) - 1) = zI (pc (msL (allM A.1) k_1)) ∧ pc (msL (allM A.1) k_1) < r ∧ (k_1 = 0 ↔ a < 0) ∧ (-4 ≤ a ∧ a ≤ 9) ∧ (-4 ≤ b ∧ b ≤ 9) ∧ ordS A.1 11 (allM A.1) (-4) (-4) = ordS A.1 r (msL (allM A.1) k_1) a b) ∧ 1000 + (zI ((pc (msL (allM A.1) k) : Int) - 1)).toInt.toNat < 1000 + (zI (pc (msL (allM A.1) k) : Int)).toInt.toNat := fun a' ea => by
      refine ⟨⟨k ||| 2 ^ o, r, a', o, rfl, hk2, rfl, rfl, zI_c (by rw [e2]; omega), by rw [e2]; omega, ⟨fun z => absurd z hk0, fun z => ?_⟩, ?_, by omega, ?_⟩, ?_⟩
      · rw [ea] at z; split at z <;> omega
      · rw [ea]; split <;> omega
      · rw [he]
        conv => lhs; unfold ordS
        rw [if_neg (by omega), hn, e2, ea]
      · rw [zI_t (by omega) (by omega), zI_t (by omega) (by omega)]; omega
    refine ⟨fun _ => ⟨fun c3 => nx a ?_, fun c3 => nx o ?_⟩, fun q => absurd (by omega) q⟩
    · rw [if_neg (by omega)]
    · rw [if_pos (by omega)]
theorem layB_at (F : Nat → Nat) : ∀ n j d, j + 1 ≤ n → sg F n ≤ d + sg F (j + 1) → d + sg F j < sg F n → layB F n d = some j
  | 0, j, d, h, _, _ => by omega
  | n + 1, j, d, h, h1, h2 => by
    unfold layB
    rw [sg_s] at h1 h2
    by_cases e : j = n
    · subst e
      rw [if_pos (by omega)]
    · have hm := sg_mono F (show j + 1 ≤ n by omega)
      rw [if_neg (by omega)]
      exact layB_at F n j (d - F n) (by omega) (by omega) (by omega)
theorem layB_no (F : Nat → Nat) : ∀ n d, sg F n ≤ d → layB F n d = none
  | 0, d, h => rfl
  | n + 1, d, h => by
    unfold layB
    rw [sg_s] at h
    rw [if_neg (by omega)]
    exact layB_no F n (d - F n) (by omega)
/-- how many fingers from the top say alike, from finger d on -/
def jnS (L : LK) (c e : Int) : Nat → Nat → Nat
  | 0, d => d
  | r + 1, d => match layB (fL L c) (nL L c) d, layB (fL L e) (nL L e) d with
    | some i, some k => if oL L c i = oL L e k then jnS L c e r (d + 1) else d
    | _, _ => d
theorem jn_chunk {c e : Int} {i k : Nat} (ho : oL L c i = oL L e k) : ∀ t r d, (∀ s, s < t → layB (fL L c) (nL L c) (d + s) = some i ∧ layB (fL L e) (nL L e) (d + s) = some k) → jnS L c e (r + t) d = jnS L c e r (d + t)
  | 0, r, d, _ => rfl
  | t + 1, r, d, h => by
    have h0 := h 0 (by omega)
    rw [Nat.add_zero] at h0
    show jnS L c e (r + t + 1) d = _
    conv => lhs; unfold jnS
    rw [h0.1, h0.2]
    simp only []
    rw [if_pos ho, jn_chunk ho t r (d + 1) (fun s hs => by have := h (s + 1) (by omega); rw [show d + 1 + s = d + (s + 1) by omega]; exact this), show d + 1 + t = d + (t + 1) by omega]
/-- d fingers down: in layer j - 1, u of it left -/
def CI (F : Nat → Nat) (n d j u : Nat) : Prop := (j = 0 ∧ d = sg F n ∧ u = 0) ∨ (1 ≤ j ∧ j ≤ n ∧ 1 ≤ u ∧ u ≤ F (j - 1) ∧ d + sg F (j - 1) + u = sg F n)
theorem CI_at {F : Nat → Nat} {n d j u : Nat} (h : CI F n d j u) (hj : 1 ≤ j) : ∀ s, s < u → layB F n (d + s) = some (j - 1) := fun s hs => by
  rcases h with ⟨h, _⟩ | ⟨h1, h2, h3, h4, h5⟩
  · omega
  · have e := sg_s F (j - 1)
    exact layB_at F n (j - 1) (d + s) (by omega) (by rw [e]; omega) (by omega)
theorem CI_on {F : Nat → Nat} {n d j u t : Nat} (h : CI F n d j u) (hj : 1 ≤ j) (ht : t < u) : CI F n (d + t) j (u - t) := by
  rcases h with ⟨h, _⟩ | ⟨h1, h2, h3, h4, h5⟩
  · omega
  · exact Or.inr ⟨h1, h2, by omega, by omega, by omega⟩
theorem CI_nx {F : Nat → Nat} {n d j u : Nat} (h : CI F n d j u) (hj : 1 ≤ j) (hF : ∀ i, i < n → 1 ≤ F i) : CI F n (d + u) (j - 1) (if j - 1 = 0 then 0 else F (j - 1 - 1)) := by
  rcases h with ⟨h, _⟩ | ⟨h1, h2, h3, h4, h5⟩
  · omega
  · by_cases c : j - 1 = 0
    · rw [if_pos c, c]
      rw [c] at h5
      exact Or.inl ⟨rfl, by simp [sg] at h5; omega, rfl⟩
    · rw [if_neg c]
      have e := sg_s F (j - 1 - 1)
      rw [show j - 1 - 1 + 1 = j - 1 by omega] at e
      exact Or.inr ⟨by omega, by omega, hF _ (by omega), by omega, by omega⟩
end ASE
