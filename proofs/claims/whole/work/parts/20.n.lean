/-! ===== numbers: an int by its value ===== -/
def zI (z : Int) : Int32 := Int32.ofInt z
theorem zI_add (a b : Int) : zI a + zI b = zI (a + b) := (Int32.ofInt_add a b).symm
theorem zI_sub (a b : Int) : zI a - zI b = zI (a - b) := (Int32.ofInt_sub a b).symm
theorem zI_mul (a b : Int) : zI a * zI b = zI (a * b) := (Int32.ofInt_mul a b).symm
theorem zI_neg (a : Int) : -zI a = zI (-a) := (Int32.ofInt_neg a).symm
theorem zI_t {a : Int} (h1 : -2147483648 ≤ a) (h2 : a < 2147483648) : (zI a).toInt = a := Int32.toInt_ofInt_of_le (by omega) (by omega)
theorem zI_le {a b : Int} (h1 : -2147483648 ≤ a) (h2 : a < 2147483648) (h3 : -2147483648 ≤ b) (h4 : b < 2147483648) : zI a ≤ zI b ↔ a ≤ b := by rw [Int32.le_iff_toInt_le, zI_t h1 h2, zI_t h3 h4]
theorem zI_lt {a b : Int} (h1 : -2147483648 ≤ a) (h2 : a < 2147483648) (h3 : -2147483648 ≤ b) (h4 : b < 2147483648) : zI a < zI b ↔ a < b := by rw [Int32.lt_iff_toInt_lt, zI_t h1 h2, zI_t h3 h4]
theorem zI_eq {a b : Int} (h1 : -2147483648 ≤ a) (h2 : a < 2147483648) (h3 : -2147483648 ≤ b) (h4 : b < 2147483648) : zI a = zI b ↔ a = b := by rw [← Int32.toInt_inj, zI_t h1 h2, zI_t h3 h4]
theorem zI_cl {a : Int} (h1 : 0 ≤ a) (h2 : a < 2147483648) : (zI a).toNatClampNeg = a.toNat := Int32.toNatClampNeg_ofInt_of_le (by omega) (by omega)
theorem zI_clN {a : Nat} (h2 : a < 2147483648) : (zI a).toNatClampNeg = a := by rw [zI_cl (by omega) (by omega)]; rfl
theorem zI_ex (x : Int32) : ∃ z : Int, -2147483648 ≤ z ∧ z < 2147483648 ∧ x = zI z := ⟨x.toInt, Int32.le_toInt x, Int32.toInt_lt x, (Int32.ofInt_toInt x).symm⟩
theorem zI_in {a : Int} {N : Nat} (h1 : 0 ≤ a) (h2 : a < N) (h3 : N < 2147483648) : vp_in (zI a) N := by
  rintro (h | h)
  · have h0 : (0 : Int32) = zI 0 := rfl
    rw [h0, zI_lt (by omega) (by omega) (by omega) (by omega)] at h
    omega
  · rw [zI_cl h1 (by omega)] at h
    omega
theorem zI_in' {a : Int} {N : Nat} (h : vp_in (zI a) N) (h1 : -2147483648 ≤ a) (h2 : a < 2147483648) : 0 ≤ a ∧ a < N := by
  unfold vp_in at h
  have h0 : (0 : Int32) = zI 0 := rfl
  rw [h0, zI_lt h1 h2 (by omega) (by omega)] at h
  by_cases hn : a < 0
  · exact absurd (Or.inl hn) h
  · refine ⟨by omega, ?_⟩
    by_cases hN : a < N
    · exact hN
    · exact absurd (Or.inr (by rw [zI_cl (by omega) h2]; omega)) h
/-- written numbers, sums, comparisons: one name for simp -/
theorem zN : (∀ a b : Int, zI a + zI b = zI (a + b)) ∧ (∀ a b : Int, zI a - zI b = zI (a - b)) ∧ (∀ a b : Int, zI a * zI b = zI (a * b)) ∧ (∀ a : Int, -zI a = zI (-a))
    ∧ (∀ a b : Int, -2147483648 ≤ a → a < 2147483648 → -2147483648 ≤ b → b < 2147483648 → (zI a ≤ zI b ↔ a ≤ b)) ∧ (∀ a b : Int, -2147483648 ≤ a → a < 2147483648 → -2147483648 ≤ b → b < 2147483648 → (zI a < zI b ↔ a < b)) ∧ (∀ a b : Int, -2147483648 ≤ a → a < 2147483648 → -2147483648 ≤ b → b < 2147483648 → (zI a = zI b ↔ a = b))
    ∧ (0 : Int32) = zI 0 ∧ (1 : Int32) = zI 1 ∧ (2 : Int32) = zI 2 ∧ (3 : Int32) = zI 3 ∧ (4 : Int32) = zI 4 ∧ (5 : Int32) = zI 5 ∧ (6 : Int32) = zI 6 ∧ (7 : Int32) = zI 7 ∧ (8 : Int32) = zI 8 ∧ (9 : Int32) = zI 9 ∧ (10 : Int32) = zI 10 ∧ (11 : Int32) = zI 11 ∧ (12 : Int32) = zI 12 ∧ (13 : Int32) = zI 13 ∧ (14 : Int32) = zI 14 ∧ (15 : Int32) = zI 15 ∧ (28 : Int32) = zI 28 ∧ (40 : Int32) = zI 40 ∧ (48 : Int32) = zI 48 ∧ (57 : Int32) = zI 57 ∧ (59 : Int32) = zI 59 ∧ (63 : Int32) = zI 63 ∧ (64 : Int32) = zI 64 ∧ (98 : Int32) = zI 98 ∧ (99 : Int32) = zI 99 ∧ (100 : Int32) = zI 100 ∧ (110 : Int32) = zI 110 ∧ (116 : Int32) = zI 116 ∧ (119 : Int32) = zI 119 ∧ (255 : Int32) = zI 255 ∧ (1000 : Int32) = zI 1000 ∧ (1023 : Int32) = zI 1023 ∧ (2000 : Int32) = zI 2000 ∧ (200 : Int32) = zI 200 ∧ (206 : Int32) = zI 206 ∧ (65536 : Int32) = zI 65536 ∧ (128 : Int32) = zI 128 ∧ (32768 : Int32) = zI 32768 :=
  ⟨zI_add, zI_sub, zI_mul, zI_neg, fun _ _ h1 h2 h3 h4 => zI_le h1 h2 h3 h4, fun _ _ h1 h2 h3 h4 => zI_lt h1 h2 h3 h4, fun _ _ h1 h2 h3 h4 => zI_eq h1 h2 h3 h4, rfl, rfl, rfl, rfl, rfl, rfl, rfl, rfl, rfl, rfl, rfl, rfl, rfl, rfl, rfl, rfl, rfl, rfl, rfl, rfl, rfl, rfl, rfl, rfl, rfl, rfl, rfl, rfl, rfl, rfl, rfl, rfl, rfl, rfl, rfl, rfl, rfl, rfl⟩
/-- sums -/
def sg (f : Nat → Nat) : Nat → Nat
  | 0 => 0
  | n + 1 => sg f n + f n
theorem sg_s (f : Nat → Nat) (n : Nat) : sg f (n + 1) = sg f n + f n := rfl
theorem sg_mono (f : Nat → Nat) {m n : Nat} (h : m ≤ n) : sg f m ≤ sg f n := by
  induction n with
  | zero => have : m = 0 := by omega
            subst this; exact Nat.le_refl _
  | succ n ih =>
    by_cases hm : m = n + 1
    · subst hm; exact Nat.le_refl _
    · have := ih (by omega)
      rw [sg_s]; omega
theorem sg_le {f : Nat → Nat} {c n : Nat} (h : ∀ i, i < n → f i ≤ c) : sg f n ≤ n * c := by
  induction n with
  | zero => exact Nat.zero_le _
  | succ n ih =>
    have h1 := ih (fun i hi => h i (by omega))
    have h2 := h n (by omega)
    rw [sg_s, Nat.succ_mul]; omega
theorem sg_cong {f g : Nat → Nat} {n : Nat} (h : ∀ i, i < n → f i = g i) : sg f n = sg g n := by
  induction n with
  | zero => rfl
  | succ n ih => rw [sg_s, sg_s, ih (fun i hi => h i (by omega)), h n (by omega)]
/-- bits -/
def Msk (m : Nat) (P : Nat → Prop) : Prop := ∀ j, m.testBit j = true ↔ P j
theorem Msk_one {m k : Nat} {P R : Nat → Prop} (h : Msk m P) (h2 : Msk k R) (e : ∀ j, P j ↔ R j) : m = k := by
  apply Nat.eq_of_testBit_eq
  intro j
  have h3 := (h j).trans ((e j).trans (h2 j).symm)
  cases h4 : m.testBit j <;> cases h5 : k.testBit j <;> simp [h4, h5] at h3 <;> rfl
theorem Msk_0 : Msk 0 (fun _ => False) := fun j => by simp
theorem Msk_or {m o : Nat} {P : Nat → Prop} (h : Msk m P) : Msk (m ||| 2 ^ o) (fun j => P j ∨ j = o) := by
  intro j
  rw [Nat.testBit_or, Bool.or_eq_true, h j, Nat.testBit_two_pow]
  simp [eq_comm]
theorem Msk_or2 {m k : Nat} {P R : Nat → Prop} (h : Msk m P) (h2 : Msk k R) : Msk (m ||| k) (fun j => P j ∨ R j) := by
  intro j
  rw [Nat.testBit_or, Bool.or_eq_true, h j, h2 j]
theorem Msk_iff {m : Nat} {P R : Nat → Prop} (h : Msk m P) (e : ∀ j, P j ↔ R j) : Msk m R := fun j => (h j).trans (e j)
theorem zI_tb (z : Int) : (zI z).toBitVec = BitVec.ofInt 32 z := rfl
theorem zI_nI (n : Nat) : zI n = nI n := by
  apply Int32.toBitVec.inj
  show BitVec.ofInt 32 n = BitVec.ofNat 32 n
  simp
theorem zI_or (a b : Nat) : zI a ||| zI b = zI ((a ||| b : Nat) : Int) := by
  apply Int32.toBitVec.inj
  rw [Int32.toBitVec_or]
  show BitVec.ofInt 32 a ||| BitVec.ofInt 32 b = BitVec.ofInt 32 ((a ||| b : Nat) : Int)
  simp
theorem zI_and (a b : Nat) : zI a &&& zI b = zI ((a &&& b : Nat) : Int) := by
  apply Int32.toBitVec.inj
  rw [Int32.toBitVec_and]
  show BitVec.ofInt 32 a &&& BitVec.ofInt 32 b = BitVec.ofInt 32 ((a &&& b : Nat) : Int)
  simp
theorem zI_shl0 : ∀ o, o < 31 → (1 : Int32) <<< (nI o &&& 31) = nI (2 ^ o) := by decide +kernel
theorem zI_shl {o : Nat} (h : o < 31) : (1 : Int32) <<< (zI o &&& 31) = zI ((2 ^ o : Nat) : Int) := by
  rw [zI_nI, zI_nI]
  exact zI_shl0 o h
theorem zL : (∀ p : Prop, (False → p) = True) ∧ (∀ p : Prop, (True → p) = p) ∧ (∀ p : Prop, (True ∧ p) = p) ∧ (∀ p : Prop, (p ∧ True) = p) ∧ (¬ False) = True ∧ (¬ True) = False ∧ (∀ p : Prop, (False ∧ p) = False) ∧ (∀ p : Prop, (p ∧ False) = False) :=
  ⟨fun _ => propext ⟨fun _ => trivial, fun _ h => h.elim⟩, fun _ => propext ⟨fun h => h trivial, fun h _ => h⟩, fun _ => propext ⟨fun h => h.2, fun h => ⟨trivial, h⟩⟩, fun _ => propext ⟨fun h => h.1, fun h => ⟨h, trivial⟩⟩, propext ⟨fun _ => trivial, fun _ h => h⟩, propext ⟨fun h => h trivial, fun h => h.elim⟩, fun _ => propext ⟨fun h => h.1, fun h => h.elim⟩, fun _ => propext ⟨fun h => h.2, fun h => h.elim⟩⟩
theorem zb0 : zb (zI 0) := Or.inl rfl
theorem zb1 : zb (zI 1) := Or.inr rfl
