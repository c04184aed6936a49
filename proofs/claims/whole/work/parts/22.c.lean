/-! ===== cells that change ===== -/
/-- all but the cell b stays -/
def XF (x x' : XS) (b : Nat) : Prop := x'.2.2 = x.2.2 ∧ (∀ i k, ¬ (i = b ∧ k = 6) → x'.1 i k = x.1 i k) ∧ (∀ t, ¬ (b < t ∧ t ≤ b + 6) → x'.2.1 t = x.2.1 t)
theorem XF_rf (x : XS) (b : Nat) : XF x x b := ⟨rfl, fun _ _ _ => rfl, fun _ _ => rfl⟩
theorem XF_tr {x y z : XS} {b : Nat} (h1 : XF x y b) (h2 : XF y z b) : XF x z b := ⟨h2.1.trans h1.1, fun i k h => (h2.2.1 i k h).trans (h1.2.1 i k h), fun t h => (h2.2.2 t h).trans (h1.2.2 t h)⟩
theorem XF_A {x : XS} {b t : Nat} (h1 : b < t) (h2 : t ≤ b + 6) (f : Nat → Int32) : XF x (xA x t f) b := ⟨rfl, fun _ _ _ => rfl, fun u h => by simp only [xA, va_up]; rw [if_neg (by rintro rfl; exact h ⟨h1, h2⟩)]⟩
theorem XF_I (x : XS) (b : Nat) (v : Int32) : XF x (xI x b 6 v) b := ⟨rfl, fun i k h => by simp only [xI]; rw [if_neg h], fun _ _ => rfl⟩
/-- to cut: layers and fingers that are left -/
def cutS (F : Nat → Nat) : Nat → Nat → Nat × (Nat → Nat)
  | 0, _ => (0, F)
  | j + 1, l => if l = 0 then (j + 1, F) else if F j ≤ l then cutS F j (l - F j) else (j + 1, fun i => if i = j then F j - l else F i)
theorem cutS_le (F : Nat → Nat) : ∀ n l, (cutS F n l).1 ≤ n
  | 0, _ => Nat.le_refl _
  | j + 1, l => by
    unfold cutS
    split
    · exact Nat.le_refl _
    · split
      · exact Nat.le_succ_of_le (cutS_le F j _)
      · exact Nat.le_refl _
theorem cutS_0 (F : Nat → Nat) (n : Nat) : cutS F n 0 = (n, F) := by cases n <;> simp [cutS]
theorem cutS_F (F : Nat → Nat) : ∀ n l i, i < (cutS F n l).1 → (cutS F n l).2 i ≤ F i ∧ (1 ≤ F i → 1 ≤ (cutS F n l).2 i)
  | 0, _, i, h => absurd h (Nat.not_lt_zero _)
  | j + 1, l, i, h => by
    unfold cutS at h ⊢
    split at h
    · rename_i c; simp only [c, if_true]; exact ⟨Nat.le_refl _, id⟩
    · rename_i c
      split at h
      · rename_i c2; simp only [c, c2, if_true, if_false]; exact cutS_F F j _ i h
      · rename_i c2; simp only [c, c2, if_false]; by_cases e : i = j
        · subst e; simp only [if_true]; omega
        · simp only [e, if_false]; exact ⟨Nat.le_refl _, id⟩
theorem cOK_cut {n : Nat} {K O W F : Nat → Nat} (ok : cOK n K O W F) (l : Nat) : cOK (cutS F n l).1 K O W (cutS F n l).2 := by
  have h1 := cutS_le F n l
  refine ⟨Nat.le_trans h1 ok.1, fun i hi => ?_⟩
  have h2 := ok.2 i (by omega)
  have h3 := cutS_F F n l i hi
  exact ⟨h2.1, h2.2.1, h2.2.2.1, h3.2 h2.2.2.2.1, Nat.le_trans h3.1 h2.2.2.2.2⟩
theorem cOK_le {n m : Nat} {K O W F : Nat → Nat} (ok : cOK n K O W F) (h : m ≤ n) : cOK m K O W F := ⟨Nat.le_trans h ok.1, fun i hi => ok.2 i (by omega)⟩
section CXW
variable {x : XS} {b n : Nat} {K O W F : Nat → Nat}
theorem CX_set4 (h : CX x b n K O W F) (j v : Nat) : CX (xA x (b + 4) (upd (x.2.1 (b + 4)) j (zI v))) b n K O W (fun i => if i = j then v else F i) := by
  refine ⟨h.1, fun i hi => ?_⟩
  have h1 := h.2 i hi
  by_cases e : i = j
  · subst e
    simp [xA, va_up, upd, h1]
  · simp [xA, va_up, upd, h1, e]
theorem CX_n (h : CX x b n K O W F) {m : Nat} (hm : m ≤ n) : CX (xI x b 6 (zI m)) b m K O W F := by
  refine ⟨by simp [xI], fun i hi => ?_⟩
  have h1 := h.2 i (by omega)
  simpa [xI] using h1
theorem CX_F {F' : Nat → Nat} (h : CX x b n K O W F) (e : ∀ i, i < n → F' i = F i) : CX x b n K O W F' := ⟨h.1, fun i hi => by rw [e i hi]; exact h.2 i hi⟩
theorem s_cutOff (ok : cOK n K O W F) (h : CX x b n K O W F) {l : Nat} (hl : l ≤ 1000) {Q : Int32 → XS → Prop} (hq : ∀ x', CX x' b (cutS F n l).1 K O W (cutS F n l).2 → XF x x' b → Q (zI (n - (cutS F n l).1 : Int)) x') : wp_X2_cutOff x b (zI l) Q := by
  have hn := ok.1
  have hle := cutS_le F n l
  refine ⟨fun y1 y2 x3 => (∃ j k : Nat, j ≤ n ∧ k ≤ l ∧ y1 = zI k ∧ y2 = zI (j - 1) ∧ CX x3 b j K O W F ∧ XF x x3 b ∧ cutS F n l = cutS F j k) ∨ (∃ j : Nat, j ≤ n ∧ y1 = zI 0 ∧ y2 = zI (j - 1) ∧ CX x3 b (cutS F n l).1 K O W (cutS F n l).2 ∧ XF x x3 b), fun _ y2 _ => (y2.toInt + 1).toNat, ?_, ?_⟩
  · refine Or.inl ⟨n, l, Nat.le_refl _, Nat.le_refl _, rfl, ?_, h, XF_rf x b, rfl⟩
    rw [h.1]; simp only [zN]
  · rintro y1 y2 x3 (⟨j, k, hj, hk, rfl, rfl, hX, hF, he⟩ | ⟨j, hj, rfl, rfl, hX, hF⟩)
    · by_cases cj : j = 0
      · refine s_hasO (by omega) hX.1 (by omega) (by omega) (by omega) ?_
        subst cj
        have h3 := hq x3 (by rw [he]; exact hX) hF
        refine ⟨fun _ => ?_, fun c => absurd (show (zI 0 : Int32) = 0 by decide) c⟩
        rw [h.1, hX.1]; simp only [zN]; rw [he] at h3; exact h3
      obtain ⟨i, rfl⟩ : ∃ i, j = i + 1 := ⟨j - 1, by omega⟩
      rw [show ((i + 1 : Nat) : Int) - 1 = (i : Int) by omega]
      refine s_hasI (by omega) hX.1 (Nat.lt_succ_self i) ?_
      refine ⟨fun c => absurd c (by decide), fun _ => ?_⟩
      simp (disch := omega) only [zN, zL]
      refine ⟨fun c2 => ?_, fun c2 => ?_⟩
      · have e : k = 0 := by omega
        subst e
        rw [cutS_0] at he
        have h3 := hq x3 (by rw [he]; exact hX) hF
        rw [h.1, hX.1]; simp only [zN]; rw [he] at h3; exact h3
      · have oki := (ok.2 i (by omega))
        refine s_thickAt (cOK_le ok hj) hX (by omega) ?_
        have hin : vp_in (zI (i : Int)) 8 := zI_in (by omega) (by omega) (by omega)
        have ecl : (zI (i : Int)).toNatClampNeg = i := zI_clN (by omega)
        rw [ecl, ((hX.2 i (by omega)).2.2.2.1)]
        refine ⟨hin, hin, fun x5 e5 => ⟨hin, ?_⟩⟩
        by_cases cF : F i ≤ k
        · have em : (if zI (F i : Int) < zI (k : Int) then zI (F i : Int) else zI (k : Int)) = zI (F i : Int) := by
            by_cases q : F i < k
            · rw [if_pos ((zI_lt (by omega) (by omega) (by omega) (by omega)).mpr (by omega))]
            · rw [if_neg (fun z => q (by have := (zI_lt (by omega) (by omega) (by omega) (by omega)).mp z; omega))]
              congr 1; omega
          rw [em] at e5 ⊢
          have ev : zI (F i : Int) - zI (F i : Int) = zI ((0 : Nat) : Int) := by rw [zI_sub, Int.sub_self]; rfl
          rw [ev] at e5
          have hX5 := CX_set4 hX i 0
          rw [← e5] at hX5
          have h50 : x5.2.1 (b + 4) i = zI 0 := by have := (hX5.2 i (by omega)).2.2.2.1; simpa using this
          rw [h50]
          refine ⟨fun z => absurd rfl z, fun _ x6 e6 => ?_⟩
          rw [hX5.1, show zI ((i + 1 : Nat) : Int) - zI 1 = zI (i : Int) by rw [zI_sub]; congr 1; omega] at e6
          have hX6 := CX_n hX5 (m := i) (by omega)
          rw [← e6] at hX6
          have hX6 : CX x6 b i K O W F := CX_F hX6 (fun a ha => by rw [if_neg (by omega)])
          have hF6 : XF x x6 b := XF_tr hF (XF_tr (y := x5) (by rw [e5]; exact XF_A (by omega) (by omega) _) (by rw [e6]; exact XF_I _ _ _))
          have he' : cutS F n l = cutS F i (k - F i) := by rw [he]; simp [cutS, show k ≠ 0 by omega, cF]
          refine ⟨Or.inl ⟨i, k - F i, by omega, by omega, ?_, ?_, hX6, hF6, he'⟩, ?_⟩
          · rw [zI_sub]; congr 1; omega
          · congr 1
          · rw [zI_t (by omega) (by omega), zI_t (by omega) (by omega)]; omega
        · have em : (if zI (F i : Int) < zI (k : Int) then zI (F i : Int) else zI (k : Int)) = zI (k : Int) := by
            rw [if_neg (fun z => cF (by have := (zI_lt (by omega) (by omega) (by omega) (by omega)).mp z; omega))]
          rw [em] at e5 ⊢
          have ev : zI (F i : Int) - zI (k : Int) = zI ((F i - k : Nat) : Int) := by rw [zI_sub]; congr 1; omega
          rw [ev] at e5
          have hX5 := CX_set4 hX i (F i - k)
          rw [← e5] at hX5
          have h50 : x5.2.1 (b + 4) i = zI ((F i - k : Nat) : Int) := by have := (hX5.2 i (by omega)).2.2.2.1; simpa using this
          rw [h50]
          have he' : cutS F n l = (i + 1, fun a => if a = i then F i - k else F a) := by rw [he]; simp [cutS, show k ≠ 0 by omega, cF]
          simp (disch := omega) only [zN, zL]
          refine ⟨fun _ => ⟨Or.inr ⟨i, by omega, ?_, ?_, by rw [he']; exact hX5, XF_tr hF (by rw [e5]; exact XF_A (by omega) (by omega) _)⟩, ?_⟩, fun z => absurd z (by omega)⟩
          · congr 1; omega
          · congr 1
          · rw [zI_t (by omega) (by omega), zI_t (by omega) (by omega)]; omega
    · have h3 := hq x3 hX hF
      have h4 : Q (x.1 b 6 - x3.1 b 6) x3 := by rw [h.1, hX.1]; simp only [zN]; exact h3
      refine s_has (by omega) hX.1 (by omega) (by omega) ?_
      exact ⟨fun _ => h4, fun _ => ⟨fun _ => h4, fun c => absurd (show (zI 0 : Int32) ≤ 0 by decide) c⟩⟩
/-- a warm day -/
def wrm (K O F : Nat → Nat) : Nat → Nat × (Nat → Nat)
  | 0 => (0, F)
  | k + 1 => if F k ≤ melt (K k) (O k) then (k, F) else (k + 1, fun i => if i = k then F k - melt (K k) (O k) else F i)
theorem s_warmDay (ok : cOK n K O W F) (h : CX x b n K O W F) {Q : Int32 → XS → Prop} (hq : ∀ x', CX x' b (wrm K O F n).1 K O W (wrm K O F n).2 → XF x x' b → Q (zI (n - (wrm K O F n).1 : Int)) x') : wp_X2_warmDay x b Q := by
  have hn := ok.1
  unfold wp_X2_warmDay
  rw [h.1]
  cases n with
  | zero =>
    rw [show zI ((0 : Nat) : Int) - 1 = zI (-1) from rfl]
    refine s_hasO ok.1 h.1 (by omega) (by omega) (by omega) ?_
    refine ⟨fun _ => ?_, fun c => absurd rfl c⟩
    exact hq x h (XF_rf x b)
  | succ k =>
    rw [show zI ((k + 1 : Nat) : Int) - 1 = zI (k : Int) by simp only [zN]; congr 1; omega]
    have okk := ok.2 k (by omega)
    have hm := melt_b (k := K k) okk.2.1
    refine s_hasI ok.1 h.1 (by omega) ?_
    refine ⟨fun c => absurd c (by decide), fun _ => ?_⟩
    refine s_meltsAt ok h (by omega) ?_
    refine s_thickAt ok h (by omega) ?_
    by_cases c : F k ≤ melt (K k) (O k)
    · have em : (if zI (F k : Int) < zI (melt (K k) (O k) : Int) then zI (F k : Int) else zI (melt (K k) (O k) : Int)) = zI (F k : Int) := by
        by_cases q : F k < melt (K k) (O k)
        · rw [if_pos ((zI_lt (by omega) (by omega) (by omega) (by omega)).mpr (by omega))]
        · rw [if_neg (fun z => q (by have := (zI_lt (by omega) (by omega) (by omega) (by omega)).mp z; omega))]
          congr 1; omega
      rw [em]
      have e1 : cutS F (k + 1) (F k) = (k, F) := by simp [cutS, cutS_0, show F k ≠ 0 by omega]
      have e2 : wrm K O F (k + 1) = (k, F) := by simp [wrm, c]
      refine s_cutOff ok h (by omega) ?_
      rw [e1]; rw [e2] at hq; exact hq
    · have em : (if zI (F k : Int) < zI (melt (K k) (O k) : Int) then zI (F k : Int) else zI (melt (K k) (O k) : Int)) = zI (melt (K k) (O k) : Int) := by
        rw [if_neg (fun z => c (by have := (zI_lt (by omega) (by omega) (by omega) (by omega)).mp z; omega))]
      rw [em]
      have e1 : cutS F (k + 1) (melt (K k) (O k)) = (k + 1, fun i => if i = k then F k - melt (K k) (O k) else F i) := by simp [cutS, c, show melt (K k) (O k) ≠ 0 by omega]
      have e2 : wrm K O F (k + 1) = (k + 1, fun i => if i = k then F k - melt (K k) (O k) else F i) := by simp [wrm, c]
      refine s_cutOff ok h (by omega) ?_
      rw [e1]; rw [e2] at hq; exact hq
theorem cOK_wrm (ok : cOK n K O W F) : cOK (wrm K O F n).1 K O W (wrm K O F n).2 := by
  cases n with
  | zero => exact ok
  | succ k =>
    by_cases c : F k ≤ melt (K k) (O k)
    · have e2 : wrm K O F (k + 1) = (k, F) := by simp [wrm, c]
      rw [e2]; exact cOK_le ok (by omega)
    · have e2 : wrm K O F (k + 1) = (k + 1, fun i => if i = k then F k - melt (K k) (O k) else F i) := by simp [wrm, c]
      rw [e2]
      refine ⟨ok.1, fun i hi => ?_⟩
      have h2 := ok.2 i hi
      by_cases e : i = k
      · subst e; simp only [if_true]; exact ⟨h2.1, h2.2.1, h2.2.2.1, by omega, by omega⟩
      · simp only [e, if_false]; exact h2
end CXW
