/-! ===== the reference: frosts, warm days, cuts ===== -/
section LMU
variable {m m' : MS} {w : Nat} {N N' : Nat → Nat} {K O W F K' O' W' F' : Nat → Nat → Nat} {A : AS} {L : LK}
theorem m_thick {k o f : Nat} (hk : k < 8) (h1 : 1 ≤ f) (h2 : f ≤ 9) {Q : Int32 → Prop} (hq : Q (zI (thk k o f))) : wp_X12_thickOf (zI k) (zI o) (zI f) Q := by
  have hd : zI (f : Int) / 2 = zI ((f / 2 : Nat) : Int) := zI_div (d := 2) (by omega) (by omega) (by omega)
  have h4 : ((4 : Int32) ≤ zI (f : Int)) ↔ 4 ≤ f := by rw [show (4 : Int32) = zI 4 from rfl, zI_le (by omega) (by omega) (by omega) (by omega)]; omega
  unfold wp_X12_thickOf
  have el : ∀ j : Int, 0 ≤ j → j < 100 → (zI (k : Int) = zI j ↔ (k : Int) = j) := fun j h3 h4 => zI_eq (by omega) (by omega) (by omega) (by omega)
  rw [h4, hd, show zI (k : Int) = (0 : Int32) ↔ (k : Int) = 0 from el 0 (by omega) (by omega), show zI (k : Int) = (2 : Int32) ↔ (k : Int) = 2 from el 2 (by omega) (by omega), show zI (k : Int) = (3 : Int32) ↔ (k : Int) = 3 from el 3 (by omega) (by omega), show zI (k : Int) = (5 : Int32) ↔ (k : Int) = 5 from el 5 (by omega) (by omega), show zI (k : Int) = (6 : Int32) ↔ (k : Int) = 6 from el 6 (by omega) (by omega), show zI (k : Int) = (7 : Int32) ↔ (k : Int) = 7 from el 7 (by omega) (by omega)]
  have q : ∀ z : Int, z = thk k o f → Q (zI z) := fun z e => by rw [e]; exact hq
  have e2 : (2 : Int32) * zI (f : Int) = zI (2 * (f : Int)) := by rw [show (2 : Int32) = zI 2 from rfl, zI_mul]
  have e1 : zI (f : Int) + 1 = zI ((f : Int) + 1) := by rw [show (1 : Int32) = zI 1 from rfl, zI_add]
  have e3 : zI (2 * (f : Int)) - 1 = zI (2 * (f : Int) - 1) := by rw [show (1 : Int32) = zI 1 from rfl, zI_sub]
  rw [e2, e1, e3, zI_add]
  unfold thk at q
  refine ⟨fun c => q _ (by rw [if_pos (by omega)]), fun c0 => ⟨fun c => ⟨fun c4 => q _ (by rw [if_neg (by omega), if_pos (by omega), if_neg (by omega)]), fun c4 => q 1 (by rw [if_neg (by omega), if_pos (by omega), if_pos (by omega)]; rfl)⟩, fun c2 => ⟨fun c => q _ (by rw [if_neg (by omega), if_neg (by omega), if_pos (by omega)]; omega), fun c3 => ⟨fun c => q _ (by rw [if_neg (by omega), if_neg (by omega), if_neg (by omega), if_pos (by omega)]; omega), fun c5 => ⟨fun c => q _ (by rw [if_neg (by omega), if_neg (by omega), if_neg (by omega), if_neg (by omega), if_pos (by omega)]; omega), fun c6 => ⟨fun c => q _ (by rw [if_neg (by omega), if_neg (by omega), if_pos (by omega)]; omega), fun c7 => q _ (by rw [if_neg (by omega), if_neg (by omega), if_neg (by omega), if_neg (by omega), if_neg (by omega)]; omega)⟩⟩⟩⟩⟩⟩
theorem m_toll {k o : Nat} (hk : k < 8) {Q : Int32 → Prop} (hq : Q (zI (tol k o))) : wp_X12_tollOf (zI k) (zI o) Q := by
  rcases xl8 hk with rfl | rfl | rfl | rfl | rfl | rfl | rfl | rfl
  all_goals
    unfold wp_X12_tollOf
    simp (disch := omega) only [zN]
    simp [tol] at hq
    simp
    exact hq
theorem m_freezes (ok : lOK w N K O W F) (h : LMw m w N K O W F) {c k o f : Nat} (hc : c < 6) (hk : k < 8) (ho : o < 10) (hf1 : 1 ≤ f) (hf2 : f ≤ 9) {Q : Int32 → MS → Prop}
    (hfu : N c = 8 → Q (zI 0) m)
    (hy : ∀ m', N c < 8 → LMw m' w (upc N c (N c + 1)) (upc K c (ups (K c) (N c) k)) (upc O c (ups (O c) (N c) o)) (upc W c (ups (W c) (N c) w)) (upc F c (ups (F c) (N c) (thk k o f))) → MC m m' c → Q (zI 1) m') : wp_X12_freezes m (zI c) (zI k) (zI o) (zI f) Q := by
  have okc := ok.2 c hc
  have hn := okc.1
  have hC := h.2 c hc
  refine ⟨c6 hc, ?_⟩
  rw [zI_clN (by omega), hC.1, show (8 : Int32) = zI 8 from rfl, zI_eq (by omega) (by omega) (by omega) (by omega)]
  refine ⟨fun c1 => ?_, fun c1 => hfu (by omega)⟩
  rw [show (zI 8 : Int32) * zI (c : Int) + zI (N c : Int) = zI ((8 * c + N c : Nat) : Int) from a8, zI_clN (by omega)]
  have v48 := c48 (k := 8 * c + N c) (by omega)
  refine ⟨c6 hc, v48, fun x1 e1 => ⟨v48, fun x2 e2 => ⟨v48, fun x3 e3 => ?_⟩⟩⟩
  refine m_thick hk hf1 hf2 ⟨v48, fun x5 e5 => ⟨c6 hc, c6 hc, fun x6 e6 => ?_⟩⟩
  have M1 : MC m x1 c := by rw [e1]; exact MC_t m (by omega) (by omega) (by omega) _
  have M2 : MC x1 x2 c := by rw [e2]; exact MC_t x1 (by omega) (by omega) (by omega) _
  have M3 : MC x2 x3 c := by rw [e3]; exact MC_t x2 (by omega) (by omega) (by omega) _
  have M5 : MC x3 x5 c := by rw [e5]; exact MC_t x3 (by omega) (by omega) (by omega) _
  have M6 : MC x5 x6 c := by rw [e6]; exact MC_1 x5 c _
  have M := MC_tr M1 (MC_tr M2 (MC_tr M3 (MC_tr M5 M6)))
  refine hy x6 (by omega) (LM_set ok h M ⟨?_, fun i hi => ?_⟩) M
  · rw [e6, e5, e3, e2, e1]
    simp only [mA, va_up, upd, if_true]
    simp [hC.1]
    exact zI_p1 (N c)
  · have h0 := h.1
    rw [e6, e5, e3, e2, e1]
    simp only [mA, va_up, upd, ups]
    by_cases e : i = N c
    · subst e; simp [upd, h0]
    · have hi' : i < N c := by omega
      have hne : ¬ (8 * c + i = 8 * c + N c) := by omega
      simpa [upd, hne, e] using hC.2 i hi'
theorem wrm_one {K O F : Nat → Nat} {n : Nat} (hn : 0 < n) : wrm K O F n = if F (n - 1) ≤ melt (K (n - 1)) (O (n - 1)) then (n - 1, F) else (n, fun i => if i = n - 1 then F (n - 1) - melt (K (n - 1)) (O (n - 1)) else F i) := by
  obtain ⟨k, rfl⟩ : ∃ k, n = k + 1 := ⟨n - 1, by omega⟩
  simp [wrm]
/-- the first c cells have had a warm day -/
def wmN (N : Nat → Nat) (K O F : Nat → Nat → Nat) (c d : Nat) : Nat := if d < c then (wrm (K d) (O d) (F d) (N d)).1 else N d
def wmF (N : Nat → Nat) (K O F : Nat → Nat → Nat) (c d : Nat) : Nat → Nat := if d < c then (wrm (K d) (O d) (F d) (N d)).2 else F d
theorem m_warmDay (ok : lOK w N K O W F) (h : LMw m w N K O W F) {Q : Int32 → MS → Prop}
    (hq : ∀ m', LMw m' w (thN N K O F 1) K O W (thF N K O F 1) → MF m m' → Q (zI (sg (fun c => N c - thN N K O F 1 c) 6)) m') : wp_X12_warmDay m Q := by
  have hle : ∀ c, c < 6 → sg (fun c => N c - thN N K O F 1 c) c ≤ c * 8 := fun c hc => sg_le (fun i hi => by have := (ok.2 i (by omega)).1; omega)
  refine ⟨fun y1 y2 x3 => ∃ c : Nat, c ≤ 6 ∧ y2 = zI c ∧ y1 = zI (sg (fun c => N c - thN N K O F 1 c) c) ∧ LMw x3 w (wmN N K O F c) K O W (wmF N K O F c) ∧ MF m x3, fun _ y2 _ => 1000 - y2.toInt.toNat, ⟨0, by omega, rfl, rfl, LM_cong h (fun d hd => ⟨by unfold wmN; rw [if_neg (by omega)], fun i hi => ⟨rfl, rfl, rfl, by unfold wmF; rw [if_neg (by omega)]⟩⟩), MF_rf m⟩, ?_⟩
  rintro y1 y2 x3 ⟨c, hc, rfl, rfl, h3, hF⟩
  rw [show (6 : Int32) = zI 6 from rfl, zI_le (by omega) (by omega) (by omega) (by omega)]
  refine ⟨fun c6 => ?_, fun c6' => ?_⟩
  · have e : c = 6 := by omega
    subst e
    refine hq x3 (LM_cong h3 (fun d hd => ⟨by unfold wmN thN; rw [if_pos hd]; rfl, fun i hi => ⟨rfl, rfl, rfl, by unfold wmF thF; rw [if_pos hd]; rfl⟩⟩)) hF
  have hc6 : c < 6 := by omega
  have okc := ok.2 c hc6
  have hn := okc.1
  have hC := h3.2 c hc6
  have eN : wmN N K O F c c = N c := by unfold wmN; rw [if_neg (by omega)]
  have eF : wmF N K O F c c = F c := by unfold wmF; rw [if_neg (by omega)]
  rw [eN, eF] at hC
  have e1 : zI (c : Int) + 1 = zI ((c + 1 : Nat) : Int) := zI_p1 c
  rw [e1]
  have okm : lOK w (wmN N K O F c) K O W (wmF N K O F c) := ⟨ok.1, fun d hd => by
    unfold wmN wmF
    by_cases e : d < c
    · rw [if_pos e, if_pos e]; exact cOK_wrm (ok.2 d hd)
    · rw [if_neg e, if_neg e]; exact ok.2 d hd⟩
  have hthN : thN N K O F 1 c = (wrm (K c) (O c) (F c) (N c)).1 := rfl
  have hs := hle c hc6
  have hsu : sg (fun c => N c - thN N K O F 1 c) (c + 1) = sg (fun c => N c - thN N K O F 1 c) c + (N c - (wrm (K c) (O c) (F c) (N c)).1) := rfl
  have fin : ∀ (x : MS) (y : Int32), MC x3 x c → CM x c (wrm (K c) (O c) (F c) (N c)).1 (K c) (O c) (W c) (wrm (K c) (O c) (F c) (N c)).2 → y = zI (sg (fun c => N c - thN N K O F 1 c) (c + 1)) → (∃ c_1 : Nat, c_1 ≤ 6 ∧ zI ((c + 1 : Nat) : Int) = zI c_1 ∧ y = zI (sg (fun c => N c - thN N K O F 1 c) c_1) ∧ LMw x w (wmN N K O F c_1) K O W (wmF N K O F c_1) ∧ MF m x) ∧ 1000 - (zI ((c + 1 : Nat) : Int)).toInt.toNat < 1000 - (zI (c : Int)).toInt.toNat := fun x y hM hX hy => by
    refine ⟨⟨c + 1, by omega, rfl, hy, LM_cong (LM_set okm h3 hM hX) (fun d hd => ?_), MF_tr hF (MC_MF hM)⟩, mux 1000 (by omega) (by omega) (by omega)⟩
    unfold wmN wmF upc
    by_cases e : d = c
    · subst e; simp
    · by_cases e2 : d < c
      · have e3 : d < c + 1 := by omega
        simp [e, e2, e3]
      · have e3 : ¬ d < c + 1 := by omega
        simp [e, e2, e3]
  refine ⟨c6 hc6, c6 hc6, ?_⟩
  rw [zI_clN (by omega), hC.1, show (0 : Int32) = zI 0 from rfl, zI_le (by omega) (by omega) (by omega) (by omega)]
  refine ⟨fun c0 => ?_, fun c0 => ?_⟩
  · have e0 : N c = 0 := by omega
    refine fin x3 _ (MC_rf _ _) ?_ ?_
    · rw [e0] at hC ⊢; exact hC
    · refine zI_c ?_
      rw [hsu, e0]; simp
  have ei : (8 : Int32) * zI (c : Int) + zI (N c : Int) - 1 = zI ((8 * c + (N c - 1) : Nat) : Int) := by
    rw [a8, zI_s1]; exact zI_c (by omega)
  have v48 := c48 (k := 8 * c + (N c - 1)) (by omega)
  obtain ⟨h2, h3', h4, h5⟩ := hC.2 (N c - 1) (by omega)
  obtain ⟨o1, o2, o3, o4, o5⟩ := okc.2 (N c - 1) (by omega)
  have hmb := melt_b (k := K c (N c - 1)) (o := O c (N c - 1)) o2
  rw [ei, zI_clN (by omega), h2, h3']
  refine ⟨v48, v48, v48, m_melts o1 ⟨v48, fun x5 e5 => ⟨v48, ?_⟩⟩⟩
  have v5 : x5.2.1 5 (8 * c + (N c - 1)) = zI ((F c (N c - 1) : Int) - melt (K c (N c - 1)) (O c (N c - 1))) := by
    rw [e5, h5, zI_sub]; simp [mA, va_up, upd]
  have M5 : MC x3 x5 c := by rw [e5]; exact MC_t x3 (by omega) (by omega) (by omega) _
  have n5 : x5.2.1 1 c = zI (N c : Int) := by rw [e5]; simpa [mA, va_up] using hC.1
  rw [v5, zI_lt (by omega) (by omega) (by omega) (by omega), n5]
  have w1 := wrm_one (K := K c) (O := O c) (F := F c) (n := N c) (by omega)
  have cm : ∀ (x7 : MS) (v : Nat) (G : Nat → Nat), x7 = mA x5 1 (upd (x5.2.1 1) c (zI v)) → v ≤ N c → (∀ i, i < v → i ≠ N c - 1 → G i = F c i) → (N c - 1 < v → (G (N c - 1) : Int) = (F c (N c - 1) : Int) - melt (K c (N c - 1)) (O c (N c - 1))) → MC x3 x7 c ∧ CM x7 c v (K c) (O c) (W c) G := fun x7 v G e7 hv g1 g2 => by
    refine ⟨MC_tr M5 (by rw [e7]; exact MC_1 x5 c _), ?_, fun i hi => ?_⟩
    · rw [e7]; simp [mA, va_up, upd]
    · obtain ⟨q2, q3, q4, q5⟩ := hC.2 i (by omega)
      rw [e7, e5]
      refine ⟨by simpa [mA, va_up] using q2, by simpa [mA, va_up] using q3, by simpa [mA, va_up] using q4, ?_⟩
      by_cases e : i = N c - 1
      · subst e
        simp only [mA, va_up, upd]
        simp
        rw [h5, zI_sub, g2 hi]; simp [upd]
      · have hne : ¬ (8 * c + i = 8 * c + (N c - 1)) := by omega
        rw [g1 i hi e]
        simpa [mA, va_up, upd, hne, e] using q5
  refine ⟨fun c5 => ⟨c6 hc6, c6 hc6, fun x6 e6 => ?_⟩, fun c5 => ⟨c6 hc6, c6 hc6, fun x7 e7 => ?_⟩⟩
  · rw [if_neg (by omega)] at w1
    rw [zI_sub] at e6
    obtain ⟨a1, a2⟩ := cm x6 (N c) (wrm (K c) (O c) (F c) (N c)).2 (by rw [e6]; simp) (Nat.le_refl _) (fun i _ hne => by rw [w1]; simp [hne]) (fun _ => by rw [w1]; simp; omega)
    refine fin x6 _ a1 (by rw [show (wrm (K c) (O c) (F c) (N c)).1 = N c by rw [w1]]; exact a2) ?_
    rw [zI_add]; refine zI_c ?_
    rw [hsu, w1]; simp
  · rw [if_pos (by omega)] at w1
    rw [show (1 : Int32) = zI 1 from rfl, zI_sub] at e7
    obtain ⟨a1, a2⟩ := cm x7 (N c - 1) (F c) (by rw [e7, show ((N c - 1 : Nat) : Int) = (N c : Int) - 1 by omega]) (by omega) (fun i _ _ => rfl) (fun z => by omega)
    refine fin x7 _ a1 (by rw [w1]; exact a2) ?_
    rw [show (1 : Int32) = zI 1 from rfl, zI_add]; refine zI_c ?_
    rw [hsu, w1]; simp only []; omega
end LMU
