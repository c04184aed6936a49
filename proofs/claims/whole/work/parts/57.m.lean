/-! ===== the reference reads a lake ===== -/
/-- where the statements begin -/
def psS (S : SH) : Nat → Nat
  | 0 => 0
  | i + 1 => psS S i + slen (vlS S (psS S i))
theorem scB_none {S : SH} {e : Nat} : ∀ r i, scB S e r i = none → i + r = e → (∀ j, i ≤ j → j + 1 < e → 0 ≤ dgS S j) ∧ (1 ≤ r → e ≤ shN S)
  | 0, i, _, hi => ⟨fun j h1 h2 => by omega, fun h => absurd h (by omega)⟩
  | r + 1, i, h, hi => by
    unfold scB at h
    split at h
    · rename_i c
      split at h
      · rename_i c2
        refine ⟨fun j h1 h2 => by omega, fun _ => ?_⟩
        by_cases q : i < shN S
        · omega
        · rw [vlS_past (by omega)] at c2; omega
      · exact absurd h (by simp)
    · rename_i c
      split at h
      · rename_i c2
        obtain ⟨g1, g2⟩ := scB_none r (i + 1) h (by omega)
        refine ⟨fun j h1 h2 => ?_, fun _ => g2 (by omega)⟩
        by_cases ej : j = i
        · subst ej; exact c2
        · exact g1 j (by omega) h2
      · exact absurd h (by simp)
theorem rsS_none {S : SH} {p : Nat} (h : rsS S p = none) : slen (vlS S p) ≠ 0 ∧ (∀ j, j + 2 < slen (vlS S p) → 0 ≤ dgS S ((p + 1 + j : Nat) : Int)) ∧ p + slen (vlS S p) ≤ shN S ∧ p < shN S := by
  have hl := slen_b (vlS S p)
  unfold rsS at h
  split at h
  · exact absurd h (by simp)
  · rename_i c
    obtain ⟨g1, g2⟩ := scB_none _ _ h (by omega)
    have := g2 (by omega)
    exact ⟨c, fun j hj => g1 _ (by omega) (by omega), this, by omega⟩
section MLK
variable {m m' x : MS} {A : AS} {L : LK} {S : SH} {d p b k : Nat}
theorem TF_MR (h : MR m A) (hT : TF m x) : MR x A :=
  MR_L h ⟨hT.1 9 (by omega), hT.2.1 7 (by omega), fun t _ _ => hT.2.1 t (by omega), by rw [hT.2.2]⟩ ⟨(hT.1 0 (by omega)).trans h.1.1.1, fun c hc => ⟨by rw [hT.2.1 1 (by omega)]; exact (h.1.1.2 c hc).1, fun i hi => by rw [hT.2.1 2 (by omega), hT.2.1 3 (by omega), hT.2.1 4 (by omega), hT.2.1 5 (by omega)]; exact (h.1.1.2 c hc).2 i hi⟩⟩ h.1.2
/-- the statements that were read -/
def TR (x : MS) (S : SH) (k : Nat) : Prop := ∀ i, i < k → rsS S (psS S i) = none ∧ x.2.1 8 i = zI (psS S i) ∧ x.2.1 9 i = zI (vlS S (psS S i)) ∧ ∀ j, j + 2 < slen (vlS S (psS S i)) → x.2.1 10 (4 * i + j) = zI (dgS S ((psS S i + 1 + j : Nat) : Int))
theorem TR_b {k : Nat} (h : TR x S k) : ∀ i, i ≤ k → 2 * i ≤ psS S i ∧ (i = 0 ∨ psS S i ≤ shN S)
  | 0, _ => ⟨by omega, Or.inl rfl⟩
  | i + 1, hi => by
    have h1 := TR_b h i (by omega)
    obtain ⟨g1, g2, g3, g4⟩ := rsS_none (h i (by omega)).1
    have hl := slen_b (vlS S (psS S i))
    have e : psS S (i + 1) = psS S i + slen (vlS S (psS S i)) := rfl
    exact ⟨by omega, Or.inr (by omega)⟩
theorem TR_on {x' : MS} (h : TR x S k) (h8 : x'.2.1 8 = x.2.1 8) (h9 : x'.2.1 9 = x.2.1 9) (h10 : x'.2.1 10 = x.2.1 10) : TR x' S k := fun i hi => by rw [h8, h9, h10]; exact h i hi
theorem m_close0 {y : MS} (h : MR y A) (hK : MK y m) (ok : lO L) (hI : IM m 6 L) {Q : MS → Prop} (hq : ∀ x', MR x' (L, A.2) → (∀ t, 8 ≤ t → x'.2.1 t = m.2.1 t) → Q x') : wp_X12_close m Q := by
  refine m_carryAll (b := false) (Or.inl rfl) (fun x' hC => ?_)
  obtain ⟨⟨_, _, _, c4, c5, c6⟩, _, c8⟩ := hC
  obtain ⟨c8, c9⟩ := c8 rfl
  have hK2 : MK m x' := ⟨c5 9 (by omega) (by omega) (by omega), c6 7 (by omega) (by omega), fun t _ _ => c6 t (by omega) (by omega), by rw [c4]⟩
  obtain ⟨z, z1, z2⟩ := hI
  exact hq x' (MR_L h (MK_tr hK hK2) (getL_LM ok z1 (fun j hj => (c9 j hj).trans (z2 j hj))) ok) (fun t ht => c6 t (by omega) (by omega))
/-- the second half: the statements come -/
theorem m_allCome (h : MR m A) (okS : sOK S) (hk0 : 1 ≤ k) (hk : k ≤ 50) (hR : TR m S k) (h17 : m.1 17 = zI k) (hend : shN S ≤ psS S k) {Q : Int32 → MS → Prop} (hq : ∀ x', MR x' (((rdL S 110 0 0 A.1).2.getD A.1), A.2) → Q (zI (rdL S 110 0 0 A.1).1) x') :
    wp_X12_open m (fun x9 => ∃ (I : Int32 → MS → Prop) (U : Int32 → MS → Nat), I 0 x9 ∧ ∀ (y10 : Int32) (x11 : MS), I y10 x11 → (((x11.1 17) ≤ y10 → Q (x11.1 17) x11) ∧ (¬ (x11.1 17) ≤ y10 → wp_X12_comes x11 y10 (fun (r13 : Int32) (x12 : MS) => ((¬ r13 = 0 → (I (y10 + 1) x12 ∧ U (y10 + 1) x12 < U y10 x11)) ∧ (r13 = 0 → wp_X12_close x12 (fun (x14 : MS) => (vp_in y10 51 ∧ Q ((-2000) - (x14.2.1 8 (Int32.toNatClampNeg y10))) x14)))))))) := by
  have hN := okS.2.2.2.2.1
  refine m_open h (fun x9 h9 hI9 hK9 f9 t9 j9 => ?_)
  refine ⟨fun y10 x11 => ∃ (i : Nat) (L : LK), i ≤ k ∧ y10 = zI i ∧ MR x11 (L, A.2) ∧ IM x11 6 A.1 ∧ x11.1 17 = zI k ∧ TR x11 S k ∧ rdL S 110 0 0 A.1 = rdL S (110 - i) i (psS S i) L, fun y10 _ => 1000 - y10.toInt.toNat, ⟨0, A.1, by omega, rfl, h9, hI9, (f9 17 (by omega) (by omega) (by omega)).trans h17, TR_on hR (t9 8 (by omega)) (t9 9 (by omega)) (t9 10 (by omega)), rfl⟩, ?_⟩
  rintro y10 x11 ⟨i, L, hi, rfl, hM, hI, e17, hT, he⟩
  rw [e17, zI_le (by omega) (by omega) (by omega) (by omega)]
  have el : rdL S (110 - i) i (psS S i) L = if shN S ≤ psS S i then ((i : Int), some L) else if 0 ≤ (stL S (psS S i) L).1 then rdL S (110 - (i + 1)) (i + 1) (psS S i + max 1 (slen (vlS S (psS S i)))) (stL S (psS S i) L).2 else (-2000 - (psS S i : Int), none) := by
    rw [show 110 - i = (110 - (i + 1)) + 1 by omega]; rfl
  refine ⟨fun c => ?_, fun c => ?_⟩
  · have e : i = k := by omega
    rw [he, el, if_pos (by rw [e]; exact hend)] at hq
    rw [← e]
    exact hq x11 hM
  have hik : i < k := by omega
  obtain ⟨g1, g2, g3, g4⟩ := hT i hik
  obtain ⟨n1, n2, n3, n4⟩ := rsS_none g1
  have hl := slen_b (vlS S (psS S i))
  rw [if_neg (by omega)] at el
  refine m_comes hM.1.2 hM.1.1 (by omega) n1 g3 (fun j hj => ⟨g4 j hj, n2 j hj⟩) (fun x' hL hF h0 => ⟨fun _ => ?_, fun q => absurd q (by decide)⟩) (fun x' hF h0 => ⟨fun q => absurd rfl q, fun _ => ?_⟩)
  · have h0 : 0 ≤ (stL S (psS S i) L).1 := h0
    rw [if_pos h0] at el
    rw [zI_p1]
    refine ⟨⟨i + 1, (stL S (psS S i) L).2, by omega, rfl, MR_L (A := (L, A.2)) hM (MK_F hF) hL (lO_st hM.1.2 S _), IM_keep hI (hF.2.1 6 (by omega)), (hF.1 17 (by omega)).trans e17, TR_on hT (hF.2.1 8 (by omega)) (hF.2.1 9 (by omega)) (hF.2.1 10 (by omega)), ?_⟩, mux 1000 (by omega) (by omega) (by omega)⟩
    rw [he, el, show max 1 (slen (vlS S (psS S i))) = slen (vlS S (psS S i)) by omega]; rfl
  · have h0 : (stL S (psS S i) L).1 < 0 := h0
    rw [if_neg (by omega)] at el
    refine m_close0 hM (MK_F hF) h.1.2 (IM_keep hI (hF.2.1 6 (by omega))) (fun x14 h14 t14 => ⟨zI_in (by omega) (by omega) (by omega), ?_⟩)
    have hb := TR_b hT i (by omega)
    rw [zI_clN (by omega), t14 8 (by omega), hF.2.1 8 (by omega), g2, show (-2000 : Int32) = zI (-2000) from rfl, zI_sub]
    rw [he, el] at hq
    exact hq x14 h14
theorem m_wrongSort (h : MR m A) {d : Int} (h1 : -2147483648 ≤ d) (h2 : d < 2147483648) {Q : Int32 → Prop} (hq : Q (zI (if wrS A d 2 < 0 then wrS A d 2 else if shT (shG A d) = 0 then 0 else -12))) : wp_X12_wrongSort m (zI d) 0 Q := by
  refine m_wrongRow h h1 h2 ?_
  have hb := wrS_b A d 2
  rw [show (0 : Int32) = zI 0 from rfl, zI_le (by omega) (by omega) (by omega) (by omega)]
  refine ⟨fun c0 => ?_, fun c0 => m_wrongRow h h1 h2 (by rw [if_pos (by omega)] at hq; exact hq)⟩
  rw [if_neg (by omega)] at hq
  obtain ⟨hd, hl⟩ := wrS_0 c0
  obtain ⟨d, rfl⟩ : ∃ j : Nat, d = j := ⟨d.toNat, by omega⟩
  obtain ⟨hS, ok⟩ := h.2.2 d (by omega)
  have hl' := lkS_0 hl
  rw [show shG A (d : Int) = A.2.2 d from rfl] at hl' hq
  obtain ⟨ht, hn, hE⟩ := hS.2.2 (by omega)
  have hT := ok.2.2.2.1
  refine ⟨zI_in (by omega) (by omega) (by omega), ?_⟩
  rw [zI_clN (by omega), ht, zI_eq (by omega) (by omega) (by omega) (by omega)]
  refine ⟨fun c => by rw [if_pos (by omega)] at hq; exact hq, fun c => by rw [if_neg (by omega)] at hq; exact hq⟩
theorem y_lake (h : MR m A) {d : Int} (h1 : -2147483648 ≤ d) (h2 : d < 2147483648) {Q : Int32 → MS → Prop} (hq : ∀ x', MR x' (aLake A d).2 → Q (zI (aLake A d).1) x') : wp_X12_lake m (zI d) Q := by
  intro x1 e1
  have h' : MR x1 A := by rw [e1]; exact MR_6 h 0
  unfold aLake at hq
  refine m_wrongSort h' h1 h2 ?_
  have hb := wrS_b A d 2
  by_cases c0 : wrS A d 2 < 0
  · rw [if_pos c0]
    refine ⟨fun q => absurd q ?_, fun _ => ?_⟩
    · rw [show (0 : Int32) = zI 0 from rfl, zI_le (by omega) (by omega) (by omega) (by omega)]; omega
    · unfold wrS at c0 ⊢
      by_cases z3 : 0 ≤ d ∧ d ≤ 7
      · rw [if_pos z3] at c0 ⊢
        rw [if_pos z3, if_neg (by omega)] at hq
        exact hq _ h'
      · rw [if_neg z3]
        rw [if_neg z3] at hq
        exact hq _ h'
  rw [if_neg c0]
  obtain ⟨hd, hl⟩ := wrS_0 (show 0 ≤ wrS A d 2 by omega)
  rw [if_pos hd, if_pos hl] at hq
  obtain ⟨d, rfl⟩ : ∃ j : Nat, d = j := ⟨d.toNat, by omega⟩
  obtain ⟨hS, ok⟩ := h'.2.2 d (by omega)
  have hl' := lkS_0 hl
  rw [show shG A (d : Int) = A.2.2 d from rfl] at hl' hq ⊢
  obtain ⟨ht, hn, hE⟩ := hS.2.2 (by omega)
  have hN := ok.2.2.2.2.1
  by_cases hT : shT (A.2.2 d) = 0
  · rw [if_pos hT] at hq
    rw [if_pos hT]
    refine ⟨fun _ => ?_, fun q => absurd (show (0 : Int32) ≤ zI 0 by decide) q⟩
    generalize A.2.2 d = S at *
    intro x3 e3
    refine ⟨zI_in (by omega) (by omega) (by omega), fun x4 e4 x5 e5 x6 e6 x7 e7 => ?_⟩
    have F3 : TF x1 x3 := by rw [e3]; exact TF_I x1 (by omega) (by omega) _
    have F7 : TF x1 x7 := by
      rw [e7, e6, e5, e4]
      exact TF_tr F3 (TF_tr (TF_I _ (by omega) (by omega) _) (TF_tr (TF_I _ (by omega) (by omega) _) (TF_tr (TF_I _ (by omega) (by omega) _) (TF_I _ (by omega) (by omega) _))))
    have e13 : (100 : Int32) * zI (d : Int) = zI ((100 * d : Nat) : Int) := by rw [show (100 : Int32) = zI 100 from rfl, zI_mul]; exact zI_c (by omega)
    rw [e13] at e3
    have en : x3.2.1 15 (Int32.toNatClampNeg (zI (d : Int))) = zI (shN S) := by rw [zI_clN (by omega), e3]; exact hn
    rw [en] at e4
    have h7 : TS x7 d S 0 0 0 := by
      rw [e7, e6, e5, e4, e3]
      refine ⟨?_, ?_, ?_, ?_, ?_⟩ <;> simp [mI] <;> rfl
    refine ⟨fun x8 => ∃ p b k : Nat, TS x8 d S p b k ∧ TF x1 x8 ∧ b ≤ 1 ∧ p ≤ 1000 ∧ k ≤ 50 ∧ (b = 1 → k ≤ 51 ∧ fbB S 101 0 = (p : Int)) ∧ (b = 0 → p = psS S k ∧ TR x8 S k ∧ (k = 0 ∨ p < shN S → fbB S 101 0 = fbB S (101 - k) p) ∧ (k ≠ 0 → shN S ≤ p → fbB S 101 0 = -1)), fun x8 => 1000 - (x8.1 17).toInt.toNat, ⟨0, 0, 0, h7, F7, by omega, by omega, by omega, fun q => absurd q (by omega), fun _ => ⟨rfl, fun i hi => absurd hi (by omega), fun _ => rfl, fun q => absurd rfl q⟩⟩, ?_⟩
    rintro x8 ⟨p, b, k, h8, F8, hb1, hp, hk, g1, g0⟩
    have hE8 : ∀ i, i < 100 → x8.2.2.1 16 (100 * d + i) = lJ (shE S i) := fun i hi => by rw [F8.2.2]; exact hE i hi
    have M8 : MR x8 A := TF_MR h' F8
    -- the end of the reading
    have fin1 : b = 1 → Q ((-1000) - (x8.1 15)) x8 := fun hb => by
      obtain ⟨_, ef⟩ := g1 hb
      rw [if_pos (by omega), ef] at hq
      rw [h8.2.2.1, show (-1000 : Int32) = zI (-1000) from rfl, zI_sub]
      exact hq x8 M8
    -- another statement is read
    have rd : b = 0 → (k = 0 ∨ p < shN S) → wp_X12_readStatement x8 (fun x18 => (∃ p b k : Nat, TS x18 d S p b k ∧ TF x1 x18 ∧ b ≤ 1 ∧ p ≤ 1000 ∧ k ≤ 50 ∧ (b = 1 → k ≤ 51 ∧ fbB S 101 0 = (p : Int)) ∧ (b = 0 → p = psS S k ∧ TR x18 S k ∧ (k = 0 ∨ p < shN S → fbB S 101 0 = fbB S (101 - k) p) ∧ (k ≠ 0 → shN S ≤ p → fbB S 101 0 = -1))) ∧ 1000 - (x18.1 17).toInt.toNat < 1000 - (x8.1 17).toInt.toNat) := fun hb hkp => by
      subst hb
      obtain ⟨ep, hR, gf, _⟩ := g0 rfl
      have hpk := TR_b hR k (Nat.le_refl _)
      have hk49 : k ≤ 49 := by rcases hkp with z | z <;> omega
      have gf := gf hkp
      rw [show 101 - k = (100 - k) + 1 by omega, fbB_rs S (100 - k) p] at gf
      have hp100 : p ≤ 100 := by
        rcases hkp with z | z
        · rw [ep, z]; exact Nat.zero_le _
        · omega
      refine m_readStatement (by omega) ok hT hE8 h8 (by omega) hk49 (fun x' q hq' hS' hF' => ?_) (fun x' hr hs hS' hF' hW r8 r9 r10 => ?_)
      · rw [hq'] at gf
        have hb := fbB_b S 101 0 (by omega)
        refine ⟨⟨q, 1, k + 1, hS', TF_tr F8 hF', by omega, ?_, by omega, fun _ => ⟨by omega, gf⟩, fun z => absurd z (by omega)⟩, ?_⟩
        · have : fbB S 101 0 = (q : Int) := gf
          omega
        · rw [hS'.2.2.2.2, h8.2.2.2.2]; exact mux 1000 (by omega) (by omega) (by omega)
      · rw [hr] at gf
        obtain ⟨n1, n2, n3, n4⟩ := rsS_none hr
        have gf : fbB S 101 0 = if p + slen (vlS S p) < shN S then fbB S (100 - k) (p + slen (vlS S p)) else -1 := gf
        refine ⟨⟨p + slen (vlS S p), 0, k + 1, hS', TF_tr F8 hF', by omega, by omega, by omega, fun z => absurd z (by omega), fun _ => ⟨by rw [ep]; rfl, fun i hi => ?_, fun z => ?_, fun _ z => ?_⟩⟩, ?_⟩
        · by_cases ei : i = k
          · rw [ei, ← ep]
            exact ⟨hr, r8, r9, fun j hj => r10 j hj⟩
          · obtain ⟨a1, a2, a3, a4⟩ := hR i (by omega)
            obtain ⟨w1, w2⟩ := hW.1 i (by omega)
            have hli := slen_b (vlS S (psS S i))
            exact ⟨a1, w1.trans a2, w2.trans a3, fun j hj => (hW.2 _ (by omega)).trans (a4 j hj)⟩
        · rw [gf, if_pos (by omega), show 101 - (k + 1) = 100 - k by omega]
        · rw [gf, if_neg (by omega)]
        · rw [hS'.2.2.2.2, h8.2.2.2.2]; exact mux 1000 (by omega) (by omega) (by omega)
    -- all is read
    have fin0 : b = 0 → k ≠ 0 → shN S ≤ p → wp_X12_open x8 (fun x9 => ∃ (I : Int32 → MS → Prop) (U : Int32 → MS → Nat), I 0 x9 ∧ ∀ (y10 : Int32) (x11 : MS), I y10 x11 → (((x11.1 17) ≤ y10 → Q (x11.1 17) x11) ∧ (¬ (x11.1 17) ≤ y10 → wp_X12_comes x11 y10 (fun (r13 : Int32) (x12 : MS) => ((¬ r13 = 0 → (I (y10 + 1) x12 ∧ U (y10 + 1) x12 < U y10 x11)) ∧ (r13 = 0 → wp_X12_close x12 (fun (x14 : MS) => (vp_in y10 51 ∧ Q ((-2000) - (x14.2.1 8 (Int32.toNatClampNeg y10))) x14)))))))) := fun hb hk0 hpN => by
      obtain ⟨ep, hR, _, gf⟩ := g0 hb
      have gf := gf hk0 hpN
      rw [if_neg (by omega)] at hq
      exact m_allCome M8 ok (by omega) hk hR h8.2.2.2.2 (by omega) hq
    have z16 : (x8.1 16 = (0 : Int32)) ↔ (b : Int) = 0 := by rw [h8.2.2.2.1]; exact zI_eq (b := 0) (by omega) (by omega) (by omega) (by omega)
    have z17 : (x8.1 17 = (0 : Int32)) ↔ (k : Int) = 0 := by rw [h8.2.2.2.2]; exact zI_eq (b := 0) (by omega) (by omega) (by omega) (by omega)
    have z14 : (x8.1 14 ≤ x8.1 15) ↔ (shN S : Int) ≤ (p : Int) := by rw [h8.2.1, h8.2.2.1]; exact zI_le (by omega) (by omega) (by omega) (by omega)
    rw [z16, z17, z14]
    refine ⟨fun c => ⟨fun c2 => absurd c2 c, fun _ => fin1 (by omega)⟩, fun c => ⟨fun c2 => rd (by omega) (Or.inl (by omega)), fun c2 => ⟨fun c3 => ⟨fun _ => fin0 (by omega) (by omega) (by omega), fun c4 => absurd c c4⟩, fun c3 => rd (by omega) (Or.inr (by omega))⟩⟩⟩
  · rw [if_neg hT] at hq
    rw [if_neg hT]
    refine ⟨fun q => absurd q (by decide), fun _ => ?_⟩
    exact hq x1 h'
end MLK
