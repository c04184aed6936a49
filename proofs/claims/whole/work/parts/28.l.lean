/-! ===== thaws, lakes taken over, latest, seen, thin ===== -/
/-- so many warm days of a cell -/
def wri (K O : Nat → Nat) : Nat → Nat × (Nat → Nat) → Nat × (Nat → Nat)
  | 0, p => p
  | d + 1, p => wrm K O (wri K O d p).2 (wri K O d p).1
theorem wrm_le (K O F : Nat → Nat) (n : Nat) : (wrm K O F n).1 ≤ n := by
  cases n with
  | zero => exact Nat.le_refl _
  | succ k => by_cases c : F k ≤ melt (K k) (O k) <;> simp [wrm, c]
theorem wri_le (K O : Nat → Nat) (p : Nat × (Nat → Nat)) : ∀ d, (wri K O d p).1 ≤ p.1
  | 0 => Nat.le_refl _
  | d + 1 => Nat.le_trans (wrm_le K O _ _) (wri_le K O p d)
theorem wri_z (K O : Nat → Nat) (p : Nat × (Nat → Nat)) {d : Nat} (h : (wri K O d p).1 = 0) : ∀ e, wri K O (d + e) p = wri K O d p
  | 0 => rfl
  | e + 1 => by
    show wrm K O (wri K O (d + e) p).2 (wri K O (d + e) p).1 = _
    rw [wri_z K O p h e]
    generalize wri K O d p = q at h
    obtain ⟨a, b⟩ := q
    have : a = 0 := h
    subst this
    rfl
theorem cOK_wri {n : Nat} {K O W F : Nat → Nat} (ok : cOK n K O W F) : ∀ d, cOK (wri K O d (n, F)).1 K O W (wri K O d (n, F)).2
  | 0 => ok
  | d + 1 => cOK_wrm (cOK_wri ok d)
section LXT
variable {x x' : XS} {g w : Nat} {N N' : Nat → Nat} {K O W F K' O' W' F' : Nat → Nat → Nat}
def thN (N : Nat → Nat) (K O F : Nat → Nat → Nat) (d : Nat) (c : Nat) : Nat := (wri (K c) (O c) d (N c, F c)).1
def thF (N : Nat → Nat) (K O F : Nat → Nat → Nat) (d : Nat) (c : Nat) : Nat → Nat := (wri (K c) (O c) d (N c, F c)).2
theorem lOK_th (ok : lOK w N K O W F) (d : Nat) : lOK w (thN N K O F d) K O W (thF N K O F d) := ⟨ok.1, fun c hc => cOK_wri (ok.2 c hc) d⟩
theorem s_thawFor (hg : xk g 6) (ok : lOK w N K O W F) (h : wLX x g w N K O W F) {d : Int} (hd1 : -2147483648 ≤ d) (hd2 : d < 2147483648) {Q : Int32 → XS → Prop} (hno : ¬ (1 ≤ d ∧ d ≤ 99) → Q (zI (-1)) x)
    (hy : ∀ (d0 : Nat) (x' : XS), d = d0 → 1 ≤ d0 → d0 ≤ 99 → wLX x' g w (thN N K O F d0) K O W (thF N K O F d0) → XG x x' g → Q (zI (sg (fun c => N c - thN N K O F d0 c) 6)) x') : wp_X6_thawFor x g (zI d) Q := by
  refine s_within (a := 1) (b := 99) hd1 hd2 (by omega) (by omega) (by omega) (by omega) (fun z => ?_) (fun z => ⟨fun q => absurd rfl q, fun _ => hno z⟩)
  obtain ⟨d0, rfl⟩ : ∃ d0 : Nat, d = d0 := ⟨d.toNat, by omega⟩
  refine ⟨fun _ => ?_, fun q => absurd q (by decide)⟩
  have hsg : ∀ c, c ≤ 6 → sg (fun c => N c - thN N K O F d0 c) c ≤ c * 8 := fun c hc => sg_le (fun i hi => Nat.le_trans (Nat.sub_le _ _) (ok.2 i (by omega)).1)
  refine ⟨fun y2 y3 x4 => ∃ c : Nat, c ≤ 6 ∧ y3 = zI c ∧ y2 = zI (sg (fun c => N c - thN N K O F d0 c) c) ∧ XG x x4 g ∧ wLX x4 g w (fun a => if a < c then thN N K O F d0 a else N a) K O W (fun a => if a < c then thF N K O F d0 a else F a), fun _ y3 _ => 7 - y3.toInt.toNat, ⟨0, by omega, rfl, rfl, XG_rf x g, wLX_cong h (fun a _ => ⟨if_neg (by omega), rfl, rfl, rfl, if_neg (by omega)⟩)⟩, ?_⟩
  rintro y2 y3 x4 ⟨c, hc, rfl, rfl, hG, h4⟩
  rw [show (6 : Int32) = zI 6 from rfl, zI_le (by omega) (by omega) (by omega) (by omega)]
  refine ⟨fun q => ?_, fun q => ?_⟩
  · have e : c = 6 := by omega
    subst e
    exact hy d0 x4 rfl (by omega) (by omega) (wLX_cong h4 (fun a ha => ⟨by rw [if_pos ha], rfl, rfl, rfl, by rw [if_pos ha]⟩)) hG
  · have hc6 : c < 6 := by omega
    have okc := ok.2 c hc6
    refine wl_cell hg h4.1 (P := fun o5 => _) hc6 ?_
    have hs := hsg c (by omega)
    have hs1 := sg_s (fun c => N c - thN N K O F d0 c) c
    have hle := wri_le (K c) (O c) (N c, F c)
    -- what stands at the end of the days
    have fin : ∀ x8 : XS, XG x x8 g → wLX x8 g w (upc (fun a => if a < c then thN N K O F d0 a else N a) c (thN N K O F d0 c)) K O W (upc (fun a => if a < c then thF N K O F d0 a else F a) c (thF N K O F d0 c)) → wLX x8 g w (fun a => if a < c + 1 then thN N K O F d0 a else N a) K O W (fun a => if a < c + 1 then thF N K O F d0 a else F a) := fun x8 _ h8 => wLX_cong h8 (fun a _ => by
      by_cases e : a = c
      · subst e; simp [upc]
      · have e2 : a < c + 1 ↔ a < c := by omega
        simp [upc, e, e2])
    refine ⟨fun y6 y7 x8 => ∃ a : Nat, a ≤ d0 ∧ y7 = zI a ∧ y6 = zI ((sg (fun c => N c - thN N K O F d0 c) c + (N c - (wri (K c) (O c) a (N c, F c)).1) : Nat) : Int) ∧ XG x x8 g ∧ x8.2.2 (g + 1) c = x4.2.2 (g + 1) c ∧ wLX x8 g w (upc (fun a => if a < c then thN N K O F d0 a else N a) c (wri (K c) (O c) a (N c, F c)).1) K O W (upc (fun a => if a < c then thF N K O F d0 a else F a) c (wri (K c) (O c) a (N c, F c)).2), fun _ y7 _ => 100 - y7.toInt.toNat, ⟨0, by omega, rfl, zI_c (by simp [wri]), hG, rfl, wLX_cong h4 (fun a _ => by
      by_cases e : a = c
      · subst e; simp [upc, wri]
      · simp [upc, e])⟩, ?_⟩
    rintro y6 y7 x8 ⟨a, ha, rfl, rfl, hG8, ho, h8⟩
    have hX := h8.2.2 c hc6
    have oka := cOK_wri okc a
    simp only [upc, if_true] at hX
    rw [ho] at hX
    have hoka := oka.1
    rw [zI_le (by omega) (by omega) (by omega) (by omega), hX.1, show (0 : Int32) = zI 0 from rfl, zI_le (by omega) (by omega) (by omega) (by omega)]
    have ha1 := hle a
    have ha2 : N c ≤ 8 := okc.1
    simp only at ha1
    refine ⟨fun q2 => ?_, fun q2 => ⟨fun q3 => ?_, fun q3 => ?_⟩⟩
    · have e : a = d0 := by omega
      subst e
      refine ⟨⟨c + 1, by omega, zI_p1 c, zI_c ?_, hG8, fin x8 hG8 h8⟩, mup 7 (by omega) (by omega) (by omega)⟩
      rw [hs1]; rfl
    · have e0 : (wri (K c) (O c) a (N c, F c)).1 = 0 := by omega
      have e1 := wri_z (K c) (O c) (N c, F c) e0 (d0 - a)
      rw [show a + (d0 - a) = d0 by omega] at e1
      refine ⟨⟨c + 1, by omega, zI_p1 c, zI_c ?_, hG8, fin x8 hG8 ?_⟩, mup 7 (by omega) (by omega) (by omega)⟩
      · rw [hs1, ← e1]; rfl
      · unfold thN thF; rw [e1]; exact h8
    · refine s_warmDay oka hX (fun x9 h9 hF => ?_)
      have hF8 : XF x8 x9 (x8.2.2 (g + 1) c) := by rw [ho]; exact hF
      rw [← ho] at h9
      have h10 := wLX_set hg h8 hc6 hF8 h9
      have hw := wrm_le (K c) (O c) (wri (K c) (O c) a (N c, F c)).2 (wri (K c) (O c) a (N c, F c)).1
      refine ⟨⟨a + 1, by omega, zI_p1 a, ?_, XG_tr hG8 (XF_XG h8 hc6 hF8), by rw [hF.1]; exact ho, wLX_cong h10 (fun b _ => ?_)⟩, mup 100 (by omega) (by omega) (by omega)⟩
      · rw [zI_add]
        refine zI_c ?_
        show _ = ((sg (fun c => N c - thN N K O F d0 c) c + (N c - (wrm (K c) (O c) (wri (K c) (O c) a (N c, F c)).2 (wri (K c) (O c) a (N c, F c)).1).1) : Nat) : Int)
        omega
      · by_cases e : b = c
        · subst e; simp [upc, wri]
        · simp [upc, e]
theorem s_takeAll {q : Nat} (hg : xk g 6) (hq0 : xk q 6) (hne : q ≠ g) (hP : wLP x g) (ok : lOK w N K O W F) (h : wLX x q w N K O W F) {Q : XS → Prop} (hq : ∀ x', wLX x' g w N K O W F → XG x x' g → Q x') : wp_X6_takeAll x g q Q := by
  have h29 : 29 ≤ g := by rcases xk_lake g hg.1 hg.2 with rfl | rfl | rfl <;> omega
  unfold wp_X6_takeAll
  intro x1 e1
  have hG1 : XG x x1 g := by rw [e1]; exact ⟨fun i k hi => by simp only [xI]; rw [if_neg (by omega)], fun _ _ => rfl, fun _ _ => rfl⟩
  have h12 : x1.1 g 2 = zI w := by rw [e1]; simp only [xI, and_self, if_true]; exact h.2.1
  refine ⟨fun y2 x3 => ∃ c : Nat, c ≤ 6 ∧ y2 = zI c ∧ XG x x3 g ∧ x3.2.2 = x.2.2 ∧ x3.1 g 2 = zI w ∧ ∀ a, a < c → CX x3 (x.2.2 (g + 1) a) (N a) (K a) (O a) (W a) (F a), fun y2 _ => 7 - y2.toInt.toNat, ⟨0, by omega, rfl, hG1, by rw [e1]; rfl, h12, fun a ha => absurd ha (Nat.not_lt_zero _)⟩, ?_⟩
  rintro y2 x3 ⟨c, hc, rfl, hG3, h22, h32, ha⟩
  have hP3 : wLP x3 g := by unfold wLP; rw [h22]; exact hP
  have h3 := wLX_keep hg hq0 hne h hG3
  rw [show (6 : Int32) = zI 6 from rfl, zI_le (by omega) (by omega) (by omega) (by omega)]
  refine ⟨fun z => ?_, fun z => ?_⟩
  · have e : c = 6 := by omega
    subst e
    exact hq x3 ⟨hP3, h32, fun a h => by rw [h22]; exact ha a h⟩ hG3
  · have hc6 : c < 6 := by omega
    refine wl_cell hg hP3 (P := fun o4 => _) hc6 (wl_cell hq0 h3.1 (P := fun o5 => _) hc6 ?_)
    have k1 := wLP_xk hg hP3 hc6
    have k2 := wLP_xk hq0 h3.1 hc6
    have b1 := wLP_in hP3 hc6
    have b2 := wLP_in h3.1 hc6
    have hd : q + 44 ≤ g ∨ g + 44 ≤ q := by rcases xk_lake g hg.1 hg.2 with rfl | rfl | rfl <;> rcases xk_lake q hq0.1 hq0.2 with rfl | rfl | rfl <;> omega
    refine s_takeLayers k1 k2 (by omega) (ok.2 c hc6) (h3.2.2 c hc6) (fun x6 h6 hF => ?_)
    refine ⟨⟨c + 1, by omega, zI_p1 c, XG_tr hG3 (XG_F (by omega) (by omega) hF), by rw [hF.1]; exact h22, by rw [hF.2.1 g 2 (by omega)]; exact h32, fun a ha' => ?_⟩, mup 7 (by omega) (by omega) (by omega)⟩
    by_cases e : a = c
    · subst e; rw [← h22]; exact h6
    · have hne2 : x3.2.2 (g + 1) c ≠ x.2.2 (g + 1) a := fun y => e (hP.2 a c (by omega) hc6 (by rw [← y, h22]))
      have k3 := wLP_xk hg hP (c := a) (by omega)
      have hdis := (xk_dis _ k1.1 _ k3.1 k1.2 k3.2).resolve_left hne2
      exact CX_keep (ha a (by omega)) (hF.2.1 _ 6 (by omega)) (fun t h1 h2 => hF.2.2 t (by omega))
/-- the latest layer of an oath, cell by cell from the first, each from its top on: place, winter -/
def ltI (O W : Nat → Nat) (o c : Nat) : Nat → Int × Int → Int × Int
  | 0, p => p
  | k + 1, p => ltI O W o c k (if O k = o ∧ p.2 < W k then (10 * (c : Int) + k, (W k : Int)) else p)
def ltL (N : Nat → Nat) (O W : Nat → Nat → Nat) (o : Nat) : Nat → Int × Int
  | 0 => (-4, -1)
  | c + 1 => ltI (O c) (W c) o c (N c) (ltL N O W o c)
def ltb (p : Int × Int) : Prop := -4 ≤ p.1 ∧ p.1 ≤ 100 ∧ -1 ≤ p.2 ∧ p.2 ≤ 99
theorem ltI_b {O W : Nat → Nat} {o c n : Nat} (hc : c < 6) (hn : n ≤ 8) (hW : ∀ i, i < n → W i ≤ 99) : ∀ p, ltb p → ltb (ltI O W o c n p) := by
  induction n with
  | zero => intro p h; exact h
  | succ k ih =>
    intro p h
    have := hW k (by omega)
    refine ih (by omega) (fun i hi => hW i (by omega)) _ ?_
    by_cases q : O k = o ∧ p.2 < W k
    · rw [if_pos q]
      exact (show -4 ≤ (10 * (c : Int) + k) ∧ (10 * (c : Int) + k) ≤ 100 ∧ -1 ≤ (W k : Int) ∧ (W k : Int) ≤ 99 from ⟨by omega, by omega, by omega, by omega⟩)
    · rw [if_neg q]; exact h
theorem ltL_b (ok : lOK w N K O W F) (o : Nat) : ∀ c, c ≤ 6 → ltb (ltL N O W o c)
  | 0, _ => (show ltb (-4, -1) from ⟨by decide, by decide, by decide, by decide⟩)
  | c + 1, hc => ltI_b (by omega) (ok.2 c (by omega)).1 (fun i hi => ((ok.2 c (by omega)).2 i hi).2.2.1) _ (ltL_b ok o c (by omega))
theorem s_latestOf (hg : xk g 6) (ok : lOK w N K O W F) (h : wLX x g w N K O W F) {o : Nat} (ho : o < 10) {Q : Int32 → Prop} (hq : Q (zI (ltL N O W o 6).1)) : wp_X6_latestOf x g (zI o) Q := by
  refine ⟨fun y1 y2 y3 => ∃ c : Nat, c ≤ 6 ∧ y3 = zI c ∧ y1 = zI (ltL N O W o c).1 ∧ y2 = zI (ltL N O W o c).2, fun _ _ y3 => 7 - y3.toInt.toNat, ⟨0, by omega, rfl, rfl, rfl⟩, ?_⟩
  rintro y1 y2 y3 ⟨c, hc, rfl, rfl, rfl⟩
  rw [show (6 : Int32) = zI 6 from rfl, zI_le (by omega) (by omega) (by omega) (by omega)]
  refine ⟨fun z => ?_, fun z => ?_⟩
  · have e : c = 6 := by omega
    subst e; exact hq
  · have hc6 : c < 6 := by omega
    have okc := ok.2 c hc6
    have hX := h.2.2 c hc6
    refine wl_cell hg h.1 (P := fun o4 => _) hc6 ?_
    refine ⟨fun y5 y6 y7 => ∃ (j : Nat) (p : Int × Int), j ≤ N c ∧ ltb p ∧ y7 = zI (j - 1) ∧ y5 = zI p.1 ∧ y6 = zI p.2 ∧ ltI (O c) (W c) o c j p = ltL N O W o (c + 1), fun _ _ y7 => (y7.toInt + 1).toNat, ⟨N c, ltL N O W o c, Nat.le_refl _, ltL_b ok o c (by omega), ?_, rfl, rfl, rfl⟩, ?_⟩
    · rw [hX.1, show (1 : Int32) = zI 1 from rfl, zI_sub]
    · have hn := okc.1
      rintro y5 y6 y7 ⟨j, p, hj, hp, rfl, rfl, rfl, he⟩
      have hp' := hp
      unfold ltb at hp'
      rw [show (0 : Int32) = zI 0 from rfl, zI_lt (by omega) (by omega) (by omega) (by omega)]
      refine ⟨fun z2 => ?_, fun z2 => ?_⟩
      · have e : j = 0 := by omega
        subst e
        exact ⟨⟨c + 1, by omega, zI_p1 c, by rw [← he]; rfl, by rw [← he]; rfl⟩, mup 7 (by omega) (by omega) (by omega)⟩
      · obtain ⟨k, rfl⟩ : ∃ k, j = k + 1 := ⟨j - 1, by omega⟩
        have okk := okc.2 k (by omega)
        rw [show ((k + 1 : Nat) : Int) - 1 = (k : Int) by omega]
        refine s_oathAt okc hX (by omega) ?_
        have stay : ¬ (O c k = o ∧ p.2 < W c k) → (∃ (j : Nat) (p2 : Int × Int), j ≤ N c ∧ ltb p2 ∧ zI (k : Int) + -1 = zI (j - 1) ∧ zI p.1 = zI p2.1 ∧ zI p.2 = zI p2.2 ∧ ltI (O c) (W c) o c j p2 = ltL N O W o (c + 1)) := fun hz => ⟨k, p, by omega, hp, zI_m1 k, rfl, rfl, by rw [← he]; simp only [ltI]; rw [if_neg hz]⟩
        refine ⟨fun z3 => ?_, fun z3 => ?_⟩
        · rw [zI_eq (by omega) (by omega) (by omega) (by omega)] at z3
          exact ⟨stay (fun y => z3 (by omega)), mdn (by omega) (by omega)⟩
        · rw [zI_eq (by omega) (by omega) (by omega) (by omega)] at z3
          refine s_winterAt okc hX (by omega) ?_
          refine ⟨fun z4 => ?_, fun z4 => ?_⟩
          · rw [zI_le (by omega) (by omega) (by omega) (by omega)] at z4
            exact ⟨stay (fun y => by omega), mdn (by omega) (by omega)⟩
          · rw [zI_le (by omega) (by omega) (by omega) (by omega)] at z4
            refine s_winterAt okc hX (by omega) ?_
            refine ⟨⟨k, (10 * (c : Int) + k, (W c k : Int)), by omega, ⟨by simp only; omega, by simp only; omega, by simp only; omega, by simp only; omega⟩, zI_m1 k, ?_, rfl, ?_⟩, mdn (by omega) (by omega)⟩
            · rw [show (10 : Int32) = zI 10 from rfl, zI_mul, zI_add]
            · rw [← he]; simp only [ltI]; rw [if_pos ⟨by omega, by omega⟩]
/-- a layer that is too thin beside its neighbours -/
def thb (N : Nat → Nat) (W F : Nat → Nat → Nat) (c i : Nat) : Bool := decide (F c i + 2 ≤ lowF (W ((c + 1) % 6)) (F ((c + 1) % 6)) (W c i) 0 (N ((c + 1) % 6)) ∧ F c i + 2 ≤ lowF (W ((c + 5) % 6)) (F ((c + 5) % 6)) (W c i) 0 (N ((c + 5) % 6)))
theorem lowF_b {n : Nat} {W F : Nat → Nat} {w : Nat} (hF : ∀ i, i < n → F i ≤ 20) : ∀ k j, j + k ≤ n → lowF W F w j k ≤ 20
  | 0, _, _ => by simp [lowF]
  | k + 1, j, h => by
    unfold lowF
    split
    · exact hF j (by omega)
    · exact lowF_b hF k (j + 1) (by omega)
theorem zI_rem6 {a : Nat} (ha : a < 1000000) : zI (a : Int) - zI (a : Int) / 6 * 6 = zI ((a % 6 : Nat) : Int) := by
  rw [show (6 : Int32) = zI ((6 : Nat) : Int) from rfl, zI_div (by omega) (by omega) (by omega), zI_mul, zI_sub]
  exact zI_c (by omega)
theorem s_isThin (hg : xk g 6) (ok : lOK w N K O W F) (h : wLX x g w N K O W F) {c i : Nat} (hc : c < 6) (hi : i < N c) {Q : Int32 → Prop} (hq : Q (zI (if thb N W F c i then 1 else 0))) : wp_X6_isThin x g (zI c) (zI i) Q := by
  have okc := ok.2 c hc
  have oki := okc.2 i hi
  have m1 : (c + 1) % 6 < 6 := Nat.mod_lt _ (by omega)
  have m5 : (c + 5) % 6 < 6 := Nat.mod_lt _ (by omega)
  unfold wp_X6_isThin
  have e5 : zI (c : Int) + 6 - 1 = zI ((c + 5 : Nat) : Int) := by rw [show (6 : Int32) = zI 6 from rfl, show (1 : Int32) = zI 1 from rfl, zI_add, zI_sub]; exact zI_c (by omega)
  rw [e5, zI_p1, zI_rem6 (by omega), zI_rem6 (by omega)]
  refine wl_cell hg h.1 (P := fun o1 => _) hc (wl_cell hg h.1 (P := fun o2 => _) m5 (wl_cell hg h.1 (P := fun o3 => _) m1 ?_))
  refine s_winterAt okc (h.2.2 c hc) hi (s_thickAt okc (h.2.2 c hc) hi ?_)
  have b5 := lowF_b (n := N ((c + 5) % 6)) (W := W ((c + 5) % 6)) (w := W c i) (fun i hi => ((ok.2 _ m5).2 i hi).2.2.2.2) (N ((c + 5) % 6)) 0 (by omega)
  have b1 := lowF_b (n := N ((c + 1) % 6)) (W := W ((c + 1) % 6)) (w := W c i) (fun i hi => ((ok.2 _ m1).2 i hi).2.2.2.2) (N ((c + 1) % 6)) 0 (by omega)
  rw [show (2 : Int32) = zI 2 from rfl, zI_add]
  refine s_lowest (ok.2 _ m5) (h.2.2 _ m5) oki.2.2.1 ?_
  rw [zI_lt (by omega) (by omega) (by omega) (by omega)]
  refine ⟨fun z => ?_, fun z => s_lowest (ok.2 _ m1) (h.2.2 _ m1) oki.2.2.1 ?_⟩
  · rwa [show thb N W F c i = false by unfold thb; rw [decide_eq_false_iff_not]; omega] at hq
  · rw [zI_lt (by omega) (by omega) (by omega) (by omega)]
    refine ⟨fun z2 => ?_, fun z2 => ?_⟩
    · rwa [show thb N W F c i = false by unfold thb; rw [decide_eq_false_iff_not]; omega] at hq
    · rwa [show thb N W F c i = true by unfold thb; rw [decide_eq_true_eq]; omega] at hq
theorem s_thinLayers (hg : xk g 6) (ok : lOK w N K O W F) (h : wLX x g w N K O W F) {Q : Int32 → Prop} (hq : Q (zI (sg (fun c => sg (cnt (thb N W F c)) (N c)) 6))) : wp_X6_thinLayers x g Q := by
  have hb : ∀ c, c ≤ 6 → sg (fun c => sg (cnt (thb N W F c)) (N c)) c ≤ c * 8 := fun c hc => sg_le (fun i hi => Nat.le_trans (sg_cnt _ _) (ok.2 i (by omega)).1)
  refine ⟨fun y1 y2 => ∃ c : Nat, c ≤ 6 ∧ y2 = zI c ∧ y1 = zI (sg (fun c => sg (cnt (thb N W F c)) (N c)) c), fun _ y2 => 7 - y2.toInt.toNat, ⟨0, by omega, rfl, rfl⟩, ?_⟩
  rintro y1 y2 ⟨c, hc, rfl, rfl⟩
  rw [show (6 : Int32) = zI 6 from rfl, zI_le (by omega) (by omega) (by omega) (by omega)]
  refine ⟨fun z => ?_, fun z => ?_⟩
  · have e : c = 6 := by omega
    subst e; exact hq
  · have hc6 : c < 6 := by omega
    have hn := (ok.2 c hc6).1
    refine ⟨fun y3 y4 => ∃ i : Nat, i ≤ N c ∧ y4 = zI i ∧ y3 = zI ((sg (fun c => sg (cnt (thb N W F c)) (N c)) c + sg (cnt (thb N W F c)) i : Nat) : Int), fun _ y4 => 9 - y4.toInt.toNat, ⟨0, by omega, rfl, rfl⟩, ?_⟩
    rintro y3 y4 ⟨i, hi, rfl, rfl⟩
    refine wl_cell hg h.1 (P := fun o5 => _) hc6 ?_
    rw [(h.2.2 c hc6).1, zI_le (by omega) (by omega) (by omega) (by omega)]
    refine ⟨fun z2 => ?_, fun z2 => ?_⟩
    · have e : i = N c := by omega
      subst e
      exact ⟨⟨c + 1, by omega, zI_p1 c, rfl⟩, mup 7 (by omega) (by omega) (by omega)⟩
    · have e := sg_s (cnt (thb N W F c)) i
      refine s_isThin hg ok h hc6 (by omega) ?_
      cases hr : thb N W F c i
      · have e0 : cnt (thb N W F c) i = 0 := by simp [cnt, hr]
        refine ⟨fun _ => ⟨⟨i + 1, by omega, zI_p1 i, zI_c (by omega)⟩, mup 9 (by omega) (by omega) (by omega)⟩, fun z => absurd rfl z⟩
      · have e0 : cnt (thb N W F c) i = 1 := by simp [cnt, hr]
        refine ⟨fun z => absurd z (by decide), fun _ => ⟨⟨i + 1, by omega, zI_p1 i, ?_⟩, mup 9 (by omega) (by omega) (by omega)⟩⟩
        rw [zI_p1]; exact zI_c (by omega)
/-- the first of them: 10 times the cell, and which; -4 -/
def fthC (p : Nat → Bool) (c : Nat) : Nat → Nat → Option Int
  | _, 0 => none
  | i, k + 1 => if p i then some (10 * (c : Int) + i) else fthC p c (i + 1) k
def fthL (p : Nat → Nat → Bool) (N : Nat → Nat) : Nat → Nat → Int
  | _, 0 => -4
  | c, k + 1 => match fthC (p c) c 0 (N c) with
    | some r => r
    | none => fthL p N (c + 1) k
theorem s_firstThin (hg : xk g 6) (ok : lOK w N K O W F) (h : wLX x g w N K O W F) {Q : Int32 → Prop} (hq : Q (zI (fthL (thb N W F) N 0 6))) : wp_X6_firstThin x g Q := by
  refine ⟨fun y1 => ∃ c : Nat, c ≤ 6 ∧ y1 = zI c ∧ fthL (thb N W F) N 0 6 = fthL (thb N W F) N c (6 - c), fun y1 => 7 - y1.toInt.toNat, ⟨0, by omega, rfl, rfl⟩, ?_⟩
  rintro y1 ⟨c, hc, rfl, he⟩
  rw [he] at hq
  rw [show (6 : Int32) = zI 6 from rfl, zI_le (by omega) (by omega) (by omega) (by omega)]
  refine ⟨fun z => ?_, fun z => ?_⟩
  · have e : c = 6 := by omega
    subst e; exact hq
  · have hc6 : c < 6 := by omega
    have hn := (ok.2 c hc6).1
    obtain ⟨r, hr⟩ : ∃ r, 6 - c = r + 1 := ⟨6 - c - 1, by omega⟩
    rw [hr] at he hq
    refine ⟨fun y2 => ∃ i : Nat, i ≤ N c ∧ y2 = zI i ∧ fthC (thb N W F c) c 0 (N c) = fthC (thb N W F c) c i (N c - i), fun y2 => 9 - y2.toInt.toNat, ⟨0, by omega, rfl, rfl⟩, ?_⟩
    rintro y2 ⟨i, hi, rfl, he2⟩
    refine wl_cell hg h.1 (P := fun o3 => _) hc6 ?_
    rw [(h.2.2 c hc6).1, zI_le (by omega) (by omega) (by omega) (by omega)]
    refine ⟨fun z2 => ?_, fun z2 => ?_⟩
    · rw [show N c - i = 0 by omega] at he2
      refine ⟨⟨c + 1, by omega, zI_p1 c, ?_⟩, mup 7 (by omega) (by omega) (by omega)⟩
      rw [he, show 6 - (c + 1) = r by omega]; simp only [fthL]; rw [he2]; rfl
    · obtain ⟨s, hs⟩ : ∃ s, N c - i = s + 1 := ⟨N c - i - 1, by omega⟩
      rw [hs] at he2
      refine s_isThin hg ok h hc6 (by omega) ?_
      cases ht : thb N W F c i
      · refine ⟨fun _ => ⟨⟨i + 1, by omega, zI_p1 i, ?_⟩, mup 9 (by omega) (by omega) (by omega)⟩, fun z => absurd rfl z⟩
        rw [he2, show N c - (i + 1) = s by omega]; simp [fthC, ht]
      · refine ⟨fun z => absurd z (by decide), fun _ => ?_⟩
        have e3 : fthC (thb N W F c) c i (s + 1) = some (10 * (c : Int) + i) := by simp [fthC, ht]
        simp only [fthL] at hq
        rw [he2, e3] at hq
        rw [show (10 : Int32) = zI 10 from rfl, zI_mul, zI_add]; exact hq
end LXT
