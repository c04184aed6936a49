/-! ===== the class's lakes, changed ===== -/
/-- one row of ints alone may be another -/
def XB (x x' : XS) (t : Nat) : Prop := x'.1 = x.1 ∧ x'.2.2 = x.2.2 ∧ ∀ u, u ≠ t → x'.2.1 u = x.2.1 u
theorem XB_rf (x : XS) (t : Nat) : XB x x t := ⟨rfl, rfl, fun _ _ => rfl⟩
theorem XB_tr {x y z : XS} {t : Nat} (h1 : XB x y t) (h2 : XB y z t) : XB x z t := ⟨h2.1.trans h1.1, h2.2.1.trans h1.2.1, fun u h => (h2.2.2 u h).trans (h1.2.2 u h)⟩
theorem XB_A (x : XS) (t : Nat) (f : Nat → Int32) : XB x (xA x t f) t := ⟨rfl, rfl, fun u h => by simp only [xA, va_up]; rw [if_neg h]⟩
theorem CX_keep {x x' : XS} {b n : Nat} {K O W F : Nat → Nat} (h : CX x b n K O W F) (h1 : x'.1 b 6 = x.1 b 6) (h2 : ∀ t, b < t → t ≤ b + 6 → x'.2.1 t = x.2.1 t) : CX x' b n K O W F := by
  refine ⟨h1.trans h.1, fun i hi => ?_⟩
  rw [h2 (b + 1) (by omega) (by omega), h2 (b + 2) (by omega) (by omega), h2 (b + 3) (by omega) (by omega), h2 (b + 4) (by omega) (by omega), h2 (b + 5) (by omega) (by omega), h2 (b + 6) (by omega) (by omega)]
  exact h.2 i hi
section LXW
variable {x x' : XS} {g w : Nat} {N N' : Nat → Nat} {K O W F K' O' W' F' : Nat → Nat → Nat}
theorem wLX_cong (h : wLX x g w N K O W F) (e : ∀ c, c < 6 → N' c = N c ∧ K' c = K c ∧ O' c = O c ∧ W' c = W c ∧ F' c = F c) : wLX x g w N' K' O' W' F' :=
  ⟨h.1, h.2.1, fun c hc => by obtain ⟨e1, e2, e3, e4, e5⟩ := e c hc; rw [e1, e2, e3, e4, e5]; exact h.2.2 c hc⟩
theorem lOK_cong (h : lOK w N K O W F) (e : ∀ c, c < 6 → N' c = N c ∧ K' c = K c ∧ O' c = O c ∧ W' c = W c ∧ F' c = F c) : lOK w N' K' O' W' F' :=
  ⟨h.1, fun c hc => by obtain ⟨e1, e2, e3, e4, e5⟩ := e c hc; rw [e1, e2, e3, e4, e5]; exact h.2 c hc⟩
theorem wLX_B {t : Nat} (ht : t < 29) (hg : xk g 6) (h : wLX x g w N K O W F) (hB : XB x x' t) : wLX x' g w N K O W F := by
  have h29 : 29 ≤ g := by rcases xk_lake g hg.1 hg.2 with rfl | rfl | rfl <;> omega
  refine ⟨by unfold wLP; rw [hB.2.1]; exact h.1, by rw [hB.1]; exact h.2.1, fun c hc => ?_⟩
  have h1 := wLP_in h.1 hc
  rw [hB.2.1]
  exact CX_keep (h.2.2 c hc) (by rw [hB.1]) (fun t h1 h2 => hB.2.2 t (by omega))
theorem wLX_keep {q : Nat} (hg : xk g 6) (hq : xk q 6) (hne : q ≠ g) (h : wLX x q w N K O W F) (hG : XG x x' g) : wLX x' q w N K O W F := by
  have hd : q + 44 ≤ g ∨ g + 44 ≤ q := by rcases xk_lake g hg.1 hg.2 with rfl | rfl | rfl <;> rcases xk_lake q hq.1 hq.2 with rfl | rfl | rfl <;> omega
  have e := hG.2.2 (q + 1) (by omega)
  refine ⟨by unfold wLP; rw [e]; exact h.1, by rw [hG.1 q 2 (by omega)]; exact h.2.1, fun c hc => ?_⟩
  have h1 := wLP_in h.1 hc
  rw [e]
  exact CX_keep (h.2.2 c hc) (hG.1 _ 6 (by omega)) (fun t h1 h2 => hG.2.1 t (by omega))
/-- a cell of the lake has changed -/
theorem wLX_set (hg : xk g 6) (h : wLX x g w N K O W F) {c : Nat} (hc : c < 6) {n : Nat} {K1 O1 W1 F1 : Nat → Nat} (hF : XF x x' (x.2.2 (g + 1) c)) (hX : CX x' (x.2.2 (g + 1) c) n K1 O1 W1 F1) : wLX x' g w (upc N c n) (upc K c K1) (upc O c O1) (upc W c W1) (upc F c F1) := by
  have hb := wLP_in h.1 hc
  refine ⟨by unfold wLP; rw [hF.1]; exact h.1, by rw [hF.2.1 g 2 (by omega)]; exact h.2.1, fun d hd => ?_⟩
  rw [hF.1]
  by_cases e : d = c
  · subst e; simp only [upc, if_true]; exact hX
  · simp only [upc, if_neg e]
    have hn : x.2.2 (g + 1) c ≠ x.2.2 (g + 1) d := fun z => e (h.1.2 d c hd hc z.symm)
    have hk1 := wLP_xk hg h.1 hc
    have hk2 := wLP_xk hg h.1 hd
    have hdis := (xk_dis _ hk1.1 _ hk2.1 hk1.2 hk2.2).resolve_left hn
    exact CX_keep (h.2.2 d hd) (hF.2.1 _ 6 (by omega)) (fun t h1 h2 => hF.2.2 t (by omega))
theorem lOK_set (h : lOK w N K O W F) {c : Nat} {n : Nat} {K1 O1 W1 F1 : Nat → Nat} (hX : cOK n K1 O1 W1 F1) : lOK w (upc N c n) (upc K c K1) (upc O c O1) (upc W c W1) (upc F c F1) := by
  refine ⟨h.1, fun d hd => ?_⟩
  by_cases e : d = c
  · subst e; simp only [upc, if_true]; exact hX
  · simp only [upc, if_neg e]; exact h.2 d hd
theorem XF_XG (h : wLX x g w N K O W F) {c : Nat} (hc : c < 6) (hF : XF x x' (x.2.2 (g + 1) c)) : XG x x' g := by
  have hb := wLP_in h.1 hc
  exact XG_F (by omega) (by omega) hF
theorem s_kindAndOath {k o : Int} (h1 : -2147483648 ≤ k) (h2 : k < 2147483648) (h3 : -2147483648 ≤ o) (h4 : o < 2147483648) {Q : Int32 → Prop} (hy : 0 ≤ k ∧ k < 8 ∧ 0 ≤ o ∧ o < 10 → Q (zI 1)) (hn : ¬ (0 ≤ k ∧ k < 8 ∧ 0 ≤ o ∧ o < 10) → Q (zI 0)) : wp_X11_isKindAndOath (zI k) (zI o) Q := by
  refine s_within (a := 0) (b := 7) h1 h2 (by omega) (by omega) (by omega) (by omega) (fun c => ?_) (fun c => ?_)
  · refine ⟨fun z => absurd z (by decide), fun _ => s_within (a := 0) (b := 9) h3 h4 (by omega) (by omega) (by omega) (by omega) (fun c2 => ?_) (fun c2 => ?_)⟩
    · exact ⟨fun z => absurd z (by decide), fun _ => hy (by omega)⟩
    · exact ⟨fun _ => hn (by omega), fun z => absurd rfl z⟩
  · exact ⟨fun _ => hn (by omega), fun z => absurd rfl z⟩
theorem s_kindOf {k : Nat} (hk : k < 8) {Q : Option Nat → Prop} (hq : Q (some k)) : wp_X11_kindOf x (zI k) Q := by
  refine s_within (p := k) (a := 0) (b := 7) (by omega) (by omega) (by omega) (by omega) (by omega) (by omega) (fun c => ?_) (fun c => absurd (by omega) c)
  refine ⟨fun z => absurd z (by decide), fun _ => ⟨zI_in (by omega) (by omega) (by omega), fun o ho => ?_⟩⟩
  rw [zI_clN (by omega)] at ho
  subst ho; exact hq
/-- to freeze, what it answers: -1, -2, or the fingers -/
theorem s_freezeIn (hg : xk g 6) (ok : lOK w N K O W F) (h : wLX x g w N K O W F) {c k o f : Int} (hc1 : -2147483648 ≤ c) (hc2 : c < 2147483648) (hk1 : -2147483648 ≤ k) (hk2 : k < 2147483648) (ho1 : -2147483648 ≤ o) (ho2 : o < 2147483648) (hf1 : -2147483648 ≤ f) (hf2 : f < 2147483648) {Q : Int32 → XS → Prop}
    (hno : ¬ (0 ≤ c ∧ c < 6 ∧ 0 ≤ k ∧ k < 8 ∧ 0 ≤ o ∧ o < 10 ∧ 1 ≤ f ∧ f ≤ 9) → Q (zI (-1)) x)
    (hfu : ∀ c0 : Nat, c = c0 → c0 < 6 → 0 ≤ k ∧ k < 8 ∧ 0 ≤ o ∧ o < 10 ∧ 1 ≤ f ∧ f ≤ 9 → N c0 = 8 → Q (zI (-2)) x)
    (hy : ∀ (c0 k0 o0 f0 : Nat) (x' : XS), c = c0 → k = k0 → o = o0 → f = f0 → c0 < 6 → k0 < 8 → o0 < 10 → 1 ≤ f0 → f0 ≤ 9 → N c0 < 8 → wLX x' g w (upc N c0 (N c0 + 1)) (upc K c0 (ups (K c0) (N c0) k0)) (upc O c0 (ups (O c0) (N c0) o0)) (upc W c0 (ups (W c0) (N c0) w)) (upc F c0 (ups (F c0) (N c0) (thk k0 o0 f0))) → XG x x' g → Q (zI (thk k0 o0 f0)) x') : wp_X6_freezeIn x g (zI c) (zI k) (zI o) (zI f) Q := by
  refine s_cellAt hg h.1 hc1 hc2 (fun z => hno (by omega)) (fun c0 hc0 ec => ?_)
  subst ec
  refine ⟨wLP_xk hg h.1 hc0, s_kindAndOath hk1 hk2 ho1 ho2 (fun z => ?_) (fun z => ?_)⟩
  · refine ⟨fun q => absurd q (by decide), fun _ => s_within (a := 1) (b := 9) hf1 hf2 (by omega) (by omega) (by omega) (by omega) (fun z2 => ?_) (fun z2 => ?_)⟩
    · obtain ⟨k0, rfl⟩ : ∃ k0 : Nat, k = k0 := ⟨k.toNat, by omega⟩
      obtain ⟨o0, rfl⟩ : ∃ o0 : Nat, o = o0 := ⟨o.toNat, by omega⟩
      obtain ⟨f0, rfl⟩ : ∃ f0 : Nat, f = f0 := ⟨f.toNat, by omega⟩
      refine ⟨fun _ => s_kindOf (by omega) ⟨by omega, ?_⟩, fun q => absurd q (by decide)⟩
      have okc := ok.2 c0 hc0
      rw [h.2.1]
      by_cases hn : N c0 < 8
      · refine s_freezeOn okc (h.2.2 c0 hc0) hn (by omega) (by omega) (by omega) (by omega) (fun x' hX hF => ?_)
        exact hy c0 k0 o0 f0 x' rfl rfl rfl rfl hc0 (by omega) (by omega) (by omega) (by omega) hn (wLX_set hg h hc0 hF hX) (XF_XG h hc0 hF)
      · have e8 : N c0 = 8 := by have := okc.1; omega
        refine s_freezeOnF (by rw [← e8]; exact h.2.2 c0 hc0) (hfu c0 rfl hc0 (by omega) e8)
    · exact ⟨fun q => absurd rfl q, fun _ => hno (by omega)⟩
  · exact ⟨fun _ => hno (by omega), fun q => absurd rfl q⟩
theorem s_cutIn (hg : xk g 6) (ok : lOK w N K O W F) (h : wLX x g w N K O W F) {c f : Int} (hc1 : -2147483648 ≤ c) (hc2 : c < 2147483648) (hf1 : -2147483648 ≤ f) (hf2 : f < 2147483648) {Q : Int32 → XS → Prop}
    (hno : ¬ (0 ≤ c ∧ c < 6 ∧ 1 ≤ f ∧ f ≤ 99) → Q (zI (-1)) x)
    (hy : ∀ (c0 f0 : Nat) (x' : XS), c = c0 → f = f0 → c0 < 6 → 1 ≤ f0 → f0 ≤ 99 → wLX x' g w (upc N c0 (cutS (F c0) (N c0) f0).1) K O W (upc F c0 (cutS (F c0) (N c0) f0).2) → XG x x' g → Q (zI (N c0 - (cutS (F c0) (N c0) f0).1 : Int)) x') : wp_X6_cutIn x g (zI c) (zI f) Q := by
  refine s_cellAt hg h.1 hc1 hc2 (fun z => hno (by omega)) (fun c0 hc0 ec => ?_)
  subst ec
  refine ⟨wLP_xk hg h.1 hc0, s_within (a := 1) (b := 99) hf1 hf2 (by omega) (by omega) (by omega) (by omega) (fun z => ?_) (fun z => ?_)⟩
  · obtain ⟨f0, rfl⟩ : ∃ f0 : Nat, f = f0 := ⟨f.toNat, by omega⟩
    refine ⟨fun _ => s_cutOff (ok.2 c0 hc0) (h.2.2 c0 hc0) (by omega) (fun x' hX hF => ?_), fun q => absurd q (by decide)⟩
    refine hy c0 f0 x' rfl rfl hc0 (by omega) (by omega) (wLX_cong (wLX_set hg h hc0 hF hX) (fun d hd => ⟨rfl, ?_, ?_, ?_, rfl⟩)) (XF_XG h hc0 hF)
    all_goals (unfold upc; split <;> simp_all)
  · exact ⟨fun q => absurd rfl q, fun _ => hno (by omega)⟩
theorem s_nextWinter (hg : xk g 6) (ok : lOK w N K O W F) (h : wLX x g w N K O W F) {Q : Int32 → XS → Prop} (hno : w = 99 → Q (zI (-2)) x) (hy : ∀ x', w < 99 → wLX x' g (w + 1) N K O W F → XG x x' g → Q (zI (w + 1 : Int)) x') : wp_X6_nextWinter x g Q := by
  have hw := ok.1
  unfold wp_X6_nextWinter
  rw [h.2.1, show (99 : Int32) = zI 99 from rfl, zI_lt (by omega) (by omega) (by omega) (by omega)]
  refine ⟨fun c x1 e1 => ?_, fun c => hno (by omega)⟩
  have e2 : x1.1 g 2 = zI (w + 1 : Int) := by rw [e1, zI_p1]; simp only [xI, and_self, if_true]; exact zI_c (by omega)
  have h29 : 29 ≤ g := by rcases xk_lake g hg.1 hg.2 with rfl | rfl | rfl <;> omega
  rw [e2]
  refine hy x1 (by omega) ⟨by rw [e1]; exact h.1, by rw [e2]; exact zI_c (by omega), fun c0 hc0 => ?_⟩ ?_
  · have hb := wLP_in h.1 hc0
    rw [e1]
    exact CX_keep (x := x) (h.2.2 c0 hc0) (by simp only [xI]; rw [if_neg (by omega)]) (fun _ _ _ => rfl)
  · rw [e1]
    exact ⟨fun i k hi => by simp only [xI]; rw [if_neg (by omega)], fun _ _ => rfl, fun _ _ => rfl⟩
def rot {α : Type} (f : Nat → α) : Nat → α := fun c => f ((c + 5) % 6)
theorem s_driftOn (hg : xk g 6) (ok : lOK w N K O W F) (h : wLX x g w N K O W F) {Q : Int32 → XS → Prop} (hq : ∀ x', wLX x' g w (rot N) (rot K) (rot O) (rot W) (rot F) → XG x x' g → Q (zI (N 5)) x') : wp_X6_driftOn x g Q := by
  refine wl_cell hg h.1 (c := 5) (P := fun o1 => _) (by omega) ?_
  refine ⟨fun y2 x3 => ∃ i : Nat, i < 6 ∧ y2 = zI i ∧ x3.1 = x.1 ∧ x3.2.1 = x.2.1 ∧ (∀ t, t ≠ g + 1 → x3.2.2 t = x.2.2 t) ∧ ∀ c, c < 6 → x3.2.2 (g + 1) c = x.2.2 (g + 1) (if i < c then c - 1 else c), fun y2 _ => (y2.toInt + 1).toNat, ⟨5, by omega, rfl, rfl, rfl, fun _ _ => rfl, fun c hc => by rw [if_neg (by omega)]⟩, ?_⟩
  rintro y2 x3 ⟨i, hi, rfl, h1, h2, h3, h4⟩
  rw [show (0 : Int32) = zI 0 from rfl, zI_le (by omega) (by omega) (by omega) (by omega)]
  refine ⟨fun c => ⟨zI_in (by omega) (by omega) (by omega), fun x4 e4 => ?_⟩, fun c => ?_⟩
  · have e0 : i = 0 := by omega
    subst e0
    rw [show Int32.toNatClampNeg (zI 0) = 0 from rfl] at e4
    have hs : ∀ c, c < 6 → x4.2.2 (g + 1) c = x.2.2 (g + 1) ((c + 5) % 6) := fun c hc => by
      rw [e4]
      simp only [xP, va_up, if_true]
      by_cases ec : c = 0
      · rw [if_pos ec, ec]
      · rw [if_neg ec, h4 c hc, if_pos (by omega), show c - 1 = (c + 5) % 6 by omega]
    have e1 : x4.1 = x.1 := by rw [e4]; exact h1
    have e2 : x4.2.1 = x.2.1 := by rw [e4]; exact h2
    have hm : ∀ c : Nat, (c + 5) % 6 < 6 := fun c => Nat.mod_lt _ (by omega)
    have h5 : x4.1 (x.2.2 (g + 1) 5) 6 = zI (N 5) := by rw [e1]; exact (h.2.2 5 (by omega)).1
    rw [h5]
    refine hq x4 ⟨⟨fun c hc => ?_, fun c d hc hd he => ?_⟩, by rw [e1]; exact h.2.1, fun c hc => ?_⟩ ⟨fun _ _ _ => by rw [e1], fun _ _ => by rw [e2], fun t ht => ?_⟩
    · rw [hs c hc]; exact h.1.1 _ (hm c)
    · rw [hs c hc, hs d hd] at he
      have := h.1.2 _ _ (hm c) (hm d) he
      omega
    · rw [hs c hc]
      exact CX_keep (x := x) (h.2.2 _ (hm c)) (by rw [e1]) (fun _ _ _ => by rw [e2])
    · rw [e4]; simp only [xP, va_up]; rw [if_neg (by omega)]; exact h3 t (by omega)
  · obtain ⟨k, rfl⟩ : ∃ k, i = k + 1 := ⟨i - 1, by omega⟩
    rw [show zI ((k + 1 : Nat) : Int) - 1 = zI (k : Int) by rw [show (1 : Int32) = zI 1 from rfl, zI_sub]; exact zI_c (by omega), zI_clN (by omega), zI_clN (by omega)]
    refine ⟨zI_in (by omega) (by omega) (by omega), fun o5 e5 => ⟨?_, zI_in (by omega) (by omega) (by omega), fun x6 e6 => ⟨⟨k, by omega, ?_, ?_, ?_, ?_, ?_⟩, ?_⟩⟩⟩
    · rw [e5, h4 k (by omega), if_neg (by omega)]; exact wLP_xk hg h.1 (by omega)
    · rw [zI_m1]; exact zI_c (by omega)
    · rw [e6]; exact h1
    · rw [e6]; exact h2
    · intro t ht
      rw [e6]; simp only [xP, va_up]; rw [if_neg ht]; exact h3 t ht
    · intro c hc
      rw [e6]; simp only [xP, va_up, if_true]
      by_cases ec : c = k + 1
      · rw [if_pos ec, e5, h4 k (by omega), if_neg (by omega), if_pos (by omega), show c - 1 = k by omega]
      · rw [if_neg ec, h4 c hc]
        by_cases e2 : k + 1 < c
        · rw [if_pos e2, if_pos (by omega)]
        · rw [if_neg e2, if_neg (by omega)]
    · exact mdn (by omega) (by omega)
end LXW
