/-! ===== the object's constructor: what it has made ===== -/
def pX (i : Nat) : Nat := if i < 10 then i else if i < 29 then i + 132 else i - 19
def rX (i : Nat) : Nat := if i < 10 then i else if i < 142 then i + 19 else i - 132
theorem pX_l {j : Nat} (h : 29 ≤ j) : pX j = j - 19 := by
  unfold pX
  rw [if_neg (by omega), if_neg (by omega)]
theorem pX_m {j : Nat} (h : 10 ≤ j) (h2 : j < 29) : pX j = j + 132 := by
  unfold pX
  rw [if_neg (by omega), if_pos h2]
theorem pX_s {j : Nat} (h : j < 10) : pX j = j := by
  unfold pX
  rw [if_pos h]
theorem rX_s {j : Nat} (h : j < 10) : rX j = j := by
  unfold rX
  rw [if_pos h]
theorem rX_l {j : Nat} (h : 10 ≤ j) (h2 : j < 142) : rX j = j + 19 := by
  unfold rX
  rw [if_neg (by omega), if_pos h2]
theorem rX_m {j : Nat} (h : 142 ≤ j) : rX j = j - 132 := by
  unfold rX
  rw [if_neg (by omega), if_neg (by omega)]
def x0 : XS := (fun _ _ => 0, fun _ _ => 0, fun t k => t + 1 + 7 * k)
def eNX11 : va_E := .inr (11, [.null, .null, .null, .null, .null, .null, .null, .int 0, .int 0])
def eCX11 (cs : Nat → ClassId) (u : Nat → Nat) (i : Nat) : va_E := XE cs (fun j => u (pX j)) x0 (rX i)
/-- the layers, and the lakes that are made -/
def PB (cs : Nat → ClassId) (b : Nat) (g : GS) : Prop := (∀ k, k < 8 → g.2.2 (2 + k) = .inr (xlt k, [])) ∧ (∃ f : Nat → Option Nat, g.2.2 1 = .inl (cs 1, 8, .inr (.inr (.inr (.inr f)))) ∧ ∀ k, k < 8 → f k = some (g.2.1 (2 + k))) ∧ ∀ b' i, b' < b → i < 44 → g.2.2 (10 + 44 * b' + i) = eCX6 cs (g.2.1 1) (fun t => g.2.1 (10 + 44 * b' + t)) i
theorem eCX6_cong {cs : Nat → ClassId} {kq kq' i : Nat} {u u' : Nat → Nat} (hk : kq = kq') (h : ∀ t, t < 44 → u t = u' t) (hi : i < 44) : eCX6 cs kq u i = eCX6 cs kq' u' i := by
  subst hk
  by_cases e0 : i = 0
  · subst e0
    unfold eCX6
    rw [if_pos rfl, if_pos rfl, h 1 (by omega)]
  by_cases e1 : i = 1
  · subst e1
    unfold eCX6
    rw [if_neg (show ¬ 1 = 0 by omega), if_pos rfl, if_neg (show ¬ 1 = 0 by omega), if_pos rfl]
    have : (fun j => if j < 6 then some (u (2 + 7 * j)) else none : Nat → Option Nat) = fun j => if j < 6 then some (u' (2 + 7 * j)) else none := by
      funext j
      by_cases hj : j < 6
      · rw [if_pos hj, if_pos hj, h _ (by omega)]
      · rw [if_neg hj, if_neg hj]
    rw [this]
  by_cases h7 : (i - 2) % 7 = 0
  · rw [eCX6_2 (by omega) h7, eCX6_2 (by omega) h7, h _ (by omega), h _ (by omega), h _ (by omega), h _ (by omega), h _ (by omega), h _ (by omega)]
  · rw [eCX6_3 (by omega) h7, eCX6_3 (by omega) h7]
theorem PB_keep {cs : Nat → ClassId} {b : Nat} {g g' : GS} (h : PB cs b g) (h1 : ∀ i, i < 10 + 44 * b → g'.2.1 i = g.2.1 i) (h2 : ∀ i, i < 10 + 44 * b → i ≠ 0 → g'.2.2 i = g.2.2 i) : PB cs b g' := by
  obtain ⟨a1, ⟨f, a2, a3⟩, a4⟩ := h
  refine ⟨fun k hk => (h2 _ (by omega) (by omega)).trans (a1 k hk), ⟨f, (h2 _ (by omega) (by omega)).trans a2, fun k hk => by rw [a3 k hk, h1 _ (by omega)]⟩, fun b' i hb hi => ?_⟩
  have hm : 44 * b' + 44 ≤ 44 * b := by omega
  rw [h2 _ (by omega) (by omega), a4 b' i hb hi]
  exact eCX6_cong (h1 1 (by omega)).symm (fun t ht => (h1 _ (by omega)).symm) hi
/-- one lake more -/
theorem PB_lake {cs : Nat → ClassId} {b q n : Nat} {g : GS} {u : Nat → Nat} {e v : va_E} (h : PB cs b g) (hn : n = 10 + 44 * b) : PB cs (b + 1) (gSet (gJoin (gUp n g q e) n 44 u (eCX6 cs (g.2.1 1) u)) 0 v) ∧ (∀ i, i < n → (gSet (gJoin (gUp n g q e) n 44 u (eCX6 cs (g.2.1 1) u)) 0 v).2.1 i = g.2.1 i) := by
  subst hn
  generalize hg : gSet (gJoin (gUp (10 + 44 * b) g q e) (10 + 44 * b) 44 u (eCX6 cs (g.2.1 1) u)) 0 v = g3
  have a1 : ∀ i, i < 10 + 44 * b → g3.2.1 i = g.2.1 i := fun i hi => by
    rw [← hg]
    exact (if_pos hi).trans (if_neg (by omega))
  have a2 : ∀ i, g3.2.1 (10 + 44 * b + i) = u i := fun i => by
    rw [← hg]
    refine (if_neg (by omega)).trans ?_
    rw [show 10 + 44 * b + i - (10 + 44 * b) = i by omega]
  have e1 : ∀ i, i < 10 + 44 * b → i ≠ 0 → g3.2.2 i = g.2.2 i := fun i hi h1 => by
    rw [← hg]
    exact (if_neg h1).trans ((if_pos hi).trans (if_neg (by omega)))
  have e2 : ∀ i, g3.2.2 (10 + 44 * b + i) = eCX6 cs (g.2.1 1) u i := fun i => by
    rw [← hg]
    refine (if_neg (by omega)).trans ((if_neg (by omega)).trans ?_)
    rw [show 10 + 44 * b + i - (10 + 44 * b) = i by omega]
  refine ⟨?_, a1⟩
  obtain ⟨b1, b2, b3⟩ := PB_keep h a1 e1
  refine ⟨b1, b2, fun b' i hb hi => ?_⟩
  by_cases hl : b' < b
  · exact b3 b' i hl hi
  · obtain rfl : b' = b := by omega
    rw [e2, a1 1 (by omega)]
    exact eCX6_cong rfl (fun t _ => (a2 t).symm) hi
/-- the shelves that are made -/
def PS (cs : Nat → ClassId) (c : Nat) (g : GS) : Prop := g.2.2 142 = .inl (cs 3, 8, .inr (.inr (.inr (.inr (fun j => if j < c then some (g.2.1 (143 + 2 * j)) else none))))) ∧ ∀ c', c' < c → g.2.2 (143 + 2 * c') = .inr (9, [.ref (g.2.1 (144 + 2 * c')), .int 0, .int 0, .int 0, .int 0, .int 0]) ∧ g.2.2 (144 + 2 * c') = .inl (cs 0, 100, .inl (fun _ => 0))
theorem PS_keep {cs : Nat → ClassId} {c : Nat} {g g' : GS} (h : PS cs c g) (h1 : ∀ i, i < 143 + 2 * c → g'.2.1 i = g.2.1 i) (h2 : ∀ i, i < 143 + 2 * c → i ≠ 0 → g'.2.2 i = g.2.2 i) : PS cs c g' := by
  obtain ⟨a1, a2⟩ := h
  refine ⟨?_, fun c' hc => ⟨?_, ?_⟩⟩
  · rw [h2 142 (by omega) (by omega), a1]
    have : (fun j => if j < c then some (g.2.1 (143 + 2 * j)) else none : Nat → Option Nat) = fun j => if j < c then some (g'.2.1 (143 + 2 * j)) else none := by
      funext j
      by_cases hj : j < c
      · rw [if_pos hj, if_pos hj, h1 _ (by omega)]
      · rw [if_neg hj, if_neg hj]
    rw [this]
  · rw [h2 _ (by omega) (by omega), (a2 c' hc).1, h1 (144 + 2 * c') (by omega)]
  · rw [h2 _ (by omega) (by omega), (a2 c' hc).2]
def JX9 (A : Nat → Prop) (cs : Nat → ClassId) (a : Nat) (vs : List Value) (c : Nat) (g : GS) : Prop := GI A g ∧ g.1 = 143 + 2 * c ∧ g.2.1 0 = a ∧ g.2.2 0 = .inr (11, vs) ∧ vs = [.ref (g.2.1 1), .ref (g.2.1 10), .ref (g.2.1 54), .ref (g.2.1 98), .ref (g.2.1 142), .null, .null, .int 0, .int 0] ∧ PB cs 3 g ∧ PS cs c g
theorem JX9_step {A : Nat → Prop} {cs : Nat → ClassId} {a c q : Nat} {vs : List Value} {g : GS} {u : Nat → Nat} (h : JX9 A cs a vs c g) (hu : u 0 = q) {v e : va_E} (hv : v = .inl (cs 3, 8, .inr (.inr (.inr (.inr (va_up (fun j => if j < c then some (g.2.1 (143 + 2 * j)) else none) c (some q)))))))
    (hG : GI A (gSet (gJoin (gUp (143 + 2 * c) g q e) (143 + 2 * c) 2 u (eCX9 cs u)) 142 v)) : JX9 A cs a vs (c + 1) (gSet (gJoin (gUp (143 + 2 * c) g q e) (143 + 2 * c) 2 u (eCX9 cs u)) 142 v) := by
  obtain ⟨h1, h2, h3, h4, h4', h5, h6, h7⟩ := h
  generalize hg : gSet (gJoin (gUp (143 + 2 * c) g q e) (143 + 2 * c) 2 u (eCX9 cs u)) 142 v = g3 at hG ⊢
  have a1 : ∀ i, i < 143 + 2 * c → g3.2.1 i = g.2.1 i := fun i hi => by
    rw [← hg]
    exact (if_pos hi).trans (if_neg (by omega))
  have a2 : ∀ i, g3.2.1 (143 + 2 * c + i) = u i := fun i => by
    rw [← hg]
    refine (if_neg (by omega)).trans ?_
    rw [show 143 + 2 * c + i - (143 + 2 * c) = i by omega]
  have e1 : ∀ i, i < 143 + 2 * c → i ≠ 142 → g3.2.2 i = g.2.2 i := fun i hi h1 => by
    rw [← hg]
    exact (if_neg h1).trans ((if_pos hi).trans (if_neg (by omega)))
  have e2 : ∀ i, g3.2.2 (143 + 2 * c + i) = eCX9 cs u i := fun i => by
    rw [← hg]
    refine (if_neg (by omega)).trans ((if_neg (by omega)).trans ?_)
    rw [show 143 + 2 * c + i - (143 + 2 * c) = i by omega]
  have e3 : g3.2.2 142 = v := by
    rw [← hg]
    exact (if_pos rfl : (if (142 : Nat) = 142 then v else (gJoin (gUp (143 + 2 * c) g q e) (143 + 2 * c) 2 u (eCX9 cs u)).2.2 142) = v)
  have n3 : g3.1 = 143 + 2 * c + 2 := by rw [← hg]; rfl
  refine ⟨hG, by rw [n3]; omega, (a1 0 (by omega)).trans h3, (e1 0 (by omega) (by omega)).trans h4, ?_, PB_keep h5 (fun i hi => a1 i (by omega)) (fun i hi _ => e1 i (by omega) (by omega)), ?_, fun c' hc => ?_⟩
  · rw [a1 1 (by omega), a1 10 (by omega), a1 54 (by omega), a1 98 (by omega), a1 142 (by omega)]; exact h4'
  · rw [e3, hv]
    have : (va_up (fun j => if j < c then some (g.2.1 (143 + 2 * j)) else none) c (some q) : Nat → Option Nat) = fun j => if j < c + 1 then some (g3.2.1 (143 + 2 * j)) else none := by
      funext j
      by_cases hj : j = c
      · subst hj
        rw [show va_up (fun j' => if j' < j then some (g.2.1 (143 + 2 * j')) else none) j (some q) j = some q from if_pos rfl, if_pos (by omega), show 143 + 2 * j = 143 + 2 * j + 0 from rfl, a2, hu]
      · rw [show va_up (fun j => if j < c then some (g.2.1 (143 + 2 * j)) else none) c (some q) j = (if j < c then some (g.2.1 (143 + 2 * j)) else none) from if_neg hj]
        by_cases hl : j < c
        · rw [if_pos hl, if_pos (by omega), a1 _ (by omega)]
        · rw [if_neg hl, if_neg (by omega)]
    rw [this]
  · by_cases hl : c' < c
    · rw [e1 _ (by omega) (by omega), e1 _ (by omega) (by omega), a1 _ (by omega)]
      exact h7 c' hl
    · obtain rfl : c' = c := by omega
      have t0 := e2 0
      have t1 := e2 1
      have u1 := a2 1
      rw [show 143 + 2 * c' + 1 = 144 + 2 * c' by omega] at t1 u1
      rw [show 143 + 2 * c' + 0 = 143 + 2 * c' by omega] at t0
      rw [t0, t1, u1]
      exact ⟨rfl, rfl⟩
theorem xt_l : ∀ b, b < 3 → ∀ t, t < 44 → xtag (29 + 44 * b + t) = if t = 0 then 6 else if t = 1 then 22 else if (t - 2) % 7 = 0 then 2 else 20 := by decide +kernel
theorem xl_l : ∀ t, 29 ≤ t → xlen t = 8 := fun t h => by
  unfold xlen
  rw [if_neg (by omega), if_neg (by omega), if_neg (by omega)]
theorem xt_e : ∀ c, c < 8 → xtag (12 + 2 * c) = 20 ∧ xlen (12 + 2 * c) = 100 := by decide +kernel
/-- the world that the constructor has made is the one of the calls -/
theorem X11_fin {D : va_G} {cs : Nat → ClassId} {g : GS} (hn : g.1 = 161) (h0 : g.2.2 0 = .inr (11, [.ref (g.2.1 1), .ref (g.2.1 10), .ref (g.2.1 54), .ref (g.2.1 98), .ref (g.2.1 142), .ref (g.2.1 159), .ref (g.2.1 160), .int 0, .int 0])) (hB : PB cs 3 g) (hS : PS cs 8 g) (h1 : g.2.2 159 = .inl (cs 0, 6, .inl (fun _ => 0))) (h2 : g.2.2 160 = .inl (cs 0, 10, .inl (fun _ => 0))) (H : Heap) (hH : GH D g H) : GH D (161, g.2.1, eCX11 cs g.2.1) H := by
  refine wl_P (fun i hi => ?_)
  have hw := wl_at hH (i := i) (by rw [hn]; exact hi)
  show va_at D vwCl (g.2.1 i, eCX11 cs g.2.1 i) H
  obtain ⟨b1, ⟨f, b2, b3⟩, b4⟩ := hB
  obtain ⟨s1, s2⟩ := hS
  have same : g.2.2 i = eCX11 cs g.2.1 i → va_at D vwCl (g.2.1 i, eCX11 cs g.2.1 i) H := fun e => by rw [← e]; exact hw
  have arr : ∀ (cA : ClassId) (n : Nat) (f f' : Nat → Option Nat), g.2.2 i = .inl (cA, n, .inr (.inr (.inr (.inr f)))) → eCX11 cs g.2.1 i = .inl (cA, n, .inr (.inr (.inr (.inr f')))) → (∀ j, j < n → f j = f' j) → va_at D vwCl (g.2.1 i, eCX11 cs g.2.1 i) H := fun cA n f f' e e' hf => by
    rw [e] at hw
    rw [e']
    have hw : H[g.2.1 i]? = some (vp_cell cA (n, .inr (.inr (.inr (.inr f))))) := hw
    show H[g.2.1 i]? = some (vp_cell cA (n, .inr (.inr (.inr (.inr f')))))
    rw [hw, arr_q hf]
  by_cases c0 : i = 0
  · subst c0
    refine same (h0.trans ?_)
    show _ = XE cs (fun j => g.2.1 (pX j)) x0 0
    rw [xe_11]
    rfl
  by_cases c1 : i = 1
  · subst c1
    refine arr _ _ _ _ b2 (xe_21 (x := x0)) (fun j hj => ?_)
    rw [b3 j hj]
    show some (g.2.1 (2 + j)) = some (g.2.1 (pX (2 + j)))
    rw [pX_s (by omega)]
  by_cases c2 : i < 10
  · refine same ?_
    obtain ⟨k, hk, rfl⟩ : ∃ k, k < 8 ∧ i = 2 + k := ⟨i - 2, by omega, by omega⟩
    rw [b1 k hk]
    unfold eCX11
    rw [rX_s (by omega), xe_ly hk]
  by_cases c3 : i < 142
  · obtain ⟨b, t, hb, ht, rfl⟩ : ∃ b t, b < 3 ∧ t < 44 ∧ i = 10 + 44 * b + t := ⟨(i - 10) / 44, (i - 10) % 44, by omega, by omega, by omega⟩
    have hr : rX (10 + 44 * b + t) = 29 + 44 * b + t := by rw [rX_l (by omega) (by omega)]; omega
    have hp : ∀ y, pX (29 + 44 * b + y) = 10 + 44 * b + y := fun y => by rw [pX_l (by omega)]; omega
    have ht' := xt_l b hb t ht
    by_cases t0 : t = 0
    · subst t0
      refine same ?_
      rw [b4 b 0 hb ht]
      unfold eCX11
      rw [hr, xe_6 ⟨by omega, by rw [ht']; rfl⟩]
      show Sum.inr (6, [Value.ref (g.2.1 1), Value.ref (g.2.1 (10 + 44 * b + 1)), Value.int 0]) = Sum.inr (6, [Value.ref (g.2.1 (pX 1)), Value.ref (g.2.1 (pX (29 + 44 * b + 0 + 1))), Value.int 0])
      rw [show 29 + 44 * b + 0 + 1 = 29 + 44 * b + 1 from rfl, hp, pX_s (by omega)]
    by_cases t1 : t = 1
    · subst t1
      have e : eCX11 cs g.2.1 (10 + 44 * b + 1) = XE cs (fun j => g.2.1 (pX j)) x0 (29 + 44 * b + 1) := by unfold eCX11; rw [hr]
      refine arr _ _ _ _ (b4 b 1 hb ht) (e.trans (xe_22 ⟨by omega, by rw [ht']; rfl⟩)) (fun j hj => ?_)
      rw [if_pos hj]
      show some (g.2.1 (10 + 44 * b + (2 + 7 * j))) = some (g.2.1 (pX (29 + 44 * b + 1 + 1 + 7 * j)))
      rw [show 29 + 44 * b + 1 + 1 + 7 * j = 29 + 44 * b + (2 + 7 * j) by omega, hp]
    refine same ?_
    rw [b4 b t hb ht]
    unfold eCX11
    rw [hr]
    by_cases t7 : (t - 2) % 7 = 0
    · rw [eCX6_2 (by omega) t7, xe_2 ⟨by omega, by rw [ht', if_neg t0, if_neg t1, if_pos t7]⟩]
      show Sum.inr (2, [Value.ref (g.2.1 (10 + 44 * b + (t + 1))), Value.ref (g.2.1 (10 + 44 * b + (t + 2))), Value.ref (g.2.1 (10 + 44 * b + (t + 3))), Value.ref (g.2.1 (10 + 44 * b + (t + 4))), Value.ref (g.2.1 (10 + 44 * b + (t + 5))), Value.ref (g.2.1 (10 + 44 * b + (t + 6))), Value.int 0]) = Sum.inr (2, [Value.ref (g.2.1 (pX (29 + 44 * b + (t + 1)))), Value.ref (g.2.1 (pX (29 + 44 * b + (t + 2)))), Value.ref (g.2.1 (pX (29 + 44 * b + (t + 3)))), Value.ref (g.2.1 (pX (29 + 44 * b + (t + 4)))), Value.ref (g.2.1 (pX (29 + 44 * b + (t + 5)))), Value.ref (g.2.1 (pX (29 + 44 * b + (t + 6)))), Value.int 0])
      simp only [hp]
    · rw [eCX6_3 (by omega) t7, xe_20 ⟨by omega, by rw [ht', if_neg t0, if_neg t1, if_neg t7]⟩, xl_l _ (by omega)]
      rfl
  by_cases c4 : i = 142
  · subst c4
    refine arr _ _ _ _ s1 (xe_23 (x := x0)) (fun j hj => ?_)
    rw [if_pos hj]
    show some (g.2.1 (143 + 2 * j)) = some (g.2.1 (pX (11 + 2 * j)))
    rw [pX_m (by omega) (by omega), show 11 + 2 * j + 132 = 143 + 2 * j by omega]
  by_cases c5 : i < 159
  · obtain ⟨c, hc, hi⟩ : ∃ c, c < 8 ∧ (i = 143 + 2 * c ∨ i = 144 + 2 * c) := ⟨(i - 143) / 2, by omega, by omega⟩
    rcases hi with rfl | rfl
    · refine same ?_
      rw [(s2 c hc).1]
      unfold eCX11
      rw [rX_m (by omega), show 143 + 2 * c - 132 = 11 + 2 * c by omega, xe_9 (xk_sh0 c hc)]
      show Sum.inr (9, [Value.ref (g.2.1 (144 + 2 * c)), Value.int 0, Value.int 0, Value.int 0, Value.int 0, Value.int 0]) = Sum.inr (9, [Value.ref (g.2.1 (pX (11 + 2 * c + 1))), Value.int 0, Value.int 0, Value.int 0, Value.int 0, Value.int 0])
      rw [pX_m (by omega) (by omega), show 11 + 2 * c + 1 + 132 = 144 + 2 * c by omega]
    · refine same ?_
      rw [(s2 c hc).2]
      unfold eCX11
      rw [rX_m (by omega), show 144 + 2 * c - 132 = 12 + 2 * c by omega, xe_20 ⟨by omega, (xt_e c hc).1⟩, (xt_e c hc).2]
      rfl
  by_cases c6 : i = 159
  · subst c6
    refine same (h1.trans ?_)
    show _ = XE cs (fun j => g.2.1 (pX j)) x0 27
    rw [xe_20 xk_27]
    rfl
  · have : i < 161 := hi
    obtain rfl : i = 160 := by omega
    refine same (h2.trans ?_)
    show _ = XE cs (fun j => g.2.1 (pX j)) x0 28
    rw [xe_20 xk_28]
    rfl
