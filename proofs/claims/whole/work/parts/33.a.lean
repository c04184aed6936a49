/-! ===== the class as one value: lake, image, shelves ===== -/
abbrev AS := LK × Option LK × (Nat → SH)
def XR (x : XS) (A : AS) : Prop := (lX x 29 A.1 ∧ lO A.1) ∧ wLP x 117 ∧ (wLP x 73 ∧ x.1 0 7 = zI (if A.2.1.isSome = true then 1 else 0) ∧ ∀ L, A.2.1 = some L → lX x 73 L ∧ lO L) ∧ ∀ d, d < 8 → sX x (11 + 2 * d) (A.2.2 d) ∧ sOK (A.2.2 d)
theorem wLX_on {x x' : XS} {q w : Nat} {N : Nat → Nat} {K O W F : Nat → Nat → Nat} (h : wLX x q w N K O W F) (h1 : ∀ i k, q ≤ i → i < q + 44 → x'.1 i k = x.1 i k) (h2 : ∀ t, q ≤ t → t < q + 44 → x'.2.1 t = x.2.1 t) (h3 : ∀ t, q ≤ t → t < q + 44 → x'.2.2 t = x.2.2 t) : wLX x' q w N K O W F := by
  have e : x'.2.2 (q + 1) = x.2.2 (q + 1) := h3 _ (by omega) (by omega)
  refine ⟨?_, (h1 q 2 (by omega) (by omega)).trans h.2.1, fun c hc => ?_⟩
  · unfold wLP; rw [e]; exact h.1
  · have hb := wLP_in h.1 hc
    rw [e]
    exact CX_keep (h.2.2 c hc) (h1 _ _ (by omega) (by omega)) (fun t ht1 ht2 => h2 t (by omega) (by omega))
theorem wLP_on {x x' : XS} {q : Nat} (h : wLP x q) (h3 : x'.2.2 (q + 1) = x.2.2 (q + 1)) : wLP x' q := by unfold wLP; rw [h3]; exact h
theorem sX_on {x x' : XS} {d : Nat} {S : SH} (hS : sX x d S) (h1 : ∀ k, x'.1 d k = x.1 d k) (h2 : x'.2.1 (d + 1) = x.2.1 (d + 1)) : sX x' d S := by
  obtain ⟨a1, a2, a3, a4, a5, a6⟩ := hS
  exact ⟨(h1 1).trans a1, (h1 2).trans a2, (h1 3).trans a3, (h1 4).trans a4, (h1 5).trans a5, fun i hi => by rw [h2]; exact a6 i hi⟩
section AST
variable {x x' : XS} {A : AS} {L : LK} {S : SH}
theorem XR_N (h : XR x A) (hN : XN x x') (h1 : lX x' 29 L) (h2 : lO L) (h3 : wLP x' 117) : XR x' (L, A.2) := by
  obtain ⟨_, _, ⟨c1, c2, c3⟩, c4⟩ := h
  refine ⟨⟨h1, h2⟩, h3, ⟨wLP_on c1 (hN.2.2 74 (by omega)), (hN.1 0 7 (by omega)).trans c2, fun L hL => ⟨?_, (c3 L hL).2⟩⟩, fun d hd => ⟨sX_N (by omega) (c4 d hd).1 hN, (c4 d hd).2⟩⟩
  exact wLX_on (c3 L hL).1 (fun i k h1 h2 => hN.1 i k (by omega)) (fun t h1 h2 => hN.2.1 t (by omega)) (fun t h1 h2 => hN.2.2 t (by omega))
theorem XR_29 (h : XR x A) (hG : XG x x' 29) (h1 : lX x' 29 L) (h2 : lO L) : XR x' (L, A.2) :=
  XR_N h (XN_29 hG) h1 h2 (wLP_on h.2.1 (hG.2.2 118 (by omega)))
theorem XR_117 (h : XR x A) (hG : XG x x' 117) (h3 : wLP x' 117) : XR x' A :=
  XR_N h (XN_117 hG) (wLX_on h.1.1 (fun i k h1 h2 => hG.1 i k (by omega)) (fun t h1 h2 => hG.2.1 t (by omega)) (fun t h1 h2 => hG.2.2 t (by omega))) h.1.2 h3
/-- small things alone may be another: what is no lake, no shelf, no sign of an image -/
theorem XR_sm (h : XR x A) (h1 : ∀ i k, ¬ (i = 0 ∧ k = 8) → x'.1 i k = x.1 i k) (h2 : ∀ t, t ≠ 27 → t ≠ 28 → x'.2.1 t = x.2.1 t) (h3 : x'.2.2 = x.2.2) : XR x' A := by
  obtain ⟨c0, c1, ⟨c2, c3, c4⟩, c5⟩ := h
  have hw : ∀ q w N K O W F, 29 ≤ q → wLX x q w N K O W F → wLX x' q w N K O W F := fun q w N K O W F hq h => wLX_on h (fun i k _ _ => h1 i k (by omega)) (fun t _ _ => h2 t (by omega) (by omega)) (fun t _ _ => by rw [h3])
  exact ⟨⟨hw _ _ _ _ _ _ _ (by omega) c0.1, c0.2⟩, wLP_on c1 (by rw [h3]), ⟨wLP_on c2 (by rw [h3]), (h1 0 7 (by omega)).trans c3, fun L hL => ⟨hw _ _ _ _ _ _ _ (by omega) (c4 L hL).1, (c4 L hL).2⟩⟩, fun d hd => ⟨sX_on (c5 d hd).1 (fun k => h1 _ k (by omega)) (h2 _ (by omega) (by omega)), (c5 d hd).2⟩⟩
theorem XR_B (h : XR x A) {t : Nat} (ht : t = 27 ∨ t = 28) (hB : XB x x' t) : XR x' A :=
  XR_sm h (fun i k _ => by rw [hB.1]) (fun u h1 h2 => hB.2.2 u (by omega)) hB.2.1
theorem XR_seed (h : XR x A) (v : Int32) : XR (xI x 0 8 v) A :=
  XR_sm h (fun i k hi => by simp only [xI]; rw [if_neg hi]) (fun _ _ _ => rfl) rfl
theorem XR_sh (h : XR x A) {j : Nat} (hj : j < 8) (hS : sX x' (11 + 2 * j) S) (ok : sOK S) (hf : XSf x x' (11 + 2 * j)) : XR x' (A.1, A.2.1, upc A.2.2 j S) := by
  obtain ⟨c0, c1, ⟨c2, c3, c4⟩, c5⟩ := h
  have hw : ∀ q w N K O W F, 29 ≤ q → wLX x q w N K O W F → wLX x' q w N K O W F := fun q w N K O W F hq h => wLX_on h (fun i k _ _ => hf.1 i k (by omega)) (fun t _ _ => hf.2.1 t (by omega)) (fun t _ _ => by rw [hf.2.2])
  refine ⟨⟨hw _ _ _ _ _ _ _ (by omega) c0.1, c0.2⟩, wLP_on c1 (by rw [hf.2.2]), ⟨wLP_on c2 (by rw [hf.2.2]), (hf.1 0 7 (by omega)).trans c3, fun L hL => ⟨hw _ _ _ _ _ _ _ (by omega) (c4 L hL).1, (c4 L hL).2⟩⟩, fun d hd => ?_⟩
  show sX x' (11 + 2 * d) (upc A.2.2 j S d) ∧ sOK (upc A.2.2 j S d)
  unfold upc
  by_cases e : d = j
  · subst e; simp only [if_true]; exact ⟨hS, ok⟩
  · simp only [e, if_false]
    exact ⟨sX_on (c5 d hd).1 (fun k => hf.1 _ k (by omega)) (hf.2.1 _ (by omega)), (c5 d hd).2⟩
theorem scB_b {S : SH} {e : Nat} : ∀ k i j, scB S e k i = some j → i ≤ j ∧ j < i + k
  | 0, i, j, h => by simp [scB] at h
  | k + 1, i, j, h => by
    unfold scB at h
    split at h <;> split at h
    all_goals first
      | (have := scB_b k (i + 1) j h; omega)
      | (simp only [Option.some.injEq] at h; omega)
theorem fbB_b (S : SH) : ∀ k p, p ≤ shN S → -1 ≤ fbB S k p ∧ fbB S k p ≤ shN S + 6
  | 0, p, h => by unfold fbB; omega
  | k + 1, p, h => by
    have hl := slen_b (vlS S p)
    unfold fbB
    split
    · omega
    · split
      · rename_i i hi
        have := scB_b _ _ _ hi
        omega
      · split
        · rename_i h2; exact fbB_b S k _ (by omega)
        · omega
def shG (A : AS) (d : Int) : SH := A.2.2 d.toNat
/-- what a shelf lacks of what is asked -/
def lkS (S : SH) (p : Int) : Int := if shH S = 0 then -11 else if (shH S : Int) = p then 0 else -12
theorem lkS_b (S : SH) (p : Int) : lkS S p = -11 ∨ lkS S p = 0 ∨ lkS S p = -12 := by
  unfold lkS
  split
  · exact Or.inl rfl
  split
  · exact Or.inr (Or.inl rfl)
  · exact Or.inr (Or.inr rfl)
def aLake (A : AS) (d : Int) : Int × AS :=
  if 0 ≤ d ∧ d ≤ 7 then
    (if lkS (shG A d) 2 = 0 then
      (if shT (shG A d) = 0 then
        (if 0 ≤ fbB (shG A d) 101 0 then (-1000 - fbB (shG A d) 101 0, A) else ((rdL (shG A d) 110 0 0 A.1).1, ((rdL (shG A d) 110 0 0 A.1).2.getD A.1, A.2)))
      else (-12, A))
    else (lkS (shG A d) 2, A))
  else (-1, A)
theorem x_lake (h : XR x A) {d : Int} (h1 : -2147483648 ≤ d) (h2 : d < 2147483648) {Q : Int32 → XS → Prop} (hq : ∀ x', XR x' (aLake A d).2 → Q (zI (aLake A d).1) x') : wp_X11_lake x (zI d) Q := by
  unfold aLake at hq
  refine s_shelfAt h1 h2 (fun z => ?_) (fun j hj e => ⟨xk_shj j hj, ?_⟩)
  · rw [if_neg z] at hq; exact hq x h
  · subst e
    obtain ⟨hS, ok⟩ := h.2.2.2 j hj
    rw [if_pos (by omega), show shG A (j : Int) = A.2.2 j from rfl] at hq
    refine s_lacks (p := 2) ok hS (by omega) (by omega) ?_
    rw [show (if shH (A.2.2 j) = 0 then (-11 : Int) else if (shH (A.2.2 j) : Int) = 2 then 0 else -12) = lkS (A.2.2 j) 2 from rfl]
    have hl := lkS_b (A.2.2 j) 2
    have hT := ok.2.2.2.1
    have hN := ok.2.2.2.2.1
    rw [show (0 : Int32) = zI 0 from rfl, zI_eq (by omega) (by omega) (by omega) (by omega), hS.2.2.2.1, zI_eq (by omega) (by omega) (by omega) (by omega)]
    refine ⟨fun c => ⟨fun c2 => ?_, fun c2 => ?_⟩, fun c => ?_⟩
    · rw [if_pos c, if_pos (by omega)] at hq
      refine s_firstBadByte ok hS ?_
      have hb := fbB_b (A.2.2 j) 101 0 (by omega)
      rw [zI_le (by omega) (by omega) (by omega) (by omega)]
      refine ⟨fun c3 => ?_, fun c3 => ?_⟩
      · rw [if_pos c3] at hq
        rw [show (-1000 : Int32) = zI (-1000) from rfl, zI_sub]; exact hq x h
      · rw [if_neg c3] at hq
        exact s_readStatements (by omega) ok hS h.1.2 h.1.1 h.2.1 (fun x' hN h117 h29 hO => hq x' (XR_N h hN h29 hO h117))
    · rw [if_pos c, if_neg (by omega)] at hq; exact hq x h
    · rw [if_neg c] at hq; exact hq x h
def aThaw (A : AS) (d : Int) : Int × AS := ((thL A.1 d).1, ((thL A.1 d).2, A.2))
theorem x_thaw (h : XR x A) {d : Int} (h1 : -2147483648 ≤ d) (h2 : d < 2147483648) {Q : Int32 → XS → Prop} (hq : ∀ x', XR x' (aThaw A d).2 → Q (zI (aThaw A d).1) x') : wp_X11_thaw x (zI d) Q :=
  s_th xk_29 h.1.2 h.1.1 h1 h2 (fun x' h3 h4 => hq x' (XR_29 h h4 h3 (lO_th h.1.2 d)))
def aCut (A : AS) (c f : Int) : Int × AS := ((cuL A.1 c f).1, ((cuL A.1 c f).2, A.2))
theorem x_cut (h : XR x A) {c f : Int} (h1 : -2147483648 ≤ c) (h2 : c < 2147483648) (h3 : -2147483648 ≤ f) (h4 : f < 2147483648) {Q : Int32 → XS → Prop} (hq : ∀ x', XR x' (aCut A c f).2 → Q (zI (aCut A c f).1) x') : wp_X11_cut x (zI c) (zI f) Q :=
  s_cu xk_29 h.1.2 h.1.1 h1 h2 h3 h4 (fun x' h5 h6 => hq x' (XR_29 h h6 h5 (lO_cu h.1.2 c f)))
def aDrift (A : AS) : Int × AS := ((drL A.1).1, ((drL A.1).2, A.2))
theorem x_drift (h : XR x A) {Q : Int32 → XS → Prop} (hq : ∀ x', XR x' (aDrift A).2 → Q (zI (aDrift A).1) x') : wp_X11_drift x Q :=
  s_dr xk_29 h.1.2 h.1.1 (fun x' h5 h6 => hq x' (XR_29 h h6 h5 (lO_dr h.1.2)))
def aWinter (A : AS) : Int × AS := ((wiL A.1).1, ((wiL A.1).2, A.2))
theorem x_winter (h : XR x A) {Q : Int32 → XS → Prop} (hq : ∀ x', XR x' (aWinter A).2 → Q (zI (aWinter A).1) x') : wp_X11_winter x Q :=
  s_wi xk_29 h.1.2 h.1.1 (fun x' h5 h6 => hq x' (XR_29 h h6 h5 (lO_wi h.1.2)))
def aFreeze (A : AS) (d c f : Int) : Int × AS :=
  if 0 ≤ d ∧ d ≤ 7 ∧ 0 ≤ c ∧ c < 6 ∧ 1 ≤ f ∧ f ≤ 9 then
    (if lkS (shG A d) 1 = 0 then ((fzL A.1 c (shK (shG A d)) (shO (shG A d)) f).1, ((fzL A.1 c (shK (shG A d)) (shO (shG A d)) f).2, A.2))
    else (lkS (shG A d) 1, A))
  else (-1, A)
theorem x_freeze (h : XR x A) {d c f : Int} (h1 : -2147483648 ≤ d) (h2 : d < 2147483648) (h3 : -2147483648 ≤ c) (h4 : c < 2147483648) (h5 : -2147483648 ≤ f) (h6 : f < 2147483648) {Q : Int32 → XS → Prop} (hq : ∀ x', XR x' (aFreeze A d c f).2 → Q (zI (aFreeze A d c f).1) x') : wp_X11_freeze x (zI d) (zI c) (zI f) Q := by
  unfold aFreeze at hq
  refine s_shelfAt h1 h2 (fun z => ?_) (fun j hj e => ⟨xk_shj j hj, s_cellAt xk_29 h.1.1.1 h3 h4 (fun z => ?_) (fun c0 hc0 ec => ⟨wLP_xk xk_29 h.1.1.1 hc0, ?_⟩)⟩)
  · rw [if_neg (by omega)] at hq; exact hq x h
  · rw [if_neg (by omega)] at hq; exact hq x h
  · subst e
    refine s_within (a := 1) (b := 9) h5 h6 (by omega) (by omega) (by omega) (by omega) (fun z => ⟨fun _ => ?_, fun q => absurd q (by decide)⟩) (fun z => ⟨fun q => absurd rfl q, fun _ => by rw [if_neg (by omega)] at hq; exact hq x h⟩)
    obtain ⟨hS, ok⟩ := h.2.2.2 j hj
    rw [if_pos (by omega), show shG A (j : Int) = A.2.2 j from rfl] at hq
    refine s_lacks (p := 1) ok hS (by omega) (by omega) ?_
    rw [show (if shH (A.2.2 j) = 0 then (-11 : Int) else if (shH (A.2.2 j) : Int) = 1 then 0 else -12) = lkS (A.2.2 j) 1 from rfl]
    have hl := lkS_b (A.2.2 j) 1
    rw [show (0 : Int32) = zI 0 from rfl, zI_eq (by omega) (by omega) (by omega) (by omega), hS.2.1, hS.2.2.1]
    refine ⟨fun c => ?_, fun c => ?_⟩
    · rw [if_neg c] at hq; exact hq x h
    · rw [if_pos c] at hq
      have k8 := ok.2.1
      have o10 := ok.2.2.1
      exact s_fz xk_29 h.1.2 h.1.1 h3 h4 (by omega) (by omega) (by omega) (by omega) h5 h6 (fun x' h5 h6 => hq x' (XR_29 h h6 h5 (lO_fz h.1.2 _ _ _ _)))
end AST
