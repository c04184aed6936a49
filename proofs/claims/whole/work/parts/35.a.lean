/-! ===== the class's answers (2) ===== -/
section ASR
variable {x x' : XS} {A : AS} {L : LK} {S : SH}
def icL (L : LK) : Int := (sg (fun c => sg (L.2.2.2.2.2 c) (L.2.1 c)) 6 : Nat)
noncomputable def aCount (A : AS) (w : Int) : Int :=
  if w = 0 then (A.1.1 : Int) else if w = 1 then (sg A.1.2.1 6 : Nat) else if w = 2 then icL A.1 else if w = 3 then (sg (fun c => sg (cnt (rdb (A.1.2.2.1 c) (A.1.2.2.2.1 c) (A.1.2.2.2.2.2 c) (A.1.2.1 c))) (A.1.2.1 c)) 6 : Nat) else if w = 4 then (mskO (isO A.1.2.1 A.1.2.2.2.1 6) 10 : Nat) else -1
theorem x_count (h : XR x A) {w : Int} (h1 : -2147483648 ≤ w) (h2 : w < 2147483648) {Q : Int32 → Prop} (hq : Q (zI (aCount A w))) : wp_X11_count x (zI w) Q := by
  unfold wp_X11_count
  have el : ∀ k : Int, -2147483648 ≤ k → k < 2147483648 → (zI w = zI k ↔ w = k) := fun k h3 h4 => zI_eq h1 h2 h3 h4
  rw [show (0 : Int32) = zI 0 from rfl, show (1 : Int32) = zI 1 from rfl, show (2 : Int32) = zI 2 from rfl, show (3 : Int32) = zI 3 from rfl, show (4 : Int32) = zI 4 from rfl, el 0 (by omega) (by omega), el 1 (by omega) (by omega), el 2 (by omega) (by omega), el 3 (by omega) (by omega), el 4 (by omega) (by omega)]
  unfold aCount at hq
  refine ⟨fun c => ?_, fun c0 => ⟨fun c => ?_, fun c1 => ⟨fun c => ?_, fun c2 => ⟨fun c => ?_, fun c3 => ⟨fun c => ?_, fun c4 => ?_⟩⟩⟩⟩⟩
  · rw [if_pos c] at hq; rw [h.1.1.2.1]; exact hq
  · rw [if_neg c0, if_pos c] at hq; exact s_allLayers xk_29 h.1.2 h.1.1 hq
  · rw [if_neg c0, if_neg c1, if_pos c] at hq; exact s_allIce xk_29 h.1.2 h.1.1 hq
  · rw [if_neg c0, if_neg c1, if_neg c2, if_pos c] at hq; exact s_allReadable xk_29 h.1.2 h.1.1 hq
  · rw [if_neg c0, if_neg c1, if_neg c2, if_neg c3, if_pos c] at hq
    refine s_allOaths xk_29 h.1.2 h.1.1 (fun m hm => ?_)
    have e : m = mskO (isO A.1.2.1 A.1.2.2.2.1 6) 10 := mskO_is (Msk_iff hm (fun o => ⟨fun z => ⟨?_, z⟩, fun z => z.2⟩))
    · rw [e]; exact hq
    · obtain ⟨c, i, h1, h2, h3⟩ := z
      have := (h.1.2.2 c h1).2 i h2
      omega
  · rw [if_neg c0, if_neg c1, if_neg c2, if_neg c3, if_neg c4] at hq; exact hq
def shU (A : AS) (d : Int) (S : SH) : AS := (A.1, A.2.1, upc A.2.2 d.toNat S)
def aKeep (A : AS) (d w k o : Int) : Int × AS :=
  if 0 ≤ d ∧ d ≤ 7 then
    (if w = 1 then
      (if 0 ≤ k ∧ k < 8 ∧ 0 ≤ o ∧ o < 10 then (0, shU A d (1, k.toNat, o.toNat, shT (shG A d), shN (shG A d), shE (shG A d))) else (-1, A))
    else if w = 0 then (0, shU A d (0, (shG A d).2)) else (-1, A))
  else (-1, A)
theorem x_keep (h : XR x A) {d w k o : Int} (h1 : -2147483648 ≤ d) (h2 : d < 2147483648) (h3 : -2147483648 ≤ w) (h4 : w < 2147483648) (h5 : -2147483648 ≤ k) (h6 : k < 2147483648) (h7 : -2147483648 ≤ o) (h8 : o < 2147483648) {Q : Int32 → XS → Prop} (hq : ∀ x', XR x' (aKeep A d w k o).2 → Q (zI (aKeep A d w k o).1) x') : wp_X11_keep x (zI d) (zI w) (zI k) (zI o) Q := by
  unfold aKeep at hq
  refine s_shelfAt h1 h2 (fun z => by rw [if_neg z] at hq; exact hq x h) (fun j hj e => ⟨xk_shj j hj, ?_⟩)
  subst e
  rw [if_pos (by omega), show shG A (j : Int) = A.2.2 j from rfl] at hq
  obtain ⟨hS, ok⟩ := h.2.2.2 j hj
  refine s_within (a := 0) (b := 1) h3 h4 (by omega) (by omega) (by omega) (by omega) (fun z => ⟨fun q => absurd q (by decide), fun _ => ?_⟩) (fun z => ⟨fun _ => by rw [if_neg (by omega), if_neg (by omega)] at hq; exact hq x h, fun q => absurd rfl q⟩)
  rw [show (0 : Int32) = zI 0 from rfl, show (1 : Int32) = zI 1 from rfl, zI_eq h3 h4 (by omega) (by omega), zI_eq h3 h4 (by omega) (by omega)]
  refine ⟨fun c1 => ?_, fun c1 => ?_⟩
  · rw [if_neg c1] at hq
    refine ⟨fun c0 => absurd (show w = 0 by omega) c0, fun c0 => ?_⟩
    rw [if_pos c0] at hq
    rintro x4 rfl
    obtain ⟨a1, a2, a3, a4, a5, a6⟩ := hS
    refine hq _ (XR_sh h hj (S := (0, (A.2.2 j).2)) ⟨?_, ?_, ?_, ?_, ?_, ?_⟩ ⟨by show 0 ≤ 2; omega, ok.2⟩ ⟨fun i k hi => ?_, fun _ _ => rfl, rfl⟩)
    · simp [xI]; rfl
    · simpa [xI, shK] using a2
    · simpa [xI, shO] using a3
    · simpa [xI, shT] using a4
    · simpa [xI, shN] using a5
    · simpa [xI, shE] using a6
    · have hi' : i ≠ 11 + 2 * j := hi
      simp [xI, hi']
  · rw [if_pos c1] at hq
    subst c1
    refine s_kindAndOath h5 h6 h7 h8 (fun z2 => ⟨fun _ => ⟨fun _ => ?_, fun q => absurd q (by omega)⟩, fun q => absurd q (by decide)⟩) (fun z2 => ⟨fun q => absurd rfl q, fun _ => by rw [if_neg z2] at hq; exact hq x h⟩)
    rw [if_pos z2] at hq
    obtain ⟨k, rfl⟩ : ∃ j : Nat, k = j := ⟨k.toNat, by omega⟩
    obtain ⟨o, rfl⟩ : ∃ j : Nat, o = j := ⟨o.toNat, by omega⟩
    exact s_takeLayer hS (fun x' h9 h10 => hq x' (XR_sh h hj h9 ⟨by show 1 ≤ 2; omega, by show k < 8; omega, by show o < 10; omega, ok.2.2.2⟩ h10))
def aRow (A : AS) (d t n : Int) : Int × AS :=
  if 0 ≤ d ∧ d ≤ 7 ∧ 0 ≤ t ∧ t ≤ 2 ∧ n ≤ 100 then
    (if 0 ≤ n then (0, shU A d (2, shK (shG A d), shO (shG A d), t.toNat, n.toNat, fun _ => 0)) else (-14, A))
  else (-1, A)
theorem x_row (h : XR x A) {d t n : Int} (h1 : -2147483648 ≤ d) (h2 : d < 2147483648) (h3 : -2147483648 ≤ t) (h4 : t < 2147483648) (h5 : -2147483648 ≤ n) (h6 : n < 2147483648) {Q : Int32 → XS → Prop} (hq : ∀ x', XR x' (aRow A d t n).2 → Q (zI (aRow A d t n).1) x') : wp_X11_row x (zI d) (zI t) (zI n) Q := by
  unfold aRow at hq
  refine s_shelfAt h1 h2 (fun z => by rw [if_neg (by omega)] at hq; exact hq x h) (fun j hj e => ⟨xk_shj j hj, ?_⟩)
  subst e
  obtain ⟨hS, ok⟩ := h.2.2.2 j hj
  refine s_within (a := 0) (b := 2) h3 h4 (by omega) (by omega) (by omega) (by omega) (fun z => ⟨fun q => absurd q (by decide), fun _ => ?_⟩) (fun z => ⟨fun _ => by rw [if_neg (by omega)] at hq; exact hq x h, fun q => absurd rfl q⟩)
  rw [show (100 : Int32) = zI 100 from rfl, show (0 : Int32) = zI 0 from rfl, zI_le (by omega) (by omega) (by omega) (by omega), zI_le (by omega) (by omega) (by omega) (by omega)]
  refine ⟨fun c => ⟨fun c2 => ?_, fun c2 => ?_⟩, fun c => ?_⟩
  · rw [if_pos (by omega), if_pos c2] at hq
    obtain ⟨t, rfl⟩ : ∃ j : Nat, t = j := ⟨t.toNat, by omega⟩
    obtain ⟨n, rfl⟩ : ∃ j : Nat, n = j := ⟨n.toNat, by omega⟩
    refine s_takeRow (xk_shj j hj) hS (fun x' h9 h10 => hq x' (XR_sh h hj h9 ⟨by show 2 ≤ 2; omega, ok.2.1, ok.2.2.1, by show t ≤ 2; omega, by show n ≤ 100; omega, fun i hi => ?_⟩ h10))
    show -2147483648 ≤ (0 : Int) ∧ (0 : Int) < 2147483648 ∧ (t = 0 → -128 ≤ (0 : Int) ∧ (0 : Int) ≤ 127) ∧ (t = 1 → -32768 ≤ (0 : Int) ∧ (0 : Int) ≤ 32767)
    omega
  · rw [if_pos (by omega), if_neg c2] at hq; exact hq x h
  · rw [if_neg (by omega)] at hq; exact hq x h
def aPut (A : AS) (d i v : Int) : Int × AS :=
  if 0 ≤ d ∧ d ≤ 7 then
    (if lkS (shG A d) 2 = 0 then
      (if 0 ≤ i ∧ i < shN (shG A d) then (0, shU A d (shH (shG A d), shK (shG A d), shO (shG A d), shT (shG A d), shN (shG A d), upc (shE (shG A d)) i.toNat (nrw (shT (shG A d)) v))) else (-13, A))
    else (lkS (shG A d) 2, A))
  else (-1, A)
theorem nrw_b (t : Nat) {v : Int} (h1 : -2147483648 ≤ v) (h2 : v < 2147483648) : -2147483648 ≤ nrw t v ∧ nrw t v < 2147483648 ∧ (t = 0 → -128 ≤ nrw t v ∧ nrw t v ≤ 127) ∧ (t = 1 → -32768 ≤ nrw t v ∧ nrw t v ≤ 32767) := by
  unfold nrw
  split
  · have := Int.le_bmod (x := v) (m := 256) (by omega)
    have := Int.bmod_lt (x := v) (m := 256) (by omega)
    omega
  split
  · have := Int.le_bmod (x := v) (m := 65536) (by omega)
    have := Int.bmod_lt (x := v) (m := 65536) (by omega)
    omega
  · omega
theorem x_put (h : XR x A) {d i v : Int} (h1 : -2147483648 ≤ d) (h2 : d < 2147483648) (h3 : -2147483648 ≤ i) (h4 : i < 2147483648) (h5 : -2147483648 ≤ v) (h6 : v < 2147483648) {Q : Int32 → XS → Prop} (hq : ∀ x', XR x' (aPut A d i v).2 → Q (zI (aPut A d i v).1) x') : wp_X11_put x (zI d) (zI i) (zI v) Q := by
  unfold aPut at hq
  refine s_shelfAt h1 h2 (fun z => by rw [if_neg (by omega)] at hq; exact hq x h) (fun j hj e => ⟨xk_shj j hj, ?_⟩)
  subst e
  obtain ⟨hS, ok⟩ := h.2.2.2 j hj
  rw [if_pos (by omega), show shG A (j : Int) = A.2.2 j from rfl] at hq
  refine s_lacks (p := 2) ok hS (by omega) (by omega) ?_
  rw [show (if shH (A.2.2 j) = 0 then (-11 : Int) else if (shH (A.2.2 j) : Int) = 2 then 0 else -12) = lkS (A.2.2 j) 2 from rfl]
  have hl := lkS_b (A.2.2 j) 2
  rw [show (0 : Int32) = zI 0 from rfl, zI_eq (by omega) (by omega) (by omega) (by omega)]
  refine ⟨fun c => ?_, fun c => by rw [if_neg c] at hq; exact hq x h⟩
  rw [if_pos c] at hq
  have hN := ok.2.2.2.2.1
  refine s_hasPlace ok hS h3 h4 (fun z => ⟨fun _ => ?_, fun q => absurd q (by decide)⟩) (fun z => ⟨fun q => absurd rfl q, fun _ => by rw [if_neg z] at hq; exact hq x h⟩)
  rw [if_pos z] at hq
  obtain ⟨i, rfl⟩ : ∃ j : Nat, i = j := ⟨i.toNat, by omega⟩
  refine s_lowestBits ok hS v ⟨zI_in (by omega) (by omega) (by omega), ?_⟩
  rintro x5 rfl
  obtain ⟨a1, a2, a3, a4, a5, a6⟩ := hS
  rw [zI_clN (by omega)]
  have hE : ∀ k, upc (shE (A.2.2 j)) i (nrw (shT (A.2.2 j)) v) k = if k = i then nrw (shT (A.2.2 j)) v else shE (A.2.2 j) k := fun _ => rfl
  refine hq _ (XR_sh h hj (S := (shH (A.2.2 j), shK (A.2.2 j), shO (A.2.2 j), shT (A.2.2 j), shN (A.2.2 j), upc (shE (A.2.2 j)) i (nrw (shT (A.2.2 j)) v))) ⟨a1, a2, a3, a4, a5, fun k hk => ?_⟩ ⟨ok.1, ok.2.1, ok.2.2.1, ok.2.2.2.1, hN, fun k hk => ?_⟩ ⟨fun _ _ _ => rfl, fun t ht => ?_, rfl⟩)
  · show (if 11 + 2 * j + 1 = 11 + 2 * j + 1 then upd (x.2.1 (11 + 2 * j + 1)) i (zI (nrw (shT (A.2.2 j)) v)) else x.2.1 (11 + 2 * j + 1)) k = zI (upc (shE (A.2.2 j)) i (nrw (shT (A.2.2 j)) v) k)
    rw [hE, if_pos rfl]
    unfold upd
    by_cases e : k = i
    · simp [e]
    · simp only [e, if_false]; exact a6 k hk
  · show -2147483648 ≤ upc (shE (A.2.2 j)) i (nrw (shT (A.2.2 j)) v) k ∧ upc (shE (A.2.2 j)) i (nrw (shT (A.2.2 j)) v) k < 2147483648 ∧ (shT (A.2.2 j) = 0 → -128 ≤ upc (shE (A.2.2 j)) i (nrw (shT (A.2.2 j)) v) k ∧ upc (shE (A.2.2 j)) i (nrw (shT (A.2.2 j)) v) k ≤ 127) ∧ (shT (A.2.2 j) = 1 → -32768 ≤ upc (shE (A.2.2 j)) i (nrw (shT (A.2.2 j)) v) k ∧ upc (shE (A.2.2 j)) i (nrw (shT (A.2.2 j)) v) k ≤ 32767)
    rw [hE]
    by_cases e : k = i
    · simp only [e, if_true]; exact nrw_b _ h5 h6
    · simp only [e, if_false]; exact ok.2.2.2.2.2 k hk
  · have ht' : t ≠ 11 + 2 * j + 1 := ht
    simp only [xA, va_up]; rw [if_neg ht']
def aToll (A : AS) (d : Int) : Int :=
  if 0 ≤ d ∧ d ≤ 7 then (if lkS (shG A d) 1 = 0 then tol (shK (shG A d)) (shO (shG A d)) else lkS (shG A d) 1) else -1
theorem x_toll (h : XR x A) {d : Int} (h1 : -2147483648 ≤ d) (h2 : d < 2147483648) {Q : Int32 → Prop} (hq : Q (zI (aToll A d))) : wp_X11_toll x (zI d) Q := by
  unfold aToll at hq
  refine s_shelfAt h1 h2 (fun z => by rw [if_neg (by omega)] at hq; exact hq) (fun j hj e => ⟨xk_shj j hj, ?_⟩)
  subst e
  obtain ⟨hS, ok⟩ := h.2.2.2 j hj
  rw [if_pos (by omega), show shG A (j : Int) = A.2.2 j from rfl] at hq
  refine s_lacks (p := 1) ok hS (by omega) (by omega) ?_
  rw [show (if shH (A.2.2 j) = 0 then (-11 : Int) else if (shH (A.2.2 j) : Int) = 1 then 0 else -12) = lkS (A.2.2 j) 1 from rfl]
  have hl := lkS_b (A.2.2 j) 1
  rw [show (0 : Int32) = zI 0 from rfl, zI_eq (by omega) (by omega) (by omega) (by omega), hS.2.1, hS.2.2.1]
  refine ⟨fun c => by rw [if_neg c] at hq; exact hq, fun c => ?_⟩
  rw [if_pos c] at hq
  exact s_kindOf ok.2.1 ⟨ok.2.1, s_tollv ok.2.1 hq⟩
def aImage (A : AS) : Int × AS := (icL A.1, (A.1, some A.1, A.2.2))
theorem x_image (h : XR x A) {Q : Int32 → XS → Prop} (hq : ∀ x', XR x' (aImage A).2 → Q (zI (aImage A).1) x') : wp_X11_image x Q := by
  refine s_takeAll xk_73 xk_29 (by omega) h.2.2.1.1 h.1.2 h.1.1 (fun x1 h1 hG => ?_)
  rintro x2 rfl
  have h0 : lX (xI x1 0 7 1) 29 A.1 := wLX_on h.1.1 (fun i k a b => by rw [← hG.1 i k (by omega)]; simp only [xI]; rw [if_neg (by omega)]) (fun t a b => hG.2.1 t (by omega)) (fun t a b => hG.2.2 t (by omega))
  have h73 : lX (xI x1 0 7 1) 73 A.1 := wLX_on h1 (fun i k a b => by simp only [xI]; rw [if_neg (by omega)]) (fun _ _ _ => rfl) (fun _ _ _ => rfl)
  refine s_allIce xk_29 h.1.2 h0 (hq _ ⟨⟨h0, h.1.2⟩, wLP_on h.2.1 (hG.2.2 118 (by omega)), ⟨h73.1, ?_, fun L hL => ?_⟩, fun d hd => ⟨sX_on (h.2.2.2 d hd).1 (fun k => ?_) (hG.2.1 _ (by omega)), (h.2.2.2 d hd).2⟩⟩)
  · simp [xI, aImage]; rfl
  · have e : A.1 = L := by simpa [aImage] using hL
    subst e; exact ⟨h73, h.1.2⟩
  · rw [← hG.1 _ k (by omega)]; simp only [xI]; rw [if_neg (by omega)]
def aRestore (A : AS) : Int × AS := match A.2.1 with
  | none => (-3, A)
  | some L => (icL L, (L, A.2))
theorem x_restore (h : XR x A) {Q : Int32 → XS → Prop} (hq : ∀ x', XR x' (aRestore A).2 → Q (zI (aRestore A).1) x') : wp_X11_restore x Q := by
  unfold aRestore at hq
  unfold wp_X11_restore
  rw [h.2.2.1.2.1]
  cases hL : A.2.1 with
  | none =>
    rw [hL] at hq
    exact ⟨fun c => absurd rfl c, fun _ => hq x h⟩
  | some L =>
    rw [hL] at hq
    refine ⟨fun _ => ?_, fun c => absurd c (by simp; decide)⟩
    obtain ⟨h73, ok⟩ := h.2.2.1.2.2 L hL
    refine s_takeAll xk_29 xk_73 (by omega) h.1.1.1 ok h73 (fun x1 h1 hG => ?_)
    exact s_allIce xk_29 ok h1 (hq _ (XR_29 h hG h1 ok))
end ASR
