/-! ===== element and toss in numbers ===== -/
section EAT
variable {x : XS} {m : MS} {A : AS}
theorem x_element (h : XR x A) {d i : Int} (h1 : -2147483648 ≤ d) (h2 : d < 2147483648) (h3 : -2147483648 ≤ i) (h4 : i < 2147483648) {Q : Int64 → Prop} {P : String → Prop} (q0 : aElK A d i = 0 → Q (lJ (aElV A d i))) (q1 : aElK A d i = 1 → P eIA) (q2 : aElK A d i = 2 → P eIS) : wp_X11_element x (zI d) (zI i) Q P := by
  unfold aElK aElV at q0
  unfold aElK at q1 q2
  refine s_shelfAt h1 h2 (fun z => by rw [if_neg (by omega)] at q1; exact q1 rfl) (fun j hj e => ⟨xk_shj j hj, ?_⟩)
  subst e
  obtain ⟨hS, ok⟩ := h.2.2.2 j hj
  rw [if_pos (by omega), show shG A (j : Int) = A.2.2 j from rfl] at q0 q2
  refine s_lacks (p := 2) ok hS (by omega) (by omega) ?_
  rw [show (if shH (A.2.2 j) = 0 then (-11 : Int) else if (shH (A.2.2 j) : Int) = 2 then 0 else -12) = lkS (A.2.2 j) 2 from rfl]
  have hl := lkS_b (A.2.2 j) 2
  rw [show (0 : Int32) = zI 0 from rfl, zI_eq (by omega) (by omega) (by omega) (by omega)]
  refine ⟨fun c => by rw [if_neg c] at q2; exact q2 rfl, fun c => ?_⟩
  rw [if_pos c] at q0 q2
  have hN := ok.2.2.2.2.1
  refine s_hasPlace ok hS h3 h4 (fun z => ⟨fun q => absurd q (by decide), fun _ => ?_⟩) (fun z => ⟨fun _ => by rw [if_neg z] at q2; exact q2 rfl, fun q => absurd rfl q⟩)
  rw [if_pos z] at q0
  obtain ⟨i, rfl⟩ : ∃ j : Nat, i = j := ⟨i.toNat, by omega⟩
  have hE := ok.2.2.2.2.2 i (by omega)
  refine ⟨zI_in (by omega) (by omega) (by omega), ?_⟩
  rw [zI_clN (by omega), hS.2.2.2.2.2 i (by omega), lJ_z hE.1 hE.2.1]
  exact q0 rfl
theorem s_caught {k o : Nat} (hk : k < 8) (ho : o < 10) {Q : Int32 → Prop} (hq : Q (zI (tosV k o))) : wp_X11_caughtFailure k (zI o) Q := by
  unfold tosV at hq
  unfold wp_X11_caughtFailure
  rw [show (0 : Int32) = zI 0 from rfl, zI_eq (by omega) (by omega) (by omega) (by omega)]
  refine ⟨fun c => by rw [if_pos (by omega)] at hq; exact hq, fun c => ⟨fun c2 => by rw [if_pos (by omega)] at hq; exact hq, fun c4 => ?_, fun c5 => ?_, fun n2 n4 n5 => ?_⟩⟩
  · rw [if_neg (by omega), if_pos c4] at hq
    rw [show (100 : Int32) = zI 100 from rfl, zI_add]; exact hq
  · rw [if_neg (by omega), if_neg (by omega), if_pos c5] at hq
    exact s_tollv (k := 5) (o := o) (Q := fun r => Q (200 + r)) (by omega) (by
      have e : tol 5 o = 6 := by simp [tol]
      show Q (200 + zI (tol 5 o))
      rw [e]; exact hq)
  · rw [if_neg (by omega), if_neg n4, if_neg n5] at hq
    exact hq
theorem x_toss (h : XR x A) {d : Int} (h1 : -2147483648 ≤ d) (h2 : d < 2147483648) {Q : Int32 → Prop} (hq : Q (zI (aToss A d))) : wp_X11_toss x (zI d) Q := by
  unfold aToss at hq
  refine s_shelfAt h1 h2 (fun z => by rw [if_neg (by omega)] at hq; exact hq) (fun j hj e => ⟨xk_shj j hj, ?_⟩)
  subst e
  obtain ⟨hS, ok⟩ := h.2.2.2 j hj
  rw [if_pos (by omega), show shG A (j : Int) = A.2.2 j from rfl] at hq
  refine s_lacks (p := 1) ok hS (by omega) (by omega) ?_
  rw [show (if shH (A.2.2 j) = 0 then (-11 : Int) else if (shH (A.2.2 j) : Int) = 1 then 0 else -12) = lkS (A.2.2 j) 1 from rfl]
  have hl := lkS_b (A.2.2 j) 1
  rw [show (0 : Int32) = zI 0 from rfl, zI_eq (by omega) (by omega) (by omega) (by omega), hS.2.1, hS.2.2.1]
  refine ⟨fun c => by rw [if_neg c] at hq; exact hq, fun c => ?_⟩
  rw [if_pos c] at hq
  exact s_kindOf ok.2.1 ⟨ok.2.1, s_caught ok.2.1 ok.2.2.1 hq⟩
end EAT
