/-! ===== the law's loop ===== -/
theorem and31 (a : Int32) : ∃ t : Nat, t < 32 ∧ a &&& 31 = zI (t : Int) := by
  refine ⟨(a.toBitVec &&& 31#32).toNat, ?_, ?_⟩
  · rw [BitVec.toNat_and]
    exact Nat.lt_of_le_of_lt Nat.and_le_right (by decide)
  · apply Int32.toBitVec_inj.mp
    show a.toBitVec &&& 31#32 = BitVec.ofInt 32 _
    rw [BitVec.ofInt_natCast, BitVec.ofNat_toNat]
    simp
section LLT
variable {C : zX} {D : va_G} {cs : Nat → ClassId} {ad am : Nat → Nat} {ao b L : Nat} {xs : Nat → Int32} {u : lwS} {A : AS} {i kc ks : Nat}
set_option maxHeartbeats 4000000 in
set_option maxRecDepth 100000 in
theorem lw_body (Wc : lwC C D cs ad am ao b L xs) (hi : i + 6 ≤ L) (hk : kc + 1 ≤ 601024 ∧ ks + 6 ≤ 7293034) (hu : lwR u A) (kk : ∀ (u2 : lwS) (A2 : AS), lwR u2 A2 → lwZ C D cs ad am ao b u2 i (kc + 1) (ks + 6) 1278 []) : lwZ C D cs ad am ao b u i kc ks 33 [] := by
  have O := Wc.1
  obtain ⟨-, -, -, -, -, -, -, hX, hb, hL⟩ := id Wc
  refine z_aload_n O dL_law_33 0 rfl ?_
  refine z_iload O dL_law_34 4 rfl ?_
  have hrd : ∀ st : List Value, lwZ C D cs ad am ao b u i kc ks 37 (.int (xs i) :: st) → lwZ C D cs ad am ao b u i kc ks 36 (.int (zI (i : Int)) :: .ref b :: st) := by
    intro st k H locs ls hH hS hl
    refine va_sld O.1 O.2.1 hX hb (by show ¬ C.s.heap.size ≤ b; omega) hS (zI_in (by omega) (by omega) (by omega)) dL_law_36 ?_
    rw [zI_clN (by omega)]
    exact k H locs ls hH hS hl
  refine hrd [] ?_
  refine z_bipush (v := 31) O dL_law_37 rfl ?_
  refine z_iand O dL_law_39 ?_
  obtain ⟨t, ht, e⟩ := and31 (xs i)
  rcases (show t = 0 ∨ t = 1 ∨ t = 2 ∨ t = 3 ∨ t = 4 ∨ t = 5 ∨ t = 6 ∨ t = 7 ∨ t = 8 ∨ t = 9 ∨ t = 10 ∨ t = 11 ∨ t = 12 ∨ t = 13 ∨ t = 14 ∨ t = 15 ∨ t = 16 ∨ t = 17 ∨ t = 18 ∨ t = 19 ∨ t = 20 ∨ t = 21 ∨ t = 22 ∨ t = 23 ∨ t = 24 ∨ t = 25 ∨ t = 26 ∨ t = 27 ∨ t = 28 ∨ t = 29 ∨ t = 30 ∨ t = 31 by omega) with rfl | rfl | rfl | rfl | rfl | rfl | rfl | rfl | rfl | rfl | rfl | rfl | rfl | rfl | rfl | rfl | rfl | rfl | rfl | rfl | rfl | rfl | rfl | rfl | rfl | rfl | rfl | rfl | rfl | rfl | rfl | rfl
  · exact z_tableIn (v := 0) O 184 dL_law_40 e (by decide) (by decide) rfl (by decide) (lc_0 Wc hi hk hu kk)
  · exact z_tableIn (v := 1) O 209 dL_law_40 e (by decide) (by decide) rfl (by decide) (lc_1 Wc hi hk hu kk)
  · exact z_tableIn (v := 2) O 258 dL_law_40 e (by decide) (by decide) rfl (by decide) (lc_2 Wc hi hk hu kk)
  · exact z_tableIn (v := 3) O 283 dL_law_40 e (by decide) (by decide) rfl (by decide) (lc_3 Wc hi hk hu kk)
  · exact z_tableIn (v := 4) O 320 dL_law_40 e (by decide) (by decide) rfl (by decide) (lc_4 Wc hi hk hu kk)
  · exact z_tableIn (v := 5) O 333 dL_law_40 e (by decide) (by decide) rfl (by decide) (lc_5 Wc hi hk hu kk)
  · exact z_tableIn (v := 6) O 346 dL_law_40 e (by decide) (by decide) rfl (by decide) (lc_6 Wc hi hk hu kk)
  · exact z_tableIn (v := 7) O 395 dL_law_40 e (by decide) (by decide) rfl (by decide) (lc_7 Wc hi hk hu kk)
  · exact z_tableIn (v := 8) O 432 dL_law_40 e (by decide) (by decide) rfl (by decide) (lc_8 Wc hi hk hu kk)
  · exact z_tableIn (v := 9) O 457 dL_law_40 e (by decide) (by decide) rfl (by decide) (lc_9 Wc hi hk hu kk)
  · exact z_tableIn (v := 10) O 482 dL_law_40 e (by decide) (by decide) rfl (by decide) (lc_10 Wc hi hk hu kk)
  · exact z_tableIn (v := 11) O 519 dL_law_40 e (by decide) (by decide) rfl (by decide) (lc_11 Wc hi hk hu kk)
  · exact z_tableIn (v := 12) O 556 dL_law_40 e (by decide) (by decide) rfl (by decide) (lc_12 Wc hi hk hu kk)
  · exact z_tableIn (v := 13) O 593 dL_law_40 e (by decide) (by decide) rfl (by decide) (lc_13 Wc hi hk hu kk)
  · exact z_tableIn (v := 14) O 642 dL_law_40 e (by decide) (by decide) rfl (by decide) (lc_14 Wc hi hk hu kk)
  · exact z_tableIn (v := 15) O 679 dL_law_40 e (by decide) (by decide) rfl (by decide) (lc_15 Wc hi hk hu kk)
  · exact z_tableIn (v := 16) O 704 dL_law_40 e (by decide) (by decide) rfl (by decide) (lc_16 Wc hi hk hu kk)
  · exact z_tableIn (v := 17) O 741 dL_law_40 e (by decide) (by decide) rfl (by decide) (lc_17 Wc hi hk hu kk)
  · exact z_tableIn (v := 18) O 754 dL_law_40 e (by decide) (by decide) rfl (by decide) (lc_18 Wc hi hk hu kk)
  · exact z_tableIn (v := 19) O 779 dL_law_40 e (by decide) (by decide) rfl (by decide) (lc_19 Wc hi hk hu kk)
  · exact z_tableIn (v := 20) O 816 dL_law_40 e (by decide) (by decide) rfl (by decide) (lc_20 Wc hi hk hu kk)
  · exact z_tableIn (v := 21) O 853 dL_law_40 e (by decide) (by decide) rfl (by decide) (lc_21 Wc hi hk hu kk)
  · exact z_tableIn (v := 22) O 878 dL_law_40 e (by decide) (by decide) rfl (by decide) (lc_22 Wc hi hk hu kk)
  · exact z_tableIn (v := 23) O 891 dL_law_40 e (by decide) (by decide) rfl (by decide) (lc_23 Wc hi hk hu kk)
  · exact z_tableIn (v := 24) O 904 dL_law_40 e (by decide) (by decide) rfl (by decide) (lc_24 Wc hi hk hu kk)
  · exact z_tableIn (v := 25) O 929 dL_law_40 e (by decide) (by decide) rfl (by decide) (lc_25 Wc hi hk hu kk)
  · exact z_tableIn (v := 26) O 990 dL_law_40 e (by decide) (by decide) rfl (by decide) (lc_26 Wc hi hk hu kk)
  · exact z_tableIn (v := 27) O 1039 dL_law_40 e (by decide) (by decide) rfl (by decide) (lc_27 Wc hi hk hu kk)
  · exact z_tableIn (v := 28) O 1088 dL_law_40 e (by decide) (by decide) rfl (by decide) (lc_28 Wc hi hk hu kk)
  · exact z_tableIn (v := 29) O 1155 dL_law_40 e (by decide) (by decide) rfl (by decide) (lc_29 Wc hi hk hu kk)
  · exact z_tableIn (v := 30) O 1228 dL_law_40 e (by decide) (by decide) rfl (by decide) (lc_30 Wc hi hk hu kk)
  · exact z_tableIn (v := 31) O 1253 dL_law_40 e (by decide) (by decide) rfl (by decide) (lc_31 Wc hi hk hu kk)
theorem lw_loop (Wc : lwC C D cs ad am ao b L xs) (hEnd : ∀ (u : lwS) (i kc ks : Nat), kc ≤ 601024 → ks ≤ 7293034 → lwZ C D cs ad am ao b u i kc ks 1284 []) : ∀ (n i kc ks : Nat) (u : lwS) (A : AS), L < i + 6 * n + 6 → i ≤ L → kc + n ≤ 601024 → ks + 6 * n ≤ 7293034 → lwR u A → lwZ C D cs ad am ao b u i kc ks 23 [] := by
  have O := Wc.1
  obtain ⟨-, -, -, -, -, -, -, hX, hb, hL⟩ := id Wc
  have hdr : ∀ (i kc ks : Nat) (u : lwS), i ≤ L → (L < i + 6 → lwZ C D cs ad am ao b u i kc ks 1284 []) → (i + 6 ≤ L → lwZ C D cs ad am ao b u i kc ks 33 []) → lwZ C D cs ad am ao b u i kc ks 23 [] := by
    intro i kc ks u hi k1 k2
    refine z_iload O dL_law_23 4 rfl ?_
    refine z_aload_n O dL_law_25 0 rfl ?_
    have hln : ∀ st : List Value, lwZ C D cs ad am ao b u i kc ks 27 (.int (zI (L : Int)) :: st) → lwZ C D cs ad am ao b u i kc ks 26 (.ref b :: st) := by
      intro st k H locs ls hH hS hl
      refine va_slen O.1 O.2.1 hX hb (by show ¬ C.s.heap.size ≤ b; omega) hS dL_law_26 ?_
      rw [show Int32.ofNat L = zI (L : Int) from Int32.ofInt_eq_ofNat.symm]
      exact k H locs ls hH hS hl
    refine hln _ ?_
    refine z_bipush (v := zI 6) O dL_law_27 rfl ?_
    refine z_isub O dL_law_29 ?_
    rw [zI_sub]
    refine z_icmp_gt O 1284 dL_law_30 (by decide) (fun c => k1 ?_) (fun c => k2 ?_)
    · rw [zI_lt (by omega) (by omega) (by omega) (by omega)] at c; omega
    · rw [zI_lt (by omega) (by omega) (by omega) (by omega)] at c; omega
  intro n
  induction n with
  | zero =>
    intro i kc ks u A h1 h2 h3 h4 hu
    exact hdr i kc ks u h2 (fun _ => hEnd u i kc ks (by omega) (by omega)) (fun h => absurd h (by omega))
  | succ n IH =>
    intro i kc ks u A h1 h2 h3 h4 hu
    refine hdr i kc ks u h2 (fun _ => hEnd u i kc ks (by omega) (by omega)) (fun h => ?_)
    refine lw_body Wc h ⟨by omega, by omega⟩ hu (fun u2 A2 hu2 => ?_)
    refine z_iinc (w := zI ((i + 6 : Nat) : Int)) (lv' := [(4, .int (zI ((i + 6 : Nat) : Int))), (0, .ref b), (1, .ref (ad 0)), (2, .ref (am 0)), (3, .ref ao)]) O dL_law_1278 4 rfl (zI_add (i : Int) 6) (by decide) rfl ?_
    refine z_goto O 23 dL_law_1281 (by decide) ?_
    exact z_sub [1, 2, 3, 4, 0] rfl (IH (i + 6) (kc + 1) (ks + 6) u2 A2 (by omega) (by omega) (by omega) (by omega) hu2)
end LLT
