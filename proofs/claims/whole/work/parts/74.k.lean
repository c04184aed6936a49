/-! ===== the law's calls of element and toss; its loop ===== -/
section LKT
variable {C : zX} {D : va_G} {cs : Nat → ClassId} {ad am : Nat → Nat} {ao b L : Nat} {xs : Nat → Int32} {u : lwS} {A : AS} {i kc ks : Nat}
set_option maxHeartbeats 4000000 in
set_option maxRecDepth 100000 in
theorem lc_31 (Wc : lwC C D cs ad am ao b L xs) (hi : i + 6 ≤ L) (hk : kc + 1 ≤ 601024 ∧ ks + 6 ≤ 7293034) (hu : lwR u A) (kk : ∀ (u2 : lwS) (A2 : AS), lwR u2 A2 → lwZ C D cs ad am ao b u2 i (kc + 1) (ks + 6) 1278 []) : lwZ C D cs ad am ao b u i kc ks 1253 [] := by
  have O := Wc.1
  have hR := Wc.2.1
  have hK := Wc.2.2.1
  have hl := Wc.2.2.2.1
  have hI := Wc.2.2.2.2.1
  have hB := Wc.2.2.2.2.2.1
  obtain ⟨p1, e1, b1, c1⟩ := zI_of (xs (i + 1))
  refine z_aload_n O dL_law_1253 1 rfl ?_
  refine z_larg Wc hi (j := 1) (n := 1) (by decide) rfl 0 4 rfl rfl dL_law_1254 dL_law_1255 dL_law_1257 dL_law_1258 dL_law_1259 ?_
  rw [e1]
  refine z_callWR (fun x2 => (x2, u.2)) (gXs D cs C.s) hK (fun _ h => ⟨h.1, h.2.2.2⟩) (lw_jU Wc u) (fun _ h => h.elim) (fun _ h => h) (t_X11_toss hl u.1 (zI p1) (fun r => r = zI (aToss A p1)) (x_toss hu.1 b1 c1 rfl)) (zr_V (As := [.int (zI p1)]) (rest := []) O hR 1 gL_law_X11_toss rfl rfl rfl (by decide +kernel) ⟨(Nat.le_of_ble_eq_true rfl), (Nat.le_of_ble_eq_true rfl)⟩ (lw_room1 hk) (fun H hH => z_recv hK.1.1 hH.1 (by decide) xe_11 rfl) rfl rfl (Nat.le_of_ble_eq_true rfl) dL_law_1260) (fun r x2 hr => ?_)
  obtain ⟨rfl, hr2⟩ := hr
  obtain rfl : r = zI (aToss A p1) := hr2
  refine z_aload_n O dL_law_1263 2 rfl ?_
  refine z_larg Wc hi (j := 1) (n := 1) (by decide) rfl 0 4 rfl rfl dL_law_1264 dL_law_1265 dL_law_1267 dL_law_1268 dL_law_1269 ?_
  rw [e1]
  refine z_callWR (fun m2 => (u.1, m2, u.2.2)) (gKs D cs) hK.1 (fun _ h => h.2.1) (lw_jM Wc (u.1, u.2)) hB.2.1 (fun _ h => h) (t_X12_toss hI.2 u.2.1 (zI p1) (fun r m2 => r = zI (aToss A p1) ∧ MR m2 A) (y_toss hu.2 b1 c1 (fun _ h => ⟨rfl, h⟩))) (zr_V (As := [.int (zI p1)]) (rest := [.int (zI (aToss A p1))]) O hR 1 gL_law_X12_toss rfl rfl rfl (by decide +kernel) ⟨(Nat.le_of_ble_eq_true rfl), (Nat.le_of_ble_eq_true rfl)⟩ (lw_room1 hk) (fun H hH => z_recv hK.1.1 hH.2.1 (by decide) me_0 rfl) rfl rfl (Nat.le_of_ble_eq_true rfl) dL_law_1270) (fun r m2 hr => ?_)
  obtain ⟨rfl, hm2⟩ := hr
  exact z_icmp_eq O 1278 dL_law_1273 (by decide) (fun _ => z_widen (by omega) (by omega) (kk (u.1, m2, u.2.2) A ⟨hu.1, hm2⟩)) (fun c => absurd rfl c)
theorem lg_same (v : Int64) : lg_cmp v v = 0 := by
  unfold lg_cmp
  rw [if_neg (Int64.lt_irrefl), if_pos rfl]
set_option maxHeartbeats 4000000 in
set_option maxRecDepth 100000 in
theorem lc_28 (Wc : lwC C D cs ad am ao b L xs) (hi : i + 6 ≤ L) (hk : kc + 1 ≤ 601024 ∧ ks + 6 ≤ 7293034) (hu : lwR u A) (kk : ∀ (u2 : lwS) (A2 : AS), lwR u2 A2 → lwZ C D cs ad am ao b u2 i (kc + 1) (ks + 6) 1278 []) : lwZ C D cs ad am ao b u i kc ks 1088 [] := by
  have O := Wc.1
  have hR := Wc.2.1
  have hK := Wc.2.2.1
  have hl := Wc.2.2.2.1
  have hI := Wc.2.2.2.2.1
  have hB := Wc.2.2.2.2.2.1
  have hd := Wc.2.2.2.2.2.2.1
  obtain ⟨p1, e1, b1, c1⟩ := zI_of (xs (i + 1))
  obtain ⟨p2, e2, b2, c2⟩ := zI_of (xs (i + 2))
  refine z_aload_n O dL_law_1088 1 rfl ?_
  refine z_larg Wc hi (j := 1) (n := 1) (by decide) rfl 0 4 rfl rfl dL_law_1089 dL_law_1090 dL_law_1092 dL_law_1093 dL_law_1094 ?_
  refine z_larg Wc hi (j := 2) (n := 2) (by decide) rfl 0 4 rfl rfl dL_law_1095 dL_law_1096 dL_law_1098 dL_law_1099 dL_law_1100 ?_
  rw [e1, e2]
  refine z_aload_n O dL_law_1101 3 rfl ?_
  refine z_callWR (x0 := (u.1, u.2.2)) (fun v => (v.1, u.2.1, v.2)) (gXs D cs C.s) hK (fun _ h => ⟨⟨h.1, h.2.2.2⟩, h.2.2.1⟩) (lw_jO Wc u) (fun q h => by rw [h]; exact hB.2.2) (fun _ h => h) (t_L_element hl hd.2.1 hB.2.2 u.1 u.2.2 (zI p1) (zI p2) (fun r f => r = zI (aElK A p1 p2) ∧ (aElK A p1 p2 = 0 → f 0 = lJ (aElV A p1 p2)))
    (x_element hu.1 b1 c1 b2 c2 (fun h => ⟨by rw [h]; rfl, fun _ => by simp [vp_updL]⟩) (fun h => Or.inl ⟨rfl, by rw [h]; rfl, fun z => absurd z (by omega)⟩) (fun h => Or.inr ⟨rfl, by rw [h]; rfl, fun z => absurd z (by omega)⟩)))
    (zr_SW (As := [.ref (ad 0), .int (zI p1), .int (zI p2), .ref ao]) (rest := []) O hR 4 gL_law_L_element rfl rfl rfl (by decide +kernel) ⟨(Nat.le_of_ble_eq_true rfl), (Nat.le_of_ble_eq_true rfl)⟩ (lw_room1 hk) rfl rfl (Nat.le_of_ble_eq_true rfl) dL_law_1102) (fun r v hr => ?_)
  obtain ⟨x2, f2⟩ := v
  obtain ⟨hx2, hr2, hf2⟩ := hr
  have hx2 : x2 = u.1 := hx2
  subst hx2
  have hf2 : aElK A p1 p2 = 0 → f2 0 = lJ (aElV A p1 p2) := hf2
  subst hr2
  refine z_istore (lv' := [(5, .int (zI (aElK A p1 p2))), (0, .ref b), (1, .ref (ad 0)), (2, .ref (am 0)), (3, .ref ao), (4, .int (zI (i : Int)))]) O dL_law_1105 (by decide) rfl ?_
  refine z_aload_n O dL_law_1107 3 rfl ?_
  refine z_larg Wc hi (j := 1) (n := 1) (by decide) rfl 1 5 rfl rfl dL_law_1108 dL_law_1109 dL_law_1111 dL_law_1112 dL_law_1113 ?_
  refine z_larg Wc hi (j := 2) (n := 2) (by decide) rfl 1 5 rfl rfl dL_law_1114 dL_law_1115 dL_law_1117 dL_law_1118 dL_law_1119 ?_
  rw [e1, e2]
  refine z_callWL (fun m2 => (u.1, m2, f2)) (gKs D cs) hK.1 (fun _ h => h.2.1) (lw_jM Wc (u.1, u.2.1, f2)) hB.2.1 (fun _ h => h) (t_X12_element hI.2 u.2.1 (zI p1) (zI p2) (fun r m2 => MR m2 A ∧ m2.1 6 = zI (aElK A p1 p2) ∧ (aElK A p1 p2 = 0 → r = lJ (aElV A p1 p2))) (y_element hu.2 b1 c1 b2 c2 (fun _ _ h1 h2 h3 => ⟨h1, h2, h3⟩))) (zr_V (As := [.int (zI p1), .int (zI p2)]) (rest := []) O hR 2 gL_law_X12_element rfl rfl rfl (by decide +kernel) ⟨(Nat.le_of_ble_eq_true rfl), (Nat.le_of_ble_eq_true rfl)⟩ (lw_room1 hk) (fun H hH => z_recv hK.1.1 hH.2.1 (by decide) me_0 rfl) rfl rfl (Nat.le_of_ble_eq_true rfl) dL_law_1120) (fun r2 m2 hr => ?_)
  obtain ⟨hm2, h6, hv⟩ := hr
  refine z_lstore (lv' := [(6, .long r2), (5, .int (zI (aElK A p1 p2))), (0, .ref b), (1, .ref (ad 0)), (2, .ref (am 0)), (3, .ref ao), (4, .int (zI (i : Int)))]) O dL_law_1123 (by decide) rfl ?_
  refine z_aload_n O dL_law_1125 4 rfl ?_
  refine z_callR (gKs D cs) hK.1 (fun _ h => h.2.1) (t_X12_thrown m2 (fun r => r = zI (aElK A p1 p2)) h6) (zr_V (As := []) (rest := []) O hR 0 gL_law_X12_thrown rfl rfl rfl (by decide +kernel) ⟨(Nat.le_of_ble_eq_true rfl), (Nat.le_of_ble_eq_true rfl)⟩ (lw_room1 hk) (fun H hH => z_recv hK.1.1 hH.2.1 (by decide) me_0 rfl) rfl rfl (Nat.le_of_ble_eq_true rfl) dL_law_1126) (fun r3 hr3 => ?_)
  obtain rfl : r3 = zI (aElK A p1 p2) := hr3
  have fin : Z C (lwA C.s) (lwH D cs ad am ao C.s) 8 (u.1, m2, f2) [(6, .long r2), (5, .int (zI (aElK A p1 p2))), (0, .ref b), (1, .ref (ad 0)), (2, .ref (am 0)), (3, .ref ao), (4, .int (zI (i : Int)))] (kc + 1 + 0) (ks + 6 + 0) 1152 [] := by
    refine z_goto O 1278 dL_law_1152 (by decide) ?_
    exact z_sub [2, 3, 4, 5, 6] rfl (kk (u.1, m2, f2) A ⟨hu.1, hm2⟩)
  refine z_iload O dL_law_1129 1 rfl ?_
  refine z_icmp_eq O 1136 dL_law_1131 (by decide) (fun _ => ?_) (fun c => absurd rfl c)
  refine z_iload O dL_law_1136 1 rfl ?_
  refine z_if_ne O 1152 dL_law_1138 (by decide) (fun _ => fin) (fun c0 => ?_)
  have h0 : aElK A p1 p2 = 0 := by
    have hb : aElK A p1 p2 = 0 ∨ aElK A p1 p2 = 1 ∨ aElK A p1 p2 = 2 := by
      unfold aElK
      split
      · split
        · split
          · exact Or.inl rfl
          · exact Or.inr (Or.inr rfl)
        · exact Or.inr (Or.inr rfl)
      · exact Or.inr (Or.inl rfl)
    rcases hb with h | h | h
    · exact h
    · rw [h] at c0; exact absurd c0 (by decide)
    · rw [h] at c0; exact absurd c0 (by decide)
  refine z_aload_n O dL_law_1141 5 rfl ?_
  refine z_iconst (v := 0) O dL_law_1142 rfl ?_
  refine z_lald (n := 1) (ad := fun _ => ao) (E := fun (v : lwS) => oE cs v.2.2) O hK.1.1 (fun H hH => hH.2.2.1) 4 (i := 0) (N := 1) (cA := cs 4) (f := f2) (by decide) rfl rfl (by unfold vp_in; decide) dL_law_1143 ?_
  refine z_lload O dL_law_1144 0 rfl ?_
  refine z_lcmp O dL_law_1146 ?_
  rw [show f2 (Int32.toNatClampNeg 0) = r2 from (hf2 h0).trans (hv h0).symm, lg_same]
  exact z_if_eq O 1152 dL_law_1147 (by decide) (fun _ => fin) (fun c => absurd rfl c)
end LKT
