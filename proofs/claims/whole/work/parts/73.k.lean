/-! ===== the law's calls ===== -/
section LCT
variable {C : zX} {D : va_G} {cs : Nat → ClassId} {ad am : Nat → Nat} {ao b L : Nat} {xs : Nat → Int32} {u : lwS} {A : AS} {i kc ks : Nat}
set_option maxHeartbeats 4000000 in
set_option maxRecDepth 100000 in
theorem lc_0 (Wc : lwC C D cs ad am ao b L xs) (hi : i + 6 ≤ L) (hk : kc + 1 ≤ 601024 ∧ ks + 6 ≤ 7293034) (hu : lwR u A) (kk : ∀ (u2 : lwS) (A2 : AS), lwR u2 A2 → lwZ C D cs ad am ao b u2 i (kc + 1) (ks + 6) 1278 []) : lwZ C D cs ad am ao b u i kc ks 184 [] := by
  have O := Wc.1
  have hR := Wc.2.1
  have hK := Wc.2.2.1
  have hI := Wc.2.2.2.2.1
  have hB := Wc.2.2.2.2.2.1
  obtain ⟨p1, e1, b1, c1⟩ := zI_of (xs (i + 1))
  refine z_aload_n O dL_law_184 1 rfl ?_
  refine z_larg Wc hi (j := 1) (n := 1) (by decide) rfl 0 4 rfl rfl dL_law_185 dL_law_186 dL_law_188 dL_law_189 dL_law_190 ?_
  rw [e1]
  refine z_callWR (fun x2 => (x2, u.2)) (gKs D cs) hK.1 (fun _ h => h.1) (lw_jX Wc u) hB.1 (fun _ h => h) (t_X11_lake hI.1 u.1 (zI p1) (fun r x2 => r = zI ((aLake A p1).1) ∧ XR x2 ((aLake A p1).2)) (x_lake hu.1 b1 c1 (fun _ h => ⟨rfl, h⟩))) (zr_V (As := [.int (zI p1)]) (rest := []) O hR 1 gL_law_X11_lake rfl rfl rfl (by decide +kernel) ⟨(Nat.le_of_ble_eq_true rfl), (Nat.le_of_ble_eq_true rfl)⟩ (lw_room hk) (fun H hH => z_recv hK.1.1 hH.1 (by decide) xe_11 rfl) rfl rfl (Nat.le_of_ble_eq_true rfl) dL_law_191) (fun r x2 hr => ?_)
  obtain ⟨rfl, hx2⟩ := hr
  refine z_aload_n O dL_law_194 2 rfl ?_
  refine z_larg Wc hi (j := 1) (n := 1) (by decide) rfl 0 4 rfl rfl dL_law_195 dL_law_196 dL_law_198 dL_law_199 dL_law_200 ?_
  rw [e1]
  refine z_callWR (fun m2 => (x2, m2, u.2.2)) (gKs D cs) hK.1 (fun _ h => h.2.1) (lw_jM Wc (x2, u.2)) hB.2.1 (fun _ h => h) (t_X12_lake hI.2 u.2.1 (zI p1) (fun r m2 => r = zI ((aLake A p1).1) ∧ MR m2 ((aLake A p1).2)) (y_lake hu.2 b1 c1 (fun _ h => ⟨rfl, h⟩))) (zr_V (As := [.int (zI p1)]) (rest := [.int (zI ((aLake A p1).1))]) O hR 1 gL_law_X12_lake rfl rfl rfl (by decide +kernel) ⟨(Nat.le_of_ble_eq_true rfl), (Nat.le_of_ble_eq_true rfl)⟩ (lw_room hk) (fun H hH => z_recv hK.1.1 hH.2.1 (by decide) me_0 rfl) rfl rfl (Nat.le_of_ble_eq_true rfl) dL_law_201) (fun r m2 hr => ?_)
  obtain ⟨rfl, hm2⟩ := hr
  exact z_icmp_eq O 1278 dL_law_204 (by decide) (fun _ => z_widen (by omega) (by omega) (kk (x2, m2, u.2.2) (aLake A p1).2 ⟨hx2, hm2⟩)) (fun c => absurd rfl c)
set_option maxHeartbeats 4000000 in
set_option maxRecDepth 100000 in
theorem lc_1 (Wc : lwC C D cs ad am ao b L xs) (hi : i + 6 ≤ L) (hk : kc + 1 ≤ 601024 ∧ ks + 6 ≤ 7293034) (hu : lwR u A) (kk : ∀ (u2 : lwS) (A2 : AS), lwR u2 A2 → lwZ C D cs ad am ao b u2 i (kc + 1) (ks + 6) 1278 []) : lwZ C D cs ad am ao b u i kc ks 209 [] := by
  have O := Wc.1
  have hR := Wc.2.1
  have hK := Wc.2.2.1
  have hI := Wc.2.2.2.2.1
  have hB := Wc.2.2.2.2.2.1
  obtain ⟨p1, e1, b1, c1⟩ := zI_of (xs (i + 1))
  obtain ⟨p2, e2, b2, c2⟩ := zI_of (xs (i + 2))
  obtain ⟨p3, e3, b3, c3⟩ := zI_of (xs (i + 3))
  refine z_aload_n O dL_law_209 1 rfl ?_
  refine z_larg Wc hi (j := 1) (n := 1) (by decide) rfl 0 4 rfl rfl dL_law_210 dL_law_211 dL_law_213 dL_law_214 dL_law_215 ?_
  refine z_larg Wc hi (j := 2) (n := 2) (by decide) rfl 0 4 rfl rfl dL_law_216 dL_law_217 dL_law_219 dL_law_220 dL_law_221 ?_
  refine z_larg Wc hi (j := 3) (n := 3) (by decide) rfl 0 4 rfl rfl dL_law_222 dL_law_223 dL_law_225 dL_law_226 dL_law_227 ?_
  rw [e1, e2, e3]
  refine z_callWR (fun x2 => (x2, u.2)) (gKs D cs) hK.1 (fun _ h => h.1) (lw_jX Wc u) hB.1 (fun _ h => h) (t_X11_freeze hI.1 u.1 (zI p1) (zI p2) (zI p3) (fun r x2 => r = zI ((aFreeze A p1 p2 p3).1) ∧ XR x2 ((aFreeze A p1 p2 p3).2)) (x_freeze hu.1 b1 c1 b2 c2 b3 c3 (fun _ h => ⟨rfl, h⟩))) (zr_V (As := [.int (zI p1), .int (zI p2), .int (zI p3)]) (rest := []) O hR 3 gL_law_X11_freeze rfl rfl rfl (by decide +kernel) ⟨(Nat.le_of_ble_eq_true rfl), (Nat.le_of_ble_eq_true rfl)⟩ (lw_room hk) (fun H hH => z_recv hK.1.1 hH.1 (by decide) xe_11 rfl) rfl rfl (Nat.le_of_ble_eq_true rfl) dL_law_228) (fun r x2 hr => ?_)
  obtain ⟨rfl, hx2⟩ := hr
  refine z_aload_n O dL_law_231 2 rfl ?_
  refine z_larg Wc hi (j := 1) (n := 1) (by decide) rfl 0 4 rfl rfl dL_law_232 dL_law_233 dL_law_235 dL_law_236 dL_law_237 ?_
  refine z_larg Wc hi (j := 2) (n := 2) (by decide) rfl 0 4 rfl rfl dL_law_238 dL_law_239 dL_law_241 dL_law_242 dL_law_243 ?_
  refine z_larg Wc hi (j := 3) (n := 3) (by decide) rfl 0 4 rfl rfl dL_law_244 dL_law_245 dL_law_247 dL_law_248 dL_law_249 ?_
  rw [e1, e2, e3]
  refine z_callWR (fun m2 => (x2, m2, u.2.2)) (gKs D cs) hK.1 (fun _ h => h.2.1) (lw_jM Wc (x2, u.2)) hB.2.1 (fun _ h => h) (t_X12_freeze hI.2 u.2.1 (zI p1) (zI p2) (zI p3) (fun r m2 => r = zI ((aFreeze A p1 p2 p3).1) ∧ MR m2 ((aFreeze A p1 p2 p3).2)) (y_freeze hu.2 b1 c1 b2 c2 b3 c3 (fun _ h => ⟨rfl, h⟩))) (zr_V (As := [.int (zI p1), .int (zI p2), .int (zI p3)]) (rest := [.int (zI ((aFreeze A p1 p2 p3).1))]) O hR 3 gL_law_X12_freeze rfl rfl rfl (by decide +kernel) ⟨(Nat.le_of_ble_eq_true rfl), (Nat.le_of_ble_eq_true rfl)⟩ (lw_room hk) (fun H hH => z_recv hK.1.1 hH.2.1 (by decide) me_0 rfl) rfl rfl (Nat.le_of_ble_eq_true rfl) dL_law_250) (fun r m2 hr => ?_)
  obtain ⟨rfl, hm2⟩ := hr
  exact z_icmp_eq O 1278 dL_law_253 (by decide) (fun _ => z_widen (by omega) (by omega) (kk (x2, m2, u.2.2) (aFreeze A p1 p2 p3).2 ⟨hx2, hm2⟩)) (fun c => absurd rfl c)
set_option maxHeartbeats 4000000 in
set_option maxRecDepth 100000 in
theorem lc_2 (Wc : lwC C D cs ad am ao b L xs) (hi : i + 6 ≤ L) (hk : kc + 1 ≤ 601024 ∧ ks + 6 ≤ 7293034) (hu : lwR u A) (kk : ∀ (u2 : lwS) (A2 : AS), lwR u2 A2 → lwZ C D cs ad am ao b u2 i (kc + 1) (ks + 6) 1278 []) : lwZ C D cs ad am ao b u i kc ks 258 [] := by
  have O := Wc.1
  have hR := Wc.2.1
  have hK := Wc.2.2.1
  have hI := Wc.2.2.2.2.1
  have hB := Wc.2.2.2.2.2.1
  obtain ⟨p1, e1, b1, c1⟩ := zI_of (xs (i + 1))
  refine z_aload_n O dL_law_258 1 rfl ?_
  refine z_larg Wc hi (j := 1) (n := 1) (by decide) rfl 0 4 rfl rfl dL_law_259 dL_law_260 dL_law_262 dL_law_263 dL_law_264 ?_
  rw [e1]
  refine z_callWR (fun x2 => (x2, u.2)) (gKs D cs) hK.1 (fun _ h => h.1) (lw_jX Wc u) hB.1 (fun _ h => h) (t_X11_thaw hI.1 u.1 (zI p1) (fun r x2 => r = zI ((aThaw A p1).1) ∧ XR x2 ((aThaw A p1).2)) (x_thaw hu.1 b1 c1 (fun _ h => ⟨rfl, h⟩))) (zr_V (As := [.int (zI p1)]) (rest := []) O hR 1 gL_law_X11_thaw rfl rfl rfl (by decide +kernel) ⟨(Nat.le_of_ble_eq_true rfl), (Nat.le_of_ble_eq_true rfl)⟩ (lw_room hk) (fun H hH => z_recv hK.1.1 hH.1 (by decide) xe_11 rfl) rfl rfl (Nat.le_of_ble_eq_true rfl) dL_law_265) (fun r x2 hr => ?_)
  obtain ⟨rfl, hx2⟩ := hr
  refine z_aload_n O dL_law_268 2 rfl ?_
  refine z_larg Wc hi (j := 1) (n := 1) (by decide) rfl 0 4 rfl rfl dL_law_269 dL_law_270 dL_law_272 dL_law_273 dL_law_274 ?_
  rw [e1]
  refine z_callWR (fun m2 => (x2, m2, u.2.2)) (gKs D cs) hK.1 (fun _ h => h.2.1) (lw_jM Wc (x2, u.2)) hB.2.1 (fun _ h => h) (t_X12_thaw hI.2 u.2.1 (zI p1) (fun r m2 => r = zI ((aThaw A p1).1) ∧ MR m2 ((aThaw A p1).2)) (y_thaw hu.2 b1 c1 (fun _ h => ⟨rfl, h⟩))) (zr_V (As := [.int (zI p1)]) (rest := [.int (zI ((aThaw A p1).1))]) O hR 1 gL_law_X12_thaw rfl rfl rfl (by decide +kernel) ⟨(Nat.le_of_ble_eq_true rfl), (Nat.le_of_ble_eq_true rfl)⟩ (lw_room hk) (fun H hH => z_recv hK.1.1 hH.2.1 (by decide) me_0 rfl) rfl rfl (Nat.le_of_ble_eq_true rfl) dL_law_275) (fun r m2 hr => ?_)
  obtain ⟨rfl, hm2⟩ := hr
  exact z_icmp_eq O 1278 dL_law_278 (by decide) (fun _ => z_widen (by omega) (by omega) (kk (x2, m2, u.2.2) (aThaw A p1).2 ⟨hx2, hm2⟩)) (fun c => absurd rfl c)
set_option maxHeartbeats 4000000 in
set_option maxRecDepth 100000 in
theorem lc_3 (Wc : lwC C D cs ad am ao b L xs) (hi : i + 6 ≤ L) (hk : kc + 1 ≤ 601024 ∧ ks + 6 ≤ 7293034) (hu : lwR u A) (kk : ∀ (u2 : lwS) (A2 : AS), lwR u2 A2 → lwZ C D cs ad am ao b u2 i (kc + 1) (ks + 6) 1278 []) : lwZ C D cs ad am ao b u i kc ks 283 [] := by
  have O := Wc.1
  have hR := Wc.2.1
  have hK := Wc.2.2.1
  have hI := Wc.2.2.2.2.1
  have hB := Wc.2.2.2.2.2.1
  obtain ⟨p1, e1, b1, c1⟩ := zI_of (xs (i + 1))
  obtain ⟨p2, e2, b2, c2⟩ := zI_of (xs (i + 2))
  refine z_aload_n O dL_law_283 1 rfl ?_
  refine z_larg Wc hi (j := 1) (n := 1) (by decide) rfl 0 4 rfl rfl dL_law_284 dL_law_285 dL_law_287 dL_law_288 dL_law_289 ?_
  refine z_larg Wc hi (j := 2) (n := 2) (by decide) rfl 0 4 rfl rfl dL_law_290 dL_law_291 dL_law_293 dL_law_294 dL_law_295 ?_
  rw [e1, e2]
  refine z_callWR (fun x2 => (x2, u.2)) (gKs D cs) hK.1 (fun _ h => h.1) (lw_jX Wc u) hB.1 (fun _ h => h) (t_X11_cut hI.1 u.1 (zI p1) (zI p2) (fun r x2 => r = zI ((aCut A p1 p2).1) ∧ XR x2 ((aCut A p1 p2).2)) (x_cut hu.1 b1 c1 b2 c2 (fun _ h => ⟨rfl, h⟩))) (zr_V (As := [.int (zI p1), .int (zI p2)]) (rest := []) O hR 2 gL_law_X11_cut rfl rfl rfl (by decide +kernel) ⟨(Nat.le_of_ble_eq_true rfl), (Nat.le_of_ble_eq_true rfl)⟩ (lw_room hk) (fun H hH => z_recv hK.1.1 hH.1 (by decide) xe_11 rfl) rfl rfl (Nat.le_of_ble_eq_true rfl) dL_law_296) (fun r x2 hr => ?_)
  obtain ⟨rfl, hx2⟩ := hr
  refine z_aload_n O dL_law_299 2 rfl ?_
  refine z_larg Wc hi (j := 1) (n := 1) (by decide) rfl 0 4 rfl rfl dL_law_300 dL_law_301 dL_law_303 dL_law_304 dL_law_305 ?_
  refine z_larg Wc hi (j := 2) (n := 2) (by decide) rfl 0 4 rfl rfl dL_law_306 dL_law_307 dL_law_309 dL_law_310 dL_law_311 ?_
  rw [e1, e2]
  refine z_callWR (fun m2 => (x2, m2, u.2.2)) (gKs D cs) hK.1 (fun _ h => h.2.1) (lw_jM Wc (x2, u.2)) hB.2.1 (fun _ h => h) (t_X12_cut hI.2 u.2.1 (zI p1) (zI p2) (fun r m2 => r = zI ((aCut A p1 p2).1) ∧ MR m2 ((aCut A p1 p2).2)) (y_cut hu.2 b1 c1 b2 c2 (fun _ h => ⟨rfl, h⟩))) (zr_V (As := [.int (zI p1), .int (zI p2)]) (rest := [.int (zI ((aCut A p1 p2).1))]) O hR 2 gL_law_X12_cut rfl rfl rfl (by decide +kernel) ⟨(Nat.le_of_ble_eq_true rfl), (Nat.le_of_ble_eq_true rfl)⟩ (lw_room hk) (fun H hH => z_recv hK.1.1 hH.2.1 (by decide) me_0 rfl) rfl rfl (Nat.le_of_ble_eq_true rfl) dL_law_312) (fun r m2 hr => ?_)
  obtain ⟨rfl, hm2⟩ := hr
  exact z_icmp_eq O 1278 dL_law_315 (by decide) (fun _ => z_widen (by omega) (by omega) (kk (x2, m2, u.2.2) (aCut A p1 p2).2 ⟨hx2, hm2⟩)) (fun c => absurd rfl c)
set_option maxHeartbeats 4000000 in
set_option maxRecDepth 100000 in
theorem lc_4 (Wc : lwC C D cs ad am ao b L xs) (hi : i + 6 ≤ L) (hk : kc + 1 ≤ 601024 ∧ ks + 6 ≤ 7293034) (hu : lwR u A) (kk : ∀ (u2 : lwS) (A2 : AS), lwR u2 A2 → lwZ C D cs ad am ao b u2 i (kc + 1) (ks + 6) 1278 []) : lwZ C D cs ad am ao b u i kc ks 320 [] := by
  have O := Wc.1
  have hR := Wc.2.1
  have hK := Wc.2.2.1
  have hI := Wc.2.2.2.2.1
  have hB := Wc.2.2.2.2.2.1
  refine z_aload_n O dL_law_320 1 rfl ?_
  refine z_callWR (fun x2 => (x2, u.2)) (gKs D cs) hK.1 (fun _ h => h.1) (lw_jX Wc u) hB.1 (fun _ h => h) (t_X11_drift hI.1 u.1 (fun r x2 => r = zI ((aDrift A).1) ∧ XR x2 ((aDrift A).2)) (x_drift hu.1 (fun _ h => ⟨rfl, h⟩))) (zr_V (As := []) (rest := []) O hR 0 gL_law_X11_drift rfl rfl rfl (by decide +kernel) ⟨(Nat.le_of_ble_eq_true rfl), (Nat.le_of_ble_eq_true rfl)⟩ (lw_room hk) (fun H hH => z_recv hK.1.1 hH.1 (by decide) xe_11 rfl) rfl rfl (Nat.le_of_ble_eq_true rfl) dL_law_321) (fun r x2 hr => ?_)
  obtain ⟨rfl, hx2⟩ := hr
  refine z_aload_n O dL_law_324 2 rfl ?_
  refine z_callWR (fun m2 => (x2, m2, u.2.2)) (gKs D cs) hK.1 (fun _ h => h.2.1) (lw_jM Wc (x2, u.2)) hB.2.1 (fun _ h => h) (t_X12_drift hI.2 u.2.1 (fun r m2 => r = zI ((aDrift A).1) ∧ MR m2 ((aDrift A).2)) (y_drift hu.2 (fun _ h => ⟨rfl, h⟩))) (zr_V (As := []) (rest := [.int (zI ((aDrift A).1))]) O hR 0 gL_law_X12_drift rfl rfl rfl (by decide +kernel) ⟨(Nat.le_of_ble_eq_true rfl), (Nat.le_of_ble_eq_true rfl)⟩ (lw_room hk) (fun H hH => z_recv hK.1.1 hH.2.1 (by decide) me_0 rfl) rfl rfl (Nat.le_of_ble_eq_true rfl) dL_law_325) (fun r m2 hr => ?_)
  obtain ⟨rfl, hm2⟩ := hr
  exact z_icmp_eq O 1278 dL_law_328 (by decide) (fun _ => z_widen (by omega) (by omega) (kk (x2, m2, u.2.2) (aDrift A).2 ⟨hx2, hm2⟩)) (fun c => absurd rfl c)
set_option maxHeartbeats 4000000 in
set_option maxRecDepth 100000 in
theorem lc_5 (Wc : lwC C D cs ad am ao b L xs) (hi : i + 6 ≤ L) (hk : kc + 1 ≤ 601024 ∧ ks + 6 ≤ 7293034) (hu : lwR u A) (kk : ∀ (u2 : lwS) (A2 : AS), lwR u2 A2 → lwZ C D cs ad am ao b u2 i (kc + 1) (ks + 6) 1278 []) : lwZ C D cs ad am ao b u i kc ks 333 [] := by
  have O := Wc.1
  have hR := Wc.2.1
  have hK := Wc.2.2.1
  have hI := Wc.2.2.2.2.1
  have hB := Wc.2.2.2.2.2.1
  refine z_aload_n O dL_law_333 1 rfl ?_
  refine z_callWR (fun x2 => (x2, u.2)) (gKs D cs) hK.1 (fun _ h => h.1) (lw_jX Wc u) hB.1 (fun _ h => h) (t_X11_winter hI.1 u.1 (fun r x2 => r = zI ((aWinter A).1) ∧ XR x2 ((aWinter A).2)) (x_winter hu.1 (fun _ h => ⟨rfl, h⟩))) (zr_V (As := []) (rest := []) O hR 0 gL_law_X11_winter rfl rfl rfl (by decide +kernel) ⟨(Nat.le_of_ble_eq_true rfl), (Nat.le_of_ble_eq_true rfl)⟩ (lw_room hk) (fun H hH => z_recv hK.1.1 hH.1 (by decide) xe_11 rfl) rfl rfl (Nat.le_of_ble_eq_true rfl) dL_law_334) (fun r x2 hr => ?_)
  obtain ⟨rfl, hx2⟩ := hr
  refine z_aload_n O dL_law_337 2 rfl ?_
  refine z_callWR (fun m2 => (x2, m2, u.2.2)) (gKs D cs) hK.1 (fun _ h => h.2.1) (lw_jM Wc (x2, u.2)) hB.2.1 (fun _ h => h) (t_X12_winter hI.2 u.2.1 (fun r m2 => r = zI ((aWinter A).1) ∧ MR m2 ((aWinter A).2)) (y_winter hu.2 (fun _ h => ⟨rfl, h⟩))) (zr_V (As := []) (rest := [.int (zI ((aWinter A).1))]) O hR 0 gL_law_X12_winter rfl rfl rfl (by decide +kernel) ⟨(Nat.le_of_ble_eq_true rfl), (Nat.le_of_ble_eq_true rfl)⟩ (lw_room hk) (fun H hH => z_recv hK.1.1 hH.2.1 (by decide) me_0 rfl) rfl rfl (Nat.le_of_ble_eq_true rfl) dL_law_338) (fun r m2 hr => ?_)
  obtain ⟨rfl, hm2⟩ := hr
  exact z_icmp_eq O 1278 dL_law_341 (by decide) (fun _ => z_widen (by omega) (by omega) (kk (x2, m2, u.2.2) (aWinter A).2 ⟨hx2, hm2⟩)) (fun c => absurd rfl c)
set_option maxHeartbeats 4000000 in
set_option maxRecDepth 100000 in
theorem lc_6 (Wc : lwC C D cs ad am ao b L xs) (hi : i + 6 ≤ L) (hk : kc + 1 ≤ 601024 ∧ ks + 6 ≤ 7293034) (hu : lwR u A) (kk : ∀ (u2 : lwS) (A2 : AS), lwR u2 A2 → lwZ C D cs ad am ao b u2 i (kc + 1) (ks + 6) 1278 []) : lwZ C D cs ad am ao b u i kc ks 346 [] := by
  have O := Wc.1
  have hR := Wc.2.1
  have hK := Wc.2.2.1
  have hI := Wc.2.2.2.2.1
  have hB := Wc.2.2.2.2.2.1
  obtain ⟨p1, e1, b1, c1⟩ := zI_of (xs (i + 1))
  obtain ⟨p2, e2, b2, c2⟩ := zI_of (xs (i + 2))
  obtain ⟨p3, e3, b3, c3⟩ := zI_of (xs (i + 3))
  refine z_aload_n O dL_law_346 1 rfl ?_
  refine z_larg Wc hi (j := 1) (n := 1) (by decide) rfl 0 4 rfl rfl dL_law_347 dL_law_348 dL_law_350 dL_law_351 dL_law_352 ?_
  refine z_larg Wc hi (j := 2) (n := 2) (by decide) rfl 0 4 rfl rfl dL_law_353 dL_law_354 dL_law_356 dL_law_357 dL_law_358 ?_
  refine z_larg Wc hi (j := 3) (n := 3) (by decide) rfl 0 4 rfl rfl dL_law_359 dL_law_360 dL_law_362 dL_law_363 dL_law_364 ?_
  rw [e1, e2, e3]
  refine z_callR (gKs D cs) hK.1 (fun _ h => h.1) (t_X11_layer u.1 (zI p1) (zI p2) (zI p3) (fun r => r = zI ((aLayer A p1 p2 p3))) (x_layer hu.1 b1 c1 b2 c2 b3 c3 rfl)) (zr_V (As := [.int (zI p1), .int (zI p2), .int (zI p3)]) (rest := []) O hR 3 gL_law_X11_layer rfl rfl rfl (by decide +kernel) ⟨(Nat.le_of_ble_eq_true rfl), (Nat.le_of_ble_eq_true rfl)⟩ (lw_room hk) (fun H hH => z_recv hK.1.1 hH.1 (by decide) xe_11 rfl) rfl rfl (Nat.le_of_ble_eq_true rfl) dL_law_365) (fun r hr => ?_)
  obtain rfl : r = zI ((aLayer A p1 p2 p3)) := hr
  have hx2 := hu.1
  refine z_aload_n O dL_law_368 2 rfl ?_
  refine z_larg Wc hi (j := 1) (n := 1) (by decide) rfl 0 4 rfl rfl dL_law_369 dL_law_370 dL_law_372 dL_law_373 dL_law_374 ?_
  refine z_larg Wc hi (j := 2) (n := 2) (by decide) rfl 0 4 rfl rfl dL_law_375 dL_law_376 dL_law_378 dL_law_379 dL_law_380 ?_
  refine z_larg Wc hi (j := 3) (n := 3) (by decide) rfl 0 4 rfl rfl dL_law_381 dL_law_382 dL_law_384 dL_law_385 dL_law_386 ?_
  rw [e1, e2, e3]
  refine z_callWR (fun m2 => (u.1, m2, u.2.2)) (gKs D cs) hK.1 (fun _ h => h.2.1) (lw_jM Wc u) hB.2.1 (fun _ h => h) (t_X12_layer hI.2 u.2.1 (zI p1) (zI p2) (zI p3) (fun r m2 => r = zI ((aLayer A p1 p2 p3)) ∧ MR m2 (A)) (y_layer hu.2 b1 c1 b2 c2 b3 c3 (fun _ h => ⟨rfl, h⟩))) (zr_V (As := [.int (zI p1), .int (zI p2), .int (zI p3)]) (rest := [.int (zI ((aLayer A p1 p2 p3)))]) O hR 3 gL_law_X12_layer rfl rfl rfl (by decide +kernel) ⟨(Nat.le_of_ble_eq_true rfl), (Nat.le_of_ble_eq_true rfl)⟩ (lw_room hk) (fun H hH => z_recv hK.1.1 hH.2.1 (by decide) me_0 rfl) rfl rfl (Nat.le_of_ble_eq_true rfl) dL_law_387) (fun r m2 hr => ?_)
  obtain ⟨rfl, hm2⟩ := hr
  exact z_icmp_eq O 1278 dL_law_390 (by decide) (fun _ => z_widen (by omega) (by omega) (kk (u.1, m2, u.2.2) A ⟨hx2, hm2⟩)) (fun c => absurd rfl c)
set_option maxHeartbeats 4000000 in
set_option maxRecDepth 100000 in
theorem lc_7 (Wc : lwC C D cs ad am ao b L xs) (hi : i + 6 ≤ L) (hk : kc + 1 ≤ 601024 ∧ ks + 6 ≤ 7293034) (hu : lwR u A) (kk : ∀ (u2 : lwS) (A2 : AS), lwR u2 A2 → lwZ C D cs ad am ao b u2 i (kc + 1) (ks + 6) 1278 []) : lwZ C D cs ad am ao b u i kc ks 395 [] := by
  have O := Wc.1
  have hR := Wc.2.1
  have hK := Wc.2.2.1
  have hI := Wc.2.2.2.2.1
  have hB := Wc.2.2.2.2.2.1
  obtain ⟨p1, e1, b1, c1⟩ := zI_of (xs (i + 1))
  obtain ⟨p2, e2, b2, c2⟩ := zI_of (xs (i + 2))
  refine z_aload_n O dL_law_395 1 rfl ?_
  refine z_larg Wc hi (j := 1) (n := 1) (by decide) rfl 0 4 rfl rfl dL_law_396 dL_law_397 dL_law_399 dL_law_400 dL_law_401 ?_
  refine z_larg Wc hi (j := 2) (n := 2) (by decide) rfl 0 4 rfl rfl dL_law_402 dL_law_403 dL_law_405 dL_law_406 dL_law_407 ?_
  rw [e1, e2]
  refine z_callR (gKs D cs) hK.1 (fun _ h => h.1) (t_X11_cell u.1 (zI p1) (zI p2) (fun r => r = zI ((aCell A p1 p2))) (x_cell hu.1 b1 c1 b2 c2 rfl)) (zr_V (As := [.int (zI p1), .int (zI p2)]) (rest := []) O hR 2 gL_law_X11_cell rfl rfl rfl (by decide +kernel) ⟨(Nat.le_of_ble_eq_true rfl), (Nat.le_of_ble_eq_true rfl)⟩ (lw_room hk) (fun H hH => z_recv hK.1.1 hH.1 (by decide) xe_11 rfl) rfl rfl (Nat.le_of_ble_eq_true rfl) dL_law_408) (fun r hr => ?_)
  obtain rfl : r = zI ((aCell A p1 p2)) := hr
  have hx2 := hu.1
  refine z_aload_n O dL_law_411 2 rfl ?_
  refine z_larg Wc hi (j := 1) (n := 1) (by decide) rfl 0 4 rfl rfl dL_law_412 dL_law_413 dL_law_415 dL_law_416 dL_law_417 ?_
  refine z_larg Wc hi (j := 2) (n := 2) (by decide) rfl 0 4 rfl rfl dL_law_418 dL_law_419 dL_law_421 dL_law_422 dL_law_423 ?_
  rw [e1, e2]
  refine z_callWR (fun m2 => (u.1, m2, u.2.2)) (gKs D cs) hK.1 (fun _ h => h.2.1) (lw_jM Wc u) hB.2.1 (fun _ h => h) (t_X12_cell hI.2 u.2.1 (zI p1) (zI p2) (fun r m2 => r = zI ((aCell A p1 p2)) ∧ MR m2 (A)) (y_cell hu.2 b1 c1 b2 c2 (fun _ h => ⟨rfl, h⟩))) (zr_V (As := [.int (zI p1), .int (zI p2)]) (rest := [.int (zI ((aCell A p1 p2)))]) O hR 2 gL_law_X12_cell rfl rfl rfl (by decide +kernel) ⟨(Nat.le_of_ble_eq_true rfl), (Nat.le_of_ble_eq_true rfl)⟩ (lw_room hk) (fun H hH => z_recv hK.1.1 hH.2.1 (by decide) me_0 rfl) rfl rfl (Nat.le_of_ble_eq_true rfl) dL_law_424) (fun r m2 hr => ?_)
  obtain ⟨rfl, hm2⟩ := hr
  exact z_icmp_eq O 1278 dL_law_427 (by decide) (fun _ => z_widen (by omega) (by omega) (kk (u.1, m2, u.2.2) A ⟨hx2, hm2⟩)) (fun c => absurd rfl c)
set_option maxHeartbeats 4000000 in
set_option maxRecDepth 100000 in
theorem lc_8 (Wc : lwC C D cs ad am ao b L xs) (hi : i + 6 ≤ L) (hk : kc + 1 ≤ 601024 ∧ ks + 6 ≤ 7293034) (hu : lwR u A) (kk : ∀ (u2 : lwS) (A2 : AS), lwR u2 A2 → lwZ C D cs ad am ao b u2 i (kc + 1) (ks + 6) 1278 []) : lwZ C D cs ad am ao b u i kc ks 432 [] := by
  have O := Wc.1
  have hR := Wc.2.1
  have hK := Wc.2.2.1
  have hI := Wc.2.2.2.2.1
  have hB := Wc.2.2.2.2.2.1
  obtain ⟨p1, e1, b1, c1⟩ := zI_of (xs (i + 1))
  refine z_aload_n O dL_law_432 1 rfl ?_
  refine z_larg Wc hi (j := 1) (n := 1) (by decide) rfl 0 4 rfl rfl dL_law_433 dL_law_434 dL_law_436 dL_law_437 dL_law_438 ?_
  rw [e1]
  refine z_callR (gKs D cs) hK.1 (fun _ h => h.1) (t_X11_holds u.1 (zI p1) (fun r => r = zI ((aHolds A p1))) (x_holds hu.1 b1 c1 rfl)) (zr_V (As := [.int (zI p1)]) (rest := []) O hR 1 gL_law_X11_holds rfl rfl rfl (by decide +kernel) ⟨(Nat.le_of_ble_eq_true rfl), (Nat.le_of_ble_eq_true rfl)⟩ (lw_room hk) (fun H hH => z_recv hK.1.1 hH.1 (by decide) xe_11 rfl) rfl rfl (Nat.le_of_ble_eq_true rfl) dL_law_439) (fun r hr => ?_)
  obtain rfl : r = zI ((aHolds A p1)) := hr
  have hx2 := hu.1
  refine z_aload_n O dL_law_442 2 rfl ?_
  refine z_larg Wc hi (j := 1) (n := 1) (by decide) rfl 0 4 rfl rfl dL_law_443 dL_law_444 dL_law_446 dL_law_447 dL_law_448 ?_
  rw [e1]
  refine z_callWR (fun m2 => (u.1, m2, u.2.2)) (gKs D cs) hK.1 (fun _ h => h.2.1) (lw_jM Wc u) hB.2.1 (fun _ h => h) (t_X12_holds hI.2 u.2.1 (zI p1) (fun r m2 => r = zI ((aHolds A p1)) ∧ MR m2 (A)) (y_holds hu.2 b1 c1 (fun _ h => ⟨rfl, h⟩))) (zr_V (As := [.int (zI p1)]) (rest := [.int (zI ((aHolds A p1)))]) O hR 1 gL_law_X12_holds rfl rfl rfl (by decide +kernel) ⟨(Nat.le_of_ble_eq_true rfl), (Nat.le_of_ble_eq_true rfl)⟩ (lw_room hk) (fun H hH => z_recv hK.1.1 hH.2.1 (by decide) me_0 rfl) rfl rfl (Nat.le_of_ble_eq_true rfl) dL_law_449) (fun r m2 hr => ?_)
  obtain ⟨rfl, hm2⟩ := hr
  exact z_icmp_eq O 1278 dL_law_452 (by decide) (fun _ => z_widen (by omega) (by omega) (kk (u.1, m2, u.2.2) A ⟨hx2, hm2⟩)) (fun c => absurd rfl c)
set_option maxHeartbeats 4000000 in
set_option maxRecDepth 100000 in
theorem lc_9 (Wc : lwC C D cs ad am ao b L xs) (hi : i + 6 ≤ L) (hk : kc + 1 ≤ 601024 ∧ ks + 6 ≤ 7293034) (hu : lwR u A) (kk : ∀ (u2 : lwS) (A2 : AS), lwR u2 A2 → lwZ C D cs ad am ao b u2 i (kc + 1) (ks + 6) 1278 []) : lwZ C D cs ad am ao b u i kc ks 457 [] := by
  have O := Wc.1
  have hR := Wc.2.1
  have hK := Wc.2.2.1
  have hI := Wc.2.2.2.2.1
  have hB := Wc.2.2.2.2.2.1
  obtain ⟨p1, e1, b1, c1⟩ := zI_of (xs (i + 1))
  refine z_aload_n O dL_law_457 1 rfl ?_
  refine z_larg Wc hi (j := 1) (n := 1) (by decide) rfl 0 4 rfl rfl dL_law_458 dL_law_459 dL_law_461 dL_law_462 dL_law_463 ?_
  rw [e1]
  refine z_callR (gKs D cs) hK.1 (fun _ h => h.1) (t_X11_latest u.1 (zI p1) (fun r => r = zI ((aLatest A p1))) (x_latest hu.1 b1 c1 rfl)) (zr_V (As := [.int (zI p1)]) (rest := []) O hR 1 gL_law_X11_latest rfl rfl rfl (by decide +kernel) ⟨(Nat.le_of_ble_eq_true rfl), (Nat.le_of_ble_eq_true rfl)⟩ (lw_room hk) (fun H hH => z_recv hK.1.1 hH.1 (by decide) xe_11 rfl) rfl rfl (Nat.le_of_ble_eq_true rfl) dL_law_464) (fun r hr => ?_)
  obtain rfl : r = zI ((aLatest A p1)) := hr
  have hx2 := hu.1
  refine z_aload_n O dL_law_467 2 rfl ?_
  refine z_larg Wc hi (j := 1) (n := 1) (by decide) rfl 0 4 rfl rfl dL_law_468 dL_law_469 dL_law_471 dL_law_472 dL_law_473 ?_
  rw [e1]
  refine z_callWR (fun m2 => (u.1, m2, u.2.2)) (gKs D cs) hK.1 (fun _ h => h.2.1) (lw_jM Wc u) hB.2.1 (fun _ h => h) (t_X12_latest hI.2 u.2.1 (zI p1) (fun r m2 => r = zI ((aLatest A p1)) ∧ MR m2 (A)) (y_latest hu.2 b1 c1 (fun _ h => ⟨rfl, h⟩))) (zr_V (As := [.int (zI p1)]) (rest := [.int (zI ((aLatest A p1)))]) O hR 1 gL_law_X12_latest rfl rfl rfl (by decide +kernel) ⟨(Nat.le_of_ble_eq_true rfl), (Nat.le_of_ble_eq_true rfl)⟩ (lw_room hk) (fun H hH => z_recv hK.1.1 hH.2.1 (by decide) me_0 rfl) rfl rfl (Nat.le_of_ble_eq_true rfl) dL_law_474) (fun r m2 hr => ?_)
  obtain ⟨rfl, hm2⟩ := hr
  exact z_icmp_eq O 1278 dL_law_477 (by decide) (fun _ => z_widen (by omega) (by omega) (kk (u.1, m2, u.2.2) A ⟨hx2, hm2⟩)) (fun c => absurd rfl c)
set_option maxHeartbeats 4000000 in
set_option maxRecDepth 100000 in
theorem lc_10 (Wc : lwC C D cs ad am ao b L xs) (hi : i + 6 ≤ L) (hk : kc + 1 ≤ 601024 ∧ ks + 6 ≤ 7293034) (hu : lwR u A) (kk : ∀ (u2 : lwS) (A2 : AS), lwR u2 A2 → lwZ C D cs ad am ao b u2 i (kc + 1) (ks + 6) 1278 []) : lwZ C D cs ad am ao b u i kc ks 482 [] := by
  have O := Wc.1
  have hR := Wc.2.1
  have hK := Wc.2.2.1
  have hI := Wc.2.2.2.2.1
  have hB := Wc.2.2.2.2.2.1
  obtain ⟨p1, e1, b1, c1⟩ := zI_of (xs (i + 1))
  obtain ⟨p2, e2, b2, c2⟩ := zI_of (xs (i + 2))
  refine z_aload_n O dL_law_482 1 rfl ?_
  refine z_larg Wc hi (j := 1) (n := 1) (by decide) rfl 0 4 rfl rfl dL_law_483 dL_law_484 dL_law_486 dL_law_487 dL_law_488 ?_
  refine z_larg Wc hi (j := 2) (n := 2) (by decide) rfl 0 4 rfl rfl dL_law_489 dL_law_490 dL_law_492 dL_law_493 dL_law_494 ?_
  rw [e1, e2]
  refine z_callWR (fun x2 => (x2, u.2)) (gKs D cs) hK.1 (fun _ h => h.1) (lw_jX Wc u) hB.1 (fun _ h => h) (t_X11_seen hI.1 u.1 (zI p1) (zI p2) (fun r x2 => r = zI ((aSeen A p1 p2)) ∧ XR x2 A) (x_seen hu.1 b1 c1 b2 c2 (fun _ h => ⟨rfl, h⟩))) (zr_V (As := [.int (zI p1), .int (zI p2)]) (rest := []) O hR 2 gL_law_X11_seen rfl rfl rfl (by decide +kernel) ⟨(Nat.le_of_ble_eq_true rfl), (Nat.le_of_ble_eq_true rfl)⟩ (lw_room hk) (fun H hH => z_recv hK.1.1 hH.1 (by decide) xe_11 rfl) rfl rfl (Nat.le_of_ble_eq_true rfl) dL_law_495) (fun r x2 hr => ?_)
  obtain ⟨rfl, hx2⟩ := hr
  refine z_aload_n O dL_law_498 2 rfl ?_
  refine z_larg Wc hi (j := 1) (n := 1) (by decide) rfl 0 4 rfl rfl dL_law_499 dL_law_500 dL_law_502 dL_law_503 dL_law_504 ?_
  refine z_larg Wc hi (j := 2) (n := 2) (by decide) rfl 0 4 rfl rfl dL_law_505 dL_law_506 dL_law_508 dL_law_509 dL_law_510 ?_
  rw [e1, e2]
  refine z_callWR (fun m2 => (x2, m2, u.2.2)) (gKs D cs) hK.1 (fun _ h => h.2.1) (lw_jM Wc (x2, u.2)) hB.2.1 (fun _ h => h) (t_X12_seen hI.2 u.2.1 (zI p1) (zI p2) (fun r m2 => r = zI ((aSeen A p1 p2)) ∧ MR m2 (A)) (y_seen hu.2 b1 c1 b2 c2 (fun _ h => ⟨rfl, h⟩))) (zr_V (As := [.int (zI p1), .int (zI p2)]) (rest := [.int (zI ((aSeen A p1 p2)))]) O hR 2 gL_law_X12_seen rfl rfl rfl (by decide +kernel) ⟨(Nat.le_of_ble_eq_true rfl), (Nat.le_of_ble_eq_true rfl)⟩ (lw_room hk) (fun H hH => z_recv hK.1.1 hH.2.1 (by decide) me_0 rfl) rfl rfl (Nat.le_of_ble_eq_true rfl) dL_law_511) (fun r m2 hr => ?_)
  obtain ⟨rfl, hm2⟩ := hr
  exact z_icmp_eq O 1278 dL_law_514 (by decide) (fun _ => z_widen (by omega) (by omega) (kk (x2, m2, u.2.2) A ⟨hx2, hm2⟩)) (fun c => absurd rfl c)
set_option maxHeartbeats 4000000 in
set_option maxRecDepth 100000 in
theorem lc_11 (Wc : lwC C D cs ad am ao b L xs) (hi : i + 6 ≤ L) (hk : kc + 1 ≤ 601024 ∧ ks + 6 ≤ 7293034) (hu : lwR u A) (kk : ∀ (u2 : lwS) (A2 : AS), lwR u2 A2 → lwZ C D cs ad am ao b u2 i (kc + 1) (ks + 6) 1278 []) : lwZ C D cs ad am ao b u i kc ks 519 [] := by
  have O := Wc.1
  have hR := Wc.2.1
  have hK := Wc.2.2.1
  have hI := Wc.2.2.2.2.1
  have hB := Wc.2.2.2.2.2.1
  obtain ⟨p1, e1, b1, c1⟩ := zI_of (xs (i + 1))
  obtain ⟨p2, e2, b2, c2⟩ := zI_of (xs (i + 2))
  refine z_aload_n O dL_law_519 1 rfl ?_
  refine z_larg Wc hi (j := 1) (n := 1) (by decide) rfl 0 4 rfl rfl dL_law_520 dL_law_521 dL_law_523 dL_law_524 dL_law_525 ?_
  refine z_larg Wc hi (j := 2) (n := 2) (by decide) rfl 0 4 rfl rfl dL_law_526 dL_law_527 dL_law_529 dL_law_530 dL_law_531 ?_
  rw [e1, e2]
  refine z_callWR (fun x2 => (x2, u.2)) (gKs D cs) hK.1 (fun _ h => h.1) (lw_jX Wc u) hB.1 (fun _ h => h) (t_X11_holes hI.1 u.1 (zI p1) (zI p2) (fun r x2 => r = zI ((aHoles A p1 p2)) ∧ XR x2 A) (x_holes hu.1 b1 c1 b2 c2 (fun _ h => ⟨rfl, h⟩))) (zr_V (As := [.int (zI p1), .int (zI p2)]) (rest := []) O hR 2 gL_law_X11_holes rfl rfl rfl (by decide +kernel) ⟨(Nat.le_of_ble_eq_true rfl), (Nat.le_of_ble_eq_true rfl)⟩ (lw_room hk) (fun H hH => z_recv hK.1.1 hH.1 (by decide) xe_11 rfl) rfl rfl (Nat.le_of_ble_eq_true rfl) dL_law_532) (fun r x2 hr => ?_)
  obtain ⟨rfl, hx2⟩ := hr
  refine z_aload_n O dL_law_535 2 rfl ?_
  refine z_larg Wc hi (j := 1) (n := 1) (by decide) rfl 0 4 rfl rfl dL_law_536 dL_law_537 dL_law_539 dL_law_540 dL_law_541 ?_
  refine z_larg Wc hi (j := 2) (n := 2) (by decide) rfl 0 4 rfl rfl dL_law_542 dL_law_543 dL_law_545 dL_law_546 dL_law_547 ?_
  rw [e1, e2]
  refine z_callWR (fun m2 => (x2, m2, u.2.2)) (gKs D cs) hK.1 (fun _ h => h.2.1) (lw_jM Wc (x2, u.2)) hB.2.1 (fun _ h => h) (t_X12_holes hI.2 u.2.1 (zI p1) (zI p2) (fun r m2 => r = zI ((aHoles A p1 p2)) ∧ MR m2 (A)) (y_holes hu.2 b1 c1 b2 c2 (fun _ h => ⟨rfl, h⟩))) (zr_V (As := [.int (zI p1), .int (zI p2)]) (rest := [.int (zI ((aHoles A p1 p2)))]) O hR 2 gL_law_X12_holes rfl rfl rfl (by decide +kernel) ⟨(Nat.le_of_ble_eq_true rfl), (Nat.le_of_ble_eq_true rfl)⟩ (lw_room hk) (fun H hH => z_recv hK.1.1 hH.2.1 (by decide) me_0 rfl) rfl rfl (Nat.le_of_ble_eq_true rfl) dL_law_548) (fun r m2 hr => ?_)
  obtain ⟨rfl, hm2⟩ := hr
  exact z_icmp_eq O 1278 dL_law_551 (by decide) (fun _ => z_widen (by omega) (by omega) (kk (x2, m2, u.2.2) A ⟨hx2, hm2⟩)) (fun c => absurd rfl c)
set_option maxHeartbeats 4000000 in
set_option maxRecDepth 100000 in
theorem lc_12 (Wc : lwC C D cs ad am ao b L xs) (hi : i + 6 ≤ L) (hk : kc + 1 ≤ 601024 ∧ ks + 6 ≤ 7293034) (hu : lwR u A) (kk : ∀ (u2 : lwS) (A2 : AS), lwR u2 A2 → lwZ C D cs ad am ao b u2 i (kc + 1) (ks + 6) 1278 []) : lwZ C D cs ad am ao b u i kc ks 556 [] := by
  have O := Wc.1
  have hR := Wc.2.1
  have hK := Wc.2.2.1
  have hI := Wc.2.2.2.2.1
  have hB := Wc.2.2.2.2.2.1
  obtain ⟨p1, e1, b1, c1⟩ := zI_of (xs (i + 1))
  obtain ⟨p2, e2, b2, c2⟩ := zI_of (xs (i + 2))
  refine z_aload_n O dL_law_556 1 rfl ?_
  refine z_larg Wc hi (j := 1) (n := 1) (by decide) rfl 0 4 rfl rfl dL_law_557 dL_law_558 dL_law_560 dL_law_561 dL_law_562 ?_
  refine z_larg Wc hi (j := 2) (n := 2) (by decide) rfl 0 4 rfl rfl dL_law_563 dL_law_564 dL_law_566 dL_law_567 dL_law_568 ?_
  rw [e1, e2]
  refine z_callR (gKs D cs) hK.1 (fun _ h => h.1) (t_X11_lasts u.1 (zI p1) (zI p2) (fun r => r = zI ((aLasts A p1 p2))) (x_lasts hu.1 b1 c1 b2 c2 rfl)) (zr_V (As := [.int (zI p1), .int (zI p2)]) (rest := []) O hR 2 gL_law_X11_lasts rfl rfl rfl (by decide +kernel) ⟨(Nat.le_of_ble_eq_true rfl), (Nat.le_of_ble_eq_true rfl)⟩ (lw_room hk) (fun H hH => z_recv hK.1.1 hH.1 (by decide) xe_11 rfl) rfl rfl (Nat.le_of_ble_eq_true rfl) dL_law_569) (fun r hr => ?_)
  obtain rfl : r = zI ((aLasts A p1 p2)) := hr
  have hx2 := hu.1
  refine z_aload_n O dL_law_572 2 rfl ?_
  refine z_larg Wc hi (j := 1) (n := 1) (by decide) rfl 0 4 rfl rfl dL_law_573 dL_law_574 dL_law_576 dL_law_577 dL_law_578 ?_
  refine z_larg Wc hi (j := 2) (n := 2) (by decide) rfl 0 4 rfl rfl dL_law_579 dL_law_580 dL_law_582 dL_law_583 dL_law_584 ?_
  rw [e1, e2]
  refine z_callWR (fun m2 => (u.1, m2, u.2.2)) (gKs D cs) hK.1 (fun _ h => h.2.1) (lw_jM Wc u) hB.2.1 (fun _ h => h) (t_X12_lasts hI.2 u.2.1 (zI p1) (zI p2) (fun r m2 => r = zI ((aLasts A p1 p2)) ∧ MR m2 (A)) (y_lasts hu.2 b1 c1 b2 c2 (fun _ h => ⟨rfl, h⟩))) (zr_V (As := [.int (zI p1), .int (zI p2)]) (rest := [.int (zI ((aLasts A p1 p2)))]) O hR 2 gL_law_X12_lasts rfl rfl rfl (by decide +kernel) ⟨(Nat.le_of_ble_eq_true rfl), (Nat.le_of_ble_eq_true rfl)⟩ (lw_room hk) (fun H hH => z_recv hK.1.1 hH.2.1 (by decide) me_0 rfl) rfl rfl (Nat.le_of_ble_eq_true rfl) dL_law_585) (fun r m2 hr => ?_)
  obtain ⟨rfl, hm2⟩ := hr
  exact z_icmp_eq O 1278 dL_law_588 (by decide) (fun _ => z_widen (by omega) (by omega) (kk (u.1, m2, u.2.2) A ⟨hx2, hm2⟩)) (fun c => absurd rfl c)
set_option maxHeartbeats 4000000 in
set_option maxRecDepth 100000 in
theorem lc_13 (Wc : lwC C D cs ad am ao b L xs) (hi : i + 6 ≤ L) (hk : kc + 1 ≤ 601024 ∧ ks + 6 ≤ 7293034) (hu : lwR u A) (kk : ∀ (u2 : lwS) (A2 : AS), lwR u2 A2 → lwZ C D cs ad am ao b u2 i (kc + 1) (ks + 6) 1278 []) : lwZ C D cs ad am ao b u i kc ks 593 [] := by
  have O := Wc.1
  have hR := Wc.2.1
  have hK := Wc.2.2.1
  have hI := Wc.2.2.2.2.1
  have hB := Wc.2.2.2.2.2.1
  obtain ⟨p1, e1, b1, c1⟩ := zI_of (xs (i + 1))
  obtain ⟨p2, e2, b2, c2⟩ := zI_of (xs (i + 2))
  obtain ⟨p3, e3, b3, c3⟩ := zI_of (xs (i + 3))
  refine z_aload_n O dL_law_593 1 rfl ?_
  refine z_larg Wc hi (j := 1) (n := 1) (by decide) rfl 0 4 rfl rfl dL_law_594 dL_law_595 dL_law_597 dL_law_598 dL_law_599 ?_
  refine z_larg Wc hi (j := 2) (n := 2) (by decide) rfl 0 4 rfl rfl dL_law_600 dL_law_601 dL_law_603 dL_law_604 dL_law_605 ?_
  refine z_larg Wc hi (j := 3) (n := 3) (by decide) rfl 0 4 rfl rfl dL_law_606 dL_law_607 dL_law_609 dL_law_610 dL_law_611 ?_
  rw [e1, e2, e3]
  refine z_callR (gKs D cs) hK.1 (fun _ h => h.1) (t_X11_frost u.1 (zI p1) (zI p2) (zI p3) (fun r => r = zI ((aFrost p1 p2 p3))) (x_frost u.1 b1 c1 b2 c2 b3 c3 rfl)) (zr_V (As := [.int (zI p1), .int (zI p2), .int (zI p3)]) (rest := []) O hR 3 gL_law_X11_frost rfl rfl rfl (by decide +kernel) ⟨(Nat.le_of_ble_eq_true rfl), (Nat.le_of_ble_eq_true rfl)⟩ (lw_room hk) (fun H hH => z_recv hK.1.1 hH.1 (by decide) xe_11 rfl) rfl rfl (Nat.le_of_ble_eq_true rfl) dL_law_612) (fun r hr => ?_)
  obtain rfl : r = zI ((aFrost p1 p2 p3)) := hr
  have hx2 := hu.1
  refine z_aload_n O dL_law_615 2 rfl ?_
  refine z_larg Wc hi (j := 1) (n := 1) (by decide) rfl 0 4 rfl rfl dL_law_616 dL_law_617 dL_law_619 dL_law_620 dL_law_621 ?_
  refine z_larg Wc hi (j := 2) (n := 2) (by decide) rfl 0 4 rfl rfl dL_law_622 dL_law_623 dL_law_625 dL_law_626 dL_law_627 ?_
  refine z_larg Wc hi (j := 3) (n := 3) (by decide) rfl 0 4 rfl rfl dL_law_628 dL_law_629 dL_law_631 dL_law_632 dL_law_633 ?_
  rw [e1, e2, e3]
  refine z_callWR (fun m2 => (u.1, m2, u.2.2)) (gKs D cs) hK.1 (fun _ h => h.2.1) (lw_jM Wc u) hB.2.1 (fun _ h => h) (t_X12_frost hI.2 u.2.1 (zI p1) (zI p2) (zI p3) (fun r m2 => r = zI ((aFrost p1 p2 p3)) ∧ MR m2 (A)) (y_frost hu.2 b1 c1 b2 c2 b3 c3 (fun _ h => ⟨rfl, h⟩))) (zr_V (As := [.int (zI p1), .int (zI p2), .int (zI p3)]) (rest := [.int (zI ((aFrost p1 p2 p3)))]) O hR 3 gL_law_X12_frost rfl rfl rfl (by decide +kernel) ⟨(Nat.le_of_ble_eq_true rfl), (Nat.le_of_ble_eq_true rfl)⟩ (lw_room hk) (fun H hH => z_recv hK.1.1 hH.2.1 (by decide) me_0 rfl) rfl rfl (Nat.le_of_ble_eq_true rfl) dL_law_634) (fun r m2 hr => ?_)
  obtain ⟨rfl, hm2⟩ := hr
  exact z_icmp_eq O 1278 dL_law_637 (by decide) (fun _ => z_widen (by omega) (by omega) (kk (u.1, m2, u.2.2) A ⟨hx2, hm2⟩)) (fun c => absurd rfl c)
set_option maxHeartbeats 4000000 in
set_option maxRecDepth 100000 in
theorem lc_14 (Wc : lwC C D cs ad am ao b L xs) (hi : i + 6 ≤ L) (hk : kc + 1 ≤ 601024 ∧ ks + 6 ≤ 7293034) (hu : lwR u A) (kk : ∀ (u2 : lwS) (A2 : AS), lwR u2 A2 → lwZ C D cs ad am ao b u2 i (kc + 1) (ks + 6) 1278 []) : lwZ C D cs ad am ao b u i kc ks 642 [] := by
  have O := Wc.1
  have hR := Wc.2.1
  have hK := Wc.2.2.1
  have hI := Wc.2.2.2.2.1
  have hB := Wc.2.2.2.2.2.1
  obtain ⟨p1, e1, b1, c1⟩ := zI_of (xs (i + 1))
  obtain ⟨p2, e2, b2, c2⟩ := zI_of (xs (i + 2))
  refine z_aload_n O dL_law_642 1 rfl ?_
  refine z_larg Wc hi (j := 1) (n := 1) (by decide) rfl 0 4 rfl rfl dL_law_643 dL_law_644 dL_law_646 dL_law_647 dL_law_648 ?_
  refine z_larg Wc hi (j := 2) (n := 2) (by decide) rfl 0 4 rfl rfl dL_law_649 dL_law_650 dL_law_652 dL_law_653 dL_law_654 ?_
  rw [e1, e2]
  refine z_callR (gKs D cs) hK.1 (fun _ h => h.1) (t_X11_where u.1 (zI p1) (zI p2) (fun r => r = zI ((aWhere A p1 p2))) (x_where hu.1 b1 c1 b2 c2 rfl)) (zr_V (As := [.int (zI p1), .int (zI p2)]) (rest := []) O hR 2 gL_law_X11_where rfl rfl rfl (by decide +kernel) ⟨(Nat.le_of_ble_eq_true rfl), (Nat.le_of_ble_eq_true rfl)⟩ (lw_room hk) (fun H hH => z_recv hK.1.1 hH.1 (by decide) xe_11 rfl) rfl rfl (Nat.le_of_ble_eq_true rfl) dL_law_655) (fun r hr => ?_)
  obtain rfl : r = zI ((aWhere A p1 p2)) := hr
  have hx2 := hu.1
  refine z_aload_n O dL_law_658 2 rfl ?_
  refine z_larg Wc hi (j := 1) (n := 1) (by decide) rfl 0 4 rfl rfl dL_law_659 dL_law_660 dL_law_662 dL_law_663 dL_law_664 ?_
  refine z_larg Wc hi (j := 2) (n := 2) (by decide) rfl 0 4 rfl rfl dL_law_665 dL_law_666 dL_law_668 dL_law_669 dL_law_670 ?_
  rw [e1, e2]
  refine z_callWR (fun m2 => (u.1, m2, u.2.2)) (gKs D cs) hK.1 (fun _ h => h.2.1) (lw_jM Wc u) hB.2.1 (fun _ h => h) (t_X12_where hI.2 u.2.1 (zI p1) (zI p2) (fun r m2 => r = zI ((aWhere A p1 p2)) ∧ MR m2 (A)) (y_where hu.2 b1 c1 b2 c2 (fun _ h => ⟨rfl, h⟩))) (zr_V (As := [.int (zI p1), .int (zI p2)]) (rest := [.int (zI ((aWhere A p1 p2)))]) O hR 2 gL_law_X12_where rfl rfl rfl (by decide +kernel) ⟨(Nat.le_of_ble_eq_true rfl), (Nat.le_of_ble_eq_true rfl)⟩ (lw_room hk) (fun H hH => z_recv hK.1.1 hH.2.1 (by decide) me_0 rfl) rfl rfl (Nat.le_of_ble_eq_true rfl) dL_law_671) (fun r m2 hr => ?_)
  obtain ⟨rfl, hm2⟩ := hr
  exact z_icmp_eq O 1278 dL_law_674 (by decide) (fun _ => z_widen (by omega) (by omega) (kk (u.1, m2, u.2.2) A ⟨hx2, hm2⟩)) (fun c => absurd rfl c)
set_option maxHeartbeats 4000000 in
set_option maxRecDepth 100000 in
theorem lc_15 (Wc : lwC C D cs ad am ao b L xs) (hi : i + 6 ≤ L) (hk : kc + 1 ≤ 601024 ∧ ks + 6 ≤ 7293034) (hu : lwR u A) (kk : ∀ (u2 : lwS) (A2 : AS), lwR u2 A2 → lwZ C D cs ad am ao b u2 i (kc + 1) (ks + 6) 1278 []) : lwZ C D cs ad am ao b u i kc ks 679 [] := by
  have O := Wc.1
  have hR := Wc.2.1
  have hK := Wc.2.2.1
  have hI := Wc.2.2.2.2.1
  have hB := Wc.2.2.2.2.2.1
  obtain ⟨p1, e1, b1, c1⟩ := zI_of (xs (i + 1))
  refine z_aload_n O dL_law_679 1 rfl ?_
  refine z_larg Wc hi (j := 1) (n := 1) (by decide) rfl 0 4 rfl rfl dL_law_680 dL_law_681 dL_law_683 dL_law_684 dL_law_685 ?_
  rw [e1]
  refine z_callR (gKs D cs) hK.1 (fun _ h => h.1) (t_X11_thin u.1 (zI p1) (fun r => r = zI ((aThin A p1))) (x_thin hu.1 b1 c1 rfl)) (zr_V (As := [.int (zI p1)]) (rest := []) O hR 1 gL_law_X11_thin rfl rfl rfl (by decide +kernel) ⟨(Nat.le_of_ble_eq_true rfl), (Nat.le_of_ble_eq_true rfl)⟩ (lw_room hk) (fun H hH => z_recv hK.1.1 hH.1 (by decide) xe_11 rfl) rfl rfl (Nat.le_of_ble_eq_true rfl) dL_law_686) (fun r hr => ?_)
  obtain rfl : r = zI ((aThin A p1)) := hr
  have hx2 := hu.1
  refine z_aload_n O dL_law_689 2 rfl ?_
  refine z_larg Wc hi (j := 1) (n := 1) (by decide) rfl 0 4 rfl rfl dL_law_690 dL_law_691 dL_law_693 dL_law_694 dL_law_695 ?_
  rw [e1]
  refine z_callWR (fun m2 => (u.1, m2, u.2.2)) (gKs D cs) hK.1 (fun _ h => h.2.1) (lw_jM Wc u) hB.2.1 (fun _ h => h) (t_X12_thin hI.2 u.2.1 (zI p1) (fun r m2 => r = zI ((aThin A p1)) ∧ MR m2 (A)) (y_thin hu.2 b1 c1 (fun _ h => ⟨rfl, h⟩))) (zr_V (As := [.int (zI p1)]) (rest := [.int (zI ((aThin A p1)))]) O hR 1 gL_law_X12_thin rfl rfl rfl (by decide +kernel) ⟨(Nat.le_of_ble_eq_true rfl), (Nat.le_of_ble_eq_true rfl)⟩ (lw_room hk) (fun H hH => z_recv hK.1.1 hH.2.1 (by decide) me_0 rfl) rfl rfl (Nat.le_of_ble_eq_true rfl) dL_law_696) (fun r m2 hr => ?_)
  obtain ⟨rfl, hm2⟩ := hr
  exact z_icmp_eq O 1278 dL_law_699 (by decide) (fun _ => z_widen (by omega) (by omega) (kk (u.1, m2, u.2.2) A ⟨hx2, hm2⟩)) (fun c => absurd rfl c)
set_option maxHeartbeats 4000000 in
set_option maxRecDepth 100000 in
theorem lc_16 (Wc : lwC C D cs ad am ao b L xs) (hi : i + 6 ≤ L) (hk : kc + 1 ≤ 601024 ∧ ks + 6 ≤ 7293034) (hu : lwR u A) (kk : ∀ (u2 : lwS) (A2 : AS), lwR u2 A2 → lwZ C D cs ad am ao b u2 i (kc + 1) (ks + 6) 1278 []) : lwZ C D cs ad am ao b u i kc ks 704 [] := by
  have O := Wc.1
  have hR := Wc.2.1
  have hK := Wc.2.2.1
  have hI := Wc.2.2.2.2.1
  have hB := Wc.2.2.2.2.2.1
  obtain ⟨p1, e1, b1, c1⟩ := zI_of (xs (i + 1))
  obtain ⟨p2, e2, b2, c2⟩ := zI_of (xs (i + 2))
  refine z_aload_n O dL_law_704 1 rfl ?_
  refine z_larg Wc hi (j := 1) (n := 1) (by decide) rfl 0 4 rfl rfl dL_law_705 dL_law_706 dL_law_708 dL_law_709 dL_law_710 ?_
  refine z_larg Wc hi (j := 2) (n := 2) (by decide) rfl 0 4 rfl rfl dL_law_711 dL_law_712 dL_law_714 dL_law_715 dL_law_716 ?_
  rw [e1, e2]
  refine z_callR (gKs D cs) hK.1 (fun _ h => h.1) (t_X11_spans u.1 (zI p1) (zI p2) (fun r => r = zI ((aSpans A p1 p2))) (x_spans hu.1 b1 c1 b2 c2 rfl)) (zr_V (As := [.int (zI p1), .int (zI p2)]) (rest := []) O hR 2 gL_law_X11_spans rfl rfl rfl (by decide +kernel) ⟨(Nat.le_of_ble_eq_true rfl), (Nat.le_of_ble_eq_true rfl)⟩ (lw_room hk) (fun H hH => z_recv hK.1.1 hH.1 (by decide) xe_11 rfl) rfl rfl (Nat.le_of_ble_eq_true rfl) dL_law_717) (fun r hr => ?_)
  obtain rfl : r = zI ((aSpans A p1 p2)) := hr
  have hx2 := hu.1
  refine z_aload_n O dL_law_720 2 rfl ?_
  refine z_larg Wc hi (j := 1) (n := 1) (by decide) rfl 0 4 rfl rfl dL_law_721 dL_law_722 dL_law_724 dL_law_725 dL_law_726 ?_
  refine z_larg Wc hi (j := 2) (n := 2) (by decide) rfl 0 4 rfl rfl dL_law_727 dL_law_728 dL_law_730 dL_law_731 dL_law_732 ?_
  rw [e1, e2]
  refine z_callWR (fun m2 => (u.1, m2, u.2.2)) (gKs D cs) hK.1 (fun _ h => h.2.1) (lw_jM Wc u) hB.2.1 (fun _ h => h) (t_X12_spans hI.2 u.2.1 (zI p1) (zI p2) (fun r m2 => r = zI ((aSpans A p1 p2)) ∧ MR m2 (A)) (y_spans hu.2 b1 c1 b2 c2 (fun _ h => ⟨rfl, h⟩))) (zr_V (As := [.int (zI p1), .int (zI p2)]) (rest := [.int (zI ((aSpans A p1 p2)))]) O hR 2 gL_law_X12_spans rfl rfl rfl (by decide +kernel) ⟨(Nat.le_of_ble_eq_true rfl), (Nat.le_of_ble_eq_true rfl)⟩ (lw_room hk) (fun H hH => z_recv hK.1.1 hH.2.1 (by decide) me_0 rfl) rfl rfl (Nat.le_of_ble_eq_true rfl) dL_law_733) (fun r m2 hr => ?_)
  obtain ⟨rfl, hm2⟩ := hr
  exact z_icmp_eq O 1278 dL_law_736 (by decide) (fun _ => z_widen (by omega) (by omega) (kk (u.1, m2, u.2.2) A ⟨hx2, hm2⟩)) (fun c => absurd rfl c)
set_option maxHeartbeats 4000000 in
set_option maxRecDepth 100000 in
theorem lc_17 (Wc : lwC C D cs ad am ao b L xs) (hi : i + 6 ≤ L) (hk : kc + 1 ≤ 601024 ∧ ks + 6 ≤ 7293034) (hu : lwR u A) (kk : ∀ (u2 : lwS) (A2 : AS), lwR u2 A2 → lwZ C D cs ad am ao b u2 i (kc + 1) (ks + 6) 1278 []) : lwZ C D cs ad am ao b u i kc ks 741 [] := by
  have O := Wc.1
  have hR := Wc.2.1
  have hK := Wc.2.2.1
  have hI := Wc.2.2.2.2.1
  have hB := Wc.2.2.2.2.2.1
  refine z_aload_n O dL_law_741 1 rfl ?_
  refine z_callR (gKs D cs) hK.1 (fun _ h => h.1) (t_X11_disorder u.1 (fun r => r = zI ((aDisorder A))) (x_disorder hu.1 rfl)) (zr_V (As := []) (rest := []) O hR 0 gL_law_X11_disorder rfl rfl rfl (by decide +kernel) ⟨(Nat.le_of_ble_eq_true rfl), (Nat.le_of_ble_eq_true rfl)⟩ (lw_room hk) (fun H hH => z_recv hK.1.1 hH.1 (by decide) xe_11 rfl) rfl rfl (Nat.le_of_ble_eq_true rfl) dL_law_742) (fun r hr => ?_)
  obtain rfl : r = zI ((aDisorder A)) := hr
  have hx2 := hu.1
  refine z_aload_n O dL_law_745 2 rfl ?_
  refine z_callWR (fun m2 => (u.1, m2, u.2.2)) (gKs D cs) hK.1 (fun _ h => h.2.1) (lw_jM Wc u) hB.2.1 (fun _ h => h) (t_X12_disorder hI.2 u.2.1 (fun r m2 => r = zI ((aDisorder A)) ∧ MR m2 (A)) (y_disorder hu.2 (fun _ h => ⟨rfl, h⟩))) (zr_V (As := []) (rest := [.int (zI ((aDisorder A)))]) O hR 0 gL_law_X12_disorder rfl rfl rfl (by decide +kernel) ⟨(Nat.le_of_ble_eq_true rfl), (Nat.le_of_ble_eq_true rfl)⟩ (lw_room hk) (fun H hH => z_recv hK.1.1 hH.2.1 (by decide) me_0 rfl) rfl rfl (Nat.le_of_ble_eq_true rfl) dL_law_746) (fun r m2 hr => ?_)
  obtain ⟨rfl, hm2⟩ := hr
  exact z_icmp_eq O 1278 dL_law_749 (by decide) (fun _ => z_widen (by omega) (by omega) (kk (u.1, m2, u.2.2) A ⟨hx2, hm2⟩)) (fun c => absurd rfl c)
set_option maxHeartbeats 4000000 in
set_option maxRecDepth 100000 in
theorem lc_18 (Wc : lwC C D cs ad am ao b L xs) (hi : i + 6 ≤ L) (hk : kc + 1 ≤ 601024 ∧ ks + 6 ≤ 7293034) (hu : lwR u A) (kk : ∀ (u2 : lwS) (A2 : AS), lwR u2 A2 → lwZ C D cs ad am ao b u2 i (kc + 1) (ks + 6) 1278 []) : lwZ C D cs ad am ao b u i kc ks 754 [] := by
  have O := Wc.1
  have hR := Wc.2.1
  have hK := Wc.2.2.1
  have hI := Wc.2.2.2.2.1
  have hB := Wc.2.2.2.2.2.1
  obtain ⟨p1, e1, b1, c1⟩ := zI_of (xs (i + 1))
  refine z_aload_n O dL_law_754 1 rfl ?_
  refine z_larg Wc hi (j := 1) (n := 1) (by decide) rfl 0 4 rfl rfl dL_law_755 dL_law_756 dL_law_758 dL_law_759 dL_law_760 ?_
  rw [e1]
  refine z_callWR (fun x2 => (x2, u.2)) (gKs D cs) hK.1 (fun _ h => h.1) (lw_jX Wc u) hB.1 (fun _ h => h) (t_X11_order hI.1 u.1 (zI p1) (fun r x2 => r = zI ((aOrder A p1)) ∧ XR x2 A) (x_order hu.1 b1 c1 (fun _ h => ⟨rfl, h⟩))) (zr_V (As := [.int (zI p1)]) (rest := []) O hR 1 gL_law_X11_order rfl rfl rfl (by decide +kernel) ⟨(Nat.le_of_ble_eq_true rfl), (Nat.le_of_ble_eq_true rfl)⟩ (lw_room hk) (fun H hH => z_recv hK.1.1 hH.1 (by decide) xe_11 rfl) rfl rfl (Nat.le_of_ble_eq_true rfl) dL_law_761) (fun r x2 hr => ?_)
  obtain ⟨rfl, hx2⟩ := hr
  refine z_aload_n O dL_law_764 2 rfl ?_
  refine z_larg Wc hi (j := 1) (n := 1) (by decide) rfl 0 4 rfl rfl dL_law_765 dL_law_766 dL_law_768 dL_law_769 dL_law_770 ?_
  rw [e1]
  refine z_callWR (fun m2 => (x2, m2, u.2.2)) (gKs D cs) hK.1 (fun _ h => h.2.1) (lw_jM Wc (x2, u.2)) hB.2.1 (fun _ h => h) (t_X12_order hI.2 u.2.1 (zI p1) (fun r m2 => r = zI ((aOrder A p1)) ∧ MR m2 (A)) (y_order hu.2 b1 c1 (fun _ h => ⟨rfl, h⟩))) (zr_V (As := [.int (zI p1)]) (rest := [.int (zI ((aOrder A p1)))]) O hR 1 gL_law_X12_order rfl rfl rfl (by decide +kernel) ⟨(Nat.le_of_ble_eq_true rfl), (Nat.le_of_ble_eq_true rfl)⟩ (lw_room hk) (fun H hH => z_recv hK.1.1 hH.2.1 (by decide) me_0 rfl) rfl rfl (Nat.le_of_ble_eq_true rfl) dL_law_771) (fun r m2 hr => ?_)
  obtain ⟨rfl, hm2⟩ := hr
  exact z_icmp_eq O 1278 dL_law_774 (by decide) (fun _ => z_widen (by omega) (by omega) (kk (x2, m2, u.2.2) A ⟨hx2, hm2⟩)) (fun c => absurd rfl c)
set_option maxHeartbeats 4000000 in
set_option maxRecDepth 100000 in
theorem lc_19 (Wc : lwC C D cs ad am ao b L xs) (hi : i + 6 ≤ L) (hk : kc + 1 ≤ 601024 ∧ ks + 6 ≤ 7293034) (hu : lwR u A) (kk : ∀ (u2 : lwS) (A2 : AS), lwR u2 A2 → lwZ C D cs ad am ao b u2 i (kc + 1) (ks + 6) 1278 []) : lwZ C D cs ad am ao b u i kc ks 779 [] := by
  have O := Wc.1
  have hR := Wc.2.1
  have hK := Wc.2.2.1
  have hI := Wc.2.2.2.2.1
  have hB := Wc.2.2.2.2.2.1
  obtain ⟨p1, e1, b1, c1⟩ := zI_of (xs (i + 1))
  obtain ⟨p2, e2, b2, c2⟩ := zI_of (xs (i + 2))
  refine z_aload_n O dL_law_779 1 rfl ?_
  refine z_larg Wc hi (j := 1) (n := 1) (by decide) rfl 0 4 rfl rfl dL_law_780 dL_law_781 dL_law_783 dL_law_784 dL_law_785 ?_
  refine z_larg Wc hi (j := 2) (n := 2) (by decide) rfl 0 4 rfl rfl dL_law_786 dL_law_787 dL_law_789 dL_law_790 dL_law_791 ?_
  rw [e1, e2]
  refine z_callR (gKs D cs) hK.1 (fun _ h => h.1) (t_X11_joined u.1 (zI p1) (zI p2) (fun r => r = zI ((aJoined A p1 p2))) (x_joined hu.1 b1 c1 b2 c2 rfl)) (zr_V (As := [.int (zI p1), .int (zI p2)]) (rest := []) O hR 2 gL_law_X11_joined rfl rfl rfl (by decide +kernel) ⟨(Nat.le_of_ble_eq_true rfl), (Nat.le_of_ble_eq_true rfl)⟩ (lw_room hk) (fun H hH => z_recv hK.1.1 hH.1 (by decide) xe_11 rfl) rfl rfl (Nat.le_of_ble_eq_true rfl) dL_law_792) (fun r hr => ?_)
  obtain rfl : r = zI ((aJoined A p1 p2)) := hr
  have hx2 := hu.1
  refine z_aload_n O dL_law_795 2 rfl ?_
  refine z_larg Wc hi (j := 1) (n := 1) (by decide) rfl 0 4 rfl rfl dL_law_796 dL_law_797 dL_law_799 dL_law_800 dL_law_801 ?_
  refine z_larg Wc hi (j := 2) (n := 2) (by decide) rfl 0 4 rfl rfl dL_law_802 dL_law_803 dL_law_805 dL_law_806 dL_law_807 ?_
  rw [e1, e2]
  refine z_callWR (fun m2 => (u.1, m2, u.2.2)) (gKs D cs) hK.1 (fun _ h => h.2.1) (lw_jM Wc u) hB.2.1 (fun _ h => h) (t_X12_joined hI.2 u.2.1 (zI p1) (zI p2) (fun r m2 => r = zI ((aJoined A p1 p2)) ∧ MR m2 (A)) (y_joined hu.2 b1 c1 b2 c2 (fun _ h => ⟨rfl, h⟩))) (zr_V (As := [.int (zI p1), .int (zI p2)]) (rest := [.int (zI ((aJoined A p1 p2)))]) O hR 2 gL_law_X12_joined rfl rfl rfl (by decide +kernel) ⟨(Nat.le_of_ble_eq_true rfl), (Nat.le_of_ble_eq_true rfl)⟩ (lw_room hk) (fun H hH => z_recv hK.1.1 hH.2.1 (by decide) me_0 rfl) rfl rfl (Nat.le_of_ble_eq_true rfl) dL_law_808) (fun r m2 hr => ?_)
  obtain ⟨rfl, hm2⟩ := hr
  exact z_icmp_eq O 1278 dL_law_811 (by decide) (fun _ => z_widen (by omega) (by omega) (kk (u.1, m2, u.2.2) A ⟨hx2, hm2⟩)) (fun c => absurd rfl c)
set_option maxHeartbeats 4000000 in
set_option maxRecDepth 100000 in
theorem lc_20 (Wc : lwC C D cs ad am ao b L xs) (hi : i + 6 ≤ L) (hk : kc + 1 ≤ 601024 ∧ ks + 6 ≤ 7293034) (hu : lwR u A) (kk : ∀ (u2 : lwS) (A2 : AS), lwR u2 A2 → lwZ C D cs ad am ao b u2 i (kc + 1) (ks + 6) 1278 []) : lwZ C D cs ad am ao b u i kc ks 816 [] := by
  have O := Wc.1
  have hR := Wc.2.1
  have hK := Wc.2.2.1
  have hI := Wc.2.2.2.2.1
  have hB := Wc.2.2.2.2.2.1
  obtain ⟨p1, e1, b1, c1⟩ := zI_of (xs (i + 1))
  obtain ⟨p2, e2, b2, c2⟩ := zI_of (xs (i + 2))
  refine z_aload_n O dL_law_816 1 rfl ?_
  refine z_larg Wc hi (j := 1) (n := 1) (by decide) rfl 0 4 rfl rfl dL_law_817 dL_law_818 dL_law_820 dL_law_821 dL_law_822 ?_
  refine z_larg Wc hi (j := 2) (n := 2) (by decide) rfl 0 4 rfl rfl dL_law_823 dL_law_824 dL_law_826 dL_law_827 dL_law_828 ?_
  rw [e1, e2]
  refine z_callWR (fun x2 => (x2, u.2)) (gKs D cs) hK.1 (fun _ h => h.1) (lw_jX Wc u) hB.1 (fun _ h => h) (t_X11_seeded hI.1 u.1 (zI p1) (zI p2) (fun r x2 => r = zI ((aSeeded A p1 p2)) ∧ XR x2 A) (x_seeded hu.1 b1 c1 (fun _ h => ⟨rfl, h⟩))) (zr_V (As := [.int (zI p1), .int (zI p2)]) (rest := []) O hR 2 gL_law_X11_seeded rfl rfl rfl (by decide +kernel) ⟨(Nat.le_of_ble_eq_true rfl), (Nat.le_of_ble_eq_true rfl)⟩ (lw_room hk) (fun H hH => z_recv hK.1.1 hH.1 (by decide) xe_11 rfl) rfl rfl (Nat.le_of_ble_eq_true rfl) dL_law_829) (fun r x2 hr => ?_)
  obtain ⟨rfl, hx2⟩ := hr
  refine z_aload_n O dL_law_832 2 rfl ?_
  refine z_larg Wc hi (j := 1) (n := 1) (by decide) rfl 0 4 rfl rfl dL_law_833 dL_law_834 dL_law_836 dL_law_837 dL_law_838 ?_
  refine z_larg Wc hi (j := 2) (n := 2) (by decide) rfl 0 4 rfl rfl dL_law_839 dL_law_840 dL_law_842 dL_law_843 dL_law_844 ?_
  rw [e1, e2]
  refine z_callWR (fun m2 => (x2, m2, u.2.2)) (gKs D cs) hK.1 (fun _ h => h.2.1) (lw_jM Wc (x2, u.2)) hB.2.1 (fun _ h => h) (t_X12_seeded hI.2 u.2.1 (zI p1) (zI p2) (fun r m2 => r = zI ((aSeeded A p1 p2)) ∧ MR m2 (A)) (y_seeded hu.2 b1 c1 (fun _ h => ⟨rfl, h⟩))) (zr_V (As := [.int (zI p1), .int (zI p2)]) (rest := [.int (zI ((aSeeded A p1 p2)))]) O hR 2 gL_law_X12_seeded rfl rfl rfl (by decide +kernel) ⟨(Nat.le_of_ble_eq_true rfl), (Nat.le_of_ble_eq_true rfl)⟩ (lw_room hk) (fun H hH => z_recv hK.1.1 hH.2.1 (by decide) me_0 rfl) rfl rfl (Nat.le_of_ble_eq_true rfl) dL_law_845) (fun r m2 hr => ?_)
  obtain ⟨rfl, hm2⟩ := hr
  exact z_icmp_eq O 1278 dL_law_848 (by decide) (fun _ => z_widen (by omega) (by omega) (kk (x2, m2, u.2.2) A ⟨hx2, hm2⟩)) (fun c => absurd rfl c)
set_option maxHeartbeats 4000000 in
set_option maxRecDepth 100000 in
theorem lc_21 (Wc : lwC C D cs ad am ao b L xs) (hi : i + 6 ≤ L) (hk : kc + 1 ≤ 601024 ∧ ks + 6 ≤ 7293034) (hu : lwR u A) (kk : ∀ (u2 : lwS) (A2 : AS), lwR u2 A2 → lwZ C D cs ad am ao b u2 i (kc + 1) (ks + 6) 1278 []) : lwZ C D cs ad am ao b u i kc ks 853 [] := by
  have O := Wc.1
  have hR := Wc.2.1
  have hK := Wc.2.2.1
  have hI := Wc.2.2.2.2.1
  have hB := Wc.2.2.2.2.2.1
  obtain ⟨p1, e1, b1, c1⟩ := zI_of (xs (i + 1))
  refine z_aload_n O dL_law_853 1 rfl ?_
  refine z_larg Wc hi (j := 1) (n := 1) (by decide) rfl 0 4 rfl rfl dL_law_854 dL_law_855 dL_law_857 dL_law_858 dL_law_859 ?_
  rw [e1]
  refine z_callR (gKs D cs) hK.1 (fun _ h => h.1) (t_X11_judge u.1 (zI p1) (fun r => r = zI ((aJudge A p1))) (x_judge hu.1 b1 c1 rfl)) (zr_V (As := [.int (zI p1)]) (rest := []) O hR 1 gL_law_X11_judge rfl rfl rfl (by decide +kernel) ⟨(Nat.le_of_ble_eq_true rfl), (Nat.le_of_ble_eq_true rfl)⟩ (lw_room hk) (fun H hH => z_recv hK.1.1 hH.1 (by decide) xe_11 rfl) rfl rfl (Nat.le_of_ble_eq_true rfl) dL_law_860) (fun r hr => ?_)
  obtain rfl : r = zI ((aJudge A p1)) := hr
  have hx2 := hu.1
  refine z_aload_n O dL_law_863 2 rfl ?_
  refine z_larg Wc hi (j := 1) (n := 1) (by decide) rfl 0 4 rfl rfl dL_law_864 dL_law_865 dL_law_867 dL_law_868 dL_law_869 ?_
  rw [e1]
  refine z_callWR (fun m2 => (u.1, m2, u.2.2)) (gKs D cs) hK.1 (fun _ h => h.2.1) (lw_jM Wc u) hB.2.1 (fun _ h => h) (t_X12_judge hI.2 u.2.1 (zI p1) (fun r m2 => r = zI ((aJudge A p1)) ∧ MR m2 (A)) (y_judge hu.2 b1 c1 (fun _ h => ⟨rfl, h⟩))) (zr_V (As := [.int (zI p1)]) (rest := [.int (zI ((aJudge A p1)))]) O hR 1 gL_law_X12_judge rfl rfl rfl (by decide +kernel) ⟨(Nat.le_of_ble_eq_true rfl), (Nat.le_of_ble_eq_true rfl)⟩ (lw_room hk) (fun H hH => z_recv hK.1.1 hH.2.1 (by decide) me_0 rfl) rfl rfl (Nat.le_of_ble_eq_true rfl) dL_law_870) (fun r m2 hr => ?_)
  obtain ⟨rfl, hm2⟩ := hr
  exact z_icmp_eq O 1278 dL_law_873 (by decide) (fun _ => z_widen (by omega) (by omega) (kk (u.1, m2, u.2.2) A ⟨hx2, hm2⟩)) (fun c => absurd rfl c)
set_option maxHeartbeats 4000000 in
set_option maxRecDepth 100000 in
theorem lc_22 (Wc : lwC C D cs ad am ao b L xs) (hi : i + 6 ≤ L) (hk : kc + 1 ≤ 601024 ∧ ks + 6 ≤ 7293034) (hu : lwR u A) (kk : ∀ (u2 : lwS) (A2 : AS), lwR u2 A2 → lwZ C D cs ad am ao b u2 i (kc + 1) (ks + 6) 1278 []) : lwZ C D cs ad am ao b u i kc ks 878 [] := by
  have O := Wc.1
  have hR := Wc.2.1
  have hK := Wc.2.2.1
  have hI := Wc.2.2.2.2.1
  have hB := Wc.2.2.2.2.2.1
  refine z_aload_n O dL_law_878 1 rfl ?_
  refine z_callWR (fun x2 => (x2, u.2)) (gKs D cs) hK.1 (fun _ h => h.1) (lw_jX Wc u) hB.1 (fun _ h => h) (t_X11_image hI.1 u.1 (fun r x2 => r = zI ((aImage A).1) ∧ XR x2 ((aImage A).2)) (x_image hu.1 (fun _ h => ⟨rfl, h⟩))) (zr_V (As := []) (rest := []) O hR 0 gL_law_X11_image rfl rfl rfl (by decide +kernel) ⟨(Nat.le_of_ble_eq_true rfl), (Nat.le_of_ble_eq_true rfl)⟩ (lw_room hk) (fun H hH => z_recv hK.1.1 hH.1 (by decide) xe_11 rfl) rfl rfl (Nat.le_of_ble_eq_true rfl) dL_law_879) (fun r x2 hr => ?_)
  obtain ⟨rfl, hx2⟩ := hr
  refine z_aload_n O dL_law_882 2 rfl ?_
  refine z_callWR (fun m2 => (x2, m2, u.2.2)) (gKs D cs) hK.1 (fun _ h => h.2.1) (lw_jM Wc (x2, u.2)) hB.2.1 (fun _ h => h) (t_X12_image hI.2 u.2.1 (fun r m2 => r = zI ((aImage A).1) ∧ MR m2 ((aImage A).2)) (y_image hu.2 (fun _ h => ⟨rfl, h⟩))) (zr_V (As := []) (rest := [.int (zI ((aImage A).1))]) O hR 0 gL_law_X12_image rfl rfl rfl (by decide +kernel) ⟨(Nat.le_of_ble_eq_true rfl), (Nat.le_of_ble_eq_true rfl)⟩ (lw_room hk) (fun H hH => z_recv hK.1.1 hH.2.1 (by decide) me_0 rfl) rfl rfl (Nat.le_of_ble_eq_true rfl) dL_law_883) (fun r m2 hr => ?_)
  obtain ⟨rfl, hm2⟩ := hr
  exact z_icmp_eq O 1278 dL_law_886 (by decide) (fun _ => z_widen (by omega) (by omega) (kk (x2, m2, u.2.2) (aImage A).2 ⟨hx2, hm2⟩)) (fun c => absurd rfl c)
set_option maxHeartbeats 4000000 in
set_option maxRecDepth 100000 in
theorem lc_23 (Wc : lwC C D cs ad am ao b L xs) (hi : i + 6 ≤ L) (hk : kc + 1 ≤ 601024 ∧ ks + 6 ≤ 7293034) (hu : lwR u A) (kk : ∀ (u2 : lwS) (A2 : AS), lwR u2 A2 → lwZ C D cs ad am ao b u2 i (kc + 1) (ks + 6) 1278 []) : lwZ C D cs ad am ao b u i kc ks 891 [] := by
  have O := Wc.1
  have hR := Wc.2.1
  have hK := Wc.2.2.1
  have hI := Wc.2.2.2.2.1
  have hB := Wc.2.2.2.2.2.1
  refine z_aload_n O dL_law_891 1 rfl ?_
  refine z_callWR (fun x2 => (x2, u.2)) (gKs D cs) hK.1 (fun _ h => h.1) (lw_jX Wc u) hB.1 (fun _ h => h) (t_X11_restore hI.1 u.1 (fun r x2 => r = zI ((aRestore A).1) ∧ XR x2 ((aRestore A).2)) (x_restore hu.1 (fun _ h => ⟨rfl, h⟩))) (zr_V (As := []) (rest := []) O hR 0 gL_law_X11_restore rfl rfl rfl (by decide +kernel) ⟨(Nat.le_of_ble_eq_true rfl), (Nat.le_of_ble_eq_true rfl)⟩ (lw_room hk) (fun H hH => z_recv hK.1.1 hH.1 (by decide) xe_11 rfl) rfl rfl (Nat.le_of_ble_eq_true rfl) dL_law_892) (fun r x2 hr => ?_)
  obtain ⟨rfl, hx2⟩ := hr
  refine z_aload_n O dL_law_895 2 rfl ?_
  refine z_callWR (fun m2 => (x2, m2, u.2.2)) (gKs D cs) hK.1 (fun _ h => h.2.1) (lw_jM Wc (x2, u.2)) hB.2.1 (fun _ h => h) (t_X12_restore hI.2 u.2.1 (fun r m2 => r = zI ((aRestore A).1) ∧ MR m2 ((aRestore A).2)) (y_restore hu.2 (fun _ h => ⟨rfl, h⟩))) (zr_V (As := []) (rest := [.int (zI ((aRestore A).1))]) O hR 0 gL_law_X12_restore rfl rfl rfl (by decide +kernel) ⟨(Nat.le_of_ble_eq_true rfl), (Nat.le_of_ble_eq_true rfl)⟩ (lw_room hk) (fun H hH => z_recv hK.1.1 hH.2.1 (by decide) me_0 rfl) rfl rfl (Nat.le_of_ble_eq_true rfl) dL_law_896) (fun r m2 hr => ?_)
  obtain ⟨rfl, hm2⟩ := hr
  exact z_icmp_eq O 1278 dL_law_899 (by decide) (fun _ => z_widen (by omega) (by omega) (kk (x2, m2, u.2.2) (aRestore A).2 ⟨hx2, hm2⟩)) (fun c => absurd rfl c)
set_option maxHeartbeats 4000000 in
set_option maxRecDepth 100000 in
theorem lc_24 (Wc : lwC C D cs ad am ao b L xs) (hi : i + 6 ≤ L) (hk : kc + 1 ≤ 601024 ∧ ks + 6 ≤ 7293034) (hu : lwR u A) (kk : ∀ (u2 : lwS) (A2 : AS), lwR u2 A2 → lwZ C D cs ad am ao b u2 i (kc + 1) (ks + 6) 1278 []) : lwZ C D cs ad am ao b u i kc ks 904 [] := by
  have O := Wc.1
  have hR := Wc.2.1
  have hK := Wc.2.2.1
  have hI := Wc.2.2.2.2.1
  have hB := Wc.2.2.2.2.2.1
  obtain ⟨p1, e1, b1, c1⟩ := zI_of (xs (i + 1))
  refine z_aload_n O dL_law_904 1 rfl ?_
  refine z_larg Wc hi (j := 1) (n := 1) (by decide) rfl 0 4 rfl rfl dL_law_905 dL_law_906 dL_law_908 dL_law_909 dL_law_910 ?_
  rw [e1]
  refine z_callR (gKs D cs) hK.1 (fun _ h => h.1) (t_X11_count u.1 (zI p1) (fun r => r = zI ((aCount A p1))) (x_count hu.1 b1 c1 rfl)) (zr_V (As := [.int (zI p1)]) (rest := []) O hR 1 gL_law_X11_count rfl rfl rfl (by decide +kernel) ⟨(Nat.le_of_ble_eq_true rfl), (Nat.le_of_ble_eq_true rfl)⟩ (lw_room hk) (fun H hH => z_recv hK.1.1 hH.1 (by decide) xe_11 rfl) rfl rfl (Nat.le_of_ble_eq_true rfl) dL_law_911) (fun r hr => ?_)
  obtain rfl : r = zI ((aCount A p1)) := hr
  have hx2 := hu.1
  refine z_aload_n O dL_law_914 2 rfl ?_
  refine z_larg Wc hi (j := 1) (n := 1) (by decide) rfl 0 4 rfl rfl dL_law_915 dL_law_916 dL_law_918 dL_law_919 dL_law_920 ?_
  rw [e1]
  refine z_callWR (fun m2 => (u.1, m2, u.2.2)) (gKs D cs) hK.1 (fun _ h => h.2.1) (lw_jM Wc u) hB.2.1 (fun _ h => h) (t_X12_count hI.2 u.2.1 (zI p1) (fun r m2 => r = zI ((aCount A p1)) ∧ MR m2 (A)) (y_count hu.2 b1 c1 (fun _ h => ⟨rfl, h⟩))) (zr_V (As := [.int (zI p1)]) (rest := [.int (zI ((aCount A p1)))]) O hR 1 gL_law_X12_count rfl rfl rfl (by decide +kernel) ⟨(Nat.le_of_ble_eq_true rfl), (Nat.le_of_ble_eq_true rfl)⟩ (lw_room hk) (fun H hH => z_recv hK.1.1 hH.2.1 (by decide) me_0 rfl) rfl rfl (Nat.le_of_ble_eq_true rfl) dL_law_921) (fun r m2 hr => ?_)
  obtain ⟨rfl, hm2⟩ := hr
  exact z_icmp_eq O 1278 dL_law_924 (by decide) (fun _ => z_widen (by omega) (by omega) (kk (u.1, m2, u.2.2) A ⟨hx2, hm2⟩)) (fun c => absurd rfl c)
set_option maxHeartbeats 4000000 in
set_option maxRecDepth 100000 in
theorem lc_25 (Wc : lwC C D cs ad am ao b L xs) (hi : i + 6 ≤ L) (hk : kc + 1 ≤ 601024 ∧ ks + 6 ≤ 7293034) (hu : lwR u A) (kk : ∀ (u2 : lwS) (A2 : AS), lwR u2 A2 → lwZ C D cs ad am ao b u2 i (kc + 1) (ks + 6) 1278 []) : lwZ C D cs ad am ao b u i kc ks 929 [] := by
  have O := Wc.1
  have hR := Wc.2.1
  have hK := Wc.2.2.1
  have hI := Wc.2.2.2.2.1
  have hB := Wc.2.2.2.2.2.1
  obtain ⟨p1, e1, b1, c1⟩ := zI_of (xs (i + 1))
  obtain ⟨p2, e2, b2, c2⟩ := zI_of (xs (i + 2))
  obtain ⟨p3, e3, b3, c3⟩ := zI_of (xs (i + 3))
  obtain ⟨p4, e4, b4, c4⟩ := zI_of (xs (i + 4))
  refine z_aload_n O dL_law_929 1 rfl ?_
  refine z_larg Wc hi (j := 1) (n := 1) (by decide) rfl 0 4 rfl rfl dL_law_930 dL_law_931 dL_law_933 dL_law_934 dL_law_935 ?_
  refine z_larg Wc hi (j := 2) (n := 2) (by decide) rfl 0 4 rfl rfl dL_law_936 dL_law_937 dL_law_939 dL_law_940 dL_law_941 ?_
  refine z_larg Wc hi (j := 3) (n := 3) (by decide) rfl 0 4 rfl rfl dL_law_942 dL_law_943 dL_law_945 dL_law_946 dL_law_947 ?_
  refine z_larg Wc hi (j := 4) (n := 4) (by decide) rfl 0 4 rfl rfl dL_law_948 dL_law_949 dL_law_951 dL_law_952 dL_law_953 ?_
  rw [e1, e2, e3, e4]
  refine z_callWR (fun x2 => (x2, u.2)) (gKs D cs) hK.1 (fun _ h => h.1) (lw_jX Wc u) hB.1 (fun _ h => h) (t_X11_keep hI.1 u.1 (zI p1) (zI p2) (zI p3) (zI p4) (fun r x2 => r = zI ((aKeep A p1 p2 p3 p4).1) ∧ XR x2 ((aKeep A p1 p2 p3 p4).2)) (x_keep hu.1 b1 c1 b2 c2 b3 c3 b4 c4 (fun _ h => ⟨rfl, h⟩))) (zr_V (As := [.int (zI p1), .int (zI p2), .int (zI p3), .int (zI p4)]) (rest := []) O hR 4 gL_law_X11_keep rfl rfl rfl (by decide +kernel) ⟨(Nat.le_of_ble_eq_true rfl), (Nat.le_of_ble_eq_true rfl)⟩ (lw_room hk) (fun H hH => z_recv hK.1.1 hH.1 (by decide) xe_11 rfl) rfl rfl (Nat.le_of_ble_eq_true rfl) dL_law_954) (fun r x2 hr => ?_)
  obtain ⟨rfl, hx2⟩ := hr
  refine z_aload_n O dL_law_957 2 rfl ?_
  refine z_larg Wc hi (j := 1) (n := 1) (by decide) rfl 0 4 rfl rfl dL_law_958 dL_law_959 dL_law_961 dL_law_962 dL_law_963 ?_
  refine z_larg Wc hi (j := 2) (n := 2) (by decide) rfl 0 4 rfl rfl dL_law_964 dL_law_965 dL_law_967 dL_law_968 dL_law_969 ?_
  refine z_larg Wc hi (j := 3) (n := 3) (by decide) rfl 0 4 rfl rfl dL_law_970 dL_law_971 dL_law_973 dL_law_974 dL_law_975 ?_
  refine z_larg Wc hi (j := 4) (n := 4) (by decide) rfl 0 4 rfl rfl dL_law_976 dL_law_977 dL_law_979 dL_law_980 dL_law_981 ?_
  rw [e1, e2, e3, e4]
  refine z_callWR (fun m2 => (x2, m2, u.2.2)) (gKs D cs) hK.1 (fun _ h => h.2.1) (lw_jM Wc (x2, u.2)) hB.2.1 (fun _ h => h) (t_X12_keep hI.2 u.2.1 (zI p1) (zI p2) (zI p3) (zI p4) (fun r m2 => r = zI ((aKeep A p1 p2 p3 p4).1) ∧ MR m2 ((aKeep A p1 p2 p3 p4).2)) (y_keep hu.2 b1 c1 b2 c2 b3 c3 b4 c4 (fun _ h => ⟨rfl, h⟩))) (zr_V (As := [.int (zI p1), .int (zI p2), .int (zI p3), .int (zI p4)]) (rest := [.int (zI ((aKeep A p1 p2 p3 p4).1))]) O hR 4 gL_law_X12_keep rfl rfl rfl (by decide +kernel) ⟨(Nat.le_of_ble_eq_true rfl), (Nat.le_of_ble_eq_true rfl)⟩ (lw_room hk) (fun H hH => z_recv hK.1.1 hH.2.1 (by decide) me_0 rfl) rfl rfl (Nat.le_of_ble_eq_true rfl) dL_law_982) (fun r m2 hr => ?_)
  obtain ⟨rfl, hm2⟩ := hr
  exact z_icmp_eq O 1278 dL_law_985 (by decide) (fun _ => z_widen (by omega) (by omega) (kk (x2, m2, u.2.2) (aKeep A p1 p2 p3 p4).2 ⟨hx2, hm2⟩)) (fun c => absurd rfl c)
set_option maxHeartbeats 4000000 in
set_option maxRecDepth 100000 in
theorem lc_26 (Wc : lwC C D cs ad am ao b L xs) (hi : i + 6 ≤ L) (hk : kc + 1 ≤ 601024 ∧ ks + 6 ≤ 7293034) (hu : lwR u A) (kk : ∀ (u2 : lwS) (A2 : AS), lwR u2 A2 → lwZ C D cs ad am ao b u2 i (kc + 1) (ks + 6) 1278 []) : lwZ C D cs ad am ao b u i kc ks 990 [] := by
  have O := Wc.1
  have hR := Wc.2.1
  have hK := Wc.2.2.1
  have hI := Wc.2.2.2.2.1
  have hB := Wc.2.2.2.2.2.1
  obtain ⟨p1, e1, b1, c1⟩ := zI_of (xs (i + 1))
  obtain ⟨p2, e2, b2, c2⟩ := zI_of (xs (i + 2))
  obtain ⟨p3, e3, b3, c3⟩ := zI_of (xs (i + 3))
  refine z_aload_n O dL_law_990 1 rfl ?_
  refine z_larg Wc hi (j := 1) (n := 1) (by decide) rfl 0 4 rfl rfl dL_law_991 dL_law_992 dL_law_994 dL_law_995 dL_law_996 ?_
  refine z_larg Wc hi (j := 2) (n := 2) (by decide) rfl 0 4 rfl rfl dL_law_997 dL_law_998 dL_law_1000 dL_law_1001 dL_law_1002 ?_
  refine z_larg Wc hi (j := 3) (n := 3) (by decide) rfl 0 4 rfl rfl dL_law_1003 dL_law_1004 dL_law_1006 dL_law_1007 dL_law_1008 ?_
  rw [e1, e2, e3]
  refine z_callWR (fun x2 => (x2, u.2)) (gKs D cs) hK.1 (fun _ h => h.1) (lw_jX Wc u) hB.1 (fun _ h => h) (t_X11_row hI.1 u.1 (zI p1) (zI p2) (zI p3) (fun r x2 => r = zI ((aRow A p1 p2 p3).1) ∧ XR x2 ((aRow A p1 p2 p3).2)) (x_row hu.1 b1 c1 b2 c2 b3 c3 (fun _ h => ⟨rfl, h⟩))) (zr_V (As := [.int (zI p1), .int (zI p2), .int (zI p3)]) (rest := []) O hR 3 gL_law_X11_row rfl rfl rfl (by decide +kernel) ⟨(Nat.le_of_ble_eq_true rfl), (Nat.le_of_ble_eq_true rfl)⟩ (lw_room hk) (fun H hH => z_recv hK.1.1 hH.1 (by decide) xe_11 rfl) rfl rfl (Nat.le_of_ble_eq_true rfl) dL_law_1009) (fun r x2 hr => ?_)
  obtain ⟨rfl, hx2⟩ := hr
  refine z_aload_n O dL_law_1012 2 rfl ?_
  refine z_larg Wc hi (j := 1) (n := 1) (by decide) rfl 0 4 rfl rfl dL_law_1013 dL_law_1014 dL_law_1016 dL_law_1017 dL_law_1018 ?_
  refine z_larg Wc hi (j := 2) (n := 2) (by decide) rfl 0 4 rfl rfl dL_law_1019 dL_law_1020 dL_law_1022 dL_law_1023 dL_law_1024 ?_
  refine z_larg Wc hi (j := 3) (n := 3) (by decide) rfl 0 4 rfl rfl dL_law_1025 dL_law_1026 dL_law_1028 dL_law_1029 dL_law_1030 ?_
  rw [e1, e2, e3]
  refine z_callWR (fun m2 => (x2, m2, u.2.2)) (gKs D cs) hK.1 (fun _ h => h.2.1) (lw_jM Wc (x2, u.2)) hB.2.1 (fun _ h => h) (t_X12_row hI.2 u.2.1 (zI p1) (zI p2) (zI p3) (fun r m2 => r = zI ((aRow A p1 p2 p3).1) ∧ MR m2 ((aRow A p1 p2 p3).2)) (y_row hu.2 b1 c1 b2 c2 b3 c3 (fun _ h => ⟨rfl, h⟩))) (zr_V (As := [.int (zI p1), .int (zI p2), .int (zI p3)]) (rest := [.int (zI ((aRow A p1 p2 p3).1))]) O hR 3 gL_law_X12_row rfl rfl rfl (by decide +kernel) ⟨(Nat.le_of_ble_eq_true rfl), (Nat.le_of_ble_eq_true rfl)⟩ (lw_room hk) (fun H hH => z_recv hK.1.1 hH.2.1 (by decide) me_0 rfl) rfl rfl (Nat.le_of_ble_eq_true rfl) dL_law_1031) (fun r m2 hr => ?_)
  obtain ⟨rfl, hm2⟩ := hr
  exact z_icmp_eq O 1278 dL_law_1034 (by decide) (fun _ => z_widen (by omega) (by omega) (kk (x2, m2, u.2.2) (aRow A p1 p2 p3).2 ⟨hx2, hm2⟩)) (fun c => absurd rfl c)
set_option maxHeartbeats 4000000 in
set_option maxRecDepth 100000 in
theorem lc_27 (Wc : lwC C D cs ad am ao b L xs) (hi : i + 6 ≤ L) (hk : kc + 1 ≤ 601024 ∧ ks + 6 ≤ 7293034) (hu : lwR u A) (kk : ∀ (u2 : lwS) (A2 : AS), lwR u2 A2 → lwZ C D cs ad am ao b u2 i (kc + 1) (ks + 6) 1278 []) : lwZ C D cs ad am ao b u i kc ks 1039 [] := by
  have O := Wc.1
  have hR := Wc.2.1
  have hK := Wc.2.2.1
  have hI := Wc.2.2.2.2.1
  have hB := Wc.2.2.2.2.2.1
  obtain ⟨p1, e1, b1, c1⟩ := zI_of (xs (i + 1))
  obtain ⟨p2, e2, b2, c2⟩ := zI_of (xs (i + 2))
  obtain ⟨p3, e3, b3, c3⟩ := zI_of (xs (i + 3))
  refine z_aload_n O dL_law_1039 1 rfl ?_
  refine z_larg Wc hi (j := 1) (n := 1) (by decide) rfl 0 4 rfl rfl dL_law_1040 dL_law_1041 dL_law_1043 dL_law_1044 dL_law_1045 ?_
  refine z_larg Wc hi (j := 2) (n := 2) (by decide) rfl 0 4 rfl rfl dL_law_1046 dL_law_1047 dL_law_1049 dL_law_1050 dL_law_1051 ?_
  refine z_larg Wc hi (j := 3) (n := 3) (by decide) rfl 0 4 rfl rfl dL_law_1052 dL_law_1053 dL_law_1055 dL_law_1056 dL_law_1057 ?_
  rw [e1, e2, e3]
  refine z_callWR (fun x2 => (x2, u.2)) (gKs D cs) hK.1 (fun _ h => h.1) (lw_jX Wc u) hB.1 (fun _ h => h) (t_X11_put hI.1 u.1 (zI p1) (zI p2) (zI p3) (fun r x2 => r = zI ((aPut A p1 p2 p3).1) ∧ XR x2 ((aPut A p1 p2 p3).2)) (x_put hu.1 b1 c1 b2 c2 b3 c3 (fun _ h => ⟨rfl, h⟩))) (zr_V (As := [.int (zI p1), .int (zI p2), .int (zI p3)]) (rest := []) O hR 3 gL_law_X11_put rfl rfl rfl (by decide +kernel) ⟨(Nat.le_of_ble_eq_true rfl), (Nat.le_of_ble_eq_true rfl)⟩ (lw_room hk) (fun H hH => z_recv hK.1.1 hH.1 (by decide) xe_11 rfl) rfl rfl (Nat.le_of_ble_eq_true rfl) dL_law_1058) (fun r x2 hr => ?_)
  obtain ⟨rfl, hx2⟩ := hr
  refine z_aload_n O dL_law_1061 2 rfl ?_
  refine z_larg Wc hi (j := 1) (n := 1) (by decide) rfl 0 4 rfl rfl dL_law_1062 dL_law_1063 dL_law_1065 dL_law_1066 dL_law_1067 ?_
  refine z_larg Wc hi (j := 2) (n := 2) (by decide) rfl 0 4 rfl rfl dL_law_1068 dL_law_1069 dL_law_1071 dL_law_1072 dL_law_1073 ?_
  refine z_larg Wc hi (j := 3) (n := 3) (by decide) rfl 0 4 rfl rfl dL_law_1074 dL_law_1075 dL_law_1077 dL_law_1078 dL_law_1079 ?_
  rw [e1, e2, e3]
  refine z_callWR (fun m2 => (x2, m2, u.2.2)) (gKs D cs) hK.1 (fun _ h => h.2.1) (lw_jM Wc (x2, u.2)) hB.2.1 (fun _ h => h) (t_X12_put hI.2 u.2.1 (zI p1) (zI p2) (zI p3) (fun r m2 => r = zI ((aPut A p1 p2 p3).1) ∧ MR m2 ((aPut A p1 p2 p3).2)) (y_put hu.2 b1 c1 b2 c2 b3 c3 (fun _ h => ⟨rfl, h⟩))) (zr_V (As := [.int (zI p1), .int (zI p2), .int (zI p3)]) (rest := [.int (zI ((aPut A p1 p2 p3).1))]) O hR 3 gL_law_X12_put rfl rfl rfl (by decide +kernel) ⟨(Nat.le_of_ble_eq_true rfl), (Nat.le_of_ble_eq_true rfl)⟩ (lw_room hk) (fun H hH => z_recv hK.1.1 hH.2.1 (by decide) me_0 rfl) rfl rfl (Nat.le_of_ble_eq_true rfl) dL_law_1080) (fun r m2 hr => ?_)
  obtain ⟨rfl, hm2⟩ := hr
  exact z_icmp_eq O 1278 dL_law_1083 (by decide) (fun _ => z_widen (by omega) (by omega) (kk (x2, m2, u.2.2) (aPut A p1 p2 p3).2 ⟨hx2, hm2⟩)) (fun c => absurd rfl c)
set_option maxHeartbeats 4000000 in
set_option maxRecDepth 100000 in
theorem lc_29 (Wc : lwC C D cs ad am ao b L xs) (hi : i + 6 ≤ L) (hk : kc + 1 ≤ 601024 ∧ ks + 6 ≤ 7293034) (hu : lwR u A) (kk : ∀ (u2 : lwS) (A2 : AS), lwR u2 A2 → lwZ C D cs ad am ao b u2 i (kc + 1) (ks + 6) 1278 []) : lwZ C D cs ad am ao b u i kc ks 1155 [] := by
  have O := Wc.1
  have hR := Wc.2.1
  have hK := Wc.2.2.1
  have hI := Wc.2.2.2.2.1
  have hB := Wc.2.2.2.2.2.1
  obtain ⟨p1, e1, b1, c1⟩ := zI_of (xs (i + 1))
  obtain ⟨p2, e2, b2, c2⟩ := zI_of (xs (i + 2))
  obtain ⟨p3, e3, b3, c3⟩ := zI_of (xs (i + 3))
  obtain ⟨p4, e4, b4, c4⟩ := zI_of (xs (i + 4))
  obtain ⟨p5, e5, b5, c5⟩ := zI_of (xs (i + 5))
  refine z_aload_n O dL_law_1155 1 rfl ?_
  refine z_larg Wc hi (j := 1) (n := 1) (by decide) rfl 0 4 rfl rfl dL_law_1156 dL_law_1157 dL_law_1159 dL_law_1160 dL_law_1161 ?_
  refine z_larg Wc hi (j := 2) (n := 2) (by decide) rfl 0 4 rfl rfl dL_law_1162 dL_law_1163 dL_law_1165 dL_law_1166 dL_law_1167 ?_
  refine z_larg Wc hi (j := 3) (n := 3) (by decide) rfl 0 4 rfl rfl dL_law_1168 dL_law_1169 dL_law_1171 dL_law_1172 dL_law_1173 ?_
  refine z_larg Wc hi (j := 4) (n := 4) (by decide) rfl 0 4 rfl rfl dL_law_1174 dL_law_1175 dL_law_1177 dL_law_1178 dL_law_1179 ?_
  refine z_larg Wc hi (j := 5) (n := 5) (by decide) rfl 0 4 rfl rfl dL_law_1180 dL_law_1181 dL_law_1183 dL_law_1184 dL_law_1185 ?_
  rw [e1, e2, e3, e4, e5]
  refine z_callWR (fun x2 => (x2, u.2)) (gKs D cs) hK.1 (fun _ h => h.1) (lw_jX Wc u) hB.1 (fun _ h => h) (t_X11_copy hI.1 u.1 (zI p1) (zI p2) (zI p3) (zI p4) (zI p5) (fun r x2 => r = zI ((aCopy A p1 p2 p3 p4 p5).1) ∧ XR x2 ((aCopy A p1 p2 p3 p4 p5).2)) (x_copy hu.1 b1 c1 b2 c2 b3 c3 b4 c4 b5 c5 (fun _ h => ⟨rfl, h⟩))) (zr_V (As := [.int (zI p1), .int (zI p2), .int (zI p3), .int (zI p4), .int (zI p5)]) (rest := []) O hR 5 gL_law_X11_copy rfl rfl rfl (by decide +kernel) ⟨(Nat.le_of_ble_eq_true rfl), (Nat.le_of_ble_eq_true rfl)⟩ (lw_room hk) (fun H hH => z_recv hK.1.1 hH.1 (by decide) xe_11 rfl) rfl rfl (Nat.le_of_ble_eq_true rfl) dL_law_1186) (fun r x2 hr => ?_)
  obtain ⟨rfl, hx2⟩ := hr
  refine z_aload_n O dL_law_1189 2 rfl ?_
  refine z_larg Wc hi (j := 1) (n := 1) (by decide) rfl 0 4 rfl rfl dL_law_1190 dL_law_1191 dL_law_1193 dL_law_1194 dL_law_1195 ?_
  refine z_larg Wc hi (j := 2) (n := 2) (by decide) rfl 0 4 rfl rfl dL_law_1196 dL_law_1197 dL_law_1199 dL_law_1200 dL_law_1201 ?_
  refine z_larg Wc hi (j := 3) (n := 3) (by decide) rfl 0 4 rfl rfl dL_law_1202 dL_law_1203 dL_law_1205 dL_law_1206 dL_law_1207 ?_
  refine z_larg Wc hi (j := 4) (n := 4) (by decide) rfl 0 4 rfl rfl dL_law_1208 dL_law_1209 dL_law_1211 dL_law_1212 dL_law_1213 ?_
  refine z_larg Wc hi (j := 5) (n := 5) (by decide) rfl 0 4 rfl rfl dL_law_1214 dL_law_1215 dL_law_1217 dL_law_1218 dL_law_1219 ?_
  rw [e1, e2, e3, e4, e5]
  refine z_callWR (fun m2 => (x2, m2, u.2.2)) (gKs D cs) hK.1 (fun _ h => h.2.1) (lw_jM Wc (x2, u.2)) hB.2.1 (fun _ h => h) (t_X12_copy hI.2 u.2.1 (zI p1) (zI p2) (zI p3) (zI p4) (zI p5) (fun r m2 => r = zI ((aCopy A p1 p2 p3 p4 p5).1) ∧ MR m2 ((aCopy A p1 p2 p3 p4 p5).2)) (y_copy hu.2 b1 c1 b2 c2 b3 c3 b4 c4 b5 c5 (fun _ h => ⟨rfl, h⟩))) (zr_V (As := [.int (zI p1), .int (zI p2), .int (zI p3), .int (zI p4), .int (zI p5)]) (rest := [.int (zI ((aCopy A p1 p2 p3 p4 p5).1))]) O hR 5 gL_law_X12_copy rfl rfl rfl (by decide +kernel) ⟨(Nat.le_of_ble_eq_true rfl), (Nat.le_of_ble_eq_true rfl)⟩ (lw_room hk) (fun H hH => z_recv hK.1.1 hH.2.1 (by decide) me_0 rfl) rfl rfl (Nat.le_of_ble_eq_true rfl) dL_law_1220) (fun r m2 hr => ?_)
  obtain ⟨rfl, hm2⟩ := hr
  exact z_icmp_eq O 1278 dL_law_1223 (by decide) (fun _ => z_widen (by omega) (by omega) (kk (x2, m2, u.2.2) (aCopy A p1 p2 p3 p4 p5).2 ⟨hx2, hm2⟩)) (fun c => absurd rfl c)
set_option maxHeartbeats 4000000 in
set_option maxRecDepth 100000 in
theorem lc_30 (Wc : lwC C D cs ad am ao b L xs) (hi : i + 6 ≤ L) (hk : kc + 1 ≤ 601024 ∧ ks + 6 ≤ 7293034) (hu : lwR u A) (kk : ∀ (u2 : lwS) (A2 : AS), lwR u2 A2 → lwZ C D cs ad am ao b u2 i (kc + 1) (ks + 6) 1278 []) : lwZ C D cs ad am ao b u i kc ks 1228 [] := by
  have O := Wc.1
  have hR := Wc.2.1
  have hK := Wc.2.2.1
  have hI := Wc.2.2.2.2.1
  have hB := Wc.2.2.2.2.2.1
  obtain ⟨p1, e1, b1, c1⟩ := zI_of (xs (i + 1))
  refine z_aload_n O dL_law_1228 1 rfl ?_
  refine z_larg Wc hi (j := 1) (n := 1) (by decide) rfl 0 4 rfl rfl dL_law_1229 dL_law_1230 dL_law_1232 dL_law_1233 dL_law_1234 ?_
  rw [e1]
  refine z_callR (gKs D cs) hK.1 (fun _ h => h.1) (t_X11_toll u.1 (zI p1) (fun r => r = zI ((aToll A p1))) (x_toll hu.1 b1 c1 rfl)) (zr_V (As := [.int (zI p1)]) (rest := []) O hR 1 gL_law_X11_toll rfl rfl rfl (by decide +kernel) ⟨(Nat.le_of_ble_eq_true rfl), (Nat.le_of_ble_eq_true rfl)⟩ (lw_room hk) (fun H hH => z_recv hK.1.1 hH.1 (by decide) xe_11 rfl) rfl rfl (Nat.le_of_ble_eq_true rfl) dL_law_1235) (fun r hr => ?_)
  obtain rfl : r = zI ((aToll A p1)) := hr
  have hx2 := hu.1
  refine z_aload_n O dL_law_1238 2 rfl ?_
  refine z_larg Wc hi (j := 1) (n := 1) (by decide) rfl 0 4 rfl rfl dL_law_1239 dL_law_1240 dL_law_1242 dL_law_1243 dL_law_1244 ?_
  rw [e1]
  refine z_callWR (fun m2 => (u.1, m2, u.2.2)) (gKs D cs) hK.1 (fun _ h => h.2.1) (lw_jM Wc u) hB.2.1 (fun _ h => h) (t_X12_toll hI.2 u.2.1 (zI p1) (fun r m2 => r = zI ((aToll A p1)) ∧ MR m2 (A)) (y_toll hu.2 b1 c1 (fun _ h => ⟨rfl, h⟩))) (zr_V (As := [.int (zI p1)]) (rest := [.int (zI ((aToll A p1)))]) O hR 1 gL_law_X12_toll rfl rfl rfl (by decide +kernel) ⟨(Nat.le_of_ble_eq_true rfl), (Nat.le_of_ble_eq_true rfl)⟩ (lw_room hk) (fun H hH => z_recv hK.1.1 hH.2.1 (by decide) me_0 rfl) rfl rfl (Nat.le_of_ble_eq_true rfl) dL_law_1245) (fun r m2 hr => ?_)
  obtain ⟨rfl, hm2⟩ := hr
  exact z_icmp_eq O 1278 dL_law_1248 (by decide) (fun _ => z_widen (by omega) (by omega) (kk (u.1, m2, u.2.2) A ⟨hx2, hm2⟩)) (fun c => absurd rfl c)
end LCT
