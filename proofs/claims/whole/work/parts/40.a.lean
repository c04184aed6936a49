/-! ===== joined: the class ===== -/
theorem zI_s1 (k : Nat) : zI (k : Int) - 1 = zI ((k : Int) - 1) := by rw [show (1 : Int32) = zI 1 from rfl, zI_sub]
theorem zI_min {u v : Nat} (h1 : u < 1000000) (h2 : v < 1000000) : (if zI (v : Int) < zI (u : Int) then zI (v : Int) else zI (u : Int)) = zI ((min u v : Nat) : Int) := by
  have e := zI_lt (a := v) (b := u) (by omega) (by omega) (by omega) (by omega)
  by_cases c : (v : Int) < u
  · rw [if_pos (e.mpr c)]; exact zI_c (by omega)
  · rw [if_neg (fun z => c (e.mp z))]; exact zI_c (by omega)
section ASF
variable {x x' : XS} {A : AS} {L : LK} {S : SH}
def aJoined (A : AS) (c e : Int) : Int := if isC c ∧ isC e ∧ ¬ c = e then (jnS A.1 c e 161 0 : Nat) else -1
theorem s_nxThick {b n : Nat} {K O W F : Nat → Nat} (ok : cOK n K O W F) (h : CX x b n K O W F) {j : Nat} (hj : 1 ≤ j) (hjn : j ≤ n) {Q : Int32 → Prop} (hq : Q (zI ((if j - 1 = 0 then 0 else F (j - 1 - 1) : Nat) : Int))) : wp_X2_thickAt x b (zI ((j - 1 : Nat) : Int) + -1) Q := by
  have hn := ok.1
  rw [zI_m1]
  by_cases c : j - 1 = 0
  · rw [if_pos c] at hq
    exact s_thickO ok h (by omega) (by omega) (by omega) hq
  · rw [if_neg c] at hq
    rw [show zI (((j - 1 : Nat) : Int) - 1) = zI ((j - 1 - 1 : Nat) : Int) from zI_c (by omega)]
    exact s_thickAt ok h (by omega) hq
theorem jn_stop {c e : Int} {r d : Nat} (h : layB (fL L c) (nL L c) d = none ∨ layB (fL L e) (nL L e) d = none ∨ ∃ i k, layB (fL L c) (nL L c) d = some i ∧ layB (fL L e) (nL L e) d = some k ∧ oL L c i ≠ oL L e k) : jnS L c e r d = d := by
  cases r with
  | zero => rfl
  | succ r =>
    unfold jnS
    rcases h with h | h | ⟨i, k, h1, h2, h3⟩
    · rw [h]
    · rw [h]; cases layB (fL L c) (nL L c) d <;> rfl
    · rw [h1, h2]; simp only []; rw [if_neg h3]
theorem s_alike {a b : Nat} {c e : Int} (okc : cOK (nL L c) (kL L c) (oL L c) (wL L c) (fL L c)) (hc : CX x a (nL L c) (kL L c) (oL L c) (wL L c) (fL L c)) (oke : cOK (nL L e) (kL L e) (oL L e) (wL L e) (fL L e)) (he : CX x b (nL L e) (kL L e) (oL L e) (wL L e) (fL L e)) {Q : Int32 → Prop} (hq : Q (zI (jnS L c e 161 0))) : wp_X11_alikeFingers x a b Q := by
  have hnc := okc.1
  have hne := oke.1
  have hsc := (sgF okc (Nat.le_refl _)).2
  have hse := (sgF oke (Nat.le_refl _)).2
  have hFc : ∀ i, i < nL L c → 1 ≤ fL L c i := fun i hi => by have := okc.2 i hi; omega
  have hFe : ∀ i, i < nL L e → 1 ≤ fL L e i := fun i hi => by have := oke.2 i hi; omega
  have fi : ∀ (z : Int) (b : Nat), cOK (nL L z) (kL L z) (oL L z) (wL L z) (fL L z) → CX x b (nL L z) (kL L z) (oL L z) (wL L z) (fL L z) → ∀ Q : Int32 → Prop, (∀ u : Nat, CI (fL L z) (nL L z) 0 (nL L z) u → Q (zI u)) → wp_X2_thickAt x b ((x.1 b 6) - 1) Q := fun z b ok hX Q hq => by
    have hn := ok.1
    rw [hX.1, show (1 : Int32) = zI 1 from rfl, zI_sub]
    by_cases c0 : nL L z = 0
    · refine s_thickO ok hX (by omega) (by omega) (by omega) (hq 0 (Or.inl ⟨c0, ?_, rfl⟩))
      rw [c0]; rfl
    · rw [show zI ((nL L z : Int) - 1) = zI ((nL L z - 1 : Nat) : Int) from zI_c (by omega)]
      have e := sg_s (fL L z) (nL L z - 1)
      rw [show nL L z - 1 + 1 = nL L z by omega] at e
      have := ok.2 (nL L z - 1) (by omega)
      exact s_thickAt ok hX (by omega) (hq (fL L z (nL L z - 1)) (Or.inr ⟨by omega, by omega, by omega, by omega, by omega⟩))
  refine fi c a okc hc _ (fun u hu => fi e b oke he _ (fun v hv => ?_))
  rw [hc.1, he.1, zI_s1, zI_s1]
  refine ⟨fun y3 y4 y5 y6 y7 => ∃ d j k u v : Nat, y3 = zI d ∧ y4 = zI ((j : Int) - 1) ∧ y5 = zI ((k : Int) - 1) ∧ y6 = zI u ∧ y7 = zI v ∧ j ≤ 8 ∧ k ≤ 8 ∧ CI (fL L c) (nL L c) d j u ∧ CI (fL L e) (nL L e) d k v ∧ jnS L c e 161 0 = jnS L c e (161 - d) d, fun _ y4 y5 _ _ => (y4.toInt + 1).toNat + (y5.toInt + 1).toNat, ⟨0, nL L c, nL L e, u, v, rfl, rfl, rfl, rfl, rfl, hnc, hne, hu, hv, rfl⟩, ?_⟩
  rintro y3 y4 y5 y6 y7 ⟨d, j, k, u, v, rfl, rfl, rfl, rfl, rfl, hj, hk, hC, hE, hjn⟩
  have hq0 := hq
  rw [hjn] at hq
  have hdu : d ≤ 160 ∧ u ≤ 160 := by rcases hC with ⟨_, h1, h2⟩ | ⟨h1, h2, h3, h4, h5⟩ <;> omega
  have hdv : v ≤ 160 := by rcases hE with ⟨_, h1, h2⟩ | ⟨h1, h2, h3, h4, h5⟩ <;> omega
  rw [show (0 : Int32) = zI 0 from rfl, zI_lt (by omega) (by omega) (by omega) (by omega), zI_lt (by omega) (by omega) (by omega) (by omega)]
  refine ⟨fun c1 => ?_, fun c1 => ⟨fun c2 => ?_, fun c2 => ?_⟩⟩
  · rw [jn_stop (Or.inl ?_)] at hq
    · exact hq
    · rcases hC with ⟨_, h1, _⟩ | ⟨h1, _⟩
      · exact layB_no _ _ _ (by omega)
      · omega
  · rw [jn_stop (Or.inr (Or.inl ?_))] at hq
    · exact hq
    · rcases hE with ⟨_, h1, _⟩ | ⟨h1, _⟩
      · exact layB_no _ _ _ (by omega)
      · omega
  have hj1 : 1 ≤ j := by omega
  have hk1 : 1 ≤ k := by omega
  have hjn' : j ≤ nL L c ∧ 1 ≤ u := by rcases hC with ⟨h1, _⟩ | ⟨h1, h2, h3, h4, h5⟩ <;> omega
  have hkn' : k ≤ nL L e ∧ 1 ≤ v := by rcases hE with ⟨h1, _⟩ | ⟨h1, h2, h3, h4, h5⟩ <;> omega
  rw [show zI ((j : Int) - 1) = zI ((j - 1 : Nat) : Int) from zI_c (by omega), show zI ((k : Int) - 1) = zI ((k - 1 : Nat) : Int) from zI_c (by omega)]
  refine s_oathAt okc hc (by omega) (s_oathAt oke he (by omega) ?_)
  have o1 := (okc.2 (j - 1) (by omega)).2.1
  have o2 := (oke.2 (k - 1) (by omega)).2.1
  rw [zI_eq (by omega) (by omega) (by omega) (by omega)]
  have ac := CI_at hC hj1
  have ae := CI_at hE hk1
  refine ⟨fun c3 => ?_, fun c3 => ?_⟩
  · rw [jn_stop (Or.inr (Or.inr ⟨j - 1, k - 1, by have := ac 0 (by omega); rwa [Nat.add_zero] at this, by have := ae 0 (by omega); rwa [Nat.add_zero] at this, by omega⟩))] at hq; exact hq
  have c3 : oL L c (j - 1) = oL L e (k - 1) := by omega
  rw [zI_min (u := u) (v := v) (by omega) (by omega)]
  generalize ht : min u v = t
  have htu : t ≤ u ∧ t ≤ v ∧ (t = u ∨ t = v) ∧ 1 ≤ t := by omega
  have hch : jnS L c e (161 - d) d = jnS L c e (161 - (d + t)) (d + t) := by
    have hdt : d + t ≤ 160 := by rcases hC with ⟨h1, _⟩ | ⟨h1, h2, h3, h4, h5⟩ <;> omega
    rw [show 161 - d = 161 - (d + t) + t by omega]
    exact jn_chunk c3 t _ d (fun s hs => ⟨ac s (by omega), ae s (by omega)⟩)
  have ed : zI (d : Int) + zI (t : Int) = zI ((d + t : Nat) : Int) := by rw [zI_add]; exact zI_c (by omega)
  rw [ed, zI_sub, zI_sub, zI_eq (by omega) (by omega) (by omega) (by omega), zI_eq (by omega) (by omega) (by omega) (by omega)]
  have nx : ∀ (j' k' u' v' : Nat), j' ≤ j → k' ≤ k → j' + k' < j + k → CI (fL L c) (nL L c) (d + t) j' u' → CI (fL L e) (nL L e) (d + t) k' v' → ∀ (y4 y5 y6 y7 : Int32), y4 = zI ((j' : Int) - 1) → y5 = zI ((k' : Int) - 1) → y6 = zI u' → y7 = zI v' → (∃ d_1 j_1 k_1 u_1 v_1 : Nat, zI ((d + t : Nat) : Int) = zI d_1 ∧ y4 = zI ((j_1 : Int) - 1) ∧ y5 = zI ((k_1 : Int) - 1) ∧ y6 = zI u_1 ∧ y7 = zI v_1 ∧ j_1 ≤ 8 ∧ k_1 ≤ 8 ∧ CI (fL L c) (nL L c) d_1 j_1 u_1 ∧ CI (fL L e) (nL L e) d_1 k_1 v_1 ∧ jnS L c e 161 0 = jnS L c e (161 - d_1) d_1) ∧ (y4.toInt + 1).toNat + (y5.toInt + 1).toNat < ((zI ((j - 1 : Nat) : Int)).toInt + 1).toNat + ((zI ((k - 1 : Nat) : Int)).toInt + 1).toNat := by
    intro j' k' u' v' g1 g2 g3 g4 g5 y4 y5 y6 y7 e4 e5 e6 e7
    refine ⟨⟨d + t, j', k', u', v', rfl, e4, e5, e6, e7, by omega, by omega, g4, g5, hjn.trans hch⟩, ?_⟩
    rw [e4, e5, zI_t (by omega) (by omega), zI_t (by omega) (by omega), zI_t (by omega) (by omega), zI_t (by omega) (by omega)]
    omega
  have nc := CI_nx hC hj1 hFc
  have ne := CI_nx hE hk1 hFe
  refine ⟨fun c4 => ⟨fun c5 => absurd c5 (by omega), fun c5 => ?_⟩, fun c4 => ?_⟩
  · have et : v = t := by omega
    rw [et] at ne
    refine s_nxThick oke he hk1 hkn'.1 (nx j (k - 1) (u - t) _ (by omega) (by omega) (by omega) (CI_on hC hj1 (by omega)) ne _ _ _ _ ?_ ?_ ?_ rfl)
    · exact zI_c (by omega)
    · rw [zI_m1]
    · exact zI_c (by omega)
  · have et : u = t := by omega
    rw [et] at nc
    refine s_nxThick okc hc hj1 hjn'.1 ⟨fun c5 => ?_, fun c5 => ?_⟩
    · refine nx (j - 1) k _ (v - t) (by omega) (by omega) (by omega) nc (CI_on hE hk1 (by omega)) _ _ _ _ ?_ ?_ rfl ?_
      · rw [zI_m1]
      · exact zI_c (by omega)
      · exact zI_c (by omega)
    · have et : v = t := by omega
      rw [et] at ne
      refine s_nxThick oke he hk1 hkn'.1 (nx (j - 1) (k - 1) _ _ (by omega) (by omega) (by omega) nc ne _ _ _ _ ?_ ?_ rfl rfl)
      · rw [zI_m1]
      · rw [zI_m1]
theorem x_joined (h : XR x A) {c e : Int} (h1 : -2147483648 ≤ c) (h2 : c < 2147483648) (h3 : -2147483648 ≤ e) (h4 : e < 2147483648) {Q : Int32 → Prop} (hq : Q (zI (aJoined A c e))) : wp_X11_joined x (zI c) (zI e) Q := by
  unfold aJoined at hq
  refine s_cellAt xk_29 h.1.1.1 h1 h2 (fun z => ?_) (fun c0 hc0 ec => ⟨wLP_xk xk_29 h.1.1.1 hc0, ?_⟩)
  · rw [if_neg (fun q => z q.1)] at hq
    exact s_cellAt xk_29 h.1.1.1 h3 h4 (fun _ => hq) (fun e0 he0 ee => ⟨wLP_xk xk_29 h.1.1.1 he0, hq⟩)
  refine s_cellAt xk_29 h.1.1.1 h3 h4 (fun z => by rw [if_neg (fun q => z q.2.1)] at hq; exact hq) (fun e0 he0 ee => ⟨wLP_xk xk_29 h.1.1.1 he0, ?_⟩)
  rw [zI_eq h1 h2 h3 h4]
  refine ⟨fun z => ?_, fun z => by rw [if_neg (fun q => q.2.2 z)] at hq; exact hq⟩
  rw [if_pos ⟨by omega, by omega, z⟩] at hq
  subst ec ee
  exact s_alike (L := A.1) (c := (c0 : Int)) (e := (e0 : Int)) (h.1.2.2 c0 hc0) (h.1.1.2.2 c0 hc0) (h.1.2.2 e0 he0) (h.1.1.2.2 e0 he0) hq
end ASF
