/-! ===== the class's lakes ===== -/
theorem s_within {p a b : Int} (h1 : -2147483648 ≤ p) (h2 : p < 2147483648) (h3 : -2147483648 ≤ a) (h4 : a < 2147483648) (h5 : -2147483648 ≤ b) (h6 : b < 2147483648) {Q : Int32 → Prop} (hy : a ≤ p ∧ p ≤ b → Q (zI 1)) (hn : ¬ (a ≤ p ∧ p ≤ b) → Q (zI 0)) : wp_X11_within (zI p) (zI a) (zI b) Q := by
  refine ⟨fun c => hn ?_, fun c => ⟨fun c2 => hn ?_, fun c2 => hy ?_⟩⟩ <;> (try rw [zI_lt (by omega) (by omega) (by omega) (by omega)] at c) <;> (try rw [zI_lt (by omega) (by omega) (by omega) (by omega)] at c2) <;> omega
/-- lake g's cells are its own, each once -/
def wLP (x : XS) (g : Nat) : Prop := (∀ c, c < 6 → ∃ j, j < 6 ∧ x.2.2 (g + 1) c = g + 2 + 7 * j) ∧ ∀ c d, c < 6 → d < 6 → x.2.2 (g + 1) c = x.2.2 (g + 1) d → c = d
theorem xk_pool : ∀ g, g < 161 → xtag g = 6 → ∀ j, j < 6 → g + 2 + 7 * j < 161 ∧ xtag (g + 2 + 7 * j) = 2 := by decide +kernel
theorem xk_lake : ∀ g, g < 161 → xtag g = 6 → g = 29 ∨ g = 73 ∨ g = 117 := by decide +kernel
def lOK (w : Nat) (N : Nat → Nat) (K O W F : Nat → Nat → Nat) : Prop := w ≤ 99 ∧ ∀ c, c < 6 → cOK (N c) (K c) (O c) (W c) (F c)
def wLX (x : XS) (g w : Nat) (N : Nat → Nat) (K O W F : Nat → Nat → Nat) : Prop := wLP x g ∧ x.1 g 2 = zI w ∧ ∀ c, c < 6 → CX x (x.2.2 (g + 1) c) (N c) (K c) (O c) (W c) (F c)
/-- all but lake g stays -/
def XG (x x' : XS) (g : Nat) : Prop := (∀ i k, ¬ (g ≤ i ∧ i < g + 44) → x'.1 i k = x.1 i k) ∧ (∀ t, ¬ (g ≤ t ∧ t < g + 44) → x'.2.1 t = x.2.1 t) ∧ (∀ t, ¬ (g ≤ t ∧ t < g + 44) → x'.2.2 t = x.2.2 t)
theorem XG_rf (x : XS) (g : Nat) : XG x x g := ⟨fun _ _ _ => rfl, fun _ _ => rfl, fun _ _ => rfl⟩
theorem XG_tr {x y z : XS} {g : Nat} (h1 : XG x y g) (h2 : XG y z g) : XG x z g := ⟨fun i k h => (h2.1 i k h).trans (h1.1 i k h), fun t h => (h2.2.1 t h).trans (h1.2.1 t h), fun t h => (h2.2.2 t h).trans (h1.2.2 t h)⟩
theorem XG_F {x x' : XS} {g b : Nat} (h1 : g ≤ b) (h2 : b + 6 < g + 44) (h : XF x x' b) : XG x x' g := ⟨fun i k hi => h.2.1 i k (by omega), fun t ht => h.2.2 t (by omega), fun t _ => by rw [h.1]⟩
def upc {α : Type} (f : Nat → α) (c : Nat) (v : α) : Nat → α := fun d => if d = c then v else f d
section wLXS
variable {x : XS} {g w : Nat} {N : Nat → Nat} {K O W F : Nat → Nat → Nat}
theorem wLP_xk (hg : xk g 6) (h : wLP x g) {c : Nat} (hc : c < 6) : xk (x.2.2 (g + 1) c) 2 := by
  obtain ⟨j, hj, e⟩ := h.1 c hc
  rw [e]
  exact xk_pool g hg.1 hg.2 j hj
theorem wLP_in (h : wLP x g) {c : Nat} (hc : c < 6) : g + 2 ≤ x.2.2 (g + 1) c ∧ x.2.2 (g + 1) c + 6 < g + 44 := by
  obtain ⟨j, hj, e⟩ := h.1 c hc
  omega
/-- a cell of the lake, as the code takes it -/
theorem wl_cell (hg : xk g 6) (h : wLP x g) {c : Nat} (hc : c < 6) {P : Nat → Prop} (hP : P (x.2.2 (g + 1) c)) : vp_in (zI (c : Int)) 6 ∧ ∀ o : Nat, o = x.2.2 (g + 1) (Int32.toNatClampNeg (zI (c : Int))) → xk o 2 ∧ P o := by
  refine ⟨zI_in (by omega) (by omega) (by omega), fun o ho => ?_⟩
  rw [zI_clN (by omega)] at ho
  subst ho
  exact ⟨wLP_xk hg h hc, hP⟩
theorem s_cellAt (hg : xk g 6) (h : wLP x g) {z : Int} (h1 : -2147483648 ≤ z) (h2 : z < 2147483648) {Q : Option Nat → Prop} (hn : ¬ (0 ≤ z ∧ z < 6) → Q none) (hy : ∀ c : Nat, c < 6 → z = c → Q (some (x.2.2 (g + 1) c))) : wp_X6_cellAt x g (zI z) Q := by
  refine s_within (a := 0) (b := 5) h1 h2 (by omega) (by omega) (by omega) (by omega) (fun c => ?_) (fun c => ?_)
  · obtain ⟨c0, rfl⟩ : ∃ c0 : Nat, z = c0 := ⟨z.toNat, by omega⟩
    refine ⟨fun q => absurd q (by decide), fun _ => wl_cell (P := fun o => Q (some o)) hg h (by omega) (hy c0 (by omega) rfl)⟩
  · exact ⟨fun _ => hn (by omega), fun q => absurd rfl q⟩
/-- a sum over the cells -/
theorem wl_sum (hg : xk g 6) (h : wLP x g) (f : Nat → Nat) (hf : ∀ c, c < 6 → f c ≤ 1000) (body : Nat → (Int32 → Prop) → Prop) (hb : ∀ c, c < 6 → ∀ Q : Int32 → Prop, Q (zI (f c)) → body (x.2.2 (g + 1) c) Q) {Q : Int32 → Prop} (hq : Q (zI (sg f 6))) :
    ∃ (I : Int32 → Int32 → Prop) (U : Int32 → Int32 → Nat), I 0 0 ∧ ∀ (y1 : Int32) (y2 : Int32), I y1 y2 → ((6 ≤ y2 → Q y1) ∧ (¬ 6 ≤ y2 → (vp_in y2 6 ∧ ∀ o3 : Nat, o3 = x.2.2 (g + 1) (Int32.toNatClampNeg y2) → xk o3 2 ∧ body o3 (fun r4 : Int32 => I (y1 + r4) (y2 + 1) ∧ U (y1 + r4) (y2 + 1) < U y1 y2)))) := by
  refine ⟨fun y1 y2 => ∃ c : Nat, c ≤ 6 ∧ y2 = zI c ∧ y1 = zI (sg f c), fun _ y2 => 7 - y2.toInt.toNat, ⟨0, by omega, rfl, rfl⟩, ?_⟩
  rintro y1 y2 ⟨c, hc, rfl, rfl⟩
  rw [show (6 : Int32) = zI 6 from rfl, zI_le (by omega) (by omega) (by omega) (by omega)]
  refine ⟨fun q => ?_, fun q => ?_⟩
  · have e : c = 6 := by omega
    subst e; exact hq
  · refine wl_cell hg h (P := fun o => body o _) (by omega) (hb c (by omega) _ ⟨⟨c + 1, by omega, zI_p1 c, ?_⟩, mup 7 (by omega) (by omega) (by omega)⟩)
    rw [zI_add, sg_s]; exact zI_c (by omega)
theorem s_allLayers (hg : xk g 6) (ok : lOK w N K O W F) (h : wLX x g w N K O W F) {Q : Int32 → Prop} (hq : Q (zI (sg N 6))) : wp_X6_allLayers x g Q :=
  wl_sum hg h.1 N (fun c hc => Nat.le_trans (ok.2 c hc).1 (by omega)) (fun o Q => Q (x.1 o 6)) (fun c hc Q hQ => by show Q (x.1 _ 6); rw [(h.2.2 c hc).1]; exact hQ) hq
theorem s_allIce (hg : xk g 6) (ok : lOK w N K O W F) (h : wLX x g w N K O W F) {Q : Int32 → Prop} (hq : Q (zI (sg (fun c => sg (F c) (N c)) 6))) : wp_X6_allIce x g Q :=
  wl_sum hg h.1 (fun c => sg (F c) (N c)) (fun c hc => Nat.le_trans (sgF (ok.2 c hc) (Nat.le_refl _)).2 (by omega)) (wp_X2_ice x) (fun c hc Q hQ => s_ice (ok.2 c hc) (h.2.2 c hc) hQ) hq
theorem sg_cnt (p : Nat → Bool) (n : Nat) : sg (cnt p) n ≤ n := by
  have := sg_le (f := cnt p) (c := 1) (n := n) (fun i _ => by unfold cnt; split <;> omega)
  omega
theorem sg_uno (W : Nat → Nat) (n : Nat) : sg (uno W) n ≤ n := by
  have := sg_le (f := uno W) (c := 1) (n := n) (fun i _ => by unfold uno; split <;> omega)
  omega
theorem s_allReadable (hg : xk g 6) (ok : lOK w N K O W F) (h : wLX x g w N K O W F) {Q : Int32 → Prop} (hq : Q (zI (sg (fun c => sg (cnt (rdb (K c) (O c) (F c) (N c))) (N c)) 6))) : wp_X6_allReadable x g Q :=
  wl_sum hg h.1 (fun c => sg (cnt (rdb (K c) (O c) (F c) (N c))) (N c)) (fun c hc => Nat.le_trans (sg_cnt _ _) (Nat.le_trans (ok.2 c hc).1 (by omega))) (wp_X2_readableLayers x) (fun c hc Q hQ => s_readable (ok.2 c hc) (h.2.2 c hc) hQ) hq
theorem s_allUnordered (hg : xk g 6) (ok : lOK w N K O W F) (h : wLX x g w N K O W F) {Q : Int32 → Prop} (hq : Q (zI (sg (fun c => sg (uno (W c)) (N c - 1)) 6))) : wp_X6_allUnordered x g Q :=
  wl_sum hg h.1 (fun c => sg (uno (W c)) (N c - 1)) (fun c hc => Nat.le_trans (sg_uno _ _) (Nat.le_trans (Nat.sub_le _ _) (Nat.le_trans (ok.2 c hc).1 (by omega)))) (wp_X2_unorderedPairs x) (fun c hc Q hQ => s_unordered (ok.2 c hc) (h.2.2 c hc) hQ) hq
/-- an oath there is -/
def isO (N : Nat → Nat) (O : Nat → Nat → Nat) (k : Nat) (o : Nat) : Prop := ∃ c i, c < k ∧ i < N c ∧ O c i = o
theorem s_allOaths (hg : xk g 6) (ok : lOK w N K O W F) (h : wLX x g w N K O W F) {Q : Int32 → Prop} (hq : ∀ m : Nat, Msk m (isO N O 6) → Q (zI m)) : wp_X6_allOaths x g Q := by
  refine ⟨fun y1 y2 => ∃ c m : Nat, c ≤ 6 ∧ y2 = zI c ∧ y1 = zI m ∧ Msk m (isO N O c), fun _ y2 => 7 - y2.toInt.toNat, ⟨0, 0, by omega, rfl, rfl, Msk_iff Msk_0 (fun o => ⟨fun z => z.elim, fun ⟨c, i, h1, _⟩ => by omega⟩)⟩, ?_⟩
  rintro y1 y2 ⟨c, m, hc, rfl, rfl, hm⟩
  rw [show (6 : Int32) = zI 6 from rfl, zI_le (by omega) (by omega) (by omega) (by omega)]
  refine ⟨fun q => ?_, fun q => ?_⟩
  · have e : c = 6 := by omega
    subst e; exact hq m hm
  · refine wl_cell hg h.1 (P := fun o => wp_X2_oaths x o _) (by omega) (s_oaths (ok.2 c (by omega)) (h.2.2 c (by omega)) (fun k hk => ?_))
    rw [zI_or]
    refine ⟨⟨c + 1, _, by omega, zI_p1 c, rfl, Msk_iff (Msk_or2 hm hk) (fun o => ⟨?_, ?_⟩)⟩, mup 7 (by omega) (by omega) (by omega)⟩
    · rintro (⟨d, i, h1, h2, h3⟩ | ⟨i, h2, h3⟩)
      · exact ⟨d, i, by omega, h2, h3⟩
      · exact ⟨c, i, by omega, h2, h3⟩
    · rintro ⟨d, i, h1, h2, h3⟩
      by_cases e : d = c
      · subst e; exact Or.inr ⟨i, h2, h3⟩
      · exact Or.inl ⟨d, i, by omega, h2, h3⟩
/-- is there in cell c a layer of that oath behind so many days? -/
def kpo (N : Nat → Nat) (K O F : Nat → Nat → Nat) (o d c : Nat) : Prop := ∃ i, i < N c ∧ O c i = o ∧ d < sg (dys (K c) (O c) (F c)) (N c) - sg (dys (K c) (O c) (F c)) i
theorem s_cellsWith (hg : xk g 6) (ok : lOK w N K O W F) (h : wLX x g w N K O W F) {o d : Nat} (ho : o < 10) (hd : d ≤ 1000) {Q : Int32 → Prop} (hq : ∀ m : Nat, Msk m (fun c => c < 6 ∧ kpo N K O F o d c) → Q (zI m)) : wp_X6_cellsWith x g (zI o) (zI d) Q := by
  refine ⟨fun y1 y2 => ∃ c m : Nat, c ≤ 6 ∧ y2 = zI c ∧ y1 = zI m ∧ Msk m (fun a => a < c ∧ kpo N K O F o d a), fun _ y2 => 7 - y2.toInt.toNat, ⟨0, 0, by omega, rfl, rfl, Msk_iff Msk_0 (fun o => ⟨fun z => z.elim, fun ⟨h1, _⟩ => by omega⟩)⟩, ?_⟩
  rintro y1 y2 ⟨c, m, hc, rfl, rfl, hm⟩
  rw [show (6 : Int32) = zI 6 from rfl, zI_le (by omega) (by omega) (by omega) (by omega)]
  refine ⟨fun q => ?_, fun q => ?_⟩
  · have e : c = 6 := by omega
    subst e; exact hq m hm
  · refine wl_cell hg h.1 (P := fun o3 => wp_X2_keepsOath x o3 _ _ _) (by omega) (s_keepsOath (ok.2 c (by omega)) (h.2.2 c (by omega)) ho hd (fun hy => ?_) (fun hn => ?_))
    · refine ⟨fun z => absurd z (by decide), fun _ => ?_⟩
      rw [zI_shl (by omega), zI_or]
      refine ⟨⟨c + 1, _, by omega, zI_p1 c, rfl, Msk_iff (Msk_or hm) (fun a => ⟨?_, ?_⟩)⟩, mup 7 (by omega) (by omega) (by omega)⟩
      · rintro (⟨h1, h2⟩ | rfl)
        · exact ⟨by omega, h2⟩
        · exact ⟨by omega, hy⟩
      · rintro ⟨h1, h2⟩
        by_cases e : a = c
        · exact Or.inr e
        · exact Or.inl ⟨by omega, h2⟩
    · refine ⟨fun _ => ?_, fun z => absurd rfl z⟩
      refine ⟨⟨c + 1, m, by omega, zI_p1 c, rfl, Msk_iff hm (fun a => ⟨fun ⟨h1, h2⟩ => ⟨by omega, h2⟩, fun ⟨h1, h2⟩ => ⟨?_, h2⟩⟩)⟩, mup 7 (by omega) (by omega) (by omega)⟩
      by_cases e : a = c
      · subst e; exact absurd h2 hn
      · omega
end wLXS
