/-! PURE PART: mended, best, dredge -/
def mendK (s : SG) (x y : Int32) : Nat := if inN x (bN (sB s)) = true then rg y 0 60 else 1
def mendedS (s : SG) (x y : Int32) : Int32 × SG := if mendK s x y = 0 then (nI (bP (hrs (bWear (sB s) x.toInt.toNat 0) y.toInt.toNat)) - nI (bP (hrs (sB s) y.toInt.toNat)), s) else (1000000000 - (-(nI (mendK s x y))), refu s (mendK s x y))
theorem c_mended {s : SG} {x y : Int32} {M : MM} {Q : Int32 → MM → Prop} (hR : RepC s M) (q : ∀ M', RepC (mendedS s x y).2 M' → Hi M M' → Q (mendedS s x y).1 M') : D4_mended x y M Q := by
  unfold D4_mended
  have hw := WFm hR.2.1
  have out : ∀ k, mendK s x y = k → (k = 1 ∨ k = 4 ∨ k = 6) → D4_refused (-(nI k)) M (fun r M' => Q (1000000000 - r) M') := by
    intro k h hk
    have n3 : k < 7 := by omega
    refine p4_refused neg_nn n3 hR (fun M' a b => ?_)
    rw [show mendedS s x y = (1000000000 - (-(nI k)), refu s k) from by unfold mendedS; rw [h, if_neg (by omega)]] at q
    exact q M' a b
  refine p0_knowsX hR.1.1 hw.1 ?_
  rw [b2l_n0, b2l_0]
  refine ⟨fun h => ?_, fun h => out 1 (by unfold mendK; rw [h]; rfl) (Or.inl rfl)⟩
  obtain ⟨j, hj, hx, hxn⟩ := inN_0 h (Nat.le_trans hw.1 (by decide))
  have hk : mendK s x y = rg y 0 60 := if_pos h
  refine p4_outside (a := 0) (b := 60) (by decide) (by decide) (fun h2 => ?_) (fun k h2 hk2 => ?_)
  · refine ⟨fun _ => ?_, fun z => absurd rfl z⟩
    obtain ⟨t, -, ht, hy, hyn⟩ := rg_0 h2 (by decide)
    rw [show mendedS s x y = (nI (bP (hrs (bWear (sB s) j 0) t)) - nI (bP (hrs (sB s) t)), s) from by unfold mendedS; rw [if_pos (hk.trans h2), hxn, hyn]] at q
    rw [hx, hy]
    refine c_inMind hR ht (fun M1 h1 f1 => ?_)
    dsimp only
    rw [h1.2.2.2.1]
    refine kc_becomes hR f1 (fun M2 k2 => ?_)
    refine p0_wears (x := 0) isB6 k2.1 hw.1 hj (fun M3 h3 f3 => ?_)
    have k3 : KC (bWear (sB s) j 0) M M3 := ⟨h3, k2.2.tr (fun p a _ => f3 p (by omega))⟩
    refine kc_hrs (H := 999) (hw.wear (by decide)) (by omega) (by omega) k3 (fun M4 k4 => ?_)
    rw [k4.1.2.2.2.1]
    exact q M4 (hR.mind k4.2) k4.2.hi
  · obtain ⟨n1, n2, n3⟩ := neg46 hk2
    exact ⟨fun z => absurd z n1, fun _ => out k (hk.trans h2) (Or.inr hk2)⟩
theorem m_mended {s : SG} {x y : Int32} {M : MM} {Q : Int32 → MM → Prop} (hR : RepM s M) (q : ∀ M', RepM (mendedS s x y).2 M' → Lo M M' → Q (mendedS s x y).1 M') : D5_mended x y M Q := by
  unfold D5_mended
  have hR1 := hR.thrown (x := 0)
  have hL : Lo M (up M 62 9 0) := fun p hp => up_p (by omega)
  generalize up M 62 9 0 = M1 at hR1 hL
  have hw := WFm hR1.2.1
  have hn := hw.1
  have out : ∀ k, mendK s x y = k → (k = 1 ∨ k = 4 ∨ k = 6) → D5_mended_c24 Q x y (-(nI k)) M1 := by
    intro k h hk
    have n2 : ¬ 0 ≤ -(nI k) := by rcases hk with rfl | rfl | rfl <;> decide
    refine ⟨fun z => absurd z n2, fun _ => p5_refuse neg_nn (by omega) hR1 (fun M' a b => ?_)⟩
    rw [show mendedS s x y = (1000000000 - (-(nI k)), refu s k) from by unfold mendedS; rw [h, if_neg (by omega)]] at q
    exact q M' a (hL.tr b)
  refine p5_isWork hR1.1.1 hw.1 ?_
  rw [b2l_0]
  refine ⟨fun h => out 1 (by unfold mendK; rw [h]; rfl) (Or.inl rfl), fun h => ?_⟩
  have h : inN x (bN (sB s)) = true := by simpa using h
  obtain ⟨j, hj, hx, hxn⟩ := inN_0 h (Nat.le_trans hw.1 (by decide))
  have hk : mendK s x y = rg y 0 60 := if_pos h
  refine p5_wrongNumber (a := 0) (b := 60) (by decide) (by decide) (fun h2 => ?_) (fun k h2 hk2 => out k (hk.trans h2) (Or.inr hk2))
  obtain ⟨t, -, ht, hy, hyn⟩ := rg_0 h2 (by decide)
  rw [show mendedS s x y = (nI (bP (hrs (bWear (sB s) j 0) t)) - nI (bP (hrs (sB s) t)), s) from by unfold mendedS; rw [if_pos (hk.trans h2), hxn, hyn]] at q
  rw [hx, hy]
  refine ⟨fun _ => ?_, fun z => absurd (by decide) z⟩
  refine km_think hR1 FrM.rf (fun M2 k2 => km_hrs (H := 999) hw (by omega) (by omega) k2 (fun M3 k3 => ?_))
  dsimp only
  rw [k3.1.2.1]
  refine km_again hR1.2.1 k3 (fun M4 k4 => ⟨ibc ⟨by decide, rfl⟩ rfl (show j < 10 by omega) (by decide), ?_⟩)
  rw [z_ix (show j < 2 ^ 31 by omega)]
  have k5 := k4.set (p := 66) (j := j) (x := nI 0) (by decide) (by decide) (k4.1.wear (w := j) (x := 0))
  refine km_hrs (H := 999) (hw.wear (by decide)) (by omega) (by omega) k5 (fun M6 k6 => ?_)
  rw [k6.1.2.1]
  refine km_again hR1.2.1 k6 (fun M7 k7 => ?_)
  exact q M7 (km_rep hR1 k7) (hL.tr k7.2.2.1.1)
/-- BEST -/
def bestK (s : SG) (x1 x2 x3 x4 : Int32) : Nat := if inN x1 6 = true ∧ inN x4 2 = true then (if x2.toInt < 0 ∨ x3.toInt < 0 then 4 else if 9 < x2.toInt ∨ 60 < x3.toInt ∨ bN (sB s) = 8 then 6 else 0) else 2
def bsF (B : BV) (k f n : Nat) : Nat → Int32 × Int32
  | 0 => (-9, -9)
  | c + 1 => if 0 ≤ woV B c then bsF B k f n c else if nI (bP (hrs (bBuild B k f c) n)) ≤ (bsF B k f n c).2 then bsF B k f n c else (nI c, nI (bP (hrs (bBuild B k f c) n)))
def bestV (B : BV) (k f n : Nat) (y : Int32) : Int32 := if y = 0 then (bsF B k f n 25).1 else (bsF B k f n 25).2
def bestS (s : SG) (x1 x2 x3 x4 : Int32) : Int32 × SG := if bestK s x1 x2 x3 x4 = 0 then (bestV (sB s) x1.toInt.toNat x2.toInt.toNat x3.toInt.toNat x4, s) else outS s (bestK s x1 x2 x3 x4)
theorem c_best_loop {s : SG} {k f t : Nat} {y : Int32} {M0 : MM} {Q : Int32 → MM → Prop} (hR : RepC s M0) (hb8 : bN (sB s) < 8) (hk : k < 6) (hf : f < 10) (ht : t ≤ 60) (q : ∀ M', FrC M0 M' → Q (bestV (sB s) k f t y) M') :
    ∀ (n c : Nat) (M : MM), c ≤ 25 → 25 - c < n → FrC M0 M → D4_best_c82 Q n (nI k) (nI f) (nI t) y (bsF (sB s) k f t c).1 (bsF (sB s) k f t c).2 (nI c) M := by
  have hw := WFm hR.2.1
  intro n
  induction n with
  | zero => intro c M h1 h2; omega
  | succ n ih =>
    intro c M h1 h2 hfr
    unfold D4_best_c82
    rw [show (25 : Int32) = nI 25 from rfl, z_le (by decide) (by omega)]
    refine ⟨fun z => ?_, fun z => ?_⟩
    · have e : c = 25 := by omega
      subst e
      have q := q M hfr
      unfold bestV at q
      refine ⟨fun z => ?_, fun z => ?_⟩
      · rw [if_neg z] at q; exact q
      · rw [if_pos z] at q; exact q
    · have hc : c < 25 := by omega
      have nx : ∀ M', FrC M0 M' → ∀ a b, bsF (sB s) k f t (c + 1) = (a, b) → D4_best_c156 (D4_best_c82 Q n) Q (nI k) (nI f) (nI t) y a b (nI c) M' := by
        intro M' f' a b e
        have ih := ih (c + 1) M' (by omega) (by omega) f'
        rw [e] at ih
        show D4_best_c82 Q n (nI k) (nI f) (nI t) y a b (nI c + 1) M'
        rw [nI_1]; exact ih
      refine p0_workIn isB1 hw (hR.mind hfr).1 hc ⟨fun z => ?_, fun z => ?_⟩
      · exact nx M hfr _ _ (if_pos z)
      · refine kc_becomes hR hfr (fun M1 k1 => ?_)
        refine p0_builds isB6 k1.1 hw (by omega) (fun M2 h2 f2 => ?_)
        have k2 : KC (bBuild (sB s) k f c) M0 M2 := ⟨h2, k1.2.tr (FrC.of6' f2)⟩
        refine kc_hrs (H := 999) (hw.build (by omega) hk hf hc) (by omega) (by omega) k2 (fun M3 k3 => ?_)
        rw [k3.1.2.2.2.1]
        have eb : bsF (sB s) k f t (c + 1) = if nI (bP (hrs (bBuild (sB s) k f c) t)) ≤ (bsF (sB s) k f t c).2 then bsF (sB s) k f t c else (nI c, nI (bP (hrs (bBuild (sB s) k f c) t))) := if_neg z
        refine ⟨fun z2 => ?_, fun z2 => ?_⟩
        · exact nx M3 k3.2 _ _ (by rw [eb, if_pos z2])
        · exact nx M3 k3.2 _ _ (by rw [eb, if_neg z2])
theorem c_best {s : SG} {x1 x2 x3 x4 : Int32} {M : MM} {Q : Int32 → MM → Prop} (hR : RepC s M) (q : ∀ M', RepC (bestS s x1 x2 x3 x4).2 M' → Hi M M' → Q (bestS s x1 x2 x3 x4).1 M') : D4_best x1 x2 x3 x4 M Q := by
  unfold D4_best D4_best_c18 D4_best_c33 D4_best_c64
  have hw := hR.2.1
  have hn := hw.1
  have out : ∀ k, bestK s x1 x2 x3 x4 = k → (k = 2 ∨ k = 4 ∨ k = 6) → D4_refused (-(nI k)) M Q := by
    intro k h hk
    refine c_out hR (neg246 hk).2.2 ?_
    rw [show bestS s x1 x2 x3 x4 = outS s k from by unfold bestS; rw [h, if_neg (by omega)]] at q
    exact q
  have e0 : (0 : Int32).toInt = 0 := by decide
  have e10 : (10 : Int32).toInt = 10 := by decide
  have e60 : (60 : Int32).toInt = 60 := by decide
  refine p4_isKind ?_
  rw [b2l_0]
  have hno : ¬ (inN x1 6 = true ∧ inN x4 2 = true) → D4_refused (-(nI 2)) M Q := fun h => out 2 (by unfold bestK; rw [if_neg h]) (Or.inl rfl)
  refine ⟨fun h => hno (fun z => by rw [h] at z; cases z.1), fun h => ?_⟩
  have h : inN x1 6 = true := by simpa using h
  refine what_cases (n := 1) (by decide) (fun h4 => ?_) (fun h4 => hno (fun z => by rw [h4] at z; cases z.2))
  have hK : bestK s x1 x2 x3 x4 = if x2.toInt < 0 ∨ x3.toInt < 0 then 4 else if 9 < x2.toInt ∨ 60 < x3.toInt ∨ bN (sB s) = 8 then 6 else 0 := if_pos ⟨h, h4⟩
  rw [i_lt, i_le, i_le, i_lt, e0, e10, e60, hR.1.1, show (8 : Int32) = nI 8 from rfl, z_lt (by omega) (by decide)]
  have o4 : x2.toInt < 0 ∨ x3.toInt < 0 → D4_refused (-(nI 4)) M Q := fun z => out 4 (by rw [hK, if_pos z]) (Or.inr (Or.inl rfl))
  have o6 : ¬ (x2.toInt < 0 ∨ x3.toInt < 0) → (9 < x2.toInt ∨ 60 < x3.toInt ∨ bN (sB s) = 8) → D4_refused (-(nI 6)) M Q := fun z z2 => out 6 (by rw [hK, if_neg z, if_pos z2]) (Or.inr (Or.inr rfl))
  refine ⟨fun z2 => o4 (Or.inl z2), fun z2 => ⟨fun z3 => ⟨fun z => o6 (by omega) (by omega), fun z5 => ⟨fun z => o6 (by omega) (by omega), fun z6 => ⟨fun z8 => ?_, fun z8 => o6 (by omega) (by omega)⟩⟩⟩, fun z3 => o4 (by omega)⟩⟩
  have hK0 : bestK s x1 x2 x3 x4 = 0 := by rw [hK, if_neg (by omega), if_neg (by omega)]
  obtain ⟨k, hk, hx1, hx1n⟩ := inN_0 h (by decide)
  obtain ⟨f, hf, hx2, hx2n⟩ := inN_0 (x := x2) (n := 10) (inN_t (by omega)) (by decide)
  obtain ⟨t, ht, hx3, hx3n⟩ := inN_0 (x := x3) (n := 61) (inN_t (by omega)) (by decide)
  rw [show bestS s x1 x2 x3 x4 = (bestV (sB s) k f t x4, s) from by unfold bestS; rw [if_pos hK0, hx1n, hx2n, hx3n]] at q
  rw [hx1, hx2, hx3]
  exact c_best_loop hR z8 hk hf (by omega) (fun M' f => q M' (hR.mind f) f.hi) FU 0 M (by decide) (by decide) FrC.rf
theorem m_best_loop {s : SG} {k f t : Nat} {y : Int32} {M0 : MM} {Q : Int32 → MM → Prop} (hD : DC (sB s)) (hw8 : WF 8 999 (sB s)) (hb8 : bN (sB s) < 8) (hk : k < 6) (hf : f < 10) (ht : t ≤ 60) (q : ∀ M', KM s (sB s) M0 M' → Q (bestV (sB s) k f t y) M') :
    ∀ (n c : Nat) (M : MM), c ≤ 25 → 25 - c < n → KM s (sB s) M0 M → D5_best_c110 Q n (nI k) (nI f) (nI t) y (bsF (sB s) k f t c).1 (bsF (sB s) k f t c).2 (nI c) M := by
  have hw := WFm hw8
  intro n
  induction n with
  | zero => intro c M h1 h2; omega
  | succ n ih =>
    intro c M h1 h2 hkm
    unfold D5_best_c110
    rw [show (25 : Int32) = nI 25 from rfl, z_le (by decide) (by omega)]
    refine ⟨fun z => ?_, fun z => ?_⟩
    · have e : c = 25 := by omega
      subst e
      have q := q M hkm
      unfold bestV at q
      refine ⟨fun z => ?_, fun z => ?_⟩
      · rw [if_neg z] at q; exact q
      · rw [if_pos z] at q; exact q
    · have hc : c < 25 := by omega
      have nx : ∀ M', KM s (sB s) M0 M' → ∀ a b, bsF (sB s) k f t (c + 1) = (a, b) → D5_best_c181 (D5_best_c110 Q n) Q (nI k) (nI f) (nI t) y a b (nI c) M' := by
        intro M' f' a b e
        have ih := ih (c + 1) M' (by omega) (by omega) f'
        rw [e] at ih
        show D5_best_c110 Q n (nI k) (nI f) (nI t) y a b (nI c + 1) M'
        rw [nI_1]; exact ih
      refine p5_workAt hw hD hkm.1 hc ⟨fun z => ?_, fun z => ?_⟩
      · exact nx M hkm _ _ (if_pos z)
      · refine p5_workComes hkm.1 (by omega) (fun M2 h2 f2 => ?_)
        have fr : FrM M M2 := ⟨fun p a => funext fun j => f2 p j (fun e => by omega) (by omega), f2 62 15 (fun _ => by decide) (by decide), f2 62 17 (fun _ => by decide) (by decide), f2 62 26 (fun _ => by decide) (by decide), f2 62 32 (fun _ => by decide) (by decide), f2 62 36 (fun _ => by decide) (by decide), funext fun j => f2 68 j (fun e => by omega) (by decide), funext fun j => f2 71 j (fun e => by omega) (by decide), funext fun j => f2 76 j (fun e => by omega) (by decide), funext fun j => f2 77 j (fun e => by omega) (by decide), funext fun j => f2 81 j (fun e => by omega) (by decide)⟩
        have k2 : KM s (bBuild (sB s) k f c) M0 M2 := ⟨h2, hkm.2.1.cong (funext fun j => f2 75 j (fun e => by omega) (by decide)), hkm.2.2.1.tr fr, fr.2.1.trans hkm.2.2.2⟩
        refine km_hrs (H := 999) (hw.build (by omega) hk hf hc) (by omega) (by omega) k2 (fun M3 k3 => ?_)
        rw [k3.1.2.1]
        have eb : bsF (sB s) k f t (c + 1) = if nI (bP (hrs (bBuild (sB s) k f c) t)) ≤ (bsF (sB s) k f t c).2 then bsF (sB s) k f t c else (nI c, nI (bP (hrs (bBuild (sB s) k f c) t))) := if_neg z
        unfold D5_best_c155 D5_best_c175
        rw [k3.1.2.1]
        refine ⟨fun z2 => ⟨fun _ => ?_, fun z3 => absurd z2 z3⟩, fun z2 => ⟨fun z3 => absurd z3 z2, fun _ => ?_⟩⟩
        · exact km_again hw8 k3 (fun M4 k4 => nx M4 k4 _ _ (by rw [eb, if_pos z2]))
        · exact km_again hw8 k3 (fun M4 k4 => nx M4 k4 _ _ (by rw [eb, if_neg z2]))
theorem m_best {s : SG} {x1 x2 x3 x4 : Int32} {M : MM} {Q : Int32 → MM → Prop} (hD : DC (sB s)) (hR : RepM s M) (q : ∀ M', RepM (bestS s x1 x2 x3 x4).2 M' → Lo M M' → Q (bestS s x1 x2 x3 x4).1 M') : D5_best x1 x2 x3 x4 M Q := by
  unfold D5_best
  have hR1 := hR.thrown (x := 0)
  have hL : Lo M (up M 62 9 0) := fun p hp => up_p (by omega)
  generalize up M 62 9 0 = M1 at hR1 hL
  have hw := hR1.2.1
  have hn := hw.1
  have out : ∀ k, bestK s x1 x2 x3 x4 = k → (k = 2 ∨ k = 4 ∨ k = 6) → D5_best_c83 Q x1 x2 x3 x4 (-(nI k)) M1 := by
    intro k h hk
    refine ⟨fun z => absurd z (neg246 hk).2.1, fun _ => m_out hR1 (neg246 hk).2.2 (fun M' a b => ?_)⟩
    rw [show bestS s x1 x2 x3 x4 = outS s k from by unfold bestS; rw [h, if_neg (by omega)]] at q
    exact q M' a (hL.tr b)
  have e0 : (0 : Int32).toInt = 0 := by decide
  have e9 : (9 : Int32).toInt = 9 := by decide
  have e60 : (60 : Int32).toInt = 60 := by decide
  have hno : ¬ (inN x1 6 = true ∧ inN x4 2 = true) → D5_best_c32 Q x1 x2 x3 x4 M1 := fun h =>
    ⟨fun _ => ⟨fun _ => out 2 (by unfold bestK; rw [if_neg h]) (Or.inl rfl), fun z => absurd z (by decide)⟩, fun z => absurd z (by decide)⟩
  refine p5_inL (a := 0) (n := 5) (by decide) (by decide) ?_
  rw [b2l_0]
  refine ⟨fun h => hno (fun z => by rw [h] at z; cases z.1), fun h => ?_⟩
  have h : inN x1 6 = true := by simpa using h
  refine p5_inL (a := 0) (n := 1) (by decide) (by decide) ?_
  rw [b2l_0]
  refine ⟨fun h4 => hno (fun z => by rw [h4] at z; cases z.2), fun h4 => ?_⟩
  have h4 : inN x4 2 = true := by simpa using h4
  have hK : bestK s x1 x2 x3 x4 = if x2.toInt < 0 ∨ x3.toInt < 0 then 4 else if 9 < x2.toInt ∨ 60 < x3.toInt ∨ bN (sB s) = 8 then 6 else 0 := if_pos ⟨h, h4⟩
  have o4 : x2.toInt < 0 ∨ x3.toInt < 0 → D5_best_c49 Q x1 x2 x3 x4 M1 := fun z => ⟨fun _ => out 4 (by rw [hK, if_pos z]) (Or.inr (Or.inl rfl)), fun z => absurd z (by decide)⟩
  have go : ¬ (x2.toInt < 0 ∨ x3.toInt < 0) → D5_best_c53 Q x1 x2 x3 x4 0 M1 := by
    intro z
    have o6 : (9 < x2.toInt ∨ 60 < x3.toInt ∨ bN (sB s) = 8) → D5_best_c79 Q x1 x2 x3 x4 M1 := fun z2 => out 6 (by rw [hK, if_neg z, if_pos z2]) (Or.inr (Or.inr rfl))
    unfold D5_best_c53
    rw [i_lt, i_lt, e9, e60, hR1.1.1, show (8 : Int32) = nI 8 from rfl]
    simp only [ne_eq, z_eq (show bN (sB s) < 2 ^ 31 by omega) (show 8 < 2 ^ 31 by decide)]
    refine ⟨fun y => absurd trivial y, fun _ => ⟨fun y => o6 (Or.inl y), fun z5 => ⟨fun y => o6 (Or.inr (Or.inl y)), fun z6 => ⟨fun z8 => ?_, fun y => o6 (Or.inr (Or.inr y))⟩⟩⟩⟩
    have hK0 : bestK s x1 x2 x3 x4 = 0 := by rw [hK, if_neg (by omega), if_neg (by omega)]
    obtain ⟨k, hk, hx1, hx1n⟩ := inN_0 h (by decide)
    obtain ⟨f, hf, hx2, hx2n⟩ := inN_0 (x := x2) (n := 10) (inN_t (by omega)) (by decide)
    obtain ⟨t, ht, hx3, hx3n⟩ := inN_0 (x := x3) (n := 61) (inN_t (by omega)) (by decide)
    rw [show bestS s x1 x2 x3 x4 = (bestV (sB s) k f t x4, s) from by unfold bestS; rw [if_pos hK0, hx1n, hx2n, hx3n]] at q
    rw [hx1, hx2, hx3]
    refine ⟨fun _ => ?_, fun y => absurd (by decide) y⟩
    refine km_think hR1 FrM.rf (fun M2 k2 => ?_)
    exact m_best_loop hD hw (by omega) hk hf (by omega) (fun M' k => q M' (km_rep hR1 k) (hL.tr k.2.2.1.1)) FU 0 M2 (by decide) (by decide) k2
  unfold D5_best_c34
  rw [i_lt, i_le, e0]
  refine ⟨fun y => absurd rfl y, fun _ => ⟨fun y => o4 (Or.inl y), fun y2 => ⟨fun y3 => go (by omega), fun y => o4 (by omega)⟩⟩⟩
/-- DREDGE -/
def byF (B : BV) (n : Nat) : Int32 := nI (bP (hrs B n)) - nI (bO (hrs B n))
def drF (B : BV) (n : Nat) : Nat → Int32 × Int32
  | 0 => (-9, byF B n)
  | w + 1 => if bS B w = true ∧ ¬ byF (bLose B w) n ≤ (drF B n w).2 then (nI w, byF (bLose B w) n) else drF B n w
def dredgeS (s : SG) (x : Int32) : Int32 × SG := if rg x 0 60 = 0 then ((drF (sB s) x.toInt.toNat 8).1, s) else outS s (rg x 0 60)
theorem lose_no {B : BV} {w : Nat} (h : bS B w = false) : bLose B w = B := by
  have : (fun j => if j = w then false else bS B j) = bS B := funext fun j => by
    by_cases y : j = w
    · rw [if_pos y, y, h]
    · rw [if_neg y]
  unfold bLose
  rw [this]
theorem drF_ge (B : BV) (n : Nat) : ∀ w, byF B n ≤ (drF B n w).2
  | 0 => Int32.le_refl _
  | w + 1 => by
    have ih := drF_ge B n w
    unfold drF
    split
    · rename_i h
      rw [i_le] at ih ⊢
      have h2 := h.2
      rw [i_le] at h2
      show (byF B n).toInt ≤ (byF (bLose B w) n).toInt
      omega
    · exact ih
theorem drF_end {B : BV} {n H : Nat} (hw : WF 8 H B) : ∀ w, bN B ≤ w → drF B n w = drF B n (bN B) := by
  intro w
  induction w with
  | zero => intro h; rw [show bN B = 0 by omega]
  | succ w ih =>
    intro h
    rcases Nat.eq_or_lt_of_le h with z | z
    · rw [z]
    · have hs : bS B w = false := by
        cases e : bS B w
        · rfl
        · have := hw.2.2.1 w e; omega
      show (if bS B w = true ∧ _ then _ else _) = _
      rw [if_neg (by rw [hs]; simp), ih (by omega)]
theorem c_dredge_loop {s : SG} {t : Nat} {M0 : MM} {Q : Int32 → MM → Prop} (hR : RepC s M0) (ht : t ≤ 60) (q : ∀ M', FrC M0 M' → Q (drF (sB s) t 8).1 M') :
    ∀ (n w : Nat) (M : MM), w ≤ 8 → 8 - w < n → FrC M0 M → D4_dredge_c46 Q n (nI t) (drF (sB s) t w).2 (drF (sB s) t w).1 (nI w) M := by
  have hw := WFm hR.2.1
  intro n
  induction n with
  | zero => intro w M h1 h2; omega
  | succ n ih =>
    intro w M h1 h2 hfr
    unfold D4_dredge_c46
    rw [show (8 : Int32) = nI 8 from rfl, z_le (by decide) (by omega)]
    refine ⟨fun z => ?_, fun z => ?_⟩
    · have e : w = 8 := by omega
      subst e
      exact q M hfr
    · have nx : ∀ M', FrC M0 M' → ∀ a b, drF (sB s) t (w + 1) = (a, b) → D4_dredge_c132 (D4_dredge_c46 Q n) Q (nI t) b a (nI w) M' := by
        intro M' f' a b e
        have ih := ih (w + 1) M' (by omega) (by omega) f'
        rw [e] at ih
        show D4_dredge_c46 Q n (nI t) b a (nI w + 1) M'
        rw [nI_1]; exact ih
      refine p0_stands (hR.mind hfr).1.2.1 (by omega) ?_
      rw [b2l_0]
      refine ⟨fun e => nx M hfr _ _ (if_neg (by rw [e]; simp)), fun e => ?_⟩
      have e : bS (sB s) w = true := by simpa using e
      have hwn := hw.2.2.1 w e
      refine kc_becomes hR hfr (fun M1 k1 => ?_)
      refine p0_loses k1.1 hw.1 hwn (fun M2 h2 f2 => ?_)
      have k2 : KC (bLose (sB s) w) M0 M2 := ⟨h2, k1.2.tr (fun p a _ => f2 p (by omega))⟩
      refine kc_hrs (H := 999) hw.lose (by omega) (by omega) k2 (fun M3 k3 => ?_)
      rw [k3.1.2.2.2.1, k3.1.2.2.2.2.1]
      refine ⟨fun z2 => nx M3 k3.2 _ _ (if_neg (fun h => h.2 z2)), fun z2 => nx M3 k3.2 _ _ (if_pos ⟨e, z2⟩)⟩
theorem c_dredge {s : SG} {x : Int32} {M : MM} {Q : Int32 → MM → Prop} (hR : RepC s M) (q : ∀ M', RepC (dredgeS s x).2 M' → Hi M M' → Q (dredgeS s x).1 M') : D4_dredge x M Q := by
  unfold D4_dredge
  refine p4_outside (a := 0) (b := 60) (by decide) (by decide) (fun h => ?_) (fun k h hk => ?_)
  · refine ⟨fun _ => ?_, fun z => absurd rfl z⟩
    obtain ⟨j, -, hj, hx, hxn⟩ := rg_0 h (by decide)
    rw [show dredgeS s x = ((drF (sB s) j 8).1, s) from by unfold dredgeS; rw [if_pos h, hxn]] at q
    rw [hx]
    refine c_inMind hR hj (fun M1 h1 f1 => ?_)
    dsimp only
    rw [h1.2.2.2.1, h1.2.2.2.2.1]
    exact c_dredge_loop hR hj (fun M' f => q M' (hR.mind f) f.hi) FU 0 M1 (by decide) (by decide) f1
  · obtain ⟨n1, n2, n3⟩ := neg46 hk
    refine ⟨fun z => absurd z n1, fun _ => c_out hR n3 ?_⟩
    rw [show dredgeS s x = outS s k from by unfold dredgeS; rw [h, if_neg (by omega)]] at q
    exact q
theorem m_dredge_loop {s : SG} {t : Nat} {M0 : MM} {Q : Int32 → MM → Prop} (hw8 : WF 8 999 (sB s)) (ht : t ≤ 60) (q : ∀ M', KM s (sB s) M0 M' → Q (drF (sB s) t 8).1 M') :
    ∀ (n w : Nat) (M : MM), w ≤ bN (sB s) → bN (sB s) - w < n → KM s (sB s) M0 M → D5_dredge_c53 Q n (nI t) (drF (sB s) t w).1 (drF (sB s) t w).2 (nI w) M := by
  have hw := WFm hw8
  have hn := hw8.1
  intro n
  induction n with
  | zero => intro w M h1 h2; omega
  | succ n ih =>
    intro w M h1 h2 hk
    unfold D5_dredge_c53
    rw [hk.1.1, z_le (by omega) (by omega)]
    refine ⟨fun z => ?_, fun z => ⟨ibc ⟨by decide, rfl⟩ rfl (show w < 10 by omega) (by decide), ?_⟩⟩
    · have e : w = bN (sB s) := by omega
      rw [drF_end hw8 8 hn] at q
      rw [e]; exact q M hk
    · dsimp only
      rw [z_ix (show w < 2 ^ 31 by omega)]
      have k1 := hk.set (p := 67) (j := w) (x := nI 1) (by decide) (by decide) (hk.1.lose (w := w))
      refine km_hrs (H := 999) hw.lose (by omega) (by omega) k1 (fun M2 k2 => ?_)
      rw [k2.1.2.1, k2.1.2.2.1]
      refine km_again hw8 k2 (fun M3 k3 => ?_)
      have nx : ∀ a b, drF (sB s) t (w + 1) = (a, b) → D5_dredge_c53 Q n (nI t) a b (nI w + 1) M3 := by
        intro a b e
        have ih := ih (w + 1) M3 (by omega) (by omega) k3
        rw [e] at ih
        rw [nI_1]; exact ih
      unfold D5_dredge_c103 D5_dredge_c118
      refine ⟨fun z => ⟨fun _ => nx _ _ (if_neg (fun h => h.2 z)), fun y => absurd z y⟩, fun z => ⟨fun y => absurd y z, fun _ => ?_⟩⟩
      cases e : bS (sB s) w
      · rw [lose_no e] at z
        exact absurd (drF_ge (sB s) t w) z
      · exact nx _ _ (if_pos ⟨e, z⟩)
theorem m_dredge {s : SG} {x : Int32} {M : MM} {Q : Int32 → MM → Prop} (hR : RepM s M) (q : ∀ M', RepM (dredgeS s x).2 M' → Lo M M' → Q (dredgeS s x).1 M') : D5_dredge x M Q := by
  unfold D5_dredge
  have hR1 := hR.thrown (x := 0)
  have hL : Lo M (up M 62 9 0) := fun p hp => up_p (by omega)
  generalize up M 62 9 0 = M1 at hR1 hL
  have hw := WFm hR1.2.1
  have hn := hw.1
  refine p5_wrongNumber (a := 0) (b := 60) (by decide) (by decide) (fun h => ?_) (fun k h hk => ?_)
  · refine ⟨fun _ => ?_, fun z => absurd (by decide) z⟩
    obtain ⟨j, -, hj, hx, hxn⟩ := rg_0 h (by decide)
    rw [show dredgeS s x = ((drF (sB s) j 8).1, s) from by unfold dredgeS; rw [if_pos h, hxn]] at q
    rw [hx]
    refine km_think hR1 FrM.rf (fun M2 k2 => km_hrs (H := 999) hw (by omega) (by omega) k2 (fun M3 k3 => ?_))
    dsimp only
    rw [k3.1.2.1, k3.1.2.2.1]
    refine km_again hR1.2.1 k3 (fun M4 k4 => ?_)
    exact m_dredge_loop hR1.2.1 hj (fun M' k => q M' (km_rep hR1 k) (hL.tr k.2.2.1.1)) FU 0 M4 (Nat.zero_le _) (Nat.lt_of_le_of_lt (Nat.le_trans (Nat.sub_le _ _) hn) (by decide)) k4
  · refine ⟨fun z => absurd z (neg46 hk).2.1, fun _ => m_out hR1 (neg46 hk).2.2 (fun M' a b => ?_)⟩
    rw [show dredgeS s x = outS s k from by unfold dredgeS; rw [h, if_neg (by omega)]] at q
    exact q M' a (hL.tr b)
