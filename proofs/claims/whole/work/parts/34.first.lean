/-! PURE PART: the first calls, by both -/
/-- a number's range: 0, or the refusal -/
def rg (x : Int32) (a b : Nat) : Nat := if x.toInt < a then 4 else if (b : Int) < x.toInt then 6 else 0
def outS (s : SG) (k : Nat) : Int32 × SG := (-(nI k), refu s k)
theorem rg_0 {x : Int32} {a b : Nat} (h : rg x a b = 0) (hb : b < 2 ^ 31) : ∃ j, a ≤ j ∧ j ≤ b ∧ x = nI j ∧ x.toInt.toNat = j := by
  unfold rg at h
  split at h
  · cases h
  · split at h
    · cases h
    · refine ⟨x.toInt.toNat, by omega, by omega, Int32.toInt_inj.mp ?_, rfl⟩
      rw [i_n (by omega)]
      omega
theorem rg_k {x : Int32} {a b : Nat} (h : ¬ rg x a b = 0) : rg x a b = 4 ∨ rg x a b = 6 := by
  unfold rg at h ⊢
  split
  · exact Or.inl rfl
  · split
    · exact Or.inr rfl
    · rename_i h1 h2; rw [if_neg h1, if_neg h2] at h; exact absurd rfl h
theorem rg_cases {x : Int32} {a b : Nat} {M : MM} {Q : Int32 → MM → Prop} (hab : a ≤ b) (hb : b < 2 ^ 31) (k0 : rg x a b = 0 → Q 0 M) (k1 : ∀ k, rg x a b = k → (k = 4 ∨ k = 6) → Q (-(nI k)) M) : (nI a ≤ x → ((x ≤ nI b → Q (0 : Int32) M) ∧ (¬ x ≤ nI b → Q (-6 : Int32) M))) ∧ (¬ nI a ≤ x → Q (-4 : Int32) M) := by
  rw [i_le, i_le, i_n (by omega), i_n hb]
  refine ⟨fun c => ⟨fun c2 => k0 ?_, fun c2 => k1 6 ?_ (Or.inr rfl)⟩, fun c => k1 4 ?_ (Or.inl rfl)⟩
  · unfold rg; rw [if_neg (by omega), if_neg (by omega)]
  · unfold rg; rw [if_neg (by omega), if_pos (by omega)]
  · unfold rg; rw [if_pos (by omega)]
theorem p4_outside {x : Int32} {a b : Nat} {M : MM} {Q : Int32 → MM → Prop} (hab : a ≤ b) (hb : b < 2 ^ 31) (k0 : rg x a b = 0 → Q 0 M) (k1 : ∀ k, rg x a b = k → (k = 4 ∨ k = 6) → Q (-(nI k)) M) : D4_outside x (nI a) (nI b) M Q := rg_cases hab hb k0 k1
theorem p5_wrongNumber {x : Int32} {a b : Nat} {M : MM} {Q : Int32 → MM → Prop} (hab : a ≤ b) (hb : b < 2 ^ 31) (k0 : rg x a b = 0 → Q 0 M) (k1 : ∀ k, rg x a b = k → (k = 4 ∨ k = 6) → Q (-(nI k)) M) : D5_wrongNumber x (nI a) (nI b) M Q := rg_cases hab hb k0 k1
theorem neg_nn {k : Nat} : -(-(nI k)) = nI k := Int32.neg_neg
/-- what a refused call does, in the class and in the model -/
theorem c_out {s : SG} {k : Nat} {M : MM} {Q : Int32 → MM → Prop} (hR : RepC s M) (hk : k < 7) (q : ∀ M', RepC (outS s k).2 M' → Hi M M' → Q (outS s k).1 M') : D4_refused (-(nI k)) M Q := p4_refused neg_nn hk hR q
theorem m_out {s : SG} {k : Nat} {M : MM} {Q : Int32 → MM → Prop} (hR : RepM s M) (hk : k < 7) (q : ∀ M', RepM (outS s k).2 M' → Lo M M' → Q (outS s k).1 M') : D5_refuse (-(nI k)) M Q := p5_refuse neg_nn hk hR q
theorem WFm {s : BV} {H : Nat} (h : WF 8 H s) : WF 10 H s := ⟨Nat.le_trans h.1 (by decide), h.2⟩
theorem isB1 : isB 1 := Or.inl rfl
theorem isB6 : isB 6 := Or.inr (Or.inl rfl)
theorem neg46 {k : Nat} (h : k = 4 ∨ k = 6) : (¬ -(nI k) = 0) ∧ (¬ 0 ≤ -(nI k)) ∧ k < 7 := by rcases h with rfl | rfl <;> decide
/-- LEVEL -/
def levelS (s : SG) (x : Int32) : Int32 × SG := if rg x 0 60 = 0 then (nI (lev (bH (sB s) + x.toInt.toNat)), s) else outS s (rg x 0 60)
theorem c_level {s : SG} {x : Int32} {M : MM} {Q : Int32 → MM → Prop} (hR : RepC s M) (q : ∀ M', RepC (levelS s x).2 M' → Hi M M' → Q (levelS s x).1 M') : D4_level x M Q := by
  unfold D4_level
  refine p4_outside (a := 0) (b := 60) (by decide) (by decide) (fun h => ?_) (fun k h hk => ?_)
  · refine ⟨fun _ => ?_, fun z => absurd rfl z⟩
    obtain ⟨j, -, hj, hx, hxn⟩ := rg_0 h (by decide)
    have hh := hR.2.1.2.2.2.1
    rw [hR.1.2.2.1, hx, nI_add]
    refine p3_height (by omega) ?_
    have := q M
    rw [show levelS s x = (nI (lev (bH (sB s) + x.toInt.toNat)), s) from if_pos h, hxn] at this
    exact this hR Hi.rf
  · obtain ⟨n1, n2, n3⟩ := neg46 hk
    refine ⟨fun z => absurd z n1, fun _ => c_out hR n3 ?_⟩
    rw [show levelS s x = outS s k from by unfold levelS; rw [h, if_neg (by omega)]] at q
    exact q
theorem m_level {s : SG} {x : Int32} {M : MM} {Q : Int32 → MM → Prop} (hR : RepM s M) (q : ∀ M', RepM (levelS s x).2 M' → Lo M M' → Q (levelS s x).1 M') : D5_level x M Q := by
  unfold D5_level
  have hR1 := hR.thrown (x := 0)
  have hL : Lo M (up M 62 9 0) := fun p hp => up_p (by omega)
  refine p5_wrongNumber (a := 0) (b := 60) (by decide) (by decide) (fun h => ?_) (fun k h hk => ?_)
  · refine ⟨fun _ => ?_, fun z => absurd (by decide) z⟩
    obtain ⟨j, -, hj, hx, hxn⟩ := rg_0 h (by decide)
    have hh := hR.2.1.2.2.2.1
    rw [hR1.1.2.2.2.1, hx, nI_add]
    refine p5_levelAt (by omega) ?_
    have := q (up M 62 9 0)
    rw [show levelS s x = (nI (lev (bH (sB s) + x.toInt.toNat)), s) from if_pos h, hxn] at this
    exact this hR1 hL
  · obtain ⟨n1, n2, n3⟩ := neg46 hk
    refine ⟨fun z => absurd z n2, fun _ => m_out hR1 n3 (fun M' a b => ?_)⟩
    rw [show levelS s x = outS s k from by unfold levelS; rw [h, if_neg (by omega)]] at q
    exact q M' a (hL.tr b)
/-- n hours in mind -/
theorem c_inMind {s : SG} {n : Nat} {M : MM} {Q : MM → Prop} (hR : RepC s M) (hn : n ≤ 60) (q : ∀ M', RB 6 (hrs (sB s) n) M' → FrC M M' → Q M') : D4_inMind (nI n) M Q := by
  unfold D4_inMind
  refine p0_becomes isB6 isB1 (by decide) (WFm hR.2.1) hR.1 (fun M1 h1 f1 => ?_)
  refine p0_goesOn isB6 (WFm hR.2.1) (by omega) (by omega) h1 (fun M2 h2 f2 => q M2 h2 ((FrC.of6' f1).tr (FrC.of6 f2)))
theorem m_wetNow {B : BV} {H : Nat} {M : MM} {Q : Int32 → MM → Prop} (hw : WF 10 H B) (hH : H < 2 ^ 30) (hR : RM B M) (q : ∀ M', RM B M' → FrL M M' → Q (nI (wet B (lev (bH B)))) M') : D5_wetNow M Q := by
  unfold D5_wetNow
  rw [hR.2.2.2.1]
  refine p5_levelAt (Nat.lt_of_le_of_lt hw.2.2.2.1 hH) (p5_layWet (lev_le _) hw hR (fun M' h f => ?_))
  rw [h]
  exact q M' (hR.lay f) f
/-- WET -/
def wetS (s : SG) (x : Int32) : Int32 × SG := if rg x 0 60 = 0 then (nI (wet (hrs (sB s) x.toInt.toNat) (lev (bH (hrs (sB s) x.toInt.toNat)))), s) else outS s (rg x 0 60)
theorem c_wet {s : SG} {x : Int32} {M : MM} {Q : Int32 → MM → Prop} (hR : RepC s M) (q : ∀ M', RepC (wetS s x).2 M' → Hi M M' → Q (wetS s x).1 M') : D4_wet x M Q := by
  unfold D4_wet
  refine p4_outside (a := 0) (b := 60) (by decide) (by decide) (fun h => ?_) (fun k h hk => ?_)
  · refine ⟨fun _ => ?_, fun z => absurd rfl z⟩
    obtain ⟨j, -, hj, hx, hxn⟩ := rg_0 h (by decide)
    rw [show wetS s x = (nI (wet (hrs (sB s) j) (lev (bH (hrs (sB s) j)))), s) from by unfold wetS; rw [if_pos h, hxn]] at q
    rw [hx]
    refine c_inMind hR hj (fun M1 h1 f1 => ?_)
    refine p0_wetNow isB6 h1 (H := 999 + j) (by omega) (hrs_wf (WFm hR.2.1) j) (q M1 (hR.mind f1) f1.hi)
  · obtain ⟨n1, n2, n3⟩ := neg46 hk
    refine ⟨fun z => absurd z n1, fun _ => c_out hR n3 ?_⟩
    rw [show wetS s x = outS s k from by unfold wetS; rw [h, if_neg (by omega)]] at q
    exact q
theorem m_wet {s : SG} {x : Int32} {M : MM} {Q : Int32 → MM → Prop} (hR : RepM s M) (q : ∀ M', RepM (wetS s x).2 M' → Lo M M' → Q (wetS s x).1 M') : D5_wet x M Q := by
  unfold D5_wet
  have hR1 := hR.thrown (x := 0)
  have hL : Lo M (up M 62 9 0) := fun p hp => up_p (by omega)
  refine p5_wrongNumber (a := 0) (b := 60) (by decide) (by decide) (fun h => ?_) (fun k h hk => ?_)
  · refine ⟨fun _ => ?_, fun z => absurd (by decide) z⟩
    obtain ⟨j, -, hj, hx, hxn⟩ := rg_0 h (by decide)
    rw [show wetS s x = (nI (wet (hrs (sB s) j) (lev (bH (hrs (sB s) j)))), s) from by unfold wetS; rw [if_pos h, hxn]] at q
    rw [hx]
    refine p5_think hR1.2.1 hR1.1 (fun M1 h1 t1 f1 => ?_)
    have g1 := FrT75.M f1
    refine p5_goHours (WFm hR1.2.1) (by omega) (by omega) (by rw [g1.2.1]; exact hR1.2.2.2.2.2.2.2) h1 (fun M2 h2 f2 => ?_)
    have t2 := t1.cong (f2.1 75 (by decide) (by decide) (by decide) (by decide) (by decide))
    refine m_wetNow (H := 999 + j) (hrs_wf (WFm hR1.2.1) j) (by omega) h2 (fun M3 h3 f3 => ?_)
    have t3 := t2.cong (f3.1 75 (by decide) (by decide) (by decide))
    refine p5_again hR1.2.1 t3 (fun M4 h4 _ f4 => ?_)
    have g := ((g1.tr f2.M).tr f3.M).tr (FrT75.M f4)
    exact q M4 (hR1.mind g h4) (hL.tr g.1)
  · obtain ⟨n1, n2, n3⟩ := neg46 hk
    refine ⟨fun z => absurd z n2, fun _ => m_out hR1 n3 (fun M' a b => ?_)⟩
    rw [show wetS s x = outS s k from by unfold wetS; rw [h, if_neg (by omega)]] at q
    exact q M' a (hL.tr b)
