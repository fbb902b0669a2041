/-! PURE PART: floods, sand, falls -/
theorem b_nf {c : Bool} (h : ¬ c = false) : c = true := by simpa using h
/-- the first of i, i+1, .. (n of them) that is so; -9 -/
def fsx (P : Nat → Bool) : Nat → Nat → Int32
  | 0, _ => -9
  | n + 1, i => if P i = true then nI i else fsx P n (i + 1)
theorem fsx_s {P : Nat → Bool} {n i : Nat} (h : i < n) : fsx P (n - i) i = if P i = true then nI i else fsx P (n - (i + 1)) (i + 1) := by
  rw [show n - i = (n - (i + 1)) + 1 by omega]; rfl
theorem fsx_or (P : Nat → Bool) : ∀ n i, (fsx P n i = -9 ∧ ∀ j, i ≤ j → j < i + n → P j = false) ∨ ∃ j, i ≤ j ∧ j < i + n ∧ P j = true ∧ (∀ t, i ≤ t → t < j → P t = false) ∧ fsx P n i = nI j
  | 0, i => Or.inl ⟨rfl, fun j h1 h2 => by omega⟩
  | n + 1, i => by
    unfold fsx
    by_cases h : P i = true
    · rw [if_pos h]
      exact Or.inr ⟨i, Nat.le_refl _, by omega, h, fun t a b => by omega, rfl⟩
    · rw [if_neg h]
      have hf : P i = false := by simpa using h
      rcases fsx_or P n (i + 1) with ⟨h1, h2⟩ | ⟨j, h1, h2, h3, h4, h5⟩
      · refine Or.inl ⟨h1, fun j a b => ?_⟩
        by_cases y : j = i
        · rw [y]; exact hf
        · exact h2 j (by omega) (by omega)
      · refine Or.inr ⟨j, by omega, by omega, h3, fun t a b => ?_, h5⟩
        by_cases y : t = i
        · rw [y]; exact hf
        · exact h4 t (by omega) b
def flP (B : BV) (c n : Nat) : Bool := (wet (hrs B n) (lev (bH (hrs B n)))).testBit c
def floodsS (s : SG) (x : Int32) : Int32 × SG := if inN x 25 = true then (fsx (flP (sB s) x.toInt.toNat) 61 0, s) else outS s 1
theorem c_floods_loop {s : SG} {c : Nat} {M0 : MM} {Q : Int32 → MM → Prop} (hw : WF 10 999 (sB s)) (hc : c < 25) (q : ∀ M', FrC M0 M' → Q (fsx (flP (sB s) c) 61 0) M') :
    ∀ (n i : Nat) (M : MM), i ≤ 61 → 61 - i < n → fsx (flP (sB s) c) (61 - i) i = fsx (flP (sB s) c) 61 0 → KC (hrs (sB s) i) M0 M → D4_floods_c26 Q n (nI c) (nI i) M := by
  intro n
  induction n with
  | zero => intro i M h1 h2; omega
  | succ n ih =>
    intro i M h1 h2 he hk
    unfold D4_floods_c26
    rw [show (60 : Int32) = nI 60 from rfl, z_lt (by decide) (by omega)]
    refine ⟨fun z => ?_, fun z => ?_⟩
    · have e : i = 61 := by omega
      subst e
      rw [← he] at q; exact q M hk.2
    · rw [fsx_s (show i < 61 by omega)] at he
      refine kc_wetNow (H := 999 + i) (hrs_wf hw i) (by omega) hk ?_
      refine p3_has (Nat.lt_trans (wet_lt _ _) (by decide)) (by omega) ?_
      rw [b2l_0]
      refine ⟨fun c2 => ?_, fun c2 => ?_⟩
      · have c2 : flP (sB s) c i = false := c2
        rw [if_neg (by rw [c2]; decide)] at he
        show D0_goesOn 6 (nI 1) M _
        refine kc_hrs (H := 999 + i) (hrs_wf hw i) (by omega) (by decide) hk (fun M' k' => ?_)
        show D4_floods_c26 Q n (nI c) (nI i + 1) M'
        rw [nI_1]
        exact ih (i + 1) M' (by omega) (by omega) he k'
      · have c2 : flP (sB s) c i = true := b_nf c2
        rw [if_pos c2] at he
        rw [he]; exact q M hk.2
theorem c_floods {s : SG} {x : Int32} {M : MM} {Q : Int32 → MM → Prop} (hR : RepC s M) (q : ∀ M', RepC (floodsS s x).2 M' → Hi M M' → Q (floodsS s x).1 M') : D4_floods x M Q := by
  unfold D4_floods
  refine p4_isCell ?_
  rw [b2l_n0, b2l_0]
  refine ⟨fun h => ?_, fun h => ?_⟩
  · obtain ⟨j, hj, hx, hxn⟩ := inN_0 h (by decide)
    rw [show floodsS s x = (fsx (flP (sB s) j) 61 0, s) from by unfold floodsS; rw [if_pos h, hxn]] at q
    rw [hx]
    refine kc_becomes hR FrC.rf (fun M1 k1 => ?_)
    exact c_floods_loop (WFm hR.2.1) hj (fun M' f => q M' (hR.mind f) f.hi) FU 0 M1 (by decide) (by decide) rfl k1
  · rw [show floodsS s x = outS s 1 from by unfold floodsS; rw [h]; rfl] at q
    exact c_out (k := 1) hR (by decide) q
theorem m_floods_loop {s : SG} {c : Nat} {M0 : MM} {Q : Int32 → MM → Prop} (hw : WF 8 999 (sB s)) (hc : c < 25) (q : ∀ M', KM s (sB s) M0 M' → Q (fsx (flP (sB s) c) 61 0) M') :
    ∀ (n i : Nat) (M : MM), i ≤ 61 → 61 - i < n → fsx (flP (sB s) c) (61 - i) i = fsx (flP (sB s) c) 61 0 → KM s (hrs (sB s) i) M0 M → D5_floods_c27 Q n (nI c) (-9) (nI i) M := by
  intro n
  induction n with
  | zero => intro i M h1 h2; omega
  | succ n ih =>
    intro i M h1 h2 he hk
    unfold D5_floods_c27
    rw [show (60 : Int32) = nI 60 from rfl, z_lt (by decide) (by omega)]
    refine ⟨fun z => ?_, fun z => ⟨fun z2 => absurd z2 (by decide), fun _ => ?_⟩⟩
    · have e : i = 61 := by omega
      subst e
      rw [← he] at q
      exact km_again hw hk (fun M' k' => q M' k')
    · rw [fsx_s (show i < 61 by omega)] at he
      refine km_wetNow (H := 999 + i) (hrs_wf (WFm hw) i) (by omega) hk (fun M1 k1 => ?_)
      refine p5_hasBit (Nat.lt_trans (wet_lt _ _) (by decide)) (by omega) ?_
      rw [b2l_0]
      refine ⟨fun c2 => ?_, fun c2 => ?_⟩
      · have c2 : flP (sB s) c i = false := c2
        rw [if_neg (by rw [c2]; decide)] at he
        show D5_hourBy (nI 0) M1 _
        refine km_hour (H := 999 + i) (hrs_wf (WFm hw) i) (by omega) (by decide) k1 (fun M2 k2 => ?_)
        show D5_floods_c27 Q n (nI c) (-9) (nI i + 1) M2
        rw [nI_1]
        exact ih (i + 1) M2 (by omega) (by omega) he k2
      · have c2 : flP (sB s) c i = true := b_nf c2
        rw [if_pos c2] at he
        obtain ⟨m, rfl⟩ : ∃ m, n = m + 1 := ⟨n - 1, by omega⟩
        show D5_hourBy (nI 0) M1 _
        refine km_hour (H := 999 + i) (hrs_wf (WFm hw) i) (by omega) (by decide) k1 (fun M2 k2 => ?_)
        have fin : D5_floods_c66 Q (nI i) M2 := km_again hw k2 (fun M' k' => by rw [he]; exact q M' k')
        exact ⟨fun _ => fin, fun _ => ⟨fun _ => fin, fun z => absurd (nI_pos' (by omega)) z⟩⟩
theorem m_floods {s : SG} {x : Int32} {M : MM} {Q : Int32 → MM → Prop} (hR : RepM s M) (q : ∀ M', RepM (floodsS s x).2 M' → Lo M M' → Q (floodsS s x).1 M') : D5_floods x M Q := by
  unfold D5_floods
  have hR1 := hR.thrown (x := 0)
  have hL : Lo M (up M 62 9 0) := fun p hp => up_p (by omega)
  generalize up M 62 9 0 = M1 at hR1 hL
  refine p5_isCell ?_
  rw [b2l_n0, b2l_0]
  refine ⟨fun h => ?_, fun h => ?_⟩
  · obtain ⟨j, hj, hx, hxn⟩ := inN_0 h (by decide)
    rw [show floodsS s x = (fsx (flP (sB s) j) 61 0, s) from by unfold floodsS; rw [if_pos h, hxn]] at q
    rw [hx]
    refine km_think hR1 FrM.rf (fun M2 k2 => ?_)
    exact m_floods_loop hR1.2.1 hj (fun M' k => q M' (km_rep hR1 k) (hL.tr k.2.2.1.1)) FU 0 M2 (by decide) (by decide) rfl k2
  · rw [show floodsS s x = outS s 1 from by unfold floodsS; rw [h]; rfl] at q
    exact m_out (k := 1) hR1 (by decide) (fun M' a b => q M' a (hL.tr b))
/-- SAND -/
def sdP (B : BV) (n : Nat) : Bool := decide (mk (bS (hrs B n)) 10 = 0)
def sandS (s : SG) : Int32 × SG := (fsx (sdP (sB s)) 61 0, s)
theorem mk10 (f : Nat → Bool) : mk f 10 < 2 ^ 31 := Nat.lt_trans (mk_lt f 10) (by decide)
theorem c_sand_loop {s : SG} {M0 : MM} {Q : Int32 → MM → Prop} (hw : WF 10 999 (sB s)) (q : ∀ M', FrC M0 M' → Q (fsx (sdP (sB s)) 61 0) M') :
    ∀ (n i : Nat) (M : MM), i ≤ 61 → 61 - i < n → fsx (sdP (sB s)) (61 - i) i = fsx (sdP (sB s)) 61 0 → KC (hrs (sB s) i) M0 M → D4_sand_c13 Q n (nI i) M := by
  intro n
  induction n with
  | zero => intro i M h1 h2; omega
  | succ n ih =>
    intro i M h1 h2 he hk
    unfold D4_sand_c13
    rw [show (60 : Int32) = nI 60 from rfl, z_lt (by decide) (by omega), hk.1.2.1, show (0 : Int32) = nI 0 from rfl]
    simp only [ne_eq, z_eq (mk10 _) (show 0 < 2 ^ 31 by decide)]
    refine ⟨fun z => ?_, fun z => ⟨fun c2 => ?_, fun c2 => ?_⟩⟩
    · have e : i = 61 := by omega
      subst e
      rw [← he] at q; exact q M hk.2
    · rw [fsx_s (show i < 61 by omega), if_neg (by unfold sdP; simpa using c2)] at he
      show D0_goesOn 6 (nI 1) M _
      refine kc_hrs (H := 999 + i) (hrs_wf hw i) (by omega) (by decide) hk (fun M' k' => ?_)
      show D4_sand_c13 Q n (nI i + 1) M'
      rw [nI_1]
      exact ih (i + 1) M' (by omega) (by omega) he k'
    · rw [fsx_s (show i < 61 by omega), if_pos (by unfold sdP; simpa using c2)] at he
      rw [he]; exact q M hk.2
theorem c_sand {s : SG} {M : MM} {Q : Int32 → MM → Prop} (hR : RepC s M) (q : ∀ M', RepC (sandS s).2 M' → Hi M M' → Q (sandS s).1 M') : D4_sand M Q := by
  unfold D4_sand
  refine kc_becomes hR FrC.rf (fun M1 k1 => ?_)
  exact c_sand_loop (WFm hR.2.1) (fun M' f => q M' (hR.mind f) f.hi) FU 0 M1 (by decide) (by decide) rfl k1
theorem m_sand_loop {s : SG} {M0 : MM} {Q : Int32 → MM → Prop} (hw : WF 8 999 (sB s)) (q : ∀ M', KM s (sB s) M0 M' → Q (fsx (sdP (sB s)) 61 0) M') :
    ∀ (n i : Nat) (M : MM), i ≤ 61 → 61 - i < n → fsx (sdP (sB s)) (61 - i) i = fsx (sdP (sB s)) 61 0 → KM s (hrs (sB s) i) M0 M → D5_sand_c14 Q n (-9) (nI i) M := by
  intro n
  induction n with
  | zero => intro i M h1 h2; omega
  | succ n ih =>
    intro i M h1 h2 he hk
    unfold D5_sand_c14
    rw [show (60 : Int32) = nI 60 from rfl, z_lt (by decide) (by omega)]
    refine ⟨fun z => ?_, fun z => ⟨fun z2 => absurd z2 (by decide), fun _ => ?_⟩⟩
    · have e : i = 61 := by omega
      subst e
      rw [← he] at q
      exact km_again hw hk (fun M' k' => q M' k')
    · rw [fsx_s (show i < 61 by omega)] at he
      refine p5_standing (H := 999 + i) (hrs_wf (WFm hw) i) hk.1 ?_
      rw [show (0 : Int32) = nI 0 from rfl]
      simp only [ne_eq, z_eq (mk10 _) (show 0 < 2 ^ 31 by decide)]
      refine ⟨fun c2 => ?_, fun c2 => ?_⟩
      · rw [if_neg (by unfold sdP; simpa using c2)] at he
        show D5_hourBy (nI 0) M _
        refine km_hour (H := 999 + i) (hrs_wf (WFm hw) i) (by omega) (by decide) hk (fun M2 k2 => ?_)
        show D5_sand_c14 Q n (-9) (nI i + 1) M2
        rw [nI_1]
        exact ih (i + 1) M2 (by omega) (by omega) he k2
      · rw [if_pos (by unfold sdP; simpa using c2)] at he
        obtain ⟨m, rfl⟩ : ∃ m, n = m + 1 := ⟨n - 1, by omega⟩
        show D5_hourBy (nI 0) M _
        refine km_hour (H := 999 + i) (hrs_wf (WFm hw) i) (by omega) (by decide) hk (fun M2 k2 => ?_)
        have fin : D5_sand_c49 Q (nI i) M2 := km_again hw k2 (fun M' k' => by rw [he]; exact q M' k')
        exact ⟨fun _ => fin, fun _ => ⟨fun _ => fin, fun z => absurd (nI_pos' (by omega)) z⟩⟩
theorem m_sand {s : SG} {M : MM} {Q : Int32 → MM → Prop} (hR : RepM s M) (q : ∀ M', RepM (sandS s).2 M' → Lo M M' → Q (sandS s).1 M') : D5_sand M Q := by
  unfold D5_sand
  have hR1 := hR.thrown (x := 0)
  have hL : Lo M (up M 62 9 0) := fun p hp => up_p (by omega)
  generalize up M 62 9 0 = M1 at hR1 hL
  refine km_think hR1 FrM.rf (fun M2 k2 => ?_)
  exact m_sand_loop hR1.2.1 (fun M' k => q M' (km_rep hR1 k) (hL.tr k.2.2.1.1)) FU 0 M2 (by decide) (by decide) rfl k2
/-- FALLS -/
def faP (B : BV) (w n : Nat) : Bool := !(bS (hrs B n) w)
abbrev faV (B : BV) (w : Nat) : Int32 := fsx (faP B w) 61 0
theorem m_fall_loop {s : SG} {w : Nat} {M0 : MM} {Q : Int32 → MM → Prop} (hw : WF 8 999 (sB s)) (hc : w < bN (sB s)) (q : ∀ M', KM s (sB s) M0 M' → Q (faV (sB s) w) M') :
    ∀ (n i : Nat) (M : MM), i ≤ 61 → 61 - i < n → fsx (faP (sB s) w) (61 - i) i = faV (sB s) w → KM s (hrs (sB s) i) M0 M → D5_fallOf_c9 Q n (nI w) (-9) (nI i) M := by
  have hw8 := hw.1
  intro n
  induction n with
  | zero => intro i M h1 h2; omega
  | succ n ih =>
    intro i M h1 h2 he hk
    unfold D5_fallOf_c9
    rw [show (60 : Int32) = nI 60 from rfl, z_lt (by decide) (by omega)]
    refine ⟨fun z => ?_, fun z => ⟨fun z2 => absurd z2 (by decide), fun _ => ⟨ibc ⟨by decide, rfl⟩ rfl (show w < 10 by omega) (by decide), ?_⟩⟩⟩
    · have e : i = 61 := by omega
      subst e
      rw [← he] at q
      exact km_again hw hk (fun M' k' => q M' k')
    · rw [fsx_s (show i < 61 by omega)] at he
      have m5 := (hk.1.2.2.2.2 w (by rw [hrs_N]; exact hc)).2.2.2.2
      rw [z_ix (show w < 2 ^ 31 by omega), m5]
      refine ⟨fun c2 => ?_, fun c2 => ?_⟩
      · have e : faP (sB s) w i = false := by
          unfold faP
          cases h : bS (hrs (sB s) i) w
          · rw [h] at c2; exact absurd rfl c2
          · rfl
        rw [if_neg (by rw [e]; decide)] at he
        show D5_hourBy (nI 0) M _
        refine km_hour (H := 999 + i) (hrs_wf (WFm hw) i) (by omega) (by decide) hk (fun M2 k2 => ?_)
        show D5_fallOf_c9 Q n (nI w) (-9) (nI i + 1) M2
        rw [nI_1]
        exact ih (i + 1) M2 (by omega) (by omega) he k2
      · have e : faP (sB s) w i = true := by
          unfold faP
          cases h : bS (hrs (sB s) i) w
          · rfl
          · rw [h] at c2; exact absurd c2 (by decide)
        rw [if_pos e] at he
        obtain ⟨m, rfl⟩ : ∃ m, n = m + 1 := ⟨n - 1, by omega⟩
        show D5_hourBy (nI 0) M _
        refine km_hour (H := 999 + i) (hrs_wf (WFm hw) i) (by omega) (by decide) hk (fun M2 k2 => ?_)
        have fin : D5_fallOf_c47 Q (nI i) M2 := km_again hw k2 (fun M' k' => by rw [he]; exact q M' k')
        exact ⟨fun _ => fin, fun _ => ⟨fun _ => fin, fun z => absurd (nI_pos' (by omega)) z⟩⟩
theorem m_fallOf {s : SG} {w : Nat} {M0 M : MM} {Q : Int32 → MM → Prop} (hR : RepM s M) (hf : FrM M0 M) (hc : w < bN (sB s)) (q : ∀ M', KM s (sB s) M0 M' → Q (faV (sB s) w) M') : D5_fallOf (nI w) M Q := by
  unfold D5_fallOf
  refine km_think hR hf (fun M2 k2 => ?_)
  exact m_fall_loop hR.2.1 hc q FU 0 M2 (by decide) (by decide) rfl k2
/-- what falls first: the answer's property -/
def FA (B : BV) (v : Int32) : Prop := (v = -9 ∧ ∀ w n, bS B w = true → n ≤ 60 → bS (hrs B n) w = true) ∨ ∃ w t, v = nI w ∧ bS B w = true ∧ t ≤ 60 ∧ bS (hrs B t) w = false ∧ (∀ n w', n < t → bS B w' = true → bS (hrs B n) w' = true) ∧ ∀ w', w' < w → bS B w' = true → bS (hrs B t) w' = true
theorem FA_uniq {B : BV} {u v : Int32} (h1 : FA B u) (h2 : FA B v) : u = v := by
  rcases h1 with ⟨a1, a2⟩ | ⟨w, t, a1, a2, a3, a4, a5, a6⟩ <;> rcases h2 with ⟨b1, b2⟩ | ⟨w', t', b1, b2, b3, b4, b5, b6⟩
  · rw [a1, b1]
  · have := a2 w' t' b2 b3; rw [b4] at this; cases this
  · have := b2 w t a2 a3; rw [a4] at this; cases this
  · have e : t = t' := by
      rcases Nat.lt_trichotomy t t' with z | z | z
      · have := b5 t w z a2; rw [a4] at this; cases this
      · exact z
      · have := a5 t' w' z b2; rw [b4] at this; cases this
    subst e
    have e : w = w' := by
      rcases Nat.lt_trichotomy w w' with z | z | z
      · have := b6 w z a2; rw [a4] at this; cases this
      · exact z
      · have := a6 w' z b2; rw [b4] at this; cases this
    rw [a1, b1, e]
/-- the one that is so -/
noncomputable def the (P : Int32 → Prop) : Int32 := Classical.epsilon P
theorem the_eq {P : Int32 → Prop} (hu : ∀ u v, P u → P v → u = v) {v : Int32} (h : P v) : the P = v := hu _ _ (Classical.epsilon_spec ⟨v, h⟩) h
noncomputable def fallsS (s : SG) (x : Int32) : Int32 × SG := if x = -1 then (the (FA (sB s)), s) else if inN x (bN (sB s)) = true then (faV (sB s) x.toInt.toNat, s) else outS s 1
def lowb : Nat → Nat → Nat
  | 0, _ => 0
  | n + 1, F => if F % 2 = 1 then 0 else lowb n (F / 2) + 1
theorem lowb_all : ∀ F, F < 1024 → 0 < F → lowb 10 F < 10 ∧ (nI F &&& -(nI F)) - 1 = nI (2 ^ lowb 10 F - 1) ∧ F.testBit (lowb 10 F) = true ∧ pcf 25 (2 ^ lowb 10 F - 1) = lowb 10 F ∧ 2 ^ lowb 10 F - 1 < 2 ^ 25 ∧ ∀ j, j < 10 → j < lowb 10 F → F.testBit j = false := by decide +kernel
theorem p4_lowestBit {F : Nat} {M : MM} {Q : Int32 → MM → Prop} (h : F < 1024) (h0 : 0 < F) (q : Q (nI (lowb 10 F)) M) : D4_lowestBit (nI F) M Q := by
  obtain ⟨a, b, c, d, e, f⟩ := lowb_all F h h0
  unfold D4_lowestBit
  rw [b]
  refine pJ_bitCount e ?_
  rw [d]; exact q
def FF (B : BV) (i : Nat) : Nat := mk (bS B) 10 &&& (mk (bS (hrs B i)) 10 ^^^ (2 ^ 32 - 1))
theorem FF_bit {B : BV} {i j : Nat} (hj : j < 10) : (FF B i).testBit j = (bS B j && !(bS (hrs B i) j)) := by
  unfold FF
  rw [Nat.testBit_and, Nat.testBit_xor, Nat.testBit_two_pow_sub_one, mk_bit, mk_bit]
  have h : j < 32 := by omega
  simp [hj, h]
theorem FF_lt {B : BV} {i : Nat} : FF B i < 1024 := Nat.lt_of_le_of_lt Nat.and_le_left (mk_lt (bS B) 10)
theorem FF_0 {B : BV} {i H : Nat} (hw : WF 10 H B) (h : FF B i = 0) (w : Nat) (hs : bS B w = true) : bS (hrs B i) w = true := by
  have h1 := hw.2.2.1 w hs
  have h2 := hw.1
  have := FF_bit (B := B) (i := i) (j := w) (by omega)
  rw [h, Nat.zero_testBit, hs] at this
  simpa using this.symm
theorem c_falls_first {s : SG} {M0 : MM} {Q : Int32 → MM → Prop} (hw : WF 10 999 (sB s)) (h5 : M0 1 5 = nI (mk (bS (sB s)) 10)) (q : ∀ v M', FA (sB s) v → FrC M0 M' → Q v M') :
    ∀ (n i : Nat) (M : MM), i ≤ 61 → 61 - i < n → (∀ t w, t < i → bS (sB s) w = true → bS (hrs (sB s) t) w = true) → KC (hrs (sB s) i) M0 M → D4_falls_c35 Q n (-1) (nI i) M := by
  intro n
  induction n with
  | zero => intro i M h1 h2; omega
  | succ n ih =>
    intro i M h1 h2 he hk
    unfold D4_falls_c35
    rw [show (60 : Int32) = nI 60 from rfl, z_lt (by decide) (by omega)]
    refine ⟨fun z => ?_, fun z => ?_⟩
    · exact q _ M (Or.inl ⟨rfl, fun w t hs ht => he t w (by omega) hs⟩) hk.2
    · have ev : M 1 5 &&& (M 6 5 ^^^ (-1 : Int32)) = nI (FF (sB s) i) := by
        rw [hk.2 1 (by omega) (by decide), h5, hk.1.2.1, show (-1 : Int32) = nI (2 ^ 32 - 1) from by decide +kernel, z_xor, z_and]
        rfl
      dsimp only
      rw [ev]
      refine ⟨fun z => absurd rfl z, fun _ => ?_⟩
      rw [show (0 : Int32) = nI 0 from rfl, z_eq (Nat.lt_trans FF_lt (by decide)) (by decide)]
      refine ⟨fun c2 => ?_, fun c2 => ?_⟩
      · refine ⟨fun _ => ?_, fun z => absurd rfl z⟩
        show D0_goesOn 6 (nI 1) M _
        refine kc_hrs (H := 999 + i) (hrs_wf hw i) (by omega) (by decide) hk (fun M' k' => ?_)
        show D4_falls_c35 Q n (-1) (nI i + 1) M'
        rw [nI_1]
        refine ih (i + 1) M' (by omega) (by omega) (fun t w ht hs => ?_) k'
        rcases Nat.lt_or_ge t i with y | y
        · exact he t w y hs
        · rw [show t = i by omega]; exact FF_0 hw c2 w hs
      · unfold D4_falls_c68
        refine p4_lowestBit FF_lt (by omega) ?_
        obtain ⟨a, b, c, d, e, f⟩ := lowb_all (FF (sB s) i) FF_lt (by omega)
        rw [FF_bit a] at c
        rw [Bool.and_eq_true] at c
        refine q _ M (Or.inr ⟨lowb 10 (FF (sB s) i), i, rfl, c.1, by omega, by simpa using c.2, fun t w' ht hs => he t w' ht hs, fun w' hw' hs => ?_⟩) hk.2
        have g := f w' (by omega) hw'
        rw [FF_bit (by omega), hs] at g
        simpa using g
theorem c_falls_of {s : SG} {w : Nat} {M0 : MM} {Q : Int32 → MM → Prop} (hw : WF 10 999 (sB s)) (hc : w < bN (sB s)) (q : ∀ M', FrC M0 M' → Q (faV (sB s) w) M') :
    ∀ (n i : Nat) (M : MM), i ≤ 61 → 61 - i < n → fsx (faP (sB s) w) (61 - i) i = faV (sB s) w → KC (hrs (sB s) i) M0 M → D4_falls_c35 Q n (nI w) (nI i) M := by
  have hn := hw.1
  have hne : ¬ nI w = (-1 : Int32) := by
    intro e
    rw [i_eq, i_n (by omega)] at e
    have : (-1 : Int32).toInt = -1 := by decide
    omega
  intro n
  induction n with
  | zero => intro i M h1 h2; omega
  | succ n ih =>
    intro i M h1 h2 he hk
    unfold D4_falls_c35
    rw [show (60 : Int32) = nI 60 from rfl, z_lt (by decide) (by omega)]
    refine ⟨fun z => ?_, fun z => ⟨fun _ => ⟨fun z2 => absurd z2 hne, fun _ => ?_⟩, fun z2 => absurd z2 hne⟩⟩
    · have e : i = 61 := by omega
      subst e
      rw [← he] at q; exact q M hk.2
    · rw [fsx_s (show i < 61 by omega)] at he
      refine p0_stands hk.1.2.1 (by omega) ?_
      rw [b2l_n0, b2l_0]
      refine ⟨fun c2 => ?_, fun c2 => ?_⟩
      · rw [if_neg (by unfold faP; rw [c2]; decide)] at he
        show D0_goesOn 6 (nI 1) M _
        refine kc_hrs (H := 999 + i) (hrs_wf hw i) (by omega) (by decide) hk (fun M' k' => ?_)
        show D4_falls_c35 Q n (nI w) (nI i + 1) M'
        rw [nI_1]
        exact ih (i + 1) M' (by omega) (by omega) he k'
      · rw [if_pos (by unfold faP; rw [c2]; rfl)] at he
        rw [he]; exact q M hk.2
theorem c_falls {s : SG} {x : Int32} {M : MM} {Q : Int32 → MM → Prop} (hR : RepC s M) (q : ∀ M', RepC (fallsS s x).2 M' → Hi M M' → Q (fallsS s x).1 M') : D4_falls x M Q := by
  unfold D4_falls
  have hw := WFm hR.2.1
  refine ⟨fun h => ?_, fun h => ?_⟩
  · rw [show fallsS s x = (the (FA (sB s)), s) from if_pos h] at q
    rw [h]
    refine kc_becomes hR FrC.rf (fun M1 k1 => ?_)
    refine c_falls_first hw hR.1.2.1 (fun v M' hv f => ?_) FU 0 M1 (by decide) (by decide) (fun t w ht => by omega) k1
    have q := q M' (hR.mind f) f.hi
    rw [show (the (FA (sB s)), s).1 = v from the_eq (fun u v => FA_uniq) hv] at q
    exact q
  · refine p0_knowsX hR.1.1 hw.1 ?_
    rw [b2l_n0, b2l_0]
    refine ⟨fun h2 => ?_, fun h2 => ?_⟩
    · obtain ⟨j, hj, hx, hxn⟩ := inN_0 h2 (Nat.le_trans hw.1 (by decide))
      rw [show fallsS s x = (faV (sB s) j, s) from by unfold fallsS; rw [if_neg h, if_pos h2, hxn]] at q
      rw [hx]
      refine kc_becomes hR FrC.rf (fun M1 k1 => ?_)
      exact c_falls_of hw hj (fun M' f => q M' (hR.mind f) f.hi) FU 0 M1 (by decide) (by decide) rfl k1
    · rw [show fallsS s x = outS s 1 from by unfold fallsS; rw [if_neg h, h2]; rfl] at q
      exact c_out (k := 1) hR (by decide) q
theorem falls_78 {K : Int32 → Int32 → Int32 → MM → Prop} {Q : Int32 → MM → Prop} {x2 x3 x4 v : Int32} {M : MM} (k1 : v < 0 ∨ x3 ≤ v → K x2 x3 (x4 + 1) M) (k2 : ¬ v < 0 → ¬ x3 ≤ v → K x4 v (x4 + 1) M) : D5_falls_c78 K Q x2 x3 x4 v M := by
  unfold D5_falls_c78 D5_falls_c96 D5_falls_c97 D5_falls_c114 D5_falls_c115
  exact ⟨fun a => ⟨fun _ => k1 (Or.inl a), fun z => absurd a z⟩, fun a => ⟨fun b => ⟨fun z => absurd z a, fun _ => ⟨fun _ => k1 (Or.inr b), fun z => absurd b z⟩⟩, fun b => ⟨fun z => absurd z a, fun _ => ⟨fun z => absurd z b, fun _ => k2 a b⟩⟩⟩⟩
/-- the model's search, works below i looked at -/
def FAi (B : BV) (i : Nat) (x2 x3 : Int32) : Prop := (x2 = -9 ∧ x3 = nI 61 ∧ ∀ w n, w < i → bS B w = true → n ≤ 60 → bS (hrs B n) w = true) ∨ ∃ w t, x2 = nI w ∧ x3 = nI t ∧ w < i ∧ bS B w = true ∧ t ≤ 60 ∧ bS (hrs B t) w = false ∧ (∀ n w', w' < i → n < t → bS B w' = true → bS (hrs B n) w' = true) ∧ ∀ w', w' < w → bS B w' = true → bS (hrs B t) w' = true
theorem hrs_gone {B : BV} {w : Nat} : ∀ n m, n ≤ m → bS (hrs B n) w = false → bS (hrs B m) w = false := by
  intro n m h hs
  induction m with
  | zero => rw [show n = 0 by omega] at hs; exact hs
  | succ m ih =>
    rcases Nat.eq_or_lt_of_le h with e | e
    · rw [← e]; exact hs
    · have := ih (by omega)
      show hrS (hrs B m) _ w = false
      unfold hrS
      rw [this]; rfl
theorem hrs_st {B : BV} {w : Nat} (n m : Nat) (h : n ≤ m) (hs : bS (hrs B m) w = true) : bS (hrs B n) w = true := by
  cases e : bS (hrs B n) w
  · rw [hrs_gone n m h e] at hs; cases hs
  · rfl
theorem FAi_skip {B : BV} {i : Nat} {x2 x3 : Int32} (h : FAi B i x2 x3) (hs : ∀ n, n ≤ 60 → bS B i = true → bS (hrs B n) i = true) : FAi B (i + 1) x2 x3 := by
  rcases h with ⟨a, b, c⟩ | ⟨w, t, a1, a2, a3, a4, a5, a6, a7, a8⟩
  · refine Or.inl ⟨a, b, fun w n hw h1 h2 => ?_⟩
    by_cases y : w = i
    · subst y; exact hs n h2 h1
    · exact c w n (by omega) h1 h2
  · refine Or.inr ⟨w, t, a1, a2, by omega, a4, a5, a6, fun n w' hw' hn h1 => ?_, a8⟩
    by_cases y : w' = i
    · subst y; exact hs n (by omega) h1
    · exact a7 n w' (by omega) hn h1
theorem FAi_step {B : BV} {i : Nat} {x2 x3 : Int32} (h : FAi B i x2 x3) (hs : bS B i = true) {v : Int32} (hv : faV B i = v) :
    (v < 0 ∨ x3 ≤ v → FAi B (i + 1) x2 x3) ∧ (¬ v < 0 → ¬ x3 ≤ v → FAi B (i + 1) (nI i) v) := by
  rcases fsx_or (faP B i) 61 0 with ⟨h1, h2⟩ | ⟨j, g1, g2, g3, g4, g5⟩
  · have e : v = -9 := hv.symm.trans h1
    refine ⟨fun _ => FAi_skip h (fun n hn _ => ?_), fun z => absurd (by rw [e]; decide) z⟩
    have := h2 n (Nat.zero_le _) (by omega)
    unfold faP at this
    simpa using this
  · have e : v = nI j := hv.symm.trans g5
    have gj : bS (hrs B j) i = false := by unfold faP at g3; simpa using g3
    have gt : ∀ t, t < j → bS (hrs B t) i = true := fun t ht => by
      have := g4 t (Nat.zero_le _) ht
      unfold faP at this
      simpa using this
    rw [e]
    have hj : j < 61 := by omega
    rcases h with ⟨a, b, c⟩ | ⟨w, t, a1, a2, a3, a4, a5, a6, a7, a8⟩
    · rw [b, z_le (by decide) (by omega), z_neg (by omega)]
      refine ⟨fun z => ?_, fun _ _ => Or.inr ⟨i, j, rfl, rfl, by omega, hs, by omega, gj, fun n w' hw' hn h1 => ?_, fun w' hw' h1 => c w' j hw' h1 (by omega)⟩⟩
      · rcases z with z | z
        · exact absurd z id
        · omega
      · by_cases y : w' = i
        · subst y; exact gt n hn
        · exact c w' n (by omega) h1 (by omega)
    · rw [a2, z_le (by omega) (by omega), z_neg (by omega)]
      refine ⟨fun z => ?_, fun _ z => ?_⟩
      · have z : t ≤ j := by
          rcases z with z | z
          · exact absurd z id
          · exact z
        refine Or.inr ⟨w, t, a1, rfl, by omega, a4, a5, a6, fun n w' hw' hn h1 => ?_, a8⟩
        by_cases y : w' = i
        · subst y; exact gt n (by omega)
        · exact a7 n w' (by omega) hn h1
      · refine Or.inr ⟨i, j, rfl, rfl, by omega, hs, by omega, gj, fun n w' hw' hn h1 => ?_, fun w' hw' h1 => a7 j w' hw' (by omega) h1⟩
        by_cases y : w' = i
        · subst y; exact gt n hn
        · exact a7 n w' (by omega) (by omega) h1
theorem m_falls_loop {s : SG} {M0 : MM} {Q : Int32 → MM → Prop} (q : ∀ v M', FA (sB s) v → RepM s M' → FrM M0 M' → Q v M') :
    ∀ (n i : Nat) (x2 x3 : Int32) (M : MM), i ≤ bN (sB s) → bN (sB s) - i < n → FAi (sB s) i x2 x3 → RepM s M → FrM M0 M → D5_falls_c48 Q n x2 x3 (nI i) M := by
  intro n
  induction n with
  | zero => intro i x2 x3 M h1 h2; omega
  | succ n ih =>
    intro i x2 x3 M h1 h2 hF hR hf
    have hw := hR.2.1
    have hn := hw.1
    unfold D5_falls_c48
    rw [hR.1.1, z_le (by omega) (by omega)]
    refine ⟨fun z => ?_, fun z => ⟨ibc ⟨by decide, rfl⟩ rfl (show i < 10 by omega) (by decide), ?_⟩⟩
    · have e : i = bN (sB s) := by omega
      refine q x2 M ?_ hR hf
      rcases hF with ⟨a, b, c⟩ | ⟨w, t, a1, a2, a3, a4, a5, a6, a7, a8⟩
      · exact Or.inl ⟨a, fun w n hs hn => c w n (by have := hw.2.2.1 w hs; omega) hs hn⟩
      · exact Or.inr ⟨w, t, a1, a4, a5, a6, fun n w' hn hs => a7 n w' (by have := hw.2.2.1 w' hs; omega) hn hs, a8⟩
    · have hi : i < bN (sB s) := by omega
      have m5 := (hR.1.2.2.2.2 i hi).2.2.2.2
      rw [z_ix (show i < 2 ^ 31 by omega), m5]
      refine ⟨fun c2 => ?_, fun c2 => ?_⟩
      · have es : bS (sB s) i = false := by
          cases h : bS (sB s) i
          · rfl
          · rw [h] at c2; exact absurd rfl c2
        have nx := FAi_skip hF (fun n _ h => by rw [es] at h; cases h)
        refine falls_78 (fun _ => ?_) (fun z => absurd (by decide) z)
        rw [nI_1]
        exact ih (i + 1) x2 x3 M (by omega) (by omega) nx hR hf
      · have es : bS (sB s) i = true := by
          cases h : bS (sB s) i
          · rw [h] at c2; exact absurd c2 (by decide)
          · rfl
        refine m_fallOf hR FrM.rf hi (fun M' k' => ?_)
        obtain ⟨s1, s2⟩ := FAi_step hF es rfl
        refine falls_78 (fun z => ?_) (fun z1 z2 => ?_)
        · rw [nI_1]
          exact ih (i + 1) x2 x3 M' (by omega) (by omega) (s1 z) (km_rep hR k') (hf.tr k'.2.2.1)
        · rw [nI_1]
          exact ih (i + 1) (nI i) _ M' (by omega) (by omega) (s2 z1 z2) (km_rep hR k') (hf.tr k'.2.2.1)
theorem m_falls {s : SG} {x : Int32} {M : MM} {Q : Int32 → MM → Prop} (hR : RepM s M) (q : ∀ M', RepM (fallsS s x).2 M' → Lo M M' → Q (fallsS s x).1 M') : D5_falls x M Q := by
  unfold D5_falls
  have hR1 := hR.thrown (x := 0)
  have hL : Lo M (up M 62 9 0) := fun p hp => up_p (by omega)
  generalize up M 62 9 0 = M1 at hR1 hL
  have hw := WFm hR1.2.1
  have hn := hw.1
  refine p5_in ?_
  have e1 : (-1 : Int32).toInt = -1 := by decide
  have e0 : (0 : Int32).toInt = 0 := by decide
  rw [b2l_n0, b2l_0, Int32.toInt_toInt64, Int32.toInt_toInt64, hR1.1.1, show (nI (bN (sB s)) - (1 : Int32)).toInt = (bN (sB s) : Int) - 1 from pk_sub_toInt (a := bN (sB s)) (b := 1) (by omega) (by decide), show (-1 : Int64).toInt = -1 from by decide, decide_eq_true_eq, decide_eq_false_iff_not]
  refine ⟨fun h => ⟨fun h0 => ?_, fun h0 => ?_⟩, fun h => ?_⟩
  · rw [i_lt] at h0
    have hx : x = -1 := by rw [i_eq]; omega
    rw [show fallsS s x = (the (FA (sB s)), s) from if_pos hx] at q
    refine m_falls_loop (fun v M' hv r f => ?_) FU 0 (-9) (nI 61) M1 (Nat.zero_le _) (Nat.lt_of_le_of_lt (Nat.le_trans (Nat.sub_le _ _) hn) (by decide)) (Or.inl ⟨rfl, rfl, fun w n hw => by omega⟩) hR1 FrM.rf
    have q := q M' r (hL.tr f.1)
    rw [show (the (FA (sB s)), s).1 = v from the_eq (fun u v => FA_uniq) hv] at q
    exact q
  · rw [i_lt] at h0
    have hx : ¬ x = -1 := by rw [i_eq]; omega
    have h2 : inN x (bN (sB s)) = true := inN_t (by omega)
    obtain ⟨j, hj, hx2, hxn⟩ := inN_0 h2 (Nat.le_trans hw.1 (by decide))
    rw [show fallsS s x = (faV (sB s) j, s) from by unfold fallsS; rw [if_neg hx, if_pos h2, hxn]] at q
    rw [hx2]
    exact m_fallOf hR1 FrM.rf hj (fun M' k => q M' (km_rep hR1 k) (hL.tr k.2.2.1.1))
  · have hx : ¬ x = -1 := by rw [i_eq]; omega
    rw [show fallsS s x = outS s 1 from by unfold fallsS; rw [if_neg hx, if_neg (by rw [inN_f (by omega)]; decide)]] at q
    exact m_out (k := 1) hR1 (by decide) (fun M' a b => q M' a (hL.tr b))
