/-! PURE PART: shares, count, workOf, then -/
theorem ne_t {c A B : Prop} (h : c) (b : B) : (¬ c → A) ∧ (c → B) := ⟨fun z => absurd h z, fun _ => b⟩
theorem ne_f {c A B : Prop} (h : ¬ c) (a : A) : (¬ c → A) ∧ (c → B) := ⟨fun _ => a, fun z => absurd z h⟩
theorem b2l_0 {c : Bool} : (b2 c = (0 : Int32)) = (c = false) := b2_0
theorem b2l_n0 {c : Bool} : (b2 c ≠ (0 : Int32)) = (c = true) := b2_n0
theorem what_cases {y : Int32} {n : Nat} {A B : Prop} (hn : n < 2 ^ 30) (k0 : inN y (n + 1) = true → A) (k1 : inN y (n + 1) = false → B) : (y < 0 → B) ∧ (¬ y < 0 → ((y ≤ nI n → A) ∧ (¬ y ≤ nI n → B))) := by
  rw [i_lt, i_le, i_n (by omega), show (0 : Int32).toInt = 0 from by decide]
  refine ⟨fun c => k1 (inN_f (by omega)), fun c => ⟨fun c2 => k0 (inN_t (by omega)), fun c2 => k1 (inN_f (by omega))⟩⟩
theorem p5_inW {y : Int32} {n : Nat} {M : MM} {Q : Int32 → MM → Prop} (hn : n < 2 ^ 30) (q : Q (b2 (inN y (n + 1))) M) : D5_in y.toInt64 (0 : Int64) (nI n).toInt64 M Q := by
  refine p5_in ?_
  have e : decide ((0 : Int64).toInt ≤ y.toInt64.toInt ∧ y.toInt64.toInt ≤ (nI n).toInt64.toInt) = inN y (n + 1) := by
    unfold inN
    rw [Int32.toInt_toInt64, Int32.toInt_toInt64, i_n (by omega), show (0 : Int64).toInt = 0 from by decide]
    exact decide_eq_decide.mpr (by omega)
  rw [e]; exact q
theorem p5_inL {y : Int32} {a n : Nat} {c : Int64} {M : MM} {Q : Int32 → MM → Prop} (ha : (0 : Int64).toInt = a) (hc : c.toInt = n) (q : Q (b2 (inN y (n + 1))) M) : D5_in y.toInt64 (0 : Int64) c M Q := by
  refine p5_in ?_
  have e : decide ((0 : Int64).toInt ≤ y.toInt64.toInt ∧ y.toInt64.toInt ≤ c.toInt) = inN y (n + 1) := by
    unfold inN
    rw [Int32.toInt_toInt64, hc, show (0 : Int64).toInt = 0 from by decide]
    exact decide_eq_decide.mpr (by omega)
  rw [e]; exact q
theorem p5_wrongBit {y r : Int32} {n : Nat} {M : MM} {Q : Int32 → MM → Prop} (hn : n < 2 ^ 30) (k : r ≠ 0 → Q r M) (k0 : r = 0 → inN y (n + 1) = true → Q r M) (k2 : r = 0 → inN y (n + 1) = false → Q (-2) M) : D5_wrongBit r y (nI n) M Q := by
  unfold D5_wrongBit
  refine ⟨k, fun h => p5_inW hn ?_⟩
  rw [show (0 : Int32) = nI 0 from rfl, b2_n0, b2_0]
  exact ⟨fun z => k0 h z, fun z => k2 h z⟩
/-- the refusal of a number and a choice -/
def rgb (x : Int32) (a b : Nat) (y : Int32) (n : Nat) : Nat := if rg x a b = 0 then (if inN y (n + 1) = true then 0 else 2) else rg x a b
theorem rgb_0 {x y : Int32} {a b n : Nat} (h : rgb x a b y n = 0) : rg x a b = 0 ∧ inN y (n + 1) = true := by
  unfold rgb at h
  split at h
  · rename_i g
    split at h
    · exact ⟨g, by assumption⟩
    · cases h
  · exact absurd h (by assumption)
theorem p5_wrong2 {x y : Int32} {a b n : Nat} {M : MM} {Q : Int32 → MM → Prop} (hab : a ≤ b) (hb : b < 2 ^ 31) (hn : n < 2 ^ 30) (k0 : rgb x a b y n = 0 → Q 0 M) (k1 : ∀ k, rgb x a b y n = k → (k = 2 ∨ k = 4 ∨ k = 6) → Q (-(nI k)) M) : D5_wrongNumber x (nI a) (nI b) M (fun r M' => D5_wrongBit r y (nI n) M' Q) := by
  refine p5_wrongNumber hab hb (fun h => ?_) (fun k h hk => ?_)
  · refine p5_wrongBit hn (fun z => absurd rfl z) (fun _ h2 => k0 (by unfold rgb; rw [if_pos h, if_pos h2])) (fun _ h2 => k1 2 (by unfold rgb; rw [if_pos h, h2]; rfl) (Or.inl rfl))
  · obtain ⟨n1, n2, n3⟩ := neg46 hk
    have e : rgb x a b y n = k := by unfold rgb; rw [h, if_neg (by omega)]
    refine p5_wrongBit hn (fun _ => k1 k e (Or.inr hk)) (fun z => absurd z n1) (fun z => absurd z n1)
theorem neg246 {k : Nat} (h : k = 2 ∨ k = 4 ∨ k = 6) : (¬ -(nI k) = 0) ∧ (¬ 0 ≤ -(nI k)) ∧ k < 7 := by rcases h with rfl | rfl | rfl <;> decide
/-- shares -/
def sharesS (s : SG) (x y : Int32) : Int32 × SG := if rgb x 1 9 y 1 = 0 then ((if y = 0 then nI (bP (sB s) / x.toInt.toNat) else nI (bP (sB s) % x.toInt.toNat)), s) else outS s (rgb x 1 9 y 1)
theorem c_shares {s : SG} {x y : Int32} {M : MM} {Q : Int32 → MM → Prop} (hR : RepC s M) (q : ∀ M', RepC (sharesS s x y).2 M' → Hi M M' → Q (sharesS s x y).1 M') : D4_shares x y M Q := by
  unfold D4_shares D4_shares_c34
  have out : ∀ k, rgb x 1 9 y 1 = k → (k = 2 ∨ k = 4 ∨ k = 6) → D4_refused (-(nI k)) M Q := by
    intro k h hk
    refine c_out hR (neg246 hk).2.2 ?_
    rw [show sharesS s x y = outS s k from by unfold sharesS; rw [h, if_neg (by omega)]] at q
    exact q
  have h1 : (1 : Int32).toInt = 1 := by decide
  have h9 : (9 : Int32).toInt = 9 := by decide
  refine ⟨fun c1 => ⟨fun c9 => ?_, fun c9 => ?_⟩, fun c1 => ?_⟩
  · rw [i_le] at c1 c9
    have e : rg x 1 9 = 0 := by unfold rg; rw [if_neg (by omega), if_neg (by omega)]
    refine what_cases (n := 1) (by decide) (fun h => ?_) (fun h => out 2 (by unfold rgb; rw [if_pos e, h]; rfl) (Or.inl rfl))
    obtain ⟨j, j1, j9, hx, hxn⟩ := rg_0 e (by decide)
    rw [show sharesS s x y = ((if y = 0 then nI (bP (sB s) / j) else nI (bP (sB s) % j)), s) from by unfold sharesS; rw [if_pos (by unfold rgb; rw [if_pos e, if_pos h]), hxn]] at q
    have hp := hR.2.1.2.2.2.2.1
    have q := q M hR Hi.rf
    rw [hR.1.2.2.2.1, hx]
    refine ⟨fun z => ⟨z_ne0 (by omega) (by omega), ?_⟩, fun z => ⟨z_ne0 (by omega) (by omega), ?_⟩⟩
    · rw [pk_rem (by omega) (by omega) (by omega)]
      dsimp only at q
      rw [if_neg z] at q; exact q
    · rw [pk_div (by omega) (by omega) (by omega)]
      dsimp only at q
      rw [if_pos z] at q; exact q
  · rw [i_le] at c1 c9
    exact out 6 (by unfold rgb; rw [show rg x 1 9 = 6 from by unfold rg; rw [if_neg (by omega), if_pos (by omega)]]; rfl) (Or.inr (Or.inr rfl))
  · rw [i_le] at c1
    exact out 4 (by unfold rgb; rw [show rg x 1 9 = 4 from by unfold rg; rw [if_pos (by omega)]]; rfl) (Or.inr (Or.inl rfl))
theorem m_shares {s : SG} {x y : Int32} {M : MM} {Q : Int32 → MM → Prop} (hR : RepM s M) (q : ∀ M', RepM (sharesS s x y).2 M' → Lo M M' → Q (sharesS s x y).1 M') : D5_shares x y M Q := by
  unfold D5_shares
  have hR1 := hR.thrown (x := 0)
  have hL : Lo M (up M 62 9 0) := fun p hp => up_p (by omega)
  generalize up M 62 9 0 = M1 at hR1 hL
  refine p5_wrong2 (a := 1) (b := 9) (n := 1) (by decide) (by decide) (by decide) (fun h => ?_) (fun k h hk => ?_)
  · obtain ⟨e, h2⟩ := rgb_0 h
    obtain ⟨j, j1, j9, hx, hxn⟩ := rg_0 e (by decide)
    rw [show sharesS s x y = ((if y = 0 then nI (bP (sB s) / j) else nI (bP (sB s) % j)), s) from by unfold sharesS; rw [if_pos h, hxn]] at q
    have hp := hR.2.1.2.2.2.2.1
    have q := q M1 hR1 hL
    refine ⟨fun _ => ?_, fun z => absurd (by decide) z⟩
    rw [hR1.1.2.1, hx]
    refine ⟨fun z => ⟨z_ne0 (by omega) (by omega), ?_⟩, fun z => ⟨z_ne0 (by omega) (by omega), ?_⟩⟩
    · rw [pk_rem (by omega) (by omega) (by omega)]
      dsimp only at q
      rw [if_neg z] at q; exact q
    · rw [pk_div (by omega) (by omega) (by omega)]
      dsimp only at q
      rw [if_pos z] at q; exact q
  · refine ⟨fun z => absurd z (neg246 hk).2.1, fun _ => m_out hR1 (neg246 hk).2.2 (fun M' a b => ?_)⟩
    rw [show sharesS s x y = outS s k from by unfold sharesS; rw [h, if_neg (by omega)]] at q
    exact q M' a (hL.tr b)
/-- count -/
def countV (s : SG) (x : Int32) : Int32 := if x = 0 then nI (bN (sB s)) else if x = 1 then nI (bH (sB s)) else if x = 2 then nI (bP (sB s)) else if x = 3 then nI (bO (sB s)) else if x = 4 then nI (mk (bS (sB s)) 10) else if x = 5 then nI (wet (sB s) (lev (bH (sB s)))) else if x = 6 then nI (sL s).length else if x = 7 then nI (sR s).length else if x = 8 then nI (sT s).length else if 11 ≤ x.toInt ∧ x.toInt ≤ 16 then sF s (ix (x - 10)) else -9
def countS (s : SG) (x : Int32) : Int32 × SG := (countV s x, s)
theorem cnt_ix {x : Int32} (h : 11 ≤ x.toInt ∧ x.toInt ≤ 16) : ∃ j, j < 7 ∧ x - 10 = nI j := by
  obtain ⟨j, a, b, hx, _⟩ := rg_0 (x := x) (a := 11) (b := 16) (by unfold rg; rw [if_neg (by omega), if_neg (by omega)]) (by decide)
  exact ⟨j - 10, by omega, by rw [hx]; exact pk_sub (a := j) (b := 10) (by omega)⟩
theorem c_count {s : SG} {x : Int32} {M : MM} {Q : Int32 → MM → Prop} (hR : RepC s M) (q : ∀ M', RepC (countS s x).2 M' → Hi M M' → Q (countS s x).1 M') : D4_count x M Q := by
  have q : Q (countV s x) M := q M hR Hi.rf
  unfold countV at q
  obtain ⟨r1, r2, r3, r4, r5, r6, r7⟩ := hR
  unfold D4_count D2_size
  dsimp only
  rw [r1.1, r1.2.1, r1.2.2.1, r1.2.2.2.1, r1.2.2.2.2.1, r4.2.1, r5.1, r6.1]
  have h11 : (11 : Int32).toInt = 11 := by decide
  have h16 : (16 : Int32).toInt = 16 := by decide
  refine ⟨fun e => ?_, fun e0 => ⟨fun e => ?_, fun e1 => ⟨fun e => ?_, fun e2 => ⟨fun e => ?_, fun e3 => ⟨fun e => ?_, fun e4 => ⟨fun e => ?_, fun e5 => ⟨fun e => ?_, fun e6 => ⟨fun e => ?_, fun e7 => ⟨fun e => ?_, fun e8 => ?_⟩⟩⟩⟩⟩⟩⟩⟩⟩
  · rw [if_pos e] at q; exact q
  · rw [if_neg e0, if_pos e] at q; exact q
  · rw [if_neg e0, if_neg e1, if_pos e] at q; exact q
  · rw [if_neg e0, if_neg e1, if_neg e2, if_pos e] at q; exact q
  · rw [if_neg e0, if_neg e1, if_neg e2, if_neg e3, if_pos e] at q; exact q
  · rw [if_neg e0, if_neg e1, if_neg e2, if_neg e3, if_neg e4, if_pos e] at q
    exact p0_wetNow isB1 r1 (H := 999) (by decide) (WFm r2) q
  · rw [if_neg e0, if_neg e1, if_neg e2, if_neg e3, if_neg e4, if_neg e5, if_pos e] at q; exact q
  · rw [if_neg e0, if_neg e1, if_neg e2, if_neg e3, if_neg e4, if_neg e5, if_neg e6, if_pos e] at q; exact q
  · rw [if_neg e0, if_neg e1, if_neg e2, if_neg e3, if_neg e4, if_neg e5, if_neg e6, if_neg e7, if_pos e] at q; exact q
  · rw [if_neg e0, if_neg e1, if_neg e2, if_neg e3, if_neg e4, if_neg e5, if_neg e6, if_neg e7, if_neg e8] at q
    rw [i_lt, i_lt]
    refine ⟨fun z => ?_, fun z => ⟨fun z2 => ?_, fun z2 => ?_⟩⟩
    · rw [if_neg (by omega)] at q; exact q
    · rw [if_neg (by omega)] at q; exact q
    · rw [if_pos (by omega)] at q
      obtain ⟨j, hj, ej⟩ := cnt_ix (x := x) (by omega)
      rw [ej, z_ix (by omega)] at q ⊢
      rw [r7 j hj]
      exact ⟨ibc ⟨by decide, rfl⟩ rfl hj (by decide), q⟩
theorem m_count {s : SG} {x : Int32} {M : MM} {Q : Int32 → MM → Prop} (hR : RepM s M) (q : ∀ M', RepM (countS s x).2 M' → Lo M M' → Q (countS s x).1 M') : D5_count x M Q := by
  unfold D5_count
  have hR1 := hR.thrown (x := 0)
  have hL : Lo M (up M 62 9 0) := fun p hp => up_p (by omega)
  generalize up M 62 9 0 = M1 at hR1 hL
  have q : ∀ M', RepM s M' → Lo M M' → Q (countV s x) M' := q
  unfold countV at q
  have hR2 := hR1
  obtain ⟨r1, r2, r3, r4, r5, r6, r7, r8⟩ := hR1
  dsimp only
  rw [r1.1, r1.2.1, r1.2.2.1, r1.2.2.2.1, r4.2.1, r5.1, r6.1]
  have h11 : (11 : Int64).toInt = 11 := by decide
  have h16 : (16 : Int64).toInt = 16 := by decide
  refine ⟨fun e => ?_, fun e0 => ⟨fun e => ?_, fun e1 => ⟨fun e => ?_, fun e2 => ⟨fun e => ?_, fun e3 => ⟨fun e => ?_, fun e4 => ⟨fun e => ?_, fun e5 => ⟨fun e => ?_, fun e6 => ⟨fun e => ?_, fun e7 => ⟨fun e => ?_, fun e8 => ?_⟩⟩⟩⟩⟩⟩⟩⟩⟩
  · rw [if_pos e] at q; exact q M1 hR2 hL
  · rw [if_neg e0, if_pos e] at q; exact q M1 hR2 hL
  · rw [if_neg e0, if_neg e1, if_pos e] at q; exact q M1 hR2 hL
  · rw [if_neg e0, if_neg e1, if_neg e2, if_pos e] at q; exact q M1 hR2 hL
  · rw [if_neg e0, if_neg e1, if_neg e2, if_neg e3, if_pos e] at q
    exact p5_standing (WFm r2) r1 (q M1 hR2 hL)
  · rw [if_neg e0, if_neg e1, if_neg e2, if_neg e3, if_neg e4, if_pos e] at q
    refine m_wetNow (WFm r2) (H := 999) (by decide) r1 (fun M' h f => q M' (hR2.mind f.M h) (hL.tr f.M.1))
  · rw [if_neg e0, if_neg e1, if_neg e2, if_neg e3, if_neg e4, if_neg e5, if_pos e] at q; exact q M1 hR2 hL
  · rw [if_neg e0, if_neg e1, if_neg e2, if_neg e3, if_neg e4, if_neg e5, if_neg e6, if_pos e] at q; exact q M1 hR2 hL
  · rw [if_neg e0, if_neg e1, if_neg e2, if_neg e3, if_neg e4, if_neg e5, if_neg e6, if_neg e7, if_pos e] at q; exact q M1 hR2 hL
  · rw [if_neg e0, if_neg e1, if_neg e2, if_neg e3, if_neg e4, if_neg e5, if_neg e6, if_neg e7, if_neg e8] at q
    refine p5_in ?_
    rw [Int32.toInt_toInt64, h11, h16, show (0 : Int32) = nI 0 from rfl, b2_0]
    refine ⟨fun z => ?_, fun z => ?_⟩
    · have z := of_decide_eq_false z
      rw [if_neg z] at q; exact q M1 hR2 hL
    · have z : 11 ≤ x.toInt ∧ x.toInt ≤ 16 := by simpa using z
      rw [if_pos z] at q
      obtain ⟨j, hj, ej⟩ := cnt_ix z
      rw [ej, z_ix (by omega)] at q ⊢
      rw [r7 j hj]
      exact ⟨ibc ⟨by decide, rfl⟩ rfl hj (by decide), q M1 hR2 hL⟩
/-- workOf -/
def wofV (B : BV) (j : Nat) (y : Int32) : Option Int32 := if y = 0 then some (nI (bK B j)) else if y = 1 then some (nI (bF B j)) else if y = 2 then some (nI (bC B j)) else if y = 3 then some (nI (bW B j)) else if y = 4 then some (b2 (bS B j)) else if y = 5 then some (nI (hold (bK B j) (bF B j))) else if y = 6 then some (nI (rate (bK B j) (bF B j))) else if y = 7 then some (nI (lets (bK B j) (bF B j))) else if y = 8 then some (b2 (decide (bK B j ≠ 2))) else none
def workOfS (s : SG) (x y : Int32) : Int32 × SG := if inN x (bN (sB s)) = true then (match wofV (sB s) x.toInt.toNat y with | some v => (v, s) | none => outS s 2) else outS s 1
theorem p0_holdsOf {b j H : Nat} {B : BV} {M : MM} {Q : Int32 → MM → Prop} (hb : isB b) (hw : WF 10 H B) (hR : RB b B M) (hj : j < bN B) (q : Q (nI (hold (bK B j) (bF B j))) M) : D0_holdsOf b (nI j) M Q := by
  unfold D0_holdsOf
  obtain ⟨g1, g2, g3, g4⟩ := hw.2.1 j hj
  obtain ⟨m1, m2, m3, m4⟩ := hR.2.2.2.2.2 j hj
  refine p0_kindOf hb hR.1 hw.1 hj (p0_figureOf hb hR.1 hw.1 hj ?_)
  rw [m1, m2]
  exact p1_holdsFor g1 g2 q
theorem p0_rateOf {b j H : Nat} {B : BV} {M : MM} {Q : Int32 → MM → Prop} (hb : isB b) (hw : WF 10 H B) (hR : RB b B M) (hj : j < bN B) (q : Q (nI (rate (bK B j) (bF B j))) M) : D0_rateOf b (nI j) M Q := by
  unfold D0_rateOf
  obtain ⟨g1, g2, g3, g4⟩ := hw.2.1 j hj
  obtain ⟨m1, m2, m3, m4⟩ := hR.2.2.2.2.2 j hj
  refine p0_kindOf hb hR.1 hw.1 hj (p0_figureOf hb hR.1 hw.1 hj ?_)
  rw [m1, m2]
  exact p1_rateFor g1 g2 q
theorem c_workOf {s : SG} {x y : Int32} {M : MM} {Q : Int32 → MM → Prop} (hR : RepC s M) (q : ∀ M', RepC (workOfS s x y).2 M' → Hi M M' → Q (workOfS s x y).1 M') : D4_workOf x y M Q := by
  unfold D4_workOf
  have hw := WFm hR.2.1
  refine p0_knowsX hR.1.1 hw.1 ?_
  rw [b2l_n0, b2l_0]
  refine ⟨fun h => ?_, fun h => ?_⟩
  · obtain ⟨j, hj, hx, hxn⟩ := inN_0 h (Nat.le_trans hw.1 (by decide))
    have ok : ∀ v, wofV (sB s) j y = some v → Q v M := by
      intro v hv
      rw [show workOfS s x y = (v, s) from by unfold workOfS; rw [if_pos h, hxn, hv]] at q
      exact q M hR Hi.rf
    rw [hx]
    obtain ⟨g1, g2, g3, g4⟩ := hw.2.1 j hj
    obtain ⟨m1, m2, m3, m4⟩ := hR.1.2.2.2.2.2 j hj
    refine ⟨fun e => ?_, fun e0 => ⟨fun e => ?_, fun e1 => ⟨fun e => ?_, fun e2 => ⟨fun e => ?_, fun e3 => ⟨fun e => ?_, fun e4 => ⟨fun e => ?_, fun e5 => ⟨fun e => ?_, fun e6 => ⟨fun e => ?_, fun e7 => ⟨fun e => ?_, fun e8 => ?_⟩⟩⟩⟩⟩⟩⟩⟩⟩
    · have k := ok _ (by unfold wofV; rw [if_pos e]); rw [← m1] at k; exact p0_kindOf isB1 hR.1.1 hw.1 hj k
    · have k := ok _ (by unfold wofV; rw [if_neg e0, if_pos e]); rw [← m2] at k; exact p0_figureOf isB1 hR.1.1 hw.1 hj k
    · have k := ok _ (by unfold wofV; rw [if_neg e0, if_neg e1, if_pos e]); rw [← m3] at k; exact p0_cellOf isB1 hR.1.1 hw.1 hj k
    · have k := ok _ (by unfold wofV; rw [if_neg e0, if_neg e1, if_neg e2, if_pos e]); rw [← m4] at k; exact p0_wornOf isB1 hR.1.1 hw.1 hj k
    · have k := ok _ (by unfold wofV; rw [if_neg e0, if_neg e1, if_neg e2, if_neg e3, if_pos e])
      refine p0_stands hR.1.2.1 (Nat.lt_of_lt_of_le hj hw.1) ?_
      rw [b2l_0]
      refine ⟨fun z => ?_, fun z => ?_⟩
      · rw [b2_f z] at k; exact k
      · rw [b2_t (by simpa using z)] at k; exact k
    · exact p0_holdsOf isB1 hw hR.1 hj (ok _ (by unfold wofV; rw [if_neg e0, if_neg e1, if_neg e2, if_neg e3, if_neg e4, if_pos e]))
    · exact p0_rateOf isB1 hw hR.1 hj (ok _ (by unfold wofV; rw [if_neg e0, if_neg e1, if_neg e2, if_neg e3, if_neg e4, if_neg e5, if_pos e]))
    · refine p0_kindOf isB1 hR.1.1 hw.1 hj (p0_figureOf isB1 hR.1.1 hw.1 hj ?_)
      rw [m1, m2]
      exact p1_letsFor g1 g2 (ok _ (by unfold wofV; rw [if_neg e0, if_neg e1, if_neg e2, if_neg e3, if_neg e4, if_neg e5, if_neg e6, if_pos e]))
    · have k := ok _ (by unfold wofV; rw [if_neg e0, if_neg e1, if_neg e2, if_neg e3, if_neg e4, if_neg e5, if_neg e6, if_neg e7, if_pos e])
      refine p0_kindOf isB1 hR.1.1 hw.1 hj ?_
      rw [m1]
      refine p1_stopsSea g1 ?_
      rw [b2l_0]
      refine ⟨fun z => ?_, fun z => ?_⟩
      · rw [b2_f z] at k; exact k
      · rw [b2_t (by simpa using z)] at k; exact k
    · rw [show workOfS s x y = outS s 2 from by unfold workOfS; rw [if_pos h, hxn, show wofV (sB s) j y = none from by unfold wofV; rw [if_neg e0, if_neg e1, if_neg e2, if_neg e3, if_neg e4, if_neg e5, if_neg e6, if_neg e7, if_neg e8]]] at q
      exact c_out (k := 2) hR (by decide) q
  · rw [show workOfS s x y = outS s 1 from by unfold workOfS; rw [h]; rfl] at q
    exact c_out (k := 1) hR (by decide) q
theorem m_workOf {s : SG} {x y : Int32} {M : MM} {Q : Int32 → MM → Prop} (hR : RepM s M) (q : ∀ M', RepM (workOfS s x y).2 M' → Lo M M' → Q (workOfS s x y).1 M') : D5_workOf x y M Q := by
  unfold D5_workOf
  have hR1 := hR.thrown (x := 0)
  have hL : Lo M (up M 62 9 0) := fun p hp => up_p (by omega)
  generalize up M 62 9 0 = M1 at hR1 hL
  have hw := WFm hR1.2.1
  refine p5_isWork hR1.1.1 hw.1 ?_
  rw [b2l_0]
  have h8 : (8 : Int64).toInt = (8 : Nat) := by decide
  refine ⟨fun h => ?_, fun h => ?_⟩
  · unfold D5_workOf_c25 D5_workOf_c40
    refine p5_isWork hR1.1.1 hw.1 ?_
    rw [b2l_0]
    rw [show workOfS s x y = outS s 1 from by unfold workOfS; rw [h]; rfl] at q
    exact ⟨fun _ => m_out (k := 1) hR1 (by decide) (fun M' a b => q M' a (hL.tr b)), fun z => absurd h z⟩
  · have h : inN x (bN (sB s)) = true := by simpa using h
    obtain ⟨j, hj, hx, hxn⟩ := inN_0 h (Nat.le_trans hw.1 (by decide))
    have hj10 := Nat.lt_of_lt_of_le hj hw.1
    have ok : ∀ v, wofV (sB s) j y = some v → Q v M1 := by
      intro v hv
      rw [show workOfS s x y = (v, s) from by unfold workOfS; rw [if_pos h, hxn, hv]] at q
      exact q M1 hR1 hL
    have y8 : (8 : Int32).toInt = 8 := by decide
    have yl : ∀ k, k < 9 → nI k = OfNat.ofNat k := fun k _ => rfl
    refine p5_inL (a := 0) (n := 8) (by decide) h8 ?_
    rw [b2l_n0, b2l_0]
    obtain ⟨g1, g2, g3, g4⟩ := hw.2.1 j hj
    obtain ⟨m1, m2, m3, m4, m5⟩ := hR1.1.2.2.2.2 j hj
    refine ⟨fun hy => ?_, fun hy => ?_⟩
    · rw [hx, z_ix (show j < 2 ^ 31 by omega), m1, m2, m3, m4, m5]
      have hib : ∀ p, 63 ≤ p → p ≤ 67 → ib p (nI j) := by
        intro p a b
        rcases (show p = 63 ∨ p = 64 ∨ p = 65 ∨ p = 66 ∨ p = 67 by omega) with rfl | rfl | rfl | rfl | rfl <;> exact ibc ⟨by decide, rfl⟩ rfl hj10 (by decide)
      refine ⟨fun e => ?_, fun e0 => ⟨fun e => ?_, fun e1 => ⟨fun e => ?_, fun e2 => ⟨fun e => ?_, fun e3 => ⟨fun e => ?_, fun e4 => ⟨fun e => ?_, fun e5 => ⟨fun e => ?_, fun e6 => ⟨fun e => ?_, fun e7 => ?_⟩⟩⟩⟩⟩⟩⟩⟩
      · exact ⟨hib 63 (by decide) (by decide), ok _ (by unfold wofV; rw [if_pos e])⟩
      · exact ⟨hib 64 (by decide) (by decide), ok _ (by unfold wofV; rw [if_neg e0, if_pos e])⟩
      · exact ⟨hib 65 (by decide) (by decide), ok _ (by unfold wofV; rw [if_neg e0, if_neg e1, if_pos e])⟩
      · exact ⟨hib 66 (by decide) (by decide), ok _ (by unfold wofV; rw [if_neg e0, if_neg e1, if_neg e2, if_pos e])⟩
      · have k := ok _ (by unfold wofV; rw [if_neg e0, if_neg e1, if_neg e2, if_neg e3, if_pos e])
        refine ⟨hib 67 (by decide) (by decide), ?_⟩
        rw [show (1 : Int32) - nI (!(bS (sB s) j)).toNat = b2 (bS (sB s) j) from by cases bS (sB s) j <;> decide]
        exact k
      · exact p5_holdsOf hj10 g1 g2 m1 m2 (ok _ (by unfold wofV; rw [if_neg e0, if_neg e1, if_neg e2, if_neg e3, if_neg e4, if_pos e]))
      · exact p5_rateOf hj10 g1 g2 m1 m2 (ok _ (by unfold wofV; rw [if_neg e0, if_neg e1, if_neg e2, if_neg e3, if_neg e4, if_neg e5, if_pos e]))
      · exact p5_letsOf hj10 g1 g2 m1 m2 (ok _ (by unfold wofV; rw [if_neg e0, if_neg e1, if_neg e2, if_neg e3, if_neg e4, if_neg e5, if_neg e6, if_pos e]))
      · obtain ⟨t, ht, hyt⟩ := inN_of hy (by decide)
        have e8 : y = 8 := by
          rcases (show t = 0 ∨ t = 1 ∨ t = 2 ∨ t = 3 ∨ t = 4 ∨ t = 5 ∨ t = 6 ∨ t = 7 ∨ t = 8 by omega) with rfl | rfl | rfl | rfl | rfl | rfl | rfl | rfl | rfl
          · exact absurd hyt e0
          · exact absurd hyt e1
          · exact absurd hyt e2
          · exact absurd hyt e3
          · exact absurd hyt e4
          · exact absurd hyt e5
          · exact absurd hyt e6
          · exact absurd hyt e7
          · exact hyt
        have k := ok _ (by unfold wofV; rw [if_neg e0, if_neg e1, if_neg e2, if_neg e3, if_neg e4, if_neg e5, if_neg e6, if_neg e7, if_pos e8])
        refine p5_isStop hw hR1.1 hj ?_
        rw [b2l_0]
        refine ⟨fun z => ?_, fun z => ?_⟩
        · rw [b2_f z] at k; exact k
        · rw [b2_t (by simpa using z)] at k; exact k
    · unfold D5_workOf_c25 D5_workOf_c40
      refine p5_isWork hR1.1.1 hw.1 ?_
      rw [b2l_0]
      have ny : ∀ t, t < 9 → ¬ y = nI t := by
        intro t ht e
        rw [e, inN_nI (by omega)] at hy
        have := of_decide_eq_false hy
        omega
      rw [show workOfS s x y = outS s 2 from by unfold workOfS; rw [if_pos h, hxn, show wofV (sB s) j y = none from by unfold wofV; rw [if_neg (show ¬ y = 0 from ny 0 (by decide)), if_neg (show ¬ y = 1 from ny 1 (by decide)), if_neg (show ¬ y = 2 from ny 2 (by decide)), if_neg (show ¬ y = 3 from ny 3 (by decide)), if_neg (show ¬ y = 4 from ny 4 (by decide)), if_neg (show ¬ y = 5 from ny 5 (by decide)), if_neg (show ¬ y = 6 from ny 6 (by decide)), if_neg (show ¬ y = 7 from ny 7 (by decide)), if_neg (show ¬ y = 8 from ny 8 (by decide))]]] at q
      exact ⟨fun z => absurd (h.symm.trans z) (by decide), fun _ => m_out (k := 2) hR1 (by decide) (fun M' a b => q M' a (hL.tr b))⟩
/-- then -/
def thenS (s : SG) (x y : Int32) : Int32 × SG := if rgb x 0 60 y 2 = 0 then ((if y = 0 then nI (mk (bS (hrs (sB s) x.toInt.toNat)) 10) else if y = 1 then nI (bP (hrs (sB s) x.toInt.toNat)) else nI (bO (hrs (sB s) x.toInt.toNat))), s) else outS s (rgb x 0 60 y 2)
theorem c_then {s : SG} {x y : Int32} {M : MM} {Q : Int32 → MM → Prop} (hR : RepC s M) (q : ∀ M', RepC (thenS s x y).2 M' → Hi M M' → Q (thenS s x y).1 M') : D4_then x y M Q := by
  unfold D4_then D4_then_c27
  have out : ∀ k, rgb x 0 60 y 2 = k → (k = 2 ∨ k = 4 ∨ k = 6) → D4_refused (-(nI k)) M Q := by
    intro k h hk
    refine c_out hR (neg246 hk).2.2 ?_
    rw [show thenS s x y = outS s k from by unfold thenS; rw [h, if_neg (by omega)]] at q
    exact q
  refine p4_outside (a := 0) (b := 60) (by decide) (by decide) (fun h => ?_) (fun k h hk => ?_)
  · refine ⟨fun _ => ?_, fun z => absurd rfl z⟩
    refine what_cases (n := 2) (by decide) (fun h2 => ?_) (fun h2 => out 2 (by unfold rgb; rw [if_pos h, h2]; rfl) (Or.inl rfl))
    obtain ⟨j, -, hj, hx, hxn⟩ := rg_0 h (by decide)
    rw [show thenS s x y = ((if y = 0 then nI (mk (bS (hrs (sB s) j)) 10) else if y = 1 then nI (bP (hrs (sB s) j)) else nI (bO (hrs (sB s) j))), s) from by unfold thenS; rw [if_pos (by unfold rgb; rw [if_pos h, if_pos h2]), hxn]] at q
    rw [hx]
    refine c_inMind hR hj (fun M1 h1 f1 => ?_)
    have q := q M1 (hR.mind f1) f1.hi
    dsimp only at q
    rw [h1.2.1, h1.2.2.2.1, h1.2.2.2.2.1]
    refine ⟨fun e0 => ⟨fun e1 => ?_, fun e1 => ?_⟩, fun e0 => ?_⟩
    · rw [if_neg e0, if_neg e1] at q; exact q
    · rw [if_neg e0, if_pos e1] at q; exact q
    · rw [if_pos e0] at q; exact q
  · obtain ⟨n1, n2, n3⟩ := neg46 hk
    exact ⟨fun z => absurd z n1, fun _ => out k (by unfold rgb; rw [h, if_neg (by omega)]) (Or.inr hk)⟩
theorem m_then {s : SG} {x y : Int32} {M : MM} {Q : Int32 → MM → Prop} (hR : RepM s M) (q : ∀ M', RepM (thenS s x y).2 M' → Lo M M' → Q (thenS s x y).1 M') : D5_then x y M Q := by
  unfold D5_then
  have hR1 := hR.thrown (x := 0)
  have hL : Lo M (up M 62 9 0) := fun p hp => up_p (by omega)
  generalize up M 62 9 0 = M1 at hR1 hL
  refine p5_wrong2 (a := 0) (b := 60) (n := 2) (by decide) (by decide) (by decide) (fun h => ?_) (fun k h hk => ?_)
  · obtain ⟨e, h2⟩ := rgb_0 h
    obtain ⟨j, -, hj, hx, hxn⟩ := rg_0 e (by decide)
    rw [show thenS s x y = ((if y = 0 then nI (mk (bS (hrs (sB s) j)) 10) else if y = 1 then nI (bP (hrs (sB s) j)) else nI (bO (hrs (sB s) j))), s) from by unfold thenS; rw [if_pos h, hxn]] at q
    refine ⟨fun _ => ?_, fun z => absurd (by decide) z⟩
    rw [hx]
    have hw := hR1.2.1
    refine km_think hR1 FrM.rf (fun M2 k2 => km_hrs (WFm hw) (by omega) (by omega) k2 (fun M3 k3 => ?_))
    rw [k3.1.2.1, k3.1.2.2.1]
    have fin : ∀ v, (if y = 0 then nI (mk (bS (hrs (sB s) j)) 10) else if y = 1 then nI (bP (hrs (sB s) j)) else nI (bO (hrs (sB s) j))) = v → D5_then_c64 Q v M3 := by
      intro v hv
      unfold D5_then_c64
      refine km_again hw k3 (fun M4 k4 => ?_)
      have q := q M4 (km_rep hR1 k4) (hL.tr k4.2.2.1.1)
      dsimp only at q
      rw [hv] at q
      exact q
    refine ⟨fun e0 => ⟨fun e1 => ?_, fun e1 => ?_⟩, fun e0 => ?_⟩
    · exact fin _ (by rw [if_neg e0, if_neg e1])
    · exact fin _ (by rw [if_neg e0, if_pos e1])
    · exact p5_standing (hrs_wf (WFm hw) j) k3.1 (fin _ (by rw [if_pos e0]))
  · refine ⟨fun z => absurd z (neg246 hk).2.1, fun _ => m_out hR1 (neg246 hk).2.2 (fun M' a b => ?_)⟩
    rw [show thenS s x y = outS s k from by unfold thenS; rw [h, if_neg (by omega)]] at q
    exact q M' a (hL.tr b)
