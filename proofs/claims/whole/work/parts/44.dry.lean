/-! PURE PART: dry, driest -/
/-- in how many of the hours 1 .. n the cell is not wet -/
def dryN (B : BV) (c : Nat) : Nat → Nat
  | 0 => 0
  | n + 1 => dryN B c n + if flP B c (n + 1) = true then 0 else 1
theorem dryN_s (B : BV) (c n : Nat) : dryN B c (n + 1) = dryN B c n + if flP B c (n + 1) = true then 0 else 1 := rfl
theorem dryN_le (B : BV) (c : Nat) : ∀ n, dryN B c n ≤ n
  | 0 => Nat.le_refl 0
  | n + 1 => by
    have := dryN_le B c n
    unfold dryN
    split <;> omega
theorem c_dry_loop {s : SG} {c : Nat} {M0 : MM} {Q : Int32 → MM → Prop} (hw : WF 10 999 (sB s)) (hc : c < 25) (q : ∀ M', FrC M0 M' → Q (nI (dryN (sB s) c 60)) M') :
    ∀ (n i : Nat) (M : MM), i ≤ 60 → 60 - i < n → KC (hrs (sB s) i) M0 M → D4_dryHours_c15 Q n (nI c) (nI (dryN (sB s) c i)) (nI (i + 1)) M := by
  intro n
  induction n with
  | zero => intro i M h1 h2; omega
  | succ n ih =>
    intro i M h1 h2 hk
    unfold D4_dryHours_c15
    rw [show (60 : Int32) = nI 60 from rfl, z_lt (by decide) (by omega)]
    refine ⟨fun z => ?_, fun z => ?_⟩
    · have e : i = 60 := by omega
      subst e
      exact q M hk.2
    · show D0_goesOn 6 (nI 1) M _
      refine kc_hrs (H := 999 + i) (hrs_wf hw i) (by omega) (by decide) hk (fun M1 k1 => ?_)
      have k1 : KC (hrs (sB s) (i + 1)) M0 M1 := k1
      refine kc_wetNow (H := 999 + (i + 1)) (hrs_wf hw (i + 1)) (by omega) k1 ?_
      refine p3_has (Nat.lt_trans (wet_lt _ _) (by decide)) (by omega) ?_
      rw [b2l_0]
      refine ⟨fun c2 => ?_, fun c2 => ?_⟩
      · have c2 : flP (sB s) c (i + 1) = false := c2
        show D4_dryHours_c15 Q n (nI c) (nI (dryN (sB s) c i) + nI 1) (nI (i + 1) + 1) M1
        rw [nI_add, nI_1, show dryN (sB s) c i + 1 = dryN (sB s) c (i + 1) from by rw [dryN_s, if_neg (by rw [c2]; decide)]]
        exact ih (i + 1) M1 (by omega) (by omega) k1
      · have c2 : flP (sB s) c (i + 1) = true := b_nf c2
        show D4_dryHours_c15 Q n (nI c) (nI (dryN (sB s) c i) + nI 0) (nI (i + 1) + 1) M1
        rw [nI_add, nI_1, show dryN (sB s) c i + 0 = dryN (sB s) c (i + 1) from by rw [dryN_s, if_pos c2]]
        exact ih (i + 1) M1 (by omega) (by omega) k1
theorem c_dryHours {s : SG} {c : Nat} {M0 M : MM} {Q : Int32 → MM → Prop} (hR : RepC s M0) (hf : FrC M0 M) (hc : c < 25) (q : ∀ M', FrC M0 M' → Q (nI (dryN (sB s) c 60)) M') : D4_dryHours (nI c) M Q := by
  unfold D4_dryHours
  refine kc_becomes hR hf (fun M1 k1 => ?_)
  exact c_dry_loop (WFm hR.2.1) hc q FU 0 M1 (by decide) (by decide) k1
def dryS (s : SG) (x : Int32) : Int32 × SG := if inN x 25 = true then (nI (dryN (sB s) x.toInt.toNat 60), s) else outS s 1
theorem c_dry {s : SG} {x : Int32} {M : MM} {Q : Int32 → MM → Prop} (hR : RepC s M) (q : ∀ M', RepC (dryS s x).2 M' → Hi M M' → Q (dryS s x).1 M') : D4_dry x M Q := by
  unfold D4_dry
  refine p4_isCell ?_
  rw [b2l_n0, b2l_0]
  refine ⟨fun h => ?_, fun h => ?_⟩
  · obtain ⟨j, hj, hx, hxn⟩ := inN_0 h (by decide)
    rw [show dryS s x = (nI (dryN (sB s) j 60), s) from by unfold dryS; rw [if_pos h, hxn]] at q
    rw [hx]
    exact c_dryHours hR FrC.rf hj (fun M' f => q M' (hR.mind f) f.hi)
  · rw [show dryS s x = outS s 1 from by unfold dryS; rw [h]; rfl] at q
    exact c_out (k := 1) hR (by decide) q
/-- the model's times beside what is thought -/
def KD (s : SG) (B : BV) (D : Nat → Nat) (M0 M : MM) : Prop := KM s B M0 M ∧ ∀ c, c < 25 → M 79 c = nI (D c)
theorem ld_cells {s : SG} {B : BV} {W t : Nat} {D : Nat → Nat} {M0 : MM} {K27 : Int32 → MM → Prop} {Q : MM → Prop} (hW : W < 2 ^ 25) (k : ∀ M', KD s B (fun c => D c + if W.testBit c = true then 0 else 1) M0 M' → K27 (nI (t + 1)) M') :
    ∀ (n i : Nat) (M : MM), i ≤ 25 → 25 - i < n → KD s B (fun c => if c < i then D c + (if W.testBit c = true then 0 else 1) else D c) M0 M → D5_layDry_c45 K27 Q n (nI t) (nI W) (nI i) M := by
  intro n
  induction n with
  | zero => intro i M h1 h2; omega
  | succ n ih =>
    intro i M h1 h2 hk
    unfold D5_layDry_c45
    rw [show (25 : Int32) = nI 25 from rfl, z_le (by decide) (by omega)]
    refine ⟨fun z => ?_, fun z => ⟨ibc ⟨by decide, rfl⟩ rfl (show i < 25 by omega) (by decide), ?_⟩⟩
    · show K27 (nI t + 1) M
      rw [nI_1]
      exact k M ⟨hk.1, fun c hc => by rw [hk.2 c hc]; simp only [show c < i by omega, if_true]⟩
    · have hi : i < 25 := by omega
      have e79 : M 79 (ix (nI i)) = nI (D i) := by rw [z_ix (by omega), hk.2 i hi]; simp
      refine p5_hasBit (Nat.lt_trans hW (by decide)) (by omega) ?_
      rw [b2l_0, e79]
      have step : ∀ v : Nat, v = (if W.testBit i = true then 0 else 1) → D5_layDry_c71 (D5_layDry_c45 K27 Q n) K27 Q (nI t) (nI W) (nI i) (nI v) (nI (D i)) (nI i) 79 M := by
        intro v hv
        unfold D5_layDry_c71
        refine ⟨ibc ⟨by decide, rfl⟩ rfl hi (by decide), ?_⟩
        dsimp only
        rw [z_ix (by omega), nI_add, nI_1]
        refine ih (i + 1) _ (by omega) (by omega) ⟨⟨?_, ?_, ?_, ?_⟩, fun c hc => ?_⟩
        · exact hk.1.1.cong (by rw [up_p (by decide)]) (by rw [up_p (by decide)]) (by rw [up_p (by decide)]) (by rw [up_p (by decide)]) (fun p a b => up_p (by omega))
        · exact hk.1.2.1.cong (up_p (by decide))
        · exact hk.1.2.2.1.tr ⟨fun q a => up_p (by omega), by rw [up_p (by decide)], by rw [up_p (by decide)], by rw [up_p (by decide)], by rw [up_p (by decide)], by rw [up_p (by decide)], up_p (by decide), up_p (by decide), up_p (by decide), up_p (by decide), up_p (by decide)⟩
        · rw [up_p (by decide)]; exact hk.1.2.2.2
        · by_cases y : c = i
          · subst y
            rw [up_s, hv]; simp
          · rw [up_k y, hk.2 c hc]
            have : (c < i + 1) = (c < i) := propext ⟨fun _ => by omega, fun _ => by omega⟩
            simp only [this]
      refine ⟨fun c2 => step 1 (by rw [c2]; rfl), fun c2 => step 0 (by rw [if_pos (by simpa using c2)])⟩
theorem ld_hours {s : SG} {M0 : MM} {Q : MM → Prop} (hw : WF 8 999 (sB s)) (k : ∀ M', KD s (sB s) (fun c => dryN (sB s) c 60) M0 M' → Q M') :
    ∀ (n i : Nat) (M : MM), i ≤ 60 → 60 - i < n → KD s (hrs (sB s) i) (fun c => dryN (sB s) c i) M0 M → D5_layDry_c27 Q n (nI (i + 1)) M := by
  intro n
  induction n with
  | zero => intro i M h1 h2; omega
  | succ n ih =>
    intro i M h1 h2 hk
    unfold D5_layDry_c27
    rw [show (60 : Int32) = nI 60 from rfl, z_lt (by decide) (by omega)]
    refine ⟨fun z => ?_, fun z => ?_⟩
    · have e : i = 60 := by omega
      subst e
      unfold D5_layDry_c85
      refine p5_again hw hk.1.2.1 (fun M1 h1 t1 f1 => k M1 ⟨⟨h1, t1, hk.1.2.2.1.tr (FrT75.M f1), by rw [(FrT75.M f1).2.1]; exact hk.1.2.2.2⟩, fun c hc => ?_⟩)
      rw [f1 79 c (by decide) (fun e => by omega) (by decide)]
      exact hk.2 c hc
    · show D5_hourBy (nI 0) M _
      refine p5_hourBy (H := 999 + i) (pay := 0) (hrs_wf (WFm hw) i) (by omega) hk.1.1 (by decide) (by decide) hk.1.2.2.2 (fun M2 h2' f2 => ?_)
      have h2' : RM (hrs (sB s) (i + 1)) M2 := h2'
      have k2 := f2.km hk.1 h2'
      refine m_wetNow (H := 999 + (i + 1)) (hrs_wf (WFm hw) (i + 1)) (by omega) h2' (fun M3 h3 f3 => ?_)
      have k3 := f3.H.km k2 h3
      refine ld_cells (D := fun c => dryN (sB s) c i) (t := i + 1) (wet_lt _ _) (fun M' k' => ?_) FU 0 M3 (by decide) (by decide) ⟨k3, fun c hc => ?_⟩
      · exact ih (i + 1) M' (by omega) (by omega) k'
      · rw [f3.1 79 (by decide) (by decide) (by decide), f2.1 79 (by decide) (by decide) (by decide) (by decide) (by decide), hk.2 c hc]
        simp
theorem ld_zero {s : SG} {M0 : MM} {Q : MM → Prop} (hR : RepM s M0) (k : ∀ M', KD s (sB s) (fun c => dryN (sB s) c 60) M0 M' → Q M') :
    ∀ (n i : Nat) (M : MM), i ≤ 25 → 25 - i < n → RepM s M → FrM M0 M → (∀ c, c < i → M 79 c = nI 0) → D5_layDry_c2 Q n (nI i) M := by
  intro n
  induction n with
  | zero => intro i M h1 h2; omega
  | succ n ih =>
    intro i M h1 h2 hR' hf hz
    unfold D5_layDry_c2
    rw [show (25 : Int32) = nI 25 from rfl, z_le (by decide) (by omega)]
    refine ⟨fun z => ?_, fun z => ⟨ibc ⟨by decide, rfl⟩ rfl (show i < 25 by omega) (by decide), ?_⟩⟩
    · unfold D5_layDry_c21
      refine p5_think hR'.2.1 hR'.1 (fun M1 h1 t1 f1 => ?_)
      refine ld_hours hR'.2.1 k FU 0 M1 (by decide) (by decide) ⟨⟨h1, t1, hf.tr (FrT75.M f1), by rw [(FrT75.M f1).2.1]; exact hR'.2.2.2.2.2.2.2⟩, fun c hc => ?_⟩
      rw [f1 79 c (by decide) (fun e => by omega) (by decide)]
      exact hz c (by omega)
    · have g : FrM M (up M 79 i (nI 0)) := ⟨fun q a => up_p (by omega), by rw [up_p (by decide)], by rw [up_p (by decide)], by rw [up_p (by decide)], by rw [up_p (by decide)], by rw [up_p (by decide)], up_p (by decide), up_p (by decide), up_p (by decide), up_p (by decide), up_p (by decide)⟩
      dsimp only
      rw [z_ix (by omega), nI_1]
      refine ih (i + 1) (up M 79 i (nI 0)) (by omega) (by omega) (hR'.mind g ?_) (hf.tr g) (fun c hc => ?_)
      · exact hR'.1.cong (by rw [up_p (by decide)]) (by rw [up_p (by decide)]) (by rw [up_p (by decide)]) (by rw [up_p (by decide)]) (fun p a b => up_p (by omega))
      · by_cases y : c = i
        · subst y; rw [up_s]
        · rw [up_k y]; exact hz c (by omega)
theorem m_layDry {s : SG} {M : MM} {Q : MM → Prop} (hR : RepM s M) (k : ∀ M', KD s (sB s) (fun c => dryN (sB s) c 60) M M' → Q M') : D5_layDry M Q :=
  ld_zero hR k FU 0 M (by decide) (by decide) hR FrM.rf (fun c h => by omega)
theorem m_dry {s : SG} {x : Int32} {M : MM} {Q : Int32 → MM → Prop} (hR : RepM s M) (q : ∀ M', RepM (dryS s x).2 M' → Lo M M' → Q (dryS s x).1 M') : D5_dry x M Q := by
  unfold D5_dry
  have hR1 := hR.thrown (x := 0)
  have hL : Lo M (up M 62 9 0) := fun p hp => up_p (by omega)
  generalize up M 62 9 0 = M1 at hR1 hL
  refine p5_isCell ?_
  rw [b2l_n0, b2l_0]
  refine ⟨fun h => ?_, fun h => ?_⟩
  · obtain ⟨j, hj, hx, hxn⟩ := inN_0 h (by decide)
    rw [show dryS s x = (nI (dryN (sB s) j 60), s) from by unfold dryS; rw [if_pos h, hxn]] at q
    rw [hx]
    refine m_layDry hR1 (fun M' k => ⟨ibc ⟨by decide, rfl⟩ rfl hj (by decide), ?_⟩)
    rw [z_ix (by omega), k.2 j hj]
    exact q M' (km_rep hR1 k.1) (hL.tr k.1.2.2.1.1)
  · rw [show dryS s x = outS s 1 from by unfold dryS; rw [h]; rfl] at q
    exact m_out (k := 1) hR1 (by decide) (fun M' a b => q M' a (hL.tr b))
/-- the first of 0 .. n that is greatest -/
def amx (f : Nat → Nat) : Nat → Nat
  | 0 => 0
  | n + 1 => if f (n + 1) ≤ f (amx f n) then amx f n else n + 1
theorem amx_le (f : Nat → Nat) : ∀ n, amx f n ≤ n
  | 0 => Nat.le_refl 0
  | n + 1 => by
    have := amx_le f n
    unfold amx
    split <;> omega
def driestS (s : SG) (x : Int32) : Int32 × SG := if inN x 2 = true then ((if x = 0 then nI (amx (fun c => dryN (sB s) c 60) 24) else nI (dryN (sB s) (amx (fun c => dryN (sB s) c 60) 24) 60)), s) else outS s 2
theorem c_driest_loop {s : SG} {x : Int32} {M0 : MM} {Q : Int32 → MM → Prop} (hR : RepC s M0) (q : ∀ M', FrC M0 M' → Q (if x = 0 then nI (amx (fun c => dryN (sB s) c 60) 24) else nI (dryN (sB s) (amx (fun c => dryN (sB s) c 60) 24) 60)) M') :
    ∀ (n i : Nat) (M : MM), i ≤ 24 → 24 - i < n → FrC M0 M → D4_driest_c24 Q n x (nI (amx (fun c => dryN (sB s) c 60) i)) (nI (dryN (sB s) (amx (fun c => dryN (sB s) c 60) i) 60)) (nI (i + 1)) M := by
  intro n
  induction n with
  | zero => intro i M h1 h2; omega
  | succ n ih =>
    intro i M h1 h2 hf
    have d1 := dryN_le (sB s) (amx (fun c => dryN (sB s) c 60) i) 60
    unfold D4_driest_c24
    rw [show (25 : Int32) = nI 25 from rfl, z_le (by decide) (by omega)]
    refine ⟨fun z => ?_, fun z => ?_⟩
    · have e : i = 24 := by omega
      subst e
      have q := q M hf
      refine ⟨fun z => ?_, fun z => ?_⟩
      · rw [if_neg z] at q; exact q
      · rw [if_pos z] at q; exact q
    · refine c_dryHours hR hf (by omega) (fun M' f' => ?_)
      have d2 := dryN_le (sB s) (i + 1) 60
      rw [z_le (by omega) (by omega)]
      refine ⟨fun c => ?_, fun c => ?_⟩
      · have ih := ih (i + 1) M' (by omega) (by omega) f'
        rw [show amx (fun c => dryN (sB s) c 60) (i + 1) = amx (fun c => dryN (sB s) c 60) i from if_pos c] at ih
        show D4_driest_c24 Q n x _ _ (nI (i + 1) + 1) M'
        rw [nI_1]; exact ih
      · have ih := ih (i + 1) M' (by omega) (by omega) f'
        rw [show amx (fun c => dryN (sB s) c 60) (i + 1) = i + 1 from if_neg c] at ih
        show D4_driest_c24 Q n x _ _ (nI (i + 1) + 1) M'
        rw [nI_1]; exact ih
theorem c_driest {s : SG} {x : Int32} {M : MM} {Q : Int32 → MM → Prop} (hR : RepC s M) (q : ∀ M', RepC (driestS s x).2 M' → Hi M M' → Q (driestS s x).1 M') : D4_driest x M Q := by
  unfold D4_driest D4_driest_c9
  refine what_cases (n := 1) (by decide) (fun h => ?_) (fun h => ?_)
  · rw [show driestS s x = ((if x = 0 then nI (amx (fun c => dryN (sB s) c 60) 24) else nI (dryN (sB s) (amx (fun c => dryN (sB s) c 60) 24) 60)), s) from if_pos h] at q
    show D4_driest_c24 Q (4095 + 1) x (nI 0) (-9) (nI 0) M
    unfold D4_driest_c24
    refine ⟨fun z => absurd z (by decide), fun _ => ?_⟩
    refine c_dryHours hR FrC.rf (by decide) (fun M' f' => ?_)
    have d2 := dryN_le (sB s) 0 60
    refine ⟨fun z => ?_, fun _ => ?_⟩
    · rw [i_le, i_n (by omega), show (-9 : Int32).toInt = -9 from by decide] at z
      omega
    · exact c_driest_loop hR (fun M' f => q M' (hR.mind f) f.hi) 4095 0 M' (by decide) (by decide) f'
  · rw [show driestS s x = outS s 2 from by unfold driestS; rw [h]; rfl] at q
    exact c_out (k := 2) hR (by decide) q
theorem m_driest_loop {s : SG} {x : Int32} {M : MM} {Q : Int32 → MM → Prop} (hd : ∀ c, c < 25 → M 79 c = nI (dryN (sB s) c 60)) (q : Q (if x = 0 then nI (amx (fun c => dryN (sB s) c 60) 24) else nI (dryN (sB s) (amx (fun c => dryN (sB s) c 60) 24) 60)) M) :
    ∀ (n i : Nat), i ≤ 24 → 24 - i < n → D5_driest_c30 Q n x (nI (amx (fun c => dryN (sB s) c 60) i)) (nI (i + 1)) M := by
  intro n
  induction n with
  | zero => intro i h1 h2; omega
  | succ n ih =>
    intro i h1 h2
    have a1 := amx_le (fun c => dryN (sB s) c 60) i
    have d1 := dryN_le (sB s) (amx (fun c => dryN (sB s) c 60) i) 60
    unfold D5_driest_c30
    rw [show (25 : Int32) = nI 25 from rfl, z_le (by decide) (by omega)]
    refine ⟨fun z => ?_, fun z => ⟨ibc ⟨by decide, rfl⟩ rfl (show i + 1 < 25 by omega) (by decide), ibc ⟨by decide, rfl⟩ rfl (show amx (fun c => dryN (sB s) c 60) i < 25 by omega) (by decide), ?_⟩⟩
    · have e : i = 24 := by omega
      subst e
      refine ⟨fun z => ⟨ibc ⟨by decide, rfl⟩ rfl (show amx (fun c => dryN (sB s) c 60) 24 < 25 by omega) (by decide), ?_⟩, fun z => ?_⟩
      · rw [if_neg z] at q
        rw [z_ix (by omega), hd _ (by omega)]; exact q
      · rw [if_pos z] at q; exact q
    · have d2 := dryN_le (sB s) (i + 1) 60
      rw [z_ix (by omega), z_ix (by omega), hd _ (by omega), hd _ (by omega), z_le (by omega) (by omega)]
      refine ⟨fun c => ?_, fun c => ?_⟩
      · have ih := ih (i + 1) (by omega) (by omega)
        rw [show amx (fun c => dryN (sB s) c 60) (i + 1) = amx (fun c => dryN (sB s) c 60) i from if_pos c] at ih
        show D5_driest_c30 Q n x _ (nI (i + 1) + 1) M
        rw [nI_1]; exact ih
      · have ih := ih (i + 1) (by omega) (by omega)
        rw [show amx (fun c => dryN (sB s) c 60) (i + 1) = i + 1 from if_neg c] at ih
        show D5_driest_c30 Q n x _ (nI (i + 1) + 1) M
        rw [nI_1]; exact ih
theorem m_driest {s : SG} {x : Int32} {M : MM} {Q : Int32 → MM → Prop} (hR : RepM s M) (q : ∀ M', RepM (driestS s x).2 M' → Lo M M' → Q (driestS s x).1 M') : D5_driest x M Q := by
  unfold D5_driest
  have hR1 := hR.thrown (x := 0)
  have hL : Lo M (up M 62 9 0) := fun p hp => up_p (by omega)
  generalize up M 62 9 0 = M1 at hR1 hL
  refine p5_inL (a := 0) (n := 1) (by decide) (by decide) ?_
  rw [b2l_n0, b2l_0]
  refine ⟨fun h => ?_, fun h => ?_⟩
  · rw [show driestS s x = ((if x = 0 then nI (amx (fun c => dryN (sB s) c 60) 24) else nI (dryN (sB s) (amx (fun c => dryN (sB s) c 60) 24) 60)), s) from if_pos h] at q
    refine m_layDry hR1 (fun M' k => ?_)
    exact m_driest_loop k.2 (q M' (km_rep hR1 k.1) (hL.tr k.1.2.2.1.1)) FU 0 (by decide) (by decide)
  · rw [show driestS s x = outS s 2 from by unfold driestS; rw [h]; rfl] at q
    exact m_out (k := 2) hR1 (by decide) (fun M' a b => q M' a (hL.tr b))
