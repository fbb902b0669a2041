/-! PURE PART: lots -/
def sdN (z : Int32) : Int32 := z * 1103515245 + 12345
def drN (z : Int32) : Nat := z.toBitVec.toNat % 2 ^ 31 / 65536 % 6
theorem drN_lt (z : Int32) : drN z < 6 := Nat.mod_lt _ (by decide)
theorem drN_i (z : Int32) : ((z &&& (2147483647 : Int32)) / (65536 : Int32)) - ((z &&& (2147483647 : Int32)) / (65536 : Int32)) / (6 : Int32) * (6 : Int32) = nI (drN z) := by
  have h : z.toBitVec.toNat % 2 ^ 31 < 2 ^ 31 := Nat.mod_lt _ (by decide)
  have h2 : z.toBitVec.toNat % 2 ^ 31 / 65536 < 2 ^ 31 := Nat.lt_of_le_of_lt (Nat.div_le_self _ _) h
  rw [pk_and z 31 (by decide), show (65536 : Int32) = nI 65536 from rfl, pk_div h (by decide) (by decide), show (6 : Int32) = nI 6 from rfl, pk_rem h2 (by decide) (by decide)]
  rfl
def ltW (B : BV) (z : Int32) : Nat → BV × Int32
  | 0 => (B, z)
  | w + 1 => if bS (ltW B z w).1 w = true then (bWear (ltW B z w).1 w (drN (sdN (ltW B z w).2)), sdN (ltW B z w).2) else ltW B z w
theorem ltW_wf {B : BV} {z : Int32} {n H : Nat} (h : WF n H B) : ∀ w, WF n H (ltW B z w).1 ∧ bN (ltW B z w).1 = bN B
  | 0 => ⟨h, rfl⟩
  | w + 1 => by
    have ih := ltW_wf (z := z) h w
    unfold ltW
    split
    · exact ⟨ih.1.wear (Nat.lt_trans (drN_lt _) (by decide)), ih.2⟩
    · exact ih
theorem ltW_end {B : BV} {z : Int32} {n H : Nat} (h : WF n H B) : ∀ w, bN B ≤ w → ltW B z w = ltW B z (bN B) := by
  intro w
  induction w with
  | zero => intro hw; rw [show bN B = 0 by omega]
  | succ w ih =>
    intro hw
    rcases Nat.eq_or_lt_of_le hw with y | y
    · rw [y]
    · have hs : ¬ bS (ltW B z w).1 w = true := by
        intro e
        have := (ltW_wf (z := z) h w).1.2.2.1 w e
        rw [(ltW_wf (z := z) h w).2] at this
        omega
      show (if bS (ltW B z w).1 w = true then _ else _) = _
      rw [if_neg hs, ih (by omega)]
def ltV (B : BV) (y : Int32) : Int32 := if y = 0 then nI (pcf 25 (mk (bS B) 10)) else nI (bP B)
def ltL (B : BV) (y z : Int32) : Nat → Int32 × Int32
  | 0 => (0, z)
  | n + 1 => ((ltL B y z n).1 + ltV (hrs (ltW B (ltL B y z n).2 8).1 12) y, (ltW B (ltL B y z n).2 8).2)
def lotsS (s : SG) (x z y : Int32) : Int32 × SG := if rgb x 1 20 y 1 = 0 then ((ltL (sB s) y z x.toInt.toNat).1, s) else outS s (rgb x 1 20 y 1)
theorem c_lots_in {s : SG} {t : Nat} {x3 x6 x7 z : Int32} {M0 : MM} {K46 : Int32 → Int32 → Int32 → Int32 → Int32 → MM → Prop} {Q : Int32 → MM → Prop} (hw : WF 10 999 (sB s)) (k : ∀ M', FrC M0 M' → K46 (nI t) x3 (ltW (sB s) z 8).2 (x6 + ltV (hrs (ltW (sB s) z 8).1 12) x3) (x7 + 1) M') :
    ∀ (n w : Nat) (M : MM), w ≤ 8 → 8 - w < n → KC (ltW (sB s) z w).1 M0 M → D4_lots_c66 K46 Q n (nI t) x3 (ltW (sB s) z w).2 x6 x7 (nI w) M := by
  intro n
  induction n with
  | zero => intro w M h1 h2; omega
  | succ n ih =>
    intro w M h1 h2 hk
    obtain ⟨hwl, hNl⟩ := ltW_wf (z := z) hw w
    unfold D4_lots_c66
    rw [show (8 : Int32) = nI 8 from rfl, z_le (by decide) (by omega)]
    refine ⟨fun y => ?_, fun y => ?_⟩
    · have e : w = 8 := by omega
      subst e
      unfold D4_lots_c125
      show D0_goesOn 6 (nI 12) M _
      refine kc_hrs (H := 999) hwl (by omega) (by decide) hk (fun M' k' => ?_)
      have k := k M' k'.2
      unfold ltV at k
      refine ⟨fun y0 => ?_, fun y0 => ?_⟩
      · rw [if_neg y0] at k
        rw [k'.1.2.2.2.1]
        exact k
      · rw [if_pos y0] at k
        exact p0_standingWorks k'.1 k
    · refine p0_stands hk.1.2.1 (by omega) ?_
      rw [b2l_0]
      have nx : ∀ M' r, ltW (sB s) z (w + 1) = r → KC r.1 M0 M' → D4_lots_c119 (D4_lots_c66 K46 Q n) K46 Q (nI t) x3 r.2 x6 x7 (nI w) M' := by
        intro M' r e k'
        have ih := ih (w + 1) M' (by omega) (by omega)
        rw [e] at ih
        show D4_lots_c66 K46 Q n (nI t) x3 r.2 x6 x7 (nI w + 1) M'
        rw [nI_1]; exact ih k'
      refine ⟨fun e => ?_, fun e => ?_⟩
      · exact nx M _ (if_neg (by rw [e]; decide)) hk
      · have e := b_nf e
        dsimp only
        rw [show (ltW (sB s) z w).2 * 1103515245 + 12345 = sdN (ltW (sB s) z w).2 from rfl, drN_i]
        refine p0_wears isB6 hk.1 hwl.1 (hwl.2.2.1 w e) (fun M' h' f' => ?_)
        exact nx M' (bWear (ltW (sB s) z w).1 w (drN (sdN (ltW (sB s) z w).2)), sdN (ltW (sB s) z w).2) (if_pos e) ⟨h', hk.2.tr (fun p a _ => f' p (by omega))⟩
theorem c_lots_out {s : SG} {t : Nat} {x3 z : Int32} {M0 : MM} {Q : Int32 → MM → Prop} (hR : RepC s M0) (ht : t ≤ 20) (q : ∀ M', FrC M0 M' → Q (ltL (sB s) x3 z t).1 M') :
    ∀ (n i : Nat) (M : MM), i ≤ t → t - i < n → FrC M0 M → D4_lots_c46 Q n (nI t) x3 (ltL (sB s) x3 z i).2 (ltL (sB s) x3 z i).1 (nI i) M := by
  intro n
  induction n with
  | zero => intro i M h1 h2; omega
  | succ n ih =>
    intro i M h1 h2 hf
    unfold D4_lots_c46
    rw [z_le (by omega) (by omega)]
    refine ⟨fun y => ?_, fun y => ?_⟩
    · have e : i = t := by omega
      subst e
      exact q M hf
    · refine kc_becomes hR hf (fun M1 k1 => ?_)
      refine c_lots_in (t := t) (z := (ltL (sB s) x3 z i).2) (WFm hR.2.1) (fun M' f' => ?_) FU 0 M1 (by decide) (by decide) k1
      rw [nI_1]
      exact ih (i + 1) M' (by omega) (by omega) f'
theorem c_lots {s : SG} {x z y : Int32} {M : MM} {Q : Int32 → MM → Prop} (hR : RepC s M) (q : ∀ M', RepC (lotsS s x z y).2 M' → Hi M M' → Q (lotsS s x z y).1 M') : D4_lots x z y M Q := by
  unfold D4_lots D4_lots_c30
  have out : ∀ k, rgb x 1 20 y 1 = k → (k = 2 ∨ k = 4 ∨ k = 6) → D4_refused (-(nI k)) M Q := by
    intro k h hk
    refine c_out hR (neg246 hk).2.2 ?_
    rw [show lotsS s x z y = outS s k from by unfold lotsS; rw [h, if_neg (by omega)]] at q
    exact q
  refine p4_outside (a := 1) (b := 20) (by decide) (by decide) (fun h => ?_) (fun k h hk => ?_)
  · refine ⟨fun _ => ?_, fun z => absurd rfl z⟩
    refine what_cases (n := 1) (by decide) (fun h2 => ?_) (fun h2 => out 2 (by unfold rgb; rw [if_pos h, h2]; rfl) (Or.inl rfl))
    obtain ⟨j, -, hj, hx, hxn⟩ := rg_0 h (by decide)
    rw [show lotsS s x z y = ((ltL (sB s) y z j).1, s) from by unfold lotsS; rw [if_pos (by unfold rgb; rw [if_pos h, if_pos h2]), hxn]] at q
    rw [hx]
    exact c_lots_out hR hj (fun M' f => q M' (hR.mind f) f.hi) FU 0 M (Nat.zero_le _) (Nat.lt_of_le_of_lt (Nat.le_trans (Nat.sub_le _ _) hj) (by decide)) FrC.rf
  · obtain ⟨n1, n2, n3⟩ := neg46 hk
    exact ⟨fun z => absurd z n1, fun _ => out k (by unfold rgb; rw [h, if_neg (by omega)]) (Or.inr hk)⟩
/-- beside what is thought, the seed -/
def KS (s : SG) (B : BV) (z : Int32) (M0 M : MM) : Prop := KM s B M0 M ∧ M 62 39 = z
theorem m_lots_in {s : SG} {t : Nat} {x3 x5 x6 z : Int32} {M0 : MM} {K46 : Int32 → Int32 → Int32 → Int32 → MM → Prop} {Q : Int32 → MM → Prop} (hs : WF 8 999 (sB s)) (k : ∀ M', KS s (sB s) (ltW (sB s) z 8).2 M0 M' → K46 (nI t) x3 (x5 + ltV (hrs (ltW (sB s) z 8).1 12) x3) (x6 + 1) M') :
    ∀ (n w : Nat) (M : MM), w ≤ bN (sB s) → bN (sB s) - w < n → KS s (ltW (sB s) z w).1 (ltW (sB s) z w).2 M0 M → D5_lots_c55 K46 Q n (nI t) x3 x5 x6 (nI w) M := by
  have hw := WFm hs
  have hn := hs.1
  intro n
  induction n with
  | zero => intro w M h1 h2; omega
  | succ n ih =>
    intro w M h1 h2 hk
    obtain ⟨hwl, hNl⟩ := ltW_wf (z := z) hw w
    unfold D5_lots_c55
    rw [hk.1.1.1, hNl, z_le (by omega) (by omega)]
    refine ⟨fun y => ?_, fun y => ⟨ibc ⟨by decide, rfl⟩ rfl (show w < 10 by omega) (by decide), ?_⟩⟩
    · have e : w = bN (sB s) := by omega
      rw [ltW_end hw 8 hn, ← e] at k
      unfold D5_lots_c103
      show D5_goHours (nI 12) M _
      refine p5_goHours (H := 999) hwl (by decide) (by decide) hk.1.2.2.2 hk.1.1 (fun M2 r2 f2 => ?_)
      have k2 := f2.km hk.1 r2
      have s2 : M2 62 39 = (ltW (sB s) z w).2 := by rw [f2.2 39 (by decide) (by decide) (by decide) (by decide) (by decide)]; exact hk.2
      have fin : ∀ v, v = ltV (hrs (ltW (sB s) z w).1 12) x3 → D5_lots_c129 K46 Q (nI t) x3 x6 v x5 M2 := by
        intro v hv
        unfold D5_lots_c129
        refine p5_again hs k2.2.1 (fun M3 r3 t3 f3 => ?_)
        rw [hv]
        exact k M3 ⟨⟨r3, t3, k2.2.2.1.tr (FrT75.M f3), by rw [(FrT75.M f3).2.1]; exact k2.2.2.2⟩, by rw [f3 62 39 (by decide) (fun _ => by decide) (by decide)]; exact s2⟩
      refine ⟨fun y0 => ?_, fun y0 => ?_⟩
      · rw [r2.2.1]
        exact fin _ (by unfold ltV; rw [if_neg y0])
      · refine p5_standing (H := 999 + 12) (hrs_wf hwl 12) r2 ?_
        refine p5_onesOf (Nat.lt_trans (mk_lt _ 10) (by decide)) ?_
        exact fin _ (by unfold ltV; rw [if_pos y0])
    · have hwn : w < bN (sB s) := by omega
      obtain ⟨m1, m2, m3, m4, m5⟩ := hk.1.1.2.2.2.2 w (by rw [hNl]; exact hwn)
      rw [z_ix (show w < 2 ^ 31 by omega), m5]
      have nx : ∀ M' r, ltW (sB s) z (w + 1) = r → KS s r.1 r.2 M0 M' → D5_lots_c55 K46 Q n (nI t) x3 x5 x6 (nI w + 1) M' := by
        intro M' r e k'
        have ih := ih (w + 1) M' (by omega) (by omega)
        rw [e] at ih
        rw [nI_1]; exact ih k'
      refine ⟨fun c2 => ⟨ibc ⟨by decide, rfl⟩ rfl (show w < 10 by omega) (by decide), ?_⟩, fun c2 => ?_⟩
      · have es : bS (ltW (sB s) z w).1 w = false := by
          cases h : bS (ltW (sB s) z w).1 w
          · rfl
          · rw [h] at c2; exact absurd rfl c2
        unfold D5_lots_c96
        refine ⟨ibc ⟨by decide, rfl⟩ rfl (show w < 10 by omega) (by decide), ?_⟩
        dsimp only
        rw [z_ix (show w < 2 ^ 31 by omega), up_id]
        exact nx M _ (if_neg (by rw [es]; decide)) hk
      · have es : bS (ltW (sB s) z w).1 w = true := by
          cases h : bS (ltW (sB s) z w).1 w
          · rw [h] at c2; exact absurd c2 (by decide)
          · rfl
        unfold D5_drawBelow D5_lots_c96
        dsimp only
        refine ⟨by decide, ibc ⟨by decide, rfl⟩ rfl (show w < 10 by omega) (by decide), ?_⟩
        rw [hk.2, show (ltW (sB s) z w).2 * 1103515245 + 12345 = sdN (ltW (sB s) z w).2 from rfl, up_s, drN_i, z_ix (show w < 2 ^ 31 by omega)]
        have g1 : KM s (ltW (sB s) z w).1 M0 (up M 62 39 (sdN (ltW (sB s) z w).2)) := ⟨hk.1.1.slot (by decide), hk.1.2.1.cong (up_p (by decide)), hk.1.2.2.1.tr (FrM.slot (by decide)), by rw [up_k (by decide)]; exact hk.1.2.2.2⟩
        refine nx _ _ (if_pos es) ⟨g1.set (by decide) (by decide) g1.1.wear, ?_⟩
        rw [up_p (by decide), up_s]
theorem m_lots_out {s : SG} {t : Nat} {x3 z : Int32} {M0 : MM} {Q : Int32 → MM → Prop} (hs : WF 8 999 (sB s)) (ht : t ≤ 20) (q : ∀ M', KM s (sB s) M0 M' → Q (ltL (sB s) x3 z t).1 M') :
    ∀ (n i : Nat) (M : MM), i ≤ t → t - i < n → KS s (sB s) (ltL (sB s) x3 z i).2 M0 M → D5_lots_c46 Q n (nI t) x3 (ltL (sB s) x3 z i).1 (nI i) M := by
  have hn := hs.1
  intro n
  induction n with
  | zero => intro i M h1 h2; omega
  | succ n ih =>
    intro i M h1 h2 hk
    unfold D5_lots_c46
    rw [z_le (by omega) (by omega)]
    refine ⟨fun y => ?_, fun y => ?_⟩
    · have e : i = t := by omega
      subst e
      exact q M hk.1
    · refine m_lots_in (t := t) (z := (ltL (sB s) x3 z i).2) hs (fun M' k' => ?_) FU 0 M (Nat.zero_le _) (Nat.lt_of_le_of_lt (Nat.le_trans (Nat.sub_le _ _) hn) (by decide)) hk
      rw [nI_1]
      exact ih (i + 1) M' (by omega) (by omega) k'
theorem m_lots {s : SG} {x z y : Int32} {M : MM} {Q : Int32 → MM → Prop} (hR : RepM s M) (q : ∀ M', RepM (lotsS s x z y).2 M' → Lo M M' → Q (lotsS s x z y).1 M') : D5_lots x z y M Q := by
  unfold D5_lots
  have hR1 := hR.thrown (x := 0)
  have hL : Lo M (up M 62 9 0) := fun p hp => up_p (by omega)
  generalize up M 62 9 0 = M1 at hR1 hL
  refine p5_wrong2 (a := 1) (b := 20) (n := 1) (by decide) (by decide) (by decide) (fun h => ?_) (fun k h hk => ?_)
  · obtain ⟨e, h2⟩ := rgb_0 h
    obtain ⟨j, -, hj, hx, hxn⟩ := rg_0 e (by decide)
    rw [show lotsS s x z y = ((ltL (sB s) y z j).1, s) from by unfold lotsS; rw [if_pos h, hxn]] at q
    rw [hx]
    refine ⟨fun _ => ?_, fun z => absurd (by decide) z⟩
    have f2 : FrM M1 (up M1 62 39 z) := FrM.slot (by decide)
    have hR2 : RepM s (up M1 62 39 z) := hR1.mind f2 (hR1.1.slot (by decide))
    refine p5_think hR2.2.1 hR2.1 (fun M3 r3 t3 f3 => ?_)
    refine m_lots_out (M0 := M1) hR1.2.1 hj (fun M' k => q M' (km_rep hR1 k) (hL.tr k.2.2.1.1)) FU 0 M3 (Nat.zero_le _) (Nat.lt_of_le_of_lt (Nat.le_trans (Nat.sub_le _ _) hj) (by decide)) ⟨⟨r3, t3, f2.tr (FrT75.M f3), by rw [(FrT75.M f3).2.1]; exact hR2.2.2.2.2.2.2.2⟩, ?_⟩
    rw [f3 62 39 (by decide) (fun _ => by decide) (by decide), up_s]
    rfl
  · refine ⟨fun z => absurd z (neg246 hk).2.1, fun _ => m_out hR1 (neg246 hk).2.2 (fun M' a b => ?_)⟩
    rw [show lotsS s x z y = outS s k from by unfold lotsS; rw [h, if_neg (by omega)]] at q
    exact q M' a (hL.tr b)
