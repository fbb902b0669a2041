/-! PURE PART: what it was, how high -/
theorem up_id {M : MM} {p k : Nat} : up M p k (M p k) = M := by
  funext q j
  unfold up
  by_cases h : q = p
  · rw [if_pos h]
    by_cases h2 : j = k
    · rw [if_pos h2, h, h2]
    · rw [if_neg h2, h]
  · rw [if_neg h]
/-- the i-th of the row -/
def rwN (l : List Nat) (i : Nat) : Nat := l[i]?.getD 0
theorem rwN_s {l : List Nat} {i : Nat} (h : i < l.length) : l[i]? = some (rwN l i) := by
  unfold rwN
  rw [List.getElem?_eq_getElem h]; rfl
theorem RwC.at {l : List Nat} {M : MM} (h : RwC l M) {i : Nat} (hi : i < l.length) : M 59 i = nI (rwN l i) ∧ rwN l i < 100 := h.2.2 i _ (rwN_s hi)
theorem RwM.at {l : List Nat} {M : MM} (h : RwM l M) {i : Nat} (hi : i < l.length) : M 81 i = nI (rwN l i) ∧ rwN l i < 100 := h.2.2 i _ (rwN_s hi)
/-- worn as told -/
def asW (B : BV) (w : Nat) (l : List Nat) : Bool := decide (∀ k, k < l.length → bW (hrs B k) w = rwN l k)
theorem asW_t {B : BV} {w : Nat} {l : List Nat} (h : ∀ k, k < l.length → bW (hrs B k) w = rwN l k) : asW B w l = true := decide_eq_true h
theorem asW_f {B : BV} {w k : Nat} {l : List Nat} (hk : k < l.length) (h : bW (hrs B k) w ≠ rwN l k) : asW B w l = false := decide_eq_false (fun z => h (z k hk))
theorem c_wears_loop {s : SG} {B : BV} {w : Nat} {M0 : MM} {Q : Int32 → MM → Prop} (hR : RepC s M0) (hw : WF 10 999 B) (hj : w < bN B) (q : ∀ M', FrC M0 M' → Q (b2 (asW B w (sR s))) M') :
    ∀ (n i : Nat) (M : MM), i ≤ (sR s).length → (sR s).length - i < n → (∀ k, k < i → bW (hrs B k) w = rwN (sR s) k) → KC (hrs B i) M0 M → D4_wearsAsTold_c2 Q n (nI w) (nI i) M := by
  have hlen := hR.2.2.2.2.2.1.2.1
  intro n
  induction n with
  | zero => intro i M h1 h2; omega
  | succ n ih =>
    intro i M h1 h2 he hk
    have hRM := hR.mind hk.2
    have hrw := hRM.2.2.2.2.2.1
    unfold D4_wearsAsTold_c2
    rw [hrw.1, show (12 : Int32) = nI 12 from rfl, z_le (by omega) (by omega), z_le (by decide) (by omega)]
    have q := q M hk.2
    refine ⟨fun z => ?_, fun z => ⟨fun z2 => by omega, fun _ => ?_⟩⟩
    · rw [asW_t (fun k hk => he k (by omega))] at q; exact q
    · have hi : i < (sR s).length := by omega
      have hwi := hrs_wf hw i
      have hNi : w < bN (hrs B i) := by rw [hrs_N]; exact hj
      obtain ⟨r1, r2⟩ := hrw.at hi
      have d := (hwi.2.1 w hNi).2.2.2
      refine p0_wornOf isB6 hk.1.1 hwi.1 hNi ⟨ibc ⟨by decide, rfl⟩ rfl (show i < 12 by omega) (by decide), ?_⟩
      rw [z_ix (by omega), r1, (hk.1.2.2.2.2.2 w hNi).2.2.2, z_eq (by omega) (by omega)]
      refine ⟨fun e => ?_, fun e => ?_⟩
      · show D0_goesOn 6 (nI 1) M _
        refine kc_hrs (H := 999 + i) hwi (by omega) (by decide) hk (fun M' k' => ?_)
        show D4_wearsAsTold_c2 Q n (nI w) (nI i + 1) M'
        rw [nI_1]
        refine ih (i + 1) M' (by omega) (by omega) (fun k hk => ?_) k'
        by_cases y : k = i
        · rw [y]; exact e
        · exact he k (by omega)
      · rw [asW_f hi e] at q; exact q
theorem c_wears {s : SG} {B : BV} {w : Nat} {M0 M : MM} {Q : Int32 → MM → Prop} (hR : RepC s M0) (hw : WF 10 999 B) (hj : w < bN B) (hk : KC B M0 M) (q : ∀ M', FrC M0 M' → Q (b2 (asW B w (sR s))) M') : D4_wearsAsTold (nI w) M Q :=
  c_wears_loop hR hw hj q FU 0 M (Nat.zero_le _) (Nat.lt_of_le_of_lt (Nat.le_trans (Nat.sub_le _ _) hR.2.2.2.2.2.1.2.1) (by decide)) (fun k h => by omega) hk
theorem m_isRow_loop {s : SG} {B : BV} {w : Nat} {M0 : MM} {Q : Int32 → MM → Prop} (hR : RepM s M0) (hw : WF 10 999 B) (hj : w < bN B) (q : ∀ M', KM s (sB s) M0 M' → Q (b2 (asW B w (sR s))) M') :
    ∀ (n i : Nat) (M : MM), i ≤ (sR s).length → (sR s).length - i < n → (∀ k, k < i → bW (hrs B k) w = rwN (sR s) k) → KM s (hrs B i) M0 M → D5_isRow_c4 Q n (nI w) 1 (nI i) M := by
  have hlen := hR.2.2.2.2.2.1.2.1
  have hs := hR.2.1
  intro n
  induction n with
  | zero => intro i M h1 h2; omega
  | succ n ih =>
    intro i M h1 h2 he hk
    obtain ⟨f1, f15, f17, f26, f32, f36, f68, f71, f76, f77, f81⟩ := hk.2.2.1
    have hrw : RwM (sR s) M := hR.2.2.2.2.2.1.cong f36 f81
    unfold D5_isRow_c4
    rw [hrw.1, z_le (by omega) (by omega)]
    refine ⟨fun z => ?_, fun z => ⟨fun y => absurd y (by decide), fun _ => ?_⟩⟩
    · rw [asW_t (fun k hk => he k (by omega))] at q
      exact km_again hs hk (fun M' k' => ⟨Or.inr rfl, q M' k'⟩)
    · have hi : i < (sR s).length := by omega
      have hwi := hrs_wf hw i
      have hn := hw.1
      have hNi : w < bN (hrs B i) := by rw [hrs_N]; exact hj
      obtain ⟨r1, r2⟩ := hrw.at hi
      have d := (hwi.2.1 w hNi).2.2.2
      refine ⟨ibc ⟨by decide, rfl⟩ rfl (show i < 12 by omega) (by decide), ibc ⟨by decide, rfl⟩ rfl (show w < 10 by omega) (by decide), ?_⟩
      rw [z_ix (by omega), z_ix (show w < 2 ^ 31 by omega), r1, (hk.1.2.2.2.2 w hNi).2.2.2.1]
      simp only [ne_eq, z_eq (show rwN (sR s) i < 2 ^ 31 by omega) (show bW (hrs B i) w < 2 ^ 31 by omega)]
      refine ⟨fun e => ?_, fun e => ?_⟩
      · obtain ⟨m, rfl⟩ : ∃ m, n = m + 1 := ⟨n - 1, by omega⟩
        show D5_hourBy (nI 0) M _
        refine km_hour (H := 999 + i) hwi (by omega) (by decide) hk (fun M2 k2 => ?_)
        rw [asW_f hi (fun z => e z.symm)] at q
        have fin : D5_isRow_c48 Q 0 M2 := km_again hs k2 (fun M' k' => ⟨Or.inl rfl, q M' k'⟩)
        exact ⟨fun _ => fin, fun _ => ⟨fun _ => fin, fun z => absurd rfl z⟩⟩
      · show D5_hourBy (nI 0) M _
        refine km_hour (H := 999 + i) hwi (by omega) (by decide) hk (fun M2 k2 => ?_)
        show D5_isRow_c4 Q n (nI w) 1 (nI i + 1) M2
        rw [nI_1]
        refine ih (i + 1) M2 (by omega) (by omega) (fun k hk => ?_) k2
        by_cases y : k = i
        · rw [y]; exact e.symm
        · exact he k (by omega)
theorem m_isRow {s : SG} {B : BV} {w : Nat} {M0 M : MM} {Q : Int32 → MM → Prop} (hR : RepM s M0) (hw : WF 10 999 B) (hj : w < bN B) (hk : KM s B M0 M) (q : ∀ M', KM s (sB s) M0 M' → Q (b2 (asW B w (sR s))) M') : D5_isRow (nI w) M Q :=
  m_isRow_loop hR hw hj q FU 0 M (Nat.zero_le _) (Nat.lt_of_le_of_lt (Nat.le_trans (Nat.sub_le _ _) hR.2.2.2.2.2.1.2.1) (by decide)) (fun k h => by omega) hk
/-- WHAT IT WAS: the choice i -/
def wwP (B : BV) (w : Nat) (y : Int32) (l : List Nat) (i : Nat) : Bool := asW (if y = 0 then bTake B w i (bF B w) else bTake B w (bK B w) i) w l
def wwN (y : Int32) : Nat := if y = 0 then 6 else 10
def whatWasS (s : SG) (x y : Int32) : Int32 × SG := if inN x (bN (sB s)) = true then (if inN y 2 = true then (nI (mk (wwP (sB s) x.toInt.toNat y (sR s)) (wwN y)), s) else outS s 2) else outS s 1
theorem c_what_loop {s : SG} {w : Nat} {y : Int32} {M0 : MM} {Q : Int32 → MM → Prop} (hR : RepC s M0) (hj : w < bN (sB s)) (q : ∀ M', FrC M0 M' → Q (nI (mk (wwP (sB s) w y (sR s)) (wwN y))) M') :
    ∀ (n i : Nat) (M : MM), i ≤ wwN y → wwN y - i < n → FrC M0 M → D4_whatWas_c51 Q n (nI w) y (nI (mk (wwP (sB s) w y (sR s)) i)) (nI (wwN y)) (nI i) M := by
  have hw := WFm hR.2.1
  have hn := hw.1
  obtain ⟨g1, g2, g3, g4⟩ := hw.2.1 w hj
  have hN : wwN y ≤ 10 := by unfold wwN; split <;> omega
  intro n
  induction n with
  | zero => intro i M h1 h2; omega
  | succ n ih =>
    intro i M h1 h2 hf
    unfold D4_whatWas_c51
    rw [z_le (by omega) (by omega)]
    refine ⟨fun z => ?_, fun z => ?_⟩
    · have e : i = wwN y := by omega
      rw [e]; exact q M hf
    · refine kc_becomes hR hf (fun M1 k1 => ?_)
      have hR1 := hR.mind k1.2
      obtain ⟨m1, m2, m3, m4⟩ := hR1.1.2.2.2.2.2 w hj
      have step : ∀ (B' : BV) (M2 : MM), (if y = 0 then bTake (sB s) w i (bF (sB s) w) else bTake (sB s) w (bK (sB s) w) i) = B' → WF 10 999 B' → KC B' M0 M2 → w < bN B' → D4_wearsAsTold (nI w) M2 (fun (r15 : Int32) (M16 : MM) => ((r15 = 0 → D4_whatWas_c136 (D4_whatWas_c51 Q n) Q (nI w) y (nI (wwN y)) (nI i) (0 : Int32) (nI (mk (wwP (sB s) w y (sR s)) i)) M16) ∧ (¬ r15 = 0 → D4_whatWas_c136 (D4_whatWas_c51 Q n) Q (nI w) y (nI (wwN y)) (nI i) ((1 : Int32) <<< (nI i &&& 31)) (nI (mk (wwP (sB s) w y (sR s)) i)) M16))) := by
        intro B' M2 hB hw' hk' hj'
        have eP : wwP (sB s) w y (sR s) i = asW B' w (sR s) := by unfold wwP; rw [hB]
        refine c_wears hR hw' hj' hk' (fun M3 f3 => ?_)
        rw [b2l_0, ← eP]
        have nx : ∀ v : Nat, v = (if wwP (sB s) w y (sR s) i = true then 2 ^ i else 0) → D4_whatWas_c136 (D4_whatWas_c51 Q n) Q (nI w) y (nI (wwN y)) (nI i) (nI v) (nI (mk (wwP (sB s) w y (sR s)) i)) M3 := by
          intro v hv
          show D4_whatWas_c51 Q n (nI w) y (nI (mk (wwP (sB s) w y (sR s)) i) ||| nI v) (nI (wwN y)) (nI i + 1) M3
          rw [z_or, nI_1, hv, ← mk_or]
          exact ih (i + 1) M3 (by omega) (by omega) f3
        refine ⟨fun e => nx 0 (by rw [e]; rfl), fun e => ?_⟩
        rw [z_shl i (by omega)]
        exact nx (2 ^ i) (by rw [if_pos (b_nf e)])
      refine ⟨fun y0 => ?_, fun y0 => ?_⟩
      · refine p0_kindOf isB1 hR1.1.1 hw.1 hj ?_
        rw [m1]
        have hi : i < 10 := by omega
        refine ⟨fun _ => ?_, fun y1 => absurd y1 y0⟩
        unfold D4_whatWas_c105
        refine p0_takesFor isB6 k1.1 hw.1 hj (fun M2 h2' f2 => ?_)
        exact step (bTake (sB s) w (bK (sB s) w) i) M2 (if_neg y0) (hw.take g1 hi) ⟨h2', k1.2.tr (fun p a _ => f2 p (by omega) (by omega))⟩ hj
      · have hi : i < 6 := by
          have : wwN y = 6 := if_pos y0
          omega
        refine ⟨fun y1 => absurd y0 y1, fun _ => ?_⟩
        refine p0_figureOf isB1 hR1.1.1 hw.1 hj ?_
        rw [m2]
        unfold D4_whatWas_c105
        refine p0_takesFor isB6 k1.1 hw.1 hj (fun M2 h2' f2 => ?_)
        exact step (bTake (sB s) w i (bF (sB s) w)) M2 (if_pos y0) (hw.take hi g2) ⟨h2', k1.2.tr (fun p a _ => f2 p (by omega) (by omega))⟩ hj
theorem c_whatWas {s : SG} {x y : Int32} {M : MM} {Q : Int32 → MM → Prop} (hR : RepC s M) (q : ∀ M', RepC (whatWasS s x y).2 M' → Hi M M' → Q (whatWasS s x y).1 M') : D4_whatWas x y M Q := by
  unfold D4_whatWas D4_whatWas_c26
  have hw := WFm hR.2.1
  refine p0_knowsX hR.1.1 hw.1 ?_
  rw [b2l_n0, b2l_0]
  refine ⟨fun h => ?_, fun h => ?_⟩
  · refine what_cases (n := 1) (by decide) (fun h2 => ?_) (fun h2 => ?_)
    · obtain ⟨j, hj, hx, hxn⟩ := inN_0 h (Nat.le_trans hw.1 (by decide))
      rw [show whatWasS s x y = (nI (mk (wwP (sB s) j y (sR s)) (wwN y)), s) from by unfold whatWasS; rw [if_pos h, if_pos h2, hxn]] at q
      rw [hx]
      have go : D4_whatWas_c46 Q (nI j) y 0 (nI (wwN y)) M :=
        c_what_loop hR hj (fun M' f => q M' (hR.mind f) f.hi) FU 0 M (Nat.zero_le _) (Nat.lt_of_le_of_lt (show wwN y - 0 ≤ 10 by unfold wwN; split <;> omega) (by decide)) FrC.rf
      refine ⟨fun e => ?_, fun e => ?_⟩
      · rw [show wwN y = 10 from if_neg e] at go; exact go
      · rw [show wwN y = 6 from if_pos e] at go; exact go
    · rw [show whatWasS s x y = outS s 2 from by unfold whatWasS; rw [if_pos h, h2]; rfl] at q
      exact c_out (k := 2) hR (by decide) q
  · rw [show whatWasS s x y = outS s 1 from by unfold whatWasS; rw [h]; rfl] at q
    exact c_out (k := 1) hR (by decide) q
theorem m_what_loop {s : SG} {w : Nat} {y : Int32} {M0 : MM} {Q : Int32 → MM → Prop} (hR : RepM s M0) (hj : w < bN (sB s)) (hy : y = 0 ∨ y = 1) (q : ∀ M', KM s (sB s) M0 M' → Q (nI (mk (wwP (sB s) w y (sR s)) (wwN y))) M') :
    ∀ (n i : Nat) (M : MM), i ≤ wwN y → wwN y - i < n → KM s (sB s) M0 M → D5_whatWas_c44 Q n (nI w) y (nI (mk (wwP (sB s) w y (sR s)) i)) (nI i) M := by
  have hw := WFm hR.2.1
  have hn := hw.1
  obtain ⟨g1, g2, g3, g4⟩ := hw.2.1 w hj
  have hN : wwN y ≤ 10 := by unfold wwN; split <;> omega
  intro n
  induction n with
  | zero => intro i M h1 h2; omega
  | succ n ih =>
    intro i M h1 h2 hk
    have i63 : ib 63 (nI w) := ibc ⟨by decide, rfl⟩ rfl (show w < 10 by omega) (by decide)
    have i64 : ib 64 (nI w) := ibc ⟨by decide, rfl⟩ rfl (show w < 10 by omega) (by decide)
    have step : ∀ (B' : BV) (M2 : MM), (if y = 0 then bTake (sB s) w i (bF (sB s) w) else bTake (sB s) w (bK (sB s) w) i) = B' → WF 10 999 B' → KM s B' M0 M2 → w < bN B' → i < wwN y → D5_isRow (nI w) M2 (fun (r12 : Int32) (M13 : MM) => ((r12 = 0 → D5_whatWas_c121 (D5_whatWas_c44 Q n) Q (nI w) y (nI i) (0 : Int32) (nI (mk (wwP (sB s) w y (sR s)) i)) M13) ∧ (¬ r12 = 0 → D5_whatWas_c121 (D5_whatWas_c44 Q n) Q (nI w) y (nI i) ((1 : Int32) <<< (nI i &&& 31)) (nI (mk (wwP (sB s) w y (sR s)) i)) M13))) := by
      intro B' M2 hB hw' hk' hj' hi
      have eP : wwP (sB s) w y (sR s) i = asW B' w (sR s) := by unfold wwP; rw [hB]
      refine m_isRow hR hw' hj' hk' (fun M3 f3 => ?_)
      rw [b2l_0, ← eP]
      have nx : ∀ v : Nat, v = (if wwP (sB s) w y (sR s) i = true then 2 ^ i else 0) → D5_whatWas_c121 (D5_whatWas_c44 Q n) Q (nI w) y (nI i) (nI v) (nI (mk (wwP (sB s) w y (sR s)) i)) M3 := by
        intro v hv
        show D5_whatWas_c44 Q n (nI w) y (nI (mk (wwP (sB s) w y (sR s)) i) ||| nI v) (nI i + 1) M3
        rw [z_or, nI_1, hv, ← mk_or]
        exact ih (i + 1) M3 (by omega) (by omega) f3
      refine ⟨fun e => nx 0 (by rw [e]; rfl), fun e => ?_⟩
      rw [z_shl i (by omega)]
      exact nx (2 ^ i) (by rw [if_pos (b_nf e)])
    have stop : i = wwN y → Q (nI (mk (wwP (sB s) w y (sR s)) i)) M := fun e => by rw [e]; exact q M hk
    unfold D5_whatWas_c44 D5_whatWas_c57 D5_whatWas_c80 D5_whatWas_c102
    rw [show (10 : Int32) = nI 10 from rfl, show (6 : Int32) = nI 6 from rfl, z_le (by decide) (by omega), z_le (by decide) (by omega)]
    refine ⟨fun y0 => ⟨fun z => stop ?_, fun z => ⟨fun _ => ⟨i63, i63, ?_⟩, fun y1 => absurd y1 y0⟩⟩, fun y0 => ⟨fun z => stop ?_, fun z => ⟨fun y1 => absurd y0 y1, fun _ => ⟨i63, ?_⟩⟩⟩⟩
    · have : wwN y = 10 := if_neg y0
      omega
    · have y1 : y = 1 := hy.resolve_left y0
      have hN10 : wwN y = 10 := if_neg y0
      refine ⟨fun z => absurd y1 z, fun _ => ⟨i64, ?_⟩⟩
      rw [z_ix (show w < 2 ^ 31 by omega), up_id]
      exact step (bTake (sB s) w (bK (sB s) w) i) _ (if_neg y0) (hw.take g1 (by omega)) (hk.set (by decide) (by decide) hk.1.figure) hj (by omega)
    · have : wwN y = 6 := if_pos y0
      omega
    · have hN6 : wwN y = 6 := if_pos y0
      refine ⟨fun _ => ⟨i64, i64, ?_⟩, fun y1 => absurd (y0.symm.trans y1) (by decide)⟩
      rw [z_ix (show w < 2 ^ 31 by omega), up_id]
      exact step (bTake (sB s) w i (bF (sB s) w)) _ (if_pos y0) (hw.take (by omega) g2) (hk.set (by decide) (by decide) hk.1.kind) hj (by omega)
theorem m_whatWas {s : SG} {x y : Int32} {M : MM} {Q : Int32 → MM → Prop} (hR : RepM s M) (q : ∀ M', RepM (whatWasS s x y).2 M' → Lo M M' → Q (whatWasS s x y).1 M') : D5_whatWas x y M Q := by
  unfold D5_whatWas
  have hR1 := hR.thrown (x := 0)
  have hL : Lo M (up M 62 9 0) := fun p hp => up_p (by omega)
  generalize up M 62 9 0 = M1 at hR1 hL
  have hw := WFm hR1.2.1
  refine p5_isWork hR1.1.1 hw.1 ?_
  rw [b2l_0]
  unfold D5_whatWas_c18
  refine ⟨fun h => ?_, fun h => ?_⟩
  · refine p5_wrongBit (n := 1) (by decide) (fun _ => ?_) (fun z => absurd z (by decide)) (fun z => absurd z (by decide))
    rw [show whatWasS s x y = outS s 1 from by unfold whatWasS; rw [h]; rfl] at q
    exact ⟨fun z => absurd z (by decide), fun _ => m_out (k := 1) hR1 (by decide) (fun M' a b => q M' a (hL.tr b))⟩
  · have h := b_nf h
    refine p5_wrongBit (n := 1) (by decide) (fun z => absurd rfl z) (fun _ h2 => ?_) (fun _ h2 => ?_)
    · obtain ⟨j, hj, hx, hxn⟩ := inN_0 h (Nat.le_trans hw.1 (by decide))
      rw [show whatWasS s x y = (nI (mk (wwP (sB s) j y (sR s)) (wwN y)), s) from by unfold whatWasS; rw [if_pos h, if_pos h2, hxn]] at q
      rw [hx]
      refine ⟨fun _ => ?_, fun z => absurd (by decide) z⟩
      refine km_think hR1 FrM.rf (fun M2 k2 => ?_)
      have e3 : y = 0 ∨ y = 1 := by
        obtain ⟨j, hj, e⟩ := inN_of h2 (by decide)
        rcases (show j = 1 ∨ j = 0 by omega) with rfl | rfl
        · exact Or.inr e
        · exact Or.inl e
      exact m_what_loop hR1 hj e3 (fun M' k => q M' (km_rep hR1 k) (hL.tr k.2.2.1.1)) FU 0 M2 (Nat.zero_le _) (Nat.lt_of_le_of_lt (show wwN y - 0 ≤ 10 by unfold wwN; split <;> omega) (by decide)) k2
    · rw [show whatWasS s x y = outS s 2 from by unfold whatWasS; rw [if_pos h, h2]; rfl] at q
      exact ⟨fun z => absurd z (by decide), fun _ => m_out (k := 2) hR1 (by decide) (fun M' a b => q M' a (hL.tr b))⟩
/-- HOW HIGH -/
def wtN (B : BV) (k : Nat) : Nat := pcf 25 (wet (hrs B k) (lev (bH (hrs B k))))
theorem wtN_le (B : BV) (k : Nat) : wtN B k ≤ 25 := pcf_le 25 _
def asF (B : BV) (l : List Nat) : Bool := decide (∀ k, k < l.length → wtN B k = rwN l k)
theorem asF_t {B : BV} {l : List Nat} (h : ∀ k, k < l.length → wtN B k = rwN l k) : asF B l = true := decide_eq_true h
theorem asF_f {B : BV} {k : Nat} {l : List Nat} (hk : k < l.length) (h : wtN B k ≠ rwN l k) : asF B l = false := decide_eq_false (fun z => h (z k hk))
def howHighS (s : SG) : Int32 × SG := (nI (mk (fun h => asF (bAt (sB s) h) (sR s)) 12), s)
theorem c_high_in {s : SG} {B : BV} {M0 : MM} {Q : Int32 → MM → Prop} (hR : RepC s M0) (hw : WF 10 999 B) (q : ∀ M', FrC M0 M' → Q (b2 (asF B (sR s))) M') :
    ∀ (n i : Nat) (M : MM), i ≤ (sR s).length → (sR s).length - i < n → (∀ k, k < i → wtN B k = rwN (sR s) k) → KC (hrs B i) M0 M → D4_floodsAsTold_c2 Q n (nI i) M := by
  have hlen := hR.2.2.2.2.2.1.2.1
  intro n
  induction n with
  | zero => intro i M h1 h2; omega
  | succ n ih =>
    intro i M h1 h2 he hk
    have hRM := hR.mind hk.2
    have hrw := hRM.2.2.2.2.2.1
    unfold D4_floodsAsTold_c2
    rw [hrw.1, show (12 : Int32) = nI 12 from rfl, z_le (by omega) (by omega), z_le (by decide) (by omega)]
    have q := q M hk.2
    refine ⟨fun z => ?_, fun z => ⟨fun z2 => by omega, fun _ => ?_⟩⟩
    · rw [asF_t (fun k hk => he k (by omega))] at q; exact q
    · have hi : i < (sR s).length := by omega
      have hwi := hrs_wf hw i
      obtain ⟨r1, r2⟩ := hrw.at hi
      have d := wtN_le B i
      refine kc_wetNow (H := 999 + i) hwi (by omega) hk ?_
      refine pJ_bitCount (wet_lt _ _) ⟨ibc ⟨by decide, rfl⟩ rfl (show i < 12 by omega) (by decide), ?_⟩
      show (nI (wtN B i) = M 59 (ix (nI i)) → _) ∧ (¬ nI (wtN B i) = M 59 (ix (nI i)) → _)
      rw [z_ix (by omega), r1, z_eq (by omega) (by omega)]
      refine ⟨fun e => ?_, fun e => ?_⟩
      · show D0_goesOn 6 (nI 1) M _
        refine kc_hrs (H := 999 + i) hwi (by omega) (by decide) hk (fun M' k' => ?_)
        show D4_floodsAsTold_c2 Q n (nI i + 1) M'
        rw [nI_1]
        refine ih (i + 1) M' (by omega) (by omega) (fun k hk => ?_) k'
        by_cases y : k = i
        · rw [y]; exact e
        · exact he k (by omega)
      · rw [asF_f hi e] at q; exact q
theorem c_high_out {s : SG} {M0 : MM} {Q : Int32 → MM → Prop} (hR : RepC s M0) (q : ∀ M', FrC M0 M' → Q (nI (mk (fun h => asF (bAt (sB s) h) (sR s)) 12)) M') :
    ∀ (n i : Nat) (M : MM), i ≤ 12 → 12 - i < n → FrC M0 M → D4_howHigh_c4 Q n (nI (mk (fun h => asF (bAt (sB s) h) (sR s)) i)) (nI i) M := by
  have hw := WFm hR.2.1
  have hlen := hR.2.2.2.2.2.1.2.1
  intro n
  induction n with
  | zero => intro i M h1 h2; omega
  | succ n ih =>
    intro i M h1 h2 hf
    unfold D4_howHigh_c4
    rw [show (12 : Int32) = nI 12 from rfl, z_le (by decide) (by omega)]
    refine ⟨fun z => ?_, fun z => ?_⟩
    · have e : i = 12 := by omega
      rw [e]; exact q M hf
    · refine kc_becomes hR hf (fun M1 k1 => ?_)
      have k2 : KC (bAt (sB s) i) M0 (up M1 6 6 (nI i)) := by
        obtain ⟨a, b', c, d, f, g⟩ := k1.1
        refine ⟨⟨by rw [up_k (by decide)]; exact a, by rw [up_k (by decide)]; exact b', up_s, by rw [up_k (by decide)]; exact d, by rw [up_k (by decide)]; exact f, fun j hj => ?_⟩, k1.2.tr (fun p a _ => up_p (by omega))⟩
        rw [up_p (by decide), up_p (by decide), up_p (by decide), up_p (by decide)]
        exact g j hj
      dsimp only
      unfold D4_floodsAsTold
      refine c_high_in hR (hw.at (by omega)) (fun M' f' => ?_) FU 0 _ (Nat.zero_le _) (Nat.lt_of_le_of_lt (Nat.le_trans (Nat.sub_le _ _) hlen) (by decide)) (fun k h => by omega) k2
      rw [b2l_0]
      have nx : ∀ v : Nat, v = (if asF (bAt (sB s) i) (sR s) = true then 2 ^ i else 0) → D4_howHigh_c44 (D4_howHigh_c4 Q n) Q (nI i) (nI v) (nI (mk (fun h => asF (bAt (sB s) h) (sR s)) i)) M' := by
        intro v hv
        show D4_howHigh_c4 Q n (nI (mk (fun h => asF (bAt (sB s) h) (sR s)) i) ||| nI v) (nI i + 1) M'
        rw [z_or, nI_1, hv, ← mk_or (fun h => asF (bAt (sB s) h) (sR s))]
        exact ih (i + 1) M' (by omega) (by omega) f'
      refine ⟨fun e => nx 0 (by rw [e]; rfl), fun e => ?_⟩
      rw [z_shl i (by omega)]
      exact nx (2 ^ i) (by rw [if_pos (b_nf e)])
theorem c_howHigh {s : SG} {M : MM} {Q : Int32 → MM → Prop} (hR : RepC s M) (q : ∀ M', RepC (howHighS s).2 M' → Hi M M' → Q (howHighS s).1 M') : D4_howHigh M Q :=
  c_high_out hR (fun M' f => q M' (hR.mind f) f.hi) FU 0 M (by decide) (by decide) FrC.rf
theorem m_high_in {s : SG} {B : BV} {M0 : MM} {x1 x2 : Int32} {K13 : Int32 → Int32 → MM → Prop} {Q : Int32 → MM → Prop} (hR : RepM s M0) (hw : WF 10 999 B) (q : ∀ B' M', KM s B' M0 M' → D5_howHigh_c76 K13 Q x1 x2 (b2 (asF B (sR s))) M') :
    ∀ (n i : Nat) (M : MM), i ≤ (sR s).length → (sR s).length - i < n → (∀ k, k < i → wtN B k = rwN (sR s) k) → KM s (hrs B i) M0 M → D5_howHigh_c29 K13 Q n x1 x2 1 (nI i) M := by
  have hlen := hR.2.2.2.2.2.1.2.1
  have hs := hR.2.1
  intro n
  induction n with
  | zero => intro i M h1 h2; omega
  | succ n ih =>
    intro i M h1 h2 he hk
    obtain ⟨f1, f15, f17, f26, f32, f36, f68, f71, f76, f77, f81⟩ := hk.2.2.1
    have hrw : RwM (sR s) M := hR.2.2.2.2.2.1.cong f36 f81
    unfold D5_howHigh_c29
    rw [hrw.1, z_le (by omega) (by omega)]
    refine ⟨fun z => ?_, fun z => ⟨fun y => absurd y (by decide), fun _ => ?_⟩⟩
    · rw [asF_t (fun k hk => he k (by omega))] at q
      exact q _ M hk
    · have hi : i < (sR s).length := by omega
      have hwi := hrs_wf hw i
      obtain ⟨r1, r2⟩ := hrw.at hi
      have d := wtN_le B i
      refine ⟨ibc ⟨by decide, rfl⟩ rfl (show i < 12 by omega) (by decide), ?_⟩
      refine km_wetNow (H := 999 + i) hwi (by omega) hk (fun M1 k1 => ?_)
      refine p5_onesOf (wet_lt _ _) ?_
      have r1' : M 81 (ix (nI i)) = nI (rwN (sR s) i) := by rw [z_ix (by omega)]; exact r1
      show (M 81 (ix (nI i)) ≠ nI (wtN B i) → _) ∧ (M 81 (ix (nI i)) = nI (wtN B i) → _)
      rw [r1']
      simp only [ne_eq, z_eq (show rwN (sR s) i < 2 ^ 31 by omega) (show wtN B i < 2 ^ 31 by omega)]
      refine ⟨fun e => ?_, fun e => ?_⟩
      · obtain ⟨m, rfl⟩ : ∃ m, n = m + 1 := ⟨n - 1, by omega⟩
        show D5_hourBy (nI 0) M1 _
        refine km_hour (H := 999 + i) hwi (by omega) (by decide) k1 (fun M2 k2 => ?_)
        rw [asF_f hi (fun z => e z.symm)] at q
        have fin := q _ M2 k2
        exact ⟨fun _ => fin, fun _ => ⟨fun _ => fin, fun z => absurd rfl z⟩⟩
      · show D5_hourBy (nI 0) M1 _
        refine km_hour (H := 999 + i) hwi (by omega) (by decide) k1 (fun M2 k2 => ?_)
        show D5_howHigh_c29 K13 Q n x1 x2 1 (nI i + 1) M2
        rw [nI_1]
        refine ih (i + 1) M2 (by omega) (by omega) (fun k hk => ?_) k2
        by_cases y : k = i
        · rw [y]; exact e.symm
        · exact he k (by omega)
theorem m_high_out {s : SG} {M0 : MM} {Q : Int32 → MM → Prop} (hR : RepM s M0) (q : ∀ M', KM s (sB s) M0 M' → Q (nI (mk (fun h => asF (bAt (sB s) h) (sR s)) 12)) M') :
    ∀ (n i : Nat) (M : MM), i ≤ 12 → 12 - i < n → KM s (sB s) M0 M → D5_howHigh_c13 Q n (nI (mk (fun h => asF (bAt (sB s) h) (sR s)) i)) (nI i) M := by
  have hw := WFm hR.2.1
  have hlen := hR.2.2.2.2.2.1.2.1
  intro n
  induction n with
  | zero => intro i M h1 h2; omega
  | succ n ih =>
    intro i M h1 h2 hk
    unfold D5_howHigh_c13
    rw [show (12 : Int32) = nI 12 from rfl, z_le (by decide) (by omega)]
    refine ⟨fun z => ?_, fun z => ?_⟩
    · have e : i = 12 := by omega
      rw [e]; exact q M hk
    · have k1 : KM s (bAt (sB s) i) M0 (up M 62 8 (nI i)) := hk.sl (Or.inr (Or.inr (Or.inr rfl))) hk.1.today
      dsimp only
      refine m_high_in hR (hw.at (by omega)) (fun B' M' k' => ?_) FU 0 _ (Nat.zero_le _) (Nat.lt_of_le_of_lt (Nat.le_trans (Nat.sub_le _ _) hlen) (by decide)) (fun k h => by omega) k1
      unfold D5_howHigh_c76
      rw [b2l_0]
      have nx : ∀ v : Nat, v = (if asF (bAt (sB s) i) (sR s) = true then 2 ^ i else 0) → D5_howHigh_c88 (D5_howHigh_c13 Q n) Q (nI i) (nI v) (nI (mk (fun h => asF (bAt (sB s) h) (sR s)) i)) M' := by
        intro v hv
        unfold D5_howHigh_c88
        dsimp only
        rw [z_or, nI_1, hv, ← mk_or (fun h => asF (bAt (sB s) h) (sR s))]
        exact km_again hR.2.1 k' (fun M4 k4 => ih (i + 1) M4 (by omega) (by omega) k4)
      refine ⟨fun e => nx 0 (by rw [e]; rfl), fun e => ?_⟩
      rw [z_shl i (by omega)]
      exact nx (2 ^ i) (by rw [if_pos (b_nf e)])
theorem m_howHigh {s : SG} {M : MM} {Q : Int32 → MM → Prop} (hR : RepM s M) (q : ∀ M', RepM (howHighS s).2 M' → Lo M M' → Q (howHighS s).1 M') : D5_howHigh M Q := by
  unfold D5_howHigh
  have hR1 := hR.thrown (x := 0)
  have hL : Lo M (up M 62 9 0) := fun p hp => up_p (by omega)
  generalize up M 62 9 0 = M1 at hR1 hL
  refine km_think hR1 FrM.rf (fun M2 k2 => ?_)
  exact m_high_out hR1 (fun M' k => q M' (km_rep hR1 k) (hL.tr k.2.2.1.1)) FU 0 M2 (by decide) (by decide) k2
