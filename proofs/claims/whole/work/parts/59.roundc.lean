/-! PURE PART: round, by the class -/
def ssB (B : BV) (L : Nat) : Prop := ∀ i, L.testBit i = true → bS B i = true
theorem clr_all : ∀ L, L < 256 → ∀ w, w < 8 → L.testBit w = true → clr L w = L - 2 ^ w ∧ pcf 25 (L - 2 ^ w) + 1 = pcf 25 L := by decide +kernel
theorem pcf8 : ∀ L, L < 256 → pcf 25 L ≤ 8 ∧ (pcf 25 L = 0 → L = 0) := by decide +kernel
theorem ssB_lt {B : BV} {n H L : Nat} (hw : WF n H B) (h : ssB B L) : L < 2 ^ bN B := bit_lt (fun i hi => hw.2.2.1 i (h i hi))
theorem lt256 {B : BV} {H L : Nat} (hw : WF 8 H B) (h : L < 2 ^ bN B) : L < 256 := Nat.lt_of_lt_of_le h (Nat.pow_le_pow_right (n := 2) (by decide) hw.1)
theorem ssB_S {B : BV} : ssB B (mk (bS B) 10) := fun i hi => by rw [mk_bit, Bool.and_eq_true] at hi; exact hi.2
theorem ssB_sub {B : BV} {H L w : Nat} (hw : WF 8 H B) (h : ssB B L) (hb : L.testBit w = true) : ssB B (L - 2 ^ w) := by
  have hL := lt256 hw (ssB_lt hw h)
  have hw8 : w < 8 := by have := hw.2.2.1 w (h w hb); have := hw.1; omega
  intro i hi
  rw [← (clr_all L hL w hw8 hb).1, clr_bit (by omega), Bool.and_eq_true] at hi
  exact h i hi.1
theorem ssB_0 {B : BV} {H L : Nat} (hw : WF 8 H B) (hL : L < 256) : (L &&& (mk (bS B) 10 ^^^ (2 ^ 32 - 1)) = 0) ↔ ssB B L := by
  have hn := hw.1
  constructor
  · intro h i hi
    have hi8 : i < 8 := by
      rcases Nat.lt_or_ge i 8 with z | z
      · exact z
      · rw [Nat.testBit_lt_two_pow (Nat.lt_of_lt_of_le hL (Nat.pow_le_pow_right (n := 2) (by decide) z))] at hi; cases hi
    have := congrArg (fun m => m.testBit i) h
    simp only [Nat.testBit_and, Nat.testBit_xor, Nat.testBit_two_pow_sub_one, Nat.zero_testBit, hi, mk_bit, decide_eq_true (show i < 10 by omega), decide_eq_true (show i < 32 by omega), Bool.true_and] at this
    simpa using this
  · intro h
    apply Nat.eq_of_testBit_eq
    intro i
    rw [Nat.testBit_and, Nat.testBit_xor, Nat.testBit_two_pow_sub_one, Nat.zero_testBit, mk_bit]
    cases hi : L.testBit i
    · rfl
    · have hs := h i hi
      have := hw.2.2.1 i hs
      rw [hs, decide_eq_true (show i < 10 by omega), decide_eq_true (show i < 32 by omega)]
      rfl
theorem roF_le {B : BV} {n H : Nat} (hw : WF n H B) : ∀ L, L < 2 ^ bN B → ∀ c, c < 25 → roF B c L ≤ 8 * L := by
  intro L
  induction L using Nat.strongRecOn with
  | ind L ih =>
    intro hL c hc
    rw [roF_eq]
    rcases scF_or (B := B) (f := roF B) (c := c) (L := L) 8 with ⟨h1, _⟩ | ⟨w, v, h1, h2, h3, h4, _⟩
    · rw [h1]; exact Nat.zero_le _
    · rw [h1]
      show v ≤ 8 * L
      have hwn : w < bN B := by
        rcases Nat.lt_or_ge w (bN B) with z | z
        · exact z
        · rw [Nat.testBit_lt_two_pow (Nat.lt_of_lt_of_le hL (Nat.pow_le_pow_right (n := 2) (by decide) z))] at h3; cases h3
      have g3 := (hw.2.1 w hwn).2.2.1
      have l1 := tb_lt h3
      have l2 := ih (L - 2 ^ w) l1 (by omega) (bC B w) g3
      have l3 := stp_le c hc (bC B w) g3
      omega
def neX : Option (Nat × Nat) → Int32
  | none => -9
  | some r => nI r.1
def neV : Option (Nat × Nat) → Int32
  | none => 2147483647
  | some r => nI r.2
/-- the table from L's sets that are less by one -/
def HT (B : BV) (L : Nat) (M : MM) : Prop := ∀ w, L.testBit w = true → M 61 ((L - 2 ^ w) * 8 + w) = nI (roF B (bC B w) (L - 2 ^ w))
theorem c_stepsBy {B : BV} {c L w : Nat} {M : MM} {Q : Int32 → MM → Prop} (hw : WF 8 999 B) (hR : RB 1 B M) (hc : c < 25) (hs : ssB B L) (hT : HT B L M) (hb : L.testBit w = true) (q : Q (nI (stp c (bC B w) + roF B (bC B w) (L - 2 ^ w))) M) : D4_stepsBy (nI c) (nI L) (nI w) M Q := by
  have hn := hw.1
  have hwn := hw.2.2.1 w (hs w hb)
  have hL := lt256 hw (ssB_lt hw hs)
  have g3 := (hw.2.1 w hwn).2.2.1
  have hsub := tb_lt hb
  unfold D4_stepsBy
  dsimp only
  rw [z_clear _ _ (by omega), (clr_all L hL w (by omega) hb).1, show (8 : Int32) = nI 8 from rfl, pk_mul, nI_add, show (2048 : Int32) = nI 2048 from rfl, z_le (by decide) (by omega)]
  refine ⟨fun z => absurd z (nI_pos (by omega)), fun _ => ⟨fun z => by omega, fun _ => ⟨ibc ⟨by decide, rfl⟩ rfl (show (L - 2 ^ w) * 8 + w < 2048 by omega) (by decide), ?_⟩⟩⟩
  rw [z_ix (by omega), hT w hb]
  unfold D4_stepsBy_c38
  refine p0_cellOf isB1 hR.1 (by omega) hwn ?_
  rw [(hR.2.2.2.2.2 w hwn).2.2.1]
  refine p3_steps hc g3 ?_
  rw [nI_add]
  exact q
theorem c_next_loop {B : BV} {c L : Nat} {M : MM} {Q : Int32 → MM → Prop} (hw : WF 8 999 B) (hR : RB 1 B M) (hc : c < 25) (hs : ssB B L) (hT : HT B L M) (q : Q (neX (scF B (roF B) c L 8)) M) :
    ∀ (n w : Nat), w ≤ 8 → 8 - w < n → D4_nextStop_c11 Q n (nI c) (nI L) (neX (scF B (roF B) c L w)) (neV (scF B (roF B) c L w)) (nI w) M := by
  have hn := hw.1
  have hL := lt256 hw (ssB_lt hw hs)
  have val : ∀ w, L.testBit w = true → stp c (bC B w) + roF B (bC B w) (L - 2 ^ w) < 4096 := by
    intro w hb
    have hwn := hw.2.2.1 w (hs w hb)
    have g3 := (hw.2.1 w hwn).2.2.1
    have l1 := tb_lt hb
    have l2 := roF_le hw (L - 2 ^ w) (Nat.lt_trans l1 (ssB_lt hw hs)) (bC B w) g3
    have l3 := stp_le c hc (bC B w) g3
    omega
  intro n
  induction n with
  | zero => intro w h1 h2; omega
  | succ n ih =>
    intro w h1 h2
    unfold D4_nextStop_c11
    rw [show (8 : Int32) = nI 8 from rfl, z_le (by decide) (by omega)]
    refine ⟨fun z => ?_, fun z => ?_⟩
    · rw [show w = 8 by omega]; exact q
    · rw [z_tb (by omega) w (by omega)]
      have nx : ∀ a b, neX (scF B (roF B) c L (w + 1)) = a → neV (scF B (roF B) c L (w + 1)) = b → D4_nextStop_c51 (D4_nextStop_c11 Q n) Q (nI c) (nI L) a b (nI w) M := by
        intro a b ha hb
        show D4_nextStop_c11 Q n (nI c) (nI L) a b (nI w + 1) M
        rw [nI_1, ← ha, ← hb]
        exact ih (w + 1) (by omega) (by omega)
      cases hb : L.testBit w
      · refine ⟨fun _ => nx _ _ (by rw [scF_g hb]) (by rw [scF_g hb]), fun y => absurd rfl y⟩
      · refine ⟨fun y => absurd y (by decide), fun _ => ?_⟩
        refine c_stepsBy hw hR hc hs hT hb ?_
        have hv := val w hb
        cases e : scF B (roF B) c L w with
        | none =>
          show (2147483647 ≤ nI _ → _) ∧ (¬ 2147483647 ≤ nI _ → _)
          rw [show (2147483647 : Int32) = nI 2147483647 from rfl, z_le (by decide) (by omega)]
          refine ⟨fun y => by omega, fun _ => nx _ _ (by rw [scF_n hb e]; rfl) (by rw [scF_n hb e]; rfl)⟩
        | some r =>
          obtain ⟨u, v', f1, f2, f3, f4, f5⟩ : ∃ u v, scF B (roF B) c L w = some (u, v) ∧ u < w ∧ L.testBit u = true ∧ v = stp c (bC B u) + roF B (bC B u) (L - 2 ^ u) ∧ (∀ t, t < u → L.testBit t = true → v < stp c (bC B t) + roF B (bC B t) (L - 2 ^ t)) := by
            rcases scF_or (B := B) (f := roF B) (c := c) (L := L) w with ⟨g1, _⟩ | g
            · rw [e] at g1; cases g1
            · exact g
          have hr : r = (u, v') := by rw [e] at f1; exact Option.some.inj f1
          have hr2 : r.2 < 4096 := by rw [hr]; show v' < 4096; rw [f4]; exact val u f3
          show (nI r.2 ≤ nI _ → _) ∧ (¬ nI r.2 ≤ nI _ → _)
          rw [z_le (by omega) (by omega)]
          refine ⟨fun y => nx _ _ (by rw [scF_k hb e y]) (by rw [scF_k hb e y]), fun y => nx _ _ (by rw [scF_c hb e y]; rfl) (by rw [scF_c hb e y]; rfl)⟩
theorem c_nextStop {B : BV} {c L : Nat} {M : MM} {Q : Int32 → MM → Prop} (hw : WF 8 999 B) (hR : RB 1 B M) (hc : c < 25) (hs : ssB B L) (hT : HT B L M) (q : Q (neX (scF B (roF B) c L 8)) M) : D4_nextStop (nI c) (nI L) M Q :=
  c_next_loop hw hR hc hs hT q FU 0 (by decide) (by decide)
theorem c_stepsOver {B : BV} {c L : Nat} {M : MM} {Q : Int32 → MM → Prop} (hw : WF 8 999 B) (hR : RB 1 B M) (hc : c < 25) (hs : ssB B L) (hT : HT B L M) (q : Q (nI (roF B c L)) M) : D4_stepsOver (nI c) (nI L) M Q := by
  unfold D4_stepsOver
  refine c_nextStop hw hR hc hs hT ?_
  rw [roF_eq] at q
  rcases scF_or (B := B) (f := roF B) (c := c) (L := L) 8 with ⟨h1, _⟩ | ⟨w, v, h1, h2, h3, h4, _⟩
  · rw [h1] at q ⊢
    exact ⟨fun z => absurd z (by decide), fun _ => q⟩
  · rw [h1] at q ⊢
    refine ⟨fun _ => ?_, fun z => absurd (nI_pos' (by omega)) z⟩
    refine c_stepsBy hw hR hc hs hT h3 ?_
    rw [← h4]; exact q
def cwN (B : BV) (w : Nat) : Nat := if w < bN B then bC B w else 0
theorem cwN_lt {B : BV} {n H : Nat} (hw : WF n H B) (w : Nat) : cwN B w < 25 := by
  unfold cwN
  split
  · rename_i h; exact (hw.2.1 w h).2.2.1
  · decide
theorem p0_cellOfX {B : BV} {w : Nat} {M : MM} {Q : Int32 → MM → Prop} (hw : WF 8 999 B) (hR : RB 1 B M) (h : w < 2 ^ 20) (q : Q (nI (cwN B w)) M) : D0_cellOf 1 (nI w) M Q := by
  have hn := hw.1
  by_cases hj : w < bN B
  · refine p0_cellOf isB1 hR.1 (by omega) hj ?_
    rw [(hR.2.2.2.2.2 w hj).2.2.1]
    rw [show cwN B w = bC B w from if_pos hj] at q
    exact q
  · unfold D0_cellOf
    refine p0_knows hR.1 (by omega) (by omega) ?_
    rw [decide_eq_false hj]
    rw [show cwN B w = 0 from if_neg hj] at q
    exact ⟨fun _ => q, fun z => absurd rfl z⟩
def PT (B : BV) (K : Nat) (M : MM) : Prop := ∀ q, q < K → ssB B (q / 8) → M 61 q = nI (roF B (cwN B (q % 8)) (q / 8))
theorem PT.ht {B : BV} {K L : Nat} {M : MM} (hw : WF 8 999 B) (h : PT B K M) (hs : ssB B L) (hK : 8 * L ≤ K) : HT B L M := by
  intro w hb
  have hwn := hw.2.2.1 w (hs w hb)
  have hn := hw.1
  have hsub := tb_lt hb
  have e1 : ((L - 2 ^ w) * 8 + w) / 8 = L - 2 ^ w := by omega
  have e2 : ((L - 2 ^ w) * 8 + w) % 8 = w := by omega
  have := h ((L - 2 ^ w) * 8 + w) (by omega) (by rw [e1]; exact ssB_sub hw hs hb)
  rw [e1, e2, show cwN B w = bC B w from if_pos hwn] at this
  exact this
theorem c_plan_loop {s : SG} {M0 : MM} {Q : MM → Prop} (hR : RepC s M0) (q : ∀ M', FrC M0 M' → PT (sB s) 2048 M' → Q M') :
    ∀ (n K : Nat) (M : MM), K ≤ 2048 → 2048 - K < n → FrC M0 M → PT (sB s) K M → D4_planRoutes_c2 Q n (nI K) M := by
  have hw := hR.2.1
  intro n
  induction n with
  | zero => intro K M h1 h2; omega
  | succ n ih =>
    intro K M h1 h2 hf hT
    have hRM := hR.mind hf
    unfold D4_planRoutes_c2
    rw [show (2048 : Int32) = nI 2048 from rfl, z_le (by decide) (by omega)]
    refine ⟨fun z => ?_, fun z => ?_⟩
    · have e : K = 2048 := by omega
      subst e
      exact q M hf hT
    · have nx : ∀ v, (ssB (sB s) (K / 8) → v = nI (roF (sB s) (cwN (sB s) (K % 8)) (K / 8))) → D4_planRoutes_c53 (D4_planRoutes_c2 Q n) Q (nI K) v (nI K) 61 M := by
        intro v hv
        unfold D4_planRoutes_c53
        refine ⟨ibc ⟨by decide, rfl⟩ rfl (show K < 2048 by omega) (by decide), ?_⟩
        dsimp only
        rw [z_ix (by omega), nI_1]
        refine ih (K + 1) _ (by omega) (by omega) (hf.tr (fun p a b => up_p b)) (fun t ht hst => ?_)
        by_cases y : t = K
        · rw [y] at hst ⊢
          rw [up_s]; exact hv hst
        · rw [up_k y]; exact hT t (by omega) hst
      have hL : K / 8 < 256 := by omega
      dsimp only
      rw [hRM.1.2.1, show (8 : Int32) = nI 8 from rfl, pk_rem (by omega) (by decide) (by decide), pk_div (by omega) (by decide) (by decide), show (-1 : Int32) = nI (2 ^ 32 - 1) from by decide +kernel, z_xor, z_and]
      have l1 : K / 8 &&& (mk (bS (sB s)) 10 ^^^ (2 ^ 32 - 1)) ≤ K / 8 := Nat.and_le_left
      have hz : (nI (K / 8 &&& (mk (bS (sB s)) 10 ^^^ (2 ^ 32 - 1))) = (0 : Int32)) ↔ ssB (sB s) (K / 8) := Iff.trans (nI_eq (b := 0) (by omega) (by decide)) (ssB_0 hw hL)
      refine ⟨fun z2 => nx _ (fun h => absurd (hz.mpr h) z2), fun z2 => ?_⟩
      have hs := hz.mp z2
      refine p0_cellOfX hw hRM.1 (by omega) ?_
      refine c_stepsOver hw hRM.1 (cwN_lt hw _) hs (hT.ht hw hs (by omega)) (nx _ (fun _ => rfl))
theorem c_planRoutes {s : SG} {M : MM} {Q : MM → Prop} (hR : RepC s M) (q : ∀ M', FrC M M' → PT (sB s) 2048 M' → Q M') : D4_planRoutes M Q :=
  c_plan_loop hR q FU 0 M (by decide) (by decide) FrC.rf (fun t h => by omega)
/-- the next work; the cell behind i + 1 stops -/
def nxW (B : BV) (c L : Nat) : Nat := match scF B (roF B) c L 8 with
  | none => 0
  | some r => r.1
def rcN (B : BV) : Nat → Nat → Nat → Nat
  | 0, c, L => bC B (nxW B c L)
  | i + 1, c, L => rcN B i (bC B (nxW B c L)) (L - 2 ^ nxW B c L)
theorem nxW_or {B : BV} {c L : Nat} (hL : L < 256) (h0 : L ≠ 0) : ∃ v, scF B (roF B) c L 8 = some (nxW B c L, v) ∧ L.testBit (nxW B c L) = true ∧ nxW B c L < 8 ∧ v = stp c (bC B (nxW B c L)) + roF B (bC B (nxW B c L)) (L - 2 ^ nxW B c L) ∧ (∀ u, u < nxW B c L → L.testBit u = true → v < stp c (bC B u) + roF B (bC B u) (L - 2 ^ u)) := by
  rcases scF_or (B := B) (f := roF B) (c := c) (L := L) 8 with ⟨h1, h2⟩ | ⟨w, v, h1, h2, h3, h4, h5⟩
  · refine absurd ?_ h0
    apply Nat.eq_of_testBit_eq
    intro i
    rw [Nat.zero_testBit]
    rcases Nat.lt_or_ge i 8 with z | z
    · exact h2 i z
    · exact Nat.testBit_lt_two_pow (Nat.lt_of_lt_of_le hL (Nat.pow_le_pow_right (n := 2) (by decide) z))
  · have e : nxW B c L = w := by unfold nxW; rw [h1]
    rw [e]
    exact ⟨v, h1, h3, h2, h4, h5⟩
def roundS (s : SG) (x : Int32) : Int32 × SG := if x.toInt < -1 then outS s 4 else if x = -1 then (nI (roF (sB s) 0 (mk (bS (sB s)) 10)), s) else if x.toInt < (pcf 25 (mk (bS (sB s)) 10) : Int) then (nI (rcN (sB s) x.toInt.toNat 0 (mk (bS (sB s)) 10)), s) else (-9, s)
theorem c_round_loop {B : BV} {i V cnt : Nat} {M : MM} {Q : Int32 → MM → Prop} (hw : WF 8 999 B) (hR : RB 1 B M) (hT : PT B 2048 M) (hi : i < cnt) (hcnt : cnt ≤ 8) (q : Q (nI V) M) :
    ∀ (n j c L : Nat), j ≤ i + 1 → i + 1 - j < n → c < 25 → (j ≤ i → rcN B (i - j) c L = V ∧ pcf 25 L + j = cnt ∧ ssB B L) → (j = i + 1 → c = V) → D4_round_c61 Q n (nI i) (nI L) (nI c) (nI j) M := by
  have hn := hw.1
  intro n
  induction n with
  | zero => intro j c L h1 h2; omega
  | succ n ih =>
    intro j c L h1 h2 hc h3 h4
    unfold D4_round_c61
    rw [z_lt (by omega) (by omega), show (8 : Int32) = nI 8 from rfl, z_le (by decide) (by omega)]
    refine ⟨fun z => ?_, fun z => ⟨fun z2 => by omega, fun _ => ?_⟩⟩
    · rw [h4 (by omega)]; exact q
    · obtain ⟨e1, e2, e3⟩ := h3 (by omega)
      have hL := lt256 hw (ssB_lt hw e3)
      have h0 : L ≠ 0 := fun e => by rw [e] at e2; rw [show pcf 25 0 = 0 from by decide] at e2; omega
      obtain ⟨v, f1, f2, f3, f4, f5⟩ := nxW_or (B := B) (c := c) hL h0
      have hwn := hw.2.2.1 _ (e3 _ f2)
      have g3 := (hw.2.1 _ hwn).2.2.1
      refine c_nextStop hw hR hc e3 (hT.ht hw e3 (by omega)) ?_
      rw [f1]
      show D0_cellOf 1 (nI (nxW B c L)) M _
      refine p0_cellOf isB1 hR.1 (by omega) hwn ?_
      rw [(hR.2.2.2.2.2 _ hwn).2.2.1]
      show D4_round_c61 Q n (nI i) (nI L &&& (((1 : Int32) <<< (nI (nxW B c L) &&& 31)) ^^^ (-1))) (nI (bC B (nxW B c L))) (nI j + 1) M
      obtain ⟨c1, c2⟩ := clr_all L hL _ f3 f2
      rw [z_clear _ _ (by omega), c1, nI_1]
      refine ih (j + 1) _ _ (by omega) (by omega) g3 (fun hj => ⟨?_, by omega, ssB_sub hw e3 f2⟩) (fun hj => ?_)
      · rw [show i - j = (i - (j + 1)) + 1 by omega] at e1
        exact e1
      · rw [show i - j = 0 by omega] at e1
        exact e1
theorem c_round_go {B : BV} {j S : Nat} {M : MM} {Q : Int32 → MM → Prop} (hw : WF 8 999 B) (hR : RB 1 B M) (hT : PT B 2048 M) (hS : ssB B S) (hj : j < pcf 25 S) (q : Q (nI (rcN B j 0 S)) M) : D4_round_c61 Q FU (nI j) (nI S) (nI 0) (nI 0) M := by
  have h8 := (pcf8 S (lt256 hw (ssB_lt hw hS))).1
  refine c_round_loop hw hR hT hj h8 q FU 0 0 S (Nat.zero_le _) (Nat.lt_of_le_of_lt (show j + 1 - 0 ≤ 9 by omega) (by decide)) (by decide) (fun _ => ⟨by rw [Nat.sub_zero], by rw [Nat.add_zero], hS⟩) (fun h => by omega)
theorem c_round {s : SG} {x : Int32} {M : MM} {Q : Int32 → MM → Prop} (hR : RepC s M) (q : ∀ M', RepC (roundS s x).2 M' → Hi M M' → Q (roundS s x).1 M') : D4_round x M Q := by
  unfold D4_round
  have hw := hR.2.1
  have e1 : (-1 : Int32).toInt = -1 := by decide
  rw [i_le, e1]
  refine ⟨fun c1 => ?_, fun c1 => ?_⟩
  · rw [show roundS s x = if x = -1 then (nI (roF (sB s) 0 (mk (bS (sB s)) 10)), s) else if x.toInt < (pcf 25 (mk (bS (sB s)) 10) : Int) then (nI (rcN (sB s) x.toInt.toNat 0 (mk (bS (sB s)) 10)), s) else (-9, s) from if_neg (by omega)] at q
    refine c_planRoutes hR (fun M1 f1 hT => ?_)
    have hR1 := hR.mind f1
    have hS := ssB_S (B := sB s)
    have hS256 := lt256 hw (ssB_lt hw hS)
    refine ⟨fun c2 => ?_, fun c2 => ?_⟩
    · rw [if_neg c2] at q
      refine p0_standingWorks hR1.1 ?_
      rw [i_lt, i_n (Nat.lt_of_le_of_lt (pcf_le 25 _) (by decide))]
      refine ⟨fun c3 => ?_, fun c3 => ?_⟩
      · rw [if_pos c3] at q
        have hx0 : 0 ≤ x.toInt := by
          have : x.toInt ≠ -1 := fun e => c2 (by rw [i_eq, e1]; exact e)
          omega
        have hxi : x = nI x.toInt.toNat := nI_toNat (by omega)
        rw [hR1.1.2.1]
        have go := c_round_go hw hR1.1 hT hS (j := x.toInt.toNat) (by omega) (q M1 hR1 f1.hi)
        rw [← hxi] at go
        exact go
      · rw [if_neg c3] at q
        exact q M1 hR1 f1.hi
    · rw [if_pos c2] at q
      rw [hR1.1.2.1]
      exact c_stepsOver (c := 0) hw hR1.1 (by decide) hS (hT.ht hw hS (by omega)) (q M1 hR1 f1.hi)
  · rw [show roundS s x = outS s 4 from if_pos (by omega)] at q
    exact c_out (k := 4) hR (by decide) q
