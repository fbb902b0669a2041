/-! PURE PART: round, by the model -/
def cfN (B : BV) (v : Nat) : Nat := if v = 8 then 0 else bC B v
def enS : Option (Nat × Nat) → Int32
  | none => -1
  | some r => nI r.2
def vfN (B : BV) (v : Nat) : Prop := v < bN B ∨ v = 8
theorem cfN_lt {B : BV} {v : Nat} (hw : WF 8 999 B) (hv : vfN B v) : cfN B v < 25 := by
  unfold cfN
  split
  · decide
  · rcases hv with h | h
    · exact (hw.2.1 v h).2.2.1
    · exact absurd h (by assumption)
theorem FrM.up80 {M : MM} {j : Nat} {x : Int32} : FrM M (up M 80 j x) := ⟨fun q a => up_p (by omega), by rw [up_p (by decide)], by rw [up_p (by decide)], by rw [up_p (by decide)], by rw [up_p (by decide)], by rw [up_p (by decide)], up_p (by decide), up_p (by decide), up_p (by decide), up_p (by decide), up_p (by decide)⟩
theorem RepM.up80 {s : SG} {M : MM} {j : Nat} {x : Int32} (h : RepM s M) : RepM s (up M 80 j x) := h.mind FrM.up80 (h.1.cong (by rw [up_p (by decide)]) (by rw [up_p (by decide)]) (by rw [up_p (by decide)]) (by rw [up_p (by decide)]) (fun p a b => up_p (by omega)))
theorem scF_end {B : BV} {f : Nat → Nat → Nat} {c L n : Nat} (hL : L < 2 ^ n) : ∀ m, n ≤ m → scF B f c L m = scF B f c L n := by
  intro m
  induction m with
  | zero => intro h; rw [show n = 0 by omega]
  | succ m ih =>
    intro h
    rcases Nat.eq_or_lt_of_le h with z | z
    · rw [z]
    · rw [scF_g (Nat.testBit_lt_two_pow (Nat.lt_of_lt_of_le hL (Nat.pow_le_pow_right (n := 2) (by decide) (by omega)))), ih (by omega)]
theorem p5_stepsAny {x y : Int32} {M : MM} {Q : Int32 → MM → Prop} (q : ∀ r, Q r M) : D5_stepsOf x y M Q := by
  unfold D5_stepsOf D5_stepsOf_c26
  exact ⟨fun _ => ⟨fun _ => q _, fun _ => q _⟩, fun _ => ⟨fun _ => q _, fun _ => q _⟩⟩
theorem p5_cellOf {B : BV} {v : Nat} {M : MM} {Q : Int32 → MM → Prop} (hw : WF 8 999 B) (hR : RM B M) (hv : vfN B v) (q : Q (nI (cfN B v)) M) : D5_cellOf (nI v) M Q := by
  have hn := hw.1
  have hv9 : v < 9 := by rcases hv with h | h <;> omega
  unfold D5_cellOf
  rw [show (8 : Int32) = nI 8 from rfl]
  simp only [ne_eq, z_eq (show v < 2 ^ 31 by omega) (show 8 < 2 ^ 31 by decide)]
  unfold cfN at q
  refine ⟨fun z => ?_, fun z => ?_⟩
  · have hj : v < bN B := hv.resolve_right z
    rw [if_neg z] at q
    refine ⟨ib5 (WFm hw) hj (by decide) (by decide), ?_⟩
    rw [z_ix (by omega), (hR.2.2.2.2 v hj).2.2.1]; exact q
  · rw [if_pos z] at q; exact q
theorem p5_cellAny {v : Nat} {M : MM} {Q : Int32 → MM → Prop} (hv : v < 9) (q : ∀ r, Q r M) : D5_cellOf (nI v) M Q := ⟨fun _ => ⟨ibc ⟨by decide, rfl⟩ rfl (show v < 10 by omega) (by decide), q _⟩, fun _ => q _⟩
theorem sb_i {L w : Nat} (hb : L.testBit w = true) (hw : w < 31) : nI L - ((1 : Int32) <<< (nI w &&& 31)) = nI (L - 2 ^ w) := by
  rw [z_shl w hw]; exact pk_sub (tb_le hb)
theorem lr_idx {L w : Nat} : (9 : Int32) * nI L + nI w = nI (9 * L + w) := by rw [show (9 : Int32) = nI 9 from rfl, pk_mul, nI_add]
theorem ib80 {j : Nat} (h : j < 2304) : ib 80 (nI j) := ibc ⟨by decide, rfl⟩ rfl h (by decide)
theorem lr_any {B : BV} {L v : Nat} {M : MM} {K11 : Int32 → Int32 → MM → Prop} {K2 : Int32 → MM → Prop} {Q : MM → Prop} (hw : WF 8 999 B) (hR : RM B M) (hL : L < 256) (hv : v < 9) (k : ∀ y, D5_layRound_c117 K11 K2 Q (nI L) (nI v) y (nI (9 * L + v)) 80 M) :
    ∀ (n w : Nat) (x3 : Int32), w ≤ bN B → bN B - w < n → D5_layRound_c22 K11 K2 Q n (nI L) (nI v) x3 (nI w) M := by
  have hn := hw.1
  intro n
  induction n with
  | zero => intro w x3 h1 h2; omega
  | succ n ih =>
    intro w x3 h1 h2
    unfold D5_layRound_c22
    rw [hR.1, z_le (by omega) (by omega)]
    refine ⟨fun z => ?_, fun z => ?_⟩
    · unfold D5_layRound_c98
      rw [lr_idx]
      exact ⟨fun _ => k _, fun _ => k _⟩
    · have hwn : w < bN B := by omega
      have nx : ∀ y, D5_layRound_c92 (D5_layRound_c22 K11 K2 Q n) K11 K2 Q (nI L) (nI v) y (nI w) M := by
        intro y
        show D5_layRound_c22 K11 K2 Q n (nI L) (nI v) y (nI w + 1) M
        rw [nI_1]
        exact ih (w + 1) y (by omega) (by omega)
      refine p5_hasBit (by omega) (by omega) ?_
      rw [b2l_0]
      refine ⟨fun _ => nx _, fun e => ?_⟩
      have e := b_nf e
      refine p5_cellAny hv (fun r4 => ⟨ib5 (WFm hw) hwn (by decide) (by decide), p5_stepsAny (fun r6 => ?_)⟩)
      rw [sb_i e (by omega), lr_idx]
      refine ⟨ib80 (by have := tb_lt e; omega), ?_⟩
      exact ⟨fun _ => nx _, fun _ => ⟨fun _ => nx _, fun _ => nx _⟩⟩
theorem lr_in {B : BV} {L v : Nat} {M : MM} {K11 : Int32 → Int32 → MM → Prop} {K2 : Int32 → MM → Prop} {Q : MM → Prop} (hw : WF 8 999 B) (hR : RM B M) (hL : L < 2 ^ bN B) (hv : vfN B v) (hT : ∀ w, w < bN B → L.testBit w = true → M 80 (9 * (L - 2 ^ w) + w) = nI (roF B (bC B w) (L - 2 ^ w))) (k : D5_layRound_c117 K11 K2 Q (nI L) (nI v) (nI (roF B (cfN B v) L)) (nI (9 * L + v)) 80 M) :
    ∀ (n w : Nat), w ≤ bN B → bN B - w < n → D5_layRound_c22 K11 K2 Q n (nI L) (nI v) (enS (scF B (roF B) (cfN B v) L w)) (nI w) M := by
  have hn := hw.1
  have hL256 := lt256 hw hL
  have hc := cfN_lt hw hv
  have val : ∀ w, w < bN B → L.testBit w = true → stp (cfN B v) (bC B w) + roF B (bC B w) (L - 2 ^ w) < 4096 := by
    intro w hwn hb
    have g3 := (hw.2.1 w hwn).2.2.1
    have l1 := tb_lt hb
    have l2 := roF_le hw (L - 2 ^ w) (Nat.lt_trans l1 hL) (bC B w) g3
    have l3 := stp_le _ hc (bC B w) g3
    omega
  intro n
  induction n with
  | zero => intro w h1 h2; omega
  | succ n ih =>
    intro w h1 h2
    unfold D5_layRound_c22
    rw [hR.1, z_le (by omega) (by omega)]
    refine ⟨fun z => ?_, fun z => ?_⟩
    · rw [show w = bN B by omega]
      rw [roF_eq, scF_end hL 8 hn] at k
      unfold D5_layRound_c98
      rw [lr_idx]
      cases e : scF B (roF B) (cfN B v) L (bN B) with
      | none => rw [e] at k; exact ⟨fun z => absurd z (by decide), fun _ => k⟩
      | some r =>
        rw [e] at k
        have hr : r.2 < 4096 := by
          rcases scF_or (B := B) (f := roF B) (c := cfN B v) (L := L) (bN B) with ⟨g1, _⟩ | ⟨u, v', g1, g2, g3, g4, g5⟩
          · rw [e] at g1; cases g1
          · rw [e] at g1
            rw [Option.some.inj g1]
            show v' < 4096
            rw [g4]; exact val u g2 g3
        exact ⟨fun _ => k, fun z => absurd (nI_pos' (by omega)) z⟩
    · have hwn : w < bN B := by omega
      have g3 := (hw.2.1 w hwn).2.2.1
      have nx : ∀ y, enS (scF B (roF B) (cfN B v) L (w + 1)) = y → D5_layRound_c92 (D5_layRound_c22 K11 K2 Q n) K11 K2 Q (nI L) (nI v) y (nI w) M := by
        intro y hy
        show D5_layRound_c22 K11 K2 Q n (nI L) (nI v) y (nI w + 1) M
        rw [nI_1, ← hy]
        exact ih (w + 1) (by omega) (by omega)
      refine p5_hasBit (by omega) (by omega) ?_
      rw [b2l_0]
      refine ⟨fun e => nx _ (by rw [scF_g e]), fun e => ?_⟩
      have e := b_nf e
      have hv' := val w hwn e
      refine p5_cellOf hw hR hv ⟨ib5 (WFm hw) hwn (by decide) (by decide), ?_⟩
      rw [z_ix (show w < 2 ^ 31 by omega), (hR.2.2.2.2 w hwn).2.2.1]
      refine p5_stepsOf hc g3 ?_
      rw [sb_i e (by omega), lr_idx]
      refine ⟨ib80 (by have := tb_lt e; omega), ?_⟩
      dsimp only
      rw [z_ix (show 9 * (L - 2 ^ w) + w < 2 ^ 31 by have := tb_lt e; omega), hT w hwn e, nI_add]
      cases es : scF B (roF B) (cfN B v) L w with
      | none =>
        refine ⟨fun _ => nx _ (by rw [scF_n e es]; rfl), fun z => absurd (by decide) z⟩
      | some r =>
        have hr : r.2 < 4096 := by
          rcases scF_or (B := B) (f := roF B) (c := cfN B v) (L := L) w with ⟨g1, _⟩ | ⟨u, v', g1, g2, g4, g5, g6⟩
          · rw [es] at g1; cases g1
          · rw [es] at g1
            rw [Option.some.inj g1]
            show v' < 4096
            rw [g5]; exact val u (by omega) g4
        show (nI r.2 < 0 → _) ∧ (¬ nI r.2 < 0 → ((nI r.2 ≤ nI _ → _) ∧ (¬ nI r.2 ≤ nI _ → _)))
        rw [z_le (by omega) (by omega)]
        refine ⟨fun z => absurd z (nI_pos (by omega)), fun _ => ⟨fun z => nx _ (by rw [scF_k e es z]), fun z => nx _ (by rw [scF_c e es z]; rfl)⟩⟩
def TMp (B : BV) (L v : Nat) (M : MM) : Prop := ∀ L' v', (L' < L ∨ (L' = L ∧ v' < v)) → L' < 2 ^ bN B → vfN B v' → M 80 (9 * L' + v') = nI (roF B (cfN B v') L')
theorem TMp.ht {B : BV} {L v : Nat} {M : MM} (hw : WF 8 999 B) (h : TMp B L v M) (hL : L < 2 ^ bN B) : ∀ w, w < bN B → L.testBit w = true → M 80 (9 * (L - 2 ^ w) + w) = nI (roF B (bC B w) (L - 2 ^ w)) := by
  intro w hwn hb
  have hn := hw.1
  have l1 := tb_lt hb
  have := h (L - 2 ^ w) w (Or.inl l1) (Nat.lt_trans l1 hL) (Or.inl hwn)
  rw [show cfN B w = bC B w from if_neg (by omega)] at this
  exact this
theorem lr_mid {s : SG} {L : Nat} {M0 : MM} {K2 : Int32 → MM → Prop} {Q : MM → Prop} (hL : L < 256) (k : ∀ M', RepM s M' → FrM M0 M' → TMp (sB s) (L + 1) 0 M' → K2 (nI (L + 1)) M') :
    ∀ (n v : Nat) (M : MM), v ≤ 9 → 9 - v < n → RepM s M → FrM M0 M → TMp (sB s) L v M → D5_layRound_c11 K2 Q n (nI L) (nI v) M := by
  intro n
  induction n with
  | zero => intro v M h1 h2; omega
  | succ n ih =>
    intro v M h1 h2 hR hf hT
    have hw := hR.2.1
    have hn := hw.1
    unfold D5_layRound_c11
    rw [show (9 : Int32) = nI 9 from rfl, z_le (by decide) (by omega)]
    refine ⟨fun z => ?_, fun z => ?_⟩
    · show K2 (nI L + 1) M
      rw [nI_1]
      refine k M hR hf (fun L' v' h a b => hT L' v' ?_ a b)
      have hv9 : v' < 9 := by rcases b with h | h <;> omega
      omega
    · have wr : ∀ y, (L < 2 ^ bN (sB s) → vfN (sB s) v → y = nI (roF (sB s) (cfN (sB s) v) L)) → D5_layRound_c117 (D5_layRound_c11 K2 Q n) K2 Q (nI L) (nI v) y (nI (9 * L + v)) 80 M := by
        intro y hy
        unfold D5_layRound_c117
        refine ⟨ib80 (by omega), ?_⟩
        dsimp only
        rw [z_ix (by omega), nI_1]
        refine ih (v + 1) _ (by omega) (by omega) hR.up80 (hf.tr FrM.up80) (fun L' v' h a b => ?_)
        have hv9 : v' < 9 := by rcases b with h | h <;> omega
        by_cases e : L' = L ∧ v' = v
        · rw [e.1, e.2, up_s]
          rw [e.1] at a; rw [e.2] at b
          exact hy a b
        · rw [up_k (by omega)]
          exact hT L' v' (by omega) a b
      by_cases hP : L < 2 ^ bN (sB s) ∧ vfN (sB s) v
      · exact lr_in hw hR.1 hP.1 hP.2 (hT.ht hw hP.1) (wr _ (fun _ _ => rfl)) FU 0 (Nat.zero_le _) (Nat.lt_of_le_of_lt (Nat.le_trans (Nat.sub_le _ _) hn) (by decide))
      · exact lr_any hw hR.1 hL (by omega) (fun y => wr y (fun a b => absurd ⟨a, b⟩ hP)) FU 0 (-1) (Nat.zero_le _) (Nat.lt_of_le_of_lt (Nat.le_trans (Nat.sub_le _ _) hn) (by decide))
theorem lr_out {s : SG} {M0 : MM} {Q : MM → Prop} (k : ∀ M', RepM s M' → FrM M0 M' → TMp (sB s) 256 0 M' → Q M') :
    ∀ (n L : Nat) (M : MM), L ≤ 256 → 256 - L < n → RepM s M → FrM M0 M → TMp (sB s) L 0 M → D5_layRound_c2 Q n (nI L) M := by
  intro n
  induction n with
  | zero => intro L M h1 h2; omega
  | succ n ih =>
    intro L M h1 h2 hR hf hT
    unfold D5_layRound_c2
    rw [show (256 : Int32) = nI 256 from rfl, z_le (by decide) (by omega)]
    refine ⟨fun z => ?_, fun z => ?_⟩
    · have e : L = 256 := by omega
      subst e
      exact k M hR hf hT
    · exact lr_mid (show L < 256 by omega) (fun M' r f t => ih (L + 1) M' (by omega) (by omega) r f t) FU 0 M (by decide) (by decide) hR hf hT
theorem m_layRound {s : SG} {M : MM} {Q : MM → Prop} (hR : RepM s M) (k : ∀ M', RepM s M' → FrM M M' → TMp (sB s) 256 0 M' → Q M') : D5_layRound M Q :=
  lr_out k FU 0 M (by decide) (by decide) hR FrM.rf (fun L' v' h a b => by omega)
theorem m_nextOn {B : BV} {L v : Nat} {M : MM} {Q : Int32 → MM → Prop} (hw : WF 8 999 B) (hR : RM B M) (hT : TMp B 256 0 M) (hL : L < 2 ^ bN B) (h0 : L ≠ 0) (hv : vfN B v) (q : Q (nI (nxW B (cfN B v) L)) M) : D5_nextOn (nI L) (nI v) M Q := by
  have hn := hw.1
  have hL256 := lt256 hw hL
  have hc := cfN_lt hw hv
  have hv9 : v < 9 := by rcases hv with h | h <;> omega
  obtain ⟨m, f1, f2, f3, f4, f5⟩ := nxW_or (B := B) (c := cfN B v) hL256 h0
  have hF : roF B (cfN B v) L = m := by rw [roF_eq, f1]; rfl
  have hTL := TMp.ht hw (fun L' v' h a b => hT L' v' (Or.inl (lt256 hw a)) a b : TMp B L 0 M) hL
  have hTv : M 80 (9 * L + v) = nI m := by rw [hT L v (Or.inl hL256) hL hv, hF]
  have tbn : ∀ w, L.testBit w = true → w < bN B := by
    intro w hb
    rcases Nat.lt_or_ge w (bN B) with z | z
    · exact z
    · rw [Nat.testBit_lt_two_pow (Nat.lt_of_lt_of_le hL (Nat.pow_le_pow_right (n := 2) (by decide) z))] at hb; cases hb
  have val : ∀ w, L.testBit w = true → stp (cfN B v) (bC B w) + roF B (bC B w) (L - 2 ^ w) < 4096 := by
    intro w hb
    have g3 := (hw.2.1 w (tbn w hb)).2.2.1
    have l1 := tb_lt hb
    have l2 := roF_le hw (L - 2 ^ w) (Nat.lt_trans l1 hL) (bC B w) g3
    have l3 := stp_le _ hc (bC B w) g3
    omega
  have hm := val _ f2
  rw [← f4] at hm
  have loop : ∀ (n w : Nat), w ≤ nxW B (cfN B v) L → nxW B (cfN B v) L - w < n → D5_nextOn_c2 Q n (nI L) (nI v) (nI w) M := by
    intro n
    induction n with
    | zero => intro w h1 h2; omega
    | succ n ih =>
      intro w h1 h2
      have nx : w ≠ nxW B (cfN B v) L → D5_nextOn_c54 (D5_nextOn_c2 Q n) Q (nI L) (nI v) (nI w) M := by
        intro hne
        show D5_nextOn_c2 Q n (nI L) (nI v) (nI w + 1) M
        rw [nI_1]
        exact ih (w + 1) (by omega) (by omega)
      unfold D5_nextOn_c2
      refine p5_hasBit (by omega) (by omega) ?_
      rw [b2l_0]
      refine ⟨fun e => nx (fun z => by rw [z] at e; rw [f2] at e; cases e), fun e => ?_⟩
      have e := b_nf e
      have hwn := tbn w e
      have g3 := (hw.2.1 w hwn).2.2.1
      have hv' := val w e
      refine p5_cellOf hw hR hv ⟨ib5 (WFm hw) hwn (by decide) (by decide), ?_⟩
      rw [z_ix (show w < 2 ^ 31 by omega), (hR.2.2.2.2 w hwn).2.2.1]
      refine p5_stepsOf hc g3 ?_
      rw [sb_i e (by omega), lr_idx, lr_idx]
      refine ⟨ib80 (by have := tb_lt e; omega), ib80 (by omega), ?_⟩
      rw [z_ix (show 9 * (L - 2 ^ w) + w < 2 ^ 31 by have := tb_lt e; omega), z_ix (show 9 * L + v < 2 ^ 31 by omega), hTL w hwn e, hTv, nI_add, z_eq (by omega) (by omega)]
      refine ⟨fun z => ?_, fun z => nx (fun y => z (by rw [y]; exact f4.symm))⟩
      have hwW : w = nxW B (cfN B v) L := by
        rcases Nat.eq_or_lt_of_le h1 with y | y
        · exact y
        · have := f5 w y e; omega
      rw [hwW]; exact q
  exact loop FU 0 (Nat.zero_le _) (Nat.lt_of_le_of_lt (show nxW B (cfN B v) L - 0 ≤ 8 by omega) (by decide))
theorem m_round_loop {B : BV} {i V cnt : Nat} {M : MM} {Q : Int32 → MM → Prop} (hw : WF 8 999 B) (hR : RM B M) (hT : TMp B 256 0 M) (hi : i < cnt) (hcnt : cnt ≤ 8) (q : Q (nI V) M) :
    ∀ (n j v L : Nat), j ≤ i + 1 → i + 1 - j < n → vfN B v → (j ≤ i → rcN B (i - j) (cfN B v) L = V ∧ pcf 25 L + j = cnt ∧ ssB B L) → (j = i + 1 → v < bN B ∧ bC B v = V) → D5_round_c60 Q n (nI i) (nI L) (nI v) (nI j) M := by
  have hn := hw.1
  intro n
  induction n with
  | zero => intro j v L h1 h2; omega
  | succ n ih =>
    intro j v L h1 h2 hv h3 h4
    unfold D5_round_c60
    rw [z_lt (by omega) (by omega)]
    refine ⟨fun z => ?_, fun z => ?_⟩
    · obtain ⟨g1, g2⟩ := h4 (by omega)
      refine ⟨ib5 (WFm hw) g1 (by decide) (by decide), ?_⟩
      rw [z_ix (by omega), (hR.2.2.2.2 v g1).2.2.1, g2]; exact q
    · obtain ⟨e1, e2, e3⟩ := h3 (by omega)
      have hLn := ssB_lt hw e3
      have hL := lt256 hw hLn
      have h0 : L ≠ 0 := fun e => by rw [e] at e2; rw [show pcf 25 0 = 0 from by decide] at e2; omega
      obtain ⟨m, f1, f2, f3, f4, f5⟩ := nxW_or (B := B) (c := cfN B v) hL h0
      have hwn := hw.2.2.1 _ (e3 _ f2)
      refine m_nextOn hw hR hT hLn h0 hv ?_
      dsimp only
      rw [sb_i f2 (by omega), nI_1]
      obtain ⟨c1, c2⟩ := clr_all L hL _ f3 f2
      have ecf : cfN B (nxW B (cfN B v) L) = bC B (nxW B (cfN B v) L) := if_neg (by omega)
      refine ih (j + 1) _ _ (by omega) (by omega) (Or.inl hwn) (fun hj => ⟨?_, by omega, ssB_sub hw e3 f2⟩) (fun hj => ⟨hwn, ?_⟩)
      · rw [show i - j = (i - (j + 1)) + 1 by omega] at e1
        rw [ecf]; exact e1
      · rw [show i - j = 0 by omega] at e1
        exact e1
theorem m_round_go {B : BV} {j S : Nat} {M : MM} {Q : Int32 → MM → Prop} (hw : WF 8 999 B) (hR : RM B M) (hT : TMp B 256 0 M) (hS : ssB B S) (hj : j < pcf 25 S) (q : Q (nI (rcN B j 0 S)) M) : D5_round_c60 Q FU (nI j) (nI S) (nI 8) (nI 0) M := by
  have h8 := (pcf8 S (lt256 hw (ssB_lt hw hS))).1
  refine m_round_loop hw hR hT hj h8 q FU 0 8 S (Nat.zero_le _) (Nat.lt_of_le_of_lt (show j + 1 - 0 ≤ 9 by omega) (by decide)) (Or.inr rfl) (fun _ => ⟨by rw [Nat.sub_zero, show cfN B 8 = 0 from if_pos rfl], by rw [Nat.add_zero], hS⟩) (fun h => by omega)
theorem m_round {s : SG} {x : Int32} {M : MM} {Q : Int32 → MM → Prop} (hR : RepM s M) (q : ∀ M', RepM (roundS s x).2 M' → Lo M M' → Q (roundS s x).1 M') : D5_round x M Q := by
  unfold D5_round
  have hR1 := hR.thrown (x := 0)
  have hL : Lo M (up M 62 9 0) := fun p hp => up_p (by omega)
  dsimp only
  generalize up M 62 9 0 = M1 at hR1 hL
  have hw := hR1.2.1
  have e1 : (-1 : Int32).toInt = -1 := by decide
  have e0 : (0 : Int32).toInt = 0 := by decide
  rw [i_le (-1) x, e1]
  refine ⟨fun c1 => ?_, fun c1 => ?_⟩
  · rw [show roundS s x = if x = -1 then (nI (roF (sB s) 0 (mk (bS (sB s)) 10)), s) else if x.toInt < (pcf 25 (mk (bS (sB s)) 10) : Int) then (nI (rcN (sB s) x.toInt.toNat 0 (mk (bS (sB s)) 10)), s) else (-9, s) from if_neg (by omega)] at q
    refine m_layRound hR1 (fun M2 r2 f2 hT => ?_)
    have hS := ssB_S (B := sB s)
    have hSn := ssB_lt hw hS
    have hS256 := lt256 hw hSn
    refine p5_standing (WFm hw) r2.1 ?_
    rw [i_le 0 x, e0]
    refine ⟨fun c2 => ?_, fun c2 => ?_⟩
    · rw [if_neg (fun e => by rw [e] at c2; rw [e1] at c2; omega)] at q
      refine p5_onesOf (Nat.lt_trans (mk_lt _ 10) (by decide)) ?_
      rw [i_lt, i_n (Nat.lt_of_le_of_lt (pcf_le 25 _) (by decide))]
      refine ⟨fun c3 => ?_, fun c3 => ?_⟩
      · rw [if_pos c3] at q
        have hxi : x = nI x.toInt.toNat := nI_toNat (by omega)
        have go := m_round_go hw r2.1 hT hS (j := x.toInt.toNat) (by omega) (q M2 r2 (hL.tr f2.1))
        rw [← hxi] at go
        exact go
      · rw [if_neg c3] at q
        exact q M2 r2 (hL.tr f2.1)
    · have hx : x = -1 := by rw [i_eq, e1]; omega
      rw [if_pos hx] at q
      rw [show (9 : Int32) * nI (mk (bS (sB s)) 10) + 8 = nI (9 * mk (bS (sB s)) 10 + 8) from lr_idx (w := 8)]
      refine ⟨ib80 (by omega), ?_⟩
      rw [z_ix (by omega), hT _ 8 (Or.inl hS256) hSn (Or.inr rfl), show cfN (sB s) 8 = 0 from if_pos rfl]
      exact q M2 r2 (hL.tr f2.1)
  · rw [show roundS s x = outS s 4 from if_pos (by omega)] at q
    exact m_out (k := 4) hR1 (by decide) (fun M' a b => q M' a (hL.tr b))
