/-! PURE PART: pairs -/
def stp (a b : Nat) : Nat := (if b / 5 ≤ a / 5 then a / 5 - b / 5 else b / 5 - a / 5) + (if b % 5 ≤ a % 5 then a % 5 - b % 5 else b % 5 - a % 5)
theorem stp_le : ∀ a, a < 25 → ∀ b, b < 25 → stp a b ≤ 8 := by decide +kernel
theorem st3_all : ∀ a, a < 25 → ∀ b, b < 25 → (if 0 ≤ ((nI a / (5 : Int32)) - (nI b / (5 : Int32))) then ((nI a / (5 : Int32)) - (nI b / (5 : Int32))) else 0 - ((nI a / (5 : Int32)) - (nI b / (5 : Int32)))) + (if 0 ≤ ((nI a - nI a / (5 : Int32) * (5 : Int32)) - (nI b - nI b / (5 : Int32) * (5 : Int32))) then ((nI a - nI a / (5 : Int32) * (5 : Int32)) - (nI b - nI b / (5 : Int32) * (5 : Int32))) else 0 - ((nI a - nI a / (5 : Int32) * (5 : Int32)) - (nI b - nI b / (5 : Int32) * (5 : Int32)))) = nI (stp a b) := by decide +kernel
theorem p3_steps {a b : Nat} {M : MM} {Q : Int32 → MM → Prop} (ha : a < 25) (hb : b < 25) (q : Q (nI (stp a b)) M) : D3_steps (nI a) (nI b) M Q := by
  unfold D3_steps
  rw [st3_all a ha b hb]
  exact q
theorem p5_stepsOf {a b : Nat} {M : MM} {Q : Int32 → MM → Prop} (ha : a < 25) (hb : b < 25) (q : Q (nI (stp a b)) M) : D5_stepsOf (nI a) (nI b) M Q := by
  unfold D5_stepsOf D5_stepsOf_c26
  dsimp only
  have m1 : a % 5 < 5 := Nat.mod_lt _ (by decide)
  have m2 : b % 5 < 5 := Nat.mod_lt _ (by decide)
  rw [show (5 : Int32) = nI 5 from rfl, pk_rem (a := a) (by omega) (by decide) (by decide), pk_rem (a := b) (by omega) (by decide) (by decide), pk_div (a := a) (by omega) (by decide) (by decide), pk_div (a := b) (by omega) (by decide) (by decide), z_le (by omega) (by omega), z_le (by omega) (by omega)]
  unfold stp at q
  have k : ∀ u v, (if b / 5 ≤ a / 5 then a / 5 - b / 5 else b / 5 - a / 5) = u → (if b % 5 ≤ a % 5 then a % 5 - b % 5 else b % 5 - a % 5) = v → Q (nI u + nI v) M := by
    intro u v hu hv
    rw [nI_add, ← hu, ← hv]; exact q
  refine ⟨fun h => ⟨fun g => ?_, fun g => ?_⟩, fun h => ⟨fun g => ?_, fun g => ?_⟩⟩
  · rw [pk_sub h, pk_sub g]
    exact k _ _ (by split <;> omega) (by split <;> omega)
  · rw [pk_sub h, pk_sub (show b % 5 ≤ a % 5 by omega)]
    exact k _ _ (by split <;> omega) (by split <;> omega)
  · rw [pk_sub (show b / 5 ≤ a / 5 by omega), pk_sub g]
    exact k _ _ (by split <;> omega) (by split <;> omega)
  · rw [pk_sub (show b / 5 ≤ a / 5 by omega), pk_sub (show b % 5 ≤ a % 5 by omega)]
    exact k _ _ (by split <;> omega) (by split <;> omega)
/-- the steps between two that stand, the first the less; else 0 -/
def byN (B : BV) (w o : Nat) : Nat := if w < o ∧ bS B w = true ∧ bS B o = true then stp (bC B w) (bC B o) else 0
def pnI (B : BV) (w : Nat) : Nat → Nat
  | 0 => 0
  | o + 1 => pnI B w o + (if byN B w o = 1 then 1 else 0)
def psI (B : BV) (w m : Nat) : Nat → Nat
  | 0 => m
  | o + 1 => if byN B w o ≤ psI B w m o then psI B w m o else byN B w o
def pnO (B : BV) : Nat → Nat
  | 0 => 0
  | w + 1 => pnO B w + pnI B w 10
def psO (B : BV) : Nat → Nat
  | 0 => 0
  | w + 1 => psI B w (psO B w) 10
theorem pnI_s (B : BV) (w o : Nat) : pnI B w (o + 1) = pnI B w o + (if byN B w o = 1 then 1 else 0) := rfl
theorem psI_s (B : BV) (w m o : Nat) : psI B w m (o + 1) = if byN B w o ≤ psI B w m o then psI B w m o else byN B w o := rfl
theorem byN_0 {B : BV} {w o : Nat} (h : ¬ (w < o ∧ bS B w = true ∧ bS B o = true)) : byN B w o = 0 := if_neg h
theorem byN_1 {B : BV} {w o : Nat} (h : w < o ∧ bS B w = true ∧ bS B o = true) : byN B w o = stp (bC B w) (bC B o) := if_pos h
theorem byN_le {B : BV} {n H w o : Nat} (hw : WF n H B) : byN B w o ≤ 8 := by
  by_cases h : w < o ∧ bS B w = true ∧ bS B o = true
  · rw [byN_1 h]
    exact stp_le _ (hw.2.1 w (hw.2.2.1 w h.2.1)).2.2.1 _ (hw.2.1 o (hw.2.2.1 o h.2.2)).2.2.1
  · rw [byN_0 h]; decide
theorem pnI_skip {B : BV} {w o : Nat} (h : byN B w o = 0) : pnI B w (o + 1) = pnI B w o := by rw [pnI_s, h]; rfl
theorem psI_skip {B : BV} {w m o : Nat} (h : byN B w o = 0) : psI B w m (o + 1) = psI B w m o := by rw [psI_s, h, if_pos (Nat.zero_le _)]
theorem p_0 {B : BV} {w m : Nat} : ∀ o, o ≤ w + 1 → pnI B w o = 0 ∧ psI B w m o = m
  | 0, _ => ⟨rfl, rfl⟩
  | o + 1, h => by
    have ih := p_0 (B := B) (w := w) (m := m) o (by omega)
    have e := byN_0 (B := B) (w := w) (o := o) (fun z => by omega)
    rw [pnI_skip e, psI_skip e]; exact ih
theorem p_end {B : BV} {w m n H : Nat} (hw : WF n H B) : ∀ o, bN B ≤ o → pnI B w o = pnI B w (bN B) ∧ psI B w m o = psI B w m (bN B) := by
  intro o
  induction o with
  | zero => intro h; rw [show bN B = 0 by omega]; exact ⟨rfl, rfl⟩
  | succ o ih =>
    intro h
    rcases Nat.eq_or_lt_of_le h with z | z
    · rw [z]; exact ⟨rfl, rfl⟩
    · have e := byN_0 (B := B) (w := w) (o := o) (fun z => by rw [st_no hw (show bN B ≤ o by omega)] at z; cases z.2.2)
      rw [pnI_skip e, psI_skip e]; exact ih (by omega)
theorem p_no {B : BV} {w m : Nat} (hs : bS B w = false) : ∀ o, pnI B w o = 0 ∧ psI B w m o = m
  | 0 => ⟨rfl, rfl⟩
  | o + 1 => by
    have ih := p_no (B := B) (w := w) (m := m) hs o
    have e := byN_0 (B := B) (w := w) (o := o) (fun z => by rw [hs] at z; cases z.2.1)
    rw [pnI_skip e, psI_skip e]; exact ih
theorem pO_end {B : BV} {n H : Nat} (hw : WF n H B) : ∀ w, bN B ≤ w → pnO B w = pnO B (bN B) ∧ psO B w = psO B (bN B) := by
  intro w
  induction w with
  | zero => intro h; rw [show bN B = 0 by omega]; exact ⟨rfl, rfl⟩
  | succ w ih =>
    intro h
    rcases Nat.eq_or_lt_of_le h with z | z
    · rw [z]; exact ⟨rfl, rfl⟩
    · obtain ⟨e1, e2⟩ := p_no (B := B) (w := w) (m := psO B w) (st_no hw (by omega)) 10
      have ih := ih (by omega)
      refine ⟨?_, ?_⟩
      · show pnO B w + pnI B w 10 = _
        rw [e1]; exact ih.1
      · show psI B w (psO B w) 10 = _
        rw [e2]; exact ih.2
theorem pI_le {B : BV} {w m n H : Nat} (hw : WF n H B) (hm : m ≤ 8) : ∀ o, pnI B w o ≤ o ∧ psI B w m o ≤ 8
  | 0 => ⟨Nat.le_refl 0, hm⟩
  | o + 1 => by
    have ih := pI_le (w := w) hw hm o
    have b8 := byN_le (w := w) (o := o) hw
    rw [pnI_s, psI_s]
    refine ⟨?_, ?_⟩
    · split <;> omega
    · split <;> omega
theorem pO_le {B : BV} {n H : Nat} (hw : WF n H B) : ∀ w, pnO B w ≤ 10 * w ∧ psO B w ≤ 8
  | 0 => ⟨Nat.le_refl 0, Nat.zero_le 8⟩
  | w + 1 => by
    have ih := pO_le hw w
    have k := pI_le (w := w) hw ih.2 10
    refine ⟨?_, k.2⟩
    show pnO B w + pnI B w 10 ≤ _
    omega
theorem c_pn_in {b H w : Nat} {B : BV} {M : MM} {K4 : Int32 → Int32 → MM → Prop} {Q : Int32 → MM → Prop} (hb : isB b) (hw : WF 10 H B) (hR : RB b B M) (hw9 : w < 10) (k : K4 (nI (pnO B (w + 1))) (nI (w + 1)) M) :
    ∀ (n o : Nat), w < o → o ≤ 10 → 10 - o < n → D0_pairsBeside_c14 b K4 Q n (nI (pnO B w + pnI B w o)) (nI w) (nI o) M := by
  intro n
  induction n with
  | zero => intro o h0 h1 h2; omega
  | succ n ih =>
    intro o h0 h1 h2
    unfold D0_pairsBeside_c14
    rw [show (10 : Int32) = nI 10 from rfl, z_le (by decide) (by omega)]
    refine ⟨fun z => ?_, fun z => ?_⟩
    · have e : o = 10 := by omega
      rw [e]
      show K4 (nI (pnO B w + pnI B w 10)) (nI w + 1) M
      rw [nI_1]; exact k
    · have nx : ∀ v, v = pnO B w + pnI B w (o + 1) → D0_pairsBeside_c58 b (D0_pairsBeside_c14 b K4 Q n) K4 Q (nI v) (nI w) (nI o) M := by
        intro v hv
        show D0_pairsBeside_c14 b K4 Q n (nI v) (nI w) (nI o + 1) M
        rw [nI_1, hv]
        exact ih (o + 1) (by omega) (by omega) (by omega)
      refine p0_stands hR.2.1 hw9 ?_
      rw [b2l_0]
      refine ⟨fun e => nx _ (by rw [pnI_skip (byN_0 (fun z => by rw [e] at z; cases z.2.1))]), fun e => ?_⟩
      have e := b_nf e
      refine p0_stands hR.2.1 (by omega) ?_
      rw [b2l_0]
      refine ⟨fun e2 => nx _ (by rw [pnI_skip (byN_0 (fun z => by rw [e2] at z; cases z.2.2))]), fun e2 => ⟨isB_ib3 hb hw9, isB_ib3 hb (by omega), ?_⟩⟩
      have e2 := b_nf e2
      have g1 := hw.2.2.1 w e
      have g2 := hw.2.2.1 o e2
      have c1 := (hw.2.1 w g1).2.2.1
      have c2 := (hw.2.1 o g2).2.2.1
      have hb1 := byN_1 (B := B) ⟨h0, e, e2⟩
      have hs := stp_le _ c1 _ c2
      rw [z_ix (show w < 2 ^ 31 by omega), z_ix (show o < 2 ^ 31 by omega), (hR.2.2.2.2.2 w g1).2.2.1, (hR.2.2.2.2.2 o g2).2.2.1]
      refine p3_steps c1 c2 ?_
      rw [show (1 : Int32) = nI 1 from rfl]
      simp only [ne_eq, z_eq (show stp (bC B w) (bC B o) < 2 ^ 31 by omega) (show 1 < 2 ^ 31 by decide)]
      refine ⟨fun c => nx _ (by rw [pnI_s, hb1, if_neg c]; rfl), fun c => ?_⟩
      rw [nI_add (pnO B w + pnI B w o) 1]
      exact nx _ (by rw [pnI_s, hb1, if_pos c]; rfl)
theorem c_pn_out {b H : Nat} {B : BV} {M : MM} {Q : Int32 → MM → Prop} (hb : isB b) (hw : WF 10 H B) (hR : RB b B M) (q : Q (nI (pnO B 10)) M) :
    ∀ (n w : Nat), w ≤ 10 → 10 - w < n → D0_pairsBeside_c4 b Q n (nI (pnO B w)) (nI w) M := by
  intro n
  induction n with
  | zero => intro w h1 h2; omega
  | succ n ih =>
    intro w h1 h2
    unfold D0_pairsBeside_c4
    rw [show (10 : Int32) = nI 10 from rfl, z_le (by decide) (by omega)]
    refine ⟨fun z => ?_, fun z => ?_⟩
    · rw [show w = 10 by omega]; exact q
    · show D0_pairsBeside_c14 b (D0_pairsBeside_c4 b Q n) Q FU (nI (pnO B w)) (nI w) (nI w + 1) M
      rw [nI_1]
      have := c_pn_in (K4 := D0_pairsBeside_c4 b Q n) (Q := Q) hb hw hR (show w < 10 by omega) (ih (w + 1) (by omega) (by omega)) FU (w + 1) (by omega) (by omega) (Nat.lt_of_le_of_lt (Nat.sub_le _ _) (by decide))
      rw [(p_0 (B := B) (w := w) (m := 0) (w + 1) (Nat.le_refl _)).1, Nat.add_zero] at this
      exact this
theorem c_ps_in {b H w : Nat} {B : BV} {M : MM} {K4 : Int32 → Int32 → MM → Prop} {Q : Int32 → MM → Prop} (hb : isB b) (hw : WF 10 H B) (hR : RB b B M) (hw9 : w < 10) (k : K4 (nI (psO B (w + 1))) (nI (w + 1)) M) :
    ∀ (n o : Nat), w < o → o ≤ 10 → 10 - o < n → D0_spread_c14 b K4 Q n (nI (psI B w (psO B w) o)) (nI w) (nI o) M := by
  intro n
  induction n with
  | zero => intro o h0 h1 h2; omega
  | succ n ih =>
    intro o h0 h1 h2
    have p8 := (pI_le (w := w) hw (pO_le hw w).2 o).2
    unfold D0_spread_c14
    rw [show (10 : Int32) = nI 10 from rfl, z_le (by decide) (by omega)]
    refine ⟨fun z => ?_, fun z => ?_⟩
    · have e : o = 10 := by omega
      rw [e]
      show K4 (nI (psI B w (psO B w) 10)) (nI w + 1) M
      rw [nI_1]; exact k
    · have nx : ∀ v, v = psI B w (psO B w) (o + 1) → D0_spread_c56 b (D0_spread_c14 b K4 Q n) K4 Q (nI v) (nI w) (nI o) M := by
        intro v hv
        show D0_spread_c14 b K4 Q n (nI v) (nI w) (nI o + 1) M
        rw [nI_1, hv]
        exact ih (o + 1) (by omega) (by omega) (by omega)
      refine p0_stands hR.2.1 hw9 ?_
      rw [b2l_0]
      refine ⟨fun e => nx _ (by rw [psI_skip (byN_0 (fun z => by rw [e] at z; cases z.2.1))]), fun e => ?_⟩
      have e := b_nf e
      refine p0_stands hR.2.1 (by omega) ?_
      rw [b2l_0]
      refine ⟨fun e2 => nx _ (by rw [psI_skip (byN_0 (fun z => by rw [e2] at z; cases z.2.2))]), fun e2 => ⟨isB_ib3 hb hw9, isB_ib3 hb (by omega), ?_⟩⟩
      have e2 := b_nf e2
      have g1 := hw.2.2.1 w e
      have g2 := hw.2.2.1 o e2
      have c1 := (hw.2.1 w g1).2.2.1
      have c2 := (hw.2.1 o g2).2.2.1
      have hb1 := byN_1 (B := B) ⟨h0, e, e2⟩
      have hs := stp_le _ c1 _ c2
      rw [z_ix (show w < 2 ^ 31 by omega), z_ix (show o < 2 ^ 31 by omega), (hR.2.2.2.2.2 w g1).2.2.1, (hR.2.2.2.2.2 o g2).2.2.1]
      refine p3_steps c1 c2 ?_
      dsimp only
      rw [z_max (by omega) (by omega)]
      refine nx _ ?_
      rw [psI_s, hb1]
      split <;> split <;> omega
theorem c_ps_out {b H : Nat} {B : BV} {M : MM} {Q : Int32 → MM → Prop} (hb : isB b) (hw : WF 10 H B) (hR : RB b B M) (q : Q (nI (psO B 10)) M) :
    ∀ (n w : Nat), w ≤ 10 → 10 - w < n → D0_spread_c4 b Q n (nI (psO B w)) (nI w) M := by
  intro n
  induction n with
  | zero => intro w h1 h2; omega
  | succ n ih =>
    intro w h1 h2
    unfold D0_spread_c4
    rw [show (10 : Int32) = nI 10 from rfl, z_le (by decide) (by omega)]
    refine ⟨fun z => ?_, fun z => ?_⟩
    · rw [show w = 10 by omega]; exact q
    · show D0_spread_c14 b (D0_spread_c4 b Q n) Q FU (nI (psO B w)) (nI w) (nI w + 1) M
      rw [nI_1]
      have := c_ps_in (K4 := D0_spread_c4 b Q n) (Q := Q) hb hw hR (show w < 10 by omega) (ih (w + 1) (by omega) (by omega)) FU (w + 1) (by omega) (by omega) (Nat.lt_of_le_of_lt (Nat.sub_le _ _) (by decide))
      rw [(p_0 (B := B) (w := w) (m := psO B w) (w + 1) (Nat.le_refl _)).2] at this
      exact this
theorem free_eq {B : BV} {H : Nat} (hw : WF 10 H B) : 33554431 &&& (stC B 10 ^^^ (2 ^ 32 - 1)) = mk (frB B) 25 := by
  refine mk_of (fun i => ?_)
  rw [Nat.testBit_and, Nat.testBit_xor, Nat.testBit_two_pow_sub_one, show 33554431 = 2 ^ 25 - 1 from rfl, Nat.testBit_two_pow_sub_one]
  by_cases hi : i < 25
  · rw [decide_eq_true hi, decide_eq_true (show i < 32 by omega), Bool.true_and, Bool.true_and]
    unfold frB
    rcases wo_or B i 10 0 with ⟨g1, g2⟩ | ⟨j, g1, g2, g3, g4, g5⟩
    · rw [show woV B i = -9 from g1]
      have : (stC B 10).testBit i = false := by
        cases e : (stC B 10).testBit i
        · rfl
        · obtain ⟨o, o1, o2, o3⟩ := (stC_bit 10).mp e
          exact absurd ⟨o2, o3⟩ (g2 o (Nat.zero_le _) (by omega))
      rw [this]
      decide
    · rw [show woV B i = nI j from g5, (stC_bit 10).mpr ⟨j, by omega, g3, g4⟩, decide_eq_false (not_not_intro (nI_pos' (by omega)))]
      rfl
  · rw [decide_eq_false hi, Bool.false_and, Bool.false_and]
def pairsS (s : SG) (x : Int32) : Int32 × SG := if inN x 3 = true then ((if x = 0 then nI (pnO (sB s) 10) else if x = 1 then nI (psO (sB s) 10) else nI (mk (frB (sB s)) 25)), s) else outS s 2
theorem what3 {x : Int32} (h : inN x 3 = true) : x = 0 ∨ x = 1 ∨ x = 2 := by
  obtain ⟨j, hj, e⟩ := inN_of h (by decide)
  rcases (show j = 0 ∨ j = 1 ∨ j = 2 by omega) with rfl | rfl | rfl
  · exact Or.inl e
  · exact Or.inr (Or.inl e)
  · exact Or.inr (Or.inr e)
theorem c_pairs {s : SG} {x : Int32} {M : MM} {Q : Int32 → MM → Prop} (hR : RepC s M) (q : ∀ M', RepC (pairsS s x).2 M' → Hi M M' → Q (pairsS s x).1 M') : D4_pairs x M Q := by
  unfold D4_pairs
  have hw := WFm hR.2.1
  unfold pairsS at q
  refine ⟨fun e => ?_, fun e0 => ⟨fun e => ?_, fun e1 => ⟨fun e => ?_, fun e2 => ?_⟩⟩⟩
  · rw [if_pos (by rw [e]; decide)] at q
    have q := q M hR Hi.rf
    dsimp only at q
    rw [if_pos e] at q
    exact c_pn_out isB1 hw hR.1 q FU 0 (by decide) (by decide)
  · rw [if_pos (by rw [e]; decide)] at q
    have q := q M hR Hi.rf
    dsimp only at q
    rw [if_neg e0, if_pos e] at q
    exact c_ps_out isB1 hw hR.1 q FU 0 (by decide) (by decide)
  · rw [if_pos (by rw [e]; decide)] at q
    have q := q M hR Hi.rf
    dsimp only at q
    rw [if_neg e0, if_neg e1] at q
    refine p0_cells isB1 hw hR.1 ?_
    rw [show (33554431 : Int32) = nI 33554431 from rfl, show (-1 : Int32) = nI (2 ^ 32 - 1) from by decide +kernel, z_xor, z_and, free_eq hw]
    exact q
  · rw [if_neg (fun h => by rcases what3 h with h | h | h; exact e0 h; exact e1 h; exact e2 h)] at q
    exact c_out (k := 2) hR (by decide) q
theorem pr111 {K49 : Int32 → Int32 → Int32 → Int32 → Int32 → Int32 → MM → Prop} {K34 : Int32 → Int32 → Int32 → Int32 → Int32 → MM → Prop} {Q : Int32 → MM → Prop} {x1 x4 x5 x6 : Int32} {N F b : Nat} {M : MM} (hF : F ≤ 8) (hb : b ≤ 8) (k : K49 x1 (nI (N + (if b = 1 then 1 else 0))) (nI (if b ≤ F then F else b)) x4 x5 (x6 + 1) M) : D5_pairs_c111 K49 K34 Q x1 (nI N) (nI F) x4 x5 x6 (nI b) M := by
  unfold D5_pairs_c111 D5_pairs_c125
  dsimp only
  rw [show (1 : Int32) = nI 1 from rfl, show (0 : Int32) = nI 0 from rfl, nI_add, nI_add, z_le (by omega) (by omega)]
  simp only [ne_eq, z_eq (show b < 2 ^ 31 by omega) (show 1 < 2 ^ 31 by decide)]
  refine ⟨fun h => ⟨fun g => ?_, fun g => ?_⟩, fun h => ⟨fun g => ?_, fun g => ?_⟩⟩
  · rw [if_neg h, if_pos g] at k; exact k
  · rw [if_neg h, if_neg g] at k; exact k
  · rw [if_pos h, if_pos g] at k; exact k
  · rw [if_pos h, if_neg g] at k; exact k
theorem m_pr_in {H w : Nat} {x1 : Int32} {B : BV} {M : MM} {K34 : Int32 → Int32 → Int32 → Int32 → Int32 → MM → Prop} {Q : Int32 → MM → Prop} (hw : WF 10 H B) (hR : RM B M) (hj : w < bN B) (k : K34 x1 (nI (pnO B (w + 1))) (nI (psO B (w + 1))) 0 (nI (w + 1)) M) :
    ∀ (n o : Nat), w < o → o ≤ bN B → bN B - o < n → D5_pairs_c49 K34 Q n x1 (nI (pnO B w + pnI B w o)) (nI (psI B w (psO B w) o)) 0 (nI w) (nI o) M := by
  have hn := hw.1
  obtain ⟨m1, m2, m3, m4, m5⟩ := hR.2.2.2.2 w hj
  have c1 := (hw.2.1 w hj).2.2.1
  intro n
  induction n with
  | zero => intro o h0 h1 h2; omega
  | succ n ih =>
    intro o h0 h1 h2
    have p8 := (pI_le (w := w) hw (pO_le hw w).2 o).2
    unfold D5_pairs_c49
    rw [hR.1, z_le (by omega) (by omega)]
    refine ⟨fun z => ?_, fun z => ⟨ib5 hw hj (by decide) (by decide), ?_⟩⟩
    · have e : o = bN B := by omega
      have en := p_end (w := w) (m := psO B w) hw 10 hn
      have k : K34 x1 (nI (pnO B w + pnI B w 10)) (nI (psI B w (psO B w) 10)) 0 (nI (w + 1)) M := k
      rw [en.1, en.2, ← e] at k
      show K34 x1 (nI (pnO B w + pnI B w o)) (nI (psI B w (psO B w) o)) 0 (nI w + 1) M
      rw [nI_1]; exact k
    · have ho : o < bN B := by omega
      obtain ⟨n1, n2, n3, n4, n5⟩ := hR.2.2.2.2 o ho
      have c2 := (hw.2.1 o ho).2.2.1
      have nx : ∀ v, byN B w o = v → D5_pairs_c111 (D5_pairs_c49 K34 Q n) K34 Q x1 (nI (pnO B w + pnI B w o)) (nI (psI B w (psO B w) o)) 0 (nI w) (nI o) (nI v) M := by
        intro v hv
        refine pr111 p8 (by rw [← hv]; exact byN_le hw) ?_
        have ih := ih (o + 1) (by omega) (by omega) (by omega)
        rw [pnI_s, psI_s, hv, ← Nat.add_assoc] at ih
        rw [nI_1]; exact ih
      have no : byN B w o = 0 → D5_pairs_c82 (D5_pairs_c49 K34 Q n) K34 Q x1 (nI (pnO B w + pnI B w o)) (nI (psI B w (psO B w) o)) 0 (nI w) (nI o) M := fun e => ⟨fun _ => nx 0 e, fun z => absurd rfl z⟩
      rw [z_ix (show o < 2 ^ 31 by omega), z_ix (show w < 2 ^ 31 by omega), m5, n5, gn_n0, gn_e0, gn_n0, gn_e0]
      refine ⟨fun e => no (byN_0 (fun z => by rw [e] at z; cases z.2.1)), fun e => ⟨ib5 hw ho (by decide) (by decide), fun e2 => no (byN_0 (fun z => by rw [e2] at z; cases z.2.2)), fun e2 => ⟨fun z => absurd z (by decide), fun _ => ⟨ib5 hw hj (by decide) (by decide), ib5 hw ho (by decide) (by decide), ?_⟩⟩⟩⟩
      rw [z_ix (show o < 2 ^ 31 by omega), z_ix (show w < 2 ^ 31 by omega), m3, n3]
      exact p5_stepsOf c1 c2 (nx _ (byN_1 ⟨h0, e, e2⟩))
theorem m_pr_free {H : Nat} {x1 x2 x3 : Int32} {B : BV} {M : MM} {Q : Int32 → MM → Prop} (hw : WF 10 H B) (hD : DC B) (hR : RM B M) (q : Q (if x1 = 0 then x2 else if x1 = 1 then x3 else nI (mk (frB B) 25)) M) :
    ∀ (n c : Nat), c ≤ 25 → 25 - c < n → D5_pairs_c155 Q n x1 x2 x3 (nI (mk (frB B) c)) (nI c) M := by
  intro n
  induction n with
  | zero => intro c h1 h2; omega
  | succ n ih =>
    intro c h1 h2
    unfold D5_pairs_c155
    rw [show (25 : Int32) = nI 25 from rfl, z_le (by decide) (by omega)]
    refine ⟨fun z => ?_, fun z => ?_⟩
    · rw [show c = 25 by omega]
      refine ⟨fun e0 => ⟨fun e1 => ?_, fun e1 => ?_⟩, fun e0 => ?_⟩
      · rw [if_neg e0, if_neg e1] at q; exact q
      · rw [if_neg e0, if_pos e1] at q; exact q
      · rw [if_pos e0] at q; exact q
    · have nx : ∀ v, v = (if frB B c = true then 2 ^ c else 0) → D5_pairs_c181 (D5_pairs_c155 Q n) Q x1 x2 x3 (nI c) (nI v) (nI (mk (frB B) c)) M := by
        intro v hv
        show D5_pairs_c155 Q n x1 x2 x3 (nI (mk (frB B) c) ||| nI v) (nI c + 1) M
        rw [z_or, nI_1, hv, ← mk_or]
        exact ih (c + 1) (by omega) (by omega)
      refine p5_workAt hw hD hR (by omega) ⟨fun z => nx 0 (by rw [show frB B c = false from decide_eq_false (not_not_intro z)]; rfl), fun z => ?_⟩
      rw [z_shl c (by omega)]
      exact nx _ (by rw [show frB B c = true from decide_eq_true z]; rfl)
theorem m_pr_out {H : Nat} {x1 : Int32} {B : BV} {M : MM} {Q : Int32 → MM → Prop} (hw : WF 10 H B) (hD : DC B) (hR : RM B M) (q : Q (if x1 = 0 then nI (pnO B 10) else if x1 = 1 then nI (psO B 10) else nI (mk (frB B) 25)) M) :
    ∀ (n w : Nat), w ≤ bN B → bN B - w < n → D5_pairs_c34 Q n x1 (nI (pnO B w)) (nI (psO B w)) 0 (nI w) M := by
  have hn := hw.1
  intro n
  induction n with
  | zero => intro w h1 h2; omega
  | succ n ih =>
    intro w h1 h2
    unfold D5_pairs_c34
    rw [hR.1, z_le (by omega) (by omega)]
    refine ⟨fun z => ?_, fun z => ?_⟩
    · have e : w = bN B := by omega
      have en := pO_end hw 10 hn
      rw [en.1, en.2, ← e] at q
      exact m_pr_free hw hD hR q FU 0 (by decide) (by decide)
    · show D5_pairs_c49 (D5_pairs_c34 Q n) Q FU x1 (nI (pnO B w)) (nI (psO B w)) 0 (nI w) (nI w + 1) M
      rw [nI_1]
      have := m_pr_in (K34 := D5_pairs_c34 Q n) (Q := Q) (x1 := x1) hw hR (show w < bN B by omega) (ih (w + 1) (by omega) (by omega)) FU (w + 1) (by omega) (by omega) (Nat.lt_of_le_of_lt (Nat.le_trans (Nat.sub_le _ _) hn) (by decide))
      rw [(p_0 (B := B) (w := w) (m := psO B w) (w + 1) (Nat.le_refl _)).1, (p_0 (B := B) (w := w) (m := psO B w) (w + 1) (Nat.le_refl _)).2, Nat.add_zero] at this
      exact this
theorem m_pairs {s : SG} {x : Int32} {M : MM} {Q : Int32 → MM → Prop} (hD : DC (sB s)) (hR : RepM s M) (q : ∀ M', RepM (pairsS s x).2 M' → Lo M M' → Q (pairsS s x).1 M') : D5_pairs x M Q := by
  unfold D5_pairs
  have hR1 := hR.thrown (x := 0)
  have hL : Lo M (up M 62 9 0) := fun p hp => up_p (by omega)
  generalize up M 62 9 0 = M1 at hR1 hL
  have hw := WFm hR1.2.1
  unfold pairsS at q
  refine p5_inL (a := 0) (n := 2) (by decide) (by decide) ?_
  rw [b2l_n0, b2l_0]
  refine ⟨fun h => ?_, fun h => ?_⟩
  · rw [if_pos h] at q
    exact m_pr_out hw hD hR1.1 (q M1 hR1 hL) FU 0 (Nat.zero_le _) (Nat.lt_of_le_of_lt (Nat.le_trans (Nat.sub_le _ _) hw.1) (by decide))
  · rw [if_neg (by rw [h]; decide)] at q
    exact m_out (k := 2) hR1 (by decide) (fun M' a b => q M' a (hL.tr b))
