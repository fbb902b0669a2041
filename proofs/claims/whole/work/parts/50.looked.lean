/-! PURE PART: assessed, weakest -/
theorem gn_n0 {c : Bool} : (nI (!c).toNat ≠ (0 : Int32)) = (c = false) := by cases c <;> decide
theorem gn_e0 {c : Bool} : (nI (!c).toNat = (0 : Int32)) = (c = true) := by cases c <;> decide
theorem gn_n1 {c : Bool} : (nI (!c).toNat ≠ (1 : Int32)) = (c = true) := by cases c <;> decide
theorem gn_e1 {c : Bool} : (nI (!c).toNat = (1 : Int32)) = (c = false) := by cases c <;> decide
theorem mk_fz {s : Nat → Bool} {n : Nat} (h : ∀ w, n ≤ w → s w = false) : ∀ m, n ≤ m → mk s m = mk s n := by
  intro m
  induction m with
  | zero => intro hm; rw [show n = 0 by omega]
  | succ m ih =>
    intro hm
    rcases Nat.eq_or_lt_of_le hm with z | z
    · rw [z]
    · show mk s m + (if s m = true then 2 ^ m else 0) = _
      rw [h m (by omega), ih (by omega)]; rfl
theorem st_no {B : BV} {n H w : Nat} (hw : WF n H B) (h : bN B ≤ w) : bS B w = false := by
  cases e : bS B w
  · rfl
  · have := hw.2.2.1 w e; omega
theorem ib5 {B : BV} {H p j : Nat} (hw : WF 10 H B) (hj : j < bN B) (h1 : 63 ≤ p) (h2 : p ≤ 67) : ib p (nI j) := by
  have hj10 := Nat.lt_of_lt_of_le hj hw.1
  rcases (show p = 63 ∨ p = 64 ∨ p = 65 ∨ p = 66 ∨ p = 67 by omega) with rfl | rfl | rfl | rfl | rfl <;> exact ibc ⟨by decide, rfl⟩ rfl hj10 (by decide)
/-- all rates -/
def rtN (B : BV) : Nat → Nat
  | 0 => 0
  | w + 1 => if bS B w = true then rtN B w + rate (bK B w) (bF B w) else rtN B w
theorem rtN_s (B : BV) (w : Nat) : rtN B (w + 1) = if bS B w = true then rtN B w + rate (bK B w) (bF B w) else rtN B w := rfl
theorem rtN_end {B : BV} {n H : Nat} (hw : WF n H B) : ∀ w, bN B ≤ w → rtN B w = rtN B (bN B) := by
  intro w
  induction w with
  | zero => intro h; rw [show bN B = 0 by omega]
  | succ w ih =>
    intro h
    rcases Nat.eq_or_lt_of_le h with z | z
    · rw [z]
    · rw [rtN_s, st_no hw (by omega), ih (by omega)]; rfl
theorem rtN_le {B : BV} {n H : Nat} (hw : WF n H B) : ∀ w, rtN B w ≤ 100 * w
  | 0 => Nat.le_refl 0
  | w + 1 => by
    have ih := rtN_le hw w
    rw [rtN_s]
    split
    · rename_i h
      obtain ⟨g1, g2, g3, g4⟩ := hw.2.1 w (hw.2.2.1 w h)
      have := rate_lt _ g1 _ g2
      omega
    · omega
theorem c_rates_loop {b H : Nat} {B : BV} {M : MM} {Q : Int32 → MM → Prop} (hb : isB b) (hw : WF 10 H B) (hR : RB b B M) (q : Q (nI (rtN B 10)) M) : ∀ (n w : Nat), w ≤ 10 → 10 - w < n → D0_rates_c4 b Q n (nI (rtN B w)) (nI w) M := by
  intro n
  induction n with
  | zero => intro w h1 h2; omega
  | succ n ih =>
    intro w h1 h2
    unfold D0_rates_c4
    rw [show (10 : Int32) = nI 10 from rfl, z_le (by decide) (by omega)]
    refine ⟨fun z => ?_, fun z => ?_⟩
    · rw [show w = 10 by omega]; exact q
    · have nx : ∀ v, v = rtN B (w + 1) → D0_rates_c26 b (D0_rates_c4 b Q n) Q (nI v) (nI w) M := by
        intro v hv
        show D0_rates_c4 b Q n (nI v) (nI w + 1) M
        rw [nI_1, hv]
        exact ih (w + 1) (by omega) (by omega)
      refine p0_stands hR.2.1 (by omega) ?_
      rw [b2l_0]
      refine ⟨fun e => nx _ (by rw [rtN_s, e]; rfl), fun e => ?_⟩
      have e := b_nf e
      refine p0_rateOf hb hw hR (hw.2.2.1 w e) ?_
      dsimp only
      rw [nI_add]
      exact nx _ (by rw [rtN_s, if_pos e])
theorem c_rates {b H : Nat} {B : BV} {M : MM} {Q : Int32 → MM → Prop} (hb : isB b) (hw : WF 10 H B) (hR : RB b B M) (q : Q (nI (rtN B 10)) M) : D0_rates b M Q := c_rates_loop hb hw hR q FU 0 (by decide) (by decide)
theorem m_rates_loop {H : Nat} {B : BV} {M : MM} {Q : Int32 → MM → Prop} (hw : WF 10 H B) (hR : RM B M) (q : Q (nI (rtN B 10)) M) : ∀ (n w : Nat), w ≤ bN B → bN B - w < n → D5_ratesIn_c4 Q n (nI (mk (bS B) 10)) (nI (rtN B w)) (nI w) M := by
  have hn := hw.1
  intro n
  induction n with
  | zero => intro w h1 h2; omega
  | succ n ih =>
    intro w h1 h2
    unfold D5_ratesIn_c4
    rw [hR.1, z_le (by omega) (by omega)]
    refine ⟨fun z => ?_, fun z => ?_⟩
    · rw [rtN_end hw 10 hn] at q
      rw [show w = bN B by omega]; exact q
    · have hwn : w < bN B := by omega
      have nx : ∀ v, rtN B w + v = rtN B (w + 1) → D5_ratesIn_c30 (D5_ratesIn_c4 Q n) Q (nI (mk (bS B) 10)) (nI w) (nI v) (nI (rtN B w)) M := by
        intro v hv
        show D5_ratesIn_c4 Q n (nI (mk (bS B) 10)) (nI (rtN B w) + nI v) (nI w + 1) M
        rw [nI_add, nI_1, hv]
        exact ih (w + 1) (by omega) (by omega)
      refine p5_hasBit (mk10 _) (by omega) ?_
      rw [b2l_0, mk_bit, decide_eq_true (show w < 10 by omega), Bool.true_and]
      refine ⟨fun e => nx 0 (by rw [rtN_s, e]; rfl), fun e => ?_⟩
      have e := b_nf e
      obtain ⟨g1, g2, g3, g4⟩ := hw.2.1 w hwn
      obtain ⟨m1, m2, m3, m4, m5⟩ := hR.2.2.2.2 w hwn
      exact p5_rateOf (by omega) g1 g2 m1 m2 (nx _ (by rw [rtN_s, if_pos e]))
theorem m_rates {H : Nat} {B : BV} {M : MM} {Q : Int32 → MM → Prop} (hw : WF 10 H B) (hR : RM B M) (q : Q (nI (rtN B 10)) M) : D5_ratesIn (nI (mk (bS B) 10)) M Q := m_rates_loop hw hR q FU 0 (Nat.zero_le _) (Nat.lt_of_le_of_lt (Nat.le_trans (Nat.sub_le _ _) hw.1) (by decide))
/-- the best standing work: le j w: j stays -/
def bsO (B : BV) (le : Nat → Nat → Bool) : Nat → Option Nat
  | 0 => none
  | w + 1 => if bS B w = true then (match bsO B le w with | none => some w | some j => if le j w = true then some j else some w) else bsO B le w
def oI : Option Nat → Int32
  | none => -9
  | some j => nI j
theorem bsO_s (B : BV) (le : Nat → Nat → Bool) (w : Nat) : bsO B le (w + 1) = if bS B w = true then (match bsO B le w with | none => some w | some j => if le j w = true then some j else some w) else bsO B le w := rfl
theorem bsO_g {B : BV} {le : Nat → Nat → Bool} {w : Nat} (h : bS B w = false) : bsO B le (w + 1) = bsO B le w := by rw [bsO_s, h]; rfl
theorem bsO_n {B : BV} {le : Nat → Nat → Bool} {w : Nat} (h : bS B w = true) (e : bsO B le w = none) : bsO B le (w + 1) = some w := by rw [bsO_s, if_pos h, e]
theorem bsO_k {B : BV} {le : Nat → Nat → Bool} {w j : Nat} (h : bS B w = true) (e : bsO B le w = some j) (hl : le j w = true) : bsO B le (w + 1) = some j := by rw [bsO_s, if_pos h, e]; exact if_pos hl
theorem bsO_c {B : BV} {le : Nat → Nat → Bool} {w j : Nat} (h : bS B w = true) (e : bsO B le w = some j) (hl : ¬ le j w = true) : bsO B le (w + 1) = some w := by rw [bsO_s, if_pos h, e]; exact if_neg hl
theorem bsO_lt {B : BV} {le : Nat → Nat → Bool} : ∀ w j, bsO B le w = some j → j < w ∧ bS B j = true
  | 0, j, h => by cases h
  | w + 1, j, h => by
    by_cases hs : bS B w = true
    · cases e : bsO B le w with
      | none =>
        rw [bsO_n hs e] at h
        have hij : w = j := Option.some.inj h
        rw [← hij]
        exact ⟨Nat.lt_succ_self _, hs⟩
      | some i =>
        by_cases hl : le i w = true
        · rw [bsO_k hs e hl] at h
          have hij : i = j := Option.some.inj h
          have := bsO_lt w i e
          rw [← hij]
          exact ⟨by omega, this.2⟩
        · rw [bsO_c hs e hl] at h
          have hij : w = j := Option.some.inj h
          rw [← hij]
          exact ⟨Nat.lt_succ_self _, hs⟩
    · rw [bsO_g (by simpa using hs)] at h
      have := bsO_lt w j h
      exact ⟨by omega, this.2⟩
theorem bsO_end {B : BV} {le : Nat → Nat → Bool} {n H : Nat} (hw : WF n H B) : ∀ w, bN B ≤ w → bsO B le w = bsO B le (bN B) := by
  intro w
  induction w with
  | zero => intro h; rw [show bN B = 0 by omega]
  | succ w ih =>
    intro h
    rcases Nat.eq_or_lt_of_le h with z | z
    · rw [z]
    · rw [bsO_g (st_no hw (by omega)), ih (by omega)]
def leR (B : BV) (j w : Nat) : Bool := decide (rate (bK B w) (bF B w) ≤ rate (bK B j) (bF B j))
def leC (B : BV) (j w : Nat) : Bool := decide (bC B j / 5 ≤ bC B w / 5)
def byd (B : BV) (w : Nat) : Int32 := nI (hold (bK B w) (bF B w)) - nI (bW B w)
def leB (B : BV) (j w : Nat) : Bool := decide (byd B j ≤ byd B w)
theorem c_dear_loop {b H : Nat} {B : BV} {M : MM} {Q : Int32 → MM → Prop} (hb : isB b) (hw : WF 10 H B) (hR : RB b B M) (q : Q (oI (bsO B (leR B) 10)) M) : ∀ (n w : Nat), w ≤ 10 → 10 - w < n → D0_dearest_c5 b Q n (oI (bsO B (leR B) w)) (nI w) M := by
  intro n
  induction n with
  | zero => intro w h1 h2; omega
  | succ n ih =>
    intro w h1 h2
    unfold D0_dearest_c5
    rw [show (10 : Int32) = nI 10 from rfl, z_le (by decide) (by omega)]
    refine ⟨fun z => ?_, fun z => ?_⟩
    · rw [show w = 10 by omega]; exact q
    · have nx : ∀ v, oI (bsO B (leR B) (w + 1)) = v → D0_dearest_c38 b (D0_dearest_c5 b Q n) Q v (nI w) M := by
        intro v hv
        show D0_dearest_c5 b Q n v (nI w + 1) M
        rw [nI_1, ← hv]
        exact ih (w + 1) (by omega) (by omega)
      refine p0_stands hR.2.1 (by omega) ?_
      rw [b2l_0]
      refine ⟨fun e => nx _ (by rw [bsO_g e]), fun e => ?_⟩
      have e := b_nf e
      cases eb : bsO B (leR B) w with
      | none => exact ⟨fun _ => nx _ (by rw [bsO_n e eb]; rfl), fun z => absurd (by decide) z⟩
      | some j =>
        have hj := bsO_lt w j eb
        have hjn := hw.2.2.1 j hj.2
        have hwn := hw.2.2.1 w e
        obtain ⟨g1, g2, g3, g4⟩ := hw.2.1 w hwn
        obtain ⟨k1, k2, k3, k4⟩ := hw.2.1 j hjn
        have r1 := rate_lt _ g1 _ g2
        have r2 := rate_lt _ k1 _ k2
        refine ⟨fun z => absurd z (nI_pos (by omega)), fun _ => ?_⟩
        refine p0_rateOf hb hw hR hwn (p0_rateOf hb hw hR hjn ?_)
        rw [z_le (by omega) (by omega)]
        refine ⟨fun c => nx _ (by rw [bsO_k e eb (decide_eq_true c)]), fun c => nx _ (by rw [bsO_c e eb (by unfold leR; rw [decide_eq_false c]; decide)]; rfl)⟩
theorem c_high_loop {b H : Nat} {B : BV} {M : MM} {Q : Int32 → MM → Prop} (hb : isB b) (hw : WF 10 H B) (hR : RB b B M) (q : Q (oI (bsO B (leC B) 10)) M) : ∀ (n w : Nat), w ≤ 10 → 10 - w < n → D0_highestWork_c5 b Q n (oI (bsO B (leC B) w)) (nI w) M := by
  have hn := hw.1
  intro n
  induction n with
  | zero => intro w h1 h2; omega
  | succ n ih =>
    intro w h1 h2
    unfold D0_highestWork_c5
    rw [show (10 : Int32) = nI 10 from rfl, z_le (by decide) (by omega)]
    refine ⟨fun z => ?_, fun z => ?_⟩
    · rw [show w = 10 by omega]; exact q
    · have nx : ∀ v, oI (bsO B (leC B) (w + 1)) = v → D0_highestWork_c42 b (D0_highestWork_c5 b Q n) Q v (nI w) M := by
        intro v hv
        show D0_highestWork_c5 b Q n v (nI w + 1) M
        rw [nI_1, ← hv]
        exact ih (w + 1) (by omega) (by omega)
      refine p0_stands hR.2.1 (by omega) ?_
      rw [b2l_0]
      refine ⟨fun e => nx _ (by rw [bsO_g e]), fun e => ?_⟩
      have e := b_nf e
      cases eb : bsO B (leC B) w with
      | none => exact ⟨fun _ => nx _ (by rw [bsO_n e eb]; rfl), fun z => absurd (by decide) z⟩
      | some j =>
        have hj := bsO_lt w j eb
        have hjn := hw.2.2.1 j hj.2
        have hwn := hw.2.2.1 w e
        obtain ⟨g1, g2, g3, g4⟩ := hw.2.1 w hwn
        obtain ⟨k1, k2, k3, k4⟩ := hw.2.1 j hjn
        obtain ⟨m1, m2, m3, m4⟩ := hR.2.2.2.2.2 w hwn
        obtain ⟨n1, n2, n3, n4⟩ := hR.2.2.2.2.2 j hjn
        refine ⟨fun z => absurd z (nI_pos (by omega)), fun _ => ?_⟩
        refine p0_cellOf hb hR.1 hn hwn (p0_cellOf hb hR.1 hn hjn ?_)
        rw [m3, n3, show (5 : Int32) = nI 5 from rfl, pk_div (by omega) (by decide) (by decide), pk_div (by omega) (by decide) (by decide), z_le (by omega) (by omega)]
        refine ⟨fun c => nx _ (by rw [bsO_k e eb (decide_eq_true c)]), fun c => nx _ (by rw [bsO_c e eb (by unfold leC; rw [decide_eq_false c]; decide)]; rfl)⟩
theorem p0_beyond {b w H : Nat} {B : BV} {M : MM} {Q : Int32 → MM → Prop} (hb : isB b) (hw : WF 10 H B) (hR : RB b B M) (hj : w < bN B) (q : Q (byd B w) M) : D0_beyond b (nI w) M Q := by
  unfold D0_beyond
  refine p0_holdsOf hb hw hR hj (p0_wornOf hb hR.1 hw.1 hj ?_)
  rw [(hR.2.2.2.2.2 w hj).2.2.2]
  exact q
theorem c_weak_loop {b H : Nat} {B : BV} {M : MM} {Q : Int32 → MM → Prop} (hb : isB b) (hw : WF 10 H B) (hR : RB b B M) (q : Q (oI (bsO B (leB B) 10)) M) : ∀ (n w : Nat), w ≤ 10 → 10 - w < n → D0_leastBeyond_c5 b Q n (oI (bsO B (leB B) w)) (nI w) M := by
  have hn := hw.1
  intro n
  induction n with
  | zero => intro w h1 h2; omega
  | succ n ih =>
    intro w h1 h2
    unfold D0_leastBeyond_c5
    rw [show (10 : Int32) = nI 10 from rfl, z_le (by decide) (by omega)]
    refine ⟨fun z => ?_, fun z => ?_⟩
    · rw [show w = 10 by omega]; exact q
    · have nx : ∀ v, oI (bsO B (leB B) (w + 1)) = v → D0_leastBeyond_c38 b (D0_leastBeyond_c5 b Q n) Q v (nI w) M := by
        intro v hv
        show D0_leastBeyond_c5 b Q n v (nI w + 1) M
        rw [nI_1, ← hv]
        exact ih (w + 1) (by omega) (by omega)
      refine p0_stands hR.2.1 (by omega) ?_
      rw [b2l_0]
      refine ⟨fun e => nx _ (by rw [bsO_g e]), fun e => ?_⟩
      have e := b_nf e
      cases eb : bsO B (leB B) w with
      | none => exact ⟨fun _ => nx _ (by rw [bsO_n e eb]; rfl), fun z => absurd (by decide) z⟩
      | some j =>
        have hj := bsO_lt w j eb
        have hjn := hw.2.2.1 j hj.2
        have hwn := hw.2.2.1 w e
        refine ⟨fun z => absurd z (nI_pos (by omega)), fun _ => ?_⟩
        refine p0_beyond hb hw hR hwn (p0_beyond hb hw hR hjn ?_)
        refine ⟨fun c => nx _ (by rw [bsO_k e eb (decide_eq_true c)]), fun c => nx _ (by rw [bsO_c e eb (by unfold leB; rw [decide_eq_false c]; decide)]; rfl)⟩
theorem m_dear_loop {H : Nat} {B : BV} {M : MM} {Q : Int32 → MM → Prop} (hw : WF 10 H B) (hR : RM B M) (q : Q (oI (bsO B (leR B) 10)) M) : ∀ (n w : Nat), w ≤ bN B → bN B - w < n → D5_dearestOne_c5 Q n (oI (bsO B (leR B) w)) (nI w) M := by
  have hn := hw.1
  intro n
  induction n with
  | zero => intro w h1 h2; omega
  | succ n ih =>
    intro w h1 h2
    unfold D5_dearestOne_c5
    rw [hR.1, z_le (by omega) (by omega)]
    refine ⟨fun z => ?_, fun z => ?_⟩
    · rw [bsO_end hw 10 hn] at q
      rw [show w = bN B by omega]; exact q
    · have hwn : w < bN B := by omega
      obtain ⟨g1, g2, g3, g4⟩ := hw.2.1 w hwn
      obtain ⟨m1, m2, m3, m4, m5⟩ := hR.2.2.2.2 w hwn
      have nx : ∀ v, oI (bsO B (leR B) (w + 1)) = v → D5_dearestOne_c44 (D5_dearestOne_c5 Q n) Q (nI w) v M := by
        intro v hv
        show D5_dearestOne_c5 Q n v (nI w + 1) M
        rw [nI_1, ← hv]
        exact ih (w + 1) (by omega) (by omega)
      refine ⟨ib5 hw hwn (by decide) (by decide), ?_⟩
      rw [z_ix (show w < 2 ^ 31 by omega), m5, gn_n0, gn_e0]
      refine ⟨fun e => nx _ (by rw [bsO_g e]), fun e => ?_⟩
      cases eb : bsO B (leR B) w with
      | none => exact ⟨fun _ => nx _ (by rw [bsO_n e eb]; rfl), fun z => absurd (by decide) z⟩
      | some j =>
        have hj := bsO_lt w j eb
        have hjn := hw.2.2.1 j hj.2
        obtain ⟨k1, k2, k3, k4⟩ := hw.2.1 j hjn
        obtain ⟨n1, n2, n3, n4, n5⟩ := hR.2.2.2.2 j hjn
        have r1 := rate_lt _ g1 _ g2
        have r2 := rate_lt _ k1 _ k2
        refine ⟨fun z => absurd z (nI_pos (by omega)), fun _ => ?_⟩
        refine p5_rateOf (by omega) g1 g2 m1 m2 (p5_rateOf (by omega) k1 k2 n1 n2 ?_)
        rw [z_le (by omega) (by omega)]
        refine ⟨fun c => nx _ (by rw [bsO_k e eb (decide_eq_true c)]), fun c => nx _ (by rw [bsO_c e eb (by unfold leR; rw [decide_eq_false c]; decide)]; rfl)⟩
theorem m_high_loop {H : Nat} {B : BV} {M : MM} {Q : Int32 → MM → Prop} (hw : WF 10 H B) (hR : RM B M) (q : Q (oI (bsO B (leC B) 10)) M) : ∀ (n w : Nat), w ≤ bN B → bN B - w < n → D5_highestOne_c5 Q n (oI (bsO B (leC B) w)) (nI w) M := by
  have hn := hw.1
  intro n
  induction n with
  | zero => intro w h1 h2; omega
  | succ n ih =>
    intro w h1 h2
    unfold D5_highestOne_c5
    rw [hR.1, z_le (by omega) (by omega)]
    refine ⟨fun z => ?_, fun z => ?_⟩
    · rw [bsO_end hw 10 hn] at q
      rw [show w = bN B by omega]; exact q
    · have hwn : w < bN B := by omega
      obtain ⟨g1, g2, g3, g4⟩ := hw.2.1 w hwn
      obtain ⟨m1, m2, m3, m4, m5⟩ := hR.2.2.2.2 w hwn
      have nx : ∀ v, oI (bsO B (leC B) (w + 1)) = v → D5_highestOne_c50 (D5_highestOne_c5 Q n) Q (nI w) v M := by
        intro v hv
        show D5_highestOne_c5 Q n v (nI w + 1) M
        rw [nI_1, ← hv]
        exact ih (w + 1) (by omega) (by omega)
      refine ⟨ib5 hw hwn (by decide) (by decide), ?_⟩
      rw [z_ix (show w < 2 ^ 31 by omega), m5, gn_n0, gn_e0]
      refine ⟨fun e => nx _ (by rw [bsO_g e]), fun e => ?_⟩
      cases eb : bsO B (leC B) w with
      | none => exact ⟨fun _ => nx _ (by rw [bsO_n e eb]; rfl), fun z => absurd (by decide) z⟩
      | some j =>
        have hj := bsO_lt w j eb
        have hjn := hw.2.2.1 j hj.2
        obtain ⟨k1, k2, k3, k4⟩ := hw.2.1 j hjn
        obtain ⟨n1, n2, n3, n4, n5⟩ := hR.2.2.2.2 j hjn
        refine ⟨fun z => absurd z (nI_pos (by omega)), fun _ => ⟨ib5 hw hwn (by decide) (by decide), ib5 hw hjn (by decide) (by decide), ?_⟩⟩
        show (M 65 (ix (nI j)) / 5 ≤ M 65 w / 5 → _) ∧ (¬ M 65 (ix (nI j)) / 5 ≤ M 65 w / 5 → _)
        rw [z_ix (show j < 2 ^ 31 by omega), m3, n3, show (5 : Int32) = nI 5 from rfl, pk_div (by omega) (by decide) (by decide), pk_div (by omega) (by decide) (by decide), z_le (by omega) (by omega)]
        refine ⟨fun c => nx _ (by rw [bsO_k e eb (decide_eq_true c)]), fun c => nx _ (by rw [bsO_c e eb (by unfold leC; rw [decide_eq_false c]; decide)]; rfl)⟩
theorem m_weak_loop {H : Nat} {B : BV} {M : MM} {Q : Int32 → MM → Prop} (hw : WF 10 H B) (hR : RM B M) (q : Q (oI (bsO B (leB B) 10)) M) : ∀ (n w : Nat) (x2 : Int32), w ≤ bN B → bN B - w < n → (∀ j, bsO B (leB B) w = some j → x2 = byd B j) → D5_weakestOne_c7 Q n (oI (bsO B (leB B) w)) x2 (nI w) M := by
  have hn := hw.1
  intro n
  induction n with
  | zero => intro w x2 h1 h2; omega
  | succ n ih =>
    intro w x2 h1 h2 hx
    unfold D5_weakestOne_c7
    rw [hR.1, z_le (by omega) (by omega)]
    refine ⟨fun z => ?_, fun z => ?_⟩
    · rw [bsO_end hw 10 hn] at q
      rw [show w = bN B by omega]; exact q
    · have hwn : w < bN B := by omega
      obtain ⟨g1, g2, g3, g4⟩ := hw.2.1 w hwn
      obtain ⟨m1, m2, m3, m4, m5⟩ := hR.2.2.2.2 w hwn
      have keep : ∀ v, (bsO B (leB B) (w + 1) = bsO B (leB B) w) → D5_weakestOne_c52 (D5_weakestOne_c7 Q n) Q (oI (bsO B (leB B) w)) x2 (nI w) v M := by
        intro v hv
        refine ⟨fun _ => ⟨fun _ => ?_, fun z => absurd rfl z⟩, fun z => absurd rfl z⟩
        show D5_weakestOne_c7 Q n (oI (bsO B (leB B) w)) x2 (nI w + 1) M
        rw [nI_1, ← hv]
        exact ih (w + 1) x2 (by omega) (by omega) (fun j hj => hx j (by rw [← hv]; exact hj))
      have take : bsO B (leB B) (w + 1) = some w → D5_weakestOne_c48 (D5_weakestOne_c7 Q n) Q (oI (bsO B (leB B) w)) x2 (nI w) (byd B w) M := by
        intro hv
        refine ⟨fun z => absurd z (by decide), fun _ => ⟨fun z => absurd z (by decide), fun _ => ?_⟩⟩
        show D5_weakestOne_c7 Q n (nI w) (byd B w) (nI w + 1) M
        rw [nI_1, show nI w = oI (bsO B (leB B) (w + 1)) from by rw [hv]; rfl]
        exact ih (w + 1) (byd B w) (by omega) (by omega) (fun j hj => by rw [hv] at hj; cases hj; rfl)
      refine p5_holdsOf (by omega) g1 g2 m1 m2 ⟨ib5 hw hwn (by decide) (by decide), ?_⟩
      dsimp only
      refine ⟨ib5 hw hwn (by decide) (by decide), ?_⟩
      rw [z_ix (show w < 2 ^ 31 by omega), m4, m5, gn_n0, gn_e0]
      refine ⟨fun e => keep _ (bsO_g e), fun e => ?_⟩
      show (oI (bsO B (leB B) w) < 0 → D5_weakestOne_c48 (D5_weakestOne_c7 Q n) Q (oI (bsO B (leB B) w)) x2 (nI w) (byd B w) M) ∧ (¬ oI (bsO B (leB B) w) < 0 → ((x2 ≤ byd B w → _) ∧ (¬ x2 ≤ byd B w → D5_weakestOne_c48 (D5_weakestOne_c7 Q n) Q (oI (bsO B (leB B) w)) x2 (nI w) (byd B w) M)))
      cases eb : bsO B (leB B) w with
      | none =>
        have t := take (bsO_n e eb)
        rw [eb] at t
        exact ⟨fun _ => t, fun z => absurd (by decide) z⟩
      | some j =>
        have hj := bsO_lt w j eb
        have hjn := hw.2.2.1 j hj.2
        rw [hx j eb] at keep take ⊢
        rw [eb] at keep take
        refine ⟨fun z => absurd z (nI_pos (by omega)), fun _ => ⟨fun c => keep _ (bsO_k e eb (decide_eq_true c)), fun c => take (bsO_c e eb (by unfold leB; rw [decide_eq_false c]; decide))⟩⟩
/-- works in no wet cell -/
def bhP (B : BV) (W w : Nat) : Bool := bS B w && !(W.testBit (bC B w))
theorem c_dryW_loop {b H W : Nat} {B : BV} {M : MM} {Q : Int32 → MM → Prop} (hb : isB b) (hw : WF 10 H B) (hR : RB b B M) (hW : W < 2 ^ 25) (q : Q (nI (mk (bhP B W) 10)) M) : ∀ (n w : Nat), w ≤ 10 → 10 - w < n → D0_dryWorks_c4 b Q n (nI W) (nI (mk (bhP B W) w)) (nI w) M := by
  intro n
  induction n with
  | zero => intro w h1 h2; omega
  | succ n ih =>
    intro w h1 h2
    unfold D0_dryWorks_c4
    rw [show (10 : Int32) = nI 10 from rfl, z_le (by decide) (by omega)]
    refine ⟨fun z => ?_, fun z => ?_⟩
    · rw [show w = 10 by omega]; exact q
    · have nx : ∀ v, v = mk (bhP B W) (w + 1) → D0_dryWorks_c37 b (D0_dryWorks_c4 b Q n) Q (nI W) (nI v) (nI w) M := by
        intro v hv
        show D0_dryWorks_c4 b Q n (nI W) (nI v) (nI w + 1) M
        rw [nI_1, hv]
        exact ih (w + 1) (by omega) (by omega)
      refine p0_stands hR.2.1 (by omega) ?_
      rw [b2l_0]
      refine ⟨fun e => nx _ (by rw [mk_or, show bhP B W w = false from by unfold bhP; rw [e]; rfl]; simp), fun e => ⟨isB_ib3 hb (by omega), ?_⟩⟩
      have e := b_nf e
      have hwn := hw.2.2.1 w e
      have g3 := (hw.2.1 w hwn).2.2.1
      rw [z_ix (by omega), (hR.2.2.2.2.2 w hwn).2.2.1]
      refine p3_has (by omega) (by omega) ?_
      rw [b2l_n0, b2l_0]
      refine ⟨fun c => nx _ (by rw [mk_or, show bhP B W w = false from by unfold bhP; rw [e, c]; rfl]; simp), fun c => ?_⟩
      dsimp only
      rw [z_shl w (by omega), z_or]
      exact nx _ (by rw [mk_or, show bhP B W w = true from by unfold bhP; rw [e, c]; rfl]; simp)
theorem m_behind_loop {H W : Nat} {B : BV} {M : MM} {Q : Int32 → MM → Prop} (hw : WF 10 H B) (hR : RM B M) (hW : W < 2 ^ 25) (h12 : M 62 12 = nI W) (q : Q (nI (mk (bhP B W) 10)) M) : ∀ (n w : Nat), w ≤ bN B → bN B - w < n → D5_behindBits_c9 Q n (nI (mk (bhP B W) w)) (nI w) M := by
  have hn := hw.1
  intro n
  induction n with
  | zero => intro w h1 h2; omega
  | succ n ih =>
    intro w h1 h2
    unfold D5_behindBits_c9
    rw [hR.1, z_le (by omega) (by omega)]
    refine ⟨fun z => ?_, fun z => ⟨ib5 hw (show w < bN B by omega) (by decide) (by decide), ?_⟩⟩
    · rw [mk_fz (n := bN B) (fun w hw' => by unfold bhP; rw [st_no hw hw']; rfl) 10 hn] at q
      rw [show w = bN B by omega]; exact q
    · have hwn : w < bN B := by omega
      obtain ⟨m1, m2, m3, m4, m5⟩ := hR.2.2.2.2 w hwn
      have g3 := (hw.2.1 w hwn).2.2.1
      have nx : ∀ v, v = (if bhP B W w = true then 2 ^ w else 0) → D5_behindBits_c47 (D5_behindBits_c9 Q n) Q (nI w) (nI v) (nI (mk (bhP B W) w)) M := by
        intro v hv
        show D5_behindBits_c9 Q n (nI (mk (bhP B W) w) ||| nI v) (nI w + 1) M
        rw [z_or, nI_1, hv, ← mk_or]
        exact ih (w + 1) (by omega) (by omega)
      rw [z_ix (show w < 2 ^ 31 by omega), m5, m3, gn_n0, gn_e0]
      refine ⟨fun e => nx 0 (by rw [show bhP B W w = false from by unfold bhP; rw [e]; rfl]; rfl), fun e => ⟨ib5 hw hwn (by decide) (by decide), ?_⟩⟩
      refine p5_isWet hW g3 h12 ?_
      rw [b2l_n0, b2l_0]
      refine ⟨fun c => nx 0 (by rw [show bhP B W w = false from by unfold bhP; rw [e, c]; rfl]; rfl), fun c => ?_⟩
      rw [z_shl w (by omega)]
      exact nx _ (by rw [show bhP B W w = true from by unfold bhP; rw [e, c]; rfl]; rfl)
def assessedV (B : BV) (x : Int32) : Option Int32 := if x = 0 then some (nI (rtN B 10)) else if x = 1 then some (oI (bsO B (leR B) 10)) else if x = 2 then some (nI (bO B - bP B)) else if x = 3 then some (nI (mk (bhP B (wet B 5)) 10)) else none
def optS (s : SG) (v : Option Int32) : Int32 × SG := match v with | some v => (v, s) | none => outS s 2
def assessedS (s : SG) (x : Int32) : Int32 × SG := optS s (assessedV (sB s) x)
theorem z_subm {a b : Nat} (ha : a ≤ 9999) (hb : b ≤ 9999) : (if (0 : Int32) < nI a - nI b then nI a - nI b else 0) = nI (a - b) := by
  by_cases h : b ≤ a
  · rw [pk_sub h, show (0 : Int32) = nI 0 from rfl, z_iflt (by decide) (by omega)]
    split
    · rfl
    · rw [show a - b = 0 by omega]
  · have hs : (nI a - nI b).toInt = (a : Int) - b := pk_sub_toInt (by omega) (by omega)
    rw [if_neg (by rw [i_lt, hs]; have : (0 : Int32).toInt = 0 := by decide
                   omega), show a - b = 0 by omega]
    rfl
theorem c_assessed {s : SG} {x : Int32} {M : MM} {Q : Int32 → MM → Prop} (hR : RepC s M) (q : ∀ M', RepC (assessedS s x).2 M' → Hi M M' → Q (assessedS s x).1 M') : D4_assessed x M Q := by
  unfold D4_assessed
  have hw := WFm hR.2.1
  have ok : ∀ v, assessedV (sB s) x = some v → Q v M := by
    intro v hv
    unfold assessedS at q
    rw [hv] at q
    exact q M hR Hi.rf
  unfold assessedV at ok
  rw [hR.1.2.2.2.1, hR.1.2.2.2.2.1, z_subm hw.2.2.2.2.2 hw.2.2.2.2.1]
  refine ⟨fun e => ?_, fun e0 => ⟨fun e => ?_, fun e1 => ⟨fun e => ?_, fun e2 => ⟨fun e => ?_, fun e3 => ?_⟩⟩⟩⟩
  · exact c_rates isB1 hw hR.1 (ok _ (if_pos e))
  · exact c_dear_loop isB1 hw hR.1 (ok _ (by rw [if_neg e0, if_pos e])) FU 0 (by decide) (by decide)
  · exact ok _ (by rw [if_neg e0, if_neg e1, if_pos e])
  · show D0_wetAt 1 (nI 5) M _
    refine p0_wetAt isB1 hR.1 hw (by decide) ?_
    exact c_dryW_loop isB1 hw hR.1 (wet_lt _ _) (ok _ (by rw [if_neg e0, if_neg e1, if_neg e2, if_pos e])) FU 0 (by decide) (by decide)
  · rw [show assessedS s x = outS s 2 from by unfold assessedS assessedV; rw [if_neg e0, if_neg e1, if_neg e2, if_neg e3]; rfl] at q
    exact c_out (k := 2) hR (by decide) q
theorem m_assessed {s : SG} {x : Int32} {M : MM} {Q : Int32 → MM → Prop} (hR : RepM s M) (q : ∀ M', RepM (assessedS s x).2 M' → Lo M M' → Q (assessedS s x).1 M') : D5_assessed x M Q := by
  unfold D5_assessed
  have hR1 := hR.thrown (x := 0)
  have hL : Lo M (up M 62 9 0) := fun p hp => up_p (by omega)
  generalize up M 62 9 0 = M1 at hR1 hL
  have hw := WFm hR1.2.1
  have ok : ∀ v, assessedV (sB s) x = some v → ∀ M', RepM s M' → Lo M M' → Q v M' := by
    intro v hv
    unfold assessedS at q
    rw [hv] at q
    exact q
  unfold assessedV at ok
  refine ⟨fun e => ?_, fun e0 => ⟨fun e => ?_, fun e1 => ⟨fun e => ?_, fun e2 => ⟨fun e => ?_, fun e3 => ?_⟩⟩⟩⟩
  · exact p5_standing hw hR1.1 (m_rates hw hR1.1 (ok _ (if_pos e) M1 hR1 hL))
  · exact m_dear_loop hw hR1.1 (ok _ (by rw [if_neg e0, if_pos e]) M1 hR1 hL) FU 0 (Nat.zero_le _) (Nat.lt_of_le_of_lt (Nat.le_trans (Nat.sub_le _ _) hw.1) (by decide))
  · have k := ok _ (by rw [if_neg e0, if_neg e1, if_pos e]) M1 hR1 hL
    have hp := hw.2.2.2.2.1
    have ho := hw.2.2.2.2.2
    rw [hR1.1.2.1, hR1.1.2.2.1]
    by_cases h : bP (sB s) ≤ bO (sB s)
    · rw [pk_sub h]
      refine p5_held (h := 9999) (by omega) (by decide) ?_
      rw [if_pos (by omega)]
      exact k
    · have hs : (nI (bO (sB s)) - nI (bP (sB s))).toInt = (bO (sB s) : Int) - bP (sB s) := pk_sub_toInt (by omega) (by omega)
      refine p5_heldN (h := 9999) (by rw [i_le, hs]; have : (0 : Int32).toInt = 0 := by decide
                                      omega) ?_
      rw [show bO (sB s) - bP (sB s) = 0 by omega] at k
      exact k
  · unfold D5_behindBits
    show D5_layWet (nI 5) M1 _
    refine p5_layWet (by decide) hw hR1.1 (fun M' h12 f => ?_)
    have r' := hR1.1.lay f
    exact m_behind_loop hw r' (wet_lt _ _) h12 (ok _ (by rw [if_neg e0, if_neg e1, if_neg e2, if_pos e]) M' (hR1.mind f.M r') (hL.tr f.M.1)) FU 0 (Nat.zero_le _) (Nat.lt_of_le_of_lt (Nat.le_trans (Nat.sub_le _ _) hw.1) (by decide))
  · rw [show assessedS s x = outS s 2 from by unfold assessedS assessedV; rw [if_neg e0, if_neg e1, if_neg e2, if_neg e3]; rfl] at q
    exact m_out (k := 2) hR1 (by decide) (fun M' a b => q M' a (hL.tr b))
