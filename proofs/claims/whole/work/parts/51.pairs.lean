/-! PURE PART: weakest, pairs, turrets, judge -/
/-- the cells of works that stand -/
def stC (B : BV) : Nat → Nat
  | 0 => 0
  | w + 1 => if bS B w = true then stC B w ||| 2 ^ bC B w else stC B w
theorem stC_s (B : BV) (w : Nat) : stC B (w + 1) = if bS B w = true then stC B w ||| 2 ^ bC B w else stC B w := rfl
theorem stC_bit {B : BV} {c : Nat} : ∀ n, (stC B n).testBit c = true ↔ ∃ o, o < n ∧ bS B o = true ∧ bC B o = c
  | 0 => ⟨fun h => absurd h (by rw [show stC B 0 = 0 from rfl, Nat.zero_testBit]; decide), fun ⟨o, h, _⟩ => by omega⟩
  | n + 1 => by
    have ih := stC_bit (B := B) (c := c) n
    rw [stC_s]
    by_cases hs : bS B n = true
    · rw [if_pos hs, Nat.testBit_or, Nat.testBit_two_pow, Bool.or_eq_true, decide_eq_true_eq, ih]
      constructor
      · rintro (⟨o, h1, h2, h3⟩ | h)
        · exact ⟨o, by omega, h2, h3⟩
        · exact ⟨n, by omega, hs, h⟩
      · rintro ⟨o, h1, h2, h3⟩
        by_cases y : o = n
        · rw [y] at h3; exact Or.inr h3
        · exact Or.inl ⟨o, by omega, h2, h3⟩
    · rw [if_neg hs, ih]
      constructor
      · rintro ⟨o, h1, h2, h3⟩
        exact ⟨o, by omega, h2, h3⟩
      · rintro ⟨o, h1, h2, h3⟩
        refine ⟨o, ?_, h2, h3⟩
        by_cases y : o = n
        · rw [y] at h2; exact absurd h2 hs
        · omega
theorem stC_lt {B : BV} {n H : Nat} (hw : WF n H B) : ∀ w, stC B w < 2 ^ 25
  | 0 => show 0 < 2 ^ 25 by decide
  | w + 1 => by
    rw [stC_s]
    split
    · rename_i h
      exact Nat.or_lt_two_pow (stC_lt hw w) (Nat.pow_lt_pow_right (by decide) (hw.2.1 w (hw.2.2.1 w h)).2.2.1)
    · exact stC_lt hw w
theorem c_cells_loop {b H : Nat} {B : BV} {M : MM} {Q : Int32 → MM → Prop} (hb : isB b) (hw : WF 10 H B) (hR : RB b B M) (q : Q (nI (stC B 10)) M) : ∀ (n w : Nat), w ≤ 10 → 10 - w < n → D0_standingCells_c4 b Q n (nI (stC B w)) (nI w) M := by
  intro n
  induction n with
  | zero => intro w h1 h2; omega
  | succ n ih =>
    intro w h1 h2
    unfold D0_standingCells_c4
    rw [show (10 : Int32) = nI 10 from rfl, z_le (by decide) (by omega)]
    refine ⟨fun z => ?_, fun z => ?_⟩
    · rw [show w = 10 by omega]; exact q
    · have nx : ∀ v, v = stC B (w + 1) → D0_standingCells_c29 b (D0_standingCells_c4 b Q n) Q (nI v) (nI w) M := by
        intro v hv
        show D0_standingCells_c4 b Q n (nI v) (nI w + 1) M
        rw [nI_1, hv]
        exact ih (w + 1) (by omega) (by omega)
      refine p0_stands hR.2.1 (by omega) ?_
      rw [b2l_0]
      refine ⟨fun e => nx _ (by rw [stC_s, e]; rfl), fun e => ⟨isB_ib3 hb (by omega), ?_⟩⟩
      have e := b_nf e
      have hwn := hw.2.2.1 w e
      have g3 := (hw.2.1 w hwn).2.2.1
      dsimp only
      rw [z_ix (show w < 2 ^ 31 by omega), (hR.2.2.2.2.2 w hwn).2.2.1, z_shl _ (by omega), z_or]
      exact nx _ (by rw [stC_s, if_pos e])
theorem p0_cells {b H : Nat} {B : BV} {M : MM} {Q : Int32 → MM → Prop} (hb : isB b) (hw : WF 10 H B) (hR : RB b B M) (q : Q (nI (stC B 10)) M) : D0_standingCells b M Q := c_cells_loop hb hw hR q FU 0 (by decide) (by decide)
/-- stands alone -/
def alP (B : BV) (w : Nat) : Bool := bS B w && !((besM (stC B 10)).testBit (bC B w))
theorem c_alone_loop {b H : Nat} {B : BV} {M : MM} {Q : Int32 → MM → Prop} (hb : isB b) (hw : WF 10 H B) (hR : RB b B M) (q : Q (nI (mk (alP B) 10)) M) : ∀ (n w : Nat), w ≤ 10 → 10 - w < n → D0_aloneWorks_c12 b Q n (nI (mk (alP B) w)) (nI (besM (stC B 10))) (nI w) M := by
  intro n
  induction n with
  | zero => intro w h1 h2; omega
  | succ n ih =>
    intro w h1 h2
    unfold D0_aloneWorks_c12
    rw [show (10 : Int32) = nI 10 from rfl, z_le (by decide) (by omega)]
    refine ⟨fun z => ?_, fun z => ?_⟩
    · rw [show w = 10 by omega]; exact q
    · have nx : ∀ v, v = mk (alP B) (w + 1) → D0_aloneWorks_c45 b (D0_aloneWorks_c12 b Q n) Q (nI v) (nI (besM (stC B 10))) (nI w) M := by
        intro v hv
        show D0_aloneWorks_c12 b Q n (nI v) (nI (besM (stC B 10))) (nI w + 1) M
        rw [nI_1, hv]
        exact ih (w + 1) (by omega) (by omega)
      refine p0_stands hR.2.1 (by omega) ?_
      rw [b2l_0]
      refine ⟨fun e => nx _ (by rw [mk_or, show alP B w = false from by unfold alP; rw [e]; rfl]; simp), fun e => ⟨isB_ib3 hb (by omega), ?_⟩⟩
      have e := b_nf e
      have hwn := hw.2.2.1 w e
      have g3 := (hw.2.1 w hwn).2.2.1
      rw [z_ix (by omega), (hR.2.2.2.2.2 w hwn).2.2.1]
      refine p3_has (Nat.lt_trans (besM_lt _) (by decide)) (by omega) ?_
      rw [b2l_n0, b2l_0]
      refine ⟨fun c => nx _ (by rw [mk_or, show alP B w = false from by unfold alP; rw [e, c]; rfl]; simp), fun c => ?_⟩
      dsimp only
      rw [z_shl w (by omega), z_or]
      exact nx _ (by rw [mk_or, show alP B w = true from by unfold alP; rw [e, c]; rfl]; simp)
def areB (c d : Nat) : Bool := decide (nbw c 0 = some d ∨ nbw c 1 = some d ∨ nbw c 2 = some d ∨ nbw c 3 = some d)
theorem are_all : ∀ a, a < 25 → ∀ b, b < 25 → decide ((((nI a / (5 : Int32)) - (nI b / (5 : Int32))) * ((nI a / (5 : Int32)) - (nI b / (5 : Int32)))) + (((nI a - nI a / (5 : Int32) * (5 : Int32)) - (nI b - nI b / (5 : Int32) * (5 : Int32))) * ((nI a - nI a / (5 : Int32) * (5 : Int32)) - (nI b - nI b / (5 : Int32) * (5 : Int32)))) = (1 : Int32)) = areB a b := by decide +kernel
theorem p5_areBeside {a b : Nat} {M : MM} {Q : Int32 → MM → Prop} (ha : a < 25) (hb : b < 25) (q : Q (b2 (areB a b)) M) : D5_areBeside (nI a) (nI b) M Q := by
  unfold D5_areBeside
  dsimp only
  have e := are_all a ha b hb
  refine ⟨fun h => ?_, fun h => ?_⟩
  · rw [← e, decide_eq_false h] at q; exact q
  · rw [← e, decide_eq_true h] at q; exact q
def alI (B : BV) (w : Nat) : Nat → Bool
  | 0 => bS B w
  | o + 1 => alI B w o && !(bS B o && areB (bC B w) (bC B o))
theorem alI_s (B : BV) (w o : Nat) : alI B w (o + 1) = (alI B w o && !(bS B o && areB (bC B w) (bC B o))) := rfl
theorem alI_iff {B : BV} {w : Nat} : ∀ n, alI B w n = true ↔ (bS B w = true ∧ ∀ o, o < n → bS B o = true → areB (bC B w) (bC B o) = false)
  | 0 => ⟨fun h => ⟨h, fun o h => by omega⟩, fun h => h.1⟩
  | n + 1 => by
    have ih := alI_iff (B := B) (w := w) n
    rw [alI_s, Bool.and_eq_true, ih]
    constructor
    · rintro ⟨⟨a, b⟩, c⟩
      refine ⟨a, fun o h1 h2 => ?_⟩
      by_cases y : o = n
      · rw [y] at h2 ⊢; rw [h2] at c; simpa using c
      · exact b o (by omega) h2
    · rintro ⟨a, b⟩
      refine ⟨⟨a, fun o h1 h2 => b o (by omega) h2⟩, ?_⟩
      cases hs : bS B n
      · rfl
      · rw [b n (by omega) hs]; rfl
theorem areB_nb {c d : Nat} : areB c d = true ↔ ∃ way, way < 4 ∧ nbw c way = some d := by
  unfold areB
  rw [decide_eq_true_eq]
  constructor
  · rintro (h | h | h | h)
    · exact ⟨0, by decide, h⟩
    · exact ⟨1, by decide, h⟩
    · exact ⟨2, by decide, h⟩
    · exact ⟨3, by decide, h⟩
  · rintro ⟨way, hw, h⟩
    rcases (show way = 0 ∨ way = 1 ∨ way = 2 ∨ way = 3 by omega) with rfl | rfl | rfl | rfl
    · exact Or.inl h
    · exact Or.inr (Or.inl h)
    · exact Or.inr (Or.inr (Or.inl h))
    · exact Or.inr (Or.inr (Or.inr h))
theorem alI_al {B : BV} {H w : Nat} (hw : WF 10 H B) (hj : w < bN B) : alI B w (bN B) = alP B w := by
  have g3 := (hw.2.1 w hj).2.2.1
  have hn := hw.1
  have key : alI B w (bN B) = true ↔ alP B w = true := by
    rw [alI_iff]
    unfold alP
    rw [Bool.and_eq_true, besM_bit g3 (stC_lt hw 10)]
    constructor
    · rintro ⟨a, b⟩
      refine ⟨a, ?_⟩
      cases e : nbIn (stC B 10) (bC B w)
      · rfl
      · obtain ⟨way, d, h1, h2, h3⟩ := nbIn_ex e
        obtain ⟨o, o1, o2, o3⟩ := (stC_bit 10).mp h3
        have := b o (hw.2.2.1 o o2) o2
        rw [areB_nb.mpr ⟨way, h1, by rw [o3]; exact h2⟩] at this
        cases this
    · rintro ⟨a, b⟩
      refine ⟨a, fun o h1 h2 => ?_⟩
      cases e : areB (bC B w) (bC B o)
      · rfl
      · obtain ⟨way, h3, h4⟩ := areB_nb.mp e
        have := nbIn_of h3 h4 ((stC_bit 10).mpr ⟨o, by omega, h2, rfl⟩)
        rw [this] at b; cases b
  cases e1 : alI B w (bN B) <;> cases e2 : alP B w
  · rfl
  · rw [e1, e2] at key; exact absurd (key.mpr rfl) (by decide)
  · rw [e1, e2] at key; exact absurd (key.mp rfl) (by decide)
  · rfl
theorem m_alone_in {H w : Nat} {B : BV} {M : MM} {x1 : Int32} {K4 : Int32 → Int32 → MM → Prop} {Q : Int32 → MM → Prop} (hw : WF 10 H B) (hR : RM B M) (hj : w < bN B) (q : D5_aloneBits_c85 K4 Q x1 (nI w) (b2 (alI B w (bN B))) M) : ∀ (n o : Nat), o ≤ bN B → bN B - o < n → D5_aloneBits_c30 K4 Q n x1 (nI w) (b2 (alI B w o)) (nI o) M := by
  have hn := hw.1
  obtain ⟨m1, m2, m3, m4, m5⟩ := hR.2.2.2.2 w hj
  have g3 := (hw.2.1 w hj).2.2.1
  intro n
  induction n with
  | zero => intro o h1 h2; omega
  | succ n ih =>
    intro o h1 h2
    unfold D5_aloneBits_c30
    rw [hR.1, z_le (by omega) (by omega), b2l_0]
    refine ⟨fun z => ?_, fun z => ?_⟩
    · rw [show o = bN B by omega]; exact q
    · have ho : o < bN B := by omega
      obtain ⟨n1, n2, n3, n4, n5⟩ := hR.2.2.2.2 o ho
      have k3 := (hw.2.1 o ho).2.2.1
      have nx : ∀ v : Bool, alI B w (o + 1) = v → D5_aloneBits_c78 (D5_aloneBits_c30 K4 Q n) K4 Q x1 (nI w) (nI o) (b2 v) M := by
        intro v hv
        show D5_aloneBits_c30 K4 Q n x1 (nI w) (b2 v) (nI o + 1) M
        rw [nI_1, ← hv]
        exact ih (o + 1) (by omega) (by omega)
      refine ⟨fun e => nx false (by rw [alI_s, e]; rfl), fun e => ⟨ib5 hw ho (by decide) (by decide), ?_⟩⟩
      have e := b_nf e
      rw [z_ix (show o < 2 ^ 31 by omega), z_ix (show w < 2 ^ 31 by omega), n5, m3, n3, gn_e1]
      refine ⟨fun c => nx true (by rw [alI_s, e, c]; rfl), fun c => ⟨ib5 hw hj (by decide) (by decide), ib5 hw ho (by decide) (by decide), ?_⟩⟩
      have c := b_nf c
      refine p5_areBeside g3 k3 ?_
      rw [b2l_n0, b2l_0]
      refine ⟨fun z => nx false (by rw [alI_s, e, c, z]; rfl), fun z => nx true (by rw [alI_s, e, c, z]; rfl)⟩
theorem m_alone_out {H : Nat} {B : BV} {M : MM} {Q : Int32 → MM → Prop} (hw : WF 10 H B) (hR : RM B M) (q : Q (nI (mk (alP B) 10)) M) : ∀ (n w : Nat), w ≤ bN B → bN B - w < n → D5_aloneBits_c4 Q n (nI (mk (alP B) w)) (nI w) M := by
  have hn := hw.1
  intro n
  induction n with
  | zero => intro w h1 h2; omega
  | succ n ih =>
    intro w h1 h2
    unfold D5_aloneBits_c4
    rw [hR.1, z_le (by omega) (by omega)]
    refine ⟨fun z => ?_, fun z => ⟨ib5 hw (show w < bN B by omega) (by decide) (by decide), ?_⟩⟩
    · rw [mk_fz (n := bN B) (fun w hw' => by unfold alP; rw [st_no hw hw']; rfl) 10 hn] at q
      rw [show w = bN B by omega]; exact q
    · have hwn : w < bN B := by omega
      obtain ⟨m1, m2, m3, m4, m5⟩ := hR.2.2.2.2 w hwn
      have go : ∀ v : Bool, bS B w = v → D5_aloneBits_c26 (D5_aloneBits_c4 Q n) Q (nI (mk (alP B) w)) (nI w) (b2 v) M := by
        intro v hv
        unfold D5_aloneBits_c26
        rw [← hv]
        refine m_alone_in hw hR hwn ?_ FU 0 (Nat.zero_le _) (Nat.lt_of_le_of_lt (Nat.le_trans (Nat.sub_le _ _) hn) (by decide))
        rw [alI_al hw hwn]
        unfold D5_aloneBits_c85
        rw [b2l_0]
        have nx : ∀ v, v = (if alP B w = true then 2 ^ w else 0) → D5_aloneBits_c97 (D5_aloneBits_c4 Q n) Q (nI w) (nI v) (nI (mk (alP B) w)) M := by
          intro v hv
          show D5_aloneBits_c4 Q n (nI (mk (alP B) w) ||| nI v) (nI w + 1) M
          rw [z_or, nI_1, hv, ← mk_or]
          exact ih (w + 1) (by omega) (by omega)
        refine ⟨fun e => nx 0 (by rw [e]; rfl), fun e => ?_⟩
        rw [z_shl w (by omega)]
        exact nx _ (by rw [if_pos (b_nf e)])
      rw [z_ix (show w < 2 ^ 31 by omega), m5, gn_n0, gn_e0]
      exact ⟨fun e => go false e, fun e => go true e⟩
def weakestV (B : BV) (x : Int32) : Option Int32 := if x = 0 then some (oI (bsO B (leB B) 10)) else if x = 1 then some (nI (mk (alP B) 10)) else if x = 2 then some (oI (bsO B (leC B) 10)) else if x = 3 then some (nI (bN B) - nI (pcf 25 (mk (bS B) 10))) else none
def weakestS (s : SG) (x : Int32) : Int32 × SG := optS s (weakestV (sB s) x)
theorem c_weakest {s : SG} {x : Int32} {M : MM} {Q : Int32 → MM → Prop} (hR : RepC s M) (q : ∀ M', RepC (weakestS s x).2 M' → Hi M M' → Q (weakestS s x).1 M') : D4_weakest x M Q := by
  unfold D4_weakest
  have hw := WFm hR.2.1
  have ok : ∀ v, weakestV (sB s) x = some v → Q v M := by
    intro v hv
    unfold weakestS at q
    rw [hv] at q
    exact q M hR Hi.rf
  unfold weakestV at ok
  rw [hR.1.1]
  refine ⟨fun e => ?_, fun e0 => ⟨fun e => ?_, fun e1 => ⟨fun e => ?_, fun e2 => ⟨fun e => ?_, fun e3 => ?_⟩⟩⟩⟩
  · exact c_weak_loop isB1 hw hR.1 (ok _ (if_pos e)) FU 0 (by decide) (by decide)
  · unfold D0_aloneWorks
    refine p0_cells isB1 hw hR.1 (p3_beside (stC_lt hw 10) ?_)
    exact c_alone_loop isB1 hw hR.1 (ok _ (by rw [if_neg e0, if_pos e])) FU 0 (by decide) (by decide)
  · exact c_high_loop isB1 hw hR.1 (ok _ (by rw [if_neg e0, if_neg e1, if_pos e])) FU 0 (by decide) (by decide)
  · exact p0_standingWorks hR.1 (ok _ (by rw [if_neg e0, if_neg e1, if_neg e2, if_pos e]))
  · rw [show weakestS s x = outS s 2 from by unfold weakestS weakestV; rw [if_neg e0, if_neg e1, if_neg e2, if_neg e3]; rfl] at q
    exact c_out (k := 2) hR (by decide) q
theorem m_weakest {s : SG} {x : Int32} {M : MM} {Q : Int32 → MM → Prop} (hR : RepM s M) (q : ∀ M', RepM (weakestS s x).2 M' → Lo M M' → Q (weakestS s x).1 M') : D5_weakest x M Q := by
  unfold D5_weakest
  have hR1 := hR.thrown (x := 0)
  have hL : Lo M (up M 62 9 0) := fun p hp => up_p (by omega)
  generalize up M 62 9 0 = M1 at hR1 hL
  have hw := WFm hR1.2.1
  have hlt : bN (sB s) - 0 < FU := Nat.lt_of_le_of_lt (Nat.le_trans (Nat.sub_le _ _) hw.1) (by decide)
  have ok : ∀ v, weakestV (sB s) x = some v → Q v M1 := by
    intro v hv
    unfold weakestS at q
    rw [hv] at q
    exact q M1 hR1 hL
  unfold weakestV at ok
  dsimp only
  rw [hR1.1.1]
  refine ⟨fun e => ?_, fun e0 => ⟨fun e => ?_, fun e1 => ⟨fun e => ?_, fun e2 => ⟨fun e => ?_, fun e3 => ?_⟩⟩⟩⟩
  · exact m_weak_loop hw hR1.1 (ok _ (if_pos e)) FU 0 0 (Nat.zero_le _) hlt (fun j hj => by cases hj)
  · exact m_alone_out hw hR1.1 (ok _ (by rw [if_neg e0, if_pos e])) FU 0 (Nat.zero_le _) hlt
  · exact m_high_loop hw hR1.1 (ok _ (by rw [if_neg e0, if_neg e1, if_pos e])) FU 0 (Nat.zero_le _) hlt
  · exact p5_standing hw hR1.1 (p5_onesOf (Nat.lt_trans (mk_lt _ 10) (by decide)) (ok _ (by rw [if_neg e0, if_neg e1, if_neg e2, if_pos e])))
  · rw [show weakestS s x = outS s 2 from by unfold weakestS weakestV; rw [if_neg e0, if_neg e1, if_neg e2, if_neg e3]; rfl] at q
    exact m_out (k := 2) hR1 (by decide) (fun M' a b => q M' a (hL.tr b))
/-- TURRETS -/
def tuN (B : BV) (k : Nat) : Nat → Nat
  | 0 => 0
  | w + 1 => if bS B w = true ∧ bK B w = k then tuN B k w + 1 else tuN B k w
theorem tuN_s (B : BV) (k w : Nat) : tuN B k (w + 1) = if bS B w = true ∧ bK B w = k then tuN B k w + 1 else tuN B k w := rfl
theorem tuN_end {B : BV} {k n H : Nat} (hw : WF n H B) : ∀ w, bN B ≤ w → tuN B k w = tuN B k (bN B) := by
  intro w
  induction w with
  | zero => intro h; rw [show bN B = 0 by omega]
  | succ w ih =>
    intro h
    rcases Nat.eq_or_lt_of_le h with z | z
    · rw [z]
    · rw [tuN_s, if_neg (fun h => by rw [st_no hw (by omega)] at h; cases h.1), ih (by omega)]
def turretsS (s : SG) (x : Int32) : Int32 × SG := if inN x 6 = true then (nI (tuN (sB s) x.toInt.toNat 10), s) else outS s 2
theorem c_tur_loop {b k H : Nat} {B : BV} {M : MM} {Q : Int32 → MM → Prop} (hb : isB b) (hk : k < 6) (hw : WF 10 H B) (hR : RB b B M) (q : Q (nI (tuN B k 10)) M) : ∀ (n w : Nat), w ≤ 10 → 10 - w < n → D0_standingOf_c4 b Q n (nI k) (nI (tuN B k w)) (nI w) M := by
  intro n
  induction n with
  | zero => intro w h1 h2; omega
  | succ n ih =>
    intro w h1 h2
    unfold D0_standingOf_c4
    rw [show (10 : Int32) = nI 10 from rfl, z_le (by decide) (by omega)]
    refine ⟨fun z => ?_, fun z => ?_⟩
    · rw [show w = 10 by omega]; exact q
    · have nx : ∀ v, v = tuN B k (w + 1) → D0_standingOf_c31 b (D0_standingOf_c4 b Q n) Q (nI k) (nI v) (nI w) M := by
        intro v hv
        show D0_standingOf_c4 b Q n (nI k) (nI v) (nI w + 1) M
        rw [nI_1, hv]
        exact ih (w + 1) (by omega) (by omega)
      refine p0_stands hR.2.1 (by omega) ?_
      rw [b2l_0]
      refine ⟨fun e => nx _ (by rw [tuN_s, if_neg (fun h => by rw [e] at h; cases h.1)]), fun e => ⟨isB_ib1 hb (by omega), ?_⟩⟩
      have e := b_nf e
      have hwn := hw.2.2.1 w e
      have g1 := (hw.2.1 w hwn).1
      rw [z_ix (show w < 2 ^ 31 by omega), (hR.2.2.2.2.2 w hwn).1]
      simp only [ne_eq, z_eq (show bK B w < 2 ^ 31 by omega) (show k < 2 ^ 31 by omega)]
      refine ⟨fun c => nx _ (by rw [tuN_s, if_neg (fun h => c h.2)]), fun c => ?_⟩
      rw [nI_1 (tuN B k w)]
      exact nx _ (by rw [tuN_s, if_pos ⟨e, c⟩])
theorem c_turrets {s : SG} {x : Int32} {M : MM} {Q : Int32 → MM → Prop} (hR : RepC s M) (q : ∀ M', RepC (turretsS s x).2 M' → Hi M M' → Q (turretsS s x).1 M') : D4_turrets x M Q := by
  unfold D4_turrets
  refine p4_isKind ?_
  rw [b2l_n0, b2l_0]
  refine ⟨fun h => ?_, fun h => ?_⟩
  · obtain ⟨j, hj, hx, hxn⟩ := inN_0 h (by decide)
    rw [show turretsS s x = (nI (tuN (sB s) j 10), s) from by unfold turretsS; rw [if_pos h, hxn]] at q
    rw [hx]
    exact c_tur_loop isB1 hj (WFm hR.2.1) hR.1 (q M hR Hi.rf) FU 0 (by decide) (by decide)
  · rw [show turretsS s x = outS s 2 from by unfold turretsS; rw [h]; rfl] at q
    exact c_out (k := 2) hR (by decide) q
theorem m_tur_loop {k H : Nat} {B : BV} {M : MM} {Q : Int32 → MM → Prop} (hk : k < 6) (hw : WF 10 H B) (hR : RM B M) (q : Q (nI (tuN B k 10)) M) : ∀ (n w : Nat), w ≤ bN B → bN B - w < n → D5_turrets_c28 Q n (nI k) (nI (tuN B k w)) (nI w) M := by
  have hn := hw.1
  intro n
  induction n with
  | zero => intro w h1 h2; omega
  | succ n ih =>
    intro w h1 h2
    unfold D5_turrets_c28
    rw [hR.1, z_le (by omega) (by omega)]
    refine ⟨fun z => ?_, fun z => ⟨ib5 hw (show w < bN B by omega) (by decide) (by decide), ?_⟩⟩
    · rw [tuN_end hw 10 hn] at q
      rw [show w = bN B by omega]; exact q
    · have hwn : w < bN B := by omega
      obtain ⟨m1, m2, m3, m4, m5⟩ := hR.2.2.2.2 w hwn
      have g1 := (hw.2.1 w hwn).1
      have nx : ∀ v, tuN B k w + v = tuN B k (w + 1) → D5_turrets_c61 (D5_turrets_c28 Q n) Q (nI k) (nI w) (nI v) (nI (tuN B k w)) M := by
        intro v hv
        show D5_turrets_c28 Q n (nI k) (nI (tuN B k w) + nI v) (nI w + 1) M
        rw [nI_add, nI_1, hv]
        exact ih (w + 1) (by omega) (by omega)
      rw [z_ix (show w < 2 ^ 31 by omega), m5, m1, gn_n0, gn_e0]
      simp only [ne_eq, z_eq (show bK B w < 2 ^ 31 by omega) (show k < 2 ^ 31 by omega)]
      refine ⟨fun e => nx 0 (by rw [tuN_s, if_neg (fun h => by rw [e] at h; cases h.1)]; rfl), fun e => ⟨ib5 hw hwn (by decide) (by decide), fun c => nx 0 (by rw [tuN_s, if_neg (fun h => c h.2)]; rfl), fun c => nx 1 (by rw [tuN_s, if_pos ⟨e, c⟩])⟩⟩
theorem m_turrets {s : SG} {x : Int32} {M : MM} {Q : Int32 → MM → Prop} (hR : RepM s M) (q : ∀ M', RepM (turretsS s x).2 M' → Lo M M' → Q (turretsS s x).1 M') : D5_turrets x M Q := by
  unfold D5_turrets
  have hR1 := hR.thrown (x := 0)
  have hL : Lo M (up M 62 9 0) := fun p hp => up_p (by omega)
  generalize up M 62 9 0 = M1 at hR1 hL
  have hw := WFm hR1.2.1
  refine p5_inL (a := 0) (n := 5) (by decide) (by decide) ?_
  rw [b2l_n0, b2l_0]
  refine ⟨fun h => ?_, fun h => ?_⟩
  · obtain ⟨j, hj, hx, hxn⟩ := inN_0 h (by decide)
    rw [show turretsS s x = (nI (tuN (sB s) j 10), s) from by unfold turretsS; rw [if_pos h, hxn]] at q
    rw [hx]
    exact m_tur_loop hj hw hR1.1 (q M1 hR1 hL) FU 0 (Nat.zero_le _) (Nat.lt_of_le_of_lt (Nat.le_trans (Nat.sub_le _ _) hw.1) (by decide))
  · rw [show turretsS s x = outS s 2 from by unfold turretsS; rw [h]; rfl] at q
    exact m_out (k := 2) hR1 (by decide) (fun M' a b => q M' a (hL.tr b))
/-- JUDGED -/
def jdP (B : BV) (l : List Nat) (i : Nat) : Bool := !(decide (i < bN B) && decide (rate (bK B i) (bF B i) = rwN l i))
def judgeS (s : SG) : Int32 × SG := (fsx (jdP (sB s) (sR s)) (sR s).length 0, (sB s, sI s, sT s, sL s, [], sF s))
theorem c_judge_loop {s : SG} {M : MM} {Q : Int32 → MM → Prop} (hR : RepC s M) (q : Q (fsx (jdP (sB s) (sR s)) (sR s).length 0) (up M 0 8 (nI 0))) :
    ∀ (n i : Nat), i ≤ (sR s).length → (sR s).length - i < n → fsx (jdP (sB s) (sR s)) ((sR s).length - i) i = fsx (jdP (sB s) (sR s)) (sR s).length 0 → D4_judge_c5 Q n (-9) (nI i) M := by
  have hw := WFm hR.2.1
  have hn := hw.1
  have hrw := hR.2.2.2.2.2.1
  have hlen := hrw.2.1
  intro n
  induction n with
  | zero => intro i h1 h2; omega
  | succ n ih =>
    intro i h1 h2 he
    unfold D4_judge_c5
    rw [hrw.1, show (12 : Int32) = nI 12 from rfl, z_le (by omega) (by omega), z_le (by decide) (by omega)]
    refine ⟨fun z => ?_, fun z => ⟨fun z2 => by omega, fun _ => ⟨fun z3 => absurd rfl z3, fun _ => ?_⟩⟩⟩
    · rw [show (sR s).length - i = 0 by omega] at he
      rw [← he] at q
      exact q
    · have hi : i < (sR s).length := by omega
      rw [fsx_s hi] at he
      have hit : jdP (sB s) (sR s) i = true → D4_judge_c53 (D4_judge_c5 Q n) Q (nI i) M := by
        intro e
        rw [if_pos e] at he
        rw [← he] at q
        obtain ⟨m, rfl⟩ : ∃ m, n = m + 1 := ⟨n - 1, by omega⟩
        have hne : ¬ nI i = (-9 : Int32) := by rw [i_eq, i_n (by omega), show (-9 : Int32).toInt = -9 from by decide]; omega
        exact ⟨fun _ => q, fun _ => ⟨fun _ => q, fun _ => ⟨fun _ => q, fun z => absurd z hne⟩⟩⟩
      have no : jdP (sB s) (sR s) i = false → D4_judge_c55 (D4_judge_c5 Q n) Q (-9) (nI i) M := by
        intro e
        rw [e] at he
        show D4_judge_c5 Q n (-9) (nI i + 1) M
        rw [nI_1]
        exact ih (i + 1) (by omega) (by omega) he
      refine p0_knows hR.1.1 hn (by omega) ?_
      rw [b2l_0]
      refine ⟨fun e => hit (by unfold jdP; rw [e]; rfl), fun e => ?_⟩
      have e := b_nf e
      have hin : i < bN (sB s) := of_decide_eq_true e
      obtain ⟨g1, g2, g3, g4⟩ := hw.2.1 i hin
      have hr := rate_lt _ g1 _ g2
      obtain ⟨r1, r2⟩ := hrw.at hi
      refine p0_rateOf isB1 hw hR.1 hin ⟨ibc ⟨by decide, rfl⟩ rfl (show i < 12 by omega) (by decide), ?_⟩
      rw [z_ix (show i < 2 ^ 31 by omega), r1, z_eq (by omega) (by omega)]
      refine ⟨fun c => no (by unfold jdP; rw [e, decide_eq_true c]; rfl), fun c => hit (by unfold jdP; rw [e, decide_eq_false c]; rfl)⟩
theorem c_judge {s : SG} {M : MM} {Q : Int32 → MM → Prop} (hR : RepC s M) (q : ∀ M', RepC (judgeS s).2 M' → Hi M M' → Q (judgeS s).1 M') : D4_judge M Q :=
  c_judge_loop hR (q _ hR.row0 (fun p hp => up_p (by omega))) FU 0 (Nat.zero_le _) (Nat.lt_of_le_of_lt (Nat.le_trans (Nat.sub_le _ _) hR.2.2.2.2.2.1.2.1) (by decide)) rfl
theorem m_judge_loop {B : BV} {l : List Nat} {H : Nat} {M : MM} {Q : Int32 → MM → Prop} (hw : WF 10 H B) (hR : RM B M) (hlen : l.length ≤ 12) (hrw : ∀ i, i < l.length → M 81 i = nI (rwN l i) ∧ rwN l i < 100) (q : Q (fsx (jdP B l) l.length 0) M) :
    ∀ (n i : Nat), i ≤ l.length → l.length - i < n → fsx (jdP B l) (l.length - i) i = fsx (jdP B l) l.length 0 → D5_judge_c17 Q n (nI l.length) (nI i) M := by
  have hn := hw.1
  intro n
  induction n with
  | zero => intro i h1 h2; omega
  | succ n ih =>
    intro i h1 h2 he
    unfold D5_judge_c17
    rw [hR.1, z_le (by omega) (by omega), z_le (by omega) (by omega)]
    refine ⟨fun z => ?_, fun z => ?_⟩
    · rw [show l.length - i = 0 by omega] at he
      rw [← he] at q
      exact q
    · have hi : i < l.length := by omega
      rw [fsx_s hi] at he
      have hit : jdP B l i = true → Q (nI i) M := by
        intro e
        rw [if_pos e] at he
        rw [he]; exact q
      refine ⟨fun z2 => hit (by unfold jdP; rw [decide_eq_false (show ¬ i < bN B by omega)]; rfl), fun z2 => ⟨ibc ⟨by decide, rfl⟩ rfl (show i < 12 by omega) (by decide), ?_⟩⟩
      have hin : i < bN B := by omega
      obtain ⟨g1, g2, g3, g4⟩ := hw.2.1 i hin
      obtain ⟨m1, m2, m3, m4, m5⟩ := hR.2.2.2.2 i hin
      have hr := rate_lt _ g1 _ g2
      obtain ⟨r1, r2⟩ := hrw i hi
      refine p5_rateOf (by omega) g1 g2 m1 m2 ?_
      rw [z_ix (show i < 2 ^ 31 by omega), r1, z_eq (by omega) (by omega)]
      refine ⟨fun c => ?_, fun c => hit (by unfold jdP; rw [decide_eq_true hin, decide_eq_false (fun z => c z.symm)]; rfl)⟩
      have e : jdP B l i = false := by unfold jdP; rw [decide_eq_true hin, decide_eq_true c.symm]; rfl
      rw [e] at he
      rw [nI_1]
      exact ih (i + 1) (by omega) (by omega) he
theorem m_judge {s : SG} {M : MM} {Q : Int32 → MM → Prop} (hR : RepM s M) (q : ∀ M', RepM (judgeS s).2 M' → Lo M M' → Q (judgeS s).1 M') : D5_judge M Q := by
  unfold D5_judge
  have hR1 := hR.thrown (x := 0)
  have hL : Lo M (up M 62 9 0) := fun p hp => up_p (by omega)
  generalize up M 62 9 0 = M1 at hR1 hL
  have hw := WFm hR1.2.1
  have hrw := hR1.2.2.2.2.2.1
  dsimp only
  rw [hrw.1]
  refine m_judge_loop hw (hR1.1.slot (k := 36) (by decide)) hrw.2.1 (fun i hi => ?_) (q _ hR1.row0 (hL.tr (fun p hp => up_p (by omega)))) FU 0 (Nat.zero_le _) (Nat.lt_of_le_of_lt (Nat.le_trans (Nat.sub_le _ _) hrw.2.1) (by decide)) rfl
  rw [up_p (by decide)]
  exact hrw.at hi
