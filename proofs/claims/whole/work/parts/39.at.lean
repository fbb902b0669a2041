/-! PURE PART: which work stands in a cell -/
/-- two works that stand have two cells: kept of every beach, beside WF -/
def DC (B : BV) : Prop := ∀ i j, bS B i = true → bS B j = true → bC B i = bC B j → i = j
theorem DC.hour {B : BV} {sw pay : Nat} (h : DC B) : DC (hourB B sw pay) := by
  intro i j hi hj hc
  have hi : hrS B _ i = true := hi
  have hj : hrS B _ j = true := hj
  unfold hrS at hi hj
  rw [Bool.and_eq_true] at hi hj
  exact h i j hi.1 hj.1 hc
theorem DC.hrs {B : BV} (h : DC B) : ∀ n, DC (hrs B n)
  | 0 => h
  | n + 1 => (DC.hrs h n).hour
/-- the first that stands in the cell, from i on -/
def wo (B : BV) (c : Nat) : Nat → Nat → Int32
  | 0, _ => -9
  | n + 1, i => if bS B i = true ∧ bC B i = c then nI i else wo B c n (i + 1)
abbrev woV (B : BV) (c : Nat) : Int32 := wo B c 10 0
theorem wo_or (B : BV) (c : Nat) : ∀ n i, (wo B c n i = -9 ∧ ∀ j, i ≤ j → j < i + n → ¬ (bS B j = true ∧ bC B j = c)) ∨ ∃ j, i ≤ j ∧ j < i + n ∧ bS B j = true ∧ bC B j = c ∧ wo B c n i = nI j
  | 0, i => Or.inl ⟨rfl, fun j h1 h2 => by omega⟩
  | n + 1, i => by
    unfold wo
    by_cases h : bS B i = true ∧ bC B i = c
    · rw [if_pos h]
      exact Or.inr ⟨i, Nat.le_refl _, by omega, h.1, h.2, rfl⟩
    · rw [if_neg h]
      rcases wo_or B c n (i + 1) with ⟨h1, h2⟩ | ⟨j, h1, h2, h3, h4, h5⟩
      · refine Or.inl ⟨h1, fun j a b => ?_⟩
        by_cases y : j = i
        · subst y; exact h
        · exact h2 j (by omega) (by omega)
      · exact Or.inr ⟨j, by omega, by omega, h3, h4, h5⟩
theorem wi_loop {b c H : Nat} {B : BV} {M : MM} {Q : Int32 → MM → Prop} (hb : isB b) (hw : WF 10 H B) (hR : RB b B M) (hc : c < 25) (q : Q (woV B c) M) : ∀ (n i : Nat), i ≤ 10 → 10 - i < n → wo B c (10 - i) i = woV B c → D0_workIn_c2 b Q n (nI c) (nI i) M := by
  intro n
  induction n with
  | zero => intro i h1 h2; omega
  | succ n ih =>
    intro i h1 h2 he
    unfold D0_workIn_c2
    rw [show (10 : Int32) = nI 10 from rfl, z_le (by decide) (by omega)]
    refine ⟨fun z => ?_, fun z => ?_⟩
    · have e : i = 10 := by omega
      subst e
      rw [← he] at q; exact q
    · have hi : i < 10 := by omega
      have e1 : wo B c (10 - i) i = if bS B i = true ∧ bC B i = c then nI i else wo B c (10 - (i + 1)) (i + 1) := by
        rw [show 10 - i = (10 - (i + 1)) + 1 by omega]; rfl
      have next : ¬ (bS B i = true ∧ bC B i = c) → D0_workIn_c28 b (D0_workIn_c2 b Q n) Q (nI c) (nI i) M := by
        intro hno
        show D0_workIn_c2 b Q n (nI c) (nI i + 1) M
        rw [nI_1]
        rw [e1, if_neg hno] at he
        exact ih (i + 1) (by omega) (by omega) he
      refine p0_stands hR.2.1 hi ?_
      rw [show (0 : Int32) = nI 0 from rfl, b2_0]
      refine ⟨fun e => next (by rw [e]; simp), fun e => ⟨isB_ib3 hb hi, ?_⟩⟩
      have e : bS B i = true := by simpa using e
      have hin := hw.2.2.1 i e
      have g3 := (hw.2.1 i hin).2.2.1
      rw [z_ix (by omega), (hR.2.2.2.2.2 i hin).2.2.1]
      simp only [ne_eq, z_eq (show bC B i < 2 ^ 31 by omega) (show c < 2 ^ 31 by omega)]
      refine ⟨fun e2 => next (fun h => e2 h.2), fun e2 => ?_⟩
      rw [e1, if_pos ⟨e, e2⟩] at he
      rw [he]; exact q
theorem p0_workIn {b c H : Nat} {B : BV} {M : MM} {Q : Int32 → MM → Prop} (hb : isB b) (hw : WF 10 H B) (hR : RB b B M) (hc : c < 25) (q : Q (woV B c) M) : D0_workIn b (nI c) M Q :=
  wi_loop hb hw hR hc q FU 0 (by decide) (by decide) rfl
/-- the last that stands in the cell, below i -/
def wl (B : BV) (c : Nat) : Nat → Int32
  | 0 => -9
  | i + 1 => if bS B i = true ∧ bC B i = c then nI i else wl B c i
theorem wl_or (B : BV) (c : Nat) : ∀ n, (wl B c n = -9 ∧ ∀ j, j < n → ¬ (bS B j = true ∧ bC B j = c)) ∨ ∃ j, j < n ∧ bS B j = true ∧ bC B j = c ∧ wl B c n = nI j
  | 0 => Or.inl ⟨rfl, fun j h => by omega⟩
  | n + 1 => by
    unfold wl
    by_cases h : bS B n = true ∧ bC B n = c
    · rw [if_pos h]
      exact Or.inr ⟨n, by omega, h.1, h.2, rfl⟩
    · rw [if_neg h]
      rcases wl_or B c n with ⟨h1, h2⟩ | ⟨j, h1, h2, h3, h4⟩
      · refine Or.inl ⟨h1, fun j a => ?_⟩
        by_cases y : j = n
        · subst y; exact h
        · exact h2 j (by omega)
      · exact Or.inr ⟨j, by omega, h2, h3, h4⟩
theorem wl_wo {B : BV} {c H : Nat} (hw : WF 10 H B) (hD : DC B) : wl B c (bN B) = woV B c := by
  have hn := hw.1
  rcases wl_or B c (bN B) with ⟨h1, h2⟩ | ⟨j, h1, h2, h3, h4⟩
  · rcases wo_or B c 10 0 with ⟨g1, g2⟩ | ⟨i, g1, g2, g3, g4, g5⟩
    · rw [h1]; exact g1.symm
    · exact absurd ⟨g3, g4⟩ (h2 i (hw.2.2.1 i g3))
  · rcases wo_or B c 10 0 with ⟨g1, g2⟩ | ⟨i, g1, g2, g3, g4, g5⟩
    · exact absurd ⟨h2, h3⟩ (g2 j (by omega) (by omega))
    · rw [h4, ← hD i j g3 h2 (by rw [g4, h3])]; exact g5.symm
theorem wa_loop {c H : Nat} {B : BV} {M : MM} {Q : Int32 → MM → Prop} (hw : WF 10 H B) (hR : RM B M) (hc : c < 25) (q : Q (wl B c (bN B)) M) : ∀ (n i : Nat), i ≤ bN B → bN B - i < n → D5_workAt_c5 Q n (nI c) (wl B c i) (nI i) M := by
  have hn := hw.1
  intro n
  induction n with
  | zero => intro i h1 h2; omega
  | succ n ih =>
    intro i h1 h2
    unfold D5_workAt_c5
    rw [hR.1, z_le (by omega) (by omega)]
    refine ⟨fun z => ?_, fun z => ⟨ibc ⟨by decide, rfl⟩ rfl (show i < 10 by omega) (by decide), ?_⟩⟩
    · rw [show i = bN B by omega]; exact q
    · have hi : i < bN B := by omega
      obtain ⟨m1, m2, m3, m4, m5⟩ := hR.2.2.2.2 i hi
      have g3 := (hw.2.1 i hi).2.2.1
      rw [z_ix (by omega), m5]
      have next : ∀ v, wl B c (i + 1) = v → D5_workAt_c37 (D5_workAt_c5 Q n) Q (nI c) (nI i) v M := by
        intro v hv
        show D5_workAt_c5 Q n (nI c) v (nI i + 1) M
        rw [nI_1, ← hv]
        exact ih (i + 1) (by omega) (by omega)
      refine ⟨fun e => ?_, fun e => ⟨ibc ⟨by decide, rfl⟩ rfl (show i < 10 by omega) (by decide), ?_⟩⟩
      · have es : bS B i = false := by
          cases h : bS B i
          · rfl
          · rw [h] at e; exact absurd rfl e
        exact next _ (if_neg (by rw [es]; simp))
      · have es : bS B i = true := by
          cases h : bS B i
          · rw [h] at e; exact absurd e (by decide)
          · rfl
        rw [m3]
        simp only [ne_eq, z_eq (show bC B i < 2 ^ 31 by omega) (show c < 2 ^ 31 by omega)]
        exact ⟨fun e2 => next _ (if_neg (fun h => e2 h.2)), fun e2 => next _ (if_pos ⟨es, e2⟩)⟩
theorem p5_workAt {c H : Nat} {B : BV} {M : MM} {Q : Int32 → MM → Prop} (hw : WF 10 H B) (hD : DC B) (hR : RM B M) (hc : c < 25) (q : Q (woV B c) M) : D5_workAt (nI c) M Q := by
  have hn := hw.1
  rw [← wl_wo hw hD] at q
  exact wa_loop hw hR hc q FU 0 (Nat.zero_le _) (Nat.lt_of_le_of_lt (Nat.le_trans (Nat.sub_le _ _) hn) (by decide))
def atS (s : SG) (x : Int32) : Int32 × SG := if inN x 25 = true then (woV (sB s) x.toInt.toNat, s) else outS s 1
theorem inN_0 {x : Int32} {n : Nat} (h : inN x n = true) (hn : n ≤ 2 ^ 31) : ∃ j, j < n ∧ x = nI j ∧ x.toInt.toNat = j := by
  obtain ⟨j, h1, h2⟩ := inN_of h hn
  refine ⟨j, h1, h2, ?_⟩
  rw [h2, i_n (by omega)]
  omega
theorem c_at {s : SG} {x : Int32} {M : MM} {Q : Int32 → MM → Prop} (hR : RepC s M) (q : ∀ M', RepC (atS s x).2 M' → Hi M M' → Q (atS s x).1 M') : D4_at x M Q := by
  unfold D4_at
  refine p4_isCell ?_
  rw [show (0 : Int32) = nI 0 from rfl, b2_n0, b2_0]
  refine ⟨fun h => ?_, fun h => ?_⟩
  · obtain ⟨j, hj, hx, hxn⟩ := inN_0 h (by decide)
    rw [show atS s x = (woV (sB s) j, s) from by unfold atS; rw [if_pos h, hxn]] at q
    rw [hx]
    exact p0_workIn isB1 (WFm hR.2.1) hR.1 hj (q M hR Hi.rf)
  · rw [show atS s x = outS s 1 from by unfold atS; rw [h]; rfl] at q
    exact c_out (k := 1) hR (by decide) q
theorem m_at {s : SG} {x : Int32} {M : MM} {Q : Int32 → MM → Prop} (hD : DC (sB s)) (hR : RepM s M) (q : ∀ M', RepM (atS s x).2 M' → Lo M M' → Q (atS s x).1 M') : D5_at x M Q := by
  unfold D5_at
  have hR1 := hR.thrown (x := 0)
  have hL : Lo M (up M 62 9 0) := fun p hp => up_p (by omega)
  generalize up M 62 9 0 = M1 at hR1 hL
  refine p5_isCell ?_
  rw [show (0 : Int32) = nI 0 from rfl, b2_0]
  refine ⟨fun h => ?_, fun h => ?_⟩
  · rw [show atS s x = outS s 1 from by unfold atS; rw [h]; rfl] at q
    exact m_out (k := 1) hR1 (by decide) (fun M' a b => q M' a (hL.tr b))
  · have h : inN x 25 = true := by simpa using h
    obtain ⟨j, hj, hx, hxn⟩ := inN_0 h (by decide)
    rw [show atS s x = (woV (sB s) j, s) from by unfold atS; rw [if_pos h, hxn]] at q
    rw [hx]
    exact p5_workAt (WFm hR1.2.1) hD hR1.1 hj (q M1 hR1 hL)
