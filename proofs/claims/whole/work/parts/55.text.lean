/-! PURE PART: a beach told in letters; the class -/
theorem LtC.at {l : List Nat} {M : MM} (h : LtC l M) {i : Nat} (hi : i < l.length) : M 58 i = nI (rwN l i) ∧ rwN l i < 256 := h.2.2 i _ (rwN_s hi)
theorem LtM.at {l : List Nat} {M : MM} (h : LtM l M) {i : Nat} (hi : i < l.length) : M 71 i = nI (rwN l i) ∧ rwN l i < 256 := h.2.2 i _ (rwN_s hi)
def isDg (l : List Nat) (i : Nat) : Bool := decide (i < l.length ∧ 48 ≤ rwN l i ∧ rwN l i ≤ 57)
def dvN (l : List Nat) (i : Nat) : Nat := if isDg l i = true then rwN l i - 48 else 0
theorem isDg_iff {l : List Nat} {i : Nat} : isDg l i = true ↔ (i < l.length ∧ 48 ≤ rwN l i ∧ rwN l i ≤ 57) := by unfold isDg; rw [decide_eq_true_eq]
theorem dvN_le (l : List Nat) (i : Nat) : dvN l i ≤ 9 := by
  unfold dvN
  split
  · rename_i h
    have := isDg_iff.mp h
    omega
  · exact Nat.zero_le 9
theorem dvN_t {l : List Nat} {i : Nat} (h : isDg l i = true) : dvN l i = rwN l i - 48 := if_pos h
def dgo (c : Nat) : Option Nat := if c = 102 then some 1 else if c = 104 then some 2 else if c = 112 then some 0 else if c = 114 then some 1 else if c = 119 then some 4 else if c = 120 then some 2 else none
theorem dgo_le {c d : Nat} (h : dgo c = some d) : d ≤ 4 := by
  unfold dgo at h
  split at h
  · cases h; decide
  · split at h
    · cases h; decide
    · split at h
      · cases h; decide
      · split at h
        · cases h; decide
        · split at h
          · cases h; decide
          · split at h
            · cases h; decide
            · cases h
theorem dgo_or {c d : Nat} (h : dgo c = some d) : (c = 102 ∧ d = 1) ∨ (c = 104 ∧ d = 2) ∨ (c = 112 ∧ d = 0) ∨ (c = 114 ∧ d = 1) ∨ (c = 119 ∧ d = 4) ∨ (c = 120 ∧ d = 2) := by
  unfold dgo at h
  split at h
  · cases h; omega
  · split at h
    · cases h; omega
    · split at h
      · cases h; omega
      · split at h
        · cases h; omega
        · split at h
          · cases h; omega
          · split at h
            · cases h; omega
            · cases h
/-- the first of p+i .. that is no digit -/
def ndg (l : List Nat) (p : Nat) : Nat → Nat → Option Nat
  | 0, _ => none
  | n + 1, i => if isDg l (p + i) = true then ndg l p n (i + 1) else some (p + i)
theorem ndg_s {l : List Nat} {p d i : Nat} (h : i ≤ d) : ndg l p (d + 1 - i) i = if isDg l (p + i) = true then ndg l p (d + 1 - (i + 1)) (i + 1) else some (p + i) := by
  rw [show d + 1 - i = (d + 1 - (i + 1)) + 1 by omega]; rfl
theorem ndg_or (l : List Nat) (p : Nat) : ∀ n i, (ndg l p n i = none ∧ ∀ t, i ≤ t → t < i + n → isDg l (p + t) = true) ∨ ∃ t, i ≤ t ∧ t < i + n ∧ isDg l (p + t) = false ∧ (∀ u, i ≤ u → u < t → isDg l (p + u) = true) ∧ ndg l p n i = some (p + t)
  | 0, i => Or.inl ⟨rfl, fun t h1 h2 => by omega⟩
  | n + 1, i => by
    unfold ndg
    by_cases h : isDg l (p + i) = true
    · rw [if_pos h]
      rcases ndg_or l p n (i + 1) with ⟨h1, h2⟩ | ⟨t, h1, h2, h3, h4, h5⟩
      · refine Or.inl ⟨h1, fun t a b => ?_⟩
        by_cases y : t = i
        · rw [y]; exact h
        · exact h2 t (by omega) (by omega)
      · refine Or.inr ⟨t, by omega, by omega, h3, fun u a b => ?_, h5⟩
        by_cases y : u = i
        · rw [y]; exact h
        · exact h4 u (by omega) b
    · rw [if_neg h]
      exact Or.inr ⟨i, Nat.le_refl _, by omega, by simpa using h, fun u a b => by omega, rfl⟩
theorem ndg_some {l : List Nat} {p n i t : Nat} (h1 : i ≤ t) (h2 : t < i + n) (h3 : isDg l (p + t) = false) (h4 : ∀ u, i ≤ u → u < t → isDg l (p + u) = true) : ndg l p n i = some (p + t) := by
  rcases ndg_or l p n i with ⟨_, g⟩ | ⟨u, g1, g2, g3, g4, g5⟩
  · rw [g t h1 h2] at h3; cases h3
  · have e : u = t := by
      rcases Nat.lt_trichotomy u t with z | z | z
      · rw [h4 u g1 z] at g3; cases g3
      · exact z
      · rw [g4 t h1 z] at h3; cases h3
    rw [g5, e]
theorem ndg_none {l : List Nat} {p n i : Nat} (h : ∀ t, i ≤ t → t < i + n → isDg l (p + t) = true) : ndg l p n i = none := by
  rcases ndg_or l p n i with ⟨g, _⟩ | ⟨u, g1, g2, g3, g4, g5⟩
  · exact g
  · rw [h u g1 g2] at g3; cases g3
/-- what a statement at p lacks -/
def stL (l : List Nat) (p : Nat) : Option Nat := match dgo (rwN l p) with
  | none => some p
  | some d => match ndg l p d 1 with
    | some q => some q
    | none => if p + d + 1 < l.length ∧ rwN l (p + d + 1) = 59 then none else some (p + d + 1)
theorem stL_0 {l : List Nat} {p : Nat} (h : dgo (rwN l p) = none) : stL l p = some p := by unfold stL; rw [h]
theorem stL_1 {l : List Nat} {p d q : Nat} (h : dgo (rwN l p) = some d) (h2 : ndg l p d 1 = some q) : stL l p = some q := by unfold stL; rw [h]; dsimp only; rw [h2]
theorem stL_2 {l : List Nat} {p d : Nat} (h : dgo (rwN l p) = some d) (h2 : ndg l p d 1 = none) : stL l p = if p + d + 1 < l.length ∧ rwN l (p + d + 1) = 59 then none else some (p + d + 1) := by unfold stL; rw [h]; dsimp only; rw [h2]
theorem stL_none {l : List Nat} {p : Nat} (h : stL l p = none) : ∃ d, dgo (rwN l p) = some d ∧ (∀ t, 1 ≤ t → t < 1 + d → isDg l (p + t) = true) ∧ p + d + 1 < l.length ∧ rwN l (p + d + 1) = 59 := by
  cases hd : dgo (rwN l p) with
  | none => rw [stL_0 hd] at h; cases h
  | some d =>
    rcases ndg_or l p d 1 with ⟨g, g2⟩ | ⟨u, g1, g2, g3, g4, g5⟩
    · rw [stL_2 hd g] at h
      split at h
      · rename_i z; exact ⟨d, rfl, g2, z.1, z.2⟩
      · cases h
    · rw [stL_1 hd g5] at h; cases h
def nxP (l : List Nat) (p : Nat) : Nat := p + (dgo (rwN l p)).getD 0 + 2
theorem nxP_d {l : List Nat} {p d : Nat} (h : dgo (rwN l p) = some d) : nxP l p = p + d + 2 := by unfold nxP; rw [h]; rfl
def lkF (l : List Nat) : Nat → Nat → Option Nat
  | 0, _ => none
  | n + 1, p => if l.length ≤ p then none else (match stL l p with | some q => some q | none => lkF l n (nxP l p))
def lkT (l : List Nat) : Option Nat := if l.length = 0 then some 0 else lkF l 49 0
theorem lkF_e {l : List Nat} {n p : Nat} (h : l.length ≤ p) : lkF l (n + 1) p = none := if_pos h
theorem lkF_s {l : List Nat} {n p q : Nat} (h : ¬ l.length ≤ p) (h2 : stL l p = some q) : lkF l (n + 1) p = some q := by
  show (if l.length ≤ p then none else _) = _
  rw [if_neg h, h2]
theorem lkF_n {l : List Nat} {n p : Nat} (h : ¬ l.length ≤ p) (h2 : stL l p = none) : lkF l (n + 1) p = lkF l n (nxP l p) := by
  show (if l.length ≤ p then none else _) = _
  rw [if_neg h, h2]
/-- a statement on a beach -/
def appB (B : BV) (l : List Nat) (p : Nat) : Option BV :=
  if rwN l p = 102 then (if bS B (dvN l (p + 1)) = true then some (bWear B (dvN l (p + 1)) 0) else none)
  else if rwN l p = 104 then (if 1 ≤ 10 * dvN l (p + 1) + dvN l (p + 2) ∧ 10 * dvN l (p + 1) + dvN l (p + 2) ≤ 60 ∧ bH B + (10 * dvN l (p + 1) + dvN l (p + 2)) ≤ 999 then some (hrs B (10 * dvN l (p + 1) + dvN l (p + 2))) else none)
  else if rwN l p = 112 then some (bSettle B)
  else if rwN l p = 114 then (if bS B (dvN l (p + 1)) = true then some (bLose B (dvN l (p + 1))) else none)
  else if rwN l p = 119 then (if dvN l (p + 1) < 6 ∧ 10 * dvN l (p + 3) + dvN l (p + 4) < 25 ∧ bN B < 8 ∧ woV B (10 * dvN l (p + 3) + dvN l (p + 4)) < 0 then some (bBuild B (dvN l (p + 1)) (dvN l (p + 2)) (10 * dvN l (p + 3) + dvN l (p + 4))) else none)
  else if rwN l p = 120 then (if bS B (dvN l (p + 1)) = true then some (bWear B (dvN l (p + 1)) (dvN l (p + 2))) else none)
  else none
theorem wo_neg {B : BV} {c : Nat} (h : woV B c < 0) : woV B c = -9 := by
  rcases wo_or B c 10 0 with ⟨g1, g2⟩ | ⟨j, g1, g2, g3, g4, g5⟩
  · exact g1
  · have g5 : woV B c = nI j := g5
    rw [g5] at h
    exact absurd h (nI_pos (by omega))
theorem appB_ok {B B' : BV} {l : List Nat} {p : Nat} (hw : WF 8 999 B) (hD : DC B) (h : appB B l p = some B') : WF 8 999 B' ∧ DC B' := by
  have d1 := dvN_le l (p + 1)
  have d2 := dvN_le l (p + 2)
  unfold appB at h
  split at h
  · split at h
    · cases h; exact ⟨hw.wear (by decide), hD.wear⟩
    · cases h
  · split at h
    · split at h
      · rename_i z; cases h; exact ⟨hrs_wf999 hw z.2.2, hD.hrs _⟩
      · cases h
    · split at h
      · cases h; exact ⟨hw.settle, hD.settle⟩
      · split at h
        · split at h
          · cases h; exact ⟨hw.lose, hD.lose⟩
          · cases h
        · split at h
          · split at h
            · rename_i z
              cases h
              exact ⟨hw.build z.2.2.1 z.1 (by omega) z.2.1, hD.build hw (by decide) (wo_neg z.2.2.2)⟩
            · cases h
          · split at h
            · split at h
              · cases h; exact ⟨hw.wear (by omega), hD.wear⟩
              · cases h
            · cases h
def apF (l : List Nat) : Nat → Nat → BV → Nat → Option Nat × BV × Nat
  | 0, _, B, k => (none, B, k)
  | n + 1, p, B, k => if l.length ≤ p then (none, B, k) else (match appB B l p with | none => (some p, B, k) | some B' => apF l n (nxP l p) B' (k + 1))
theorem apF_e {l : List Nat} {n p k : Nat} {B : BV} (h : l.length ≤ p) : apF l (n + 1) p B k = (none, B, k) := if_pos h
theorem apF_n {l : List Nat} {n p k : Nat} {B : BV} (h : ¬ l.length ≤ p) (h2 : appB B l p = none) : apF l (n + 1) p B k = (some p, B, k) := by
  show (if l.length ≤ p then _ else _) = _
  rw [if_neg h, h2]
theorem apF_s {l : List Nat} {n p k : Nat} {B B' : BV} (h : ¬ l.length ≤ p) (h2 : appB B l p = some B') : apF l (n + 1) p B k = apF l n (nxP l p) B' (k + 1) := by
  show (if l.length ≤ p then _ else _) = _
  rw [if_neg h, h2]
def clL (s : SG) : SG := (sB s, sI s, sT s, [], sR s, sF s)
def bhR (s : SG) (r : Option Nat × BV × Nat) : Int32 × SG := match r.1 with
  | some p => (-2000 - nI p, clL s)
  | none => (nI r.2.2, wT (wB (clL s) r.2.1) [])
def beachS (s : SG) : Int32 × SG := match lkT (sL s) with
  | some q => (-1000 - nI q, clL s)
  | none => bhR s (apF (sL s) 49 0 (sB s) 0)
/-- the class reads -/
theorem p2_signAt {l : List Nat} {i : Nat} {M : MM} {Q : Int32 → MM → Prop} (h : LtC l M) (hi : i < 2 ^ 20) (k1 : i < l.length → Q (nI (rwN l i)) M) (k0 : l.length ≤ i → Q (-9) M) : D2_signAt (nI i) M Q := by
  have hl := h.2.1
  unfold D2_signAt
  rw [h.1, show (96 : Int32) = nI 96 from rfl, z_le (by omega) (by omega), z_le (by decide) (by omega)]
  refine ⟨fun z => absurd z (nI_pos (by omega)), fun _ => ⟨fun z => k0 z, fun z => ⟨fun z2 => by omega, fun _ => ⟨ibc ⟨by decide, rfl⟩ rfl (show i < 96 by omega) (by decide), ?_⟩⟩⟩⟩
  rw [z_ix (by omega), (h.at (show i < l.length by omega)).1]
  exact k1 (by omega)
theorem p2_isDigit {l : List Nat} {i : Nat} {M : MM} {Q : Int32 → MM → Prop} (h : LtC l M) (hi : i < 2 ^ 20) (q : Q (b2 (isDg l i)) M) : D2_isDigit (nI i) M Q := by
  unfold D2_isDigit
  refine p2_signAt h hi (fun hl => ?_) (fun hl => ?_)
  · have hc := (h.at hl).2
    rw [show (48 : Int32) = nI 48 from rfl, z_lt (by omega) (by decide)]
    refine ⟨fun c => ?_, fun c => p2_signAt h hi (fun _ => ?_) (fun z => by omega)⟩
    · rw [show isDg l i = false from decide_eq_false (by omega)] at q; exact q
    · rw [show (57 : Int32) = nI 57 from rfl, z_lt (by decide) (by omega)]
      refine ⟨fun c2 => ?_, fun c2 => ?_⟩
      · rw [show isDg l i = false from decide_eq_false (by omega)] at q; exact q
      · rw [show isDg l i = true from decide_eq_true (by omega)] at q; exact q
  · rw [show isDg l i = false from decide_eq_false (by omega)] at q
    exact ⟨fun _ => q, fun z => absurd (by decide) z⟩
theorem p2_digit {l : List Nat} {i : Nat} {M : MM} {Q : Int32 → MM → Prop} (h : LtC l M) (hi : i < 2 ^ 20) (q : Q (nI (dvN l i)) M) : D2_digit (nI i) M Q := by
  unfold D2_digit
  refine p2_isDigit h hi ?_
  rw [b2l_0]
  refine ⟨fun e => ?_, fun e => ?_⟩
  · rw [show dvN l i = 0 from by unfold dvN; rw [e]; rfl] at q; exact q
  · have e := b_nf e
    have g := isDg_iff.mp e
    refine p2_signAt h hi (fun _ => ?_) (fun z => by omega)
    rw [dvN_t e] at q
    rw [show (48 : Int32) = nI 48 from rfl, pk_sub g.2.1]
    exact q
theorem p2_twoDigits {l : List Nat} {i : Nat} {M : MM} {Q : Int32 → MM → Prop} (h : LtC l M) (hi : i < 2 ^ 19) (q : Q (nI (10 * dvN l i + dvN l (i + 1))) M) : D2_twoDigits (nI i) M Q := by
  unfold D2_twoDigits
  refine p2_digit h (by omega) ?_
  rw [nI_1]
  refine p2_digit h (by omega) ?_
  rw [show (10 : Int32) = nI 10 from rfl, pk_mul, nI_add]
  exact q
theorem ch_ne {c n : Nat} (h : ¬ nI c = nI n) : ¬ c = n := fun e => h (by rw [e])
theorem ch_eq {c n : Nat} (hc : c < 2 ^ 31) (hn : n < 2 ^ 31) (h : nI c = nI n) : c = n := (nI_eq hc hn).mp h
theorem p2_digitsBehind {c : Nat} {M : MM} {Q : Int32 → MM → Prop} (hc : c < 256) (k1 : ∀ d, dgo c = some d → Q (nI d) M) (k0 : dgo c = none → Q (-9) M) : D2_digitsBehind (nI c) M Q := by
  unfold D2_digitsBehind
  refine ⟨fun e => ?_, fun n1 => ⟨fun e => ?_, fun n2 => ⟨fun e => ?_, fun n3 => ⟨fun e => ?_, fun n4 => ⟨fun e => ?_, fun n5 => ⟨fun e => ?_, fun n6 => ?_⟩⟩⟩⟩⟩⟩
  · have e := ch_eq (n := 102) (by omega) (by decide) e
    exact k1 1 (by rw [e]; rfl)
  · have e := ch_eq (n := 104) (by omega) (by decide) e
    exact k1 2 (by rw [e]; rfl)
  · have e := ch_eq (n := 112) (by omega) (by decide) e
    exact k1 0 (by rw [e]; rfl)
  · have e := ch_eq (n := 114) (by omega) (by decide) e
    exact k1 1 (by rw [e]; rfl)
  · have e := ch_eq (n := 119) (by omega) (by decide) e
    exact k1 4 (by rw [e]; rfl)
  · have e := ch_eq (n := 120) (by omega) (by decide) e
    exact k1 2 (by rw [e]; rfl)
  · exact k0 (by unfold dgo; rw [if_neg (ch_ne (n := 102) n1), if_neg (ch_ne (n := 104) n2), if_neg (ch_ne (n := 112) n3), if_neg (ch_ne (n := 114) n4), if_neg (ch_ne (n := 119) n5), if_neg (ch_ne (n := 120) n6)])
theorem p2_lengthAt {l : List Nat} {p d : Nat} {M : MM} {Q : Int32 → MM → Prop} (h : LtC l M) (hp : p < l.length) (hd : dgo (rwN l p) = some d) (q : Q (nI (d + 2)) M) : D2_lengthAt (nI p) M Q := by
  have hl := h.2.1
  have h4 := dgo_le hd
  unfold D2_lengthAt
  refine p2_signAt h (by omega) (fun _ => ?_) (fun z => by omega)
  refine p2_digitsBehind (h.at hp).2 (fun d' hd' => ?_) (fun z => by rw [hd] at z; cases z)
  have e : d' = d := by rw [hd] at hd'; cases hd'; rfl
  rw [e, show (0 : Int32) = nI 0 from rfl, z_iflt (by decide) (by omega), show (2 : Int32) = nI 2 from rfl]
  rw [show (if 0 < d then nI d else nI 0) = nI d from by split; rfl; rw [show d = 0 by omega], nI_add]
  exact q
theorem c_lack_in {l : List Nat} {p k d : Nat} {M : MM} {K13 : Int32 → Int32 → MM → Prop} {Q : Int32 → MM → Prop} (h : LtC l M) (hp : p < l.length) (hd : dgo (rwN l p) = some d) (kn : stL l p = none → K13 (nI (p + d + 2)) (nI (k + 1)) M) (kq : ∀ q, stL l p = some q → Q (nI q) M) :
    ∀ (n i : Nat), 1 ≤ i → i ≤ d + 1 → d + 1 - i < n → ndg l p (d + 1 - i) i = ndg l p d 1 → D2_lackPlace_c45 K13 Q n (nI p) (nI k) (nI d) (nI i) M := by
  have hl := h.2.1
  have h4 := dgo_le hd
  intro n
  induction n with
  | zero => intro i h0 h1 h2; omega
  | succ n ih =>
    intro i h0 h1 h2 he
    unfold D2_lackPlace_c45 D2_lackPlace_c73
    rw [z_lt (by omega) (by omega), nI_add, nI_1, nI_add]
    refine ⟨fun z => ?_, fun z => ?_⟩
    · rw [show d + 1 - i = 0 by omega] at he
      have hs := stL_2 hd he.symm
      refine p2_signAt h (by omega) (fun hl2 => ?_) (fun hl2 => ?_)
      · have hc := (h.at hl2).2
        rw [show (59 : Int32) = nI 59 from rfl, z_eq (by omega) (by decide)]
        refine ⟨fun e => ?_, fun e => kq _ (by rw [hs, if_neg (fun z => e z.2)])⟩
        refine p2_lengthAt h hp hd ?_
        dsimp only
        rw [nI_add, nI_1, ← Nat.add_assoc]
        exact kn (by rw [hs, if_pos ⟨hl2, e⟩])
      · refine ⟨fun z2 => absurd z2 (by decide), fun _ => kq _ (by rw [hs, if_neg (fun z => by omega)])⟩
    · rw [ndg_s (by omega)] at he
      refine p2_isDigit h (by omega) ?_
      rw [b2l_n0, b2l_0]
      refine ⟨fun e => ?_, fun e => ?_⟩
      · rw [if_pos e] at he
        rw [nI_1]
        exact ih (i + 1) (by omega) (by omega) (by omega) he
      · rw [if_neg (by rw [e]; decide)] at he
        exact kq _ (stL_1 hd he.symm)
theorem c_lack_out {l : List Nat} {M : MM} {Q : Int32 → MM → Prop} (h : LtC l M) (k0 : lkF l 49 0 = none → Q (-9) M) (k1 : ∀ q, lkF l 49 0 = some q → Q (nI q) M) :
    ∀ (n p k : Nat), 2 * k ≤ p → p ≤ l.length → 48 - k < n → lkF l (49 - k) p = lkF l 49 0 → D2_lackPlace_c13 Q n (nI p) (nI k) M := by
  have hl := h.2.1
  intro n
  induction n with
  | zero => intro p k h0 h1 h2; omega
  | succ n ih =>
    intro p k h0 h1 h2 he
    unfold D2_lackPlace_c13
    rw [show (96 : Int32) = nI 96 from rfl, z_le (by decide) (by omega), h.1, z_le (by omega) (by omega)]
    rw [show 49 - k = (48 - k) + 1 by omega] at he
    refine ⟨fun z => by omega, fun _ => ⟨fun z => k0 (by rw [← he, lkF_e z]), fun z => ?_⟩⟩
    refine p2_signAt h (by omega) (fun hp => ?_) (fun z2 => by omega)
    refine p2_digitsBehind (h.at hp).2 (fun d hd => ?_) (fun hd => ?_)
    · refine ⟨fun _ => ?_, fun z2 => absurd (nI_pos' (by have := dgo_le hd; omega)) z2⟩
      refine c_lack_in h hp hd (fun hs => ?_) (fun q hs => k1 q (by rw [← he, lkF_s z hs])) FU 1 (by decide) (by omega) (by have := dgo_le hd; exact Nat.lt_of_le_of_lt (show d + 1 - 1 ≤ 4 by omega) (by decide)) rfl
      rw [lkF_n z hs, nxP_d hd] at he
      obtain ⟨d', e1, e2, e3, e4⟩ := stL_none hs
      have ed : d' = d := by rw [hd] at e1; cases e1; rfl
      rw [ed] at e3
      exact ih (p + d + 2) (k + 1) (by omega) (by omega) (by omega) (by rw [show 49 - (k + 1) = 48 - k by omega]; exact he)
    · exact ⟨fun z2 => absurd z2 (by decide), fun _ => k1 p (by rw [← he, lkF_s z (stL_0 hd)])⟩
theorem p2_lackPlace {l : List Nat} {M : MM} {Q : Int32 → MM → Prop} (h : LtC l M) (k0 : lkT l = none → Q (-9) M) (k1 : ∀ q, lkT l = some q → q < 200 → Q (nI q) M) (hq : ∀ q, lkT l = some q → q < 200) : D2_lackPlace M Q := by
  have hl := h.2.1
  unfold D2_lackPlace
  rw [h.1, show (0 : Int32) = nI 0 from rfl]
  simp only [ne_eq, z_eq (show l.length < 2 ^ 31 by omega) (show 0 < 2 ^ 31 by decide)]
  refine ⟨fun z => ?_, fun z => k1 0 (if_pos z) (by decide)⟩
  have e : lkT l = lkF l 49 0 := if_neg z
  rw [e] at k0 k1 hq
  exact c_lack_out h k0 (fun q hs => k1 q hs (hq q hs)) FU 0 0 (by decide) (Nat.zero_le _) (by decide) rfl
/-- the place told is in the text or its end -/
theorem stL_lt {l : List Nat} {p q : Nat} (hp : p ≤ l.length) (h : stL l p = some q) : q ≤ p + 5 := by
  cases hd : dgo (rwN l p) with
  | none => rw [stL_0 hd] at h; cases h; omega
  | some d =>
    have h4 := dgo_le hd
    rcases ndg_or l p d 1 with ⟨g, g2⟩ | ⟨u, g1, g2, g3, g4, g5⟩
    · rw [stL_2 hd g] at h
      split at h
      · cases h
      · cases h; omega
    · rw [stL_1 hd g5] at h; cases h; omega
theorem lkF_lt {l : List Nat} (hl : l.length ≤ 96) : ∀ n p q, lkF l n p = some q → q < 200
  | 0, p, q, h => by cases h
  | n + 1, p, q, h => by
    by_cases z : l.length ≤ p
    · rw [lkF_e z] at h; cases h
    · cases hs : stL l p with
      | none => rw [lkF_n z hs] at h; exact lkF_lt hl n _ q h
      | some r =>
        rw [lkF_s z hs] at h
        cases h
        have := stL_lt (show p ≤ l.length by omega) hs
        omega
theorem lkT_lt {l : List Nat} (hl : l.length ≤ 96) {q : Nat} (h : lkT l = some q) : q < 200 := by
  unfold lkT at h
  split at h
  · cases h; decide
  · exact lkF_lt hl 49 0 q h
/-- a statement comes, in the class -/
theorem c_wornBy {B : BV} {w x : Nat} {M0 M : MM} {Q : Int32 → MM → Prop} (hw : WF 8 999 B) (hk : KC B M0 M) (h9 : w < 10) (k1 : bS B w = true → ∀ M', KC (bWear B w x) M0 M' → Q 1 M') (k0 : bS B w = false → Q 0 M) : D2_wornBy (nI w) (nI x) 6 M Q := by
  have hn := hw.1
  unfold D2_wornBy
  refine p0_stands hk.1.2.1 h9 ?_
  rw [b2l_n0, b2l_0]
  exact ⟨fun e => p0_wears isB6 hk.1 (by omega) (hw.2.2.1 w e) (fun M' h' f' => k1 e M' ⟨h', hk.2.tr (fun p a _ => f' p (by omega))⟩), k0⟩
theorem c_comes {l : List Nat} {B : BV} {p : Nat} {M0 M : MM} {Q : Int32 → MM → Prop} (h : LtC l M) (hw : WF 8 999 B) (hk : KC B M0 M) (hp : p < l.length) (k1 : ∀ B' M', appB B l p = some B' → KC B' M0 M' → Q 1 M') (k0 : ∀ M', appB B l p = none → FrC M0 M' → Q 0 M') : D2_comes (nI p) 6 M Q := by
  have hl := h.2.1
  have hn := hw.1
  have hh := hw.2.2.2.1
  have d1 := dvN_le l (p + 1)
  have d2 := dvN_le l (p + 2)
  have d3 := dvN_le l (p + 3)
  have d4 := dvN_le l (p + 4)
  have hc := (h.at hp).2
  unfold appB at k1 k0
  unfold D2_comes
  rw [nI_1, show nI p + 2 = nI (p + 2) from nI_add p 2, show nI p + 3 = nI (p + 3) from nI_add p 3]
  refine p2_digit h (by omega) (p2_digit h (by omega) (p2_signAt h (by omega) (fun _ => ?_) (fun z => by omega)))
  have b1 : bo (1 : Int32) := Or.inr rfl
  have b0 : bo (0 : Int32) := Or.inl rfl
  refine ⟨fun e => ?_, fun n1 => ⟨fun e => ?_, fun n2 => ⟨fun e => ?_, fun n3 => ⟨fun e => ?_, fun n4 => ⟨fun e => ?_, fun n5 => ⟨fun e => ?_, fun n6 => ?_⟩⟩⟩⟩⟩⟩
  · have e := ch_eq (n := 102) (by omega) (by decide) e
    simp only [e, if_true] at k1 k0
    exact c_wornBy (x := 0) hw hk (by omega) (fun es M' k' => ⟨b1, k1 _ M' (if_pos es) k'⟩) (fun es => ⟨b0, k0 M (if_neg (by rw [es]; decide)) hk.2⟩)
  · have e := ch_eq (n := 104) (by omega) (by decide) e
    rw [if_neg (by omega), if_pos e] at k0
    rw [if_neg (show ¬ rwN l p = 102 by omega), if_pos e] at k1
    refine p2_twoDigits h (by omega) ?_
    rw [show p + 1 + 1 = p + 2 from rfl]
    unfold D2_passed
    rw [hk.1.2.2.1, nI_add, show (1 : Int32) = nI 1 from rfl, show (60 : Int32) = nI 60 from rfl, show (999 : Int32) = nI 999 from rfl, z_lt (by omega) (by decide), z_lt (by decide) (by omega), z_le (by omega) (by decide)]
    refine ⟨fun z => ⟨b0, k0 M (if_neg (by omega)) hk.2⟩, fun z => ⟨fun z2 => ⟨b0, k0 M (if_neg (by omega)) hk.2⟩, fun z2 => ⟨fun z3 => ?_, fun z3 => ⟨b0, k0 M (if_neg (by omega)) hk.2⟩⟩⟩⟩
    exact kc_hrs (H := 999) (WFm hw) (by omega) (by omega) hk (fun M' k' => ⟨b1, k1 _ M' (if_pos (by omega)) k'⟩)
  · have e := ch_eq (n := 112) (by omega) (by decide) e
    rw [if_neg (by omega), if_neg (by omega), if_pos e] at k0
    rw [if_neg (show ¬ rwN l p = 102 by omega), if_neg (show ¬ rwN l p = 104 by omega), if_pos e] at k1
    unfold D2_paid
    exact p0_settles hk.1 hw.2.2.2.2.1 hw.2.2.2.2.2 (fun M' h' f' => ⟨b1, k1 _ M' rfl ⟨h', hk.2.tr (fun p a _ => f' p (by omega))⟩⟩)
  · have e := ch_eq (n := 114) (by omega) (by decide) e
    rw [if_neg (by omega), if_neg (by omega), if_neg (by omega), if_pos e] at k0
    rw [if_neg (show ¬ rwN l p = 102 by omega), if_neg (show ¬ rwN l p = 104 by omega), if_neg (show ¬ rwN l p = 112 by omega), if_pos e] at k1
    unfold D2_lost
    refine p0_stands hk.1.2.1 (by omega) ?_
    by_cases hj : dvN l (p + 1) < bN B
    · refine p0_loses hk.1 (by omega) hj (fun M' h' f' => ⟨b2_bo _, b2_bo _, ?_⟩)
      have fr : FrC M0 M' := hk.2.tr (fun p a _ => f' p (by omega))
      cases es : bS B (dvN l (p + 1))
      · exact k0 M' (if_neg (by rw [es]; decide)) fr
      · exact k1 _ M' (if_pos es) ⟨h', fr⟩
    · have es := st_no hw (show bN B ≤ dvN l (p + 1) by omega)
      unfold D0_loses
      refine p0_knows hk.1.1 (by omega) (by omega) ?_
      rw [decide_eq_false hj, es]
      exact ⟨fun _ => ⟨b2_bo _, b2_bo _, k0 M (if_neg (by rw [es]; decide)) hk.2⟩, fun z => absurd rfl z⟩
  · have e := ch_eq (n := 119) (by omega) (by decide) e
    rw [if_neg (by omega), if_neg (by omega), if_neg (by omega), if_neg (by omega), if_pos e] at k0
    rw [if_neg (show ¬ rwN l p = 102 by omega), if_neg (show ¬ rwN l p = 104 by omega), if_neg (show ¬ rwN l p = 112 by omega), if_neg (show ¬ rwN l p = 114 by omega), if_pos e] at k1
    refine p2_twoDigits h (by omega) ?_
    rw [show p + 3 + 1 = p + 4 from rfl]
    unfold D2_built
    refine p4_isKind ?_
    rw [b2l_0, inN_nI (by omega)]
    refine ⟨fun z => ⟨b0, k0 M (if_neg (fun y => by have := of_decide_eq_false z; omega)) hk.2⟩, fun z => ?_⟩
    have z := of_decide_eq_true (b_nf z)
    refine p4_isCell ?_
    rw [b2l_0, inN_nI (by omega)]
    refine ⟨fun z2 => ⟨b0, k0 M (if_neg (fun y => by have := of_decide_eq_false z2; omega)) hk.2⟩, fun z2 => ?_⟩
    have z2 := of_decide_eq_true (b_nf z2)
    rw [hk.1.1, show (8 : Int32) = nI 8 from rfl, z_le (by decide) (by omega)]
    refine ⟨fun z3 => ⟨b0, k0 M (if_neg (fun y => by omega)) hk.2⟩, fun z3 => ?_⟩
    refine p0_workIn isB6 (WFm hw) hk.1 z2 ⟨fun z4 => ?_, fun z4 => ⟨b0, k0 M (if_neg (fun y => z4 y.2.2.2)) hk.2⟩⟩
    exact kc_build (WFm hw) (by omega) hk (fun M' k' => ⟨b1, k1 _ M' (if_pos ⟨z, z2, by omega, z4⟩) k'⟩)
  · have e := ch_eq (n := 120) (by omega) (by decide) e
    rw [if_neg (by omega), if_neg (by omega), if_neg (by omega), if_neg (by omega), if_neg (by omega), if_pos e] at k0
    rw [if_neg (show ¬ rwN l p = 102 by omega), if_neg (show ¬ rwN l p = 104 by omega), if_neg (show ¬ rwN l p = 112 by omega), if_neg (show ¬ rwN l p = 114 by omega), if_neg (show ¬ rwN l p = 119 by omega), if_pos e] at k1
    exact c_wornBy hw hk (by omega) (fun es M' k' => ⟨b1, k1 _ M' (if_pos es) k'⟩) (fun es => ⟨b0, k0 M (if_neg (by rw [es]; decide)) hk.2⟩)
  · exact k0 M (by rw [if_neg (ch_ne (n := 102) n1), if_neg (ch_ne (n := 104) n2), if_neg (ch_ne (n := 112) n3), if_neg (ch_ne (n := 114) n4), if_neg (ch_ne (n := 119) n5), if_neg (ch_ne (n := 120) n6)]) hk.2
/-- forgotten -/
theorem LtC.nil {M : MM} (h : M 57 1 = nI 0) : LtC [] M := ⟨h, by decide, fun i c hc => by simp at hc⟩
theorem LtM.nil {M : MM} (h : M 62 17 = nI 0) : LtM [] M := ⟨h, by decide, fun i c hc => by simp at hc⟩
theorem RepC.forget {s : SG} {M : MM} (h : RepC s M) : RepC (clL s) (up M 57 1 (nI 0)) := by
  obtain ⟨r1, r2, r3, r4, r5, r6, r7⟩ := h
  have hf : ∀ p, p ≠ 57 → up M 57 1 (nI 0) p = M p := fun p a => up_p a
  exact ⟨r1.cong (fun p a b => hf p (by omega)), r2, r3.cong (by rw [hf 0 (by decide)]) (fun p a b => hf p (by omega)), r4.cong (by rw [hf 0 (by decide)]) (by rw [hf 0 (by decide)]) (fun p a b => hf p (by omega)), LtC.nil up_s, r6.cong (by rw [hf 0 (by decide)]) (hf 59 (by decide)), r7.cong (hf 60 (by decide))⟩
theorem RepC.noT {s : SG} {M : MM} (h : RepC s M) : RepC (wT s []) (up M 0 9 (nI 0)) := by
  obtain ⟨r1, r2, r3, r4, r5, r6, r7⟩ := h
  have hf : ∀ p, p ≠ 0 → up M 0 9 (nI 0) p = M p := fun p a => up_p a
  exact ⟨r1.cong (fun p a b => hf p (by omega)), r2, r3.cong (up_k (by decide)) (fun p a b => hf p (by omega)), r4.nil up_s (up_k (by decide)), r5.cong (by rw [hf 57 (by decide)]) (hf 58 (by decide)), r6.cong (up_k (by decide)) (hf 59 (by decide)), r7.cong (hf 60 (by decide))⟩
theorem c_beach_loop {s : SG} {M0 : MM} {Q : Int32 → MM → Prop} (hR : RepC s M0) (q : ∀ M', RepC (bhR s (apF (sL s) 49 0 (sB s) 0)).2 M' → Hi M0 M' → Q (bhR s (apF (sL s) 49 0 (sB s) 0)).1 M') :
    ∀ (n p k : Nat) (B : BV) (M : MM), 2 * k ≤ p → p ≤ (sL s).length → 48 - k < n → lkF (sL s) (49 - k) p = none → apF (sL s) (49 - k) p B k = apF (sL s) 49 0 (sB s) 0 → WF 8 999 B → KC B M0 M → D4_beach_c40 Q n (nI p) (nI k) M := by
  have hl := hR.2.2.2.2.1.2.1
  intro n
  induction n with
  | zero => intro p k B M h0 h1 h2; omega
  | succ n ih =>
    intro p k B M h0 h1 h2 hlk hap hw hk
    have hRM := hR.mind hk.2
    have hL := hRM.2.2.2.2.1
    unfold D4_beach_c40 D2_size
    dsimp only
    rw [show (96 : Int32) = nI 96 from rfl, z_le (by decide) (by omega), hL.1, z_le (by omega) (by omega)]
    rw [show 49 - k = (48 - k) + 1 by omega] at hlk hap
    refine ⟨fun z => by omega, fun _ => ⟨fun z => ?_, fun z => ?_⟩⟩
    · rw [apF_e z] at hap
      rw [← hap] at q
      unfold D4_beach_c102 D2_forget
      refine p0_becomes isB1 isB6 (by decide) (WFm hw) hk.1 (fun M1 h1 f1 => ?_)
      have r1 : RepC (wB s B) M1 := hRM.beach h1 hw (fun p hp => f1 p (by omega))
      have r2 := r1.noT.forget
      exact q _ r2 (hk.2.hi.tr (fun p hp => by rw [up_p (by omega), up_p (by omega)]; exact f1 p (by omega)))
    · have hp : p < (sL s).length := by omega
      have hs : stL (sL s) p = none := by
        cases hs : stL (sL s) p with
        | none => rfl
        | some r => rw [lkF_s z hs] at hlk; cases hlk
      obtain ⟨d, e1, e2, e3, e4⟩ := stL_none hs
      rw [lkF_n z hs, nxP_d e1] at hlk
      refine c_comes hL hw hk hp (fun B' M' ha k' => ?_) (fun M' ha f' => ?_)
      · rw [apF_s z ha, nxP_d e1] at hap
        refine ⟨fun _ => ?_, fun z2 => absurd z2 (by decide)⟩
        refine p2_lengthAt ((hR.mind k'.2).2.2.2.2.1) hp e1 ?_
        rw [nI_add, nI_1, ← Nat.add_assoc]
        have hw' : WF 8 999 B' := by
          have d1 := dvN_le (sL s) (p + 1)
          have d2 := dvN_le (sL s) (p + 2)
          unfold appB at ha
          split at ha
          · split at ha
            · cases ha; exact hw.wear (by decide)
            · cases ha
          · split at ha
            · split at ha
              · rename_i y; cases ha; exact hrs_wf999 hw y.2.2
              · cases ha
            · split at ha
              · cases ha; exact hw.settle
              · split at ha
                · split at ha
                  · cases ha; exact hw.lose
                  · cases ha
                · split at ha
                  · split at ha
                    · rename_i y; cases ha; exact hw.build y.2.2.1 y.1 (by omega) y.2.1
                    · cases ha
                  · split at ha
                    · split at ha
                      · cases ha; exact hw.wear (by omega)
                      · cases ha
                    · cases ha
        exact ih (p + d + 2) (k + 1) B' M' (by omega) (by omega) (by omega) (by rw [show 49 - (k + 1) = 48 - k by omega]; exact hlk) (by rw [show 49 - (k + 1) = 48 - k by omega]; exact hap) hw' k'
      · rw [apF_n z ha] at hap
        rw [← hap] at q
        refine ⟨fun z2 => absurd rfl z2, fun _ => ?_⟩
        unfold D4_beach_c72 D2_forget
        exact q _ (hR.mind f').forget (f'.hi.tr (fun p hp => up_p (by omega)))
theorem c_beach {s : SG} {M : MM} {Q : Int32 → MM → Prop} (hR : RepC s M) (q : ∀ M', RepC (beachS s).2 M' → Hi M M' → Q (beachS s).1 M') : D4_beach M Q := by
  unfold D4_beach
  have hL := hR.2.2.2.2.1
  have hl := hL.2.1
  unfold beachS at q
  refine p2_lackPlace hL (fun e => ?_) (fun r e hr => ?_) (fun r e => lkT_lt hl e)
  · rw [e] at q
    refine ⟨fun _ => ?_, fun z => absurd (by decide) z⟩
    refine kc_becomes hR FrC.rf (fun M1 k1 => ?_)
    have e2 : lkF (sL s) 49 0 = none := by
      unfold lkT at e
      split at e
      · cases e
      · exact e
    exact c_beach_loop hR q FU 0 0 (sB s) M1 (by decide) (Nat.zero_le _) (by decide) e2 rfl hR.2.1 k1
  · rw [e] at q
    refine ⟨fun z => absurd z (nI_pos (by omega)), fun _ => ?_⟩
    unfold D2_forget
    exact q _ hR.forget (fun p hp => up_p (by omega))
