/-! PURE PART: round -/
def scF (B : BV) (f : Nat → Nat → Nat) (c L : Nat) : Nat → Option (Nat × Nat)
  | 0 => none
  | w + 1 => if L.testBit w = true then (match scF B f c L w with
      | none => some (w, stp c (bC B w) + f (bC B w) (L - 2 ^ w))
      | some r => if r.2 ≤ stp c (bC B w) + f (bC B w) (L - 2 ^ w) then some r else some (w, stp c (bC B w) + f (bC B w) (L - 2 ^ w))) else scF B f c L w
def seV : Option (Nat × Nat) → Nat
  | none => 0
  | some r => r.2
def taF (B : BV) : Nat → Nat → Nat → Nat
  | 0, _, _ => 0
  | m + 1, c, L => if L = m then seV (scF B (taF B m) c m 8) else taF B m c L
def roF (B : BV) (c L : Nat) : Nat := taF B (L + 1) c L
theorem scF_g {B : BV} {f : Nat → Nat → Nat} {c L w : Nat} (h : L.testBit w = false) : scF B f c L (w + 1) = scF B f c L w := if_neg (by rw [h]; decide)
theorem scF_n {B : BV} {f : Nat → Nat → Nat} {c L w : Nat} (h : L.testBit w = true) (e : scF B f c L w = none) : scF B f c L (w + 1) = some (w, stp c (bC B w) + f (bC B w) (L - 2 ^ w)) := by
  show (if L.testBit w = true then _ else _) = _
  rw [if_pos h, e]
theorem scF_k {B : BV} {f : Nat → Nat → Nat} {c L w : Nat} {r : Nat × Nat} (h : L.testBit w = true) (e : scF B f c L w = some r) (hl : r.2 ≤ stp c (bC B w) + f (bC B w) (L - 2 ^ w)) : scF B f c L (w + 1) = some r := by
  show (if L.testBit w = true then _ else _) = _
  rw [if_pos h, e]; exact if_pos hl
theorem scF_c {B : BV} {f : Nat → Nat → Nat} {c L w : Nat} {r : Nat × Nat} (h : L.testBit w = true) (e : scF B f c L w = some r) (hl : ¬ r.2 ≤ stp c (bC B w) + f (bC B w) (L - 2 ^ w)) : scF B f c L (w + 1) = some (w, stp c (bC B w) + f (bC B w) (L - 2 ^ w)) := by
  show (if L.testBit w = true then _ else _) = _
  rw [if_pos h, e]; exact if_neg hl
theorem tb_le {L w : Nat} (h : L.testBit w = true) : 2 ^ w ≤ L := by
  rcases Nat.lt_or_ge L (2 ^ w) with z | z
  · rw [Nat.testBit_lt_two_pow z] at h; cases h
  · exact z
theorem tb_lt {L w : Nat} (h : L.testBit w = true) : L - 2 ^ w < L := by
  have := tb_le h
  have := Nat.two_pow_pos w
  omega
theorem scF_cong {B : BV} {f g : Nat → Nat → Nat} {c L : Nat} : ∀ n, (∀ w, w < n → L.testBit w = true → f (bC B w) (L - 2 ^ w) = g (bC B w) (L - 2 ^ w)) → scF B f c L n = scF B g c L n
  | 0, _ => rfl
  | n + 1, h => by
    have ih := scF_cong (c := c) n (fun w hw => h w (by omega))
    by_cases e : L.testBit n = true
    · have hv := h n (by omega) e
      cases hs : scF B f c L n with
      | none => rw [scF_n e hs, scF_n e (ih ▸ hs), hv]
      | some r =>
        by_cases hl : r.2 ≤ stp c (bC B n) + f (bC B n) (L - 2 ^ n)
        · rw [scF_k e hs hl, scF_k e (ih ▸ hs) (by rw [← hv]; exact hl)]
        · rw [scF_c e hs hl, scF_c e (ih ▸ hs) (by rw [← hv]; exact hl), hv]
    · have e := Bool.eq_false_iff.mpr e
      rw [scF_g e, scF_g e, ih]
theorem taF_ge {B : BV} {c L : Nat} : ∀ m, L < m → taF B m c L = roF B c L := by
  intro m
  induction m with
  | zero => intro h; omega
  | succ m ih =>
    intro h
    by_cases e : L = m
    · subst e; rfl
    · show (if L = m then _ else taF B m c L) = _
      rw [if_neg e, ih (by omega)]
theorem roF_eq (B : BV) (c L : Nat) : roF B c L = seV (scF B (roF B) c L 8) := by
  show (if L = L then seV (scF B (taF B L) c L 8) else _) = _
  rw [if_pos rfl, scF_cong 8 (fun w _ hw => taF_ge L (tb_lt hw))]
theorem scF_no {B : BV} {f : Nat → Nat → Nat} {c L : Nat} : ∀ n, scF B f c L n = none → ∀ u, u < n → L.testBit u = false
  | 0, _ => fun u h => by omega
  | n + 1, h => by
    intro u hu
    by_cases e : L.testBit n = true
    · cases hs : scF B f c L n with
      | none => rw [scF_n e hs] at h; cases h
      | some t =>
        by_cases hl : t.2 ≤ stp c (bC B n) + f (bC B n) (L - 2 ^ n)
        · rw [scF_k e hs hl] at h; cases h
        · rw [scF_c e hs hl] at h; cases h
    · have e := Bool.eq_false_iff.mpr e
      rw [scF_g e] at h
      by_cases y : u = n
      · rw [y]; exact e
      · exact scF_no n h u (by omega)
theorem scF_min {B : BV} {f : Nat → Nat → Nat} {c L : Nat} : ∀ n {r : Nat × Nat}, scF B f c L n = some r → ∀ u, u < n → L.testBit u = true → r.2 ≤ stp c (bC B u) + f (bC B u) (L - 2 ^ u)
  | 0, r, h => by cases h
  | n + 1, r, h => by
    intro u hu hb
    by_cases e : L.testBit n = true
    · cases hs : scF B f c L n with
      | none =>
        rw [scF_n e hs] at h
        have hr := Option.some.inj h
        by_cases y : u = n
        · rw [y, ← hr]; exact Nat.le_refl _
        · -- none below n
          exact absurd hb (by rw [scF_no n hs u (by omega)]; decide)
      | some t =>
        by_cases hl : t.2 ≤ stp c (bC B n) + f (bC B n) (L - 2 ^ n)
        · rw [scF_k e hs hl] at h
          have hr := Option.some.inj h
          rw [← hr]
          by_cases y : u = n
          · rw [y]; exact hl
          · exact scF_min n hs u (by omega) hb
        · rw [scF_c e hs hl] at h
          have hr := Option.some.inj h
          rw [← hr]
          by_cases y : u = n
          · rw [y]; exact Nat.le_refl _
          · have := scF_min n hs u (by omega) hb
            show stp c (bC B n) + f (bC B n) (L - 2 ^ n) ≤ _
            omega
    · have e := Bool.eq_false_iff.mpr e
      rw [scF_g e] at h
      by_cases y : u = n
      · rw [y, e] at hb; cases hb
      · exact scF_min n h u (by omega) hb
theorem scF_or {B : BV} {f : Nat → Nat → Nat} {c L : Nat} : ∀ n, (scF B f c L n = none ∧ ∀ w, w < n → L.testBit w = false) ∨ ∃ w v, scF B f c L n = some (w, v) ∧ w < n ∧ L.testBit w = true ∧ v = stp c (bC B w) + f (bC B w) (L - 2 ^ w) ∧ (∀ u, u < w → L.testBit u = true → v < stp c (bC B u) + f (bC B u) (L - 2 ^ u))
  | 0 => Or.inl ⟨rfl, fun w h => by omega⟩
  | n + 1 => by
    by_cases e : L.testBit n = true
    · rcases scF_or (B := B) (f := f) (c := c) (L := L) n with ⟨h1, h2⟩ | ⟨w, v, h1, h2, h3, h4, h5⟩
      · exact Or.inr ⟨n, _, scF_n e h1, by omega, e, rfl, fun u hu hb => by rw [h2 u hu] at hb; cases hb⟩
      · by_cases hl : v ≤ stp c (bC B n) + f (bC B n) (L - 2 ^ n)
        · exact Or.inr ⟨w, v, scF_k e h1 hl, by omega, h3, h4, h5⟩
        · refine Or.inr ⟨n, _, scF_c e h1 hl, by omega, e, rfl, fun u hu hb => ?_⟩
          rcases Nat.lt_trichotomy u w with y | y | y
          · have := h5 u y hb; omega
          · rw [y, ← h4]; omega
          · -- between: it was not less than v
            exact Nat.lt_of_lt_of_le (by omega) (scF_min n h1 u hu hb)
    · have e := Bool.eq_false_iff.mpr e
      rcases scF_or (B := B) (f := f) (c := c) (L := L) n with ⟨h1, h2⟩ | ⟨w, v, h1, h2, h3, h4, h5⟩
      · refine Or.inl ⟨by rw [scF_g e]; exact h1, fun w hw => ?_⟩
        by_cases y : w = n
        · rw [y]; exact e
        · exact h2 w (by omega)
      · exact Or.inr ⟨w, v, by rw [scF_g e]; exact h1, by omega, h3, h4, h5⟩
