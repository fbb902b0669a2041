/-! PURE PART: how many bits; who stands, by the model -/
def pcf : Nat → Nat → Nat
  | 0, _ => 0
  | n + 1, m => m % 2 + pcf n (m / 2)
theorem pcf_0 : ∀ n, pcf n 0 = 0
  | 0 => rfl
  | n + 1 => by show 0 % 2 + pcf n (0 / 2) = 0; rw [Nat.zero_div, pcf_0 n]
theorem pcf_le : ∀ n m, pcf n m ≤ n
  | 0, _ => Nat.le_refl 0
  | n + 1, m => by
    have := pcf_le n (m / 2)
    show m % 2 + pcf n (m / 2) ≤ n + 1
    omega
theorem and_pred_even {x : Nat} (hx : 0 < x) : (2 * x) &&& (2 * x - 1) = 2 * (x &&& (x - 1)) := by
  apply Nat.eq_of_testBit_eq
  intro i
  rw [Nat.testBit_and]
  cases i with
  | zero =>
    rw [Nat.testBit_zero, Nat.testBit_zero, Nat.testBit_zero]
    have h1 : 2 * x % 2 = 0 := by omega
    have h2 : 2 * (x &&& (x - 1)) % 2 = 0 := by omega
    rw [h1, h2]; rfl
  | succ i =>
    rw [Nat.testBit_succ, Nat.testBit_succ, Nat.testBit_succ, show 2 * x / 2 = x by omega, show (2 * x - 1) / 2 = x - 1 by omega, show 2 * (x &&& (x - 1)) / 2 = x &&& (x - 1) by omega, Nat.testBit_and]
theorem and_pred_odd {x : Nat} : (2 * x + 1) &&& (2 * x + 1 - 1) = 2 * x := by
  rw [Nat.add_sub_cancel]
  apply Nat.eq_of_testBit_eq
  intro i
  rw [Nat.testBit_and]
  cases i with
  | zero =>
    rw [Nat.testBit_zero, Nat.testBit_zero]
    have h1 : 2 * x % 2 = 0 := by omega
    rw [h1]; simp
  | succ i =>
    rw [Nat.testBit_succ, Nat.testBit_succ, show (2 * x + 1) / 2 = x by omega, show 2 * x / 2 = x by omega, Bool.and_self]
theorem pcf_pred : ∀ n m, 0 < m → m < 2 ^ n → pcf n m = pcf n (m &&& (m - 1)) + 1
  | 0, m, h0, h => by omega
  | n + 1, m, h0, h => by
    rw [Nat.pow_succ] at h
    rcases Nat.mod_two_eq_zero_or_one m with e | e
    · have hx : m = 2 * (m / 2) := by omega
      have ih := pcf_pred n (m / 2) (by omega) (by omega)
      have ea : m &&& (m - 1) = 2 * ((m / 2) &&& (m / 2 - 1)) := by
        have := and_pred_even (x := m / 2) (by omega)
        rw [← hx] at this; exact this
      show m % 2 + pcf n (m / 2) = (m &&& (m - 1)) % 2 + pcf n ((m &&& (m - 1)) / 2) + 1
      rw [ea, e, ih]
      have h1 : 2 * ((m / 2) &&& (m / 2 - 1)) % 2 = 0 := by omega
      have h2 : 2 * ((m / 2) &&& (m / 2 - 1)) / 2 = (m / 2) &&& (m / 2 - 1) := by omega
      rw [h1, h2]; omega
    · have hx : m = 2 * (m / 2) + 1 := by omega
      have ea : m &&& (m - 1) = 2 * (m / 2) := by
        have := and_pred_odd (x := m / 2)
        rw [← hx] at this; exact this
      show m % 2 + pcf n (m / 2) = (m &&& (m - 1)) % 2 + pcf n ((m &&& (m - 1)) / 2) + 1
      rw [ea, e]
      have h1 : 2 * (m / 2) % 2 = 0 := by omega
      have h2 : 2 * (m / 2) / 2 = m / 2 := by omega
      rw [h1, h2]; omega
theorem ones_loop {t : Nat} {M : MM} {Q : Int32 → MM → Prop} (q : Q (nI t) M) : ∀ (n a m : Nat), m < 2 ^ 25 → a + pcf 25 m = t → pcf 25 m < n → D5_onesOf_c4 Q n (nI a) (nI m) M := by
  intro n
  induction n with
  | zero => intro a m h1 h2 h3; omega
  | succ n ih =>
    intro a m h1 h2 h3
    unfold D5_onesOf_c4
    rw [show (0 : Int32) = nI 0 from rfl, z_eq (by omega) (by decide)]
    refine ⟨fun c => ?_, fun c => ?_⟩
    · subst c
      rw [pcf_0] at h2
      rw [show a = t by omega]; exact q
    · show D5_onesOf_c4 Q n (nI a + 1) (nI m &&& (nI m - 1)) M
      rw [nI_1, show nI m - 1 = nI (m - 1) from pk_sub (a := m) (b := 1) (by omega), z_and]
      have e := pcf_pred 25 m (by omega) h1
      exact ih (a + 1) _ (Nat.lt_of_le_of_lt Nat.and_le_left h1) (by omega) (by omega)
theorem p5_onesOf {m : Nat} {M : MM} {Q : Int32 → MM → Prop} (hm : m < 2 ^ 25) (q : Q (nI (pcf 25 m)) M) : D5_onesOf (nI m) M Q :=
  ones_loop q FU 0 m hm (by omega) (Nat.lt_of_le_of_lt (pcf_le 25 m) (by decide))
theorem mk_end {B : BV} {n H : Nat} (hw : WF n H B) : ∀ w, bN B ≤ w → mk (bS B) w = mk (bS B) (bN B) := by
  intro w
  induction w with
  | zero => intro h; rw [show bN B = 0 by omega]
  | succ w ih =>
    intro h
    rcases Nat.eq_or_lt_of_le h with z | z
    · rw [z]
    · have hs : bS B w = false := by
        cases e : bS B w
        · rfl
        · have := hw.2.2.1 w e; omega
      show mk (bS B) w + (if bS B w = true then 2 ^ w else 0) = _
      rw [hs, ih (by omega)]; rfl
theorem mk_or (s : Nat → Bool) (n : Nat) : mk s (n + 1) = mk s n ||| (if s n = true then 2 ^ n else 0) := by
  apply Nat.eq_of_testBit_eq
  intro i
  rw [Nat.testBit_or, mk_bit, mk_bit]
  cases hs : s n
  · rw [if_neg (by decide), Nat.zero_testBit]
    by_cases e : i = n
    · subst e; simp [hs]
    · have : (i < n) = (i < n + 1) := propext ⟨fun _ => by omega, fun _ => by omega⟩
      simp [this]
  · rw [if_pos rfl, Nat.testBit_two_pow]
    by_cases e : i = n
    · subst e; simp [hs]
    · have : (i < n) = (i < n + 1) := propext ⟨fun _ => by omega, fun _ => by omega⟩
      have h2 : ¬ n = i := fun z => e z.symm
      simp [this, h2]
theorem st_loop {B : BV} {H : Nat} {M : MM} {Q : Int32 → MM → Prop} (hw : WF 10 H B) (hR : RM B M) (q : Q (nI (mk (bS B) 10)) M) : ∀ (n w : Nat), w ≤ bN B → bN B - w < n → D5_standing_c4 Q n (nI (mk (bS B) w)) (nI w) M := by
  have hn := hw.1
  intro n
  induction n with
  | zero => intro w h1 h2; omega
  | succ n ih =>
    intro w h1 h2
    unfold D5_standing_c4
    rw [hR.1, z_le (by omega) (by omega)]
    refine ⟨fun z => ?_, fun z => ⟨ibc ⟨by decide, rfl⟩ rfl (show w < 10 by omega) (by decide), ?_⟩⟩
    · have e : w = bN B := by omega
      rw [mk_end hw 10 hn] at q
      rw [e]; exact q
    · have hwn : w < bN B := by omega
      have m5 := (hR.2.2.2.2 w hwn).2.2.2.2
      rw [z_ix (by omega), m5]
      have next : ∀ v : Nat, v = (if bS B w = true then 2 ^ w else 0) → D5_standing_c29 (D5_standing_c4 Q n) Q (nI w) (nI v) (nI (mk (bS B) w)) M := by
        intro v hv
        show D5_standing_c4 Q n (nI (mk (bS B) w) ||| nI v) (nI w + 1) M
        rw [z_or, nI_1, hv, ← mk_or]
        exact ih (w + 1) (by omega) (by omega)
      refine ⟨fun e => ?_, fun e => ?_⟩
      · have es : bS B w = false := by
          cases h : bS B w
          · rfl
          · rw [h] at e; exact absurd rfl e
        exact next 0 (by rw [es]; rfl)
      · have es : bS B w = true := by
          cases h : bS B w
          · rw [h] at e; exact absurd e (by decide)
          · rfl
        rw [z_shl w (by omega)]
        exact next _ (by rw [es]; rfl)
theorem p5_standing {B : BV} {H : Nat} {M : MM} {Q : Int32 → MM → Prop} (hw : WF 10 H B) (hR : RM B M) (q : Q (nI (mk (bS B) 10)) M) : D5_standing M Q :=
  st_loop hw hR q FU 0 (Nat.zero_le _) (Nat.lt_of_le_of_lt (Nat.le_trans (Nat.sub_le _ _) hw.1) (by decide))
