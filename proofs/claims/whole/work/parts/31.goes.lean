/-! PURE PART: hours go by; a beach becomes another -/
/-- n hours on -/
def hrs (B : BV) : Nat → BV
  | 0 => B
  | n + 1 => hourB (hrs B n) 0 0
theorem hrs_wf {m H : Nat} {B : BV} (h : WF m H B) : ∀ n, WF m (H + n) (hrs B n)
  | 0 => h
  | n + 1 => hourB_wf 0 0 (hrs_wf h n)
theorem hrs_H {B : BV} : ∀ n, bH (hrs B n) = bH B + n
  | 0 => rfl
  | n + 1 => by show bH (hrs B n) + 1 = _; rw [hrs_H n]; omega
theorem hrs_N {B : BV} : ∀ n, bN (hrs B n) = bN B
  | 0 => rfl
  | n + 1 => hrs_N n
theorem hrs_add {B : BV} (a : Nat) : ∀ n, hrs (hrs B a) n = hrs B (a + n)
  | 0 => rfl
  | n + 1 => by show hourB (hrs (hrs B a) n) 0 0 = hourB (hrs B (a + n)) 0 0; rw [hrs_add a n]
theorem p0_goes_loop {b n H : Nat} {B : BV} {M0 : MM} {Q : MM → Prop} (hb : isB b) (hw : WF 10 H B) (hH : H + n < 2 ^ 20) (hn : n < 4000) (k : ∀ M', RB b (hrs B n) M' → (∀ p, p ≠ b → p ≠ b + 4 → M' p = M0 p) → Q M') :
    ∀ (f i : Nat) (M : MM), i ≤ n → n - i < f → RB b (hrs B i) M → (∀ p, p ≠ b → p ≠ b + 4 → M p = M0 p) → D0_goesOn_c2 b Q f (nI n) (nI i) M := by
  intro f
  induction f with
  | zero => intro i M h1 h2; omega
  | succ f ih =>
    intro i M h1 h2 hR hf
    unfold D0_goesOn_c2
    rw [z_le (by omega) (by omega)]
    refine ⟨fun z => ?_, fun z => ?_⟩
    · have e : i = n := by omega
      subst e
      exact k M hR hf
    · show D0_anHour b (nI 0) (nI 0) M _
      refine p0_anHour hb (hrs_wf hw i) (by omega) hR (by decide) (by decide) (fun M' hR' hf' => ?_)
      rw [nI_1]
      exact ih (i + 1) M' (by omega) (by omega) hR' (fun p a c => (hf' p a c).trans (hf p a c))
theorem p0_goesOn {b n H : Nat} {B : BV} {M : MM} {Q : MM → Prop} (hb : isB b) (hw : WF 10 H B) (hH : H + n < 2 ^ 20) (hn : n < 4000) (hR : RB b B M) (k : ∀ M', RB b (hrs B n) M' → (∀ p, p ≠ b → p ≠ b + 4 → M' p = M p) → Q M') : D0_goesOn b (nI n) M Q :=
  p0_goes_loop hb hw hH hn k FU 0 M (Nat.zero_le _) (Nat.lt_of_le_of_lt (Nat.sub_le _ _) (Nat.lt_trans hn (by decide))) hR (fun _ _ _ => rfl)
theorem p5_goes_loop {n H : Nat} {B : BV} {M0 : MM} {Q : MM → Prop} (hw : WF 10 H B) (hH : H + n < 2 ^ 20) (hn : n < 4000) (hp : M0 62 15 = nI 0) (k : ∀ M', RM (hrs B n) M' → FrH M0 M' → Q M') :
    ∀ (f i : Nat) (M : MM), i ≤ n → n - i < f → RM (hrs B i) M → FrH M0 M → D5_goHours_c2 Q f (nI n) (nI i) M := by
  intro f
  induction f with
  | zero => intro i M h1 h2; omega
  | succ f ih =>
    intro i M h1 h2 hR hf
    unfold D5_goHours_c2
    rw [z_le (by omega) (by omega)]
    refine ⟨fun z => ?_, fun z => ?_⟩
    · have e : i = n := by omega
      subst e
      exact k M hR hf
    · show D5_hourBy (nI 0) M _
      refine p5_hourBy (pay := 0) (hrs_wf hw i) (by omega) hR (by decide) (by decide) (by rw [hf.2 15 (by decide) (by decide) (by decide) (by decide) (by decide)]; exact hp) (fun M' hR' hf' => ?_)
      rw [nI_1]
      exact ih (i + 1) M' (by omega) (by omega) hR' (hf.tr hf')
theorem p5_goHours {n H : Nat} {B : BV} {M : MM} {Q : MM → Prop} (hw : WF 10 H B) (hH : H + n < 2 ^ 20) (hn : n < 4000) (hp : M 62 15 = nI 0) (hR : RM B M) (k : ∀ M', RM (hrs B n) M' → FrH M M' → Q M') : D5_goHours (nI n) M Q :=
  p5_goes_loop hw hH hn hp k FU 0 M (Nat.zero_le _) (Nat.lt_of_le_of_lt (Nat.sub_le _ _) (Nat.lt_trans hn (by decide))) hR FrH.rf
/-- beaches are apart -/
theorem isB_apart {b x : Nat} (hb : isB b) (hx : isB x) (hne : b ≠ x) : b + 4 < x ∨ x + 4 < b := by
  rcases hb with rfl | rfl | rfl | rfl | rfl | rfl | rfl | rfl | rfl | rfl | rfl <;> rcases hx with rfl | rfl | rfl | rfl | rfl | rfl | rfl | rfl | rfl | rfl | rfl <;> first | omega | exact absurd rfl hne
theorem bec_loop {b x : Nat} {M0 : MM} {Q : MM → Prop} (hb : isB b) (hx : isB x) (hne : b ≠ x) (k : ∀ M', (∀ q, 4 ≤ q → q ≤ 8 → M' b q = M0 x q) → (∀ r j, 1 ≤ r → r ≤ 4 → j < 10 → M' (b + r) j = M0 (x + r) j) → (∀ p, (p < b ∨ b + 4 < p) → M' p = M0 p) → Q M') :
    ∀ (n i : Nat) (M : MM), i ≤ 10 → 10 - i < n → (∀ q, M b q = M0 b q) → (∀ r j, 1 ≤ r → r ≤ 4 → j < i → M (b + r) j = M0 (x + r) j) → (∀ p, (p < b ∨ b + 4 < p) → M p = M0 p) → D0_becomes_c7 b Q n x (nI i) M := by
  intro n
  have hap := isB_apart hb hx hne
  induction n with
  | zero => intro i M h1 h2; omega
  | succ n ih =>
    intro i M h1 h2 hq hr hf
    unfold D0_becomes_c7
    rw [show (10 : Int32) = nI 10 from rfl, z_le (by decide) (by omega)]
    refine ⟨fun z => ?_, fun z => ?_⟩
    · have e : i = 10 := by omega
      subst e
      unfold D0_becomes_c67
      have hxb : x ≠ b := fun e => hne e.symm
      have fx : M x = M0 x := hf x (by omega)
      simp only [up_p hxb, fx]
      refine k _ (fun q a c => ?_) (fun r j a c d => ?_) (fun p hp => ?_)
      · rcases (show q = 4 ∨ q = 5 ∨ q = 6 ∨ q = 7 ∨ q = 8 by omega) with rfl | rfl | rfl | rfl | rfl <;> simp [up]
      · rw [up_b (by omega), up_b (by omega), up_b (by omega), up_b (by omega), up_b (by omega)]
        exact hr r j a c d
      · rw [up_p (by omega), up_p (by omega), up_p (by omega), up_p (by omega), up_p (by omega)]
        exact hf p hp
    · have hi : i < 10 := by omega
      refine ⟨isB_ib1 hx hi, isB_ib1 hb hi, isB_ib2 hx hi, isB_ib2 hb hi, isB_ib3 hx hi, isB_ib3 hb hi, isB_ib4 hx hi, isB_ib4 hb hi, ?_⟩
      rw [z_ix (by omega), nI_1]
      have g : ∀ r, 1 ≤ r → r ≤ 4 → M (x + r) = M0 (x + r) := fun r a c => hf (x + r) (by omega)
      have u : ∀ (N : MM) (r s : Nat) (v : Int32), 1 ≤ s → s ≤ 4 → 1 ≤ r → r ≤ 4 → up N (b + s) i v (x + r) = N (x + r) := fun N r s v a c d e => up_p (by omega)
      simp only [u _ 2 1 _ (by decide) (by decide) (by decide) (by decide), u _ 3 1 _ (by decide) (by decide) (by decide) (by decide), u _ 3 2 _ (by decide) (by decide) (by decide) (by decide), u _ 4 1 _ (by decide) (by decide) (by decide) (by decide), u _ 4 2 _ (by decide) (by decide) (by decide) (by decide), u _ 4 3 _ (by decide) (by decide) (by decide) (by decide), g 1 (by decide) (by decide), g 2 (by decide) (by decide), g 3 (by decide) (by decide), g 4 (by decide) (by decide)]
      refine ih (i + 1) _ (by omega) (by omega) (fun q => ?_) (fun r j a c d => ?_) (fun p hp => ?_)
      · rw [up_p (by omega), up_p (by omega), up_p (by omega), up_p (by omega)]; exact hq q
      · rcases (show r = 1 ∨ r = 2 ∨ r = 3 ∨ r = 4 by omega) with rfl | rfl | rfl | rfl
        · rw [up_p (by omega), up_p (by omega), up_p (by omega)]
          by_cases y : j = i
          · subst y; rw [up_s]
          · rw [up_k y]; exact hr 1 j a c (by omega)
        · rw [up_p (by omega), up_p (by omega)]
          by_cases y : j = i
          · subst y; rw [up_s]
          · rw [up_k y, up_p (by omega)]; exact hr 2 j a c (by omega)
        · rw [up_p (by omega)]
          by_cases y : j = i
          · subst y; rw [up_s]
          · rw [up_k y, up_p (by omega), up_p (by omega)]; exact hr 3 j a c (by omega)
        · by_cases y : j = i
          · subst y; rw [up_s]
          · rw [up_k y, up_p (by omega), up_p (by omega), up_p (by omega)]; exact hr 4 j a c (by omega)
      · rw [up_p (by omega), up_p (by omega), up_p (by omega), up_p (by omega)]; exact hf p hp
theorem p0_becomes {b x H : Nat} {B : BV} {M : MM} {Q : MM → Prop} (hb : isB b) (hx : isB x) (hne : b ≠ x) (hw : WF 10 H B) (hR : RB x B M) (k : ∀ M', RB b B M' → (∀ p, (p < b ∨ b + 4 < p) → M' p = M p) → Q M') : D0_becomes b x M Q := by
  unfold D0_becomes
  refine bec_loop hb hx hne (fun M' h1 h2 h3 => k M' ⟨?_, ?_, ?_, ?_, ?_, fun j hj => ?_⟩ h3) FU 0 M (Nat.zero_le _) (by decide) (fun _ => rfl) (fun r j _ _ h => by omega) (fun _ _ => rfl)
  · rw [h1 4 (by decide) (by decide)]; exact hR.1
  · rw [h1 5 (by decide) (by decide)]; exact hR.2.1
  · rw [h1 6 (by decide) (by decide)]; exact hR.2.2.1
  · rw [h1 7 (by decide) (by decide)]; exact hR.2.2.2.1
  · rw [h1 8 (by decide) (by decide)]; exact hR.2.2.2.2.1
  · have hj10 : j < 10 := Nat.lt_of_lt_of_le hj hw.1
    rw [h2 1 j (by decide) (by decide) hj10, h2 2 j (by decide) (by decide) hj10, h2 3 j (by decide) (by decide) hj10, h2 4 j (by decide) (by decide) hj10]
    exact hR.2.2.2.2.2 j hj
