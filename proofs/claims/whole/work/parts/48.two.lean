/-! PURE PART: two; lots -/
def hpy (B : BV) (pay : Nat) : Nat → BV
  | 0 => B
  | n + 1 => hourB (hpy B pay n) 0 pay
theorem hpy_wf {m H : Nat} {B : BV} {pay : Nat} (h : WF m H B) : ∀ n, WF m (H + n) (hpy B pay n)
  | 0 => h
  | n + 1 => hourB_wf 0 pay (hpy_wf h n)
def pkN (a b k : Nat) : Nat := (k / 2 * 2 ^ a) ||| (k % 2 * 2 ^ b)
def pkX (k : Nat) : Nat := 2 * (1 - k / 2) + k % 2
def pkY (k : Nat) : Nat := 2 * (k / 2) + (1 - k % 2)
theorem pk_all : ∀ a, a < 10 → ∀ b, b < 10 → ∀ k, k < 4 → pkN a b k < 2 ^ 10 ∧ (a ≠ b → pkN a b k ^^^ 2 ^ a = pkN a b (pkX k) ∧ pkN a b k ^^^ 2 ^ b = pkN a b (pkY k)) := by decide +kernel
def twP (B : BV) (a b k : Nat) : Bool := decide (¬ bP (hpy B (pkN a b k) 6) < bP (hpy B (pkN a b (pkX k)) 6) ∧ ¬ bO (hpy B (pkN a b (pkY k)) 6) < bO (hpy B (pkN a b k) 6))
def twF (P : Nat → Bool) : Nat → Nat → Int32
  | 0, _ => -9
  | n + 1, i => if P i = true then nI (10 * (i / 2) + i % 2) else twF P n (i + 1)
theorem twF_s {P : Nat → Bool} {n i : Nat} (h : i < n) : twF P (n - i) i = if P i = true then nI (10 * (i / 2) + i % 2) else twF P (n - (i + 1)) (i + 1) := by
  rw [show n - i = (n - (i + 1)) + 1 by omega]; rfl
theorem pk_i {a b k : Nat} (ha : a < 10) (hb : b < 10) (hk : k < 4) : ((nI k / 2) <<< (nI a &&& 31)) ||| ((nI k - nI k / 2 * 2) <<< (nI b &&& 31)) = nI (pkN a b k) := by
  have h2a : 2 ^ a < 2 ^ 10 := Nat.pow_lt_pow_right (by decide) ha
  have h2b : 2 ^ b < 2 ^ 10 := Nat.pow_lt_pow_right (by decide) hb
  have e1 : k / 2 ≤ 1 := by omega
  have e2 : k % 2 ≤ 1 := by omega
  have m1 : k / 2 * 2 ^ a ≤ 1 * 2 ^ a := Nat.mul_le_mul_right _ e1
  have m2 : k % 2 * 2 ^ b ≤ 1 * 2 ^ b := Nat.mul_le_mul_right _ e2
  rw [show (2 : Int32) = nI 2 from rfl, pk_rem (by omega) (by decide) (by decide), pk_div (by omega) (by decide) (by decide), pk_shlN _ a (z_sh a (by omega)) (by omega), pk_shlN _ b (z_sh b (by omega)) (by omega), z_or]
  rfl
theorem c_pay_loop {B : BV} {pay : Nat} {M0 : MM} {Q : MM → Prop} (hw : WF 10 999 B) (hp : pay < 2 ^ 31) (q : ∀ M', KC (hpy B pay 6) M0 M' → Q M') :
    ∀ (n i : Nat) (M : MM), i ≤ 6 → 6 - i < n → KC (hpy B pay i) M0 M → D4_payingFor_c13 Q n (nI pay) (nI i) M := by
  intro n
  induction n with
  | zero => intro i M h1 h2; omega
  | succ n ih =>
    intro i M h1 h2 hk
    unfold D4_payingFor_c13
    rw [show (6 : Int32) = nI 6 from rfl, z_le (by decide) (by omega)]
    refine ⟨fun z => ?_, fun z => ?_⟩
    · have e : i = 6 := by omega
      subst e
      exact q M hk
    · show D0_anHour 6 (nI 0) (nI pay) M _
      refine kc_hour (H := 999 + i) (hpy_wf hw i) (by omega) (by decide) hp hk (fun M' k' => ?_)
      rw [nI_1]
      exact ih (i + 1) M' (by omega) (by omega) k'
theorem c_pay {s : SG} {pay : Nat} {M0 M : MM} {Q : MM → Prop} (hR : RepC s M0) (hf : FrC M0 M) (hp : pay < 2 ^ 31) (q : ∀ M', KC (hpy (sB s) pay 6) M0 M' → Q M') : D4_payingFor (nI pay) M Q := by
  unfold D4_payingFor
  exact kc_becomes hR hf (fun M1 k1 => c_pay_loop (WFm hR.2.1) hp q FU 0 M1 (by decide) (by decide) k1)
theorem c_purseOf {s : SG} {pay : Nat} {M0 M : MM} {Q : Int32 → MM → Prop} (hR : RepC s M0) (hf : FrC M0 M) (hp : pay < 2 ^ 31) (q : ∀ M', FrC M0 M' → Q (nI (bP (hpy (sB s) pay 6))) M') : D4_purseOf (nI pay) M Q := by
  unfold D4_purseOf
  refine c_pay hR hf hp (fun M' k => ?_)
  rw [k.1.2.2.2.1]; exact q M' k.2
theorem c_owedOf {s : SG} {pay : Nat} {M0 M : MM} {Q : Int32 → MM → Prop} (hR : RepC s M0) (hf : FrC M0 M) (hp : pay < 2 ^ 31) (q : ∀ M', FrC M0 M' → Q (nI (bO (hpy (sB s) pay 6))) M') : D4_owedOf (nI pay) M Q := by
  unfold D4_owedOf
  refine c_pay hR hf hp (fun M' k => ?_)
  rw [k.1.2.2.2.2.1]; exact q M' k.2
theorem hpy_P {B : BV} {H pay : Nat} (hw : WF 10 H B) : bP (hpy B pay 6) < 2 ^ 31 := Nat.lt_of_le_of_lt (hpy_wf hw 6).2.2.2.2.1 (by decide)
theorem hpy_O {B : BV} {H pay : Nat} (hw : WF 10 H B) : bO (hpy B pay 6) < 2 ^ 31 := Nat.lt_of_le_of_lt (hpy_wf hw 6).2.2.2.2.2 (by decide)
theorem c_two_loop {s : SG} {a b : Nat} {M0 : MM} {Q : Int32 → MM → Prop} (hR : RepC s M0) (ha : a < 10) (hb : b < 10) (hab : a ≠ b) (q : ∀ M', FrC M0 M' → Q (twF (twP (sB s) a b) 4 0) M') :
    ∀ (n i : Nat) (M : MM), i ≤ 4 → 4 - i < n → twF (twP (sB s) a b) (4 - i) i = twF (twP (sB s) a b) 4 0 → FrC M0 M → D4_two_c64 Q n (nI a) (nI b) (nI i) M := by
  have hw := WFm hR.2.1
  intro n
  induction n with
  | zero => intro i M h1 h2; omega
  | succ n ih =>
    intro i M h1 h2 he hf
    unfold D4_two_c64
    rw [show (4 : Int32) = nI 4 from rfl, z_le (by decide) (by omega)]
    refine ⟨fun z => ?_, fun z => ?_⟩
    · have e : i = 4 := by omega
      subst e
      rw [← he] at q; exact q M hf
    · have hi : i < 4 := by omega
      obtain ⟨l1, l2⟩ := pk_all a ha b hb i hi
      obtain ⟨l2, l3⟩ := l2 hab
      have kx : pkX i < 4 := by unfold pkX; omega
      have ky : pkY i < 4 := by unfold pkY; omega
      have lx := (pk_all a ha b hb _ kx).1
      have ly := (pk_all a ha b hb _ ky).1
      rw [twF_s hi] at he
      dsimp only
      rw [pk_i ha hb hi, z_shl a (by omega), z_shl b (by omega), z_xor, z_xor, l2, l3]
      have nx : twP (sB s) a b i = false → ∀ M', FrC M0 M' → D4_two_c145 (D4_two_c64 Q n) Q (nI a) (nI b) (nI i) M' := by
        intro e M' f'
        rw [e] at he
        show D4_two_c64 Q n (nI a) (nI b) (nI i + 1) M'
        rw [nI_1]
        exact ih (i + 1) M' (by omega) (by omega) he f'
      refine c_purseOf hR hf (by omega) (fun M1 f1 => c_owedOf hR f1 (by omega) (fun M2 f2 => c_purseOf hR f2 (by omega) (fun M3 f3 => ?_)))
      rw [z_lt (hpy_P hw) (hpy_P hw)]
      refine ⟨fun c1 => nx (decide_eq_false (fun h => h.1 c1)) M3 f3, fun c1 => c_owedOf hR f3 (by omega) (fun M4 f4 => ?_)⟩
      rw [z_lt (hpy_O hw) (hpy_O hw)]
      refine ⟨fun c2 => nx (decide_eq_false (fun h => h.2 c2)) M4 f4, fun c2 => ?_⟩
      rw [if_pos (show twP (sB s) a b i = true from decide_eq_true ⟨c1, c2⟩)] at he
      rw [show (2 : Int32) = nI 2 from rfl, pk_rem (by omega) (by decide) (by decide), pk_div (by omega) (by decide) (by decide), show (10 : Int32) = nI 10 from rfl, pk_mul, nI_add, he]
      exact q M4 f4
def twoK (s : SG) (x y : Int32) : Nat := if inN x (bN (sB s)) = true ∧ inN y (bN (sB s)) = true ∧ x ≠ y then (if bS (sB s) x.toInt.toNat = true ∧ bS (sB s) y.toInt.toNat = true then 0 else 3) else 1
def twoS (s : SG) (x y : Int32) : Int32 × SG := if twoK s x y = 0 then (twF (twP (sB s) x.toInt.toNat y.toInt.toNat) 4 0, s) else outS s (twoK s x y)
theorem c_two {s : SG} {x y : Int32} {M : MM} {Q : Int32 → MM → Prop} (hR : RepC s M) (q : ∀ M', RepC (twoS s x y).2 M' → Hi M M' → Q (twoS s x y).1 M') : D4_two x y M Q := by
  unfold D4_two
  have hw := WFm hR.2.1
  have hn := hw.1
  have out : ∀ k, twoK s x y = k → (k = 1 ∨ k = 3) → D4_refused (-(nI k)) M Q := by
    intro k h hk
    refine c_out hR (by omega) ?_
    rw [show twoS s x y = outS s k from by unfold twoS; rw [h, if_neg (by omega)]] at q
    exact q
  have o1 : ¬ (inN x (bN (sB s)) = true ∧ inN y (bN (sB s)) = true ∧ x ≠ y) → D4_two_c27 Q M := fun h => out 1 (if_neg h) (Or.inl rfl)
  refine p0_knowsX hR.1.1 hn ?_
  rw [b2l_0]
  refine ⟨fun h => o1 (fun z => by rw [h] at z; cases z.1), fun h => ?_⟩
  have h := b_nf h
  refine p0_knowsX hR.1.1 hn ?_
  rw [b2l_0]
  refine ⟨fun h2 => o1 (fun z => by rw [h2] at z; cases z.2.1), fun h2 => ⟨fun hne => ?_, fun e => o1 (fun z => z.2.2 e)⟩⟩
  have h2 := b_nf h2
  have hK : twoK s x y = if bS (sB s) x.toInt.toNat = true ∧ bS (sB s) y.toInt.toNat = true then 0 else 3 := if_pos ⟨h, h2, hne⟩
  have o3 : ¬ (bS (sB s) x.toInt.toNat = true ∧ bS (sB s) y.toInt.toNat = true) → D4_two_c55 Q M := fun z => out 3 (by rw [hK, if_neg z]) (Or.inr rfl)
  obtain ⟨a, ha, hx, hxn⟩ := inN_0 h (by omega)
  obtain ⟨b, hb, hy, hyn⟩ := inN_0 h2 (by omega)
  rw [hxn, hyn] at o3 hK
  rw [hx, hy]
  refine p0_stands hR.1.2.1 (by omega) ?_
  rw [b2l_0]
  refine ⟨fun z => o3 (fun w => by rw [z] at w; cases w.1), fun z => ?_⟩
  refine p0_stands hR.1.2.1 (by omega) ?_
  rw [b2l_n0, b2l_0]
  refine ⟨fun z2 => ?_, fun z2 => o3 (fun w => by rw [z2] at w; cases w.2)⟩
  rw [show twoS s x y = (twF (twP (sB s) a b) 4 0, s) from by unfold twoS; rw [if_pos (by rw [hK, if_pos ⟨b_nf z, z2⟩]), hxn, hyn]] at q
  exact c_two_loop hR (by omega) (by omega) (fun e => hne (by rw [hx, hy, e])) (fun M' f => q M' (hR.mind f) f.hi) FU 0 M (by decide) (by decide) rfl FrC.rf
theorem FrM.up15 {M M' : MM} {v : Int32} (h : FrM M M') : FrM (up M 62 15 v) (up M' 62 15 v) := by
  obtain ⟨a, b, c, d, e, f, i, j, k, l, m⟩ := h
  exact ⟨fun p hp => by rw [up_p (by omega), up_p (by omega)]; exact a p hp, by rw [up_s, up_s], by rw [up_k (by decide), up_k (by decide)]; exact c, by rw [up_k (by decide), up_k (by decide)]; exact d, by rw [up_k (by decide), up_k (by decide)]; exact e, by rw [up_k (by decide), up_k (by decide)]; exact f, by rw [up_p (by decide), up_p (by decide)]; exact i, by rw [up_p (by decide), up_p (by decide)]; exact j, by rw [up_p (by decide), up_p (by decide)]; exact k, by rw [up_p (by decide), up_p (by decide)]; exact l, by rw [up_p (by decide), up_p (by decide)]; exact m⟩
theorem up_up {M : MM} {p k : Nat} {x y : Int32} : up (up M p k x) p k y = up M p k y := by
  funext q j
  by_cases h : q = p
  · subst h
    by_cases h2 : j = k
    · subst h2; rw [up_s, up_s]
    · rw [up_k h2, up_k h2, up_k h2]
  · rw [up_p h, up_p h, up_p h]
theorem p5_pays_loop {n H pay : Nat} {B : BV} {M0 : MM} {Q : MM → Prop} (hw : WF 10 H B) (hH : H + n < 2 ^ 20) (hn : n < 4000) (hpay : pay < 2 ^ 31) (hp : M0 62 15 = nI pay) (k : ∀ M', RM (hpy B pay n) M' → FrH M0 M' → Q M') :
    ∀ (f i : Nat) (M : MM), i ≤ n → n - i < f → RM (hpy B pay i) M → FrH M0 M → D5_goHours_c2 Q f (nI n) (nI i) M := by
  intro f
  induction f with
  | zero => intro i M h1 h2; omega
  | succ f ih =>
    intro i M h1 h2 hR hf
    unfold D5_goHours_c2
    rw [z_le (by omega) (by omega)]
    refine ⟨fun z => ?_, fun z => ?_⟩
    · have e : i = n := by omega
      subst e
      exact k M hR hf
    · show D5_hourBy (nI 0) M _
      refine p5_hourBy (pay := pay) (hpy_wf hw i) (by omega) hR (by decide) hpay (by rw [hf.2 15 (by decide) (by decide) (by decide) (by decide) (by decide)]; exact hp) (fun M' hR' hf' => ?_)
      rw [nI_1]
      exact ih (i + 1) M' (by omega) (by omega) hR' (hf.tr hf')
theorem m_two_cmp {s : SG} {a b : Nat} {M : MM} {Q : Int32 → MM → Prop} (hw : WF 10 999 (sB s)) (hd : ∀ k, k < 4 → M 82 k = nI (bP (hpy (sB s) (pkN a b k) 6)) ∧ M 83 k = nI (bO (hpy (sB s) (pkN a b k) 6))) (q : Q (twF (twP (sB s) a b) 4 0) M) :
    ∀ (n i : Nat), i ≤ 4 → 4 - i < n → twF (twP (sB s) a b) (4 - i) i = twF (twP (sB s) a b) 4 0 → D5_two_c149 Q n (nI i) M := by
  intro n
  induction n with
  | zero => intro i h1 h2; omega
  | succ n ih =>
    intro i h1 h2 he
    unfold D5_two_c149
    rw [show (4 : Int32) = nI 4 from rfl, z_le (by decide) (by omega)]
    refine ⟨fun z => ?_, fun z => ?_⟩
    · have e : i = 4 := by omega
      subst e
      rw [← he] at q; exact q
    · have hi : i < 4 := by omega
      have kx : pkX i < 4 := by unfold pkX; omega
      have ky : pkY i < 4 := by unfold pkY; omega
      rw [twF_s hi] at he
      have nx : twP (sB s) a b i = false → D5_two_c232 (D5_two_c149 Q n) Q (nI i) M := by
        intro e
        rw [e] at he
        show D5_two_c149 Q n (nI i + 1) M
        rw [nI_1]
        exact ih (i + 1) (by omega) (by omega) he
      dsimp only
      rw [show ((2 : Int32) * ((1 : Int32) - (nI i / (2 : Int32)))) + (nI i - nI i / (2 : Int32) * (2 : Int32)) = nI (pkX i) from (by decide +kernel : ∀ i, i < 4 → ((2 : Int32) * ((1 : Int32) - (nI i / (2 : Int32)))) + (nI i - nI i / (2 : Int32) * (2 : Int32)) = nI (pkX i)) i hi, show (((2 : Int32) * (nI i / (2 : Int32))) + (1 : Int32)) - (nI i - nI i / (2 : Int32) * (2 : Int32)) = nI (pkY i) from (by decide +kernel : ∀ i, i < 4 → (((2 : Int32) * (nI i / (2 : Int32))) + (1 : Int32)) - (nI i - nI i / (2 : Int32) * (2 : Int32)) = nI (pkY i)) i hi]
      have ib2 : ∀ p j, (p = 82 ∨ p = 83) → j < 4 → ib p (nI j) := by
        intro p j hp hj
        rcases hp with rfl | rfl <;> exact ibc ⟨by decide, rfl⟩ rfl hj (by decide)
      refine ⟨ib2 82 i (Or.inl rfl) hi, ib2 82 _ (Or.inl rfl) kx, ?_⟩
      rw [z_ix (show i < 2 ^ 31 by omega), z_ix (show pkX i < 2 ^ 31 by omega), z_ix (show pkY i < 2 ^ 31 by omega), (hd i hi).1, (hd i hi).2, (hd _ kx).1, (hd _ ky).2, z_lt (hpy_P hw) (hpy_P hw), z_lt (hpy_O hw) (hpy_O hw)]
      refine ⟨fun c1 => nx (decide_eq_false (fun h => h.1 c1)), fun c1 => ⟨ib2 83 i (Or.inr rfl) hi, ib2 83 _ (Or.inr rfl) ky, fun c2 => nx (decide_eq_false (fun h => h.2 c2)), fun c2 => ?_⟩⟩
      rw [if_pos (show twP (sB s) a b i = true from decide_eq_true ⟨c1, c2⟩)] at he
      unfold D5_two_c219
      rw [show (2 : Int32) = nI 2 from rfl, pk_rem (by omega) (by decide) (by decide), pk_div (by omega) (by decide) (by decide), show (10 : Int32) = nI 10 from rfl, pk_mul, nI_add, he]
      exact q
theorem m_two_loop {s : SG} {a b : Nat} {M0 : MM} {Q : Int32 → MM → Prop} (hR : RepM s M0) (ha : a < 10) (hb : b < 10) (q : ∀ M', RepM s M' → FrM M0 M' → Q (twF (twP (sB s) a b) 4 0) M') :
    ∀ (n i : Nat) (M : MM), i ≤ 4 → 4 - i < n → RM (sB s) M → RT (sB s) M 75 → FrM M0 (up M 62 15 (nI 0)) → (∀ k, k < i → M 82 k = nI (bP (hpy (sB s) (pkN a b k) 6)) ∧ M 83 k = nI (bO (hpy (sB s) (pkN a b k) 6))) → D5_two_c80 Q n (nI a) (nI b) (nI i) M := by
  have hw := WFm hR.2.1
  intro n
  induction n with
  | zero => intro i M h1 h2; omega
  | succ n ih =>
    intro i M h1 h2 r1 t1 f1 hd
    unfold D5_two_c80 D5_two_c141
    rw [show (4 : Int32) = nI 4 from rfl, z_le (by decide) (by omega)]
    refine ⟨fun z => ?_, fun z => ?_⟩
    · have e : i = 4 := by omega
      subst e
      dsimp only
      refine m_two_cmp hw (fun k hk => ?_) (q _ (hR.mind f1 (r1.slot (by decide))) f1) FU 0 (by decide) (by decide) rfl
      show up M 62 15 (nI 0) 82 k = _ ∧ up M 62 15 (nI 0) 83 k = _
      rw [up_p (by decide), up_p (by decide)]
      exact hd k hk
    · have hi : i < 4 := by omega
      have lp := (pk_all a ha b hb i hi).1
      dsimp only
      rw [pk_i ha hb hi]
      show D5_goHours (nI 6) _ _
      refine p5_pays_loop (H := 999) (pay := pkN a b i) (M0 := up M 62 15 (nI (pkN a b i))) hw (by decide) (by decide) (by omega) up_s (fun M2 r2 f2 => ⟨ibc ⟨by decide, rfl⟩ rfl hi (by decide), ibc ⟨by decide, rfl⟩ rfl hi (by decide), ?_⟩) FU 0 _ (by decide) (by decide) (r1.slot (by decide)) FrH.rf
      rw [z_ix (show i < 2 ^ 31 by omega), r2.2.1, show (up M2 82 i (nI (bP (hpy (sB s) (pkN a b i) 6)))) 62 7 = nI (bO (hpy (sB s) (pkN a b i) 6)) from by rw [up_p (by decide)]; exact r2.2.2.1]
      have t3 : RT (sB s) (up (up M2 82 i (nI (bP (hpy (sB s) (pkN a b i) 6)))) 83 i (nI (bO (hpy (sB s) (pkN a b i) 6)))) 75 := t1.cong (by rw [up_p (by decide), up_p (by decide), f2.1 75 (by decide) (by decide) (by decide) (by decide) (by decide), up_p (by decide)])
      refine p5_again hR.2.1 t3 (fun M4 r4 t4 f4 => ?_)
      rw [nI_1]
      refine ih (i + 1) M4 (by omega) (by omega) r4 t4 ?_ (fun k hk => ?_)
      · have g1 : FrM (up M 62 15 (nI 0)) (up M2 62 15 (nI 0)) := by
          have := f2.M.up15 (v := nI 0)
          rw [up_up] at this
          exact this
        have g2 : FrM M2 (up (up M2 82 i (nI (bP (hpy (sB s) (pkN a b i) 6)))) 83 i (nI (bO (hpy (sB s) (pkN a b i) 6)))) := ⟨fun p hp => by rw [up_p (by omega), up_p (by omega)], by rw [up_p (by decide), up_p (by decide)], by rw [up_p (by decide), up_p (by decide)], by rw [up_p (by decide), up_p (by decide)], by rw [up_p (by decide), up_p (by decide)], by rw [up_p (by decide), up_p (by decide)], by rw [up_p (by decide), up_p (by decide)], by rw [up_p (by decide), up_p (by decide)], by rw [up_p (by decide), up_p (by decide)], by rw [up_p (by decide), up_p (by decide)], by rw [up_p (by decide), up_p (by decide)]⟩
        exact (f1.tr g1).tr ((g2.tr (FrT75.M f4)).up15)
      · rw [f4 82 k (by decide) (fun e => by omega) (by decide), f4 83 k (by decide) (fun e => by omega) (by decide)]
        by_cases y : k = i
        · rw [y]
          refine ⟨?_, up_s⟩
          rw [up_p (by decide), up_s]
        · rw [up_p (by decide), up_k y, up_k y, up_p (by decide), f2.1 82 (by decide) (by decide) (by decide) (by decide) (by decide), f2.1 83 (by decide) (by decide) (by decide) (by decide) (by decide), up_p (by decide), up_p (by decide)]
          exact hd k (by omega)
theorem m_two {s : SG} {x y : Int32} {M : MM} {Q : Int32 → MM → Prop} (hR : RepM s M) (q : ∀ M', RepM (twoS s x y).2 M' → Lo M M' → Q (twoS s x y).1 M') : D5_two x y M Q := by
  unfold D5_two
  have hR1 := hR.thrown (x := 0)
  have hL : Lo M (up M 62 9 0) := fun p hp => up_p (by omega)
  generalize up M 62 9 0 = M1 at hR1 hL
  have hw := WFm hR1.2.1
  have hn := hw.1
  have out : ∀ k, twoK s x y = k → (k = 1 ∨ k = 3) → D5_two_c62 Q x y (-(nI k)) M1 := by
    intro k h hk
    refine ⟨fun z => absurd z (by rcases hk with rfl | rfl <;> decide), fun _ => m_out hR1 (by omega) (fun M' a b => ?_)⟩
    rw [show twoS s x y = outS s k from by unfold twoS; rw [h, if_neg (by omega)]] at q
    exact q M' a (hL.tr b)
  have o1 : ¬ (inN x (bN (sB s)) = true ∧ inN y (bN (sB s)) = true ∧ x ≠ y) → D5_two_c30 Q x y M1 := fun h => ⟨fun _ => out 1 (if_neg h) (Or.inl rfl), fun z => absurd z (by decide)⟩
  refine p5_isWork hR1.1.1 hn ?_
  rw [b2l_0]
  refine ⟨fun h => o1 (fun z => by rw [h] at z; cases z.1), fun h => ?_⟩
  have h := b_nf h
  refine p5_isWork hR1.1.1 hn ?_
  rw [b2l_0]
  refine ⟨fun h2 => o1 (fun z => by rw [h2] at z; cases z.2.1), fun h2 => ⟨fun e => o1 (fun z => z.2.2 e), fun hne => ?_⟩⟩
  have h2 := b_nf h2
  have hK : twoK s x y = if bS (sB s) x.toInt.toNat = true ∧ bS (sB s) y.toInt.toNat = true then 0 else 3 := if_pos ⟨h, h2, hne⟩
  have o3 : ¬ (bS (sB s) x.toInt.toNat = true ∧ bS (sB s) y.toInt.toNat = true) → D5_two_c56 Q x y M1 := fun z => out 3 (by rw [hK, if_neg z]) (Or.inr rfl)
  obtain ⟨a, ha, hx, hxn⟩ := inN_0 h (by omega)
  obtain ⟨b, hb, hy, hyn⟩ := inN_0 h2 (by omega)
  rw [hxn, hyn] at o3 hK
  have gone : ∀ c : Bool, (nI (!c).toNat = (1 : Int32)) = (c = false) := by intro c; cases c <;> decide
  rw [hx, hy] at o3 ⊢
  unfold D5_two_c31 D5_two_c61
  rw [z_ix (show a < 2 ^ 31 by omega), z_ix (show b < 2 ^ 31 by omega), (hR1.1.2.2.2.2 a ha).2.2.2.2, (hR1.1.2.2.2.2 b hb).2.2.2.2]
  simp only [ne_eq, gone]
  refine ⟨fun z => absurd trivial z, fun _ => ⟨ibc ⟨by decide, rfl⟩ rfl (show a < 10 by omega) (by decide), fun z => o3 (fun w => by rw [z] at w; cases w.1), fun z => ⟨ibc ⟨by decide, rfl⟩ rfl (show b < 10 by omega) (by decide), fun z2 => ?_, fun z2 => o3 (fun w => by rw [z2] at w; cases w.2)⟩⟩⟩
  rw [show twoS s x y = (twF (twP (sB s) a b) 4 0, s) from by unfold twoS; rw [if_pos (by rw [hK, if_pos ⟨b_nf z, b_nf z2⟩]), hxn, hyn]] at q
  refine ⟨fun _ => ?_, fun z => absurd (by decide) z⟩
  refine km_think hR1 FrM.rf (fun M2 k2 => ?_)
  refine m_two_loop hR1 (by omega) (by omega) (fun M' r f => q M' r (hL.tr f.1)) FU 0 M2 (by decide) (by decide) k2.1 k2.2.1 ?_ (fun k h => by omega)
  rw [show up M2 62 15 (nI 0) = M2 from by rw [← k2.2.2.2]; exact up_id]
  exact k2.2.2.1
