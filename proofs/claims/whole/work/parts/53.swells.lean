/-! PURE PART: fractions; mean; swells -/
theorem lgc_e (x y : Int64) : (lg_cmp x y = 0) = (x = y) := by
  unfold lg_cmp
  by_cases h1 : y < x
  · rw [if_pos h1]
    refine propext ⟨fun z => absurd z (by decide), fun z => ?_⟩
    rw [z] at h1
    exact absurd h1 (Int64.lt_irrefl)
  · rw [if_neg h1]
    by_cases h2 : x = y
    · rw [if_pos h2]; exact propext ⟨fun _ => h2, fun _ => rfl⟩
    · rw [if_neg h2]; exact propext ⟨fun z => absurd z (by decide), fun z => absurd z h2⟩
theorem l_0 {a : Nat} (ha : a < 2 ^ 63) : (lN a = (0 : Int64)) = (a = 0) := propext (pk_lEQ ha (by decide))
def frc (a b : Nat) (y : Int32) : Int64 := if a = 0 then y.toInt64 else if y = 0 then lN (a / Nat.gcd a b) else lN (b / Nat.gcd a b)
theorem gcd_st (a b : Nat) : Nat.gcd a b = Nat.gcd b (a % b) := by rw [Nat.gcd_comm a b, Nat.gcd_rec b a, Nat.gcd_comm]
theorem mod_half {b r : Nat} (h0 : 0 < r) (h : r < b) : 2 * (b % r) < b := by
  have h1 := Nat.mod_lt b h0
  have h2 := Nat.div_add_mod b r
  have h3 : 1 ≤ b / r := (Nat.le_div_iff_mul_le h0).mpr (by omega)
  have h4 : r * 1 ≤ r * (b / r) := Nat.mul_le_mul_left r h3
  omega
theorem c_gcd {Q : Int64 → MM → Prop} {x0 x2 : Int64} {x4 : Int32} {M : MM} {g : Nat} (q : D4_fraction_c55 Q x0 x2 x4 (lN g) M) :
    ∀ (k n a b i : Nat), b < 2 ^ k → a < 2 ^ 63 → b < 2 ^ 63 → i + 2 * k < 200 → 2 * k + 1 ≤ n → Nat.gcd a b = g → D4_fraction_c19 Q n x0 x2 x4 (lN a) (lN b) (nI i) M := by
  have stop : ∀ (n a i : Nat), i < 200 → 1 ≤ n → Nat.gcd a 0 = g → D4_fraction_c19 Q n x0 x2 x4 (lN a) (lN 0) (nI i) M := by
    intro n a i hi hn hg
    obtain ⟨m, rfl⟩ : ∃ m, n = m + 1 := ⟨n - 1, by omega⟩
    rw [Nat.gcd_zero_right] at hg
    rw [← hg] at q
    unfold D4_fraction_c19
    exact ⟨fun _ => q, fun _ => ⟨fun _ => q, fun z => absurd (by rw [lgc_e]; rfl) z⟩⟩
  have step : ∀ (n a b i : Nat), 0 < b → a < 2 ^ 63 → b < 2 ^ 63 → i < 200 → D4_fraction_c19 Q n x0 x2 x4 (lN b) (lN (a % b)) (nI (i + 1)) M → D4_fraction_c19 Q (n + 1) x0 x2 x4 (lN a) (lN b) (nI i) M := by
    intro n a b i h0 ha hb hi h
    unfold D4_fraction_c19
    rw [lgc_e, l_0 hb, show (200 : Int32) = nI 200 from rfl, z_le (by decide) (by omega)]
    refine ⟨fun z => by omega, fun _ => ⟨fun z => by omega, fun z => ⟨z, ?_⟩⟩⟩
    dsimp only
    rw [pk_lRem ha h0 hb, nI_1]
    exact h
  intro k
  induction k with
  | zero =>
    intro n a b i hb ha hb2 hi hn hg
    have e : b = 0 := by simpa using hb
    subst e
    exact stop n a i (by omega) (by omega) hg
  | succ k ih =>
    intro n a b i hb ha hb2 hi hn hg
    rcases Nat.eq_zero_or_pos b with e | h0
    · subst e
      exact stop n a i (by omega) (by omega) hg
    · obtain ⟨m, rfl⟩ : ∃ m, n = m + 2 := ⟨n - 2, by omega⟩
      have hr := Nat.mod_lt a h0
      rw [gcd_st] at hg
      refine step (m + 1) a b i h0 ha hb2 (by omega) ?_
      rcases Nat.eq_zero_or_pos (a % b) with e | h1
      · rw [e] at hg ⊢
        exact stop (m + 1) b (i + 1) (by omega) (by omega) hg
      · rw [gcd_st] at hg
        have hm := mod_half h1 hr
        have hr2 := Nat.mod_lt b h1
        rw [Nat.pow_succ] at hb
        exact step m b (a % b) (i + 1) h1 hb2 (by omega) (by omega) (ih m (a % b) (b % (a % b)) (i + 2) (by omega) (by omega) (by omega) (by omega) (by omega) hg)
theorem m_gcd {Q : Int64 → MM → Prop} {M : MM} {g : Nat} (q : Q (lN g) M) :
    ∀ (k n a b : Nat), b < 2 ^ k → a < 2 ^ 63 → b < 2 ^ 63 → 2 * k + 1 ≤ n → Nat.gcd a b = g → D5_divisor_c6 Q n (lN a) (lN b) M := by
  have stop : ∀ (n a : Nat), 1 ≤ n → Nat.gcd a 0 = g → D5_divisor_c6 Q n (lN a) (lN 0) M := by
    intro n a hn hg
    obtain ⟨m, rfl⟩ : ∃ m, n = m + 1 := ⟨n - 1, by omega⟩
    rw [Nat.gcd_zero_right] at hg
    rw [← hg] at q
    unfold D5_divisor_c6
    exact ⟨fun _ => q, fun z => absurd (by rw [lgc_e]; rfl) z⟩
  have step : ∀ (n a b : Nat), 0 < b → a < 2 ^ 63 → b < 2 ^ 63 → D5_divisor_c6 Q n (lN b) (lN (a % b)) M → D5_divisor_c6 Q (n + 1) (lN a) (lN b) M := by
    intro n a b h0 ha hb h
    unfold D5_divisor_c6
    rw [lgc_e, l_0 hb]
    refine ⟨fun z => by omega, fun z => ⟨z, ?_⟩⟩
    dsimp only
    rw [pk_lRem ha h0 hb]
    exact h
  intro k
  induction k with
  | zero =>
    intro n a b hb ha hb2 hn hg
    have e : b = 0 := by simpa using hb
    subst e
    exact stop n a (by omega) hg
  | succ k ih =>
    intro n a b hb ha hb2 hn hg
    rcases Nat.eq_zero_or_pos b with e | h0
    · subst e
      exact stop n a (by omega) hg
    · obtain ⟨m, rfl⟩ : ∃ m, n = m + 2 := ⟨n - 2, by omega⟩
      have hr := Nat.mod_lt a h0
      rw [gcd_st] at hg
      refine step (m + 1) a b h0 ha hb2 ?_
      rcases Nat.eq_zero_or_pos (a % b) with e | h1
      · rw [e] at hg ⊢
        exact stop (m + 1) b (by omega) hg
      · rw [gcd_st] at hg
        have hm := mod_half h1 hr
        have hr2 := Nat.mod_lt b h1
        rw [Nat.pow_succ] at hb
        exact step m b (a % b) h1 hb2 (by omega) (ih m (a % b) (b % (a % b)) (by omega) (by omega) (by omega) (by omega) hg)
theorem gcd_lt {a b : Nat} (h0 : 0 < a) : 0 < Nat.gcd a b ∧ Nat.gcd a b ≤ a := ⟨Nat.gcd_pos_of_pos_left b h0, Nat.gcd_le_left b h0⟩
theorem p4_fraction {a b : Nat} {y : Int32} {M : MM} {Q : Int64 → MM → Prop} (ha : a < 2 ^ 62) (hb : b < 2 ^ 31) (q : Q (frc a b y) M) : D4_fraction (lN a) (lN b) y M Q := by
  unfold D4_fraction
  unfold frc at q
  have h0 : (lg_cmp (lN a) 0 = 0) = (a = 0) := by rw [lgc_e, l_0 (by omega)]
  simp only [ne_eq, h0]
  refine ⟨fun z => ?_, fun z => ?_⟩
  · rw [if_neg z] at q
    obtain ⟨g1, g2⟩ := gcd_lt (b := b) (show 0 < a by omega)
    refine c_gcd (g := Nat.gcd a b) ?_ 31 FU a b 0 hb (by omega) (by omega) (by decide) (by decide) rfl
    unfold D4_fraction_c55
    rw [pk_lDiv (by omega) g1 (by omega), pk_lDiv (by omega) g1 (by omega)]
    have hne : ¬ lN (Nat.gcd a b) = 0 := by rw [l_0 (by omega)]; omega
    refine ⟨fun _ => ⟨fun y0 => ⟨hne, ?_⟩, fun y0 => ⟨hne, ?_⟩⟩, fun z2 => absurd (by rw [lgc_e] at z2; exact z2) hne⟩
    · rw [if_neg y0] at q; exact q
    · rw [if_pos y0] at q; exact q
  · rw [if_pos z] at q; exact q
theorem p5_partOf {a b : Nat} {y : Int32} {M : MM} {Q : Int64 → MM → Prop} (ha : a < 2 ^ 62) (hb : b < 2 ^ 31) (q : Q (frc a b y) M) : D5_partOf (lN a) (lN b) y M Q := by
  unfold D5_partOf D5_divisor
  unfold frc at q
  have h0 : (lg_cmp (lN a) 0 = 0) = (a = 0) := by rw [lgc_e, l_0 (by omega)]
  simp only [ne_eq, h0]
  refine ⟨fun z => ?_, fun z => ?_⟩
  · rw [if_neg z] at q
    obtain ⟨g1, g2⟩ := gcd_lt (b := b) (show 0 < a by omega)
    refine m_gcd (g := Nat.gcd a b) ?_ 31 FU a b hb (by omega) (by omega) (by decide) rfl
    have hne : ¬ lN (Nat.gcd a b) = 0 := by rw [l_0 (by omega)]; omega
    rw [pk_lDiv (by omega) g1 (by omega), pk_lDiv (by omega) g1 (by omega)]
    refine ⟨fun y0 => ⟨hne, ?_⟩, fun y0 => ⟨hne, ?_⟩⟩
    · rw [if_neg y0] at q; exact q
    · rw [if_pos y0] at q; exact q
  · rw [if_pos z] at q; exact q
/-- MEAN RATE -/
def meanS (s : SG) (y : Int32) : Int64 × SG := if inN y 2 = true then (frc (rtN (sB s) 10) (pcf 25 (mk (bS (sB s)) 10)) y, s) else (4000000000000000000 - (-(nI 2)).toInt64, refu s 2)
theorem c_mean {s : SG} {y : Int32} {M : MM} {Q : Int64 → MM → Prop} (hR : RepC s M) (q : ∀ M', RepC (meanS s y).2 M' → Hi M M' → Q (meanS s y).1 M') : D4_mean y M Q := by
  unfold D4_mean D4_mean_c9 D4_refusedLong
  have hw := WFm hR.2.1
  have r1 := rtN_le hw 10
  have r2 := pcf_le 25 (mk (bS (sB s)) 10)
  refine what_cases (n := 1) (by decide) (fun h => ?_) (fun h => ?_)
  · rw [show meanS s y = (frc (rtN (sB s) 10) (pcf 25 (mk (bS (sB s)) 10)) y, s) from if_pos h] at q
    refine c_rates isB1 hw hR.1 (p0_standingWorks hR.1 ?_)
    rw [nI_l (by omega), nI_l (by omega)]
    exact p4_fraction (by omega) (by omega) (q M hR Hi.rf)
  · rw [show meanS s y = (4000000000000000000 - (-(nI 2)).toInt64, refu s 2) from by unfold meanS; rw [h]; rfl] at q
    exact p4_refused (x := -(nI 2)) neg_nn (by decide) hR q
theorem m_mean {s : SG} {y : Int32} {M : MM} {Q : Int64 → MM → Prop} (hR : RepM s M) (q : ∀ M', RepM (meanS s y).2 M' → Lo M M' → Q (meanS s y).1 M') : D5_mean y M Q := by
  unfold D5_mean
  have hR1 := hR.thrown (x := 0)
  have hL : Lo M (up M 62 9 0) := fun p hp => up_p (by omega)
  generalize up M 62 9 0 = M1 at hR1 hL
  have hw := WFm hR1.2.1
  have r1 := rtN_le hw 10
  have r2 := pcf_le 25 (mk (bS (sB s)) 10)
  refine p5_standing hw hR1.1 (p5_onesOf (Nat.lt_trans (mk_lt _ 10) (by decide)) ?_)
  refine p5_inL (a := 0) (n := 1) (by decide) (by decide) ?_
  rw [b2l_0]
  refine ⟨fun h => ?_, fun h => ?_⟩
  · rw [show meanS s y = (4000000000000000000 - (-(nI 2)).toInt64, refu s 2) from by unfold meanS; rw [h]; rfl] at q
    exact p5_refuse (x := -(nI 2)) neg_nn (by decide) hR1 (fun M' a b => q M' a (hL.tr b))
  · rw [show meanS s y = (frc (rtN (sB s) 10) (pcf 25 (mk (bS (sB s)) 10)) y, s) from if_pos (b_nf h)] at q
    refine p5_standing hw hR1.1 (m_rates hw hR1.1 ?_)
    rw [nI_l (by omega), nI_l (by omega)]
    exact p5_partOf (by omega) (by omega) (q M1 hR1 hL)
/-- SWELLS -/
def b1 (m k : Nat) : Nat := if m.testBit k = true then 1 else 0
theorem b1_lt (m k : Nat) : b1 m k < 2 := by unfold b1; split <;> decide
def swH (B : BV) (m : Nat) : Nat → BV
  | 0 => B
  | k + 1 => hourB (swH B m k) (b1 m k) 0
theorem swH_wf {n H m : Nat} {B : BV} (h : WF n H B) : ∀ k, WF n (H + k) (swH B m k) ∧ bN (swH B m k) = bN B
  | 0 => ⟨h, rfl⟩
  | k + 1 => ⟨hourB_wf _ 0 (swH_wf h k).1, (swH_wf (m := m) h k).2⟩
def zsN (m : Nat) : Nat → Nat
  | 0 => 0
  | k + 1 => zsN m k + (1 - b1 m k)
theorem zs_all : ∀ n, n < 8 → ∀ m, m < 128 → m < 2 ^ n → zsN m n = n - pcf 25 m ∧ pcf 25 m ≤ n := by decide +kernel
theorem zsN_le (m : Nat) : ∀ k, zsN m k ≤ k
  | 0 => Nat.le_refl 0
  | k + 1 => by
    have := zsN_le m k
    show zsN m k + (1 - b1 m k) ≤ k + 1
    omega
def swA (B : BV) (w t n : Nat) : Nat → Nat
  | 0 => 0
  | m + 1 => if bS (swH B m n) w = true then swA B w t n m + (t - 1) ^ zsN m n else swA B w t n m
theorem pow_20 {t e : Nat} (ht : t ≤ 20) (he : e ≤ 7) : t ^ e ≤ 1280000000 := Nat.le_trans (Nat.pow_le_pow_left ht e) (Nat.le_trans (Nat.pow_le_pow_right (by decide) he) (by decide))
theorem swA_le {B : BV} {w t n : Nat} (ht : t ≤ 20) (hn : n ≤ 7) : ∀ m, swA B w t n m ≤ 1280000000 * m
  | 0 => Nat.le_refl 0
  | m + 1 => by
    have ih := swA_le (B := B) (w := w) ht hn m
    have z := zsN_le m n
    have p := pow_20 (t := t - 1) (e := zsN m n) (by omega) (by omega)
    show (if bS (swH B m n) w = true then swA B w t n m + (t - 1) ^ zsN m n else swA B w t n m) ≤ _
    split <;> omega
theorem p4_power {b e : Nat} {M : MM} {Q : Int64 → MM → Prop} (hb : b < 2 ^ 31) (he : e ≤ 7) (q : Q (lN (b ^ e)) M) : D4_power (nI b) (nI e) M Q := by
  have loop : ∀ (n i : Nat), i ≤ e → e - i < n → D4_power_c5 Q n (nI b) (nI e) (lN (b ^ i)) (nI i) M := by
    intro n
    induction n with
    | zero => intro i h1 h2; omega
    | succ n ih =>
      intro i h1 h2
      unfold D4_power_c5
      rw [z_le (by omega) (by omega), show (7 : Int32) = nI 7 from rfl, z_lt (by decide) (by omega)]
      refine ⟨fun z => ?_, fun z => ⟨fun z2 => by omega, fun _ => ?_⟩⟩
      · rw [show i = e by omega]; exact q
      · dsimp only
        rw [nI_l hb, lN_mul, nI_1, ← Nat.pow_succ]
        exact ih (i + 1) (by omega) (by omega)
  exact loop FU 0 (Nat.zero_le _) (Nat.lt_of_le_of_lt (Nat.le_trans (Nat.sub_le _ _) he) (by decide))
theorem c_sw_in {s : SG} {w n t m : Nat} {y : Int32} {x5 : Int64} {M0 : MM} {K76 : Int32 → Int32 → Int32 → Int32 → Int64 → Int32 → MM → Prop} {Q : Int64 → MM → Prop} (hw : WF 10 999 (sB s)) (hj : w < bN (sB s)) (hn : n ≤ 7) (hm : m < 2 ^ n) (ht1 : 2 ≤ t) (ht : t ≤ 20) (k : ∀ M', FrC M0 M' → K76 (nI w) (nI n) (nI t) y (if bS (swH (sB s) m n) w = true then x5 + lN ((t - 1) ^ zsN m n) else x5) (nI (m + 1)) M') :
    ∀ (f i : Nat) (M : MM), i ≤ n → n - i < f → KC (swH (sB s) m i) M0 M → D4_swells_c98 K76 Q f (nI w) (nI n) (nI t) y x5 (nI m) (nI i) M := by
  have h27 : 2 ^ n ≤ 2 ^ 7 := Nat.pow_le_pow_right (by decide) hn
  have hwn := hw.1
  intro f
  induction f with
  | zero => intro i M h1 h2; omega
  | succ f ih =>
    intro i M h1 h2 hk
    obtain ⟨hwi, hNi⟩ := swH_wf (m := m) hw i
    unfold D4_swells_c98
    rw [z_le (by omega) (by omega)]
    refine ⟨fun z => ?_, fun z => ?_⟩
    · have e : i = n := by omega
      subst e
      have k := k M hk.2
      have nx : ∀ v, (if bS (swH (sB s) m i) w = true then x5 + lN ((t - 1) ^ zsN m i) else x5) = v → D4_swells_c154 K76 Q (nI w) (nI i) (nI t) y v (nI m) M := by
        intro v hv
        show K76 (nI w) (nI i) (nI t) y v (nI m + 1) M
        rw [nI_1, ← hv]; exact k
      obtain ⟨z1, z2⟩ := zs_all i (by omega) m (by omega) hm
      unfold D4_swells_c125
      refine p0_stands hk.1.2.1 (by omega) ?_
      rw [b2l_0]
      refine ⟨fun e => nx _ (by rw [e]; rfl), fun e => ?_⟩
      have e := b_nf e
      refine pJ_bitCount (by omega) ?_
      rw [show nI t - 1 = nI (t - 1) from pk_sub (a := t) (b := 1) (by omega), pk_sub z2]
      refine p4_power (by omega) (by omega) ?_
      dsimp only
      exact nx _ (by rw [if_pos e, z1])
    · have es : (nI m >>> (nI i &&& 31)) &&& 1 = nI (b1 m i) := by
        rw [z_tb (by omega) i (by omega)]
        unfold b1
        split <;> rfl
      rw [es]
      show D0_anHour 6 (nI (b1 m i)) (nI 0) M _
      refine kc_hour (H := 999 + i) hwi (by omega) (b1_lt m i) (by decide) hk (fun M' k' => ?_)
      rw [nI_1]
      exact ih (i + 1) M' (by omega) (by omega) k'
theorem c_sw_out {s : SG} {w n t : Nat} {y : Int32} {M0 : MM} {Q : Int64 → MM → Prop} (hR : RepC s M0) (hj : w < bN (sB s)) (hn : n ≤ 7) (ht1 : 2 ≤ t) (ht : t ≤ 20) (q : ∀ M', FrC M0 M' → Q (frc (swA (sB s) w t n (2 ^ n)) (t ^ n) y) M') :
    ∀ (f m : Nat) (M : MM), m ≤ 2 ^ n → 2 ^ n - m < f → FrC M0 M → D4_swells_c76 Q f (nI w) (nI n) (nI t) y (lN (swA (sB s) w t n m)) (nI m) M := by
  have h27 : 2 ^ n ≤ 2 ^ 7 := Nat.pow_le_pow_right (by decide) hn
  intro f
  induction f with
  | zero => intro m M h1 h2; omega
  | succ f ih =>
    intro m M h1 h2 hf
    unfold D4_swells_c76
    rw [z_shl n (by omega), z_le (by omega) (by omega)]
    refine ⟨fun z => ?_, fun z => ?_⟩
    · have e : m = 2 ^ n := by omega
      unfold D4_swells_c160
      refine p4_power (by omega) hn ?_
      have l1 := swA_le (B := sB s) (w := w) (n := n) ht hn m
      have l2 := pow_20 (t := t) (e := n) ht hn
      refine p4_fraction (by omega) (by omega) ?_
      rw [e]; exact q M hf
    · refine kc_becomes hR hf (fun M1 k1 => ?_)
      refine c_sw_in (WFm hR.2.1) hj hn (show m < 2 ^ n by omega) ht1 ht (fun M' f' => ?_) FU 0 M1 (Nat.zero_le _) (Nat.lt_of_le_of_lt (Nat.le_trans (Nat.sub_le _ _) hn) (by decide)) k1
      have ih := ih (m + 1) M' (by omega) (by omega) f'
      rw [lN_add]
      rw [show swA (sB s) w t n (m + 1) = if bS (swH (sB s) m n) w = true then swA (sB s) w t n m + (t - 1) ^ zsN m n else swA (sB s) w t n m from rfl] at ih
      split
      · rename_i h; rw [if_pos h] at ih; exact ih
      · rename_i h; rw [if_neg h] at ih; exact ih
def swK (s : SG) (x1 x2 x3 x4 : Int32) : Nat := if inN x1 (bN (sB s)) = true then (if x2.toInt < 0 ∨ x3.toInt < 2 then 4 else if 7 < x2.toInt ∨ 20 < x3.toInt then 6 else if inN x4 2 = true then 0 else 2) else 1
def swellsS (s : SG) (x1 x2 x3 x4 : Int32) : Int64 × SG := if swK s x1 x2 x3 x4 = 0 then (frc (swA (sB s) x1.toInt.toNat x3.toInt.toNat x2.toInt.toNat (2 ^ x2.toInt.toNat)) (x3.toInt.toNat ^ x2.toInt.toNat) x4, s) else (4000000000000000000 - (-(nI (swK s x1 x2 x3 x4))).toInt64, refu s (swK s x1 x2 x3 x4))
theorem c_swells {s : SG} {x1 x2 x3 x4 : Int32} {M : MM} {Q : Int64 → MM → Prop} (hR : RepC s M) (q : ∀ M', RepC (swellsS s x1 x2 x3 x4).2 M' → Hi M M' → Q (swellsS s x1 x2 x3 x4).1 M') : D4_swells x1 x2 x3 x4 M Q := by
  unfold D4_swells D4_swells_c26 D4_swells_c45 D4_swells_c63 D4_refusedLong
  have hw := WFm hR.2.1
  have out : ∀ k, swK s x1 x2 x3 x4 = k → (k = 1 ∨ k = 2 ∨ k = 4 ∨ k = 6) → D4_refused (-(nI k)) M (fun r M' => Q (4000000000000000000 - r.toInt64) M') := by
    intro k h hk
    rw [show swellsS s x1 x2 x3 x4 = (4000000000000000000 - (-(nI k)).toInt64, refu s k) from by unfold swellsS; rw [h, if_neg (by omega)]] at q
    exact p4_refused neg_nn (by omega) hR q
  have e0 : (0 : Int32).toInt = 0 := by decide
  have e2 : (2 : Int32).toInt = 2 := by decide
  have e7 : (7 : Int32).toInt = 7 := by decide
  have e20 : (20 : Int32).toInt = 20 := by decide
  refine p0_knowsX hR.1.1 hw.1 ?_
  rw [b2l_n0, b2l_0]
  refine ⟨fun h => ?_, fun h => out 1 (by unfold swK; rw [h]; rfl) (Or.inl rfl)⟩
  have hK : swK s x1 x2 x3 x4 = if x2.toInt < 0 ∨ x3.toInt < 2 then 4 else if 7 < x2.toInt ∨ 20 < x3.toInt then 6 else if inN x4 2 = true then 0 else 2 := if_pos h
  rw [i_lt, i_le, i_lt, i_le, e0, e2, e7, e20]
  have o4 : x2.toInt < 0 ∨ x3.toInt < 2 → D4_refused (-(nI 4)) M (fun r M' => Q (4000000000000000000 - r.toInt64) M') := fun z => out 4 (by rw [hK, if_pos z]) (by omega)
  have o6 : ¬ (x2.toInt < 0 ∨ x3.toInt < 2) → (7 < x2.toInt ∨ 20 < x3.toInt) → D4_refused (-(nI 6)) M (fun r M' => Q (4000000000000000000 - r.toInt64) M') := fun z z2 => out 6 (by rw [hK, if_neg z, if_pos z2]) (by omega)
  refine ⟨fun z => o4 (Or.inl z), fun z => ⟨fun z2 => ⟨fun z3 => o6 (by omega) (by omega), fun z3 => ⟨fun z4 => ?_, fun z4 => o6 (by omega) (by omega)⟩⟩, fun z2 => o4 (by omega)⟩⟩
  have hK2 : swK s x1 x2 x3 x4 = if inN x4 2 = true then 0 else 2 := by rw [hK, if_neg (by omega), if_neg (by omega)]
  refine what_cases (n := 1) (by decide) (fun h4 => ?_) (fun h4 => out 2 (by rw [hK2, h4]; rfl) (by omega))
  obtain ⟨w, hwj, hx1, hx1n⟩ := inN_0 h (Nat.le_trans hw.1 (by decide))
  obtain ⟨n, hn, hx2, hx2n⟩ := inN_0 (x := x2) (n := 8) (inN_t (by omega)) (by decide)
  obtain ⟨t, ht, hx3, hx3n⟩ := inN_0 (x := x3) (n := 21) (inN_t (by omega)) (by decide)
  have h27 : 2 ^ n ≤ 2 ^ 7 := Nat.pow_le_pow_right (by decide) (show n ≤ 7 by omega)
  rw [show swellsS s x1 x2 x3 x4 = (frc (swA (sB s) w t n (2 ^ n)) (t ^ n) x4, s) from by unfold swellsS; rw [if_pos (by rw [hK2, if_pos h4]), hx1n, hx2n, hx3n]] at q
  rw [hx1, hx2, hx3]
  exact c_sw_out hR hwj (by omega) (by omega) (by omega) (fun M' f => q M' (hR.mind f) f.hi) FU 0 M (Nat.zero_le _) (Nat.lt_of_le_of_lt (Nat.le_trans (Nat.sub_le _ _) h27) (by decide)) FrC.rf
theorem m_sw_in {s : SG} {w n t m : Nat} {y : Int32} {x6 x8 : Int64} {M0 : MM} {K116 : Int32 → Int32 → Int32 → Int32 → Int64 → Int64 → Int32 → MM → Prop} {Q : Int64 → MM → Prop} (hs : WF 8 999 (sB s)) (hj : w < bN (sB s)) (hn : n ≤ 7) (hm : m < 2 ^ n) (ht1 : 2 ≤ t) (ht : t ≤ 20) (k : ∀ M', KM s (sB s) M0 M' → K116 (nI w) (nI n) (nI t) y (if bS (swH (sB s) m n) w = true then x6 + lN ((t - 1) ^ zsN m n) else x6 + lN 0) x8 (nI (m + 1)) M') :
    ∀ (f i : Nat) (M : MM), i ≤ n → n - i < f → KM s (swH (sB s) m i) M0 M → D5_swells_c130 K116 Q f (nI w) (nI n) (nI t) y x6 x8 (nI m) (lN ((t - 1) ^ zsN m i)) (nI i) M := by
  have h27 : 2 ^ n ≤ 2 ^ 7 := Nat.pow_le_pow_right (by decide) hn
  have hw := WFm hs
  have hwn := hw.1
  intro f
  induction f with
  | zero => intro i M h1 h2; omega
  | succ f ih =>
    intro i M h1 h2 hk
    obtain ⟨hwi, hNi⟩ := swH_wf (m := m) hw i
    unfold D5_swells_c130
    rw [z_le (by omega) (by omega)]
    refine ⟨fun z => ?_, fun z => ?_⟩
    · have e : i = n := by omega
      subst e
      have m5 := (hk.1.2.2.2.2 w (by rw [hNi]; exact hj)).2.2.2.2
      unfold D5_swells_c184 D5_swells_c201
      refine ⟨ib5 hw hj (by decide) (by decide), ?_⟩
      rw [z_ix (show w < 2 ^ 31 by omega), m5, gn_n0, gn_e0, nI_1]
      refine ⟨fun e => km_again hs hk (fun M' k' => ?_), fun e => km_again hs hk (fun M' k' => ?_)⟩
      · have k := k M' k'
        rw [if_neg (by rw [e]; decide)] at k
        exact k
      · have k := k M' k'
        rw [if_pos e] at k
        exact k
    · have nx : ∀ (v : Int64), lN ((t - 1) ^ zsN m i) * v = lN ((t - 1) ^ zsN m (i + 1)) → D5_swells_c156 (D5_swells_c130 K116 Q f) K116 Q (nI w) (nI n) (nI t) y x6 x8 (nI m) (nI i) v (lN ((t - 1) ^ zsN m i)) M := by
        intro v hv
        unfold D5_swells_c156
        dsimp only
        rw [hv]
        refine p5_hasBit (by omega) (by omega) ?_
        rw [b2l_0]
        have go : ∀ sw, b1 m i = sw → D5_swells_c175 (D5_swells_c130 K116 Q f) K116 Q (nI w) (nI n) (nI t) y x6 x8 (nI m) (lN ((t - 1) ^ zsN m (i + 1))) (nI i) (nI sw) M := by
          intro sw hsw
          rw [← hsw]
          unfold D5_swells_c175
          refine km_hour (H := 999 + i) hwi (by omega) (b1_lt m i) hk (fun M' k' => ?_)
          rw [nI_1]
          exact ih (i + 1) M' (by omega) (by omega) k'
        exact ⟨fun e => go 0 (by unfold b1; rw [e]; rfl), fun e => go 1 (by unfold b1; rw [b_nf e]; rfl)⟩
      refine p5_hasBit (by omega) (by omega) ?_
      rw [b2l_0]
      refine ⟨fun e => nx _ ?_, fun e => nx _ ?_⟩
      · rw [show nI t - 1 = nI (t - 1) from pk_sub (a := t) (b := 1) (by omega), nI_l (by omega), lN_mul, ← Nat.pow_succ, show zsN m (i + 1) = zsN m i + 1 from by show zsN m i + (1 - b1 m i) = _; unfold b1; rw [e]; rfl]
      · rw [show (1 : Int64) = lN 1 from rfl, lN_mul, Nat.mul_one, show zsN m (i + 1) = zsN m i from by show zsN m i + (1 - b1 m i) = _; unfold b1; rw [b_nf e]; rfl]
theorem m_sw_out {s : SG} {w n t : Nat} {y : Int32} {M0 : MM} {Q : Int64 → MM → Prop} (hs : WF 8 999 (sB s)) (hj : w < bN (sB s)) (hn : n ≤ 7) (ht1 : 2 ≤ t) (ht : t ≤ 20) (q : ∀ M', KM s (sB s) M0 M' → Q (frc (swA (sB s) w t n (2 ^ n)) (t ^ n) y) M') :
    ∀ (f m : Nat) (M : MM), m ≤ 2 ^ n → 2 ^ n - m < f → KM s (sB s) M0 M → D5_swells_c116 Q f (nI w) (nI n) (nI t) y (lN (swA (sB s) w t n m)) (lN (t ^ n)) (nI m) M := by
  have h27 : 2 ^ n ≤ 2 ^ 7 := Nat.pow_le_pow_right (by decide) hn
  intro f
  induction f with
  | zero => intro m M h1 h2; omega
  | succ f ih =>
    intro m M h1 h2 hf
    unfold D5_swells_c116
    rw [z_shl n (by omega), z_le (by omega) (by omega)]
    refine ⟨fun z => ?_, fun z => ?_⟩
    · have e : m = 2 ^ n := by omega
      unfold D5_swells_c214
      have l1 := swA_le (B := sB s) (w := w) (n := n) ht hn m
      have l2 := pow_20 (t := t) (e := n) ht hn
      refine p5_partOf (by omega) (by omega) ?_
      rw [e]; exact q M hf
    · refine m_sw_in hs hj hn (show m < 2 ^ n by omega) ht1 ht (fun M' f' => ?_) FU 0 M (Nat.zero_le _) (Nat.lt_of_le_of_lt (Nat.le_trans (Nat.sub_le _ _) hn) (by decide)) hf
      have ih := ih (m + 1) M' (by omega) (by omega) f'
      rw [lN_add, lN_add, Nat.add_zero]
      rw [show swA (sB s) w t n (m + 1) = if bS (swH (sB s) m n) w = true then swA (sB s) w t n m + (t - 1) ^ zsN m n else swA (sB s) w t n m from rfl] at ih
      split
      · rename_i h; rw [if_pos h] at ih; exact ih
      · rename_i h; rw [if_neg h] at ih; exact ih
theorem m_sw_below {w n t : Nat} {y : Int32} {M : MM} {Q : Int64 → MM → Prop} (hn : n ≤ 7) (ht : t ≤ 20) (k : D5_swells_c109 Q (nI w) (nI n) (nI t) y 0 (lN (t ^ n)) M) : ∀ (f i : Nat), i ≤ n → n - i < f → D5_swells_c90 Q f (nI w) (nI n) (nI t) y 0 (lN (t ^ i)) (nI i) M := by
  intro f
  induction f with
  | zero => intro i h1 h2; omega
  | succ f ih =>
    intro i h1 h2
    unfold D5_swells_c90
    rw [z_le (by omega) (by omega)]
    refine ⟨fun z => ?_, fun z => ?_⟩
    · rw [show i = n by omega]; exact k
    · dsimp only
      rw [nI_l (by omega), lN_mul, nI_1, ← Nat.pow_succ]
      exact ih (i + 1) (by omega) (by omega)
theorem m_swells {s : SG} {x1 x2 x3 x4 : Int32} {M : MM} {Q : Int64 → MM → Prop} (hR : RepM s M) (q : ∀ M', RepM (swellsS s x1 x2 x3 x4).2 M' → Lo M M' → Q (swellsS s x1 x2 x3 x4).1 M') : D5_swells x1 x2 x3 x4 M Q := by
  unfold D5_swells
  have hR1 := hR.thrown (x := 0)
  have hL : Lo M (up M 62 9 0) := fun p hp => up_p (by omega)
  generalize up M 62 9 0 = M1 at hR1 hL
  have hw := WFm hR1.2.1
  have out : ∀ k, swK s x1 x2 x3 x4 = k → (k = 1 ∨ k = 2 ∨ k = 4 ∨ k = 6) → D5_refuse (-(nI k)) M1 (fun r M' => Q (4000000000000000000 - r.toInt64) M') := by
    intro k h hk
    rw [show swellsS s x1 x2 x3 x4 = (4000000000000000000 - (-(nI k)).toInt64, refu s k) from by unfold swellsS; rw [h, if_neg (by omega)]] at q
    exact p5_refuse neg_nn (by omega) hR1 (fun M' a b => q M' a (hL.tr b))
  have bad : ∀ k, swK s x1 x2 x3 x4 = k → (k = 1 ∨ k = 4 ∨ k = 6) → D5_swells_c54 Q x1 x2 x3 x4 (-(nI k)) M1 := by
    intro k h hk
    have n1 : ¬ -(nI k) = 0 := by rcases hk with rfl | rfl | rfl <;> decide
    have n2 : ¬ 0 ≤ -(nI k) := by rcases hk with rfl | rfl | rfl <;> decide
    unfold D5_swells_c54
    exact p5_wrongBit (n := 1) (by decide) (fun _ => ⟨fun z => absurd z n2, fun _ => out k h (by omega)⟩) (fun z => absurd z n1) (fun z => absurd z n1)
  have e0 : (0 : Int32).toInt = 0 := by decide
  have e2 : (2 : Int32).toInt = 2 := by decide
  have e7 : (7 : Int32).toInt = 7 := by decide
  have e20 : (20 : Int32).toInt = 20 := by decide
  refine p5_isWork hR1.1.1 hw.1 ?_
  rw [b2l_n0, b2l_0]
  refine ⟨fun h => ?_, fun h => bad 1 (by unfold swK; rw [h]; rfl) (Or.inl rfl)⟩
  have hK : swK s x1 x2 x3 x4 = if x2.toInt < 0 ∨ x3.toInt < 2 then 4 else if 7 < x2.toInt ∨ 20 < x3.toInt then 6 else if inN x4 2 = true then 0 else 2 := if_pos h
  rw [i_lt, i_le, i_lt, i_le, e0, e2, e7, e20]
  have o4 : x2.toInt < 0 ∨ x3.toInt < 2 → D5_swells_c54 Q x1 x2 x3 x4 (-(nI 4)) M1 := fun z => bad 4 (by rw [hK, if_pos z]) (by omega)
  have o6 : ¬ (x2.toInt < 0 ∨ x3.toInt < 2) → (7 < x2.toInt ∨ 20 < x3.toInt) → D5_swells_c54 Q x1 x2 x3 x4 (-(nI 6)) M1 := fun z z2 => bad 6 (by rw [hK, if_neg z, if_pos z2]) (by omega)
  refine ⟨fun z => o4 (Or.inl z), fun z => ⟨fun z2 => ⟨fun z3 => o6 (by omega) (by omega), fun z3 => ⟨fun z4 => ?_, fun z4 => o6 (by omega) (by omega)⟩⟩, fun z2 => o4 (by omega)⟩⟩
  have hK2 : swK s x1 x2 x3 x4 = if inN x4 2 = true then 0 else 2 := by rw [hK, if_neg (by omega), if_neg (by omega)]
  unfold D5_swells_c54
  refine p5_wrongBit (n := 1) (by decide) (fun z => absurd rfl z) (fun _ h4 => ?_) (fun _ h4 => ⟨fun z => absurd z (by decide), fun _ => out 2 (by rw [hK2, h4]; rfl) (by omega)⟩)
  obtain ⟨w, hwj, hx1, hx1n⟩ := inN_0 h (Nat.le_trans hw.1 (by decide))
  obtain ⟨n, hn, hx2, hx2n⟩ := inN_0 (x := x2) (n := 8) (inN_t (by omega)) (by decide)
  obtain ⟨t, ht, hx3, hx3n⟩ := inN_0 (x := x3) (n := 21) (inN_t (by omega)) (by decide)
  have h27 : 2 ^ n ≤ 2 ^ 7 := Nat.pow_le_pow_right (by decide) (show n ≤ 7 by omega)
  rw [show swellsS s x1 x2 x3 x4 = (frc (swA (sB s) w t n (2 ^ n)) (t ^ n) x4, s) from by unfold swellsS; rw [if_pos (by rw [hK2, if_pos h4]), hx1n, hx2n, hx3n]] at q
  have ht1 : 2 ≤ t := by omega
  have q : ∀ M', KM s (sB s) M1 M' → Q (frc (swA (sB s) w t n (2 ^ n)) (t ^ n) x4) M' := fun M' k => q M' (km_rep hR1 k) (hL.tr k.2.2.1.1)
  clear out bad o4 o6 hK hK2 h hx1n hx2n hx3n
  subst hx1
  subst hx2
  subst hx3
  refine ⟨fun _ => ?_, fun z => absurd (by decide) z⟩
  refine m_sw_below (w := w) (n := n) (t := t) (by omega) (by omega) ?_ FU 0 (Nat.zero_le _) (Nat.lt_of_le_of_lt (Nat.le_trans (Nat.sub_le _ _) (Nat.le_of_lt hn)) (by decide))
  unfold D5_swells_c109
  refine km_think hR1 FrM.rf (fun M2 k2 => ?_)
  exact m_sw_out hR1.2.1 hwj (by omega) ht1 (by omega) q FU 0 M2 (Nat.zero_le _) (Nat.lt_of_le_of_lt (Nat.le_trans (Nat.sub_le _ _) h27) (by decide)) k2
