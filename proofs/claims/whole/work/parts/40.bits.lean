/-! PURE PART: bitCount -/
theorem and256 {x y p q : Nat} (hy : y < 256) (hq : q < 256) : (256 * x + y) &&& (256 * p + q) = 256 * (x &&& p) + (y &&& q) := by
  have hyq : y &&& q < 2 ^ 8 := Nat.lt_of_le_of_lt Nat.and_le_left hy
  apply Nat.eq_of_testBit_eq
  intro i
  rw [Nat.testBit_and, show (256 : Nat) = 2 ^ 8 from rfl, Nat.testBit_two_pow_mul_add x hy, Nat.testBit_two_pow_mul_add p hq, Nat.testBit_two_pow_mul_add _ hyq]
  split
  · rw [Nat.testBit_and]
  · rw [Nat.testBit_and]
def sw1 (K m : Nat) : Nat := m - ((m / 2) &&& K)
def sw2 (K m : Nat) : Nat := (m &&& K) + ((m / 4) &&& K)
theorem sw1_d : ∀ t, t < 2 → ∀ a, a < 256 → ((128 * t + a / 2) &&& 85) = ((a / 2) &&& 85) := by decide +kernel
theorem sw2_d : ∀ t, t < 4 → ∀ a, a < 256 → ((64 * t + a / 4) &&& 51) = ((a / 4) &&& 51) := by decide +kernel
theorem sw1_s {K b a : Nat} (ha : a < 256) : sw1 (256 * K + 85) (256 * b + a) = 256 * sw1 K b + sw1 85 a := by
  unfold sw1
  have e : (256 * b + a) / 2 = 256 * (b / 2) + (128 * (b % 2) + a / 2) := by omega
  have h1 : (b / 2) &&& K ≤ b / 2 := Nat.and_le_left
  have h2 : (a / 2) &&& 85 ≤ a / 2 := Nat.and_le_left
  rw [e, and256 (by omega) (by decide), sw1_d _ (Nat.mod_lt _ (by decide)) a ha]
  omega
theorem sw2_s {K b a : Nat} (ha : a < 256) : sw2 (256 * K + 51) (256 * b + a) = 256 * sw2 K b + sw2 51 a := by
  unfold sw2
  have e : (256 * b + a) / 4 = 256 * (b / 4) + (64 * (b % 4) + a / 4) := by omega
  rw [e, and256 ha (by decide), and256 (by omega) (by decide), sw2_d _ (Nat.mod_lt _ (by decide)) a ha]
  omega
theorem sw1_lt {K a : Nat} (ha : a < 256) : sw1 K a < 256 := by unfold sw1; omega
theorem sw_e : ∀ a, a < 256 → sw2 51 (sw1 85 a) < 256 ∧ sw2 51 (sw1 85 a) % 16 ≤ 4 ∧ sw2 51 (sw1 85 a) / 16 ≤ 4 ∧ sw2 51 (sw1 85 a) % 16 + sw2 51 (sw1 85 a) / 16 = pcf 8 a := by decide +kernel
theorem pcf_add : ∀ (a n m : Nat), pcf (a + n) m = pcf a m + pcf n (m / 2 ^ a)
  | 0, n, m => by rw [Nat.zero_add, Nat.pow_zero, Nat.div_one]; show _ = 0 + _; rw [Nat.zero_add]
  | a + 1, n, m => by
    rw [show a + 1 + n = (a + n) + 1 by omega]
    show m % 2 + pcf (a + n) (m / 2) = m % 2 + pcf a (m / 2) + pcf n (m / 2 ^ (a + 1))
    rw [pcf_add a n (m / 2), Nat.div_div_eq_div_mul, Nat.pow_succ, Nat.mul_comm 2, Nat.add_assoc]
theorem pcf_mod : ∀ (n m : Nat), pcf n (m % 2 ^ n) = pcf n m
  | 0, _ => rfl
  | n + 1, m => by
    show m % 2 ^ (n + 1) % 2 + pcf n (m % 2 ^ (n + 1) / 2) = m % 2 + pcf n (m / 2)
    rw [← pcf_mod n (m / 2)]
    have h1 : m % 2 ^ (n + 1) % 2 = m % 2 := Nat.mod_mod_of_dvd m ⟨2 ^ n, by rw [Nat.pow_succ, Nat.mul_comm]⟩
    have h2 : m % 2 ^ (n + 1) / 2 = m / 2 % 2 ^ n := by
      rw [Nat.pow_succ, Nat.mul_comm, Nat.mod_mul_right_div_self]
    rw [h1, h2]
theorem pcf_more {n m : Nat} (h : m < 2 ^ n) (k : Nat) : pcf (n + k) m = pcf n m := by
  rw [pcf_add, Nat.div_eq_of_lt h, pcf_0, Nat.add_zero]
theorem swar {m : Nat} (hm : m < 2 ^ 25) : (((((sw2 858993459 (sw1 1431655765 m)) + (sw2 858993459 (sw1 1431655765 m)) / 16) &&& 252645135) + (((sw2 858993459 (sw1 1431655765 m)) + (sw2 858993459 (sw1 1431655765 m)) / 16) &&& 252645135) / 256) + ((((sw2 858993459 (sw1 1431655765 m)) + (sw2 858993459 (sw1 1431655765 m)) / 16) &&& 252645135) + (((sw2 858993459 (sw1 1431655765 m)) + (sw2 858993459 (sw1 1431655765 m)) / 16) &&& 252645135) / 256) / 65536) % 64 = pcf 25 m ∧ sw1 1431655765 m < 2 ^ 31 ∧ sw2 858993459 (sw1 1431655765 m) < 2 ^ 31 := by
  have hp : pcf 25 m = pcf 8 (m % 256) + (pcf 8 (m / 256 % 256) + (pcf 8 (m / 65536 % 256) + pcf 8 (m / 16777216))) := by
    rw [← pcf_more hm 7, show 25 + 7 = 8 + (8 + (8 + 8)) by rfl, pcf_add, pcf_add, pcf_add, ← pcf_mod 8 m, ← pcf_mod 8 (m / 2 ^ 8), ← pcf_mod 8 (m / 2 ^ 8 / 2 ^ 8), Nat.div_div_eq_div_mul, Nat.div_div_eq_div_mul]
  generalize h0 : m % 256 = a0 at hp
  generalize h1 : m / 256 % 256 = a1 at hp
  generalize h2 : m / 65536 % 256 = a2 at hp
  generalize h3 : m / 16777216 = a3 at hp
  have em : m = 256 * (256 * (256 * a3 + a2) + a1) + a0 := by omega
  have l0 : a0 < 256 := by omega
  have l1 : a1 < 256 := by omega
  have l2 : a2 < 256 := by omega
  have l3 : a3 < 256 := by omega
  have e1 : sw1 1431655765 m = 256 * (256 * (256 * sw1 85 a3 + sw1 85 a2) + sw1 85 a1) + sw1 85 a0 := by
    rw [em, show (1431655765 : Nat) = 256 * 5592405 + 85 from rfl, sw1_s l0, show (5592405 : Nat) = 256 * 21845 + 85 from rfl, sw1_s l1, show (21845 : Nat) = 256 * 85 + 85 from rfl, sw1_s l2]
  have c0 := sw1_lt (K := 85) l0
  have c1 := sw1_lt (K := 85) l1
  have c2 := sw1_lt (K := 85) l2
  have c3 := sw1_lt (K := 85) l3
  have e2 : sw2 858993459 (sw1 1431655765 m) = 256 * (256 * (256 * sw2 51 (sw1 85 a3) + sw2 51 (sw1 85 a2)) + sw2 51 (sw1 85 a1)) + sw2 51 (sw1 85 a0) := by
    rw [e1, show (858993459 : Nat) = 256 * 3355443 + 51 from rfl, sw2_s c0, show (3355443 : Nat) = 256 * 13107 + 51 from rfl, sw2_s c1, show (13107 : Nat) = 256 * 51 + 51 from rfl, sw2_s c2]
  have s1lt : sw1 1431655765 m < 2 ^ 31 := by unfold sw1; omega
  obtain ⟨g0, x0, y0, p0⟩ := sw_e a0 l0
  obtain ⟨g1, x1, y1, p1⟩ := sw_e a1 l1
  obtain ⟨g2, x2, y2, p2⟩ := sw_e a2 l2
  obtain ⟨g3, x3, y3, p3⟩ := sw_e a3 l3
  rw [e2, hp, ← p0, ← p1, ← p2, ← p3]
  generalize sw2 51 (sw1 85 a0) = f0 at *
  generalize sw2 51 (sw1 85 a1) = f1 at *
  generalize sw2 51 (sw1 85 a2) = f2 at *
  generalize sw2 51 (sw1 85 a3) = f3 at *
  refine ⟨?_, s1lt, by omega⟩
  have d0 : f0 = 16 * (f0 / 16) + f0 % 16 := by omega
  have d1 : f1 = 16 * (f1 / 16) + f1 % 16 := by omega
  have d2 : f2 = 16 * (f2 / 16) + f2 % 16 := by omega
  have d3 : f3 = 16 * (f3 / 16) + f3 % 16 := by omega
  generalize f0 / 16 = u0 at *
  generalize f0 % 16 = t0 at *
  generalize f1 / 16 = u1 at *
  generalize f1 % 16 = t1 at *
  generalize f2 / 16 = u2 at *
  generalize f2 % 16 = t2 at *
  generalize f3 / 16 = u3 at *
  generalize f3 % 16 = t3 at *
  subst d0 d1 d2 d3
  have e3 : (256 * (256 * (256 * (16 * u3 + t3) + (16 * u2 + t2)) + (16 * u1 + t1)) + (16 * u0 + t0)) + (256 * (256 * (256 * (16 * u3 + t3) + (16 * u2 + t2)) + (16 * u1 + t1)) + (16 * u0 + t0)) / 16 = 256 * (256 * (256 * (16 * u3 + t3 + u3) + (16 * u2 + t2 + u2 + 16 * t3)) + (16 * u1 + t1 + u1 + 16 * t2)) + (16 * u0 + t0 + u0 + 16 * t1) := by omega
  have e4 : (256 * (256 * (256 * (16 * u3 + t3 + u3) + (16 * u2 + t2 + u2 + 16 * t3)) + (16 * u1 + t1 + u1 + 16 * t2)) + (16 * u0 + t0 + u0 + 16 * t1)) &&& 252645135 = 256 * (256 * (256 * (t3 + u3) + (t2 + u2)) + (t1 + u1)) + (t0 + u0) := by
    rw [show (252645135 : Nat) = 256 * 986895 + 15 from rfl, and256 (by omega) (by decide), show (986895 : Nat) = 256 * 3855 + 15 from rfl, and256 (by omega) (by decide), show (3855 : Nat) = 256 * 15 + 15 from rfl, and256 (by omega) (by decide)]
    have w : ∀ z : Nat, z &&& 15 = z % 16 := fun z => Nat.and_two_pow_sub_one_eq_mod z 4
    have w2 : ∀ u t v : Nat, t ≤ 4 → u ≤ 4 → (16 * u + t + u + 16 * v) % 16 = t + u := by intro u t v h1 h2; omega
    have w3 : ∀ u t : Nat, t ≤ 4 → u ≤ 4 → (16 * u + t + u) % 16 = t + u := by intro u t h1 h2; omega
    rw [w, w, w, w, w2 _ _ _ x0 y0, w2 _ _ _ x1 y1, w2 _ _ _ x2 y2, w3 _ _ x3 y3]
  rw [e3, e4]
  have k0 : t0 + u0 ≤ 8 := by omega
  have k1 : t1 + u1 ≤ 8 := by omega
  have k2 : t2 + u2 ≤ 8 := by omega
  have k3 : t3 + u3 ≤ 8 := by omega
  generalize t0 + u0 = q0 at *
  generalize t1 + u1 = q1 at *
  generalize t2 + u2 = q2 at *
  generalize t3 + u3 = q3 at *
  have e5 : (256 * (256 * (256 * q3 + q2) + q1) + q0) / 256 = 256 * (256 * q3 + q2) + q1 := by omega
  rw [e5]
  have e6 : (256 * (256 * (256 * q3 + q2) + q1) + q0 + (256 * (256 * q3 + q2) + q1)) / 65536 = 256 * q3 + (q2 + q3) := by
    rw [show 256 * (256 * (256 * q3 + q2) + q1) + q0 + (256 * (256 * q3 + q2) + q1) = 65536 * (256 * q3 + (q2 + q3)) + (256 * (q1 + q2) + (q0 + q1)) by omega]
    omega
  rw [e6]
  rw [show 256 * (256 * (256 * q3 + q2) + q1) + q0 + (256 * (256 * q3 + q2) + q1) + (256 * q3 + (q2 + q3)) = 64 * (4 * (65536 * q3 + 256 * (q2 + q3) + (q1 + q2) + q3)) + (q0 + (q1 + (q2 + q3))) by omega]
  omega
theorem pJ_bitCount {m : Nat} {M : MM} {Q : Int32 → MM → Prop} (hm : m < 2 ^ 25) (q : Q (nI (pcf 25 m)) M) : DJ6_bitCount (nI m) M Q := by
  obtain ⟨e, l1, l2⟩ := swar hm
  unfold DJ6_bitCount
  have ush : ∀ {n : Nat} (k : Nat), n < 2 ^ 32 → (((nI k).toUInt32 &&& Int32.toUInt32 31).toBitVec % 32).toNat = k → ((nI n).toUInt32 >>> ((nI k).toUInt32 &&& Int32.toUInt32 31)).toInt32 = nI (n / 2 ^ k) := fun k hn hs => pk_ushrN hn _ k hs
  have e1 : nI m - (((nI m).toUInt32 >>> ((1 : Int32).toUInt32 &&& Int32.toUInt32 31)).toInt32 &&& (1431655765 : Int32)) = nI (sw1 1431655765 m) := by
    rw [show (1 : Int32) = nI 1 from rfl, ush 1 (by omega) (by decide), show (1431655765 : Int32) = nI 1431655765 from rfl, z_and]
    exact pk_sub (Nat.le_trans Nat.and_le_left (Nat.div_le_self _ _))
  dsimp only
  rw [e1]
  have e2 : (nI (sw1 1431655765 m) &&& (858993459 : Int32)) + (((nI (sw1 1431655765 m)).toUInt32 >>> ((2 : Int32).toUInt32 &&& Int32.toUInt32 31)).toInt32 &&& (858993459 : Int32)) = nI (sw2 858993459 (sw1 1431655765 m)) := by
    rw [show (2 : Int32) = nI 2 from rfl, ush 2 (by omega) (by decide), show (858993459 : Int32) = nI 858993459 from rfl, z_and, z_and, nI_add]
    rfl
  rw [e2]
  generalize sw2 858993459 (sw1 1431655765 m) = v2 at *
  have e3 : (nI v2 + ((nI v2).toUInt32 >>> ((4 : Int32).toUInt32 &&& Int32.toUInt32 31)).toInt32) &&& (252645135 : Int32) = nI ((v2 + v2 / 16) &&& 252645135) := by
    rw [show (4 : Int32) = nI 4 from rfl, ush 4 (by omega) (by decide), show (252645135 : Int32) = nI 252645135 from rfl, nI_add, z_and]
  rw [e3]
  have l3 : (v2 + v2 / 16) &&& 252645135 ≤ 252645135 := Nat.and_le_right
  generalize (v2 + v2 / 16) &&& 252645135 = v3 at *
  have e4 : nI v3 + ((nI v3).toUInt32 >>> ((8 : Int32).toUInt32 &&& Int32.toUInt32 31)).toInt32 = nI (v3 + v3 / 256) := by
    rw [show (8 : Int32) = nI 8 from rfl, ush 8 (by omega) (by decide), nI_add]
  rw [e4]
  generalize hv4 : v3 + v3 / 256 = v4 at *
  have e5 : nI v4 + ((nI v4).toUInt32 >>> ((16 : Int32).toUInt32 &&& Int32.toUInt32 31)).toInt32 = nI (v4 + v4 / 65536) := by
    rw [show (16 : Int32) = nI 16 from rfl, ush 16 (by omega) (by decide), nI_add]
  rw [e5]
  have e6 : nI (v4 + v4 / 65536) &&& (63 : Int32) = nI ((v4 + v4 / 65536) % 64) := pk_andN (by omega) 6 (by decide)
  rw [e6, e]
  exact q
theorem p0_standingWorks {b : Nat} {B : BV} {M : MM} {Q : Int32 → MM → Prop} (hR : RB b B M) (q : Q (nI (pcf 25 (mk (bS B) 10))) M) : D0_standingWorks b M Q := by
  unfold D0_standingWorks
  rw [hR.2.1]
  exact pJ_bitCount (Nat.lt_trans (mk_lt _ 10) (by decide)) q
