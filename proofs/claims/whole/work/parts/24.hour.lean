/-! PURE PART: an hour, by the class -/
def tou (W : Nat) : Nat := W ||| besM W
theorem tou_lt {W : Nat} (h : W < 2 ^ 25) : tou W < 2 ^ 25 := Nat.or_lt_two_pow h (besM_lt W)
/-- worn behind the hour -/
def hrW (B : BV) (W : Nat) (j : Nat) : Nat := if bS B j = true ∧ (tou W).testBit (bC B j) = true then (if bW B j + 1 < 99 then bW B j + 1 else 99) else bW B j
/-- does a work let, and is it rated -/
def lt1 (B : BV) (W pay : Nat) (j : Nat) : Prop := bS B j = true ∧ W.testBit (bC B j) = false ∧ pay.testBit j = false
def hrP (B : BV) (W pay : Nat) : Nat → Nat
  | 0 => bP B
  | j + 1 => if bS B j = true ∧ W.testBit (bC B j) = false ∧ pay.testBit j = false then (if hrP B W pay j + lets (bK B j) (bF B j) < 9999 then hrP B W pay j + lets (bK B j) (bF B j) else 9999) else hrP B W pay j
def hrO (B : BV) (W pay : Nat) : Nat → Nat
  | 0 => bO B
  | j + 1 => if bS B j = true ∧ W.testBit (bC B j) = false ∧ pay.testBit j = false then (if hrO B W pay j + rate (bK B j) (bF B j) < 9999 then hrO B W pay j + rate (bK B j) (bF B j) else 9999) else hrO B W pay j
def hrS (B : BV) (W : Nat) (j : Nat) : Bool := bS B j && decide (hrW B W j ≤ hold (bK B j) (bF B j))
/-- LEVEL with a swell -/
def levS (h sw : Nat) : Nat := if lev h + sw < 5 then lev h + sw else 5
theorem levS_le (h sw : Nat) : levS h sw ≤ 5 := by unfold levS; split <;> omega
/-- the beach behind an hour -/
def hourB (B : BV) (sw pay : Nat) : BV := (bN B, bK B, bF B, bC B, hrW B (wet B (levS (bH B + 1) sw)), hrS B (wet B (levS (bH B + 1) sw)), bH B + 1, hrP B (wet B (levS (bH B + 1) sw)) pay 10, hrO B (wet B (levS (bH B + 1) sw)) pay 10)
theorem hrP_le (B : BV) (W pay : Nat) (h : bP B ≤ 9999) : ∀ j, hrP B W pay j ≤ 9999
  | 0 => h
  | j + 1 => by
    have := hrP_le B W pay h j
    unfold hrP
    split
    · split <;> omega
    · exact this
theorem hrO_le (B : BV) (W pay : Nat) (h : bO B ≤ 9999) : ∀ j, hrO B W pay j ≤ 9999
  | 0 => h
  | j + 1 => by
    have := hrO_le B W pay h j
    unfold hrO
    split
    · split <;> omega
    · exact this
theorem hrW_lt (B : BV) (W j : Nat) (h : bW B j < 100) : hrW B W j < 100 := by
  unfold hrW
  split
  · split <;> omega
  · exact h
theorem hourB_wf {n H : Nat} {B : BV} (sw pay : Nat) (h : WF n H B) : WF n (H + 1) (hourB B sw pay) := by
  refine ⟨h.1, fun j hj => ?_, fun j hj => ?_, ?_, ?_, ?_⟩
  · obtain ⟨a, b, c, d⟩ := h.2.1 j hj
    exact ⟨a, b, c, hrW_lt B _ j d⟩
  · have hj : hrS B _ j = true := hj
    unfold hrS at hj
    rw [Bool.and_eq_true] at hj
    exact h.2.2.1 j hj.1
  · exact Nat.succ_le_succ h.2.2.2.1
  · exact hrP_le B _ pay h.2.2.2.2.1 10
  · exact hrO_le B _ pay h.2.2.2.2.2 10
theorem hrP_no {B : BV} {W pay j : Nat} (h : ¬ (bS B j = true ∧ W.testBit (bC B j) = false ∧ pay.testBit j = false)) : hrP B W pay (j + 1) = hrP B W pay j := if_neg h
theorem hrO_no {B : BV} {W pay j : Nat} (h : ¬ (bS B j = true ∧ W.testBit (bC B j) = false ∧ pay.testBit j = false)) : hrO B W pay (j + 1) = hrO B W pay j := if_neg h
theorem hrP_yes {B : BV} {W pay j : Nat} (h : bS B j = true ∧ W.testBit (bC B j) = false ∧ pay.testBit j = false) : hrP B W pay (j + 1) = if hrP B W pay j + lets (bK B j) (bF B j) < 9999 then hrP B W pay j + lets (bK B j) (bF B j) else 9999 := if_pos h
theorem hrO_yes {B : BV} {W pay j : Nat} (h : bS B j = true ∧ W.testBit (bC B j) = false ∧ pay.testBit j = false) : hrO B W pay (j + 1) = if hrO B W pay j + rate (bK B j) (bF B j) < 9999 then hrO B W pay j + rate (bK B j) (bF B j) else 9999 := if_pos h
/-- in the midst of the hour -/
def HI (b : Nat) (B : BV) (W pay : Nat) (i : Nat) (M0 M : MM) : Prop :=
  M b 4 = nI (bN B) ∧ M b 5 = nI (mk (bS B) 10) ∧ M b 6 = nI (bH B + 1) ∧ M b 7 = nI (hrP B W pay i) ∧ M b 8 = nI (hrO B W pay i) ∧
  (∀ j, j < bN B → M (b + 1) j = nI (bK B j) ∧ M (b + 2) j = nI (bF B j) ∧ M (b + 3) j = nI (bC B j) ∧ M (b + 4) j = nI (if j < i then hrW B W j else bW B j)) ∧ ∀ p, p ≠ b → p ≠ b + 4 → M p = M0 p
abbrev spS (B : BV) (W i : Nat) : Nat → Bool := fun j => if j < i then hrS B W j else bS B j
theorem up_b4 {M : MM} {b i : Nat} {x : Int32} : up M (b + 4) i x b = M b := up_p (by omega)
theorem up_b {M : MM} {b i k : Nat} {x : Int32} (h : 0 < k) : up M b i x (b + k) = M (b + k) := up_p (by omega)
theorem up_b4' {M : MM} {b i k : Nat} {x : Int32} (h : k ≠ 4) : up M (b + 4) i x (b + k) = M (b + k) := up_p (by omega)
theorem p0_hour_loop {b : Nat} {B : BV} {W pay H : Nat} {M0 : MM} {Q : MM → Prop} (hb : isB b) (hw : WF 10 H B) (hW : W < 2 ^ 25) (hpay : pay < 2 ^ 31)
    (q : ∀ M', M' b 4 = nI (bN B) → M' b 5 = nI (mk (hrS B W) 10) → M' b 6 = nI (bH B + 1) → M' b 7 = nI (hrP B W pay 10) → M' b 8 = nI (hrO B W pay 10) → (∀ j, j < bN B → M' (b + 1) j = nI (bK B j) ∧ M' (b + 2) j = nI (bF B j) ∧ M' (b + 3) j = nI (bC B j) ∧ M' (b + 4) j = nI (hrW B W j)) → (∀ p, p ≠ b → p ≠ b + 4 → M' p = M0 p) → Q M') :
    ∀ (n i : Nat) (M : MM), i ≤ 10 → 10 - i < n → HI b B W pay i M0 M → D0_anHour_c45 b Q n (nI pay) (nI W) (nI (tou W)) (nI (mk (spS B W i) 10)) (nI i) M := by
  intro n
  induction n with
  | zero => intro i M hi hn; omega
  | succ n ih =>
    intro i M hi hn hI
    obtain ⟨a4, a5, a6, a7, a8, aj, af⟩ := hI
    unfold D0_anHour_c45
    rw [show (10 : Int32) = nI 10 from rfl]
    simp only [z_le (show 10 < 2 ^ 31 by decide) (show i < 2 ^ 31 by omega)]
    refine ⟨fun c => ?_, fun c => ?_⟩
    · have e : i = 10 := by omega
      subst e
      have es : mk (spS B W 10) 10 = mk (hrS B W) 10 := mk_cong (fun j hj => by simp [spS, hj])
      rw [es]
      refine q _ (by simp [up, a4]) (by simp [up]) (by simp [up, a6]) (by simp [up, a7]) (by simp [up, a8]) (fun j hj => ?_) (fun p h1 h2 => ?_)
      · obtain ⟨m1, m2, m3, m4⟩ := aj j hj
        have hj10 : j < 10 := Nat.lt_of_lt_of_le hj hw.1
        rw [if_pos hj10] at m4
        rw [up_b (by omega), up_b (by omega), up_b (by omega), up_b (by omega)]
        exact ⟨m1, m2, m3, m4⟩
      · rw [up_p h1]; exact af p h1 h2
    · have hi9 : i < 10 := by omega
      refine p0_stands a5 hi9 ?_
      rw [z_lit, b2_0]
      -- the next round
      have next : ∀ M1 : MM, HI b B W pay (i + 1) M0 M1 → D0_anHour_c222 b (D0_anHour_c45 b Q n) Q (nI pay) (nI W) (nI (tou W)) (nI (mk (spS B W (i + 1)) 10)) (nI i) M1 := by
        intro M1 h1
        show D0_anHour_c45 b Q n (nI pay) (nI W) (nI (tou W)) (nI (mk (spS B W (i + 1)) 10)) (nI i + 1) M1
        rw [nI_1]
        exact ih (i + 1) M1 (by omega) (by omega) h1
      refine ⟨fun e => ?_, fun e => ?_⟩
      · -- GONE
        have es : mk (spS B W i) 10 = mk (spS B W (i + 1)) 10 := by
          refine mk_cong (fun j _ => ?_)
          unfold spS
          by_cases z : j = i
          · subst z; simp [hrS, e]
          · have : (j < i) = (j < i + 1) := propext ⟨fun _ => by omega, fun _ => by omega⟩
            simp [this]
        rw [es]
        refine next M ⟨a4, a5, a6, ?_, ?_, fun j hj => ?_, af⟩
        · rw [hrP_no (by rw [e]; simp)]; exact a7
        · rw [hrO_no (by rw [e]; simp)]; exact a8
        · obtain ⟨m1, m2, m3, m4⟩ := aj j hj
          refine ⟨m1, m2, m3, ?_⟩
          rw [m4]
          by_cases z : j = i
          · subst z; simp [hrW, e]
          · have : (j < i) = (j < i + 1) := propext ⟨fun _ => by omega, fun _ => by omega⟩
            simp [this]
      · have e : bS B i = true := by simpa using e
        have hin := hw.2.2.1 i e
        obtain ⟨g1, g2, g3, g4⟩ := hw.2.1 i hin
        obtain ⟨m1, m2, m3, m4⟩ := aj i hin
        rw [if_neg (Nat.lt_irrefl i)] at m4
        have hWi := hrW_lt B W i g4
        -- what falls
        have last : ∀ M1 : MM, M1 b 4 = nI (bN B) → M1 b 5 = nI (mk (bS B) 10) → M1 b 6 = nI (bH B + 1) → M1 b 7 = nI (hrP B W pay (i + 1)) → M1 b 8 = nI (hrO B W pay (i + 1)) → (∀ j, j < bN B → M1 (b + 1) j = nI (bK B j) ∧ M1 (b + 2) j = nI (bF B j) ∧ M1 (b + 3) j = nI (bC B j) ∧ M1 (b + 4) j = nI (if j < i + 1 then hrW B W j else bW B j)) → (∀ p, p ≠ b → p ≠ b + 4 → M1 p = M0 p) → D0_anHour_c184 b (D0_anHour_c45 b Q n) Q (nI pay) (nI W) (nI (tou W)) (nI (mk (spS B W i) 10)) (nI i) M1 := by
          intro M1 b4 b5 b6 b7 b8 bj bf
          have hI1 : HI b B W pay (i + 1) M0 M1 := ⟨b4, b5, b6, b7, b8, bj, bf⟩
          obtain ⟨k1, k2, k3, k4⟩ := bj i hin
          rw [if_pos (Nat.lt_succ_self i)] at k4
          unfold D0_anHour_c184
          refine ⟨isB_ib4 hb hi9, isB_ib1 hb hi9, isB_ib2 hb hi9, ?_⟩
          rw [z_ix (by omega), k1, k2, k4]
          refine p1_holdsFor g1 g2 ?_
          have hh := hold_lt _ g1 _ g2
          rw [z_le (by omega) (by omega)]
          refine ⟨fun c2 => ?_, fun c2 => ?_⟩
          · have es : mk (spS B W i) 10 = mk (spS B W (i + 1)) 10 := by
              refine mk_cong (fun j _ => ?_)
              unfold spS
              by_cases z : j = i
              · subst z; simp [hrS, e, c2]
              · have : (j < i) = (j < i + 1) := propext ⟨fun _ => by omega, fun _ => by omega⟩
                simp [this]
            rw [es]
            exact next M1 hI1
          · show D0_anHour_c222 b (D0_anHour_c45 b Q n) Q (nI pay) (nI W) (nI (tou W)) (nI (mk (spS B W i) 10) &&& (((1 : Int32) <<< (nI i &&& 31)) ^^^ (-1))) (nI i) M1
            rw [z_clear _ _ (by omega)]
            have es : clr (mk (spS B W i) 10) i = mk (spS B W (i + 1)) 10 := by
              refine mk_of (fun j => ?_)
              rw [clr_bit (Nat.lt_trans (mk_lt _ 10) (by decide)), mk_bit]
              unfold spS
              by_cases z : j = i
              · subst z; simp [hrS, e]; omega
              · have : (j < i) = (j < i + 1) := propext ⟨fun _ => by omega, fun _ => by omega⟩
                simp [this, z]
            rw [es]
            exact next M1 hI1
        -- what it lets for
        have mid : ∀ M1 : MM, M1 b 4 = nI (bN B) → M1 b 5 = nI (mk (bS B) 10) → M1 b 6 = nI (bH B + 1) → M1 b 7 = nI (hrP B W pay i) → M1 b 8 = nI (hrO B W pay i) → (∀ j, j < bN B → M1 (b + 1) j = nI (bK B j) ∧ M1 (b + 2) j = nI (bF B j) ∧ M1 (b + 3) j = nI (bC B j) ∧ M1 (b + 4) j = nI (if j < i + 1 then hrW B W j else bW B j)) → (∀ p, p ≠ b → p ≠ b + 4 → M1 p = M0 p) → D0_anHour_c97 b (D0_anHour_c45 b Q n) Q (nI pay) (nI W) (nI (tou W)) (nI (mk (spS B W i) 10)) (nI i) M1 := by
          intro M1 b4 b5 b6 b7 b8 bj bf
          obtain ⟨k1, k2, k3, k4⟩ := bj i hin
          unfold D0_anHour_c97
          refine ⟨isB_ib3 hb hi9, ?_⟩
          rw [z_ix (by omega), k3]
          refine p3_has (by omega) (by omega) ?_
          rw [z_lit, b2_n0, b2_0, z_tb hpay i (by omega)]
          refine ⟨fun c2 => ?_, fun c2 => ?_⟩
          · refine last M1 b4 b5 b6 ?_ ?_ bj bf
            · rw [hrP_no (by rw [c2]; simp)]; exact b7
            · rw [hrO_no (by rw [c2]; simp)]; exact b8
          · cases hp : pay.testBit i
            · refine ⟨fun z => absurd rfl z, fun _ => ⟨isB_ib1 hb hi9, isB_ib2 hb hi9, ?_⟩⟩
              rw [k1, k2]
              refine p1_letsFor g1 g2 ?_
              have hl := lets_lt _ g1 _ g2
              have hr := rate_lt _ g1 _ g2
              have hP := hrP_le B W pay hw.2.2.2.2.1 i
              have hO := hrO_le B W pay hw.2.2.2.2.2 i
              refine ⟨isB_ib1 hb hi9, isB_ib2 hb hi9, ?_⟩
              rw [up_b (by omega), up_b (by omega), k1, k2]
              refine p1_rateFor g1 g2 ?_
              have ePi : (if M1 b 7 + nI (lets (bK B i) (bF B i)) < 9999 then M1 b 7 + nI (lets (bK B i) (bF B i)) else 9999) = nI (hrP B W pay (i + 1)) := by
                rw [b7, nI_add, show (9999 : Int32) = nI 9999 from rfl, z_min (by omega) (by omega)]
                rw [hrP_yes ⟨e, c2, hp⟩]
              rw [ePi]
              have eOi : (if up M1 b 7 (nI (hrP B W pay (i + 1))) b 8 + nI (rate (bK B i) (bF B i)) < 9999 then up M1 b 7 (nI (hrP B W pay (i + 1))) b 8 + nI (rate (bK B i) (bF B i)) else 9999) = nI (hrO B W pay (i + 1)) := by
                rw [up_k (by decide), b8, nI_add, show (9999 : Int32) = nI 9999 from rfl, z_min (by omega) (by omega)]
                rw [hrO_yes ⟨e, c2, hp⟩]
              show D0_anHour_c184 b (D0_anHour_c45 b Q n) Q (nI pay) (nI W) (nI (tou W)) (nI (mk (spS B W i) 10)) (nI i) (up (up M1 b 7 (nI (hrP B W pay (i + 1)))) b 8 (if up M1 b 7 (nI (hrP B W pay (i + 1))) b 8 + nI (rate (bK B i) (bF B i)) < 9999 then up M1 b 7 (nI (hrP B W pay (i + 1))) b 8 + nI (rate (bK B i) (bF B i)) else 9999))
              rw [eOi]
              refine last _ (by simp [up, b4]) (by simp [up, b5]) (by simp [up, b6]) (by simp [up]) (by simp [up]) (fun j hj => ?_) (fun p h1 h2 => ?_)
              · rw [up_b (by omega), up_b (by omega), up_b (by omega), up_b (by omega), up_b (by omega), up_b (by omega), up_b (by omega), up_b (by omega)]
                exact bj j hj
              · rw [up_p h1, up_p h1]; exact bf p h1 h2
            · refine ⟨fun _ => ?_, fun z => absurd z (by decide)⟩
              refine last M1 b4 b5 b6 ?_ ?_ bj bf
              · rw [hrP_no (by rw [hp]; simp)]; exact b7
              · rw [hrO_no (by rw [hp]; simp)]; exact b8
        refine ⟨isB_ib3 hb hi9, ?_⟩
        rw [z_ix (by omega), m3]
        refine p3_has (Nat.lt_trans (tou_lt hW) (by decide)) (by omega) ?_
        rw [b2_0]
        refine ⟨fun c2 => ?_, fun c2 => ?_⟩
        · refine mid M a4 a5 a6 a7 a8 (fun j hj => ?_) af
          obtain ⟨k1, k2, k3, k4⟩ := aj j hj
          refine ⟨k1, k2, k3, ?_⟩
          rw [k4]
          by_cases z : j = i
          · subst z; simp [hrW, c2]
          · have : (j < i) = (j < i + 1) := propext ⟨fun _ => by omega, fun _ => by omega⟩
            simp [this]
        · have c2 : (tou W).testBit (bC B i) = true := by simpa using c2
          refine ⟨isB_ib4 hb hi9, isB_ib4 hb hi9, ?_⟩
          have eW : (if M (b + 4) i + 1 < 99 then M (b + 4) i + 1 else 99) = nI (hrW B W i) := by
            rw [m4, nI_1, show (99 : Int32) = nI 99 from rfl, z_min (by omega) (by omega)]
            rw [show hrW B W i = (if bW B i + 1 < 99 then bW B i + 1 else 99) from if_pos ⟨e, c2⟩]
          show D0_anHour_c97 b (D0_anHour_c45 b Q n) Q (nI pay) (nI W) (nI (tou W)) (nI (mk (spS B W i) 10)) (nI i) (up M (b + 4) i (if M (b + 4) i + 1 < 99 then M (b + 4) i + 1 else 99))
          rw [eW]
          refine mid _ (by rw [up_b4]; exact a4) (by rw [up_b4]; exact a5) (by rw [up_b4]; exact a6) (by rw [up_b4]; exact a7) (by rw [up_b4]; exact a8) (fun j hj => ?_) (fun p h1 h2 => by rw [up_p h2]; exact af p h1 h2)
          obtain ⟨k1, k2, k3, k4⟩ := aj j hj
          rw [up_b4' (by decide), up_b4' (by decide), up_b4' (by decide)]
          refine ⟨k1, k2, k3, ?_⟩
          by_cases z : j = i
          · subst z; rw [up_s]; simp
          · rw [up_k z, k4]
            have : (j < i) = (j < i + 1) := propext ⟨fun _ => by omega, fun _ => by omega⟩
            simp [this]
theorem p0_anHour {b sw pay H : Nat} {B : BV} {M : MM} {Q : MM → Prop} (hb : isB b) (hw : WF 10 H B) (hH : H < 2 ^ 20) (hR : RB b B M) (hsw : sw < 2) (hpay : pay < 2 ^ 31) (q : ∀ M', RB b (hourB B sw pay) M' → (∀ p, p ≠ b → p ≠ b + 4 → M' p = M p) → Q M') : D0_anHour b (nI sw) (nI pay) M Q := by
  unfold D0_anHour
  have hh := hw.2.2.2.1
  rw [hR.2.2.1]
  show D3_height (up M b 6 (nI (bH B) + 1) b 6) (up M b 6 (nI (bH B) + 1)) _
  rw [up_s, nI_1]
  refine p3_height (by omega) ?_
  have hl := lev_le (bH B + 1)
  have hR1 : RB b B (up M b 6 (nI (bH B))) := ⟨by rw [up_k (by decide)]; exact hR.1, by rw [up_k (by decide)]; exact hR.2.1, up_s, by rw [up_k (by decide)]; exact hR.2.2.2.1, by rw [up_k (by decide)]; exact hR.2.2.2.2.1, fun j hj => by rw [up_b (by omega), up_b (by omega), up_b (by omega), up_b (by omega)]; exact hR.2.2.2.2.2 j hj⟩
  have eL : (if nI (lev (bH B + 1)) + nI sw < 5 then nI (lev (bH B + 1)) + nI sw else 5) = nI (levS (bH B + 1) sw) := by
    rw [nI_add, show (5 : Int32) = nI 5 from rfl, z_min (by omega) (by decide)]
    rfl
  show D0_wetAt b (if nI (lev (bH B + 1)) + nI sw < 5 then nI (lev (bH B + 1)) + nI sw else 5) (up M b 6 (nI (bH B + 1))) _
  rw [eL]
  have hR2 : RB b (bN B, bK B, bF B, bC B, bW B, bS B, bH B + 1, bP B, bO B) (up M b 6 (nI (bH B + 1))) := ⟨by rw [up_k (by decide)]; exact hR.1, by rw [up_k (by decide)]; exact hR.2.1, up_s, by rw [up_k (by decide)]; exact hR.2.2.2.1, by rw [up_k (by decide)]; exact hR.2.2.2.2.1, fun j hj => by rw [up_b (by omega), up_b (by omega), up_b (by omega), up_b (by omega)]; exact hR.2.2.2.2.2 j hj⟩
  refine p0_wetAt hb hR2 (H := H + 1) ⟨hw.1, hw.2.1, hw.2.2.1, Nat.succ_le_succ hh, hw.2.2.2.2.1, hw.2.2.2.2.2⟩ (levS_le _ _) ?_
  have eo : ∀ w, opM (bN B, bK B, bF B, bC B, bW B, bS B, bH B + 1, bP B, bO B) (levS (bH B + 1) sw) w = opM B (levS (bH B + 1) sw) w := by
    intro w
    induction w with
    | zero => rfl
    | succ w ih => unfold opM; rw [ih]
  have ew : wet (bN B, bK B, bF B, bC B, bW B, bS B, bH B + 1, bP B, bO B) (levS (bH B + 1) sw) = wet B (levS (bH B + 1) sw) := by unfold wet; rw [eo]
  rw [ew]
  have hW := wet_lt B (levS (bH B + 1) sw)
  refine p3_beside hW ?_
  show D0_anHour_c45 b Q FU (nI pay) (nI (wet B (levS (bH B + 1) sw))) (nI (wet B (levS (bH B + 1) sw)) ||| nI (besM (wet B (levS (bH B + 1) sw)))) (up M b 6 (nI (bH B + 1)) b 5) (nI 0) (up M b 6 (nI (bH B + 1)))
  rw [z_or, hR2.2.1]
  have es : mk (bS B) 10 = mk (spS B (wet B (levS (bH B + 1) sw)) 0) 10 := mk_cong (fun j _ => by simp [spS])
  show D0_anHour_c45 b Q FU (nI pay) (nI (wet B (levS (bH B + 1) sw))) (nI (tou (wet B (levS (bH B + 1) sw)))) (nI (mk (bS B) 10)) (nI 0) (up M b 6 (nI (bH B + 1)))
  rw [es]
  refine p0_hour_loop hb hw hW hpay (M0 := M) (fun M' a4 a5 a6 a7 a8 aj af => q M' ⟨a4, a5, a6, a7, a8, aj⟩ af) FU 0 _ (by omega) (by decide) ⟨hR2.1, hR2.2.1, hR2.2.2.1, hR2.2.2.2.1, hR2.2.2.2.2.1, fun j hj => ?_, fun p h1 h2 => up_p h1⟩
  obtain ⟨m1, m2, m3, m4⟩ := hR2.2.2.2.2.2 j hj
  exact ⟨m1, m2, m3, by rw [m4, if_neg (Nat.not_lt_zero j)]⟩
