/-! PURE PART: an hour, by the model -/
theorem p5_holdsOf {j k f : Nat} {M : MM} {Q : Int32 → MM → Prop} (hj : j < 10) (hk : k < 6) (hf : f < 10) (m1 : M 63 j = nI k) (m2 : M 64 j = nI f) (q : Q (nI (hold k f)) M) : D5_holdsOf (nI j) M Q := by
  unfold D5_holdsOf
  refine ⟨ibc ⟨by decide, rfl⟩ rfl hj (by decide), ibc ⟨by decide, rfl⟩ rfl hj (by decide), ?_⟩
  rw [z_ix (by omega), m1, m2]
  rcases k6 hk with rfl | rfl | rfl | rfl | rfl | rfl
  · exact sw_t (by decide) ((by decide +kernel : ∀ f, f < 10 → nI (hold 0 f) = nI f / 3 + 1) f hf ▸ q)
  · exact sw_f (by decide) (sw_f (by decide) (sw_f (by decide) (sw_f (by decide) ((by decide +kernel : ∀ f, f < 10 → nI (hold 1 f) = nI f / 3 + 1 + 1) f hf ▸ q))))
  · exact sw_f (by decide) (sw_t (by decide) ⟨ibc ⟨by decide, rfl⟩ rfl hj (by decide), (by decide +kernel : ∀ f, f < 10 → nI (hold 2 f) = nI f + 2) f hf ▸ q⟩)
  · exact sw_f (by decide) (sw_f (by decide) (sw_t (by decide) ((by decide +kernel : ∀ f, f < 10 → nI (hold 3 f) = 2 * (nI f / 3 + 1 + 1)) f hf ▸ q)))
  · exact sw_f (by decide) (sw_f (by decide) (sw_f (by decide) (sw_f (by decide) ((by decide +kernel : ∀ f, f < 10 → nI (hold 4 f) = nI f / 3 + 1 + 1) f hf ▸ q))))
  · exact sw_f (by decide) (sw_f (by decide) (sw_f (by decide) (sw_t (by decide) ((by decide +kernel : ∀ f, f < 10 → nI (hold 5 f) = 2 * (nI f / 3 + 1 + 1) - 1) f hf ▸ q))))
theorem p5_rateOf {j k f : Nat} {M : MM} {Q : Int32 → MM → Prop} (hj : j < 10) (hk : k < 6) (hf : f < 10) (m1 : M 63 j = nI k) (m2 : M 64 j = nI f) (q : Q (nI (rate k f)) M) : D5_rateOf (nI j) M Q := by
  unfold D5_rateOf
  refine ⟨ibc ⟨by decide, rfl⟩ rfl hj (by decide), ibc ⟨by decide, rfl⟩ rfl hj (by decide), ?_⟩
  rw [z_ix (by omega), m1, m2]
  rcases k6 hk with rfl | rfl | rfl | rfl | rfl | rfl
  · exact sw_t (by decide) q
  · exact sw_f (by decide) (sw_t (by decide) ((by decide +kernel : ∀ f, f < 10 → nI (rate 1 f) = nI f + 10) f hf ▸ q))
  · exact sw_f (by decide) (sw_f (by decide) (sw_t (by decide) q))
  · exact sw_f (by decide) (sw_f (by decide) (sw_f (by decide) (sw_t (by decide) ((by decide +kernel : ∀ f, f < 10 → nI (rate 3 f) = 3 * (nI f + 10) - 10) f hf ▸ q))))
  · exact sw_f (by decide) (sw_f (by decide) (sw_f (by decide) (sw_f (by decide) (sw_t (by decide) q))))
  · exact sw_f (by decide) (sw_f (by decide) (sw_f (by decide) (sw_f (by decide) (sw_f (by decide) ((by decide +kernel : ∀ f, f < 10 → nI (rate 5 f) = 2 * (3 * (nI f + 10) - 10)) f hf ▸ q)))))
theorem p5_letsOf {j k f : Nat} {M : MM} {Q : Int32 → MM → Prop} (hj : j < 10) (hk : k < 6) (hf : f < 10) (m1 : M 63 j = nI k) (m2 : M 64 j = nI f) (q : Q (nI (lets k f)) M) : D5_letsOf (nI j) M Q := by
  unfold D5_letsOf
  refine ⟨ibc ⟨by decide, rfl⟩ rfl hj (by decide), ibc ⟨by decide, rfl⟩ rfl hj (by decide), ?_⟩
  rw [z_ix (by omega), m1, m2]
  rcases k6 hk with rfl | rfl | rfl | rfl | rfl | rfl
  · exact sw_f (by decide) (sw_f (by decide) (sw_f (by decide) (sw_f (by decide) q)))
  · exact sw_t (by decide) q
  · exact sw_f (by decide) (sw_f (by decide) (sw_f (by decide) (sw_f (by decide) q)))
  · exact sw_f (by decide) (sw_t (by decide) ((by decide +kernel : ∀ f, f < 10 → nI (lets 3 f) = nI f + 5) f hf ▸ q))
  · exact sw_f (by decide) (sw_f (by decide) (sw_t (by decide) q))
  · exact sw_f (by decide) (sw_f (by decide) (sw_f (by decide) (sw_t (by decide) ((by decide +kernel : ∀ f, f < 10 → nI (lets 5 f) = 2 * nI f + 5) f hf ▸ q))))
theorem b2_bo (c : Bool) : bo (b2 c) := by cases c; exact Or.inl rfl; exact Or.inr rfl
theorem p5_isWet {W c : Nat} {M : MM} {Q : Int32 → MM → Prop} (hW : W < 2 ^ 25) (hc : c < 25) (m : M 62 12 = nI W) (q : Q (b2 (W.testBit c)) M) : D5_isWet (nI c) M Q := by
  unfold D5_isWet
  rw [m]
  exact p5_hasBit (Nat.lt_trans hW (by decide)) (by omega) ⟨b2_bo _, q⟩
def nba (W c : Nat) : Nat → Bool
  | 0 => W.testBit c
  | i + 1 => nba W c i || (match nbw c i with | some d => W.testBit d | none => false)
theorem nba_4 {W c : Nat} (hW : W < 2 ^ 25) (hc : c < 25) : nba W c 4 = (tou W).testBit c := by
  unfold tou
  rw [Nat.testBit_or, besM_bit hc hW]
  simp only [nba, nbIn, List.range, List.range.loop, List.any_cons, List.any_nil, Bool.or_false, Bool.or_assoc]
  rfl
theorem worn_loop {W c j : Nat} {M : MM} {Q : Int32 → MM → Prop} (hW : W < 2 ^ 25) (hj : j < 10) (hc : c < 25) (m12 : M 62 12 = nI W) (mc : M 65 j = nI c) (q : Q (b2 ((tou W).testBit c)) M) :
    ∀ (n i : Nat), i ≤ 4 → 4 - i < n → D5_isWorn_c13 Q n (nI j) (b2 (nba W c i)) (nI i) M := by
  intro n
  induction n with
  | zero => intro i h1 h2; omega
  | succ n ih =>
    intro i h1 h2
    unfold D5_isWorn_c13
    rw [show (4 : Int32) = nI 4 from rfl, z_le (by decide) (by omega)]
    refine ⟨fun z => ?_, fun z => ⟨ibc ⟨by decide, rfl⟩ rfl hj (by decide), ?_⟩⟩
    · have e : i = 4 := by omega
      subst e
      refine ⟨b2_bo _, ?_⟩
      rw [nba_4 hW hc]; exact q
    · rw [z_ix (by omega), mc]
      have next : ∀ x : Bool, nba W c (i + 1) = x → D5_isWorn_c53 (D5_isWorn_c13 Q n) Q (nI j) (nI i) (b2 x) M := by
        intro x hx
        show D5_isWorn_c13 Q n (nI j) (b2 x) (nI i + 1) M
        rw [← hx, nI_1]
        exact ih (i + 1) (by omega) (by omega)
      have en : nba W c (i + 1) = (nba W c i || (match nbw c i with | some d => W.testBit d | none => false)) := rfl
      refine p5_beside hc (by omega) (fun d hd hd25 => ?_) (fun r hr hr0 => ?_)
      · rw [hd] at en
        rw [z_lit, b2_n0, b2_0]
        refine ⟨fun e => ?_, fun e => ⟨fun z => absurd z (nI_pos (by omega)), fun _ => p5_isWet hW hd25 m12 ?_⟩⟩
        · exact next true (by rw [en, e]; rfl)
        · rw [b2_0]
          refine ⟨fun e2 => next false (by rw [en, e]; exact e2), fun e2 => next true ?_⟩
          rw [en, e]
          simpa using e2
      · rw [hr] at en
        rw [z_lit, b2_n0, b2_0]
        refine ⟨fun e => next true (by rw [en, e]; rfl), fun e => ⟨fun _ => next false (by rw [en, e]; rfl), fun z => absurd hr0 z⟩⟩
theorem p5_isWorn {W c j : Nat} {M : MM} {Q : Int32 → MM → Prop} (hW : W < 2 ^ 25) (hj : j < 10) (hc : c < 25) (m12 : M 62 12 = nI W) (mc : M 65 j = nI c) (q : Q (b2 ((tou W).testBit c)) M) : D5_isWorn (nI j) M Q := by
  unfold D5_isWorn
  refine ⟨ibc ⟨by decide, rfl⟩ rfl hj (by decide), ?_⟩
  rw [z_ix (by omega), mc]
  exact p5_isWet hW hc m12 (worn_loop hW hj hc m12 mc q FU 0 (by decide) (by decide))
/-- what an hour leaves as it was -/
def FrH (M0 M : MM) : Prop := (∀ p, p ≠ 62 → p ≠ 66 → p ≠ 67 → p ≠ 69 → p ≠ 70 → M p = M0 p) ∧ ∀ k, k ≠ 6 → k ≠ 7 → k ≠ 8 → k ≠ 12 → k ≠ 14 → M 62 k = M0 62 k
theorem FrH.rf {M : MM} : FrH M M := ⟨fun _ _ _ _ _ _ => rfl, fun _ _ _ _ _ _ => rfl⟩
theorem FrH.tr {M0 M1 M2 : MM} (h1 : FrH M0 M1) (h2 : FrH M1 M2) : FrH M0 M2 := ⟨fun p a b c d e => (h2.1 p a b c d e).trans (h1.1 p a b c d e), fun k a b c d e => (h2.2 k a b c d e).trans (h1.2 k a b c d e)⟩
theorem FrL.H {M0 M : MM} (h : FrL M0 M) : FrH M0 M := ⟨fun p a _ _ d e => h.1 p a d e, fun k _ _ _ d e => h.2 k d e⟩
/-- in the midst of the model's hour -/
def MI (B : BV) (W pay i : Nat) (M0 M : MM) : Prop :=
  M 62 0 = nI (bN B) ∧ M 62 6 = nI (hrP B W pay i) ∧ M 62 7 = nI (hrO B W pay i) ∧ M 62 8 = nI (bH B + 1) ∧ M 62 12 = nI W ∧ M 62 15 = nI pay ∧
  (∀ j, j < bN B → M 63 j = nI (bK B j) ∧ M 64 j = nI (bF B j) ∧ M 65 j = nI (bC B j) ∧ M 66 j = nI (if j < i then hrW B W j else bW B j) ∧ M 67 j = nI (!(bS B j)).toNat) ∧ FrH M0 M
theorem hr_end {B : BV} {W pay n H : Nat} (hw : WF n H B) : ∀ w, bN B ≤ w → hrP B W pay w = hrP B W pay (bN B) ∧ hrO B W pay w = hrO B W pay (bN B) := by
  intro w
  induction w with
  | zero => intro h; rw [show bN B = 0 by omega]; exact ⟨rfl, rfl⟩
  | succ w ih =>
    intro h
    rcases Nat.eq_or_lt_of_le h with z | z
    · rw [z]; exact ⟨rfl, rfl⟩
    · have hs : bS B w = false := by
        cases e : bS B w
        · rfl
        · have := hw.2.2.1 w e; omega
      have hno : ¬ (bS B w = true ∧ W.testBit (bC B w) = false ∧ pay.testBit w = false) := by rw [hs]; simp
      rw [hrP_no hno, hrO_no hno]
      exact ih (by omega)
theorem mh_gone {B : BV} {W pay H : Nat} {M0 : MM} {Q : MM → Prop} (hw : WF 10 H B) (k : ∀ M', M' 62 0 = nI (bN B) → M' 62 6 = nI (hrP B W pay 10) → M' 62 7 = nI (hrO B W pay 10) → M' 62 8 = nI (bH B + 1) → (∀ j, j < bN B → M' 63 j = nI (bK B j) ∧ M' 64 j = nI (bF B j) ∧ M' 65 j = nI (bC B j) ∧ M' 66 j = nI (hrW B W j) ∧ M' 67 j = nI (!(hrS B W j)).toNat) → FrH M0 M' → Q M') :
    ∀ (n i : Nat) (M : MM), i ≤ bN B → bN B - i < n → M 62 0 = nI (bN B) → M 62 6 = nI (hrP B W pay 10) → M 62 7 = nI (hrO B W pay 10) → M 62 8 = nI (bH B + 1) → (∀ j, j < bN B → M 63 j = nI (bK B j) ∧ M 64 j = nI (bF B j) ∧ M 65 j = nI (bC B j) ∧ M 66 j = nI (hrW B W j) ∧ M 67 j = nI (!(if j < i then hrS B W j else bS B j)).toNat) → FrH M0 M → D5_hourBy_c171 Q n (nI i) M := by
  intro n
  induction n with
  | zero => intro i M h1 h2; omega
  | succ n ih =>
    intro i M h1 h2 a0 a6 a7 a8 aj af
    have hn := hw.1
    unfold D5_hourBy_c171
    rw [a0, z_le (by omega) (by omega)]
    refine ⟨fun z => ?_, fun z => ?_⟩
    · have e : i = bN B := by omega
      refine k M a0 a6 a7 a8 (fun j hj => ?_) af
      obtain ⟨m1, m2, m3, m4, m5⟩ := aj j hj
      rw [if_pos (by omega)] at m5
      exact ⟨m1, m2, m3, m4, m5⟩
    · have hi : i < bN B := by omega
      have hi10 : i < 10 := by omega
      obtain ⟨g1, g2, g3, g4⟩ := hw.2.1 i hi
      obtain ⟨m1, m2, m3, m4, m5⟩ := aj i hi
      rw [if_neg (Nat.lt_irrefl i)] at m5
      have hWi := hrW_lt B W i g4
      have hh := hold_lt _ g1 _ g2
      have next : ∀ x : Bool, hrS B W i = !x → D5_hourBy_c213 (D5_hourBy_c171 Q n) Q (nI i) (nI x.toNat) (nI i) 67 M := by
        intro x hx
        unfold D5_hourBy_c213
        refine ⟨ibc ⟨by decide, rfl⟩ rfl hi10 (by decide), ?_⟩
        rw [z_ix (by omega)]
        show D5_hourBy_c171 Q n (nI i + 1) (up M 67 i (nI x.toNat))
        rw [nI_1]
        refine ih (i + 1) _ (by omega) (by omega) (by rw [up_p (by decide)]; exact a0) (by rw [up_p (by decide)]; exact a6) (by rw [up_p (by decide)]; exact a7) (by rw [up_p (by decide)]; exact a8) (fun j hj => ?_) ⟨fun p a b c d e => by rw [up_p c]; exact af.1 p a b c d e, fun x a b c d e => by rw [up_p (by decide)]; exact af.2 x a b c d e⟩
        obtain ⟨k1, k2, k3, k4, k5⟩ := aj j hj
        rw [up_p (by decide), up_p (by decide), up_p (by decide), up_p (by decide)]
        refine ⟨k1, k2, k3, k4, ?_⟩
        by_cases y : j = i
        · subst y
          rw [up_s, if_pos (Nat.lt_succ_self j), hx, Bool.not_not]
        · rw [up_k y, k5]
          have : (j < i) = (j < i + 1) := propext ⟨fun _ => by omega, fun _ => by omega⟩
          simp only [this]
      refine ⟨ibc ⟨by decide, rfl⟩ rfl hi10 (by decide), ?_⟩
      rw [z_ix (by omega), m5]
      refine ⟨fun e => ?_, fun e => ⟨ibc ⟨by decide, rfl⟩ rfl hi10 (by decide), p5_holdsOf hi10 g1 g2 m1 m2 ?_⟩⟩
      · have es : bS B i = false := by
          cases h : bS B i
          · rfl
          · rw [h] at e; exact absurd e (by decide)
        exact next true (by unfold hrS; rw [es]; rfl)
      · have es : bS B i = true := by
          cases h : bS B i
          · rw [h] at e; exact absurd rfl e
          · rfl
        rw [m4, z_le (by omega) (by omega)]
        refine ⟨fun c => next false (by unfold hrS; rw [es]; simp [c]), fun c => next true (by unfold hrS; rw [es]; simp; omega)⟩
theorem p5_held_min {a h : Nat} {M : MM} {Q : Int32 → MM → Prop} (ha : a < 2 ^ 31) (hh : h < 2 ^ 31) (q : Q (nI (if a < h then a else h)) M) : D5_held (nI a) (nI h) M Q := by
  refine p5_held ha hh ?_
  have e : (if a ≤ h then a else h) = if a < h then a else h := by split <;> split <;> omega
  rw [e]; exact q
theorem mh_loop {B : BV} {W pay H : Nat} {M0 : MM} {Q : MM → Prop} (hw : WF 10 H B) (hW : W < 2 ^ 25) (hpay : pay < 2 ^ 31) (k : ∀ M', M' 62 0 = nI (bN B) → M' 62 6 = nI (hrP B W pay 10) → M' 62 7 = nI (hrO B W pay 10) → M' 62 8 = nI (bH B + 1) → (∀ j, j < bN B → M' 63 j = nI (bK B j) ∧ M' 64 j = nI (bF B j) ∧ M' 65 j = nI (bC B j) ∧ M' 66 j = nI (hrW B W j) ∧ M' 67 j = nI (!(hrS B W j)).toNat) → FrH M0 M' → Q M') :
    ∀ (n i : Nat) (M : MM), i ≤ bN B → bN B - i < n → MI B W pay i M0 M → D5_hourBy_c29 Q n (nI i) M := by
  intro n
  induction n with
  | zero => intro i M h1 h2; omega
  | succ n ih =>
    intro i M h1 h2 hI
    obtain ⟨a0, a6, a7, a8, a12, a15, aj, af⟩ := hI
    have hn := hw.1
    unfold D5_hourBy_c29
    rw [a0, z_le (by omega) (by omega)]
    refine ⟨fun z => ?_, fun z => ?_⟩
    · have e : i = bN B := by omega
      obtain ⟨e1, e2⟩ := hr_end (W := W) (pay := pay) hw 10 hn
      refine mh_gone hw k FU 0 M (Nat.zero_le _) (Nat.lt_of_le_of_lt (Nat.le_trans (Nat.sub_le _ _) hn) (by decide)) a0 (by rw [a6, e, e1]) (by rw [a7, e, e2]) a8 (fun j hj => ?_) af
      obtain ⟨m1, m2, m3, m4, m5⟩ := aj j hj
      rw [if_pos (by omega)] at m4
      exact ⟨m1, m2, m3, m4, by rw [m5, if_neg (Nat.not_lt_zero j)]⟩
    · have hi : i < bN B := by omega
      have hi10 : i < 10 := by omega
      obtain ⟨g1, g2, g3, g4⟩ := hw.2.1 i hi
      obtain ⟨m1, m2, m3, m4, m5⟩ := aj i hi
      rw [if_neg (Nat.lt_irrefl i)] at m4
      have hWi := hrW_lt B W i g4
      have hl := lets_lt _ g1 _ g2
      have hr := rate_lt _ g1 _ g2
      have hP := hrP_le B W pay hw.2.2.2.2.1 i
      have hO := hrO_le B W pay hw.2.2.2.2.2 i
      have next : ∀ M1 : MM, MI B W pay (i + 1) M0 M1 → D5_hourBy_c163 (D5_hourBy_c29 Q n) Q (nI i) M1 := by
        intro M1 h
        show D5_hourBy_c29 Q n (nI i + 1) M1
        rw [nI_1]
        exact ih (i + 1) M1 (by omega) (by omega) h
      refine ⟨ibc ⟨by decide, rfl⟩ rfl hi10 (by decide), ?_⟩
      rw [z_ix (by omega), m5]
      refine ⟨fun e => ?_, fun e => ⟨ibc ⟨by decide, rfl⟩ rfl hi10 (by decide), ?_⟩⟩
      · have es : bS B i = false := by
          cases h : bS B i
          · rfl
          · rw [h] at e; exact absurd rfl e
        have hno : ¬ (bS B i = true ∧ W.testBit (bC B i) = false ∧ pay.testBit i = false) := by rw [es]; simp
        refine next M ⟨a0, by rw [hrP_no hno]; exact a6, by rw [hrO_no hno]; exact a7, a8, a12, a15, fun j hj => ?_, af⟩
        obtain ⟨k1, k2, k3, k4, k5⟩ := aj j hj
        refine ⟨k1, k2, k3, ?_, k5⟩
        rw [k4]
        by_cases y : j = i
        · subst y; simp [hrW, es]
        · have : (j < i) = (j < i + 1) := propext ⟨fun _ => by omega, fun _ => by omega⟩
          simp only [this]
      · have es : bS B i = true := by
          cases h : bS B i
          · rw [h] at e; exact absurd e (by decide)
          · rfl
        -- purse and debts
        have money : ∀ (lt : Bool) (M1 : MM), lt = decide (W.testBit (bC B i) = false ∧ pay.testBit i = false) → M1 62 0 = nI (bN B) → M1 62 6 = nI (hrP B W pay i) → M1 62 7 = nI (hrO B W pay i) → M1 62 8 = nI (bH B + 1) → M1 62 12 = nI W → M1 62 15 = nI pay → (∀ j, j < bN B → M1 63 j = nI (bK B j) ∧ M1 64 j = nI (bF B j) ∧ M1 65 j = nI (bC B j) ∧ M1 66 j = nI (if j < i + 1 then hrW B W j else bW B j) ∧ M1 67 j = nI (!(bS B j)).toNat) → FrH M0 M1 → D5_hourBy_c106 (D5_hourBy_c29 Q n) Q (nI i) (b2 lt) M1 := by
          intro lt M1 hlt b0 b6 b7 b8 b12 b15 bj bf
          obtain ⟨k1, k2, k3, k4, k5⟩ := bj i hi
          have hyn : (bS B i = true ∧ W.testBit (bC B i) = false ∧ pay.testBit i = false) ↔ lt = true := by rw [hlt, es]; simp
          have ePi : hrP B W pay (i + 1) = if hrP B W pay i + (if lt = true then lets (bK B i) (bF B i) else 0) < 9999 then hrP B W pay i + (if lt = true then lets (bK B i) (bF B i) else 0) else 9999 := by
            cases hL : lt
            · rw [hrP_no (by rw [hyn, hL]; simp)]; simp; omega
            · rw [hrP_yes (hyn.mpr hL)]; simp
          have eOi : hrO B W pay (i + 1) = if hrO B W pay i + (if lt = true then rate (bK B i) (bF B i) else 0) < 9999 then hrO B W pay i + (if lt = true then rate (bK B i) (bF B i) else 0) else 9999 := by
            cases hL : lt
            · rw [hrO_no (by rw [hyn, hL]; simp)]; simp; omega
            · rw [hrO_yes (hyn.mpr hL)]; simp
          have owes : ∀ (M2 : MM) (v : Nat), v = (if lt = true then rate (bK B i) (bF B i) else 0) → M2 = up M1 62 6 (nI (hrP B W pay (i + 1))) → D5_hourBy_c153 (D5_hourBy_c29 Q n) Q (nI i) (nI v) (nI (hrO B W pay i)) M2 := by
            intro M2 v hv hM2
            have hv100 : v < 100 := by rw [hv]; split <;> omega
            unfold D5_hourBy_c153
            rw [nI_add, show (9999 : Int32) = nI 9999 from rfl]
            refine p5_held_min (by omega) (by decide) ?_
            rw [hv, ← eOi]
            subst hM2
            refine next _ ⟨?_, ?_, up_s, ?_, ?_, ?_, fun j hj => ?_, ⟨fun p a b c d e => ?_, fun x a b c d e => ?_⟩⟩
            · rw [up_k (by decide), up_k (by decide)]; exact b0
            · rw [up_k (by decide)]; exact up_s
            · rw [up_k (by decide), up_k (by decide)]; exact b8
            · rw [up_k (by decide), up_k (by decide)]; exact b12
            · rw [up_k (by decide), up_k (by decide)]; exact b15
            · rw [up_p (by decide), up_p (by decide), up_p (by decide), up_p (by decide), up_p (by decide), up_p (by decide), up_p (by decide), up_p (by decide), up_p (by decide), up_p (by decide)]
              exact bj j hj
            · rw [up_p a, up_p a]; exact bf.1 p a b c d e
            · rw [up_k b, up_k a]; exact bf.2 x a b c d e
          have purse : ∀ (v : Nat), v = (if lt = true then lets (bK B i) (bF B i) else 0) → D5_hourBy_c125 (D5_hourBy_c29 Q n) Q (nI i) (b2 lt) (nI v) (nI (hrP B W pay i)) M1 := by
            intro v hv
            have hv30 : v < 30 := by rw [hv]; split <;> omega
            unfold D5_hourBy_c125
            rw [nI_add, show (9999 : Int32) = nI 9999 from rfl]
            refine p5_held_min (by omega) (by decide) ?_
            rw [hv, ← ePi, z_lit, b2_0]
            refine ⟨fun c => ?_, fun c => ?_⟩
            · rw [up_k (by decide), b7]
              exact owes _ 0 (by rw [c]; rfl) rfl
            · have c : lt = true := by simpa using c
              refine p5_rateOf hi10 g1 g2 (by rw [up_p (by decide)]; exact k1) (by rw [up_p (by decide)]; exact k2) ?_
              rw [up_k (by decide), b7]
              exact owes _ _ (by rw [c]; rfl) rfl
          unfold D5_hourBy_c106
          rw [z_lit, b2_0, b6]
          refine ⟨fun c => purse 0 (by rw [c]; rfl), fun c => ?_⟩
          have c : lt = true := by simpa using c
          exact p5_letsOf hi10 g1 g2 k1 k2 (purse _ (by rw [c]; rfl))
        -- worn
        have wear : ∀ (t : Bool), t = (tou W).testBit (bC B i) → D5_hourBy_c70 (D5_hourBy_c29 Q n) Q (nI i) (nI t.toNat) (nI (bW B i)) (nI i) 66 M := by
          intro t ht
          have eWi : hrW B W i = if bW B i + t.toNat < 99 then bW B i + t.toNat else 99 := by
            unfold hrW
            rw [es, ← ht]
            cases t
            · simp; omega
            · simp
          unfold D5_hourBy_c70
          have ht1 : t.toNat ≤ 1 := by cases t <;> decide
          rw [nI_add, show (99 : Int32) = nI 99 from rfl]
          refine p5_held_min (by omega) (by decide) ⟨ibc ⟨by decide, rfl⟩ rfl hi10 (by decide), ?_⟩
          rw [← eWi, z_ix (by omega)]
          refine ⟨ibc ⟨by decide, rfl⟩ rfl hi10 (by decide), ?_⟩
          rw [up_p (by decide), m3]
          have b12 : up M 66 i (nI (hrW B W i)) 62 12 = nI W := by rw [up_p (by decide)]; exact a12
          have go : ∀ lt : Bool, lt = decide (W.testBit (bC B i) = false ∧ pay.testBit i = false) → D5_hourBy_c106 (D5_hourBy_c29 Q n) Q (nI i) (b2 lt) (up M 66 i (nI (hrW B W i))) := by
            intro lt hlt
            refine money lt _ hlt (by rw [up_p (by decide)]; exact a0) (by rw [up_p (by decide)]; exact a6) (by rw [up_p (by decide)]; exact a7) (by rw [up_p (by decide)]; exact a8) b12 (by rw [up_p (by decide)]; exact a15) (fun j hj => ?_) ⟨fun p a b c d e => by rw [up_p b]; exact af.1 p a b c d e, fun x a b c d e => by rw [up_p (by decide)]; exact af.2 x a b c d e⟩
            obtain ⟨k1, k2, k3, k4, k5⟩ := aj j hj
            rw [up_p (q := 63) (by decide), up_p (q := 64) (by decide), up_p (q := 65) (by decide), up_p (q := 67) (by decide)]
            refine ⟨k1, k2, k3, ?_, k5⟩
            by_cases y : j = i
            · subst y; rw [up_s, if_pos (Nat.lt_succ_self j)]
            · rw [up_k y, k4]
              have : (j < i) = (j < i + 1) := propext ⟨fun _ => by omega, fun _ => by omega⟩
              simp only [this]
          refine p5_isWet hW g3 b12 ?_
          rw [z_lit, b2_n0, b2_0]
          refine ⟨fun c => go false (by rw [c]; simp), fun c => ?_⟩
          rw [up_p (by decide), a15]
          refine p5_hasBit hpay (by omega) ?_
          rw [b2_n0, b2_0]
          refine ⟨fun c2 => go false (by rw [c2]; simp), fun c2 => go true (by rw [c, c2]; simp)⟩
        refine p5_isWorn hW hi10 g3 a12 m3 ?_
        rw [z_lit, b2_0, m4]
        refine ⟨fun c => wear false c.symm, fun c => wear true (by cases h : (tou W).testBit (bC B i); exact absurd h c; rfl)⟩
theorem p5_hourBy {B : BV} {sw pay H : Nat} {M : MM} {Q : MM → Prop} (hw : WF 10 H B) (hH : H < 2 ^ 20) (hR : RM B M) (hsw : sw < 2) (hpay : pay < 2 ^ 31) (hp : M 62 15 = nI pay) (k : ∀ M', RM (hourB B sw pay) M' → FrH M M' → Q M') : D5_hourBy (nI sw) M Q := by
  unfold D5_hourBy
  have hh := hw.2.2.2.1
  rw [hR.2.2.2.1, nI_1]
  show D5_levelAt (up M 62 8 (nI (bH B + 1)) 62 8) (up M 62 8 (nI (bH B + 1))) _
  rw [up_s]
  refine p5_levelAt (by omega) ?_
  have hl := lev_le (bH B + 1)
  rw [nI_add, show (5 : Int32) = nI 5 from rfl]
  refine p5_held_min (by omega) (by decide) ?_
  have hR2 : RM (bN B, bK B, bF B, bC B, bW B, bS B, bH B + 1, bP B, bO B) (up M 62 8 (nI (bH B + 1))) := ⟨by rw [up_k (by decide)]; exact hR.1, by rw [up_k (by decide)]; exact hR.2.1, by rw [up_k (by decide)]; exact hR.2.2.1, up_s, fun j hj => by rw [up_p (by decide), up_p (by decide), up_p (by decide), up_p (by decide), up_p (by decide)]; exact hR.2.2.2.2 j hj⟩
  show D5_layWet (nI (levS (bH B + 1) sw)) (up M 62 8 (nI (bH B + 1))) _
  have eo : ∀ w, opM (bN B, bK B, bF B, bC B, bW B, bS B, bH B + 1, bP B, bO B) (levS (bH B + 1) sw) w = opM B (levS (bH B + 1) sw) w := by
    intro w
    induction w with
    | zero => rfl
    | succ w ih => unfold opM; rw [ih]
  have ew : wet (bN B, bK B, bF B, bC B, bW B, bS B, bH B + 1, bP B, bO B) (levS (bH B + 1) sw) = wet B (levS (bH B + 1) sw) := by unfold wet; rw [eo]
  refine p5_layWet (B := (bN B, bK B, bF B, bC B, bW B, bS B, bH B + 1, bP B, bO B)) (levS_le _ _) (H := H + 1) ⟨hw.1, hw.2.1, hw.2.2.1, Nat.succ_le_succ hh, hw.2.2.2.2.1, hw.2.2.2.2.2⟩ hR2 (fun M' h12 hf => ?_)
  rw [ew] at h12
  have hR3 := hR2.lay hf
  have hfr : FrH M M' := FrH.tr ⟨fun p a _ _ _ _ => up_p a, fun x _ _ c _ _ => up_k c⟩ hf.H
  refine mh_loop hw (wet_lt B _) hpay (M0 := M) (fun M2 a0 a6 a7 a8 aj af => k M2 ⟨a0, a6, a7, a8, aj⟩ af) FU 0 M' (Nat.zero_le _) (Nat.lt_of_le_of_lt (Nat.le_trans (Nat.sub_le _ _) hw.1) (by decide)) ⟨hR3.1, hR3.2.1, hR3.2.2.1, hR3.2.2.2.1, h12, ?_, fun j hj => ?_, hfr⟩
  · rw [hfr.2 15 (by decide) (by decide) (by decide) (by decide) (by decide)]; exact hp
  · obtain ⟨m1, m2, m3, m4, m5⟩ := hR3.2.2.2.2 j hj
    exact ⟨m1, m2, m3, by rw [m4, if_neg (Nat.not_lt_zero j)], m5⟩
