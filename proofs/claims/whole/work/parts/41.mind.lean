/-! PURE PART: in mind, by both; what is changed of a beach -/
def KC (B : BV) (M0 M : MM) : Prop := RB 6 B M ∧ FrC M0 M
theorem kc_becomes {s : SG} {M0 M : MM} {Q : MM → Prop} (hR : RepC s M0) (h : FrC M0 M) (k : ∀ M', KC (sB s) M0 M' → Q M') : D0_becomes 6 1 M Q := by
  have hR1 := hR.mind h
  exact p0_becomes isB6 isB1 (by decide) (WFm hR1.2.1) hR1.1 (fun M1 h1 f1 => k M1 ⟨h1, h.tr (FrC.of6' f1)⟩)
theorem kc_hrs {B : BV} {n H : Nat} {M0 M : MM} {Q : MM → Prop} (hw : WF 10 H B) (hH : H + n < 2 ^ 20) (hn : n < 4000) (h : KC B M0 M) (k : ∀ M', KC (hrs B n) M0 M' → Q M') : D0_goesOn 6 (nI n) M Q :=
  p0_goesOn isB6 hw hH hn h.1 (fun M2 h2 f2 => k M2 ⟨h2, h.2.tr (FrC.of6 f2)⟩)
theorem kc_hour {B : BV} {sw pay H : Nat} {M0 M : MM} {Q : MM → Prop} (hw : WF 10 H B) (hH : H < 2 ^ 20) (hsw : sw < 2) (hpay : pay < 2 ^ 31) (h : KC B M0 M) (k : ∀ M', KC (hourB B sw pay) M0 M' → Q M') : D0_anHour 6 (nI sw) (nI pay) M Q :=
  p0_anHour isB6 hw hH h.1 hsw hpay (fun M2 h2 f2 => k M2 ⟨h2, h.2.tr (FrC.of6 f2)⟩)
theorem kc_wetNow {B : BV} {H : Nat} {M0 M : MM} {Q : Int32 → MM → Prop} (hw : WF 10 H B) (hH : H < 2 ^ 30) (h : KC B M0 M) (q : Q (nI (wet B (lev (bH B)))) M) : D0_wetNow 6 M Q :=
  p0_wetNow isB6 h.1 hH hw q
def KM (s : SG) (B : BV) (M0 M : MM) : Prop := RM B M ∧ RT (sB s) M 75 ∧ FrM M0 M ∧ M 62 15 = nI 0
theorem km_think {s : SG} {M0 M : MM} {Q : MM → Prop} (hR : RepM s M) (hf : FrM M0 M) (k : ∀ M', KM s (sB s) M0 M' → Q M') : D5_think M Q :=
  p5_think hR.2.1 hR.1 (fun M1 h1 t1 f1 => k M1 ⟨h1, t1, hf.tr (FrT75.M f1), by rw [(FrT75.M f1).2.1]; exact hR.2.2.2.2.2.2.2⟩)
theorem km_again {s : SG} {B : BV} {H : Nat} {M0 M : MM} {Q : MM → Prop} (hw : WF 8 H (sB s)) (h : KM s B M0 M) (k : ∀ M', KM s (sB s) M0 M' → Q M') : D5_again M Q :=
  p5_again hw h.2.1 (fun M1 h1 t1 f1 => k M1 ⟨h1, t1, h.2.2.1.tr (FrT75.M f1), by rw [(FrT75.M f1).2.1]; exact h.2.2.2⟩)
theorem km_rep {s : SG} {M0 M : MM} (hR : RepM s M0) (h : KM s (sB s) M0 M) : RepM s M := hR.mind h.2.2.1 h.1
theorem FrH.km {s : SG} {B B' : BV} {M0 M M' : MM} (f : FrH M M') (h : KM s B M0 M) (hR : RM B' M') : KM s B' M0 M' :=
  ⟨hR, h.2.1.cong (f.1 75 (by decide) (by decide) (by decide) (by decide) (by decide)), h.2.2.1.tr f.M, by rw [f.M.2.1]; exact h.2.2.2⟩
theorem km_hrs {s : SG} {B : BV} {n H : Nat} {M0 M : MM} {Q : MM → Prop} (hw : WF 10 H B) (hH : H + n < 2 ^ 20) (hn : n < 4000) (h : KM s B M0 M) (k : ∀ M', KM s (hrs B n) M0 M' → Q M') : D5_goHours (nI n) M Q :=
  p5_goHours hw hH hn h.2.2.2 h.1 (fun M2 h2 f2 => k M2 (f2.km h h2))
theorem km_hour {s : SG} {B : BV} {sw H : Nat} {M0 M : MM} {Q : MM → Prop} (hw : WF 10 H B) (hH : H < 2 ^ 20) (hsw : sw < 2) (h : KM s B M0 M) (k : ∀ M', KM s (hourB B sw 0) M0 M' → Q M') : D5_hourBy (nI sw) M Q :=
  p5_hourBy hw hH h.1 hsw (by decide) h.2.2.2 (fun M2 h2 f2 => k M2 (f2.km h h2))
theorem km_wetNow {s : SG} {B : BV} {H : Nat} {M0 M : MM} {Q : Int32 → MM → Prop} (hw : WF 10 H B) (hH : H < 2 ^ 30) (h : KM s B M0 M) (q : ∀ M', KM s B M0 M' → Q (nI (wet B (lev (bH B)))) M') : D5_wetNow M Q :=
  m_wetNow hw hH h.1 (fun M2 h2 f2 => q M2 (f2.H.km h h2))
theorem FrM.set {M : MM} {p j : Nat} {x : Int32} (h1 : 63 ≤ p) (h2 : p ≤ 67) : FrM M (up M p j x) :=
  ⟨fun q a => up_p (by omega), by rw [up_p (by omega)], by rw [up_p (by omega)], by rw [up_p (by omega)], by rw [up_p (by omega)], by rw [up_p (by omega)], up_p (by omega), up_p (by omega), up_p (by omega), up_p (by omega), up_p (by omega)⟩
theorem KM.set {s : SG} {B B' : BV} {M0 M : MM} {p j : Nat} {x : Int32} (h : KM s B M0 M) (h1 : 63 ≤ p) (h2 : p ≤ 67) (hR : RM B' (up M p j x)) : KM s B' M0 (up M p j x) :=
  ⟨hR, h.2.1.cong (up_p (by omega)), h.2.2.1.tr (FrM.set h1 h2), by rw [(FrM.set h1 h2).2.1]; exact h.2.2.2⟩
theorem FrM.sl {M : MM} {k : Nat} {x : Int32} (h : k = 0 ∨ k = 6 ∨ k = 7 ∨ k = 8) : FrM M (up M 62 k x) := FrM.slot (by omega)
theorem KM.sl {s : SG} {B B' : BV} {M0 M : MM} {k : Nat} {x : Int32} (h : KM s B M0 M) (hk : k = 0 ∨ k = 6 ∨ k = 7 ∨ k = 8) (hR : RM B' (up M 62 k x)) : KM s B' M0 (up M 62 k x) :=
  ⟨hR, h.2.1.cong (up_p (by decide)), h.2.2.1.tr (FrM.sl hk), by rw [(FrM.sl hk).2.1]; exact h.2.2.2⟩
/-! what changes -/
def bWear (B : BV) (w x : Nat) : BV := (bN B, bK B, bF B, bC B, (fun j => if j = w then x else bW B j), bS B, bH B, bP B, bO B)
def bLose (B : BV) (w : Nat) : BV := (bN B, bK B, bF B, bC B, bW B, (fun j => if j = w then false else bS B j), bH B, bP B, bO B)
def bTake (B : BV) (w k f : Nat) : BV := (bN B, (fun j => if j = w then k else bK B j), (fun j => if j = w then f else bF B j), bC B, bW B, bS B, bH B, bP B, bO B)
def bBuild (B : BV) (k f c : Nat) : BV := (bN B + 1, (fun j => if j = bN B then k else bK B j), (fun j => if j = bN B then f else bF B j), (fun j => if j = bN B then c else bC B j), (fun j => if j = bN B then 0 else bW B j), (fun j => if j = bN B then true else bS B j), bH B, bP B, bO B)
def bSettle (B : BV) : BV := (bN B, bK B, bF B, bC B, bW B, bS B, bH B, bP B - bO B, 0)
def bAt (B : BV) (h : Nat) : BV := (bN B, bK B, bF B, bC B, bW B, bS B, h, bP B, bO B)
theorem WF.wear {n H w x : Nat} {B : BV} (h : WF n H B) (hx : x < 100) : WF n H (bWear B w x) := by
  obtain ⟨a, b, c, d, e, f⟩ := h
  refine ⟨a, fun j hj => ?_, c, d, e, f⟩
  obtain ⟨p, q, r, t⟩ := b j hj
  refine ⟨p, q, r, ?_⟩
  show (if j = w then x else bW B j) < 100
  split
  · exact hx
  · exact t
theorem WF.lose {n H w : Nat} {B : BV} (h : WF n H B) : WF n H (bLose B w) := by
  obtain ⟨a, b, c, d, e, f⟩ := h
  refine ⟨a, b, fun j hj => ?_, d, e, f⟩
  have hj : (if j = w then false else bS B j) = true := hj
  split at hj
  · cases hj
  · exact c j hj
theorem WF.take {n H w k f : Nat} {B : BV} (h : WF n H B) (hk : k < 6) (hf : f < 10) : WF n H (bTake B w k f) := by
  obtain ⟨a, b, c, d, e, g⟩ := h
  refine ⟨a, fun j hj => ?_, c, d, e, g⟩
  obtain ⟨p, q, r, t⟩ := b j hj
  refine ⟨?_, ?_, r, t⟩
  · show (if j = w then k else bK B j) < 6
    split
    · exact hk
    · exact p
  · show (if j = w then f else bF B j) < 10
    split
    · exact hf
    · exact q
theorem WF.build {n m H k f c : Nat} {B : BV} (h : WF n H B) (hn : bN B < m) (hk : k < 6) (hf : f < 10) (hc : c < 25) : WF m H (bBuild B k f c) := by
  obtain ⟨a, b, d, e, g, i⟩ := h
  refine ⟨hn, fun j hj => ?_, fun j hj => ?_, e, g, i⟩
  · have hj : j < bN B + 1 := hj
    show (if j = bN B then k else bK B j) < 6 ∧ (if j = bN B then f else bF B j) < 10 ∧ (if j = bN B then c else bC B j) < 25 ∧ (if j = bN B then 0 else bW B j) < 100
    by_cases y : j = bN B
    · rw [if_pos y, if_pos y, if_pos y, if_pos y]; exact ⟨hk, hf, hc, by decide⟩
    · rw [if_neg y, if_neg y, if_neg y, if_neg y]; exact b j (by omega)
  · have hj : (if j = bN B then true else bS B j) = true := hj
    show j < bN B + 1
    by_cases y : j = bN B
    · omega
    · rw [if_neg y] at hj
      exact Nat.lt_succ_of_lt (d j hj)
theorem WF.settle {n H : Nat} {B : BV} (h : WF n H B) : WF n H (bSettle B) := ⟨h.1, h.2.1, h.2.2.1, h.2.2.2.1, Nat.le_trans (Nat.sub_le _ _) h.2.2.2.2.1, Nat.zero_le _⟩
theorem WF.at {n H t : Nat} {B : BV} (h : WF n H B) (ht : t ≤ H) : WF n H (bAt B t) := ⟨h.1, h.2.1, h.2.2.1, ht, h.2.2.2.2.1, h.2.2.2.2.2⟩
theorem WF.more {n m H G : Nat} {B : BV} (h : WF n H B) (hn : n ≤ m) (hH : H ≤ G) : WF m G B := ⟨Nat.le_trans h.1 hn, h.2.1, h.2.2.1, Nat.le_trans h.2.2.2.1 hH, h.2.2.2.2.1, h.2.2.2.2.2⟩
theorem DC.wear {B : BV} {w x : Nat} (h : DC B) : DC (bWear B w x) := h
theorem DC.take {B : BV} {w k f : Nat} (h : DC B) : DC (bTake B w k f) := h
theorem DC.settle {B : BV} (h : DC B) : DC (bSettle B) := h
theorem DC.lose {B : BV} {w : Nat} (h : DC B) : DC (bLose B w) := by
  intro i j hi hj hc
  have hi : (if i = w then false else bS B i) = true := hi
  have hj : (if j = w then false else bS B j) = true := hj
  split at hi
  · cases hi
  · split at hj
    · cases hj
    · exact h i j hi hj hc
theorem wo_none {B : BV} {c : Nat} (h : woV B c = -9) : ∀ j, j < 10 → ¬ (bS B j = true ∧ bC B j = c) := by
  rcases wo_or B c 10 0 with ⟨h1, h2⟩ | ⟨j, h1, h2, h3, h4, h5⟩
  · exact fun j hj => h2 j (Nat.zero_le _) (by omega)
  · have : nI j = -9 := h5.symm.trans h
    rw [i_eq, i_n (by omega)] at this
    have e : (-9 : Int32).toInt = -9 := by decide
    omega
theorem DC.build {B : BV} {n H k f c : Nat} (hw : WF n H B) (hn : n ≤ 10) (h : DC B) (hc : woV B c = -9) : DC (bBuild B k f c) := by
  intro i j hi hj he
  have hi : (if i = bN B then true else bS B i) = true := hi
  have hj : (if j = bN B then true else bS B j) = true := hj
  have he : (if i = bN B then c else bC B i) = (if j = bN B then c else bC B j) := he
  have hb := hw.1
  by_cases y : i = bN B
  · by_cases z : j = bN B
    · omega
    · rw [if_pos y, if_neg z] at he
      rw [if_neg z] at hj
      have := hw.2.2.1 j hj
      exact absurd ⟨hj, he.symm⟩ (wo_none hc j (by omega))
  · by_cases z : j = bN B
    · rw [if_neg y, if_pos z] at he
      rw [if_neg y] at hi
      have := hw.2.2.1 i hi
      exact absurd ⟨hi, he⟩ (wo_none hc i (by omega))
    · rw [if_neg y] at hi he
      rw [if_neg z] at hj he
      exact h i j hi hj he
/-- by the class -/
theorem p0_loses {b w : Nat} {B : BV} {M : MM} {Q : MM → Prop} (hR : RB b B M) (hn : bN B ≤ 10) (hw : w < bN B) (k : ∀ M', RB b (bLose B w) M' → (∀ p, p ≠ b → M' p = M p) → Q M') : D0_loses b (nI w) M Q := by
  unfold D0_loses
  refine p0_knows hR.1 hn (by omega) ?_
  rw [decide_eq_true hw]
  refine ⟨fun z => absurd z (by decide), fun _ => ?_⟩
  show Q (up M b 5 (M b 5 &&& (((1 : Int32) <<< (nI w &&& 31)) ^^^ (-1))))
  rw [hR.2.1, z_clear _ _ (by omega)]
  have e : clr (mk (bS B) 10) w = mk (bS (bLose B w)) 10 := mk_of (fun i => by
    rw [clr_bit (Nat.lt_trans (mk_lt _ 10) (by decide)), mk_bit]
    show _ = (decide (i < 10) && (if i = w then false else bS B i))
    by_cases y : i = w
    · rw [if_pos y, y]; simp
    · rw [if_neg y]; simp [y])
  rw [e]
  obtain ⟨a, b', c, d, f, g⟩ := hR
  refine k _ ⟨by rw [up_k (by decide)]; exact a, up_s, by rw [up_k (by decide)]; exact c, by rw [up_k (by decide)]; exact d, by rw [up_k (by decide)]; exact f, fun j hj => ?_⟩ (fun p hp => up_p hp)
  rw [up_b (by decide), up_b (by decide), up_b (by decide), up_b (by decide)]
  exact g j hj
theorem p0_wears {b w x : Nat} {B : BV} {M : MM} {Q : MM → Prop} (hb : isB b) (hR : RB b B M) (hn : bN B ≤ 10) (hw : w < bN B) (k : ∀ M', RB b (bWear B w x) M' → (∀ p, p ≠ b + 4 → M' p = M p) → Q M') : D0_wears b (nI w) (nI x) M Q := by
  unfold D0_wears
  refine p0_knows hR.1 hn (by omega) ?_
  rw [decide_eq_true hw]
  refine ⟨fun z => absurd z (by decide), fun _ => ⟨isB_ib4 hb (by omega), ?_⟩⟩
  show Q (up M (b + 4) (ix (nI w)) (nI x))
  rw [z_ix (by omega)]
  obtain ⟨a, b', c, d, f, g⟩ := hR
  refine k _ ⟨by rw [up_b4]; exact a, by rw [up_b4]; exact b', by rw [up_b4]; exact c, by rw [up_b4]; exact d, by rw [up_b4]; exact f, fun j hj => ?_⟩ (fun p hp => up_p hp)
  obtain ⟨g1, g2, g3, g4⟩ := g j hj
  rw [up_b4' (by decide), up_b4' (by decide), up_b4' (by decide)]
  refine ⟨g1, g2, g3, ?_⟩
  show up M (b + 4) w (nI x) (b + 4) j = nI (if j = w then x else bW B j)
  by_cases y : j = w
  · rw [if_pos y, y, up_s]
  · rw [if_neg y, up_k y]; exact g4
theorem p0_takesFor {b w x z : Nat} {B : BV} {M : MM} {Q : MM → Prop} (hb : isB b) (hR : RB b B M) (hn : bN B ≤ 10) (hw : w < bN B) (k : ∀ M', RB b (bTake B w x z) M' → (∀ p, p ≠ b + 1 → p ≠ b + 2 → M' p = M p) → Q M') : D0_takesFor b (nI w) (nI x) (nI z) M Q := by
  unfold D0_takesFor
  refine p0_knows hR.1 hn (by omega) ?_
  rw [decide_eq_true hw]
  refine ⟨fun z => absurd z (by decide), fun _ => ⟨isB_ib1 hb (by omega), isB_ib2 hb (by omega), ?_⟩⟩
  show Q (up (up M (b + 1) (ix (nI w)) (nI x)) (b + 2) (ix (nI w)) (nI z))
  rw [z_ix (by omega)]
  obtain ⟨a, b', c, d, f, g⟩ := hR
  have u : ∀ (N : MM) (r : Nat) (v : Int32), 0 < r → up N (b + r) w v b = N b := fun N r v hr => up_p (by omega)
  refine k _ ⟨by rw [u _ 2 _ (by decide), u _ 1 _ (by decide)]; exact a, by rw [u _ 2 _ (by decide), u _ 1 _ (by decide)]; exact b', by rw [u _ 2 _ (by decide), u _ 1 _ (by decide)]; exact c, by rw [u _ 2 _ (by decide), u _ 1 _ (by decide)]; exact d, by rw [u _ 2 _ (by decide), u _ 1 _ (by decide)]; exact f, fun j hj => ?_⟩ (fun p h1 h2 => by rw [up_p h2, up_p h1])
  obtain ⟨g1, g2, g3, g4⟩ := g j hj
  have v : ∀ (N : MM) (r t : Nat) (y : Int32), r ≠ t → up N (b + r) w y (b + t) = N (b + t) := fun N r t y hr => up_p (by omega)
  rw [v _ 2 1 _ (by decide), v _ 2 3 _ (by decide), v _ 1 3 _ (by decide), v _ 2 4 _ (by decide), v _ 1 4 _ (by decide)]
  refine ⟨?_, ?_, g3, g4⟩
  · show up M (b + 1) w (nI x) (b + 1) j = nI (if j = w then x else bK B j)
    by_cases y : j = w
    · rw [if_pos y, y, up_s]
    · rw [if_neg y, up_k y]; exact g1
  · show up (up M (b + 1) w (nI x)) (b + 2) w (nI z) (b + 2) j = nI (if j = w then z else bF B j)
    by_cases y : j = w
    · rw [if_pos y, y, up_s]
    · rw [if_neg y, up_k y, v _ 1 2 _ (by decide)]; exact g2
theorem p0_builds {b x y z H : Nat} {B : BV} {M : MM} {Q : MM → Prop} (hb : isB b) (hR : RB b B M) (hw : WF 10 H B) (hn : bN B < 10) (k : ∀ M', RB b (bBuild B x y z) M' → (∀ p, (p < b ∨ b + 4 < p) → M' p = M p) → Q M') : D0_builds b (nI x) (nI y) (nI z) M Q := by
  unfold D0_builds
  obtain ⟨a, b', c, d, f, g⟩ := hR
  rw [a]
  refine ⟨fun z => absurd z (nI_pos (by omega)), fun _ => ?_⟩
  rw [show (10 : Int32) = nI 10 from rfl, z_lt (by omega) (by decide)]
  refine ⟨fun _ => ⟨isB_ib1 hb hn, isB_ib2 hb hn, isB_ib3 hb hn, isB_ib4 hb hn, ?_⟩, fun q => absurd hn q⟩
  dsimp only
  rw [z_ix (show bN B < 2 ^ 31 by omega), z_shl _ (show bN B < 31 by omega)]
  have u : ∀ (N : MM) (r : Nat) (v : Int32), 0 < r → up N (b + r) (bN B) v b = N b := fun N r v hr => up_p (by omega)
  have v : ∀ (N : MM) (r t : Nat) (y : Int32), r ≠ t → up N (b + r) (bN B) y (b + t) = N (b + t) := fun N r t y hr => up_p (by omega)
  have v0 : ∀ (N : MM) (i t : Nat) (y : Int32), 0 < t → up N b i y (b + t) = N (b + t) := fun N i t y hr => up_p (by omega)
  simp only [u _ 4 _ (by decide), u _ 3 _ (by decide), u _ 2 _ (by decide), u _ 1 _ (by decide), up_k (show (4 : Nat) ≠ 5 by decide), a, b', z_or, nI_1]
  have eb : mk (bS B) 10 ||| 2 ^ bN B = mk (bS (bBuild B x y z)) 10 := mk_of (fun i => by
    rw [Nat.testBit_or, mk_bit, Nat.testBit_two_pow]
    show _ = (decide (i < 10) && (if i = bN B then true else bS B i))
    by_cases e : i = bN B
    · rw [if_pos e, e]; simp; omega
    · rw [if_neg e]; simp [show ¬ bN B = i from fun h => e h.symm])
  rw [eb]
  refine k _ ⟨up_s, by rw [up_k (by decide), up_s], ?_, ?_, ?_, fun j hj => ?_⟩ (fun p hp => by rw [up_p (by omega), up_p (by omega), up_p (by omega), up_p (by omega), up_p (by omega), up_p (by omega)])
  · rw [up_k (by decide), up_k (by decide), u _ 4 _ (by decide), u _ 3 _ (by decide), u _ 2 _ (by decide), u _ 1 _ (by decide)]; exact c
  · rw [up_k (by decide), up_k (by decide), u _ 4 _ (by decide), u _ 3 _ (by decide), u _ 2 _ (by decide), u _ 1 _ (by decide)]; exact d
  · rw [up_k (by decide), up_k (by decide), u _ 4 _ (by decide), u _ 3 _ (by decide), u _ 2 _ (by decide), u _ 1 _ (by decide)]; exact f
  · have hj : j < bN B + 1 := hj
    simp only [v0 _ _ 1 _ (by decide), v0 _ _ 2 _ (by decide), v0 _ _ 3 _ (by decide), v0 _ _ 4 _ (by decide), v _ 4 1 _ (by decide), v _ 4 2 _ (by decide), v _ 4 3 _ (by decide), v _ 3 1 _ (by decide), v _ 3 2 _ (by decide), v _ 2 1 _ (by decide)]
    show _ = nI (if j = bN B then x else bK B j) ∧ _ = nI (if j = bN B then y else bF B j) ∧ _ = nI (if j = bN B then z else bC B j) ∧ _ = nI (if j = bN B then 0 else bW B j)
    by_cases e : j = bN B
    · simp only [if_pos e]
      subst e
      exact ⟨up_s, up_s, up_s, up_s⟩
    · simp only [if_neg e]
      obtain ⟨g1, g2, g3, g4⟩ := g j (by omega)
      rw [up_k e, up_k e, up_k e, up_k e, v _ 1 2 _ (by decide), v _ 2 3 _ (by decide), v _ 1 3 _ (by decide), v _ 3 4 _ (by decide), v _ 2 4 _ (by decide), v _ 1 4 _ (by decide)]
      exact ⟨g1, g2, g3, g4⟩
theorem p0_settles {b : Nat} {B : BV} {M : MM} {Q : MM → Prop} (hR : RB b B M) (hp : bP B ≤ 9999) (ho : bO B ≤ 9999) (k : ∀ M', RB b (bSettle B) M' → (∀ p, p ≠ b → M' p = M p) → Q M') : D0_settles b M Q := by
  unfold D0_settles
  obtain ⟨a, b', c, d, f, g⟩ := hR
  rw [d, f]
  have e : (if (0 : Int32) < nI (bP B) - nI (bO B) then nI (bP B) - nI (bO B) else 0) = nI (bP B - bO B) := by
    by_cases h : bO B ≤ bP B
    · rw [pk_sub h, show (0 : Int32) = nI 0 from rfl, z_iflt (by decide) (by omega)]
      split
      · rfl
      · rw [show bP B - bO B = 0 by omega]
    · have hs : (nI (bP B) - nI (bO B)).toInt = (bP B : Int) - bO B := pk_sub_toInt (by omega) (by omega)
      rw [if_neg (by rw [i_lt, hs]; have : (0 : Int32).toInt = 0 := by decide
                     omega), show bP B - bO B = 0 by omega]
      rfl
  show Q (up (up M b 7 (if (0 : Int32) < nI (bP B) - nI (bO B) then nI (bP B) - nI (bO B) else 0)) b 8 (nI 0))
  rw [e]
  refine k _ ⟨by rw [up_k (by decide), up_k (by decide)]; exact a, by rw [up_k (by decide), up_k (by decide)]; exact b', by rw [up_k (by decide), up_k (by decide)]; exact c, by rw [up_k (by decide), up_s]; rfl, up_s, fun j hj => ?_⟩ (fun p hp => by rw [up_p hp, up_p hp])
  rw [up_b (by decide), up_b (by decide), up_b (by decide), up_b (by decide), up_b (by decide), up_b (by decide), up_b (by decide), up_b (by decide)]
  exact g j hj
/-- by the model -/
theorem RM.wear {B : BV} {M : MM} {w x : Nat} (h : RM B M) : RM (bWear B w x) (up M 66 w (nI x)) := by
  obtain ⟨a, b, c, d, e⟩ := h
  refine ⟨by rw [up_p (by decide)]; exact a, by rw [up_p (by decide)]; exact b, by rw [up_p (by decide)]; exact c, by rw [up_p (by decide)]; exact d, fun j hj => ?_⟩
  obtain ⟨e1, e2, e3, e4, e5⟩ := e j hj
  rw [up_p (by decide), up_p (by decide), up_p (by decide), up_p (show (67 : Nat) ≠ 66 by decide)]
  refine ⟨e1, e2, e3, ?_, e5⟩
  show up M 66 w (nI x) 66 j = nI (if j = w then x else bW B j)
  by_cases y : j = w
  · rw [if_pos y, y, up_s]
  · rw [if_neg y, up_k y]; exact e4
theorem RM.lose {B : BV} {M : MM} {w : Nat} (h : RM B M) : RM (bLose B w) (up M 67 w (nI 1)) := by
  obtain ⟨a, b, c, d, e⟩ := h
  refine ⟨by rw [up_p (by decide)]; exact a, by rw [up_p (by decide)]; exact b, by rw [up_p (by decide)]; exact c, by rw [up_p (by decide)]; exact d, fun j hj => ?_⟩
  obtain ⟨e1, e2, e3, e4, e5⟩ := e j hj
  rw [up_p (by decide), up_p (by decide), up_p (by decide), up_p (by decide)]
  refine ⟨e1, e2, e3, e4, ?_⟩
  show up M 67 w (nI 1) 67 j = nI (!(if j = w then false else bS B j)).toNat
  by_cases y : j = w
  · rw [if_pos y, y, up_s]; rfl
  · rw [if_neg y, up_k y]; exact e5
theorem RM.kind {B : BV} {M : MM} {w k : Nat} (h : RM B M) : RM (bTake B w k (bF B w)) (up M 63 w (nI k)) := by
  obtain ⟨a, b, c, d, e⟩ := h
  refine ⟨by rw [up_p (by decide)]; exact a, by rw [up_p (by decide)]; exact b, by rw [up_p (by decide)]; exact c, by rw [up_p (by decide)]; exact d, fun j hj => ?_⟩
  obtain ⟨e1, e2, e3, e4, e5⟩ := e j hj
  rw [up_p (show (64 : Nat) ≠ 63 by decide), up_p (show (65 : Nat) ≠ 63 by decide), up_p (show (66 : Nat) ≠ 63 by decide), up_p (show (67 : Nat) ≠ 63 by decide)]
  refine ⟨?_, ?_, e3, e4, e5⟩
  · show up M 63 w (nI k) 63 j = nI (if j = w then k else bK B j)
    by_cases y : j = w
    · rw [if_pos y, y, up_s]
    · rw [if_neg y, up_k y]; exact e1
  · show M 64 j = nI (if j = w then bF B w else bF B j)
    by_cases y : j = w
    · rw [if_pos y, e2, y]
    · rw [if_neg y]; exact e2
theorem RM.figure {B : BV} {M : MM} {w f : Nat} (h : RM B M) : RM (bTake B w (bK B w) f) (up M 64 w (nI f)) := by
  obtain ⟨a, b, c, d, e⟩ := h
  refine ⟨by rw [up_p (by decide)]; exact a, by rw [up_p (by decide)]; exact b, by rw [up_p (by decide)]; exact c, by rw [up_p (by decide)]; exact d, fun j hj => ?_⟩
  obtain ⟨e1, e2, e3, e4, e5⟩ := e j hj
  rw [up_p (show (63 : Nat) ≠ 64 by decide), up_p (show (65 : Nat) ≠ 64 by decide), up_p (show (66 : Nat) ≠ 64 by decide), up_p (show (67 : Nat) ≠ 64 by decide)]
  refine ⟨?_, ?_, e3, e4, e5⟩
  · show M 63 j = nI (if j = w then bK B w else bK B j)
    by_cases y : j = w
    · rw [if_pos y, e1, y]
    · rw [if_neg y]; exact e1
  · show up M 64 w (nI f) 64 j = nI (if j = w then f else bF B j)
    by_cases y : j = w
    · rw [if_pos y, y, up_s]
    · rw [if_neg y, up_k y]; exact e2
theorem RM.today {B : BV} {M : MM} {t : Nat} (h : RM B M) : RM (bAt B t) (up M 62 8 (nI t)) := by
  obtain ⟨a, b, c, d, e⟩ := h
  refine ⟨by rw [up_k (by decide)]; exact a, by rw [up_k (by decide)]; exact b, by rw [up_k (by decide)]; exact c, up_s, fun j hj => ?_⟩
  rw [up_p (by decide), up_p (by decide), up_p (by decide), up_p (by decide), up_p (by decide)]
  exact e j hj
theorem p5_workComes {x y z : Nat} {B : BV} {M : MM} {Q : MM → Prop} (hR : RM B M) (hn : bN B < 10) (k : ∀ M', RM (bBuild B x y z) M' → (∀ p j, (p = 62 → j ≠ 0) → (p < 63 ∨ 67 < p) → M' p j = M p j) → Q M') : D5_workComes (nI x) (nI y) (nI z) M Q := by
  unfold D5_workComes
  obtain ⟨a, b, c, d, e⟩ := hR
  have hib : ∀ p, 63 ≤ p → p ≤ 67 → ib p (nI (bN B)) := by
    intro p h1 h2
    rcases (show p = 63 ∨ p = 64 ∨ p = 65 ∨ p = 66 ∨ p = 67 by omega) with rfl | rfl | rfl | rfl | rfl <;> exact ibc ⟨by decide, rfl⟩ rfl hn (by decide)
  have u : ∀ (N : MM) (p i : Nat) (v : Int32), 63 ≤ p → up N p i v 62 = N 62 := fun N p i v h => up_p (by omega)
  dsimp only
  simp only [u _ 63 _ _ (by decide), u _ 64 _ _ (by decide), u _ 65 _ _ (by decide), u _ 66 _ _ (by decide), u _ 67 _ _ (by decide), a, z_ix (show bN B < 2 ^ 31 by omega), nI_1]
  refine ⟨hib 63 (by decide) (by decide), hib 64 (by decide) (by decide), hib 65 (by decide) (by decide), hib 66 (by decide) (by decide), hib 67 (by decide) (by decide), ?_⟩
  refine k _ ⟨up_s, ?_, ?_, ?_, fun j hj => ?_⟩ (fun p j h1 h2 => ?_)
  · rw [up_k (by decide), u _ 67 _ _ (by decide), u _ 66 _ _ (by decide), u _ 65 _ _ (by decide), u _ 64 _ _ (by decide), u _ 63 _ _ (by decide)]; exact b
  · rw [up_k (by decide), u _ 67 _ _ (by decide), u _ 66 _ _ (by decide), u _ 65 _ _ (by decide), u _ 64 _ _ (by decide), u _ 63 _ _ (by decide)]; exact c
  · rw [up_k (by decide), u _ 67 _ _ (by decide), u _ 66 _ _ (by decide), u _ 65 _ _ (by decide), u _ 64 _ _ (by decide), u _ 63 _ _ (by decide)]; exact d
  · have hj : j < bN B + 1 := hj
    have v : ∀ (N : MM) (r t i : Nat) (y : Int32), t ≠ r → up N r i y t = N t := fun N r t i y hr => up_p hr
    simp only [v _ 62 63 _ _ (by decide), v _ 62 64 _ _ (by decide), v _ 62 65 _ _ (by decide), v _ 62 66 _ _ (by decide), v _ 62 67 _ _ (by decide), v _ 67 63 _ _ (by decide), v _ 67 64 _ _ (by decide), v _ 67 65 _ _ (by decide), v _ 67 66 _ _ (by decide), v _ 66 63 _ _ (by decide), v _ 66 64 _ _ (by decide), v _ 66 65 _ _ (by decide), v _ 65 63 _ _ (by decide), v _ 65 64 _ _ (by decide), v _ 64 63 _ _ (by decide)]
    show _ = nI (if j = bN B then x else bK B j) ∧ _ = nI (if j = bN B then y else bF B j) ∧ _ = nI (if j = bN B then z else bC B j) ∧ _ = nI (if j = bN B then 0 else bW B j) ∧ _ = nI (!(if j = bN B then true else bS B j)).toNat
    by_cases e2 : j = bN B
    · simp only [if_pos e2]
      subst e2
      exact ⟨up_s, up_s, up_s, up_s, up_s⟩
    · simp only [if_neg e2]
      obtain ⟨g1, g2, g3, g4, g5⟩ := e j (by omega)
      rw [up_k e2, up_k e2, up_k e2, up_k e2, up_k e2, v _ 63 64 _ _ (by decide), v _ 64 65 _ _ (by decide), v _ 63 65 _ _ (by decide), v _ 65 66 _ _ (by decide), v _ 64 66 _ _ (by decide), v _ 63 66 _ _ (by decide), v _ 66 67 _ _ (by decide), v _ 65 67 _ _ (by decide), v _ 64 67 _ _ (by decide), v _ 63 67 _ _ (by decide)]
      exact ⟨g1, g2, g3, g4, g5⟩
  · by_cases y : p = 62
    · subst y
      rw [up_k (h1 rfl), u _ 67 _ _ (by decide), u _ 66 _ _ (by decide), u _ 65 _ _ (by decide), u _ 64 _ _ (by decide), u _ 63 _ _ (by decide)]
    · rw [up_p y, up_p (by omega), up_p (by omega), up_p (by omega), up_p (by omega), up_p (by omega)]
theorem p5_payAll {B : BV} {M : MM} {Q : Int32 → MM → Prop} (hR : RM B M) (hp : bP B ≤ 9999) (ho : bO B ≤ 9999) (k : ∀ M', RM (bSettle B) M' → (∀ p j, (p = 62 → j ≠ 6 ∧ j ≠ 7) → M' p j = M p j) → Q (nI (bO B)) M') : D5_payAll M Q := by
  unfold D5_payAll
  obtain ⟨a, b, c, d, e⟩ := hR
  rw [b, c]
  have fin : Q (nI (bO B)) (up (up M 62 6 (nI (bP B - bO B))) 62 7 0) := by
    refine k _ ⟨?_, ?_, up_s, ?_, fun j hj => ?_⟩ (fun p j h => ?_)
    · rw [up_k (by decide), up_k (by decide)]; exact a
    · rw [up_k (by decide), up_s]; rfl
    · rw [up_k (by decide), up_k (by decide)]; exact d
    · rw [up_p (by decide), up_p (by decide), up_p (by decide), up_p (by decide), up_p (by decide), up_p (by decide), up_p (by decide), up_p (by decide), up_p (by decide), up_p (by decide)]
      exact e j hj
    · by_cases y : p = 62
      · subst y
        have := h rfl
        rw [up_k (by omega), up_k (by omega)]
      · rw [up_p y, up_p y]
  by_cases h : bO B ≤ bP B
  · rw [pk_sub h]
    refine p5_held (h := 9999) (by omega) (by decide) ?_
    rw [if_pos (by omega)]
    exact fin
  · have hs : (nI (bP B) - nI (bO B)).toInt = (bP B : Int) - bO B := pk_sub_toInt (by omega) (by omega)
    refine p5_heldN (h := 9999) (by rw [i_le, hs]; have : (0 : Int32).toInt = 0 := by decide
                                    omega) ?_
    rw [show bP B - bO B = 0 by omega] at fin
    exact fin
