/-! PURE PART: keep -/
theorem kc_build {B : BV} {x y z H : Nat} {M0 M : MM} {Q : MM → Prop} (hw : WF 10 H B) (hn : bN B < 10) (h : KC B M0 M) (k : ∀ M', KC (bBuild B x y z) M0 M' → Q M') : D0_builds 6 (nI x) (nI y) (nI z) M Q :=
  p0_builds isB6 h.1 hw hn (fun M2 h2 f2 => k M2 ⟨h2, h.2.tr (FrC.of6' f2)⟩)
theorem km_build {s : SG} {B : BV} {x y z : Nat} {M0 M : MM} {Q : MM → Prop} (hn : bN B < 10) (h : KM s B M0 M) (k : ∀ M', KM s (bBuild B x y z) M0 M' → Q M') : D5_workComes (nI x) (nI y) (nI z) M Q := by
  refine p5_workComes h.1 hn (fun M2 h2 f2 => ?_)
  have fr : FrM M M2 := ⟨fun p a => funext fun j => f2 p j (fun e => by omega) (by omega), f2 62 15 (fun _ => by decide) (by decide), f2 62 17 (fun _ => by decide) (by decide), f2 62 26 (fun _ => by decide) (by decide), f2 62 32 (fun _ => by decide) (by decide), f2 62 36 (fun _ => by decide) (by decide), funext fun j => f2 68 j (fun e => by omega) (by decide), funext fun j => f2 71 j (fun e => by omega) (by decide), funext fun j => f2 76 j (fun e => by omega) (by decide), funext fun j => f2 77 j (fun e => by omega) (by decide), funext fun j => f2 81 j (fun e => by omega) (by decide)⟩
  exact k M2 ⟨h2, h.2.1.cong (funext fun j => f2 75 j (fun e => by omega) (by decide)), h.2.2.1.tr fr, fr.2.1.trans h.2.2.2⟩
/-- a cell is not wet behind 0 .. n hours -/
def stD (B : BV) (c n : Nat) : Bool := decide (∀ k, k < n + 1 → flP B c k = false)
theorem stD_t {B : BV} {c n : Nat} (h : ∀ k, k < n + 1 → flP B c k = false) : stD B c n = true := decide_eq_true h
theorem stD_f {B : BV} {c n k : Nat} (hk : k ≤ n) (h : flP B c k = true) : stD B c n = false := decide_eq_false (fun z => by rw [z k (by omega)] at h; cases h)
theorem c_stays_loop {B : BV} {c t : Nat} {M0 : MM} {Q : Int32 → MM → Prop} (hw : WF 10 999 B) (hc : c < 25) (ht : t ≤ 60) (q : ∀ M', FrC M0 M' → Q (b2 (stD B c t)) M') :
    ∀ (n i : Nat) (M : MM), i ≤ t → t - i < n → (∀ k, k < i → flP B c k = false) → KC (hrs B i) M0 M → D4_staysDry_c46 Q n (nI c) (nI t) (nI i) M := by
  intro n
  induction n with
  | zero => intro i M h1 h2; omega
  | succ n ih =>
    intro i M h1 h2 he hk
    unfold D4_staysDry_c46 D4_staysDry_c82
    rw [z_le (by omega) (by omega)]
    have q := q M hk.2
    refine ⟨fun z => ?_, fun z => ?_⟩
    · have e : i = t := by omega
      subst e
      refine kc_wetNow (H := 999 + i) (hrs_wf hw i) (by omega) hk ?_
      refine p3_has (Nat.lt_trans (wet_lt _ _) (by decide)) (by omega) ?_
      rw [b2l_n0, b2l_0]
      refine ⟨fun c2 => ?_, fun c2 => ?_⟩
      · have c2 : flP B c i = true := c2
        rw [stD_f (Nat.le_refl i) c2] at q; exact q
      · have c2 : flP B c i = false := c2
        rw [stD_t (fun k hk => by
          by_cases y : k = i
          · rw [y]; exact c2
          · exact he k (by omega))] at q
        exact q
    · refine kc_wetNow (H := 999 + i) (hrs_wf hw i) (by omega) hk ?_
      refine p3_has (Nat.lt_trans (wet_lt _ _) (by decide)) (by omega) ?_
      rw [b2l_0]
      refine ⟨fun c2 => ?_, fun c2 => ?_⟩
      · have c2 : flP B c i = false := c2
        show D0_goesOn 6 (nI 1) M _
        refine kc_hrs (H := 999 + i) (hrs_wf hw i) (by omega) (by decide) hk (fun M' k' => ?_)
        show D4_staysDry_c46 Q n (nI c) (nI t) (nI i + 1) M'
        rw [nI_1]
        refine ih (i + 1) M' (by omega) (by omega) (fun k hk => ?_) k'
        by_cases y : k = i
        · rw [y]; exact c2
        · exact he k (by omega)
      · have c2 : flP B c i = true := b_nf c2
        rw [stD_f h1 c2] at q; exact q
theorem c_stays0 {s : SG} {c t : Nat} {M0 M : MM} {Q : Int32 → MM → Prop} (hR : RepC s M0) (hf : FrC M0 M) (hc : c < 25) (ht : t ≤ 60) (q : ∀ M', FrC M0 M' → Q (b2 (stD (sB s) c t)) M') : D4_staysDry (nI c) (nI t) (-9) (-9) M Q := by
  unfold D4_staysDry D4_staysDry_c26 D4_staysDry_c43
  refine kc_becomes hR hf (fun M1 k1 => ⟨fun _ => ⟨fun _ => ?_, fun z => absurd (by decide) z⟩, fun z => absurd (by decide) z⟩)
  exact c_stays_loop (WFm hR.2.1) hc ht q FU 0 M1 (Nat.zero_le _) (Nat.lt_of_le_of_lt (Nat.le_trans (Nat.sub_le _ _) ht) (by decide)) (fun k h => by omega) k1
theorem c_stays1 {s : SG} {c t a : Nat} {M0 M : MM} {Q : Int32 → MM → Prop} (hR : RepC s M0) (hf : FrC M0 M) (hc : c < 25) (ht : t ≤ 60) (ha : a < 25) (q : ∀ M', FrC M0 M' → Q (b2 (stD (bBuild (sB s) 0 9 a) c t)) M') : D4_staysDry (nI c) (nI t) (nI a) (-9) M Q := by
  have hw := WFm hR.2.1
  have hn := hR.2.1.1
  unfold D4_staysDry D4_staysDry_c26 D4_staysDry_c43
  refine kc_becomes hR hf (fun M1 k1 => ⟨fun z => absurd z (nI_pos (by omega)), fun _ => ?_⟩)
  show D0_builds 6 (nI 0) (nI 9) (nI a) M1 _
  refine kc_build hw (by omega) k1 (fun M2 k2 => ⟨fun _ => ?_, fun z => absurd (by decide) z⟩)
  exact c_stays_loop (hw.build (by omega) (by decide) (by decide) ha) hc ht q FU 0 M2 (Nat.zero_le _) (Nat.lt_of_le_of_lt (Nat.le_trans (Nat.sub_le _ _) ht) (by decide)) (fun k h => by omega) k2
theorem c_stays2 {s : SG} {c t a b : Nat} {M0 M : MM} {Q : Int32 → MM → Prop} (hR : RepC s M0) (hf : FrC M0 M) (hc : c < 25) (ht : t ≤ 60) (ha : a < 25) (hb : b < 25) (q : ∀ M', FrC M0 M' → Q (b2 (stD (bBuild (bBuild (sB s) 0 9 a) 0 9 b) c t)) M') : D4_staysDry (nI c) (nI t) (nI a) (nI b) M Q := by
  have hw := WFm hR.2.1
  have hn := hR.2.1.1
  have hn1 : bN (bBuild (sB s) 0 9 a) < 10 := by show bN (sB s) + 1 < 10; omega
  have hw1 : WF 10 999 (bBuild (sB s) 0 9 a) := hw.build (by omega) (by decide) (by decide) ha
  unfold D4_staysDry D4_staysDry_c26 D4_staysDry_c43
  refine kc_becomes hR hf (fun M1 k1 => ⟨fun z => absurd z (nI_pos (by omega)), fun _ => ?_⟩)
  show D0_builds 6 (nI 0) (nI 9) (nI a) M1 _
  refine kc_build hw (by omega) k1 (fun M2 k2 => ⟨fun z => absurd z (nI_pos (by omega)), fun _ => ?_⟩)
  show D0_builds 6 (nI 0) (nI 9) (nI b) M2 _
  refine kc_build hw1 hn1 k2 (fun M3 k3 => ?_)
  exact c_stays_loop (hw1.build hn1 (by decide) (by decide) hb) hc ht q FU 0 M3 (Nat.zero_le _) (Nat.lt_of_le_of_lt (Nat.le_trans (Nat.sub_le _ _) ht) (by decide)) (fun k h => by omega) k3
theorem m_stays_loop {s : SG} {B : BV} {c t : Nat} {M0 : MM} {Q : Int32 → MM → Prop} (hs : WF 8 999 (sB s)) (hw : WF 10 999 B) (hc : c < 25) (ht : t ≤ 60) (q : ∀ M', KM s (sB s) M0 M' → Q (b2 (stD B c t)) M') :
    ∀ (n i : Nat) (M : MM), i ≤ t + 1 → t + 1 - i < n → (∀ k, k < i → flP B c k = false) → KM s (hrs B i) M0 M → D5_staysDry_c5 Q n (nI c) (nI t) 1 (nI i) M := by
  intro n
  induction n with
  | zero => intro i M h1 h2; omega
  | succ n ih =>
    intro i M h1 h2 he hk
    unfold D5_staysDry_c5
    rw [z_lt (by omega) (by omega)]
    refine ⟨fun z => ?_, fun z => ⟨fun y => absurd y (by decide), fun _ => ?_⟩⟩
    · have e : i = t + 1 := by omega
      subst e
      rw [stD_t he] at q
      exact km_again hs hk (fun M' k' => ⟨Or.inr rfl, q M' k'⟩)
    · refine km_wetNow (H := 999 + i) (hrs_wf hw i) (by omega) hk (fun M1 k1 => ?_)
      refine p5_hasBit (Nat.lt_trans (wet_lt _ _) (by decide)) (by omega) ?_
      rw [b2l_n0, b2l_0]
      refine ⟨fun c2 => ?_, fun c2 => ?_⟩
      · have c2 : flP B c i = true := c2
        obtain ⟨m, rfl⟩ : ∃ m, n = m + 1 := ⟨n - 1, by omega⟩
        show D5_hourBy (nI 0) M1 _
        refine km_hour (H := 999 + i) (hrs_wf hw i) (by omega) (by decide) k1 (fun M2 k2 => ?_)
        rw [stD_f (show i ≤ t by omega) c2] at q
        have fin : D5_staysDry_c43 Q 0 M2 := km_again hs k2 (fun M' k' => ⟨Or.inl rfl, q M' k'⟩)
        exact ⟨fun _ => fin, fun _ => ⟨fun _ => fin, fun z => absurd rfl z⟩⟩
      · have c2 : flP B c i = false := c2
        show D5_hourBy (nI 0) M1 _
        refine km_hour (H := 999 + i) (hrs_wf hw i) (by omega) (by decide) k1 (fun M2 k2 => ?_)
        show D5_staysDry_c5 Q n (nI c) (nI t) 1 (nI i + 1) M2
        rw [nI_1]
        refine ih (i + 1) M2 (by omega) (by omega) (fun k hk => ?_) k2
        by_cases y : k = i
        · rw [y]; exact c2
        · exact he k (by omega)
theorem m_stays {s : SG} {B : BV} {c t : Nat} {M0 M : MM} {Q : Int32 → MM → Prop} (hs : WF 8 999 (sB s)) (hw : WF 10 999 B) (hc : c < 25) (ht : t ≤ 60) (hk : KM s B M0 M) (q : ∀ M', KM s (sB s) M0 M' → Q (b2 (stD B c t)) M') : D5_staysDry (nI c) (nI t) M Q :=
  m_stays_loop hs hw hc ht q FU 0 M (Nat.zero_le _) (Nat.lt_of_le_of_lt (Nat.le_trans (Nat.sub_le _ _) (Nat.succ_le_succ ht)) (by decide)) (fun k h => by omega) hk
def frB (B : BV) (a : Nat) : Bool := decide (¬ (0 : Int32) ≤ woV B a)
def okP (B : BV) (c t a : Nat) : Bool := frB B a && stD (bBuild B 0 9 a) c t
def ikP (B : BV) (c t a b : Nat) : Bool := frB B a && (frB B b && stD (bBuild (bBuild B 0 9 a) 0 9 b) c t)
def tkP (B : BV) (c t a : Nat) : Bool := decide (¬ fsx (ikP B c t a) (25 - (a + 1)) (a + 1) = -9)
theorem fsx_neg {P : Nat → Bool} {n i : Nat} (h : i + n < 2 ^ 31) : (fsx P n i < 0) = (fsx P n i = -9) := by
  rcases fsx_or P n i with ⟨e, -⟩ | ⟨j, a, b, c, d, e⟩
  · rw [e]; exact propext ⟨fun _ => rfl, fun _ => by decide⟩
  · rw [e, z_neg (by omega), i_eq, i_n (by omega), show (-9 : Int32).toInt = -9 from by decide]
    exact propext ⟨fun z => absurd z id, fun z => by omega⟩
theorem c_one {s : SG} {c t : Nat} {M0 : MM} {Q : Int32 → MM → Prop} (hR : RepC s M0) (hc : c < 25) (ht : t ≤ 60) (q : ∀ M', FrC M0 M' → Q (fsx (okP (sB s) c t) 25 0) M') :
    ∀ (n i : Nat) (M : MM), i ≤ 25 → 25 - i < n → fsx (okP (sB s) c t) (25 - i) i = fsx (okP (sB s) c t) 25 0 → FrC M0 M → D4_oneKeeper_c2 Q n (nI c) (nI t) (nI i) M := by
  intro n
  induction n with
  | zero => intro i M h1 h2; omega
  | succ n ih =>
    intro i M h1 h2 he hf
    unfold D4_oneKeeper_c2
    rw [show (25 : Int32) = nI 25 from rfl, z_le (by decide) (by omega)]
    refine ⟨fun z => ?_, fun z => ?_⟩
    · have e : i = 25 := by omega
      subst e
      rw [← he] at q; exact q M hf
    · have hi : i < 25 := by omega
      rw [fsx_s hi] at he
      have nx : okP (sB s) c t i = false → ∀ M', FrC M0 M' → D4_oneKeeper_c33 (D4_oneKeeper_c2 Q n) Q (nI c) (nI t) (nI i) M' := by
        intro e M' f'
        rw [e] at he
        show D4_oneKeeper_c2 Q n (nI c) (nI t) (nI i + 1) M'
        rw [nI_1]
        exact ih (i + 1) M' (by omega) (by omega) he f'
      refine p0_workIn isB1 (WFm hR.2.1) (hR.mind hf).1 hi ⟨fun z => ?_, fun z => ?_⟩
      · exact nx (by unfold okP frB; rw [decide_eq_false (not_not_intro z)]; rfl) M hf
      · refine c_stays1 hR hf hc ht hi (fun M' f' => ?_)
        rw [b2l_0]
        have e : okP (sB s) c t i = stD (bBuild (sB s) 0 9 i) c t := by unfold okP frB; rw [decide_eq_true z]; rfl
        refine ⟨fun y => nx (e.trans y) M' f', fun y => ?_⟩
        rw [if_pos (e.trans (b_nf y))] at he
        rw [he]; exact q M' f'
theorem c_two_in {s : SG} {c t a : Nat} {M0 : MM} {K2 : Int32 → Int32 → Int32 → MM → Prop} {Q : Int32 → MM → Prop} (hR : RepC s M0) (hc : c < 25) (ht : t ≤ 60) (ha : a < 25) (k : tkP (sB s) c t a = false → ∀ M', FrC M0 M' → K2 (nI c) (nI t) (nI (a + 1)) M') (q : tkP (sB s) c t a = true → ∀ M', FrC M0 M' → Q (nI a) M') :
    ∀ (n i : Nat) (M : MM), a < i → i ≤ 25 → 25 - i < n → fsx (ikP (sB s) c t a) (25 - i) i = fsx (ikP (sB s) c t a) (25 - (a + 1)) (a + 1) → FrC M0 M → D4_firstOfTwoKeepers_c13 K2 Q n (nI c) (nI t) (nI a) (nI i) M := by
  intro n
  induction n with
  | zero => intro i M h0 h1 h2; omega
  | succ n ih =>
    intro i M h0 h1 h2 he hf
    unfold D4_firstOfTwoKeepers_c13
    rw [show (25 : Int32) = nI 25 from rfl, z_le (by decide) (by omega)]
    refine ⟨fun z => ?_, fun z => ?_⟩
    · have e : i = 25 := by omega
      subst e
      show K2 (nI c) (nI t) (nI a + 1) M
      rw [nI_1]
      exact k (by unfold tkP; rw [← he]; rfl) M hf
    · have hi : i < 25 := by omega
      rw [fsx_s hi] at he
      have nx : ikP (sB s) c t a i = false → ∀ M', FrC M0 M' → D4_firstOfTwoKeepers_c69 (D4_firstOfTwoKeepers_c13 K2 Q n) K2 Q (nI c) (nI t) (nI a) (nI i) M' := by
        intro e M' f'
        rw [e] at he
        show D4_firstOfTwoKeepers_c13 K2 Q n (nI c) (nI t) (nI a) (nI i + 1) M'
        rw [nI_1]
        exact ih (i + 1) M' (by omega) (by omega) (by omega) he f'
      have n47 : ikP (sB s) c t a i = false → D4_firstOfTwoKeepers_c47 (D4_firstOfTwoKeepers_c13 K2 Q n) K2 Q (nI c) (nI t) (nI a) (nI i) M := fun e => ⟨fun _ => nx e M hf, fun z => absurd rfl z⟩
      refine p0_workIn isB1 (WFm hR.2.1) (hR.mind hf).1 ha ⟨fun z => ?_, fun z => ?_⟩
      · exact n47 (by unfold ikP frB; rw [decide_eq_false (not_not_intro z)]; rfl)
      · have e1 : frB (sB s) a = true := decide_eq_true z
        refine p0_workIn isB1 (WFm hR.2.1) (hR.mind hf).1 hi ⟨fun z2 => ?_, fun z2 => ?_⟩
        · exact n47 (by unfold ikP; rw [show frB (sB s) i = false from decide_eq_false (not_not_intro z2), e1]; rfl)
        · have e2 : frB (sB s) i = true := decide_eq_true z2
          refine ⟨fun y => absurd y (by decide), fun _ => ?_⟩
          refine c_stays2 hR hf hc ht ha hi (fun M' f' => ?_)
          rw [b2l_0]
          have e : ikP (sB s) c t a i = stD (bBuild (bBuild (sB s) 0 9 a) 0 9 i) c t := by unfold ikP; rw [e1, e2]; rfl
          refine ⟨fun y => nx (e.trans y) M' f', fun y => ?_⟩
          rw [if_pos (e.trans (b_nf y))] at he
          refine q (decide_eq_true ?_) M' f'
          rw [← he, i_eq, i_n (by omega), show (-9 : Int32).toInt = -9 from by decide]
          omega
theorem c_two_out {s : SG} {c t : Nat} {M0 : MM} {Q : Int32 → MM → Prop} (hR : RepC s M0) (hc : c < 25) (ht : t ≤ 60) (q : ∀ M', FrC M0 M' → Q (fsx (tkP (sB s) c t) 25 0) M') :
    ∀ (n i : Nat) (M : MM), i ≤ 25 → 25 - i < n → fsx (tkP (sB s) c t) (25 - i) i = fsx (tkP (sB s) c t) 25 0 → FrC M0 M → D4_firstOfTwoKeepers_c2 Q n (nI c) (nI t) (nI i) M := by
  intro n
  induction n with
  | zero => intro i M h1 h2; omega
  | succ n ih =>
    intro i M h1 h2 he hf
    unfold D4_firstOfTwoKeepers_c2
    rw [show (25 : Int32) = nI 25 from rfl, z_le (by decide) (by omega)]
    refine ⟨fun z => ?_, fun z => ?_⟩
    · have e : i = 25 := by omega
      subst e
      rw [← he] at q; exact q M hf
    · have hi : i < 25 := by omega
      rw [fsx_s hi] at he
      show D4_firstOfTwoKeepers_c13 (D4_firstOfTwoKeepers_c2 Q n) Q FU (nI c) (nI t) (nI i) (nI i + 1) M
      rw [nI_1]
      refine c_two_in hR hc ht hi (fun e M' f' => ?_) (fun e M' f' => ?_) FU (i + 1) M (by omega) (by omega) (Nat.lt_of_le_of_lt (Nat.sub_le _ _) (by decide)) rfl hf
      · rw [e] at he
        exact ih (i + 1) M' (by omega) (by omega) he f'
      · rw [if_pos e] at he
        rw [he]; exact q M' f'
def keepV (B : BV) (c t : Nat) (y : Int32) : Int32 := if stD B c t = true then (if y = 0 then 0 else -9) else if fsx (okP B c t) 25 0 = -9 then (if fsx (tkP B c t) 25 0 = -9 then -9 else if y = 0 then 2 else fsx (tkP B c t) 25 0) else if y = 0 then 1 else fsx (okP B c t) 25 0
def keepK (x1 x2 x3 : Int32) : Nat := if inN x1 25 = true then rgb x2 1 24 x3 1 else 1
def keepS (s : SG) (x1 x2 x3 : Int32) : Int32 × SG := if keepK x1 x2 x3 = 0 then (keepV (sB s) x1.toInt.toNat x2.toInt.toNat x3, s) else outS s (keepK x1 x2 x3)
theorem c_keep {s : SG} {x1 x2 x3 : Int32} {M : MM} {Q : Int32 → MM → Prop} (hR : RepC s M) (q : ∀ M', RepC (keepS s x1 x2 x3).2 M' → Hi M M' → Q (keepS s x1 x2 x3).1 M') : D4_keep x1 x2 x3 M Q := by
  unfold D4_keep D4_keep_c43
  have out : ∀ k, keepK x1 x2 x3 = k → (k = 1 ∨ k = 2 ∨ k = 4 ∨ k = 6) → D4_refused (-(nI k)) M Q := by
    intro k h hk
    refine c_out hR (by omega) ?_
    rw [show keepS s x1 x2 x3 = outS s k from by unfold keepS; rw [h, if_neg (by omega)]] at q
    exact q
  refine p4_isCell ?_
  rw [b2l_n0, b2l_0]
  refine ⟨fun h => ?_, fun h => out 1 (by unfold keepK; rw [h]; rfl) (Or.inl rfl)⟩
  have hK : keepK x1 x2 x3 = rgb x2 1 24 x3 1 := if_pos h
  refine p4_outside (a := 1) (b := 24) (by decide) (by decide) (fun h2 => ?_) (fun k h2 hk2 => ?_)
  · refine ⟨fun _ => ?_, fun z => absurd rfl z⟩
    refine what_cases (n := 1) (by decide) (fun h3 => ?_) (fun h3 => out 2 (by rw [hK]; unfold rgb; rw [if_pos h2, h3]; rfl) (Or.inr (Or.inl rfl)))
    have hK0 : keepK x1 x2 x3 = 0 := by rw [hK]; unfold rgb; rw [if_pos h2, if_pos h3]
    obtain ⟨c, hc, hx, hxn⟩ := inN_0 h (by decide)
    obtain ⟨t, -, ht, hy, hyn⟩ := rg_0 h2 (by decide)
    rw [show keepS s x1 x2 x3 = (keepV (sB s) c t x3, s) from by unfold keepS; rw [if_pos hK0, hxn, hyn]] at q
    have q : ∀ M', FrC M M' → Q (keepV (sB s) c t x3) M' := fun M' f => q M' (hR.mind f) f.hi
    unfold keepV at q
    rw [hx, hy]
    refine c_stays0 hR FrC.rf hc (by omega) (fun M1 f1 => ?_)
    rw [b2l_0]
    refine ⟨fun e0 => ?_, fun e0 => ?_⟩
    · rw [e0, if_neg (by decide)] at q
      unfold D4_oneKeeper
      refine c_one hR hc (by omega) (fun M2 f2 => ?_) FU 0 M1 (by decide) (by decide) rfl f1
      rw [fsx_neg (by decide)]
      refine ⟨fun e1 => ?_, fun e1 => ?_⟩
      · rw [if_pos e1] at q
        unfold D4_firstOfTwoKeepers
        refine c_two_out hR hc (by omega) (fun M3 f3 => ?_) FU 0 M2 (by decide) (by decide) rfl f2
        rw [fsx_neg (by decide)]
        refine ⟨fun e2 => ?_, fun e2 => ?_⟩
        · rw [if_pos e2] at q; exact q M3 f3
        · rw [if_neg e2] at q
          refine ⟨fun y => ?_, fun y => ?_⟩
          · rw [if_neg y] at q; exact q M3 f3
          · rw [if_pos y] at q; exact q M3 f3
      · rw [if_neg e1] at q
        refine ⟨fun y => ?_, fun y => ?_⟩
        · rw [if_neg y] at q; exact q M2 f2
        · rw [if_pos y] at q; exact q M2 f2
    · rw [if_pos (b_nf e0)] at q
      refine ⟨fun y => ?_, fun y => ?_⟩
      · rw [if_neg y] at q; exact q M1 f1
      · rw [if_pos y] at q; exact q M1 f1
  · obtain ⟨n1, n2, n3⟩ := neg46 hk2
    exact ⟨fun z => absurd z n1, fun _ => out k (by rw [hK]; unfold rgb; rw [h2, if_neg (by omega)]) (by omega)⟩
theorem m_one {s : SG} {c t : Nat} {M0 : MM} {Q : Int32 → MM → Prop} (hD : DC (sB s)) (hs : WF 8 999 (sB s)) (hc : c < 25) (ht : t ≤ 60) (q : ∀ M', KM s (sB s) M0 M' → Q (fsx (okP (sB s) c t) 25 0) M') :
    ∀ (n i : Nat) (M : MM), i ≤ 25 → 25 - i < n → fsx (okP (sB s) c t) (25 - i) i = fsx (okP (sB s) c t) 25 0 → KM s (sB s) M0 M → D5_firstOfOne_c2 Q n (nI c) (nI t) (nI i) M := by
  have hw := WFm hs
  have hn := hs.1
  intro n
  induction n with
  | zero => intro i M h1 h2; omega
  | succ n ih =>
    intro i M h1 h2 he hf
    unfold D5_firstOfOne_c2
    rw [show (25 : Int32) = nI 25 from rfl, z_le (by decide) (by omega)]
    refine ⟨fun z => ?_, fun z => ?_⟩
    · have e : i = 25 := by omega
      subst e
      rw [← he] at q; exact q M hf
    · have hi : i < 25 := by omega
      rw [fsx_s hi] at he
      have nx : okP (sB s) c t i = false → ∀ M', KM s (sB s) M0 M' → D5_firstOfOne_c35 (D5_firstOfOne_c2 Q n) Q (nI c) (nI t) (nI i) M' := by
        intro e M' f'
        rw [e] at he
        show D5_firstOfOne_c2 Q n (nI c) (nI t) (nI i + 1) M'
        rw [nI_1]
        exact ih (i + 1) M' (by omega) (by omega) he f'
      refine p5_workAt hw hD hf.1 hi ⟨fun z => ?_, fun z => ?_⟩
      · exact nx (by unfold okP frB; rw [decide_eq_false (not_not_intro z)]; rfl) M hf
      · show D5_workComes (nI 0) (nI 9) (nI i) M _
        refine km_build (by omega) hf (fun M1 k1 => ?_)
        refine m_stays hs (hw.build (by omega) (by decide) (by decide) hi) hc ht k1 (fun M' f' => ?_)
        rw [b2l_0]
        have e : okP (sB s) c t i = stD (bBuild (sB s) 0 9 i) c t := by unfold okP frB; rw [decide_eq_true z]; rfl
        refine ⟨fun y => nx (e.trans y) M' f', fun y => ?_⟩
        rw [if_pos (e.trans (b_nf y))] at he
        rw [he]; exact q M' f'
theorem m_two_in {s : SG} {c t a : Nat} {M0 : MM} {K2 : Int32 → Int32 → Int32 → MM → Prop} {Q : Int32 → MM → Prop} (hD : DC (sB s)) (hs : WF 8 999 (sB s)) (hc : c < 25) (ht : t ≤ 60) (ha : a < 25) (k : tkP (sB s) c t a = false → ∀ M', KM s (sB s) M0 M' → K2 (nI c) (nI t) (nI (a + 1)) M') (q : tkP (sB s) c t a = true → ∀ M', KM s (sB s) M0 M' → Q (nI a) M') :
    ∀ (n i : Nat) (M : MM), a < i → i ≤ 25 → 25 - i < n → fsx (ikP (sB s) c t a) (25 - i) i = fsx (ikP (sB s) c t a) (25 - (a + 1)) (a + 1) → KM s (sB s) M0 M → D5_firstOfTwo_c13 K2 Q n (nI c) (nI t) (nI a) (nI i) M := by
  have hw := WFm hs
  have hn := hs.1
  intro n
  induction n with
  | zero => intro i M h0 h1 h2; omega
  | succ n ih =>
    intro i M h0 h1 h2 he hf
    unfold D5_firstOfTwo_c13
    rw [show (25 : Int32) = nI 25 from rfl, z_le (by decide) (by omega)]
    refine ⟨fun z => ?_, fun z => ?_⟩
    · have e : i = 25 := by omega
      subst e
      show K2 (nI c) (nI t) (nI a + 1) M
      rw [nI_1]
      exact k (by unfold tkP; rw [← he]; rfl) M hf
    · have hi : i < 25 := by omega
      rw [fsx_s hi] at he
      have nx : ikP (sB s) c t a i = false → ∀ M', KM s (sB s) M0 M' → D5_firstOfTwo_c65 (D5_firstOfTwo_c13 K2 Q n) K2 Q (nI c) (nI t) (nI a) (nI i) M' := by
        intro e M' f'
        rw [e] at he
        show D5_firstOfTwo_c13 K2 Q n (nI c) (nI t) (nI a) (nI i + 1) M'
        rw [nI_1]
        exact ih (i + 1) M' (by omega) (by omega) (by omega) he f'
      refine p5_workAt hw hD hf.1 ha ⟨fun z => ?_, fun z => ?_⟩
      · exact nx (by unfold ikP frB; rw [decide_eq_false (not_not_intro z)]; rfl) M hf
      · have e1 : frB (sB s) a = true := decide_eq_true z
        refine p5_workAt hw hD hf.1 hi ⟨fun z2 => ?_, fun z2 => ?_⟩
        · exact nx (by unfold ikP; rw [show frB (sB s) i = false from decide_eq_false (not_not_intro z2), e1]; rfl) M hf
        · have e2 : frB (sB s) i = true := decide_eq_true z2
          have hn1 : bN (bBuild (sB s) 0 9 a) < 10 := by show bN (sB s) + 1 < 10; omega
          have hw1 : WF 10 999 (bBuild (sB s) 0 9 a) := hw.build (by omega) (by decide) (by decide) ha
          show D5_workComes (nI 0) (nI 9) (nI a) M _
          refine km_build (by omega) hf (fun M1 k1 => ?_)
          show D5_workComes (nI 0) (nI 9) (nI i) M1 _
          refine km_build hn1 k1 (fun M2 k2 => ?_)
          refine m_stays hs (hw1.build hn1 (by decide) (by decide) hi) hc ht k2 (fun M' f' => ?_)
          rw [b2l_0]
          have e : ikP (sB s) c t a i = stD (bBuild (bBuild (sB s) 0 9 a) 0 9 i) c t := by unfold ikP; rw [e1, e2]; rfl
          refine ⟨fun y => nx (e.trans y) M' f', fun y => ?_⟩
          rw [if_pos (e.trans (b_nf y))] at he
          refine q (decide_eq_true ?_) M' f'
          rw [← he, i_eq, i_n (by omega), show (-9 : Int32).toInt = -9 from by decide]
          omega
theorem m_two_out {s : SG} {c t : Nat} {M0 : MM} {Q : Int32 → MM → Prop} (hD : DC (sB s)) (hs : WF 8 999 (sB s)) (hc : c < 25) (ht : t ≤ 60) (q : ∀ M', KM s (sB s) M0 M' → Q (fsx (tkP (sB s) c t) 25 0) M') :
    ∀ (n i : Nat) (M : MM), i ≤ 25 → 25 - i < n → fsx (tkP (sB s) c t) (25 - i) i = fsx (tkP (sB s) c t) 25 0 → KM s (sB s) M0 M → D5_firstOfTwo_c2 Q n (nI c) (nI t) (nI i) M := by
  intro n
  induction n with
  | zero => intro i M h1 h2; omega
  | succ n ih =>
    intro i M h1 h2 he hf
    unfold D5_firstOfTwo_c2
    rw [show (25 : Int32) = nI 25 from rfl, z_le (by decide) (by omega)]
    refine ⟨fun z => ?_, fun z => ?_⟩
    · have e : i = 25 := by omega
      subst e
      rw [← he] at q; exact q M hf
    · have hi : i < 25 := by omega
      rw [fsx_s hi] at he
      show D5_firstOfTwo_c13 (D5_firstOfTwo_c2 Q n) Q FU (nI c) (nI t) (nI i) (nI i + 1) M
      rw [nI_1]
      refine m_two_in hD hs hc ht hi (fun e M' f' => ?_) (fun e M' f' => ?_) FU (i + 1) M (by omega) (by omega) (Nat.lt_of_le_of_lt (Nat.sub_le _ _) (by decide)) rfl hf
      · rw [e] at he
        exact ih (i + 1) M' (by omega) (by omega) he f'
      · rw [if_pos e] at he
        rw [he]; exact q M' f'
theorem m_keep {s : SG} {x1 x2 x3 : Int32} {M : MM} {Q : Int32 → MM → Prop} (hD : DC (sB s)) (hR : RepM s M) (q : ∀ M', RepM (keepS s x1 x2 x3).2 M' → Lo M M' → Q (keepS s x1 x2 x3).1 M') : D5_keep x1 x2 x3 M Q := by
  unfold D5_keep
  have hR1 := hR.thrown (x := 0)
  have hL : Lo M (up M 62 9 0) := fun p hp => up_p (by omega)
  generalize up M 62 9 0 = M1 at hR1 hL
  have hs := hR1.2.1
  have out : ∀ k, keepK x1 x2 x3 = k → (k = 1 ∨ k = 2 ∨ k = 4 ∨ k = 6) → D5_refuse (-(nI k)) M1 Q := by
    intro k h hk
    refine m_out hR1 (by omega) (fun M' a b => ?_)
    rw [show keepS s x1 x2 x3 = outS s k from by unfold keepS; rw [h, if_neg (by omega)]] at q
    exact q M' a (hL.tr b)
  refine p5_isCell ?_
  rw [b2l_0]
  unfold D5_keep_c23
  refine ⟨fun h => ?_, fun h => ?_⟩
  · refine p5_wrongBit (n := 1) (by decide) (fun _ => ?_) (fun z => absurd z (by decide)) (fun z => absurd z (by decide))
    exact ⟨fun z => absurd z (by decide), fun _ => out 1 (by unfold keepK; rw [h]; rfl) (Or.inl rfl)⟩
  · have h : inN x1 25 = true := b_nf h
    have hK : keepK x1 x2 x3 = rgb x2 1 24 x3 1 := if_pos h
    refine p5_wrong2 (a := 1) (b := 24) (n := 1) (by decide) (by decide) (by decide) (fun h2 => ?_) (fun k h2 hk => ?_)
    · obtain ⟨e, h3⟩ := rgb_0 h2
      obtain ⟨c, hc, hx, hxn⟩ := inN_0 h (by decide)
      obtain ⟨t, -, ht, hy, hyn⟩ := rg_0 e (by decide)
      rw [show keepS s x1 x2 x3 = (keepV (sB s) c t x3, s) from by unfold keepS; rw [if_pos (hK.trans h2), hxn, hyn]] at q
      have q : ∀ M', KM s (sB s) M1 M' → Q (keepV (sB s) c t x3) M' := fun M' k => q M' (km_rep hR1 k) (hL.tr k.2.2.1.1)
      unfold keepV at q
      rw [hx, hy]
      refine ⟨fun _ => ?_, fun z => absurd (by decide) z⟩
      refine km_think hR1 FrM.rf (fun M2 k2 => ?_)
      refine m_stays hs (WFm hs) hc (by omega) k2 (fun M3 k3 => ?_)
      rw [b2l_0]
      refine ⟨fun e0 => ?_, fun e0 => ?_⟩
      · rw [e0, if_neg (by decide)] at q
        unfold D5_firstOfOne
        refine m_one hD hs hc (by omega) (fun M4 k4 => ?_) FU 0 M3 (by decide) (by decide) rfl k3
        rw [fsx_neg (by decide)]
        refine ⟨fun e1 => ?_, fun e1 => ?_⟩
        · rw [if_pos e1] at q
          unfold D5_firstOfTwo
          refine m_two_out hD hs hc (by omega) (fun M5 k5 => ?_) FU 0 M4 (by decide) (by decide) rfl k4
          have e3 : x3 = 1 ∨ x3 = 0 := by
            obtain ⟨j, hj, e⟩ := inN_of h3 (by decide)
            rcases (show j = 1 ∨ j = 0 by omega) with rfl | rfl
            · exact Or.inl e
            · exact Or.inr e
          by_cases e2 : fsx (tkP (sB s) c t) 25 0 = -9
          · rw [if_pos e2] at q
            rw [e2]
            exact ⟨fun _ => q M5 k5, fun _ => ⟨fun z => absurd z (by decide), fun _ => q M5 k5⟩⟩
          · rw [if_neg e2] at q
            have n0 : 0 ≤ fsx (tkP (sB s) c t) 25 0 := by
              rcases fsx_or (tkP (sB s) c t) 25 0 with ⟨g, -⟩ | ⟨j, a, b, g, d, g2⟩
              · exact absurd g e2
              · rw [g2]; exact nI_pos' (by omega)
            refine ⟨fun y => ?_, fun y => ⟨fun _ => ?_, fun z => absurd n0 z⟩⟩
            · rw [if_neg (by rw [y]; decide)] at q; exact q M5 k5
            · rw [if_pos (e3.resolve_left y)] at q; exact q M5 k5
        · rw [if_neg e1] at q
          refine ⟨fun y => ?_, fun y => ?_⟩
          · rw [if_neg y] at q; exact q M4 k4
          · rw [if_pos y] at q; exact q M4 k4
      · rw [if_pos (b_nf e0)] at q
        refine ⟨fun y => ?_, fun y => ?_⟩
        · rw [if_neg y] at q; exact q M3 k3
        · rw [if_pos y] at q; exact q M3 k3
    · exact ⟨fun z => absurd z (neg246 hk).2.1, fun _ => out k (hK.trans h2) (by omega)⟩
