/-! PURE PART: what can be taken back; razes, fixes, pays, hours, back, work -/
def pushT (B : BV) (tn : List BV) : List BV := (B :: tn).take 8
theorem pushT_len (B : BV) (tn : List BV) : (pushT B tn).length = if tn.length + 1 < 8 then tn.length + 1 else 8 := by
  unfold pushT
  rw [List.length_take, List.length_cons]
  split <;> omega
theorem pushT_0 {B : BV} {tn : List BV} : (pushT B tn)[0]? = some B := by
  unfold pushT
  rw [List.getElem?_take]; rfl
theorem pushT_s {B T : BV} {tn : List BV} {i : Nat} (h : (pushT B tn)[i + 1]? = some T) : i + 1 < 8 ∧ tn[i]? = some T := by
  unfold pushT at h
  rw [List.getElem?_take] at h
  split at h
  · rename_i hi
    rw [List.getElem?_cons_succ] at h
    exact ⟨hi, h⟩
  · cases h
/-- the state with another beach, with other turns -/
def wB (s : SG) (B : BV) : SG := (B, sI s, sT s, sL s, sR s, sF s)
def wT (s : SG) (tn : List BV) : SG := (sB s, sI s, tn, sL s, sR s, sF s)
theorem RepC.beach {s : SG} {B : BV} {M M' : MM} (h : RepC s M) (hR : RB 1 B M') (hw : WF 8 999 B) (hf : ∀ p, (p < 1 ∨ 1 + 4 < p) → M' p = M p) : RepC (wB s B) M' := by
  obtain ⟨a, b, c, d, e, f, g⟩ := h
  have h0 : M' 0 = M 0 := hf 0 (by omega)
  exact ⟨hR, hw, c.cong (by rw [h0]) (fun p x y => hf p (by omega)), d.cong (by rw [h0]) (by rw [h0]) (fun p x y => hf p (by omega)), e.cong (by rw [hf 57 (by omega)]) (hf 58 (by omega)), f.cong (by rw [h0]) (hf 59 (by omega)), g.cong (hf 60 (by omega))⟩
theorem RepM.beach {s : SG} {B : BV} {M M' : MM} (h : RepM s M) (hf : FrM M M') (hR : RM B M') (hw : WF 8 999 B) : RepM (wB s B) M' := by
  obtain ⟨a, b, c, d, e, f, g, i⟩ := h
  obtain ⟨f1, f15, f17, f26, f32, f36, f68, f71, f76, f77, f81⟩ := hf
  exact ⟨hR, hw, c.cong f26 f76, d.cong f32 f77, e.cong f17 f71, f.cong f36 f81, g.cong f68, f15.trans i⟩
theorem isB_q {q : Nat} (h : q < 8) : isB (16 + 5 * q) := by
  unfold isB
  omega
theorem p4_earlierAt {q : Nat} {M : MM} {Q : Nat → MM → Prop} (hq : q < 8) (k : Q (16 + 5 * q) M) : D4_earlierAt (nI q) M Q := by
  unfold D4_earlierAt
  refine ⟨fun z => absurd z (nI_pos (by omega)), fun _ => ?_⟩
  rw [show (8 : Int32) = nI 8 from rfl, z_le (by decide) (by omega), z_ix (by omega)]
  exact ⟨fun z => by omega, fun _ => ⟨⟨vp_in_nI hq (by decide), isB_ob (isB_q hq)⟩, k⟩⟩
theorem c_remembers {s : SG} {M : MM} {Q : MM → Prop} (hR : RepC s M) (k : ∀ M', RepC (wT s (pushT (sB s) (sT s))) M' → Hi M M' → Q M') : D4_remembers M Q := by
  unfold D4_remembers
  obtain ⟨r1, r2, r3, ⟨t1, t2, q, t3, t4, t5⟩, r5, r6, r7⟩ := hR
  rw [t4]
  have hb := isB_q t3
  refine p4_earlierAt t3 ⟨isB_ob hb, ?_⟩
  refine p0_becomes hb isB1 (by omega) (WFm r2) r1 (fun M1 h1 f1 => ?_)
  have e0 : M1 0 = M 0 := f1 0 (by omega)
  dsimp only
  rw [show M1 0 10 = nI q from by rw [e0]; exact t4, nI_1, show (8 : Int32) = nI 8 from rfl, pk_rem (by omega) (by decide) (by decide), up_k (show (9 : Nat) ≠ 10 by decide), show M1 0 9 = nI (sT s).length from by rw [e0]; exact t2, nI_1, z_min (by omega) (by decide)]
  have hf : ∀ p, p ≠ 0 → up (up M1 0 10 (nI ((q + 1) % 8))) 0 9 (nI (if (sT s).length + 1 < 8 then (sT s).length + 1 else 8)) p = M1 p := fun p a => by rw [up_p a, up_p a]
  have h00 : ∀ j, j ≠ 9 → j ≠ 10 → up (up M1 0 10 (nI ((q + 1) % 8))) 0 9 (nI (if (sT s).length + 1 < 8 then (sT s).length + 1 else 8)) 0 j = M 0 j := fun j a b => by rw [up_k a, up_k b, e0]
  have hg : ∀ p, p ≠ 0 → (p < 16 + 5 * q ∨ 16 + 5 * q + 4 < p) → up (up M1 0 10 (nI ((q + 1) % 8))) 0 9 (nI (if (sT s).length + 1 < 8 then (sT s).length + 1 else 8)) p = M p := fun p a b => by rw [hf p a]; exact f1 p b
  refine k _ ⟨r1.cong (fun p a b => hg p (by omega) (by omega)), r2, r3.cong (h00 11 (by decide) (by decide)) (fun p a b => hg p (by omega) (by omega)), ?_, r5.cong (by rw [hg 57 (by decide) (by omega)]) (hg 58 (by decide) (by omega)), r6.cong (h00 8 (by decide) (by decide)) (hg 59 (by decide) (by omega)), r7.cong (hg 60 (by decide) (by omega))⟩ (fun p hp => hg p (by omega) (by omega))
  refine ⟨?_, ?_, (q + 1) % 8, Nat.mod_lt _ (by decide), ?_, fun i T hT => ?_⟩
  · show (pushT (sB s) (sT s)).length ≤ 8
    rw [pushT_len]; split <;> omega
  · show _ = nI (pushT (sB s) (sT s)).length
    rw [pushT_len, up_s]
  · rw [up_k (by decide), up_s]
  · have hT : (pushT (sB s) (sT s))[i]? = some T := hT
    cases i with
    | zero =>
      rw [pushT_0] at hT
      cases hT
      refine ⟨?_, r2⟩
      rw [show ((q + 1) % 8 + 7 - 0) % 8 = q by omega]
      exact h1.cong (fun p a b => hf p (by omega))
    | succ i =>
      obtain ⟨g1, g2⟩ := pushT_s hT
      obtain ⟨g3, g4⟩ := t5 i T g2
      refine ⟨?_, g4⟩
      rw [show ((q + 1) % 8 + 7 - (i + 1)) % 8 = (q + 7 - i) % 8 by omega]
      have hne : (q + 7 - i) % 8 ≠ q := by omega
      exact g3.cong (fun p a b => hg p (by omega) (by omega))
theorem RT.of {B : BV} {M N : MM} {t u : Nat} (h : RT B M t) (hn : bN B ≤ 8) (e : ∀ k, k < 44 → N u k = M t k) : RT B N u := by
  obtain ⟨a, b, c, d, f⟩ := h
  refine ⟨by rw [e 0 (by decide)]; exact a, by rw [e 1 (by decide)]; exact b, by rw [e 2 (by decide)]; exact c, by rw [e 3 (by decide)]; exact d, fun j hj => ?_⟩
  rw [e _ (by omega), e _ (by omega), e _ (by omega), e _ (by omega), e _ (by omega)]
  exact f j hj
theorem FrM.up77 {M : MM} {j : Nat} {x : Int32} : ∀ p, p ≠ 77 → up M 77 j x p = M p := fun p a => up_p a
/-- all but the turns' row -/
def Fr77 (M M' : MM) : Prop := ∀ p, p ≠ 77 → M' p = M p
theorem kt_shift {M0 : MM} {Q : MM → Prop} (k : ∀ M', Fr77 M0 M' → (∀ j, j < 308 → M' 77 j = M0 77 (j + 44)) → D5_keepTurn_c40 Q M') :
    ∀ (n i : Nat) (M : MM), 44 ≤ i → i ≤ 352 → 352 - i < n → Fr77 M0 M → (∀ j, j + 44 < i → M 77 j = M0 77 (j + 44)) → (∀ j, i ≤ j → M 77 j = M0 77 j) → D5_keepTurn_c12 Q n (nI i) M := by
  intro n
  induction n with
  | zero => intro i M h0 h1 h2; omega
  | succ n ih =>
    intro i M h0 h1 h2 hf ha hb
    unfold D5_keepTurn_c12
    rw [show (352 : Int32) = nI 352 from rfl, z_le (by decide) (by omega)]
    refine ⟨fun z => ?_, fun z => ?_⟩
    · exact k M hf (fun j hj => ha j (by omega))
    · rw [show nI i - 44 = nI (i - 44) from pk_sub (a := i) (b := 44) h0]
      refine ⟨ibc ⟨by decide, rfl⟩ rfl (show i < 352 by omega) (by decide), ibc ⟨by decide, rfl⟩ rfl (show i - 44 < 352 by omega) (by decide), ?_⟩
      dsimp only
      rw [z_ix (by omega), z_ix (by omega), nI_1]
      refine ih (i + 1) _ (by omega) (by omega) (by omega) (fun p hp => by rw [up_p hp]; exact hf p hp) (fun j hj => ?_) (fun j hj => by rw [up_k (by omega)]; exact hb j (by omega))
      by_cases y : j = i - 44
      · rw [y, up_s, hb i (Nat.le_refl _), show i - 44 + 44 = i by omega]
      · rw [up_k y]; exact ha j (by omega)
theorem kt_copy {t : Nat} {M0 : MM} {Q : MM → Prop} (ht : t < 8) (h32 : M0 62 32 = nI t) (k : ∀ M', Fr77 M0 M' → (∀ j, j < 44 → M' 77 (44 * t + j) = M0 78 j) → (∀ j, j < 44 * t → M' 77 j = M0 77 j) → D5_keepTurn_c93 Q M') :
    ∀ (n i : Nat) (M : MM), i ≤ 44 → 44 - i < n → Fr77 M0 M → (∀ j, j < i → M 77 (44 * t + j) = M0 78 j) → (∀ j, j < 44 * t → M 77 j = M0 77 j) → D5_keepTurn_c61 Q n (nI i) M := by
  intro n
  induction n with
  | zero => intro i M h1 h2; omega
  | succ n ih =>
    intro i M h1 h2 hf ha hb
    unfold D5_keepTurn_c61
    rw [show (44 : Int32) = nI 44 from rfl, z_le (by decide) (by omega), hf 62 (by decide), h32, pk_mul, nI_add]
    refine ⟨fun z => ?_, fun z => ⟨ibc ⟨by decide, rfl⟩ rfl (show i < 44 by omega) (by decide), ibc ⟨by decide, rfl⟩ rfl (show 44 * t + i < 352 by omega) (by decide), ?_⟩⟩
    · exact k M hf (fun j hj => ha j (by omega)) hb
    · dsimp only
      rw [z_ix (show 44 * t + i < 2 ^ 31 by omega), z_ix (show i < 2 ^ 31 by omega), nI_1]
      refine ih (i + 1) _ (by omega) (by omega) (fun p hp => by rw [up_p hp]; exact hf p hp) (fun j hj => ?_) (fun j hj => by rw [up_k (by omega)]; exact hb j hj)
      by_cases y : j = i
      · rw [y, up_s, hf 78 (by decide)]
      · rw [up_k (by omega)]; exact ha j (by omega)
/-- the turn that comes, with at most seven there -/
theorem m_keep7 {s : SG} {tn : List BV} {M : MM} {Q : MM → Prop} (hR : RepM (wT s tn) M) (h7 : tn.length < 8) (k : ∀ M', RepM (wT s (sB s :: tn)) M' → Lo M M' → Q M') : D5_keepTurn_c50 Q M := by
  unfold D5_keepTurn_c50
  obtain ⟨r1, r2, r3, r4, r5, r6, r7, r8⟩ := hR
  refine p5_takeB (Or.inr (Or.inr rfl)) r2 r1 (fun M1 h1 t1 _ f1 => ?_)
  have e1 : ∀ p, p ≠ 62 → p ≠ 78 → M1 p = M p := fun p a b => funext fun j => f1 p j b (fun e => absurd e a)
  have e62 : ∀ j, j ≠ 27 → j ≠ 28 → j ≠ 29 → M1 62 j = M 62 j := fun j a b c => f1 62 j (by decide) (fun _ => ⟨a, b, c⟩)
  have h32 : M1 62 32 = nI tn.length := (e62 32 (by decide) (by decide) (by decide)).trans r4.2.1
  refine kt_copy h7 h32 (fun M2 f2 ha hb => ?_) FU 0 M1 (by decide) (by decide) (fun _ _ => rfl) (fun j hj => by omega) (fun _ _ => rfl)
  unfold D5_keepTurn_c93
  dsimp only
  rw [f2 62 (by decide), h32, nI_1]
  have g1 : ∀ p, p ≠ 62 → p ≠ 77 → p ≠ 78 → up M2 62 32 (nI (tn.length + 1)) p = M p := fun p a b c => by rw [up_p a, f2 p b, e1 p a c]
  have g62 : ∀ j, j ≠ 32 → j ≠ 27 → j ≠ 28 → j ≠ 29 → up M2 62 32 (nI (tn.length + 1)) 62 j = M 62 j := fun j a b c d => by rw [up_k a, f2 62 (by decide), e62 j b c d]
  have g77 : ∀ j, up M2 62 32 (nI (tn.length + 1)) 77 j = M2 77 j := fun j => by rw [up_p (by decide)]
  refine k _ ⟨r1.cong (g62 0 (by decide) (by decide) (by decide) (by decide)) (g62 6 (by decide) (by decide) (by decide) (by decide)) (g62 7 (by decide) (by decide) (by decide) (by decide)) (g62 8 (by decide) (by decide) (by decide) (by decide)) (fun p a b => g1 p (by omega) (by omega) (by omega)), r2, r3.cong (g62 26 (by decide) (by decide) (by decide) (by decide)) (g1 76 (by decide) (by decide) (by decide)), ⟨?_, ?_, fun i T hT => ?_⟩, r5.cong (g62 17 (by decide) (by decide) (by decide) (by decide)) (g1 71 (by decide) (by decide) (by decide)), r6.cong (g62 36 (by decide) (by decide) (by decide) (by decide)) (g1 81 (by decide) (by decide) (by decide)), r7.cong (g1 68 (by decide) (by decide) (by decide)), (g62 15 (by decide) (by decide) (by decide) (by decide)).trans r8⟩ (fun p hp => g1 p (by omega) (by omega) (by omega))
  · show (sB s :: tn).length ≤ 8
    rw [List.length_cons]; omega
  · show _ = nI (sB s :: tn).length
    rw [List.length_cons, up_s]
  · have hT : (sB s :: tn)[i]? = some T := hT
    show RO T _ (44 * ((sB s :: tn).length - 1 - i)) ∧ _
    rw [List.length_cons]
    cases i with
    | zero =>
      rw [List.getElem?_cons_zero] at hT
      cases hT
      refine ⟨?_, r2⟩
      unfold RO
      refine t1.of r2.1 (fun j hj => ?_)
      show up M2 62 32 (nI (tn.length + 1)) 77 (44 * (tn.length + 1 - 1 - 0) + j) = _
      rw [g77, show tn.length + 1 - 1 - 0 = tn.length by omega, ha j hj]
    | succ i =>
      rw [List.getElem?_cons_succ] at hT
      have hi : i < tn.length := (List.getElem?_eq_some_iff.mp hT).1
      obtain ⟨q1, q2⟩ := r4.2.2 i T hT
      refine ⟨?_, q2⟩
      unfold RO at q1 ⊢
      refine q1.of q2.1 (fun j hj => ?_)
      show up M2 62 32 (nI (tn.length + 1)) 77 (44 * (tn.length + 1 - 1 - (i + 1)) + j) = M 77 (44 * (tn.length - 1 - i) + j)
      rw [g77, show tn.length + 1 - 1 - (i + 1) = tn.length - 1 - i by omega, hb _ (by omega), e1 77 (by decide) (by decide)]
theorem m_keepTurn {s : SG} {M : MM} {Q : MM → Prop} (hR : RepM s M) (k : ∀ M', RepM (wT s (pushT (sB s) (sT s))) M' → Lo M M' → Q M') : D5_keepTurn M Q := by
  unfold D5_keepTurn
  have hR0 := hR
  obtain ⟨r1, r2, r3, r4, r5, r6, r7, r8⟩ := hR
  have hlen := r4.1
  rw [r4.2.1, show (8 : Int32) = nI 8 from rfl]
  simp only [ne_eq, z_eq (show (sT s).length < 2 ^ 31 by omega) (show 8 < 2 ^ 31 by decide)]
  refine ⟨fun z => ?_, fun z => ?_⟩
  · refine m_keep7 (s := s) (tn := sT s) hR0 (by omega) (fun M' a b => ?_)
    rw [show pushT (sB s) (sT s) = sB s :: sT s from by unfold pushT; rw [List.take_of_length_le (by rw [List.length_cons]; omega)]] at k
    exact k M' a b
  · refine kt_shift (fun M1 f1 h1 => ?_) FU 44 M (by decide) (by decide) (by decide) (fun _ _ => rfl) (fun j hj => by omega) (fun _ _ => rfl)
    unfold D5_keepTurn_c40
    dsimp only
    rw [f1 62 (by decide), r4.2.1, z, show nI 8 - 1 = nI 7 from by decide]
    have g1 : ∀ p, p ≠ 62 → p ≠ 77 → up M1 62 32 (nI 7) p = M p := fun p a b => by rw [up_p a, f1 p b]
    have g62 : ∀ j, j ≠ 32 → up M1 62 32 (nI 7) 62 j = M 62 j := fun j a => by rw [up_k a, f1 62 (by decide)]
    have ht : ((sT s).take 7).length = 7 := by rw [List.length_take]; omega
    have hR1 : RepM (wT s ((sT s).take 7)) (up M1 62 32 (nI 7)) := by
      refine ⟨r1.cong (g62 0 (by decide)) (g62 6 (by decide)) (g62 7 (by decide)) (g62 8 (by decide)) (fun p a b => g1 p (by omega) (by omega)), r2, r3.cong (g62 26 (by decide)) (g1 76 (by decide) (by decide)), ⟨?_, ?_, fun i T hT => ?_⟩, r5.cong (g62 17 (by decide)) (g1 71 (by decide) (by decide)), r6.cong (g62 36 (by decide)) (g1 81 (by decide) (by decide)), r7.cong (g1 68 (by decide) (by decide)), (g62 15 (by decide)).trans r8⟩
      · show ((sT s).take 7).length ≤ 8
        omega
      · show _ = nI ((sT s).take 7).length
        rw [ht, up_s]
      · have hT : ((sT s).take 7)[i]? = some T := hT
        show RO T _ (44 * (((sT s).take 7).length - 1 - i)) ∧ _
        rw [ht]
        rw [List.getElem?_take] at hT
        split at hT
        · rename_i hi
          obtain ⟨q1, q2⟩ := r4.2.2 i T hT
          refine ⟨?_, q2⟩
          unfold RO at q1 ⊢
          refine q1.of q2.1 (fun j hj => ?_)
          show up M1 62 32 (nI 7) 77 (44 * (7 - 1 - i) + j) = M 77 (44 * ((sT s).length - 1 - i) + j)
          rw [up_p (by decide), h1 _ (by omega), z, show 44 * (7 - 1 - i) + j + 44 = 44 * (8 - 1 - i) + j by omega]
        · cases hT
    refine m_keep7 (s := s) (tn := (sT s).take 7) hR1 (by omega) (fun M' a b => k M' ?_ ?_)
    · rw [show pushT (sB s) (sT s) = sB s :: (sT s).take 7 from rfl]
      exact a
    · exact Lo.tr (fun p hp => g1 p (by omega) (by omega)) b
/-- razes, fixes -/
def rzK (s : SG) (x : Int32) : Nat := if inN x (bN (sB s)) = true then (if bS (sB s) x.toInt.toNat = true then 0 else 3) else 1
def remS (s : SG) : SG := wT s (pushT (sB s) (sT s))
def razesS (s : SG) (x : Int32) : Int32 × SG := if rzK s x = 0 then (nI (pcf 25 (mk (bS (bLose (sB s) x.toInt.toNat)) 10)), wB (remS s) (bLose (sB s) x.toInt.toNat)) else outS s (rzK s x)
def fixesS (s : SG) (x : Int32) : Int32 × SG := if rzK s x = 0 then (nI (bW (sB s) x.toInt.toNat), wB (remS s) (bWear (sB s) x.toInt.toNat 0)) else outS s (rzK s x)
theorem c_notStanding {s : SG} {x : Int32} {M : MM} {Q : Int32 → MM → Prop} (hR : RepC s M) (k0 : ∀ j, rzK s x = 0 → j < bN (sB s) → x = nI j → x.toInt.toNat = j → Q 0 M) (k1 : ∀ k, rzK s x = k → (k = 1 ∨ k = 3) → Q (-(nI k)) M) : D4_notStanding x M Q := by
  unfold D4_notStanding
  have hw := WFm hR.2.1
  refine p0_knowsX hR.1.1 hw.1 ?_
  rw [b2l_n0, b2l_0]
  refine ⟨fun h => ?_, fun h => k1 1 (by unfold rzK; rw [h]; rfl) (Or.inl rfl)⟩
  obtain ⟨j, hj, hx, hxn⟩ := inN_0 h (Nat.le_trans hw.1 (by decide))
  have hK : rzK s x = if bS (sB s) j = true then 0 else 3 := by unfold rzK; rw [if_pos h, hxn]
  have hj10 := Nat.lt_of_lt_of_le hj hw.1
  have go : (b2 (bS (sB s) j) = 0 → Q (-3) M) ∧ (¬ b2 (bS (sB s) j) = 0 → Q 0 M) := by
    rw [b2l_0]
    exact ⟨fun e => k1 3 (by rw [hK, e]; rfl) (Or.inr rfl), fun e => k0 j (by rw [hK, if_pos (b_nf e)]) hj hx hxn⟩
  rw [hx]
  exact p0_stands hR.1.2.1 hj10 go
theorem c_razes {s : SG} {x : Int32} {M : MM} {Q : Int32 → MM → Prop} (hR : RepC s M) (q : ∀ M', RepC (razesS s x).2 M' → Hi M M' → Q (razesS s x).1 M') : D4_razes x M Q := by
  unfold D4_razes
  have hw := hR.2.1
  have hn := hw.1
  refine c_notStanding hR (fun j hK hj hx hxn => ?_) (fun k hK hk => ?_)
  · refine ⟨fun _ => ?_, fun z => absurd rfl z⟩
    rw [show razesS s x = (nI (pcf 25 (mk (bS (bLose (sB s) j)) 10)), wB (remS s) (bLose (sB s) j)) from by unfold razesS; rw [if_pos hK, hxn]] at q
    rw [hx]
    refine c_remembers hR (fun M1 h1 f1 => ?_)
    refine p0_loses h1.1 (show bN (sB s) ≤ 10 by omega) hj (fun M2 h2 f2 => p0_standingWorks h2 ?_)
    exact q M2 (h1.beach h2 hw.lose (fun p hp => f2 p (by omega))) (f1.tr (fun p hp => f2 p (by omega)))
  · refine ⟨fun z => absurd z (by rcases hk with rfl | rfl <;> decide), fun _ => c_out hR (by omega) ?_⟩
    rw [show razesS s x = outS s k from by unfold razesS; rw [hK, if_neg (by omega)]] at q
    exact q
theorem c_fixes {s : SG} {x : Int32} {M : MM} {Q : Int32 → MM → Prop} (hR : RepC s M) (q : ∀ M', RepC (fixesS s x).2 M' → Hi M M' → Q (fixesS s x).1 M') : D4_fixes x M Q := by
  unfold D4_fixes
  have hw := hR.2.1
  have hn := hw.1
  refine c_notStanding hR (fun j hK hj hx hxn => ?_) (fun k hK hk => ?_)
  · refine ⟨fun _ => ?_, fun z => absurd rfl z⟩
    rw [show fixesS s x = (nI (bW (sB s) j), wB (remS s) (bWear (sB s) j 0)) from by unfold fixesS; rw [if_pos hK, hxn]] at q
    rw [hx]
    refine c_remembers hR (fun M1 h1 f1 => ?_)
    refine p0_wornOf isB1 h1.1.1 (show bN (sB s) ≤ 10 by omega) hj ?_
    rw [(h1.1.2.2.2.2.2 j hj).2.2.2]
    refine p0_wears (x := 0) isB1 h1.1 (show bN (sB s) ≤ 10 by omega) hj (fun M2 h2 f2 => ?_)
    exact q M2 (h1.beach h2 (hw.wear (by decide)) (fun p hp => f2 p (by omega))) (f1.tr (fun p hp => f2 p (by omega)))
  · refine ⟨fun z => absurd z (by rcases hk with rfl | rfl <;> decide), fun _ => c_out hR (by omega) ?_⟩
    rw [show fixesS s x = outS s k from by unfold fixesS; rw [hK, if_neg (by omega)]] at q
    exact q
theorem m_notSt {s : SG} {x : Int32} {M : MM} {K : Int32 → MM → Prop} (hR : RepM s M) (k0 : ∀ j, rzK s x = 0 → j < bN (sB s) → x = nI j → x.toInt.toNat = j → K 0 M) (k1 : ∀ k, rzK s x = k → (k = 1 ∨ k = 3) → K (-(nI k)) M) :
    D5_isWork x M (fun (r2 : Int32) (M3 : MM) => ((r2 ≠ 0 → ib 67 x ∧ (((M3 67 (ix x)) ≠ (1 : Int32) → K (0 : Int32) M3) ∧ ((M3 67 (ix x)) = (1 : Int32) → K (-3 : Int32) M3))) ∧ (r2 = 0 → K (-1 : Int32) M3))) := by
  have hw := WFm hR.2.1
  refine p5_isWork hR.1.1 hw.1 ?_
  rw [b2l_n0, b2l_0]
  refine ⟨fun h => ?_, fun h => k1 1 (by unfold rzK; rw [h]; rfl) (Or.inl rfl)⟩
  obtain ⟨j, hj, hx, hxn⟩ := inN_0 h (Nat.le_trans hw.1 (by decide))
  have hK : rzK s x = if bS (sB s) j = true then 0 else 3 := by unfold rzK; rw [if_pos h, hxn]
  have hixx : ix x = j := by rw [hx]; exact z_ix (by have := hw.1; omega)
  have hib : ib 67 x := by rw [hx]; exact ib5 hw hj (by decide) (by decide)
  refine ⟨hib, ?_⟩
  rw [hixx, (hR.1.2.2.2.2 j hj).2.2.2.2, gn_n1, gn_e1]
  exact ⟨fun e => k0 j (by rw [hK, if_pos e]) hj hx hxn, fun e => k1 3 (by rw [hK, e]; rfl) (Or.inr rfl)⟩
theorem m_razes {s : SG} {x : Int32} {M : MM} {Q : Int32 → MM → Prop} (hR : RepM s M) (q : ∀ M', RepM (razesS s x).2 M' → Lo M M' → Q (razesS s x).1 M') : D5_razes x M Q := by
  unfold D5_razes
  have hR1 := hR.thrown (x := 0)
  have hL : Lo M (up M 62 9 0) := fun p hp => up_p (by omega)
  generalize up M 62 9 0 = M1 at hR1 hL
  have hw := hR1.2.1
  have hn := hw.1
  refine m_notSt (K := fun r M' => D5_razes_c33 Q x r M') hR1 (fun j hK hj hx hxn => ?_) (fun k hK hk => ?_)
  · refine ⟨fun _ => ?_, fun z => absurd (by decide) z⟩
    rw [show razesS s x = (nI (pcf 25 (mk (bS (bLose (sB s) j)) 10)), wB (remS s) (bLose (sB s) j)) from by unfold razesS; rw [if_pos hK, hxn]] at q
    refine m_keepTurn hR1 (fun M2 h2 f2 => ⟨by rw [hx]; exact ib5 (WFm hw) hj (by decide) (by decide), ?_⟩)
    rw [show ix x = j from by rw [hx]; exact z_ix (by omega)]
    have r3 : RM (bLose (sB s) j) (up M2 67 j (nI 1)) := h2.1.lose
    refine p5_standing (WFm hw.lose) r3 (p5_onesOf (Nat.lt_trans (mk_lt _ 10) (by decide)) ?_)
    exact q _ (h2.beach (FrM.set (by decide) (by decide)) r3 hw.lose) ((hL.tr f2).tr (fun p hp => up_p (by omega)))
  · refine ⟨fun z => absurd z (by rcases hk with rfl | rfl <;> decide), fun _ => m_out hR1 (by omega) (fun M' a b => ?_)⟩
    rw [show razesS s x = outS s k from by unfold razesS; rw [hK, if_neg (by omega)]] at q
    exact q M' a (hL.tr b)
theorem m_fixes {s : SG} {x : Int32} {M : MM} {Q : Int32 → MM → Prop} (hR : RepM s M) (q : ∀ M', RepM (fixesS s x).2 M' → Lo M M' → Q (fixesS s x).1 M') : D5_fixes x M Q := by
  unfold D5_fixes
  have hR1 := hR.thrown (x := 0)
  have hL : Lo M (up M 62 9 0) := fun p hp => up_p (by omega)
  generalize up M 62 9 0 = M1 at hR1 hL
  have hw := hR1.2.1
  have hn := hw.1
  refine m_notSt (K := fun r M' => D5_fixes_c33 Q x r M') hR1 (fun j hK hj hx hxn => ?_) (fun k hK hk => ?_)
  · refine ⟨fun _ => ?_, fun z => absurd (by decide) z⟩
    rw [show fixesS s x = (nI (bW (sB s) j), wB (remS s) (bWear (sB s) j 0)) from by unfold fixesS; rw [if_pos hK, hxn]] at q
    have hib : ib 66 x := by rw [hx]; exact ib5 (WFm hw) hj (by decide) (by decide)
    refine m_keepTurn hR1 (fun M2 h2 f2 => ⟨hib, hib, ?_⟩)
    dsimp only
    rw [show ix x = j from by rw [hx]; exact z_ix (by omega), (h2.1.2.2.2.2 j hj).2.2.2.1]
    have r3 : RM (bWear (sB s) j 0) (up M2 66 j (nI 0)) := h2.1.wear
    exact q _ (h2.beach (FrM.set (by decide) (by decide)) r3 (hw.wear (by decide))) ((hL.tr f2).tr (fun p hp => up_p (by omega)))
  · refine ⟨fun z => absurd z (by rcases hk with rfl | rfl <;> decide), fun _ => m_out hR1 (by omega) (fun M' a b => ?_)⟩
    rw [show fixesS s x = outS s k from by unfold fixesS; rw [hK, if_neg (by omega)]] at q
    exact q M' a (hL.tr b)
/-- pays -/
def paysS (s : SG) : Int32 × SG := (nI (bO (sB s)), wB (remS s) (bSettle (sB s)))
theorem c_pays {s : SG} {M : MM} {Q : Int32 → MM → Prop} (hR : RepC s M) (q : ∀ M', RepC (paysS s).2 M' → Hi M M' → Q (paysS s).1 M') : D4_pays M Q := by
  unfold D4_pays
  have hw := hR.2.1
  refine c_remembers hR (fun M1 h1 f1 => ?_)
  dsimp only
  rw [h1.1.2.2.2.2.1]
  refine p0_settles h1.1 hw.2.2.2.2.1 hw.2.2.2.2.2 (fun M2 h2 f2 => ?_)
  exact q M2 (h1.beach h2 hw.settle (fun p hp => f2 p (by omega))) (f1.tr (fun p hp => f2 p (by omega)))
theorem FrM.of67 {M M' : MM} (h : ∀ p j, (p = 62 → j ≠ 6 ∧ j ≠ 7) → M' p j = M p j) : FrM M M' :=
  ⟨fun p a => funext fun j => h p j (fun e => by omega), h 62 15 (fun _ => by decide), h 62 17 (fun _ => by decide), h 62 26 (fun _ => by decide), h 62 32 (fun _ => by decide), h 62 36 (fun _ => by decide), funext fun j => h 68 j (fun e => by omega), funext fun j => h 71 j (fun e => by omega), funext fun j => h 76 j (fun e => by omega), funext fun j => h 77 j (fun e => by omega), funext fun j => h 81 j (fun e => by omega)⟩
theorem m_pays {s : SG} {M : MM} {Q : Int32 → MM → Prop} (hR : RepM s M) (q : ∀ M', RepM (paysS s).2 M' → Lo M M' → Q (paysS s).1 M') : D5_pays M Q := by
  unfold D5_pays
  have hR1 := hR.thrown (x := 0)
  have hL : Lo M (up M 62 9 0) := fun p hp => up_p (by omega)
  generalize up M 62 9 0 = M1 at hR1 hL
  have hw := hR1.2.1
  refine m_keepTurn hR1 (fun M2 h2 f2 => ?_)
  refine p5_payAll h2.1 hw.2.2.2.2.1 hw.2.2.2.2.2 (fun M3 h3 f3 => ?_)
  have fr := FrM.of67 f3
  exact q M3 (h2.beach fr h3 hw.settle) ((hL.tr f2).tr fr.1)
/-- hours -/
def hoK (s : SG) (x : Int32) : Nat := if rg x 1 60 = 0 then (if bH (sB s) + x.toInt.toNat ≤ 999 then 0 else 6) else rg x 1 60
def hoursS (s : SG) (x : Int32) : Int32 × SG := if hoK s x = 0 then (nI (bP (hrs (sB s) x.toInt.toNat)), wB (remS s) (hrs (sB s) x.toInt.toNat)) else outS s (hoK s x)
theorem hrs_wf999 {B : BV} {n : Nat} (hw : WF 8 999 B) (h : bH B + n ≤ 999) : WF 8 999 (hrs B n) := by
  have := hrs_wf hw n
  exact ⟨this.1, this.2.1, this.2.2.1, by rw [hrs_H]; exact h, this.2.2.2.2.1, this.2.2.2.2.2⟩
theorem c_hours {s : SG} {x : Int32} {M : MM} {Q : Int32 → MM → Prop} (hR : RepC s M) (q : ∀ M', RepC (hoursS s x).2 M' → Hi M M' → Q (hoursS s x).1 M') : D4_hours x M Q := by
  unfold D4_hours D4_hours_c33
  have hw := hR.2.1
  have hh := hw.2.2.2.1
  have out : ∀ k, hoK s x = k → (k = 4 ∨ k = 6) → D4_refused (-(nI k)) M Q := by
    intro k h hk
    refine c_out hR (by omega) ?_
    rw [show hoursS s x = outS s k from by unfold hoursS; rw [h, if_neg (by omega)]] at q
    exact q
  have e1 : (1 : Int32).toInt = 1 := by decide
  have e60 : (60 : Int32).toInt = 60 := by decide
  rw [i_le 1 x, i_lt, e1, e60]
  have hK6 : ∀ k, rg x 1 60 = k → (k = 4 ∨ k = 6) → hoK s x = k := fun k h hk => by unfold hoK; rw [h, if_neg (by omega)]
  refine ⟨fun c1 => ⟨fun c2 => out 6 (hK6 6 (by unfold rg; rw [if_neg (by omega), if_pos (by omega)]) (Or.inr rfl)) (Or.inr rfl), fun c2 => ?_⟩, fun c1 => out 4 (hK6 4 (by unfold rg; rw [if_pos (by omega)]) (Or.inl rfl)) (Or.inl rfl)⟩
  have h0 : rg x 1 60 = 0 := by unfold rg; rw [if_neg (by omega), if_neg (by omega)]
  obtain ⟨j, j1, j60, hx, hxn⟩ := rg_0 h0 (by decide)
  have hK : hoK s x = if bH (sB s) + j ≤ 999 then 0 else 6 := by unfold hoK; rw [if_pos h0, hxn]
  rw [hR.1.2.2.1, hx, nI_add, show (999 : Int32) = nI 999 from rfl, z_le (by omega) (by decide)]
  refine ⟨fun c3 => ?_, fun c3 => out 6 (by rw [hK, if_neg c3]) (Or.inr rfl)⟩
  rw [show hoursS s x = (nI (bP (hrs (sB s) j)), wB (remS s) (hrs (sB s) j)) from by unfold hoursS; rw [if_pos (by rw [hK, if_pos c3]), hxn]] at q
  refine c_remembers hR (fun M1 h1 f1 => ?_)
  refine p0_goesOn (H := 999) isB1 (WFm hw) (by omega) (by omega) h1.1 (fun M2 h2 f2 => ?_)
  rw [h2.2.2.2.1]
  exact q M2 (h1.beach h2 (hrs_wf999 hw c3) (fun p hp => f2 p (by omega) (by omega))) (f1.tr (fun p hp => f2 p (by omega) (by omega)))
theorem m_hours {s : SG} {x : Int32} {M : MM} {Q : Int32 → MM → Prop} (hR : RepM s M) (q : ∀ M', RepM (hoursS s x).2 M' → Lo M M' → Q (hoursS s x).1 M') : D5_hours x M Q := by
  unfold D5_hours
  have hR1 := hR.thrown (x := 0)
  have hL : Lo M (up M 62 9 0) := fun p hp => up_p (by omega)
  generalize up M 62 9 0 = M1 at hR1 hL
  have hw := hR1.2.1
  have hh := hw.2.2.2.1
  have out : ∀ k, hoK s x = k → (k = 4 ∨ k = 6) → D5_hours_c35 Q x (-(nI k)) M1 := by
    intro k h hk
    refine ⟨fun z => absurd z (by rcases hk with rfl | rfl <;> decide), fun _ => m_out hR1 (by omega) (fun M' a b => ?_)⟩
    rw [show hoursS s x = outS s k from by unfold hoursS; rw [h, if_neg (by omega)]] at q
    exact q M' a (hL.tr b)
  refine p5_wrongNumber (a := 1) (b := 60) (by decide) (by decide) (fun h0 => ?_) (fun k h hk => ?_)
  · obtain ⟨j, j1, j60, hx, hxn⟩ := rg_0 h0 (by decide)
    have hK : hoK s x = if bH (sB s) + j ≤ 999 then 0 else 6 := by unfold hoK; rw [if_pos h0, hxn]
    refine ⟨fun z => absurd rfl z, fun _ => ?_⟩
    rw [hR1.1.2.2.2.1, show nI (bH (sB s)) + x = nI (bH (sB s) + j) from by rw [hx, nI_add], show (999 : Int32) = nI 999 from rfl, z_le (by omega) (by decide)]
    refine ⟨fun c3 => ?_, fun c3 => out 6 (by rw [hK, if_neg c3]) (Or.inr rfl)⟩
    rw [show hoursS s x = (nI (bP (hrs (sB s) j)), wB (remS s) (hrs (sB s) j)) from by unfold hoursS; rw [if_pos (by rw [hK, if_pos c3]), hxn]] at q
    rw [hx]
    refine ⟨fun _ => ?_, fun z => absurd (by decide) z⟩
    refine m_keepTurn hR1 (fun M2 h2 f2 => ?_)
    refine p5_goHours (H := 999) (WFm hw) (by omega) (by omega) h2.2.2.2.2.2.2.2 h2.1 (fun M3 h3 f3 => ?_)
    rw [h3.2.1]
    exact q M3 (h2.beach f3.M h3 (hrs_wf999 hw c3)) ((hL.tr f2).tr f3.M.1)
  · refine ⟨fun _ => out k (by unfold hoK; rw [h, if_neg (by omega)]) hk, fun z => absurd z (neg46 hk).1⟩
/-- back -/
def backS (s : SG) : Int32 × SG := match sT s with | [] => outS s 3 | T :: tl => (nI tl.length, wT (wB s T) tl)
theorem c_back {s : SG} {M : MM} {Q : Int32 → MM → Prop} (hR : RepC s M) (q : ∀ M', RepC (backS s).2 M' → Hi M M' → Q (backS s).1 M') : D4_back M Q := by
  unfold D4_back
  have hR0 := hR
  obtain ⟨r1, r2, r3, ⟨t1, t2, p, t3, t4, t5⟩, r5, r6, r7⟩ := hR
  rw [t2, show (0 : Int32) = nI 0 from rfl, z_lt (by decide) (by omega)]
  unfold backS at q
  cases hs : sT s with
  | nil =>
    rw [hs] at q
    exact ⟨fun z => absurd z (Nat.lt_irrefl 0), fun _ => c_out (k := 3) hR0 (by decide) q⟩
  | cons T tl =>
    rw [hs] at q t1 t2 t5
    refine ⟨fun _ => ?_, fun z => absurd (Nat.succ_pos _) z⟩
    rw [List.length_cons] at t1 t2
    have e10 : ((M 0 10 + 8) - 1) - ((M 0 10 + 8) - 1) / (8 : Int32) * (8 : Int32) = nI ((p + 7) % 8) := by
      rw [t4, show nI p + 8 = nI (p + 8) from nI_add p 8, show nI (p + 8) - 1 = nI (p + 7) from pk_sub (a := p + 8) (b := 1) (by omega)]
      exact pk_rem (a := p + 7) (d := 8) (by omega) (by decide) (by decide)
    dsimp only
    rw [e10, up_s]
    have hq : (p + 7) % 8 < 8 := Nat.mod_lt _ (by decide)
    have hb := isB_q hq
    obtain ⟨g3, g4⟩ := t5 0 T (by rw [List.getElem?_cons_zero])
    rw [Nat.sub_zero] at g3
    refine p4_earlierAt hq ⟨isB_ob hb, ?_⟩
    refine p0_becomes isB1 hb (by omega) (WFm g4) (g3.cong (fun x a b => up_p (by omega))) (fun M1 h1 f1 => ?_)
    have e0 : ∀ j, j ≠ 10 → M1 0 j = M 0 j := fun j a => by rw [f1 0 (by omega), up_k a]
    have e010 : M1 0 10 = nI ((p + 7) % 8) := by rw [f1 0 (by omega), up_s]
    rw [e0 9 (by decide), t2, nI_pred, up_s]
    have hf : ∀ x, x ≠ 0 → 5 < x → up M1 0 9 (nI tl.length) x = M x := fun x a b => by rw [up_p a, f1 x (by omega), up_p a]
    have h00 : ∀ j, j ≠ 9 → j ≠ 10 → up M1 0 9 (nI tl.length) 0 j = M 0 j := fun j a b => by rw [up_k a, e0 j b]
    refine q _ ⟨h1.cong (fun x a b => up_p (by omega)), g4, r3.cong (h00 11 (by decide) (by decide)) (fun x a b => hf x (by omega) (by omega)), ⟨?_, up_s, (p + 7) % 8, hq, ?_, fun i U hU => ?_⟩, r5.cong (by rw [hf 57 (by decide) (by decide)]) (hf 58 (by decide) (by decide)), r6.cong (h00 8 (by decide) (by decide)) (hf 59 (by decide) (by decide)), r7.cong (hf 60 (by decide) (by decide))⟩ (fun x hx => hf x (by omega) (by omega))
    · show tl.length ≤ 8
      omega
    · rw [up_k (by decide)]; exact e010
    · have hU : tl[i]? = some U := hU
      have hi : i < tl.length := (List.getElem?_eq_some_iff.mp hU).1
      obtain ⟨k3, k4⟩ := t5 (i + 1) U (by rw [List.getElem?_cons_succ]; exact hU)
      refine ⟨?_, k4⟩
      rw [show ((p + 7) % 8 + 7 - i) % 8 = (p + 7 - (i + 1)) % 8 by omega]
      exact k3.cong (fun x a b => hf x (by omega) (by omega))
theorem bk_copy {t : Nat} {M0 : MM} {Q : Int32 → MM → Prop} (ht : t < 8) (h32 : M0 62 32 = nI t) (k : ∀ M', (∀ p, p ≠ 78 → M' p = M0 p) → (∀ j, j < 44 → M' 78 j = M0 77 (44 * t + j)) → D5_back_c63 Q M') :
    ∀ (n i : Nat) (M : MM), i ≤ 44 → 44 - i < n → (∀ p, p ≠ 78 → M p = M0 p) → (∀ j, j < i → M 78 j = M0 77 (44 * t + j)) → D5_back_c31 Q n (nI i) M := by
  intro n
  induction n with
  | zero => intro i M h1 h2; omega
  | succ n ih =>
    intro i M h1 h2 hf ha
    unfold D5_back_c31
    rw [show (44 : Int32) = nI 44 from rfl, z_le (by decide) (by omega), hf 62 (by decide), h32, pk_mul, nI_add]
    refine ⟨fun z => ?_, fun z => ⟨ibc ⟨by decide, rfl⟩ rfl (show 44 * t + i < 352 by omega) (by decide), ibc ⟨by decide, rfl⟩ rfl (show i < 44 by omega) (by decide), ?_⟩⟩
    · exact k M hf (fun j hj => ha j (by omega))
    · dsimp only
      rw [z_ix (show 44 * t + i < 2 ^ 31 by omega), z_ix (show i < 2 ^ 31 by omega), nI_1]
      refine ih (i + 1) _ (by omega) (by omega) (fun p hp => by rw [up_p hp]; exact hf p hp) (fun j hj => ?_)
      by_cases y : j = i
      · rw [y, up_s, hf 77 (by decide)]
      · rw [up_k y]; exact ha j (by omega)
theorem m_back {s : SG} {M : MM} {Q : Int32 → MM → Prop} (hR : RepM s M) (q : ∀ M', RepM (backS s).2 M' → Lo M M' → Q (backS s).1 M') : D5_back M Q := by
  unfold D5_back
  have hR1 := hR.thrown (x := 0)
  have hL : Lo M (up M 62 9 0) := fun p hp => up_p (by omega)
  generalize up M 62 9 0 = M1 at hR1 hL
  have hR0 := hR1
  obtain ⟨r1, r2, r3, r4, r5, r6, r7, r8⟩ := hR1
  have hlen := r4.1
  have h32 := r4.2.1
  dsimp only
  rw [h32, show (0 : Int32) = nI 0 from rfl]
  simp only [ne_eq, z_eq (show (sT s).length < 2 ^ 31 by omega) (show 0 < 2 ^ 31 by decide)]
  unfold backS at q
  cases hs : sT s with
  | nil =>
    rw [hs] at q
    exact ⟨fun z => absurd rfl z, fun _ => m_out (k := 3) hR0 (by decide) (fun M' a b => q M' a (hL.tr b))⟩
  | cons T tl =>
    rw [hs] at q r4 hlen
    rw [List.length_cons] at hlen
    refine ⟨fun _ => ?_, fun z => absurd z (Nat.succ_ne_zero _)⟩
    rw [List.length_cons, show nI (tl.length + 1) - 1 = nI tl.length from nI_pred _]
    obtain ⟨g3, g4⟩ := r4.2.2 0 T (by rw [List.getElem?_cons_zero])
    rw [List.length_cons, show tl.length + 1 - 1 - 0 = tl.length by omega] at g3
    refine bk_copy (t := tl.length) (by omega) up_s (fun M2 f2 h2 => ?_) FU 0 _ (by decide) (by decide) (fun _ _ => rfl) (fun j hj => by omega)
    unfold D5_back_c63
    have t2 : RT T M2 78 := by
      unfold RO at g3
      exact g3.of g4.1 (fun j hj => by rw [h2 j hj, up_p (by decide)])
    refine p5_putB (Or.inr (Or.inr rfl)) g4 t2 (fun M3 h3 t3 f3 => ?_)
    have e1 : ∀ p, p ≠ 62 → p ≠ 78 → (p < 63 ∨ 67 < p) → M3 p = M1 p := fun p a b c => by
      funext j
      rw [f3 p j b (fun e => absurd e a) c, f2 p b, up_p a]
    have e62 : ∀ j, j ≠ 32 → j ≠ 0 ∧ j ≠ 6 ∧ j ≠ 7 ∧ j ≠ 8 ∧ j ≠ 27 ∧ j ≠ 28 ∧ j ≠ 29 → M3 62 j = M1 62 j := fun j a b => by rw [f3 62 j (by decide) (fun _ => b) (by decide), f2 62 (by decide), up_k a]
    have e32 : M3 62 32 = nI tl.length := by rw [f3 62 32 (by decide) (fun _ => by decide) (by decide), f2 62 (by decide), up_s]
    rw [e32]
    refine q M3 ⟨h3, g4, r3.cong (e62 26 (by decide) (by decide)) (e1 76 (by decide) (by decide) (by decide)), ⟨?_, e32, fun i U hU => ?_⟩, r5.cong (e62 17 (by decide) (by decide)) (e1 71 (by decide) (by decide) (by decide)), r6.cong (e62 36 (by decide) (by decide)) (e1 81 (by decide) (by decide) (by decide)), r7.cong (e1 68 (by decide) (by decide) (by decide)), (e62 15 (by decide) (by decide)).trans r8⟩ (hL.tr (fun p hp => e1 p (by omega) (by omega) (by omega)))
    · show tl.length ≤ 8
      omega
    · have hU : tl[i]? = some U := hU
      have hi : i < tl.length := (List.getElem?_eq_some_iff.mp hU).1
      obtain ⟨k3, k4⟩ := r4.2.2 (i + 1) U (by rw [List.getElem?_cons_succ]; exact hU)
      refine ⟨?_, k4⟩
      show RO U M3 (44 * (tl.length - 1 - i))
      unfold RO at k3 ⊢
      rw [List.length_cons, show tl.length + 1 - 1 - (i + 1) = tl.length - 1 - i by omega] at k3
      rw [e1 77 (by decide) (by decide) (by decide)]
      exact k3
/-- work -/
def wkK (s : SG) (x1 x2 x3 : Int32) : Nat := if inN x1 6 = true then (if rg x2 0 9 = 0 then (if bN (sB s) = 8 then 6 else if inN x3 25 = true then (if woV (sB s) x3.toInt.toNat < 0 then 0 else 3) else 1) else rg x2 0 9) else 2
def workS (s : SG) (x1 x2 x3 : Int32) : Int32 × SG := if wkK s x1 x2 x3 = 0 then (nI (bN (sB s)), wT (wB s (bBuild (sB s) x1.toInt.toNat x2.toInt.toNat x3.toInt.toNat)) []) else outS s (wkK s x1 x2 x3)
theorem c_work {s : SG} {x1 x2 x3 : Int32} {M : MM} {Q : Int32 → MM → Prop} (hR : RepC s M) (q : ∀ M', RepC (workS s x1 x2 x3).2 M' → Hi M M' → Q (workS s x1 x2 x3).1 M') : D4_work x1 x2 x3 M Q := by
  unfold D4_work D4_work_c43
  have hw := hR.2.1
  have hn := hw.1
  have out : ∀ k, wkK s x1 x2 x3 = k → (k = 1 ∨ k = 2 ∨ k = 3 ∨ k = 4 ∨ k = 6) → D4_refused (-(nI k)) M Q := by
    intro k h hk
    refine c_out hR (by omega) ?_
    rw [show workS s x1 x2 x3 = outS s k from by unfold workS; rw [h, if_neg (by omega)]] at q
    exact q
  have e0 : (0 : Int32).toInt = 0 := by decide
  have e10 : (10 : Int32).toInt = 10 := by decide
  refine p4_isKind ?_
  rw [b2l_n0, b2l_0]
  refine ⟨fun h => ?_, fun h => out 2 (by unfold wkK; rw [h]; rfl) (by omega)⟩
  have hK : wkK s x1 x2 x3 = if rg x2 0 9 = 0 then (if bN (sB s) = 8 then 6 else if inN x3 25 = true then (if woV (sB s) x3.toInt.toNat < 0 then 0 else 3) else 1) else rg x2 0 9 := if_pos h
  rw [i_le, i_le, e0, e10, hR.1.1, show (8 : Int32) = nI 8 from rfl, z_lt (by omega) (by decide)]
  refine ⟨fun c1 => ⟨fun c2 => out 6 (by rw [hK, show rg x2 0 9 = 6 from by unfold rg; rw [if_neg (by omega), if_pos (by omega)]]; rfl) (by omega), fun c2 => ?_⟩, fun c1 => out 4 (by rw [hK, show rg x2 0 9 = 4 from by unfold rg; rw [if_pos (by omega)]]; rfl) (by omega)⟩
  have h0 : rg x2 0 9 = 0 := by unfold rg; rw [if_neg (by omega), if_neg (by omega)]
  rw [if_pos h0] at hK
  refine ⟨fun c3 => ?_, fun c3 => out 6 (by rw [hK, if_pos (by omega)]) (by omega)⟩
  rw [if_neg (by omega)] at hK
  refine p4_isCell ?_
  rw [b2l_n0, b2l_0]
  refine ⟨fun h3 => ?_, fun h3 => out 1 (by rw [hK, h3]; rfl) (by omega)⟩
  obtain ⟨k, hk, hx1, hx1n⟩ := inN_0 h (by decide)
  obtain ⟨f, -, hf, hx2, hx2n⟩ := rg_0 h0 (by decide)
  obtain ⟨c, hc, hx3, hx3n⟩ := inN_0 h3 (by decide)
  rw [if_pos h3, hx3n] at hK
  rw [hx1, hx2, hx3]
  refine p0_workIn isB1 (WFm hw) hR.1 hc ⟨fun z => ?_, fun z => out 3 (by rw [hK, if_neg z]) (by omega)⟩
  rw [show workS s x1 x2 x3 = (nI (bN (sB s)), wT (wB s (bBuild (sB s) k f c)) []) from by unfold workS; rw [if_pos (by rw [hK, if_pos z]), hx1n, hx2n, hx3n]] at q
  have hR0 := hR
  obtain ⟨r1, r2, r3, r4, r5, r6, r7⟩ := hR
  refine p0_builds isB1 r1 (WFm hw) (by omega) (fun M1 h1 f1 => ?_)
  dsimp only
  have hf' : ∀ p, p ≠ 0 → 5 < p → up M1 0 9 0 p = M p := fun p a b => by rw [up_p a, f1 p (by omega)]
  have h00 : ∀ j, j ≠ 9 → up M1 0 9 0 0 j = M 0 j := fun j a => by rw [up_k a, f1 0 (by omega)]
  rw [up_p (by decide), h1.1, show nI (bN (bBuild (sB s) k f c)) - 1 = nI (bN (sB s)) from nI_pred _]
  exact q _ ⟨h1.cong (fun p a b => up_p (by omega)), hw.build (by omega) hk (by omega) hc, r3.cong (h00 11 (by decide)) (fun p a b => hf' p (by omega) (by omega)), r4.nil up_s (h00 10 (by decide)), r5.cong (by rw [hf' 57 (by decide) (by decide)]) (hf' 58 (by decide) (by decide)), r6.cong (h00 8 (by decide)) (hf' 59 (by decide) (by decide)), r7.cong (hf' 60 (by decide) (by decide))⟩ (fun p hp => hf' p (by omega) (by omega))
theorem FrM.ofB {M M' : MM} (h : ∀ p j, (p = 62 → j ≠ 0) → (p < 63 ∨ 67 < p) → M' p j = M p j) : FrM M M' :=
  ⟨fun p a => funext fun j => h p j (fun e => by omega) (by omega), h 62 15 (fun _ => by decide) (by decide), h 62 17 (fun _ => by decide) (by decide), h 62 26 (fun _ => by decide) (by decide), h 62 32 (fun _ => by decide) (by decide), h 62 36 (fun _ => by decide) (by decide), funext fun j => h 68 j (fun e => by omega) (by decide), funext fun j => h 71 j (fun e => by omega) (by decide), funext fun j => h 76 j (fun e => by omega) (by decide), funext fun j => h 77 j (fun e => by omega) (by decide), funext fun j => h 81 j (fun e => by omega) (by decide)⟩
/-- no turns -/
theorem RepM.no {s : SG} {M : MM} (h : RepM s M) : RepM (wT s []) (up M 62 32 (nI 0)) := by
  obtain ⟨r1, r2, r3, r4, r5, r6, r7, r8⟩ := h
  have hf : ∀ p, p ≠ 62 → up M 62 32 (nI 0) p = M p := fun p a => up_p a
  exact ⟨r1.slot (by decide), r2, r3.cong (up_k (by decide)) (hf 76 (by decide)), TnM.nil up_s, r5.cong (up_k (by decide)) (hf 71 (by decide)), r6.cong (up_k (by decide)) (hf 81 (by decide)), r7.cong (hf 68 (by decide)), (up_k (by decide)).trans r8⟩
theorem m_work {s : SG} {x1 x2 x3 : Int32} {M : MM} {Q : Int32 → MM → Prop} (hD : DC (sB s)) (hR : RepM s M) (q : ∀ M', RepM (workS s x1 x2 x3).2 M' → Lo M M' → Q (workS s x1 x2 x3).1 M') : D5_work x1 x2 x3 M Q := by
  unfold D5_work
  have hR1 := hR.thrown (x := 0)
  have hL : Lo M (up M 62 9 0) := fun p hp => up_p (by omega)
  generalize up M 62 9 0 = M1 at hR1 hL
  have hw := hR1.2.1
  have hn := hw.1
  have bad : ∀ k, wkK s x1 x2 x3 = k → (k = 1 ∨ k = 2 ∨ k = 3 ∨ k = 4 ∨ k = 6) → D5_work_c94 Q x1 x2 x3 (-(nI k)) M1 := by
    intro k h hk
    refine ⟨fun z => absurd z (by rcases hk with rfl | rfl | rfl | rfl | rfl <;> decide), fun _ => m_out hR1 (by omega) (fun M' a b => ?_)⟩
    rw [show workS s x1 x2 x3 = outS s k from by unfold workS; rw [h, if_neg (by omega)]] at q
    exact q M' a (hL.tr b)
  have ne : ∀ k, (k = 1 ∨ k = 2 ∨ k = 3 ∨ k = 4 ∨ k = 6) → ¬ -(nI k) = (0 : Int32) := by
    intro k hk; rcases hk with rfl | rfl | rfl | rfl | rfl <;> decide
  have b72 : ∀ k, wkK s x1 x2 x3 = k → (k = 1 ∨ k = 2 ∨ k = 3 ∨ k = 4 ∨ k = 6) → D5_work_c72 Q x1 x2 x3 (-(nI k)) M1 := fun k h hk => ⟨fun _ => bad k h hk, fun z => absurd z (ne k hk)⟩
  have b52 : ∀ k, wkK s x1 x2 x3 = k → (k = 1 ∨ k = 2 ∨ k = 3 ∨ k = 4 ∨ k = 6) → D5_work_c52 Q x1 x2 x3 (-(nI k)) M1 := fun k h hk => ⟨fun _ => b72 k h hk, fun z => absurd z (ne k hk)⟩
  have b29 : ∀ k, wkK s x1 x2 x3 = k → (k = 1 ∨ k = 2 ∨ k = 3 ∨ k = 4 ∨ k = 6) → D5_work_c29 Q x1 x2 x3 (-(nI k)) M1 := fun k h hk => ⟨fun _ => b52 k h hk, fun z => absurd z (ne k hk)⟩
  refine p5_inL (a := 0) (n := 5) (by decide) (by decide) ?_
  rw [b2l_0]
  refine ⟨fun h => b29 2 (by unfold wkK; rw [h]; rfl) (by omega), fun h => ?_⟩
  have h := b_nf h
  have hK : wkK s x1 x2 x3 = if rg x2 0 9 = 0 then (if bN (sB s) = 8 then 6 else if inN x3 25 = true then (if woV (sB s) x3.toInt.toNat < 0 then 0 else 3) else 1) else rg x2 0 9 := if_pos h
  refine p5_wrongNumber (a := 0) (b := 9) (by decide) (by decide) (fun h0 => ?_) (fun k h2 hk => b29 k (by rw [hK, h2, if_neg (by omega)]) (by omega))
  rw [if_pos h0] at hK
  unfold D5_work_c29
  rw [hR1.1.1, show (8 : Int32) = nI 8 from rfl]
  simp only [ne_eq, z_eq (show bN (sB s) < 2 ^ 31 by omega) (show 8 < 2 ^ 31 by decide)]
  refine ⟨fun y => absurd trivial y, fun _ => ⟨fun c3 => ?_, fun c3 => b52 6 (by rw [hK, if_pos c3]) (by omega)⟩⟩
  rw [if_neg c3] at hK
  refine ⟨fun y => absurd rfl y, fun _ => ?_⟩
  refine p5_isCell ?_
  rw [b2l_n0, b2l_0]
  refine ⟨fun h3 => ?_, fun h3 => b72 1 (by rw [hK, h3]; rfl) (by omega)⟩
  obtain ⟨k, hk, hx1, hx1n⟩ := inN_0 h (by decide)
  obtain ⟨f, -, hf, hx2, hx2n⟩ := rg_0 h0 (by decide)
  obtain ⟨c, hc, hx3, hx3n⟩ := inN_0 h3 (by decide)
  rw [if_pos h3, hx3n] at hK
  refine ⟨fun y => absurd rfl y, fun _ => ?_⟩
  rw [hx3]
  rw [hx3] at bad
  refine p5_workAt (WFm hw) hD hR1.1 hc ⟨fun z => ?_, fun z => bad 3 (by rw [← hx3, hK, if_neg z]) (by omega)⟩
  rw [show workS s x1 x2 x3 = (nI (bN (sB s)), wT (wB s (bBuild (sB s) k f c)) []) from by unfold workS; rw [if_pos (by rw [hK, if_pos z]), hx1n, hx2n, hx3n]] at q
  rw [hx1, hx2]
  refine ⟨fun _ => ?_, fun y => absurd (by decide) y⟩
  refine p5_workComes hR1.1 (by omega) (fun M2 h2 f2 => ?_)
  have fr := FrM.ofB f2
  have r2 : RepM (wB s (bBuild (sB s) k f c)) M2 := hR1.beach fr h2 (hw.build (by omega) hk (by omega) hc)
  have r3 := r2.no
  dsimp only
  rw [up_k (by decide), h2.1, show nI (bN (bBuild (sB s) k f c)) - 1 = nI (bN (sB s)) from nI_pred _]
  exact q _ r3 ((hL.tr fr.1).tr (fun p hp => up_p (by omega)))
