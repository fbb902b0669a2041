/-! PURE PART: the model lays the water -/
/-- the model's memory: its beach -/
def RM (B : BV) (M : MM) : Prop := M 62 0 = nI (bN B) ∧ M 62 6 = nI (bP B) ∧ M 62 7 = nI (bO B) ∧ M 62 8 = nI (bH B) ∧ ∀ j, j < bN B → M 63 j = nI (bK B j) ∧ M 64 j = nI (bF B j) ∧ M 65 j = nI (bC B j) ∧ M 66 j = nI (bW B j) ∧ M 67 j = nI (!(bS B j)).toNat
/-- what laying water leaves as it was -/
def FrL (M0 M : MM) : Prop := (∀ p, p ≠ 62 → p ≠ 69 → p ≠ 70 → M p = M0 p) ∧ ∀ k, k ≠ 12 → k ≠ 14 → M 62 k = M0 62 k
theorem FrL.rf {M : MM} : FrL M M := ⟨fun _ _ _ _ => rfl, fun _ _ _ => rfl⟩
theorem FrL.tr {M0 M1 M2 : MM} (h1 : FrL M0 M1) (h2 : FrL M1 M2) : FrL M0 M2 := ⟨fun p a b c => (h2.1 p a b c).trans (h1.1 p a b c), fun k a b => (h2.2 k a b).trans (h1.2 k a b)⟩
theorem RM.lay {B : BV} {M0 M : MM} (h : RM B M0) (hf : FrL M0 M) : RM B M := by
  obtain ⟨h0, h6, h7, h8, hj⟩ := h
  refine ⟨by rw [hf.2 0 (by decide) (by decide)]; exact h0, by rw [hf.2 6 (by decide) (by decide)]; exact h6, by rw [hf.2 7 (by decide) (by decide)]; exact h7, by rw [hf.2 8 (by decide) (by decide)]; exact h8, fun j hl => ?_⟩
  rw [hf.1 63 (by decide) (by decide) (by decide), hf.1 64 (by decide) (by decide) (by decide), hf.1 65 (by decide) (by decide) (by decide), hf.1 66 (by decide) (by decide) (by decide), hf.1 67 (by decide) (by decide) (by decide)]
  exact hj j hl
def QM (B : BV) (O t : Nat) (q : Nat → Nat) (W : Nat) (M0 M : MM) : Prop := M 62 12 = nI W ∧ M 62 14 = nI t ∧ (∀ i, i < t → M 70 i = nI (q i)) ∧ (∀ c, c < 25 → M 69 c = nI (stB B 10 c).toNat) ∧ FrL M0 M ∧ QS O t q W
theorem p5_becomeWet {B : BV} {l t W c : Nat} {q : Nat → Nat} {M0 M : MM} {Q : MM → Prop} (hl : l ≤ 5) (hQ : QM B (opM B l 10) t q W M0 M) (hc : c < 25) (hf : (opM B l 10).testBit c = true → (flo (opM B l 10) t).testBit c = true)
    (k : ∀ (t' : Nat) (q' : Nat → Nat) (W' : Nat) (M' : MM), QM B (opM B l 10) t' q' W' M0 M' → t ≤ t' → (∀ i, i < t → q' i = q i) → (∀ d, W.testBit d = true → W'.testBit d = true) → ((opM B l 10).testBit c = true → W'.testBit c = true) → Q M') : D5_becomeWet (nI c) (nI l) M Q := by
  obtain ⟨a12, a14, aq, as, af, aQ⟩ := hQ
  have hb := opM_bit B l 10 c
  rw [rowsM_bit hc] at hb
  have same : ((opM B l 10).testBit c = true → W.testBit c = true) → Q M := fun h => k t q W M ⟨a12, a14, aq, as, af, aQ⟩ (Nat.le_refl _) (fun _ _ => rfl) (fun _ h => h) h
  unfold D5_becomeWet
  refine ⟨fun z => absurd z (nI_pos (by omega)), fun _ => ?_⟩
  rw [show nI c / (5 : Int32) = nI (c / 5) from pk_div (d := 5) (by omega) (by decide) (by decide), show (5 : Int32) - nI l = nI (5 - l) from pk_sub (a := 5) hl, z_lt (by omega) (by omega)]
  refine ⟨fun z => same (fun h => ?_), fun z => ⟨ibc ⟨by decide, rfl⟩ rfl hc (by decide), ?_⟩⟩
  · rw [hb] at h
    have : ¬ (5 - l ≤ c / 5) := by omega
    simp [this] at h
  · rw [z_ix (by omega), as c hc]
    have hrow : decide (5 - l ≤ c / 5) = true := by simpa using z
    rw [hrow, Bool.true_and] at hb
    refine ⟨fun z2 => same (fun h => ?_), fun z2 => ?_⟩
    · rw [hb] at h
      have : stB B 10 c = false := by simpa using h
      rw [this] at z2
      exact absurd rfl z2
    · have hst : stB B 10 c = false := by
        cases hs : stB B 10 c
        · rfl
        · rw [hs] at z2; exact absurd z2 (by decide)
      rw [hst] at hb
      have hO : (opM B l 10).testBit c = true := by rw [hb]; rfl
      rw [a12]
      refine p5_hasBit (Nat.lt_trans aQ.2.2.1 (by decide)) (by omega) ?_
      rw [z_lit, b2_n0, b2_0]
      refine ⟨fun z3 => same (fun _ => z3), fun z3 => ?_⟩
      have hadd := QS_add aQ hc z3 (hf hO)
      have ht := QS_le hadd
      show ib 70 (up M 62 12 (M 62 12 ||| ((1 : Int32) <<< (nI c &&& 31))) 62 14) ∧ _
      rw [a12, z_shl c (by omega), z_or, up_k (by decide), a14]
      refine ⟨ibc ⟨by decide, rfl⟩ rfl (show t < 25 by omega) (by decide), ?_⟩
      rw [z_ix (by omega)]
      show Q (up (up (up M 62 12 (nI (W ||| 2 ^ c))) 70 t (nI c)) 62 14 (up (up M 62 12 (nI (W ||| 2 ^ c))) 70 t (nI c) 62 14 + 1))
      have e14 : up (up M 62 12 (nI (W ||| 2 ^ c))) 70 t (nI c) 62 14 + 1 = nI (t + 1) := by
        rw [up_p (by decide), up_k (by decide), a14, nI_1]
      rw [e14]
      refine k (t + 1) (fun j => if j = t then c else q j) (W ||| 2 ^ c) _ ⟨?_, up_s, fun i hi => ?_, fun d hd => ?_, ⟨fun p h1 h2 h3 => ?_, fun j h1 h2 => ?_⟩, hadd⟩ (by omega) (fun i hi => if_neg (by omega)) (fun d hd => by rw [Nat.testBit_or, hd, Bool.true_or]) (fun _ => by rw [Nat.testBit_or, Nat.testBit_two_pow]; simp)
      · rw [up_k (by decide), up_p (by decide), up_s]
      · rw [up_p (by decide)]
        by_cases y : i = t
        · subst y; rw [up_s]; simp
        · rw [up_k y, up_p (by decide)]
          simp only [if_neg y]
          exact aq i (by omega)
      · rw [up_p (by decide), up_p (by decide), up_p (by decide)]
        exact as d hd
      · rw [up_p h1, up_p h3, up_p h1]
        exact af.1 p h1 h2 h3
      · rw [up_k h2, up_p (by decide), up_k h1]
        exact af.2 j h1 h2
theorem p5_becomeWetN {r : Int32} {x : Int32} {M : MM} {Q : MM → Prop} (hr : r < 0) (q : Q M) : D5_becomeWet r x M Q := ⟨fun _ => q, fun z => absurd hr z⟩
/-- the four neighbours of a cell of the queue -/
theorem lay_way {B : BV} {l d : Nat} {M0 : MM} {Q : MM → Prop} {K : Int32 → Int32 → MM → Prop} (hl : l ≤ 5) (i : Nat)
    (hn : ∀ (way d' : Nat), nbw d way = some d' → (opM B l 10).testBit d' = true → (flo (opM B l 10) (i + 1)).testBit d' = true) (hd : d < 25) :
    ∀ (n way t W : Nat) (q : Nat → Nat) (M : MM), way ≤ 4 → 4 - way < n → QM B (opM B l 10) t q W M0 M → i < t → q i = d → (∀ w' d', w' < way → nbw d w' = some d' → (opM B l 10).testBit d' = true → W.testBit d' = true) →
    (∀ (t' W' : Nat) (q' : Nat → Nat) (M' : MM), QM B (opM B l 10) t' q' W' M0 M' → t ≤ t' → (∀ j, j < t → q' j = q j) → (∀ e, W.testBit e = true → W'.testBit e = true) → (∀ w' d', w' < 4 → nbw d w' = some d' → (opM B l 10).testBit d' = true → W'.testBit d' = true) → K (nI l) (nI i + 1) M') →
    D5_layWet_c116 K Q n (nI l) (nI i) (nI way) M := by
  intro n
  induction n with
  | zero => intro way t W q M h1 h2; omega
  | succ n ih =>
    intro way t W q M h1 h2 hQ hi hq hdone k
    have hi25 : i < 25 := Nat.lt_of_lt_of_le hi (QS_le hQ.2.2.2.2.2)
    unfold D5_layWet_c116
    rw [show (4 : Int32) = nI 4 from rfl, z_le (by decide) (by omega)]
    refine ⟨fun c => ?_, fun c => ⟨ibc ⟨by decide, rfl⟩ rfl hi25 (by decide), ?_⟩⟩
    · have e : way = 4 := by omega
      subst e
      exact k t W q M hQ (Nat.le_refl _) (fun _ _ => rfl) (fun _ h => h) hdone
    · rw [z_ix (by omega), hQ.2.2.1 i hi, hq]
      have go : ∀ (t' : Nat) (q' : Nat → Nat) (W' : Nat) (M' : MM), QM B (opM B l 10) t' q' W' M0 M' → t ≤ t' → (∀ j, j < t → q' j = q j) → (∀ e, W.testBit e = true → W'.testBit e = true) → (∀ d', nbw d way = some d' → (opM B l 10).testBit d' = true → W'.testBit d' = true) → D5_layWet_c116 K Q n (nI l) (nI i) (nI way + 1) M' := by
        intro t' q' W' M' hQ' ht' hq' hW' hn'
        rw [nI_1]
        refine ih (way + 1) t' W' q' M' (by omega) (by omega) hQ' (by omega) (by rw [hq' i hi]; exact hq) (fun w' d' hw' hd' ho => ?_) (fun t2 W2 q2 M2 g1 g2 g3 g4 g5 => k t2 W2 q2 M2 g1 (by omega) (fun j hj => by rw [g3 j (by omega), hq' j hj]) (fun e he => g4 e (hW' e he)) g5)
        rcases Nat.lt_or_ge w' way with z | z
        · exact hW' d' (hdone w' d' z hd' ho)
        · have : w' = way := by omega
          subst this
          exact hn' d' hd' ho
      refine p5_beside hd (by omega) (fun d' hd' hd25 => ?_) (fun r hr hr0 => ?_)
      · refine p5_becomeWet hl hQ hd25 (fun ho => flo_mono (hn way d' hd' ho) t (by omega)) (fun t' q' W' M' g1 g2 g3 g4 g5 => go t' q' W' M' g1 g2 g3 g4 (fun d2 e2 ho => ?_))
        rw [hd'] at e2; cases e2
        exact g5 ho
      · refine p5_becomeWetN hr0 (go t q W M hQ (Nat.le_refl _) (fun _ _ => rfl) (fun _ h => h) (fun d2 e2 _ => ?_))
        rw [hr] at e2; cases e2
theorem nbIn_of {W c way d : Nat} (hw : way < 4) (h : nbw c way = some d) (hd : W.testBit d = true) : nbIn W c = true := by
  unfold nbIn
  rw [List.any_eq_true]
  exact ⟨way, List.mem_range.mpr hw, by rw [h]; exact hd⟩
theorem nbIn_ex {W c : Nat} (h : nbIn W c = true) : ∃ way d, way < 4 ∧ nbw c way = some d ∧ W.testBit d = true := by
  unfold nbIn at h
  rw [List.any_eq_true] at h
  obtain ⟨way, h1, h2⟩ := h
  cases hn : nbw c way with
  | none => rw [hn] at h2; cases h2
  | some d => rw [hn] at h2; exact ⟨way, d, List.mem_range.mp h1, hn, h2⟩
theorem nbw_sym {c d way : Nat} (hc : c < 25) (hw : way < 4) (h : nbw c way = some d) : ∃ w2, w2 < 4 ∧ nbw d w2 = some c := by
  have key := (by decide +kernel : ∀ c, c < 25 → ∀ way, way < 4 → (match nbw c way with | none => true | some d => (List.range 4).any (fun w2 => decide (nbw d w2 = some c))) = true) c hc way hw
  rw [h] at key
  dsimp only at key
  rw [List.any_eq_true] at key
  obtain ⟨w2, h1, h2⟩ := key
  exact ⟨w2, List.mem_range.mp h1, of_decide_eq_true h2⟩
theorem flo_bit {O i c : Nat} (hO : O < 2 ^ 25) (hc : c < 25) : (flo O (i + 1)).testBit c = ((flo O i).testBit c || (nbIn (flo O i) c && O.testBit c)) := by
  show (flo O i ||| (besM (flo O i) &&& O)).testBit c = _
  rw [Nat.testBit_or, Nat.testBit_and, besM_bit hc (flo_lt hO i)]
theorem flo_open {O : Nat} : ∀ i c, (flo O i).testBit c = true → O.testBit c = true
  | 0, c, h => by
    have h : (O &&& 32505856).testBit c = true := h
    rw [Nat.testBit_and, Bool.and_eq_true] at h
    exact h.1
  | i + 1, c, h => by
    have h : (flo O i ||| (besM (flo O i) &&& O)).testBit c = true := h
    rw [Nat.testBit_or, Bool.or_eq_true] at h
    rcases h with h | h
    · exact flo_open i c h
    · rw [Nat.testBit_and, Bool.and_eq_true] at h
      exact h.2
/-- a queue that has gone through all its cells holds what is WET -/
theorem QS_end {O t W : Nat} {q : Nat → Nat} (hO : O < 2 ^ 25) (h : QS O t q W) (h0 : ∀ c, 20 ≤ c → c < 25 → O.testBit c = true → W.testBit c = true) (hcl : ∀ i, i < t → ∀ w d, w < 4 → nbw (q i) w = some d → O.testBit d = true → W.testBit d = true) : W = flo O 24 := by
  have ht := QS_le h
  have sub : ∀ i c, (flo O i).testBit c = true → W.testBit c = true := by
    intro i
    induction i with
    | zero =>
      intro c hc
      have hc : (O &&& 32505856).testBit c = true := hc
      rw [Nat.testBit_and, Bool.and_eq_true] at hc
      have h25 : c < 25 := by
        rcases Nat.lt_or_ge c 25 with z | z
        · exact z
        · rw [Nat.testBit_lt_two_pow (Nat.lt_of_lt_of_le hO (Nat.pow_le_pow_right (by decide) z))] at hc; exact absurd hc.1 (by simp)
      have h20 := (by decide +kernel : ∀ c, c < 25 → Nat.testBit 32505856 c = true → 20 ≤ c) c h25 hc.2
      exact h0 c h20 h25 hc.1
    | succ i ih =>
      intro c hc
      have h25 : c < 25 := by
        rcases Nat.lt_or_ge c 25 with z | z
        · exact z
        · rw [Nat.testBit_lt_two_pow (Nat.lt_of_lt_of_le (flo_lt hO (i + 1)) (Nat.pow_le_pow_right (by decide) z))] at hc; cases hc
      rw [flo_bit hO h25, Bool.or_eq_true] at hc
      rcases hc with hc | hc
      · exact ih c hc
      · rw [Bool.and_eq_true] at hc
        obtain ⟨way, d, hw, hn, hd⟩ := nbIn_ex hc.1
        have hdW := ih d hd
        obtain ⟨j, hj, hqj⟩ := (h.2.2.2 d).mp hdW
        obtain ⟨w2, hw2, hn2⟩ := nbw_sym h25 hw hn
        exact hcl j hj w2 c hw2 (by rw [hqj]; exact hn2) hc.2
  apply Nat.eq_of_testBit_eq
  intro c
  apply Bool.eq_iff_iff.mpr
  constructor
  · intro hc
    obtain ⟨j, hj, hqj⟩ := (h.2.2.2 c).mp hc
    rw [← hqj]
    exact flo_mono (h.1 j hj).2 24 (by omega)
  · exact sub 24 c
theorem lay_queue {B : BV} {l : Nat} {M0 : MM} {Q : MM → Prop} (hl : l ≤ 5) (k : ∀ M', M' 62 12 = nI (wet B l) → FrL M0 M' → Q M') :
    ∀ (n i t W : Nat) (q : Nat → Nat) (M : MM), i ≤ t → 25 - i < n → QM B (opM B l 10) t q W M0 M → (∀ c, 20 ≤ c → c < 25 → (opM B l 10).testBit c = true → W.testBit c = true) → (∀ j, j < i → ∀ w d, w < 4 → nbw (q j) w = some d → (opM B l 10).testBit d = true → W.testBit d = true) → D5_layWet_c106 Q n (nI l) (nI i) M := by
  intro n
  induction n with
  | zero => intro i t W q M h1 h2 hQ; omega
  | succ n ih =>
    intro i t W q M h1 h2 hQ h0 hcl
    have ht := QS_le hQ.2.2.2.2.2
    unfold D5_layWet_c106
    rw [hQ.2.1, z_le (by omega) (by omega)]
    refine ⟨fun c => ?_, fun c => ?_⟩
    · refine k M ?_ hQ.2.2.2.2.1
      have e : i = t := by omega
      subst e
      rw [hQ.1, QS_end (opM_lt B l 10) hQ.2.2.2.2.2 h0 hcl]
      rfl
    · have hi : i < t := by omega
      obtain ⟨hd, hfl⟩ := hQ.2.2.2.2.2.1 i hi
      refine lay_way (d := q i) hl i (fun way d' hn ho => ?_) hd FU 0 t W q M (by decide) (by decide) hQ hi rfl (fun w' d' hw' => by omega) (fun t' W' q' M' g1 g2 g3 g4 g5 => ?_)
      · have hw4 : ∃ w2, w2 < 4 ∧ nbw (q i) w2 = some d' := by
          rcases Nat.lt_or_ge way 3 with z | z
          · exact ⟨way, by omega, hn⟩
          · refine ⟨3, by decide, ?_⟩
            rw [← hn]
            match way, z with
            | w + 3, _ => rfl
        obtain ⟨w2, hw2, hn2⟩ := hw4
        have hd' := nbw_lt hd hn2
        obtain ⟨w3, hw3, hn3⟩ := nbw_sym hd hw2 hn2
        rw [flo_bit (opM_lt B l 10) hd', ho, nbIn_of hw3 hn3 hfl]
        simp
      · rw [nI_1]
        refine ih (i + 1) t' W' q' M' (by omega) (by omega) g1 (fun c a b o => g4 c (h0 c a b o)) (fun j hj w d hw hn ho => ?_)
        rw [g3 j (by omega)] at hn
        rcases Nat.lt_or_ge j i with z | z
        · exact g4 d (hcl j z w d hw hn ho)
        · have : j = i := by omega
          subst this
          exact g5 w d hw hn ho
theorem lay_seed {B : BV} {l : Nat} {M0 : MM} {Q : MM → Prop} (hl : l ≤ 5) (k : ∀ M', M' 62 12 = nI (wet B l) → FrL M0 M' → Q M') :
    ∀ (n c t W : Nat) (q : Nat → Nat) (M : MM), 20 ≤ c → c ≤ 25 → 25 - c < n → QM B (opM B l 10) t q W M0 M → (∀ d, 20 ≤ d → d < c → (opM B l 10).testBit d = true → W.testBit d = true) → D5_layWet_c86 Q n (nI l) (nI c) M := by
  intro n
  induction n with
  | zero => intro c t W q M h0 h1 h2; omega
  | succ n ih =>
    intro c t W q M h0 h1 h2 hQ hs
    unfold D5_layWet_c86
    rw [show (25 : Int32) = nI 25 from rfl, z_le (by decide) (by omega)]
    refine ⟨fun z => ?_, fun z => ?_⟩
    · have e : c = 25 := by omega
      subst e
      exact lay_queue hl k FU 0 t W q M (Nat.zero_le _) (by decide) hQ hs (fun j hj => by omega)
    · have hc : c < 25 := by omega
      refine p5_becomeWet hl hQ hc (fun ho => flo_mono (i := 0) ?_ t (Nat.zero_le t)) (fun t' q' W' M' g1 g2 g3 g4 g5 => ?_)
      · show (opM B l 10 &&& 32505856).testBit c = true
        rw [Nat.testBit_and, ho]
        exact (by decide +kernel : ∀ c, c < 25 → 20 ≤ c → (true && Nat.testBit 32505856 c) = true) c hc h0
      · rw [nI_1]
        refine ih (c + 1) t' W' q' M' (by omega) (by omega) (by omega) g1 (fun d a b o => ?_)
        rcases Nat.lt_or_ge d c with y | y
        · exact g4 d (hs d a y o)
        · have : d = c := by omega
          subst this
          exact g5 o
theorem stB_n {B : BV} {n H : Nat} (hw : WF n H B) (hn : n ≤ 10) (c : Nat) : ∀ w, bN B ≤ w → stB B w c = stB B (bN B) c := by
  intro w
  induction w with
  | zero => intro h; rw [show bN B = 0 by omega]
  | succ w ih =>
    intro h
    rcases Nat.eq_or_lt_of_le h with z | z
    · rw [z]
    · have hs : bS B w = false := by
        cases e : bS B w
        · rfl
        · have := hw.2.2.1 w e; omega
      show (stB B w c || (bS B w && decide (bK B w ≠ 2) && decide (bC B w = c))) = stB B (bN B) c
      rw [hs, ih (by omega)]
      simp
theorem p5_isStop {B : BV} {j H : Nat} {M : MM} {Q : Int32 → MM → Prop} (hw : WF 10 H B) (hR : RM B M) (hj : j < bN B) (q : Q (b2 (decide (bK B j ≠ 2))) M) : D5_isStop (nI j) M Q := by
  have hj10 : j < 10 := Nat.lt_of_lt_of_le hj hw.1
  unfold D5_isStop
  refine ⟨ibc ⟨by decide, rfl⟩ rfl hj10 (by decide), ?_⟩
  have hk := (hw.2.1 j hj).1
  rw [z_ix (by omega), (hR.2.2.2.2 j hj).1, show (2 : Int32) = nI 2 from rfl, z_eq (by omega) (by decide)]
  refine ⟨fun z => ?_, fun z => ?_⟩
  · rw [b2_f (by simp [z])] at q; exact q
  · rw [b2_t (by simp [z])] at q; exact q
theorem lay_stop {B : BV} {l H : Nat} {M0 : MM} {Q : MM → Prop} (hl : l ≤ 5) (hw : WF 10 H B) (hR : RM B M0) (k : ∀ M', M' 62 12 = nI (wet B l) → FrL M0 M' → Q M') :
    ∀ (n j : Nat) (M : MM), j ≤ bN B → bN B - j < n → FrL M0 M → (∀ c, c < 25 → M 69 c = nI (stB B j c).toNat) → D5_layWet_c23 Q n (nI l) (nI j) M := by
  intro n
  induction n with
  | zero => intro j M h1 h2; omega
  | succ n ih =>
    intro j M h1 h2 hf hs
    have hn := hw.1
    have hRM := hR.lay hf
    unfold D5_layWet_c23
    rw [hRM.1, z_le (by omega) (by omega)]
    refine ⟨fun z => ?_, fun z => ?_⟩
    · have e : j = bN B := by omega
      unfold D5_layWet_c73
      refine lay_seed (M0 := M0) hl k FU 20 0 0 (fun _ => 0) _ (Nat.le_refl _) (by decide) (by decide) ⟨?_, up_s, fun i hi => by omega, fun c hc => ?_, ⟨fun p g1 g2 g3 => ?_, fun x g1 g2 => ?_⟩, ?_⟩ (fun d g1 g2 => by omega)
      · rw [up_k (by decide), up_s]; rfl
      · rw [up_p (by decide), up_p (by decide), hs c hc, e, stB_n hw (Nat.le_refl _) c 10 hn]
      · rw [up_p g1, up_p g1]; exact hf.1 p g1 g2 g3
      · rw [up_k g2, up_k g1]; exact hf.2 x g1 g2
      · refine ⟨fun i hi => by omega, fun i j _ hj => by omega, by decide, fun c => ?_⟩
        simp
    · have hj : j < bN B := by omega
      have hj10 : j < 10 := by omega
      obtain ⟨g1, g2, g3, g4⟩ := hw.2.1 j hj
      obtain ⟨m1, m2, m3, m4, m5⟩ := hRM.2.2.2.2 j hj
      refine ⟨ibc ⟨by decide, rfl⟩ rfl hj10 (by decide), ?_⟩
      rw [z_ix (by omega), m3]
      refine ⟨ibc ⟨by decide, rfl⟩ rfl g3 (by decide), ibc ⟨by decide, rfl⟩ rfl hj10 (by decide), ?_⟩
      rw [m5, z_ix (by omega), hs _ g3]
      -- the next round
      have next : ∀ x : Bool, stB B (j + 1) (bC B j) = (stB B j (bC B j) || x) → (∀ c, c ≠ bC B j → stB B (j + 1) c = stB B j c) → D5_layWet_c65 (D5_layWet_c23 Q n) Q (nI l) (nI j) (nI x.toNat) (nI (stB B j (bC B j)).toNat) (nI (bC B j)) 69 M := by
        intro x hx hy
        unfold D5_layWet_c65
        refine ⟨ibc ⟨by decide, rfl⟩ rfl g3 (by decide), ?_⟩
        rw [z_ix (by omega), z_or]
        show D5_layWet_c23 Q n (nI l) (nI j + 1) (up M 69 (bC B j) (nI ((stB B j (bC B j)).toNat ||| x.toNat)))
        rw [nI_1]
        refine ih (j + 1) _ (by omega) (by omega) ⟨fun p a b c => ?_, fun x a b => ?_⟩ (fun c hc => ?_)
        · rw [up_p b]; exact hf.1 p a b c
        · rw [up_p (by decide)]; exact hf.2 x a b
        · by_cases y : c = bC B j
          · subst y
            rw [up_s, hx]
            cases stB B j (bC B j) <;> cases x <;> rfl
          · rw [up_k y, hs c hc, hy c y]
      have hother : ∀ c, c ≠ bC B j → stB B (j + 1) c = stB B j c := by
        intro c hc
        have : ¬ bC B j = c := fun e => hc e.symm
        simp [stB, this]
      have hself : stB B (j + 1) (bC B j) = (stB B j (bC B j) || (bS B j && decide (bK B j ≠ 2))) := by simp [stB]
      refine ⟨fun e => ?_, fun e => ?_⟩
      · have es : bS B j = false := by
          cases h : bS B j
          · rfl
          · rw [h] at e; exact absurd rfl e
        exact next false (by rw [hself, es]; rfl) hother
      · have es : bS B j = true := by
          cases h : bS B j
          · rw [h] at e; exact absurd e (by decide)
          · rfl
        refine p5_isStop hw hRM hj ?_
        rw [z_lit, b2_0]
        refine ⟨fun e2 => ?_, fun e2 => ?_⟩
        · exact next false (by rw [hself, es, e2]; rfl) hother
        · have e2 : decide (bK B j ≠ 2) = true := by simpa using e2
          exact next true (by rw [hself, es, e2]; rfl) hother
theorem lay_clear {B : BV} {l H : Nat} {M0 : MM} {Q : MM → Prop} (hl : l ≤ 5) (hw : WF 10 H B) (hR : RM B M0) (k : ∀ M', M' 62 12 = nI (wet B l) → FrL M0 M' → Q M') :
    ∀ (n c : Nat) (M : MM), c ≤ 25 → 25 - c < n → FrL M0 M → (∀ d, d < c → M 69 d = nI 0) → D5_layWet_c2 Q n (nI l) (nI c) M := by
  intro n
  induction n with
  | zero => intro c M h1 h2; omega
  | succ n ih =>
    intro c M h1 h2 hf hs
    unfold D5_layWet_c2
    rw [show (25 : Int32) = nI 25 from rfl, z_le (by decide) (by omega)]
    refine ⟨fun z => ?_, fun z => ⟨ibc ⟨by decide, rfl⟩ rfl (show c < 25 by omega) (by decide), ?_⟩⟩
    · exact lay_stop hl hw hR k FU 0 M (Nat.zero_le _) (Nat.lt_of_le_of_lt (Nat.le_trans (Nat.sub_le _ _) hw.1) (by decide)) hf (fun d hd => hs d (by omega))
    · rw [z_ix (by omega)]
      show D5_layWet_c2 Q n (nI l) (nI c + 1) (up M 69 c (nI 0))
      rw [nI_1]
      refine ih (c + 1) _ (by omega) (by omega) ⟨fun p a b x => ?_, fun x a b => ?_⟩ (fun d hd => ?_)
      · rw [up_p b]; exact hf.1 p a b x
      · rw [up_p (by decide)]; exact hf.2 x a b
      · by_cases y : d = c
        · subst y; exact up_s
        · rw [up_k y]; exact hs d (by omega)
/-- the model's water is the class's -/
theorem p5_layWet {B : BV} {l H : Nat} {M : MM} {Q : MM → Prop} (hl : l ≤ 5) (hw : WF 10 H B) (hR : RM B M) (k : ∀ M', M' 62 12 = nI (wet B l) → FrL M M' → Q M') : D5_layWet (nI l) M Q :=
  lay_clear hl hw hR k FU 0 M (Nat.zero_le _) (by decide) FrL.rf (fun d hd => by omega)
