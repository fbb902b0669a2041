/-! PURE PART: the ROW's numbers; clear; LOW; image and restore begin -/
theorem RM.cong {B : BV} {M M' : MM} (h : RM B M) (h0 : M' 62 0 = M 62 0) (h6 : M' 62 6 = M 62 6) (h7 : M' 62 7 = M 62 7) (h8 : M' 62 8 = M 62 8) (hf : ∀ p, 63 ≤ p → p ≤ 67 → M' p = M p) : RM B M' := by
  obtain ⟨a1, a2, a3, a4, a5⟩ := h
  refine ⟨h0.trans a1, h6.trans a2, h7.trans a3, h8.trans a4, fun j hj => ?_⟩
  rw [hf 63 (by decide) (by decide), hf 64 (by decide) (by decide), hf 65 (by decide) (by decide), hf 66 (by decide) (by decide), hf 67 (by decide) (by decide)]
  exact a5 j hj
theorem ImM.cong {im : Option BV} {M M' : MM} (h : ImM im M) (h0 : M' 62 26 = M 62 26) (h1 : M' 76 = M 76) : ImM im M' := ⟨h0.trans h.1, fun I hI => ⟨(h.2 I hI).1.cong h1, (h.2 I hI).2⟩⟩
theorem TnM.cong {tn : List BV} {M M' : MM} (h : TnM tn M) (h0 : M' 62 32 = M 62 32) (h1 : M' 77 = M 77) : TnM tn M' := ⟨h.1, h0.trans h.2.1, fun i T hT => ⟨by unfold RO; rw [h1]; exact (h.2.2 i T hT).1, (h.2.2 i T hT).2⟩⟩
theorem LtM.cong {l : List Nat} {M M' : MM} (h : LtM l M) (h0 : M' 62 17 = M 62 17) (h1 : M' 71 = M 71) : LtM l M' := ⟨h0.trans h.1, h.2.1, fun i c hc => by rw [h1]; exact h.2.2 i c hc⟩
theorem RwM.cong {l : List Nat} {M M' : MM} (h : RwM l M) (h0 : M' 62 36 = M 62 36) (h1 : M' 81 = M 81) : RwM l M' := ⟨h0.trans h.1, h.2.1, fun i c hc => by rw [h1]; exact h.2.2 i c hc⟩
theorem RfM.cong {f : Nat → Int32} {M M' : MM} (h : RfM f M) (h1 : M' 68 = M 68) : RfM f M' := fun k hk => by rw [h1]; exact h k hk
theorem RwC.nil {M : MM} (h : M 0 8 = nI 0) : RwC [] M := ⟨h, by decide, fun i c hc => by simp at hc⟩
theorem RwM.nil {M : MM} (h : M 62 36 = nI 0) : RwM [] M := ⟨h, by decide, fun i c hc => by simp at hc⟩
/-- the class's memory with another slot of the object, of no weight to the rest -/
theorem RepC.row0 {s : SG} {M : MM} (h : RepC s M) : RepC (sB s, sI s, sT s, sL s, [], sF s) (up M 0 8 (nI 0)) := by
  obtain ⟨r1, r2, r3, r4, r5, r6, r7⟩ := h
  have hf : ∀ p, p ≠ 0 → up M 0 8 (nI 0) p = M p := fun p a => up_p a
  exact ⟨r1.cong (fun p a b => hf p (by omega)), r2, r3.cong (up_k (by decide)) (fun p a b => hf p (by omega)), r4.cong (up_k (by decide)) (up_k (by decide)) (fun p a b => hf p (by omega)), r5.cong (by rw [hf 57 (by decide)]) (hf 58 (by decide)), RwC.nil up_s, r7.cong (hf 60 (by decide))⟩
theorem RepM.row0 {s : SG} {M : MM} (h : RepM s M) : RepM (sB s, sI s, sT s, sL s, [], sF s) (up M 62 36 (nI 0)) := by
  obtain ⟨r1, r2, r3, r4, r5, r6, r7, r8⟩ := h
  have hf : ∀ p, p ≠ 62 → up M 62 36 (nI 0) p = M p := fun p a => up_p a
  exact ⟨r1.slot (by decide), r2, r3.cong (up_k (by decide)) (hf 76 (by decide)), r4.cong (up_k (by decide)) (hf 77 (by decide)), r5.cong (up_k (by decide)) (hf 71 (by decide)), RwM.nil up_s, r7.cong (hf 68 (by decide)), (up_k (by decide)).trans r8⟩
def clearS (s : SG) : Int32 × SG := (nI (sR s).length, (sB s, sI s, sT s, sL s, [], sF s))
theorem c_clear {s : SG} {M : MM} {Q : Int32 → MM → Prop} (hR : RepC s M) (q : ∀ M', RepC (clearS s).2 M' → Hi M M' → Q (clearS s).1 M') : D4_clear M Q := by
  unfold D4_clear
  show Q (M 0 8) (up M 0 8 (nI 0))
  rw [hR.2.2.2.2.2.1.1]
  exact q _ hR.row0 (fun p hp => up_p (by omega))
theorem m_clear {s : SG} {M : MM} {Q : Int32 → MM → Prop} (hR : RepM s M) (q : ∀ M', RepM (clearS s).2 M' → Lo M M' → Q (clearS s).1 M') : D5_clear M Q := by
  unfold D5_clear
  have hR1 := hR.thrown (x := 0)
  have hL : Lo M (up M 62 9 0) := fun p hp => up_p (by omega)
  show Q (up M 62 9 0 62 36) (up (up M 62 9 0) 62 36 (nI 0))
  rw [hR1.2.2.2.2.2.1.1]
  exact q _ hR1.row0 (hL.tr (fun p hp => up_p (by omega)))
theorem c_row {s : SG} {x : Int32} {M : MM} {Q : Int32 → MM → Prop} (hR : RepC s M) (q : ∀ M', RepC (rowS s x).2 M' → Hi M M' → Q (rowS s x).1 M') : D4_row x M Q := by
  unfold D4_row
  have hlen := hR.2.2.2.2.2.1.2.1
  have out : ∀ k, fdK x 99 12 (sR s).length = k → k = 4 ∨ k = 6 → D4_refused (-(nI k)) M Q := by
    intro k h hk
    refine c_out hR (neg46 hk).2.2 ?_
    rw [show rowS s x = outS s k from by unfold rowS; rw [h, if_neg (by omega)]] at q
    exact q
  rw [i_le, i_lt, show (0 : Int32).toInt = 0 from by decide, show (99 : Int32).toInt = 99 from by decide]
  refine ⟨fun c => ⟨fun c2 => ?_, fun c2 => ?_⟩, fun c => out 4 (fdK4 (by omega)) (Or.inl rfl)⟩
  · exact out 6 (fdK6 (by omega) (Or.inl c2)) (Or.inr rfl)
  · rw [hR.2.2.2.2.2.1.1, show (12 : Int32) = nI 12 from rfl, z_lt (by omega) (by decide)]
    refine ⟨fun z => absurd z (nI_pos (by omega)), fun _ => ⟨fun c3 => ?_, fun c3 => out 6 (fdK6 (by omega) (Or.inr (by omega))) (Or.inr rfl)⟩⟩
    have h0 := fdK0 (x := x) (a := 99) (b := 12) (c := (sR s).length) (by omega) (by omega)
    rw [show rowS s x = (nI ((sR s).length + 1), (sB s, sI s, sT s, sL s, sR s ++ [x.toInt.toNat], sF s)) from by unfold rowS; rw [if_pos h0]] at q
    obtain ⟨r1, r2, r3, r4, r5, r6, r7⟩ := hR
    refine ⟨ibc ⟨by decide, rfl⟩ rfl c3 (by decide), ?_⟩
    rw [z_ix (by omega)]
    dsimp only
    rw [up_s, up_p (by decide), r6.1, nI_1]
    have hf : ∀ p, p ≠ 0 → p ≠ 59 → up (up M 59 (sR s).length x) 0 8 (nI ((sR s).length + 1)) p = M p := fun p a b => by rw [up_p a, up_p b]
    have h00 : ∀ k, k ≠ 8 → up (up M 59 (sR s).length x) 0 8 (nI ((sR s).length + 1)) 0 k = M 0 k := fun k a => by rw [up_k a, up_p (by decide)]
    refine q _ ⟨r1.cong (fun p a b => hf p (by omega) (by omega)), r2, r3.cong (h00 11 (by decide)) (fun p a b => hf p (by omega) (by omega)), r4.cong (h00 9 (by decide)) (h00 10 (by decide)) (fun p a b => hf p (by omega) (by omega)), r5.cong (by rw [hf 57 (by decide) (by decide)]) (hf 58 (by decide) (by decide)), ?_, r7.cong (hf 60 (by decide) (by decide))⟩ (fun p hp => hf p (by omega) (by omega))
    refine r6.add c3 (by omega) up_s (fun j hj => by rw [up_p (by decide), up_k hj]) ?_
    rw [up_p (by decide), up_s]
    exact nI_toNat (by omega)
theorem m_row {s : SG} {x : Int32} {M : MM} {Q : Int32 → MM → Prop} (hR : RepM s M) (q : ∀ M', RepM (rowS s x).2 M' → Lo M M' → Q (rowS s x).1 M') : D5_row x M Q := by
  unfold D5_row
  have hR1 := hR.thrown (x := 0)
  have hL : Lo M (up M 62 9 0) := fun p hp => up_p (by omega)
  generalize up M 62 9 0 = M1 at hR1 hL
  have hlen := hR1.2.2.2.2.2.1.2.1
  have out : ∀ k, fdK x 99 12 (sR s).length = k → k = 4 ∨ k = 6 → D5_refuse (-(nI k)) M1 Q := by
    intro k h hk
    refine m_out hR1 (neg46 hk).2.2 (fun M' a b => ?_)
    rw [show rowS s x = outS s k from by unfold rowS; rw [h, if_neg (by omega)]] at q
    exact q M' a (hL.tr b)
  rw [i_le, i_lt, show (0 : Int32).toInt = 0 from by decide, show (99 : Int32).toInt = 99 from by decide]
  refine ⟨fun c => ⟨fun c2 => ?_, fun c2 => ?_⟩, fun c => out 4 (fdK4 (by omega)) (Or.inl rfl)⟩
  · exact out 6 (fdK6 (by omega) (Or.inl c2)) (Or.inr rfl)
  · rw [hR1.2.2.2.2.2.1.1, show (12 : Int32) = nI 12 from rfl]
    simp only [ne_eq, z_eq (show (sR s).length < 2 ^ 31 by omega) (show 12 < 2 ^ 31 by decide)]
    refine ⟨fun c3 => ⟨ibc ⟨by decide, rfl⟩ rfl (show (sR s).length < 12 by omega) (by decide), ?_⟩, fun c3 => out 6 (fdK6 (by omega) (Or.inr (by omega))) (Or.inr rfl)⟩
    have h0 := fdK0 (x := x) (a := 99) (b := 12) (c := (sR s).length) (by omega) (by omega)
    rw [show rowS s x = (nI ((sR s).length + 1), (sB s, sI s, sT s, sL s, sR s ++ [x.toInt.toNat], sF s)) from by unfold rowS; rw [if_pos h0]] at q
    obtain ⟨r1, r2, r3, r4, r5, r6, r7, r8⟩ := hR1
    rw [z_ix (by omega), up_s, up_p (by decide), r6.1, nI_1]
    have hf : ∀ p, p ≠ 62 → p ≠ 81 → up (up M1 81 (sR s).length x) 62 36 (nI ((sR s).length + 1)) p = M1 p := fun p a b => by rw [up_p a, up_p b]
    have h62 : ∀ k, k ≠ 36 → up (up M1 81 (sR s).length x) 62 36 (nI ((sR s).length + 1)) 62 k = M1 62 k := fun k a => by rw [up_k a, up_p (by decide)]
    refine q _ ⟨r1.cong (h62 0 (by decide)) (h62 6 (by decide)) (h62 7 (by decide)) (h62 8 (by decide)) (fun p a b => hf p (by omega) (by omega)), r2, r3.cong (h62 26 (by decide)) (hf 76 (by decide) (by decide)), r4.cong (h62 32 (by decide)) (hf 77 (by decide) (by decide)), r5.cong (h62 17 (by decide)) (hf 71 (by decide) (by decide)), ?_, r7.cong (hf 68 (by decide) (by decide)), (h62 15 (by decide)).trans r8⟩ (hL.tr (fun p hp => hf p (by omega) (by omega)))
    refine r6.add (by omega) (by omega) up_s (fun j hj => by rw [up_p (by decide), up_k hj]) ?_
    rw [up_p (by decide), up_s]
    exact nI_toNat (by omega)
/-- LOW -/
def lowN (h : Nat) : Nat → Nat → Nat
  | 0, i => i
  | n + 1, i => if lev (h + i) = 0 then i else lowN h n (i + 1)
theorem low_ex (h : Nat) : ∃ i, i < 12 ∧ lev (h + i) = 0 := by
  refine ⟨(12 - h % 12) % 12, Nat.mod_lt _ (by decide), ?_⟩
  unfold lev
  have : (h + (12 - h % 12) % 12) % 12 = 0 := by omega
  rw [this]; rfl
def lowS (s : SG) : Int32 × SG := (nI (lowN (bH (sB s)) 12 0), s)
theorem c_low_loop {B : BV} {M : MM} {Q : Int32 → MM → Prop} (hR : RB 1 B M) {H : Nat} (hw : WF 8 999 B) (q : Q (nI (lowN (bH B) 12 0)) M) :
    ∀ (n i : Nat), i ≤ 12 → 12 - i < n → lowN (bH B) (12 - i) i = lowN (bH B) 12 0 → (∀ j, j < i → lev (bH B + j) ≠ 0) → D4_low_c2 Q n (nI i) M := by
  have hh := hw.2.2.2.1
  intro n
  induction n with
  | zero => intro i h1 h2; omega
  | succ n ih =>
    intro i h1 h2 he hj
    unfold D4_low_c2
    rw [show (12 : Int32) = nI 12 from rfl, z_le (by decide) (by omega)]
    refine ⟨fun z => ?_, fun z => ?_⟩
    · obtain ⟨k, hk, hl⟩ := low_ex (bH B)
      exact absurd hl (hj k (by omega))
    · rw [hR.2.2.1, nI_add]
      refine p3_height (by omega) ?_
      have hlv := lev_le (bH B + i)
      have e1 : lowN (bH B) (12 - i) i = if lev (bH B + i) = 0 then i else lowN (bH B) (12 - (i + 1)) (i + 1) := by
        rw [show 12 - i = (12 - (i + 1)) + 1 by omega]; rfl
      rw [z_lit]
      simp only [ne_eq, z_eq (show lev (bH B + i) < 2 ^ 31 by omega) (show 0 < 2 ^ 31 by decide)]
      refine ⟨fun c => ?_, fun c => ?_⟩
      · rw [e1, if_neg c] at he
        show D4_low_c2 Q n (nI i + 1) M
        rw [nI_1]
        refine ih (i + 1) (by omega) (by omega) he (fun j hjj => ?_)
        rcases Nat.lt_or_ge j i with y | y
        · exact hj j y
        · rw [show j = i by omega]; exact c
      · rw [e1, if_pos c] at he
        rw [he]; exact q
theorem c_low {s : SG} {M : MM} {Q : Int32 → MM → Prop} (hR : RepC s M) (q : ∀ M', RepC (lowS s).2 M' → Hi M M' → Q (lowS s).1 M') : D4_low M Q :=
  c_low_loop hR.1 (H := 0) hR.2.1 (q M hR Hi.rf) FU 0 (by decide) (by decide) rfl (fun j h => by omega)
theorem m_low_loop {B : BV} {M : MM} {Q : Int32 → MM → Prop} (hR : RM B M) (hw : WF 8 999 B) (q : Q (nI (lowN (bH B) 12 0)) M) :
    ∀ (n i : Nat), i ≤ 12 → 12 - i < n → lowN (bH B) (12 - i) i = lowN (bH B) 12 0 → (∀ j, j < i → lev (bH B + j) ≠ 0) → D5_low_c7 Q n (nI i) M := by
  have hh := hw.2.2.2.1
  intro n
  induction n with
  | zero => intro i h1 h2; omega
  | succ n ih =>
    intro i h1 h2 he hj
    unfold D5_low_c7
    have hi : i < 12 := by
      rcases Nat.lt_or_ge i 12 with z | z
      · exact z
      · obtain ⟨k, hk, hl⟩ := low_ex (bH B)
        exact absurd hl (hj k (by omega))
    rw [hR.2.2.2.1, nI_add]
    refine p5_levelAt (by omega) ?_
    have hlv := lev_le (bH B + i)
    have e1 : lowN (bH B) (12 - i) i = if lev (bH B + i) = 0 then i else lowN (bH B) (12 - (i + 1)) (i + 1) := by
      rw [show 12 - i = (12 - (i + 1)) + 1 by omega]; rfl
    rw [show (0 : Int32) = nI 0 from rfl, z_le (by omega) (by decide)]
    refine ⟨fun c => ?_, fun c => ?_⟩
    · rw [e1, if_pos (by omega)] at he
      rw [he]; exact q
    · have c : ¬ lev (bH B + i) = 0 := by omega
      rw [e1, if_neg c] at he
      show D5_low_c7 Q n (nI i + 1) M
      rw [nI_1]
      refine ih (i + 1) (by omega) (by omega) he (fun j hjj => ?_)
      rcases Nat.lt_or_ge j i with y | y
      · exact hj j y
      · rw [show j = i by omega]; exact c
theorem m_low {s : SG} {M : MM} {Q : Int32 → MM → Prop} (hR : RepM s M) (q : ∀ M', RepM (lowS s).2 M' → Lo M M' → Q (lowS s).1 M') : D5_low M Q := by
  unfold D5_low
  have hR1 := hR.thrown (x := 0)
  exact m_low_loop hR1.1 hR1.2.1 (q _ hR1 (fun p hp => up_p (by omega))) FU 0 (by decide) (by decide) rfl (fun j h => by omega)
