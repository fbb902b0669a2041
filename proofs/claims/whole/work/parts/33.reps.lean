/-! PURE PART: the whole state, and what the two memories hold of it -/
/-- now; the image; what can be taken back, the latest first; letters; the ROW; refusals -/
abbrev SG : Type := BV × Option BV × List BV × List Nat × List Nat × (Nat → Int32)
abbrev sB (s : SG) : BV := s.1
abbrev sI (s : SG) : Option BV := s.2.1
abbrev sT (s : SG) : List BV := s.2.2.1
abbrev sL (s : SG) : List Nat := s.2.2.2.1
abbrev sR (s : SG) : List Nat := s.2.2.2.2.1
abbrev sF (s : SG) : Nat → Int32 := s.2.2.2.2.2
/-- one refusal more -/
def refu (s : SG) (k : Nat) : SG := (sB s, sI s, sT s, sL s, sR s, fun j => if j = k then sF s k + 1 else sF s j)
def LtC (l : List Nat) (M : MM) : Prop := M 57 1 = nI l.length ∧ l.length ≤ 96 ∧ ∀ i c, l[i]? = some c → M 58 i = nI c ∧ c < 256
def RwC (l : List Nat) (M : MM) : Prop := M 0 8 = nI l.length ∧ l.length ≤ 12 ∧ ∀ i c, l[i]? = some c → M 59 i = nI c ∧ c < 100
def ImC (im : Option BV) (M : MM) : Prop := M 0 11 = nI im.isSome.toNat ∧ ∀ I, im = some I → RB 11 I M ∧ WF 8 999 I
def TnC (tn : List BV) (M : MM) : Prop := tn.length ≤ 8 ∧ M 0 9 = nI tn.length ∧ ∃ q, q < 8 ∧ M 0 10 = nI q ∧ ∀ i T, tn[i]? = some T → RB (16 + 5 * ((q + 7 - i) % 8)) T M ∧ WF 8 999 T
def RfC (f : Nat → Int32) (M : MM) : Prop := ∀ k, k < 7 → M 60 k = f k
def RepC (s : SG) (M : MM) : Prop := RB 1 (sB s) M ∧ WF 8 999 (sB s) ∧ ImC (sI s) M ∧ TnC (sT s) M ∧ LtC (sL s) M ∧ RwC (sR s) M ∧ RfC (sF s) M
theorem RB.cong {b : Nat} {B : BV} {M M' : MM} (h : RB b B M) (hf : ∀ p, b ≤ p → p ≤ b + 4 → M' p = M p) : RB b B M' := by
  unfold RB
  rw [hf b (by omega) (by omega), hf (b + 1) (by omega) (by omega), hf (b + 2) (by omega) (by omega), hf (b + 3) (by omega) (by omega), hf (b + 4) (by omega) (by omega)]
  exact h
theorem ImC.cong {im : Option BV} {M M' : MM} (h : ImC im M) (h0 : M' 0 11 = M 0 11) (hf : ∀ p, 11 ≤ p → p ≤ 15 → M' p = M p) : ImC im M' := ⟨h0.trans h.1, fun I hI => ⟨(h.2 I hI).1.cong hf, (h.2 I hI).2⟩⟩
theorem TnC.cong {tn : List BV} {M M' : MM} (h : TnC tn M) (h0 : M' 0 9 = M 0 9) (h1 : M' 0 10 = M 0 10) (hf : ∀ p, 16 ≤ p → p ≤ 55 → M' p = M p) : TnC tn M' := by
  obtain ⟨a, b, q, c, d, e⟩ := h
  refine ⟨a, h0.trans b, q, c, h1.trans d, fun i T hT => ⟨(e i T hT).1.cong (fun p x y => hf p (by omega) (by have := Nat.mod_lt (q + 7 - i) (show 8 > 0 by decide); omega)), (e i T hT).2⟩⟩
theorem LtC.cong {l : List Nat} {M M' : MM} (h : LtC l M) (h0 : M' 57 1 = M 57 1) (h1 : M' 58 = M 58) : LtC l M' := ⟨h0.trans h.1, h.2.1, fun i c hc => by rw [h1]; exact h.2.2 i c hc⟩
theorem RwC.cong {l : List Nat} {M M' : MM} (h : RwC l M) (h0 : M' 0 8 = M 0 8) (h1 : M' 59 = M 59) : RwC l M' := ⟨h0.trans h.1, h.2.1, fun i c hc => by rw [h1]; exact h.2.2 i c hc⟩
theorem RfC.cong {f : Nat → Int32} {M M' : MM} (h : RfC f M) (h1 : M' 60 = M 60) : RfC f M' := fun k hk => by rw [h1]; exact h k hk
/-- the class: only what it has in mind has changed -/
def FrC (M M' : MM) : Prop := ∀ p, (p < 6 ∨ 10 < p) → p ≠ 61 → M' p = M p
theorem FrC.rf {M : MM} : FrC M M := fun _ _ _ => rfl
theorem FrC.tr {M0 M1 M2 : MM} (h1 : FrC M0 M1) (h2 : FrC M1 M2) : FrC M0 M2 := fun p a b => (h2 p a b).trans (h1 p a b)
theorem FrC.of6 {M M' : MM} (h : ∀ p, p ≠ 6 → p ≠ 10 → M' p = M p) : FrC M M' := fun p a _ => h p (by omega) (by omega)
theorem FrC.of6' {M M' : MM} (h : ∀ p, (p < 6 ∨ 6 + 4 < p) → M' p = M p) : FrC M M' := fun p a _ => h p (by omega)
theorem RepC.mind {s : SG} {M M' : MM} (h : RepC s M) (hf : FrC M M') : RepC s M' := by
  obtain ⟨a, b, c, d, e, f, g⟩ := h
  have h0 : M' 0 = M 0 := hf 0 (by omega) (by decide)
  exact ⟨a.cong (fun p x y => hf p (by omega) (by omega)), b, c.cong (by rw [h0]) (fun p x y => hf p (by omega) (by omega)), d.cong (by rw [h0]) (by rw [h0]) (fun p x y => hf p (by omega) (by omega)), e.cong (by rw [hf 57 (by omega) (by decide)]) (hf 58 (by omega) (by decide)), f.cong (by rw [h0]) (hf 59 (by omega) (by decide)), g.cong (hf 60 (by omega) (by decide))⟩
/-- the class changes nothing of the model's -/
def Hi (M M' : MM) : Prop := ∀ p, 62 ≤ p → M' p = M p
def Lo (M M' : MM) : Prop := ∀ p, p < 62 → M' p = M p
theorem Hi.rf {M : MM} : Hi M M := fun _ _ => rfl
theorem Lo.rf {M : MM} : Lo M M := fun _ _ => rfl
theorem Hi.tr {M0 M1 M2 : MM} (h1 : Hi M0 M1) (h2 : Hi M1 M2) : Hi M0 M2 := fun p a => (h2 p a).trans (h1 p a)
theorem Lo.tr {M0 M1 M2 : MM} (h1 : Lo M0 M1) (h2 : Lo M1 M2) : Lo M0 M2 := fun p a => (h2 p a).trans (h1 p a)
theorem FrC.hi {M M' : MM} (h : FrC M M') : Hi M M' := fun p a => h p (by omega) (by omega)
/-- the model's memory -/
def LtM (l : List Nat) (M : MM) : Prop := M 62 17 = nI l.length ∧ l.length ≤ 96 ∧ ∀ i c, l[i]? = some c → M 71 i = nI c ∧ c < 256
def RwM (l : List Nat) (M : MM) : Prop := M 62 36 = nI l.length ∧ l.length ≤ 12 ∧ ∀ i c, l[i]? = some c → M 81 i = nI c ∧ c < 100
def ImM (im : Option BV) (M : MM) : Prop := M 62 26 = nI im.isSome.toNat ∧ ∀ I, im = some I → RT I M 76 ∧ WF 8 999 I
/-- a beach in turns0 from place o -/
def RO (B : BV) (M : MM) (o : Nat) : Prop := RT B (fun _ i => M 77 (o + i)) 0
def TnM (tn : List BV) (M : MM) : Prop := tn.length ≤ 8 ∧ M 62 32 = nI tn.length ∧ ∀ i T, tn[i]? = some T → RO T M (44 * (tn.length - 1 - i)) ∧ WF 8 999 T
def RfM (f : Nat → Int32) (M : MM) : Prop := ∀ k, k < 7 → M 68 k = f k
def RepM (s : SG) (M : MM) : Prop := RM (sB s) M ∧ WF 8 999 (sB s) ∧ ImM (sI s) M ∧ TnM (sT s) M ∧ LtM (sL s) M ∧ RwM (sR s) M ∧ RfM (sF s) M ∧ M 62 15 = nI 0
/-- what the model keeps between calls, but the beach -/
def FrM (M M' : MM) : Prop := Lo M M' ∧ M' 62 15 = M 62 15 ∧ M' 62 17 = M 62 17 ∧ M' 62 26 = M 62 26 ∧ M' 62 32 = M 62 32 ∧ M' 62 36 = M 62 36 ∧ M' 68 = M 68 ∧ M' 71 = M 71 ∧ M' 76 = M 76 ∧ M' 77 = M 77 ∧ M' 81 = M 81
theorem FrM.rf {M : MM} : FrM M M := ⟨Lo.rf, rfl, rfl, rfl, rfl, rfl, rfl, rfl, rfl, rfl, rfl⟩
theorem FrM.tr {M0 M1 M2 : MM} (h : FrM M0 M1) (g : FrM M1 M2) : FrM M0 M2 := by
  obtain ⟨a, b, c, d, e, f, i, j, k, l, m⟩ := h
  obtain ⟨a', b', c', d', e', f', i', j', k', l', m'⟩ := g
  exact ⟨a.tr a', b'.trans b, c'.trans c, d'.trans d, e'.trans e, f'.trans f, i'.trans i, j'.trans j, k'.trans k, l'.trans l, m'.trans m⟩
theorem FrH.M {M M' : MM} (h : FrH M M') : FrM M M' := ⟨fun p a => h.1 p (by omega) (by omega) (by omega) (by omega) (by omega), h.2 15 (by decide) (by decide) (by decide) (by decide) (by decide), h.2 17 (by decide) (by decide) (by decide) (by decide) (by decide), h.2 26 (by decide) (by decide) (by decide) (by decide) (by decide), h.2 32 (by decide) (by decide) (by decide) (by decide) (by decide), h.2 36 (by decide) (by decide) (by decide) (by decide) (by decide), h.1 68 (by decide) (by decide) (by decide) (by decide) (by decide), h.1 71 (by decide) (by decide) (by decide) (by decide) (by decide), h.1 76 (by decide) (by decide) (by decide) (by decide) (by decide), h.1 77 (by decide) (by decide) (by decide) (by decide) (by decide), h.1 81 (by decide) (by decide) (by decide) (by decide) (by decide)⟩
theorem FrL.M {M M' : MM} (h : FrL M M') : FrM M M' := h.H.M
theorem FrT75.M {M M' : MM} (h : FrT 75 M M') : FrM M M' := ⟨fun p a => funext fun j => h p j (by omega) (fun e => by omega) (by omega), h 62 15 (by decide) (fun _ => by decide) (by decide), h 62 17 (by decide) (fun _ => by decide) (by decide), h 62 26 (by decide) (fun _ => by decide) (by decide), h 62 32 (by decide) (fun _ => by decide) (by decide), h 62 36 (by decide) (fun _ => by decide) (by decide), funext fun j => h 68 j (by decide) (fun e => by omega) (by decide), funext fun j => h 71 j (by decide) (fun e => by omega) (by decide), funext fun j => h 76 j (by decide) (fun e => by omega) (by decide), funext fun j => h 77 j (by decide) (fun e => by omega) (by decide), funext fun j => h 81 j (by decide) (fun e => by omega) (by decide)⟩
theorem FrM.slot {M : MM} {k : Nat} {x : Int32} (h : k ≠ 15 ∧ k ≠ 17 ∧ k ≠ 26 ∧ k ≠ 32 ∧ k ≠ 36) : FrM M (up M 62 k x) := ⟨fun p a => up_p (by omega), up_k (by omega), up_k (by omega), up_k (by omega), up_k (by omega), up_k (by omega), up_p (by decide), up_p (by decide), up_p (by decide), up_p (by decide), up_p (by decide)⟩
theorem RT.cong {B : BV} {M M' : MM} {t : Nat} (h : RT B M t) (hf : M' t = M t) : RT B M' t := by unfold RT; rw [hf]; exact h
theorem RepM.mind {s : SG} {M M' : MM} (h : RepM s M) (hf : FrM M M') (hR : RM (sB s) M') : RepM s M' := by
  obtain ⟨a, b, c, d, e, f, g, i⟩ := h
  obtain ⟨f1, f15, f17, f26, f32, f36, f68, f71, f76, f77, f81⟩ := hf
  refine ⟨hR, b, ⟨f26.trans c.1, fun I hI => ⟨(c.2 I hI).1.cong f76, (c.2 I hI).2⟩⟩, ⟨d.1, f32.trans d.2.1, fun j T hT => ⟨?_, (d.2.2 j T hT).2⟩⟩, ⟨f17.trans e.1, e.2.1, fun j c hc => by rw [f71]; exact e.2.2 j c hc⟩, ⟨f36.trans f.1, f.2.1, fun j c hc => by rw [f81]; exact f.2.2 j c hc⟩, fun k hk => by rw [f68]; exact g k hk, f15.trans i⟩
  unfold RO
  rw [f77]
  exact (d.2.2 j T hT).1
theorem RM.slot {B : BV} {M : MM} {k : Nat} {x : Int32} (h : RM B M) (hk : k ≠ 0 ∧ k ≠ 6 ∧ k ≠ 7 ∧ k ≠ 8) : RM B (up M 62 k x) := by
  obtain ⟨a, b, c, d, e⟩ := h
  refine ⟨by rw [up_k (by omega)]; exact a, by rw [up_k (by omega)]; exact b, by rw [up_k (by omega)]; exact c, by rw [up_k (by omega)]; exact d, fun j hj => ?_⟩
  rw [up_p (by decide), up_p (by decide), up_p (by decide), up_p (by decide), up_p (by decide)]
  exact e j hj
/-- 'thrown' is of no weight -/
theorem RepM.thrown {s : SG} {M : MM} {x : Int32} (h : RepM s M) : RepM s (up M 62 9 x) := h.mind (FrM.slot (by decide)) (h.1.slot (by decide))
theorem p4_refused {x : Int32} {k : Nat} {s : SG} {M : MM} {Q : Int32 → MM → Prop} (hx : -x = nI k) (hk : k < 7) (hR : RepC s M) (q : ∀ M', RepC (refu s k) M' → Hi M M' → Q x M') : D4_refused x M Q := by
  unfold D4_refused
  rw [hx]
  refine ⟨fun z => absurd z (nI_pos (by omega)), fun _ => ?_⟩
  rw [show (7 : Int32) = nI 7 from rfl, z_le (by decide) (by omega)]
  refine ⟨fun z => by omega, fun _ => ⟨ibc ⟨by decide, rfl⟩ rfl hk (by decide), ibc ⟨by decide, rfl⟩ rfl hk (by decide), ?_⟩⟩
  rw [z_ix (by omega)]
  obtain ⟨a, b, c, d, e, f, g⟩ := hR
  refine q _ ⟨a.cong (fun p x y => up_p (by omega)), b, c.cong (by rw [up_p (by decide)]) (fun p x y => up_p (by omega)), d.cong (by rw [up_p (by decide)]) (by rw [up_p (by decide)]) (fun p x y => up_p (by omega)), e.cong (by rw [up_p (by decide)]) (up_p (by decide)), f.cong (by rw [up_p (by decide)]) (up_p (by decide)), fun j hj => ?_⟩ (fun p hp => up_p (by omega))
  show _ = if j = k then sF s k + 1 else sF s j
  by_cases y : j = k
  · subst y; rw [up_s, if_pos rfl, g j hj]
  · rw [up_k y, if_neg y]; exact g j hj
theorem p5_refuse {x : Int32} {k : Nat} {s : SG} {M : MM} {Q : Int32 → MM → Prop} (hx : -x = nI k) (hk : k < 7) (hR : RepM s M) (q : ∀ M', RepM (refu s k) M' → Lo M M' → Q x M') : D5_refuse x M Q := by
  unfold D5_refuse
  rw [hx]
  refine ⟨ibc ⟨by decide, rfl⟩ rfl hk (by decide), ibc ⟨by decide, rfl⟩ rfl hk (by decide), ?_⟩
  rw [z_ix (by omega)]
  obtain ⟨a, b, c, d, e, f, g, i⟩ := hR
  refine q _ ⟨?_, b, ⟨by rw [up_p (by decide)]; exact c.1, fun I hI => ⟨(c.2 I hI).1.cong (up_p (by decide)), (c.2 I hI).2⟩⟩, ⟨d.1, by rw [up_p (by decide)]; exact d.2.1, fun j T hT => ⟨?_, (d.2.2 j T hT).2⟩⟩, ⟨by rw [up_p (by decide)]; exact e.1, e.2.1, fun j c hc => by rw [up_p (by decide)]; exact e.2.2 j c hc⟩, ⟨by rw [up_p (by decide)]; exact f.1, f.2.1, fun j c hc => by rw [up_p (by decide)]; exact f.2.2 j c hc⟩, fun j hj => ?_, by rw [up_p (by decide)]; exact i⟩ (fun p hp => up_p (by omega))
  · obtain ⟨a1, a2, a3, a4, a5⟩ := a
    refine ⟨by rw [up_p (by decide)]; exact a1, by rw [up_p (by decide)]; exact a2, by rw [up_p (by decide)]; exact a3, by rw [up_p (by decide)]; exact a4, fun j hj => ?_⟩
    rw [up_p (by decide), up_p (by decide), up_p (by decide), up_p (by decide), up_p (by decide)]
    exact a5 j hj
  · unfold RO
    rw [up_p (by decide)]
    exact (d.2.2 j T hT).1
  · show _ = if j = k then sF s k + 1 else sF s j
    by_cases y : j = k
    · subst y; rw [up_s, if_pos rfl, g j hj]
    · rw [up_k y, if_neg y]; exact g j hj
