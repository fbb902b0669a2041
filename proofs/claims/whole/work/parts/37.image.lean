/-! PURE PART: image, restore -/
theorem isB11 : isB 11 := Or.inr (Or.inr (Or.inl rfl))
theorem TnC.nil {tn : List BV} {M M' : MM} (h : TnC tn M) (h0 : M' 0 9 = nI 0) (h1 : M' 0 10 = M 0 10) : TnC [] M' := by
  obtain ⟨a, b, q, c, d, e⟩ := h
  exact ⟨by decide, h0, q, c, h1.trans d, fun i T hT => by simp at hT⟩
theorem TnM.nil {M : MM} (h0 : M 62 32 = nI 0) : TnM [] M := ⟨by decide, h0, fun i T hT => by simp at hT⟩
def imageS (s : SG) : Int32 × SG := (nI (bH (sB s)), (sB s, some (sB s), sT s, sL s, sR s, sF s))
theorem c_image {s : SG} {M : MM} {Q : Int32 → MM → Prop} (hR : RepC s M) (q : ∀ M', RepC (imageS s).2 M' → Hi M M' → Q (imageS s).1 M') : D4_image M Q := by
  unfold D4_image
  obtain ⟨r1, r2, r3, r4, r5, r6, r7⟩ := hR
  refine p0_becomes isB11 isB1 (by decide) (WFm r2) r1 (fun M1 h1 f1 => ?_)
  show Q (up M1 0 11 (nI 1) 1 6) (up M1 0 11 (nI 1))
  have hf : ∀ p, p ≠ 0 → (p < 11 ∨ 15 < p) → up M1 0 11 (nI 1) p = M p := fun p a b => by rw [up_p a, f1 p (by omega)]
  have h0 : ∀ k, k ≠ 11 → up M1 0 11 (nI 1) 0 k = M 0 k := fun k a => by rw [up_k a, f1 0 (by omega)]
  rw [show up M1 0 11 (nI 1) 1 6 = nI (bH (sB s)) from by rw [hf 1 (by decide) (by omega)]; exact r1.2.2.1]
  refine q _ ⟨r1.cong (fun p a b => hf p (by omega) (by omega)), r2, ⟨up_s, fun I hI => ?_⟩, r4.cong (h0 9 (by decide)) (h0 10 (by decide)) (fun p a b => hf p (by omega) (by omega)), r5.cong (by rw [hf 57 (by decide) (by omega)]) (hf 58 (by decide) (by omega)), r6.cong (h0 8 (by decide)) (hf 59 (by decide) (by omega)), r7.cong (hf 60 (by decide) (by omega))⟩ (fun p hp => hf p (by omega) (by omega))
  cases hI
  exact ⟨h1.cong (fun p a b => up_p (by omega)), r2⟩
theorem m_image {s : SG} {M : MM} {Q : Int32 → MM → Prop} (hR : RepM s M) (q : ∀ M', RepM (imageS s).2 M' → Lo M M' → Q (imageS s).1 M') : D5_image M Q := by
  unfold D5_image
  have hR1 := hR.thrown (x := 0)
  have hL : Lo M (up M 62 9 0) := fun p hp => up_p (by omega)
  generalize up M 62 9 0 = M1 at hR1 hL
  obtain ⟨r1, r2, r3, r4, r5, r6, r7, r8⟩ := hR1
  show D5_carryAll 76 1 (up M1 62 26 (nI 1)) _
  refine p5_takeB (Or.inr (Or.inl rfl)) r2 (r1.slot (k := 26) (x := nI 1) (by decide)) (fun M2 h2 t2 _ f2 => ?_)
  have hf : ∀ p, p ≠ 62 → p ≠ 76 → M2 p = M1 p := fun p a b => by
    funext j; rw [f2 p j b (fun e => absurd e a), up_p a]
  have h62 : ∀ k, k ≠ 26 → k ≠ 27 → k ≠ 28 → k ≠ 29 → M2 62 k = M1 62 k := fun k a b c d => by rw [f2 62 k (by decide) (fun _ => ⟨b, c, d⟩), up_k a]
  rw [h2.2.2.2.1]
  refine q M2 ⟨h2, r2, ⟨by rw [f2 62 26 (by decide) (fun _ => by decide), up_s]; rfl, fun I hI => ?_⟩, r4.cong (h62 32 (by decide) (by decide) (by decide) (by decide)) (hf 77 (by decide) (by decide)), r5.cong (h62 17 (by decide) (by decide) (by decide) (by decide)) (hf 71 (by decide) (by decide)), r6.cong (h62 36 (by decide) (by decide) (by decide) (by decide)) (hf 81 (by decide) (by decide)), r7.cong (hf 68 (by decide) (by decide)), (h62 15 (by decide) (by decide) (by decide) (by decide)).trans r8⟩ (hL.tr (fun p hp => hf p (by omega) (by omega)))
  cases hI
  exact ⟨t2, r2⟩
def restoreS (s : SG) : Int32 × SG := match sI s with
  | none => outS s 3
  | some I => (nI (bH I), (I, some I, [], sL s, sR s, sF s))
theorem c_restore {s : SG} {M : MM} {Q : Int32 → MM → Prop} (hR : RepC s M) (q : ∀ M', RepC (restoreS s).2 M' → Hi M M' → Q (restoreS s).1 M') : D4_restore M Q := by
  unfold D4_restore
  have hI := hR.2.2.1
  rw [hI.1, z_lit]
  cases hs : sI s with
  | none =>
    rw [show restoreS s = outS s 3 from by unfold restoreS; rw [hs]] at q
    exact ⟨fun z => absurd rfl z, fun _ => c_out (k := 3) hR (by decide) q⟩
  | some I =>
    rw [show restoreS s = (nI (bH I), (I, some I, [], sL s, sR s, sF s)) from by unfold restoreS; rw [hs]] at q
    refine ⟨fun _ => ?_, fun z => absurd z (show ¬ nI 1 = nI 0 by decide)⟩
    obtain ⟨r1, r2, r3, r4, r5, r6, r7⟩ := hR
    obtain ⟨i1, i2⟩ := hI.2 I hs
    refine p0_becomes isB1 isB11 (by decide) (WFm i2) i1 (fun M1 h1 f1 => ?_)
    show Q (up M1 0 9 (nI 0) 1 6) (up M1 0 9 (nI 0))
    have hf : ∀ p, p ≠ 0 → 5 < p → up M1 0 9 (nI 0) p = M p := fun p a b => by rw [up_p a, f1 p (by omega)]
    have h0 : ∀ k, k ≠ 9 → up M1 0 9 (nI 0) 0 k = M 0 k := fun k a => by rw [up_k a, f1 0 (by omega)]
    rw [show up M1 0 9 (nI 0) 1 6 = nI (bH I) from by rw [up_p (by decide)]; exact h1.2.2.1]
    refine q _ ⟨h1.cong (fun p a b => up_p (by omega)), i2, ⟨by rw [h0 11 (by decide), hI.1, hs], fun I' hI' => ?_⟩, r4.nil up_s (h0 10 (by decide)), r5.cong (by rw [hf 57 (by decide) (by decide)]) (hf 58 (by decide) (by decide)), r6.cong (h0 8 (by decide)) (hf 59 (by decide) (by decide)), r7.cong (hf 60 (by decide) (by decide))⟩ (fun p hp => hf p (by omega) (by omega))
    cases hI'
    exact ⟨i1.cong (fun p a b => hf p (by omega) (by omega)), i2⟩
theorem m_restore {s : SG} {M : MM} {Q : Int32 → MM → Prop} (hR : RepM s M) (q : ∀ M', RepM (restoreS s).2 M' → Lo M M' → Q (restoreS s).1 M') : D5_restore M Q := by
  unfold D5_restore
  have hR1 := hR.thrown (x := 0)
  have hL : Lo M (up M 62 9 0) := fun p hp => up_p (by omega)
  generalize up M 62 9 0 = M1 at hR1 hL
  have hI := hR1.2.2.1
  show ((M1 62 26 ≠ 0 → _) ∧ (M1 62 26 = 0 → _))
  rw [hI.1, z_lit]
  cases hs : sI s with
  | none =>
    rw [show restoreS s = outS s 3 from by unfold restoreS; rw [hs]] at q
    exact ⟨fun z => absurd rfl z, fun _ => m_out (k := 3) hR1 (by decide) (fun M' a b => q M' a (hL.tr b))⟩
  | some I =>
    rw [show restoreS s = (nI (bH I), (I, some I, [], sL s, sR s, sF s)) from by unfold restoreS; rw [hs]] at q
    refine ⟨fun _ => ?_, fun z => absurd z (show ¬ nI 1 = nI 0 by decide)⟩
    obtain ⟨r1, r2, r3, r4, r5, r6, r7, r8⟩ := hR1
    obtain ⟨i1, i2⟩ := hI.2 I hs
    refine p5_putB (Or.inr (Or.inl rfl)) i2 i1 (fun M2 h2 t2 f2 => ?_)
    show Q (up M2 62 32 (nI 0) 62 8) (up M2 62 32 (nI 0))
    have hf : ∀ p, p ≠ 62 → p ≠ 76 → (p < 63 ∨ 67 < p) → up M2 62 32 (nI 0) p = M1 p := fun p a b c => by
      rw [up_p a]; funext j; exact f2 p j b (fun e => absurd e a) c
    have h62 : ∀ k, k ≠ 32 → k ≠ 0 ∧ k ≠ 6 ∧ k ≠ 7 ∧ k ≠ 8 ∧ k ≠ 27 ∧ k ≠ 28 ∧ k ≠ 29 → up M2 62 32 (nI 0) 62 k = M1 62 k := fun k a b => by rw [up_k a]; exact f2 62 k (by decide) (fun _ => b) (by decide)
    rw [show up M2 62 32 (nI 0) 62 8 = nI (bH I) from by rw [up_k (by decide)]; exact h2.2.2.2.1]
    refine q _ ⟨h2.slot (by decide), i2, ⟨by rw [h62 26 (by decide) (by decide), hI.1, hs], fun I' hI' => ?_⟩, TnM.nil up_s, r5.cong (h62 17 (by decide) (by decide)) (hf 71 (by decide) (by decide) (by decide)), r6.cong (h62 36 (by decide) (by decide)) (hf 81 (by decide) (by decide) (by decide)), r7.cong (hf 68 (by decide) (by decide) (by decide)), (h62 15 (by decide) (by decide)).trans r8⟩ (hL.tr (fun p hp => hf p (by omega) (by omega) (by omega)))
    cases hI'
    exact ⟨t2.cong (up_p (by decide)), i2⟩
