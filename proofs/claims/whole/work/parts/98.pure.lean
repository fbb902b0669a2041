/-! PURE PART: all calls, the loop -/
/-- of every beach that is kept: two that stand have two cells -/
def GS (s : SG) : Prop := DC (sB s) ∧ (∀ I, sI s = some I → DC I) ∧ ∀ T, T ∈ sT s → DC T
theorem GS.like {s t : SG} (h : GS s) (e1 : sB t = sB s) (e2 : sI t = sI s) (e3 : sT t = sT s) : GS t := ⟨by rw [e1]; exact h.1, fun I hI => h.2.1 I (by rw [← e2]; exact hI), fun T hT => h.2.2 T (by rw [← e3]; exact hT)⟩
theorem GS.wB {s : SG} {B : BV} (h : GS s) (hB : DC B) : GS (wB s B) := ⟨hB, h.2.1, h.2.2⟩
theorem GS.wT {s : SG} {tn : List BV} (h : GS s) (ht : ∀ T, T ∈ tn → DC T) : GS (wT s tn) := ⟨h.1, h.2.1, ht⟩
theorem GS.rem {s : SG} (h : GS s) : GS (remS s) := h.wT (fun T hT => by
  have hm := List.mem_of_mem_take hT
  rcases List.mem_cons.mp hm with e | e
  · rw [e]; exact h.1
  · exact h.2.2 T e)
theorem RepM.hi {s : SG} {M M' : MM} (h : RepM s M) (f : Hi M M') : RepM s M' := by
  obtain ⟨r1, r2, r3, r4, r5, r6, r7, r8⟩ := h
  have e : ∀ p, 62 ≤ p → M' p = M p := f
  exact ⟨r1.cong (by rw [e 62 (by decide)]) (by rw [e 62 (by decide)]) (by rw [e 62 (by decide)]) (by rw [e 62 (by decide)]) (fun p a b => e p (by omega)), r2, r3.cong (by rw [e 62 (by decide)]) (e 76 (by decide)), r4.cong (by rw [e 62 (by decide)]) (e 77 (by decide)), r5.cong (by rw [e 62 (by decide)]) (e 71 (by decide)), r6.cong (by rw [e 62 (by decide)]) (e 81 (by decide)), r7.cong (e 68 (by decide)), by rw [e 62 (by decide)]; exact r8⟩
theorem RepC.lo {s : SG} {M M' : MM} (h : RepC s M) (f : Lo M M') : RepC s M' := by
  obtain ⟨r1, r2, r3, r4, r5, r6, r7⟩ := h
  have e : ∀ p, p < 62 → M' p = M p := f
  exact ⟨r1.cong (fun p a b => e p (by omega)), r2, r3.cong (by rw [e 0 (by decide)]) (fun p a b => e p (by omega)), r4.cong (by rw [e 0 (by decide)]) (by rw [e 0 (by decide)]) (fun p a b => e p (by omega)), r5.cong (by rw [e 57 (by decide)]) (e 58 (by decide)), r6.cong (by rw [e 0 (by decide)]) (e 59 (by decide)), r7.cong (e 60 (by decide))⟩
theorem gs_feed {s : SG} (x1 : Int32) (h : GS s) : GS (feedS s x1).2 := by
  unfold feedS
  (repeat' split) <;> exact h.like rfl rfl rfl
theorem gs_workOf {s : SG} (x1 x2 : Int32) (h : GS s) : GS (workOfS s x1 x2).2 := by
  unfold workOfS
  (repeat' split) <;> exact h.like rfl rfl rfl
theorem gs_at {s : SG} (x1 : Int32) (h : GS s) : GS (atS s x1).2 := by
  unfold atS
  (repeat' split) <;> exact h.like rfl rfl rfl
theorem gs_level {s : SG} (x1 : Int32) (h : GS s) : GS (levelS s x1).2 := by
  unfold levelS
  (repeat' split) <;> exact h.like rfl rfl rfl
theorem gs_wet {s : SG} (x1 : Int32) (h : GS s) : GS (wetS s x1).2 := by
  unfold wetS
  (repeat' split) <;> exact h.like rfl rfl rfl
theorem gs_then {s : SG} (x1 x2 : Int32) (h : GS s) : GS (thenS s x1 x2).2 := by
  unfold thenS
  (repeat' split) <;> exact h.like rfl rfl rfl
theorem gs_floods {s : SG} (x1 : Int32) (h : GS s) : GS (floodsS s x1).2 := by
  unfold floodsS
  (repeat' split) <;> exact h.like rfl rfl rfl
theorem gs_dry {s : SG} (x1 : Int32) (h : GS s) : GS (dryS s x1).2 := by
  unfold dryS
  (repeat' split) <;> exact h.like rfl rfl rfl
theorem gs_driest {s : SG} (x1 : Int32) (h : GS s) : GS (driestS s x1).2 := by
  unfold driestS
  (repeat' split) <;> exact h.like rfl rfl rfl
theorem gs_falls {s : SG} (x1 : Int32) (h : GS s) : GS (fallsS s x1).2 := by
  unfold fallsS
  (repeat' split) <;> exact h.like rfl rfl rfl
theorem gs_keep {s : SG} (x1 x2 x3 : Int32) (h : GS s) : GS (keepS s x1 x2 x3).2 := by
  unfold keepS
  (repeat' split) <;> exact h.like rfl rfl rfl
theorem gs_best {s : SG} (x1 x2 x3 x4 : Int32) (h : GS s) : GS (bestS s x1 x2 x3 x4).2 := by
  unfold bestS
  (repeat' split) <;> exact h.like rfl rfl rfl
theorem gs_dredge {s : SG} (x1 : Int32) (h : GS s) : GS (dredgeS s x1).2 := by
  unfold dredgeS
  (repeat' split) <;> exact h.like rfl rfl rfl
theorem gs_round {s : SG} (x1 : Int32) (h : GS s) : GS (roundS s x1).2 := by
  unfold roundS
  (repeat' split) <;> exact h.like rfl rfl rfl
theorem gs_assessed {s : SG} (x1 : Int32) (h : GS s) : GS (assessedS s x1).2 := by
  unfold assessedS optS
  (repeat' split) <;> exact h.like rfl rfl rfl
theorem gs_whatWas {s : SG} (x1 x2 : Int32) (h : GS s) : GS (whatWasS s x1 x2).2 := by
  unfold whatWasS
  (repeat' split) <;> exact h.like rfl rfl rfl
theorem gs_howHigh {s : SG} (h : GS s) : GS (howHighS s).2 := by
  unfold howHighS
  (repeat' split) <;> exact h.like rfl rfl rfl
theorem gs_two {s : SG} (x1 x2 : Int32) (h : GS s) : GS (twoS s x1 x2).2 := by
  unfold twoS
  (repeat' split) <;> exact h.like rfl rfl rfl
theorem gs_swells {s : SG} (x1 x2 x3 x4 : Int32) (h : GS s) : GS (swellsS s x1 x2 x3 x4).2 := by
  unfold swellsS
  (repeat' split) <;> exact h.like rfl rfl rfl
theorem gs_shares {s : SG} (x1 x2 : Int32) (h : GS s) : GS (sharesS s x1 x2).2 := by
  unfold sharesS
  (repeat' split) <;> exact h.like rfl rfl rfl
theorem gs_weakest {s : SG} (x1 : Int32) (h : GS s) : GS (weakestS s x1).2 := by
  unfold weakestS optS
  (repeat' split) <;> exact h.like rfl rfl rfl
theorem gs_mean {s : SG} (x1 : Int32) (h : GS s) : GS (meanS s x1).2 := by
  unfold meanS
  (repeat' split) <;> exact h.like rfl rfl rfl
theorem gs_low {s : SG} (h : GS s) : GS (lowS s).2 := by
  unfold lowS
  (repeat' split) <;> exact h.like rfl rfl rfl
theorem gs_sand {s : SG} (h : GS s) : GS (sandS s).2 := by
  unfold sandS
  (repeat' split) <;> exact h.like rfl rfl rfl
theorem gs_mended {s : SG} (x1 x2 : Int32) (h : GS s) : GS (mendedS s x1 x2).2 := by
  unfold mendedS
  (repeat' split) <;> exact h.like rfl rfl rfl
theorem gs_pairs {s : SG} (x1 : Int32) (h : GS s) : GS (pairsS s x1).2 := by
  unfold pairsS
  (repeat' split) <;> exact h.like rfl rfl rfl
theorem gs_turrets {s : SG} (x1 : Int32) (h : GS s) : GS (turretsS s x1).2 := by
  unfold turretsS
  (repeat' split) <;> exact h.like rfl rfl rfl
theorem gs_row {s : SG} (x1 : Int32) (h : GS s) : GS (rowS s x1).2 := by
  unfold rowS
  (repeat' split) <;> exact h.like rfl rfl rfl
theorem gs_judge {s : SG} (h : GS s) : GS (judgeS s).2 := by
  unfold judgeS
  (repeat' split) <;> exact h.like rfl rfl rfl
theorem gs_clear {s : SG} (h : GS s) : GS (clearS s).2 := by
  unfold clearS
  (repeat' split) <;> exact h.like rfl rfl rfl
theorem gs_lots {s : SG} (x1 x2 x3 : Int32) (h : GS s) : GS (lotsS s x1 x2 x3).2 := by
  unfold lotsS
  (repeat' split) <;> exact h.like rfl rfl rfl
theorem gs_count {s : SG} (x1 : Int32) (h : GS s) : GS (countS s x1).2 := by
  unfold countS
  (repeat' split) <;> exact h.like rfl rfl rfl
theorem gs_razes {s : SG} (x1 : Int32) (h : GS s) : GS (razesS s x1).2 := by
  unfold razesS
  split
  · exact h.rem.wB h.1.lose
  · exact h.like rfl rfl rfl
theorem gs_fixes {s : SG} (x1 : Int32) (h : GS s) : GS (fixesS s x1).2 := by
  unfold fixesS
  split
  · exact h.rem.wB h.1.wear
  · exact h.like rfl rfl rfl
theorem gs_pays {s : SG} (h : GS s) : GS (paysS s).2 := h.rem.wB h.1.settle
theorem gs_hours {s : SG} (x1 : Int32) (h : GS s) : GS (hoursS s x1).2 := by
  unfold hoursS
  split
  · exact h.rem.wB (h.1.hrs _)
  · exact h.like rfl rfl rfl
theorem gs_back {s : SG} (h : GS s) : GS (backS s).2 := by
  unfold backS
  cases e : sT s with
  | nil => exact h.like rfl rfl rfl
  | cons T tl =>
    have hm : ∀ U, U ∈ T :: tl → DC U := fun U hU => h.2.2 U (by rw [e]; exact hU)
    exact (h.wB (hm T List.mem_cons_self)).wT (fun U hU => hm U (List.mem_cons_of_mem _ hU))
theorem gs_image {s : SG} (h : GS s) : GS (imageS s).2 := ⟨h.1, fun I hI => by cases hI; exact h.1, h.2.2⟩
theorem gs_restore {s : SG} (h : GS s) : GS (restoreS s).2 := by
  unfold restoreS
  cases e : sI s with
  | none => exact h.like rfl rfl rfl
  | some I => exact ⟨h.2.1 I e, fun J hJ => by cases hJ; exact h.2.1 I e, fun T hT => by cases hT⟩
theorem wkK_0 {s : SG} {x1 x2 x3 : Int32} (h : wkK s x1 x2 x3 = 0) : woV (sB s) x3.toInt.toNat < 0 := by
  unfold wkK at h
  split at h
  · split at h
    · split at h
      · cases h
      · split at h
        · split at h
          · assumption
          · cases h
        · cases h
    · rename_i z; exact absurd h z
  · cases h
theorem gs_work {s : SG} (x1 x2 x3 : Int32) (h : GS s) (hw : WF 8 999 (sB s)) : GS (workS s x1 x2 x3).2 := by
  unfold workS
  split
  · rename_i z
    exact (h.wB (h.1.build hw (by decide) (wo_neg (wkK_0 z)))).wT (fun T hT => by cases hT)
  · exact h.like rfl rfl rfl
theorem apF_ok {l : List Nat} : ∀ (n p : Nat) (B : BV) (k : Nat), WF 8 999 B → DC B → DC (apF l n p B k).2.1
  | 0, p, B, k, hw, hD => hD
  | n + 1, p, B, k, hw, hD => by
    by_cases z : l.length ≤ p
    · rw [apF_e z]; exact hD
    · cases e : appB B l p with
      | none => rw [apF_n z e]; exact hD
      | some B' =>
        rw [apF_s z e]
        obtain ⟨a, b⟩ := appB_ok hw hD e
        exact apF_ok n _ B' _ a b
theorem gs_beach {s : SG} (h : GS s) (hw : WF 8 999 (sB s)) : GS (beachS s).2 := by
  unfold beachS
  cases e : lkT (sL s) with
  | some q => exact h.like rfl rfl rfl
  | none =>
    have hd := apF_ok (l := sL s) 49 0 (sB s) 0 hw h.1
    show GS (bhR s (apF (sL s) 49 0 (sB s) 0)).2
    generalize apF (sL s) 49 0 (sB s) 0 = r at hd
    obtain ⟨a, b, c⟩ := r
    cases a with
    | some p => exact h.like rfl rfl rfl
    | none => exact GS.wT (GS.wB (s := clL s) (h.like rfl rfl rfl) hd) (fun T hT => by cases hT)
theorem st_feed1 {s : SG} {x1 : Int32} {M : MM} {V1 : Prop} {K : MM → Prop} (hC : RepC s M) (hM : RepM s M) (hG : GS s) (hv1 : V1) (k : ∀ s' M', RepC s' M' → RepM s' M' → GS s' → K M') : D4_feed x1 M (fun (r : Int32) (M1 : MM) => V1 ∧ D5_feed x1 M1 (fun (t : Int32) (M2 : MM) => ((r = t → K M2) ∧ (¬ r = t → False)))) :=
  c_feed hC (fun M1 c1 h1 => ⟨hv1, m_feed (hM.hi h1) (fun M2 m2 l2 => ⟨fun _ => k _ M2 (c1.lo l2) m2 (gs_feed x1 hG), fun z => absurd rfl z⟩)⟩)
theorem st_beach0 {s : SG} {M : MM} {K : MM → Prop} (hC : RepC s M) (hM : RepM s M) (hG : GS s) (k : ∀ s' M', RepC s' M' → RepM s' M' → GS s' → K M') : D4_beach M (fun (r : Int32) (M1 : MM) => D5_beach M1 (fun (t : Int32) (M2 : MM) => ((r = t → K M2) ∧ (¬ r = t → False)))) :=
  c_beach hC (fun M1 c1 h1 => m_beach hG.1 (hM.hi h1) (fun M2 m2 l2 => ⟨fun _ => k _ M2 (c1.lo l2) m2 (gs_beach hG hC.2.1), fun z => absurd rfl z⟩))
theorem st_workOf2 {s : SG} {x1 x2 : Int32} {M : MM} {V1 V2 : Prop} {K : MM → Prop} (hC : RepC s M) (hM : RepM s M) (hG : GS s) (hv1 : V1) (hv2 : V2) (k : ∀ s' M', RepC s' M' → RepM s' M' → GS s' → K M') : D4_workOf x1 x2 M (fun (r : Int32) (M1 : MM) => V1 ∧ V2 ∧ D5_workOf x1 x2 M1 (fun (t : Int32) (M2 : MM) => ((r = t → K M2) ∧ (¬ r = t → False)))) :=
  c_workOf hC (fun M1 c1 h1 => ⟨hv1, hv2, m_workOf (hM.hi h1) (fun M2 m2 l2 => ⟨fun _ => k _ M2 (c1.lo l2) m2 (gs_workOf x1 x2 hG), fun z => absurd rfl z⟩)⟩)
theorem st_at1 {s : SG} {x1 : Int32} {M : MM} {V1 : Prop} {K : MM → Prop} (hC : RepC s M) (hM : RepM s M) (hG : GS s) (hv1 : V1) (k : ∀ s' M', RepC s' M' → RepM s' M' → GS s' → K M') : D4_at x1 M (fun (r : Int32) (M1 : MM) => V1 ∧ D5_at x1 M1 (fun (t : Int32) (M2 : MM) => ((r = t → K M2) ∧ (¬ r = t → False)))) :=
  c_at hC (fun M1 c1 h1 => ⟨hv1, m_at hG.1 (hM.hi h1) (fun M2 m2 l2 => ⟨fun _ => k _ M2 (c1.lo l2) m2 (gs_at x1 hG), fun z => absurd rfl z⟩)⟩)
theorem st_work3 {s : SG} {x1 x2 x3 : Int32} {M : MM} {V1 V2 V3 : Prop} {K : MM → Prop} (hC : RepC s M) (hM : RepM s M) (hG : GS s) (hv1 : V1) (hv2 : V2) (hv3 : V3) (k : ∀ s' M', RepC s' M' → RepM s' M' → GS s' → K M') : D4_work x1 x2 x3 M (fun (r : Int32) (M1 : MM) => V1 ∧ V2 ∧ V3 ∧ D5_work x1 x2 x3 M1 (fun (t : Int32) (M2 : MM) => ((r = t → K M2) ∧ (¬ r = t → False)))) :=
  c_work hC (fun M1 c1 h1 => ⟨hv1, hv2, hv3, m_work hG.1 (hM.hi h1) (fun M2 m2 l2 => ⟨fun _ => k _ M2 (c1.lo l2) m2 (gs_work x1 x2 x3 hG hC.2.1), fun z => absurd rfl z⟩)⟩)
theorem st_razes1 {s : SG} {x1 : Int32} {M : MM} {V1 : Prop} {K : MM → Prop} (hC : RepC s M) (hM : RepM s M) (hG : GS s) (hv1 : V1) (k : ∀ s' M', RepC s' M' → RepM s' M' → GS s' → K M') : D4_razes x1 M (fun (r : Int32) (M1 : MM) => V1 ∧ D5_razes x1 M1 (fun (t : Int32) (M2 : MM) => ((r = t → K M2) ∧ (¬ r = t → False)))) :=
  c_razes hC (fun M1 c1 h1 => ⟨hv1, m_razes (hM.hi h1) (fun M2 m2 l2 => ⟨fun _ => k _ M2 (c1.lo l2) m2 (gs_razes x1 hG), fun z => absurd rfl z⟩)⟩)
theorem st_fixes1 {s : SG} {x1 : Int32} {M : MM} {V1 : Prop} {K : MM → Prop} (hC : RepC s M) (hM : RepM s M) (hG : GS s) (hv1 : V1) (k : ∀ s' M', RepC s' M' → RepM s' M' → GS s' → K M') : D4_fixes x1 M (fun (r : Int32) (M1 : MM) => V1 ∧ D5_fixes x1 M1 (fun (t : Int32) (M2 : MM) => ((r = t → K M2) ∧ (¬ r = t → False)))) :=
  c_fixes hC (fun M1 c1 h1 => ⟨hv1, m_fixes (hM.hi h1) (fun M2 m2 l2 => ⟨fun _ => k _ M2 (c1.lo l2) m2 (gs_fixes x1 hG), fun z => absurd rfl z⟩)⟩)
theorem st_pays0 {s : SG} {M : MM} {K : MM → Prop} (hC : RepC s M) (hM : RepM s M) (hG : GS s) (k : ∀ s' M', RepC s' M' → RepM s' M' → GS s' → K M') : D4_pays M (fun (r : Int32) (M1 : MM) => D5_pays M1 (fun (t : Int32) (M2 : MM) => ((r = t → K M2) ∧ (¬ r = t → False)))) :=
  c_pays hC (fun M1 c1 h1 => m_pays (hM.hi h1) (fun M2 m2 l2 => ⟨fun _ => k _ M2 (c1.lo l2) m2 (gs_pays hG), fun z => absurd rfl z⟩))
theorem st_hours1 {s : SG} {x1 : Int32} {M : MM} {V1 : Prop} {K : MM → Prop} (hC : RepC s M) (hM : RepM s M) (hG : GS s) (hv1 : V1) (k : ∀ s' M', RepC s' M' → RepM s' M' → GS s' → K M') : D4_hours x1 M (fun (r : Int32) (M1 : MM) => V1 ∧ D5_hours x1 M1 (fun (t : Int32) (M2 : MM) => ((r = t → K M2) ∧ (¬ r = t → False)))) :=
  c_hours hC (fun M1 c1 h1 => ⟨hv1, m_hours (hM.hi h1) (fun M2 m2 l2 => ⟨fun _ => k _ M2 (c1.lo l2) m2 (gs_hours x1 hG), fun z => absurd rfl z⟩)⟩)
theorem st_back0 {s : SG} {M : MM} {K : MM → Prop} (hC : RepC s M) (hM : RepM s M) (hG : GS s) (k : ∀ s' M', RepC s' M' → RepM s' M' → GS s' → K M') : D4_back M (fun (r : Int32) (M1 : MM) => D5_back M1 (fun (t : Int32) (M2 : MM) => ((r = t → K M2) ∧ (¬ r = t → False)))) :=
  c_back hC (fun M1 c1 h1 => m_back (hM.hi h1) (fun M2 m2 l2 => ⟨fun _ => k _ M2 (c1.lo l2) m2 (gs_back hG), fun z => absurd rfl z⟩))
theorem st_level1 {s : SG} {x1 : Int32} {M : MM} {V1 : Prop} {K : MM → Prop} (hC : RepC s M) (hM : RepM s M) (hG : GS s) (hv1 : V1) (k : ∀ s' M', RepC s' M' → RepM s' M' → GS s' → K M') : D4_level x1 M (fun (r : Int32) (M1 : MM) => V1 ∧ D5_level x1 M1 (fun (t : Int32) (M2 : MM) => ((r = t → K M2) ∧ (¬ r = t → False)))) :=
  c_level hC (fun M1 c1 h1 => ⟨hv1, m_level (hM.hi h1) (fun M2 m2 l2 => ⟨fun _ => k _ M2 (c1.lo l2) m2 (gs_level x1 hG), fun z => absurd rfl z⟩)⟩)
theorem st_wet1 {s : SG} {x1 : Int32} {M : MM} {V1 : Prop} {K : MM → Prop} (hC : RepC s M) (hM : RepM s M) (hG : GS s) (hv1 : V1) (k : ∀ s' M', RepC s' M' → RepM s' M' → GS s' → K M') : D4_wet x1 M (fun (r : Int32) (M1 : MM) => V1 ∧ D5_wet x1 M1 (fun (t : Int32) (M2 : MM) => ((r = t → K M2) ∧ (¬ r = t → False)))) :=
  c_wet hC (fun M1 c1 h1 => ⟨hv1, m_wet (hM.hi h1) (fun M2 m2 l2 => ⟨fun _ => k _ M2 (c1.lo l2) m2 (gs_wet x1 hG), fun z => absurd rfl z⟩)⟩)
theorem st_then2 {s : SG} {x1 x2 : Int32} {M : MM} {V1 V2 : Prop} {K : MM → Prop} (hC : RepC s M) (hM : RepM s M) (hG : GS s) (hv1 : V1) (hv2 : V2) (k : ∀ s' M', RepC s' M' → RepM s' M' → GS s' → K M') : D4_then x1 x2 M (fun (r : Int32) (M1 : MM) => V1 ∧ V2 ∧ D5_then x1 x2 M1 (fun (t : Int32) (M2 : MM) => ((r = t → K M2) ∧ (¬ r = t → False)))) :=
  c_then hC (fun M1 c1 h1 => ⟨hv1, hv2, m_then (hM.hi h1) (fun M2 m2 l2 => ⟨fun _ => k _ M2 (c1.lo l2) m2 (gs_then x1 x2 hG), fun z => absurd rfl z⟩)⟩)
theorem st_floods1 {s : SG} {x1 : Int32} {M : MM} {V1 : Prop} {K : MM → Prop} (hC : RepC s M) (hM : RepM s M) (hG : GS s) (hv1 : V1) (k : ∀ s' M', RepC s' M' → RepM s' M' → GS s' → K M') : D4_floods x1 M (fun (r : Int32) (M1 : MM) => V1 ∧ D5_floods x1 M1 (fun (t : Int32) (M2 : MM) => ((r = t → K M2) ∧ (¬ r = t → False)))) :=
  c_floods hC (fun M1 c1 h1 => ⟨hv1, m_floods (hM.hi h1) (fun M2 m2 l2 => ⟨fun _ => k _ M2 (c1.lo l2) m2 (gs_floods x1 hG), fun z => absurd rfl z⟩)⟩)
theorem st_dry1 {s : SG} {x1 : Int32} {M : MM} {V1 : Prop} {K : MM → Prop} (hC : RepC s M) (hM : RepM s M) (hG : GS s) (hv1 : V1) (k : ∀ s' M', RepC s' M' → RepM s' M' → GS s' → K M') : D4_dry x1 M (fun (r : Int32) (M1 : MM) => V1 ∧ D5_dry x1 M1 (fun (t : Int32) (M2 : MM) => ((r = t → K M2) ∧ (¬ r = t → False)))) :=
  c_dry hC (fun M1 c1 h1 => ⟨hv1, m_dry (hM.hi h1) (fun M2 m2 l2 => ⟨fun _ => k _ M2 (c1.lo l2) m2 (gs_dry x1 hG), fun z => absurd rfl z⟩)⟩)
theorem st_driest1 {s : SG} {x1 : Int32} {M : MM} {V1 : Prop} {K : MM → Prop} (hC : RepC s M) (hM : RepM s M) (hG : GS s) (hv1 : V1) (k : ∀ s' M', RepC s' M' → RepM s' M' → GS s' → K M') : D4_driest x1 M (fun (r : Int32) (M1 : MM) => V1 ∧ D5_driest x1 M1 (fun (t : Int32) (M2 : MM) => ((r = t → K M2) ∧ (¬ r = t → False)))) :=
  c_driest hC (fun M1 c1 h1 => ⟨hv1, m_driest (hM.hi h1) (fun M2 m2 l2 => ⟨fun _ => k _ M2 (c1.lo l2) m2 (gs_driest x1 hG), fun z => absurd rfl z⟩)⟩)
theorem st_falls1 {s : SG} {x1 : Int32} {M : MM} {V1 : Prop} {K : MM → Prop} (hC : RepC s M) (hM : RepM s M) (hG : GS s) (hv1 : V1) (k : ∀ s' M', RepC s' M' → RepM s' M' → GS s' → K M') : D4_falls x1 M (fun (r : Int32) (M1 : MM) => V1 ∧ D5_falls x1 M1 (fun (t : Int32) (M2 : MM) => ((r = t → K M2) ∧ (¬ r = t → False)))) :=
  c_falls hC (fun M1 c1 h1 => ⟨hv1, m_falls (hM.hi h1) (fun M2 m2 l2 => ⟨fun _ => k _ M2 (c1.lo l2) m2 (gs_falls x1 hG), fun z => absurd rfl z⟩)⟩)
theorem st_keep3 {s : SG} {x1 x2 x3 : Int32} {M : MM} {V1 V2 V3 : Prop} {K : MM → Prop} (hC : RepC s M) (hM : RepM s M) (hG : GS s) (hv1 : V1) (hv2 : V2) (hv3 : V3) (k : ∀ s' M', RepC s' M' → RepM s' M' → GS s' → K M') : D4_keep x1 x2 x3 M (fun (r : Int32) (M1 : MM) => V1 ∧ V2 ∧ V3 ∧ D5_keep x1 x2 x3 M1 (fun (t : Int32) (M2 : MM) => ((r = t → K M2) ∧ (¬ r = t → False)))) :=
  c_keep hC (fun M1 c1 h1 => ⟨hv1, hv2, hv3, m_keep hG.1 (hM.hi h1) (fun M2 m2 l2 => ⟨fun _ => k _ M2 (c1.lo l2) m2 (gs_keep x1 x2 x3 hG), fun z => absurd rfl z⟩)⟩)
theorem st_best4 {s : SG} {x1 x2 x3 x4 : Int32} {M : MM} {V1 V2 V3 V4 : Prop} {K : MM → Prop} (hC : RepC s M) (hM : RepM s M) (hG : GS s) (hv1 : V1) (hv2 : V2) (hv3 : V3) (hv4 : V4) (k : ∀ s' M', RepC s' M' → RepM s' M' → GS s' → K M') : D4_best x1 x2 x3 x4 M (fun (r : Int32) (M1 : MM) => V1 ∧ V2 ∧ V3 ∧ V4 ∧ D5_best x1 x2 x3 x4 M1 (fun (t : Int32) (M2 : MM) => ((r = t → K M2) ∧ (¬ r = t → False)))) :=
  c_best hC (fun M1 c1 h1 => ⟨hv1, hv2, hv3, hv4, m_best hG.1 (hM.hi h1) (fun M2 m2 l2 => ⟨fun _ => k _ M2 (c1.lo l2) m2 (gs_best x1 x2 x3 x4 hG), fun z => absurd rfl z⟩)⟩)
theorem st_dredge1 {s : SG} {x1 : Int32} {M : MM} {V1 : Prop} {K : MM → Prop} (hC : RepC s M) (hM : RepM s M) (hG : GS s) (hv1 : V1) (k : ∀ s' M', RepC s' M' → RepM s' M' → GS s' → K M') : D4_dredge x1 M (fun (r : Int32) (M1 : MM) => V1 ∧ D5_dredge x1 M1 (fun (t : Int32) (M2 : MM) => ((r = t → K M2) ∧ (¬ r = t → False)))) :=
  c_dredge hC (fun M1 c1 h1 => ⟨hv1, m_dredge (hM.hi h1) (fun M2 m2 l2 => ⟨fun _ => k _ M2 (c1.lo l2) m2 (gs_dredge x1 hG), fun z => absurd rfl z⟩)⟩)
theorem st_round1 {s : SG} {x1 : Int32} {M : MM} {V1 : Prop} {K : MM → Prop} (hC : RepC s M) (hM : RepM s M) (hG : GS s) (hv1 : V1) (k : ∀ s' M', RepC s' M' → RepM s' M' → GS s' → K M') : D4_round x1 M (fun (r : Int32) (M1 : MM) => V1 ∧ D5_round x1 M1 (fun (t : Int32) (M2 : MM) => ((r = t → K M2) ∧ (¬ r = t → False)))) :=
  c_round hC (fun M1 c1 h1 => ⟨hv1, m_round (hM.hi h1) (fun M2 m2 l2 => ⟨fun _ => k _ M2 (c1.lo l2) m2 (gs_round x1 hG), fun z => absurd rfl z⟩)⟩)
theorem st_assessed1 {s : SG} {x1 : Int32} {M : MM} {V1 : Prop} {K : MM → Prop} (hC : RepC s M) (hM : RepM s M) (hG : GS s) (hv1 : V1) (k : ∀ s' M', RepC s' M' → RepM s' M' → GS s' → K M') : D4_assessed x1 M (fun (r : Int32) (M1 : MM) => V1 ∧ D5_assessed x1 M1 (fun (t : Int32) (M2 : MM) => ((r = t → K M2) ∧ (¬ r = t → False)))) :=
  c_assessed hC (fun M1 c1 h1 => ⟨hv1, m_assessed (hM.hi h1) (fun M2 m2 l2 => ⟨fun _ => k _ M2 (c1.lo l2) m2 (gs_assessed x1 hG), fun z => absurd rfl z⟩)⟩)
theorem st_whatWas2 {s : SG} {x1 x2 : Int32} {M : MM} {V1 V2 : Prop} {K : MM → Prop} (hC : RepC s M) (hM : RepM s M) (hG : GS s) (hv1 : V1) (hv2 : V2) (k : ∀ s' M', RepC s' M' → RepM s' M' → GS s' → K M') : D4_whatWas x1 x2 M (fun (r : Int32) (M1 : MM) => V1 ∧ V2 ∧ D5_whatWas x1 x2 M1 (fun (t : Int32) (M2 : MM) => ((r = t → K M2) ∧ (¬ r = t → False)))) :=
  c_whatWas hC (fun M1 c1 h1 => ⟨hv1, hv2, m_whatWas (hM.hi h1) (fun M2 m2 l2 => ⟨fun _ => k _ M2 (c1.lo l2) m2 (gs_whatWas x1 x2 hG), fun z => absurd rfl z⟩)⟩)
theorem st_howHigh0 {s : SG} {M : MM} {K : MM → Prop} (hC : RepC s M) (hM : RepM s M) (hG : GS s) (k : ∀ s' M', RepC s' M' → RepM s' M' → GS s' → K M') : D4_howHigh M (fun (r : Int32) (M1 : MM) => D5_howHigh M1 (fun (t : Int32) (M2 : MM) => ((r = t → K M2) ∧ (¬ r = t → False)))) :=
  c_howHigh hC (fun M1 c1 h1 => m_howHigh (hM.hi h1) (fun M2 m2 l2 => ⟨fun _ => k _ M2 (c1.lo l2) m2 (gs_howHigh hG), fun z => absurd rfl z⟩))
theorem st_two2 {s : SG} {x1 x2 : Int32} {M : MM} {V1 V2 : Prop} {K : MM → Prop} (hC : RepC s M) (hM : RepM s M) (hG : GS s) (hv1 : V1) (hv2 : V2) (k : ∀ s' M', RepC s' M' → RepM s' M' → GS s' → K M') : D4_two x1 x2 M (fun (r : Int32) (M1 : MM) => V1 ∧ V2 ∧ D5_two x1 x2 M1 (fun (t : Int32) (M2 : MM) => ((r = t → K M2) ∧ (¬ r = t → False)))) :=
  c_two hC (fun M1 c1 h1 => ⟨hv1, hv2, m_two (hM.hi h1) (fun M2 m2 l2 => ⟨fun _ => k _ M2 (c1.lo l2) m2 (gs_two x1 x2 hG), fun z => absurd rfl z⟩)⟩)
theorem st_swells4 {s : SG} {x1 x2 x3 x4 : Int32} {M : MM} {V1 V2 V3 V4 : Prop} {K : MM → Prop} (hC : RepC s M) (hM : RepM s M) (hG : GS s) (hv1 : V1) (hv2 : V2) (hv3 : V3) (hv4 : V4) (k : ∀ s' M', RepC s' M' → RepM s' M' → GS s' → K M') : D4_swells x1 x2 x3 x4 M (fun (r : Int64) (M1 : MM) => V1 ∧ V2 ∧ V3 ∧ V4 ∧ D5_swells x1 x2 x3 x4 M1 (fun (t : Int64) (M2 : MM) => ((lg_cmp r t = 0 → K M2) ∧ (¬ lg_cmp r t = 0 → False)))) :=
  c_swells hC (fun M1 c1 h1 => ⟨hv1, hv2, hv3, hv4, m_swells (hM.hi h1) (fun M2 m2 l2 => ⟨fun _ => k _ M2 (c1.lo l2) m2 (gs_swells x1 x2 x3 x4 hG), fun z => absurd (by rw [lgc_e]) z⟩)⟩)
theorem st_shares2 {s : SG} {x1 x2 : Int32} {M : MM} {V1 V2 : Prop} {K : MM → Prop} (hC : RepC s M) (hM : RepM s M) (hG : GS s) (hv1 : V1) (hv2 : V2) (k : ∀ s' M', RepC s' M' → RepM s' M' → GS s' → K M') : D4_shares x1 x2 M (fun (r : Int32) (M1 : MM) => V1 ∧ V2 ∧ D5_shares x1 x2 M1 (fun (t : Int32) (M2 : MM) => ((r = t → K M2) ∧ (¬ r = t → False)))) :=
  c_shares hC (fun M1 c1 h1 => ⟨hv1, hv2, m_shares (hM.hi h1) (fun M2 m2 l2 => ⟨fun _ => k _ M2 (c1.lo l2) m2 (gs_shares x1 x2 hG), fun z => absurd rfl z⟩)⟩)
theorem st_weakest1 {s : SG} {x1 : Int32} {M : MM} {V1 : Prop} {K : MM → Prop} (hC : RepC s M) (hM : RepM s M) (hG : GS s) (hv1 : V1) (k : ∀ s' M', RepC s' M' → RepM s' M' → GS s' → K M') : D4_weakest x1 M (fun (r : Int32) (M1 : MM) => V1 ∧ D5_weakest x1 M1 (fun (t : Int32) (M2 : MM) => ((r = t → K M2) ∧ (¬ r = t → False)))) :=
  c_weakest hC (fun M1 c1 h1 => ⟨hv1, m_weakest (hM.hi h1) (fun M2 m2 l2 => ⟨fun _ => k _ M2 (c1.lo l2) m2 (gs_weakest x1 hG), fun z => absurd rfl z⟩)⟩)
theorem st_mean1 {s : SG} {x1 : Int32} {M : MM} {V1 : Prop} {K : MM → Prop} (hC : RepC s M) (hM : RepM s M) (hG : GS s) (hv1 : V1) (k : ∀ s' M', RepC s' M' → RepM s' M' → GS s' → K M') : D4_mean x1 M (fun (r : Int64) (M1 : MM) => V1 ∧ D5_mean x1 M1 (fun (t : Int64) (M2 : MM) => ((lg_cmp r t = 0 → K M2) ∧ (¬ lg_cmp r t = 0 → False)))) :=
  c_mean hC (fun M1 c1 h1 => ⟨hv1, m_mean (hM.hi h1) (fun M2 m2 l2 => ⟨fun _ => k _ M2 (c1.lo l2) m2 (gs_mean x1 hG), fun z => absurd (by rw [lgc_e]) z⟩)⟩)
theorem st_low0 {s : SG} {M : MM} {K : MM → Prop} (hC : RepC s M) (hM : RepM s M) (hG : GS s) (k : ∀ s' M', RepC s' M' → RepM s' M' → GS s' → K M') : D4_low M (fun (r : Int32) (M1 : MM) => D5_low M1 (fun (t : Int32) (M2 : MM) => ((r = t → K M2) ∧ (¬ r = t → False)))) :=
  c_low hC (fun M1 c1 h1 => m_low (hM.hi h1) (fun M2 m2 l2 => ⟨fun _ => k _ M2 (c1.lo l2) m2 (gs_low hG), fun z => absurd rfl z⟩))
theorem st_sand0 {s : SG} {M : MM} {K : MM → Prop} (hC : RepC s M) (hM : RepM s M) (hG : GS s) (k : ∀ s' M', RepC s' M' → RepM s' M' → GS s' → K M') : D4_sand M (fun (r : Int32) (M1 : MM) => D5_sand M1 (fun (t : Int32) (M2 : MM) => ((r = t → K M2) ∧ (¬ r = t → False)))) :=
  c_sand hC (fun M1 c1 h1 => m_sand (hM.hi h1) (fun M2 m2 l2 => ⟨fun _ => k _ M2 (c1.lo l2) m2 (gs_sand hG), fun z => absurd rfl z⟩))
theorem st_mended2 {s : SG} {x1 x2 : Int32} {M : MM} {V1 V2 : Prop} {K : MM → Prop} (hC : RepC s M) (hM : RepM s M) (hG : GS s) (hv1 : V1) (hv2 : V2) (k : ∀ s' M', RepC s' M' → RepM s' M' → GS s' → K M') : D4_mended x1 x2 M (fun (r : Int32) (M1 : MM) => V1 ∧ V2 ∧ D5_mended x1 x2 M1 (fun (t : Int32) (M2 : MM) => ((r = t → K M2) ∧ (¬ r = t → False)))) :=
  c_mended hC (fun M1 c1 h1 => ⟨hv1, hv2, m_mended (hM.hi h1) (fun M2 m2 l2 => ⟨fun _ => k _ M2 (c1.lo l2) m2 (gs_mended x1 x2 hG), fun z => absurd rfl z⟩)⟩)
theorem st_pairs1 {s : SG} {x1 : Int32} {M : MM} {V1 : Prop} {K : MM → Prop} (hC : RepC s M) (hM : RepM s M) (hG : GS s) (hv1 : V1) (k : ∀ s' M', RepC s' M' → RepM s' M' → GS s' → K M') : D4_pairs x1 M (fun (r : Int32) (M1 : MM) => V1 ∧ D5_pairs x1 M1 (fun (t : Int32) (M2 : MM) => ((r = t → K M2) ∧ (¬ r = t → False)))) :=
  c_pairs hC (fun M1 c1 h1 => ⟨hv1, m_pairs hG.1 (hM.hi h1) (fun M2 m2 l2 => ⟨fun _ => k _ M2 (c1.lo l2) m2 (gs_pairs x1 hG), fun z => absurd rfl z⟩)⟩)
theorem st_turrets1 {s : SG} {x1 : Int32} {M : MM} {V1 : Prop} {K : MM → Prop} (hC : RepC s M) (hM : RepM s M) (hG : GS s) (hv1 : V1) (k : ∀ s' M', RepC s' M' → RepM s' M' → GS s' → K M') : D4_turrets x1 M (fun (r : Int32) (M1 : MM) => V1 ∧ D5_turrets x1 M1 (fun (t : Int32) (M2 : MM) => ((r = t → K M2) ∧ (¬ r = t → False)))) :=
  c_turrets hC (fun M1 c1 h1 => ⟨hv1, m_turrets (hM.hi h1) (fun M2 m2 l2 => ⟨fun _ => k _ M2 (c1.lo l2) m2 (gs_turrets x1 hG), fun z => absurd rfl z⟩)⟩)
theorem st_row1 {s : SG} {x1 : Int32} {M : MM} {V1 : Prop} {K : MM → Prop} (hC : RepC s M) (hM : RepM s M) (hG : GS s) (hv1 : V1) (k : ∀ s' M', RepC s' M' → RepM s' M' → GS s' → K M') : D4_row x1 M (fun (r : Int32) (M1 : MM) => V1 ∧ D5_row x1 M1 (fun (t : Int32) (M2 : MM) => ((r = t → K M2) ∧ (¬ r = t → False)))) :=
  c_row hC (fun M1 c1 h1 => ⟨hv1, m_row (hM.hi h1) (fun M2 m2 l2 => ⟨fun _ => k _ M2 (c1.lo l2) m2 (gs_row x1 hG), fun z => absurd rfl z⟩)⟩)
theorem st_judge0 {s : SG} {M : MM} {K : MM → Prop} (hC : RepC s M) (hM : RepM s M) (hG : GS s) (k : ∀ s' M', RepC s' M' → RepM s' M' → GS s' → K M') : D4_judge M (fun (r : Int32) (M1 : MM) => D5_judge M1 (fun (t : Int32) (M2 : MM) => ((r = t → K M2) ∧ (¬ r = t → False)))) :=
  c_judge hC (fun M1 c1 h1 => m_judge (hM.hi h1) (fun M2 m2 l2 => ⟨fun _ => k _ M2 (c1.lo l2) m2 (gs_judge hG), fun z => absurd rfl z⟩))
theorem st_clear0 {s : SG} {M : MM} {K : MM → Prop} (hC : RepC s M) (hM : RepM s M) (hG : GS s) (k : ∀ s' M', RepC s' M' → RepM s' M' → GS s' → K M') : D4_clear M (fun (r : Int32) (M1 : MM) => D5_clear M1 (fun (t : Int32) (M2 : MM) => ((r = t → K M2) ∧ (¬ r = t → False)))) :=
  c_clear hC (fun M1 c1 h1 => m_clear (hM.hi h1) (fun M2 m2 l2 => ⟨fun _ => k _ M2 (c1.lo l2) m2 (gs_clear hG), fun z => absurd rfl z⟩))
theorem st_lots3 {s : SG} {x1 x2 x3 : Int32} {M : MM} {V1 V2 V3 : Prop} {K : MM → Prop} (hC : RepC s M) (hM : RepM s M) (hG : GS s) (hv1 : V1) (hv2 : V2) (hv3 : V3) (k : ∀ s' M', RepC s' M' → RepM s' M' → GS s' → K M') : D4_lots x1 x2 x3 M (fun (r : Int32) (M1 : MM) => V1 ∧ V2 ∧ V3 ∧ D5_lots x1 x2 x3 M1 (fun (t : Int32) (M2 : MM) => ((r = t → K M2) ∧ (¬ r = t → False)))) :=
  c_lots hC (fun M1 c1 h1 => ⟨hv1, hv2, hv3, m_lots (hM.hi h1) (fun M2 m2 l2 => ⟨fun _ => k _ M2 (c1.lo l2) m2 (gs_lots x1 x2 x3 hG), fun z => absurd rfl z⟩)⟩)
theorem st_image0 {s : SG} {M : MM} {K : MM → Prop} (hC : RepC s M) (hM : RepM s M) (hG : GS s) (k : ∀ s' M', RepC s' M' → RepM s' M' → GS s' → K M') : D4_image M (fun (r : Int32) (M1 : MM) => D5_image M1 (fun (t : Int32) (M2 : MM) => ((r = t → K M2) ∧ (¬ r = t → False)))) :=
  c_image hC (fun M1 c1 h1 => m_image (hM.hi h1) (fun M2 m2 l2 => ⟨fun _ => k _ M2 (c1.lo l2) m2 (gs_image hG), fun z => absurd rfl z⟩))
theorem st_restore0 {s : SG} {M : MM} {K : MM → Prop} (hC : RepC s M) (hM : RepM s M) (hG : GS s) (k : ∀ s' M', RepC s' M' → RepM s' M' → GS s' → K M') : D4_restore M (fun (r : Int32) (M1 : MM) => D5_restore M1 (fun (t : Int32) (M2 : MM) => ((r = t → K M2) ∧ (¬ r = t → False)))) :=
  c_restore hC (fun M1 c1 h1 => m_restore (hM.hi h1) (fun M2 m2 l2 => ⟨fun _ => k _ M2 (c1.lo l2) m2 (gs_restore hG), fun z => absurd rfl z⟩))
theorem st_count1 {s : SG} {x1 : Int32} {M : MM} {V1 : Prop} {K : MM → Prop} (hC : RepC s M) (hM : RepM s M) (hG : GS s) (hv1 : V1) (k : ∀ s' M', RepC s' M' → RepM s' M' → GS s' → K M') : D4_count x1 M (fun (r : Int32) (M1 : MM) => V1 ∧ D5_count x1 M1 (fun (t : Int32) (M2 : MM) => ((r = t → K M2) ∧ (¬ r = t → False)))) :=
  c_count hC (fun M1 c1 h1 => ⟨hv1, m_count (hM.hi h1) (fun M2 m2 l2 => ⟨fun _ => k _ M2 (c1.lo l2) m2 (gs_count x1 hG), fun z => absurd rfl z⟩)⟩)
theorem law_loop (xs : Nat → Int32) {L : Nat} (hL : L ≤ 2560) : ∀ (n k : Nat) (s : SG) (M : MM), 5 * k ≤ L → L < 5 * n + 5 * k → RepC s M → RepM s M → GS s → DL_c18 xs L (fun _ => True) n (nI (5 * k)) M := by
  intro n
  induction n with
  | zero => intro k s M h1 h2; omega
  | succ n ih =>
    intro k s M h1 h2 hC hM hG
    unfold DL_c18
    have e5 : (nI L - (5 : Int32)).toInt = (L : Int) - 5 := pk_sub_toInt (a := L) (b := 5) (by omega) (by decide)
    rw [i_lt (nI L - 5) (nI (5 * k)), e5, i_n (show 5 * k < 2 ^ 31 by omega)]
    refine ⟨fun _ => trivial, fun z => ?_⟩
    have hk : 5 * k + 5 ≤ L := by omega
    have v0 : vp_in (nI (5 * k)) L := vp_in_nI (by omega) (by omega)
    have v1 : vp_in (nI (5 * k) + 1) L := by rw [nI_1]; exact vp_in_nI (by omega) (by omega)
    have v2 : vp_in (nI (5 * k) + 2) L := by rw [show nI (5 * k) + 2 = nI (5 * k + 2) from nI_add _ 2]; exact vp_in_nI (by omega) (by omega)
    have v3 : vp_in (nI (5 * k) + 3) L := by rw [show nI (5 * k) + 3 = nI (5 * k + 3) from nI_add _ 3]; exact vp_in_nI (by omega) (by omega)
    have v4 : vp_in (nI (5 * k) + 4) L := by rw [show nI (5 * k) + 4 = nI (5 * k + 4) from nI_add _ 4]; exact vp_in_nI (by omega) (by omega)
    have next : ∀ s' M', RepC s' M' → RepM s' M' → GS s' → DL_c1237 xs L (DL_c18 xs L (fun _ => True) n) (fun _ => True) (nI (5 * k)) M' := by
      intro s' M' c m g
      show DL_c18 xs L (fun _ => True) n (nI (5 * k) + 5) M'
      rw [show nI (5 * k) + 5 = nI (5 * k + 5) from nI_add _ 5, show 5 * k + 5 = 5 * (k + 1) by omega]
      exact ih (k + 1) s' M' (by omega) (by omega) c m g
    refine ⟨v0, ?_⟩
    refine ⟨fun _ => ⟨v1, st_feed1 hC hM hG v1 next⟩, fun _ => ?_⟩
    refine ⟨fun _ => st_beach0 hC hM hG next, fun _ => ?_⟩
    refine ⟨fun _ => ⟨v1, v2, st_workOf2 hC hM hG v1 v2 next⟩, fun _ => ?_⟩
    refine ⟨fun _ => ⟨v1, st_at1 hC hM hG v1 next⟩, fun _ => ?_⟩
    refine ⟨fun _ => ⟨v1, v2, v3, st_work3 hC hM hG v1 v2 v3 next⟩, fun _ => ?_⟩
    refine ⟨fun _ => ⟨v1, st_razes1 hC hM hG v1 next⟩, fun _ => ?_⟩
    refine ⟨fun _ => ⟨v1, st_fixes1 hC hM hG v1 next⟩, fun _ => ?_⟩
    refine ⟨fun _ => st_pays0 hC hM hG next, fun _ => ?_⟩
    refine ⟨fun _ => ⟨v1, st_hours1 hC hM hG v1 next⟩, fun _ => ?_⟩
    refine ⟨fun _ => st_back0 hC hM hG next, fun _ => ?_⟩
    refine ⟨fun _ => ⟨v1, st_level1 hC hM hG v1 next⟩, fun _ => ?_⟩
    refine ⟨fun _ => ⟨v1, st_wet1 hC hM hG v1 next⟩, fun _ => ?_⟩
    refine ⟨fun _ => ⟨v1, v2, st_then2 hC hM hG v1 v2 next⟩, fun _ => ?_⟩
    refine ⟨fun _ => ⟨v1, st_floods1 hC hM hG v1 next⟩, fun _ => ?_⟩
    refine ⟨fun _ => ⟨v1, st_dry1 hC hM hG v1 next⟩, fun _ => ?_⟩
    refine ⟨fun _ => ⟨v1, st_driest1 hC hM hG v1 next⟩, fun _ => ?_⟩
    refine ⟨fun _ => ⟨v1, st_falls1 hC hM hG v1 next⟩, fun _ => ?_⟩
    refine ⟨fun _ => ⟨v1, v2, v3, st_keep3 hC hM hG v1 v2 v3 next⟩, fun _ => ?_⟩
    refine ⟨fun _ => ⟨v1, v2, v3, v4, st_best4 hC hM hG v1 v2 v3 v4 next⟩, fun _ => ?_⟩
    refine ⟨fun _ => ⟨v1, st_dredge1 hC hM hG v1 next⟩, fun _ => ?_⟩
    refine ⟨fun _ => ⟨v1, st_round1 hC hM hG v1 next⟩, fun _ => ?_⟩
    refine ⟨fun _ => ⟨v1, st_assessed1 hC hM hG v1 next⟩, fun _ => ?_⟩
    refine ⟨fun _ => ⟨v1, v2, st_whatWas2 hC hM hG v1 v2 next⟩, fun _ => ?_⟩
    refine ⟨fun _ => st_howHigh0 hC hM hG next, fun _ => ?_⟩
    refine ⟨fun _ => ⟨v1, v2, st_two2 hC hM hG v1 v2 next⟩, fun _ => ?_⟩
    refine ⟨fun _ => ⟨v1, v2, v3, v4, st_swells4 hC hM hG v1 v2 v3 v4 next⟩, fun _ => ?_⟩
    refine ⟨fun _ => ⟨v1, v2, st_shares2 hC hM hG v1 v2 next⟩, fun _ => ?_⟩
    refine ⟨fun _ => ⟨v1, st_weakest1 hC hM hG v1 next⟩, fun _ => ?_⟩
    refine ⟨fun _ => ⟨v1, st_mean1 hC hM hG v1 next⟩, fun _ => ?_⟩
    refine ⟨fun _ => st_low0 hC hM hG next, fun _ => ?_⟩
    refine ⟨fun _ => st_sand0 hC hM hG next, fun _ => ?_⟩
    refine ⟨fun _ => ⟨v1, v2, st_mended2 hC hM hG v1 v2 next⟩, fun _ => ?_⟩
    refine ⟨fun _ => ⟨v1, st_pairs1 hC hM hG v1 next⟩, fun _ => ?_⟩
    refine ⟨fun _ => ⟨v1, st_turrets1 hC hM hG v1 next⟩, fun _ => ?_⟩
    refine ⟨fun _ => ⟨v1, st_row1 hC hM hG v1 next⟩, fun _ => ?_⟩
    refine ⟨fun _ => st_judge0 hC hM hG next, fun _ => ?_⟩
    refine ⟨fun _ => st_clear0 hC hM hG next, fun _ => ?_⟩
    refine ⟨fun _ => ⟨v1, v2, v3, st_lots3 hC hM hG v1 v2 v3 next⟩, fun _ => ?_⟩
    refine ⟨fun _ => st_image0 hC hM hG next, fun _ => ?_⟩
    refine ⟨fun _ => st_restore0 hC hM hG next, fun _ => ?_⟩
    refine ⟨fun _ => ⟨v1, st_count1 hC hM hG v1 next⟩, fun _ => ?_⟩
    exact next s M hC hM hG
/-- at the start all is nothing -/
def s0G : SG := ((0, fun _ => 0, fun _ => 0, fun _ => 0, fun _ => 0, fun _ => false, 0, 0, 0), none, [], [], [], fun _ => 0)
theorem mk_no : ∀ n, mk (fun _ => false) n = 0
  | 0 => rfl
  | n + 1 => mk_no n
theorem wf_0 : WF 8 999 (sB s0G) := ⟨Nat.zero_le _, fun j hj => absurd hj (Nat.not_lt_zero j), fun j hj => absurd (show false = true from hj) (by decide), Nat.zero_le _, Nat.zero_le _, Nat.zero_le _⟩
theorem repC_0 : RepC s0G (fun _ _ => 0) := by
  refine ⟨⟨rfl, ?_, rfl, rfl, rfl, fun j hj => absurd hj (Nat.not_lt_zero j)⟩, wf_0, ⟨rfl, fun I hI => by cases hI⟩, ⟨by decide, rfl, 0, by decide, rfl, fun i T hT => by cases hT⟩, LtC.nil rfl, RwC.nil rfl, fun k _ => rfl⟩
  show (0 : Int32) = nI (mk (fun _ => false) 10)
  rw [mk_no]; rfl
theorem repM_0 : RepM s0G (fun _ _ => 0) := ⟨⟨rfl, rfl, rfl, rfl, fun j hj => absurd hj (Nat.not_lt_zero j)⟩, wf_0, ⟨rfl, fun I hI => by cases hI⟩, TnM.nil rfl, LtM.nil rfl, RwM.nil rfl, fun k _ => rfl, rfl⟩
theorem gs_0 : GS s0G := ⟨fun i j hi => absurd (show false = true from hi) (by decide), fun I hI => (by cases hI), fun T hT => (by cases hT)⟩
theorem pure_part (xs : Nat → Int32) {L : Nat} (hL : L ≤ 2560) : DL_c18 xs L (fun _ => True) FU 0 (fun _ _ => 0) :=
  law_loop xs hL FU 0 s0G (fun _ _ => 0) (Nat.zero_le _) (Nat.lt_of_le_of_lt hL (by decide)) repC_0 repM_0 gs_0
