/-! PURE PART: letters and the ROW come; LOW -/
theorem LtC.add {l : List Nat} {c : Nat} {M M' : MM} (h : LtC l M) (hl : l.length < 96) (hc : c < 256) (h0 : M' 57 1 = nI (l.length + 1)) (h1 : ∀ j, j ≠ l.length → M' 58 j = M 58 j) (h2 : M' 58 l.length = nI c) : LtC (l ++ [c]) M' := by
  refine ⟨by rw [h0, List.length_append]; rfl, by rw [List.length_append]; exact hl, fun i d hd => ?_⟩
  rcases Nat.lt_or_ge i l.length with z | z
  · rw [List.getElem?_append_left z] at hd
    rw [h1 i (by omega)]; exact h.2.2 i d hd
  · rw [List.getElem?_append_right z] at hd
    have hz : i - l.length < 1 := (List.getElem?_eq_some_iff.mp hd).1
    rw [show i - l.length = 0 by omega] at hd
    cases hd
    rw [show i = l.length by omega]
    exact ⟨h2, hc⟩
theorem RwC.add {l : List Nat} {c : Nat} {M M' : MM} (h : RwC l M) (hl : l.length < 12) (hc : c < 100) (h0 : M' 0 8 = nI (l.length + 1)) (h1 : ∀ j, j ≠ l.length → M' 59 j = M 59 j) (h2 : M' 59 l.length = nI c) : RwC (l ++ [c]) M' := by
  refine ⟨by rw [h0, List.length_append]; rfl, by rw [List.length_append]; exact hl, fun i d hd => ?_⟩
  rcases Nat.lt_or_ge i l.length with z | z
  · rw [List.getElem?_append_left z] at hd
    rw [h1 i (by omega)]; exact h.2.2 i d hd
  · rw [List.getElem?_append_right z] at hd
    have hz : i - l.length < 1 := (List.getElem?_eq_some_iff.mp hd).1
    rw [show i - l.length = 0 by omega] at hd
    cases hd
    rw [show i = l.length by omega]
    exact ⟨h2, hc⟩
theorem LtM.add {l : List Nat} {c : Nat} {M M' : MM} (h : LtM l M) (hl : l.length < 96) (hc : c < 256) (h0 : M' 62 17 = nI (l.length + 1)) (h1 : ∀ j, j ≠ l.length → M' 71 j = M 71 j) (h2 : M' 71 l.length = nI c) : LtM (l ++ [c]) M' := by
  refine ⟨by rw [h0, List.length_append]; rfl, by rw [List.length_append]; exact hl, fun i d hd => ?_⟩
  rcases Nat.lt_or_ge i l.length with z | z
  · rw [List.getElem?_append_left z] at hd
    rw [h1 i (by omega)]; exact h.2.2 i d hd
  · rw [List.getElem?_append_right z] at hd
    have hz : i - l.length < 1 := (List.getElem?_eq_some_iff.mp hd).1
    rw [show i - l.length = 0 by omega] at hd
    cases hd
    rw [show i = l.length by omega]
    exact ⟨h2, hc⟩
theorem RwM.add {l : List Nat} {c : Nat} {M M' : MM} (h : RwM l M) (hl : l.length < 12) (hc : c < 100) (h0 : M' 62 36 = nI (l.length + 1)) (h1 : ∀ j, j ≠ l.length → M' 81 j = M 81 j) (h2 : M' 81 l.length = nI c) : RwM (l ++ [c]) M' := by
  refine ⟨by rw [h0, List.length_append]; rfl, by rw [List.length_append]; exact hl, fun i d hd => ?_⟩
  rcases Nat.lt_or_ge i l.length with z | z
  · rw [List.getElem?_append_left z] at hd
    rw [h1 i (by omega)]; exact h.2.2 i d hd
  · rw [List.getElem?_append_right z] at hd
    have hz : i - l.length < 1 := (List.getElem?_eq_some_iff.mp hd).1
    rw [show i - l.length = 0 by omega] at hd
    cases hd
    rw [show i = l.length by omega]
    exact ⟨h2, hc⟩
/-- the refusal of a letter, of a number of the ROW -/
def fdK (x : Int32) (top room len : Nat) : Nat := if x.toInt < 0 then 4 else if (top : Int) < x.toInt ∨ len = room then 6 else 0
def feedS (s : SG) (x : Int32) : Int32 × SG := if fdK x 255 96 (sL s).length = 0 then (nI ((sL s).length + 1), (sB s, sI s, sT s, sL s ++ [x.toInt.toNat], sR s, sF s)) else outS s (fdK x 255 96 (sL s).length)
def rowS (s : SG) (x : Int32) : Int32 × SG := if fdK x 99 12 (sR s).length = 0 then (nI ((sR s).length + 1), (sB s, sI s, sT s, sL s, sR s ++ [x.toInt.toNat], sF s)) else outS s (fdK x 99 12 (sR s).length)
theorem fdK4 {x : Int32} {a b c : Nat} (h : x.toInt < 0) : fdK x a b c = 4 := if_pos h
theorem fdK6 {x : Int32} {a b c : Nat} (h : ¬ x.toInt < 0) (h2 : (a : Int) < x.toInt ∨ c = b) : fdK x a b c = 6 := by unfold fdK; rw [if_neg h, if_pos h2]
theorem fdK0 {x : Int32} {a b c : Nat} (h : ¬ x.toInt < 0) (h2 : ¬ ((a : Int) < x.toInt ∨ c = b)) : fdK x a b c = 0 := by unfold fdK; rw [if_neg h, if_neg h2]
theorem nI_toNat {x : Int32} (h : ¬ x.toInt < 0) : x = nI x.toInt.toNat := by
  have := Int32.toInt_lt x
  refine Int32.toInt_inj.mp ?_
  rw [i_n (by omega)]
  omega
theorem c_feed {s : SG} {x : Int32} {M : MM} {Q : Int32 → MM → Prop} (hR : RepC s M) (q : ∀ M', RepC (feedS s x).2 M' → Hi M M' → Q (feedS s x).1 M') : D4_feed x M Q := by
  unfold D4_feed
  have hlen := hR.2.2.2.2.1.2.1
  have out : ∀ k, fdK x 255 96 (sL s).length = k → k = 4 ∨ k = 6 → D4_refused (-(nI k)) M Q := by
    intro k h hk
    refine c_out hR (neg46 hk).2.2 ?_
    rw [show feedS s x = outS s k from by unfold feedS; rw [h, if_neg (by omega)]] at q
    exact q
  rw [i_le, i_lt, show (0 : Int32).toInt = 0 from by decide, show (255 : Int32).toInt = 255 from by decide]
  refine ⟨fun c => ⟨fun c2 => ?_, fun c2 => ?_⟩, fun c => out 4 (fdK4 (by omega)) (Or.inl rfl)⟩
  · exact out 6 (fdK6 (by omega) (Or.inl c2)) (Or.inr rfl)
  · unfold D2_isFull
    rw [hR.2.2.2.2.1.1, show (96 : Int32) = nI 96 from rfl, z_lt (by omega) (by decide)]
    refine ⟨fun c3 => ⟨fun _ => ?_, fun z => absurd rfl z⟩, fun c3 => ⟨fun z => absurd z (by decide), fun _ => out 6 (fdK6 (by omega) (Or.inr (by omega))) (Or.inr rfl)⟩⟩
    have h0 := fdK0 (x := x) (a := 255) (b := 96) (c := (sL s).length) (by omega) (by omega)
    rw [show feedS s x = (nI ((sL s).length + 1), (sB s, sI s, sT s, sL s ++ [x.toInt.toNat], sR s, sF s)) from by unfold feedS; rw [if_pos h0]] at q
    obtain ⟨r1, r2, r3, r4, r5, r6, r7⟩ := hR
    unfold D2_add D2_size
    rw [r5.1]
    refine ⟨fun z => absurd z (nI_pos (by omega)), fun _ => ?_⟩
    rw [show (96 : Int32) = nI 96 from rfl, z_le (by decide) (by omega)]
    refine ⟨fun z => by omega, fun _ => ⟨ibc ⟨by decide, rfl⟩ rfl c3 (by decide), ?_⟩⟩
    rw [z_ix (by omega)]
    show Q (up (up M 58 (sL s).length x) 57 1 (up M 58 (sL s).length x 57 1 + 1) 57 1) (up (up M 58 (sL s).length x) 57 1 (up M 58 (sL s).length x 57 1 + 1))
    rw [up_s, up_p (by decide), r5.1, nI_1]
    have hf : ∀ p, p ≠ 57 → p ≠ 58 → up (up M 58 (sL s).length x) 57 1 (nI ((sL s).length + 1)) p = M p := fun p a b => by rw [up_p a, up_p b]
    refine q _ ⟨r1.cong (fun p a b => hf p (by omega) (by omega)), r2, r3.cong (by rw [hf 0 (by decide) (by decide)]) (fun p a b => hf p (by omega) (by omega)), r4.cong (by rw [hf 0 (by decide) (by decide)]) (by rw [hf 0 (by decide) (by decide)]) (fun p a b => hf p (by omega) (by omega)), ?_, r6.cong (by rw [hf 0 (by decide) (by decide)]) (hf 59 (by decide) (by decide)), r7.cong (hf 60 (by decide) (by decide))⟩ (fun p hp => hf p (by omega) (by omega))
    refine r5.add c3 (by omega) up_s (fun j hj => by rw [up_p (by decide), up_k hj]) ?_
    rw [up_p (by decide), up_s]
    exact nI_toNat (by omega)
theorem m_feed {s : SG} {x : Int32} {M : MM} {Q : Int32 → MM → Prop} (hR : RepM s M) (q : ∀ M', RepM (feedS s x).2 M' → Lo M M' → Q (feedS s x).1 M') : D5_feed x M Q := by
  unfold D5_feed
  have hR1 := hR.thrown (x := 0)
  have hL : Lo M (up M 62 9 0) := fun p hp => up_p (by omega)
  generalize up M 62 9 0 = M1 at hR1 hL
  have hlen := hR1.2.2.2.2.1.2.1
  have out : ∀ k, fdK x 255 96 (sL s).length = k → k = 4 ∨ k = 6 → D5_refuse (-(nI k)) M1 Q := by
    intro k h hk
    refine m_out hR1 (neg46 hk).2.2 (fun M' a b => ?_)
    rw [show feedS s x = outS s k from by unfold feedS; rw [h, if_neg (by omega)]] at q
    exact q M' a (hL.tr b)
  rw [i_le, i_lt, show (0 : Int32).toInt = 0 from by decide, show (255 : Int32).toInt = 255 from by decide]
  refine ⟨fun c => ⟨fun c2 => ?_, fun c2 => ?_⟩, fun c => out 4 (fdK4 (by omega)) (Or.inl rfl)⟩
  · exact out 6 (fdK6 (by omega) (Or.inl c2)) (Or.inr rfl)
  · rw [hR1.2.2.2.2.1.1, show (96 : Int32) = nI 96 from rfl]
    simp only [ne_eq, z_eq (show (sL s).length < 2 ^ 31 by omega) (show 96 < 2 ^ 31 by decide)]
    refine ⟨fun c3 => ⟨ibc ⟨by decide, rfl⟩ rfl (show (sL s).length < 96 by omega) (by decide), ?_⟩, fun c3 => out 6 (fdK6 (by omega) (Or.inr (by omega))) (Or.inr rfl)⟩
    have h0 := fdK0 (x := x) (a := 255) (b := 96) (c := (sL s).length) (by omega) (by omega)
    rw [show feedS s x = (nI ((sL s).length + 1), (sB s, sI s, sT s, sL s ++ [x.toInt.toNat], sR s, sF s)) from by unfold feedS; rw [if_pos h0]] at q
    obtain ⟨r1, r2, r3, r4, r5, r6, r7, r8⟩ := hR1
    rw [z_ix (by omega)]
    rw [up_s, up_p (by decide), r5.1, nI_1]
    have hf : ∀ p, p ≠ 62 → p ≠ 71 → up (up M1 71 (sL s).length x) 62 17 (nI ((sL s).length + 1)) p = M1 p := fun p a b => by rw [up_p a, up_p b]
    have h62 : ∀ k, k ≠ 17 → up (up M1 71 (sL s).length x) 62 17 (nI ((sL s).length + 1)) 62 k = M1 62 k := fun k a => by rw [up_k a, up_p (by decide)]
    refine q _ ⟨?_, r2, ⟨(h62 26 (by decide)).trans r3.1, fun I hI => ⟨(r3.2 I hI).1.cong (hf 76 (by decide) (by decide)), (r3.2 I hI).2⟩⟩, ⟨r4.1, (h62 32 (by decide)).trans r4.2.1, fun i T hT => ⟨?_, (r4.2.2 i T hT).2⟩⟩, ?_, ⟨(h62 36 (by decide)).trans r6.1, r6.2.1, fun i c hc => by rw [hf 81 (by decide) (by decide)]; exact r6.2.2 i c hc⟩, fun k hk => by rw [hf 68 (by decide) (by decide)]; exact r7 k hk, (h62 15 (by decide)).trans r8⟩ (hL.tr (fun p hp => hf p (by omega) (by omega)))
    · obtain ⟨a1, a2, a3, a4, a5⟩ := r1
      refine ⟨(h62 0 (by decide)).trans a1, (h62 6 (by decide)).trans a2, (h62 7 (by decide)).trans a3, (h62 8 (by decide)).trans a4, fun j hj => ?_⟩
      rw [hf 63 (by decide) (by decide), hf 64 (by decide) (by decide), hf 65 (by decide) (by decide), hf 66 (by decide) (by decide), hf 67 (by decide) (by decide)]
      exact a5 j hj
    · unfold RO
      rw [hf 77 (by decide) (by decide)]
      exact (r4.2.2 i T hT).1
    · refine r5.add (by omega) (by omega) up_s (fun j hj => by rw [up_p (by decide), up_k hj]) ?_
      rw [up_p (by decide), up_s]
      exact nI_toNat (by omega)
