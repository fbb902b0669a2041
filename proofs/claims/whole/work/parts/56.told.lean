/-! PURE PART: a beach told in letters; the model -/
def FrD (M0 M : MM) : Prop := (∀ p, p ≠ 62 → M p = M0 p) ∧ ∀ j, j ≠ 18 → j ≠ 19 → M 62 j = M0 62 j
theorem FrD.rf {M : MM} : FrD M M := ⟨fun _ _ => rfl, fun _ _ _ => rfl⟩
theorem FrD.tr {M0 M1 M2 : MM} (h : FrD M0 M1) (g : FrD M1 M2) : FrD M0 M2 := ⟨fun p a => (g.1 p a).trans (h.1 p a), fun j a b => (g.2 j a b).trans (h.2 j a b)⟩
theorem FrD.up {M : MM} {j : Nat} {x : Int32} (h : j = 18 ∨ j = 19) : FrD M (up M 62 j x) := ⟨fun p a => up_p a, fun k a b => up_k (by omega)⟩
theorem LtM.D {l : List Nat} {M M' : MM} (h : LtM l M) (f : FrD M M') : LtM l M' := h.cong (f.2 17 (by decide) (by decide)) (f.1 71 (by decide))
theorem p5_here {l : List Nat} {A : Nat} {M : MM} {Q : Int32 → MM → Prop} (h : LtM l M) (hA : M 62 18 = nI A) (hA2 : A < 2 ^ 20) (k1 : A < l.length → Q (nI (rwN l A)) M) (k0 : l.length ≤ A → Q (-1) M) : D5_here M Q := by
  have hl := h.2.1
  unfold D5_here
  rw [h.1, hA, z_le (by omega) (by omega)]
  refine ⟨fun z => k0 z, fun z => ⟨ibc ⟨by decide, rfl⟩ rfl (show A < 96 by omega) (by decide), ?_⟩⟩
  rw [z_ix (by omega), (h.at (show A < l.length by omega)).1]
  exact k1 (by omega)
def vaN (l : List Nat) (A : Nat) : Nat → Nat
  | 0 => 0
  | i + 1 => 10 * vaN l A i + (rwN l (A + i) - 48)
theorem rd_39b {K4 : Int32 → Int32 → Int32 → MM → Prop} {Q : Int32 → MM → Prop} {x1 x2 x3 : Int32} {M : MM} {A : Nat} (h18 : M 62 18 = nI A) (k : K4 x1 0 (x3 + 1) (up (up M 62 19 (nI 1)) 62 18 (nI A))) : D5_readDigits_c39 K4 Q x1 x2 x3 1 M := by
  unfold D5_readDigits_c39 D5_readDigits_c70 D5_readDigits_c88
  dsimp only
  rw [up_s, up_k (show (18 : Nat) ≠ 19 by decide), h18]
  refine ⟨Or.inr rfl, fun z => absurd z (by decide), fun _ => ⟨fun z => absurd z (by decide), fun _ => ?_⟩⟩
  rw [show nI A + 0 = nI A from nI_add A 0]
  exact k
theorem rd_39g {K4 : Int32 → Int32 → Int32 → MM → Prop} {Q : Int32 → MM → Prop} {l : List Nat} {x1 x3 : Int32} {M : MM} {A v : Nat} (h : LtM l M) (h18 : M 62 18 = nI A) (hA : isDg l A = true) (k : K4 x1 (nI (10 * v + (rwN l A - 48))) (x3 + 1) (up (up M 62 19 (nI 0)) 62 18 (nI (A + 1)))) : D5_readDigits_c39 K4 Q x1 (nI v) x3 0 M := by
  have g := isDg_iff.mp hA
  have hl := h.2.1
  unfold D5_readDigits_c39 D5_readDigits_c70 D5_readDigits_c88
  dsimp only
  rw [up_s, up_k (show (18 : Nat) ≠ 19 by decide), h18, up_p (show (71 : Nat) ≠ 62 by decide), z_ix (by omega), (h.at g.1).1]
  refine ⟨Or.inl rfl, fun _ => ⟨ibc ⟨by decide, rfl⟩ rfl (show A < 96 by omega) (by decide), fun _ => ?_, fun z => absurd rfl z⟩, fun z => absurd rfl z⟩
  rw [nI_1, show (10 : Int32) = nI 10 from rfl, pk_mul, nI_add, show (48 : Int32) = nI 48 from rfl, pk_sub (by omega), show 10 * v + rwN l A - 48 = 10 * v + (rwN l A - 48) by omega]
  exact k
theorem rd_bad {d A : Nat} {M0 : MM} {Q : Int32 → MM → Prop} (hd : d ≤ 4) (q : ∀ M', FrD M0 M' → M' 62 18 = nI A → M' 62 19 = nI 1 → Q 0 M') :
    ∀ (n i : Nat) (M : MM), i ≤ d → d - i < n → FrD M0 M → M 62 18 = nI A → M 62 19 = nI 1 → D5_readDigits_c4 Q n (nI d) 0 (nI i) M := by
  intro n
  induction n with
  | zero => intro i M h1 h2; omega
  | succ n ih =>
    intro i M h1 h2 hf h18 h19
    unfold D5_readDigits_c4 D5_readDigits_c34
    rw [z_le (by omega) (by omega), h19]
    refine ⟨fun z => q M hf h18 h19, fun z => ⟨fun _ => ?_, fun z2 => absurd z2 (by decide)⟩⟩
    refine rd_39b h18 ?_
    rw [nI_1]
    exact ih (i + 1) _ (by omega) (by omega) ((hf.tr (FrD.up (Or.inr rfl))).tr (FrD.up (Or.inl rfl))) up_s (by rw [up_k (by decide), up_s])
theorem rd_loop {l : List Nat} {d A : Nat} {M0 : MM} {Q : Int32 → MM → Prop} (hA : A < 2 ^ 18) (hd : d ≤ 4) (k1 : (∀ t, t < d → isDg l (A + t) = true) → ∀ M', FrD M0 M' → M' 62 18 = nI (A + d) → M' 62 19 = nI 0 → Q (nI (vaN l A d)) M') (k0 : ∀ t M', t < d → isDg l (A + t) = false → (∀ u, u < t → isDg l (A + u) = true) → FrD M0 M' → M' 62 18 = nI (A + t) → M' 62 19 = nI 1 → Q 0 M') :
    ∀ (n i : Nat) (M : MM), i ≤ d → d - i < n → FrD M0 M → LtM l M → (∀ u, u < i → isDg l (A + u) = true) → M 62 18 = nI (A + i) → M 62 19 = nI 0 → D5_readDigits_c4 Q n (nI d) (nI (vaN l A i)) (nI i) M := by
  intro n
  induction n with
  | zero => intro i M h1 h2; omega
  | succ n ih =>
    intro i M h1 h2 hf hL hg h18 h19
    unfold D5_readDigits_c4 D5_readDigits_c34
    rw [z_le (by omega) (by omega), h19]
    refine ⟨fun z => ?_, fun z => ⟨fun z2 => absurd rfl z2, fun _ => ?_⟩⟩
    · have e : i = d := by omega
      subst e
      exact k1 hg M hf h18 h19
    · have bad : isDg l (A + i) = false → D5_readDigits_c39 (D5_readDigits_c4 Q n) Q (nI d) (nI (vaN l A i)) (nI i) 1 M := by
        intro e
        refine rd_39b h18 ?_
        rw [nI_1]
        exact rd_bad (M0 := M0) (A := A + i) hd (fun M' f' g1 g2 => k0 i M' (by omega) e hg f' g1 g2) n (i + 1) _ (by omega) (by omega) ((hf.tr (FrD.up (Or.inr rfl))).tr (FrD.up (Or.inl rfl))) up_s (by rw [up_k (by decide), up_s])
      have e48 : (48 : Int64).toInt = 48 := by decide
      have e57 : (57 : Int64).toInt = 57 := by decide
      refine p5_here hL h18 (by omega) (fun hl => ?_) (fun hl => ?_)
      · have hc := (hL.at hl).2
        refine p5_in ?_
        rw [Int32.toInt_toInt64, i_n (by omega), e48, e57, b2l_n0, b2l_0]
        refine ⟨fun e => ?_, fun e => bad (decide_eq_false (by have := of_decide_eq_false e; omega))⟩
        have e := of_decide_eq_true e
        have hgi : isDg l (A + i) = true := decide_eq_true (by omega)
        refine rd_39g hL h18 hgi ?_
        rw [nI_1]
        have fr := (hf.tr (FrD.up (M := M) (j := 19) (x := nI 0) (Or.inr rfl))).tr (FrD.up (j := 18) (x := nI (A + i + 1)) (Or.inl rfl))
        exact ih (i + 1) _ (by omega) (by omega) fr ((hL.D (FrD.up (Or.inr rfl))).D (FrD.up (Or.inl rfl))) (fun u hu => by
          by_cases y : u = i
          · rw [y]; exact hgi
          · exact hg u (by omega)) up_s (by rw [up_k (by decide), up_s])
      · refine p5_in ?_
        rw [Int32.toInt_toInt64, show (-1 : Int32).toInt = -1 from by decide, e48, e57, b2l_n0, b2l_0]
        exact ⟨fun e => by have := of_decide_eq_true e; omega, fun e => bad (decide_eq_false (by omega))⟩
theorem p5_readDigits {l : List Nat} {d A : Nat} {M : MM} {Q : Int32 → MM → Prop} (hA : A < 2 ^ 18) (hd : d ≤ 4) (hL : LtM l M) (h18 : M 62 18 = nI A) (h19 : M 62 19 = nI 0) (k1 : (∀ t, t < d → isDg l (A + t) = true) → ∀ M', FrD M M' → M' 62 18 = nI (A + d) → M' 62 19 = nI 0 → Q (nI (vaN l A d)) M') (k0 : ∀ t M', t < d → isDg l (A + t) = false → (∀ u, u < t → isDg l (A + u) = true) → FrD M M' → M' 62 18 = nI (A + t) → M' 62 19 = nI 1 → Q 0 M') : D5_readDigits (nI d) M Q :=
  rd_loop hA hd k1 k0 FU 0 M (Nat.zero_le _) (Nat.lt_of_le_of_lt (Nat.le_trans (Nat.sub_le _ _) hd) (by decide)) FrD.rf hL (fun u h => by omega) h18 h19
theorem p5_readBad {d A : Nat} {M : MM} {Q : Int32 → MM → Prop} (hd : d ≤ 4) (h18 : M 62 18 = nI A) (h19 : M 62 19 = nI 1) (q : ∀ M', FrD M M' → M' 62 18 = nI A → M' 62 19 = nI 1 → Q 0 M') : D5_readDigits (nI d) M Q :=
  rd_bad hd q FU 0 M (Nat.zero_le _) (Nat.lt_of_le_of_lt (Nat.le_trans (Nat.sub_le _ _) hd) (by decide)) FrD.rf h18 h19
theorem vaN_1 {l : List Nat} {A : Nat} (h : isDg l A = true) : vaN l A 1 = dvN l A := by
  rw [dvN_t h]
  show 10 * 0 + (rwN l (A + 0) - 48) = _
  rw [Nat.add_zero]; omega
theorem vaN_2 {l : List Nat} {A : Nat} (h : isDg l A = true) (h2 : isDg l (A + 1) = true) : vaN l A 2 = 10 * dvN l A + dvN l (A + 1) := by
  rw [dvN_t h2, ← vaN_1 h]; rfl
/-- a row of told numbers is written: all else but the reader's slots stays -/
def FrN (k : Nat) (M0 M : MM) : Prop := (∀ p, p ≠ 62 → p ≠ 74 → M p = M0 p) ∧ (∀ j, j ≠ 18 → j ≠ 19 → M 62 j = M0 62 j) ∧ ∀ j, (j < 3 * k ∨ 3 * k + 2 < j) → M 74 j = M0 74 j
theorem FrD.N {k : Nat} {M0 M : MM} (h : FrD M0 M) : FrN k M0 M := ⟨fun p a _ => h.1 p a, h.2, fun j _ => by rw [h.1 74 (by decide)]⟩
theorem FrN.tr {k : Nat} {M0 M1 M2 : MM} (h : FrN k M0 M1) (g : FrN k M1 M2) : FrN k M0 M2 := ⟨fun p a b => (g.1 p a b).trans (h.1 p a b), fun j a b => (g.2.1 j a b).trans (h.2.1 j a b), fun j a => (g.2.2 j a).trans (h.2.2 j a)⟩
theorem FrN.up {k j : Nat} {M : MM} {x : Int32} (h : 3 * k ≤ j ∧ j ≤ 3 * k + 2) : FrN k M (up M 74 j x) := ⟨fun p _ b => up_p b, fun i _ _ => by rw [up_p (by decide)], fun i a => up_k (by omega)⟩
theorem LtM.N {l : List Nat} {k : Nat} {M M' : MM} (h : LtM l M) (f : FrN k M M') : LtM l M' := h.cong (f.2.1 17 (by decide) (by decide)) (f.1 71 (by decide) (by decide))
def TRw (l : List Nat) (p : Nat) (M : MM) (k : Nat) : Prop :=
  (rwN l p = 104 → M 74 (3 * k) = nI (10 * dvN l (p + 1) + dvN l (p + 2))) ∧ (rwN l p ≠ 104 → rwN l p ≠ 112 → M 74 (3 * k) = nI (dvN l (p + 1))) ∧ ((rwN l p = 119 ∨ rwN l p = 120) → M 74 (3 * k + 1) = nI (dvN l (p + 2))) ∧ (rwN l p = 119 → M 74 (3 * k + 2) = nI (10 * dvN l (p + 3) + dvN l (p + 4)))
theorem p5_numbers {l : List Nat} {p k d : Nat} {M : MM} {Q : MM → Prop} (hp : p < 2 ^ 17) (hk : k < 49) (hd : dgo (rwN l p) = some d) (hL : LtM l M) (h18 : M 62 18 = nI (p + 1)) (h19 : M 62 19 = nI 0)
    (k1 : (∀ t, 1 ≤ t → t < 1 + d → isDg l (p + t) = true) → ∀ M', FrN k M M' → M' 62 18 = nI (p + d + 1) → M' 62 19 = nI 0 → TRw l p M' k → Q M')
    (k0 : ∀ t M', 1 ≤ t → t < 1 + d → isDg l (p + t) = false → (∀ u, 1 ≤ u → u < t → isDg l (p + u) = true) → FrN k M M' → M' 62 18 = nI (p + t) → M' 62 19 = nI 1 → Q M') : D5_readNumbers (nI (rwN l p)) (nI (3 * k)) M Q := by
  have hor := dgo_or hd
  have i0 : ib 74 (nI (3 * k)) := ibc ⟨by decide, rfl⟩ rfl (show 3 * k < 147 by omega) (by decide)
  have i1 : ib 74 (nI (3 * k + 1)) := ibc ⟨by decide, rfl⟩ rfl (show 3 * k + 1 < 147 by omega) (by decide)
  have i2 : ib 74 (nI (3 * k + 2)) := ibc ⟨by decide, rfl⟩ rfl (show 3 * k + 2 < 147 by omega) (by decide)
  have hne : ∀ n, n < 2 ^ 31 → rwN l p ≠ n → ¬ nI (rwN l p) = nI n := fun n hn h e => h (ch_eq (by rcases hor with h | h | h | h | h | h <;> omega) hn e)
  have bad0 : ∀ (M1 : MM) (t : Nat), FrN k M M1 → 1 ≤ t → t < 1 + d → isDg l (p + t) = false → (∀ u, 1 ≤ u → u < t → isDg l (p + u) = true) → M1 62 18 = nI (p + t) → M1 62 19 = nI 1 → Q M1 := fun M1 t f a b c e g i => k0 t M1 a b c e f g i
  unfold D5_readNumbers D5_readNumbers_c27
  dsimp only
  rw [show nI (3 * k) + 1 = nI (3 * k + 1) from nI_1 _, show nI (3 * k) + 2 = nI (3 * k + 2) from nI_add _ 2, z_ix (show 3 * k < 2 ^ 31 by omega), z_ix (show 3 * k + 1 < 2 ^ 31 by omega), z_ix (show 3 * k + 2 < 2 ^ 31 by omega)]
  rcases hor with ⟨e, ed⟩ | ⟨e, ed⟩ | ⟨e, ed⟩ | ⟨e, ed⟩ | ⟨e, ed⟩ | ⟨e, ed⟩
  · -- f
    refine ⟨fun _ => ⟨fun _ => ?_, fun z => absurd z (hne 112 (by decide) (by omega))⟩, fun z => absurd z (hne 104 (by decide) (by omega))⟩
    show D5_readDigits (nI 1) M _
    refine p5_readDigits (A := p + 1) (by omega) (by decide) hL h18 h19 (fun hg M1 f1 g18 g19 => ⟨i0, ?_⟩) (fun t M1 ht hb hgt f1 g18 g19 => ⟨i0, ?_⟩)
    · refine ⟨fun _ => ⟨fun _ => ?_, fun z => absurd z (hne 120 (by decide) (by omega))⟩, fun z => absurd z (hne 119 (by decide) (by omega))⟩
      have g1 := hg 0 (by decide)
      rw [Nat.add_zero] at g1
      rw [vaN_1 g1]
      refine k1 (fun t a b => by rw [show p + t = p + 1 by omega]; exact g1) _ (f1.N.tr (FrN.up (by omega))) (by rw [up_p (by decide), g18, ed]) (by rw [up_p (by decide)]; exact g19) ⟨fun z => by omega, fun _ _ => up_s, fun z => by omega, fun z => by omega⟩
    · refine ⟨fun _ => ⟨fun _ => ?_, fun z => absurd z (hne 120 (by decide) (by omega))⟩, fun z => absurd z (hne 119 (by decide) (by omega))⟩
      refine bad0 _ 1 (f1.N.tr (FrN.up (by omega))) (by decide) (by omega) (by rw [show t = 0 by omega, Nat.add_zero] at hb; exact hb) (fun u a b => by omega) (by rw [up_p (by decide), g18, show t = 0 by omega]) (by rw [up_p (by decide)]; exact g19)
  · -- h
    refine ⟨fun z => absurd (by rw [e]; rfl) z, fun _ => ?_⟩
    show D5_readDigits (nI 2) M _
    refine p5_readDigits (A := p + 1) (by omega) (by decide) hL h18 h19 (fun hg M1 f1 g18 g19 => ⟨i0, ?_⟩) (fun t M1 ht hb hgt f1 g18 g19 => ⟨i0, ?_⟩)
    · refine ⟨fun _ => ⟨fun _ => ?_, fun z => absurd z (hne 120 (by decide) (by omega))⟩, fun z => absurd z (hne 119 (by decide) (by omega))⟩
      have g1 := hg 0 (by decide)
      have g2 := hg 1 (by decide)
      rw [Nat.add_zero] at g1
      rw [vaN_2 g1 g2]
      refine k1 (fun t a b => by
        rcases (show t = 1 ∨ t = 2 by omega) with rfl | rfl
        · exact g1
        · exact g2) _ (f1.N.tr (FrN.up (by omega))) (by rw [up_p (by decide), g18, ed]) (by rw [up_p (by decide)]; exact g19) ⟨fun _ => up_s, fun z _ => absurd e z, fun z => by omega, fun z => by omega⟩
    · refine ⟨fun _ => ⟨fun _ => ?_, fun z => absurd z (hne 120 (by decide) (by omega))⟩, fun z => absurd z (hne 119 (by decide) (by omega))⟩
      refine bad0 _ (t + 1) (f1.N.tr (FrN.up (by omega))) (by omega) (by omega) (by rw [show p + (t + 1) = p + 1 + t by omega]; exact hb) (fun u a b => by have := hgt (u - 1) (by omega); rw [show p + 1 + (u - 1) = p + u by omega] at this; exact this) (by rw [up_p (by decide), g18, show p + 1 + t = p + (t + 1) by omega]) (by rw [up_p (by decide)]; exact g19)
  · -- p
    refine ⟨fun _ => ⟨fun z => absurd (by rw [e]; rfl) z, fun _ => ?_⟩, fun z => absurd z (hne 104 (by decide) (by omega))⟩
    show D5_readDigits (nI 0) M _
    refine p5_readDigits (A := p + 1) (by omega) (by decide) hL h18 h19 (fun hg M1 f1 g18 g19 => ⟨i0, ?_⟩) (fun t M1 ht hb hgt f1 g18 g19 => by omega)
    refine ⟨fun _ => ⟨fun _ => ?_, fun z => absurd z (hne 120 (by decide) (by omega))⟩, fun z => absurd z (hne 119 (by decide) (by omega))⟩
    exact k1 (fun t a b => by omega) _ (f1.N.tr (FrN.up (by omega))) (by rw [up_p (by decide), g18, ed]) (by rw [up_p (by decide)]; exact g19) ⟨fun z => by omega, fun _ z => absurd e z, fun z => by omega, fun z => by omega⟩
  · -- r
    refine ⟨fun _ => ⟨fun _ => ?_, fun z => absurd z (hne 112 (by decide) (by omega))⟩, fun z => absurd z (hne 104 (by decide) (by omega))⟩
    show D5_readDigits (nI 1) M _
    refine p5_readDigits (A := p + 1) (by omega) (by decide) hL h18 h19 (fun hg M1 f1 g18 g19 => ⟨i0, ?_⟩) (fun t M1 ht hb hgt f1 g18 g19 => ⟨i0, ?_⟩)
    · refine ⟨fun _ => ⟨fun _ => ?_, fun z => absurd z (hne 120 (by decide) (by omega))⟩, fun z => absurd z (hne 119 (by decide) (by omega))⟩
      have g1 := hg 0 (by decide)
      rw [Nat.add_zero] at g1
      rw [vaN_1 g1]
      refine k1 (fun t a b => by rw [show p + t = p + 1 by omega]; exact g1) _ (f1.N.tr (FrN.up (by omega))) (by rw [up_p (by decide), g18, ed]) (by rw [up_p (by decide)]; exact g19) ⟨fun z => by omega, fun _ _ => up_s, fun z => by omega, fun z => by omega⟩
    · refine ⟨fun _ => ⟨fun _ => ?_, fun z => absurd z (hne 120 (by decide) (by omega))⟩, fun z => absurd z (hne 119 (by decide) (by omega))⟩
      refine bad0 _ 1 (f1.N.tr (FrN.up (by omega))) (by decide) (by omega) (by rw [show t = 0 by omega, Nat.add_zero] at hb; exact hb) (fun u a b => by omega) (by rw [up_p (by decide), g18, show t = 0 by omega]) (by rw [up_p (by decide)]; exact g19)
  · -- w
    refine ⟨fun _ => ⟨fun _ => ?_, fun z => absurd z (hne 112 (by decide) (by omega))⟩, fun z => absurd z (hne 104 (by decide) (by omega))⟩
    show D5_readDigits (nI 1) M _
    refine p5_readDigits (A := p + 1) (by omega) (by decide) hL h18 h19 (fun hg M1 f1 g18 g19 => ⟨i0, ?_⟩) (fun t M1 ht hb hgt f1 g18 g19 => ⟨i0, ?_⟩)
    · refine ⟨fun z => absurd (by rw [e]; rfl) z, fun _ => ?_⟩
      have g1 := hg 0 (by decide)
      rw [Nat.add_zero] at g1
      have fr1 : FrN k M (up M1 74 (3 * k) (nI (vaN l (p + 1) 1))) := f1.N.tr (FrN.up (by omega))
      show D5_readDigits (nI 1) _ _
      refine p5_readDigits (A := p + 2) (by omega) (by decide) (hL.N fr1) (by rw [up_p (by decide)]; exact g18) (by rw [up_p (by decide)]; exact g19) (fun hg2 M2 f2 h18' h19' => ⟨i1, ?_⟩) (fun t M2 ht hb hgt f2 h18' h19' => ⟨i1, ?_⟩)
      · have g2 := hg2 0 (by decide)
        rw [Nat.add_zero] at g2
        have fr2 : FrN k M (up M2 74 (3 * k + 1) (nI (vaN l (p + 2) 1))) := (fr1.tr f2.N).tr (FrN.up (by omega))
        show D5_readDigits (nI 2) _ _
        refine p5_readDigits (A := p + 3) (by omega) (by decide) (hL.N fr2) (by rw [up_p (by decide)]; exact h18') (by rw [up_p (by decide)]; exact h19') (fun hg3 M3 f3 j18 j19 => ⟨i2, ?_⟩) (fun t M3 ht hb hgt f3 j18 j19 => ⟨i2, ?_⟩)
        · have g3 := hg3 0 (by decide)
          have g4 := hg3 1 (by decide)
          rw [Nat.add_zero] at g3
          have row0 : M3 74 (3 * k) = nI (dvN l (p + 1)) := by
            rw [f3.1 74 (by decide), up_k (by omega), f2.1 74 (by decide), up_s, vaN_1 g1]
          have row1 : M3 74 (3 * k + 1) = nI (dvN l (p + 2)) := by
            rw [f3.1 74 (by decide), up_s, vaN_1 g2]
          rw [vaN_2 g3 g4]
          refine k1 (fun t a b => by
            rcases (show t = 1 ∨ t = 2 ∨ t = 3 ∨ t = 4 by omega) with rfl | rfl | rfl | rfl
            · exact g1
            · exact g2
            · exact g3
            · exact g4) _ ((fr2.tr f3.N).tr (FrN.up (by omega))) (by rw [up_p (by decide), j18, ed]) (by rw [up_p (by decide)]; exact j19) ⟨fun z => by omega, fun _ _ => by rw [up_k (by omega)]; exact row0, fun _ => by rw [up_k (by omega)]; exact row1, fun _ => up_s⟩
        · refine bad0 _ (t + 3) ((fr2.tr f3.N).tr (FrN.up (by omega))) (by omega) (by omega) (by rw [show p + (t + 3) = p + 3 + t by omega]; exact hb) (fun u a b => ?_) (by rw [up_p (by decide), j18, show p + 3 + t = p + (t + 3) by omega]) (by rw [up_p (by decide)]; exact j19)
          rcases (show u = 1 ∨ u = 2 ∨ 3 ≤ u by omega) with rfl | rfl | hu
          · exact g1
          · exact g2
          · have := hgt (u - 3) (by omega); rw [show p + 3 + (u - 3) = p + u by omega] at this; exact this
      · have fr2 : FrN k M (up M2 74 (3 * k + 1) 0) := (fr1.tr f2.N).tr (FrN.up (by omega))
        show D5_readDigits (nI 2) _ _
        refine p5_readBad (A := p + 2 + t) (by decide) (by rw [up_p (by decide)]; exact h18') (by rw [up_p (by decide)]; exact h19') (fun M3 f3 j18 j19 => ⟨i2, ?_⟩)
        refine bad0 _ 2 ((fr2.tr f3.N).tr (FrN.up (by omega))) (by decide) (by omega) (by rw [show t = 0 by omega, Nat.add_zero] at hb; exact hb) (fun u a b => by rw [show u = 1 by omega]; exact g1) (by rw [up_p (by decide), j18, show t = 0 by omega]) (by rw [up_p (by decide)]; exact j19)
    · refine ⟨fun z => absurd (by rw [e]; rfl) z, fun _ => ?_⟩
      have fr1 : FrN k M (up M1 74 (3 * k) 0) := f1.N.tr (FrN.up (by omega))
      show D5_readDigits (nI 1) _ _
      refine p5_readBad (A := p + 1 + t) (by decide) (by rw [up_p (by decide)]; exact g18) (by rw [up_p (by decide)]; exact g19) (fun M2 f2 h18' h19' => ⟨i1, ?_⟩)
      have fr2 : FrN k M (up M2 74 (3 * k + 1) 0) := (fr1.tr f2.N).tr (FrN.up (by omega))
      show D5_readDigits (nI 2) _ _
      refine p5_readBad (A := p + 1 + t) (by decide) (by rw [up_p (by decide)]; exact h18') (by rw [up_p (by decide)]; exact h19') (fun M3 f3 j18 j19 => ⟨i2, ?_⟩)
      refine bad0 _ 1 ((fr2.tr f3.N).tr (FrN.up (by omega))) (by decide) (by omega) (by rw [show t = 0 by omega, Nat.add_zero] at hb; exact hb) (fun u a b => by omega) (by rw [up_p (by decide), j18, show t = 0 by omega]) (by rw [up_p (by decide)]; exact j19)
  · -- x
    refine ⟨fun _ => ⟨fun _ => ?_, fun z => absurd z (hne 112 (by decide) (by omega))⟩, fun z => absurd z (hne 104 (by decide) (by omega))⟩
    show D5_readDigits (nI 1) M _
    refine p5_readDigits (A := p + 1) (by omega) (by decide) hL h18 h19 (fun hg M1 f1 g18 g19 => ⟨i0, ?_⟩) (fun t M1 ht hb hgt f1 g18 g19 => ⟨i0, ?_⟩)
    · refine ⟨fun _ => ⟨fun z => absurd (by rw [e]; rfl) z, fun _ => ?_⟩, fun z => absurd z (hne 119 (by decide) (by omega))⟩
      have g1 := hg 0 (by decide)
      rw [Nat.add_zero] at g1
      have fr1 : FrN k M (up M1 74 (3 * k) (nI (vaN l (p + 1) 1))) := f1.N.tr (FrN.up (by omega))
      show D5_readDigits (nI 1) _ _
      refine p5_readDigits (A := p + 2) (by omega) (by decide) (hL.N fr1) (by rw [up_p (by decide)]; exact g18) (by rw [up_p (by decide)]; exact g19) (fun hg2 M2 f2 h18' h19' => ⟨i1, ?_⟩) (fun t M2 ht hb hgt f2 h18' h19' => ⟨i1, ?_⟩)
      · have g2 := hg2 0 (by decide)
        rw [Nat.add_zero] at g2
        have row0 : M2 74 (3 * k) = nI (dvN l (p + 1)) := by
          rw [f2.1 74 (by decide), up_s, vaN_1 g1]
        rw [vaN_1 g2]
        refine k1 (fun t a b => by
          rcases (show t = 1 ∨ t = 2 by omega) with rfl | rfl
          · exact g1
          · exact g2) _ ((fr1.tr f2.N).tr (FrN.up (by omega))) (by rw [up_p (by decide), h18', ed]) (by rw [up_p (by decide)]; exact h19') ⟨fun z => by omega, fun _ _ => by rw [up_k (by omega)]; exact row0, fun _ => up_s, fun z => by omega⟩
      · refine bad0 _ 2 ((fr1.tr f2.N).tr (FrN.up (by omega))) (by decide) (by omega) (by rw [show t = 0 by omega, Nat.add_zero] at hb; exact hb) (fun u a b => by rw [show u = 1 by omega]; exact g1) (by rw [up_p (by decide), h18', show t = 0 by omega]) (by rw [up_p (by decide)]; exact h19')
    · refine ⟨fun _ => ⟨fun z => absurd (by rw [e]; rfl) z, fun _ => ?_⟩, fun z => absurd z (hne 119 (by decide) (by omega))⟩
      have fr1 : FrN k M (up M1 74 (3 * k) 0) := f1.N.tr (FrN.up (by omega))
      show D5_readDigits (nI 1) _ _
      refine p5_readBad (A := p + 1 + t) (by decide) (by rw [up_p (by decide)]; exact g18) (by rw [up_p (by decide)]; exact g19) (fun M2 f2 h18' h19' => ⟨i1, ?_⟩)
      refine bad0 _ 1 ((fr1.tr f2.N).tr (FrN.up (by omega))) (by decide) (by omega) (by rw [show t = 0 by omega, Nat.add_zero] at hb; exact hb) (fun u a b => by omega) (by rw [up_p (by decide), h18', show t = 0 by omega]) (by rw [up_p (by decide)]; exact h19')
