/-! PURE PART: a beach told in letters; the model reads and builds -/
def FrR (M0 M : MM) : Prop := (∀ p, p ≠ 62 → p ≠ 72 → p ≠ 73 → p ≠ 74 → M p = M0 p) ∧ ∀ j, j ≠ 18 → j ≠ 19 → j ≠ 20 → M 62 j = M0 62 j
theorem FrR.rf {M : MM} : FrR M M := ⟨fun _ _ _ _ _ => rfl, fun _ _ _ _ => rfl⟩
theorem FrR.tr {M0 M1 M2 : MM} (h : FrR M0 M1) (g : FrR M1 M2) : FrR M0 M2 := ⟨fun p a b c d => (g.1 p a b c d).trans (h.1 p a b c d), fun j a b c => (g.2 j a b c).trans (h.2 j a b c)⟩
theorem FrR.sl {M : MM} {j : Nat} {x : Int32} (h : j = 18 ∨ j = 19 ∨ j = 20) : FrR M (up M 62 j x) := ⟨fun p a _ _ _ => up_p a, fun k a b c => up_k (by omega)⟩
theorem FrR.tab {M : MM} {p j : Nat} {x : Int32} (h : p = 72 ∨ p = 73) : FrR M (up M p j x) := ⟨fun q a b c d => up_p (by omega), fun k a b c => by rw [up_p (by omega)]⟩
theorem FrN.R {k : Nat} {M0 M : MM} (h : FrN k M0 M) : FrR M0 M := ⟨fun p a _ _ d => h.1 p a d, fun j a b _ => h.2.1 j a b⟩
theorem FrR.M {M0 M : MM} (h : FrR M0 M) : FrM M0 M := ⟨fun p a => h.1 p (by omega) (by omega) (by omega) (by omega), h.2 15 (by decide) (by decide) (by decide), h.2 17 (by decide) (by decide) (by decide), h.2 26 (by decide) (by decide) (by decide), h.2 32 (by decide) (by decide) (by decide), h.2 36 (by decide) (by decide) (by decide), h.1 68 (by decide) (by decide) (by decide) (by decide), h.1 71 (by decide) (by decide) (by decide) (by decide), h.1 76 (by decide) (by decide) (by decide) (by decide), h.1 77 (by decide) (by decide) (by decide) (by decide), h.1 81 (by decide) (by decide) (by decide) (by decide)⟩
theorem RepM.R {s : SG} {M0 M : MM} (h : RepM s M0) (f : FrR M0 M) : RepM s M := h.mind f.M (h.1.cong (f.2 0 (by decide) (by decide) (by decide)) (f.2 6 (by decide) (by decide) (by decide)) (f.2 7 (by decide) (by decide) (by decide)) (f.2 8 (by decide) (by decide) (by decide)) (fun p a b => f.1 p (by omega) (by omega) (by omega) (by omega)))
theorem LtM.R {l : List Nat} {M M' : MM} (h : LtM l M) (f : FrR M M') : LtM l M' := h.cong (f.2 17 (by decide) (by decide) (by decide)) (f.1 71 (by decide) (by decide) (by decide) (by decide))
def posP (l : List Nat) : Nat → Nat
  | 0 => 0
  | k + 1 => nxP l (posP l k)
/-- the table below K -/
def TB_ (l : List Nat) (K : Nat) (M : MM) : Prop := ∀ k, k < K → M 72 k = nI (posP l k) ∧ M 73 k = nI (rwN l (posP l k)) ∧ TRw l (posP l k) M k
theorem TRw.cong {l : List Nat} {p k : Nat} {M M' : MM} (h : TRw l p M k) (e : ∀ j, 3 * k ≤ j → j ≤ 3 * k + 2 → M' 74 j = M 74 j) : TRw l p M' k := by
  unfold TRw
  rw [e (3 * k) (by omega) (by omega), e (3 * k + 1) (by omega) (by omega), e (3 * k + 2) (by omega) (by omega)]
  exact h
theorem TB_.cong {l : List Nat} {K : Nat} {M M' : MM} (h : TB_ l K M) (e2 : M' 72 = M 72) (e3 : M' 73 = M 73) (e4 : M' 74 = M 74) : TB_ l K M' := fun k hk => by
  obtain ⟨a, b, c⟩ := h k hk
  exact ⟨by rw [e2]; exact a, by rw [e3]; exact b, c.cong (fun j _ _ => by rw [e4])⟩
/-- the end of a statement -/
theorem rs_128 {Q : MM → Prop} {A K a : Nat} {M : MM} (h18 : M 62 18 = nI A) (h20 : M 62 20 = nI K) (q : ∀ M', M' = up (up M 62 18 (nI (A + a))) 62 20 (nI (K + 1)) → Q M') : D5_readStatement_c128 Q (nI a) (M 62 18) M := by
  unfold D5_readStatement_c128
  dsimp only
  rw [h18, nI_add, up_k (show (20 : Nat) ≠ 18 by decide), h20, nI_1]
  exact q _ rfl
theorem rs_108b {Q : MM → Prop} {A K : Nat} {M : MM} (h18 : M 62 18 = nI A) (h20 : M 62 20 = nI K) (q : ∀ M', FrR M M' → M' 62 18 = nI A → M' 62 19 = nI 1 → M' 62 20 = nI (K + 1) → Q M') : D5_readStatement_c108 Q 1 M := by
  unfold D5_readStatement_c108
  refine ⟨Or.inr rfl, fun z => absurd (by rw [up_s] at z; exact z) (by decide), fun _ => ?_⟩
  show D5_readStatement_c128 Q (nI 0) (up M 62 19 (nI 1) 62 18) (up M 62 19 (nI 1))
  refine rs_128 (A := A) (K := K) (by rw [up_k (by decide)]; exact h18) (by rw [up_k (by decide)]; exact h20) (fun M' e => ?_)
  subst e
  refine q _ (((FrR.sl (by decide)).tr (FrR.sl (by decide))).tr (FrR.sl (by decide))) (by rw [up_k (by decide), up_s]; rfl) (by rw [up_k (by decide), up_k (by decide), up_s]) up_s
theorem rs_108g {Q : MM → Prop} {A K : Nat} {M : MM} (h18 : M 62 18 = nI A) (h20 : M 62 20 = nI K) (q : ∀ M', FrR M M' → (∀ p, p ≠ 62 → M' p = M p) → M' 62 18 = nI (A + 1) → M' 62 19 = nI 0 → M' 62 20 = nI (K + 1) → Q M') : D5_readStatement_c108 Q 0 M := by
  unfold D5_readStatement_c108
  refine ⟨Or.inl rfl, fun _ => ?_, fun z => absurd (by rw [up_s]) z⟩
  show D5_readStatement_c128 Q (nI 1) (up M 62 19 (nI 0) 62 18) (up M 62 19 (nI 0))
  refine rs_128 (A := A) (K := K) (by rw [up_k (by decide)]; exact h18) (by rw [up_k (by decide)]; exact h20) (fun M' e => ?_)
  subst e
  exact q _ (((FrR.sl (by decide)).tr (FrR.sl (by decide))).tr (FrR.sl (by decide))) (fun p a => by rw [up_p a, up_p a, up_p a]) (by rw [up_k (by decide), up_s]) (by rw [up_k (by decide), up_k (by decide), up_s]) up_s
/-- a statement is read -/
theorem p5_readStatement {l : List Nat} {K : Nat} {M : MM} {Q : MM → Prop} (hp : posP l K ≤ l.length) (hK : K < 49) (hL : LtM l M) (h18 : M 62 18 = nI (posP l K)) (h19 : M 62 19 = nI 0) (h20 : M 62 20 = nI K) (hT : TB_ l K M)
    (k1 : posP l K < l.length → stL l (posP l K) = none → ∀ M', FrR M M' → M' 62 18 = nI (posP l (K + 1)) → M' 62 19 = nI 0 → M' 62 20 = nI (K + 1) → TB_ l (K + 1) M' → Q M')
    (k0 : ∀ q M', ((posP l K < l.length ∧ stL l (posP l K) = some q) ∨ (l.length ≤ posP l K ∧ q = posP l K)) → FrR M M' → M' 62 18 = nI q → M' 62 19 = nI 1 → Q M') : D5_readStatement M Q := by
  have hl := hL.2.1
  have i72 : ib 72 (nI K) := ibc ⟨by decide, rfl⟩ rfl (show K < 49 by omega) (by decide)
  have i73 : ib 73 (nI K) := ibc ⟨by decide, rfl⟩ rfl (show K < 49 by omega) (by decide)
  have hxK : ix (nI K) = K := z_ix (by omega)
  -- both tables written
  have wr : ∀ r, FrR M (up (up M 72 K (nI (posP l K))) 73 K r) := fun r => (FrR.tab (Or.inl rfl)).tr (FrR.tab (Or.inr rfl))
  have w62 : ∀ r j, up (up M 72 K (nI (posP l K))) 73 K r 62 j = M 62 j := fun r j => by rw [up_p (by decide), up_p (by decide)]
  have bad : ∀ (r : Int32) (q : Nat), ((posP l K < l.length ∧ stL l (posP l K) = some q) ∨ (l.length ≤ posP l K ∧ q = posP l K)) → q = posP l K → D5_readStatement_c42 Q (nI K) r (up (up M 72 K (nI (posP l K))) 73 K r) := by
    intro r q hq e
    unfold D5_readStatement_c42 D5_readStatement_c47
    refine ⟨Or.inr rfl, fun z => absurd (by rw [up_s] at z; exact z) (by decide), fun _ => ?_⟩
    unfold D5_readStatement_c67
    dsimp only
    rw [up_k (show (18 : Nat) ≠ 19 by decide), w62, h18, show nI (posP l K) + 0 = nI (posP l K) from nI_add _ 0, up_k (show (19 : Nat) ≠ 18 by decide), up_s]
    refine ⟨fun _ => ?_, fun z => absurd z (by decide)⟩
    unfold D5_readStatement_c86 D5_readStatement_c103
    rw [up_k (show (19 : Nat) ≠ 18 by decide), up_s]
    refine ⟨fun _ => ?_, fun z => absurd z (by decide)⟩
    refine rs_108b (A := posP l K) (K := K) up_s (by rw [up_k (by decide), up_k (by decide), w62]; exact h20) (fun M' f g18 g19 _ => ?_)
    exact k0 q M' hq ((((wr r).tr (FrR.sl (by decide))).tr (FrR.sl (by decide))).tr f) (by rw [e]; exact g18) g19
  unfold D5_readStatement
  dsimp only
  rw [h20, hxK]
  refine p5_here hL h18 (by omega) (fun hlt => ?_) (fun hge => ?_)
  · refine ⟨i72, i73, ?_⟩
    rw [h18, w62, h19]
    refine ⟨fun z => absurd rfl z, fun _ => ?_⟩
    have hc := (hL.at hlt).2
    have hbad : dgo (rwN l (posP l K)) = none → D5_readStatement_c42 Q (nI K) (nI (rwN l (posP l K))) (up (up M 72 K (nI (posP l K))) 73 K (nI (rwN l (posP l K)))) := fun e => bad _ _ (Or.inl ⟨hlt, stL_0 e⟩) rfl
    have good : ∀ d, dgo (rwN l (posP l K)) = some d → D5_readStatement_c47 Q (nI K) (nI (rwN l (posP l K))) 0 (up (up M 72 K (nI (posP l K))) 73 K (nI (rwN l (posP l K)))) := by
      intro d hd
      have h4 := dgo_le hd
      unfold D5_readStatement_c47
      refine ⟨Or.inl rfl, fun _ => ?_, fun z => absurd (by rw [up_s]) z⟩
      unfold D5_readStatement_c67
      dsimp only
      rw [up_k (show (18 : Nat) ≠ 19 by decide), w62, h18, nI_1, up_k (show (19 : Nat) ≠ 18 by decide), up_s]
      refine ⟨fun z => absurd rfl z, fun _ => ?_⟩
      rw [show (3 : Int32) * nI K = nI (3 * K) from pk_mul 3 K]
      have frA : FrR M (up (up (up (up M 72 K (nI (posP l K))) 73 K (nI (rwN l (posP l K)))) 62 19 0) 62 18 (nI (posP l K + 1))) := ((wr _).tr (FrR.sl (by decide))).tr (FrR.sl (by decide))
      have hLA := hL.R frA
      have eA72 : ∀ j, j < K → up (up (up (up M 72 K (nI (posP l K))) 73 K (nI (rwN l (posP l K)))) 62 19 0) 62 18 (nI (posP l K + 1)) 72 j = M 72 j := fun j hj => by rw [up_p (by decide), up_p (by decide), up_p (by decide), up_k (by omega)]
      have eA73 : ∀ j, j < K → up (up (up (up M 72 K (nI (posP l K))) 73 K (nI (rwN l (posP l K)))) 62 19 0) 62 18 (nI (posP l K + 1)) 73 j = M 73 j := fun j hj => by rw [up_p (by decide), up_p (by decide), up_k (by omega), up_p (by decide)]
      have eA74 : ∀ j, up (up (up (up M 72 K (nI (posP l K))) 73 K (nI (rwN l (posP l K)))) 62 19 0) 62 18 (nI (posP l K + 1)) 74 j = M 74 j := fun j => by rw [up_p (by decide), up_p (by decide), up_p (by decide), up_p (by decide)]
      have eA72K : up (up (up (up M 72 K (nI (posP l K))) 73 K (nI (rwN l (posP l K)))) 62 19 0) 62 18 (nI (posP l K + 1)) 72 K = nI (posP l K) := by rw [up_p (by decide), up_p (by decide), up_p (by decide), up_s]
      have eA73K : up (up (up (up M 72 K (nI (posP l K))) 73 K (nI (rwN l (posP l K)))) 62 19 0) 62 18 (nI (posP l K + 1)) 73 K = nI (rwN l (posP l K)) := by rw [up_p (by decide), up_p (by decide), up_s]
      have eA18 : up (up (up (up M 72 K (nI (posP l K))) 73 K (nI (rwN l (posP l K)))) 62 19 0) 62 18 (nI (posP l K + 1)) 62 18 = nI (posP l K + 1) := up_s
      have eA19 : up (up (up (up M 72 K (nI (posP l K))) 73 K (nI (rwN l (posP l K)))) 62 19 0) 62 18 (nI (posP l K + 1)) 62 19 = nI 0 := by rw [up_k (by decide), up_s]; rfl
      have eA20 : up (up (up (up M 72 K (nI (posP l K))) 73 K (nI (rwN l (posP l K)))) 62 19 0) 62 18 (nI (posP l K + 1)) 62 20 = nI K := by rw [up_k (by decide), up_k (by decide), w62]; exact h20
      generalize up (up (up (up M 72 K (nI (posP l K))) 73 K (nI (rwN l (posP l K)))) 62 19 0) 62 18 (nI (posP l K + 1)) = MA at frA hLA eA72 eA73 eA74 eA72K eA73K eA18 eA19 eA20 ⊢
      refine p5_numbers (by omega) hK hd hLA eA18 eA19 (fun hg M1 f1 g18 g19 hrow => ?_) (fun t M1 t1 t2 hb hgt f1 g18 g19 => ?_)
      · have g20 : M1 62 20 = nI K := by rw [f1.2.1 20 (by decide) (by decide)]; exact eA20
        unfold D5_readStatement_c86 D5_readStatement_c103
        rw [g19]
        refine ⟨fun z => absurd rfl z, fun _ => ?_⟩
        have hnd : ndg l (posP l K) d 1 = none := ndg_none (fun t a b => hg t a (by omega))
        have hs := stL_2 hd hnd
        refine p5_here (hLA.N f1) g18 (by omega) (fun hl2 => ?_) (fun hl2 => ?_)
        · have hc2 := ((hLA.N f1).at hl2).2
          rw [show (59 : Int32) = nI 59 from rfl, z_eq (by omega) (by decide)]
          refine ⟨fun e => ?_, fun e => ?_⟩
          · refine rs_108g g18 g20 (fun M' f fp j18 j19 j20 => ?_)
            have hpos : posP l (K + 1) = posP l K + d + 1 + 1 := by
              show nxP l (posP l K) = _
              rw [nxP_d hd]
            refine k1 hlt (by rw [hs, if_pos ⟨hl2, e⟩]) M' ((frA.tr f1.R).tr f) (by rw [hpos]; exact j18) j19 j20 (fun k hk => ?_)
            rw [fp 72 (by decide), fp 73 (by decide), f1.1 72 (by decide) (by decide), f1.1 73 (by decide) (by decide)]
            by_cases y : k = K
            · rw [y]
              exact ⟨eA72K, eA73K, hrow.cong (fun j _ _ => by rw [fp 74 (by decide)])⟩
            · have hk' : k < K := by omega
              obtain ⟨a, b, c⟩ := hT k hk'
              rw [eA72 k hk', eA73 k hk']
              exact ⟨a, b, c.cong (fun j j1 j2 => by rw [fp 74 (by decide), f1.2.2 j (by omega), eA74])⟩
          · refine rs_108b g18 g20 (fun M' f j18 j19 _ => ?_)
            exact k0 _ M' (Or.inl ⟨hlt, by rw [hs, if_neg (fun z => e z.2)]⟩) ((frA.tr f1.R).tr f) j18 j19
        · refine ⟨fun z => absurd z (by decide), fun _ => ?_⟩
          refine rs_108b g18 g20 (fun M' f j18 j19 _ => ?_)
          exact k0 _ M' (Or.inl ⟨hlt, by rw [hs, if_neg (fun z => by omega)]⟩) ((frA.tr f1.R).tr f) j18 j19
      · have g20 : M1 62 20 = nI K := by rw [f1.2.1 20 (by decide) (by decide)]; exact eA20
        unfold D5_readStatement_c86 D5_readStatement_c103
        rw [g19]
        refine ⟨fun _ => ?_, fun z => absurd z (by decide)⟩
        refine rs_108b g18 g20 (fun M' f j18 j19 _ => ?_)
        exact k0 _ M' (Or.inl ⟨hlt, stL_1 hd (ndg_some t1 (by omega) hb hgt)⟩) ((frA.tr f1.R).tr f) j18 j19
    unfold D5_isLetter
    have hne : ∀ n, ¬ nI (rwN l (posP l K)) = nI n → ¬ rwN l (posP l K) = n := fun n h => ch_ne h
    have yes : ∀ d, dgo (rwN l (posP l K)) = some d → ((1 : Int32) ≠ 0 → D5_readStatement_c47 Q (nI K) (nI (rwN l (posP l K))) 0 (up (up M 72 K (nI (posP l K))) 73 K (nI (rwN l (posP l K))))) ∧ ((1 : Int32) = 0 → D5_readStatement_c42 Q (nI K) (nI (rwN l (posP l K))) (up (up M 72 K (nI (posP l K))) 73 K (nI (rwN l (posP l K))))) := fun d hd => ⟨fun _ => good d hd, fun z => absurd z (by decide)⟩
    refine ⟨fun e => ?_, fun n1 => ⟨fun e => ?_, fun n2 => ⟨fun e => ?_, fun n3 => ⟨fun e => ?_, fun n4 => ⟨fun e => ?_, fun n5 => ⟨fun n6 => ?_, fun e => ?_⟩⟩⟩⟩⟩⟩
    · exact yes 4 (by rw [ch_eq (n := 119) (by omega) (by decide) e]; rfl)
    · exact yes 1 (by rw [ch_eq (n := 114) (by omega) (by decide) e]; rfl)
    · exact yes 1 (by rw [ch_eq (n := 102) (by omega) (by decide) e]; rfl)
    · exact yes 2 (by rw [ch_eq (n := 120) (by omega) (by decide) e]; rfl)
    · exact yes 0 (by rw [ch_eq (n := 112) (by omega) (by decide) e]; rfl)
    · refine ⟨fun z => absurd rfl z, fun _ => hbad ?_⟩
      unfold dgo
      rw [if_neg (hne 102 n3), if_neg (hne 104 n6), if_neg (hne 112 n5), if_neg (hne 114 n2), if_neg (hne 119 n1), if_neg (hne 120 n4)]
    · exact yes 2 (by rw [ch_eq (n := 104) (by omega) (by decide) e]; rfl)
  · refine ⟨i72, i73, ?_⟩
    rw [h18, w62, h19]
    refine ⟨fun z => absurd rfl z, fun _ => ?_⟩
    have b := bad (-1) (posP l K) (Or.inr ⟨hge, rfl⟩) rfl
    unfold D5_isLetter
    refine ⟨fun e => absurd e (by decide), fun _ => ⟨fun e => absurd e (by decide), fun _ => ⟨fun e => absurd e (by decide), fun _ => ⟨fun e => absurd e (by decide), fun _ => ⟨fun e => absurd e (by decide), fun _ => ⟨fun _ => ⟨fun z => absurd rfl z, fun _ => b⟩, fun e => absurd e (by decide)⟩⟩⟩⟩⟩⟩
/-- all is read -/
theorem p5_readAll {s : SG} {M0 : MM} {Q : Int32 → MM → Prop} (hR : RepM s M0)
    (k1 : lkT (sL s) = none → ∀ K M', K ≤ 48 → FrR M0 M' → M' 62 19 = nI 0 → M' 62 20 = nI K → TB_ (sL s) K M' → (sL s).length ≤ posP (sL s) K → (∀ k, k < K → posP (sL s) k < (sL s).length ∧ stL (sL s) (posP (sL s) k) = none) → D5_beach_c52 Q M')
    (k0 : ∀ q M', lkT (sL s) = some q → FrR M0 M' → M' 62 18 = nI q → M' 62 19 = nI 1 → D5_beach_c52 Q M') :
    ∀ (n K : Nat) (M : MM), 49 - K < n → 2 * K ≤ posP (sL s) K → posP (sL s) K ≤ (sL s).length → lkF (sL s) (49 - K) (posP (sL s) K) = lkF (sL s) 49 0 → FrR M0 M → M 62 18 = nI (posP (sL s) K) → M 62 19 = nI 0 → M 62 20 = nI K → TB_ (sL s) K M → (∀ k, k < K → posP (sL s) k < (sL s).length ∧ stL (sL s) (posP (sL s) k) = none) → D5_beach_c20 Q n M := by
  have hl := hR.2.2.2.2.1.2.1
  intro n
  induction n with
  | zero => intro K M h1; omega
  | succ n ih =>
    intro K M h1 h2 h3 he hf h18 h19 h20 hT hs
    have hL := hR.2.2.2.2.1.R hf
    have read : (K = 0 ∨ posP (sL s) K < (sL s).length) → D5_beach_c45 (D5_beach_c20 Q n) Q M := by
      intro hK0
      unfold D5_beach_c45
      refine p5_readStatement h3 (by omega) hL h18 h19 h20 hT (fun hlt hst M' f g18 g19 g20 hT' => ?_) (fun q M' hq f g18 g19 => ?_)
      · rw [show 49 - K = (48 - K) + 1 by omega, lkF_n (by omega) hst] at he
        obtain ⟨d, e1, e2, e3, e4⟩ := stL_none hst
        have hpos : posP (sL s) (K + 1) = posP (sL s) K + d + 2 := by
          show nxP (sL s) (posP (sL s) K) = _
          rw [nxP_d e1]
        refine ih (K + 1) M' (by omega) (by omega) (by omega) (by rw [show 49 - (K + 1) = 48 - K by omega]; exact he) (hf.tr f) g18 g19 g20 hT' (fun k hk => ?_)
        by_cases y : k = K
        · rw [y]; exact ⟨hlt, hst⟩
        · exact hs k (by omega)
      · obtain ⟨m, rfl⟩ : ∃ m, n = m + 1 := ⟨n - 1, by omega⟩
        unfold D5_beach_c20
        rw [g19]
        refine ⟨fun _ => k0 q M' ?_ (hf.tr f) g18 g19, fun z => absurd z (by decide)⟩
        rcases hq with ⟨hlt, hst⟩ | ⟨hge, e⟩
        · rw [show 49 - K = (48 - K) + 1 by omega, lkF_s (by omega) hst] at he
          unfold lkT
          rw [if_neg (by omega)]; exact he.symm
        · -- only an empty text begins at its end
          have hK0 : K = 0 := hK0.resolve_right (by omega)
          subst hK0
          unfold lkT
          have h0 : (sL s).length = 0 := by
            have : posP (sL s) 0 = 0 := rfl
            omega
          rw [if_pos h0, e]; rfl
    unfold D5_beach_c20
    refine ⟨fun z => absurd (by rw [h19]; rfl) z, fun _ => ⟨fun z => read (Or.inl ?_), fun z => ?_⟩⟩
    · rw [h20] at z
      exact ch_eq (n := 0) (by omega) (by decide) z
    · have hK : K ≠ 0 := fun e => z (by rw [h20, e]; rfl)
      rw [hL.1, h18, z_le (by omega) (by omega)]
      refine ⟨fun z2 => ?_, fun z2 => read (Or.inr (by omega))⟩
      rw [show 49 - K = (48 - K) + 1 by omega, lkF_e z2] at he
      have h0 : ¬ (sL s).length = 0 := by
        have := (hs 0 (by omega)).1
        omega
      refine k1 (by unfold lkT; rw [if_neg h0]; exact he.symm) K M (by omega) hf h19 h20 hT z2 hs
/-- beside what is thought, the table -/
def KX (s : SG) (B : BV) (M0 M : MM) : Prop := KM s B M0 M ∧ M 72 = M0 72 ∧ M 73 = M0 73 ∧ M 74 = M0 74 ∧ M 62 20 = M0 62 20
theorem FrH.kx {s : SG} {B B' : BV} {M0 M M' : MM} (f : FrH M M') (h : KX s B M0 M) (hR : RM B' M') : KX s B' M0 M' :=
  ⟨f.km h.1 hR, (f.1 72 (by decide) (by decide) (by decide) (by decide) (by decide)).trans h.2.1, (f.1 73 (by decide) (by decide) (by decide) (by decide) (by decide)).trans h.2.2.1, (f.1 74 (by decide) (by decide) (by decide) (by decide) (by decide)).trans h.2.2.2.1, (f.2 20 (by decide) (by decide) (by decide) (by decide) (by decide)).trans h.2.2.2.2⟩
theorem KX.set {s : SG} {B B' : BV} {M0 M : MM} {p j : Nat} {x : Int32} (h : KX s B M0 M) (h1 : 63 ≤ p) (h2 : p ≤ 67) (hR : RM B' (up M p j x)) : KX s B' M0 (up M p j x) :=
  ⟨h.1.set h1 h2 hR, (up_p (by omega)).trans h.2.1, (up_p (by omega)).trans h.2.2.1, (up_p (by omega)).trans h.2.2.2.1, by rw [up_p (by omega)]; exact h.2.2.2.2⟩
theorem p5_isStanding {B : BV} {w H : Nat} {M : MM} {Q : Int32 → MM → Prop} (hw : WF 10 H B) (hR : RM B M) (h : w < 2 ^ 20) (q : Q (b2 (bS B w)) M) : D5_isStanding (nI w) M Q := by
  have hn := hw.1
  unfold D5_isStanding
  refine p5_isWork hR.1 hn ?_
  rw [b2l_0, inN_nI (by omega)]
  refine ⟨fun e => ?_, fun e => ?_⟩
  · rw [st_no hw (by have := of_decide_eq_false e; omega)] at q; exact q
  · have hj := of_decide_eq_true (b_nf e)
    refine ⟨ib5 hw hj (by decide) (by decide), ?_⟩
    rw [z_ix (by omega), (hR.2.2.2.2 w hj).2.2.2.2, gn_n0, gn_e0]
    refine ⟨fun e => ?_, fun e => ?_⟩
    · rw [e] at q; exact q
    · rw [e] at q; exact q
theorem m_comes {s : SG} {l : List Nat} {B : BV} {p k d : Nat} {M0 M : MM} {Q : Int32 → MM → Prop} (hw : WF 8 999 B) (hD : DC B) (hk : KX s B M0 M) (hk49 : k < 49) (hd : dgo (rwN l p) = some d) (h73 : M 73 k = nI (rwN l p)) (hT : TRw l p M k) (k1 : ∀ B' M', appB B l p = some B' → KX s B' M0 M' → Q 1 M') (k0 : appB B l p = none → Q 0 M) : D5_comesTold (nI k) M Q := by
  have hn := hw.1
  have hh := hw.2.2.2.1
  have d1 := dvN_le l (p + 1)
  have d2 := dvN_le l (p + 2)
  have d3 := dvN_le l (p + 3)
  have d4 := dvN_le l (p + 4)
  have hor := dgo_or hd
  have b1 : bo (1 : Int32) := Or.inr rfl
  have b0 : bo (0 : Int32) := Or.inl rfl
  obtain ⟨t1, t2, t3, t4⟩ := hT
  have i0 : ib 74 (nI (3 * k)) := ibc ⟨by decide, rfl⟩ rfl (show 3 * k < 147 by omega) (by decide)
  have i1 : ib 74 (nI (3 * k + 1)) := ibc ⟨by decide, rfl⟩ rfl (show 3 * k + 1 < 147 by omega) (by decide)
  have i2 : ib 74 (nI (3 * k + 2)) := ibc ⟨by decide, rfl⟩ rfl (show 3 * k + 2 < 147 by omega) (by decide)
  have i73 : ib 73 (nI k) := ibc ⟨by decide, rfl⟩ rfl (show k < 49 by omega) (by decide)
  have hc : rwN l p < 2 ^ 31 := by rcases hor with h | h | h | h | h | h <;> omega
  have hne : ∀ n, n < 2 ^ 31 → rwN l p ≠ n → ¬ nI (rwN l p) = nI n := fun n hn h e => h (ch_eq hc hn e)
  unfold appB at k1 k0
  unfold D5_comesTold
  dsimp only
  rw [show (3 : Int32) * nI k = nI (3 * k) from pk_mul 3 k, show nI (3 * k) + 1 = nI (3 * k + 1) from nI_1 _, show nI (3 * k) + 2 = nI (3 * k + 2) from nI_add _ 2, z_ix (show 3 * k < 2 ^ 31 by omega), z_ix (show 3 * k + 1 < 2 ^ 31 by omega), z_ix (show 3 * k + 2 < 2 ^ 31 by omega), z_ix (show k < 2 ^ 31 by omega), h73]
  refine ⟨i0, i1, i2, i73, ?_⟩
  rcases hor with ⟨e, ed⟩ | ⟨e, ed⟩ | ⟨e, ed⟩ | ⟨e, ed⟩ | ⟨e, ed⟩ | ⟨e, ed⟩
  · -- f
    rw [if_pos e] at k0
    rw [if_pos e] at k1
    refine ⟨fun z => absurd z (hne 104 (by decide) (by omega)), fun _ => ⟨fun z => absurd z (hne 112 (by decide) (by omega)), fun _ => ⟨fun z => absurd z (hne 119 (by decide) (by omega)), fun _ => ?_⟩⟩⟩
    rw [t2 (by omega) (by omega)]
    refine p5_isStanding (WFm hw) hk.1.1 (by omega) ?_
    unfold D5_comesTold_c215
    rw [z_ix (show k < 2 ^ 31 by omega), h73, b2l_0]
    refine ⟨fun es => ⟨fun _ => ⟨b2_bo _, by rw [es]; exact k0 (if_neg (by rw [es]; decide))⟩, fun z => absurd es z⟩, fun es => ?_⟩
    have es := b_nf es
    refine ⟨i73, fun _ => ⟨fun z => absurd (by rw [es] at z; exact z) (by decide), fun _ => ⟨i73, fun z => absurd (by rw [e]; rfl) z, fun _ => ⟨ib5 (WFm hw) (hw.2.2.1 _ es) (by decide) (by decide), b2_bo _, ?_⟩⟩⟩, fun z => absurd z (hne 114 (by decide) (by omega))⟩
    rw [z_ix (show dvN l (p + 1) < 2 ^ 31 by omega), es]
    exact k1 _ _ (if_pos es) (hk.set (by decide) (by decide) hk.1.1.wear)
  · -- h
    rw [if_neg (by omega), if_pos e] at k0
    rw [if_neg (show ¬ rwN l p = 102 by omega), if_pos e] at k1
    refine ⟨fun _ => ?_, fun z => absurd (by rw [e]; rfl) z⟩
    rw [t1 e]
    refine p5_in ?_
    rw [Int32.toInt_toInt64, i_n (by omega), show (1 : Int64).toInt = 1 from by decide, show (60 : Int64).toInt = 60 from by decide, b2l_0]
    have no : ¬ (1 ≤ 10 * dvN l (p + 1) + dvN l (p + 2) ∧ 10 * dvN l (p + 1) + dvN l (p + 2) ≤ 60 ∧ bH B + (10 * dvN l (p + 1) + dvN l (p + 2)) ≤ 999) → D5_comesTold_c166 Q (nI (10 * dvN l (p + 1) + dvN l (p + 2))) M := fun z => ⟨fun _ => ⟨b0, k0 (if_neg z)⟩, fun z2 => absurd rfl z2⟩
    refine ⟨fun z => no (fun y => by have := of_decide_eq_false z; omega), fun z => ?_⟩
    have z := of_decide_eq_true (b_nf z)
    rw [hk.1.1.2.2.2.1, nI_add, show (999 : Int32) = nI 999 from rfl, z_lt (by decide) (by omega)]
    refine ⟨fun z2 => no (fun y => by omega), fun z2 => ⟨fun z3 => absurd z3 (by decide), fun _ => ?_⟩⟩
    refine p5_goHours (H := 999) (WFm hw) (by omega) (by omega) hk.1.2.2.2 hk.1.1 (fun M' r' f' => ⟨b1, ?_⟩)
    exact k1 _ M' (if_pos (by omega)) (f'.kx hk r')
  · -- p
    rw [if_neg (by omega), if_neg (by omega), if_pos e] at k0
    rw [if_neg (show ¬ rwN l p = 102 by omega), if_neg (show ¬ rwN l p = 104 by omega), if_pos e] at k1
    refine ⟨fun z => absurd z (hne 104 (by decide) (by omega)), fun _ => ⟨fun _ => ?_, fun z => absurd (by rw [e]; rfl) z⟩⟩
    refine p5_payAll hk.1.1 hw.2.2.2.2.1 hw.2.2.2.2.2 (fun M' r' f' => ?_)
    have fr := FrM.of67 f'
    refine k1 _ M' rfl ⟨⟨r', hk.1.2.1.cong (funext fun j => f' 75 j (fun e => by omega)), hk.1.2.2.1.tr fr, fr.2.1.trans hk.1.2.2.2⟩, (funext fun j => f' 72 j (fun e => by omega)).trans hk.2.1, (funext fun j => f' 73 j (fun e => by omega)).trans hk.2.2.1, (funext fun j => f' 74 j (fun e => by omega)).trans hk.2.2.2.1, (f' 62 20 (fun _ => by decide)).trans hk.2.2.2.2⟩
  · -- r
    rw [if_neg (by omega), if_neg (by omega), if_neg (by omega), if_pos e] at k0
    rw [if_neg (show ¬ rwN l p = 102 by omega), if_neg (show ¬ rwN l p = 104 by omega), if_neg (show ¬ rwN l p = 112 by omega), if_pos e] at k1
    refine ⟨fun z => absurd z (hne 104 (by decide) (by omega)), fun _ => ⟨fun z => absurd z (hne 112 (by decide) (by omega)), fun _ => ⟨fun z => absurd z (hne 119 (by decide) (by omega)), fun _ => ?_⟩⟩⟩
    rw [t2 (by omega) (by omega)]
    refine p5_isStanding (WFm hw) hk.1.1 (by omega) ?_
    unfold D5_comesTold_c215
    rw [z_ix (show k < 2 ^ 31 by omega), h73, b2l_0]
    refine ⟨fun es => ⟨fun _ => ⟨b2_bo _, by rw [es]; exact k0 (if_neg (by rw [es]; decide))⟩, fun z => absurd es z⟩, fun es => ?_⟩
    have es := b_nf es
    refine ⟨i73, fun z => absurd (by rw [e]; rfl) z, fun _ => ⟨ib5 (WFm hw) (hw.2.2.1 _ es) (by decide) (by decide), b2_bo _, ?_⟩⟩
    rw [z_ix (show dvN l (p + 1) < 2 ^ 31 by omega), es]
    exact k1 _ _ (if_pos es) (hk.set (by decide) (by decide) hk.1.1.lose)
  · -- w
    rw [if_neg (by omega), if_neg (by omega), if_neg (by omega), if_neg (by omega), if_pos e] at k0
    rw [if_neg (show ¬ rwN l p = 102 by omega), if_neg (show ¬ rwN l p = 104 by omega), if_neg (show ¬ rwN l p = 112 by omega), if_neg (show ¬ rwN l p = 114 by omega), if_pos e] at k1
    refine ⟨fun z => absurd z (hne 104 (by decide) (by omega)), fun _ => ⟨fun z => absurd z (hne 112 (by decide) (by omega)), fun _ => ⟨fun _ => ?_, fun z => absurd (by rw [e]; rfl) z⟩⟩⟩
    rw [t2 (by omega) (by omega), t3 (Or.inl e), t4 e]
    have no : ¬ (dvN l (p + 1) < 6 ∧ 10 * dvN l (p + 3) + dvN l (p + 4) < 25 ∧ bN B < 8 ∧ woV B (10 * dvN l (p + 3) + dvN l (p + 4)) < 0) → D5_comesTold_c112 Q (nI (dvN l (p + 1))) (nI (dvN l (p + 2))) (nI (10 * dvN l (p + 3) + dvN l (p + 4))) M := fun z => ⟨fun _ => ⟨b0, k0 (if_neg z)⟩, fun z2 => absurd rfl z2⟩
    rw [show (6 : Int32) = nI 6 from rfl, z_le (by decide) (by omega)]
    refine ⟨fun z => no (fun y => by omega), fun z => ?_⟩
    refine p5_isCell ?_
    rw [b2l_0, inN_nI (by omega)]
    refine ⟨fun z2 => no (fun y => by have := of_decide_eq_false z2; omega), fun z2 => ?_⟩
    have z2 := of_decide_eq_true (b_nf z2)
    rw [hk.1.1.1, show (8 : Int32) = nI 8 from rfl, z_le (by decide) (by omega)]
    refine ⟨fun z3 => no (fun y => by omega), fun z3 => ?_⟩
    refine p5_workAt (WFm hw) hD hk.1.1 z2 ⟨fun z4 => no (fun y => ?_), fun z4 => ⟨fun z5 => absurd z5 (by decide), fun _ => ?_⟩⟩
    · have y4 := y.2.2.2
      rw [i_lt, show (0 : Int32).toInt = 0 from by decide] at y4
      rw [i_le, show (0 : Int32).toInt = 0 from by decide] at z4
      omega
    · have y4 : woV B (10 * dvN l (p + 3) + dvN l (p + 4)) < 0 := by
        rw [i_lt, show (0 : Int32).toInt = 0 from by decide]
        rw [i_le, show (0 : Int32).toInt = 0 from by decide] at z4
        omega
      refine p5_workComes hk.1.1 (by omega) (fun M' r' f' => ⟨b1, ?_⟩)
      have fr := FrM.ofB f'
      exact k1 _ M' (if_pos ⟨by omega, z2, by omega, y4⟩) ⟨⟨r', hk.1.2.1.cong (funext fun j => f' 75 j (fun e => by omega) (by decide)), hk.1.2.2.1.tr fr, fr.2.1.trans hk.1.2.2.2⟩, (funext fun j => f' 72 j (fun e => by omega) (by decide)).trans hk.2.1, (funext fun j => f' 73 j (fun e => by omega) (by decide)).trans hk.2.2.1, (funext fun j => f' 74 j (fun e => by omega) (by decide)).trans hk.2.2.2.1, (f' 62 20 (fun _ => by decide) (by decide)).trans hk.2.2.2.2⟩
  · -- x
    rw [if_neg (by omega), if_neg (by omega), if_neg (by omega), if_neg (by omega), if_neg (by omega), if_pos e] at k0
    rw [if_neg (show ¬ rwN l p = 102 by omega), if_neg (show ¬ rwN l p = 104 by omega), if_neg (show ¬ rwN l p = 112 by omega), if_neg (show ¬ rwN l p = 114 by omega), if_neg (show ¬ rwN l p = 119 by omega), if_pos e] at k1
    refine ⟨fun z => absurd z (hne 104 (by decide) (by omega)), fun _ => ⟨fun z => absurd z (hne 112 (by decide) (by omega)), fun _ => ⟨fun z => absurd z (hne 119 (by decide) (by omega)), fun _ => ?_⟩⟩⟩
    rw [t2 (by omega) (by omega), t3 (Or.inr e)]
    refine p5_isStanding (WFm hw) hk.1.1 (by omega) ?_
    unfold D5_comesTold_c215
    rw [z_ix (show k < 2 ^ 31 by omega), h73, b2l_0]
    refine ⟨fun es => ⟨fun _ => ⟨b2_bo _, by rw [es]; exact k0 (if_neg (by rw [es]; decide))⟩, fun z => absurd es z⟩, fun es => ?_⟩
    have es := b_nf es
    refine ⟨i73, fun _ => ⟨fun z => absurd (by rw [es] at z; exact z) (by decide), fun _ => ⟨i73, fun _ => ⟨ib5 (WFm hw) (hw.2.2.1 _ es) (by decide) (by decide), b2_bo _, ?_⟩, fun z => absurd z (hne 102 (by decide) (by omega))⟩⟩, fun z => absurd z (hne 114 (by decide) (by omega))⟩
    rw [z_ix (show dvN l (p + 1) < 2 ^ 31 by omega), es]
    exact k1 _ _ (if_pos es) (hk.set (by decide) (by decide) hk.1.1.wear)
/-- forgotten -/
theorem RepM.forget {s : SG} {M : MM} (h : RepM s M) : RepM (clL s) (up M 62 17 (nI 0)) := by
  obtain ⟨r1, r2, r3, r4, r5, r6, r7, r8⟩ := h
  have hf : ∀ p, p ≠ 62 → up M 62 17 (nI 0) p = M p := fun p a => up_p a
  exact ⟨r1.slot (by decide), r2, r3.cong (up_k (by decide)) (hf 76 (by decide)), r4.cong (up_k (by decide)) (hf 77 (by decide)), LtM.nil up_s, r6.cong (up_k (by decide)) (hf 81 (by decide)), r7.cong (hf 68 (by decide)), (up_k (by decide)).trans r8⟩
theorem m_beach_loop {s : SG} {K : Nat} {M0 : MM} {Q : Int32 → MM → Prop} (hR : RepM (clL s) M0) (hK : K ≤ 48) (h20 : M0 62 20 = nI K) (hT : TB_ (sL s) K M0) (hend : (sL s).length ≤ posP (sL s) K) (hs : ∀ k, k < K → posP (sL s) k < (sL s).length ∧ stL (sL s) (posP (sL s) k) = none)
    (q : ∀ M', RepM (bhR s (apF (sL s) 49 0 (sB s) 0)).2 M' → Lo M0 M' → Q (bhR s (apF (sL s) 49 0 (sB s) 0)).1 M') :
    ∀ (n k : Nat) (B : BV) (M : MM), k ≤ K → K - k < n → apF (sL s) (49 - k) (posP (sL s) k) B k = apF (sL s) 49 0 (sB s) 0 → WF 8 999 B → DC B → KX (clL s) B M0 M → D5_beach_c79 Q n (nI k) M := by
  intro n
  induction n with
  | zero => intro k B M h1 h2; omega
  | succ n ih =>
    intro k B M h1 h2 hap hw hD hk
    unfold D5_beach_c79
    rw [hk.2.2.2.2, h20, z_le (by omega) (by omega)]
    rw [show 49 - k = (48 - k) + 1 by omega] at hap
    refine ⟨fun z => ?_, fun z => ?_⟩
    · have e : k = K := by omega
      subst e
      rw [apF_e hend] at hap
      rw [← hap] at q
      have r1 : RepM (wB (clL s) B) M := hR.beach hk.1.2.2.1 hk.1.1 hw
      have r2 := r1.no
      dsimp only
      rw [up_k (show (20 : Nat) ≠ 32 by decide), hk.2.2.2.2, h20]
      exact q _ r2 (hk.1.2.2.1.1.tr (fun p hp => up_p (by omega)))
    · have hkK : k < K := by omega
      obtain ⟨p1, p2⟩ := hs k hkK
      obtain ⟨t1, t2, t3⟩ := hT k hkK
      obtain ⟨d, e1, e2, e3, e4⟩ := stL_none p2
      refine m_comes hw hD hk (by omega) e1 (by rw [hk.2.2.1]; exact t2) (t3.cong (fun j _ _ => by rw [hk.2.2.2.1])) (fun B' M' ha k' => ?_) (fun ha => ?_)
      · rw [apF_s (by omega) ha] at hap
        refine ⟨fun _ => ?_, fun z2 => absurd z2 (by decide)⟩
        rw [nI_1]
        obtain ⟨hw', hD'⟩ := appB_ok hw hD ha
        exact ih (k + 1) B' M' (by omega) (by omega) (by rw [show 49 - (k + 1) = 48 - k by omega]; exact hap) hw' hD' k'
      · rw [apF_n (by omega) ha] at hap
        rw [← hap] at q
        refine ⟨fun z2 => absurd rfl z2, fun _ => ?_⟩
        unfold D5_beach_c95
        refine p5_again (H := 999) (B := sB (clL s)) hR.2.1 hk.1.2.1 (fun M' r' t' f' => ⟨ibc ⟨by decide, rfl⟩ rfl (show k < 49 by omega) (by decide), ?_⟩)
        rw [z_ix (by omega), f' 72 k (by decide) (fun e => by omega) (by decide), hk.2.1, t1]
        exact q M' (hR.mind (hk.1.2.2.1.tr (FrT75.M f')) r') (hk.1.2.2.1.1.tr (FrT75.M f').1)
theorem m_beach {s : SG} {M : MM} {Q : Int32 → MM → Prop} (hD : DC (sB s)) (hR : RepM s M) (q : ∀ M', RepM (beachS s).2 M' → Lo M M' → Q (beachS s).1 M') : D5_beach M Q := by
  unfold D5_beach
  have hR1 := hR.thrown (x := 0)
  have hL : Lo M (up M 62 9 0) := fun p hp => up_p (by omega)
  dsimp only
  generalize up M 62 9 0 = M1 at hR1 hL
  have fr : FrR M1 (up (up (up M1 62 18 0) 62 19 0) 62 20 0) := ((FrR.sl (by decide)).tr (FrR.sl (by decide))).tr (FrR.sl (by decide))
  unfold beachS at q
  refine p5_readAll (M0 := M1) hR1 (fun e K M' hK f h19 h20 hT hend hs => ?_) (fun r M' e f h18 h19 => ?_) FU 0 _ (by decide) (Nat.zero_le _) (Nat.zero_le _) rfl fr (by rw [up_k (by decide), up_k (by decide), up_s]; rfl) (by rw [up_k (by decide), up_s]; rfl) (by rw [up_s]; rfl) (fun k h => by omega) (fun k h => by omega)
  · rw [e] at q
    unfold D5_beach_c52
    have r1 : RepM (clL s) (up M' 62 17 (nI 0)) := (hR1.R f).forget
    have hLo : Lo M (up M' 62 17 (nI 0)) := (hL.tr f.M.1).tr (fun p hp => up_p (by omega))
    have e19 : up M' 62 17 (nI 0) 62 19 = nI 0 := by rw [up_k (by decide)]; exact h19
    have e20 : up M' 62 17 (nI 0) 62 20 = nI K := by rw [up_k (by decide)]; exact h20
    have eT : TB_ (sL s) K (up M' 62 17 (nI 0)) := hT.cong (up_p (by decide)) (up_p (by decide)) (up_p (by decide))
    show (up M' 62 17 (nI 0) 62 19 = 0 → D5_think (up M' 62 17 (nI 0)) _) ∧ (¬ up M' 62 17 (nI 0) 62 19 = 0 → _)
    rw [e19]
    refine ⟨fun _ => ?_, fun z => absurd rfl z⟩
    refine p5_think (B := sB (clL s)) r1.2.1 r1.1 (fun M2 r2 t2 f2 => ?_)
    have g2 := FrT75.M f2
    refine m_beach_loop r1 hK e20 eT hend hs (fun M3 r3 l3 => q M3 r3 (hLo.tr l3)) FU 0 (sB s) M2 (Nat.zero_le _) (Nat.lt_of_le_of_lt (Nat.le_trans (Nat.sub_le _ _) hK) (by decide)) rfl r1.2.1 hD ⟨⟨r2, t2, g2, g2.2.1.trans r1.2.2.2.2.2.2.2⟩, funext fun j => f2 72 j (by decide) (fun e => by omega) (by decide), funext fun j => f2 73 j (by decide) (fun e => by omega) (by decide), funext fun j => f2 74 j (by decide) (fun e => by omega) (by decide), f2 62 20 (by decide) (fun _ => by decide) (by decide)⟩
  · rw [e] at q
    unfold D5_beach_c52
    have e19 : up M' 62 17 (nI 0) 62 19 = nI 1 := by rw [up_k (by decide)]; exact h19
    have e18 : up M' 62 17 (nI 0) 62 18 = nI r := by rw [up_k (by decide)]; exact h18
    show (up M' 62 17 (nI 0) 62 19 = 0 → _) ∧ (¬ up M' 62 17 (nI 0) 62 19 = 0 → Q ((-1000 : Int32) - up M' 62 17 (nI 0) 62 18) (up M' 62 17 (nI 0)))
    rw [e19, e18]
    refine ⟨fun z => absurd z (by decide), fun _ => ?_⟩
    exact q _ (hR1.R f).forget ((hL.tr f.M.1).tr (fun p hp => up_p (by omega)))
