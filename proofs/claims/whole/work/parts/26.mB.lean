theorem p_X8_isGrammarSign {B : zB} {K : Int → zM → Prop} {M : zM} {p1 : Int} (k : K (if isGs p1 = true then 1 else 0) M) : zCi B zy_X8_isGrammarSign 2 0 0 [zI p1] M K := by
  refine e_X8_isGrammarSign (fun n0 => b_X8_isGrammarSign_0 ?_)
  rw [zifc (Q := isGs p1 = true) isGs_iff.symm]
  exact k
theorem p_X0_mayBeEmpty {B : zB} {K : Int → zM → Prop} {M : zM} {p1 : Int} {g : zG} (hx : RX M g) (hw : WG g) (hp : 0 ≤ p1 ∧ p1 < gN g) (k : K (if gV g (eX M) p1.toNat = true then 1 else 0) M) : zCi B zy_X0_mayBeEmpty 2 0 0 [zR 8, zI p1] M K := by
  refine e_X0_mayBeEmpty (fun n0 => ?_)
  have hb := nm_bd (gI g p1.toNat)
  apply b_X0_mayBeEmpty_0 (g := g)
  case k1 =>
    rw [zifc (Q := gV g (eX M) p1.toNat = true) (by
      unfold gV eX
      simp only [Bool.or_eq_true, Bool.and_eq_true, decide_eq_true_eq, nm_lt]
      constructor
      · rintro ((h | h) | h)
        · exact Or.inl (Or.inr h)
        · exact Or.inl (Or.inl h)
        · exact Or.inr h
      · rintro ((h | h) | h)
        · exact Or.inl (Or.inr h)
        · exact Or.inl (Or.inl h)
        · exact Or.inr h)]
    exact k
  all_goals first | assumption | (intros; omega)
theorem chS_at {s : List Int} {l : Int} (h : 0 < l ∧ l ≤ s.length) : chS s l.toNat = s.getD ((s.length : Int) - l).toNat 0 := by
  unfold chS
  rw [if_neg (by omega), if_pos (by omega)]
  congr 1
  omega
theorem chS_hi {s : List Int} {l : Nat} (h : s.length < l) : chS s l = -1 := by
  unfold chS
  rw [if_neg (by omega), if_neg (by omega)]
theorem p_X3_more {B : zB} {K : Int → zM → Prop} {M : zM} {p1 p2 p3 : Int} {g : zG} {E : tE} {s : List Int} (hx : RX M g) (hw : WG g) (hE : eT M = E) (hs : mS M s) (ho : okS s) (hp : 0 ≤ p1 ∧ p1 < gN g) (hl : 0 ≤ p3 ∧ p3 ≤ 32) (k : K (mor E g (chS s) p1.toNat p2 p3) M) : zCi B zy_X3_more 2 0 0 [zR 19, zI p1, zI p2, zI p3] M K := by
  have hb := nm_bd (gI g p1.toNat)
  have h3 := (hw.sg hp).1
  have e2 := hs.1
  have hol := ho.1
  rw [isTx_iff, isNm_iff] at h3
  have e : (if 6 ≤ (nm (gI g p1.toNat)) then (if p3 ≤ 0 then -1 else (if (gi M 19 2) < p3 then -1 else (if (gi M 20 ((gi M 19 2) - p3).toNat) = (gI g p1.toNat) then p3 - 1 else -1))) else gi M 21 ((nm (gI g p1.toNat)) * 33 + p3).toNat) = onc E g (chS s) p1.toNat p3 := by
    unfold onc
    by_cases hn : 6 ≤ nm (gI g p1.toNat)
    · have hnn : ¬ nm (gI g p1.toNat) < 6 := by omega
      rw [if_pos hn, if_neg hnn]
      by_cases h0 : p3 ≤ 0
      · have e0 : chS s p3.toNat = -1 := by rw [show p3.toNat = 0 from by omega]; rfl
        rw [if_pos h0, e0, if_neg (by omega)]
      · rw [if_neg h0]
        by_cases h1 : gi M 19 2 < p3
        · rw [if_pos h1, chS_hi (by omega), if_neg (by omega)]
        · rw [if_neg h1, chS_at (by omega), e2, hs.2.get (by omega)]
    · rw [if_neg hn, if_pos (by omega), ← hE, cell_nat hb.1 hl.1]
      rfl
  have hm : mor E g (chS s) p1.toNat p2 p3 = if 0 < p2 ∧ ¬ (gS g p1.toNat = 42 ∨ gS g p1.toNat = 43) then -1 else if (0 < p2 ∨ gS g p1.toNat = 42) ∧ onc E g (chS s) p1.toNat p3 = p3 then -1 else onc E g (chS s) p1.toNat p3 := rfl
  have fin : ∀ y : Int, (p2 ≤ 0 ∨ (gS g p1.toNat = 42 ∨ gS g p1.toNat = 43)) → y = onc E g (chS s) p1.toNat p3 → K (if 0 < p2 ∨ gS g p1.toNat = 42 then (if y = p3 then -1 else y) else y) M := fun y hy ey => by
    subst ey
    rw [hm, if_neg (fun q => by rcases hy with h | h; · omega
                                · exact q.2 h)] at k
    by_cases h2 : 0 < p2 ∨ gS g p1.toNat = 42
    · rw [if_pos h2]
      by_cases h4 : onc E g (chS s) p1.toNat p3 = p3
      · rw [if_pos ⟨h2, h4⟩] at k; rw [if_pos h4]; exact k
      · rw [if_neg (fun q => h4 q.2)] at k; rw [if_neg h4]; exact k
    · rw [if_neg h2]
      rw [if_neg (fun q => h2 q.1)] at k
      exact k
  refine e_X3_more (fun n0 => ?_)
  apply b_X3_more_0 (g := g)
  case k1 => intro h1 y ey; exact fin y (Or.inl h1) (ey.trans e)
  case k2 => intro h1 h2 y ey; exact fin y (Or.inr h2) (ey.trans e)
  case k3 => intro h1 h2; rw [hm, if_pos ⟨h1, h2⟩] at k; exact k
  all_goals first | assumption | (intros; omega)
theorem p_X3_nodesOf {B : zB} {K : Int → zM → Prop} {M : zM} {p1 p2 : Int} {g : zG} {b : tE} (hx : RX M g) (hw : WG g) (hb : bT M = b) (hB : BB b) (hp : 0 ≤ p1 ∧ p1 < gN g) (hl : 0 ≤ p2 ∧ p2 ≤ 32) (k : K (nofk b g p1.toNat p2) M) : zCi B zy_X3_nodesOf 2 0 0 [zR 19, zI p1, zI p2] M K := by
  have hn := nm_bd (gI g p1.toNat)
  have e : nm (gI g p1.toNat) < 6 → gi M 22 ((nm (gI g p1.toNat)) * 33 + p2).toNat = b (nm (gI g p1.toNat)).toNat p2.toNat := fun h => by
    rw [← hb, cell_nat hn.1 hl.1]
    rfl
  have hb2 := hB (nm (gI g p1.toNat)).toNat p2.toNat
  refine e_X3_nodesOf (fun n0 => ?_)
  apply b_X3_nodesOf_0 (g := g)
  case k1 =>
    intro h
    unfold nofk at k
    have hnn : ¬ nm (gI g p1.toNat) < 6 := by omega
    rw [if_neg hnn] at k
    by_cases h0 : gS g p1.toNat = 0
    · rw [if_pos h0] at k; rw [if_neg (fun q => q h0)]; exact k
    · rw [if_neg h0] at k; rw [if_pos h0]; exact k
  case k2 => intro h; unfold nofk at k; rw [if_pos h] at k; rw [e h]; exact k
  all_goals first | assumption | (intro h; rw [e h]; omega) | (intros; omega)
theorem p_X3_alternativeOf {B : zB} {K : Int → zM → Prop} {M : zM} {p1 p2 : Int} (hp : 0 ≤ p1 ∧ p1 < 6) (hl : 0 ≤ p2 ∧ p2 ≤ 32) (k : K (aT M p1.toNat p2.toNat) M) : zCi B zy_X3_alternativeOf 2 0 0 [zR 19, zI p1, zI p2] M K := by
  refine e_X3_alternativeOf (fun n0 => ?_)
  apply b_X3_alternativeOf_0
  case k1 => rw [cell_nat hp.1 hl.1]; exact k
  all_goals omega
theorem m_X3_forget {B : zB} {K : zM → Prop} {M : zM} (k : K (si M 19 3 0)) : zCv B zy_X3_forget 1 0 0 [zR 19] M K := e_X3_forget (fun _ => b_X3_forget_0 k)
theorem l_X3_sameAtEnd {B : zB} {n0 : Nat} {K : Int → zM → Prop} {M : zM} {t : Nat} (ht : zTx t) {s0 s : List Int} (hs0 : mS M s0) (ho0 : okS s0) (hs : tT M t s) (ho : okS s) (k : ∀ v : Int, 0 ≤ v → v ≤ s0.length → v ≤ s.length → (∀ l : Nat, (l : Int) ≤ v → chS s l = chS s0 l) → K v M) : ∀ (n : Nat) (v2 : Int), 0 ≤ v2 → v2 ≤ s0.length → v2 ≤ s.length → s0.length ≤ v2.toNat + n → (∀ l : Nat, (l : Int) ≤ v2 → chS s l = chS s0 l) →
    zGi B zy_X3_sameAtEnd 1 0 0 n0 K 2 [some (zR 19), some (zR t), some (zI v2)] [] M 0 0 := by
  intro n
  have e := hs.1
  have e0 := hs0.1
  have hl0 := ho0.1
  have hl := ho.1
  induction n with
  | zero =>
    intro v2 h0 h1 h2 hn hch
    apply b_X3_sameAtEnd_2 ht
    case k1 => intro _; exact k v2 h0 h1 h2 hch
    all_goals (intros; omega)
  | succ n ih =>
    intro v2 h0 h1 h2 hn hch
    apply b_X3_sameAtEnd_2 ht
    case k1 => intro _; exact k v2 h0 h1 h2 hch
    case k2 => intro _ _; exact k v2 h0 h1 h2 hch
    case k3 => intro _ _ _; exact k v2 h0 h1 h2 hch
    case k4 =>
      intro h3 h4 h5
      refine ih (v2 + 1) (by omega) (by omega) (by omega) (by omega) (fun l hl => ?_)
      by_cases h6 : (l : Int) ≤ v2
      · exact hch l h6
      · have e1 := chS_at (s := s) (l := v2 + 1) (by omega)
        have e2 := chS_at (s := s0) (l := v2 + 1) (by omega)
        have e3 : l = (v2 + 1).toNat := by omega
        rw [hs0.2.get (by omega), hs.2.get (by omega), e, e0] at h5
        rw [e3, e1, e2, show (s.length : Int) - (v2 + 1) = (s.length : Int) - 1 - v2 from by omega, show (s0.length : Int) - (v2 + 1) = (s0.length : Int) - 1 - v2 from by omega, h5]
    all_goals (intros; omega)
theorem m_X3_sameAtEnd {B : zB} {K : Int → zM → Prop} {M : zM} {t : Nat} (ht : zTx t) {s0 s : List Int} (hs0 : mS M s0) (ho0 : okS s0) (hs : tT M t s) (ho : okS s) (k : ∀ v : Int, 0 ≤ v → v ≤ s0.length → v ≤ s.length → (∀ l : Nat, (l : Int) ≤ v → chS s l = chS s0 l) → K v M) : zCi B zy_X3_sameAtEnd 1 0 0 [zR 19, zR t] M K :=
  e_X3_sameAtEnd (fun _ => b_X3_sameAtEnd_0 ht (l_X3_sameAtEnd ht hs0 ho0 hs ho k s0.length 0 (by omega) (by omega) (by omega) (by omega) (fun l hl => by
    have : l = 0 := by omega
    subst this
    rfl)))
