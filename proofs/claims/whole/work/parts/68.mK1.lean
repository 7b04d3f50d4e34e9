/-! ===== cutting: the class ===== -/
/-- the class's cells while it cuts -/
def RC (M : zM) (C : CS) : Prop := (gi M 8 8 = gN C.2.1 ∧ gi M 8 10 = gA C.2.1 ∧ gi M 8 2 = C.2.2.1 ∧ (0 < C.2.2.1 → gi M 8 1 = C.2.2.2.1) ∧ (1 ≤ C.1 → gi M 8 13 = C.2.2.2.2)) ∧
  (∀ j : Nat, (j : Int) < gN C.2.1 → gi M 10 j = gI C.2.1 j ∧ gi M 11 j = (if gS C.2.1 j = 0 then 32 else gS C.2.1 j) ∧ gi M 12 j = nm (gI C.2.1 j)) ∧ (∀ j : Nat, (j : Int) < gA C.2.1 → gi M 13 j = gF C.2.1 j) ∧
  ∀ r : Nat, r < 6 → gi M 16 r = (if gR C.2.1 r < 0 then 0 else 1) ∧ (0 ≤ gR C.2.1 r → gi M 14 r = gR C.2.1 r ∧ (clo C r → gi M 15 r = gE C.2.1 r))
section K1
variable {B : zB} {K : Int → zM → Prop} {Kv : zM → Prop} {M : zM}
theorem m_X0_forget (k : ∀ M', zSm [8, 16, 17, 18] M M' → gi M' 8 2 = 0 → gi M' 8 4 = 0 → gi M' 8 8 = 0 → gi M' 8 10 = 0 → (∀ r : Nat, r < 6 → gi M' 16 r = 0 ∧ gi M' 17 r = 0 ∧ gi M' 18 r = 0) → Kv M') : zCv B zy_X0_forget 1 0 0 [zR 8] M Kv := by
  have L : ∀ (d i : Nat) (n0 : Nat) (M1 : zM), i + d = 6 → zSm [8, 16, 17, 18] M M1 → gi M1 8 2 = 0 → gi M1 8 4 = 0 → gi M1 8 8 = 0 → gi M1 8 10 = 0 → (∀ r : Nat, r < i → gi M1 16 r = 0 ∧ gi M1 17 r = 0 ∧ gi M1 18 r = 0) → zGv B zy_X0_forget 1 0 0 n0 Kv 22 [some (zR 8), some (zI (i : Int))] [] M1 0 0 := by
    intro d
    induction d with
    | zero =>
      intro i n0 M1 hi f a b c d h
      apply b_X0_forget_22
      case k1 => exact fun _ => k M1 f a b c d (fun r hr => h r (by omega))
      all_goals (intros; omega)
    | succ d ih =>
      intro i n0 M1 hi f a b c e h
      apply b_X0_forget_22
      case k2 =>
        intro q
        refine ih (i + 1) n0 _ (by omega) (((f.st (by decide)).st (by decide)).st (by decide)) (by simp [gi_si, a]) (by simp [gi_si, b]) (by simp [gi_si, c]) (by simp [gi_si, e]) (fun r hr => ?_)
        have ei : ((i : Int)).toNat = i := rfl
        simp only [ei, gi_si]
        by_cases hq : r = i
        · simp [hq]
        · have := h r (by omega)
          simp [hq, this]
      all_goals (intros; omega)
  refine e_X0_forget (fun n0 => ?_)
  apply b_X0_forget_0
  exact L 6 0 n0 _ rfl ((((zSm.rf.st (by decide)).st (by decide)).st (by decide)).st (by decide)) (by simp [gi_si]) (by simp [gi_si]) (by simp [gi_si]) (by simp [gi_si]) (fun r hr => by omega)
theorem m_X0_addAlternative (h : 0 ≤ gi M 8 10 ∧ gi M 8 10 < 60) (k : Kv (si (si M 13 (gi M 8 10).toNat (gi M 8 8)) 8 10 ((gi M 8 10) + 1))) : zCv B zy_X0_addAlternative 1 0 0 [zR 8] M Kv := by
  refine e_X0_addAlternative (fun n0 => ?_)
  apply b_X0_addAlternative_0
  case k2 => exact fun _ => k
  all_goals (intros; omega)
theorem m_X0_addsItem {c : Int} (h : 0 ≤ gi M 8 8 ∧ gi M 8 8 < 60) (hc : 0 ≤ c ∧ c < 65536) (k : K 1 (si (si (si (si M 10 (gi M 8 8).toNat c) 11 (gi M 8 8).toNat 32) 12 (gi M 8 8).toNat (nm c)) 8 8 ((gi M 8 8) + 1))) : zCi B zy_X0_addsItem 2 0 0 [zR 8, zI c] M K := by
  refine e_X0_addsItem (fun n0 => ?_)
  apply b_X0_addsItem_0
  case k1 => exact fun _ => k
  all_goals (intros; omega)
theorem m_X0_opens {c : Int} (h : 0 ≤ gi M 8 10 ∧ gi M 8 10 < 60) (h2 : 0 ≤ gi M 8 2 ∧ gi M 8 2 ≤ 6)
    (k0 : ¬ (isNm c = true ∧ gi M 16 (c - 65).toNat = 0) → K 0 M)
    (k1 : isNm c = true → gi M 16 (c - 65).toNat = 0 → ∀ M', zSm [8, 13, 14, 16] M M' → gi M' 8 8 = gi M 8 8 → gi M' 8 10 = gi M 8 10 + 1 → gi M' 8 2 = gi M 8 2 + 1 → gi M' 8 1 = (if gi M 8 2 = 0 then c - 65 else gi M 8 1) → gi M' 8 13 = c - 65 → gi M' 8 4 = gi M 8 4 → gi M' 8 0 = gi M 8 0 →
      (∀ j, gi M' 13 j = if j = (gi M 8 10).toNat then gi M 8 8 else gi M 13 j) → (∀ j, gi M' 14 j = if j = (c - 65).toNat then gi M 8 10 else gi M 14 j) → (∀ j, gi M' 16 j = if j = (c - 65).toNat then 1 else gi M 16 j) → K 1 M') : zCi B zy_X0_opens 2 0 0 [zR 8, zI c] M K := by
  have nmc : isNm c = true → 65 ≤ c ∧ c ≤ 70 := isNm_iff.mp
  refine e_X0_opens (fun n0 => ?_)
  apply b_X0_opens_0
  case k1 => exact fun q => k0 (fun z => q z.1)
  case k4 => exact fun q q2 => k0 (fun z => q2 z.2)
  case k2 =>
    intro q q2 q3
    refine m_X0_addAlternative (by simp [gi_si]; omega) (b_X0_opens_81 ?_)
    refine k1 q q2 _ ((((((zSm.rf.st (by decide)).st (by decide)).st (by decide)).st (by decide)).st (by decide)).st (by decide)) (by simp [gi_si]) (by simp [gi_si]) (by simp [gi_si]) (by simp [gi_si, q3]) (by simp [gi_si]) (by simp [gi_si]) (by simp [gi_si]) (fun j => by simp [gi_si]) (fun j => by simp [gi_si]) (fun j => by simp [gi_si])
  case k3 =>
    intro q q2 q3
    refine m_X0_addAlternative (by simp [gi_si]; omega) (b_X0_opens_81 ?_)
    refine k1 q q2 _ (((((((zSm.rf.st (by decide)).st (by decide)).st (by decide)).st (by decide)).st (by decide)).st (by decide)).st (by decide)) (by simp [gi_si]) (by simp [gi_si]) (by simp [gi_si]) (by simp [gi_si, q3]) (by simp [gi_si]) (by simp [gi_si]) (by simp [gi_si]) (fun j => by simp [gi_si]) (fun j => by simp [gi_si]) (fun j => by simp [gi_si])
  all_goals (intros; have := nmc (by assumption); omega)
end K1
