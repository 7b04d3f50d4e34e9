/-! ===== asking: the model ===== -/
section MN24
variable {B : zB} {K : Int → zM → Prop} {Kv : zM → Prop} {M : zM} {ty wr : List Int} {sk : List (List st3 × Int)} {w u : List st3} {G : Option GC} {j : JS} {on rd : Int} {a : List Int}
theorem MS.upJ {M' : zM} {S : List Nat} {j' : JS} (h : MS M ty wr sk w u G j on rd) (hs : zSm S M M') (hd : ∀ a ∈ S, a = 45 ∨ a = 75 ∨ a = 76) (e : ∀ q, q ≠ 40 → q ≠ 43 → q ≠ 44 → q ≠ 46 → q ≠ 47 → gi M' 45 q = gi M 45 q) (hj : jM M' on j') (hen : j'.2.2.2.2 = 0 ∨ j'.2.2.2.2 = 1) : MS M' ty wr sk w u G j' on rd := by
  have g : ∀ a, a ≠ 45 → a ≠ 75 → a ≠ 76 → gi M' a = gi M a := fun a h1 h2 h3 => hs.ge (fun q => by have := hd a q; omega)
  have e' : ∀ q, q = 1 ∨ q = 3 ∨ q = 4 ∨ q = 11 ∨ q = 12 ∨ q = 13 ∨ q = 14 ∨ q = 15 ∨ q = 45 → gi M' 45 q = gi M 45 q := fun q hq => e q (by omega) (by omega) (by omega) (by omega) (by omega)
  obtain ⟨h1, h2, h3, ⟨⟨h4, h4'⟩, h5, h5'⟩, h6, h7, h8, h9⟩ := h
  exact ⟨h1.same (e' 1 (by simp)) (g 46 (by decide) (by decide) (by decide)), h2.same (e' 3 (by simp)) (g 47 (by decide) (by decide) (by decide)), h3.same (e' 4 (by simp)) (g 48 (by decide) (by decide) (by decide)) (g 50 (by decide) (by decide) (by decide)) (g 51 (by decide) (by decide) (by decide)) (g 52 (by decide) (by decide) (by decide)) (g 49 (by decide) (by decide) (by decide)),
    ⟨⟨h4.same (g 48 (by decide) (by decide) (by decide)) (g 50 (by decide) (by decide) (by decide)) (g 51 (by decide) (by decide) (by decide)) (g 52 (by decide) (by decide) (by decide)), h4'⟩, h5.same (g 48 (by decide) (by decide) (by decide)) (g 50 (by decide) (by decide) (by decide)) (g 51 (by decide) (by decide) (by decide)) (g 52 (by decide) (by decide) (by decide)), h5'⟩,
    hj, (e' 45 (by simp)).trans h7, h8.same (fun q hq => e' q (by omega)) (fun a ha => g a (by omega) (by omega) (by omega)), h9.1, hen⟩
/-- what asking changes -/
def KF (M M' : zM) : Prop := zSm [45, 46, 53, 75, 76] M M' ∧ ∀ q, scrQ q → gi M' 45 q = gi M 45 q
theorem KF.rf : KF M M := ⟨zSm.rf, fun _ _ => rfl⟩
theorem KF.tr {M' M2 : zM} (h : KF M M') (h' : KF M' M2) : KF M M2 := ⟨h.1.tr h'.1, fun q hq => (h'.2 q hq).trans (h.2 q hq)⟩
theorem l_X9_ask_126 {n0 : Nat} {v1 : Int} (ho : okS a) (ha : akM M a) (kk : ∀ M', zSm [46] M M' → zA M' 46 a → K 1 (si M' 45 1 (a.length : Int))) :
    ∀ (d i : Nat) (M1 : zM), i + d = a.length → zSm [46] M M1 → zA M1 46 (a.take i) → zGi B zy_X9_ask 4 0 0 n0 K 126 [some (zR 45), some (zI v1), some (zI 1), some (zI (i : Int))] [] M1 0 0 := by
  have h32 := ho.1
  intro d
  induction d with
  | zero =>
    intro i M1 hi f h
    have e49 : gi M1 45 49 = (a.length : Int) := by rw [f.ge (by decide)]; exact ha.1
    rw [List.take_of_length_le (by omega)] at h
    apply b_X9_ask_126
    case k1 =>
      intro _
      have e : (if (1 : Int) = 0 then gi M1 45 1 else gi M1 45 49) = (a.length : Int) := by rw [if_neg (by decide)]; exact e49
      rw [e]
      exact kk M1 f h
    case c1 => intro _; exact Or.inr rfl
    all_goals (intro q; omega)
  | succ d ih =>
    intro i M1 hi f h
    have e49 : gi M1 45 49 = (a.length : Int) := by rw [f.ge (by decide)]; exact ha.1
    have ei : ((i : Int)).toNat = i := rfl
    apply b_X9_ask_126
    case k1 => intro q; omega
    case k2 => intro _ q; exact absurd q (by decide)
    case k3 =>
      intro _ _
      rw [ei, f.ge (by decide : (77 : Nat) ∉ [46]), ha.2.get (by omega)]
      refine ih (i + 1) _ (by omega) (f.st (by decide)) ?_
      rw [take_succ' (by omega)]
      have h5 := h.app1 (x := a.getD i 0)
      rw [List.length_take, show min i a.length = i from by omega] at h5
      exact h5
    case c1 => intro _; exact Or.inr rfl
    all_goals (intros; omega)
theorem l_X9_ask_end {n0 : Nat} {v1 v2 : Int} (h : MS M ty wr sk w u G j on rd) (ha : akM M a) (ho : okS a) (kk : ∀ M', KF M M' → MS M' (if ocA w u a = 1 then a else ty) wr sk w u G j on rd → K (if ocA w u a = 1 then 1 else 0) M') :
    zCi B zy_X9_outcomeOf 3 0 0 [zR 45, zR 77, zI (gi M 45 49)] M (fun x M' => zGi B zy_X9_ask 4 0 0 n0 K 114 [some (zR 45), some (zI v1), some (zI v2), none] [zI x] M' 0 0) := by
  have h32 := ho.1
  rw [ha.1]
  refine m_X9_outcomeOf (a := 77) rfl (by decide) ha.2 ho.1 h.2.2.2.1.1 h.2.2.2.1.2 (fun M1 f1 => ?_)
  have h1 := h.scr f1 (by decide) (fun q _ => by rw [f1.ge (by decide)])
  have e45 : gi M1 45 = gi M 45 := f1.ge (by decide)
  have ha1 : akM M1 a := ⟨by rw [e45]; exact ha.1, ha.2.same (f1.ge (by decide))⟩
  apply b_X9_ask_114
  by_cases z : ocA w u a = 1
  · rw [if_pos z] at kk ⊢
    refine l_X9_ask_126 ho ha1 (fun M2 f2 h2 => ?_) a.length 0 M1 (by omega) zSm.rf zA.nil
    have f3 : zSm [45, 46] M1 (si M2 45 1 (a.length : Int)) := (f2.mono (by decide)).st (by decide)
    have e45b : ∀ q, q ≠ 1 → gi (si M2 45 1 (a.length : Int)) 45 q = gi M1 45 q := fun q hq => by rw [gi_si_eq, if_neg hq, f2.ge (by decide)]
    have hk := kk _ ⟨(f1.mono (by decide)).tr (f3.mono (by decide)), fun q hq => (e45b q (fun w => by subst w; unfold scrQ at hq; omega)).trans (by rw [e45])⟩ (h1.upT f3 (by decide) e45b ⟨by rw [gi_si_eq, if_pos rfl], h2.same (gi_si_ne (by decide)), ho⟩)
    rw [if_pos z] at hk
    exact hk
  · rw [if_neg z] at kk ⊢
    have hk := kk M1 ⟨f1.mono (by decide), fun q _ => by rw [e45]⟩ h1
    rw [if_neg z] at hk
    apply b_X9_ask_126
    case k1 =>
      intro _
      have e : (if (0 : Int) = 0 then gi M1 45 1 else gi M1 45 49) = gi M1 45 1 := if_pos rfl
      rw [e, si_id]
      exact hk
    case k2 =>
      intro _ _
      have e : (if (0 : Int) = 0 then gi M1 45 1 else gi M1 45 49) = gi M1 45 1 := if_pos rfl
      rw [e, si_id]
      exact hk
    case k3 => intro _ q; exact absurd rfl q
    case c1 => intro _; exact Or.inl rfl
    case c2 => intro _ _; exact Or.inl rfl
    all_goals (intro _ q; exact absurd rfl q)
theorem m_X9_ask (h : MS M ty wr sk w u G j on rd) (ha : akM M a) (ho : okS a) (hen : j.2.2.2.2 = 0) (kk : ∀ M', KF M M' → MS M' (if (askS on (ocA w u) j a).1 = 1 then a else ty) wr sk w u G (askS on (ocA w u) j a).2 on rd → K (if (askS on (ocA w u) j a).1 = 1 then 1 else 0) M') : zCi B zy_X9_ask 4 0 0 [zR 45] M K := by
  obtain ⟨R, lf, pb, ht, en⟩ := j
  dsimp only at hen
  subst hen
  obtain ⟨h1, h2, h3, h4, ⟨g1, g2, g3, g4, g5, g6, g7⟩, h7, h8, h9⟩ := id h
  dsimp only at g1 g2 g3 g4 g5 g6 g7
  obtain ⟨r1, r2, r3⟩ := id g1
  have L : ∀ (d i n0 : Nat) (v : Int), i + d = R.length → (v = 0 ∨ v = 1) → (v = 1 ↔ a ∈ R.take i) → zGi B zy_X9_ask 4 0 0 n0 K 4 [some (zR 45), some (zI v), some (zI (i : Int)), none] [] M 0 0 := by
    intro d
    induction d with
    | zero =>
      intro i n0 v hi hv hm
      rw [List.take_of_length_le (by omega)] at hm
      apply b_X9_ask_4
      case k1 => intro _ q q2; exact absurd q2 q
      case k2 => intro _ q q2; exact absurd q2 q
      case k6 => intro _ q _ q2; exact absurd q q2
      case c1 => intro _ q q2; exact absurd q2 q
      case c2 => intro _ _ _ _; omega
      case c3 => intro q; omega
      case k8 => intro q; omega
      case k9 => intro q; omega
      case k3 =>
        intro _ q _
        have hin : a ∈ R := hm.mp (by omega)
        have ea : askS on (ocA w u) (R, lf, pb, ht, 0) a = (ocA w u a, (R, lf, pb, zw (ht + 1), 0)) := by
          unfold askS
          dsimp only
          rw [if_neg (fun z => z rfl), if_pos hin]
        rw [ea] at kk
        rw [g4]
        have f : zSm [45] M (si M 45 44 (zw (ht + 1))) := zSm.rf.st (by decide)
        have e : ∀ q, q ≠ 44 → gi (si M 45 44 (zw (ht + 1))) 45 q = gi M 45 q := fun q hq => by rw [gi_si_eq, if_neg hq]
        have e49 : gi M 45 49 = gi (si M 45 44 (zw (ht + 1))) 45 49 := (e 49 (by decide)).symm
        have hJ : jM (si M 45 44 (zw (ht + 1))) on (R, lf, pb, zw (ht + 1), 0) := ⟨g1.same (e 40 (by decide)) (gi_si_ne (by decide)) (gi_si_ne (by decide)), (e 46 (by decide)).trans g2, (e 43 (by decide)).trans g3, by show gi _ 45 44 = _; rw [gi_si_eq, if_pos rfl], (e 47 (by decide)).trans g5, (e 39 (by decide)).trans g6, g7⟩
        have hM1 := h.upJ f (by decide) (fun q _ _ q44 _ _ => e q q44) hJ (Or.inl rfl)
        rw [e49]
        exact l_X9_ask_end hM1 ⟨(e 49 (by decide)).trans ha.1, ha.2.same (gi_si_ne (by decide))⟩ ho (fun M' f' hM' => kk M' (KF.tr ⟨f.mono (by decide), fun q hq => e q (fun z => by subst z; unfold scrQ at hq; omega)⟩ f') hM')
      case k7 =>
        intro _ q q2
        have hin : ¬ a ∈ R := fun z => by have := hm.mpr z; omega
        have ea : askS on (ocA w u) (R, lf, pb, ht, 0) a = (0, (R, lf, pb, ht, 1)) := by
          unfold askS
          dsimp only
          rw [if_neg (fun z => z rfl), if_neg hin, if_pos (by omega)]
        rw [ea] at kk
        have f : zSm [45] M (si M 45 47 1) := zSm.rf.st (by decide)
        have e : ∀ q, q ≠ 47 → gi (si M 45 47 1) 45 q = gi M 45 q := fun q hq => by rw [gi_si_eq, if_neg hq]
        have hJ : jM (si M 45 47 1) on (R, lf, pb, ht, 1) := ⟨g1.same (e 40 (by decide)) (gi_si_ne (by decide)) (gi_si_ne (by decide)), (e 46 (by decide)).trans g2, (e 43 (by decide)).trans g3, (e 44 (by decide)).trans g4, by show gi _ 45 47 = _; rw [gi_si_eq, if_pos rfl], (e 39 (by decide)).trans g6, g7⟩
        exact kk _ ⟨f.mono (by decide), fun q hq => e q (fun z => by subst z; unfold scrQ at hq; omega)⟩ (h.upJ f (by decide) (fun q _ _ _ _ q47 => e q q47) hJ (Or.inr rfl))
      all_goals
        intro _ q q2 _ q4
        have hin : ¬ a ∈ R := fun z => by have := hm.mpr z; omega
        have ea : askS on (ocA w u) (R, lf, pb, ht, 0) a = (ocA w u a, (if on = 0 then R else holdS R a, lf - 1, zw (pb + 1), ht, 0)) := by
          unfold askS
          dsimp only
          rw [if_neg (fun z => z rfl), if_neg hin, if_neg (by omega)]
        rw [ea] at kk
        rw [g2, g3]
        have f : zSm [45] M (si (si M 45 46 (lf - 1)) 45 43 (zw (pb + 1))) := (zSm.rf.st (by decide)).st (by decide)
        have e : ∀ q, q ≠ 43 → q ≠ 46 → gi (si (si M 45 46 (lf - 1)) 45 43 (zw (pb + 1))) 45 q = gi M 45 q := fun q hq hq2 => by rw [gi_si_eq, if_neg hq, gi_si_eq, if_neg hq2]
        have e49 : gi M 45 49 = gi (si (si M 45 46 (lf - 1)) 45 43 (zw (pb + 1))) 45 49 := (e 49 (by decide) (by decide)).symm
        have e46 : gi (si (si M 45 46 (lf - 1)) 45 43 (zw (pb + 1))) 45 46 = lf - 1 := by rw [gi_si_eq, if_neg (by decide), gi_si_eq, if_pos rfl]
        have e43 : gi (si (si M 45 46 (lf - 1)) 45 43 (zw (pb + 1))) 45 43 = zw (pb + 1) := by rw [gi_si_eq, if_pos rfl]
        have hg1 : knM (si (si M 45 46 (lf - 1)) 45 43 (zw (pb + 1))) R := g1.same (e 40 (by decide) (by decide)) (f.ge (by decide)) (f.ge (by decide))
        have hak : akM (si (si M 45 46 (lf - 1)) 45 43 (zw (pb + 1))) a := ⟨(e 49 (by decide) (by decide)).trans ha.1, ha.2.same (f.ge (by decide))⟩
        have hKF : KF M (si (si M 45 46 (lf - 1)) 45 43 (zw (pb + 1))) := ⟨f.mono (by decide), fun q hq => e q (fun z => by subst z; unfold scrQ at hq; omega) (fun z => by subst z; unfold scrQ at hq; omega)⟩
        first
          | -- nothing is remembered
            have on0 : on = 0 := by rw [← g6]; exact q4
            rw [if_pos on0] at kk
            have hJ : jM (si (si M 45 46 (lf - 1)) 45 43 (zw (pb + 1))) on (R, lf - 1, zw (pb + 1), ht, 0) := ⟨hg1, e46, e43, (e 44 (by decide) (by decide)).trans g4, (e 47 (by decide) (by decide)).trans g5, (e 39 (by decide) (by decide)).trans g6, by show 0 ≤ lf - 1 ∧ lf - 1 ≤ 400; omega⟩
            have hM1 := h.upJ f (by decide) (fun q _ q43 _ q46 _ => e q q43 q46) hJ (Or.inl rfl)
            rw [e49]
            exact l_X9_ask_end hM1 hak ho (fun M' f' hM' => kk M' (hKF.tr f') hM')
          | have on0 : ¬ on = 0 := by rw [← g6]; exact q4
            rw [if_neg on0] at kk
            refine m_X9_keep hg1 hak ho.1 (fun M2 f2 e2 hk2 => ?_)
            apply b_X9_ask_102
            have f3 : zSm [45, 75, 76] M M2 := (f.mono (by decide)).tr f2
            have hJ : jM M2 on (holdS R a, lf - 1, zw (pb + 1), ht, 0) := ⟨hk2, (e2 46 (by decide)).trans e46, (e2 43 (by decide)).trans e43, (e2 44 (by decide)).trans ((e 44 (by decide) (by decide)).trans g4), (e2 47 (by decide)).trans ((e 47 (by decide) (by decide)).trans g5), (e2 39 (by decide)).trans ((e 39 (by decide) (by decide)).trans g6), by show 0 ≤ lf - 1 ∧ lf - 1 ≤ 400; omega⟩
            have hM1 := h.upJ f3 (by decide) (fun q q40 q43 _ q46 _ => (e2 q q40).trans (e q q43 q46)) hJ (Or.inl rfl)
            have hKF2 : KF M M2 := hKF.tr ⟨f2.mono (by decide), fun q hq => e2 q (fun z => by subst z; unfold scrQ at hq; omega)⟩
            exact l_X9_ask_end hM1 ⟨(e2 49 (by decide)).trans hak.1, hak.2.same (f2.ge (by decide))⟩ ho (fun M' f' hM' => kk M' (hKF2.tr f') hM')
    | succ d ih =>
      intro i n0 v hi hv hm
      have hlt : i < R.length := by omega
      have htk : a ∈ R.take (i + 1) ↔ a ∈ R.take i ∨ R[i] = a := by
        rw [List.take_succ, List.getElem?_eq_getElem hlt, List.mem_append]
        simp only [Option.toList_some, List.mem_singleton]
        constructor
        · rintro (z | z)
          · exact Or.inl z
          · exact Or.inr z.symm
        · rintro (z | z)
          · exact Or.inl z
          · exact Or.inr z.symm
      apply b_X9_ask_4
      case k8 =>
        intro _ q
        have hin : a ∈ R.take (i + 1) := htk.mpr (Or.inl (hm.mp (by omega)))
        exact ih (i + 1) n0 1 (by omega) (Or.inr rfl) ⟨fun _ => hin, fun _ => rfl⟩
      case k9 =>
        intro _ q
        refine m_X9_isKnown (i := i) g1 (List.getElem?_eq_getElem hlt) ha ho.1 ?_
        apply b_X9_ask_21
        case c1 => omega
        case k1 =>
          refine ih (i + 1) n0 _ (by omega) (by split <;> simp) ?_
          rw [htk]
          by_cases c : R[i] = a
          · rw [if_pos c, if_pos (by decide)]
            exact ⟨fun _ => Or.inr c, fun _ => rfl⟩
          · rw [if_neg c, if_neg (by decide)]
            exact ⟨fun z => absurd z (by decide), fun z => z.elim (fun y => by have := hm.mpr y; omega) (fun y => absurd y c)⟩
      all_goals (intros; omega)
  refine e_X9_ask (fun n0 => ?_)
  apply b_X9_ask_0
  exact L R.length 0 n0 0 (by omega) (Or.inl rfl) ⟨fun z => absurd z (by decide), fun z => by cases z⟩
end MN24
