/-! ===== reducing: the model ===== -/
section MN34
variable {B : zB} {n0 : Nat} {K : Int → zM → Prop} {Kv : zM → Prop} {M : zM} {ty wr : List Int} {sk : List (List st3 × Int)} {w u : List st3} {G : Option GC} {j : JS} {on rd : Int} {L : List nd}
theorem l_X9_red_124 {v1 v2 : Int} : ∀ (f g : Nat) (M1 : zM) (ty : List Int) (j : JS) (L : List nd), f ≤ g → (ty.length : Int) * 2100 + ty.length * 62 + 62 ≤ f + 62 → FM M M1 → MS M1 ty wr sk w u G j on rd → prG G ty = some L →
    (∀ M', FM M M' → MS M' (bmS on (ocA w u) (prG G) f L ty.length 0 ty j).1 wr sk w u G (bmS on (ocA w u) (prG G) f L ty.length 0 ty j).2 on rd → K (bmS on (ocA w u) (prG G) f L ty.length 0 ty j).1.length M') →
    zGi B zy_X9_reduce 12 0 0 n0 K 124 [some (zR 45), some (zI v1), some (zI v2), some (zI 1)] [] M1 0 0 := by
  intro f g
  induction g generalizing f with
  | zero =>
    intro M1 ty j L hfg hmu fm h hp k
    have e47 : gi M1 45 47 = j.2.2.2.2 := h.2.2.2.2.1.2.2.2.2.1
    apply b_X9_reduce_124
    case k1 => intro q; exact absurd q (by decide)
    case k2 =>
      intro _ q
      rw [e47] at q
      rw [bmS_stop (Or.inr q)] at k
      rw [h.1.1]
      exact k M1 fm h
    case k3 =>
      intro _ _
      refine m_X9_move h hp hmu (fun M2 ty' j' f' L' fm2 h2 hp2 hm2 hlt _ => by omega) (fun M2 fm2 h2 => ?_)
      apply b_X9_reduce_139
      apply b_X9_reduce_124
      case k1 => intro _; rw [h2.1.1]; exact k M2 (fm.tr fm2) h2
      case k2 => intro z; exact absurd rfl z
      case k3 => intro z; exact absurd rfl z
  | succ g ih =>
    intro M1 ty j L hfg hmu fm h hp k
    have e47 : gi M1 45 47 = j.2.2.2.2 := h.2.2.2.2.1.2.2.2.2.1
    apply b_X9_reduce_124
    case k1 => intro q; exact absurd q (by decide)
    case k2 =>
      intro _ q
      rw [e47] at q
      rw [bmS_stop (Or.inr q)] at k
      rw [h.1.1]
      exact k M1 fm h
    case k3 =>
      intro _ _
      refine m_X9_move h hp hmu (fun M2 ty' j' f' L' fm2 h2 hp2 hm2 hlt e => ?_) (fun M2 fm2 h2 => ?_)
      · rw [e] at k
        apply b_X9_reduce_139
        exact ih f' M2 ty' j' L' (by omega) hm2 (fm.tr fm2) h2 hp2 k
      · apply b_X9_reduce_139
        apply b_X9_reduce_124
        case k1 => intro _; rw [h2.1.1]; exact k M2 (fm.tr fm2) h2
        case k2 => intro z; exact absurd rfl z
        case k3 => intro z; exact absurd rfl z
theorem MS.allow {p : Int} (h : MS M ty wr sk w u G j on rd) (hp : 0 ≤ p ∧ p ≤ 400) : MS (si (si (si M 45 45 (zw (gi M 45 45 + 1))) 45 46 p) 45 47 0) ty wr sk w u G (j.1, p, j.2.2.1, j.2.2.2.1, 0) on (zw (rd + 1)) ∧ FM M (si (si (si M 45 45 (zw (gi M 45 45 + 1))) 45 46 p) 45 47 0) ∧ ∀ a, a ≠ 45 → gi (si (si (si M 45 45 (zw (gi M 45 45 + 1))) 45 46 p) 45 47 0) a = gi M a := by
  have f : zSm [45] M (si (si (si M 45 45 (zw (gi M 45 45 + 1))) 45 46 p) 45 47 0) := ((zSm.rf.st (by decide)).st (by decide)).st (by decide)
  have e : ∀ q, q ≠ 45 → q ≠ 46 → q ≠ 47 → gi (si (si (si M 45 45 (zw (gi M 45 45 + 1))) 45 46 p) 45 47 0) 45 q = gi M 45 q := fun q h1 h2 h3 => by rw [gi_si_eq, if_neg h3, gi_si_eq, if_neg h2, gi_si_eq, if_neg h1]
  have e45 : gi (si (si (si M 45 45 (zw (gi M 45 45 + 1))) 45 46 p) 45 47 0) 45 45 = zw (gi M 45 45 + 1) := by rw [gi_si_eq, if_neg (by decide), gi_si_eq, if_neg (by decide), gi_si_eq, if_pos rfl]
  have e46 : gi (si (si (si M 45 45 (zw (gi M 45 45 + 1))) 45 46 p) 45 47 0) 45 46 = p := by rw [gi_si_eq, if_neg (by decide), gi_si_eq, if_pos rfl]
  have e47 : gi (si (si (si M 45 45 (zw (gi M 45 45 + 1))) 45 46 p) 45 47 0) 45 47 = 0 := by rw [gi_si_eq, if_pos rfl]
  have g : ∀ a, a ≠ 45 → gi (si (si (si M 45 45 (zw (gi M 45 45 + 1))) 45 46 p) 45 47 0) a = gi M a := fun a h1 => f.ge (by simp [h1])
  generalize si (si (si M 45 45 (zw (gi M 45 45 + 1))) 45 46 p) 45 47 0 = M1 at *
  obtain ⟨h1, h2, h3, ⟨⟨h4, h4'⟩, h5, h5'⟩, ⟨g1, g2, g3, g4, g5, g6, g7⟩, h7, h8, h9⟩ := h
  exact ⟨⟨h1.same (e 1 (by decide) (by decide) (by decide)) (g 46 (by decide)), h2.same (e 3 (by decide) (by decide) (by decide)) (g 47 (by decide)), h3.same (e 4 (by decide) (by decide) (by decide)) (g 48 (by decide)) (g 50 (by decide)) (g 51 (by decide)) (g 52 (by decide)) (g 49 (by decide)),
    ⟨⟨h4.same (g 48 (by decide)) (g 50 (by decide)) (g 51 (by decide)) (g 52 (by decide)), h4'⟩, h5.same (g 48 (by decide)) (g 50 (by decide)) (g 51 (by decide)) (g 52 (by decide)), h5'⟩,
    ⟨g1.same (e 40 (by decide) (by decide) (by decide)) (g 75 (by decide)) (g 76 (by decide)), e46, (e 43 (by decide) (by decide) (by decide)).trans g3, (e 44 (by decide) (by decide) (by decide)).trans g4, e47, (e 39 (by decide) (by decide) (by decide)).trans g6, hp⟩, by rw [e45, h7], h8.same (fun q hq => e q (by omega) (by omega) (by omega)) (fun a ha => g a (by omega)), h9.1, Or.inl rfl⟩, f.fm (by decide), g⟩
theorem m_X9_reduce {p1 p2 : Int} (h : MS M ty wr sk w u G j on rd) (k1 : ¬ ((0 ≤ p1 ∧ p1 ≤ 4) ∧ 0 ≤ p2 ∧ p2 ≤ 400) → K (-1) M) (k2 : ((0 ≤ p1 ∧ p1 ≤ 4) ∧ 0 ≤ p2 ∧ p2 ≤ 400) → ¬ ocA w u ty = 1 → ∀ M', FM M M' → MS M' ty wr sk w u G j on rd → K (-2) M')
    (k3 : ((0 ≤ p1 ∧ p1 ≤ 4) ∧ 0 ≤ p2 ∧ p2 ≤ 400) → ocA w u ty = 1 → 2 ≤ p1 → prG G ty = none → ∀ M', FM M M' → MS M' ty wr sk w u G j on rd → K (-3) M')
    (k4 : ((0 ≤ p1 ∧ p1 ≤ 4) ∧ 0 ≤ p2 ∧ p2 ≤ 400) → ocA w u ty = 1 → (2 ≤ p1 → (prG G ty).isSome = true) → ∀ M', FM M M' → MS M' (rdS on (ocA w u) (prG G) p1 p2 ty j).1 wr sk w u G (rdS on (ocA w u) (prG G) p1 p2 ty j).2 on (zw (rd + 1)) → K (rdS on (ocA w u) (prG G) p1 p2 ty j).1.length M') : zCi B zy_X9_reduce 12 0 0 [zR 45, zI p1, zI p2] M K := by
  refine e_X9_reduce (fun n0 => ?_)
  apply b_X9_reduce_0
  case k1 => intro q; exact k1 (fun z => by omega)
  case k2 => intro _ q; exact k1 (fun z => by omega)
  case k3 => intro _ _ q; exact k1 (fun z => by omega)
  case k5 => intro _ _ _ q; exact k1 (fun z => by omega)
  case k4 =>
    intro a b c d
    have hr : (0 ≤ p1 ∧ p1 ≤ 4) ∧ 0 ≤ p2 ∧ p2 ≤ 400 := ⟨⟨a, b⟩, c, d⟩
    refine m_X9_outcome h (fun M1 fm1 h1 => ?_)
    apply b_X9_reduce_26
    case k6 => intro q; exact k2 hr q M1 fm1 h1
    case k1 => intro _ _ q; omega
    case k2 => intro _ _ q; omega
    case k3 => intro _ _ q; omega
    case k4 =>
      intro q q1 _
      obtain ⟨hA, fA, -⟩ := h1.allow ⟨c, d⟩
      have hrd : rdS on (ocA w u) (prG G) p1 p2 ty j = bsS on (ocA w u) (decide (p1 = 1)) ty (j.1, p2, j.2.2.1, j.2.2.2.1, 0) := by
        unfold rdS
        rw [if_pos q1]
      have kk := k4 hr q (fun z => by omega)
      rw [hrd] at kk
      refine m_X9_byPlaces (words := decide (p1 = 1)) (by rw [zifc (Q := decide (p1 = 1) = true) (by simp)]) hA (fun M2 fm2 h2 => ?_)
      apply b_X9_reduce_95
      rw [h2.1.1]
      exact kk M2 (fm1.tr (fA.tr fm2)) h2
    case k5 =>
      intro q q1
      refine h1.parse (fun hp M2 f2 _ => ?_) (fun L hp M2 f2 hP => ?_)
      · obtain ⟨h2, fm2⟩ := h1.pf f2
        apply b_X9_reduce_50
        case k5 => intro _; exact k3 hr q (by omega) hp M2 (fm1.tr fm2) h2
        all_goals (intro z; exact absurd rfl z)
      · obtain ⟨h2, fm2⟩ := h1.pf f2
        obtain ⟨hA, fA, gA⟩ := h2.allow ⟨c, d⟩
        have hPA : PM (si (si (si M2 45 45 (zw (gi M2 45 45 + 1))) 45 46 p2) 45 47 0) L := hP.same (by rw [gi_si_eq, if_neg (by decide), gi_si_eq, if_neg (by decide), gi_si_eq, if_neg (by decide)]) (fun a q1 q2 => gA a (by omega))
        have kk := k4 hr q (fun _ => by rw [hp]; rfl)
        have h32 := h.1.2.2.1
        apply b_X9_reduce_50
        case k5 => intro z; exact absurd z (by decide)
        case k4 => intro _ z; omega
        case k3 =>
          intro _ _ e2
          have hrd : rdS on (ocA w u) (prG G) p1 p2 ty j = l1S on (ocA w u) L ty (j.1, p2, j.2.2.1, j.2.2.2.1, 0) := by
            unfold rdS
            rw [if_neg (by omega), if_pos (by omega), blS_succ hp, if_neg (fun z => by have := z.1; simp at this; omega)]
          rw [hrd] at kk
          refine m_X9_byDepths hA hPA hp (fun M3 fm3 h3 => ?_)
          apply b_X9_reduce_107
          rw [h3.1.1]
          exact kk M3 (fm1.tr (fm2.tr (fA.tr fm3))) h3
        case k2 =>
          intro _ _ _ e3
          have hrd : rdS on (ocA w u) (prG G) p1 p2 ty j = blS on (ocA w u) (prG G) true 33 ty (j.1, p2, j.2.2.1, j.2.2.2.1, 0) := by
            unfold rdS
            rw [if_neg (by omega), if_pos (by omega), show decide (p1 = 3) = true from by simp [e3]]
          rw [hrd] at kk
          refine m_X9_againByDepths hA hPA hp rfl (fun M3 fm3 h3 => ?_)
          apply b_X9_reduce_119
          rw [h3.1.1]
          exact kk M3 (fm1.tr (fm2.tr (fA.tr fm3))) h3
        case k1 =>
          intro _ _ n2 n3
          have hrd : rdS on (ocA w u) (prG G) p1 p2 ty j = bmS on (ocA w u) (prG G) 100000 L ty.length 0 ty (j.1, p2, j.2.2.1, j.2.2.2.1, 0) := by
            unfold rdS
            rw [if_neg (by omega), if_neg (by omega), hp]
            rfl
          rw [hrd] at kk
          exact l_X9_red_124 (M := M) 100000 100000 _ ty _ L (Nat.le_refl _) (by omega) (fm1.tr (fm2.tr fA)) hA hp kk
end MN34
