/-! ===== the class's face: reduce ===== -/
section FR
variable {B : zB} {K : Int → zM → Prop} {M : zM} {ty wr : List Int} {sk : List (List st3 × Int)} {w u : List st3} {G : Option GC} {j : JS} {on rd : Int}
theorem XS.allow {p : Int} (h : XS M ty wr sk w u G j on rd) (hp : 0 ≤ p ∧ p ≤ 400) : XS (si (si (si M 0 10 (zw ((gi M 0 10) + 1))) 5 7 p) 5 5 0) ty wr sk w u G (j.1, p, j.2.2.1, j.2.2.2.1, 0) on (zw (rd + 1)) ∧ FX M (si (si (si M 0 10 (zw ((gi M 0 10) + 1))) 5 7 p) 5 5 0) := by
  have f : zSm [0, 5] M (si (si (si M 0 10 (zw ((gi M 0 10) + 1))) 5 7 p) 5 5 0) := ((zSm.rf.st (by simp)).st (by simp)).st (by simp)
  obtain ⟨h1, h2, h3, h4, ⟨g1, g2, g3, g4, g5, g6, g7⟩, h6, h7, h8⟩ := id h
  refine ⟨h.up f (by decide) (by simp [gi_si]) (by simp [gi_si]) (by simp [gi_si, h6]) (h1.1.fr f (by decide) (by decide)) h1.2 ⟨g1.same (by simp [gi_si]) (by simp [gi_si]) (f.ge (by decide)) (f.ge (by decide)), by simp [gi_si], by simp [gi_si, g3], by simp [gi_si, g4], by simp [gi_si], by simp [gi_si, g6], hp⟩ (Or.inl rfl) (h.gx f (by decide)), f.fx (by decide)⟩
theorem l_X8_reduce {n0 : Nat} {p1 p2 : Int} (h : XS M ty wr sk w u G j on rd) (hk : 0 ≤ p1 ∧ p1 ≤ 4) (hp : 0 ≤ p2 ∧ p2 ≤ 400) (hps : 2 ≤ p1 → (prG G ty).isSome = true)
    (k : ∀ M', FX M M' → XS M' (rdS on (ocA w u) (prG G) p1 p2 ty j).1 wr sk w u G (rdS on (ocA w u) (prG G) p1 p2 ty j).2 on (zw (rd + 1)) → K (rdS on (ocA w u) (prG G) p1 p2 ty j).1.length M') :
    zCv B zy_X1_allow 1 0 0 [zR 5, zI p2] (si M 0 10 (zw ((gi M 0 10) + 1))) (fun M' => zGi B zy_X8_reduce 68 0 0 n0 K 80 [some (zR 0), some (zI p1), some (zI p2)] [] M' 0 0) := by
  refine m_X1_allow ?_
  obtain ⟨hA, hF⟩ := h.allow hp
  generalize si (si (si M 0 10 (zw ((gi M 0 10) + 1))) 5 7 p2) 5 5 0 = M1 at hA hF
  have hen := rdS_en (j := j) (on := on) (oc := ocA w u) (ps := prG G) (kind := p1) (most := p2) (ty := ty)
  have hoc := hA.oc
  obtain ⟨a1, a2, a3, a4, a5, a6, a7, aR, aT, a8⟩ := id hA
  -- the end of the levels and moves
  have fin : ∀ (c : GC) (r : List Int × JS) (M2 : zM), G = some c → rdS on (ocA w u) (prG G) p1 p2 ty j = r → zSm RFr M1 M2 → XR M2 c.1 c.2.1 c.2.2.1 c.2.2.2.1 c.2.2.2.2 (ocA w u) → GG c.1 c.2.1 c.2.2.1 c.2.2.2.1 c.2.2.2.2 → tT M2 1 r.1 → okS r.1 → JX M2 on r.2 → K (gi M2 1 1) M2 := fun c r M2 hG hr f hX hg t1 t2 t3 => by
    rw [t1.1]
    rw [hr] at k hen
    refine k M2 (hF.tr (f.fx (by decide))) (hA.up1 f (by decide) t1 t2 t3 hen ⟨hX.2.2.1.1, ?_⟩)
    rw [hG]
    exact ⟨hX.1, hg, hX.2.1, hX.2.2.1⟩
  have xr : 2 ≤ p1 → ∃ c L, G = some c ∧ prs c.1 c.2.1 c.2.2.2.2 c.2.2.2.1 ty = some L ∧ prG G = prs c.1 c.2.1 c.2.2.2.2 c.2.2.2.1 ∧ GG c.1 c.2.1 c.2.2.1 c.2.2.2.1 c.2.2.2.2 ∧ XR M1 c.1 c.2.1 c.2.2.1 c.2.2.2.1 c.2.2.2.2 (ocA w u) := fun q => by
    have hs := hps q
    have h7 := a7.2
    cases hG : G with
    | none => rw [hG] at hs; cases hs
    | some c =>
      rw [hG] at hs h7
      cases hL : prG (some c) ty with
      | none => rw [hL] at hs; cases hs
      | some L => exact ⟨c, L, rfl, hL, rfl, h7.2.1, h7.1, h7.2.2.1, h7.2.2.2, aR, hoc⟩
  apply b_X8_reduce_80
  case k1 =>
    intro q1 q2
    obtain ⟨c, L, hG, hL, hps2, hg, hX⟩ := xr (by omega)
    have hr : rdS on (ocA w u) (prG G) p1 p2 ty j = bmS on (ocA w u) (prs c.1 c.2.1 c.2.2.2.2 c.2.2.2.1) 100000 L ty.length 0 ty (j.1, p2, j.2.2.1, j.2.2.2.1, 0) := by
      unfold rdS
      rw [if_neg (by omega), if_neg (by omega), hps2, hL]
      rfl
    exact m_X4_byMoves hg hL hX a1.1 a1.2 a5 (fun M2 f hX2 t1 t2 t3 => b_X8_reduce_137 (fin c _ M2 hG hr f hX2 hg t1 t2 t3))
  case k2 =>
    intro q1 q2
    obtain ⟨c, L, hG, hL, hps2, hg, hX⟩ := xr (by omega)
    have hr : rdS on (ocA w u) (prG G) p1 p2 ty j = blS on (ocA w u) (prs c.1 c.2.1 c.2.2.2.2 c.2.2.2.1) (decide (p1 = 3)) 33 ty (j.1, p2, j.2.2.1, j.2.2.2.1, 0) := by
      unfold rdS
      rw [if_neg (by omega), if_pos (by omega), hps2]
    exact m_X4_byLevels hg (again := decide (p1 = 3)) (by rw [zifc (Q := decide (p1 = 3) = true) (by simp)]) hX a1.1 a1.2 a5 (fun M2 f hX2 t1 t2 t3 => b_X8_reduce_127 (fin c _ M2 hG hr f hX2 hg t1 t2 t3))
  case k3 =>
    intro q1
    have hr : rdS on (ocA w u) (prG G) p1 p2 ty j = bsS on (ocA w u) (decide (p1 = 1)) ty (j.1, p2, j.2.2.1, j.2.2.2.1, 0) := by
      unfold rdS
      rw [if_pos q1]
    rw [hr] at k hen
    refine m_X4_bySigns (words := decide (p1 = 1)) (by rw [zifc (Q := decide (p1 = 1) = true) (by simp)]) a1.2 aR hoc a1.1 a5 (fun M2 f t1 t2 t3 => b_X8_reduce_102 ?_)
    rw [t1.1]
    exact k M2 (hF.tr (f.fx (by decide))) (hA.up1 f (by decide) t1 t2 t3 hen (hA.gx f (by decide)))
theorem m_X8_reduce {p1 p2 : Int} (h : XS M ty wr sk w u G j on rd) (k1 : ¬ ((0 ≤ p1 ∧ p1 ≤ 4) ∧ 0 ≤ p2 ∧ p2 ≤ 400) → K (-1) M) (k2 : ((0 ≤ p1 ∧ p1 ≤ 4) ∧ 0 ≤ p2 ∧ p2 ≤ 400) → ¬ ocA w u ty = 1 → K (-2) M)
    (k3 : ((0 ≤ p1 ∧ p1 ≤ 4) ∧ 0 ≤ p2 ∧ p2 ≤ 400) → ocA w u ty = 1 → 2 ≤ p1 → prG G ty = none → ∀ M', FX M M' → XS M' ty wr sk w u G j on rd → K (-3) M')
    (k4 : ((0 ≤ p1 ∧ p1 ≤ 4) ∧ 0 ≤ p2 ∧ p2 ≤ 400) → ocA w u ty = 1 → (2 ≤ p1 → (prG G ty).isSome = true) → ∀ M', FX M M' → XS M' (rdS on (ocA w u) (prG G) p1 p2 ty j).1 wr sk w u G (rdS on (ocA w u) (prG G) p1 p2 ty j).2 on (zw (rd + 1)) → K (rdS on (ocA w u) (prG G) p1 p2 ty j).1.length M') : zCi B zy_X8_reduce 68 0 0 [zR 0, zI p1, zI p2] M K := by
  have hoc : ocX M ty = ocA w u ty := by rw [h.oc]
  refine e_X8_reduce (fun n0 => ?_)
  apply b_X8_reduce_0 (s := ty)
  case k1 => intro q; exact k1 (fun z => by omega)
  case k2 => intro _ q; exact k1 (fun z => by omega)
  case k3 => intro _ _ q; exact k1 (fun z => by omega)
  case k7 => intro _ _ _ q; exact k1 (fun z => by omega)
  case k6 => intro a b c d q; exact k2 ⟨⟨a, b⟩, c, d⟩ (by rw [← hoc]; exact q)
  case k4 =>
    intro a b c d q q2
    exact l_X8_reduce h ⟨a, b⟩ ⟨c, d⟩ (fun z => by omega) (k4 ⟨⟨a, b⟩, c, d⟩ (by rw [← hoc]; exact q) (fun z => by omega))
  case k5 =>
    intro a b c d q q2
    have hq : ocA w u ty = 1 := by rw [← hoc]; exact q
    by_cases hv : gi M 8 0 = 0
    · have f : zSm [24] M (si M 24 2 0) := zSm.rf.st (by simp)
      refine m_X7_build0 zTx_1 hv ?_
      apply b_X8_reduce_56
      case k1 => intro z; exact absurd rfl z
      case k2 =>
        intro _
        exact k3 ⟨⟨a, b⟩, c, d⟩ hq q2 (by rw [h.g0.mp hv]; rfl) _ (f.fx (by decide)) (h.up1 f (by decide) (h.1.1.fr f (by decide) (by decide)) h.1.2 (h.2.2.2.2.1.fr f (by decide) (by decide) (by decide)) h.2.2.2.2.2.2.2.2.2.2.2 (h.gx f (by decide)))
    · refine h.build hv (fun hp M' f hx h24 => ?_) (fun L hp M' f hx ht hw hv2 => ?_)
      · apply b_X8_reduce_56
        case k1 => intro z; exact absurd rfl z
        case k2 => intro _; exact k3 ⟨⟨a, b⟩, c, d⟩ hq q2 hp M' f hx
      · apply b_X8_reduce_56
        case k1 =>
          intro _
          exact l_X8_reduce hx ⟨a, b⟩ ⟨c, d⟩ (fun _ => by rw [hp]; rfl) (fun M2 f2 hx2 => k4 ⟨⟨a, b⟩, c, d⟩ hq (fun _ => by rw [hp]; rfl) M2 (f.tr f2) hx2)
        case k2 => intro z; exact absurd z (by decide)
  case c1 => exact h.2.2.2.2.2.2.2.1
  case c2 => exact h.1.1
  case c3 => exact h.1.2.1
end FR
