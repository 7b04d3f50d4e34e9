/-! ===== parsing: the model ===== -/
/-- what parsing changes -/
def PF (M M' : zM) : Prop := zSm [45, 62, 63, 64, 65, 66, 67, 68, 69, 70, 71, 72, 73, 74] M M' ∧ ∀ q, q ≠ 25 → q ≠ 27 → gi M' 45 q = gi M 45 q
theorem PF.rf {M : zM} : PF M M := ⟨zSm.rf, fun _ _ _ => rfl⟩
theorem PF.tr {M M' M2 : zM} (h : PF M M') (h' : PF M' M2) : PF M M2 := ⟨h.1.tr h'.1, fun q h1 h2 => (h'.2 q h1 h2).trans (h.2 q h1 h2)⟩
theorem BF.pf {M M' : zM} (h : BF M M') : PF M M' := ⟨h.1.mono (by decide), fun q _ hq => h.2 q hq⟩
theorem PF.s27 {M : zM} {x : Int} : PF M (si M 45 27 x) := ⟨zSm.rf.st (by decide), fun q _ hq => by rw [gi_si_eq, if_neg hq]⟩
theorem PF.s25 {M : zM} {x : Int} : PF M (si M 45 25 x) := ⟨zSm.rf.st (by decide), fun q hq _ => by rw [gi_si_eq, if_neg hq]⟩
theorem GM.pf {M M' : zM} {G : Option GC} (h : GM M G) (f : PF M M') : GM M' G := h.same (fun q hq => f.2 q (by omega) (by omega)) (fun a ha => f.1.ge (by simp; omega))
theorem si_id {M : zM} {k j : Nat} : si M k j (gi M k j) = M := by
  unfold si gi
  refine Prod.ext ?_ rfl
  funext a
  by_cases h : a = k
  · subst h
    dsimp only
    rw [if_pos rfl]
    funext b
    by_cases h2 : b = j
    · rw [if_pos h2, h2]
    · rw [if_neg h2]
  · dsimp only
    rw [if_neg h]
section MN22
variable {B : zB} {K : Int → zM → Prop} {M : zM} {s : List Int} {a : Nat} {G : Option GC}
theorem l_X9_parse_7 {n0 : Nat} (h_a : zkd a = .inl (0, 32)) (ha : a = 46 ∨ a = 77) (hz : zA M a s) (ho : okS s) (kk : ∀ M', zSm [62] M M' → zA M' 62 s → zGi B zy_X9_parse 8 0 0 n0 K 7 [some (zR 45), some (zR a), some (zI s.length), some (zI s.length)] [] M' 0 0) :
    ∀ (d i : Nat) (M1 : zM), i + d = s.length → zSm [62] M M1 → zA M1 62 (s.take i) → zGi B zy_X9_parse 8 0 0 n0 K 7 [some (zR 45), some (zR a), some (zI s.length), some (zI (i : Int))] [] M1 0 0 := by
  have h32 := ho.1
  intro d
  induction d with
  | zero =>
    intro i M1 hi f h
    rw [List.take_of_length_le (by omega)] at h
    have e : i = s.length := by omega
    rw [e]
    exact kk M1 f h
  | succ d ih =>
    intro i M1 hi f h
    have ei : ((i : Int)).toNat = i := rfl
    apply b_X9_parse_7 h_a
    case k1 => intro q; omega
    case k2 => intro q; omega
    case k3 =>
      intro _
      rw [ei]
      refine ih (i + 1) _ (by omega) (f.st (by decide)) ?_
      have ea : gi M1 a i = s.getD i 0 := by
        rw [f.ge (by simp; omega)]
        exact hz.get (by omega)
      rw [ea, take_succ' (by omega)]
      have h5 := h.app1 (x := s.getD i 0)
      rw [List.length_take, show min i s.length = i from by omega] at h5
      exact h5
    all_goals (intros; omega)
theorem m_X9_parse (h_a : zkd a = .inl (0, 32)) (ha : a = 46 ∨ a = 77) (hG : GM M G) (hz : zA M a s) (ho : okS s) (k0 : prG G s = none → ∀ M', PF M M' → gi M' 45 27 = 0 → K 0 M') (k1 : ∀ L, prG G s = some L → ∀ M', PF M M' → PM M' L → K 1 M') : zCi B zy_X9_parse 8 0 0 [zR 45, zR a, zI s.length] M K := by
  have h32 := ho.1
  refine e_X9_parse (fun n0 => ?_)
  apply b_X9_parse_0 h_a
  have fz : zSm [45] M (si M 45 25 s.length) := zSm.rf.st (by decide)
  refine l_X9_parse_7 (M := si M 45 25 s.length) h_a ha (hz.same (gi_si_ne (by omega))) ho (fun M1 f1 hA => ?_) s.length 0 _ (by omega) zSm.rf zA.nil
  have p1 : PF M M1 := PF.s25.tr ⟨f1.mono (by decide), fun q _ _ => by rw [f1.ge (by decide)]⟩
  have h25 : gi M1 45 25 = (s.length : Int) := by rw [f1.ge (by decide), gi_si_eq, if_pos rfl]
  have hG1 := hG.pf p1
  apply b_X9_parse_7 h_a
  case k2 =>
    intro _ q
    cases hq : G with
    | none => exact k0 (by rw [hq]; rfl) _ (p1.tr PF.s27) (by rw [gi_si_eq, if_pos rfl])
    | some c =>
      rw [hq] at hG1
      have : gi M1 45 11 = 1 := hG1.1
      omega
  case k3 => intro q; omega
  case c1 => intro q; omega
  case c2 => intro q; omega
  case k1 =>
    intro _ q
    cases hq : G with
    | none =>
      rw [hq] at hG1
      exact absurd hG1 q
    | some c =>
      obtain ⟨g, ord, n, st, em⟩ := c
      rw [hq] at hG1 k0 k1
      have p2 := p1.tr (PF.s27 (M := M1) (x := 0))
      have hG2 := hG1.pf (PF.s27 (M := M1) (x := 0))
      have hmN : mN (si M1 45 27 0) s := ⟨by rw [gi_si_eq, if_neg (by decide)]; exact h25, hA.same (gi_si_ne (by decide))⟩
      generalize si M1 45 27 0 = M2 at *
      obtain ⟨g1, g2, g3, g4, g5, g6⟩ := hG2
      dsimp only at g1 g2 g3 g4 g5 g6
      have g2' := id g2
      obtain ⟨hw, hn, hog, hn6, hst⟩ := g2'
      refine m_X9_findEnds g3 hw hn hog hn6 g4 g6 hmN ho (fun M3 E b al f3 hfq => ?_)
      obtain ⟨x1, x2, x3, x4⟩ := f3.fe (S := []) g3 hmN
      have p3 : PF M M3 := p2.tr ⟨f3.mono (by decide), fun q _ _ => by rw [x3]⟩
      have h13 : gi M3 45 13 = (st : Int) := by rw [x3]; exact g5
      obtain ⟨hT, hS0, hEQ⟩ := hfq
      have hc : BC M3 g s E := ⟨x1, x2, fun r x r1 r2 r3 => hEQ r x (Or.inl ⟨by omega, r1, r2⟩)⟩
      have hTs := hT st s.length
      have hend : gi M3 63 (33 * (st : Int)).toNat = cvN s.length (E st s.length) := by
        have := hc.2.2 st s.length hst.1 hst.2 (Nat.le_refl _)
        unfold eQ at this
        rw [Nat.sub_self, Nat.add_zero] at this
        rw [(by omega : (33 * (st : Int)).toNat = 33 * st)]
        exact this
      have hpr : PR g ord em st s (if E st s.length = 0 ∧ (treeL E g (chS s) st s.length).length ≤ 60 then some (treeL E g (chS s) st s.length) else none) := ⟨E, b, al, hT, hS0, rfl⟩
      have hp : prG (some (g, ord, n, st, em)) s = _ := prs_eq hw hn hog hn6 hst h32 hpr
      have hz0 : E st s.length = 0 ↔ cvN s.length (E st s.length) = (s.length : Int) := by
        by_cases z : E st s.length < 0
        · rw [cvN_neg z]; omega
        · rw [cvN_pos (by omega)]; omega
      apply b_X9_parse_45 h_a
      case c1 => rw [h13]; omega
      case c2 => rw [h13]; omega
      case k1 =>
        intro q
        rw [h13, hend] at q
        rw [if_neg (fun z => q (hz0.mp z.1))] at hp
        exact k0 hp _ (p3.tr PF.s27) (by rw [gi_si_eq, if_pos rfl]; rfl)
      case k2 =>
        intro q
        rw [h13, hend] at q
        have hE0 := hz0.mpr q
        refine m_X9_buildTree hT g2 ho hS0 hc h13 hE0 (fun M4 f4 hP4 hl4 => ?_) (fun M4 f4 hl4 => ?_)
        · apply b_X9_parse_65 h_a
          rw [if_pos ⟨hE0, hl4⟩] at hp
          have e1 : (if ¬ (1 : Int) = 0 then (1 : Int) else 0) = 1 := rfl
          have e2 : (if ¬ (1 : Int) = 0 then gi M4 45 27 else 0) = gi M4 45 27 := rfl
          rw [e1, e2, si_id]
          exact k1 _ hp M4 (p3.tr f4.pf) hP4
        · apply b_X9_parse_65 h_a
          rw [if_neg (fun z => by omega)] at hp
          have e1 : (if ¬ (0 : Int) = 0 then (1 : Int) else 0) = 0 := rfl
          have e2 : (if ¬ (0 : Int) = 0 then gi M4 45 27 else 0) = 0 := rfl
          rw [e1, e2]
          exact k0 hp _ (p3.tr (f4.pf.tr PF.s27)) (by rw [gi_si_eq, if_pos rfl])
end MN22
section MN22b
variable {B : zB} {K : Int → zM → Prop} {M : zM} {ty wr : List Int} {sk : List (List st3 × Int)} {w u : List st3} {G : Option GC} {j : JS} {on rd : Int}
theorem MS.pf {M' : zM} (h : MS M ty wr sk w u G j on rd) (f : PF M M') : MS M' ty wr sk w u G j on rd ∧ FM M M' := ⟨h.scr f.1 (by decide) (fun q hq => f.2 q (fun z => hq (by unfold scrQ; omega)) (fun z => hq (by unfold scrQ; omega))), f.1.fm (by decide)⟩
theorem MS.gm (h : MS M ty wr sk w u G j on rd) : GM M G := h.2.2.2.2.2.2.1
theorem MS.parse (h : MS M ty wr sk w u G j on rd) (k0 : prG G ty = none → ∀ M', PF M M' → gi M' 45 27 = 0 → K 0 M') (k1 : ∀ L, prG G ty = some L → ∀ M', PF M M' → PM M' L → K 1 M') : zCi B zy_X9_parse 8 0 0 [zR 45, zR 46, zI (gi M 45 1)] M K := by
  rw [h.1.1]
  exact m_X9_parse (a := 46) rfl (Or.inl rfl) h.gm h.1.2.1 h.1.2.2 k0 k1
theorem prG_wt (h : MS M ty wr sk w u G j on rd) {L : List nd} (hp : prG G ty = some L) : WT ty.length L ∧ L.length ≤ 60 := by
  have hg := h.gm
  have ho := h.1.2.2.1
  cases hq : G with
  | none => rw [hq] at hp; cases hp
  | some c =>
    rw [hq] at hp hg
    exact prs_wt hg.2.1 ho hp
theorem m_X9_nodes (h : MS M ty wr sk w u G j on rd) (k : ∀ M', FM M M' → MS M' ty wr sk w u G j on rd → K (nsS G (prG G ty)) M') : zCi B zy_X9_nodes 9 0 0 [zR 45] M K := by
  refine e_X9_nodes (fun n0 => ?_)
  apply b_X9_nodes_0
  refine h.parse (fun hp M1 f1 e1 => ?_) (fun L hp M1 f1 e1 => ?_)
  · apply b_X9_nodes_12
    obtain ⟨h2, h3⟩ := h.pf f1
    have hk := k M1 h3 h2
    have hg := h2.gm
    rw [hp] at hk
    rw [if_pos rfl]
    cases hq : G with
    | none => rw [hq] at hg hk; rw [if_pos (show gi M1 45 11 = 0 from hg)]; exact hk
    | some c => rw [hq] at hg hk; rw [if_neg (by have : gi M1 45 11 = 1 := hg.1; omega)]; exact hk
  · apply b_X9_nodes_12
    obtain ⟨h2, h3⟩ := h.pf f1
    have hk := k M1 h3 h2
    have hg := h2.gm
    rw [hp] at hk
    cases hq : G with
    | none => rw [hq] at hp; cases hp
    | some c =>
      rw [hq] at hg hk
      rw [if_neg (by have : gi M1 45 11 = 1 := hg.1; omega), if_neg (by decide), e1.1]
      exact hk
theorem PM.all {P : List nd} {k : Nat} (h : PM M P) (hk : k < P.length) : gi M 64 k = nR (ndG P k) ∧ gi M 65 k = nL (ndG P k) ∧ gi M 66 k = nB (ndG P k) ∧ gi M 67 k = nZ (ndG P k) ∧ gi M 68 k = nD (ndG P k) ∧ gi M 69 k = nP (ndG P k) := by
  rw [← h.at hk]
  exact ⟨rfl, rfl, rfl, rfl, rfl, rfl⟩
theorem m_X9_node {p1 : Int} (h : MS M ty wr sk w u G j on rd) (k : ∀ M', FM M M' → MS M' ty wr sk w u G j on rd → K (ndS (prG G ty) p1) M') : zCi B zy_X9_node 9 0 0 [zR 45, zI p1] M K := by
  refine e_X9_node (fun n0 => ?_)
  apply b_X9_node_0
  refine h.parse (fun hp M1 f1 e1 => ?_) (fun L hp M1 f1 e1 => ?_)
  · obtain ⟨h2, h3⟩ := h.pf f1
    have hk := k M1 h3 h2
    rw [hp] at hk
    apply b_X9_node_12
    case k1 => rw [if_neg (fun z => z.1 rfl)]; exact hk
    all_goals (intro z; exact absurd rfl z.1)
  · obtain ⟨h2, h3⟩ := h.pf f1
    have hk := k M1 h3 h2
    rw [hp] at hk
    obtain ⟨hwt, hlen⟩ := prG_wt h hp
    have h32 := h.1.2.2.1
    have e27 := e1.1
    have bd : ∀ z : 0 ≤ p1 ∧ p1 < gi M1 45 27, (gi M1 64 p1.toNat = nR (ndG L p1.toNat) ∧ gi M1 65 p1.toNat = nL (ndG L p1.toNat) ∧ gi M1 66 p1.toNat = nB (ndG L p1.toNat) ∧ gi M1 67 p1.toNat = nZ (ndG L p1.toNat) ∧ gi M1 68 p1.toNat = nD (ndG L p1.toNat) ∧ gi M1 69 p1.toNat = nP (ndG L p1.toNat)) ∧ NB ty.length (ndG L p1.toNat) := fun z => ⟨e1.all (by omega), hwt.2.1 _ (by omega)⟩
    apply b_X9_node_12
    case k1 =>
      unfold ndS at hk
      dsimp only at hk
      by_cases z : 0 ≤ p1 ∧ p1 < gi M1 45 27
      · obtain ⟨⟨b1, b2, b3, b4, b5, b6⟩, b7⟩ := bd z
        rw [if_pos ⟨by decide, z⟩, b1, b2, b3, b4]
        rw [if_pos (by omega)] at hk
        exact hk
      · rw [if_neg (fun q => z q.2)]
        rw [if_neg (by omega)] at hk
        exact hk
    case c1 => intro z; omega
    all_goals
      intro z
      obtain ⟨⟨b1, b2, b3, b4, b5, b6⟩, b7, b8, b9, b10, b11⟩ := bd z.2
      first | rw [b1, b2, b3, b4] | rw [b1, b2, b3] | rw [b1, b2] | rw [b1] | rw [b2] | rw [b3]
      omega
theorem m_X9_depth {p1 : Int} (h : MS M ty wr sk w u G j on rd) (k : ∀ M', FM M M' → MS M' ty wr sk w u G j on rd → K (deS (prG G ty) p1) M') : zCi B zy_X9_depth 9 0 0 [zR 45, zI p1] M K := by
  refine e_X9_depth (fun n0 => ?_)
  apply b_X9_depth_0
  refine h.parse (fun hp M1 f1 e1 => ?_) (fun L hp M1 f1 e1 => ?_)
  · obtain ⟨h2, h3⟩ := h.pf f1
    have hk := k M1 h3 h2
    rw [hp] at hk
    apply b_X9_depth_12
    case k1 => rw [if_neg (fun z => z.1 rfl)]; exact hk
    all_goals (intro z; exact absurd rfl z.1)
  · obtain ⟨h2, h3⟩ := h.pf f1
    have hk := k M1 h3 h2
    rw [hp] at hk
    have hlen := (prG_wt h hp).2
    have e27 := e1.1
    apply b_X9_depth_12
    case k1 =>
      unfold deS at hk
      dsimp only at hk
      by_cases z : 0 ≤ p1 ∧ p1 < gi M1 45 27
      · rw [if_pos ⟨by decide, z⟩, (e1.all (k := p1.toNat) (by omega)).2.2.2.2.1]
        rw [if_pos (by omega)] at hk
        exact hk
      · rw [if_neg (fun q => z q.2)]
        rw [if_neg (by omega)] at hk
        exact hk
    case c1 => intro z; omega
end MN22b
