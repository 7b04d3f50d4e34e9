/-! ===== the whole tree: the model ===== -/
section MN21
variable {B : zB} {n0 : Nat} {K : Int → zM → Prop} {g : zG} {s : List Int} {E b al : tE} {ord : Nat → Nat} {em : Nat → Bool} {n F : Nat}
theorem BTit.all (hT : TB E) (hw : WG g) (hn : NG g) (ho : okS s) (hog : OG g ord n em) (hS0 : SAT E b al g (chS s) ord em (s.length + 1) 0) (ih : BTok B n0 K g s E ord n F) {f par : Nat} {ke : Int} (hke : ke ≤ gN g) :
    ∀ (m k : Nat), ((k + m : Nat) : Int) = ke → BTit B n0 K g s E ord n F f par ke m k := by
  have h32 := ho.1
  have gnb := hw.1
  intro m
  induction m with
  | zero =>
    intro k hk x P M e L ha hel hx0 hx1 hc hP hl hf hpar hd h5 kn kf
    have hL : L = [] := by
      simp only [alt, Option.some.injEq, Prod.mk.injEq] at ha
      exact ha.2.symm
    subst hL
    obtain ⟨a1, a2, a3, a4, a5⟩ := h5
    have ef : ((f : Int)).toNat = f := rfl
    have e0 : ∀ (sub : Nat → Int → Int → Int → List nd) (m d par i : Int), P ++ tkl sub E g (chS s) m d par [] i = P := fun _ _ _ _ _ => List.append_nil P
    rw [e0] at kn
    have ek : gi M 71 f = gi M 72 f := by rw [a2, a3]; omega
    apply b_X9_buildTree_30
    case k5 =>
      intro _ _
      rw [(by omega : (f : Int) + (-1) = (f : Int) - 1)]
      exact kn M BF.rf LF.rf hP hl
    case k1 => intro q; omega
    case k2 => intro _ q; rw [ef] at q; exact absurd ek q
    case k3 => intro _ q; rw [ef] at q; exact absurd ek q
    case k4 => intro _ q; rw [ef] at q; exact absurd ek q
    case c1 => intro _; omega
    case c2 => intro _ q; rw [ef] at q; exact absurd ek q
    case c3 => intro _ q; rw [ef] at q; exact absurd ek q
    case c4 => intro _ q; rw [ef] at q; exact absurd ek q
    case c5 => intro _ _; omega
  | succ m ihm =>
    intro k hk x P M e L ha hel hx0 hx1 hc hP hl hf hpar hd h5 kn kf
    have hkg : (k : Int) < gN g := by omega
    have nx := ihm (k + 1) (by omega)
    unfold alt at ha
    by_cases hcond : mor E g (chS s) k 0 x < 0 ∧ lof g k = false
    · rw [if_pos hcond] at ha; cases ha
    · rw [if_neg hcond] at ha
      cases hq : alt E g (chS s) m (k + 1) (enL x (tks E g (chS s) k 33 0 x)) with
      | none => rw [hq] at ha; cases ha
      | some q =>
        rw [hq] at ha
        simp only [Option.map_some, Option.some.injEq, Prod.mk.injEq] at ha
        obtain ⟨hae, haL⟩ := ha
        subst haL
        by_cases hnp : gS g k = 0 ∧ ¬ isNm (gI g k) = true
        · -- a plain character
          obtain ⟨p1, p2⟩ := hnp
          have hlf : lof g k = false := by unfold lof; simp [p1]
          have hm0 : ¬ mor E g (chS s) k 0 x < 0 := fun z => hcond ⟨z, hlf⟩
          have hn6 : ¬ nm (gI g k) < 6 := fun z => p2 (nm_lt.mp z)
          have hmx : mor E g (chS s) k 0 x = x - 1 := by
            have h1 := mor_onc (E := E) (g := g) (ch := chS s) (k := k) (t := 0) (l := x) (by omega)
            rw [h1] at hm0 ⊢
            unfold onc at hm0 ⊢
            rw [if_neg hn6] at hm0 ⊢
            split
            · rfl
            · next z => rw [if_neg z] at hm0; omega
          have ht1 : tks E g (chS s) k 33 0 x = [(k, 0, x, x - 1)] := by
            unfold tks
            rw [if_neg hm0, hmx]
            have : mor E g (chS s) k (0 + 1) (x - 1) < 0 := by
              unfold mor
              rw [if_pos ⟨by decide, by omega⟩]
              decide
            unfold tks
            rw [if_pos this]
          rw [ht1] at hq hel kn kf
          have hq2 : alt E g (chS s) m (k + 1) (x - 1) = some q := hq
          have ecl := tkl_cons (fun r' l' par' i' => tn E g (chS s) s.length F r' l' ((f : Int) + 1 + 1) par' i') (E := E) (g := g) (ch := chS s) (n := s.length) (d := (f : Int) + 1) (par := par) (k, 0, x, x - 1) q.2 P.length
          dsimp only at ecl
          rw [if_neg hn6, if_pos p1] at ecl
          have e1 : [((k, 0, x, x - 1) : tk)] ++ q.2 = (k, 0, x, x - 1) :: q.2 := rfl
          rw [e1, ecl] at kn kf
          have hx1' : 0 ≤ x - 1 := by omega
          obtain ⟨a1, a2, a3, a4, a5⟩ := h5
          have ef : ((f : Int)).toNat = f := rfl
          have ek : ((k : Int)).toNat = k := rfl
          have x3 := hc.1.2.2.1 k hkg
          have hne : ¬ gi M 71 f = gi M 72 f := by rw [a2, a3]; omega
          apply b_X9_buildTree_30
          case k1 => intro z; omega
          case k2 => intro _ _ z; rw [ef, a2, ek, x3.2] at z; exact absurd p1 z
          case k3 => intro _ _ _ z; rw [ef, a2, ek, x3.1] at z; exact absurd z p2
          case k5 => intro _ z; rw [ef] at z; exact absurd z hne
          case c5 => intro _ z; rw [ef] at z; exact absurd z hne
          case k4 =>
            intro _ _ _ _
            rw [ef, a2, a4]
            have hb : BF M (si (si M 71 f ((k : Int) + 1)) 73 f ((s.length : Int) - x + 1)) := ⟨(zSm.rf.st (by decide)).st (by decide), fun q _ => by rw [gi_si_ne (by decide), gi_si_ne (by decide)]⟩
            have hlf : LF f M (si (si M 71 f ((k : Int) + 1)) 73 f ((s.length : Int) - x + 1)) := fun c h1 h2 i hi => by
              have : i ≠ f := by omega
              simp [gi_si, this]
            refine nx (x - 1) P _ q.1 q.2 hq2 (fun p hp => hel p (List.mem_append_right _ hp)) hx1' (by omega) (hc.bf hb) (hP.same (by rw [gi_si_ne (by decide), gi_si_ne (by decide)]) (fun c h1 h2 => by rw [gi_si_ne (by omega), gi_si_ne (by omega)])) hl hf hpar hd ⟨?_, ?_, ?_, ?_, ?_⟩ (fun M' h1 h2 h3 h4 => kn M' (hb.tr h1) (hlf.tr h2) h3 h4) (fun M' h1 h2 => kf M' (hb.tr h1) h2)
            · rw [gi_si_ne (by decide), gi_si_ne (by decide)]; exact a1
            · rw [gi_si_ne (by decide), gi_si_eq, if_pos rfl]; omega
            · rw [gi_si_ne (by decide), gi_si_ne (by decide)]; exact a3
            · rw [gi_si_eq, if_pos rfl]; omega
            · rw [gi_si_ne (by decide), gi_si_ne (by decide)]; exact a5
          case c1 => intro _; omega
          case c2 => intro _ _; rw [ef, a2]; omega
          case c3 => intro _ _ _ _; rw [ef, a2]; omega
          case c4 => intro _ _ _ _; rw [ef, a4]; omega
        · exact l_bt_item hT hw hn ho hog hS0 ih nx hkg (by omega) hnp 33 0 x P M q.1 q.2 (by omega) (Int.le_refl _) (Or.inl rfl) hq hel hx0 hx1 hc hP hl hf hpar hd h5 kn kf
theorem BTok.all (hT : TB E) (hw : WG g) (hn : NG g) (ho : okS s) (hog : OG g ord n em) (hn6 : n ≤ 6) (hS0 : SAT E b al g (chS s) ord em (s.length + 1) 0) : ∀ F, BTok B n0 K g s E ord n F := by
  intro F
  induction F with
  | zero => intro M f j l a par P e L _ _ _ _ _ _ _ _ h; omega
  | succ F ih =>
    intro M f j l a par P e L hc hP hl hf hpar hd hj hl2 hF hr h5 kn kf
    have hord := hog.1 j hj
    have hwr := hw.2.2.2.2.2 (ord j) hord.1
    have hem : ∀ r, FR ord j r → E r l = l → em r = true := fun r hfr he => by
      obtain ⟨j', hj', rfl⟩ := hfr
      have := hog.1 j' (by omega)
      exact (hS0 _ l (Or.inl ⟨by omega, this.1, this.2⟩)).2 he
    have hq2 := rmt_cg (E := E) (E' := E) (ch := chS s) (ch' := chS s) hT chS_neg hw hog hj (l := l) (fun _ _ _ => rfl) (fun _ _ => rfl) hem
    obtain ⟨q1, -⟩ := hq2.2 a e L hr
    have fb := hw.2.2.2.1 a (by omega)
    have fb2 := hw.2.2.2.2.1 (a + 1) (by omega)
    have hlst := lst_ok hT chS_neg hw hn hog hn6 hS0 hj (show l < s.length + 1 by omega)
    rw [hr] at hlst
    have etn : tn E g (chS s) s.length (F + 1) (ord j) l ((f : Int) + 1) par P.length = tkl (fun r' l' par' i' => tn E g (chS s) s.length F r' l' ((f : Int) + 1 + 1) par' i') E g (chS s) s.length ((f : Int) + 1) par L P.length := by
      show tkl _ E g (chS s) s.length ((f : Int) + 1) par (lst (rmt E g (chS s) (ord j) l)) P.length = _
      rw [hr]
      rfl
    rw [etn] at kn kf
    rw [(by omega : gF g a = (((gF g a).toNat : Nat) : Int))] at h5
    refine BTit.all hT hw hn ho hog hS0 ih (ke := gF g (a + 1)) fb2.2 (gF g (a + 1) - gF g a).toNat (gF g a).toNat (by omega) l P M e L (rmt_alt hr) (fun p hp => ?_) (by omega) (by omega) hc hP hl hf hpar hd h5 kn kf
    obtain ⟨b1, b2, b3, b4, b5⟩ := hlst p hp
    refine ⟨b1, b2, b3, by omega, fun h6 => ?_⟩
    obtain ⟨-, -, j2, c1, c2, c3⟩ := b5 h6
    exact ⟨j2, c1, c2, c3 F hF⟩
theorem m_X9_buildTree {M : zM} {st : Nat} (hT : TB E) (hg : GG g ord n st em) (ho : okS s) (hS0 : SAT E b al g (chS s) ord em (s.length + 1) 0) (hc : BC M g s E) (h13 : gi M 45 13 = (st : Int)) (hE0 : E st s.length = 0)
    (k1 : ∀ M', BF M M' → PM M' (treeL E g (chS s) st s.length) → (treeL E g (chS s) st s.length).length ≤ 60 → K 1 M') (k0 : ∀ M', BF M M' → 60 < (treeL E g (chS s) st s.length).length → K 0 M') : zCi B zy_X9_buildTree 7 0 0 [zR 45] M K := by
  obtain ⟨hw, hn, hog, hn6, hst⟩ := hg
  have h32 := ho.1
  obtain ⟨i, hin, hii⟩ := hog.2.2.1 st hst.1 hst.2
  have hgd := (hS0 st s.length (Or.inl ⟨by omega, hst.1, hst.2⟩)).1.1
  refine e_X9_buildTree (fun n0 => ?_)
  apply b_X9_buildTree_0
  rw [h13, hc.2.1.1]
  have hb0 : BF M (si M 45 27 0) := ⟨zSm.rf.st (by decide), fun q hq => by rw [gi_si_eq, if_neg hq]⟩
  have hP0 : PM (si M 45 27 0) [] := ⟨by rw [gi_si_eq, if_pos rfl]; rfl, fun j p hj => by cases hj⟩
  refine m_X9_addNode hP0 (by decide) (fun q => absurd q (by decide)) (fun _ M1 g1 _ g3 => ?_)
  have hb1 := hb0.tr g1
  apply b_X9_buildTree_21
  cases hr : rmt E g (chS s) (ord i) ((s.length : Nat) : Int) with
  | none =>
    exfalso
    rw [← hii, hr] at hgd
    rw [hii] at hgd
    have : E st s.length = -1 := hgd
    omega
  | some p =>
    obtain ⟨a, e, L⟩ := p
    have hND : ndM M1 0 = ((st : Int), 0, 0, (s.length : Int), 0, -1) := g3.2 0 _ rfl
    refine m_X9_openFrame (f := 0) (q := 0) (l := s.length) (j := i) hT (hc.bf hb1) hw hn hog (fun r hfr he => ?_) ho hin (Nat.le_refl _) (by decide) (by decide) ?_ ?_ hr (fun M2 c1 c2 c3 c4 => ?_)
    · obtain ⟨j', hj', rfl⟩ := hfr
      have := hog.1 j' (by omega)
      exact (hS0 _ s.length (Or.inl ⟨by omega, this.1, this.2⟩)).2 he
    · have : gi M1 64 0 = (ndM M1 0).1 := rfl
      rw [this, hND, hii]
    · have : gi M1 66 0 = (ndM M1 0).2.2.1 := rfl
      rw [this, hND]
      show (0 : Int) = _
      omega
    · apply b_X9_buildTree_28
      have hb2 := hb1.tr c1
      have hP2 : PM M2 ([] ++ [((st : Int), 0, 0, (s.length : Int), 0, -1)]) := g3.same (by rw [c2 45 (by decide)]) (fun c h1 h2 => c2 c (by omega))
      have eT : [] ++ [((st : Int), 0, 0, (s.length : Int), 0, -1)] ++ tn E g (chS s) s.length 300 (ord i) ((s.length : Nat) : Int) (((0 : Nat) : Int) + 1) ((0 : Nat) : Int) (([] ++ [((st : Int), 0, 0, (s.length : Int), 0, -1)] : List nd).length : Nat) = treeL E g (chS s) st s.length := by
        unfold treeL
        rw [hii]
        rfl
      have hall := BTok.all (B := B) (n0 := n0) (K := K) hT hw hn ho hog hn6 hS0 300 M2 0 i s.length a 0 ([] ++ [((st : Int), 0, 0, (s.length : Int), 0, -1)]) e L (hc.bf hb2) hP2 (show 1 ≤ 60 by omega) (show 0 < 1 by omega) (show 0 < 1 by omega) rfl hin (Nat.le_refl _) (by omega) hr c4
      rw [eT] at hall
      refine hall (fun M' d1 d2 d3 d4 => ?_) (fun M' d1 d2 => k0 M' (hb2.tr d1) d2)
      apply b_X9_buildTree_30
      case k1 => intro _; exact k1 M' (hb2.tr d1) d3 d4
      all_goals (intro q; exact absurd q (by decide))
end MN21
