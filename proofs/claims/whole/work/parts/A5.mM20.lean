/-! ===== the tree: the model ===== -/
abbrev z30 (B : zB) (n0 : Nat) (K : Int → zM → Prop) (f : Int) (M : zM) : Prop := zGi B zy_X9_buildTree 7 0 0 n0 K 30 [some (zR 45), some (zI f), none, none, none, none, none] [] M 0 0
theorem PM.at {M : zM} {P : List nd} (h : PM M P) {k : Nat} (hk : k < P.length) : ndM M k = ndG P k := by
  refine h.2 k _ ?_
  unfold ndG
  simp [List.getD, hk]
theorem PM.same {M M' : zM} {P : List nd} (h : PM M P) (e : gi M' 45 27 = gi M 45 27) (e1 : ∀ a, 64 ≤ a → a ≤ 69 → gi M' a = gi M a) : PM M' P :=
  ⟨e.trans h.1, fun j p hj => by
    rw [← h.2 j p hj]
    unfold ndM
    rw [e1 64 (by decide) (by decide), e1 65 (by decide) (by decide), e1 66 (by decide) (by decide), e1 67 (by decide) (by decide), e1 68 (by decide) (by decide), e1 69 (by decide) (by decide)]⟩
def BTok (B : zB) (n0 : Nat) (K : Int → zM → Prop) (g : zG) (s : List Int) (E : tE) (ord : Nat → Nat) (n F : Nat) : Prop := ∀ (M : zM) (f j l a par : Nat) (P : List nd) (e : Int) (L : List tk), BC M g s E → PM M P → P.length ≤ 60 → f < P.length → par < P.length → nD (ndG P par) = f → j < n → l ≤ s.length → 7 * l + j < F → rmt E g (chS s) (ord j) l = some (a, e, L) → F5 M s.length f par (gF g a) (gF g (a + 1)) l 0 →
  (∀ M', BF M M' → LF f M M' → PM M' (P ++ tn E g (chS s) s.length F (ord j) l ((f : Int) + 1) par P.length) → (P ++ tn E g (chS s) s.length F (ord j) l ((f : Int) + 1) par P.length).length ≤ 60 → z30 B n0 K ((f : Int) - 1) M') →
  (∀ M', BF M M' → 60 < (P ++ tn E g (chS s) s.length F (ord j) l ((f : Int) + 1) par P.length).length → K 0 M') → z30 B n0 K f M
section MN20
variable {B : zB} {n0 : Nat} {K : Int → zM → Prop} {g : zG} {s : List Int} {E b al : tE} {ord : Nat → Nat} {em : Nat → Bool} {n F : Nat}
/-- from the loop's head to behind the taking of an item -/
theorem l_bt_take (hT : TB E) (hw : WG g) (hn : NG g) (ho : okS s) {M : zM} {f par k : Nat} {ke x t : Int} (hc : BC M g s E) (hf : f < 61) (hk : (k : Int) < gN g) (hke : (k : Int) < ke) (hx : 0 ≤ x ∧ x ≤ s.length) (ht : 0 ≤ t) (hnp : ¬ (gS g k = 0 ∧ ¬ isNm (gI g k) = true)) (h5 : F5 M s.length f par k ke x t)
    (kk : zGi B zy_X9_buildTree 7 0 0 n0 K 120 [some (zR 45), some (zI (f : Int)), some (zI (k : Int)), some (zI ((s.length : Int) - x)), none, none, none] [zI (cvN s.length (mor E g (chS s) k t x))] M 0 0) : z30 B n0 K f M := by
  obtain ⟨a1, a2, a3, a4, a5⟩ := h5
  have gnb := hw.1
  have ef : ((f : Int)).toNat = f := rfl
  have ek : ((k : Int)).toNat = k := rfl
  have x3 := hc.1.2.2.1 k hk
  apply b_X9_buildTree_30
  case k1 => intro q; omega
  case k2 =>
    intro _ _ _
    rw [ef, a2, a4, a5]
    exact m_X9_taking hT hc hw hn ho hk hx ht kk
  case k3 =>
    intro _ _ _ _
    rw [ef, a2, a4, a5]
    exact m_X9_taking hT hc hw hn ho hk hx ht kk
  case k4 =>
    intro _ _ q1 q2
    rw [ef, a2, ek] at q1 q2
    rw [x3.2] at q1
    rw [x3.1] at q2
    exact absurd ⟨q1, q2⟩ hnp
  case k5 => intro _ q; rw [ef, a2, a3] at q; omega
  case c1 => intro _; omega
  case c2 => intro _ _; rw [ef, a2]; omega
  case c3 => intro _ _ _ _; rw [ef, a2]; omega
  case c4 =>
    have := ho.1
    intro _ _ _ _
    rw [ef, a4]
    omega
  case c5 => intro _ _; omega
theorem F5.go {M : zM} {m f par : Nat} {k ke x t : Int} (h : F5 M m f par k ke x t) {y : Int} : F5 (si (si M 74 f (t + 1)) 73 f ((m : Int) - y)) m f par k ke y (t + 1) := by
  obtain ⟨a1, a2, a3, a4, a5⟩ := h
  refine ⟨?_, ?_, ?_, ?_, ?_⟩
  · rw [gi_si_ne (by decide), gi_si_ne (by decide)]; exact a1
  · rw [gi_si_ne (by decide), gi_si_ne (by decide)]; exact a2
  · rw [gi_si_ne (by decide), gi_si_ne (by decide)]; exact a3
  · rw [gi_si_eq, if_pos rfl]
  · rw [gi_si_ne (by decide), gi_si_eq, if_pos rfl]
/-- what the items from k on give -/
def BTit (B : zB) (n0 : Nat) (K : Int → zM → Prop) (g : zG) (s : List Int) (E : tE) (ord : Nat → Nat) (n F f par : Nat) (ke : Int) (m k : Nat) : Prop := ∀ (x : Int) (P : List nd) (M : zM) (e : Int) (L : List tk), alt E g (chS s) m k x = some (e, L) → (∀ p ∈ L, EL g ord n s.length F p) → 0 ≤ x → x ≤ s.length → BC M g s E → PM M P → P.length ≤ 60 → f < P.length → par < P.length → nD (ndG P par) = f → F5 M s.length f par k ke x 0 →
  (∀ M', BF M M' → LF f M M' → PM M' (P ++ tkl (fun r' l' par' i' => tn E g (chS s) s.length F r' l' ((f : Int) + 1 + 1) par' i') E g (chS s) s.length ((f : Int) + 1) par L P.length) → (P ++ tkl (fun r' l' par' i' => tn E g (chS s) s.length F r' l' ((f : Int) + 1 + 1) par' i') E g (chS s) s.length ((f : Int) + 1) par L P.length).length ≤ 60 → z30 B n0 K ((f : Int) - 1) M') →
  (∀ M', BF M M' → 60 < (P ++ tkl (fun r' l' par' i' => tn E g (chS s) s.length F r' l' ((f : Int) + 1 + 1) par' i') E g (chS s) s.length ((f : Int) + 1) par L P.length).length → K 0 M') → z30 B n0 K f M
/-- an item is left -/
theorem l_bt_stop (hT : TB E) (hw : WG g) (hn : NG g) (ho : okS s) {f par m k : Nat} {ke : Int} (nx : BTit B n0 K g s E ord n F f par ke m (k + 1)) (hk : (k : Int) < gN g) (hke : (k : Int) < ke) (hnp : ¬ (gS g k = 0 ∧ ¬ isNm (gI g k) = true)) {x t e : Int} {P : List nd} {M : zM} {L : List tk} (hm : mor E g (chS s) k t x < 0) (ht : 0 ≤ t) (ha : alt E g (chS s) m (k + 1) x = some (e, L)) (hel : ∀ p ∈ L, EL g ord n s.length F p) (hx0 : 0 ≤ x) (hx1 : x ≤ s.length) (hc : BC M g s E) (hP : PM M P) (hl : P.length ≤ 60) (hf : f < P.length) (hpar : par < P.length) (hd : nD (ndG P par) = f) (h5 : F5 M s.length f par k ke x t)
    (kn : ∀ M', BF M M' → LF f M M' → PM M' (P ++ tkl (fun r' l' par' i' => tn E g (chS s) s.length F r' l' ((f : Int) + 1 + 1) par' i') E g (chS s) s.length ((f : Int) + 1) par L P.length) → (P ++ tkl (fun r' l' par' i' => tn E g (chS s) s.length F r' l' ((f : Int) + 1 + 1) par' i') E g (chS s) s.length ((f : Int) + 1) par L P.length).length ≤ 60 → z30 B n0 K ((f : Int) - 1) M')
    (kf : ∀ M', BF M M' → 60 < (P ++ tkl (fun r' l' par' i' => tn E g (chS s) s.length F r' l' ((f : Int) + 1 + 1) par' i') E g (chS s) s.length ((f : Int) + 1) par L P.length).length → K 0 M') : z30 B n0 K f M := by
  refine l_bt_take hT hw hn ho hc (by omega) hk hke ⟨hx0, hx1⟩ ht hnp h5 ?_
  rw [cvN_neg hm]
  obtain ⟨a1, a2, a3, a4, a5⟩ := h5
  have gnb := hw.1
  have ef : ((f : Int)).toNat = f := rfl
  apply b_X9_buildTree_120
  case k2 =>
    intro _
    rw [ef, a2]
    have hb : BF M (si (si M 71 f ((k : Int) + 1)) 74 f 0) := ⟨(zSm.rf.st (by decide)).st (by decide), fun q _ => by rw [gi_si_ne (by decide), gi_si_ne (by decide)]⟩
    have hlf : LF f M (si (si M 71 f ((k : Int) + 1)) 74 f 0) := fun c h1 h2 i hi => by
      have : i ≠ f := by omega
      simp [gi_si, this]
    refine nx x P _ e L ha hel hx0 hx1 (hc.bf hb) (hP.same (by rw [gi_si_ne (by decide), gi_si_ne (by decide)]) (fun c h1 h2 => by rw [gi_si_ne (by omega), gi_si_ne (by omega)])) hl hf hpar hd ⟨?_, ?_, ?_, ?_, ?_⟩ (fun M' h1 h2 h3 h4 => kn M' (hb.tr h1) (hlf.tr h2) h3 h4) (fun M' h1 h2 => kf M' (hb.tr h1) h2)
    · rw [gi_si_ne (by decide), gi_si_ne (by decide)]; exact a1
    · rw [gi_si_ne (by decide), gi_si_eq, if_pos rfl]; omega
    · rw [gi_si_ne (by decide), gi_si_ne (by decide)]; exact a3
    · rw [gi_si_ne (by decide), gi_si_ne (by decide)]; exact a4
    · rw [gi_si_eq, if_pos rfl]
  case k1 => intro q; exact absurd q (by decide)
  case c1 => intro q; exact absurd q (by decide)
  case c2 => intro q; exact absurd q (by decide)
  case c3 => intro q; exact absurd q (by decide)
  case c4 => intro _; omega
  case c5 => intro _; rw [ef, a2]; omega
theorem l_bt_item (hT : TB E) (hw : WG g) (hn : NG g) (ho : okS s) (hog : OG g ord n em) (hS0 : SAT E b al g (chS s) ord em (s.length + 1) 0) (ih : BTok B n0 K g s E ord n F) {f par m k : Nat} {ke : Int} (nx : BTit B n0 K g s E ord n F f par ke m (k + 1)) (hk : (k : Int) < gN g) (hke : (k : Int) < ke) (hnp : ¬ (gS g k = 0 ∧ ¬ isNm (gI g k) = true)) :
    ∀ (f1 : Nat) (t x : Int) (P : List nd) (M : zM) (e : Int) (L2 : List tk), t + f1 = 33 → 0 ≤ t → (t = 0 ∨ x + t ≤ 33) → alt E g (chS s) m (k + 1) (enL x (tks E g (chS s) k f1 t x)) = some (e, L2) → (∀ p ∈ tks E g (chS s) k f1 t x ++ L2, EL g ord n s.length F p) → 0 ≤ x → x ≤ s.length → BC M g s E → PM M P → P.length ≤ 60 → f < P.length → par < P.length → nD (ndG P par) = f → F5 M s.length f par k ke x t →
    (∀ M', BF M M' → LF f M M' → PM M' (P ++ tkl (fun r' l' par' i' => tn E g (chS s) s.length F r' l' ((f : Int) + 1 + 1) par' i') E g (chS s) s.length ((f : Int) + 1) par (tks E g (chS s) k f1 t x ++ L2) P.length) → (P ++ tkl (fun r' l' par' i' => tn E g (chS s) s.length F r' l' ((f : Int) + 1 + 1) par' i') E g (chS s) s.length ((f : Int) + 1) par (tks E g (chS s) k f1 t x ++ L2) P.length).length ≤ 60 → z30 B n0 K ((f : Int) - 1) M') →
    (∀ M', BF M M' → 60 < (P ++ tkl (fun r' l' par' i' => tn E g (chS s) s.length F r' l' ((f : Int) + 1 + 1) par' i') E g (chS s) s.length ((f : Int) + 1) par (tks E g (chS s) k f1 t x ++ L2) P.length).length → K 0 M') → z30 B n0 K f M := by
  have h32 := ho.1
  have gnb := hw.1
  have hmb := fun t x (h : 0 ≤ x) => mor_bd (E := E) (g := g) (ch := chS s) (k := k) (t := t) (l := x) hT chS_neg hw hk h
  intro f1
  induction f1 with
  | zero =>
    intro t x P M e L2 ht ht0 htx ha hel hx0 hx1 hc hP hl hf hpar hd h5 kn kf
    have hm := hmb t x hx0
    exact l_bt_stop hT hw hn ho nx hk hke hnp (x := x) (t := t) (by omega) ht0 ha hel hx0 hx1 hc hP hl hf hpar hd h5 kn kf
  | succ f1 ihf =>
    intro t x P M e L2 ht ht0 htx ha hel hx0 hx1 hc hP hl hf hpar hd h5 kn kf
    have hm := hmb t x hx0
    unfold tks at ha hel kn kf
    by_cases z : mor E g (chS s) k t x < 0
    · rw [if_pos z] at ha hel kn kf
      exact l_bt_stop hT hw hn ho nx hk hke hnp (x := x) (t := t) z ht0 ha hel hx0 hx1 hc hP hl hf hpar hd h5 kn kf
    · rw [if_neg z] at ha hel kn kf
      have hy : mor E g (chS s) k t x = onc E g (chS s) k x := mor_onc (by omega)
      generalize hyy : mor E g (chS s) k t x = y at *
      rw [enL_cons] at ha
      dsimp only at ha
      have hel0 := hel _ (List.mem_append_left _ List.mem_cons_self)
      have hel1 : ∀ p ∈ tks E g (chS s) k f1 (t + 1) y ++ L2, EL g ord n s.length F p := fun p hp => hel p (List.mem_cons_of_mem _ hp)
      obtain ⟨-, b1, b2, b3, b4⟩ := hel0
      dsimp only at b1 b2 b3 b4
      have hty : t + 1 = 0 ∨ y + (t + 1) ≤ 33 := by
        rcases htx with h | h
        · omega
        · by_cases w : 0 < t
          · have := hm.2.2 w; omega
          · omega
      refine l_bt_take hT hw hn ho hc (by omega) hk hke ⟨hx0, hx1⟩ ht0 hnp h5 ?_
      rw [hyy, cvN_pos b1]
      have h5' := id h5
      obtain ⟨a1, a2, a3, a4, a5⟩ := h5'
      have ef : ((f : Int)).toNat = f := rfl
      have ek : ((k : Int)).toNat = k := rfl
      have ep : ((par : Int)).toNat = par := rfl
      have x3 := hc.1.2.2.1 k hk
      apply b_X9_buildTree_120
      case k2 => intro q; omega
      case c1 => intro _; omega
      case c2 => intro _; omega
      case c3 => intro _ q; rw [ek, x3.1] at q ⊢; have := isNm_iff.mp q; omega
      case c4 => intro q; omega
      case c5 => intro q; omega
      case k1 =>
        intro _
        rw [ef, ek, x3.1, a1, a5]
        refine m_X9_isLoose (x := x) hT hc hw hn ho hk ⟨b1, by omega⟩ ht0 ?_
        have e68 : gi M 68 par = (f : Int) := by
          have := hP.at hpar
          rw [← hd, ← this]
          rfl
        apply b_X9_buildTree_199
        case c1 => omega
        case c2 => omega
        case c3 => rw [ep, e68]; omega
        case k1 =>
          rw [ep, e68, (by omega : (s.length : Int) - y - ((s.length : Int) - x) = x - y)]
          have etk : (nm (gI g k), loo E g (chS s) (k, t, x, y), (s.length : Int) - x, x - y, (f : Int) + 1, (par : Int)) = tkn E g (chS s) s.length ((f : Int) + 1) par (k, t, x, y) := rfl
          have enm : (if isNm (gI g k) = true then gI g k - 65 else 6) = nm (gI g k) := rfl
          rw [enm]
          have ecl := tkl_cons (fun r' l' par' i' => tn E g (chS s) s.length F r' l' ((f : Int) + 1 + 1) par' i') (E := E) (g := g) (ch := chS s) (n := s.length) (d := (f : Int) + 1) (par := par) (k, t, x, y) (tks E g (chS s) k f1 (t + 1) y ++ L2) P.length
          dsimp only at ecl
          rw [List.cons_append] at kn kf
          have hgo : 1 ≤ (tkl (fun r' l' par' i' => tn E g (chS s) s.length F r' l' ((f : Int) + 1 + 1) par' i') E g (chS s) s.length ((f : Int) + 1) par ((k, t, x, y) :: (tks E g (chS s) k f1 (t + 1) y ++ L2)) P.length).length := by
            rw [ecl]
            split
            · rw [List.length_cons]; omega
            · next h6 =>
              split
              · next h0 => exact absurd ⟨h0, fun q => h6 (nm_lt.mpr q)⟩ hnp
              · rw [List.length_cons]; omega
          refine m_X9_addNode hP hl (fun q => ?_) (fun q M1 g1 g2 g3 => ?_)
          · apply b_X9_buildTree_218
            case k3 => intro _; exact kf M BF.rf (by rw [List.length_append]; omega)
            all_goals (intro w; exact absurd rfl w)
          · rw [etk] at g3
            generalize hN : tkn E g (chS s) s.length ((f : Int) + 1) par (k, t, x, y) = N at *
            have lfN : (P ++ [N]).length = P.length + 1 := by rw [List.length_append]; rfl
            have h5b : F5 M1 s.length f par k ke x t := ⟨by rw [g2 70 (by decide)]; exact a1, by rw [g2 71 (by decide)]; exact a2, by rw [g2 72 (by decide)]; exact a3, by rw [g2 73 (by decide)]; exact a4, by rw [g2 74 (by decide)]; exact a5⟩
            have hb2 : BF M1 (si (si M1 74 f (t + 1)) 73 f ((s.length : Int) - y)) := ⟨(zSm.rf.st (by decide)).st (by decide), fun q _ => by rw [gi_si_ne (by decide), gi_si_ne (by decide)]⟩
            have hlf2 : LF f M (si (si M1 74 f (t + 1)) 73 f ((s.length : Int) - y)) := fun c h1 h2 i hi => by
              have : i ≠ f := by omega
              rw [← g2 c h1]
              simp [gi_si, this]
            have hP2 : PM (si (si M1 74 f (t + 1)) 73 f ((s.length : Int) - y)) (P ++ [N]) := g3.same (by rw [gi_si_ne (by decide), gi_si_ne (by decide)]) (fun c h1 h2 => by rw [gi_si_ne (by omega), gi_si_ne (by omega)])
            have h5c : F5 (si (si M1 74 f (t + 1)) 73 f ((s.length : Int) - y)) s.length f par k ke y (t + 1) := h5b.go
            have e74 : gi M1 74 f = t := h5b.2.2.2.2
            have e27 : gi M1 45 27 - 1 = (P.length : Int) := by rw [g3.1, lfN]; omega
            have hpar2 : nD (ndG (P ++ [N]) par) = f := by rw [ndG_app1 hpar]; exact hd
            generalize hM2 : si (si M1 74 f (t + 1)) 73 f ((s.length : Int) - y) = M2 at *
            have hbb := g1.tr hb2
            apply b_X9_buildTree_218
            case k3 => intro w; exact absurd w (by decide)
            case c1 => intro _; omega
            case c2 => intro _; rw [ef, e74]; omega
            case c3 => intro _ _; omega
            case c4 => intro _ _; rw [e27]; omega
            case k1 =>
              intro _ hv5
              rw [ef, e74, hM2]
              have hnn : ¬ nm (gI g k) < 6 := fun w => by rw [if_pos (nm_lt.mp w)] at hv5; exact absurd hv5 (by decide)
              rw [if_neg hnn, if_neg (fun w => hnp ⟨w, fun q => hnn (nm_lt.mpr q)⟩)] at ecl
              have eL : P ++ tkl (fun r' l' par' i' => tn E g (chS s) s.length F r' l' ((f : Int) + 1 + 1) par' i') E g (chS s) s.length ((f : Int) + 1) par ((k, t, x, y) :: (tks E g (chS s) k f1 (t + 1) y ++ L2)) P.length = (P ++ [N]) ++ tkl (fun r' l' par' i' => tn E g (chS s) s.length F r' l' ((f : Int) + 1 + 1) par' i') E g (chS s) s.length ((f : Int) + 1) par (tks E g (chS s) k f1 (t + 1) y ++ L2) (P ++ [N]).length := by
                rw [ecl, lfN, List.append_assoc]
                rfl
              rw [eL] at kn kf
              exact ihf (t + 1) y (P ++ [N]) M2 e L2 (by omega) (by omega) hty ha hel1 b1 (by omega) (hc.bf hbb) hP2 (by omega) (by omega) (by omega) hpar2 h5c (fun M' h1 h2 h3 h4 => kn M' (hbb.tr h1) (hlf2.tr h2) h3 h4) (fun M' h1 h2 => kf M' (hbb.tr h1) h2)
            case k2 =>
              intro _ hv5
              rw [ef, e74, hM2, e27, (by omega : (f : Int) + 1 = ((f + 1 : Nat) : Int))]
              have hnm : isNm (gI g k) = true := Decidable.byContradiction (fun w => hv5 (if_neg w))
              have hn6 := nm_lt.mpr hnm
              obtain ⟨j, hj, hj2, hjF⟩ := b4 hn6
              have hord := hog.1 j hj
              have exn : x = ((x.toNat : Nat) : Int) := by omega
              have hgd := (hS0 (ord j) x.toNat (Or.inl ⟨by omega, hord.1, hord.2⟩)).1.1
              have heo : onc E g (chS s) k x = E (ord j) x.toNat := by
                unfold onc
                rw [if_pos hn6, hj2]
              cases hr : rmt E g (chS s) (ord j) ((x.toNat : Nat) : Int) with
              | none =>
                exfalso
                rw [hr] at hgd
                have : E (ord j) x.toNat = -1 := hgd
                omega
              | some p =>
                obtain ⟨a2', e2, L3⟩ := p
                have hND : ndM M2 P.length = N := hP2.2 P.length N (by rw [List.getElem?_append_right (Nat.le_refl _), Nat.sub_self]; rfl)
                have h64 : gi M2 64 P.length = (ord j : Int) := by
                  have : gi M2 64 P.length = (ndM M2 P.length).1 := rfl
                  rw [this, hND, ← hN]
                  show nm (gI g k) = (ord j : Int)
                  have := nm_bd (gI g k)
                  omega
                have h66 : gi M2 66 P.length = (s.length : Int) - ((x.toNat : Nat) : Int) := by
                  have : gi M2 66 P.length = (ndM M2 P.length).2.2.1 := rfl
                  rw [this, hND, ← hN]
                  show (s.length : Int) - x = _
                  omega
                refine m_X9_openFrame (f := f + 1) (q := P.length) hT (hc.bf hbb) hw hn hog (fun r hfr he => ?_) ho hj (by omega) (by omega) (by omega) h64 h66 hr (fun M3 c1 c2 c3 c4 => ?_)
                · obtain ⟨j', hj', rfl⟩ := hfr
                  have := hog.1 j' (by omega)
                  exact (hS0 _ x.toNat (Or.inl ⟨by omega, this.1, this.2⟩)).2 he
                · apply b_X9_buildTree_260
                  have hbc := hbb.tr c1
                  have hP3 : PM M3 (P ++ [N]) := hP2.same (by rw [c2 45 (by decide)]) (fun c h1 h2 => c2 c (by omega))
                  have esub : tn E g (chS s) s.length F (nm (gI g k)).toNat x ((f : Int) + 1 + 1) P.length ((P.length : Int) + 1) = tn E g (chS s) s.length F (ord j) ((x.toNat : Nat) : Int) (((f + 1 : Nat) : Int) + 1) P.length (P ++ [N]).length := by
                    rw [hj2, ← exn, lfN]
                    rfl
                  rw [if_pos hn6, esub] at ecl
                  generalize hT3 : tn E g (chS s) s.length F (ord j) ((x.toNat : Nat) : Int) (((f + 1 : Nat) : Int) + 1) P.length (P ++ [N]).length = T3 at *
                  have eL : P ++ tkl (fun r' l' par' i' => tn E g (chS s) s.length F r' l' ((f : Int) + 1 + 1) par' i') E g (chS s) s.length ((f : Int) + 1) par ((k, t, x, y) :: (tks E g (chS s) k f1 (t + 1) y ++ L2)) P.length = (P ++ [N] ++ T3) ++ tkl (fun r' l' par' i' => tn E g (chS s) s.length F r' l' ((f : Int) + 1 + 1) par' i') E g (chS s) s.length ((f : Int) + 1) par (tks E g (chS s) k f1 (t + 1) y ++ L2) (P ++ [N] ++ T3).length := by
                    rw [ecl, List.length_append (as := P ++ [N]), lfN, List.append_assoc, List.append_assoc]
                    rfl
                  rw [eL] at kn kf
                  refine ih M3 (f + 1) j x.toNat a2' P.length (P ++ [N]) e2 L3 (hc.bf hbc) hP3 (by omega) (by omega) (by omega) ?_ hj (by omega) hjF hr c4 (fun M4 d1 d2 d3 d4 => ?_) (fun M4 d1 d2 => ?_)
                  · rw [ndG_app2 (Nat.le_refl _), Nat.sub_self]
                    show nD N = _
                    rw [← hN]
                    show (f : Int) + 1 = _
                    omega
                  · rw [hT3] at d3 d4
                    rw [(by omega : ((f + 1 : Nat) : Int) - 1 = (f : Int))]
                    have hlt : (P ++ [N]).length ≤ (P ++ [N] ++ T3).length := by rw [List.length_append (as := P ++ [N])]; omega
                    have hl4 : LF f M M4 := hlf2.tr (c3.up.tr d2.up)
                    exact ihf (t + 1) y (P ++ [N] ++ T3) M4 e L2 (by omega) (by omega) hty ha hel1 b1 (by omega) (hc.bf (hbc.tr d1)) d3 d4 (by omega) (by omega) (by rw [ndG_app1 (by omega)]; exact hpar2) ((h5c.lf c3 (by omega)).lf d2 (by omega)) (fun M' h1 h2 h3 h4 => kn M' ((hbc.tr d1).tr h1) (hl4.tr h2) h3 h4) (fun M' h1 h2 => kf M' ((hbc.tr d1).tr h1) h2)
                  · rw [hT3] at d2
                    refine kf M4 (hbc.tr d1) ?_
                    rw [List.length_append (as := P ++ [N] ++ T3)]
                    omega
end MN20
