/-! ===== one move, all moves: the model ===== -/
theorem bmS_succ {on : Int} {oc : List Int → Int} {ps : List Int → Option (List nd)} {f : Nat} {L : List nd} {v : Int} {i : Nat} {ty : List Int} {j : JS} : bmS on oc ps (f + 1) L v i ty j = if v ≤ 0 ∨ ¬ j.2.2.2.2 = 0 then (ty, j)
      else if L.length ≤ i then bmS on oc ps f L (v - 1) 0 ty j
      else if nZ (ndG L i) = v then
        if (tmS on oc ps ty L i (L.length - i) i j).1 = true then bmS on oc ps f ((ps (tmS on oc ps ty L i (L.length - i) i j).2.1).getD []) (tmS on oc ps ty L i (L.length - i) i j).2.1.length 0 (tmS on oc ps ty L i (L.length - i) i j).2.1 (tmS on oc ps ty L i (L.length - i) i j).2.2
        else bmS on oc ps f L v (i + 1) ty (tmS on oc ps ty L i (L.length - i) i j).2.2
      else bmS on oc ps f L v (i + 1) ty j := rfl
theorem bmS_stop {on : Int} {oc : List Int → Int} {ps : List Int → Option (List nd)} {f : Nat} {L : List nd} {v : Int} {i : Nat} {ty : List Int} {j : JS} (h : v ≤ 0 ∨ ¬ j.2.2.2.2 = 0) : bmS on oc ps f L v i ty j = (ty, j) := by
  cases f with
  | zero => rfl
  | succ f => rw [bmS_succ, if_pos h]
section MN33
variable {B : zB} {n0 : Nat} {K : Int → zM → Prop} {Kv : zM → Prop} {M : zM} {ty wr : List Int} {sk : List (List st3 × Int)} {w u : List st3} {G : Option GC} {j : JS} {on rd : Int} {L : List nd}
/-- when it has ended nothing is moved any more -/
theorem l_X9_mv_end (hv : MVM M L) (h60 : L.length ≤ 60) (hen : ¬ gi M 45 47 = 0) (kk : K 0 M) : ∀ (d : Nat) (v : Int), v + 1 = d → v ≤ 32 → zGi B zy_X9_move 11 0 0 n0 K 102 [some (zR 45), some (zI v), none] [] M 0 0 := by
  intro d
  induction d with
  | zero =>
    intro v hd hv32
    apply b_X9_move_102
    case k1 => intro _; exact kk
    case k2 => intro q; omega
  | succ d ih =>
    intro v hd hv32
    apply b_X9_move_102
    case k1 => intro _; exact kk
    case k2 =>
      intro _
      apply b_X9_move_108
      case k1 => intro _; exact ih _ (by omega) (by omega)
      case k2 => intro _ _; exact ih _ (by omega) (by omega)
      case k3 => intro _ q; exact absurd q hen
      case k4 => intro _ q; exact absurd q hen
      case c1 => intro _; omega
      case c2 => intro _ _; omega
      case c3 => intro _ q; exact absurd q hen
      case c4 => intro _ q; exact absurd q hen
/-- nodes without characters aren't moved -/
theorem l_X9_mv_0 (hw : WT ty.length L) (h60 : L.length ≤ 60) (hv : MVM M L) (kk : K 0 M) : ∀ (m i : Nat), i + m = L.length → zGi B zy_X9_move 11 0 0 n0 K 108 [some (zR 45), some (zI 0), some (zI (i : Int))] [] M 0 0 := by
  have stop : zGi B zy_X9_move 11 0 0 n0 K 102 [some (zR 45), some (zI (0 + (-1))), none] [] M 0 0 := by
    apply b_X9_move_102
    case k1 => intro _; exact kk
    case k2 => intro q; omega
  intro m
  induction m with
  | zero =>
    intro i hi
    have e63 := hv.1
    apply b_X9_move_108
    case k1 => intro _; exact stop
    case c1 => intro _; omega
    all_goals (intro q; rw [e63] at q; omega)
  | succ m ih =>
    intro i hi
    have e63 := hv.1
    have ei : ((i : Int)).toNat = i := rfl
    obtain ⟨i1, i2, i3, i4, i5⟩ := hv.2 i (by omega)
    apply b_X9_move_108
    case k1 => intro _; exact stop
    case k2 => intro _ _; exact stop
    case c1 => intro _; omega
    case c2 => intro _ _; omega
    case c3 => intro _ _; omega
    case c4 => intro _ _ _; omega
    case k3 => intro _ _ _; exact ih (i + 1) (by omega)
    case k4 =>
      intro _ _ q
      rw [ei, i2] at q
      refine m_X9_movesOf0 hw h60 (show i < L.length by omega) q hv ?_
      apply b_X9_move_138
      case c1 => intro _; omega
      case k1 => intro _; exact ih (i + 1) (by omega)
      case k2 => intro z; exact absurd rfl z
theorem l_X9_mv (hw : WT ty.length L) (h60 : L.length ≤ 60) (h32 : ty.length ≤ 32) : ∀ (f : Nat) (v : Int) (i : Nat) (M1 : zM) (j : JS), (ty.length : Int) * 2100 + v * 62 + (62 - i) ≤ f + 62 → 0 ≤ v → v ≤ 32 → i ≤ L.length → FM M M1 → MS M1 ty wr sk w u G j on rd → MVM M1 L →
    (∀ M' ty' j' (f' : Nat) L', FM M M' → MS M' ty' wr sk w u G j' on rd → prG G ty' = some L' → (ty'.length : Int) * 2100 + ty'.length * 62 + 62 ≤ f' + 62 → f' < f → bmS on (ocA w u) (prG G) f L v i ty j = bmS on (ocA w u) (prG G) f' L' ty'.length 0 ty' j' → K 1 M') →
    (∀ M', FM M M' → MS M' (bmS on (ocA w u) (prG G) f L v i ty j).1 wr sk w u G (bmS on (ocA w u) (prG G) f L v i ty j).2 on rd → K 0 M') →
    zGi B zy_X9_move 11 0 0 n0 K 108 [some (zR 45), some (zI v), some (zI (i : Int))] [] M1 0 0 := by
  intro f
  induction f with
  | zero =>
    intro v i M1 j hmu hv0 hv32 hi fm h hv kT kF
    have ev : v = 0 := by omega
    subst ev
    exact l_X9_mv_0 hw h60 hv (kF M1 fm h) (L.length - i) i (by omega)
  | succ f ih =>
    intro v i M1 j hmu hv0 hv32 hi fm h hv kT kF
    have e63 := hv.1
    have e47 : gi M1 45 47 = j.2.2.2.2 := h.2.2.2.2.1.2.2.2.2.1
    by_cases z : v = 0
    · subst z
      rw [bmS_stop (Or.inl (Int.le_refl _))] at kF
      exact l_X9_mv_0 hw h60 hv (kF M1 fm h) (L.length - i) i (by omega)
    · by_cases y : j.2.2.2.2 = 0
      · have hnst : ¬ (v ≤ 0 ∨ ¬ j.2.2.2.2 = 0) := by omega
        rw [bmS_succ, if_neg hnst] at kF
        have kT' := fun M' ty' j' (f' : Nat) L' a b c d e => kT M' ty' j' f' L' a b c d e
        have ei : ((i : Int)).toNat = i := rfl
        have hbm : bmS on (ocA w u) (prG G) (f + 1) L v i ty j = _ := bmS_succ
        rw [if_neg hnst] at hbm
        rw [hbm] at kT
        apply b_X9_move_108
        case k1 =>
          intro q
          rw [e63] at q
          rw [if_pos (by omega)] at kT kF
          apply b_X9_move_102
          case k1 => intro q2; omega
          case k2 =>
            intro _
            have := ih (v + (-1)) 0 M1 j (by omega) (by omega) (by omega) (by omega) fm h hv (fun M' ty' j' f' L' a b c d e g => kT M' ty' j' f' L' a b c d (by omega) g) kF
            exact this
        case k2 => intro _ q; rw [e47] at q; exact absurd y q
        case c1 => intro _; omega
        case c2 => intro _ _; omega
        case c3 => intro q _; rw [e63] at q; omega
        case c4 => intro q _ _; rw [e63] at q; omega
        case k3 =>
          intro q _ q2
          rw [e63] at q
          rw [ei, (hv.2 i (by omega)).2.1] at q2
          rw [if_neg (by omega), if_neg q2] at kT kF
          exact ih v (i + 1) M1 j (by omega) hv0 hv32 (by omega) fm h hv (fun M' ty' j' f' L' a b c d e g => kT M' ty' j' f' L' a b c d (by omega) g) kF
        case k4 =>
          intro q _ q2
          rw [e63] at q
          rw [ei, (hv.2 i (by omega)).2.1] at q2
          rw [if_neg (by omega), if_pos q2] at kT kF
          refine m_X9_movesOf hw h60 (show i < L.length by omega) (by omega) h hv y (fun hT M2 f2 h2 => ?_) (fun hT M2 f2 h2 hv2 => ?_)
          · rw [if_pos hT] at kT
            obtain ⟨l1, l2⟩ := tmS_len (ps := prG G) hw (show i < L.length by omega) (by omega) (L.length - i) i j (by omega) hT
            apply b_X9_move_138
            case c1 => intro _; omega
            case k1 => intro w; exact absurd w (by decide)
            case k2 =>
              intro _
              generalize tmS on (ocA w u) (prG G) ty L i (L.length - i) i j = r at *
              cases hp : prG G r.2.1 with
              | none => rw [hp] at l2; cases l2
              | some L' =>
                rw [hp] at kT
                exact kT M2 r.2.1 r.2.2 f L' (fm.tr f2.fm) h2 hp (by omega) (by omega) rfl
          · rw [if_neg hT] at kT kF
            apply b_X9_move_138
            case c1 => intro _; omega
            case k1 =>
              intro _
              exact ih v (i + 1) M2 _ (by omega) hv0 hv32 (by omega) (fm.tr f2.fm) h2 hv2 (fun M' ty' j' f' L' a b c d e g => kT M' ty' j' f' L' a b c d (by omega) g) kF
            case k2 => intro w; exact absurd rfl w
      · rw [bmS_stop (Or.inr y)] at kF
        have kk := kF M1 fm h
        have hst : ∀ v', 0 ≤ v' + 1 → v' ≤ 32 → zGi B zy_X9_move 11 0 0 n0 K 102 [some (zR 45), some (zI v'), none] [] M1 0 0 := fun v' hv' hv2 => l_X9_mv_end hv h60 (by rw [e47]; exact y) kk (v' + 1).toNat v' (by omega) hv2
        apply b_X9_move_108
        case k1 => intro _; exact hst _ (by omega) (by omega)
        case k2 => intro _ _; exact hst _ (by omega) (by omega)
        case c1 => intro _; omega
        case c2 => intro _ _; omega
        all_goals (intro _ q; rw [e47] at q; exact absurd q y)
theorem m_X9_move (h : MS M ty wr sk w u G j on rd) (hp : prG G ty = some L) {f : Nat} (hmu : (ty.length : Int) * 2100 + ty.length * 62 + 62 ≤ f + 62)
    (kT : ∀ M' ty' j' (f' : Nat) L', FM M M' → MS M' ty' wr sk w u G j' on rd → prG G ty' = some L' → (ty'.length : Int) * 2100 + ty'.length * 62 + 62 ≤ f' + 62 → f' < f → bmS on (ocA w u) (prG G) f L ty.length 0 ty j = bmS on (ocA w u) (prG G) f' L' ty'.length 0 ty' j' → K 1 M')
    (kF : ∀ M', FM M M' → MS M' (bmS on (ocA w u) (prG G) f L ty.length 0 ty j).1 wr sk w u G (bmS on (ocA w u) (prG G) f L ty.length 0 ty j).2 on rd → K 0 M') : zCi B zy_X9_move 11 0 0 [zR 45] M K := by
  obtain ⟨hw, h60⟩ := prG_wt h hp
  have h32 := h.1.2.2.1
  refine e_X9_move (fun n0 => ?_)
  apply b_X9_move_0
  refine h.parse (fun hq _ _ _ => by rw [hp] at hq; cases hq) (fun L2 hq M1 f1 hP => ?_)
  have eL : L2 = L := by rw [hp] at hq; exact (Option.some.inj hq).symm
  subst eL
  obtain ⟨h1, fm1⟩ := h.pf f1
  apply b_X9_move_12
  rw [hP.1]
  have f2 : zSm [45] M1 (si M1 45 63 (L2.length : Int)) := zSm.rf.st (by decide)
  have e2 : ∀ q, q ≠ 63 → gi (si M1 45 63 (L2.length : Int)) 45 q = gi M1 45 q := fun q hq => by rw [gi_si_eq, if_neg hq]
  have h2 := h1.scr f2 (by decide) (fun q hq => e2 q (fun y => hq (by unfold scrQ; omega)))
  have hP2 : PM (si M1 45 63 (L2.length : Int)) L2 := hP.same (e2 27 (by decide)) (fun a q1 q2 => gi_si_ne (by omega))
  have e63 : gi (si M1 45 63 (L2.length : Int)) 45 63 = (L2.length : Int) := by rw [gi_si_eq, if_pos rfl]
  have fm2 := fm1.tr (f2.fm (by decide))
  generalize si M1 45 63 (L2.length : Int) = M2 at *
  have LL : ∀ (d i : Nat) (M3 : zM), i + d = L2.length → zSm [83, 84, 85, 86, 87] M2 M3 → (∀ k, k < i → gi M3 83 k = nB (ndG L2 k) ∧ gi M3 84 k = nZ (ndG L2 k) ∧ gi M3 85 k = nR (ndG L2 k) ∧ gi M3 86 k = nL (ndG L2 k) ∧ gi M3 87 k = nD (ndG L2 k)) → zGi B zy_X9_move 11 0 0 n0 K 23 [some (zR 45), some (zI (i : Int)), none] [] M3 0 0 := by
    intro d
    induction d with
    | zero =>
      intro i M3 hi f3 hc
      have e45 : gi M3 45 = gi M2 45 := f3.ge (by decide)
      have h3 := h2.scr f3 (by decide) (fun q _ => by rw [e45])
      apply b_X9_move_23
      case k1 =>
        intro _
        rw [h3.1.1]
        apply b_X9_move_102
        case k1 => intro q; omega
        case k2 =>
          intro _
          refine l_X9_mv (M := M) hw h60 h32 f ty.length 0 M3 j (by omega) (by omega) (by omega) (Nat.zero_le _) (fm2.tr (f3.fm (by decide))) h3 ⟨by rw [e45]; exact e63, fun k hk => hc k (by omega)⟩ kT kF
      all_goals (intro q; rw [e45, hP2.1] at q; omega)
    | succ d ih =>
      intro i M3 hi f3 hc
      have e45 : gi M3 45 = gi M2 45 := f3.ge (by decide)
      have ei : ((i : Int)).toNat = i := rfl
      have hP3 : PM M3 L2 := hP2.same (by rw [e45]) (fun a q1 q2 => f3.ge (by simp; omega))
      obtain ⟨a1, a2, a3, a4, a5, a6⟩ := hP3.all (k := i) (by omega)
      apply b_X9_move_23
      case k1 => intro q; rw [e45, hP2.1] at q; omega
      case c1 => intro _; omega
      case c2 => intro _; omega
      case c3 => intro _; omega
      case k2 =>
        intro _
        rw [ei, a1, a2, a3, a4, a5]
        refine ih (i + 1) _ (by omega) (((((f3.st (by decide)).st (by decide)).st (by decide)).st (by decide)).st (by decide)) (fun k hk => ?_)
        by_cases z : k = i
        · rw [z]
          refine ⟨?_, ?_, ?_, ?_, ?_⟩ <;> simp [gi_si]
        · obtain ⟨b1, b2, b3, b4, b5⟩ := hc k (by omega)
          refine ⟨?_, ?_, ?_, ?_, ?_⟩
          · rw [← b1]; simp [gi_si, z]
          · rw [← b2]; simp [gi_si, z]
          · rw [← b3]; simp [gi_si, z]
          · rw [← b4]; simp [gi_si, z]
          · rw [← b5]; simp [gi_si, z]
  exact LL L2.length 0 M2 (by omega) zSm.rf (fun k hk => by omega)
end MN33
