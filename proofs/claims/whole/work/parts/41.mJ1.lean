theorem p_X1_holds' {B : zB} {t : Nat} (ht : zTx t) {s : List Int} {M : zM} (hR : okR M) (hs : tT M t s) (ho : s.length ≤ 32) (hgn : True) : ∀ (f : Nat) (lvl : Int) (o : Option Nat) (K : Int → zM → Prop), lvl + f = 7 → 1 ≤ lvl → (∀ r, o = some r → 88 ≤ r) → K (if tvl M f o s = true then 1 else 0) M → zCi B zy_X1_holds (f + 1 + 2) 0 0 [zO o, zR t, zI lvl] M K := by
  have e := hs.1
  intro f
  induction f with
  | zero =>
    intro lvl o K hl h1 hoo k
    refine e_X1_holds (fun n0 => ?_)
    have k0 : K 0 M := by
      have : tvl M 0 o s = false := by cases o <;> rfl
      rw [this] at k
      exact k
    apply b_X1_holds_0 ht (s := s)
    case k1 => intro _; exact k0
    case k10 => intro _ _ _; exact k0
    case c1 => intro r hr; exact zkd_term (hoo r hr)
    all_goals first | assumption | (intros; omega)
  | succ f ih =>
    intro lvl o K hl h1 hoo k
    refine e_X1_holds (fun n0 => ?_)
    cases o with
    | none =>
      have k0 : K 0 M := k
      apply b_X1_holds_0 ht (s := s)
      case k1 => intro _; exact k0
      all_goals first | assumption | (intro r hr; cases hr)
    | some q =>
      have hq := hoo q rfl
      have ih4 := fun (K : Int → zM → Prop) => ih (lvl + 1) (gr M q 4) K (by omega) (by omega) (fun r hr => hR q 4 r hr)
      have ih5 := fun (K : Int → zM → Prop) => ih (lvl + 1) (gr M q 5) K (by omega) (by omega) (fun r hr => hR q 5 r hr)
      have hv : tvl M (f + 1) (some q) s = (if gi M q 0 = 0 then decide (gi M q 3 ≤ cntL (gi M q 1) s) else if gi M q 0 = 1 then prL (gi M q 1) (gi M q 2) false s else if gi M q 0 = 2 then prL (gi M q 1) (gi M q 2) true s
    else if gi M q 0 = 3 then decide (gi M q 3 ≤ (s.length : Int)) else if gi M q 0 = 4 then decide ((s.length : Int) % 2 = 0) else if gi M q 0 = 5 then !(tvl M f (gr M q 4) s)
    else if gi M q 0 = 6 then tvl M f (gr M q 4) s && tvl M f (gr M q 5) s else tvl M f (gr M q 4) s || tvl M f (gr M q 5) s) := rfl
      apply b_X1_holds_0 ht (s := s)
      case k1 => intro h; cases h
      case k10 => intro r _ h; omega
      case c1 => intro r hr; exact zkd_term (hoo r hr)
      case k2 =>
        intro r hr h2 h3
        cases hr
        rw [show tvl M (f + 1) (some q) s = (tvl M f (gr M q 4) s || tvl M f (gr M q 5) s) from by rw [hv, if_neg (by omega), if_neg (by omega), if_neg (by omega), if_neg (by omega), if_neg (by omega), if_neg (by omega), if_neg (by omega)]] at k
        refine ih4 _ ?_
        apply b_X1_holds_198 ht rfl (zkd_term hq)
        case k1 =>
          intro h4
          have h5 : tvl M f (gr M q 4) s = true := Decidable.byContradiction (fun z => h4 (if_neg z))
          rw [h5] at k
          exact k
        case k2 =>
          intro h4
          have h5 : tvl M f (gr M q 4) s = false := by
            cases hz : tvl M f (gr M q 4) s with
            | false => rfl
            | true => rw [hz] at h4; exact absurd h4 (by decide)
          rw [h5, Bool.false_or] at k
          refine ih5 _ ?_
          apply b_X1_holds_212 ht
          rw [zifc (Q := tvl M f (gr M q 5) s = true) (by split <;> simp_all)]; exact k
        all_goals (intros; omega)
      case k3 => intro r hr h2 h3; cases hr; rw [show tvl M (f + 1) (some q) s = decide (gi M q 3 ≤ cntL (gi M q 1) s) from by rw [hv, if_pos h3]] at k; simpa using k
      case k4 => intro r hr h2 h3; cases hr; rw [show tvl M (f + 1) (some q) s = prL (gi M q 1) (gi M q 2) false s from by rw [hv, if_neg (by omega), if_pos h3]] at k; exact k
      case k5 => intro r hr h2 h3; cases hr; rw [show tvl M (f + 1) (some q) s = prL (gi M q 1) (gi M q 2) true s from by rw [hv, if_neg (by omega), if_neg (by omega), if_pos h3]] at k; exact k
      case k6 => intro r hr h2 h3; cases hr; rw [show tvl M (f + 1) (some q) s = decide (gi M q 3 ≤ (s.length : Int)) from by rw [hv, if_neg (by omega), if_neg (by omega), if_neg (by omega), if_pos h3]] at k; rw [e]; simpa using k
      case k7 => intro r hr h2 h3; cases hr; rw [show tvl M (f + 1) (some q) s = decide ((s.length : Int) % 2 = 0) from by rw [hv, if_neg (by omega), if_neg (by omega), if_neg (by omega), if_neg (by omega), if_pos h3]] at k; rw [e]; simpa using k
      case k8 =>
        intro r hr h2 h3
        cases hr
        rw [show tvl M (f + 1) (some q) s = !(tvl M f (gr M q 4) s) from by rw [hv, if_neg (by omega), if_neg (by omega), if_neg (by omega), if_neg (by omega), if_neg (by omega), if_pos h3]] at k
        refine ih4 _ ?_
        apply b_X1_holds_144 ht
        rw [zifc (Q := (!(tvl M f (gr M q 4) s)) = true) (by split <;> simp_all)]; exact k
      case k9 =>
        intro r hr h2 h3
        cases hr
        rw [show tvl M (f + 1) (some q) s = (tvl M f (gr M q 4) s && tvl M f (gr M q 5) s) from by rw [hv, if_neg (by omega), if_neg (by omega), if_neg (by omega), if_neg (by omega), if_neg (by omega), if_neg (by omega), if_pos h3]] at k
        refine ih4 _ ?_
        apply b_X1_holds_164 ht rfl (zkd_term hq)
        case k1 =>
          intro h4
          have h5 : tvl M f (gr M q 4) s = false := by
            cases hz : tvl M f (gr M q 4) s with
            | false => rfl
            | true => rw [hz] at h4; exact absurd h4 (by decide)
          rw [h5] at k
          exact k
        case k2 =>
          intro h4
          have h5 : tvl M f (gr M q 4) s = true := Decidable.byContradiction (fun z => h4 (if_neg z))
          rw [h5, Bool.true_and] at k
          refine ih5 _ ?_
          apply b_X1_holds_178 ht
          rw [zifc (Q := tvl M f (gr M q 5) s = true) (by split <;> simp_all)]; exact k
        all_goals (intros; omega)
      all_goals first | assumption | (intros; omega)
theorem p_X1_holds {B : zB} {t : Nat} (ht : zTx t) {s : List Int} {M : zM} {o : Option Nat} {K : Int → zM → Prop} (hR : okR M) (hoo : ∀ r, o = some r → 88 ≤ r) (hs : tT M t s) (ho : s.length ≤ 32) (k : K (if tvl M 6 o s = true then 1 else 0) M) : zCi B zy_X1_holds 9 0 0 [zO o, zR t, zI 1] M K :=
  p_X1_holds' ht hR hs ho trivial 6 1 o K (by decide) (by decide) hoo k
theorem l_X1_isHeldAt {B : zB} {n0 : Nat} {K : Int → zM → Prop} {M : zM} {t : Nat} (ht : zTx t) {s : List Int} (hs : tT M t s) (ho : s.length ≤ 32) {i : Nat} (hi : i < 24) (k : K (if slT M i s.length = s then 1 else 0) M) : ∀ (m j : Nat), j + m = s.length → (∀ x, x < j → gi M 6 (i * 32 + x) = s.getD x 0) →
    zGi B zy_X1_isHeldAt 1 0 0 n0 K 8 [some (zR 5), some (zI i), some (zR t), some (zI ((i : Int) * 32)), some (zI j)] [] M 0 0 := by
  have e := hs.1
  intro m
  induction m with
  | zero =>
    intro j hj h
    apply b_X1_isHeldAt_8 ht
    case k1 =>
      intro _
      rw [if_pos (by
        apply List.ext_getElem
        · exact slT_len
        · intro x h1 h2
          have := h x (by omega)
          simp [slT, sg, this, List.getD, h2])] at k
      exact k
    all_goals (intros; omega)
  | succ m ih =>
    intro j hj h
    have hjs : j < s.length := by omega
    have hx := hs.2.get hjs
    have e6 : ((i : Int) * 32 + j).toNat = i * 32 + j := by omega
    apply b_X1_isHeldAt_8 ht
    case k1 => intro _; omega
    case k2 =>
      intro _ h2
      rw [e6, show (j : Int).toNat = j from rfl, hx] at h2
      exact ih (j + 1) (by omega) (fun x hx2 => by
        by_cases hxj : x < j
        · exact h x hxj
        · rw [show x = j from by omega]; exact h2)
    case k3 =>
      intro _ h2
      rw [e6, show (j : Int).toNat = j from rfl, hx] at h2
      rw [if_neg (fun q => by
        apply h2
        have h3 : (slT M i s.length).getD j 0 = gi M 6 (i * 32 + j) := sg_getD hjs
        rw [q] at h3
        exact h3.symm)] at k
      exact k
    all_goals (intros; omega)
theorem p_X1_isHeldAt {B : zB} {K : Int → zM → Prop} {M : zM} {p1 : Int} {t : Nat} (ht : zTx t) {s : List Int} (hB : slB M) (hp : 0 ≤ p1 ∧ p1 < 24) (hs : tT M t s) (ho : s.length ≤ 32) (k : K (if slT M p1.toNat s.length = s then 1 else 0) M) : zCi B zy_X1_isHeldAt 1 0 0 [zR 5, zI p1, zR t] M K := by
  refine e_X1_isHeldAt (fun n0 => ?_)
  have e : p1 = (p1.toNat : Int) := by omega
  apply b_X1_isHeldAt_0 ht
  case k1 =>
    rw [e]
    exact l_X1_isHeldAt ht hs ho (by omega) k s.length 0 (by omega) (fun x hx => by omega)
  all_goals omega
