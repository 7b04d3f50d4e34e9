/-! ===== names, emptiable rules: the class ===== -/
section K4
variable {B : zB} {K : Int → zM → Prop} {Kv : zM → Prop} {M : zM} {g : zG}
theorem m_X0_isEveryNameDefined (hx : RX M g) (hw : WG g) (k0 : ¬ NG g → K 0 M) (k1 : NG g → K 1 M) : zCi B zy_X0_isEveryNameDefined 2 0 0 [zR 8] M K := by
  have e8 := hx.1
  have nb := hw.1
  have L : ∀ (d i n0 : Nat), (i : Int) + d = gN g → (∀ j : Nat, j < i → isNm (gI g j) = true → 0 ≤ gR g (gI g j - 65).toNat) → zGi B zy_X0_isEveryNameDefined 2 0 0 n0 K 2 [some (zR 8), some (zI (i : Int)), none] [] M 0 0 := by
    intro d
    induction d with
    | zero =>
      intro i n0 hi h
      apply b_X0_isEveryNameDefined_2 (g := g)
      case k1 => exact fun _ => k1 (fun j hj hn => h j (by omega) hn)
      case c1 => exact hx
      case c2 => exact hw
      all_goals (intros; omega)
    | succ d ih =>
      intro i n0 hi h
      have ei : ((i : Int)).toNat = i := rfl
      have nb2 := nm_bd (gI g i)
      apply b_X0_isEveryNameDefined_2 (g := g)
      case c1 => exact hx
      case c2 => exact hw
      case k2 =>
        intro _ q
        rw [ei] at q
        refine ih (i + 1) n0 (by omega) (fun j hj hn => ?_)
        by_cases z : j = i
        · rw [z] at hn
          have := nm_lt.mpr hn
          omega
        · exact h j (by omega) hn
      case k3 =>
        intro _ q q2
        rw [ei] at q q2
        refine ih (i + 1) n0 (by omega) (fun j hj hn => ?_)
        by_cases z : j = i
        · rw [z]
          have hq := (hx.2.2.2.2 (nm (gI g i)).toNat (by omega)).1
          rw [nm_eq (z ▸ hn)] at hq q2
          by_cases w : gR g (gI g i - 65).toNat < 0
          · rw [if_pos w] at hq; exact absurd hq q2
          · omega
        · exact h j (by omega) hn
      case k4 =>
        intro _ q q2
        rw [ei] at q q2
        refine k0 (fun z => ?_)
        have hn := nm_lt.mp q
        have := z i (by omega) hn
        have hq := (hx.2.2.2.2 (nm (gI g i)).toNat (by omega)).1
        rw [q2, nm_eq hn, if_neg (by omega)] at hq
        omega
      case c5 => intro _ q; rw [ei] at q ⊢; omega
      all_goals (intros; omega)
  refine e_X0_isEveryNameDefined (fun n0 => ?_)
  apply b_X0_isEveryNameDefined_0
  exact L (gN g).toNat 0 n0 (by omega) (fun j hj => by omega)
theorem m_X0_isEmptiable {e : Nat → Bool} {r : Nat} (hx : RX M g) (hw : WG g) (he : ∀ r, r < 6 → eX M r = e r) (hr : r < 6) (k0 : ¬ EA g e r → K 0 M) (k1 : EA g e r → K 1 M) : zCi B zy_X0_isEmptiable 3 0 0 [zR 8, zI (r : Int)] M K := by
  have er : ((r : Int)).toNat = r := rfl
  have ev : ∀ j, gV g (eX M) j = gV g e j := fun j => gV_cg he
  have wr := hw.2.2.2.2.2 r hr
  -- the items of an alternative
  have L1 : ∀ (b n0 : Nat), 0 ≤ gR g r → (b : Int) < gE g r → (AV g e b → K 1 M) → (¬ AV g e b → zGi B zy_X0_isEmptiable 3 0 0 n0 K 6 [some (zR 8), some (zI (r : Int)), some (zI ((b : Int) + 1)), none, none] [] M 0 0) →
      ∀ (d : Nat) (x v3 : Int), 0 ≤ x → gF g b ≤ x → x + d = gF g (b + 1) → (v3 = 0 ∨ v3 = 1) → (v3 = 1 ↔ ∀ j : Nat, gF g b ≤ j → (j : Int) < x → gV g e j = true) →
      zGi B zy_X0_isEmptiable 3 0 0 n0 K 24 [some (zR 8), some (zI (r : Int)), some (zI (b : Int)), some (zI v3), some (zI x)] [] M 0 0 := by
    intro b n0 hR hb ka kn d
    have wb := (wr.2 hR).2
    have fb := (hw.2.2.2.2.1 (b + 1) (by omega))
    have ga := hw.2.1
    have gn := hw.1
    induction d with
    | zero =>
      intro x v3 hx0 hx1 hx2 hv hv2
      apply b_X0_isEmptiable_24 (g := g)
      case c1 => exact hx
      case c2 => exact hw
      case c3 => omega
      case k1 =>
        intro _ q
        exact kn (fun z => by have := hv2.mpr (fun j h1 h2 => z j h1 (by omega)); omega)
      case k2 =>
        intro _ q
        exact ka (fun j h1 h2 => hv2.mp (by omega) j h1 (by omega))
      all_goals (intros; try rw [show ((b : Int)).toNat = b from rfl] at *; omega)
    | succ d ih =>
      intro x v3 hx0 hx1 hx2 hv hv2
      apply b_X0_isEmptiable_24 (g := g)
      case c1 => exact hx
      case c2 => exact hw
      case c3 => omega
      case k1 => intro q; rw [show ((b : Int)).toNat = b from rfl] at q; omega
      case k2 => intro q; rw [show ((b : Int)).toNat = b from rfl] at q; omega
      case k3 =>
        intro q
        refine ih (x + 1) _ (by omega) (by omega) (by omega) ?_ ?_
        · split <;> omega
        · rw [ev]
          constructor
          · intro z j h1 h2
            by_cases w : ¬ v3 = 0 ∧ gV g e x.toNat = true
            · by_cases w2 : (j : Int) = x
              · rw [(by omega : j = x.toNat)]; exact w.2
              · exact hv2.mp (by omega) j h1 (by omega)
            · rw [if_neg w] at z; omega
          · intro z
            rw [if_pos]
            refine ⟨?_, z _ (by omega) (by omega)⟩
            have := hv2.mpr (fun j h1 h2 => z j h1 (by omega))
            omega
      all_goals (intros; try rw [show ((b : Int)).toNat = b from rfl] at *; omega)
  have L2 : ∀ (d b n0 : Nat), 0 ≤ gR g r → gR g r ≤ b → (b : Int) + d = gE g r → (∀ b', gR g r ≤ (b' : Nat) → b' < b → ¬ AV g e b') → zGi B zy_X0_isEmptiable 3 0 0 n0 K 6 [some (zR 8), some (zI (r : Int)), some (zI (b : Int)), none, none] [] M 0 0 := by
    intro d
    induction d with
    | zero =>
      intro b n0 hR hb hd h
      have ga := hw.2.1
      apply b_X0_isEmptiable_6 (g := g)
      case c1 => exact hx
      case c3 => exact hw
      case k1 =>
        intro _
        exact k0 (fun z => by obtain ⟨-, b', h1, h2, h3⟩ := z; exact h b' h1 (by omega) h3)
      case k2 => intro q; rw [er, if_neg (by omega)] at q; omega
      case c4 => intro q; rw [er, if_neg (by omega)] at q; omega
      all_goals (intros; omega)
    | succ d ih =>
      intro b n0 hR hb hd h
      have ga := hw.2.1
      have wb := (wr.2 hR).2
      have f0 := hw.2.2.2.1 b (by omega)
      apply b_X0_isEmptiable_6 (g := g)
      case c1 => exact hx
      case c3 => exact hw
      case k1 => intro q; rw [er, if_neg (by omega)] at q; omega
      case k2 =>
        intro _
        refine L1 b n0 hR (by omega) (fun z => k1 ⟨hR, b, hb, by omega, z⟩) (fun z => ih (b + 1) n0 hR (by omega) (by omega) (fun b' h1 h2 => ?_)) (gF g (b + 1) - gF g b).toNat (gF g b) 1 f0.1 (Int.le_refl _) (by omega) (Or.inr rfl) ⟨fun _ j h1 h2 => by omega, fun _ => rfl⟩
        by_cases w : b' = b
        · rw [w]; exact z
        · exact h b' h1 (by omega)
      case c4 => intro q; rw [er, if_neg (by omega)] at q; omega
      all_goals (intros; omega)
  refine e_X0_isEmptiable (fun n0 => ?_)
  apply b_X0_isEmptiable_0 (g := g)
  case c1 => exact hx
  case c2 => omega
  rw [er]
  by_cases z : gR g r < 0
  · rw [if_pos z]
    apply b_X0_isEmptiable_6 (g := g)
    case c1 => exact hx
    case c3 => exact hw
    case k1 => exact fun _ => k0 (fun w => by have := w.1; omega)
    case k2 => intro q; rw [er, if_pos z] at q; omega
    case c4 => intro q; rw [er, if_pos z] at q; omega
    all_goals (intros; omega)
  · rw [if_neg z]
    have w1 := wr.2 (by omega)
    have := L2 (gE g r - gR g r).toNat (gR g r).toNat n0 (by omega) (by omega) (by omega) (fun b' h1 h2 => by omega)
    rwa [(by omega : (((gR g r).toNat : Nat) : Int) = gR g r)] at this
theorem m_X0_findEmptiable (hx : RX M g) (hw : WG g) (h0 : ∀ r, r < 6 → gi M 17 r = 0) (k : ∀ M', zSm [17] M M' → (∀ r, r < 6 → eX M' r = emG g r) → Kv M') : zCv B zy_X0_findEmptiable 4 0 0 [zR 8] M Kv := by
  -- the rules of a round
  have L1 : ∀ (n n0 : Nat) (kn : ∀ M', zSm [17] M M' → (∀ r, r < 6 → eX M' r = itE g (n + 1) r) → zGv B zy_X0_findEmptiable 4 0 0 n0 Kv 2 [some (zR 8), some (zI ((n : Int) + 1)), none] [] M' 0 0), n < 6 → ∀ (d i : Nat) (M1 : zM), i + d = 6 → zSm [17] M M1 → (∀ r, r < 6 → eX M1 r = rE g (itE g n) i r) →
      zGv B zy_X0_findEmptiable 4 0 0 n0 Kv 10 [some (zR 8), some (zI (n : Int)), some (zI (i : Int))] [] M1 0 0 := by
    intro n n0 kn hn d
    induction d with
    | zero =>
      intro i M1 hi f he
      apply b_X0_findEmptiable_10
      case k1 =>
        intro _
        exact kn M1 f (by rw [(by omega : i = 6)] at he; exact he)
      all_goals (intros; omega)
    | succ d ih =>
      intro i M1 hi f he
      have hx1 : RX M1 g := hx.fr f (by decide)
      have ei : ((i : Int)).toNat = i := rfl
      have nx : ∀ v : Int, (v = 0 ∨ v = 1) → (decide (¬ v = 0) = rE g (itE g n) (i + 1) i) → ∀ r, r < 6 → eX (si M1 17 i v) r = rE g (itE g n) (i + 1) r := fun v hv hv2 r hr => by
        unfold eX
        rw [gi_si_eq]
        by_cases z : r = i
        · rw [if_pos z, z]; exact hv2
        · rw [if_neg z]
          have : rE g (itE g n) (i + 1) r = rE g (itE g n) i r := by
            unfold rE
            rw [List.range_succ, List.foldl_append]
            show fE g _ i r = _
            unfold fE
            rw [if_neg z]
          rw [this, ← he r hr]
          rfl
      have at' : rE g (itE g n) (i + 1) i = (rE g (itE g n) i i || @decide (EA g (rE g (itE g n) i) i) (Classical.propDecidable _)) := by
        unfold rE
        rw [List.range_succ, List.foldl_append]
        show fE g _ i i = _
        unfold fE
        rw [if_pos rfl]
      apply b_X0_findEmptiable_10
      case k2 =>
        intro _ q
        refine ih (i + 1) _ (by omega) (f.st (by decide)) (nx 1 (Or.inr rfl) ?_)
        have := he i (by omega)
        rw [at', ← this]
        rw [ei] at q
        simp [eX, q]
      case k3 =>
        intro _ q
        have hf : rE g (itE g n) i i = false := by
          rw [← he i (by omega)]
          rw [ei] at q
          simp [eX, q]
        refine m_X0_isEmptiable hx1 hw he (by omega) (fun z => ?_) (fun z => ?_)
        · apply b_X0_findEmptiable_35
          case k1 =>
            rw [if_neg (by decide)]
            refine ih (i + 1) _ (by omega) (f.st (by decide)) (nx 0 (Or.inl rfl) ?_)
            rw [at', hf]
            simp [z]
          all_goals omega
        · apply b_X0_findEmptiable_35
          case k1 =>
            rw [if_pos (by decide)]
            refine ih (i + 1) _ (by omega) (f.st (by decide)) (nx 1 (Or.inr rfl) ?_)
            rw [at', hf]
            simp [z]
          all_goals omega
      all_goals (intros; omega)
  have L2 : ∀ (d n n0 : Nat) (M1 : zM), n + d = 6 → zSm [17] M M1 → (∀ r, r < 6 → eX M1 r = itE g n r) → zGv B zy_X0_findEmptiable 4 0 0 n0 Kv 2 [some (zR 8), some (zI (n : Int)), none] [] M1 0 0 := by
    intro d
    induction d with
    | zero =>
      intro n n0 M1 hn f he
      apply b_X0_findEmptiable_2
      case k1 =>
        intro _
        refine k M1 f ?_
        rw [(by omega : n = 6)] at he
        exact he
      all_goals (intros; omega)
    | succ d ih =>
      intro n n0 M1 hn f he
      apply b_X0_findEmptiable_2
      case k2 =>
        intro _
        exact L1 n n0 (fun M2 f2 he2 => ih (n + 1) n0 M2 (by omega) f2 he2) (by omega) 6 0 M1 rfl f he
      all_goals (intros; omega)
  refine e_X0_findEmptiable (fun n0 => ?_)
  apply b_X0_findEmptiable_0
  refine L2 6 0 n0 M rfl zSm.rf (fun r hr => ?_)
  unfold eX
  rw [h0 r hr]
  rfl
end K4
