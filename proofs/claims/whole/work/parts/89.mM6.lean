/-! ===== which rules may match nothing: the model ===== -/
section NM6
variable {B : zB} {K : Int → zM → Prop} {Kv : zM → Prop} {M : zM} {g : zG}
theorem RM.fr {S : List Nat} {M M' : zM} {g : zG} (h : RM M g) (hs : zSm S M M') (hd : ∀ a ∈ S, a ≠ 45 ∧ (a < 54 ∨ 58 < a)) : RM M' g :=
  h.same (fun a ha => hs.ge (fun q => by have := hd a q; omega)) (by rw [hs.ge (fun q => (hd 45 q).1 rfl)]) (by rw [hs.ge (fun q => (hd 45 q).1 rfl)])
theorem AV_cg {g : zG} {e e' : Nat → Bool} {b : Nat} (h : ∀ r, r < 6 → e r = e' r) : AV g e b ↔ AV g e' b :=
  ⟨fun z j h1 h2 => by rw [← gV_cg h]; exact z j h1 h2, fun z j h1 h2 => by rw [gV_cg h]; exact z j h1 h2⟩
theorem l_X9_fe_items {n i b n0 : Nat} (hx : RM M g) (hw : WG g) (hi : i < 6) (hb : (b : Int) < gA g)
    (k1 : ∀ v : Int, (v = 0 ∨ v = 1) → (v = 1 ↔ eM M i = true ∨ AV g (eM M) b) → zGv B zy_X9_findEmptiable 3 0 0 n0 Kv 44 [some (zR 45), some (zI (n : Int)), some (zI (i : Int)), some (zI ((b : Int) + 1)), none, none] [] (si M 59 i v) 0 0) :
    ∀ (d : Nat) (x v4 : Int), 0 ≤ x → gF g b ≤ x → x + d = gF g (b + 1) → (v4 = 0 ∨ v4 = 1) → (v4 = 1 ↔ ∀ j : Nat, gF g b ≤ j → (j : Int) < x → gV g (eM M) j = true) →
      zGv B zy_X9_findEmptiable 3 0 0 n0 Kv 69 [some (zR 45), some (zI (n : Int)), some (zI (i : Int)), some (zI (b : Int)), some (zI v4), some (zI x)] [] M 0 0 := by
  intro d
  have ga := hw.2.1
  have gn := hw.1
  have fb := hw.2.2.2.2.1 (b + 1) (by omega)
  have ei : ((i : Int)).toNat = i := rfl
  have eb : ((b : Int) + 1).toNat = b + 1 := by omega
  have x4 := hx.2.2.2.1 (b + 1) (by omega)
  induction d with
  | zero =>
    intro x v4 hx0 hx1 hx2 hv hv2
    apply b_X9_findEmptiable_69 (g := g)
    case c4 => exact hx
    case c5 => exact hw
    case k1 =>
      intro _
      rw [ei]
      refine k1 _ (by split <;> simp) ?_
      have he : (¬ gi M 59 i = 0) ↔ eM M i = true := by unfold eM; simp
      have hAV : v4 = 1 ↔ AV g (eM M) b := by
        rw [hv2]
        exact ⟨fun z j h1 h2 => z j h1 (by omega), fun z j h1 h2 => z j h1 (by omega)⟩
      rw [← hAV, ← he]
      by_cases z : (¬ gi M 59 i = 0) ∨ ¬ v4 = 0
      · rw [if_pos z]
        exact ⟨fun _ => z.imp id (fun q => by omega), fun _ => rfl⟩
      · rw [if_neg z]
        exact ⟨fun q => by omega, fun q => absurd (q.imp id (fun q => by omega)) z⟩
    case k2 => intro q; rw [eb, x4] at q; omega
    all_goals (intros; first | omega | (rw [eb, x4] at *; omega))
  | succ d ih =>
    intro x v4 hx0 hx1 hx2 hv hv2
    apply b_X9_findEmptiable_69 (g := g)
    case c4 => exact hx
    case c5 => exact hw
    case k1 => intro q; rw [eb, x4] at q; omega
    case k2 =>
      intro q
      refine ih (x + 1) _ (by omega) (by omega) (by omega) (by split <;> simp) ?_
      constructor
      · intro z j h1 h2
        by_cases w : ¬ v4 = 0 ∧ gV g (eM M) x.toNat = true
        · by_cases w2 : (j : Int) = x
          · rw [(by omega : j = x.toNat)]; exact w.2
          · exact hv2.mp (by omega) j h1 (by omega)
        · rw [if_neg w] at z; omega
      · intro z
        rw [if_pos]
        refine ⟨?_, z _ (by omega) (by omega)⟩
        have := hv2.mpr (fun j h1 h2 => z j h1 (by omega))
        omega
    all_goals (intros; first | omega | (rw [eb, x4] at *; omega))
theorem eM_si {i r : Nat} {v : Int} : eM (si M 59 i v) r = if r = i then decide (¬ v = 0) else eM M r := by
  unfold eM
  rw [gi_si_eq]
  by_cases z : r = i
  · rw [if_pos z, if_pos z]
  · rw [if_neg z, if_neg z]
/-- the alternatives of a rule, in a round -/
theorem l_X9_fe_alts {n i n0 : Nat} {e : Nat → Bool} (hw : WG g) (hi : i < 6) (hR : 0 ≤ gR g i)
    (kn : ∀ M', RM M' g → zSm [59] M M' → (∀ r, r < 6 → eM M' r = fE g e i r) → zGv B zy_X9_findEmptiable 3 0 0 n0 Kv 31 [some (zR 45), some (zI (n : Int)), some (zI ((i : Int) + 1)), none, none, none] [] M' 0 0) :
    ∀ (d b : Nat) (M1 : zM), gR g i ≤ b → (b : Int) + d = gE g i → RM M1 g → zSm [59] M M1 → (∀ r, r < 6 → r ≠ i → eM M1 r = e r) → (eM M1 i = true ↔ e i = true ∨ ∃ b' : Nat, gR g i ≤ b' ∧ b' < b ∧ AV g e b') →
      zGv B zy_X9_findEmptiable 3 0 0 n0 Kv 44 [some (zR 45), some (zI (n : Int)), some (zI (i : Int)), some (zI (b : Int)), none, none] [] M1 0 0 := by
  intro d
  have wr := (hw.2.2.2.2.2 i hi).2 hR
  have ga := hw.2.1
  have ei : ((i : Int)).toNat = i := rfl
  induction d with
  | zero =>
    intro b M1 hb hd hx f he hei
    have x5 := ((hx.2.2.2.2 i hi).2 hR)
    apply b_X9_findEmptiable_44
    case k2 =>
      intro _ _
      refine kn M1 hx f (fun r hr => ?_)
      unfold fE
      by_cases z : r = i
      · rw [if_pos z, z]
        apply Bool.eq_iff_iff.mpr
        rw [hei, Bool.or_eq_true, @decide_eq_true_eq (EA g e i) (Classical.propDecidable _)]
        refine ⟨fun q => q.imp id (fun ⟨b', h1, h2, h3⟩ => ⟨hR, b', h1, by omega, h3⟩), fun q => q.imp id (fun ⟨_, b', h1, h2, h3⟩ => ⟨b', h1, by omega, h3⟩)⟩
      · rw [if_neg z]; exact he r hr z
    case k3 => intro _ q; rw [ei, x5] at q; omega
    case k1 => intro q; omega
    all_goals (intros; first | omega | (rw [ei, x5] at *; omega))
  | succ d ih =>
    intro b M1 hb hd hx f he hei
    have x5 := ((hx.2.2.2.2 i hi).2 hR)
    have eb : ((b : Int)).toNat = b := rfl
    have x4 := hx.2.2.2.1 b (by omega)
    have f0 := hw.2.2.2.1 b (by omega)
    apply b_X9_findEmptiable_44
    case k3 =>
      intro _ _
      rw [eb, x4]
      refine l_X9_fe_items hx hw hi (by omega) (fun v hv hv2 => ?_) (gF g (b + 1) - gF g b).toNat (gF g b) 1 f0.1 (Int.le_refl _) (by omega) (Or.inr rfl) ⟨fun _ j h1 h2 => by omega, fun _ => rfl⟩
      have fs : zSm [59] M1 (si M1 59 i v) := zSm.rf.st (by decide)
      refine ih (b + 1) _ (by omega) (by omega) (hx.fr fs (by decide)) (f.tr fs) (fun r hr hne => by rw [eM_si, if_neg hne]; exact he r hr hne) ?_
      rw [eM_si, if_pos rfl, decide_eq_true_eq, (by omega : (¬ v = 0) ↔ v = 1), hv2]
      by_cases z : eM M1 i = true
      · refine ⟨fun _ => (hei.mp z).imp id (fun ⟨b', h1, h2, h3⟩ => ⟨b', h1, by omega, h3⟩), fun _ => Or.inl z⟩
      · have hcg : ∀ r, r < 6 → eM M1 r = e r := fun r hr => by
          by_cases w : r = i
          · rw [w]
            have : ¬ e i = true := fun q => z (hei.mpr (Or.inl q))
            rw [Bool.not_eq_true] at z this
            rw [z, this]
          · exact he r hr w
        rw [AV_cg hcg]
        constructor
        · rintro (q | q)
          · exact absurd q z
          · exact Or.inr ⟨b, hb, by omega, q⟩
        · rintro (q | ⟨b', h1, h2, h3⟩)
          · exact absurd (hei.mpr (Or.inl q)) z
          · by_cases w : b' = b
            · rw [w] at h3; exact Or.inr h3
            · exact absurd (hei.mpr (Or.inr ⟨b', h1, by omega, h3⟩)) z
    case k2 => intro _ q; rw [ei, x5] at q; omega
    case k1 => intro q; omega
    all_goals (intros; first | omega | (rw [ei, x5] at *; omega))
theorem m_X9_findEmptiable (hx : RM M g) (hw : WG g) (k : ∀ M', zSm [59] M M' → (∀ r, r < 6 → eM M' r = emG g r) → Kv M') : zCv B zy_X9_findEmptiable 3 0 0 [zR 45] M Kv := by
  have L1 : ∀ (n n0 : Nat) (kn : ∀ M', RM M' g → zSm [59] M M' → (∀ r, r < 6 → eM M' r = itE g (n + 1) r) → zGv B zy_X9_findEmptiable 3 0 0 n0 Kv 23 [some (zR 45), some (zI ((n : Int) + 1)), none, none, none, none] [] M' 0 0), n < 6 → ∀ (d i : Nat) (M1 : zM), i + d = 6 → RM M1 g → zSm [59] M M1 → (∀ r, r < 6 → eM M1 r = rE g (itE g n) i r) →
      zGv B zy_X9_findEmptiable 3 0 0 n0 Kv 31 [some (zR 45), some (zI (n : Int)), some (zI (i : Int)), none, none, none] [] M1 0 0 := by
    intro n n0 kn hn d
    induction d with
    | zero =>
      intro i M1 hi hx1 f he
      apply b_X9_findEmptiable_31
      case k1 => exact fun _ => kn M1 hx1 f (by rw [(by omega : i = 6)] at he; exact he)
      all_goals (intros; omega)
    | succ d ih =>
      intro i M1 hi hx1 f he
      have ei : ((i : Int)).toNat = i := rfl
      have x5 := hx1.2.2.2.2 i (by omega)
      have wr := hw.2.2.2.2.2 i (by omega)
      have nxt : rE g (itE g n) (i + 1) = fE g (rE g (itE g n) i) i := by
        unfold rE
        rw [List.range_succ, List.foldl_append]
        rfl
      have go : ∀ M', RM M' g → zSm [59] M1 M' → (∀ r, r < 6 → eM M' r = fE g (rE g (itE g n) i) i r) → zGv B zy_X9_findEmptiable 3 0 0 n0 Kv 31 [some (zR 45), some (zI (n : Int)), some (zI ((i : Int) + 1)), none, none, none] [] M' 0 0 := fun M' h1 h2 h3 => ih (i + 1) M' (by omega) h1 (f.tr h2) (by rw [nxt]; exact h3)
      apply b_X9_findEmptiable_31
      case k2 =>
        intro _
        rw [ei, x5.1]
        by_cases z : 0 ≤ gR g i
        · have := l_X9_fe_alts (M := M1) (n := n) (n0 := n0) hw (by omega) z go (gE g i - gR g i).toNat (gR g i).toNat M1 (by omega) (by have := wr.2 z; omega) hx1 zSm.rf (fun r hr _ => he r hr) (by
            rw [he i (by omega)]
            exact ⟨Or.inl, fun q => q.elim id (fun ⟨b', h1, h2, _⟩ => by omega)⟩)
          rwa [(by omega : (((gR g i).toNat : Nat) : Int) = gR g i)] at this
        · apply b_X9_findEmptiable_44
          case k1 =>
            intro _
            refine go M1 hx1 zSm.rf (fun r hr => ?_)
            rw [he r hr]
            unfold fE
            by_cases w : r = i
            · have : ¬ EA g (rE g (itE g n) i) i := fun q => z q.1
              rw [if_pos w, w]
              simp [this]
            · rw [if_neg w]
          all_goals (intros; omega)
      all_goals (intros; omega)
  have L2 : ∀ (d n n0 : Nat) (M1 : zM), n + d = 6 → RM M1 g → zSm [59] M M1 → (∀ r, r < 6 → eM M1 r = itE g n r) → zGv B zy_X9_findEmptiable 3 0 0 n0 Kv 23 [some (zR 45), some (zI (n : Int)), none, none, none, none] [] M1 0 0 := by
    intro d
    induction d with
    | zero =>
      intro n n0 M1 hn hx1 f he
      apply b_X9_findEmptiable_23
      case k1 =>
        intro _
        refine k M1 f ?_
        rw [(by omega : n = 6)] at he
        exact he
      all_goals (intros; omega)
    | succ d ih =>
      intro n n0 M1 hn hx1 f he
      apply b_X9_findEmptiable_23
      case k2 =>
        intro _
        exact L1 n n0 (fun M2 hx2 f2 he2 => ih (n + 1) n0 M2 (by omega) hx2 f2 he2) (by omega) 6 0 M1 rfl hx1 f he
      all_goals (intros; omega)
  have L0 : ∀ (d i n0 : Nat) (M1 : zM), i + d = 6 → RM M1 g → zSm [59] M M1 → (∀ r, r < i → eM M1 r = false) → zGv B zy_X9_findEmptiable 3 0 0 n0 Kv 2 [some (zR 45), some (zI (i : Int)), none, none, none, none] [] M1 0 0 := by
    intro d
    induction d with
    | zero =>
      intro i n0 M1 hi hx1 f he
      apply b_X9_findEmptiable_2
      case k1 => exact fun _ => L2 6 0 n0 M1 rfl hx1 f (fun r hr => he r (by omega))
      all_goals (intros; omega)
    | succ d ih =>
      intro i n0 M1 hi hx1 f he
      apply b_X9_findEmptiable_2
      case k2 =>
        intro _
        have fs : zSm [59] M1 (si M1 59 i 0) := zSm.rf.st (by decide)
        refine ih (i + 1) n0 _ (by omega) (hx1.fr fs (by decide)) (f.tr fs) (fun r hr => ?_)
        rw [show ((i : Int)).toNat = i from rfl, eM_si]
        by_cases z : r = i
        · rw [if_pos z]; rfl
        · rw [if_neg z]; exact he r (by omega)
      all_goals (intros; omega)
  refine e_X9_findEmptiable (fun n0 => ?_)
  apply b_X9_findEmptiable_0
  exact L0 6 0 n0 M rfl hx zSm.rf (fun r hr => by omega)
end NM6
