/-! ===== names, leads, order: the model ===== -/
section NM7
variable {B : zB} {K : Int → zM → Prop} {Kv : zM → Prop} {M : zM} {g : zG}
theorem m_X9_areNamesThere (hx : RM M g) (hw : WG g) (k0 : ¬ NG g → K 0 M) (k1 : NG g → K 1 M) : zCi B zy_X9_areNamesThere 2 0 0 [zR 45] M K := by
  have e14 := hx.1
  have nb := hw.1
  have L : ∀ (d i n0 : Nat) (v : Int), (i : Int) + d = gN g → (v = 0 ∨ v = 1) → (v = 1 ↔ ∀ j : Nat, j < i → isNm (gI g j) = true → 0 ≤ gR g (gI g j - 65).toNat) → zGi B zy_X9_areNamesThere 2 0 0 n0 K 4 [some (zR 45), some (zI v), some (zI (i : Int))] [] M 0 0 := by
    intro d
    induction d with
    | zero =>
      intro i n0 v hi hv h
      apply b_X9_areNamesThere_4
      case k1 =>
        intro _
        rcases hv with z | z
        · rw [z]
          exact k0 (fun hn => by have := h.mpr (fun j hj hj2 => hn j (by omega) hj2); omega)
        · rw [z]
          exact k1 (fun j hj hn => h.mp z j (by omega) hn)
      all_goals (intros; first | assumption | omega)
    | succ d ih =>
      intro i n0 v hi hv h
      have ei : ((i : Int)).toNat = i := rfl
      have x3 := (hx.2.2.1 i (by omega)).1
      apply b_X9_areNamesThere_4
      case k2 =>
        intro _ y hy
        rw [ei, x3] at hy
        have hrow : isNm (gI g i) = true → gi M 57 (gI g i - 65).toNat = gR g (gI g i - 65).toNat := fun hn => by
          have := isNm_iff.mp hn
          exact (hx.2.2.2.2 _ (by omega)).1
        refine ih (i + 1) n0 y (by omega) (by rw [hy]; split <;> simp) ?_
        constructor
        · intro q j hj hn
          by_cases w : ¬ v = 0 ∧ (¬ isNm (gI g i) = true ∨ 0 ≤ gi M 57 (gI g i - 65).toNat)
          · by_cases z : j = i
            · rw [z] at hn ⊢
              rcases w.2 with w2 | w2
              · exact absurd hn w2
              · rw [hrow hn] at w2; exact w2
            · exact h.mp (by omega) j (by omega) hn
          · rw [if_neg w] at hy; omega
        · intro q
          rw [hy, if_pos]
          refine ⟨fun z => ?_, ?_⟩
          · have := h.mpr (fun j hj hn => q j (by omega) hn)
            omega
          · by_cases z : isNm (gI g i) = true
            · right; rw [hrow z]; exact q i (by omega) z
            · exact Or.inl z
      case c3 => intro _ _ q; rw [ei, x3] at q ⊢; have := isNm_iff.mp q; omega
      case c4 => intro _ _ q; rw [ei, x3] at q ⊢; have := isNm_iff.mp q; omega
      all_goals (intros; first | assumption | omega)
  refine e_X9_areNamesThere (fun n0 => ?_)
  apply b_X9_areNamesThere_0
  exact L (gN g).toNat 0 n0 1 (by omega) (Or.inr rfl) ⟨fun _ j hj => by omega, fun _ => rfl⟩
/-- an alternative leads to a rule, among its items before x -/
def LA (g : zG) (em : Nat → Bool) (b : Nat) (x : Int) (q : Nat) : Prop := ∃ k : Nat, gF g b ≤ k ∧ (k : Int) < x ∧ (∀ i : Nat, gF g b ≤ i → i < k → gV g em i = true) ∧ isNm (gI g k) = true ∧ gI g k - 65 = (q : Int)
/-- a rule leads to a rule, by its alternatives before m -/
def LT (g : zG) (em : Nat → Bool) (r : Nat) (m : Int) (q : Nat) : Prop := ∃ b : Nat, gR g r ≤ b ∧ (b : Int) < m ∧ LA g em b (gF g (b + 1)) q
def LM (M : zM) (S : Nat → Nat → Prop) : Prop := ∀ r q, r < 6 → q < 6 → ((¬ gi M 60 (6 * r + q) = 0) ↔ S r q)
theorem l_X9_fl_items {em : Nat → Bool} {i b n0 : Nat} {S : Nat → Nat → Prop} (hw : WG g) (hi : i < 6) (hb : (b : Int) < gA g)
    (kn : ∀ M', RM M' g → zSm [60] M M' → LM M' (fun r q => S r q ∨ (r = i ∧ LA g em b (gF g (b + 1)) q)) → zGv B zy_X9_findLeads 3 0 0 n0 Kv 36 [some (zR 45), some (zI (i : Int)), some (zI ((b : Int) + 1)), none, none] [] M' 0 0) :
    ∀ (d : Nat) (x v3 : Int) (M1 : zM), 0 ≤ x → gF g b ≤ x → x + d = gF g (b + 1) → (v3 = 0 ∨ v3 = 1) → (v3 = 1 ↔ ∀ j : Nat, gF g b ≤ j → (j : Int) < x → gV g em j = true) → RM M1 g → zSm [60] M M1 → (∀ r, r < 6 → eM M1 r = em r) → LM M1 (fun r q => S r q ∨ (r = i ∧ LA g em b x q)) →
      zGv B zy_X9_findLeads 3 0 0 n0 Kv 60 [some (zR 45), some (zI (i : Int)), some (zI (b : Int)), some (zI v3), some (zI x)] [] M1 0 0 := by
  intro d
  have ga := hw.2.1
  have gn := hw.1
  have fb := hw.2.2.2.2.1 (b + 1) (by omega)
  have eb : ((b : Int) + 1).toNat = b + 1 := by omega
  induction d with
  | zero =>
    intro x v3 M1 hx0 hx1 hx2 hv hv2 hx f he hL
    have x4 := hx.2.2.2.1 (b + 1) (by omega)
    apply b_X9_findLeads_60 (g := g)
    case c3 => exact hx
    case c4 => exact hw
    case c14 => exact hx.fr (zSm.rf.st (by decide) : zSm [60] M1 _) (by decide)
    case k1 =>
      intro _
      refine kn M1 hx f ?_
      rw [(by omega : x = gF g (b + 1))] at hL
      exact hL
    case k2 => intro q; rw [eb, x4] at q; omega
    case k3 => intro q; rw [eb, x4] at q; omega
    case k4 => intro q; rw [eb, x4] at q; omega
    all_goals (intros; first | omega | (rw [eb, x4] at *; omega))
  | succ d ih =>
    intro x v3 M1 hx0 hx1 hx2 hv hv2 hx f he hL
    have x4 := hx.2.2.2.1 (b + 1) (by omega)
    have x3 := (hx.2.2.1 x.toNat (by omega)).1
    have gv : gV g (eM M1) x.toNat = gV g em x.toNat := gV_cg he
    have flag : ∀ y : Int, y = (if (¬ v3 = 0) ∧ gV g em x.toNat = true then 1 else 0) → (y = 0 ∨ y = 1) ∧ (y = 1 ↔ ∀ j : Nat, gF g b ≤ j → (j : Int) < x + 1 → gV g em j = true) := fun y hy => by
      refine ⟨by rw [hy]; split <;> simp, ?_⟩
      constructor
      · intro z j h1 h2
        by_cases w : ¬ v3 = 0 ∧ gV g em x.toNat = true
        · by_cases w2 : (j : Int) = x
          · rw [(by omega : j = x.toNat)]; exact w.2
          · exact hv2.mp (by omega) j h1 (by omega)
        · rw [if_neg w] at hy; omega
      · intro z
        rw [hy, if_pos]
        refine ⟨?_, z _ (by omega) (by omega)⟩
        have := hv2.mpr (fun j h1 h2 => z j h1 (by omega))
        omega
    have same : (v3 = 0 ∨ ¬ isNm (gI g x.toNat) = true) → LM M1 (fun r q => S r q ∨ (r = i ∧ LA g em b (x + 1) q)) := fun h r q hr hq => by
      rw [hL r q hr hq]
      refine ⟨fun z => z.imp id (fun ⟨e, k, h1, h2, h3⟩ => ⟨e, k, h1, by omega, h3⟩), fun z => z.imp id (fun ⟨e, k, h1, h2, h3, h4, h5⟩ => ⟨e, k, h1, ?_, h3, h4, h5⟩)⟩
      by_cases w : (k : Int) = x
      · exfalso
        rcases h with h | h
        · have := hv2.mpr (fun j q1 q2 => h3 j q1 (by omega))
          omega
        · rw [(by omega : x.toNat = k)] at h; exact h h4
      · omega
    apply b_X9_findLeads_60 (g := g)
    case c3 => exact hx
    case c4 => exact hw
    case c14 => exact hx.fr (zSm.rf.st (by decide) : zSm [60] M1 _) (by decide)
    case k1 => intro q; rw [eb, x4] at q; omega
    case k2 =>
      intro _ q
      rw [gv]
      obtain ⟨f1, f2⟩ := flag _ rfl
      exact ih (x + 1) _ M1 (by omega) (by omega) (by omega) f1 f2 hx f he (same (Or.inl q))
    case k3 =>
      intro _ q q2
      rw [x3] at q2
      rw [gv]
      obtain ⟨f1, f2⟩ := flag _ rfl
      exact ih (x + 1) _ M1 (by omega) (by omega) (by omega) f1 f2 hx f he (same (Or.inr q2))
    case k4 =>
      intro _ q q2 y hy
      rw [x3] at q2 hy ⊢
      have nmc := isNm_iff.mp q2
      have fs : zSm [60] M1 (si M1 60 (6 * (i : Int) + gI g x.toNat - 65).toNat 1) := zSm.rf.st (by decide)
      have hes : ∀ r, r < 6 → eM (si M1 60 (6 * (i : Int) + gI g x.toNat - 65).toNat 1) r = em r := fun r hr => by
        rw [← he r hr]
        unfold eM
        rw [gi_si_ne (by decide)]
      rw [gV_cg hes] at hy
      obtain ⟨f1, f2⟩ := flag y hy
      refine ih (x + 1) y _ (by omega) (by omega) (by omega) f1 f2 (hx.fr fs (by decide)) (f.tr fs) hes (fun r q hr hq => ?_)
      rw [gi_si_eq]
      by_cases w : 6 * r + q = (6 * (i : Int) + gI g x.toNat - 65).toNat
      · rw [if_pos w]
        refine ⟨fun _ => Or.inr ⟨by omega, x.toNat, by omega, by omega, fun j h1 h2 => hv2.mp (by omega) j h1 (by omega), q2, by omega⟩, fun _ => by decide⟩
      · rw [if_neg w, hL r q hr hq]
        refine ⟨fun z => z.imp id (fun ⟨e, k, h1, h2, h3⟩ => ⟨e, k, h1, by omega, h3⟩), fun z => z.imp id (fun ⟨e, k, h1, h2, h3, h4, h5⟩ => ⟨e, k, h1, ?_, h3, h4, h5⟩)⟩
        by_cases w2 : (k : Int) = x
        · exfalso
          rw [(by omega : x.toNat = k)] at w
          omega
        · omega
    case c10 => intro _ _ q; omega
    case c11 => intro _ _ q; rw [x3] at q ⊢; have := isNm_iff.mp q; omega
    case c12 => intro _ _ q; rw [x3] at q ⊢; have := isNm_iff.mp q; omega
    case c13 => intro _ _ q; rw [x3] at q ⊢; have := isNm_iff.mp q; omega
    all_goals (intros; first | omega | (rw [eb, x4] at *; omega))
end NM7
